/-! receipts: the class finds all rows -/
def rsN (T : NowD) (p he : Nat) (tu la : Int32) : NowD := (fun k q => if k = 1 then up1 (tur T) p tu q else if k = 3 then up1 (lat T) p la q else T.1 k q, fun q => if q = p then he else hel T q)
theorem NowC.rs {h : PH} {T : NowD} (e : NowC h 170 T) {p : Nat} (hp : p < 5) (he : Nat) (tu la : Int32) : ∃ h1 h2 h3, sA h 50 (some 171) (nI p) (.inl (nI he)) = some h1 ∧ sA h1 50 (some 172) (nI p) (.inl tu) = some h2 ∧ sA h2 50 (some 174) (nI p) (.inl la) = some h3 ∧ NowC h3 170 (rsN T p he tu la) ∧ Fr h h1 170 175 ∧ Fr h1 h2 170 175 ∧ Fr h2 h3 170 175 ∧ h1[170]? = h[170]? ∧ h2[170]? = h[170]? := by
  obtain ⟨u0, u1, u2, u3, u4⟩ := e
  obtain ⟨h5', k1, k2, k3⟩ := u1.set (p := p) (by omega) (by decide) (nI he)
  have w0 := (k3.2 170 (by omega)).trans u0
  have w2 := u2.fr k3 (by omega)
  have w3 := u3.fr k3 (by omega)
  have w4 := u4.fr k3 (by omega)
  obtain ⟨h6', l1, l2, l3⟩ := w2.set (p := p) (by omega) (by decide) tu
  have x0 := (l3.2 170 (by omega)).trans w0
  have x1 := k2.fr l3 (by omega)
  have x3 := w3.fr l3 (by omega)
  have x4 := w4.fr l3 (by omega)
  obtain ⟨h7', m1, m2, m3⟩ := x4.set (p := p) (by omega) (by decide) la
  have y0 := (m3.2 170 (by omega)).trans x0
  refine ⟨h5', h6', h7', k1, l1, m1, ⟨?_, ((x1.fr m3 (by omega)).eq ?_), ((l2.fr m3 (by omega)).gt ?_), ((x3.fr m3 (by omega)).gt ?_), (m2.gt ?_)⟩, k3.wd (by omega) (by omega), l3.wd (by omega) (by omega), m3.wd (by omega) (by omega), k3.2 170 (by omega), (l3.2 170 (by omega)).trans (k3.2 170 (by omega))⟩
  · rw [y0]
    simp [rsN, hou, sed, cme]
  · intro q _
    show up1 (fun p => nI (hel T p)) p (nI he) q = nI (if q = p then he else hel T q)
    unfold up1
    by_cases z : q = p <;> simp [z]
  · funext q; simp [rsN, tur]
  · funext q; simp [rsN, spe]
  · funext q; simp [rsN, lat]
def TOk (L : LawD) (p : Nat) (T : NowD) (he tu : Nat) (la : Int32) : Prop := hel T p = he ∧ tur T p = nI tu ∧ lat T p = la ∧ ∀ q, q < nP L → q ≠ p → hel T q < nC L ∧ tur T q = 0 ∧ lat T q = -2
def LaOk (L : LawD) (p m he tu : Nat) (la : Int32) : Prop := he < nC L ∧ ((tu = 0 ∧ la = -2) ∨ (0 < tu ∧ tu ≤ m ∧ ∃ k0, k0 < m ∧ cpe L k0 = p ∧ la = cho L k0))
section Q4
variable {L : LawD} {p k he tu m : Nat} {la : Int32} {T : NowD}
theorem TOk.ok (t : TOk L p T he tu la) (a : LaOk L p m he tu la) (lb : LawB L) (hm : m ≤ k) (hk : k < nQ L) (hk5 : nQ L ≤ 5) (hc : cpe L k = p) : NowOk L (set0 T 0 (cho L k)) := by
  intro q hq
  rw [s0_e, s0_t, s0_l, s0_h0]
  by_cases z : q = p
  · subst z
    obtain ⟨t1, t2, t3, -⟩ := t
    rw [t1, t2, t3]
    refine ⟨a.1, ?_⟩
    rcases a.2 with ⟨a1, a2⟩ | ⟨a1, a2, k0, a3, a4, a5⟩
    · left; rw [a1, a2]; exact ⟨rfl, rfl⟩
    · right
      obtain ⟨j0, j1, j2⟩ := lb.2.2.1 k0 (by omega)
      obtain ⟨i0, i1, i2⟩ := lb.2.2.1 k hk
      have lt := lb.2.2.2.2 k k0 (by omega) hk (by rw [a4, hc])
      rw [j2, i2] at lt
      have lt := (nI_ltI (by omega) (by omega)).mp lt
      refine ⟨?_, ?_, ?_⟩
      · rw [← nI_0]; exact nI_lt a1 (by omega)
      · rw [a5, j2]; intro w
        have := nI_pos (n := j0) (by omega)
        rw [w] at this
        exact this (by decide)
      · rw [a5, j2, i2, pk_sub (by omega)]; exact nI_pos' (by omega)
  · obtain ⟨b1, b2, b3⟩ := t.2.2.2 q hq z
    exact ⟨b1, Or.inl ⟨b2, b3⟩⟩
theorem TOk.tx (t : TOk L p T he tu la) (c : Nat) : taxN L (set0 T 0 (cho L k)) (-1) (third L) p c = rtS L p he tu la k c := by
  obtain ⟨t1, t2, t3, -⟩ := t
  unfold taxN agoS rtS
  rw [s0_e, s0_t, s0_l, s0_h0, t1, t2, t3]
theorem TOk.s0 (t : TOk L p T he tu la) (x : Int32) : TOk L p (set0 T 0 x) he tu la := by
  unfold TOk
  rw [s0_e, s0_t, s0_l]
  exact t
theorem TOk.mv (t : TOk L p T he tu la) (c : Nat) : TOk L p (movN T p c 0) c (tu + 1) (hou T) := by
  obtain ⟨t1, t2, t3, t4⟩ := t
  refine ⟨by simp [movN, hel], ?_, by simp [movN, lat, up1], fun q hq z => ?_⟩
  · rw [← nI_s, ← t2]; simp [movN, tur, up1]
  · obtain ⟨b1, b2, b3⟩ := t4 q hq z
    refine ⟨by simpa [movN, hel, z] using b1, ?_, ?_⟩
    · rw [← b2]; simp [movN, tur, up1, z]
    · rw [← b3]; simp [movN, lat, up1, z]
theorem TOk.rs {he1 tu1 : Nat} {la1 : Int32} (t : TOk L p T he1 tu1 la1) : TOk L p (rsN T p he (nI tu) la) he tu la := by
  obtain ⟨t1, t2, t3, t4⟩ := t
  refine ⟨by simp [rsN, hel], by simp [rsN, tur, up1], by simp [rsN, lat, up1], fun q hq z => ?_⟩
  obtain ⟨b1, b2, b3⟩ := t4 q hq z
  refine ⟨by simpa [rsN, hel, z] using b1, ?_, ?_⟩
  · rw [← b2]; simp [rsN, tur, up1, z]
  · rw [← b3]; simp [rsN, lat, up1, z]
end Q4
section Q5
variable {lw c p : Nat} {S : StD} {lv : Nat → Int32}
theorem ext_ok (o : SOk c S) (hp : p < nP (sL S)) : ∀ n j, j < n → j ≤ nQ (sL S) → ∀ h T R rw he tu la, RwS h lw S p T R lv rw (nQ (sL S) - j) → TOk (sL S) p T he tu la → LaOk (sL S) p (nQ (sL S) - j) he tu la → (∀ k, rw k < nC (sL S)) → R.1 + 5 ^ j ≤ 4000 → ∃ h1, F_Rows n h (some 177) (nI (nQ (sL S) - j)) = some h1 ∧ ∃ T1, RwS h1 lw S p T1 (dfR (sL S) p j he tu la rw R) lv rw (nQ (sL S) - j) ∧ TOk (sL S) p T1 he tu la ∧ Fr h h1 170 187 := by
  have lf := o.lfP hp
  have ok := o.ok lf
  have lb := (o.2.1 lf).2.1
  have h4 := ok.2.2.2.2.1
  have h5 := ok.2.2.1
  have h6 := ok.2.1
  intro n
  induction n with
  | zero => intro j hj; omega
  | succ n ih =>
    intro j hj hjq h T R rw he tu la e t a hrw hR
    obtain ⟨g0, g1, g2, g3, g4, g5, g6⟩ := e.g
    obtain ⟨r0, r1, r2, r3⟩ := e.1.2.2.2.1.2.2.2.2.2.2.2.2.2.1
    have ql := qx_le (L := sL S) (p := p) j
    have qn := qx_n (L := sL S) (p := p) j hjq
    have h0 : 1 ≤ 5 ^ j := Nat.pow_le_pow_right (n := 5) (by omega) (Nat.zero_le j)
    show ∃ h1, f_Rows_extend_ (F_Rows n) h (some 177) (nI (nQ (sL S) - j)) = some h1 ∧ _
    unfold f_Rows_extend_
    rw [g0, Option.bind_some, g5, Option.bind_some, g3, Option.bind_some, cl_o r0, cls_qn e.1.2.2.2.1 ok hp hjq, Option.bind_some, if_neg (nI_pos (by omega)), gI_o r0 rfl, Option.bind_some, df_qx j hjq]
    by_cases z : qxN (sL S) p j = nQ (sL S)
    · rw [if_pos z, z, if_neg (nI_nlt (Nat.le_refl _) (by omega))]
      have e' : RwS h lw S p T R lv rw (nQ (sL S)) := e.mono (fun k hk hc => by
        refine ⟨?_, rfl⟩
        apply Nat.lt_of_not_le
        intro w
        exact qn k w (by omega) hc)
      obtain ⟨h1, a1, a2, a3⟩ := cls_count e' ok hp (fun k hk _ => ⟨hk, hrw k⟩) (by omega)
      rw [e.cl, a1, Option.bind_some]
      exact ⟨h1, rfl, T, a2.mono (fun k hk hc => ⟨by omega, rfl⟩), t, a3.wd (by omega) (by omega)⟩
    · have hk : qxN (sL S) p j < nQ (sL S) := by omega
      have hc := qx_c j hjq hk
      rw [if_neg z, if_pos (nI_lt hk (by omega))]
      generalize hkk : qxN (sL S) p j = k at *
      obtain ⟨t1, t2, t3, t4⟩ := id t
      obtain ⟨n0, n1, n2, n3, n4⟩ := e.2.1
      have e1 : RwS h lw S p T R lv rw k := e.mono (fun k1 hk1 hc1 => by
        refine ⟨?_, rfl⟩
        apply Nat.lt_of_not_le
        intro w
        exact qn k1 w (by omega) hc1)
      have a' : LaOk (sL S) p k he tu la := by
        refine ⟨a.1, ?_⟩
        rcases a.2 with w | ⟨w1, w2, k0, w3, w4⟩
        · exact Or.inl w
        · exact Or.inr ⟨w1, by omega, k0, by omega, w4⟩
      have hj1 : nQ (sL S) - (nQ (sL S) - (k + 1)) = k + 1 := by omega
      have hpw : 5 ^ (nQ (sL S) - (k + 1)) * 5 ≤ 5 ^ j := by
        rw [← Nat.pow_succ]
        exact Nat.pow_le_pow_right (by omega) (by omega)
      have w3 : gR h 2 (some 170) 3 = some (some 171) := gR_o n0 rfl
      have w4 : gR h 2 (some 170) 4 = some (some 172) := gR_o n0 rfl
      have w6 : gR h 2 (some 170) 6 = some (some 174) := gR_o n0 rfl
      simp only [g2, g3, w3, w4, w6, n1.at (show p < 5 by omega) (by decide), n2.at (show p < 5 by omega) (by decide), n4.at (show p < 5 by omega) (by decide), Option.bind_some, t1, t2, t3]
      generalize hg : (fun (c : Nat) (R : RwD) => if gdB (sL S) p he tu la k c = true then dfR (sL S) p (nQ (sL S) - (k + 1)) c (tu + 1) (cho (sL S) k) (upN rw k c) R else R) = g
      have hgb : ∀ i, (foldN g i R).1 ≤ R.1 + i * 5 ^ (nQ (sL S) - (k + 1)) := by
        intro i
        induction i with
        | zero => show R.1 ≤ _; omega
        | succ i ihi =>
          show (g i (foldN g i R)).1 ≤ _
          rw [Nat.succ_mul]
          rw [← hg]
          dsimp only
          rw [hg]
          split
          · have := df_bd (L := sL S) (p := p) h6 (nQ (sL S) - (k + 1)) i (tu + 1) (cho (sL S) k) (upN rw k i) (foldN g i R)
            omega
          · omega
      refine exB (f := fun h9 => h9) (R := fun h9 => ∃ T1, RwS h9 lw S p T1 (foldN g (nC (sL S)) R) lv rw (nQ (sL S) - j) ∧ TOk (sL S) p T1 he tu la ∧ Fr h h9 170 187) (fun x => ∃ T1, RwS x lw S p T1 (foldN g (nC (sL S)) R) lv rw k ∧ TOk (sL S) p T1 he tu la ∧ Fr h x 170 187) (pj_inv (fun i s => s.1 = nI i ∧ ∃ T1, RwS s.2 lw S p T1 (foldN g i R) lv rw k ∧ TOk (sL S) p T1 he tu la ∧ Fr h s.2 170 187) _ (nC (sL S)) (by omega) ⟨rfl, T, e1, t, Fr.rf⟩ ?_ ?_) ?_
      · rintro i ⟨s1, s2⟩ hi ⟨x1, T2, x2, x3, x4⟩
        dsimp only at x1 x2 x4 ⊢
        subst x1
        left
        obtain ⟨f0, f1, f2, f3, f4, f5, f6⟩ := x2.g
        obtain ⟨m0, m1, m2, m3⟩ := x2.1.2.2.2.1.2.2.2.2.2.2.2.2.2.1
        obtain ⟨h2, b1, b2, b3⟩ := x2.2.1.s0 (j := 0) (by omega) (cho (sL S) k)
        have y2 := x2.tl (b3.wd (by omega) (by omega)) b2
        have y3 := x3.s0 (cho (sL S) k)
        rw [f0, Option.bind_some, f6, Option.bind_some, if_neg (nI_nle' hi (by omega)), f2, Option.bind_some, gR_o m0 rfl, Option.bind_some, m3.at (by omega) (by decide), Option.bind_some, b1, Option.bind_some, nI_s]
        have eg : foldN g (i + 1) R = if gdB (sL S) p he tu la k i = true then dfR (sL S) p (nQ (sL S) - (k + 1)) i (tu + 1) (cho (sL S) k) (upN rw k i) (foldN g i R) else foldN g i R := by
          show g i (foldN g i R) = _
          rw [← hg]
        have hb := hgb i
        have hh := a.1
        by_cases w1 : i = he
        · rw [if_pos (by rw [w1])]
          refine ⟨_, rfl, rfl, _, ?_, y3, x4.tr (b3.wd (by omega) (by omega))⟩
          dsimp only
          rw [eg, if_neg (by unfold gdB; simp [w1])]
          exact y2
        · rw [if_neg (fun w => w1 ((nI_eq (by omega) (by omega)).mp w))]
          obtain ⟨f0, f1, f2, f3, f4, f5, f6⟩ := y2.g
          obtain ⟨m0, m1, m2, m3⟩ := y2.1.2.2.2.1.2.2.2.2.2.2.2.2.2.1
          rw [f1, Option.bind_some, f3, Option.bind_some, cl_o y2.2.2.1, cls_tax y2.2.2.1.v (y2.1.lv ok) ok (y2.2.1.v h5) (x3.ok a' lb (Nat.le_refl k) hk h4 hc) hp hi, Option.bind_some, gR_o m0 rfl, Option.bind_some, m2.at (by omega) (by decide), Option.bind_some, x3.tx]
          by_cases w2 : rtS (sL S) p he tu la k i = cam (sL S) k
          · rw [if_neg (fun w => w w2), f2, Option.bind_some, Option.bind_some]
            obtain ⟨h3, c1, c2, c3⟩ := cls_move (c := i) y2.2.1 (show p < 5 by omega) 0
            have z2 := y2.tl c3 c2
            have z3 := y3.mv i
            rw [cl_o y2.2.1.1, c1, Option.bind_some, z2.g5.2.2.1, Option.bind_some]
            obtain ⟨p0, p1, p2, ⟨ra, p3, p4⟩, p5, p6⟩ := z2.2.2.2
            obtain ⟨h4', d1, d2, d3⟩ := p3.set (p := k) (by omega) (by decide) (nI i)
            have v2 : RwS h4' lw S p (movN (set0 T2 0 (cho (sL S) k)) p i 0) (foldN g i R) lv (upN rw k i) (k + 1) := by
              refine z2.rp (d3.wd (by omega) (by omega)) ⟨p0.fr d3 (by omega), ?_, p2.fr d3 (by omega), ⟨_, d2, fun k1 hk1 hc1 => ?_⟩, p5.fr d3 (by omega), fun k1 hk1 => (p6 k1 hk1).fr d3 (by omega)⟩
              · obtain ⟨fr, q1, q2⟩ := p1
                exact ⟨fr, q1.fr d3 (by omega), q2⟩
              · unfold up1 upN
                by_cases w : k1 = k
                · rw [if_pos w, if_pos w]
                · rw [if_neg w, if_neg w]; exact p4 k1 (by omega) hc1
            rw [d1, Option.bind_some, v2.cl]
            rw [s0_h0] at z3
            have ihh := ih (nQ (sL S) - (k + 1)) (by omega) (by omega) h4' _ (foldN g i R) (upN rw k i) i (tu + 1) (cho (sL S) k) (by rw [hj1]; exact v2) z3 (by
              refine ⟨hi, Or.inr ⟨by omega, ?_, k, by omega, hc, rfl⟩⟩
              rcases a'.2 with w | w
              · omega
              · omega) (fun q => by unfold upN; split; exact hi; exact hrw q) (by
              have : i * 5 ^ (nQ (sL S) - (k + 1)) + 5 ^ (nQ (sL S) - (k + 1)) ≤ 5 ^ (nQ (sL S) - (k + 1)) * 5 := by
                rw [← Nat.succ_mul, Nat.mul_comm]
                exact Nat.mul_le_mul_left _ (by omega)
              omega)
            rw [hj1] at ihh
            obtain ⟨h5', i1, T3, i2, i3, i4⟩ := ihh
            rw [nI_s, i1, Option.bind_some]
            obtain ⟨q1, q2, q3, k1, k2, k3, k4, k5, k6, k7, k8, k9⟩ := i2.2.1.rs (show p < 5 by omega) he (nI tu) la
            have RP := i2.2.2.2.1
            have RP1 := RP.fr k5 (by omega)
            have RP2 := RP1.fr k6 (by omega)
            have N0 := i2.2.1.1
            have N1 := k8.trans N0
            have N2 := k9.trans N0
            rw [RP.gr (x := some 170) (by omega) rfl, Option.bind_some, gR_o N0 rfl, Option.bind_some, RP.gi (x := nI p) (by omega) rfl, Option.bind_some, k1, Option.bind_some, RP1.gr (x := some 170) (by omega) rfl, Option.bind_some, gR_o N1 rfl, Option.bind_some, RP1.gi (x := nI p) (by omega) rfl, Option.bind_some, k2, Option.bind_some, RP2.gr (x := some 170) (by omega) rfl, Option.bind_some, gR_o N2 rfl, Option.bind_some, RP2.gi (x := nI p) (by omega) rfl, Option.bind_some, k3, Option.bind_some]
            have FF := (k5.tr k6).tr k7
            refine ⟨_, rfl, rfl, _, ?_, i3.rs, ((((x4.tr (b3.wd (by omega) (by omega))).tr (c3.wd (by omega) (by omega))).tr (d3.wd (by omega) (by omega))).tr i4).tr (FF.wd (by omega) (by omega))⟩
            dsimp only
            rw [eg, if_pos (by unfold gdB; simp [w1, w2])]
            refine (i2.tl FF k4).mono (fun k1 hk1 hc1 => ⟨by omega, ?_⟩)
            unfold upN
            rw [if_neg (by omega)]
          · rw [if_pos w2]
            refine ⟨_, rfl, rfl, _, ?_, y3, x4.tr (b3.wd (by omega) (by omega))⟩
            dsimp only
            rw [eg, if_neg (by unfold gdB; simp [w2])]
            exact y2
      · rintro ⟨s1, s2⟩ ⟨x1, T2, x2, x3, x4⟩
        dsimp only at x1 x2 x4 ⊢
        subst x1
        rw [x2.g.1, Option.bind_some, x2.g.2.2.2.2.2.2, Option.bind_some, if_pos (nI_le (Nat.le_refl _) (by omega))]
        exact ⟨_, rfl, T2, x2, x3, x4⟩
      · rintro x ⟨T1, x2, x3, x4⟩
        exact ⟨x, rfl, T1, x2.mono (fun k1 hk1 hc1 => ⟨by omega, rfl⟩), x3, x4⟩
/-- all rows of one -/
theorem cls_gather {h : PH} (e : CI h lw S) (o : SOk c S) (hp : p < nP (sL S)) (hv : Fu h 179 5 lv) : ∃ h1 T1, Jvm.Pilot.CWaverTaxLaw_law_r8537_6f3a17.cl h 8 (some 177) (f_Rows_gather h (some 177) (some lw) (nI p)) = some h1 ∧ RwS h1 lw S p T1 (RS (sL S) p) lv (fun _ => 0) 0 ∧ Fr h h1 100 285 := by
  have lf := o.lfP hp
  have ok := o.ok lf
  have lb := (o.2.1 lf).2.1
  have h4 := ok.2.2.2.2.1
  have h5 := ok.2.2.1
  have h6 := ok.2.1
  have hl := e.1
  have hne := e.lw_ne
  obtain ⟨⟨T, sT⟩, ⟨da, db, dx, dy, sd⟩, sp, F, r0, r1, r2, r3, r4, r5, r6, ⟨f1, r7⟩, -, ⟨f3, r9⟩, r10, r11⟩ := e.2.2.2.2.2.2.2.1
  obtain ⟨h1, a1, a2, a3⟩ := r0.set (k := 0) (by omega) (.inr (.inr (some lw)))
  obtain ⟨h2, b1, b2, b3⟩ := a2.set (k := 3) (by omega) (.inl (nI p))
  obtain ⟨h3, c1, c2, c3⟩ := b2.set (k := 4) (by omega) (.inl (nI 0))
  have F3 := (a3.tr b3).tr c3
  have s0 : Fo h3 177 8 9 (rwF lw p 0) := c2.gt (fun k hk => by
    have : k = 0 ∨ k = 1 ∨ k = 2 ∨ k = 3 ∨ k = 4 ∨ k = 5 ∨ k = 6 ∨ k = 7 ∨ k = 8 := by omega
    rcases this with rfl | rfl | rfl | rfl | rfl | rfl | rfl | rfl | rfl <;> simp [upF, rwF, r1, r2, r3, r4, r5, r6])
  unfold f_Rows_gather
  rw [cl_o r0, a1, Option.bind_some, b1, Option.bind_some, show (0 : Int32) = nI 0 from rfl, c1, Option.bind_some]
  obtain ⟨x, l1, l2, l3⟩ := pj_inv (step := fun s4 : Int32 × PH => if (5 : Int32) ≤ s4.1 then (some (.inr s4.2) : Option ((Int32 × PH) ⊕ PH)) else ((gR s4.2 8 (some 177) 8).bind fun v6 => (aR s4.2 53 v6 s4.1).bind fun v7 => (f_Arrays_fill s4.2 v7 (nI 0)).bind fun h8 => some (.inl ((s4.1 + (1 : Int32)), h8)))) (fun i s => s.1 = nI i ∧ (∀ k, k < 5 → ∃ f, Fu s.2 (182 + k) 5 f ∧ (k < i → ∀ q, f q = nI 0)) ∧ Fr h3 s.2 182 187) (fun y => (∀ k, k < 5 → Fu y (182 + k) 5 (fun _ => nI 0)) ∧ Fr h3 y 182 187) 5 (s0 := (nI 0, h3)) (by omega) ⟨rfl, fun k hk => ⟨_, (r11 k hk).choose_spec.fr F3 (by omega), fun q => absurd q (Nat.not_lt_zero k)⟩, Fr.rf⟩ (by
      rintro i ⟨s1, s2⟩ hi ⟨x1, x2, x3⟩
      dsimp only at x1 x2 x3 ⊢
      subst x1
      left
      obtain ⟨f, y1, -⟩ := x2 i hi
      obtain ⟨h8, w1, w2, w3⟩ := y1.fill (by omega) (nI 0)
      have r10' : Fo s2 181 53 5 (fun k => .inr (.inr (some (182 + k)))) := (r10.fr F3 (by omega)).fr x3 (by omega)
      rw [if_neg (show ¬ (5 : Int32) ≤ nI i from nI_nle' (b := 5) hi (by omega)), (s0.fr x3 (by omega)).gr (x := some 181) (by omega) rfl, Option.bind_some, r10'.aR (k := i) (x := some (182 + i)) (by omega) (by decide) rfl, Option.bind_some, w1, Option.bind_some, nI_s]
      refine ⟨_, rfl, rfl, fun k hk => ?_, x3.tr (w3.wd (by omega) (by omega))⟩
      by_cases z : k = i
      · subst z
        exact ⟨_, w2, fun _ _ => rfl⟩
      · obtain ⟨f9, v1, v2⟩ := x2 k hk
        exact ⟨f9, v1.fr w3 (by omega), fun q => v2 (by omega)⟩) (by
      rintro ⟨s1, s2⟩ ⟨x1, x2, x3⟩
      dsimp only at x1 x2 x3 ⊢
      subst x1
      rw [if_pos (show (5 : Int32) ≤ nI 5 by decide)]
      refine ⟨_, rfl, fun k hk => ?_, x3⟩
      obtain ⟨f9, v1, v2⟩ := x2 k hk
      exact v1.eq (fun q _ => v2 hk q))
  rw [l1, Option.bind_some]
  have FX := (F3.wd (lo1 := 177) (hi1 := 187) (by omega) (by omega)).tr (l3.wd (by omega) (by omega))
  have RP : RwP x lw (sL S) p R0 lv (fun _ => 0) 0 := ⟨s0.fr l3 (by omega), ⟨f1, (r7.fr F3 (by omega)).fr l3 (by omega), fun q => absurd q (Nat.lt_irrefl 0)⟩, (hv.fr F3 (by omega)).fr l3 (by omega), ⟨f3, (r9.fr F3 (by omega)).fr l3 (by omega), fun k hk => absurd hk (Nat.not_lt_zero k)⟩, (r10.fr F3 (by omega)).fr l3 (by omega), fun k hk => l2 k hk⟩
  have nx := FX.lc (NowC.lc 170 T) (by omega) sT
  have lx := FX.lc (LawC.lc lw (sL S)) (by omega) e.2.2.2.1
  obtain ⟨h4x, d1, d2, d3⟩ := cls_begin nx lx (by omega)
  have dk := DeskC.fr (DeskC.fr sd FX (by omega)) d3 (by omega)
  have l4 := d3.lc (LawC.lc lw (sL S)) (by omega) lx
  obtain ⟨h5', k1, k2, k3⟩ := cls_look (nw := 170) (th := third (sL S)) dk (gI_o l4.1 rfl) hne
  have RP4 := d3.lc RwP.lc (by omega) RP
  have RP5 := k3.lc RwP.lc (by omega) RP4
  have FA : Fr h h5' 170 187 := ((FX.wd (by omega) (by omega)).tr (d3.wd (by omega) (by omega))).tr (k3.wd (by omega) (by omega))
  have RS0 : RwS h5' lw S p (bgN (sL S)) R0 lv (fun _ => 0) 0 := RwS.mk' e FA (by rw [k3.2 _ (by omega), d3.2 _ (by omega), FX.2 _ (by omega)]) (k3.lc (NowC.lc _ _) (by omega) d2) k2 RP5
  have RS1 : RwS h5' lw S p (bgN (sL S)) R0 lv (fun _ => 0) (nQ (sL S) - nQ (sL S)) := by rw [Nat.sub_self]; exact RS0
  have p5 : 5 ^ nQ (sL S) ≤ 5 ^ 5 := Nat.pow_le_pow_right (by omega) h4
  have hf := ok.2.2.2.2.2.2.1
  obtain ⟨h6', m1, T1, m2, m3, m4⟩ := ext_ok o hp 22 (nQ (sL S)) (by omega) (Nat.le_refl _) h5' _ _ _ (frs (sL S) p) 0 (-2) RS1 ⟨rfl, by simp [bgN, tur, nI_0], by simp [bgN, lat], fun q hq _ => ⟨hf q hq, by simp [bgN, tur], by simp [bgN, lat]⟩⟩ ⟨hf p hp, Or.inl ⟨rfl, rfl⟩⟩ (fun _ => by have := ok.1; omega) (by show 0 + 5 ^ nQ (sL S) ≤ 4000; omega)
  rw [Nat.sub_self] at m1 m2
  refine ⟨h6', T1, ?_, m2, (FA.tr m4).wd (by omega) (by omega)⟩
  rw [RP.1.gr (x := some 170) (by omega) rfl, Option.bind_some, cl_o nx.1, d1, Option.bind_some, RP4.1.gr (x := some 175) (by omega) rfl, Option.bind_some, RP4.1.gr (x := some 170) (by omega) rfl, Option.bind_some, cl_o dk, k1, Option.bind_some, cl_o RP5.1]
  unfold f_Rows_extend
  rw [m1, Option.bind_some]
end Q5
