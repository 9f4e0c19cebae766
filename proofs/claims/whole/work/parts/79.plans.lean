/-! plans, as the class makes them -/
theorem exB {X Y Z : Type} {e : Option X} {K : X → Option Y} {f : Z → Y} {R : Z → Prop} (Q : X → Prop) (h : ∃ x, e = some x ∧ Q x) (k : ∀ x, Q x → ∃ s, K x = some (f s) ∧ R s) : ∃ s, e.bind K = some (f s) ∧ R s := by
  obtain ⟨x, rfl, q⟩ := h
  exact k x q
def pwI : Nat → Int64
  | 0 => 1
  | k + 1 => pwI k * 100
/-- how many reasons of one have an hour behind and ahead -/
def btN (L : LawD) (p : Nat) (hr le : Int32) (m : Nat) : Nat := foldN (fun r a => if rpe L r = p ∧ hr < rho L r ∧ rho L r < hr + le then a + 1 else a) m 0
/-- the mean over reasons that may come at an hour; j are left -/
def chN (L : LawD) (p : Nat) (hr : Int32) (g : Nat → Int64) : Nat → Nat → Int64
  | 0, b => g b
  | j + 1, b => if rpe L (nR L - (j + 1)) = p ∧ rho L (nR L - (j + 1)) = hr then (rod L (nR L - (j + 1))).toInt64 * chN L p hr g j (b ||| 2 ^ (nR L - (j + 1))) + (100 - (rod L (nR L - (j + 1))).toInt64) * chN L p hr g j b else chN L p hr g j b
def bsF (L : LawD) (p : Nat) (g : NowD → Nat → Int64) (T : NowD) : Int64 := foldN (fun c a => if a < g T c then g T c else a) (nC L) (g T (hel T p))
def stN (T : NowD) (p c : Nat) : NowD := set0 (if c = hel T p then T else movN T p c 0) 0 (hou T + 1)
def plS (L : LawD) (p : Nat) : Nat → NowD → Nat → Int64
  | 0, T, c => (lefS L T (-1) (third L) p c).toInt64
  | m + 1, T, c => (lefS L T (-1) (third L) p c).toInt64 * pwI (btN L p (hou T) (nI (m + 2)) (nR L)) + chN L p (hou T + 1) (fun b => bsF L p (plS L p m) (set0 (stN T p c) 2 (nI b))) (nR L) (cme T).toNatClampNeg
/-- the first choice of the best plan -/
def bfF (L : LawD) (p : Nat) (g : NowD → Nat → Int64) (T : NowD) : Nat → Nat × Int64
  | 0 => (hel T p, g T (hel T p))
  | c + 1 => if (bfF L p g T c).2 < g T c then (c, g T c) else bfF L p g T c
theorem bf_bs {L : LawD} {p : Nat} {g : NowD → Nat → Int64} {T : NowD} : ∀ n, (bfF L p g T n).2 = foldN (fun c a => if a < g T c then g T c else a) n (g T (hel T p))
  | 0 => rfl
  | n + 1 => by
    show (if (bfF L p g T n).2 < g T n then (n, g T n) else bfF L p g T n).2 = (if foldN (fun c a => if a < g T c then g T c else a) n (g T (hel T p)) < g T n then g T n else foldN (fun c a => if a < g T c then g T c else a) n (g T (hel T p)))
    rw [← bf_bs (L := L) n]
    split <;> rfl
theorem bf_ge {L : LawD} {p : Nat} {g : NowD → Nat → Int64} {T : NowD} : ∀ n, ¬ (bfF L p g T n).2 < g T (hel T p) ∧ ∀ c, c < n → ¬ (bfF L p g T n).2 < g T c
  | 0 => ⟨Int64.lt_irrefl, fun c hc => absurd hc (Nat.not_lt_zero c)⟩
  | n + 1 => by
    obtain ⟨a, b⟩ := bf_ge (L := L) (p := p) (g := g) (T := T) n
    unfold bfF
    by_cases z : (bfF L p g T n).2 < g T n
    · rw [if_pos z]
      refine ⟨fun q => a (Int64.lt_trans z q), fun c hc => ?_⟩
      by_cases y : c = n
      · subst y; exact Int64.lt_irrefl
      · exact fun q => b c (by omega) (Int64.lt_trans z q)
    · rw [if_neg z]
      refine ⟨a, fun c hc => ?_⟩
      by_cases y : c = n
      · subst y; exact z
      · exact b c (by omega)
section L1
variable {L : LawD} {T N : NowD} {p c B : Nat}
theorem st_h : hou (stN T p c) = hou T + 1 := s0_h0
theorem st_ok {d : Nat} (g : NowG B c L T) (hp : p < nP L) (hd : d < nC L) (hB : B < 2000) : NowG (B + 1) (c + 1) L (stN T p d) := by
  have key : ∀ M, NowG B (c + 1) L M → hou M = hou T → NowG (B + 1) (c + 1) L (set0 M 0 (hou T + 1)) := by
    intro M g eh
    obtain ⟨⟨j, hj, ej⟩, g2, ⟨b, b1, b2, b3⟩, g4, g5⟩ := g
    have e1 : hou T + 1 = nI (j + 1) := by rw [← eh, ej, nI_s]
    refine ⟨⟨j + 1, by omega, by rw [s0_h0, e1]⟩, by rw [s0_s0]; exact g2, ⟨b, b1, by rw [s0_c0]; exact b2, fun k hk => ?_⟩, fun q hq => ?_, fun q h1 h2 => by rw [s0_p]; exact g5 q h1 h2⟩
    · rw [s0_h0, e1]
      have := b3 k hk
      rw [ej] at this
      exact Int32.le_trans this (nI_le (by omega) (by omega))
    · rw [s0_t, s0_l, s0_h0, s0_e]
      refine ⟨(g4 q hq).1, ?_⟩
      rcases (g4 q hq).2 with y | ⟨t, j0, j1, t1, t2, y1, y2, y3, y4, y5⟩
      · exact Or.inl y
      · have : j1 = j := (nI_eq (by omega) (by omega)).mp (y3.symm.trans ej)
        exact Or.inr ⟨t, j0, j + 1, t1, t2, y1, y2, e1, by omega, by omega⟩
  unfold stN
  split
  · exact key T (g.mono (Nat.le_refl _) (by omega)) rfl
  · exact key _ (mov_ok g hp hd) (by simp [movN, hou])
theorem bit_ok {b r : Nat} (g : NowG B c L T) (hb : b < 2 ^ nR L) (hr : r < nR L) (eb : cme T = nI b) (er : rho L r = hou T) (h4 : nR L ≤ 4) : NowG B c L (set0 T 2 (nI (b ||| 2 ^ r))) := by
  obtain ⟨g1, g2, ⟨b0, b1, b2, b3⟩, g4, g5⟩ := g
  have h16 : 2 ^ nR L ≤ 2 ^ 4 := Nat.pow_le_pow_right (by omega) h4
  have : b0 = b := (nI_eq (by omega) (by omega)).mp (b2.symm.trans eb)
  subst this
  refine ⟨by rw [s0_h2]; exact g1, by rw [s0_s2]; exact g2, ⟨b0 ||| 2 ^ r, Nat.or_lt_two_pow b1 (Nat.pow_lt_pow_right (by omega) hr), s0_c2, fun k hk => ?_⟩, fun q hq => by rw [s0_t, s0_l, s0_h2, s0_e]; exact g4 q hq, fun q h1 h2 => by rw [s0_p]; exact g5 q h1 h2⟩
  rw [s0_h2]
  rw [Nat.testBit_or, Bool.or_eq_true] at hk
  rcases hk with hk | hk
  · exact b3 k hk
  · rw [Nat.testBit_two_pow] at hk
    have : r = k := by simpa using hk
    subst this
    rw [er]
    exact Int32.le_refl _
theorem s0_22 {x y : Int32} : set0 (set0 T 2 x) 2 y = set0 T 2 y := by
  unfold set0
  congr 1
  funext k q
  dsimp only
  split <;> rfl
theorem s0_2s : set0 T 2 (cme T) = T := by
  unfold set0
  obtain ⟨T1, T2⟩ := T
  congr 1
  funext k q
  dsimp only
  split
  · rename_i h
    rw [h.1, h.2]
  · rfl
/-- the next reason -/
def nxN (L : LawD) (p : Nat) (hr : Int32) : Nat → Nat
  | 0 => nR L
  | j + 1 => if rpe L (nR L - (j + 1)) = p ∧ rho L (nR L - (j + 1)) = hr then nR L - (j + 1) else nxN L p hr j
theorem nx_le {hr : Int32} : ∀ j, nR L - j ≤ nxN L p hr j ∧ nxN L p hr j ≤ nR L
  | 0 => ⟨by show nR L - 0 ≤ nR L; omega, Nat.le_refl _⟩
  | j + 1 => by
    have ih := nx_le (hr := hr) j
    unfold nxN
    split
    · omega
    · omega
theorem ch_nx {hr : Int32} {g : Nat → Int64} : ∀ j, j ≤ nR L → ∀ b, chN L p hr g j b = if nxN L p hr j = nR L then g b else (rod L (nxN L p hr j)).toInt64 * chN L p hr g (nR L - (nxN L p hr j + 1)) (b ||| 2 ^ nxN L p hr j) + (100 - (rod L (nxN L p hr j)).toInt64) * chN L p hr g (nR L - (nxN L p hr j + 1)) b
  | 0, _, b => by
    show g b = _
    rw [if_pos (show nxN L p hr 0 = nR L from rfl)]
  | j + 1, hj, b => by
    have ih := ch_nx (hr := hr) (g := g) j (by omega) b
    by_cases z : rpe L (nR L - (j + 1)) = p ∧ rho L (nR L - (j + 1)) = hr
    · rw [show nxN L p hr (j + 1) = nR L - (j + 1) from if_pos z, if_neg (by omega), show nR L - (nR L - (j + 1) + 1) = j by omega]
      exact if_pos z
    · rw [show nxN L p hr (j + 1) = nxN L p hr j from if_neg z, ← ih]
      exact if_neg z
theorem nx_c {hr : Int32} : ∀ j, j ≤ nR L → nxN L p hr j < nR L → rpe L (nxN L p hr j) = p ∧ rho L (nxN L p hr j) = hr
  | 0, _, h => absurd h (by show ¬ nR L < nR L; omega)
  | j + 1, hj, h => by
    by_cases z : rpe L (nR L - (j + 1)) = p ∧ rho L (nR L - (j + 1)) = hr
    · rw [show nxN L p hr (j + 1) = nR L - (j + 1) from if_pos z]; exact z
    · rw [show nxN L p hr (j + 1) = nxN L p hr j from if_neg z] at h ⊢
      exact nx_c j (by omega) h
end L1
/-- the planner at work -/
def plF (lw p : Nat) : Nat → PV := fun k => if k = 0 then .inr (.inr (some lw)) else if k = 1 then .inr (.inr (some 175)) else if k = 2 then .inr (.inr (some 170)) else .inl (nI p)
def PlS (h : PH) (lw : Nat) (S : StD) (p : Nat) (T : NowD) : Prop := CI h lw S ∧ NowC h 170 T ∧ DeskC h (some lw) (some 170) (-1) (third (sL S)) ∧ Fo h 176 4 4 (plF lw p)
section L2
variable {h h1 : PH} {lw c p B : Nat} {S : StD} {T T1 : NowD}
theorem PlS.tl (e : PlS h lw S p T) (f : Fr h h1 170 175) (n : NowC h1 170 T1) : PlS h1 lw S p T1 := ⟨e.1.tl f n, n, e.2.2.1.fr f (by omega), e.2.2.2.fr f (by omega)⟩
theorem PlS.g (e : PlS h lw S p T) : gR h 4 (some 176) 0 = some (some lw) ∧ gR h 4 (some 176) 1 = some (some 175) ∧ gR h 4 (some 176) 2 = some (some 170) ∧ gI h 4 (some 176) 3 = some (nI p) ∧ gR h 1 (some lw) 10 = some (some (lw + 16)) := ⟨e.2.2.2.gr (by omega) rfl, e.2.2.2.gr (by omega) rfl, e.2.2.2.gr (by omega) rfl, e.2.2.2.gi (by omega) rfl, gR_o e.1.2.2.2.1.1 rfl⟩
theorem PlS.cl {X : Type} (e : PlS h lw S p T) (o : Option X) : cl h 4 (some 176) o = o := cl_o e.2.2.2 o
theorem cls_btw {L : LawD} {hr le : Int32} (l : LawC h lw L) (ok : LawOk L) (hp : p < nP L) : f_Reasons_between h (some (lw + 16)) (nI p) hr (hr + le) = some (nI (btN L p hr le (nR L))) := by
  have h4 := ok.2.2.2.1
  have h5 := ok.2.2.1
  obtain ⟨⟨r0, r1, -, r3, -, -⟩, -⟩ := l.2.2.2.2.2.2.2.2
  unfold f_Reasons_between
  rw [pj_for' (fun i => (nI (btN L p hr le i), nI i)) (nI (btN L p hr le (nR L))) (nR L) (by rw [nI_0]; rfl) (by omega) ?_ ?_]
  · rfl
  · intro i hi
    have q1 := (ok.2.2.2.2.2.2.2.1 i hi).1
    dsimp only
    rw [gI_o r0 rfl, Option.bind_some, if_neg (nI_nle' hi (by omega)), gR_o r0 rfl, Option.bind_some, r1.at (by omega) (by decide), Option.bind_some, gR_o r0 rfl, Option.bind_some, r3.at (by omega) (by decide), Option.bind_some, nI_s]
    show _ = some (Sum.inl (nI (if rpe L i = p ∧ hr < rho L i ∧ rho L i < hr + le then btN L p hr le i + 1 else btN L p hr le i), nI (i + 1)))
    by_cases z1 : rpe L i = p
    · rw [if_neg (by rw [z1]; exact fun q => q rfl)]
      by_cases z2 : hr < rho L i
      · rw [if_neg (Int32.not_le.mpr z2), Option.bind_some, r3.at (by omega) (by decide), Option.bind_some]
        by_cases z3 : rho L i < hr + le
        · rw [if_neg (Int32.not_le.mpr z3), if_pos ⟨z1, z2, z3⟩, nI_s]
        · rw [if_pos (Int32.not_lt.mp z3), if_neg (fun q => z3 q.2.2)]
      · rw [if_pos (Int32.not_lt.mp z2), if_neg (fun q => z2 q.2.1)]
    · rw [if_pos (fun q => z1 ((nI_eq (by omega) (by omega)).mp q)), if_neg (fun q => z1 q.1)]
  · dsimp only
    rw [gI_o r0 rfl, Option.bind_some, if_pos (nI_le (Nat.le_refl _) (by omega))]
theorem bt_le {L : LawD} {hr le : Int32} : ∀ m, btN L p hr le m ≤ m
  | 0 => Nat.le_refl _
  | m + 1 => by
    have ih := bt_le (L := L) (hr := hr) (le := le) m
    rw [show btN L p hr le (m + 1) = (if rpe L m = p ∧ hr < rho L m ∧ rho L m < hr + le then btN L p hr le m + 1 else btN L p hr le m) from rfl]
    split <;> omega
theorem pw_loop {b : Nat} (hb : b < 4000) : pj_it (X := Int64) (fun s9 : Int64 × Int32 => if nI b ≤ s9.2 then (some (.inr s9.1)) else (some (.inl ((s9.1 * (100 : Int64)), (s9.2 + (1 : Int32)))))) FU ((1 : Int64), (0 : Int32)) = some (pwI b) := by
  refine pj_for' (fun i => (pwI i, nI i)) (pwI b) b (by rw [nI_0]; rfl) (by omega) ?_ ?_
  · intro i hi
    dsimp only
    rw [if_neg (nI_ge hi (by omega)), nI_s]
    rfl
  · dsimp only
    rw [if_pos (nI_le (Nat.le_refl _) (by omega))]
theorem PlS.sc (e : PlS h lw S p T) (ok : LawOk (sL S)) (hp : p < nP (sL S)) (le : Int32) : f_Planner_scale h (some 176) le = some (pwI (btN (sL S) p (hou T) le (nR (sL S)))) := by
  obtain ⟨g0, g1, g2, g3, g4⟩ := e.g
  have h4 := ok.2.2.2.1
  have := bt_le (L := sL S) (p := p) (hr := hou T) (le := le) (nR (sL S))
  have r0 := (e.1.2.2.2.1.2.2.2.2.2.2.2.2).1.1
  unfold f_Planner_scale
  rw [g0, Option.bind_some, g4, Option.bind_some, g3, Option.bind_some, g2, Option.bind_some, gI_o e.2.1.1 rfl, Option.bind_some, Option.bind_some, gI_o e.2.1.1 rfl, Option.bind_some, cl_o r0, cls_btw e.1.2.2.2.1 ok hp, Option.bind_some, pw_loop (by omega), Option.bind_some]
theorem PlS.lf (e : PlS h lw S p T) (ok : LawOk (sL S)) (okT : NowOk (sL S) T) (hp : p < nP (sL S)) {d : Nat} (hd : d < nC (sL S)) : Jvm.Pilot.CWaverTaxLaw_law_r8537_6f3a17.cl h 0 (some 175) (f_Desk_leftOf h (some 175) (nI p) (nI d)) = some (lefS (sL S) T (-1) (third (sL S)) p d) := by
  rw [cl_o e.2.2.1, cls_left e.2.2.1.v (e.1.lv ok) ok (e.2.1.v ok.2.2.1) okT hp hd]
/-- what is right of by, left being m + 1 -/
def ByOk (lw : Nat) (S : StD) (p m F : Nat) : Prop := ∀ h T B c d, PlS h lw S p T → NowG B c (sL S) T → B + m < 2000 → c + m < 2000 → d < nC (sL S) → ∃ h1, (F_Planner F).2.1 h (some 176) (nI d) (nI (m + 1)) = some (plS (sL S) p m T d, h1) ∧ PlS h1 lw S p T ∧ Fr h h1 100 285
def BsOk (lw : Nat) (S : StD) (p m F : Nat) : Prop := ∀ h T B c, PlS h lw S p T → NowG B c (sL S) T → B + m < 2000 → c + m < 2000 → ∃ h1, (F_Planner F).1 h (some 176) (nI (m + 1)) = some (bsF (sL S) p (plS (sL S) p m) T, h1) ∧ PlS h1 lw S p T ∧ Fr h h1 100 285
def ChOk (lw : Nat) (S : StD) (p m j F : Nat) : Prop := ∀ h T B c b, PlS h lw S p T → NowG B c (sL S) T → B + m < 2000 → c + m < 2000 → cme T = nI b → b < 2 ^ nR (sL S) → (∀ k, b.testBit k = true → rho (sL S) k < hou T ∨ k < nR (sL S) - j) → ∃ h1, (F_Planner F).2.2 h (some 176) (nI (nR (sL S) - j)) (nI (m + 1)) = some (chN (sL S) p (hou T) (fun b => bsF (sL S) p (plS (sL S) p m) (set0 T 2 (nI b))) j b, h1) ∧ PlS h1 lw S p T ∧ Fr h h1 100 285
theorem bs_ok {m F : Nat} (o : SOk c S) (hp : p < nP (sL S)) (q : ByOk lw S p m F) : BsOk lw S p m (F + 1) := by
  intro h T B c1 e g hB hc
  have lf := o.lfP hp
  have ok := o.ok lf
  have h5 := ok.2.2.1
  have h6 := ok.2.1
  have okT := g.ok (by omega) (by omega)
  have hh := (okT p hp).1
  obtain ⟨g0, g1, g2, g3, g4⟩ := e.g
  obtain ⟨h1, a1, a2, a3⟩ := q h T B c1 (hel T p) e g hB hc hh
  show ∃ h9, f_Planner_best_ (F_Planner F).2.1 h (some 176) (nI (m + 1)) = some (_, h9) ∧ _
  unfold f_Planner_best_
  rw [g2, Option.bind_some, gR_o e.2.1.1 rfl, Option.bind_some, g3, Option.bind_some, e.2.1.2.1.at (by omega) (by decide), Option.bind_some, e.cl, a1, Option.bind_some]
  refine exB (f := fun h9 => (bsF (sL S) p (plS (sL S) p m) T, h9)) (fun x => x.1 = bsF (sL S) p (plS (sL S) p m) T ∧ PlS x.2 lw S p T ∧ Fr h x.2 100 285) (pj_inv (fun i s => s.1 = (bfF (sL S) p (plS (sL S) p m) T i).2 ∧ s.2.1 = nI i ∧ PlS s.2.2 lw S p T ∧ Fr h s.2.2 100 285) _ (nC (sL S)) (by omega) ⟨rfl, rfl, a2, a3⟩ ?_ ?_) ?_
  · rintro i ⟨s1, s2, s3⟩ hi ⟨x1, x2, x3, x4⟩
    dsimp only at x1 x2 x3 x4 ⊢
    subst x1 x2
    left
    obtain ⟨h2, b1, b2, b3⟩ := q s3 T B c1 i x3 g hB hc hi
    rw [x3.g.1, Option.bind_some, gI_o x3.1.2.2.2.1.1 rfl, Option.bind_some, if_neg (nI_nle' hi (by omega)), nI_s]
    have bg := bf_ge (L := sL S) (p := p) (g := plS (sL S) p m) (T := T) i
    have eq : (bfF (sL S) p (plS (sL S) p m) T (i + 1)).2 = if (bfF (sL S) p (plS (sL S) p m) T i).2 < plS (sL S) p m T i then plS (sL S) p m T i else (bfF (sL S) p (plS (sL S) p m) T i).2 := by
      show (if (bfF (sL S) p (plS (sL S) p m) T i).2 < plS (sL S) p m T i then (i, plS (sL S) p m T i) else bfF (sL S) p (plS (sL S) p m) T i).2 = _
      split <;> rfl
    by_cases z : i = hel T p
    · rw [if_pos (by rw [z])]
      refine ⟨_, rfl, ?_, rfl, x3, x4⟩
      dsimp only
      rw [eq, if_neg (by rw [z] at bg ⊢; exact bg.1)]
    · rw [if_neg (fun w => z ((nI_eq (by omega) (by omega)).mp w)), x3.cl, b1, Option.bind_some]
      refine ⟨_, rfl, ?_, rfl, b2, x4.tr b3⟩
      dsimp only
      rw [eq]
      by_cases y : plS (sL S) p m T i < (bfF (sL S) p (plS (sL S) p m) T i).2
      · rw [if_pos y, if_neg (fun w => Int64.lt_irrefl (Int64.lt_trans y w))]
      · rw [if_neg y]
        by_cases w : (bfF (sL S) p (plS (sL S) p m) T i).2 < plS (sL S) p m T i
        · rw [if_pos w]
        · rw [if_neg w]
          exact Int64.le_antisymm (Int64.not_lt.mp w) (Int64.not_lt.mp y)
  · rintro ⟨s1, s2, s3⟩ ⟨x1, x2, x3, x4⟩
    dsimp only at x1 x2 x3 x4 ⊢
    subst x1 x2
    rw [x3.g.1, Option.bind_some, gI_o x3.1.2.2.2.1.1 rfl, Option.bind_some, if_pos (nI_le (Nat.le_refl _) (by omega))]
    exact ⟨_, rfl, by rw [bf_bs]; rfl, x3, x4⟩
  · rintro ⟨x1, x2⟩ ⟨y1, y2, y3⟩
    dsimp only at y1 ⊢
    subst y1
    exact ⟨x2, rfl, y2, y3⟩
theorem and_nb : ∀ b, b < 16 → ∀ r, r < 4 → b.testBit r = false → nI (b ||| 2 ^ r) &&& (((1 : Int32) <<< (nI r &&& 31)) ^^^ (-1 : Int32)) = nI b := by decide +kernel
theorem cls_nxt {L : LawD} {hr : Int32} (l : LawC h lw L) (ok : LawOk L) (hp : p < nP L) {j : Nat} (hj : j ≤ nR L) : f_Reasons_nextOf h (some (lw + 16)) (nI p) hr (nI (nR L - j)) = some (nI (nxN L p hr j)) := by
  have h4 := ok.2.2.2.1
  have h5 := ok.2.2.1
  obtain ⟨⟨r0, r1, -, r3, -, -⟩, -⟩ := l.2.2.2.2.2.2.2.2
  unfold f_Reasons_nextOf
  obtain ⟨x, l1, l2⟩ : ∃ x, pj_it (X := (Unit) ⊕ (Int32)) (fun s1 : Int32 => (gI h 6 (some (lw + 16)) 0).bind fun v3 => if v3 ≤ s1 then (some (.inr (.inl ()))) else ((gR h 6 (some (lw + 16)) 1).bind fun v4 => (aI h v4 s1).bind fun v5 => if ¬ v5 = nI p then (some (.inl (s1 + (1 : Int32)))) else ((gR h 6 (some (lw + 16)) 3).bind fun v6 => (aI h v6 s1).bind fun v7 => if ¬ v7 = hr then (some (.inl (s1 + (1 : Int32)))) else (some (.inr (.inr s1)))))) FU (nI (nR L - j)) = some x ∧ ((∃ u, x = .inl u ∧ nxN L p hr j = nR L) ∨ x = .inr (nI (nxN L p hr j))) := by
    refine pj_inv (fun i s => s = nI (nR L - (j - i)) ∧ nxN L p hr j = nxN L p hr (j - i)) _ j (by omega) ⟨rfl, rfl⟩ ?_ ?_
    · rintro i s hi ⟨rfl, x2⟩
      obtain ⟨j1, hj1⟩ : ∃ j1, j - i = j1 + 1 := ⟨j - i - 1, by omega⟩
      have hk : nR L - (j1 + 1) < nR L := by omega
      have q1 := (ok.2.2.2.2.2.2.2.1 _ hk).1
      rw [hj1] at x2 ⊢
      rw [gI_o r0 rfl, Option.bind_some, if_neg (nI_nle' hk (by omega)), gR_o r0 rfl, Option.bind_some, r1.at (by omega) (by decide), Option.bind_some, nI_s]
      have e9 : nR L - (j1 + 1) + 1 = nR L - (j - (i + 1)) := by omega
      have e8 : j - (i + 1) = j1 := by omega
      by_cases z1 : rpe L (nR L - (j1 + 1)) = p
      · rw [if_neg (by rw [z1]; exact fun q => q rfl), gR_o r0 rfl, Option.bind_some, r3.at (by omega) (by decide), Option.bind_some]
        by_cases z2 : rho L (nR L - (j1 + 1)) = hr
        · rw [if_neg (fun q => q z2)]
          rw [show nxN L p hr (j1 + 1) = nR L - (j1 + 1) from if_pos ⟨z1, z2⟩] at x2
          exact Or.inr ⟨_, rfl, Or.inr (by rw [x2])⟩
        · rw [if_pos z2]
          rw [show nxN L p hr (j1 + 1) = nxN L p hr j1 from if_neg (fun q => z2 q.2)] at x2
          exact Or.inl ⟨_, rfl, by rw [e9], by rw [e8]; exact x2⟩
      · rw [if_pos (fun q => z1 ((nI_eq (by omega) (by omega)).mp q))]
        rw [show nxN L p hr (j1 + 1) = nxN L p hr j1 from if_neg (fun q => z1 q.1)] at x2
        exact Or.inl ⟨_, rfl, by rw [e9], by rw [e8]; exact x2⟩
    · rintro s ⟨rfl, x2⟩
      rw [Nat.sub_self] at x2 ⊢
      rw [gI_o r0 rfl, Option.bind_some, if_pos (nI_le (by omega) (by omega))]
      exact ⟨_, rfl, Or.inl ⟨(), rfl, x2⟩⟩
  rw [l1, Option.bind_some]
  rcases l2 with ⟨u, rfl, l3⟩ | rfl
  · dsimp only
    rw [gI_o r0 rfl, Option.bind_some, l3]
  · rfl
theorem ch_ok {m F : Nat} (o : SOk c S) (hp : p < nP (sL S)) (q : ∀ F1, F ≤ F1 → BsOk lw S p m F1) : ∀ j, j ≤ nR (sL S) → ∀ F1, F + 1 + j ≤ F1 → ChOk lw S p m j F1 := by
  have lf := o.lfP hp
  have ok := o.ok lf
  have h5 := ok.2.2.1
  have h4 := ok.2.2.2.1
  have h16 : 2 ^ nR (sL S) ≤ 2 ^ 4 := Nat.pow_le_pow_right (by omega) h4
  intro j
  induction j using Nat.strongRecOn with
  | _ j ih =>
    intro hj F1 hF h T B c1 b e g hB hc eb hb hbit
    obtain ⟨F2, rfl⟩ : ∃ F2, F1 = F2 + 1 := ⟨F1 - 1, by omega⟩
    obtain ⟨g0, g1, g2, g3, g4⟩ := e.g
    have r0 := (e.1.2.2.2.1.2.2.2.2.2.2.2.2).1.1
    have r4 := (e.1.2.2.2.1.2.2.2.2.2.2.2.2).1.2.2.2.2.1
    have nl := nx_le (L := sL S) (p := p) (hr := hou T) j
    show ∃ h9, f_Planner_chances_ (F_Planner F2).1 (F_Planner F2).2.2 h (some 176) (nI (nR (sL S) - j)) (nI (m + 1)) = some (_, h9) ∧ _
    unfold f_Planner_chances_
    rw [g0, Option.bind_some, g4, Option.bind_some, g3, Option.bind_some, g2, Option.bind_some, gI_o e.2.1.1 rfl, Option.bind_some, cl_o r0, cls_nxt e.1.2.2.2.1 ok hp hj, Option.bind_some, if_neg (nI_pos (by omega)), gI_o r0 rfl, Option.bind_some]
    rw [ch_nx j hj b]
    by_cases z : nxN (sL S) p (hou T) j = nR (sL S)
    · rw [if_pos z, z, if_neg (nI_nlt (Nat.le_refl _) (by omega))]
      obtain ⟨h1, a1, a2, a3⟩ := q F2 (by omega) h T B c1 e g hB hc
      rw [e.cl, a1, Option.bind_some]
      refine ⟨h1, ?_, a2, a3⟩
      rw [← eb, s0_2s]
    · have hr : nxN (sL S) p (hou T) j < nR (sL S) := by omega
      have nc := nx_c j hj hr
      rw [if_neg z, if_pos (nI_lt hr (by omega)), gR_o r0 rfl, Option.bind_some, r4.at (by omega) (by decide), Option.bind_some]
      generalize hrr : nxN (sL S) p (hou T) j = r at *
      have er : nR (sL S) - (nR (sL S) - (r + 1)) = r + 1 := by omega
      have hnb : b.testBit r = false := by
        cases hq : b.testBit r with
        | false => rfl
        | true =>
          rcases hbit r hq with w | w
          · rw [nc.2] at w; exact absurd w Int32.lt_irrefl
          · omega
      obtain ⟨h1, a1, a2, a3⟩ := ih (nR (sL S) - (r + 1)) (by omega) (by omega) F2 (by omega) h T B c1 b e g hB hc eb hb (fun k hk => by
        rcases hbit k hk with w | w
        · exact Or.inl w
        · right; omega)
      rw [er] at a1
      rw [nI_s, e.cl, a1, Option.bind_some]
      obtain ⟨f0, f1, f2, f3, f4⟩ := a2.g
      obtain ⟨h2, b1, b2, b3⟩ := a2.2.1.s0 (j := 2) (by omega) (nI (b ||| 2 ^ r))
      have e2 : PlS h2 lw S p (set0 T 2 (nI (b ||| 2 ^ r))) := a2.tl (b3.wd (by omega) (by omega)) b2
      dsimp only
      rw [f2, Option.bind_some, gI_o a2.2.1.1 rfl, Option.bind_some, eb, sh1 r (by omega), nI_or, b1, Option.bind_some]
      obtain ⟨h3, c1', c2, c3⟩ := ih (nR (sL S) - (r + 1)) (by omega) (by omega) F2 (by omega) h2 (set0 T 2 (nI (b ||| 2 ^ r))) B c1 (b ||| 2 ^ r) e2 (bit_ok g hb hr eb nc.2 h4) hB hc s0_c2 (Nat.or_lt_two_pow hb (Nat.pow_lt_pow_right (by omega) hr)) (fun k hk => by
        rw [s0_h2]
        rw [Nat.testBit_or, Bool.or_eq_true] at hk
        rcases hk with hk | hk
        · rcases hbit k hk with w | w
          · exact Or.inl w
          · right; omega
        · rw [Nat.testBit_two_pow] at hk
          have : r = k := by simpa using hk
          right; omega)
      rw [er] at c1'
      rw [e2.cl, c1', Option.bind_some]
      obtain ⟨k0, k1, k2, k3, k4⟩ := c2.g
      obtain ⟨h4', d1, d2, d3⟩ := c2.2.1.s0 (j := 2) (by omega) (nI b)
      dsimp only
      rw [k2, Option.bind_some, gI_o c2.2.1.1 rfl, Option.bind_some, s0_c2]
      rw [show nI (b ||| 2 ^ r) &&& (nI (2 ^ r) ^^^ (-1 : Int32)) = nI b from by rw [← sh1 r (by omega)]; exact and_nb b (by omega) r (by omega) hnb, d1, Option.bind_some]
      rw [s0_22, ← eb, s0_2s] at d2
      refine ⟨h4', ?_, c2.tl (d3.wd (by omega) (by omega)) d2, ((a3.tr (b3.wd (by omega) (by omega))).tr c3).tr (d3.wd (by omega) (by omega))⟩
      rw [s0_h2]
      have eg : (fun b_1 => bsF (sL S) p (plS (sL S) p m) (set0 (set0 T 2 (nI (b ||| 2 ^ r))) 2 (nI b_1))) = fun b_1 => bsF (sL S) p (plS (sL S) p m) (set0 T 2 (nI b_1)) := by
        funext b9
        rw [s0_22]
      rw [eg]
theorem by_0 {F : Nat} (o : SOk c S) (hp : p < nP (sL S)) : ByOk lw S p 0 (F + 1) := by
  intro h T B c1 d e g hB hc hd
  have lf := o.lfP hp
  have ok := o.ok lf
  have okT := g.ok (by omega) (by omega)
  obtain ⟨g0, g1, g2, g3, g4⟩ := e.g
  show ∃ h9, f_Planner_by_ (F_Planner F).2.2 h (some 176) (nI d) (nI 1) = some (_, h9) ∧ _
  unfold f_Planner_by_
  rw [g1, Option.bind_some, g3, Option.bind_some, e.lf ok okT hp hd, Option.bind_some, if_neg (by decide)]
  exact ⟨h, rfl, e, Fr.rf⟩
theorem by_s {m F : Nat} (o : SOk c S) (hp : p < nP (sL S)) (hm : m < 10) (q : ChOk lw S p m (nR (sL S)) F) : ByOk lw S p (m + 1) (F + 1) := by
  intro h T B c1 d e g hB hc hd
  have lf := o.lfP hp
  have ok := o.ok lf
  have h5 := ok.2.2.1
  have h6 := ok.2.1
  have h4 := ok.2.2.2.1
  have okT := g.ok (by omega) (by omega)
  have hh := (okT p hp).1
  obtain ⟨⟨j, hj, ej⟩, -, ⟨b, hb, eb, hbit⟩, -⟩ := id g
  have h16 : 2 ^ nR (sL S) ≤ 2 ^ 4 := Nat.pow_le_pow_right (by omega) h4
  obtain ⟨g0, g1, g2, g3, g4⟩ := e.g
  show ∃ h9, f_Planner_by_ (F_Planner F).2.2 h (some 176) (nI d) (nI (m + 1 + 1)) = some (_, h9) ∧ _
  unfold f_Planner_by_
  rw [g1, Option.bind_some, g3, Option.bind_some, e.lf ok okT hp hd, Option.bind_some, if_pos (show (1 : Int32) < nI (m + 1 + 1) from nI_lt (a := 1) (by omega) (by omega)), e.cl, e.sc ok hp, Option.bind_some, g2, Option.bind_some, gR_o e.2.1.1 rfl, Option.bind_some, Option.bind_some, e.2.1.2.1.at (by omega) (by decide), Option.bind_some, Option.bind_some, gR_o e.2.1.1 rfl, Option.bind_some, Option.bind_some, e.2.1.2.2.1.at (by omega) (by decide), Option.bind_some, Option.bind_some, gR_o e.2.1.1 rfl, Option.bind_some, Option.bind_some, e.2.1.2.2.2.2.at (by omega) (by decide), Option.bind_some, Option.bind_some, Option.bind_some]
  have mv : ∃ h1, (if nI d = nI (hel T p) then (some h) else ((cl h 2 (some 170) (f_Now_move h (some 170) (nI p) (nI d) (0 : Int32))).bind fun h20 => some h20) : Option PH) = some h1 ∧ NowC h1 170 (if d = hel T p then T else movN T p d 0) ∧ Fr h h1 170 175 := by
    by_cases z : d = hel T p
    · rw [if_pos (by rw [z]), if_pos z]
      exact ⟨h, rfl, e.2.1, Fr.rf⟩
    · rw [if_neg (fun w => z ((nI_eq (by omega) (by omega)).mp w)), if_neg z]
      obtain ⟨h1, a1, a2, a3⟩ := cls_move (c := d) e.2.1 (show p < 5 by omega) 0
      exact ⟨h1, by rw [cl_o e.2.1.1, a1, Option.bind_some], a2, a3⟩
  obtain ⟨h1, a1, a2, a3⟩ := mv
  rw [a1, Option.bind_some]
  have e1 : PlS h1 lw S p (if d = hel T p then T else movN T p d 0) := e.tl a3 a2
  have eh : hou (if d = hel T p then T else movN T p d 0) = hou T := by split; rfl; simp [movN, hou]
  have ec : cme (if d = hel T p then T else movN T p d 0) = cme T := by split; rfl; simp [movN, cme]
  obtain ⟨h2, b1, b2, b3⟩ := a2.s0 (j := 0) (by omega) (hou T + 1)
  have e2 : PlS h2 lw S p (stN T p d) := e1.tl (b3.wd (by omega) (by omega)) b2
  rw [e1.g.2.2.1, Option.bind_some, gI_o a2.1 rfl, Option.bind_some, eh, b1, Option.bind_some, e2.cl]
  have cs : cme (stN T p d) = cme T := by unfold stN; rw [s0_c0, ec]
  obtain ⟨h3, c1', c2, c3⟩ := q h2 (stN T p d) (B + 1) (c1 + 1) b e2 (st_ok g hp hd (by omega)) (by omega) (by omega) (by rw [cs]; exact eb) hb (fun k hk => by
    left
    rw [st_h]
    have := hbit k hk
    rw [ej] at this ⊢
    rw [nI_s]
    exact Int32.lt_of_le_of_lt this (nI_lt (by omega) (by omega)))
  rw [Nat.sub_self, st_h] at c1'
  rw [show nI (m + 1 + 1) - (1 : Int32) = nI (m + 1) from nI_pred _, show (0 : Int32) = nI 0 from rfl, c1', Option.bind_some]
  dsimp only
  obtain ⟨h4', d1, d2, d3⟩ := c2.2.1.s0 (j := 0) (by omega) (hou T)
  have e4 := c2.tl (d3.wd (by omega) (by omega)) d2
  rw [c2.g.2.2.1, Option.bind_some, gI_o c2.2.1.1 rfl, Option.bind_some, st_h, show hou T + 1 - (1 : Int32) = hou T from by rw [ej, nI_s, nI_pred], d1, Option.bind_some]
  obtain ⟨u0, u1, u2, u3, u4⟩ := d2
  obtain ⟨h5', k1, k2, k3⟩ := u1.set (p := p) (by omega) (by decide) (nI (hel T p))
  have w0 := (k3.2 170 (by omega)).trans u0
  have w2 := u2.fr k3 (by omega)
  have w3 := u3.fr k3 (by omega)
  have w4 := u4.fr k3 (by omega)
  obtain ⟨h6', l1, l2, l3⟩ := w2.set (p := p) (by omega) (by decide) (tur T p)
  have x0 := (l3.2 170 (by omega)).trans w0
  have x1 := k2.fr l3 (by omega)
  have x3 := w3.fr l3 (by omega)
  have x4 := w4.fr l3 (by omega)
  obtain ⟨h7', m1, m2, m3⟩ := x4.set (p := p) (by omega) (by decide) (lat T p)
  have y0 := (m3.2 170 (by omega)).trans x0
  have FR : Fr h4' h7' 170 175 := ((k3.wd (by omega) (by omega)).tr (l3.wd (by omega) (by omega))).tr (m3.wd (by omega) (by omega))
  have P4 := e4.2.2.2
  have P5 := P4.fr k3 (by omega)
  have P6 := P5.fr l3 (by omega)
  rw [P4.gr (x := some 170) (by omega) rfl, Option.bind_some, gR_o u0 rfl, Option.bind_some, P4.gi (x := nI p) (by omega) rfl, Option.bind_some, k1, Option.bind_some, P5.gr (x := some 170) (by omega) rfl, Option.bind_some, gR_o w0 rfl, Option.bind_some, P5.gi (x := nI p) (by omega) rfl, Option.bind_some, l1, Option.bind_some, P6.gr (x := some 170) (by omega) rfl, Option.bind_some, gR_o x0 rfl, Option.bind_some, P6.gi (x := nI p) (by omega) rfl, Option.bind_some, m1, Option.bind_some]
  have TT : NowC h7' 170 T := by
    refine ⟨?_, ((x1.fr m3 (by omega)).eq ?_), ((l2.fr m3 (by omega)).eq ?_), ((x3.fr m3 (by omega)).eq ?_), (m2.eq ?_)⟩
    · rw [y0, s0_h0, s0_s0, s0_c0]
      unfold stN
      rw [s0_s0, s0_c0, ec, show sed (if d = hel T p then T else movN T p d 0) = sed T from by split; rfl; simp [movN, sed]]
    · intro k hk
      unfold up1
      by_cases z : k = p
      · rw [if_pos z, z]
      · rw [if_neg z, s0_e]
        unfold stN
        rw [s0_e]
        split
        · rfl
        · show nI (if k = p then d else hel T k) = _
          rw [if_neg z]
    · intro k hk
      unfold up1
      by_cases z : k = p
      · rw [if_pos z, z]
      · rw [if_neg z, s0_t]
        unfold stN
        rw [s0_t]
        split
        · rfl
        · simp [movN, tur, up1, z]
    · intro k hk
      rw [s0_p]
      unfold stN
      rw [s0_p]
      split
      · rfl
      · simp only [movN, spe, up1]
        by_cases z : k = p
        · subst z; simp
        · simp [z]
    · intro k hk
      unfold up1
      by_cases z : k = p
      · rw [if_pos z, z]
      · rw [if_neg z, s0_l]
        unfold stN
        rw [s0_l]
        split
        · rfl
        · simp [movN, lat, up1, z]
  refine ⟨h7', ?_, e4.tl FR TT, ((((a3.wd (by omega) (by omega)).tr (b3.wd (by omega) (by omega))).tr c3).tr (d3.wd (by omega) (by omega))).tr (FR.wd (by omega) (by omega))⟩
  show some ((lefS (sL S) T (-1) (third (sL S)) p d).toInt64 * pwI (btN (sL S) p (hou T) (nI (m + 1 + 1)) (nR (sL S))) + _, h7') = some ((lefS (sL S) T (-1) (third (sL S)) p d).toInt64 * pwI (btN (sL S) p (hou T) (nI (m + 2)) (nR (sL S))) + chN (sL S) p (hou T + 1) (fun b => bsF (sL S) p (plS (sL S) p m) (set0 (stN T p d) 2 (nI b))) (nR (sL S)) (cme T).toNatClampNeg, h7')
  rw [eb, nI_clamp (by omega)]
theorem by_all (o : SOk c S) (hp : p < nP (sL S)) : ∀ m, m < 10 → ∀ F, 1 + 8 * m ≤ F → ByOk lw S p m F
  | 0, _, F, hF => by
    obtain ⟨F1, rfl⟩ : ∃ F1, F = F1 + 1 := ⟨F - 1, by omega⟩
    exact by_0 o hp
  | m + 1, hm, F, hF => by
    obtain ⟨F1, rfl⟩ : ∃ F1, F = F1 + 1 := ⟨F - 1, by omega⟩
    have h4 := (o.ok (o.lfP hp)).2.2.2.1
    refine by_s o hp (by omega) (ch_ok (F := 2 + 8 * m) o hp (fun F2 h2 => ?_) (nR (sL S)) (Nat.le_refl _) F1 (by omega))
    obtain ⟨F3, rfl⟩ : ∃ F3, F2 = F3 + 1 := ⟨F2 - 1, by omega⟩
    exact bs_ok o hp (by_all o hp m (by omega) F3 (by omega))
end L2
