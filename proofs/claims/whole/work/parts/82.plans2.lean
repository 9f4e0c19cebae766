/-! fractions; plan, planFirst, planBy -/
def euc : Nat → Int64 → Int64 → Int64
  | 0, x, _ => x
  | k + 1, x, y => if y = 0 then x else euc k y (x - x / y * y)
def ter : Nat → Int64 → Int64 → Prop
  | 0, _, y => y = 0
  | k + 1, x, y => y = 0 ∨ ter k y (x - x / y * y)
theorem rem_i (x y : Int64) : (x - x / y * y).toInt = x.toInt.tmod y.toInt := by
  rw [Int64.toInt_sub, Int64.toInt_mul, Int64.toInt_div, Int.sub_bmod_bmod, Int.sub_bmod, Int.bmod_mul_bmod, ← Int.sub_bmod]
  rw [show x.toInt - x.toInt.tdiv y.toInt * y.toInt = x.toInt.tmod y.toInt from by rw [Int.tmod_def, Int.mul_comm]]
  have h1 := Int64.le_toInt x
  have h2 := Int64.toInt_lt x
  have h3 : (x.toInt.tmod y.toInt).natAbs ≤ x.toInt.natAbs := by
    rw [Int.natAbs_tmod]; exact Nat.mod_le _ _
  by_cases hx : 0 ≤ x.toInt
  · apply Int.bmod_eq_of_le <;> omega
  · have h4 : 0 ≤ (-x.toInt).tmod y.toInt := Int.tmod_nonneg _ (by omega)
    rw [Int.neg_tmod] at h4
    apply Int.bmod_eq_of_le <;> omega
theorem rem_a (x y : Int64) : (x - x / y * y).toInt.natAbs = x.toInt.natAbs % y.toInt.natAbs := by
  rw [rem_i, Int.natAbs_tmod]
theorem ter_s : ∀ k x y, ter k x y → ter (k + 1) x y
  | 0, x, y, h => Or.inl h
  | k + 1, x, y, h => by
    rcases h with h | h
    · exact Or.inl h
    · exact Or.inr (ter_s k _ _ h)
theorem ter_n : ∀ n x y, y.toInt.natAbs < 2 ^ n → ter (2 * n) x y
  | 0, x, y, h => by
    have : y.toInt = 0 := by omega
    exact Int64.toInt_inj.mp (this.trans (by decide))
  | n + 1, x, y, h => by
    show ter (2 * n + 1 + 1) x y
    by_cases z : y = 0
    · exact Or.inl z
    · right
      by_cases w : (x - x / y * y) = 0
      · exact Or.inl w
      · right
        apply ter_n n
        rw [rem_a]
        have w1 : (x - x / y * y).toInt.natAbs ≠ 0 := fun q => w (by
          have : (x - x / y * y).toInt = 0 := by omega
          exact Int64.toInt_inj.mp (this.trans (by decide)))
        have z1 : y.toInt.natAbs ≠ 0 := fun q => z (by
          have : y.toInt = 0 := by omega
          exact Int64.toInt_inj.mp (this.trans (by decide)))
        have w2 := rem_a x y
        have w3 := Nat.mod_lt x.toInt.natAbs (show 0 < y.toInt.natAbs by omega)
        generalize (x - x / y * y).toInt.natAbs = r at *
        generalize y.toInt.natAbs = s at *
        have w4 := Nat.mod_lt s (show 0 < r by omega)
        have w5 := Nat.div_add_mod s r
        have w6 : 1 ≤ s / r := Nat.div_pos (by omega) (by omega)
        have w7 : r * 1 ≤ r * (s / r) := Nat.mul_le_mul_left r w6
        rw [Nat.pow_succ] at h
        omega
theorem ter_p : ∀ b, b ≤ 4 → (pwI b).toInt.natAbs < 2 ^ 27 ∧ ¬ pwI b = 0 := by decide +kernel
theorem euc_0 : ∀ k x y, ter k x y → (¬ x = 0 ∨ ¬ y = 0) → ¬ euc k x y = 0
  | 0, x, y, h, q => by
    rcases q with q | q
    · exact q
    · exact absurd h q
  | k + 1, x, y, h, q => by
    unfold euc
    by_cases z : y = 0
    · rw [if_pos z]; exact q.resolve_right (fun w => w z)
    · rw [if_neg z]
      exact euc_0 k _ _ (h.resolve_left z) (Or.inl z)
theorem euc_M : ∀ k x y F, ter k x y → k < F → pj_it (X := Int64) (fun s2 : Int64 × Int64 => if (lg_cmp s2.2 (0 : Int64)) = 0 then (some (.inr s2.1)) else (if s2.2 = 0 then none else (some (.inl (s2.2, (s2.1 - s2.1 / s2.2 * s2.2)))))) F (x, y) = some (euc k x y)
  | k, x, y, 0, _, hF => absurd hF (Nat.not_lt_zero k)
  | 0, x, y, F + 1, h, _ => by
    have h : y = 0 := h
    subst h
    show (if lg_cmp (0 : Int64) 0 = 0 then _ else _ : Option ((Int64 × Int64) ⊕ Int64)).bind _ = _
    rw [if_pos ((lg_cmp_eq _ _).mpr rfl)]
    rfl
  | k + 1, x, y, F + 1, h, hF => by
    show (if lg_cmp y 0 = 0 then (some (.inr x)) else (if y = 0 then none else (some (.inl (y, (x - x / y * y))))) : Option ((Int64 × Int64) ⊕ Int64)).bind _ = _
    unfold euc
    by_cases z : y = 0
    · rw [if_pos ((lg_cmp_eq _ _).mpr z), if_pos z]; rfl
    · rw [if_neg (fun q => z ((lg_cmp_eq _ _).mp q)), if_neg z, if_neg z]
      exact euc_M k y _ F (h.resolve_left z) (by omega)
theorem euc_T : ∀ k x y F i, ter k x y → k < F → i + k < 200 → pj_it (X := Int64) (fun s1 : Int64 × Int64 × Int32 => if (200 : Int32) ≤ s1.2.2 then (some (.inr s1.1)) else (if (lg_cmp s1.2.1 (0 : Int64)) = 0 then (some (.inr s1.1)) else (if s1.2.1 = 0 then none else (some (.inl (s1.2.1, (s1.1 - s1.1 / s1.2.1 * s1.2.1), (s1.2.2 + (1 : Int32)))))))) F (x, y, nI i) = some (euc k x y)
  | k, x, y, 0, i, _, hF, _ => absurd hF (Nat.not_lt_zero k)
  | 0, x, y, F + 1, i, h, _, hi => by
    have h : y = 0 := h
    subst h
    show (if (200 : Int32) ≤ nI i then (some (.inr x)) else (if lg_cmp (0 : Int64) 0 = 0 then (some (.inr x)) else (if (0 : Int64) = 0 then none else (some (.inl (0, (x - x / 0 * 0), (nI i + (1 : Int32))))))) : Option ((Int64 × Int64 × Int32) ⊕ Int64)).bind _ = _
    rw [if_neg (show ¬ (200 : Int32) ≤ nI i from nI_ge (b := 200) (by omega) (by omega)), if_pos ((lg_cmp_eq _ _).mpr rfl)]
    rfl
  | k + 1, x, y, F + 1, i, h, hF, hi => by
    show (if (200 : Int32) ≤ nI i then (some (.inr x)) else (if lg_cmp y 0 = 0 then (some (.inr x)) else (if y = 0 then none else (some (.inl (y, (x - x / y * y), (nI i + (1 : Int32))))))) : Option ((Int64 × Int64 × Int32) ⊕ Int64)).bind _ = _
    unfold euc
    rw [if_neg (show ¬ (200 : Int32) ≤ nI i from nI_ge (b := 200) (by omega) (by omega))]
    by_cases z : y = 0
    · rw [if_pos ((lg_cmp_eq _ _).mpr z), if_pos z]; rfl
    · rw [if_neg (fun q => z ((lg_cmp_eq _ _).mp q)), if_neg z, if_neg z, nI_s]
      exact euc_T k y _ F (i + 1) (h.resolve_left z) (by omega) (by omega)
def abI (a : Int64) : Int64 := if 0 < a then a else -a
def frS (a b : Int64) (w : Int32) : Int64 := (if w = 0 then a else b) / euc 54 (abI a) b
section O1
variable {h : PH} {lw c p : Nat} {S : StD} {ml : Option Nat} {a b : Int64}
theorem CI.fm (e : CI h lw S) (hb : b.toInt.natAbs < 2 ^ 27) (hb0 : ¬ b = 0) (w : Int32) : ∃ h1 lw1, ((Jvm.Pilot.CWaverTaxLaw_law_r8537_6f3a17.cl h 10 (some 100) (f_T_fineMean h (some 100) a b w)).bind fun v => some (v.1, v.2)) = some (frS a b w, h1) ∧ CI h1 lw1 (trS S 0) ∧ Fr h h1 100 285 := by
  have t := ter_n 27 (abI a) b hb
  have n0 := euc_0 _ _ _ t (Or.inr hb0)
  refine ⟨_, lw, ?_, e.ob Fr.st (st_o e.2.1), Fr.st.wd (by omega) (by omega)⟩
  rw [e.cl]
  unfold f_T_fineMean f_T_sharedDivisor
  have et := euc_T 54 (abI a) b FU 0 t (by decide) (by omega)
  rw [nI_0] at et
  rw [sF_o e.2.1 (by simp), Option.bind_some, show (if 0 < a then a else -a) = abI a from rfl, et, Option.bind_some, Option.bind_some, if_pos (fun q => n0 ((lg_cmp_eq _ _).mp q))]
  unfold frS
  by_cases z : w = 0
  · rw [if_pos z, if_neg n0, if_pos z]; rfl
  · rw [if_neg z, if_neg n0, if_neg z]; rfl
theorem Mst.fc (e : Mst h ml S) (hb : b.toInt.natAbs < 2 ^ 27) (hb0 : ¬ b = 0) (w : Int32) : ∃ h1 ml1, ((Jvm.Pilot.CWaverTaxLaw_law_r8537_6f3a17.cl h 12 (some 285) (f_M_fraction h (some 285) a b w)).bind fun v => some (v.1, v.2)) = some (frS a b w, h1) ∧ Mst h1 ml1 (trS S 0) ∧ Fr h h1 285 295 := by
  have t := ter_n 27 (abI a) b hb
  have n0 := euc_0 _ _ _ t (Or.inr hb0)
  obtain ⟨h1, ml1, r1, r2, r3⟩ := e.gd 0
  refine ⟨h1, ml1, ?_, r2, r3⟩
  rw [e.cl] at r1 ⊢
  unfold f_M_fraction f_M_common
  rw [e.cl]
  obtain ⟨v, v1, v2⟩ := Option.bind_eq_some_iff.mp r1
  have v3 : v = (0, h1) := by
    have : some (v.1, v.2) = some ((0 : Int32), h1) := v2
    obtain ⟨x, y⟩ := v
    cases this
    rfl
  rw [v1, Option.bind_some, v3]
  have ea : (if 0 ≤ lg_cmp a 0 then (some a) else (some (-a)) : Option Int64) = some (abI a) := by
    unfold abI
    by_cases z : 0 < a
    · rw [if_pos ((lg_cmp_ge _ _).mpr (Int64.le_of_lt z)), if_pos z]
    · rw [if_neg z]
      by_cases y : 0 ≤ a
      · have : a = 0 := Int64.le_antisymm (Int64.not_lt.mp z) y
        subst this
        rw [if_pos ((lg_cmp_ge _ _).mpr (Int64.le_refl _))]; rfl
      · rw [if_neg (fun q => y ((lg_cmp_ge _ _).mp q))]
  have ew : (if w = 0 then (some a) else (some b) : Option Int64) = some (if w = 0 then a else b) := by by_cases z : w = 0 <;> simp [z]
  rw [ew, Option.bind_some, ea, Option.bind_some]
  dsimp only
  rw [euc_M 54 (abI a) b FU t (by decide), Option.bind_some, Option.bind_some, if_neg n0]
  rfl
/-! what is planned -/
def ptS (S : StD) (x y : Int32) : Int32 := if 0 ≤ x ∧ x < nI (nP (sL S)) then (if y < 1 ∨ 4 < y then 2 else 0) else 1
theorem CI.pt (e : CI h lw S) (x y : Int32) : Jvm.Pilot.CWaverTaxLaw_law_r8537_6f3a17.cl h 10 (some 100) (f_T_planTrouble h (some 100) x y) = some (ptS S x y) := by
  rw [e.cl]
  unfold f_T_planTrouble ptS
  rw [e.cl, cls_isPerson (L := sL S) e.2.1 (gI_o e.2.2.2.1.1 rfl), Option.bind_some]
  by_cases z : 0 ≤ x ∧ x < nI (nP (sL S))
  · rw [if_pos z, if_pos z, if_pos (by decide)]
    by_cases y1 : y < 1
    · rw [if_pos y1, if_pos (Or.inl y1)]
    · rw [if_neg y1]
      by_cases y2 : y ≤ 4
      · rw [if_pos y2, if_neg (by rintro (q | q); exact y1 q; exact absurd q (Int32.not_lt.mpr y2))]
      · rw [if_neg y2, if_pos (Or.inr (Int32.not_le.mp y2))]
  · rw [if_neg z, if_neg z, if_neg (fun q => q rfl)]
theorem Mst.pt (e : Mst h ml S) (o : SOk c S) (x y : Int32) : Jvm.Pilot.CWaverTaxLaw_law_r8537_6f3a17.cl h 12 (some 285) (f_M_refusesPlan h (some 285) x y) = some (ptS S x y) := by
  rw [e.cl]
  unfold f_M_refusesPlan f_M_in ptS
  rcases arg_c x (nP (sL S)) (by have := o.P5; omega) with ⟨q, hq, rfl⟩ | hx
  · rw [e.isP1 (o.lfP hq) hq o.P5, Option.bind_some, if_pos (by decide), if_pos (show 0 ≤ nI q ∧ nI q < nI (nP (sL S)) from ⟨nI_pos' (by have := o.P5; omega), nI_lt hq (by have := o.P5; omega)⟩)]
    by_cases y1 : y < 1
    · rw [if_pos y1, if_pos (Or.inl y1)]; rfl
    · rw [if_neg y1]
      by_cases y2 : 4 < y
      · rw [if_pos y2, if_pos (Or.inr y2)]; rfl
      · rw [if_neg y2, if_neg (fun q => q.elim y1 y2)]; rfl
  · rw [e.isP0 hx, Option.bind_some, if_neg (fun q => q rfl), if_neg hx]
theorem pt_c (o : SOk c S) (x y : Int32) : (ptS S x y = 0 ∧ ∃ p n, p < nP (sL S) ∧ 1 ≤ n ∧ n ≤ 4 ∧ x = nI p ∧ y = nI n) ∨ ((ptS S x y = 1 ∨ ptS S x y = 2) ∧ ¬ ptS S x y = 0) := by
  unfold ptS
  rcases arg_c x (nP (sL S)) (by have := o.P5; omega) with ⟨q, hq, rfl⟩ | hx
  · rw [if_pos ⟨nI_pos' (by have := o.P5; omega), nI_lt hq (by have := o.P5; omega)⟩]
    by_cases z : y < 1 ∨ 4 < y
    · rw [if_pos z]; right; exact ⟨Or.inr rfl, by decide⟩
    · rw [if_neg z]
      left
      refine ⟨rfl, q, ?_⟩
      obtain ⟨j, hj, rfl⟩ := nI_of (x := y) (fun w => z (Or.inl (Int32.lt_trans w (by decide))))
      refine ⟨j, hq, ?_, ?_, rfl, rfl⟩
      · have : ¬ nI j < (1 : Int32) := fun w => z (Or.inl w)
        rw [show (1 : Int32) = nI 1 from rfl, nI_ltI hj (by omega)] at this; omega
      · have : ¬ (4 : Int32) < nI j := fun w => z (Or.inr w)
        rw [show (4 : Int32) = nI 4 from rfl, nI_ltI (by omega) hj] at this; omega
  · rw [if_neg hx]; right; exact ⟨Or.inl rfl, by decide⟩
/-- the planner begins -/
theorem CI.bg (e : CI h lw S) (p : Nat) : ∃ h1, f_Planner_begin h (some 176) (some lw) (some 165) (nI p) = some h1 ∧ PlS h1 lw S p (sNw S) ∧ Fr h h1 100 285 := by
  obtain ⟨⟨T, tT⟩, ⟨da, db, dx, dy, dd⟩, ⟨F, p0, p1, p2⟩, rw0⟩ := e.2.2.2.2.2.2.2.1
  obtain ⟨h1, a1, a2, a3⟩ := p0.set (k := 0) (by omega) (.inr (.inr (some lw)))
  obtain ⟨h2, b1, b2, b3⟩ := a2.set (k := 3) (by omega) (.inl (nI p))
  have F12 := a3.tr b3
  have P2 : Fo h2 176 4 4 (plF lw p) := b2.gt (fun k hk => by
    have : k = 0 ∨ k = 1 ∨ k = 2 ∨ k = 3 := by omega
    rcases this with rfl | rfl | rfl | rfl
    · rfl
    · exact p1
    · exact p2
    · rfl)
  have tT2 := F12.lc (NowC.lc _ _) (by omega) tT
  have e2 : CI h2 lw S := e.sc (F12.wd (by omega) (by omega)) ⟨⟨T, tT2⟩, ⟨da, db, dx, dy, (F12.2 _ (by omega)).trans dd⟩, ⟨_, P2, rfl, rfl⟩, F12.lc RwC.lc (by omega) rw0⟩
  obtain ⟨h3, c1, c2, c3⟩ := cls_become tT2 e2.2.2.2.2.2.2.1 (by omega)
  have e3 := e2.tl c3 c2
  have P3 := P2.fr c3 (by omega)
  obtain ⟨h4, d1, d2, d3, d4⟩ := e3.lk 170
  refine ⟨h4, ?_, ⟨d2, d4.lc (NowC.lc _ _) (by omega) c2, d3, P3.fr d4 (by omega)⟩, ((F12.wd (by omega) (by omega)).tr (c3.wd (by omega) (by omega))).tr (d4.wd (by omega) (by omega))⟩
  unfold f_Planner_begin
  rw [a1, Option.bind_some, b1, Option.bind_some, P2.gr (x := some 170) (by omega) rfl, Option.bind_some, cl_o tT2.1, c1, Option.bind_some, P3.gr (x := some 175) (by omega) rfl, Option.bind_some, P3.gr (x := some 170) (by omega) rfl, Option.bind_some, cl_o (((F12.2 175 (by omega)).trans dd |> fun q => (c3.2 175 (by omega)).trans q)), d1, Option.bind_some]
/-- as all stands is a row of the layout -/
theorem now_eq {N : NowD} {t b B : Nat} (et : tur N p = nI t) (ht : t ≤ B) (hB : 2 ≤ B) (ec : cme N = nI b) : EqT p B (mkT N p 0 (hel N p) (if t < 2 then t else 2) 0 b) N := by
  refine ⟨?_, ?_, mk_e, ?_, ?_⟩
  · rw [mk_h, nI_0, Int32.add_zero]
  · rw [mk_c, ec]
  · rw [mk_l, if_pos rfl]
  · refine ⟨_, t, ?_, ht, mk_t, et, ?_⟩
    · split <;> omega
    · split <;> omega
theorem eq_bf {L : LawD} {T T1 : NowD} {g : NowD → Nat → Int64} (q : hel T p = hel T1 p) (w : ∀ c, g T c = g T1 c) : ∀ n, bfF L p g T n = bfF L p g T1 n
  | 0 => by show (hel T p, g T (hel T p)) = (hel T1 p, g T1 (hel T1 p)); rw [q, w]
  | n + 1 => by
    show (if (bfF L p g T n).2 < g T n then (n, g T n) else bfF L p g T n) = (if (bfF L p g T1 n).2 < g T1 n then (n, g T1 n) else bfF L p g T1 n)
    rw [eq_bf q w n, w]
/-- what the reference needs to begin -/
theorem mod_tn (e : Mst h ml S) (o : SOk c S) (lf : sLf S = true) (hp : p < nP (sL S)) : ∃ t b, t ≤ 600 ∧ tur (sNw S) p = nI t ∧ cme (sNw S) = nI b ∧ b < 2 ^ nR (sL S) ∧ cl h 12 (some 285) (f_M_turnsNow h (some 285) (nI p)) = some (nI (if t < 2 then t else 2)) := by
  obtain ⟨-, -, ⟨b, b1, b2, -⟩, g4, -⟩ := (o.2.1 lf).2.2.1
  have hc6 := o.2.2.2.2.2
  have ht : ∃ t, t ≤ 600 ∧ tur (sNw S) p = nI t := by
    rcases (g4 p hp).2 with y | ⟨t, j, j1, t1, t2, y1, -⟩
    · exact ⟨0, by omega, by rw [y.1]; rfl⟩
    · exact ⟨t, by omega, y1⟩
  obtain ⟨t, t1, t2⟩ := ht
  refine ⟨t, b, t1, t2, b2, b1, ?_⟩
  have r := e.row lf o.P5
  rw [e.cl]
  unfold f_M_turnsNow
  rw [e.vr, Option.bind_some, nI_5p, (r.1 p hp).2.1, Option.bind_some, t2]
  by_cases z : t < 2
  · rw [if_neg (show ¬ (2 : Int32) ≤ nI t from nI_ge (b := 2) z (by omega)), Option.bind_some, (r.1 p hp).2.1, Option.bind_some, t2, if_pos z]
  · rw [if_pos (show (2 : Int32) ≤ nI t from nI_le (a := 2) (by omega) (by omega)), if_neg z]; rfl
theorem cls_bestFirst {n m : Nat} (e : PlS h lw S p (sNw S)) (o : SOk c S) (hp : p < nP (sL S)) (hn : n = m + 1) (hm : m < 4) : ∃ h1, f_Planner_bestFirst h (some 176) (nI n) = some (nI (bfF (sL S) p (plS (sL S) p m) (sNw S) (nC (sL S))).1, h1) ∧ PlS h1 lw S p (sNw S) ∧ Fr h h1 100 285 := by
  subst hn
  have lf := o.lfP hp
  have ok := o.ok lf
  have okN := o.nk lf
  have h5 := o.P5
  have h6 := o.C5
  have hc6 := o.2.2.2.2.2
  have ng := (o.2.1 lf).2.2.1
  have q := by_all (lw := lw) o hp m (by omega) 52 (by omega)
  obtain ⟨g0, g1, g2, g3, g4⟩ := e.g
  obtain ⟨h1, a1, a2, a3⟩ := q h (sNw S) 999 c (hel (sNw S) p) e ng (by omega) (by omega) (okN p hp).1
  unfold f_Planner_bestFirst f_Planner_by
  rw [g2, Option.bind_some, gR_o e.2.1.1 rfl, Option.bind_some, g3, Option.bind_some, e.2.1.2.1.at (by omega) (by decide), Option.bind_some, e.cl, a1, Option.bind_some]
  refine exB (f := fun h9 => (nI (bfF (sL S) p (plS (sL S) p m) (sNw S) (nC (sL S))).1, h9)) (fun x => x.1 = nI (bfF (sL S) p (plS (sL S) p m) (sNw S) (nC (sL S))).1 ∧ PlS x.2 lw S p (sNw S) ∧ Fr h x.2 100 285) (pj_inv (fun i s => s.1 = nI (bfF (sL S) p (plS (sL S) p m) (sNw S) i).1 ∧ s.2.1 = (bfF (sL S) p (plS (sL S) p m) (sNw S) i).2 ∧ s.2.2.1 = nI i ∧ PlS s.2.2.2 lw S p (sNw S) ∧ Fr h s.2.2.2 100 285) _ (nC (sL S)) (by omega) ⟨rfl, rfl, rfl, a2, a3⟩ ?_ ?_) ?_
  · rintro i ⟨s1, s2, s3, s4⟩ hi ⟨x1, x2, x3, x4, x5⟩
    dsimp only at x1 x2 x3 x4 x5 ⊢
    subst x1 x2 x3
    left
    obtain ⟨h2, b1, b2, b3⟩ := q s4 (sNw S) 999 c i x4 ng (by omega) (by omega) hi
    rw [x4.g.1, Option.bind_some, gI_o x4.1.2.2.2.1.1 rfl, Option.bind_some, if_neg (nI_nle' hi (by omega)), x4.cl, b1, Option.bind_some, nI_s]
    dsimp only
    rw [show bfF (sL S) p (plS (sL S) p m) (sNw S) (i + 1) = if (bfF (sL S) p (plS (sL S) p m) (sNw S) i).2 < plS (sL S) p m (sNw S) i then (i, plS (sL S) p m (sNw S) i) else bfF (sL S) p (plS (sL S) p m) (sNw S) i from rfl]
    by_cases z : (bfF (sL S) p (plS (sL S) p m) (sNw S) i).2 < plS (sL S) p m (sNw S) i
    · rw [if_neg (fun w => absurd z (Int64.not_lt.mpr ((lg_cmp_le _ _).mp w))), if_pos z]
      exact ⟨_, rfl, rfl, rfl, rfl, b2, x5.tr b3⟩
    · rw [if_pos ((lg_cmp_le _ _).mpr (Int64.not_lt.mp z)), if_neg z]
      exact ⟨_, rfl, rfl, rfl, rfl, b2, x5.tr b3⟩
  · rintro ⟨s1, s2, s3, s4⟩ ⟨x1, x2, x3, x4, x5⟩
    dsimp only at x1 x2 x3 x4 x5 ⊢
    subst x1 x2 x3
    rw [x4.g.1, Option.bind_some, gI_o x4.1.2.2.2.1.1 rfl, Option.bind_some, if_pos (nI_le (Nat.le_refl _) (by omega))]
    exact ⟨_, rfl, rfl, x4, x5⟩
  · rintro ⟨x1, x2⟩ ⟨y1, y2, y3⟩
    dsimp only at y1 ⊢
    subst y1
    exact ⟨x2, rfl, y2, y3⟩
theorem op_plan (o : SOk c S) (hc : c < 600) (x y w : Int32) : Op (fun h => f_T_plan h (some 100) x y w) (fun h => f_M_plan h (some 285) x y w) c S := by
  rcases pt_c o x y with ⟨z, p, n, hp, hn1, hn, rfl, rfl⟩ | ⟨hv, z⟩
  · have lf := o.lfP hp
    have ok := o.ok lf
    have okN := o.nk lf
    have h5 := o.P5
    have h6 := o.C5
    have h4 := ok.2.2.2.1
    have hc6 := o.2.2.2.2.2
    have ng := (o.2.1 lf).2.2.1
    obtain ⟨a, ha, ea⟩ := ng.1
    obtain ⟨m, rfl⟩ : ∃ m, n = m + 1 := ⟨n - 1, by omega⟩
    have hbt := bt_le (L := sL S) (p := p) (hr := hou (sNw S)) (le := nI (m + 1)) (nR (sL S))
    obtain ⟨pw1, pw2⟩ := ter_p (btN (sL S) p (hou (sNw S)) (nI (m + 1)) (nR (sL S))) (by omega)
    refine ⟨frS (bsF (sL S) p (plS (sL S) p m) (sNw S)) (pwI (btN (sL S) p (hou (sNw S)) (nI (m + 1)) (nR (sL S)))) w, trS S 0, fun h lw e => ?_, fun h ml e => ?_, o.tr _ (by omega) (by omega)⟩
    · obtain ⟨h1, b1, b2, b3⟩ := e.bg p
      obtain ⟨h2, c1, c2, c3⟩ := bs_ok o hp (by_all (lw := lw) o hp m (by omega) 51 (by omega)) h1 (sNw S) 999 c b2 ng (by omega) (by omega)
      obtain ⟨h3, lw3, r1, r2, r3⟩ := c2.1.fm (a := bsF (sL S) p (plS (sL S) p m) (sNw S)) pw1 pw2 w
      refine ⟨h3, lw3, ?_, r2, (b3.tr c3).tr r3⟩
      obtain ⟨F, q0, -⟩ := e.2.2.2.2.2.2.2.1.2.2.1
      show f_T_plan h (some 100) (nI p) (nI (m + 1)) w = _
      unfold f_T_plan f_Planner_best
      rw [e.pt, z, Option.bind_some, if_pos rfl, gR_o e.2.1 rfl, Option.bind_some, gR_o e.2.1 rfl, Option.bind_some, gR_o e.2.1 rfl, Option.bind_some, cl_o q0, b1, Option.bind_some, gR_o b2.1.2.1 rfl, Option.bind_some, b2.cl, c1, Option.bind_some, gR_o c2.1.2.1 rfl, Option.bind_some]
      dsimp only
      rw [c2.cl, c2.sc ok hp, Option.bind_some]
      exact r1
    · obtain ⟨h1, s1, s2, s3⟩ := e.st
      obtain ⟨h2, p1, ⟨i, f, p2, p3⟩, p4⟩ := mod_plans s2 o lf hp ea (by omega) hn1 hn
      obtain ⟨t, b, t1, t2, t3, t4, t5⟩ := mod_tn p2.1 o lf hp
      have ev := now_eq (p := p) (N := sNw S) t2 t1 (by omega) t3
      have r := p2.1.row lf h5
      have htu : (if t < 2 then t else 2) < 3 := by split <;> omega
      obtain ⟨h3, b1, b2, b3, b4⟩ := mod_bestBy (he := hel (sNw S) p) (tu := if t < 2 then t else 2) (wh := 0) (ca := b) p2 o lf hp ea (by omega) p3 (show 0 < m + 1 by omega) hn (okN p hp).1 htu (Nat.le_refl 0) t4
      obtain ⟨h4', ml4, r1, r2, r3⟩ := b2.1.fc (a := bsF (sL S) p (plS (sL S) p m) (sNw S)) pw1 pw2 w
      refine ⟨h4', ml4, ?_, r2, (((s3.tr p4).tr (b4.wd (by omega) (by omega))).tr r3)⟩
      have ev2 : vaS (sL S) p (m + 1) (sNw S) 0 (hel (sNw S) p) (if t < 2 then t else 2) 0 b = bsF (sL S) p (plS (sL S) p m) (sNw S) := eq_bs ev.2.2.1 (fun c9 => eq_pl m 600 _ _ c9 ev (by omega))
      have rb := mod_rb (k := 0) (n := m + 1) b2 o lf hp ea (by omega) (by omega) hn
      rw [show (nI 0 : Int32) = 0 from rfl, Nat.add_zero a, Nat.sub_zero (m + 1), ← ea] at rb
      show f_M_plan h (some 285) (nI p) (nI (m + 1)) w = _
      unfold f_M_plan f_M_parts f_M_power
      rw [s1, Option.bind_some, s2.pt o, z, Option.bind_some, if_pos (by decide), p1, Option.bind_some, p2.1.vr, Option.bind_some, nI_z, (r.1 p hp).1, Option.bind_some, t5, Option.bind_some, Option.bind_some, r.2.1, Option.bind_some, t3]
      rw [show f_M_bestBy h2 (some 285) (nI p) 0 (nI (m + 1)) (nI (hel (sNw S) p)) (nI (if t < 2 then t else 2)) 0 (nI b) = f_M_bestBy h2 (some 285) (nI p) (nI 0) (nI (m + 1)) (nI (hel (sNw S) p)) (nI (if t < 2 then t else 2)) (nI 0) (nI b) from rfl, b1, Option.bind_some]
      dsimp only
      rw [b2.1.cl, rb, Option.bind_some, pw_loop (by omega), Option.bind_some, Option.bind_some, ev2]
      exact r1
  · refine ⟨-9223372036854775808, trS S (ptS S x y), fun h lw e => ?_, fun h ml e => ?_, o.tr _ (by omega) (by omega)⟩
    · obtain ⟨h1, lw1, r1, r2, r3⟩ := e.rL (ptS S x y)
      refine ⟨h1, lw1, ?_, r2, r3⟩
      show f_T_plan h (some 100) x y w = _
      unfold f_T_plan
      rw [e.pt, Option.bind_some, if_neg z]
      exact r1
    · obtain ⟨h1, s1, s2, s3⟩ := e.st
      obtain ⟨h2, ml2, r1, r2, r3⟩ := s2.nv (ptS S x y) (by rcases hv with q | q <;> rw [q] <;> decide)
      refine ⟨h2, ml2, ?_, r2, s3.tr r3⟩
      show f_M_plan h (some 285) x y w = _
      unfold f_M_plan
      rw [s1, Option.bind_some, s2.pt o, Option.bind_some, if_neg (by rcases hv with q | q <;> rw [q] <;> decide)]
      exact r1
theorem op_planFirst (o : SOk c S) (hc : c < 600) (x y : Int32) : Op (fun h => f_T_planFirst h (some 100) x y) (fun h => f_M_planFirst h (some 285) x y) c S := by
  rcases pt_c o x y with ⟨z, p, n, hp, hn1, hn, rfl, rfl⟩ | ⟨hv, z⟩
  · have lf := o.lfP hp
    have ok := o.ok lf
    have okN := o.nk lf
    have h5 := o.P5
    have h6 := o.C5
    have h4 := ok.2.2.2.1
    have hc6 := o.2.2.2.2.2
    have ng := (o.2.1 lf).2.2.1
    obtain ⟨a, ha, ea⟩ := ng.1
    obtain ⟨m, rfl⟩ : ∃ m, n = m + 1 := ⟨n - 1, by omega⟩
    have hbt := bt_le (L := sL S) (p := p) (hr := hou (sNw S)) (le := nI (m + 1)) (nR (sL S))
    obtain ⟨pw1, pw2⟩ := ter_p (btN (sL S) p (hou (sNw S)) (nI (m + 1)) (nR (sL S))) (by omega)
    refine ⟨nI (bfF (sL S) p (plS (sL S) p m) (sNw S) (nC (sL S))).1, trS S 0, fun h lw e => ?_, fun h ml e => ?_, o.tr _ (by omega) (by omega)⟩
    · obtain ⟨h1, b1, b2, b3⟩ := e.bg p
      obtain ⟨h2, c1, c2, c3⟩ := cls_bestFirst (m := m) b2 o hp rfl (by omega)
      obtain ⟨h3, lw3, r1, r2, r3⟩ := c2.1.fn (nI (bfF (sL S) p (plS (sL S) p m) (sNw S) (nC (sL S))).1)
      refine ⟨h3, lw3, ?_, r2, (b3.tr c3).tr r3⟩
      obtain ⟨F, q0, -⟩ := e.2.2.2.2.2.2.2.1.2.2.1
      show f_T_planFirst h (some 100) (nI p) (nI (m + 1)) = _
      unfold f_T_planFirst
      rw [e.pt, z, Option.bind_some, if_pos rfl, gR_o e.2.1 rfl, Option.bind_some, gR_o e.2.1 rfl, Option.bind_some, gR_o e.2.1 rfl, Option.bind_some, cl_o q0, b1, Option.bind_some, gR_o b2.1.2.1 rfl, Option.bind_some, b2.cl, c1, Option.bind_some]
      exact r1
    · obtain ⟨h1, s1, s2, s3⟩ := e.st
      obtain ⟨h2, p1, ⟨i, f, p2, p3⟩, p4⟩ := mod_plans s2 o lf hp ea (by omega) hn1 hn
      obtain ⟨t, b, t1, t2, t3, t4, t5⟩ := mod_tn p2.1 o lf hp
      have ev := now_eq (p := p) (N := sNw S) t2 t1 (by omega) t3
      have r := p2.1.row lf h5
      have htu : (if t < 2 then t else 2) < 3 := by split <;> omega
      obtain ⟨h3, b1, b2, b3, b4⟩ := mod_bestBy (he := hel (sNw S) p) (tu := if t < 2 then t else 2) (wh := 0) (ca := b) p2 o lf hp ea (by omega) p3 (show 0 < m + 1 by omega) hn (okN p hp).1 htu (Nat.le_refl 0) t4
      obtain ⟨h4', ml4, r1, r2, r3⟩ := b2.1.gd (nI (bfF (sL S) p (plS (sL S) p m) (sNw S) (nC (sL S))).1)
      refine ⟨h4', ml4, ?_, r2, (((s3.tr p4).tr (b4.wd (by omega) (by omega))).tr r3)⟩
      have ev2 : bfF (sL S) p (plS (sL S) p (m + 1 - 1 - 0)) (mkT (sNw S) p 0 (hel (sNw S) p) (if t < 2 then t else 2) 0 b) (nC (sL S)) = bfF (sL S) p (plS (sL S) p m) (sNw S) (nC (sL S)) := eq_bf ev.2.2.1 (fun c9 => eq_pl m 600 _ _ c9 ev (by omega)) _
      rw [ev2] at b3
      show f_M_planFirst h (some 285) (nI p) (nI (m + 1)) = _
      unfold f_M_planFirst
      rw [s1, Option.bind_some, s2.pt o, z, Option.bind_some, if_pos (by decide), p1, Option.bind_some, p2.1.vr, Option.bind_some, nI_z, (r.1 p hp).1, Option.bind_some, t5, Option.bind_some, Option.bind_some, r.2.1, Option.bind_some, t3]
      rw [show f_M_bestBy h2 (some 285) (nI p) 0 (nI (m + 1)) (nI (hel (sNw S) p)) (nI (if t < 2 then t else 2)) 0 (nI b) = f_M_bestBy h2 (some 285) (nI p) (nI 0) (nI (m + 1)) (nI (hel (sNw S) p)) (nI (if t < 2 then t else 2)) (nI 0) (nI b) from rfl, b1, Option.bind_some]
      dsimp only
      rw [b3, Option.bind_some]
      exact r1
  · refine ⟨-1, trS S (ptS S x y), fun h lw e => ?_, fun h ml e => ?_, o.tr _ (by omega) (by omega)⟩
    · obtain ⟨h1, lw1, r1, r2, r3⟩ := e.rf (ptS S x y)
      refine ⟨h1, lw1, ?_, r2, r3⟩
      show f_T_planFirst h (some 100) x y = _
      unfold f_T_planFirst
      rw [e.pt, Option.bind_some, if_neg z]
      exact r1
    · obtain ⟨h1, s1, s2, s3⟩ := e.st
      obtain ⟨h2, ml2, r1, r2, r3⟩ := s2.rf (ptS S x y) (by rcases hv with q | q <;> rw [q] <;> decide)
      refine ⟨h2, ml2, ?_, r2, s3.tr r3⟩
      show f_M_planFirst h (some 285) x y = _
      unfold f_M_planFirst
      rw [s1, Option.bind_some, s2.pt o, Option.bind_some, if_neg (by rcases hv with q | q <;> rw [q] <;> decide)]
      exact r1
theorem op_planBy (o : SOk c S) (hc : c < 600) (x y v w : Int32) : Op (fun h => f_T_planBy h (some 100) x y v w) (fun h => f_M_planBy h (some 285) x y v w) c S := by
  rcases arg_c v (nC (sL S)) (by have := o.C5; omega) with ⟨d, hd, rfl⟩ | hvv
  · have lf0 := o.lfC hd
    rcases pt_c o x y with ⟨z, p, n, hp, hn1, hn, rfl, rfl⟩ | ⟨hv, z⟩
    · have lf := o.lfP hp
      have ok := o.ok lf
      have okN := o.nk lf
      have h5 := o.P5
      have h6 := o.C5
      have h4 := ok.2.2.2.1
      have hc6 := o.2.2.2.2.2
      have ng := (o.2.1 lf).2.2.1
      obtain ⟨a, ha, ea⟩ := ng.1
      obtain ⟨m, rfl⟩ : ∃ m, n = m + 1 := ⟨n - 1, by omega⟩
      have hbt := bt_le (L := sL S) (p := p) (hr := hou (sNw S)) (le := nI (m + 1)) (nR (sL S))
      obtain ⟨pw1, pw2⟩ := ter_p (btN (sL S) p (hou (sNw S)) (nI (m + 1)) (nR (sL S))) (by omega)
      refine ⟨frS (plS (sL S) p m (sNw S) d) (pwI (btN (sL S) p (hou (sNw S)) (nI (m + 1)) (nR (sL S)))) w, trS S 0, fun h lw e => ?_, fun h ml e => ?_, o.tr _ (by omega) (by omega)⟩
      · obtain ⟨h1, b1, b2, b3⟩ := e.bg p
        obtain ⟨h2, c1, c2, c3⟩ := by_all (lw := lw) o hp m (by omega) 52 (by omega) h1 (sNw S) 999 c d b2 ng (by omega) (by omega) hd
        obtain ⟨h3, lw3, r1, r2, r3⟩ := c2.1.fm (a := plS (sL S) p m (sNw S) d) pw1 pw2 w
        refine ⟨h3, lw3, ?_, r2, (b3.tr c3).tr r3⟩
        obtain ⟨F, q0, -⟩ := e.2.2.2.2.2.2.2.1.2.2.1
        show f_T_planBy h (some 100) (nI p) (nI (m + 1)) (nI d) w = _
        unfold f_T_planBy f_Planner_by
        rw [e.isC1 hd h6, Option.bind_some, if_neg (by decide), e.pt, z, Option.bind_some, Option.bind_some, if_pos rfl, gR_o e.2.1 rfl, Option.bind_some, gR_o e.2.1 rfl, Option.bind_some, gR_o e.2.1 rfl, Option.bind_some, cl_o q0, b1, Option.bind_some, gR_o b2.1.2.1 rfl, Option.bind_some, b2.cl, c1, Option.bind_some, gR_o c2.1.2.1 rfl, Option.bind_some]
        dsimp only
        rw [c2.cl, c2.sc ok hp, Option.bind_some]
        exact r1
      · obtain ⟨h1, s1, s2, s3⟩ := e.st
        obtain ⟨h2, p1, ⟨i, f, p2, p3⟩, p4⟩ := mod_plans s2 o lf hp ea (by omega) hn1 hn
        obtain ⟨t, b, t1, t2, t3, t4, t5⟩ := mod_tn p2.1 o lf hp
        have ev := now_eq (p := p) (N := sNw S) t2 t1 (by omega) t3
        have r := p2.1.row lf h5
        have htu : (if t < 2 then t else 2) < 3 := by split <;> omega
        have mb := mod_by (he := hel (sNw S) p) (tu := if t < 2 then t else 2) (wh := 0) (ca := b) (d := d) p2 o lf hp ea (by omega) p3 (show 0 < m + 1 by omega) hn (okN p hp).1 htu (Nat.le_refl 0) t4 hd
        obtain ⟨h4', ml4, r1, r2, r3⟩ := p2.1.fc (a := plS (sL S) p m (sNw S) d) pw1 pw2 w
        refine ⟨h4', ml4, ?_, r2, (s3.tr p4).tr r3⟩
        have ev2 : plS (sL S) p (m + 1 - 1 - 0) (mkT (sNw S) p 0 (hel (sNw S) p) (if t < 2 then t else 2) 0 b) d = plS (sL S) p m (sNw S) d := eq_pl m 600 _ _ d ev (by omega)
        have rb := mod_rb (k := 0) (n := m + 1) p2 o lf hp ea (by omega) (by omega) hn
        rw [show (nI 0 : Int32) = 0 from rfl, Nat.add_zero a, Nat.sub_zero (m + 1), ← ea] at rb
        show f_M_planBy h (some 285) (nI p) (nI (m + 1)) (nI d) w = _
        unfold f_M_planBy f_M_parts f_M_power
        rw [s1, Option.bind_some, s2.isC1 lf hd h6, Option.bind_some, if_neg (by decide), s2.pt o, z, Option.bind_some, Option.bind_some, if_pos (by decide), p1, Option.bind_some, p2.1.vr, Option.bind_some, nI_z, (r.1 p hp).1, Option.bind_some, t5, Option.bind_some, Option.bind_some, r.2.1, Option.bind_some, t3]
        rw [show f_M_by h2 (some 285) (nI p) 0 (nI (m + 1)) (nI (hel (sNw S) p)) (nI (if t < 2 then t else 2)) 0 (nI b) (nI d) = f_M_by h2 (some 285) (nI p) (nI 0) (nI (m + 1)) (nI (hel (sNw S) p)) (nI (if t < 2 then t else 2)) (nI 0) (nI b) (nI d) from rfl, mb, Option.bind_some, p2.1.cl, rb, Option.bind_some, pw_loop (by omega), Option.bind_some, Option.bind_some, ev2]
        exact r1
    · refine ⟨-9223372036854775808, trS S (ptS S x y), fun h lw e => ?_, fun h ml e => ?_, o.tr _ (by omega) (by omega)⟩
      · obtain ⟨h1, lw1, r1, r2, r3⟩ := e.rL (ptS S x y)
        refine ⟨h1, lw1, ?_, r2, r3⟩
        show f_T_planBy h (some 100) x y (nI d) w = _
        unfold f_T_planBy
        rw [e.isC1 hd o.C5, Option.bind_some, if_neg (by decide), e.pt, Option.bind_some, Option.bind_some, if_neg z]
        exact r1
      · obtain ⟨h1, s1, s2, s3⟩ := e.st
        obtain ⟨h2, ml2, r1, r2, r3⟩ := s2.nv (ptS S x y) (by rcases hv with q | q <;> rw [q] <;> decide)
        refine ⟨h2, ml2, ?_, r2, s3.tr r3⟩
        show f_M_planBy h (some 285) x y (nI d) w = _
        unfold f_M_planBy
        rw [s1, Option.bind_some, s2.isC1 lf0 hd o.C5, Option.bind_some, if_neg (by decide), s2.pt o, Option.bind_some, Option.bind_some, if_neg (by rcases hv with q | q <;> rw [q] <;> decide)]
        exact r1
  · refine ⟨-9223372036854775808, trS S 1, fun h lw e => ?_, fun h ml e => ?_, o.tr _ (by omega) (by omega)⟩
    · obtain ⟨h1, lw1, r1, r2, r3⟩ := e.rL 1
      refine ⟨h1, lw1, ?_, r2, r3⟩
      show f_T_planBy h (some 100) x y v w = _
      unfold f_T_planBy
      rw [e.isC0 hvv, Option.bind_some, if_pos rfl, Option.bind_some, if_neg (by decide)]
      exact r1
    · obtain ⟨h1, s1, s2, s3⟩ := e.st
      obtain ⟨h2, ml2, r1, r2, r3⟩ := s2.nv 1 (by decide)
      refine ⟨h2, ml2, ?_, r2, s3.tr r3⟩
      show f_M_planBy h (some 285) x y v w = _
      unfold f_M_planBy
      rw [s1, Option.bind_some, s2.isC0 hvv, Option.bind_some, if_pos rfl, Option.bind_some, if_neg (by decide)]
      exact r1
end O1
