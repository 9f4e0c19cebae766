/-! the reference's plans: its rows -/
def mkT (N : NowD) (p k he tu wh ca : Nat) : NowD := (fun a q => if a = 0 ∧ q = 0 then hou N + nI k else if a = 0 ∧ q = 2 then nI ca else if a = 1 ∧ q = p then nI tu else if a = 3 ∧ q = p then (if wh = 0 then lat N p else hou N + nI (wh - 1)) else N.1 a q, fun q => if q = p then he else N.2 q)
section N1
variable {N : NowD} {p k he tu wh ca : Nat}
theorem mk_h : hou (mkT N p k he tu wh ca) = hou N + nI k := by simp [mkT, hou]
theorem mk_c : cme (mkT N p k he tu wh ca) = nI ca := by simp [mkT, cme]
theorem mk_t : tur (mkT N p k he tu wh ca) p = nI tu := by simp [mkT, tur]
theorem mk_l : lat (mkT N p k he tu wh ca) p = if wh = 0 then lat N p else hou N + nI (wh - 1) := by simp [mkT, lat]
theorem mk_e : hel (mkT N p k he tu wh ca) p = he := by simp [mkT, hel]
/-- the next row of the layout -/
theorem mk_st {d b : Nat} (ht : tu < 3) : EqT p 4 (mkT N p (k + 1) d (if d = he then tu else if 2 ≤ tu then tu else tu + 1) (if d = he then wh else k + 1) b) (set0 (stN (mkT N p k he tu wh ca) p d) 2 (nI b)) := by
  refine ⟨?_, ?_, ?_, ?_, ?_⟩
  · rw [mk_h, s0_h2, st_h, mk_h, Int32.add_assoc, nI_s]
  · rw [mk_c, s0_c2]
  · rw [mk_e, s0_e]
    unfold stN
    rw [s0_e, mk_e]
    by_cases z : d = he
    · rw [if_pos z, mk_e, z]
    · rw [if_neg z]
      show d = if p = p then d else _
      rw [if_pos rfl]
  · rw [mk_l, s0_l]
    unfold stN
    rw [s0_l, mk_e]
    by_cases z : d = he
    · rw [if_pos z, if_pos z, mk_l]
    · rw [if_neg z, if_neg z, if_neg (by omega)]
      rw [show lat (movN (mkT N p k he tu wh ca) p d 0) p = hou (mkT N p k he tu wh ca) from by simp [movN, lat, up1], mk_h]
      rfl
  · refine ⟨_, if d = he then tu else tu + 1, ?_, ?_, mk_t, ?_, ?_⟩
    · split
      · omega
      · split <;> omega
    · split <;> omega
    · rw [s0_t]
      unfold stN
      rw [s0_t, mk_e]
      by_cases z : d = he
      · rw [if_pos z, if_pos z, mk_t]
      · rw [if_neg z, if_neg z]
        rw [show tur (movN (mkT N p k he tu wh ca) p d 0) p = tur (mkT N p k he tu wh ca) p + 1 from by simp [movN, tur, up1], mk_t, nI_s]
    · by_cases z : d = he
      · rw [if_pos z, if_pos z]; exact Or.inl rfl
      · rw [if_neg z, if_neg z]
        by_cases y : 2 ≤ tu
        · rw [if_pos y]; right; omega
        · rw [if_neg y]; exact Or.inl rfl
end N1
def ixN (k he tu wh ca : Nat) : Nat := 1200 * k + (((he * 3 + tu) * 5 + wh) * 16 + ca)
def vaS (L : LawD) (p n : Nat) (N : NowD) (k he tu wh ca : Nat) : Int64 := bsF L p (plS L p (n - 1 - k)) (mkT N p k he tu wh ca)
def Tb (L : LawD) (p n : Nat) (N : NowD) (f : Nat → Int64) (kc hc tc wc cc : Nat) : Prop := ∀ k he tu wh ca, k < n → he < nC L → tu < 3 → wh ≤ k → ca < 2 ^ nR L → (kc < k ∨ (k = kc ∧ (he < hc ∨ (he = hc ∧ (tu < tc ∨ (tu = tc ∧ (wh < wc ∨ (wh = wc ∧ ca < cc)))))))) → f (ixN k he tu wh ca) = vaS L p n N k he tu wh ca
def PmS (h : PH) (ml : Option Nat) (i : Nat) (S : StD) (f : Nat → Int64) : Prop := Mst h ml S ∧ ml = some i ∧ ModV h 285 i (-1) (third (sL S)) ∧ MLawC h i (sL S) ∧ Fo h 291 51 6000 (fun k => .inr (.inl (f k)))
section N2
variable {h : PH} {i c p : Nat} {S : StD} {ml : Option Nat} {f : Nat → Int64}
theorem PmS.r23 (e : PmS h ml i S f) : gR h 12 (some 285) 23 = some (some 291) := by
  obtain ⟨F, e0, e1, -⟩ := e.1
  exact e0.gr (by omega) e1.2.2.2.2.2.2.2.2.2.2.2.2.1
theorem PmS.s24 (e : PmS h ml i S f) (lf : sLf S = true) (x : Int32) : ∃ h1, sF h 12 (some 285) 24 (.inl x) = some h1 ∧ PmS h1 ml i S f ∧ gI h1 12 (some 285) 24 = some x ∧ Fr h h1 285 286 := by
  obtain ⟨h1, a1, a2, a3, a4, a5⟩ := e.1.sf (k := 24) (.inl x) (by omega)
  exact ⟨h1, a1, ⟨a2, e.2.1, e.2.2.1.fv a5 (by omega), by
    obtain ⟨i1, m1, m2, m3⟩ := a2.ye lf
    cases e.2.1.symm.trans m1
    exact m3, e.2.2.2.2.fr a3 (by omega)⟩, gV_I a4, a3⟩
theorem PmS.tw (e : PmS h ml i S f) (lf : sLf S = true) {k : Nat} (hk : k < 6000) (v : Int64) : ∃ h1, sA h 51 (some 291) (nI k) (.inr (.inl v)) = some h1 ∧ PmS h1 ml i S (fun q => if q = k then v else f q) ∧ Fr h h1 291 292 := by
  obtain ⟨h1, a1, a2, a3⟩ := e.2.2.2.2.aset hk (by decide) (.inr (.inl v))
  have a4 : Fo h1 291 51 6000 (fun q => .inr (.inl (if q = k then v else f q))) := a2.gt (fun q hq => by
    unfold upF
    by_cases z : q = k
    · rw [if_pos z, if_pos z]
    · rw [if_neg z, if_neg z])
  have a5 : Mst h1 ml S := by
    obtain ⟨F, e0, e1, ⟨e2, ⟨f3, e3, e3'⟩, ⟨f4, e4, e4'⟩, ⟨f5, e5, e5'⟩⟩, ⟨⟨g6, e6⟩, e7, ⟨g8, e8⟩, ⟨g9, e9⟩, ⟨g10, e10⟩⟩, e11⟩ := e.1
    exact ⟨F, e0.fr a3 (by omega), e1, ⟨e2.fr a3 (by omega), ⟨f3, e3.fr a3 (by omega), e3'⟩, ⟨f4, e4.fr a3 (by omega), e4'⟩, ⟨f5, e5.fr a3 (by omega), e5'⟩⟩, ⟨⟨g6, e6.fr a3 (by omega)⟩, ⟨_, a4⟩, ⟨g8, e8.fr a3 (by omega)⟩, ⟨g9, e9.fr a3 (by omega)⟩, ⟨g10, e10.fr a3 (by omega)⟩⟩, e11.lt (fun i p q => a3.2 i (by omega))⟩
  refine ⟨h1, a1, ⟨a5, e.2.1, e.2.2.1.fr (a3.2 285 (by omega)), ?_, a4⟩, a3⟩
  obtain ⟨i1, m1, m2, m3⟩ := a5.ye lf
  cases e.2.1.symm.trans m1
  exact m3
theorem mod_ra (m1 : gR h 12 (some 285) 3 = some (some i)) (hL : MLawV h i (sL S)) (ok : LawOk (sL S)) (hv : gR h 12 (some 285) 15 = some (some 287)) (hr : MRow h 287 (nP (sL S)) (sNw S)) (hp : p < nP (sL S)) (k : Nat) : f_M_reasonsAt h (some 285) (nI p) (nI k) = some (nI (raN (sL S) p (hou (sNw S) + nI k) (nR (sL S)))) := by
  have h4 := ok.2.2.2.1
  have h5 := ok.2.2.1
  obtain ⟨⟨-, -, -, -, -, g5, -⟩, -, -, -, -, ⟨⟨a1, ha1, hA1⟩, -, ⟨a3, ha3, hA3⟩, -, -⟩, -⟩ := hL
  unfold f_M_reasonsAt
  rw [pj_for' (fun j => (nI (raN (sL S) p (hou (sNw S) + nI k) j), nI j)) (nI (raN (sL S) p (hou (sNw S) + nI k) (nR (sL S)))) (nR (sL S)) (by rw [nI_0]; rfl) (by omega) ?_ ?_]
  · rfl
  · intro j hj
    have q1 := (ok.2.2.2.2.2.2.2.1 j hj).1
    have f1 : aI h (some a1) (nI j) = some (nI (rpe (sL S) j)) := hA1 j hj
    dsimp only
    rw [m1, Option.bind_some, g5, Option.bind_some, if_neg (nI_nle' hj (by omega)), Option.bind_some, ha1, Option.bind_some, f1, Option.bind_some, nI_s, ra_s]
    by_cases z1 : rpe (sL S) j = p
    · rw [if_neg (by rw [z1]; exact fun q => q rfl), Option.bind_some, ha3, Option.bind_some, hA3 j hj, Option.bind_some, hv, Option.bind_some, hr.2.2.1, Option.bind_some]
      by_cases z2 : rho (sL S) j = hou (sNw S) + nI k
      · rw [if_neg (fun q => q z2), if_pos ⟨z1, z2⟩, Option.bind_some, sh1 j (by omega), nI_or]
      · rw [if_pos z2, if_neg (fun q => z2 q.2), Option.bind_some, Int32.or_zero]
    · rw [if_pos (fun q => z1 ((nI_eq (by omega) (by omega)).mp q)), if_neg (fun q => z1 q.1), Option.bind_some, Int32.or_zero]
  · dsimp only
    rw [m1, Option.bind_some, g5, Option.bind_some, if_pos (nI_le (Nat.le_refl _) (by omega))]
theorem pop_or : ∀ r, r < 6 → ∀ a, a < 2 ^ r → pop6 (a ||| 2 ^ r) = pop6 a + 1 := by decide +kernel
/-- an hour more -/
theorem bt_st {L : LawD} {a le : Nat} (lb : LawB L) (h4 : nR L ≤ 4) (ha : a < 2000) (hle : le < 100) (h1 : 0 < le) : ∀ m, m ≤ nR L → btN L p (nI a) (nI (le + 1)) m = btN L p (nI a) (nI le) m + pop6 (raN L p (nI (a + le)) m)
  | 0, _ => by
    show 0 = 0 + pop6 0
    rfl
  | m + 1, hm => by
    have ih := bt_st lb h4 ha hle h1 m (by omega)
    obtain ⟨⟨j, j1, j2, ej⟩, -⟩ := lb.2.1 m (by omega)
    rw [show btN L p (nI a) (nI (le + 1)) (m + 1) = (if rpe L m = p ∧ nI a < rho L m ∧ rho L m < nI a + nI (le + 1) then btN L p (nI a) (nI (le + 1)) m + 1 else btN L p (nI a) (nI (le + 1)) m) from rfl, show btN L p (nI a) (nI le) (m + 1) = (if rpe L m = p ∧ nI a < rho L m ∧ rho L m < nI a + nI le then btN L p (nI a) (nI le) m + 1 else btN L p (nI a) (nI le) m) from rfl, ra_s, ih, ej, nI_add, nI_add]
    have hl := ra_lt (L := L) (p := p) (hr := nI (a + le)) m
    simp only [nI_ltI (show a < 2 ^ 31 by omega) (show j < 2 ^ 31 by omega), nI_ltI (show j < 2 ^ 31 by omega) (show a + (le + 1) < 2 ^ 31 by omega), nI_ltI (show j < 2 ^ 31 by omega) (show a + le < 2 ^ 31 by omega), nI_eq (show j < 2 ^ 31 by omega) (show a + le < 2 ^ 31 by omega)]
    by_cases z : rpe L m = p
    · by_cases y : j = a + le
      · rw [if_pos ⟨z, by omega, by omega⟩, if_neg (fun q => by omega), if_pos ⟨z, y⟩, pop_or m (by omega) _ hl]
        omega
      · rw [if_neg (show ¬ (rpe L m = p ∧ j = a + le) from fun q => y q.2)]
        by_cases w : a < j ∧ j < a + le
        · rw [if_pos ⟨z, by omega, by omega⟩, if_pos ⟨z, by omega, by omega⟩]; omega
        · rw [if_neg (fun q => w (by omega)), if_neg (fun q => w (by omega))]
    · rw [if_neg (fun q => z q.1), if_neg (fun q => z q.1), if_neg (fun q => z q.1)]
theorem bt_1 {L : LawD} {a : Nat} (lb : LawB L) (ha : a < 2000) : ∀ m, m ≤ nR L → btN L p (nI a) (nI 1) m = 0
  | 0, _ => rfl
  | m + 1, hm => by
    have ih := bt_1 lb ha m (by omega)
    obtain ⟨⟨j, j1, j2, ej⟩, -⟩ := lb.2.1 m (by omega)
    rw [show btN L p (nI a) (nI 1) (m + 1) = (if rpe L m = p ∧ nI a < rho L m ∧ rho L m < nI a + nI 1 then btN L p (nI a) (nI 1) m + 1 else btN L p (nI a) (nI 1) m) from rfl, ih, ej, nI_add]
    simp only [nI_ltI (show a < 2 ^ 31 by omega) (show j < 2 ^ 31 by omega), nI_ltI (show j < 2 ^ 31 by omega) (show a + 1 < 2 ^ 31 by omega)]
    rw [if_neg (fun q => by omega)]
theorem mod_rb {a k n : Nat} (e : PmS h ml i S f) (o : SOk c S) (lf : sLf S = true) (hp : p < nP (sL S)) (ea : hou (sNw S) = nI a) (ha : a < 1500) (hk : k < n) (hn : n ≤ 4) : cl h 12 (some 285) (f_M_reasonsBehind h (some 285) (nI p) (nI k) (nI n)) = some (nI (btN (sL S) p (nI (a + k)) (nI (n - k)) (nR (sL S)))) := by
  have ok := o.ok lf
  have lb := (o.2.1 lf).2.1
  have h4 := ok.2.2.2.1
  have mr := fun j => mod_ra (p := p) e.2.2.1.1 (e.2.2.2.1.v ok) ok e.1.vr (e.1.row lf o.P5) hp j
  rw [e.1.cl]
  unfold f_M_reasonsBehind
  rw [pj_for' (fun j => (nI (btN (sL S) p (nI (a + k)) (nI (j + 1)) (nR (sL S))), nI (k + 1 + j))) (nI (btN (sL S) p (nI (a + k)) (nI (n - k)) (nR (sL S)))) (n - k - 1) (by rw [nI_s, bt_1 lb (by omega) _ (Nat.le_refl _)]; rfl) (by omega) ?_ ?_]
  · rfl
  · intro j hj
    have hl := ra_lt (L := sL S) (p := p) (hr := hou (sNw S) + nI (k + 1 + j)) (nR (sL S))
    have h16 : 2 ^ nR (sL S) ≤ 2 ^ 4 := Nat.pow_le_pow_right (by omega) h4
    dsimp only
    rw [if_neg (nI_nle' (show k + 1 + j < n by omega) (by omega)), e.1.cl, mr, Option.bind_some, bits_M (by omega), Option.bind_some, nI_add, nI_s]
    rw [show k + 1 + j + 1 = k + 1 + (j + 1) by omega, bt_st (le := j + 1) lb h4 (by omega) (by omega) (by omega) _ (Nat.le_refl _), ea, nI_add, show a + (k + 1 + j) = a + k + (j + 1) by omega]
  · dsimp only
    rw [if_pos (nI_le (by omega) (by omega)), show n - k - 1 + 1 = n - k by omega]
theorem mod_ago {a k wh he tu ca : Nat} (e : PmS h ml i S f) (o : SOk c S) (lf : sLf S = true) (hp : p < nP (sL S)) (ea : hou (sNw S) = nI a) (ha : a < 1500) (hwh : wh ≤ k) (hk : k < 10) : cl h 12 (some 285) (f_M_ago h (some 285) (nI p) (nI wh) (nI k)) = some (agoS (mkT (sNw S) p k he tu wh ca) p) := by
  have r := (e.1.row lf o.P5)
  rw [e.1.cl]
  unfold f_M_ago agoS
  rw [mk_l, mk_h]
  by_cases z : wh = 0
  · subst z
    rw [if_pos (by decide), e.1.vr, Option.bind_some, nI_15p, (r.1 p hp).2.2.2, Option.bind_some, if_pos rfl]
    by_cases y : lat (sNw S) p = -2
    · rw [if_neg (fun q => q y), if_pos y]
    · rw [if_pos y, if_neg y, Option.bind_some, r.2.2.1, Option.bind_some, Option.bind_some, (r.1 p hp).2.2.2, Option.bind_some]
  · rw [if_neg (nI_nle (by omega) (by omega)), if_neg z, ea, nI_add, nI_add]
    rw [if_neg (fun q => by
      have := nI_pos (n := a + (wh - 1)) (by omega)
      rw [q] at this
      exact this (by decide))]
    obtain ⟨w, rfl⟩ : ∃ w, wh = w + 1 := ⟨wh - 1, by omega⟩
    rw [nI_pred, pk_sub (by omega), pk_sub (by omega)]
    congr 2
    omega
theorem sub_d : ∀ x, x < 16 → ∀ s, s < 16 → ((nI x &&& (nI s ^^^ (-1 : Int32))) = 0 ↔ x ||| s = s) := by decide +kernel
theorem st_ix {he tu wh x : Nat} : f_M_state h (nI he) (nI tu) (nI wh) (nI x) = some (nI (((he * 3 + tu) * 5 + wh) * 16 + x)) := by
  unfold f_M_state
  rw [show (3 : Int32) = nI 3 from rfl, show (5 : Int32) = nI 5 from rfl, show (16 : Int32) = nI 16 from rfl, pk_mul, nI_add, pk_mul, nI_add, pk_mul, nI_add]
theorem mod_behind {a k n d tu wh ca : Nat} (e : PmS h ml i S f) (o : SOk c S) (lf : sLf S = true) (hp : p < nP (sL S)) (ea : hou (sNw S) = nI a) (hk : k + 1 < n) (hn : n ≤ 4) (hd : d < 5) (ht : tu < 3) (hw : wh < 5) (hca : ca < 2 ^ nR (sL S)) : cl h 12 (some 285) (f_M_behind h (some 285) (nI p) (nI k) (nI n) (nI d) (nI tu) (nI wh) (nI ca)) = some (chN (sL S) p (hou (sNw S) + nI (k + 1)) (fun b => f (ixN (k + 1) d tu wh b)) (nR (sL S)) ca) := by
  have ok := o.ok lf
  have lb := (o.2.1 lf).2.1
  have h4 := ok.2.2.2.1
  have h16 : 2 ^ nR (sL S) ≤ 2 ^ 4 := Nat.pow_le_pow_right (by omega) h4
  have mr := fun j => mod_ra (p := p) e.2.2.1.1 (e.2.2.2.1.v ok) ok e.1.vr (e.1.row lf o.P5) hp j
  obtain ⟨⟨-, -, -, -, -, g5, -⟩, -, -, -, -, ⟨-, -, -, ⟨a4, ha4, hA4⟩, -⟩, -⟩ := e.2.2.2.1.v ok
  have m1 := e.2.2.1.1
  rw [e.1.cl]
  unfold f_M_behind
  rw [nI_s, if_pos (fun q => by have := (nI_eq (by omega) (by omega)).mp q; omega), e.1.cl, mr, Option.bind_some, ch_all h4]
  have hs := ra_lt (L := sL S) (p := p) (hr := hou (sNw S) + nI (k + 1)) (nR (sL S))
  generalize hss : raN (sL S) p (hou (sNw S) + nI (k + 1)) (nR (sL S)) = s at *
  rw [pj_for' (fun x => (sm (fun x => if x ||| s = s then Pn (sL S) s x (nR (sL S)) * f (ixN (k + 1) d tu wh (ca ||| x)) else 0) x, nI x)) (sm (fun x => if x ||| s = s then Pn (sL S) s x (nR (sL S)) * f (ixN (k + 1) d tu wh (ca ||| x)) else 0) 16) 16 (by rw [nI_0]; rfl) (by omega) ?_ ?_]
  · rfl
  · intro x hx
    dsimp only
    rw [if_neg (show ¬ (16 : Int32) ≤ nI x from nI_nle' (b := 16) hx (by omega)), nI_s]
    show _ = some (Sum.inl (sm (fun x => if x ||| s = s then Pn (sL S) s x (nR (sL S)) * f (ixN (k + 1) d tu wh (ca ||| x)) else 0) x + (if x ||| s = s then Pn (sL S) s x (nR (sL S)) * f (ixN (k + 1) d tu wh (ca ||| x)) else 0), nI (x + 1)))
    by_cases z : x ||| s = s
    · rw [if_pos ((sub_d x hx s (by omega)).mpr z), if_pos z]
      rw [pj_for' (fun r => (Pn (sL S) s x r, nI r)) (Pn (sL S) s x (nR (sL S))) (nR (sL S)) (by rw [nI_0]; rfl) (by omega) ?_ ?_]
      · have hix : ca ||| x < 16 := Nat.or_lt_two_pow (n := 4) (by omega) hx
        rw [Option.bind_some, e.r23, Option.bind_some, nI_or, st_ix, Option.bind_some, show (1200 : Int32) = nI 1200 from by decide, pk_mul, nI_add]
        rw [show aL h (some 291) (nI (1200 * (k + 1) + (((d * 3 + tu) * 5 + wh) * 16 + (ca ||| x)))) = some (f (ixN (k + 1) d tu wh (ca ||| x))) from e.2.2.2.2.aL (by omega) (by decide) rfl, Option.bind_some]
      · intro r hr
        obtain ⟨-, ⟨jo, jo1, ejo⟩⟩ := lb.2.1 r hr
        dsimp only
        rw [m1, Option.bind_some, g5, Option.bind_some, if_neg (nI_nle' hr (by omega)), mod_bit, Option.bind_some, nI_s]
        show _ = some (Sum.inl ((if s.testBit r = true then Pn (sL S) s x r * wt (sL S) s r x else Pn (sL S) s x r), nI (r + 1)))
        by_cases y : s.testBit r = true
        · rw [if_pos ((bit_d s (by omega) r (by omega)).mpr y), if_neg (by decide), if_pos y, mod_bit, Option.bind_some]
          unfold wt
          rw [if_pos y]
          by_cases w : x.testBit r = true
          · rw [if_pos ((bit_d x (by omega) r (by omega)).mpr w), if_neg (by decide), if_pos w, Option.bind_some, ha4, Option.bind_some, hA4 r hr, Option.bind_some, Option.bind_some]
          · rw [if_neg (fun q => w ((bit_d x (by omega) r (by omega)).mp q)), if_pos rfl, if_neg w, Option.bind_some, ha4, Option.bind_some, hA4 r hr, Option.bind_some, Option.bind_some]
            rw [ejo, show (100 : Int32) = nI 100 from by decide, pk_sub jo1, nI_l (by omega), nI_l (by omega), show (100 : Int64) = lN 100 from by decide, lN_sub jo1]
        · rw [if_neg (fun q => y ((bit_d s (by omega) r (by omega)).mp q)), if_pos rfl, if_neg y]
      · dsimp only
        rw [m1, Option.bind_some, g5, Option.bind_some, if_pos (nI_le (Nat.le_refl _) (by omega))]
    · rw [if_neg (fun q => z ((sub_d x hx s (by omega)).mp q)), if_neg z, Int64.add_zero]
  · dsimp only
    rw [if_pos (by decide)]
theorem ch_cg {L : LawD} {hr : Int32} {g g1 : Nat → Int64} (q : ∀ b, b < 2 ^ nR L → g b = g1 b) : ∀ j, j ≤ nR L → ∀ b, b < 2 ^ nR L → chN L p hr g j b = chN L p hr g1 j b
  | 0, _, b, hb => q b hb
  | j + 1, hj, b, hb => by
    have ih := ch_cg (hr := hr) q j (by omega)
    show (if rpe L (nR L - (j + 1)) = p ∧ rho L (nR L - (j + 1)) = hr then _ else _) = (if rpe L (nR L - (j + 1)) = p ∧ rho L (nR L - (j + 1)) = hr then _ else _)
    rw [ih b hb, ih _ (Nat.or_lt_two_pow hb (Nat.pow_lt_pow_right (by omega) (by omega)))]
theorem mod_by {a k n he tu wh ca d : Nat} (e : PmS h ml i S f) (o : SOk c S) (lf : sLf S = true) (hp : p < nP (sL S)) (ea : hou (sNw S) = nI a) (ha : a < 1500) (t : Tb (sL S) p n (sNw S) f k 0 0 0 0) (hk : k < n) (hn : n ≤ 4) (hhe : he < nC (sL S)) (ht : tu < 3) (hw : wh ≤ k) (hca : ca < 2 ^ nR (sL S)) (hd : d < nC (sL S)) : cl h 12 (some 285) (f_M_by h (some 285) (nI p) (nI k) (nI n) (nI he) (nI tu) (nI wh) (nI ca) (nI d)) = some (plS (sL S) p (n - 1 - k) (mkT (sNw S) p k he tu wh ca) d) := by
  have ok := o.ok lf
  have lb := (o.2.1 lf).2.1
  have h4 := ok.2.2.2.1
  have h6 := o.C5
  have h16 : 2 ^ nR (sL S) ≤ 2 ^ 4 := Nat.pow_le_pow_right (by omega) h4
  have hb := bt_le (L := sL S) (p := p) (hr := nI (a + k)) (le := nI (n - k)) (nR (sL S))
  rw [e.1.cl]
  unfold f_M_by f_M_power
  have j3 : (if nI d = nI he then (some (0 : Int32)) else (some (1 : Int32)) : Option Int32) = some (if d = he then 0 else 1) := by
    by_cases z : d = he
    · rw [if_pos (by rw [z]), if_pos z]
    · rw [if_neg (fun q => z ((nI_eq (by omega) (by omega)).mp q)), if_neg z]
  have j7 : (if (if d = he then (0 : Int32) else 1) = 0 then (some (nI tu)) else (if (2 : Int32) ≤ nI tu then (some (nI tu)) else (some (nI tu + (1 : Int32)))) : Option Int32) = some (nI (if d = he then tu else if 2 ≤ tu then tu else tu + 1)) := by
    by_cases z : d = he
    · rw [if_pos z, if_pos rfl, if_pos z]
    · rw [if_neg z, if_neg (by decide), if_neg z]
      by_cases y : 2 ≤ tu
      · rw [if_pos (show (2 : Int32) ≤ nI tu from nI_le (a := 2) y (by omega)), if_pos y]
      · rw [if_neg (show ¬ (2 : Int32) ≤ nI tu from nI_ge (b := 2) (by omega) (by omega)), if_neg y, nI_s]
  have j8 : (if (if d = he then (0 : Int32) else 1) = 0 then (some (nI wh)) else (some (nI k + (1 : Int32))) : Option Int32) = some (nI (if d = he then wh else k + 1)) := by
    by_cases z : d = he
    · rw [if_pos z, if_pos rfl, if_pos z]
    · rw [if_neg z, if_neg (by decide), if_neg z, nI_s]
  rw [mod_ago (he := he) (tu := tu) (ca := ca) e o lf hp ea ha hw (by omega), Option.bind_some, e.1.cl, mod_taxBy e.2.2.1 (e.2.2.2.1.v ok) ok hp hhe hd, Option.bind_some, j3, Option.bind_some, mod_rb e o lf hp ea ha hk hn, Option.bind_some, pw_loop (by omega), Option.bind_some, Option.bind_some, e.1.cl, mod_worth e.2.2.1 (e.2.2.2.1.v ok) ok (nI ca) hp hd, Option.bind_some, j7, Option.bind_some, j8, Option.bind_some]
  have lef : worS (sL S) (nI ca) p d - taxS (sL S) (-1) (third (sL S)) p he d (nI tu) (agoS (mkT (sNw S) p k he tu wh ca) p) = lefS (sL S) (mkT (sNw S) p k he tu wh ca) (-1) (third (sL S)) p d := by
    unfold lefS taxN
    rw [mk_c, mk_e, mk_t]
  by_cases z : k + 1 = n
  · unfold f_M_behind
    rw [nI_s, z, if_neg (fun q => q rfl), e.1.cl, Option.bind_some, lef, show n - k = 1 by omega, bt_1 lb (by omega) _ (Nat.le_refl _), show n - 1 - k = 0 by omega]
    show some (1 * _ + 0) = _
    rw [Int64.one_mul, Int64.add_zero]
    rfl
  · have htu : (if d = he then tu else if 2 ≤ tu then tu else tu + 1) < 3 := by split; omega; split <;> omega
    have hwh : (if d = he then wh else k + 1) ≤ k + 1 := by split <;> omega
    rw [mod_behind e o lf hp ea (by omega) hn (by omega) htu (by omega) hca, Option.bind_some, lef]
    obtain ⟨m, hm⟩ : ∃ m, n - 1 - k = m + 1 := ⟨n - 2 - k, by omega⟩
    rw [hm]
    show _ = some ((lefS (sL S) (mkT (sNw S) p k he tu wh ca) (-1) (third (sL S)) p d).toInt64 * pwI (btN (sL S) p (hou (mkT (sNw S) p k he tu wh ca)) (nI (m + 2)) (nR (sL S))) + chN (sL S) p (hou (mkT (sNw S) p k he tu wh ca) + 1) (fun b => bsF (sL S) p (plS (sL S) p m) (set0 (stN (mkT (sNw S) p k he tu wh ca) p d) 2 (nI b))) (nR (sL S)) (cme (mkT (sNw S) p k he tu wh ca)).toNatClampNeg)
    rw [mk_h, mk_c, nI_clamp (by omega), ea, nI_add, show n - k = m + 2 by omega, nI_add, nI_s, show a + (k + 1) = a + k + 1 by omega, Int64.mul_comm]
    congr 2
    refine ch_cg (fun b hb2 => ?_) _ (Nat.le_refl _) _ hca
    rw [t (k + 1) d _ _ b (by omega) hd htu hwh hb2 (Or.inl (by omega))]
    unfold vaS
    rw [show n - 1 - (k + 1) = m by omega]
    have q := mk_st (N := sNw S) (p := p) (k := k) (he := he) (tu := tu) (wh := wh) (ca := ca) (d := d) (b := b) ht
    exact eq_bs q.2.2.1 (fun c9 => eq_pl m 4 _ _ c9 q (by omega))
theorem mod_bestBy {a k n he tu wh ca : Nat} (e : PmS h ml i S f) (o : SOk c S) (lf : sLf S = true) (hp : p < nP (sL S)) (ea : hou (sNw S) = nI a) (ha : a < 1500) (t : Tb (sL S) p n (sNw S) f k 0 0 0 0) (hk : k < n) (hn : n ≤ 4) (hhe : he < nC (sL S)) (ht : tu < 3) (hw : wh ≤ k) (hca : ca < 2 ^ nR (sL S)) : ∃ h1, cl h 12 (some 285) (f_M_bestBy h (some 285) (nI p) (nI k) (nI n) (nI he) (nI tu) (nI wh) (nI ca)) = some (vaS (sL S) p n (sNw S) k he tu wh ca, h1) ∧ PmS h1 ml i S f ∧ gI h1 12 (some 285) 24 = some (nI (bfF (sL S) p (plS (sL S) p (n - 1 - k)) (mkT (sNw S) p k he tu wh ca) (nC (sL S))).1) ∧ Fr h h1 285 286 := by
  have ok := o.ok lf
  have h6 := o.C5
  have mb := fun h d (e : PmS h ml i S f) (hd : d < nC (sL S)) => mod_by (d := d) e o lf hp ea ha t hk hn hhe ht hw hca hd
  obtain ⟨h1, a1, a2, a3, a4⟩ := e.s24 lf (nI he)
  rw [e.1.cl]
  unfold f_M_bestBy
  rw [mb h he e hhe, Option.bind_some, a1, Option.bind_some]
  have hh : hel (mkT (sNw S) p k he tu wh ca) p = he := mk_e
  refine exB (f := fun h9 => (vaS (sL S) p n (sNw S) k he tu wh ca, h9)) (fun x => x.1 = vaS (sL S) p n (sNw S) k he tu wh ca ∧ PmS x.2 ml i S f ∧ gI x.2 12 (some 285) 24 = some (nI (bfF (sL S) p (plS (sL S) p (n - 1 - k)) (mkT (sNw S) p k he tu wh ca) (nC (sL S))).1) ∧ Fr h x.2 285 286) (pj_inv (fun j s => s.1 = (bfF (sL S) p (plS (sL S) p (n - 1 - k)) (mkT (sNw S) p k he tu wh ca) j).2 ∧ s.2.1 = nI j ∧ PmS s.2.2 ml i S f ∧ gI s.2.2 12 (some 285) 24 = some (nI (bfF (sL S) p (plS (sL S) p (n - 1 - k)) (mkT (sNw S) p k he tu wh ca) j).1) ∧ Fr h s.2.2 285 286) _ (nC (sL S)) (by omega) ⟨by show _ = plS (sL S) p (n - 1 - k) (mkT (sNw S) p k he tu wh ca) (hel (mkT (sNw S) p k he tu wh ca) p); rw [hh], rfl, a2, by show _ = some (nI (hel (mkT (sNw S) p k he tu wh ca) p)); rw [hh]; exact a3, a4⟩ ?_ ?_) ?_
  · rintro j ⟨s1, s2, s3⟩ hj ⟨x1, x2, x3, x4, x5⟩
    dsimp only at x1 x2 x3 x4 x5 ⊢
    subst x1 x2
    left
    rw [x3.2.2.1.1, Option.bind_some, (x3.2.2.2.1.v ok).1.2.2.1, Option.bind_some, if_neg (nI_nle' hj (by omega)), mb s3 j x3 hj, Option.bind_some, nI_s]
    rw [show bfF (sL S) p (plS (sL S) p (n - 1 - k)) (mkT (sNw S) p k he tu wh ca) (j + 1) = if (bfF (sL S) p (plS (sL S) p (n - 1 - k)) (mkT (sNw S) p k he tu wh ca) j).2 < plS (sL S) p (n - 1 - k) (mkT (sNw S) p k he tu wh ca) j then (j, plS (sL S) p (n - 1 - k) (mkT (sNw S) p k he tu wh ca) j) else bfF (sL S) p (plS (sL S) p (n - 1 - k)) (mkT (sNw S) p k he tu wh ca) j from rfl]
    by_cases z : (bfF (sL S) p (plS (sL S) p (n - 1 - k)) (mkT (sNw S) p k he tu wh ca) j).2 < plS (sL S) p (n - 1 - k) (mkT (sNw S) p k he tu wh ca) j
    · rw [if_pos ((lg_cmp_gt _ _).mpr z), if_pos z]
      obtain ⟨h2, b1, b2, b3, b4⟩ := x3.s24 lf (nI j)
      rw [b1, Option.bind_some]
      exact ⟨_, rfl, rfl, rfl, b2, b3, x5.tr b4⟩
    · rw [if_neg (fun q => z ((lg_cmp_gt _ _).mp q)), if_neg z]
      exact ⟨_, rfl, rfl, rfl, x3, x4, x5⟩
  · rintro ⟨s1, s2, s3⟩ ⟨x1, x2, x3, x4, x5⟩
    dsimp only at x1 x2 x3 x4 x5 ⊢
    subst x1 x2
    rw [x3.2.2.1.1, Option.bind_some, (x3.2.2.2.1.v ok).1.2.2.1, Option.bind_some, if_pos (nI_le (Nat.le_refl _) (by omega))]
    exact ⟨_, rfl, by rw [bf_bs]; rfl, x3, x4, x5⟩
  · rintro ⟨x1, x2⟩ ⟨y1, y2, y3, y4⟩
    dsimp only at y1 ⊢
    subst y1
    exact ⟨x2, rfl, y2, y3, y4⟩
/-- all hours behind the first are laid out -/
theorem mod_plans {a n : Nat} (e : Mst h ml S) (o : SOk c S) (lf : sLf S = true) (hp : p < nP (sL S)) (ea : hou (sNw S) = nI a) (ha : a < 1500) (hn1 : 1 ≤ n) (hn : n ≤ 4) : ∃ h1, cl h 12 (some 285) (f_M_plans h (some 285) (nI p) (nI n)) = some h1 ∧ (∃ i f, PmS h1 ml i S f ∧ Tb (sL S) p n (sNw S) f 0 0 0 0 0) ∧ Fr h h1 285 295 := by
  have ok := o.ok lf
  have h6 := o.C5
  have h4 := ok.2.2.2.1
  have h16 : 2 ^ nR (sL S) ≤ 2 ^ 4 := Nat.pow_le_pow_right (by omega) h4
  obtain ⟨h1, i, t1, t2, t3, t4, t5, t6⟩ := e.to lf
  obtain ⟨F, e0, e1, e2, ⟨e3, ⟨f0, e4⟩, e5⟩, e6⟩ := id t2
  have P1 : PmS h1 ml i S f0 := ⟨t2, t3, t4, t5, e4⟩
  rw [e.cl]
  unfold f_M_plans
  rw [t1, Option.bind_some]
  refine exB (f := fun x => x) (fun x => (∃ i f, PmS x ml i S f ∧ Tb (sL S) p n (sNw S) f 0 0 0 0 0) ∧ Fr h x 285 295) (pj_inv (fun j s => s.1 = nI (n - 1 - j) ∧ (∃ f, PmS s.2 ml i S f ∧ Tb (sL S) p n (sNw S) f (n - 1 - j) 0 0 0 0) ∧ Fr h s.2 285 295) _ (n - 1) (by omega) ⟨by rw [show (1 : Int32) = nI 1 from rfl, pk_sub hn1]; rfl, ⟨f0, P1, fun k he tu wh ca a1 a2 a3 a4 a5 a6 => by omega⟩, t6.wd (by omega) (by omega)⟩ ?_ ?_) (fun x q => ⟨x, rfl, q⟩)
  · rintro j ⟨s1, s2⟩ hj ⟨x1, ⟨f, x2, x3⟩, x4⟩
    dsimp only at x1 x2 x4 ⊢
    subst x1
    left
    generalize hkk : n - 1 - j = k at *
    rw [if_neg (nI_nle (show 0 < k by omega) (by omega))]
    refine exB (fun y => (∃ f, PmS y ml i S f ∧ Tb (sL S) p n (sNw S) f k (nC (sL S)) 0 0 0) ∧ Fr h y 285 295) (pj_inv (fun he s => s.1 = nI he ∧ (∃ f, PmS s.2 ml i S f ∧ Tb (sL S) p n (sNw S) f k he 0 0 0) ∧ Fr h s.2 285 295) _ (nC (sL S)) (by omega) ⟨rfl, ⟨f, x2, x3⟩, x4⟩ ?_ ?_) ?_
    · rintro he ⟨s1, s2⟩ hhe ⟨x1, ⟨f, x2, x3⟩, x4⟩
      dsimp only at x1 x2 x4 ⊢
      subst x1
      left
      rw [x2.2.2.1.1, Option.bind_some, (x2.2.2.2.1.v ok).1.2.2.1, Option.bind_some, if_neg (nI_nle' hhe (by omega))]
      refine exB (fun y => (∃ f, PmS y ml i S f ∧ Tb (sL S) p n (sNw S) f k he 3 0 0) ∧ Fr h y 285 295) (pj_inv (fun tu s => s.1 = nI tu ∧ (∃ f, PmS s.2 ml i S f ∧ Tb (sL S) p n (sNw S) f k he tu 0 0) ∧ Fr h s.2 285 295) _ 3 (by omega) ⟨rfl, ⟨f, x2, x3⟩, x4⟩ ?_ ?_) ?_
      · rintro tu ⟨s1, s2⟩ htu ⟨x1, ⟨f, x2, x3⟩, x4⟩
        dsimp only at x1 x2 x4 ⊢
        subst x1
        left
        rw [if_neg (show ¬ (3 : Int32) ≤ nI tu from nI_nle' (b := 3) htu (by omega))]
        refine exB (fun y => (∃ f, PmS y ml i S f ∧ Tb (sL S) p n (sNw S) f k he tu (k + 1) 0) ∧ Fr h y 285 295) (pj_inv (fun wh s => s.1 = nI wh ∧ (∃ f, PmS s.2 ml i S f ∧ Tb (sL S) p n (sNw S) f k he tu wh 0) ∧ Fr h s.2 285 295) _ (k + 1) (by omega) ⟨rfl, ⟨f, x2, x3⟩, x4⟩ ?_ ?_) ?_
        · rintro wh ⟨s1, s2⟩ hwh ⟨x1, ⟨f, x2, x3⟩, x4⟩
          dsimp only at x1 x2 x4 ⊢
          subst x1
          left
          rw [if_neg (nI_nlt (show wh ≤ k by omega) (by omega))]
          refine exB (fun y => (∃ f, PmS y ml i S f ∧ Tb (sL S) p n (sNw S) f k he tu wh (2 ^ nR (sL S))) ∧ Fr h y 285 295) (pj_inv (fun ca s => s.1 = nI ca ∧ (∃ f, PmS s.2 ml i S f ∧ Tb (sL S) p n (sNw S) f k he tu wh ca) ∧ Fr h s.2 285 295) _ (2 ^ nR (sL S)) (by omega) ⟨rfl, ⟨f, x2, x3⟩, x4⟩ ?_ ?_) ?_
          · rintro ca ⟨s1, s2⟩ hca ⟨x1, ⟨f, x2, x3⟩, x4⟩
            dsimp only at x1 x2 x4 ⊢
            subst x1
            left
            rw [x2.2.2.1.1, Option.bind_some, (x2.2.2.2.1.v ok).1.2.2.2.2.2.1, Option.bind_some, sh1 _ (by omega), if_neg (nI_ge hca (by omega)), x2.r23, Option.bind_some, st_ix, Option.bind_some]
            obtain ⟨h2, b1, b2, b3, b4⟩ := mod_bestBy (he := he) (tu := tu) (wh := wh) (ca := ca) x2 o lf hp ea ha (fun k9 he9 tu9 wh9 ca9 a1 a2 a3 a4 a5 a6 => x3 k9 he9 tu9 wh9 ca9 a1 a2 a3 a4 a5 (by omega)) (show k < n by omega) hn hhe htu (by omega) hca
            obtain ⟨h3, c1, c2, c3⟩ := b2.tw lf (k := ixN k he tu wh ca) (by unfold ixN; omega) (vaS (sL S) p n (sNw S) k he tu wh ca)
            rw [b1, Option.bind_some]
            dsimp only
            rw [show (1200 : Int32) * nI k + nI (((he * 3 + tu) * 5 + wh) * 16 + ca) = nI (ixN k he tu wh ca) from by rw [show (1200 : Int32) = nI 1200 from by decide, pk_mul, nI_add]; rfl, c1, Option.bind_some, nI_s]
            refine ⟨_, rfl, rfl, ⟨_, c2, fun k9 he9 tu9 wh9 ca9 a1 a2 a3 a4 a5 a6 => ?_⟩, (x4.tr (b4.wd (by omega) (by omega))).tr (c3.wd (by omega) (by omega))⟩
            by_cases z : ixN k9 he9 tu9 wh9 ca9 = ixN k he tu wh ca
            · rw [if_pos z]
              unfold ixN at z
              obtain ⟨rfl, rfl, rfl, rfl, rfl⟩ : k9 = k ∧ he9 = he ∧ tu9 = tu ∧ wh9 = wh ∧ ca9 = ca := by omega
              rfl
            · rw [if_neg z]
              refine x3 k9 he9 tu9 wh9 ca9 a1 a2 a3 a4 a5 ?_
              unfold ixN at z
              omega
          · rintro ⟨s1, s2⟩ ⟨x1, ⟨f, x2, x3⟩, x4⟩
            dsimp only at x1 x2 x4 ⊢
            subst x1
            rw [x2.2.2.1.1, Option.bind_some, (x2.2.2.2.1.v ok).1.2.2.2.2.2.1, Option.bind_some, sh1 _ (by omega), if_pos (nI_le (Nat.le_refl _) (by omega))]
            exact ⟨_, rfl, ⟨f, x2, x3⟩, x4⟩
          · rintro y ⟨⟨f, y1, y2⟩, y3⟩
            rw [nI_s]
            exact ⟨_, rfl, rfl, ⟨f, y1, fun k9 he9 tu9 wh9 ca9 a1 a2 a3 a4 a5 a6 => y2 k9 he9 tu9 wh9 ca9 a1 a2 a3 a4 a5 (by omega)⟩, y3⟩
        · rintro ⟨s1, s2⟩ ⟨x1, ⟨f, x2, x3⟩, x4⟩
          dsimp only at x1 x2 x4 ⊢
          subst x1
          rw [if_pos (nI_lt (by omega) (by omega))]
          exact ⟨_, rfl, ⟨f, x2, x3⟩, x4⟩
        · rintro y ⟨⟨f, y1, y2⟩, y3⟩
          rw [nI_s]
          exact ⟨_, rfl, rfl, ⟨f, y1, fun k9 he9 tu9 wh9 ca9 a1 a2 a3 a4 a5 a6 => y2 k9 he9 tu9 wh9 ca9 a1 a2 a3 a4 a5 (by omega)⟩, y3⟩
      · rintro ⟨s1, s2⟩ ⟨x1, ⟨f, x2, x3⟩, x4⟩
        dsimp only at x1 x2 x4 ⊢
        subst x1
        rw [if_pos (show (3 : Int32) ≤ nI 3 by decide)]
        exact ⟨_, rfl, ⟨f, x2, x3⟩, x4⟩
      · rintro y ⟨⟨f, y1, y2⟩, y3⟩
        rw [nI_s]
        exact ⟨_, rfl, rfl, ⟨f, y1, fun k9 he9 tu9 wh9 ca9 a1 a2 a3 a4 a5 a6 => y2 k9 he9 tu9 wh9 ca9 a1 a2 a3 a4 a5 (by omega)⟩, y3⟩
    · rintro ⟨s1, s2⟩ ⟨x1, ⟨f, x2, x3⟩, x4⟩
      dsimp only at x1 x2 x4 ⊢
      subst x1
      rw [x2.2.2.1.1, Option.bind_some, (x2.2.2.2.1.v ok).1.2.2.1, Option.bind_some, if_pos (nI_le (Nat.le_refl _) (by omega))]
      exact ⟨_, rfl, ⟨f, x2, x3⟩, x4⟩
    · rintro y ⟨⟨f, y1, y2⟩, y3⟩
      obtain ⟨k1, rfl⟩ : ∃ k1, k = k1 + 1 := ⟨k - 1, by omega⟩
      rw [pk_m1]
      refine ⟨_, rfl, by rw [show n - 1 - (j + 1) = k1 by omega], ⟨f, y1, ?_⟩, y3⟩
      rw [show n - 1 - (j + 1) = k1 by omega]
      exact fun k9 he9 tu9 wh9 ca9 a1 a2 a3 a4 a5 a6 => y2 k9 he9 tu9 wh9 ca9 a1 a2 a3 a4 a5 (by omega)
  · rintro ⟨s1, s2⟩ ⟨x1, ⟨f, x2, x3⟩, x4⟩
    dsimp only at x1 x2 x4 ⊢
    rw [Nat.sub_self] at x1 x3
    subst x1
    rw [if_pos (by decide)]
    exact ⟨_, rfl, ⟨i, f, x2, x3⟩, x4⟩
end N2
