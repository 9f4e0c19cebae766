/-! the class's reader: names, words, wholes -/
section Y3
variable {h : PH} {sp n f pl : Nat} {tx : Nat → Int32} {N : NmD} {A : AsD} {r : RsD}
theorem cg_sp (e : CG h sp tx n N A) (hn : n ≤ 900) (z : A.1.1 = 1) {s l : Nat} (hs : s + l ≤ n) (hl : ∀ i, i < l → isLt (tx (s + i)) = true) : Jvm.Pilot.CWaverTaxLaw_law_r8537_6f3a17.cl h 5 (some 160) (f_Reader_isSpelled h (some 160) (nI s) (nI (s + l))) = some (if pkN tx s l = wdA tx A then 1 else 0) := by
  obtain ⟨c0, c1, v, a, ⟨v1, v3, v4, v5, v6, v7, v9⟩, -⟩ := e
  obtain ⟨p1, p2, p3, p4, p5, p6, p7⟩ := c0.p
  obtain ⟨q1, q2⟩ := p6 z
  have inj : pkN tx s l = wdA tx A → l = A.1.2.2 - A.1.2.1 ∧ ∀ j, j < l → tx (s + j) = tx (A.1.2.1 + j) := fun q => pkN_inj l (A.1.2.2 - A.1.2.1) hl q2 q
  rw [a.cl]
  unfold f_Reader_isSpelled
  rw [a.g (k := 6) (by omega), Option.bind_some, a.g (k := 5) (by omega), Option.bind_some, v5, v6, pk_sub p1, pk_sub (show s ≤ s + l by omega), show s + l - s = l by omega]
  by_cases y : l = A.1.2.2 - A.1.2.1
  · rw [if_pos (by rw [y])]
    obtain ⟨x, l1, l2⟩ := pj_inv (step := fun s3 : Int32 => if nI l ≤ s3 then (some (.inr (.inl ())) : Option (Int32 ⊕ (Unit ⊕ Unit))) else ((gR h 5 (some 160) 0).bind fun v5 => (aB h v5 (nI s + s3)).bind fun v6 => (gR h 5 (some 160) 0).bind fun v7 => (some (nI A.1.2.1)).bind fun v8 => (aB h v7 (v8 + s3)).bind fun v9 => if v6 = v9 then (some (.inl (s3 + (1 : Int32)))) else (some (.inr (.inr ()))))) (fun j s9 => s9 = nI j ∧ ∀ k, k < j → tx (s + k) = tx (A.1.2.1 + k)) (fun x => (x = .inl () ∧ pkN tx s l = wdA tx A) ∨ (x = .inr () ∧ ¬ pkN tx s l = wdA tx A)) l (s0 := (0 : Int32)) (by omega) ⟨rfl, fun k hk => absurd hk (Nat.not_lt_zero k)⟩ (by
        rintro j s9 hj ⟨rfl, x2⟩
        rw [if_neg (nI_ge hj (by omega)), a.g0, Option.bind_some, nI_add, a.by (by omega), Option.bind_some, Option.bind_some, Option.bind_some, nI_add, a.by (by omega), Option.bind_some, nI_s]
        by_cases w : tx (s + j) = tx (A.1.2.1 + j)
        · rw [if_pos w]
          refine Or.inl ⟨_, rfl, rfl, fun k hk => ?_⟩
          by_cases u : k = j
          · rw [u]; exact w
          · exact x2 k (by omega)
        · rw [if_neg w]
          exact Or.inr ⟨_, rfl, Or.inr ⟨rfl, fun q => w ((inj q).2 j hj)⟩⟩) (by
        rintro s9 ⟨rfl, x2⟩
        rw [if_pos (nI_le (Nat.le_refl _) (by omega))]
        refine ⟨_, rfl, Or.inl ⟨rfl, ?_⟩⟩
        unfold wdA
        rw [← y]
        exact pkN_cg _ x2)
    rw [l1, Option.bind_some]
    rcases l2 with ⟨rfl, l3⟩ | ⟨rfl, l3⟩
    · rw [if_pos l3]
    · rw [if_neg l3]
  · rw [if_neg (fun q => y ((nI_eq (by omega) (by omega)).mp q)), if_neg (fun q => y (inj q).1)]
theorem cg_fn (e : CG h sp tx n N A) (hn : n ≤ 900) (z : A.1.1 = 1) : Jvm.Pilot.CWaverTaxLaw_law_r8537_6f3a17.cl h 5 (some 160) (f_Reader_findName h (some 160)) = some (lsI (fdN N (wdA tx A) N.1)) := by
  have spl := fun s l => cg_sp (s := s) (l := l) e hn z
  have ecl := fun {X : Type} (o : Option X) => e.cl o
  obtain ⟨c0, c1, v, a, ⟨v1, v3, v4, v5, v6, v7, v9⟩, ⟨f1, f2, f3, f4, b1, b2, b3, b4, b5⟩, -⟩ := id e
  rw [a.cl]
  unfold f_Reader_findName
  obtain ⟨x, l1, l2⟩ := pj_inv (step := fun s1 : Int32 => (gI h 5 (some 160) 9).bind fun v3 => if v3 ≤ s1 then (some (.inr (.inl ())) : Option (Int32 ⊕ (Unit ⊕ Int32))) else ((gR h 5 (some 160) 10).bind fun v4 => (aI h v4 s1).bind fun v5 => (gR h 5 (some 160) 11).bind fun v6 => (aI h v6 s1).bind fun v7 => (cl h 5 (some 160) (f_Reader_isSpelled h (some 160) v5 v7)).bind fun v8 => if v8 = 0 then (some (.inl (s1 + (1 : Int32)))) else (some (.inr (.inr s1))))) (fun k s => s = nI k ∧ ∀ j, j < k → ¬ (N.2 j).1 = wdA tx A) (fun x => (x = .inl () ∧ fdN N (wdA tx A) N.1 = none) ∨ (∃ i, x = .inr (nI i) ∧ fdN N (wdA tx A) N.1 = some i)) N.1 (s0 := (0 : Int32)) (by omega) ⟨rfl, fun j hj => absurd hj (Nat.not_lt_zero j)⟩ (by
      rintro k s hk ⟨rfl, x2⟩
      obtain ⟨⟨s, l, g1, g2, g3, g4, g5⟩, -, -⟩ := b5 k hk
      rw [a.g (k := 9) (by omega), Option.bind_some, v9, if_neg (nI_ge hk (by omega)), a.g10.1, Option.bind_some, b1.at (by omega) (by decide), Option.bind_some, a.g10.2.1, Option.bind_some, b2.at (by omega) (by decide), Option.bind_some, g1, g2, spl s l g3 g4, Option.bind_some, g5, nI_s]
      by_cases w : (N.2 k).1 = wdA tx A
      · rw [if_pos w, if_neg (by decide)]
        exact Or.inr ⟨_, rfl, Or.inr ⟨k, rfl, fd_st N.1 hk w x2⟩⟩
      · rw [if_neg w, if_pos rfl]
        refine Or.inl ⟨_, rfl, rfl, fun j hj => ?_⟩
        by_cases u : j = k
        · rw [u]; exact w
        · exact x2 j (by omega)) (by
      rintro s ⟨rfl, x2⟩
      rw [a.g (k := 9) (by omega), Option.bind_some, v9, if_pos (nI_le (Nat.le_refl _) (by omega))]
      exact ⟨_, rfl, Or.inl ⟨rfl, fd_nn x2⟩⟩)
  rw [l1, Option.bind_some]
  rcases l2 with ⟨rfl, l3⟩ | ⟨i, rfl, l3⟩
  · rw [l3]; rfl
  · rw [l3]; rfl
theorem cx_kw (e : CX h sp tx n N r) (hn : n ≤ 900) (hs : sp = 102 ∨ sp = 131) {i : Nat} (hi : i < 23) : ∃ h1, Jvm.Pilot.CWaverTaxLaw_law_r8537_6f3a17.cl h 5 (some 160) (f_Reader_keyword h (some 160) (some i)) = some h1 ∧ CX h1 sp tx n N (oKw tx n i r) ∧ Fq h h1 sp := by
  cases r with
  | inl f =>
    have e : CB h sp tx n f.1 f.2 := e
    refine ⟨h, ?_, e, Fq.rf⟩
    rw [e.cl]
    unfold f_Reader_keyword
    rw [e.g7.2.1, Option.bind_some, if_neg e.g7.2.2.2.2.2]
  | inr A =>
    have e : CG h sp tx n N A := e
    rw [e.cl]
    unfold f_Reader_keyword oKw
    rw [e.g5.2.1, Option.bind_some, if_pos rfl, cg_is e hn hi, Option.bind_some]
    dsimp only
    by_cases z : A.1.1 = 1 ∧ wdA tx A = pkC i
    · rw [if_pos z, if_neg (by decide), if_pos z]
      obtain ⟨h1, a1, a2, a3⟩ := cg_next e hn hs
      rw [a1, Option.bind_some]
      exact ⟨h1, rfl, a2, a3⟩
    · rw [if_neg z, if_pos rfl, if_neg z, e.g5.1, Option.bind_some]
      obtain ⟨h1, a1, a2, a3⟩ := cg_fail e hs (k := 1) (by omega) (by omega) A.1.2.1
      rw [show (1 : Int32) = nI 1 from rfl, a1, Option.bind_some]
      exact ⟨h1, rfl, a2, a3⟩
theorem cg_nu (e : CG h sp tx n N A) (hn : n ≤ 900) (z : A.1.1 = 2) : pj_it (X := Int32) (fun s4 : Int32 × Int32 => (gI h 5 (some 160) 6).bind fun v6 => if v6 ≤ s4.2 then (some (.inr s4.1)) else ((gR h 5 (some 160) 0).bind fun v7 => (aB h v7 s4.2).bind fun v8 => some (.inl ((((10 : Int32) * s4.1) + (v8 - (48 : Int32))), (s4.2 + (1 : Int32)))))) FU ((0 : Int32), nI A.1.2.1) = some (nI (nuA tx A)) := by
  obtain ⟨c0, c1, v, a, ⟨v1, v3, v4, v5, v6, v7, v9⟩, -⟩ := e
  obtain ⟨p1, p2, p3, p4, p5, p6, p7⟩ := c0.p
  obtain ⟨q1, q2⟩ := p7 z
  refine pj_for' (fun i => (nI (dcN tx A.1.2.1 i), nI (A.1.2.1 + i))) _ (A.1.2.2 - A.1.2.1) rfl (by omega) ?_ ?_
  · intro i hi
    obtain ⟨k, k1, k2, k3⟩ := isDg_v (q2 i hi)
    dsimp only
    rw [a.g (k := 6) (by omega), Option.bind_some, v6, if_neg (nI_ge (by omega) (by omega)), a.g0, Option.bind_some, a.by (by omega), Option.bind_some, nI_s]
    rw [show dcN tx A.1.2.1 (i + 1) = 10 * dcN tx A.1.2.1 i + ((tx (A.1.2.1 + i)).toNatClampNeg - 48) from rfl, k3, k2]
    rw [show nI (48 + k) - 48 = nI k from by rw [show (48 : Int32) = nI 48 from rfl, pk_sub (by omega)]; congr 1; omega, show (10 : Int32) = nI 10 from rfl, pk_mul, nI_add]
    rfl
  · dsimp only
    rw [a.g (k := 6) (by omega), Option.bind_some, v6, if_pos (nI_le (by omega) (by omega))]
    rfl
theorem nu_lt (c : CuOk tx n A.1) (z : A.1.1 = 2) : nuA tx A < 1000 := by
  obtain ⟨q1, q2⟩ := c.p.2.2.2.2.2.2 z
  have := dc_lt _ q2
  have h3 : 10 ^ (A.1.2.2 - A.1.2.1) ≤ 10 ^ 3 := Nat.pow_le_pow_right (by omega) q1
  unfold nuA
  omega
theorem cx_wh (e : CX h sp tx n N r) (hn : n ≤ 900) (hs : sp = 102 ∨ sp = 131) {lo hi : Nat} {x y : Int32} (hx : x = nI lo) (hy : y = nI hi) (h1 : lo < 2000) (h2 : hi < 2000) : ∃ h1, Jvm.Pilot.CWaverTaxLaw_law_r8537_6f3a17.cl h 5 (some 160) (f_Reader_whole h (some 160) x y) = some (nI (oWh tx n lo hi r).2, h1) ∧ CX h1 sp tx n N (oWh tx n lo hi r).1 ∧ Fq h h1 sp := by
  subst hx hy
  cases r with
  | inl f =>
    have e : CB h sp tx n f.1 f.2 := e
    refine ⟨h, ?_, e, Fq.rf⟩
    rw [e.cl]
    unfold f_Reader_whole
    rw [e.g7.2.1, Option.bind_some, if_neg e.g7.2.2.2.2.2]
    rfl
  | inr A =>
    have e : CG h sp tx n N A := e
    have p3 := e.1.p.2.2.1
    rw [e.cl]
    unfold f_Reader_whole oWh oBd
    rw [e.g5.2.1, Option.bind_some, if_pos rfl, e.g5.2.2.1, Option.bind_some]
    dsimp only
    by_cases z : A.1.1 = 2
    · have nl := nu_lt e.1 z
      rw [if_pos (by rw [z]; rfl), e.g5.1, Option.bind_some, cg_nu e hn z, Option.bind_some, if_neg (show ¬ ¬ A.1.1 = 2 from fun q => q z)]
      by_cases y1 : nuA tx A < lo
      · rw [if_pos (nI_lt y1 (by omega)), if_pos (Or.inl y1)]
        obtain ⟨h1, a1, a2, a3⟩ := cg_fail e hs (k := 4) (by omega) (by omega) A.1.2.1
        rw [Option.bind_some, show (4 : Int32) = nI 4 from rfl, a1, Option.bind_some]
        exact ⟨h1, rfl, a2, a3⟩
      · rw [if_neg (nI_nlt (by omega) (by omega))]
        by_cases y2 : hi < nuA tx A
        · rw [if_neg (nI_ge y2 (by omega)), if_pos (Or.inr y2)]
          obtain ⟨h1, a1, a2, a3⟩ := cg_fail e hs (k := 4) (by omega) (by omega) A.1.2.1
          rw [Option.bind_some, show (4 : Int32) = nI 4 from rfl, a1, Option.bind_some]
          exact ⟨h1, rfl, a2, a3⟩
        · rw [if_pos (nI_le (by omega) (by omega)), if_neg (by omega)]
          obtain ⟨h1, a1, a2, a3⟩ := cg_next e hn hs
          rw [a1, Option.bind_some]
          exact ⟨h1, rfl, a2, a3⟩
    · rw [if_neg (fun q => z ((nI_ec (x := 2) (k := 2) rfl (by omega) (by omega)).mp q)), if_pos (show ¬ A.1.1 = 2 from z), e.g5.1, Option.bind_some]
      obtain ⟨h1, a1, a2, a3⟩ := cg_fail e hs (k := 1) (by omega) (by omega) A.1.2.1
      rw [show (1 : Int32) = nI 1 from rfl, a1, Option.bind_some]
      exact ⟨h1, rfl, a2, a3⟩
theorem lsI_n (o : Option Nat) (q : ∀ i, o = some i → i < 100) : lsI o = -1 ↔ o = none := by
  cases o with
  | none => exact ⟨fun _ => rfl, fun _ => rfl⟩
  | some i =>
    constructor
    · intro w
      have w : nI i = -1 := w
      have := nI_pos (n := i) (by have := q i rfl; omega)
      rw [w] at this
      exact absurd (by decide) this
    · intro w; cases w
theorem ls_lt (w : Nat) : ∀ i, lsA w 9 = some i → i < 100 := by
  intro i hi
  rcases ls_c (w := w) 9 (by omega) with q | ⟨j, a, b, -⟩
  · rw [q] at hi; cases hi
  · rw [b] at hi; cases hi; omega
theorem cx_kn (e : CX h sp tx n N r) (hn : n ≤ 900) (hs : sp = 102 ∨ sp = 131) {s : Nat} {x : Int32} (hx : x = nI s) (hs9 : s < 100) (hN : ∀ k, k < N.1 → (N.2 k).2.1 < 100) : ∃ h1, Jvm.Pilot.CWaverTaxLaw_law_r8537_6f3a17.cl h 5 (some 160) (f_Reader_known h (some 160) x) = some (nI (oKn tx n N s r).2, h1) ∧ CX h1 sp tx n N (oKn tx n N s r).1 ∧ Fq h h1 sp := by
  subst hx
  cases r with
  | inl f =>
    have e : CB h sp tx n f.1 f.2 := e
    refine ⟨h, ?_, e, Fq.rf⟩
    rw [e.cl]
    unfold f_Reader_known
    rw [e.g7.2.1, Option.bind_some, if_neg e.g7.2.2.2.2.2]
    rfl
  | inr A =>
    have e : CG h sp tx n N A := e
    have p3 := e.1.p.2.2.1
    rw [e.cl]
    unfold f_Reader_known oKn oKo
    rw [e.g5.2.1, Option.bind_some, if_pos rfl, e.g5.2.2.1, Option.bind_some]
    dsimp only
    obtain ⟨h9, f1, f2, f3⟩ := cg_fail e hs (k := 1) (by omega) (by omega) A.1.2.1
    obtain ⟨h8, g1, g2, g3⟩ := cg_fail e hs (k := 2) (by omega) (by omega) A.1.2.1
    by_cases z : A.1.1 = 1
    · rw [if_neg (fun q => q (by rw [z]; rfl)), cg_ls e hn, Option.bind_some, if_pos z]
      by_cases y : lsA (wdA tx A) 9 = none
      · rw [if_pos ((lsI_n _ (ls_lt _)).mpr y), cg_fn e hn z, Option.bind_some, if_pos (show A.1.1 = 1 ∧ lsA (wdA tx A) 9 = none from ⟨z, y⟩)]
        cases hb : fdN N (wdA tx A) N.1 with
        | none =>
          rw [if_pos (show lsI none < 0 by decide), e.g5.1, Option.bind_some, show (2 : Int32) = nI 2 from rfl, g1, Option.bind_some]
          exact ⟨h8, rfl, g2, g3⟩
        | some i =>
          obtain ⟨i1, i2, -⟩ := fd_lt _ _ hb
          obtain ⟨c0, c1, v, a, -, ⟨t1, t2, t3, t4, b1, b2, b3, b4, b5⟩, -⟩ := id e
          obtain ⟨-, d3, d4⟩ := b5 i i1
          have hi16 : i < 16 := by omega
          rw [if_neg (show ¬ lsI (some i) < 0 from nI_pos (by omega)), a.g10.2.2.1, Option.bind_some]
          rw [show aI h (some 163) (lsI (some i)) = some (nI (N.2 i).2.1) from by rw [← d3]; exact b3.at hi16 (by decide), Option.bind_some]
          dsimp only
          by_cases w : (N.2 i).2.1 = s
          · rw [if_pos (by rw [w]), if_pos w]
            obtain ⟨h1, a1, a2, a3⟩ := cg_next e hn hs
            obtain ⟨-, -, v', a', -, ⟨t1', t2', t3', t4', b1', b2', b3', b4', b5'⟩, -⟩ := id a2
            rw [a1, Option.bind_some, a'.g10.2.2.2, Option.bind_some]
            rw [show aI h1 (some 164) (lsI (some i)) = some (nI (N.2 i).2.2) from by rw [← (b5' i i1).2.2]; exact b4'.at hi16 (by decide), Option.bind_some]
            exact ⟨h1, rfl, a2, a3⟩
          · rw [if_neg (fun q => w ((nI_eq (by have := hN i i1; omega) (by omega)).mp q)), if_neg w, e.g5.1, Option.bind_some, show (2 : Int32) = nI 2 from rfl, g1, Option.bind_some]
            exact ⟨h8, rfl, g2, g3⟩
      · rw [if_neg (fun q => y ((lsI_n _ (ls_lt _)).mp q)), if_neg (show ¬ (A.1.1 = 1 ∧ lsA (wdA tx A) 9 = none) from fun q => y q.2), e.g5.1, Option.bind_some, show (1 : Int32) = nI 1 from rfl, f1, Option.bind_some]
        exact ⟨h9, rfl, f2, f3⟩
    · rw [if_pos (fun q => z ((nI_ec (x := 1) (k := 1) rfl (by omega) (by omega)).mp q)), if_neg (show ¬ (A.1.1 = 1 ∧ lsA (wdA tx A) 9 = none) from fun q => z q.1), e.g5.1, Option.bind_some, show (1 : Int32) = nI 1 from rfl, f1, Option.bind_some]
      exact ⟨h9, rfl, f2, f3⟩
/-- a new name -/
theorem cg_nn (e : CG h sp tx n N A) (hn : n ≤ 900) (hs : sp = 102 ∨ sp = 131) {s num : Nat} {x : Int32} (hx : x = nI s) (hN : N.1 < 16) : ∃ h1, Jvm.Pilot.CWaverTaxLaw_law_r8537_6f3a17.cl h 5 (some 160) (f_Reader_newName h (some 160) x (nI num)) = some h1 ∧ CX h1 sp tx n (adN N (oFr tx n N (.inr A)).2 s num) (oFr tx n N (.inr A)).1 ∧ Fq h h1 sp := by
  subst hx
  have p3 := e.1.p.2.2.1
  have p1 := e.1.p.1
  have p2 := e.1.p.2.1
  rw [e.cl]
  unfold f_Reader_newName oFr
  rw [e.g5.2.2.1, Option.bind_some]
  dsimp only
  obtain ⟨h9, f1, f2, f3⟩ := cg_fail e hs (k := 1) (by omega) (by omega) A.1.2.1
  obtain ⟨h8, g1, g2, g3⟩ := cg_fail e hs (k := 3) (by omega) (by omega) A.1.2.1
  by_cases z : A.1.1 = 1
  · rw [if_neg (fun q => q (by rw [z]; rfl)), cg_ls e hn, Option.bind_some, if_pos z]
    by_cases y : lsA (wdA tx A) 9 = none
    · rw [if_pos ((lsI_n _ (ls_lt _)).mpr y), cg_fn e hn z, Option.bind_some, if_pos (show A.1.1 = 1 ∧ lsA (wdA tx A) 9 = none from ⟨z, y⟩)]
      by_cases hb : fdN N (wdA tx A) N.1 = none
      · rw [if_pos ((lsI_n _ (fun i hi => by have := (fd_lt _ _ hi).1; omega)).mpr hb), if_pos hb]
        dsimp only
        obtain ⟨c0, c1, v, a, ⟨v1, v3, v4, v5, v6, v7, v9⟩, ⟨t1, t2, t3, t4, b1, b2, b3, b4, b5⟩, d⟩ := id e
        obtain ⟨q1, q2⟩ := e.1.p.2.2.2.2.2.1 z
        obtain ⟨k1, x1, y1, z1⟩ := b1.set (p := N.1) hN (by decide) (nI A.1.2.1)
        have a' := a.fr z1 (by omega) (by omega)
        have b2' := b2.fr z1 (by omega)
        have b3' := b3.fr z1 (by omega)
        have b4' := b4.fr z1 (by omega)
        obtain ⟨k2, x2, y2, z2⟩ := b2'.set (p := N.1) hN (by decide) (nI A.1.2.2)
        have a'' := a'.fr z2 (by omega) (by omega)
        have b3'' := b3'.fr z2 (by omega)
        have b4'' := b4'.fr z2 (by omega)
        obtain ⟨k3, x3, y3, z3⟩ := b3''.set (p := N.1) hN (by decide) (nI s)
        have a3 := a''.fr z3 (by omega) (by omega)
        have b4''' := b4''.fr z3 (by omega)
        obtain ⟨k4, x4, y4, z4⟩ := b4'''.set (p := N.1) hN (by decide) (nI num)
        have a4 := a3.fr z4 (by omega) (by omega)
        obtain ⟨k5, x5, y5, z5⟩ := a4.set (k := 9) (by omega) (nI (N.1 + 1))
        have F : Fr h k5 160 165 := ((((z1.wd (by omega) (by omega)).tr (z2.wd (by omega) (by omega))).tr (z3.wd (by omega) (by omega))).tr (z4.wd (by omega) (by omega))).tr (z5.wd (by omega) (by omega))
        have G : CG k5 sp tx n (adN N (wdA tx A) s num) A := by
          refine ⟨c0, ⟨by show N.1 + 1 ≤ 16; omega, c1.2⟩, _, y5, ⟨v1, v3, v4, v5, v6, v7, rfl⟩, ⟨_, _, _, _, (((y1.fr z2 (by omega)).fr z3 (by omega)).fr z4 (by omega)).fr z5 (by omega), ((y2.fr z3 (by omega)).fr z4 (by omega)).fr z5 (by omega), (y3.fr z4 (by omega)).fr z5 (by omega), y4.fr z5 (by omega), fun k hk => ?_⟩, F.lc (LawC.lc _ _) (by omega) d⟩
          unfold up1
          by_cases w : k = N.1
          · rw [if_pos w, if_pos w, if_pos w, if_pos w, show (adN N (wdA tx A) s num).2 k = (wdA tx A, s, num) from if_pos w]
            refine ⟨⟨A.1.2.1, A.1.2.2 - A.1.2.1, rfl, by congr 1; omega, by omega, q2, rfl⟩, rfl, rfl⟩
          · rw [if_neg w, if_neg w, if_neg w, if_neg w, show (adN N (wdA tx A) s num).2 k = N.2 k from if_neg w]
            exact b5 k (by have hk : k < N.1 + 1 := hk; omega)
        obtain ⟨h1, w1, w2, w3⟩ := cg_next G hn hs
        refine ⟨h1, ?_, w2, (F.q1 (by omega) (by omega)).tr w3⟩
        rw [a.g (k := 9) (by omega), Option.bind_some, v9, if_neg (show ¬ (16 : Int32) ≤ nI N.1 from nI_ge (b := 16) hN (by omega)), a.g10.1, Option.bind_some, Option.bind_some, a.g (k := 5) (by omega), Option.bind_some, v5, x1, Option.bind_some, a'.g10.2.1, Option.bind_some, a'.g (k := 9) (by omega), Option.bind_some, a'.g (k := 6) (by omega), Option.bind_some, v9, v6, x2, Option.bind_some, a''.g10.2.2.1, Option.bind_some, a''.g (k := 9) (by omega), Option.bind_some, v9, x3, Option.bind_some, a3.g10.2.2.2, Option.bind_some, a3.g (k := 9) (by omega), Option.bind_some, v9, x4, Option.bind_some, a4.g (k := 9) (by omega), Option.bind_some, v9, nI_s, x5, Option.bind_some, w1, Option.bind_some]
      · rw [if_neg (fun q => hb ((lsI_n _ (fun i hi => by have := (fd_lt _ _ hi).1; omega)).mp q)), if_neg hb, e.g5.1, Option.bind_some, show (3 : Int32) = nI 3 from rfl, g1, Option.bind_some]
        exact ⟨h8, rfl, g2, g3⟩
    · rw [if_neg (fun q => y ((lsI_n _ (ls_lt _)).mp q)), if_neg (show ¬ (A.1.1 = 1 ∧ lsA (wdA tx A) 9 = none) from fun q => y q.2), e.g5.1, Option.bind_some, show (1 : Int32) = nI 1 from rfl, f1, Option.bind_some]
      exact ⟨h9, rfl, f2, f3⟩
  · rw [if_pos (fun q => z ((nI_ec (x := 1) (k := 1) rfl (by omega) (by omega)).mp q)), if_neg (show ¬ (A.1.1 = 1 ∧ lsA (wdA tx A) 9 = none) from fun q => z q.1), e.g5.1, Option.bind_some, show (1 : Int32) = nI 1 from rfl, f1, Option.bind_some]
    exact ⟨h9, rfl, f2, f3⟩
/-- the sort of a person -/
def psA (tx : Nat → Int32) (A : AsD) : Option Nat := if A.1.1 = 1 ∧ wdA tx A = pkC 12 then some 0 else if A.1.1 = 1 ∧ wdA tx A = pkC 13 then some 1 else if A.1.1 = 1 ∧ wdA tx A = pkC 14 then some 2 else if A.1.1 = 1 ∧ wdA tx A = pkC 15 then some 3 else none
def oPs (tx : Nat → Int32) (n : Nat) (r : RsD) : RsD × Nat := match r with
  | .inl f => (.inl f, 0)
  | .inr A => match psA tx A with
    | none => (.inl (1, A.1.2.1), 0)
    | some i => (.inr (nxT tx n A.1.2.2, A.2), i)
theorem cx_ps (e : CX h sp tx n N r) (hn : n ≤ 900) (hs : sp = 102 ∨ sp = 131) : ∃ h1 y, Jvm.Pilot.CWaverTaxLaw_law_r8537_6f3a17.cl h 5 (some 160) (f_Reader_personSort h (some 160)) = some (y, h1) ∧ CX h1 sp tx n N (oPs tx n r).1 ∧ Fq h h1 sp ∧ (∀ B, (oPs tx n r).1 = .inr B → y = nI (oPs tx n r).2) := by
  cases r with
  | inl f =>
    have e : CB h sp tx n f.1 f.2 := e
    refine ⟨h, 0, ?_, e, Fq.rf, fun B q => by cases q⟩
    rw [e.cl]
    unfold f_Reader_personSort
    rw [e.g7.2.1, Option.bind_some, if_neg e.g7.2.2.2.2.2]
  | inr A =>
    have e : CG h sp tx n N A := e
    rw [e.cl]
    unfold f_Reader_personSort oPs
    rw [e.g5.2.1, Option.bind_some, if_pos rfl]
    have key : ((Jvm.Pilot.CWaverTaxLaw_law_r8537_6f3a17.cl h 5 (some 160) (f_Reader_is h (some 160) (some 12))).bind fun v2 => (if v2 = 0 then ((Jvm.Pilot.CWaverTaxLaw_law_r8537_6f3a17.cl h 5 (some 160) (f_Reader_is h (some 160) (some 13))).bind fun v4 => if v4 = 0 then ((Jvm.Pilot.CWaverTaxLaw_law_r8537_6f3a17.cl h 5 (some 160) (f_Reader_is h (some 160) (some 14))).bind fun v5 => if v5 = 0 then ((Jvm.Pilot.CWaverTaxLaw_law_r8537_6f3a17.cl h 5 (some 160) (f_Reader_is h (some 160) (some 15))).bind fun v6 => if v6 = 0 then (some (-1 : Int32)) else (some (3 : Int32))) else (some (2 : Int32))) else (some (1 : Int32))) else (some (0 : Int32)) : Option (Int32))) = some (lsI (psA tx A)) := by
      rw [cg_is e hn (by omega), Option.bind_some]
      unfold psA
      by_cases w0 : A.1.1 = 1 ∧ wdA tx A = pkC 12
      · rw [if_pos w0, if_pos w0, if_neg (by decide)]; rfl
      · rw [if_neg w0, if_neg w0, if_pos rfl, cg_is e hn (by omega), Option.bind_some]
        by_cases w1 : A.1.1 = 1 ∧ wdA tx A = pkC 13
        · rw [if_pos w1, if_pos w1, if_neg (by decide)]; rfl
        · rw [if_neg w1, if_neg w1, if_pos rfl, cg_is e hn (by omega), Option.bind_some]
          by_cases w2 : A.1.1 = 1 ∧ wdA tx A = pkC 14
          · rw [if_pos w2, if_pos w2, if_neg (by decide)]; rfl
          · rw [if_neg w2, if_neg w2, if_pos rfl, cg_is e hn (by omega), Option.bind_some]
            by_cases w3 : A.1.1 = 1 ∧ wdA tx A = pkC 15
            · rw [if_pos w3, if_pos w3, if_neg (by decide)]; rfl
            · rw [if_neg w3, if_neg w3, if_pos rfl]; rfl
    have assoc : ∀ {X Y Z : Type} (a : Option X) (f : X → Option Y) (g : Y → Option Z), (a.bind fun x => (f x).bind g) = (a.bind f).bind g := by
      intro X Y Z a f g; cases a <;> rfl
    rw [assoc, key, Option.bind_some]
    dsimp only
    cases hb : psA tx A with
    | none =>
      rw [if_neg (show ¬ ¬ lsI none = -1 from fun q => q rfl), e.g5.1, Option.bind_some]
      obtain ⟨h1, a1, a2, a3⟩ := cg_fail e hs (k := 1) (by omega) (by omega) A.1.2.1
      rw [show (1 : Int32) = nI 1 from rfl, a1, Option.bind_some]
      exact ⟨h1, _, rfl, a2, a3, fun B q => by cases q⟩
    | some i =>
      rw [if_pos (show ¬ lsI (some i) = -1 from fun q => by
        have := (lsI_n (some i) (fun j hj => by
          cases hj
          unfold psA at hb
          split at hb
          · cases hb; omega
          · split at hb
            · cases hb; omega
            · split at hb
              · cases hb; omega
              · split at hb
                · cases hb; omega
                · cases hb)).mp q
        cases this)]
      obtain ⟨h1, a1, a2, a3⟩ := cg_next e hn hs
      rw [a1, Option.bind_some]
      exact ⟨h1, _, rfl, a2, a3, fun B q => rfl⟩
end Y3
