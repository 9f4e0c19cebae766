/-! the state of the law's loop; laws; led -/
def StA (h : PH) (c : Nat) (lw : Nat) (ml : Option Nat) (S : StD) : Prop := CI h lw S ∧ Mst h ml S ∧ SOk c S ∧ 296 ≤ h.length ∧ ∃ x : Int64, Fo h 295 51 1 (fun _ => .inr (.inl x))
def St (h : PH) (c : Nat) : Prop := ∃ lw ml S, StA h c lw ml S
section ZA
variable {h h1 h2 : PH} {c lw : Nat} {ml : Option Nat} {S : StD}
theorem CI.m (e : CI h lw S) (q : ∀ i, i < 285 → h1[i]? = h[i]?) : CI h1 lw S := CI.lc lw S h h1 (fun i _ b => q i b) e
theorem Mst.t (e : Mst h ml S) (f : Fr h h1 100 285) (hl : 295 ≤ h.length) : Mst h1 ml S := e.lt (fun i a _ _ => f.2 i (by omega)) hl
/-- an op is run by both -/
theorem Op.run {X : Type} {fT fM : PH → Option (X × PH)} (o : Op fT fM c S) (s : StA h c lw ml S) : ∃ x h1 h2, cl h 10 (some 100) (fT h) = some (x, h1) ∧ cl h1 12 (some 285) (fM h1) = some (x, h2) ∧ St h2 (c + 1) := by
  obtain ⟨e, m, ok, hl, x9, hx⟩ := s
  obtain ⟨x, S1, cT, cM, ok1⟩ := o
  obtain ⟨h1, lw1, a1, a2, a3⟩ := cT h lw e
  have m1 := m.t a3 (by omega)
  obtain ⟨h2, ml1, b1, b2, b3⟩ := cM h1 ml m1
  refine ⟨x, h1, h2, by rw [e.cl]; exact a1, by rw [m1.cl]; exact b1, lw1, ml1, S1, a2.m (fun i q => b3.2 i (by omega)), b2, ok1, by rw [b3.1, a3.1]; exact hl, x9, (b3.2 _ (by omega)).trans ((a3.2 _ (by omega)).trans hx)⟩
theorem OpV.run {fT : PH → Option Int32} {fM : PH → Option (Int32 × PH)} (o : OpV fT fM c S) (s : StA h c lw ml S) : ∃ x h2, cl h 10 (some 100) (fT h) = some x ∧ cl h 12 (some 285) (fM h) = some (x, h2) ∧ St h2 (c + 1) := by
  obtain ⟨e, m, ok, hl, x9, hx⟩ := s
  obtain ⟨x, cT, cM, ok1⟩ := o
  obtain ⟨h2, ml1, b1, b2, b3⟩ := cM h ml m
  refine ⟨x, h2, by rw [e.cl]; exact cT h lw e, by rw [m.cl]; exact b1, lw, ml1, S, e.m (fun i q => b3.2 i (by omega)), b2, ok1, by rw [b3.1]; exact hl, x9, (b3.2 _ (by omega)).trans hx⟩
theorem ok_lwF (o : SOk c S) (hc : c < 600) (f : Nat × Nat) : SOk (c + 1) (lwF S f) := by
  obtain ⟨⟨a1, a2, a3⟩, b, d, e, f1, g⟩ := o.up hc
  exact ⟨⟨Nat.zero_le _, ⟨0, rfl⟩, a3⟩, b, d, e, f1, g⟩
theorem ok_lwG (o : SOk c S) (hc : c < 600) {L : LawD} {N : NmD} (I : LawI L N true) (h0 : 0 < nC L) : SOk (c + 1) (lwG S L) := by
  obtain ⟨⟨a1, a2, a3⟩, -⟩ := o
  obtain ⟨⟨c1, c2, c3, c4, c5, c6, c7, c8⟩, ⟨f1, f2, f3⟩, nm, ⟨t1, t2, t3, t4, t5, t6⟩, -⟩ := I
  refine ⟨⟨Nat.zero_le _, ⟨0, rfl⟩, a3⟩, fun _ => ⟨⟨h0, c1, c2, c3, c4, c5, f1, f2, f3⟩, ⟨t1 rfl, t3, t4, t5, t6⟩, ?_, fun i hi => absurd hi (Nat.not_lt_zero i), fun i hi => absurd hi (Nat.not_lt_zero i)⟩, fun q => (by cases q), Nat.zero_le _, Nat.zero_le _, by omega⟩
  refine ⟨⟨0, by omega, rfl⟩, ⟨0, by omega, rfl⟩, ⟨0, Nat.two_pow_pos _, rfl, fun k q => ?_⟩, fun p hp => ⟨f1 p hp, Or.inl ⟨rfl, rfl⟩⟩, fun p _ _ => rfl⟩
  rw [Nat.zero_testBit] at q
  cases q
/-- laws -/
theorem run_laws (s : StA h c lw ml S) (hc : c < 600) (a : Int32) : ∃ x h1 h2, cl h 10 (some 100) (f_T_laws h (some 100) a) = some (x, h1) ∧ cl h1 12 (some 285) (f_M_laws h1 (some 285) a) = some (x, h2) ∧ St h2 (c + 1) := by
  obtain ⟨e, m, ok, hl, x9, hx⟩ := s
  by_cases z : a < 0 ∨ ¬ a ≤ nI (sTn S)
  · obtain ⟨h1, a1, a2, a3⟩ := cls_lawsN e z
    have m1 := m.t a3 (by omega)
    obtain ⟨h2, b1, b2, b3⟩ := ref_lawsN m1 z
    exact ⟨-1, h1, h2, by rw [e.cl]; exact a1, by rw [m1.cl]; exact b1, lw, ml, trS S 2, a2.m (fun i q => b3.2 i (by omega)), b2, ok.tr 2 (by omega) (by omega), by rw [b3.1, a3.1]; exact hl, x9, (b3.2 _ (by omega)).trans ((a3.2 _ (by omega)).trans hx)⟩
  · have z1 : ¬ a < 0 := fun q => z (Or.inl q)
    have z2 : a ≤ nI (sTn S) := Classical.byContradiction (fun q => z (Or.inr q))
    obtain ⟨k, k1, rfl⟩ := nI_of z1
    have t9 := ok.1.1
    have hm : k ≤ sTn S := (nI_leI k1 (by omega)).mp z2
    obtain ⟨h1, x, L0, a1, a2, a3, a4⟩ := cls_laws e t9 hm
    have m1 := m.t a2 (by omega)
    obtain ⟨h2, x2, b1, ⟨d1, d2, d3, d4⟩, b3, b4⟩ := ref_laws m1 (by rw [a2.1]; exact hl) ok.1.2.2 t9 hm L0 (fun f q => ⟨(a3 f q).1, (a3 f q).2.1⟩) (fun B q => (a4 B q).2.2)
    have hl2 : 296 ≤ h2.length := by have := a2.1; omega
    have hx2 : Fo h2 295 51 1 (fun _ => .inr (.inl x9)) := d4.trans ((a2.2 _ (by omega)).trans hx)
    cases hr : oRead (sTx S) k (wpL L0) with
    | inl f =>
      obtain ⟨q1, q2, rfl, q4⟩ := a3 f hr
      obtain ⟨rfl, w2⟩ := b3 f hr
      exact ⟨-1, h1, h2, by rw [e.cl]; exact a1, by rw [m1.cl]; exact b1, lw, ml, _, q4.m (fun i q => d3 i q), w2, ok_lwF ok hc f, hl2, x9, hx2⟩
    | inr B =>
      obtain ⟨rfl, q2, N1, q3, q4⟩ := a4 B hr
      obtain ⟨rfl, ml1, w2⟩ := b4 B hr
      have ht : B.2.1 = true := by
        cases hh : B.2.1 with
        | true => rfl
        | false =>
          have := (q3.2.2.2.1.2.1 hh).1
          omega
      rw [ht] at q3
      exact ⟨_, h1, h2, by rw [e.cl]; exact a1, by rw [m1.cl]; exact b1, _, ml1, _, q2.m (fun i q => d3 i q), w2, ok_lwG ok hc q3 q4, hl2, x9, hx2⟩
/-! led -/
def lcA (L : LawD) (N : NowD) : Nat → Nat
  | 0 => 0
  | k + 1 => if hel N k = frs L k then lcA L N k + 1 else lcA L N k
def ldA (L : LawD) (N : NowD) (j : Nat) : Nat → Option Nat
  | 0 => none
  | k + 1 => match ldA L N j k with
    | some q => some q
    | none => if hel N k = frs L k ∧ lcA L N k = j then some k else none
theorem lc_le {L : LawD} {N : NowD} : ∀ k, lcA L N k ≤ k
  | 0 => Nat.le_refl _
  | k + 1 => by
    have := lc_le (L := L) (N := N) k
    unfold lcA
    split <;> omega
theorem ld_st {L : LawD} {N : NowD} {j k q : Nat} (e : ldA L N j k = some q) : ∀ m, k ≤ m → ldA L N j m = some q := by
  intro m hm
  induction m with
  | zero =>
    obtain rfl : k = 0 := by omega
    exact e
  | succ m ih =>
    by_cases z : k = m + 1
    · rw [← z]; exact e
    · unfold ldA
      rw [ih (by omega)]
/-- the class, an index that is no less than 0 -/
theorem cls_led (e : CI h lw S) (o : SOk c S) {j : Nat} (hj : j < 2 ^ 31) : f_T_led h (some 100) (nI j) = some (match ldA (sL S) (sNw S) j (nP (sL S)) with
    | some q => .inl (nI q)
    | none => .inr ()) := by
  obtain ⟨hl, e0, e1, e2, -, -, e5, -⟩ := e
  have h5 : nP (sL S) ≤ 5 ∧ (∀ k, k < nP (sL S) → hel (sNw S) k < 5 ∧ frs (sL S) k < 5) := by
    cases hf : sLf S with
    | true =>
      obtain ⟨⟨o1, o2, o3, o4, o5, o6, o7, -⟩, -, ⟨-, -, -, g4, -⟩, -⟩ := o.2.1 hf
      exact ⟨o3, fun k hk => ⟨by have := (g4 k hk).1; omega, by have := o7 k hk; omega⟩⟩
    | false =>
      have : nP (sL S) = 0 := (o.2.2.1 hf).2.2.2.1
      exact ⟨by omega, fun k hk => by omega⟩
  obtain ⟨h5, hb⟩ := h5
  unfold f_T_led
  obtain ⟨x, l1, l2⟩ := pj_inv (step := fun s1 : Int32 × Int32 => (gR h 10 (some 100) 2).bind fun v3 => (gI h 1 v3 3).bind fun v4 => if v4 ≤ s1.2 then (some (.inr (.inl ())) : Option ((Int32 × Int32) ⊕ (Unit ⊕ Int32))) else (if s1.1 < 0 then (some (.inr (.inl ()))) else ((gR h 10 (some 100) 6).bind fun v5 => (gR h 2 v5 3).bind fun v6 => (aI h v6 s1.2).bind fun v7 => (gR h 10 (some 100) 2).bind fun v8 => (gR h 1 v8 7).bind fun v9 => (aI h v9 s1.2).bind fun v10 => if ¬ v7 = v10 then (some (.inl (s1.1, (s1.2 + (1 : Int32))))) else (if ¬ s1.1 = 0 then (some (.inl ((s1.1 + (-1 : Int32)), (s1.2 + (1 : Int32))))) else (some (.inr (.inr s1.2)))))))
    (fun k s => s = (nI (j - lcA (sL S) (sNw S) k), nI k) ∧ lcA (sL S) (sNw S) k ≤ j ∧ ldA (sL S) (sNw S) j k = none) (fun x => (x = .inl () ∧ ldA (sL S) (sNw S) j (nP (sL S)) = none) ∨ ∃ q, x = .inr (nI q) ∧ ldA (sL S) (sNw S) j (nP (sL S)) = some q) (nP (sL S)) (s0 := (nI j, (0 : Int32))) (by omega) ⟨rfl, Nat.zero_le _, rfl⟩ (by
      rintro k s hk ⟨rfl, x2, x3⟩
      dsimp only
      obtain ⟨b1, b2⟩ := hb k hk
      rw [gR_o e0 rfl, Option.bind_some, gI_o e2.1 rfl, Option.bind_some, if_neg (nI_ge hk (by omega)), if_neg (nI_pos (by omega)), gR_o e0 rfl, Option.bind_some, gR_o e5.1 rfl, Option.bind_some, e5.2.1.at (by omega) (by decide), Option.bind_some, Option.bind_some, gR_o e2.1 rfl, Option.bind_some, e2.2.2.2.2.1.at (by omega) (by decide), Option.bind_some, nI_s]
      by_cases z : hel (sNw S) k = frs (sL S) k
      · rw [if_neg (fun q => q (by rw [z]))]
        by_cases y : lcA (sL S) (sNw S) k = j
        · rw [if_neg (fun q => q (by rw [y, Nat.sub_self]; rfl))]
          refine Or.inr ⟨_, rfl, Or.inr ⟨k, rfl, ld_st (k := k + 1) ?_ _ hk⟩⟩
          unfold ldA
          rw [x3]
          exact if_pos ⟨z, y⟩
        · rw [if_pos (fun q => y (by have := (nI_e0 (by omega)).mp q; omega))]
          refine Or.inl ⟨_, rfl, ?_, ?_, ?_⟩
          · show (nI (j - lcA (sL S) (sNw S) k) + -1, nI (k + 1)) = (nI (j - (if hel (sNw S) k = frs (sL S) k then lcA (sL S) (sNw S) k + 1 else lcA (sL S) (sNw S) k)), nI (k + 1))
            rw [if_pos z, show j - lcA (sL S) (sNw S) k = (j - (lcA (sL S) (sNw S) k + 1)) + 1 by omega, ← nI_s, Int32.add_assoc, show (1 : Int32) + -1 = 0 by decide, Int32.add_zero]
          · show (if hel (sNw S) k = frs (sL S) k then lcA (sL S) (sNw S) k + 1 else lcA (sL S) (sNw S) k) ≤ j
            rw [if_pos z]; omega
          · unfold ldA
            rw [x3]
            exact if_neg (fun q => y q.2)
      · rw [if_pos (fun q => z ((nI_eq (by omega) (by omega)).mp q))]
        refine Or.inl ⟨_, rfl, ?_, ?_, ?_⟩
        · show _ = (nI (j - (if hel (sNw S) k = frs (sL S) k then lcA (sL S) (sNw S) k + 1 else lcA (sL S) (sNw S) k)), nI (k + 1))
          rw [if_neg z]
        · show (if hel (sNw S) k = frs (sL S) k then lcA (sL S) (sNw S) k + 1 else lcA (sL S) (sNw S) k) ≤ j
          rw [if_neg z]; exact x2
        · unfold ldA
          rw [x3]
          exact if_neg (fun q => z q.1)) (by
      rintro s ⟨rfl, x2, x3⟩
      dsimp only
      rw [gR_o e0 rfl, Option.bind_some, gI_o e2.1 rfl, Option.bind_some, if_pos (nI_le (Nat.le_refl _) (by omega))]
      exact ⟨_, rfl, Or.inl ⟨rfl, x3⟩⟩)
  rw [l1, Option.bind_some]
  rcases l2 with ⟨rfl, l3⟩ | ⟨q, rfl, l3⟩
  · rw [l3]
  · rw [l3]
theorem cls_ledN (e : CI h lw S) {a : Int32} (ha : a < 0) : f_T_led h (some 100) a = some (.inr ()) := by
  obtain ⟨hl, e0, e1, e2, -⟩ := e
  unfold f_T_led
  have : pj_it (X := Unit ⊕ Int32) (fun s1 : Int32 × Int32 => (gR h 10 (some 100) 2).bind fun v3 => (gI h 1 v3 3).bind fun v4 => if v4 ≤ s1.2 then (some (.inr (.inl ()))) else (if s1.1 < 0 then (some (.inr (.inl ()))) else ((gR h 10 (some 100) 6).bind fun v5 => (gR h 2 v5 3).bind fun v6 => (aI h v6 s1.2).bind fun v7 => (gR h 10 (some 100) 2).bind fun v8 => (gR h 1 v8 7).bind fun v9 => (aI h v9 s1.2).bind fun v10 => if ¬ v7 = v10 then (some (.inl (s1.1, (s1.2 + (1 : Int32))))) else (if ¬ s1.1 = 0 then (some (.inl ((s1.1 + (-1 : Int32)), (s1.2 + (1 : Int32))))) else (some (.inr (.inr s1.2))))))) FU (a, (0 : Int32)) = some (.inl ()) := by
    refine pj_for (fun _ => (a, (0 : Int32))) _ 0 FU (by decide) (fun i hi => absurd hi (Nat.not_lt_zero i)) ?_
    dsimp only
    rw [gR_o e0 rfl, Option.bind_some, gI_o e2.1 rfl, Option.bind_some]
    by_cases z : nI (nP (sL S)) ≤ 0
    · rw [if_pos z]
    · rw [if_neg z, if_pos ha]
  rw [this, Option.bind_some]
end ZA
