/-! a line keeps what holds, and goes on -/
section W3
variable {tx : Nat → Int32} {n : Nat} {N N1 : NmD} {A B : AsD} {r : RsD}
theorem fin_i {g : AsD → AsD} (q : fin r g = .inr B) : ∃ C, r = .inr C ∧ B = g C := by
  cases r with
  | inl f => cases q
  | inr C => exact ⟨C, rfl, by cases q; rfl⟩
theorem chk_i {k : Nat} {P : AsD → Bool} (q : chk r k P = .inr B) : r = .inr B ∧ ¬ P B = true := by
  cases r with
  | inl f => cases q
  | inr C =>
    unfold chk at q
    dsimp only at q
    split at q
    · cases q
    · rename_i w
      cases q
      exact ⟨rfl, w⟩
theorem sb_ck {k : Nat} {P : AsD → Bool} : Sub tx n r (chk r k P) := fun B q => ⟨B, (chk_i q).1, rfl, fun c => ⟨c, Nat.le_refl _⟩⟩
/-- a known name of a sort -/
theorem nm_g {L : LawD} {t : Bool} (I : LawI L N t) {s v : Nat} (h : ∃ i, i < N.1 ∧ (N.2 i).2.1 = s ∧ v = (N.2 i).2.2) : (s = 1 → v < nC L) ∧ (s = 3 → v < nP L) ∧ (s = 7 → v < nS L) := by
  obtain ⟨i, a, b, rfl⟩ := h
  obtain ⟨c1, c2, c3, -⟩ := I.2.2.1 i a
  exact ⟨fun q => c1 (by omega), fun q => c2 (by omega), fun q => c3 (by omega)⟩
def LnOk (tx : Nat → Int32) (n : Nat) (A B : AsD) (N1 : NmD) : Prop := LawI B.2.2 N1 B.2.1 ∧ CuOk tx n B.1 ∧ A.1.2.1 ≤ B.1.2.1
theorem lo_tax (c : CuOk tx n A.1) (I : LawI A.2.2 N A.2.1) (ht : A.2.1 = false) (q : oTax tx n A = .inr B) : LnOk tx n A B N := by
  obtain ⟨C, q1, rfl⟩ := fin_i q
  obtain ⟨A2, k1, k2, k3⟩ := (sb_kw.tr sb_wh) C q1
  obtain ⟨A1, k4, k5, k6⟩ := (sb_kw.tr sb_wh) A2 k1
  cases k4
  have w1 := wh_q k1
  obtain ⟨d1, d2⟩ := k6 c
  obtain ⟨d3, d4⟩ := k3 d1
  refine ⟨?_, d3, Nat.le_trans d2 d4⟩
  show LawI (sL1 (sL1 C.2.2 0 0 _) 0 1 _) N true
  rw [← k2, ← k5]
  rw [ht] at I
  exact li_tax I w1.2
theorem lo_cho (c : CuOk tx n A.1) (I : LawI A.2.2 N A.2.1) (ht : A.2.1 = true) (hf : nC A.2.2 < 5) (q : oCho tx n N A = .inr B) : LnOk tx n A B (adN N (oFr tx n N (.inr A)).2 1 (nC A.2.2)) := by
  obtain ⟨C, q1, rfl⟩ := fin_i q
  obtain ⟨A2, k1, k2, k3⟩ := sb_fr C q1
  cases k1
  obtain ⟨d1, d2⟩ := k3 c
  refine ⟨?_, d1, d2⟩
  show LawI (sL2 C.2.2 0 0 (nC C.2.2 + 1)) _ C.2.1
  rw [← k2, ht]
  rw [ht] at I
  exact li_cho I hf
theorem lo_far (c : CuOk tx n A.1) (I : LawI A.2.2 N A.2.1) (ht : A.2.1 = true) (q : oFar tx n N A = .inr B) : LnOk tx n A B N := by
  obtain ⟨C, q1, rfl⟩ := fin_i q
  have w1 := wh_q q1
  obtain ⟨A2, k1, k2, k3⟩ := ((((sb_ko (N := N) (s := 1)).tr (sb_ck.tr sb_nx)).tr sb_kw).tr sb_wh) C q1
  obtain ⟨A1, k4, k5, k6⟩ := sb_kn A2 k1
  cases k4
  obtain ⟨d1, d2⟩ := k6 c
  obtain ⟨d3, d4⟩ := k3 d1
  have b1 : (far1 tx n N A).2 < 5 := (nw_b I (ko_v (tx := tx) (N := N) (s := 1) (r := .inr A))).1 rfl
  have b2 : (far2 tx n N A).2 < 5 := (nw_b I (ko_v (tx := tx) (N := N) (s := 1) (r := (far1 tx n N A).1))).1 rfl
  refine ⟨?_, d3, Nat.le_trans d2 d4⟩
  show LawI (sL1 (sL1 C.2.2 _ _ _) _ _ _) N C.2.1
  rw [← k2, ← k5]
  exact li_far I ht b1 b2 w1.2
theorem lo_per (c : CuOk tx n A.1) (I : LawI A.2.2 N A.2.1) (ht : A.2.1 = true) (hf : nP A.2.2 < 5) (q : oPer tx n N A = .inr B) : LnOk tx n A B (adN N (oFr tx n N (.inr A)).2 3 (nP A.2.2)) := by
  obtain ⟨C, q1, rfl⟩ := fin_i q
  have w1 := kn_g q1
  obtain ⟨A2, k1, k2, k3⟩ := (((sb_fr (N := N)).tr sb_ps).tr (sb_kw.tr sb_kn)) C q1
  cases k1
  obtain ⟨d1, d2⟩ := k3 c
  refine ⟨?_, d1, d2⟩
  show LawI (sL2 (sL2 (sL1 C.2.2 1 (nP C.2.2) _) 1 (nP C.2.2) _) 0 1 (nP C.2.2 + 1)) _ C.2.1
  have b := (nm_g I w1).1 rfl
  rw [← k2, ht]
  rw [ht] at I
  exact li_per I hf b
theorem lo_lik (c : CuOk tx n A.1) (I : LawI A.2.2 N A.2.1) (ht : A.2.1 = true) (hf : nK A.2.2 < 12) (q : oLik tx n N A = .inr B) : LnOk tx n A B N := by
  obtain ⟨C, q1, rfl⟩ := fin_i q
  have w1 := wh_q q1
  obtain ⟨A2, k1, k2, k3⟩ := ((((sb_ko (N := N) (s := 1)).tr (sb_ck.tr sb_nx)).tr sb_kw).tr sb_wh) C q1
  obtain ⟨A1, k4, k5, k6⟩ := sb_kn A2 k1
  cases k4
  obtain ⟨d1, d2⟩ := k6 c
  obtain ⟨d3, d4⟩ := k3 d1
  have b1 : (lik1 tx n N A).2 < 5 := (nw_b I (ko_v (tx := tx) (N := N) (s := 3) (r := .inr A))).2.1 rfl
  have b2 : (lik2 tx n N A).2 < 5 := (nw_b I (ko_v (tx := tx) (N := N) (s := 1) (r := (lik1 tx n N A).1))).1 rfl
  refine ⟨?_, d3, Nat.le_trans d2 d4⟩
  show LawI (sL2 (sL1 (sL1 C.2.2 _ _ _) 9 _ (C.2.2.1 9 _ ||| _)) 0 2 (nK C.2.2 + 1)) N C.2.1
  rw [← k2, ← k5]
  exact li_lik I ht b1 b2 w1.2 hf
theorem lo_rea (c : CuOk tx n A.1) (I : LawI A.2.2 N A.2.1) (ht : A.2.1 = true) (hf : nR A.2.2 < 4) (q : oRea tx n N A = .inr B) : LnOk tx n A B N := by
  obtain ⟨C, q1, rfl⟩ := fin_i q
  obtain ⟨A6, x1, x2, x3⟩ := (sb_kw.tr sb_wh) C q1
  have v6 := wh_q x1
  obtain ⟨A4, y1, y2, y3⟩ := (sb_kw.tr sb_wh) A6 x1
  have v4 := wh_q y1
  obtain ⟨A2, z1, z2, z3⟩ := (sb_kw.tr sb_wh) A4 y1
  have v2 := kn_g z1
  obtain ⟨A1, k1, k2, k3⟩ := sb_kn A2 z1
  have v1 := kn_g k1
  obtain ⟨A0, k4, k5, k6⟩ := sb_kn A1 k1
  cases k4
  obtain ⟨d1, d2⟩ := k6 c
  obtain ⟨d3, d4⟩ := k3 d1
  obtain ⟨d5, d6⟩ := z3 d3
  obtain ⟨d7, d8⟩ := y3 d5
  obtain ⟨d9, d10⟩ := x3 d7
  refine ⟨?_, d9, by show A.1.2.1 ≤ C.1.2.1; omega⟩
  show LawI (reaL C.2.2 _ _ _ _ _) N C.2.1
  rw [← x2, ← y2, ← z2, ← k2, ← k5]
  have b1 := (nm_g I v1).2.1 rfl
  have b2 := (nm_g I v2).1 rfl
  rw [ht] at I ⊢
  exact li_rea I hf b1 b2 v4.1 v4.2 v6.2
theorem lo_pai (c : CuOk tx n A.1) (I : LawI A.2.2 N A.2.1) (ht : A.2.1 = true) (hf : nQ A.2.2 < 5) (q : oPai tx n N A = .inr B) : LnOk tx n A B N := by
  obtain ⟨C, q1, rfl⟩ := fin_i q
  obtain ⟨A6, x1, x2, x3⟩ := sb_nx C q1
  obtain ⟨y1, y2⟩ := chk_i x1
  have v4 := wh_b y1
  obtain ⟨A2, z1, z2, z3⟩ := (sb_wh.tr (sb_kw.tr sb_bd)) A6 y1
  have v1 := kn_g z1
  obtain ⟨A0, k4, k5, k6⟩ := sb_kn A2 z1
  cases k4
  obtain ⟨d1, d2⟩ := k6 c
  obtain ⟨d3, d4⟩ := z3 d1
  obtain ⟨d5, d6⟩ := x3 d3
  refine ⟨?_, d5, by show A.1.2.1 ≤ C.1.2.1; omega⟩
  show LawI (paiL C.2.2 _ _ _) N C.2.1
  have b1 := (nm_g I v1).2.1 rfl
  have y2 : ¬ nI (pai4 tx n N A).2 ≤ lhA A6.2.2 (pai1 tx n N A).2 (nQ A6.2.2) := by simpa using y2
  rw [← z2, ← k5] at y2
  rw [← x2, ← z2, ← k5]
  rw [ht] at I ⊢
  exact li_pai I hf b1 v4.2 (Int32.not_le.mp y2)
theorem lo_sho (c : CuOk tx n A.1) (I : LawI A.2.2 N A.2.1) (ht : A.2.1 = true) (hf : nS A.2.2 < 6) (q : oSho tx n N A = .inr B) : LnOk tx n A B (adN N (oFr tx n N (.inr A)).2 7 (nS A.2.2)) := by
  obtain ⟨C, q1, rfl⟩ := fin_i q
  have w1 := wh_q q1
  obtain ⟨A2, k1, k2, k3⟩ := ((sb_fr (N := N)).tr (sb_kw.tr sb_wh)) C q1
  cases k1
  obtain ⟨d1, d2⟩ := k3 c
  refine ⟨?_, d1, d2⟩
  show LawI (sL2 (sL1 C.2.2 7 (nS C.2.2) _) 0 5 (nS C.2.2 + 1)) _ C.2.1
  rw [← k2, ht]
  rw [ht] at I
  exact li_sho I hf w1.2
theorem lo_lan (c : CuOk tx n A.1) (I : LawI A.2.2 N A.2.1) (ht : A.2.1 = true) (hf : nL A.2.2 < 8) (q : oLan tx n N A = .inr B) : LnOk tx n A B N := by
  obtain ⟨C, q1, rfl⟩ := fin_i q
  obtain ⟨A6, x1, x2, x3⟩ := sb_nx C q1
  obtain ⟨y1, y2⟩ := chk_i x1
  have v2 := ko_g y1
  obtain ⟨A2, z1, z2, z3⟩ := sb_ko (n := n) A6 y1
  have v1 := kn_g z1
  obtain ⟨A0, k4, k5, k6⟩ := sb_kn A2 z1
  cases k4
  obtain ⟨d1, d2⟩ := k6 c
  obtain ⟨d3, d4⟩ := z3 d1
  obtain ⟨d5, d6⟩ := x3 d3
  refine ⟨?_, d5, by show A.1.2.1 ≤ C.1.2.1; omega⟩
  show LawI (lanL C.2.2 _ _) N C.2.1
  have b1 := (nm_g I v1).2.2 rfl
  have b2 := (nm_g I v2).2.2 rfl
  have y2 : ¬ ((lan1 tx n N A).2 = (lan2 tx n N A).2 ∨ bitN (nea A6.2.2 (lan1 tx n N A).2) (lan2 tx n N A).2 = 1) := by simpa using y2
  rw [← x2, ← z2, ← k5]
  rw [ht] at I ⊢
  exact li_lan I hf b1 b2 (fun w => y2 (Or.inl w.symm))
theorem lo_line (c : CuOk tx n A.1) (I : LawI A.2.2 N A.2.1) (q : oLine tx n N A = (.inr B, N1)) : LawI B.2.2 N1 B.2.1 ∧ CuOk tx n B.1 ∧ A.1.2.1 < B.1.2.1 := by
  unfold oLine at q
  cases hl : lnS tx A with
  | none => rw [hl] at q; cases q
  | some i =>
    rw [hl] at q
    dsimp only at q
    have tk : A.1.1 = 1 := by
      unfold lnS at hl
      split at hl
      · assumption
      · cases hl
    have i9 : i < 9 := by
      unfold lnS at hl
      rw [if_pos tk] at hl
      exact ls_9 hl
    have p5 := c.p.2.2.2.2.1 (by omega)
    by_cases z0 : i = 0 ∧ A.2.1 = true
    · rw [if_pos z0] at q; cases q
    rw [if_neg z0] at q
    by_cases z1 : fulB A.2.2 i = true
    · rw [if_pos z1] at q; cases q
    rw [if_neg z1] at q
    by_cases z2 : ¬ i = 0 ∧ A.2.1 = false
    · rw [if_pos z2] at q; cases q
    rw [if_neg z2] at q
    have c1 : CuOk tx n ((nxT tx n A.1.2.2, A.2) : AsD).1 := c.nx
    have st : A.1.2.2 ≤ (nxT tx n A.1.2.2).2.1 := (nxT_p c.p.2.1).1
    have I1 : LawI ((nxT tx n A.1.2.2, A.2) : AsD).2.2 N ((nxT tx n A.1.2.2, A.2) : AsD).2.1 := I
    have done : LnOk tx n (nxT tx n A.1.2.2, A.2) B N1 → LawI B.2.2 N1 B.2.1 ∧ CuOk tx n B.1 ∧ A.1.2.1 < B.1.2.1 := fun ⟨a, b, d⟩ => ⟨a, b, by have d : (nxT tx n A.1.2.2).2.1 ≤ B.1.2.1 := d; omega⟩
    have adr : ∀ {R : RsD} {X Y : NmD}, R = .inr B → adR R X Y = Y := fun h => by rw [h]; rfl
    unfold oBy at q
    unfold fulB at z1
    obtain ⟨i1, i2, i3, i4, i5, i6, i7, -⟩ := I.1
    by_cases y : i = 0
    · rw [if_pos y] at q
      have ht : A.2.1 = false := by
        cases h : A.2.1 with
        | false => rfl
        | true => exact absurd ⟨y, h⟩ z0
      obtain ⟨q1, q2⟩ := Prod.mk.inj q
      subst q2
      exact done (lo_tax c1 I1 ht q1)
    · have ht : A.2.1 = true := by
        cases h : A.2.1 with
        | true => rfl
        | false => exact absurd ⟨y, h⟩ z2
      have : i = 1 ∨ i = 2 ∨ i = 3 ∨ i = 4 ∨ i = 5 ∨ i = 6 ∨ i = 7 ∨ i = 8 := by omega
      rcases this with rfl | rfl | rfl | rfl | rfl | rfl | rfl | rfl
      · obtain ⟨q1, q2⟩ := Prod.mk.inj q
        have q1 : oCho tx n N (nxT tx n A.1.2.2, A.2) = .inr B := q1
        have q2 : adR (oCho tx n N (nxT tx n A.1.2.2, A.2)) N _ = N1 := q2
        rw [adr q1] at q2
        subst q2
        exact done (lo_cho c1 I1 ht (by simp at z1; show nC A.2.2 < 5; omega) q1)
      · obtain ⟨q1, q2⟩ := Prod.mk.inj q
        subst q2
        exact done (lo_far c1 I1 ht q1)
      · obtain ⟨q1, q2⟩ := Prod.mk.inj q
        have q1 : oPer tx n N (nxT tx n A.1.2.2, A.2) = .inr B := q1
        have q2 : adR (oPer tx n N (nxT tx n A.1.2.2, A.2)) N _ = N1 := q2
        rw [adr q1] at q2
        subst q2
        exact done (lo_per c1 I1 ht (by simp at z1; show nP A.2.2 < 5; omega) q1)
      · obtain ⟨q1, q2⟩ := Prod.mk.inj q
        subst q2
        exact done (lo_lik c1 I1 ht (by simp at z1; show nK A.2.2 < 12; omega) q1)
      · obtain ⟨q1, q2⟩ := Prod.mk.inj q
        subst q2
        exact done (lo_rea c1 I1 ht (by simp at z1; show nR A.2.2 < 4; omega) q1)
      · obtain ⟨q1, q2⟩ := Prod.mk.inj q
        subst q2
        exact done (lo_pai c1 I1 ht (by simp at z1; show nQ A.2.2 < 5; omega) q1)
      · obtain ⟨q1, q2⟩ := Prod.mk.inj q
        have q1 : oSho tx n N (nxT tx n A.1.2.2, A.2) = .inr B := q1
        have q2 : adR (oSho tx n N (nxT tx n A.1.2.2, A.2)) N _ = N1 := q2
        rw [adr q1] at q2
        subst q2
        exact done (lo_sho c1 I1 ht (by simp at z1; show nS A.2.2 < 6; omega) q1)
      · obtain ⟨q1, q2⟩ := Prod.mk.inj q
        subst q2
        exact done (lo_lan c1 I1 ht (by simp at z1; show nL A.2.2 < 8; omega) q1)
end W3
