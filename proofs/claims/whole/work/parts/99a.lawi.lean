/-! what holds of a law goes on holding, line by line -/
section W1
variable {L L1 : LawD} {N : NmD} {t : Bool}
/-- what a change leaves, by rows -/
theorem li_keep (I : LawI L N t) (hc : nC L1 = nC L ∧ nP L1 = nP L ∧ nR L1 = nR L ∧ nQ L1 = nQ L ∧ nS L1 = nS L) (hk : nK L1 ≤ 12 ∧ nL L1 ≤ 8) (ht : t = true) (h2 : ∀ a, a ≠ 0 → L1.2 a = L.2 a) (h1 : L1.1 0 0 = L.1 0 0 ∧ L1.1 2 = L.1 2 ∧ L1.1 3 = L.1 3 ∧ L1.1 6 = L.1 6 ∧ L1.1 7 = L.1 7) (hn : (∀ s, s < nS L → ∃ b, b < 2 ^ nS L ∧ nea L1 s = nI b) ∧ ∀ s, nS L ≤ s → s < 6 → nea L1 s = 0) (g1 : ∀ c d, c < 5 → d < 5 → ∃ j, j ≤ 9 ∧ far L1 c d = nI j) (g2 : ∀ p c, p < 5 → c < 5 → ∃ j, j ≤ 99 ∧ wor L1 p c = nI j) (g3 : ∀ p, p < 5 → ∃ b, b < 32 ∧ L1.1 9 p = nI b ∧ ∀ c, c < 5 → b.testBit c = false → wor L1 p c = 0) : LawI L1 N t := by
  subst ht
  obtain ⟨⟨c1, c2, c3, c4, c5, c6, c7, c8⟩, ⟨f1, f2, f3⟩, nm, ⟨t1, t2, t3, t4, t5, t6⟩, -⟩ := I
  obtain ⟨e1, e2, e3, e4, e5⟩ := hc
  obtain ⟨r0, r2, r3, r6, r7⟩ := h1
  have q1 := h2 1 (by omega)
  have q2 := h2 2 (by omega)
  have q3 := h2 3 (by omega)
  have q4 := h2 4 (by omega)
  unfold LawI
  rw [e1, e2, e3, e4, e5]
  refine ⟨⟨c1, c2, c3, c4, c5, hk.1, hk.2, c8⟩, ⟨?_, ?_, ?_⟩, nm, ⟨fun _ => ?_, fun q => (by cases q), ?_, ?_, ?_, ?_⟩, g1, g2, g3, hn.2⟩
  · intro p hp; show L1.2 1 p < _; rw [q1]; exact f1 p hp
  · intro k hk'; show L1.2 2 k < _ ∧ L1.2 3 k < _; rw [q2, q3]; exact f2 k hk'
  · intro k hk'; show L1.2 4 k < _; rw [q4]; exact f3 k hk'
  · show ∃ r, r ≤ 9 ∧ L1.1 0 0 = nI r; rw [r0]; exact t1 rfl
  · intro k hk'; show (∃ j, 1 ≤ j ∧ j ≤ 12 ∧ L1.1 2 k = nI j) ∧ ∃ j, j ≤ 100 ∧ L1.1 3 k = nI j; rw [r2, r3]; exact t3 k hk'
  · intro k hk'; show ∃ j, j ≤ 99 ∧ L1.1 6 k = nI j; rw [r6]; exact t4 k hk'
  · intro s hs; show (∃ j, j ≤ 99 ∧ L1.1 7 s = nI j) ∧ _; rw [r7]; exact ⟨(t5 s hs).1, hn.1 s hs⟩
  · intro k j hj hk' q; show L1.1 6 j < L1.1 6 k; rw [r6]; exact t6 k j hj hk' (by have q : L1.2 4 j = L1.2 4 k := q; rw [q4] at q; exact q)
theorem li_tax (I : LawI L N false) {r u : Nat} (hr : r ≤ 9) : LawI (sL1 (sL1 L 0 0 (nI r)) 0 1 (nI u)) N true := by
  obtain ⟨c, f, nm, ⟨t1, t2, t3, t4, t5, t6⟩, g⟩ := I
  have R : ∀ a, a ≠ 0 → (sL1 (sL1 L 0 0 (nI r)) 0 1 (nI u)).1 a = L.1 a := fun a ha => (s1_ne ha).trans (s1_ne ha)
  have R0 : (sL1 (sL1 L 0 0 (nI r)) 0 1 (nI u)).1 0 0 = nI r := (s1_0 (by omega)).trans s1_0e
  have R2 : (sL1 (sL1 L 0 0 (nI r)) 0 1 (nI u)).2 = L.2 := rfl
  generalize sL1 (sL1 L 0 0 (nI r)) 0 1 (nI u) = L1 at *
  unfold LawI
  refine ⟨?_, ?_, ?_, ⟨fun _ => ⟨r, hr, R0⟩, fun q => (by cases q), ?_, ?_, ?_, ?_⟩, ?_, ?_, ?_, ?_⟩
  · show (L1.2 0 0 ≤ _ ∧ L1.2 0 1 ≤ _ ∧ L1.2 0 3 ≤ _ ∧ L1.2 0 4 ≤ _ ∧ L1.2 0 5 ≤ _ ∧ L1.2 0 2 ≤ _ ∧ L1.2 0 6 ≤ _ ∧ N.1 = L1.2 0 0 + L1.2 0 1 + L1.2 0 5); rw [R2]; exact c
  · show (∀ p, p < L1.2 0 1 → L1.2 1 p < L1.2 0 0) ∧ (∀ k, k < L1.2 0 3 → L1.2 2 k < L1.2 0 1 ∧ L1.2 3 k < L1.2 0 0) ∧ ∀ k, k < L1.2 0 4 → L1.2 4 k < L1.2 0 1; rw [R2]; exact f
  · show ∀ k, k < N.1 → ((N.2 k).2.1 = 1 → (N.2 k).2.2 < L1.2 0 0) ∧ ((N.2 k).2.1 = 3 → (N.2 k).2.2 < L1.2 0 1) ∧ ((N.2 k).2.1 = 7 → (N.2 k).2.2 < L1.2 0 5) ∧ _; rw [R2]; exact nm
  · show ∀ k, k < L1.2 0 3 → (∃ j, 1 ≤ j ∧ j ≤ 12 ∧ L1.1 2 k = nI j) ∧ ∃ j, j ≤ 100 ∧ L1.1 3 k = nI j; rw [R2, R 2 (by omega), R 3 (by omega)]; exact t3
  · show ∀ k, k < L1.2 0 4 → ∃ j, j ≤ 99 ∧ L1.1 6 k = nI j; rw [R2, R 6 (by omega)]; exact t4
  · show ∀ s, s < L1.2 0 5 → (∃ j, j ≤ 99 ∧ L1.1 7 s = nI j) ∧ ∃ b, b < 2 ^ L1.2 0 5 ∧ L1.1 8 s = nI b; rw [R2, R 7 (by omega), R 8 (by omega)]; exact t5
  · show ∀ k j, j < k → k < L1.2 0 4 → L1.2 4 j = L1.2 4 k → L1.1 6 j < L1.1 6 k; rw [R2, R 6 (by omega)]; exact t6
  · intro a b ha hb; show ∃ j, j ≤ 9 ∧ L1.1 (10 + a) b = nI j; rw [R _ (by omega)]; exact g.1 a b ha hb
  · intro a b ha hb; show ∃ j, j ≤ 99 ∧ L1.1 (20 + a) b = nI j; rw [R _ (by omega)]; exact g.2.1 a b ha hb
  · intro a ha; show ∃ b, b < 32 ∧ L1.1 9 a = nI b ∧ ∀ c, c < 5 → b.testBit c = false → L1.1 (20 + a) c = 0; rw [R 9 (by omega), R _ (by omega)]; exact g.2.2.1 a ha
  · show ∀ s, L1.2 0 5 ≤ s → s < 6 → L1.1 8 s = 0; rw [R2, R 8 (by omega)]; exact g.2.2.2
theorem li_far (I : LawI L N t) (ht : t = true) {c d j : Nat} (hc : c < 5) (hd : d < 5) (hj : j ≤ 9) : LawI (sL1 (sL1 L (10 + c) d (nI j)) (10 + d) c (nI j)) N t := by
  have I' := I
  obtain ⟨⟨c1, c2, c3, c4, c5, c6, c7, c8⟩, -, -, ⟨-, -, -, -, t5, -⟩, g1, g2, g3, g4⟩ := I'
  have R : ∀ a, a < 10 → (sL1 (sL1 L (10 + c) d (nI j)) (10 + d) c (nI j)).1 a = L.1 a := fun a ha => (s1_ne (by omega)).trans (s1_ne (by omega))
  refine li_keep I ⟨rfl, rfl, rfl, rfl, rfl⟩ ⟨c6, c7⟩ ht (fun _ _ => rfl) ⟨by rw [R 0 (by omega)], R 2 (by omega), R 3 (by omega), R 6 (by omega), R 7 (by omega)⟩ ⟨?_, ?_⟩ ?_ ?_ ?_
  · intro s hs; show ∃ b, b < _ ∧ (sL1 (sL1 L (10 + c) d (nI j)) (10 + d) c (nI j)).1 8 s = nI b; rw [R 8 (by omega)]; exact (t5 s hs).2
  · intro s a b; show (sL1 (sL1 L (10 + c) d (nI j)) (10 + d) c (nI j)).1 8 s = 0; rw [R 8 (by omega)]; exact g4 s a b
  · intro a b ha hb
    show ∃ i, i ≤ 9 ∧ (if 10 + a = 10 + d ∧ b = c then nI j else if 10 + a = 10 + c ∧ b = d then nI j else L.1 (10 + a) b) = nI i
    split
    · exact ⟨j, hj, rfl⟩
    · split
      · exact ⟨j, hj, rfl⟩
      · exact g1 a b ha hb
  · intro a b ha hb
    show ∃ i, i ≤ 99 ∧ (sL1 (sL1 L (10 + c) d (nI j)) (10 + d) c (nI j)).1 (20 + a) b = nI i
    rw [s1_ne (by omega), s1_ne (by omega)]
    exact g2 a b ha hb
  · intro a ha
    show ∃ b, b < 32 ∧ (sL1 (sL1 L (10 + c) d (nI j)) (10 + d) c (nI j)).1 9 a = nI b ∧ ∀ c9, c9 < 5 → b.testBit c9 = false → (sL1 (sL1 L (10 + c) d (nI j)) (10 + d) c (nI j)).1 (20 + a) c9 = 0
    rw [R 9 (by omega), s1_ne (by omega), s1_ne (by omega)]
    exact g3 a ha
theorem bit_or1 : ∀ b, b < 32 → ∀ c, c < 5 → nI b ||| ((1 : Int32) <<< (nI c &&& 31)) = nI (b ||| 2 ^ c) ∧ b ||| 2 ^ c < 32 ∧ (b ||| 2 ^ c).testBit c = true ∧ ∀ d, d < 5 → d ≠ c → (b ||| 2 ^ c).testBit d = b.testBit d := by decide +kernel
theorem li_lik (I : LawI L N t) (ht : t = true) {p c j : Nat} (hp : p < 5) (hc : c < 5) (hj : j ≤ 99) (hK : nK L < 12) : LawI (sL2 (sL1 (sL1 L (20 + p) c (nI j)) 9 p (L.1 9 p ||| ((1 : Int32) <<< (nI c &&& 31)))) 0 2 (nK L + 1)) N t := by
  have I' := I
  obtain ⟨⟨c1, c2, c3, c4, c5, c6, c7, c8⟩, -, -, ⟨-, -, -, -, t5, -⟩, g1, g2, g3, g4⟩ := I'
  have R : ∀ a, a ≠ 9 → a ≠ 20 + p → (sL2 (sL1 (sL1 L (20 + p) c (nI j)) 9 p (L.1 9 p ||| ((1 : Int32) <<< (nI c &&& 31)))) 0 2 (nK L + 1)).1 a = L.1 a := fun a h1 h2 => (s1_ne (L := sL1 L (20 + p) c (nI j)) h1).trans (s1_ne h2)
  have R9 : ∀ q, (sL2 (sL1 (sL1 L (20 + p) c (nI j)) 9 p (L.1 9 p ||| ((1 : Int32) <<< (nI c &&& 31)))) 0 2 (nK L + 1)).1 9 q = if q = p then L.1 9 p ||| ((1 : Int32) <<< (nI c &&& 31)) else L.1 9 q := by
    intro q
    have := congrFun (s1_eq (L := sL1 L (20 + p) c (nI j)) (r := 9) (c := p) (y := L.1 9 p ||| ((1 : Int32) <<< (nI c &&& 31)))) q
    have h2 := congrFun (s1_ne (L := L) (r := 20 + p) (c := c) (a := 9) (y := nI j) (by omega)) q
    refine this.trans ?_
    unfold up1
    rw [h2]
  have Rw : ∀ q d, q < 5 → (sL2 (sL1 (sL1 L (20 + p) c (nI j)) 9 p (L.1 9 p ||| ((1 : Int32) <<< (nI c &&& 31)))) 0 2 (nK L + 1)).1 (20 + q) d = if q = p ∧ d = c then nI j else L.1 (20 + q) d := by
    intro q d hq
    have h1 := congrFun (s1_ne (L := sL1 L (20 + p) c (nI j)) (r := 9) (c := p) (a := 20 + q) (y := L.1 9 p ||| ((1 : Int32) <<< (nI c &&& 31))) (by omega)) d
    refine h1.trans ?_
    show (if 20 + q = 20 + p ∧ d = c then nI j else L.1 (20 + q) d) = _
    by_cases z : q = p ∧ d = c
    · rw [if_pos z, if_pos ⟨by omega, z.2⟩]
    · rw [if_neg z, if_neg (fun w => z ⟨by omega, w.2⟩)]
  have K : nK (sL2 (sL1 (sL1 L (20 + p) c (nI j)) 9 p (L.1 9 p ||| ((1 : Int32) <<< (nI c &&& 31)))) 0 2 (nK L + 1)) = nK L + 1 := s2_0e
  have C : ∀ i, i ≠ 2 → (sL2 (sL1 (sL1 L (20 + p) c (nI j)) 9 p (L.1 9 p ||| ((1 : Int32) <<< (nI c &&& 31)))) 0 2 (nK L + 1)).2 0 i = L.2 0 i := fun i hi => s2_0 (by omega)
  have C2 : ∀ a, a ≠ 0 → (sL2 (sL1 (sL1 L (20 + p) c (nI j)) 9 p (L.1 9 p ||| ((1 : Int32) <<< (nI c &&& 31)))) 0 2 (nK L + 1)).2 a = L.2 a := fun a ha => s2_ne ha
  generalize sL2 (sL1 (sL1 L (20 + p) c (nI j)) 9 p (L.1 9 p ||| ((1 : Int32) <<< (nI c &&& 31)))) 0 2 (nK L + 1) = M at *
  refine li_keep I ⟨C 0 (by omega), C 1 (by omega), C 3 (by omega), C 4 (by omega), C 5 (by omega)⟩ ⟨by rw [K]; omega, by rw [show nL M = nL L from C 6 (by omega)]; exact c7⟩ ht C2 ⟨by rw [R 0 (by omega) (by omega)], R 2 (by omega) (by omega), R 3 (by omega) (by omega), R 6 (by omega) (by omega), R 7 (by omega) (by omega)⟩ ⟨?_, ?_⟩ ?_ ?_ ?_
  · intro s hs; show ∃ b, b < _ ∧ M.1 8 s = nI b; rw [R 8 (by omega) (by omega)]; exact (t5 s hs).2
  · intro s a b; show M.1 8 s = 0; rw [R 8 (by omega) (by omega)]; exact g4 s a b
  · intro a b ha hb; show ∃ i, i ≤ 9 ∧ M.1 (10 + a) b = nI i; rw [R _ (by omega) (by omega)]; exact g1 a b ha hb
  · intro a b ha hb
    show ∃ i, i ≤ 99 ∧ M.1 (20 + a) b = nI i
    rw [Rw a b ha]
    split
    · exact ⟨j, hj, rfl⟩
    · exact g2 a b ha hb
  · intro a ha
    show ∃ b, b < 32 ∧ M.1 9 a = nI b ∧ ∀ d, d < 5 → b.testBit d = false → M.1 (20 + a) d = 0
    obtain ⟨b, b1, b2, b3⟩ := g3 a ha
    by_cases z : a = p
    · obtain ⟨o1, o2, o3, o4⟩ := bit_or1 b b1 c hc
      refine ⟨b ||| 2 ^ c, o2, by rw [R9, if_pos z, ← z, b2, o1], fun d hd q => ?_⟩
      have hdc : d ≠ c := fun w => by rw [w, o3] at q; cases q
      rw [Rw a d ha, if_neg (fun w => hdc w.2)]
      rw [o4 d hd hdc] at q
      exact b3 d hd q
    · refine ⟨b, b1, by rw [R9, if_neg z, b2], fun d hd q => ?_⟩
      rw [Rw a d ha, if_neg (fun w => z w.1)]
      exact b3 d hd q
end W1
