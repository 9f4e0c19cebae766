/-! what holds of a law goes on holding: counts that grow -/
section W2
variable {L M : LawD} {N : NmD} {t : Bool}
def NmB (N : NmD) (a b c : Nat) : Prop := ∀ k, k < N.1 → ((N.2 k).2.1 = 1 → (N.2 k).2.2 < a) ∧ ((N.2 k).2.1 = 3 → (N.2 k).2.2 < b) ∧ ((N.2 k).2.1 = 7 → (N.2 k).2.2 < c) ∧ ((N.2 k).2.1 = 1 ∨ (N.2 k).2.1 = 3 ∨ (N.2 k).2.1 = 7)
theorem nmb_ad {a b c a1 b1 c1 w s v : Nat} (h : NmB N a b c) (ha : a ≤ a1) (hb : b ≤ b1) (hc : c ≤ c1) (hs : (s = 1 ∧ v < a1) ∨ (s = 3 ∧ v < b1) ∨ (s = 7 ∧ v < c1)) : NmB (adN N w s v) a1 b1 c1 := by
  intro k hk
  have hk : k < N.1 + 1 := hk
  show ((if k = N.1 then (w, s, v) else N.2 k).2.1 = 1 → (if k = N.1 then (w, s, v) else N.2 k).2.2 < a1) ∧ ((if k = N.1 then (w, s, v) else N.2 k).2.1 = 3 → (if k = N.1 then (w, s, v) else N.2 k).2.2 < b1) ∧ ((if k = N.1 then (w, s, v) else N.2 k).2.1 = 7 → (if k = N.1 then (w, s, v) else N.2 k).2.2 < c1) ∧ ((if k = N.1 then (w, s, v) else N.2 k).2.1 = 1 ∨ (if k = N.1 then (w, s, v) else N.2 k).2.1 = 3 ∨ (if k = N.1 then (w, s, v) else N.2 k).2.1 = 7)
  by_cases z : k = N.1
  · rw [if_pos z]; dsimp only; omega
  · rw [if_neg z]
    obtain ⟨x1, x2, x3, x4⟩ := h k (by omega)
    exact ⟨fun q => by have := x1 q; omega, fun q => by have := x2 q; omega, fun q => by have := x3 q; omega, x4⟩
/-- the parts of LawI -/
theorem li_of {N1 : NmD} (c1 : nC M ≤ 5 ∧ nP M ≤ 5 ∧ nR M ≤ 4 ∧ nQ M ≤ 5 ∧ nS M ≤ 6 ∧ nK M ≤ 12 ∧ nL M ≤ 8 ∧ N1.1 = nC M + nP M + nS M) (f1 : ∀ p, p < nP M → frs M p < nC M) (f2 : ∀ k, k < nR M → rpe M k < nP M ∧ rch M k < nC M) (f3 : ∀ k, k < nQ M → cpe M k < nP M) (nm : NmB N1 (nC M) (nP M) (nS M)) (t1 : ∃ r, r ≤ 9 ∧ root M = nI r) (t3 : ∀ k, k < nR M → (∃ j, 1 ≤ j ∧ j ≤ 12 ∧ rho M k = nI j) ∧ (∃ j, j ≤ 100 ∧ rod M k = nI j)) (t4 : ∀ k, k < nQ M → (∃ j, j ≤ 99 ∧ cho M k = nI j)) (t5 : ∀ s, s < nS M → (∃ j, j ≤ 99 ∧ crd M s = nI j) ∧ ∃ b, b < 2 ^ nS M ∧ nea M s = nI b) (t6 : ∀ k j, j < k → k < nQ M → cpe M j = cpe M k → cho M j < cho M k) (g : (∀ c d, c < 5 → d < 5 → ∃ j, j ≤ 9 ∧ far M c d = nI j) ∧ (∀ p c, p < 5 → c < 5 → ∃ j, j ≤ 99 ∧ wor M p c = nI j) ∧ (∀ p, p < 5 → ∃ b, b < 32 ∧ M.1 9 p = nI b ∧ ∀ c, c < 5 → b.testBit c = false → wor M p c = 0) ∧ (∀ s, nS M ≤ s → s < 6 → nea M s = 0)) : LawI M N1 true :=
  ⟨c1, ⟨f1, f2, f3⟩, nm, ⟨fun _ => t1, fun q => (by cases q), t3, t4, t5, t6⟩, g⟩
theorem li_cho (I : LawI L N true) {w : Nat} (hf : nC L < 5) : LawI (sL2 L 0 0 (nC L + 1)) (adN N w 1 (nC L)) true := by
  obtain ⟨⟨c1, c2, c3, c4, c5, c6, c7, c8⟩, ⟨f1, f2, f3⟩, nm, ⟨t1, t2, t3, t4, t5, t6⟩, g⟩ := I
  have K : (sL2 L 0 0 (nC L + 1)).2 0 0 = nC L + 1 := s2_0e
  have C : ∀ i, i ≠ 0 → (sL2 L 0 0 (nC L + 1)).2 0 i = L.2 0 i := fun i hi => s2_0 (by omega)
  have C2 : ∀ a, a ≠ 0 → (sL2 L 0 0 (nC L + 1)).2 a = L.2 a := fun a ha => s2_ne ha
  have C1 : (sL2 L 0 0 (nC L + 1)).1 = L.1 := rfl
  generalize sL2 L 0 0 (nC L + 1) = M at *
  have eC : nC M = nC L + 1 := K
  have eP : nP M = nP L := C 1 (by omega)
  have eK : nK M = nK L := C 2 (by omega)
  have eR : nR M = nR L := C 3 (by omega)
  have eQ : nQ M = nQ L := C 4 (by omega)
  have eS : nS M = nS L := C 5 (by omega)
  have eL : nL M = nL L := C 6 (by omega)
  refine li_of ⟨by omega, by omega, by omega, by omega, by omega, by omega, by omega, by show N.1 + 1 = _; omega⟩ ?_ ?_ ?_ (nmb_ad nm (by omega) (by omega) (by omega) (Or.inl ⟨rfl, by omega⟩)) ?_ ?_ ?_ ?_ ?_ ⟨?_, ?_, ?_, ?_⟩
  · intro p hp; show M.2 1 p < nC M; rw [C2 1 (by omega), eC]; have : L.2 1 p < nC L := f1 p (by omega); omega
  · intro k hk; show M.2 2 k < nP M ∧ M.2 3 k < nC M; rw [C2 2 (by omega), C2 3 (by omega), eC, eP]; have : L.2 2 k < nP L ∧ L.2 3 k < nC L := f2 k (by omega); omega
  · intro k hk; show M.2 4 k < nP M; rw [C2 4 (by omega), eP]; exact f3 k (by omega)
  · show ∃ r, r ≤ 9 ∧ M.1 0 0 = nI r; rw [C1]; exact t1 rfl
  · intro k hk; show (∃ j, 1 ≤ j ∧ j ≤ 12 ∧ M.1 2 k = nI j) ∧ ∃ j, j ≤ 100 ∧ M.1 3 k = nI j; rw [C1]; exact t3 k (by omega)
  · intro k hk; show ∃ j, j ≤ 99 ∧ M.1 6 k = nI j; rw [C1]; exact t4 k (by omega)
  · intro s hs; rw [eS]; show (∃ j, j ≤ 99 ∧ M.1 7 s = nI j) ∧ ∃ b, b < 2 ^ nS L ∧ M.1 8 s = nI b; rw [C1]; exact t5 s (by omega)
  · intro k j hj hk q; show M.1 6 j < M.1 6 k; rw [C1]; exact t6 k j hj (by omega) (by have q : M.2 4 j = M.2 4 k := q; rw [C2 4 (by omega)] at q; exact q)
  · intro a b ha hb; show ∃ j, j ≤ 9 ∧ M.1 (10 + a) b = nI j; rw [C1]; exact g.1 a b ha hb
  · intro a b ha hb; show ∃ j, j ≤ 99 ∧ M.1 (20 + a) b = nI j; rw [C1]; exact g.2.1 a b ha hb
  · intro a ha; show ∃ b, b < 32 ∧ M.1 9 a = nI b ∧ ∀ c, c < 5 → b.testBit c = false → M.1 (20 + a) c = 0; rw [C1]; exact g.2.2.1 a ha
  · intro s a b; show M.1 8 s = 0; rw [C1]; exact g.2.2.2 s (by omega) b
theorem li_per (I : LawI L N true) {w c : Nat} {y : Int32} (hf : nP L < 5) (hc : c < nC L) : LawI (sL2 (sL2 (sL1 L 1 (nP L) y) 1 (nP L) c) 0 1 (nP L + 1)) (adN N w 3 (nP L)) true := by
  obtain ⟨⟨c1, c2, c3, c4, c5, c6, c7, c8⟩, ⟨f1, f2, f3⟩, nm, ⟨t1, t2, t3, t4, t5, t6⟩, g⟩ := I
  have K : (sL2 (sL2 (sL1 L 1 (nP L) y) 1 (nP L) c) 0 1 (nP L + 1)).2 0 1 = nP L + 1 := s2_0e
  have C : ∀ i, i ≠ 1 → (sL2 (sL2 (sL1 L 1 (nP L) y) 1 (nP L) c) 0 1 (nP L + 1)).2 0 i = L.2 0 i := fun i hi => (s2_0 (by omega)).trans (s2_0 (by omega))
  have C2 : ∀ a, a ≠ 0 → a ≠ 1 → (sL2 (sL2 (sL1 L 1 (nP L) y) 1 (nP L) c) 0 1 (nP L + 1)).2 a = L.2 a := fun a ha hb => (s2_ne ha).trans (s2_ne hb)
  have C3 : ∀ q, (sL2 (sL2 (sL1 L 1 (nP L) y) 1 (nP L) c) 0 1 (nP L + 1)).2 1 q = if q = nP L then c else L.2 1 q := by
    intro q
    refine (congrFun (s2_ne (L := sL2 (sL1 L 1 (nP L) y) 1 (nP L) c) (r := 0) (a := 1) (by omega)) q).trans ?_
    show (if 1 = 1 ∧ q = nP L then c else L.2 1 q) = _
    simp
  have C1 : ∀ a, a ≠ 1 → (sL2 (sL2 (sL1 L 1 (nP L) y) 1 (nP L) c) 0 1 (nP L + 1)).1 a = L.1 a := fun a ha => s1_ne ha
  generalize sL2 (sL2 (sL1 L 1 (nP L) y) 1 (nP L) c) 0 1 (nP L + 1) = M at *
  have eP : nP M = nP L + 1 := K
  have eC : nC M = nC L := C 0 (by omega)
  have eK : nK M = nK L := C 2 (by omega)
  have eR : nR M = nR L := C 3 (by omega)
  have eQ : nQ M = nQ L := C 4 (by omega)
  have eS : nS M = nS L := C 5 (by omega)
  have eL : nL M = nL L := C 6 (by omega)
  refine li_of ⟨by omega, by omega, by omega, by omega, by omega, by omega, by omega, by show N.1 + 1 = _; omega⟩ ?_ ?_ ?_ (nmb_ad nm (by omega) (by omega) (by omega) (Or.inr (Or.inl ⟨rfl, by omega⟩))) ?_ ?_ ?_ ?_ ?_ ⟨?_, ?_, ?_, ?_⟩
  · intro p hp; show M.2 1 p < nC M; rw [C3, eC]; split; exact hc; exact f1 p (by omega)
  · intro k hk; show M.2 2 k < nP M ∧ M.2 3 k < nC M; rw [C2 2 (by omega) (by omega), C2 3 (by omega) (by omega), eC, eP]; have : L.2 2 k < nP L ∧ L.2 3 k < nC L := f2 k (by omega); omega
  · intro k hk; show M.2 4 k < nP M; rw [C2 4 (by omega) (by omega), eP]; have : L.2 4 k < nP L := f3 k (by omega); omega
  · show ∃ r, r ≤ 9 ∧ M.1 0 0 = nI r; rw [C1 0 (by omega)]; exact t1 rfl
  · intro k hk; show (∃ j, 1 ≤ j ∧ j ≤ 12 ∧ M.1 2 k = nI j) ∧ ∃ j, j ≤ 100 ∧ M.1 3 k = nI j; rw [C1 2 (by omega), C1 3 (by omega)]; exact t3 k (by omega)
  · intro k hk; show ∃ j, j ≤ 99 ∧ M.1 6 k = nI j; rw [C1 6 (by omega)]; exact t4 k (by omega)
  · intro s hs; rw [eS]; show (∃ j, j ≤ 99 ∧ M.1 7 s = nI j) ∧ ∃ b, b < 2 ^ nS L ∧ M.1 8 s = nI b; rw [C1 7 (by omega), C1 8 (by omega)]; exact t5 s (by omega)
  · intro k j hj hk q; show M.1 6 j < M.1 6 k; rw [C1 6 (by omega)]; exact t6 k j hj (by omega) (by have q : M.2 4 j = M.2 4 k := q; rw [C2 4 (by omega) (by omega)] at q; exact q)
  · intro a b ha hb; show ∃ j, j ≤ 9 ∧ M.1 (10 + a) b = nI j; rw [C1 _ (by omega)]; exact g.1 a b ha hb
  · intro a b ha hb; show ∃ j, j ≤ 99 ∧ M.1 (20 + a) b = nI j; rw [C1 _ (by omega)]; exact g.2.1 a b ha hb
  · intro a ha; show ∃ b, b < 32 ∧ M.1 9 a = nI b ∧ ∀ c, c < 5 → b.testBit c = false → M.1 (20 + a) c = 0; rw [C1 9 (by omega), C1 _ (by omega)]; exact g.2.2.1 a ha
  · intro s a b; show M.1 8 s = 0; rw [C1 8 (by omega)]; exact g.2.2.2 s (by omega) b
theorem li_rea (I : LawI L N true) {p c ho od mo : Nat} (hf : nR L < 4) (hp : p < nP L) (hc : c < nC L) (h1 : 1 ≤ ho) (h2 : ho ≤ 12) (h3 : od ≤ 100) : LawI (reaL L p c ho od mo) N true := by
  obtain ⟨⟨c1, c2, c3, c4, c5, c6, c7, c8⟩, ⟨f1, f2, f3⟩, nm, ⟨t1, t2, t3, t4, t5, t6⟩, g⟩ := I
  have K : (reaL L p c ho od mo).2 0 3 = nR L + 1 := s2_0e
  have C : ∀ i, i ≠ 3 → (reaL L p c ho od mo).2 0 i = L.2 0 i := fun i hi => by simp [reaL, sL1, sL2, hi]
  have C2 : ∀ a, a ≠ 0 ∧ a ≠ 2 ∧ a ≠ 3 → (reaL L p c ho od mo).2 a = L.2 a := fun a ha => by funext q; simp [reaL, sL1, sL2, ha.1, ha.2.1, ha.2.2]
  have C1 : ∀ a, a ≠ 2 ∧ a ≠ 3 ∧ a ≠ 4 → (reaL L p c ho od mo).1 a = L.1 a := fun a ha => by funext q; simp [reaL, sL1, sL2, ha.1, ha.2.1, ha.2.2]
  have D2 : ∀ k, (reaL L p c ho od mo).2 2 k = if k = nR L then p else L.2 2 k := fun k => by simp [reaL, sL1, sL2]
  have D3 : ∀ k, (reaL L p c ho od mo).2 3 k = if k = nR L then c else L.2 3 k := fun k => by simp [reaL, sL1, sL2]
  have B2 : ∀ k, (reaL L p c ho od mo).1 2 k = if k = nR L then nI ho else L.1 2 k := fun k => by simp [reaL, sL1, sL2]
  have B3 : ∀ k, (reaL L p c ho od mo).1 3 k = if k = nR L then nI od else L.1 3 k := fun k => by simp [reaL, sL1, sL2]
  generalize reaL L p c ho od mo = M at *
  have e0 : nC M = nC L := C 0 (by omega)
  have e1 : nP M = nP L := C 1 (by omega)
  have e2 : nK M = nK L := C 2 (by omega)
  have e3 : nR M = nR L + 1 := K
  have e4 : nQ M = nQ L := C 4 (by omega)
  have e5 : nS M = nS L := C 5 (by omega)
  have e6 : nL M = nL L := C 6 (by omega)
  refine li_of ⟨by omega, by omega, by omega, by omega, by omega, by omega, by omega, by omega⟩ ?_ ?_ ?_ (fun k hk => by rw [e0, e1, e5]; exact nm k hk) ?_ ?_ ?_ ?_ ?_ ⟨?_, ?_, ?_, ?_⟩
  · intro p hp; show M.2 1 p < nC M; rw [C2 1 (by omega), e0]; exact f1 p (by omega)
  · intro k hk; show M.2 2 k < nP M ∧ M.2 3 k < nC M; rw [D2, D3, e0, e1]; by_cases z : k = nR L; (rw [if_pos z, if_pos z]; exact ⟨hp, hc⟩); (rw [if_neg z, if_neg z]; exact f2 k (by omega))
  · intro k hk; show M.2 4 k < nP M; rw [C2 4 (by omega), e1]; exact f3 k (by omega)
  · show ∃ r, r ≤ 9 ∧ M.1 0 0 = nI r; rw [C1 0 (by omega)]; exact t1 rfl
  · intro k hk; show (∃ j, 1 ≤ j ∧ j ≤ 12 ∧ M.1 2 k = nI j) ∧ ∃ j, j ≤ 100 ∧ M.1 3 k = nI j; rw [B2, B3]; by_cases z : k = nR L; (rw [if_pos z, if_pos z]; exact ⟨⟨ho, h1, h2, rfl⟩, ⟨od, h3, rfl⟩⟩); (rw [if_neg z, if_neg z]; exact t3 k (by omega))
  · intro k hk; show ∃ j, j ≤ 99 ∧ M.1 6 k = nI j; rw [C1 6 (by omega)]; exact t4 k (by omega)
  · intro s hs; rw [e5]; show (∃ j, j ≤ 99 ∧ M.1 7 s = nI j) ∧ ∃ b, b < 2 ^ nS L ∧ M.1 8 s = nI b; rw [C1 7 (by omega), C1 8 (by omega)]; exact t5 s (by omega)
  · intro k j hj hk q; show M.1 6 j < M.1 6 k; rw [C1 6 (by omega)]; exact t6 k j hj (by omega) (by have q : M.2 4 j = M.2 4 k := q; rw [C2 4 (by omega)] at q; exact q)
  · intro a b ha hb; show ∃ j, j ≤ 9 ∧ M.1 (10 + a) b = nI j; rw [C1 _ (by omega)]; exact g.1 a b ha hb
  · intro a b ha hb; show ∃ j, j ≤ 99 ∧ M.1 (20 + a) b = nI j; rw [C1 _ (by omega)]; exact g.2.1 a b ha hb
  · intro a ha; show ∃ b, b < 32 ∧ M.1 9 a = nI b ∧ ∀ c, c < 5 → b.testBit c = false → M.1 (20 + a) c = 0; rw [C1 9 (by omega), C1 _ (by omega)]; exact g.2.2.1 a ha
  · intro s a b; show M.1 8 s = 0; rw [C1 8 (by omega)]; exact g.2.2.2 s (by omega) b
theorem lh_gt {p : Nat} {x : Int32} : ∀ m, (∀ k j, j < k → k < m → cpe L j = cpe L k → cho L j < cho L k) → lhA L p m < x → ∀ k, k < m → cpe L k = p → cho L k < x
  | 0, _, _, k, hk, _ => absurd hk (Nat.not_lt_zero k)
  | m + 1, h, hx, k, hk, hp => by
    have hx : (if cpe L m = p then cho L m else lhA L p m) < x := hx
    by_cases z : cpe L m = p
    · rw [if_pos z] at hx
      by_cases y : k = m
      · rw [y]; exact hx
      · exact Int32.lt_trans (h m k (by omega) (by omega) (by rw [hp, z])) hx
    · rw [if_neg z] at hx
      by_cases y : k = m
      · rw [y] at hp; exact absurd hp z
      · exact lh_gt m (fun a b q w => h a b q (by omega)) hx k (by omega) hp
theorem li_pai (I : LawI L N true) {p am ho : Nat} (hf : nQ L < 5) (hp : p < nP L) (h2 : ho ≤ 99) (h3 : lhA L p (nQ L) < nI ho) : LawI (paiL L p am ho) N true := by
  obtain ⟨⟨c1, c2, c3, c4, c5, c6, c7, c8⟩, ⟨f1, f2, f3⟩, nm, ⟨t1, t2, t3, t4, t5, t6⟩, g⟩ := I
  have K : (paiL L p am ho).2 0 4 = nQ L + 1 := s2_0e
  have C : ∀ i, i ≠ 4 → (paiL L p am ho).2 0 i = L.2 0 i := fun i hi => by simp [paiL, sL1, sL2, hi]
  have C2 : ∀ a, a ≠ 0 ∧ a ≠ 4 → (paiL L p am ho).2 a = L.2 a := fun a ha => by funext q; simp [paiL, sL1, sL2, ha.1, ha.2]
  have C1 : ∀ a, a ≠ 5 ∧ a ≠ 6 → (paiL L p am ho).1 a = L.1 a := fun a ha => by funext q; simp [paiL, sL1, sL2, ha.1, ha.2]
  have D4 : ∀ k, (paiL L p am ho).2 4 k = if k = nQ L then p else L.2 4 k := fun k => by simp [paiL, sL1, sL2]
  have B6 : ∀ k, (paiL L p am ho).1 6 k = if k = nQ L then nI ho else L.1 6 k := fun k => by simp [paiL, sL1, sL2]
  generalize paiL L p am ho = M at *
  have e0 : nC M = nC L := C 0 (by omega)
  have e1 : nP M = nP L := C 1 (by omega)
  have e2 : nK M = nK L := C 2 (by omega)
  have e3 : nR M = nR L := C 3 (by omega)
  have e4 : nQ M = nQ L + 1 := K
  have e5 : nS M = nS L := C 5 (by omega)
  have e6 : nL M = nL L := C 6 (by omega)
  refine li_of ⟨by omega, by omega, by omega, by omega, by omega, by omega, by omega, by omega⟩ ?_ ?_ ?_ (fun k hk => by rw [e0, e1, e5]; exact nm k hk) ?_ ?_ ?_ ?_ ?_ ⟨?_, ?_, ?_, ?_⟩
  · intro p hp; show M.2 1 p < nC M; rw [C2 1 (by omega), e0]; exact f1 p (by omega)
  · intro k hk; show M.2 2 k < nP M ∧ M.2 3 k < nC M; rw [C2 2 (by omega), C2 3 (by omega), e0, e1]; exact f2 k (by omega)
  · intro k hk; show M.2 4 k < nP M; rw [D4, e1]; by_cases z : k = nQ L; (rw [if_pos z]; exact hp); (rw [if_neg z]; exact f3 k (by omega))
  · show ∃ r, r ≤ 9 ∧ M.1 0 0 = nI r; rw [C1 0 (by omega)]; exact t1 rfl
  · intro k hk; show (∃ j, 1 ≤ j ∧ j ≤ 12 ∧ M.1 2 k = nI j) ∧ ∃ j, j ≤ 100 ∧ M.1 3 k = nI j; rw [C1 2 (by omega), C1 3 (by omega)]; exact t3 k (by omega)
  · intro k hk; show ∃ j, j ≤ 99 ∧ M.1 6 k = nI j; rw [B6]; by_cases z : k = nQ L; (rw [if_pos z]; exact ⟨ho, h2, rfl⟩); (rw [if_neg z]; exact t4 k (by omega))
  · intro s hs; rw [e5]; show (∃ j, j ≤ 99 ∧ M.1 7 s = nI j) ∧ ∃ b, b < 2 ^ nS L ∧ M.1 8 s = nI b; rw [C1 7 (by omega), C1 8 (by omega)]; exact t5 s (by omega)
  · intro k j hj hk q; show M.1 6 j < M.1 6 k; have q : M.2 4 j = M.2 4 k := q; rw [D4, D4, if_neg (show ¬ j = nQ L by omega)] at q; rw [B6, B6, if_neg (show ¬ j = nQ L by omega)]; by_cases z : k = nQ L; (rw [if_pos z] at q ⊢; exact lh_gt (nQ L) t6 h3 j (by omega) q); (rw [if_neg z] at q ⊢; exact t6 k j hj (by omega) q)
  · intro a b ha hb; show ∃ j, j ≤ 9 ∧ M.1 (10 + a) b = nI j; rw [C1 _ (by omega)]; exact g.1 a b ha hb
  · intro a b ha hb; show ∃ j, j ≤ 99 ∧ M.1 (20 + a) b = nI j; rw [C1 _ (by omega)]; exact g.2.1 a b ha hb
  · intro a ha; show ∃ b, b < 32 ∧ M.1 9 a = nI b ∧ ∀ c, c < 5 → b.testBit c = false → M.1 (20 + a) c = 0; rw [C1 9 (by omega), C1 _ (by omega)]; exact g.2.2.1 a ha
  · intro s a b; show M.1 8 s = 0; rw [C1 8 (by omega)]; exact g.2.2.2 s (by omega) b
theorem li_sho (I : LawI L N true) {w cr : Nat} (hf : nS L < 6) (h2 : cr ≤ 99) : LawI (sL2 (sL1 L 7 (nS L) (nI cr)) 0 5 (nS L + 1)) (adN N w 7 (nS L)) true := by
  obtain ⟨⟨c1, c2, c3, c4, c5, c6, c7, c8⟩, ⟨f1, f2, f3⟩, nm, ⟨t1, t2, t3, t4, t5, t6⟩, g⟩ := I
  have K : (sL2 (sL1 L 7 (nS L) (nI cr)) 0 5 (nS L + 1)).2 0 5 = nS L + 1 := s2_0e
  have C : ∀ i, i ≠ 5 → (sL2 (sL1 L 7 (nS L) (nI cr)) 0 5 (nS L + 1)).2 0 i = L.2 0 i := fun i hi => by simp [sL1, sL2, hi]
  have C2 : ∀ a, a ≠ 0 → (sL2 (sL1 L 7 (nS L) (nI cr)) 0 5 (nS L + 1)).2 a = L.2 a := fun a ha => by funext q; simp [sL1, sL2, ha]
  have C1 : ∀ a, a ≠ 7 → (sL2 (sL1 L 7 (nS L) (nI cr)) 0 5 (nS L + 1)).1 a = L.1 a := fun a ha => by funext q; simp [sL1, sL2, ha]
  have B7 : ∀ k, (sL2 (sL1 L 7 (nS L) (nI cr)) 0 5 (nS L + 1)).1 7 k = if k = nS L then nI cr else L.1 7 k := fun k => by simp [sL1, sL2]
  generalize sL2 (sL1 L 7 (nS L) (nI cr)) 0 5 (nS L + 1) = M at *
  have e0 : nC M = nC L := C 0 (by omega)
  have e1 : nP M = nP L := C 1 (by omega)
  have e2 : nK M = nK L := C 2 (by omega)
  have e3 : nR M = nR L := C 3 (by omega)
  have e4 : nQ M = nQ L := C 4 (by omega)
  have e5 : nS M = nS L + 1 := K
  have e6 : nL M = nL L := C 6 (by omega)
  refine li_of ⟨by omega, by omega, by omega, by omega, by omega, by omega, by omega, by show N.1 + 1 = _; omega⟩ ?_ ?_ ?_ (nmb_ad nm (by omega) (by omega) (by omega) (Or.inr (Or.inr ⟨rfl, by omega⟩))) ?_ ?_ ?_ ?_ ?_ ⟨?_, ?_, ?_, ?_⟩
  · intro p hp; show M.2 1 p < nC M; rw [C2 1 (by omega), e0]; exact f1 p (by omega)
  · intro k hk; show M.2 2 k < nP M ∧ M.2 3 k < nC M; rw [C2 2 (by omega), C2 3 (by omega), e0, e1]; exact f2 k (by omega)
  · intro k hk; show M.2 4 k < nP M; rw [C2 4 (by omega), e1]; exact f3 k (by omega)
  · show ∃ r, r ≤ 9 ∧ M.1 0 0 = nI r; rw [C1 0 (by omega)]; exact t1 rfl
  · intro k hk; show (∃ j, 1 ≤ j ∧ j ≤ 12 ∧ M.1 2 k = nI j) ∧ ∃ j, j ≤ 100 ∧ M.1 3 k = nI j; rw [C1 2 (by omega), C1 3 (by omega)]; exact t3 k (by omega)
  · intro k hk; show ∃ j, j ≤ 99 ∧ M.1 6 k = nI j; rw [C1 6 (by omega)]; exact t4 k (by omega)
  · intro s hs; rw [e5]; show (∃ j, j ≤ 99 ∧ M.1 7 s = nI j) ∧ ∃ b, b < 2 ^ (nS L + 1) ∧ M.1 8 s = nI b; rw [B7, C1 8 (by omega), Nat.pow_succ]; by_cases z : s = nS L; (rw [if_pos z]; exact ⟨⟨cr, h2, rfl⟩, ⟨0, by have := Nat.two_pow_pos (nS L); omega, by rw [z]; exact g.2.2.2 (nS L) (by omega) hf⟩⟩); (rw [if_neg z]; obtain ⟨x1, b, x2, x3⟩ := t5 s (by omega); exact ⟨x1, b, by omega, x3⟩)
  · intro k j hj hk q; show M.1 6 j < M.1 6 k; rw [C1 6 (by omega)]; exact t6 k j hj (by omega) (by have q : M.2 4 j = M.2 4 k := q; rw [C2 4 (by omega)] at q; exact q)
  · intro a b ha hb; show ∃ j, j ≤ 9 ∧ M.1 (10 + a) b = nI j; rw [C1 _ (by omega)]; exact g.1 a b ha hb
  · intro a b ha hb; show ∃ j, j ≤ 99 ∧ M.1 (20 + a) b = nI j; rw [C1 _ (by omega)]; exact g.2.1 a b ha hb
  · intro a ha; show ∃ b, b < 32 ∧ M.1 9 a = nI b ∧ ∀ c, c < 5 → b.testBit c = false → M.1 (20 + a) c = 0; rw [C1 9 (by omega), C1 _ (by omega)]; exact g.2.2.1 a ha
  · intro s a b; show M.1 8 s = 0; rw [C1 8 (by omega)]; exact g.2.2.2 s (by omega) b
theorem bit_or6 : ∀ b, b < 64 → ∀ c, c < 6 → nI b ||| ((1 : Int32) <<< (nI c &&& 31)) = nI (b ||| 2 ^ c) := by decide +kernel
theorem li_lan (I : LawI L N true) {s t : Nat} (hf : nL L < 8) (hs : s < nS L) (ht : t < nS L) (hst : t ≠ s) : LawI (lanL L s t) N true := by
  obtain ⟨⟨c1, c2, c3, c4, c5, c6, c7, c8⟩, ⟨f1, f2, f3⟩, nm, ⟨t1, t2, t3, t4, t5, t6⟩, g⟩ := I
  have K : (lanL L s t).2 0 6 = nL L + 1 := s2_0e
  have C : ∀ i, i ≠ 6 → (lanL L s t).2 0 i = L.2 0 i := fun i hi => by simp [lanL, sL1, sL2, hi]
  have C2 : ∀ a, a ≠ 0 → (lanL L s t).2 a = L.2 a := fun a ha => by funext q; simp [lanL, sL1, sL2, ha]
  have C1 : ∀ a, a ≠ 8 → (lanL L s t).1 a = L.1 a := fun a ha => by funext q; simp [lanL, sL1, sL2, ha]
  have B8 : ∀ k, (lanL L s t).1 8 k = if k = t then L.1 8 t ||| ((1 : Int32) <<< (nI s &&& 31)) else if k = s then L.1 8 s ||| ((1 : Int32) <<< (nI t &&& 31)) else L.1 8 k := fun k => by
    by_cases z : k = t
    · subst z
      simp [lanL, sL1, sL2, nea, hst]
    · simp [lanL, sL1, sL2, nea, z]
  generalize lanL L s t = M at *
  have e0 : nC M = nC L := C 0 (by omega)
  have e1 : nP M = nP L := C 1 (by omega)
  have e2 : nK M = nK L := C 2 (by omega)
  have e3 : nR M = nR L := C 3 (by omega)
  have e4 : nQ M = nQ L := C 4 (by omega)
  have e5 : nS M = nS L := C 5 (by omega)
  have e6 : nL M = nL L + 1 := K
  refine li_of ⟨by omega, by omega, by omega, by omega, by omega, by omega, by omega, by omega⟩ ?_ ?_ ?_ (fun k hk => by rw [e0, e1, e5]; exact nm k hk) ?_ ?_ ?_ ?_ ?_ ⟨?_, ?_, ?_, ?_⟩
  · intro p hp; show M.2 1 p < nC M; rw [C2 1 (by omega), e0]; exact f1 p (by omega)
  · intro k hk; show M.2 2 k < nP M ∧ M.2 3 k < nC M; rw [C2 2 (by omega), C2 3 (by omega), e0, e1]; exact f2 k (by omega)
  · intro k hk; show M.2 4 k < nP M; rw [C2 4 (by omega), e1]; exact f3 k (by omega)
  · show ∃ r, r ≤ 9 ∧ M.1 0 0 = nI r; rw [C1 0 (by omega)]; exact t1 rfl
  · intro k hk; show (∃ j, 1 ≤ j ∧ j ≤ 12 ∧ M.1 2 k = nI j) ∧ ∃ j, j ≤ 100 ∧ M.1 3 k = nI j; rw [C1 2 (by omega), C1 3 (by omega)]; exact t3 k (by omega)
  · intro k hk; show ∃ j, j ≤ 99 ∧ M.1 6 k = nI j; rw [C1 6 (by omega)]; exact t4 k (by omega)
  · intro k hk; rw [e5]; show (∃ j, j ≤ 99 ∧ M.1 7 k = nI j) ∧ ∃ b, b < 2 ^ nS L ∧ M.1 8 k = nI b; rw [C1 7 (by omega), B8]; refine ⟨(t5 k (by omega)).1, ?_⟩; obtain ⟨-, bt, bt1, bt2⟩ := t5 t ht; obtain ⟨-, bs, bs1, bs2⟩ := t5 s hs; have p6 : 2 ^ nS L ≤ 2 ^ 6 := Nat.pow_le_pow_right (by omega) c5; have bt2 : L.1 8 t = nI bt := bt2; have bs2 : L.1 8 s = nI bs := bs2; by_cases z : k = t; (rw [if_pos z, bt2, bit_or6 bt (by omega) s (by omega)]; exact ⟨_, Nat.or_lt_two_pow bt1 (Nat.pow_lt_pow_right (by omega) hs), rfl⟩); (rw [if_neg z]; by_cases y : k = s; (rw [if_pos y, bs2, bit_or6 bs (by omega) t (by omega)]; exact ⟨_, Nat.or_lt_two_pow bs1 (Nat.pow_lt_pow_right (by omega) ht), rfl⟩); (rw [if_neg y]; exact (t5 k (by omega)).2))
  · intro k j hj hk q; show M.1 6 j < M.1 6 k; rw [C1 6 (by omega)]; exact t6 k j hj (by omega) (by have q : M.2 4 j = M.2 4 k := q; rw [C2 4 (by omega)] at q; exact q)
  · intro a b ha hb; show ∃ j, j ≤ 9 ∧ M.1 (10 + a) b = nI j; rw [C1 _ (by omega)]; exact g.1 a b ha hb
  · intro a b ha hb; show ∃ j, j ≤ 99 ∧ M.1 (20 + a) b = nI j; rw [C1 _ (by omega)]; exact g.2.1 a b ha hb
  · intro a ha; show ∃ b, b < 32 ∧ M.1 9 a = nI b ∧ ∀ c, c < 5 → b.testBit c = false → M.1 (20 + a) c = 0; rw [C1 9 (by omega), C1 _ (by omega)]; exact g.2.2.1 a ha
  · intro k a b; show M.1 8 k = 0; rw [B8, if_neg (show ¬ k = t by omega), if_neg (show ¬ k = s by omega)]; exact g.2.2.2 k (by omega) b
end W2
