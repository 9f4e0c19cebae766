/-! a law is changed, one number at a time: the class -/
def sL1 (L : LawD) (r c : Nat) (x : Int32) : LawD := (fun a b => if a = r ∧ b = c then x else L.1 a b, L.2)
def sL2 (L : LawD) (r c x : Nat) : LawD := (L.1, fun a b => if a = r ∧ b = c then x else L.2 a b)
section Z1
variable {L : LawD} {r c a x : Nat} {y : Int32}
theorem s1_ne (h : a ≠ r) : (sL1 L r c y).1 a = L.1 a := by
  funext b; exact if_neg (fun q => h q.1)
theorem s1_eq : (sL1 L r c y).1 r = up1 (L.1 r) c y := by
  funext b
  show (if r = r ∧ b = c then y else L.1 r b) = if b = c then y else L.1 r b
  simp
theorem s2_ne (h : a ≠ r) : (sL2 L r c x).2 a = L.2 a := by
  funext b; exact if_neg (fun q => h q.1)
theorem s2_nf (h : a ≠ r) : (fun q => nI ((sL2 L r c x).2 a q)) = fun q => nI (L.2 a q) := by
  rw [s2_ne h]
theorem s2_ef : (fun q => nI ((sL2 L r c x).2 r q)) = up1 (fun q => nI (L.2 r q)) c (nI x) := by
  funext q
  show nI (if r = r ∧ q = c then x else L.2 r q) = if q = c then nI x else nI (L.2 r q)
  by_cases z : q = c <;> simp [z]
theorem s1_0 (h : ¬ (r = 0 ∧ c = a)) : (sL1 L r c y).1 0 a = L.1 0 a := if_neg (fun q => h ⟨q.1.symm, q.2.symm⟩)
theorem s2_0 (h : ¬ (r = 0 ∧ c = a)) : (sL2 L r c x).2 0 a = L.2 0 a := if_neg (fun q => h ⟨q.1.symm, q.2.symm⟩)
theorem s2_0e : (sL2 L 0 c x).2 0 c = x := if_pos ⟨rfl, rfl⟩
theorem s1_0e : (sL1 L 0 c y).1 0 c = y := if_pos ⟨rfl, rfl⟩

theorem LawC.u_srt {h : PH} {b k : Nat} (e : LawC h b L) (hk : k < 5) (y : Int32) : ∃ h1, sA h 50 (some (b + 7)) (nI k) (.inl (y)) = some h1 ∧ LawC h1 b (sL1 L 1 k y) ∧ Fr h h1 (b + 7) (b + 7 + 1) := by
  obtain ⟨e0, e1, e2, e3, e4, e5, e6, e7, ⟨r0, r1, r2, r3, r4, r5⟩, ⟨c0, c1, c2, c3⟩, ⟨s0, s1, s2⟩⟩ := e
  obtain ⟨h1, a1, a2, a3⟩ := e3.set hk (by decide) (y)
  generalize hL : sL1 L 1 k y = L'
  refine ⟨h1, a1, ?_, a3⟩
  subst hL
  exact ⟨(by rw [show root (sL1 L 1 k y) = root L from s1_0 (by omega), show third (sL1 L 1 k y) = third L from s1_0 (by omega)]; exact (a3.2 _ (by omega)).trans e0), (a3.2 _ (by omega)).trans e1, fun i hi => ((e2 i hi).fr a3 (by omega)).gt (s1_ne (by omega)), a2.gt s1_eq, e4.fr a3 (by omega), (a3.2 _ (by omega)).trans e5, fun i hi => ((e6 i hi).fr a3 (by omega)).gt (s1_ne (by omega)), (e7.fr a3 (by omega)).gt (s1_ne (by omega)), ⟨((a3.2 _ (by omega)).trans r0), r1.fr a3 (by omega), r2.fr a3 (by omega), (r3.fr a3 (by omega)).gt (s1_ne (by omega)), (r4.fr a3 (by omega)).gt (s1_ne (by omega)), (r5.fr a3 (by omega)).gt (s1_ne (by omega))⟩, ⟨((a3.2 _ (by omega)).trans c0), c1.fr a3 (by omega), (c2.fr a3 (by omega)).gt (s1_ne (by omega)), (c3.fr a3 (by omega)).gt (s1_ne (by omega))⟩, ⟨((a3.2 _ (by omega)).trans s0), (s1.fr a3 (by omega)).gt (s1_ne (by omega)), (s2.fr a3 (by omega)).gt (s1_ne (by omega))⟩⟩

theorem LawC.u_frs {h : PH} {b k : Nat} (e : LawC h b L) (hk : k < 5) (x : Nat) : ∃ h1, sA h 50 (some (b + 8)) (nI k) (.inl (nI x)) = some h1 ∧ LawC h1 b (sL2 L 1 k x) ∧ Fr h h1 (b + 8) (b + 8 + 1) := by
  obtain ⟨e0, e1, e2, e3, e4, e5, e6, e7, ⟨r0, r1, r2, r3, r4, r5⟩, ⟨c0, c1, c2, c3⟩, ⟨s0, s1, s2⟩⟩ := e
  obtain ⟨h1, a1, a2, a3⟩ := e4.set hk (by decide) (nI x)
  generalize hL : sL2 L 1 k x = L'
  refine ⟨h1, a1, ?_, a3⟩
  subst hL
  exact ⟨(by rw [show nC (sL2 L 1 k x) = nC L from s2_0 (by omega), show nP (sL2 L 1 k x) = nP L from s2_0 (by omega), show nK (sL2 L 1 k x) = nK L from s2_0 (by omega)]; exact (a3.2 _ (by omega)).trans e0), (a3.2 _ (by omega)).trans e1, fun i hi => (e2 i hi).fr a3 (by omega), e3.fr a3 (by omega), a2.gt s2_ef, (a3.2 _ (by omega)).trans e5, fun i hi => (e6 i hi).fr a3 (by omega), e7.fr a3 (by omega), ⟨(by rw [show nR (sL2 L 1 k x) = nR L from s2_0 (by omega)]; exact (a3.2 _ (by omega)).trans r0), (r1.fr a3 (by omega)).gt (s2_nf (by omega)), (r2.fr a3 (by omega)).gt (s2_nf (by omega)), r3.fr a3 (by omega), r4.fr a3 (by omega), r5.fr a3 (by omega)⟩, ⟨(by rw [show nQ (sL2 L 1 k x) = nQ L from s2_0 (by omega)]; exact (a3.2 _ (by omega)).trans c0), (c1.fr a3 (by omega)).gt (s2_nf (by omega)), c2.fr a3 (by omega), c3.fr a3 (by omega)⟩, ⟨(by rw [show nS (sL2 L 1 k x) = nS L from s2_0 (by omega), show nL (sL2 L 1 k x) = nL L from s2_0 (by omega)]; exact (a3.2 _ (by omega)).trans s0), s1.fr a3 (by omega), s2.fr a3 (by omega)⟩⟩

theorem LawC.u_lik {h : PH} {b k : Nat} (e : LawC h b L) (hk : k < 5) (y : Int32) : ∃ h1, sA h 50 (some (b + 15)) (nI k) (.inl (y)) = some h1 ∧ LawC h1 b (sL1 L 9 k y) ∧ Fr h h1 (b + 15) (b + 15 + 1) := by
  obtain ⟨e0, e1, e2, e3, e4, e5, e6, e7, ⟨r0, r1, r2, r3, r4, r5⟩, ⟨c0, c1, c2, c3⟩, ⟨s0, s1, s2⟩⟩ := e
  obtain ⟨h1, a1, a2, a3⟩ := e7.set hk (by decide) (y)
  generalize hL : sL1 L 9 k y = L'
  refine ⟨h1, a1, ?_, a3⟩
  subst hL
  exact ⟨(by rw [show root (sL1 L 9 k y) = root L from s1_0 (by omega), show third (sL1 L 9 k y) = third L from s1_0 (by omega)]; exact (a3.2 _ (by omega)).trans e0), (a3.2 _ (by omega)).trans e1, fun i hi => ((e2 i hi).fr a3 (by omega)).gt (s1_ne (by omega)), (e3.fr a3 (by omega)).gt (s1_ne (by omega)), e4.fr a3 (by omega), (a3.2 _ (by omega)).trans e5, fun i hi => ((e6 i hi).fr a3 (by omega)).gt (s1_ne (by omega)), a2.gt s1_eq, ⟨((a3.2 _ (by omega)).trans r0), r1.fr a3 (by omega), r2.fr a3 (by omega), (r3.fr a3 (by omega)).gt (s1_ne (by omega)), (r4.fr a3 (by omega)).gt (s1_ne (by omega)), (r5.fr a3 (by omega)).gt (s1_ne (by omega))⟩, ⟨((a3.2 _ (by omega)).trans c0), c1.fr a3 (by omega), (c2.fr a3 (by omega)).gt (s1_ne (by omega)), (c3.fr a3 (by omega)).gt (s1_ne (by omega))⟩, ⟨((a3.2 _ (by omega)).trans s0), (s1.fr a3 (by omega)).gt (s1_ne (by omega)), (s2.fr a3 (by omega)).gt (s1_ne (by omega))⟩⟩

theorem LawC.u_rpe {h : PH} {b k : Nat} (e : LawC h b L) (hk : k < 4) (x : Nat) : ∃ h1, sA h 50 (some (b + 17)) (nI k) (.inl (nI x)) = some h1 ∧ LawC h1 b (sL2 L 2 k x) ∧ Fr h h1 (b + 17) (b + 17 + 1) := by
  obtain ⟨e0, e1, e2, e3, e4, e5, e6, e7, ⟨r0, r1, r2, r3, r4, r5⟩, ⟨c0, c1, c2, c3⟩, ⟨s0, s1, s2⟩⟩ := e
  obtain ⟨h1, a1, a2, a3⟩ := r1.set hk (by decide) (nI x)
  generalize hL : sL2 L 2 k x = L'
  refine ⟨h1, a1, ?_, a3⟩
  subst hL
  exact ⟨(by rw [show nC (sL2 L 2 k x) = nC L from s2_0 (by omega), show nP (sL2 L 2 k x) = nP L from s2_0 (by omega), show nK (sL2 L 2 k x) = nK L from s2_0 (by omega)]; exact (a3.2 _ (by omega)).trans e0), (a3.2 _ (by omega)).trans e1, fun i hi => (e2 i hi).fr a3 (by omega), e3.fr a3 (by omega), (e4.fr a3 (by omega)).gt (s2_nf (by omega)), (a3.2 _ (by omega)).trans e5, fun i hi => (e6 i hi).fr a3 (by omega), e7.fr a3 (by omega), ⟨(by rw [show nR (sL2 L 2 k x) = nR L from s2_0 (by omega)]; exact (a3.2 _ (by omega)).trans r0), a2.gt s2_ef, (r2.fr a3 (by omega)).gt (s2_nf (by omega)), r3.fr a3 (by omega), r4.fr a3 (by omega), r5.fr a3 (by omega)⟩, ⟨(by rw [show nQ (sL2 L 2 k x) = nQ L from s2_0 (by omega)]; exact (a3.2 _ (by omega)).trans c0), (c1.fr a3 (by omega)).gt (s2_nf (by omega)), c2.fr a3 (by omega), c3.fr a3 (by omega)⟩, ⟨(by rw [show nS (sL2 L 2 k x) = nS L from s2_0 (by omega), show nL (sL2 L 2 k x) = nL L from s2_0 (by omega)]; exact (a3.2 _ (by omega)).trans s0), s1.fr a3 (by omega), s2.fr a3 (by omega)⟩⟩

theorem LawC.u_rch {h : PH} {b k : Nat} (e : LawC h b L) (hk : k < 4) (x : Nat) : ∃ h1, sA h 50 (some (b + 18)) (nI k) (.inl (nI x)) = some h1 ∧ LawC h1 b (sL2 L 3 k x) ∧ Fr h h1 (b + 18) (b + 18 + 1) := by
  obtain ⟨e0, e1, e2, e3, e4, e5, e6, e7, ⟨r0, r1, r2, r3, r4, r5⟩, ⟨c0, c1, c2, c3⟩, ⟨s0, s1, s2⟩⟩ := e
  obtain ⟨h1, a1, a2, a3⟩ := r2.set hk (by decide) (nI x)
  generalize hL : sL2 L 3 k x = L'
  refine ⟨h1, a1, ?_, a3⟩
  subst hL
  exact ⟨(by rw [show nC (sL2 L 3 k x) = nC L from s2_0 (by omega), show nP (sL2 L 3 k x) = nP L from s2_0 (by omega), show nK (sL2 L 3 k x) = nK L from s2_0 (by omega)]; exact (a3.2 _ (by omega)).trans e0), (a3.2 _ (by omega)).trans e1, fun i hi => (e2 i hi).fr a3 (by omega), e3.fr a3 (by omega), (e4.fr a3 (by omega)).gt (s2_nf (by omega)), (a3.2 _ (by omega)).trans e5, fun i hi => (e6 i hi).fr a3 (by omega), e7.fr a3 (by omega), ⟨(by rw [show nR (sL2 L 3 k x) = nR L from s2_0 (by omega)]; exact (a3.2 _ (by omega)).trans r0), (r1.fr a3 (by omega)).gt (s2_nf (by omega)), a2.gt s2_ef, r3.fr a3 (by omega), r4.fr a3 (by omega), r5.fr a3 (by omega)⟩, ⟨(by rw [show nQ (sL2 L 3 k x) = nQ L from s2_0 (by omega)]; exact (a3.2 _ (by omega)).trans c0), (c1.fr a3 (by omega)).gt (s2_nf (by omega)), c2.fr a3 (by omega), c3.fr a3 (by omega)⟩, ⟨(by rw [show nS (sL2 L 3 k x) = nS L from s2_0 (by omega), show nL (sL2 L 3 k x) = nL L from s2_0 (by omega)]; exact (a3.2 _ (by omega)).trans s0), s1.fr a3 (by omega), s2.fr a3 (by omega)⟩⟩

theorem LawC.u_rho {h : PH} {b k : Nat} (e : LawC h b L) (hk : k < 4) (y : Int32) : ∃ h1, sA h 50 (some (b + 19)) (nI k) (.inl (y)) = some h1 ∧ LawC h1 b (sL1 L 2 k y) ∧ Fr h h1 (b + 19) (b + 19 + 1) := by
  obtain ⟨e0, e1, e2, e3, e4, e5, e6, e7, ⟨r0, r1, r2, r3, r4, r5⟩, ⟨c0, c1, c2, c3⟩, ⟨s0, s1, s2⟩⟩ := e
  obtain ⟨h1, a1, a2, a3⟩ := r3.set hk (by decide) (y)
  generalize hL : sL1 L 2 k y = L'
  refine ⟨h1, a1, ?_, a3⟩
  subst hL
  exact ⟨(by rw [show root (sL1 L 2 k y) = root L from s1_0 (by omega), show third (sL1 L 2 k y) = third L from s1_0 (by omega)]; exact (a3.2 _ (by omega)).trans e0), (a3.2 _ (by omega)).trans e1, fun i hi => ((e2 i hi).fr a3 (by omega)).gt (s1_ne (by omega)), (e3.fr a3 (by omega)).gt (s1_ne (by omega)), e4.fr a3 (by omega), (a3.2 _ (by omega)).trans e5, fun i hi => ((e6 i hi).fr a3 (by omega)).gt (s1_ne (by omega)), (e7.fr a3 (by omega)).gt (s1_ne (by omega)), ⟨((a3.2 _ (by omega)).trans r0), r1.fr a3 (by omega), r2.fr a3 (by omega), a2.gt s1_eq, (r4.fr a3 (by omega)).gt (s1_ne (by omega)), (r5.fr a3 (by omega)).gt (s1_ne (by omega))⟩, ⟨((a3.2 _ (by omega)).trans c0), c1.fr a3 (by omega), (c2.fr a3 (by omega)).gt (s1_ne (by omega)), (c3.fr a3 (by omega)).gt (s1_ne (by omega))⟩, ⟨((a3.2 _ (by omega)).trans s0), (s1.fr a3 (by omega)).gt (s1_ne (by omega)), (s2.fr a3 (by omega)).gt (s1_ne (by omega))⟩⟩

theorem LawC.u_rod {h : PH} {b k : Nat} (e : LawC h b L) (hk : k < 4) (y : Int32) : ∃ h1, sA h 50 (some (b + 20)) (nI k) (.inl (y)) = some h1 ∧ LawC h1 b (sL1 L 3 k y) ∧ Fr h h1 (b + 20) (b + 20 + 1) := by
  obtain ⟨e0, e1, e2, e3, e4, e5, e6, e7, ⟨r0, r1, r2, r3, r4, r5⟩, ⟨c0, c1, c2, c3⟩, ⟨s0, s1, s2⟩⟩ := e
  obtain ⟨h1, a1, a2, a3⟩ := r4.set hk (by decide) (y)
  generalize hL : sL1 L 3 k y = L'
  refine ⟨h1, a1, ?_, a3⟩
  subst hL
  exact ⟨(by rw [show root (sL1 L 3 k y) = root L from s1_0 (by omega), show third (sL1 L 3 k y) = third L from s1_0 (by omega)]; exact (a3.2 _ (by omega)).trans e0), (a3.2 _ (by omega)).trans e1, fun i hi => ((e2 i hi).fr a3 (by omega)).gt (s1_ne (by omega)), (e3.fr a3 (by omega)).gt (s1_ne (by omega)), e4.fr a3 (by omega), (a3.2 _ (by omega)).trans e5, fun i hi => ((e6 i hi).fr a3 (by omega)).gt (s1_ne (by omega)), (e7.fr a3 (by omega)).gt (s1_ne (by omega)), ⟨((a3.2 _ (by omega)).trans r0), r1.fr a3 (by omega), r2.fr a3 (by omega), (r3.fr a3 (by omega)).gt (s1_ne (by omega)), a2.gt s1_eq, (r5.fr a3 (by omega)).gt (s1_ne (by omega))⟩, ⟨((a3.2 _ (by omega)).trans c0), c1.fr a3 (by omega), (c2.fr a3 (by omega)).gt (s1_ne (by omega)), (c3.fr a3 (by omega)).gt (s1_ne (by omega))⟩, ⟨((a3.2 _ (by omega)).trans s0), (s1.fr a3 (by omega)).gt (s1_ne (by omega)), (s2.fr a3 (by omega)).gt (s1_ne (by omega))⟩⟩

theorem LawC.u_rmo {h : PH} {b k : Nat} (e : LawC h b L) (hk : k < 4) (y : Int32) : ∃ h1, sA h 50 (some (b + 21)) (nI k) (.inl (y)) = some h1 ∧ LawC h1 b (sL1 L 4 k y) ∧ Fr h h1 (b + 21) (b + 21 + 1) := by
  obtain ⟨e0, e1, e2, e3, e4, e5, e6, e7, ⟨r0, r1, r2, r3, r4, r5⟩, ⟨c0, c1, c2, c3⟩, ⟨s0, s1, s2⟩⟩ := e
  obtain ⟨h1, a1, a2, a3⟩ := r5.set hk (by decide) (y)
  generalize hL : sL1 L 4 k y = L'
  refine ⟨h1, a1, ?_, a3⟩
  subst hL
  exact ⟨(by rw [show root (sL1 L 4 k y) = root L from s1_0 (by omega), show third (sL1 L 4 k y) = third L from s1_0 (by omega)]; exact (a3.2 _ (by omega)).trans e0), (a3.2 _ (by omega)).trans e1, fun i hi => ((e2 i hi).fr a3 (by omega)).gt (s1_ne (by omega)), (e3.fr a3 (by omega)).gt (s1_ne (by omega)), e4.fr a3 (by omega), (a3.2 _ (by omega)).trans e5, fun i hi => ((e6 i hi).fr a3 (by omega)).gt (s1_ne (by omega)), (e7.fr a3 (by omega)).gt (s1_ne (by omega)), ⟨((a3.2 _ (by omega)).trans r0), r1.fr a3 (by omega), r2.fr a3 (by omega), (r3.fr a3 (by omega)).gt (s1_ne (by omega)), (r4.fr a3 (by omega)).gt (s1_ne (by omega)), a2.gt s1_eq⟩, ⟨((a3.2 _ (by omega)).trans c0), c1.fr a3 (by omega), (c2.fr a3 (by omega)).gt (s1_ne (by omega)), (c3.fr a3 (by omega)).gt (s1_ne (by omega))⟩, ⟨((a3.2 _ (by omega)).trans s0), (s1.fr a3 (by omega)).gt (s1_ne (by omega)), (s2.fr a3 (by omega)).gt (s1_ne (by omega))⟩⟩

theorem LawC.u_cpe {h : PH} {b k : Nat} (e : LawC h b L) (hk : k < 5) (x : Nat) : ∃ h1, sA h 50 (some (b + 23)) (nI k) (.inl (nI x)) = some h1 ∧ LawC h1 b (sL2 L 4 k x) ∧ Fr h h1 (b + 23) (b + 23 + 1) := by
  obtain ⟨e0, e1, e2, e3, e4, e5, e6, e7, ⟨r0, r1, r2, r3, r4, r5⟩, ⟨c0, c1, c2, c3⟩, ⟨s0, s1, s2⟩⟩ := e
  obtain ⟨h1, a1, a2, a3⟩ := c1.set hk (by decide) (nI x)
  generalize hL : sL2 L 4 k x = L'
  refine ⟨h1, a1, ?_, a3⟩
  subst hL
  exact ⟨(by rw [show nC (sL2 L 4 k x) = nC L from s2_0 (by omega), show nP (sL2 L 4 k x) = nP L from s2_0 (by omega), show nK (sL2 L 4 k x) = nK L from s2_0 (by omega)]; exact (a3.2 _ (by omega)).trans e0), (a3.2 _ (by omega)).trans e1, fun i hi => (e2 i hi).fr a3 (by omega), e3.fr a3 (by omega), (e4.fr a3 (by omega)).gt (s2_nf (by omega)), (a3.2 _ (by omega)).trans e5, fun i hi => (e6 i hi).fr a3 (by omega), e7.fr a3 (by omega), ⟨(by rw [show nR (sL2 L 4 k x) = nR L from s2_0 (by omega)]; exact (a3.2 _ (by omega)).trans r0), (r1.fr a3 (by omega)).gt (s2_nf (by omega)), (r2.fr a3 (by omega)).gt (s2_nf (by omega)), r3.fr a3 (by omega), r4.fr a3 (by omega), r5.fr a3 (by omega)⟩, ⟨(by rw [show nQ (sL2 L 4 k x) = nQ L from s2_0 (by omega)]; exact (a3.2 _ (by omega)).trans c0), a2.gt s2_ef, c2.fr a3 (by omega), c3.fr a3 (by omega)⟩, ⟨(by rw [show nS (sL2 L 4 k x) = nS L from s2_0 (by omega), show nL (sL2 L 4 k x) = nL L from s2_0 (by omega)]; exact (a3.2 _ (by omega)).trans s0), s1.fr a3 (by omega), s2.fr a3 (by omega)⟩⟩

theorem LawC.u_cam {h : PH} {b k : Nat} (e : LawC h b L) (hk : k < 5) (y : Int32) : ∃ h1, sA h 50 (some (b + 24)) (nI k) (.inl (y)) = some h1 ∧ LawC h1 b (sL1 L 5 k y) ∧ Fr h h1 (b + 24) (b + 24 + 1) := by
  obtain ⟨e0, e1, e2, e3, e4, e5, e6, e7, ⟨r0, r1, r2, r3, r4, r5⟩, ⟨c0, c1, c2, c3⟩, ⟨s0, s1, s2⟩⟩ := e
  obtain ⟨h1, a1, a2, a3⟩ := c2.set hk (by decide) (y)
  generalize hL : sL1 L 5 k y = L'
  refine ⟨h1, a1, ?_, a3⟩
  subst hL
  exact ⟨(by rw [show root (sL1 L 5 k y) = root L from s1_0 (by omega), show third (sL1 L 5 k y) = third L from s1_0 (by omega)]; exact (a3.2 _ (by omega)).trans e0), (a3.2 _ (by omega)).trans e1, fun i hi => ((e2 i hi).fr a3 (by omega)).gt (s1_ne (by omega)), (e3.fr a3 (by omega)).gt (s1_ne (by omega)), e4.fr a3 (by omega), (a3.2 _ (by omega)).trans e5, fun i hi => ((e6 i hi).fr a3 (by omega)).gt (s1_ne (by omega)), (e7.fr a3 (by omega)).gt (s1_ne (by omega)), ⟨((a3.2 _ (by omega)).trans r0), r1.fr a3 (by omega), r2.fr a3 (by omega), (r3.fr a3 (by omega)).gt (s1_ne (by omega)), (r4.fr a3 (by omega)).gt (s1_ne (by omega)), (r5.fr a3 (by omega)).gt (s1_ne (by omega))⟩, ⟨((a3.2 _ (by omega)).trans c0), c1.fr a3 (by omega), a2.gt s1_eq, (c3.fr a3 (by omega)).gt (s1_ne (by omega))⟩, ⟨((a3.2 _ (by omega)).trans s0), (s1.fr a3 (by omega)).gt (s1_ne (by omega)), (s2.fr a3 (by omega)).gt (s1_ne (by omega))⟩⟩

theorem LawC.u_cho {h : PH} {b k : Nat} (e : LawC h b L) (hk : k < 5) (y : Int32) : ∃ h1, sA h 50 (some (b + 25)) (nI k) (.inl (y)) = some h1 ∧ LawC h1 b (sL1 L 6 k y) ∧ Fr h h1 (b + 25) (b + 25 + 1) := by
  obtain ⟨e0, e1, e2, e3, e4, e5, e6, e7, ⟨r0, r1, r2, r3, r4, r5⟩, ⟨c0, c1, c2, c3⟩, ⟨s0, s1, s2⟩⟩ := e
  obtain ⟨h1, a1, a2, a3⟩ := c3.set hk (by decide) (y)
  generalize hL : sL1 L 6 k y = L'
  refine ⟨h1, a1, ?_, a3⟩
  subst hL
  exact ⟨(by rw [show root (sL1 L 6 k y) = root L from s1_0 (by omega), show third (sL1 L 6 k y) = third L from s1_0 (by omega)]; exact (a3.2 _ (by omega)).trans e0), (a3.2 _ (by omega)).trans e1, fun i hi => ((e2 i hi).fr a3 (by omega)).gt (s1_ne (by omega)), (e3.fr a3 (by omega)).gt (s1_ne (by omega)), e4.fr a3 (by omega), (a3.2 _ (by omega)).trans e5, fun i hi => ((e6 i hi).fr a3 (by omega)).gt (s1_ne (by omega)), (e7.fr a3 (by omega)).gt (s1_ne (by omega)), ⟨((a3.2 _ (by omega)).trans r0), r1.fr a3 (by omega), r2.fr a3 (by omega), (r3.fr a3 (by omega)).gt (s1_ne (by omega)), (r4.fr a3 (by omega)).gt (s1_ne (by omega)), (r5.fr a3 (by omega)).gt (s1_ne (by omega))⟩, ⟨((a3.2 _ (by omega)).trans c0), c1.fr a3 (by omega), (c2.fr a3 (by omega)).gt (s1_ne (by omega)), a2.gt s1_eq⟩, ⟨((a3.2 _ (by omega)).trans s0), (s1.fr a3 (by omega)).gt (s1_ne (by omega)), (s2.fr a3 (by omega)).gt (s1_ne (by omega))⟩⟩

theorem LawC.u_crd {h : PH} {b k : Nat} (e : LawC h b L) (hk : k < 6) (y : Int32) : ∃ h1, sA h 50 (some (b + 27)) (nI k) (.inl (y)) = some h1 ∧ LawC h1 b (sL1 L 7 k y) ∧ Fr h h1 (b + 27) (b + 27 + 1) := by
  obtain ⟨e0, e1, e2, e3, e4, e5, e6, e7, ⟨r0, r1, r2, r3, r4, r5⟩, ⟨c0, c1, c2, c3⟩, ⟨s0, s1, s2⟩⟩ := e
  obtain ⟨h1, a1, a2, a3⟩ := s1.set hk (by decide) (y)
  generalize hL : sL1 L 7 k y = L'
  refine ⟨h1, a1, ?_, a3⟩
  subst hL
  exact ⟨(by rw [show root (sL1 L 7 k y) = root L from s1_0 (by omega), show third (sL1 L 7 k y) = third L from s1_0 (by omega)]; exact (a3.2 _ (by omega)).trans e0), (a3.2 _ (by omega)).trans e1, fun i hi => ((e2 i hi).fr a3 (by omega)).gt (s1_ne (by omega)), (e3.fr a3 (by omega)).gt (s1_ne (by omega)), e4.fr a3 (by omega), (a3.2 _ (by omega)).trans e5, fun i hi => ((e6 i hi).fr a3 (by omega)).gt (s1_ne (by omega)), (e7.fr a3 (by omega)).gt (s1_ne (by omega)), ⟨((a3.2 _ (by omega)).trans r0), r1.fr a3 (by omega), r2.fr a3 (by omega), (r3.fr a3 (by omega)).gt (s1_ne (by omega)), (r4.fr a3 (by omega)).gt (s1_ne (by omega)), (r5.fr a3 (by omega)).gt (s1_ne (by omega))⟩, ⟨((a3.2 _ (by omega)).trans c0), c1.fr a3 (by omega), (c2.fr a3 (by omega)).gt (s1_ne (by omega)), (c3.fr a3 (by omega)).gt (s1_ne (by omega))⟩, ⟨((a3.2 _ (by omega)).trans s0), a2.gt s1_eq, (s2.fr a3 (by omega)).gt (s1_ne (by omega))⟩⟩

theorem LawC.u_nea {h : PH} {b k : Nat} (e : LawC h b L) (hk : k < 6) (y : Int32) : ∃ h1, sA h 50 (some (b + 28)) (nI k) (.inl (y)) = some h1 ∧ LawC h1 b (sL1 L 8 k y) ∧ Fr h h1 (b + 28) (b + 28 + 1) := by
  obtain ⟨e0, e1, e2, e3, e4, e5, e6, e7, ⟨r0, r1, r2, r3, r4, r5⟩, ⟨c0, c1, c2, c3⟩, ⟨s0, s1, s2⟩⟩ := e
  obtain ⟨h1, a1, a2, a3⟩ := s2.set hk (by decide) (y)
  generalize hL : sL1 L 8 k y = L'
  refine ⟨h1, a1, ?_, a3⟩
  subst hL
  exact ⟨(by rw [show root (sL1 L 8 k y) = root L from s1_0 (by omega), show third (sL1 L 8 k y) = third L from s1_0 (by omega)]; exact (a3.2 _ (by omega)).trans e0), (a3.2 _ (by omega)).trans e1, fun i hi => ((e2 i hi).fr a3 (by omega)).gt (s1_ne (by omega)), (e3.fr a3 (by omega)).gt (s1_ne (by omega)), e4.fr a3 (by omega), (a3.2 _ (by omega)).trans e5, fun i hi => ((e6 i hi).fr a3 (by omega)).gt (s1_ne (by omega)), (e7.fr a3 (by omega)).gt (s1_ne (by omega)), ⟨((a3.2 _ (by omega)).trans r0), r1.fr a3 (by omega), r2.fr a3 (by omega), (r3.fr a3 (by omega)).gt (s1_ne (by omega)), (r4.fr a3 (by omega)).gt (s1_ne (by omega)), (r5.fr a3 (by omega)).gt (s1_ne (by omega))⟩, ⟨((a3.2 _ (by omega)).trans c0), c1.fr a3 (by omega), (c2.fr a3 (by omega)).gt (s1_ne (by omega)), (c3.fr a3 (by omega)).gt (s1_ne (by omega))⟩, ⟨((a3.2 _ (by omega)).trans s0), (s1.fr a3 (by omega)).gt (s1_ne (by omega)), a2.gt s1_eq⟩⟩

theorem LawC.u_far {h : PH} {b j k : Nat} (e : LawC h b L) (hj : j < 5) (hk : k < 5) (y : Int32) : ∃ h1, sA h 50 (some (b + 2 + j)) (nI k) (.inl y) = some h1 ∧ LawC h1 b (sL1 L (10 + j) k y) ∧ Fr h h1 (b + 2 + j) (b + 2 + j + 1) := by
  obtain ⟨e0, e1, e2, e3, e4, e5, e6, e7, ⟨r0, r1, r2, r3, r4, r5⟩, ⟨c0, c1, c2, c3⟩, ⟨s0, s1, s2⟩⟩ := e
  obtain ⟨h1, a1, a2, a3⟩ := (e2 j hj).set hk (by decide) y
  refine ⟨h1, a1, ?_, a3⟩
  exact ⟨(by rw [show root (sL1 L (10 + j) k y) = root L from s1_0 (by omega), show third (sL1 L (10 + j) k y) = third L from s1_0 (by omega)]; exact (a3.2 _ (by omega)).trans e0), (a3.2 _ (by omega)).trans e1, (fun i hi => by
    by_cases z : i = j
    · subst z; exact a2.gt s1_eq
    · exact ((e2 i hi).fr a3 (by omega)).gt (s1_ne (by omega))), (e3.fr a3 (by omega)).gt (s1_ne (by omega)), e4.fr a3 (by omega), (a3.2 _ (by omega)).trans e5, fun i hi => ((e6 i hi).fr a3 (by omega)).gt (s1_ne (by omega)), (e7.fr a3 (by omega)).gt (s1_ne (by omega)), ⟨((a3.2 _ (by omega)).trans r0), r1.fr a3 (by omega), r2.fr a3 (by omega), (r3.fr a3 (by omega)).gt (s1_ne (by omega)), (r4.fr a3 (by omega)).gt (s1_ne (by omega)), (r5.fr a3 (by omega)).gt (s1_ne (by omega))⟩, ⟨((a3.2 _ (by omega)).trans c0), c1.fr a3 (by omega), (c2.fr a3 (by omega)).gt (s1_ne (by omega)), (c3.fr a3 (by omega)).gt (s1_ne (by omega))⟩, ⟨((a3.2 _ (by omega)).trans s0), (s1.fr a3 (by omega)).gt (s1_ne (by omega)), (s2.fr a3 (by omega)).gt (s1_ne (by omega))⟩⟩

theorem LawC.u_wor {h : PH} {b j k : Nat} (e : LawC h b L) (hj : j < 5) (hk : k < 5) (y : Int32) : ∃ h1, sA h 50 (some (b + 10 + j)) (nI k) (.inl y) = some h1 ∧ LawC h1 b (sL1 L (20 + j) k y) ∧ Fr h h1 (b + 10 + j) (b + 10 + j + 1) := by
  obtain ⟨e0, e1, e2, e3, e4, e5, e6, e7, ⟨r0, r1, r2, r3, r4, r5⟩, ⟨c0, c1, c2, c3⟩, ⟨s0, s1, s2⟩⟩ := e
  obtain ⟨h1, a1, a2, a3⟩ := (e6 j hj).set hk (by decide) y
  refine ⟨h1, a1, ?_, a3⟩
  exact ⟨(by rw [show root (sL1 L (20 + j) k y) = root L from s1_0 (by omega), show third (sL1 L (20 + j) k y) = third L from s1_0 (by omega)]; exact (a3.2 _ (by omega)).trans e0), (a3.2 _ (by omega)).trans e1, fun i hi => ((e2 i hi).fr a3 (by omega)).gt (s1_ne (by omega)), (e3.fr a3 (by omega)).gt (s1_ne (by omega)), e4.fr a3 (by omega), (a3.2 _ (by omega)).trans e5, (fun i hi => by
    by_cases z : i = j
    · subst z; exact a2.gt s1_eq
    · exact ((e6 i hi).fr a3 (by omega)).gt (s1_ne (by omega))), (e7.fr a3 (by omega)).gt (s1_ne (by omega)), ⟨((a3.2 _ (by omega)).trans r0), r1.fr a3 (by omega), r2.fr a3 (by omega), (r3.fr a3 (by omega)).gt (s1_ne (by omega)), (r4.fr a3 (by omega)).gt (s1_ne (by omega)), (r5.fr a3 (by omega)).gt (s1_ne (by omega))⟩, ⟨((a3.2 _ (by omega)).trans c0), c1.fr a3 (by omega), (c2.fr a3 (by omega)).gt (s1_ne (by omega)), (c3.fr a3 (by omega)).gt (s1_ne (by omega))⟩, ⟨((a3.2 _ (by omega)).trans s0), (s1.fr a3 (by omega)).gt (s1_ne (by omega)), (s2.fr a3 (by omega)).gt (s1_ne (by omega))⟩⟩

theorem LawC.u_root {h : PH} {b : Nat} (e : LawC h b L) (y : Int32) : ∃ h1, sF h 1 (some (b)) 0 (.inl (y)) = some h1 ∧ LawC h1 b (sL1 L 0 0 y) ∧ Fr h h1 (b) (b + 1) := by
  obtain ⟨e0, e1, e2, e3, e4, e5, e6, e7, ⟨r0, r1, r2, r3, r4, r5⟩, ⟨c0, c1, c2, c3⟩, ⟨s0, s1, s2⟩⟩ := e
  have key : ∃ h9, sF h 1 (some (b)) 0 (.inl (y)) = some h9 ∧ h9[b]? = some (1, [.inl (root (sL1 L 0 0 y)), .inl (third (sL1 L 0 0 y)), .inl (nI (nC (sL1 L 0 0 y))), .inl (nI (nP (sL1 L 0 0 y))), .inl (nI (nK (sL1 L 0 0 y))), .inr (.inr (some (b + 1))), .inr (.inr (some (b + 7))), .inr (.inr (some (b + 8))), .inr (.inr (some (b + 9))), .inr (.inr (some (b + 15))), .inr (.inr (some (b + 16))), .inr (.inr (some (b + 22))), .inr (.inr (some (b + 26)))]) ∧ Fr h h9 (b) (b + 1) := by
    refine ⟨_, sF_o e0 (by simp), ?_, Fr.st⟩
    rw [st_o e0, show root (sL1 L 0 0 y) = y from s1_0e, show third (sL1 L 0 0 y) = third L from s1_0 (by omega)]
    rfl
  obtain ⟨h1, a1, E, F⟩ := key
  exact ⟨h1, a1, ⟨E, (F.2 _ (by omega)).trans e1, fun i hi => ((e2 i hi).fr F (by omega)).gt (s1_ne (by omega)), (e3.fr F (by omega)).gt (s1_ne (by omega)), e4.fr F (by omega), (F.2 _ (by omega)).trans e5, fun i hi => ((e6 i hi).fr F (by omega)).gt (s1_ne (by omega)), (e7.fr F (by omega)).gt (s1_ne (by omega)), ⟨((F.2 _ (by omega)).trans r0), r1.fr F (by omega), r2.fr F (by omega), (r3.fr F (by omega)).gt (s1_ne (by omega)), (r4.fr F (by omega)).gt (s1_ne (by omega)), (r5.fr F (by omega)).gt (s1_ne (by omega))⟩, ⟨((F.2 _ (by omega)).trans c0), c1.fr F (by omega), (c2.fr F (by omega)).gt (s1_ne (by omega)), (c3.fr F (by omega)).gt (s1_ne (by omega))⟩, ⟨((F.2 _ (by omega)).trans s0), (s1.fr F (by omega)).gt (s1_ne (by omega)), (s2.fr F (by omega)).gt (s1_ne (by omega))⟩⟩, F⟩

theorem LawC.u_third {h : PH} {b : Nat} (e : LawC h b L) (y : Int32) : ∃ h1, sF h 1 (some (b)) 1 (.inl (y)) = some h1 ∧ LawC h1 b (sL1 L 0 1 y) ∧ Fr h h1 (b) (b + 1) := by
  obtain ⟨e0, e1, e2, e3, e4, e5, e6, e7, ⟨r0, r1, r2, r3, r4, r5⟩, ⟨c0, c1, c2, c3⟩, ⟨s0, s1, s2⟩⟩ := e
  have key : ∃ h9, sF h 1 (some (b)) 1 (.inl (y)) = some h9 ∧ h9[b]? = some (1, [.inl (root (sL1 L 0 1 y)), .inl (third (sL1 L 0 1 y)), .inl (nI (nC (sL1 L 0 1 y))), .inl (nI (nP (sL1 L 0 1 y))), .inl (nI (nK (sL1 L 0 1 y))), .inr (.inr (some (b + 1))), .inr (.inr (some (b + 7))), .inr (.inr (some (b + 8))), .inr (.inr (some (b + 9))), .inr (.inr (some (b + 15))), .inr (.inr (some (b + 16))), .inr (.inr (some (b + 22))), .inr (.inr (some (b + 26)))]) ∧ Fr h h9 (b) (b + 1) := by
    refine ⟨_, sF_o e0 (by simp), ?_, Fr.st⟩
    rw [st_o e0, show root (sL1 L 0 1 y) = root L from s1_0 (by omega), show third (sL1 L 0 1 y) = y from s1_0e]
    rfl
  obtain ⟨h1, a1, E, F⟩ := key
  exact ⟨h1, a1, ⟨E, (F.2 _ (by omega)).trans e1, fun i hi => ((e2 i hi).fr F (by omega)).gt (s1_ne (by omega)), (e3.fr F (by omega)).gt (s1_ne (by omega)), e4.fr F (by omega), (F.2 _ (by omega)).trans e5, fun i hi => ((e6 i hi).fr F (by omega)).gt (s1_ne (by omega)), (e7.fr F (by omega)).gt (s1_ne (by omega)), ⟨((F.2 _ (by omega)).trans r0), r1.fr F (by omega), r2.fr F (by omega), (r3.fr F (by omega)).gt (s1_ne (by omega)), (r4.fr F (by omega)).gt (s1_ne (by omega)), (r5.fr F (by omega)).gt (s1_ne (by omega))⟩, ⟨((F.2 _ (by omega)).trans c0), c1.fr F (by omega), (c2.fr F (by omega)).gt (s1_ne (by omega)), (c3.fr F (by omega)).gt (s1_ne (by omega))⟩, ⟨((F.2 _ (by omega)).trans s0), (s1.fr F (by omega)).gt (s1_ne (by omega)), (s2.fr F (by omega)).gt (s1_ne (by omega))⟩⟩, F⟩

theorem LawC.u_nC {h : PH} {b : Nat} (e : LawC h b L) (x : Nat) : ∃ h1, sF h 1 (some (b)) 2 (.inl (nI x)) = some h1 ∧ LawC h1 b (sL2 L 0 0 x) ∧ Fr h h1 (b) (b + 1) := by
  obtain ⟨e0, e1, e2, e3, e4, e5, e6, e7, ⟨r0, r1, r2, r3, r4, r5⟩, ⟨c0, c1, c2, c3⟩, ⟨s0, s1, s2⟩⟩ := e
  have key : ∃ h9, sF h 1 (some (b)) 2 (.inl (nI x)) = some h9 ∧ h9[b]? = some (1, [.inl (root (sL2 L 0 0 x)), .inl (third (sL2 L 0 0 x)), .inl (nI (nC (sL2 L 0 0 x))), .inl (nI (nP (sL2 L 0 0 x))), .inl (nI (nK (sL2 L 0 0 x))), .inr (.inr (some (b + 1))), .inr (.inr (some (b + 7))), .inr (.inr (some (b + 8))), .inr (.inr (some (b + 9))), .inr (.inr (some (b + 15))), .inr (.inr (some (b + 16))), .inr (.inr (some (b + 22))), .inr (.inr (some (b + 26)))]) ∧ Fr h h9 (b) (b + 1) := by
    refine ⟨_, sF_o e0 (by simp), ?_, Fr.st⟩
    rw [st_o e0, show nC (sL2 L 0 0 x) = x from s2_0e, show nP (sL2 L 0 0 x) = nP L from s2_0 (by omega), show nK (sL2 L 0 0 x) = nK L from s2_0 (by omega)]
    rfl
  obtain ⟨h1, a1, E, F⟩ := key
  exact ⟨h1, a1, ⟨E, (F.2 _ (by omega)).trans e1, fun i hi => (e2 i hi).fr F (by omega), e3.fr F (by omega), (e4.fr F (by omega)).gt (s2_nf (by omega)), (F.2 _ (by omega)).trans e5, fun i hi => (e6 i hi).fr F (by omega), e7.fr F (by omega), ⟨(by rw [show nR (sL2 L 0 0 x) = nR L from s2_0 (by omega)]; exact (F.2 _ (by omega)).trans r0), (r1.fr F (by omega)).gt (s2_nf (by omega)), (r2.fr F (by omega)).gt (s2_nf (by omega)), r3.fr F (by omega), r4.fr F (by omega), r5.fr F (by omega)⟩, ⟨(by rw [show nQ (sL2 L 0 0 x) = nQ L from s2_0 (by omega)]; exact (F.2 _ (by omega)).trans c0), (c1.fr F (by omega)).gt (s2_nf (by omega)), c2.fr F (by omega), c3.fr F (by omega)⟩, ⟨(by rw [show nS (sL2 L 0 0 x) = nS L from s2_0 (by omega), show nL (sL2 L 0 0 x) = nL L from s2_0 (by omega)]; exact (F.2 _ (by omega)).trans s0), s1.fr F (by omega), s2.fr F (by omega)⟩⟩, F⟩

theorem LawC.u_nP {h : PH} {b : Nat} (e : LawC h b L) (x : Nat) : ∃ h1, sF h 1 (some (b)) 3 (.inl (nI x)) = some h1 ∧ LawC h1 b (sL2 L 0 1 x) ∧ Fr h h1 (b) (b + 1) := by
  obtain ⟨e0, e1, e2, e3, e4, e5, e6, e7, ⟨r0, r1, r2, r3, r4, r5⟩, ⟨c0, c1, c2, c3⟩, ⟨s0, s1, s2⟩⟩ := e
  have key : ∃ h9, sF h 1 (some (b)) 3 (.inl (nI x)) = some h9 ∧ h9[b]? = some (1, [.inl (root (sL2 L 0 1 x)), .inl (third (sL2 L 0 1 x)), .inl (nI (nC (sL2 L 0 1 x))), .inl (nI (nP (sL2 L 0 1 x))), .inl (nI (nK (sL2 L 0 1 x))), .inr (.inr (some (b + 1))), .inr (.inr (some (b + 7))), .inr (.inr (some (b + 8))), .inr (.inr (some (b + 9))), .inr (.inr (some (b + 15))), .inr (.inr (some (b + 16))), .inr (.inr (some (b + 22))), .inr (.inr (some (b + 26)))]) ∧ Fr h h9 (b) (b + 1) := by
    refine ⟨_, sF_o e0 (by simp), ?_, Fr.st⟩
    rw [st_o e0, show nC (sL2 L 0 1 x) = nC L from s2_0 (by omega), show nP (sL2 L 0 1 x) = x from s2_0e, show nK (sL2 L 0 1 x) = nK L from s2_0 (by omega)]
    rfl
  obtain ⟨h1, a1, E, F⟩ := key
  exact ⟨h1, a1, ⟨E, (F.2 _ (by omega)).trans e1, fun i hi => (e2 i hi).fr F (by omega), e3.fr F (by omega), (e4.fr F (by omega)).gt (s2_nf (by omega)), (F.2 _ (by omega)).trans e5, fun i hi => (e6 i hi).fr F (by omega), e7.fr F (by omega), ⟨(by rw [show nR (sL2 L 0 1 x) = nR L from s2_0 (by omega)]; exact (F.2 _ (by omega)).trans r0), (r1.fr F (by omega)).gt (s2_nf (by omega)), (r2.fr F (by omega)).gt (s2_nf (by omega)), r3.fr F (by omega), r4.fr F (by omega), r5.fr F (by omega)⟩, ⟨(by rw [show nQ (sL2 L 0 1 x) = nQ L from s2_0 (by omega)]; exact (F.2 _ (by omega)).trans c0), (c1.fr F (by omega)).gt (s2_nf (by omega)), c2.fr F (by omega), c3.fr F (by omega)⟩, ⟨(by rw [show nS (sL2 L 0 1 x) = nS L from s2_0 (by omega), show nL (sL2 L 0 1 x) = nL L from s2_0 (by omega)]; exact (F.2 _ (by omega)).trans s0), s1.fr F (by omega), s2.fr F (by omega)⟩⟩, F⟩

theorem LawC.u_nK {h : PH} {b : Nat} (e : LawC h b L) (x : Nat) : ∃ h1, sF h 1 (some (b)) 4 (.inl (nI x)) = some h1 ∧ LawC h1 b (sL2 L 0 2 x) ∧ Fr h h1 (b) (b + 1) := by
  obtain ⟨e0, e1, e2, e3, e4, e5, e6, e7, ⟨r0, r1, r2, r3, r4, r5⟩, ⟨c0, c1, c2, c3⟩, ⟨s0, s1, s2⟩⟩ := e
  have key : ∃ h9, sF h 1 (some (b)) 4 (.inl (nI x)) = some h9 ∧ h9[b]? = some (1, [.inl (root (sL2 L 0 2 x)), .inl (third (sL2 L 0 2 x)), .inl (nI (nC (sL2 L 0 2 x))), .inl (nI (nP (sL2 L 0 2 x))), .inl (nI (nK (sL2 L 0 2 x))), .inr (.inr (some (b + 1))), .inr (.inr (some (b + 7))), .inr (.inr (some (b + 8))), .inr (.inr (some (b + 9))), .inr (.inr (some (b + 15))), .inr (.inr (some (b + 16))), .inr (.inr (some (b + 22))), .inr (.inr (some (b + 26)))]) ∧ Fr h h9 (b) (b + 1) := by
    refine ⟨_, sF_o e0 (by simp), ?_, Fr.st⟩
    rw [st_o e0, show nC (sL2 L 0 2 x) = nC L from s2_0 (by omega), show nP (sL2 L 0 2 x) = nP L from s2_0 (by omega), show nK (sL2 L 0 2 x) = x from s2_0e]
    rfl
  obtain ⟨h1, a1, E, F⟩ := key
  exact ⟨h1, a1, ⟨E, (F.2 _ (by omega)).trans e1, fun i hi => (e2 i hi).fr F (by omega), e3.fr F (by omega), (e4.fr F (by omega)).gt (s2_nf (by omega)), (F.2 _ (by omega)).trans e5, fun i hi => (e6 i hi).fr F (by omega), e7.fr F (by omega), ⟨(by rw [show nR (sL2 L 0 2 x) = nR L from s2_0 (by omega)]; exact (F.2 _ (by omega)).trans r0), (r1.fr F (by omega)).gt (s2_nf (by omega)), (r2.fr F (by omega)).gt (s2_nf (by omega)), r3.fr F (by omega), r4.fr F (by omega), r5.fr F (by omega)⟩, ⟨(by rw [show nQ (sL2 L 0 2 x) = nQ L from s2_0 (by omega)]; exact (F.2 _ (by omega)).trans c0), (c1.fr F (by omega)).gt (s2_nf (by omega)), c2.fr F (by omega), c3.fr F (by omega)⟩, ⟨(by rw [show nS (sL2 L 0 2 x) = nS L from s2_0 (by omega), show nL (sL2 L 0 2 x) = nL L from s2_0 (by omega)]; exact (F.2 _ (by omega)).trans s0), s1.fr F (by omega), s2.fr F (by omega)⟩⟩, F⟩

theorem LawC.u_nR {h : PH} {b : Nat} (e : LawC h b L) (x : Nat) : ∃ h1, sF h 6 (some (b + 16)) 0 (.inl (nI x)) = some h1 ∧ LawC h1 b (sL2 L 0 3 x) ∧ Fr h h1 (b + 16) (b + 16 + 1) := by
  obtain ⟨e0, e1, e2, e3, e4, e5, e6, e7, ⟨r0, r1, r2, r3, r4, r5⟩, ⟨c0, c1, c2, c3⟩, ⟨s0, s1, s2⟩⟩ := e
  have key : ∃ h9, sF h 6 (some (b + 16)) 0 (.inl (nI x)) = some h9 ∧ h9[b + 16]? = some (6, [.inl (nI (nR (sL2 L 0 3 x))), .inr (.inr (some (b + 17))), .inr (.inr (some (b + 18))), .inr (.inr (some (b + 19))), .inr (.inr (some (b + 20))), .inr (.inr (some (b + 21)))]) ∧ Fr h h9 (b + 16) (b + 16 + 1) := by
    refine ⟨_, sF_o r0 (by simp), ?_, Fr.st⟩
    rw [st_o r0, show nR (sL2 L 0 3 x) = x from s2_0e]
    rfl
  obtain ⟨h1, a1, E, F⟩ := key
  exact ⟨h1, a1, ⟨(by rw [show nC (sL2 L 0 3 x) = nC L from s2_0 (by omega), show nP (sL2 L 0 3 x) = nP L from s2_0 (by omega), show nK (sL2 L 0 3 x) = nK L from s2_0 (by omega)]; exact (F.2 _ (by omega)).trans e0), (F.2 _ (by omega)).trans e1, fun i hi => (e2 i hi).fr F (by omega), e3.fr F (by omega), (e4.fr F (by omega)).gt (s2_nf (by omega)), (F.2 _ (by omega)).trans e5, fun i hi => (e6 i hi).fr F (by omega), e7.fr F (by omega), ⟨E, (r1.fr F (by omega)).gt (s2_nf (by omega)), (r2.fr F (by omega)).gt (s2_nf (by omega)), r3.fr F (by omega), r4.fr F (by omega), r5.fr F (by omega)⟩, ⟨(by rw [show nQ (sL2 L 0 3 x) = nQ L from s2_0 (by omega)]; exact (F.2 _ (by omega)).trans c0), (c1.fr F (by omega)).gt (s2_nf (by omega)), c2.fr F (by omega), c3.fr F (by omega)⟩, ⟨(by rw [show nS (sL2 L 0 3 x) = nS L from s2_0 (by omega), show nL (sL2 L 0 3 x) = nL L from s2_0 (by omega)]; exact (F.2 _ (by omega)).trans s0), s1.fr F (by omega), s2.fr F (by omega)⟩⟩, F⟩

theorem LawC.u_nQ {h : PH} {b : Nat} (e : LawC h b L) (x : Nat) : ∃ h1, sF h 7 (some (b + 22)) 0 (.inl (nI x)) = some h1 ∧ LawC h1 b (sL2 L 0 4 x) ∧ Fr h h1 (b + 22) (b + 22 + 1) := by
  obtain ⟨e0, e1, e2, e3, e4, e5, e6, e7, ⟨r0, r1, r2, r3, r4, r5⟩, ⟨c0, c1, c2, c3⟩, ⟨s0, s1, s2⟩⟩ := e
  have key : ∃ h9, sF h 7 (some (b + 22)) 0 (.inl (nI x)) = some h9 ∧ h9[b + 22]? = some (7, [.inl (nI (nQ (sL2 L 0 4 x))), .inr (.inr (some (b + 23))), .inr (.inr (some (b + 24))), .inr (.inr (some (b + 25)))]) ∧ Fr h h9 (b + 22) (b + 22 + 1) := by
    refine ⟨_, sF_o c0 (by simp), ?_, Fr.st⟩
    rw [st_o c0, show nQ (sL2 L 0 4 x) = x from s2_0e]
    rfl
  obtain ⟨h1, a1, E, F⟩ := key
  exact ⟨h1, a1, ⟨(by rw [show nC (sL2 L 0 4 x) = nC L from s2_0 (by omega), show nP (sL2 L 0 4 x) = nP L from s2_0 (by omega), show nK (sL2 L 0 4 x) = nK L from s2_0 (by omega)]; exact (F.2 _ (by omega)).trans e0), (F.2 _ (by omega)).trans e1, fun i hi => (e2 i hi).fr F (by omega), e3.fr F (by omega), (e4.fr F (by omega)).gt (s2_nf (by omega)), (F.2 _ (by omega)).trans e5, fun i hi => (e6 i hi).fr F (by omega), e7.fr F (by omega), ⟨(by rw [show nR (sL2 L 0 4 x) = nR L from s2_0 (by omega)]; exact (F.2 _ (by omega)).trans r0), (r1.fr F (by omega)).gt (s2_nf (by omega)), (r2.fr F (by omega)).gt (s2_nf (by omega)), r3.fr F (by omega), r4.fr F (by omega), r5.fr F (by omega)⟩, ⟨E, (c1.fr F (by omega)).gt (s2_nf (by omega)), c2.fr F (by omega), c3.fr F (by omega)⟩, ⟨(by rw [show nS (sL2 L 0 4 x) = nS L from s2_0 (by omega), show nL (sL2 L 0 4 x) = nL L from s2_0 (by omega)]; exact (F.2 _ (by omega)).trans s0), s1.fr F (by omega), s2.fr F (by omega)⟩⟩, F⟩

theorem LawC.u_nS {h : PH} {b : Nat} (e : LawC h b L) (x : Nat) : ∃ h1, sF h 9 (some (b + 26)) 0 (.inl (nI x)) = some h1 ∧ LawC h1 b (sL2 L 0 5 x) ∧ Fr h h1 (b + 26) (b + 26 + 1) := by
  obtain ⟨e0, e1, e2, e3, e4, e5, e6, e7, ⟨r0, r1, r2, r3, r4, r5⟩, ⟨c0, c1, c2, c3⟩, ⟨s0, s1, s2⟩⟩ := e
  have key : ∃ h9, sF h 9 (some (b + 26)) 0 (.inl (nI x)) = some h9 ∧ h9[b + 26]? = some (9, [.inl (nI (nS (sL2 L 0 5 x))), .inl (nI (nL (sL2 L 0 5 x))), .inr (.inr (some (b + 27))), .inr (.inr (some (b + 28)))]) ∧ Fr h h9 (b + 26) (b + 26 + 1) := by
    refine ⟨_, sF_o s0 (by simp), ?_, Fr.st⟩
    rw [st_o s0, show nS (sL2 L 0 5 x) = x from s2_0e, show nL (sL2 L 0 5 x) = nL L from s2_0 (by omega)]
    rfl
  obtain ⟨h1, a1, E, F⟩ := key
  exact ⟨h1, a1, ⟨(by rw [show nC (sL2 L 0 5 x) = nC L from s2_0 (by omega), show nP (sL2 L 0 5 x) = nP L from s2_0 (by omega), show nK (sL2 L 0 5 x) = nK L from s2_0 (by omega)]; exact (F.2 _ (by omega)).trans e0), (F.2 _ (by omega)).trans e1, fun i hi => (e2 i hi).fr F (by omega), e3.fr F (by omega), (e4.fr F (by omega)).gt (s2_nf (by omega)), (F.2 _ (by omega)).trans e5, fun i hi => (e6 i hi).fr F (by omega), e7.fr F (by omega), ⟨(by rw [show nR (sL2 L 0 5 x) = nR L from s2_0 (by omega)]; exact (F.2 _ (by omega)).trans r0), (r1.fr F (by omega)).gt (s2_nf (by omega)), (r2.fr F (by omega)).gt (s2_nf (by omega)), r3.fr F (by omega), r4.fr F (by omega), r5.fr F (by omega)⟩, ⟨(by rw [show nQ (sL2 L 0 5 x) = nQ L from s2_0 (by omega)]; exact (F.2 _ (by omega)).trans c0), (c1.fr F (by omega)).gt (s2_nf (by omega)), c2.fr F (by omega), c3.fr F (by omega)⟩, ⟨E, s1.fr F (by omega), s2.fr F (by omega)⟩⟩, F⟩

theorem LawC.u_nL {h : PH} {b : Nat} (e : LawC h b L) (x : Nat) : ∃ h1, sF h 9 (some (b + 26)) 1 (.inl (nI x)) = some h1 ∧ LawC h1 b (sL2 L 0 6 x) ∧ Fr h h1 (b + 26) (b + 26 + 1) := by
  obtain ⟨e0, e1, e2, e3, e4, e5, e6, e7, ⟨r0, r1, r2, r3, r4, r5⟩, ⟨c0, c1, c2, c3⟩, ⟨s0, s1, s2⟩⟩ := e
  have key : ∃ h9, sF h 9 (some (b + 26)) 1 (.inl (nI x)) = some h9 ∧ h9[b + 26]? = some (9, [.inl (nI (nS (sL2 L 0 6 x))), .inl (nI (nL (sL2 L 0 6 x))), .inr (.inr (some (b + 27))), .inr (.inr (some (b + 28)))]) ∧ Fr h h9 (b + 26) (b + 26 + 1) := by
    refine ⟨_, sF_o s0 (by simp), ?_, Fr.st⟩
    rw [st_o s0, show nS (sL2 L 0 6 x) = nS L from s2_0 (by omega), show nL (sL2 L 0 6 x) = x from s2_0e]
    rfl
  obtain ⟨h1, a1, E, F⟩ := key
  exact ⟨h1, a1, ⟨(by rw [show nC (sL2 L 0 6 x) = nC L from s2_0 (by omega), show nP (sL2 L 0 6 x) = nP L from s2_0 (by omega), show nK (sL2 L 0 6 x) = nK L from s2_0 (by omega)]; exact (F.2 _ (by omega)).trans e0), (F.2 _ (by omega)).trans e1, fun i hi => (e2 i hi).fr F (by omega), e3.fr F (by omega), (e4.fr F (by omega)).gt (s2_nf (by omega)), (F.2 _ (by omega)).trans e5, fun i hi => (e6 i hi).fr F (by omega), e7.fr F (by omega), ⟨(by rw [show nR (sL2 L 0 6 x) = nR L from s2_0 (by omega)]; exact (F.2 _ (by omega)).trans r0), (r1.fr F (by omega)).gt (s2_nf (by omega)), (r2.fr F (by omega)).gt (s2_nf (by omega)), r3.fr F (by omega), r4.fr F (by omega), r5.fr F (by omega)⟩, ⟨(by rw [show nQ (sL2 L 0 6 x) = nQ L from s2_0 (by omega)]; exact (F.2 _ (by omega)).trans c0), (c1.fr F (by omega)).gt (s2_nf (by omega)), c2.fr F (by omega), c3.fr F (by omega)⟩, ⟨E, s1.fr F (by omega), s2.fr F (by omega)⟩⟩, F⟩

end Z1
