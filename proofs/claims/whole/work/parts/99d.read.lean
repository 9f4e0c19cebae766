/-! the class reads a text -/
def wpL (L : LawD) : LawD := (fun a c => if a = 0 ∨ a = 8 ∨ a = 9 ∨ (10 ≤ a ∧ a < 15) ∨ (20 ≤ a ∧ a < 25) then 0 else L.1 a c, fun a c => if a = 0 then 0 else L.2 a c)
def N0 : NmD := (0, fun _ => (0, 0, 0))
theorem wp_i (L : LawD) : LawI (wpL L) N0 false := by
  have c : ∀ i, (wpL L).2 0 i = 0 := fun i => by show (if 0 = 0 then 0 else L.2 0 i) = 0; rw [if_pos rfl]
  refine ⟨⟨by rw [show nC (wpL L) = 0 from c 0]; omega, by rw [show nP (wpL L) = 0 from c 1]; omega, by rw [show nR (wpL L) = 0 from c 3]; omega, by rw [show nQ (wpL L) = 0 from c 4]; omega, by rw [show nS (wpL L) = 0 from c 5]; omega, by rw [show nK (wpL L) = 0 from c 2]; omega, by rw [show nL (wpL L) = 0 from c 6]; omega, by rw [show nC (wpL L) = 0 from c 0, show nP (wpL L) = 0 from c 1, show nS (wpL L) = 0 from c 5]; rfl⟩, ⟨?_, ?_, ?_⟩, ?_, ⟨fun q => (by cases q), fun _ => ⟨c 0, c 1, c 3, c 4, c 5, c 2, c 6⟩, ?_, ?_, ?_, ?_⟩, ?_, ?_, ?_, ?_⟩
  · intro p hp; rw [show nP (wpL L) = 0 from c 1] at hp; omega
  · intro p hp; rw [show nR (wpL L) = 0 from c 3] at hp; omega
  · intro p hp; rw [show nQ (wpL L) = 0 from c 4] at hp; omega
  · intro k hk; exact absurd hk (Nat.not_lt_zero k)
  · intro p hp; rw [show nR (wpL L) = 0 from c 3] at hp; omega
  · intro p hp; rw [show nQ (wpL L) = 0 from c 4] at hp; omega
  · intro p hp; rw [show nS (wpL L) = 0 from c 5] at hp; omega
  · intro k j _ hk; rw [show nQ (wpL L) = 0 from c 4] at hk; omega
  · intro a b ha hb
    refine ⟨0, by omega, ?_⟩
    show (if 10 + a = 0 ∨ 10 + a = 8 ∨ 10 + a = 9 ∨ (10 ≤ 10 + a ∧ 10 + a < 15) ∨ (20 ≤ 10 + a ∧ 10 + a < 25) then 0 else L.1 (10 + a) b) = nI 0
    rw [if_pos (by omega)]; rfl
  · intro a b ha hb
    refine ⟨0, by omega, ?_⟩
    show (if 20 + a = 0 ∨ 20 + a = 8 ∨ 20 + a = 9 ∨ (10 ≤ 20 + a ∧ 20 + a < 15) ∨ (20 ≤ 20 + a ∧ 20 + a < 25) then 0 else L.1 (20 + a) b) = nI 0
    rw [if_pos (by omega)]; rfl
  · intro a ha
    refine ⟨0, by omega, ?_, fun c _ _ => ?_⟩
    · show (if 9 = 0 ∨ 9 = 8 ∨ 9 = 9 ∨ (10 ≤ 9 ∧ 9 < 15) ∨ (20 ≤ 9 ∧ 9 < 25) then 0 else L.1 9 a) = nI 0
      rw [if_pos (by omega)]; rfl
    · show (if 20 + a = 0 ∨ 20 + a = 8 ∨ 20 + a = 9 ∨ (10 ≤ 20 + a ∧ 20 + a < 15) ∨ (20 ≤ 20 + a ∧ 20 + a < 25) then 0 else L.1 (20 + a) c) = 0
      rw [if_pos (by omega)]
  · intro s _ _
    show (if 8 = 0 ∨ 8 = 8 ∨ 8 = 9 ∨ (10 ≤ 8 ∧ 8 < 15) ∨ (20 ≤ 8 ∧ 8 < 25) then 0 else L.1 8 s) = 0
    rw [if_pos (by omega)]
section X3
variable {h : PH} {b : Nat} {L : LawD}
/-- rows of rows are wiped -/
theorem cls_fam {o k : Nat} {G : Nat → Nat → Int32} (g : ∀ h1 : PH, Fr h h1 (b + o + 1) (b + o + 6) → gR h1 1 (some b) k = some (some (b + o))) (e1 : h[b + o]? = some (53, (List.range 5).map fun i => .inr (.inr (some (b + o + 1 + i))))) (e2 : ∀ c, c < 5 → Fu h (b + o + 1 + c) 5 (G c)) : ∃ x, pj_it (X := PH) (fun s6 : Int32 × PH => if (5 : Int32) ≤ s6.1 then (some (.inr s6.2)) else ((gR s6.2 1 (some b) k).bind fun v8 => (aR s6.2 53 v8 s6.1).bind fun v9 => (f_Arrays_fill s6.2 v9 (0 : Int32)).bind fun h10 => some (.inl ((s6.1 + (1 : Int32)), h10)))) FU ((0 : Int32), h) = some x ∧ (∀ c, c < 5 → Fu x (b + o + 1 + c) 5 (fun _ => 0)) ∧ Fr h x (b + o + 1) (b + o + 6) := by
  refine pj_inv (fun i s => s.1 = nI i ∧ (∀ c, c < 5 → ∃ f, Fu s.2 (b + o + 1 + c) 5 f ∧ (c < i → ∀ q, f q = 0)) ∧ Fr h s.2 (b + o + 1) (b + o + 6)) (fun x => (∀ c, c < 5 → Fu x (b + o + 1 + c) 5 (fun _ => 0)) ∧ Fr h x (b + o + 1) (b + o + 6)) 5 (by omega) ⟨rfl, fun c hc => ⟨_, e2 c hc, fun q => absurd q (Nat.not_lt_zero c)⟩, Fr.rf⟩ ?_ ?_
  · rintro i ⟨s1, s2⟩ hi ⟨x1, x2, x3⟩
    dsimp only at x1 x2 x3 ⊢
    subst x1
    left
    obtain ⟨f, y1, -⟩ := x2 i hi
    obtain ⟨h8, w1, w2, w3⟩ := y1.fill (by omega) 0
    rw [if_neg (show ¬ (5 : Int32) ≤ nI i from nI_nle' (b := 5) hi (by omega)), g s2 x3, Option.bind_some, aR_o ((x3.2 _ (by omega)).trans e1) hi (by decide), Option.bind_some, w1, Option.bind_some, nI_s]
    refine ⟨_, rfl, rfl, fun c hc => ?_, x3.tr (w3.wd (by omega) (by omega))⟩
    by_cases z : c = i
    · subst z; exact ⟨_, w2, fun _ _ => rfl⟩
    · obtain ⟨f9, v1, v2⟩ := x2 c hc
      exact ⟨f9, v1.fr w3 (by omega), fun q => v2 (by omega)⟩
  · rintro ⟨s1, s2⟩ ⟨x1, x2, x3⟩
    dsimp only at x1 x2 x3 ⊢
    subst x1
    rw [if_pos (show (5 : Int32) ≤ nI 5 by decide)]
    refine ⟨_, rfl, fun c hc => ?_, x3⟩
    obtain ⟨f9, v1, v2⟩ := x2 c hc
    exact v1.eq (fun q _ => v2 hc q)
theorem cls_wipe (e : LawC h b L) : ∃ h1, Jvm.Pilot.CWaverTaxLaw_law_r8537_6f3a17.cl h 1 (some b) (f_Law_wipe h (some b)) = some h1 ∧ LawC h1 b (wpL L) ∧ Fr h h1 b (b + 29) := by
  have cl0 := fun {X : Type} (o : Option X) => cl_o e.1 o
  obtain ⟨h1, a1, e1, F1⟩ := e.u_root 0
  obtain ⟨h2, a2, e2, F2⟩ := e1.u_third 0
  obtain ⟨h3, a3, e3, F3⟩ := e2.u_nC 0
  obtain ⟨h4, a4, e4, F4⟩ := e3.u_nP 0
  obtain ⟨h5, a5, e5, F5⟩ := e4.u_nK 0
  have a3 : sF h2 1 (some b) 2 (.inl (0 : Int32)) = some h3 := a3
  have a4 : sF h3 1 (some b) 3 (.inl (0 : Int32)) = some h4 := a4
  have a5 : sF h4 1 (some b) 4 (.inl (0 : Int32)) = some h5 := a5
  have FA := (((F1.tr F2).tr F3).tr F4).tr F5
  have R1 : ∀ a, a ≠ 0 → (sL2 (sL2 (sL2 (sL1 (sL1 L 0 0 0) 0 1 0) 0 0 0) 0 1 0) 0 2 0).1 a = L.1 a := fun a ha => (s1_ne (L := sL1 L 0 0 0) ha).trans (s1_ne ha)
  have R2 : ∀ a, a ≠ 0 → (sL2 (sL2 (sL2 (sL1 (sL1 L 0 0 0) 0 1 0) 0 0 0) 0 1 0) 0 2 0).2 a = L.2 a := fun a ha => by funext q; simp [sL1, sL2, ha]
  have Z : root (sL2 (sL2 (sL2 (sL1 (sL1 L 0 0 0) 0 1 0) 0 0 0) 0 1 0) 0 2 0) = 0 ∧ third (sL2 (sL2 (sL2 (sL1 (sL1 L 0 0 0) 0 1 0) 0 0 0) 0 1 0) 0 2 0) = 0 ∧ nC (sL2 (sL2 (sL2 (sL1 (sL1 L 0 0 0) 0 1 0) 0 0 0) 0 1 0) 0 2 0) = 0 ∧ nP (sL2 (sL2 (sL2 (sL1 (sL1 L 0 0 0) 0 1 0) 0 0 0) 0 1 0) 0 2 0) = 0 ∧ nK (sL2 (sL2 (sL2 (sL1 (sL1 L 0 0 0) 0 1 0) 0 0 0) 0 1 0) 0 2 0) = 0 := by simp [sL1, sL2, root, third, nC, nP, nK]
  generalize sL2 (sL2 (sL2 (sL1 (sL1 L 0 0 0) 0 1 0) 0 0 0) 0 1 0) 0 2 0 = M at *
  obtain ⟨c0, c1, c2, c3, c4, c5, c6, c7, ⟨r0, r1, r2, r3, r4, r5⟩, ⟨q0, q1, q2, q3⟩, ⟨s0, s1, s2⟩⟩ := e5
  rw [Z.1, Z.2.1, Z.2.2.1, Z.2.2.2.1, Z.2.2.2.2] at c0
  obtain ⟨x1, l1, l2, l3⟩ := cls_fam (h := h5) (b := b) (o := 1) (k := 5) (G := far M) (fun hh f => gR_o ((f.2 b (by omega)).trans c0) rfl) c1 (fun c hc => by rw [show b + 1 + 1 + c = b + 2 + c by omega]; exact c2 c hc)
  obtain ⟨x2, m1, m2, m3⟩ := cls_fam (h := x1) (b := b) (o := 9) (k := 8) (G := wor M) (fun hh f => gR_o ((f.2 b (by omega)).trans ((l3.2 b (by omega)).trans c0)) rfl) ((l3.2 _ (by omega)).trans c5) (fun c hc => by rw [show b + 9 + 1 + c = b + 10 + c by omega]; exact (c6 c hc).fr l3 (by omega))
  have G2 := (l3.wd (lo1 := b) (hi1 := b + 29) (by omega) (by omega)).tr (m3.wd (by omega) (by omega))
  have u0 := (m3.2 b (by omega)).trans ((l3.2 b (by omega)).trans c0)
  obtain ⟨x3, n1, n2, n3⟩ := ((c7.fr l3 (by omega)).fr m3 (by omega)).fill (by omega) 0
  have u0' := (n3.2 b (by omega)).trans u0
  have v0 := (n3.2 _ (by omega)).trans ((m3.2 _ (by omega)).trans ((l3.2 _ (by omega)).trans r0))
  have k6 : ∃ y, sF x3 6 (some (b + 16)) 0 (.inl (0 : Int32)) = some y ∧ y[b + 16]? = some (6, [.inl (nI 0), .inr (.inr (some (b + 17))), .inr (.inr (some (b + 18))), .inr (.inr (some (b + 19))), .inr (.inr (some (b + 20))), .inr (.inr (some (b + 21)))]) ∧ Fr x3 y (b + 16) (b + 17) := ⟨_, sF_o v0 (by simp), by rw [st_o v0]; rfl, Fr.st⟩
  obtain ⟨x4, o1, o2, o3⟩ := k6
  have w0 := (o3.2 _ (by omega)).trans ((n3.2 _ (by omega)).trans ((m3.2 _ (by omega)).trans ((l3.2 _ (by omega)).trans q0)))
  have k7 : ∃ y, sF x4 7 (some (b + 22)) 0 (.inl (0 : Int32)) = some y ∧ y[b + 22]? = some (7, [.inl (nI 0), .inr (.inr (some (b + 23))), .inr (.inr (some (b + 24))), .inr (.inr (some (b + 25)))]) ∧ Fr x4 y (b + 22) (b + 23) := ⟨_, sF_o w0 (by simp), by rw [st_o w0]; rfl, Fr.st⟩
  obtain ⟨x5, p1, p2, p3⟩ := k7
  have z0 := (p3.2 _ (by omega)).trans ((o3.2 _ (by omega)).trans ((n3.2 _ (by omega)).trans ((m3.2 _ (by omega)).trans ((l3.2 _ (by omega)).trans s0))))
  have k8 : ∃ y z, sF x5 9 (some (b + 26)) 0 (.inl (0 : Int32)) = some y ∧ sF y 9 (some (b + 26)) 1 (.inl (0 : Int32)) = some z ∧ z[b + 26]? = some (9, [.inl (nI 0), .inl (nI 0), .inr (.inr (some (b + 27))), .inr (.inr (some (b + 28)))]) ∧ Fr x5 z (b + 26) (b + 27) := by
    have t1 := sF_o (v := .inl (0 : Int32)) (k := 0) z0 (by simp)
    have t2 := st_o (c1 := (9, ([.inl (nI (nS M)), .inl (nI (nL M)), .inr (.inr (some (b + 27))), .inr (.inr (some (b + 28)))] : List PV).set 0 (.inl (0 : Int32)))) z0
    exact ⟨_, _, t1, sF_o t2 (by simp), by rw [st_o t2]; rfl, Fr.st.tr Fr.st⟩
  obtain ⟨x6, x7, t1, t2, t3, t4⟩ := k8
  obtain ⟨x8, y1, y2, y3⟩ := (((((s2.fr l3 (by omega)).fr m3 (by omega)).fr n3 (by omega)).fr o3 (by omega)).fr p3 (by omega) |>.fr t4 (by omega)).fill (by omega) 0
  have G8 : Fr x2 x8 (b + 15) (b + 29) := ((((n3.wd (by omega) (by omega)).tr (o3.wd (by omega) (by omega))).tr (p3.wd (by omega) (by omega))).tr (t4.wd (by omega) (by omega))).tr (y3.wd (by omega) (by omega))
  have G9 : Fr x3 x8 (b + 16) (b + 29) := (((o3.wd (by omega) (by omega)).tr (p3.wd (by omega) (by omega))).tr (t4.wd (by omega) (by omega))).tr (y3.wd (by omega) (by omega))
  have up : ∀ {a s : Nat} {f : Nat → Int32}, Fu h5 a s f → (a = b + 7 ∨ a = b + 8 ∨ (b + 17 ≤ a ∧ a ≤ b + 21) ∨ (b + 23 ≤ a ∧ a ≤ b + 25) ∨ a = b + 27) → Fu x8 a s f := by
    intro a s f q w
    exact (((((((q.fr l3 (by omega)).fr m3 (by omega)).fr n3 (by omega)).fr o3 (by omega)).fr p3 (by omega)).fr t4 (by omega)).fr y3 (by omega))
  refine ⟨x8, ?_, ?_, (FA.wd (by omega) (by omega)).tr (G2.tr (G8.wd (by omega) (by omega)))⟩
  · rw [cl0]
    unfold f_Law_wipe
    rw [a1, Option.bind_some, a2, Option.bind_some, a3, Option.bind_some, a4, Option.bind_some, a5, Option.bind_some, l1, Option.bind_some, m1, Option.bind_some, gR_o u0 rfl, Option.bind_some, n1, Option.bind_some, gR_o u0' rfl, Option.bind_some, o1, Option.bind_some, gR_o ((o3.2 b (by omega)).trans u0') rfl, Option.bind_some, p1, Option.bind_some, gR_o ((p3.2 b (by omega)).trans ((o3.2 b (by omega)).trans u0')) rfl, Option.bind_some, cl_o z0]
    unfold f_Shops_wipe
    rw [t1, Option.bind_some, t2, Option.bind_some, gR_o t3 rfl, Option.bind_some, y1, Option.bind_some, Option.bind_some]
  · have W1 : ∀ a, ¬ (a = 0 ∨ a = 8 ∨ a = 9 ∨ (10 ≤ a ∧ a < 15) ∨ (20 ≤ a ∧ a < 25)) → (wpL L).1 a = M.1 a := fun a ha => by
      rw [R1 a (by omega)]; funext q; exact if_neg ha
    have W0 : ∀ a, (a = 0 ∨ a = 8 ∨ a = 9 ∨ (10 ≤ a ∧ a < 15) ∨ (20 ≤ a ∧ a < 25)) → (wpL L).1 a = fun _ => 0 := fun a ha => by funext q; exact if_pos ha
    have W2 : ∀ a, a ≠ 0 → (fun q => nI ((wpL L).2 a q)) = fun q => nI (M.2 a q) := fun a ha => by
      rw [R2 a ha]; funext q; show nI (if a = 0 then 0 else L.2 a q) = _; rw [if_neg ha]
    refine ⟨(G9.2 b (by omega)).trans u0', ?_, fun c hc => ?_, (up c3 (by omega)).gt (W1 1 (by omega)), (up c4 (by omega)).gt (W2 1 (by omega)), ?_, fun c hc => ?_, ((n2.fr G9 (by omega))).gt (W0 9 (by omega)), ⟨?_, (up r1 (by omega)).gt (W2 2 (by omega)), (up r2 (by omega)).gt (W2 3 (by omega)), (up r3 (by omega)).gt (W1 2 (by omega)), (up r4 (by omega)).gt (W1 3 (by omega)), (up r5 (by omega)).gt (W1 4 (by omega))⟩, ⟨?_, (up q1 (by omega)).gt (W2 4 (by omega)), (up q2 (by omega)).gt (W1 5 (by omega)), (up q3 (by omega)).gt (W1 6 (by omega))⟩, ⟨?_, (up s1 (by omega)).gt (W1 7 (by omega)), y2.gt (W0 8 (by omega))⟩⟩
    · exact (G8.2 _ (by omega)).trans ((m3.2 _ (by omega)).trans ((l3.2 _ (by omega)).trans c1))
    · have := ((l2 c hc).fr m3 (by omega)).fr G8 (by omega)
      rw [show b + 1 + 1 + c = b + 2 + c by omega] at this
      exact this.gt (W0 _ (by omega))
    · exact (G8.2 _ (by omega)).trans ((m3.2 _ (by omega)).trans ((l3.2 _ (by omega)).trans c5))
    · have := (m2 c hc).fr G8 (by omega)
      rw [show b + 9 + 1 + c = b + 10 + c by omega] at this
      exact this.gt (W0 _ (by omega))
    · exact (y3.2 _ (by omega)).trans ((t4.2 _ (by omega)).trans ((p3.2 _ (by omega)).trans o2))
    · exact (y3.2 _ (by omega)).trans ((t4.2 _ (by omega)).trans p2)
    · exact (y3.2 _ (by omega)).trans t3
end X3
