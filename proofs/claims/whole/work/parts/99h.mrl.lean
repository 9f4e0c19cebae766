/-! the reference's law as it is read: cells, what they say -/
def szR (j : Nat) : Nat := if j = 1 ∨ j = 4 then 25 else if j = 5 ∨ j = 6 ∨ j = 7 ∨ j = 8 ∨ j = 9 then 4 else if j = 13 ∨ j = 14 then 6 else if j = 16 ∨ j = 17 then 16 else 5
def MCl (h : PH) (i : Nat) (G : Nat → PV) (f : Nat → Nat → Int32) (W : Nat → PV) : Prop := Fo h i 11 27 G ∧ (∀ j, j < 17 → G (10 + j) = .inr (.inr (some (i + 1 + j)))) ∧ (∀ j, 1 ≤ j → j < 18 → j ≠ 15 → Fu h (i + j) (szR j) (f j)) ∧ Fo h (i + 15) 51 16 W
def upR (f : Nat → Nat → Int32) (j k : Nat) (x : Int32) : Nat → Nat → Int32 := fun a q => if a = j ∧ q = k then x else f a q
def snN (s : Nat) : Nat := if s = 1 then 0 else if s = 3 then 1 else 2
def RelL (G : Nat → PV) (f : Nat → Nat → Int32) (W : Nat → PV) (t : Bool) (L : LawD) (N : NmD) : Prop :=
  (G 0 = .inl (if t = true then root L else -1) ∧ (t = true → G 1 = .inl (third L))) ∧
  (G 2 = .inl (nI (nC L)) ∧ G 3 = .inl (nI (nP L)) ∧ G 4 = .inl (nI (nK L)) ∧ G 5 = .inl (nI (nR L)) ∧ G 6 = .inl (nI (nQ L)) ∧ G 7 = .inl (nI (nS L)) ∧ G 8 = .inl (nI (nL L)) ∧ G 9 = .inl (nI N.1)) ∧
  (∀ c d, c < 5 → d < 5 → f 1 (5 * c + d) = far L c d) ∧ (∀ p, p < nP L → f 2 p = srt L p ∧ f 3 p = nI (frs L p)) ∧
  (∀ p c, p < 5 → c < 5 → f 4 (5 * p + c) = if bitN (L.1 9 p) c = 1 then wor L p c else -1) ∧
  (∀ k, k < nR L → f 5 k = nI (rpe L k) ∧ f 6 k = nI (rch L k) ∧ f 7 k = rho L k ∧ f 8 k = rod L k ∧ f 9 k = rmo L k) ∧
  (∀ k, k < nQ L → f 10 k = nI (cpe L k) ∧ f 11 k = cam L k ∧ f 12 k = cho L k) ∧
  (∀ s, s < nS L → f 13 s = crd L s ∧ f 14 s = nea L s ||| ((1 : Int32) <<< (nI s &&& 31))) ∧
  (∀ k, k < N.1 → W k = .inr (.inl (lN (N.2 k).1)) ∧ f 16 k = nI (snN (N.2 k).2.1) ∧ f 17 k = nI (N.2 k).2.2 ∧ (N.2 k).1 < 2 ^ 40 ∧ ((N.2 k).2.1 = 1 ∨ (N.2 k).2.1 = 3 ∨ (N.2 k).2.1 = 7))
section Z2
variable {h h1 : PH} {i : Nat} {G W : Nat → PV} {f : Nat → Nat → Int32} {t : Bool} {L : LawD} {N : NmD}
theorem MCl.lc (i : Nat) (G : Nat → PV) (f : Nat → Nat → Int32) (W : Nat → PV) : Lc (fun h => MCl h i G f W) i (i + 18) := by
  intro h h1 q e
  obtain ⟨a, b, c, d⟩ := e
  exact ⟨(q _ (by omega) (by omega)).trans a, b, fun j p1 p2 p3 => (q _ (by omega) (by omega)).trans (c j p1 p2 p3), (q _ (by omega) (by omega)).trans d⟩
theorem MCl.cl {X : Type} (e : MCl h i G f W) (o : Option X) : cl h 11 (some i) o = o := cl_o e.1 o
theorem MCl.gi (e : MCl h i G f W) {k : Nat} {x : Int32} (hk : k < 27) (hx : G k = .inl x) : gI h 11 (some i) k = some x := e.1.gi hk hx
theorem MCl.gr (e : MCl h i G f W) {j : Nat} (hj : j < 17) {k : Nat} (hk : k = 10 + j) : gR h 11 (some i) k = some (some (i + 1 + j)) := by
  subst hk; exact e.1.gr (by omega) (e.2.1 j hj)
theorem szR_b (j : Nat) : szR j < 2 ^ 31 := by
  unfold szR
  split
  · omega
  · split
    · omega
    · split
      · omega
      · split <;> omega
theorem MCl.ai (e : MCl h i G f W) {a j k : Nat} (ha : a = i + j) (h1 : 1 ≤ j) (h2 : j < 18) (h3 : j ≠ 15) (hk : k < szR j) : aI h (some a) (nI k) = some (f j k) := by
  subst ha; exact (e.2.2.1 j h1 h2 h3).at hk (szR_b j)
theorem MCl.al (e : MCl h i G f W) {a k : Nat} {x : Int64} (ha : a = i + 15) (hk : k < 16) (hx : W k = .inr (.inl x)) : aL h (some a) (nI k) = some x := by
  subst ha; exact e.2.2.2.aL hk (by decide) hx
theorem MCl.sf (e : MCl h i G f W) {k : Nat} (hk : k < 10) (v : PV) : ∃ h1, sF h 11 (some i) k v = some h1 ∧ MCl h1 i (upF G k v) f W ∧ Fr h h1 i (i + 18) := by
  obtain ⟨a, b, c, d⟩ := e
  obtain ⟨h1, x1, x2, x3⟩ := a.set (k := k) (by omega) v
  exact ⟨h1, x1, ⟨x2, fun j hj => (upF_n (by omega)).trans (b j hj), fun j p1 p2 p3 => (c j p1 p2 p3).fr x3 (by omega), d.fr x3 (by omega)⟩, x3.wd (by omega) (by omega)⟩
theorem MCl.sa (e : MCl h i G f W) {a j k : Nat} (ha : a = i + j) (h1 : 1 ≤ j) (h2 : j < 18) (h3 : j ≠ 15) (hk : k < szR j) (x : Int32) : ∃ h1, sA h 50 (some a) (nI k) (.inl x) = some h1 ∧ MCl h1 i G (upR f j k x) W ∧ Fr h h1 i (i + 18) := by
  subst ha
  obtain ⟨a, b, c, d⟩ := e
  obtain ⟨h4, x1, x2, x3⟩ := (c j h1 h2 h3).set hk (szR_b j) x
  refine ⟨h4, x1, ⟨a.fr x3 (by omega), b, fun j1 p1 p2 p3 => ?_, d.fr x3 (by omega)⟩, x3.wd (by omega) (by omega)⟩
  by_cases z : j1 = j
  · subst z
    refine x2.eq (fun p _ => ?_)
    unfold up1 upR
    by_cases w : p = k <;> simp [w]
  · refine ((c j1 p1 p2 p3).fr x3 (by omega)).eq (fun p _ => ?_)
    unfold upR
    simp [z]
theorem MCl.sw (e : MCl h i G f W) {a k : Nat} (ha : a = i + 15) (hk : k < 16) (x : Int64) : ∃ h1, sA h 51 (some a) (nI k) (.inr (.inl x)) = some h1 ∧ MCl h1 i G f (upF W k (.inr (.inl x))) ∧ Fr h h1 i (i + 18) := by
  subst ha
  obtain ⟨a, b, c, d⟩ := e
  obtain ⟨h4, x1, x2, x3⟩ := d.aset hk (by decide) (.inr (.inl x))
  exact ⟨h4, x1, ⟨a.fr x3 (by omega), b, fun j p1 p2 p3 => (c j p1 p2 p3).fr x3 (by omega), x2⟩, x3.wd (by omega) (by omega)⟩
/-- longs -/
theorem lN_q {a b : Nat} (ha : a < 2 ^ 40) (hb : b < 2 ^ 40) : lg_cmp (lN a) (lN b) = 0 ↔ a = b := by
  rw [lg_cmp_eq]
  constructor
  · intro q
    have := congrArg Int64.toInt q
    rw [pk_lT (by omega), pk_lT (by omega)] at this
    omega
  · intro q; rw [q]
/-- a name is looked for -/
theorem ml_find (e : MCl h i G f W) (r : RelL G f W t L N) (hN : N.1 ≤ 16) {a : Nat} (ha : a < 2 ^ 40) : Jvm.Pilot.CWaverTaxLaw_law_r8537_6f3a17.cl h 11 (some i) (f_ML_find h (some i) (lN a)) = some (lsI (fdN N a N.1)) := by
  have r9 := r.2.1.2.2.2.2.2.2.2
  have rn := r.2.2.2.2.2.2.2.2
  rw [e.cl]
  unfold f_ML_find
  obtain ⟨x, l1, l2⟩ := pj_inv (step := fun s1 : Int32 => (gI h 11 (some i) 9).bind fun v3 => if v3 ≤ s1 then (some (.inr (.inl ())) : Option (Int32 ⊕ (Unit ⊕ Int32))) else ((gR h 11 (some i) 24).bind fun v4 => (aL h v4 s1).bind fun v5 => if ¬ (lg_cmp v5 (lN a)) = 0 then (some (.inl (s1 + (1 : Int32)))) else (some (.inr (.inr s1))))) (fun k s => s = nI k ∧ ∀ j, j < k → ¬ (N.2 j).1 = a) (fun x => (x = .inl () ∧ fdN N a N.1 = none) ∨ (∃ k, x = .inr (nI k) ∧ fdN N a N.1 = some k)) N.1 (s0 := (0 : Int32)) (by omega) ⟨rfl, fun j hj => absurd hj (Nat.not_lt_zero j)⟩ (by
      rintro k s hk ⟨rfl, x2⟩
      obtain ⟨n1, n2, n3, n4, n5⟩ := rn k hk
      rw [e.gi (by omega) r9, Option.bind_some, if_neg (nI_ge hk (by omega)), e.gr (j := 14) (by omega) rfl, Option.bind_some, e.al (by omega) (by omega) n1, Option.bind_some, nI_s]
      by_cases w : (N.2 k).1 = a
      · rw [if_neg (fun q => q ((lN_q n4 ha).mpr w))]
        exact Or.inr ⟨_, rfl, Or.inr ⟨k, rfl, fd_st N.1 hk w x2⟩⟩
      · rw [if_pos (fun q => w ((lN_q n4 ha).mp q))]
        refine Or.inl ⟨_, rfl, rfl, fun j hj => ?_⟩
        by_cases u : j = k
        · rw [u]; exact w
        · exact x2 j (by omega)) (by
      rintro s ⟨rfl, x2⟩
      rw [e.gi (by omega) r9, Option.bind_some, if_pos (nI_le (Nat.le_refl _) (by omega))]
      exact ⟨_, rfl, Or.inl ⟨rfl, fd_nn x2⟩⟩)
  rw [l1, Option.bind_some]
  rcases l2 with ⟨rfl, l3⟩ | ⟨k, rfl, l3⟩
  · rw [l3]; rfl
  · rw [l3]; rfl
/-- whatever is looked for -/
theorem ml_any (e : MCl h i G f W) (r : RelL G f W t L N) (hN : N.1 ≤ 16) (w : Int64) : ∃ x, Jvm.Pilot.CWaverTaxLaw_law_r8537_6f3a17.cl h 11 (some i) (f_ML_find h (some i) w) = some x ∧ (x = -1 ∨ ∃ k, k < N.1 ∧ x = nI k) := by
  have r9 := r.2.1.2.2.2.2.2.2.2
  have rn := r.2.2.2.2.2.2.2.2
  rw [e.cl]
  unfold f_ML_find
  obtain ⟨x, l1, l2⟩ := pj_inv (step := fun s1 : Int32 => (gI h 11 (some i) 9).bind fun v3 => if v3 ≤ s1 then (some (.inr (.inl ())) : Option (Int32 ⊕ (Unit ⊕ Int32))) else ((gR h 11 (some i) 24).bind fun v4 => (aL h v4 s1).bind fun v5 => if ¬ (lg_cmp v5 w) = 0 then (some (.inl (s1 + (1 : Int32)))) else (some (.inr (.inr s1))))) (fun k s => s = nI k) (fun x => (x = .inl ()) ∨ (∃ k, k < N.1 ∧ x = .inr (nI k))) N.1 (s0 := (0 : Int32)) (by omega) rfl (by
      rintro k s hk rfl
      obtain ⟨n1, n2, n3, n4, n5⟩ := rn k hk
      rw [e.gi (by omega) r9, Option.bind_some, if_neg (nI_ge hk (by omega)), e.gr (j := 14) (by omega) rfl, Option.bind_some, e.al (by omega) (by omega) n1, Option.bind_some, nI_s]
      by_cases z : lg_cmp (lN (N.2 k).1) w = 0
      · rw [if_neg (fun q => q z)]
        exact Or.inr ⟨_, rfl, Or.inr ⟨k, hk, rfl⟩⟩
      · rw [if_pos z]
        exact Or.inl ⟨_, rfl, rfl⟩) (by
      rintro s rfl
      rw [e.gi (by omega) r9, Option.bind_some, if_pos (nI_le (Nat.le_refl _) (by omega))]
      exact ⟨_, rfl, Or.inl rfl⟩)
  rw [l1, Option.bind_some]
  rcases l2 with rfl | ⟨k, hk, rfl⟩
  · exact ⟨-1, rfl, Or.inl rfl⟩
  · exact ⟨nI k, rfl, Or.inr ⟨k, hk, rfl⟩⟩
theorem ne10 (c k : Nat) (hk : k < 10) : (10 + c = k) = False := by
  apply eq_false; omega
theorem ne20 (c k : Nat) (hk : k < 20) : (20 + c = k) = False := by
  apply eq_false; omega
/-! what each line leaves -/
theorem re_tax (r : RelL G f W t L N) (x y : Int32) : RelL (upF (upF G 0 (.inl x)) 1 (.inl y)) f W true (sL1 (sL1 L 0 0 x) 0 1 y) N := by
  obtain ⟨r0, ⟨g2, g3, g4, g5, g6, g7, g8, g9⟩, r1, r2, r3, r4, r5, r6, r7⟩ := r
  refine ⟨⟨by simp [upF, sL1, root, third, srt, rho, rod, rmo, cam, cho, crd, nea, far, wor, nC, nP, nK, nR, nQ, nS, nL, frs, rpe, rch, cpe, ne10, ne20], fun _ => by simp [upF, sL1, root, third, srt, rho, rod, rmo, cam, cho, crd, nea, far, wor, nC, nP, nK, nR, nQ, nS, nL, frs, rpe, rch, cpe, ne10, ne20]⟩, ⟨g2, g3, g4, g5, g6, g7, g8, g9⟩, ?_, ?_, ?_, ?_, ?_, ?_, r7⟩
  · intro c d hc hd; simp [sL1, root, third, srt, rho, rod, rmo, cam, cho, crd, nea, far, wor, nC, nP, nK, nR, nQ, nS, nL, frs, rpe, rch, cpe, ne10, ne20]; exact r1 c d hc hd
  · intro p hp; simp [sL1, root, third, srt, rho, rod, rmo, cam, cho, crd, nea, far, wor, nC, nP, nK, nR, nQ, nS, nL, frs, rpe, rch, cpe, ne10, ne20]; exact r2 p hp
  · intro p c hp hc; simp [sL1, root, third, srt, rho, rod, rmo, cam, cho, crd, nea, far, wor, nC, nP, nK, nR, nQ, nS, nL, frs, rpe, rch, cpe, ne10, ne20]; exact r3 p c hp hc
  · intro k hk; simp [sL1, root, third, srt, rho, rod, rmo, cam, cho, crd, nea, far, wor, nC, nP, nK, nR, nQ, nS, nL, frs, rpe, rch, cpe, ne10, ne20]; exact r4 k hk
  · intro k hk; simp [sL1, root, third, srt, rho, rod, rmo, cam, cho, crd, nea, far, wor, nC, nP, nK, nR, nQ, nS, nL, frs, rpe, rch, cpe, ne10, ne20]; exact r5 k hk
  · intro k hk; simp [sL1, root, third, srt, rho, rod, rmo, cam, cho, crd, nea, far, wor, nC, nP, nK, nR, nQ, nS, nL, frs, rpe, rch, cpe, ne10, ne20]; exact r6 k hk
/-- a name more -/
theorem re_nm (r : RelL G f W t L N) {w s k : Nat} (hw : w < 2 ^ 40) (hs : s = 1 ∨ s = 3 ∨ s = 7) : RelL (upF G 9 (.inl (nI (N.1 + 1)))) (upR (upR f 16 N.1 (nI (snN s))) 17 N.1 (nI k)) (upF W N.1 (.inr (.inl (lN w)))) t L (adN N w s k) := by
  obtain ⟨r0, ⟨g2, g3, g4, g5, g6, g7, g8, g9⟩, r1, r2, r3, r4, r5, r6, r7⟩ := r
  refine ⟨r0, ⟨g2, g3, g4, g5, g6, g7, g8, rfl⟩, ?_, ?_, ?_, ?_, ?_, ?_, ?_⟩
  · intro c d hc hd; simp [upR, root, third, srt, rho, rod, rmo, cam, cho, crd, nea, far, wor, nC, nP, nK, nR, nQ, nS, nL, frs, rpe, rch, cpe, ne10, ne20]; exact r1 c d hc hd
  · intro p hp; simp [upR, root, third, srt, rho, rod, rmo, cam, cho, crd, nea, far, wor, nC, nP, nK, nR, nQ, nS, nL, frs, rpe, rch, cpe, ne10, ne20]; exact r2 p hp
  · intro p c hp hc; simp [upR, root, third, srt, rho, rod, rmo, cam, cho, crd, nea, far, wor, nC, nP, nK, nR, nQ, nS, nL, frs, rpe, rch, cpe, ne10, ne20]; exact r3 p c hp hc
  · intro k hk; simp [upR, root, third, srt, rho, rod, rmo, cam, cho, crd, nea, far, wor, nC, nP, nK, nR, nQ, nS, nL, frs, rpe, rch, cpe, ne10, ne20]; exact r4 k hk
  · intro k hk; simp [upR, root, third, srt, rho, rod, rmo, cam, cho, crd, nea, far, wor, nC, nP, nK, nR, nQ, nS, nL, frs, rpe, rch, cpe, ne10, ne20]; exact r5 k hk
  · intro k hk; simp [upR, root, third, srt, rho, rod, rmo, cam, cho, crd, nea, far, wor, nC, nP, nK, nR, nQ, nS, nL, frs, rpe, rch, cpe, ne10, ne20]; exact r6 k hk
  · intro q hq
    have hq : q < N.1 + 1 := hq
    by_cases z : q = N.1
    · subst z
      simp [upR, upF, adN, root, third, srt, rho, rod, rmo, cam, cho, crd, nea, far, wor, nC, nP, nK, nR, nQ, nS, nL, frs, rpe, rch, cpe, ne10, ne20]
      exact ⟨hw, hs⟩
    · have := r7 q (by omega)
      simp [upR, upF, adN, z, root, third, srt, rho, rod, rmo, cam, cho, crd, nea, far, wor, nC, nP, nK, nR, nQ, nS, nL, frs, rpe, rch, cpe, ne10, ne20]
      exact this
theorem re_cho (r : RelL G f W t L N) : RelL (upF G 2 (.inl (nI (nC L + 1)))) f W t (sL2 L 0 0 (nC L + 1)) N := by
  obtain ⟨r0, ⟨g2, g3, g4, g5, g6, g7, g8, g9⟩, r1, r2, r3, r4, r5, r6, r7⟩ := r
  refine ⟨r0, ⟨rfl, g3, g4, g5, g6, g7, g8, g9⟩, r1, ?_, r3, ?_, ?_, ?_, r7⟩
  · intro p hp; simp [sL2, root, third, srt, rho, rod, rmo, cam, cho, crd, nea, far, wor, nC, nP, nK, nR, nQ, nS, nL, frs, rpe, rch, cpe, ne10, ne20] at hp ⊢; exact r2 p hp
  · intro k hk; simp [sL2, root, third, srt, rho, rod, rmo, cam, cho, crd, nea, far, wor, nC, nP, nK, nR, nQ, nS, nL, frs, rpe, rch, cpe, ne10, ne20] at hk ⊢; exact r4 k hk
  · intro k hk; simp [sL2, root, third, srt, rho, rod, rmo, cam, cho, crd, nea, far, wor, nC, nP, nK, nR, nQ, nS, nL, frs, rpe, rch, cpe, ne10, ne20] at hk ⊢; exact r5 k hk
  · intro k hk; simp [sL2, root, third, srt, rho, rod, rmo, cam, cho, crd, nea, far, wor, nC, nP, nK, nR, nQ, nS, nL, frs, rpe, rch, cpe, ne10, ne20] at hk ⊢; exact r6 k hk
theorem re_far (r : RelL G f W t L N) {c d : Nat} (hc : c < 5) (hd : d < 5) (x : Int32) : RelL G (upR (upR f 1 (5 * c + d) x) 1 (5 * d + c) x) W t (sL1 (sL1 L (10 + c) d x) (10 + d) c x) N := by
  obtain ⟨r0, g, r1, r2, r3, r4, r5, r6, r7⟩ := r
  have R : ∀ a, a < 10 ∨ 15 ≤ a → (sL1 (sL1 L (10 + c) d x) (10 + d) c x).1 a = L.1 a := fun a ha => (s1_ne (by omega)).trans (s1_ne (by omega))
  refine ⟨?_, g, ?_, ?_, ?_, ?_, ?_, ?_, ?_⟩
  · show (G 0 = .inl (if t = true then (sL1 (sL1 L (10 + c) d x) (10 + d) c x).1 0 0 else -1) ∧ (t = true → G 1 = .inl ((sL1 (sL1 L (10 + c) d x) (10 + d) c x).1 0 1)))
    rw [R 0 (by omega)]; exact r0
  · intro a b ha hb
    have := r1 a b ha hb
    show (if 1 = 1 ∧ 5 * a + b = 5 * d + c then x else if 1 = 1 ∧ 5 * a + b = 5 * c + d then x else f 1 (5 * a + b)) = if 10 + a = 10 + d ∧ b = c then x else if 10 + a = 10 + c ∧ b = d then x else L.1 (10 + a) b
    by_cases z1 : a = d ∧ b = c
    · rw [if_pos (by omega), if_pos (by omega)]
    · rw [if_neg (by omega), if_neg (c := 10 + a = 10 + d ∧ b = c) (by omega)]
      by_cases z2 : a = c ∧ b = d
      · rw [if_pos (by omega), if_pos (by omega)]
      · rw [if_neg (by omega), if_neg (by omega)]; exact this
  · intro p hp
    show upR (upR f 1 (5 * c + d) x) 1 (5 * d + c) x 2 p = (sL1 (sL1 L (10 + c) d x) (10 + d) c x).1 1 p ∧ _
    rw [R 1 (by omega)]; simp [upR, root, third, srt, rho, rod, rmo, cam, cho, crd, nea, far, wor, nC, nP, nK, nR, nQ, nS, nL, frs, rpe, rch, cpe, ne10, ne20]; exact r2 p hp
  · intro p q hp hq
    show upR (upR f 1 (5 * c + d) x) 1 (5 * d + c) x 4 (5 * p + q) = if bitN ((sL1 (sL1 L (10 + c) d x) (10 + d) c x).1 9 p) q = 1 then (sL1 (sL1 L (10 + c) d x) (10 + d) c x).1 (20 + p) q else -1
    rw [R 9 (by omega), R (20 + p) (by omega)]; simp [upR, root, third, srt, rho, rod, rmo, cam, cho, crd, nea, far, wor, nC, nP, nK, nR, nQ, nS, nL, frs, rpe, rch, cpe, ne10, ne20]; exact r3 p q hp hq
  · intro k hk
    show _ ∧ _ ∧ _ = (sL1 (sL1 L (10 + c) d x) (10 + d) c x).1 2 k ∧ _ = (sL1 (sL1 L (10 + c) d x) (10 + d) c x).1 3 k ∧ _ = (sL1 (sL1 L (10 + c) d x) (10 + d) c x).1 4 k
    rw [R 2 (by omega), R 3 (by omega), R 4 (by omega)]; simp [upR, root, third, srt, rho, rod, rmo, cam, cho, crd, nea, far, wor, nC, nP, nK, nR, nQ, nS, nL, frs, rpe, rch, cpe, ne10, ne20]; exact r4 k hk
  · intro k hk
    show _ ∧ _ = (sL1 (sL1 L (10 + c) d x) (10 + d) c x).1 5 k ∧ _ = (sL1 (sL1 L (10 + c) d x) (10 + d) c x).1 6 k
    rw [R 5 (by omega), R 6 (by omega)]; simp [upR, root, third, srt, rho, rod, rmo, cam, cho, crd, nea, far, wor, nC, nP, nK, nR, nQ, nS, nL, frs, rpe, rch, cpe, ne10, ne20]; exact r5 k hk
  · intro k hk
    show _ = (sL1 (sL1 L (10 + c) d x) (10 + d) c x).1 7 k ∧ _ = (sL1 (sL1 L (10 + c) d x) (10 + d) c x).1 8 k ||| _
    rw [R 7 (by omega), R 8 (by omega)]; simp [upR, root, third, srt, rho, rod, rmo, cam, cho, crd, nea, far, wor, nC, nP, nK, nR, nQ, nS, nL, frs, rpe, rch, cpe, ne10, ne20]; exact r6 k hk
  · intro k hk; simp [upR, root, third, srt, rho, rod, rmo, cam, cho, crd, nea, far, wor, nC, nP, nK, nR, nQ, nS, nL, frs, rpe, rch, cpe, ne10, ne20]; exact r7 k hk
theorem re_per (r : RelL G f W t L N) (s : Int32) (c : Nat) : RelL (upF G 3 (.inl (nI (nP L + 1)))) (upR (upR f 2 (nP L) s) 3 (nP L) (nI c)) W t (sL2 (sL2 (sL1 L 1 (nP L) s) 1 (nP L) c) 0 1 (nP L + 1)) N := by
  obtain ⟨r0, ⟨g2, g3, g4, g5, g6, g7, g8, g9⟩, r1, r2, r3, r4, r5, r6, r7⟩ := r
  refine ⟨?_, ⟨?_, ?_, ?_, ?_, ?_, ?_, ?_, g9⟩, ?_, ?_, ?_, ?_, ?_, ?_, ?_⟩
  · simp [upF, sL1, sL2, root, third, srt, rho, rod, rmo, cam, cho, crd, nea, far, wor, nC, nP, nK, nR, nQ, nS, nL, frs, rpe, rch, cpe, ne10, ne20]; exact r0
  · simp [upF, sL1, sL2, root, third, srt, rho, rod, rmo, cam, cho, crd, nea, far, wor, nC, nP, nK, nR, nQ, nS, nL, frs, rpe, rch, cpe, ne10, ne20]; exact g2
  · simp [upF, sL1, sL2, root, third, srt, rho, rod, rmo, cam, cho, crd, nea, far, wor, nC, nP, nK, nR, nQ, nS, nL, frs, rpe, rch, cpe, ne10, ne20]
  · simp [upF, sL1, sL2, root, third, srt, rho, rod, rmo, cam, cho, crd, nea, far, wor, nC, nP, nK, nR, nQ, nS, nL, frs, rpe, rch, cpe, ne10, ne20]; exact g4
  · simp [upF, sL1, sL2, root, third, srt, rho, rod, rmo, cam, cho, crd, nea, far, wor, nC, nP, nK, nR, nQ, nS, nL, frs, rpe, rch, cpe, ne10, ne20]; exact g5
  · simp [upF, sL1, sL2, root, third, srt, rho, rod, rmo, cam, cho, crd, nea, far, wor, nC, nP, nK, nR, nQ, nS, nL, frs, rpe, rch, cpe, ne10, ne20]; exact g6
  · simp [upF, sL1, sL2, root, third, srt, rho, rod, rmo, cam, cho, crd, nea, far, wor, nC, nP, nK, nR, nQ, nS, nL, frs, rpe, rch, cpe, ne10, ne20]; exact g7
  · simp [upF, sL1, sL2, root, third, srt, rho, rod, rmo, cam, cho, crd, nea, far, wor, nC, nP, nK, nR, nQ, nS, nL, frs, rpe, rch, cpe, ne10, ne20]; exact g8
  · intro a b ha hb; simp [upR, sL1, sL2, root, third, srt, rho, rod, rmo, cam, cho, crd, nea, far, wor, nC, nP, nK, nR, nQ, nS, nL, frs, rpe, rch, cpe, ne10, ne20]; exact r1 a b ha hb
  · intro p hp
    by_cases z : p = nP L
    · subst z; simp [upR, sL1, sL2, root, third, srt, rho, rod, rmo, cam, cho, crd, nea, far, wor, nC, nP, nK, nR, nQ, nS, nL, frs, rpe, rch, cpe, ne10, ne20]
    · simp [sL1, sL2, root, third, srt, rho, rod, rmo, cam, cho, crd, nea, far, wor, nC, nP, nK, nR, nQ, nS, nL, frs, rpe, rch, cpe, ne10, ne20] at hp
      have z : ¬ p = L.2 0 1 := z
      have := r2 p (show p < L.2 0 1 by omega)
      simp [upR, sL1, sL2, z, root, third, srt, rho, rod, rmo, cam, cho, crd, nea, far, wor, nC, nP, nK, nR, nQ, nS, nL, frs, rpe, rch, cpe, ne10, ne20]
      exact this
  · intro p q hp hq; simp [upR, sL1, sL2, root, third, srt, rho, rod, rmo, cam, cho, crd, nea, far, wor, nC, nP, nK, nR, nQ, nS, nL, frs, rpe, rch, cpe, ne10, ne20]; exact r3 p q hp hq
  · intro k hk; simp [upR, sL1, sL2, root, third, srt, rho, rod, rmo, cam, cho, crd, nea, far, wor, nC, nP, nK, nR, nQ, nS, nL, frs, rpe, rch, cpe, ne10, ne20] at hk ⊢; exact r4 k hk
  · intro k hk; simp [upR, sL1, sL2, root, third, srt, rho, rod, rmo, cam, cho, crd, nea, far, wor, nC, nP, nK, nR, nQ, nS, nL, frs, rpe, rch, cpe, ne10, ne20] at hk ⊢; exact r5 k hk
  · intro k hk; simp [upR, sL1, sL2, root, third, srt, rho, rod, rmo, cam, cho, crd, nea, far, wor, nC, nP, nK, nR, nQ, nS, nL, frs, rpe, rch, cpe, ne10, ne20] at hk ⊢; exact r6 k hk
  · intro k hk; simp [upR, root, third, srt, rho, rod, rmo, cam, cho, crd, nea, far, wor, nC, nP, nK, nR, nQ, nS, nL, frs, rpe, rch, cpe, ne10, ne20]; exact r7 k hk
theorem re_lik (r : RelL G f W t L N) {p c b : Nat} (hp : p < 5) (hc : c < 5) (hb : L.1 9 p = nI b) (b5 : b < 32) (x : Int32) : RelL (upF G 4 (.inl (nI (nK L + 1)))) (upR f 4 (5 * p + c) x) W t (sL2 (sL1 (sL1 L (20 + p) c x) 9 p (L.1 9 p ||| ((1 : Int32) <<< (nI c &&& 31)))) 0 2 (nK L + 1)) N := by
  obtain ⟨r0, ⟨g2, g3, g4, g5, g6, g7, g8, g9⟩, r1, r2, r3, r4, r5, r6, r7⟩ := r
  have R : ∀ a, a < 9 ∨ (10 ≤ a ∧ a < 20) → (sL2 (sL1 (sL1 L (20 + p) c x) 9 p (L.1 9 p ||| ((1 : Int32) <<< (nI c &&& 31)))) 0 2 (nK L + 1)).1 a = L.1 a := fun a ha => (s1_ne (L := sL1 L (20 + p) c x) (by omega)).trans (s1_ne (by omega))
  have R9 : ∀ q, (sL2 (sL1 (sL1 L (20 + p) c x) 9 p (L.1 9 p ||| ((1 : Int32) <<< (nI c &&& 31)))) 0 2 (nK L + 1)).1 9 q = if q = p then L.1 9 p ||| ((1 : Int32) <<< (nI c &&& 31)) else L.1 9 q := by
    intro q
    show (if 9 = 9 ∧ q = p then _ else if 9 = 20 + p ∧ q = c then x else L.1 9 q) = _
    by_cases z : q = p
    · rw [if_pos ⟨rfl, z⟩, if_pos z]
    · rw [if_neg (fun w => z w.2), if_neg (by omega), if_neg z]
  have R20 : ∀ q d, (sL2 (sL1 (sL1 L (20 + p) c x) 9 p (L.1 9 p ||| ((1 : Int32) <<< (nI c &&& 31)))) 0 2 (nK L + 1)).1 (20 + q) d = if q = p ∧ d = c then x else L.1 (20 + q) d := by
    intro q d
    show (if 20 + q = 9 ∧ d = p then _ else if 20 + q = 20 + p ∧ d = c then x else L.1 (20 + q) d) = _
    rw [if_neg (by omega)]
    by_cases z : q = p ∧ d = c
    · rw [if_pos (by omega), if_pos z]
    · rw [if_neg (by omega), if_neg z]
  have R2 : ∀ a b, ¬ (a = 0 ∧ b = 2) → (sL2 (sL1 (sL1 L (20 + p) c x) 9 p (L.1 9 p ||| ((1 : Int32) <<< (nI c &&& 31)))) 0 2 (nK L + 1)).2 a b = L.2 a b := fun a b q => if_neg q
  have R2k : (sL2 (sL1 (sL1 L (20 + p) c x) 9 p (L.1 9 p ||| ((1 : Int32) <<< (nI c &&& 31)))) 0 2 (nK L + 1)).2 0 2 = nK L + 1 := s2_0e
  generalize sL2 (sL1 (sL1 L (20 + p) c x) 9 p (L.1 9 p ||| ((1 : Int32) <<< (nI c &&& 31)))) 0 2 (nK L + 1) = L' at *
  refine ⟨?_, ⟨?_, ?_, ?_, ?_, ?_, ?_, ?_, g9⟩, ?_, ?_, ?_, ?_, ?_, ?_, ?_⟩
  · show (G 0 = .inl (if t = true then L'.1 0 0 else -1) ∧ (t = true → G 1 = .inl (L'.1 0 1)))
    rw [R 0 (by omega)]; exact r0
  · show G 2 = .inl (nI (L'.2 0 0)); rw [R2 _ _ (by omega)]; exact g2
  · show G 3 = .inl (nI (L'.2 0 1)); rw [R2 _ _ (by omega)]; exact g3
  · show upF G 4 _ 4 = .inl (nI (L'.2 0 2)); rw [R2k]; rfl
  · show G 5 = .inl (nI (L'.2 0 3)); rw [R2 _ _ (by omega)]; exact g5
  · show G 6 = .inl (nI (L'.2 0 4)); rw [R2 _ _ (by omega)]; exact g6
  · show G 7 = .inl (nI (L'.2 0 5)); rw [R2 _ _ (by omega)]; exact g7
  · show G 8 = .inl (nI (L'.2 0 6)); rw [R2 _ _ (by omega)]; exact g8
  · intro a b ha hb
    show upR f 4 (5 * p + c) x 1 (5 * a + b) = L'.1 (10 + a) b
    rw [R _ (by omega)]; simp [upR, root, third, srt, rho, rod, rmo, cam, cho, crd, nea, far, wor, nC, nP, nK, nR, nQ, nS, nL, frs, rpe, rch, cpe, ne10, ne20]; exact r1 a b ha hb
  · intro q hq
    have hq : q < L'.2 0 1 := hq
    rw [R2 _ _ (by omega)] at hq
    show upR f 4 (5 * p + c) x 2 q = L'.1 1 q ∧ upR f 4 (5 * p + c) x 3 q = nI (L'.2 1 q)
    rw [R 1 (by omega), R2 _ _ (by omega)]; simp [upR, root, third, srt, rho, rod, rmo, cam, cho, crd, nea, far, wor, nC, nP, nK, nR, nQ, nS, nL, frs, rpe, rch, cpe, ne10, ne20]; exact r2 q hq
  · intro q d hq hd
    have := r3 q d hq hd
    show (if 4 = 4 ∧ 5 * q + d = 5 * p + c then x else f 4 (5 * q + d)) = if bitN (L'.1 9 q) d = 1 then L'.1 (20 + q) d else -1
    rw [R9, R20]
    by_cases z : q = p
    · subst z
      rw [if_pos rfl]
      have bt : ∀ d, d < 5 → (bitN (L.1 9 q ||| ((1 : Int32) <<< (nI c &&& 31))) d = 1 ↔ (d = c ∨ bitN (L.1 9 q) d = 1)) := by
        intro d hd
        rw [hb]
        have key : ∀ b, b < 32 → ∀ c, c < 5 → ∀ d, d < 5 → (bitN (nI b ||| ((1 : Int32) <<< (nI c &&& 31))) d = 1 ↔ (d = c ∨ bitN (nI b) d = 1)) := by decide +kernel
        exact key b b5 c hc d hd
      by_cases y : d = c
      · rw [if_pos ⟨rfl, by omega⟩, if_pos ((bt d hd).mpr (Or.inl y)), if_pos ⟨rfl, y⟩]
      · rw [if_neg (by omega), if_neg (c := q = q ∧ d = c) (fun w => y w.2), this]
        by_cases u : bitN (L.1 9 q) d = 1
        · rw [if_pos u, if_pos ((bt d hd).mpr (Or.inr u))]
        · rw [if_neg u, if_neg (fun w => ((bt d hd).mp w).elim y u)]
    · rw [if_neg (by omega), if_neg z, if_neg (c := q = p ∧ d = c) (fun w => z w.1)]; exact this
  · intro k hk
    have hk : k < L'.2 0 3 := hk
    rw [R2 _ _ (by omega)] at hk
    show _ = nI (L'.2 2 k) ∧ _ = nI (L'.2 3 k) ∧ _ = L'.1 2 k ∧ _ = L'.1 3 k ∧ _ = L'.1 4 k
    rw [R2 _ _ (by omega), R2 _ _ (by omega), R 2 (by omega), R 3 (by omega), R 4 (by omega)]; simp [upR, root, third, srt, rho, rod, rmo, cam, cho, crd, nea, far, wor, nC, nP, nK, nR, nQ, nS, nL, frs, rpe, rch, cpe, ne10, ne20]; exact r4 k hk
  · intro k hk
    have hk : k < L'.2 0 4 := hk
    rw [R2 _ _ (by omega)] at hk
    show _ = nI (L'.2 4 k) ∧ _ = L'.1 5 k ∧ _ = L'.1 6 k
    rw [R2 _ _ (by omega), R 5 (by omega), R 6 (by omega)]; simp [upR, root, third, srt, rho, rod, rmo, cam, cho, crd, nea, far, wor, nC, nP, nK, nR, nQ, nS, nL, frs, rpe, rch, cpe, ne10, ne20]; exact r5 k hk
  · intro k hk
    have hk : k < L'.2 0 5 := hk
    rw [R2 _ _ (by omega)] at hk
    show _ = L'.1 7 k ∧ _ = L'.1 8 k ||| _
    rw [R 7 (by omega), R 8 (by omega)]; simp [upR, root, third, srt, rho, rod, rmo, cam, cho, crd, nea, far, wor, nC, nP, nK, nR, nQ, nS, nL, frs, rpe, rch, cpe, ne10, ne20]; exact r6 k hk
  · intro k hk; simp [upR, root, third, srt, rho, rod, rmo, cam, cho, crd, nea, far, wor, nC, nP, nK, nR, nQ, nS, nL, frs, rpe, rch, cpe, ne10, ne20]; exact r7 k hk
theorem re_rea (r : RelL G f W t L N) (p c ho od mo : Nat) : RelL (upF G 5 (.inl (nI (nR L + 1)))) (upR (upR (upR (upR (upR f 5 (nR L) (nI p)) 6 (nR L) (nI c)) 7 (nR L) (nI ho)) 8 (nR L) (nI od)) 9 (nR L) (nI mo)) W t (reaL L p c ho od mo) N := by
  obtain ⟨r0, ⟨g2, g3, g4, g5, g6, g7, g8, g9⟩, r1, r2, r3, r4, r5, r6, r7⟩ := r
  unfold reaL
  refine ⟨?_, ⟨?_, ?_, ?_, ?_, ?_, ?_, ?_, g9⟩, ?_, ?_, ?_, ?_, ?_, ?_, ?_⟩
  · simp [upF, sL1, sL2, root, third, srt, rho, rod, rmo, cam, cho, crd, nea, far, wor, nC, nP, nK, nR, nQ, nS, nL, frs, rpe, rch, cpe, ne10, ne20]; exact r0
  · simp [upF, sL1, sL2, root, third, srt, rho, rod, rmo, cam, cho, crd, nea, far, wor, nC, nP, nK, nR, nQ, nS, nL, frs, rpe, rch, cpe, ne10, ne20]; exact g2
  · simp [upF, sL1, sL2, root, third, srt, rho, rod, rmo, cam, cho, crd, nea, far, wor, nC, nP, nK, nR, nQ, nS, nL, frs, rpe, rch, cpe, ne10, ne20]; exact g3
  · simp [upF, sL1, sL2, root, third, srt, rho, rod, rmo, cam, cho, crd, nea, far, wor, nC, nP, nK, nR, nQ, nS, nL, frs, rpe, rch, cpe, ne10, ne20]; exact g4
  · simp [upF, sL1, sL2, root, third, srt, rho, rod, rmo, cam, cho, crd, nea, far, wor, nC, nP, nK, nR, nQ, nS, nL, frs, rpe, rch, cpe, ne10, ne20]
  · simp [upF, sL1, sL2, root, third, srt, rho, rod, rmo, cam, cho, crd, nea, far, wor, nC, nP, nK, nR, nQ, nS, nL, frs, rpe, rch, cpe, ne10, ne20]; exact g6
  · simp [upF, sL1, sL2, root, third, srt, rho, rod, rmo, cam, cho, crd, nea, far, wor, nC, nP, nK, nR, nQ, nS, nL, frs, rpe, rch, cpe, ne10, ne20]; exact g7
  · simp [upF, sL1, sL2, root, third, srt, rho, rod, rmo, cam, cho, crd, nea, far, wor, nC, nP, nK, nR, nQ, nS, nL, frs, rpe, rch, cpe, ne10, ne20]; exact g8
  · intro a b ha hb; simp [upR, sL1, sL2, root, third, srt, rho, rod, rmo, cam, cho, crd, nea, far, wor, nC, nP, nK, nR, nQ, nS, nL, frs, rpe, rch, cpe, ne10, ne20]; exact r1 a b ha hb
  · intro p hp; simp [upR, sL1, sL2, root, third, srt, rho, rod, rmo, cam, cho, crd, nea, far, wor, nC, nP, nK, nR, nQ, nS, nL, frs, rpe, rch, cpe, ne10, ne20] at hp ⊢; exact r2 p hp
  · intro p q hp hq; simp [upR, sL1, sL2, root, third, srt, rho, rod, rmo, cam, cho, crd, nea, far, wor, nC, nP, nK, nR, nQ, nS, nL, frs, rpe, rch, cpe, ne10, ne20]; exact r3 p q hp hq
  · intro k hk
    by_cases z : k = nR L
    · subst z; simp [upR, sL1, sL2, root, third, srt, rho, rod, rmo, cam, cho, crd, nea, far, wor, nC, nP, nK, nR, nQ, nS, nL, frs, rpe, rch, cpe, ne10, ne20]
    · simp [sL1, sL2, root, third, srt, rho, rod, rmo, cam, cho, crd, nea, far, wor, nC, nP, nK, nR, nQ, nS, nL, frs, rpe, rch, cpe, ne10, ne20] at hk
      have z : ¬ k = L.2 0 3 := z
      have := r4 k (show k < L.2 0 3 by omega)
      simp [upR, sL1, sL2, z, root, third, srt, rho, rod, rmo, cam, cho, crd, nea, far, wor, nC, nP, nK, nR, nQ, nS, nL, frs, rpe, rch, cpe, ne10, ne20]
      exact this
  · intro k hk; simp [upR, sL1, sL2, root, third, srt, rho, rod, rmo, cam, cho, crd, nea, far, wor, nC, nP, nK, nR, nQ, nS, nL, frs, rpe, rch, cpe, ne10, ne20] at hk ⊢; exact r5 k hk
  · intro k hk; simp [upR, sL1, sL2, root, third, srt, rho, rod, rmo, cam, cho, crd, nea, far, wor, nC, nP, nK, nR, nQ, nS, nL, frs, rpe, rch, cpe, ne10, ne20] at hk ⊢; exact r6 k hk
  · intro k hk; simp [upR, root, third, srt, rho, rod, rmo, cam, cho, crd, nea, far, wor, nC, nP, nK, nR, nQ, nS, nL, frs, rpe, rch, cpe, ne10, ne20]; exact r7 k hk
theorem re_pai (r : RelL G f W t L N) (p am ho : Nat) : RelL (upF G 6 (.inl (nI (nQ L + 1)))) (upR (upR (upR f 10 (nQ L) (nI p)) 11 (nQ L) (nI am)) 12 (nQ L) (nI ho)) W t (paiL L p am ho) N := by
  obtain ⟨r0, ⟨g2, g3, g4, g5, g6, g7, g8, g9⟩, r1, r2, r3, r4, r5, r6, r7⟩ := r
  unfold paiL
  refine ⟨?_, ⟨?_, ?_, ?_, ?_, ?_, ?_, ?_, g9⟩, ?_, ?_, ?_, ?_, ?_, ?_, ?_⟩
  · simp [upF, sL1, sL2, root, third, srt, rho, rod, rmo, cam, cho, crd, nea, far, wor, nC, nP, nK, nR, nQ, nS, nL, frs, rpe, rch, cpe, ne10, ne20]; exact r0
  · simp [upF, sL1, sL2, root, third, srt, rho, rod, rmo, cam, cho, crd, nea, far, wor, nC, nP, nK, nR, nQ, nS, nL, frs, rpe, rch, cpe, ne10, ne20]; exact g2
  · simp [upF, sL1, sL2, root, third, srt, rho, rod, rmo, cam, cho, crd, nea, far, wor, nC, nP, nK, nR, nQ, nS, nL, frs, rpe, rch, cpe, ne10, ne20]; exact g3
  · simp [upF, sL1, sL2, root, third, srt, rho, rod, rmo, cam, cho, crd, nea, far, wor, nC, nP, nK, nR, nQ, nS, nL, frs, rpe, rch, cpe, ne10, ne20]; exact g4
  · simp [upF, sL1, sL2, root, third, srt, rho, rod, rmo, cam, cho, crd, nea, far, wor, nC, nP, nK, nR, nQ, nS, nL, frs, rpe, rch, cpe, ne10, ne20]; exact g5
  · simp [upF, sL1, sL2, root, third, srt, rho, rod, rmo, cam, cho, crd, nea, far, wor, nC, nP, nK, nR, nQ, nS, nL, frs, rpe, rch, cpe, ne10, ne20]
  · simp [upF, sL1, sL2, root, third, srt, rho, rod, rmo, cam, cho, crd, nea, far, wor, nC, nP, nK, nR, nQ, nS, nL, frs, rpe, rch, cpe, ne10, ne20]; exact g7
  · simp [upF, sL1, sL2, root, third, srt, rho, rod, rmo, cam, cho, crd, nea, far, wor, nC, nP, nK, nR, nQ, nS, nL, frs, rpe, rch, cpe, ne10, ne20]; exact g8
  · intro a b ha hb; simp [upR, sL1, sL2, root, third, srt, rho, rod, rmo, cam, cho, crd, nea, far, wor, nC, nP, nK, nR, nQ, nS, nL, frs, rpe, rch, cpe, ne10, ne20]; exact r1 a b ha hb
  · intro p hp; simp [upR, sL1, sL2, root, third, srt, rho, rod, rmo, cam, cho, crd, nea, far, wor, nC, nP, nK, nR, nQ, nS, nL, frs, rpe, rch, cpe, ne10, ne20] at hp ⊢; exact r2 p hp
  · intro p q hp hq; simp [upR, sL1, sL2, root, third, srt, rho, rod, rmo, cam, cho, crd, nea, far, wor, nC, nP, nK, nR, nQ, nS, nL, frs, rpe, rch, cpe, ne10, ne20]; exact r3 p q hp hq
  · intro k hk; simp [upR, sL1, sL2, root, third, srt, rho, rod, rmo, cam, cho, crd, nea, far, wor, nC, nP, nK, nR, nQ, nS, nL, frs, rpe, rch, cpe, ne10, ne20] at hk ⊢; exact r4 k hk
  · intro k hk
    by_cases z : k = nQ L
    · subst z; simp [upR, sL1, sL2, root, third, srt, rho, rod, rmo, cam, cho, crd, nea, far, wor, nC, nP, nK, nR, nQ, nS, nL, frs, rpe, rch, cpe, ne10, ne20]
    · simp [sL1, sL2, root, third, srt, rho, rod, rmo, cam, cho, crd, nea, far, wor, nC, nP, nK, nR, nQ, nS, nL, frs, rpe, rch, cpe, ne10, ne20] at hk
      have z : ¬ k = L.2 0 4 := z
      have := r5 k (show k < L.2 0 4 by omega)
      simp [upR, sL1, sL2, z, root, third, srt, rho, rod, rmo, cam, cho, crd, nea, far, wor, nC, nP, nK, nR, nQ, nS, nL, frs, rpe, rch, cpe, ne10, ne20]
      exact this
  · intro k hk; simp [upR, sL1, sL2, root, third, srt, rho, rod, rmo, cam, cho, crd, nea, far, wor, nC, nP, nK, nR, nQ, nS, nL, frs, rpe, rch, cpe, ne10, ne20] at hk ⊢; exact r6 k hk
  · intro k hk; simp [upR, root, third, srt, rho, rod, rmo, cam, cho, crd, nea, far, wor, nC, nP, nK, nR, nQ, nS, nL, frs, rpe, rch, cpe, ne10, ne20]; exact r7 k hk
theorem re_sho (r : RelL G f W t L N) (hz : nea L (nS L) = 0) (x : Nat) : RelL (upF G 7 (.inl (nI (nS L + 1)))) (upR (upR f 13 (nS L) (nI x)) 14 (nS L) ((1 : Int32) <<< (nI (nS L) &&& 31))) W t (sL2 (sL1 L 7 (nS L) (nI x)) 0 5 (nS L + 1)) N := by
  obtain ⟨r0, ⟨g2, g3, g4, g5, g6, g7, g8, g9⟩, r1, r2, r3, r4, r5, r6, r7⟩ := r
  refine ⟨?_, ⟨?_, ?_, ?_, ?_, ?_, ?_, ?_, g9⟩, ?_, ?_, ?_, ?_, ?_, ?_, ?_⟩
  · simp [upF, sL1, sL2, root, third, srt, rho, rod, rmo, cam, cho, crd, nea, far, wor, nC, nP, nK, nR, nQ, nS, nL, frs, rpe, rch, cpe, ne10, ne20]; exact r0
  · simp [upF, sL1, sL2, root, third, srt, rho, rod, rmo, cam, cho, crd, nea, far, wor, nC, nP, nK, nR, nQ, nS, nL, frs, rpe, rch, cpe, ne10, ne20]; exact g2
  · simp [upF, sL1, sL2, root, third, srt, rho, rod, rmo, cam, cho, crd, nea, far, wor, nC, nP, nK, nR, nQ, nS, nL, frs, rpe, rch, cpe, ne10, ne20]; exact g3
  · simp [upF, sL1, sL2, root, third, srt, rho, rod, rmo, cam, cho, crd, nea, far, wor, nC, nP, nK, nR, nQ, nS, nL, frs, rpe, rch, cpe, ne10, ne20]; exact g4
  · simp [upF, sL1, sL2, root, third, srt, rho, rod, rmo, cam, cho, crd, nea, far, wor, nC, nP, nK, nR, nQ, nS, nL, frs, rpe, rch, cpe, ne10, ne20]; exact g5
  · simp [upF, sL1, sL2, root, third, srt, rho, rod, rmo, cam, cho, crd, nea, far, wor, nC, nP, nK, nR, nQ, nS, nL, frs, rpe, rch, cpe, ne10, ne20]; exact g6
  · simp [upF, sL1, sL2, root, third, srt, rho, rod, rmo, cam, cho, crd, nea, far, wor, nC, nP, nK, nR, nQ, nS, nL, frs, rpe, rch, cpe, ne10, ne20]
  · simp [upF, sL1, sL2, root, third, srt, rho, rod, rmo, cam, cho, crd, nea, far, wor, nC, nP, nK, nR, nQ, nS, nL, frs, rpe, rch, cpe, ne10, ne20]; exact g8
  · intro a b ha hb; simp [upR, sL1, sL2, root, third, srt, rho, rod, rmo, cam, cho, crd, nea, far, wor, nC, nP, nK, nR, nQ, nS, nL, frs, rpe, rch, cpe, ne10, ne20]; exact r1 a b ha hb
  · intro p hp; simp [upR, sL1, sL2, root, third, srt, rho, rod, rmo, cam, cho, crd, nea, far, wor, nC, nP, nK, nR, nQ, nS, nL, frs, rpe, rch, cpe, ne10, ne20] at hp ⊢; exact r2 p hp
  · intro p q hp hq; simp [upR, sL1, sL2, root, third, srt, rho, rod, rmo, cam, cho, crd, nea, far, wor, nC, nP, nK, nR, nQ, nS, nL, frs, rpe, rch, cpe, ne10, ne20]; exact r3 p q hp hq
  · intro k hk; simp [upR, sL1, sL2, root, third, srt, rho, rod, rmo, cam, cho, crd, nea, far, wor, nC, nP, nK, nR, nQ, nS, nL, frs, rpe, rch, cpe, ne10, ne20] at hk ⊢; exact r4 k hk
  · intro k hk; simp [upR, sL1, sL2, root, third, srt, rho, rod, rmo, cam, cho, crd, nea, far, wor, nC, nP, nK, nR, nQ, nS, nL, frs, rpe, rch, cpe, ne10, ne20] at hk ⊢; exact r5 k hk
  · intro k hk
    by_cases z : k = nS L
    · subst z
      have hz : L.1 8 (L.2 0 5) = 0 := hz
      simp [upR, sL1, sL2, hz, root, third, srt, rho, rod, rmo, cam, cho, crd, nea, far, wor, nC, nP, nK, nR, nQ, nS, nL, frs, rpe, rch, cpe, ne10, ne20]
    · simp [sL1, sL2, root, third, srt, rho, rod, rmo, cam, cho, crd, nea, far, wor, nC, nP, nK, nR, nQ, nS, nL, frs, rpe, rch, cpe, ne10, ne20] at hk
      have z : ¬ k = L.2 0 5 := z
      have := r6 k (show k < L.2 0 5 by omega)
      simp [upR, sL1, sL2, z, root, third, srt, rho, rod, rmo, cam, cho, crd, nea, far, wor, nC, nP, nK, nR, nQ, nS, nL, frs, rpe, rch, cpe, ne10, ne20]
      exact this
  · intro k hk; simp [upR, root, third, srt, rho, rod, rmo, cam, cho, crd, nea, far, wor, nC, nP, nK, nR, nQ, nS, nL, frs, rpe, rch, cpe, ne10, ne20]; exact r7 k hk
theorem re_lan (r : RelL G f W t L N) {s u : Nat} (hs : s < nS L) (hu : u < nS L) (hn : s ≠ u) : RelL (upF G 8 (.inl (nI (nL L + 1)))) (upR (upR f 14 s (f 14 s ||| ((1 : Int32) <<< (nI u &&& 31)))) 14 u (f 14 u ||| ((1 : Int32) <<< (nI s &&& 31)))) W t (lanL L s u) N := by
  obtain ⟨r0, ⟨g2, g3, g4, g5, g6, g7, g8, g9⟩, r1, r2, r3, r4, r5, r6, r7⟩ := r
  unfold lanL
  refine ⟨?_, ⟨?_, ?_, ?_, ?_, ?_, ?_, ?_, g9⟩, ?_, ?_, ?_, ?_, ?_, ?_, ?_⟩
  · simp [upF, sL1, sL2, root, third, srt, rho, rod, rmo, cam, cho, crd, nea, far, wor, nC, nP, nK, nR, nQ, nS, nL, frs, rpe, rch, cpe, ne10, ne20]; exact r0
  · simp [upF, sL1, sL2, root, third, srt, rho, rod, rmo, cam, cho, crd, nea, far, wor, nC, nP, nK, nR, nQ, nS, nL, frs, rpe, rch, cpe, ne10, ne20]; exact g2
  · simp [upF, sL1, sL2, root, third, srt, rho, rod, rmo, cam, cho, crd, nea, far, wor, nC, nP, nK, nR, nQ, nS, nL, frs, rpe, rch, cpe, ne10, ne20]; exact g3
  · simp [upF, sL1, sL2, root, third, srt, rho, rod, rmo, cam, cho, crd, nea, far, wor, nC, nP, nK, nR, nQ, nS, nL, frs, rpe, rch, cpe, ne10, ne20]; exact g4
  · simp [upF, sL1, sL2, root, third, srt, rho, rod, rmo, cam, cho, crd, nea, far, wor, nC, nP, nK, nR, nQ, nS, nL, frs, rpe, rch, cpe, ne10, ne20]; exact g5
  · simp [upF, sL1, sL2, root, third, srt, rho, rod, rmo, cam, cho, crd, nea, far, wor, nC, nP, nK, nR, nQ, nS, nL, frs, rpe, rch, cpe, ne10, ne20]; exact g6
  · simp [upF, sL1, sL2, root, third, srt, rho, rod, rmo, cam, cho, crd, nea, far, wor, nC, nP, nK, nR, nQ, nS, nL, frs, rpe, rch, cpe, ne10, ne20]; exact g7
  · simp [upF, sL1, sL2, root, third, srt, rho, rod, rmo, cam, cho, crd, nea, far, wor, nC, nP, nK, nR, nQ, nS, nL, frs, rpe, rch, cpe, ne10, ne20]
  · intro a b ha hb; simp [upR, sL1, sL2, root, third, srt, rho, rod, rmo, cam, cho, crd, nea, far, wor, nC, nP, nK, nR, nQ, nS, nL, frs, rpe, rch, cpe, ne10, ne20]; exact r1 a b ha hb
  · intro p hp; simp [upR, sL1, sL2, root, third, srt, rho, rod, rmo, cam, cho, crd, nea, far, wor, nC, nP, nK, nR, nQ, nS, nL, frs, rpe, rch, cpe, ne10, ne20] at hp ⊢; exact r2 p hp
  · intro p q hp hq; simp [upR, sL1, sL2, root, third, srt, rho, rod, rmo, cam, cho, crd, nea, far, wor, nC, nP, nK, nR, nQ, nS, nL, frs, rpe, rch, cpe, ne10, ne20]; exact r3 p q hp hq
  · intro k hk; simp [upR, sL1, sL2, root, third, srt, rho, rod, rmo, cam, cho, crd, nea, far, wor, nC, nP, nK, nR, nQ, nS, nL, frs, rpe, rch, cpe, ne10, ne20] at hk ⊢; exact r4 k hk
  · intro k hk; simp [upR, sL1, sL2, root, third, srt, rho, rod, rmo, cam, cho, crd, nea, far, wor, nC, nP, nK, nR, nQ, nS, nL, frs, rpe, rch, cpe, ne10, ne20] at hk ⊢; exact r5 k hk
  · intro k hk
    have hk : k < L.2 0 5 := by simpa [sL1, sL2, nS] using hk
    have ac : ∀ a b c : Int32, a ||| b ||| c = a ||| c ||| b := by
      intro a b c
      rw [Int32.or_assoc, Int32.or_comm b c, ← Int32.or_assoc]
    obtain ⟨q1, q2⟩ := r6 k hk
    obtain ⟨-, q3⟩ := r6 s hs
    obtain ⟨-, q4⟩ := r6 u hu
    refine ⟨by simp [upR, sL1, sL2, root, third, srt, rho, rod, rmo, cam, cho, crd, nea, far, wor, nC, nP, nK, nR, nQ, nS, nL, frs, rpe, rch, cpe, ne10, ne20]; exact q1, ?_⟩
    by_cases z : k = u
    · subst z
      simp [upR, sL1, sL2, Ne.symm hn, hn, root, third, srt, rho, rod, rmo, cam, cho, crd, nea, far, wor, nC, nP, nK, nR, nQ, nS, nL, frs, rpe, rch, cpe, ne10, ne20]
      rw [q4, ac]
    · by_cases y : k = s
      · subst y
        simp [upR, sL1, sL2, hn, root, third, srt, rho, rod, rmo, cam, cho, crd, nea, far, wor, nC, nP, nK, nR, nQ, nS, nL, frs, rpe, rch, cpe, ne10, ne20]
        rw [q3, ac]
      · simp [upR, sL1, sL2, z, y, root, third, srt, rho, rod, rmo, cam, cho, crd, nea, far, wor, nC, nP, nK, nR, nQ, nS, nL, frs, rpe, rch, cpe, ne10, ne20]
        exact q2
  · intro k hk; simp [upR, root, third, srt, rho, rod, rmo, cam, cho, crd, nea, far, wor, nC, nP, nK, nR, nQ, nS, nL, frs, rpe, rch, cpe, ne10, ne20]; exact r7 k hk
end Z2
