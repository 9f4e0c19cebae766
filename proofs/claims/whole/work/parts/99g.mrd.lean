/-! the reference's reader: bytes, tokens -/
def byP (b : Int32) : Bool := decide (((b &&& 255) = 32) ↔ b = 32) && (decide (¬ (b &&& 255) = -1) && (decide (isLt (b &&& 255) = isLt b) && (decide (isDg (b &&& 255) = isDg b) && (decide (((b &&& 255) = 59) ↔ b = 59) && (decide (isLt b = true → (b &&& 255) = b) && decide (isDg b = true → (b &&& 255) = b))))))
theorem by_k : ∀ i : Fin 256, byP (Int8.ofBitVec (BitVec.ofFin i)).toInt32 = true := by decide +kernel
theorem by_p {b : Int32} (h : b.toInt8.toInt32 = b) : (((b &&& 255) = 32) ↔ b = 32) ∧ (¬ (b &&& 255) = -1) ∧ (isLt (b &&& 255) = isLt b) ∧ (isDg (b &&& 255) = isDg b) ∧ (((b &&& 255) = 59) ↔ b = 59) ∧ (isLt b = true → (b &&& 255) = b) ∧ (isDg b = true → (b &&& 255) = b) := by
  have := by_k b.toInt8.toBitVec.toFin
  rw [show (Int8.ofBitVec (BitVec.ofFin b.toInt8.toBitVec.toFin)) = b.toInt8 from rfl, h] at this
  unfold byP at this
  simp only [Bool.and_eq_true] at this
  obtain ⟨a1, a2, a3, a4, a5, a6, a7⟩ := this
  exact ⟨of_decide_eq_true a1, of_decide_eq_true a2, of_decide_eq_true a3, of_decide_eq_true a4, of_decide_eq_true a5, of_decide_eq_true a6, of_decide_eq_true a7⟩
def btR (tx : Nat → Int32) (n k : Nat) : Int32 := if n ≤ k then -1 else tx k &&& 255
theorem mr_lt (h : PH) (x : Int32) : f_M_isLetter h x = some (if isLt x = true then 1 else 0) := by
  unfold f_M_isLetter isLt
  by_cases z : x < 97
  · rw [if_pos z, if_neg]
    rw [Bool.and_eq_true]
    rintro ⟨a, -⟩
    have a : (97 : Int32) ≤ x := by simpa using a
    exact absurd z (Int32.not_lt.mpr a)
  · rw [if_neg z]
    by_cases y : 122 < x
    · rw [if_pos y, if_neg]
      rw [Bool.and_eq_true]
      rintro ⟨-, a⟩
      have a : x ≤ 122 := by simpa using a
      exact absurd y (Int32.not_lt.mpr a)
    · rw [if_neg y, if_pos]
      rw [Bool.and_eq_true]
      exact ⟨by simpa using Int32.not_lt.mp z, by simpa using Int32.not_lt.mp y⟩
theorem mr_dg (h : PH) (x : Int32) : f_M_isDigit h x = some (if isDg x = true then 1 else 0) := by
  unfold f_M_isDigit isDg
  by_cases z : x < 48
  · rw [if_pos z, if_neg]
    rw [Bool.and_eq_true]
    rintro ⟨a, -⟩
    have a : (48 : Int32) ≤ x := by simpa using a
    exact absurd z (Int32.not_lt.mpr a)
  · rw [if_neg z]
    by_cases y : 57 < x
    · rw [if_pos y, if_neg]
      rw [Bool.and_eq_true]
      rintro ⟨-, a⟩
      have a : x ≤ 57 := by simpa using a
      exact absurd y (Int32.not_lt.mpr a)
    · rw [if_neg y, if_pos]
      rw [Bool.and_eq_true]
      exact ⟨by simpa using Int32.not_lt.mp z, by simpa using Int32.not_lt.mp y⟩
/-- the reference's fields as it reads: 8 spot, 9 sort, 10 place, 11 number, 12 fault, 13 wrongAt, 14 word -/
def mF (F0 : Nat → PV) (v : Nat → Int32) (w : Int64) : Nat → PV := fun k => if k = 14 then .inr (.inl w) else if 8 ≤ k ∧ k ≤ 13 then .inl (v k) else F0 k
def MrS (h : PH) (F0 : Nat → PV) (v : Nat → Int32) (w : Int64) (tx : Nat → Int32) (n i : Nat) : Prop := Fo h 285 12 32 (mF F0 v w) ∧ Fo h 286 52 900 (fun k => .inl (tx k)) ∧ F0 4 = .inr (.inr (some i)) ∧ F0 5 = .inr (.inr (some 286)) ∧ F0 7 = .inl (nI n) ∧ n ≤ 900 ∧ ∀ k, (tx k).toInt8.toInt32 = tx k
section Z1
variable {h h1 : PH} {F0 : Nat → PV} {v : Nat → Int32} {w : Int64} {tx : Nat → Int32} {n i pos : Nat}
theorem mF_o {k : Nat} (a : ¬ (8 ≤ k ∧ k ≤ 14)) : mF F0 v w k = F0 k := by unfold mF; rw [if_neg (by omega), if_neg (by omega)]
theorem MrS.g (e : MrS h F0 v w tx n i) {k : Nat} (hk : k = 8 ∨ k = 9 ∨ k = 10 ∨ k = 11 ∨ k = 12 ∨ k = 13) : gI h 12 (some 285) k = some (v k) := e.1.gi (by omega) (by unfold mF; rw [if_neg (by omega), if_pos (by omega)])
theorem MrS.gw (e : MrS h F0 v w tx n i) : gL h 12 (some 285) 14 = some w := e.1.gl (by omega) rfl
theorem MrS.g4 (e : MrS h F0 v w tx n i) : gR h 12 (some 285) 4 = some (some i) := e.1.gr (by omega) ((mF_o (by omega)).trans e.2.2.1)
theorem MrS.g5 (e : MrS h F0 v w tx n i) : gR h 12 (some 285) 5 = some (some 286) := e.1.gr (by omega) ((mF_o (by omega)).trans e.2.2.2.1)
theorem MrS.g7 (e : MrS h F0 v w tx n i) : gI h 12 (some 285) 7 = some (nI n) := e.1.gi (by omega) ((mF_o (by omega)).trans e.2.2.2.2.1)
theorem MrS.cl {X : Type} (e : MrS h F0 v w tx n i) (o : Option X) : cl h 12 (some 285) o = o := cl_o e.1 o
theorem MrS.set (e : MrS h F0 v w tx n i) {k : Nat} (hk : k = 8 ∨ k = 9 ∨ k = 10 ∨ k = 11 ∨ k = 12 ∨ k = 13) (x : Int32) : ∃ h1, sF h 12 (some 285) k (.inl x) = some h1 ∧ MrS h1 F0 (up1 v k x) w tx n i ∧ Fr h h1 285 286 := by
  obtain ⟨h1, a, b, f⟩ := e.1.set (k := k) (by omega) (.inl x)
  refine ⟨h1, a, ⟨b.gt (fun j hj => ?_), e.2.1.fr f (by omega), e.2.2⟩, f⟩
  unfold upF mF up1
  by_cases z : j = k
  · subst z
    rw [if_pos rfl, if_neg (by omega), if_pos (by omega), if_pos rfl]
  · rw [if_neg z, if_neg z]
theorem MrS.setw (e : MrS h F0 v w tx n i) (x : Int64) : ∃ h1, sF h 12 (some 285) 14 (.inr (.inl x)) = some h1 ∧ MrS h1 F0 v x tx n i ∧ Fr h h1 285 286 := by
  obtain ⟨h1, a, b, f⟩ := e.1.set (k := 14) (by omega) (.inr (.inl x))
  refine ⟨h1, a, ⟨b.gt (fun j hj => ?_), e.2.1.fr f (by omega), e.2.2⟩, f⟩
  unfold upF mF
  by_cases z : j = 14
  · rw [if_pos z, if_pos z]
  · rw [if_neg z, if_neg z, if_neg z]
theorem MrS.fr {lo hi : Nat} (e : MrS h F0 v w tx n i) (f : Fr h h1 lo hi) (a : 286 < lo) : MrS h1 F0 v w tx n i := ⟨e.1.fr f (by omega), e.2.1.fr f (by omega), e.2.2⟩
theorem MrS.byt (e : MrS h F0 v w tx n i) {k : Nat} (hk : k ≤ 900) : Jvm.Pilot.CWaverTaxLaw_law_r8537_6f3a17.cl h 12 (some 285) (f_M_byteAt h (some 285) (nI k)) = some (btR tx n k) := by
  have n9 := e.2.2.2.2.2.1
  rw [e.cl]
  unfold f_M_byteAt btR
  rw [e.g7, Option.bind_some]
  by_cases z : n ≤ k
  · rw [if_pos (nI_le z (by omega)), if_pos z]
  · rw [if_neg (nI_ge (by omega) (by omega)), if_neg z, e.g5, Option.bind_some, e.2.1.aB (by omega) (by decide) rfl, Option.bind_some]
theorem bt_sp (hb : ∀ k, (tx k).toInt8.toInt32 = tx k) {k : Nat} : btR tx n k = 32 ↔ k < n ∧ isSp (tx k) = true := by
  unfold btR
  by_cases z : n ≤ k
  · rw [if_pos z]
    exact ⟨fun q => absurd q (by decide), fun q => absurd q.1 (by omega)⟩
  · rw [if_neg z, (by_p (hb k)).1]
    unfold isSp
    exact ⟨fun q => ⟨by omega, by rw [q]; rfl⟩, fun q => by simpa using q.2⟩
theorem bt_lt (hb : ∀ k, (tx k).toInt8.toInt32 = tx k) {k : Nat} : isLt (btR tx n k) = true ↔ k < n ∧ isLt (tx k) = true := by
  unfold btR
  by_cases z : n ≤ k
  · rw [if_pos z]
    exact ⟨fun q => absurd q (by decide), fun q => absurd q.1 (by omega)⟩
  · rw [if_neg z, (by_p (hb k)).2.2.1]
    exact ⟨fun q => ⟨by omega, q⟩, fun q => q.2⟩
theorem bt_dg (hb : ∀ k, (tx k).toInt8.toInt32 = tx k) {k : Nat} : isDg (btR tx n k) = true ↔ k < n ∧ isDg (tx k) = true := by
  unfold btR
  by_cases z : n ≤ k
  · rw [if_pos z]
    exact ⟨fun q => absurd q (by decide), fun q => absurd q.1 (by omega)⟩
  · rw [if_neg z, (by_p (hb k)).2.2.2.1]
    exact ⟨fun q => ⟨by omega, q⟩, fun q => q.2⟩
def mkK (t : Nat) : Nat := if t = 4 then 0 else t + 1
def MNx (tx : Nat → Int32) (v v1 : Nat → Int32) (w1 : Int64) (t : Nat × Nat × Nat) : Prop := v1 9 = nI (mkK t.1) ∧ v1 10 = nI t.2.1 ∧ (¬ t.1 = 4 → v1 8 = nI t.2.2) ∧ (t.1 = 1 → w1 = lN (pkN tx t.2.1 (t.2.2 - t.2.1))) ∧ (t.1 = 2 → v1 11 = nI (dcN tx t.2.1 (t.2.2 - t.2.1))) ∧ v1 12 = v 12 ∧ v1 13 = v 13
theorem mr_over (e : MrS h F0 v w tx n i) (e9 : v 9 = 5) : Jvm.Pilot.CWaverTaxLaw_law_r8537_6f3a17.cl h 12 (some 285) (f_M_goesOn h (some 285)) = some h := by
  rw [e.cl]
  unfold f_M_goesOn
  rw [e.g (k := 9) (by omega), Option.bind_some, if_neg (fun q => q e9)]
/-- the letters of a word -/
theorem mr_word {v2 : Nat → Int32} {s : Nat} (e : MrS h F0 v2 0 tx n i) (hs : s ≤ n) (e8 : v2 8 = nI s) : ∃ x, pj_it (X := Int32 × PH) (fun s33 : Int32 × PH => (gI s33.2 12 (some 285) 8).bind fun v35 => (cl s33.2 12 (some 285) (f_M_byteAt s33.2 (some 285) v35)).bind fun v36 => (f_M_isLetter s33.2 v36).bind fun v37 => if v37 = 0 then (some (.inr (s33.1, s33.2))) else ((if (8 : Int32) ≤ s33.1 then (some s33.2) else ((gL s33.2 12 (some 285) 14).bind fun v39 => (gI s33.2 12 (some 285) 8).bind fun v40 => (cl s33.2 12 (some 285) (f_M_byteAt s33.2 (some 285) v40)).bind fun v41 => (sF s33.2 12 (some 285) 14 (.inr (.inl (((32 : Int64) * v39) + (Int32.toInt64 ((v41 - (97 : Int32)) + (1 : Int32))))))).bind fun h42 => some h42) : Option (PH)).bind fun j38 => (gI j38 12 (some 285) 8).bind fun v43 => (sF j38 12 (some 285) 8 (.inl (v43 + (1 : Int32)))).bind fun h44 => some (.inl ((s33.1 + (1 : Int32)), h44)))) FU ((0 : Int32), h) = some x ∧ x.1 = nI (run isLt tx n s - s) ∧ ∃ v3 w3, MrS x.2 F0 v3 w3 tx n i ∧ v3 8 = nI (run isLt tx n s) ∧ (∀ k, k ≠ 8 → v3 k = v2 k) ∧ (run isLt tx n s - s ≤ 8 → w3 = lN (pkN tx s (run isLt tx n s - s))) ∧ Fr h x.2 285 286 := by
  have n9 := e.2.2.2.2.2.1
  have hb := e.2.2.2.2.2.2
  obtain ⟨sa, sb, sc, sd⟩ := run_p (P := isLt) (tx := tx) hs
  have si := fun i (a : s ≤ i) (b : i ≤ run isLt tx n s) => run_i (P := isLt) (tx := tx) a b hs
  refine pj_inv (fun j x => x.1 = nI j ∧ ∃ v3 w3, MrS x.2 F0 v3 w3 tx n i ∧ v3 8 = nI (s + j) ∧ (∀ k, k ≠ 8 → v3 k = v2 k) ∧ (j ≤ 8 → w3 = lN (pkN tx s j)) ∧ Fr h x.2 285 286) _ (run isLt tx n s - s) (by omega) ⟨rfl, v2, 0, e, e8, fun _ _ => rfl, fun _ => rfl, Fr.rf⟩ ?_ ?_
  · rintro j ⟨k1, x⟩ hj ⟨rfl, v3, w3, m1, m2, m3, m4, m5⟩
    left
    dsimp only at m1 m5 ⊢
    have q := (si (s + j) (by omega) (by omega)).mpr (by omega)
    have q2 := (bt_lt (n := n) hb).mpr q
    have q3 : btR tx n (s + j) = tx (s + j) := by
      unfold btR
      rw [if_neg (by omega)]
      exact (by_p (hb _)).2.2.2.2.2.1 q.2
    obtain ⟨k, b1, b2, b3, b4⟩ := isLt_v q.2
    rw [m1.g (by omega), Option.bind_some, m2, m1.byt (by omega), Option.bind_some, mr_lt, Option.bind_some, if_pos q2, if_neg (by decide)]
    by_cases z : 8 ≤ j
    · obtain ⟨h4, c1, c2, c3⟩ := m1.set (k := 8) (by omega) (nI (s + j + 1))
      rw [if_pos (show (8 : Int32) ≤ nI j from nI_le (a := 8) z (by omega)), Option.bind_some, m1.g (by omega), Option.bind_some, m2, nI_s, c1, Option.bind_some, nI_s]
      exact ⟨_, rfl, rfl, _, _, c2, if_pos rfl, fun k hk => (if_neg hk).trans (m3 k hk), fun q => by omega, m5.tr c3⟩
    · obtain ⟨h3, d1, d2, d3⟩ := m1.setw (lN (pkN tx s (j + 1)))
      obtain ⟨h4, c1, c2, c3⟩ := d2.set (k := 8) (by omega) (nI (s + j + 1))
      have ar : ((32 : Int64) * w3) + (Int32.toInt64 ((tx (s + j) - (97 : Int32)) + (1 : Int32))) = lN (pkN tx s (j + 1)) := by
        rw [m4 (by omega), b3, show (97 : Int32) = nI 97 from rfl, pk_sub (by omega), nI_s, nI_l (by omega), show (32 : Int64) = lN 32 from rfl, lN_mul, lN_add]
        show _ = lN (32 * pkN tx s j + dgN (tx (s + j)))
        rw [b4]
        congr 1
        omega
      rw [if_neg (show ¬ (8 : Int32) ≤ nI j from nI_ge (b := 8) (by omega) (by omega)), m1.gw, Option.bind_some, Option.bind_some, m1.byt (by omega), Option.bind_some, q3, ar, d1, Option.bind_some, Option.bind_some, d2.g (by omega), Option.bind_some, m2, nI_s, c1, Option.bind_some, nI_s]
      exact ⟨_, rfl, rfl, _, _, c2, if_pos rfl, fun k hk => (if_neg hk).trans (m3 k hk), fun _ => rfl, (m5.tr d3).tr c3⟩
  · rintro ⟨k1, x⟩ ⟨rfl, v3, w3, m1, m2, m3, m4, m5⟩
    dsimp only at m1 m5 ⊢
    rw [show s + (run isLt tx n s - s) = run isLt tx n s by omega] at m2
    rw [m1.g (by omega), Option.bind_some, m2, m1.byt (by omega), Option.bind_some, mr_lt, Option.bind_some, if_neg (show ¬ isLt (btR tx n (run isLt tx n s)) = true from fun q => by
      have q := (bt_lt (n := n) hb).mp q
      exact sd q.1 q.2), if_pos rfl]
    exact ⟨_, rfl, rfl, v3, w3, m1, m2, m3, m4, m5⟩
/-- the digits of a whole -/
theorem mr_whole {v2 : Nat → Int32} {s : Nat} (e : MrS h F0 v2 w tx n i) (hs : s ≤ n) (e8 : v2 8 = nI s) (e11 : v2 11 = 0) : ∃ x, pj_it (X := Int32 × PH) (fun s19 : Int32 × PH => (gI s19.2 12 (some 285) 8).bind fun v21 => (cl s19.2 12 (some 285) (f_M_byteAt s19.2 (some 285) v21)).bind fun v22 => (f_M_isDigit s19.2 v22).bind fun v23 => if v23 = 0 then (some (.inr (s19.1, s19.2))) else ((if (3 : Int32) ≤ s19.1 then (some s19.2) else ((gI s19.2 12 (some 285) 11).bind fun v25 => (gI s19.2 12 (some 285) 8).bind fun v26 => (cl s19.2 12 (some 285) (f_M_byteAt s19.2 (some 285) v26)).bind fun v27 => (sF s19.2 12 (some 285) 11 (.inl ((((10 : Int32) * v25) + v27) - (48 : Int32)))).bind fun h28 => some h28) : Option (PH)).bind fun j24 => (gI j24 12 (some 285) 8).bind fun v29 => (sF j24 12 (some 285) 8 (.inl (v29 + (1 : Int32)))).bind fun h30 => some (.inl ((s19.1 + (1 : Int32)), h30)))) FU ((0 : Int32), h) = some x ∧ x.1 = nI (run isDg tx n s - s) ∧ ∃ v3, MrS x.2 F0 v3 w tx n i ∧ v3 8 = nI (run isDg tx n s) ∧ (∀ k, k ≠ 8 → k ≠ 11 → v3 k = v2 k) ∧ (run isDg tx n s - s ≤ 3 → v3 11 = nI (dcN tx s (run isDg tx n s - s))) ∧ Fr h x.2 285 286 := by
  have n9 := e.2.2.2.2.2.1
  have hb := e.2.2.2.2.2.2
  obtain ⟨sa, sb, sc, sd⟩ := run_p (P := isDg) (tx := tx) hs
  have si := fun i (a : s ≤ i) (b : i ≤ run isDg tx n s) => run_i (P := isDg) (tx := tx) a b hs
  refine pj_inv (fun j x => x.1 = nI j ∧ ∃ v3, MrS x.2 F0 v3 w tx n i ∧ v3 8 = nI (s + j) ∧ (∀ k, k ≠ 8 → k ≠ 11 → v3 k = v2 k) ∧ (j ≤ 3 → v3 11 = nI (dcN tx s j)) ∧ Fr h x.2 285 286) _ (run isDg tx n s - s) (by omega) ⟨rfl, v2, e, e8, fun _ _ _ => rfl, fun _ => e11, Fr.rf⟩ ?_ ?_
  · rintro j ⟨k1, x⟩ hj ⟨rfl, v3, m1, m2, m3, m4, m5⟩
    left
    dsimp only at m1 m5 ⊢
    have q := (si (s + j) (by omega) (by omega)).mpr (by omega)
    have q2 := (bt_dg (n := n) hb).mpr q
    have q3 : btR tx n (s + j) = tx (s + j) := by
      unfold btR
      rw [if_neg (by omega)]
      exact (by_p (hb _)).2.2.2.2.2.2 q.2
    obtain ⟨k, b1, b2, b3⟩ := isDg_v q.2
    rw [m1.g (by omega), Option.bind_some, m2, m1.byt (by omega), Option.bind_some, mr_dg, Option.bind_some, if_pos q2, if_neg (by decide)]
    by_cases z : 3 ≤ j
    · obtain ⟨h4, c1, c2, c3⟩ := m1.set (k := 8) (by omega) (nI (s + j + 1))
      rw [if_pos (show (3 : Int32) ≤ nI j from nI_le (a := 3) z (by omega)), Option.bind_some, m1.g (by omega), Option.bind_some, m2, nI_s, c1, Option.bind_some, nI_s]
      exact ⟨_, rfl, rfl, _, c2, if_pos rfl, fun k hk hk2 => (if_neg hk).trans (m3 k hk hk2), fun q => by omega, m5.tr c3⟩
    · obtain ⟨h3, d1, d2, d3⟩ := m1.set (k := 11) (by omega) (nI (dcN tx s (j + 1)))
      obtain ⟨h4, c1, c2, c3⟩ := d2.set (k := 8) (by omega) (nI (s + j + 1))
      have ar : (((10 : Int32) * nI (dcN tx s j)) + tx (s + j)) - (48 : Int32) = nI (dcN tx s (j + 1)) := by
        rw [b2, show (48 : Int32) = nI 48 from rfl, show (10 : Int32) = nI 10 from rfl, pk_mul, nI_add, pk_sub (by omega)]
        show _ = nI (10 * dcN tx s j + ((tx (s + j)).toNatClampNeg - 48))
        rw [b3]
        congr 1
        omega
      rw [if_neg (show ¬ (3 : Int32) ≤ nI j from nI_ge (b := 3) (by omega) (by omega)), m1.g (k := 11) (by omega), Option.bind_some, m4 (by omega), Option.bind_some, m1.byt (by omega), Option.bind_some, q3, ar, d1, Option.bind_some, Option.bind_some, d2.g (k := 8) (by omega), Option.bind_some, show up1 v3 11 (nI (dcN tx s (j + 1))) 8 = nI (s + j) from (if_neg (by omega)).trans m2, nI_s, c1, Option.bind_some, nI_s]
      exact ⟨_, rfl, rfl, _, c2, if_pos rfl, fun k hk hk2 => ((if_neg hk).trans (if_neg hk2)).trans (m3 k hk hk2), fun _ => rfl, (m5.tr d3).tr c3⟩
  · rintro ⟨k1, x⟩ ⟨rfl, v3, m1, m2, m3, m4, m5⟩
    dsimp only at m1 m5 ⊢
    rw [show s + (run isDg tx n s - s) = run isDg tx n s by omega] at m2
    rw [m1.g (by omega), Option.bind_some, m2, m1.byt (by omega), Option.bind_some, mr_dg, Option.bind_some, if_neg (show ¬ isDg (btR tx n (run isDg tx n s)) = true from fun q => by
      have q := (bt_dg (n := n) hb).mp q
      exact sd q.1 q.2), if_pos rfl]
    exact ⟨_, rfl, rfl, v3, m1, m2, m3, m4, m5⟩
theorem mr_next (e : MrS h F0 v w tx n i) (hp : pos ≤ n) (e9 : ¬ v 9 = 5) (e8 : v 8 = nI pos) : ∃ h1, Jvm.Pilot.CWaverTaxLaw_law_r8537_6f3a17.cl h 12 (some 285) (f_M_goesOn h (some 285)) = some h1 ∧ ∃ v1 w1, MrS h1 F0 v1 w1 tx n i ∧ MNx tx v v1 w1 (nxT tx n pos) ∧ Fr h h1 285 286 := by
  have n9 := e.2.2.2.2.2.1
  have hb := e.2.2.2.2.2.2
  obtain ⟨ra, rb, rc, rd⟩ := run_p (P := isSp) (tx := tx) hp
  have ri := fun i (a : pos ≤ i) (b : i ≤ run isSp tx n pos) => run_i (P := isSp) (tx := tx) a b hp
  rw [e.cl]
  unfold f_M_goesOn
  rw [e.g (k := 9) (by omega), Option.bind_some, if_pos e9]
  refine exB (f := fun h9 => h9) (fun x => ∃ v2, MrS x F0 v2 w tx n i ∧ v2 8 = nI (run isSp tx n pos) ∧ (∀ k, k ≠ 8 → v2 k = v k) ∧ Fr h x 285 286) (pj_inv (fun j s => ∃ v2, MrS s F0 v2 w tx n i ∧ v2 8 = nI (pos + j) ∧ (∀ k, k ≠ 8 → v2 k = v k) ∧ Fr h s 285 286) _ (run isSp tx n pos - pos) (by omega) ⟨v, e, e8, fun _ _ => rfl, Fr.rf⟩ ?_ ?_) ?_
  · rintro j s hj ⟨v2, m1, m2, m3, m4⟩
    left
    have q := (bt_sp (n := n) hb).mpr ((ri (pos + j) (by omega) (by omega)).mpr (by omega))
    obtain ⟨h3, b1, b2, b3⟩ := m1.set (k := 8) (by omega) (nI (pos + j + 1))
    rw [m1.g (by omega), Option.bind_some, m2, m1.byt (by omega), Option.bind_some, if_neg (fun w => w q), Option.bind_some, nI_s, b1, Option.bind_some]
    exact ⟨_, rfl, _, b2, if_pos rfl, fun k hk => (if_neg hk).trans (m3 k hk), m4.tr b3⟩
  · rintro s ⟨v2, m1, m2, m3, m4⟩
    rw [show pos + (run isSp tx n pos - pos) = run isSp tx n pos by omega] at m2
    rw [m1.g (by omega), Option.bind_some, m2, m1.byt (by omega), Option.bind_some, if_pos (fun w => by
      have q := (bt_sp (n := n) hb).mp w
      exact rd q.1 q.2)]
    exact ⟨_, rfl, v2, m1, m2, m3, m4⟩
  · rintro x ⟨v2, m1, m2, m3, m4⟩
    obtain ⟨h9, a1, a2, a3⟩ := m1.set (k := 10) (by omega) (nI (run isSp tx n pos))
    obtain ⟨h10, b1, b2, b3⟩ := a2.set (k := 9) (by omega) 0
    have G := (m4.tr a3).tr b3
    have u8 : up1 (up1 v2 10 (nI (run isSp tx n pos))) 9 0 8 = nI (run isSp tx n pos) := ((if_neg (by omega)).trans (if_neg (by omega))).trans m2
    have u10 : up1 (up1 v2 10 (nI (run isSp tx n pos))) 9 0 10 = nI (run isSp tx n pos) := (if_neg (by omega)).trans (if_pos rfl)
    have u12 : ∀ k, k = 11 ∨ k = 12 ∨ k = 13 → up1 (up1 v2 10 (nI (run isSp tx n pos))) 9 0 k = v k := fun k hk => ((if_neg (by omega)).trans (if_neg (by omega))).trans (m3 k (by omega))
    have u9 : up1 (up1 v2 10 (nI (run isSp tx n pos))) 9 0 9 = 0 := if_pos rfl
    rw [m1.g (k := 8) (by omega), Option.bind_some, m2, a1, Option.bind_some, b1, Option.bind_some, b2.g (k := 8) (by omega), Option.bind_some, u8, b2.byt (by omega), Option.bind_some]
    generalize up1 (up1 v2 10 (nI (run isSp tx n pos))) 9 0 = u at *
    by_cases z : n ≤ run isSp tx n pos
    · rw [if_neg (show ¬ ¬ btR tx n (run isSp tx n pos) = -1 from fun q => q (if_pos z))]
      obtain ⟨h11, c1, c2, c3⟩ := b2.set (k := 9) (by omega) 1
      rw [c1, Option.bind_some]
      refine ⟨_, rfl, _, _, c2, ?_, G.tr c3⟩
      have : nxT tx n pos = (0, run isSp tx n pos, run isSp tx n pos) := by unfold nxT; rw [if_pos z]
      rw [this]
      exact ⟨if_pos rfl, (if_neg (by omega)).trans u10, fun _ => (if_neg (by omega)).trans u8, fun q => (by cases q), fun q => (by cases q), (if_neg (by omega)).trans (u12 12 (by omega)), (if_neg (by omega)).trans (u12 13 (by omega))⟩
    · have bt : btR tx n (run isSp tx n pos) = tx (run isSp tx n pos) &&& 255 := if_neg z
      obtain ⟨p1, p2, p3, p4, p5, p6, p7⟩ := by_p (hb (run isSp tx n pos))
      rw [if_pos (show ¬ btR tx n (run isSp tx n pos) = -1 from by rw [bt]; exact p2), mr_lt, Option.bind_some, mr_dg, Option.bind_some]
      by_cases y : isLt (tx (run isSp tx n pos)) = true
      · rw [if_pos ((bt_lt (n := n) hb).mpr ⟨by omega, y⟩), if_neg (by decide)]
        obtain ⟨h32, c1, c2, c3⟩ := b2.setw 0
        obtain ⟨x2, l1, l2, v3, w3, l3, l4, l5, l6, l7⟩ := mr_word c2 rb u8
        have sa := (run_p (P := isLt) (tx := tx) rb).1
        have sb := (run_p (P := isLt) (tx := tx) rb).2.1
        rw [c1, Option.bind_some, l1, Option.bind_some, l2]
        by_cases q : run isLt tx n (run isSp tx n pos) - run isSp tx n pos ≤ 8
        · obtain ⟨h45, d1, d2, d3⟩ := l3.set (k := 9) (by omega) 2
          rw [if_neg (show ¬ (8 : Int32) < nI _ from nI_nlt (a := 8) q (by omega)), d1, Option.bind_some]
          refine ⟨_, rfl, _, _, d2, ?_, ((G.tr c3).tr l7).tr d3⟩
          have : nxT tx n pos = (1, run isSp tx n pos, run isLt tx n (run isSp tx n pos)) := by unfold nxT; rw [if_neg z, if_pos y, if_pos q]
          rw [this]
          exact ⟨if_pos rfl, ((if_neg (by omega)).trans (l5 10 (by omega))).trans u10, fun _ => (if_neg (by omega)).trans l4, fun _ => l6 q, fun q => (by cases q), ((if_neg (by omega)).trans (l5 12 (by omega))).trans (u12 12 (by omega)), ((if_neg (by omega)).trans (l5 13 (by omega))).trans (u12 13 (by omega))⟩
        · rw [if_pos (show (8 : Int32) < nI _ from nI_lt (a := 8) (by omega) (by omega))]
          refine ⟨_, rfl, _, _, l3, ?_, (G.tr c3).tr l7⟩
          have : nxT tx n pos = (4, run isSp tx n pos, run isLt tx n (run isSp tx n pos)) := by unfold nxT; rw [if_neg z, if_pos y, if_neg q]
          rw [this]
          exact ⟨(l5 9 (by omega)).trans u9, (l5 10 (by omega)).trans u10, fun q => absurd rfl q, fun q => (by cases q), fun q => (by cases q), (l5 12 (by omega)).trans (u12 12 (by omega)), (l5 13 (by omega)).trans (u12 13 (by omega))⟩
      · rw [if_neg (fun q => y ((bt_lt (n := n) hb).mp q).2), if_pos rfl]
        by_cases yd : isDg (tx (run isSp tx n pos)) = true
        · rw [if_pos ((bt_dg (n := n) hb).mpr ⟨by omega, yd⟩), if_neg (by decide)]
          obtain ⟨h18, c1, c2, c3⟩ := b2.set (k := 11) (by omega) 0
          obtain ⟨x2, l1, l2, v3, l3, l4, l5, l6, l7⟩ := mr_whole c2 rb ((if_neg (by omega)).trans u8) (if_pos rfl)
          have sa := (run_p (P := isDg) (tx := tx) rb).1
          have sb := (run_p (P := isDg) (tx := tx) rb).2.1
          have t : ∀ k, k ≠ 8 → k ≠ 11 → v3 k = u k := fun k k1 k2 => (l5 k k1 k2).trans (if_neg k2)
          rw [c1, Option.bind_some, l1, Option.bind_some, l2]
          by_cases q : run isDg tx n (run isSp tx n pos) - run isSp tx n pos ≤ 3
          · obtain ⟨h45, d1, d2, d3⟩ := l3.set (k := 9) (by omega) 3
            rw [if_neg (show ¬ (3 : Int32) < nI _ from nI_nlt (a := 3) q (by omega)), d1, Option.bind_some]
            refine ⟨_, rfl, _, _, d2, ?_, ((G.tr c3).tr l7).tr d3⟩
            have : nxT tx n pos = (2, run isSp tx n pos, run isDg tx n (run isSp tx n pos)) := by unfold nxT; rw [if_neg z, if_neg y, if_pos yd, if_pos q]
            rw [this]
            exact ⟨if_pos rfl, ((if_neg (by omega)).trans (t 10 (by omega) (by omega))).trans u10, fun _ => (if_neg (by omega)).trans l4, fun q => (by cases q), fun _ => (if_neg (by omega)).trans (l6 q), ((if_neg (by omega)).trans (t 12 (by omega) (by omega))).trans (u12 12 (by omega)), ((if_neg (by omega)).trans (t 13 (by omega) (by omega))).trans (u12 13 (by omega))⟩
          · rw [if_pos (show (3 : Int32) < nI _ from nI_lt (a := 3) (by omega) (by omega))]
            refine ⟨_, rfl, _, _, l3, ?_, (G.tr c3).tr l7⟩
            have : nxT tx n pos = (4, run isSp tx n pos, run isDg tx n (run isSp tx n pos)) := by unfold nxT; rw [if_neg z, if_neg y, if_pos yd, if_neg q]
            rw [this]
            exact ⟨(t 9 (by omega) (by omega)).trans u9, (t 10 (by omega) (by omega)).trans u10, fun q => absurd rfl q, fun q => (by cases q), fun q => (by cases q), (t 12 (by omega) (by omega)).trans (u12 12 (by omega)), (t 13 (by omega) (by omega)).trans (u12 13 (by omega))⟩
        · rw [if_neg (fun q => yd ((bt_dg (n := n) hb).mp q).2), if_pos rfl, bt]
          by_cases q : tx (run isSp tx n pos) = 59
          · obtain ⟨h15, c1, c2, c3⟩ := b2.set (k := 9) (by omega) 4
            obtain ⟨h17, d1, d2, d3⟩ := c2.set (k := 8) (by omega) (nI (run isSp tx n pos + 1))
            rw [if_neg (fun w => w (p5.mpr q)), c1, Option.bind_some, c2.g (k := 8) (by omega), Option.bind_some, show up1 u 9 4 8 = nI (run isSp tx n pos) from (if_neg (by omega)).trans u8, nI_s, d1, Option.bind_some]
            refine ⟨_, rfl, _, _, d2, ?_, (G.tr c3).tr d3⟩
            have : nxT tx n pos = (3, run isSp tx n pos, run isSp tx n pos + 1) := by unfold nxT; rw [if_neg z, if_neg y, if_neg yd, if_pos q]
            rw [this]
            exact ⟨(if_neg (by omega)).trans (if_pos rfl), ((if_neg (by omega)).trans (if_neg (by omega))).trans u10, fun _ => if_pos rfl, fun q => (by cases q), fun q => (by cases q), ((if_neg (by omega)).trans (if_neg (by omega))).trans (u12 12 (by omega)), ((if_neg (by omega)).trans (if_neg (by omega))).trans (u12 13 (by omega))⟩
          · rw [if_pos (fun w => q (p5.mp w))]
            refine ⟨_, rfl, _, _, b2, ?_, G⟩
            have : nxT tx n pos = (4, run isSp tx n pos, run isSp tx n pos + 1) := by unfold nxT; rw [if_neg z, if_neg y, if_neg yd, if_neg q]
            rw [this]
            exact ⟨u9, u10, fun q => absurd rfl q, fun q => (by cases q), fun q => (by cases q), u12 12 (by omega), u12 13 (by omega)⟩
end Z1
