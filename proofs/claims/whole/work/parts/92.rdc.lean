/-! the class's reader: its cell, tokens -/
def rdF (v : Nat → Int32) (lw : Nat) : Nat → PV := fun k => if k = 0 then .inr (.inr (some 101)) else if k = 2 then .inr (.inr (some lw)) else if k < 10 then .inl (v k) else .inr (.inr (some (151 + k)))
def RdS (h : PH) (v : Nat → Int32) (lw : Nat) (tx : Nat → Int32) : Prop := Fo h 160 5 14 (rdF v lw) ∧ Fo h 101 52 900 (fun k => .inl (tx k))
section Y1
variable {h h1 : PH} {v : Nat → Int32} {lw n pos : Nat} {tx : Nat → Int32}
theorem RdS.g (e : RdS h v lw tx) {k : Nat} (hk : k = 1 ∨ k = 3 ∨ k = 4 ∨ k = 5 ∨ k = 6 ∨ k = 7 ∨ k = 8 ∨ k = 9) : gI h 5 (some 160) k = some (v k) := e.1.gi (by omega) (by unfold rdF; rw [if_neg (by omega), if_neg (by omega), if_pos (by omega)])
theorem RdS.g0 (e : RdS h v lw tx) : gR h 5 (some 160) 0 = some (some 101) := e.1.gr (by omega) rfl
theorem RdS.g2 (e : RdS h v lw tx) : gR h 5 (some 160) 2 = some (some lw) := e.1.gr (by omega) rfl
theorem RdS.g10 (e : RdS h v lw tx) : gR h 5 (some 160) 10 = some (some 161) ∧ gR h 5 (some 160) 11 = some (some 162) ∧ gR h 5 (some 160) 12 = some (some 163) ∧ gR h 5 (some 160) 13 = some (some 164) := ⟨e.1.gr (by omega) rfl, e.1.gr (by omega) rfl, e.1.gr (by omega) rfl, e.1.gr (by omega) rfl⟩
theorem RdS.cl {X : Type} (e : RdS h v lw tx) (o : Option X) : cl h 5 (some 160) o = o := cl_o e.1 o
theorem RdS.set (e : RdS h v lw tx) {k : Nat} (hk : k = 1 ∨ k = 3 ∨ k = 4 ∨ k = 5 ∨ k = 6 ∨ k = 7 ∨ k = 8 ∨ k = 9) (x : Int32) : ∃ h1, sF h 5 (some 160) k (.inl x) = some h1 ∧ RdS h1 (up1 v k x) lw tx ∧ Fr h h1 160 161 := by
  obtain ⟨h1, a, b, f⟩ := e.1.set (k := k) (by omega) (.inl x)
  refine ⟨h1, a, ⟨b.gt (fun j hj => ?_), e.2.fr f (by omega)⟩, f⟩
  unfold upF rdF up1
  by_cases z : j = k
  · subst z
    rw [if_pos rfl, if_neg (by omega), if_neg (by omega), if_pos (by omega), if_pos rfl]
  · rw [if_neg z, if_neg z]
theorem RdS.fr {lo hi : Nat} (e : RdS h v lw tx) (f : Fr h h1 lo hi) (a : 160 < lo ∨ hi ≤ 160) (b : 101 < lo ∨ hi ≤ 101) : RdS h1 v lw tx := ⟨e.1.fr f (by omega), e.2.fr f (by omega)⟩
theorem RdS.by (e : RdS h v lw tx) {i : Nat} (hi : i < 900) : aB h (some 101) (nI i) = some (tx i) := e.2.aB hi (by decide) rfl
theorem RdS.lt (e : RdS h v lw tx) {i : Nat} (hi : i < 900) : Jvm.Pilot.CWaverTaxLaw_law_r8537_6f3a17.cl h 5 (some 160) (f_Reader_isLetter h (some 160) (nI i)) = some (if isLt (tx i) = true then 1 else 0) := by
  rw [e.cl]
  unfold f_Reader_isLetter isLt
  rw [e.g0, Option.bind_some, e.by hi, Option.bind_some]
  by_cases z : tx i < 97
  · rw [if_pos z, if_neg]
    rw [Bool.and_eq_true]
    rintro ⟨a, -⟩
    have a : (97 : Int32) ≤ tx i := by simpa using a
    exact absurd z (Int32.not_lt.mpr a)
  · rw [if_neg z, Option.bind_some, e.by hi, Option.bind_some]
    by_cases y : 122 < tx i
    · rw [if_pos y, if_neg]
      rw [Bool.and_eq_true]
      rintro ⟨-, a⟩
      have a : tx i ≤ 122 := by simpa using a
      exact absurd y (Int32.not_lt.mpr a)
    · rw [if_neg y, if_pos]
      rw [Bool.and_eq_true]
      exact ⟨by simpa using Int32.not_lt.mp z, by simpa using Int32.not_lt.mp y⟩
theorem RdS.dg (e : RdS h v lw tx) {i : Nat} (hi : i < 900) : Jvm.Pilot.CWaverTaxLaw_law_r8537_6f3a17.cl h 5 (some 160) (f_Reader_isDigit h (some 160) (nI i)) = some (if isDg (tx i) = true then 1 else 0) := by
  rw [e.cl]
  unfold f_Reader_isDigit isDg
  rw [e.g0, Option.bind_some, e.by hi, Option.bind_some]
  by_cases z : tx i < 48
  · rw [if_pos z, if_neg]
    rw [Bool.and_eq_true]
    rintro ⟨a, -⟩
    have a : (48 : Int32) ≤ tx i := by simpa using a
    exact absurd z (Int32.not_lt.mpr a)
  · rw [if_neg z, Option.bind_some, e.by hi, Option.bind_some]
    by_cases y : 57 < tx i
    · rw [if_pos y, if_neg]
      rw [Bool.and_eq_true]
      rintro ⟨-, a⟩
      have a : tx i ≤ 57 := by simpa using a
      exact absurd y (Int32.not_lt.mpr a)
    · rw [if_neg y, if_pos]
      rw [Bool.and_eq_true]
      exact ⟨by simpa using Int32.not_lt.mp z, by simpa using Int32.not_lt.mp y⟩
/-- what next leaves: token, start, end; nothing else -/
def Nxt (v v1 : Nat → Int32) (t : Nat × Nat × Nat) : Prop := v1 4 = nI t.1 ∧ v1 5 = nI t.2.1 ∧ v1 6 = nI t.2.2 ∧ ∀ k, k ≠ 4 → k ≠ 5 → k ≠ 6 → v1 k = v k
theorem rd_next (e : RdS h v lw tx) (hn : n ≤ 900) (hp : pos ≤ n) (e1 : v 1 = nI n) (e6 : v 6 = nI pos) : ∃ h1, Jvm.Pilot.CWaverTaxLaw_law_r8537_6f3a17.cl h 5 (some 160) (f_Reader_next h (some 160)) = some h1 ∧ ∃ v1, RdS h1 v1 lw tx ∧ Nxt v v1 (nxT tx n pos) ∧ Fr h h1 160 161 := by
  obtain ⟨ra, rb, rc, rd⟩ := run_p (P := isSp) (tx := tx) hp
  have ri := fun i (a : pos ≤ i) (b : i ≤ run isSp tx n pos) => run_i (P := isSp) (tx := tx) a b hp
  rw [e.cl]
  unfold f_Reader_next
  obtain ⟨h2, a1, a2, a3⟩ := e.set (k := 5) (by omega) (nI pos)
  rw [e.g (by omega), Option.bind_some, e6, a1, Option.bind_some]
  refine exB (f := fun h9 => h9) (fun x => ∃ v2, RdS x v2 lw tx ∧ v2 5 = nI (run isSp tx n pos) ∧ (∀ k, k ≠ 5 → v2 k = v k) ∧ Fr h x 160 161) (pj_inv (fun i s => ∃ v2, RdS s v2 lw tx ∧ v2 5 = nI (pos + i) ∧ (∀ k, k ≠ 5 → v2 k = v k) ∧ Fr h s 160 161) _ (run isSp tx n pos - pos) (by omega) ⟨_, a2, rfl, fun k hk => if_neg hk, a3⟩ ?_ ?_) ?_
  · rintro i s hi ⟨v2, x1, x2, x3, x4⟩
    left
    have q := (ri (pos + i) (by omega) (by omega)).mpr (by omega)
    have q2 : tx (pos + i) = 32 := by simpa [isSp] using q.2
    rw [x1.g (by omega), Option.bind_some, x1.g (k := 1) (by omega), Option.bind_some, x3 1 (by omega), x2, e1, if_neg (nI_ge q.1 (by omega)), x1.g0, Option.bind_some, Option.bind_some, x1.by (by omega), Option.bind_some, if_neg (fun w => w q2), Option.bind_some, nI_s]
    obtain ⟨h3, b1, b2, b3⟩ := x1.set (k := 5) (by omega) (nI (pos + i + 1))
    rw [b1, Option.bind_some]
    exact ⟨_, rfl, _, b2, rfl, fun k hk => (if_neg hk).trans (x3 k hk), x4.tr b3⟩
  · rintro s ⟨v2, x1, x2, x3, x4⟩
    rw [show pos + (run isSp tx n pos - pos) = run isSp tx n pos by omega] at x2
    rw [x1.g (by omega), Option.bind_some, x1.g (k := 1) (by omega), Option.bind_some, x3 1 (by omega), x2, e1]
    by_cases z : n ≤ run isSp tx n pos
    · rw [if_pos (nI_le z (by omega))]
      exact ⟨_, rfl, v2, x1, x2, x3, x4⟩
    · have q2 : ¬ tx (run isSp tx n pos) = 32 := fun w => rd (by omega) (by simp [isSp, w])
      rw [if_neg (nI_ge (by omega) (by omega)), x1.g0, Option.bind_some, Option.bind_some, x1.by (by omega), Option.bind_some, if_pos q2]
      exact ⟨_, rfl, v2, x1, x2, x3, x4⟩
  · rintro x ⟨v2, x1, x2, x3, x4⟩
    obtain ⟨h3, b1, b2, b3⟩ := x1.set (k := 6) (by omega) (nI (run isSp tx n pos))
    have u5 : up1 v2 6 (nI (run isSp tx n pos)) 5 = nI (run isSp tx n pos) := (if_neg (by omega)).trans x2
    have u1 : up1 v2 6 (nI (run isSp tx n pos)) 1 = nI n := (if_neg (by omega)).trans ((x3 1 (by omega)).trans e1)
    have F3 := x4.tr b3
    rw [x1.g (by omega), Option.bind_some, x2, b1, Option.bind_some, b2.g (k := 5) (by omega), Option.bind_some, b2.g (k := 1) (by omega), Option.bind_some, u5, u1]
    have keep : ∀ k, k ≠ 4 → k ≠ 5 → k ≠ 6 → up1 v2 6 (nI (run isSp tx n pos)) k = v k := fun k _ h5 h6 => (if_neg h6).trans (x3 k h5)
    have fin : ∀ (t en : Nat) (hh : PH) (vv : Nat → Int32), RdS hh vv lw tx → vv 5 = nI (run isSp tx n pos) → vv 6 = nI en → (∀ k, k ≠ 4 → k ≠ 5 → k ≠ 6 → vv k = v k) → Fr h hh 160 161 → nxT tx n pos = (t, run isSp tx n pos, en) → ∃ h9, (sF hh 5 (some 160) 4 (.inl (nI t))).bind (fun h9 => some h9) = some h9 ∧ ∃ v1, RdS h9 v1 lw tx ∧ Nxt v v1 (nxT tx n pos) ∧ Fr h h9 160 161 := by
      intro t en hh vv w1 w2 w3 w4 w5 w6
      obtain ⟨h4, c1, c2, c3⟩ := w1.set (k := 4) (by omega) (nI t)
      rw [c1, Option.bind_some]
      refine ⟨h4, rfl, _, c2, ?_, w5.tr c3⟩
      rw [w6]
      exact ⟨rfl, (if_neg (by omega)).trans w2, (if_neg (by omega)).trans w3, fun k k4 k5 k6 => (if_neg k4).trans (w4 k k4 k5 k6)⟩
    by_cases z : run isSp tx n pos < n
    · rw [if_pos (nI_lt z (by omega)), Option.bind_some, b2.lt (by omega), Option.bind_some]
      by_cases y : isLt (tx (run isSp tx n pos)) = true
      · rw [if_pos y, if_neg (by decide)]
        obtain ⟨sa, sb, sc, sd⟩ := run_p (P := isLt) (tx := tx) rb
        have si := fun i (a : run isSp tx n pos ≤ i) (b : i ≤ run isLt tx n (run isSp tx n pos)) => run_i (P := isLt) (tx := tx) a b rb
        refine exB (f := fun h9 => h9) (fun x => ∃ v3, RdS x v3 lw tx ∧ v3 5 = nI (run isSp tx n pos) ∧ v3 6 = nI (run isLt tx n (run isSp tx n pos)) ∧ (∀ k, k ≠ 4 → k ≠ 5 → k ≠ 6 → v3 k = v k) ∧ Fr h x 160 161) (pj_inv (fun i s => ∃ v3, RdS s v3 lw tx ∧ v3 5 = nI (run isSp tx n pos) ∧ v3 6 = nI (run isSp tx n pos + i) ∧ (∀ k, k ≠ 4 → k ≠ 5 → k ≠ 6 → v3 k = v k) ∧ Fr h s 160 161) _ (run isLt tx n (run isSp tx n pos) - run isSp tx n pos) (by omega) ⟨_, b2, u5, rfl, keep, F3⟩ ?_ ?_) ?_
        · rintro i s hi ⟨v3, w1, w2, w3, w4, w5⟩
          left
          have q := (si (run isSp tx n pos + i) (by omega) (by omega)).mpr (by omega)
          rw [w1.g (by omega), Option.bind_some, w1.g (k := 1) (by omega), Option.bind_some, w4 1 (by omega) (by omega) (by omega), w3, e1, if_neg (nI_ge q.1 (by omega)), Option.bind_some, w1.lt (by omega), Option.bind_some, if_pos q.2, if_neg (by decide), Option.bind_some, nI_s]
          obtain ⟨h4, c1, c2, c3⟩ := w1.set (k := 6) (by omega) (nI (run isSp tx n pos + i + 1))
          rw [c1, Option.bind_some]
          exact ⟨_, rfl, _, c2, (if_neg (by omega)).trans w2, rfl, fun k k4 k5 k6 => (if_neg k6).trans (w4 k k4 k5 k6), w5.tr c3⟩
        · rintro s ⟨v3, w1, w2, w3, w4, w5⟩
          rw [show run isSp tx n pos + (run isLt tx n (run isSp tx n pos) - run isSp tx n pos) = run isLt tx n (run isSp tx n pos) by omega] at w3
          rw [w1.g (by omega), Option.bind_some, w1.g (k := 1) (by omega), Option.bind_some, w4 1 (by omega) (by omega) (by omega), w3, e1]
          by_cases q : n ≤ run isLt tx n (run isSp tx n pos)
          · rw [if_pos (nI_le q (by omega))]
            exact ⟨_, rfl, v3, w1, w2, w3, w4, w5⟩
          · rw [if_neg (nI_ge (by omega) (by omega)), Option.bind_some, w1.lt (by omega), Option.bind_some, if_neg (sd (by omega)), if_pos rfl]
            exact ⟨_, rfl, v3, w1, w2, w3, w4, w5⟩
        · rintro s ⟨v3, w1, w2, w3, w4, w5⟩
          rw [w1.g (k := 6) (by omega), Option.bind_some, w1.g (k := 5) (by omega), Option.bind_some, w2, w3, pk_sub sa]
          by_cases q : run isLt tx n (run isSp tx n pos) - run isSp tx n pos ≤ 8
          · rw [if_neg (show ¬ (8 : Int32) < nI _ from nI_nlt (a := 8) q (by omega))]
            exact fin 1 _ s v3 w1 w2 w3 w4 w5 (by unfold nxT; rw [if_neg (by omega), if_pos y, if_pos q])
          · rw [if_pos (show (8 : Int32) < nI _ from nI_lt (a := 8) (by omega) (by omega))]
            exact fin 4 _ s v3 w1 w2 w3 w4 w5 (by unfold nxT; rw [if_neg (by omega), if_pos y, if_neg q])
      · rw [if_neg y, if_pos rfl, Option.bind_some, b2.dg (by omega), Option.bind_some]
        by_cases yd : isDg (tx (run isSp tx n pos)) = true
        · rw [if_pos yd, if_neg (by decide)]
          obtain ⟨sa, sb, sc, sd⟩ := run_p (P := isDg) (tx := tx) rb
          have si := fun i (a : run isSp tx n pos ≤ i) (b : i ≤ run isDg tx n (run isSp tx n pos)) => run_i (P := isDg) (tx := tx) a b rb
          refine exB (f := fun h9 => h9) (fun x => ∃ v3, RdS x v3 lw tx ∧ v3 5 = nI (run isSp tx n pos) ∧ v3 6 = nI (run isDg tx n (run isSp tx n pos)) ∧ (∀ k, k ≠ 4 → k ≠ 5 → k ≠ 6 → v3 k = v k) ∧ Fr h x 160 161) (pj_inv (fun i s => ∃ v3, RdS s v3 lw tx ∧ v3 5 = nI (run isSp tx n pos) ∧ v3 6 = nI (run isSp tx n pos + i) ∧ (∀ k, k ≠ 4 → k ≠ 5 → k ≠ 6 → v3 k = v k) ∧ Fr h s 160 161) _ (run isDg tx n (run isSp tx n pos) - run isSp tx n pos) (by omega) ⟨_, b2, u5, rfl, keep, F3⟩ ?_ ?_) ?_
          · rintro i s hi ⟨v3, w1, w2, w3, w4, w5⟩
            left
            have q := (si (run isSp tx n pos + i) (by omega) (by omega)).mpr (by omega)
            rw [w1.g (by omega), Option.bind_some, w1.g (k := 1) (by omega), Option.bind_some, w4 1 (by omega) (by omega) (by omega), w3, e1, if_neg (nI_ge q.1 (by omega)), Option.bind_some, w1.dg (by omega), Option.bind_some, if_pos q.2, if_neg (by decide), Option.bind_some, nI_s]
            obtain ⟨h4, c1, c2, c3⟩ := w1.set (k := 6) (by omega) (nI (run isSp tx n pos + i + 1))
            rw [c1, Option.bind_some]
            exact ⟨_, rfl, _, c2, (if_neg (by omega)).trans w2, rfl, fun k k4 k5 k6 => (if_neg k6).trans (w4 k k4 k5 k6), w5.tr c3⟩
          · rintro s ⟨v3, w1, w2, w3, w4, w5⟩
            rw [show run isSp tx n pos + (run isDg tx n (run isSp tx n pos) - run isSp tx n pos) = run isDg tx n (run isSp tx n pos) by omega] at w3
            rw [w1.g (by omega), Option.bind_some, w1.g (k := 1) (by omega), Option.bind_some, w4 1 (by omega) (by omega) (by omega), w3, e1]
            by_cases q : n ≤ run isDg tx n (run isSp tx n pos)
            · rw [if_pos (nI_le q (by omega))]
              exact ⟨_, rfl, v3, w1, w2, w3, w4, w5⟩
            · rw [if_neg (nI_ge (by omega) (by omega)), Option.bind_some, w1.dg (by omega), Option.bind_some, if_neg (sd (by omega)), if_pos rfl]
              exact ⟨_, rfl, v3, w1, w2, w3, w4, w5⟩
          · rintro s ⟨v3, w1, w2, w3, w4, w5⟩
            rw [w1.g (k := 6) (by omega), Option.bind_some, w1.g (k := 5) (by omega), Option.bind_some, w2, w3, pk_sub sa]
            by_cases q : run isDg tx n (run isSp tx n pos) - run isSp tx n pos ≤ 3
            · rw [if_neg (show ¬ (3 : Int32) < nI _ from nI_nlt (a := 3) q (by omega))]
              exact fin 2 _ s v3 w1 w2 w3 w4 w5 (by unfold nxT; rw [if_neg (by omega), if_neg y, if_pos yd, if_pos q])
            · rw [if_pos (show (3 : Int32) < nI _ from nI_lt (a := 3) (by omega) (by omega))]
              exact fin 4 _ s v3 w1 w2 w3 w4 w5 (by unfold nxT; rw [if_neg (by omega), if_neg y, if_pos yd, if_neg q])
        · rw [if_neg yd, if_pos rfl]
          obtain ⟨h4, c1, c2, c3⟩ := b2.set (k := 6) (by omega) (nI (run isSp tx n pos + 1))
          have u6 : up1 v2 6 (nI (run isSp tx n pos)) 6 = nI (run isSp tx n pos) := if_pos rfl
          have t5 : up1 (up1 v2 6 (nI (run isSp tx n pos))) 6 (nI (run isSp tx n pos + 1)) 5 = nI (run isSp tx n pos) := (if_neg (by omega)).trans u5
          rw [b2.g (k := 6) (by omega), Option.bind_some, u6, nI_s, c1, Option.bind_some, c2.g0, Option.bind_some, c2.g (k := 5) (by omega), Option.bind_some, t5, c2.by (by omega), Option.bind_some]
          have t9 : ∀ k, k ≠ 4 → k ≠ 5 → k ≠ 6 → up1 (up1 v2 6 (nI (run isSp tx n pos))) 6 (nI (run isSp tx n pos + 1)) k = v k := fun k k4 k5 k6 => (if_neg k6).trans (keep k k4 k5 k6)
          by_cases q : tx (run isSp tx n pos) = 59
          · rw [if_neg (fun w => w q)]
            exact fin 3 _ h4 _ c2 t5 rfl t9 (F3.tr c3) (by unfold nxT; rw [if_neg (by omega), if_neg y, if_neg yd, if_pos q])
          · rw [if_pos q]
            exact fin 4 _ h4 _ c2 t5 rfl t9 (F3.tr c3) (by unfold nxT; rw [if_neg (by omega), if_neg y, if_neg yd, if_neg q])
    · rw [if_neg (nI_nlt (by omega) (by omega))]
      exact fin 0 _ h3 _ b2 u5 rfl keep F3 (by unfold nxT; rw [if_pos (by omega)])
end Y1
