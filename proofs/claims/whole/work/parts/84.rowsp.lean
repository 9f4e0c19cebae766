/-! receipts: all rows, as both find them -/
abbrev RwD : Type := Nat × (Nat → Nat → Nat) × (Nat → Nat)
def upN (f : Nat → Nat) (k x : Nat) : Nat → Nat := fun q => if q = k then x else f q
/-- a row is counted -/
def vsR (L : LawD) (p : Nat) (rw : Nat → Nat) (R : RwD) : RwD := (R.1 + 1, (fun k c => if k < nQ L ∧ cpe L k = p ∧ c = rw k then R.2.1 k c + 1 else R.2.1 k c), if R.1 = 0 then rw else R.2.2)
/-- the tax at a receipt -/
def rtS (L : LawD) (p he tu : Nat) (la : Int32) (k c : Nat) : Int32 := taxS L (-1) (third L) p he c (nI tu) (if la = -2 then -1 else cho L k - la)
def gdB (L : LawD) (p he tu : Nat) (la : Int32) (k c : Nat) : Bool := decide (c ≠ he) && decide (rtS L p he tu la k c = cam L k)
/-- whether a row fits, j receipts being left -/
def ftB (L : LawD) (p : Nat) : Nat → Nat → Nat → Int32 → (Nat → Nat) → Bool
  | 0, _, _, _, _ => true
  | j + 1, he, tu, la, rw => if cpe L (nQ L - (j + 1)) = p then gdB L p he tu la (nQ L - (j + 1)) (rw (nQ L - (j + 1))) && ftB L p j (rw (nQ L - (j + 1))) (tu + 1) (cho L (nQ L - (j + 1))) rw else ftB L p j he tu la rw
/-- all rows, one choice behind another -/
def dfR (L : LawD) (p : Nat) : Nat → Nat → Nat → Int32 → (Nat → Nat) → RwD → RwD
  | 0, _, _, _, rw, R => vsR L p rw R
  | j + 1, he, tu, la, rw, R => if cpe L (nQ L - (j + 1)) = p then foldN (fun c R => if gdB L p he tu la (nQ L - (j + 1)) c = true then dfR L p j c (tu + 1) (cho L (nQ L - (j + 1))) (upN rw (nQ L - (j + 1)) c) R else R) (nC L) R else dfR L p j he tu la rw R
def R0 : RwD := (0, fun _ _ => 0, fun _ => 0)
def RS (L : LawD) (p : Nat) : RwD := dfR L p (nQ L) (frs L p) 0 (-2) (fun _ => 0) R0
/-- how many rows there are behind -/
def Mj (L : LawD) (p : Nat) : Nat → Nat
  | 0 => 1
  | j + 1 => if cpe L (nQ L - (j + 1)) = p then nC L * Mj L p j else Mj L p j
/-- the row of a number -/
def puR (L : LawD) (p : Nat) : Nat → (Nat → Nat) → Nat → (Nat → Nat)
  | 0, rw, _ => rw
  | j + 1, rw, t => if cpe L (nQ L - (j + 1)) = p then puR L p j (upN rw (nQ L - (j + 1)) (t / Mj L p j)) (t % Mj L p j) else puR L p j rw t
section Q1
variable {L : LawD} {p : Nat}
theorem df_s {j he tu : Nat} {la : Int32} {rw : Nat → Nat} {R : RwD} : dfR L p (j + 1) he tu la rw R = if cpe L (nQ L - (j + 1)) = p then foldN (fun c R => if gdB L p he tu la (nQ L - (j + 1)) c = true then dfR L p j c (tu + 1) (cho L (nQ L - (j + 1))) (upN rw (nQ L - (j + 1)) c) R else R) (nC L) R else dfR L p j he tu la rw R := rfl
theorem Mj_s {j : Nat} : Mj L p (j + 1) = if cpe L (nQ L - (j + 1)) = p then nC L * Mj L p j else Mj L p j := rfl
theorem Mj_pos (h : 1 ≤ nC L) : ∀ j, 0 < Mj L p j
  | 0 => by show 0 < 1; omega
  | j + 1 => by
    have ih := Mj_pos h j
    unfold Mj
    split
    · exact Nat.mul_pos (by omega) ih
    · exact ih
theorem Mj_le (h : nC L ≤ 5) : ∀ j, Mj L p j ≤ 5 ^ j
  | 0 => Nat.le_refl _
  | j + 1 => by
    have ih := Mj_le h j
    unfold Mj
    rw [Nat.pow_succ]
    split
    · calc nC L * Mj L p j ≤ 5 * 5 ^ j := Nat.mul_le_mul h ih
        _ = 5 ^ j * 5 := Nat.mul_comm _ _
    · omega
theorem pu_lo : ∀ j rw t k, k < nQ L - j → puR L p j rw t k = rw k
  | 0, rw, t, k, _ => rfl
  | j + 1, rw, t, k, hk => by
    unfold puR
    split
    · rw [pu_lo j _ _ k (by omega)]
      unfold upN
      rw [if_neg (by omega)]
    · exact pu_lo j _ _ k (by omega)
theorem foldN_cg {A : Type} {f g : Nat → A → A} : ∀ n a, (∀ i a, i < n → f i a = g i a) → foldN f n a = foldN g n a
  | 0, a, _ => rfl
  | n + 1, a, h => by
    show f n (foldN f n a) = g n (foldN g n a)
    rw [foldN_cg n a (fun i a hi => h i a (by omega)), h n _ (by omega)]
theorem foldN_id {A : Type} : ∀ n (a : A), foldN (fun _ a => a) n a = a
  | 0, a => rfl
  | n + 1, a => foldN_id n a
/-- rows of blocks -/
theorem foldN_mul {A : Type} {f : Nat → A → A} {M : Nat} (hM : 0 < M) : ∀ n a, foldN f (n * M) a = foldN (fun c a => foldN (fun t a => f (c * M + t) a) M a) n a
  | 0, a => by rw [Nat.zero_mul]; rfl
  | n + 1, a => by
    have key : ∀ m a, foldN f (n * M + m) a = foldN (fun t a => f (n * M + t) a) m (foldN f (n * M) a) := by
      intro m
      induction m with
      | zero => intro a; rfl
      | succ m ih =>
        intro a
        show f (n * M + m) (foldN f (n * M + m) a) = f (n * M + m) (foldN (fun t a => f (n * M + t) a) m (foldN f (n * M) a))
        rw [ih]
    rw [Nat.succ_mul, key M a, foldN_mul hM n a]
    rfl
theorem pu_d {M c t : Nat} (ht : t < M) : (c * M + t) / M = c ∧ (c * M + t) % M = t := by
  constructor
  · rw [Nat.add_comm, Nat.add_mul_div_right _ _ (by omega), Nat.div_eq_of_lt ht, Nat.zero_add]
  · rw [Nat.add_comm, Nat.add_mul_mod_self_right, Nat.mod_eq_of_lt ht]
/-- depth first is number by number -/
theorem df_eq (h1 : 1 ≤ nC L) : ∀ j, j ≤ nQ L → ∀ he tu la rw R, dfR L p j he tu la rw R = foldN (fun t R => if ftB L p j he tu la (puR L p j rw t) = true then vsR L p (puR L p j rw t) R else R) (Mj L p j) R
  | 0, _, he, tu, la, rw, R => by
    show vsR L p rw R = (if true = true then vsR L p rw R else R)
    rw [if_pos rfl]
  | j + 1, hj, he, tu, la, rw, R => by
    have ih := df_eq h1 j (by omega)
    have hM := Mj_pos (p := p) h1 j
    generalize hk : nQ L - (j + 1) = k at *
    by_cases z : cpe L k = p
    · rw [show dfR L p (j + 1) he tu la rw R = foldN (fun c R => if gdB L p he tu la k c = true then dfR L p j c (tu + 1) (cho L k) (upN rw k c) R else R) (nC L) R from by rw [df_s, hk, if_pos z], show Mj L p (j + 1) = nC L * Mj L p j from by rw [Mj_s, hk, if_pos z], foldN_mul hM]
      apply foldN_cg
      intro c a hc
      have e1 : ∀ t, t < Mj L p j → puR L p (j + 1) rw (c * Mj L p j + t) = puR L p j (upN rw k c) t := by
        intro t ht
        show (if cpe L (nQ L - (j + 1)) = p then _ else _) = _
        rw [hk, if_pos z, (pu_d ht).1, (pu_d ht).2]
      have e2 : ∀ t, puR L p j (upN rw k c) t k = c := by
        intro t
        rw [pu_lo j _ _ k (by omega)]
        unfold upN
        rw [if_pos rfl]
      have e3 : ∀ t, ftB L p (j + 1) he tu la (puR L p j (upN rw k c) t) = (gdB L p he tu la k c && ftB L p j c (tu + 1) (cho L k) (puR L p j (upN rw k c) t)) := by
        intro t
        rw [show ftB L p (j + 1) he tu la (puR L p j (upN rw k c) t) = if cpe L (nQ L - (j + 1)) = p then gdB L p he tu la (nQ L - (j + 1)) (puR L p j (upN rw k c) t (nQ L - (j + 1))) && ftB L p j (puR L p j (upN rw k c) t (nQ L - (j + 1))) (tu + 1) (cho L (nQ L - (j + 1))) (puR L p j (upN rw k c) t) else ftB L p j he tu la (puR L p j (upN rw k c) t) from rfl, hk, if_pos z, e2]
      by_cases g : gdB L p he tu la k c = true
      · rw [if_pos g, ih]
        apply foldN_cg
        intro t a ht
        rw [e1 t ht, e3, g, Bool.true_and]
      · rw [if_neg g]
        have g : gdB L p he tu la k c = false := by simpa using g
        rw [foldN_cg (g := fun _ a => a) _ _ (fun t a ht => ?_), foldN_id]
        rw [e1 t ht, e3, g, Bool.false_and, if_neg (by decide)]
    · rw [show dfR L p (j + 1) he tu la rw R = dfR L p j he tu la rw R from by show (if cpe L (nQ L - (j + 1)) = p then _ else _) = _; rw [hk, if_neg z], show Mj L p (j + 1) = Mj L p j from by rw [Mj_s, hk, if_neg z], ih]
      apply foldN_cg
      intro t a ht
      rw [show puR L p (j + 1) rw t = puR L p j rw t from by show (if cpe L (nQ L - (j + 1)) = p then _ else _) = _; rw [hk, if_neg z], show ∀ r, ftB L p (j + 1) he tu la r = ftB L p j he tu la r from fun r => by show (if cpe L (nQ L - (j + 1)) = p then _ else _) = _; rw [hk, if_neg z]]
/-- the next row of the reference; the last places first -/
def nxR (L : LawD) (p : Nat) : Nat → (Nat → Nat) → Bool × (Nat → Nat)
  | 0, rw => (false, rw)
  | j + 1, rw => if (nxR L p j rw).1 = true then nxR L p j rw else if cpe L (nQ L - (j + 1)) = p then (if (nxR L p j rw).2 (nQ L - (j + 1)) + 1 < nC L then (true, upN (nxR L p j rw).2 (nQ L - (j + 1)) ((nxR L p j rw).2 (nQ L - (j + 1)) + 1)) else (false, upN (nxR L p j rw).2 (nQ L - (j + 1)) 0)) else (false, (nxR L p j rw).2)
theorem up_up {f : Nat → Nat} {k x y : Nat} : upN (upN f k x) k y = upN f k y := by
  funext q
  unfold upN
  split <;> rfl
theorem up_cm {f : Nat → Nat} {k k1 x y : Nat} (h : k ≠ k1) : upN (upN f k x) k1 y = upN (upN f k1 y) k x := by
  funext q
  unfold upN
  by_cases a : q = k
  · have b : ¬ q = k1 := by omega
    simp only [a, b, if_true, if_false, h]
  · simp only [a, if_false]
theorem pu_up : ∀ j rw t k x, k < nQ L - j → puR L p j (upN rw k x) t = upN (puR L p j rw t) k x
  | 0, rw, t, k, x, _ => rfl
  | j + 1, rw, t, k, x, hk => by
    show (if cpe L (nQ L - (j + 1)) = p then puR L p j (upN (upN rw k x) (nQ L - (j + 1)) (t / Mj L p j)) (t % Mj L p j) else puR L p j (upN rw k x) t) = upN (if cpe L (nQ L - (j + 1)) = p then puR L p j (upN rw (nQ L - (j + 1)) (t / Mj L p j)) (t % Mj L p j) else puR L p j rw t) k x
    by_cases z : cpe L (nQ L - (j + 1)) = p
    · rw [if_pos z, if_pos z, up_cm (by omega), pu_up j _ _ k x (by omega)]
    · rw [if_neg z, if_neg z, pu_up j _ _ k x (by omega)]
theorem nx_s {j : Nat} {rw : Nat → Nat} : nxR L p (j + 1) rw = if (nxR L p j rw).1 = true then nxR L p j rw else if cpe L (nQ L - (j + 1)) = p then (if (nxR L p j rw).2 (nQ L - (j + 1)) + 1 < nC L then (true, upN (nxR L p j rw).2 (nQ L - (j + 1)) ((nxR L p j rw).2 (nQ L - (j + 1)) + 1)) else (false, upN (nxR L p j rw).2 (nQ L - (j + 1)) 0)) else (false, (nxR L p j rw).2) := rfl
theorem nx_pu (h1 : 1 ≤ nC L) : ∀ j, j ≤ nQ L → ∀ rw t, t < Mj L p j → nxR L p j (puR L p j rw t) = if t + 1 < Mj L p j then (true, puR L p j rw (t + 1)) else (false, puR L p j rw 0)
  | 0, _, rw, t, ht => by
    have ht : t < 1 := ht
    obtain rfl : t = 0 := by omega
    have hn : ¬ 0 + 1 < Mj L p 0 := by show ¬ 0 + 1 < 1; omega
    rw [if_neg hn]
    rfl
  | j + 1, hj, rw, t, ht => by
    have hM := Mj_pos (p := p) h1 j
    have hk : nQ L - (j + 1) < nQ L - j := by omega
    rw [nx_s]
    by_cases z : cpe L (nQ L - (j + 1)) = p
    · have eM : Mj L p (j + 1) = nC L * Mj L p j := by rw [Mj_s, if_pos z]
      have ep : ∀ t, puR L p (j + 1) rw t = puR L p j (upN rw (nQ L - (j + 1)) (t / Mj L p j)) (t % Mj L p j) := fun t => by
        show (if cpe L (nQ L - (j + 1)) = p then _ else _) = _
        rw [if_pos z]
      rw [eM] at ht ⊢
      have hr := Nat.mod_lt t hM
      have hdm := Nat.div_add_mod t (Mj L p j)
      have hq : t / Mj L p j < nC L := Nat.div_lt_of_lt_mul (by rw [Nat.mul_comm]; exact ht)
      have ih := nx_pu h1 j (by omega) (upN rw (nQ L - (j + 1)) (t / Mj L p j)) (t % Mj L p j) hr
      rw [← ep t] at ih
      clear eM
      generalize hqq : t / Mj L p j = q at *
      generalize hrr : t % Mj L p j = r at *
      generalize hMM : Mj L p j = M at *
      have hcm : M * q = q * M := Nat.mul_comm _ _
      have hle : (q + 1) * M ≤ nC L * M := Nat.mul_le_mul_right M hq
      rw [Nat.succ_mul] at hle
      by_cases y : r + 1 < M
      · rw [if_pos y] at ih
        rw [ih, if_pos rfl, if_pos (by omega), ep (t + 1)]
        have e1 : t + 1 = q * M + (r + 1) := by omega
        rw [e1, (pu_d y).1, (pu_d y).2]
      · rw [if_neg y] at ih
        have e2 : (nxR L p j (puR L p (j + 1) rw t)).2 (nQ L - (j + 1)) = q := by
          rw [ih]
          show puR L p j (upN rw (nQ L - (j + 1)) q) 0 (nQ L - (j + 1)) = q
          rw [pu_lo j _ _ _ hk]
          unfold upN
          rw [if_pos rfl]
        have e3 : (nxR L p j (puR L p (j + 1) rw t)).1 = false := by rw [ih]
        rw [e3, if_neg (by decide), if_pos z, e2, ih]
        dsimp only
        rw [pu_up j _ _ _ _ hk]
        have e1 : t + 1 = (q + 1) * M + 0 := by rw [Nat.succ_mul]; omega
        by_cases w : q + 1 < nC L
        · have hle2 : (q + 1 + 1) * M ≤ nC L * M := Nat.mul_le_mul_right M w
          rw [Nat.succ_mul, Nat.succ_mul] at hle2
          rw [if_pos w, if_pos (by omega), up_up, ep (t + 1), e1, (pu_d hM).1, (pu_d hM).2, pu_up j _ _ _ _ hk]
        · have : nC L = q + 1 := by omega
          have hnn : nC L * M = q * M + M := by rw [this, Nat.succ_mul]
          rw [if_neg w, if_neg (by omega), up_up, ep 0, Nat.zero_div, Nat.zero_mod, pu_up j _ _ _ _ hk]
    · have eM : Mj L p (j + 1) = Mj L p j := by rw [Mj_s, if_neg z]
      have ep : ∀ t, puR L p (j + 1) rw t = puR L p j rw t := fun t => by
        show (if cpe L (nQ L - (j + 1)) = p then _ else _) = _
        rw [if_neg z]
      rw [eM] at ht ⊢
      rw [ep t, ep (t + 1), ep 0, nx_pu h1 j (by omega) _ _ ht]
      by_cases y : t + 1 < Mj L p j
      · rw [if_pos y, if_pos rfl]
      · rw [if_neg y, if_neg (by simp), if_neg z]
/-- what all rows keep -/
def RwOk (L : LawD) (p : Nat) (R : RwD) : Prop := (∀ k c, nC L ≤ c → R.2.1 k c = 0) ∧ (∀ k, k < nQ L → cpe L k = p → R.2.1 k 0 + R.2.1 k 1 + R.2.1 k 2 + R.2.1 k 3 + R.2.1 k 4 = R.1) ∧ (∀ k c, R.2.1 k c ≤ R.1) ∧ (0 < R.1 → ∀ k, R.2.2 k < nC L)
theorem vs_ok (h5 : nC L ≤ 5) {rw : Nat → Nat} {R : RwD} (hrw : ∀ k, rw k < nC L) (o : RwOk L p R) : RwOk L p (vsR L p rw R) := by
  obtain ⟨o1, o2, o3, o4⟩ := o
  refine ⟨fun k c hc => ?_, fun k hk hp => ?_, fun k c => ?_, fun _ k => ?_⟩
  · show (if k < nQ L ∧ cpe L k = p ∧ c = rw k then R.2.1 k c + 1 else R.2.1 k c) = 0
    have := hrw k
    rw [if_neg (fun q => by omega), o1 k c hc]
  · have hr := hrw k
    have := o2 k hk hp
    show (if k < nQ L ∧ cpe L k = p ∧ 0 = rw k then R.2.1 k 0 + 1 else R.2.1 k 0) + (if k < nQ L ∧ cpe L k = p ∧ 1 = rw k then R.2.1 k 1 + 1 else R.2.1 k 1) + (if k < nQ L ∧ cpe L k = p ∧ 2 = rw k then R.2.1 k 2 + 1 else R.2.1 k 2) + (if k < nQ L ∧ cpe L k = p ∧ 3 = rw k then R.2.1 k 3 + 1 else R.2.1 k 3) + (if k < nQ L ∧ cpe L k = p ∧ 4 = rw k then R.2.1 k 4 + 1 else R.2.1 k 4) = R.1 + 1
    have hx : rw k = 0 ∨ rw k = 1 ∨ rw k = 2 ∨ rw k = 3 ∨ rw k = 4 := by omega
    rcases hx with e | e | e | e | e <;> rw [e] <;> simp [hk, hp] <;> omega
  · show (if k < nQ L ∧ cpe L k = p ∧ c = rw k then R.2.1 k c + 1 else R.2.1 k c) ≤ R.1 + 1
    have := o3 k c
    split <;> omega
  · show (if R.1 = 0 then rw else R.2.2) k < nC L
    by_cases z : R.1 = 0
    · rw [if_pos z]; exact hrw k
    · rw [if_neg z]; exact o4 (by omega) k
theorem pu_lt (h1 : 1 ≤ nC L) : ∀ j rw t, (∀ k, rw k < nC L) → t < Mj L p j → ∀ k, puR L p j rw t k < nC L
  | 0, rw, t, h, _, k => h k
  | j + 1, rw, t, h, ht, k => by
    have hM := Mj_pos (p := p) h1 j
    unfold Mj at ht
    unfold puR
    by_cases z : cpe L (nQ L - (j + 1)) = p
    · rw [if_pos z] at ht ⊢
      refine pu_lt h1 j _ _ (fun q => ?_) (Nat.mod_lt _ hM) k
      unfold upN
      split
      · exact Nat.div_lt_of_lt_mul (by rw [Nat.mul_comm]; exact ht)
      · exact h q
    · rw [if_neg z] at ht ⊢
      exact pu_lt h1 j _ _ h ht k
def vtR (L : LawD) (p : Nat) (t : Nat) (R : RwD) : RwD := if ftB L p (nQ L) (frs L p) 0 (-2) (puR L p (nQ L) (fun _ => 0) t) = true then vsR L p (puR L p (nQ L) (fun _ => 0) t) R else R
theorem RS_eq (h1 : 1 ≤ nC L) : RS L p = foldN (vtR L p) (Mj L p (nQ L)) R0 := df_eq h1 (nQ L) (Nat.le_refl _) _ _ _ _ _
theorem vt_ok (h1 : 1 ≤ nC L) (h5 : nC L ≤ 5) : ∀ t, t ≤ Mj L p (nQ L) → RwOk L p (foldN (vtR L p) t R0) ∧ (foldN (vtR L p) t R0).1 ≤ t
  | 0, _ => ⟨⟨fun _ _ _ => rfl, fun _ _ _ => rfl, fun _ _ => Nat.le_refl _, fun h => absurd h (Nat.lt_irrefl 0)⟩, Nat.le_refl _⟩
  | t + 1, ht => by
    have ih := vt_ok h1 h5 t (by omega)
    show RwOk L p (vtR L p t (foldN (vtR L p) t R0)) ∧ (vtR L p t (foldN (vtR L p) t R0)).1 ≤ t + 1
    generalize foldN (vtR L p) t R0 = X at ih ⊢
    unfold vtR
    split
    · exact ⟨vs_ok h5 (pu_lt h1 _ _ _ (fun _ => by omega) (by omega)) ih.1, by show _ + 1 ≤ _; omega⟩
    · exact ⟨ih.1, by omega⟩
theorem RS_ok (h1 : 1 ≤ nC L) (h5 : nC L ≤ 5) (hq : nQ L ≤ 5) : RwOk L p (RS L p) ∧ (RS L p).1 ≤ 3125 := by
  have := vt_ok (p := p) h1 h5 (Mj L p (nQ L)) (Nat.le_refl _)
  have h2 := Mj_le (p := p) h5 (nQ L)
  have h3 : 5 ^ nQ L ≤ 5 ^ 5 := Nat.pow_le_pow_right (by omega) hq
  rw [RS_eq h1]
  exact ⟨this.1, by omega⟩
end Q1
