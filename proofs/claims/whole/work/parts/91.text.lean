/-! a text: runs, tokens, words as numbers -/
def isSp (x : Int32) : Bool := x == 32
def isLt (x : Int32) : Bool := decide (97 ≤ x) && decide (x ≤ 122)
def isDg (x : Int32) : Bool := decide (48 ≤ x) && decide (x ≤ 57)
def runA (P : Int32 → Bool) (tx : Nat → Int32) (n : Nat) : Nat → Nat → Nat
  | 0, k => k
  | f + 1, k => if k < n ∧ P (tx k) = true then runA P tx n f (k + 1) else k
def run (P : Int32 → Bool) (tx : Nat → Int32) (n k : Nat) : Nat := runA P tx n (n - k) k
section X1
variable {P : Int32 → Bool} {tx : Nat → Int32} {n : Nat}
theorem runA_p : ∀ f k, k + f = n → k ≤ runA P tx n f k ∧ runA P tx n f k ≤ n ∧ (∀ j, k ≤ j → j < runA P tx n f k → P (tx j) = true) ∧ (runA P tx n f k < n → ¬ P (tx (runA P tx n f k)) = true)
  | 0, k, h => ⟨Nat.le_refl _, by show k ≤ n; omega, fun j a b => by have b : j < k := b; omega, fun q => by have q : k < n := q; omega⟩
  | f + 1, k, h => by
    unfold runA
    by_cases z : k < n ∧ P (tx k) = true
    · rw [if_pos z]
      obtain ⟨a, b, c, d⟩ := runA_p f (k + 1) (by omega)
      refine ⟨by omega, b, fun j x y => ?_, d⟩
      by_cases w : j = k
      · rw [w]; exact z.2
      · exact c j (by omega) y
    · rw [if_neg z]
      exact ⟨Nat.le_refl _, by omega, fun j a b => by omega, fun q w => z ⟨q, w⟩⟩
theorem run_p {k : Nat} (hk : k ≤ n) : k ≤ run P tx n k ∧ run P tx n k ≤ n ∧ (∀ j, k ≤ j → j < run P tx n k → P (tx j) = true) ∧ (run P tx n k < n → ¬ P (tx (run P tx n k)) = true) := runA_p (n - k) k (by omega)
/-- where a run goes on -/
theorem run_i {k i : Nat} (hk : k ≤ i) (hi : i ≤ run P tx n k) (hn : k ≤ n) : (i < n ∧ P (tx i) = true) ↔ i < run P tx n k := by
  obtain ⟨a, b, c, d⟩ := run_p (P := P) (tx := tx) hn
  constructor
  · rintro ⟨q1, q2⟩
    apply Nat.lt_of_le_of_ne hi
    intro w
    rw [w] at q1 q2
    exact d q1 q2
  · intro q
    exact ⟨by omega, c i hk q⟩
end X1
/-- tokens: 0 the end, 1 a word, 2 a whole, 3 a semicolon, 4 none; start; end -/
def nxT (tx : Nat → Int32) (n pos : Nat) : Nat × Nat × Nat :=
  if n ≤ run isSp tx n pos then (0, run isSp tx n pos, run isSp tx n pos)
  else if isLt (tx (run isSp tx n pos)) = true then (if run isLt tx n (run isSp tx n pos) - run isSp tx n pos ≤ 8 then 1 else 4, run isSp tx n pos, run isLt tx n (run isSp tx n pos))
  else if isDg (tx (run isSp tx n pos)) = true then (if run isDg tx n (run isSp tx n pos) - run isSp tx n pos ≤ 3 then 2 else 4, run isSp tx n pos, run isDg tx n (run isSp tx n pos))
  else (if tx (run isSp tx n pos) = 59 then 3 else 4, run isSp tx n pos, run isSp tx n pos + 1)
/-- a letter as a number -/
def dgN (x : Int32) : Nat := x.toNatClampNeg - 96
def pkN (tx : Nat → Int32) (s : Nat) : Nat → Nat
  | 0 => 0
  | k + 1 => 32 * pkN tx s k + dgN (tx (s + k))
def dcN (tx : Nat → Int32) (s : Nat) : Nat → Nat
  | 0 => 0
  | k + 1 => 10 * dcN tx s k + ((tx (s + k)).toNatClampNeg - 48)
/-- the constants -/
def pkC (i : Nat) : Nat := pkN (fun j => sBy i j) 0 (sLn i)
theorem isLt_v {x : Int32} (h : isLt x = true) : ∃ k, 1 ≤ k ∧ k ≤ 26 ∧ x = nI (96 + k) ∧ dgN x = k := by
  unfold isLt at h
  rw [Bool.and_eq_true] at h
  obtain ⟨a, b⟩ := h
  have a : (97 : Int32) ≤ x := by simpa using a
  have b : x ≤ 122 := by simpa using b
  have h0 : ¬ x < 0 := Int32.not_lt.mpr (Int32.le_trans (by decide) a)
  obtain ⟨j, hj, rfl⟩ := nI_of h0
  have a1 : 97 ≤ j := by
    apply Nat.le_of_not_lt
    intro q
    exact absurd a (nI_ge (a := j) (b := 97) q (by omega))
  have b1 : j ≤ 122 := by
    apply Nat.le_of_not_lt
    intro q
    exact absurd b (nI_ge (a := 122) (b := j) q (by omega))
  refine ⟨j - 96, by omega, by omega, by congr 1; omega, ?_⟩
  unfold dgN
  rw [nI_clamp (by omega)]
theorem isDg_v {x : Int32} (h : isDg x = true) : ∃ k, k ≤ 9 ∧ x = nI (48 + k) ∧ x.toNatClampNeg - 48 = k := by
  unfold isDg at h
  rw [Bool.and_eq_true] at h
  obtain ⟨a, b⟩ := h
  have a : (48 : Int32) ≤ x := by simpa using a
  have b : x ≤ 57 := by simpa using b
  have h0 : ¬ x < 0 := Int32.not_lt.mpr (Int32.le_trans (by decide) a)
  obtain ⟨j, hj, rfl⟩ := nI_of h0
  have a1 : 48 ≤ j := by
    apply Nat.le_of_not_lt
    intro q
    exact absurd a (nI_ge (a := j) (b := 48) q (by omega))
  have b1 : j ≤ 57 := by
    apply Nat.le_of_not_lt
    intro q
    exact absurd b (nI_ge (a := 57) (b := j) q (by omega))
  refine ⟨j - 48, by omega, by congr 1; omega, ?_⟩
  rw [nI_clamp (by omega)]
/-- words are alike where their numbers are -/
theorem pkN_inj {t u : Nat → Int32} {s r : Nat} : ∀ a b, (∀ i, i < a → isLt (t (s + i)) = true) → (∀ i, i < b → isLt (u (r + i)) = true) → pkN t s a = pkN u r b → a = b ∧ ∀ i, i < a → t (s + i) = u (r + i)
  | 0, 0, _, _, _ => ⟨rfl, fun i hi => absurd hi (Nat.not_lt_zero i)⟩
  | 0, b + 1, _, hu, e => by
    obtain ⟨k, k1, k2, k3, k4⟩ := isLt_v (hu b (by omega))
    have e : 0 = 32 * pkN u r b + dgN (u (r + b)) := e
    omega
  | a + 1, 0, ht, _, e => by
    obtain ⟨k, k1, k2, k3, k4⟩ := isLt_v (ht a (by omega))
    have e : 32 * pkN t s a + dgN (t (s + a)) = 0 := e
    omega
  | a + 1, b + 1, ht, hu, e => by
    obtain ⟨k, k1, k2, k3, k4⟩ := isLt_v (ht a (by omega))
    obtain ⟨j, j1, j2, j3, j4⟩ := isLt_v (hu b (by omega))
    have e : 32 * pkN t s a + dgN (t (s + a)) = 32 * pkN u r b + dgN (u (r + b)) := e
    obtain ⟨x, y⟩ := pkN_inj a b (fun i hi => ht i (by omega)) (fun i hi => hu i (by omega)) (by omega)
    subst x
    refine ⟨rfl, fun i hi => ?_⟩
    by_cases w : i = a
    · rw [w, k3, j3, show k = j by omega]
    · exact y i (by omega)
theorem pkN_cg {t u : Nat → Int32} {s r : Nat} : ∀ a, (∀ i, i < a → t (s + i) = u (r + i)) → pkN t s a = pkN u r a
  | 0, _ => rfl
  | a + 1, h => by
    show 32 * pkN t s a + dgN (t (s + a)) = 32 * pkN u r a + dgN (u (r + a))
    rw [pkN_cg a (fun i hi => h i (by omega)), h a (by omega)]
theorem pkN_lt {t : Nat → Int32} {s : Nat} : ∀ a, (∀ i, i < a → isLt (t (s + i)) = true) → pkN t s a < 32 ^ a
  | 0, _ => by show 0 < 1; omega
  | a + 1, h => by
    have ih := pkN_lt a (fun i hi => h i (by omega))
    obtain ⟨k, k1, k2, k3, k4⟩ := isLt_v (h a (by omega))
    show 32 * pkN t s a + dgN (t (s + a)) < 32 ^ (a + 1)
    rw [Nat.pow_succ, k4]
    omega
theorem dc_lt {t : Nat → Int32} {s : Nat} : ∀ a, (∀ i, i < a → isDg (t (s + i)) = true) → dcN t s a < 10 ^ a
  | 0, _ => by show 0 < 1; omega
  | a + 1, h => by
    have ih := dc_lt a (fun i hi => h i (by omega))
    obtain ⟨k, k1, k2, k3⟩ := isDg_v (h a (by omega))
    show 10 * dcN t s a + ((t (s + a)).toNatClampNeg - 48) < 10 ^ (a + 1)
    rw [Nat.pow_succ, k3]
    omega
theorem sBy_lt : ∀ i, i < 23 → ∀ j, j < sLn i → isLt (sBy i j) = true := by decide +kernel
theorem sLn_8 : ∀ i, i < 23 → 1 ≤ sLn i ∧ sLn i ≤ 6 := by decide +kernel
theorem pkC_ne : ∀ i, i < 23 → ∀ j, j < 23 → pkC i = pkC j → i = j := by decide +kernel

section X2
variable {tx : Nat → Int32} {n pos : Nat}
theorem nxT_p (hp : pos ≤ n) : pos ≤ (nxT tx n pos).2.1 ∧ (nxT tx n pos).2.1 ≤ (nxT tx n pos).2.2 ∧ (nxT tx n pos).2.2 ≤ n ∧ (nxT tx n pos).1 ≤ 4 ∧ ((nxT tx n pos).1 = 0 → (nxT tx n pos).2.1 = n) ∧ (¬ (nxT tx n pos).1 = 0 → (nxT tx n pos).2.1 < (nxT tx n pos).2.2) ∧ ((nxT tx n pos).1 = 1 → (nxT tx n pos).2.2 - (nxT tx n pos).2.1 ≤ 8 ∧ ∀ i, i < (nxT tx n pos).2.2 - (nxT tx n pos).2.1 → isLt (tx ((nxT tx n pos).2.1 + i)) = true) ∧ ((nxT tx n pos).1 = 2 → (nxT tx n pos).2.2 - (nxT tx n pos).2.1 ≤ 3 ∧ ∀ i, i < (nxT tx n pos).2.2 - (nxT tx n pos).2.1 → isDg (tx ((nxT tx n pos).2.1 + i)) = true) := by
  obtain ⟨a, b, c, d⟩ := run_p (P := isSp) (tx := tx) hp
  unfold nxT
  generalize run isSp tx n pos = s at *
  by_cases z : n ≤ s
  · rw [if_pos z]
    dsimp only
    exact ⟨a, Nat.le_refl _, b, by omega, fun _ => by omega, fun q => absurd rfl q, fun q => by omega, fun q => by omega⟩
  · rw [if_neg z]
    by_cases y : isLt (tx s) = true
    · rw [if_pos y]
      dsimp only
      obtain ⟨a1, b1, c1, d1⟩ := run_p (P := isLt) (tx := tx) b
      have hs : s < run isLt tx n s := (run_i (Nat.le_refl s) a1 b).mp ⟨by omega, y⟩
      refine ⟨a, a1, b1, by split <;> omega, fun q => by split at q <;> omega, fun _ => hs, fun q => ?_, fun q => by split at q <;> omega⟩
      split at q
      · rename_i w
        exact ⟨w, fun i hi => c1 _ (by omega) (by omega)⟩
      · omega
    · rw [if_neg y]
      by_cases x : isDg (tx s) = true
      · rw [if_pos x]
        dsimp only
        obtain ⟨a1, b1, c1, d1⟩ := run_p (P := isDg) (tx := tx) b
        have hs : s < run isDg tx n s := (run_i (Nat.le_refl s) a1 b).mp ⟨by omega, x⟩
        refine ⟨a, a1, b1, by split <;> omega, fun q => by split at q <;> omega, fun _ => hs, fun q => by split at q <;> omega, fun q => ?_⟩
        split at q
        · rename_i w
          exact ⟨w, fun i hi => c1 _ (by omega) (by omega)⟩
        · omega
      · rw [if_neg x]
        dsimp only
        exact ⟨a, by omega, by omega, by split <;> omega, fun q => by split at q <;> omega, fun _ => by omega, fun q => by split at q <;> omega, fun q => by split at q <;> omega⟩
end X2
