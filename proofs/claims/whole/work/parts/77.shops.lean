/-! inspectors -/
theorem bit_d : ∀ x, x < 64 → ∀ s, s < 6 → (((nI x >>> (nI s &&& 31)) &&& (1 : Int32)) = 1 ↔ x.testBit s = true) := by decide +kernel
def nbN (L : LawD) (s : Nat) : Nat := (nea L s).toNatClampNeg
def crN (L : LawD) (s : Nat) : Nat := (crd L s).toNatClampNeg
def rcN (L : LawD) (x : Nat) : Nat → Nat
  | 0 => x
  | s + 1 => if x.testBit s = true then rcN L x s ||| nbN L s else rcN L x s
def rcM (L : LawD) (x : Nat) : Nat → Nat
  | 0 => 0
  | s + 1 => if x.testBit s = true then rcM L x s ||| (nbN L s ||| 2 ^ s) else rcM L x s
def smN (L : LawD) (r : Nat) : Nat → Nat
  | 0 => 0
  | s + 1 => if r.testBit s = true then smN L r s + crN L s else smN L r s
def caN (L : LawD) (x : Nat) : Nat := smN L (rcN L x (nS L)) (nS L)
def bpA (L : LawD) (n : Nat) : Nat → Nat
  | 0 => 0
  | j + 1 => if pop6 (j + 1) ≤ n ∧ (caN L (bpA L n j) < caN L (j + 1) ∨ (caN L (j + 1) = caN L (bpA L n j) ∧ pop6 (j + 1) < pop6 (bpA L n j))) then j + 1 else bpA L n j
def bpN (L : LawD) (n : Nat) : Nat := bpA L n (2 ^ nS L - 1)
section J1
variable {L : LawD}
theorem rc_eq {x : Nat} : ∀ k, k ≤ nS L → ∀ i, (rcM L x k).testBit i = ((decide (i < k) && x.testBit i) || (rcM L x k).testBit i) ∧ (rcN L x k).testBit i = (x.testBit i || (rcM L x k).testBit i)
  | 0, _, i => by
    show (0 : Nat).testBit i = ((decide (i < 0) && x.testBit i) || (0 : Nat).testBit i) ∧ x.testBit i = (x.testBit i || (0 : Nat).testBit i)
    simp
  | k + 1, hk, i => by
    have ih := rc_eq (x := x) k (by omega) i
    unfold rcM rcN
    by_cases z : x.testBit k = true
    · rw [if_pos z, if_pos z, Nat.testBit_or, Nat.testBit_or, Nat.testBit_or, Nat.testBit_two_pow, ih.2]
      by_cases y : k = i
      · subst y
        simp [z]
      · have : decide (k = i) = false := by simp [y]
        rw [this]
        refine ⟨?_, ?_⟩
        · by_cases w : i < k
          · have h1 := ih.1
            have w2 : i < k + 1 := by omega
            simp only [w, w2, decide_true, Bool.true_and, Bool.or_false] at h1 ⊢
            rw [h1]
            cases x.testBit i <;> cases (rcM L x k).testBit i <;> cases (nbN L k).testBit i <;> rfl
          · have w2 : ¬ i < k + 1 := by omega
            simp [w2]
        · cases x.testBit i <;> cases (rcM L x k).testBit i <;> cases (nbN L k).testBit i <;> rfl
    · rw [if_neg z, if_neg z]
      refine ⟨?_, ih.2⟩
      by_cases y : k = i
      · subst y
        simp [z]
      · by_cases w : i < k
        · have h1 := ih.1
          have w2 : i < k + 1 := by omega
          simp only [w, w2, decide_true, Bool.true_and] at h1 ⊢
          exact h1
        · have w2 : ¬ i < k + 1 := by omega
          simp [w2]
theorem rc_same {x : Nat} (hx : x < 2 ^ nS L) : rcM L x (nS L) = rcN L x (nS L) := by
  apply Nat.eq_of_testBit_eq
  intro i
  obtain ⟨a, b⟩ := rc_eq (L := L) (x := x) (nS L) (Nat.le_refl _) i
  rw [b]
  by_cases w : i < nS L
  · simp only [w, decide_true, Bool.true_and] at a
    exact a
  · rw [Nat.testBit_lt_two_pow (Nat.lt_of_lt_of_le hx (Nat.pow_le_pow_right (by omega) (by omega)))]
    rfl
theorem pw64 (ok : LawOk L) : 2 ^ nS L ≤ 64 := Nat.le_trans (Nat.pow_le_pow_right (by omega) ok.2.2.2.2.2.1) (by decide)
theorem nb_ok (ok : LawOk L) (b : LawB L) {s : Nat} (hs : s < nS L) : nea L s = nI (nbN L s) ∧ nbN L s < 2 ^ nS L ∧ crd L s = nI (crN L s) ∧ crN L s ≤ 99 := by
  obtain ⟨⟨j, hj, e⟩, ⟨y, hy, e2⟩⟩ := b.2.2.2.1 s hs
  have := pw64 ok
  unfold nbN crN
  rw [e, nI_clamp (by omega), e2, nI_clamp (by omega)]
  exact ⟨rfl, hy, rfl, hj⟩
theorem rc_lt (ok : LawOk L) (b : LawB L) {x : Nat} (hx : x < 2 ^ nS L) : ∀ k, k ≤ nS L → rcN L x k < 2 ^ nS L ∧ rcM L x k < 2 ^ nS L
  | 0, _ => ⟨hx, Nat.two_pow_pos _⟩
  | k + 1, hk => by
    have ih := rc_lt ok b hx k (by omega)
    have nb := (nb_ok ok b (s := k) (by omega)).2.1
    unfold rcN rcM
    split
    · exact ⟨Nat.or_lt_two_pow ih.1 nb, Nat.or_lt_two_pow ih.2 (Nat.or_lt_two_pow nb (Nat.pow_lt_pow_right (by omega) (by omega)))⟩
    · exact ih
theorem sm_le (ok : LawOk L) (b : LawB L) {r : Nat} : ∀ k, k ≤ nS L → smN L r k ≤ 99 * k
  | 0, _ => by show 0 ≤ _; omega
  | k + 1, hk => by
    have ih := sm_le ok b (r := r) k (by omega)
    have := (nb_ok ok b (s := k) (by omega)).2.2.2
    unfold smN
    split <;> omega
theorem ca_lt (ok : LawOk L) (b : LawB L) {x : Nat} : caN L x < 1000 := by
  have := sm_le ok b (r := rcN L x (nS L)) (nS L) (Nat.le_refl _)
  have := ok.2.2.2.2.2.1
  unfold caN
  omega
theorem ca_0 : caN L 0 = 0 := by
  have h1 : ∀ k, rcN L 0 k = 0 := by
    intro k
    induction k with
    | zero => rfl
    | succ k ih => unfold rcN; rw [if_neg (by simp), ih]
  have h2 : ∀ k, smN L 0 k = 0 := by
    intro k
    induction k with
    | zero => rfl
    | succ k ih => unfold smN; rw [if_neg (by simp), ih]
  unfold caN
  rw [h1, h2]
theorem bp_le {n : Nat} : ∀ j, bpA L n j ≤ j
  | 0 => Nat.le_refl _
  | j + 1 => by
    unfold bpA
    split
    · exact Nat.le_refl _
    · have := bp_le (n := n) j; omega
/-- what is found is best -/
theorem bp_best {n : Nat} : ∀ j, pop6 (bpA L n j) ≤ n ∧ ∀ x, x ≤ j → pop6 x ≤ n → caN L x < caN L (bpA L n j) ∨ (caN L x = caN L (bpA L n j) ∧ pop6 (bpA L n j) ≤ pop6 x)
  | 0 => ⟨by show pop6 0 ≤ n; exact Nat.zero_le n, fun x hx _ => by
      obtain rfl : x = 0 := by omega
      exact Or.inr ⟨rfl, Nat.le_refl _⟩⟩
  | j + 1 => by
    obtain ⟨ih1, ih2⟩ := bp_best (n := n) j
    unfold bpA
    by_cases z : pop6 (j + 1) ≤ n ∧ (caN L (bpA L n j) < caN L (j + 1) ∨ (caN L (j + 1) = caN L (bpA L n j) ∧ pop6 (j + 1) < pop6 (bpA L n j)))
    · rw [if_pos z]
      refine ⟨z.1, fun x hx hp => ?_⟩
      by_cases y : x = j + 1
      · subst y; exact Or.inr ⟨rfl, Nat.le_refl _⟩
      · rcases ih2 x (by omega) hp with q | q <;> rcases z.2 with w | w <;> omega
    · rw [if_neg z]
      refine ⟨ih1, fun x hx hp => ?_⟩
      by_cases y : x = j + 1
      · subst y
        by_cases w : caN L (j + 1) < caN L (bpA L n j)
        · exact Or.inl w
        · right
          have w1 : ¬ caN L (bpA L n j) < caN L (j + 1) := fun q => z ⟨hp, Or.inl q⟩
          have w2 : caN L (j + 1) = caN L (bpA L n j) := by omega
          exact ⟨w2, Nat.not_lt.mp (fun q => z ⟨hp, Or.inr ⟨w2, q⟩⟩)⟩
      · exact ih2 x (by omega) hp
theorem tot_le {r : Nat} : ∀ k, (∀ s, s < k → r.testBit s = true) → ∀ x, smN L x k ≤ smN L r k
  | 0, _, x => Nat.le_refl _
  | k + 1, h, x => by
    have ih := tot_le k (fun s hs => h s (by omega)) x
    unfold smN
    rw [if_pos (h k (by omega))]
    split <;> omega
theorem all_bit {k : Nat} : ∀ s, s < k → (2 ^ k - 1).testBit s = true := by
  intro s hs
  rw [Nat.testBit_two_pow_sub_one]
  simpa using hs
theorem ca_all {x : Nat} : caN L x ≤ caN L (2 ^ nS L - 1) := by
  unfold caN
  apply tot_le
  intro s hs
  rw [((rc_eq (L := L) (x := 2 ^ nS L - 1) (nS L) (Nat.le_refl _) s).2), all_bit s hs]
  rfl
theorem pop_all : ∀ k, k ≤ 6 → pop6 (2 ^ k - 1) = k := by decide +kernel
/-- how many are enough -/
theorem en_lt (ok : LawOk L) {n : Nat} (hn : n < pop6 (bpN L (nS L))) : caN L (bpN L n) < caN L (2 ^ nS L - 1) := by
  have b1 := bp_best (L := L) (n := nS L) (2 ^ nS L - 1)
  have b2 := bp_best (L := L) (n := n) (2 ^ nS L - 1)
  have h6 := ok.2.2.2.2.2.1
  have hall := b1.2 (2 ^ nS L - 1) (Nat.le_refl _) (by rw [pop_all _ h6]; exact Nat.le_refl _)
  have hx := b1.2 (bpN L n) (bp_le _) (by have := b2.1; have := b1.1; unfold bpN at *; omega)
  have hm := ca_all (L := L) (x := bpN L (nS L))
  have hm2 := ca_all (L := L) (x := bpN L n)
  have := b2.1
  unfold bpN at *
  omega
theorem en_ge (ok : LawOk L) : caN L (2 ^ nS L - 1) ≤ caN L (bpN L (pop6 (bpN L (nS L)))) := by
  have b1 := bp_best (L := L) (n := nS L) (2 ^ nS L - 1)
  have h6 := ok.2.2.2.2.2.1
  have hall := b1.2 (2 ^ nS L - 1) (Nat.le_refl _) (by rw [pop_all _ h6]; exact Nat.le_refl _)
  have b2 := (bp_best (L := L) (n := pop6 (bpN L (nS L))) (2 ^ nS L - 1)).2 (bpN L (nS L)) (bp_le _) (Nat.le_refl _)
  unfold bpN at *
  omega
end J1
section J2
variable {h : PH} {sh m ml lw : Nat} {L : LawD}
/-- the class's shops -/
def ShV (h : PH) (sh : Nat) (L : LawD) : Prop := gI h 9 (some sh) 0 = some (nI (nS L)) ∧ (∃ a, gR h 9 (some sh) 2 = some (some a) ∧ Ar h a (nS L) (crd L)) ∧ (∃ a, gR h 9 (some sh) 3 = some (some a) ∧ Ar h a (nS L) (nea L))
theorem cls_caught (v : ShV h sh L) (ok : LawOk L) (b : LawB L) {x : Nat} (hx : x < 2 ^ nS L) : f_Shops_caughtFrom h (some sh) (nI x) = some (nI (caN L x)) := by
  obtain ⟨v0, ⟨a2, h2, A2⟩, ⟨a3, h3, A3⟩⟩ := v
  have h64 := pw64 ok
  have h6 := ok.2.2.2.2.2.1
  unfold f_Shops_caughtFrom
  rw [pj_for' (fun i => (nI (rcN L x i), nI i)) (nI (rcN L x (nS L))) (nS L) (by rw [nI_0]; rfl) (by omega) ?_ ?_]
  · rw [Option.bind_some, pj_for' (fun i => (nI (smN L (rcN L x (nS L)) i), nI i)) (nI (caN L x)) (nS L) (by rw [nI_0]; rfl) (by omega) ?_ ?_]
    · rfl
    · intro i hi
      have hr := (rc_lt ok b hx (nS L) (Nat.le_refl _)).1
      dsimp only
      rw [v0, Option.bind_some, if_neg (nI_nle' hi (by omega)), nI_s]
      show _ = some (Sum.inl (nI (if (rcN L x (nS L)).testBit i = true then smN L (rcN L x (nS L)) i + crN L i else smN L (rcN L x (nS L)) i), nI (i + 1)))
      by_cases z : (rcN L x (nS L)).testBit i = true
      · rw [if_neg (fun q => q ((bit_d _ (by omega) i (by omega)).mpr z)), if_pos z, h2, Option.bind_some, A2 i hi, Option.bind_some, (nb_ok ok b hi).2.2.1, nI_add]
      · rw [if_pos (fun q => z ((bit_d _ (by omega) i (by omega)).mp q)), if_neg z]
    · dsimp only
      rw [v0, Option.bind_some, if_pos (nI_le (Nat.le_refl _) (by omega))]
      rfl
  · intro i hi
    dsimp only
    rw [v0, Option.bind_some, if_neg (nI_nle' hi (by omega)), nI_s]
    show _ = some (Sum.inl (nI (if x.testBit i = true then rcN L x i ||| nbN L i else rcN L x i), nI (i + 1)))
    by_cases z : x.testBit i = true
    · rw [if_neg (fun q => q ((bit_d _ (by omega) i (by omega)).mpr z)), if_pos z, h3, Option.bind_some, A3 i hi, Option.bind_some, (nb_ok ok b hi).1, nI_or]
    · rw [if_pos (fun q => z ((bit_d _ (by omega) i (by omega)).mp q)), if_neg z]
  · dsimp only
    rw [v0, Option.bind_some, if_pos (nI_le (Nat.le_refl _) (by omega))]
theorem mod_caught (m1 : gR h 12 (some m) 3 = some (some ml)) (hL : MLawV h ml L) (ok : LawOk L) (b : LawB L) {x : Nat} (hx : x < 2 ^ nS L) : f_M_caughtBy h (some m) (nI x) = some (nI (caN L x)) := by
  obtain ⟨⟨-, -, -, -, -, -, -, v0, -⟩, -, -, -, -, -, -, ⟨⟨a2, h2, A2⟩, ⟨a3, h3, A3⟩⟩⟩ := hL
  have h64 := pw64 ok
  have h6 := ok.2.2.2.2.2.1
  unfold f_M_caughtBy
  rw [pj_for' (fun i => (nI (rcM L x i), nI i)) (nI (rcM L x (nS L))) (nS L) (by rw [nI_0]; rfl) (by omega) ?_ ?_]
  · rw [Option.bind_some, rc_same hx, pj_for' (fun i => (nI (smN L (rcN L x (nS L)) i), nI i)) (nI (caN L x)) (nS L) (by rw [nI_0]; rfl) (by omega) ?_ ?_]
    · rfl
    · intro i hi
      have hr := (rc_lt ok b hx (nS L) (Nat.le_refl _)).1
      dsimp only
      rw [m1, Option.bind_some, v0, Option.bind_some, if_neg (nI_nle' hi (by omega)), mod_bit, Option.bind_some, nI_s]
      show _ = some (Sum.inl (nI (if (rcN L x (nS L)).testBit i = true then smN L (rcN L x (nS L)) i + crN L i else smN L (rcN L x (nS L)) i), nI (i + 1)))
      by_cases z : (rcN L x (nS L)).testBit i = true
      · rw [if_pos ((bit_d _ (by omega) i (by omega)).mpr z), if_neg (by decide), if_pos z, Option.bind_some, h2, Option.bind_some, A2 i hi, Option.bind_some, Option.bind_some, (nb_ok ok b hi).2.2.1, nI_add]
      · rw [if_neg (fun q => z ((bit_d _ (by omega) i (by omega)).mp q)), if_pos rfl, if_neg z, Option.bind_some, Int32.add_zero]
    · dsimp only
      rw [m1, Option.bind_some, v0, Option.bind_some, if_pos (nI_le (Nat.le_refl _) (by omega))]
      rfl
  · intro i hi
    have A3i : aI h (some a3) (nI i) = some (nea L i ||| ((1 : Int32) <<< (nI i &&& 31))) := A3 i hi
    dsimp only
    rw [m1, Option.bind_some, v0, Option.bind_some, if_neg (nI_nle' hi (by omega)), mod_bit, Option.bind_some, nI_s]
    show _ = some (Sum.inl (nI (if x.testBit i = true then rcM L x i ||| (nbN L i ||| 2 ^ i) else rcM L x i), nI (i + 1)))
    by_cases z : x.testBit i = true
    · rw [if_pos ((bit_d _ (by omega) i (by omega)).mpr z), if_neg (by decide), if_pos z, Option.bind_some, h3, Option.bind_some, A3i, Option.bind_some, (nb_ok ok b hi).1, sh1 i (by omega), nI_or, nI_or]
    · rw [if_neg (fun q => z ((bit_d _ (by omega) i (by omega)).mp q)), if_pos rfl, if_neg z]
  · dsimp only
    rw [m1, Option.bind_some, v0, Option.bind_some, if_pos (nI_le (Nat.le_refl _) (by omega))]
theorem bp_if {n j : Nat} {X : Type} {f : Nat → X} : (if n < pop6 (j + 1) then f (bpA L n j) else if caN L (bpA L n j) < caN L (j + 1) then f (j + 1) else if ¬ caN L (j + 1) = caN L (bpA L n j) then f (bpA L n j) else if pop6 (bpA L n j) ≤ pop6 (j + 1) then f (bpA L n j) else f (j + 1)) = f (bpA L n (j + 1)) := by
  rw [show bpA L n (j + 1) = if pop6 (j + 1) ≤ n ∧ (caN L (bpA L n j) < caN L (j + 1) ∨ (caN L (j + 1) = caN L (bpA L n j) ∧ pop6 (j + 1) < pop6 (bpA L n j))) then j + 1 else bpA L n j from rfl]
  by_cases a : n < pop6 (j + 1)
  · rw [if_pos a, if_neg (fun q => absurd q.1 (by omega))]
  · rw [if_neg a]
    by_cases c : caN L (bpA L n j) < caN L (j + 1)
    · rw [if_pos c, if_pos ⟨by omega, Or.inl c⟩]
    · rw [if_neg c]
      by_cases d : caN L (j + 1) = caN L (bpA L n j)
      · rw [if_neg (fun q => q d)]
        by_cases e : pop6 (bpA L n j) ≤ pop6 (j + 1)
        · rw [if_pos e, if_neg (fun q => by omega)]
        · rw [if_neg e, if_pos ⟨by omega, Or.inr ⟨d, by omega⟩⟩]
      · rw [if_pos d, if_neg (fun q => by omega)]
theorem bp_ifM {n j : Nat} {X : Type} {f : Nat → X} : (if n < pop6 (j + 1) then f (bpA L n j) else if caN L (bpA L n j) ≤ caN L (j + 1) then (if caN L (bpA L n j) < caN L (j + 1) then f (j + 1) else if pop6 (bpA L n j) ≤ pop6 (j + 1) then f (bpA L n j) else f (j + 1)) else f (bpA L n j)) = f (bpA L n (j + 1)) := by
  rw [← bp_if (f := f)]
  by_cases a : n < pop6 (j + 1)
  · rw [if_pos a, if_pos a]
  · rw [if_neg a, if_neg a]
    by_cases c : caN L (bpA L n j) < caN L (j + 1)
    · rw [if_pos (by omega), if_pos c, if_pos c]
    · rw [if_neg c, if_neg c]
      by_cases d : caN L (j + 1) = caN L (bpA L n j)
      · rw [if_pos (by omega), if_neg (show ¬ ¬ caN L (j + 1) = caN L (bpA L n j) from fun q => q d)]
      · rw [if_neg (by omega), if_pos d]
theorem sh_k {k : Nat} (hk : k ≤ 6) : (1 : Int32) <<< (nI k &&& 31) = nI (2 ^ k) := sh1 k (by omega)
theorem cls_bestP (v : ShV h sh L) (ok : LawOk L) (b : LawB L) (hcl : ∀ {X : Type} (o : Option X), cl h 9 (some sh) o = o) {n : Nat} (hn : n ≤ 6) : f_Shops_bestPlaces h (some sh) (nI n) = some (nI (bpN L n)) := by
  have h64 := pw64 ok
  have h6 := ok.2.2.2.2.2.1
  have hp : 0 < 2 ^ nS L := Nat.two_pow_pos _
  unfold f_Shops_bestPlaces
  rw [pj_for' (fun i => (nI (bpA L n i), nI (caN L (bpA L n i)), nI (i + 1))) (nI (bpN L n)) (2 ^ nS L - 1) (by show _ = (nI 0, nI (caN L 0), nI 1); rw [ca_0]; rfl) (by omega) ?_ ?_]
  · rfl
  · intro i hi
    have hb := bp_le (L := L) (n := n) i
    have c1 := ca_lt ok b (x := bpA L n i)
    have c2 := ca_lt ok b (x := i + 1)
    have p1 := pop6_lt (n := i + 1)
    have p2 := pop6_lt (n := bpA L n i)
    dsimp only
    rw [v.1, Option.bind_some, sh_k h6, if_neg (nI_ge (show i + 1 < 2 ^ nS L by omega) (by omega)), bits_T (by omega), Option.bind_some, hcl, cls_caught v ok b (show i + 1 < 2 ^ nS L by omega), Option.bind_some, bits_T (by omega), Option.bind_some, nI_s]
    simp only [Option.bind_some, nI_ltI (show n < 2 ^ 31 by omega) (show pop6 (i + 1) < 2 ^ 31 by omega), nI_ltI (show caN L (bpA L n i) < 2 ^ 31 by omega) (show caN L (i + 1) < 2 ^ 31 by omega), nI_eq (show caN L (i + 1) < 2 ^ 31 by omega) (show caN L (bpA L n i) < 2 ^ 31 by omega), nI_leI (show pop6 (bpA L n i) < 2 ^ 31 by omega) (show pop6 (i + 1) < 2 ^ 31 by omega)]
    exact bp_if (f := fun q => some (Sum.inl (nI q, nI (caN L q), nI (i + 1 + 1))))
  · dsimp only
    rw [v.1, Option.bind_some, sh_k h6, if_pos (nI_le (by omega) (by omega))]
    rfl
theorem mod_bestP (m1 : gR h 12 (some m) 3 = some (some ml)) (hL : MLawV h ml L) (ok : LawOk L) (b : LawB L) (hcl : ∀ {X : Type} (o : Option X), cl h 12 (some m) o = o) {n : Nat} (hn : n ≤ 6) : f_M_bestPlaces h (some m) (nI n) = some (nI (bpN L n)) := by
  have h64 := pw64 ok
  have h6 := ok.2.2.2.2.2.1
  have hp : 0 < 2 ^ nS L := Nat.two_pow_pos _
  have v0 := hL.1.2.2.2.2.2.2.2.1
  unfold f_M_bestPlaces
  rw [pj_for' (fun i => (nI (bpA L n i), nI (i + 1))) (nI (bpN L n)) (2 ^ nS L - 1) (by rfl) (by omega) ?_ ?_]
  · rfl
  · intro i hi
    have hb := bp_le (L := L) (n := n) i
    have c1 := ca_lt ok b (x := bpA L n i)
    have c2 := ca_lt ok b (x := i + 1)
    have p1 := pop6_lt (n := i + 1)
    have p2 := pop6_lt (n := bpA L n i)
    dsimp only
    rw [m1, Option.bind_some, v0, Option.bind_some, sh_k h6, if_neg (nI_ge (show i + 1 < 2 ^ nS L by omega) (by omega)), bits_M (by omega), Option.bind_some, hcl, mod_caught m1 hL ok b (show i + 1 < 2 ^ nS L by omega), Option.bind_some, hcl, mod_caught m1 hL ok b (show bpA L n i < 2 ^ nS L by omega), Option.bind_some, Option.bind_some, Option.bind_some, Option.bind_some, bits_M (by omega), Option.bind_some, nI_s]
    simp only [Option.bind_some, nI_ltI (show n < 2 ^ 31 by omega) (show pop6 (i + 1) < 2 ^ 31 by omega), nI_ltI (show caN L (bpA L n i) < 2 ^ 31 by omega) (show caN L (i + 1) < 2 ^ 31 by omega), nI_leI (show caN L (bpA L n i) < 2 ^ 31 by omega) (show caN L (i + 1) < 2 ^ 31 by omega), nI_leI (show pop6 (bpA L n i) < 2 ^ 31 by omega) (show pop6 (i + 1) < 2 ^ 31 by omega)]
    exact bp_ifM (f := fun q => some (Sum.inl (nI q, nI (i + 1 + 1))))
  · dsimp only
    rw [m1, Option.bind_some, v0, Option.bind_some, sh_k h6, if_pos (nI_le (by omega) (by omega))]
    rfl
end J2
section J3
variable {c lw : Nat} {S : StD} {h : PH} {ml : Option Nat}
theorem CI.shv (e : CI h lw S) (ok : LawOk (sL S)) : ShV h (lw + 26) (sL S) ∧ gR h 10 (some 100) 2 = some (some lw) ∧ gR h 1 (some lw) 12 = some (some (lw + 26)) ∧ ∀ {X : Type} (o : Option X), Jvm.Pilot.CWaverTaxLaw_law_r8537_6f3a17.cl h 9 (some (lw + 26)) o = o := by
  obtain ⟨s0, s1, s2⟩ := e.2.2.2.1.2.2.2.2.2.2.2.2.2.2
  have k5 := ok.2.2.2.2.2.1
  exact ⟨⟨gI_o s0 rfl, ⟨_, gR_o s0 rfl, s1.ar k5 (by decide)⟩, ⟨_, gR_o s0 rfl, s2.ar k5 (by decide)⟩⟩, gR_o e.2.1 rfl, gR_o e.2.2.2.1.1 rfl, fun o => cl_o s0 o⟩
theorem ins_M (e : Mst h ml S) (a : Int32) : cl h 12 (some 285) (f_M_refusesInspectors h (some 285) a) = some (bdS S a 0 6) := by
  rw [e.cl]
  unfold f_M_refusesInspectors bdS f_M_in
  rw [e.lwR, Option.bind_some]
  cases lf : sLf S with
  | false => rw [if_pos (e.no lf), if_pos rfl]
  | true =>
    obtain ⟨i, m1, -⟩ := e.ye lf
    rw [if_neg (by rw [m1]; simp), if_neg (show ¬ (true = false) by decide)]
    by_cases z : a < 0
    · rw [if_pos z, if_pos (Or.inl z)]; rfl
    · rw [if_neg z]
      by_cases y : 6 < a
      · rw [if_pos y, if_pos (Or.inr y)]; rfl
      · rw [if_neg y, if_neg (fun q => q.elim z y)]; rfl
theorem bd_c (S : StD) (a : Int32) (n : Nat) (hn : n < 1000) : (bdS S a 0 (nI n) = 0 ∧ sLf S = true ∧ ∃ j, j ≤ n ∧ a = nI j) ∨ ((bdS S a 0 (nI n) = 1 ∨ bdS S a 0 (nI n) = 2) ∧ ¬ bdS S a 0 (nI n) = 0) := by
  unfold bdS
  by_cases lf : sLf S = false
  · rw [if_pos lf]; right; exact ⟨Or.inl rfl, by decide⟩
  · rw [if_neg lf]
    rcases rng_c a n hn with ⟨j, hj, rfl⟩ | q
    · rw [if_neg (by rintro (q | q); exact nI_pos (by omega) q; exact nI_nlt hj (by omega) q)]
      exact Or.inl ⟨rfl, by cases q : sLf S; exact absurd q lf; rfl, j, hj, rfl⟩
    · rw [if_pos q]; right; exact ⟨Or.inr rfl, by decide⟩
theorem op_caught (o : SOk c S) (hc : c < 600) (a : Int32) : Op (fun h => f_T_caught h (some 100) a) (fun h => f_M_caught h (some 285) a) c S := by
  rcases bd_c S a 6 (by omega) with ⟨z, lf, n, hn, rfl⟩ | ⟨hv, z⟩
  · have ok := o.ok lf
    have lb := (o.2.1 lf).2.1
    have hbl : bpN (sL S) n < 2 ^ nS (sL S) := by have := bp_le (L := sL S) (n := n) (2 ^ nS (sL S) - 1); have := Nat.two_pow_pos (nS (sL S)); unfold bpN; omega
    refine ⟨nI (caN (sL S) (bpN (sL S) n)), trS S 0, fun h lw e => ?_, fun h ml e => ?_, o.tr _ (by omega) (by omega)⟩
    · obtain ⟨v, g1, g2, g3⟩ := e.shv ok
      obtain ⟨h2, lw2, r1, r2, r3⟩ := e.fn (nI (caN (sL S) (bpN (sL S) n)))
      refine ⟨h2, lw2, ?_, r2, r3⟩
      show f_T_caught h (some 100) (nI n) = _
      unfold f_T_caught
      rw [e.bd, show bdS S (nI n) 0 6 = 0 from z, Option.bind_some, if_pos rfl, g1, Option.bind_some, g2, Option.bind_some, Option.bind_some, g2, Option.bind_some, g3, cls_bestP v ok lb g3 hn, Option.bind_some, g3, cls_caught v ok lb hbl, Option.bind_some]
      exact r1
    · obtain ⟨h1, s1, s2, s3⟩ := e.st
      obtain ⟨i, m1, m2, m3⟩ := s2.ye lf
      obtain ⟨h2, ml2, r1, r2, r3⟩ := s2.gd (nI (caN (sL S) (bpN (sL S) n)))
      refine ⟨h2, ml2, ?_, r2, s3.tr r3⟩
      have q1 : gR h1 12 (some 285) 3 = some (some i) := by rw [s2.lwR, m1]
      show f_M_caught h (some 285) (nI n) = _
      unfold f_M_caught
      rw [s1, Option.bind_some, ins_M s2, show bdS S (nI n) 0 6 = 0 from z, Option.bind_some, if_pos (by decide), s2.cl, mod_bestP q1 (m3.v ok) ok lb (fun o => s2.cl o) hn, Option.bind_some, s2.cl, mod_caught q1 (m3.v ok) ok lb hbl, Option.bind_some]
      exact r1
  · have z : ¬ bdS S a 0 6 = 0 := z
    refine ⟨-1, trS S (bdS S a 0 6), fun h lw e => ?_, fun h ml e => ?_, o.tr _ (by omega) (by omega)⟩
    · obtain ⟨h1, lw1, r1, r2, r3⟩ := e.rf (bdS S a 0 6)
      refine ⟨h1, lw1, ?_, r2, r3⟩
      show f_T_caught h (some 100) a = _
      unfold f_T_caught
      rw [e.bd, Option.bind_some, if_neg z]
      exact r1
    · obtain ⟨h1, s1, s2, s3⟩ := e.st
      have hv : bdS S a 0 6 = 1 ∨ bdS S a 0 6 = 2 := hv
      obtain ⟨h2, ml2, r1, r2, r3⟩ := s2.rf (bdS S a 0 6) (by rcases hv with q | q <;> rw [q] <;> decide)
      refine ⟨h2, ml2, ?_, r2, s3.tr r3⟩
      show f_M_caught h (some 285) a = _
      unfold f_M_caught
      rw [s1, Option.bind_some, ins_M s2, Option.bind_some, if_neg (by rcases hv with q | q <;> rw [q] <;> decide)]
      exact r1
theorem op_places (o : SOk c S) (hc : c < 600) (a : Int32) : Op (fun h => f_T_places h (some 100) a) (fun h => f_M_places h (some 285) a) c S := by
  rcases bd_c S a 6 (by omega) with ⟨z, lf, n, hn, rfl⟩ | ⟨hv, z⟩
  · have ok := o.ok lf
    have lb := (o.2.1 lf).2.1
    have hbl : bpN (sL S) n < 2 ^ nS (sL S) := by have := bp_le (L := sL S) (n := n) (2 ^ nS (sL S) - 1); have := Nat.two_pow_pos (nS (sL S)); unfold bpN; omega
    refine ⟨nI (bpN (sL S) n), trS S 0, fun h lw e => ?_, fun h ml e => ?_, o.tr _ (by omega) (by omega)⟩
    · obtain ⟨v, g1, g2, g3⟩ := e.shv ok
      obtain ⟨h2, lw2, r1, r2, r3⟩ := e.fn (nI (bpN (sL S) n))
      refine ⟨h2, lw2, ?_, r2, r3⟩
      show f_T_places h (some 100) (nI n) = _
      unfold f_T_places
      rw [e.bd, show bdS S (nI n) 0 6 = 0 from z, Option.bind_some, if_neg (fun q => q rfl), g1, Option.bind_some, g2, Option.bind_some, g3, cls_bestP v ok lb g3 hn, Option.bind_some]
      exact r1
    · obtain ⟨h1, s1, s2, s3⟩ := e.st
      obtain ⟨i, m1, m2, m3⟩ := s2.ye lf
      obtain ⟨h2, ml2, r1, r2, r3⟩ := s2.gd (nI (bpN (sL S) n))
      refine ⟨h2, ml2, ?_, r2, s3.tr r3⟩
      have q1 : gR h1 12 (some 285) 3 = some (some i) := by rw [s2.lwR, m1]
      show f_M_places h (some 285) (nI n) = _
      unfold f_M_places
      rw [s1, Option.bind_some, ins_M s2, show bdS S (nI n) 0 6 = 0 from z, Option.bind_some, if_pos (by decide), s2.cl, mod_bestP q1 (m3.v ok) ok lb (fun o => s2.cl o) hn, Option.bind_some]
      exact r1
  · have z : ¬ bdS S a 0 6 = 0 := z
    refine ⟨-1, trS S (bdS S a 0 6), fun h lw e => ?_, fun h ml e => ?_, o.tr _ (by omega) (by omega)⟩
    · obtain ⟨h1, lw1, r1, r2, r3⟩ := e.rf (bdS S a 0 6)
      refine ⟨h1, lw1, ?_, r2, r3⟩
      show f_T_places h (some 100) a = _
      unfold f_T_places
      rw [e.bd, Option.bind_some, if_pos z]
      exact r1
    · obtain ⟨h1, s1, s2, s3⟩ := e.st
      have hv : bdS S a 0 6 = 1 ∨ bdS S a 0 6 = 2 := hv
      obtain ⟨h2, ml2, r1, r2, r3⟩ := s2.rf (bdS S a 0 6) (by rcases hv with q | q <;> rw [q] <;> decide)
      refine ⟨h2, ml2, ?_, r2, s3.tr r3⟩
      show f_M_places h (some 285) a = _
      unfold f_M_places
      rw [s1, Option.bind_some, ins_M s2, Option.bind_some, if_neg (by rcases hv with q | q <;> rw [q] <;> decide)]
      exact r1
theorem op_enough (o : SOk c S) (hc : c < 600) : Op (fun h => f_T_enough h (some 100)) (fun h => f_M_enough h (some 285)) c S := by
  cases lf : sLf S with
  | false =>
    refine ⟨-1, trS S 1, fun h lw e => ?_, fun h ml e => ?_, o.tr _ (by omega) (by omega)⟩
    · obtain ⟨h1, lw1, r1, r2, r3⟩ := e.rf 1
      refine ⟨h1, lw1, ?_, r2, r3⟩
      show f_T_enough h (some 100) = _
      unfold f_T_enough
      rw [e.lf, bI_f lf, Option.bind_some, if_pos rfl]
      exact r1
    · obtain ⟨h1, s1, s2, s3⟩ := e.st
      obtain ⟨h2, ml2, r1, r2, r3⟩ := s2.rf 1 (by decide)
      refine ⟨h2, ml2, ?_, r2, s3.tr r3⟩
      show f_M_enough h (some 285) = _
      unfold f_M_enough
      rw [s1, Option.bind_some, s2.lwR, Option.bind_some, if_pos (s2.no lf)]
      exact r1
  | true =>
    have ok := o.ok lf
    have lb := (o.2.1 lf).2.1
    have h6 := ok.2.2.2.2.2.1
    have h64 := pw64 ok
    have hbl : ∀ n, bpN (sL S) n < 2 ^ nS (sL S) := fun n => by have := bp_le (L := sL S) (n := n) (2 ^ nS (sL S) - 1); have := Nat.two_pow_pos (nS (sL S)); unfold bpN; omega
    have hp := pop6_lt (n := bpN (sL S) (nS (sL S)))
    refine ⟨nI (pop6 (bpN (sL S) (nS (sL S)))), trS S 0, fun h lw e => ?_, fun h ml e => ?_, o.tr _ (by omega) (by omega)⟩
    · obtain ⟨v, g1, g2, g3⟩ := e.shv ok
      obtain ⟨h2, lw2, r1, r2, r3⟩ := e.fn (nI (pop6 (bpN (sL S) (nS (sL S)))))
      refine ⟨h2, lw2, ?_, r2, r3⟩
      show f_T_enough h (some 100) = _
      unfold f_T_enough f_Shops_fewest
      have := hbl (nS (sL S))
      rw [e.lf, bI_t lf, Option.bind_some, if_neg (by decide), g1, Option.bind_some, g2, Option.bind_some, g3, v.1, Option.bind_some, g3, cls_bestP v ok lb g3 h6, Option.bind_some, bits_T (by omega), Option.bind_some, Option.bind_some]
      exact r1
    · obtain ⟨h1, s1, s2, s3⟩ := e.st
      obtain ⟨i, m1, m2, m3⟩ := s2.ye lf
      obtain ⟨h2, ml2, r1, r2, r3⟩ := s2.gd (nI (pop6 (bpN (sL S) (nS (sL S)))))
      refine ⟨h2, ml2, ?_, r2, s3.tr r3⟩
      have q1 : gR h1 12 (some 285) 3 = some (some i) := by rw [s2.lwR, m1]
      have v0 := (m3.v ok).1.2.2.2.2.2.2.2.1
      have pw : 0 < 2 ^ nS (sL S) := Nat.two_pow_pos _
      have k1 : ((1 : Int32) <<< (nI (nS (sL S)) &&& 31)) - (1 : Int32) = nI (2 ^ nS (sL S) - 1) := by
        rw [sh_k h6, show (1 : Int32) = nI 1 from rfl, pk_sub (by omega)]
      have ca := fun x (hx : x < 2 ^ nS (sL S)) => mod_caught (m := 285) q1 (m3.v ok) ok lb hx
      show f_M_enough h (some 285) = _
      unfold f_M_enough
      rw [s1, Option.bind_some, q1, Option.bind_some, if_neg (by simp)]
      rw [pj_for' (fun i => nI i) (nI (pop6 (bpN (sL S) (nS (sL S))))) (pop6 (bpN (sL S) (nS (sL S)))) (show (0 : Int32) = nI 0 from rfl) (by omega) ?_ ?_]
      · rw [Option.bind_some]; exact r1
      · intro j hj
        have c1 := ca_lt ok lb (x := bpN (sL S) j)
        have c2 := ca_lt ok lb (x := 2 ^ nS (sL S) - 1)
        rw [s2.cl, mod_bestP q1 (m3.v ok) ok lb (fun o => s2.cl o) (by omega), Option.bind_some, s2.cl, ca _ (hbl j), Option.bind_some, Option.bind_some, v0, Option.bind_some, k1, s2.cl, ca _ (by omega), Option.bind_some, if_neg (nI_ge (en_lt ok hj) (by omega)), nI_s]
      · have c1 := ca_lt ok lb (x := bpN (sL S) (pop6 (bpN (sL S) (nS (sL S)))))
        have c2 := ca_lt ok lb (x := 2 ^ nS (sL S) - 1)
        rw [s2.cl, mod_bestP q1 (m3.v ok) ok lb (fun o => s2.cl o) (by omega), Option.bind_some, s2.cl, ca _ (hbl _), Option.bind_some, Option.bind_some, v0, Option.bind_some, k1, s2.cl, ca _ (by omega), Option.bind_some, if_pos (nI_le (en_ge ok) (by omega))]
theorem op_catches (o : SOk c S) (hc : c < 600) (a : Int32) : Op (fun h => f_T_catches h (some 100) a) (fun h => f_M_catches h (some 285) a) c S := by
  cases lf : sLf S with
  | false =>
    refine ⟨-1, trS S 1, fun h lw e => ?_, fun h ml e => ?_, o.tr _ (by omega) (by omega)⟩
    · obtain ⟨h1, lw1, r1, r2, r3⟩ := e.rf 1
      refine ⟨h1, lw1, ?_, r2, r3⟩
      show f_T_catches h (some 100) a = _
      unfold f_T_catches
      by_cases z : a < 0
      · rw [if_pos z]; exact r1
      · rw [if_neg z, e.lf, bI_f lf, Option.bind_some, if_pos rfl]
        exact r1
    · obtain ⟨h1, s1, s2, s3⟩ := e.st
      obtain ⟨h2, ml2, r1, r2, r3⟩ := s2.rf 1 (by decide)
      refine ⟨h2, ml2, ?_, r2, s3.tr r3⟩
      show f_M_catches h (some 285) a = _
      unfold f_M_catches
      rw [s1, Option.bind_some, s2.lwR, Option.bind_some, if_pos (s2.no lf)]
      exact r1
  | true =>
    have ok := o.ok lf
    have lb := (o.2.1 lf).2.1
    have h6 := ok.2.2.2.2.2.1
    rcases arg_c a (nS (sL S)) (by omega) with ⟨k, hk, rfl⟩ | ha
    · have hx : 2 ^ k < 2 ^ nS (sL S) := Nat.pow_lt_pow_right (by omega) hk
      refine ⟨nI (caN (sL S) (2 ^ k)), trS S 0, fun h lw e => ?_, fun h ml e => ?_, o.tr _ (by omega) (by omega)⟩
      · obtain ⟨v, g1, g2, g3⟩ := e.shv ok
        obtain ⟨h2, lw2, r1, r2, r3⟩ := e.fn (nI (caN (sL S) (2 ^ k)))
        refine ⟨h2, lw2, ?_, r2, r3⟩
        show f_T_catches h (some 100) (nI k) = _
        unfold f_T_catches
        rw [if_neg (nI_pos (by omega)), e.lf, bI_t lf, Option.bind_some, if_neg (by decide), g1, Option.bind_some, g2, Option.bind_some, v.1, Option.bind_some, if_pos (nI_lt hk (by omega)), Option.bind_some, g2, Option.bind_some, g3, sh_k (by omega), cls_caught v ok lb hx, Option.bind_some]
        exact r1
      · obtain ⟨h1, s1, s2, s3⟩ := e.st
        obtain ⟨i, m1, m2, m3⟩ := s2.ye lf
        obtain ⟨h2, ml2, r1, r2, r3⟩ := s2.gd (nI (caN (sL S) (2 ^ k)))
        refine ⟨h2, ml2, ?_, r2, s3.tr r3⟩
        have q1 : gR h1 12 (some 285) 3 = some (some i) := by rw [s2.lwR, m1]
        show f_M_catches h (some 285) (nI k) = _
        unfold f_M_catches
        rw [s1, Option.bind_some, q1, Option.bind_some, if_neg (by simp), if_neg (nI_pos (by omega)), Option.bind_some, (m3.v ok).1.2.2.2.2.2.2.2.1, Option.bind_some, if_neg (nI_ge hk (by omega)), s2.cl, sh_k (by omega), mod_caught q1 (m3.v ok) ok lb hx, Option.bind_some]
        exact r1
    · refine ⟨-1, trS S 1, fun h lw e => ?_, fun h ml e => ?_, o.tr _ (by omega) (by omega)⟩
      · obtain ⟨v, g1, g2, g3⟩ := e.shv ok
        obtain ⟨h1, lw1, r1, r2, r3⟩ := e.rf 1
        refine ⟨h1, lw1, ?_, r2, r3⟩
        show f_T_catches h (some 100) a = _
        unfold f_T_catches
        by_cases z : a < 0
        · rw [if_pos z]; exact r1
        · rw [if_neg z, e.lf, bI_t lf, Option.bind_some, if_neg (by decide), g1, Option.bind_some, g2, Option.bind_some, v.1, Option.bind_some, if_neg (fun q => ha ⟨Int32.not_lt.mp z, q⟩)]
          exact r1
      · obtain ⟨h1, s1, s2, s3⟩ := e.st
        obtain ⟨i, m1, m2, m3⟩ := s2.ye lf
        obtain ⟨h3, ml3, r1, r2, r3⟩ := s2.rf 1 (by decide)
        refine ⟨h3, ml3, ?_, r2, s3.tr r3⟩
        show f_M_catches h (some 285) a = _
        unfold f_M_catches
        rw [s1, Option.bind_some, s2.lwR, Option.bind_some, if_neg (by rw [m1]; simp)]
        by_cases z : a < 0
        · rw [if_pos z]; exact r1
        · rw [if_neg z, m1, Option.bind_some, (m3.v ok).1.2.2.2.2.2.2.2.1, Option.bind_some, if_pos (Int32.not_lt.mp (fun q => ha ⟨Int32.not_lt.mp z, q⟩))]
          exact r1
end J3
