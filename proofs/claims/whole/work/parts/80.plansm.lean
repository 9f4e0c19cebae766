/-! plans, as the reference lays them out -/
/-- two hours that one's plans can't tell apart -/
def EqT (p b : Nat) (T T1 : NowD) : Prop := hou T = hou T1 ∧ cme T = cme T1 ∧ hel T p = hel T1 p ∧ lat T p = lat T1 p ∧ ∃ t t1, t ≤ b ∧ t1 ≤ b ∧ tur T p = nI t ∧ tur T1 p = nI t1 ∧ (t = t1 ∨ (2 ≤ t ∧ 2 ≤ t1))
section M1
variable {L : LawD} {p b : Nat} {T T1 : NowD}
theorem eq_lef {tb th : Int32} {c : Nat} (q : EqT p b T T1) (hb : b < 100000) : lefS L T tb th p c = lefS L T1 tb th p c := by
  obtain ⟨q1, q2, q3, q4, t, t1, h1, h2, e1, e2, h3⟩ := q
  have ht : (nI t < 2) = (nI t1 < 2) := by
    rw [show (2 : Int32) = nI 2 from rfl, propext (nI_ltI (a := t) (b := 2) (by omega) (by omega)), propext (nI_ltI (a := t1) (b := 2) (by omega) (by omega))]
    apply propext
    omega
  unfold lefS taxN taxS agoS
  rw [q1, q2, q3, q4, e1, e2]
  simp only [ht]
theorem eq_st {c : Nat} (q : EqT p b T T1) : EqT p (b + 1) (stN T p c) (stN T1 p c) := by
  obtain ⟨q1, q2, q3, q4, t, t1, h1, h2, e1, e2, h3⟩ := q
  unfold stN
  rw [← q3]
  by_cases z : c = hel T p
  · rw [if_pos z, if_pos z]
    exact ⟨by rw [s0_h0, s0_h0, q1], by rw [s0_c0, s0_c0, q2], q3, by rw [s0_l, s0_l, q4], t, t1, by omega, by omega, by rw [s0_t]; exact e1, by rw [s0_t]; exact e2, h3⟩
  · rw [if_neg z, if_neg z]
    refine ⟨by rw [s0_h0, s0_h0, q1], ?_, ?_, ?_, t + 1, t1 + 1, by omega, by omega, ?_, ?_, by omega⟩
    · rw [s0_c0, s0_c0]; simpa [movN, cme] using q2
    · show (if p = p then c else hel T p) = (if p = p then c else hel T1 p)
      rw [if_pos rfl, if_pos rfl]
    · rw [s0_l, s0_l]; simpa [movN, lat, up1] using q1
    · rw [s0_t]; simp [movN, tur, up1]; show tur T p + 1 = _; rw [e1, nI_s]
    · rw [s0_t]; simp [movN, tur, up1]; show tur T1 p + 1 = _; rw [e2, nI_s]
theorem eq_c2 {x : Int32} (q : EqT p b T T1) : EqT p b (set0 T 2 x) (set0 T1 2 x) := by
  obtain ⟨q1, q2, q3, q4, t, t1, h1, h2, e1, e2, h3⟩ := q
  exact ⟨by rw [s0_h2, s0_h2, q1], by rw [s0_c2, s0_c2], q3, by rw [s0_l, s0_l, q4], t, t1, h1, h2, by rw [s0_t]; exact e1, by rw [s0_t]; exact e2, h3⟩
theorem eq_bs {g : NowD → Nat → Int64} (q : hel T p = hel T1 p) (w : ∀ c, g T c = g T1 c) : bsF L p g T = bsF L p g T1 := by
  unfold bsF
  rw [q, w]
  congr 1
  funext c a
  rw [w]
theorem eq_pl : ∀ (m b : Nat) (T T1 : NowD) (c : Nat), EqT p b T T1 → b + m < 100000 → plS L p m T c = plS L p m T1 c
  | 0, b, T, T1, c, q, hb => by
    show (lefS L T (-1) (third L) p c).toInt64 = _
    rw [eq_lef q (by omega)]
    rfl
  | m + 1, b, T, T1, c, q, hb => by
    show (lefS L T (-1) (third L) p c).toInt64 * pwI (btN L p (hou T) (nI (m + 2)) (nR L)) + chN L p (hou T + 1) (fun b => bsF L p (plS L p m) (set0 (stN T p c) 2 (nI b))) (nR L) (cme T).toNatClampNeg = (lefS L T1 (-1) (third L) p c).toInt64 * pwI (btN L p (hou T1) (nI (m + 2)) (nR L)) + chN L p (hou T1 + 1) (fun b => bsF L p (plS L p m) (set0 (stN T1 p c) 2 (nI b))) (nR L) (cme T1).toNatClampNeg
    rw [eq_lef q (by omega), q.1, q.2.1]
    congr 2
    funext b9
    have q2 := eq_c2 (x := nI b9) (eq_st (c := c) q)
    exact eq_bs q2.2.2.1 (fun c9 => eq_pl m (b + 1) _ _ c9 q2 (by omega))
end M1
/-! sums -/
def sm (t : Nat → Int64) (n : Nat) : Int64 := foldN (fun x a => a + t x) n 0
theorem sm_cg {t u : Nat → Int64} : ∀ n, (∀ x, x < n → t x = u x) → sm t n = sm u n
  | 0, _ => rfl
  | n + 1, h => by
    show sm t n + t n = sm u n + u n
    rw [sm_cg n (fun x hx => h x (by omega)), h n (by omega)]
theorem sm_ad {t u : Nat → Int64} : ∀ n, sm (fun x => t x + u x) n = sm t n + sm u n
  | 0 => by show (0 : Int64) = 0 + 0; rfl
  | n + 1 => by
    show sm (fun x => t x + u x) n + (t n + u n) = sm t n + t n + (sm u n + u n)
    rw [sm_ad n]
    generalize sm t n = a
    generalize sm u n = b
    generalize t n = c
    generalize u n = d
    grind
theorem sm_mu {k : Int64} {t : Nat → Int64} : ∀ n, sm (fun x => k * t x) n = k * sm t n
  | 0 => by show (0 : Int64) = k * 0; rw [Int64.mul_zero]
  | n + 1 => by
    show sm (fun x => k * t x) n + k * t n = k * (sm t n + t n)
    rw [sm_mu n, Int64.mul_add]
theorem sm_1 {c : Nat} {v : Int64} : ∀ n, sm (fun x => if x = c then v else 0) n = if c < n then v else 0
  | 0 => by show (0 : Int64) = _; rw [if_neg (by omega)]
  | n + 1 => by
    show sm (fun x => if x = c then v else 0) n + (if n = c then v else 0) = _
    rw [sm_1 n]
    by_cases z : n = c
    · subst z
      rw [if_neg (by omega), if_pos rfl, if_pos (by omega), Int64.zero_add]
    · rw [if_neg z, Int64.add_zero]
      by_cases w : c < n
      · rw [if_pos w, if_pos (by omega)]
      · rw [if_neg w, if_neg (by omega)]
/-- reasons of an hour, as bits -/
def raN (L : LawD) (p : Nat) (hr : Int32) (m : Nat) : Nat := foldN (fun r a => if rpe L r = p ∧ rho L r = hr then a ||| 2 ^ r else a) m 0
def wt (L : LawD) (s r x : Nat) : Int64 := if s.testBit r = true then (if x.testBit r = true then (rod L r).toInt64 else 100 - (rod L r).toInt64) else 1
def Wd (L : LawD) (s : Nat) : Nat → Nat → Int64
  | 0, _ => 1
  | j + 1, x => wt L s (nR L - (j + 1)) x * Wd L s j x
def Pn (L : LawD) (s x : Nat) : Nat → Int64
  | 0 => 1
  | m + 1 => if s.testBit m = true then Pn L s x m * wt L s m x else Pn L s x m
section M2
variable {L : LawD} {p : Nat} {hr : Int32}
theorem ra_s (m : Nat) : raN L p hr (m + 1) = if rpe L m = p ∧ rho L m = hr then raN L p hr m ||| 2 ^ m else raN L p hr m := rfl
theorem ra_lt : ∀ m, raN L p hr m < 2 ^ m
  | 0 => by show 0 < 1; omega
  | m + 1 => by
    have ih := ra_lt m
    rw [ra_s]
    split
    · exact Nat.or_lt_two_pow (by rw [Nat.pow_succ]; omega) (Nat.pow_lt_pow_right (by omega) (by omega))
    · rw [Nat.pow_succ]; omega
theorem ra_bit : ∀ m r, (raN L p hr m).testBit r = true ↔ r < m ∧ rpe L r = p ∧ rho L r = hr
  | 0, r => by
    show (0 : Nat).testBit r = true ↔ _
    simp
  | m + 1, r => by
    have ih := ra_bit m r
    rw [ra_s]
    by_cases z : rpe L m = p ∧ rho L m = hr
    · rw [if_pos z, Nat.testBit_or, Bool.or_eq_true, ih, Nat.testBit_two_pow]
      constructor
      · rintro (w | w)
        · exact ⟨by omega, w.2⟩
        · have : m = r := by simpa using w
          subst this
          exact ⟨by omega, z⟩
      · rintro ⟨w1, w2⟩
        by_cases y : m = r
        · right; simp [y]
        · left; exact ⟨by omega, w2⟩
    · rw [if_neg z, ih]
      constructor
      · rintro ⟨w1, w2⟩; exact ⟨by omega, w2⟩
      · rintro ⟨w1, w2⟩
        by_cases y : m = r
        · subst y; exact absurd w2 z
        · exact ⟨by omega, w2⟩
theorem sb_bit {s x : Nat} (h : x ||| s = s) {i : Nat} (hi : x.testBit i = true) : s.testBit i = true := by
  rw [← h, Nat.testBit_or, hi]; rfl
theorem Wd_Pn {s x : Nat} : ∀ r, r ≤ nR L → Pn L s x r * Wd L s (nR L - r) x = Wd L s (nR L) x
  | 0, _ => by show 1 * _ = _; rw [Int64.one_mul]; rfl
  | r + 1, hr => by
    have ih := Wd_Pn (s := s) (x := x) r (by omega)
    obtain ⟨j, hj⟩ : ∃ j, nR L - r = j + 1 := ⟨nR L - (r + 1), by omega⟩
    have hj2 : nR L - (r + 1) = j := by omega
    rw [hj] at ih
    rw [hj2, ← ih]
    show (if s.testBit r = true then Pn L s x r * wt L s r x else Pn L s x r) * Wd L s j x = Pn L s x r * (wt L s (nR L - (j + 1)) x * Wd L s j x)
    rw [show nR L - (j + 1) = r by omega]
    by_cases z : s.testBit r = true
    · rw [if_pos z, Int64.mul_assoc]
    · rw [if_neg z, show wt L s r x = 1 from if_neg z, Int64.one_mul]
/-- the mean, as a sum over what may come -/
theorem ch_sum {g : Nat → Int64} {b : Nat} (h4 : nR L ≤ 4) : ∀ j, j ≤ nR L → ∀ c, c < 2 ^ (nR L - j) → c ||| raN L p hr (nR L) = raN L p hr (nR L) → chN L p hr g j (b ||| c) = sm (fun x => if x % 2 ^ (nR L - j) = c ∧ x ||| raN L p hr (nR L) = raN L p hr (nR L) then Wd L (raN L p hr (nR L)) j x * g (b ||| x) else 0) 16
  | 0, _, c, hc, sc => by
    have hs := ra_lt (L := L) (p := p) (hr := hr) (nR L)
    have h16 : 2 ^ nR L ≤ 2 ^ 4 := Nat.pow_le_pow_right (by omega) h4
    rw [Nat.sub_zero] at hc ⊢
    rw [sm_cg (u := fun x => if x = c then g (b ||| c) else 0) 16, sm_1, if_pos (by omega)]
    · rfl
    · intro x hx
      by_cases z : x = c
      · subst z
        rw [if_pos rfl, if_pos ⟨Nat.mod_eq_of_lt hc, sc⟩]
        show 1 * _ = _
        rw [Int64.one_mul]
      · rw [if_neg z, if_neg]
        rintro ⟨w1, w2⟩
        have : x ≤ raN L p hr (nR L) := by rw [← w2]; exact Nat.left_le_or
        rw [Nat.mod_eq_of_lt (by omega)] at w1
        exact z w1
  | j + 1, hj, c, hc, sc => by
    have ih := ch_sum (g := g) (b := b) h4 j (by omega)
    have hs := ra_lt (L := L) (p := p) (hr := hr) (nR L)
    generalize hrr : nR L - (j + 1) = r at *
    have hr1 : nR L - j = r + 1 := by omega
    rw [hr1] at ih
    have bt := ra_bit (L := L) (p := p) (hr := hr) (nR L) r
    generalize hss : raN L p hr (nR L) = s at *
    have sp : 2 ^ (r + 1) = 2 ^ r + 2 ^ r := by rw [Nat.pow_succ]; omega
    have hmod : ∀ x : Nat, x % 2 ^ (r + 1) = x % 2 ^ r + 2 ^ r * (x.testBit r).toNat := fun x => by
      rw [Nat.mod_pow_succ, Nat.testBit_eq_decide_div_mod_eq]
      rcases Nat.mod_two_eq_zero_or_one (x / 2 ^ r) with q | q <;> simp [q]
    have hml : ∀ x : Nat, x % 2 ^ r < 2 ^ r := fun x => Nat.mod_lt _ (Nat.two_pow_pos _)
    have ew : ∀ x, Wd L s (j + 1) x = wt L s r x * Wd L s j x := fun x => by
      show wt L s (nR L - (j + 1)) x * Wd L s j x = _
      rw [hrr]
    have ec : chN L p hr g (j + 1) (b ||| c) = if rpe L r = p ∧ rho L r = hr then (rod L r).toInt64 * chN L p hr g j (b ||| c ||| 2 ^ r) + (100 - (rod L r).toInt64) * chN L p hr g j (b ||| c) else chN L p hr g j (b ||| c) := by
      show (if rpe L (nR L - (j + 1)) = p ∧ rho L (nR L - (j + 1)) = hr then _ else _) = _
      rw [hrr]
    rw [ec]
    by_cases z : rpe L r = p ∧ rho L r = hr
    · have sb : s.testBit r = true := bt.mpr ⟨by omega, z⟩
      have ce : c ||| 2 ^ r = c + 2 ^ r := by
        have := Nat.two_pow_add_eq_or_of_lt hc 1
        rw [Nat.mul_one] at this
        rw [Nat.or_comm, ← this, Nat.add_comm]
      have i1 := ih (c ||| 2 ^ r) (by rw [ce]; omega) (by
        apply Nat.eq_of_testBit_eq
        intro i
        rw [Nat.testBit_or, Nat.testBit_or, Nat.testBit_two_pow]
        by_cases y : r = i
        · subst y; simp [sb]
        · have := congrArg (fun q => q.testBit i) sc
          rw [Nat.testBit_or] at this
          simp [y, this])
      have i2 := ih c (by omega) sc
      rw [if_pos z, Nat.or_assoc, i1, i2, ← sm_mu, ← sm_mu, ← sm_ad]
      apply sm_cg
      intro x hx
      rw [ew]
      have hm := hmod x
      have hl := hml x
      by_cases y : x ||| s = s
      · by_cases w : x.testBit r = true
        · rw [w, Bool.toNat_true, Nat.mul_one] at hm
          have wv : wt L s r x = (rod L r).toInt64 := by unfold wt; rw [if_pos sb, if_pos w]
          rw [if_neg (show ¬ (x % 2 ^ (r + 1) = c ∧ x ||| s = s) from fun q => by omega), Int64.mul_zero, Int64.add_zero]
          by_cases u : x % 2 ^ r = c
          · rw [if_pos (show x % 2 ^ (r + 1) = c ||| 2 ^ r ∧ x ||| s = s from ⟨by rw [ce]; omega, y⟩), if_pos ⟨u, y⟩, wv, Int64.mul_assoc]
          · rw [if_neg (show ¬ (x % 2 ^ (r + 1) = c ||| 2 ^ r ∧ x ||| s = s) from fun q => by rw [ce] at q; omega), if_neg (fun q => u q.1), Int64.mul_zero]
        · have w : x.testBit r = false := by simpa using w
          rw [w, Bool.toNat_false, Nat.mul_zero, Nat.add_zero] at hm
          have wv : wt L s r x = 100 - (rod L r).toInt64 := by unfold wt; rw [if_pos sb, if_neg (by simp [w])]
          rw [if_neg (show ¬ (x % 2 ^ (r + 1) = c ||| 2 ^ r ∧ x ||| s = s) from fun q => by rw [ce] at q; omega), Int64.mul_zero, Int64.zero_add]
          by_cases u : x % 2 ^ r = c
          · rw [if_pos (show x % 2 ^ (r + 1) = c ∧ x ||| s = s from ⟨by omega, y⟩), if_pos ⟨u, y⟩, wv, Int64.mul_assoc]
          · rw [if_neg (show ¬ (x % 2 ^ (r + 1) = c ∧ x ||| s = s) from fun q => by omega), if_neg (fun q => u q.1), Int64.mul_zero]
      · rw [if_neg (fun q => y q.2), if_neg (fun q => y q.2), if_neg (fun q => y q.2), Int64.mul_zero, Int64.mul_zero, Int64.add_zero]
    · have sb : s.testBit r = false := by
        cases hq : s.testBit r with
        | false => rfl
        | true => exact absurd (bt.mp hq).2 z
      rw [if_neg z, ih c (by omega) sc]
      apply sm_cg
      intro x hx
      rw [ew, show wt L s r x = 1 from by unfold wt; rw [if_neg (by simp [sb])], Int64.one_mul]
      have hm := hmod x
      by_cases y : x ||| s = s
      · have w : x.testBit r = false := by
          cases hq : x.testBit r with
          | false => rfl
          | true => rw [sb_bit y hq] at sb; exact absurd sb (by decide)
        rw [w, Bool.toNat_false, Nat.mul_zero] at hm
        rw [hm, Nat.add_zero]
      · rw [if_neg (fun q => y q.2), if_neg (fun q => y q.2)]
theorem ch_all {g : Nat → Int64} {b : Nat} (h4 : nR L ≤ 4) : chN L p hr g (nR L) b = sm (fun x => if x ||| raN L p hr (nR L) = raN L p hr (nR L) then Pn L (raN L p hr (nR L)) x (nR L) * g (b ||| x) else 0) 16 := by
  have := ch_sum (L := L) (p := p) (hr := hr) (g := g) (b := b) h4 (nR L) (Nat.le_refl _) 0 (Nat.two_pow_pos _) (by simp)
  rw [Nat.or_zero] at this
  rw [this]
  apply sm_cg
  intro x hx
  have w := Wd_Pn (L := L) (s := raN L p hr (nR L)) (x := x) (nR L) (Nat.le_refl _)
  rw [Nat.sub_self, show Wd L (raN L p hr (nR L)) 0 x = 1 from rfl, Int64.mul_one] at w
  rw [← w, Nat.sub_self, show x % 2 ^ 0 = 0 from by rw [Nat.pow_zero, Nat.mod_one]]
  simp
end M2
