/-! the best table, the still one; two, their rests -/
theorem taxS_0 {L : LawD} {th : Int32} {p held c : Nat} {m ago : Int32} : taxS L 0 th p held c m ago = 0 := by
  unfold taxS
  simp
theorem raiS_0 {L : LawD} {N : NowD} {th : Int32} : raiS L N 0 th = 0 := by
  unfold raiS
  have : ∀ n, foldN (fun p a => a + taxN L N 0 th p (chS L N 0 th p)) n (0 : Int32) = 0 := by
    intro n
    induction n with
    | zero => rfl
    | succ n ih =>
      show foldN _ n 0 + taxN L N 0 th n (chS L N 0 th n) = 0
      rw [ih]
      unfold taxN
      rw [taxS_0]
      rfl
  exact this _
def btA (L : LawD) (N : NowD) : Nat → Int32 × Int32 × Int32
  | 0 => (0, raiS L N 0 (third L), harS L N 0 (third L))
  | k + 1 => if (btA L N k).2.1 < raiS L N (nI (k + 1)) (third L) ∨ (raiS L N (nI (k + 1)) (third L) = (btA L N k).2.1 ∧ harS L N (nI (k + 1)) (third L) < (btA L N k).2.2) then (nI (k + 1), raiS L N (nI (k + 1)) (third L), harS L N (nI (k + 1)) (third L)) else btA L N k
/-- what one of two has -/
def gtS (L : LawD) (N : NowD) (p : Nat) (x : Int32) (q : Nat) (y : Int32) : Int32 :=
  lefS L N (-1) (third L) p (if x = 0 then hel N p else hel N q) + (if (if x = 0 then hel N p else hel N q) = (if y = 0 then hel N q else hel N p) then 5 else 0)
section D12
variable {h : PH} {lw nw d m ml a : Nat} {L : LawD} {N : NowD} {p q : Nat}
theorem cls_bes (hD : DeskV h d lw nw (-1) (third L)) (hL : LawV h lw L) (ok : LawOk L) (hN : NowV h nw (nP L) N) (okN : NowOk L N) (hp : p < nP L) (hq : q < nP L) (x y : Int32) : f_Desk_besides h (some d) (nI p) x (nI q) y = some (gtS L N p x q y) := by
  have k1 := (okN p hp).1
  have k2 := (okN q hq).1
  have h5 := ok.2.1
  have hlf := fun c (hc : c < nC L) => cls_left (p := p) (c := c) hD hL ok hN okN hp hc
  obtain ⟨d1, d2, d3, d4⟩ := id hD
  obtain ⟨-, ⟨b3, hb3, hB3⟩, -⟩ := hN
  have f1 : aI h (some b3) (nI p) = some (nI (hel N p)) := hB3 p hp
  have f2 : aI h (some b3) (nI q) = some (nI (hel N q)) := hB3 q hq
  have e1 : (if x = 0 then some (nI (hel N p)) else some (nI (hel N q))) = some (nI (if x = 0 then hel N p else hel N q)) := by by_cases z : x = 0 <;> simp [z]
  have e2 : (if y = 0 then some (nI (hel N q)) else some (nI (hel N p))) = some (nI (if y = 0 then hel N q else hel N p)) := by by_cases z : y = 0 <;> simp [z]
  have hx : (if x = 0 then hel N p else hel N q) < nC L := by split <;> assumption
  have hy : (if y = 0 then hel N q else hel N p) < nC L := by split <;> assumption
  unfold f_Desk_besides gtS
  simp only [d2, hb3, f1, f2, Option.bind_some]
  rw [e1, Option.bind_some, e2, Option.bind_some, cl_gI d3, hlf _ hx, Option.bind_some]
  generalize (if x = 0 then hel N p else hel N q) = u at hx ⊢
  generalize (if y = 0 then hel N q else hel N p) = v at hy ⊢
  by_cases z : u = v
  · rw [if_neg (by rw [z]; exact fun q => q rfl), if_pos z]
  · rw [if_pos (fun q => z ((nI_eq (by omega) (by omega)).mp q)), if_neg z]
theorem mod_gets (hM : ModV h m ml (-1) (third L)) (hL : MLawV h ml L) (ok : LawOk L) (okN : NowOk L N) (hR : MRow h a (nP L) N) (hv : gR h 12 (some m) 15 = some (some a)) (hp : p < nP L) (hq : q < nP L) (x y : Int32) : f_M_gets h (some m) (nI p) x (nI q) y = some (gtS L N p x q y) := by
  have k1 := (okN p hp).1
  have k2 := (okN q hq).1
  have h5 := ok.2.1
  have htx := fun c (hc : c < nC L) => mod_taxIn (p := p) (c := c) hM hL ok hR hp k1 hc
  have hw := fun c (hc : c < nC L) => mod_worth (p := p) (c := c) hM hL ok (cme N) hp hc
  have f1 := (hR.1 p hp).1
  have f2 := (hR.1 q hq).1
  have e1 : (if x = 0 then some (nI (hel N p)) else some (nI (hel N q))) = some (nI (if x = 0 then hel N p else hel N q)) := by by_cases z : x = 0 <;> simp [z]
  have e2 : (if y = 0 then some (nI (hel N q)) else some (nI (hel N p))) = some (nI (if y = 0 then hel N q else hel N p)) := by by_cases z : y = 0 <;> simp [z]
  have hx : (if x = 0 then hel N p else hel N q) < nC L := by split <;> assumption
  have hy : (if y = 0 then hel N q else hel N p) < nC L := by split <;> assumption
  unfold f_M_gets gtS
  simp only [hv, nI_z, f1, f2, hR.2.1, Option.bind_some]
  rw [e1, Option.bind_some, e2, Option.bind_some, cl_gI hM.2.1, hw _ hx, Option.bind_some, cl_gI hM.2.1, htx _ hx, Option.bind_some]
  unfold lefS
  generalize (if x = 0 then hel N p else hel N q) = u at hx ⊢
  generalize (if y = 0 then hel N q else hel N p) = v at hy ⊢
  by_cases z : u = v
  · rw [if_neg (by rw [z]; exact fun q => q rfl), if_pos z]
  · rw [if_pos (fun q => z ((nI_eq (by omega) (by omega)).mp q)), if_neg z]
end D12
/-- a pair is a rest -/
def rsS (L : LawD) (N : NowD) (p q : Nat) (k : Nat) : Bool :=
  let x := nI (k / 2); let y := nI (k % 2); let x1 := nI (1 - k / 2); let y1 := nI (1 - k % 2)
  !(decide (gtS L N p x q y < gtS L N p x1 q y)) && !(decide (gtS L N q y p x < gtS L N q y1 p x))
section D13
variable {c lw : Nat} {S : StD} {h : PH} {ml : Option Nat}
theorem CI.tw (e : CI h lw S) {p q : Nat} (hp : p < nP (sL S)) (hq : q < nP (sL S)) (h5 : nP (sL S) ≤ 5) (hpq : p ≠ q) : Jvm.Pilot.CWaverTaxLaw_law_r8537_6f3a17.cl h 10 (some 100) (f_T_areTwo h (some 100) (nI p) (nI q)) = some 1 := by
  rw [e.cl]
  unfold f_T_areTwo
  rw [e.isP1 hp h5, Option.bind_some, if_neg (by decide), e.isP1 hq h5, Option.bind_some, if_neg (by decide), if_neg (fun x => hpq ((nI_eq (by omega) (by omega)).mp x))]
theorem Mst.tw (e : Mst h ml S) (lf : sLf S = true) {p q : Nat} (hp : p < nP (sL S)) (hq : q < nP (sL S)) (h5 : nP (sL S) ≤ 5) (hpq : p ≠ q) : Jvm.Pilot.CWaverTaxLaw_law_r8537_6f3a17.cl h 12 (some 285) (f_M_areTwo h (some 285) (nI p) (nI q)) = some 1 := by
  rw [e.cl]
  unfold f_M_areTwo
  rw [e.isP1 lf hp h5, Option.bind_some, if_neg (by decide), e.isP1 lf hq h5, Option.bind_some, if_neg (by decide), if_neg (fun x => hpq ((nI_eq (by omega) (by omega)).mp x))]
theorem two_c (o : SOk c S) (a b : Int32) : (∃ p q, p < nP (sL S) ∧ q < nP (sL S) ∧ p ≠ q ∧ a = nI p ∧ b = nI q) ∨ ((∀ h lw, CI h lw S → cl h 10 (some 100) (f_T_areTwo h (some 100) a b) = some 0) ∧ ∀ h ml, Mst h ml S → cl h 12 (some 285) (f_M_areTwo h (some 285) a b) = some 0) := by
  have h5 := o.P5
  rcases arg_c a (nP (sL S)) (by omega) with ⟨p, hp, rfl⟩ | ha
  · have lf := o.lfP hp
    rcases arg_c b (nP (sL S)) (by omega) with ⟨q, hq, rfl⟩ | hb
    · by_cases z : p = q
      · subst z
        refine Or.inr ⟨fun h lw e => ?_, fun h ml e => ?_⟩
        · rw [e.cl]; unfold f_T_areTwo
          rw [e.isP1 hp h5, Option.bind_some, if_neg (by decide), Option.bind_some, if_neg (by decide), if_pos rfl]
        · rw [e.cl]; unfold f_M_areTwo
          rw [e.isP1 lf hp h5, Option.bind_some, if_neg (by decide), Option.bind_some, if_neg (by decide), if_pos rfl]
      · exact Or.inl ⟨p, q, hp, hq, z, rfl, rfl⟩
    · refine Or.inr ⟨fun h lw e => ?_, fun h ml e => ?_⟩
      · rw [e.cl]; unfold f_T_areTwo
        rw [e.isP1 hp h5, Option.bind_some, if_neg (by decide), e.isP0 hb, Option.bind_some, if_pos rfl]
      · rw [e.cl]; unfold f_M_areTwo
        rw [e.isP1 lf hp h5, Option.bind_some, if_neg (by decide), e.isP0 hb, Option.bind_some, if_pos rfl]
  · refine Or.inr ⟨fun h lw e => ?_, fun h ml e => ?_⟩
    · rw [e.cl]; unfold f_T_areTwo
      rw [e.isP0 ha, Option.bind_some, if_pos rfl]
    · rw [e.cl]; unfold f_M_areTwo
      rw [e.isP0 ha, Option.bind_some, if_pos rfl]
theorem op_two (o : SOk c S) (hc : c < 600) (a x b y z : Int32) : Op (fun h => f_T_two h (some 100) a x b y z) (fun h => f_M_two h (some 285) a x b y z) c S := by
  rcases two_c o a b with ⟨p, q, hp, hq, hpq, rfl, rfl⟩ | ⟨hT, hM⟩
  · have lf := o.lfP hp
    have ok := o.ok lf
    have okN := o.nk lf
    have e1 : ∀ u v : Int32, (if z = 0 then some u else some v) = some (if z = 0 then u else v) := fun u v => by by_cases w : z = 0 <;> simp [w]
    refine ⟨if z = 0 then gtS (sL S) (sNw S) p x q y else gtS (sL S) (sNw S) q y p x, trS S 0, fun h lw e => ?_, fun h ml e => ?_, o.tr _ (by omega) (by omega)⟩
    · obtain ⟨h1, q1, q2, q3, q4⟩ := e.lk 165
      obtain ⟨-, -, -, -, -, -, -, ⟨-, ⟨a9, b9, x9, y9, d9⟩, -, -⟩, -⟩ := id e
      obtain ⟨h2, lw2, r1, r2, r3⟩ := q2.fn (if z = 0 then gtS (sL S) (sNw S) p x q y else gtS (sL S) (sNw S) q y p x)
      refine ⟨h2, lw2, ?_, r2, (q4.wd (by omega) (by omega)).tr r3⟩
      show f_T_two h (some 100) (nI p) x (nI q) y z = _
      unfold f_T_two
      rw [e.tw hp hq o.P5 hpq, Option.bind_some, if_pos (by decide), gR_o e.2.1 rfl, Option.bind_some, gR_o e.2.1 rfl, Option.bind_some, gR_o e.2.1 rfl, Option.bind_some, cl_o d9, q1, Option.bind_some]
      have w1 := cls_bes q3.v (q2.lv ok) ok (q2.nv o.P5) okN hp hq x y
      have w2 := cls_bes q3.v (q2.lv ok) ok (q2.nv o.P5) okN hq hp y x
      have w3 : gR h1 10 (some 100) 8 = some (some 175) := gR_o q2.2.1 rfl
      simp only [w3, w1, w2, cl_o q3, Option.bind_some, e1]
      exact r1
    · obtain ⟨h1, s1, s2, s3⟩ := e.st
      obtain ⟨h2, i, t1, t2, t3, t4, t5, t6⟩ := s2.to lf
      obtain ⟨h3, ml3, r1, r2, r3⟩ := t2.gd (if z = 0 then gtS (sL S) (sNw S) p x q y else gtS (sL S) (sNw S) q y p x)
      refine ⟨h3, ml3, ?_, r2, (s3.tr (t6.wd (by omega) (by omega))).tr r3⟩
      show f_M_two h (some 285) (nI p) x (nI q) y z = _
      unfold f_M_two
      rw [s1, Option.bind_some, s2.tw lf hp hq o.P5 hpq, Option.bind_some, if_pos (by decide), t1, Option.bind_some]
      have w1 := mod_gets t4 (t5.v ok) ok okN (t2.row lf o.P5) t2.vr hp hq x y
      have w2 := mod_gets t4 (t5.v ok) ok okN (t2.row lf o.P5) t2.vr hq hp y x
      have w3 : ∀ {X : Type} (o : Option X), cl h2 12 (some 285) o = o := fun o => t2.cl o
      simp only [w1, w2, w3, Option.bind_some, e1]
      rw [w3] at r1
      exact r1
  · refine ⟨-1000, trS S 1, fun h lw e => ?_, fun h ml e => ?_, o.tr _ (by omega) (by omega)⟩
    · obtain ⟨h1, a1, b1, f1⟩ := refuseQ e.2.1 1
      refine ⟨h1, lw, ?_, e.ob f1 b1, f1.wd (by omega) (by omega)⟩
      show f_T_two h (some 100) a x b y z = _
      unfold f_T_two
      rw [hT h lw e, Option.bind_some, if_neg (fun q => q rfl), e.cl, a1]
      rfl
    · obtain ⟨h1, s1, s2, s3⟩ := e.st
      obtain ⟨h2, ml2, r1, r2, r3⟩ := s2.lo 1 (by decide)
      refine ⟨h2, ml2, ?_, r2, s3.tr r3⟩
      show f_M_two h (some 285) a x b y z = _
      unfold f_M_two
      rw [s1, Option.bind_some, hM _ _ s2, Option.bind_some, if_neg (fun q => q rfl)]
      exact r1
theorem CI.rs (e : CI h lw S) (o : SOk c S) {p q k : Nat} (hp : p < nP (sL S)) (hq : q < nP (sL S)) (hk : k < 4) : ∃ h1, Jvm.Pilot.CWaverTaxLaw_law_r8537_6f3a17.cl h 10 (some 100) (f_T_isRest h (some 100) (nI p) (nI q) (nI k)) = some (bI (rsS (sL S) (sNw S) p q k), h1) ∧ CI h1 lw S ∧ Fr h h1 100 285 := by
  have lf := o.lfP hp
  have ok := o.ok lf
  have okN := o.nk lf
  obtain ⟨h1, q1, q2, q3, q4⟩ := e.lk 165
  obtain ⟨-, -, -, -, -, -, -, ⟨-, ⟨a9, b9, x9, y9, d9⟩, -, -⟩, -⟩ := id e
  refine ⟨h1, ?_, q2, q4.wd (by omega) (by omega)⟩
  have w1 := fun x y => cls_bes q3.v (q2.lv ok) ok (q2.nv o.P5) okN hp hq x y
  have w2 := fun x y => cls_bes q3.v (q2.lv ok) ok (q2.nv o.P5) okN hq hp x y
  have w3 : gR h1 10 (some 100) 8 = some (some 175) := gR_o q2.2.1 rfl
  have w4 : gR h 10 (some 100) 8 = some (some 175) := gR_o e.2.1 rfl
  have w5 : gR h 10 (some 100) 2 = some (some lw) := gR_o e.2.1 rfl
  have w6 : gR h 10 (some 100) 6 = some (some 165) := gR_o e.2.1 rfl
  rw [e.cl]
  unfold f_T_isRest rsS
  dsimp only
  have k1 : (if ¬ (nI k / (2 : Int32)) = (1 : Int32) then (some (0 : Int32)) else (some (1 : Int32)) : Option (Int32)) = some (nI (k / 2)) := by
    have : k = 0 ∨ k = 1 ∨ k = 2 ∨ k = 3 := by omega
    rcases this with rfl | rfl | rfl | rfl <;> decide +kernel
  have k2 : (if ¬ (nI k - nI k / (2 : Int32) * (2 : Int32)) = (1 : Int32) then (some (0 : Int32)) else (some (1 : Int32)) : Option (Int32)) = some (nI (k % 2)) := by
    have : k = 0 ∨ k = 1 ∨ k = 2 ∨ k = 3 := by omega
    rcases this with rfl | rfl | rfl | rfl <;> decide +kernel
  have k3 : (if ¬ nI (k / 2) = 0 then (some (0 : Int32)) else (some (1 : Int32)) : Option (Int32)) = some (nI (1 - k / 2)) := by
    have : k = 0 ∨ k = 1 ∨ k = 2 ∨ k = 3 := by omega
    rcases this with rfl | rfl | rfl | rfl <;> decide +kernel
  have k4 : (if ¬ nI (k % 2) = 0 then (some (0 : Int32)) else (some (1 : Int32)) : Option (Int32)) = some (nI (1 - k % 2)) := by
    have : k = 0 ∨ k = 1 ∨ k = 2 ∨ k = 3 := by omega
    rcases this with rfl | rfl | rfl | rfl <;> decide +kernel
  rw [if_neg (by decide), k1, Option.bind_some, if_neg (by decide), k2, Option.bind_some, w4, Option.bind_some, w5, Option.bind_some, w6, Option.bind_some, cl_o d9, q1, Option.bind_some, w3, Option.bind_some, cl_o q3, w1, Option.bind_some, Option.bind_some, k3, Option.bind_some, cl_o q3, w1, Option.bind_some]
  by_cases z : gtS (sL S) (sNw S) p (nI (k / 2)) q (nI (k % 2)) < gtS (sL S) (sNw S) p (nI (1 - k / 2)) q (nI (k % 2))
  · rw [if_pos z, decide_eq_true z]; rfl
  · rw [if_neg z, decide_eq_false z, Option.bind_some, cl_o q3, w2, Option.bind_some, Option.bind_some, k4, Option.bind_some, cl_o q3, w2, Option.bind_some]
    by_cases y : gtS (sL S) (sNw S) q (nI (k % 2)) p (nI (k / 2)) < gtS (sL S) (sNw S) q (nI (1 - k % 2)) p (nI (k / 2))
    · rw [if_pos y, decide_eq_true y]; rfl
    · rw [if_neg y, decide_eq_false y]; rfl
theorem mod_isRest {L : LawD} {N : NowD} {m ml a p q k : Nat} (hM : ModV h m ml (-1) (third L)) (hL : MLawV h ml L) (ok : LawOk L) (okN : NowOk L N) (hR : MRow h a (nP L) N) (hv : gR h 12 (some m) 15 = some (some a)) (hp : p < nP L) (hq : q < nP L) (hk : k < 4) : f_M_isRest h (some m) (nI p) (nI q) (nI k) = some (bI (rsS L N p q k)) := by
  have w1 := fun x y => mod_gets hM hL ok okN hR hv hp hq x y
  have w2 := fun x y => mod_gets hM hL ok okN hR hv hq hp x y
  unfold f_M_isRest rsS
  dsimp only
  have k1 : (if nI k ≤ (1 : Int32) then (some (0 : Int32)) else (some (1 : Int32)) : Option (Int32)) = some (nI (k / 2)) := by
    have : k = 0 ∨ k = 1 ∨ k = 2 ∨ k = 3 := by omega
    rcases this with rfl | rfl | rfl | rfl <;> decide +kernel
  have k2 : (if ¬ (nI k - nI k / (2 : Int32) * (2 : Int32)) = (1 : Int32) then (some (0 : Int32)) else (some (1 : Int32)) : Option (Int32)) = some (nI (k % 2)) := by
    have : k = 0 ∨ k = 1 ∨ k = 2 ∨ k = 3 := by omega
    rcases this with rfl | rfl | rfl | rfl <;> decide +kernel
  have k3 : (if ¬ nI (k / 2) = 0 then (some (0 : Int32)) else (some (1 : Int32)) : Option (Int32)) = some (nI (1 - k / 2)) := by
    have : k = 0 ∨ k = 1 ∨ k = 2 ∨ k = 3 := by omega
    rcases this with rfl | rfl | rfl | rfl <;> decide +kernel
  have k4 : (if ¬ nI (k % 2) = 0 then (some (0 : Int32)) else (some (1 : Int32)) : Option (Int32)) = some (nI (1 - k % 2)) := by
    have : k = 0 ∨ k = 1 ∨ k = 2 ∨ k = 3 := by omega
    rcases this with rfl | rfl | rfl | rfl <;> decide +kernel
  rw [k1, Option.bind_some, if_neg (by decide), k2, Option.bind_some, k3, Option.bind_some, cl_gI hM.2.1, w1, Option.bind_some, cl_gI hM.2.1, w1, Option.bind_some]
  by_cases z : gtS L N p (nI (k / 2)) q (nI (k % 2)) < gtS L N p (nI (1 - k / 2)) q (nI (k % 2))
  · rw [if_pos z, decide_eq_true z]; rfl
  · rw [if_neg z, decide_eq_false z, k4, Option.bind_some, cl_gI hM.2.1, w2, Option.bind_some, cl_gI hM.2.1, w2, Option.bind_some]
    by_cases y : gtS L N q (nI (k % 2)) p (nI (k / 2)) < gtS L N q (nI (1 - k % 2)) p (nI (k / 2))
    · rw [if_pos y, decide_eq_true y]; rfl
    · rw [if_neg y, decide_eq_false y]; rfl
def rcA (L : LawD) (N : NowD) (p q : Nat) : Nat → Int32
  | 0 => 0
  | k + 1 => if rsS L N p q k = true then rcA L N p q k + 1 else rcA L N p q k
theorem bI_c {b : Bool} {X : Type} {x y : X} : (if bI b = 0 then x else y) = if b = true then y else x := by cases b <;> rfl
theorem op_rests (o : SOk c S) (hc : c < 600) (a b : Int32) : Op (fun h => f_T_rests h (some 100) a b) (fun h => f_M_rests h (some 285) a b) c S := by
  rcases two_c o a b with ⟨p, q, hp, hq, hpq, rfl, rfl⟩ | ⟨hT, hM⟩
  · have lf := o.lfP hp
    have ok := o.ok lf
    have okN := o.nk lf
    refine ⟨rcA (sL S) (sNw S) p q 4, trS S 0, fun h lw e => ?_, fun h ml e => ?_, o.tr _ (by omega) (by omega)⟩
    · obtain ⟨x, l1, l2, l3, l4⟩ := pj_inv (step := fun s2 : Int32 × Int32 × PH => if (4 : Int32) ≤ s2.2.1 then (some (.inr (s2.1, s2.2.2)) : Option ((Int32 × Int32 × PH) ⊕ (Int32 × PH))) else ((cl s2.2.2 10 (some 100) (f_T_isRest s2.2.2 (some 100) (nI p) (nI q) s2.2.1)).bind fun v4 => if v4.1 = 0 then (some (.inl (s2.1, (s2.2.1 + (1 : Int32)), v4.2))) else (some (.inl ((s2.1 + (1 : Int32)), (s2.2.1 + (1 : Int32)), v4.2))))) (fun i s => s.1 = rcA (sL S) (sNw S) p q i ∧ s.2.1 = nI i ∧ CI s.2.2 lw S ∧ Fr h s.2.2 100 285) (fun x => x.1 = rcA (sL S) (sNw S) p q 4 ∧ CI x.2 lw S ∧ Fr h x.2 100 285) 4 (s0 := ((0 : Int32), (0 : Int32), h)) (by omega) ⟨rfl, rfl, e, Fr.rf⟩ (by
          rintro i ⟨s1, s2, s3⟩ hi ⟨x1, x2, x3, x4⟩
          dsimp only at x1 x2 x3 x4 ⊢
          subst x1 x2
          left
          obtain ⟨h2, y1, y2, y3⟩ := x3.rs o hp hq hi
          rw [if_neg (show ¬ (4 : Int32) ≤ nI i from nI_nle' (b := 4) hi (by omega)), y1, Option.bind_some, nI_s]
          dsimp only
          rw [bI_c]
          by_cases z : rsS (sL S) (sNw S) p q i = true
          · rw [if_pos z]; exact ⟨_, rfl, by show _ = (if _ then _ else _); rw [if_pos z], rfl, y2, x4.tr y3⟩
          · rw [if_neg z]; exact ⟨_, rfl, by show _ = (if _ then _ else _); rw [if_neg z], rfl, y2, x4.tr y3⟩) (by
          rintro ⟨s1, s2, s3⟩ ⟨x1, x2, x3, x4⟩
          dsimp only at x1 x2 x3 x4 ⊢
          subst x1 x2
          rw [if_pos (show (4 : Int32) ≤ nI 4 by decide)]
          exact ⟨_, rfl, rfl, x3, x4⟩)
      obtain ⟨h2, lw2, r1, r2, r3⟩ := l3.fn (rcA (sL S) (sNw S) p q 4)
      refine ⟨h2, lw2, ?_, r2, l4.tr r3⟩
      show f_T_rests h (some 100) (nI p) (nI q) = _
      unfold f_T_rests
      rw [e.tw hp hq o.P5 hpq, Option.bind_some, if_pos (by decide), l1, Option.bind_some, l2]
      exact r1
    · obtain ⟨h1, s1, s2, s3⟩ := e.st
      obtain ⟨h2, i, t1, t2, t3, t4, t5, t6⟩ := s2.to lf
      obtain ⟨h3, ml3, r1, r2, r3⟩ := t2.gd (rcA (sL S) (sNw S) p q 4)
      refine ⟨h3, ml3, ?_, r2, (s3.tr (t6.wd (by omega) (by omega))).tr r3⟩
      show f_M_rests h (some 285) (nI p) (nI q) = _
      unfold f_M_rests
      rw [s1, Option.bind_some, s2.tw lf hp hq o.P5 hpq, Option.bind_some, if_pos (by decide), t1, Option.bind_some]
      rw [pj_for' (fun i => (rcA (sL S) (sNw S) p q i, nI i)) (rcA (sL S) (sNw S) p q 4) 4 (by rfl) (by omega) ?_ ?_]
      · rw [Option.bind_some]; exact r1
      · intro j hj
        dsimp only
        rw [if_neg (show ¬ (4 : Int32) ≤ nI j from nI_nle' (b := 4) hj (by omega)), t2.cl, mod_isRest t4 (t5.v ok) ok okN (t2.row lf o.P5) t2.vr hp hq hj, Option.bind_some, bI_c, nI_s]
        show _ = some (Sum.inl (if rsS (sL S) (sNw S) p q j = true then rcA (sL S) (sNw S) p q j + 1 else rcA (sL S) (sNw S) p q j, nI (j + 1)))
        by_cases z : rsS (sL S) (sNw S) p q j = true
        · rw [if_pos z, if_pos z]; rfl
        · rw [if_neg z, if_neg z, Option.bind_some, Int32.add_zero]
      · rfl
  · refine ⟨-1, trS S 1, fun h lw e => ?_, fun h ml e => ?_, o.tr _ (by omega) (by omega)⟩
    · obtain ⟨h1, lw1, r1, r2, r3⟩ := e.rf 1
      refine ⟨h1, lw1, ?_, r2, r3⟩
      show f_T_rests h (some 100) a b = _
      unfold f_T_rests
      rw [hT h lw e, Option.bind_some, if_neg (fun q => q rfl)]
      exact r1
    · obtain ⟨h1, s1, s2, s3⟩ := e.st
      obtain ⟨h2, ml2, r1, r2, r3⟩ := s2.rf 1 (by decide)
      refine ⟨h2, ml2, ?_, r2, s3.tr r3⟩
      show f_M_rests h (some 285) a b = _
      unfold f_M_rests
      rw [s1, Option.bind_some, hM _ _ s2, Option.bind_some, if_neg (fun q => q rfl)]
      exact r1
/-- the first rest below k -/
def rfS (L : LawD) (N : NowD) (p q : Nat) : Nat → Nat → Int32
  | 0, _ => -2
  | f + 1, k => if rsS L N p q k = true then nI (k / 2 * 10 + k % 2) else rfS L N p q f (k + 1)
theorem op_rest (o : SOk c S) (hc : c < 600) (a b : Int32) : Op (fun h => f_T_rest h (some 100) a b) (fun h => f_M_rest h (some 285) a b) c S := by
  rcases two_c o a b with ⟨p, q, hp, hq, hpq, rfl, rfl⟩ | ⟨hT, hM⟩
  · have lf := o.lfP hp
    have ok := o.ok lf
    have okN := o.nk lf
    refine ⟨rfS (sL S) (sNw S) p q 4 0, trS S 0, fun h lw e => ?_, fun h ml e => ?_, o.tr _ (by omega) (by omega)⟩
    · obtain ⟨x, l1, l2⟩ := pj_inv (step := fun s2 : Int32 × PH => if (4 : Int32) ≤ s2.1 then (some (.inr (.inl s2.2)) : Option ((Int32 × PH) ⊕ (PH ⊕ (Int32 × PH)))) else ((cl s2.2 10 (some 100) (f_T_isRest s2.2 (some 100) (nI p) (nI q) s2.1)).bind fun v4 => if v4.1 = 0 then (some (.inl ((s2.1 + (1 : Int32)), v4.2))) else (some (.inr (.inr (s2.1, v4.2)))))) (fun i s => rfS (sL S) (sNw S) p q 4 0 = rfS (sL S) (sNw S) p q (4 - i) i ∧ s.1 = nI i ∧ CI s.2 lw S ∧ Fr h s.2 100 285) (fun x => (∃ y, x = .inl y ∧ rfS (sL S) (sNw S) p q 4 0 = -2 ∧ CI y lw S ∧ Fr h y 100 285) ∨ ∃ k y, x = .inr (nI k, y) ∧ k < 4 ∧ rfS (sL S) (sNw S) p q 4 0 = nI (k / 2 * 10 + k % 2) ∧ CI y lw S ∧ Fr h y 100 285) 4 (s0 := ((0 : Int32), h)) (by omega) ⟨rfl, rfl, e, Fr.rf⟩ (by
          rintro i ⟨s1, s3⟩ hi ⟨x1, x2, x3, x4⟩
          dsimp only at x1 x2 x3 x4 ⊢
          subst x2
          obtain ⟨h2, y1, y2, y3⟩ := x3.rs o hp hq hi
          rw [if_neg (show ¬ (4 : Int32) ≤ nI i from nI_nle' (b := 4) hi (by omega)), y1, Option.bind_some, nI_s]
          dsimp only
          rw [bI_c]
          rw [show 4 - i = (4 - (i + 1)) + 1 by omega] at x1
          have x1 : rfS (sL S) (sNw S) p q 4 0 = if rsS (sL S) (sNw S) p q i = true then nI (i / 2 * 10 + i % 2) else rfS (sL S) (sNw S) p q (4 - (i + 1)) (i + 1) := x1
          by_cases z : rsS (sL S) (sNw S) p q i = true
          · rw [if_pos z] at x1 ⊢; exact Or.inr ⟨_, rfl, Or.inr ⟨i, h2, rfl, hi, x1, y2, x4.tr y3⟩⟩
          · rw [if_neg z] at x1 ⊢; exact Or.inl ⟨_, rfl, x1, rfl, y2, x4.tr y3⟩) (by
          rintro ⟨s1, s3⟩ ⟨x1, x2, x3, x4⟩
          dsimp only at x1 x2 x3 x4 ⊢
          subst x2
          rw [if_pos (show (4 : Int32) ≤ nI 4 by decide)]
          exact ⟨_, rfl, Or.inl ⟨s3, rfl, x1, x3, x4⟩⟩)
      have main : ∀ y, CI y lw S → Fr h y 100 285 → ∃ h1 lw1, ((cl y 10 (some 100) (f_T_fine y (some 100) (rfS (sL S) (sNw S) p q 4 0))).bind fun v => some (v.1, v.2)) = some (rfS (sL S) (sNw S) p q 4 0, h1) ∧ CI h1 lw1 (trS S 0) ∧ Fr h h1 100 285 := by
        intro y c1 f1
        obtain ⟨h2, lw2, r1, r2, r3⟩ := c1.fn (rfS (sL S) (sNw S) p q 4 0)
        exact ⟨h2, lw2, r1, r2, f1.tr r3⟩
      rcases l2 with ⟨y, rfl, l3, l4, l5⟩ | ⟨k, y, rfl, l6, l3, l4, l5⟩
      · obtain ⟨h2, lw2, r1, r2, r3⟩ := main y l4 l5
        refine ⟨h2, lw2, ?_, r2, r3⟩
        show f_T_rest h (some 100) (nI p) (nI q) = _
        unfold f_T_rest
        rw [e.tw hp hq o.P5 hpq, Option.bind_some, if_pos (by decide), l1, Option.bind_some]
        dsimp only
        rw [l3] at r1 ⊢
        exact r1
      · obtain ⟨h2, lw2, r1, r2, r3⟩ := main y l4 l5
        refine ⟨h2, lw2, ?_, r2, r3⟩
        show f_T_rest h (some 100) (nI p) (nI q) = _
        unfold f_T_rest
        rw [e.tw hp hq o.P5 hpq, Option.bind_some, if_pos (by decide), l1, Option.bind_some]
        dsimp only
        rw [if_neg (by decide), if_neg (by decide), show (nI k / (2 : Int32)) * (10 : Int32) + (nI k - nI k / (2 : Int32) * (2 : Int32)) = nI (k / 2 * 10 + k % 2) from by
          have : k = 0 ∨ k = 1 ∨ k = 2 ∨ k = 3 := by omega
          rcases this with rfl | rfl | rfl | rfl <;> decide +kernel]
        rw [l3] at r1 ⊢
        exact r1
    · obtain ⟨h1, s1, s2, s3⟩ := e.st
      obtain ⟨h2, i, t1, t2, t3, t4, t5, t6⟩ := s2.to lf
      obtain ⟨x, l1, l2⟩ := pj_inv (step := fun s4 : Int32 => if (4 : Int32) ≤ s4 then (some (.inr (.inl ())) : Option (Int32 ⊕ (Unit ⊕ Int32))) else ((cl h2 12 (some 285) (f_M_isRest h2 (some 285) (nI p) (nI q) s4)).bind fun v6 => if v6 = 0 then (some (.inl (s4 + (1 : Int32)))) else (some (.inr (.inr s4))))) (fun i s => rfS (sL S) (sNw S) p q 4 0 = rfS (sL S) (sNw S) p q (4 - i) i ∧ s = nI i) (fun x => (∃ y, x = .inl y ∧ rfS (sL S) (sNw S) p q 4 0 = -2) ∨ ∃ k, x = .inr (nI k) ∧ k < 4 ∧ rfS (sL S) (sNw S) p q 4 0 = nI (k / 2 * 10 + k % 2)) 4 (s0 := (0 : Int32)) (by omega) ⟨rfl, rfl⟩ (by
          rintro j s hi ⟨x1, rfl⟩
          rw [if_neg (show ¬ (4 : Int32) ≤ nI j from nI_nle' (b := 4) hi (by omega)), t2.cl, mod_isRest t4 (t5.v ok) ok okN (t2.row lf o.P5) t2.vr hp hq hi, Option.bind_some, nI_s, bI_c]
          rw [show 4 - j = (4 - (j + 1)) + 1 by omega] at x1
          have x1 : rfS (sL S) (sNw S) p q 4 0 = if rsS (sL S) (sNw S) p q j = true then nI (j / 2 * 10 + j % 2) else rfS (sL S) (sNw S) p q (4 - (j + 1)) (j + 1) := x1
          by_cases z : rsS (sL S) (sNw S) p q j = true
          · rw [if_pos z] at x1 ⊢; exact Or.inr ⟨_, rfl, Or.inr ⟨j, rfl, hi, x1⟩⟩
          · rw [if_neg z] at x1 ⊢; exact Or.inl ⟨_, rfl, x1, rfl⟩) (by
          rintro s ⟨x1, rfl⟩
          rw [if_pos (show (4 : Int32) ≤ nI 4 by decide)]
          exact ⟨_, rfl, Or.inl ⟨(), rfl, x1⟩⟩)
      obtain ⟨h3, ml3, r1, r2, r3⟩ := t2.gd (rfS (sL S) (sNw S) p q 4 0)
      refine ⟨h3, ml3, ?_, r2, (s3.tr (t6.wd (by omega) (by omega))).tr r3⟩
      show f_M_rest h (some 285) (nI p) (nI q) = _
      unfold f_M_rest
      rw [s1, Option.bind_some, s2.tw lf hp hq o.P5 hpq, Option.bind_some, if_pos (by decide), t1, Option.bind_some, l1, Option.bind_some]
      rcases l2 with ⟨y, rfl, l3⟩ | ⟨k, rfl, l6, l3⟩
      · dsimp only
        rw [l3] at r1 ⊢
        exact r1
      · dsimp only
        rw [if_neg (by decide), if_neg (by decide), show (10 : Int32) * (nI k / (2 : Int32)) + (nI k - nI k / (2 : Int32) * (2 : Int32)) = nI (k / 2 * 10 + k % 2) from by
          have : k = 0 ∨ k = 1 ∨ k = 2 ∨ k = 3 := by omega
          rcases this with rfl | rfl | rfl | rfl <;> decide +kernel]
        rw [l3] at r1 ⊢
        exact r1
  · refine ⟨-1, trS S 1, fun h lw e => ?_, fun h ml e => ?_, o.tr _ (by omega) (by omega)⟩
    · obtain ⟨h1, lw1, r1, r2, r3⟩ := e.rf 1
      refine ⟨h1, lw1, ?_, r2, r3⟩
      show f_T_rest h (some 100) a b = _
      unfold f_T_rest
      rw [hT h lw e, Option.bind_some, if_neg (fun q => q rfl)]
      exact r1
    · obtain ⟨h1, s1, s2, s3⟩ := e.st
      obtain ⟨h2, ml2, r1, r2, r3⟩ := s2.rf 1 (by decide)
      refine ⟨h2, ml2, ?_, r2, s3.tr r3⟩
      show f_M_rest h (some 285) a b = _
      unfold f_M_rest
      rw [s1, Option.bind_some, hM _ _ s2, Option.bind_some, if_neg (fun q => q rfl)]
      exact r1
end D13
