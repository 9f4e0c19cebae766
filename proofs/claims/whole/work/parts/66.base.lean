/-! what all calls share, in the class and in the reference -/
def foldN {A : Type} (g : Nat → A → A) : Nat → A → A
  | 0, a => a
  | n + 1, a => g n (foldN g n a)
theorem pj_fold {A X : Type} {step : A × Int32 → Option ((A × Int32) ⊕ X)} (g : Nat → A → A) (Inv : Nat → A → Prop) (out : A → X) (n : Nat) {a0 : A} (hn : n < 4096) (h0 : Inv 0 a0) (hs : ∀ i a, i < n → Inv i a → step (a, nI i) = some (.inl (g i a, nI (i + 1))) ∧ Inv (i + 1) (g i a)) (he : ∀ a, Inv n a → step (a, nI n) = some (.inr (out a))) : pj_it step FU (a0, (0 : Int32)) = some (out (foldN g n a0)) := by
  have hI : ∀ i, i ≤ n → Inv i (foldN g i a0) := by
    intro i
    induction i with
    | zero => intro _; exact h0
    | succ i ih => intro hi; exact (hs i _ (by omega) (ih (by omega))).2
  exact pj_for' (fun i => (foldN g i a0, nI i)) _ n (by rw [nI_0]; rfl) hn (fun i hi => (hs i _ hi (hI i (by omega))).1) (he _ (hI n (Nat.le_refl _)))
theorem pj_fold0 {A X : Type} {step : A × Int32 → Option ((A × Int32) ⊕ X)} (g : Nat → A → A) (out : A → X) (n : Nat) {a0 : A} (hn : n < 4096) (hs : ∀ i a, i < n → step (a, nI i) = some (.inl (g i a, nI (i + 1)))) (he : ∀ a, step (a, nI n) = some (.inr (out a))) : pj_it step FU (a0, (0 : Int32)) = some (out (foldN g n a0)) :=
  pj_fold g (fun _ _ => True) out n hn trivial (fun i a hi _ => ⟨hs i a hi, trivial⟩) (fun a _ => he a)
section D6
variable {h h1 : PH} {lw c : Nat} {S : StD} {ml : Option Nat}
theorem CI.cl {X : Type} (e : CI h lw S) (o : Option X) : cl h 10 (some 100) o = o := cl_o e.2.1 o
theorem CI.ob {t : Int32} (e : CI h lw S) (f : Fr h h1 100 101) (o : ObjC h1 (nI (sTn S)) lw (233 - lw) (bI (sLf S)) t (sFa S) (sPl S)) : CI h1 lw (trS S t) := by
  obtain ⟨hl, e0, e1, e2, ⟨L1, e3⟩, e4, e5, e6, e7⟩ := e
  exact ⟨hl, o, (f.2 _ (by omega)).trans e1, f.lc (LawC.lc _ _) (by omega) e2, ⟨L1, f.lc (LawC.lc _ _) (by omega) e3⟩, f.lc RdC.lc (by omega) e4, f.lc (NowC.lc _ _) (by omega) e5, f.lc ScC.lc (by omega) e6, f.lc (PaC.lc _) (by omega) e7⟩
theorem CI.fn (e : CI h lw S) (x : Int32) : ∃ h1 lw1, ((Jvm.Pilot.CWaverTaxLaw_law_r8537_6f3a17.cl h 10 (some 100) (f_T_fine h (some 100) x)).bind fun v => some (v.1, v.2)) = some (x, h1) ∧ CI h1 lw1 (trS S 0) ∧ Fr h h1 100 285 := by
  obtain ⟨h1, a, b, f⟩ := fineQ e.2.1 x
  exact ⟨h1, lw, by rw [e.cl, a]; rfl, e.ob f b, f.wd (by omega) (by omega)⟩
theorem CI.rf (e : CI h lw S) (x : Int32) : ∃ h1 lw1, ((Jvm.Pilot.CWaverTaxLaw_law_r8537_6f3a17.cl h 10 (some 100) (f_T_refuse h (some 100) x)).bind fun v => some (v.1, v.2)) = some (-1, h1) ∧ CI h1 lw1 (trS S x) ∧ Fr h h1 100 285 := by
  obtain ⟨h1, a, b, f⟩ := refuseQ e.2.1 x
  exact ⟨h1, lw, by rw [e.cl, a]; rfl, e.ob f b, f.wd (by omega) (by omega)⟩
theorem CI.rL (e : CI h lw S) (x : Int32) : ∃ h1 lw1, ((Jvm.Pilot.CWaverTaxLaw_law_r8537_6f3a17.cl h 10 (some 100) (f_T_refuseLong h (some 100) x)).bind fun v => some (v.1, v.2)) = some (-9223372036854775808, h1) ∧ CI h1 lw1 (trS S x) ∧ Fr h h1 100 285 := by
  refine ⟨_, lw, ?_, e.ob Fr.st (st_o e.2.1), Fr.st.wd (by omega) (by omega)⟩
  rw [e.cl]
  unfold f_T_refuseLong
  rw [sF_o e.2.1 (by simp)]
  rfl
theorem CI.an (e : CI h lw S) (x : Int32) : ∃ h1 lw1, ((Jvm.Pilot.CWaverTaxLaw_law_r8537_6f3a17.cl h 10 (some 100) (f_T_answered h (some 100) x)).bind fun v => some (v.1, v.2)) = some (if x = 0 then 1 else 0, h1) ∧ CI h1 lw1 (trS S x) ∧ Fr h h1 100 285 := by
  refine ⟨_, lw, ?_, e.ob Fr.st (st_o e.2.1), Fr.st.wd (by omega) (by omega)⟩
  rw [e.cl]
  unfold f_T_answered
  rw [sF_o e.2.1 (by simp)]
  by_cases z : x = 0
  · simp [z]
  · simp [z]
theorem CI.lv (e : CI h lw S) (ok : LawOk (sL S)) : LawV h lw (sL S) := e.2.2.2.1.v ok
theorem CI.nv (e : CI h lw S) {n : Nat} (hn : n ≤ 5) : NowV h 165 n (sNw S) := e.2.2.2.2.2.2.1.v hn
theorem CI.isP1 (e : CI h lw S) {p : Nat} (hp : p < nP (sL S)) (h5 : nP (sL S) ≤ 5) : Jvm.Pilot.CWaverTaxLaw_law_r8537_6f3a17.cl h 10 (some 100) (f_T_isPerson h (some 100) (nI p)) = some 1 := by
  rw [e.cl, cls_isPerson (L := sL S) e.2.1 (gI_o e.2.2.2.1.1 rfl), if_pos ⟨nI_pos' (by omega), nI_lt hp (by omega)⟩]
theorem CI.isP0 (e : CI h lw S) {x : Int32} (hx : ¬ (0 ≤ x ∧ x < nI (nP (sL S)))) : Jvm.Pilot.CWaverTaxLaw_law_r8537_6f3a17.cl h 10 (some 100) (f_T_isPerson h (some 100) x) = some 0 := by
  rw [e.cl, cls_isPerson (L := sL S) e.2.1 (gI_o e.2.2.2.1.1 rfl), if_neg hx]
theorem CI.isC1 (e : CI h lw S) {p : Nat} (hp : p < nC (sL S)) (h5 : nC (sL S) ≤ 5) : Jvm.Pilot.CWaverTaxLaw_law_r8537_6f3a17.cl h 10 (some 100) (f_T_isChoice h (some 100) (nI p)) = some 1 := by
  rw [e.cl, cls_isChoice (L := sL S) e.2.1 (gI_o e.2.2.2.1.1 rfl), if_pos ⟨nI_pos' (by omega), nI_lt hp (by omega)⟩]
theorem CI.isC0 (e : CI h lw S) {x : Int32} (hx : ¬ (0 ≤ x ∧ x < nI (nC (sL S)))) : Jvm.Pilot.CWaverTaxLaw_law_r8537_6f3a17.cl h 10 (some 100) (f_T_isChoice h (some 100) x) = some 0 := by
  rw [e.cl, cls_isChoice (L := sL S) e.2.1 (gI_o e.2.2.2.1.1 rfl), if_neg hx]
theorem CI.lf (e : CI h lw S) : gI h 10 (some 100) 5 = some (bI (sLf S)) := gI_o e.2.1 rfl
theorem CI.lw_ne (e : CI h lw S) : lw ≠ 175 := by
  rcases e.1 with q | q <;> omega
/-- the desk looks at an hour -/
theorem CI.lk (e : CI h lw S) (nw : Nat) : ∃ h1, f_Desk_look h (some 175) (some lw) (some nw) = some h1 ∧ CI h1 lw S ∧ DeskC h1 (some lw) (some nw) (-1) (third (sL S)) ∧ Fr h h1 175 176 := by
  obtain ⟨hl, e0, e1, e2, ⟨L1, e3⟩, e4, e5, ⟨s1, ⟨a, b, x, y, d⟩, s3, s4⟩, e7⟩ := id e
  obtain ⟨h1, q1, q2, q3⟩ := cls_look (nw := nw) (th := third (sL S)) d (gI_o e2.1 rfl) e.lw_ne
  refine ⟨h1, q1, e.sc (q3.wd (by omega) (by omega)) ⟨?_, ⟨_, _, _, _, q2⟩, q3.lc PlC.lc (by omega) s3, q3.lc RwC.lc (by omega) s4⟩, q2, q3⟩
  obtain ⟨T, s1⟩ := s1
  exact ⟨T, q3.lc (NowC.lc _ _) (by omega) s1⟩
theorem CI.pr (e : CI h lw S) : ∃ h1, Jvm.Pilot.CWaverTaxLaw_law_r8537_6f3a17.cl h 10 (some 100) (f_T_present h (some 100)) = some (some 175, h1) ∧ CI h1 lw S ∧ DeskC h1 (some lw) (some 165) (-1) (third (sL S)) ∧ Fr h h1 100 285 := by
  obtain ⟨h1, q1, q2, q3, q4⟩ := e.lk 165
  obtain ⟨-, e0, -, -, -, -, -, ⟨-, ⟨a, b, x, y, d⟩, -, -⟩, -⟩ := id e
  refine ⟨h1, ?_, q2, q3, q4.wd (by omega) (by omega)⟩
  rw [e.cl]
  unfold f_T_present
  rw [gR_o e0 rfl, Option.bind_some, gR_o e0 rfl, Option.bind_some, gR_o e0 rfl, Option.bind_some, cl_o d, q1, Option.bind_some, gR_o q2.2.1 rfl, Option.bind_some]
theorem CI.dk {a b : Option Nat} {x y x1 y1 : Int32} (e : CI h lw S) (d : DeskC h a b x y) (h1d : h1 = h.set 175 (0, [.inr (.inr a), .inr (.inr b), .inl x1, .inl y1])) : CI h1 lw S ∧ DeskC h1 a b x1 y1 ∧ Fr h h1 175 176 := by
  subst h1d
  obtain ⟨hl, e0, e1, e2, ⟨L1, e3⟩, e4, e5, ⟨s1, -, s3, s4⟩, e7⟩ := id e
  have f : Fr h (h.set 175 (0, [.inr (.inr a), .inr (.inr b), .inl x1, .inl y1])) 175 176 := Fr.st
  have d1 : DeskC (h.set 175 (0, [.inr (.inr a), .inr (.inr b), .inl x1, .inl y1])) a b x1 y1 := st_o d
  refine ⟨e.sc (f.wd (by omega) (by omega)) ⟨?_, ⟨_, _, _, _, d1⟩, f.lc PlC.lc (by omega) s3, f.lc RwC.lc (by omega) s4⟩, d1, f⟩
  obtain ⟨T, s1⟩ := s1
  exact ⟨T, f.lc (NowC.lc _ _) (by omega) s1⟩
theorem CI.bt (e : CI h lw S) (t : Int32) : ∃ h1, Jvm.Pilot.CWaverTaxLaw_law_r8537_6f3a17.cl h 10 (some 100) (f_T_byTable h (some 100) t) = some (some 175, h1) ∧ CI h1 lw S ∧ DeskC h1 (some lw) (some 165) t (third (sL S)) ∧ Fr h h1 100 285 := by
  obtain ⟨h1, q1, q2, q3, q4⟩ := e.lk 165
  obtain ⟨-, e0, -, -, -, -, -, ⟨-, ⟨a, b, x, y, d⟩, -, -⟩, -⟩ := id e
  obtain ⟨w1, w2, w3⟩ := q2.dk (x1 := t) (y1 := third (sL S)) q3 rfl
  refine ⟨_, ?_, w1, w2, (q4.tr w3).wd (by omega) (by omega)⟩
  rw [e.cl]
  unfold f_T_byTable
  rw [gR_o e0 rfl, Option.bind_some, gR_o e0 rfl, Option.bind_some, gR_o e0 rfl, Option.bind_some, cl_o d, q1, Option.bind_some, gR_o q2.2.1 rfl, Option.bind_some, sF_o q3 (by simp), Option.bind_some]
  show (gR (h1.set 175 (0, [.inr (.inr (some lw)), .inr (.inr (some 165)), .inl t, .inl (third (sL S))])) 10 (some 100) 8).bind _ = _
  rw [gR_o w1.2.1 rfl, Option.bind_some]
  rfl
theorem CI.b3 (e : CI h lw S) (t : Int32) : ∃ h1, Jvm.Pilot.CWaverTaxLaw_law_r8537_6f3a17.cl h 10 (some 100) (f_T_byThird h (some 100) t) = some (some 175, h1) ∧ CI h1 lw S ∧ DeskC h1 (some lw) (some 165) (-1) t ∧ Fr h h1 100 285 := by
  obtain ⟨h1, q1, q2, q3, q4⟩ := e.lk 165
  obtain ⟨-, e0, -, -, -, -, -, ⟨-, ⟨a, b, x, y, d⟩, -, -⟩, -⟩ := id e
  obtain ⟨w1, w2, w3⟩ := q2.dk (x1 := -1) (y1 := t) q3 rfl
  refine ⟨_, ?_, w1, w2, (q4.tr w3).wd (by omega) (by omega)⟩
  rw [e.cl]
  unfold f_T_byThird
  rw [gR_o e0 rfl, Option.bind_some, gR_o e0 rfl, Option.bind_some, gR_o e0 rfl, Option.bind_some, cl_o d, q1, Option.bind_some, gR_o q2.2.1 rfl, Option.bind_some, sF_o q3 (by simp), Option.bind_some]
  show (gR (h1.set 175 (0, [.inr (.inr (some lw)), .inr (.inr (some 165)), .inl (-1), .inl t])) 10 (some 100) 8).bind _ = _
  rw [gR_o w1.2.1 rfl, Option.bind_some]
  rfl
/-- a number within bounds -/
def bdS (S : StD) (x lo hi : Int32) : Int32 := if sLf S = false then 1 else if x < lo ∨ hi < x then 2 else 0
theorem CI.bd (e : CI h lw S) (x lo hi : Int32) : Jvm.Pilot.CWaverTaxLaw_law_r8537_6f3a17.cl h 10 (some 100) (f_T_boundsTrouble h (some 100) x lo hi) = some (bdS S x lo hi) := by
  rw [e.cl]
  unfold f_T_boundsTrouble bdS
  rw [e.lf, Option.bind_some]
  unfold bI
  cases hb : sLf S with
  | false => rw [if_neg (by simp), if_pos rfl]
  | true =>
    rw [if_pos (show ¬ ((if true = true then (1 : Int32) else 0) = 0) by decide), if_neg (show ¬ (true = false) by decide)]
    by_cases z : x < lo
    · rw [if_pos z, if_pos (Or.inl z)]
    · rw [if_neg z]
      by_cases y : x ≤ hi
      · rw [if_pos y, if_neg (by rintro (q | q); exact z q; exact absurd q (Int32.not_lt.mpr y))]
      · rw [if_neg y, if_pos (Or.inr (Int32.not_le.mp y))]
/-! the reference -/
theorem Mst.cl {X : Type} (e : Mst h ml S) (o : Option X) : cl h 12 (some 285) o = o := by
  obtain ⟨F, e0, -⟩ := e
  exact cl_o e0 o
theorem MF.up {F : Nat → PV} {k : Nat} {v : PV} (e : MF F S ml) (hk : k = 0 ∨ k = 4 ∨ k = 7 ∨ k = 8 ∨ k = 9 ∨ k = 21 ∨ k = 22 ∨ k = 24 ∨ k = 28 ∨ k = 29 ∨ k = 30 ∨ k = 31) : MF (upF F k v) S ml := by
  obtain ⟨a1, a2, a3, a4, a5, a6, a7, a8, a9, a10, a11, a12, a13, a14, a15, a16, ⟨t1, u1⟩, ⟨t2, u2⟩, ⟨t3, u3⟩, ⟨t4, u4⟩⟩ := e
  exact ⟨(upF_n (by omega)).trans a1, (upF_n (by omega)).trans a2, (upF_n (by omega)).trans a3, (upF_n (by omega)).trans a4, (upF_n (by omega)).trans a5, (upF_n (by omega)).trans a6, (upF_n (by omega)).trans a7, (upF_n (by omega)).trans a8, (upF_n (by omega)).trans a9, (upF_n (by omega)).trans a10, (upF_n (by omega)).trans a11, (upF_n (by omega)).trans a12, (upF_n (by omega)).trans a13, (upF_n (by omega)).trans a14, (upF_n (by omega)).trans a15, (upF_n (by omega)).trans a16, ⟨t1, (upF_n (by omega)).trans u1⟩, ⟨t2, (upF_n (by omega)).trans u2⟩, ⟨t3, (upF_n (by omega)).trans u3⟩, ⟨t4, (upF_n (by omega)).trans u4⟩⟩
/-- a scratch field of the reference is set -/
theorem Mst.sf (e : Mst h ml S) {k : Nat} (v : PV) (hk : k = 0 ∨ k = 4 ∨ k = 7 ∨ k = 8 ∨ k = 9 ∨ k = 21 ∨ k = 22 ∨ k = 24 ∨ k = 28 ∨ k = 29 ∨ k = 30 ∨ k = 31) : ∃ h1, sF h 12 (some 285) k v = some h1 ∧ Mst h1 ml S ∧ Fr h h1 285 286 ∧ gV h1 12 (some 285) k = some v ∧ ∀ j, j ≠ k → gV h1 12 (some 285) j = gV h 12 (some 285) j := by
  obtain ⟨F, e0, e1, e2, e3, e4⟩ := e
  obtain ⟨h1, a, b, f⟩ := e0.set (k := k) (by omega) v
  refine ⟨h1, a, ⟨_, b, e1.up hk, f.lc (MRs.lc S) (by omega) e2, f.lc MSc.lc (by omega) e3, e4.lt (fun i p q => f.2 i (by omega))⟩, f, ?_, fun j hj => ?_⟩
  · unfold gV; rw [pj_at_o b, Option.bind_some]; simp [upF_s, show k < 32 by omega]
  · unfold gV; rw [pj_at_o b, pj_at_o e0, Option.bind_some, Option.bind_some]
    by_cases q : j < 32
    · simp [q, upF_n hj]
    · rw [List.getElem?_eq_none (by simp; omega), List.getElem?_eq_none (by simp; omega)]
theorem Mst.go (e : Mst h ml S) (t : Int32) (ht : ¬ t = 4) : ∃ h1, ((sF h 12 (some 285) 1 (.inl t)).bind fun h1 => (sF h1 12 (some 285) 2 (.inl (-1 : Int32)))) = some h1 ∧ Mst h1 ml (trS S t) ∧ Fr h h1 285 286 := by
  obtain ⟨F, e0, e1, e2, e3, e4⟩ := e
  obtain ⟨h1, a, b, f⟩ := e0.set (k := 1) (by omega) (.inl t)
  obtain ⟨h2, a2, b2, f2⟩ := b.set (k := 2) (by omega) (.inl (-1))
  have g := f.tr f2
  refine ⟨h2, by rw [a, Option.bind_some, a2], ⟨_, b2, ?_, g.lc (MRs.lc S) (by omega) e2, g.lc MSc.lc (by omega) e3, e4.lt (fun i p q => g.2 i (by omega))⟩, g⟩
  obtain ⟨a1, a2, a3, a4, a5, a6, a7, a8, a9, a10, a11, a12, a13, a14, a15, a16⟩ := e1
  exact ⟨rfl, by rw [upF_s]; unfold whS; rw [if_neg (show ¬ sTr (trS S t) = 4 from ht)], a3, a4, a5, a6, a7, a8, a9, a10, a11, a12, a13, a14, a15, a16⟩
theorem Mst.gd (e : Mst h ml S) (x : Int32) : ∃ h1 ml1, ((Jvm.Pilot.CWaverTaxLaw_law_r8537_6f3a17.cl h 12 (some 285) (f_M_good h (some 285) x)).bind fun v => some (v.1, v.2)) = some (x, h1) ∧ Mst h1 ml1 (trS S 0) ∧ Fr h h1 285 295 := by
  obtain ⟨h1, a, b, f⟩ := e.go 0 (by decide)
  refine ⟨h1, ml, ?_, b, f.wd (by omega) (by omega)⟩
  rw [e.cl]
  unfold f_M_good
  obtain ⟨h2, a1, a2⟩ := Option.bind_eq_some_iff.mp a
  rw [a1, Option.bind_some, a2]
  rfl
theorem Mst.rfd (e : Mst h ml S) (t : Int32) (ht : ¬ t = 4) : ∃ h1, f_M_refused h (some 285) t = some (-1, h1) ∧ Mst h1 ml (trS S t) ∧ Fr h h1 285 295 := by
  obtain ⟨h1, a, b, f⟩ := e.go t ht
  refine ⟨h1, ?_, b, f.wd (by omega) (by omega)⟩
  unfold f_M_refused
  obtain ⟨h2, a1, a2⟩ := Option.bind_eq_some_iff.mp a
  rw [a1, Option.bind_some, a2]
  rfl
theorem Mst.rf (e : Mst h ml S) (t : Int32) (ht : ¬ t = 4) : ∃ h1 ml1, ((Jvm.Pilot.CWaverTaxLaw_law_r8537_6f3a17.cl h 12 (some 285) (f_M_refused h (some 285) t)).bind fun v => some (v.1, v.2)) = some (-1, h1) ∧ Mst h1 ml1 (trS S t) ∧ Fr h h1 285 295 := by
  obtain ⟨h1, a, b, f⟩ := e.rfd t ht
  exact ⟨h1, ml, by rw [e.cl, a]; rfl, b, f⟩
theorem Mst.nv (e : Mst h ml S) (t : Int32) (ht : ¬ t = 4) : ∃ h1 ml1, ((Jvm.Pilot.CWaverTaxLaw_law_r8537_6f3a17.cl h 12 (some 285) (f_M_never h (some 285) t)).bind fun v => some (v.1, v.2)) = some (-9223372036854775808, h1) ∧ Mst h1 ml1 (trS S t) ∧ Fr h h1 285 295 := by
  obtain ⟨h1, a, b, f⟩ := e.rfd t ht
  refine ⟨h1, ml, ?_, b, f⟩
  rw [e.cl]
  unfold f_M_never
  rw [e.cl, a]
  rfl
theorem Mst.lo (e : Mst h ml S) (t : Int32) (ht : ¬ t = 4) : ∃ h1 ml1, ((Jvm.Pilot.CWaverTaxLaw_law_r8537_6f3a17.cl h 12 (some 285) (f_M_lost h (some 285) t)).bind fun v => some (v.1, v.2)) = some (-1000, h1) ∧ Mst h1 ml1 (trS S t) ∧ Fr h h1 285 295 := by
  obtain ⟨h1, a, b, f⟩ := e.rfd t ht
  refine ⟨h1, ml, ?_, b, f⟩
  rw [e.cl]
  unfold f_M_lost
  rw [e.cl, a]
  rfl
theorem Mst.dn (e : Mst h ml S) (t : Int32) (ht : ¬ t = 4) : ∃ h1 ml1, ((Jvm.Pilot.CWaverTaxLaw_law_r8537_6f3a17.cl h 12 (some 285) (f_M_denied h (some 285) t)).bind fun v => some (v.1, v.2)) = some (0, h1) ∧ Mst h1 ml1 (trS S t) ∧ Fr h h1 285 295 := by
  obtain ⟨h1, a, b, f⟩ := e.rfd t ht
  refine ⟨h1, ml, ?_, b, f⟩
  rw [e.cl]
  unfold f_M_denied
  rw [e.cl, a]
  rfl
theorem Mst.gr (e : Mst h ml S) : ∃ h1 ml1, ((Jvm.Pilot.CWaverTaxLaw_law_r8537_6f3a17.cl h 12 (some 285) (f_M_granted h (some 285))).bind fun v => some (v.1, v.2)) = some (1, h1) ∧ Mst h1 ml1 (trS S 0) ∧ Fr h h1 285 295 := by
  obtain ⟨h1, a, b, f⟩ := e.go 0 (by decide)
  refine ⟨h1, ml, ?_, b, f.wd (by omega) (by omega)⟩
  rw [e.cl]
  unfold f_M_granted
  rw [e.cl]
  unfold f_M_good
  obtain ⟨h2, a1, a2⟩ := Option.bind_eq_some_iff.mp a
  rw [a1, Option.bind_some, a2]
  rfl
/-- a call begins -/
theorem Mst.st (e : Mst h ml S) : ∃ h1, sF h 12 (some 285) 0 (.inl (0 : Int32)) = some h1 ∧ Mst h1 ml S ∧ Fr h h1 285 295 := by
  obtain ⟨h1, a, b, f, -⟩ := e.sf (k := 0) (.inl 0) (by omega)
  exact ⟨h1, a, b, f.wd (by omega) (by omega)⟩
theorem Mst.lwR (e : Mst h ml S) : gR h 12 (some 285) 3 = some ml := by
  obtain ⟨F, e0, e1, -⟩ := e
  exact e0.gr (by omega) e1.2.2.1
theorem Mst.no (e : Mst h ml S) (q : sLf S = false) : ml = none := by
  obtain ⟨F, e0, e1, e2, e3, e4⟩ := e
  exact e4.2 q
theorem Mst.ye (e : Mst h ml S) (q : sLf S = true) : ∃ i, ml = some i ∧ 296 ≤ i ∧ MLawC h i (sL S) := by
  obtain ⟨F, e0, e1, e2, e3, e4⟩ := e
  exact e4.1 q
theorem Mst.vr (e : Mst h ml S) : gR h 12 (some 285) 15 = some (some 287) := by
  obtain ⟨F, e0, e1, -⟩ := e
  exact e0.gr (by omega) e1.2.2.2.2.2.2.1
theorem Mst.row (e : Mst h ml S) (q : sLf S = true) (hn : nP (sL S) ≤ 5) : MRow h 287 (nP (sL S)) (sNw S) := by
  obtain ⟨F, e0, e1, ⟨-, ⟨f, a, b⟩, -⟩, -⟩ := e
  exact MRw.v a (b q) hn
theorem Mst.isP1 (e : Mst h ml S) (lf : sLf S = true) {p : Nat} (hp : p < nP (sL S)) (h5 : nP (sL S) ≤ 5) : Jvm.Pilot.CWaverTaxLaw_law_r8537_6f3a17.cl h 12 (some 285) (f_M_isPerson h (some 285) (nI p)) = some 1 := by
  obtain ⟨i, rfl, -, G, g0, g1, -⟩ := e.ye lf
  rw [e.cl]
  unfold f_M_isPerson
  rw [e.lwR, Option.bind_some, if_neg (by simp), if_neg (nI_pos (by omega)), Option.bind_some, g0.gi (by omega) g1.2.2.2.1, Option.bind_some, if_neg (nI_ge hp (by omega))]
theorem Mst.isP0 (e : Mst h ml S) {x : Int32} (hx : ¬ (0 ≤ x ∧ x < nI (nP (sL S)))) : Jvm.Pilot.CWaverTaxLaw_law_r8537_6f3a17.cl h 12 (some 285) (f_M_isPerson h (some 285) x) = some 0 := by
  rw [e.cl]
  unfold f_M_isPerson
  rw [e.lwR, Option.bind_some]
  cases hb : sLf S with
  | false => rw [if_pos (e.no hb)]
  | true =>
    obtain ⟨i, rfl, -, G, g0, g1, -⟩ := e.ye hb
    rw [if_neg (by simp)]
    by_cases z : x < 0
    · rw [if_pos z]
    · rw [if_neg z, Option.bind_some, g0.gi (by omega) g1.2.2.2.1, Option.bind_some, if_pos]
      exact Int32.not_lt.mp (fun q => hx ⟨Int32.not_lt.mp z, q⟩)
theorem Mst.isC1 (e : Mst h ml S) (lf : sLf S = true) {p : Nat} (hp : p < nC (sL S)) (h5 : nC (sL S) ≤ 5) : Jvm.Pilot.CWaverTaxLaw_law_r8537_6f3a17.cl h 12 (some 285) (f_M_isChoice h (some 285) (nI p)) = some 1 := by
  obtain ⟨i, rfl, -, G, g0, g1, -⟩ := e.ye lf
  rw [e.cl]
  unfold f_M_isChoice
  rw [e.lwR, Option.bind_some, if_neg (by simp), if_neg (nI_pos (by omega)), Option.bind_some, g0.gi (by omega) g1.2.2.1, Option.bind_some, if_neg (nI_ge hp (by omega))]
theorem Mst.isC0 (e : Mst h ml S) {x : Int32} (hx : ¬ (0 ≤ x ∧ x < nI (nC (sL S)))) : Jvm.Pilot.CWaverTaxLaw_law_r8537_6f3a17.cl h 12 (some 285) (f_M_isChoice h (some 285) x) = some 0 := by
  rw [e.cl]
  unfold f_M_isChoice
  rw [e.lwR, Option.bind_some]
  cases hb : sLf S with
  | false => rw [if_pos (e.no hb)]
  | true =>
    obtain ⟨i, rfl, -, G, g0, g1, -⟩ := e.ye hb
    rw [if_neg (by simp)]
    by_cases z : x < 0
    · rw [if_pos z]
    · rw [if_neg z, Option.bind_some, g0.gi (by omega) g1.2.2.1, Option.bind_some, if_pos]
      exact Int32.not_lt.mp (fun q => hx ⟨Int32.not_lt.mp z, q⟩)
theorem gV_I {t k : Nat} {a : Option Nat} {x : Int32} (e : gV h t a k = some (.inl x)) : gI h t a k = some x := by unfold gI; rw [e]; rfl
theorem gV_R {t k : Nat} {a x : Option Nat} (e : gV h t a k = some (.inr (.inr x))) : gR h t a k = some x := by unfold gR; rw [e]; rfl
/-- the reference's table and third -/
theorem Mst.tb (e : Mst h ml S) (lf : sLf S = true) (t3 : Int32) : ∃ h1 i, ((sF h 12 (some 285) 21 (.inl t3)).bind fun h1 => (sF h1 12 (some 285) 22 (.inl (third (sL S))))) = some h1 ∧ Mst h1 ml S ∧ ml = some i ∧ ModV h1 285 i t3 (third (sL S)) ∧ MLawC h1 i (sL S) ∧ Fr h h1 285 286 := by
  obtain ⟨h1, a1, b1, f1, g1, -⟩ := e.sf (k := 21) (.inl t3) (by omega)
  obtain ⟨h2, a2, b2, f2, g2, g3⟩ := b1.sf (k := 22) (.inl (third (sL S))) (by omega)
  obtain ⟨i, q1, q2, q3⟩ := b2.ye lf
  exact ⟨h2, i, by rw [a1, Option.bind_some, a2], b2, q1, ⟨by rw [b2.lwR, q1], gV_I (by rw [g3 21 (by omega), g1]), gV_I g2⟩, q3, f1.tr f2⟩
theorem Mst.to (e : Mst h ml S) (lf : sLf S = true) : ∃ h1 i, Jvm.Pilot.CWaverTaxLaw_law_r8537_6f3a17.cl h 12 (some 285) (f_M_asTold h (some 285)) = some h1 ∧ Mst h1 ml S ∧ ml = some i ∧ ModV h1 285 i (-1) (third (sL S)) ∧ MLawC h1 i (sL S) ∧ Fr h h1 285 286 := by
  obtain ⟨h1, a1, b1, f1, g1, -⟩ := e.sf (k := 21) (.inl (-1)) (by omega)
  obtain ⟨h2, a2, b2, f2, g2, g3⟩ := b1.sf (k := 22) (.inl (third (sL S))) (by omega)
  obtain ⟨i, q1, q2, q3⟩ := b2.ye lf
  obtain ⟨i1, p1, p2, G, p3, p4, -⟩ := b1.ye lf
  refine ⟨h2, i, ?_, b2, q1, ⟨by rw [b2.lwR, q1], gV_I (by rw [g3 21 (by omega), g1]), gV_I g2⟩, q3, f1.tr f2⟩
  rw [e.cl]
  unfold f_M_asTold
  rw [a1, Option.bind_some, b1.lwR, Option.bind_some, p1, p3.gi (by omega) p4.2.1, Option.bind_some, a2, Option.bind_some]
theorem Mst.bt (e : Mst h ml S) (lf : sLf S = true) (t : Int32) : ∃ h1 i, Jvm.Pilot.CWaverTaxLaw_law_r8537_6f3a17.cl h 12 (some 285) (f_M_byTable h (some 285) t) = some h1 ∧ Mst h1 ml S ∧ ml = some i ∧ ModV h1 285 i t (third (sL S)) ∧ MLawC h1 i (sL S) ∧ Fr h h1 285 295 := by
  obtain ⟨h1, i, a1, b1, m1, v1, l1, f1⟩ := e.to lf
  obtain ⟨h2, a2, b2, f2, g2, g3⟩ := b1.sf (k := 21) (.inl t) (by omega)
  obtain ⟨i1, q1, q2, q3⟩ := b2.ye lf
  cases m1.symm.trans q1
  refine ⟨h2, i, ?_, b2, m1, ⟨by rw [b2.lwR, m1], gV_I g2, ?_⟩, q3, (f1.tr f2).wd (by omega) (by omega)⟩
  · rw [e.cl]
    unfold f_M_byTable
    rw [a1, Option.bind_some, a2, Option.bind_some]
  · have := v1.2.2
    unfold gI at this ⊢
    rw [g3 22 (by omega)]; exact this
theorem Mst.b3 (e : Mst h ml S) (lf : sLf S = true) (t : Int32) : ∃ h1 i, Jvm.Pilot.CWaverTaxLaw_law_r8537_6f3a17.cl h 12 (some 285) (f_M_byThird h (some 285) t) = some h1 ∧ Mst h1 ml S ∧ ml = some i ∧ ModV h1 285 i (-1) t ∧ MLawC h1 i (sL S) ∧ Fr h h1 285 295 := by
  obtain ⟨h1, i, a1, b1, m1, v1, l1, f1⟩ := e.to lf
  obtain ⟨h2, a2, b2, f2, g2, g3⟩ := b1.sf (k := 22) (.inl t) (by omega)
  obtain ⟨i1, q1, q2, q3⟩ := b2.ye lf
  cases m1.symm.trans q1
  refine ⟨h2, i, ?_, b2, m1, ⟨by rw [b2.lwR, m1], ?_, gV_I g2⟩, q3, (f1.tr f2).wd (by omega) (by omega)⟩
  · rw [e.cl]
    unfold f_M_byThird
    rw [a1, Option.bind_some, a2, Option.bind_some]
  · have := v1.2.1
    unfold gI at this ⊢
    rw [g3 21 (by omega)]; exact this
/-! cases of an argument -/
theorem arg_c (x : Int32) (n : Nat) (hn : n ≤ 900) : (∃ p, p < n ∧ x = nI p) ∨ ¬ (0 ≤ x ∧ x < nI n) := by
  by_cases q : 0 ≤ x ∧ x < nI n
  · exact Or.inl (nI_rng hn q)
  · exact Or.inr q
theorem SOk.ok (o : SOk c S) (lf : sLf S = true) : LawOk (sL S) := (o.2.1 lf).1
theorem SOk.nk (o : SOk c S) (lf : sLf S = true) : NowOk (sL S) (sNw S) := (o.2.1 lf).2.2.1.ok (by omega) (by have := o.2.2.2.2.2; omega)
theorem SOk.lfP (o : SOk c S) {p : Nat} (hp : p < nP (sL S)) : sLf S = true := by
  cases hb : sLf S with
  | true => rfl
  | false => have := (o.2.2.1 hb).2.2.2.1; omega
theorem SOk.lfC (o : SOk c S) {p : Nat} (hp : p < nC (sL S)) : sLf S = true := by
  cases hb : sLf S with
  | true => rfl
  | false => have := (o.2.2.1 hb).2.2.1; omega
theorem SOk.P5 (o : SOk c S) : nP (sL S) ≤ 5 := by
  cases hb : sLf S with
  | true => exact (o.ok hb).2.2.1
  | false => have := (o.2.2.1 hb).2.2.2.1; omega
theorem SOk.C5 (o : SOk c S) : nC (sL S) ≤ 5 := by
  cases hb : sLf S with
  | true => exact (o.ok hb).2.1
  | false => have := (o.2.2.1 hb).2.2.1; omega
end D6
