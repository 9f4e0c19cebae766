/-! the class's cells: law, desk, the object itself -/
def LawC (h : PH) (b : Nat) (L : LawD) : Prop :=
  h[b]? = some (1, [.inl (root L), .inl (third L), .inl (nI (nC L)), .inl (nI (nP L)), .inl (nI (nK L)), .inr (.inr (some (b + 1))), .inr (.inr (some (b + 7))), .inr (.inr (some (b + 8))), .inr (.inr (some (b + 9))), .inr (.inr (some (b + 15))), .inr (.inr (some (b + 16))), .inr (.inr (some (b + 22))), .inr (.inr (some (b + 26)))]) ∧
  h[b + 1]? = some (53, (List.range 5).map fun i => .inr (.inr (some (b + 1 + 1 + i)))) ∧ (∀ c, c < 5 → Fu h (b + 2 + c) 5 (far L c)) ∧
  Fu h (b + 7) 5 (srt L) ∧ Fu h (b + 8) 5 (fun p => nI (frs L p)) ∧
  h[b + 9]? = some (53, (List.range 5).map fun i => .inr (.inr (some (b + 9 + 1 + i)))) ∧ (∀ p, p < 5 → Fu h (b + 10 + p) 5 (wor L p)) ∧ Fu h (b + 15) 5 (L.1 9) ∧
  (h[b + 16]? = some (6, [.inl (nI (nR L)), .inr (.inr (some (b + 17))), .inr (.inr (some (b + 18))), .inr (.inr (some (b + 19))), .inr (.inr (some (b + 20))), .inr (.inr (some (b + 21)))]) ∧ Fu h (b + 17) 4 (fun k => nI (rpe L k)) ∧ Fu h (b + 18) 4 (fun k => nI (rch L k)) ∧ Fu h (b + 19) 4 (rho L) ∧ Fu h (b + 20) 4 (rod L) ∧ Fu h (b + 21) 4 (rmo L)) ∧
  (h[b + 22]? = some (7, [.inl (nI (nQ L)), .inr (.inr (some (b + 23))), .inr (.inr (some (b + 24))), .inr (.inr (some (b + 25)))]) ∧ Fu h (b + 23) 5 (fun k => nI (cpe L k)) ∧ Fu h (b + 24) 5 (cam L) ∧ Fu h (b + 25) 5 (cho L)) ∧
  (h[b + 26]? = some (9, [.inl (nI (nS L)), .inl (nI (nL L)), .inr (.inr (some (b + 27))), .inr (.inr (some (b + 28)))]) ∧ Fu h (b + 27) 6 (crd L) ∧ Fu h (b + 28) 6 (nea L))
theorem LawC.lc (b : Nat) (L : LawD) : Lc (fun h => LawC h b L) b (b + 29) := by
  intro h h1 q e
  obtain ⟨e0, e1, e2, e3, e4, e5, e6, e7, ⟨r0, r1, r2, r3, r4, r5⟩, ⟨c0, c1, c2, c3⟩, ⟨s0, s1, s2⟩⟩ := e
  have t : ∀ {i : Nat} {x : Option PC}, b ≤ i → i < b + 29 → h[i]? = x → h1[i]? = x := fun a c d => (q _ a c).trans d
  exact ⟨t (by omega) (by omega) e0, t (by omega) (by omega) e1, fun c hc => t (by omega) (by omega) (e2 c hc), t (by omega) (by omega) e3, t (by omega) (by omega) e4, t (by omega) (by omega) e5, fun c hc => t (by omega) (by omega) (e6 c hc), t (by omega) (by omega) e7,
    ⟨t (by omega) (by omega) r0, t (by omega) (by omega) r1, t (by omega) (by omega) r2, t (by omega) (by omega) r3, t (by omega) (by omega) r4, t (by omega) (by omega) r5⟩, ⟨t (by omega) (by omega) c0, t (by omega) (by omega) c1, t (by omega) (by omega) c2, t (by omega) (by omega) c3⟩, ⟨t (by omega) (by omega) s0, t (by omega) (by omega) s1, t (by omega) (by omega) s2⟩⟩
theorem aR_o {h : PH} {t i n : Nat} {f : Nat → Nat} (e : h[i]? = some (t, (List.range n).map fun j => .inr (.inr (some (f j))))) {c : Nat} (hc : c < n) (hn : n < 2 ^ 31) : aR h t (some i) (nI c) = some (some (f c)) := by
  unfold aR pj_el
  rw [pj_at_o e, Option.bind_some, if_neg (nI_pos (by omega)), nI_clamp (by omega)]
  simp [hc, pj_r]
theorem LawC.v {h : PH} {b : Nat} {L : LawD} (e : LawC h b L) (ok : LawOk L) : LawV h b L := by
  obtain ⟨e0, e1, e2, e3, e4, e5, e6, e7, ⟨r0, r1, r2, r3, r4, r5⟩, ⟨c0, c1, c2, c3⟩, ⟨s0, s1, s2⟩⟩ := e
  obtain ⟨-, k1, k2, k3, k4, k5, -⟩ := ok
  refine ⟨⟨gI_o e0 rfl, gI_o e0 rfl, gI_o e0 rfl, gI_o e0 rfl, gI_o e0 rfl⟩, ⟨_, gR_o e0 rfl, fun c hc => ⟨_, aR_o e1 (by omega) (by decide), ?_⟩⟩, ⟨_, gR_o e0 rfl, e3.ar k2 (by decide)⟩, ⟨_, gR_o e0 rfl, e4.ar k2 (by decide)⟩, ⟨_, gR_o e0 rfl, fun c hc => ⟨_, aR_o e5 (by omega) (by decide), ?_⟩⟩,
    ⟨_, gR_o e0 rfl, gI_o r0 rfl, ⟨_, gR_o r0 rfl, r1.ar k3 (by decide)⟩, ⟨_, gR_o r0 rfl, r2.ar k3 (by decide)⟩, ⟨_, gR_o r0 rfl, r3.ar k3 (by decide)⟩, ⟨_, gR_o r0 rfl, r4.ar k3 (by decide)⟩, ⟨_, gR_o r0 rfl, r5.ar k3 (by decide)⟩⟩,
    ⟨_, gR_o e0 rfl, gI_o c0 rfl, ⟨_, gR_o c0 rfl, c1.ar k4 (by decide)⟩, ⟨_, gR_o c0 rfl, c2.ar k4 (by decide)⟩, ⟨_, gR_o c0 rfl, c3.ar k4 (by decide)⟩⟩,
    ⟨_, gR_o e0 rfl, gI_o s0 rfl, gI_o s0 rfl, ⟨_, gR_o s0 rfl, s1.ar k5 (by decide)⟩, ⟨_, gR_o s0 rfl, s2.ar k5 (by decide)⟩⟩⟩
  · rw [show b + 1 + 1 + c = b + 2 + c by omega]; exact (e2 c (by omega)).ar k1 (by decide)
  · rw [show b + 9 + 1 + c = b + 10 + c by omega]; exact (e6 c (by omega)).ar k1 (by decide)
/-- the desk, whatever it looked at -/
def DeskC (h : PH) (a b : Option Nat) (x y : Int32) : Prop := h[175]? = some (0, [.inr (.inr a), .inr (.inr b), .inl x, .inl y])
theorem cls_look {h : PH} {a b : Option Nat} {x y th : Int32} {lw nw : Nat} (e : DeskC h a b x y) (hl : gI h 1 (some lw) 1 = some th) (hne : lw ≠ 175) : ∃ h1, f_Desk_look h (some 175) (some lw) (some nw) = some h1 ∧ DeskC h1 (some lw) (some nw) (-1) th ∧ Fr h h1 175 176 := by
  unfold DeskC at e
  refine ⟨h.set 175 (0, [.inr (.inr (some lw)), .inr (.inr (some nw)), .inl (-1), .inl th]), ?_, st_o e, Fr.st⟩
  unfold f_Desk_look
  rw [sF_o e (by simp), Option.bind_some]
  have e1 := st_o (c1 := (0, ([.inr (.inr a), .inr (.inr b), .inl x, .inl y] : List PV).set 0 (.inr (.inr (some lw))))) e
  rw [sF_o e1 (by simp), Option.bind_some]
  have e2 := st_o (c1 := (0, (([.inr (.inr a), .inr (.inr b), .inl x, .inl y] : List PV).set 0 (.inr (.inr (some lw)))).set 1 (.inr (.inr (some nw))))) e1
  rw [sF_o e2 (by simp), Option.bind_some]
  have e3 := st_o (c1 := (0, ((([.inr (.inr a), .inr (.inr b), .inl x, .inl y] : List PV).set 0 (.inr (.inr (some lw)))).set 1 (.inr (.inr (some nw)))).set 2 (.inl (-1)))) e2
  rw [show gI _ 1 (some lw) 1 = some th from by
    rw [gI_c (h := h)]
    · exact hl
    · simp only [List.getElem?_set_ne hne.symm]]
  rw [Option.bind_some, sF_o e3 (by simp), Option.bind_some]
  simp only [List.set_set]
  rfl
theorem DeskC.v {h : PH} {lw nw : Nat} {x y : Int32} (e : DeskC h (some lw) (some nw) x y) : DeskV h 175 lw nw x y := ⟨gR_o e rfl, gR_o e rfl, gI_o e rfl, gI_o e rfl⟩
/-- the object: tape, law, spare; lawful, trouble, fault, place -/
def ObjC (h : PH) (tp : Int32) (lw sp : Nat) (lf tr fa pl : Int32) : Prop := h[100]? = some (10, [.inr (.inr (some 101)), .inl tp, .inr (.inr (some lw)), .inr (.inr (some sp)), .inr (.inr (some 160)), .inl lf, .inr (.inr (some 165)), .inr (.inr (some 170)), .inr (.inr (some 175)), .inr (.inr (some 176)), .inr (.inr (some 177)), .inr (.inr (some 187)), .inl tr, .inl fa, .inl pl])
section D3
variable {h : PH} {tp lf tr fa pl : Int32} {lw sp : Nat} {L : LawD} {N : NowD}
theorem cls_fine (e : ObjC h tp lw sp lf tr fa pl) (x : Int32) : f_T_fine h (some 100) x = some (x, h.set 100 (10, [.inr (.inr (some 101)), .inl tp, .inr (.inr (some lw)), .inr (.inr (some sp)), .inr (.inr (some 160)), .inl lf, .inr (.inr (some 165)), .inr (.inr (some 170)), .inr (.inr (some 175)), .inr (.inr (some 176)), .inr (.inr (some 177)), .inr (.inr (some 187)), .inl 0, .inl fa, .inl pl])) := by
  unfold f_T_fine
  rw [sF_o e (by simp)]
  rfl
theorem cls_refuse (e : ObjC h tp lw sp lf tr fa pl) (x : Int32) : f_T_refuse h (some 100) x = some (-1, h.set 100 (10, [.inr (.inr (some 101)), .inl tp, .inr (.inr (some lw)), .inr (.inr (some sp)), .inr (.inr (some 160)), .inl lf, .inr (.inr (some 165)), .inr (.inr (some 170)), .inr (.inr (some 175)), .inr (.inr (some 176)), .inr (.inr (some 177)), .inr (.inr (some 187)), .inl x, .inl fa, .inl pl])) := by
  unfold f_T_refuse
  rw [sF_o e (by simp)]
  rfl
theorem fineQ (e : ObjC h tp lw sp lf tr fa pl) (x : Int32) : ∃ h1, f_T_fine h (some 100) x = some (x, h1) ∧ ObjC h1 tp lw sp lf 0 fa pl ∧ Fr h h1 100 101 := ⟨_, cls_fine e x, st_o e, Fr.st⟩
theorem refuseQ (e : ObjC h tp lw sp lf tr fa pl) (x : Int32) : ∃ h1, f_T_refuse h (some 100) x = some (-1, h1) ∧ ObjC h1 tp lw sp lf x fa pl ∧ Fr h h1 100 101 := ⟨_, cls_refuse e x, st_o e, Fr.st⟩
theorem cls_isPerson (e : ObjC h tp lw sp lf tr fa pl) (hL : gI h 1 (some lw) 3 = some (nI (nP L))) (x : Int32) : f_T_isPerson h (some 100) x = some (if 0 ≤ x ∧ x < nI (nP L) then 1 else 0) := by
  unfold f_T_isPerson
  rw [gR_o e rfl, Option.bind_some, hL, Option.bind_some]
  by_cases z : x < 0
  · rw [if_pos z, if_neg (fun q => absurd z (Int32.not_lt.mpr q.1))]
  · rw [if_neg z]
    by_cases y : nI (nP L) ≤ x
    · rw [if_pos y, if_neg (fun q => absurd q.2 (Int32.not_lt.mpr y))]
    · rw [if_neg y, if_pos ⟨Int32.not_lt.mp z, Int32.not_le.mp y⟩]
theorem cls_isChoice (e : ObjC h tp lw sp lf tr fa pl) (hL : gI h 1 (some lw) 2 = some (nI (nC L))) (x : Int32) : f_T_isChoice h (some 100) x = some (if 0 ≤ x ∧ x < nI (nC L) then 1 else 0) := by
  unfold f_T_isChoice
  rw [gR_o e rfl, Option.bind_some, hL, Option.bind_some]
  by_cases z : x < 0
  · rw [if_pos z, if_neg (fun q => absurd z (Int32.not_lt.mpr q.1))]
  · rw [if_neg z]
    by_cases y : nI (nC L) ≤ x
    · rw [if_pos y, if_neg (fun q => absurd q.2 (Int32.not_lt.mpr y))]
    · rw [if_neg y, if_pos ⟨Int32.not_lt.mp z, Int32.not_le.mp y⟩]
/-- a number in range is one of them -/
theorem nI_rng {x : Int32} {n : Nat} (hn : n ≤ 900) (q : 0 ≤ x ∧ x < nI n) : ∃ p, p < n ∧ x = nI p := by
  obtain ⟨j, hj, rfl⟩ := nI_of (Int32.not_lt.mpr q.1)
  exact ⟨j, (nI_ltI hj (by omega)).mp q.2, rfl⟩
theorem cls_present {a b : Option Nat} {x y : Int32} (e : ObjC h tp lw sp lf tr fa pl) (d : DeskC h a b x y) (hl : gI h 1 (some lw) 1 = some (third L)) (hne : lw ≠ 175) : ∃ h1, f_T_present h (some 100) = some (some 175, h1) ∧ DeskC h1 (some lw) (some 165) (-1) (third L) ∧ Fr h h1 175 176 := by
  obtain ⟨h1, s1, d1, F1⟩ := cls_look (nw := 165) d hl hne
  refine ⟨h1, ?_, d1, F1⟩
  unfold f_T_present
  rw [gR_o e rfl, Option.bind_some, gR_o e rfl, Option.bind_some, gR_o e rfl, Option.bind_some, cl_o d, s1, Option.bind_some, gR_o ((F1.2 100 (by omega)).trans e) rfl, Option.bind_some]
end D3
