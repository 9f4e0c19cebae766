/-! the new objects; the law's loop -/
def h00 : PH := List.replicate 100 (99, [])
def hT0 : PH := (f_T_init (h00 ++ [(10, pj_new 10)]) (some 100)).getD []
theorem iT_s : (f_T_init (h00 ++ [(10, pj_new 10)]) (some 100)).isSome = true ∧ hT0.length = 285 := by decide +kernel
theorem sm_gd {X : Type} {o : Option X} {d : X} (h : o.isSome = true) : o = some (o.getD d) := by
  cases o with
  | none => cases h
  | some x => rfl
def L00 : LawD := (fun _ _ => 0, fun _ _ => 0)
def N00 : NowD := (fun _ _ => 0, fun _ => 0)
def S00 : StD := ((0, fun _ => 0), (false, L00), N00, ((0, 0), fun _ => N00, fun _ => N00), (0, 0, 0))
def Fz (i n : Nat) : Bool := decide (hT0[i]? = some (50, (List.range n).map fun _ => (.inl (0 : Int32) : PV)))
theorem Fzf {i n : Nat} (h : Fz i n = true) : Fu hT0 i n (fun _ => 0) := by
  unfold Fz at h
  show hT0[i]? = some (50, (List.range n).map fun _ => (.inl (0 : Int32) : PV))
  exact of_decide_eq_true h
def cq (i : Nat) (c : PC) : Bool := decide (hT0[i]? = some c)
theorem cqf {i : Nat} {c : PC} (h : cq i c = true) : hT0[i]? = some c := by
  unfold cq at h
  exact of_decide_eq_true h
def lwz (b : Nat) : Bool := decide (hT0[b]? = some (1, [.inl 0, .inl 0, .inl 0, .inl 0, .inl 0, .inr (.inr (some (b + 1))), .inr (.inr (some (b + 7))), .inr (.inr (some (b + 8))), .inr (.inr (some (b + 9))), .inr (.inr (some (b + 15))), .inr (.inr (some (b + 16))), .inr (.inr (some (b + 22))), .inr (.inr (some (b + 26)))])) && decide (hT0[b + 1]? = some (53, (List.range 5).map fun i => .inr (.inr (some (b + 1 + 1 + i))))) && decide (hT0[b + 9]? = some (53, (List.range 5).map fun i => .inr (.inr (some (b + 9 + 1 + i))))) && decide (hT0[b + 16]? = some (6, [.inl 0, .inr (.inr (some (b + 17))), .inr (.inr (some (b + 18))), .inr (.inr (some (b + 19))), .inr (.inr (some (b + 20))), .inr (.inr (some (b + 21)))])) && decide (hT0[b + 22]? = some (7, [.inl 0, .inr (.inr (some (b + 23))), .inr (.inr (some (b + 24))), .inr (.inr (some (b + 25)))])) && decide (hT0[b + 26]? = some (9, [.inl 0, .inl 0, .inr (.inr (some (b + 27))), .inr (.inr (some (b + 28)))]))
theorem lwz_t : lwz 102 = true ∧ lwz 131 = true := by decide +kernel
theorem lwa_t : ∀ b, b = 102 ∨ b = 131 → (∀ c, c < 5 → Fz (b + 2 + c) 5 = true) ∧ (∀ c, c < 5 → Fz (b + 10 + c) 5 = true) ∧ (∀ c, c < 5 → Fz (b + 17 + c) 4 = true) ∧ (∀ c, c < 3 → Fz (b + 23 + c) 5 = true) ∧ Fz (b + 7) 5 = true ∧ Fz (b + 8) 5 = true ∧ Fz (b + 15) 5 = true ∧ Fz (b + 27) 6 = true ∧ Fz (b + 28) 6 = true := by
  rintro b (rfl | rfl) <;> decide +kernel
theorem i_law {b : Nat} (hb : b = 102 ∨ b = 131) : LawC hT0 b L00 := by
  obtain ⟨a1, a2, a3, a4, a5, a6, a7, a8, a9⟩ := lwa_t b hb
  have z : lwz b = true := by
    rcases hb with rfl | rfl
    · exact lwz_t.1
    · exact lwz_t.2
  unfold lwz at z
  simp only [Bool.and_eq_true] at z
  obtain ⟨⟨⟨⟨⟨z1, z2⟩, z3⟩, z4⟩, z5⟩, z6⟩ := z
  exact ⟨of_decide_eq_true z1, of_decide_eq_true z2, fun c hc => Fzf (a1 c hc), Fzf a5, Fzf a6, of_decide_eq_true z3, fun c hc => Fzf (a2 c hc), Fzf a7, ⟨of_decide_eq_true z4, Fzf (a3 0 (by omega)), Fzf (a3 1 (by omega)), Fzf (a3 2 (by omega)), Fzf (a3 3 (by omega)), Fzf (a3 4 (by omega))⟩, ⟨of_decide_eq_true z5, Fzf (a4 0 (by omega)), Fzf (a4 1 (by omega)), Fzf (a4 2 (by omega))⟩, ⟨of_decide_eq_true z6, Fzf a8, Fzf a9⟩⟩
def nwz (b : Nat) : Bool := decide (hT0[b]? = some (2, [.inl 0, .inl 0, .inl 0, .inr (.inr (some (b + 1))), .inr (.inr (some (b + 2))), .inr (.inr (some (b + 3))), .inr (.inr (some (b + 4)))])) && Fz (b + 1) 5 && Fz (b + 2) 5 && Fz (b + 3) 5 && Fz (b + 4) 5
theorem i_now {b : Nat} (z : nwz b = true) : NowC hT0 b N00 := by
  unfold nwz at z
  simp only [Bool.and_eq_true] at z
  obtain ⟨⟨⟨⟨z1, z2⟩, z3⟩, z4⟩, z5⟩ := z
  exact ⟨of_decide_eq_true z1, Fzf z2, Fzf z3, Fzf z4, Fzf z5⟩
theorem nwz_t : nwz 165 = true ∧ nwz 170 = true ∧ (∀ i, i < 16 → nwz (190 + 5 * i) = true) ∧ ∀ i, i < 3 → nwz (270 + 5 * i) = true := by decide +kernel
theorem obz_t : cq 100 (10, [.inr (.inr (some 101)), .inl 0, .inr (.inr (some 102)), .inr (.inr (some 131)), .inr (.inr (some 160)), .inl 0, .inr (.inr (some 165)), .inr (.inr (some 170)), .inr (.inr (some 175)), .inr (.inr (some 176)), .inr (.inr (some 177)), .inr (.inr (some 187)), .inl 0, .inl 0, .inl 0]) = true ∧ cq 160 (5, [.inr (.inr (some 101)), .inl 0, .inr (.inr (some 131)), .inl 0, .inl 0, .inl 0, .inl 0, .inl 0, .inl 0, .inl 0, .inr (.inr (some 161)), .inr (.inr (some 162)), .inr (.inr (some 163)), .inr (.inr (some 164))]) = true ∧ cq 175 (0, [.inr (.inr (some 102)), .inr (.inr (some 165)), .inl (-1), .inl 0]) = true ∧ cq 176 (4, [.inr (.inr (some 102)), .inr (.inr (some 175)), .inr (.inr (some 170)), .inl 0]) = true ∧ cq 177 (8, [.inr (.inr (some 102)), .inr (.inr (some 175)), .inr (.inr (some 170)), .inl 0, .inl 0, .inr (.inr (some 178)), .inr (.inr (some 179)), .inr (.inr (some 180)), .inr (.inr (some 181))]) = true := by decide +kernel
theorem tpz_t : cq 101 (52, (List.range 900).map fun _ => .inl 0) = true := by decide +kernel
theorem ppz_t : cq 181 (53, (List.range 5).map fun i => .inr (.inr (some (182 + i)))) = true ∧ cq 187 (3, [.inr (.inr (some 188)), .inr (.inr (some 189)), .inl 0, .inl 0]) = true ∧ cq 188 (54, (List.range 16).map fun i => .inr (.inr (some (190 + 5 * i)))) = true ∧ cq 189 (54, (List.range 3).map fun i => .inr (.inr (some (270 + 5 * i)))) = true := by decide +kernel
theorem arz_t : (∀ i, i < 4 → Fz (161 + i) 16 = true) ∧ (∀ i, i < 3 → Fz (178 + i) 5 = true) ∧ (∀ i, i < 5 → Fz (182 + i) 5 = true) := by decide +kernel
theorem i_CI : CI hT0 102 S00 := by
  obtain ⟨o1, o2, o3, o4, o5⟩ := obz_t
  have t1 := tpz_t
  obtain ⟨p1, p2, p3, p4⟩ := ppz_t
  obtain ⟨n1, n2, n3, n4⟩ := nwz_t
  obtain ⟨a1, a2, a3⟩ := arz_t
  refine ⟨Or.inl rfl, cqf o1, cqf t1, i_law (Or.inl rfl), ⟨L00, i_law (Or.inr rfl)⟩, ?_, i_now n1, ⟨⟨N00, i_now n2⟩, ⟨_, _, _, _, cqf o3⟩, ?_, ?_⟩, ?_⟩
  · refine ⟨fun k => if k = 0 then .inr (.inr (some 101)) else if k = 2 then .inr (.inr (some 131)) else if k < 10 then .inl 0 else .inr (.inr (some (151 + k))), cqf o2, ⟨rfl, fun k q1 q2 q3 => ⟨0, ?_⟩⟩, rfl, rfl, rfl, rfl, ⟨_, Fzf (a1 0 (by omega))⟩, ⟨_, Fzf (a1 1 (by omega))⟩, ⟨_, Fzf (a1 2 (by omega))⟩, ⟨_, Fzf (a1 3 (by omega))⟩⟩
    dsimp only
    rw [if_neg (by omega), if_neg q3, if_pos q2]
  · exact ⟨fun k => if k = 0 then .inr (.inr (some 102)) else if k = 1 then .inr (.inr (some 175)) else if k = 2 then .inr (.inr (some 170)) else .inl 0, cqf o4, rfl, rfl⟩
  · exact ⟨fun k => if k = 0 then .inr (.inr (some 102)) else if k = 1 then .inr (.inr (some 175)) else if k = 2 then .inr (.inr (some 170)) else if k < 5 then .inl 0 else .inr (.inr (some (173 + k))), cqf o5, rfl, rfl, rfl, rfl, rfl, rfl, ⟨_, Fzf (a2 0 (by omega))⟩, ⟨_, Fzf (a2 1 (by omega))⟩, ⟨_, Fzf (a2 2 (by omega))⟩, cqf p1, fun k hk => ⟨_, Fzf (a3 k hk)⟩⟩
  · exact ⟨fun i => i, cqf p2, cqf p3, cqf p4, fun i hi => hi, fun i j _ _ q => q, fun i hi => i_now (n3 i hi), fun i hi => i_now (n4 i hi)⟩
