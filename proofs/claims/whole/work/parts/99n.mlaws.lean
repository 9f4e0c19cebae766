/-! the reference: a new law, laws -/
def celM (j : Nat) : PC := if j = 15 then (51, List.replicate 16 (.inr (.inl 0))) else (50, List.replicate (szR j) (.inl 0))
def IniS (h h0 : PH) (i J : Nat) : Prop := ∃ G, Fo h i 11 27 G ∧ (∀ j, j < J → G (10 + j) = .inr (.inr (some (i + 1 + j)))) ∧ (∀ k, k < 10 → G k = .inl (if k = 0 then -1 else 0)) ∧ h.length = i + 1 + J ∧ (∀ j, 1 ≤ j → j ≤ J → h[i + j]? = some (celM j)) ∧ ∀ q, q < i → h[q]? = h0[q]?
section Z8
variable {h h0 h1 : PH} {i J : Nat}
theorem IniS.step (e : IniS h h0 i J) (hJ : J < 17) : ∃ h1, sF (h ++ [celM (J + 1)]) 11 (some i) (10 + J) (.inr (.inr (some h.length))) = some h1 ∧ IniS h1 h0 i (J + 1) := by
  obtain ⟨G, a, b, c, d, f, g⟩ := e
  have a' : Fo (h ++ [celM (J + 1)]) i 11 27 G := (List.getElem?_append_left (by omega)).trans a
  obtain ⟨h1, x1, x2, x3⟩ := a'.set (k := 10 + J) (by omega) (.inr (.inr (some h.length)))
  refine ⟨h1, x1, _, x2, fun j hj => ?_, fun k hk => (upF_n (by omega)).trans (c k hk), ?_, fun j p q => ?_, fun q hq => ?_⟩
  · by_cases z : j = J
    · subst z; rw [upF_s, d]
    · exact (upF_n (by omega)).trans (b j (by omega))
  · rw [x3.1, List.length_append, d]; rfl
  · rw [x3.2 (i + j) (by omega)]
    by_cases z : j = J + 1
    · subst z
      rw [List.getElem?_append_right (by omega), d, show i + (J + 1) - (i + 1 + J) = 0 by omega]
      rfl
    · rw [List.getElem?_append_left (by omega)]; exact f j p (by omega)
  · rw [x3.2 q (by omega), List.getElem?_append_left (by omega)]; exact g q hq
theorem Fu.rep {a n : Nat} {x : Int32} (e : h[a]? = some (50, List.replicate n (.inl x))) : Fu h a n (fun _ => x) := by
  unfold Fu
  rw [e, List.map_const', List.length_range]
theorem ml_init (h0 : PH) : ∃ h1, f_ML_init (h0 ++ [(11, pj_new 11)]) (some h0.length) = some h1 ∧ h1.length = h0.length + 18 ∧ (∀ q, q < h0.length → h1[q]? = h0[q]?) ∧ ∃ G W, MCl h1 h0.length G (fun j _ => if j = 4 then -1 else 0) W ∧ (∀ k, k < 10 → G k = .inl (if k = 0 then -1 else 0)) := by
  have i0 : Fo (h0 ++ [(11, pj_new 11)]) h0.length 11 27 (fun k => if k < 10 then .inl 0 else .inr (.inr none)) := by
    unfold Fo
    rw [List.getElem?_append_right (Nat.le_refl _), Nat.sub_self]
    rfl
  obtain ⟨h1, s1, x2, x3⟩ := i0.set (k := 0) (by omega) (.inl (-1))
  have e1 : IniS h1 h0 h0.length 0 := by
    refine ⟨_, x2, fun j hj => absurd hj (Nat.not_lt_zero j), fun k hk => ?_, by rw [x3.1, List.length_append]; rfl, fun j p q => by omega, fun q hq => by rw [x3.2 q (by omega), List.getElem?_append_left hq]⟩
    by_cases z : k = 0
    · rw [z]; rfl
    · rw [upF_n z]
      show (if k < 10 then Sum.inl 0 else _) = _
      rw [if_pos hk, if_neg z]
  obtain ⟨h2, s2, e2⟩ := e1.step (by omega)
  obtain ⟨h3, s3, e3⟩ := e2.step (by omega)
  obtain ⟨h4, s4, e4⟩ := e3.step (by omega)
  obtain ⟨h5, s5, e5⟩ := e4.step (by omega)
  obtain ⟨h6, s6, e6⟩ := e5.step (by omega)
  obtain ⟨h7, s7, e7⟩ := e6.step (by omega)
  obtain ⟨h8, s8, e8⟩ := e7.step (by omega)
  obtain ⟨h9, s9, e9⟩ := e8.step (by omega)
  obtain ⟨h10, s10, e10⟩ := e9.step (by omega)
  obtain ⟨h11, s11, e11⟩ := e10.step (by omega)
  obtain ⟨h12, s12, e12⟩ := e11.step (by omega)
  obtain ⟨h13, s13, e13⟩ := e12.step (by omega)
  obtain ⟨h14, s14, e14⟩ := e13.step (by omega)
  obtain ⟨h15, s15, e15⟩ := e14.step (by omega)
  obtain ⟨h16, s16, e16⟩ := e15.step (by omega)
  obtain ⟨h17, s17, e17⟩ := e16.step (by omega)
  obtain ⟨h18, s18, e18⟩ := e17.step (by omega)
  obtain ⟨G, a, b, c, d, f, g⟩ := e18
  obtain ⟨x, l1, l2, l3⟩ : ∃ x, pj_it (X := PH) (fun s19 : Int32 × PH => if (25 : Int32) ≤ s19.1 then (some (.inr s19.2)) else ((gR s19.2 11 (some h0.length) 13).bind fun v21 => (sA s19.2 50 v21 s19.1 (.inl (-1 : Int32))).bind fun h22 => some (.inl ((s19.1 + (1 : Int32)), h22)))) FU ((0 : Int32), h18) = some x ∧ Fu x (h0.length + 4) 25 (fun _ => -1) ∧ Fr h18 x (h0.length + 4) (h0.length + 5) := by
    refine pj_inv (fun k s => s.1 = nI k ∧ (∃ f, Fu s.2 (h0.length + 4) 25 f ∧ ∀ q, q < k → f q = -1) ∧ Fr h18 s.2 (h0.length + 4) (h0.length + 5)) _ 25 (by omega) ⟨rfl, ⟨_, Fu.rep (f 4 (by omega) (by omega)), fun q hq => absurd hq (Nat.not_lt_zero q)⟩, Fr.rf⟩ ?_ ?_
    · rintro k ⟨k1, hh⟩ hk ⟨rfl, ⟨f1, y1, y2⟩, y3⟩
      left
      dsimp only at y1 y3 ⊢
      obtain ⟨h22, z1, z2, z3⟩ := y1.set hk (by decide) (-1)
      rw [if_neg (show ¬ (25 : Int32) ≤ nI k from nI_nle' (b := 25) hk (by omega)), (a.fr y3 (by omega)).gr (by omega) (b 3 (by omega)), Option.bind_some, show h0.length + 1 + 3 = h0.length + 4 from rfl, z1, Option.bind_some, nI_s]
      refine ⟨_, rfl, rfl, ⟨_, z2, fun q hq => ?_⟩, y3.tr z3⟩
      unfold up1
      by_cases w : q = k
      · rw [if_pos w]
      · rw [if_neg w]; exact y2 q (by omega)
    · rintro ⟨k1, hh⟩ ⟨rfl, ⟨f1, y1, y2⟩, y3⟩
      dsimp only at y1 y3 ⊢
      rw [if_pos (show (25 : Int32) ≤ nI 25 by decide)]
      exact ⟨_, rfl, y1.eq (fun q hq => y2 q hq), y3⟩
  refine ⟨x, ?_, by rw [l3.1, d], fun q hq => (l3.2 q (by omega)).trans (g q hq), G, fun _ => .inr (.inl 0), ⟨a.fr l3 (by omega), b, fun j p q w => ?_, ?_⟩, c⟩
  · unfold f_ML_init
    rw [Option.bind_some, s1, Option.bind_some]
    have t2 : sF (h1 ++ [(50, List.replicate 25 (.inl 0))]) 11 (some h0.length) 10 (.inr (.inr (some h1.length))) = some h2 := s2
    have t3 : sF (h2 ++ [(50, List.replicate 5 (.inl 0))]) 11 (some h0.length) 11 (.inr (.inr (some h2.length))) = some h3 := s3
    have t4 : sF (h3 ++ [(50, List.replicate 5 (.inl 0))]) 11 (some h0.length) 12 (.inr (.inr (some h3.length))) = some h4 := s4
    have t5 : sF (h4 ++ [(50, List.replicate 25 (.inl 0))]) 11 (some h0.length) 13 (.inr (.inr (some h4.length))) = some h5 := s5
    have t6 : sF (h5 ++ [(50, List.replicate 4 (.inl 0))]) 11 (some h0.length) 14 (.inr (.inr (some h5.length))) = some h6 := s6
    have t7 : sF (h6 ++ [(50, List.replicate 4 (.inl 0))]) 11 (some h0.length) 15 (.inr (.inr (some h6.length))) = some h7 := s7
    have t8 : sF (h7 ++ [(50, List.replicate 4 (.inl 0))]) 11 (some h0.length) 16 (.inr (.inr (some h7.length))) = some h8 := s8
    have t9 : sF (h8 ++ [(50, List.replicate 4 (.inl 0))]) 11 (some h0.length) 17 (.inr (.inr (some h8.length))) = some h9 := s9
    have t10 : sF (h9 ++ [(50, List.replicate 4 (.inl 0))]) 11 (some h0.length) 18 (.inr (.inr (some h9.length))) = some h10 := s10
    have t11 : sF (h10 ++ [(50, List.replicate 5 (.inl 0))]) 11 (some h0.length) 19 (.inr (.inr (some h10.length))) = some h11 := s11
    have t12 : sF (h11 ++ [(50, List.replicate 5 (.inl 0))]) 11 (some h0.length) 20 (.inr (.inr (some h11.length))) = some h12 := s12
    have t13 : sF (h12 ++ [(50, List.replicate 5 (.inl 0))]) 11 (some h0.length) 21 (.inr (.inr (some h12.length))) = some h13 := s13
    have t14 : sF (h13 ++ [(50, List.replicate 6 (.inl 0))]) 11 (some h0.length) 22 (.inr (.inr (some h13.length))) = some h14 := s14
    have t15 : sF (h14 ++ [(50, List.replicate 6 (.inl 0))]) 11 (some h0.length) 23 (.inr (.inr (some h14.length))) = some h15 := s15
    have t16 : sF (h15 ++ [(51, List.replicate 16 (.inr (.inl 0)))]) 11 (some h0.length) 24 (.inr (.inr (some h15.length))) = some h16 := s16
    have t17 : sF (h16 ++ [(50, List.replicate 16 (.inl 0))]) 11 (some h0.length) 25 (.inr (.inr (some h16.length))) = some h17 := s17
    have t18 : sF (h17 ++ [(50, List.replicate 16 (.inl 0))]) 11 (some h0.length) 26 (.inr (.inr (some h17.length))) = some h18 := s18
    rw [t2, Option.bind_some, t3, Option.bind_some, t4, Option.bind_some, t5, Option.bind_some, t6, Option.bind_some, t7, Option.bind_some, t8, Option.bind_some, t9, Option.bind_some, t10, Option.bind_some, t11, Option.bind_some, t12, Option.bind_some, t13, Option.bind_some, t14, Option.bind_some, t15, Option.bind_some, t16, Option.bind_some, t17, Option.bind_some, t18, Option.bind_some, l1, Option.bind_some]
  · by_cases z : j = 4
    · subst z; exact l2
    · have := f j p (by omega)
      unfold celM at this
      rw [if_neg w] at this
      refine ((Fu.rep this).fr l3 (by omega)).eq (fun q _ => ?_)
      show (0 : Int32) = if j = 4 then -1 else 0
      rw [if_neg z]
  · have := (l3.2 (h0.length + 15) (by omega)).trans (f 15 (by omega) (by omega))
    unfold Fo
    rw [this]
    rfl
theorem wp_0 (L : LawD) (c : Nat) : (wpL L).2 0 c = 0 := by
  show (if 0 = 0 then 0 else L.2 0 c) = 0
  exact if_pos rfl
theorem wp_1 (L : LawD) {a : Nat} (c : Nat) (h : a = 0 ∨ a = 8 ∨ a = 9 ∨ (10 ≤ a ∧ a < 15) ∨ (20 ≤ a ∧ a < 25)) : (wpL L).1 a c = 0 := if_pos h
theorem re_ini (L : LawD) {G W : Nat → PV} (hG : ∀ k, k < 10 → G k = .inl (if k = 0 then -1 else 0)) : RelL G (fun j _ => if j = 4 then -1 else 0) W false (wpL L) N0 := by
  have z : ∀ k c, k < 10 → ¬ k = 0 → G k = .inl (nI ((wpL L).2 0 c)) := by
    intro k c h1 h2
    rw [hG k h1, if_neg h2, wp_0, nI_0]
  refine ⟨⟨hG 0 (by omega), fun q => (by cases q)⟩, ⟨z 2 0 (by omega) (by omega), z 3 1 (by omega) (by omega), z 4 2 (by omega) (by omega), z 5 3 (by omega) (by omega), z 6 4 (by omega) (by omega), z 7 5 (by omega) (by omega), z 8 6 (by omega) (by omega), ?_⟩, ?_, ?_, ?_, ?_, ?_, ?_, ?_⟩
  · rw [hG 9 (by omega)]; rfl
  · intro c d hc hd
    show (0 : Int32) = (wpL L).1 (10 + c) d
    rw [wp_1 L d (by omega)]
  · intro p hp
    have hp : p < (wpL L).2 0 1 := hp
    rw [wp_0] at hp; omega
  · intro p c hp hc
    rw [show (wpL L).1 9 p = 0 from wp_1 L p (by omega), if_neg]
    · rfl
    · have : c = 0 ∨ c = 1 ∨ c = 2 ∨ c = 3 ∨ c = 4 := by omega
      rcases this with rfl | rfl | rfl | rfl | rfl <;> decide
  · intro p hp
    have hp : p < (wpL L).2 0 3 := hp
    rw [wp_0] at hp; omega
  · intro p hp
    have hp : p < (wpL L).2 0 4 := hp
    rw [wp_0] at hp; omega
  · intro p hp
    have hp : p < (wpL L).2 0 5 := hp
    rw [wp_0] at hp; omega
  · intro k hk; exact absurd hk (Nat.not_lt_zero k)
theorem bt_5 : ∀ b, b < 32 → ∀ c, c < 5 → (bitN (nI b) c = 1 ↔ b.testBit c = true) := by decide +kernel
/-- a law as read is a law -/
theorem ml_law {G W : Nat → PV} {f : Nat → Nat → Int32} {L : LawD} {N N1 : NmD} (e : MCl h i G f W) (d : RelL G f W true L N) (I : LawI L N1 true) : MLawC h i L := by
  obtain ⟨⟨r0, r01⟩, ⟨g2, g3, g4, g5, g6, g7, g8, g9⟩, r1, r2, r3, r4, r5, r6, r7⟩ := d
  obtain ⟨a, b, c, w⟩ := e
  have i1 := I.1
  refine ⟨G, a, ⟨r0, r01 rfl, g2, g3, g4, g5, g6, g7, g8⟩, b, ⟨_, c 1 (by omega) (by omega) (by omega), fun p q hp hq => r1 p q (by omega) (by omega)⟩, ⟨_, c 2 (by omega) (by omega) (by omega), fun p hp => (r2 p hp).1⟩, ⟨_, c 3 (by omega) (by omega) (by omega), fun p hp => (r2 p hp).2⟩, ⟨_, c 4 (by omega) (by omega) (by omega), fun p q hp hq => ?_⟩,
    ⟨⟨_, c 5 (by omega) (by omega) (by omega), fun p hp => (r4 p hp).1⟩, ⟨_, c 6 (by omega) (by omega) (by omega), fun p hp => (r4 p hp).2.1⟩, ⟨_, c 7 (by omega) (by omega) (by omega), fun p hp => (r4 p hp).2.2.1⟩, ⟨_, c 8 (by omega) (by omega) (by omega), fun p hp => (r4 p hp).2.2.2.1⟩, ⟨_, c 9 (by omega) (by omega) (by omega), fun p hp => (r4 p hp).2.2.2.2⟩⟩,
    ⟨⟨_, c 10 (by omega) (by omega) (by omega), fun p hp => (r5 p hp).1⟩, ⟨_, c 11 (by omega) (by omega) (by omega), fun p hp => (r5 p hp).2.1⟩, ⟨_, c 12 (by omega) (by omega) (by omega), fun p hp => (r5 p hp).2.2⟩⟩,
    ⟨⟨_, c 13 (by omega) (by omega) (by omega), fun p hp => (r6 p hp).1⟩, ⟨_, c 14 (by omega) (by omega) (by omega), fun p hp => (r6 p hp).2⟩⟩⟩
  obtain ⟨bb, b1, b2, b3⟩ := I.2.2.2.2.2.2.1 p (by omega)
  obtain ⟨j, j1, j2⟩ := I.2.2.2.2.2.1 p q (by omega) (by omega)
  rw [r3 p q (by omega) (by omega)]
  by_cases z : bitN (L.1 9 p) q = 1
  · rw [if_pos z, if_neg]
    rw [j2]
    intro w
    have := nI_pos (n := j) (by omega)
    rw [w] at this
    exact this (by decide)
  · rw [if_neg z, if_pos rfl]
    refine (b3 q (by omega) ?_).symm
    rw [b2] at z
    have := fun w => z ((bt_5 bb b1 q (by omega)).mpr w)
    simpa using this
end Z8
