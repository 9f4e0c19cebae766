/-! the reference: laws -/
def Fx (h h1 : PH) : Prop := h.length ≤ h1.length ∧ h1.length ≤ h.length + 18 ∧ (∀ q, q < 285 → h1[q]? = h[q]?) ∧ h1[295]? = h[295]?
section Z9
variable {h : PH} {S : StD} {ml : Option Nat}
/-- the row is begun -/
theorem ml_begin {h : PH} {F : Nat → PV} {i : Nat} {L : LawD} (e0 : Fo h 285 12 32 F) (f3 : F 3 = .inr (.inr (some i))) (f15 : F 15 = .inr (.inr (some 287))) (i9 : 296 ≤ i) (ex : ∃ f, Fu h 287 23 f) (l : MLawC h i L) (h5 : nP L ≤ 5) : ∃ x17 x21, pj_it (X := PH) (fun s16 : Int32 × PH => if (23 : Int32) ≤ s16.1 then (some (.inr s16.2)) else ((gR s16.2 12 (some 285) 15).bind fun v18 => (sA s16.2 50 v18 s16.1 (.inl (0 : Int32))).bind fun h19 => some (.inl ((s16.1 + (1 : Int32)), h19)))) FU ((0 : Int32), h) = some x17 ∧ pj_it (X := PH) (fun s20 : Int32 × PH => (gR s20.2 12 (some 285) 3).bind fun v22 => (gI s20.2 11 v22 3).bind fun v23 => if v23 ≤ s20.1 then (some (.inr s20.2)) else ((gR s20.2 12 (some 285) 15).bind fun v24 => (gR s20.2 12 (some 285) 3).bind fun v25 => (gR s20.2 11 v25 12).bind fun v26 => (aI s20.2 v26 s20.1).bind fun v27 => (sA s20.2 50 v24 ((0 : Int32) + s20.1) (.inl v27)).bind fun h28 => (gR h28 12 (some 285) 15).bind fun v29 => (sA h28 50 v29 ((15 : Int32) + s20.1) (.inl (-2 : Int32))).bind fun h30 => some (.inl ((s20.1 + (1 : Int32)), h30)))) FU ((0 : Int32), x17) = some x21 ∧ (∃ f, Fu x21 287 23 f ∧ MRw f (nP L) (bgN L)) ∧ Fr h x21 287 288 := by
  obtain ⟨f0, u0⟩ := ex
  have g15 : ∀ {x : PH}, Fr h x 287 288 → gR x 12 (some 285) 15 = some (some 287) := fun f => (e0.fr f (by omega)).gr (by omega) f15
  have g3 : ∀ {x : PH}, Fr h x 287 288 → gR x 12 (some 285) 3 = some (some i) := fun f => (e0.fr f (by omega)).gr (by omega) f3
  obtain ⟨x17, l1, ⟨f1, u1, u2⟩, l3⟩ : ∃ x, pj_it (X := PH) (fun s16 : Int32 × PH => if (23 : Int32) ≤ s16.1 then (some (.inr s16.2)) else ((gR s16.2 12 (some 285) 15).bind fun v18 => (sA s16.2 50 v18 s16.1 (.inl (0 : Int32))).bind fun h19 => some (.inl ((s16.1 + (1 : Int32)), h19)))) FU ((0 : Int32), h) = some x ∧ (∃ f, Fu x 287 23 f ∧ ∀ q, q < 23 → f q = 0) ∧ Fr h x 287 288 := by
    refine pj_inv (fun k s => s.1 = nI k ∧ (∃ f, Fu s.2 287 23 f ∧ ∀ q, q < k → f q = 0) ∧ Fr h s.2 287 288) _ 23 (by omega) ⟨rfl, ⟨f0, u0, fun q hq => absurd hq (Nat.not_lt_zero q)⟩, Fr.rf⟩ ?_ ?_
    · rintro k ⟨k1, hh⟩ hk ⟨rfl, ⟨f1, y1, y2⟩, y3⟩
      left
      dsimp only at y1 y3 ⊢
      obtain ⟨h22, z1, z2, z3⟩ := y1.set hk (by decide) 0
      rw [if_neg (show ¬ (23 : Int32) ≤ nI k from nI_nle' (b := 23) hk (by omega)), g15 y3, Option.bind_some, z1, Option.bind_some, nI_s]
      refine ⟨_, rfl, rfl, ⟨_, z2, fun q hq => ?_⟩, y3.tr z3⟩
      unfold up1
      by_cases w : q = k
      · rw [if_pos w]
      · rw [if_neg w]; exact y2 q (by omega)
    · rintro ⟨k1, hh⟩ ⟨rfl, y1, y3⟩
      dsimp only at y1 y3 ⊢
      rw [if_pos (show (23 : Int32) ≤ nI 23 by decide)]
      exact ⟨_, rfl, y1, y3⟩
  have lx : MLawC x17 i L := l3.lc (MLawC.lc i L) (by omega) l
  obtain ⟨x21, m1, ⟨f2, v1, v2, v3⟩, m3⟩ : ∃ x, pj_it (X := PH) (fun s20 : Int32 × PH => (gR s20.2 12 (some 285) 3).bind fun v22 => (gI s20.2 11 v22 3).bind fun v23 => if v23 ≤ s20.1 then (some (.inr s20.2)) else ((gR s20.2 12 (some 285) 15).bind fun v24 => (gR s20.2 12 (some 285) 3).bind fun v25 => (gR s20.2 11 v25 12).bind fun v26 => (aI s20.2 v26 s20.1).bind fun v27 => (sA s20.2 50 v24 ((0 : Int32) + s20.1) (.inl v27)).bind fun h28 => (gR h28 12 (some 285) 15).bind fun v29 => (sA h28 50 v29 ((15 : Int32) + s20.1) (.inl (-2 : Int32))).bind fun h30 => some (.inl ((s20.1 + (1 : Int32)), h30)))) FU ((0 : Int32), x17) = some x ∧ (∃ f, Fu x 287 23 f ∧ (∀ q, q < nP L → f q = nI (frs L q) ∧ f (15 + q) = -2) ∧ ∀ q, (5 ≤ q ∧ q < 15) ∨ (20 ≤ q ∧ q < 23) → f q = 0) ∧ Fr x17 x 287 288 := by
    refine pj_inv (fun k s => s.1 = nI k ∧ (∃ f, Fu s.2 287 23 f ∧ (∀ q, q < k → f q = nI (frs L q) ∧ f (15 + q) = -2) ∧ ∀ q, (5 ≤ q ∧ q < 15) ∨ (20 ≤ q ∧ q < 23) → f q = 0) ∧ Fr x17 s.2 287 288) _ (nP L) (by omega) ⟨rfl, ⟨f1, u1, fun q hq => absurd hq (Nat.not_lt_zero q), fun q hq => u2 q (by omega)⟩, Fr.rf⟩ ?_ ?_
    · rintro k ⟨k1, hh⟩ hk ⟨rfl, ⟨f1, y1, y2, y4⟩, y3⟩
      left
      dsimp only at y1 y3 ⊢
      obtain ⟨G, c0, ⟨-, -, -, c3, -⟩, c4, -, -, c6, -⟩ := MLawC.lc i L x17 hh (fun q a b => y3.2 q (by omega)) lx
      obtain ⟨h28, z1, z2, z3⟩ := y1.set (p := k) (by omega) (by decide) (nI (frs L k))
      obtain ⟨h30, w1, w2, w3⟩ := z2.set (p := 15 + k) (by omega) (by decide) (-2)
      have fh := l3.tr y3
      have fh2 := fh.tr z3
      rw [g3 fh, Option.bind_some, c0.gi (by omega) c3, Option.bind_some, if_neg (nI_ge hk (by omega)), g15 fh, Option.bind_some, Option.bind_some, c0.gr (by omega) (c4 2 (by omega)), Option.bind_some, show i + 1 + 2 = i + 3 from rfl, c6.ar (by omega) (by decide) k hk, Option.bind_some, nI_z, z1, Option.bind_some, g15 fh2, Option.bind_some, nI_15p, w1, Option.bind_some, nI_s]
      refine ⟨_, rfl, rfl, ⟨_, w2, fun q hq => ?_, fun q hq => ?_⟩, (y3.tr z3).tr w3⟩
      · unfold up1
        by_cases w : q = k
        · subst w
          rw [if_neg (by omega), if_pos rfl, if_pos rfl]
          exact ⟨rfl, rfl⟩
        · rw [if_neg (by omega), if_neg w, if_neg (by omega), if_neg (by omega)]
          exact y2 q (by omega)
      · unfold up1
        rw [if_neg (by omega), if_neg (by omega)]
        exact y4 q hq
    · rintro ⟨k1, hh⟩ ⟨rfl, y1, y3⟩
      dsimp only at y1 y3 ⊢
      obtain ⟨G, c0, ⟨-, -, -, c3, -⟩, -⟩ := MLawC.lc i L x17 hh (fun q a b => y3.2 q (by omega)) lx
      rw [g3 (l3.tr y3), Option.bind_some, c0.gi (by omega) c3, Option.bind_some, if_pos (nI_le (Nat.le_refl _) (by omega))]
      exact ⟨_, rfl, y1, y3⟩
  refine ⟨x17, x21, l1, m1, ⟨f2, v1, ⟨fun p hp => ⟨(v2 p hp).1, v3 _ (by omega), v3 _ (by omega), (v2 p hp).2⟩, v3 20 (by omega), v3 21 (by omega), v3 22 (by omega)⟩⟩, l3.tr m3⟩
theorem ref_lawsN (e : Mst h ml S) {a : Int32} (hp : a < 0 ∨ ¬ a ≤ nI (sTn S)) : ∃ h1, f_M_laws h (some 285) a = some (-1, h1) ∧ Mst h1 ml (trS S 2) ∧ Fr h h1 285 295 := by
  obtain ⟨h1, s1, e1, F1⟩ := e.st
  obtain ⟨h2, s2, e2, F2⟩ := e1.rfd 2 (by decide)
  refine ⟨h2, ?_, e2, F1.tr F2⟩
  unfold f_M_laws
  rw [s1, Option.bind_some]
  by_cases z : a < 0
  · rw [if_pos z, e1.cl, s2]; rfl
  · obtain ⟨F, q0, q1, -⟩ := id e1
    rw [if_neg z, q0.gi (by omega) q1.2.2.2.2.1, Option.bind_some, if_neg (hp.resolve_left z), e1.cl, s2]; rfl
theorem ref_laws (e : Mst h ml S) (hl : 296 ≤ h.length) (hb : ∀ k, (sTx S k).toInt8.toInt32 = sTx S k) (hT : sTn S ≤ 900) {m : Nat} (hm : m ≤ sTn S) (L0 : LawD) (hF : ∀ f, oRead (sTx S) m (wpL L0) = .inl f → 0 < f.1 ∧ f.1 < 100) (hB : ∀ B, oRead (sTx S) m (wpL L0) = .inr B → ∃ N1, LawI B.2.2 N1 B.2.1 ∧ 0 < nC B.2.2) : ∃ h1 x, f_M_laws h (some 285) (nI m) = some (x, h1) ∧ Fx h h1 ∧ (∀ f, oRead (sTx S) m (wpL L0) = .inl f → x = -1 ∧ Mst h1 ml (lwF S f)) ∧ (∀ B, oRead (sTx S) m (wpL L0) = .inr B → x = nI (nP B.2.2) ∧ ∃ ml1, Mst h1 ml1 (lwG S B.2.2)) := by
  obtain ⟨F, e0, ⟨a1, a2, a3, a4, a5, a6, a7, a8, a9, a10, a11, a12, a13, a14, a15, a16, ⟨t1, u1⟩, ⟨t2, u2⟩, ⟨t3, u3⟩, ⟨t4, u4⟩⟩, e2, e3, e4⟩ := e
  obtain ⟨h1, s1, q1, F1⟩ := e0.set (k := 0) (by omega) (.inl (0 : Int32))
  obtain ⟨h4, s4, q4, F4⟩ := q1.set (k := 7) (by omega) (.inl (nI m))
  obtain ⟨h5, s5, q5, F5⟩ := q4.set (k := 6) (by omega) (.inl (0 : Int32))
  obtain ⟨h6, s6, q6, F6⟩ := q5.set (k := 8) (by omega) (.inl (0 : Int32))
  obtain ⟨h7, s7, q7, F7⟩ := q6.set (k := 12) (by omega) (.inl (0 : Int32))
  have G7 := (((F1.tr F4).tr F5).tr F6).tr F7
  obtain ⟨h8, s8, n8, k8, G, W, c8, g8⟩ := ml_init h7
  have l7 : h7.length = h.length := G7.1
  have q8 := (k8 285 (by omega)).trans q7
  obtain ⟨h9, s9, q9, F9⟩ := Fo.set (k := 4) q8 (by omega) (.inr (.inr (some h7.length)))
  obtain ⟨h10, s10, q10, F10⟩ := q9.set (k := 9) (by omega) (.inl (0 : Int32))
  have G10 := F9.tr F10
  -- the reader
  have tx10 : Fo h10 286 52 900 (fun k => .inl (sTx S k)) := (G10.2 _ (by omega)).trans ((k8 286 (by omega)).trans ((G7.2 _ (by omega)).trans e2.1))
  have D : ∀ k, k ≠ 0 → k ≠ 7 → k ≠ 6 → k ≠ 8 → k ≠ 12 → k ≠ 4 → k ≠ 9 → upF (upF (upF (upF (upF (upF (upF F 0 (.inl 0)) 7 (.inl (nI m))) 6 (.inl 0)) 8 (.inl 0)) 12 (.inl 0)) 4 (.inr (.inr (some h7.length)))) 9 (.inl 0) k = F k := fun k b1 b2 b3 b4 b5 b6 b7 => (upF_n b7).trans ((upF_n b6).trans ((upF_n b5).trans ((upF_n b4).trans ((upF_n b3).trans ((upF_n b2).trans (upF_n b1))))))
  have D4 : upF (upF (upF (upF (upF (upF (upF F 0 (.inl 0)) 7 (.inl (nI m))) 6 (.inl 0)) 8 (.inl 0)) 12 (.inl 0)) 4 (.inr (.inr (some h7.length)))) 9 (.inl 0) 4 = .inr (.inr (some h7.length)) := rfl
  have D6 : upF (upF (upF (upF (upF (upF (upF F 0 (.inl 0)) 7 (.inl (nI m))) 6 (.inl 0)) 8 (.inl 0)) 12 (.inl 0)) 4 (.inr (.inr (some h7.length)))) 9 (.inl 0) 6 = .inl 0 := rfl
  have D7 : upF (upF (upF (upF (upF (upF (upF F 0 (.inl 0)) 7 (.inl (nI m))) 6 (.inl 0)) 8 (.inl 0)) 12 (.inl 0)) 4 (.inr (.inr (some h7.length)))) 9 (.inl 0) 7 = .inl (nI m) := rfl
  have D8 : upF (upF (upF (upF (upF (upF (upF F 0 (.inl 0)) 7 (.inl (nI m))) 6 (.inl 0)) 8 (.inl 0)) 12 (.inl 0)) 4 (.inr (.inr (some h7.length)))) 9 (.inl 0) 8 = .inl 0 := rfl
  have D9 : upF (upF (upF (upF (upF (upF (upF F 0 (.inl 0)) 7 (.inl (nI m))) 6 (.inl 0)) 8 (.inl 0)) 12 (.inl 0)) 4 (.inr (.inr (some h7.length)))) 9 (.inl 0) 9 = .inl 0 := rfl
  have D12 : upF (upF (upF (upF (upF (upF (upF F 0 (.inl 0)) 7 (.inl (nI m))) 6 (.inl 0)) 8 (.inl 0)) 12 (.inl 0)) 4 (.inr (.inr (some h7.length)))) 9 (.inl 0) 12 = .inl 0 := rfl
  have g6 : gI h1 12 (some 285) 6 = some (nI (sTn S)) := q1.gi (by omega) ((upF_n (by omega)).trans a5)
  generalize upF (upF (upF (upF (upF (upF (upF F 0 (.inl 0)) 7 (.inl (nI m))) 6 (.inl 0)) 8 (.inl 0)) 12 (.inl 0)) 4 (.inr (.inr (some h7.length)))) 9 (.inl 0) = K at q10 D D4 D6 D7 D8 D9 D12
  have m10 : MrS h10 K (fun k => if k = 10 then t1 else if k = 11 then t2 else if k = 13 then t3 else 0) t4 (sTx S) m h7.length := by
    refine ⟨q10.gt (fun k hk => ?_), tx10, D4, (D 5 (by omega) (by omega) (by omega) (by omega) (by omega) (by omega) (by omega)).trans a4, D7, by omega, hb⟩
    unfold mF
    by_cases z14 : k = 14
    · rw [if_pos z14, z14, D 14 (by omega) (by omega) (by omega) (by omega) (by omega) (by omega) (by omega), u4]
    · rw [if_neg z14]
      by_cases z : 8 ≤ k ∧ k ≤ 13
      · rw [if_pos z]
        have : k = 8 ∨ k = 9 ∨ k = 10 ∨ k = 11 ∨ k = 12 ∨ k = 13 := by omega
        rcases this with rfl | rfl | rfl | rfl | rfl | rfl
        · rw [D8]; rfl
        · rw [D9]; rfl
        · rw [D 10 (by omega) (by omega) (by omega) (by omega) (by omega) (by omega) (by omega), u1]; rfl
        · rw [D 11 (by omega) (by omega) (by omega) (by omega) (by omega) (by omega) (by omega), u2]; rfl
        · rw [D12]; rfl
        · rw [D 13 (by omega) (by omega) (by omega) (by omega) (by omega) (by omega) (by omega), u3]; rfl
      · rw [if_neg z]
  obtain ⟨h11, s11, v, w, m11, ⟨y1, y2, y3, y4, y5, y6, y7⟩, F11⟩ := mr_next (pos := 0) m10 (Nat.zero_le _) (by show ¬ (0 : Int32) = 5; decide) rfl
  have c11 := F11.lc (MCl.lc _ _ _ _) (by omega) (G10.lc (MCl.lc _ _ _ _) (by omega) c8)
  have x11 : MX h11 K h7.length (sTx S) m N0 (.inr (nxT (sTx S) m 0, false, wpL L0)) := ⟨by omega, v, w, m11, ⟨⟨0, Nat.zero_le _, rfl⟩, by show 0 ≤ 16; omega⟩, ⟨y1, y2, y3, y4, y5, rfl, rfl⟩, y6, _, _, _, c11, re_ini L0 g8⟩
  obtain ⟨h12, s12, x12, F12⟩ := ml_all x11 (wp_i L0) (by omega)
  have KK : ∀ q, q ≠ 285 → q < h.length → h12[q]? = h[q]? := fun q p1 p2 => (F12.2 q p1 (by omega)).trans ((F11.2 q (by omega)).trans ((G10.2 q (by omega)).trans ((k8 q (by omega)).trans (G7.2 q (by omega)))))
  have L12 : h12.length = h.length + 18 := by rw [F12.1, F11.1, G10.1, n8, l7]
  have x12 : MX h12 K h7.length (sTx S) m (oAll (sTx S) m (m + 1) N0 (nxT (sTx S) m 0, false, wpL L0)).2 (oRead (sTx S) m (wpL L0)) := x12
  have top : f_M_laws h (some 285) (nI m) = (gI h12 12 (some 285) 12).bind fun v13 => if v13 ≤ 0 then ((gR h12 12 (some 285) 4).bind fun v14 => (sF h12 12 (some 285) 3 (.inr (.inr v14))).bind fun h15 => (pj_it (X := PH) (fun s16 : Int32 × PH => if (23 : Int32) ≤ s16.1 then (some (.inr s16.2)) else ((gR s16.2 12 (some 285) 15).bind fun v18 => (sA s16.2 50 v18 s16.1 (.inl (0 : Int32))).bind fun h19 => some (.inl ((s16.1 + (1 : Int32)), h19)))) FU ((0 : Int32), h15)).bind fun x17 => (pj_it (X := PH) (fun s20 : Int32 × PH => (gR s20.2 12 (some 285) 3).bind fun v22 => (gI s20.2 11 v22 3).bind fun v23 => if v23 ≤ s20.1 then (some (.inr s20.2)) else ((gR s20.2 12 (some 285) 15).bind fun v24 => (gR s20.2 12 (some 285) 3).bind fun v25 => (gR s20.2 11 v25 12).bind fun v26 => (aI s20.2 v26 s20.1).bind fun v27 => (sA s20.2 50 v24 ((0 : Int32) + s20.1) (.inl v27)).bind fun h28 => (gR h28 12 (some 285) 15).bind fun v29 => (sA h28 50 v29 ((15 : Int32) + s20.1) (.inl (-2 : Int32))).bind fun h30 => some (.inl ((s20.1 + (1 : Int32)), h30)))) FU ((0 : Int32), x17)).bind fun x21 => (sF x21 12 (some 285) 19 (.inl (0 : Int32))).bind fun h31 => (sF h31 12 (some 285) 20 (.inl (0 : Int32))).bind fun h32 => (gR h32 12 (some 285) 3).bind fun v33 => (gI h32 11 v33 3).bind fun v34 => (cl h32 12 (some 285) (f_M_good h32 (some 285) v34)).bind fun v35 => some (v35.1, v35.2)) else ((sF h12 12 (some 285) 1 (.inl (4 : Int32))).bind fun h36 => (gI h36 12 (some 285) 13).bind fun v37 => (sF h36 12 (some 285) 2 (.inl v37)).bind fun h38 => some ((-1 : Int32), h38)) := by
    unfold f_M_laws
    rw [s1, Option.bind_some, if_neg (nI_pos (by omega)), g6, Option.bind_some, if_pos (nI_le hm (by omega)), s4, Option.bind_some, s5, Option.bind_some, s6, Option.bind_some, s7, Option.bind_some, s8, Option.bind_some, s9, Option.bind_some, s10, Option.bind_some, s11, Option.bind_some, s12, Option.bind_some]
  rw [top]
  have keep : ∀ k, k = 5 ∨ k = 15 ∨ k = 16 ∨ k = 17 ∨ k = 18 ∨ k = 19 ∨ k = 20 ∨ k = 23 ∨ k = 25 ∨ k = 26 ∨ k = 27 ∨ k = 3 → ∀ (v : Nat → Int32) (w : Int64), mF K v w k = F k := fun k hk v w => (mF_o (by omega)).trans (D k (by omega) (by omega) (by omega) (by omega) (by omega) (by omega) (by omega))
  cases hr : oRead (sTx S) m (wpL L0) with
  | inl f =>
    rw [hr] at x12
    obtain ⟨-, v, w, z0, ⟨b1, b2, b3⟩, -⟩ := x12
    obtain ⟨h36, s36, q36, F36⟩ := z0.1.set (k := 1) (by omega) (.inl (4 : Int32))
    obtain ⟨h38, s38, q38, F38⟩ := q36.set (k := 2) (by omega) (.inl (nI f.2))
    have GG := F36.tr F38
    have KL : ∀ q, q ≠ 285 → q < h.length → h38[q]? = h[q]? := fun q p1 p2 => (GG.2 q (by omega)).trans (KK q p1 p2)
    have f0 := hF f hr
    · refine ⟨h38, -1, ?_, ⟨by rw [GG.1, L12]; omega, by rw [GG.1, L12]; omega, fun q hq => KL q (by omega) (by omega), KL 295 (by omega) (by omega)⟩, fun f' q => ?_, fun B q => by cases q⟩
      · rw [z0.g (k := 12) (by omega), Option.bind_some, b2, if_neg (nI_nle f0.1 (by omega)), s36, Option.bind_some, q36.gi (k := 13) (x := nI f.2) (by omega) ((upF_n (by omega)).trans (by show Sum.inl (v 13) = _; rw [b3])), Option.bind_some, s38, Option.bind_some]
      · cases q
        refine ⟨rfl, _, q38, ⟨rfl, ?_, (keep 3 (by omega) v w).trans a3, (keep 5 (by omega) v w).trans a4, ?_, ?_, (keep 15 (by omega) v w).trans a7, (keep 16 (by omega) v w).trans a8, (keep 17 (by omega) v w).trans a9, (keep 18 (by omega) v w).trans a10, (keep 19 (by omega) v w).trans a11, (keep 20 (by omega) v w).trans a12, (keep 23 (by omega) v w).trans a13, (keep 25 (by omega) v w).trans a14, (keep 26 (by omega) v w).trans a15, (keep 27 (by omega) v w).trans a16, ⟨_, rfl⟩, ⟨_, rfl⟩, ⟨_, rfl⟩, ⟨_, rfl⟩⟩, MRs.lc S h h38 (fun q p1 p2 => KL q (by omega) (by omega)) e2, MSc.lc h h38 (fun q p1 p2 => KL q (by omega) (by omega)) e3, (e4.lt (fun q p1 p2 => KL q (by omega) p2) : MLw h38 S ml)⟩
        · show Sum.inl (nI f.2) = Sum.inl (whS (lwF S f))
          unfold whS
          rw [if_pos (show sTr (lwF S f) = 4 from rfl)]
          rfl
        · show mF K v w 6 = .inl (nI 0)
          exact (mF_o (by omega)).trans D6
        · show Sum.inl (v 12) = .inl (nI f.1)
          rw [b2]
  | inr B =>
    rw [hr] at x12
    obtain ⟨N1, I, hC⟩ := hB B hr
    obtain ⟨-, v, w, z0, ⟨cu, hN⟩, mn, b12, Gx, gx, Wx, cx, dx⟩ := x12
    have ht : B.2.1 = true := by
      cases hh : B.2.1 with
      | true => rfl
      | false =>
        have := (I.2.2.2.1.2.1 hh).1
        omega
    rw [ht] at dx I
    have p5 := I.1.2.1
    have lc : MLawC h12 h7.length B.2.2 := ml_law cx dx I
    obtain ⟨h15, s15, q15, F15⟩ := z0.1.set (k := 3) (by omega) (.inr (.inr (some h7.length)))
    have v15 : ∃ f, Fu h15 287 23 f := by
      obtain ⟨f1, w1, -⟩ := e2.2.1
      exact ⟨f1, (F15.2 _ (by omega)).trans ((KK 287 (by omega) (by omega)).trans w1)⟩
    have i9 : 296 ≤ h7.length := by omega
    obtain ⟨x17, x21, s17, s21, ⟨f2, r1, r2⟩, F21⟩ := ml_begin q15 rfl ((upF_n (by omega)).trans ((keep 15 (by omega) v w).trans a7)) i9 v15 (F15.lc (MLawC.lc _ _) (by omega) lc) p5
    have q21 := q15.fr F21 (by omega)
    obtain ⟨h31, s31, q31, F31⟩ := q21.set (k := 19) (by omega) (.inl (0 : Int32))
    obtain ⟨h32, s32, q32, F32⟩ := q31.set (k := 20) (by omega) (.inl (0 : Int32))
    obtain ⟨h33, s33, q33, F33⟩ := q32.set (k := 1) (by omega) (.inl (0 : Int32))
    obtain ⟨h34, s34, q34, F34⟩ := q33.set (k := 2) (by omega) (.inl (-1 : Int32))
    have G32 := F31.tr F32
    have G34 := F33.tr F34
    have l32 : MLawC h32 h7.length B.2.2 := G32.lc (MLawC.lc _ _) (by omega) (F21.lc (MLawC.lc _ _) (by omega) (F15.lc (MLawC.lc _ _) (by omega) lc))
    have l34 : MLawC h34 h7.length B.2.2 := G34.lc (MLawC.lc _ _) (by omega) l32
    have KL : ∀ q, q ≠ 285 → q ≠ 287 → q < h.length → h34[q]? = h[q]? := fun q p1 p2 p3 => (G34.2 q (by omega)).trans ((G32.2 q (by omega)).trans ((F21.2 q (by omega)).trans ((F15.2 q (by omega)).trans (KK q p1 p3))))
    have L34 : h34.length = h.length + 18 := by rw [G34.1, G32.1, F21.1, F15.1, L12]
    refine ⟨h34, nI (nP B.2.2), ?_, ⟨by rw [L34]; omega, by rw [L34]; omega, fun q hq => KL q (by omega) (by omega) (by omega), KL 295 (by omega) (by omega) (by omega)⟩, fun f q => (by cases q), fun B' q => ?_⟩
    · obtain ⟨G3, d0, ⟨-, -, -, d3, -⟩, -⟩ := l32
      rw [z0.g (k := 12) (by omega), Option.bind_some, b12, if_pos (by decide), z0.g4, Option.bind_some, s15, Option.bind_some, s17, Option.bind_some, s21, Option.bind_some, s31, Option.bind_some, s32, Option.bind_some, q32.gr (x := some h7.length) (by omega) rfl, Option.bind_some, d0.gi (by omega) d3, Option.bind_some, cl_o q32]
      unfold f_M_good
      rw [s33, Option.bind_some, s34, Option.bind_some]
      rfl
    · cases q
      refine ⟨rfl, some h7.length, _, q34, ⟨rfl, rfl, rfl, (keep 5 (by omega) v w).trans a4, ?_, ?_, (keep 15 (by omega) v w).trans a7, (keep 16 (by omega) v w).trans a8, (keep 17 (by omega) v w).trans a9, (keep 18 (by omega) v w).trans a10, rfl, rfl, (keep 23 (by omega) v w).trans a13, (keep 25 (by omega) v w).trans a14, (keep 26 (by omega) v w).trans a15, (keep 27 (by omega) v w).trans a16, ⟨_, rfl⟩, ⟨_, rfl⟩, ⟨_, rfl⟩, ⟨_, rfl⟩⟩, ⟨(KL 286 (by omega) (by omega) (by omega)).trans e2.1, ⟨f2, (G34.2 _ (by omega)).trans ((G32.2 _ (by omega)).trans r1), fun _ => r2⟩, ?_, ?_⟩, MSc.lc h h34 (fun q p1 p2 => KL q (by omega) (by omega) (by omega)) e3, ⟨fun _ => ⟨h7.length, rfl, i9, l34⟩, fun q => (by cases q)⟩⟩
      · show mF K v w 6 = .inl (nI 0)
        exact (mF_o (by omega)).trans D6
      · show Sum.inl (v 12) = .inl 0
        rw [b12]
      · obtain ⟨f3, w3, -⟩ := e2.2.2.1
        exact ⟨f3, (KL 289 (by omega) (by omega) (by omega)).trans w3, fun i hi => absurd hi (Nat.not_lt_zero i)⟩
      · obtain ⟨f3, w3, -⟩ := e2.2.2.2
        exact ⟨f3, (KL 290 (by omega) (by omega) (by omega)).trans w3, fun i hi => absurd hi (Nat.not_lt_zero i)⟩
end Z9
