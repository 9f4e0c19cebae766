/-! the reference's new object -/
theorem ap_M {h : PH} {F : Nat → PV} (e : Fo h 285 12 32 F) (hl : 286 ≤ h.length) {k : Nat} (hk : k < 32) (c : PC) : ∃ h1, sF (h ++ [c]) 12 (some 285) k (.inr (.inr (some h.length))) = some h1 ∧ Fo h1 285 12 32 (upF F k (.inr (.inr (some h.length)))) ∧ h1.length = h.length + 1 ∧ h1[h.length]? = some c ∧ ∀ q, q < h.length → q ≠ 285 → h1[q]? = h[q]? := by
  have a' : Fo (h ++ [c]) 285 12 32 F := (List.getElem?_append_left (by omega)).trans e
  obtain ⟨h1, x1, x2, x3⟩ := a'.set (k := k) hk (.inr (.inr (some h.length)))
  refine ⟨h1, x1, x2, by rw [x3.1, List.length_append]; rfl, ?_, fun q p1 p2 => ?_⟩
  · rw [x3.2 _ (by omega), List.getElem?_append_right (Nat.le_refl _), Nat.sub_self]
    rfl
  · rw [x3.2 _ (by omega), List.getElem?_append_left p1]
def F12 : Nat → PV := fun k => (pj_new 12).getD k (.inl 0)
theorem Fo.rep {h : PH} {a t n : Nat} {v : PV} (e : h[a]? = some (t, List.replicate n v)) : Fo h a t n (fun _ => v) := by
  unfold Fo
  rw [e, List.map_const', List.length_range]
theorem m_init {h : PH} (hl : h.length = 285) : ∃ h2, f_M_init (h ++ [(12, pj_new 12)]) (some 285) = some h2 ∧ h2.length = 295 ∧ (∀ q, q < 285 → h2[q]? = h[q]?) ∧ Mst h2 none S00 := by
  have e0 : Fo (h ++ [(12, pj_new 12)]) 285 12 32 F12 := by
    unfold Fo
    rw [List.getElem?_append_right (by omega), hl, Nat.sub_self]
    rfl
  obtain ⟨h1, s1, q1, f1⟩ := e0.set (k := 2) (by omega) (.inl (-1))
  have l1 : h1.length = 286 := by rw [f1.1, List.length_append, hl]; rfl
  obtain ⟨h2, s2, q2, l2, c2, k2⟩ := ap_M q1 (by omega) (k := 5) (by omega) (52, List.replicate 900 (.inl 0))
  obtain ⟨h3, s3, q3, l3, c3, k3⟩ := ap_M q2 (by omega) (k := 15) (by omega) (50, List.replicate 23 (.inl 0))
  obtain ⟨h4, s4, q4, l4, c4, k4⟩ := ap_M q3 (by omega) (k := 16) (by omega) (50, List.replicate 23 (.inl 0))
  obtain ⟨h5, s5, q5, l5, c5, k5⟩ := ap_M q4 (by omega) (k := 17) (by omega) (50, List.replicate 368 (.inl 0))
  obtain ⟨h6, s6, q6, l6, c6, k6⟩ := ap_M q5 (by omega) (k := 18) (by omega) (50, List.replicate 69 (.inl 0))
  obtain ⟨h7, s7, q7, f7⟩ := q6.set (k := 21) (by omega) (.inl (-1))
  have l7 : h7.length = h6.length := f7.1
  obtain ⟨h8, s8, q8, l8, c8, k8⟩ := ap_M q7 (by omega) (k := 23) (by omega) (51, List.replicate 6000 (.inr (.inl 0)))
  obtain ⟨h9, s9, q9, l9, c9, k9⟩ := ap_M q8 (by omega) (k := 25) (by omega) (50, List.replicate 5 (.inl 0))
  obtain ⟨h10, s10, q10, l10, c10, k10⟩ := ap_M q9 (by omega) (k := 26) (by omega) (50, List.replicate 5 (.inl 0))
  obtain ⟨h11, s11, q11, l11, c11, k11⟩ := ap_M q10 (by omega) (k := 27) (by omega) (50, List.replicate 25 (.inl 0))
  have e1 : h1.length = 286 := l1
  have e2 : h2.length = 287 := by omega
  have e3 : h3.length = 288 := by omega
  have e4 : h4.length = 289 := by omega
  have e5 : h5.length = 290 := by omega
  have e6 : h6.length = 291 := by omega
  have e7 : h7.length = 291 := by omega
  have e8 : h8.length = 292 := by omega
  have e9 : h9.length = 293 := by omega
  have e10 : h10.length = 294 := by omega
  rw [e1] at c2
  rw [e2] at c3
  rw [e3] at c4
  rw [e4] at c5
  rw [e5] at c6
  rw [e7] at c8
  rw [e8] at c9
  rw [e9] at c10
  rw [e10] at c11
  rw [e1, e2, e3, e4, e5, e7, e8, e9, e10] at q11
  have u10 : ∀ q, q < 294 → q ≠ 285 → h11[q]? = h10[q]? := fun q a b => k11 q (by omega) b
  have u9 : ∀ q, q < 293 → q ≠ 285 → h11[q]? = h9[q]? := fun q a b => (u10 q (by omega) b).trans (k10 q (by omega) b)
  have u8 : ∀ q, q < 292 → q ≠ 285 → h11[q]? = h8[q]? := fun q a b => (u9 q (by omega) b).trans (k9 q (by omega) b)
  have u6 : ∀ q, q < 291 → q ≠ 285 → h11[q]? = h6[q]? := fun q a b => (u8 q (by omega) b).trans ((k8 q (by omega) b).trans (f7.2 q (by omega)))
  have u5 : ∀ q, q < 290 → q ≠ 285 → h11[q]? = h5[q]? := fun q a b => (u6 q (by omega) b).trans (k6 q (by omega) b)
  have u4 : ∀ q, q < 289 → q ≠ 285 → h11[q]? = h4[q]? := fun q a b => (u5 q (by omega) b).trans (k5 q (by omega) b)
  have u3 : ∀ q, q < 288 → q ≠ 285 → h11[q]? = h3[q]? := fun q a b => (u4 q (by omega) b).trans (k4 q (by omega) b)
  have u2 : ∀ q, q < 287 → q ≠ 285 → h11[q]? = h2[q]? := fun q a b => (u3 q (by omega) b).trans (k3 q (by omega) b)
  have u1 : ∀ q, q < 286 → q ≠ 285 → h11[q]? = h1[q]? := fun q a b => (u2 q (by omega) b).trans (k2 q (by omega) b)
  refine ⟨h11, ?_, by omega, fun q hq => (u1 q (by omega) (by omega)).trans ((f1.2 q (by omega)).trans (List.getElem?_append_left (by omega))), ?_⟩
  · unfold f_M_init
    rw [Option.bind_some, s1, Option.bind_some, s2, Option.bind_some, s3, Option.bind_some, s4, Option.bind_some, s5, Option.bind_some, s6, Option.bind_some, s7, Option.bind_some, s8, Option.bind_some, s9, Option.bind_some, s10, Option.bind_some, s11, Option.bind_some]
  · have t86 : Fo h11 286 52 900 (fun _ => .inl 0) := Fo.rep (n := 900) (v := .inl 0) ((u2 286 (by omega) (by omega)).trans c2)
    have t87 : Fu h11 287 23 (fun _ => 0) := Fu.rep (n := 23) (x := 0) ((u3 287 (by omega) (by omega)).trans c3)
    have t88 : Fu h11 288 23 (fun _ => 0) := Fu.rep (n := 23) (x := 0) ((u4 288 (by omega) (by omega)).trans c4)
    have t89 : Fu h11 289 368 (fun _ => 0) := Fu.rep (n := 368) (x := 0) ((u5 289 (by omega) (by omega)).trans c5)
    have t90 : Fu h11 290 69 (fun _ => 0) := Fu.rep (n := 69) (x := 0) ((u6 290 (by omega) (by omega)).trans c6)
    have t91 : Fo h11 291 51 6000 (fun _ => .inr (.inl 0)) := Fo.rep (n := 6000) (v := .inr (.inl 0)) ((u8 291 (by omega) (by omega)).trans c8)
    have t92 : Fu h11 292 5 (fun _ => 0) := Fu.rep (n := 5) (x := 0) ((u9 292 (by omega) (by omega)).trans c9)
    have t93 : Fu h11 293 5 (fun _ => 0) := Fu.rep (n := 5) (x := 0) ((u10 293 (by omega) (by omega)).trans c10)
    have t94 : Fu h11 294 25 (fun _ => 0) := Fu.rep (n := 25) (x := 0) c11
    have rs : MRs h11 S00 := ⟨t86, ⟨_, t87, fun q => (by cases q)⟩, ⟨_, t89, fun i hi => absurd hi (Nat.not_lt_zero i)⟩, ⟨_, t90, fun i hi => absurd hi (Nat.not_lt_zero i)⟩⟩
    have sc : MSc h11 := ⟨⟨_, t88⟩, ⟨fun _ => 0, t91⟩, ⟨_, t92⟩, ⟨_, t93⟩, ⟨_, t94⟩⟩
    exact ⟨_, q11, ⟨rfl, rfl, rfl, rfl, rfl, rfl, rfl, rfl, rfl, rfl, rfl, rfl, rfl, rfl, rfl, rfl, ⟨_, rfl⟩, ⟨_, rfl⟩, ⟨_, rfl⟩, ⟨_, rfl⟩⟩, rs, sc, ⟨fun q => (by cases q), fun _ => rfl⟩⟩
theorem i_SOk : SOk 0 S00 := ⟨⟨by decide, ⟨0, rfl⟩, fun _ => by show Int8.toInt32 (Int32.toInt8 0) = 0; decide⟩, fun q => (by cases q), fun _ => ⟨rfl, rfl, rfl, rfl, rfl, rfl, rfl, rfl, rfl, rfl, rfl, rfl, rfl⟩, by decide, by decide, by decide⟩
section ZD
variable {G : Cx}
theorem W_end {c k n : Nat} {h : PH} (hL : pj_sL G ≤ 3072) (hc : ¬ 6 * c + 6 ≤ pj_sL G) (hc9 : c ≤ 512) (hk : k + 64 ≤ 601024) (hn : n + 700 ≤ 7293034) {xr mr ur : Option Nat} : f_W_step G xr mr ur (nI (6 * c), h, k, n) = some (.inr h) := by
  unfold f_W_step
  rw [if_pos ⟨hk, hn⟩]
  dsimp only
  rw [if_pos]
  show nI (pj_sL G) - nI 6 < nI (6 * c)
  by_cases z : 6 ≤ pj_sL G
  · rw [pk_sub z]
    exact nI_lt (by omega) (by omega)
  · have key : ∀ l, l < 6 → nI l - nI 6 < 0 := by decide
    exact Int32.lt_of_lt_of_le (key _ (by omega)) (nI_pos' (by omega))
theorem W_law (hL : pj_sL G ≤ 3072) : f_W_law G h00 = some 1 := by
  obtain ⟨hM, m1, m2, m3, m4⟩ := m_init iT_s.2
  have i3 : ∀ q, q < 295 → (hM ++ [(51, List.replicate 1 (.inr (.inl 0)))])[q]? = hM[q]? := fun q hq => List.getElem?_append_left (by omega)
  have st : St (hM ++ [(51, List.replicate 1 (.inr (.inl 0)))]) 0 := by
    refine ⟨102, none, S00, i_CI.m (fun q hq => (i3 q (by omega)).trans (m3 q hq)), m4.lt (fun q a b d => i3 q (by omega)) (by omega), i_SOk, by rw [List.length_append, m2]; exact Nat.le_refl _, 0, ?_⟩
    unfold Fo
    rw [List.getElem?_append_right (by omega), m2]
    rfl
  have e1 : f_T_init (h00 ++ [(10, pj_new 10)]) (some h00.length) = some hT0 := by
    rw [show h00.length = 100 from List.length_replicate]
    exact sm_gd iT_s.1
  have e2 : f_M_init (hT0 ++ [(12, pj_new 12)]) (some hT0.length) = some hM := by
    rw [iT_s.2]; exact m1
  unfold f_W_law
  rw [e1, Option.bind_some, e2, Option.bind_some, iT_s.2, m2, show h00.length = 100 from List.length_replicate]
  generalize hM ++ [(51, List.replicate 1 (.inr (.inl 0)))] = h3 at st
  have key : ∃ x, pj_it (X := PH) (f_W_step G (some 100) (some 285) (some 295)) FU ((0 : Int32), h3, 196, 9394) = some x ∧ True := by
    refine pj_inv (fun c s => ∃ h, s = (nI (6 * c), h, 196 + 64 * c, 9394 + 700 * c) ∧ St h c) (fun _ => True) (pj_sL G / 6) (by omega) ⟨h3, rfl, st⟩ ?_ ?_
    · rintro c s hc ⟨h, rfl, st⟩
      left
      obtain ⟨h1, a1, a2⟩ := W_step (k := 196 + 64 * c) (n := 9394 + 700 * c) hL st (by omega) (by omega) (by omega)
      refine ⟨_, a1, h1, ?_, a2⟩
      rw [show 196 + 64 * c + 64 = 196 + 64 * (c + 1) by omega, show 9394 + 700 * c + 700 = 9394 + 700 * (c + 1) by omega]
    · rintro s ⟨h, rfl, st⟩
      exact ⟨_, W_end hL (by omega) (by omega) (by omega) (by omega), trivial⟩
  obtain ⟨x, l1, -⟩ := key
  rw [l1, Option.bind_some]
end ZD
