/-! led: the reference; both -/
section ZB
variable {h h1 h2 : PH} {c lw : Nat} {ml : Option Nat} {S : StD}
/-- what led finds -/
def ldO (S : StD) (a : Int32) : Option Nat := if a < 0 then none else ldA (sL S) (sNw S) a.toNatClampNeg (nP (sL S))
theorem ldO_n {j : Nat} (hj : j < 2 ^ 31) : ldO S (nI j) = ldA (sL S) (sNw S) j (nP (sL S)) := by
  unfold ldO
  rw [if_neg (nI_pos hj), nI_clamp hj]
theorem ref_led (m : Mst h ml S) (o : SOk c S) (a : Int32) : ∃ h1 y t, cl h 12 (some 285) (f_M_led h (some 285) a) = some (y, h1) ∧ Mst h1 ml S ∧ Fr h h1 285 286 ∧ gI h1 12 (some 285) 0 = some t ∧ ((∃ q, ldO S a = some q ∧ y = nI q ∧ t = 0) ∨ (ldO S a = none ∧ t = 1)) := by
  rw [m.cl]
  unfold f_M_led
  obtain ⟨h1, s1, m1, F1, v1, -⟩ := m.sf (k := 0) (.inl (0 : Int32)) (by omega)
  rw [s1, Option.bind_some]
  have g0 : gI h1 12 (some 285) 0 = some 0 := by unfold gI; rw [v1]; rfl
  obtain ⟨h2, s2, m2, F2, v2, -⟩ := m1.sf (k := 0) (.inl (1 : Int32)) (by omega)
  have g1 : gI h2 12 (some 285) 0 = some 1 := by unfold gI; rw [v2]; rfl
  suffices key : ∃ x, pj_it (X := Unit ⊕ Int32) (fun s2 : Int32 × Int32 => (gR h1 12 (some 285) 3).bind fun v4 => if v4 = none then (some (.inr (.inl ()))) else ((gR h1 12 (some 285) 3).bind fun v5 => (gI h1 11 v5 3).bind fun v6 => if v6 ≤ s2.2 then (some (.inr (.inl ()))) else ((gR h1 12 (some 285) 15).bind fun v7 => (aI h1 v7 ((0 : Int32) + s2.2)).bind fun v8 => (gR h1 12 (some 285) 3).bind fun v9 => (gR h1 11 v9 12).bind fun v10 => (aI h1 v10 s2.2).bind fun v11 => if v8 = v11 then (if ¬ s2.1 = a then (some (.inl ((s2.1 + (1 : Int32)), (s2.2 + (1 : Int32))))) else (some (.inr (.inr s2.2)))) else (some (.inl (s2.1, (s2.2 + (1 : Int32)))))))) FU ((0 : Int32), (0 : Int32)) = some x ∧ ((x = .inl () ∧ ldO S a = none) ∨ ∃ q, x = .inr (nI q) ∧ ldO S a = some q) by
    obtain ⟨x, l1, l2⟩ := key
    rw [l1, Option.bind_some]
    rcases l2 with ⟨rfl, l3⟩ | ⟨q, rfl, l3⟩
    · dsimp only
      rw [s2, Option.bind_some]
      exact ⟨h2, _, 1, rfl, m2, F1.tr F2, g1, Or.inr ⟨l3, rfl⟩⟩
    · exact ⟨h1, _, 0, rfl, m1, F1, g0, Or.inl ⟨q, l3, rfl, rfl⟩⟩
  obtain ⟨F, e0, e1, ⟨e2, ⟨fv, w1, w2⟩, -⟩, e3, e4⟩ := m1
  have f3 := e1.2.2.1
  have f15 := e1.2.2.2.2.2.2.1
  cases hf : sLf S with
  | false =>
    have p0 : nP (sL S) = 0 := (o.2.2.1 hf).2.2.2.1
    rw [e4.2 hf] at f3
    refine ⟨.inl (), ?_, Or.inl ⟨rfl, ?_⟩⟩
    · refine pj_for (fun _ => ((0 : Int32), (0 : Int32))) _ 0 FU (by decide) (fun i hi => absurd hi (Nat.not_lt_zero i)) ?_
      dsimp only
      rw [e0.gr (by omega) f3, Option.bind_some, if_pos rfl]
    · unfold ldO
      rw [p0]
      split <;> rfl
  | true =>
    obtain ⟨i, rfl, i9, lc⟩ := e4.1 hf
    obtain ⟨⟨o1, o2, o3, o4, o5, o6, o7, -⟩, -, ⟨-, -, -, g4, -⟩, -⟩ := o.2.1 hf
    obtain ⟨wv, -⟩ := w2 hf
    obtain ⟨G, c0, ⟨-, -, -, c3, -⟩, c4, -, -, c6, -⟩ := lc
    have hit : ∀ k, k < nP (sL S) → (nI (lcA (sL S) (sNw S) k) = a ↔ ¬ a < 0 ∧ lcA (sL S) (sNw S) k = a.toNatClampNeg) := by
      intro k hk
      have := lc_le (L := sL S) (N := sNw S) k
      by_cases z : a < 0
      · exact ⟨fun q => absurd z (by rw [← q]; exact nI_pos (by omega)), fun q => absurd z q.1⟩
      · obtain ⟨j, j1, rfl⟩ := nI_of z
        rw [nI_clamp j1, nI_eq (by omega) j1]
        exact ⟨fun q => ⟨z, q⟩, fun q => q.2⟩
    have fin : ∀ k, k ≤ nP (sL S) → (∀ j, ¬ a < 0 → a.toNatClampNeg = j → ldA (sL S) (sNw S) j k = none) → k = nP (sL S) → ldO S a = none := by
      intro k _ q r
      unfold ldO
      by_cases z : a < 0
      · rw [if_pos z]
      · rw [if_neg z, ← r]; exact q _ z rfl
    refine pj_inv (fun k s => s = (nI (lcA (sL S) (sNw S) k), nI k) ∧ ∀ j, ¬ a < 0 → a.toNatClampNeg = j → ldA (sL S) (sNw S) j k = none) (fun x : Unit ⊕ Int32 => (x = .inl () ∧ ldO S a = none) ∨ ∃ q, x = .inr (nI q) ∧ ldO S a = some q) (nP (sL S)) (by omega) ⟨rfl, fun j _ _ => rfl⟩ ?_ ?_
    · rintro k s hk ⟨rfl, x3⟩
      dsimp only
      have b1 := (g4 k hk).1
      have b2 := o7 k hk
      rw [e0.gr (by omega) f3, Option.bind_some, if_neg (fun q => by cases q), Option.bind_some, c0.gi (by omega) c3, Option.bind_some, if_neg (nI_ge hk (by omega)), e0.gr (by omega) f15, Option.bind_some, nI_z, show aI h1 (some 287) (nI k) = some (nI (hel (sNw S) k)) from (wv k hk).1 ▸ w1.at (by omega) (by decide), Option.bind_some, Option.bind_some, c0.gr (by omega) (c4 2 (by omega)), Option.bind_some, show i + 1 + 2 = i + 3 from rfl, c6.ar (by omega) (by decide) k hk, Option.bind_some, nI_s]
      by_cases z : hel (sNw S) k = frs (sL S) k
      · rw [if_pos (by rw [z])]
        by_cases y : nI (lcA (sL S) (sNw S) k) = a
        · obtain ⟨y1, y2⟩ := (hit k hk).mp y
          rw [if_neg (fun q => q y)]
          refine Or.inr ⟨_, rfl, Or.inr ⟨k, rfl, ?_⟩⟩
          unfold ldO
          rw [if_neg y1]
          refine ld_st (k := k + 1) ?_ _ hk
          unfold ldA
          rw [x3 _ y1 rfl]
          exact if_pos ⟨z, y2⟩
        · rw [if_pos y, nI_s]
          refine Or.inl ⟨_, rfl, ?_, fun j p1 p2 => ?_⟩
          · show _ = (nI (if hel (sNw S) k = frs (sL S) k then lcA (sL S) (sNw S) k + 1 else lcA (sL S) (sNw S) k), nI (k + 1))
            rw [if_pos z]
          · unfold ldA
            rw [x3 j p1 p2]
            exact if_neg (fun q => y ((hit k hk).mpr ⟨p1, by rw [q.2, p2]⟩))
      · rw [if_neg (fun q => z ((nI_eq (by omega) (by omega)).mp q))]
        refine Or.inl ⟨_, rfl, ?_, fun j p1 p2 => ?_⟩
        · show _ = (nI (if hel (sNw S) k = frs (sL S) k then lcA (sL S) (sNw S) k + 1 else lcA (sL S) (sNw S) k), nI (k + 1))
          rw [if_neg z, nI_s]
        · unfold ldA
          rw [x3 j p1 p2]
          exact if_neg (fun q => z q.1)
    · rintro s ⟨rfl, x3⟩
      dsimp only
      rw [e0.gr (by omega) f3, Option.bind_some, if_neg (fun q => by cases q), Option.bind_some, c0.gi (by omega) c3, Option.bind_some, if_pos (nI_le (Nat.le_refl _) (by omega))]
      exact ⟨_, rfl, Or.inl ⟨rfl, fin _ (Nat.le_refl _) x3 rfl⟩⟩
theorem cls_led0 (e : CI h lw S) (o : SOk c S) (a : Int32) : f_T_led h (some 100) a = some (match ldO S a with
    | some q => .inl (nI q)
    | none => .inr ()) := by
  by_cases z : a < 0
  · rw [cls_ledN e z]
    unfold ldO
    rw [if_pos z]
  · obtain ⟨j, j1, rfl⟩ := nI_of z
    rw [ldO_n j1]
    exact cls_led e o j1
/-- led by both: found, or thrown -/
theorem run_led (s : StA h c lw ml S) (hc : c < 600) (a : Int32) : ∃ k h1 y h2, f_W_led h (some 100) a (some 295) = some (k, h1) ∧ cl h1 12 (some 285) (f_M_led h1 (some 285) a) = some (y, h2) ∧ cl h2 12 (some 285) (f_M_thrown h2 (some 285)) = some k ∧ (k = 0 → aL h2 (some 295) (0 : Int32) = some y.toInt64) ∧ St h2 (c + 1) := by
  obtain ⟨e, m, ok, hl, x9, hx⟩ := s
  have l1 := cls_led0 e ok a
  unfold f_W_led f_M_thrown
  rw [pj_at_o e.2.1, Option.bind_some, l1, Option.bind_some]
  cases hd : ldO S a with
  | some q =>
    dsimp only
    obtain ⟨h1, b1, b2, b3⟩ := Fo.aset (k := 0) hx (by omega) (by decide) (.inr (.inl (nI q).toInt64))
    have b1 : sA h 51 (some 295) 0 (.inr (.inl (nI q).toInt64)) = some h1 := b1
    have m1 : Mst h1 ml S := m.lt (fun i p1 p2 p3 => b3.2 i (by omega)) (by omega)
    obtain ⟨h2, y, t, r1, r2, r3, r4, r5⟩ := ref_led m1 ok a
    rw [b1, Option.bind_some]
    rcases r5 with ⟨q', d1, rfl, rfl⟩ | ⟨d1, d2⟩
    · rw [hd] at d1
      cases d1
      have hx2 : Fo h2 295 51 1 (fun _ => .inr (.inl (nI q).toInt64)) := (b2.gt (fun k hk => by
        obtain rfl : k = 0 := by omega
        rfl)).fr r3 (by omega)
      refine ⟨0, h1, _, h2, rfl, r1, by rw [r2.cl, r4]; rfl, fun _ => hx2.aL (k := 0) (by omega) (by decide) rfl, lw, ml, S, (e.m (fun i q => b3.2 i (by omega))).m (fun i q => r3.2 i (by omega)), r2, ok.up hc, by rw [r3.1, b3.1]; exact hl, _, hx2⟩
    · rw [hd] at d1; cases d1
  | none =>
    dsimp only
    have fx : ∀ i, i < h.length → (h ++ [((99, []) : PC)])[i]? = h[i]? := fun i hi => List.getElem?_append_left hi
    have m1 : Mst (h ++ [(99, [])]) ml S := m.lt (fun i p1 p2 p3 => fx i p3) (by omega)
    obtain ⟨h2, y, t, r1, r2, r3, r4, r5⟩ := ref_led m1 ok a
    rcases r5 with ⟨q', d1, -⟩ | ⟨d1, rfl⟩
    · rw [hd] at d1; cases d1
    · refine ⟨1, _, y, h2, rfl, r1, by rw [r2.cl, r4]; rfl, fun q => absurd q (by decide), lw, ml, S, (e.m (fun i q => fx i (by omega))).m (fun i q => r3.2 i (by omega)), r2, ok.up hc, by rw [r3.1, List.length_append]; omega, x9, (r3.2 _ (by omega)).trans ((fx _ (by omega)).trans hx)⟩
end ZB
