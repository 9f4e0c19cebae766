/-! person, size, fault, where, trouble; tables; two -/
def OpV (fT : PH → Option Int32) (fM : PH → Option (Int32 × PH)) (c : Nat) (S : StD) : Prop := ∃ x, (∀ h lw, CI h lw S → fT h = some x) ∧ MO fM S S x ∧ SOk (c + 1) S
theorem SOk.up {c : Nat} {S : StD} (o : SOk c S) (hc : c < 600) : SOk (c + 1) S := o.tr (sTr S) (by omega) (by omega)
theorem rng_c (x : Int32) (n : Nat) (hn : n < 1000) : (∃ j, j ≤ n ∧ x = nI j) ∨ (x < 0 ∨ nI n < x) := by
  by_cases q : x < 0
  · exact Or.inr (Or.inl q)
  · obtain ⟨j, hj, rfl⟩ := nI_of q
    by_cases y : j ≤ n
    · exact Or.inl ⟨j, y, rfl⟩
    · exact Or.inr (Or.inr (nI_lt (by omega) hj))
theorem rng_i {x : Int32} {n : Nat} (hn : n < 1000) (q : x < 0 ∨ nI n < x) : x.toInt < 0 ∨ (n : Int) < x.toInt := by
  rcases q with q | q
  · exact Or.inl (Int32.lt_iff_toInt_lt.mp q)
  · right
    have := Int32.lt_iff_toInt_lt.mp q
    rwa [nI_toInt (by omega)] at this
theorem in12 : ∀ j, j ≤ 12 → f_M_in [] (nI j) 0 12 = some 1 := by decide +kernel
theorem in5 : ∀ j, j ≤ 5 → f_M_in [] (nI j) 0 5 = some 1 := by decide +kernel
section D11
variable {c : Nat} {S : StD}
theorem op_fault (o : SOk c S) (hc : c < 600) : OpV (fun h => f_T_fault h (some 100)) (fun h => f_M_fault h (some 285)) c S := by
  refine ⟨sFa S, fun h lw e => ?_, fun h ml e => ?_, o.up hc⟩
  · show f_T_fault h (some 100) = _
    unfold f_T_fault
    rw [gI_o e.2.1 rfl]
    rfl
  · obtain ⟨h1, s1, s2, s3⟩ := e.st
    refine ⟨h1, ml, ?_, s2, s3⟩
    obtain ⟨F, e0, e1, -⟩ := s2
    show f_M_fault h (some 285) = _
    unfold f_M_fault
    rw [s1, Option.bind_some, e0.gi (by omega) e1.2.2.2.2.2.1, Option.bind_some]
theorem op_trouble (o : SOk c S) (hc : c < 600) : OpV (fun h => f_T_trouble h (some 100)) (fun h => f_M_trouble h (some 285)) c S := by
  refine ⟨sTr S, fun h lw e => ?_, fun h ml e => ?_, o.up hc⟩
  · show f_T_trouble h (some 100) = _
    unfold f_T_trouble
    rw [gI_o e.2.1 rfl]
    rfl
  · obtain ⟨h1, s1, s2, s3⟩ := e.st
    refine ⟨h1, ml, ?_, s2, s3⟩
    obtain ⟨F, e0, e1, -⟩ := s2
    show f_M_trouble h (some 285) = _
    unfold f_M_trouble
    rw [s1, Option.bind_some, e0.gi (by omega) e1.1, Option.bind_some]
theorem op_where (o : SOk c S) (hc : c < 600) : OpV (fun h => f_T_where h (some 100)) (fun h => f_M_where h (some 285)) c S := by
  refine ⟨whS S, fun h lw e => ?_, fun h ml e => ?_, o.up hc⟩
  · show f_T_where h (some 100) = _
    unfold f_T_where whS
    rw [gI_o e.2.1 rfl, Option.bind_some]
    by_cases z : sTr S = 4
    · rw [if_neg (fun q => q z), if_pos z, gI_o e.2.1 rfl]; rfl
    · rw [if_pos z, if_neg z]
  · obtain ⟨h1, s1, s2, s3⟩ := e.st
    refine ⟨h1, ml, ?_, s2, s3⟩
    obtain ⟨F, e0, e1, -⟩ := s2
    show f_M_where h (some 285) = _
    unfold f_M_where
    rw [s1, Option.bind_some, e0.gi (by omega) e1.2.1, Option.bind_some]
theorem op_size0 (o : SOk c S) (hc : c < 600) : OpV (fun h => f_T_size h (some 100) (nI 0)) (fun h => f_M_size h (some 285) (nI 0)) c S := by
  refine ⟨root (sL S), fun h lw e => ?_, fun h ml e => ?_, o.up hc⟩
  · obtain ⟨σ, pa, -⟩ := e.2.2.2.2.2.2.2.2
    show f_T_size h (some 100) (nI 0) = _
    unfold f_T_size
    rw [if_neg (by decide +kernel), if_pos (by decide +kernel), gR_o e.2.1 rfl, Option.bind_some, gI_o e.2.2.2.1.1 rfl]
    rfl
  · obtain ⟨h1, s1, s2, s3⟩ := e.st
    refine ⟨h1, ml, ?_, s2, s3⟩
    show f_M_size h (some 285) (nI 0) = _
    unfold f_M_size
    rw [s1, Option.bind_some, if_pos (by decide +kernel), show f_M_in h1 (nI 0) 0 12 = some 1 from in12 0 (by omega), Option.bind_some, if_pos (by decide), s2.lwR, Option.bind_some]
    cases lf : sLf S with
    | true =>
      have ok := o.ok lf
      obtain ⟨i, m1, m2, m3⟩ := s2.ye lf
      obtain ⟨F, e0, e1, -⟩ := id s2
      rw [if_neg (by rw [m1]; simp), if_neg (by decide +kernel), if_pos (by decide +kernel), m1, Option.bind_some, (m3.v ok).1.1, Option.bind_some]
    | false =>
      have z := o.2.2.1 lf
      rw [if_pos (s2.no lf), z.1]
theorem op_size1 (o : SOk c S) (hc : c < 600) : OpV (fun h => f_T_size h (some 100) (nI 1)) (fun h => f_M_size h (some 285) (nI 1)) c S := by
  refine ⟨third (sL S), fun h lw e => ?_, fun h ml e => ?_, o.up hc⟩
  · obtain ⟨σ, pa, -⟩ := e.2.2.2.2.2.2.2.2
    show f_T_size h (some 100) (nI 1) = _
    unfold f_T_size
    rw [if_neg (by decide +kernel), if_neg (by decide +kernel), if_pos (by decide +kernel), gR_o e.2.1 rfl, Option.bind_some, gI_o e.2.2.2.1.1 rfl]
    rfl
  · obtain ⟨h1, s1, s2, s3⟩ := e.st
    refine ⟨h1, ml, ?_, s2, s3⟩
    show f_M_size h (some 285) (nI 1) = _
    unfold f_M_size
    rw [s1, Option.bind_some, if_pos (by decide +kernel), show f_M_in h1 (nI 1) 0 12 = some 1 from in12 1 (by omega), Option.bind_some, if_pos (by decide), s2.lwR, Option.bind_some]
    cases lf : sLf S with
    | true =>
      have ok := o.ok lf
      obtain ⟨i, m1, m2, m3⟩ := s2.ye lf
      obtain ⟨F, e0, e1, -⟩ := id s2
      rw [if_neg (by rw [m1]; simp), if_neg (by decide +kernel), if_neg (by decide +kernel), if_pos (by decide +kernel), m1, Option.bind_some, (m3.v ok).1.2.1, Option.bind_some]
    | false =>
      have z := o.2.2.1 lf
      rw [if_pos (s2.no lf), z.2.1]
theorem op_size2 (o : SOk c S) (hc : c < 600) : OpV (fun h => f_T_size h (some 100) (nI 2)) (fun h => f_M_size h (some 285) (nI 2)) c S := by
  refine ⟨nI (nC (sL S)), fun h lw e => ?_, fun h ml e => ?_, o.up hc⟩
  · obtain ⟨σ, pa, -⟩ := e.2.2.2.2.2.2.2.2
    show f_T_size h (some 100) (nI 2) = _
    unfold f_T_size
    rw [if_neg (by decide +kernel), if_neg (by decide +kernel), if_neg (by decide +kernel), if_pos (by decide +kernel), gR_o e.2.1 rfl, Option.bind_some, gI_o e.2.2.2.1.1 rfl]
    rfl
  · obtain ⟨h1, s1, s2, s3⟩ := e.st
    refine ⟨h1, ml, ?_, s2, s3⟩
    show f_M_size h (some 285) (nI 2) = _
    unfold f_M_size
    rw [s1, Option.bind_some, if_pos (by decide +kernel), show f_M_in h1 (nI 2) 0 12 = some 1 from in12 2 (by omega), Option.bind_some, if_pos (by decide), s2.lwR, Option.bind_some]
    cases lf : sLf S with
    | true =>
      have ok := o.ok lf
      obtain ⟨i, m1, m2, m3⟩ := s2.ye lf
      obtain ⟨F, e0, e1, -⟩ := id s2
      rw [if_neg (by rw [m1]; simp), if_neg (by decide +kernel), if_neg (by decide +kernel), if_neg (by decide +kernel), if_pos (by decide +kernel), m1, Option.bind_some, (m3.v ok).1.2.2.1, Option.bind_some]
    | false =>
      have z := o.2.2.1 lf
      rw [if_pos (s2.no lf), z.2.2.1]; rfl
theorem op_size3 (o : SOk c S) (hc : c < 600) : OpV (fun h => f_T_size h (some 100) (nI 3)) (fun h => f_M_size h (some 285) (nI 3)) c S := by
  refine ⟨nI (nP (sL S)), fun h lw e => ?_, fun h ml e => ?_, o.up hc⟩
  · obtain ⟨σ, pa, -⟩ := e.2.2.2.2.2.2.2.2
    show f_T_size h (some 100) (nI 3) = _
    unfold f_T_size
    rw [if_neg (by decide +kernel), if_neg (by decide +kernel), if_neg (by decide +kernel), if_neg (by decide +kernel), if_pos (by decide +kernel), gR_o e.2.1 rfl, Option.bind_some, gI_o e.2.2.2.1.1 rfl]
    rfl
  · obtain ⟨h1, s1, s2, s3⟩ := e.st
    refine ⟨h1, ml, ?_, s2, s3⟩
    show f_M_size h (some 285) (nI 3) = _
    unfold f_M_size
    rw [s1, Option.bind_some, if_pos (by decide +kernel), show f_M_in h1 (nI 3) 0 12 = some 1 from in12 3 (by omega), Option.bind_some, if_pos (by decide), s2.lwR, Option.bind_some]
    cases lf : sLf S with
    | true =>
      have ok := o.ok lf
      obtain ⟨i, m1, m2, m3⟩ := s2.ye lf
      obtain ⟨F, e0, e1, -⟩ := id s2
      rw [if_neg (by rw [m1]; simp), if_neg (by decide +kernel), if_neg (by decide +kernel), if_neg (by decide +kernel), if_neg (by decide +kernel), if_pos (by decide +kernel), m1, Option.bind_some, (m3.v ok).1.2.2.2.1, Option.bind_some]
    | false =>
      have z := o.2.2.1 lf
      rw [if_pos (s2.no lf), z.2.2.2.1]; rfl
theorem op_size4 (o : SOk c S) (hc : c < 600) : OpV (fun h => f_T_size h (some 100) (nI 4)) (fun h => f_M_size h (some 285) (nI 4)) c S := by
  refine ⟨nI (nK (sL S)), fun h lw e => ?_, fun h ml e => ?_, o.up hc⟩
  · obtain ⟨σ, pa, -⟩ := e.2.2.2.2.2.2.2.2
    show f_T_size h (some 100) (nI 4) = _
    unfold f_T_size
    rw [if_neg (by decide +kernel), if_neg (by decide +kernel), if_neg (by decide +kernel), if_neg (by decide +kernel), if_neg (by decide +kernel), if_pos (by decide +kernel), gR_o e.2.1 rfl, Option.bind_some, gI_o e.2.2.2.1.1 rfl]
    rfl
  · obtain ⟨h1, s1, s2, s3⟩ := e.st
    refine ⟨h1, ml, ?_, s2, s3⟩
    show f_M_size h (some 285) (nI 4) = _
    unfold f_M_size
    rw [s1, Option.bind_some, if_pos (by decide +kernel), show f_M_in h1 (nI 4) 0 12 = some 1 from in12 4 (by omega), Option.bind_some, if_pos (by decide), s2.lwR, Option.bind_some]
    cases lf : sLf S with
    | true =>
      have ok := o.ok lf
      obtain ⟨i, m1, m2, m3⟩ := s2.ye lf
      obtain ⟨F, e0, e1, -⟩ := id s2
      rw [if_neg (by rw [m1]; simp), if_neg (by decide +kernel), if_neg (by decide +kernel), if_neg (by decide +kernel), if_neg (by decide +kernel), if_neg (by decide +kernel), if_pos (by decide +kernel), m1, Option.bind_some, (m3.v ok).1.2.2.2.2.1, Option.bind_some]
    | false =>
      have z := o.2.2.1 lf
      rw [if_pos (s2.no lf), z.2.2.2.2.1]; rfl
theorem op_size5 (o : SOk c S) (hc : c < 600) : OpV (fun h => f_T_size h (some 100) (nI 5)) (fun h => f_M_size h (some 285) (nI 5)) c S := by
  refine ⟨nI (nR (sL S)), fun h lw e => ?_, fun h ml e => ?_, o.up hc⟩
  · obtain ⟨σ, pa, -⟩ := e.2.2.2.2.2.2.2.2
    show f_T_size h (some 100) (nI 5) = _
    unfold f_T_size
    rw [if_neg (by decide +kernel), if_neg (by decide +kernel), if_neg (by decide +kernel), if_neg (by decide +kernel), if_neg (by decide +kernel), if_neg (by decide +kernel), if_pos (by decide +kernel), gR_o e.2.1 rfl, Option.bind_some, gR_o e.2.2.2.1.1 rfl, Option.bind_some, gI_o e.2.2.2.1.2.2.2.2.2.2.2.2.1.1 rfl]
    rfl
  · obtain ⟨h1, s1, s2, s3⟩ := e.st
    refine ⟨h1, ml, ?_, s2, s3⟩
    show f_M_size h (some 285) (nI 5) = _
    unfold f_M_size
    rw [s1, Option.bind_some, if_pos (by decide +kernel), show f_M_in h1 (nI 5) 0 12 = some 1 from in12 5 (by omega), Option.bind_some, if_pos (by decide), s2.lwR, Option.bind_some]
    cases lf : sLf S with
    | true =>
      have ok := o.ok lf
      obtain ⟨i, m1, m2, m3⟩ := s2.ye lf
      obtain ⟨F, e0, e1, -⟩ := id s2
      rw [if_neg (by rw [m1]; simp), if_neg (by decide +kernel), if_neg (by decide +kernel), if_neg (by decide +kernel), if_neg (by decide +kernel), if_neg (by decide +kernel), if_neg (by decide +kernel), if_pos (by decide +kernel), m1, Option.bind_some, (m3.v ok).1.2.2.2.2.2.1, Option.bind_some]
    | false =>
      have z := o.2.2.1 lf
      rw [if_pos (s2.no lf), z.2.2.2.2.2.1]; rfl
theorem op_size6 (o : SOk c S) (hc : c < 600) : OpV (fun h => f_T_size h (some 100) (nI 6)) (fun h => f_M_size h (some 285) (nI 6)) c S := by
  refine ⟨nI (nQ (sL S)), fun h lw e => ?_, fun h ml e => ?_, o.up hc⟩
  · obtain ⟨σ, pa, -⟩ := e.2.2.2.2.2.2.2.2
    show f_T_size h (some 100) (nI 6) = _
    unfold f_T_size
    rw [if_neg (by decide +kernel), if_neg (by decide +kernel), if_neg (by decide +kernel), if_neg (by decide +kernel), if_neg (by decide +kernel), if_neg (by decide +kernel), if_neg (by decide +kernel), if_pos (by decide +kernel), gR_o e.2.1 rfl, Option.bind_some, gR_o e.2.2.2.1.1 rfl, Option.bind_some, gI_o e.2.2.2.1.2.2.2.2.2.2.2.2.2.1.1 rfl]
    rfl
  · obtain ⟨h1, s1, s2, s3⟩ := e.st
    refine ⟨h1, ml, ?_, s2, s3⟩
    show f_M_size h (some 285) (nI 6) = _
    unfold f_M_size
    rw [s1, Option.bind_some, if_pos (by decide +kernel), show f_M_in h1 (nI 6) 0 12 = some 1 from in12 6 (by omega), Option.bind_some, if_pos (by decide), s2.lwR, Option.bind_some]
    cases lf : sLf S with
    | true =>
      have ok := o.ok lf
      obtain ⟨i, m1, m2, m3⟩ := s2.ye lf
      obtain ⟨F, e0, e1, -⟩ := id s2
      rw [if_neg (by rw [m1]; simp), if_neg (by decide +kernel), if_neg (by decide +kernel), if_neg (by decide +kernel), if_neg (by decide +kernel), if_neg (by decide +kernel), if_neg (by decide +kernel), if_neg (by decide +kernel), if_pos (by decide +kernel), m1, Option.bind_some, (m3.v ok).1.2.2.2.2.2.2.1, Option.bind_some]
    | false =>
      have z := o.2.2.1 lf
      rw [if_pos (s2.no lf), z.2.2.2.2.2.2.1]; rfl
theorem op_size7 (o : SOk c S) (hc : c < 600) : OpV (fun h => f_T_size h (some 100) (nI 7)) (fun h => f_M_size h (some 285) (nI 7)) c S := by
  refine ⟨nI (nS (sL S)), fun h lw e => ?_, fun h ml e => ?_, o.up hc⟩
  · obtain ⟨σ, pa, -⟩ := e.2.2.2.2.2.2.2.2
    show f_T_size h (some 100) (nI 7) = _
    unfold f_T_size
    rw [if_neg (by decide +kernel), if_neg (by decide +kernel), if_neg (by decide +kernel), if_neg (by decide +kernel), if_neg (by decide +kernel), if_neg (by decide +kernel), if_neg (by decide +kernel), if_neg (by decide +kernel), if_pos (by decide +kernel), gR_o e.2.1 rfl, Option.bind_some, gR_o e.2.2.2.1.1 rfl, Option.bind_some, gI_o e.2.2.2.1.2.2.2.2.2.2.2.2.2.2.1 rfl]
    rfl
  · obtain ⟨h1, s1, s2, s3⟩ := e.st
    refine ⟨h1, ml, ?_, s2, s3⟩
    show f_M_size h (some 285) (nI 7) = _
    unfold f_M_size
    rw [s1, Option.bind_some, if_pos (by decide +kernel), show f_M_in h1 (nI 7) 0 12 = some 1 from in12 7 (by omega), Option.bind_some, if_pos (by decide), s2.lwR, Option.bind_some]
    cases lf : sLf S with
    | true =>
      have ok := o.ok lf
      obtain ⟨i, m1, m2, m3⟩ := s2.ye lf
      obtain ⟨F, e0, e1, -⟩ := id s2
      rw [if_neg (by rw [m1]; simp), if_neg (by decide +kernel), if_neg (by decide +kernel), if_neg (by decide +kernel), if_neg (by decide +kernel), if_neg (by decide +kernel), if_neg (by decide +kernel), if_neg (by decide +kernel), if_neg (by decide +kernel), if_pos (by decide +kernel), m1, Option.bind_some, (m3.v ok).1.2.2.2.2.2.2.2.1, Option.bind_some]
    | false =>
      have z := o.2.2.1 lf
      rw [if_pos (s2.no lf), z.2.2.2.2.2.2.2.1]; rfl
theorem op_size8 (o : SOk c S) (hc : c < 600) : OpV (fun h => f_T_size h (some 100) (nI 8)) (fun h => f_M_size h (some 285) (nI 8)) c S := by
  refine ⟨nI (nL (sL S)), fun h lw e => ?_, fun h ml e => ?_, o.up hc⟩
  · obtain ⟨σ, pa, -⟩ := e.2.2.2.2.2.2.2.2
    show f_T_size h (some 100) (nI 8) = _
    unfold f_T_size
    rw [if_neg (by decide +kernel), if_neg (by decide +kernel), if_neg (by decide +kernel), if_neg (by decide +kernel), if_neg (by decide +kernel), if_neg (by decide +kernel), if_neg (by decide +kernel), if_neg (by decide +kernel), if_neg (by decide +kernel), if_pos (by decide +kernel), gR_o e.2.1 rfl, Option.bind_some, gR_o e.2.2.2.1.1 rfl, Option.bind_some, gI_o e.2.2.2.1.2.2.2.2.2.2.2.2.2.2.1 rfl]
    rfl
  · obtain ⟨h1, s1, s2, s3⟩ := e.st
    refine ⟨h1, ml, ?_, s2, s3⟩
    show f_M_size h (some 285) (nI 8) = _
    unfold f_M_size
    rw [s1, Option.bind_some, if_pos (by decide +kernel), show f_M_in h1 (nI 8) 0 12 = some 1 from in12 8 (by omega), Option.bind_some, if_pos (by decide), s2.lwR, Option.bind_some]
    cases lf : sLf S with
    | true =>
      have ok := o.ok lf
      obtain ⟨i, m1, m2, m3⟩ := s2.ye lf
      obtain ⟨F, e0, e1, -⟩ := id s2
      rw [if_neg (by rw [m1]; simp), if_neg (by decide +kernel), if_neg (by decide +kernel), if_neg (by decide +kernel), if_neg (by decide +kernel), if_neg (by decide +kernel), if_neg (by decide +kernel), if_neg (by decide +kernel), if_neg (by decide +kernel), if_neg (by decide +kernel), if_pos (by decide +kernel), m1, Option.bind_some, (m3.v ok).1.2.2.2.2.2.2.2.2, Option.bind_some]
    | false =>
      have z := o.2.2.1 lf
      rw [if_pos (s2.no lf), z.2.2.2.2.2.2.2.2.1]; rfl
theorem op_size9 (o : SOk c S) (hc : c < 600) : OpV (fun h => f_T_size h (some 100) (nI 9)) (fun h => f_M_size h (some 285) (nI 9)) c S := by
  refine ⟨hou (sNw S), fun h lw e => ?_, fun h ml e => ?_, o.up hc⟩
  · obtain ⟨σ, pa, -⟩ := e.2.2.2.2.2.2.2.2
    show f_T_size h (some 100) (nI 9) = _
    unfold f_T_size
    rw [if_neg (by decide +kernel), if_neg (by decide +kernel), if_neg (by decide +kernel), if_neg (by decide +kernel), if_neg (by decide +kernel), if_neg (by decide +kernel), if_neg (by decide +kernel), if_neg (by decide +kernel), if_neg (by decide +kernel), if_neg (by decide +kernel), if_pos (by decide +kernel), gR_o e.2.1 rfl, Option.bind_some, gI_o e.2.2.2.2.2.2.1.1 rfl]
    rfl
  · obtain ⟨h1, s1, s2, s3⟩ := e.st
    refine ⟨h1, ml, ?_, s2, s3⟩
    show f_M_size h (some 285) (nI 9) = _
    unfold f_M_size
    rw [s1, Option.bind_some, if_pos (by decide +kernel), show f_M_in h1 (nI 9) 0 12 = some 1 from in12 9 (by omega), Option.bind_some, if_pos (by decide), s2.lwR, Option.bind_some]
    cases lf : sLf S with
    | true =>
      have ok := o.ok lf
      obtain ⟨i, m1, m2, m3⟩ := s2.ye lf
      obtain ⟨F, e0, e1, -⟩ := id s2
      rw [if_neg (by rw [m1]; simp), if_neg (by decide +kernel), if_neg (by decide +kernel), if_neg (by decide +kernel), if_neg (by decide +kernel), if_neg (by decide +kernel), if_neg (by decide +kernel), if_neg (by decide +kernel), if_neg (by decide +kernel), if_neg (by decide +kernel), if_neg (by decide +kernel), if_pos (by decide +kernel), s2.vr, Option.bind_some, (s2.row lf o.P5).2.2.1, Option.bind_some]
    | false =>
      have z := o.2.2.1 lf
      rw [if_pos (s2.no lf), z.2.2.2.2.2.2.2.2.2.1]
theorem op_size10 (o : SOk c S) (hc : c < 600) : OpV (fun h => f_T_size h (some 100) (nI 10)) (fun h => f_M_size h (some 285) (nI 10)) c S := by
  refine ⟨sed (sNw S), fun h lw e => ?_, fun h ml e => ?_, o.up hc⟩
  · obtain ⟨σ, pa, -⟩ := e.2.2.2.2.2.2.2.2
    show f_T_size h (some 100) (nI 10) = _
    unfold f_T_size
    rw [if_neg (by decide +kernel), if_neg (by decide +kernel), if_neg (by decide +kernel), if_neg (by decide +kernel), if_neg (by decide +kernel), if_neg (by decide +kernel), if_neg (by decide +kernel), if_neg (by decide +kernel), if_neg (by decide +kernel), if_neg (by decide +kernel), if_neg (by decide +kernel), if_pos (by decide +kernel), gR_o e.2.1 rfl, Option.bind_some, gI_o e.2.2.2.2.2.2.1.1 rfl]
    rfl
  · obtain ⟨h1, s1, s2, s3⟩ := e.st
    refine ⟨h1, ml, ?_, s2, s3⟩
    show f_M_size h (some 285) (nI 10) = _
    unfold f_M_size
    rw [s1, Option.bind_some, if_pos (by decide +kernel), show f_M_in h1 (nI 10) 0 12 = some 1 from in12 10 (by omega), Option.bind_some, if_pos (by decide), s2.lwR, Option.bind_some]
    cases lf : sLf S with
    | true =>
      have ok := o.ok lf
      obtain ⟨i, m1, m2, m3⟩ := s2.ye lf
      obtain ⟨F, e0, e1, -⟩ := id s2
      rw [if_neg (by rw [m1]; simp), if_neg (by decide +kernel), if_neg (by decide +kernel), if_neg (by decide +kernel), if_neg (by decide +kernel), if_neg (by decide +kernel), if_neg (by decide +kernel), if_neg (by decide +kernel), if_neg (by decide +kernel), if_neg (by decide +kernel), if_neg (by decide +kernel), if_neg (by decide +kernel), if_pos (by decide +kernel), s2.vr, Option.bind_some, (s2.row lf o.P5).2.2.2, Option.bind_some]
    | false =>
      have z := o.2.2.1 lf
      rw [if_pos (s2.no lf), z.2.2.2.2.2.2.2.2.2.2.1]
theorem op_size11 (o : SOk c S) (hc : c < 600) : OpV (fun h => f_T_size h (some 100) (nI 11)) (fun h => f_M_size h (some 285) (nI 11)) c S := by
  refine ⟨nI (und (sP S)), fun h lw e => ?_, fun h ml e => ?_, o.up hc⟩
  · obtain ⟨σ, pa, -⟩ := e.2.2.2.2.2.2.2.2
    show f_T_size h (some 100) (nI 11) = _
    unfold f_T_size
    rw [if_neg (by decide +kernel), if_neg (by decide +kernel), if_neg (by decide +kernel), if_neg (by decide +kernel), if_neg (by decide +kernel), if_neg (by decide +kernel), if_neg (by decide +kernel), if_neg (by decide +kernel), if_neg (by decide +kernel), if_neg (by decide +kernel), if_neg (by decide +kernel), if_neg (by decide +kernel), if_pos (by decide +kernel), gR_o e.2.1 rfl, Option.bind_some, pa.gi (by omega) rfl]
    rfl
  · obtain ⟨h1, s1, s2, s3⟩ := e.st
    refine ⟨h1, ml, ?_, s2, s3⟩
    show f_M_size h (some 285) (nI 11) = _
    unfold f_M_size
    rw [s1, Option.bind_some, if_pos (by decide +kernel), show f_M_in h1 (nI 11) 0 12 = some 1 from in12 11 (by omega), Option.bind_some, if_pos (by decide), s2.lwR, Option.bind_some]
    cases lf : sLf S with
    | true =>
      have ok := o.ok lf
      obtain ⟨i, m1, m2, m3⟩ := s2.ye lf
      obtain ⟨F, e0, e1, -⟩ := id s2
      rw [if_neg (by rw [m1]; simp), if_neg (by decide +kernel), if_neg (by decide +kernel), if_neg (by decide +kernel), if_neg (by decide +kernel), if_neg (by decide +kernel), if_neg (by decide +kernel), if_neg (by decide +kernel), if_neg (by decide +kernel), if_neg (by decide +kernel), if_neg (by decide +kernel), if_neg (by decide +kernel), if_neg (by decide +kernel), if_pos (by decide +kernel), e0.gi (by omega) e1.2.2.2.2.2.2.2.2.2.2.1, Option.bind_some]
    | false =>
      have z := o.2.2.1 lf
      rw [if_pos (s2.no lf), z.2.2.2.2.2.2.2.2.2.2.2.1]; rfl
theorem op_size12 (o : SOk c S) (hc : c < 600) : OpV (fun h => f_T_size h (some 100) (nI 12)) (fun h => f_M_size h (some 285) (nI 12)) c S := by
  refine ⟨nI (mks (sP S)), fun h lw e => ?_, fun h ml e => ?_, o.up hc⟩
  · obtain ⟨σ, pa, -⟩ := e.2.2.2.2.2.2.2.2
    show f_T_size h (some 100) (nI 12) = _
    unfold f_T_size
    rw [if_neg (by decide +kernel), if_neg (by decide +kernel), if_neg (by decide +kernel), if_neg (by decide +kernel), if_neg (by decide +kernel), if_neg (by decide +kernel), if_neg (by decide +kernel), if_neg (by decide +kernel), if_neg (by decide +kernel), if_neg (by decide +kernel), if_neg (by decide +kernel), if_neg (by decide +kernel), if_neg (by decide +kernel), if_pos (by decide +kernel), gR_o e.2.1 rfl, Option.bind_some, pa.gi (by omega) rfl]
    rfl
  · obtain ⟨h1, s1, s2, s3⟩ := e.st
    refine ⟨h1, ml, ?_, s2, s3⟩
    show f_M_size h (some 285) (nI 12) = _
    unfold f_M_size
    rw [s1, Option.bind_some, if_pos (by decide +kernel), show f_M_in h1 (nI 12) 0 12 = some 1 from in12 12 (by omega), Option.bind_some, if_pos (by decide), s2.lwR, Option.bind_some]
    cases lf : sLf S with
    | true =>
      have ok := o.ok lf
      obtain ⟨i, m1, m2, m3⟩ := s2.ye lf
      obtain ⟨F, e0, e1, -⟩ := id s2
      rw [if_neg (by rw [m1]; simp), if_pos (by decide +kernel), e0.gi (by omega) e1.2.2.2.2.2.2.2.2.2.2.2.1, Option.bind_some]
    | false =>
      have z := o.2.2.1 lf
      rw [if_pos (s2.no lf), z.2.2.2.2.2.2.2.2.2.2.2.2]; rfl
theorem op_size13 (o : SOk c S) (hc : c < 600) : OpV (fun h => f_T_size h (some 100) (nI 13)) (fun h => f_M_size h (some 285) (nI 13)) c S := by
  refine ⟨nI (sTn S), fun h lw e => ?_, fun h ml e => ?_, o.up hc⟩
  · obtain ⟨σ, pa, -⟩ := e.2.2.2.2.2.2.2.2
    show f_T_size h (some 100) (nI 13) = _
    unfold f_T_size
    rw [if_neg (by decide +kernel), if_neg (by decide +kernel), if_neg (by decide +kernel), if_neg (by decide +kernel), if_neg (by decide +kernel), if_neg (by decide +kernel), if_neg (by decide +kernel), if_neg (by decide +kernel), if_neg (by decide +kernel), if_neg (by decide +kernel), if_neg (by decide +kernel), if_neg (by decide +kernel), if_neg (by decide +kernel), if_neg (by decide +kernel), if_pos (by decide +kernel), gI_o e.2.1 rfl]
    rfl
  · obtain ⟨h1, s1, s2, s3⟩ := e.st
    refine ⟨h1, ml, ?_, s2, s3⟩
    show f_M_size h (some 285) (nI 13) = _
    unfold f_M_size
    obtain ⟨F, e0, e1, -⟩ := s2
    rw [s1, Option.bind_some, if_neg (by decide +kernel), e0.gi (by omega) e1.2.2.2.2.1, Option.bind_some]
theorem op_size (o : SOk c S) (hc : c < 600) (a : Int32) : OpV (fun h => f_T_size h (some 100) a) (fun h => f_M_size h (some 285) a) c S := by
  rcases rng_c a 13 (by omega) with ⟨j, hj, rfl⟩ | q
  · have : j = 0 ∨ j = 1 ∨ j = 2 ∨ j = 3 ∨ j = 4 ∨ j = 5 ∨ j = 6 ∨ j = 7 ∨ j = 8 ∨ j = 9 ∨ j = 10 ∨ j = 11 ∨ j = 12 ∨ j = 13 := by omega
    rcases this with rfl | rfl | rfl | rfl | rfl | rfl | rfl | rfl | rfl | rfl | rfl | rfl | rfl | rfl
    · exact op_size0 o hc
    · exact op_size1 o hc
    · exact op_size2 o hc
    · exact op_size3 o hc
    · exact op_size4 o hc
    · exact op_size5 o hc
    · exact op_size6 o hc
    · exact op_size7 o hc
    · exact op_size8 o hc
    · exact op_size9 o hc
    · exact op_size10 o hc
    · exact op_size11 o hc
    · exact op_size12 o hc
    · exact op_size13 o hc
  · have q2 : a.toInt < 0 ∨ (13 : Int) < a.toInt := rng_i (n := 13) (by omega) q
    refine ⟨-1, fun h lw e => ?_, fun h ml e => ?_, o.up hc⟩
    · show f_T_size h (some 100) a = _
      unfold f_T_size
      rw [if_pos q2]
    · obtain ⟨h1, s1, s2, s3⟩ := e.st
      refine ⟨h1, ml, ?_, s2, s3⟩
      show f_M_size h (some 285) a = _
      unfold f_M_size f_M_in
      rw [s1, Option.bind_some, if_pos (fun x => by rw [x] at q; exact absurd q (by decide +kernel))]
      rcases q with q | q
      · rw [if_pos q]; rfl
      · have hn : ¬ a < 0 := fun x => absurd (Int32.lt_trans q x) (by decide +kernel)
        have hm : (12 : Int32) < a := Int32.lt_trans (by decide +kernel) q
        rw [if_neg hn, if_pos hm]; rfl
theorem op_person0 (o : SOk c S) (hc : c < 600) {p : Nat} (hp : p < nP (sL S)) : Op (fun h => f_T_person h (some 100) (nI p) (nI 0)) (fun h => f_M_person h (some 285) (nI p) (nI 0)) c S := by
  have lf := o.lfP hp
  have ok := o.ok lf
  have h5 := o.P5
  refine ⟨srt (sL S) p, trS S 0, fun h lw e => ?_, fun h ml e => ?_, o.tr _ (by omega) (by omega)⟩
  · obtain ⟨h2, lw2, r1, r2, r3⟩ := e.fn (srt (sL S) p)
    refine ⟨h2, lw2, ?_, r2, r3⟩
    show f_T_person h (some 100) (nI p) (nI 0) = _
    unfold f_T_person
    rw [e.isP1 hp o.P5, Option.bind_some, if_neg (by decide), if_neg (by decide +kernel), if_pos (by decide +kernel), if_neg (by decide +kernel), if_pos (by decide +kernel), gR_o e.2.1 rfl, Option.bind_some, gR_o e.2.2.2.1.1 rfl, Option.bind_some, e.2.2.2.1.2.2.2.1.at (by omega) (by decide), Option.bind_some]
    exact r1
  · obtain ⟨h1, s1, s2, s3⟩ := e.st
    obtain ⟨i, m1, m2, m3⟩ := s2.ye lf
    obtain ⟨-, -, ⟨b6, a6, A6⟩, ⟨b7, a7, A7⟩, -⟩ := m3.v ok
    obtain ⟨h3, ml3, r1, r2, r3⟩ := s2.gd (srt (sL S) p)
    refine ⟨h3, ml3, ?_, r2, s3.tr r3⟩
    show f_M_person h (some 285) (nI p) (nI 0) = _
    unfold f_M_person
    rw [s1, Option.bind_some, s2.isP1 lf hp o.P5, Option.bind_some, if_neg (by decide), show f_M_in h1 (nI 0) 0 5 = some 1 from in5 0 (by omega), Option.bind_some, if_pos (by decide), if_neg (by decide +kernel), if_pos (by decide +kernel), s2.lwR, m1, Option.bind_some, a6, Option.bind_some, A6 p hp, Option.bind_some]
    exact r1
theorem op_person1 (o : SOk c S) (hc : c < 600) {p : Nat} (hp : p < nP (sL S)) : Op (fun h => f_T_person h (some 100) (nI p) (nI 1)) (fun h => f_M_person h (some 285) (nI p) (nI 1)) c S := by
  have lf := o.lfP hp
  have ok := o.ok lf
  have h5 := o.P5
  refine ⟨nI (frs (sL S) p), trS S 0, fun h lw e => ?_, fun h ml e => ?_, o.tr _ (by omega) (by omega)⟩
  · obtain ⟨h2, lw2, r1, r2, r3⟩ := e.fn (nI (frs (sL S) p))
    refine ⟨h2, lw2, ?_, r2, r3⟩
    show f_T_person h (some 100) (nI p) (nI 1) = _
    unfold f_T_person
    rw [e.isP1 hp o.P5, Option.bind_some, if_neg (by decide), if_neg (by decide +kernel), if_pos (by decide +kernel), if_neg (by decide +kernel), if_neg (by decide +kernel), if_pos (by decide +kernel), gR_o e.2.1 rfl, Option.bind_some, gR_o e.2.2.2.1.1 rfl, Option.bind_some, e.2.2.2.1.2.2.2.2.1.at (by omega) (by decide), Option.bind_some]
    exact r1
  · obtain ⟨h1, s1, s2, s3⟩ := e.st
    obtain ⟨i, m1, m2, m3⟩ := s2.ye lf
    obtain ⟨-, -, ⟨b6, a6, A6⟩, ⟨b7, a7, A7⟩, -⟩ := m3.v ok
    obtain ⟨h3, ml3, r1, r2, r3⟩ := s2.gd (nI (frs (sL S) p))
    refine ⟨h3, ml3, ?_, r2, s3.tr r3⟩
    show f_M_person h (some 285) (nI p) (nI 1) = _
    unfold f_M_person
    rw [s1, Option.bind_some, s2.isP1 lf hp o.P5, Option.bind_some, if_neg (by decide), show f_M_in h1 (nI 1) 0 5 = some 1 from in5 1 (by omega), Option.bind_some, if_pos (by decide), if_neg (by decide +kernel), if_neg (by decide +kernel), if_pos (by decide +kernel), s2.lwR, m1, Option.bind_some, a7, Option.bind_some, show aI h1 (some b7) (nI p) = some (nI (frs (sL S) p)) from A7 p hp, Option.bind_some]
    exact r1
theorem op_person2 (o : SOk c S) (hc : c < 600) {p : Nat} (hp : p < nP (sL S)) : Op (fun h => f_T_person h (some 100) (nI p) (nI 2)) (fun h => f_M_person h (some 285) (nI p) (nI 2)) c S := by
  have lf := o.lfP hp
  have ok := o.ok lf
  have h5 := o.P5
  refine ⟨nI (hel (sNw S) p), trS S 0, fun h lw e => ?_, fun h ml e => ?_, o.tr _ (by omega) (by omega)⟩
  · obtain ⟨h2, lw2, r1, r2, r3⟩ := e.fn (nI (hel (sNw S) p))
    refine ⟨h2, lw2, ?_, r2, r3⟩
    show f_T_person h (some 100) (nI p) (nI 2) = _
    unfold f_T_person
    rw [e.isP1 hp o.P5, Option.bind_some, if_neg (by decide), if_neg (by decide +kernel), if_pos (by decide +kernel), if_neg (by decide +kernel), if_neg (by decide +kernel), if_neg (by decide +kernel), if_pos (by decide +kernel), gR_o e.2.1 rfl, Option.bind_some, gR_o e.2.2.2.2.2.2.1.1 rfl, Option.bind_some, e.2.2.2.2.2.2.1.2.1.at (by omega) (by decide), Option.bind_some]
    exact r1
  · obtain ⟨h1, s1, s2, s3⟩ := e.st
    obtain ⟨i, m1, m2, m3⟩ := s2.ye lf
    obtain ⟨-, -, ⟨b6, a6, A6⟩, ⟨b7, a7, A7⟩, -⟩ := m3.v ok
    obtain ⟨h3, ml3, r1, r2, r3⟩ := s2.gd (nI (hel (sNw S) p))
    refine ⟨h3, ml3, ?_, r2, s3.tr r3⟩
    show f_M_person h (some 285) (nI p) (nI 2) = _
    unfold f_M_person
    rw [s1, Option.bind_some, s2.isP1 lf hp o.P5, Option.bind_some, if_neg (by decide), show f_M_in h1 (nI 2) 0 5 = some 1 from in5 2 (by omega), Option.bind_some, if_pos (by decide), if_neg (by decide +kernel), if_neg (by decide +kernel), if_neg (by decide +kernel), if_pos (by decide +kernel), s2.vr, Option.bind_some, nI_z, ((s2.row lf o.P5).1 p hp).1, Option.bind_some]
    exact r1
theorem op_person3 (o : SOk c S) (hc : c < 600) {p : Nat} (hp : p < nP (sL S)) : Op (fun h => f_T_person h (some 100) (nI p) (nI 3)) (fun h => f_M_person h (some 285) (nI p) (nI 3)) c S := by
  have lf := o.lfP hp
  have ok := o.ok lf
  have h5 := o.P5
  refine ⟨tur (sNw S) p, trS S 0, fun h lw e => ?_, fun h ml e => ?_, o.tr _ (by omega) (by omega)⟩
  · obtain ⟨h2, lw2, r1, r2, r3⟩ := e.fn (tur (sNw S) p)
    refine ⟨h2, lw2, ?_, r2, r3⟩
    show f_T_person h (some 100) (nI p) (nI 3) = _
    unfold f_T_person
    rw [e.isP1 hp o.P5, Option.bind_some, if_neg (by decide), if_neg (by decide +kernel), if_pos (by decide +kernel), if_neg (by decide +kernel), if_neg (by decide +kernel), if_neg (by decide +kernel), if_neg (by decide +kernel), if_pos (by decide +kernel), gR_o e.2.1 rfl, Option.bind_some, gR_o e.2.2.2.2.2.2.1.1 rfl, Option.bind_some, e.2.2.2.2.2.2.1.2.2.1.at (by omega) (by decide), Option.bind_some]
    exact r1
  · obtain ⟨h1, s1, s2, s3⟩ := e.st
    obtain ⟨i, m1, m2, m3⟩ := s2.ye lf
    obtain ⟨-, -, ⟨b6, a6, A6⟩, ⟨b7, a7, A7⟩, -⟩ := m3.v ok
    obtain ⟨h3, ml3, r1, r2, r3⟩ := s2.gd (tur (sNw S) p)
    refine ⟨h3, ml3, ?_, r2, s3.tr r3⟩
    show f_M_person h (some 285) (nI p) (nI 3) = _
    unfold f_M_person
    rw [s1, Option.bind_some, s2.isP1 lf hp o.P5, Option.bind_some, if_neg (by decide), show f_M_in h1 (nI 3) 0 5 = some 1 from in5 3 (by omega), Option.bind_some, if_pos (by decide), if_neg (by decide +kernel), if_neg (by decide +kernel), if_neg (by decide +kernel), if_neg (by decide +kernel), if_pos (by decide +kernel), s2.vr, Option.bind_some, nI_5p, ((s2.row lf o.P5).1 p hp).2.1, Option.bind_some]
    exact r1
theorem op_person4 (o : SOk c S) (hc : c < 600) {p : Nat} (hp : p < nP (sL S)) : Op (fun h => f_T_person h (some 100) (nI p) (nI 4)) (fun h => f_M_person h (some 285) (nI p) (nI 4)) c S := by
  have lf := o.lfP hp
  have ok := o.ok lf
  have h5 := o.P5
  refine ⟨spe (sNw S) p, trS S 0, fun h lw e => ?_, fun h ml e => ?_, o.tr _ (by omega) (by omega)⟩
  · obtain ⟨h2, lw2, r1, r2, r3⟩ := e.fn (spe (sNw S) p)
    refine ⟨h2, lw2, ?_, r2, r3⟩
    show f_T_person h (some 100) (nI p) (nI 4) = _
    unfold f_T_person
    rw [e.isP1 hp o.P5, Option.bind_some, if_neg (by decide), if_neg (by decide +kernel), if_pos (by decide +kernel), if_neg (by decide +kernel), if_neg (by decide +kernel), if_neg (by decide +kernel), if_neg (by decide +kernel), if_neg (by decide +kernel), if_pos (by decide +kernel), gR_o e.2.1 rfl, Option.bind_some, gR_o e.2.2.2.2.2.2.1.1 rfl, Option.bind_some, e.2.2.2.2.2.2.1.2.2.2.1.at (by omega) (by decide), Option.bind_some]
    exact r1
  · obtain ⟨h1, s1, s2, s3⟩ := e.st
    obtain ⟨i, m1, m2, m3⟩ := s2.ye lf
    obtain ⟨-, -, ⟨b6, a6, A6⟩, ⟨b7, a7, A7⟩, -⟩ := m3.v ok
    obtain ⟨h3, ml3, r1, r2, r3⟩ := s2.gd (spe (sNw S) p)
    refine ⟨h3, ml3, ?_, r2, s3.tr r3⟩
    show f_M_person h (some 285) (nI p) (nI 4) = _
    unfold f_M_person
    rw [s1, Option.bind_some, s2.isP1 lf hp o.P5, Option.bind_some, if_neg (by decide), show f_M_in h1 (nI 4) 0 5 = some 1 from in5 4 (by omega), Option.bind_some, if_pos (by decide), if_neg (by decide +kernel), if_neg (by decide +kernel), if_neg (by decide +kernel), if_neg (by decide +kernel), if_neg (by decide +kernel), if_pos (by decide +kernel), s2.vr, Option.bind_some, nI_10p, ((s2.row lf o.P5).1 p hp).2.2.1, Option.bind_some]
    exact r1
theorem op_person5 (o : SOk c S) (hc : c < 600) {p : Nat} (hp : p < nP (sL S)) : Op (fun h => f_T_person h (some 100) (nI p) (nI 5)) (fun h => f_M_person h (some 285) (nI p) (nI 5)) c S := by
  have lf := o.lfP hp
  have ok := o.ok lf
  have h5 := o.P5
  refine ⟨lat (sNw S) p, trS S 0, fun h lw e => ?_, fun h ml e => ?_, o.tr _ (by omega) (by omega)⟩
  · obtain ⟨h2, lw2, r1, r2, r3⟩ := e.fn (lat (sNw S) p)
    refine ⟨h2, lw2, ?_, r2, r3⟩
    show f_T_person h (some 100) (nI p) (nI 5) = _
    unfold f_T_person
    rw [e.isP1 hp o.P5, Option.bind_some, if_neg (by decide), if_neg (by decide +kernel), if_pos (by decide +kernel), if_pos (by decide +kernel), gR_o e.2.1 rfl, Option.bind_some, gR_o e.2.2.2.2.2.2.1.1 rfl, Option.bind_some, e.2.2.2.2.2.2.1.2.2.2.2.at (by omega) (by decide), Option.bind_some]
    exact r1
  · obtain ⟨h1, s1, s2, s3⟩ := e.st
    obtain ⟨i, m1, m2, m3⟩ := s2.ye lf
    obtain ⟨-, -, ⟨b6, a6, A6⟩, ⟨b7, a7, A7⟩, -⟩ := m3.v ok
    obtain ⟨h3, ml3, r1, r2, r3⟩ := s2.gd (lat (sNw S) p)
    refine ⟨h3, ml3, ?_, r2, s3.tr r3⟩
    show f_M_person h (some 285) (nI p) (nI 5) = _
    unfold f_M_person
    rw [s1, Option.bind_some, s2.isP1 lf hp o.P5, Option.bind_some, if_neg (by decide), show f_M_in h1 (nI 5) 0 5 = some 1 from in5 5 (by omega), Option.bind_some, if_pos (by decide), if_pos (by decide +kernel), s2.vr, Option.bind_some, nI_15p, ((s2.row lf o.P5).1 p hp).2.2.2, Option.bind_some]
    exact r1
theorem op_person (o : SOk c S) (hc : c < 600) (a b : Int32) : Op (fun h => f_T_person h (some 100) a b) (fun h => f_M_person h (some 285) a b) c S := by
  rcases arg_c a (nP (sL S)) (by have := o.P5; omega) with ⟨p, hp, rfl⟩ | ha
  · have lf := o.lfP hp
    rcases rng_c b 5 (by omega) with ⟨j, hj, rfl⟩ | q
    · have : j = 0 ∨ j = 1 ∨ j = 2 ∨ j = 3 ∨ j = 4 ∨ j = 5 := by omega
      rcases this with rfl | rfl | rfl | rfl | rfl | rfl
      · exact op_person0 o hc hp
      · exact op_person1 o hc hp
      · exact op_person2 o hc hp
      · exact op_person3 o hc hp
      · exact op_person4 o hc hp
      · exact op_person5 o hc hp
    · refine ⟨-1, trS S 1, fun h lw e => ?_, fun h ml e => ?_, o.tr _ (by omega) (by omega)⟩
      · obtain ⟨h1, lw1, r1, r2, r3⟩ := e.rf 1
        refine ⟨h1, lw1, ?_, r2, r3⟩
        show f_T_person h (some 100) (nI p) b = _
        unfold f_T_person
        rw [e.isP1 hp o.P5, Option.bind_some, if_neg (by decide)]
        rcases q with q | q
        · rw [if_pos q]; exact r1
        · rw [if_neg (fun x => absurd (Int32.lt_trans q x) (by decide +kernel)), if_neg (fun x : b ≤ 5 => absurd (show (5 : Int32) < b from q) (Int32.not_lt.mpr x))]
          exact r1
      · obtain ⟨h1, s1, s2, s3⟩ := e.st
        obtain ⟨h2, ml2, r1, r2, r3⟩ := s2.rf 1 (by decide)
        refine ⟨h2, ml2, ?_, r2, s3.tr r3⟩
        show f_M_person h (some 285) (nI p) b = _
        unfold f_M_person f_M_in
        rw [s1, Option.bind_some, s2.isP1 lf hp o.P5, Option.bind_some, if_neg (by decide)]
        rcases q with q | q
        · rw [if_pos q, Option.bind_some, if_neg (fun x => x rfl)]; exact r1
        · rw [if_neg (fun x => absurd (Int32.lt_trans q x) (by decide +kernel)), if_pos (show (5 : Int32) < b from q), Option.bind_some, if_neg (fun x => x rfl)]; exact r1
  · refine ⟨-1, trS S 1, fun h lw e => ?_, fun h ml e => ?_, o.tr _ (by omega) (by omega)⟩
    · obtain ⟨h1, lw1, r1, r2, r3⟩ := e.rf 1
      refine ⟨h1, lw1, ?_, r2, r3⟩
      show f_T_person h (some 100) a b = _
      unfold f_T_person
      rw [e.isP0 ha, Option.bind_some, if_pos rfl]
      exact r1
    · obtain ⟨h1, s1, s2, s3⟩ := e.st
      obtain ⟨h2, ml2, r1, r2, r3⟩ := s2.rf 1 (by decide)
      refine ⟨h2, ml2, ?_, r2, s3.tr r3⟩
      show f_M_person h (some 285) a b = _
      unfold f_M_person
      rw [s1, Option.bind_some, s2.isP0 ha, Option.bind_some, if_pos rfl]
      exact r1
end D11
