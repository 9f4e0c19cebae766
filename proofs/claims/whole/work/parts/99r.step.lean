/-! a step of the law -/
section ZC
variable {G : Cx} {h : PH} {c k n : Nat}
theorem scr_v {j : Nat} (hj : j < pj_sL G) (hL : pj_sL G ≤ 3072) : scr G (nI j) = some (pj_sX G j) := by
  unfold scr
  rw [nI_clamp (by omega), if_neg]
  rintro (q | q)
  · exact nI_pos (by omega) q
  · omega
theorem bo_if (x : Int32) : (if x = 0 then (some (0 : Int32)) else (some (1 : Int32)) : Option Int32) = some (if x = 0 then 0 else 1) := by
  split <;> rfl
theorem St.up (s : St h c) (hc : c < 600) : St h (c + 1) := by
  obtain ⟨lw, ml, S, a, b, d, e⟩ := s
  exact ⟨lw, ml, S, a, b, d.up hc, e⟩
set_option maxRecDepth 20000 in
set_option maxHeartbeats 4000000 in
theorem W_step (hL : pj_sL G ≤ 3072) (st : St h c) (hc : 6 * c + 6 ≤ pj_sL G) (hk : k + 64 ≤ 601024) (hn : n + 700 ≤ 7293034) : ∃ h1, f_W_step G (some 100) (some 285) (some 295) (nI (6 * c), h, k, n) = some (.inl (nI (6 * (c + 1)), h1, k + 64, n + 700)) ∧ St h1 (c + 1) := by
  have c6 : c < 600 := by omega
  have st1 := st.up c6
  obtain ⟨lw, ml, S, sa⟩ := st
  have ok := sa.2.2.1
  have s6 : nI (6 * c) + (6 : Int32) = nI (6 * (c + 1)) := by rw [show (6 : Int32) = nI 6 from rfl, nI_add]; rfl
  unfold f_W_step
  rw [if_pos ⟨hk, hn⟩]
  dsimp only
  rw [if_neg (show ¬ (pj_sL G).toInt32 - 6 < nI (6 * c) from by
    show ¬ nI (pj_sL G) - nI 6 < nI (6 * c)
    rw [pk_sub (by omega)]
    exact nI_nlt (by omega) (by omega)), scr_v (by omega) hL, Option.bind_some, s6]
  have a1 : scr G (nI (6 * c) + (1 : Int32)) = some (pj_sX G (6 * c + 1)) := by rw [show (1 : Int32) = nI 1 from rfl, nI_add]; exact scr_v (by omega) hL
  have a2 : scr G (nI (6 * c) + (2 : Int32)) = some (pj_sX G (6 * c + 2)) := by rw [show (2 : Int32) = nI 2 from rfl, nI_add]; exact scr_v (by omega) hL
  have a3 : scr G (nI (6 * c) + (3 : Int32)) = some (pj_sX G (6 * c + 3)) := by rw [show (3 : Int32) = nI 3 from rfl, nI_add]; exact scr_v (by omega) hL
  have a4 : scr G (nI (6 * c) + (4 : Int32)) = some (pj_sX G (6 * c + 4)) := by rw [show (4 : Int32) = nI 4 from rfl, nI_add]; exact scr_v (by omega) hL
  have a5 : scr G (nI (6 * c) + (5 : Int32)) = some (pj_sX G (6 * c + 5)) := by rw [show (5 : Int32) = nI 5 from rfl, nI_add]; exact scr_v (by omega) hL
  generalize pj_sX G (6 * c) &&& (63 : Int32) = v
  generalize pj_sX G (6 * c + 1) = x1 at a1
  generalize pj_sX G (6 * c + 2) = x2 at a2
  generalize pj_sX G (6 * c + 3) = x3 at a3
  generalize pj_sX G (6 * c + 4) = x4 at a4
  generalize pj_sX G (6 * c + 5) = x5 at a5
  by_cases zv : v.toInt < 0 ∨ 52 < v.toInt
  · rw [if_pos zv]
    exact ⟨h, rfl, st1⟩
  rw [if_neg zv]
  obtain ⟨o, o52, rfl⟩ : ∃ o, o ≤ 52 ∧ v = nI o := by
    have v0 : ¬ v < 0 := fun q => zv (Or.inl (Int32.lt_iff_toInt_lt.mp q))
    obtain ⟨j, j1, rfl⟩ := nI_of v0
    rw [nI_toInt j1] at zv
    exact ⟨j, by omega, rfl⟩
  clear zv
  by_cases z0 : o = 0
  · rw [if_pos (show nI o = (0 : Int32) by rw [z0]; rfl)]
    obtain ⟨x, h1, h2, r1, r2, r3⟩ := (op_feed ok c6 x1 x2 x3 x4 x5).run sa
    have r1 : cl h 10 (some 100) (f_T_feed h (some 100) x1 x2 x3 x4 x5) = some (x, h1) := r1
    have r2 : cl h1 12 (some 285) (f_M_feed h1 (some 285) x1 x2 x3 x4 x5) = some (x, h2) := r2
    rw [a1, Option.bind_some, a2, Option.bind_some, a3, Option.bind_some, a4, Option.bind_some, a5, Option.bind_some, r1, Option.bind_some]
    dsimp only
    rw [Option.bind_some, Option.bind_some, Option.bind_some, Option.bind_some, Option.bind_some, r2, Option.bind_some]
    dsimp only
    rw [if_pos rfl]
    exact ⟨h2, rfl, r3⟩
  rw [if_neg (fun q => z0 ((nI_ec (x := 0) (k := 0) rfl (by omega) (by omega)).mp q))]
  by_cases z1 : o = 1
  · rw [if_pos (show nI o = (1 : Int32) by rw [z1]; rfl)]
    obtain ⟨x, h1, h2, r1, r2, r3⟩ := run_laws sa c6 x1
    have r1 : cl h 10 (some 100) (f_T_laws h (some 100) x1) = some (x, h1) := r1
    have r2 : cl h1 12 (some 285) (f_M_laws h1 (some 285) x1) = some (x, h2) := r2
    rw [a1, Option.bind_some, r1, Option.bind_some]
    dsimp only
    rw [Option.bind_some, r2, Option.bind_some]
    dsimp only
    rw [if_pos rfl]
    exact ⟨h2, rfl, r3⟩
  rw [if_neg (fun q => z1 ((nI_ec (x := 1) (k := 1) rfl (by omega) (by omega)).mp q))]
  by_cases z2 : o = 2
  · rw [if_pos (show nI o = (2 : Int32) by rw [z2]; rfl)]
    obtain ⟨x, h2, r1, r2, r3⟩ := (op_fault ok c6).run sa
    have r1 : cl h 10 (some 100) (f_T_fault h (some 100)) = some x := r1
    have r2 : cl h 12 (some 285) (f_M_fault h (some 285)) = some (x, h2) := r2
    rw [r1, Option.bind_some, r2, Option.bind_some]
    dsimp only
    rw [if_pos rfl]
    exact ⟨h2, rfl, r3⟩
  rw [if_neg (fun q => z2 ((nI_ec (x := 2) (k := 2) rfl (by omega) (by omega)).mp q))]
  by_cases z3 : o = 3
  · rw [if_pos (show nI o = (3 : Int32) by rw [z3]; rfl)]
    obtain ⟨x, h2, r1, r2, r3⟩ := (op_where ok c6).run sa
    have r1 : cl h 10 (some 100) (f_T_where h (some 100)) = some x := r1
    have r2 : cl h 12 (some 285) (f_M_where h (some 285)) = some (x, h2) := r2
    rw [r1, Option.bind_some, r2, Option.bind_some]
    dsimp only
    rw [if_pos rfl]
    exact ⟨h2, rfl, r3⟩
  rw [if_neg (fun q => z3 ((nI_ec (x := 3) (k := 3) rfl (by omega) (by omega)).mp q))]
  by_cases z4 : o = 4
  · rw [if_pos (show nI o = (4 : Int32) by rw [z4]; rfl)]
    obtain ⟨x, h1, h2, r1, r2, r3⟩ := (op_person ok c6 x1 x2).run sa
    have r1 : cl h 10 (some 100) (f_T_person h (some 100) x1 x2) = some (x, h1) := r1
    have r2 : cl h1 12 (some 285) (f_M_person h1 (some 285) x1 x2) = some (x, h2) := r2
    rw [a1, Option.bind_some, a2, Option.bind_some, r1, Option.bind_some]
    dsimp only
    rw [Option.bind_some, Option.bind_some, r2, Option.bind_some]
    dsimp only
    rw [if_pos rfl]
    exact ⟨h2, rfl, r3⟩
  rw [if_neg (fun q => z4 ((nI_ec (x := 4) (k := 4) rfl (by omega) (by omega)).mp q))]
  by_cases z5 : o = 5
  · rw [if_pos (show nI o = (5 : Int32) by rw [z5]; rfl)]
    obtain ⟨x, h1, h2, r1, r2, r3⟩ := (op_far ok c6 x1 x2).run sa
    have r1 : cl h 10 (some 100) (f_T_far h (some 100) x1 x2) = some (x, h1) := r1
    have r2 : cl h1 12 (some 285) (f_M_far h1 (some 285) x1 x2) = some (x, h2) := r2
    rw [a1, Option.bind_some, a2, Option.bind_some, r1, Option.bind_some]
    dsimp only
    rw [Option.bind_some, Option.bind_some, r2, Option.bind_some]
    dsimp only
    rw [if_pos rfl]
    exact ⟨h2, rfl, r3⟩
  rw [if_neg (fun q => z5 ((nI_ec (x := 5) (k := 5) rfl (by omega) (by omega)).mp q))]
  by_cases z6 : o = 6
  · rw [if_pos (show nI o = (6 : Int32) by rw [z6]; rfl)]
    obtain ⟨x, h1, h2, r1, r2, r3⟩ := (op_worth ok c6 x1 x2).run sa
    have r1 : cl h 10 (some 100) (f_T_worth h (some 100) x1 x2) = some (x, h1) := r1
    have r2 : cl h1 12 (some 285) (f_M_worth h1 (some 285) x1 x2) = some (x, h2) := r2
    rw [a1, Option.bind_some, a2, Option.bind_some, r1, Option.bind_some]
    dsimp only
    rw [Option.bind_some, Option.bind_some, r2, Option.bind_some]
    dsimp only
    rw [if_pos rfl]
    exact ⟨h2, rfl, r3⟩
  rw [if_neg (fun q => z6 ((nI_ec (x := 6) (k := 6) rfl (by omega) (by omega)).mp q))]
  by_cases z7 : o = 7
  · rw [if_pos (show nI o = (7 : Int32) by rw [z7]; rfl)]
    obtain ⟨x, h1, h2, r1, r2, r3⟩ := (op_tax ok c6 x1 x2).run sa
    have r1 : cl h 10 (some 100) (f_T_tax h (some 100) x1 x2) = some (x, h1) := r1
    have r2 : cl h1 12 (some 285) (f_M_tax h1 (some 285) x1 x2) = some (x, h2) := r2
    rw [a1, Option.bind_some, a2, Option.bind_some, r1, Option.bind_some]
    dsimp only
    rw [Option.bind_some, Option.bind_some, r2, Option.bind_some]
    dsimp only
    rw [if_pos rfl]
    exact ⟨h2, rfl, r3⟩
  rw [if_neg (fun q => z7 ((nI_ec (x := 7) (k := 7) rfl (by omega) (by omega)).mp q))]
  by_cases z8 : o = 8
  · rw [if_pos (show nI o = (8 : Int32) by rw [z8]; rfl)]
    obtain ⟨x, h1, h2, r1, r2, r3⟩ := (op_chooses ok c6 x1).run sa
    have r1 : cl h 10 (some 100) (f_T_chooses h (some 100) x1) = some (x, h1) := r1
    have r2 : cl h1 12 (some 285) (f_M_chooses h1 (some 285) x1) = some (x, h2) := r2
    rw [a1, Option.bind_some, r1, Option.bind_some]
    dsimp only
    rw [Option.bind_some, r2, Option.bind_some]
    dsimp only
    rw [if_pos rfl]
    exact ⟨h2, rfl, r3⟩
  rw [if_neg (fun q => z8 ((nI_ec (x := 8) (k := 8) rfl (by omega) (by omega)).mp q))]
  by_cases z9 : o = 9
  · rw [if_pos (show nI o = (9 : Int32) by rw [z9]; rfl)]
    obtain ⟨x, h1, h2, r1, r2, r3⟩ := (op_waverers ok c6).run sa
    have r1 : cl h 10 (some 100) (f_T_waverers h (some 100)) = some (x, h1) := r1
    have r2 : cl h1 12 (some 285) (f_M_waverers h1 (some 285)) = some (x, h2) := r2
    rw [r1, Option.bind_some]
    dsimp only
    rw [r2, Option.bind_some]
    dsimp only
    rw [if_pos rfl]
    exact ⟨h2, rfl, r3⟩
  rw [if_neg (fun q => z9 ((nI_ec (x := 9) (k := 9) rfl (by omega) (by omega)).mp q))]
  by_cases z10 : o = 10
  · rw [if_pos (show nI o = (10 : Int32) by rw [z10]; rfl)]
    obtain ⟨x, h1, h2, r1, r2, r3⟩ := (op_holders ok c6 x1).run sa
    have r1 : cl h 10 (some 100) (f_T_holders h (some 100) x1) = some (x, h1) := r1
    have r2 : cl h1 12 (some 285) (f_M_holders h1 (some 285) x1) = some (x, h2) := r2
    rw [a1, Option.bind_some, r1, Option.bind_some]
    dsimp only
    rw [Option.bind_some, r2, Option.bind_some]
    dsimp only
    rw [if_pos rfl]
    exact ⟨h2, rfl, r3⟩
  rw [if_neg (fun q => z10 ((nI_ec (x := 10) (k := 10) rfl (by omega) (by omega)).mp q))]
  by_cases z11 : o = 11
  · rw [if_pos (show nI o = (11 : Int32) by rw [z11]; rfl)]
    obtain ⟨x, h1, h2, r1, r2, r3⟩ := (op_fashion ok c6).run sa
    have r1 : cl h 10 (some 100) (f_T_fashion h (some 100)) = some (x, h1) := r1
    have r2 : cl h1 12 (some 285) (f_M_fashion h1 (some 285)) = some (x, h2) := r2
    rw [r1, Option.bind_some]
    dsimp only
    rw [r2, Option.bind_some]
    dsimp only
    rw [if_pos rfl]
    exact ⟨h2, rfl, r3⟩
  rw [if_neg (fun q => z11 ((nI_ec (x := 11) (k := 11) rfl (by omega) (by omega)).mp q))]
  by_cases z12 : o = 12
  · rw [if_pos (show nI o = (12 : Int32) by rw [z12]; rfl)]
    obtain ⟨x, h1, h2, r1, r2, r3⟩ := (op_came ok c6 x1).run sa
    have r1 : cl h 10 (some 100) (f_T_came h (some 100) x1) = some (x, h1) := r1
    have r2 : cl h1 12 (some 285) (f_M_came h1 (some 285) x1) = some (x, h2) := r2
    rw [a1, Option.bind_some, r1, Option.bind_some]
    dsimp only
    rw [Option.bind_some, r2, Option.bind_some]
    dsimp only
    rw [if_pos rfl]
    exact ⟨h2, rfl, r3⟩
  rw [if_neg (fun q => z12 ((nI_ec (x := 12) (k := 12) rfl (by omega) (by omega)).mp q))]
  by_cases z13 : o = 13
  · rw [if_pos (show nI o = (13 : Int32) by rw [z13]; rfl)]
    obtain ⟨x, h1, h2, r1, r2, r3⟩ := (op_paid ok c6).run sa
    have r1 : cl h 10 (some 100) (f_T_paid h (some 100)) = some (x, h1) := r1
    have r2 : cl h1 12 (some 285) (f_M_paid h1 (some 285)) = some (x, h2) := r2
    rw [r1, Option.bind_some]
    dsimp only
    rw [r2, Option.bind_some]
    dsimp only
    rw [if_pos rfl]
    exact ⟨h2, rfl, r3⟩
  rw [if_neg (fun q => z13 ((nI_ec (x := 13) (k := 13) rfl (by omega) (by omega)).mp q))]
  by_cases z14 : o = 14
  · rw [if_pos (show nI o = (14 : Int32) by rw [z14]; rfl)]
    obtain ⟨x, h1, h2, r1, r2, r3⟩ := (op_farthest ok c6).run sa
    have r1 : cl h 10 (some 100) (f_T_farthest h (some 100)) = some (x, h1) := r1
    have r2 : cl h1 12 (some 285) (f_M_farthest h1 (some 285)) = some (x, h2) := r2
    rw [r1, Option.bind_some]
    dsimp only
    rw [r2, Option.bind_some]
    dsimp only
    rw [if_pos rfl]
    exact ⟨h2, rfl, r3⟩
  rw [if_neg (fun q => z14 ((nI_ec (x := 14) (k := 14) rfl (by omega) (by omega)).mp q))]
  by_cases z15 : o = 15
  · rw [if_pos (show nI o = (15 : Int32) by rw [z15]; rfl)]
    obtain ⟨x, h1, h2, r1, r2, r3⟩ := (op_plan ok c6 x1 x2 (if x3 = 0 then 0 else 1)).run sa
    have r1 : cl h 10 (some 100) (f_T_plan h (some 100) x1 x2 (if x3 = 0 then 0 else 1)) = some (x, h1) := r1
    have r2 : cl h1 12 (some 285) (f_M_plan h1 (some 285) x1 x2 (if x3 = 0 then 0 else 1)) = some (x, h2) := r2
    rw [a1, Option.bind_some, a2, Option.bind_some, a3, Option.bind_some, bo_if, Option.bind_some, r1, Option.bind_some]
    dsimp only
    rw [Option.bind_some, Option.bind_some, Option.bind_some, bo_if, Option.bind_some, r2, Option.bind_some]
    dsimp only
    rw [if_pos ((lg_cmp_eq _ _).mpr rfl)]
    exact ⟨h2, rfl, r3⟩
  rw [if_neg (fun q => z15 ((nI_ec (x := 15) (k := 15) rfl (by omega) (by omega)).mp q))]
  by_cases z16 : o = 16
  · rw [if_pos (show nI o = (16 : Int32) by rw [z16]; rfl)]
    obtain ⟨x, h1, h2, r1, r2, r3⟩ := (op_planFirst ok c6 x1 x2).run sa
    have r1 : cl h 10 (some 100) (f_T_planFirst h (some 100) x1 x2) = some (x, h1) := r1
    have r2 : cl h1 12 (some 285) (f_M_planFirst h1 (some 285) x1 x2) = some (x, h2) := r2
    rw [a1, Option.bind_some, a2, Option.bind_some, r1, Option.bind_some]
    dsimp only
    rw [Option.bind_some, Option.bind_some, r2, Option.bind_some]
    dsimp only
    rw [if_pos rfl]
    exact ⟨h2, rfl, r3⟩
  rw [if_neg (fun q => z16 ((nI_ec (x := 16) (k := 16) rfl (by omega) (by omega)).mp q))]
  by_cases z17 : o = 17
  · rw [if_pos (show nI o = (17 : Int32) by rw [z17]; rfl)]
    obtain ⟨x, h1, h2, r1, r2, r3⟩ := (op_stays ok c6 x1 x2 (if x3 = 0 then 0 else 1)).run sa
    have r1 : cl h 10 (some 100) (f_T_stays h (some 100) x1 x2 (if x3 = 0 then 0 else 1)) = some (x, h1) := r1
    have r2 : cl h1 12 (some 285) (f_M_stays h1 (some 285) x1 x2 (if x3 = 0 then 0 else 1)) = some (x, h2) := r2
    rw [a1, Option.bind_some, a2, Option.bind_some, a3, Option.bind_some, bo_if, Option.bind_some, r1, Option.bind_some]
    dsimp only
    rw [Option.bind_some, Option.bind_some, Option.bind_some, bo_if, Option.bind_some, r2, Option.bind_some]
    dsimp only
    rw [if_pos ((lg_cmp_eq _ _).mpr rfl)]
    exact ⟨h2, rfl, r3⟩
  rw [if_neg (fun q => z17 ((nI_ec (x := 17) (k := 17) rfl (by omega) (by omega)).mp q))]
  by_cases z18 : o = 18
  · rw [if_pos (show nI o = (18 : Int32) by rw [z18]; rfl)]
    obtain ⟨x, h1, h2, r1, r2, r3⟩ := (op_planBy ok c6 x1 x2 x3 (if x4 = 0 then 0 else 1)).run sa
    have r1 : cl h 10 (some 100) (f_T_planBy h (some 100) x1 x2 x3 (if x4 = 0 then 0 else 1)) = some (x, h1) := r1
    have r2 : cl h1 12 (some 285) (f_M_planBy h1 (some 285) x1 x2 x3 (if x4 = 0 then 0 else 1)) = some (x, h2) := r2
    rw [a1, Option.bind_some, a2, Option.bind_some, a3, Option.bind_some, a4, Option.bind_some, bo_if, Option.bind_some, r1, Option.bind_some]
    dsimp only
    rw [Option.bind_some, Option.bind_some, Option.bind_some, Option.bind_some, bo_if, Option.bind_some, r2, Option.bind_some]
    dsimp only
    rw [if_pos ((lg_cmp_eq _ _).mpr rfl)]
    exact ⟨h2, rfl, r3⟩
  rw [if_neg (fun q => z18 ((nI_ec (x := 18) (k := 18) rfl (by omega) (by omega)).mp q))]
  by_cases z19 : o = 19
  · rw [if_pos (show nI o = (19 : Int32) by rw [z19]; rfl)]
    obtain ⟨x, h1, h2, r1, r2, r3⟩ := (op_raised ok c6).run sa
    have r1 : cl h 10 (some 100) (f_T_raised h (some 100)) = some (x, h1) := r1
    have r2 : cl h1 12 (some 285) (f_M_raised h1 (some 285)) = some (x, h2) := r2
    rw [r1, Option.bind_some]
    dsimp only
    rw [r2, Option.bind_some]
    dsimp only
    rw [if_pos rfl]
    exact ⟨h2, rfl, r3⟩
  rw [if_neg (fun q => z19 ((nI_ec (x := 19) (k := 19) rfl (by omega) (by omega)).mp q))]
  by_cases z20 : o = 20
  · rw [if_pos (show nI o = (20 : Int32) by rw [z20]; rfl)]
    obtain ⟨x, h1, h2, r1, r2, r3⟩ := (op_harm ok c6).run sa
    have r1 : cl h 10 (some 100) (f_T_harm h (some 100)) = some (x, h1) := r1
    have r2 : cl h1 12 (some 285) (f_M_harm h1 (some 285)) = some (x, h2) := r2
    rw [r1, Option.bind_some]
    dsimp only
    rw [r2, Option.bind_some]
    dsimp only
    rw [if_pos rfl]
    exact ⟨h2, rfl, r3⟩
  rw [if_neg (fun q => z20 ((nI_ec (x := 20) (k := 20) rfl (by omega) (by omega)).mp q))]
  by_cases z21 : o = 21
  · rw [if_pos (show nI o = (21 : Int32) by rw [z21]; rfl)]
    obtain ⟨x, h1, h2, r1, r2, r3⟩ := (op_raisedBy ok c6 x1).run sa
    have r1 : cl h 10 (some 100) (f_T_raisedBy h (some 100) x1) = some (x, h1) := r1
    have r2 : cl h1 12 (some 285) (f_M_raisedBy h1 (some 285) x1) = some (x, h2) := r2
    rw [a1, Option.bind_some, r1, Option.bind_some]
    dsimp only
    rw [Option.bind_some, r2, Option.bind_some]
    dsimp only
    rw [if_pos rfl]
    exact ⟨h2, rfl, r3⟩
  rw [if_neg (fun q => z21 ((nI_ec (x := 21) (k := 21) rfl (by omega) (by omega)).mp q))]
  by_cases z22 : o = 22
  · rw [if_pos (show nI o = (22 : Int32) by rw [z22]; rfl)]
    obtain ⟨x, h1, h2, r1, r2, r3⟩ := (op_harmBy ok c6 x1).run sa
    have r1 : cl h 10 (some 100) (f_T_harmBy h (some 100) x1) = some (x, h1) := r1
    have r2 : cl h1 12 (some 285) (f_M_harmBy h1 (some 285) x1) = some (x, h2) := r2
    rw [a1, Option.bind_some, r1, Option.bind_some]
    dsimp only
    rw [Option.bind_some, r2, Option.bind_some]
    dsimp only
    rw [if_pos rfl]
    exact ⟨h2, rfl, r3⟩
  rw [if_neg (fun q => z22 ((nI_ec (x := 22) (k := 22) rfl (by omega) (by omega)).mp q))]
  by_cases z23 : o = 23
  · rw [if_pos (show nI o = (23 : Int32) by rw [z23]; rfl)]
    obtain ⟨x, h1, h2, r1, r2, r3⟩ := (op_bestTable ok c6).run sa
    have r1 : cl h 10 (some 100) (f_T_bestTable h (some 100)) = some (x, h1) := r1
    have r2 : cl h1 12 (some 285) (f_M_bestTable h1 (some 285)) = some (x, h2) := r2
    rw [r1, Option.bind_some]
    dsimp only
    rw [r2, Option.bind_some]
    dsimp only
    rw [if_pos rfl]
    exact ⟨h2, rfl, r3⟩
  rw [if_neg (fun q => z23 ((nI_ec (x := 23) (k := 23) rfl (by omega) (by omega)).mp q))]
  by_cases z24 : o = 24
  · rw [if_pos (show nI o = (24 : Int32) by rw [z24]; rfl)]
    obtain ⟨x, h1, h2, r1, r2, r3⟩ := (op_raisedThird ok c6 x1).run sa
    have r1 : cl h 10 (some 100) (f_T_raisedThird h (some 100) x1) = some (x, h1) := r1
    have r2 : cl h1 12 (some 285) (f_M_raisedThird h1 (some 285) x1) = some (x, h2) := r2
    rw [a1, Option.bind_some, r1, Option.bind_some]
    dsimp only
    rw [Option.bind_some, r2, Option.bind_some]
    dsimp only
    rw [if_pos rfl]
    exact ⟨h2, rfl, r3⟩
  rw [if_neg (fun q => z24 ((nI_ec (x := 24) (k := 24) rfl (by omega) (by omega)).mp q))]
  by_cases z25 : o = 25
  · rw [if_pos (show nI o = (25 : Int32) by rw [z25]; rfl)]
    obtain ⟨x, h1, h2, r1, r2, r3⟩ := (op_harmThird ok c6 x1).run sa
    have r1 : cl h 10 (some 100) (f_T_harmThird h (some 100) x1) = some (x, h1) := r1
    have r2 : cl h1 12 (some 285) (f_M_harmThird h1 (some 285) x1) = some (x, h2) := r2
    rw [a1, Option.bind_some, r1, Option.bind_some]
    dsimp only
    rw [Option.bind_some, r2, Option.bind_some]
    dsimp only
    rw [if_pos rfl]
    exact ⟨h2, rfl, r3⟩
  rw [if_neg (fun q => z25 ((nI_ec (x := 25) (k := 25) rfl (by omega) (by omega)).mp q))]
  by_cases z26 : o = 26
  · rw [if_pos (show nI o = (26 : Int32) by rw [z26]; rfl)]
    obtain ⟨x, h1, h2, r1, r2, r3⟩ := (op_stillTable ok c6).run sa
    have r1 : cl h 10 (some 100) (f_T_stillTable h (some 100)) = some (x, h1) := r1
    have r2 : cl h1 12 (some 285) (f_M_stillTable h1 (some 285)) = some (x, h2) := r2
    rw [r1, Option.bind_some]
    dsimp only
    rw [r2, Option.bind_some]
    dsimp only
    rw [if_pos rfl]
    exact ⟨h2, rfl, r3⟩
  rw [if_neg (fun q => z26 ((nI_ec (x := 26) (k := 26) rfl (by omega) (by omega)).mp q))]
  by_cases z27 : o = 27
  · rw [if_pos (show nI o = (27 : Int32) by rw [z27]; rfl)]
    obtain ⟨x, h1, h2, r1, r2, r3⟩ := (op_rows ok c6 x1).run sa
    have r1 : cl h 10 (some 100) (f_T_rows h (some 100) x1) = some (x, h1) := r1
    have r2 : cl h1 12 (some 285) (f_M_rows h1 (some 285) x1) = some (x, h2) := r2
    rw [a1, Option.bind_some, r1, Option.bind_some]
    dsimp only
    rw [Option.bind_some, r2, Option.bind_some]
    dsimp only
    rw [if_pos rfl]
    exact ⟨h2, rfl, r3⟩
  rw [if_neg (fun q => z27 ((nI_ec (x := 27) (k := 27) rfl (by omega) (by omega)).mp q))]
  by_cases z28 : o = 28
  · rw [if_pos (show nI o = (28 : Int32) by rw [z28]; rfl)]
    obtain ⟨x, h1, h2, r1, r2, r3⟩ := (op_could ok c6 x1).run sa
    have r1 : cl h 10 (some 100) (f_T_could h (some 100) x1) = some (x, h1) := r1
    have r2 : cl h1 12 (some 285) (f_M_could h1 (some 285) x1) = some (x, h2) := r2
    rw [a1, Option.bind_some, r1, Option.bind_some]
    dsimp only
    rw [Option.bind_some, r2, Option.bind_some]
    dsimp only
    rw [if_pos rfl]
    exact ⟨h2, rfl, r3⟩
  rw [if_neg (fun q => z28 ((nI_ec (x := 28) (k := 28) rfl (by omega) (by omega)).mp q))]
  by_cases z29 : o = 29
  · rw [if_pos (show nI o = (29 : Int32) by rw [z29]; rfl)]
    obtain ⟨x, h1, h2, r1, r2, r3⟩ := (op_surely ok c6 x1).run sa
    have r1 : cl h 10 (some 100) (f_T_surely h (some 100) x1) = some (x, h1) := r1
    have r2 : cl h1 12 (some 285) (f_M_surely h1 (some 285) x1) = some (x, h2) := r2
    rw [a1, Option.bind_some, r1, Option.bind_some]
    dsimp only
    rw [Option.bind_some, r2, Option.bind_some]
    dsimp only
    rw [if_pos rfl]
    exact ⟨h2, rfl, r3⟩
  rw [if_neg (fun q => z29 ((nI_ec (x := 29) (k := 29) rfl (by omega) (by omega)).mp q))]
  by_cases z30 : o = 30
  · rw [if_pos (show nI o = (30 : Int32) by rw [z30]; rfl)]
    obtain ⟨x, h1, h2, r1, r2, r3⟩ := (op_firstOf ok c6 x1).run sa
    have r1 : cl h 10 (some 100) (f_T_firstOf h (some 100) x1) = some (x, h1) := r1
    have r2 : cl h1 12 (some 285) (f_M_firstOf h1 (some 285) x1) = some (x, h2) := r2
    rw [a1, Option.bind_some, r1, Option.bind_some]
    dsimp only
    rw [Option.bind_some, r2, Option.bind_some]
    dsimp only
    rw [if_pos rfl]
    exact ⟨h2, rfl, r3⟩
  rw [if_neg (fun q => z30 ((nI_ec (x := 30) (k := 30) rfl (by omega) (by omega)).mp q))]
  by_cases z31 : o = 31
  · rw [if_pos (show nI o = (31 : Int32) by rw [z31]; rfl)]
    obtain ⟨x, h1, h2, r1, r2, r3⟩ := (op_ask ok c6).run sa
    have r1 : cl h 10 (some 100) (f_T_ask h (some 100)) = some (x, h1) := r1
    have r2 : cl h1 12 (some 285) (f_M_ask h1 (some 285)) = some (x, h2) := r2
    rw [r1, Option.bind_some]
    dsimp only
    rw [r2, Option.bind_some]
    dsimp only
    rw [if_pos rfl]
    exact ⟨h2, rfl, r3⟩
  rw [if_neg (fun q => z31 ((nI_ec (x := 31) (k := 31) rfl (by omega) (by omega)).mp q))]
  by_cases z32 : o = 32
  · rw [if_pos (show nI o = (32 : Int32) by rw [z32]; rfl)]
    obtain ⟨x, h1, h2, r1, r2, r3⟩ := (op_askLeaves ok c6).run sa
    have r1 : cl h 10 (some 100) (f_T_askLeaves h (some 100)) = some (x, h1) := r1
    have r2 : cl h1 12 (some 285) (f_M_askLeaves h1 (some 285)) = some (x, h2) := r2
    rw [r1, Option.bind_some]
    dsimp only
    rw [r2, Option.bind_some]
    dsimp only
    rw [if_pos rfl]
    exact ⟨h2, rfl, r3⟩
  rw [if_neg (fun q => z32 ((nI_ec (x := 32) (k := 32) rfl (by omega) (by omega)).mp q))]
  by_cases z33 : o = 33
  · rw [if_pos (show nI o = (33 : Int32) by rw [z33]; rfl)]
    obtain ⟨x, h1, h2, r1, r2, r3⟩ := (op_liar ok c6).run sa
    have r1 : cl h 10 (some 100) (f_T_liar h (some 100)) = some (x, h1) := r1
    have r2 : cl h1 12 (some 285) (f_M_liar h1 (some 285)) = some (x, h2) := r2
    rw [r1, Option.bind_some]
    dsimp only
    rw [r2, Option.bind_some]
    dsimp only
    rw [if_pos rfl]
    exact ⟨h2, rfl, r3⟩
  rw [if_neg (fun q => z33 ((nI_ec (x := 33) (k := 33) rfl (by omega) (by omega)).mp q))]
  by_cases z34 : o = 34
  · rw [if_pos (show nI o = (34 : Int32) by rw [z34]; rfl)]
    obtain ⟨x, h1, h2, r1, r2, r3⟩ := (op_caught ok c6 x1).run sa
    have r1 : cl h 10 (some 100) (f_T_caught h (some 100) x1) = some (x, h1) := r1
    have r2 : cl h1 12 (some 285) (f_M_caught h1 (some 285) x1) = some (x, h2) := r2
    rw [a1, Option.bind_some, r1, Option.bind_some]
    dsimp only
    rw [Option.bind_some, r2, Option.bind_some]
    dsimp only
    rw [if_pos rfl]
    exact ⟨h2, rfl, r3⟩
  rw [if_neg (fun q => z34 ((nI_ec (x := 34) (k := 34) rfl (by omega) (by omega)).mp q))]
  by_cases z35 : o = 35
  · rw [if_pos (show nI o = (35 : Int32) by rw [z35]; rfl)]
    obtain ⟨x, h1, h2, r1, r2, r3⟩ := (op_places ok c6 x1).run sa
    have r1 : cl h 10 (some 100) (f_T_places h (some 100) x1) = some (x, h1) := r1
    have r2 : cl h1 12 (some 285) (f_M_places h1 (some 285) x1) = some (x, h2) := r2
    rw [a1, Option.bind_some, r1, Option.bind_some]
    dsimp only
    rw [Option.bind_some, r2, Option.bind_some]
    dsimp only
    rw [if_pos rfl]
    exact ⟨h2, rfl, r3⟩
  rw [if_neg (fun q => z35 ((nI_ec (x := 35) (k := 35) rfl (by omega) (by omega)).mp q))]
  by_cases z36 : o = 36
  · rw [if_pos (show nI o = (36 : Int32) by rw [z36]; rfl)]
    obtain ⟨x, h1, h2, r1, r2, r3⟩ := (op_enough ok c6).run sa
    have r1 : cl h 10 (some 100) (f_T_enough h (some 100)) = some (x, h1) := r1
    have r2 : cl h1 12 (some 285) (f_M_enough h1 (some 285)) = some (x, h2) := r2
    rw [r1, Option.bind_some]
    dsimp only
    rw [r2, Option.bind_some]
    dsimp only
    rw [if_pos rfl]
    exact ⟨h2, rfl, r3⟩
  rw [if_neg (fun q => z36 ((nI_ec (x := 36) (k := 36) rfl (by omega) (by omega)).mp q))]
  by_cases z37 : o = 37
  · rw [if_pos (show nI o = (37 : Int32) by rw [z37]; rfl)]
    obtain ⟨x, h1, h2, r1, r2, r3⟩ := (op_catches ok c6 x1).run sa
    have r1 : cl h 10 (some 100) (f_T_catches h (some 100) x1) = some (x, h1) := r1
    have r2 : cl h1 12 (some 285) (f_M_catches h1 (some 285) x1) = some (x, h2) := r2
    rw [a1, Option.bind_some, r1, Option.bind_some]
    dsimp only
    rw [Option.bind_some, r2, Option.bind_some]
    dsimp only
    rw [if_pos rfl]
    exact ⟨h2, rfl, r3⟩
  rw [if_neg (fun q => z37 ((nI_ec (x := 37) (k := 37) rfl (by omega) (by omega)).mp q))]
  by_cases z38 : o = 38
  · rw [if_pos (show nI o = (38 : Int32) by rw [z38]; rfl)]
    obtain ⟨x, h1, h2, r1, r2, r3⟩ := (op_two ok c6 x1 (if x2 = 0 then 0 else 1) x3 (if x4 = 0 then 0 else 1) (if x5 = 0 then 0 else 1)).run sa
    have r1 : cl h 10 (some 100) (f_T_two h (some 100) x1 (if x2 = 0 then 0 else 1) x3 (if x4 = 0 then 0 else 1) (if x5 = 0 then 0 else 1)) = some (x, h1) := r1
    have r2 : cl h1 12 (some 285) (f_M_two h1 (some 285) x1 (if x2 = 0 then 0 else 1) x3 (if x4 = 0 then 0 else 1) (if x5 = 0 then 0 else 1)) = some (x, h2) := r2
    rw [a1, Option.bind_some, a2, Option.bind_some, bo_if, Option.bind_some, a3, Option.bind_some, a4, Option.bind_some, bo_if, Option.bind_some, a5, Option.bind_some, bo_if, Option.bind_some, r1, Option.bind_some]
    dsimp only
    rw [Option.bind_some, Option.bind_some, bo_if, Option.bind_some, Option.bind_some, Option.bind_some, bo_if, Option.bind_some, Option.bind_some, bo_if, Option.bind_some, r2, Option.bind_some]
    dsimp only
    rw [if_pos rfl]
    exact ⟨h2, rfl, r3⟩
  rw [if_neg (fun q => z38 ((nI_ec (x := 38) (k := 38) rfl (by omega) (by omega)).mp q))]
  by_cases z39 : o = 39
  · rw [if_pos (show nI o = (39 : Int32) by rw [z39]; rfl)]
    obtain ⟨x, h1, h2, r1, r2, r3⟩ := (op_rests ok c6 x1 x2).run sa
    have r1 : cl h 10 (some 100) (f_T_rests h (some 100) x1 x2) = some (x, h1) := r1
    have r2 : cl h1 12 (some 285) (f_M_rests h1 (some 285) x1 x2) = some (x, h2) := r2
    rw [a1, Option.bind_some, a2, Option.bind_some, r1, Option.bind_some]
    dsimp only
    rw [Option.bind_some, Option.bind_some, r2, Option.bind_some]
    dsimp only
    rw [if_pos rfl]
    exact ⟨h2, rfl, r3⟩
  rw [if_neg (fun q => z39 ((nI_ec (x := 39) (k := 39) rfl (by omega) (by omega)).mp q))]
  by_cases z40 : o = 40
  · rw [if_pos (show nI o = (40 : Int32) by rw [z40]; rfl)]
    obtain ⟨x, h1, h2, r1, r2, r3⟩ := (op_rest ok c6 x1 x2).run sa
    have r1 : cl h 10 (some 100) (f_T_rest h (some 100) x1 x2) = some (x, h1) := r1
    have r2 : cl h1 12 (some 285) (f_M_rest h1 (some 285) x1 x2) = some (x, h2) := r2
    rw [a1, Option.bind_some, a2, Option.bind_some, r1, Option.bind_some]
    dsimp only
    rw [Option.bind_some, Option.bind_some, r2, Option.bind_some]
    dsimp only
    rw [if_pos rfl]
    exact ⟨h2, rfl, r3⟩
  rw [if_neg (fun q => z40 ((nI_ec (x := 40) (k := 40) rfl (by omega) (by omega)).mp q))]
  by_cases z41 : o = 41
  · rw [if_pos (show nI o = (41 : Int32) by rw [z41]; rfl)]
    obtain ⟨x, h1, h2, r1, r2, r3⟩ := (op_year ok c6 x1 x2).run sa
    have r1 : cl h 10 (some 100) (f_T_year h (some 100) x1 x2) = some (x, h1) := r1
    have r2 : cl h1 12 (some 285) (f_M_year h1 (some 285) x1 x2) = some (x, h2) := r2
    rw [a1, Option.bind_some, a2, Option.bind_some, r1, Option.bind_some]
    dsimp only
    rw [Option.bind_some, Option.bind_some, r2, Option.bind_some]
    dsimp only
    rw [if_pos rfl]
    exact ⟨h2, rfl, r3⟩
  rw [if_neg (fun q => z41 ((nI_ec (x := 41) (k := 41) rfl (by omega) (by omega)).mp q))]
  by_cases z42 : o = 42
  · rw [if_pos (show nI o = (42 : Int32) by rw [z42]; rfl)]
    obtain ⟨x, h1, h2, r1, r2, r3⟩ := (op_yearHeld ok c6 x1 x2 x3).run sa
    have r1 : cl h 10 (some 100) (f_T_yearHeld h (some 100) x1 x2 x3) = some (x, h1) := r1
    have r2 : cl h1 12 (some 285) (f_M_yearHeld h1 (some 285) x1 x2 x3) = some (x, h2) := r2
    rw [a1, Option.bind_some, a2, Option.bind_some, a3, Option.bind_some, r1, Option.bind_some]
    dsimp only
    rw [Option.bind_some, Option.bind_some, Option.bind_some, r2, Option.bind_some]
    dsimp only
    rw [if_pos rfl]
    exact ⟨h2, rfl, r3⟩
  rw [if_neg (fun q => z42 ((nI_ec (x := 42) (k := 42) rfl (by omega) (by omega)).mp q))]
  by_cases z43 : o = 43
  · rw [if_pos (show nI o = (43 : Int32) by rw [z43]; rfl)]
    obtain ⟨x, h1, h2, r1, r2, r3⟩ := (op_yearChanges ok c6 x1 x2).run sa
    have r1 : cl h 10 (some 100) (f_T_yearChanges h (some 100) x1 x2) = some (x, h1) := r1
    have r2 : cl h1 12 (some 285) (f_M_yearChanges h1 (some 285) x1 x2) = some (x, h2) := r2
    rw [a1, Option.bind_some, a2, Option.bind_some, r1, Option.bind_some]
    dsimp only
    rw [Option.bind_some, Option.bind_some, r2, Option.bind_some]
    dsimp only
    rw [if_pos rfl]
    exact ⟨h2, rfl, r3⟩
  rw [if_neg (fun q => z43 ((nI_ec (x := 43) (k := 43) rfl (by omega) (by omega)).mp q))]
  by_cases z44 : o = 44
  · rw [if_pos (show nI o = (44 : Int32) by rw [z44]; rfl)]
    obtain ⟨x, h1, h2, r1, r2, r3⟩ := (op_change ok c6 x1 x2).run sa
    have r1 : cl h 10 (some 100) (f_T_change h (some 100) x1 x2) = some (x, h1) := r1
    have r2 : cl h1 12 (some 285) (f_M_change h1 (some 285) x1 x2) = some (x, h2) := r2
    rw [a1, Option.bind_some, a2, Option.bind_some, r1, Option.bind_some]
    dsimp only
    rw [Option.bind_some, Option.bind_some, r2, Option.bind_some]
    dsimp only
    rw [if_pos rfl]
    exact ⟨h2, rfl, r3⟩
  rw [if_neg (fun q => z44 ((nI_ec (x := 44) (k := 44) rfl (by omega) (by omega)).mp q))]
  by_cases z45 : o = 45
  · rw [if_pos (show nI o = (45 : Int32) by rw [z45]; rfl)]
    obtain ⟨x, h1, h2, r1, r2, r3⟩ := (op_hours ok c6 x1).run sa
    have r1 : cl h 10 (some 100) (f_T_hours h (some 100) x1) = some (x, h1) := r1
    have r2 : cl h1 12 (some 285) (f_M_hours h1 (some 285) x1) = some (x, h2) := r2
    rw [a1, Option.bind_some, r1, Option.bind_some]
    dsimp only
    rw [Option.bind_some, r2, Option.bind_some]
    dsimp only
    rw [if_pos rfl]
    exact ⟨h2, rfl, r3⟩
  rw [if_neg (fun q => z45 ((nI_ec (x := 45) (k := 45) rfl (by omega) (by omega)).mp q))]
  by_cases z46 : o = 46
  · rw [if_pos (show nI o = (46 : Int32) by rw [z46]; rfl)]
    obtain ⟨x, h1, h2, r1, r2, r3⟩ := (op_seed ok c6 x1).run sa
    have r1 : cl h 10 (some 100) (f_T_seed h (some 100) x1) = some (x, h1) := r1
    have r2 : cl h1 12 (some 285) (f_M_seed h1 (some 285) x1) = some (x, h2) := r2
    rw [a1, Option.bind_some, r1, Option.bind_some]
    dsimp only
    rw [Option.bind_some, r2, Option.bind_some]
    dsimp only
    rw [if_pos rfl]
    exact ⟨h2, rfl, r3⟩
  rw [if_neg (fun q => z46 ((nI_ec (x := 46) (k := 46) rfl (by omega) (by omega)).mp q))]
  by_cases z47 : o = 47
  · rw [if_pos (show nI o = (47 : Int32) by rw [z47]; rfl)]
    obtain ⟨x, h1, h2, r1, r2, r3⟩ := (op_undo ok c6).run sa
    have r1 : cl h 10 (some 100) (f_T_undo h (some 100)) = some (x, h1) := r1
    have r2 : cl h1 12 (some 285) (f_M_undo h1 (some 285)) = some (x, h2) := r2
    rw [r1, Option.bind_some]
    dsimp only
    rw [r2, Option.bind_some]
    dsimp only
    rw [if_pos rfl]
    exact ⟨h2, rfl, r3⟩
  rw [if_neg (fun q => z47 ((nI_ec (x := 47) (k := 47) rfl (by omega) (by omega)).mp q))]
  by_cases z48 : o = 48
  · rw [if_pos (show nI o = (48 : Int32) by rw [z48]; rfl)]
    obtain ⟨x, h1, h2, r1, r2, r3⟩ := (op_mark ok c6).run sa
    have r1 : cl h 10 (some 100) (f_T_mark h (some 100)) = some (x, h1) := r1
    have r2 : cl h1 12 (some 285) (f_M_mark h1 (some 285)) = some (x, h2) := r2
    rw [r1, Option.bind_some]
    dsimp only
    rw [r2, Option.bind_some]
    dsimp only
    rw [if_pos rfl]
    exact ⟨h2, rfl, r3⟩
  rw [if_neg (fun q => z48 ((nI_ec (x := 48) (k := 48) rfl (by omega) (by omega)).mp q))]
  by_cases z49 : o = 49
  · rw [if_pos (show nI o = (49 : Int32) by rw [z49]; rfl)]
    obtain ⟨x, h1, h2, r1, r2, r3⟩ := (op_back ok c6 x1).run sa
    have r1 : cl h 10 (some 100) (f_T_back h (some 100) x1) = some (x, h1) := r1
    have r2 : cl h1 12 (some 285) (f_M_back h1 (some 285) x1) = some (x, h2) := r2
    rw [a1, Option.bind_some, r1, Option.bind_some]
    dsimp only
    rw [Option.bind_some, r2, Option.bind_some]
    dsimp only
    rw [if_pos rfl]
    exact ⟨h2, rfl, r3⟩
  rw [if_neg (fun q => z49 ((nI_ec (x := 49) (k := 49) rfl (by omega) (by omega)).mp q))]
  by_cases z50 : o = 50
  · rw [if_pos (show nI o = (50 : Int32) by rw [z50]; rfl)]
    obtain ⟨q, h1, y, h2, r1, r2, r3, r4, r5⟩ := run_led sa c6 x1
    rw [a1, Option.bind_some, r1, Option.bind_some]
    dsimp only
    rw [Option.bind_some, r2, Option.bind_some]
    dsimp only
    rw [r3, Option.bind_some, if_pos rfl]
    by_cases y0 : q = 0
    · rw [if_neg (fun w => w y0), r4 y0, Option.bind_some, if_pos ((lg_cmp_eq _ _).mpr rfl)]
      exact ⟨h2, rfl, r5⟩
    · rw [if_pos y0]
      exact ⟨h2, rfl, r5⟩
  rw [if_neg (fun q => z50 ((nI_ec (x := 50) (k := 50) rfl (by omega) (by omega)).mp q))]
  by_cases z51 : o = 51
  · rw [if_pos (show nI o = (51 : Int32) by rw [z51]; rfl)]
    obtain ⟨x, h2, r1, r2, r3⟩ := (op_size ok c6 x1).run sa
    have r1 : cl h 10 (some 100) (f_T_size h (some 100) x1) = some x := r1
    have r2 : cl h 12 (some 285) (f_M_size h (some 285) x1) = some (x, h2) := r2
    rw [a1, Option.bind_some, r1, Option.bind_some, Option.bind_some, r2, Option.bind_some]
    dsimp only
    rw [if_pos rfl]
    exact ⟨h2, rfl, r3⟩
  rw [if_neg (fun q => z51 ((nI_ec (x := 51) (k := 51) rfl (by omega) (by omega)).mp q))]
  by_cases z52 : o = 52
  · rw [if_pos (show nI o = (52 : Int32) by rw [z52]; rfl)]
    obtain ⟨x, h2, r1, r2, r3⟩ := (op_trouble ok c6).run sa
    have r1 : cl h 10 (some 100) (f_T_trouble h (some 100)) = some x := r1
    have r2 : cl h 12 (some 285) (f_M_trouble h (some 285)) = some (x, h2) := r2
    rw [r1, Option.bind_some, r2, Option.bind_some]
    dsimp only
    rw [if_pos rfl]
    exact ⟨h2, rfl, r3⟩
  rw [if_neg (fun q => z52 ((nI_ec (x := 52) (k := 52) rfl (by omega) (by omega)).mp q))]
  omega
end ZC
