/-! the class reads a whole text -/
def oCt (tx : Nat → Int32) (n f : Nat) (p : RsD × NmD) : RsD × NmD := match p with
  | (.inl e, N) => (.inl e, N)
  | (.inr B, N) => if B.1.1 = 3 then oAll tx n f N (nxT tx n B.1.2.2, B.2) else if B.1.1 = 0 then (.inr B, N) else (.inl (1, B.1.2.1), N)
theorem oAll_s {tx : Nat → Int32} {n f : Nat} {N : NmD} {A : AsD} : oAll tx n (f + 1) N A = oCt tx n f (oLine tx n N A) := rfl
def oEnd (n : Nat) (r : RsD) : RsD := match r with
  | .inl e => .inl e
  | .inr B => if nC B.2.2 = 0 then .inl (6, n) else .inr B
/-- a whole text -/
def oRead (tx : Nat → Int32) (n : Nat) (L : LawD) : RsD := oEnd n (oAll tx n (n + 1) N0 (nxT tx n 0, false, L)).1
section Y7
variable {h : PH} {sp n : Nat} {tx : Nat → Int32} {N : NmD} {r : RsD}
theorem RdS.rd {v : Nat → Int32} {lw : Nat} (e : RdS h v lw tx) (b : (∃ f, Fu h 161 16 f) ∧ (∃ f, Fu h 162 16 f) ∧ (∃ f, Fu h 163 16 f) ∧ ∃ f, Fu h 164 16 f) : RdC h := by
  refine ⟨_, e.1, ⟨rfl, fun k h0 h1 h2 => ⟨v k, ?_⟩⟩, rfl, rfl, rfl, rfl, b⟩
  unfold rdF
  rw [if_neg (by omega), if_neg (by omega), if_pos h1]
theorem CX.rd (e : CX h sp tx n N r) : RdC h := by
  cases r with
  | inl f =>
    obtain ⟨-, -, v, L, a, -, b, -⟩ := (e : CB h sp tx n f.1 f.2)
    exact a.rd b
  | inr A =>
    obtain ⟨-, -, v, a, -, ⟨f1, f2, f3, f4, b1, b2, b3, b4, -⟩, -⟩ := (e : CG h sp tx n N A)
    exact a.rd ⟨⟨_, b1⟩, ⟨_, b2⟩, ⟨_, b3⟩, ⟨_, b4⟩⟩
/-- the reader is set -/
theorem rd_to (e : RdC h) (t : Fo h 101 52 900 (fun k => .inl (tx k))) (sp : Nat) : ∃ h1 v, sF h 5 (some 160) 2 (.inr (.inr (some sp))) = some h1 ∧ RdS h1 v sp tx ∧ Fr h h1 160 161 := by
  obtain ⟨F, e0, ⟨a0, a1⟩, b0, b1, b2, b3, -⟩ := e
  obtain ⟨h1, x1, x2, x3⟩ := e0.set (k := 2) (by omega) (.inr (.inr (some sp)))
  have ex : ∃ v : Nat → Int32, ∀ k, 0 < k → k < 10 → k ≠ 2 → F k = .inl (v k) := by
    refine ⟨fun k => (pj_i (F k)).getD 0, fun k p q w => ?_⟩
    obtain ⟨x, hx⟩ := a1 k p q w
    show F k = .inl ((pj_i (F k)).getD 0)
    rw [hx]
    rfl
  obtain ⟨v, hv⟩ := ex
  refine ⟨h1, v, x1, ⟨x2.gt (fun k hk => ?_), t.fr x3 (by omega)⟩, x3⟩
  unfold upF rdF
  by_cases z2 : k = 2
  · rw [if_pos z2, if_neg (by omega), if_pos z2]
  · rw [if_neg z2]
    by_cases z0 : k = 0
    · rw [if_pos z0, z0, a0]
    · rw [if_neg z0, if_neg z2]
      by_cases z : k < 10
      · rw [if_pos z]; exact hv k (by omega) z z2
      · rw [if_neg z]
        have : k = 10 ∨ k = 11 ∨ k = 12 ∨ k = 13 := by omega
        rcases this with rfl | rfl | rfl | rfl
        · exact b0
        · exact b1
        · exact b2
        · exact b3
theorem rd_read (e : RdC h) (t : Fo h 101 52 900 (fun k => .inl (tx k))) (hn : n ≤ 900) (hs : sp = 102 ∨ sp = 131) {L : LawD} (l : LawC h sp L) : ∃ h1 x, cl h 5 (some 160) (f_Reader_read h (some 160) (some sp) (nI n)) = some (x, h1) ∧ Fq h h1 sp ∧ RdC h1 ∧ (∀ f, oRead tx n (wpL L) = .inl f → 0 < f.1 ∧ f.1 < 100 ∧ x = nI f.1 ∧ gI h1 5 (some 160) 8 = some (nI f.2) ∧ ∃ L1, LawC h1 sp L1) ∧ (∀ B, oRead tx n (wpL L) = .inr B → x = 0 ∧ LawC h1 sp B.2.2 ∧ ∃ N1, LawI B.2.2 N1 B.2.1 ∧ 0 < nC B.2.2) := by
  obtain ⟨h1, v, s1, r1, F1⟩ := rd_to e t sp
  have l1 := F1.lc (LawC.lc sp L) (by omega) l
  obtain ⟨h3, s3, l3, F3⟩ := cls_wipe l1
  have r3 := r1.fr F3 (by omega) (by omega)
  obtain ⟨h6, s6, r6, F6⟩ := r3.set (k := 1) (by omega) (nI n)
  obtain ⟨h7, s7, r7, F7⟩ := r6.set (k := 3) (by omega) 0
  obtain ⟨h8, s8, r8, F8⟩ := r7.set (k := 7) (by omega) 0
  obtain ⟨h9, s9, r9, F9⟩ := r8.set (k := 9) (by omega) 0
  obtain ⟨h10, s10, r10, F10⟩ := r9.set (k := 6) (by omega) 0
  have G := (((F6.tr F7).tr F8).tr F9).tr F10
  obtain ⟨F, e0, e1, e2, e3, e4, e5, ⟨f1, b1⟩, ⟨f2, b2⟩, ⟨f3, b3⟩, ⟨f4, b4⟩⟩ := id e
  obtain ⟨h11, s11, w, r11, ⟨w4, w5, w6, w7⟩, F11⟩ := rd_next (pos := 0) r10 hn (Nat.zero_le _) rfl rfl
  have G' := G.tr F11
  have up : ∀ {a : Nat} {f : Nat → Int32}, a = 161 ∨ a = 162 ∨ a = 163 ∨ a = 164 → Fu h a 16 f → Fu h11 a 16 f := fun q z => ((z.fr F1 (by omega)).fr F3 (by omega)).fr G' (by omega)
  have g0 : CG h11 sp tx n N0 (nxT tx n 0, false, wpL L) := by
    refine ⟨⟨0, Nat.zero_le _, rfl⟩, ⟨by show 0 ≤ 16; omega, by show (if 0 = 0 then 0 else L.2 0 4) ≤ 5; rw [if_pos rfl]; omega⟩, w, r11, ⟨w7 1 (by omega) (by omega) (by omega), w7 3 (by omega) (by omega) (by omega), w4, w5, w6, w7 7 (by omega) (by omega) (by omega), w7 9 (by omega) (by omega) (by omega)⟩, ⟨f1, f2, f3, f4, up (by omega) b1, up (by omega) b2, up (by omega) b3, up (by omega) b4, fun k hk => absurd hk (Nat.not_lt_zero k)⟩, G'.lc (LawC.lc _ _) (by omega) l3⟩
  have Q11 : Fq h h11 sp := ((F1.q1 (by omega) (by omega)).tr (F3.q2 (by omega) (by omega))).tr (G'.q1 (by omega) (by omega))
  obtain ⟨h12, s12, x12, q12⟩ := ln_all g0 hn hs (wp_i L)
  -- the lines
  obtain ⟨y, ly1, ly2⟩ := pj_inv (step := fun s13 : Int32 × PH => (gI s13.2 5 (some 160) 1).bind fun v15 => if v15 ≤ s13.1 then (some (.inr s13.2) : Option ((Int32 × PH) ⊕ PH)) else ((gI s13.2 5 (some 160) 7).bind fun v16 => if ¬ v16 = 0 then (some (.inr s13.2)) else ((gI s13.2 5 (some 160) 4).bind fun v17 => if v17 = 0 then (some (.inr s13.2)) else ((gI s13.2 5 (some 160) 4).bind fun v18 => if ¬ v18 = (3 : Int32) then ((gI s13.2 5 (some 160) 5).bind fun v19 => (cl s13.2 5 (some 160) (f_Reader_fail s13.2 (some 160) (1 : Int32) v19)).bind fun h20 => some (.inl ((s13.1 + (1 : Int32)), h20))) else ((cl s13.2 5 (some 160) (f_Reader_next s13.2 (some 160))).bind fun h21 => (cl h21 5 (some 160) (f_Reader_readLine h21 (some 160))).bind fun h22 => some (.inl ((s13.1 + (1 : Int32)), h22)))))))
    (fun k s => s.1 = nI k ∧ Fq h s.2 sp ∧ ∃ p : RsD × NmD, CX s.2 sp tx n p.2 p.1 ∧ oCt tx n (n - k) p = oAll tx n (n + 1) N0 (nxT tx n 0, false, wpL L) ∧ ∀ B, p.1 = .inr B → LawI B.2.2 p.2 B.2.1 ∧ k < B.1.2.1)
    (fun x => Fq h x sp ∧ ∃ p : RsD × NmD, CX x sp tx n p.2 p.1 ∧ p = oAll tx n (n + 1) N0 (nxT tx n 0, false, wpL L) ∧ ∀ B, p.1 = .inr B → LawI B.2.2 p.2 B.2.1) n (s0 := ((0 : Int32), h12)) (by omega)
    ⟨rfl, Q11.tr q12, oLine tx n N0 (nxT tx n 0, false, wpL L), x12, by rw [oAll_s]; rfl, fun B q => by
      have q2 : oLine tx n N0 (nxT tx n 0, false, wpL L) = (.inr B, (oLine tx n N0 (nxT tx n 0, false, wpL L)).2) := by rw [← q]
      obtain ⟨i1, i2, i3⟩ := lo_line g0.1 (wp_i L) q2
      exact ⟨i1, by omega⟩⟩ (by
    rintro k ⟨k1, hh⟩ hk ⟨rfl, fq, ⟨r, N1⟩, cx, ot, ih⟩
    dsimp only at fq cx ot ih ⊢
    cases r with
    | inl f =>
      have cb : CB hh sp tx n f.1 f.2 := cx
      right
      rw [cb.g7.2.2.2.1, Option.bind_some, if_neg (nI_ge hk (by omega)), cb.g7.2.1, Option.bind_some, if_pos cb.g7.2.2.2.2.2]
      exact ⟨_, rfl, fq, (.inl f, N1), cb, ot, fun B q => by cases q⟩
    | inr B =>
      have cg : CG hh sp tx n N1 B := cx
      obtain ⟨iL, ik⟩ := ih B rfl
      have p3 := cg.1.p.2.2.1
      rw [cg.g5.2.2.2.1, Option.bind_some, if_neg (nI_ge hk (by omega)), cg.g5.2.1, Option.bind_some, if_neg (fun q => q rfl), cg.g5.2.2.1, Option.bind_some]
      by_cases z0 : B.1.1 = 0
      · right
        rw [if_pos (by rw [z0]; rfl)]
        refine ⟨_, rfl, fq, (.inr B, N1), cg, ?_, fun C q => by cases q; exact iL⟩
        rw [← ot]
        show _ = if B.1.1 = 3 then _ else if B.1.1 = 0 then _ else _
        rw [if_neg (by omega), if_pos z0]
      · left
        rw [if_neg (fun q => z0 ((nI_e0 (by omega)).mp q)), Option.bind_some]
        by_cases z3 : B.1.1 = 3
        · rw [if_neg (show ¬ ¬ nI B.1.1 = 3 from fun q => q (by rw [z3]; rfl))]
          obtain ⟨h21, a1, a2, a3⟩ := cg_next cg hn hs
          obtain ⟨h22, c1, c2, c3⟩ := ln_all a2 hn hs iL
          rw [a1, Option.bind_some, c1, Option.bind_some, nI_s]
          refine ⟨_, rfl, rfl, (fq.tr a3).tr c3, oLine tx n N1 (nxT tx n B.1.2.2, B.2), c2, ?_, fun C q => ?_⟩
          · rw [← ot, show n - k = (n - (k + 1)) + 1 by omega]
            show _ = if B.1.1 = 3 then oAll tx n (n - (k + 1) + 1) N1 (nxT tx n B.1.2.2, B.2) else _
            rw [if_pos z3, oAll_s]
          · have q2 : oLine tx n N1 (nxT tx n B.1.2.2, B.2) = (.inr C, (oLine tx n N1 (nxT tx n B.1.2.2, B.2)).2) := by rw [← q]
            obtain ⟨i1, i2, i3⟩ := lo_line a2.1 iL q2
            have i3 : (nxT tx n B.1.2.2).2.1 < C.1.2.1 := i3
            have := (nxT_p (tx := tx) cg.1.p.2.1).1
            have := cg.1.p.1
            exact ⟨i1, by omega⟩
        · rw [if_pos (fun q => z3 ((nI_ec (x := 3) (k := 3) rfl (by omega) (by omega)).mp q)), cg.g5.1, Option.bind_some]
          obtain ⟨h20, a1, a2, a3⟩ := cg_fail cg hs (k := 1) (by omega) (by omega) B.1.2.1
          rw [show (1 : Int32) = nI 1 from rfl, a1, Option.bind_some, nI_add]
          refine ⟨_, rfl, rfl, fq.tr a3, (.inl (1, B.1.2.1), N1), a2, ?_, fun C q => by cases q⟩
          rw [← ot]
          show _ = if B.1.1 = 3 then _ else if B.1.1 = 0 then _ else _
          rw [if_neg z3, if_neg z0]
          rfl) (by
    rintro ⟨k1, hh⟩ ⟨rfl, fq, ⟨r, N1⟩, cx, ot, ih⟩
    dsimp only at fq cx ot ih ⊢
    cases r with
    | inl f =>
      have cb : CB hh sp tx n f.1 f.2 := cx
      rw [cb.g7.2.2.2.1, Option.bind_some, if_pos (nI_le (Nat.le_refl _) (by omega))]
      exact ⟨_, rfl, fq, (.inl f, N1), cb, ot, fun B q => by cases q⟩
    | inr B =>
      have cg : CG hh sp tx n N1 B := cx
      have := (ih B rfl).2
      have := cg.1.p
      omega)
  obtain ⟨fq, ⟨r, N1⟩, cx, ot, iL⟩ := ly2
  have cx : CX y sp tx n N1 r := cx
  have iL : ∀ B, r = .inr B → LawI B.2.2 N1 B.2.1 := iL
  obtain ⟨L2, l2, q2, d2⟩ := cx.law
  have hr : oRead tx n (wpL L) = oEnd n r := by unfold oRead; rw [← ot]
  rw [hr]
  have top : ∀ {X : Type} (K : PH → Option X), (f_Reader_read h (some 160) (some sp) (nI n)) = (gR y 5 (some 160) 2).bind fun v23 => (gI y 1 v23 2).bind fun v24 => if ¬ v24 = 0 then ((gI y 5 (some 160) 7).bind fun v25 => some (v25, y)) else ((gI y 5 (some 160) 1).bind fun v26 => (cl y 5 (some 160) (f_Reader_fail y (some 160) (6 : Int32) v26)).bind fun h27 => (gI h27 5 (some 160) 7).bind fun v28 => some (v28, h27)) := by
    intro X K
    unfold f_Reader_read sZ
    rw [s1, Option.bind_some, r1.g2, Option.bind_some, s3, Option.bind_some, r3.g0, Option.bind_some]
    rw [show aN h3 52 (some 101) = some (nI 900) from by unfold aN; rw [pj_at_o r3.2]; simp; rfl, Option.bind_some]
    rw [show (if nI 900 < nI n then nI 900 else nI n) = nI n from if_neg (nI_nlt hn (by omega)), s6, Option.bind_some, if_pos (Or.inl rfl), s7, Option.bind_some, s8, Option.bind_some, s9, Option.bind_some, s10, Option.bind_some, s11, Option.bind_some, s12, Option.bind_some, ly1, Option.bind_some]
  rw [cl_o e0, top (X := Nat) (fun _ => none), cx.g2, Option.bind_some, gI_o l2.1 rfl, Option.bind_some]
  cases r with
  | inl f =>
    have cb : CB y sp tx n f.1 f.2 := cx
    refine ⟨y, nI f.1, ?_, fq, cx.rd, fun f9 q => ?_, fun B q => by cases q⟩
    · rw [cb.g7.2.1, Option.bind_some]
      by_cases z : nI (nC L2) = 0
      · rw [if_neg (fun q => q z), cb.g7.2.2.2.1, Option.bind_some, cb_fail cb, Option.bind_some, cb.g7.2.1, Option.bind_some]
      · rw [if_pos z]
    · cases q
      exact ⟨cb.1, cb.2.1, rfl, cb.g7.2.2.1, _, l2⟩
  | inr B =>
    have cg : CG y sp tx n N1 B := cx
    have iB := iL B rfl
    rw [d2 B rfl] at l2 ⊢
    unfold oEnd
    dsimp only
    have n5 := iB.1.1
    by_cases z : nC B.2.2 = 0
    · rw [if_pos z]
      obtain ⟨h20, a1, a2, a3⟩ := cg_fail cg hs (k := 6) (by omega) (by omega) n
      refine ⟨h20, nI 6, ?_, fq.tr a3, (show CX h20 sp tx n N1 (.inl (6, n)) from a2).rd, fun f9 q => ?_, fun C q => by cases q⟩
      · rw [if_neg (fun q => q (by rw [z]; rfl)), cg.g5.2.2.2.1, Option.bind_some, show (6 : Int32) = nI 6 from rfl, a1, Option.bind_some, a2.g7.2.1, Option.bind_some]
      · cases q
        obtain ⟨L9, l9, -⟩ := (show CX h20 sp tx n N1 (.inl (6, n)) from a2).law
        exact ⟨by omega, by omega, rfl, a2.g7.2.2.1, _, l9⟩
    · rw [if_neg z]
      refine ⟨y, 0, ?_, fq, cx.rd, fun f9 q => (by cases q), fun C q => ?_⟩
      · rw [if_pos (fun q => z ((nI_e0 (by omega)).mp q)), cg.g5.2.1, Option.bind_some]
      · cases q
        exact ⟨rfl, l2, N1, iB, by omega⟩
end Y7
