/-! receipts: rows, could, surely, firstOf -/
section R1
variable {h : PH} {lw c p m : Nat} {S : StD} {ml : Option Nat}
theorem op_rows (o : SOk c S) (hc : c < 600) (a : Int32) : Op (fun h => f_T_rows h (some 100) a) (fun h => f_M_rows h (some 285) a) c S := by
  have h5 := o.P5
  have h4 := o.Q5
  rcases arg_c a (nP (sL S)) (by omega) with ⟨p, hp, rfl⟩ | hx
  · have lf := o.lfP hp
    have ok := o.ok lf
    by_cases z : qxN (sL S) p (nQ (sL S)) = nQ (sL S)
    · refine ⟨-1, trS S 6, fun h lw e => ?_, fun h ml e => ?_, o.tr _ (by omega) (by omega)⟩
      · obtain ⟨h1, lw1, r1, r2, r3⟩ := e.rf 6
        refine ⟨h1, lw1, ?_, r2, r3⟩
        have g2 : gR h 10 (some 100) 2 = some (some lw) := gR_o e.2.1 rfl
        have g11 : gR h 1 (some lw) 11 = some (some (lw + 22)) := gR_o e.2.2.2.1.1 rfl
        show f_T_rows h (some 100) (nI p) = _
        unfold f_T_rows
        rw [e.isP1 hp h5, Option.bind_some, if_pos (by decide), g2, Option.bind_some, g11, Option.bind_some, cls_has e.2.2.2.1 ok hp, Option.bind_some, if_pos z, if_neg (fun q => q rfl)]
        exact r1
      · obtain ⟨h1, s1, s2, s3⟩ := e.st
        obtain ⟨h2, ml2, r1, r2, r3⟩ := s2.rf 6 (by decide)
        refine ⟨h2, ml2, ?_, r2, s3.tr r3⟩
        show f_M_rows h (some 285) (nI p) = _
        unfold f_M_rows
        rw [s1, Option.bind_some, s2.isP1 lf hp h5, Option.bind_some, if_pos (by decide), mod_rcp s2 o hp, Option.bind_some, if_neg (fun q => q ((rq_i h4).mpr z))]
        exact r1
    · refine ⟨nI (RS (sL S) p).1, trS S 0, fun h lw e => ?_, fun h ml e => ?_, o.tr _ (by omega) (by omega)⟩
      · obtain ⟨lv, hv⟩ := e.lvx
        obtain ⟨h1, T1, a1, a2, a3⟩ := cls_gather e o hp hv
        obtain ⟨h2, lw1, r1, r2, r3⟩ := a2.1.fn (nI (RS (sL S) p).1)
        refine ⟨h2, lw1, ?_, r2, a3.tr r3⟩
        have g2 : gR h 10 (some 100) 2 = some (some lw) := gR_o e.2.1 rfl
        have g10 : gR h 10 (some 100) 10 = some (some 177) := gR_o e.2.1 rfl
        have g11 : gR h 1 (some lw) 11 = some (some (lw + 22)) := gR_o e.2.2.2.1.1 rfl
        have g10' : gR h1 10 (some 100) 10 = some (some 177) := gR_o a2.1.2.1 rfl
        show f_T_rows h (some 100) (nI p) = _
        unfold f_T_rows
        rw [e.isP1 hp h5, Option.bind_some, if_pos (by decide), g2, Option.bind_some, g11, Option.bind_some, cls_has e.2.2.2.1 ok hp, Option.bind_some, if_neg z, if_pos (by decide), g10, Option.bind_some, Option.bind_some, a1, Option.bind_some, g10', Option.bind_some, a2.g.2.2.2.2.1, Option.bind_some]
        exact r1
      · obtain ⟨h1, s1, s2, s3⟩ := e.st
        obtain ⟨h2, a1, i, rw9, a2, a3, a4⟩ := mod_rows s2 o hp
        obtain ⟨h3, ml3, r1, r2, r3⟩ := a3.1.gd (nI (RS (sL S) p).1)
        refine ⟨h3, ml3, ?_, r2, (s3.tr a4).tr r3⟩
        show f_M_rows h (some 285) (nI p) = _
        unfold f_M_rows
        rw [s1, Option.bind_some, s2.isP1 lf hp h5, Option.bind_some, if_pos (by decide), mod_rcp s2 o hp, Option.bind_some, if_pos (fun q => z ((rq_i h4).mp q)), a1, Option.bind_some, a3.2.2.1.1, Option.bind_some]
        exact r1
  · refine ⟨-1, trS S 1, fun h lw e => ?_, fun h ml e => ?_, o.tr _ (by omega) (by omega)⟩
    · obtain ⟨h1, lw1, r1, r2, r3⟩ := e.rf 1
      refine ⟨h1, lw1, ?_, r2, r3⟩
      show f_T_rows h (some 100) a = _
      unfold f_T_rows
      rw [e.isP0 hx, Option.bind_some, if_neg (by decide)]
      exact r1
    · obtain ⟨h1, s1, s2, s3⟩ := e.st
      obtain ⟨h2, ml2, r1, r2, r3⟩ := s2.rf 1 (by decide)
      refine ⟨h2, ml2, ?_, r2, s3.tr r3⟩
      show f_M_rows h (some 285) a = _
      unfold f_M_rows
      rw [s1, Option.bind_some, s2.isP0 hx, Option.bind_some, if_neg (by decide)]
      exact r1
theorem op_could (o : SOk c S) (hc : c < 600) (a : Int32) : Op (fun h => f_T_could h (some 100) a) (fun h => f_M_could h (some 285) a) c S := by
  have h4 := o.Q5
  rcases arg_c a (nQ (sL S)) (by omega) with ⟨k, hk, rfl⟩ | hx
  · have lf := o.lfQ hk
    have ok := o.ok lf
    obtain ⟨ro, rb⟩ := RS_ok (L := sL S) (p := cpe (sL S) k) ok.1 ok.2.1 h4
    refine ⟨cbS (RS (sL S) (cpe (sL S) k)) k 5, trS S 0, fun h lw e => ?_, fun h ml e => ?_, o.tr _ (by omega) (by omega)⟩
    · obtain ⟨h1, T1, lv, a1, a2, a3⟩ := cls_gf1 e o lf hk
      obtain ⟨h2, lw1, r1, r2, r3⟩ := a2.1.fn (cbS (RS (sL S) (cpe (sL S) k)) k 5)
      refine ⟨h2, lw1, ?_, r2, a3.tr r3⟩
      have g10' : gR h1 10 (some 100) 10 = some (some 177) := gR_o a2.1.2.1 rfl
      show f_T_could h (some 100) (nI k) = _
      unfold f_T_could
      rw [a1, Option.bind_some]
      dsimp only
      rw [if_neg (by decide), g10', Option.bind_some, cls_pos a2 ok ro (by omega) hk, Option.bind_some, ← cb_5 ro ok.2.1]
      exact r1
    · obtain ⟨h1, s1, s2, s3⟩ := e.st
      obtain ⟨h2, i, rw9, a1, a2, a3, a4⟩ := mod_rk s2 o lf hk
      obtain ⟨h3, ml3, r1, r2, r3⟩ := a3.1.gd (cbS (RS (sL S) (cpe (sL S) k)) k 5)
      refine ⟨h3, ml3, ?_, r2, (s3.tr a4).tr r3⟩
      show f_M_could h (some 285) (nI k) = _
      unfold f_M_could
      rw [s1, Option.bind_some, mod_ir1 s2 o lf hk, Option.bind_some, if_pos (by decide), bnd3, a1, Option.bind_some, mod_cb a3 ro (by omega) (by omega), Option.bind_some]
      exact r1
  · refine ⟨-1, trS S 1, fun h lw e => ?_, fun h ml e => ?_, o.tr _ (by omega) (by omega)⟩
    · obtain ⟨h1, lw1, r1, r2, r3⟩ := e.rf 1
      refine ⟨h1, lw1, ?_, r2, r3⟩
      show f_T_could h (some 100) a = _
      unfold f_T_could
      rw [cls_gf0 e hx, Option.bind_some, if_pos rfl]
      exact r1
    · obtain ⟨h1, s1, s2, s3⟩ := e.st
      obtain ⟨h2, ml2, r1, r2, r3⟩ := s2.rf 1 (by decide)
      refine ⟨h2, ml2, ?_, r2, s3.tr r3⟩
      show f_M_could h (some 285) a = _
      unfold f_M_could
      rw [s1, Option.bind_some, mod_ir0 s2 hx, Option.bind_some, if_neg (by decide)]
      exact r1
theorem op_surely (o : SOk c S) (hc : c < 600) (a : Int32) : Op (fun h => f_T_surely h (some 100) a) (fun h => f_M_surely h (some 285) a) c S := by
  have h4 := o.Q5
  rcases arg_c a (nQ (sL S)) (by omega) with ⟨k, hk, rfl⟩ | hx
  · have lf := o.lfQ hk
    have ok := o.ok lf
    obtain ⟨ro, rb⟩ := RS_ok (L := sL S) (p := cpe (sL S) k) ok.1 ok.2.1 h4
    refine ⟨srS (RS (sL S) (cpe (sL S) k)) k, trS S 0, fun h lw e => ?_, fun h ml e => ?_, o.tr _ (by omega) (by omega)⟩
    · obtain ⟨h1, T1, lv, a1, a2, a3⟩ := cls_gf1 e o lf hk
      obtain ⟨h2, lw1, r1, r2, r3⟩ := a2.1.fn (srS (RS (sL S) (cpe (sL S) k)) k)
      refine ⟨h2, lw1, ?_, r2, a3.tr r3⟩
      have g10' : gR h1 10 (some 100) 10 = some (some 177) := gR_o a2.1.2.1 rfl
      show f_T_surely h (some 100) (nI k) = _
      unfold f_T_surely
      rw [a1, Option.bind_some]
      dsimp only
      rw [if_neg (by decide), g10', Option.bind_some, cls_cer a2 ok ro (by omega) hk, Option.bind_some]
      exact r1
    · obtain ⟨h1, s1, s2, s3⟩ := e.st
      obtain ⟨h2, i, rw9, a1, a2, a3, a4⟩ := mod_rk s2 o lf hk
      obtain ⟨h3, ml3, r1, r2, r3⟩ := a3.1.gd (srS (RS (sL S) (cpe (sL S) k)) k)
      refine ⟨h3, ml3, ?_, r2, (s3.tr a4).tr r3⟩
      show f_M_surely h (some 285) (nI k) = _
      unfold f_M_surely
      rw [s1, Option.bind_some, mod_ir1 s2 o lf hk, Option.bind_some, if_pos (by decide), bnd3, a1, Option.bind_some]
      have cb := mod_cb (p := cpe (sL S) k) a3 ro (by omega) (show k < 5 by omega)
      have sc := fun c (hc : c < 5) => sr_cb ro hk rfl hc
      obtain ⟨x, l1, l2⟩ := pj_inv (step := fun s7 : Int32 => if (5 : Int32) ≤ s7 then (some (.inr (.inl ())) : Option (Int32 ⊕ (Unit ⊕ Int32))) else ((cl h2 12 (some 285) (f_M_couldBe h2 (some 285) (nI k))).bind fun v9 => if ¬ v9 = ((1 : Int32) <<< (s7 &&& 31)) then (some (.inl (s7 + (1 : Int32)))) else (some (.inr (.inr s7))))) (fun c s => s = nI c ∧ ∀ d, d < c → ¬ (¬ (RS (sL S) (cpe (sL S) k)).1 = 0 ∧ (RS (sL S) (cpe (sL S) k)).2.1 k d = (RS (sL S) (cpe (sL S) k)).1)) (fun x => (x = .inl () ∧ srS (RS (sL S) (cpe (sL S) k)) k = -2) ∨ x = .inr (srS (RS (sL S) (cpe (sL S) k)) k)) 5 (s0 := (0 : Int32)) (by omega) ⟨rfl, fun d hd => absurd hd (Nat.not_lt_zero d)⟩ (by
          rintro c s hc ⟨rfl, x2⟩
          rw [if_neg (show ¬ (5 : Int32) ≤ nI c from nI_nle' (b := 5) hc (by omega)), cb, Option.bind_some, nI_s]
          by_cases y : cbS (RS (sL S) (cpe (sL S) k)) k 5 = ((1 : Int32) <<< (nI c &&& 31))
          · rw [if_neg (fun q => q y)]
            exact Or.inr ⟨_, rfl, Or.inr (by rw [sr_c hc ((sc c hc).mp y) x2])⟩
          · rw [if_pos y]
            refine Or.inl ⟨_, rfl, rfl, fun d hd q => ?_⟩
            by_cases w : d = c
            · rw [w] at q; exact y ((sc c hc).mpr q)
            · exact x2 d (by omega) q) (by
          rintro s ⟨rfl, x2⟩
          rw [if_pos (show (5 : Int32) ≤ nI 5 by decide)]
          exact ⟨_, rfl, Or.inl ⟨rfl, sr_n x2⟩⟩)
      rw [l1, Option.bind_some]
      rcases l2 with ⟨rfl, l3⟩ | rfl
      · rw [l3] at r1 ⊢; exact r1
      · exact r1
  · refine ⟨-1, trS S 1, fun h lw e => ?_, fun h ml e => ?_, o.tr _ (by omega) (by omega)⟩
    · obtain ⟨h1, lw1, r1, r2, r3⟩ := e.rf 1
      refine ⟨h1, lw1, ?_, r2, r3⟩
      show f_T_surely h (some 100) a = _
      unfold f_T_surely
      rw [cls_gf0 e hx, Option.bind_some, if_pos rfl]
      exact r1
    · obtain ⟨h1, s1, s2, s3⟩ := e.st
      obtain ⟨h2, ml2, r1, r2, r3⟩ := s2.rf 1 (by decide)
      refine ⟨h2, ml2, ?_, r2, s3.tr r3⟩
      show f_M_surely h (some 285) a = _
      unfold f_M_surely
      rw [s1, Option.bind_some, mod_ir0 s2 hx, Option.bind_some, if_neg (by decide)]
      exact r1
def foS (R : RwD) (k : Nat) : Int32 := if R.1 = 0 then -2 else nI (R.2.2 k)
theorem op_firstOf (o : SOk c S) (hc : c < 600) (a : Int32) : Op (fun h => f_T_firstOf h (some 100) a) (fun h => f_M_firstOf h (some 285) a) c S := by
  have h4 := o.Q5
  rcases arg_c a (nQ (sL S)) (by omega) with ⟨k, hk, rfl⟩ | hx
  · have lf := o.lfQ hk
    have ok := o.ok lf
    obtain ⟨ro, rb⟩ := RS_ok (L := sL S) (p := cpe (sL S) k) ok.1 ok.2.1 h4
    refine ⟨foS (RS (sL S) (cpe (sL S) k)) k, trS S 0, fun h lw e => ?_, fun h ml e => ?_, o.tr _ (by omega) (by omega)⟩
    · obtain ⟨h1, T1, lv, a1, a2, a3⟩ := cls_gf1 e o lf hk
      obtain ⟨h2, lw1, r1, r2, r3⟩ := a2.1.fn (foS (RS (sL S) (cpe (sL S) k)) k)
      refine ⟨h2, lw1, ?_, r2, a3.tr r3⟩
      have g10' : gR h1 10 (some 100) 10 = some (some 177) := gR_o a2.1.2.1 rfl
      obtain ⟨-, ⟨fr, e1, e1'⟩, -⟩ := a2.2.2.2
      show f_T_firstOf h (some 100) (nI k) = _
      unfold f_T_firstOf
      rw [a1, Option.bind_some]
      dsimp only
      rw [if_pos (by decide), g10', Option.bind_some, a2.g.2.2.2.2.1, Option.bind_some]
      have key : (if ¬ nI (RS (sL S) (cpe (sL S) k)).1 = 0 then ((some (some 177)).bind fun v5 => (gR h1 8 v5 5).bind fun v6 => (aI h1 v6 (nI k)).bind fun v7 => some v7) else (some (-2 : Int32)) : Option (Int32)) = some (foS (RS (sL S) (cpe (sL S) k)) k) := by
        unfold foS
        by_cases z : (RS (sL S) (cpe (sL S) k)).1 = 0
        · rw [if_neg (by rw [z]; exact fun q => q rfl), if_pos z]
        · rw [if_pos (fun q => z ((nI_e0 (by omega)).mp q)), if_neg z, Option.bind_some, a2.g5.1, Option.bind_some, e1.at (by omega) (by decide), Option.bind_some, e1' (by omega) k hk rfl]
      rw [key, Option.bind_some]
      exact r1
    · obtain ⟨h1, s1, s2, s3⟩ := e.st
      obtain ⟨h2, i, rw9, a1, a2, a3, a4⟩ := mod_rk s2 o lf hk
      obtain ⟨h3, ml3, r1, r2, r3⟩ := a3.1.gd (foS (RS (sL S) (cpe (sL S) k)) k)
      refine ⟨h3, ml3, ?_, r2, (s3.tr a4).tr r3⟩
      obtain ⟨-, -, -, -, ⟨fr, e1, e1'⟩, -⟩ := id a3
      show f_M_firstOf h (some 285) (nI k) = _
      unfold f_M_firstOf
      rw [s1, Option.bind_some, mod_ir1 s2 o lf hk, Option.bind_some, if_pos (by decide), bnd3, a1, Option.bind_some, a3.2.2.1.1, Option.bind_some]
      have key : (if ¬ nI (RS (sL S) (cpe (sL S) k)).1 = 0 then ((gR h2 12 (some 285) 26).bind fun v9 => (aI h2 v9 (nI k)).bind fun v10 => some v10) else (some (-2 : Int32)) : Option (Int32)) = some (foS (RS (sL S) (cpe (sL S) k)) k) := by
        unfold foS
        by_cases z : (RS (sL S) (cpe (sL S) k)).1 = 0
        · rw [if_neg (by rw [z]; exact fun q => q rfl), if_pos z]
        · rw [if_pos (fun q => z ((nI_e0 (by omega)).mp q)), if_neg z, a3.1.g25.2.1, Option.bind_some, e1.at (by omega) (by decide), Option.bind_some, e1' (by omega) k (by omega)]
      rw [key, Option.bind_some]
      exact r1
  · refine ⟨-1, trS S 1, fun h lw e => ?_, fun h ml e => ?_, o.tr _ (by omega) (by omega)⟩
    · obtain ⟨h1, lw1, r1, r2, r3⟩ := e.rf 1
      refine ⟨h1, lw1, ?_, r2, r3⟩
      show f_T_firstOf h (some 100) a = _
      unfold f_T_firstOf
      rw [cls_gf0 e hx, Option.bind_some, if_neg (fun q => q rfl)]
      exact r1
    · obtain ⟨h1, s1, s2, s3⟩ := e.st
      obtain ⟨h2, ml2, r1, r2, r3⟩ := s2.rf 1 (by decide)
      refine ⟨h2, ml2, ?_, r2, s3.tr r3⟩
      show f_M_firstOf h (some 285) a = _
      unfold f_M_firstOf
      rw [s1, Option.bind_some, mod_ir0 s2 hx, Option.bind_some, if_neg (by decide)]
      exact r1
end R1
/-! liar -/
section R2
variable {h : PH} {lw c p m : Nat} {S : StD} {ml : Option Nat}
theorem op_liar (o : SOk c S) (hc : c < 600) : Op (fun h => f_T_liar h (some 100)) (fun h => f_M_liar h (some 285)) c S := by
  have h5 := o.P5
  have h4 := o.Q5
  cases lf : sLf S with
  | false =>
    refine ⟨-1, trS S 1, fun h lw e => ?_, fun h ml e => ?_, o.tr _ (by omega) (by omega)⟩
    · obtain ⟨h1, lw1, r1, r2, r3⟩ := e.rf 1
      refine ⟨h1, lw1, ?_, r2, r3⟩
      show f_T_liar h (some 100) = _
      unfold f_T_liar
      rw [e.lf, lf, Option.bind_some, if_neg (by decide)]
      exact r1
    · obtain ⟨h1, s1, s2, s3⟩ := e.st
      obtain ⟨h2, ml2, r1, r2, r3⟩ := s2.rf 1 (by decide)
      refine ⟨h2, ml2, ?_, r2, s3.tr r3⟩
      show f_M_liar h (some 285) = _
      unfold f_M_liar
      rw [s1, Option.bind_some, s2.lwR, Option.bind_some, if_pos (s2.no lf)]
      exact r1
  | true =>
    have ok := o.ok lf
    have rsb := fun p => (RS_ok (L := sL S) (p := p) ok.1 ok.2.1 h4).2
    refine ⟨bkI (liN (sL S) (nP (sL S))), trS S 0, fun h lw e => ?_, fun h ml e => ?_, o.tr _ (by omega) (by omega)⟩
    · show ∃ h1 lw1, f_T_liar h (some 100) = some (_, h1) ∧ _
      unfold f_T_liar
      rw [e.lf, lf, Option.bind_some, if_pos (by decide)]
      obtain ⟨x, l1, h9, l2, l3, l4⟩ := pj_inv (step := fun s2 : Int32 × PH => (gR s2.2 10 (some 100) 2).bind fun v4 => (gI s2.2 1 v4 3).bind fun v5 => if v5 ≤ s2.1 then (some (.inr (.inl s2.2)) : Option ((Int32 × PH) ⊕ (PH ⊕ (Int32 × PH)))) else ((gR s2.2 10 (some 100) 2).bind fun v6 => (gR s2.2 1 v6 11).bind fun v7 => (cl s2.2 7 v7 (f_Receipts_has s2.2 v7 s2.1)).bind fun v8 => if v8 = 0 then (some (.inl ((s2.1 + (1 : Int32)), s2.2))) else ((gR s2.2 10 (some 100) 10).bind fun v9 => (gR s2.2 10 (some 100) 2).bind fun v10 => (cl s2.2 8 v9 (f_Rows_gather s2.2 v9 v10 s2.1)).bind fun h11 => (gR h11 10 (some 100) 10).bind fun v12 => (gI h11 8 v12 4).bind fun v13 => if ¬ v13 = 0 then (some (.inl ((s2.1 + (1 : Int32)), h11))) else (some (.inr (.inr (s2.1, h11)))))))
        (fun k s => s.1 = nI k ∧ liN (sL S) k = none ∧ CI s.2 lw S ∧ Fr h s.2 100 285) (fun x => ∃ h9, ((x = .inl h9 ∧ liN (sL S) (nP (sL S)) = none) ∨ (∃ p, x = .inr (nI p, h9) ∧ liN (sL S) (nP (sL S)) = some p)) ∧ CI h9 lw S ∧ Fr h h9 100 285) (nP (sL S)) (s0 := ((0 : Int32), h)) (by omega) ⟨rfl, rfl, e, Fr.rf⟩ (by
          rintro k ⟨s1, s2⟩ hk ⟨x1, x2, x3, x4⟩
          dsimp only at x1 x3 x4 ⊢
          subst x1
          have g2 : gR s2 10 (some 100) 2 = some (some lw) := gR_o x3.2.1 rfl
          have g10 : gR s2 10 (some 100) 10 = some (some 177) := gR_o x3.2.1 rfl
          have g11 : gR s2 1 (some lw) 11 = some (some (lw + 22)) := gR_o x3.2.2.2.1.1 rfl
          have g3 : gI s2 1 (some lw) 3 = some (nI (nP (sL S))) := gI_o x3.2.2.2.1.1 rfl
          rw [g2, Option.bind_some, g3, Option.bind_some, if_neg (nI_nle' hk (by omega)), Option.bind_some, g11, Option.bind_some, cls_has x3.2.2.2.1 ok hk, Option.bind_some, nI_s]
          have el : liN (sL S) (k + 1) = if lrB (sL S) k = true then some k else none := by
            show (match liN (sL S) k with | some b => some b | none => if lrB (sL S) k = true then some k else none) = _
            rw [x2]
          by_cases z : qxN (sL S) k (nQ (sL S)) = nQ (sL S)
          · rw [if_pos z, if_pos rfl]
            left
            refine ⟨_, rfl, rfl, ?_, x3, x4⟩
            rw [el, if_neg]
            unfold lrB
            simp [z]
          · rw [if_neg z, if_neg (by decide), g10, Option.bind_some, Option.bind_some]
            obtain ⟨lv, hv⟩ := x3.lvx
            obtain ⟨h1, T1, a1, a2, a3⟩ := cls_gather x3 o hk hv
            have g10' : gR h1 10 (some 100) 10 = some (some 177) := gR_o a2.1.2.1 rfl
            have b := rsb k
            rw [a1, Option.bind_some, g10', Option.bind_some, a2.g.2.2.2.2.1, Option.bind_some]
            by_cases y : (RS (sL S) k).1 = 0
            · rw [if_neg (by rw [y]; exact fun q => q rfl)]
              right
              refine ⟨_, rfl, h1, Or.inr ⟨k, rfl, ?_⟩, a2.1, x4.tr a3⟩
              have := li_s (L := sL S) (m := k + 1) (b := k) (by rw [el, if_pos (by unfold lrB; simp [z, y])]) (nP (sL S) - (k + 1))
              rw [show k + 1 + (nP (sL S) - (k + 1)) = nP (sL S) by omega] at this
              exact this
            · rw [if_pos (fun q => y ((nI_e0 (by omega)).mp q))]
              left
              refine ⟨_, rfl, rfl, ?_, a2.1, x4.tr a3⟩
              rw [el, if_neg]
              unfold lrB
              simp [y]) (by
          rintro ⟨s1, s2⟩ ⟨x1, x2, x3, x4⟩
          dsimp only at x1 x3 x4 ⊢
          subst x1
          have g2 : gR s2 10 (some 100) 2 = some (some lw) := gR_o x3.2.1 rfl
          have g3 : gI s2 1 (some lw) 3 = some (nI (nP (sL S))) := gI_o x3.2.2.2.1.1 rfl
          rw [g2, Option.bind_some, g3, Option.bind_some, if_pos (nI_le (Nat.le_refl _) (by omega))]
          exact ⟨_, rfl, s2, Or.inl ⟨rfl, x2⟩, x3, x4⟩)
      rw [l1, Option.bind_some]
      rcases l2 with ⟨rfl, l5⟩ | ⟨p, rfl, l5⟩
      · rw [l5]
        obtain ⟨h2, lw1, r1, r2, r3⟩ := l3.fn (-2)
        exact ⟨h2, lw1, r1, r2, l4.tr r3⟩
      · rw [l5]
        obtain ⟨h2, lw1, r1, r2, r3⟩ := l3.fn (nI p)
        exact ⟨h2, lw1, r1, r2, l4.tr r3⟩
    · obtain ⟨h1, s1, s2, s3⟩ := e.st
      obtain ⟨i, rfl, -⟩ := s2.ye lf
      show ∃ h1 ml1, f_M_liar h (some 285) = some (_, h1) ∧ _
      unfold f_M_liar
      rw [s1, Option.bind_some, s2.lwR, Option.bind_some, if_neg (by simp)]
      obtain ⟨x, l1, h9, l2, l3, l4⟩ := pj_inv (step := fun s3 : Int32 × PH => (gR s3.2 12 (some 285) 3).bind fun v5 => (gI s3.2 11 v5 3).bind fun v6 => if v6 ≤ s3.1 then (some (.inr (.inl s3.2)) : Option ((Int32 × PH) ⊕ (PH ⊕ (Int32 × PH)))) else ((cl s3.2 12 (some 285) (f_M_receiptsOf s3.2 (some 285) s3.1)).bind fun v7 => if ¬ v7 = 0 then ((cl s3.2 12 (some 285) (f_M_rowsOf s3.2 (some 285) s3.1)).bind fun h8 => (gI h8 12 (some 285) 28).bind fun v9 => if ¬ v9 = 0 then (some (.inl ((s3.1 + (1 : Int32)), h8))) else (some (.inr (.inr (s3.1, h8))))) else (some (.inl ((s3.1 + (1 : Int32)), s3.2)))))
        (fun k s => s.1 = nI k ∧ liN (sL S) k = none ∧ Mst s.2 (some i) S ∧ Fr h1 s.2 285 295) (fun x => ∃ h9, ((x = .inl h9 ∧ liN (sL S) (nP (sL S)) = none) ∨ (∃ p, x = .inr (nI p, h9) ∧ liN (sL S) (nP (sL S)) = some p)) ∧ Mst h9 (some i) S ∧ Fr h1 h9 285 295) (nP (sL S)) (s0 := ((0 : Int32), h1)) (by omega) ⟨rfl, rfl, s2, Fr.rf⟩ (by
          rintro k ⟨t1, t2⟩ hk ⟨x1, x2, x3, x4⟩
          dsimp only at x1 x3 x4 ⊢
          subst x1
          have g3 : gI t2 11 (some i) 3 = some (nI (nP (sL S))) := ((x3.ye' lf).2.v ok).1.2.2.2.1
          rw [x3.lwR, Option.bind_some, g3, Option.bind_some, if_neg (nI_nle' hk (by omega)), mod_rcp x3 o hk, Option.bind_some, nI_s]
          have el : liN (sL S) (k + 1) = if lrB (sL S) k = true then some k else none := by
            show (match liN (sL S) k with | some b => some b | none => if lrB (sL S) k = true then some k else none) = _
            rw [x2]
          by_cases z : qxN (sL S) k (nQ (sL S)) = nQ (sL S)
          · rw [if_neg (fun q => q ((rq_i h4).mpr z))]
            left
            refine ⟨_, rfl, rfl, ?_, x3, x4⟩
            rw [el, if_neg]
            unfold lrB
            simp [z]
          · rw [if_pos (fun q => z ((rq_i h4).mp q))]
            obtain ⟨h2, a1, i1, rw9, a2, a3, a4⟩ := mod_rows x3 o hk
            cases a2
            have b := rsb k
            rw [a1, Option.bind_some, a3.2.2.1.1, Option.bind_some]
            by_cases y : (RS (sL S) k).1 = 0
            · rw [if_neg (by rw [y]; exact fun q => q rfl)]
              right
              refine ⟨_, rfl, h2, Or.inr ⟨k, rfl, ?_⟩, a3.1, x4.tr a4⟩
              have := li_s (L := sL S) (m := k + 1) (b := k) (by rw [el, if_pos (by unfold lrB; simp [z, y])]) (nP (sL S) - (k + 1))
              rw [show k + 1 + (nP (sL S) - (k + 1)) = nP (sL S) by omega] at this
              exact this
            · rw [if_pos (fun q => y ((nI_e0 (by omega)).mp q))]
              left
              refine ⟨_, rfl, rfl, ?_, a3.1, x4.tr a4⟩
              rw [el, if_neg]
              unfold lrB
              simp [y]) (by
          rintro ⟨t1, t2⟩ ⟨x1, x2, x3, x4⟩
          dsimp only at x1 x3 x4 ⊢
          subst x1
          have g3 : gI t2 11 (some i) 3 = some (nI (nP (sL S))) := ((x3.ye' lf).2.v ok).1.2.2.2.1
          rw [x3.lwR, Option.bind_some, g3, Option.bind_some, if_pos (nI_le (Nat.le_refl _) (by omega))]
          exact ⟨_, rfl, t2, Or.inl ⟨rfl, x2⟩, x3, x4⟩)
      rw [l1, Option.bind_some]
      rcases l2 with ⟨rfl, l5⟩ | ⟨p, rfl, l5⟩
      · rw [l5]
        obtain ⟨h2, lw1, r1, r2, r3⟩ := l3.gd (-2)
        exact ⟨h2, lw1, r1, r2, (s3.tr l4).tr r3⟩
      · rw [l5]
        obtain ⟨h2, lw1, r1, r2, r3⟩ := l3.gd (nI p)
        exact ⟨h2, lw1, r1, r2, (s3.tr l4).tr r3⟩
end R2
