/-! stays -/
def syT (L : LawD) (p a n he r : Nat) : Int64 := if rpe L r = p ∧ rch L r = he ∧ a < (rho L r).toNatClampNeg ∧ (rho L r).toNatClampNeg < a + n then lN (n - ((rho L r).toNatClampNeg - a)) * (rod L r).toInt64 * (rmo L r).toInt64 else 0
theorem fo_sm {t : Nat → Int64} {x : Int64} : ∀ n, foldN (fun r a => a + t r) n x = x + sm t n
  | 0 => by show x = x + 0; rw [Int64.add_zero]
  | n + 1 => by
    show foldN (fun r a => a + t r) n x + t n = x + (sm t n + t n)
    rw [fo_sm n, Int64.add_assoc]
theorem sm_z : ∀ n, sm (fun _ => 0) n = 0
  | 0 => rfl
  | n + 1 => by show sm (fun _ => 0) n + 0 = 0; rw [sm_z n, Int64.add_zero]
theorem sm_sw {u : Nat → Nat → Int64} (R : Nat) : ∀ K, sm (fun k => sm (u k) R) K = sm (fun r => sm (fun k => u k r) K) R
  | 0 => by show (0 : Int64) = sm (fun _ => 0) R; rw [sm_z]
  | K + 1 => by
    show sm (fun k => sm (u k) R) K + sm (u K) R = sm (fun r => sm (fun k => u k r) K + u K r) R
    rw [sm_sw R K, sm_ad]
section P1
variable {h : PH} {lw c p : Nat} {S : StD} {ml : Option Nat}
theorem cls_stay {a n : Nat} (e : PlS h lw S p (sNw S)) (o : SOk c S) (hp : p < nP (sL S)) (ea : hou (sNw S) = nI a) (ha : a ≤ 999) (hn : n ≤ 4) : f_Planner_staying h (some 176) (nI n) = some ((100 * (nI n).toInt64) * (worS (sL S) (cme (sNw S)) p (hel (sNw S) p)).toInt64 + sm (syT (sL S) p a n (hel (sNw S) p)) (nR (sL S))) := by
  have lf := o.lfP hp
  have ok := o.ok lf
  have lb := (o.2.1 lf).2.1
  have okN := o.nk lf
  have h5 := o.P5
  have h6 := o.C5
  have h4 := ok.2.2.2.1
  have hh := (okN p hp).1
  obtain ⟨g0, g1, g2, g3, g4⟩ := e.g
  obtain ⟨r0, r1, r2, r3, r4, r5⟩ := (e.1.2.2.2.1.2.2.2.2.2.2.2.2).1
  unfold f_Planner_staying
  rw [g0, Option.bind_some, g4, Option.bind_some, g2, Option.bind_some, gR_o e.2.1.1 rfl, Option.bind_some, g3, Option.bind_some, e.2.1.2.1.at (by omega) (by decide), Option.bind_some, g1, Option.bind_some, Option.bind_some, cl_o e.2.2.1, cls_worth e.2.2.1.v (e.1.lv ok) ok (e.2.1.v h5) hp hh, Option.bind_some]
  rw [pj_fold0 (fun r a9 => a9 + syT (sL S) p a n (hel (sNw S) p) r) id (nR (sL S)) (by omega) ?_ ?_]
  · rw [Option.bind_some, fo_sm]; rfl
  · intro r x hr
    obtain ⟨q1, q2⟩ := ok.2.2.2.2.2.2.2.1 r hr
    obtain ⟨⟨j, j1, j2, ej⟩, -⟩ := lb.2.1 r hr
    dsimp only
    rw [gI_o r0 rfl, Option.bind_some, if_neg (nI_nle' hr (by omega)), gR_o r0 rfl, Option.bind_some, r3.at (by omega) (by decide), Option.bind_some, Option.bind_some, gI_o e.2.1.1 rfl, Option.bind_some, gR_o r0 rfl, Option.bind_some, r1.at (by omega) (by decide), Option.bind_some, Option.bind_some, nI_s]
    unfold syT
    rw [ej, ea, nI_clamp (by omega)]
    have sb : (nI j - nI a).toInt = (j : Int) - a := pk_sub_toInt (by omega) (by omega)
    by_cases z1 : rpe (sL S) r = p
    · rw [if_neg (by rw [z1]; exact fun q => q rfl), gR_o r0 rfl, Option.bind_some, r2.at (by omega) (by decide), Option.bind_some]
      by_cases z2 : rch (sL S) r = hel (sNw S) p
      · rw [if_neg (by rw [z2]; exact fun q => q rfl)]
        by_cases z3 : a < j
        · have l1 : ¬ (nI j - nI a) ≤ 0 := by
            rw [pk_sub (by omega)]; exact nI_nle (by omega) (by omega)
          rw [if_neg l1]
          by_cases z4 : j < a + n
          · rw [pk_sub (by omega), if_neg (nI_ge (show j - a < n by omega) (by omega)), gR_o r0 rfl, Option.bind_some, r4.at (by omega) (by decide), Option.bind_some, gR_o r0 rfl, Option.bind_some, r5.at (by omega) (by decide), Option.bind_some, if_pos ⟨z1, z2, z3, z4⟩, pk_sub (by omega), nI_l (by omega)]
            congr 4
            generalize lN (n - (j - a)) = y1
            generalize (rod (sL S) r).toInt64 = y2
            generalize (rmo (sL S) r).toInt64 = y3
            grind
          · rw [pk_sub (by omega), if_pos (nI_le (show n ≤ j - a by omega) (by omega)), if_neg (fun q => z4 q.2.2.2), Int64.add_zero]
        · have l1 : (nI j - nI a) ≤ 0 := by
            apply Int32.le_iff_toInt_le.mpr
            rw [sb]
            show (j : Int) - a ≤ 0
            omega
          rw [if_pos l1, if_neg (fun q => z3 q.2.2.1), Int64.add_zero]
      · rw [if_pos (fun q => z2 ((nI_eq (by omega) (by omega)).mp q)), if_neg (fun q => z2 q.2.1), Int64.add_zero]
    · rw [if_pos (fun q => z1 ((nI_eq (by omega) (by omega)).mp q)), if_neg (fun q => z1 q.1), Int64.add_zero]
  · intro x
    dsimp only
    rw [gI_o r0 rfl, Option.bind_some, if_pos (nI_le (Nat.le_refl _) (by omega))]
    rfl
/-- by hours and reasons -/
def syU (L : LawD) (p a n he k r : Nat) : Int64 := if rpe L r = p ∧ (rho L r).toNatClampNeg = a + (k + 1) ∧ rch L r = he then lN (n - (k + 1)) * (rod L r).toInt64 * (rmo L r).toInt64 else 0
theorem sy_sum {L : LawD} {a n he : Nat} : sm (fun k => sm (syU L p a n he k) (nR L)) (n - 1) = sm (syT L p a n he) (nR L) := by
  rw [sm_sw]
  apply sm_cg
  intro r hr
  unfold syT
  generalize hrr : (rho L r).toNatClampNeg = j
  by_cases z : rpe L r = p ∧ rch L r = he ∧ a < j ∧ j < a + n
  · rw [if_pos z]
    rw [sm_cg (u := fun k => if k = j - a - 1 then lN (n - (j - a)) * (rod L r).toInt64 * (rmo L r).toInt64 else 0) (n - 1) (fun k hk => ?_), sm_1, if_pos (by omega)]
    unfold syU
    rw [hrr]
    by_cases y : k = j - a - 1
    · rw [if_pos y, if_pos ⟨z.1, by omega, z.2.1⟩, show n - (k + 1) = n - (j - a) by omega]
    · rw [if_neg y, if_neg (fun q => y (by omega))]
  · rw [if_neg z, sm_cg (u := fun _ => 0) (n - 1) (fun k hk => ?_), sm_z]
    unfold syU
    rw [hrr, if_neg (fun q => z ⟨q.1, q.2.2, by omega, by omega⟩)]
theorem op_stays (o : SOk c S) (hc : c < 600) (x y w : Int32) : Op (fun h => f_T_stays h (some 100) x y w) (fun h => f_M_stays h (some 285) x y w) c S := by
  rcases pt_c o x y with ⟨z, p, n, hp, hn1, hn, rfl, rfl⟩ | ⟨hv, z⟩
  · have lf := o.lfP hp
    have ok := o.ok lf
    have lb := (o.2.1 lf).2.1
    have okN := o.nk lf
    have h5 := o.P5
    have h6 := o.C5
    have h4 := ok.2.2.2.1
    have ng := (o.2.1 lf).2.2.1
    obtain ⟨a, ha, ea⟩ := ng.1
    have b1 : (100 : Int64).toInt.natAbs < 2 ^ 27 := by decide
    have b2 : ¬ (100 : Int64) = 0 := by decide
    refine ⟨frS ((100 * (nI n).toInt64) * (worS (sL S) (cme (sNw S)) p (hel (sNw S) p)).toInt64 + sm (syT (sL S) p a n (hel (sNw S) p)) (nR (sL S))) 100 w, trS S 0, fun h lw e => ?_, fun h ml e => ?_, o.tr _ (by omega) (by omega)⟩
    · obtain ⟨h1, c1, c2, c3⟩ := e.bg p
      obtain ⟨h3, lw3, r1, r2, r3⟩ := c2.1.fm (a := (100 * (nI n).toInt64) * (worS (sL S) (cme (sNw S)) p (hel (sNw S) p)).toInt64 + sm (syT (sL S) p a n (hel (sNw S) p)) (nR (sL S))) b1 b2 w
      refine ⟨h3, lw3, ?_, r2, c3.tr r3⟩
      obtain ⟨F, q0, -⟩ := e.2.2.2.2.2.2.2.1.2.2.1
      show f_T_stays h (some 100) (nI p) (nI n) w = _
      unfold f_T_stays
      rw [e.pt, z, Option.bind_some, if_pos rfl, gR_o e.2.1 rfl, Option.bind_some, gR_o e.2.1 rfl, Option.bind_some, gR_o e.2.1 rfl, Option.bind_some, cl_o q0, c1, Option.bind_some, gR_o c2.1.2.1 rfl, Option.bind_some, c2.cl, cls_stay c2 o hp ea ha hn, Option.bind_some]
      exact r1
    · obtain ⟨h1, s1, s2, s3⟩ := e.st
      obtain ⟨i, m1, m2, m3⟩ := s2.ye lf
      have q1 : gR h1 12 (some 285) 3 = some (some i) := by rw [s2.lwR, m1]
      have r := s2.row lf h5
      have mr := fun j => mod_ra (p := p) q1 (m3.v ok) ok s2.vr r hp j
      have h16 : 2 ^ nR (sL S) ≤ 2 ^ 4 := Nat.pow_le_pow_right (by omega) h4
      have hh := (okN p hp).1
      obtain ⟨⟨-, -, -, -, -, g5, -⟩, -, -, -, -, ⟨-, ⟨a2, ha2, hA2⟩, -, ⟨a4, ha4, hA4⟩, ⟨a5, ha5, hA5⟩⟩, -⟩ := m3.v ok
      obtain ⟨h3, ml3, r1, r2, r3⟩ := s2.fc (a := (100 * (nI n).toInt64) * (worS (sL S) (cme (sNw S)) p (hel (sNw S) p)).toInt64 + sm (syT (sL S) p a n (hel (sNw S) p)) (nR (sL S))) b1 b2 w
      refine ⟨h3, ml3, ?_, r2, s3.tr r3⟩
      show f_M_stays h (some 285) (nI p) (nI n) w = _
      unfold f_M_stays
      rw [s1, Option.bind_some, s2.pt o, z, Option.bind_some, if_pos (by decide), s2.vr, Option.bind_some, nI_z, (r.1 p hp).1, Option.bind_some, Option.bind_some, r.2.1, Option.bind_some, s2.cl, mod_worthR q1 (m3.v ok) ok _ hp hh, Option.bind_some]
      rw [pj_for' (fun k => ((100 * (nI n).toInt64) * (worS (sL S) (cme (sNw S)) p (hel (sNw S) p)).toInt64 + sm (fun k => sm (syU (sL S) p a n (hel (sNw S) p) k) (nR (sL S))) k, nI (k + 1))) ((100 * (nI n).toInt64) * (worS (sL S) (cme (sNw S)) p (hel (sNw S) p)).toInt64 + sm (syT (sL S) p a n (hel (sNw S) p)) (nR (sL S))) (n - 1) (by show _ = (_ + 0, nI 1); rw [Int64.add_zero]; rfl) (by omega) ?_ ?_]
      · rw [Option.bind_some]; exact r1
      · intro k hk
        have hl := ra_lt (L := sL S) (p := p) (hr := hou (sNw S) + nI (k + 1)) (nR (sL S))
        dsimp only
        rw [if_neg (nI_nle' (show k + 1 < n by omega) (by omega)), s2.cl, mr, Option.bind_some]
        have rbt := ra_bit (L := sL S) (p := p) (hr := hou (sNw S) + nI (k + 1)) (nR (sL S))
        generalize hss : raN (sL S) p (hou (sNw S) + nI (k + 1)) (nR (sL S)) = s at *
        rw [pj_fold0 (fun r a9 => a9 + syU (sL S) p a n (hel (sNw S) p) k r) id (nR (sL S)) (by omega) ?_ ?_]
        · rw [Option.bind_some, fo_sm, nI_s]
          show some (Sum.inl (_ + sm (fun k => sm (syU (sL S) p a n (hel (sNw S) p) k) (nR (sL S))) k + sm (syU (sL S) p a n (hel (sNw S) p) k) (nR (sL S)), _)) = some (Sum.inl (_ + (sm (fun k => sm (syU (sL S) p a n (hel (sNw S) p) k) (nR (sL S))) k + sm (syU (sL S) p a n (hel (sNw S) p) k) (nR (sL S))), _))
          rw [Int64.add_assoc]
        · intro r9 x9 hr9
          obtain ⟨q8, q9⟩ := ok.2.2.2.2.2.2.2.1 r9 hr9
          obtain ⟨⟨j, j1, j2, ej⟩, -⟩ := lb.2.1 r9 hr9
          have f2 : aI h1 (some a2) (nI r9) = some (nI (rch (sL S) r9)) := hA2 r9 hr9
          dsimp only
          rw [q1, Option.bind_some, g5, Option.bind_some, if_neg (nI_nle' hr9 (by omega)), mod_bit, Option.bind_some, nI_s]
          unfold syU
          have rb9 := rbt r9
          rw [ea, nI_add, ej, nI_eq (by omega) (by omega)] at rb9
          rw [ej, nI_clamp (by omega)]
          by_cases z1 : s.testBit r9 = true
          · obtain ⟨-, w1, w2⟩ := rb9.mp z1
            rw [if_pos ((bit_d s (by omega) r9 (by omega)).mpr z1), if_neg (by decide), Option.bind_some, ha2, Option.bind_some, f2, Option.bind_some]
            by_cases z2 : rch (sL S) r9 = hel (sNw S) p
            · rw [if_neg (by rw [z2]; exact fun q => q rfl), Option.bind_some, ha4, Option.bind_some, hA4 r9 hr9, Option.bind_some, Option.bind_some, ha5, Option.bind_some, hA5 r9 hr9, Option.bind_some, if_pos ⟨w1, w2, z2⟩, pk_sub (by omega), nI_l (by omega)]
            · rw [if_pos (fun q => z2 ((nI_eq (by omega) (by omega)).mp q)), if_neg (fun q => z2 q.2.2), Int64.add_zero]
          · rw [if_neg (fun q => z1 ((bit_d s (by omega) r9 (by omega)).mp q)), if_pos rfl, if_neg (fun q => z1 (rb9.mpr ⟨hr9, q.1, q.2.1⟩)), Int64.add_zero]
        · intro x9
          dsimp only
          rw [q1, Option.bind_some, g5, Option.bind_some, if_pos (nI_le (Nat.le_refl _) (by omega))]
          rfl
      · dsimp only
        rw [if_pos (nI_le (by omega) (by omega)), sy_sum]
  · refine ⟨-9223372036854775808, trS S (ptS S x y), fun h lw e => ?_, fun h ml e => ?_, o.tr _ (by omega) (by omega)⟩
    · obtain ⟨h1, lw1, r1, r2, r3⟩ := e.rL (ptS S x y)
      refine ⟨h1, lw1, ?_, r2, r3⟩
      show f_T_stays h (some 100) x y w = _
      unfold f_T_stays
      rw [e.pt, Option.bind_some, if_neg z]
      exact r1
    · obtain ⟨h1, s1, s2, s3⟩ := e.st
      obtain ⟨h2, ml2, r1, r2, r3⟩ := s2.nv (ptS S x y) (by rcases hv with q | q <;> rw [q] <;> decide)
      refine ⟨h2, ml2, ?_, r2, s3.tr r3⟩
      show f_M_stays h (some 285) x y w = _
      unfold f_M_stays
      rw [s1, Option.bind_some, s2.pt o, Option.bind_some, if_neg (by rcases hv with q | q <;> rw [q] <;> decide)]
      exact r1
end P1
