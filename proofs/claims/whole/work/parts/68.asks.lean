/-! far, holders, fashion, came, paid, farthest, person, size and what is told -/
def pop6 (n : Nat) : Nat := n % 2 + n / 2 % 2 + n / 4 % 2 + n / 8 % 2 + n / 16 % 2 + n / 32 % 2
theorem bits_T0 : ∀ n, n < 64 → f_Integer_bitCount [] (nI n) = some (nI (pop6 n)) := by decide +kernel
theorem bits_M0 : ∀ n, n < 64 → f_M_bits [] (nI n) = some (nI (pop6 n)) := by decide +kernel
theorem bits_T {n : Nat} (hn : n < 64) (h : PH) : f_Integer_bitCount h (nI n) = some (nI (pop6 n)) := bits_T0 n hn
theorem bits_M {n : Nat} (hn : n < 64) (h : PH) : f_M_bits h (nI n) = some (nI (pop6 n)) := bits_M0 n hn
/-- who holds a choice -/
def holN (N : NowD) (c : Nat) (n : Nat) : Nat := foldN (fun p a => if hel N p = c then a ||| 2 ^ p else a) n 0
theorem holN_lt (N : NowD) (c : Nat) : ∀ n, holN N c n < 2 ^ n
  | 0 => by show 0 < 1; omega
  | n + 1 => by
    show (if hel N n = c then holN N c n ||| 2 ^ n else holN N c n) < _
    have := holN_lt N c n
    split
    · exact Nat.or_lt_two_pow (by rw [Nat.pow_succ]; omega) (Nat.pow_lt_pow_right (by omega) (by omega))
    · rw [Nat.pow_succ]; omega
theorem sh1 : ∀ p, p < 31 → (1 : Int32) <<< (nI p &&& 31) = nI (2 ^ p) := by decide +kernel
theorem nI_or (a b : Nat) : nI a ||| nI b = nI (a ||| b) := by
  apply Int32.toBitVec_inj.mp
  show BitVec.ofNat 32 a ||| BitVec.ofNat 32 b = BitVec.ofNat 32 (a ||| b)
  apply BitVec.eq_of_toNat_eq
  simp [BitVec.toNat_or, BitVec.toNat_ofNat]
section D9
variable {h : PH} {lw m ml a : Nat} {L : LawD} {N : NowD} {p c : Nat} {S : StD}
theorem cls_hol {c : Nat} (e : CI h lw S) (ok : LawOk (sL S)) (okN : NowOk (sL S) (sNw S)) (hc : c < nC (sL S)) : f_T_holding h (some 100) (nI c) = some (nI (holN (sNw S) c (nP (sL S)))) := by
  have h5 := ok.2.2.1
  have h6 := ok.2.1
  obtain ⟨-, ⟨b3, hb3, hB3⟩, -⟩ := e.nv h5
  unfold f_T_holding
  rw [pj_fold (fun p a => if hel (sNw S) p = c then a ||| ((1 : Int32) <<< (nI p &&& 31)) else a) (fun i a => a = nI (holN (sNw S) c i)) id (nP (sL S)) (by omega) (by rfl) ?_ ?_]
  · have : ∀ i, i ≤ nP (sL S) → foldN (fun p a => if hel (sNw S) p = c then a ||| ((1 : Int32) <<< (nI p &&& 31)) else a) i 0 = nI (holN (sNw S) c i) := by
      intro i
      induction i with
      | zero => intro _; rfl
      | succ i ih =>
        intro hi
        show (if hel (sNw S) i = c then _ else _) = nI (if hel (sNw S) i = c then holN (sNw S) c i ||| 2 ^ i else holN (sNw S) c i)
        rw [ih (by omega)]
        split
        · rw [sh1 i (by omega), nI_or]
        · rfl
    rw [this _ (Nat.le_refl _)]
    rfl
  · intro i a hi ha
    have k2 := (okN i hi).1
    have f3 : aI h (some b3) (nI i) = some (nI (hel (sNw S) i)) := hB3 i hi
    refine ⟨?_, ?_⟩
    · dsimp only
      rw [gR_o e.2.1 rfl, Option.bind_some, gI_o e.2.2.2.1.1 rfl, Option.bind_some, if_neg (nI_nle' hi (by omega)), gR_o e.2.1 rfl, Option.bind_some, hb3, Option.bind_some, f3, Option.bind_some, nI_s]
      by_cases z : hel (sNw S) i = c
      · rw [if_neg (by rw [z]; exact fun q => q rfl), if_pos z]
      · rw [if_pos (fun q => z ((nI_eq (by omega) (by omega)).mp q)), if_neg z]
    · subst ha
      show (if hel (sNw S) i = c then _ else _) = nI (if hel (sNw S) i = c then holN (sNw S) c i ||| 2 ^ i else holN (sNw S) c i)
      split
      · rw [sh1 i (by omega), nI_or]
      · rfl
  · intro a ha
    dsimp only
    rw [gR_o e.2.1 rfl, Option.bind_some, gI_o e.2.2.2.1.1 rfl, Option.bind_some, if_pos (nI_le (Nat.le_refl _) (by omega))]
    rfl
theorem mod_hol {c : Nat} (m1 : gR h 12 (some m) 3 = some (some ml)) (hL : MLawV h ml L) (ok : LawOk L) (okN : NowOk L N) (hR : MRow h a (nP L) N) (hv : gR h 12 (some m) 15 = some (some a)) (hc : c < nC L) : f_M_holding h (some m) (nI c) = some (nI (holN N c (nP L))) := by
  have h5 := ok.2.2.1
  have h6 := ok.2.1
  obtain ⟨⟨g0, g1, g2, g3, -⟩, -⟩ := hL
  unfold f_M_holding
  have hst : ∀ i, i < nP L → (if hel N i = c then nI (holN N c i) ||| ((1 : Int32) <<< (nI i &&& 31)) else nI (holN N c i)) = nI (holN N c (i + 1)) := by
    intro i hi
    show _ = nI (if hel N i = c then holN N c i ||| 2 ^ i else holN N c i)
    split
    · rw [sh1 i (by omega), nI_or]
    · rfl
  rw [pj_for' (fun i => (nI (holN N c i), nI i)) (nI (holN N c (nP L))) (nP L) (by rw [nI_0]; rfl) (by omega) ?_ ?_]
  · rfl
  · intro i hi
    have k2 := (okN i hi).1
    dsimp only
    rw [m1, Option.bind_some, g3, Option.bind_some, if_neg (nI_nle' hi (by omega)), hv, Option.bind_some, nI_z, (hR.1 i hi).1, Option.bind_some, nI_s, ← hst i hi]
    by_cases z : hel N i = c
    · rw [if_neg (by rw [z]; exact fun q => q rfl), if_pos z, Option.bind_some]
    · rw [if_pos (fun q => z ((nI_eq (by omega) (by omega)).mp q)), if_neg z, Option.bind_some, Int32.or_zero]
  · dsimp only
    rw [m1, Option.bind_some, g3, Option.bind_some, if_pos (nI_le (Nat.le_refl _) (by omega))]
/-- the choice of most -/
def fasN (L : LawD) (N : NowD) : Nat → Nat
  | 0 => 0
  | i + 1 => if pop6 (holN N (fasN L N i) (nP L)) < pop6 (holN N (i + 1) (nP L)) then i + 1 else fasN L N i
theorem fasN_lt {L : LawD} {N : NowD} : ∀ i, fasN L N i ≤ i
  | 0 => Nat.le_refl _
  | i + 1 => by
    unfold fasN
    split
    · exact Nat.le_refl _
    · have := fasN_lt (L := L) (N := N) i; omega
theorem pop6_lt {n : Nat} : pop6 n < 7 := by unfold pop6; omega
/-- the two that are farthest -/
def fftA (L : LawD) (c0 : Nat) (s : Int32 × Int32) : Nat → Int32 × Int32
  | 0 => s
  | j + 1 => if (fftA L c0 s j).1 < farS L c0 (c0 + 1 + j) then (farS L c0 (c0 + 1 + j), nI (10 * c0 + (c0 + 1 + j))) else fftA L c0 s j
def fftS (L : LawD) : Nat → Int32 × Int32
  | 0 => (0, -2)
  | i + 1 => fftA L i (fftS L i) (nC L - (i + 1))
theorem cls_fft (hL : LawV h lw L) (ok : LawOk L) : f_Law_farthestTwo h (some lw) = some (fftS L (nC L)).2 := by
  have hap := fun (c d : Nat) (hc : c < nC L) (hd : d < nC L) => cls_apart hL ok hc hd
  obtain ⟨⟨g0, g1, g2, g3, g4⟩, -⟩ := hL
  have h5 := ok.2.1
  unfold f_Law_farthestTwo
  rw [pj_for' (fun i => ((fftS L i).1, (fftS L i).2, nI i)) (fftS L (nC L)).2 (nC L) (by rw [nI_0]; rfl) (by omega) ?_ ?_]
  · rfl
  · intro i hi
    dsimp only
    rw [g2, Option.bind_some, if_neg (nI_nle' hi (by omega))]
    rw [pj_for' (fun j => ((fftA L i (fftS L i) j).1, (fftA L i (fftS L i) j).2, nI (i + 1 + j))) (fftS L (i + 1)) (nC L - (i + 1)) (by rw [nI_s]; rfl) (by omega) ?_ ?_]
    · rw [Option.bind_some, nI_s]
    · intro j hj
      dsimp only
      rw [Option.bind_some, if_neg (nI_nle' (show i + 1 + j < nC L by omega) (by omega)), cl_gI g2, hap i (i + 1 + j) hi (by omega), Option.bind_some, nI_s]
      by_cases z : (fftA L i (fftS L i) j).1 < farS L i (i + 1 + j)
      · rw [if_neg (Int32.not_le.mpr z), Option.bind_some, show fftA L i (fftS L i) (j + 1) = (farS L i (i + 1 + j), nI (10 * i + (i + 1 + j))) from if_pos z]
        rw [show (10 : Int32) * nI i + nI (i + 1 + j) = nI (10 * i + (i + 1 + j)) from by rw [show (10 : Int32) = nI 10 from by decide, pk_mul, nI_add]]
        rfl
      · rw [if_pos (Int32.not_lt.mp z), show fftA L i (fftS L i) (j + 1) = fftA L i (fftS L i) j from if_neg z]
        rfl
    · dsimp only
      rw [Option.bind_some, if_pos (nI_le (by omega) (by omega))]
      rfl
  · dsimp only
    rw [g2, Option.bind_some, if_pos (nI_le (Nat.le_refl _) (by omega))]
theorem mod_fft (m1 : gR h 12 (some m) 3 = some (some ml)) (hL : MLawV h ml L) (ok : LawOk L) : pj_it (X := Int32) (fun s3 : Int32 × Int32 × Int32 => (gR h 12 (some m) 3).bind fun v5 => (gI h 11 v5 2).bind fun v6 => if v6 ≤ s3.2.2 then (some (.inr s3.1)) else ((pj_it (X := Int32 × Int32) (fun s7 : Int32 × Int32 × Int32 => (gR h 12 (some m) 3).bind fun v9 => (gI h 11 v9 2).bind fun v10 => if v10 ≤ s7.2.2 then (some (.inr (s7.1, s7.2.1))) else ((gR h 12 (some m) 3).bind fun v11 => (cl h 11 v11 (f_ML_far h v11 s3.2.2 s7.2.2)).bind fun v12 => if s7.2.1 < v12 then ((gR h 12 (some m) 3).bind fun v13 => (cl h 11 v13 (f_ML_far h v13 s3.2.2 s7.2.2)).bind fun v14 => some (.inl ((((10 : Int32) * s3.2.2) + s7.2.2), v14, (s7.2.2 + (1 : Int32))))) else (some (.inl (s7.1, s7.2.1, (s7.2.2 + (1 : Int32))))))) FU (s3.1, s3.2.1, (s3.2.2 + (1 : Int32)))).bind fun x8 => some (.inl (x8.1, x8.2, (s3.2.2 + (1 : Int32)))))) FU ((-2 : Int32), (0 : Int32), (0 : Int32)) = some (fftS L (nC L)).2 := by
  have hap := fun (c d : Nat) (hc : c < nC L) (hd : d < nC L) => mod_far hL ok hc hd
  obtain ⟨⟨g0, g1, g2, g3, g4, -⟩, -⟩ := hL
  have h5 := ok.2.1
  refine pj_for' (fun i => ((fftS L i).2, (fftS L i).1, nI i)) (fftS L (nC L)).2 (nC L) (by rw [nI_0]; rfl) (by omega) ?_ ?_
  · intro i hi
    dsimp only
    rw [m1, Option.bind_some, g2, Option.bind_some, if_neg (nI_nle' hi (by omega))]
    rw [pj_for' (fun j => ((fftA L i (fftS L i) j).2, (fftA L i (fftS L i) j).1, nI (i + 1 + j))) ((fftS L (i + 1)).2, (fftS L (i + 1)).1) (nC L - (i + 1)) (by rw [nI_s]; rfl) (by omega) ?_ ?_]
    · rw [Option.bind_some, nI_s]
    · intro j hj
      dsimp only
      rw [Option.bind_some, g2, Option.bind_some, if_neg (nI_nle' (show i + 1 + j < nC L by omega) (by omega)), Option.bind_some, cl_gI g2, hap i (i + 1 + j) hi (by omega), Option.bind_some, nI_s]
      by_cases z : (fftA L i (fftS L i) j).1 < farS L i (i + 1 + j)
      · rw [if_pos z, Option.bind_some, cl_gI g2, hap i (i + 1 + j) hi (by omega), Option.bind_some, show fftA L i (fftS L i) (j + 1) = (farS L i (i + 1 + j), nI (10 * i + (i + 1 + j))) from if_pos z]
        rw [show (10 : Int32) * nI i + nI (i + 1 + j) = nI (10 * i + (i + 1 + j)) from by rw [show (10 : Int32) = nI 10 from by decide, pk_mul, nI_add]]
        rfl
      · rw [if_neg z, show fftA L i (fftS L i) (j + 1) = fftA L i (fftS L i) j from if_neg z]
        rfl
    · dsimp only
      rw [Option.bind_some, g2, Option.bind_some, if_pos (nI_le (by omega) (by omega))]
      rfl
  · dsimp only
    rw [m1, Option.bind_some, g2, Option.bind_some, if_pos (nI_le (Nat.le_refl _) (by omega))]
/-- all that was spent -/
def spA (N : NowD) (n : Nat) : Int32 := foldN (fun p a => a + spe N p) n 0
theorem spA_ext {n : Nat} (hn : n ≤ 5) (z : ∀ p, n ≤ p → p < 5 → spe N p = 0) : spA N 5 = spA N n := by
  have key : ∀ j, n + j ≤ 5 → spA N (n + j) = spA N n := by
    intro j
    induction j with
    | zero => intro _; rfl
    | succ j ih =>
      intro hj
      show spA N (n + j) + spe N (n + j) = _
      rw [z (n + j) (by omega) (by omega), Int32.add_zero]
      exact ih (by omega)
  have := key (5 - n) (by omega)
  rwa [show n + (5 - n) = 5 by omega] at this
theorem cls_spent {nw : Nat} (hN : NowV h nw 5 N) : f_Now_allSpent h (some nw) = some (spA N 5) := by
  obtain ⟨-, -, -, ⟨b, hb, hB⟩, -⟩ := hN
  unfold f_Now_allSpent
  rw [pj_fold0 (fun p a => a + spe N p) id 5 (by omega) ?_ ?_]
  · rfl
  · intro i a hi
    dsimp only
    rw [show (5 : Int32) = nI 5 from by decide, if_neg (nI_nle' hi (by omega)), hb, Option.bind_some, hB i hi, Option.bind_some, nI_s]
  · intro a
    rfl
end D9
section D10
variable {c : Nat} {S : StD}
theorem op_far (o : SOk c S) (hc : c < 600) (a b : Int32) : Op (fun h => f_T_far h (some 100) a b) (fun h => f_M_far h (some 285) a b) c S := by
  rcases arg_c a (nC (sL S)) (by have := o.C5; omega) with ⟨p, hp, rfl⟩ | ha
  · have lf := o.lfC hp
    have ok := o.ok lf
    rcases arg_c b (nC (sL S)) (by have := o.C5; omega) with ⟨d, hd, rfl⟩ | hb
    · refine ⟨farS (sL S) p d, trS S 0, fun h lw e => ?_, fun h ml e => ?_, o.tr _ (by omega) (by omega)⟩
      · obtain ⟨h2, lw2, r1, r2, r3⟩ := e.fn (farS (sL S) p d)
        refine ⟨h2, lw2, ?_, r2, r3⟩
        show f_T_far h (some 100) (nI p) (nI d) = _
        unfold f_T_far
        rw [e.isC1 hp o.C5, Option.bind_some, if_neg (by decide), e.isC1 hd o.C5, Option.bind_some, if_pos (by decide), gR_o e.2.1 rfl, Option.bind_some, cl_o e.2.2.2.1.1, cls_apart (e.lv ok) ok hp hd, Option.bind_some]
        exact r1
      · obtain ⟨h1, s1, s2, s3⟩ := e.st
        obtain ⟨i, m1, m2, m3⟩ := s2.ye lf
        obtain ⟨h2, ml2, r1, r2, r3⟩ := s2.gd (farS (sL S) p d)
        refine ⟨h2, ml2, ?_, r2, s3.tr r3⟩
        show f_M_far h (some 285) (nI p) (nI d) = _
        unfold f_M_far
        rw [s1, Option.bind_some, s2.isC1 lf hp o.C5, Option.bind_some, if_neg (by decide), s2.isC1 lf hd o.C5, Option.bind_some, if_neg (by decide), s2.lwR, m1, Option.bind_some, cl_gI (m3.v ok).1.1, mod_far (m3.v ok) ok hp hd, Option.bind_some]
        exact r1
    · refine ⟨-1, trS S 1, fun h lw e => ?_, fun h ml e => ?_, o.tr _ (by omega) (by omega)⟩
      · obtain ⟨h1, lw1, r1, r2, r3⟩ := e.rf 1
        refine ⟨h1, lw1, ?_, r2, r3⟩
        show f_T_far h (some 100) (nI p) b = _
        unfold f_T_far
        rw [e.isC1 hp o.C5, Option.bind_some, if_neg (by decide), e.isC0 hb, Option.bind_some, if_neg (fun q => q rfl)]
        exact r1
      · obtain ⟨h1, s1, s2, s3⟩ := e.st
        obtain ⟨h2, ml2, r1, r2, r3⟩ := s2.rf 1 (by decide)
        refine ⟨h2, ml2, ?_, r2, s3.tr r3⟩
        show f_M_far h (some 285) (nI p) b = _
        unfold f_M_far
        rw [s1, Option.bind_some, s2.isC1 lf hp o.C5, Option.bind_some, if_neg (by decide), s2.isC0 hb, Option.bind_some, if_pos rfl]
        exact r1
  · refine ⟨-1, trS S 1, fun h lw e => ?_, fun h ml e => ?_, o.tr _ (by omega) (by omega)⟩
    · obtain ⟨h1, lw1, r1, r2, r3⟩ := e.rf 1
      refine ⟨h1, lw1, ?_, r2, r3⟩
      show f_T_far h (some 100) a b = _
      unfold f_T_far
      rw [e.isC0 ha, Option.bind_some, if_pos rfl]
      exact r1
    · obtain ⟨h1, s1, s2, s3⟩ := e.st
      obtain ⟨h2, ml2, r1, r2, r3⟩ := s2.rf 1 (by decide)
      refine ⟨h2, ml2, ?_, r2, s3.tr r3⟩
      show f_M_far h (some 285) a b = _
      unfold f_M_far
      rw [s1, Option.bind_some, s2.isC0 ha, Option.bind_some, if_pos rfl]
      exact r1
theorem op_holders (o : SOk c S) (hc : c < 600) (a : Int32) : Op (fun h => f_T_holders h (some 100) a) (fun h => f_M_holders h (some 285) a) c S := by
  rcases arg_c a (nC (sL S)) (by have := o.C5; omega) with ⟨d, hd, rfl⟩ | ha
  · have lf := o.lfC hd
    have ok := o.ok lf
    have okN := o.nk lf
    refine ⟨nI (holN (sNw S) d (nP (sL S))), trS S 0, fun h lw e => ?_, fun h ml e => ?_, o.tr _ (by omega) (by omega)⟩
    · obtain ⟨h2, lw2, r1, r2, r3⟩ := e.fn (nI (holN (sNw S) d (nP (sL S))))
      refine ⟨h2, lw2, ?_, r2, r3⟩
      show f_T_holders h (some 100) (nI d) = _
      unfold f_T_holders
      rw [e.isC1 hd o.C5, Option.bind_some, if_neg (by decide), e.cl, cls_hol e ok okN hd, Option.bind_some]
      exact r1
    · obtain ⟨h1, s1, s2, s3⟩ := e.st
      obtain ⟨i, m1, m2, m3⟩ := s2.ye lf
      obtain ⟨h2, ml2, r1, r2, r3⟩ := s2.gd (nI (holN (sNw S) d (nP (sL S))))
      refine ⟨h2, ml2, ?_, r2, s3.tr r3⟩
      show f_M_holders h (some 285) (nI d) = _
      unfold f_M_holders
      rw [s1, Option.bind_some, s2.isC1 lf hd o.C5, Option.bind_some, if_neg (by decide), s2.cl, mod_hol (by rw [s2.lwR, m1]) (m3.v ok) ok okN (s2.row lf o.P5) s2.vr hd, Option.bind_some]
      exact r1
  · refine ⟨-1, trS S 1, fun h lw e => ?_, fun h ml e => ?_, o.tr _ (by omega) (by omega)⟩
    · obtain ⟨h1, lw1, r1, r2, r3⟩ := e.rf 1
      refine ⟨h1, lw1, ?_, r2, r3⟩
      show f_T_holders h (some 100) a = _
      unfold f_T_holders
      rw [e.isC0 ha, Option.bind_some, if_pos rfl]
      exact r1
    · obtain ⟨h1, s1, s2, s3⟩ := e.st
      obtain ⟨h2, ml2, r1, r2, r3⟩ := s2.rf 1 (by decide)
      refine ⟨h2, ml2, ?_, r2, s3.tr r3⟩
      show f_M_holders h (some 285) a = _
      unfold f_M_holders
      rw [s1, Option.bind_some, s2.isC0 ha, Option.bind_some, if_pos rfl]
      exact r1
theorem op_paid (o : SOk c S) (hc : c < 600) : Op (fun h => f_T_paid h (some 100)) (fun h => f_M_paid h (some 285)) c S := by
  cases lf : sLf S with
  | true =>
    have ok := o.ok lf
    have okN := o.nk lf
    have h5 := o.P5
    have h6 := o.C5
    have z := (o.2.1 lf).2.2.1.2.2.2.2
    refine ⟨spA (sNw S) 5, trS S 0, fun h lw e => ?_, fun h ml e => ?_, o.tr _ (by omega) (by omega)⟩
    · obtain ⟨h2, lw2, r1, r2, r3⟩ := e.fn (spA (sNw S) 5)
      refine ⟨h2, lw2, ?_, r2, r3⟩
      show f_T_paid h (some 100) = _
      unfold f_T_paid
      rw [e.lf, bI_t lf, Option.bind_some, if_neg (by decide)]
      rw [gR_o e.2.1 rfl, Option.bind_some, cl_o e.2.2.2.2.2.2.1.1, cls_spent (e.nv (Nat.le_refl _)), Option.bind_some]
      exact r1
    · obtain ⟨h1, s1, s2, s3⟩ := e.st
      obtain ⟨i, m1, m2, m3⟩ := s2.ye lf
      obtain ⟨h3, ml3, r1, r2, r3⟩ := s2.gd (spA (sNw S) 5)
      refine ⟨h3, ml3, ?_, r2, s3.tr r3⟩
      show f_M_paid h (some 285) = _
      unfold f_M_paid
      rw [s1, Option.bind_some, s2.lwR, Option.bind_some, if_neg (by rw [m1]; simp)]
      rw [pj_fold0 (fun p a => a + spe (sNw S) p) id (nP (sL S)) (by omega) ?_ ?_]
      · rw [spA_ext h5 z] at r1 ⊢
        exact r1
      · intro i a hi
        dsimp only
        rw [m1, Option.bind_some, (m3.v ok).1.2.2.2.1, Option.bind_some, if_neg (nI_nle' hi (by omega)), s2.vr, Option.bind_some, nI_10p, ((s2.row lf o.P5).1 i hi).2.2.1, Option.bind_some, nI_s]
      · intro a
        dsimp only
        rw [m1, Option.bind_some, (m3.v ok).1.2.2.2.1, Option.bind_some, if_pos (nI_le (Nat.le_refl _) (by omega))]
        rfl
  | false =>
    refine ⟨-1, trS S 1, fun h lw e => ?_, fun h ml e => ?_, o.tr _ (by omega) (by omega)⟩
    · obtain ⟨h1, lw1, r1, r2, r3⟩ := e.rf 1
      refine ⟨h1, lw1, ?_, r2, r3⟩
      show f_T_paid h (some 100) = _
      unfold f_T_paid
      rw [e.lf, bI_f lf, Option.bind_some, if_pos rfl]
      exact r1
    · obtain ⟨h1, s1, s2, s3⟩ := e.st
      obtain ⟨h2, ml2, r1, r2, r3⟩ := s2.rf 1 (by decide)
      refine ⟨h2, ml2, ?_, r2, s3.tr r3⟩
      show f_M_paid h (some 285) = _
      unfold f_M_paid
      rw [s1, Option.bind_some, s2.lwR, Option.bind_some, if_pos (s2.no lf)]
      exact r1
theorem op_farthest (o : SOk c S) (hc : c < 600) : Op (fun h => f_T_farthest h (some 100)) (fun h => f_M_farthest h (some 285)) c S := by
  cases lf : sLf S with
  | true =>
    have ok := o.ok lf
    have okN := o.nk lf
    have h5 := o.P5
    have h6 := o.C5
    have := 0
    refine ⟨(fftS (sL S) (nC (sL S))).2, trS S 0, fun h lw e => ?_, fun h ml e => ?_, o.tr _ (by omega) (by omega)⟩
    · obtain ⟨h2, lw2, r1, r2, r3⟩ := e.fn ((fftS (sL S) (nC (sL S))).2)
      refine ⟨h2, lw2, ?_, r2, r3⟩
      show f_T_farthest h (some 100) = _
      unfold f_T_farthest
      rw [e.lf, bI_t lf, Option.bind_some, if_neg (by decide)]
      rw [gR_o e.2.1 rfl, Option.bind_some, cl_o e.2.2.2.1.1, cls_fft (e.lv ok) ok, Option.bind_some]
      exact r1
    · obtain ⟨h1, s1, s2, s3⟩ := e.st
      obtain ⟨i, m1, m2, m3⟩ := s2.ye lf
      obtain ⟨h3, ml3, r1, r2, r3⟩ := s2.gd ((fftS (sL S) (nC (sL S))).2)
      refine ⟨h3, ml3, ?_, r2, s3.tr r3⟩
      show f_M_farthest h (some 285) = _
      unfold f_M_farthest
      rw [s1, Option.bind_some, s2.lwR, Option.bind_some, if_neg (by rw [m1]; simp)]
      have w := mod_fft (m := 285) (by rw [s2.lwR, m1]) (m3.v ok) ok
      rw [s2.lwR] at w
      rw [w, Option.bind_some]
      exact r1
  | false =>
    refine ⟨-1, trS S 1, fun h lw e => ?_, fun h ml e => ?_, o.tr _ (by omega) (by omega)⟩
    · obtain ⟨h1, lw1, r1, r2, r3⟩ := e.rf 1
      refine ⟨h1, lw1, ?_, r2, r3⟩
      show f_T_farthest h (some 100) = _
      unfold f_T_farthest
      rw [e.lf, bI_f lf, Option.bind_some, if_pos rfl]
      exact r1
    · obtain ⟨h1, s1, s2, s3⟩ := e.st
      obtain ⟨h2, ml2, r1, r2, r3⟩ := s2.rf 1 (by decide)
      refine ⟨h2, ml2, ?_, r2, s3.tr r3⟩
      show f_M_farthest h (some 285) = _
      unfold f_M_farthest
      rw [s1, Option.bind_some, s2.lwR, Option.bind_some, if_pos (s2.no lf)]
      exact r1
theorem op_fashion (o : SOk c S) (hc : c < 600) : Op (fun h => f_T_fashion h (some 100)) (fun h => f_M_fashion h (some 285)) c S := by
  cases lf : sLf S with
  | true =>
    have ok := o.ok lf
    have okN := o.nk lf
    have h5 := o.P5
    have h6 := o.C5
    have hn : 1 ≤ nC (sL S) := ok.1
    have hb : ∀ d, holN (sNw S) d (nP (sL S)) < 64 := fun d => Nat.lt_of_lt_of_le (holN_lt (sNw S) d (nP (sL S))) (Nat.le_trans (Nat.pow_le_pow_right (by omega) h5) (by decide))
    refine ⟨nI (fasN (sL S) (sNw S) (nC (sL S) - 1)), trS S 0, fun h lw e => ?_, fun h ml e => ?_, o.tr _ (by omega) (by omega)⟩
    · obtain ⟨h2, lw2, r1, r2, r3⟩ := e.fn (nI (fasN (sL S) (sNw S) (nC (sL S) - 1)))
      refine ⟨h2, lw2, ?_, r2, r3⟩
      show f_T_fashion h (some 100) = _
      unfold f_T_fashion
      rw [e.lf, bI_t lf, Option.bind_some, if_pos (by decide)]
      rw [pj_for' (fun i => (nI (fasN (sL S) (sNw S) i), nI (i + 1))) (nI (fasN (sL S) (sNw S) (nC (sL S) - 1))) (nC (sL S) - 1) (by rfl) (by omega) ?_ ?_]
      · rw [Option.bind_some]
        exact r1
      · intro i hi
        have k := fasN_lt (L := sL S) (N := sNw S) i
        dsimp only
        rw [gR_o e.2.1 rfl, Option.bind_some, gI_o e.2.2.2.1.1 rfl, Option.bind_some, if_neg (nI_nle' (by omega) (by omega)), e.cl, cls_hol e ok okN (by omega), Option.bind_some, bits_T (hb _), Option.bind_some, e.cl, cls_hol e ok okN (by omega), Option.bind_some, bits_T (hb _), Option.bind_some, nI_s]
        have p1 := pop6_lt (n := holN (sNw S) (i + 1) (nP (sL S)))
        have p2 := pop6_lt (n := holN (sNw S) (fasN (sL S) (sNw S) i) (nP (sL S)))
        by_cases z : pop6 (holN (sNw S) (fasN (sL S) (sNw S) i) (nP (sL S))) < pop6 (holN (sNw S) (i + 1) (nP (sL S)))
        · rw [if_neg (nI_ge z (by omega)), show fasN (sL S) (sNw S) (i + 1) = i + 1 from if_pos z]
        · rw [if_pos (nI_le (by omega) (by omega)), show fasN (sL S) (sNw S) (i + 1) = fasN (sL S) (sNw S) i from if_neg z]
      · dsimp only
        rw [gR_o e.2.1 rfl, Option.bind_some, gI_o e.2.2.2.1.1 rfl, Option.bind_some, if_pos (nI_le (by omega) (by omega))]
    · obtain ⟨h1, s1, s2, s3⟩ := e.st
      obtain ⟨i, m1, m2, m3⟩ := s2.ye lf
      obtain ⟨h3, ml3, r1, r2, r3⟩ := s2.gd (nI (fasN (sL S) (sNw S) (nC (sL S) - 1)))
      refine ⟨h3, ml3, ?_, r2, s3.tr r3⟩
      show f_M_fashion h (some 285) = _
      unfold f_M_fashion
      rw [s1, Option.bind_some, s2.lwR, Option.bind_some, if_neg (by rw [m1]; simp)]
      rw [pj_for' (fun i => (nI (fasN (sL S) (sNw S) i), nI (i + 1))) (nI (fasN (sL S) (sNw S) (nC (sL S) - 1))) (nC (sL S) - 1) (by rfl) (by omega) ?_ ?_]
      · rw [Option.bind_some]
        exact r1
      · intro i1 hi
        have k := fasN_lt (L := sL S) (N := sNw S) i1
        have w := fun d (hd : d < nC (sL S)) => mod_hol (c := d) (m := 285) (by rw [s2.lwR, m1]) (m3.v ok) ok okN (s2.row lf o.P5) s2.vr hd
        dsimp only
        rw [m1, Option.bind_some, (m3.v ok).1.2.2.1, Option.bind_some, if_neg (nI_nle' (by omega) (by omega)), s2.cl, w _ (by omega), Option.bind_some, bits_M (hb _), Option.bind_some, s2.cl, w _ (by omega), Option.bind_some, bits_M (hb _), Option.bind_some, nI_s]
        have p1 := pop6_lt (n := holN (sNw S) (i1 + 1) (nP (sL S)))
        have p2 := pop6_lt (n := holN (sNw S) (fasN (sL S) (sNw S) i1) (nP (sL S)))
        by_cases z : pop6 (holN (sNw S) (fasN (sL S) (sNw S) i1) (nP (sL S))) < pop6 (holN (sNw S) (i1 + 1) (nP (sL S)))
        · rw [if_neg (nI_ge z (by omega)), show fasN (sL S) (sNw S) (i1 + 1) = i1 + 1 from if_pos z]
        · rw [if_pos (nI_le (by omega) (by omega)), show fasN (sL S) (sNw S) (i1 + 1) = fasN (sL S) (sNw S) i1 from if_neg z]
      · dsimp only
        rw [m1, Option.bind_some, (m3.v ok).1.2.2.1, Option.bind_some, if_pos (nI_le (by omega) (by omega))]
  | false =>
    refine ⟨-1, trS S 1, fun h lw e => ?_, fun h ml e => ?_, o.tr _ (by omega) (by omega)⟩
    · obtain ⟨h1, lw1, r1, r2, r3⟩ := e.rf 1
      refine ⟨h1, lw1, ?_, r2, r3⟩
      show f_T_fashion h (some 100) = _
      unfold f_T_fashion
      rw [e.lf, bI_f lf, Option.bind_some, if_neg (fun q => q rfl)]
      exact r1
    · obtain ⟨h1, s1, s2, s3⟩ := e.st
      obtain ⟨h2, ml2, r1, r2, r3⟩ := s2.rf 1 (by decide)
      refine ⟨h2, ml2, ?_, r2, s3.tr r3⟩
      show f_M_fashion h (some 285) = _
      unfold f_M_fashion
      rw [s1, Option.bind_some, s2.lwR, Option.bind_some, if_pos (s2.no lf)]
      exact r1
theorem op_came (o : SOk c S) (hc : c < 600) (a : Int32) : Op (fun h => f_T_came h (some 100) a) (fun h => f_M_came h (some 285) a) c S := by
  cases lf : sLf S with
  | false =>
    refine ⟨-1, trS S 1, fun h lw e => ?_, fun h ml e => ?_, o.tr _ (by omega) (by omega)⟩
    · obtain ⟨h1, lw1, r1, r2, r3⟩ := e.rf 1
      refine ⟨h1, lw1, ?_, r2, r3⟩
      show f_T_came h (some 100) a = _
      unfold f_T_came
      by_cases z : a < 0
      · rw [if_pos z]; exact r1
      · rw [if_neg z, e.lf, bI_f lf, Option.bind_some, if_pos rfl]
        exact r1
    · obtain ⟨h1, s1, s2, s3⟩ := e.st
      obtain ⟨h2, ml2, r1, r2, r3⟩ := s2.rf 1 (by decide)
      refine ⟨h2, ml2, ?_, r2, s3.tr r3⟩
      show f_M_came h (some 285) a = _
      unfold f_M_came
      rw [s1, Option.bind_some, s2.lwR, Option.bind_some, if_pos (s2.no lf)]
      exact r1
  | true =>
    have ok := o.ok lf
    have h4 := ok.2.2.2.1
    rcases arg_c a (nR (sL S)) (by omega) with ⟨k, hk, rfl⟩ | ha
    · refine ⟨if ((cme (sNw S) >>> (nI k &&& 31)) &&& (1 : Int32)) = 1 then 1 else 0, trS S 0, fun h lw e => ?_, fun h ml e => ?_, o.tr _ (by omega) (by omega)⟩
      · obtain ⟨h2, lw2, r1, r2, r3⟩ := e.fn (if ((cme (sNw S) >>> (nI k &&& 31)) &&& (1 : Int32)) = 1 then 1 else 0)
        refine ⟨h2, lw2, ?_, r2, r3⟩
        show f_T_came h (some 100) (nI k) = _
        unfold f_T_came
        rw [if_neg (nI_pos (by omega)), e.lf, bI_t lf, Option.bind_some, if_neg (by decide), gR_o e.2.1 rfl, Option.bind_some, gR_o e.2.2.2.1.1 rfl, Option.bind_some, gI_o e.2.2.2.1.2.2.2.2.2.2.2.2.1.1 rfl, Option.bind_some, if_pos (nI_lt hk (by omega)), gR_o e.2.1 rfl, Option.bind_some, cl_o e.2.2.2.2.2.2.1.1, cls_hasCome (N := sNw S) (e.nv (Nat.le_refl 5)).1.2.2, Option.bind_some]
        by_cases z : ((cme (sNw S) >>> (nI k &&& 31)) &&& (1 : Int32)) = 1
        · rw [if_pos z] at r1 ⊢
          exact r1
        · rw [if_neg z] at r1 ⊢
          exact r1
      · obtain ⟨h1, s1, s2, s3⟩ := e.st
        obtain ⟨i, m1, m2, m3⟩ := s2.ye lf
        obtain ⟨h3, ml3, r1, r2, r3⟩ := s2.gd (if ((cme (sNw S) >>> (nI k &&& 31)) &&& (1 : Int32)) = 1 then 1 else 0)
        refine ⟨h3, ml3, ?_, r2, s3.tr r3⟩
        show f_M_came h (some 285) (nI k) = _
        unfold f_M_came
        rw [s1, Option.bind_some, s2.lwR, Option.bind_some, if_neg (by rw [m1]; simp), if_neg (nI_pos (by omega)), m1, Option.bind_some, (m3.v ok).1.2.2.2.2.2.1, Option.bind_some, if_pos (nI_lt hk (by omega)), s2.vr, Option.bind_some, (s2.row lf o.P5).2.1, Option.bind_some, mod_bit, Option.bind_some]
        by_cases z : ((cme (sNw S) >>> (nI k &&& 31)) &&& (1 : Int32)) = 1
        · rw [if_pos z] at r1 ⊢
          exact r1
        · rw [if_neg z] at r1 ⊢
          exact r1
    · refine ⟨-1, trS S 1, fun h lw e => ?_, fun h ml e => ?_, o.tr _ (by omega) (by omega)⟩
      · obtain ⟨h1, lw1, r1, r2, r3⟩ := e.rf 1
        refine ⟨h1, lw1, ?_, r2, r3⟩
        show f_T_came h (some 100) a = _
        unfold f_T_came
        by_cases z : a < 0
        · rw [if_pos z]; exact r1
        · rw [if_neg z, e.lf, bI_t lf, Option.bind_some, if_neg (by decide), gR_o e.2.1 rfl, Option.bind_some, gR_o e.2.2.2.1.1 rfl, Option.bind_some, gI_o e.2.2.2.1.2.2.2.2.2.2.2.2.1.1 rfl, Option.bind_some, if_neg (fun q => ha ⟨Int32.not_lt.mp z, q⟩)]
          exact r1
      · obtain ⟨h1, s1, s2, s3⟩ := e.st
        obtain ⟨i, m1, m2, m3⟩ := s2.ye lf
        obtain ⟨h3, ml3, r1, r2, r3⟩ := s2.rf 1 (by decide)
        refine ⟨h3, ml3, ?_, r2, s3.tr r3⟩
        show f_M_came h (some 285) a = _
        unfold f_M_came
        rw [s1, Option.bind_some, s2.lwR, Option.bind_some, if_neg (by rw [m1]; simp)]
        by_cases z : a < 0
        · rw [if_pos z]; exact r1
        · rw [if_neg z, m1, Option.bind_some, (m3.v ok).1.2.2.2.2.2.1, Option.bind_some, if_neg (fun q => ha ⟨Int32.not_lt.mp z, q⟩)]
          exact r1
end D10
