/-! feed -/
def byF (v : Int32) (j : Nat) : Int32 := (Int32.toInt8 (v >>> (nI (24 - 8 * j) &&& 31))).toInt32
theorem i8_8 (x : Int8) : Int32.toInt8 x.toInt32 = x := by simp
theorem sh_same (v : Int32) : ∀ s, s < 32 → ∀ i, i < 8 → s + i < 32 → True := fun _ _ _ _ _ => trivial
theorem by_sh {s : Nat} (v : Int32) (hs : s = 0 ∨ s = 8 ∨ s = 16 ∨ s = 24) : Int32.toInt8 ((v.toUInt32 >>> ((nI s).toUInt32 &&& Int32.toUInt32 31)).toInt32) = Int32.toInt8 (v >>> (nI s &&& 31)) := by
  apply Int8.toBitVec_inj.mp
  have h1 : ∀ k : Nat, k ≤ 24 → (v.toBitVec >>> k).setWidth 8 = (v.toBitVec.sshiftRight k).setWidth 8 := by
    intro k hk
    apply BitVec.eq_of_getLsbD_eq
    intro i hi
    simp only [BitVec.getLsbD_setWidth, BitVec.getLsbD_ushiftRight, BitVec.getLsbD_sshiftRight]
    have h2 : k + i < 32 := by omega
    have h3 : ¬ 32 ≤ i := by omega
    simp [h2, h3]
  have a1 : ∀ k : Nat, k = 0 ∨ k = 8 ∨ k = 16 ∨ k = 24 → (((nI k).toUInt32 &&& Int32.toUInt32 31).toBitVec % 32).toNat = k := by
    rintro k (rfl | rfl | rfl | rfl) <;> decide +kernel
  have a2 : ∀ k : Nat, k = 0 ∨ k = 8 ∨ k = 16 ∨ k = 24 → ((nI k &&& 31).toBitVec.smod 32).toNat = k := by
    rintro k (rfl | rfl | rfl | rfl) <;> decide +kernel
  have e1 : ((v.toUInt32 >>> ((nI s).toUInt32 &&& Int32.toUInt32 31)).toInt32).toBitVec = v.toBitVec >>> s := by
    show v.toBitVec >>> (((nI s).toUInt32 &&& Int32.toUInt32 31).toBitVec % 32) = _
    rw [BitVec.ushiftRight_eq', a1 s hs]
  have e2 : (v >>> (nI s &&& 31)).toBitVec = v.toBitVec.sshiftRight s := by
    show BitVec.sshiftRight' v.toBitVec ((nI s &&& 31).toBitVec.smod 32) = _
    rw [BitVec.sshiftRight_eq', a2 s hs]
  rw [Int32.toBitVec_toInt8, Int32.toBitVec_toInt8, e1, e2, BitVec.signExtend_eq_setWidth_of_le _ (by omega), BitVec.signExtend_eq_setWidth_of_le _ (by omega)]
  exact h1 s (by omega)
def tpS (S : StD) (n : Nat) (tx : Nat → Int32) : StD := ((n, tx), S.2)
def sh4 (i : Nat) : Int32 := if i = 0 then 24 else if i = 1 then 16 else if i = 2 then 8 else if i = 3 then 0 else -8
theorem sh4_s : ∀ i, i < 4 → ¬ sh4 i < 0 ∧ sh4 i + (-8) = sh4 (i + 1) ∧ sh4 i = nI (24 - 8 * i) := by decide +kernel
section K1
variable {h h1 : PH} {lw c n : Nat} {S : StD} {ml : Option Nat} {tx : Nat → Int32}
theorem CI.tp (e : CI h lw S) (f : Fr h h1 100 102) (o : ObjC h1 (nI n) lw (233 - lw) (bI (sLf S)) (sTr S) (sFa S) (sPl S)) (t : Fo h1 101 52 900 (fun k => .inl (tx k))) : CI h1 lw (tpS S n tx) := by
  obtain ⟨hl, e0, e1, e2, ⟨L1, e3⟩, e4, e5, e6, e7⟩ := e
  exact ⟨hl, o, t, f.lc (LawC.lc _ _) (by omega) e2, ⟨L1, f.lc (LawC.lc _ _) (by omega) e3⟩, f.lc RdC.lc (by omega) e4, f.lc (NowC.lc _ _) (by omega) e5, f.lc ScC.lc (by omega) e6, f.lc (PaC.lc _) (by omega) e7⟩
theorem upF_I {f : Nat → Int32} {k : Nat} {x : Int32} : (fun q => upF (fun k => .inl (f k)) k (.inl x) q) = fun q => (.inl (up1 f k x q) : PV) := by
  funext q
  unfold upF up1
  split <;> rfl
theorem cls_four (e : CI h lw S) (hn : sTn S + 4 ≤ 900) (v : Int32) : ∃ h1, cl h 10 (some 100) (f_T_tapeFour h (some 100) v) = some h1 ∧ CI h1 lw (tpS S (sTn S + 4) (wrI (sTx S) (byF v) (sTn S) 4)) ∧ Fr h h1 100 102 := by
  obtain ⟨x, l1, l2, l3⟩ := pj_inv (step := fun s1 : Int32 × PH => if s1.1 < 0 then (some (.inr s1.2) : Option ((Int32 × PH) ⊕ PH)) else ((gI s1.2 10 (some 100) 1).bind fun v3 => if (900 : Int32) ≤ v3 then (some (.inr s1.2)) else ((gR s1.2 10 (some 100) 0).bind fun v4 => (gI s1.2 10 (some 100) 1).bind fun v5 => (sA s1.2 52 v4 v5 (.inl (Int32.toInt8 ((Int32.toInt8 (((v).toUInt32 >>> ((s1.1).toUInt32 &&& Int32.toUInt32 31)).toInt32)).toInt32)).toInt32)).bind fun h6 => (gI h6 10 (some 100) 1).bind fun v7 => (sF h6 10 (some 100) 1 (.inl (v7 + (1 : Int32)))).bind fun h8 => some (.inl ((s1.1 + (-8 : Int32)), h8))))) (fun i s => s.1 = sh4 i ∧ CI s.2 lw (tpS S (sTn S + i) (wrI (sTx S) (byF v) (sTn S) i)) ∧ Fr h s.2 100 102) (fun x => CI x lw (tpS S (sTn S + 4) (wrI (sTx S) (byF v) (sTn S) 4)) ∧ Fr h x 100 102) 4 (s0 := ((24 : Int32), h)) (by omega) ⟨rfl, by rw [wrI_0]; exact e, Fr.rf⟩ (by
      rintro i ⟨s1, s2⟩ hi ⟨x1, x2, x3⟩
      dsimp only at x1 x2 x3 ⊢
      subst x1
      left
      obtain ⟨q1, q2, q3⟩ := sh4_s i hi
      have o2 : ObjC s2 (nI (sTn S + i)) lw (233 - lw) (bI (sLf S)) (sTr S) (sFa S) (sPl S) := x2.2.1
      obtain ⟨h2, y1, y2, y3⟩ := x2.2.2.1.aset (k := sTn S + i) (by omega) (by decide) (.inl (byF v i))
      have o3 := (y3.2 100 (by omega)).trans o2
      rw [if_neg q1, gI_o o2 rfl, Option.bind_some, show (900 : Int32) = nI 900 from by decide, if_neg (nI_ge (show sTn S + i < 900 by omega) (by omega)), gR_o o2 rfl, Option.bind_some, Option.bind_some, q3, by_sh v (by omega), i8_8]
      rw [show (Int32.toInt8 (v >>> (nI (24 - 8 * i) &&& 31))).toInt32 = byF v i from rfl, y1, Option.bind_some, gI_o o3 rfl, Option.bind_some, sF_o o3 (by simp), Option.bind_some, ← q3, q2]
      refine ⟨_, rfl, rfl, ?_, x3.tr ((y3.wd (by omega) (by omega)).tr (Fr.st.wd (by omega) (by omega)))⟩
      refine x2.tp ((y3.wd (by omega) (by omega)).tr (Fr.st.wd (by omega) (by omega))) ?_ ?_
      · unfold ObjC
        rw [st_o o3, nI_s]
        rfl
      · refine Fo.gt (y2.fr Fr.st (by omega)) (fun k hk => ?_)
        exact (congrFun (upF_I (f := wrI (sTx S) (byF v) (sTn S) i) (k := sTn S + i) (x := byF v i)) k).trans (by rw [wrI_s])) (by
      rintro ⟨s1, s2⟩ ⟨x1, x2, x3⟩
      dsimp only at x1 x2 x3 ⊢
      subst x1
      rw [if_pos (show sh4 4 < 0 by decide)]
      exact ⟨_, rfl, x2, x3⟩)
  refine ⟨x, ?_, l2, l3⟩
  rw [e.cl]
  unfold f_T_tapeFour
  rw [l1, Option.bind_some]
def fdG (a b d e f : Int32) (j : Nat) : Int32 := byF (if 4 ≤ j then (if 8 ≤ j then (if 12 ≤ j then (if 16 ≤ j then f else e) else d) else b) else a) (j % 4)
theorem fd_eq {a b d e f : Int32} {n : Nat} : wrI (wrI (wrI (wrI (wrI tx (byF a) n 4) (byF b) (n + 4) 4) (byF d) (n + 4 + 4) 4) (byF e) (n + 4 + 4 + 4) 4) (byF f) (n + 4 + 4 + 4 + 4) 4 = wrI tx (fdG a b d e f) n 20 := by
  funext k
  unfold wrI fdG
  by_cases z : n ≤ k ∧ k < n + 20
  · rw [if_pos z]
    obtain ⟨j, rfl⟩ : ∃ j, k = n + j := ⟨k - n, by omega⟩
    have hj : j < 20 := by omega
    rw [show n + j - n = j by omega]
    by_cases q4 : 16 ≤ j
    · rw [if_pos (by omega), if_pos (by omega), if_pos (by omega), if_pos (by omega), if_pos (by omega)]
      congr 1; omega
    · rw [if_neg (by omega)]
      by_cases q3 : 12 ≤ j
      · rw [if_pos (by omega), if_pos (by omega), if_pos (by omega), if_pos (by omega), if_neg q4]
        congr 1; omega
      · rw [if_neg (by omega)]
        by_cases q2 : 8 ≤ j
        · rw [if_pos (by omega), if_pos (by omega), if_pos (by omega), if_neg q3]
          congr 1; omega
        · rw [if_neg (by omega)]
          by_cases q1 : 4 ≤ j
          · rw [if_pos (by omega), if_pos q1, if_neg q2]
            congr 1; omega
          · rw [if_neg (by omega), if_pos (by omega), if_neg q1]
            congr 1; omega
  · rw [if_neg z, if_neg (by omega), if_neg (by omega), if_neg (by omega), if_neg (by omega), if_neg (by omega)]
theorem mod_j {a b d e f : Int32} {j : Nat} (hj : j < 20) : (if (4 : Int32) ≤ nI j then (if (8 : Int32) ≤ nI j then (if (12 : Int32) ≤ nI j then (if (16 : Int32) ≤ nI j then (some f) else (some e)) else (some d)) else (some b)) else (some a) : Option (Int32)) = some (if 4 ≤ j then (if 8 ≤ j then (if 12 ≤ j then (if 16 ≤ j then f else e) else d) else b) else a) := by
  have q : ∀ m, m < 100 → ((nI m ≤ nI j) ↔ m ≤ j) := fun m hm => nI_leI (by omega) (by omega)
  rw [show (4 : Int32) = nI 4 from rfl, show (8 : Int32) = nI 8 from rfl, show (12 : Int32) = nI 12 from rfl, show (16 : Int32) = nI 16 from rfl]
  simp only [q 4 (by omega), q 8 (by omega), q 12 (by omega), q 16 (by omega)]
  by_cases q1 : 4 ≤ j
  · by_cases q2 : 8 ≤ j
    · by_cases q3 : 12 ≤ j
      · by_cases q4 : 16 ≤ j <;> simp [q1, q2, q3, q4]
      · simp [q1, q2, q3]
    · simp [q1, q2]
  · simp [q1]
theorem mod_s : ∀ j, j < 20 → (24 : Int32) - ((8 : Int32) * (nI j - nI j / (4 : Int32) * (4 : Int32))) = nI (24 - 8 * (j % 4)) := by decide +kernel
theorem op_feed (o : SOk c S) (hc : c < 600) (a b d e f : Int32) : Op (fun h => f_T_feed h (some 100) a b d e f) (fun h => f_M_feed h (some 285) a b d e f) c S := by
  obtain ⟨ht, ⟨q, hq⟩, hby⟩ := o.1
  by_cases z : sTn S + 20 ≤ 900
  · have k1 : nI (sTn S) + (20 : Int32) ≤ 900 := by
      rw [show (20 : Int32) = nI 20 from rfl, nI_add]
      exact nI_le (b := 900) z (by omega)
    refine ⟨nI (sTn S + 20), tpS S (sTn S + 20) (wrI (sTx S) (fdG a b d e f) (sTn S) 20), fun h lw e0 => ?_, fun h ml e0 => ?_, ?_⟩
    · obtain ⟨h1, a1, a2, a3⟩ := cls_four e0 (by omega) a
      obtain ⟨h2, b1, b2, b3⟩ := cls_four a2 (by show sTn S + 4 + 4 ≤ 900; omega) b
      obtain ⟨h3, c1, c2, c3⟩ := cls_four b2 (by show sTn S + 4 + 4 + 4 ≤ 900; omega) d
      obtain ⟨h4, d1, d2, d3⟩ := cls_four c2 (by show sTn S + 4 + 4 + 4 + 4 ≤ 900; omega) e
      obtain ⟨h5, g1, g2, g3⟩ := cls_four d2 (by show sTn S + 4 + 4 + 4 + 4 + 4 ≤ 900; omega) f
      have g4 : CI h5 lw (tpS S (sTn S + 20) (wrI (sTx S) (fdG a b d e f) (sTn S) 20)) := by
        rw [← fd_eq]; exact g2
      refine ⟨h5, lw, ?_, g4, ((((a3.tr b3).tr c3).tr d3).tr g3).wd (by omega) (by omega)⟩
      show f_T_feed h (some 100) a b d e f = _
      unfold f_T_feed
      rw [gI_o e0.2.1 rfl, Option.bind_some, if_pos k1, a1, Option.bind_some, b1, Option.bind_some, c1, Option.bind_some, d1, Option.bind_some, g1, Option.bind_some, gI_o g4.2.1 rfl, Option.bind_some]
      rfl
    · obtain ⟨h1, s1, s2, s3⟩ := e0.st
      have key : ∃ x, pj_it (X := PH) (fun s3 : Int32 × PH => if (20 : Int32) ≤ s3.1 then (some (.inr s3.2)) else ((if (4 : Int32) ≤ s3.1 then (if (8 : Int32) ≤ s3.1 then (if (12 : Int32) ≤ s3.1 then (if (16 : Int32) ≤ s3.1 then (some f) else (some e)) else (some d)) else (some b)) else (some a) : Option (Int32)).bind fun j5 => (gR s3.2 12 (some 285) 5).bind fun v6 => (gI s3.2 12 (some 285) 6).bind fun v7 => if (4 : Int32) = 0 then none else ((sA s3.2 52 v6 v7 (.inl (Int32.toInt8 ((Int32.toInt8 (j5 >>> (((24 : Int32) - ((8 : Int32) * (s3.1 - s3.1 / (4 : Int32) * (4 : Int32)))) &&& 31))).toInt32)).toInt32)).bind fun h8 => (gI h8 12 (some 285) 6).bind fun v9 => (sF h8 12 (some 285) 6 (.inl (v9 + (1 : Int32)))).bind fun h10 => some (.inl ((s3.1 + (1 : Int32)), h10))))) FU ((0 : Int32), h1) = some x ∧ Mst x ml (tpS S (sTn S + 20) (wrI (sTx S) (fdG a b d e f) (sTn S) 20)) ∧ Fr h x 285 295 := by
        refine pj_inv (fun i s => s.1 = nI i ∧ Mst s.2 ml (tpS S (sTn S + i) (wrI (sTx S) (fdG a b d e f) (sTn S) i)) ∧ Fr h s.2 285 295) (fun x => Mst x ml (tpS S (sTn S + 20) (wrI (sTx S) (fdG a b d e f) (sTn S) 20)) ∧ Fr h x 285 295) 20 (by omega) ⟨rfl, by rw [wrI_0]; exact s2, s3⟩ ?_ ?_
        · rintro i ⟨t1, t2⟩ hi ⟨x1, x2, x3⟩
          dsimp only at x1 x2 x3 ⊢
          subst x1
          left
          obtain ⟨F, e0, e1, ⟨e2, e3, e4, e5⟩, e6, e7⟩ := x2
          obtain ⟨h2, y1, y2, y3⟩ := e2.aset (k := sTn S + i) (by omega) (by decide) (.inl (fdG a b d e f i))
          have q0 := e0.fr y3 (by omega)
          obtain ⟨h3, w1, w2, w3⟩ := q0.set (k := 6) (by omega) (.inl (nI (sTn S + (i + 1))))
          rw [if_neg (show ¬ (20 : Int32) ≤ nI i from nI_nle' (b := 20) hi (by omega)), mod_j hi, Option.bind_some, e0.gr (by omega) e1.2.2.2.1, Option.bind_some, e0.gi (x := nI (sTn S + i)) (by omega) e1.2.2.2.2.1, Option.bind_some, if_neg (by decide), mod_s i hi, i8_8]
          rw [show (Int32.toInt8 ((if 4 ≤ i then (if 8 ≤ i then (if 12 ≤ i then (if 16 ≤ i then f else e) else d) else b) else a) >>> (nI (24 - 8 * (i % 4)) &&& 31))).toInt32 = fdG a b d e f i from rfl, y1, Option.bind_some, q0.gi (x := nI (sTn S + i)) (by omega) e1.2.2.2.2.1, Option.bind_some, nI_s, show sTn S + i + 1 = sTn S + (i + 1) from rfl, w1, Option.bind_some, nI_s]
          have gg : ∀ k, k ≠ 285 → k ≠ 286 → h3[k]? = t2[k]? := fun k p q => (w3.2 k (by omega)).trans (y3.2 k (by omega))
          refine ⟨_, rfl, rfl, ⟨_, w2, ?_, ⟨?_, ?_, ?_, ?_⟩, ?_, e7.lt (fun k p q => gg k (by omega) (by omega))⟩, (x3.tr (y3.wd (by omega) (by omega))).tr (w3.wd (by omega) (by omega))⟩
          · obtain ⟨a1, a2, a3, a4, a5, a6, a7, a8, a9, a10, a11, a12, a13, a14, a15, a16⟩ := e1
            exact ⟨a1, a2, a3, a4, rfl, a6, a7, a8, a9, a10, a11, a12, a13, a14, a15, a16⟩
          · refine (y2.fr w3 (by omega)).gt (fun k hk => ?_)
            exact (congrFun (upF_I (f := wrI (sTx S) (fdG a b d e f) (sTn S) i) (k := sTn S + i) (x := fdG a b d e f i)) k).trans (by rw [wrI_s]; rfl)
          · obtain ⟨f3, e3, e3'⟩ := e3
            exact ⟨f3, (gg _ (by omega) (by omega)).trans e3, e3'⟩
          · obtain ⟨f3, e3, e3'⟩ := e4
            exact ⟨f3, (gg _ (by omega) (by omega)).trans e3, e3'⟩
          · obtain ⟨f3, e3, e3'⟩ := e5
            exact ⟨f3, (gg _ (by omega) (by omega)).trans e3, e3'⟩
          · exact MSc.lc _ _ (fun k p q => gg k (by omega) (by omega)) e6
        · rintro ⟨t1, t2⟩ ⟨x1, x2, x3⟩
          dsimp only at x1 x2 x3 ⊢
          subst x1
          rw [if_pos (show (20 : Int32) ≤ nI 20 by decide)]
          exact ⟨_, rfl, x2, x3⟩
      obtain ⟨x, l1, l2, l3⟩ := key
      refine ⟨x, ml, ?_, l2, l3⟩
      obtain ⟨F, e0, e1, -⟩ := l2
      obtain ⟨F1, e10, e11, -⟩ := s2
      show f_M_feed h (some 285) a b d e f = _
      unfold f_M_feed
      rw [s1, Option.bind_some, e10.gi (by omega) e11.2.2.2.2.1, Option.bind_some, if_pos k1, l1, Option.bind_some, e0.gi (x := nI (sTn S + 20)) (by omega) e1.2.2.2.2.1, Option.bind_some]
    · obtain ⟨a1, a2, a3, a4, a5, a6⟩ := o.up hc
      refine ⟨⟨z, ⟨q + 1, by show sTn S + 20 = _; omega⟩, fun k => ?_⟩, a2, a3, a4, a5, a6⟩
      show (wrI (sTx S) (fdG a b d e f) (sTn S) 20 k).toInt8.toInt32 = wrI (sTx S) (fdG a b d e f) (sTn S) 20 k
      by_cases w : sTn S ≤ k ∧ k < sTn S + 20
      · rw [show wrI (sTx S) (fdG a b d e f) (sTn S) 20 k = fdG a b d e f (k - sTn S) from if_pos w]
        unfold fdG byF
        rw [i8_8]
      · rw [show wrI (sTx S) (fdG a b d e f) (sTn S) 20 k = sTx S k from if_neg w]
        exact hby k
  · have k1 : ¬ nI (sTn S) + (20 : Int32) ≤ 900 := by
      rw [show (20 : Int32) = nI 20 from rfl, nI_add]
      exact nI_ge (a := 900) (by omega) (by omega)
    refine ⟨-1, S, fun h lw e0 => ?_, fun h ml e0 => ?_, o.up hc⟩
    · refine ⟨h, lw, ?_, e0, Fr.rf⟩
      show f_T_feed h (some 100) a b d e f = _
      unfold f_T_feed
      rw [gI_o e0.2.1 rfl, Option.bind_some, if_neg k1]
    · obtain ⟨h1, s1, s2, s3⟩ := e0.st
      refine ⟨h1, ml, ?_, s2, s3⟩
      obtain ⟨F1, e10, e11, -⟩ := s2
      show f_M_feed h (some 285) a b d e f = _
      unfold f_M_feed
      rw [s1, Option.bind_some, e10.gi (by omega) e11.2.2.2.2.1, Option.bind_some, if_neg k1]
end K1
