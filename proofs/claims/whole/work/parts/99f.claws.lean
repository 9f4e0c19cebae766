/-! the class: laws -/
/-- a text with a fault -/
def lwF (S : StD) (f : Nat × Nat) : StD := ((0, sTx S), S.2.1, S.2.2.1, S.2.2.2.1, (4, nI f.1, nI f.2))
/-- a text without one -/
def lwG (S : StD) (L : LawD) : StD := ((0, sTx S), (true, L), bgN L, ((0, 0), kep (sP S), mkd (sP S)), (0, 0, sPl S))
theorem sF_s {h : PH} {t i k : Nat} {fs : List PV} (e : h[i]? = some (t, fs)) (f : k < fs.length) (v : PV) : ∃ h1, sF h t (some i) k v = some h1 ∧ h1[i]? = some (t, fs.set k v) ∧ Fr h h1 i (i + 1) := ⟨_, sF_o e f, st_o e, Fr.st⟩
section Y8
variable {h : PH} {lw c : Nat} {S : StD}
theorem Fq.fr {h h1 : PH} {sp : Nat} (a : Fq h h1 sp) (hs : sp = 102 ∨ sp = 131) : Fr h h1 102 165 := ⟨a.1, fun i q => a.2 i (by omega) (by omega)⟩
theorem cls_lawsN (e : CI h lw S) {a : Int32} (hp : a < 0 ∨ ¬ a ≤ nI (sTn S)) : ∃ h1, f_T_laws h (some 100) a = some (-1, h1) ∧ CI h1 lw (trS S 2) ∧ Fr h h1 100 285 := by
  obtain ⟨h1, x1, x2, x3⟩ := refuseQ e.2.1 2
  have w : ((cl h 10 (some 100) (f_T_refuse h (some 100) (2 : Int32))).bind fun v => some (v.1, v.2)) = some (-1, h1) := by rw [e.cl, x1]; rfl
  refine ⟨h1, ?_, e.ob x3 x2, x3.wd (by omega) (by omega)⟩
  unfold f_T_laws
  by_cases z : a < 0
  · rw [if_pos z]; exact w
  · rw [if_neg z, gI_o e.2.1 rfl, Option.bind_some, if_neg (hp.resolve_left z)]; exact w
theorem cls_laws (e : CI h lw S) (hT : sTn S ≤ 900) {m : Nat} (hm : m ≤ sTn S) : ∃ h1 x L0, f_T_laws h (some 100) (nI m) = some (x, h1) ∧ Fr h h1 100 285 ∧ (∀ f, oRead (sTx S) m (wpL L0) = .inl f → 0 < f.1 ∧ f.1 < 100 ∧ x = -1 ∧ CI h1 lw (lwF S f)) ∧ (∀ B, oRead (sTx S) m (wpL L0) = .inr B → x = nI (nP B.2.2) ∧ CI h1 (233 - lw) (lwG S B.2.2) ∧ ∃ N1, LawI B.2.2 N1 B.2.1 ∧ 0 < nC B.2.2) := by
  obtain ⟨hl, e0, e1, e2, ⟨L0, e3⟩, e4, e5, e6, e7⟩ := id e
  have hs : 233 - lw = 102 ∨ 233 - lw = 131 := by omega
  -- the tape is empty
  have o3 : ∃ h3, sF h 10 (some 100) 1 (.inl (0 : Int32)) = some h3 ∧ ObjC h3 0 lw (233 - lw) (bI (sLf S)) (sTr S) (sFa S) (sPl S) ∧ Fr h h3 100 101 := ⟨_, sF_o e0 (by simp), by unfold ObjC; rw [st_o e0]; rfl, Fr.st⟩
  obtain ⟨h3, s3, o3, F3⟩ := o3
  have t3 := (show Fo h 101 52 900 (fun k => .inl (sTx S k)) from e1).fr F3 (by omega)
  obtain ⟨h6, x, s6, q6, r6, g6, b6⟩ := rd_read (F3.lc RdC.lc (by omega) e4) t3 (n := m) (by omega) hs (F3.lc (LawC.lc _ _) (by omega) e3)
  have f6 := q6.fr hs
  have o6 : ObjC h6 0 lw (233 - lw) (bI (sLf S)) (sTr S) (sFa S) (sPl S) := (f6.2 _ (by omega)).trans o3
  have o7 : ∃ h7, sF h6 10 (some 100) 13 (.inl x) = some h7 ∧ ObjC h7 0 lw (233 - lw) (bI (sLf S)) (sTr S) x (sPl S) ∧ Fr h6 h7 100 101 := ⟨_, sF_o o6 (by simp), by unfold ObjC; rw [st_o o6]; rfl, Fr.st⟩
  obtain ⟨h7, s7, o7, F7⟩ := o7
  have lwk : LawC h7 lw (sL S) := by
    refine F7.lc (LawC.lc _ _) (by omega) (LawC.lc lw (sL S) h3 h6 (fun i a b => q6.2 i (by omega) (by omega)) (F3.lc (LawC.lc _ _) (by omega) e2))
  have txk : Fo h7 101 52 900 (fun k => .inl (sTx S k)) := (F7.2 _ (by omega)).trans ((f6.2 _ (by omega)).trans t3)
  have up : ∀ {P : PH → Prop} {lo hi : Nat}, Lc P lo hi → 165 ≤ lo → P h → P h7 := fun l q p => F7.lc l (by omega) (f6.lc l (by omega) (F3.lc l (by omega) p))
  have G7 : Fr h h7 100 285 := ((F3.wd (by omega) (by omega)).tr (f6.wd (by omega) (by omega))).tr (F7.wd (by omega) (by omega))
  have rdk := F7.lc RdC.lc (by omega) r6
  have top : f_T_laws h (some 100) (nI m) = if x = 0 then ((gR h7 10 (some 100) 3).bind fun v9 => (gR h7 10 (some 100) 2).bind fun v10 => (sF h7 10 (some 100) 3 (.inr (.inr v10))).bind fun h11 => (sF h11 10 (some 100) 2 (.inr (.inr v9))).bind fun h12 => (sZ h12 10 (some 100) 5 (1 : Int32)).bind fun h13 => (gR h13 10 (some 100) 6).bind fun v14 => (gR h13 10 (some 100) 2).bind fun v15 => (cl h13 2 v14 (f_Now_begin h13 v14 v15)).bind fun h16 => (gR h16 10 (some 100) 11).bind fun v17 => (cl h16 3 v17 (f_Past_forget h16 v17)).bind fun h18 => (gR h18 10 (some 100) 2).bind fun v19 => (gI h18 1 v19 3).bind fun v20 => (cl h18 10 (some 100) (f_T_fine h18 (some 100) v20)).bind fun v21 => some (v21.1, v21.2)) else ((gR h7 10 (some 100) 4).bind fun v22 => (gI h7 5 v22 8).bind fun v23 => (sF h7 10 (some 100) 14 (.inl v23)).bind fun h24 => (cl h24 10 (some 100) (f_T_refuse h24 (some 100) (4 : Int32))).bind fun v25 => some (v25.1, v25.2)) := by
    unfold f_T_laws
    rw [if_neg (nI_pos (by omega)), gI_o e0 rfl, Option.bind_some, if_pos (nI_le hm (by omega)), s3, Option.bind_some, gR_o o3 rfl, Option.bind_some, gR_o o3 rfl, Option.bind_some, s6, Option.bind_some]
    dsimp only
    rw [s7, Option.bind_some, gI_o o7 rfl, Option.bind_some]
  rw [top]
  cases hr : oRead (sTx S) m (wpL L0) with
  | inl f =>
    obtain ⟨f0, f9, fx, fp, L1, fl⟩ := g6 f hr
    have xz : ¬ x = 0 := by rw [fx]; exact nI_ne0 f0 (by omega)
    have p7 : gI h7 5 (some 160) 8 = some (nI f.2) := (gI_c (F7.2 _ (by omega))).trans fp
    have o8 : ∃ h8, sF h7 10 (some 100) 14 (.inl (nI f.2)) = some h8 ∧ ObjC h8 0 lw (233 - lw) (bI (sLf S)) (sTr S) x (nI f.2) ∧ Fr h7 h8 100 101 := ⟨_, sF_o o7 (by simp), by unfold ObjC; rw [st_o o7]; rfl, Fr.st⟩
    obtain ⟨h8, s8, o8, F8⟩ := o8
    obtain ⟨h9, s9, o9, F9⟩ := refuseQ o8 4
    have G8 := F8.tr F9
    refine ⟨h9, -1, L0, ?_, G7.tr (G8.wd (by omega) (by omega)), fun f' q => ?_, fun B q => by rw [hr] at q; cases q⟩
    · rw [if_neg xz, gR_o o7 rfl, Option.bind_some, p7, Option.bind_some, s8, Option.bind_some, cl_o o8, s9]
      rfl
    · rw [hr] at q
      cases q
      refine ⟨f0, f9, rfl, hl, ?_, G8.lc (P := fun h => Fo h 101 52 900 (fun k => .inl (sTx S k))) (lo1 := 101) (hi1 := 102) (fun a b q p => (q _ (by omega) (by omega)).trans p) (by omega) txk, G8.lc (LawC.lc _ _) (by omega) lwk, ⟨L1, G8.lc (LawC.lc _ _) (by omega) (F7.lc (LawC.lc _ _) (by omega) fl)⟩, G8.lc RdC.lc (by omega) rdk, G8.lc (NowC.lc _ _) (by omega) (up (NowC.lc _ _) (by omega) e5), G8.lc ScC.lc (by omega) (up ScC.lc (by omega) e6), G8.lc (PaC.lc _) (by omega) (up (PaC.lc _) (by omega) e7)⟩
      show ObjC h9 0 lw (233 - lw) (bI (sLf S)) 4 (nI f.1) (nI f.2)
      rw [← fx]
      exact o9
  | inr B =>
    obtain ⟨bx, bl, N1, bi, bc⟩ := b6 B hr
    have l7 := F7.lc (LawC.lc _ _) (by omega) bl
    have o13 : ∃ h11 h12 h13, sF h7 10 (some 100) 3 (.inr (.inr (some lw))) = some h11 ∧ sF h11 10 (some 100) 2 (.inr (.inr (some (233 - lw)))) = some h12 ∧ sF h12 10 (some 100) 5 (.inl (1 : Int32)) = some h13 ∧ ObjC h13 0 (233 - lw) lw 1 (sTr S) x (sPl S) ∧ Fr h7 h13 100 101 := by
      obtain ⟨y1, t1, t2, t3⟩ := sF_s (k := 3) o7 (by simp) (.inr (.inr (some lw)))
      obtain ⟨y2, t4, t5, t6⟩ := sF_s (k := 2) t2 (by simp) (.inr (.inr (some (233 - lw))))
      obtain ⟨y3, t7, t8, t9⟩ := sF_s (k := 5) t5 (by simp) (.inl (1 : Int32))
      exact ⟨y1, y2, y3, t1, t4, t7, t8, (t3.tr t6).tr t9⟩
    obtain ⟨h11, h12, h13, s11, s12, s13, o13, F13⟩ := o13
    have n13 := F13.lc (NowC.lc 165 (sNw S)) (by omega) (up (NowC.lc _ _) (by omega) e5)
    have l13 := F13.lc (LawC.lc _ _) (by omega) l7
    obtain ⟨h16, s16, n16, F16⟩ := cls_begin n13 l13 (by omega)
    have o16 : ObjC h16 0 (233 - lw) lw 1 (sTr S) x (sPl S) := (F16.2 _ (by omega)).trans o13
    obtain ⟨σ, p0, p1, p2, p3, p4, p5, p6⟩ : PaC h16 (sP S) := F16.lc (PaC.lc _) (by omega) (F13.lc (PaC.lc _) (by omega) (up (PaC.lc _) (by omega) e7))
    obtain ⟨h17, s17, p7, F17⟩ := p0.set (k := 2) (by omega) (.inl (0 : Int32))
    obtain ⟨h18, s18, p8, F18⟩ := p7.set (k := 3) (by omega) (.inl (0 : Int32))
    have G18 := F17.tr F18
    have o18 : ObjC h18 0 (233 - lw) lw 1 (sTr S) x (sPl S) := (G18.2 _ (by omega)).trans o16
    have l16 := F16.lc (LawC.lc _ _) (by omega) l13
    have l18 := G18.lc (LawC.lc _ _) (by omega) l16
    obtain ⟨h19, s19, o19, F19⟩ := fineQ o18 (nI (nP B.2.2))
    have H13 : Fr h7 h19 100 285 := (((F13.wd (by omega) (by omega)).tr (F16.wd (by omega) (by omega))).tr (G18.wd (by omega) (by omega))).tr (F19.wd (by omega) (by omega))
    refine ⟨h19, nI (nP B.2.2), L0, ?_, G7.tr H13, fun f' q => (by rw [hr] at q; cases q), fun B' q => ?_⟩
    · unfold sZ f_Past_forget
      rw [if_pos bx, gR_o o7 rfl, Option.bind_some, gR_o o7 rfl, Option.bind_some, s11, Option.bind_some, s12, Option.bind_some, if_pos (Or.inr rfl), s13, Option.bind_some, gR_o o13 rfl, Option.bind_some, gR_o o13 rfl, Option.bind_some, cl_o n13.1, s16, Option.bind_some, gR_o o16 rfl, Option.bind_some, cl_o p0, s17, Option.bind_some, s18, Option.bind_some, Option.bind_some, gR_o o18 rfl, Option.bind_some, gI_o l18.1 rfl, Option.bind_some, cl_o o18, s19]
      rfl
    · rw [hr] at q
      cases q
      have lwx := F19.lc (LawC.lc _ _) (by omega) (G18.lc (LawC.lc _ _) (by omega) (F16.lc (LawC.lc _ _) (by omega) (F13.lc (LawC.lc _ _) (by omega) lwk)))
      refine ⟨rfl, ⟨hs, ?_, ?_, F19.lc (LawC.lc _ _) (by omega) l18, ⟨sL S, ?_⟩, ?_, ?_, ?_, ?_⟩, N1, bi, bc⟩
      · show ObjC h19 (nI 0) (233 - lw) (233 - (233 - lw)) (bI true) 0 0 (sPl S)
        rw [show 233 - (233 - lw) = lw by omega]
        rw [bx] at o19
        exact o19
      · exact (F19.2 _ (by omega)).trans ((G18.2 _ (by omega)).trans ((F16.2 _ (by omega)).trans ((F13.2 _ (by omega)).trans txk)))
      · rw [show 233 - (233 - lw) = lw by omega]; exact lwx
      · exact F19.lc RdC.lc (by omega) (G18.lc RdC.lc (by omega) (F16.lc RdC.lc (by omega) (F13.lc RdC.lc (by omega) rdk)))
      · exact F19.lc (NowC.lc _ _) (by omega) (G18.lc (NowC.lc _ _) (by omega) n16)
      · exact F19.lc ScC.lc (by omega) (G18.lc ScC.lc (by omega) (F16.lc ScC.lc (by omega) (F13.lc ScC.lc (by omega) (up ScC.lc (by omega) e6))))
      · refine F19.lc (PaC.lc _) (by omega) ⟨σ, p8.gt (fun k hk => ?_), (G18.2 _ (by omega)).trans p1, (G18.2 _ (by omega)).trans p2, p3, p4, fun i hi => G18.lc (NowC.lc _ _) (by omega) (p5 i hi), fun i hi => G18.lc (NowC.lc _ _) (by omega) (p6 i hi)⟩
        have : k = 0 ∨ k = 1 ∨ k = 2 ∨ k = 3 := by omega
        rcases this with rfl | rfl | rfl | rfl <;> rfl
end Y8
