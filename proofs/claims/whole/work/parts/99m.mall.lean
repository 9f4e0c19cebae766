/-! the reference reads a line, a text -/
section Z7
variable {h h1 : PH} {F0 : Nat → PV} {i n : Nat} {tx : Nat → Int32} {N : NmD} {r r1 : RsD} {A B : AsD}
theorem oLine_n (q : lnS tx A = none) : oLine tx n N A = (.inl (1, A.1.2.1), N) := by unfold oLine; rw [q]
theorem oLine_s {k : Nat} (q : lnS tx A = some k) : oLine tx n N A = oLn tx n N A k := by unfold oLine; rw [q]; rfl
theorem ml_line (e : MX h F0 i tx n N (.inr A)) (I : LawI A.2.2 N A.2.1) : ∃ h1, cl h 12 (some 285) (f_M_readLine h (some 285)) = some h1 ∧ MX h1 F0 i tx n (oLine tx n N A).2 (oLine tx n N A).1 ∧ Fm h h1 i := by
  have is := fun j (hj : j < 23) => mx_is e hj
  rw [e.cl]
  unfold f_M_readLine
  rw [is 0 (by omega), Option.bind_some, is 1 (by omega), Option.bind_some, is 2 (by omega), Option.bind_some, is 3 (by omega), Option.bind_some, is 4 (by omega), Option.bind_some, is 5 (by omega), Option.bind_some, is 6 (by omega), Option.bind_some, is 7 (by omega), Option.bind_some, is 8 (by omega), Option.bind_some]
  cases hl : lnS tx A with
  | none =>
    have T : ∀ j, j < 9 → (if isW tx (.inr A) j = true then (1 : Int32) else 0) = 0 := by
      intro j hj
      apply if_neg
      intro q
      have q : A.1.1 = 1 ∧ wdA tx A = pkC j := of_decide_eq_true q
      unfold lnS at hl
      rw [if_pos q.1, ls_i q.2 9 (by omega) hj] at hl
      cases hl
    obtain ⟨h1, x1, x2, x3⟩ := mx_flaw e 1
    rw [if_pos (T 0 (by omega)), if_pos (T 1 (by omega)), if_pos (T 2 (by omega)), if_pos (T 3 (by omega)), if_pos (T 4 (by omega)), if_pos (T 5 (by omega)), if_pos (T 6 (by omega)), if_pos (T 7 (by omega)), if_pos (T 8 (by omega)), show (1 : Int32) = nI 1 from rfl, x1, Option.bind_some, oLine_n hl]
    exact ⟨h1, rfl, x2, x3⟩
  | some k =>
    have tk : A.1.1 = 1 := by
      unfold lnS at hl
      split at hl
      · assumption
      · cases hl
    have hw : k < 9 ∧ wdA tx A = pkC k := by
      unfold lnS at hl
      rw [if_pos tk] at hl
      rcases ls_c (w := wdA tx A) 9 (by omega) with q | ⟨j, q1, q2, q3⟩
      · rw [q] at hl; cases hl
      · rw [q2] at hl; cases hl; exact ⟨q1, q3⟩
    obtain ⟨k9, hw⟩ := hw
    have T : ∀ j, j < 9 → (if isW tx (.inr A) j = true then (1 : Int32) else 0) = if j = k then 1 else 0 := by
      intro j hj
      by_cases z : j = k
      · rw [if_pos (show isW tx (.inr A) j = true by simp only [isW]; exact decide_eq_true ⟨tk, by rw [z]; exact hw⟩), if_pos z]
      · rw [if_neg (show ¬ isW tx (.inr A) j = true from fun q => z (pkC_ne j (by omega) k (by omega) ((of_decide_eq_true q : A.1.1 = 1 ∧ wdA tx A = pkC j).2.symm.trans hw))), if_neg z]
    rw [T 0 (by omega), T 1 (by omega), T 2 (by omega), T 3 (by omega), T 4 (by omega), T 5 (by omega), T 6 (by omega), T 7 (by omega), T 8 (by omega), oLine_s hl]
    have : k = 0 ∨ k = 1 ∨ k = 2 ∨ k = 3 ∨ k = 4 ∨ k = 5 ∨ k = 6 ∨ k = 7 ∨ k = 8 := by omega
    clear T is hw hl
    rcases this with rfl | rfl | rfl | rfl | rfl | rfl | rfl | rfl | rfl
    · obtain ⟨h1, x1, x2, x3⟩ := ml_tax e tk I
      rw [if_neg (show ¬ (if (0 : Nat) = 0 then (1 : Int32) else 0) = 0 by decide), x1, Option.bind_some]
      exact ⟨h1, rfl, x2, x3⟩
    · obtain ⟨h1, x1, x2, x3⟩ := ml_cho e tk I
      rw [if_pos (show (if (0 : Nat) = 1 then (1 : Int32) else 0) = 0 from rfl), if_neg (show ¬ (if (1 : Nat) = 1 then (1 : Int32) else 0) = 0 by decide), x1, Option.bind_some]
      exact ⟨h1, rfl, x2, x3⟩
    · obtain ⟨h1, x1, x2, x3⟩ := ml_far e tk I
      rw [if_pos (show (if (0 : Nat) = 2 then (1 : Int32) else 0) = 0 from rfl), if_pos (show (if (1 : Nat) = 2 then (1 : Int32) else 0) = 0 from rfl), if_neg (show ¬ (if (2 : Nat) = 2 then (1 : Int32) else 0) = 0 by decide), x1, Option.bind_some]
      exact ⟨h1, rfl, x2, x3⟩
    · obtain ⟨h1, x1, x2, x3⟩ := ml_per e tk I
      rw [if_pos (show (if (0 : Nat) = 3 then (1 : Int32) else 0) = 0 from rfl), if_pos (show (if (1 : Nat) = 3 then (1 : Int32) else 0) = 0 from rfl), if_pos (show (if (2 : Nat) = 3 then (1 : Int32) else 0) = 0 from rfl), if_neg (show ¬ (if (3 : Nat) = 3 then (1 : Int32) else 0) = 0 by decide), x1, Option.bind_some]
      exact ⟨h1, rfl, x2, x3⟩
    · obtain ⟨h1, x1, x2, x3⟩ := ml_lik e tk I
      rw [if_pos (show (if (0 : Nat) = 4 then (1 : Int32) else 0) = 0 from rfl), if_pos (show (if (1 : Nat) = 4 then (1 : Int32) else 0) = 0 from rfl), if_pos (show (if (2 : Nat) = 4 then (1 : Int32) else 0) = 0 from rfl), if_pos (show (if (3 : Nat) = 4 then (1 : Int32) else 0) = 0 from rfl), if_neg (show ¬ (if (4 : Nat) = 4 then (1 : Int32) else 0) = 0 by decide), x1, Option.bind_some]
      exact ⟨h1, rfl, x2, x3⟩
    · obtain ⟨h1, x1, x2, x3⟩ := ml_rea e tk I
      rw [if_pos (show (if (0 : Nat) = 5 then (1 : Int32) else 0) = 0 from rfl), if_pos (show (if (1 : Nat) = 5 then (1 : Int32) else 0) = 0 from rfl), if_pos (show (if (2 : Nat) = 5 then (1 : Int32) else 0) = 0 from rfl), if_pos (show (if (3 : Nat) = 5 then (1 : Int32) else 0) = 0 from rfl), if_pos (show (if (4 : Nat) = 5 then (1 : Int32) else 0) = 0 from rfl), if_neg (show ¬ (if (5 : Nat) = 5 then (1 : Int32) else 0) = 0 by decide), x1, Option.bind_some]
      exact ⟨h1, rfl, x2, x3⟩
    · obtain ⟨h1, x1, x2, x3⟩ := ml_pai e tk I
      rw [if_pos (show (if (0 : Nat) = 6 then (1 : Int32) else 0) = 0 from rfl), if_pos (show (if (1 : Nat) = 6 then (1 : Int32) else 0) = 0 from rfl), if_pos (show (if (2 : Nat) = 6 then (1 : Int32) else 0) = 0 from rfl), if_pos (show (if (3 : Nat) = 6 then (1 : Int32) else 0) = 0 from rfl), if_pos (show (if (4 : Nat) = 6 then (1 : Int32) else 0) = 0 from rfl), if_pos (show (if (5 : Nat) = 6 then (1 : Int32) else 0) = 0 from rfl), if_neg (show ¬ (if (6 : Nat) = 6 then (1 : Int32) else 0) = 0 by decide), x1, Option.bind_some]
      exact ⟨h1, rfl, x2, x3⟩
    · obtain ⟨h1, x1, x2, x3⟩ := ml_sho e tk I
      rw [if_pos (show (if (0 : Nat) = 7 then (1 : Int32) else 0) = 0 from rfl), if_pos (show (if (1 : Nat) = 7 then (1 : Int32) else 0) = 0 from rfl), if_pos (show (if (2 : Nat) = 7 then (1 : Int32) else 0) = 0 from rfl), if_pos (show (if (3 : Nat) = 7 then (1 : Int32) else 0) = 0 from rfl), if_pos (show (if (4 : Nat) = 7 then (1 : Int32) else 0) = 0 from rfl), if_pos (show (if (5 : Nat) = 7 then (1 : Int32) else 0) = 0 from rfl), if_pos (show (if (6 : Nat) = 7 then (1 : Int32) else 0) = 0 from rfl), if_neg (show ¬ (if (7 : Nat) = 7 then (1 : Int32) else 0) = 0 by decide), x1, Option.bind_some]
      exact ⟨h1, rfl, x2, x3⟩
    · obtain ⟨h1, x1, x2, x3⟩ := ml_lan e tk I
      rw [if_pos (show (if (0 : Nat) = 8 then (1 : Int32) else 0) = 0 from rfl), if_pos (show (if (1 : Nat) = 8 then (1 : Int32) else 0) = 0 from rfl), if_pos (show (if (2 : Nat) = 8 then (1 : Int32) else 0) = 0 from rfl), if_pos (show (if (3 : Nat) = 8 then (1 : Int32) else 0) = 0 from rfl), if_pos (show (if (4 : Nat) = 8 then (1 : Int32) else 0) = 0 from rfl), if_pos (show (if (5 : Nat) = 8 then (1 : Int32) else 0) = 0 from rfl), if_pos (show (if (6 : Nat) = 8 then (1 : Int32) else 0) = 0 from rfl), if_pos (show (if (7 : Nat) = 8 then (1 : Int32) else 0) = 0 from rfl), if_neg (show ¬ (if (8 : Nat) = 8 then (1 : Int32) else 0) = 0 by decide), x1, Option.bind_some]
      exact ⟨h1, rfl, x2, x3⟩
/-- a semicolon -/
theorem mx_semi (e : MX h F0 i tx n N r) : (∀ B, r = .inr B → B.1.1 = 3 → ∃ h1, cl h 12 (some 285) (f_M_eatsSemicolon h (some 285)) = some (1, h1) ∧ MX h1 F0 i tx n N (.inr (nxT tx n B.1.2.2, B.2)) ∧ Fm h h1 i) ∧ ((∀ B, r = .inr B → ¬ B.1.1 = 3) → cl h 12 (some 285) (f_M_eatsSemicolon h (some 285)) = some (0, h)) := by
  rw [e.cl]
  unfold f_M_eatsSemicolon
  rw [e.so, Option.bind_some]
  constructor
  · rintro B rfl z
    obtain ⟨h1, x1, x2, x3⟩ := mx_next e (fun C q => by cases q; omega)
    rw [if_neg (show ¬ ¬ soR (.inr B) = 4 from fun q => q (by show nI (mkK B.1.1) = 4; rw [z]; rfl)), Option.bind_some, if_neg (by decide), x1, Option.bind_some, rZ_1]
    exact ⟨h1, rfl, x2, x3⟩
  · intro q
    rw [if_pos (show ¬ soR r = 4 from by
      cases r with
      | inl f => show ¬ (5 : Int32) = 4; decide
      | inr B =>
        intro w
        have w := (mk_n e.rl.2.2.1 4 (by omega)).mp w
        have := q B rfl
        unfold mkK at w
        split at w <;> omega), Option.bind_some, if_pos rfl, rZ_0]
theorem MX.ch (e : MX h F0 i tx n N r) : ∃ x, gI h 11 (some i) 2 = some x ∧ ∀ B, r = .inr B → x = nI (nC B.2.2) := by
  cases r with
  | inl f =>
    obtain ⟨-, v, w, a, b, t, L, N1, hN, G, g, W, c, d⟩ := e
    exact ⟨_, c.gi (by omega) d.2.1.1, fun B q => by cases q⟩
  | inr A =>
    obtain ⟨-, -, -, G, g, W, c, d⟩ := e.rl
    exact ⟨_, c.gi (by omega) d.2.1.1, fun B q => by cases q; rfl⟩
theorem ml_all (e : MX h F0 i tx n N (.inr A)) (I : LawI A.2.2 N A.2.1) (hn : n ≤ 900) : ∃ h1, cl h 12 (some 285) (f_M_readAll h (some 285)) = some h1 ∧ MX h1 F0 i tx n (oAll tx n (n + 1) N A).2 (oEnd n (oAll tx n (n + 1) N A).1) ∧ Fm h h1 i := by
  rw [e.cl]
  unfold f_M_readAll
  refine exB (f := fun h9 => h9) (fun x => Fm h x i ∧ ∃ p : RsD × NmD, MX x F0 i tx n p.2 p.1 ∧ (∀ B, p.1 = .inr B → ¬ B.1.1 = 3 ∧ nC B.2.2 ≤ 5) ∧ oCt tx n 0 p = oAll tx n (n + 1) N A) (pj_inv (fun k s => Fm h s.2 i ∧ ((s.1 = 1 ∧ ∃ N1 A1, MX s.2 F0 i tx n N1 (.inr A1) ∧ LawI A1.2.2 N1 A1.2.1 ∧ oAll tx n (n + 1 - k) N1 A1 = oAll tx n (n + 1) N A ∧ k ≤ A1.1.2.1) ∨ (s.1 = 0 ∧ ∃ p : RsD × NmD, MX s.2 F0 i tx n p.2 p.1 ∧ (∀ B, p.1 = .inr B → ¬ B.1.1 = 3 ∧ nC B.2.2 ≤ 5) ∧ oCt tx n 0 p = oAll tx n (n + 1) N A))) _ (n + 2) (by omega) ⟨Fm.rf, Or.inl ⟨rfl, N, A, e, I, rfl, Nat.zero_le _⟩⟩ ?_ ?_) ?_
  · rintro k ⟨k1, hh⟩ hk ⟨fm, ⟨rfl, N1, A1, m, I1, ot, st⟩ | ⟨rfl, p, m, t3, ot⟩⟩
    · left
      dsimp only at fm m ⊢
      obtain ⟨h3, x1, x2, x3⟩ := ml_line m I1
      obtain ⟨y1, y2⟩ := mx_semi x2
      have cu := m.rl.2.2.1
      have bn := cu.p.1
      have bn2 := cu.p.2.1
      rw [if_neg (by decide), x1, Option.bind_some]
      rw [show n + 1 - k = (n - k) + 1 by omega, oAll_s] at ot
      have lo := fun B (q : (oLine tx n N1 A1).1 = .inr B) => lo_line (N1 := (oLine tx n N1 A1).2) (B := B) cu I1 (by rw [← q])
      generalize oLine tx n N1 A1 = p at x2 y1 y2 ot lo
      obtain ⟨r2, N2⟩ := p
      dsimp only at x2 y1 y2 lo
      cases r2 with
      | inl f =>
        rw [y2 (fun B q => by cases q), Option.bind_some]
        exact ⟨_, rfl, fm.tr x3, Or.inr ⟨rfl, (.inl f, N2), x2, fun B q => (by cases q), ot⟩⟩
      | inr B =>
        obtain ⟨l1, l2, l3⟩ := lo B rfl
        by_cases z : B.1.1 = 3
        · obtain ⟨h4, w1, w2, w3⟩ := y1 B rfl z
          rw [w1, Option.bind_some]
          have ot : (if B.1.1 = 3 then oAll tx n (n - k) N2 (nxT tx n B.1.2.2, B.2) else if B.1.1 = 0 then (.inr B, N2) else (.inl (1, B.1.2.1), N2)) = oAll tx n (n + 1) N A := ot
          rw [if_pos z] at ot
          refine ⟨_, rfl, (fm.tr x3).tr w3, Or.inl ⟨rfl, N2, _, w2, l1, ?_, ?_⟩⟩
          · rw [show n + 1 - (k + 1) = n - k by omega]; exact ot
          · have := (nxT_p (tx := tx) l2.p.2.1).1
            have := l2.p.1
            show k + 1 ≤ (nxT tx n B.1.2.2).2.1
            omega
        · rw [y2 (fun C q => by cases q; exact z), Option.bind_some]
          refine ⟨_, rfl, fm.tr x3, Or.inr ⟨rfl, (.inr B, N2), x2, fun C q => (by cases q; exact ⟨z, l1.1.1⟩), ?_⟩⟩
          have ot : (if B.1.1 = 3 then oAll tx n (n - k) N2 (nxT tx n B.1.2.2, B.2) else if B.1.1 = 0 then (.inr B, N2) else (.inl (1, B.1.2.1), N2)) = oAll tx n (n + 1) N A := ot
          rw [if_neg z] at ot
          show (if B.1.1 = 3 then _ else if B.1.1 = 0 then ((.inr B, N2) : RsD × NmD) else (.inl (1, B.1.2.1), N2)) = _
          rw [if_neg z]
          exact ot
    · right
      dsimp only at fm m ⊢
      rw [if_pos rfl]
      exact ⟨_, rfl, fm, p, m, t3, ot⟩
  · rintro ⟨k1, hh⟩ ⟨fm, ⟨rfl, N1, A1, m, I1, ot, st⟩ | ⟨rfl, p, m, t3, ot⟩⟩
    · have cu := m.rl.2.2.1
      have bn := cu.p.1
      have bn2 := cu.p.2.1
      omega
    · dsimp only at fm m ⊢
      rw [if_pos rfl]
      exact ⟨_, rfl, fm, p, m, t3, ot⟩
  · rintro x ⟨fm, ⟨r2, N2⟩, m, t3, ot⟩
    dsimp only at m t3
    rw [← ot, m.so, Option.bind_some]
    refine exB (f := fun h9 => h9) (fun y => Fm h y i ∧ MX y F0 i tx n (oCt tx n 0 (r2, N2)).2 (oCt tx n 0 (r2, N2)).1 ∧ ∀ B, (oCt tx n 0 (r2, N2)).1 = .inr B → B.1.1 = 0 ∧ nC B.2.2 ≤ 5) ?_ ?_
    · obtain ⟨h3, x1, x2, x3⟩ := mx_flaw m 1
      cases r2 with
      | inl f =>
        rw [if_neg (show ¬ soR (.inl f) = 1 by show ¬ (5 : Int32) = 1; decide), show (1 : Int32) = nI 1 from rfl, x1, Option.bind_some]
        exact ⟨h3, rfl, fm.tr x3, x2, fun B q => by cases q⟩
      | inr B =>
        obtain ⟨t3, t5⟩ := t3 B rfl
        by_cases z : B.1.1 = 0
        · have oc : oCt tx n 0 (.inr B, N2) = (.inr B, N2) := by
            show (if B.1.1 = 3 then _ else if B.1.1 = 0 then ((.inr B, N2) : RsD × NmD) else (.inl (1, B.1.2.1), N2)) = _
            rw [if_neg t3, if_pos z]
          rw [oc, if_pos (show soR (.inr B) = 1 by show nI (mkK B.1.1) = 1; rw [z]; rfl)]
          exact ⟨x, rfl, fm, m, fun C q => by cases q; exact ⟨z, t5⟩⟩
        · have oc : oCt tx n 0 (.inr B, N2) = (.inl (1, B.1.2.1), N2) := by
            show (if B.1.1 = 3 then _ else if B.1.1 = 0 then ((.inr B, N2) : RsD × NmD) else (.inl (1, B.1.2.1), N2)) = _
            rw [if_neg t3, if_neg z]
          rw [oc, if_neg (show ¬ soR (.inr B) = 1 from fun w => by
            have w := (mk_n m.rl.2.2.1 1 (by omega)).mp w
            unfold mkK at w
            split at w <;> omega), show (1 : Int32) = nI 1 from rfl, x1, Option.bind_some]
          exact ⟨h3, rfl, fm.tr x3, x2, fun C q => by cases q⟩
    · rintro y ⟨fy, my, ty⟩
      generalize oCt tx n 0 (r2, N2) = p at my ty
      obtain ⟨r3, N3⟩ := p
      dsimp only at my ty ⊢
      obtain ⟨c, c1, c2⟩ := my.ch
      obtain ⟨h3, x1, x2, x3⟩ := mx_flaw my 6
      rw [my.g4, Option.bind_some, c1, Option.bind_some]
      cases r3 with
      | inl f =>
        by_cases z : c = 0
        · rw [if_neg (fun q => q z), show (6 : Int32) = nI 6 from rfl, x1, Option.bind_some]
          exact ⟨h3, rfl, x2, fy.tr x3⟩
        · rw [if_pos z]
          exact ⟨y, rfl, my, fy⟩
      | inr B =>
        obtain ⟨t0, t5⟩ := ty B rfl
        have sn := my.rl.2.2.1.p.2.2.2.1 t0
        rw [c2 B rfl]
        unfold oEnd
        dsimp only
        by_cases z : nC B.2.2 = 0
        · rw [if_neg (fun q => q (by rw [z]; rfl)), show (6 : Int32) = nI 6 from rfl, x1, Option.bind_some, if_pos z]
          refine ⟨h3, rfl, ?_, fy.tr x3⟩
          have x2 : MX h3 F0 i tx n N3 (.inl (6, B.1.2.1)) := x2
          rw [sn] at x2
          exact x2
        · rw [if_pos (fun q => z ((nI_e0 (by omega)).mp q)), if_neg z]
          exact ⟨y, rfl, my, fy⟩
end Z7
