/-! the class's reckoning: Law.apart, Desk.taxOf, worthOf, leftOf, choiceOf -/
theorem pj_for' {S X : Type} {step : S → Option (S ⊕ X)} (st : Nat → S) (x : X) (n : Nat) {s0 : S} (h0 : s0 = st 0) (hn : n < 4096) (hs : ∀ i, i < n → step (st i) = some (.inl (st (i + 1)))) (he : step (st n) = some (.inr x)) : pj_it step FU s0 = some x := by
  subst h0
  exact pj_for st x n FU hn hs he
theorem nI_s (i : Nat) : nI i + (1 : Int32) = nI (i + 1) := nI_1 i
theorem nI_nle' {a b : Nat} (h : a < b) (hb : b < 100) : ¬ nI b ≤ nI a := nI_ge h (by omega)
section D1
variable {h : PH} {lw nw d : Nat} {L : LawD} {N : NowD} {tb th : Int32} {p c : Nat}
theorem cls_apart (hL : LawV h lw L) (ok : LawOk L) {c d : Nat} (hc : c < nC L) (hd : d < nC L) : f_Law_apart h (some lw) (nI c) (nI d) = some (farS L c d) := by
  obtain ⟨-, ⟨a, ha, hrow⟩, -⟩ := hL
  obtain ⟨b, hb, hA⟩ := hrow c hc
  have h5 := ok.2.1
  unfold f_Law_apart farS
  by_cases e : c = d
  · subst e
    simp
  · have e' : ¬ nI c = nI d := fun q => e ((nI_eq (by omega) (by omega)).mp q)
    rw [if_pos e', if_neg e]
    simp only [ha, hb, hA d hd, Option.bind_some]
    by_cases z : far L c d = 0
    · simp [z]
    · simp [z]
theorem cls_hasCome (hN : gI h 2 (some nw) 2 = some (cme N)) (k : Nat) : f_Now_hasCome h (some nw) (nI k) = some (if ((cme N >>> (nI k &&& 31)) &&& (1 : Int32)) = 1 then 1 else 0) := by
  unfold f_Now_hasCome
  rw [hN, Option.bind_some]
  by_cases z : ((cme N >>> (nI k &&& 31)) &&& (1 : Int32)) = 1
  · rw [if_neg (fun q => q z), if_pos z]
  · rw [if_pos z, if_neg z]
theorem cls_worth (hD : DeskV h d lw nw tb th) (hL : LawV h lw L) (ok : LawOk L) (hN : NowV h nw (nP L) N) (hp : p < nP L) (hc : c < nC L) : f_Desk_worthOf h (some d) (nI p) (nI c) = some (worS L (cme N) p c) := by
  obtain ⟨d1, d2, d3, d4⟩ := hD
  obtain ⟨-, -, -, -, ⟨a8, ha8, hrow⟩, ⟨r, hr, hcount, ⟨a1, ha1, hA1⟩, ⟨a2, ha2, hA2⟩, -, -, ⟨a5, ha5, hA5⟩⟩, -⟩ := hL
  obtain ⟨b, hb, hW⟩ := hrow p hp
  have h5 := ok.2.1
  have h6 := ok.2.2.1
  have h4 := ok.2.2.2.1
  unfold f_Desk_worthOf
  simp only [d1, d2, hr, ha8, hb, hW c hc, Option.bind_some]
  rw [pj_for' (fun i => (worA L (cme N) p c i, nI i)) (worS L (cme N) p c) (nR L) (by rw [nI_0]; rfl) (by omega) ?_ ?_]
  · rfl
  · intro i hi
    obtain ⟨q1, q2⟩ := ok.2.2.2.2.2.2.2.1 i hi
    have f1 : aI h (some a1) (nI i) = some (nI (rpe L i)) := hA1 i hi
    have f2 : aI h (some a2) (nI i) = some (nI (rch L i)) := hA2 i hi
    dsimp only
    rw [hcount, Option.bind_some, if_neg (nI_nle' hi (by omega)), ha1, Option.bind_some, f1, Option.bind_some]
    by_cases z1 : rpe L i = p
    · rw [z1, if_neg (fun q => q rfl), ha2, Option.bind_some, f2, Option.bind_some]
      by_cases z2 : rch L i = c
      · rw [z2, if_neg (fun q => q rfl), cl_gI hN.1.2.2, cls_hasCome hN.1.2.2, Option.bind_some]
        by_cases z3 : ((cme N >>> (nI i &&& 31)) &&& (1 : Int32)) = 1
        · rw [if_pos z3, if_neg (by decide), ha5, Option.bind_some, hA5 i hi, Option.bind_some, nI_s]
          rw [show worA L (cme N) p c (i + 1) = worA L (cme N) p c i + rmo L i from if_pos ⟨z1, z2, z3⟩]
        · rw [if_neg z3, if_pos rfl, nI_s]
          rw [show worA L (cme N) p c (i + 1) = worA L (cme N) p c i from if_neg (fun q => z3 q.2.2)]
      · rw [if_pos (fun q => z2 ((nI_eq (by omega) (by omega)).mp q)), nI_s]
        rw [show worA L (cme N) p c (i + 1) = worA L (cme N) p c i from if_neg (fun q => z2 q.2.1)]
    · rw [if_pos (fun q => z1 ((nI_eq (by omega) (by omega)).mp q)), nI_s]
      rw [show worA L (cme N) p c (i + 1) = worA L (cme N) p c i from if_neg (fun q => z1 q.1)]
  · dsimp only
    rw [hcount, Option.bind_some, if_pos (nI_le (Nat.le_refl _) (by omega))]
    rfl
theorem cls_tax (hD : DeskV h d lw nw tb th) (hL : LawV h lw L) (ok : LawOk L) (hN : NowV h nw (nP L) N) (okN : NowOk L N) (hp : p < nP L) (hc : c < nC L) : f_Desk_taxOf h (some d) (nI p) (nI c) = some (taxN L N tb th p c) := by
  obtain ⟨d1, d2, d3, d4⟩ := hD
  have hap := fun (c d : Nat) (hc : c < nC L) (hd : d < nC L) => cls_apart hL ok hc hd
  obtain ⟨⟨g0, g1, g2, g3, g4⟩, -, ⟨a6, ha6, hA6⟩, ⟨a7, ha7, hA7⟩, -⟩ := hL
  obtain ⟨⟨n0, n1, n2⟩, ⟨b3, hb3, hB3⟩, ⟨b4, hb4, hB4⟩, -, ⟨b6, hb6, hB6⟩⟩ := hN
  obtain ⟨hh, hst⟩ := okN p hp
  have h5 := ok.2.1
  have hf := ok.2.2.2.2.2.2.1 p hp
  unfold f_Desk_taxOf taxN taxS
  simp only [d1, d2, d3, d4, ha6, hA6 p hp, hb3, hB3 p hp, hb4, hB4 p hp, hb6, hB6 p hp, ha7, hA7 p hp, n0, g0, Option.bind_some]
  by_cases z1 : c = hel N p
  · rw [if_pos (by rw [z1]), if_pos (Or.inl z1)]
  · rw [if_neg (fun q => z1 ((nI_eq (by omega) (by omega)).mp q))]
    by_cases z2 : srt L p = 1
    · rw [if_pos z2, if_pos (Or.inr (Or.inl z2))]
    · rw [if_neg z2]
      by_cases z3 : srt L p = 2
      · rw [if_neg (fun q => q z3), if_pos (Or.inr (Or.inr z3))]
      · have hn : ¬ (c = hel N p ∨ srt L p = 1 ∨ srt L p = 2) := by
          rintro (q | q | q)
          · exact z1 q
          · exact z2 q
          · exact z3 q
        rw [if_pos z3, if_neg hn]
        rw [cl_gI g0, hap _ _ hh hc]
        simp only [Option.bind_some]
        have e0 : (if ¬ tb = -1 then some tb else some (farS L (hel N p) c)) = some (if tb = -1 then farS L (hel N p) c else tb) := by
          by_cases z : tb = -1 <;> simp [z]
        rw [e0, Option.bind_some]
        generalize (if tb = -1 then farS L (hel N p) c else tb) = t0
        have e1 : (if tur N p ≤ 0 then some t0 else if root L ≤ hou N - lat N p then some t0 else some (t0 * 2)) = some (if agoS N p = -1 ∨ root L ≤ agoS N p then t0 else t0 * 2) := by
          unfold agoS
          rcases hst with ⟨s1, s2⟩ | ⟨s1, s2, s3⟩
          · rw [s1, s2]
            simp
          · rw [if_neg (Int32.not_le.mpr s1)]
            rw [if_neg s2]
            have s4 : ¬ (hou N - lat N p) = -1 := fun q => by rw [q] at s3; exact absurd s3 (by decide)
            by_cases z : root L ≤ hou N - lat N p
            · simp [z]
            · simp [z, s4]
        rw [e1, Option.bind_some]
        generalize (if agoS N p = -1 ∨ root L ≤ agoS N p then t0 else t0 * 2) = t1
        have e2 : (if tur N p < 2 then some t1 else some (t1 * th)) = some (if tur N p < 2 then t1 else t1 * th) := by
          by_cases z : tur N p < 2 <;> simp [z]
        rw [e2, Option.bind_some]
        generalize (if tur N p < 2 then t1 else t1 * th) = t2
        have e3 : (if ¬ nI c = nI (frs L p) then some t2 else if (2 : Int32) = 0 then none else some (t2 / 2)) = some (if c = frs L p then t2 / 2 else t2) := by
          by_cases z : c = frs L p
          · rw [if_neg (by rw [z]; exact fun q => q rfl), if_neg (by decide), if_pos z]
          · rw [if_pos (fun q => z ((nI_eq (by omega) (by omega)).mp q)), if_neg z]
        rw [e3, Option.bind_some]
        generalize (if c = frs L p then t2 / 2 else t2) = t3
        by_cases z : srt L p = 3 <;> simp [z]
theorem cls_left (hD : DeskV h d lw nw tb th) (hL : LawV h lw L) (ok : LawOk L) (hN : NowV h nw (nP L) N) (okN : NowOk L N) (hp : p < nP L) (hc : c < nC L) : f_Desk_leftOf h (some d) (nI p) (nI c) = some (lefS L N tb th p c) := by
  unfold f_Desk_leftOf
  rw [cl_gI hD.2.2.1, cls_worth hD hL ok hN hp hc, Option.bind_some, cl_gI hD.2.2.1, cls_tax hD hL ok hN okN hp hc, Option.bind_some]
  rfl
theorem chA_lt (ok : LawOk L) (okN : NowOk L N) (hp : p < nP L) : ∀ i, i ≤ nC L → (chA L N tb th p i).1 < nC L
  | 0, _ => (okN p hp).1
  | i + 1, hi => by
    unfold chA
    split
    · show i < nC L; omega
    · exact chA_lt ok okN hp i (by omega)
theorem cls_choice (hD : DeskV h d lw nw tb th) (hL : LawV h lw L) (ok : LawOk L) (hN : NowV h nw (nP L) N) (okN : NowOk L N) (hp : p < nP L) : f_Desk_choiceOf h (some d) (nI p) = some (nI (chS L N tb th p)) := by
  have hleft := fun c (hc : c < nC L) => cls_left (c := c) hD hL ok hN okN hp hc
  have hh := (okN p hp).1
  obtain ⟨d1, d2, d3, d4⟩ := id hD
  obtain ⟨⟨g0, g1, g2, g3, g4⟩, -⟩ := hL
  obtain ⟨-, ⟨b3, hb3, hB3⟩, -⟩ := hN
  have h5 := ok.2.1
  unfold f_Desk_choiceOf
  simp only [d1, d2, hb3, hB3 p hp, g2, cl_gI d3, hleft _ hh, Option.bind_some]
  rw [pj_for' (fun i => (nI (chA L N tb th p i).1, (chA L N tb th p i).2, nI i)) (nI (chS L N tb th p)) (nC L) (by rw [nI_0]; rfl) (by omega) ?_ ?_]
  · rfl
  · intro i hi
    dsimp only
    rw [if_neg (nI_nle' hi (by omega)), hleft i hi, Option.bind_some, nI_s]
    by_cases z : (chA L N tb th p i).2 < lefS L N tb th p i
    · rw [if_neg (Int32.not_le.mpr z), show chA L N tb th p (i + 1) = (i, lefS L N tb th p i) from if_pos z]
    · rw [if_pos (Int32.not_lt.mp z), show chA L N tb th p (i + 1) = chA L N tb th p i from if_neg z]
  · dsimp only
    rw [if_pos (nI_le (Nat.le_refl _) (by omega))]
    rfl
end D1
