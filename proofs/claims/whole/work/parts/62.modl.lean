/-! the reference's law and hour, and what it reckons of them -/
def MLawV (h : PH) (ml : Nat) (L : LawD) : Prop :=
  (gI h 11 (some ml) 0 = some (root L) ∧ gI h 11 (some ml) 1 = some (third L) ∧ gI h 11 (some ml) 2 = some (nI (nC L)) ∧ gI h 11 (some ml) 3 = some (nI (nP L)) ∧ gI h 11 (some ml) 4 = some (nI (nK L)) ∧ gI h 11 (some ml) 5 = some (nI (nR L)) ∧ gI h 11 (some ml) 6 = some (nI (nQ L)) ∧ gI h 11 (some ml) 7 = some (nI (nS L)) ∧ gI h 11 (some ml) 8 = some (nI (nL L))) ∧
  (∃ a, gR h 11 (some ml) 10 = some (some a) ∧ ∀ c d, c < nC L → d < nC L → aI h (some a) (nI (5 * c + d)) = some (far L c d)) ∧
  (∃ a, gR h 11 (some ml) 11 = some (some a) ∧ Ar h a (nP L) (srt L)) ∧
  (∃ a, gR h 11 (some ml) 12 = some (some a) ∧ Ar h a (nP L) (fun p => nI (frs L p))) ∧
  (∃ a, gR h 11 (some ml) 13 = some (some a) ∧ ∀ p c, p < nP L → c < nC L → ∃ x, aI h (some a) (nI (5 * p + c)) = some x ∧ (if x = -1 then 0 else x) = wor L p c) ∧
  ((∃ a, gR h 11 (some ml) 14 = some (some a) ∧ Ar h a (nR L) (fun k => nI (rpe L k))) ∧ (∃ a, gR h 11 (some ml) 15 = some (some a) ∧ Ar h a (nR L) (fun k => nI (rch L k))) ∧ (∃ a, gR h 11 (some ml) 16 = some (some a) ∧ Ar h a (nR L) (rho L)) ∧ (∃ a, gR h 11 (some ml) 17 = some (some a) ∧ Ar h a (nR L) (rod L)) ∧ (∃ a, gR h 11 (some ml) 18 = some (some a) ∧ Ar h a (nR L) (rmo L))) ∧
  ((∃ a, gR h 11 (some ml) 19 = some (some a) ∧ Ar h a (nQ L) (fun k => nI (cpe L k))) ∧ (∃ a, gR h 11 (some ml) 20 = some (some a) ∧ Ar h a (nQ L) (cam L)) ∧ (∃ a, gR h 11 (some ml) 21 = some (some a) ∧ Ar h a (nQ L) (cho L))) ∧
  ((∃ a, gR h 11 (some ml) 22 = some (some a) ∧ Ar h a (nS L) (crd L)) ∧ (∃ a, gR h 11 (some ml) 23 = some (some a) ∧ Ar h a (nS L) (fun s => nea L s ||| ((1 : Int32) <<< (nI s &&& 31)))))
/-- a row of the reference's: an hour -/
def MRow (h : PH) (a n : Nat) (N : NowD) : Prop :=
  (∀ p, p < n → aI h (some a) (nI p) = some (nI (hel N p)) ∧ aI h (some a) (nI (5 + p)) = some (tur N p) ∧ aI h (some a) (nI (10 + p)) = some (spe N p) ∧ aI h (some a) (nI (15 + p)) = some (lat N p)) ∧
  aI h (some a) 20 = some (cme N) ∧ aI h (some a) 21 = some (hou N) ∧ aI h (some a) 22 = some (sed N)
/-- the reference with its law, its table and third -/
def ModV (h : PH) (m ml : Nat) (tb th : Int32) : Prop := gR h 12 (some m) 3 = some (some ml) ∧ gI h 12 (some m) 21 = some tb ∧ gI h 12 (some m) 22 = some th
theorem nI_5 (c d : Nat) : (5 : Int32) * nI c + nI d = nI (5 * c + d) := by
  rw [show (5 : Int32) = nI 5 from by decide, pk_mul, nI_add]
theorem nI_z (p : Nat) : (0 : Int32) + nI p = nI p := by
  rw [show (0 : Int32) = nI 0 from by decide, nI_add, Nat.zero_add]
theorem nI_5p (p : Nat) : (5 : Int32) + nI p = nI (5 + p) := by rw [show (5 : Int32) = nI 5 from by decide, nI_add]
theorem nI_10p (p : Nat) : (10 : Int32) + nI p = nI (10 + p) := by rw [show (10 : Int32) = nI 10 from by decide, nI_add]
theorem nI_15p (p : Nat) : (15 : Int32) + nI p = nI (15 + p) := by rw [show (15 : Int32) = nI 15 from by decide, nI_add]
section D2
variable {h : PH} {m ml a : Nat} {L : LawD} {N : NowD} {tb th : Int32} {p c : Nat}
theorem mod_far (hL : MLawV h ml L) (ok : LawOk L) {c d : Nat} (hc : c < nC L) (hd : d < nC L) : f_ML_far h (some ml) (nI c) (nI d) = some (farS L c d) := by
  obtain ⟨-, ⟨a, ha, hA⟩, -⟩ := hL
  have h5 := ok.2.1
  unfold f_ML_far farS
  by_cases e : c = d
  · subst e
    simp
  · have e' : ¬ nI c = nI d := fun q => e ((nI_eq (by omega) (by omega)).mp q)
    rw [if_pos e', if_neg e]
    simp only [ha, nI_5, hA c d hc hd, Option.bind_some]
    by_cases z : far L c d = 0
    · simp [z]
    · simp [z]
theorem mod_likes (hL : MLawV h ml L) (hp : p < nP L) (hc : c < nC L) : f_ML_likes h (some ml) (nI p) (nI c) = some (wor L p c) := by
  obtain ⟨-, -, -, -, ⟨a, ha, hA⟩, -⟩ := hL
  obtain ⟨x, hx, hw⟩ := hA p c hp hc
  unfold f_ML_likes
  simp only [ha, nI_5, hx, Option.bind_some]
  by_cases z : x = -1
  · rw [if_neg (fun q => q z)]
    rw [if_pos z] at hw
    rw [hw]
  · rw [if_pos z]
    rw [if_neg z] at hw
    rw [hw]
theorem mod_bit (x : Int32) (k : Nat) : f_M_bit h x (nI k) = some (if ((x >>> (nI k &&& 31)) &&& (1 : Int32)) = 1 then 1 else 0) := by
  unfold f_M_bit
  by_cases z : ((x >>> (nI k &&& 31)) &&& (1 : Int32)) = 1
  · rw [if_neg (fun q => q z), if_pos z]
  · rw [if_pos z, if_neg z]
theorem mod_worth (hM : ModV h m ml tb th) (hL : MLawV h ml L) (ok : LawOk L) (came : Int32) (hp : p < nP L) (hc : c < nC L) : f_M_worthBy h (some m) (nI p) (nI c) came = some (worS L came p c) := by
  have hlk := mod_likes hL hp hc
  obtain ⟨m1, m2, m3⟩ := hM
  obtain ⟨⟨g0, g1, g2, g3, g4, g5, -⟩, -, -, -, -, ⟨⟨a1, ha1, hA1⟩, ⟨a2, ha2, hA2⟩, -, -, ⟨a5, ha5, hA5⟩⟩, -⟩ := hL
  have h5 := ok.2.1
  have h6 := ok.2.2.1
  have h4 := ok.2.2.2.1
  unfold f_M_worthBy
  simp only [m1, cl_gI g0, hlk, Option.bind_some]
  rw [pj_for' (fun i => (worA L came p c i, nI i)) (worS L came p c) (nR L) (by rw [nI_0]; rfl) (by omega) ?_ ?_]
  · rfl
  · intro i hi
    obtain ⟨q1, q2⟩ := ok.2.2.2.2.2.2.2.1 i hi
    have f1 : aI h (some a1) (nI i) = some (nI (rpe L i)) := hA1 i hi
    have f2 : aI h (some a2) (nI i) = some (nI (rch L i)) := hA2 i hi
    dsimp only
    rw [g5, Option.bind_some, if_neg (nI_nle' hi (by omega)), mod_bit, Option.bind_some]
    by_cases z3 : ((came >>> (nI i &&& 31)) &&& (1 : Int32)) = 1
    · rw [if_pos z3, if_neg (by decide), ha1, Option.bind_some, f1, Option.bind_some]
      by_cases z1 : rpe L i = p
      · rw [z1, if_neg (fun q => q rfl), ha2, Option.bind_some, f2, Option.bind_some]
        by_cases z2 : rch L i = c
        · rw [z2, if_neg (fun q => q rfl), ha5, Option.bind_some, hA5 i hi, Option.bind_some, nI_s]
          rw [show worA L came p c (i + 1) = worA L came p c i + rmo L i from if_pos ⟨z1, z2, z3⟩]
        · rw [if_pos (fun q => z2 ((nI_eq (by omega) (by omega)).mp q)), nI_s]
          rw [show worA L came p c (i + 1) = worA L came p c i from if_neg (fun q => z2 q.2.1)]
      · rw [if_pos (fun q => z1 ((nI_eq (by omega) (by omega)).mp q)), nI_s]
        rw [show worA L came p c (i + 1) = worA L came p c i from if_neg (fun q => z1 q.1)]
    · rw [if_neg z3, if_pos rfl, nI_s]
      rw [show worA L came p c (i + 1) = worA L came p c i from if_neg (fun q => z3 q.2.2)]
  · dsimp only
    rw [g5, Option.bind_some, if_pos (nI_le (Nat.le_refl _) (by omega))]
    rfl
theorem mod_taxBy (hM : ModV h m ml tb th) (hL : MLawV h ml L) (ok : LawOk L) {held : Nat} (hp : p < nP L) (hh : held < nC L) (hc : c < nC L) (k ago : Int32) : f_M_taxBy h (some m) (nI p) (nI held) (nI c) k ago = some (taxS L tb th p held c k ago) := by
  have hap := fun (c d : Nat) (hc : c < nC L) (hd : d < nC L) => mod_far hL ok hc hd
  obtain ⟨m1, m2, m3⟩ := hM
  obtain ⟨⟨g0, g1, -⟩, -, ⟨a6, ha6, hA6⟩, ⟨a7, ha7, hA7⟩, -⟩ := hL
  have h5 := ok.2.1
  have hf := ok.2.2.2.2.2.2.1 p hp
  have f7 : aI h (some a7) (nI p) = some (nI (frs L p)) := hA7 p hp
  unfold f_M_taxBy taxS
  simp only [m1, m2, m3, ha6, hA6 p hp, ha7, f7, g0, cl_gI g0, hap _ _ hh hc, Option.bind_some]
  by_cases z1 : c = held
  · rw [if_pos (by rw [z1]), if_pos (Or.inl z1)]
  · rw [if_neg (fun q => z1 ((nI_eq (by omega) (by omega)).mp q).symm)]
    by_cases z2 : srt L p = 1
    · rw [if_pos z2, if_pos (Or.inr (Or.inl z2))]
    · rw [if_neg z2]
      by_cases z3 : srt L p = 2
      · rw [if_neg (fun q => q z3), if_pos (Or.inr (Or.inr z3))]
      · have hn : ¬ (c = held ∨ srt L p = 1 ∨ srt L p = 2) := by
          rintro (q | q | q)
          · exact z1 q
          · exact z2 q
          · exact z3 q
        rw [if_pos z3, if_neg hn]
        have e0 : (if ¬ tb = -1 then some tb else some (farS L held c)) = some (if tb = -1 then farS L held c else tb) := by
          by_cases z : tb = -1 <;> simp [z]
        rw [e0, Option.bind_some]
        generalize (if tb = -1 then farS L held c else tb) = t0
        have e1 : (if ago = -1 then some t0 else if root L ≤ ago then some t0 else some (t0 * 2)) = some (if ago = -1 ∨ root L ≤ ago then t0 else t0 * 2) := by
          by_cases z : ago = -1
          · simp [z]
          · by_cases y : root L ≤ ago <;> simp [z, y]
        rw [e1, Option.bind_some]
        generalize (if ago = -1 ∨ root L ≤ ago then t0 else t0 * 2) = t1
        have e2 : (if k < 2 then some t1 else some (t1 * th)) = some (if k < 2 then t1 else t1 * th) := by
          by_cases z : k < 2 <;> simp [z]
        rw [e2, Option.bind_some]
        generalize (if k < 2 then t1 else t1 * th) = t2
        have e3 : (if ¬ nI c = nI (frs L p) then some t2 else if (2 : Int32) = 0 then none else some (t2 / 2)) = some (if c = frs L p then t2 / 2 else t2) := by
          by_cases z : c = frs L p
          · rw [if_neg (by rw [z]; exact fun q => q rfl), if_neg (by decide), if_pos z]
          · rw [if_pos (fun q => z ((nI_eq (by omega) (by omega)).mp q)), if_neg z]
        rw [e3, Option.bind_some]
        generalize (if c = frs L p then t2 / 2 else t2) = t3
        by_cases z : srt L p = 3 <;> simp [z]
theorem mod_taxIn (hM : ModV h m ml tb th) (hL : MLawV h ml L) (ok : LawOk L) (hR : MRow h a (nP L) N) (hp : p < nP L) (hh : hel N p < nC L) (hc : c < nC L) : f_M_taxIn h (some m) (some a) (nI p) (nI c) = some (taxN L N tb th p c) := by
  obtain ⟨hrow, r20, r21, r22⟩ := hR
  obtain ⟨e0, e5, e10, e15⟩ := hrow p hp
  unfold f_M_taxIn taxN agoS
  simp only [nI_15p, nI_z, nI_5p, e0, e5, e15, r21, Option.bind_some]
  by_cases z : lat N p = -2
  · rw [if_neg (fun q => q z), if_pos z]
    simp only [Option.bind_some]
    rw [cl_gI hM.2.1, mod_taxBy hM hL ok hp hh hc]
    rfl
  · rw [if_pos z, if_neg z]
    simp only [Option.bind_some]
    rw [cl_gI hM.2.1, mod_taxBy hM hL ok hp hh hc]
    rfl
/-- what is held costs nothing -/
theorem taxN_held : taxN L N tb th p (hel N p) = 0 := by
  unfold taxN taxS
  rw [if_pos (Or.inl rfl)]
theorem lef_held : lefS L N tb th p (hel N p) = worS L (cme N) p (hel N p) := by
  unfold lefS
  rw [taxN_held, Int32.sub_zero]
theorem mod_chooses (hM : ModV h m ml tb th) (hL : MLawV h ml L) (ok : LawOk L) (okN : NowOk L N) (hR : MRow h a (nP L) N) (hp : p < nP L) : f_M_choosesIn h (some m) (some a) (nI p) = some (nI (chS L N tb th p)) := by
  have hh := (okN p hp).1
  have htax := fun c (hc : c < nC L) => mod_taxIn (c := c) hM hL ok hR hp hh hc
  have hwor := fun c (hc : c < nC L) => mod_worth (c := c) hM hL ok (cme N) hp hc
  obtain ⟨m1, m2, m3⟩ := id hM
  obtain ⟨⟨g0, g1, g2, -⟩, -⟩ := hL
  obtain ⟨hrow, r20, r21, r22⟩ := hR
  obtain ⟨e0, e5, e10, e15⟩ := hrow p hp
  have h5 := ok.2.1
  unfold f_M_choosesIn
  simp only [nI_z, e0, r20, m1, g2, cl_gI m2, hwor _ hh, Option.bind_some]
  rw [pj_for' (fun i => (nI (chA L N tb th p i).1, (chA L N tb th p i).2, nI i)) (nI (chS L N tb th p)) (nC L) (by rw [nI_0]; show _ = (_, (chA L N tb th p 0).2, _); rw [show (chA L N tb th p 0).2 = worS L (cme N) p (hel N p) from lef_held]; rfl) (by omega) ?_ ?_]
  · rfl
  · intro i hi
    dsimp only
    rw [if_neg (nI_nle' hi (by omega)), hwor i hi, Option.bind_some, htax i hi, Option.bind_some, nI_s, show worS L (cme N) p i - taxN L N tb th p i = lefS L N tb th p i from rfl]
    by_cases z : (chA L N tb th p i).2 < lefS L N tb th p i
    · rw [if_pos z, show chA L N tb th p (i + 1) = (i, lefS L N tb th p i) from if_pos z]
    · rw [if_neg z, show chA L N tb th p (i + 1) = chA L N tb th p i from if_neg z]
  · dsimp only
    rw [if_pos (nI_le (Nat.le_refl _) (by omega))]
    rfl
end D2
