/-! arrays; new cells -/
def pj_aty : Nat → FieldType := fun t => match t with
  | 50 => .int
  | 51 => .long
  | 52 => .byte
  | 53 => .array .int
  | _ => .object "WaverTax$Now"
theorem pj_tys_at {G : Cx} {t : Nat} (h1 : 50 ≤ t) (h2 : t < 55) : (pj_tys G)[t - 50]? = some (G.2.2.2.2.1 t, pj_aty t) := by
  rcases (show t = 50 ∨ t = 51 ∨ t = 52 ∨ t = 53 ∨ t = 54 by omega) with rfl | rfl | rfl | rfl | rfl <;> rfl
theorem pj_arr {G : Cx} {U : State} (hK : pj_K G U) {t : Nat} (h1 : 50 ≤ t) (h2 : t < 55) : ArrOfT U (G.2.2.2.2.1 t) (pj_aty t) ∧ va_RA U (G.2.2.2.2.1 t) (pj_aty t) := hK.1.2 _ _ (pj_tys_at h1 h2)
theorem sA_spec {h h1 : PH} {t : Nat} {a : Option Nat} {j : Int32} {v : PV} (e : sA h t a j v = some h1) : ∃ i fs, a = some i ∧ h[i]? = some (t, fs) ∧ ¬ j < 0 ∧ j.toNatClampNeg < fs.length ∧ h1 = h.set i (t, fs.set j.toNatClampNeg v) := by
  unfold sA at e
  split at e
  · cases e
  · rename_i hj
    obtain ⟨i, fs, e1, e2, e3, e4⟩ := sF_spec e
    exact ⟨i, fs, e1, e2, hj, e3, e4⟩
theorem pj_el_spec {h : PH} {t : Nat} {a : Option Nat} {j : Int32} {v : PV} (e : pj_el h t a j = some v) : ∃ i fs, a = some i ∧ h[i]? = some (t, fs) ∧ ¬ j < 0 ∧ fs[j.toNatClampNeg]? = some v := by
  unfold pj_el at e
  obtain ⟨fs, h1, h2⟩ := Option.bind_eq_some_iff.mp e
  obtain ⟨i, h3, h4⟩ := pj_at_spec h1
  split at h2
  · cases h2
  · rename_i hj
    exact ⟨i, fs, h3, h4, hj, h2⟩
section J3
variable {l : Launch} {G : Cx} {R : Room} {Y : MI} {pc : Nat} {L : List (Option PV)} {st : List PV} {h : PH} {k n : Nat} {X Z : Type} {Ψ : X → MT → (State → Prop) → Prop} {o o1 o2 : Option X}
theorem pj_rd {H : Heap} (hR : pj_R G h H) {i t : Nat} {fs : List PV} (hi : h[i]? = some (t, fs)) (h1 : 50 ≤ t) (h2 : t < 55) : 100 ≤ i ∧ H[pj_ad G i]? = some (arrV (G.2.2.2.2.1 t) fs.length (pj_f G fs)) := by
  obtain ⟨a, b⟩ := hR.2.2.2 i _ hi (by show t ≠ 99; omega)
  exact ⟨a, b.2 h1⟩
theorem pj_in {cI : ClassId} {fs : List PV} {j : Int32} {f : Nat → Value} (hj : ¬ j < 0) (hl : j.toNatClampNeg < fs.length) : ¬ (j < 0 ∨ (arrV cI fs.length f).slots.size ≤ j.toNatClampNeg) := by
  rw [arrV_size]
  rintro (q | q)
  · exact hj q
  · omega
theorem pj_unk {cI : ClassId} {N : Nat} {f : Nat → Value} : (arrV cI N f).vm ≠ .unknown := fun q => by cases q
theorem pj_rdv {cI : ClassId} {fs : List PV} {j : Nat} {v : PV} (hv : fs[j]? = some v) : (arrV cI fs.length (pj_f G fs)).slots[j]? = some (pj_v G v) := by
  rw [arrV_read _ _ (List.getElem?_eq_some_iff.mp hv).1, pj_f_at hv]
theorem PJ.iald {a : Option Nat} {j : Int32} {K : Int32 → Option X} (hd : decode Y.2.1 pc = .ok (.iaload, 1)) (kk : ∀ x, PJ l G R Y (pc + 1) L (.inl x :: st) h k n (K x) Ψ) : PJ l G R Y pc L (.inl j :: .inr (.inr a) :: st) h k n ((aI h a j).bind K) Ψ := by
  intro M hM x9 hx9 Q hQ H locs ls hR hl hlo
  obtain ⟨x, h1, h2⟩ := Option.bind_eq_some_iff.mp hx9
  obtain ⟨v, h3, h4⟩ := Option.bind_eq_some_iff.mp h1
  obtain ⟨i, fs, rfl, h5, h6, h7⟩ := pj_el_spec h3
  cases pj_i_some h4
  obtain ⟨hx, hb, hml, hown, hts, hr, hlk, hnm, hK⟩ := id hM
  obtain ⟨-, hc⟩ := pj_rd hR h5 (by decide) (by decide)
  exact W.iald hx hb hc ((pj_arr hK (t := 50) (by decide) (by decide)).1 _ _) pj_unk (pj_in h6 (List.getElem?_eq_some_iff.mp h7).1) (pj_rdv h7) rfl rfl hd (kk x M hM x9 h2 Q hQ H locs ls hR hl hlo)
theorem PJ.lald {a : Option Nat} {j : Int32} {K : Int64 → Option X} (hd : decode Y.2.1 pc = .ok (.laload, 1)) (kk : ∀ x, PJ l G R Y (pc + 1) L (.inr (.inl x) :: st) h k n (K x) Ψ) : PJ l G R Y pc L (.inl j :: .inr (.inr a) :: st) h k n ((aL h a j).bind K) Ψ := by
  intro M hM x9 hx9 Q hQ H locs ls hR hl hlo
  obtain ⟨x, h1, h2⟩ := Option.bind_eq_some_iff.mp hx9
  obtain ⟨v, h3, h4⟩ := Option.bind_eq_some_iff.mp h1
  obtain ⟨i, fs, rfl, h5, h6, h7⟩ := pj_el_spec h3
  cases pj_l_some h4
  obtain ⟨hx, hb, hml, hown, hts, hr, hlk, hnm, hK⟩ := id hM
  obtain ⟨-, hc⟩ := pj_rd hR h5 (by decide) (by decide)
  exact W.lald hx hb hc ((pj_arr hK (t := 51) (by decide) (by decide)).1 _ _) pj_unk (pj_in h6 (List.getElem?_eq_some_iff.mp h7).1) (pj_rdv h7) rfl rfl hd (kk x M hM x9 h2 Q hQ H locs ls hR hl hlo)
theorem PJ.bald {a : Option Nat} {j : Int32} {K : Int32 → Option X} (hd : decode Y.2.1 pc = .ok (.baload, 1)) (kk : ∀ x, PJ l G R Y (pc + 1) L (.inl x :: st) h k n (K x) Ψ) : PJ l G R Y pc L (.inl j :: .inr (.inr a) :: st) h k n ((aB h a j).bind K) Ψ := by
  intro M hM x9 hx9 Q hQ H locs ls hR hl hlo
  obtain ⟨x, h1, h2⟩ := Option.bind_eq_some_iff.mp hx9
  obtain ⟨v, h3, h4⟩ := Option.bind_eq_some_iff.mp h1
  obtain ⟨i, fs, rfl, h5, h6, h7⟩ := pj_el_spec h3
  cases pj_i_some h4
  obtain ⟨hx, hb, hml, hown, hts, hr, hlk, hnm, hK⟩ := id hM
  obtain ⟨-, hc⟩ := pj_rd hR h5 (by decide) (by decide)
  exact W.bald hx hb hc ((pj_arr hK (t := 52) (by decide) (by decide)).1 _ _) pj_unk (pj_in h6 (List.getElem?_eq_some_iff.mp h7).1) (pj_rdv h7) rfl rfl hd (kk x M hM x9 h2 Q hQ H locs ls hR hl hlo)
theorem PJ.aald {a : Option Nat} {j : Int32} {K : Option Nat → Option X} (t : Nat) (ht : 53 ≤ t ∧ t < 55) (hd : decode Y.2.1 pc = .ok (.aaload, 1)) (kk : ∀ x, PJ l G R Y (pc + 1) L (.inr (.inr x) :: st) h k n (K x) Ψ) : PJ l G R Y pc L (.inl j :: .inr (.inr a) :: st) h k n ((aR h t a j).bind K) Ψ := by
  intro M hM x9 hx9 Q hQ H locs ls hR hl hlo
  obtain ⟨x, h1, h2⟩ := Option.bind_eq_some_iff.mp hx9
  obtain ⟨v, h3, h4⟩ := Option.bind_eq_some_iff.mp h1
  obtain ⟨i, fs, rfl, h5, h6, h7⟩ := pj_el_spec h3
  cases pj_r_some h4
  obtain ⟨hx, hb, hml, hown, hts, hr, hlk, hnm, hK⟩ := id hM
  obtain ⟨-, hc⟩ := pj_rd hR h5 (by omega) ht.2
  have hrf : (pj_aty t).isReference = true := by rcases (show t = 53 ∨ t = 54 by omega) with rfl | rfl <;> rfl
  exact W.aald hx hb hc ((pj_arr hK (t := t) (by omega) ht.2).1 _ _) hrf pj_unk (pj_in h6 (List.getElem?_eq_some_iff.mp h7).1) (pj_rdv h7) rfl rfl hd (kk x M hM x9 h2 Q hQ H locs ls hR hl hlo)
theorem pj_wr {H H' : Heap} (hR : pj_R G h H) {i t j : Nat} {fs : List PV} {v : PV} (hi : h[i]? = some (t, fs)) (h1 : 50 ≤ t) (h2 : t < 55) (hj : j < fs.length) (g1 : H'[pj_ad G i]? = some ((arrV (G.2.2.2.2.1 t) fs.length (pj_f G fs)).setSlot j (pj_v G v))) (g2 : H'.size = H.size) (g3 : ∀ q, q ≠ pj_ad G i → H'[q]? = H[q]?) : pj_R G (h.set i (t, fs.set j v)) H' := by
  refine hR.set hi (by omega) g2 g3 ⟨fun q => absurd q (by show ¬ t < 50; omega), fun _ => ?_⟩
  rw [g1, arrV_store, pj_f_set hj, List.length_set]
theorem PJ.iast {a : Option Nat} {j x : Int32} {K : PH → Option X} (hd : decode Y.2.1 pc = .ok (.iastore, 1)) (kk : ∀ h1, PJ l G R Y (pc + 1) L st h1 k n (K h1) Ψ) : PJ l G R Y pc L (.inl x :: .inl j :: .inr (.inr a) :: st) h k n ((sA h 50 a j (.inl x)).bind K) Ψ := by
  intro M hM x9 hx9 Q hQ H locs ls hR hl hlo
  obtain ⟨h1, e1, e2⟩ := Option.bind_eq_some_iff.mp hx9
  obtain ⟨i, fs, rfl, h5, h6, h7, rfl⟩ := sA_spec e1
  obtain ⟨hx, hb, hml, hown, hts, hr, hlk, hnm, hK⟩ := id hM
  obtain ⟨h100, hc⟩ := pj_rd hR h5 (by decide) (by decide)
  exact W.iast hx hb hc ((pj_arr hK (t := 50) (by decide) (by decide)).1 _ _) pj_unk (pj_in h6 h7) rfl rfl hd (fun H' g1 g2 g3 => kk _ M hM x9 e2 Q hQ H' _ ls (pj_wr (v := .inl x) hR h5 (by decide) (by decide) h7 g1 g2 g3) hl (pj_lc hlo h100))
theorem PJ.last {a : Option Nat} {j : Int32} {x : Int64} {K : PH → Option X} (hd : decode Y.2.1 pc = .ok (.lastore, 1)) (kk : ∀ h1, PJ l G R Y (pc + 1) L st h1 k n (K h1) Ψ) : PJ l G R Y pc L (.inr (.inl x) :: .inl j :: .inr (.inr a) :: st) h k n ((sA h 51 a j (.inr (.inl x))).bind K) Ψ := by
  intro M hM x9 hx9 Q hQ H locs ls hR hl hlo
  obtain ⟨h1, e1, e2⟩ := Option.bind_eq_some_iff.mp hx9
  obtain ⟨i, fs, rfl, h5, h6, h7, rfl⟩ := sA_spec e1
  obtain ⟨hx, hb, hml, hown, hts, hr, hlk, hnm, hK⟩ := id hM
  obtain ⟨h100, hc⟩ := pj_rd hR h5 (by decide) (by decide)
  exact W.last hx hb hc ((pj_arr hK (t := 51) (by decide) (by decide)).1 _ _) pj_unk (pj_in h6 h7) rfl rfl hd (fun H' g1 g2 g3 => kk _ M hM x9 e2 Q hQ H' _ ls (pj_wr (v := .inr (.inl x)) hR h5 (by decide) (by decide) h7 g1 g2 g3) hl (pj_lc hlo h100))
theorem PJ.bast {a : Option Nat} {j x : Int32} {K : PH → Option X} (hd : decode Y.2.1 pc = .ok (.bastore, 1)) (kk : ∀ h1, PJ l G R Y (pc + 1) L st h1 k n (K h1) Ψ) : PJ l G R Y pc L (.inl x :: .inl j :: .inr (.inr a) :: st) h k n ((sA h 52 a j (.inl x.toInt8.toInt32)).bind K) Ψ := by
  intro M hM x9 hx9 Q hQ H locs ls hR hl hlo
  obtain ⟨h1, e1, e2⟩ := Option.bind_eq_some_iff.mp hx9
  obtain ⟨i, fs, rfl, h5, h6, h7, rfl⟩ := sA_spec e1
  obtain ⟨hx, hb, hml, hown, hts, hr, hlk, hnm, hK⟩ := id hM
  obtain ⟨h100, hc⟩ := pj_rd hR h5 (by decide) (by decide)
  exact W.bast hx hb hc ((pj_arr hK (t := 52) (by decide) (by decide)).1 _ _) pj_unk (pj_in h6 h7) rfl rfl hd (fun H' g1 g2 g3 => kk _ M hM x9 e2 Q hQ H' _ ls (pj_wr (v := .inl x.toInt8.toInt32) hR h5 (by decide) (by decide) h7 g1 g2 g3) hl (pj_lc hlo h100))
/-- a Now is stored in a row of them -/
def sN (h : PH) (a : Option Nat) (j : Int32) (v : Option Nat) : Option PH := (pj_at h 2 v).bind fun _ => sA h 54 a j (.inr (.inr v))
theorem PJ.aast {a v : Option Nat} {j : Int32} {K : PH → Option X} (hd : decode Y.2.1 pc = .ok (.aastore, 1)) (kk : ∀ h1, PJ l G R Y (pc + 1) L st h1 k n (K h1) Ψ) : PJ l G R Y pc L (.inr (.inr v) :: .inl j :: .inr (.inr a) :: st) h k n ((sN h a j v).bind K) Ψ := by
  intro M hM x9 hx9 Q hQ H locs ls hR hl hlo
  obtain ⟨h1, e0, e2⟩ := Option.bind_eq_some_iff.mp hx9
  obtain ⟨vs, e3, e1⟩ := Option.bind_eq_some_iff.mp e0
  obtain ⟨iv, rfl, hv⟩ := pj_at_spec e3
  obtain ⟨i, fs, rfl, h5, h6, h7, rfl⟩ := sA_spec e1
  obtain ⟨hx, hb, hml, hown, hts, hr, hlk, hnm, hK⟩ := id hM
  obtain ⟨h100, hc⟩ := pj_rd hR h5 (by decide) (by decide)
  obtain ⟨r, f1, -, cell, q1, q2, q3, q4⟩ := ((hR.2.2.2 iv _ hv (by show (2 : Nat) ≠ 99; decide)).2).1 (by show (2 : Nat) < 50; decide)
  cases f1
  obtain ⟨hS, hfc, kC, hkC, hkind⟩ := hK.1.1 2 _ rfl
  obtain ⟨kA, comp, g1, g2, g3, g4⟩ := (pj_arr hK (t := 54) (by decide) (by decide)).2
  have hcc : comp = G.2.2.2.1.1 2 := Option.some.inj (g3.symm.trans hfc)
  subst hcc
  refine W.aast (comp := G.2.2.2.1.1 2) (t := .object "WaverTax$Now") hx hb hc (fun q hq => by cases hq) pj_unk g1 g2 rfl hkC ⟨h6, by rw [arrV_size]; exact h7⟩ q1 (fun q hq => by rw [q3] at hq; cases hq) (by rw [q2]; exact hkC) (by rw [q2]; exact va_asg _ _) rfl rfl hd (fun H' g1 g2 g3 => kk _ M hM x9 e2 Q hQ H' _ ls (pj_wr (v := .inr (.inr (some iv))) hR h5 (by decide) (by decide) h7 g1 g2 g3) hl (pj_lc hlo h100))
theorem PJ.alen {a : Option Nat} {K : Int32 → Option X} (t : Nat) (ht : 50 ≤ t ∧ t < 55) (hd : decode Y.2.1 pc = .ok (.arraylength, 1)) (kk : ∀ x, PJ l G R Y (pc + 1) L (.inl x :: st) h k n (K x) Ψ) : PJ l G R Y pc L (.inr (.inr a) :: st) h k n ((aN h t a).bind K) Ψ := by
  intro M hM x9 hx9 Q hQ H locs ls hR hl hlo
  obtain ⟨x, h1, h2⟩ := Option.bind_eq_some_iff.mp hx9
  unfold aN at h1
  obtain ⟨es, h3, h4⟩ := Option.map_eq_some_iff.mp h1
  obtain ⟨i, rfl, h5⟩ := pj_at_spec h3
  obtain ⟨hx, hb, hml, hown, hts, hr, hlk, hnm, hK⟩ := id hM
  obtain ⟨-, hc⟩ := pj_rd hR h5 ht.1 ht.2
  exact W.alen hx hb hc ((pj_arr hK (t := t) ht.1 ht.2).1 _ _) (n := x) (by rw [arrV_size]; exact h4) rfl rfl hd (kk x M hM x9 h2 Q hQ H locs ls hR hl hlo)
/-- a new object -/
theorem PJ.new {ci idx N : Nat} {C : String} {T : u_T} {ty0 : Nat → FieldType} (hc : pj_cd ci C T N ty0) (hlen : (pj_new ci).length = N) (hdf : ∀ G j, j < N → defaultValue (ty0 j) = pj_f G (pj_new ci) j) (hw1 : Cond.classLink Y.1.cls idx C ∈ pj_ws) (hw2 : Cond.instantiable C N ∈ pj_ws) (hw3 : Cond.initialized C ∈ pj_ws) (hk1 : k + 1 ≤ R.cells) (hn1 : n + N ≤ R.slots) (hd : decode Y.2.1 pc = .ok (.new idx, 3))
    (kk : PJ l G R Y (pc + 3) L (.inr (.inr (some h.length)) :: st) (h ++ [(ci, pj_new ci)]) (k + 1) (n + N) o Ψ) : PJ l G R Y pc L st h k n o Ψ := by
  intro M hM x9 hx9 Q hQ H locs ls hR hl hlo
  obtain ⟨hx, hb, hml, hown, hts, hr, hlk, hnm, hK⟩ := id hM
  obtain ⟨hcl, hci, hin, hna, hty, hC⟩ := hc
  obtain ⟨hS, hfc, kC, hkC, hkind⟩ := id (hK.1.1 ci _ hcl)
  refine W.newcK hx hb hown (hts _ hw1) (hts _ hw2) (hts _ hw3) (g := F0 M.2.2.2.1 pc ls (st.map (pj_v G))) rfl hd hk1 hn1 hfc (h := pj_ad G h.length) hR.next.symm (fun H' kC' g0 g1 g2 g3 => ?_)
  have hRn := hR.next
  refine kk M hM x9 hx9 Q hQ H' locs ls (hR.push (c := (ci, pj_new ci)) (by rw [g2, hRn]) (fun q hq => g3 q (by rw [hRn]; exact hq)) ⟨fun _ => ⟨_, hcl, hlen, ?_⟩, fun q => absurd hci (by show ¬ ci < 50; exact Nat.not_lt.mpr q)⟩) hl hlo
  exact t_OB.to (u_born ty0 hts hin (hK.1.1 ci _ hcl) g0 g1 hty) (fun j hj => hdf G j hj)
/-- a new array of whole numbers -/
theorem pj_f_rep (N : Nat) (v : PV) : ∀ j, j < N → pj_f G (List.replicate N v) j = pj_v G v := by
  intro j hj
  exact pj_f_at (by simp [hj])
theorem pj_arrV_rep (cA : ClassId) (N : Nat) (v : PV) : ({ cls := cA, slots := Array.replicate N (pj_v G v), vm := .none } : Cell) = arrV cA (List.replicate N v).length (pj_f G (List.replicate N v)) := by
  rw [arrV_new, List.length_replicate]
  unfold arrV
  congr 1
  apply Array.ext
  · simp
  · intro j h1 h2
    simp only [Array.size_ofFn] at h1
    simp [pj_f_rep N v j h1]
theorem PJ.newa {atype : ArrayType} {t N : Nat} {c : Int32} {v : PV} (ht : 50 ≤ t ∧ t < 53) (hty : newarray.typeOf atype = pj_aty t) (hdv : ∀ G, defaultValue (pj_aty t) = pj_v G v) (hw : Cond.arrayClass (pj_aty t) ∈ pj_ws) (hc : ¬ c < 0) (hN : c.toNatClampNeg = N) (hby : N * componentBytes (pj_aty t) ≤ 536870912) (hk1 : k + 1 ≤ R.cells) (hn1 : n + N ≤ R.slots) (hd : decode Y.2.1 pc = .ok (.newarray atype, 2))
    (kk : PJ l G R Y (pc + 2) L (.inr (.inr (some h.length)) :: st) (h ++ [(t, List.replicate N v)]) (k + 1) (n + N) o Ψ) : PJ l G R Y pc L (.inl c :: st) h k n o Ψ := by
  intro M hM x9 hx9 Q hQ H locs ls hR hl hlo
  obtain ⟨hx, hb, hml, hown, hts, hr, hlk, hnm, hK⟩ := id hM
  subst hN
  have hfc : M.2.2.1.vm.findClass ("[" ++ (pj_aty t).toString) = some (G.2.2.2.2.1 t) := by
    have h9 := (pj_arr hK (t := t) ht.1 (by omega)).2
    rcases (show t = 50 ∨ t = 51 ∨ t = 52 by omega) with rfl | rfl | rfl <;> exact h9
  rw [← hty] at hw hby hfc
  refine W.newa hx hb (hts _ hw) (g := F0 M.2.2.2.1 pc ls (.int c :: st.map (pj_v G))) rfl hd rfl hc hby hk1 hn1 (fun cA kA comp g1 g2 g3 => ?_)
  cases hfc.symm.trans g1
  have hRn := hR.next
  have hk9 := kk M hM x9 hx9 Q hQ (H.push { cls := G.2.2.2.2.1 t, slots := Array.replicate c.toNatClampNeg (defaultValue (newarray.typeOf atype)), vm := .none }) locs ls (hR.push (c := (t, List.replicate c.toNatClampNeg v)) (by simp) (fun q hq => by rw [Array.getElem?_push, if_neg (Nat.ne_of_lt hq)]) ⟨fun q => absurd q (by show ¬ t < 50; omega), fun _ => ?_⟩) hl hlo
  · rw [List.map_cons] at hk9
    have e9 : pj_v G (.inr (.inr (some h.length))) = .ref H.size := by show Value.ref (pj_ad G h.length) = _; rw [hRn]
    rw [e9] at hk9
    exact hk9
  · show (H.push _)[pj_ad G h.length]? = _
    rw [hRn, hty, hdv G]
    rw [pj_arrV_rep]
    simp
/-- a new row of Nows -/
theorem PJ.anew {N idx : Nat} {c : Int32} (hw1 : Cond.classLink Y.1.cls idx "WaverTax$Now" ∈ pj_ws) (hc : ¬ c < 0) (hN : c.toNatClampNeg = N) (hby : N * 4 ≤ 536870912) (hk1 : k + 1 ≤ R.cells) (hn1 : n + N ≤ R.slots) (hd : decode Y.2.1 pc = .ok (.anewarray idx, 3))
    (kk : PJ l G R Y (pc + 3) L (.inr (.inr (some h.length)) :: st) (h ++ [(54, List.replicate N (.inr (.inr Option.none)))]) (k + 1) (n + N) o Ψ) : PJ l G R Y pc L (.inl c :: st) h k n o Ψ := by
  intro M hM x9 hx9 Q hQ H locs ls hR hl hlo
  obtain ⟨hx, hb, hml, hown, hts, hr, hlk, hnm, hK⟩ := id hM
  subst hN
  obtain ⟨kA9, comp9, h1, h2, h3, hfc⟩ := (pj_arr hK (t := 54) (by decide) (by decide)).2
  obtain ⟨w9, -, -, hAO, -⟩ := hK.2.2.2.2.2
  refine W.anew hx hb hown (hts _ hw1) (va_AO.use hAO) (g := F0 M.2.2.2.1 pc ls (.int c :: st.map (pj_v G))) rfl hd rfl hc hby hk1 hn1 (fun cA kA comp g1 g2 g3 g4 => ?_)
  cases hfc.symm.trans g1
  have hRn := hR.next
  have hk9 := kk M hM x9 hx9 Q hQ (H.push { cls := G.2.2.2.2.1 54, slots := Array.replicate c.toNatClampNeg .null, vm := .none }) locs ls (hR.push (c := (54, List.replicate c.toNatClampNeg (.inr (.inr Option.none)))) (by simp) (fun q hq => by rw [Array.getElem?_push, if_neg (Nat.ne_of_lt hq)]) ⟨fun q => absurd q (by show ¬ (54 : Nat) < 50; decide), fun _ => ?_⟩) hl hlo
  · rw [List.map_cons] at hk9
    have e9 : pj_v G (.inr (.inr (some h.length))) = .ref H.size := by show Value.ref (pj_ad G h.length) = _; rw [hRn]
    rw [e9] at hk9
    exact hk9
  · show (H.push _)[pj_ad G h.length]? = _
    rw [hRn]
    have e8 := pj_arrV_rep (G := G) (G.2.2.2.2.1 54) c.toNatClampNeg (.inr (.inr Option.none))
    rw [show pj_v G (.inr (.inr Option.none)) = Value.null from rfl] at e8
    rw [e8]
    simp
end J3
