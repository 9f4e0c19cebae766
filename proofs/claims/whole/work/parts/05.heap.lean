/-! fields and arrays -/
def pj_i : PV → Option Int32
  | .inl x => some x
  | _ => none
def pj_l : PV → Option Int64
  | .inr (.inl x) => some x
  | _ => none
def pj_r : PV → Option (Option Nat)
  | .inr (.inr x) => some x
  | _ => none
theorem pj_i_some {v : PV} {x : Int32} (h : pj_i v = some x) : v = .inl x := by
  rcases v with y | y | y <;> first | (cases h; rfl) | cases h
theorem pj_l_some {v : PV} {x : Int64} (h : pj_l v = some x) : v = .inr (.inl x) := by
  rcases v with y | y | y <;> first | (cases h; rfl) | cases h
theorem pj_r_some {v : PV} {x : Option Nat} (h : pj_r v = some x) : v = .inr (.inr x) := by
  rcases v with y | y | y <;> first | (cases h; rfl) | cases h
def gV (h : PH) (t : Nat) (a : Option Nat) (k : Nat) : Option PV := (pj_at h t a).bind fun fs => fs[k]?
def gI (h : PH) (t : Nat) (a : Option Nat) (k : Nat) : Option Int32 := (gV h t a k).bind pj_i
def gL (h : PH) (t : Nat) (a : Option Nat) (k : Nat) : Option Int64 := (gV h t a k).bind pj_l
def gR (h : PH) (t : Nat) (a : Option Nat) (k : Nat) : Option (Option Nat) := (gV h t a k).bind pj_r
def sF (h : PH) (t : Nat) (a : Option Nat) (k : Nat) (v : PV) : Option PH := match a with
  | none => none
  | some i => match h[i]? with
    | some c => if c.1 = t ∧ k < c.2.length then some (h.set i (t, c.2.set k v)) else none
    | none => none
def sZ (h : PH) (t : Nat) (a : Option Nat) (k : Nat) (x : Int32) : Option PH := if x = 0 ∨ x = 1 then sF h t a k (.inl x) else none
theorem sF_spec {h h1 : PH} {t k : Nat} {a : Option Nat} {v : PV} (e : sF h t a k v = some h1) : ∃ i fs, a = some i ∧ h[i]? = some (t, fs) ∧ k < fs.length ∧ h1 = h.set i (t, fs.set k v) := by
  unfold sF at e
  split at e
  · cases e
  · rename_i i
    cases hc : h[i]? with
    | none => rw [hc] at e; cases e
    | some c =>
      rw [hc] at e
      dsimp only at e
      split at e
      · rename_i ht
        cases e
        exact ⟨i, c.2, rfl, by rw [← ht.1]; exact hc, ht.2, rfl⟩
      · cases e
/-- an element: the index as the machine takes it -/
def pj_el (h : PH) (t : Nat) (a : Option Nat) (j : Int32) : Option PV := (pj_at h t a).bind fun es => if j < 0 then none else es[j.toNatClampNeg]?
def aI (h : PH) (a : Option Nat) (j : Int32) : Option Int32 := (pj_el h 50 a j).bind pj_i
def aL (h : PH) (a : Option Nat) (j : Int32) : Option Int64 := (pj_el h 51 a j).bind pj_l
def aB (h : PH) (a : Option Nat) (j : Int32) : Option Int32 := (pj_el h 52 a j).bind pj_i
def aR (h : PH) (t : Nat) (a : Option Nat) (j : Int32) : Option (Option Nat) := (pj_el h t a j).bind pj_r
def aN (h : PH) (t : Nat) (a : Option Nat) : Option Int32 := (pj_at h t a).map fun es => es.length.toInt32
def sA (h : PH) (t : Nat) (a : Option Nat) (j : Int32) (v : PV) : Option PH := if j < 0 then none else sF h t a j.toNatClampNeg v
/-- a class's description -/
def pj_cd (ci : Nat) (C : String) (T : u_T) (N : Nat) (ty0 : Nat → FieldType) : Prop :=
  pj_cls[ci]? = some (C, T, N) ∧ ci < 50 ∧ (∀ w ∈ u_ws C T N, w ∈ pj_ws) ∧ (∀ a, a < N → ∀ b, b < N → a ≠ b → (T a).2.1 ≠ (T b).2.1) ∧ (∀ k, k < N → parseFieldDescriptor (T k).2.2.1 = some (ty0 k)) ∧ (∀ k, k < N → (T k).1 = C)
/-- a place where a field is linked -/
def pj_fs (own : String) (ci k idx : Nat) (ty : FieldType) : Prop := ∃ (C : String) (T : u_T) (N : Nat) (ty0 : Nat → FieldType), pj_cd ci C T N ty0 ∧ k < N ∧ ty0 k = ty ∧ ((Cond.fieldLink own idx C (T k).2.1 (T k).2.2.1 ∈ pj_ws) ∨ (∃ host, Cond.fieldLinkNest own idx C (T k).2.1 (T k).2.2.1 host ∈ pj_nest))
def pj_ps (own mn : String) (ci k idx : Nat) (ty : FieldType) : Prop := ∃ (C : String) (T : u_T) (N : Nat) (ty0 : Nat → FieldType), pj_cd ci C T N ty0 ∧ k < N ∧ ty0 k = ty ∧
  (((T k).2.2.2 = false ∧ ((Cond.fieldLink own idx C (T k).2.1 (T k).2.2.1 ∈ pj_ws) ∨ (∃ host, Cond.fieldLinkNest own idx C (T k).2.1 (T k).2.2.1 host ∈ pj_nest))) ∨ ((T k).2.2.2 = true ∧ own = C ∧ mn = "<init>" ∧ Cond.fieldLink own idx C (T k).2.1 (T k).2.2.1 ∈ pj_ws))
section J2
variable {l : Launch} {G : Cx} {R : Room} {Y : MI} {pc : Nat} {L : List (Option PV)} {st : List PV} {h : PH} {k n : Nat} {X Z : Type} {Ψ : X → MT → (State → Prop) → Prop} {o o1 o2 : Option X}
theorem pj_get {t kf idx i : Nat} {ty : FieldType} {fs : List PV} {v : PV} (hd : decode Y.2.1 pc = .ok (.getfield idx, 3)) (hs : pj_fs Y.1.cls t kf idx ty) (hi : h[i]? = some (t, fs)) (hv : fs[kf]? = some v) {M : MT} (hM : pj_M G Y M) {Q : State → Prop} (kk : pj_C l G R Y.2.2.1 M (pc + 3) L (v :: st) h k n Q) : pj_C l G R Y.2.2.1 M pc L (.inr (.inr (some i)) :: st) h k n Q := by
  intro H locs ls hR hl hlo
  have hk9 := kk H locs ls hR hl hlo
  obtain ⟨hx, hb, hml, hown, hts, hr, hlk, hnm, hK⟩ := hM
  obtain ⟨C, T, N, ty0, ⟨hc, ht, hin, -, -, hC⟩, hk, -, hlink⟩ := hs
  obtain ⟨r, e1, -, cell, q1, q2, q3, q4⟩ := ((hR.2.2.2 i _ hi (by show t ≠ 99; omega)).2).1 ht
  cases hc.symm.trans e1
  obtain ⟨hS, hfc, kC, hkC, hkind⟩ := hK.1.1 t _ hc
  obtain ⟨cf, kf9, fi, f, hfi, hsl⟩ := hS kf hk
  have hst := (u_facts hfc hkC (u_lays hts hin hk) hfi).1
  have hslot : cell.slots[f.slot]? = some (pj_v G v) := by
    rw [hsl, q4 kf hk]
    exact congrArg some (pj_f_at hv)
  have hun : cell.vm ≠ .unknown := by rw [q3]; exact fun h => by cases h
  have hfi' : M.2.2.1.fieldFound? C (T kf).2.1 (T kf).2.2.1 = some (cf, kf9, fi, f) := by have := hfi; rw [hC kf hk] at this; exact this
  rcases hlink with hw | ⟨host, hw⟩
  · exact W.getf hx hb hown (hts _ hw) hfi' hst q1 hun hslot rfl rfl hd hk9
  · exact va_Wgetf hx hb hown (va_Nw.use rfl (hK.2.1 _ hw)) hfi' hst q1 hun hslot rfl rfl hd hk9
theorem gV_spec {t kf : Nat} {a : Option Nat} {v : PV} (e : gV h t a kf = some v) : ∃ i fs, a = some i ∧ h[i]? = some (t, fs) ∧ fs[kf]? = some v := by
  unfold gV at e
  obtain ⟨fs, h1, h2⟩ := Option.bind_eq_some_iff.mp e
  obtain ⟨i, h3, h4⟩ := pj_at_spec h1
  exact ⟨i, fs, h3, h4, h2⟩
theorem PJ.getI {t kf idx : Nat} {a : Option Nat} {K : Int32 → Option X} {ty : FieldType} (hs : pj_fs Y.1.cls t kf idx ty) (hd : decode Y.2.1 pc = .ok (.getfield idx, 3)) (kk : ∀ x, PJ l G R Y (pc + 3) L (.inl x :: st) h k n (K x) Ψ) : PJ l G R Y pc L (.inr (.inr a) :: st) h k n ((gI h t a kf).bind K) Ψ := by
  intro M hM x9 hx9 Q hQ
  obtain ⟨x, h1, h2⟩ := Option.bind_eq_some_iff.mp hx9
  obtain ⟨v, h3, h4⟩ := Option.bind_eq_some_iff.mp h1
  obtain ⟨i, fs, rfl, h5, h6⟩ := gV_spec h3
  cases pj_i_some h4
  exact pj_get hd hs h5 h6 hM (kk x M hM x9 h2 Q hQ)
theorem PJ.getL {t kf idx : Nat} {a : Option Nat} {K : Int64 → Option X} {ty : FieldType} (hs : pj_fs Y.1.cls t kf idx ty) (hd : decode Y.2.1 pc = .ok (.getfield idx, 3)) (kk : ∀ x, PJ l G R Y (pc + 3) L (.inr (.inl x) :: st) h k n (K x) Ψ) : PJ l G R Y pc L (.inr (.inr a) :: st) h k n ((gL h t a kf).bind K) Ψ := by
  intro M hM x9 hx9 Q hQ
  obtain ⟨x, h1, h2⟩ := Option.bind_eq_some_iff.mp hx9
  obtain ⟨v, h3, h4⟩ := Option.bind_eq_some_iff.mp h1
  obtain ⟨i, fs, rfl, h5, h6⟩ := gV_spec h3
  cases pj_l_some h4
  exact pj_get hd hs h5 h6 hM (kk x M hM x9 h2 Q hQ)
theorem PJ.getR {t kf idx : Nat} {a : Option Nat} {K : Option Nat → Option X} {ty : FieldType} (hs : pj_fs Y.1.cls t kf idx ty) (hd : decode Y.2.1 pc = .ok (.getfield idx, 3)) (kk : ∀ x, PJ l G R Y (pc + 3) L (.inr (.inr x) :: st) h k n (K x) Ψ) : PJ l G R Y pc L (.inr (.inr a) :: st) h k n ((gR h t a kf).bind K) Ψ := by
  intro M hM x9 hx9 Q hQ
  obtain ⟨x, h1, h2⟩ := Option.bind_eq_some_iff.mp hx9
  obtain ⟨v, h3, h4⟩ := Option.bind_eq_some_iff.mp h1
  obtain ⟨i, fs, rfl, h5, h6⟩ := gV_spec h3
  cases pj_r_some h4
  exact pj_get hd hs h5 h6 hM (kk x M hM x9 h2 Q hQ)
theorem pj_lc {G : Cx} {locs : List Loc} {i j : Nat} (hlo : ∀ q ∈ locs, G.1 ≤ q.base) (hi : 100 ≤ i) : ∀ q ∈ locs ++ [⟨pj_ad G i, j⟩], G.1 ≤ q.base := by
  intro q hq
  rcases List.mem_append.mp hq with h | h
  · exact hlo q h
  · rw [List.mem_singleton] at h
    subst h
    show G.1 ≤ pj_ad G i
    rw [pj_ad_ge hi]
    omega
theorem pj_put {t kf idx i : Nat} {ty : FieldType} {fs : List PV} {v : PV} (hd : decode Y.2.1 pc = .ok (.putfield idx, 3)) (hs : pj_ps Y.1.cls Y.1.name t kf idx ty) (hi : h[i]? = some (t, fs)) (hlen : kf < fs.length) (hv : narrow ty (pj_v G v) = pj_v G v ∧ fits ty (pj_v G v) = true) {M : MT} (hM : pj_M G Y M) {Q : State → Prop} (kk : pj_C l G R Y.2.2.1 M (pc + 3) L st (h.set i (t, fs.set kf v)) k n Q) : pj_C l G R Y.2.2.1 M pc L (v :: .inr (.inr (some i)) :: st) h k n Q := by
  intro H locs ls hR hl hlo
  obtain ⟨hx, hb, hml, hown, hts, hr, hlk, hnm, hK⟩ := hM
  obtain ⟨C, T, N, ty0, ⟨hc, ht, hin, hna, hty, hC⟩, hk, hty0, hlink⟩ := hs
  have ht9 : t ≠ 99 := by omega
  obtain ⟨h100, hcell⟩ := hR.2.2.2 i _ hi ht9
  obtain ⟨r, e1, elen, cell, q1, q2, q3, q4⟩ := hcell.1 ht
  cases hc.symm.trans e1
  have hap := va_apart (own := C) hts hin ty0 hty hna hK.1 hc
  obtain ⟨hS, hfc, kC, hkC, hkind⟩ := hK.1.1 t _ hc
  obtain ⟨cf, kf9, fi, f, hfi, hsl⟩ := hS kf hk
  have hst := (u_facts hfc hkC (u_lays hts hin hk) hfi).1
  have hfi' : M.2.2.1.fieldFound? C (T kf).2.1 (T kf).2.2.1 = some (cf, kf9, fi, f) := by have := hfi; rw [hC kf hk] at this; exact this
  have hlt : f.slot < cell.slots.size := by rw [hsl]; exact k2_hasslot (q4 kf hk)
  have hlay := hts _ (hin _ (u_in_lay hk))
  have hpd : parseFieldDescriptor (T kf).2.2.1 = some ty := by rw [hty kf hk, hty0]
  have fin : ∀ H' : Heap, H'[pj_ad G i]? = some (cell.setSlot f.slot (pj_v G v)) → H'.size = H.size → (∀ q, q ≠ pj_ad G i → H'[q]? = H[q]?) → W M.1 l M.2.1 R M.2.2.1 M.2.2.2.1 M.2.2.2.2.1 M.2.2.2.2.2.1 M.2.2.2.2.2.2.1 M.2.2.2.2.2.2.2 H' (locs ++ [⟨pj_ad G i, f.slot⟩]) k n Q (F0 M.2.2.2.1 (pc + 3) ls (st.map (pj_v G))) := by
    intro H' g1 g2 g3
    refine kk H' _ ls (hR.set hi ht9 g2 g3 ⟨fun _ => ⟨_, hc, by rw [List.length_set]; exact elen, ?_⟩, fun q => absurd ht (by show ¬ t < 50; exact Nat.not_lt.mpr q)⟩) hl (pj_lc hlo h100)
    rw [← pj_f_set hlen v]
    rw [hsl] at g1
    exact ⟨_, g1, q2, q3, t_set q4 hap hk _⟩
  rcases hlink with ⟨hf, hw | ⟨host, hw⟩⟩ | ⟨hf, hoC, hmn, hw⟩
  · unfold u_lay at hlay
    rw [if_neg (by rw [hf]; decide)] at hlay
    have h6 := u_store hfc hkC hkind hlay hfi hpd hv.1 hv.2
    exact W.putK hx hb (f := f) ⟨hown, hts _ hw, ⟨_, _, _, hfi'⟩, hst⟩ (by rw [q2]; exact h6) q1 q3 hlt rfl rfl hd fin
  · unfold u_lay at hlay
    rw [if_neg (by rw [hf]; decide)] at hlay
    have h6 := u_store hfc hkC hkind hlay hfi hpd hv.1 hv.2
    exact va_WputK hx hb (f := f) hown (va_Nw.use rfl (hK.2.1 _ hw)) hfi' hst (by rw [q2]; exact h6) q1 q3 hlt rfl rfl hd fin
  · unfold u_lay at hlay
    rw [if_pos hf] at hlay
    have hcf : M.2.2.2.1.cls = cf := by
      obtain ⟨_, _, c', _, _, _, -, -, hf', -, -, -, hown2, -⟩ := Cond.laysFinal_spec hlay
      have e1 : c' = cf := by have := hfi.symm.trans hf'; simp at this; exact this.1.symm
      rw [hC kf hk, ← hoC] at hown2
      rw [← e1]; exact Option.some.inj (hown.symm.trans hown2)
    have h6 := u_fits hfc hkC hkind (Or.inr hlay) hfi hpd hv.1 hv.2
    exact W.putFinK hx hb hown (hts _ hw) hfi' hst hcf (hnm.trans hmn) (by rw [q2]; exact h6) q1 q3 hlt rfl rfl hd fin
theorem PJ.putI {t kf idx : Nat} {a : Option Nat} {x : Int32} {K : PH → Option X} (hs : pj_ps Y.1.cls Y.1.name t kf idx .int) (hd : decode Y.2.1 pc = .ok (.putfield idx, 3)) (kk : ∀ h1, PJ l G R Y (pc + 3) L st h1 k n (K h1) Ψ) : PJ l G R Y pc L (.inl x :: .inr (.inr a) :: st) h k n ((sF h t a kf (.inl x)).bind K) Ψ := by
  intro M hM x9 hx9 Q hQ
  obtain ⟨h1, e1, e2⟩ := Option.bind_eq_some_iff.mp hx9
  obtain ⟨i, fs, rfl, h5, h6, rfl⟩ := sF_spec e1
  exact pj_put hd hs h5 h6 ⟨rfl, rfl⟩ hM (kk _ M hM x9 e2 Q hQ)
theorem PJ.putZ {t kf idx : Nat} {a : Option Nat} {x : Int32} {K : PH → Option X} (hs : pj_ps Y.1.cls Y.1.name t kf idx .boolean) (hd : decode Y.2.1 pc = .ok (.putfield idx, 3)) (kk : ∀ h1, PJ l G R Y (pc + 3) L st h1 k n (K h1) Ψ) : PJ l G R Y pc L (.inl x :: .inr (.inr a) :: st) h k n ((sZ h t a kf x).bind K) Ψ := by
  intro M hM x9 hx9 Q hQ
  obtain ⟨h1, e1, e2⟩ := Option.bind_eq_some_iff.mp hx9
  unfold sZ at e1
  split at e1
  · rename_i hx01
    obtain ⟨i, fs, rfl, h5, h6, rfl⟩ := sF_spec e1
    exact pj_put hd hs h5 h6 (by rcases hx01 with rfl | rfl <;> exact ⟨rfl, rfl⟩) hM (kk _ M hM x9 e2 Q hQ)
  · cases e1
theorem PJ.putL {t kf idx : Nat} {a : Option Nat} {x : Int64} {K : PH → Option X} (hs : pj_ps Y.1.cls Y.1.name t kf idx .long) (hd : decode Y.2.1 pc = .ok (.putfield idx, 3)) (kk : ∀ h1, PJ l G R Y (pc + 3) L st h1 k n (K h1) Ψ) : PJ l G R Y pc L (.inr (.inl x) :: .inr (.inr a) :: st) h k n ((sF h t a kf (.inr (.inl x))).bind K) Ψ := by
  intro M hM x9 hx9 Q hQ
  obtain ⟨h1, e1, e2⟩ := Option.bind_eq_some_iff.mp hx9
  obtain ⟨i, fs, rfl, h5, h6, rfl⟩ := sF_spec e1
  exact pj_put hd hs h5 h6 ⟨rfl, rfl⟩ hM (kk _ M hM x9 e2 Q hQ)
theorem PJ.putR {t kf idx : Nat} {a x : Option Nat} {ty : FieldType} {K : PH → Option X} (hs : pj_ps Y.1.cls Y.1.name t kf idx ty) (hty : ty.isReference = true) (hd : decode Y.2.1 pc = .ok (.putfield idx, 3)) (kk : ∀ h1, PJ l G R Y (pc + 3) L st h1 k n (K h1) Ψ) : PJ l G R Y pc L (.inr (.inr x) :: .inr (.inr a) :: st) h k n ((sF h t a kf (.inr (.inr x))).bind K) Ψ := by
  intro M hM x9 hx9 Q hQ
  obtain ⟨h1, e1, e2⟩ := Option.bind_eq_some_iff.mp hx9
  obtain ⟨i, fs, rfl, h5, h6, rfl⟩ := sF_spec e1
  exact pj_put hd hs h5 h6 (by cases ty <;> first | (cases hty; done) | (cases x <;> exact ⟨rfl, rfl⟩)) hM (kk _ M hM x9 e2 Q hQ)
end J2
