/-! cells: reading and writing by number; what a change leaves -/
/-- outside the numbers lo .. hi nothing has changed -/
def Fr (h h1 : PH) (lo hi : Nat) : Prop := h1.length = h.length ∧ ∀ i, (i < lo ∨ hi ≤ i) → h1[i]? = h[i]?
theorem Fr.rf {h : PH} {lo hi : Nat} : Fr h h lo hi := ⟨rfl, fun _ _ => rfl⟩
theorem Fr.tr {h h1 h2 : PH} {lo hi : Nat} (a : Fr h h1 lo hi) (b : Fr h1 h2 lo hi) : Fr h h2 lo hi := ⟨b.1.trans a.1, fun i q => (b.2 i q).trans (a.2 i q)⟩
theorem Fr.wd {h h1 : PH} {lo hi lo1 hi1 : Nat} (a : Fr h h1 lo hi) (x : lo1 ≤ lo) (y : hi ≤ hi1) : Fr h h1 lo1 hi1 := ⟨a.1, fun i q => a.2 i (by omega)⟩
theorem Fr.st {h : PH} {i : Nat} {c : PC} : Fr h (h.set i c) i (i + 1) := ⟨List.length_set, fun j q => List.getElem?_set_ne (by omega)⟩
/-- a thing that the cells lo .. hi say -/
def Lc (P : PH → Prop) (lo hi : Nat) : Prop := ∀ h h1 : PH, (∀ i, lo ≤ i → i < hi → h1[i]? = h[i]?) → P h → P h1
theorem Fr.lc {h h1 : PH} {lo hi lo1 hi1 : Nat} {P : PH → Prop} (f : Fr h h1 lo hi) (l : Lc P lo1 hi1) (q : hi1 ≤ lo ∨ hi ≤ lo1) (hP : P h) : P h1 := l h h1 (fun i a b => f.2 i (by omega)) hP
theorem pj_at_c {h h1 : PH} {t i : Nat} (e : h1[i]? = h[i]?) : pj_at h1 t (some i) = pj_at h t (some i) := by
  unfold pj_at; dsimp only; rw [e]
theorem gI_c {h h1 : PH} {t i k : Nat} (e : h1[i]? = h[i]?) : gI h1 t (some i) k = gI h t (some i) k := by
  unfold gI gV; rw [pj_at_c e]
theorem gR_c {h h1 : PH} {t i k : Nat} (e : h1[i]? = h[i]?) : gR h1 t (some i) k = gR h t (some i) k := by
  unfold gR gV; rw [pj_at_c e]
theorem aI_c {h h1 : PH} {i : Nat} {j : Int32} (e : h1[i]? = h[i]?) : aI h1 (some i) j = aI h (some i) j := by
  unfold aI pj_el; rw [pj_at_c e]
theorem aR_c {h h1 : PH} {t i : Nat} {j : Int32} (e : h1[i]? = h[i]?) : aR h1 t (some i) j = aR h t (some i) j := by
  unfold aR pj_el; rw [pj_at_c e]
theorem pj_at_o {h : PH} {t i : Nat} {fs : List PV} (e : h[i]? = some (t, fs)) : pj_at h t (some i) = some fs := by
  unfold pj_at; dsimp only; rw [e]; simp
theorem gI_o {h : PH} {t i k : Nat} {fs : List PV} {x : Int32} (e : h[i]? = some (t, fs)) (f : fs[k]? = some (.inl x)) : gI h t (some i) k = some x := by
  unfold gI gV; rw [pj_at_o e, Option.bind_some, f]; rfl
theorem gR_o {h : PH} {t i k : Nat} {fs : List PV} {x : Option Nat} (e : h[i]? = some (t, fs)) (f : fs[k]? = some (.inr (.inr x))) : gR h t (some i) k = some x := by
  unfold gR gV; rw [pj_at_o e, Option.bind_some, f]; rfl
theorem sF_o {h : PH} {t i k : Nat} {fs : List PV} {v : PV} (e : h[i]? = some (t, fs)) (f : k < fs.length) : sF h t (some i) k v = some (h.set i (t, fs.set k v)) := by
  unfold sF; dsimp only; rw [e]; simp [f]
theorem st_o {h : PH} {i : Nat} {c c1 : PC} (e : h[i]? = some c) : (h.set i c1)[i]? = some c1 := List.getElem?_set_self (List.getElem?_eq_some_iff.mp e).1
theorem cl_o {X : Type} {h : PH} {t i : Nat} {fs : List PV} (e : h[i]? = some (t, fs)) (o : Option X) : cl h t (some i) o = o := cl_of (pj_at_o e) o
/-- an array of ints, whole: n places, f -/
def Fu (h : PH) (i n : Nat) (f : Nat → Int32) : Prop := h[i]? = some (50, (List.range n).map fun p => Sum.inl (f p))
theorem Fu.at {h : PH} {i n : Nat} {f : Nat → Int32} (e : Fu h i n f) {p : Nat} (hp : p < n) (hn : n < 2 ^ 31) : aI h (some i) (nI p) = some (f p) := by
  unfold aI pj_el
  rw [pj_at_o e, Option.bind_some, if_neg (nI_pos (by omega)), nI_clamp (by omega)]
  simp [hp, pj_i]
theorem Fu.ar {h : PH} {i n m : Nat} {f : Nat → Int32} (e : Fu h i n f) (hm : m ≤ n) (hn : n < 2 ^ 31) : Ar h i m f := fun p hp => e.at (by omega) hn
def up1 (f : Nat → Int32) (p : Nat) (x : Int32) : Nat → Int32 := fun q => if q = p then x else f q
theorem rg_set (n p : Nat) (f : Nat → Int32) (x : Int32) : (((List.range n).map fun q => (Sum.inl (f q) : PV)).set p (.inl x)) = (List.range n).map fun q => Sum.inl (up1 f p x q) := by
  apply List.ext_getElem?
  intro j
  by_cases e : p = j
  · subst e
    by_cases hp : p < n
    · rw [List.getElem?_set_self (by simpa using hp)]
      simp [hp, up1]
    · rw [List.getElem?_eq_none (by simpa using hp), List.getElem?_eq_none (by simpa using hp)]
  · rw [List.getElem?_set_ne e]
    by_cases hj : j < n
    · simp [hj, up1, Ne.symm e]
    · rw [List.getElem?_eq_none (by simpa using hj), List.getElem?_eq_none (by simpa using hj)]
theorem Fu.set {h : PH} {i n : Nat} {f : Nat → Int32} (e : Fu h i n f) {p : Nat} (hp : p < n) (hn : n < 2 ^ 31) (x : Int32) : ∃ h1, sA h 50 (some i) (nI p) (.inl x) = some h1 ∧ Fu h1 i n (up1 f p x) ∧ Fr h h1 i (i + 1) := by
  refine ⟨h.set i (50, ((List.range n).map fun q => (Sum.inl (f q) : PV)).set p (.inl x)), ?_, ?_, Fr.st⟩
  · unfold sA
    rw [if_neg (nI_pos (by omega)), nI_clamp (by omega), sF_o e (by simpa using hp)]
  · unfold Fu
    rw [st_o e, rg_set]
theorem Fu.fr {h h1 : PH} {i n : Nat} {f : Nat → Int32} {lo hi : Nat} (e : Fu h i n f) (F : Fr h h1 lo hi) (q : i < lo ∨ hi ≤ i) : Fu h1 i n f := (F.2 i q).trans e
theorem Fu.eq {h : PH} {i n : Nat} {f g : Nat → Int32} (e : Fu h i n f) (q : ∀ p, p < n → f p = g p) : Fu h i n g := by
  unfold Fu at e ⊢
  rw [e]
  congr 2
  apply List.map_congr_left
  intro p hp
  rw [q p (List.mem_range.mp hp)]
/-- a Now of the class -/
def NowC (h : PH) (b : Nat) (N : NowD) : Prop := h[b]? = some (2, [.inl (hou N), .inl (sed N), .inl (cme N), .inr (.inr (some (b + 1))), .inr (.inr (some (b + 2))), .inr (.inr (some (b + 3))), .inr (.inr (some (b + 4)))]) ∧ Fu h (b + 1) 5 (fun p => nI (hel N p)) ∧ Fu h (b + 2) 5 (tur N) ∧ Fu h (b + 3) 5 (spe N) ∧ Fu h (b + 4) 5 (lat N)
theorem NowC.v {h : PH} {b n : Nat} {N : NowD} (e : NowC h b N) (hn : n ≤ 5) : NowV h b n N := by
  obtain ⟨e0, e1, e2, e3, e4⟩ := e
  exact ⟨⟨gI_o e0 rfl, gI_o e0 rfl, gI_o e0 rfl⟩, ⟨_, gR_o e0 rfl, e1.ar hn (by decide)⟩, ⟨_, gR_o e0 rfl, e2.ar hn (by decide)⟩, ⟨_, gR_o e0 rfl, e3.ar hn (by decide)⟩, ⟨_, gR_o e0 rfl, e4.ar hn (by decide)⟩⟩
theorem NowC.lc (b : Nat) (N : NowD) : Lc (fun h => NowC h b N) b (b + 5) := by
  intro h h1 q e
  obtain ⟨e0, e1, e2, e3, e4⟩ := e
  exact ⟨(q b (by omega) (by omega)).trans e0, (q _ (by omega) (by omega)).trans e1, (q _ (by omega) (by omega)).trans e2, (q _ (by omega) (by omega)).trans e3, (q _ (by omega) (by omega)).trans e4⟩
/-- one changes -/
def movN (N : NowD) (p c : Nat) (tax : Int32) : NowD := (fun k q => if k = 1 then up1 (tur N) p (tur N p + 1) q else if k = 2 then up1 (spe N) p (spe N p + tax) q else if k = 3 then up1 (lat N) p (hou N) q else N.1 k q, fun q => if q = p then c else hel N q)
theorem cls_move {h : PH} {b : Nat} {N : NowD} (e : NowC h b N) {p c : Nat} (hp : p < 5) (tax : Int32) : ∃ h1, f_Now_move h (some b) (nI p) (nI c) tax = some h1 ∧ NowC h1 b (movN N p c tax) ∧ Fr h h1 b (b + 5) := by
  obtain ⟨e0, e1, e2, e3, e4⟩ := e
  obtain ⟨h1, s1, a1, F1⟩ := e1.set hp (by decide) (nI c)
  have b0 := (F1.2 b (by omega)).trans e0
  have b2 := e2.fr F1 (by omega)
  have b3 := e3.fr F1 (by omega)
  have b4 := e4.fr F1 (by omega)
  obtain ⟨h2, s2, a2, F2⟩ := b2.set hp (by decide) (tur N p + 1)
  have c0 := (F2.2 b (by omega)).trans b0
  have c1 := a1.fr F2 (by omega)
  have c3 := b3.fr F2 (by omega)
  have c4 := b4.fr F2 (by omega)
  obtain ⟨h3, s3, a3, F3⟩ := c3.set hp (by decide) (spe N p + tax)
  have d0 := (F3.2 b (by omega)).trans c0
  have d1 := c1.fr F3 (by omega)
  have d2 := a2.fr F3 (by omega)
  have d4 := c4.fr F3 (by omega)
  obtain ⟨h4, s4, a4, F4⟩ := d4.set hp (by decide) (hou N)
  have g0 := (F4.2 b (by omega)).trans d0
  have g1 := d1.fr F4 (by omega)
  have g2 := d2.fr F4 (by omega)
  have g3 := a3.fr F4 (by omega)
  refine ⟨h4, ?_, ⟨g0, g1.eq ?_, g2, g3, a4⟩, ((((F1.wd (by omega) (by omega)).tr (F2.wd (by omega) (by omega))).tr (F3.wd (by omega) (by omega))).tr (F4.wd (by omega) (by omega)))⟩
  · unfold f_Now_move
    rw [gR_o e0 rfl, Option.bind_some, s1, Option.bind_some, gR_o b0 rfl, Option.bind_some, b2.at hp (by decide), Option.bind_some, s2, Option.bind_some, gR_o c0 rfl, Option.bind_some, c3.at hp (by decide), Option.bind_some, s3, Option.bind_some, gR_o d0 rfl, Option.bind_some, gI_o d0 rfl, Option.bind_some, s4, Option.bind_some]
  · intro q _
    show up1 (fun p => nI (hel N p)) p (nI c) q = nI (if q = p then c else hel N q)
    unfold up1
    by_cases z : q = p <;> simp [z]
