/-! A pure heap: cells by numbers; values; what the machine's heap holds of it -/
abbrev PC : Type := Nat × List PV
abbrev PH : Type := List PC
/-- the heap's size at the law's entry; the addresses of the String constants; of their bytes; the classes' numbers and slots; the arrays' classes; the heap at the law's entry -/
abbrev Cx : Type := Nat × (Nat → Nat) × (Nat → Nat) × va_G × (Nat → ClassId) × Heap
def pj_ad (G : Cx) (i : Nat) : Nat := if i < 50 then G.2.1 i else if i < 100 then G.2.2.1 (i - 50) else G.1 + (i - 100)
def pj_v (G : Cx) : PV → Value
  | .inl x => .int x
  | .inr (.inl x) => .long x
  | .inr (.inr none) => .null
  | .inr (.inr (some i)) => .ref (pj_ad G i)
def pj_cat : PV → Nat
  | .inl _ => 1
  | .inr (.inl _) => 2
  | .inr (.inr _) => 1
theorem pj_cat_v (G : Cx) (v : PV) : (pj_v G v).category = pj_cat v := by
  rcases v with x | x | _ | x <;> rfl
def pj_f (G : Cx) (l : List PV) : Nat → Value := fun j => match l[j]? with
  | some v => pj_v G v
  | none => .null
theorem pj_f_at {G : Cx} {l : List PV} {j : Nat} {v : PV} (h : l[j]? = some v) : pj_f G l j = pj_v G v := by
  unfold pj_f; rw [h]
theorem pj_f_set {G : Cx} {l : List PV} {k : Nat} (hk : k < l.length) (v : PV) : updV (pj_f G l) k (pj_v G v) = pj_f G (l.set k v) := by
  funext j
  unfold updV pj_f
  by_cases e : j = k
  · subst e
    rw [if_pos rfl, List.getElem?_set_self hk]
  · rw [if_neg e, List.getElem?_set_ne (Ne.symm e)]
/-- a cell of the pure heap as the machine holds it: 0..49 objects by their class, 50..98 arrays by their kind -/
def pj_cell (G : Cx) (i : Nat) (c : PC) (H : Heap) : Prop :=
  (c.1 < 50 → ∃ r : vw_C, pj_cls[c.1]? = some r ∧ c.2.length = r.2.2 ∧ t_OB (pj_ad G i) (G.2.2.2.1.1 c.1) r.2.2 (G.2.2.2.1.2 c.1) H (pj_f G c.2)) ∧
  (50 ≤ c.1 → H[pj_ad G i]? = some (arrV (G.2.2.2.2.1 c.1) c.2.length (pj_f G c.2)))
def pj_R (G : Cx) (h : PH) (H : Heap) : Prop := H.size + 100 = G.1 + h.length ∧ 100 ≤ h.length ∧ (∀ q, q < G.1 → H[q]? = G.2.2.2.2.2[q]?) ∧ ∀ i c, h[i]? = some c → c.1 ≠ 99 → 100 ≤ i ∧ pj_cell G i c H
def pj_at (h : PH) (t : Nat) (a : Option Nat) : Option (List PV) := match a with
  | none => none
  | some i => match h[i]? with
    | some c => if c.1 = t then some c.2 else none
    | none => none
theorem pj_at_spec {h : PH} {t : Nat} {a : Option Nat} {fs : List PV} (e : pj_at h t a = some fs) : ∃ i, a = some i ∧ h[i]? = some (t, fs) := by
  unfold pj_at at e
  split at e
  · cases e
  · rename_i i
    refine ⟨i, rfl, ?_⟩
    cases hc : h[i]? with
    | none => rw [hc] at e; cases e
    | some c =>
      rw [hc] at e
      dsimp only at e
      split at e
      · rename_i ht
        cases e
        rw [← ht]
      · cases e
theorem pj_ad_ge {G : Cx} {i : Nat} (h : 100 ≤ i) : pj_ad G i = G.1 + (i - 100) := by
  unfold pj_ad; rw [if_neg (by omega), if_neg (by omega)]
theorem pj_cell.kept {G : Cx} {i : Nat} {c : PC} {H H1 : Heap} (h : pj_cell G i c H) (e : H1[pj_ad G i]? = H[pj_ad G i]?) : pj_cell G i c H1 := by
  refine ⟨fun q => ?_, fun q => ?_⟩
  · obtain ⟨r, a, b, d⟩ := h.1 q
    exact ⟨r, a, b, d.kept e⟩
  · rw [e]; exact h.2 q
/-- a cell is changed -/
theorem pj_R.set {G : Cx} {h : PH} {H H1 : Heap} (hR : pj_R G h H) {i t : Nat} {fs fs1 : List PV} (hi : h[i]? = some (t, fs)) (ht : t ≠ 99) (hs : H1.size = H.size) (ho : ∀ q, q ≠ pj_ad G i → H1[q]? = H[q]?) (hc : pj_cell G i (t, fs1) H1) : pj_R G (h.set i (t, fs1)) H1 := by
  obtain ⟨a, b, d, e⟩ := hR
  have hlt : i < h.length := (List.getElem?_eq_some_iff.mp hi).1
  have h100 := (e i _ hi ht).1
  refine ⟨by rw [List.length_set, hs]; exact a, by rw [List.length_set]; exact b, fun q hq => ?_, fun j c hj hj9 => ?_⟩
  · rw [ho q (by rw [pj_ad_ge h100]; omega)]; exact d q hq
  · by_cases ej : j = i
    · subst ej
      rw [List.getElem?_set_self hlt] at hj
      cases hj
      exact ⟨h100, hc⟩
    · rw [List.getElem?_set_ne (Ne.symm ej)] at hj
      obtain ⟨x, y⟩ := e j c hj hj9
      refine ⟨x, y.kept (ho _ ?_)⟩
      rw [pj_ad_ge x, pj_ad_ge h100]
      omega
theorem pj_R.push {G : Cx} {h : PH} {H H1 : Heap} (hR : pj_R G h H) {c : PC} (hs : H1.size = H.size + 1) (ho : ∀ q, q < H.size → H1[q]? = H[q]?) (hc : pj_cell G h.length c H1) : pj_R G (h ++ [c]) H1 := by
  obtain ⟨a, b, d, e⟩ := hR
  refine ⟨by rw [List.length_append, hs]; simp only [List.length_cons, List.length_nil]; omega, by rw [List.length_append]; omega, fun q hq => ?_, fun j c1 hj hj9 => ?_⟩
  · rw [ho q (by omega)]; exact d q hq
  · by_cases ej : j < h.length
    · rw [List.getElem?_append_left ej] at hj
      obtain ⟨x, y⟩ := e j c1 hj hj9
      refine ⟨x, y.kept (ho _ ?_)⟩
      rw [pj_ad_ge x]
      omega
    · have hjl : j < (h ++ [c]).length := (List.getElem?_eq_some_iff.mp hj).1
      rw [List.length_append] at hjl
      simp only [List.length_cons, List.length_nil] at hjl
      have : j = h.length := by omega
      subst this
      rw [List.getElem?_append_right (Nat.le_refl _), Nat.sub_self] at hj
      cases hj
      exact ⟨by omega, hc⟩
theorem pj_R.next {G : Cx} {h : PH} {H : Heap} (hR : pj_R G h H) : pj_ad G h.length = H.size := by
  obtain ⟨a, b, -⟩ := hR
  rw [pj_ad_ge b]
  omega
/-- locals -/
def pj_L (G : Cx) : Nat → List (Option PV) → List (Nat × Value)
  | _, [] => []
  | i, none :: t => pj_L G (i + 1) t
  | i, some v :: t => (i, pj_v G v) :: pj_L G (i + 1) t
theorem pj_L_mem {G : Cx} {L : List (Option PV)} : ∀ {n : Nat} {q : Nat × Value}, q ∈ pj_L G n L → ∃ (j : Nat) (v : PV), q = (n + j, pj_v G v) ∧ L[j]? = some (some v) := by
  induction L with
  | nil => intro n q h; cases h
  | cons a t ih =>
    intro n q h
    cases a with
    | none =>
      obtain ⟨j, v, e, f⟩ := ih h
      exact ⟨j + 1, v, by rw [e]; congr 1; omega, by simpa using f⟩
    | some w =>
      rcases List.mem_cons.mp h with rfl | h
      · exact ⟨0, w, rfl, rfl⟩
      · obtain ⟨j, v, e, f⟩ := ih h
        exact ⟨j + 1, v, by rw [e]; congr 1; omega, by simpa using f⟩
theorem pj_L_at {G : Cx} {L : List (Option PV)} : ∀ {n j : Nat} {v : PV}, L[j]? = some (some v) → (n + j, pj_v G v) ∈ pj_L G n L := by
  induction L with
  | nil => intro n j v h; simp at h
  | cons a t ih =>
    intro n j v h
    cases j with
    | zero =>
      simp only [List.getElem?_cons_zero, Option.some.injEq] at h
      subst h
      exact List.mem_cons_self
    | succ j =>
      simp only [List.getElem?_cons_succ] at h
      have := ih (n := n + 1) h
      rw [show n + (j + 1) = n + 1 + j by omega]
      cases a with
      | none => exact this
      | some w => exact List.mem_cons_of_mem _ this
theorem pj_L.at {G : Cx} {ls : Array Slot} {nL j : Nat} {L : List (Option PV)} {v : PV} (h : lv_has ls nL (pj_L G 0 L)) (hj : L[j]? = some (some v)) : ls[j]? = some (.val (pj_v G v)) := by
  have := h.2.2 _ (pj_L_at (G := G) (n := 0) hj)
  simpa using this
/-- the local ahead isn't a long -/
def pj_ok (L : List (Option PV)) : Nat → Bool
  | 0 => true
  | j + 1 => match L[j]? with
    | some (some (.inr (.inl _))) => false
    | _ => true
theorem pj_ok_cat {L : List (Option PV)} {j : Nat} {v : PV} (h : pj_ok L (j + 1) = true) (hv : L[j]? = some (some v)) : pj_cat v = 1 := by
  have h : (match L[j]? with
    | some (some (.inr (.inl _))) => false
    | _ => true) = true := h
  rw [hv] at h
  rcases v with x | x | x
  · rfl
  · cases h
  · rfl
theorem pj_st1 {G : Cx} {ls : Array Slot} {nL i : Nat} {L : List (Option PV)} {v : PV} (h : lv_has ls nL ((i, pj_v G v) :: (pj_L G 0 L).filter (fun q => !(q.1 == i) && !(q.1 + 1 == i && q.2.category == 2)))) (hok : pj_ok L i = true) : lv_has ls nL (pj_L G 0 (L.set i (some v))) := by
  refine ⟨h.1, h.2.1, fun q hq => h.2.2 q ?_⟩
  obtain ⟨j, w, e, f⟩ := pj_L_mem hq
  rw [Nat.zero_add] at e
  by_cases ej : j = i
  · subst ej
    have hlt : j < (L.set j (some v)).length := (List.getElem?_eq_some_iff.mp f).1
    rw [List.length_set] at hlt
    rw [List.getElem?_set_self hlt] at f
    cases f
    rw [e]
    exact List.mem_cons_self
  · rw [List.getElem?_set_ne (Ne.symm ej)] at f
    refine List.mem_cons_of_mem _ (List.mem_filter.mpr ⟨?_, ?_⟩)
    · have := pj_L_at (G := G) (n := 0) f
      rw [Nat.zero_add] at this
      rw [e]; exact this
    · rw [e]
      by_cases e1 : j + 1 = i
      · subst e1
        have hc := pj_ok_cat hok f
        have : ((pj_v G w).category == 2) = false := by rw [pj_cat_v, hc]; rfl
        simp [this]
      · simp [ej, e1]
theorem pj_st2 {G : Cx} {ls : Array Slot} {nL i : Nat} {L : List (Option PV)} {v : PV} (h : lv_has ls nL ((i, pj_v G v) :: (pj_L G 0 L).filter (fun q => !(q.1 == i) && (!(q.1 == i + 1) && !(q.1 + 1 == i && q.2.category == 2))))) (hok : pj_ok L i = true) : lv_has ls nL (pj_L G 0 ((L.set (i + 1) none).set i (some v))) := by
  refine ⟨h.1, h.2.1, fun q hq => h.2.2 q ?_⟩
  obtain ⟨j, w, e, f⟩ := pj_L_mem hq
  rw [Nat.zero_add] at e
  by_cases ej : j = i
  · subst ej
    have hlt : j < ((L.set (j + 1) none).set j (some v)).length := (List.getElem?_eq_some_iff.mp f).1
    rw [List.length_set] at hlt
    rw [List.getElem?_set_self hlt] at f
    cases f
    rw [e]
    exact List.mem_cons_self
  · rw [List.getElem?_set_ne (Ne.symm ej)] at f
    by_cases e2 : j = i + 1
    · subst e2
      have hlt : i + 1 < (L.set (i + 1) none).length := (List.getElem?_eq_some_iff.mp f).1
      rw [List.length_set] at hlt
      rw [List.getElem?_set_self hlt] at f
      cases f
    · rw [List.getElem?_set_ne (Ne.symm e2)] at f
      refine List.mem_cons_of_mem _ (List.mem_filter.mpr ⟨?_, ?_⟩)
      · have := pj_L_at (G := G) (n := 0) f
        rw [Nat.zero_add] at this
        rw [e]; exact this
      · rw [e]
        by_cases e1 : j + 1 = i
        · subst e1
          have hc := pj_ok_cat hok f
          have : ((pj_v G w).category == 2) = false := by rw [pj_cat_v, hc]; rfl
          simp [this, e2]
        · simp [ej, e1, e2]
/-! what the tables say of a state -/
def pj_AA (t : FieldType) (U : State) : Prop := (Cond.arrayOver (.array t)).before #[] U = true
theorem pj_AA.moved {t : FieldType} {u U : State} (hvm : u.vm.Alike U.vm) (h : pj_AA t u) : pj_AA t U := by
  obtain ⟨comp, c, k, h1, h2, h3, h4, h5⟩ := arrayOverA_spec h
  obtain ⟨k', hk', he⟩ := hvm.2.2 _ _ h3
  have hkind : k'.kind = .array comp (.array t) := by rw [he]; exact h4
  have f1 : U.vm.findClass (FieldType.array t).toString = some comp := by rw [hvm.findClass]; exact h1
  have f2 : U.vm.findClass ("[" ++ (FieldType.array t).toString) = some c := by rw [hvm.findClass]; exact h5
  unfold pj_AA Cond.before Cond.holds
  simp only [Cond.value]
  rw [f1, Option.bind_some, hvm.findIdx?_eq _ (fun _ => rfl)]
  have h2' := h2
  first
    | rw [h2']
    | erw [h2']
  simp [hk', hkind, f2]
/-- the script: its length, its ints (number 49) -/
def pj_sL (G : Cx) : Nat := G.2.1 48
def pj_sX (G : Cx) (j : Nat) : Int32 := Int32.ofNat (G.2.1 (1000 + j))
theorem pj_X.moved {b L : Nat} {xs : Nat → Int32} {u U : State} {H : Heap} (hvm : u.vm.Alike U.vm) (h : va_X b L xs u H) : va_X b L xs U H := by
  obtain ⟨scr, h1, h2, h3⟩ := h
  exact ⟨scr, h1, State.isArrayOf_alike hvm h2, h3⟩
def pj_tys (G : Cx) : List (ClassId × FieldType) := [(G.2.2.2.2.1 50, .int), (G.2.2.2.2.1 51, .long), (G.2.2.2.2.1 52, .byte), (G.2.2.2.2.1 53, .array .int), (G.2.2.2.2.1 54, .object "WaverTax$Now")]
/-- what a throw wants beside good words -/
def pj_nse : String := "java/util/NoSuchElementException"
def pj_EX (G : Cx) (U : State) : Prop := va_Nw (.castable pj_nse pj_nse) U ∧ vx_Zq Bundle.tN "UNASSIGNED_STACK" Bundle.steD (fun q => G.1 ≤ q) U G.2.2.2.2.2 ∧ vx_Zq Bundle.tN "SUPPRESSED_SENTINEL" Bundle.listD (fun q => G.1 ≤ q) U G.2.2.2.2.2
def pj_K (G : Cx) (U : State) : Prop := va_K G.2.2.2.1 pj_cls (pj_tys G) U ∧ (∀ w ∈ pj_nest, va_Nw w U) ∧ (∀ q ∈ st_refs, vk_R q.1 q.2.1 q.2.2.1 (G.2.1 q.2.2.2) U) ∧ vk_S 24 st_len st_byt G.2.1 G.2.2.1 (fun q => G.1 ≤ q) U G.2.2.2.2.2 ∧ va_Z "java/lang/String" "COMPACT_STRINGS" "Z" (.int 1) (fun q => G.1 ≤ q) U G.2.2.2.2.2 ∧ ∃ w : Option Nat, va_Z "jdk/internal/util/Preconditions" "SIOOBE_FORMATTER" "Ljava/util/function/BiFunction;" (pj_v G (.inr (.inr w))) (fun q => G.1 ≤ q) U G.2.2.2.2.2 ∧ pj_AA .int U ∧ va_AO "WaverTax$Now" U ∧ va_X (G.2.1 49) (pj_sL G) (pj_sX G) U G.2.2.2.2.2 ∧ G.2.1 49 < G.1 ∧ pj_EX G U
theorem pj_nest_ok : ∀ w ∈ pj_nest, (∃ a i b n d h, w = Cond.fieldLinkNest a i b n d h) ∨ ∃ a i x h, w = Cond.methodLinkNest a i x h := by
  intro w hw
  simp only [pj_nest, List.mem_cons, List.not_mem_nil, or_false] at hw
  rcases hw with h | h | h | h | h | h | h | h | h | h | h | h | h | h | h | h | h | h | h | h | h | h | h | h | h | h | h | h | h | h | h | h | h | h | h <;> first | exact Or.inl ⟨_, _, _, _, _, _, h⟩ | exact Or.inr ⟨_, _, _, _, h⟩
theorem pj_K.warm {G : Cx} {s U : State} (hW : s.WarmedH U.vm) (h : pj_K G s) : pj_K G U := by
  obtain ⟨a, b, c, d, e, w9, f, g1, g2, g3, g4, g5, g6, g7⟩ := h
  refine ⟨va_K.moved hW.alike a, fun w hw => ?_, fun q hq => (c q hq).warm hW, d.moved hW.alike, e.moved hW.alike, w9, f.moved hW.alike, g1.moved hW.alike, g2.moved hW.alike, pj_X.moved hW.alike g3, g4, g5.warmC hW, g6.moved hW.alike, g7.moved hW.alike⟩
  rcases pj_nest_ok w hw with ⟨_, _, _, _, _, _, rfl⟩ | ⟨_, _, _, _, rfl⟩
  · exact va_Nw.warmF hW (b _ hw)
  · exact va_Nw.warmM hW (b _ hw)
theorem pj_K.same {G : Cx} {s U : State} (hv : U.vm = s.vm) (h : pj_K G s) : pj_K G U := by
  obtain ⟨a, b, c, d, e, w9, f, g1, g2, g3, g4, g5, g6, g7⟩ := h
  have hal : s.vm.Alike U.vm := by rw [hv]; exact Vm.Alike.refl _
  refine ⟨va_K.moved hal a, fun w hw => ?_, fun q hq => (c q hq).same hv, d.moved hal, e.moved hal, w9, f.moved hal, g1.moved hal, g2.moved hal, pj_X.moved hal g3, g4, va_Nw.same rfl hv.symm g5, g6.moved hal, g7.moved hal⟩
  rcases pj_nest_ok w hw with ⟨_, _, _, _, _, _, rfl⟩ | ⟨_, _, _, _, rfl⟩
  · exact va_Nw.same rfl hv.symm (b _ hw)
  · exact va_Nw.same rfl hv.symm (b _ hw)
