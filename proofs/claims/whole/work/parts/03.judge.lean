/-! The judgements: a method (its name, code, locals, return type); the machine's own things; a configuration; a run; a call -/
abbrev MI : Type := MethodName × ByteArray × Nat × Option FieldType
abbrev MT : Type := Program × Env × State × MethodId × Array Value × List Frame × Method × Code
def pj_wsY (Y : MI) : List Cond := Cond.code Y.1 Y.2.1 Y.2.2.1 Y.2.2.2 :: pj_ws
def pj_rm (d mc ms : Nat) : Room := { frames := d, cells := mc, slots := ms, locals := 64 * d }
def pj_M (G : Cx) (Y : MI) (M : MT) : Prop :=
  M.1.tables.exec = Jvm.exec ∧ M.2.2.2.2.2.2.2.code = Y.2.1 ∧ M.2.2.2.2.2.2.2.maxLocals = Y.2.2.1 ∧ M.2.2.1.vm.findClass Y.1.cls = some M.2.2.2.1.cls ∧ (∀ w ∈ pj_ws, w.before M.2.2.2.2.1 M.2.2.1 = true) ∧ M.2.2.2.2.2.2.1.sig.returnType = Y.2.2.2 ∧ M.2.2.2.2.2.2.1.locks = false ∧ M.2.2.2.2.2.2.1.name = Y.1.name ∧ pj_K G M.2.2.1
def pj_C (l : Launch) (G : Cx) (R : Room) (nL : Nat) (M : MT) (pc : Nat) (L : List (Option PV)) (st : List PV) (h : PH) (k n : Nat) (Q : State → Prop) : Prop :=
  ∀ (H : Heap) (locs : List Loc) (ls : Array Slot), pj_R G h H → lv_has ls nL (pj_L G 0 L) → (∀ q ∈ locs, G.1 ≤ q.base) → W M.1 l M.2.1 R M.2.2.1 M.2.2.2.1 M.2.2.2.2.1 M.2.2.2.2.2.1 M.2.2.2.2.2.2.1 M.2.2.2.2.2.2.2 H locs k n Q (F0 M.2.2.2.1 pc ls (st.map (pj_v G)))
/-- from here on: if o is some x, whatever x's end gives is reached -/
def PJ (l : Launch) (G : Cx) (R : Room) (Y : MI) (pc : Nat) (L : List (Option PV)) (st : List PV) (h : PH) (k n : Nat) {X : Type} (o : Option X) (Ψ : X → MT → (State → Prop) → Prop) : Prop :=
  ∀ M, pj_M G Y M → ∀ x, o = some x → ∀ Q, Ψ x M Q → pj_C l G R Y.2.2.1 M pc L st h k n Q
def pj_Pc (G : Cx) (as : List PV) (h : PH) : Array Value → State → Prop := fun v U => v = (as.map (pj_v G)).toArray ∧ pj_R G h U.heap ∧ pj_K G U
def pj_Qc (G : Cx) (x : Option PV × PH) : Array Value → State → Outcome → State → Prop := fun _ _ o t => o = .returned (x.1.map (pj_v G)) ∧ pj_R G x.2 t.heap
/-- the method, called with these arguments over this heap, gives this -/
def PM (l : Launch) (G : Cx) (d mc ms : Nat) (Y : MI) (as : List PV) (h : PH) (x : Option PV × PH) : Prop := Met l Y.1 (pj_wsY Y) (pj_rm d mc ms) (pj_Pc G as h) (pj_Qc G x) mc ms (fun q => G.1 ≤ q)
/-- ends: the method's return; a place in the same method -/
def RT {X : Type} (G : Cx) (mc ms : Nat) (cv : X → Option PV × PH) : X → MT → (State → Prop) → Prop := fun x M Q => Q = MQ M.2.2.2.2.2.1 (pj_Qc G (cv x)) M.2.2.2.2.1 M.2.2.1 mc ms (fun q => G.1 ≤ q)
abbrev cvI (r : Int32 × PH) : Option PV × PH := (some (.inl r.1), r.2)
abbrev cvL (r : Int64 × PH) : Option PV × PH := (some (.inr (.inl r.1)), r.2)
abbrev cvR (r : Option Nat × PH) : Option PV × PH := (some (.inr (.inr r.1)), r.2)
abbrev cvV (h : PH) : Option PV × PH := (none, h)
/-- a place: pc, locals, stack, heap, cells and slots spent -/
abbrev PL : Type := Nat × List (Option PV) × List PV × PH × Nat × Nat
def AT {X : Type} (l : Launch) (G : Cx) (R : Room) (nL : Nat) (E : X → PL) : X → MT → (State → Prop) → Prop := fun x M Q => pj_C l G R nL M (E x).1 (E x).2.1 (E x).2.2.1 (E x).2.2.2.1 (E x).2.2.2.2.1 (E x).2.2.2.2.2 Q
/-- the locals at a method's entry -/
def pj_args : List PV → List (Option PV)
  | [] => []
  | .inl x :: t => some (.inl x) :: pj_args t
  | .inr (.inl x) :: t => some (.inr (.inl x)) :: none :: pj_args t
  | .inr (.inr x) :: t => some (.inr (.inr x)) :: pj_args t
theorem pj_args_L (G : Cx) : ∀ (as : List PV) (i : Nat), pj_L G i (pj_args as) = lv_args i (as.map (pj_v G))
  | [], _ => rfl
  | .inl x :: t, i => by
    show (i, Value.int x) :: pj_L G (i + 1) (pj_args t) = (i, Value.int x) :: lv_args (if (Value.int x).category = 2 then i + 2 else i + 1) (t.map (pj_v G))
    rw [pj_args_L G t]
    rfl
  | .inr (.inl x) :: t, i => by
    show (i, Value.long x) :: pj_L G (i + 1 + 1) (pj_args t) = (i, Value.long x) :: lv_args (if (Value.long x).category = 2 then i + 2 else i + 1) (t.map (pj_v G))
    rw [pj_args_L G t]
    rfl
  | .inr (.inr x) :: t, i => by
    have e : (if (pj_v G (.inr (.inr x))).category = 2 then i + 2 else i + 1) = i + 1 := by rw [pj_cat_v]; rfl
    show (i, pj_v G (.inr (.inr x))) :: pj_L G (i + 1) (pj_args t) = (i, pj_v G (.inr (.inr x))) :: lv_args (if (pj_v G (.inr (.inr x))).category = 2 then i + 2 else i + 1) (t.map (pj_v G))
    rw [e, pj_args_L G t]
theorem pj_L_rep (G : Cx) {m : Nat} : ∀ (L : List (Option PV)) (i : Nat), pj_L G i (L ++ List.replicate m none) = pj_L G i L
  | [], i => by
    induction m generalizing i with
    | zero => rfl
    | succ m ih => exact ih (i + 1)
  | none :: t, i => pj_L_rep G t (i + 1)
  | some v :: t, i => by
    show (i, pj_v G v) :: pj_L G (i + 1) (t ++ List.replicate m none) = _
    rw [pj_L_rep G t]
    rfl
theorem pj_sl_len (G : Cx) : ∀ as : List PV, (lg_sl (as.map (pj_v G))).length = (as.map pj_cat).sum
  | [] => rfl
  | v :: t => by
    have ih := pj_sl_len G t
    unfold lg_sl at ih ⊢
    rw [List.map_cons, List.flatMap_cons, List.length_append, ih, List.map_cons, List.sum_cons]
    congr 1
    rw [pj_cat_v]
    rcases v with x | x | x <;> rfl
section J0
variable {l : Launch} {G : Cx} {R : Room} {Y : MI} {pc : Nat} {L : List (Option PV)} {st : List PV} {h : PH} {k n : Nat} {X Z : Type} {Ψ : X → MT → (State → Prop) → Prop}
theorem pj_blind {as : List PV} : FrameBlind (pj_Pc G as h) := by
  intro a U g mk q
  obtain ⟨q0, q1, q2⟩ := q
  exact ⟨q0, q1, pj_K.same (s := U) (U := U.calling g mk a) rfl q2⟩
theorem PM.of {as : List PV} {d mc ms : Nat} (hy : plainName Y.1.cls = true) {cv : X → Option PV × PH} {o : Option X} {L0 : List (Option PV)} (m9 : Nat) (hL : pj_args as ++ List.replicate m9 none = L0) (hn : (as.map pj_cat).sum ≤ Y.2.2.1)
    (hj : PJ l G (pj_rm d mc ms) Y 0 L0 [] h 0 0 o (RT G mc ms cv)) {x : X} (hx : o = some x) : PM l G d mc ms Y as h (cv x) := by
  refine Met.ofW (cc := Y.2.1) (maxL := Y.2.2.1) (ret := Y.2.2.2) hy rfl ?_
  intro p e s m args below meth c s₁ B hml hv
  obtain ⟨rfl, hR, hK⟩ := hv
  have hts := atoms_spec (ws := pj_wsY Y) B.pre
  have hM : pj_M G Y (p, e, s, m, (as.map (pj_v G)).toArray, below, meth, c) := ⟨B.exec, B.bytes, hml, findClass_of_methodNamed B.named, fun w hw => hts w (List.mem_cons_of_mem _ hw), B.returns, B.notSynchronized, (name_of_methodNamed B.named B.method).1, hK⟩
  rw [lg_entry_eq]
  have hl := lv_entry (as.map (pj_v G)) (n := Y.2.2.1) (by rw [pj_sl_len]; exact hn)
  rw [← pj_args_L, ← pj_L_rep (m := m9), hL] at hl
  exact hj _ hM x hx _ rfl s.heap [] _ hR hl (fun q hq => by cases hq)
/-- a part of the way, then the rest -/
theorem PJ.bind {o : Option Z} {K : Z → Option X} (E : Z → PL) (h1 : PJ l G R Y pc L st h k n o (AT l G R Y.2.2.1 E)) (h2 : ∀ z, PJ l G R Y (E z).1 (E z).2.1 (E z).2.2.1 (E z).2.2.2.1 (E z).2.2.2.2.1 (E z).2.2.2.2.2 (K z) Ψ) : PJ l G R Y pc L st h k n (o.bind K) Ψ := by
  intro M hM x hx Q hQ
  cases ho : o with
  | none => rw [ho] at hx; cases hx
  | some z =>
    rw [ho] at hx
    exact h1 M hM z ho Q (h2 z M hM x hx Q hQ)
theorem PJ.done {E : Z → PL} {z : Z} (e : E z = (pc, L, st, h, k, n)) : PJ l G R Y pc L st h k n (some z) (AT l G R Y.2.2.1 E) := by
  intro M hM x hx Q hQ
  cases hx
  unfold AT at hQ
  rw [e] at hQ
  exact hQ
/-- less is known of the locals -/
def pj_le : List (Option PV) → List (Option PV) → Prop
  | [], _ => True
  | none :: t, _ :: u => pj_le t u
  | some v :: t, some w :: u => v = w ∧ pj_le t u
  | some _ :: _, none :: _ => False
  | some _ :: _, [] => False
  | none :: t, [] => pj_le t []
theorem pj_le_at : ∀ {L1 L2 : List (Option PV)}, pj_le L1 L2 → ∀ {j : Nat} {v : PV}, L1[j]? = some (some v) → L2[j]? = some (some v)
  | [], _, _, j, v, h => by simp at h
  | none :: t, [], hh, j, v, h => by
    cases j with
    | zero => simp at h
    | succ j =>
      have := pj_le_at (L1 := t) (L2 := []) hh (j := j) (v := v) (by simpa using h)
      simp at this
  | none :: t, _ :: u, hh, j, v, h => by
    cases j with
    | zero => simp at h
    | succ j => simpa using pj_le_at (L1 := t) (L2 := u) hh (j := j) (v := v) (by simpa using h)
  | some a :: t, some b :: u, hh, j, v, h => by
    cases j with
    | zero => simp at h; simp [← hh.1, h]
    | succ j => simpa using pj_le_at (L1 := t) (L2 := u) hh.2 (j := j) (v := v) (by simpa using h)
  | some _ :: _, none :: _, hh, _, _, _ => absurd hh id
  | some _ :: _, [], hh, _, _, _ => absurd hh id
theorem pj_L.le {L1 L2 : List (Option PV)} (hle : pj_le L1 L2) {ls : Array Slot} {nL : Nat} (hl : lv_has ls nL (pj_L G 0 L2)) : lv_has ls nL (pj_L G 0 L1) := by
  refine ⟨hl.1, hl.2.1, fun q hq => hl.2.2 q ?_⟩
  obtain ⟨j, v, e, f⟩ := pj_L_mem hq
  rw [e]
  exact pj_L_at (pj_le_at hle f)
theorem PJ.le {L1 : List (Option PV)} {o : Option X} (hle : pj_le L1 L) (h1 : PJ l G R Y pc L1 st h k n o Ψ) : PJ l G R Y pc L st h k n o Ψ :=
  fun M hM x hx Q hQ H locs ls hR hl hlo => h1 M hM x hx Q hQ H locs ls hR (pj_L.le hle hl) hlo
/-- more cells and slots may be counted as spent -/
theorem PJ.wid {o : Option X} (k1 n1 : Nat) (hk : k ≤ k1) (hn : n ≤ n1) (h1 : PJ l G R Y pc L st h k1 n1 o Ψ) : PJ l G R Y pc L st h k n o Ψ :=
  fun M hM x hx Q hQ H locs ls hR hl hlo => W.widen hk hn (h1 M hM x hx Q hQ H locs ls hR hl hlo)
theorem PJ.nn : PJ l G R Y pc L st h k n (none : Option X) Ψ := fun M hM x hx => by cases hx
/-- loops -/
def pj_it {S X : Type} (step : S → Option (S ⊕ X)) : Nat → S → Option X
  | 0, _ => none
  | n + 1, s => (step s).bind fun r => match r with
    | .inl s1 => pj_it step n s1
    | .inr x => some x
def pj_E2 {S X : Type} (E : S → PL) (F : X → PL) : S ⊕ X → PL := fun r => match r with
  | .inl s => E s
  | .inr x => F x
theorem PJ.it {S : Type} {step : S → Option (S ⊕ Z)} {E : S → PL} {F : Z → PL} (hs : ∀ s, PJ l G R Y (E s).1 (E s).2.1 (E s).2.2.1 (E s).2.2.2.1 (E s).2.2.2.2.1 (E s).2.2.2.2.2 (step s) (AT l G R Y.2.2.1 (pj_E2 E F))) :
    ∀ (m : Nat) (s : S), PJ l G R Y (E s).1 (E s).2.1 (E s).2.2.1 (E s).2.2.2.1 (E s).2.2.2.2.1 (E s).2.2.2.2.2 (pj_it step m s) (AT l G R Y.2.2.1 F)
  | 0, _ => PJ.nn
  | m + 1, s => by
    refine PJ.bind (pj_E2 E F) (hs s) fun r => ?_
    cases r with
    | inl s1 => exact PJ.it hs m s1
    | inr x => exact PJ.done rfl
end J0
