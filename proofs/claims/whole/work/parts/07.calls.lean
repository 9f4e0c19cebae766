/-! calls, returns -/
/-- a place where a method is called: words and the number of its parameters -/
def pj_cb (own : String) (idx : Nat) (Y1 : MI) (np : Nat) : Prop :=
  Cond.code Y1.1 Y1.2.1 Y1.2.2.1 Y1.2.2.2 ∈ pj_ws ∧ Cond.initialized Y1.1.cls ∈ pj_ws ∧ (Y1.1.cls ≠ "java/lang/invoke/MethodHandle" ∧ Y1.1.cls ≠ "java/lang/invoke/VarHandle" ∧ (parseMethodDescriptor Y1.1.desc).map (fun d => d.parameters.length) = some np) ∧
  (Cond.methodLink own idx Y1.1 ∈ pj_ws ∨ ∃ host, Cond.methodLinkNest own idx Y1.1 host ∈ pj_nest)
def pj_cV (own : String) (idx : Nat) (Y1 : MI) (np ci : Nat) : Prop := pj_cb own idx Y1 np ∧ ci < 50 ∧ Cond.instanceMethod Y1.1 ∈ pj_ws ∧ Cond.selects Y1.1.cls Y1.1 Y1.1 ∈ pj_ws ∧ ∃ r : vw_C, pj_cls[ci]? = some r ∧ r.1 = Y1.1.cls
def pj_cI (own : String) (idx : Nat) (Y1 : MI) (np : Nat) : Prop := pj_cb own idx Y1 np ∧ Y1.1.name = "<init>" ∧ Y1.2.2.2 = none ∧ Cond.instanceMethod Y1.1 ∈ pj_ws
def pj_cS (own : String) (idx : Nat) (Y1 : MI) (np : Nat) : Prop := pj_cb own idx Y1 np ∧ Cond.static Y1.1 ∈ pj_ws
/-- the callee has room -/
def pj_fit (R : Room) (Y1 : MI) (d mc ms k n : Nat) : Prop := d + 1 ≤ R.frames ∧ 8 + (Y1.2.2.1 + 11) + 64 * d ≤ R.locals ∧ k + mc ≤ R.cells ∧ n + ms ≤ R.slots
/-- a method of an object is called: the object is of that class -/
def cl {X : Type} (h : PH) (ci : Nat) (a : Option Nat) (o : Option X) : Option X := (pj_at h ci a).bind fun _ => o
def pj_sum (st : List PV) : Nat := (st.map pj_cat).sum
theorem pj_sum_v (G : Cx) (st : List PV) : ((st.map (pj_v G)).map fun v => v.category).sum = pj_sum st := by
  unfold pj_sum
  rw [List.map_map]
  congr 1
  apply List.map_congr_left
  intro v _
  exact pj_cat_v G v
section J4
variable {l : Launch} {G : Cx} {R : Room} {Y : MI} {pc : Nat} {L : List (Option PV)} {st : List PV} {h : PH} {k n : Nat} {X Z : Type} {Ψ : X → MT → (State → Prop) → Prop} {o o1 o2 : Option X}
theorem pj_callB {M : MT} (hM : pj_M G Y M) {idx d mc ms np : Nat} {Y1 : MI} (hs : pj_cb Y.1.cls idx Y1 np) (hf : pj_fit R Y1 d mc ms k n) :
    (Cond.methodLink Y.1.cls idx Y1.1 ∈ pj_ws → CallB R M.2.2.1 M.2.2.2.2.1 Y.1.cls idx Y1.1 Y1.2.1 Y1.2.2.1 Y1.2.2.2 (pj_wsY Y1) (pj_rm d mc ms) mc ms np) ∧
    (∀ host, Cond.methodLinkNest Y.1.cls idx Y1.1 host ∈ pj_nest → va_CN R M.2.2.1 M.2.2.2.2.1 Y.1.cls idx Y1.1 host Y1.2.1 Y1.2.2.1 Y1.2.2.2 (pj_wsY Y1) (pj_rm d mc ms) mc ms np) := by
  obtain ⟨hx, hb, hml, hown, hts, hr, hlk, hnm, hK⟩ := id hM
  obtain ⟨hc, hi, hd, -⟩ := hs
  have hG : GoodIn pj_ws (pj_wsY Y1) := by
    intro w hw
    rcases List.mem_cons.mp hw with rfl | hw
    · exact pj_good _ hc
    · exact pj_good _ hw
  refine ⟨fun hl => ?_, fun host hl => ?_⟩
  · exact callB_of (Ts := pj_ws) np hts hG rfl rfl rfl (hts _ hi) (hts _ hl) hd ⟨hf.1, hf.2.1⟩
  · exact va_cnB (Ts := pj_ws) np hts hG rfl rfl rfl (hK.2.1 _ hl) (hts _ hi) hd ⟨hf.1, hf.2.1⟩
theorem pj_fin {M : MT} {H : Heap} {locs : List Loc} {ls : Array Slot} {mc ms : Nat} {st0 rest : List PV} {x : Option PV × PH} {a : Array Value} {Q : State → Prop} (hlo : ∀ q ∈ locs, G.1 ≤ q.base)
    (hrun : va_Run M.1 l M.2.1 R M.2.2.1 M.2.2.2.1 M.2.2.2.2.1 M.2.2.2.2.2.1 M.2.2.2.2.2.2.1 M.2.2.2.2.2.2.2 H locs k n mc ms (F0 M.2.2.2.1 pc ls (st0.map (pj_v G))) (rest.map (pj_v G)) (pj_Qc G x a) (fun q => G.1 ≤ q))
    (kk : ∀ (H1 : Heap) (locs1 : List Loc), pj_R G x.2 H1 → (∀ q ∈ locs1, G.1 ≤ q.base) → W M.1 l M.2.1 R M.2.2.1 M.2.2.2.1 M.2.2.2.2.1 M.2.2.2.2.2.1 M.2.2.2.2.2.2.1 M.2.2.2.2.2.2.2 H1 locs1 (k + mc) (n + ms) Q (F0 M.2.2.2.1 (pc + 3) ls ((x.1.toList ++ rest).map (pj_v G)))) :
    W M.1 l M.2.1 R M.2.2.1 M.2.2.2.1 M.2.2.2.2.1 M.2.2.2.2.2.1 M.2.2.2.2.2.2.1 M.2.2.2.2.2.2.2 H locs k n Q (F0 M.2.2.2.1 pc ls (st0.map (pj_v G))) := by
  intro T hT X
  obtain ⟨v, st₀, t, T', L9, h0, X', hL, e1, e2, ⟨hv, hR⟩, st⟩ := hrun T hT X
  have hv : v = x.1.map (pj_v G) := Outcome.returned.inj hv
  subst hv
  have hk9 := kk T'.heap (locs ++ L9) (by rw [e1]; exact hR) (fun q hq => by
    rcases List.mem_append.mp hq with z | z
    · exact hlo q z
    · exact hL q z)
  obtain ⟨t2, a1, b1⟩ := hk9 T' rfl X'
  refine ⟨t2, st t2 ?_, b1⟩
  have e3 : (x.1.toList ++ rest).map (pj_v G) = (x.1.map (pj_v G)).toList ++ rest.map (pj_v G) := by
    rw [List.map_append]
    congr 1
    cases x.1 <;> rfl
  rw [e3] at a1
  exact a1
theorem PJ.callV {d mc ms np idx ci : Nat} {Y1 : MI} {as rest : List PV} {a : Option Nat} {o1 : Option Z} {K : Z → Option X} (cv : Z → Option PV × PH) (hs : pj_cV Y.1.cls idx Y1 np ci) (hMt : ∀ z, o1 = some z → PM l G d mc ms Y1 (.inr (.inr a) :: as) h (cv z)) (hf : pj_fit R Y1 d mc ms k n) (hn : as.length = np) (hst : st = as.reverse ++ .inr (.inr a) :: rest) (hsm : pj_sum rest ≤ 8) (hd : decode Y.2.1 pc = .ok (.invokevirtual idx, 3))
    (kk : ∀ z, PJ l G R Y (pc + 3) L ((cv z).1.toList ++ rest) (cv z).2 (k + mc) (n + ms) (K z) Ψ) : PJ l G R Y pc L st h k n ((cl h ci a o1).bind K) Ψ := by
  intro M hM x9 hx9 Q hQ H locs ls hR hl hlo
  obtain ⟨z, hz0, hy9⟩ := Option.bind_eq_some_iff.mp hx9
  obtain ⟨fs, hz1, hz⟩ := Option.bind_eq_some_iff.mp hz0
  obtain ⟨i, rfl, hi⟩ := pj_at_spec hz1
  obtain ⟨hcb, hci, hw1, hw2, r9, hr1, hr2⟩ := hs
  obtain ⟨hB, hN⟩ := pj_callB hM hcb hf
  obtain ⟨hx, hb, hml, hown, hts, hr, hlk, hnm, hK⟩ := id hM
  have hPM : Met l Y1.1 (pj_wsY Y1) (pj_rm d mc ms) (pj_Pc G (.inr (.inr (some i)) :: as) h) (pj_Qc G (cv z)) mc ms (fun q => G.1 ≤ q) := hMt z hz
  have hpre : PreV M.2.2.1 H Y1.1.cls (pj_ad G i) (pj_Pc G (.inr (.inr (some i)) :: as) h) (as.map (pj_v G)) := by
    refine ⟨pj_blind, ?_, fun U hU hW => ⟨rfl, by rw [hU]; exact hR, hK.warm hW⟩⟩
    obtain ⟨r, e1, -, cell, q1, q2, q3, q4⟩ := ((hR.2.2.2 i _ hi (by show ci ≠ 99; omega)).2).1 hci
    cases hr1.symm.trans e1
    obtain ⟨hS, hfc, -⟩ := hK.1.1 ci _ hr1
    exact ⟨cell, q1, by rw [q3]; rfl, by rw [← hr2, q2]; exact hfc⟩
  have hstk : (F0 M.2.2.2.1 pc ls (st.map (pj_v G))).stack = (as.map (pj_v G)).reverse ++ .ref (pj_ad G i) :: rest.map (pj_v G) := by
    show st.map (pj_v G) = _
    rw [hst, List.map_append, List.map_reverse]
    rfl
  have hmon : 2 * (F0 M.2.2.2.1 pc ls (st.map (pj_v G))).monitorRoom + ((rest.map (pj_v G)).map fun v => v.category).sum ≤ 8 := by
    rw [pj_sum_v]
    have : (F0 M.2.2.2.1 pc ls (st.map (pj_v G))).monitorRoom = 0 := rfl
    rw [this]
    omega
  refine pj_fin hlo (mc := mc) (ms := ms) (rest := rest) (x := cv z) (a := (Value.ref (pj_ad G i) :: as.map (pj_v G)).toArray) ?_ (fun H1 locs1 g1 g2 => kk z M hM x9 hy9 Q hQ H1 locs1 ls g1 hl g2)
  rcases hcb.2.2.2 with hw | ⟨host, hw⟩
  · exact va_runV (Ts := pj_ws) ⟨hx, hb, hml, hown, hts⟩ hPM ⟨hB hw, hts _ hw1, hts _ hw2⟩ hpre rfl (by rw [List.length_map]; exact hn) hl.1 hstk hmon hd ⟨hf.2.2.1, hf.2.2.2⟩
  · exact va_runVN (Ts := pj_ws) ⟨hx, hb, hml, hown, hts⟩ hPM ⟨hN host hw, hts _ hw1, hts _ hw2⟩ hpre rfl (by rw [List.length_map]; exact hn) hl.1 hstk hmon hd ⟨hf.2.2.1, hf.2.2.2⟩
theorem PJ.callI {d mc ms np idx : Nat} {Y1 : MI} {as rest : List PV} {i : Nat} {o1 : Option Z} {K : Z → Option X} (cv : Z → Option PV × PH) (hs : pj_cI Y.1.cls idx Y1 np) (hMt : ∀ z, o1 = some z → PM l G d mc ms Y1 (.inr (.inr (some i)) :: as) h (cv z)) (hf : pj_fit R Y1 d mc ms k n) (hn : as.length = np) (hst : st = as.reverse ++ .inr (.inr (some i)) :: rest) (hsm : pj_sum rest ≤ 8) (hd : decode Y.2.1 pc = .ok (.invokespecial idx, 3))
    (kk : ∀ z, PJ l G R Y (pc + 3) L ((cv z).1.toList ++ rest) (cv z).2 (k + mc) (n + ms) (K z) Ψ) : PJ l G R Y pc L st h k n (o1.bind K) Ψ := by
  intro M hM x9 hx9 Q hQ H locs ls hR hl hlo
  obtain ⟨z, hz, hx9⟩ := Option.bind_eq_some_iff.mp hx9
  obtain ⟨hcb, hw0, hret, hw1⟩ := hs
  obtain ⟨hB, hN⟩ := pj_callB hM hcb hf
  obtain ⟨hx, hb, hml, hown, hts, hr, hlk, hnm, hK⟩ := id hM
  have hPM : Met l Y1.1 (pj_wsY Y1) (pj_rm d mc ms) (pj_Pc G (.inr (.inr (some i)) :: as) h) (pj_Qc G (cv z)) mc ms (fun q => G.1 ≤ q) := hMt z hz
  have hpre : PreS M.2.2.1 H (pj_Pc G (.inr (.inr (some i)) :: as) h) (.ref (pj_ad G i) :: as.map (pj_v G)) :=
    ⟨pj_blind, fun U hU hW => ⟨rfl, by rw [hU]; exact hR, hK.warm hW⟩⟩
  have hstk : (F0 M.2.2.2.1 pc ls (st.map (pj_v G))).stack = (as.map (pj_v G)).reverse ++ .ref (pj_ad G i) :: rest.map (pj_v G) := by
    show st.map (pj_v G) = _
    rw [hst, List.map_append, List.map_reverse]
    rfl
  have hmon : 2 * (F0 M.2.2.2.1 pc ls (st.map (pj_v G))).monitorRoom + ((rest.map (pj_v G)).map fun v => v.category).sum ≤ 8 := by
    rw [pj_sum_v]
    have : (F0 M.2.2.2.1 pc ls (st.map (pj_v G))).monitorRoom = 0 := rfl
    rw [this]
    omega
  rw [hret] at hB hN
  refine pj_fin hlo (mc := mc) (ms := ms) (rest := rest) (x := cv z) (a := (Value.ref (pj_ad G i) :: as.map (pj_v G)).toArray) ?_ (fun H1 locs1 g1 g2 => kk z M hM x9 hx9 Q hQ H1 locs1 ls g1 hl g2)
  rcases hcb.2.2.2 with hw | ⟨host, hw⟩
  · exact va_runI (Ts := pj_ws) ⟨hx, hb, hml, hown, hts⟩ hPM ⟨hB hw, hw0, hts _ hw1⟩ hpre rfl (by rw [List.length_map]; exact hn) hl.1 hstk hmon hd ⟨hf.2.2.1, hf.2.2.2⟩
  · exact va_runIN (Ts := pj_ws) ⟨hx, hb, hml, hown, hts⟩ hPM ⟨hN host hw, hw0, hts _ hw1⟩ hpre rfl (by rw [List.length_map]; exact hn) hl.1 hstk hmon hd ⟨hf.2.2.1, hf.2.2.2⟩
theorem PJ.callS {d mc ms np idx : Nat} {Y1 : MI} {as rest : List PV} {o1 : Option Z} {K : Z → Option X} (cv : Z → Option PV × PH) (hs : pj_cS Y.1.cls idx Y1 np) (hMt : ∀ z, o1 = some z → PM l G d mc ms Y1 as h (cv z)) (hf : pj_fit R Y1 d mc ms k n) (hn : as.length = np) (hst : st = as.reverse ++ rest) (hsm : pj_sum rest ≤ 8) (hd : decode Y.2.1 pc = .ok (.invokestatic idx, 3))
    (kk : ∀ z, PJ l G R Y (pc + 3) L ((cv z).1.toList ++ rest) (cv z).2 (k + mc) (n + ms) (K z) Ψ) : PJ l G R Y pc L st h k n (o1.bind K) Ψ := by
  intro M hM x9 hx9 Q hQ H locs ls hR hl hlo
  obtain ⟨z, hz, hx9⟩ := Option.bind_eq_some_iff.mp hx9
  obtain ⟨hcb, hw1⟩ := hs
  obtain ⟨hB, hN⟩ := pj_callB hM hcb hf
  obtain ⟨hx, hb, hml, hown, hts, hr, hlk, hnm, hK⟩ := id hM
  have hPM : Met l Y1.1 (pj_wsY Y1) (pj_rm d mc ms) (pj_Pc G as h) (pj_Qc G (cv z)) mc ms (fun q => G.1 ≤ q) := hMt z hz
  have hpre : PreS M.2.2.1 H (pj_Pc G as h) (as.map (pj_v G)) :=
    ⟨pj_blind, fun U hU hW => ⟨rfl, by rw [hU]; exact hR, hK.warm hW⟩⟩
  have hstk : (F0 M.2.2.2.1 pc ls (st.map (pj_v G))).stack = (as.map (pj_v G)).reverse ++ rest.map (pj_v G) := by
    show st.map (pj_v G) = _
    rw [hst, List.map_append, List.map_reverse]
  have hmon : 2 * (F0 M.2.2.2.1 pc ls (st.map (pj_v G))).monitorRoom + ((rest.map (pj_v G)).map fun v => v.category).sum ≤ 8 := by
    rw [pj_sum_v]
    have : (F0 M.2.2.2.1 pc ls (st.map (pj_v G))).monitorRoom = 0 := rfl
    rw [this]
    omega
  refine pj_fin hlo (mc := mc) (ms := ms) (rest := rest) (x := cv z) (a := (as.map (pj_v G)).toArray) ?_ (fun H1 locs1 g1 g2 => kk z M hM x9 hx9 Q hQ H1 locs1 ls g1 hl g2)
  rcases hcb.2.2.2 with hw | ⟨host, hw⟩
  · exact va_runS (Ts := pj_ws) ⟨hx, hb, hml, hown, hts⟩ hPM ⟨hB hw, hts _ hw1⟩ hpre rfl (by rw [List.length_map]; exact hn) hl.1 hstk hmon hd ⟨hf.2.2.1, hf.2.2.2⟩
  · exact va_runSN (Ts := pj_ws) ⟨hx, hb, hml, hown, hts⟩ hPM ⟨hN host hw, hts _ hw1, trivial⟩ hpre rfl (by rw [List.length_map]; exact hn) hl.1 hstk hmon hd ⟨hf.2.2.1, hf.2.2.2⟩
/-- Object's constructor -/
theorem PJ.objI {idx i : Nat} (hw1 : Cond.methodLink Y.1.cls idx objectInit ∈ pj_ws) (hw2 : Cond.instanceMethod objectInit ∈ pj_ws) (hw3 : Cond.code objectInit ⟨#[0xb1]⟩ 1 none ∈ pj_ws) (hf : 1 ≤ R.frames) (hlc : 20 ≤ R.locals) (hsm : pj_sum st ≤ 8) (hd : decode Y.2.1 pc = .ok (.invokespecial idx, 3)) (kk : PJ l G R Y (pc + 3) L st h k n o Ψ) : PJ l G R Y pc L (.inr (.inr (some i)) :: st) h k n o Ψ := by
  intro M hM x9 hx9 Q hQ H locs ls hR hl hlo
  obtain ⟨hx, hb, hml, hown, hts, hr, hlk, hnm, hK⟩ := id hM
  refine W.objInit hx hb hown (hts _ hw1) (hts _ hw2) (hts _ hw3) (g := F0 M.2.2.2.1 pc ls (.ref (pj_ad G i) :: st.map (pj_v G))) rfl (by rw [hml]; exact hl.1) rfl hd hf ?_ (kk M hM x9 hx9 Q hQ H locs ls hR hl hlo)
  rw [pj_sum_v]
  have : (F0 M.2.2.2.1 pc ls (.ref (pj_ad G i) :: st.map (pj_v G))).monitorRoom = 0 := rfl
  rw [this]
  omega
theorem PJ.objO {idx : Nat} {a : Option Nat} (hw1 : Cond.methodLink Y.1.cls idx objectInit ∈ pj_ws) (hw2 : Cond.instanceMethod objectInit ∈ pj_ws) (hw3 : Cond.code objectInit ⟨#[0xb1]⟩ 1 none ∈ pj_ws) (hf : 1 ≤ R.frames) (hlc : 20 ≤ R.locals) (hsm : pj_sum st ≤ 8) (hd : decode Y.2.1 pc = .ok (.invokespecial idx, 3)) (kk : PJ l G R Y (pc + 3) L st h k n o Ψ) : PJ l G R Y pc L (.inr (.inr a) :: st) h k n (a.bind fun _ => o) Ψ := by
  cases a with
  | none => exact PJ.nn
  | some i => exact PJ.objI hw1 hw2 hw3 hf hlc hsm hd kk
/-! returns -/
theorem PJ.iret {mc ms : Nat} {v : Int32} (hd : decode Y.2.1 pc = .ok (.ireturn, 1)) (ht : Y.2.2.2 = some .int) (hk : k ≤ mc) (hn : n ≤ ms) : PJ l G R Y pc L [.inl v] h k n (some (v, h)) (RT G mc ms cvI) := by
  intro M hM x9 hx9 Q hQ H locs ls hR hl hlo
  cases hx9
  obtain ⟨hx, hb, hml, hown, hts, hr, hlk, hnm, hK⟩ := id hM
  unfold RT at hQ
  subst hQ
  exact W.widen hk hn (W.iret hx hb (hr.trans ht) (fun t ht9 hW => ⟨rfl, by rw [ht9]; exact hR⟩) hlo hd hlk)
theorem PJ.zret {mc ms : Nat} {v : Int32} (hd : decode Y.2.1 pc = .ok (.ireturn, 1)) (ht : Y.2.2.2 = some .boolean) (hv : narrow .boolean (.int v) = .int v) (hk : k ≤ mc) (hn : n ≤ ms) : PJ l G R Y pc L [.inl v] h k n (some (v, h)) (RT G mc ms cvI) := by
  intro M hM x9 hx9 Q hQ H locs ls hR hl hlo
  cases hx9
  obtain ⟨hx, hb, hml, hown, hts, hr, hlk, hnm, hK⟩ := id hM
  unfold RT at hQ
  subst hQ
  exact W.widen hk hn (W.zret hx hb (hr.trans ht) hv (fun t ht9 hW => ⟨rfl, by rw [ht9]; exact hR⟩) hlo hd hlk)
/-- a truth value that isn't a constant -/
def rZ (v : Int32) (h : PH) : Option (Int32 × PH) := if v = 0 ∨ v = 1 then some (v, h) else none
theorem PJ.zretC {mc ms : Nat} {v : Int32} (hd : decode Y.2.1 pc = .ok (.ireturn, 1)) (ht : Y.2.2.2 = some .boolean) (hk : k ≤ mc) (hn : n ≤ ms) : PJ l G R Y pc L [.inl v] h k n (rZ v h) (RT G mc ms cvI) := by
  unfold rZ
  by_cases c9 : v = 0 ∨ v = 1
  · rw [if_pos c9]
    exact PJ.zret hd ht (by rcases c9 with rfl | rfl <;> rfl) hk hn
  · rw [if_neg c9]
    exact PJ.nn
theorem PJ.lret {mc ms : Nat} {v : Int64} (hd : decode Y.2.1 pc = .ok (.lreturn, 1)) (ht : Y.2.2.2 = some .long) (hk : k ≤ mc) (hn : n ≤ ms) : PJ l G R Y pc L [.inr (.inl v)] h k n (some (v, h)) (RT G mc ms cvL) := by
  intro M hM x9 hx9 Q hQ H locs ls hR hl hlo
  cases hx9
  obtain ⟨hx, hb, hml, hown, hts, hr, hlk, hnm, hK⟩ := id hM
  unfold RT at hQ
  subst hQ
  exact W.widen hk hn (W.lret hx hb (hr.trans ht) (fun t ht9 hW => ⟨rfl, by rw [ht9]; exact hR⟩) hlo hd (hlocks := hlk))
theorem PJ.vret {mc ms : Nat} (hd : decode Y.2.1 pc = .ok (.return_, 1)) (ht : Y.2.2.2 = none) (hk : k ≤ mc) (hn : n ≤ ms) : PJ l G R Y pc L [] h k n (some h) (RT G mc ms cvV) := by
  intro M hM x9 hx9 Q hQ H locs ls hR hl hlo
  cases hx9
  obtain ⟨hx, hb, hml, hown, hts, hr, hlk, hnm, hK⟩ := id hM
  unfold RT at hQ
  subst hQ
  exact W.widen hk hn (W.vret hx hb (hr.trans ht) (fun t ht9 hW => ⟨rfl, by rw [ht9]; exact hR⟩) hlo hd hlk)
theorem PJ.aret {mc ms : Nat} {v : Option Nat} {rt : FieldType} (hd : decode Y.2.1 pc = .ok (.areturn, 1)) (ht : Y.2.2.2 = some rt) (hrt : (∃ n, rt = .object n) ∨ ∃ t, rt = .array t) (hk : k ≤ mc) (hn : n ≤ ms) : PJ l G R Y pc L [.inr (.inr v)] h k n (some (v, h)) (RT G mc ms cvR) := by
  intro M hM x9 hx9 Q hQ H locs ls hR hl hlo
  cases hx9
  obtain ⟨hx, hb, hml, hown, hts, hr, hlk, hnm, hK⟩ := id hM
  unfold RT at hQ
  subst hQ
  exact W.widen hk hn (W.aret hx hb (hr.trans ht) hrt (by cases v with | none => exact Or.inl rfl | some i => exact Or.inr ⟨_, rfl⟩) (fun t ht9 hW => ⟨rfl, by rw [ht9]; exact hR⟩) hlo hd hlk)
end J4
