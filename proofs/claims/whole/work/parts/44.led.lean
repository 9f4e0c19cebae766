-- led
def f_T_led (h : PH) (a0 : Option Nat) (a1 : Int32) : Option (Int32 ⊕ Unit) := (pj_it (X := (Unit) ⊕ (Int32)) (fun s1 : Int32 × Int32 => (gR h 10 a0 2).bind fun v3 => (gI h 1 v3 3).bind fun v4 => if v4 ≤ s1.2 then (some (.inr (.inl ()))) else (if s1.1 < 0 then (some (.inr (.inl ()))) else ((gR h 10 a0 6).bind fun v5 => (gR h 2 v5 3).bind fun v6 => (aI h v6 s1.2).bind fun v7 => (gR h 10 a0 2).bind fun v8 => (gR h 1 v8 7).bind fun v9 => (aI h v9 s1.2).bind fun v10 => if ¬ v7 = v10 then (some (.inl (s1.1, (s1.2 + (1 : Int32))))) else (if ¬ s1.1 = 0 then (some (.inl ((s1.1 + (-1 : Int32)), (s1.2 + (1 : Int32))))) else (some (.inr (.inr s1.2))))))) FU (a1, (0 : Int32))).bind fun x2 => match x2 with | (.inl yx2_0) => some (.inr ()) | (.inr yx2_1) => some (.inl yx2_1)
def f_W_led (h : PH) (a0 : Option Nat) (a1 : Int32) (a2 : Option Nat) : Option (Int32 × PH) := (pj_at h 10 a0).bind fun _ => (f_T_led h a0 a1).bind fun r => match r with
  | .inl v => (sA h 51 a2 0 (.inr (.inl v.toInt64))).bind fun h1 => some ((0 : Int32), h1)
  | .inr _ => some ((1 : Int32), h ++ [(99, [])])
abbrev Y_W_led : MI := (⟨"WaverTaxLaw", "led", "(LWaverTax;I[J)I"⟩, method_3_code, 4, (some .int))
def PMW (l : Launch) (G : Cx) (d mc ms : Nat) (Y : MI) (hh : List (Nat × Nat × Nat × Nat)) (as : List PV) (h : PH) (x : Option PV × PH) : Prop := Met l Y.1 (Cond.codeWith Y.1 Y.2.1 Y.2.2.1 Y.2.2.2 hh :: pj_ws) (pj_rm d mc ms) (pj_Pc G as h) (pj_Qc G x) mc ms (fun q => G.1 ≤ q)
def pj_cSW (own : String) (idx : Nat) (Y1 : MI) (hh : List (Nat × Nat × Nat × Nat)) (np : Nat) : Prop := (Cond.codeWith Y1.1 Y1.2.1 Y1.2.2.1 Y1.2.2.2 hh ∈ pj_ws) ∧ (Cond.initialized Y1.1.cls ∈ pj_ws) ∧ (Y1.1.cls ≠ "java/lang/invoke/MethodHandle" ∧ Y1.1.cls ≠ "java/lang/invoke/VarHandle" ∧ (parseMethodDescriptor Y1.1.desc).map (fun d => d.parameters.length) = some np) ∧ Cond.methodLink own idx Y1.1 ∈ pj_ws ∧ Cond.static Y1.1 ∈ pj_ws
theorem cs_W_led : pj_cSW "WaverTaxLaw" 228 Y_W_led [(0, 9, 12, 13)] 3 := ⟨pj_mem 1310 (by decide +kernel) rfl, pj_mem 129 (by decide +kernel) rfl, ⟨by decide +kernel, by decide +kernel, by decide +kernel⟩, pj_mem 1308 (by decide +kernel) rfl, pj_mem 1309 (by decide +kernel) rfl⟩
section J11
variable {l : Launch} {G : Cx} {R : Room} {Y : MI} {pc : Nat} {L : List (Option PV)} {st : List PV} {h : PH} {k n : Nat} {X Z : Type} {Ψ : X → MT → (State → Prop) → Prop} {o o1 o2 : Option X}
theorem PJ.cSWI {d mc ms np idx : Nat} {Y1 : MI} {hh : List (Nat × Nat × Nat × Nat)} {as rest : List PV} {o1 : Option (Int32 × PH)} {K : Int32 × PH → Option X} (hs : pj_cSW Y.1.cls idx Y1 hh np) (hMt : ∀ z, o1 = some z → PMW l G d mc ms Y1 hh as h (some (.inl z.1), z.2)) (hf : pj_fit R Y1 d mc ms k n) (hn : as.length = np) (hst : st = as.reverse ++ rest) (hsm : pj_sum rest ≤ 8) (hd : decode Y.2.1 pc = .ok (.invokestatic idx, 3))
    (kk : ∀ z : Int32 × PH, PJ l G R Y (pc + 3) L (.inl z.1 :: rest) z.2 (k + mc) (n + ms) (K z) Ψ) : PJ l G R Y pc L st h k n (o1.bind K) Ψ := by
  intro M hM x9 hx9 Q hQ H locs ls hR hl hlo
  obtain ⟨z, hz, hy9⟩ := Option.bind_eq_some_iff.mp hx9
  obtain ⟨w1, w2, w3, w4, w5⟩ := hs
  obtain ⟨hx, hb, hml, hown, hts, hr, hlk, hnm, hK⟩ := id hM
  have hG : GoodIn pj_ws (va_wsS Y.1.cls idx Y1.1 (Cond.codeWith Y1.1 Y1.2.1 Y1.2.2.1 Y1.2.2.2 hh :: pj_ws)) := by
    intro w hw
    unfold va_wsS at hw
    simp only [List.mem_append, List.mem_cons, List.not_mem_nil, or_false] at hw
    rcases hw with (rfl | rfl | rfl) | rfl | hw
    · exact pj_good _ w4
    · exact pj_good _ w5
    · exact pj_good _ w2
    · exact pj_good _ w1
    · exact pj_good _ hw
  have hcw := vx_cwSW (R := R) (mc := mc) (ms := ms) (rm := pj_rm d mc ms) np hts hG rfl rfl rfl w3 ⟨hf.1, hf.2.1⟩
  have hpre : PreS M.2.2.1 H (pj_Pc G as h) (as.map (pj_v G)) :=
    ⟨pj_blind, fun U hU hW => ⟨rfl, by rw [hU]; exact hR, hK.warm hW⟩⟩
  have hstk : (F0 M.2.2.2.1 pc ls (st.map (pj_v G))).stack = (as.map (pj_v G)).reverse ++ rest.map (pj_v G) := by
    show st.map (pj_v G) = _
    rw [hst, List.map_append, List.map_reverse]
  have hmon : 2 * (F0 M.2.2.2.1 pc ls (st.map (pj_v G))).monitorRoom + ((rest.map (pj_v G)).map fun v => v.category).sum ≤ 8 := by
    rw [pj_sum_v]
    have : (F0 M.2.2.2.1 pc ls (st.map (pj_v G))).monitorRoom = 0 := rfl
    rw [this]
    omega
  refine pj_fin hlo (mc := mc) (ms := ms) (rest := rest) (x := (some (.inl z.1), z.2)) (a := (as.map (pj_v G)).toArray) ?_ (fun H1 locs1 g1 g2 => kk z M hM x9 hy9 Q hQ H1 locs1 ls g1 hl g2)
  exact vx_runSW (Ts := pj_ws) ⟨hx, hb, hml, hown, hts⟩ (hMt z hz) hcw hpre rfl (by rw [List.length_map]; exact hn) hl.1 hstk hmon hd ⟨hf.2.2.1, hf.2.2.2⟩
end J11
