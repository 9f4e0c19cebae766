/-! Math -/
section J10
variable {l : Launch} {G : Cx} {R : Room} {Y : MI} {pc : Nat} {L : List (Option PV)} {st : List PV} {h : PH} {k n : Nat} {X Z : Type} {Ψ : X → MT → (State → Prop) → Prop} {o o1 o2 : Option X}
theorem mw_maxI_c : Cond.code Lib.Math.max.name Lib.Math.max.code 2 (some .int) ∈ pj_ws := pj_mem 1050 (by decide +kernel) rfl
theorem mw_maxI_s : Cond.static Lib.Math.max.name ∈ pj_ws := pj_mem 1049 (by decide +kernel) rfl
theorem mw_minI_c : Cond.code Lib.Math.min.name Lib.Math.min.code 2 (some .int) ∈ pj_ws := pj_mem 630 (by decide +kernel) rfl
theorem mw_minI_s : Cond.static Lib.Math.min.name ∈ pj_ws := pj_mem 629 (by decide +kernel) rfl
theorem mw_maxJ_c : Cond.code Lib.MathLoose.max_long.x Lib.MathLoose.max_long.code 4 (some .long) ∈ pj_ws := pj_mem 993 (by decide +kernel) rfl
theorem mw_maxJ_s : Cond.static Lib.MathLoose.max_long.x ∈ pj_ws := pj_mem 992 (by decide +kernel) rfl
theorem mw_absJ_c : Cond.code Lib.MathLoose.abs_long.x Lib.MathLoose.abs_long.code 2 (some .long) ∈ pj_ws := pj_mem 1001 (by decide +kernel) rfl
theorem mw_absJ_s : Cond.static Lib.MathLoose.abs_long.x ∈ pj_ws := pj_mem 1000 (by decide +kernel) rfl
theorem mw_i : Cond.initialized "java/lang/Math" ∈ pj_ws := pj_mem 143 (by decide +kernel) rfl
theorem PJ.mmaxI {x y : Int32} {idx : Nat} (hw : Cond.methodLink Y.1.cls idx Lib.Math.max.name ∈ pj_ws) (hf : 1 ≤ R.frames) (hlc : 32 ≤ R.locals) (hsm : pj_sum st ≤ 8) (hk : k ≤ R.cells) (hn : n ≤ R.slots) (hd : decode Y.2.1 pc = .ok (.invokestatic idx, 3)) (kk : PJ l G R Y (pc + 3) L (.inl (if x < y then y else x) :: st) h k n o Ψ) : PJ l G R Y pc L (.inl y :: .inl x :: st) h k n o Ψ := by
  intro M hM x9 hx9 Q hQ H locs ls hR hl hlo
  obtain ⟨hx, hb, hml, hown, hts, hr, hlk, hnm, hK⟩ := id hM
  exact va_mmax hx hb (hml.trans hl.1.symm) hown (hts _ hw) (hts _ mw_maxI_s) (hts _ mw_i) (hts _ mw_maxI_c) hf (by rw [pj_sum_v]; omega) hk hn hd (kk M hM x9 hx9 Q hQ H locs ls hR hl hlo)
theorem PJ.mminI {x y : Int32} {idx : Nat} (hw : Cond.methodLink Y.1.cls idx Lib.Math.min.name ∈ pj_ws) (hf : 1 ≤ R.frames) (hlc : 32 ≤ R.locals) (hsm : pj_sum st ≤ 8) (hk : k ≤ R.cells) (hn : n ≤ R.slots) (hd : decode Y.2.1 pc = .ok (.invokestatic idx, 3)) (kk : PJ l G R Y (pc + 3) L (.inl (if y < x then y else x) :: st) h k n o Ψ) : PJ l G R Y pc L (.inl y :: .inl x :: st) h k n o Ψ := by
  intro M hM x9 hx9 Q hQ H locs ls hR hl hlo
  obtain ⟨hx, hb, hml, hown, hts, hr, hlk, hnm, hK⟩ := id hM
  exact va_mmin hx hb (hml.trans hl.1.symm) hown (hts _ hw) (hts _ mw_minI_s) (hts _ mw_i) (hts _ mw_minI_c) hf (by rw [pj_sum_v]; omega) hk hn hd (kk M hM x9 hx9 Q hQ H locs ls hR hl hlo)
theorem PJ.mmaxJ {x y : Int64} {idx : Nat} (hw : Cond.methodLink Y.1.cls idx Lib.MathLoose.max_long.x ∈ pj_ws) (hf : 1 ≤ R.frames) (hlc : 32 ≤ R.locals) (hsm : pj_sum st ≤ 8) (hk : k ≤ R.cells) (hn : n ≤ R.slots) (hd : decode Y.2.1 pc = .ok (.invokestatic idx, 3)) (kk : PJ l G R Y (pc + 3) L (.inr (.inl (if y < x then x else y)) :: st) h k n o Ψ) : PJ l G R Y pc L (.inr (.inl y) :: .inr (.inl x) :: st) h k n o Ψ := by
  intro M hM x9 hx9 Q hQ H locs ls hR hl hlo
  obtain ⟨hx, hb, hml, hown, hts, hr, hlk, hnm, hK⟩ := id hM
  exact va_mmax_long hx hb (hml.trans hl.1.symm) hown (hts _ hw) (hts _ mw_maxJ_s) (hts _ mw_i) (hts _ mw_maxJ_c) hf (by rw [pj_sum_v]; omega) hk hn hd (kk M hM x9 hx9 Q hQ H locs ls hR hl hlo)
theorem PJ.mabsJ {x : Int64} {idx : Nat} (hw : Cond.methodLink Y.1.cls idx Lib.MathLoose.abs_long.x ∈ pj_ws) (hf : 1 ≤ R.frames) (hlc : 32 ≤ R.locals) (hsm : pj_sum st ≤ 8) (hk : k ≤ R.cells) (hn : n ≤ R.slots) (hd : decode Y.2.1 pc = .ok (.invokestatic idx, 3)) (kk : PJ l G R Y (pc + 3) L (.inr (.inl (if 0 < x then x else -x)) :: st) h k n o Ψ) : PJ l G R Y pc L (.inr (.inl x) :: st) h k n o Ψ := by
  intro M hM x9 hx9 Q hQ H locs ls hR hl hlo
  obtain ⟨hx, hb, hml, hown, hts, hr, hlk, hnm, hK⟩ := id hM
  exact va_mabs_long hx hb (hml.trans hl.1.symm) hown (hts _ hw) (hts _ mw_absJ_s) (hts _ mw_i) (hts _ mw_absJ_c) hf (by rw [pj_sum_v]; omega) hk hn hd (kk M hM x9 hx9 Q hQ H locs ls hR hl hlo)
end J10
