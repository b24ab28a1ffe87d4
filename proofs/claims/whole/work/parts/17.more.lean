/-- the words of a call of Math.max, Math.min -/
def MW (own : String) (idx : Nat) (y : MethodName) (cc : ByteArray) : Prop := Cond.methodLink own idx y ∈ wT ∧ Cond.static y ∈ wT ∧ Cond.initialized "java/lang/Math" ∈ wT ∧ Cond.code y cc 2 (some .int) ∈ wT
theorem mw_max_s : Cond.static Lib.Math.max.name ∈ wT := tbw 92 (by decide +kernel) rfl
theorem mw_max_c : Cond.code Lib.Math.max.name Lib.Math.max.code 2 (some .int) ∈ wT := tbw 93 (by decide +kernel) rfl
theorem mw_min_s : Cond.static Lib.Math.min.name ∈ wT := tbw 562 (by decide +kernel) rfl
theorem mw_min_c : Cond.code Lib.Math.min.name Lib.Math.min.code 2 (some .int) ∈ wT := tbw 563 (by decide +kernel) rfl
theorem mw_i : Cond.initialized "java/lang/Math" ∈ wT := tbw 6 (by decide +kernel) rfl
theorem mw_X2_9 : MW RX2 9 Lib.Math.max.name Lib.Math.max.code := ⟨tbw 91 (by decide +kernel) rfl, mw_max_s, mw_i, mw_max_c⟩
theorem mw_X6_183 : MW RX6 183 Lib.Math.min.name Lib.Math.min.code := ⟨tbw 760 (by decide +kernel) rfl, mw_min_s, mw_i, mw_min_c⟩
theorem mw_X6_189 : MW RX6 189 Lib.Math.max.name Lib.Math.max.code := ⟨tbw 761 (by decide +kernel) rfl, mw_max_s, mw_i, mw_max_c⟩
theorem mw_X8_141 : MW RX8 141 Lib.Math.max.name Lib.Math.max.code := ⟨tbw 930 (by decide +kernel) rfl, mw_max_s, mw_i, mw_max_c⟩
theorem ww_max {X : CT} {sh : Sh} {adr : Nat → Nat} {cells slots : Nat} {own : String} {cc : ByteArray} {nL d pc : Nat} {ls st : List Value} {σ : Hp} {idx : Nat} {x y : Int32} (C : CX X own cc nL d) (hd : decode cc pc = .ok (.invokestatic idx, 3)) (hw : MW own idx Lib.Math.max.name Lib.Math.max.code) (h1 : 1 ≤ d) (h8 : (st.map fun v => v.category).sum ≤ 8) (hcs : cells ≤ (rX X).cells ∧ slots ≤ (rX X).slots) (k : WW X (sh, adr, cells, slots) (pc + 3) ls (.int (if x < y then y else x) :: st) σ) : WW X (sh, adr, cells, slots) pc ls (.int y :: .int x :: st) σ := by
  obtain ⟨p, l, e, R, s, m, args, below, meth, c, Q, D, z, A⟩ := X
  obtain ⟨hx, hb, hml, hown, hts, hK, hA, hR, hlk⟩ := C
  obtain ⟨w1, w2, w3, w4⟩ := hw
  intro H locs la hP hD hS hl
  refine va_mmax hx hb hl.1.symm hown (hts _ w1) (hts _ w2) (hts _ w3) (hts _ w4) (Nat.le_trans h1 hR.1) ?_ hcs.1 hcs.2 hd (k H locs la hP hD hS hl)
  have h2 := hR.2
  have h3 : ((st.map (tr adr)).map fun v => v.category).sum ≤ 8 := by rw [List.map_map]; simpa [Function.comp_def, tr_cat] using h8
  omega
theorem ww_min {X : CT} {sh : Sh} {adr : Nat → Nat} {cells slots : Nat} {own : String} {cc : ByteArray} {nL d pc : Nat} {ls st : List Value} {σ : Hp} {idx : Nat} {x y : Int32} (C : CX X own cc nL d) (hd : decode cc pc = .ok (.invokestatic idx, 3)) (hw : MW own idx Lib.Math.min.name Lib.Math.min.code) (h1 : 1 ≤ d) (h8 : (st.map fun v => v.category).sum ≤ 8) (hcs : cells ≤ (rX X).cells ∧ slots ≤ (rX X).slots) (k : WW X (sh, adr, cells, slots) (pc + 3) ls (.int (if y < x then y else x) :: st) σ) : WW X (sh, adr, cells, slots) pc ls (.int y :: .int x :: st) σ := by
  obtain ⟨p, l, e, R, s, m, args, below, meth, c, Q, D, z, A⟩ := X
  obtain ⟨hx, hb, hml, hown, hts, hK, hA, hR, hlk⟩ := C
  obtain ⟨w1, w2, w3, w4⟩ := hw
  intro H locs la hP hD hS hl
  refine va_mmin hx hb hl.1.symm hown (hts _ w1) (hts _ w2) (hts _ w3) (hts _ w4) (Nat.le_trans h1 hR.1) ?_ hcs.1 hcs.2 hd (k H locs la hP hD hS hl)
  have h2 := hR.2
  have h3 : ((st.map (tr adr)).map fun v => v.category).sum ≤ 8 := by rw [List.map_map]; simpa [Function.comp_def, tr_cat] using h8
  omega
