set_option maxRecDepth 100000 in
set_option maxHeartbeats 4000000 in
theorem law_loop {X : CT} {adr : Nat → Nat} {b L : Nat} {xs : Nat → Int32} {Inv : Nat → HI → Nat → Nat → (Nat → Nat) → Prop} (C : CX X RL cL_law 4 1000) (hZ : SZX X adr) (hX : LX X adr b L xs) (hQ : LQ X b) (hL : L ≤ 3072) (hstep : ∀ (t : Nat), t < 512 → ∀ (op : Nat) (a1 a2 a3 a4 a5 : Int32) (h : HI) (hh hs : Nat) (bh : Nat → Nat), Inv t h hh hs bh → StepOK (Inv (t + 1)) op a1 a2 a3 a4 a5 h hh hs bh) :
    ∀ (n t i : Nat) (x3 : Int32), i = 6 * t → x3 = nI i → i ≤ L + 6 → L + 1 ≤ i + 6 * n → ∀ (h : HI) (r : Nat → Nat → Option Nat) (hh hs : Nat) (bh : Nat → Nat), RI r hh hs hh bh → Inv t h hh hs bh → WW X (SHF, adr, 155, 553683) 18 [.ref 900010, .ref 0, .ref 101, .int x3] [] (mk h r) := by
  intro n
  induction n with
  | zero =>
    intro t i x3 et e3 h1 h2 h r hh hs bh hR hI
    refine ww_iload_n C dL_law_18 3 rfl rfl ?_
    refine ww_aload_n C dL_law_19 0 rfl rfl ?_
    refine ww_slen C hX dL_law_20 ?_
    refine ww_bipush (v := (6 : Int32)) C dL_law_21 (by decide) ?_
    refine ww_isub C dL_law_23 ?_
    refine ww_icmp_gt C dL_law_24 1070 rfl (fun _ => ?_) (fun hc => absurd ?_ hc)
    · refine ww_iconst (v := (1 : Int32)) C dL_law_1070 (by decide) ?_
      exact ww_lawret C hQ (by decide) (by decide) dL_law_1071
    · rw [e3]
      exact Int32.lt_iff_toInt_lt.mpr (by rw [show (nI L - (6 : Int32)) = nI L - nI 6 from rfl, pk_sub_toInt (by omega) (by decide), nI_toInt (by omega)]; omega)
  | succ n ih =>
    intro t i x3 et e3 h1 h2 h r hh hs bh hR hI
    refine ww_iload_n C dL_law_18 3 rfl rfl ?_
    refine ww_aload_n C dL_law_19 0 rfl rfl ?_
    refine ww_slen C hX dL_law_20 ?_
    refine ww_bipush (v := (6 : Int32)) C dL_law_21 (by decide) ?_
    refine ww_isub C dL_law_23 ?_
    refine ww_icmp_gt C dL_law_24 1070 rfl (fun _ => ?_) (fun hc => ?_)
    · refine ww_iconst (v := (1 : Int32)) C dL_law_1070 (by decide) ?_
      exact ww_lawret C hQ (by decide) (by decide) dL_law_1071
    · have hi : i + 6 ≤ L := by
        rcases Nat.lt_or_ge L (i + 6) with q | q
        · exfalso
          apply hc
          rw [e3]
          exact Int32.lt_iff_toInt_lt.mpr (by rw [show (nI L - (6 : Int32)) = nI L - nI 6 from rfl, pk_sub_toInt (by omega) (by decide), nI_toInt (by omega)]; omega)
        · exact q
      have cont : ∀ (h2 : HI) (r2 : Nat → Nat → Option Nat) (hh2 hs2 : Nat) (bh2 : Nat → Nat), RI r2 hh2 hs2 hh2 bh2 → Inv (t + 1) h2 hh2 hs2 bh2 → WW X (SHF, adr, 155, 553683) 1064 [.ref 900010, .ref 0, .ref 101, .int x3] [] (mk h2 r2) := by
        intro h2' r2 hh2 hs2 bh2 hR2 hI2
        refine ww_iinc (v := x3 + (6 : Int32)) C dL_law_1064 rfl rfl (by decide) rfl [.ref 900010, .ref 0, .ref 101, .int (x3 + (6 : Int32))] rfl ?_
        refine ww_goto C dL_law_1067 18 rfl ?_
        exact ih (t + 1) (i + 6) _ (by omega) (by rw [e3]; exact nI_add i 6) (by omega) (by omega) h2' r2 hh2 hs2 bh2 hR2 hI2
      refine ww_aload_n C dL_law_27 0 rfl rfl ?_
      refine ww_iload_n C dL_law_28 3 rfl rfl ?_
      refine ww_sld C hX dL_law_29 (by rw [e3]; exact vp_in_nI (by omega) (by omega)) i (by rw [e3]; exact nI_clamp (by omega)) ?_
      refine ww_bipush (v := (31 : Int32)) C dL_law_30 (by decide) ?_
      refine ww_iand C dL_law_32 ?_
      obtain ⟨j, hj, he⟩ := pk_andE (xs i) (m := (31 : Int32)) 5 (by decide)
      rw [he]
      rcases (show j = 0 ∨ j = 1 ∨ j = 2 ∨ j = 3 ∨ j = 4 ∨ j = 5 ∨ j = 6 ∨ j = 7 ∨ j = 8 ∨ j = 9 ∨ j = 10 ∨ j = 11 ∨ j = 12 ∨ j = 13 ∨ j = 14 ∨ j = 15 ∨ j = 16 ∨ j = 17 ∨ j = 18 ∨ j = 19 ∨ j = 20 ∨ j = 21 ∨ j = 22 ∨ j = 23 ∨ j = 24 ∨ j = 25 ∨ j = 26 ∨ j = 27 ∨ j = 28 ∨ j = 29 ∨ j = 30 ∨ j = 31 by omega) with rfl | rfl | rfl | rfl | rfl | rfl | rfl | rfl | rfl | rfl | rfl | rfl | rfl | rfl | rfl | rfl | rfl | rfl | rfl | rfl | rfl | rfl | rfl | rfl | rfl | rfl | rfl | rfl | rfl | rfl | rfl | rfl
      · refine ww_tableIn (off := 135) C dL_law_33 (by decide) (by decide) rfl 168 rfl ?_
        exact lc_0 C hZ hX hQ hL hi e3 hR (hstep t (by omega) 0 _ _ _ _ _ _ _ _ _ hI) cont
      · refine ww_tableIn (off := 198) C dL_law_33 (by decide) (by decide) rfl 231 rfl ?_
        exact lc_1 C hZ hX hQ hL hi e3 hR (hstep t (by omega) 1 _ _ _ _ _ _ _ _ _ hI) cont
      · refine ww_tableIn (off := 221) C dL_law_33 (by decide) (by decide) rfl 254 rfl ?_
        exact lc_2 C hZ hX hQ hL hi e3 hR (hstep t (by omega) 2 _ _ _ _ _ _ _ _ _ hI) cont
      · refine ww_tableIn (off := 234) C dL_law_33 (by decide) (by decide) rfl 267 rfl ?_
        exact lc_3 C hZ hX hQ hL hi e3 hR (hstep t (by omega) 3 _ _ _ _ _ _ _ _ _ hI) cont
      · refine ww_tableIn (off := 257) C dL_law_33 (by decide) (by decide) rfl 290 rfl ?_
        exact lc_4 C hZ hX hQ hL hi e3 hR (hstep t (by omega) 4 _ _ _ _ _ _ _ _ _ hI) cont
      · refine ww_tableIn (off := 280) C dL_law_33 (by decide) (by decide) rfl 313 rfl ?_
        exact lc_5 C hZ hX hQ hL hi e3 hR (hstep t (by omega) 5 _ _ _ _ _ _ _ _ _ hI) cont
      · refine ww_tableIn (off := 313) C dL_law_33 (by decide) (by decide) rfl 346 rfl ?_
        exact lc_6 C hZ hX hQ hL hi e3 hR (hstep t (by omega) 6 _ _ _ _ _ _ _ _ _ hI) cont
      · refine ww_tableIn (off := 346) C dL_law_33 (by decide) (by decide) rfl 379 rfl ?_
        exact lc_7 C hZ hX hQ hL hi e3 hR (hstep t (by omega) 7 _ _ _ _ _ _ _ _ _ hI) cont
      · refine ww_tableIn (off := 369) C dL_law_33 (by decide) (by decide) rfl 402 rfl ?_
        exact lc_8 C hZ hX hQ hL hi e3 hR (hstep t (by omega) 8 _ _ _ _ _ _ _ _ _ hI) cont
      · refine ww_tableIn (off := 392) C dL_law_33 (by decide) (by decide) rfl 425 rfl ?_
        exact lc_9 C hZ hX hQ hL hi e3 hR (hstep t (by omega) 9 _ _ _ _ _ _ _ _ _ hI) cont
      · refine ww_tableIn (off := 415) C dL_law_33 (by decide) (by decide) rfl 448 rfl ?_
        exact lc_10 C hZ hX hQ hL hi e3 hR (hstep t (by omega) 10 _ _ _ _ _ _ _ _ _ hI) cont
      · refine ww_tableIn (off := 464) C dL_law_33 (by decide) (by decide) rfl 497 rfl ?_
        exact lc_11 C hZ hX hQ hL hi e3 hR (hstep t (by omega) 11 _ _ _ _ _ _ _ _ _ hI) cont
      · refine ww_tableIn (off := 487) C dL_law_33 (by decide) (by decide) rfl 520 rfl ?_
        exact lc_12 C hZ hX hQ hL hi e3 hR (hstep t (by omega) 12 _ _ _ _ _ _ _ _ _ hI) cont
      · refine ww_tableIn (off := 520) C dL_law_33 (by decide) (by decide) rfl 553 rfl ?_
        exact lc_13 C hZ hX hQ hL hi e3 hR (hstep t (by omega) 13 _ _ _ _ _ _ _ _ _ hI) cont
      · refine ww_tableIn (off := 553) C dL_law_33 (by decide) (by decide) rfl 586 rfl ?_
        exact lc_14 C hZ hX hQ hL hi e3 hR (hstep t (by omega) 14 _ _ _ _ _ _ _ _ _ hI) cont
      · refine ww_tableIn (off := 586) C dL_law_33 (by decide) (by decide) rfl 619 rfl ?_
        exact lc_15 C hZ hX hQ hL hi e3 hR (hstep t (by omega) 15 _ _ _ _ _ _ _ _ _ hI) cont
      · refine ww_tableIn (off := 609) C dL_law_33 (by decide) (by decide) rfl 642 rfl ?_
        exact lc_16 C hZ hX hQ hL hi e3 hR (hstep t (by omega) 16 _ _ _ _ _ _ _ _ _ hI) cont
      · refine ww_tableIn (off := 642) C dL_law_33 (by decide) (by decide) rfl 675 rfl ?_
        exact lc_17 C hZ hX hQ hL hi e3 hR (hstep t (by omega) 17 _ _ _ _ _ _ _ _ _ hI) cont
      · refine ww_tableIn (off := 675) C dL_law_33 (by decide) (by decide) rfl 708 rfl ?_
        exact lc_18 C hZ hX hQ hL hi e3 hR (hstep t (by omega) 18 _ _ _ _ _ _ _ _ _ hI) cont
      · refine ww_tableIn (off := 708) C dL_law_33 (by decide) (by decide) rfl 741 rfl ?_
        exact lc_19 C hZ hX hQ hL hi e3 hR (hstep t (by omega) 19 _ _ _ _ _ _ _ _ _ hI) cont
      · refine ww_tableIn (off := 731) C dL_law_33 (by decide) (by decide) rfl 764 rfl ?_
        exact lc_20 C hZ hX hQ hL hi e3 hR (hstep t (by omega) 20 _ _ _ _ _ _ _ _ _ hI) cont
      · refine ww_tableIn (off := 764) C dL_law_33 (by decide) (by decide) rfl 797 rfl ?_
        exact lc_21 C hZ hX hQ hL hi e3 hR (hstep t (by omega) 21 _ _ _ _ _ _ _ _ _ hI) cont
      · refine ww_tableIn (off := 787) C dL_law_33 (by decide) (by decide) rfl 820 rfl ?_
        exact lc_22 C hZ hX hQ hL hi e3 hR (hstep t (by omega) 22 _ _ _ _ _ _ _ _ _ hI) cont
      · refine ww_tableIn (off := 840) C dL_law_33 (by decide) (by decide) rfl 873 rfl ?_
        exact lc_23 C hZ hX hQ hL hi e3 hR (hstep t (by omega) 23 _ _ _ _ _ _ _ _ _ hI) cont
      · refine ww_tableIn (off := 883) C dL_law_33 (by decide) (by decide) rfl 916 rfl ?_
        exact lc_24 C hZ hX hQ hL hi e3 hR (hstep t (by omega) 24 _ _ _ _ _ _ _ _ _ hI) cont
      · refine ww_tableIn (off := 906) C dL_law_33 (by decide) (by decide) rfl 939 rfl ?_
        exact lc_25 C hZ hX hQ hL hi e3 hR (hstep t (by omega) 25 _ _ _ _ _ _ _ _ _ hI) cont
      · refine ww_tableIn (off := 929) C dL_law_33 (by decide) (by decide) rfl 962 rfl ?_
        exact lc_26 C hZ hX hQ hL hi e3 hR (hstep t (by omega) 26 _ _ _ _ _ _ _ _ _ hI) cont
      · refine ww_tableIn (off := 962) C dL_law_33 (by decide) (by decide) rfl 995 rfl ?_
        exact lc_27 C hZ hX hQ hL hi e3 hR (hstep t (by omega) 27 _ _ _ _ _ _ _ _ _ hI) cont
      · refine ww_tableIn (off := 985) C dL_law_33 (by decide) (by decide) rfl 1018 rfl ?_
        exact lc_28 C hZ hX hQ hL hi e3 hR (hstep t (by omega) 28 _ _ _ _ _ _ _ _ _ hI) cont
      · refine ww_tableIn (off := 1008) C dL_law_33 (by decide) (by decide) rfl 1041 rfl ?_
        exact lc_29 C hZ hX hQ hL hi e3 hR (hstep t (by omega) 29 _ _ _ _ _ _ _ _ _ hI) cont
      · refine ww_tableOut C dL_law_33 (Or.inr (by decide)) 1064 rfl ?_
        exact cont h r hh hs bh hR (hstep t (by omega) 30 0 0 0 0 0 _ _ _ _ hI)
      · refine ww_tableOut C dL_law_33 (Or.inr (by decide)) 1064 rfl ?_
        exact cont h r hh hs bh hR (hstep t (by omega) 31 0 0 0 0 0 _ _ _ _ hI)
theorem lw_isref {args : Array Value} {s : State} {t : Term} (h : (Cond.isRef t).before args s = true) : t.eval args s none [] s = some .null ∨ ∃ a, t.eval args s none [] s = some (.ref a) := by
  simp only [Cond.before, Cond.holds, Cond.value] at h
  cases ht : t.eval args s none [] s with
  | none => simp [ht] at h
  | some v => cases v <;> simp [ht, Value.isRef] at h <;> first | exact Or.inl rfl | exact Or.inr ⟨_, rfl⟩
theorem lw_arr {s : State} {args : Array Value} {ty : FieldType} (hp : ∀ C, ty ≠ .object C) (h : (Cond.arrayClass ty).before args s = true) : ∃ cA : ClassId, ArrOfT s cA ty ∧ va_RA s cA ty := by
  obtain ⟨c, k, comp, h1, h2, h3⟩ := Cond.arrayClass_spec h
  refine ⟨c, fun n z => ⟨fun k h => (by cases h), k, h2, comp, h3⟩, ?_⟩
  cases ty <;> first | exact h1 | exact absurd rfl (hp _)
theorem lw_arrq {s : State} {args : Array Value} {C : String} (h : (Cond.arrayOver (.object C)).before args s = true) : ∃ cA : ClassId, ArrOfT s cA (.object C) ∧ va_RA s cA (.object C) := by
  obtain ⟨comp, c, k, h1, h2, h3, h4, h5⟩ := Cond.arrayOver_spec h
  exact ⟨c, fun n z => ⟨fun k h => (by cases h), k, h3, comp, h4⟩, k, comp, h3, h4, h1, h5⟩
def lw_tm (i : Nat) : Term := if i = 0 then .string "NineChairs$Reader" 32 else .string "NineChairs$Reader" 93
set_option maxRecDepth 100000 in
set_option maxHeartbeats 4000000 in
/-- what lies outside, at the law's entry -/
theorem lw_SZ {s : State} {b : Addr} (hts : ∀ w ∈ lw_tbl, w.before #[Value.ref b] s = true) (hgv : (Jvm.Cond.and given_1 narrow_1).before #[Value.ref b] s = true) : ∃ adr : Nat → Nat, adr 900010 = b ∧ SZ adr (fun q => s.heap.size ≤ q) s s.heap := by
  have hs := flat_of_before _ hgv
  have hA : ∀ a : Nat, a < s.heap.size → ¬ (fun q => s.heap.size ≤ q) a := fun a h => Nat.not_le.mpr h
  obtain ⟨tW, e1, hT⟩ := va_Tof (tm := .static "NineChairs$Planner" "WITHOUT" "[J") (ty := .long) (N := 6) (f := fun j => .long (WO.getD j 0)) (A := fun q => s.heap.size ≤ q) (by decide) (hs _ (by decide +kernel)) (va_eqt (hs _ (by decide +kernel))) (fun j hj => va_eqtl (hs _ ((by decide +kernel : ∀ j, j < 6 → Cond.eq (.elem (.static "NineChairs$Planner" "WITHOUT" "[J") (.int (Int32.ofNat j))) (.long (WO.getD j 0)) ∈ flatC (Jvm.Cond.and given_1 narrow_1)) j hj))) hA
  have hZW := va_Zof (A := fun q => s.heap.size ≤ q) (hts _ (List.mem_append_right _ (List.mem_of_getElem? (i := 1041) (by decide +kernel)))) (hts _ (List.mem_append_right _ (List.mem_of_getElem? (i := 15) (by decide +kernel)))) e1 hA
  have hZC := va_Zof (A := fun q => s.heap.size ≤ q) (C := "java/lang/String") (n := "COMPACT_STRINGS") (d := "Z") (hts _ (List.mem_append_right _ (List.mem_of_getElem? (i := 256) (by decide +kernel)))) (hts _ (List.mem_append_right _ (List.mem_of_getElem? (i := 9) (by decide +kernel)))) (va_eqi (hs _ (by decide +kernel : Cond.eq (.static "java/lang/String" "COMPACT_STRINGS" "Z") (.int 1) ∈ flatC (Jvm.Cond.and given_1 narrow_1)))) hA
  have hF := lw_isref (hs _ (by decide +kernel : Cond.isRef (.static "jdk/internal/util/Preconditions" "SIOOBE_FORMATTER" "Ljava/util/function/BiFunction;") ∈ flatC (Jvm.Cond.and given_1 narrow_1)))
  have hZF : ∃ tF : Nat, va_Z "jdk/internal/util/Preconditions" "SIOOBE_FORMATTER" "Ljava/util/function/BiFunction;" .null (fun q => s.heap.size ≤ q) s s.heap ∨ va_Z "jdk/internal/util/Preconditions" "SIOOBE_FORMATTER" "Ljava/util/function/BiFunction;" (.ref tF) (fun q => s.heap.size ≤ q) s s.heap := by
    rcases hF with eF | ⟨tF, eF⟩
    · exact ⟨0, Or.inl (va_Zof (A := fun q => s.heap.size ≤ q) (hts _ (List.mem_append_right _ (List.mem_of_getElem? (i := 272) (by decide +kernel)))) (hts _ (List.mem_append_right _ (List.mem_of_getElem? (i := 11) (by decide +kernel)))) eF hA)⟩
    · exact ⟨tF, Or.inr (va_Zof (A := fun q => s.heap.size ≤ q) (hts _ (List.mem_append_right _ (List.mem_of_getElem? (i := 272) (by decide +kernel)))) (hts _ (List.mem_append_right _ (List.mem_of_getElem? (i := 11) (by decide +kernel)))) eF hA)⟩
  obtain ⟨tF, hZF⟩ := hZF
  obtain ⟨adK, adV, hS, hK⟩ := vk_Sof (N := 2) (tm := lw_tm) (len := LJ) (byt := BJ) (A := fun q => s.heap.size ≤ q) (s := s) (args := #[Value.ref b]) (by decide) (fun i hi => hs _ ((by decide +kernel : ∀ i, i < 2 → Cond.exactly (lw_tm i) "java/lang/String" ∈ flatC (Jvm.Cond.and given_1 narrow_1)) i hi)) (fun i hi => hs _ ((by decide +kernel : ∀ i, i < 2 → Cond.eq (.field (lw_tm i) "java/lang/String" "coder" "B") (.int 0) ∈ flatC (Jvm.Cond.and given_1 narrow_1)) i hi)) (fun i hi => hs _ ((by decide +kernel : ∀ i, i < 2 → Cond.arrayOf (.field (lw_tm i) "java/lang/String" "value" "[B") .byte ∈ flatC (Jvm.Cond.and given_1 narrow_1)) i hi)) (fun i hi => hs _ ((by decide +kernel : ∀ i, i < 2 → Cond.eq (.length (.field (lw_tm i) "java/lang/String" "value" "[B")) (.int (Int32.ofNat (LJ.getD i 0))) ∈ flatC (Jvm.Cond.and given_1 narrow_1)) i hi)) (fun i hi j hj => hs _ ((by decide +kernel : ∀ i, i < 2 → ∀ j, j < LJ.getD i 0 → Cond.eq (.elem (.field (lw_tm i) "java/lang/String" "value" "[B") (.int (Int32.ofNat j))) (.int ((BJ.getD i []).getD j 0)) ∈ flatC (Jvm.Cond.and given_1 narrow_1)) i hi j hj)) (fun i j hi hj hne => by
      have h2 := hs _ (by decide +kernel : Cond.not (Cond.eq (.string "NineChairs$Reader" 32) (.string "NineChairs$Reader" 93)) ∈ flatC (Jvm.Cond.and given_1 narrow_1))
      rcases (show i = 0 ∧ j = 1 ∨ i = 1 ∧ j = 0 by omega) with ⟨rfl, rfl⟩ | ⟨rfl, rfl⟩
      · exact Or.inl h2
      · exact Or.inr h2) hA
  refine ⟨fun i => if i = 900000 then tW else if i = 900001 then adK 0 else if i = 900002 then adK 1 else if i = 900003 then adV 0 else if i = 900004 then adV 1 else if i = 900005 then tF else b, by simp, ?_⟩
  refine ⟨by simpa using hZW, by simpa using hT, ⟨fun i hi => ?_, fun i j hi hj e => ?_⟩, ?_, ?_, hZC, by simpa using hZF⟩
  · rcases (show i = 0 ∨ i = 1 by omega) with rfl | rfl
    · simpa using hS.1 0 hi
    · simpa using hS.1 1 hi
  · rcases (show i = 0 ∨ i = 1 by omega) with rfl | rfl <;> rcases (show j = 0 ∨ j = 1 by omega) with rfl | rfl
    · rfl
    · exact hS.2 0 1 hi hj (by simpa using e)
    · exact hS.2 1 0 hi hj (by simpa using e)
    · rfl
  · exact vk_R.of (A := #[Value.ref b]) (hts _ (List.mem_append_right _ (List.mem_of_getElem? (i := 246) (by decide +kernel)))) (by simpa [lw_tm] using hK 0 (by decide))
  · exact vk_R.of (A := #[Value.ref b]) (hts _ (List.mem_append_right _ (List.mem_of_getElem? (i := 544) (by decide +kernel)))) (by simpa [lw_tm] using hK 1 (by decide))
