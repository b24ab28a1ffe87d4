theorem cw_J0_335 : CW RJ0 335 yJ0_coder_7d493 cJ0_coder_7d493 1 (some .byte) 0 := ⟨(tbw 251 (by decide +kernel) rfl), (tbw 252 (by decide +kernel) rfl), (tbw 253 (by decide +kernel) rfl), (tbw 9 (by decide +kernel) rfl), (tbw 254 (by decide +kernel) rfl), by decide +kernel, by decide +kernel, by decide +kernel⟩
theorem cw_J0_492 : CW RJ0 492 yJ0_isLatin1_aae02 cJ0_isLatin1_aae02 1 (some .boolean) 0 := ⟨(tbw 261 (by decide +kernel) rfl), (tbw 262 (by decide +kernel) rfl), (tbw 263 (by decide +kernel) rfl), (tbw 9 (by decide +kernel) rfl), (tbw 264 (by decide +kernel) rfl), by decide +kernel, by decide +kernel, by decide +kernel⟩
theorem sw_J0_495 : SW RJ0 495 yJ1_charAt_3b067 cJ1_charAt_3b067 2 (some .char) 2 := ⟨(tbw 265 (by decide +kernel) rfl), (tbw 266 (by decide +kernel) rfl), (tbw 10 (by decide +kernel) rfl), (tbw 267 (by decide +kernel) rfl), by decide +kernel, by decide +kernel, by decide +kernel⟩
theorem cw_J0_505 : CW RJ0 505 yJ0_length_8abf5 cJ0_length_8abf5 1 (some .int) 0 := ⟨(tbw 553 (by decide +kernel) rfl), (tbw 248 (by decide +kernel) rfl), (tbw 249 (by decide +kernel) rfl), (tbw 9 (by decide +kernel) rfl), (tbw 250 (by decide +kernel) rfl), by decide +kernel, by decide +kernel, by decide +kernel⟩
theorem cw_J0_633 : CW RJ0 633 yJ0_indexOf_7cf53 cJ0_indexOf_7cf53 3 (some .int) 2 := ⟨(tbw 549 (by decide +kernel) rfl), (tbw 550 (by decide +kernel) rfl), (tbw 551 (by decide +kernel) rfl), (tbw 9 (by decide +kernel) rfl), (tbw 552 (by decide +kernel) rfl), by decide +kernel, by decide +kernel, by decide +kernel⟩
theorem sw_J0_637 : SW RJ0 637 yJ1_indexOf_4cfef cJ1_indexOf_4cfef 4 (some .int) 4 := ⟨(tbw 554 (by decide +kernel) rfl), (tbw 555 (by decide +kernel) rfl), (tbw 10 (by decide +kernel) rfl), (tbw 556 (by decide +kernel) rfl), by decide +kernel, by decide +kernel, by decide +kernel⟩
theorem sw_J0_1059 : SW RJ0 1059 yJ3_checkIndex_8e157 cJ3_checkIndex_8e157 3 (some .int) 3 := ⟨(tbw 273 (by decide +kernel) rfl), (tbw 274 (by decide +kernel) rfl), (tbw 11 (by decide +kernel) rfl), (tbw 275 (by decide +kernel) rfl), by decide +kernel, by decide +kernel, by decide +kernel⟩
theorem sw_J0_1062 : SW RJ0 1062 yJ3_checkFromToIndex_8c36e cJ3_checkFromToIndex_8c36e 4 (some .int) 4 := ⟨(tbw 582 (by decide +kernel) rfl), (tbw 583 (by decide +kernel) rfl), (tbw 11 (by decide +kernel) rfl), (tbw 584 (by decide +kernel) rfl), by decide +kernel, by decide +kernel, by decide +kernel⟩
theorem sw_J1_9 : SW RJ1 9 yJ0_checkIndex_df160 cJ0_checkIndex_df160 2 none 2 := ⟨(tbw 268 (by decide +kernel) rfl), (tbw 269 (by decide +kernel) rfl), (tbw 9 (by decide +kernel) rfl), (tbw 270 (by decide +kernel) rfl), by decide +kernel, by decide +kernel, by decide +kernel⟩
theorem mw_J1_38 : MW RJ1 38 Lib.Math.min.name Lib.Math.min.code := ⟨(tbw 561 (by decide +kernel) rfl), mw_min_s, mw_i, mw_min_c⟩
theorem sw_J1_88 : SW RJ1 88 yJ1_canEncode_9a6ad cJ1_canEncode_9a6ad 1 (some .boolean) 1 := ⟨(tbw 557 (by decide +kernel) rfl), (tbw 558 (by decide +kernel) rfl), (tbw 10 (by decide +kernel) rfl), (tbw 559 (by decide +kernel) rfl), by decide +kernel, by decide +kernel, by decide +kernel⟩
theorem mw_J1_92 : MW RJ1 92 Lib.Math.max.name Lib.Math.max.code := ⟨(tbw 560 (by decide +kernel) rfl), mw_max_s, mw_i, mw_max_c⟩
theorem sw_J1_95 : SW RJ1 95 yJ1_indexOfChar_4cfef cJ1_indexOfChar_4cfef 6 (some .int) 4 := ⟨(tbw 564 (by decide +kernel) rfl), (tbw 565 (by decide +kernel) rfl), (tbw 10 (by decide +kernel) rfl), (tbw 566 (by decide +kernel) rfl), by decide +kernel, by decide +kernel, by decide +kernel⟩
theorem ow_W : Cond.fieldLink "NineChairs$Planner" 178 "NineChairs$Planner" "WITHOUT" "[J" ∈ wT := (tbw 1040 (by decide +kernel) rfl)
theorem ow_C : Cond.fieldLink "java/lang/String" 38 "java/lang/String" "COMPACT_STRINGS" "Z" ∈ wT := (tbw 255 (by decide +kernel) rfl)
theorem ow_F : Cond.fieldLink "java/lang/String" 1053 "jdk/internal/util/Preconditions" "SIOOBE_FORMATTER" "Ljava/util/function/BiFunction;" ∈ wT := (tbw 271 (by decide +kernel) rfl)
theorem ow_v : Cond.fieldLink "java/lang/String" 9 "java/lang/String" "value" "[B" ∈ wT := (tbw 1902 (by decide +kernel) rfl)
theorem ow_c : Cond.fieldLink "java/lang/String" 15 "java/lang/String" "coder" "B" ∈ wT := (tbw 1903 (by decide +kernel) rfl)
theorem ow_al : Cond.methodLink RX6 72 arraycopyName ∈ wT := (tbw 1154 (by decide +kernel) rfl)
theorem ow_as : Cond.static arraycopyName ∈ wT := (tbw 1155 (by decide +kernel) rfl)
theorem ow_an : Cond.native arraycopyName ∈ wT := (tbw 1156 (by decide +kernel) rfl)
theorem ow_ai : Cond.initialized "java/lang/System" ∈ wT := (tbw 19 (by decide +kernel) rfl)
theorem ww_getsW {X : CT} {sh : Sh} {adr : Nat → Nat} {cells slots : Nat} {cc : ByteArray} {nL d pc : Nat} {ls st : List Value} {σ : Hp}  (C : CX X RX3 cc nL d) (hZ : SZX X adr) (hd : decode cc pc = .ok (.getstatic 178, 3)) (k : WW X (sh, adr, cells, slots) (pc + 3) ls (.ref 900000 :: st) σ) : WW X (sh, adr, cells, slots) pc ls (st) σ := by
  obtain ⟨p, l, e, R, s, m, args, below, meth, c, Q, D, z, A⟩ := X
  obtain ⟨hx, hb, hml, hown, hts, hK, hA, hR, hlk⟩ := C
  obtain ⟨z1, z2, z3, z4, z5, z6, z7⟩ := hZ
  intro H locs la hP hD hS hl
  exact va_gets hx hb z1 hS hown (hts _ ow_W) (fun _ q => q) hd (k H locs la hP hD hS hl)
theorem ww_lalW {X : CT} {sh : Sh} {adr : Nat → Nat} {cells slots : Nat} {own : String} {cc : ByteArray} {nL d pc : Nat} {ls st : List Value} {σ : Hp} {i : Int32} (C : CX X own cc nL d) (hZ : SZX X adr) (hd : decode cc pc = .ok (.laload, 1)) (hin : vp_in i 6) (n : Nat) (hn : i.toNatClampNeg = n) (k : WW X (sh, adr, cells, slots) (pc + 1) ls (.long (WO.getD n 0) :: st) σ) : WW X (sh, adr, cells, slots) pc ls (.int i :: .ref 900000 :: st) σ := by
  obtain ⟨p, l, e, R, s, m, args, below, meth, c, Q, D, z, A⟩ := X
  obtain ⟨hx, hb, hml, hown, hts, hK, hA, hR, hlk⟩ := C
  obtain ⟨z1, z2, z3, z4, z5, z6, z7⟩ := hZ
  intro H locs la hP hD hS hl
  exact va_tl hx hb z2 hS hin (by rw [hn]; rfl) hd (k H locs la hP hD hS hl)
theorem ww_getsC {X : CT} {sh : Sh} {adr : Nat → Nat} {cells slots : Nat} {cc : ByteArray} {nL d pc : Nat} {ls st : List Value} {σ : Hp}  (C : CX X RJ0 cc nL d) (hZ : SZX X adr) (hd : decode cc pc = .ok (.getstatic 38, 3)) (k : WW X (sh, adr, cells, slots) (pc + 3) ls (.int 1 :: st) σ) : WW X (sh, adr, cells, slots) pc ls (st) σ := by
  obtain ⟨p, l, e, R, s, m, args, below, meth, c, Q, D, z, A⟩ := X
  obtain ⟨hx, hb, hml, hown, hts, hK, hA, hR, hlk⟩ := C
  obtain ⟨z1, z2, z3, z4, z5, z6, z7⟩ := hZ
  intro H locs la hP hD hS hl
  exact va_gets hx hb z6 hS hown (hts _ ow_C) (fun _ q => q) hd (k H locs la hP hD hS hl)
theorem ww_getsF {X : CT} {sh : Sh} {adr : Nat → Nat} {cells slots : Nat} {cc : ByteArray} {nL d pc : Nat} {ls st : List Value} {σ : Hp} (C : CX X RJ0 cc nL d) (hZ : SZX X adr) (hd : decode cc pc = .ok (.getstatic 1053, 3)) (kn : WW X (sh, adr, cells, slots) (pc + 3) ls (.null :: st) σ) (k : WW X (sh, adr, cells, slots) (pc + 3) ls (.ref 900005 :: st) σ) : WW X (sh, adr, cells, slots) pc ls st σ := by
  obtain ⟨p, l, e, R, s, m, args, below, meth, c, Q, D, z, A⟩ := X
  obtain ⟨hx, hb, hml, hown, hts, hK, hA, hR, hlk⟩ := C
  obtain ⟨z1, z2, z3, z4, z5, z6, z7⟩ := hZ
  intro H locs la hP hD hS hl
  rcases z7 with z7 | z7
  · exact va_gets hx hb z7 hS hown (hts _ ow_F) (fun _ q => q) hd (kn H locs la hP hD hS hl)
  · exact va_gets hx hb z7 hS hown (hts _ ow_F) (fun _ q => q) hd (k H locs la hP hD hS hl)
theorem ww_strV {X : CT} {sh : Sh} {adr : Nat → Nat} {cells slots : Nat} {cc : ByteArray} {nL d pc : Nat} {ls st : List Value} {σ : Hp} {i : Nat} (C : CX X RJ0 cc nL d) (hZ : SZX X adr) (hd : decode cc pc = .ok (.getfield 9, 3)) (hi : i < 2) (k : WW X (sh, adr, cells, slots) (pc + 3) ls (.ref (900003 + i) :: st) σ) : WW X (sh, adr, cells, slots) pc ls (.ref (900001 + i) :: st) σ := by
  obtain ⟨p, l, e, R, s, m, args, below, meth, c, Q, D, z, A⟩ := X
  obtain ⟨hx, hb, hml, hown, hts, hK, hA, hR, hlk⟩ := C
  obtain ⟨z1, z2, z3, z4, z5, z6, z7⟩ := hZ
  intro H locs la hP hD hS hl
  exact vk_getf hx hb (z3.1 i hi).2.2.1 hS hown (hts _ ow_v) (fun _ q => q) hd (k H locs la hP hD hS hl)
theorem ww_strC {X : CT} {sh : Sh} {adr : Nat → Nat} {cells slots : Nat} {cc : ByteArray} {nL d pc : Nat} {ls st : List Value} {σ : Hp} {i : Nat} (C : CX X RJ0 cc nL d) (hZ : SZX X adr) (hd : decode cc pc = .ok (.getfield 15, 3)) (hi : i < 2) (k : WW X (sh, adr, cells, slots) (pc + 3) ls (.int 0 :: st) σ) : WW X (sh, adr, cells, slots) pc ls (.ref (900001 + i) :: st) σ := by
  obtain ⟨p, l, e, R, s, m, args, below, meth, c, Q, D, z, A⟩ := X
  obtain ⟨hx, hb, hml, hown, hts, hK, hA, hR, hlk⟩ := C
  obtain ⟨z1, z2, z3, z4, z5, z6, z7⟩ := hZ
  intro H locs la hP hD hS hl
  exact vk_getf hx hb (z3.1 i hi).2.1 hS hown (hts _ ow_c) (fun _ q => q) hd (k H locs la hP hD hS hl)
theorem ww_blen {X : CT} {sh : Sh} {adr : Nat → Nat} {cells slots : Nat} {own : String} {cc : ByteArray} {nL d pc : Nat} {ls st : List Value} {σ : Hp} {i : Nat} (C : CX X own cc nL d) (hZ : SZX X adr) (hd : decode cc pc = .ok (.arraylength, 1)) (hi : i < 2) (k : WW X (sh, adr, cells, slots) (pc + 1) ls (.int (nI (LJ.getD i 0)) :: st) σ) : WW X (sh, adr, cells, slots) pc ls (.ref (900003 + i) :: st) σ := by
  obtain ⟨p, l, e, R, s, m, args, below, meth, c, Q, D, z, A⟩ := X
  obtain ⟨hx, hb, hml, hown, hts, hK, hA, hR, hlk⟩ := C
  obtain ⟨z1, z2, z3, z4, z5, z6, z7⟩ := hZ
  intro H locs la hP hD hS hl
  exact va_tlen hx hb (z3.1 i hi).2.2.2 hS rfl hd (k H locs la hP hD hS hl)
theorem ww_bbld {X : CT} {sh : Sh} {adr : Nat → Nat} {cells slots : Nat} {own : String} {cc : ByteArray} {nL d pc : Nat} {ls st : List Value} {σ : Hp} {i : Nat} {x : Int32} (C : CX X own cc nL d) (hZ : SZX X adr) (hd : decode cc pc = .ok (.baload, 1)) (hi : i < 2) (hin : vp_in x (LJ.getD i 0)) (n : Nat) (hn : x.toNatClampNeg = n) (k : WW X (sh, adr, cells, slots) (pc + 1) ls (.int ((BJ.getD i []).getD n 0) :: st) σ) : WW X (sh, adr, cells, slots) pc ls (.int x :: .ref (900003 + i) :: st) σ := by
  obtain ⟨p, l, e, R, s, m, args, below, meth, c, Q, D, z, A⟩ := X
  obtain ⟨hx, hb, hml, hown, hts, hK, hA, hR, hlk⟩ := C
  obtain ⟨z1, z2, z3, z4, z5, z6, z7⟩ := hZ
  intro H locs la hP hD hS hl
  exact va_tb hx hb (z3.1 i hi).2.2.2 hS hin (by rw [hn]; rfl) hd (k H locs la hP hD hS hl)
theorem ww_ldcS0 {X : CT} {sh : Sh} {adr : Nat → Nat} {cells slots : Nat} {cc : ByteArray} {nL d pc : Nat} {ls st : List Value} {σ : Hp}  (C : CX X RX4 cc nL d) (hZ : SZX X adr) (hd : decode cc pc = .ok (.ldc 32, 2)) (k : WW X (sh, adr, cells, slots) (pc + 2) ls (.ref (900001 + 0) :: st) σ) : WW X (sh, adr, cells, slots) pc ls (st) σ := by
  obtain ⟨p, l, e, R, s, m, args, below, meth, c, Q, D, z, A⟩ := X
  obtain ⟨hx, hb, hml, hown, hts, hK, hA, hR, hlk⟩ := C
  obtain ⟨z1, z2, z3, z4, z5, z6, z7⟩ := hZ
  intro H locs la hP hD hS hl
  exact va_ldcS hx hb hown z4 hd (k H locs la hP hD hS hl)
theorem ww_ldcS1 {X : CT} {sh : Sh} {adr : Nat → Nat} {cells slots : Nat} {cc : ByteArray} {nL d pc : Nat} {ls st : List Value} {σ : Hp}  (C : CX X RX4 cc nL d) (hZ : SZX X adr) (hd : decode cc pc = .ok (.ldc 93, 2)) (k : WW X (sh, adr, cells, slots) (pc + 2) ls (.ref (900001 + 1) :: st) σ) : WW X (sh, adr, cells, slots) pc ls (st) σ := by
  obtain ⟨p, l, e, R, s, m, args, below, meth, c, Q, D, z, A⟩ := X
  obtain ⟨hx, hb, hml, hown, hts, hK, hA, hR, hlk⟩ := C
  obtain ⟨z1, z2, z3, z4, z5, z6, z7⟩ := hZ
  intro H locs la hP hD hS hl
  exact va_ldcS hx hb hown z5 hd (k H locs la hP hD hS hl)
theorem ww_callVS {X : CT} {sh : Sh} {adr : Nat → Nat} {cells slots : Nat} {own : String} {cc : ByteArray} {nL d pc : Nat} {ls st st0 : List Value} {σ : Hp} {idx i n : Nat} {y : MethodName} {cc' : ByteArray} {nL' d' : Nat} {ret : Option FieldType} {as : List Value} {post : Option Value → Hp → Prop} (C : CX X own cc nL d) (hZ : SZX X adr) (hd : decode cc pc = .ok (.invokevirtual idx, 3)) (hw : CW own idx y cc' nL' ret n) (hc : CC (lX X) y cc' nL' ret d' (.ref (900001 + i) :: as) sh adr σ post) (hi : i < 2) (hci : y.cls = "java/lang/String") (hr : d' + 1 ≤ d ∧ nL' + 19 ≤ 64) (hs : as.reverse ++ .ref (900001 + i) :: st = st0) (hn : as.length = n) (h8 : (st.map fun v => v.category).sum ≤ 8) (hcs : cells ≤ (rX X).cells ∧ slots ≤ (rX X).slots)
    (k : ∀ (v : Option Value) (τ : Hp), post v τ → WW X (sh, adr, cells, slots) (pc + 3) ls (v.toList ++ st) τ) : WW X (sh, adr, cells, slots) pc ls st0 σ := by
  obtain ⟨p, l, e, R, s, m, args, below, meth, c, Q, D, z, A⟩ := X
  obtain ⟨hx, hb, hml, hown, hts, hK, hA, hR, hlk⟩ := C
  obtain ⟨w1, w2, w3, w4, w5, w6, w7, w8⟩ := hw
  intro H locs la hP hD hS hl
  subst hs
  have hA1 : ∀ q, va_A (WS z sh adr σ) H.size q → A q := fun q h => by
    rcases h with ⟨k, e, h⟩ | h
    · exact hD.2 k _ h
    · exact hA q (Nat.le_trans hS.1 h)
  have hGV : GoodIn wT (wsV own idx y.cls y (Cond.code y cc' nL' ret :: wT)) := fun w hw => by
    unfold wsV at hw
    rcases List.mem_append.mp hw with h | h
    · simp only [List.mem_cons, List.not_mem_nil, or_false] at h
      rcases h with rfl | rfl | rfl | rfl
      · exact wT_good _ w1
      · exact wT_good _ w2
      · exact wT_good _ w3
      · exact wT_good _ w4
    · exact wT_code w5 w h
  refine ww_run (va_runV (As := as.map (tr adr)) (b := adr (900001 + i)) (C := y.cls) (rest := st.map (tr adr)) (n := n) (bytes := cc') (maxL := nL') (ret := ret) ⟨hx, hb, rfl, hown, hts⟩ (hc D z H.size) (cwV n hts hGV rfl rfl rfl ⟨rfl, w6, w7, w8⟩ ⟨by have := hr.1; have := hR.1; exact Nat.le_trans ‹d' + 1 ≤ d› this, ?_⟩) ⟨PC_blind, ?_, fun U hU hW => ⟨rfl, by rw [hU], by rw [hU]; exact hP, va_K.moved hW.alike hK, hD.weaken (fun _ _ _ _ => trivial), hZ.call hS hA1 hU hW⟩⟩ rfl (by rw [List.length_map]; exact hn) hl.1 (by simp [tr]) (lv_room (by rw [List.map_map]; simpa [Function.comp_def, tr_cat] using h8)) hd ⟨hcs.1, hcs.2⟩) hS hA1 (fun v τ H1 locs1 hp hP1 hD1 hS1 => ?_)
  · have h1 := hR.2
    have h2 := hr.1
    have h3 := hr.2
    show 8 + (nL' + 11) + d' * 64 ≤ R.locals
    have h4 : (d' + 1) * 64 ≤ d * 64 := Nat.mul_le_mul_right 64 h2
    omega
  · obtain ⟨z1, z2, z3, z4⟩ := hZ
    have hv := vk_recv z3 hi hS
    rw [hci]
    exact hv
  · have hk2 := k v τ hp H1 locs1 la hP1 (hD1.weaken (fun _ _ _ h => hA1 _ h)) hS1 hl
    cases v with
    | none => exact hk2
    | some w => exact hk2
theorem ww_nret {X : CT} {sh : Sh} {adr : Nat → Nat} {own : String} {cc : ByteArray} {nL d pc : Nat} {ls : List Value} {σ : Hp} {v : Int32} {ty : FieldType} {post : Option Value → Hp → Prop} (C : CX X own cc nL d) (E : RX X (some ty) sh adr post) (hd : decode cc pc = .ok (.ireturn, 1)) (hz : narrow ty (.int v) = .int v) (hp : post (some (.int v)) σ) : WW X (sh, adr, 0, 0) pc ls [.int v] σ := by
  obtain ⟨p, l, e, R, s, m, args, below, meth, c, Q, D, z, A⟩ := X
  obtain ⟨hx, hb, hml, hown, hts, hK, hA, hR, hlk⟩ := C
  obtain ⟨rfl, hr⟩ := E
  intro H locs la hP hD hS hl
  exact W.zret (v := v) hx hb hr hz (fun t ht hW => ⟨⟨some (.int v), σ, rfl, hp, by rw [ht]; exact hP, hD⟩, hS.F ht⟩) hS.2.2 hd hlk
def ur (r : Nat → Nat → Option Nat) (o k : Nat) (v : Option Nat) : Nat → Nat → Option Nat := fun a b => if a = o ∧ b = k then v else r a b
theorem ur_at (r : Nat → Nat → Option Nat) (o k : Nat) (v : Option Nat) : ur r o k v o k = v := if_pos ⟨rfl, rfl⟩
theorem ur_ne {r : Nat → Nat → Option Nat} {o k a b : Nat} {v : Option Nat} (h : ¬ (a = o ∧ b = k)) : ur r o k v a b = r a b := if_neg h
theorem ur_ur (r : Nat → Nat → Option Nat) (o k : Nat) (v w : Option Nat) : ur (ur r o k v) o k w = ur r o k w := by
  funext a b
  unfold ur
  by_cases h : a = o ∧ b = k
  · rw [if_pos h, if_pos h]
  · rw [if_neg h, if_neg h, if_neg h]
theorem ur_self {r : Nat → Nat → Option Nat} {o k : Nat} {v : Option Nat} (h : r o k = v) : ur r o k v = r := by
  funext a b
  unfold ur
  by_cases q : a = o ∧ b = k
  · rw [if_pos q, q.1, q.2, h]
  · rw [if_neg q]
theorem wk_putA {X : CT} {sh : Sh} {adr : Nat → Nat} {cells slots : Nat} {own : String} {cc : ByteArray} {nL d pc : Nat} {ls st : List Value} {h : HI} {r : Nat → Nat → Option Nat} {idx o ci kk : Nat} {nm : String} {v : Nat} (C : CX X own cc nL d) (hd : decode cc pc = .ok (.putfield idx, 3)) (hf : FLD own idx ci kk) (hk : kd sh o = ci) (ht : tyF ci kk = .object nm) (hn : (TF ci kk).2.2.2 = false) (k : WW X (sh, adr, cells, slots) (pc + 3) ls st (mk h (ur r o kk (some v)))) : WW X (sh, adr, cells, slots) pc ls (.ref v :: .ref o :: st) (mk h r) := ww_putA C hd hf hk ht hn k
/-- the first n of a row copied to another -/
def cpI (h : HI) (a b n : Nat) : HI := (fun x y => if x = b ∧ y < n then h.1 a y else h.1 x y, h.2)
def cpL (h : HI) (a b n : Nat) : HI := (h.1, fun x y => if x = b ∧ y < n then h.2 a y else h.2 x y)
theorem wk_copyI {X : CT} {sh : Sh} {adr : Nat → Nat} {cells slots : Nat} {cc : ByteArray} {nL d pc : Nat} {ls st : List Value} {h : HI} {r : Nat → Nat → Option Nat} {a b : Nat} {x : Int32} (C : CX X RX6 cc nL d) (hd : decode cc pc = .ok (.invokestatic 72, 3)) (h1 : 1 ≤ d) (hka : kd sh a = 11) (hkb : kd sh b = 11) (hx0 : ¬ x < 0) (n : Nat) (hn : x.toNatClampNeg = n) (hla : n ≤ ln sh a) (hlb : n ≤ ln sh b) (h8 : (st.map fun v => v.category).sum ≤ 8) (k : WW X (sh, adr, cells, slots) (pc + 3) ls st (mk (cpI h a b n) r)) : WW X (sh, adr, cells, slots) pc ls (.int x :: .int 0 :: .ref b :: .int 0 :: .ref a :: st) (mk h r) := by
  obtain ⟨p, l, e, R, s, m, args, below, meth, c, Q, D, z, A⟩ := X
  obtain ⟨hx, hb, hml, hown, hts, hK, hA, hR, hlk⟩ := C
  subst hn
  intro H locs la hP hD hS hl
  have hea : (WS z sh adr (mk h r))[a]? = some (adr a, .inl (z.2.1, ln sh a, .inl (gI (mk h r) a))) := by rw [WS_at (kd_lt hka (by omega)), cel_11 hka]
  have heb : (WS z sh adr (mk h r))[b]? = some (adr b, .inl (z.2.1, ln sh b, .inl (gI (mk h r) b))) := by rw [WS_at (kd_lt hkb (by omega)), cel_11 hkb]
  refine va_copyi hx hb hl.1.symm hown (hts _ ow_al) (hts _ ow_an) (hts _ ow_as) (hts _ ow_ai) hK hP hD hS a b 1 1 hea heb rfl rfl rfl (sp := 0) (dp := 0) (n := x) (by decide) (by decide) hx0 (by show 0 + _ ≤ _; omega) (by show 0 + _ ≤ _; omega) (fun i _ => rfl) (Nat.le_trans h1 hR.1) ?_ hd (fun H1 locs1 hP1 hD1 hS1 => ?_)
  · have h2 := hR.2
    have h3 : ((st.map (tr adr)).map fun v => v.category).sum ≤ 8 := by rw [List.map_map]; simpa [Function.comp_def, tr_cat] using h8
    have h4 : nativeFrameWords "java/lang/System" "arraycopy" 5 ≤ 40 := by decide
    omega
  · rw [WS_set (τ := mk (cpI h a b x.toNatClampNeg) r) (by
      rw [cel_11 hkb]
      have hq : gI (mk (cpI h a b x.toNatClampNeg) r) b = va_cpy (gI (mk h r) a) (gI (mk h r) b) (0 : Int32).toNatClampNeg (0 : Int32).toNatClampNeg x.toNatClampNeg := by
        funext j
        show (if b = b ∧ j < x.toNatClampNeg then _ else _) = (if 0 ≤ j ∧ j < 0 + x.toNatClampNeg then _ else _)
        by_cases hj : j < x.toNatClampNeg
        · rw [if_pos ⟨rfl, hj⟩, if_pos ⟨Nat.zero_le j, by omega⟩]
          show _ = gI (mk h r) a (0 + (j - 0))
          rw [Nat.sub_zero, Nat.zero_add]
          rfl
        · rw [if_neg (fun q => hj q.2), if_neg (fun q => hj (by omega))]
          rfl
      rw [hq]) (fun q hq => by
      unfold cel
      have e1 : gI (mk (cpI h a b x.toNatClampNeg) r) q = gI (mk h r) q := by
        funext j
        show (if q = b ∧ _ then _ else _) = _
        rw [if_neg (fun w => hq w.1)]
        rfl
      have e2 : flds (sh.getD q (99, 0)).1 adr (mk (cpI h a b x.toNatClampNeg) r) q = flds (sh.getD q (99, 0)).1 adr (mk h r) q := by
        unfold flds
        apply List.map_congr_left
        intro j _
        have e3 := congrFun e1 j
        unfold fv
        split <;> first | rw [e3] | rfl
      rw [e1, e2]
      rfl)] at hP1 hD1
    exact k H1 locs1 la hP1 hD1 hS1 hl
theorem wk_copyL {X : CT} {sh : Sh} {adr : Nat → Nat} {cells slots : Nat} {cc : ByteArray} {nL d pc : Nat} {ls st : List Value} {h : HI} {r : Nat → Nat → Option Nat} {a b : Nat} {x : Int32} (C : CX X RX6 cc nL d) (hd : decode cc pc = .ok (.invokestatic 72, 3)) (h1 : 1 ≤ d) (hka : kd sh a = 12) (hkb : kd sh b = 12) (hx0 : ¬ x < 0) (n : Nat) (hn : x.toNatClampNeg = n) (hla : n ≤ ln sh a) (hlb : n ≤ ln sh b) (h8 : (st.map fun v => v.category).sum ≤ 8) (k : WW X (sh, adr, cells, slots) (pc + 3) ls st (mk (cpL h a b n) r)) : WW X (sh, adr, cells, slots) pc ls (.int x :: .int 0 :: .ref b :: .int 0 :: .ref a :: st) (mk h r) := by
  obtain ⟨p, l, e, R, s, m, args, below, meth, c, Q, D, z, A⟩ := X
  obtain ⟨hx, hb, hml, hown, hts, hK, hA, hR, hlk⟩ := C
  subst hn
  intro H locs la hP hD hS hl
  have hea : (WS z sh adr (mk h r))[a]? = some (adr a, .inl (z.2.2.1, ln sh a, .inr (.inl (gL (mk h r) a)))) := by rw [WS_at (kd_lt hka (by omega)), cel_12 hka]
  have heb : (WS z sh adr (mk h r))[b]? = some (adr b, .inl (z.2.2.1, ln sh b, .inr (.inl (gL (mk h r) b)))) := by rw [WS_at (kd_lt hkb (by omega)), cel_12 hkb]
  refine va_copyl hx hb hl.1.symm hown (hts _ ow_al) (hts _ ow_an) (hts _ ow_as) (hts _ ow_ai) hK hP hD hS a b 2 2 hea heb rfl rfl rfl (sp := 0) (dp := 0) (n := x) (by decide) (by decide) hx0 (by show 0 + _ ≤ _; omega) (by show 0 + _ ≤ _; omega) (fun i _ => rfl) (Nat.le_trans h1 hR.1) ?_ hd (fun H1 locs1 hP1 hD1 hS1 => ?_)
  · have h2 := hR.2
    have h3 : ((st.map (tr adr)).map fun v => v.category).sum ≤ 8 := by rw [List.map_map]; simpa [Function.comp_def, tr_cat] using h8
    have h4 : nativeFrameWords "java/lang/System" "arraycopy" 5 ≤ 40 := by decide
    omega
  · rw [WS_set (τ := mk (cpL h a b x.toNatClampNeg) r) (by
      rw [cel_12 hkb]
      have hq : gL (mk (cpL h a b x.toNatClampNeg) r) b = va_cpy (gL (mk h r) a) (gL (mk h r) b) (0 : Int32).toNatClampNeg (0 : Int32).toNatClampNeg x.toNatClampNeg := by
        funext j
        show (if b = b ∧ j < x.toNatClampNeg then _ else _) = (if 0 ≤ j ∧ j < 0 + x.toNatClampNeg then _ else _)
        by_cases hj : j < x.toNatClampNeg
        · rw [if_pos ⟨rfl, hj⟩, if_pos ⟨Nat.zero_le j, by omega⟩]
          show _ = gL (mk h r) a (0 + (j - 0))
          rw [Nat.sub_zero, Nat.zero_add]
          rfl
        · rw [if_neg (fun q => hj q.2), if_neg (fun q => hj (by omega))]
          rfl
      rw [hq]) (fun q hq => by
      unfold cel
      have e1 : gL (mk (cpL h a b x.toNatClampNeg) r) q = gL (mk h r) q := by
        funext j
        show (if q = b ∧ _ then _ else _) = _
        rw [if_neg (fun w => hq w.1)]
        rfl
      have e2 : flds (sh.getD q (99, 0)).1 adr (mk (cpL h a b x.toNatClampNeg) r) q = flds (sh.getD q (99, 0)).1 adr (mk h r) q := by
        unfold flds
        apply List.map_congr_left
        intro j _
        have e3 := congrFun e1 j
        unfold fv
        split <;> first | rw [e3] | rfl
      rw [e1, e2]
      rfl)] at hP1 hD1
    exact k H1 locs1 la hP1 hD1 hS1 hl
