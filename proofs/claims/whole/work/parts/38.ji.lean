def fX6_begin_63 (o : Nat) (a1 : Nat) (k : HI → Option (HI)) (kb : HI → Int32 → Option (HI)) (h : HI) (v2 : Int32) (s0 : Int32) (s1 : Int32) : Option (HI) := (if inB s1 6 then kb (uI h (o + 1) (s1.toNatClampNeg) s0) (v2 + (1 : Int32)) else none)
set_option maxRecDepth 100000 in
set_option maxHeartbeats 4000000 in
theorem cX6_begin_63 {X : CT} {sh : Sh} {adr : Nat → Nat} {r : Nat → Nat → Option Nat} {o : Nat} {a1 : Nat} {p : HI} (hS : SS sh r a1 o) (hA1 : HS sh r a1) (C : CX X yX6_begin.cls cX6_begin 3 1) (hZ : SZX X adr) (E : RX X none sh adr (fun v τ => v = none ∧ τ = mk p r)) {k : HI → Option (HI)} {kb : HI → Int32 → Option (HI)} (hk : ∀ (h : HI), k h = some p → WW X (sh, adr, 0, 0) 70 [.ref o, .ref a1, .retAddr 0] [] (mk h r)) (hb : ∀ (h : HI) (v2 : Int32), kb h v2 = some p → WW X (sh, adr, 0, 0) 32 [.ref o, .ref a1, .int v2] [] (mk h r)) {h : HI} {v2 : Int32} {s0 : Int32} {s1 : Int32} (H : fX6_begin_63 o a1 k kb h v2 s0 s1 = some p) : WW X (sh, adr, 0, 0) 63 [.ref o, .ref a1, .int v2] [.int s0, .int s1, .ref (o + 1)] (mk h r) := by
  rw [fX6_begin_63] at H
  obtain ⟨hg, H⟩ := gd_of H
  refine wk_iastore C dX6_begin_63 (tX6_where hS).2.1 (vp_of hg (tX6_where hS).2.2) (s1.toNatClampNeg) rfl ?_
  refine ww_iinc (v := (v2 + (1 : Int32))) C dX6_begin_64 rfl rfl (by decide) rfl [.ref o, .ref a1, .int (v2 + (1 : Int32))] rfl ?_
  refine ww_goto C dX6_begin_67 32 rfl ?_
  exact hb (uI h (o + 1) (s1.toNatClampNeg) s0) (v2 + (1 : Int32)) H
def fX6_begin_32 (o : Nat) (a1 : Nat) (k : HI → Option (HI)) : Nat → HI → Int32 → Option (HI)
  | 0, _, _ => none
  | n + 1, h, v2 => (if (6 : Int32) ≤ v2 then k h else (if (((h.1 a1 6) >>> (v2 &&& 31)) &&& (1 : Int32)) = 0 then fX6_begin_63 o a1 (k) (fX6_begin_32 o a1 k n) h v2 (-1 : Int32) v2 else fX6_begin_63 o a1 (k) (fX6_begin_32 o a1 k n) h v2 (-2 : Int32) v2))
set_option maxRecDepth 100000 in
set_option maxHeartbeats 4000000 in
theorem cX6_begin_32 {X : CT} {sh : Sh} {adr : Nat → Nat} {r : Nat → Nat → Option Nat} {o : Nat} {a1 : Nat} {p : HI} (hS : SS sh r a1 o) (hA1 : HS sh r a1) (C : CX X yX6_begin.cls cX6_begin 3 1) (hZ : SZX X adr) (E : RX X none sh adr (fun v τ => v = none ∧ τ = mk p r)) {k : HI → Option (HI)} (hk : ∀ (h : HI), k h = some p → WW X (sh, adr, 0, 0) 70 [.ref o, .ref a1, .retAddr 0] [] (mk h r)) : ∀ (n : Nat) (h : HI) (v2 : Int32), fX6_begin_32 o a1 k n h v2 = some p → WW X (sh, adr, 0, 0) 32 [.ref o, .ref a1, .int v2] [] (mk h r) := by
  intro n
  induction n with
  | zero =>
    intro h v2 H
    rw [fX6_begin_32] at H
    cases H
  | succ n ih =>
    intro h v2 H
    rw [fX6_begin_32] at H
    refine ww_iload_n C dX6_begin_32 2 rfl rfl ?_
    refine ww_bipush (v := (6 : Int32)) C dX6_begin_33 (by decide) ?_
    refine ww_icmp_ge C dX6_begin_35 70 rfl (fun hc => ?_) (fun hc => ?_)
    · rw [if_pos hc] at H
      exact ww_drop [.ref o, .ref a1, .retAddr 0] (sl_e (sl_e (sl_d sl_n))) (hk h H)
    · rw [if_neg hc] at H
      refine ww_aload_n C dX6_begin_38 0 rfl rfl ?_
      refine wk_getR C dX6_begin_39 fl_X6_9 hS.1 rfl (tX6_where hS).1 ?_
      refine ww_iload_n C dX6_begin_42 2 rfl rfl ?_
      refine ww_aload_n C dX6_begin_43 0 rfl rfl ?_
      refine wk_getA C dX6_begin_44 fl_X6_41 hS.1 rfl (tX6_hall hS).1 ?_
      refine wk_getI C dX6_begin_47 fl_X6_61 (tX6_hall hS).2.1 rfl ?_
      refine ww_iload_n C dX6_begin_50 2 rfl rfl ?_
      refine ww_ishr C dX6_begin_51 ?_
      refine ww_iconst (v := (1 : Int32)) C dX6_begin_52 (by decide) ?_
      refine ww_iand C dX6_begin_53 ?_
      refine ww_if_eq C dX6_begin_54 62 rfl (fun hc => ?_) (fun hc => ?_)
      · rw [if_pos hc] at H
        refine ww_iconst (v := (-1 : Int32)) C dX6_begin_62 (by decide) ?_
        exact cX6_begin_63 hS hA1 C hZ E hk ih H
      · rw [if_neg hc] at H
        refine ww_bipush (v := (-2 : Int32)) C dX6_begin_57 (by decide) ?_
        refine ww_goto C dX6_begin_59 63 rfl ?_
        exact cX6_begin_63 hS hA1 C hZ E hk ih H
def fX6_begin (o : Nat) (a1 : Nat) (h : HI) : Option (HI) := fX6_begin_32 o a1 (fun h2 => ((fJ7_fill_53178 (o + 2) 6 h2 (0 : Int32)).bind fun h3 => ((fJ7_fill_53178 (o + 3) 6 h3 (0 : Int32)).bind fun h4 => ((fJ7_fill_53178 (o + 4) 6 h4 (0 : Int32)).bind fun h5 => ((fJ7_fill_53178 (o + 5) 4 h5 (0 : Int32)).bind fun h6 => ((fJ7_fill_53178 (o + 6) 4 h6 (0 : Int32)).bind fun h7 => some h7)))))) FU (uI (uI (uI (uI (uI h o 1 (0 : Int32)) o 2 (0 : Int32)) o 3 (0 : Int32)) o 4 (0 : Int32)) o 5 (0 : Int32)) (0 : Int32)
set_option maxRecDepth 100000 in
set_option maxHeartbeats 4000000 in
theorem ccX6_begin {l : Launch} {sh : Sh} {adr : Nat → Nat} {r : Nat → Nat → Option Nat} {o : Nat} {hh : Nat} {a1 : Nat} (hS : SS sh r hh o) (hA1 : HS sh r a1) {h : HI}  {p : HI} (H : fX6_begin o a1 h = some p) : CC l yX6_begin cX6_begin 3 none 1 [.ref o, .ref a1] sh adr (mk h r) (fun v τ => v = none ∧ τ = mk p (ur r o 0 (some a1))) := by
  refine CC.of (by decide) (Nat.le_of_ble_eq_true rfl) 1 [.ref o, .ref a1, .retAddr 0] rfl (fun X _ C E hZ => ?_)
  rw [fX6_begin] at H
  refine ww_aload_n C dX6_begin_0 0 rfl rfl ?_
  refine ww_aload_n C dX6_begin_1 1 rfl rfl ?_
  refine wk_putA C dX6_begin_2 fl_X6_41 hS.1 rfl rfl ?_
  have hS9 := SS.put hS hA1
  have hA1 := HS.keep (o := o) (k := 0) (v := some a1) (by rw [hS.1]; decide) hA1
  have hS := hS9
  refine ww_aload_n C dX6_begin_5 0 rfl rfl ?_
  refine ww_iconst (v := (0 : Int32)) C dX6_begin_6 (by decide) ?_
  refine wk_putI C dX6_begin_7 fl_X6_45 hS.1 rfl rfl ?_
  refine ww_aload_n C dX6_begin_10 0 rfl rfl ?_
  refine ww_iconst (v := (0 : Int32)) C dX6_begin_11 (by decide) ?_
  refine wk_putI C dX6_begin_12 fl_X6_49 hS.1 rfl rfl ?_
  refine ww_aload_n C dX6_begin_15 0 rfl rfl ?_
  refine ww_iconst (v := (0 : Int32)) C dX6_begin_16 (by decide) ?_
  refine wk_putI C dX6_begin_17 fl_X6_52 hS.1 rfl rfl ?_
  refine ww_aload_n C dX6_begin_20 0 rfl rfl ?_
  refine ww_iconst (v := (0 : Int32)) C dX6_begin_21 (by decide) ?_
  refine wk_putI C dX6_begin_22 fl_X6_55 hS.1 rfl rfl ?_
  refine ww_aload_n C dX6_begin_25 0 rfl rfl ?_
  refine ww_iconst (v := (0 : Int32)) C dX6_begin_26 (by decide) ?_
  refine wk_putI C dX6_begin_27 fl_X6_58 hS.1 rfl rfl ?_
  refine ww_iconst (v := (0 : Int32)) C dX6_begin_30 (by decide) ?_
  refine ww_istore_n C dX6_begin_31 2 rfl (by decide) rfl [.ref o, .ref a1, .int (0 : Int32)] rfl ?_
  refine cX6_begin_32 hS hA1 C hZ E (fun h2 H => ?_) FU (uI (uI (uI (uI (uI h o 1 (0 : Int32)) o 2 (0 : Int32)) o 3 (0 : Int32)) o 4 (0 : Int32)) o 5 (0 : Int32)) (0 : Int32) H
  refine ww_aload_n C dX6_begin_70 0 rfl rfl ?_
  refine wk_getR C dX6_begin_71 fl_X6_15 hS.1 rfl (tX6_tired hS).1 ?_
  refine ww_iconst (v := (0 : Int32)) C dX6_begin_74 (by decide) ?_
  obtain ⟨h3, hc1, H⟩ := bd_of H
  refine ww_callS C hZ dX6_begin_75 sw_X6_66 (ccJ7_fill_53178 ⟨(tX6_tired hS).2.1, (tX6_tired hS).2.2⟩ hc1) (by decide) rfl rfl (Nat.le_of_ble_eq_true rfl) ⟨Nat.zero_le _, Nat.zero_le _⟩ (fun v τ hp => ?_)
  obtain ⟨rfl, rfl⟩ := hp
  change WW X _ 78 [.ref o, .ref a1, .retAddr 0] [] _
  refine ww_aload_n C dX6_begin_78 0 rfl rfl ?_
  refine wk_getR C dX6_begin_79 fl_X6_18 hS.1 rfl (tX6_satFor hS).1 ?_
  refine ww_iconst (v := (0 : Int32)) C dX6_begin_82 (by decide) ?_
  obtain ⟨h4, hc1, H⟩ := bd_of H
  refine ww_callS C hZ dX6_begin_83 sw_X6_66 (ccJ7_fill_53178 ⟨(tX6_satFor hS).2.1, (tX6_satFor hS).2.2⟩ hc1) (by decide) rfl rfl (Nat.le_of_ble_eq_true rfl) ⟨Nat.zero_le _, Nat.zero_le _⟩ (fun v τ hp => ?_)
  obtain ⟨rfl, rfl⟩ := hp
  change WW X _ 86 [.ref o, .ref a1, .retAddr 0] [] _
  refine ww_aload_n C dX6_begin_86 0 rfl rfl ?_
  refine wk_getR C dX6_begin_87 fl_X6_21 hS.1 rfl (tX6_spoken hS).1 ?_
  refine ww_iconst (v := (0 : Int32)) C dX6_begin_90 (by decide) ?_
  obtain ⟨h5, hc1, H⟩ := bd_of H
  refine ww_callS C hZ dX6_begin_91 sw_X6_66 (ccJ7_fill_53178 ⟨(tX6_spoken hS).2.1, (tX6_spoken hS).2.2⟩ hc1) (by decide) rfl rfl (Nat.le_of_ble_eq_true rfl) ⟨Nat.zero_le _, Nat.zero_le _⟩ (fun v τ hp => ?_)
  obtain ⟨rfl, rfl⟩ := hp
  change WW X _ 94 [.ref o, .ref a1, .retAddr 0] [] _
  refine ww_aload_n C dX6_begin_94 0 rfl rfl ?_
  refine wk_getR C dX6_begin_95 fl_X6_24 hS.1 rfl (tX6_status hS).1 ?_
  refine ww_iconst (v := (0 : Int32)) C dX6_begin_98 (by decide) ?_
  obtain ⟨h6, hc1, H⟩ := bd_of H
  refine ww_callS C hZ dX6_begin_99 sw_X6_66 (ccJ7_fill_53178 ⟨(tX6_status hS).2.1, (tX6_status hS).2.2⟩ hc1) (by decide) rfl rfl (Nat.le_of_ble_eq_true rfl) ⟨Nat.zero_le _, Nat.zero_le _⟩ (fun v τ hp => ?_)
  obtain ⟨rfl, rfl⟩ := hp
  change WW X _ 102 [.ref o, .ref a1, .retAddr 0] [] _
  refine ww_aload_n C dX6_begin_102 0 rfl rfl ?_
  refine wk_getR C dX6_begin_103 fl_X6_27 hS.1 rfl (tX6_dealEnd hS).1 ?_
  refine ww_iconst (v := (0 : Int32)) C dX6_begin_106 (by decide) ?_
  obtain ⟨h7, hc1, H⟩ := bd_of H
  refine ww_callS C hZ dX6_begin_107 sw_X6_66 (ccJ7_fill_53178 ⟨(tX6_dealEnd hS).2.1, (tX6_dealEnd hS).2.2⟩ hc1) (by decide) rfl rfl (Nat.le_of_ble_eq_true rfl) ⟨Nat.zero_le _, Nat.zero_le _⟩ (fun v τ hp => ?_)
  obtain ⟨rfl, rfl⟩ := hp
  change WW X _ 110 [.ref o, .ref a1, .retAddr 0] [] _
  cases H
  exact ww_vret C E dX6_begin_110 ⟨rfl, rfl⟩
def fX6_copy (o : Nat) (a1 : Nat) (a1hh : Nat) (h : HI) : Option (HI) := some (cpL (cpI (cpI (cpI (cpI (cpI (cpI (cpI (uI (uI (uI (uI (uI h o 1 (h.1 a1 1)) o 2 ((uI h o 1 (h.1 a1 1)).1 a1 2)) o 3 ((uI (uI h o 1 (h.1 a1 1)) o 2 ((uI h o 1 (h.1 a1 1)).1 a1 2)).1 a1 3)) o 4 ((uI (uI (uI h o 1 (h.1 a1 1)) o 2 ((uI h o 1 (h.1 a1 1)).1 a1 2)) o 3 ((uI (uI h o 1 (h.1 a1 1)) o 2 ((uI h o 1 (h.1 a1 1)).1 a1 2)).1 a1 3)).1 a1 4)) o 5 ((uI (uI (uI (uI h o 1 (h.1 a1 1)) o 2 ((uI h o 1 (h.1 a1 1)).1 a1 2)) o 3 ((uI (uI h o 1 (h.1 a1 1)) o 2 ((uI h o 1 (h.1 a1 1)).1 a1 2)).1 a1 3)) o 4 ((uI (uI (uI h o 1 (h.1 a1 1)) o 2 ((uI h o 1 (h.1 a1 1)).1 a1 2)) o 3 ((uI (uI h o 1 (h.1 a1 1)) o 2 ((uI h o 1 (h.1 a1 1)).1 a1 2)).1 a1 3)).1 a1 4)).1 a1 5)) (a1 + 1) (o + 1) 6) (a1 + 2) (o + 2) 6) (a1 + 3) (o + 3) 6) (a1 + 4) (o + 4) 6) (a1 + 5) (o + 5) 4) (a1 + 6) (o + 6) 4) (a1 + 7) (o + 7) 24) (a1 + 8) (o + 8) 200)
set_option maxRecDepth 100000 in
set_option maxHeartbeats 4000000 in
theorem ccX6_copy {l : Launch} {sh : Sh} {adr : Nat → Nat} {r : Nat → Nat → Option Nat} {o : Nat} {hh : Nat} {a1 : Nat} {a1hh : Nat} (hS : SS sh r hh o) (hA1 : SS sh r a1hh a1) (hne : a1 ≠ o) {h : HI}  {p : HI} (H : fX6_copy o a1 a1hh h = some p) : CC l yX6_copy cX6_copy 2 none 1 [.ref o, .ref a1] sh adr (mk h r) (fun v τ => v = none ∧ τ = mk p (ur r o 0 (some a1hh))) := by
  refine CC.of (by decide) (Nat.le_of_ble_eq_true rfl) 0 [.ref o, .ref a1] rfl (fun X _ C E hZ => ?_)
  rw [fX6_copy] at H
  refine ww_aload_n C dX6_copy_0 0 rfl rfl ?_
  refine ww_aload_n C dX6_copy_1 1 rfl rfl ?_
  refine wk_getA C dX6_copy_2 fl_X6_41 hA1.1 rfl (tX6_hall hA1).1 ?_
  refine wk_putA C dX6_copy_5 fl_X6_41 hS.1 rfl rfl ?_
  have hS9 := SS.put hS (tX6_hall hA1).2
  have hA1 := SS.keep (o := o) (k := 0) (v := some a1hh) hne (by rw [hS.1]; decide) hA1
  have hS := hS9
  refine ww_aload_n C dX6_copy_8 0 rfl rfl ?_
  refine ww_aload_n C dX6_copy_9 1 rfl rfl ?_
  refine wk_getI C dX6_copy_10 fl_X6_45 hA1.1 rfl ?_
  refine wk_putI C dX6_copy_13 fl_X6_45 hS.1 rfl rfl ?_
  refine ww_aload_n C dX6_copy_16 0 rfl rfl ?_
  refine ww_aload_n C dX6_copy_17 1 rfl rfl ?_
  refine wk_getI C dX6_copy_18 fl_X6_49 hA1.1 rfl ?_
  refine wk_putI C dX6_copy_21 fl_X6_49 hS.1 rfl rfl ?_
  refine ww_aload_n C dX6_copy_24 0 rfl rfl ?_
  refine ww_aload_n C dX6_copy_25 1 rfl rfl ?_
  refine wk_getI C dX6_copy_26 fl_X6_52 hA1.1 rfl ?_
  refine wk_putI C dX6_copy_29 fl_X6_52 hS.1 rfl rfl ?_
  refine ww_aload_n C dX6_copy_32 0 rfl rfl ?_
  refine ww_aload_n C dX6_copy_33 1 rfl rfl ?_
  refine wk_getI C dX6_copy_34 fl_X6_55 hA1.1 rfl ?_
  refine wk_putI C dX6_copy_37 fl_X6_55 hS.1 rfl rfl ?_
  refine ww_aload_n C dX6_copy_40 0 rfl rfl ?_
  refine ww_aload_n C dX6_copy_41 1 rfl rfl ?_
  refine wk_getI C dX6_copy_42 fl_X6_58 hA1.1 rfl ?_
  refine wk_putI C dX6_copy_45 fl_X6_58 hS.1 rfl rfl ?_
  refine ww_aload_n C dX6_copy_48 1 rfl rfl ?_
  refine wk_getR C dX6_copy_49 fl_X6_9 hA1.1 rfl (tX6_where hA1).1 ?_
  refine ww_iconst (v := (0 : Int32)) C dX6_copy_52 (by decide) ?_
  refine ww_aload_n C dX6_copy_53 0 rfl rfl ?_
  refine wk_getR C dX6_copy_54 fl_X6_9 hS.1 rfl (tX6_where hS).1 ?_
  refine ww_iconst (v := (0 : Int32)) C dX6_copy_57 (by decide) ?_
  refine ww_bipush (v := (6 : Int32)) C dX6_copy_58 (by decide) ?_
  refine wk_copyI C dX6_copy_60 (by decide) (tX6_where hA1).2.1 (tX6_where hS).2.1 (by decide) 6 rfl (by rw [(tX6_where hA1).2.2]; decide) (by rw [(tX6_where hS).2.2]; decide) (Nat.le_of_ble_eq_true rfl) ?_
  refine ww_aload_n C dX6_copy_63 1 rfl rfl ?_
  refine wk_getR C dX6_copy_64 fl_X6_15 hA1.1 rfl (tX6_tired hA1).1 ?_
  refine ww_iconst (v := (0 : Int32)) C dX6_copy_67 (by decide) ?_
  refine ww_aload_n C dX6_copy_68 0 rfl rfl ?_
  refine wk_getR C dX6_copy_69 fl_X6_15 hS.1 rfl (tX6_tired hS).1 ?_
  refine ww_iconst (v := (0 : Int32)) C dX6_copy_72 (by decide) ?_
  refine ww_bipush (v := (6 : Int32)) C dX6_copy_73 (by decide) ?_
  refine wk_copyI C dX6_copy_75 (by decide) (tX6_tired hA1).2.1 (tX6_tired hS).2.1 (by decide) 6 rfl (by rw [(tX6_tired hA1).2.2]; decide) (by rw [(tX6_tired hS).2.2]; decide) (Nat.le_of_ble_eq_true rfl) ?_
  refine ww_aload_n C dX6_copy_78 1 rfl rfl ?_
  refine wk_getR C dX6_copy_79 fl_X6_18 hA1.1 rfl (tX6_satFor hA1).1 ?_
  refine ww_iconst (v := (0 : Int32)) C dX6_copy_82 (by decide) ?_
  refine ww_aload_n C dX6_copy_83 0 rfl rfl ?_
  refine wk_getR C dX6_copy_84 fl_X6_18 hS.1 rfl (tX6_satFor hS).1 ?_
  refine ww_iconst (v := (0 : Int32)) C dX6_copy_87 (by decide) ?_
  refine ww_bipush (v := (6 : Int32)) C dX6_copy_88 (by decide) ?_
  refine wk_copyI C dX6_copy_90 (by decide) (tX6_satFor hA1).2.1 (tX6_satFor hS).2.1 (by decide) 6 rfl (by rw [(tX6_satFor hA1).2.2]; decide) (by rw [(tX6_satFor hS).2.2]; decide) (Nat.le_of_ble_eq_true rfl) ?_
  refine ww_aload_n C dX6_copy_93 1 rfl rfl ?_
  refine wk_getR C dX6_copy_94 fl_X6_21 hA1.1 rfl (tX6_spoken hA1).1 ?_
  refine ww_iconst (v := (0 : Int32)) C dX6_copy_97 (by decide) ?_
  refine ww_aload_n C dX6_copy_98 0 rfl rfl ?_
  refine wk_getR C dX6_copy_99 fl_X6_21 hS.1 rfl (tX6_spoken hS).1 ?_
  refine ww_iconst (v := (0 : Int32)) C dX6_copy_102 (by decide) ?_
  refine ww_bipush (v := (6 : Int32)) C dX6_copy_103 (by decide) ?_
  refine wk_copyI C dX6_copy_105 (by decide) (tX6_spoken hA1).2.1 (tX6_spoken hS).2.1 (by decide) 6 rfl (by rw [(tX6_spoken hA1).2.2]; decide) (by rw [(tX6_spoken hS).2.2]; decide) (Nat.le_of_ble_eq_true rfl) ?_
  refine ww_aload_n C dX6_copy_108 1 rfl rfl ?_
  refine wk_getR C dX6_copy_109 fl_X6_24 hA1.1 rfl (tX6_status hA1).1 ?_
  refine ww_iconst (v := (0 : Int32)) C dX6_copy_112 (by decide) ?_
  refine ww_aload_n C dX6_copy_113 0 rfl rfl ?_
  refine wk_getR C dX6_copy_114 fl_X6_24 hS.1 rfl (tX6_status hS).1 ?_
  refine ww_iconst (v := (0 : Int32)) C dX6_copy_117 (by decide) ?_
  refine ww_iconst (v := (4 : Int32)) C dX6_copy_118 (by decide) ?_
  refine wk_copyI C dX6_copy_119 (by decide) (tX6_status hA1).2.1 (tX6_status hS).2.1 (by decide) 4 rfl (by rw [(tX6_status hA1).2.2]; decide) (by rw [(tX6_status hS).2.2]; decide) (Nat.le_of_ble_eq_true rfl) ?_
  refine ww_aload_n C dX6_copy_122 1 rfl rfl ?_
  refine wk_getR C dX6_copy_123 fl_X6_27 hA1.1 rfl (tX6_dealEnd hA1).1 ?_
  refine ww_iconst (v := (0 : Int32)) C dX6_copy_126 (by decide) ?_
  refine ww_aload_n C dX6_copy_127 0 rfl rfl ?_
  refine wk_getR C dX6_copy_128 fl_X6_27 hS.1 rfl (tX6_dealEnd hS).1 ?_
  refine ww_iconst (v := (0 : Int32)) C dX6_copy_131 (by decide) ?_
  refine ww_iconst (v := (4 : Int32)) C dX6_copy_132 (by decide) ?_
  refine wk_copyI C dX6_copy_133 (by decide) (tX6_dealEnd hA1).2.1 (tX6_dealEnd hS).2.1 (by decide) 4 rfl (by rw [(tX6_dealEnd hA1).2.2]; decide) (by rw [(tX6_dealEnd hS).2.2]; decide) (Nat.le_of_ble_eq_true rfl) ?_
  refine ww_aload_n C dX6_copy_136 1 rfl rfl ?_
  refine wk_getR C dX6_copy_137 fl_X6_30 hA1.1 rfl (tX6_voteFacts hA1).1 ?_
  refine ww_iconst (v := (0 : Int32)) C dX6_copy_140 (by decide) ?_
  refine ww_aload_n C dX6_copy_141 0 rfl rfl ?_
  refine wk_getR C dX6_copy_142 fl_X6_30 hS.1 rfl (tX6_voteFacts hS).1 ?_
  refine ww_iconst (v := (0 : Int32)) C dX6_copy_145 (by decide) ?_
  refine ww_bipush (v := (24 : Int32)) C dX6_copy_146 (by decide) ?_
  refine wk_copyI C dX6_copy_148 (by decide) (tX6_voteFacts hA1).2.1 (tX6_voteFacts hS).2.1 (by decide) 24 rfl (by rw [(tX6_voteFacts hA1).2.2]; decide) (by rw [(tX6_voteFacts hS).2.2]; decide) (Nat.le_of_ble_eq_true rfl) ?_
  refine ww_aload_n C dX6_copy_151 1 rfl rfl ?_
  refine wk_getR C dX6_copy_152 fl_X6_33 hA1.1 rfl (tX6_seatRows hA1).1 ?_
  refine ww_iconst (v := (0 : Int32)) C dX6_copy_155 (by decide) ?_
  refine ww_aload_n C dX6_copy_156 0 rfl rfl ?_
  refine wk_getR C dX6_copy_157 fl_X6_33 hS.1 rfl (tX6_seatRows hS).1 ?_
  refine ww_iconst (v := (0 : Int32)) C dX6_copy_160 (by decide) ?_
  refine ww_sipush (v := (200 : Int32)) C dX6_copy_161 (by decide) ?_
  refine wk_copyL C dX6_copy_164 (by decide) (tX6_seatRows hA1).2.1 (tX6_seatRows hS).2.1 (by decide) 200 rfl (by rw [(tX6_seatRows hA1).2.2]; decide) (by rw [(tX6_seatRows hS).2.2]; decide) (Nat.le_of_ble_eq_true rfl) ?_
  cases H
  exact ww_vret C E dX6_copy_167 ⟨rfl, rfl⟩
def fX3_search_78 (o : Nat) (a1 : Nat) (a1hh : Nat) (k : HI → Int32 → Int32 → Int32 → Int32 → Option (Int32 × HI)) : Nat → HI → Int32 → Int32 → Int32 → Int32 → Int32 → Option (Int32 × HI)
  | 0, _, _, _, _, _, _ => none
  | n + 1, h, v3, v5, v6, v7, v8 => (if v7 ≤ v8 then k h v3 v5 v6 v7 else (if (4096 : Int32) ≤ v8 then k h v3 v5 v6 v7 else (if inB v8 4096 then fX3_search_78 o a1 a1hh k n (uL h (o + 1) (v8.toNatClampNeg) (0 : Int64)) v3 v5 v6 v7 (v8 + (1 : Int32)) else none)))
set_option maxRecDepth 100000 in
set_option maxHeartbeats 4000000 in
theorem cX3_search_78 {X : CT} {sh : Sh} {adr : Nat → Nat} {r : Nat → Nat → Option Nat} {o : Nat} {a1 : Nat} {a1hh : Nat} {p : Int32 × HI} (hS : PS sh r a1hh o) (hA1 : SS sh r a1hh a1) (C : CX X yX3_search.cls cX3_search 10 4) (hZ : SZX X adr) (E : RX X (some .int) sh adr (fun v τ => v = some (.int p.1) ∧ τ = mk p.2 r)) {k : HI → Int32 → Int32 → Int32 → Int32 → Option (Int32 × HI)} (hk : ∀ (h : HI) (v3 : Int32) (v5 : Int32) (v6 : Int32) (v7 : Int32), k h v3 v5 v6 v7 = some p → WW X (sh, adr, 0, 0) 107 [.ref o, .ref a1, .retAddr 0, .int v3, .retAddr 0, .int v5, .int v6, .int v7, .retAddr 0, .retAddr 0] [] (mk h r)) : ∀ (n : Nat) (h : HI) (v3 : Int32) (v5 : Int32) (v6 : Int32) (v7 : Int32) (v8 : Int32), fX3_search_78 o a1 a1hh k n h v3 v5 v6 v7 v8 = some p → WW X (sh, adr, 0, 0) 78 [.ref o, .ref a1, .retAddr 0, .int v3, .retAddr 0, .int v5, .int v6, .int v7, .int v8, .retAddr 0] [] (mk h r) := by
  intro n
  induction n with
  | zero =>
    intro h v3 v5 v6 v7 v8 H
    rw [fX3_search_78] at H
    cases H
  | succ n ih =>
    intro h v3 v5 v6 v7 v8 H
    rw [fX3_search_78] at H
    refine ww_iload C dX3_search_78 rfl ?_
    refine ww_iload C dX3_search_80 rfl ?_
    refine ww_icmp_ge C dX3_search_82 107 rfl (fun hc => ?_) (fun hc => ?_)
    · rw [if_pos hc] at H
      exact ww_drop [.ref o, .ref a1, .retAddr 0, .int v3, .retAddr 0, .int v5, .int v6, .int v7, .retAddr 0, .retAddr 0] (sl_e (sl_e (sl_e (sl_e (sl_e (sl_e (sl_e (sl_e (sl_d (sl_e sl_n)))))))))) (hk h v3 v5 v6 v7 H)
    · rw [if_neg hc] at H
      refine ww_iload C dX3_search_85 rfl ?_
      refine ww_sipush (v := (4096 : Int32)) C dX3_search_87 (by decide) ?_
      refine ww_icmp_ge C dX3_search_90 107 rfl (fun hc => ?_) (fun hc => ?_)
      · rw [if_pos hc] at H
        exact ww_drop [.ref o, .ref a1, .retAddr 0, .int v3, .retAddr 0, .int v5, .int v6, .int v7, .retAddr 0, .retAddr 0] (sl_e (sl_e (sl_e (sl_e (sl_e (sl_e (sl_e (sl_e (sl_d (sl_e sl_n)))))))))) (hk h v3 v5 v6 v7 H)
      · rw [if_neg hc] at H
        refine ww_aload_n C dX3_search_93 0 rfl rfl ?_
        refine wk_getR C dX3_search_94 fl_X3_11 hS.1 rfl (tX3_reach hS).1 ?_
        refine ww_iload C dX3_search_97 rfl ?_
        refine ww_lconst (v := (0 : Int64)) C dX3_search_99 (by decide) ?_
        obtain ⟨hg, H⟩ := gd_of H
        refine wk_lastore C dX3_search_100 (tX3_reach hS).2.1 (vp_of hg (tX3_reach hS).2.2) (v8.toNatClampNeg) rfl ?_
        refine ww_iinc (v := (v8 + (1 : Int32))) C dX3_search_101 rfl rfl (by decide) rfl [.ref o, .ref a1, .retAddr 0, .int v3, .retAddr 0, .int v5, .int v6, .int v7, .int (v8 + (1 : Int32)), .retAddr 0] rfl ?_
        refine ww_goto C dX3_search_104 78 rfl ?_
        exact ih (uL h (o + 1) (v8.toNatClampNeg) (0 : Int64)) v3 v5 v6 v7 (v8 + (1 : Int32)) H
def fX3_search_192 (o : Nat) (a1 : Nat) (a1hh : Nat) (k : HI → Int32 → Int32 → Int32 → Int32 → Option (Int32 × HI)) (kb : HI → Int32 → Int32 → Int32 → Int32 → Int32 → Option (Int32 × HI)) (h : HI) (v5 : Int32) (v6 : Int32) (v7 : Int32) (v8 : Int32) (v9 : Int32) : Option (Int32 × HI) := kb h v5 v6 v7 v8 (v9 + (-1 : Int32))
set_option maxRecDepth 100000 in
set_option maxHeartbeats 4000000 in
theorem cX3_search_192 {X : CT} {sh : Sh} {adr : Nat → Nat} {r : Nat → Nat → Option Nat} {o : Nat} {a1 : Nat} {a1hh : Nat} {p : Int32 × HI} (hS : PS sh r a1hh o) (hA1 : SS sh r a1hh a1) (C : CX X yX3_search.cls cX3_search 10 4) (hZ : SZX X adr) (E : RX X (some .int) sh adr (fun v τ => v = some (.int p.1) ∧ τ = mk p.2 r)) {k : HI → Int32 → Int32 → Int32 → Int32 → Option (Int32 × HI)} {kb : HI → Int32 → Int32 → Int32 → Int32 → Int32 → Option (Int32 × HI)} (hk : ∀ (h : HI) (v5 : Int32) (v6 : Int32) (v7 : Int32) (v8 : Int32), k h v5 v6 v7 v8 = some p → WW X (sh, adr, 0, 0) 198 [.ref o, .ref a1, .retAddr 0, .retAddr 0, .retAddr 0, .int v5, .int v6, .int v7, .int v8, .retAddr 0] [] (mk h r)) (hb : ∀ (h : HI) (v5 : Int32) (v6 : Int32) (v7 : Int32) (v8 : Int32) (v9 : Int32), kb h v5 v6 v7 v8 v9 = some p → WW X (sh, adr, 0, 0) 167 [.ref o, .ref a1, .retAddr 0, .retAddr 0, .retAddr 0, .int v5, .int v6, .int v7, .int v8, .int v9] [] (mk h r)) {h : HI} {v5 : Int32} {v6 : Int32} {v7 : Int32} {v8 : Int32} {v9 : Int32} (H : fX3_search_192 o a1 a1hh k kb h v5 v6 v7 v8 v9 = some p) : WW X (sh, adr, 0, 0) 192 [.ref o, .ref a1, .retAddr 0, .retAddr 0, .retAddr 0, .int v5, .int v6, .int v7, .int v8, .int v9] [] (mk h r) := by
  rw [fX3_search_192] at H
  refine ww_iinc (v := (v9 + (-1 : Int32))) C dX3_search_192 rfl rfl (by decide) rfl [.ref o, .ref a1, .retAddr 0, .retAddr 0, .retAddr 0, .int v5, .int v6, .int v7, .int v8, .int (v9 + (-1 : Int32))] rfl ?_
  refine ww_goto C dX3_search_195 167 rfl ?_
  exact hb h v5 v6 v7 v8 (v9 + (-1 : Int32)) H
def fX3_search_167 (o : Nat) (a1 : Nat) (a1hh : Nat) (k : HI → Int32 → Int32 → Int32 → Int32 → Option (Int32 × HI)) : Nat → HI → Int32 → Int32 → Int32 → Int32 → Int32 → Option (Int32 × HI)
  | 0, _, _, _, _, _, _ => none
  | n + 1, h, v5, v6, v7, v8, v9 => (if v9 < 0 then k h v5 v6 v7 v8 else (if inB v9 4096 then (if (lg_cmp (h.2 (o + 1) (v9.toNatClampNeg)) (0 : Int64)) = 0 then fX3_search_192 o a1 a1hh (k) (fX3_search_167 o a1 a1hh k n) h v5 v6 v7 v8 v9 else ((fX3_step o a1hh h v9 v8).bind fun h9 => fX3_search_192 o a1 a1hh (k) (fX3_search_167 o a1 a1hh k n) h9 v5 v6 v7 v8 v9)) else none))
set_option maxRecDepth 100000 in
set_option maxHeartbeats 4000000 in
theorem cX3_search_167 {X : CT} {sh : Sh} {adr : Nat → Nat} {r : Nat → Nat → Option Nat} {o : Nat} {a1 : Nat} {a1hh : Nat} {p : Int32 × HI} (hS : PS sh r a1hh o) (hA1 : SS sh r a1hh a1) (C : CX X yX3_search.cls cX3_search 10 4) (hZ : SZX X adr) (E : RX X (some .int) sh adr (fun v τ => v = some (.int p.1) ∧ τ = mk p.2 r)) {k : HI → Int32 → Int32 → Int32 → Int32 → Option (Int32 × HI)} (hk : ∀ (h : HI) (v5 : Int32) (v6 : Int32) (v7 : Int32) (v8 : Int32), k h v5 v6 v7 v8 = some p → WW X (sh, adr, 0, 0) 198 [.ref o, .ref a1, .retAddr 0, .retAddr 0, .retAddr 0, .int v5, .int v6, .int v7, .int v8, .retAddr 0] [] (mk h r)) : ∀ (n : Nat) (h : HI) (v5 : Int32) (v6 : Int32) (v7 : Int32) (v8 : Int32) (v9 : Int32), fX3_search_167 o a1 a1hh k n h v5 v6 v7 v8 v9 = some p → WW X (sh, adr, 0, 0) 167 [.ref o, .ref a1, .retAddr 0, .retAddr 0, .retAddr 0, .int v5, .int v6, .int v7, .int v8, .int v9] [] (mk h r) := by
  intro n
  induction n with
  | zero =>
    intro h v5 v6 v7 v8 v9 H
    rw [fX3_search_167] at H
    cases H
  | succ n ih =>
    intro h v5 v6 v7 v8 v9 H
    rw [fX3_search_167] at H
    refine ww_iload C dX3_search_167 rfl ?_
    refine ww_if_lt C dX3_search_169 198 rfl (fun hc => ?_) (fun hc => ?_)
    · rw [if_pos hc] at H
      exact ww_drop [.ref o, .ref a1, .retAddr 0, .retAddr 0, .retAddr 0, .int v5, .int v6, .int v7, .int v8, .retAddr 0] (sl_e (sl_e (sl_e (sl_e (sl_e (sl_e (sl_e (sl_e (sl_e (sl_d sl_n)))))))))) (hk h v5 v6 v7 v8 H)
    · rw [if_neg hc] at H
      refine ww_aload_n C dX3_search_172 0 rfl rfl ?_
      refine wk_getR C dX3_search_173 fl_X3_11 hS.1 rfl (tX3_reach hS).1 ?_
      refine ww_iload C dX3_search_176 rfl ?_
      obtain ⟨hg, H⟩ := gd_of H
      refine wk_laload C dX3_search_178 (tX3_reach hS).2.1 (vp_of hg (tX3_reach hS).2.2) (v9.toNatClampNeg) rfl ?_
      refine ww_lconst (v := (0 : Int64)) C dX3_search_179 (by decide) ?_
      refine ww_lcmp C dX3_search_180 ?_
      refine ww_if_eq C dX3_search_181 192 rfl (fun hc => ?_) (fun hc => ?_)
      · rw [if_pos hc] at H
        exact cX3_search_192 hS hA1 C hZ E hk ih H
      · rw [if_neg hc] at H
        refine ww_aload_n C dX3_search_184 0 rfl rfl ?_
        refine ww_iload C dX3_search_185 rfl ?_
        refine ww_iload C dX3_search_187 rfl ?_
        obtain ⟨h9, hc1, H⟩ := bd_of H
        refine ww_callV C hZ dX3_search_189 cw_X3_89 (ccX3_step hS hc1) hS.1 ⟨by decide, rfl⟩ (by decide) rfl rfl (Nat.le_of_ble_eq_true rfl) ⟨Nat.zero_le _, Nat.zero_le _⟩ (fun v τ hp => ?_)
        obtain ⟨rfl, rfl⟩ := hp
        change WW X _ 192 [.ref o, .ref a1, .retAddr 0, .retAddr 0, .retAddr 0, .int v5, .int v6, .int v7, .int v8, .int v9] [] _
        exact cX3_search_192 hS hA1 C hZ E hk ih H
def fX3_search_133 (o : Nat) (a1 : Nat) (a1hh : Nat) (k : HI → Option (Int32 × HI)) : Nat → HI → Int32 → Int32 → Int32 → Int32 → Option (Int32 × HI)
  | 0, _, _, _, _, _ => none
  | n + 1, h, v5, v6, v7, v8 => (if v5 ≤ v8 then k h else (if v6 ≤ (h.1 o 13) then k h else (if (h.1 o 14) = 0 then k h else fX3_search_167 o a1 a1hh (fun h11 v5 v6 v7 v8 => fX3_search_133 o a1 a1hh k n h11 v5 v6 v7 (v8 + (1 : Int32))) FU (uI h o 14 (0 : Int32)) v5 v6 v7 v8 (v7 - (1 : Int32)))))
set_option maxRecDepth 100000 in
set_option maxHeartbeats 4000000 in
theorem cX3_search_133 {X : CT} {sh : Sh} {adr : Nat → Nat} {r : Nat → Nat → Option Nat} {o : Nat} {a1 : Nat} {a1hh : Nat} {p : Int32 × HI} (hS : PS sh r a1hh o) (hA1 : SS sh r a1hh a1) (C : CX X yX3_search.cls cX3_search 10 4) (hZ : SZX X adr) (E : RX X (some .int) sh adr (fun v τ => v = some (.int p.1) ∧ τ = mk p.2 r)) {k : HI → Option (Int32 × HI)} (hk : ∀ (h : HI), k h = some p → WW X (sh, adr, 0, 0) 204 [.ref o, .ref a1, .retAddr 0, .retAddr 0, .retAddr 0, .retAddr 0, .retAddr 0, .retAddr 0, .retAddr 0, .retAddr 0] [] (mk h r)) : ∀ (n : Nat) (h : HI) (v5 : Int32) (v6 : Int32) (v7 : Int32) (v8 : Int32), fX3_search_133 o a1 a1hh k n h v5 v6 v7 v8 = some p → WW X (sh, adr, 0, 0) 133 [.ref o, .ref a1, .retAddr 0, .retAddr 0, .retAddr 0, .int v5, .int v6, .int v7, .int v8, .retAddr 0] [] (mk h r) := by
  intro n
  induction n with
  | zero =>
    intro h v5 v6 v7 v8 H
    rw [fX3_search_133] at H
    cases H
  | succ n ih =>
    intro h v5 v6 v7 v8 H
    rw [fX3_search_133] at H
    refine ww_iload C dX3_search_133 rfl ?_
    refine ww_iload C dX3_search_135 rfl ?_
    refine ww_icmp_ge C dX3_search_137 204 rfl (fun hc => ?_) (fun hc => ?_)
    · rw [if_pos hc] at H
      exact ww_drop [.ref o, .ref a1, .retAddr 0, .retAddr 0, .retAddr 0, .retAddr 0, .retAddr 0, .retAddr 0, .retAddr 0, .retAddr 0] (sl_e (sl_e (sl_e (sl_e (sl_e (sl_d (sl_d (sl_d (sl_d (sl_e sl_n)))))))))) (hk h H)
    · rw [if_neg hc] at H
      refine ww_aload_n C dX3_search_140 0 rfl rfl ?_
      refine wk_getI C dX3_search_141 fl_X3_49 hS.1 rfl ?_
      refine ww_iload C dX3_search_144 rfl ?_
      refine ww_icmp_ge C dX3_search_146 204 rfl (fun hc => ?_) (fun hc => ?_)
      · rw [if_pos hc] at H
        exact ww_drop [.ref o, .ref a1, .retAddr 0, .retAddr 0, .retAddr 0, .retAddr 0, .retAddr 0, .retAddr 0, .retAddr 0, .retAddr 0] (sl_e (sl_e (sl_e (sl_e (sl_e (sl_d (sl_d (sl_d (sl_d (sl_e sl_n)))))))))) (hk h H)
      · rw [if_neg hc] at H
        refine ww_aload_n C dX3_search_149 0 rfl rfl ?_
        refine wk_getZ C dX3_search_150 fl_X3_85 hS.1 rfl ?_
        refine ww_if_eq C dX3_search_153 204 rfl (fun hc => ?_) (fun hc => ?_)
        · rw [if_pos hc] at H
          exact ww_drop [.ref o, .ref a1, .retAddr 0, .retAddr 0, .retAddr 0, .retAddr 0, .retAddr 0, .retAddr 0, .retAddr 0, .retAddr 0] (sl_e (sl_e (sl_e (sl_e (sl_e (sl_d (sl_d (sl_d (sl_d (sl_e sl_n)))))))))) (hk h H)
        · rw [if_neg hc] at H
          refine ww_aload_n C dX3_search_156 0 rfl rfl ?_
          refine ww_iconst (v := (0 : Int32)) C dX3_search_157 (by decide) ?_
          refine wk_putZ C dX3_search_158 fl_X3_85 hS.1 rfl rfl (Or.inl rfl) ?_
          refine ww_iload C dX3_search_161 rfl ?_
          refine ww_iconst (v := (1 : Int32)) C dX3_search_163 (by decide) ?_
          refine ww_isub C dX3_search_164 ?_
          refine ww_istore C dX3_search_165 (by decide) rfl [.ref o, .ref a1, .retAddr 0, .retAddr 0, .retAddr 0, .int v5, .int v6, .int v7, .int v8, .int (v7 - (1 : Int32))] rfl ?_
          refine cX3_search_167 hS hA1 C hZ E (fun h11 v5 v6 v7 v8 H => ?_) FU (uI h o 14 (0 : Int32)) v5 v6 v7 v8 (v7 - (1 : Int32)) H
          refine ww_iinc (v := (v8 + (1 : Int32))) C dX3_search_198 rfl rfl (by decide) rfl [.ref o, .ref a1, .retAddr 0, .retAddr 0, .retAddr 0, .int v5, .int v6, .int v7, .int (v8 + (1 : Int32)), .retAddr 0] rfl ?_
          refine ww_goto C dX3_search_201 133 rfl ?_
          exact ih h11 v5 v6 v7 (v8 + (1 : Int32)) H
def fX3_search_107 (o : Nat) (a1 : Nat) (a1hh : Nat) (h : HI) (v3 : Int32) (v5 : Int32) (v6 : Int32) (v7 : Int32) : Option (Int32 × HI) := ((fX3_startKey o a1 a1hh h).bind fun p8 => (if inB p8.1 4096 then fX3_search_133 o a1 a1hh (fun h13 => some ((h13.1 o 13), h13)) FU (uI (uL p8.2 (o + 1) (p8.1.toNatClampNeg) (((1 : Int64) <<< (v3.toInt64 &&& 63)) &&& (p8.2.2 o 12))) o 14 (1 : Int32)) v5 v6 v7 (0 : Int32) else none))
set_option maxRecDepth 100000 in
set_option maxHeartbeats 4000000 in
theorem cX3_search_107 {X : CT} {sh : Sh} {adr : Nat → Nat} {r : Nat → Nat → Option Nat} {o : Nat} {a1 : Nat} {a1hh : Nat} {p : Int32 × HI} (hS : PS sh r a1hh o) (hA1 : SS sh r a1hh a1) (C : CX X yX3_search.cls cX3_search 10 4) (hZ : SZX X adr) (E : RX X (some .int) sh adr (fun v τ => v = some (.int p.1) ∧ τ = mk p.2 r)) {h : HI} {v3 : Int32} {v5 : Int32} {v6 : Int32} {v7 : Int32} (H : fX3_search_107 o a1 a1hh h v3 v5 v6 v7 = some p) : WW X (sh, adr, 0, 0) 107 [.ref o, .ref a1, .retAddr 0, .int v3, .retAddr 0, .int v5, .int v6, .int v7, .retAddr 0, .retAddr 0] [] (mk h r) := by
  rw [fX3_search_107] at H
  refine ww_aload_n C dX3_search_107 0 rfl rfl ?_
  refine wk_getR C dX3_search_108 fl_X3_11 hS.1 rfl (tX3_reach hS).1 ?_
  refine ww_aload_n C dX3_search_111 0 rfl rfl ?_
  refine ww_aload_n C dX3_search_112 1 rfl rfl ?_
  obtain ⟨p8, hc1, H⟩ := bd_of H
  refine ww_callV C hZ dX3_search_113 cw_X3_78 (ccX3_startKey hS hA1 hc1) hS.1 ⟨by decide, rfl⟩ (by decide) rfl rfl (Nat.le_of_ble_eq_true rfl) ⟨Nat.zero_le _, Nat.zero_le _⟩ (fun v τ hp => ?_)
  obtain ⟨rfl, rfl⟩ := hp
  change WW X _ 116 [.ref o, .ref a1, .retAddr 0, .int v3, .retAddr 0, .int v5, .int v6, .int v7, .retAddr 0, .retAddr 0] [.int p8.1, .ref (o + 1)] _
  refine ww_lconst (v := (1 : Int64)) C dX3_search_116 (by decide) ?_
  refine ww_iload_n C dX3_search_117 3 rfl rfl ?_
  refine ww_lshl C dX3_search_118 ?_
  refine ww_aload_n C dX3_search_119 0 rfl rfl ?_
  refine wk_getJ C dX3_search_120 fl_X3_81 hS.1 rfl ?_
  refine ww_land C dX3_search_123 ?_
  obtain ⟨hg, H⟩ := gd_of H
  refine wk_lastore C dX3_search_124 (tX3_reach hS).2.1 (vp_of hg (tX3_reach hS).2.2) (p8.1.toNatClampNeg) rfl ?_
  refine ww_aload_n C dX3_search_125 0 rfl rfl ?_
  refine ww_iconst (v := (1 : Int32)) C dX3_search_126 (by decide) ?_
  refine wk_putZ C dX3_search_127 fl_X3_85 hS.1 rfl rfl (Or.inr rfl) ?_
  refine ww_iconst (v := (0 : Int32)) C dX3_search_130 (by decide) ?_
  refine ww_istore C dX3_search_131 (by decide) rfl [.ref o, .ref a1, .retAddr 0, .int v3, .retAddr 0, .int v5, .int v6, .int v7, .int (0 : Int32), .retAddr 0] rfl ?_
  refine ww_drop [.ref o, .ref a1, .retAddr 0, .retAddr 0, .retAddr 0, .int v5, .int v6, .int v7, .int (0 : Int32), .retAddr 0] (sl_e (sl_e (sl_e (sl_d (sl_e (sl_e (sl_e (sl_e (sl_e (sl_e sl_n)))))))))) (cX3_search_133 hS hA1 C hZ E (fun h13 H => ?_) FU (uI (uL p8.2 (o + 1) (p8.1.toNatClampNeg) (((1 : Int64) <<< (v3.toInt64 &&& 63)) &&& (p8.2.2 o 12))) o 14 (1 : Int32)) v5 v6 v7 (0 : Int32) H)
  refine ww_aload_n C dX3_search_204 0 rfl rfl ?_
  refine wk_getI C dX3_search_205 fl_X3_49 hS.1 rfl ?_
  cases H
  exact ww_iret C E dX3_search_208 ⟨rfl, rfl⟩
def fX3_search (o : Nat) (a1 : Nat) (a1hh : Nat) (h : HI) (a2 : Int32) (a3 : Int32) (a4 : Int32) (a5 : Int32) : Option (Int32 × HI) := ((fX3_findGoals o a1hh a1 a1hh (uI (uI (uI h o 11 a2) o 13 (0 : Int32)) o 15 (0 : Int32))).bind fun p1 => (if p1.1 = 0 then some ((0 : Int32), p1.2) else (if a5 = 0 then some ((0 : Int32), p1.2) else ((fX3_findLinks o a1hh p1.2).bind fun h2 => ((fX3_fillFitting o h2 a4).bind fun h3 => ((fX3_fillVerdicts o a1hh h3).bind fun h4 => ((fX3_fillPassing o a1hh h4).bind fun h5 => fX3_search_78 o a1 a1hh (fun h7 v3 v5 v6 v7 => fX3_search_107 o a1 a1hh h7 v3 v5 v6 v7) FU h5 a3 a5 p1.1 ((1 : Int32) <<< ((((2 : Int32) * (h5.1 o 9)) + (h5.1 o 10)) &&& 31)) (0 : Int32))))))))
set_option maxRecDepth 100000 in
set_option maxHeartbeats 4000000 in
theorem ccX3_search {l : Launch} {sh : Sh} {adr : Nat → Nat} {r : Nat → Nat → Option Nat} {o : Nat} {hh : Nat} {a1 : Nat} {a1hh : Nat} (hS : PS sh r hh o) (hA1 : SS sh r a1hh a1) {h : HI} {a2 : Int32} {a3 : Int32} {a4 : Int32} {a5 : Int32} {p : Int32 × HI} (H : fX3_search o a1 a1hh h a2 a3 a4 a5 = some p) : CC l yX3_search cX3_search 10 (some .int) 4 [.ref o, .ref a1, .int a2, .int a3, .int a4, .int a5] sh adr (mk h r) (fun v τ => v = some (.int p.1) ∧ τ = mk p.2 (ur r o 8 (some a1hh))) := by
  refine CC.of (by decide) (Nat.le_of_ble_eq_true rfl) 4 [.ref o, .ref a1, .int a2, .int a3, .int a4, .int a5, .retAddr 0, .retAddr 0, .retAddr 0, .retAddr 0] rfl (fun X _ C E hZ => ?_)
  rw [fX3_search] at H
  refine ww_aload_n C dX3_search_0 0 rfl rfl ?_
  refine ww_aload_n C dX3_search_1 1 rfl rfl ?_
  refine wk_getA C dX3_search_2 fl_X3_42 hA1.1 rfl (tX6_hall hA1).1 ?_
  refine wk_putA C dX3_search_5 fl_X3_38 hS.1 rfl rfl ?_
  have hS9 := PS.put hS (tX6_hall hA1).2
  have hA1 := SS.keep (o := o) (k := 8) (v := some a1hh) (by intro q; have q1 := hA1.1; rw [q, hS.1] at q1; exact absurd q1 (by decide)) (by rw [hS.1]; decide) hA1
  have hS := hS9
  refine ww_aload_n C dX3_search_8 0 rfl rfl ?_
  refine ww_iload_n C dX3_search_9 2 rfl rfl ?_
  refine wk_putI C dX3_search_10 fl_X3_45 hS.1 rfl rfl ?_
  refine ww_aload_n C dX3_search_13 0 rfl rfl ?_
  refine ww_iconst (v := (0 : Int32)) C dX3_search_14 (by decide) ?_
  refine wk_putI C dX3_search_15 fl_X3_49 hS.1 rfl rfl ?_
  refine ww_aload_n C dX3_search_18 0 rfl rfl ?_
  refine ww_iconst (v := (0 : Int32)) C dX3_search_19 (by decide) ?_
  refine wk_putI C dX3_search_20 fl_X3_52 hS.1 rfl rfl ?_
  refine ww_aload_n C dX3_search_23 0 rfl rfl ?_
  refine ww_aload_n C dX3_search_24 1 rfl rfl ?_
  obtain ⟨p1, hc1, H⟩ := bd_of H
  refine ww_callV C hZ dX3_search_25 cw_X3_55 (ccX3_findGoals hS hA1 hc1) hS.1 ⟨by decide, rfl⟩ (by decide) rfl rfl (Nat.le_of_ble_eq_true rfl) ⟨Nat.zero_le _, Nat.zero_le _⟩ (fun v τ hp => ?_)
  obtain ⟨rfl, rfl⟩ := hp
  change WW X _ 28 [.ref o, .ref a1, .int a2, .int a3, .int a4, .int a5, .retAddr 0, .retAddr 0, .retAddr 0, .retAddr 0] [.int p1.1] _
  refine ww_istore C dX3_search_28 (by decide) rfl [.ref o, .ref a1, .int a2, .int a3, .int a4, .int a5, .int p1.1, .retAddr 0, .retAddr 0, .retAddr 0] rfl ?_
  refine ww_iload C dX3_search_30 rfl ?_
  refine ww_if_eq C dX3_search_32 40 rfl (fun hc => ?_) (fun hc => ?_)
  · rw [if_pos hc] at H
    refine ww_iconst (v := (0 : Int32)) C dX3_search_40 (by decide) ?_
    cases H
    exact ww_iret C E dX3_search_41 ⟨rfl, rfl⟩
  · rw [if_neg hc] at H
    refine ww_iload C dX3_search_35 rfl ?_
    refine ww_if_ne C dX3_search_37 42 rfl (fun hc => ?_) (fun hc => ?_)
    · rw [if_neg hc] at H
      refine ww_aload_n C dX3_search_42 0 rfl rfl ?_
      obtain ⟨h2, hc1, H⟩ := bd_of H
      refine ww_callV C hZ dX3_search_43 cw_X3_59 (ccX3_findLinks hS hc1) hS.1 ⟨by decide, rfl⟩ (by decide) rfl rfl (Nat.le_of_ble_eq_true rfl) ⟨Nat.zero_le _, Nat.zero_le _⟩ (fun v τ hp => ?_)
      obtain ⟨rfl, rfl⟩ := hp
      change WW X _ 46 [.ref o, .ref a1, .int a2, .int a3, .int a4, .int a5, .int p1.1, .retAddr 0, .retAddr 0, .retAddr 0] [] _
      refine ww_aload_n C dX3_search_46 0 rfl rfl ?_
      refine ww_iload C dX3_search_47 rfl ?_
      obtain ⟨h3, hc1, H⟩ := bd_of H
      refine ww_callV C hZ dX3_search_49 cw_X3_62 (ccX3_fillFitting hS hc1) hS.1 ⟨by decide, rfl⟩ (by decide) rfl rfl (Nat.le_of_ble_eq_true rfl) ⟨Nat.zero_le _, Nat.zero_le _⟩ (fun v τ hp => ?_)
      obtain ⟨rfl, rfl⟩ := hp
      change WW X _ 52 [.ref o, .ref a1, .int a2, .int a3, .int a4, .int a5, .int p1.1, .retAddr 0, .retAddr 0, .retAddr 0] [] _
      refine ww_aload_n C dX3_search_52 0 rfl rfl ?_
      obtain ⟨h4, hc1, H⟩ := bd_of H
      refine ww_callV C hZ dX3_search_53 cw_X3_66 (ccX3_fillVerdicts hS hc1) hS.1 ⟨by decide, rfl⟩ (by decide) rfl rfl (Nat.le_of_ble_eq_true rfl) ⟨Nat.zero_le _, Nat.zero_le _⟩ (fun v τ hp => ?_)
      obtain ⟨rfl, rfl⟩ := hp
      change WW X _ 56 [.ref o, .ref a1, .int a2, .int a3, .int a4, .int a5, .int p1.1, .retAddr 0, .retAddr 0, .retAddr 0] [] _
      refine ww_aload_n C dX3_search_56 0 rfl rfl ?_
      obtain ⟨h5, hc1, H⟩ := bd_of H
      refine ww_callV C hZ dX3_search_57 cw_X3_69 (ccX3_fillPassing hS hc1) hS.1 ⟨by decide, rfl⟩ (by decide) rfl rfl (Nat.le_of_ble_eq_true rfl) ⟨Nat.zero_le _, Nat.zero_le _⟩ (fun v τ hp => ?_)
      obtain ⟨rfl, rfl⟩ := hp
      change WW X _ 60 [.ref o, .ref a1, .int a2, .int a3, .int a4, .int a5, .int p1.1, .retAddr 0, .retAddr 0, .retAddr 0] [] _
      refine ww_iconst (v := (1 : Int32)) C dX3_search_60 (by decide) ?_
      refine ww_iconst (v := (2 : Int32)) C dX3_search_61 (by decide) ?_
      refine ww_aload_n C dX3_search_62 0 rfl rfl ?_
      refine wk_getI C dX3_search_63 fl_X3_72 hS.1 rfl ?_
      refine ww_imul C dX3_search_66 ?_
      refine ww_aload_n C dX3_search_67 0 rfl rfl ?_
      refine wk_getI C dX3_search_68 fl_X3_75 hS.1 rfl ?_
      refine ww_iadd C dX3_search_71 ?_
      refine ww_ishl C dX3_search_72 ?_
      refine ww_istore C dX3_search_73 (by decide) rfl [.ref o, .ref a1, .int a2, .int a3, .int a4, .int a5, .int p1.1, .int ((1 : Int32) <<< ((((2 : Int32) * (h5.1 o 9)) + (h5.1 o 10)) &&& 31)), .retAddr 0, .retAddr 0] rfl ?_
      refine ww_iconst (v := (0 : Int32)) C dX3_search_75 (by decide) ?_
      refine ww_istore C dX3_search_76 (by decide) rfl [.ref o, .ref a1, .int a2, .int a3, .int a4, .int a5, .int p1.1, .int ((1 : Int32) <<< ((((2 : Int32) * (h5.1 o 9)) + (h5.1 o 10)) &&& 31)), .int (0 : Int32), .retAddr 0] rfl ?_
      refine ww_drop [.ref o, .ref a1, .retAddr 0, .int a3, .retAddr 0, .int a5, .int p1.1, .int ((1 : Int32) <<< ((((2 : Int32) * (h5.1 o 9)) + (h5.1 o 10)) &&& 31)), .int (0 : Int32), .retAddr 0] (sl_e (sl_e (sl_d (sl_e (sl_d (sl_e (sl_e (sl_e (sl_e (sl_e sl_n)))))))))) (cX3_search_78 hS hA1 C hZ E (fun h7 v3 v5 v6 v7 H => ?_) FU h5 a3 a5 p1.1 ((1 : Int32) <<< ((((2 : Int32) * (h5.1 o 9)) + (h5.1 o 10)) &&& 31)) (0 : Int32) H)
      exact cX3_search_107 hS hA1 C hZ E H
    · rw [if_pos hc] at H
      refine ww_iconst (v := (0 : Int32)) C dX3_search_40 (by decide) ?_
      cases H
      exact ww_iret C E dX3_search_41 ⟨rfl, rfl⟩
def fX8_bestWith (o : Nat) (nh : Nat) (h : HI) (a1 : Int32) (a2 : Int32) : Option (Int32 × HI) := ((fX6_onSeats (o + 56) nh h).bind fun p1 => ((fX6_seats (o + 56) nh p1.2).bind fun p2 => ((fX3_search (o + 65) (o + 56) nh p2.2 a1 p1.1 p2.1 a2).bind fun p3 => some (p3.1, p3.2))))
set_option maxRecDepth 100000 in
set_option maxHeartbeats 4000000 in
theorem ccX8_bestWith {l : Launch} {sh : Sh} {adr : Nat → Nat} {r : Nat → Nat → Option Nat} {o : Nat} {hh : Nat} {hs : Nat} {rh : Nat} {ph : Nat} {nh : Nat} (hS : KS sh r hh hs rh ph nh o) {h : HI} {a1 : Int32} {a2 : Int32} {p : Int32 × HI} (H : fX8_bestWith o nh h a1 a2 = some p) : CC l yX8_bestWith cX8_bestWith 3 (some .int) 5 [.ref o, .int a1, .int a2] sh adr (mk h r) (fun v τ => v = some (.int p.1) ∧ τ = mk p.2 (ur r (o + 65) 8 (some nh))) := by
  refine CC.of (by decide) (Nat.le_of_ble_eq_true rfl) 0 [.ref o, .int a1, .int a2] rfl (fun X _ C E hZ => ?_)
  rw [fX8_bestWith] at H
  refine ww_aload_n C dX8_bestWith_0 0 rfl rfl ?_
  refine wk_getA C dX8_bestWith_1 fl_X8_62 hS.1 rfl (tX8_planner hS).1 ?_
  refine ww_aload_n C dX8_bestWith_4 0 rfl rfl ?_
  refine wk_getA C dX8_bestWith_5 fl_X8_55 hS.1 rfl (tX8_now hS).1 ?_
  refine ww_iload_n C dX8_bestWith_8 1 rfl rfl ?_
  refine ww_aload_n C dX8_bestWith_9 0 rfl rfl ?_
  refine wk_getA C dX8_bestWith_10 fl_X8_55 hS.1 rfl (tX8_now hS).1 ?_
  obtain ⟨p1, hc1, H⟩ := bd_of H
  refine ww_callV C hZ dX8_bestWith_13 cw_X8_213 (ccX6_onSeats (tX8_now hS).2 hc1) (tX8_now hS).2.1 ⟨by decide, rfl⟩ (by decide) rfl rfl (Nat.le_of_ble_eq_true rfl) ⟨Nat.zero_le _, Nat.zero_le _⟩ (fun v τ hp => ?_)
  obtain ⟨rfl, rfl⟩ := hp
  change WW X _ 16 [.ref o, .int a1, .int a2] [.int p1.1, .int a1, .ref (o + 56), .ref (o + 65)] _
  refine ww_aload_n C dX8_bestWith_16 0 rfl rfl ?_
  refine wk_getA C dX8_bestWith_17 fl_X8_55 hS.1 rfl (tX8_now hS).1 ?_
  obtain ⟨p2, hc1, H⟩ := bd_of H
  refine ww_callV C hZ dX8_bestWith_20 cw_X8_229 (ccX6_seats (tX8_now hS).2 hc1) (tX8_now hS).2.1 ⟨by decide, rfl⟩ (by decide) rfl rfl (Nat.le_of_ble_eq_true rfl) ⟨Nat.zero_le _, Nat.zero_le _⟩ (fun v τ hp => ?_)
  obtain ⟨rfl, rfl⟩ := hp
  change WW X _ 23 [.ref o, .int a1, .int a2] [.int p2.1, .int p1.1, .int a1, .ref (o + 56), .ref (o + 65)] _
  refine ww_iload_n C dX8_bestWith_23 2 rfl rfl ?_
  obtain ⟨p3, hc1, H⟩ := bd_of H
  refine ww_callV C hZ dX8_bestWith_24 cw_X8_216 (ccX3_search (tX8_planner hS).2 (tX8_now hS).2 hc1) (tX8_planner hS).2.1 ⟨by decide, rfl⟩ (by decide) rfl rfl (Nat.le_of_ble_eq_true rfl) ⟨Nat.zero_le _, Nat.zero_le _⟩ (fun v τ hp => ?_)
  obtain ⟨rfl, rfl⟩ := hp
  have hS := KS.pl hS
  change WW X _ 27 [.ref o, .int a1, .int a2] [.int p3.1] _
  cases H
  exact ww_iret C E dX8_bestWith_27 ⟨rfl, rfl⟩
def fX8_best (o : Nat) (nh : Nat) (h : HI) (a1 : Int32) (a2 : Int32) : Option (Int32 × HI) := ((fX8_isPlanTime h a1).bind fun p1 => (if p1.1 = 0 then some ((-1 : Int32), p1.2) else (if a2 < 0 then some ((-1 : Int32), p1.2) else (if a2 ≤ (1 : Int32) then ((fX6_inHall (o + 56) nh p1.2).bind fun p2 => ((fX8_bestWith o nh p2.2 p2.1 a1).bind fun p3 => (if a2 = 0 then some (p3.1, p3.2) else some ((p3.2.1 (o + 65) 15), p3.2)))) else some ((-1 : Int32), p1.2)))))
set_option maxRecDepth 100000 in
set_option maxHeartbeats 4000000 in
theorem ccX8_best {l : Launch} {sh : Sh} {adr : Nat → Nat} {r : Nat → Nat → Option Nat} {o : Nat} {hh : Nat} {hs : Nat} {rh : Nat} {ph : Nat} {nh : Nat} (hS : KS sh r hh hs rh ph nh o) {h : HI} {a1 : Int32} {a2 : Int32} {p : Int32 × HI} (H : fX8_best o nh h a1 a2 = some p) : CC l yX8_best cX8_best 4 (some .int) 6 [.ref o, .int a1, .int a2] sh adr (mk h r) (fun v τ => v = some (.int p.1) ∧ ∃ r9, τ = mk p.2 r9 ∧ (r9 = r ∨ r9 = ur r (o + 65) 8 (some nh))) := by
  refine CC.of (by decide) (Nat.le_of_ble_eq_true rfl) 1 [.ref o, .int a1, .int a2, .retAddr 0] rfl (fun X _ C E hZ => ?_)
  rw [fX8_best] at H
  refine ww_iload_n C dX8_best_0 1 rfl rfl ?_
  obtain ⟨p1, hc1, H⟩ := bd_of H
  refine ww_callS C hZ dX8_best_1 sw_X8_200 (ccX8_isPlanTime hc1) (by decide) rfl rfl (Nat.le_of_ble_eq_true rfl) ⟨Nat.zero_le _, Nat.zero_le _⟩ (fun v τ hp => ?_)
  obtain ⟨rfl, rfl⟩ := hp
  change WW X _ 4 [.ref o, .int a1, .int a2, .retAddr 0] [.int p1.1] _
  refine ww_if_eq C dX8_best_4 16 rfl (fun hc => ?_) (fun hc => ?_)
  · rw [if_pos hc] at H
    refine ww_iconst (v := (-1 : Int32)) C dX8_best_16 (by decide) ?_
    cases H
    exact ww_iret C E dX8_best_17 ⟨rfl, _, rfl, (Or.inl rfl)⟩
  · rw [if_neg hc] at H
    refine ww_iload_n C dX8_best_7 2 rfl rfl ?_
    refine ww_if_lt C dX8_best_8 16 rfl (fun hc => ?_) (fun hc => ?_)
    · rw [if_pos hc] at H
      refine ww_iconst (v := (-1 : Int32)) C dX8_best_16 (by decide) ?_
      cases H
      exact ww_iret C E dX8_best_17 ⟨rfl, _, rfl, (Or.inl rfl)⟩
    · rw [if_neg hc] at H
      refine ww_iload_n C dX8_best_11 2 rfl rfl ?_
      refine ww_iconst (v := (1 : Int32)) C dX8_best_12 (by decide) ?_
      refine ww_icmp_le C dX8_best_13 18 rfl (fun hc => ?_) (fun hc => ?_)
      · rw [if_pos hc] at H
        refine ww_aload_n C dX8_best_18 0 rfl rfl ?_
        refine ww_aload_n C dX8_best_19 0 rfl rfl ?_
        refine wk_getA C dX8_best_20 fl_X8_55 hS.1 rfl (tX8_now hS).1 ?_
        obtain ⟨p2, hc1, H⟩ := bd_of H
        refine ww_callV C hZ dX8_best_23 cw_X8_203 (ccX6_inHall (tX8_now hS).2 hc1) (tX8_now hS).2.1 ⟨by decide, rfl⟩ (by decide) rfl rfl (Nat.le_of_ble_eq_true rfl) ⟨Nat.zero_le _, Nat.zero_le _⟩ (fun v τ hp => ?_)
        obtain ⟨rfl, rfl⟩ := hp
        change WW X _ 26 [.ref o, .int a1, .int a2, .retAddr 0] [.int p2.1, .ref o] _
        refine ww_iload_n C dX8_best_26 1 rfl rfl ?_
        obtain ⟨p3, hc1, H⟩ := bd_of H
        refine ww_callV C hZ dX8_best_27 cw_X8_207 (ccX8_bestWith hS hc1) hS.1 ⟨by decide, rfl⟩ (by decide) rfl rfl (Nat.le_of_ble_eq_true rfl) ⟨Nat.zero_le _, Nat.zero_le _⟩ (fun v τ hp => ?_)
        obtain ⟨rfl, rfl⟩ := hp
        have hS := KS.pl hS
        change WW X _ 30 [.ref o, .int a1, .int a2, .retAddr 0] [.int p3.1] _
        refine ww_istore_n C dX8_best_30 3 rfl (by decide) rfl [.ref o, .int a1, .int a2, .int p3.1] rfl ?_
        refine ww_iload_n C dX8_best_31 2 rfl rfl ?_
        refine ww_if_ne C dX8_best_32 39 rfl (fun hc => ?_) (fun hc => ?_)
        · rw [if_neg hc] at H
          refine ww_aload_n C dX8_best_39 0 rfl rfl ?_
          refine wk_getA C dX8_best_40 fl_X8_62 hS.1 rfl (tX8_planner hS).1 ?_
          refine wk_getI C dX8_best_43 fl_X8_210 (tX8_planner hS).2.1 rfl ?_
          cases H
          exact ww_iret C E dX8_best_46 ⟨rfl, _, rfl, (Or.inr rfl)⟩
        · rw [if_pos hc] at H
          refine ww_iload_n C dX8_best_35 3 rfl rfl ?_
          refine ww_goto C dX8_best_36 46 rfl ?_
          cases H
          exact ww_iret C E dX8_best_46 ⟨rfl, _, rfl, (Or.inr rfl)⟩
      · rw [if_neg hc] at H
        refine ww_iconst (v := (-1 : Int32)) C dX8_best_16 (by decide) ?_
        cases H
        exact ww_iret C E dX8_best_17 ⟨rfl, _, rfl, (Or.inl rfl)⟩
def fX8_lets (o : Nat) (nh : Nat) (h : HI) (a1 : Int32) (a2 : Int32) : Option (Int32 × HI) := ((fX8_isPlanTime h a2).bind fun p1 => (if p1.1 = 0 then some ((-1000000 : Int32), p1.2) else ((fX6_isAtDoor (o + 56) nh p1.2 a1).bind fun p2 => (if p2.1 = 0 then some ((-1000000 : Int32), p2.2) else ((fX6_inHall (o + 56) nh p2.2).bind fun p3 => ((fX8_bestWith o nh p3.2 (p3.1 ||| ((1 : Int32) <<< (a1 &&& 31))) a2).bind fun p4 => ((fX8_bestWith o nh p4.2 p3.1 a2).bind fun p5 => some ((p4.1 - p5.1), p5.2))))))))
set_option maxRecDepth 100000 in
set_option maxHeartbeats 4000000 in
theorem ccX8_lets {l : Launch} {sh : Sh} {adr : Nat → Nat} {r : Nat → Nat → Option Nat} {o : Nat} {hh : Nat} {hs : Nat} {rh : Nat} {ph : Nat} {nh : Nat} (hS : KS sh r hh hs rh ph nh o) {h : HI} {a1 : Int32} {a2 : Int32} {p : Int32 × HI} (H : fX8_lets o nh h a1 a2 = some p) : CC l yX8_lets cX8_lets 4 (some .int) 6 [.ref o, .int a1, .int a2] sh adr (mk h r) (fun v τ => v = some (.int p.1) ∧ ∃ r9, τ = mk p.2 r9 ∧ (r9 = r ∨ r9 = ur r (o + 65) 8 (some nh))) := by
  refine CC.of (by decide) (Nat.le_of_ble_eq_true rfl) 1 [.ref o, .int a1, .int a2, .retAddr 0] rfl (fun X _ C E hZ => ?_)
  rw [fX8_lets] at H
  refine ww_iload_n C dX8_lets_0 2 rfl rfl ?_
  obtain ⟨p1, hc1, H⟩ := bd_of H
  refine ww_callS C hZ dX8_lets_1 sw_X8_200 (ccX8_isPlanTime hc1) (by decide) rfl rfl (Nat.le_of_ble_eq_true rfl) ⟨Nat.zero_le _, Nat.zero_le _⟩ (fun v τ hp => ?_)
  obtain ⟨rfl, rfl⟩ := hp
  change WW X _ 4 [.ref o, .int a1, .int a2, .retAddr 0] [.int p1.1] _
  refine ww_if_eq C dX8_lets_4 18 rfl (fun hc => ?_) (fun hc => ?_)
  · rw [if_pos hc] at H
    refine ww_ldc (v := (-1000000 : Int32)) C dX8_lets_18 kc_X8_173 ?_
    cases H
    exact ww_iret C E dX8_lets_20 ⟨rfl, _, rfl, (Or.inl rfl)⟩
  · rw [if_neg hc] at H
    refine ww_aload_n C dX8_lets_7 0 rfl rfl ?_
    refine wk_getA C dX8_lets_8 fl_X8_55 hS.1 rfl (tX8_now hS).1 ?_
    refine ww_iload_n C dX8_lets_11 1 rfl rfl ?_
    obtain ⟨p2, hc1, H⟩ := bd_of H
    refine ww_callV C hZ dX8_lets_12 cw_X8_223 (ccX6_isAtDoor (tX8_now hS).2 hc1) (tX8_now hS).2.1 ⟨by decide, rfl⟩ (by decide) rfl rfl (Nat.le_of_ble_eq_true rfl) ⟨Nat.zero_le _, Nat.zero_le _⟩ (fun v τ hp => ?_)
    obtain ⟨rfl, rfl⟩ := hp
    change WW X _ 15 [.ref o, .int a1, .int a2, .retAddr 0] [.int p2.1] _
    refine ww_if_ne C dX8_lets_15 21 rfl (fun hc => ?_) (fun hc => ?_)
    · rw [if_neg hc] at H
      refine ww_aload_n C dX8_lets_21 0 rfl rfl ?_
      refine wk_getA C dX8_lets_22 fl_X8_55 hS.1 rfl (tX8_now hS).1 ?_
      obtain ⟨p3, hc1, H⟩ := bd_of H
      refine ww_callV C hZ dX8_lets_25 cw_X8_203 (ccX6_inHall (tX8_now hS).2 hc1) (tX8_now hS).2.1 ⟨by decide, rfl⟩ (by decide) rfl rfl (Nat.le_of_ble_eq_true rfl) ⟨Nat.zero_le _, Nat.zero_le _⟩ (fun v τ hp => ?_)
      obtain ⟨rfl, rfl⟩ := hp
      change WW X _ 28 [.ref o, .int a1, .int a2, .retAddr 0] [.int p3.1] _
      refine ww_istore_n C dX8_lets_28 3 rfl (by decide) rfl [.ref o, .int a1, .int a2, .int p3.1] rfl ?_
      refine ww_aload_n C dX8_lets_29 0 rfl rfl ?_
      refine ww_iload_n C dX8_lets_30 3 rfl rfl ?_
      refine ww_iconst (v := (1 : Int32)) C dX8_lets_31 (by decide) ?_
      refine ww_iload_n C dX8_lets_32 1 rfl rfl ?_
      refine ww_ishl C dX8_lets_33 ?_
      refine ww_ior C dX8_lets_34 ?_
      refine ww_iload_n C dX8_lets_35 2 rfl rfl ?_
      obtain ⟨p4, hc1, H⟩ := bd_of H
      refine ww_callV C hZ dX8_lets_36 cw_X8_207 (ccX8_bestWith hS hc1) hS.1 ⟨by decide, rfl⟩ (by decide) rfl rfl (Nat.le_of_ble_eq_true rfl) ⟨Nat.zero_le _, Nat.zero_le _⟩ (fun v τ hp => ?_)
      obtain ⟨rfl, rfl⟩ := hp
      have hS := KS.pl hS
      change WW X _ 39 [.ref o, .int a1, .int a2, .int p3.1] [.int p4.1] _
      refine ww_aload_n C dX8_lets_39 0 rfl rfl ?_
      refine ww_iload_n C dX8_lets_40 3 rfl rfl ?_
      refine ww_iload_n C dX8_lets_41 2 rfl rfl ?_
      obtain ⟨p5, hc1, H⟩ := bd_of H
      refine ww_callV C hZ dX8_lets_42 cw_X8_207 (ccX8_bestWith hS hc1) hS.1 ⟨by decide, rfl⟩ (by decide) rfl rfl (Nat.le_of_ble_eq_true rfl) ⟨Nat.zero_le _, Nat.zero_le _⟩ (fun v τ hp => ?_)
      obtain ⟨rfl, rfl⟩ := hp
      rw [ur_self (tX3_hall (tX8_planner hS).2).1]
      change WW X _ 45 [.ref o, .int a1, .int a2, .int p3.1] [.int p5.1, .int p4.1] _
      refine ww_isub C dX8_lets_45 ?_
      cases H
      exact ww_iret C E dX8_lets_46 ⟨rfl, _, rfl, (Or.inr rfl)⟩
    · rw [if_pos hc] at H
      refine ww_ldc (v := (-1000000 : Int32)) C dX8_lets_18 kc_X8_173 ?_
      cases H
      exact ww_iret C E dX8_lets_20 ⟨rfl, _, rfl, (Or.inl rfl)⟩
def fX8_fewest_52 (o : Nat) (nh : Nat) (k : HI → Int32 → Option (Int32 × HI)) : Nat → HI → Int32 → Int32 → Int32 → Int32 → Int32 → Int32 → Option (Int32 × HI)
  | 0, _, _, _, _, _, _, _ => none
  | n + 1, h, v1, v2, v3, v4, v5, v6 => (if v3 ≤ v6 then k h v3 else ((fX8_firstOf h v4 v6).bind fun p6 => ((fX3_search (o + 65) (o + 56) nh p6.2 v2 p6.1 v6 v1).bind fun p7 => (if p7.1 < v5 then fX8_fewest_52 o nh k n p7.2 v1 v2 v3 v4 v5 (v6 + (1 : Int32)) else some (v6, p7.2)))))
set_option maxRecDepth 100000 in
set_option maxHeartbeats 4000000 in
theorem cX8_fewest_52 {X : CT} {sh : Sh} {adr : Nat → Nat} {r : Nat → Nat → Option Nat} {RR : (Nat → Nat → Option Nat) → Prop} {o : Nat} {hh : Nat} {hs : Nat} {rh : Nat} {nh : Nat} {p : Int32 × HI} (hS : KS sh r hh hs rh nh nh o) (hRR : RR r) (C : CX X yX8_fewest.cls cX8_fewest 7 5) (hZ : SZX X adr) (E : RX X (some .int) sh adr (fun v τ => v = some (.int p.1) ∧ ∃ r9, τ = mk p.2 r9 ∧ RR r9)) {k : HI → Int32 → Option (Int32 × HI)} (hk : ∀ (h : HI) (v3 : Int32), k h v3 = some p → WW X (sh, adr, 0, 0) 94 [.ref o, .retAddr 0, .retAddr 0, .int v3, .retAddr 0, .retAddr 0, .retAddr 0] [] (mk h r)) : ∀ (n : Nat) (h : HI) (v1 : Int32) (v2 : Int32) (v3 : Int32) (v4 : Int32) (v5 : Int32) (v6 : Int32), fX8_fewest_52 o nh k n h v1 v2 v3 v4 v5 v6 = some p → WW X (sh, adr, 0, 0) 52 [.ref o, .int v1, .int v2, .int v3, .int v4, .int v5, .int v6] [] (mk h r) := by
  intro n
  induction n with
  | zero =>
    intro h v1 v2 v3 v4 v5 v6 H
    rw [fX8_fewest_52] at H
    cases H
  | succ n ih =>
    intro h v1 v2 v3 v4 v5 v6 H
    rw [fX8_fewest_52] at H
    refine ww_iload C dX8_fewest_52 rfl ?_
    refine ww_iload_n C dX8_fewest_54 3 rfl rfl ?_
    refine ww_icmp_ge C dX8_fewest_55 94 rfl (fun hc => ?_) (fun hc => ?_)
    · rw [if_pos hc] at H
      exact ww_drop [.ref o, .retAddr 0, .retAddr 0, .int v3, .retAddr 0, .retAddr 0, .retAddr 0] (sl_e (sl_d (sl_d (sl_e (sl_d (sl_d (sl_d sl_n))))))) (hk h v3 H)
    · rw [if_neg hc] at H
      refine ww_aload_n C dX8_fewest_58 0 rfl rfl ?_
      refine wk_getA C dX8_fewest_59 fl_X8_62 hS.1 rfl (tX8_planner hS).1 ?_
      refine ww_aload_n C dX8_fewest_62 0 rfl rfl ?_
      refine wk_getA C dX8_fewest_63 fl_X8_55 hS.1 rfl (tX8_now hS).1 ?_
      refine ww_iload_n C dX8_fewest_66 2 rfl rfl ?_
      refine ww_iload C dX8_fewest_67 rfl ?_
      refine ww_iload C dX8_fewest_69 rfl ?_
      obtain ⟨p6, hc1, H⟩ := bd_of H
      refine ww_callS C hZ dX8_fewest_71 sw_X8_220 (ccX8_firstOf hc1) (by decide) rfl rfl (Nat.le_of_ble_eq_true rfl) ⟨Nat.zero_le _, Nat.zero_le _⟩ (fun v τ hp => ?_)
      obtain ⟨rfl, rfl⟩ := hp
      change WW X _ 74 [.ref o, .int v1, .int v2, .int v3, .int v4, .int v5, .int v6] [.int p6.1, .int v2, .ref (o + 56), .ref (o + 65)] _
      refine ww_iload C dX8_fewest_74 rfl ?_
      refine ww_iload_n C dX8_fewest_76 1 rfl rfl ?_
      obtain ⟨p7, hc1, H⟩ := bd_of H
      refine ww_callV C hZ dX8_fewest_77 cw_X8_216 (ccX3_search (tX8_planner hS).2 (tX8_now hS).2 hc1) (tX8_planner hS).2.1 ⟨by decide, rfl⟩ (by decide) rfl rfl (Nat.le_of_ble_eq_true rfl) ⟨Nat.zero_le _, Nat.zero_le _⟩ (fun v τ hp => ?_)
      obtain ⟨rfl, rfl⟩ := hp
      rw [ur_self (tX3_hall (tX8_planner hS).2).1]
      change WW X _ 80 [.ref o, .int v1, .int v2, .int v3, .int v4, .int v5, .int v6] [.int p7.1] _
      refine ww_iload C dX8_fewest_80 rfl ?_
      refine ww_icmp_lt C dX8_fewest_82 88 rfl (fun hc => ?_) (fun hc => ?_)
      · rw [if_pos hc] at H
        refine ww_iinc (v := (v6 + (1 : Int32))) C dX8_fewest_88 rfl rfl (by decide) rfl [.ref o, .int v1, .int v2, .int v3, .int v4, .int v5, .int (v6 + (1 : Int32))] rfl ?_
        refine ww_goto C dX8_fewest_91 52 rfl ?_
        exact ih p7.2 v1 v2 v3 v4 v5 (v6 + (1 : Int32)) H
      · rw [if_neg hc] at H
        refine ww_iload C dX8_fewest_85 rfl ?_
        cases H
        exact ww_iret C E dX8_fewest_87 ⟨rfl, _, rfl, hRR⟩
def fX8_fewest (o : Nat) (nh : Nat) (h : HI) (a1 : Int32) : Option (Int32 × HI) := ((fX8_isPlanTime h a1).bind fun p1 => (if p1.1 = 0 then some ((-1 : Int32), p1.2) else ((fX6_inHall (o + 56) nh p1.2).bind fun p2 => ((fJ6_bitCount_0f7a4 p2.2 p2.1).bind fun p3 => ((fX6_onSeats (o + 56) nh p3.2).bind fun p4 => ((fX3_search (o + 65) (o + 56) nh p4.2 p2.1 p4.1 p3.1 a1).bind fun p5 => fX8_fewest_52 o nh (fun h9 v3 => some (v3, h9)) FU p5.2 a1 p2.1 p3.1 p4.1 p5.1 (0 : Int32)))))))
set_option maxRecDepth 100000 in
set_option maxHeartbeats 4000000 in
theorem ccX8_fewest {l : Launch} {sh : Sh} {adr : Nat → Nat} {r : Nat → Nat → Option Nat} {o : Nat} {hh : Nat} {hs : Nat} {rh : Nat} {ph : Nat} {nh : Nat} (hS : KS sh r hh hs rh ph nh o) {h : HI} {a1 : Int32} {p : Int32 × HI} (H : fX8_fewest o nh h a1 = some p) : CC l yX8_fewest cX8_fewest 7 (some .int) 5 [.ref o, .int a1] sh adr (mk h r) (fun v τ => v = some (.int p.1) ∧ ∃ r9, τ = mk p.2 r9 ∧ (r9 = r ∨ r9 = ur r (o + 65) 8 (some nh))) := by
  refine CC.of (by decide) (Nat.le_of_ble_eq_true rfl) 5 [.ref o, .int a1, .retAddr 0, .retAddr 0, .retAddr 0, .retAddr 0, .retAddr 0] rfl (fun X _ C E hZ => ?_)
  rw [fX8_fewest] at H
  refine ww_iload_n C dX8_fewest_0 1 rfl rfl ?_
  obtain ⟨p1, hc1, H⟩ := bd_of H
  refine ww_callS C hZ dX8_fewest_1 sw_X8_200 (ccX8_isPlanTime hc1) (by decide) rfl rfl (Nat.le_of_ble_eq_true rfl) ⟨Nat.zero_le _, Nat.zero_le _⟩ (fun v τ hp => ?_)
  obtain ⟨rfl, rfl⟩ := hp
  change WW X _ 4 [.ref o, .int a1, .retAddr 0, .retAddr 0, .retAddr 0, .retAddr 0, .retAddr 0] [.int p1.1] _
  refine ww_if_ne C dX8_fewest_4 9 rfl (fun hc => ?_) (fun hc => ?_)
  · rw [if_neg hc] at H
    refine ww_aload_n C dX8_fewest_9 0 rfl rfl ?_
    refine wk_getA C dX8_fewest_10 fl_X8_55 hS.1 rfl (tX8_now hS).1 ?_
    obtain ⟨p2, hc1, H⟩ := bd_of H
    refine ww_callV C hZ dX8_fewest_13 cw_X8_203 (ccX6_inHall (tX8_now hS).2 hc1) (tX8_now hS).2.1 ⟨by decide, rfl⟩ (by decide) rfl rfl (Nat.le_of_ble_eq_true rfl) ⟨Nat.zero_le _, Nat.zero_le _⟩ (fun v τ hp => ?_)
    obtain ⟨rfl, rfl⟩ := hp
    change WW X _ 16 [.ref o, .int a1, .retAddr 0, .retAddr 0, .retAddr 0, .retAddr 0, .retAddr 0] [.int p2.1] _
    refine ww_istore_n C dX8_fewest_16 2 rfl (by decide) rfl [.ref o, .int a1, .int p2.1, .retAddr 0, .retAddr 0, .retAddr 0, .retAddr 0] rfl ?_
    refine ww_iload_n C dX8_fewest_17 2 rfl rfl ?_
    obtain ⟨p3, hc1, H⟩ := bd_of H
    refine ww_callS C hZ dX8_fewest_18 sw_X8_183 (ccJ6_bitCount_0f7a4 hc1) (by decide) rfl rfl (Nat.le_of_ble_eq_true rfl) ⟨Nat.zero_le _, Nat.zero_le _⟩ (fun v τ hp => ?_)
    obtain ⟨rfl, rfl⟩ := hp
    change WW X _ 21 [.ref o, .int a1, .int p2.1, .retAddr 0, .retAddr 0, .retAddr 0, .retAddr 0] [.int p3.1] _
    refine ww_istore_n C dX8_fewest_21 3 rfl (by decide) rfl [.ref o, .int a1, .int p2.1, .int p3.1, .retAddr 0, .retAddr 0, .retAddr 0] rfl ?_
    refine ww_aload_n C dX8_fewest_22 0 rfl rfl ?_
    refine wk_getA C dX8_fewest_23 fl_X8_55 hS.1 rfl (tX8_now hS).1 ?_
    obtain ⟨p4, hc1, H⟩ := bd_of H
    refine ww_callV C hZ dX8_fewest_26 cw_X8_213 (ccX6_onSeats (tX8_now hS).2 hc1) (tX8_now hS).2.1 ⟨by decide, rfl⟩ (by decide) rfl rfl (Nat.le_of_ble_eq_true rfl) ⟨Nat.zero_le _, Nat.zero_le _⟩ (fun v τ hp => ?_)
    obtain ⟨rfl, rfl⟩ := hp
    change WW X _ 29 [.ref o, .int a1, .int p2.1, .int p3.1, .retAddr 0, .retAddr 0, .retAddr 0] [.int p4.1] _
    refine ww_istore C dX8_fewest_29 (by decide) rfl [.ref o, .int a1, .int p2.1, .int p3.1, .int p4.1, .retAddr 0, .retAddr 0] rfl ?_
    refine ww_aload_n C dX8_fewest_31 0 rfl rfl ?_
    refine wk_getA C dX8_fewest_32 fl_X8_62 hS.1 rfl (tX8_planner hS).1 ?_
    refine ww_aload_n C dX8_fewest_35 0 rfl rfl ?_
    refine wk_getA C dX8_fewest_36 fl_X8_55 hS.1 rfl (tX8_now hS).1 ?_
    refine ww_iload_n C dX8_fewest_39 2 rfl rfl ?_
    refine ww_iload C dX8_fewest_40 rfl ?_
    refine ww_iload_n C dX8_fewest_42 3 rfl rfl ?_
    refine ww_iload_n C dX8_fewest_43 1 rfl rfl ?_
    obtain ⟨p5, hc1, H⟩ := bd_of H
    refine ww_callV C hZ dX8_fewest_44 cw_X8_216 (ccX3_search (tX8_planner hS).2 (tX8_now hS).2 hc1) (tX8_planner hS).2.1 ⟨by decide, rfl⟩ (by decide) rfl rfl (Nat.le_of_ble_eq_true rfl) ⟨Nat.zero_le _, Nat.zero_le _⟩ (fun v τ hp => ?_)
    obtain ⟨rfl, rfl⟩ := hp
    have hS := KS.pl hS
    change WW X _ 47 [.ref o, .int a1, .int p2.1, .int p3.1, .int p4.1, .retAddr 0, .retAddr 0] [.int p5.1] _
    refine ww_istore C dX8_fewest_47 (by decide) rfl [.ref o, .int a1, .int p2.1, .int p3.1, .int p4.1, .int p5.1, .retAddr 0] rfl ?_
    refine ww_iconst (v := (0 : Int32)) C dX8_fewest_49 (by decide) ?_
    refine ww_istore C dX8_fewest_50 (by decide) rfl [.ref o, .int a1, .int p2.1, .int p3.1, .int p4.1, .int p5.1, .int (0 : Int32)] rfl ?_
    refine cX8_fewest_52 hS (Or.inr rfl) C hZ E (fun h9 v3 H => ?_) FU p5.2 a1 p2.1 p3.1 p4.1 p5.1 (0 : Int32) H
    refine ww_iload_n C dX8_fewest_94 3 rfl rfl ?_
    cases H
    exact ww_iret C E dX8_fewest_95 ⟨rfl, _, rfl, (Or.inr rfl)⟩
  · rw [if_pos hc] at H
    refine ww_iconst (v := (-1 : Int32)) C dX8_fewest_7 (by decide) ?_
    cases H
    exact ww_iret C E dX8_fewest_8 ⟨rfl, _, rfl, (Or.inl rfl)⟩
