def fX4_byteAt (o : Nat) (tt : Nat) (h : HI) (a1 : Int32) : Option (Int32 × HI) := (if a1 < 0 then some ((0 : Int32), h) else (if (h.1 tt 1) ≤ a1 then some ((0 : Int32), h) else (if (1700 : Int32) ≤ a1 then some ((0 : Int32), h) else (if inB a1 1700 then some (((h.1 (tt + 1) (a1.toNatClampNeg)) &&& (255 : Int32)), h) else none))))
set_option maxRecDepth 100000 in
set_option maxHeartbeats 4000000 in
theorem ccX4_byteAt {l : Launch} {sh : Sh} {adr : Nat → Nat} {r : Nat → Nat → Option Nat} {o : Nat} {tt : Nat} {hh : Nat} (hS : ES sh r tt hh o) {h : HI} {a1 : Int32} {p : Int32 × HI} (H : fX4_byteAt o tt h a1 = some p) : CC l yX4_byteAt cX4_byteAt 2 (some .int) 0 [.ref o, .int a1] sh adr (mk h r) (fun v τ => v = some (.int p.1) ∧ τ = mk p.2 r) := by
  refine CC.of (by decide) (Nat.le_of_ble_eq_true rfl) 0 [.ref o, .int a1] rfl (fun X _ C E hZ => ?_)
  rw [fX4_byteAt] at H
  refine ww_iload_n C dX4_byteAt_0 1 rfl rfl ?_
  refine ww_if_lt C dX4_byteAt_1 38 rfl (fun hc => ?_) (fun hc => ?_)
  · rw [if_pos hc] at H
    refine ww_iconst (v := (0 : Int32)) C dX4_byteAt_38 (by decide) ?_
    cases H
    exact ww_iret C E dX4_byteAt_39 ⟨rfl, rfl⟩
  · rw [if_neg hc] at H
    refine ww_iload_n C dX4_byteAt_4 1 rfl rfl ?_
    refine ww_aload_n C dX4_byteAt_5 0 rfl rfl ?_
    refine wk_getA C dX4_byteAt_6 fl_X4_24 hS.1 rfl (tX4_tape hS).1 ?_
    refine wk_getI C dX4_byteAt_9 fl_X4_72 (tX4_tape hS).2.1 rfl ?_
    refine ww_icmp_ge C dX4_byteAt_12 38 rfl (fun hc => ?_) (fun hc => ?_)
    · rw [if_pos hc] at H
      refine ww_iconst (v := (0 : Int32)) C dX4_byteAt_38 (by decide) ?_
      cases H
      exact ww_iret C E dX4_byteAt_39 ⟨rfl, rfl⟩
    · rw [if_neg hc] at H
      refine ww_iload_n C dX4_byteAt_15 1 rfl rfl ?_
      refine ww_sipush (v := (1700 : Int32)) C dX4_byteAt_16 (by decide) ?_
      refine ww_icmp_ge C dX4_byteAt_19 38 rfl (fun hc => ?_) (fun hc => ?_)
      · rw [if_pos hc] at H
        refine ww_iconst (v := (0 : Int32)) C dX4_byteAt_38 (by decide) ?_
        cases H
        exact ww_iret C E dX4_byteAt_39 ⟨rfl, rfl⟩
      · rw [if_neg hc] at H
        refine ww_aload_n C dX4_byteAt_22 0 rfl rfl ?_
        refine wk_getA C dX4_byteAt_23 fl_X4_24 hS.1 rfl (tX4_tape hS).1 ?_
        refine wk_getR C dX4_byteAt_26 fl_X4_76 (tX4_tape hS).2.1 rfl (tX7_bytes (tX4_tape hS).2).1 ?_
        refine ww_iload_n C dX4_byteAt_29 1 rfl rfl ?_
        obtain ⟨hg, H⟩ := gd_of H
        refine wk_baload C dX4_byteAt_30 (tX7_bytes (tX4_tape hS).2).2.1 (vp_of hg (tX7_bytes (tX4_tape hS).2).2.2) (a1.toNatClampNeg) rfl ?_
        refine ww_sipush (v := (255 : Int32)) C dX4_byteAt_31 (by decide) ?_
        refine ww_iand C dX4_byteAt_34 ?_
        refine ww_goto C dX4_byteAt_35 39 rfl ?_
        cases H
        exact ww_iret C E dX4_byteAt_39 ⟨rfl, rfl⟩
def fX4_refuseAt (o : Nat) (h : HI) (a1 : Int32) (a2 : Int32) : Option (HI) := (if (h.1 o 8) = 0 then some (uI (uI h o 8 a1) o 9 a2) else some h)
set_option maxRecDepth 100000 in
set_option maxHeartbeats 4000000 in
theorem ccX4_refuseAt {l : Launch} {sh : Sh} {adr : Nat → Nat} {r : Nat → Nat → Option Nat} {o : Nat} {tt : Nat} {hh : Nat} (hS : ES sh r tt hh o) {h : HI} {a1 : Int32} {a2 : Int32} {p : HI} (H : fX4_refuseAt o h a1 a2 = some p) : CC l yX4_refuseAt cX4_refuseAt 3 none 0 [.ref o, .int a1, .int a2] sh adr (mk h r) (fun v τ => v = none ∧ τ = mk p r) := by
  refine CC.of (by decide) (Nat.le_of_ble_eq_true rfl) 0 [.ref o, .int a1, .int a2] rfl (fun X _ C E hZ => ?_)
  rw [fX4_refuseAt] at H
  refine ww_aload_n C dX4_refuseAt_0 0 rfl rfl ?_
  refine wk_getI C dX4_refuseAt_1 fl_X4_60 hS.1 rfl ?_
  refine ww_if_ne C dX4_refuseAt_4 17 rfl (fun hc => ?_) (fun hc => ?_)
  · rw [if_neg hc] at H
    cases H
    exact ww_vret C E dX4_refuseAt_17 ⟨rfl, rfl⟩
  · rw [if_pos hc] at H
    refine ww_aload_n C dX4_refuseAt_7 0 rfl rfl ?_
    refine ww_iload_n C dX4_refuseAt_8 1 rfl rfl ?_
    refine wk_putI C dX4_refuseAt_9 fl_X4_60 hS.1 rfl rfl ?_
    refine ww_aload_n C dX4_refuseAt_12 0 rfl rfl ?_
    refine ww_iload_n C dX4_refuseAt_13 2 rfl rfl ?_
    refine wk_putI C dX4_refuseAt_14 fl_X4_20 hS.1 rfl rfl ?_
    cases H
    exact ww_vret C E dX4_refuseAt_17 ⟨rfl, rfl⟩
def fX4_readNumber_14 (o : Nat) (tt : Nat) (k : HI → Int32 → Option (HI)) : Nat → HI → Int32 → Option (HI)
  | 0, _, _ => none
  | n + 1, h, v1 => (if (h.1 tt 1) ≤ (h.1 o 3) then k h v1 else (if v1 < (48 : Int32) then k h v1 else (if (57 : Int32) < v1 then k h v1 else ((fX4_byteAt o tt (uI (uI h o 6 ((((h.1 o 6) * (10 : Int32)) + v1) - (48 : Int32))) o 3 ((h.1 o 3) + (1 : Int32))) ((h.1 o 3) + (1 : Int32))).bind fun p2 => fX4_readNumber_14 o tt k n p2.2 p2.1))))
set_option maxRecDepth 100000 in
set_option maxHeartbeats 4000000 in
theorem cX4_readNumber_14 {X : CT} {sh : Sh} {adr : Nat → Nat} {r : Nat → Nat → Option Nat} {o : Nat} {tt : Nat} {hh : Nat} {p : HI} (hS : ES sh r tt hh o) (C : CX X yX4_readNumber.cls cX4_readNumber 2 1) (hZ : SZX X adr) (E : RX X none sh adr (fun v τ => v = none ∧ τ = mk p r)) {k : HI → Int32 → Option (HI)} (hk : ∀ (h : HI) (v1 : Int32), k h v1 = some p → WW X (sh, adr, 0, 0) 78 [.ref o, .int v1] [] (mk h r)) : ∀ (n : Nat) (h : HI) (v1 : Int32), fX4_readNumber_14 o tt k n h v1 = some p → WW X (sh, adr, 0, 0) 14 [.ref o, .int v1] [] (mk h r) := by
  intro n
  induction n with
  | zero =>
    intro h v1 H
    rw [fX4_readNumber_14] at H
    cases H
  | succ n ih =>
    intro h v1 H
    rw [fX4_readNumber_14] at H
    refine ww_aload_n C dX4_readNumber_14 0 rfl rfl ?_
    refine wk_getI C dX4_readNumber_15 fl_X4_57 hS.1 rfl ?_
    refine ww_aload_n C dX4_readNumber_18 0 rfl rfl ?_
    refine wk_getA C dX4_readNumber_19 fl_X4_24 hS.1 rfl (tX4_tape hS).1 ?_
    refine wk_getI C dX4_readNumber_22 fl_X4_72 (tX4_tape hS).2.1 rfl ?_
    refine ww_icmp_ge C dX4_readNumber_25 78 rfl (fun hc => ?_) (fun hc => ?_)
    · rw [if_pos hc] at H
      exact hk h v1 H
    · rw [if_neg hc] at H
      refine ww_iload_n C dX4_readNumber_28 1 rfl rfl ?_
      refine ww_bipush (v := (48 : Int32)) C dX4_readNumber_29 (by decide) ?_
      refine ww_icmp_lt C dX4_readNumber_31 78 rfl (fun hc => ?_) (fun hc => ?_)
      · rw [if_pos hc] at H
        exact hk h v1 H
      · rw [if_neg hc] at H
        refine ww_iload_n C dX4_readNumber_34 1 rfl rfl ?_
        refine ww_bipush (v := (57 : Int32)) C dX4_readNumber_35 (by decide) ?_
        refine ww_icmp_gt C dX4_readNumber_37 78 rfl (fun hc => ?_) (fun hc => ?_)
        · rw [if_pos hc] at H
          exact hk h v1 H
        · rw [if_neg hc] at H
          refine ww_aload_n C dX4_readNumber_40 0 rfl rfl ?_
          refine ww_aload_n C dX4_readNumber_41 0 rfl rfl ?_
          refine wk_getI C dX4_readNumber_42 fl_X4_113 hS.1 rfl ?_
          refine ww_bipush (v := (10 : Int32)) C dX4_readNumber_45 (by decide) ?_
          refine ww_imul C dX4_readNumber_47 ?_
          refine ww_iload_n C dX4_readNumber_48 1 rfl rfl ?_
          refine ww_iadd C dX4_readNumber_49 ?_
          refine ww_bipush (v := (48 : Int32)) C dX4_readNumber_50 (by decide) ?_
          refine ww_isub C dX4_readNumber_52 ?_
          refine wk_putI C dX4_readNumber_53 fl_X4_113 hS.1 rfl rfl ?_
          refine ww_aload_n C dX4_readNumber_56 0 rfl rfl ?_
          refine ww_dup C dX4_readNumber_57 rfl ?_
          refine wk_getI C dX4_readNumber_58 fl_X4_57 hS.1 rfl ?_
          refine ww_as (v := (h.1 o 3)) (by rw [uI_n (by omega)]) ?_
          refine ww_iconst (v := (1 : Int32)) C dX4_readNumber_61 (by decide) ?_
          refine ww_iadd C dX4_readNumber_62 ?_
          refine wk_putI C dX4_readNumber_63 fl_X4_57 hS.1 rfl rfl ?_
          refine ww_aload_n C dX4_readNumber_66 0 rfl rfl ?_
          refine ww_aload_n C dX4_readNumber_67 0 rfl rfl ?_
          refine wk_getI C dX4_readNumber_68 fl_X4_57 hS.1 rfl ?_
          refine ww_as (v := ((h.1 o 3) + (1 : Int32))) (by rw [uI_s]) ?_
          obtain ⟨p2, hc1, H⟩ := bd_of H
          refine ww_callV C hZ dX4_readNumber_71 cw_X4_80 (ccX4_byteAt hS hc1) hS.1 ⟨by decide, rfl⟩ (by decide) rfl rfl (Nat.le_of_ble_eq_true rfl) ⟨Nat.zero_le _, Nat.zero_le _⟩ (fun v τ hp => ?_)
          obtain ⟨rfl, rfl⟩ := hp
          change WW X _ 74 [.ref o, .int v1] [.int p2.1] _
          refine ww_istore_n C dX4_readNumber_74 1 rfl (by decide) rfl [.ref o, .int p2.1] rfl ?_
          refine ww_goto C dX4_readNumber_75 14 rfl ?_
          exact ih p2.2 p2.1 H
def fX4_readNumber_108 (o : Nat) (tt : Nat) (h : HI) : Option (HI) := ((fX4_refuseAt o h (1 : Int32) (h.1 o 5)).bind fun h5 => some h5)
set_option maxRecDepth 100000 in
set_option maxHeartbeats 4000000 in
theorem cX4_readNumber_108 {X : CT} {sh : Sh} {adr : Nat → Nat} {r : Nat → Nat → Option Nat} {o : Nat} {tt : Nat} {hh : Nat} {p : HI} (hS : ES sh r tt hh o) (C : CX X yX4_readNumber.cls cX4_readNumber 2 1) (hZ : SZX X adr) (E : RX X none sh adr (fun v τ => v = none ∧ τ = mk p r)) {h : HI} (H : fX4_readNumber_108 o tt h = some p) : WW X (sh, adr, 0, 0) 108 [.ref o, .retAddr 0] [] (mk h r) := by
  rw [fX4_readNumber_108] at H
  refine ww_aload_n C dX4_readNumber_108 0 rfl rfl ?_
  refine ww_iconst (v := (1 : Int32)) C dX4_readNumber_109 (by decide) ?_
  refine ww_aload_n C dX4_readNumber_110 0 rfl rfl ?_
  refine wk_getI C dX4_readNumber_111 fl_X4_84 hS.1 rfl ?_
  obtain ⟨h5, hc1, H⟩ := bd_of H
  refine ww_callV C hZ dX4_readNumber_114 cw_X4_105 (ccX4_refuseAt hS hc1) hS.1 ⟨by decide, rfl⟩ (by decide) rfl rfl (Nat.le_of_ble_eq_true rfl) ⟨Nat.zero_le _, Nat.zero_le _⟩ (fun v τ hp => ?_)
  obtain ⟨rfl, rfl⟩ := hp
  change WW X _ 117 [.ref o, .retAddr 0] [] _
  cases H
  exact ww_vret C E dX4_readNumber_117 ⟨rfl, rfl⟩
def fX4_readNumber_78 (o : Nat) (tt : Nat) (h : HI) (v1 : Int32) : Option (HI) := (if (4 : Int32) < ((h.1 o 3) - (h.1 o 5)) then fX4_readNumber_108 o tt (uI h o 4 (2 : Int32)) else (if v1 < (97 : Int32) then some (uI h o 4 (2 : Int32)) else (if (122 : Int32) < v1 then some (uI h o 4 (2 : Int32)) else fX4_readNumber_108 o tt (uI h o 4 (2 : Int32)))))
set_option maxRecDepth 100000 in
set_option maxHeartbeats 4000000 in
theorem cX4_readNumber_78 {X : CT} {sh : Sh} {adr : Nat → Nat} {r : Nat → Nat → Option Nat} {o : Nat} {tt : Nat} {hh : Nat} {p : HI} (hS : ES sh r tt hh o) (C : CX X yX4_readNumber.cls cX4_readNumber 2 1) (hZ : SZX X adr) (E : RX X none sh adr (fun v τ => v = none ∧ τ = mk p r)) {h : HI} {v1 : Int32} (H : fX4_readNumber_78 o tt h v1 = some p) : WW X (sh, adr, 0, 0) 78 [.ref o, .int v1] [] (mk h r) := by
  rw [fX4_readNumber_78] at H
  refine ww_aload_n C dX4_readNumber_78 0 rfl rfl ?_
  refine ww_iconst (v := (2 : Int32)) C dX4_readNumber_79 (by decide) ?_
  refine wk_putI C dX4_readNumber_80 fl_X4_66 hS.1 rfl rfl ?_
  refine ww_aload_n C dX4_readNumber_83 0 rfl rfl ?_
  refine wk_getI C dX4_readNumber_84 fl_X4_57 hS.1 rfl ?_
  refine ww_as (v := (h.1 o 3)) (by rw [uI_n (by omega)]) ?_
  refine ww_aload_n C dX4_readNumber_87 0 rfl rfl ?_
  refine wk_getI C dX4_readNumber_88 fl_X4_84 hS.1 rfl ?_
  refine ww_as (v := (h.1 o 5)) (by rw [uI_n (by omega)]) ?_
  refine ww_isub C dX4_readNumber_91 ?_
  refine ww_iconst (v := (4 : Int32)) C dX4_readNumber_92 (by decide) ?_
  refine ww_icmp_gt C dX4_readNumber_93 108 rfl (fun hc => ?_) (fun hc => ?_)
  · rw [if_pos hc] at H
    exact ww_drop [.ref o, .retAddr 0] (sl_e (sl_d sl_n)) (cX4_readNumber_108 hS C hZ E H)
  · rw [if_neg hc] at H
    refine ww_iload_n C dX4_readNumber_96 1 rfl rfl ?_
    refine ww_bipush (v := (97 : Int32)) C dX4_readNumber_97 (by decide) ?_
    refine ww_icmp_lt C dX4_readNumber_99 117 rfl (fun hc => ?_) (fun hc => ?_)
    · rw [if_pos hc] at H
      cases H
      exact ww_vret C E dX4_readNumber_117 ⟨rfl, rfl⟩
    · rw [if_neg hc] at H
      refine ww_iload_n C dX4_readNumber_102 1 rfl rfl ?_
      refine ww_bipush (v := (122 : Int32)) C dX4_readNumber_103 (by decide) ?_
      refine ww_icmp_gt C dX4_readNumber_105 117 rfl (fun hc => ?_) (fun hc => ?_)
      · rw [if_pos hc] at H
        cases H
        exact ww_vret C E dX4_readNumber_117 ⟨rfl, rfl⟩
      · rw [if_neg hc] at H
        exact ww_drop [.ref o, .retAddr 0] (sl_e (sl_d sl_n)) (cX4_readNumber_108 hS C hZ E H)
def fX4_readNumber (o : Nat) (tt : Nat) (h : HI) : Option (HI) := ((fX4_byteAt o tt (uI h o 6 (0 : Int32)) (h.1 o 3)).bind fun p1 => fX4_readNumber_14 o tt (fun h4 v1 => fX4_readNumber_78 o tt h4 v1) FU p1.2 p1.1)
set_option maxRecDepth 100000 in
set_option maxHeartbeats 4000000 in
theorem ccX4_readNumber {l : Launch} {sh : Sh} {adr : Nat → Nat} {r : Nat → Nat → Option Nat} {o : Nat} {tt : Nat} {hh : Nat} (hS : ES sh r tt hh o) {h : HI}  {p : HI} (H : fX4_readNumber o tt h = some p) : CC l yX4_readNumber cX4_readNumber 2 none 1 [.ref o] sh adr (mk h r) (fun v τ => v = none ∧ τ = mk p r) := by
  refine CC.of (by decide) (Nat.le_of_ble_eq_true rfl) 1 [.ref o, .retAddr 0] rfl (fun X _ C E hZ => ?_)
  rw [fX4_readNumber] at H
  refine ww_aload_n C dX4_readNumber_0 0 rfl rfl ?_
  refine ww_iconst (v := (0 : Int32)) C dX4_readNumber_1 (by decide) ?_
  refine wk_putI C dX4_readNumber_2 fl_X4_113 hS.1 rfl rfl ?_
  refine ww_aload_n C dX4_readNumber_5 0 rfl rfl ?_
  refine ww_aload_n C dX4_readNumber_6 0 rfl rfl ?_
  refine wk_getI C dX4_readNumber_7 fl_X4_57 hS.1 rfl ?_
  refine ww_as (v := (h.1 o 3)) (by rw [uI_n (by omega)]) ?_
  obtain ⟨p1, hc1, H⟩ := bd_of H
  refine ww_callV C hZ dX4_readNumber_10 cw_X4_80 (ccX4_byteAt hS hc1) hS.1 ⟨by decide, rfl⟩ (by decide) rfl rfl (Nat.le_of_ble_eq_true rfl) ⟨Nat.zero_le _, Nat.zero_le _⟩ (fun v τ hp => ?_)
  obtain ⟨rfl, rfl⟩ := hp
  change WW X _ 13 [.ref o, .retAddr 0] [.int p1.1] _
  refine ww_istore_n C dX4_readNumber_13 1 rfl (by decide) rfl [.ref o, .int p1.1] rfl ?_
  refine cX4_readNumber_14 hS C hZ E (fun h4 v1 H => ?_) FU p1.2 p1.1 H
  exact cX4_readNumber_78 hS C hZ E H
def fX4_withLetter (h : HI) (a0 : Int64) (a2 : Int32) : Option (Int64 × HI) := some (((a0 <<< ((5 : Int32).toInt64 &&& 63)) ||| (((a2 - (97 : Int32)) + (1 : Int32)).toInt64)), h)
set_option maxRecDepth 100000 in
set_option maxHeartbeats 4000000 in
theorem ccX4_withLetter {l : Launch} {sh : Sh} {adr : Nat → Nat} {r : Nat → Nat → Option Nat} {h : HI} {a0 : Int64} {a2 : Int32} {p : Int64 × HI} (H : fX4_withLetter h a0 a2 = some p) : CC l yX4_withLetter cX4_withLetter 3 (some .long) 0 [.long a0, .int a2] sh adr (mk h r) (fun v τ => v = some (.long p.1) ∧ τ = mk p.2 r) := by
  refine CC.of (by decide) (Nat.le_of_ble_eq_true rfl) 0 [.long a0, .retAddr 0, .int a2] rfl (fun X _ C E hZ => ?_)
  rw [fX4_withLetter] at H
  refine ww_lload_n C dX4_withLetter_0 0 rfl rfl ?_
  refine ww_iconst (v := (5 : Int32)) C dX4_withLetter_1 (by decide) ?_
  refine ww_lshl C dX4_withLetter_2 ?_
  refine ww_iload_n C dX4_withLetter_3 2 rfl rfl ?_
  refine ww_bipush (v := (97 : Int32)) C dX4_withLetter_4 (by decide) ?_
  refine ww_isub C dX4_withLetter_6 ?_
  refine ww_iconst (v := (1 : Int32)) C dX4_withLetter_7 (by decide) ?_
  refine ww_iadd C dX4_withLetter_8 ?_
  refine ww_i2l C dX4_withLetter_9 ?_
  refine ww_lor C dX4_withLetter_10 ?_
  cases H
  exact ww_lret C E dX4_withLetter_11 ⟨rfl, rfl⟩
def fX4_readWord_14 (o : Nat) (tt : Nat) (k : HI → Option (HI)) : Nat → HI → Int32 → Option (HI)
  | 0, _, _ => none
  | n + 1, h, v1 => (if (h.1 tt 1) ≤ (h.1 o 3) then k h else (if v1 < (97 : Int32) then k h else (if (122 : Int32) < v1 then k h else ((fX4_withLetter h (h.2 o 7) v1).bind fun p2 => ((fX4_byteAt o tt (uI (uL p2.2 o 7 p2.1) o 3 ((p2.2.1 o 3) + (1 : Int32))) ((p2.2.1 o 3) + (1 : Int32))).bind fun p3 => fX4_readWord_14 o tt k n p3.2 p3.1)))))
set_option maxRecDepth 100000 in
set_option maxHeartbeats 4000000 in
theorem cX4_readWord_14 {X : CT} {sh : Sh} {adr : Nat → Nat} {r : Nat → Nat → Option Nat} {o : Nat} {tt : Nat} {hh : Nat} {p : HI} (hS : ES sh r tt hh o) (C : CX X yX4_readWord.cls cX4_readWord 3 1) (hZ : SZX X adr) (E : RX X none sh adr (fun v τ => v = none ∧ τ = mk p r)) {k : HI → Option (HI)} (hk : ∀ (h : HI), k h = some p → WW X (sh, adr, 0, 0) 74 [.ref o, .retAddr 0, .retAddr 0] [] (mk h r)) : ∀ (n : Nat) (h : HI) (v1 : Int32), fX4_readWord_14 o tt k n h v1 = some p → WW X (sh, adr, 0, 0) 14 [.ref o, .int v1, .retAddr 0] [] (mk h r) := by
  intro n
  induction n with
  | zero =>
    intro h v1 H
    rw [fX4_readWord_14] at H
    cases H
  | succ n ih =>
    intro h v1 H
    rw [fX4_readWord_14] at H
    refine ww_aload_n C dX4_readWord_14 0 rfl rfl ?_
    refine wk_getI C dX4_readWord_15 fl_X4_57 hS.1 rfl ?_
    refine ww_aload_n C dX4_readWord_18 0 rfl rfl ?_
    refine wk_getA C dX4_readWord_19 fl_X4_24 hS.1 rfl (tX4_tape hS).1 ?_
    refine wk_getI C dX4_readWord_22 fl_X4_72 (tX4_tape hS).2.1 rfl ?_
    refine ww_icmp_ge C dX4_readWord_25 74 rfl (fun hc => ?_) (fun hc => ?_)
    · rw [if_pos hc] at H
      exact ww_drop [.ref o, .retAddr 0, .retAddr 0] (sl_e (sl_d (sl_e sl_n))) (hk h H)
    · rw [if_neg hc] at H
      refine ww_iload_n C dX4_readWord_28 1 rfl rfl ?_
      refine ww_bipush (v := (97 : Int32)) C dX4_readWord_29 (by decide) ?_
      refine ww_icmp_lt C dX4_readWord_31 74 rfl (fun hc => ?_) (fun hc => ?_)
      · rw [if_pos hc] at H
        exact ww_drop [.ref o, .retAddr 0, .retAddr 0] (sl_e (sl_d (sl_e sl_n))) (hk h H)
      · rw [if_neg hc] at H
        refine ww_iload_n C dX4_readWord_34 1 rfl rfl ?_
        refine ww_bipush (v := (122 : Int32)) C dX4_readWord_35 (by decide) ?_
        refine ww_icmp_gt C dX4_readWord_37 74 rfl (fun hc => ?_) (fun hc => ?_)
        · rw [if_pos hc] at H
          exact ww_drop [.ref o, .retAddr 0, .retAddr 0] (sl_e (sl_d (sl_e sl_n))) (hk h H)
        · rw [if_neg hc] at H
          refine ww_aload_n C dX4_readWord_40 0 rfl rfl ?_
          refine ww_aload_n C dX4_readWord_41 0 rfl rfl ?_
          refine wk_getJ C dX4_readWord_42 fl_X4_101 hS.1 rfl ?_
          refine ww_iload_n C dX4_readWord_45 1 rfl rfl ?_
          obtain ⟨p2, hc1, H⟩ := bd_of H
          refine ww_callS C hZ dX4_readWord_46 sw_X4_48 (ccX4_withLetter hc1) (by decide) rfl rfl (Nat.le_of_ble_eq_true rfl) ⟨Nat.zero_le _, Nat.zero_le _⟩ (fun v τ hp => ?_)
          obtain ⟨rfl, rfl⟩ := hp
          change WW X _ 49 [.ref o, .int v1, .retAddr 0] [.long p2.1, .ref o] _
          refine wk_putJ C dX4_readWord_49 fl_X4_101 hS.1 rfl rfl ?_
          refine ww_aload_n C dX4_readWord_52 0 rfl rfl ?_
          refine ww_dup C dX4_readWord_53 rfl ?_
          refine wk_getI C dX4_readWord_54 fl_X4_57 hS.1 rfl ?_
          refine ww_as (v := (p2.2.1 o 3)) (by rw [uL_1]) ?_
          refine ww_iconst (v := (1 : Int32)) C dX4_readWord_57 (by decide) ?_
          refine ww_iadd C dX4_readWord_58 ?_
          refine wk_putI C dX4_readWord_59 fl_X4_57 hS.1 rfl rfl ?_
          refine ww_aload_n C dX4_readWord_62 0 rfl rfl ?_
          refine ww_aload_n C dX4_readWord_63 0 rfl rfl ?_
          refine wk_getI C dX4_readWord_64 fl_X4_57 hS.1 rfl ?_
          refine ww_as (v := ((p2.2.1 o 3) + (1 : Int32))) (by rw [uI_s]) ?_
          obtain ⟨p3, hc1, H⟩ := bd_of H
          refine ww_callV C hZ dX4_readWord_67 cw_X4_80 (ccX4_byteAt hS hc1) hS.1 ⟨by decide, rfl⟩ (by decide) rfl rfl (Nat.le_of_ble_eq_true rfl) ⟨Nat.zero_le _, Nat.zero_le _⟩ (fun v τ hp => ?_)
          obtain ⟨rfl, rfl⟩ := hp
          change WW X _ 70 [.ref o, .int v1, .retAddr 0] [.int p3.1] _
          refine ww_istore_n C dX4_readWord_70 1 rfl (by decide) rfl [.ref o, .int p3.1, .retAddr 0] rfl ?_
          refine ww_goto C dX4_readWord_71 14 rfl ?_
          exact ih p3.2 p3.1 H
def fX4_readWord_124 (o : Nat) (tt : Nat) (h : HI) (s0 : Int32) : Option (HI) := some (uI h o 4 s0)
set_option maxRecDepth 100000 in
set_option maxHeartbeats 4000000 in
theorem cX4_readWord_124 {X : CT} {sh : Sh} {adr : Nat → Nat} {r : Nat → Nat → Option Nat} {o : Nat} {tt : Nat} {hh : Nat} {p : HI} (hS : ES sh r tt hh o) (C : CX X yX4_readWord.cls cX4_readWord 3 1) (hZ : SZX X adr) (E : RX X none sh adr (fun v τ => v = none ∧ τ = mk p r)) {h : HI} {s0 : Int32} (H : fX4_readWord_124 o tt h s0 = some p) : WW X (sh, adr, 0, 0) 124 [.ref o, .retAddr 0, .retAddr 0] [.int s0, .ref o] (mk h r) := by
  rw [fX4_readWord_124] at H
  refine wk_putI C dX4_readWord_124 fl_X4_66 hS.1 rfl rfl ?_
  cases H
  exact ww_vret C E dX4_readWord_127 ⟨rfl, rfl⟩
def fX4_readWord_74 (o : Nat) (tt : Nat) (h : HI) : Option (HI) := (if ((h.1 o 3) - (h.1 o 5)) ≤ (8 : Int32) then ((fX2_find (o + 1) 21 h (h.2 o 7)).bind fun p6 => (if p6.1 < 0 then fX4_readWord_124 o tt p6.2 (1 : Int32) else fX4_readWord_124 o tt p6.2 ((128 : Int32) + p6.1))) else ((fX4_refuseAt o h (1 : Int32) (h.1 o 5)).bind fun h7 => some h7))
set_option maxRecDepth 100000 in
set_option maxHeartbeats 4000000 in
theorem cX4_readWord_74 {X : CT} {sh : Sh} {adr : Nat → Nat} {r : Nat → Nat → Option Nat} {o : Nat} {tt : Nat} {hh : Nat} {p : HI} (hS : ES sh r tt hh o) (C : CX X yX4_readWord.cls cX4_readWord 3 1) (hZ : SZX X adr) (E : RX X none sh adr (fun v τ => v = none ∧ τ = mk p r)) {h : HI} (H : fX4_readWord_74 o tt h = some p) : WW X (sh, adr, 0, 0) 74 [.ref o, .retAddr 0, .retAddr 0] [] (mk h r) := by
  rw [fX4_readWord_74] at H
  refine ww_aload_n C dX4_readWord_74 0 rfl rfl ?_
  refine wk_getI C dX4_readWord_75 fl_X4_57 hS.1 rfl ?_
  refine ww_aload_n C dX4_readWord_78 0 rfl rfl ?_
  refine wk_getI C dX4_readWord_79 fl_X4_84 hS.1 rfl ?_
  refine ww_isub C dX4_readWord_82 ?_
  refine ww_bipush (v := (8 : Int32)) C dX4_readWord_83 (by decide) ?_
  refine ww_icmp_le C dX4_readWord_85 98 rfl (fun hc => ?_) (fun hc => ?_)
  · rw [if_pos hc] at H
    refine ww_aload_n C dX4_readWord_98 0 rfl rfl ?_
    refine wk_getA C dX4_readWord_99 fl_X4_16 hS.1 rfl (tX4_words hS).1 ?_
    refine ww_aload_n C dX4_readWord_102 0 rfl rfl ?_
    refine wk_getJ C dX4_readWord_103 fl_X4_101 hS.1 rfl ?_
    obtain ⟨p6, hc1, H⟩ := bd_of H
    refine ww_callV C hZ dX4_readWord_106 cw_X4_109 (ccX2_find (tX4_words hS).2 hc1) (tX4_words hS).2.1 ⟨by decide, rfl⟩ (by decide) rfl rfl (Nat.le_of_ble_eq_true rfl) ⟨Nat.zero_le _, Nat.zero_le _⟩ (fun v τ hp => ?_)
    obtain ⟨rfl, rfl⟩ := hp
    change WW X _ 109 [.ref o, .retAddr 0, .retAddr 0] [.int p6.1] _
    refine ww_istore_n C dX4_readWord_109 2 rfl (by decide) rfl [.ref o, .retAddr 0, .int p6.1] rfl ?_
    refine ww_aload_n C dX4_readWord_110 0 rfl rfl ?_
    refine ww_iload_n C dX4_readWord_111 2 rfl rfl ?_
    refine ww_if_lt C dX4_readWord_112 123 rfl (fun hc => ?_) (fun hc => ?_)
    · rw [if_pos hc] at H
      refine ww_iconst (v := (1 : Int32)) C dX4_readWord_123 (by decide) ?_
      exact ww_drop [.ref o, .retAddr 0, .retAddr 0] (sl_e (sl_e (sl_d sl_n))) (cX4_readWord_124 hS C hZ E H)
    · rw [if_neg hc] at H
      refine ww_sipush (v := (128 : Int32)) C dX4_readWord_115 (by decide) ?_
      refine ww_iload_n C dX4_readWord_118 2 rfl rfl ?_
      refine ww_iadd C dX4_readWord_119 ?_
      refine ww_goto C dX4_readWord_120 124 rfl ?_
      exact ww_drop [.ref o, .retAddr 0, .retAddr 0] (sl_e (sl_e (sl_d sl_n))) (cX4_readWord_124 hS C hZ E H)
  · rw [if_neg hc] at H
    refine ww_aload_n C dX4_readWord_88 0 rfl rfl ?_
    refine ww_iconst (v := (1 : Int32)) C dX4_readWord_89 (by decide) ?_
    refine ww_aload_n C dX4_readWord_90 0 rfl rfl ?_
    refine wk_getI C dX4_readWord_91 fl_X4_84 hS.1 rfl ?_
    obtain ⟨h7, hc1, H⟩ := bd_of H
    refine ww_callV C hZ dX4_readWord_94 cw_X4_105 (ccX4_refuseAt hS hc1) hS.1 ⟨by decide, rfl⟩ (by decide) rfl rfl (Nat.le_of_ble_eq_true rfl) ⟨Nat.zero_le _, Nat.zero_le _⟩ (fun v τ hp => ?_)
    obtain ⟨rfl, rfl⟩ := hp
    change WW X _ 97 [.ref o, .retAddr 0, .retAddr 0] [] _
    cases H
    exact ww_vret C E dX4_readWord_97 ⟨rfl, rfl⟩
def fX4_readWord (o : Nat) (tt : Nat) (h : HI) : Option (HI) := ((fX4_byteAt o tt (uL h o 7 (0 : Int64)) (h.1 o 3)).bind fun p1 => fX4_readWord_14 o tt (fun h5 => fX4_readWord_74 o tt h5) FU p1.2 p1.1)
set_option maxRecDepth 100000 in
set_option maxHeartbeats 4000000 in
theorem ccX4_readWord {l : Launch} {sh : Sh} {adr : Nat → Nat} {r : Nat → Nat → Option Nat} {o : Nat} {tt : Nat} {hh : Nat} (hS : ES sh r tt hh o) {h : HI}  {p : HI} (H : fX4_readWord o tt h = some p) : CC l yX4_readWord cX4_readWord 3 none 1 [.ref o] sh adr (mk h r) (fun v τ => v = none ∧ τ = mk p r) := by
  refine CC.of (by decide) (Nat.le_of_ble_eq_true rfl) 2 [.ref o, .retAddr 0, .retAddr 0] rfl (fun X _ C E hZ => ?_)
  rw [fX4_readWord] at H
  refine ww_aload_n C dX4_readWord_0 0 rfl rfl ?_
  refine ww_lconst (v := (0 : Int64)) C dX4_readWord_1 (by decide) ?_
  refine wk_putJ C dX4_readWord_2 fl_X4_101 hS.1 rfl rfl ?_
  refine ww_aload_n C dX4_readWord_5 0 rfl rfl ?_
  refine ww_aload_n C dX4_readWord_6 0 rfl rfl ?_
  refine wk_getI C dX4_readWord_7 fl_X4_57 hS.1 rfl ?_
  refine ww_as (v := (h.1 o 3)) (by rw [uL_1]) ?_
  obtain ⟨p1, hc1, H⟩ := bd_of H
  refine ww_callV C hZ dX4_readWord_10 cw_X4_80 (ccX4_byteAt hS hc1) hS.1 ⟨by decide, rfl⟩ (by decide) rfl rfl (Nat.le_of_ble_eq_true rfl) ⟨Nat.zero_le _, Nat.zero_le _⟩ (fun v τ hp => ?_)
  obtain ⟨rfl, rfl⟩ := hp
  change WW X _ 13 [.ref o, .retAddr 0, .retAddr 0] [.int p1.1] _
  refine ww_istore_n C dX4_readWord_13 1 rfl (by decide) rfl [.ref o, .int p1.1, .retAddr 0] rfl ?_
  refine cX4_readWord_14 hS C hZ E (fun h5 H => ?_) FU p1.2 p1.1 H
  exact cX4_readWord_74 hS C hZ E H
def fX4_refuse (o : Nat) (h : HI) (a1 : Int32) : Option (HI) := ((fX4_refuseAt o h a1 (h.1 o 5)).bind fun h1 => some h1)
set_option maxRecDepth 100000 in
set_option maxHeartbeats 4000000 in
theorem ccX4_refuse {l : Launch} {sh : Sh} {adr : Nat → Nat} {r : Nat → Nat → Option Nat} {o : Nat} {tt : Nat} {hh : Nat} (hS : ES sh r tt hh o) {h : HI} {a1 : Int32} {p : HI} (H : fX4_refuse o h a1 = some p) : CC l yX4_refuse cX4_refuse 2 none 1 [.ref o, .int a1] sh adr (mk h r) (fun v τ => v = none ∧ τ = mk p r) := by
  refine CC.of (by decide) (Nat.le_of_ble_eq_true rfl) 0 [.ref o, .int a1] rfl (fun X _ C E hZ => ?_)
  rw [fX4_refuse] at H
  refine ww_aload_n C dX4_refuse_0 0 rfl rfl ?_
  refine ww_iload_n C dX4_refuse_1 1 rfl rfl ?_
  refine ww_aload_n C dX4_refuse_2 0 rfl rfl ?_
  refine wk_getI C dX4_refuse_3 fl_X4_84 hS.1 rfl ?_
  obtain ⟨h1, hc1, H⟩ := bd_of H
  refine ww_callV C hZ dX4_refuse_6 cw_X4_105 (ccX4_refuseAt hS hc1) hS.1 ⟨by decide, rfl⟩ (by decide) rfl rfl (Nat.le_of_ble_eq_true rfl) ⟨Nat.zero_le _, Nat.zero_le _⟩ (fun v τ hp => ?_)
  obtain ⟨rfl, rfl⟩ := hp
  change WW X _ 9 [.ref o, .int a1] [] _
  cases H
  exact ww_vret C E dX4_refuse_9 ⟨rfl, rfl⟩
def fX4_next_48 (o : Nat) (tt : Nat) (k : HI → Option (HI)) (kb : HI → Option (HI)) (h : HI) : Option (HI) := kb (uI h o 3 ((h.1 o 3) + (1 : Int32)))
set_option maxRecDepth 100000 in
set_option maxHeartbeats 4000000 in
theorem cX4_next_48 {X : CT} {sh : Sh} {adr : Nat → Nat} {r : Nat → Nat → Option Nat} {o : Nat} {tt : Nat} {hh : Nat} {p : HI} (hS : ES sh r tt hh o) (C : CX X yX4_next.cls cX4_next 2 4) (hZ : SZX X adr) (E : RX X none sh adr (fun v τ => v = none ∧ τ = mk p r)) {k : HI → Option (HI)} {kb : HI → Option (HI)} (hk : ∀ (h : HI), k h = some p → WW X (sh, adr, 0, 0) 61 [.ref o, .retAddr 0] [] (mk h r)) (hb : ∀ (h : HI), kb h = some p → WW X (sh, adr, 0, 0) 8 [.ref o, .retAddr 0] [] (mk h r)) {h : HI} (H : fX4_next_48 o tt k kb h = some p) : WW X (sh, adr, 0, 0) 48 [.ref o, .retAddr 0] [] (mk h r) := by
  rw [fX4_next_48] at H
  refine ww_aload_n C dX4_next_48 0 rfl rfl ?_
  refine ww_dup C dX4_next_49 rfl ?_
  refine wk_getI C dX4_next_50 fl_X4_57 hS.1 rfl ?_
  refine ww_iconst (v := (1 : Int32)) C dX4_next_53 (by decide) ?_
  refine ww_iadd C dX4_next_54 ?_
  refine wk_putI C dX4_next_55 fl_X4_57 hS.1 rfl rfl ?_
  refine ww_goto C dX4_next_58 8 rfl ?_
  exact hb (uI h o 3 ((h.1 o 3) + (1 : Int32))) H
def fX4_next_8 (o : Nat) (tt : Nat) (k : HI → Option (HI)) : Nat → HI → Option (HI)
  | 0, _ => none
  | n + 1, h => (if (h.1 tt 1) ≤ (h.1 o 3) then k h else ((fX4_byteAt o tt h (h.1 o 3)).bind fun p1 => (if p1.1 = (32 : Int32) then fX4_next_48 o tt (k) (fX4_next_8 o tt k n) p1.2 else ((fX4_byteAt o tt p1.2 (p1.2.1 o 3)).bind fun p2 => (if p2.1 = (10 : Int32) then fX4_next_48 o tt (k) (fX4_next_8 o tt k n) p2.2 else k p2.2)))))
set_option maxRecDepth 100000 in
set_option maxHeartbeats 4000000 in
theorem cX4_next_8 {X : CT} {sh : Sh} {adr : Nat → Nat} {r : Nat → Nat → Option Nat} {o : Nat} {tt : Nat} {hh : Nat} {p : HI} (hS : ES sh r tt hh o) (C : CX X yX4_next.cls cX4_next 2 4) (hZ : SZX X adr) (E : RX X none sh adr (fun v τ => v = none ∧ τ = mk p r)) {k : HI → Option (HI)} (hk : ∀ (h : HI), k h = some p → WW X (sh, adr, 0, 0) 61 [.ref o, .retAddr 0] [] (mk h r)) : ∀ (n : Nat) (h : HI), fX4_next_8 o tt k n h = some p → WW X (sh, adr, 0, 0) 8 [.ref o, .retAddr 0] [] (mk h r) := by
  intro n
  induction n with
  | zero =>
    intro h H
    rw [fX4_next_8] at H
    cases H
  | succ n ih =>
    intro h H
    rw [fX4_next_8] at H
    refine ww_aload_n C dX4_next_8 0 rfl rfl ?_
    refine wk_getI C dX4_next_9 fl_X4_57 hS.1 rfl ?_
    refine ww_aload_n C dX4_next_12 0 rfl rfl ?_
    refine wk_getA C dX4_next_13 fl_X4_24 hS.1 rfl (tX4_tape hS).1 ?_
    refine wk_getI C dX4_next_16 fl_X4_72 (tX4_tape hS).2.1 rfl ?_
    refine ww_icmp_ge C dX4_next_19 61 rfl (fun hc => ?_) (fun hc => ?_)
    · rw [if_pos hc] at H
      exact hk h H
    · rw [if_neg hc] at H
      refine ww_aload_n C dX4_next_22 0 rfl rfl ?_
      refine ww_aload_n C dX4_next_23 0 rfl rfl ?_
      refine wk_getI C dX4_next_24 fl_X4_57 hS.1 rfl ?_
      obtain ⟨p1, hc1, H⟩ := bd_of H
      refine ww_callV C hZ dX4_next_27 cw_X4_80 (ccX4_byteAt hS hc1) hS.1 ⟨by decide, rfl⟩ (by decide) rfl rfl (Nat.le_of_ble_eq_true rfl) ⟨Nat.zero_le _, Nat.zero_le _⟩ (fun v τ hp => ?_)
      obtain ⟨rfl, rfl⟩ := hp
      change WW X _ 30 [.ref o, .retAddr 0] [.int p1.1] _
      refine ww_bipush (v := (32 : Int32)) C dX4_next_30 (by decide) ?_
      refine ww_icmp_eq C dX4_next_32 48 rfl (fun hc => ?_) (fun hc => ?_)
      · rw [if_pos hc] at H
        exact cX4_next_48 hS C hZ E hk ih H
      · rw [if_neg hc] at H
        refine ww_aload_n C dX4_next_35 0 rfl rfl ?_
        refine ww_aload_n C dX4_next_36 0 rfl rfl ?_
        refine wk_getI C dX4_next_37 fl_X4_57 hS.1 rfl ?_
        obtain ⟨p2, hc1, H⟩ := bd_of H
        refine ww_callV C hZ dX4_next_40 cw_X4_80 (ccX4_byteAt hS hc1) hS.1 ⟨by decide, rfl⟩ (by decide) rfl rfl (Nat.le_of_ble_eq_true rfl) ⟨Nat.zero_le _, Nat.zero_le _⟩ (fun v τ hp => ?_)
        obtain ⟨rfl, rfl⟩ := hp
        change WW X _ 43 [.ref o, .retAddr 0] [.int p2.1] _
        refine ww_bipush (v := (10 : Int32)) C dX4_next_43 (by decide) ?_
        refine ww_icmp_ne C dX4_next_45 61 rfl (fun hc => ?_) (fun hc => ?_)
        · rw [if_neg hc] at H
          exact hk p2.2 H
        · rw [if_pos hc] at H
          exact cX4_next_48 hS C hZ E hk ih H
def fX4_next_173 (o : Nat) (tt : Nat) (h : HI) : Option (HI) := ((fX4_refuse o h (1 : Int32)).bind fun h6 => some h6)
set_option maxRecDepth 100000 in
set_option maxHeartbeats 4000000 in
theorem cX4_next_173 {X : CT} {sh : Sh} {adr : Nat → Nat} {r : Nat → Nat → Option Nat} {o : Nat} {tt : Nat} {hh : Nat} {p : HI} (hS : ES sh r tt hh o) (C : CX X yX4_next.cls cX4_next 2 4) (hZ : SZX X adr) (E : RX X none sh adr (fun v τ => v = none ∧ τ = mk p r)) {h : HI} (H : fX4_next_173 o tt h = some p) : WW X (sh, adr, 0, 0) 173 [.ref o, .retAddr 0] [] (mk h r) := by
  rw [fX4_next_173] at H
  refine ww_aload_n C dX4_next_173 0 rfl rfl ?_
  refine ww_iconst (v := (1 : Int32)) C dX4_next_174 (by decide) ?_
  obtain ⟨h6, hc1, H⟩ := bd_of H
  refine ww_callV C hZ dX4_next_175 cw_X4_98 (ccX4_refuse hS hc1) hS.1 ⟨by decide, rfl⟩ (by decide) rfl rfl (Nat.le_of_ble_eq_true rfl) ⟨Nat.zero_le _, Nat.zero_le _⟩ (fun v τ hp => ?_)
  obtain ⟨rfl, rfl⟩ := hp
  change WW X _ 178 [.ref o, .retAddr 0] [] _
  cases H
  exact ww_vret C E dX4_next_178 ⟨rfl, rfl⟩
def fX4_next_138 (o : Nat) (tt : Nat) (h : HI) (v1 : Int32) : Option (HI) := (if (128 : Int32) ≤ v1 then fX4_next_173 o tt h else ((fJ0_indexOf_0f7a4 1 h ((v1.toUInt32 % 65536).toInt32)).bind fun p7 => (if p7.1 < 0 then fX4_next_173 o tt p7.2 else some (uI (uI p7.2 o 4 v1) o 3 ((p7.2.1 o 3) + (1 : Int32))))))
set_option maxRecDepth 100000 in
set_option maxHeartbeats 4000000 in
theorem cX4_next_138 {X : CT} {sh : Sh} {adr : Nat → Nat} {r : Nat → Nat → Option Nat} {o : Nat} {tt : Nat} {hh : Nat} {p : HI} (hS : ES sh r tt hh o) (C : CX X yX4_next.cls cX4_next 2 4) (hZ : SZX X adr) (E : RX X none sh adr (fun v τ => v = none ∧ τ = mk p r)) {h : HI} {v1 : Int32} (H : fX4_next_138 o tt h v1 = some p) : WW X (sh, adr, 0, 0) 138 [.ref o, .int v1] [] (mk h r) := by
  rw [fX4_next_138] at H
  refine ww_iload_n C dX4_next_138 1 rfl rfl ?_
  refine ww_sipush (v := (128 : Int32)) C dX4_next_139 (by decide) ?_
  refine ww_icmp_ge C dX4_next_142 173 rfl (fun hc => ?_) (fun hc => ?_)
  · rw [if_pos hc] at H
    exact ww_drop [.ref o, .retAddr 0] (sl_e (sl_d sl_n)) (cX4_next_173 hS C hZ E H)
  · rw [if_neg hc] at H
    refine ww_ldcS1 C hZ dX4_next_145 ?_
    refine ww_iload_n C dX4_next_147 1 rfl rfl ?_
    refine ww_i2c C dX4_next_148 ?_
    obtain ⟨p7, hc1, H⟩ := bd_of H
    refine ww_callVS C hZ dX4_next_149 cw_X4_95 (ccJ0_indexOf_0f7a4 (by decide) hc1) (by decide) rfl (by decide) rfl rfl (Nat.le_of_ble_eq_true rfl) ⟨Nat.zero_le _, Nat.zero_le _⟩ (fun v τ hp => ?_)
    obtain ⟨rfl, rfl⟩ := hp
    change WW X _ 152 [.ref o, .int v1] [.int p7.1] _
    refine ww_if_lt C dX4_next_152 173 rfl (fun hc => ?_) (fun hc => ?_)
    · rw [if_pos hc] at H
      exact ww_drop [.ref o, .retAddr 0] (sl_e (sl_d sl_n)) (cX4_next_173 hS C hZ E H)
    · rw [if_neg hc] at H
      refine ww_aload_n C dX4_next_155 0 rfl rfl ?_
      refine ww_iload_n C dX4_next_156 1 rfl rfl ?_
      refine wk_putI C dX4_next_157 fl_X4_66 hS.1 rfl rfl ?_
      refine ww_aload_n C dX4_next_160 0 rfl rfl ?_
      refine ww_dup C dX4_next_161 rfl ?_
      refine wk_getI C dX4_next_162 fl_X4_57 hS.1 rfl ?_
      refine ww_as (v := (p7.2.1 o 3)) (by rw [uI_n (by omega)]) ?_
      refine ww_iconst (v := (1 : Int32)) C dX4_next_165 (by decide) ?_
      refine ww_iadd C dX4_next_166 ?_
      refine wk_putI C dX4_next_167 fl_X4_57 hS.1 rfl rfl ?_
      refine ww_goto C dX4_next_170 178 rfl ?_
      cases H
      exact ww_vret C E dX4_next_178 ⟨rfl, rfl⟩
def fX4_next_119 (o : Nat) (tt : Nat) (h : HI) (v1 : Int32) : Option (HI) := (if v1 < (48 : Int32) then fX4_next_138 o tt h v1 else (if (57 : Int32) < v1 then fX4_next_138 o tt h v1 else ((fX4_readNumber o tt h).bind fun h8 => some h8)))
set_option maxRecDepth 100000 in
set_option maxHeartbeats 4000000 in
theorem cX4_next_119 {X : CT} {sh : Sh} {adr : Nat → Nat} {r : Nat → Nat → Option Nat} {o : Nat} {tt : Nat} {hh : Nat} {p : HI} (hS : ES sh r tt hh o) (C : CX X yX4_next.cls cX4_next 2 4) (hZ : SZX X adr) (E : RX X none sh adr (fun v τ => v = none ∧ τ = mk p r)) {h : HI} {v1 : Int32} (H : fX4_next_119 o tt h v1 = some p) : WW X (sh, adr, 0, 0) 119 [.ref o, .int v1] [] (mk h r) := by
  rw [fX4_next_119] at H
  refine ww_iload_n C dX4_next_119 1 rfl rfl ?_
  refine ww_bipush (v := (48 : Int32)) C dX4_next_120 (by decide) ?_
  refine ww_icmp_lt C dX4_next_122 138 rfl (fun hc => ?_) (fun hc => ?_)
  · rw [if_pos hc] at H
    exact cX4_next_138 hS C hZ E H
  · rw [if_neg hc] at H
    refine ww_iload_n C dX4_next_125 1 rfl rfl ?_
    refine ww_bipush (v := (57 : Int32)) C dX4_next_126 (by decide) ?_
    refine ww_icmp_gt C dX4_next_128 138 rfl (fun hc => ?_) (fun hc => ?_)
    · rw [if_pos hc] at H
      exact cX4_next_138 hS C hZ E H
    · rw [if_neg hc] at H
      refine ww_aload_n C dX4_next_131 0 rfl rfl ?_
      obtain ⟨h8, hc1, H⟩ := bd_of H
      refine ww_callV C hZ dX4_next_132 cw_X4_90 (ccX4_readNumber hS hc1) hS.1 ⟨by decide, rfl⟩ (by decide) rfl rfl (Nat.le_of_ble_eq_true rfl) ⟨Nat.zero_le _, Nat.zero_le _⟩ (fun v τ hp => ?_)
      obtain ⟨rfl, rfl⟩ := hp
      change WW X _ 135 [.ref o, .int v1] [] _
      refine ww_goto C dX4_next_135 178 rfl ?_
      cases H
      exact ww_vret C E dX4_next_178 ⟨rfl, rfl⟩
def fX4_next_61 (o : Nat) (tt : Nat) (h : HI) : Option (HI) := ((fX4_byteAt o tt (uI h o 5 (h.1 o 3)) (h.1 o 3)).bind fun p5 => (if (p5.2.1 o 3) < (p5.2.1 tt 1) then (if p5.1 < (97 : Int32) then fX4_next_119 o tt p5.2 p5.1 else (if (122 : Int32) < p5.1 then fX4_next_119 o tt p5.2 p5.1 else ((fX4_readWord o tt p5.2).bind fun h9 => some h9))) else some (uI p5.2 o 4 (0 : Int32))))
set_option maxRecDepth 100000 in
set_option maxHeartbeats 4000000 in
theorem cX4_next_61 {X : CT} {sh : Sh} {adr : Nat → Nat} {r : Nat → Nat → Option Nat} {o : Nat} {tt : Nat} {hh : Nat} {p : HI} (hS : ES sh r tt hh o) (C : CX X yX4_next.cls cX4_next 2 4) (hZ : SZX X adr) (E : RX X none sh adr (fun v τ => v = none ∧ τ = mk p r)) {h : HI} (H : fX4_next_61 o tt h = some p) : WW X (sh, adr, 0, 0) 61 [.ref o, .retAddr 0] [] (mk h r) := by
  rw [fX4_next_61] at H
  refine ww_aload_n C dX4_next_61 0 rfl rfl ?_
  refine ww_aload_n C dX4_next_62 0 rfl rfl ?_
  refine wk_getI C dX4_next_63 fl_X4_57 hS.1 rfl ?_
  refine wk_putI C dX4_next_66 fl_X4_84 hS.1 rfl rfl ?_
  refine ww_aload_n C dX4_next_69 0 rfl rfl ?_
  refine ww_aload_n C dX4_next_70 0 rfl rfl ?_
  refine wk_getI C dX4_next_71 fl_X4_57 hS.1 rfl ?_
  refine ww_as (v := (h.1 o 3)) (by rw [uI_n (by omega)]) ?_
  obtain ⟨p5, hc1, H⟩ := bd_of H
  refine ww_callV C hZ dX4_next_74 cw_X4_80 (ccX4_byteAt hS hc1) hS.1 ⟨by decide, rfl⟩ (by decide) rfl rfl (Nat.le_of_ble_eq_true rfl) ⟨Nat.zero_le _, Nat.zero_le _⟩ (fun v τ hp => ?_)
  obtain ⟨rfl, rfl⟩ := hp
  change WW X _ 77 [.ref o, .retAddr 0] [.int p5.1] _
  refine ww_istore_n C dX4_next_77 1 rfl (by decide) rfl [.ref o, .int p5.1] rfl ?_
  refine ww_aload_n C dX4_next_78 0 rfl rfl ?_
  refine wk_getI C dX4_next_79 fl_X4_57 hS.1 rfl ?_
  refine ww_aload_n C dX4_next_82 0 rfl rfl ?_
  refine wk_getA C dX4_next_83 fl_X4_24 hS.1 rfl (tX4_tape hS).1 ?_
  refine wk_getI C dX4_next_86 fl_X4_72 (tX4_tape hS).2.1 rfl ?_
  refine ww_icmp_lt C dX4_next_89 100 rfl (fun hc => ?_) (fun hc => ?_)
  · rw [if_pos hc] at H
    refine ww_iload_n C dX4_next_100 1 rfl rfl ?_
    refine ww_bipush (v := (97 : Int32)) C dX4_next_101 (by decide) ?_
    refine ww_icmp_lt C dX4_next_103 119 rfl (fun hc => ?_) (fun hc => ?_)
    · rw [if_pos hc] at H
      exact cX4_next_119 hS C hZ E H
    · rw [if_neg hc] at H
      refine ww_iload_n C dX4_next_106 1 rfl rfl ?_
      refine ww_bipush (v := (122 : Int32)) C dX4_next_107 (by decide) ?_
      refine ww_icmp_gt C dX4_next_109 119 rfl (fun hc => ?_) (fun hc => ?_)
      · rw [if_pos hc] at H
        exact cX4_next_119 hS C hZ E H
      · rw [if_neg hc] at H
        refine ww_aload_n C dX4_next_112 0 rfl rfl ?_
        obtain ⟨h9, hc1, H⟩ := bd_of H
        refine ww_callV C hZ dX4_next_113 cw_X4_87 (ccX4_readWord hS hc1) hS.1 ⟨by decide, rfl⟩ (by decide) rfl rfl (Nat.le_of_ble_eq_true rfl) ⟨Nat.zero_le _, Nat.zero_le _⟩ (fun v τ hp => ?_)
        obtain ⟨rfl, rfl⟩ := hp
        change WW X _ 116 [.ref o, .int p5.1] [] _
        refine ww_goto C dX4_next_116 178 rfl ?_
        cases H
        exact ww_vret C E dX4_next_178 ⟨rfl, rfl⟩
  · rw [if_neg hc] at H
    refine ww_aload_n C dX4_next_92 0 rfl rfl ?_
    refine ww_iconst (v := (0 : Int32)) C dX4_next_93 (by decide) ?_
    refine wk_putI C dX4_next_94 fl_X4_66 hS.1 rfl rfl ?_
    refine ww_goto C dX4_next_97 178 rfl ?_
    cases H
    exact ww_vret C E dX4_next_178 ⟨rfl, rfl⟩
def fX4_next (o : Nat) (tt : Nat) (h : HI) : Option (HI) := (if (h.1 o 8) = 0 then fX4_next_8 o tt (fun h4 => fX4_next_61 o tt h4) FU h else some h)
set_option maxRecDepth 100000 in
set_option maxHeartbeats 4000000 in
theorem ccX4_next {l : Launch} {sh : Sh} {adr : Nat → Nat} {r : Nat → Nat → Option Nat} {o : Nat} {tt : Nat} {hh : Nat} (hS : ES sh r tt hh o) {h : HI}  {p : HI} (H : fX4_next o tt h = some p) : CC l yX4_next cX4_next 2 none 4 [.ref o] sh adr (mk h r) (fun v τ => v = none ∧ τ = mk p r) := by
  refine CC.of (by decide) (Nat.le_of_ble_eq_true rfl) 1 [.ref o, .retAddr 0] rfl (fun X _ C E hZ => ?_)
  rw [fX4_next] at H
  refine ww_aload_n C dX4_next_0 0 rfl rfl ?_
  refine wk_getI C dX4_next_1 fl_X4_60 hS.1 rfl ?_
  refine ww_if_eq C dX4_next_4 8 rfl (fun hc => ?_) (fun hc => ?_)
  · rw [if_pos hc] at H
    refine cX4_next_8 hS C hZ E (fun h4 H => ?_) FU h H
    exact cX4_next_61 hS C hZ E H
  · rw [if_neg hc] at H
    cases H
    exact ww_vret C E dX4_next_7 ⟨rfl, rfl⟩
def fX4_startLine_9 (o : Nat) (tt : Nat) (h : HI) : Option (HI) := ((fX4_next o tt h).bind fun h1 => some h1)
set_option maxRecDepth 100000 in
set_option maxHeartbeats 4000000 in
theorem cX4_startLine_9 {X : CT} {sh : Sh} {adr : Nat → Nat} {r : Nat → Nat → Option Nat} {o : Nat} {tt : Nat} {hh : Nat} {p : HI} (hS : ES sh r tt hh o) (C : CX X yX4_startLine.cls cX4_startLine 2 5) (hZ : SZX X adr) (E : RX X none sh adr (fun v τ => v = none ∧ τ = mk p r)) {h : HI} (H : fX4_startLine_9 o tt h = some p) : WW X (sh, adr, 0, 0) 9 [.ref o, .retAddr 0] [] (mk h r) := by
  rw [fX4_startLine_9] at H
  refine ww_aload_n C dX4_startLine_9 0 rfl rfl ?_
  obtain ⟨h1, hc1, H⟩ := bd_of H
  refine ww_callV C hZ dX4_startLine_10 cw_X4_63 (ccX4_next hS hc1) hS.1 ⟨by decide, rfl⟩ (by decide) rfl rfl (Nat.le_of_ble_eq_true rfl) ⟨Nat.zero_le _, Nat.zero_le _⟩ (fun v τ hp => ?_)
  obtain ⟨rfl, rfl⟩ := hp
  change WW X _ 13 [.ref o, .retAddr 0] [] _
  cases H
  exact ww_vret C E dX4_startLine_13 ⟨rfl, rfl⟩
def fX4_startLine (o : Nat) (tt : Nat) (h : HI) (a1 : Int32) : Option (HI) := (if a1 = 0 then fX4_startLine_9 o tt h else ((fX4_refuse o h (2 : Int32)).bind fun h2 => fX4_startLine_9 o tt h2))
set_option maxRecDepth 100000 in
set_option maxHeartbeats 4000000 in
theorem ccX4_startLine {l : Launch} {sh : Sh} {adr : Nat → Nat} {r : Nat → Nat → Option Nat} {o : Nat} {tt : Nat} {hh : Nat} (hS : ES sh r tt hh o) {h : HI} {a1 : Int32} {p : HI} (H : fX4_startLine o tt h a1 = some p) : CC l yX4_startLine cX4_startLine 2 none 5 [.ref o, .int a1] sh adr (mk h r) (fun v τ => v = none ∧ τ = mk p r) := by
  refine CC.of (by decide) (Nat.le_of_ble_eq_true rfl) 0 [.ref o, .int a1] rfl (fun X _ C E hZ => ?_)
  rw [fX4_startLine] at H
  refine ww_iload_n C dX4_startLine_0 1 rfl rfl ?_
  refine ww_if_eq C dX4_startLine_1 9 rfl (fun hc => ?_) (fun hc => ?_)
  · rw [if_pos hc] at H
    exact ww_drop [.ref o, .retAddr 0] (sl_e (sl_d sl_n)) (cX4_startLine_9 hS C hZ E H)
  · rw [if_neg hc] at H
    refine ww_aload_n C dX4_startLine_4 0 rfl rfl ?_
    refine ww_iconst (v := (2 : Int32)) C dX4_startLine_5 (by decide) ?_
    obtain ⟨h2, hc1, H⟩ := bd_of H
    refine ww_callV C hZ dX4_startLine_6 cw_X4_98 (ccX4_refuse hS hc1) hS.1 ⟨by decide, rfl⟩ (by decide) rfl rfl (Nat.le_of_ble_eq_true rfl) ⟨Nat.zero_le _, Nat.zero_le _⟩ (fun v τ hp => ?_)
    obtain ⟨rfl, rfl⟩ := hp
    change WW X _ 9 [.ref o, .int a1] [] _
    exact ww_drop [.ref o, .retAddr 0] (sl_e (sl_d sl_n)) (cX4_startLine_9 hS C hZ E H)
def fX4_take (o : Nat) (tt : Nat) (h : HI) (a1 : Int32) : Option (HI) := (if (h.1 o 4) = a1 then ((fX4_next o tt h).bind fun h2 => some h2) else ((fX4_refuse o h (2 : Int32)).bind fun h1 => some h1))
set_option maxRecDepth 100000 in
set_option maxHeartbeats 4000000 in
theorem ccX4_take {l : Launch} {sh : Sh} {adr : Nat → Nat} {r : Nat → Nat → Option Nat} {o : Nat} {tt : Nat} {hh : Nat} (hS : ES sh r tt hh o) {h : HI} {a1 : Int32} {p : HI} (H : fX4_take o tt h a1 = some p) : CC l yX4_take cX4_take 2 none 5 [.ref o, .int a1] sh adr (mk h r) (fun v τ => v = none ∧ τ = mk p r) := by
  refine CC.of (by decide) (Nat.le_of_ble_eq_true rfl) 0 [.ref o, .int a1] rfl (fun X _ C E hZ => ?_)
  rw [fX4_take] at H
  refine ww_aload_n C dX4_take_0 0 rfl rfl ?_
  refine wk_getI C dX4_take_1 fl_X4_66 hS.1 rfl ?_
  refine ww_iload_n C dX4_take_4 1 rfl rfl ?_
  refine ww_icmp_ne C dX4_take_5 15 rfl (fun hc => ?_) (fun hc => ?_)
  · rw [if_neg hc] at H
    refine ww_aload_n C dX4_take_15 0 rfl rfl ?_
    refine ww_iconst (v := (2 : Int32)) C dX4_take_16 (by decide) ?_
    obtain ⟨h1, hc1, H⟩ := bd_of H
    refine ww_callV C hZ dX4_take_17 cw_X4_98 (ccX4_refuse hS hc1) hS.1 ⟨by decide, rfl⟩ (by decide) rfl rfl (Nat.le_of_ble_eq_true rfl) ⟨Nat.zero_le _, Nat.zero_le _⟩ (fun v τ hp => ?_)
    obtain ⟨rfl, rfl⟩ := hp
    change WW X _ 20 [.ref o, .int a1] [] _
    cases H
    exact ww_vret C E dX4_take_20 ⟨rfl, rfl⟩
  · rw [if_pos hc] at H
    refine ww_aload_n C dX4_take_8 0 rfl rfl ?_
    obtain ⟨h2, hc1, H⟩ := bd_of H
    refine ww_callV C hZ dX4_take_9 cw_X4_63 (ccX4_next hS hc1) hS.1 ⟨by decide, rfl⟩ (by decide) rfl rfl (Nat.le_of_ble_eq_true rfl) ⟨Nat.zero_le _, Nat.zero_le _⟩ (fun v τ hp => ?_)
    obtain ⟨rfl, rfl⟩ := hp
    change WW X _ 12 [.ref o, .int a1] [] _
    refine ww_goto C dX4_take_12 20 rfl ?_
    cases H
    exact ww_vret C E dX4_take_20 ⟨rfl, rfl⟩
def fX4_takeIf (o : Nat) (tt : Nat) (h : HI) (a1 : Int32) : Option (Int32 × HI) := (if (h.1 o 4) = a1 then ((fX4_next o tt h).bind fun h1 => some ((1 : Int32), h1)) else some ((0 : Int32), h))
set_option maxRecDepth 100000 in
set_option maxHeartbeats 4000000 in
theorem ccX4_takeIf {l : Launch} {sh : Sh} {adr : Nat → Nat} {r : Nat → Nat → Option Nat} {o : Nat} {tt : Nat} {hh : Nat} (hS : ES sh r tt hh o) {h : HI} {a1 : Int32} {p : Int32 × HI} (H : fX4_takeIf o tt h a1 = some p) : CC l yX4_takeIf cX4_takeIf 2 (some .boolean) 5 [.ref o, .int a1] sh adr (mk h r) (fun v τ => v = some (.int p.1) ∧ τ = mk p.2 r) := by
  refine CC.of (by decide) (Nat.le_of_ble_eq_true rfl) 0 [.ref o, .int a1] rfl (fun X _ C E hZ => ?_)
  rw [fX4_takeIf] at H
  refine ww_aload_n C dX4_takeIf_0 0 rfl rfl ?_
  refine wk_getI C dX4_takeIf_1 fl_X4_66 hS.1 rfl ?_
  refine ww_iload_n C dX4_takeIf_4 1 rfl rfl ?_
  refine ww_icmp_eq C dX4_takeIf_5 10 rfl (fun hc => ?_) (fun hc => ?_)
  · rw [if_pos hc] at H
    refine ww_aload_n C dX4_takeIf_10 0 rfl rfl ?_
    obtain ⟨h1, hc1, H⟩ := bd_of H
    refine ww_callV C hZ dX4_takeIf_11 cw_X4_63 (ccX4_next hS hc1) hS.1 ⟨by decide, rfl⟩ (by decide) rfl rfl (Nat.le_of_ble_eq_true rfl) ⟨Nat.zero_le _, Nat.zero_le _⟩ (fun v τ hp => ?_)
    obtain ⟨rfl, rfl⟩ := hp
    change WW X _ 14 [.ref o, .int a1] [] _
    refine ww_iconst (v := (1 : Int32)) C dX4_takeIf_14 (by decide) ?_
    cases H
    exact ww_zret C E dX4_takeIf_15 (Or.inr rfl) ⟨rfl, rfl⟩
  · rw [if_neg hc] at H
    refine ww_iconst (v := (0 : Int32)) C dX4_takeIf_8 (by decide) ?_
    cases H
    exact ww_zret C E dX4_takeIf_9 (Or.inl rfl) ⟨rfl, rfl⟩
def fX4_takeNewName_32 (o : Nat) (tt : Nat) (a1 : Nat) (a1N : Nat) (h : HI) : Option (Int64 × HI) := ((fX4_next o tt h).bind fun h2 => some ((h.2 o 7), h2))
set_option maxRecDepth 100000 in
set_option maxHeartbeats 4000000 in
theorem cX4_takeNewName_32 {X : CT} {sh : Sh} {adr : Nat → Nat} {r : Nat → Nat → Option Nat} {o : Nat} {tt : Nat} {hh : Nat} {a1 : Nat} {a1N : Nat} {p : Int64 × HI} (hS : ES sh r tt hh o) (hA1 : NS sh r a1N a1) (C : CX X yX4_takeNewName.cls cX4_takeNewName 4 5) (hZ : SZX X adr) (E : RX X (some .long) sh adr (fun v τ => v = some (.long p.1) ∧ τ = mk p.2 r)) {h : HI} (H : fX4_takeNewName_32 o tt a1 a1N h = some p) : WW X (sh, adr, 0, 0) 32 [.ref o, .ref a1, .retAddr 0, .retAddr 0] [] (mk h r) := by
  rw [fX4_takeNewName_32] at H
  refine ww_aload_n C dX4_takeNewName_32 0 rfl rfl ?_
  refine wk_getJ C dX4_takeNewName_33 fl_X4_101 hS.1 rfl ?_
  refine ww_lstore_n C dX4_takeNewName_36 2 rfl (by decide) rfl [.ref o, .ref a1, .long (h.2 o 7), .retAddr 0] rfl ?_
  refine ww_aload_n C dX4_takeNewName_37 0 rfl rfl ?_
  obtain ⟨h2, hc1, H⟩ := bd_of H
  refine ww_callV C hZ dX4_takeNewName_38 cw_X4_63 (ccX4_next hS hc1) hS.1 ⟨by decide, rfl⟩ (by decide) rfl rfl (Nat.le_of_ble_eq_true rfl) ⟨Nat.zero_le _, Nat.zero_le _⟩ (fun v τ hp => ?_)
  obtain ⟨rfl, rfl⟩ := hp
  change WW X _ 41 [.ref o, .ref a1, .long (h.2 o 7), .retAddr 0] [] _
  refine ww_lload_n C dX4_takeNewName_41 2 rfl rfl ?_
  cases H
  exact ww_lret C E dX4_takeNewName_42 ⟨rfl, rfl⟩
def fX4_takeNewName (o : Nat) (tt : Nat) (a1 : Nat) (a1N : Nat) (h : HI) : Option (Int64 × HI) := (if (h.1 o 4) = (1 : Int32) then ((fX2_find a1 a1N h (h.2 o 7)).bind fun p1 => (if p1.1 < 0 then fX4_takeNewName_32 o tt a1 a1N p1.2 else ((fX4_refuse o p1.2 (3 : Int32)).bind fun h3 => fX4_takeNewName_32 o tt a1 a1N h3))) else ((fX4_refuse o h (2 : Int32)).bind fun h4 => fX4_takeNewName_32 o tt a1 a1N h4))
set_option maxRecDepth 100000 in
set_option maxHeartbeats 4000000 in
theorem ccX4_takeNewName {l : Launch} {sh : Sh} {adr : Nat → Nat} {r : Nat → Nat → Option Nat} {o : Nat} {tt : Nat} {hh : Nat} {a1 : Nat} {a1N : Nat} (hS : ES sh r tt hh o) (hA1 : NS sh r a1N a1) {h : HI}  {p : Int64 × HI} (H : fX4_takeNewName o tt a1 a1N h = some p) : CC l yX4_takeNewName cX4_takeNewName 4 (some .long) 5 [.ref o, .ref a1] sh adr (mk h r) (fun v τ => v = some (.long p.1) ∧ τ = mk p.2 r) := by
  refine CC.of (by decide) (Nat.le_of_ble_eq_true rfl) 2 [.ref o, .ref a1, .retAddr 0, .retAddr 0] rfl (fun X _ C E hZ => ?_)
  rw [fX4_takeNewName] at H
  refine ww_aload_n C dX4_takeNewName_0 0 rfl rfl ?_
  refine wk_getI C dX4_takeNewName_1 fl_X4_66 hS.1 rfl ?_
  refine ww_iconst (v := (1 : Int32)) C dX4_takeNewName_4 (by decide) ?_
  refine ww_icmp_eq C dX4_takeNewName_5 16 rfl (fun hc => ?_) (fun hc => ?_)
  · rw [if_pos hc] at H
    refine ww_aload_n C dX4_takeNewName_16 1 rfl rfl ?_
    refine ww_aload_n C dX4_takeNewName_17 0 rfl rfl ?_
    refine wk_getJ C dX4_takeNewName_18 fl_X4_101 hS.1 rfl ?_
    obtain ⟨p1, hc1, H⟩ := bd_of H
    refine ww_callV C hZ dX4_takeNewName_21 cw_X4_109 (ccX2_find hA1 hc1) hA1.1 ⟨by decide, rfl⟩ (by decide) rfl rfl (Nat.le_of_ble_eq_true rfl) ⟨Nat.zero_le _, Nat.zero_le _⟩ (fun v τ hp => ?_)
    obtain ⟨rfl, rfl⟩ := hp
    change WW X _ 24 [.ref o, .ref a1, .retAddr 0, .retAddr 0] [.int p1.1] _
    refine ww_if_lt C dX4_takeNewName_24 32 rfl (fun hc => ?_) (fun hc => ?_)
    · rw [if_pos hc] at H
      exact cX4_takeNewName_32 hS hA1 C hZ E H
    · rw [if_neg hc] at H
      refine ww_aload_n C dX4_takeNewName_27 0 rfl rfl ?_
      refine ww_iconst (v := (3 : Int32)) C dX4_takeNewName_28 (by decide) ?_
      obtain ⟨h3, hc1, H⟩ := bd_of H
      refine ww_callV C hZ dX4_takeNewName_29 cw_X4_98 (ccX4_refuse hS hc1) hS.1 ⟨by decide, rfl⟩ (by decide) rfl rfl (Nat.le_of_ble_eq_true rfl) ⟨Nat.zero_le _, Nat.zero_le _⟩ (fun v τ hp => ?_)
      obtain ⟨rfl, rfl⟩ := hp
      change WW X _ 32 [.ref o, .ref a1, .retAddr 0, .retAddr 0] [] _
      exact cX4_takeNewName_32 hS hA1 C hZ E H
  · rw [if_neg hc] at H
    refine ww_aload_n C dX4_takeNewName_8 0 rfl rfl ?_
    refine ww_iconst (v := (2 : Int32)) C dX4_takeNewName_9 (by decide) ?_
    obtain ⟨h4, hc1, H⟩ := bd_of H
    refine ww_callV C hZ dX4_takeNewName_10 cw_X4_98 (ccX4_refuse hS hc1) hS.1 ⟨by decide, rfl⟩ (by decide) rfl rfl (Nat.le_of_ble_eq_true rfl) ⟨Nat.zero_le _, Nat.zero_le _⟩ (fun v τ hp => ?_)
    obtain ⟨rfl, rfl⟩ := hp
    change WW X _ 13 [.ref o, .ref a1, .retAddr 0, .retAddr 0] [] _
    refine ww_goto C dX4_takeNewName_13 32 rfl ?_
    exact cX4_takeNewName_32 hS hA1 C hZ E H
def fX4_takeNumber_37 (o : Nat) (tt : Nat) (h : HI) : Option (Int32 × HI) := ((fX4_next o tt h).bind fun h2 => some ((h.1 o 6), h2))
set_option maxRecDepth 100000 in
set_option maxHeartbeats 4000000 in
theorem cX4_takeNumber_37 {X : CT} {sh : Sh} {adr : Nat → Nat} {r : Nat → Nat → Option Nat} {o : Nat} {tt : Nat} {hh : Nat} {p : Int32 × HI} (hS : ES sh r tt hh o) (C : CX X yX4_takeNumber.cls cX4_takeNumber 4 5) (hZ : SZX X adr) (E : RX X (some .int) sh adr (fun v τ => v = some (.int p.1) ∧ τ = mk p.2 r)) {h : HI} (H : fX4_takeNumber_37 o tt h = some p) : WW X (sh, adr, 0, 0) 37 [.ref o, .retAddr 0, .retAddr 0, .retAddr 0] [] (mk h r) := by
  rw [fX4_takeNumber_37] at H
  refine ww_aload_n C dX4_takeNumber_37 0 rfl rfl ?_
  refine wk_getI C dX4_takeNumber_38 fl_X4_113 hS.1 rfl ?_
  refine ww_istore_n C dX4_takeNumber_41 3 rfl (by decide) rfl [.ref o, .retAddr 0, .retAddr 0, .int (h.1 o 6)] rfl ?_
  refine ww_aload_n C dX4_takeNumber_42 0 rfl rfl ?_
  obtain ⟨h2, hc1, H⟩ := bd_of H
  refine ww_callV C hZ dX4_takeNumber_43 cw_X4_63 (ccX4_next hS hc1) hS.1 ⟨by decide, rfl⟩ (by decide) rfl rfl (Nat.le_of_ble_eq_true rfl) ⟨Nat.zero_le _, Nat.zero_le _⟩ (fun v τ hp => ?_)
  obtain ⟨rfl, rfl⟩ := hp
  change WW X _ 46 [.ref o, .retAddr 0, .retAddr 0, .int (h.1 o 6)] [] _
  refine ww_iload_n C dX4_takeNumber_46 3 rfl rfl ?_
  cases H
  exact ww_iret C E dX4_takeNumber_47 ⟨rfl, rfl⟩
def fX4_takeNumber_32 (o : Nat) (tt : Nat) (h : HI) : Option (Int32 × HI) := ((fX4_refuse o h (4 : Int32)).bind fun h1 => fX4_takeNumber_37 o tt h1)
set_option maxRecDepth 100000 in
set_option maxHeartbeats 4000000 in
theorem cX4_takeNumber_32 {X : CT} {sh : Sh} {adr : Nat → Nat} {r : Nat → Nat → Option Nat} {o : Nat} {tt : Nat} {hh : Nat} {p : Int32 × HI} (hS : ES sh r tt hh o) (C : CX X yX4_takeNumber.cls cX4_takeNumber 4 5) (hZ : SZX X adr) (E : RX X (some .int) sh adr (fun v τ => v = some (.int p.1) ∧ τ = mk p.2 r)) {h : HI} (H : fX4_takeNumber_32 o tt h = some p) : WW X (sh, adr, 0, 0) 32 [.ref o, .retAddr 0, .retAddr 0, .retAddr 0] [] (mk h r) := by
  rw [fX4_takeNumber_32] at H
  refine ww_aload_n C dX4_takeNumber_32 0 rfl rfl ?_
  refine ww_iconst (v := (4 : Int32)) C dX4_takeNumber_33 (by decide) ?_
  obtain ⟨h1, hc1, H⟩ := bd_of H
  refine ww_callV C hZ dX4_takeNumber_34 cw_X4_98 (ccX4_refuse hS hc1) hS.1 ⟨by decide, rfl⟩ (by decide) rfl rfl (Nat.le_of_ble_eq_true rfl) ⟨Nat.zero_le _, Nat.zero_le _⟩ (fun v τ hp => ?_)
  obtain ⟨rfl, rfl⟩ := hp
  change WW X _ 37 [.ref o, .retAddr 0, .retAddr 0, .retAddr 0] [] _
  exact cX4_takeNumber_37 hS C hZ E H
def fX4_takeNumber (o : Nat) (tt : Nat) (h : HI) (a1 : Int32) (a2 : Int32) : Option (Int32 × HI) := (if (h.1 o 4) = (2 : Int32) then (if (h.1 o 6) < a1 then fX4_takeNumber_32 o tt h else (if (h.1 o 6) ≤ a2 then fX4_takeNumber_37 o tt h else fX4_takeNumber_32 o tt h)) else ((fX4_refuse o h (2 : Int32)).bind fun h3 => fX4_takeNumber_37 o tt h3))
set_option maxRecDepth 100000 in
set_option maxHeartbeats 4000000 in
theorem ccX4_takeNumber {l : Launch} {sh : Sh} {adr : Nat → Nat} {r : Nat → Nat → Option Nat} {o : Nat} {tt : Nat} {hh : Nat} (hS : ES sh r tt hh o) {h : HI} {a1 : Int32} {a2 : Int32} {p : Int32 × HI} (H : fX4_takeNumber o tt h a1 a2 = some p) : CC l yX4_takeNumber cX4_takeNumber 4 (some .int) 5 [.ref o, .int a1, .int a2] sh adr (mk h r) (fun v τ => v = some (.int p.1) ∧ τ = mk p.2 r) := by
  refine CC.of (by decide) (Nat.le_of_ble_eq_true rfl) 1 [.ref o, .int a1, .int a2, .retAddr 0] rfl (fun X _ C E hZ => ?_)
  rw [fX4_takeNumber] at H
  refine ww_aload_n C dX4_takeNumber_0 0 rfl rfl ?_
  refine wk_getI C dX4_takeNumber_1 fl_X4_66 hS.1 rfl ?_
  refine ww_iconst (v := (2 : Int32)) C dX4_takeNumber_4 (by decide) ?_
  refine ww_icmp_eq C dX4_takeNumber_5 16 rfl (fun hc => ?_) (fun hc => ?_)
  · rw [if_pos hc] at H
    refine ww_aload_n C dX4_takeNumber_16 0 rfl rfl ?_
    refine wk_getI C dX4_takeNumber_17 fl_X4_113 hS.1 rfl ?_
    refine ww_iload_n C dX4_takeNumber_20 1 rfl rfl ?_
    refine ww_icmp_lt C dX4_takeNumber_21 32 rfl (fun hc => ?_) (fun hc => ?_)
    · rw [if_pos hc] at H
      exact ww_drop [.ref o, .retAddr 0, .retAddr 0, .retAddr 0] (sl_e (sl_d (sl_d (sl_e sl_n)))) (cX4_takeNumber_32 hS C hZ E H)
    · rw [if_neg hc] at H
      refine ww_aload_n C dX4_takeNumber_24 0 rfl rfl ?_
      refine wk_getI C dX4_takeNumber_25 fl_X4_113 hS.1 rfl ?_
      refine ww_iload_n C dX4_takeNumber_28 2 rfl rfl ?_
      refine ww_icmp_le C dX4_takeNumber_29 37 rfl (fun hc => ?_) (fun hc => ?_)
      · rw [if_pos hc] at H
        exact ww_drop [.ref o, .retAddr 0, .retAddr 0, .retAddr 0] (sl_e (sl_d (sl_d (sl_e sl_n)))) (cX4_takeNumber_37 hS C hZ E H)
      · rw [if_neg hc] at H
        exact ww_drop [.ref o, .retAddr 0, .retAddr 0, .retAddr 0] (sl_e (sl_d (sl_d (sl_e sl_n)))) (cX4_takeNumber_32 hS C hZ E H)
  · rw [if_neg hc] at H
    refine ww_aload_n C dX4_takeNumber_8 0 rfl rfl ?_
    refine ww_iconst (v := (2 : Int32)) C dX4_takeNumber_9 (by decide) ?_
    obtain ⟨h3, hc1, H⟩ := bd_of H
    refine ww_callV C hZ dX4_takeNumber_10 cw_X4_98 (ccX4_refuse hS hc1) hS.1 ⟨by decide, rfl⟩ (by decide) rfl rfl (Nat.le_of_ble_eq_true rfl) ⟨Nat.zero_le _, Nat.zero_le _⟩ (fun v τ hp => ?_)
    obtain ⟨rfl, rfl⟩ := hp
    change WW X _ 13 [.ref o, .int a1, .int a2, .retAddr 0] [] _
    refine ww_goto C dX4_takeNumber_13 37 rfl ?_
    exact ww_drop [.ref o, .retAddr 0, .retAddr 0, .retAddr 0] (sl_e (sl_d (sl_d (sl_e sl_n)))) (cX4_takeNumber_37 hS C hZ E H)
def fX4_chairLine (o : Nat) (tt : Nat) (hh : Nat) (h : HI) : Option (HI) := ((fX2_isFull (hh + 1) 6 h).bind fun p1 => ((fX4_startLine o tt p1.2 p1.1).bind fun h2 => ((fX4_takeNewName o tt (hh + 1) 6 h2).bind fun p3 => ((fX4_take o tt p3.2 (129 : Int32)).bind fun h4 => ((fX4_takeNumber o tt h4 (1 : Int32) (2 : Int32)).bind fun p5 => ((fX4_takeIf o tt p5.2 (130 : Int32)).bind fun p6 => (if (p6.2.1 o 8) = 0 then ((fX1_addChair hh p6.2 p3.1 p5.1 p6.1).bind fun h7 => some h7) else some p6.2)))))))
set_option maxRecDepth 100000 in
set_option maxHeartbeats 4000000 in
theorem ccX4_chairLine {l : Launch} {sh : Sh} {adr : Nat → Nat} {r : Nat → Nat → Option Nat} {o : Nat} {tt : Nat} {hh : Nat} (hS : ES sh r tt hh o) {h : HI}  {p : HI} (H : fX4_chairLine o tt hh h = some p) : CC l yX4_chairLine cX4_chairLine 5 none 6 [.ref o] sh adr (mk h r) (fun v τ => v = none ∧ τ = mk p r) := by
  refine CC.of (by decide) (Nat.le_of_ble_eq_true rfl) 4 [.ref o, .retAddr 0, .retAddr 0, .retAddr 0, .retAddr 0] rfl (fun X _ C E hZ => ?_)
  rw [fX4_chairLine] at H
  refine ww_aload_n C dX4_chairLine_0 0 rfl rfl ?_
  refine ww_aload_n C dX4_chairLine_1 0 rfl rfl ?_
  refine wk_getA C dX4_chairLine_2 fl_X4_28 hS.1 rfl (tX4_hall hS).1 ?_
  refine wk_getA C dX4_chairLine_5 fl_X4_157 (tX4_hall hS).2.1 rfl (tX1_chairs (tX4_hall hS).2).1 ?_
  obtain ⟨p1, hc1, H⟩ := bd_of H
  refine ww_callV C hZ dX4_chairLine_8 cw_X4_160 (ccX2_isFull (tX1_chairs (tX4_hall hS).2).2 hc1) (tX1_chairs (tX4_hall hS).2).2.1 ⟨by decide, rfl⟩ (by decide) rfl rfl (Nat.le_of_ble_eq_true rfl) ⟨Nat.zero_le _, Nat.zero_le _⟩ (fun v τ hp => ?_)
  obtain ⟨rfl, rfl⟩ := hp
  change WW X _ 11 [.ref o, .retAddr 0, .retAddr 0, .retAddr 0, .retAddr 0] [.int p1.1, .ref o] _
  obtain ⟨h2, hc1, H⟩ := bd_of H
  refine ww_callV C hZ dX4_chairLine_11 cw_X4_144 (ccX4_startLine hS hc1) hS.1 ⟨by decide, rfl⟩ (by decide) rfl rfl (Nat.le_of_ble_eq_true rfl) ⟨Nat.zero_le _, Nat.zero_le _⟩ (fun v τ hp => ?_)
  obtain ⟨rfl, rfl⟩ := hp
  change WW X _ 14 [.ref o, .retAddr 0, .retAddr 0, .retAddr 0, .retAddr 0] [] _
  refine ww_aload_n C dX4_chairLine_14 0 rfl rfl ?_
  refine ww_aload_n C dX4_chairLine_15 0 rfl rfl ?_
  refine wk_getA C dX4_chairLine_16 fl_X4_28 hS.1 rfl (tX4_hall hS).1 ?_
  refine wk_getA C dX4_chairLine_19 fl_X4_157 (tX4_hall hS).2.1 rfl (tX1_chairs (tX4_hall hS).2).1 ?_
  obtain ⟨p3, hc1, H⟩ := bd_of H
  refine ww_callV C hZ dX4_chairLine_22 cw_X4_164 (ccX4_takeNewName hS (tX1_chairs (tX4_hall hS).2).2 hc1) hS.1 ⟨by decide, rfl⟩ (by decide) rfl rfl (Nat.le_of_ble_eq_true rfl) ⟨Nat.zero_le _, Nat.zero_le _⟩ (fun v τ hp => ?_)
  obtain ⟨rfl, rfl⟩ := hp
  change WW X _ 25 [.ref o, .retAddr 0, .retAddr 0, .retAddr 0, .retAddr 0] [.long p3.1] _
  refine ww_lstore_n C dX4_chairLine_25 1 rfl (by decide) rfl [.ref o, .long p3.1, .retAddr 0, .retAddr 0, .retAddr 0] rfl ?_
  refine ww_aload_n C dX4_chairLine_26 0 rfl rfl ?_
  refine ww_sipush (v := (129 : Int32)) C dX4_chairLine_27 (by decide) ?_
  obtain ⟨h4, hc1, H⟩ := bd_of H
  refine ww_callV C hZ dX4_chairLine_30 cw_X4_154 (ccX4_take hS hc1) hS.1 ⟨by decide, rfl⟩ (by decide) rfl rfl (Nat.le_of_ble_eq_true rfl) ⟨Nat.zero_le _, Nat.zero_le _⟩ (fun v τ hp => ?_)
  obtain ⟨rfl, rfl⟩ := hp
  change WW X _ 33 [.ref o, .long p3.1, .retAddr 0, .retAddr 0, .retAddr 0] [] _
  refine ww_aload_n C dX4_chairLine_33 0 rfl rfl ?_
  refine ww_iconst (v := (1 : Int32)) C dX4_chairLine_34 (by decide) ?_
  refine ww_iconst (v := (2 : Int32)) C dX4_chairLine_35 (by decide) ?_
  obtain ⟨p5, hc1, H⟩ := bd_of H
  refine ww_callV C hZ dX4_chairLine_36 cw_X4_168 (ccX4_takeNumber hS hc1) hS.1 ⟨by decide, rfl⟩ (by decide) rfl rfl (Nat.le_of_ble_eq_true rfl) ⟨Nat.zero_le _, Nat.zero_le _⟩ (fun v τ hp => ?_)
  obtain ⟨rfl, rfl⟩ := hp
  change WW X _ 39 [.ref o, .long p3.1, .retAddr 0, .retAddr 0, .retAddr 0] [.int p5.1] _
  refine ww_istore_n C dX4_chairLine_39 3 rfl (by decide) rfl [.ref o, .long p3.1, .retAddr 0, .int p5.1, .retAddr 0] rfl ?_
  refine ww_aload_n C dX4_chairLine_40 0 rfl rfl ?_
  refine ww_sipush (v := (130 : Int32)) C dX4_chairLine_41 (by decide) ?_
  obtain ⟨p6, hc1, H⟩ := bd_of H
  refine ww_callV C hZ dX4_chairLine_44 cw_X4_172 (ccX4_takeIf hS hc1) hS.1 ⟨by decide, rfl⟩ (by decide) rfl rfl (Nat.le_of_ble_eq_true rfl) ⟨Nat.zero_le _, Nat.zero_le _⟩ (fun v τ hp => ?_)
  obtain ⟨rfl, rfl⟩ := hp
  change WW X _ 47 [.ref o, .long p3.1, .retAddr 0, .int p5.1, .retAddr 0] [.int p6.1] _
  refine ww_istore C dX4_chairLine_47 (by decide) rfl [.ref o, .long p3.1, .retAddr 0, .int p5.1, .int p6.1] rfl ?_
  refine ww_aload_n C dX4_chairLine_49 0 rfl rfl ?_
  refine wk_getI C dX4_chairLine_50 fl_X4_60 hS.1 rfl ?_
  refine ww_if_ne C dX4_chairLine_53 67 rfl (fun hc => ?_) (fun hc => ?_)
  · rw [if_neg hc] at H
    cases H
    exact ww_vret C E dX4_chairLine_67 ⟨rfl, rfl⟩
  · rw [if_pos hc] at H
    refine ww_aload_n C dX4_chairLine_56 0 rfl rfl ?_
    refine wk_getA C dX4_chairLine_57 fl_X4_28 hS.1 rfl (tX4_hall hS).1 ?_
    refine ww_lload_n C dX4_chairLine_60 1 rfl rfl ?_
    refine ww_iload_n C dX4_chairLine_61 3 rfl rfl ?_
    refine ww_iload C dX4_chairLine_62 rfl ?_
    obtain ⟨h7, hc1, H⟩ := bd_of H
    refine ww_callV C hZ dX4_chairLine_64 cw_X4_176 (ccX1_addChair (tX4_hall hS).2 hc1) (tX4_hall hS).2.1 ⟨by decide, rfl⟩ (by decide) rfl rfl (Nat.le_of_ble_eq_true rfl) ⟨Nat.zero_le _, Nat.zero_le _⟩ (fun v τ hp => ?_)
    obtain ⟨rfl, rfl⟩ := hp
    change WW X _ 67 [.ref o, .long p3.1, .retAddr 0, .int p5.1, .int p6.1] [] _
    cases H
    exact ww_vret C E dX4_chairLine_67 ⟨rfl, rfl⟩
def fX4_toldName (o : Nat) (a1 : Nat) (a1N : Nat) (h : HI) : Option (Int32 × HI) := (if (h.1 o 4) = (1 : Int32) then ((fX2_find a1 a1N h (h.2 o 7)).bind fun p1 => (if 0 ≤ p1.1 then some (p1.1, p1.2) else ((fX4_refuse o p1.2 (5 : Int32)).bind fun h2 => some (p1.1, h2)))) else ((fX4_refuse o h (2 : Int32)).bind fun h3 => some ((-1 : Int32), h3)))
set_option maxRecDepth 100000 in
set_option maxHeartbeats 4000000 in
theorem ccX4_toldName {l : Launch} {sh : Sh} {adr : Nat → Nat} {r : Nat → Nat → Option Nat} {o : Nat} {tt : Nat} {hh : Nat} {a1 : Nat} {a1N : Nat} (hS : ES sh r tt hh o) (hA1 : NS sh r a1N a1) {h : HI}  {p : Int32 × HI} (H : fX4_toldName o a1 a1N h = some p) : CC l yX4_toldName cX4_toldName 3 (some .int) 2 [.ref o, .ref a1] sh adr (mk h r) (fun v τ => v = some (.int p.1) ∧ τ = mk p.2 r) := by
  refine CC.of (by decide) (Nat.le_of_ble_eq_true rfl) 1 [.ref o, .ref a1, .retAddr 0] rfl (fun X _ C E hZ => ?_)
  rw [fX4_toldName] at H
  refine ww_aload_n C dX4_toldName_0 0 rfl rfl ?_
  refine wk_getI C dX4_toldName_1 fl_X4_66 hS.1 rfl ?_
  refine ww_iconst (v := (1 : Int32)) C dX4_toldName_4 (by decide) ?_
  refine ww_icmp_eq C dX4_toldName_5 15 rfl (fun hc => ?_) (fun hc => ?_)
  · rw [if_pos hc] at H
    refine ww_aload_n C dX4_toldName_15 1 rfl rfl ?_
    refine ww_aload_n C dX4_toldName_16 0 rfl rfl ?_
    refine wk_getJ C dX4_toldName_17 fl_X4_101 hS.1 rfl ?_
    obtain ⟨p1, hc1, H⟩ := bd_of H
    refine ww_callV C hZ dX4_toldName_20 cw_X4_109 (ccX2_find hA1 hc1) hA1.1 ⟨by decide, rfl⟩ (by decide) rfl rfl (Nat.le_of_ble_eq_true rfl) ⟨Nat.zero_le _, Nat.zero_le _⟩ (fun v τ hp => ?_)
    obtain ⟨rfl, rfl⟩ := hp
    change WW X _ 23 [.ref o, .ref a1, .retAddr 0] [.int p1.1] _
    refine ww_istore_n C dX4_toldName_23 2 rfl (by decide) rfl [.ref o, .ref a1, .int p1.1] rfl ?_
    refine ww_iload_n C dX4_toldName_24 2 rfl rfl ?_
    refine ww_if_ge C dX4_toldName_25 33 rfl (fun hc => ?_) (fun hc => ?_)
    · rw [if_pos hc] at H
      refine ww_iload_n C dX4_toldName_33 2 rfl rfl ?_
      cases H
      exact ww_iret C E dX4_toldName_34 ⟨rfl, rfl⟩
    · rw [if_neg hc] at H
      refine ww_aload_n C dX4_toldName_28 0 rfl rfl ?_
      refine ww_iconst (v := (5 : Int32)) C dX4_toldName_29 (by decide) ?_
      obtain ⟨h2, hc1, H⟩ := bd_of H
      refine ww_callV C hZ dX4_toldName_30 cw_X4_98 (ccX4_refuse hS hc1) hS.1 ⟨by decide, rfl⟩ (by decide) rfl rfl (Nat.le_of_ble_eq_true rfl) ⟨Nat.zero_le _, Nat.zero_le _⟩ (fun v τ hp => ?_)
      obtain ⟨rfl, rfl⟩ := hp
      change WW X _ 33 [.ref o, .ref a1, .int p1.1] [] _
      refine ww_iload_n C dX4_toldName_33 2 rfl rfl ?_
      cases H
      exact ww_iret C E dX4_toldName_34 ⟨rfl, rfl⟩
  · rw [if_neg hc] at H
    refine ww_aload_n C dX4_toldName_8 0 rfl rfl ?_
    refine ww_iconst (v := (2 : Int32)) C dX4_toldName_9 (by decide) ?_
    obtain ⟨h3, hc1, H⟩ := bd_of H
    refine ww_callV C hZ dX4_toldName_10 cw_X4_98 (ccX4_refuse hS hc1) hS.1 ⟨by decide, rfl⟩ (by decide) rfl rfl (Nat.le_of_ble_eq_true rfl) ⟨Nat.zero_le _, Nat.zero_le _⟩ (fun v τ hp => ?_)
    obtain ⟨rfl, rfl⟩ := hp
    change WW X _ 13 [.ref o, .ref a1, .retAddr 0] [] _
    refine ww_iconst (v := (-1 : Int32)) C dX4_toldName_13 (by decide) ?_
    cases H
    exact ww_iret C E dX4_toldName_14 ⟨rfl, rfl⟩
def fX4_dealLine_109 (o : Nat) (tt : Nat) (hh : Nat) (h : HI) (v1 : Int32) (v2 : Int32) (v3 : Int32) (v4 : Int32) : Option (HI) := ((fX4_next o tt h).bind fun h10 => (if (h10.1 o 8) = 0 then ((fX1_addDeal hh h10 v1 v2 v3 v4).bind fun h11 => some h11) else some h10))
set_option maxRecDepth 100000 in
set_option maxHeartbeats 4000000 in
theorem cX4_dealLine_109 {X : CT} {sh : Sh} {adr : Nat → Nat} {r : Nat → Nat → Option Nat} {o : Nat} {tt : Nat} {hh : Nat} {p : HI} (hS : ES sh r tt hh o) (C : CX X yX4_dealLine.cls cX4_dealLine 5 6) (hZ : SZX X adr) (E : RX X none sh adr (fun v τ => v = none ∧ τ = mk p r)) {h : HI} {v1 : Int32} {v2 : Int32} {v3 : Int32} {v4 : Int32} (H : fX4_dealLine_109 o tt hh h v1 v2 v3 v4 = some p) : WW X (sh, adr, 0, 0) 109 [.ref o, .int v1, .int v2, .int v3, .int v4] [] (mk h r) := by
  rw [fX4_dealLine_109] at H
  refine ww_aload_n C dX4_dealLine_109 0 rfl rfl ?_
  obtain ⟨h10, hc1, H⟩ := bd_of H
  refine ww_callV C hZ dX4_dealLine_110 cw_X4_63 (ccX4_next hS hc1) hS.1 ⟨by decide, rfl⟩ (by decide) rfl rfl (Nat.le_of_ble_eq_true rfl) ⟨Nat.zero_le _, Nat.zero_le _⟩ (fun v τ hp => ?_)
  obtain ⟨rfl, rfl⟩ := hp
  change WW X _ 113 [.ref o, .int v1, .int v2, .int v3, .int v4] [] _
  refine ww_aload_n C dX4_dealLine_113 0 rfl rfl ?_
  refine wk_getI C dX4_dealLine_114 fl_X4_60 hS.1 rfl ?_
  refine ww_if_ne C dX4_dealLine_117 132 rfl (fun hc => ?_) (fun hc => ?_)
  · rw [if_neg hc] at H
    cases H
    exact ww_vret C E dX4_dealLine_132 ⟨rfl, rfl⟩
  · rw [if_pos hc] at H
    refine ww_aload_n C dX4_dealLine_120 0 rfl rfl ?_
    refine wk_getA C dX4_dealLine_121 fl_X4_28 hS.1 rfl (tX4_hall hS).1 ?_
    refine ww_iload_n C dX4_dealLine_124 1 rfl rfl ?_
    refine ww_iload_n C dX4_dealLine_125 2 rfl rfl ?_
    refine ww_iload_n C dX4_dealLine_126 3 rfl rfl ?_
    refine ww_iload C dX4_dealLine_127 rfl ?_
    obtain ⟨h11, hc1, H⟩ := bd_of H
    refine ww_callV C hZ dX4_dealLine_129 cw_X4_214 (ccX1_addDeal (tX4_hall hS).2 hc1) (tX4_hall hS).2.1 ⟨by decide, rfl⟩ (by decide) rfl rfl (Nat.le_of_ble_eq_true rfl) ⟨Nat.zero_le _, Nat.zero_le _⟩ (fun v τ hp => ?_)
    obtain ⟨rfl, rfl⟩ := hp
    change WW X _ 132 [.ref o, .int v1, .int v2, .int v3, .int v4] [] _
    cases H
    exact ww_vret C E dX4_dealLine_132 ⟨rfl, rfl⟩
def fX4_dealLine_81 (o : Nat) (tt : Nat) (hh : Nat) (h : HI) (v1 : Int32) (v2 : Int32) (v3 : Int32) : Option (HI) := ((fX4_next o tt h).bind fun h8 => ((fX4_toldName o (hh + 5) 4 h8).bind fun p9 => (if p9.1 = v2 then ((fX4_refuse o p9.2 (3 : Int32)).bind fun h12 => fX4_dealLine_109 o tt hh h12 v1 v2 v3 p9.1) else fX4_dealLine_109 o tt hh p9.2 v1 v2 v3 p9.1)))
set_option maxRecDepth 100000 in
set_option maxHeartbeats 4000000 in
theorem cX4_dealLine_81 {X : CT} {sh : Sh} {adr : Nat → Nat} {r : Nat → Nat → Option Nat} {o : Nat} {tt : Nat} {hh : Nat} {p : HI} (hS : ES sh r tt hh o) (C : CX X yX4_dealLine.cls cX4_dealLine 5 6) (hZ : SZX X adr) (E : RX X none sh adr (fun v τ => v = none ∧ τ = mk p r)) {h : HI} {v1 : Int32} {v2 : Int32} {v3 : Int32} (H : fX4_dealLine_81 o tt hh h v1 v2 v3 = some p) : WW X (sh, adr, 0, 0) 81 [.ref o, .int v1, .int v2, .int v3, .retAddr 0] [] (mk h r) := by
  rw [fX4_dealLine_81] at H
  refine ww_aload_n C dX4_dealLine_81 0 rfl rfl ?_
  obtain ⟨h8, hc1, H⟩ := bd_of H
  refine ww_callV C hZ dX4_dealLine_82 cw_X4_63 (ccX4_next hS hc1) hS.1 ⟨by decide, rfl⟩ (by decide) rfl rfl (Nat.le_of_ble_eq_true rfl) ⟨Nat.zero_le _, Nat.zero_le _⟩ (fun v τ hp => ?_)
  obtain ⟨rfl, rfl⟩ := hp
  change WW X _ 85 [.ref o, .int v1, .int v2, .int v3, .retAddr 0] [] _
  refine ww_aload_n C dX4_dealLine_85 0 rfl rfl ?_
  refine ww_aload_n C dX4_dealLine_86 0 rfl rfl ?_
  refine wk_getA C dX4_dealLine_87 fl_X4_28 hS.1 rfl (tX4_hall hS).1 ?_
  refine wk_getA C dX4_dealLine_90 fl_X4_186 (tX4_hall hS).2.1 rfl (tX1_matters (tX4_hall hS).2).1 ?_
  obtain ⟨p9, hc1, H⟩ := bd_of H
  refine ww_callV C hZ dX4_dealLine_93 cw_X4_196 (ccX4_toldName hS (tX1_matters (tX4_hall hS).2).2 hc1) hS.1 ⟨by decide, rfl⟩ (by decide) rfl rfl (Nat.le_of_ble_eq_true rfl) ⟨Nat.zero_le _, Nat.zero_le _⟩ (fun v τ hp => ?_)
  obtain ⟨rfl, rfl⟩ := hp
  change WW X _ 96 [.ref o, .int v1, .int v2, .int v3, .retAddr 0] [.int p9.1] _
  refine ww_istore C dX4_dealLine_96 (by decide) rfl [.ref o, .int v1, .int v2, .int v3, .int p9.1] rfl ?_
  refine ww_iload C dX4_dealLine_98 rfl ?_
  refine ww_iload_n C dX4_dealLine_100 2 rfl rfl ?_
  refine ww_icmp_ne C dX4_dealLine_101 109 rfl (fun hc => ?_) (fun hc => ?_)
  · rw [if_neg hc] at H
    exact cX4_dealLine_109 hS C hZ E H
  · rw [if_pos hc] at H
    refine ww_aload_n C dX4_dealLine_104 0 rfl rfl ?_
    refine ww_iconst (v := (3 : Int32)) C dX4_dealLine_105 (by decide) ?_
    obtain ⟨h12, hc1, H⟩ := bd_of H
    refine ww_callV C hZ dX4_dealLine_106 cw_X4_98 (ccX4_refuse hS hc1) hS.1 ⟨by decide, rfl⟩ (by decide) rfl rfl (Nat.le_of_ble_eq_true rfl) ⟨Nat.zero_le _, Nat.zero_le _⟩ (fun v τ hp => ?_)
    obtain ⟨rfl, rfl⟩ := hp
    change WW X _ 109 [.ref o, .int v1, .int v2, .int v3, .int p9.1] [] _
    exact cX4_dealLine_109 hS C hZ E H
def fX4_dealLine_17 (o : Nat) (tt : Nat) (hh : Nat) (h : HI) (s0 : Int32) : Option (HI) := ((fX4_startLine o tt h s0).bind fun h1 => ((fX4_toldName o (hh + 3) 6 h1).bind fun p2 => ((fX4_next o tt p2.2).bind fun h3 => ((fX4_toldName o (hh + 5) 4 h3).bind fun p4 => ((fX4_next o tt p4.2).bind fun h5 => ((fX4_take o tt h5 (138 : Int32)).bind fun h6 => ((fX4_toldName o (hh + 3) 6 h6).bind fun p7 => (if p7.1 = p2.1 then ((fX4_refuse o p7.2 (3 : Int32)).bind fun h13 => fX4_dealLine_81 o tt hh h13 p2.1 p4.1 p7.1) else fX4_dealLine_81 o tt hh p7.2 p2.1 p4.1 p7.1))))))))
set_option maxRecDepth 100000 in
set_option maxHeartbeats 4000000 in
theorem cX4_dealLine_17 {X : CT} {sh : Sh} {adr : Nat → Nat} {r : Nat → Nat → Option Nat} {o : Nat} {tt : Nat} {hh : Nat} {p : HI} (hS : ES sh r tt hh o) (C : CX X yX4_dealLine.cls cX4_dealLine 5 6) (hZ : SZX X adr) (E : RX X none sh adr (fun v τ => v = none ∧ τ = mk p r)) {h : HI} {s0 : Int32} (H : fX4_dealLine_17 o tt hh h s0 = some p) : WW X (sh, adr, 0, 0) 17 [.ref o, .retAddr 0, .retAddr 0, .retAddr 0, .retAddr 0] [.int s0, .ref o] (mk h r) := by
  rw [fX4_dealLine_17] at H
  obtain ⟨h1, hc1, H⟩ := bd_of H
  refine ww_callV C hZ dX4_dealLine_17 cw_X4_144 (ccX4_startLine hS hc1) hS.1 ⟨by decide, rfl⟩ (by decide) rfl rfl (Nat.le_of_ble_eq_true rfl) ⟨Nat.zero_le _, Nat.zero_le _⟩ (fun v τ hp => ?_)
  obtain ⟨rfl, rfl⟩ := hp
  change WW X _ 20 [.ref o, .retAddr 0, .retAddr 0, .retAddr 0, .retAddr 0] [] _
  refine ww_aload_n C dX4_dealLine_20 0 rfl rfl ?_
  refine ww_aload_n C dX4_dealLine_21 0 rfl rfl ?_
  refine wk_getA C dX4_dealLine_22 fl_X4_28 hS.1 rfl (tX4_hall hS).1 ?_
  refine wk_getA C dX4_dealLine_25 fl_X4_180 (tX4_hall hS).2.1 rfl (tX1_men (tX4_hall hS).2).1 ?_
  obtain ⟨p2, hc1, H⟩ := bd_of H
  refine ww_callV C hZ dX4_dealLine_28 cw_X4_196 (ccX4_toldName hS (tX1_men (tX4_hall hS).2).2 hc1) hS.1 ⟨by decide, rfl⟩ (by decide) rfl rfl (Nat.le_of_ble_eq_true rfl) ⟨Nat.zero_le _, Nat.zero_le _⟩ (fun v τ hp => ?_)
  obtain ⟨rfl, rfl⟩ := hp
  change WW X _ 31 [.ref o, .retAddr 0, .retAddr 0, .retAddr 0, .retAddr 0] [.int p2.1] _
  refine ww_istore_n C dX4_dealLine_31 1 rfl (by decide) rfl [.ref o, .int p2.1, .retAddr 0, .retAddr 0, .retAddr 0] rfl ?_
  refine ww_aload_n C dX4_dealLine_32 0 rfl rfl ?_
  obtain ⟨h3, hc1, H⟩ := bd_of H
  refine ww_callV C hZ dX4_dealLine_33 cw_X4_63 (ccX4_next hS hc1) hS.1 ⟨by decide, rfl⟩ (by decide) rfl rfl (Nat.le_of_ble_eq_true rfl) ⟨Nat.zero_le _, Nat.zero_le _⟩ (fun v τ hp => ?_)
  obtain ⟨rfl, rfl⟩ := hp
  change WW X _ 36 [.ref o, .int p2.1, .retAddr 0, .retAddr 0, .retAddr 0] [] _
  refine ww_aload_n C dX4_dealLine_36 0 rfl rfl ?_
  refine ww_aload_n C dX4_dealLine_37 0 rfl rfl ?_
  refine wk_getA C dX4_dealLine_38 fl_X4_28 hS.1 rfl (tX4_hall hS).1 ?_
  refine wk_getA C dX4_dealLine_41 fl_X4_186 (tX4_hall hS).2.1 rfl (tX1_matters (tX4_hall hS).2).1 ?_
  obtain ⟨p4, hc1, H⟩ := bd_of H
  refine ww_callV C hZ dX4_dealLine_44 cw_X4_196 (ccX4_toldName hS (tX1_matters (tX4_hall hS).2).2 hc1) hS.1 ⟨by decide, rfl⟩ (by decide) rfl rfl (Nat.le_of_ble_eq_true rfl) ⟨Nat.zero_le _, Nat.zero_le _⟩ (fun v τ hp => ?_)
  obtain ⟨rfl, rfl⟩ := hp
  change WW X _ 47 [.ref o, .int p2.1, .retAddr 0, .retAddr 0, .retAddr 0] [.int p4.1] _
  refine ww_istore_n C dX4_dealLine_47 2 rfl (by decide) rfl [.ref o, .int p2.1, .int p4.1, .retAddr 0, .retAddr 0] rfl ?_
  refine ww_aload_n C dX4_dealLine_48 0 rfl rfl ?_
  obtain ⟨h5, hc1, H⟩ := bd_of H
  refine ww_callV C hZ dX4_dealLine_49 cw_X4_63 (ccX4_next hS hc1) hS.1 ⟨by decide, rfl⟩ (by decide) rfl rfl (Nat.le_of_ble_eq_true rfl) ⟨Nat.zero_le _, Nat.zero_le _⟩ (fun v τ hp => ?_)
  obtain ⟨rfl, rfl⟩ := hp
  change WW X _ 52 [.ref o, .int p2.1, .int p4.1, .retAddr 0, .retAddr 0] [] _
  refine ww_aload_n C dX4_dealLine_52 0 rfl rfl ?_
  refine ww_sipush (v := (138 : Int32)) C dX4_dealLine_53 (by decide) ?_
  obtain ⟨h6, hc1, H⟩ := bd_of H
  refine ww_callV C hZ dX4_dealLine_56 cw_X4_154 (ccX4_take hS hc1) hS.1 ⟨by decide, rfl⟩ (by decide) rfl rfl (Nat.le_of_ble_eq_true rfl) ⟨Nat.zero_le _, Nat.zero_le _⟩ (fun v τ hp => ?_)
  obtain ⟨rfl, rfl⟩ := hp
  change WW X _ 59 [.ref o, .int p2.1, .int p4.1, .retAddr 0, .retAddr 0] [] _
  refine ww_aload_n C dX4_dealLine_59 0 rfl rfl ?_
  refine ww_aload_n C dX4_dealLine_60 0 rfl rfl ?_
  refine wk_getA C dX4_dealLine_61 fl_X4_28 hS.1 rfl (tX4_hall hS).1 ?_
  refine wk_getA C dX4_dealLine_64 fl_X4_180 (tX4_hall hS).2.1 rfl (tX1_men (tX4_hall hS).2).1 ?_
  obtain ⟨p7, hc1, H⟩ := bd_of H
  refine ww_callV C hZ dX4_dealLine_67 cw_X4_196 (ccX4_toldName hS (tX1_men (tX4_hall hS).2).2 hc1) hS.1 ⟨by decide, rfl⟩ (by decide) rfl rfl (Nat.le_of_ble_eq_true rfl) ⟨Nat.zero_le _, Nat.zero_le _⟩ (fun v τ hp => ?_)
  obtain ⟨rfl, rfl⟩ := hp
  change WW X _ 70 [.ref o, .int p2.1, .int p4.1, .retAddr 0, .retAddr 0] [.int p7.1] _
  refine ww_istore_n C dX4_dealLine_70 3 rfl (by decide) rfl [.ref o, .int p2.1, .int p4.1, .int p7.1, .retAddr 0] rfl ?_
  refine ww_iload_n C dX4_dealLine_71 3 rfl rfl ?_
  refine ww_iload_n C dX4_dealLine_72 1 rfl rfl ?_
  refine ww_icmp_ne C dX4_dealLine_73 81 rfl (fun hc => ?_) (fun hc => ?_)
  · rw [if_neg hc] at H
    exact cX4_dealLine_81 hS C hZ E H
  · rw [if_pos hc] at H
    refine ww_aload_n C dX4_dealLine_76 0 rfl rfl ?_
    refine ww_iconst (v := (3 : Int32)) C dX4_dealLine_77 (by decide) ?_
    obtain ⟨h13, hc1, H⟩ := bd_of H
    refine ww_callV C hZ dX4_dealLine_78 cw_X4_98 (ccX4_refuse hS hc1) hS.1 ⟨by decide, rfl⟩ (by decide) rfl rfl (Nat.le_of_ble_eq_true rfl) ⟨Nat.zero_le _, Nat.zero_le _⟩ (fun v τ hp => ?_)
    obtain ⟨rfl, rfl⟩ := hp
    change WW X _ 81 [.ref o, .int p2.1, .int p4.1, .int p7.1, .retAddr 0] [] _
    exact cX4_dealLine_81 hS C hZ E H
def fX4_dealLine (o : Nat) (tt : Nat) (hh : Nat) (h : HI) : Option (HI) := (if (h.1 hh 17) < (4 : Int32) then fX4_dealLine_17 o tt hh h (0 : Int32) else fX4_dealLine_17 o tt hh h (1 : Int32))
set_option maxRecDepth 100000 in
set_option maxHeartbeats 4000000 in
theorem ccX4_dealLine {l : Launch} {sh : Sh} {adr : Nat → Nat} {r : Nat → Nat → Option Nat} {o : Nat} {tt : Nat} {hh : Nat} (hS : ES sh r tt hh o) {h : HI}  {p : HI} (H : fX4_dealLine o tt hh h = some p) : CC l yX4_dealLine cX4_dealLine 5 none 6 [.ref o] sh adr (mk h r) (fun v τ => v = none ∧ τ = mk p r) := by
  refine CC.of (by decide) (Nat.le_of_ble_eq_true rfl) 4 [.ref o, .retAddr 0, .retAddr 0, .retAddr 0, .retAddr 0] rfl (fun X _ C E hZ => ?_)
  rw [fX4_dealLine] at H
  refine ww_aload_n C dX4_dealLine_0 0 rfl rfl ?_
  refine ww_aload_n C dX4_dealLine_1 0 rfl rfl ?_
  refine wk_getA C dX4_dealLine_2 fl_X4_28 hS.1 rfl (tX4_hall hS).1 ?_
  refine wk_getI C dX4_dealLine_5 fl_X4_211 (tX4_hall hS).2.1 rfl ?_
  refine ww_iconst (v := (4 : Int32)) C dX4_dealLine_8 (by decide) ?_
  refine ww_icmp_lt C dX4_dealLine_9 16 rfl (fun hc => ?_) (fun hc => ?_)
  · rw [if_pos hc] at H
    refine ww_iconst (v := (0 : Int32)) C dX4_dealLine_16 (by decide) ?_
    exact cX4_dealLine_17 hS C hZ E H
  · rw [if_neg hc] at H
    refine ww_iconst (v := (1 : Int32)) C dX4_dealLine_12 (by decide) ?_
    refine ww_goto C dX4_dealLine_13 17 rfl ?_
    exact cX4_dealLine_17 hS C hZ E H
def fX4_isJoint (o : Nat) (h : HI) (a1 : Int32) : Option (Int32 × HI) := (if a1 = (0 : Int32) then (if (h.1 o 4) = (141 : Int32) then some ((1 : Int32), h) else some ((0 : Int32), h)) else (if a1 = (1 : Int32) then (if (h.1 o 4) = (142 : Int32) then some ((1 : Int32), h) else some ((0 : Int32), h)) else (if a1 = (2 : Int32) then (if (h.1 o 4) = (60 : Int32) then some ((1 : Int32), h) else (if (h.1 o 4) = (62 : Int32) then some ((1 : Int32), h) else (if (h.1 o 4) = (61 : Int32) then some ((1 : Int32), h) else some ((0 : Int32), h)))) else (if a1 = (3 : Int32) then (if (h.1 o 4) = (43 : Int32) then some ((1 : Int32), h) else (if (h.1 o 4) = (45 : Int32) then some ((1 : Int32), h) else some ((0 : Int32), h))) else (if (h.1 o 4) = (42 : Int32) then some ((1 : Int32), h) else some ((0 : Int32), h))))))
set_option maxRecDepth 100000 in
set_option maxHeartbeats 4000000 in
theorem ccX4_isJoint {l : Launch} {sh : Sh} {adr : Nat → Nat} {r : Nat → Nat → Option Nat} {o : Nat} {tt : Nat} {hh : Nat} (hS : ES sh r tt hh o) {h : HI} {a1 : Int32} {p : Int32 × HI} (H : fX4_isJoint o h a1 = some p) : CC l yX4_isJoint cX4_isJoint 2 (some .boolean) 0 [.ref o, .int a1] sh adr (mk h r) (fun v τ => v = some (.int p.1) ∧ τ = mk p.2 r) := by
  refine CC.of (by decide) (Nat.le_of_ble_eq_true rfl) 0 [.ref o, .int a1] rfl (fun X _ C E hZ => ?_)
  rw [fX4_isJoint] at H
  refine ww_iload_n C dX4_isJoint_0 1 rfl rfl ?_
  by_cases hc0 : a1 = (0 : Int32)
  · rw [if_pos hc0] at H
    refine ww_tableIn (off := 31) C dX4_isJoint_1 (by rw [hc0]; decide) (by rw [hc0]; decide) (by rw [hc0]; rfl) 32 rfl ?_
    refine ww_aload_n C dX4_isJoint_32 0 rfl rfl ?_
    refine wk_getI C dX4_isJoint_33 fl_X4_66 hS.1 rfl ?_
    refine ww_sipush (v := (141 : Int32)) C dX4_isJoint_36 (by decide) ?_
    refine ww_icmp_ne C dX4_isJoint_39 46 rfl (fun hc => ?_) (fun hc => ?_)
    · rw [if_neg hc] at H
      refine ww_iconst (v := (0 : Int32)) C dX4_isJoint_46 (by decide) ?_
      cases H
      exact ww_zret C E dX4_isJoint_47 (Or.inl rfl) ⟨rfl, rfl⟩
    · rw [if_pos hc] at H
      refine ww_iconst (v := (1 : Int32)) C dX4_isJoint_42 (by decide) ?_
      refine ww_goto C dX4_isJoint_43 47 rfl ?_
      cases H
      exact ww_zret C E dX4_isJoint_47 (Or.inr rfl) ⟨rfl, rfl⟩
  · rw [if_neg hc0] at H
    by_cases hc1 : a1 = (1 : Int32)
    · rw [if_pos hc1] at H
      refine ww_tableIn (off := 47) C dX4_isJoint_1 (by rw [hc1]; decide) (by rw [hc1]; decide) (by rw [hc1]; rfl) 48 rfl ?_
      refine ww_aload_n C dX4_isJoint_48 0 rfl rfl ?_
      refine wk_getI C dX4_isJoint_49 fl_X4_66 hS.1 rfl ?_
      refine ww_sipush (v := (142 : Int32)) C dX4_isJoint_52 (by decide) ?_
      refine ww_icmp_ne C dX4_isJoint_55 62 rfl (fun hc => ?_) (fun hc => ?_)
      · rw [if_neg hc] at H
        refine ww_iconst (v := (0 : Int32)) C dX4_isJoint_62 (by decide) ?_
        cases H
        exact ww_zret C E dX4_isJoint_63 (Or.inl rfl) ⟨rfl, rfl⟩
      · rw [if_pos hc] at H
        refine ww_iconst (v := (1 : Int32)) C dX4_isJoint_58 (by decide) ?_
        refine ww_goto C dX4_isJoint_59 63 rfl ?_
        cases H
        exact ww_zret C E dX4_isJoint_63 (Or.inr rfl) ⟨rfl, rfl⟩
    · rw [if_neg hc1] at H
      by_cases hc2 : a1 = (2 : Int32)
      · rw [if_pos hc2] at H
        refine ww_tableIn (off := 63) C dX4_isJoint_1 (by rw [hc2]; decide) (by rw [hc2]; decide) (by rw [hc2]; rfl) 64 rfl ?_
        refine ww_aload_n C dX4_isJoint_64 0 rfl rfl ?_
        refine wk_getI C dX4_isJoint_65 fl_X4_66 hS.1 rfl ?_
        refine ww_bipush (v := (60 : Int32)) C dX4_isJoint_68 (by decide) ?_
        refine ww_icmp_eq C dX4_isJoint_70 91 rfl (fun hc => ?_) (fun hc => ?_)
        · rw [if_pos hc] at H
          refine ww_iconst (v := (1 : Int32)) C dX4_isJoint_91 (by decide) ?_
          refine ww_goto C dX4_isJoint_92 96 rfl ?_
          cases H
          exact ww_zret C E dX4_isJoint_96 (Or.inr rfl) ⟨rfl, rfl⟩
        · rw [if_neg hc] at H
          refine ww_aload_n C dX4_isJoint_73 0 rfl rfl ?_
          refine wk_getI C dX4_isJoint_74 fl_X4_66 hS.1 rfl ?_
          refine ww_bipush (v := (62 : Int32)) C dX4_isJoint_77 (by decide) ?_
          refine ww_icmp_eq C dX4_isJoint_79 91 rfl (fun hc => ?_) (fun hc => ?_)
          · rw [if_pos hc] at H
            refine ww_iconst (v := (1 : Int32)) C dX4_isJoint_91 (by decide) ?_
            refine ww_goto C dX4_isJoint_92 96 rfl ?_
            cases H
            exact ww_zret C E dX4_isJoint_96 (Or.inr rfl) ⟨rfl, rfl⟩
          · rw [if_neg hc] at H
            refine ww_aload_n C dX4_isJoint_82 0 rfl rfl ?_
            refine wk_getI C dX4_isJoint_83 fl_X4_66 hS.1 rfl ?_
            refine ww_bipush (v := (61 : Int32)) C dX4_isJoint_86 (by decide) ?_
            refine ww_icmp_ne C dX4_isJoint_88 95 rfl (fun hc => ?_) (fun hc => ?_)
            · rw [if_neg hc] at H
              refine ww_iconst (v := (0 : Int32)) C dX4_isJoint_95 (by decide) ?_
              cases H
              exact ww_zret C E dX4_isJoint_96 (Or.inl rfl) ⟨rfl, rfl⟩
            · rw [if_pos hc] at H
              refine ww_iconst (v := (1 : Int32)) C dX4_isJoint_91 (by decide) ?_
              refine ww_goto C dX4_isJoint_92 96 rfl ?_
              cases H
              exact ww_zret C E dX4_isJoint_96 (Or.inr rfl) ⟨rfl, rfl⟩
      · rw [if_neg hc2] at H
        by_cases hc3 : a1 = (3 : Int32)
        · rw [if_pos hc3] at H
          refine ww_tableIn (off := 96) C dX4_isJoint_1 (by rw [hc3]; decide) (by rw [hc3]; decide) (by rw [hc3]; rfl) 97 rfl ?_
          refine ww_aload_n C dX4_isJoint_97 0 rfl rfl ?_
          refine wk_getI C dX4_isJoint_98 fl_X4_66 hS.1 rfl ?_
          refine ww_bipush (v := (43 : Int32)) C dX4_isJoint_101 (by decide) ?_
          refine ww_icmp_eq C dX4_isJoint_103 115 rfl (fun hc => ?_) (fun hc => ?_)
          · rw [if_pos hc] at H
            refine ww_iconst (v := (1 : Int32)) C dX4_isJoint_115 (by decide) ?_
            refine ww_goto C dX4_isJoint_116 120 rfl ?_
            cases H
            exact ww_zret C E dX4_isJoint_120 (Or.inr rfl) ⟨rfl, rfl⟩
          · rw [if_neg hc] at H
            refine ww_aload_n C dX4_isJoint_106 0 rfl rfl ?_
            refine wk_getI C dX4_isJoint_107 fl_X4_66 hS.1 rfl ?_
            refine ww_bipush (v := (45 : Int32)) C dX4_isJoint_110 (by decide) ?_
            refine ww_icmp_ne C dX4_isJoint_112 119 rfl (fun hc => ?_) (fun hc => ?_)
            · rw [if_neg hc] at H
              refine ww_iconst (v := (0 : Int32)) C dX4_isJoint_119 (by decide) ?_
              cases H
              exact ww_zret C E dX4_isJoint_120 (Or.inl rfl) ⟨rfl, rfl⟩
            · rw [if_pos hc] at H
              refine ww_iconst (v := (1 : Int32)) C dX4_isJoint_115 (by decide) ?_
              refine ww_goto C dX4_isJoint_116 120 rfl ?_
              cases H
              exact ww_zret C E dX4_isJoint_120 (Or.inr rfl) ⟨rfl, rfl⟩
        · rw [if_neg hc3] at H
          refine ww_tableOut C dX4_isJoint_1 (by have q0 := lv_neT (k := (0 : Int32)) (a := 0) hc0 (by decide); have q1 := lv_neT (k := (1 : Int32)) (a := 1) hc1 (by decide); have q2 := lv_neT (k := (2 : Int32)) (a := 2) hc2 (by decide); have q3 := lv_neT (k := (3 : Int32)) (a := 3) hc3 (by decide); omega) 121 rfl ?_
          refine ww_aload_n C dX4_isJoint_121 0 rfl rfl ?_
          refine wk_getI C dX4_isJoint_122 fl_X4_66 hS.1 rfl ?_
          refine ww_bipush (v := (42 : Int32)) C dX4_isJoint_125 (by decide) ?_
          refine ww_icmp_ne C dX4_isJoint_127 134 rfl (fun hc => ?_) (fun hc => ?_)
          · rw [if_neg hc] at H
            refine ww_iconst (v := (0 : Int32)) C dX4_isJoint_134 (by decide) ?_
            cases H
            exact ww_zret C E dX4_isJoint_135 (Or.inl rfl) ⟨rfl, rfl⟩
          · rw [if_pos hc] at H
            refine ww_iconst (v := (1 : Int32)) C dX4_isJoint_130 (by decide) ?_
            refine ww_goto C dX4_isJoint_131 135 rfl ?_
            cases H
            exact ww_zret C E dX4_isJoint_135 (Or.inr rfl) ⟨rfl, rfl⟩
def fX4_manLine (o : Nat) (tt : Nat) (hh : Nat) (h : HI) : Option (HI) := ((fX2_isFull (hh + 3) 6 h).bind fun p1 => ((fX4_startLine o tt p1.2 p1.1).bind fun h2 => ((fX4_takeNewName o tt (hh + 3) 6 h2).bind fun p3 => ((fX4_take o tt p3.2 (132 : Int32)).bind fun h4 => ((fX4_takeNumber o tt h4 (1 : Int32) (30 : Int32)).bind fun p5 => ((fX4_takeIf o tt p5.2 (133 : Int32)).bind fun p6 => (if (p6.2.1 o 8) = 0 then ((fX1_addMan hh p6.2 p3.1 p5.1 p6.1).bind fun h7 => some h7) else some p6.2)))))))
set_option maxRecDepth 100000 in
set_option maxHeartbeats 4000000 in
theorem ccX4_manLine {l : Launch} {sh : Sh} {adr : Nat → Nat} {r : Nat → Nat → Option Nat} {o : Nat} {tt : Nat} {hh : Nat} (hS : ES sh r tt hh o) {h : HI}  {p : HI} (H : fX4_manLine o tt hh h = some p) : CC l yX4_manLine cX4_manLine 5 none 6 [.ref o] sh adr (mk h r) (fun v τ => v = none ∧ τ = mk p r) := by
  refine CC.of (by decide) (Nat.le_of_ble_eq_true rfl) 4 [.ref o, .retAddr 0, .retAddr 0, .retAddr 0, .retAddr 0] rfl (fun X _ C E hZ => ?_)
  rw [fX4_manLine] at H
  refine ww_aload_n C dX4_manLine_0 0 rfl rfl ?_
  refine ww_aload_n C dX4_manLine_1 0 rfl rfl ?_
  refine wk_getA C dX4_manLine_2 fl_X4_28 hS.1 rfl (tX4_hall hS).1 ?_
  refine wk_getA C dX4_manLine_5 fl_X4_180 (tX4_hall hS).2.1 rfl (tX1_men (tX4_hall hS).2).1 ?_
  obtain ⟨p1, hc1, H⟩ := bd_of H
  refine ww_callV C hZ dX4_manLine_8 cw_X4_160 (ccX2_isFull (tX1_men (tX4_hall hS).2).2 hc1) (tX1_men (tX4_hall hS).2).2.1 ⟨by decide, rfl⟩ (by decide) rfl rfl (Nat.le_of_ble_eq_true rfl) ⟨Nat.zero_le _, Nat.zero_le _⟩ (fun v τ hp => ?_)
  obtain ⟨rfl, rfl⟩ := hp
  change WW X _ 11 [.ref o, .retAddr 0, .retAddr 0, .retAddr 0, .retAddr 0] [.int p1.1, .ref o] _
  obtain ⟨h2, hc1, H⟩ := bd_of H
  refine ww_callV C hZ dX4_manLine_11 cw_X4_144 (ccX4_startLine hS hc1) hS.1 ⟨by decide, rfl⟩ (by decide) rfl rfl (Nat.le_of_ble_eq_true rfl) ⟨Nat.zero_le _, Nat.zero_le _⟩ (fun v τ hp => ?_)
  obtain ⟨rfl, rfl⟩ := hp
  change WW X _ 14 [.ref o, .retAddr 0, .retAddr 0, .retAddr 0, .retAddr 0] [] _
  refine ww_aload_n C dX4_manLine_14 0 rfl rfl ?_
  refine ww_aload_n C dX4_manLine_15 0 rfl rfl ?_
  refine wk_getA C dX4_manLine_16 fl_X4_28 hS.1 rfl (tX4_hall hS).1 ?_
  refine wk_getA C dX4_manLine_19 fl_X4_180 (tX4_hall hS).2.1 rfl (tX1_men (tX4_hall hS).2).1 ?_
  obtain ⟨p3, hc1, H⟩ := bd_of H
  refine ww_callV C hZ dX4_manLine_22 cw_X4_164 (ccX4_takeNewName hS (tX1_men (tX4_hall hS).2).2 hc1) hS.1 ⟨by decide, rfl⟩ (by decide) rfl rfl (Nat.le_of_ble_eq_true rfl) ⟨Nat.zero_le _, Nat.zero_le _⟩ (fun v τ hp => ?_)
  obtain ⟨rfl, rfl⟩ := hp
  change WW X _ 25 [.ref o, .retAddr 0, .retAddr 0, .retAddr 0, .retAddr 0] [.long p3.1] _
  refine ww_lstore_n C dX4_manLine_25 1 rfl (by decide) rfl [.ref o, .long p3.1, .retAddr 0, .retAddr 0, .retAddr 0] rfl ?_
  refine ww_aload_n C dX4_manLine_26 0 rfl rfl ?_
  refine ww_sipush (v := (132 : Int32)) C dX4_manLine_27 (by decide) ?_
  obtain ⟨h4, hc1, H⟩ := bd_of H
  refine ww_callV C hZ dX4_manLine_30 cw_X4_154 (ccX4_take hS hc1) hS.1 ⟨by decide, rfl⟩ (by decide) rfl rfl (Nat.le_of_ble_eq_true rfl) ⟨Nat.zero_le _, Nat.zero_le _⟩ (fun v τ hp => ?_)
  obtain ⟨rfl, rfl⟩ := hp
  change WW X _ 33 [.ref o, .long p3.1, .retAddr 0, .retAddr 0, .retAddr 0] [] _
  refine ww_aload_n C dX4_manLine_33 0 rfl rfl ?_
  refine ww_iconst (v := (1 : Int32)) C dX4_manLine_34 (by decide) ?_
  refine ww_bipush (v := (30 : Int32)) C dX4_manLine_35 (by decide) ?_
  obtain ⟨p5, hc1, H⟩ := bd_of H
  refine ww_callV C hZ dX4_manLine_37 cw_X4_168 (ccX4_takeNumber hS hc1) hS.1 ⟨by decide, rfl⟩ (by decide) rfl rfl (Nat.le_of_ble_eq_true rfl) ⟨Nat.zero_le _, Nat.zero_le _⟩ (fun v τ hp => ?_)
  obtain ⟨rfl, rfl⟩ := hp
  change WW X _ 40 [.ref o, .long p3.1, .retAddr 0, .retAddr 0, .retAddr 0] [.int p5.1] _
  refine ww_istore_n C dX4_manLine_40 3 rfl (by decide) rfl [.ref o, .long p3.1, .retAddr 0, .int p5.1, .retAddr 0] rfl ?_
  refine ww_aload_n C dX4_manLine_41 0 rfl rfl ?_
  refine ww_sipush (v := (133 : Int32)) C dX4_manLine_42 (by decide) ?_
  obtain ⟨p6, hc1, H⟩ := bd_of H
  refine ww_callV C hZ dX4_manLine_45 cw_X4_172 (ccX4_takeIf hS hc1) hS.1 ⟨by decide, rfl⟩ (by decide) rfl rfl (Nat.le_of_ble_eq_true rfl) ⟨Nat.zero_le _, Nat.zero_le _⟩ (fun v τ hp => ?_)
  obtain ⟨rfl, rfl⟩ := hp
  change WW X _ 48 [.ref o, .long p3.1, .retAddr 0, .int p5.1, .retAddr 0] [.int p6.1] _
  refine ww_istore C dX4_manLine_48 (by decide) rfl [.ref o, .long p3.1, .retAddr 0, .int p5.1, .int p6.1] rfl ?_
  refine ww_aload_n C dX4_manLine_50 0 rfl rfl ?_
  refine wk_getI C dX4_manLine_51 fl_X4_60 hS.1 rfl ?_
  refine ww_if_ne C dX4_manLine_54 68 rfl (fun hc => ?_) (fun hc => ?_)
  · rw [if_neg hc] at H
    cases H
    exact ww_vret C E dX4_manLine_68 ⟨rfl, rfl⟩
  · rw [if_pos hc] at H
    refine ww_aload_n C dX4_manLine_57 0 rfl rfl ?_
    refine wk_getA C dX4_manLine_58 fl_X4_28 hS.1 rfl (tX4_hall hS).1 ?_
    refine ww_lload_n C dX4_manLine_61 1 rfl rfl ?_
    refine ww_iload_n C dX4_manLine_62 3 rfl rfl ?_
    refine ww_iload C dX4_manLine_63 rfl ?_
    obtain ⟨h7, hc1, H⟩ := bd_of H
    refine ww_callV C hZ dX4_manLine_65 cw_X4_183 (ccX1_addMan (tX4_hall hS).2 hc1) (tX4_hall hS).2.1 ⟨by decide, rfl⟩ (by decide) rfl rfl (Nat.le_of_ble_eq_true rfl) ⟨Nat.zero_le _, Nat.zero_le _⟩ (fun v τ hp => ?_)
    obtain ⟨rfl, rfl⟩ := hp
    change WW X _ 68 [.ref o, .long p3.1, .retAddr 0, .int p5.1, .int p6.1] [] _
    cases H
    exact ww_vret C E dX4_manLine_68 ⟨rfl, rfl⟩
def fX4_matterLine (o : Nat) (tt : Nat) (hh : Nat) (h : HI) : Option (HI) := ((fX2_isFull (hh + 5) 4 h).bind fun p1 => ((fX4_startLine o tt p1.2 p1.1).bind fun h2 => ((fX4_takeNewName o tt (hh + 5) 4 h2).bind fun p3 => ((fX4_take o tt p3.2 (135 : Int32)).bind fun h4 => ((fX4_takeNumber o tt h4 (1 : Int32) (999 : Int32)).bind fun p5 => (if (p5.2.1 o 8) = 0 then ((fX1_addMatter hh p5.2 p3.1 p5.1).bind fun h6 => some h6) else some p5.2))))))
set_option maxRecDepth 100000 in
set_option maxHeartbeats 4000000 in
theorem ccX4_matterLine {l : Launch} {sh : Sh} {adr : Nat → Nat} {r : Nat → Nat → Option Nat} {o : Nat} {tt : Nat} {hh : Nat} (hS : ES sh r tt hh o) {h : HI}  {p : HI} (H : fX4_matterLine o tt hh h = some p) : CC l yX4_matterLine cX4_matterLine 4 none 6 [.ref o] sh adr (mk h r) (fun v τ => v = none ∧ τ = mk p r) := by
  refine CC.of (by decide) (Nat.le_of_ble_eq_true rfl) 3 [.ref o, .retAddr 0, .retAddr 0, .retAddr 0] rfl (fun X _ C E hZ => ?_)
  rw [fX4_matterLine] at H
  refine ww_aload_n C dX4_matterLine_0 0 rfl rfl ?_
  refine ww_aload_n C dX4_matterLine_1 0 rfl rfl ?_
  refine wk_getA C dX4_matterLine_2 fl_X4_28 hS.1 rfl (tX4_hall hS).1 ?_
  refine wk_getA C dX4_matterLine_5 fl_X4_186 (tX4_hall hS).2.1 rfl (tX1_matters (tX4_hall hS).2).1 ?_
  obtain ⟨p1, hc1, H⟩ := bd_of H
  refine ww_callV C hZ dX4_matterLine_8 cw_X4_160 (ccX2_isFull (tX1_matters (tX4_hall hS).2).2 hc1) (tX1_matters (tX4_hall hS).2).2.1 ⟨by decide, rfl⟩ (by decide) rfl rfl (Nat.le_of_ble_eq_true rfl) ⟨Nat.zero_le _, Nat.zero_le _⟩ (fun v τ hp => ?_)
  obtain ⟨rfl, rfl⟩ := hp
  change WW X _ 11 [.ref o, .retAddr 0, .retAddr 0, .retAddr 0] [.int p1.1, .ref o] _
  obtain ⟨h2, hc1, H⟩ := bd_of H
  refine ww_callV C hZ dX4_matterLine_11 cw_X4_144 (ccX4_startLine hS hc1) hS.1 ⟨by decide, rfl⟩ (by decide) rfl rfl (Nat.le_of_ble_eq_true rfl) ⟨Nat.zero_le _, Nat.zero_le _⟩ (fun v τ hp => ?_)
  obtain ⟨rfl, rfl⟩ := hp
  change WW X _ 14 [.ref o, .retAddr 0, .retAddr 0, .retAddr 0] [] _
  refine ww_aload_n C dX4_matterLine_14 0 rfl rfl ?_
  refine ww_aload_n C dX4_matterLine_15 0 rfl rfl ?_
  refine wk_getA C dX4_matterLine_16 fl_X4_28 hS.1 rfl (tX4_hall hS).1 ?_
  refine wk_getA C dX4_matterLine_19 fl_X4_186 (tX4_hall hS).2.1 rfl (tX1_matters (tX4_hall hS).2).1 ?_
  obtain ⟨p3, hc1, H⟩ := bd_of H
  refine ww_callV C hZ dX4_matterLine_22 cw_X4_164 (ccX4_takeNewName hS (tX1_matters (tX4_hall hS).2).2 hc1) hS.1 ⟨by decide, rfl⟩ (by decide) rfl rfl (Nat.le_of_ble_eq_true rfl) ⟨Nat.zero_le _, Nat.zero_le _⟩ (fun v τ hp => ?_)
  obtain ⟨rfl, rfl⟩ := hp
  change WW X _ 25 [.ref o, .retAddr 0, .retAddr 0, .retAddr 0] [.long p3.1] _
  refine ww_lstore_n C dX4_matterLine_25 1 rfl (by decide) rfl [.ref o, .long p3.1, .retAddr 0, .retAddr 0] rfl ?_
  refine ww_aload_n C dX4_matterLine_26 0 rfl rfl ?_
  refine ww_sipush (v := (135 : Int32)) C dX4_matterLine_27 (by decide) ?_
  obtain ⟨h4, hc1, H⟩ := bd_of H
  refine ww_callV C hZ dX4_matterLine_30 cw_X4_154 (ccX4_take hS hc1) hS.1 ⟨by decide, rfl⟩ (by decide) rfl rfl (Nat.le_of_ble_eq_true rfl) ⟨Nat.zero_le _, Nat.zero_le _⟩ (fun v τ hp => ?_)
  obtain ⟨rfl, rfl⟩ := hp
  change WW X _ 33 [.ref o, .long p3.1, .retAddr 0, .retAddr 0] [] _
  refine ww_aload_n C dX4_matterLine_33 0 rfl rfl ?_
  refine ww_iconst (v := (1 : Int32)) C dX4_matterLine_34 (by decide) ?_
  refine ww_sipush (v := (999 : Int32)) C dX4_matterLine_35 (by decide) ?_
  obtain ⟨p5, hc1, H⟩ := bd_of H
  refine ww_callV C hZ dX4_matterLine_38 cw_X4_168 (ccX4_takeNumber hS hc1) hS.1 ⟨by decide, rfl⟩ (by decide) rfl rfl (Nat.le_of_ble_eq_true rfl) ⟨Nat.zero_le _, Nat.zero_le _⟩ (fun v τ hp => ?_)
  obtain ⟨rfl, rfl⟩ := hp
  change WW X _ 41 [.ref o, .long p3.1, .retAddr 0, .retAddr 0] [.int p5.1] _
  refine ww_istore_n C dX4_matterLine_41 3 rfl (by decide) rfl [.ref o, .long p3.1, .retAddr 0, .int p5.1] rfl ?_
  refine ww_aload_n C dX4_matterLine_42 0 rfl rfl ?_
  refine wk_getI C dX4_matterLine_43 fl_X4_60 hS.1 rfl ?_
  refine ww_if_ne C dX4_matterLine_46 58 rfl (fun hc => ?_) (fun hc => ?_)
  · rw [if_neg hc] at H
    cases H
    exact ww_vret C E dX4_matterLine_58 ⟨rfl, rfl⟩
  · rw [if_pos hc] at H
    refine ww_aload_n C dX4_matterLine_49 0 rfl rfl ?_
    refine wk_getA C dX4_matterLine_50 fl_X4_28 hS.1 rfl (tX4_hall hS).1 ?_
    refine ww_lload_n C dX4_matterLine_53 1 rfl rfl ?_
    refine ww_iload_n C dX4_matterLine_54 3 rfl rfl ?_
    obtain ⟨h6, hc1, H⟩ := bd_of H
    refine ww_callV C hZ dX4_matterLine_55 cw_X4_189 (ccX1_addMatter (tX4_hall hS).2 hc1) (tX4_hall hS).2.1 ⟨by decide, rfl⟩ (by decide) rfl rfl (Nat.le_of_ble_eq_true rfl) ⟨Nat.zero_le _, Nat.zero_le _⟩ (fun v τ hp => ?_)
    obtain ⟨rfl, rfl⟩ := hp
    change WW X _ 58 [.ref o, .long p3.1, .retAddr 0, .int p5.1] [] _
    cases H
    exact ww_vret C E dX4_matterLine_58 ⟨rfl, rfl⟩
def fX4_napLine_16 (o : Nat) (tt : Nat) (hh : Nat) (h : HI) (s0 : Int32) : Option (HI) := ((fX4_startLine o tt h s0).bind fun h1 => ((fX4_takeNumber o tt h1 (1 : Int32) (99 : Int32)).bind fun p2 => (if (p2.2.1 o 8) = 0 then some (uI p2.2 hh 18 p2.1) else some p2.2)))
set_option maxRecDepth 100000 in
set_option maxHeartbeats 4000000 in
theorem cX4_napLine_16 {X : CT} {sh : Sh} {adr : Nat → Nat} {r : Nat → Nat → Option Nat} {o : Nat} {tt : Nat} {hh : Nat} {p : HI} (hS : ES sh r tt hh o) (C : CX X yX4_napLine.cls cX4_napLine 2 6) (hZ : SZX X adr) (E : RX X none sh adr (fun v τ => v = none ∧ τ = mk p r)) {h : HI} {s0 : Int32} (H : fX4_napLine_16 o tt hh h s0 = some p) : WW X (sh, adr, 0, 0) 16 [.ref o, .retAddr 0] [.int s0, .ref o] (mk h r) := by
  rw [fX4_napLine_16] at H
  obtain ⟨h1, hc1, H⟩ := bd_of H
  refine ww_callV C hZ dX4_napLine_16 cw_X4_144 (ccX4_startLine hS hc1) hS.1 ⟨by decide, rfl⟩ (by decide) rfl rfl (Nat.le_of_ble_eq_true rfl) ⟨Nat.zero_le _, Nat.zero_le _⟩ (fun v τ hp => ?_)
  obtain ⟨rfl, rfl⟩ := hp
  change WW X _ 19 [.ref o, .retAddr 0] [] _
  refine ww_aload_n C dX4_napLine_19 0 rfl rfl ?_
  refine ww_iconst (v := (1 : Int32)) C dX4_napLine_20 (by decide) ?_
  refine ww_bipush (v := (99 : Int32)) C dX4_napLine_21 (by decide) ?_
  obtain ⟨p2, hc1, H⟩ := bd_of H
  refine ww_callV C hZ dX4_napLine_23 cw_X4_168 (ccX4_takeNumber hS hc1) hS.1 ⟨by decide, rfl⟩ (by decide) rfl rfl (Nat.le_of_ble_eq_true rfl) ⟨Nat.zero_le _, Nat.zero_le _⟩ (fun v τ hp => ?_)
  obtain ⟨rfl, rfl⟩ := hp
  change WW X _ 26 [.ref o, .retAddr 0] [.int p2.1] _
  refine ww_istore_n C dX4_napLine_26 1 rfl (by decide) rfl [.ref o, .int p2.1] rfl ?_
  refine ww_aload_n C dX4_napLine_27 0 rfl rfl ?_
  refine wk_getI C dX4_napLine_28 fl_X4_60 hS.1 rfl ?_
  refine ww_if_ne C dX4_napLine_31 42 rfl (fun hc => ?_) (fun hc => ?_)
  · rw [if_neg hc] at H
    cases H
    exact ww_vret C E dX4_napLine_42 ⟨rfl, rfl⟩
  · rw [if_pos hc] at H
    refine ww_aload_n C dX4_napLine_34 0 rfl rfl ?_
    refine wk_getA C dX4_napLine_35 fl_X4_28 hS.1 rfl (tX4_hall hS).1 ?_
    refine ww_iload_n C dX4_napLine_38 1 rfl rfl ?_
    refine wk_putI C dX4_napLine_39 fl_X4_218 (tX4_hall hS).2.1 rfl rfl ?_
    cases H
    exact ww_vret C E dX4_napLine_42 ⟨rfl, rfl⟩
def fX4_napLine (o : Nat) (tt : Nat) (hh : Nat) (h : HI) : Option (HI) := (if (h.1 hh 18) = 0 then fX4_napLine_16 o tt hh h (0 : Int32) else fX4_napLine_16 o tt hh h (1 : Int32))
set_option maxRecDepth 100000 in
set_option maxHeartbeats 4000000 in
theorem ccX4_napLine {l : Launch} {sh : Sh} {adr : Nat → Nat} {r : Nat → Nat → Option Nat} {o : Nat} {tt : Nat} {hh : Nat} (hS : ES sh r tt hh o) {h : HI}  {p : HI} (H : fX4_napLine o tt hh h = some p) : CC l yX4_napLine cX4_napLine 2 none 6 [.ref o] sh adr (mk h r) (fun v τ => v = none ∧ τ = mk p r) := by
  refine CC.of (by decide) (Nat.le_of_ble_eq_true rfl) 1 [.ref o, .retAddr 0] rfl (fun X _ C E hZ => ?_)
  rw [fX4_napLine] at H
  refine ww_aload_n C dX4_napLine_0 0 rfl rfl ?_
  refine ww_aload_n C dX4_napLine_1 0 rfl rfl ?_
  refine wk_getA C dX4_napLine_2 fl_X4_28 hS.1 rfl (tX4_hall hS).1 ?_
  refine wk_getI C dX4_napLine_5 fl_X4_218 (tX4_hall hS).2.1 rfl ?_
  refine ww_if_eq C dX4_napLine_8 15 rfl (fun hc => ?_) (fun hc => ?_)
  · rw [if_pos hc] at H
    refine ww_iconst (v := (0 : Int32)) C dX4_napLine_15 (by decide) ?_
    exact cX4_napLine_16 hS C hZ E H
  · rw [if_neg hc] at H
    refine ww_iconst (v := (1 : Int32)) C dX4_napLine_11 (by decide) ?_
    refine ww_goto C dX4_napLine_12 16 rfl ?_
    exact cX4_napLine_16 hS C hZ E H
def fX4_takeWorth_59 (o : Nat) (tt : Nat) (h : HI) (v2 : Int32) : Option (Int32 × HI) := ((fX4_next o tt h).bind fun h1 => (if v2 = 0 then some ((h.1 o 6), h1) else some ((-(h.1 o 6)), h1)))
set_option maxRecDepth 100000 in
set_option maxHeartbeats 4000000 in
theorem cX4_takeWorth_59 {X : CT} {sh : Sh} {adr : Nat → Nat} {r : Nat → Nat → Option Nat} {o : Nat} {tt : Nat} {hh : Nat} {p : Int32 × HI} (hS : ES sh r tt hh o) (C : CX X yX4_takeWorth.cls cX4_takeWorth 4 5) (hZ : SZX X adr) (E : RX X (some .int) sh adr (fun v τ => v = some (.int p.1) ∧ τ = mk p.2 r)) {h : HI} {v2 : Int32} (H : fX4_takeWorth_59 o tt h v2 = some p) : WW X (sh, adr, 0, 0) 59 [.ref o, .retAddr 0, .int v2, .retAddr 0] [] (mk h r) := by
  rw [fX4_takeWorth_59] at H
  refine ww_aload_n C dX4_takeWorth_59 0 rfl rfl ?_
  refine wk_getI C dX4_takeWorth_60 fl_X4_113 hS.1 rfl ?_
  refine ww_istore_n C dX4_takeWorth_63 3 rfl (by decide) rfl [.ref o, .retAddr 0, .int v2, .int (h.1 o 6)] rfl ?_
  refine ww_aload_n C dX4_takeWorth_64 0 rfl rfl ?_
  obtain ⟨h1, hc1, H⟩ := bd_of H
  refine ww_callV C hZ dX4_takeWorth_65 cw_X4_63 (ccX4_next hS hc1) hS.1 ⟨by decide, rfl⟩ (by decide) rfl rfl (Nat.le_of_ble_eq_true rfl) ⟨Nat.zero_le _, Nat.zero_le _⟩ (fun v τ hp => ?_)
  obtain ⟨rfl, rfl⟩ := hp
  change WW X _ 68 [.ref o, .retAddr 0, .int v2, .int (h.1 o 6)] [] _
  refine ww_iload_n C dX4_takeWorth_68 2 rfl rfl ?_
  refine ww_if_eq C dX4_takeWorth_69 77 rfl (fun hc => ?_) (fun hc => ?_)
  · rw [if_pos hc] at H
    refine ww_iload_n C dX4_takeWorth_77 3 rfl rfl ?_
    cases H
    exact ww_iret C E dX4_takeWorth_78 ⟨rfl, rfl⟩
  · rw [if_neg hc] at H
    refine ww_iload_n C dX4_takeWorth_72 3 rfl rfl ?_
    refine ww_ineg C dX4_takeWorth_73 ?_
    refine ww_goto C dX4_takeWorth_74 78 rfl ?_
    cases H
    exact ww_iret C E dX4_takeWorth_78 ⟨rfl, rfl⟩
def fX4_takeWorth_28 (o : Nat) (tt : Nat) (h : HI) (v1 : Int32) (v2 : Int32) : Option (Int32 × HI) := (if (h.1 o 4) = (2 : Int32) then (if (h.1 o 6) ≤ (99 : Int32) then fX4_takeWorth_59 o tt h v2 else ((fX4_refuseAt o h (4 : Int32) v1).bind fun h2 => fX4_takeWorth_59 o tt h2 v2)) else ((fX4_refuse o h (2 : Int32)).bind fun h3 => fX4_takeWorth_59 o tt h3 v2))
set_option maxRecDepth 100000 in
set_option maxHeartbeats 4000000 in
theorem cX4_takeWorth_28 {X : CT} {sh : Sh} {adr : Nat → Nat} {r : Nat → Nat → Option Nat} {o : Nat} {tt : Nat} {hh : Nat} {p : Int32 × HI} (hS : ES sh r tt hh o) (C : CX X yX4_takeWorth.cls cX4_takeWorth 4 5) (hZ : SZX X adr) (E : RX X (some .int) sh adr (fun v τ => v = some (.int p.1) ∧ τ = mk p.2 r)) {h : HI} {v1 : Int32} {v2 : Int32} (H : fX4_takeWorth_28 o tt h v1 v2 = some p) : WW X (sh, adr, 0, 0) 28 [.ref o, .int v1, .int v2, .retAddr 0] [] (mk h r) := by
  rw [fX4_takeWorth_28] at H
  refine ww_aload_n C dX4_takeWorth_28 0 rfl rfl ?_
  refine wk_getI C dX4_takeWorth_29 fl_X4_66 hS.1 rfl ?_
  refine ww_iconst (v := (2 : Int32)) C dX4_takeWorth_32 (by decide) ?_
  refine ww_icmp_eq C dX4_takeWorth_33 44 rfl (fun hc => ?_) (fun hc => ?_)
  · rw [if_pos hc] at H
    refine ww_aload_n C dX4_takeWorth_44 0 rfl rfl ?_
    refine wk_getI C dX4_takeWorth_45 fl_X4_113 hS.1 rfl ?_
    refine ww_bipush (v := (99 : Int32)) C dX4_takeWorth_48 (by decide) ?_
    refine ww_icmp_le C dX4_takeWorth_50 59 rfl (fun hc => ?_) (fun hc => ?_)
    · rw [if_pos hc] at H
      exact ww_drop [.ref o, .retAddr 0, .int v2, .retAddr 0] (sl_e (sl_d (sl_e (sl_e sl_n)))) (cX4_takeWorth_59 hS C hZ E H)
    · rw [if_neg hc] at H
      refine ww_aload_n C dX4_takeWorth_53 0 rfl rfl ?_
      refine ww_iconst (v := (4 : Int32)) C dX4_takeWorth_54 (by decide) ?_
      refine ww_iload_n C dX4_takeWorth_55 1 rfl rfl ?_
      obtain ⟨h2, hc1, H⟩ := bd_of H
      refine ww_callV C hZ dX4_takeWorth_56 cw_X4_105 (ccX4_refuseAt hS hc1) hS.1 ⟨by decide, rfl⟩ (by decide) rfl rfl (Nat.le_of_ble_eq_true rfl) ⟨Nat.zero_le _, Nat.zero_le _⟩ (fun v τ hp => ?_)
      obtain ⟨rfl, rfl⟩ := hp
      change WW X _ 59 [.ref o, .int v1, .int v2, .retAddr 0] [] _
      exact ww_drop [.ref o, .retAddr 0, .int v2, .retAddr 0] (sl_e (sl_d (sl_e (sl_e sl_n)))) (cX4_takeWorth_59 hS C hZ E H)
  · rw [if_neg hc] at H
    refine ww_aload_n C dX4_takeWorth_36 0 rfl rfl ?_
    refine ww_iconst (v := (2 : Int32)) C dX4_takeWorth_37 (by decide) ?_
    obtain ⟨h3, hc1, H⟩ := bd_of H
    refine ww_callV C hZ dX4_takeWorth_38 cw_X4_98 (ccX4_refuse hS hc1) hS.1 ⟨by decide, rfl⟩ (by decide) rfl rfl (Nat.le_of_ble_eq_true rfl) ⟨Nat.zero_le _, Nat.zero_le _⟩ (fun v τ hp => ?_)
    obtain ⟨rfl, rfl⟩ := hp
    change WW X _ 41 [.ref o, .int v1, .int v2, .retAddr 0] [] _
    refine ww_goto C dX4_takeWorth_41 59 rfl ?_
    exact ww_drop [.ref o, .retAddr 0, .int v2, .retAddr 0] (sl_e (sl_d (sl_e (sl_e sl_n)))) (cX4_takeWorth_59 hS C hZ E H)
def fX4_takeWorth_19 (o : Nat) (tt : Nat) (h : HI) (v1 : Int32) (s0 : Int32) : Option (Int32 × HI) := (if s0 = 0 then fX4_takeWorth_28 o tt h v1 s0 else ((fX4_next o tt h).bind fun h4 => fX4_takeWorth_28 o tt h4 v1 s0))
set_option maxRecDepth 100000 in
set_option maxHeartbeats 4000000 in
theorem cX4_takeWorth_19 {X : CT} {sh : Sh} {adr : Nat → Nat} {r : Nat → Nat → Option Nat} {o : Nat} {tt : Nat} {hh : Nat} {p : Int32 × HI} (hS : ES sh r tt hh o) (C : CX X yX4_takeWorth.cls cX4_takeWorth 4 5) (hZ : SZX X adr) (E : RX X (some .int) sh adr (fun v τ => v = some (.int p.1) ∧ τ = mk p.2 r)) {h : HI} {v1 : Int32} {s0 : Int32} (H : fX4_takeWorth_19 o tt h v1 s0 = some p) : WW X (sh, adr, 0, 0) 19 [.ref o, .int v1, .retAddr 0, .retAddr 0] [.int s0] (mk h r) := by
  rw [fX4_takeWorth_19] at H
  refine ww_istore_n C dX4_takeWorth_19 2 rfl (by decide) rfl [.ref o, .int v1, .int s0, .retAddr 0] rfl ?_
  refine ww_iload_n C dX4_takeWorth_20 2 rfl rfl ?_
  refine ww_if_eq C dX4_takeWorth_21 28 rfl (fun hc => ?_) (fun hc => ?_)
  · rw [if_pos hc] at H
    exact cX4_takeWorth_28 hS C hZ E H
  · rw [if_neg hc] at H
    refine ww_aload_n C dX4_takeWorth_24 0 rfl rfl ?_
    obtain ⟨h4, hc1, H⟩ := bd_of H
    refine ww_callV C hZ dX4_takeWorth_25 cw_X4_63 (ccX4_next hS hc1) hS.1 ⟨by decide, rfl⟩ (by decide) rfl rfl (Nat.le_of_ble_eq_true rfl) ⟨Nat.zero_le _, Nat.zero_le _⟩ (fun v τ hp => ?_)
    obtain ⟨rfl, rfl⟩ := hp
    change WW X _ 28 [.ref o, .int v1, .int s0, .retAddr 0] [] _
    exact cX4_takeWorth_28 hS C hZ E H
def fX4_takeWorth (o : Nat) (tt : Nat) (h : HI) : Option (Int32 × HI) := (if (h.1 o 4) = (45 : Int32) then fX4_takeWorth_19 o tt h (h.1 o 5) (1 : Int32) else fX4_takeWorth_19 o tt h (h.1 o 5) (0 : Int32))
set_option maxRecDepth 100000 in
set_option maxHeartbeats 4000000 in
theorem ccX4_takeWorth {l : Launch} {sh : Sh} {adr : Nat → Nat} {r : Nat → Nat → Option Nat} {o : Nat} {tt : Nat} {hh : Nat} (hS : ES sh r tt hh o) {h : HI}  {p : Int32 × HI} (H : fX4_takeWorth o tt h = some p) : CC l yX4_takeWorth cX4_takeWorth 4 (some .int) 5 [.ref o] sh adr (mk h r) (fun v τ => v = some (.int p.1) ∧ τ = mk p.2 r) := by
  refine CC.of (by decide) (Nat.le_of_ble_eq_true rfl) 3 [.ref o, .retAddr 0, .retAddr 0, .retAddr 0] rfl (fun X _ C E hZ => ?_)
  rw [fX4_takeWorth] at H
  refine ww_aload_n C dX4_takeWorth_0 0 rfl rfl ?_
  refine wk_getI C dX4_takeWorth_1 fl_X4_84 hS.1 rfl ?_
  refine ww_istore_n C dX4_takeWorth_4 1 rfl (by decide) rfl [.ref o, .int (h.1 o 5), .retAddr 0, .retAddr 0] rfl ?_
  refine ww_aload_n C dX4_takeWorth_5 0 rfl rfl ?_
  refine wk_getI C dX4_takeWorth_6 fl_X4_66 hS.1 rfl ?_
  refine ww_bipush (v := (45 : Int32)) C dX4_takeWorth_9 (by decide) ?_
  refine ww_icmp_ne C dX4_takeWorth_11 18 rfl (fun hc => ?_) (fun hc => ?_)
  · rw [if_neg hc] at H
    refine ww_iconst (v := (0 : Int32)) C dX4_takeWorth_18 (by decide) ?_
    exact cX4_takeWorth_19 hS C hZ E H
  · rw [if_pos hc] at H
    refine ww_iconst (v := (1 : Int32)) C dX4_takeWorth_14 (by decide) ?_
    refine ww_goto C dX4_takeWorth_15 19 rfl ?_
    exact cX4_takeWorth_19 hS C hZ E H
def fX4_wishLine_66 (o : Nat) (tt : Nat) (hh : Nat) (h : HI) (v1 : Int32) (v2 : Int32) : Option (HI) := ((fX4_next o tt h).bind fun h6 => ((fX4_takeWorth o tt h6).bind fun p7 => (if (p7.2.1 o 8) = 0 then ((fX1_addWish hh p7.2 v1 v2 p7.1).bind fun h8 => some h8) else some p7.2)))
set_option maxRecDepth 100000 in
set_option maxHeartbeats 4000000 in
theorem cX4_wishLine_66 {X : CT} {sh : Sh} {adr : Nat → Nat} {r : Nat → Nat → Option Nat} {o : Nat} {tt : Nat} {hh : Nat} {p : HI} (hS : ES sh r tt hh o) (C : CX X yX4_wishLine.cls cX4_wishLine 4 6) (hZ : SZX X adr) (E : RX X none sh adr (fun v τ => v = none ∧ τ = mk p r)) {h : HI} {v1 : Int32} {v2 : Int32} (H : fX4_wishLine_66 o tt hh h v1 v2 = some p) : WW X (sh, adr, 0, 0) 66 [.ref o, .int v1, .int v2, .retAddr 0] [] (mk h r) := by
  rw [fX4_wishLine_66] at H
  refine ww_aload_n C dX4_wishLine_66 0 rfl rfl ?_
  obtain ⟨h6, hc1, H⟩ := bd_of H
  refine ww_callV C hZ dX4_wishLine_67 cw_X4_63 (ccX4_next hS hc1) hS.1 ⟨by decide, rfl⟩ (by decide) rfl rfl (Nat.le_of_ble_eq_true rfl) ⟨Nat.zero_le _, Nat.zero_le _⟩ (fun v τ hp => ?_)
  obtain ⟨rfl, rfl⟩ := hp
  change WW X _ 70 [.ref o, .int v1, .int v2, .retAddr 0] [] _
  refine ww_aload_n C dX4_wishLine_70 0 rfl rfl ?_
  obtain ⟨p7, hc1, H⟩ := bd_of H
  refine ww_callV C hZ dX4_wishLine_71 cw_X4_204 (ccX4_takeWorth hS hc1) hS.1 ⟨by decide, rfl⟩ (by decide) rfl rfl (Nat.le_of_ble_eq_true rfl) ⟨Nat.zero_le _, Nat.zero_le _⟩ (fun v τ hp => ?_)
  obtain ⟨rfl, rfl⟩ := hp
  change WW X _ 74 [.ref o, .int v1, .int v2, .retAddr 0] [.int p7.1] _
  refine ww_istore_n C dX4_wishLine_74 3 rfl (by decide) rfl [.ref o, .int v1, .int v2, .int p7.1] rfl ?_
  refine ww_aload_n C dX4_wishLine_75 0 rfl rfl ?_
  refine wk_getI C dX4_wishLine_76 fl_X4_60 hS.1 rfl ?_
  refine ww_if_ne C dX4_wishLine_79 92 rfl (fun hc => ?_) (fun hc => ?_)
  · rw [if_neg hc] at H
    cases H
    exact ww_vret C E dX4_wishLine_92 ⟨rfl, rfl⟩
  · rw [if_pos hc] at H
    refine ww_aload_n C dX4_wishLine_82 0 rfl rfl ?_
    refine wk_getA C dX4_wishLine_83 fl_X4_28 hS.1 rfl (tX4_hall hS).1 ?_
    refine ww_iload_n C dX4_wishLine_86 1 rfl rfl ?_
    refine ww_iload_n C dX4_wishLine_87 2 rfl rfl ?_
    refine ww_iload_n C dX4_wishLine_88 3 rfl rfl ?_
    obtain ⟨h8, hc1, H⟩ := bd_of H
    refine ww_callV C hZ dX4_wishLine_89 cw_X4_207 (ccX1_addWish (tX4_hall hS).2 hc1) (tX4_hall hS).2.1 ⟨by decide, rfl⟩ (by decide) rfl rfl (Nat.le_of_ble_eq_true rfl) ⟨Nat.zero_le _, Nat.zero_le _⟩ (fun v τ hp => ?_)
    obtain ⟨rfl, rfl⟩ := hp
    change WW X _ 92 [.ref o, .int v1, .int v2, .int p7.1] [] _
    cases H
    exact ww_vret C E dX4_wishLine_92 ⟨rfl, rfl⟩
def fX4_wishLine_18 (o : Nat) (tt : Nat) (hh : Nat) (h : HI) (s0 : Int32) : Option (HI) := ((fX4_startLine o tt h s0).bind fun h1 => ((fX4_toldName o (hh + 3) 6 h1).bind fun p2 => ((fX4_next o tt p2.2).bind fun h3 => ((fX4_toldName o (hh + 5) 4 h3).bind fun p4 => ((fX1_isWished hh p4.2 p2.1 p4.1).bind fun p5 => (if p5.1 = 0 then fX4_wishLine_66 o tt hh p5.2 p2.1 p4.1 else ((fX4_refuse o p5.2 (3 : Int32)).bind fun h9 => fX4_wishLine_66 o tt hh h9 p2.1 p4.1)))))))
set_option maxRecDepth 100000 in
set_option maxHeartbeats 4000000 in
theorem cX4_wishLine_18 {X : CT} {sh : Sh} {adr : Nat → Nat} {r : Nat → Nat → Option Nat} {o : Nat} {tt : Nat} {hh : Nat} {p : HI} (hS : ES sh r tt hh o) (C : CX X yX4_wishLine.cls cX4_wishLine 4 6) (hZ : SZX X adr) (E : RX X none sh adr (fun v τ => v = none ∧ τ = mk p r)) {h : HI} {s0 : Int32} (H : fX4_wishLine_18 o tt hh h s0 = some p) : WW X (sh, adr, 0, 0) 18 [.ref o, .retAddr 0, .retAddr 0, .retAddr 0] [.int s0, .ref o] (mk h r) := by
  rw [fX4_wishLine_18] at H
  obtain ⟨h1, hc1, H⟩ := bd_of H
  refine ww_callV C hZ dX4_wishLine_18 cw_X4_144 (ccX4_startLine hS hc1) hS.1 ⟨by decide, rfl⟩ (by decide) rfl rfl (Nat.le_of_ble_eq_true rfl) ⟨Nat.zero_le _, Nat.zero_le _⟩ (fun v τ hp => ?_)
  obtain ⟨rfl, rfl⟩ := hp
  change WW X _ 21 [.ref o, .retAddr 0, .retAddr 0, .retAddr 0] [] _
  refine ww_aload_n C dX4_wishLine_21 0 rfl rfl ?_
  refine ww_aload_n C dX4_wishLine_22 0 rfl rfl ?_
  refine wk_getA C dX4_wishLine_23 fl_X4_28 hS.1 rfl (tX4_hall hS).1 ?_
  refine wk_getA C dX4_wishLine_26 fl_X4_180 (tX4_hall hS).2.1 rfl (tX1_men (tX4_hall hS).2).1 ?_
  obtain ⟨p2, hc1, H⟩ := bd_of H
  refine ww_callV C hZ dX4_wishLine_29 cw_X4_196 (ccX4_toldName hS (tX1_men (tX4_hall hS).2).2 hc1) hS.1 ⟨by decide, rfl⟩ (by decide) rfl rfl (Nat.le_of_ble_eq_true rfl) ⟨Nat.zero_le _, Nat.zero_le _⟩ (fun v τ hp => ?_)
  obtain ⟨rfl, rfl⟩ := hp
  change WW X _ 32 [.ref o, .retAddr 0, .retAddr 0, .retAddr 0] [.int p2.1] _
  refine ww_istore_n C dX4_wishLine_32 1 rfl (by decide) rfl [.ref o, .int p2.1, .retAddr 0, .retAddr 0] rfl ?_
  refine ww_aload_n C dX4_wishLine_33 0 rfl rfl ?_
  obtain ⟨h3, hc1, H⟩ := bd_of H
  refine ww_callV C hZ dX4_wishLine_34 cw_X4_63 (ccX4_next hS hc1) hS.1 ⟨by decide, rfl⟩ (by decide) rfl rfl (Nat.le_of_ble_eq_true rfl) ⟨Nat.zero_le _, Nat.zero_le _⟩ (fun v τ hp => ?_)
  obtain ⟨rfl, rfl⟩ := hp
  change WW X _ 37 [.ref o, .int p2.1, .retAddr 0, .retAddr 0] [] _
  refine ww_aload_n C dX4_wishLine_37 0 rfl rfl ?_
  refine ww_aload_n C dX4_wishLine_38 0 rfl rfl ?_
  refine wk_getA C dX4_wishLine_39 fl_X4_28 hS.1 rfl (tX4_hall hS).1 ?_
  refine wk_getA C dX4_wishLine_42 fl_X4_186 (tX4_hall hS).2.1 rfl (tX1_matters (tX4_hall hS).2).1 ?_
  obtain ⟨p4, hc1, H⟩ := bd_of H
  refine ww_callV C hZ dX4_wishLine_45 cw_X4_196 (ccX4_toldName hS (tX1_matters (tX4_hall hS).2).2 hc1) hS.1 ⟨by decide, rfl⟩ (by decide) rfl rfl (Nat.le_of_ble_eq_true rfl) ⟨Nat.zero_le _, Nat.zero_le _⟩ (fun v τ hp => ?_)
  obtain ⟨rfl, rfl⟩ := hp
  change WW X _ 48 [.ref o, .int p2.1, .retAddr 0, .retAddr 0] [.int p4.1] _
  refine ww_istore_n C dX4_wishLine_48 2 rfl (by decide) rfl [.ref o, .int p2.1, .int p4.1, .retAddr 0] rfl ?_
  refine ww_aload_n C dX4_wishLine_49 0 rfl rfl ?_
  refine wk_getA C dX4_wishLine_50 fl_X4_28 hS.1 rfl (tX4_hall hS).1 ?_
  refine ww_iload_n C dX4_wishLine_53 1 rfl rfl ?_
  refine ww_iload_n C dX4_wishLine_54 2 rfl rfl ?_
  obtain ⟨p5, hc1, H⟩ := bd_of H
  refine ww_callV C hZ dX4_wishLine_55 cw_X4_200 (ccX1_isWished (tX4_hall hS).2 hc1) (tX4_hall hS).2.1 ⟨by decide, rfl⟩ (by decide) rfl rfl (Nat.le_of_ble_eq_true rfl) ⟨Nat.zero_le _, Nat.zero_le _⟩ (fun v τ hp => ?_)
  obtain ⟨rfl, rfl⟩ := hp
  change WW X _ 58 [.ref o, .int p2.1, .int p4.1, .retAddr 0] [.int p5.1] _
  refine ww_if_eq C dX4_wishLine_58 66 rfl (fun hc => ?_) (fun hc => ?_)
  · rw [if_pos hc] at H
    exact cX4_wishLine_66 hS C hZ E H
  · rw [if_neg hc] at H
    refine ww_aload_n C dX4_wishLine_61 0 rfl rfl ?_
    refine ww_iconst (v := (3 : Int32)) C dX4_wishLine_62 (by decide) ?_
    obtain ⟨h9, hc1, H⟩ := bd_of H
    refine ww_callV C hZ dX4_wishLine_63 cw_X4_98 (ccX4_refuse hS hc1) hS.1 ⟨by decide, rfl⟩ (by decide) rfl rfl (Nat.le_of_ble_eq_true rfl) ⟨Nat.zero_le _, Nat.zero_le _⟩ (fun v τ hp => ?_)
    obtain ⟨rfl, rfl⟩ := hp
    change WW X _ 66 [.ref o, .int p2.1, .int p4.1, .retAddr 0] [] _
    exact cX4_wishLine_66 hS C hZ E H
def fX4_wishLine (o : Nat) (tt : Nat) (hh : Nat) (h : HI) : Option (HI) := (if (h.1 hh 12) < (24 : Int32) then fX4_wishLine_18 o tt hh h (0 : Int32) else fX4_wishLine_18 o tt hh h (1 : Int32))
set_option maxRecDepth 100000 in
set_option maxHeartbeats 4000000 in
theorem ccX4_wishLine {l : Launch} {sh : Sh} {adr : Nat → Nat} {r : Nat → Nat → Option Nat} {o : Nat} {tt : Nat} {hh : Nat} (hS : ES sh r tt hh o) {h : HI}  {p : HI} (H : fX4_wishLine o tt hh h = some p) : CC l yX4_wishLine cX4_wishLine 4 none 6 [.ref o] sh adr (mk h r) (fun v τ => v = none ∧ τ = mk p r) := by
  refine CC.of (by decide) (Nat.le_of_ble_eq_true rfl) 3 [.ref o, .retAddr 0, .retAddr 0, .retAddr 0] rfl (fun X _ C E hZ => ?_)
  rw [fX4_wishLine] at H
  refine ww_aload_n C dX4_wishLine_0 0 rfl rfl ?_
  refine ww_aload_n C dX4_wishLine_1 0 rfl rfl ?_
  refine wk_getA C dX4_wishLine_2 fl_X4_28 hS.1 rfl (tX4_hall hS).1 ?_
  refine wk_getI C dX4_wishLine_5 fl_X4_193 (tX4_hall hS).2.1 rfl ?_
  refine ww_bipush (v := (24 : Int32)) C dX4_wishLine_8 (by decide) ?_
  refine ww_icmp_lt C dX4_wishLine_10 17 rfl (fun hc => ?_) (fun hc => ?_)
  · rw [if_pos hc] at H
    refine ww_iconst (v := (0 : Int32)) C dX4_wishLine_17 (by decide) ?_
    exact cX4_wishLine_18 hS C hZ E H
  · rw [if_neg hc] at H
    refine ww_iconst (v := (1 : Int32)) C dX4_wishLine_13 (by decide) ?_
    refine ww_goto C dX4_wishLine_14 18 rfl ?_
    exact cX4_wishLine_18 hS C hZ E H
