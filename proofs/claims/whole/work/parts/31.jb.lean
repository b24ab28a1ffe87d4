def fX6_hasTime (o : Nat) (h : HI) (a1 : Int32) : Option (Int32 × HI) := (if (10000 : Int32) < ((h.1 o 1) + a1) then some ((0 : Int32), h) else some ((1 : Int32), h))
set_option maxRecDepth 100000 in
set_option maxHeartbeats 4000000 in
theorem ccX6_hasTime {l : Launch} {sh : Sh} {adr : Nat → Nat} {r : Nat → Nat → Option Nat} {o : Nat} {hh : Nat} (hS : SS sh r hh o) {h : HI} {a1 : Int32} {p : Int32 × HI} (H : fX6_hasTime o h a1 = some p) : CC l yX6_hasTime cX6_hasTime 2 (some .boolean) 0 [.ref o, .int a1] sh adr (mk h r) (fun v τ => v = some (.int p.1) ∧ τ = mk p.2 r) := by
  refine CC.of (by decide) (Nat.le_of_ble_eq_true rfl) 0 [.ref o, .int a1] rfl (fun X _ C E hZ => ?_)
  rw [fX6_hasTime] at H
  refine ww_aload_n C dX6_hasTime_0 0 rfl rfl ?_
  refine wk_getI C dX6_hasTime_1 fl_X6_45 hS.1 rfl ?_
  refine ww_iload_n C dX6_hasTime_4 1 rfl rfl ?_
  refine ww_iadd C dX6_hasTime_5 ?_
  refine ww_sipush (v := (10000 : Int32)) C dX6_hasTime_6 (by decide) ?_
  refine ww_icmp_gt C dX6_hasTime_9 16 rfl (fun hc => ?_) (fun hc => ?_)
  · rw [if_pos hc] at H
    refine ww_iconst (v := (0 : Int32)) C dX6_hasTime_16 (by decide) ?_
    cases H
    exact ww_zret C E dX6_hasTime_17 (Or.inl rfl) ⟨rfl, rfl⟩
  · rw [if_neg hc] at H
    refine ww_iconst (v := (1 : Int32)) C dX6_hasTime_12 (by decide) ?_
    refine ww_goto C dX6_hasTime_13 17 rfl ?_
    cases H
    exact ww_zret C E dX6_hasTime_17 (Or.inr rfl) ⟨rfl, rfl⟩
def fX6_isAlive (o : Nat) (hh : Nat) (h : HI) (a1 : Int32) : Option (Int32 × HI) := ((fX2_has (hh + 5) h a1).bind fun p1 => (if p1.1 = 0 then some ((0 : Int32), p1.2) else (if inB a1 4 then (if (p1.2.1 (o + 5) (a1.toNatClampNeg)) = 0 then some ((1 : Int32), p1.2) else (if inB a1 4 then (if (p1.2.1 (o + 5) (a1.toNatClampNeg)) = (1 : Int32) then some ((1 : Int32), p1.2) else some ((0 : Int32), p1.2)) else none)) else none)))
set_option maxRecDepth 100000 in
set_option maxHeartbeats 4000000 in
theorem ccX6_isAlive {l : Launch} {sh : Sh} {adr : Nat → Nat} {r : Nat → Nat → Option Nat} {o : Nat} {hh : Nat} (hS : SS sh r hh o) {h : HI} {a1 : Int32} {p : Int32 × HI} (H : fX6_isAlive o hh h a1 = some p) : CC l yX6_isAlive cX6_isAlive 2 (some .boolean) 1 [.ref o, .int a1] sh adr (mk h r) (fun v τ => v = some (.int p.1) ∧ τ = mk p.2 r) := by
  refine CC.of (by decide) (Nat.le_of_ble_eq_true rfl) 0 [.ref o, .int a1] rfl (fun X _ C E hZ => ?_)
  rw [fX6_isAlive] at H
  refine ww_aload_n C dX6_isAlive_0 0 rfl rfl ?_
  refine wk_getA C dX6_isAlive_1 fl_X6_41 hS.1 rfl (tX6_hall hS).1 ?_
  refine wk_getA C dX6_isAlive_4 fl_X6_111 (tX6_hall hS).2.1 rfl (tX1_matters (tX6_hall hS).2).1 ?_
  refine ww_iload_n C dX6_isAlive_7 1 rfl rfl ?_
  obtain ⟨p1, hc1, H⟩ := bd_of H
  refine ww_callV C hZ dX6_isAlive_8 cw_X6_82 (ccX2_has (tX1_matters (tX6_hall hS).2).2 hc1) (tX1_matters (tX6_hall hS).2).2.1 ⟨by decide, rfl⟩ (by decide) rfl rfl (Nat.le_of_ble_eq_true rfl) ⟨Nat.zero_le _, Nat.zero_le _⟩ (fun v τ hp => ?_)
  obtain ⟨rfl, rfl⟩ := hp
  change WW X _ 11 [.ref o, .int a1] [.int p1.1] _
  refine ww_if_eq C dX6_isAlive_11 37 rfl (fun hc => ?_) (fun hc => ?_)
  · rw [if_pos hc] at H
    refine ww_iconst (v := (0 : Int32)) C dX6_isAlive_37 (by decide) ?_
    cases H
    exact ww_zret C E dX6_isAlive_38 (Or.inl rfl) ⟨rfl, rfl⟩
  · rw [if_neg hc] at H
    refine ww_aload_n C dX6_isAlive_14 0 rfl rfl ?_
    refine wk_getR C dX6_isAlive_15 fl_X6_24 hS.1 rfl (tX6_status hS).1 ?_
    refine ww_iload_n C dX6_isAlive_18 1 rfl rfl ?_
    obtain ⟨hg, H⟩ := gd_of H
    refine wk_iaload C dX6_isAlive_19 (tX6_status hS).2.1 (vp_of hg (tX6_status hS).2.2) (a1.toNatClampNeg) rfl ?_
    refine ww_if_eq C dX6_isAlive_20 33 rfl (fun hc => ?_) (fun hc => ?_)
    · rw [if_pos hc] at H
      refine ww_iconst (v := (1 : Int32)) C dX6_isAlive_33 (by decide) ?_
      refine ww_goto C dX6_isAlive_34 38 rfl ?_
      cases H
      exact ww_zret C E dX6_isAlive_38 (Or.inr rfl) ⟨rfl, rfl⟩
    · rw [if_neg hc] at H
      refine ww_aload_n C dX6_isAlive_23 0 rfl rfl ?_
      refine wk_getR C dX6_isAlive_24 fl_X6_24 hS.1 rfl (tX6_status hS).1 ?_
      refine ww_iload_n C dX6_isAlive_27 1 rfl rfl ?_
      obtain ⟨hg, H⟩ := gd_of H
      refine wk_iaload C dX6_isAlive_28 (tX6_status hS).2.1 (vp_of hg (tX6_status hS).2.2) (a1.toNatClampNeg) rfl ?_
      refine ww_iconst (v := (1 : Int32)) C dX6_isAlive_29 (by decide) ?_
      refine ww_icmp_ne C dX6_isAlive_30 37 rfl (fun hc => ?_) (fun hc => ?_)
      · rw [if_neg hc] at H
        refine ww_iconst (v := (0 : Int32)) C dX6_isAlive_37 (by decide) ?_
        cases H
        exact ww_zret C E dX6_isAlive_38 (Or.inl rfl) ⟨rfl, rfl⟩
      · rw [if_pos hc] at H
        refine ww_iconst (v := (1 : Int32)) C dX6_isAlive_33 (by decide) ?_
        refine ww_goto C dX6_isAlive_34 38 rfl ?_
        cases H
        exact ww_zret C E dX6_isAlive_38 (Or.inr rfl) ⟨rfl, rfl⟩
def fX6_keepSeats_62 (o : Nat) (hh : Nat) (k : HI → Int64 → Option (HI)) (kb : HI → Int64 → Int32 → Option (HI)) (h : HI) (v1 : Int64) (v3 : Int32) : Option (HI) := kb h v1 (v3 + (1 : Int32))
set_option maxRecDepth 100000 in
set_option maxHeartbeats 4000000 in
theorem cX6_keepSeats_62 {X : CT} {sh : Sh} {adr : Nat → Nat} {r : Nat → Nat → Option Nat} {o : Nat} {hh : Nat} {p : HI} (hS : SS sh r hh o) (C : CX X yX6_keepSeats.cls cX6_keepSeats 4 0) (hZ : SZX X adr) (E : RX X none sh adr (fun v τ => v = none ∧ τ = mk p r)) {k : HI → Int64 → Option (HI)} {kb : HI → Int64 → Int32 → Option (HI)} (hk : ∀ (h : HI) (v1 : Int64), k h v1 = some p → WW X (sh, adr, 0, 0) 68 [.ref o, .long v1, .retAddr 0, .retAddr 0] [] (mk h r)) (hb : ∀ (h : HI) (v1 : Int64) (v3 : Int32), kb h v1 v3 = some p → WW X (sh, adr, 0, 0) 23 [.ref o, .long v1, .retAddr 0, .int v3] [] (mk h r)) {h : HI} {v1 : Int64} {v3 : Int32} (H : fX6_keepSeats_62 o hh k kb h v1 v3 = some p) : WW X (sh, adr, 0, 0) 62 [.ref o, .long v1, .retAddr 0, .int v3] [] (mk h r) := by
  rw [fX6_keepSeats_62] at H
  refine ww_iinc (v := (v3 + (1 : Int32))) C dX6_keepSeats_62 rfl rfl (by decide) rfl [.ref o, .long v1, .retAddr 0, .int (v3 + (1 : Int32))] rfl ?_
  refine ww_goto C dX6_keepSeats_65 23 rfl ?_
  exact hb h v1 (v3 + (1 : Int32)) H
def fX6_keepSeats_23 (o : Nat) (hh : Nat) (k : HI → Int64 → Option (HI)) : Nat → HI → Int64 → Int32 → Option (HI)
  | 0, _, _, _ => none
  | n + 1, h, v1, v3 => (if (h.1 (hh + 3) 1) ≤ v3 then k h v1 else (if inB v3 6 then (if (h.1 (o + 1) (v3.toNatClampNeg)) < 0 then fX6_keepSeats_62 o hh (k) (fX6_keepSeats_23 o hh k n) h v1 v3 else (if inB v3 6 then fX6_keepSeats_62 o hh (k) (fX6_keepSeats_23 o hh k n) h (v1 ||| ((1 : Int64) <<< ((((h.1 (o + 1) (v3.toNatClampNeg)) * (6 : Int32)) + v3).toInt64 &&& 63))) v3 else none)) else none))
set_option maxRecDepth 100000 in
set_option maxHeartbeats 4000000 in
theorem cX6_keepSeats_23 {X : CT} {sh : Sh} {adr : Nat → Nat} {r : Nat → Nat → Option Nat} {o : Nat} {hh : Nat} {p : HI} (hS : SS sh r hh o) (C : CX X yX6_keepSeats.cls cX6_keepSeats 4 0) (hZ : SZX X adr) (E : RX X none sh adr (fun v τ => v = none ∧ τ = mk p r)) {k : HI → Int64 → Option (HI)} (hk : ∀ (h : HI) (v1 : Int64), k h v1 = some p → WW X (sh, adr, 0, 0) 68 [.ref o, .long v1, .retAddr 0, .retAddr 0] [] (mk h r)) : ∀ (n : Nat) (h : HI) (v1 : Int64) (v3 : Int32), fX6_keepSeats_23 o hh k n h v1 v3 = some p → WW X (sh, adr, 0, 0) 23 [.ref o, .long v1, .retAddr 0, .int v3] [] (mk h r) := by
  intro n
  induction n with
  | zero =>
    intro h v1 v3 H
    rw [fX6_keepSeats_23] at H
    cases H
  | succ n ih =>
    intro h v1 v3 H
    rw [fX6_keepSeats_23] at H
    refine ww_iload_n C dX6_keepSeats_23 3 rfl rfl ?_
    refine ww_aload_n C dX6_keepSeats_24 0 rfl rfl ?_
    refine wk_getA C dX6_keepSeats_25 fl_X6_41 hS.1 rfl (tX6_hall hS).1 ?_
    refine wk_getA C dX6_keepSeats_28 fl_X6_78 (tX6_hall hS).2.1 rfl (tX1_men (tX6_hall hS).2).1 ?_
    refine wk_getI C dX6_keepSeats_31 fl_X6_167 (tX1_men (tX6_hall hS).2).2.1 rfl ?_
    refine ww_icmp_ge C dX6_keepSeats_34 68 rfl (fun hc => ?_) (fun hc => ?_)
    · rw [if_pos hc] at H
      exact ww_drop [.ref o, .long v1, .retAddr 0, .retAddr 0] (sl_e (sl_e (sl_e (sl_d sl_n)))) (hk h v1 H)
    · rw [if_neg hc] at H
      refine ww_aload_n C dX6_keepSeats_37 0 rfl rfl ?_
      refine wk_getR C dX6_keepSeats_38 fl_X6_9 hS.1 rfl (tX6_where hS).1 ?_
      refine ww_iload_n C dX6_keepSeats_41 3 rfl rfl ?_
      obtain ⟨hg, H⟩ := gd_of H
      refine wk_iaload C dX6_keepSeats_42 (tX6_where hS).2.1 (vp_of hg (tX6_where hS).2.2) (v3.toNatClampNeg) rfl ?_
      refine ww_if_lt C dX6_keepSeats_43 62 rfl (fun hc => ?_) (fun hc => ?_)
      · rw [if_pos hc] at H
        exact cX6_keepSeats_62 hS C hZ E hk ih H
      · rw [if_neg hc] at H
        refine ww_lload_n C dX6_keepSeats_46 1 rfl rfl ?_
        refine ww_lconst (v := (1 : Int64)) C dX6_keepSeats_47 (by decide) ?_
        refine ww_aload_n C dX6_keepSeats_48 0 rfl rfl ?_
        refine wk_getR C dX6_keepSeats_49 fl_X6_9 hS.1 rfl (tX6_where hS).1 ?_
        refine ww_iload_n C dX6_keepSeats_52 3 rfl rfl ?_
        obtain ⟨hg, H⟩ := gd_of H
        refine wk_iaload C dX6_keepSeats_53 (tX6_where hS).2.1 (vp_of hg (tX6_where hS).2.2) (v3.toNatClampNeg) rfl ?_
        refine ww_bipush (v := (6 : Int32)) C dX6_keepSeats_54 (by decide) ?_
        refine ww_imul C dX6_keepSeats_56 ?_
        refine ww_iload_n C dX6_keepSeats_57 3 rfl rfl ?_
        refine ww_iadd C dX6_keepSeats_58 ?_
        refine ww_lshl C dX6_keepSeats_59 ?_
        refine ww_lor C dX6_keepSeats_60 ?_
        refine ww_lstore_n C dX6_keepSeats_61 1 rfl (by decide) rfl [.ref o, .long (v1 ||| ((1 : Int64) <<< ((((h.1 (o + 1) (v3.toNatClampNeg)) * (6 : Int32)) + v3).toInt64 &&& 63))), .retAddr 0, .int v3] rfl ?_
        exact cX6_keepSeats_62 hS C hZ E hk ih H
def fX6_keepSeats (o : Nat) (hh : Nat) (h : HI) : Option (HI) := (if (h.1 o 1) < (1 : Int32) then some h else (if (h.1 o 1) ≤ (200 : Int32) then fX6_keepSeats_23 o hh (fun h2 v1 => (if inB ((h2.1 o 1) - (1 : Int32)) 200 then some (uL h2 (o + 8) (((h2.1 o 1) - (1 : Int32)).toNatClampNeg) v1) else none)) FU h (0 : Int64) (0 : Int32) else some h))
set_option maxRecDepth 100000 in
set_option maxHeartbeats 4000000 in
theorem ccX6_keepSeats {l : Launch} {sh : Sh} {adr : Nat → Nat} {r : Nat → Nat → Option Nat} {o : Nat} {hh : Nat} (hS : SS sh r hh o) {h : HI}  {p : HI} (H : fX6_keepSeats o hh h = some p) : CC l yX6_keepSeats cX6_keepSeats 4 none 0 [.ref o] sh adr (mk h r) (fun v τ => v = none ∧ τ = mk p r) := by
  refine CC.of (by decide) (Nat.le_of_ble_eq_true rfl) 3 [.ref o, .retAddr 0, .retAddr 0, .retAddr 0] rfl (fun X _ C E hZ => ?_)
  rw [fX6_keepSeats] at H
  refine ww_aload_n C dX6_keepSeats_0 0 rfl rfl ?_
  refine wk_getI C dX6_keepSeats_1 fl_X6_45 hS.1 rfl ?_
  refine ww_iconst (v := (1 : Int32)) C dX6_keepSeats_4 (by decide) ?_
  refine ww_icmp_lt C dX6_keepSeats_5 18 rfl (fun hc => ?_) (fun hc => ?_)
  · rw [if_pos hc] at H
    cases H
    exact ww_vret C E dX6_keepSeats_18 ⟨rfl, rfl⟩
  · rw [if_neg hc] at H
    refine ww_aload_n C dX6_keepSeats_8 0 rfl rfl ?_
    refine wk_getI C dX6_keepSeats_9 fl_X6_45 hS.1 rfl ?_
    refine ww_sipush (v := (200 : Int32)) C dX6_keepSeats_12 (by decide) ?_
    refine ww_icmp_le C dX6_keepSeats_15 19 rfl (fun hc => ?_) (fun hc => ?_)
    · rw [if_pos hc] at H
      refine ww_lconst (v := (0 : Int64)) C dX6_keepSeats_19 (by decide) ?_
      refine ww_lstore_n C dX6_keepSeats_20 1 rfl (by decide) rfl [.ref o, .long (0 : Int64), .retAddr 0, .retAddr 0] rfl ?_
      refine ww_iconst (v := (0 : Int32)) C dX6_keepSeats_21 (by decide) ?_
      refine ww_istore_n C dX6_keepSeats_22 3 rfl (by decide) rfl [.ref o, .long (0 : Int64), .retAddr 0, .int (0 : Int32)] rfl ?_
      refine cX6_keepSeats_23 hS C hZ E (fun h2 v1 H => ?_) FU h (0 : Int64) (0 : Int32) H
      refine ww_aload_n C dX6_keepSeats_68 0 rfl rfl ?_
      refine wk_getR C dX6_keepSeats_69 fl_X6_33 hS.1 rfl (tX6_seatRows hS).1 ?_
      refine ww_aload_n C dX6_keepSeats_72 0 rfl rfl ?_
      refine wk_getI C dX6_keepSeats_73 fl_X6_45 hS.1 rfl ?_
      refine ww_iconst (v := (1 : Int32)) C dX6_keepSeats_76 (by decide) ?_
      refine ww_isub C dX6_keepSeats_77 ?_
      refine ww_lload_n C dX6_keepSeats_78 1 rfl rfl ?_
      obtain ⟨hg, H⟩ := gd_of H
      refine wk_lastore C dX6_keepSeats_79 (tX6_seatRows hS).2.1 (vp_of hg (tX6_seatRows hS).2.2) (((h2.1 o 1) - (1 : Int32)).toNatClampNeg) rfl ?_
      cases H
      exact ww_vret C E dX6_keepSeats_80 ⟨rfl, rfl⟩
    · rw [if_neg hc] at H
      cases H
      exact ww_vret C E dX6_keepSeats_18 ⟨rfl, rfl⟩
def fX6_isBroken (o : Nat) (h : HI) (a1 : Int32) : Option (Int32 × HI) := (if (((h.1 o 4) >>> (a1 &&& 31)) &&& (1 : Int32)) = 0 then some ((0 : Int32), h) else some ((1 : Int32), h))
set_option maxRecDepth 100000 in
set_option maxHeartbeats 4000000 in
theorem ccX6_isBroken {l : Launch} {sh : Sh} {adr : Nat → Nat} {r : Nat → Nat → Option Nat} {o : Nat} {hh : Nat} (hS : SS sh r hh o) {h : HI} {a1 : Int32} {p : Int32 × HI} (H : fX6_isBroken o h a1 = some p) : CC l yX6_isBroken cX6_isBroken 2 (some .boolean) 0 [.ref o, .int a1] sh adr (mk h r) (fun v τ => v = some (.int p.1) ∧ τ = mk p.2 r) := by
  refine CC.of (by decide) (Nat.le_of_ble_eq_true rfl) 0 [.ref o, .int a1] rfl (fun X _ C E hZ => ?_)
  rw [fX6_isBroken] at H
  refine ww_aload_n C dX6_isBroken_0 0 rfl rfl ?_
  refine wk_getI C dX6_isBroken_1 fl_X6_55 hS.1 rfl ?_
  refine ww_iload_n C dX6_isBroken_4 1 rfl rfl ?_
  refine ww_ishr C dX6_isBroken_5 ?_
  refine ww_iconst (v := (1 : Int32)) C dX6_isBroken_6 (by decide) ?_
  refine ww_iand C dX6_isBroken_7 ?_
  refine ww_if_eq C dX6_isBroken_8 15 rfl (fun hc => ?_) (fun hc => ?_)
  · rw [if_pos hc] at H
    refine ww_iconst (v := (0 : Int32)) C dX6_isBroken_15 (by decide) ?_
    cases H
    exact ww_zret C E dX6_isBroken_16 (Or.inl rfl) ⟨rfl, rfl⟩
  · rw [if_neg hc] at H
    refine ww_iconst (v := (1 : Int32)) C dX6_isBroken_11 (by decide) ?_
    refine ww_goto C dX6_isBroken_12 16 rfl ?_
    cases H
    exact ww_zret C E dX6_isBroken_16 (Or.inr rfl) ⟨rfl, rfl⟩
def fX6_sitters_34 (o : Nat) (hh : Nat) (k : HI → Int32 → Option (Int32 × HI)) (kb : HI → Int32 → Int32 → Int32 → Option (Int32 × HI)) (h : HI) (v1 : Int32) (v2 : Int32) (v3 : Int32) : Option (Int32 × HI) := kb h v1 v2 (v3 + (1 : Int32))
set_option maxRecDepth 100000 in
set_option maxHeartbeats 4000000 in
theorem cX6_sitters_34 {X : CT} {sh : Sh} {adr : Nat → Nat} {r : Nat → Nat → Option Nat} {o : Nat} {hh : Nat} {p : Int32 × HI} (hS : SS sh r hh o) (C : CX X yX6_sitters.cls cX6_sitters 4 0) (hZ : SZX X adr) (E : RX X (some .int) sh adr (fun v τ => v = some (.int p.1) ∧ τ = mk p.2 r)) {k : HI → Int32 → Option (Int32 × HI)} {kb : HI → Int32 → Int32 → Int32 → Option (Int32 × HI)} (hk : ∀ (h : HI) (v2 : Int32), k h v2 = some p → WW X (sh, adr, 0, 0) 40 [.ref o, .retAddr 0, .int v2, .retAddr 0] [] (mk h r)) (hb : ∀ (h : HI) (v1 : Int32) (v2 : Int32) (v3 : Int32), kb h v1 v2 v3 = some p → WW X (sh, adr, 0, 0) 4 [.ref o, .int v1, .int v2, .int v3] [] (mk h r)) {h : HI} {v1 : Int32} {v2 : Int32} {v3 : Int32} (H : fX6_sitters_34 o hh k kb h v1 v2 v3 = some p) : WW X (sh, adr, 0, 0) 34 [.ref o, .int v1, .int v2, .int v3] [] (mk h r) := by
  rw [fX6_sitters_34] at H
  refine ww_iinc (v := (v3 + (1 : Int32))) C dX6_sitters_34 rfl rfl (by decide) rfl [.ref o, .int v1, .int v2, .int (v3 + (1 : Int32))] rfl ?_
  refine ww_goto C dX6_sitters_37 4 rfl ?_
  exact hb h v1 v2 (v3 + (1 : Int32)) H
def fX6_sitters_4 (o : Nat) (hh : Nat) (k : HI → Int32 → Option (Int32 × HI)) : Nat → HI → Int32 → Int32 → Int32 → Option (Int32 × HI)
  | 0, _, _, _, _ => none
  | n + 1, h, v1, v2, v3 => (if (h.1 (hh + 3) 1) ≤ v3 then k h v2 else (if inB v3 6 then (if (h.1 (o + 1) (v3.toNatClampNeg)) = v1 then fX6_sitters_34 o hh (k) (fX6_sitters_4 o hh k n) h v1 (v2 ||| ((1 : Int32) <<< (v3 &&& 31))) v3 else fX6_sitters_34 o hh (k) (fX6_sitters_4 o hh k n) h v1 v2 v3) else none))
set_option maxRecDepth 100000 in
set_option maxHeartbeats 4000000 in
theorem cX6_sitters_4 {X : CT} {sh : Sh} {adr : Nat → Nat} {r : Nat → Nat → Option Nat} {o : Nat} {hh : Nat} {p : Int32 × HI} (hS : SS sh r hh o) (C : CX X yX6_sitters.cls cX6_sitters 4 0) (hZ : SZX X adr) (E : RX X (some .int) sh adr (fun v τ => v = some (.int p.1) ∧ τ = mk p.2 r)) {k : HI → Int32 → Option (Int32 × HI)} (hk : ∀ (h : HI) (v2 : Int32), k h v2 = some p → WW X (sh, adr, 0, 0) 40 [.ref o, .retAddr 0, .int v2, .retAddr 0] [] (mk h r)) : ∀ (n : Nat) (h : HI) (v1 : Int32) (v2 : Int32) (v3 : Int32), fX6_sitters_4 o hh k n h v1 v2 v3 = some p → WW X (sh, adr, 0, 0) 4 [.ref o, .int v1, .int v2, .int v3] [] (mk h r) := by
  intro n
  induction n with
  | zero =>
    intro h v1 v2 v3 H
    rw [fX6_sitters_4] at H
    cases H
  | succ n ih =>
    intro h v1 v2 v3 H
    rw [fX6_sitters_4] at H
    refine ww_iload_n C dX6_sitters_4 3 rfl rfl ?_
    refine ww_aload_n C dX6_sitters_5 0 rfl rfl ?_
    refine wk_getA C dX6_sitters_6 fl_X6_41 hS.1 rfl (tX6_hall hS).1 ?_
    refine wk_getA C dX6_sitters_9 fl_X6_78 (tX6_hall hS).2.1 rfl (tX1_men (tX6_hall hS).2).1 ?_
    refine wk_getI C dX6_sitters_12 fl_X6_167 (tX1_men (tX6_hall hS).2).2.1 rfl ?_
    refine ww_icmp_ge C dX6_sitters_15 40 rfl (fun hc => ?_) (fun hc => ?_)
    · rw [if_pos hc] at H
      exact ww_drop [.ref o, .retAddr 0, .int v2, .retAddr 0] (sl_e (sl_d (sl_e (sl_d sl_n)))) (hk h v2 H)
    · rw [if_neg hc] at H
      refine ww_aload_n C dX6_sitters_18 0 rfl rfl ?_
      refine wk_getR C dX6_sitters_19 fl_X6_9 hS.1 rfl (tX6_where hS).1 ?_
      refine ww_iload_n C dX6_sitters_22 3 rfl rfl ?_
      obtain ⟨hg, H⟩ := gd_of H
      refine wk_iaload C dX6_sitters_23 (tX6_where hS).2.1 (vp_of hg (tX6_where hS).2.2) (v3.toNatClampNeg) rfl ?_
      refine ww_iload_n C dX6_sitters_24 1 rfl rfl ?_
      refine ww_icmp_ne C dX6_sitters_25 34 rfl (fun hc => ?_) (fun hc => ?_)
      · rw [if_neg hc] at H
        exact cX6_sitters_34 hS C hZ E hk ih H
      · rw [if_pos hc] at H
        refine ww_iload_n C dX6_sitters_28 2 rfl rfl ?_
        refine ww_iconst (v := (1 : Int32)) C dX6_sitters_29 (by decide) ?_
        refine ww_iload_n C dX6_sitters_30 3 rfl rfl ?_
        refine ww_ishl C dX6_sitters_31 ?_
        refine ww_ior C dX6_sitters_32 ?_
        refine ww_istore_n C dX6_sitters_33 2 rfl (by decide) rfl [.ref o, .int v1, .int (v2 ||| ((1 : Int32) <<< (v3 &&& 31))), .int v3] rfl ?_
        exact cX6_sitters_34 hS C hZ E hk ih H
def fX6_sitters (o : Nat) (hh : Nat) (h : HI) (a1 : Int32) : Option (Int32 × HI) := fX6_sitters_4 o hh (fun h2 v2 => some (v2, h2)) FU h a1 (0 : Int32) (0 : Int32)
set_option maxRecDepth 100000 in
set_option maxHeartbeats 4000000 in
theorem ccX6_sitters {l : Launch} {sh : Sh} {adr : Nat → Nat} {r : Nat → Nat → Option Nat} {o : Nat} {hh : Nat} (hS : SS sh r hh o) {h : HI} {a1 : Int32} {p : Int32 × HI} (H : fX6_sitters o hh h a1 = some p) : CC l yX6_sitters cX6_sitters 4 (some .int) 0 [.ref o, .int a1] sh adr (mk h r) (fun v τ => v = some (.int p.1) ∧ τ = mk p.2 r) := by
  refine CC.of (by decide) (Nat.le_of_ble_eq_true rfl) 2 [.ref o, .int a1, .retAddr 0, .retAddr 0] rfl (fun X _ C E hZ => ?_)
  rw [fX6_sitters] at H
  refine ww_iconst (v := (0 : Int32)) C dX6_sitters_0 (by decide) ?_
  refine ww_istore_n C dX6_sitters_1 2 rfl (by decide) rfl [.ref o, .int a1, .int (0 : Int32), .retAddr 0] rfl ?_
  refine ww_iconst (v := (0 : Int32)) C dX6_sitters_2 (by decide) ?_
  refine ww_istore_n C dX6_sitters_3 3 rfl (by decide) rfl [.ref o, .int a1, .int (0 : Int32), .int (0 : Int32)] rfl ?_
  refine cX6_sitters_4 hS C hZ E (fun h2 v2 H => ?_) FU h a1 (0 : Int32) (0 : Int32) H
  refine ww_iload_n C dX6_sitters_40 2 rfl rfl ?_
  cases H
  exact ww_iret C E dX6_sitters_41 ⟨rfl, rfl⟩
def fX6_hasPlace (o : Nat) (hh : Nat) (h : HI) (a1 : Int32) : Option (Int32 × HI) := ((fX2_has (hh + 1) h a1).bind fun p1 => (if p1.1 = 0 then some ((0 : Int32), p1.2) else ((fX6_isBroken o p1.2 a1).bind fun p2 => (if p2.1 = 0 then ((fX6_sitters o hh p2.2 a1).bind fun p3 => ((fJ6_bitCount_0f7a4 p3.2 p3.1).bind fun p4 => (if inB a1 6 then (if (p4.2.1 (hh + 7) (a1.toNatClampNeg)) ≤ p4.1 then some ((0 : Int32), p4.2) else some ((1 : Int32), p4.2)) else none))) else some ((0 : Int32), p2.2)))))
set_option maxRecDepth 100000 in
set_option maxHeartbeats 4000000 in
theorem ccX6_hasPlace {l : Launch} {sh : Sh} {adr : Nat → Nat} {r : Nat → Nat → Option Nat} {o : Nat} {hh : Nat} (hS : SS sh r hh o) {h : HI} {a1 : Int32} {p : Int32 × HI} (H : fX6_hasPlace o hh h a1 = some p) : CC l yX6_hasPlace cX6_hasPlace 2 (some .boolean) 1 [.ref o, .int a1] sh adr (mk h r) (fun v τ => v = some (.int p.1) ∧ τ = mk p.2 r) := by
  refine CC.of (by decide) (Nat.le_of_ble_eq_true rfl) 0 [.ref o, .int a1] rfl (fun X _ C E hZ => ?_)
  rw [fX6_hasPlace] at H
  refine ww_aload_n C dX6_hasPlace_0 0 rfl rfl ?_
  refine wk_getA C dX6_hasPlace_1 fl_X6_41 hS.1 rfl (tX6_hall hS).1 ?_
  refine wk_getA C dX6_hasPlace_4 fl_X6_192 (tX6_hall hS).2.1 rfl (tX1_chairs (tX6_hall hS).2).1 ?_
  refine ww_iload_n C dX6_hasPlace_7 1 rfl rfl ?_
  obtain ⟨p1, hc1, H⟩ := bd_of H
  refine ww_callV C hZ dX6_hasPlace_8 cw_X6_82 (ccX2_has (tX1_chairs (tX6_hall hS).2).2 hc1) (tX1_chairs (tX6_hall hS).2).2.1 ⟨by decide, rfl⟩ (by decide) rfl rfl (Nat.le_of_ble_eq_true rfl) ⟨Nat.zero_le _, Nat.zero_le _⟩ (fun v τ hp => ?_)
  obtain ⟨rfl, rfl⟩ := hp
  change WW X _ 11 [.ref o, .int a1] [.int p1.1] _
  refine ww_if_eq C dX6_hasPlace_11 46 rfl (fun hc => ?_) (fun hc => ?_)
  · rw [if_pos hc] at H
    refine ww_iconst (v := (0 : Int32)) C dX6_hasPlace_46 (by decide) ?_
    cases H
    exact ww_zret C E dX6_hasPlace_47 (Or.inl rfl) ⟨rfl, rfl⟩
  · rw [if_neg hc] at H
    refine ww_aload_n C dX6_hasPlace_14 0 rfl rfl ?_
    refine ww_iload_n C dX6_hasPlace_15 1 rfl rfl ?_
    obtain ⟨p2, hc1, H⟩ := bd_of H
    refine ww_callV C hZ dX6_hasPlace_16 cw_X6_195 (ccX6_isBroken hS hc1) hS.1 ⟨by decide, rfl⟩ (by decide) rfl rfl (Nat.le_of_ble_eq_true rfl) ⟨Nat.zero_le _, Nat.zero_le _⟩ (fun v τ hp => ?_)
    obtain ⟨rfl, rfl⟩ := hp
    change WW X _ 19 [.ref o, .int a1] [.int p2.1] _
    refine ww_if_ne C dX6_hasPlace_19 46 rfl (fun hc => ?_) (fun hc => ?_)
    · rw [if_neg hc] at H
      refine ww_iconst (v := (0 : Int32)) C dX6_hasPlace_46 (by decide) ?_
      cases H
      exact ww_zret C E dX6_hasPlace_47 (Or.inl rfl) ⟨rfl, rfl⟩
    · rw [if_pos hc] at H
      refine ww_aload_n C dX6_hasPlace_22 0 rfl rfl ?_
      refine ww_iload_n C dX6_hasPlace_23 1 rfl rfl ?_
      obtain ⟨p3, hc1, H⟩ := bd_of H
      refine ww_callV C hZ dX6_hasPlace_24 cw_X6_207 (ccX6_sitters hS hc1) hS.1 ⟨by decide, rfl⟩ (by decide) rfl rfl (Nat.le_of_ble_eq_true rfl) ⟨Nat.zero_le _, Nat.zero_le _⟩ (fun v τ hp => ?_)
      obtain ⟨rfl, rfl⟩ := hp
      change WW X _ 27 [.ref o, .int a1] [.int p3.1] _
      obtain ⟨p4, hc1, H⟩ := bd_of H
      refine ww_callS C hZ dX6_hasPlace_27 sw_X6_124 (ccJ6_bitCount_0f7a4 hc1) (by decide) rfl rfl (Nat.le_of_ble_eq_true rfl) ⟨Nat.zero_le _, Nat.zero_le _⟩ (fun v τ hp => ?_)
      obtain ⟨rfl, rfl⟩ := hp
      change WW X _ 30 [.ref o, .int a1] [.int p4.1] _
      refine ww_aload_n C dX6_hasPlace_30 0 rfl rfl ?_
      refine wk_getA C dX6_hasPlace_31 fl_X6_41 hS.1 rfl (tX6_hall hS).1 ?_
      refine wk_getR C dX6_hasPlace_34 fl_X6_210 (tX6_hall hS).2.1 rfl (tX1_holds (tX6_hall hS).2).1 ?_
      refine ww_iload_n C dX6_hasPlace_37 1 rfl rfl ?_
      obtain ⟨hg, H⟩ := gd_of H
      refine wk_iaload C dX6_hasPlace_38 (tX1_holds (tX6_hall hS).2).2.1 (vp_of hg (tX1_holds (tX6_hall hS).2).2.2) (a1.toNatClampNeg) rfl ?_
      refine ww_icmp_ge C dX6_hasPlace_39 46 rfl (fun hc => ?_) (fun hc => ?_)
      · rw [if_pos hc] at H
        refine ww_iconst (v := (0 : Int32)) C dX6_hasPlace_46 (by decide) ?_
        cases H
        exact ww_zret C E dX6_hasPlace_47 (Or.inl rfl) ⟨rfl, rfl⟩
      · rw [if_neg hc] at H
        refine ww_iconst (v := (1 : Int32)) C dX6_hasPlace_42 (by decide) ?_
        refine ww_goto C dX6_hasPlace_43 47 rfl ?_
        cases H
        exact ww_zret C E dX6_hasPlace_47 (Or.inr rfl) ⟨rfl, rfl⟩
def fX6_place (o : Nat) (h : HI) (a1 : Int32) (a2 : Int32) : Option (HI) := (if inB a1 6 then (if inB a1 6 then some (uI (uI h (o + 1) (a1.toNatClampNeg) a2) (o + 3) (a1.toNatClampNeg) (0 : Int32)) else none) else none)
set_option maxRecDepth 100000 in
set_option maxHeartbeats 4000000 in
theorem ccX6_place {l : Launch} {sh : Sh} {adr : Nat → Nat} {r : Nat → Nat → Option Nat} {o : Nat} {hh : Nat} (hS : SS sh r hh o) {h : HI} {a1 : Int32} {a2 : Int32} {p : HI} (H : fX6_place o h a1 a2 = some p) : CC l yX6_place cX6_place 3 none 0 [.ref o, .int a1, .int a2] sh adr (mk h r) (fun v τ => v = none ∧ τ = mk p r) := by
  refine CC.of (by decide) (Nat.le_of_ble_eq_true rfl) 0 [.ref o, .int a1, .int a2] rfl (fun X _ C E hZ => ?_)
  rw [fX6_place] at H
  refine ww_aload_n C dX6_place_0 0 rfl rfl ?_
  refine wk_getR C dX6_place_1 fl_X6_9 hS.1 rfl (tX6_where hS).1 ?_
  refine ww_iload_n C dX6_place_4 1 rfl rfl ?_
  refine ww_iload_n C dX6_place_5 2 rfl rfl ?_
  obtain ⟨hg, H⟩ := gd_of H
  refine wk_iastore C dX6_place_6 (tX6_where hS).2.1 (vp_of hg (tX6_where hS).2.2) (a1.toNatClampNeg) rfl ?_
  refine ww_aload_n C dX6_place_7 0 rfl rfl ?_
  refine wk_getR C dX6_place_8 fl_X6_18 hS.1 rfl (tX6_satFor hS).1 ?_
  refine ww_iload_n C dX6_place_11 1 rfl rfl ?_
  refine ww_iconst (v := (0 : Int32)) C dX6_place_12 (by decide) ?_
  obtain ⟨hg, H⟩ := gd_of H
  refine wk_iastore C dX6_place_13 (tX6_satFor hS).2.1 (vp_of hg (tX6_satFor hS).2.2) (a1.toNatClampNeg) rfl ?_
  cases H
  exact ww_vret C E dX6_place_14 ⟨rfl, rfl⟩
def fX6_sink_2 (o : Nat) (hh : Nat) (k : HI → Option (HI)) : Nat → HI → Int32 → Int32 → Option (HI)
  | 0, _, _, _ => none
  | n + 1, h, v1, v2 => (if (h.1 (hh + 1) 1) ≤ v2 then k h else ((fX6_hasPlace o hh h v2).bind fun p1 => (if p1.1 = 0 then fX6_sink_2 o hh k n p1.2 v1 (v2 + (1 : Int32)) else ((fX6_place o p1.2 v1 v2).bind fun h2 => some (uI h2 o 3 ((h2.1 o 3) + (1 : Int32)))))))
set_option maxRecDepth 100000 in
set_option maxHeartbeats 4000000 in
theorem cX6_sink_2 {X : CT} {sh : Sh} {adr : Nat → Nat} {r : Nat → Nat → Option Nat} {o : Nat} {hh : Nat} {p : HI} (hS : SS sh r hh o) (C : CX X yX6_sink.cls cX6_sink 3 2) (hZ : SZX X adr) (E : RX X none sh adr (fun v τ => v = none ∧ τ = mk p r)) {k : HI → Option (HI)} (hk : ∀ (h : HI), k h = some p → WW X (sh, adr, 0, 0) 47 [.ref o, .retAddr 0, .retAddr 0] [] (mk h r)) : ∀ (n : Nat) (h : HI) (v1 : Int32) (v2 : Int32), fX6_sink_2 o hh k n h v1 v2 = some p → WW X (sh, adr, 0, 0) 2 [.ref o, .int v1, .int v2] [] (mk h r) := by
  intro n
  induction n with
  | zero =>
    intro h v1 v2 H
    rw [fX6_sink_2] at H
    cases H
  | succ n ih =>
    intro h v1 v2 H
    rw [fX6_sink_2] at H
    refine ww_iload_n C dX6_sink_2 2 rfl rfl ?_
    refine ww_aload_n C dX6_sink_3 0 rfl rfl ?_
    refine wk_getA C dX6_sink_4 fl_X6_41 hS.1 rfl (tX6_hall hS).1 ?_
    refine wk_getA C dX6_sink_7 fl_X6_192 (tX6_hall hS).2.1 rfl (tX1_chairs (tX6_hall hS).2).1 ?_
    refine wk_getI C dX6_sink_10 fl_X6_167 (tX1_chairs (tX6_hall hS).2).2.1 rfl ?_
    refine ww_icmp_ge C dX6_sink_13 47 rfl (fun hc => ?_) (fun hc => ?_)
    · rw [if_pos hc] at H
      exact ww_drop [.ref o, .retAddr 0, .retAddr 0] (sl_e (sl_d (sl_d sl_n))) (hk h H)
    · rw [if_neg hc] at H
      refine ww_aload_n C dX6_sink_16 0 rfl rfl ?_
      refine ww_iload_n C dX6_sink_17 2 rfl rfl ?_
      obtain ⟨p1, hc1, H⟩ := bd_of H
      refine ww_callV C hZ dX6_sink_18 cw_X6_102 (ccX6_hasPlace hS hc1) hS.1 ⟨by decide, rfl⟩ (by decide) rfl rfl (Nat.le_of_ble_eq_true rfl) ⟨Nat.zero_le _, Nat.zero_le _⟩ (fun v τ hp => ?_)
      obtain ⟨rfl, rfl⟩ := hp
      change WW X _ 21 [.ref o, .int v1, .int v2] [.int p1.1] _
      refine ww_if_eq C dX6_sink_21 41 rfl (fun hc => ?_) (fun hc => ?_)
      · rw [if_pos hc] at H
        refine ww_iinc (v := (v2 + (1 : Int32))) C dX6_sink_41 rfl rfl (by decide) rfl [.ref o, .int v1, .int (v2 + (1 : Int32))] rfl ?_
        refine ww_goto C dX6_sink_44 2 rfl ?_
        exact ih p1.2 v1 (v2 + (1 : Int32)) H
      · rw [if_neg hc] at H
        refine ww_aload_n C dX6_sink_24 0 rfl rfl ?_
        refine ww_iload_n C dX6_sink_25 1 rfl rfl ?_
        refine ww_iload_n C dX6_sink_26 2 rfl rfl ?_
        obtain ⟨h2, hc1, H⟩ := bd_of H
        refine ww_callV C hZ dX6_sink_27 cw_X6_91 (ccX6_place hS hc1) hS.1 ⟨by decide, rfl⟩ (by decide) rfl rfl (Nat.le_of_ble_eq_true rfl) ⟨Nat.zero_le _, Nat.zero_le _⟩ (fun v τ hp => ?_)
        obtain ⟨rfl, rfl⟩ := hp
        change WW X _ 30 [.ref o, .int v1, .int v2] [] _
        refine ww_aload_n C dX6_sink_30 0 rfl rfl ?_
        refine ww_dup C dX6_sink_31 rfl ?_
        refine wk_getI C dX6_sink_32 fl_X6_52 hS.1 rfl ?_
        refine ww_iconst (v := (1 : Int32)) C dX6_sink_35 (by decide) ?_
        refine ww_iadd C dX6_sink_36 ?_
        refine wk_putI C dX6_sink_37 fl_X6_52 hS.1 rfl rfl ?_
        cases H
        exact ww_vret C E dX6_sink_40 ⟨rfl, rfl⟩
def fX6_sink (o : Nat) (hh : Nat) (h : HI) (a1 : Int32) : Option (HI) := fX6_sink_2 o hh (fun h4 => some h4) FU h a1 (0 : Int32)
set_option maxRecDepth 100000 in
set_option maxHeartbeats 4000000 in
theorem ccX6_sink {l : Launch} {sh : Sh} {adr : Nat → Nat} {r : Nat → Nat → Option Nat} {o : Nat} {hh : Nat} (hS : SS sh r hh o) {h : HI} {a1 : Int32} {p : HI} (H : fX6_sink o hh h a1 = some p) : CC l yX6_sink cX6_sink 3 none 2 [.ref o, .int a1] sh adr (mk h r) (fun v τ => v = none ∧ τ = mk p r) := by
  refine CC.of (by decide) (Nat.le_of_ble_eq_true rfl) 1 [.ref o, .int a1, .retAddr 0] rfl (fun X _ C E hZ => ?_)
  rw [fX6_sink] at H
  refine ww_iconst (v := (0 : Int32)) C dX6_sink_0 (by decide) ?_
  refine ww_istore_n C dX6_sink_1 2 rfl (by decide) rfl [.ref o, .int a1, .int (0 : Int32)] rfl ?_
  refine cX6_sink_2 hS C hZ E (fun h4 H => ?_) FU h a1 (0 : Int32) H
  cases H
  exact ww_vret C E dX6_sink_47 ⟨rfl, rfl⟩
def fX6_tireOrRest (o : Nat) (hh : Nat) (h : HI) (a1 : Int32) : Option (HI) := (if inB a1 6 then (if (h.1 (o + 1) (a1.toNatClampNeg)) = (-1 : Int32) then (if inB a1 6 then (if inB a1 6 then (if inB a1 6 then some (uI h (o + 2) (a1.toNatClampNeg) (if (h.1 (hh + 8) (a1.toNatClampNeg)) < ((h.1 (o + 2) (a1.toNatClampNeg)) + (1 : Int32)) then (h.1 (hh + 8) (a1.toNatClampNeg)) else ((h.1 (o + 2) (a1.toNatClampNeg)) + (1 : Int32)))) else none) else none) else none) else (if inB a1 6 then (if (h.1 (o + 1) (a1.toNatClampNeg)) < 0 then some h else (if inB a1 6 then (if inB a1 6 then (if inB a1 6 then (if inB a1 6 then some (uI (uI h (o + 2) (a1.toNatClampNeg) (if ((h.1 (o + 2) (a1.toNatClampNeg)) - (2 : Int32)) < (0 : Int32) then (0 : Int32) else ((h.1 (o + 2) (a1.toNatClampNeg)) - (2 : Int32)))) (o + 3) (a1.toNatClampNeg) ((h.1 (o + 3) (a1.toNatClampNeg)) + (1 : Int32))) else none) else none) else none) else none)) else none)) else none)
set_option maxRecDepth 100000 in
set_option maxHeartbeats 4000000 in
theorem ccX6_tireOrRest {l : Launch} {sh : Sh} {adr : Nat → Nat} {r : Nat → Nat → Option Nat} {o : Nat} {hh : Nat} (hS : SS sh r hh o) {h : HI} {a1 : Int32} {p : HI} (H : fX6_tireOrRest o hh h a1 = some p) : CC l yX6_tireOrRest cX6_tireOrRest 2 none 1 [.ref o, .int a1] sh adr (mk h r) (fun v τ => v = none ∧ τ = mk p r) := by
  refine CC.of (by decide) (Nat.le_of_ble_eq_true rfl) 0 [.ref o, .int a1] rfl (fun X _ C E hZ => ?_)
  rw [fX6_tireOrRest] at H
  refine ww_aload_n C dX6_tireOrRest_0 0 rfl rfl ?_
  refine wk_getR C dX6_tireOrRest_1 fl_X6_9 hS.1 rfl (tX6_where hS).1 ?_
  refine ww_iload_n C dX6_tireOrRest_4 1 rfl rfl ?_
  obtain ⟨hg, H⟩ := gd_of H
  refine wk_iaload C dX6_tireOrRest_5 (tX6_where hS).2.1 (vp_of hg (tX6_where hS).2.2) (a1.toNatClampNeg) rfl ?_
  refine ww_iconst (v := (-1 : Int32)) C dX6_tireOrRest_6 (by decide) ?_
  refine ww_icmp_ne C dX6_tireOrRest_7 39 rfl (fun hc => ?_) (fun hc => ?_)
  · rw [if_neg hc] at H
    refine ww_aload_n C dX6_tireOrRest_39 0 rfl rfl ?_
    refine wk_getR C dX6_tireOrRest_40 fl_X6_9 hS.1 rfl (tX6_where hS).1 ?_
    refine ww_iload_n C dX6_tireOrRest_43 1 rfl rfl ?_
    obtain ⟨hg, H⟩ := gd_of H
    refine wk_iaload C dX6_tireOrRest_44 (tX6_where hS).2.1 (vp_of hg (tX6_where hS).2.2) (a1.toNatClampNeg) rfl ?_
    refine ww_if_lt C dX6_tireOrRest_45 76 rfl (fun hc => ?_) (fun hc => ?_)
    · rw [if_pos hc] at H
      cases H
      exact ww_vret C E dX6_tireOrRest_76 ⟨rfl, rfl⟩
    · rw [if_neg hc] at H
      refine ww_aload_n C dX6_tireOrRest_48 0 rfl rfl ?_
      refine wk_getR C dX6_tireOrRest_49 fl_X6_15 hS.1 rfl (tX6_tired hS).1 ?_
      refine ww_iload_n C dX6_tireOrRest_52 1 rfl rfl ?_
      refine ww_aload_n C dX6_tireOrRest_53 0 rfl rfl ?_
      refine wk_getR C dX6_tireOrRest_54 fl_X6_15 hS.1 rfl (tX6_tired hS).1 ?_
      refine ww_iload_n C dX6_tireOrRest_57 1 rfl rfl ?_
      obtain ⟨hg, H⟩ := gd_of H
      refine wk_iaload C dX6_tireOrRest_58 (tX6_tired hS).2.1 (vp_of hg (tX6_tired hS).2.2) (a1.toNatClampNeg) rfl ?_
      refine ww_iconst (v := (2 : Int32)) C dX6_tireOrRest_59 (by decide) ?_
      refine ww_isub C dX6_tireOrRest_60 ?_
      refine ww_iconst (v := (0 : Int32)) C dX6_tireOrRest_61 (by decide) ?_
      refine ww_max C dX6_tireOrRest_62 mw_X6_189 (by decide) (Nat.le_of_ble_eq_true rfl) ⟨Nat.zero_le _, Nat.zero_le _⟩ ?_
      obtain ⟨hg, H⟩ := gd_of H
      refine wk_iastore C dX6_tireOrRest_65 (tX6_tired hS).2.1 (vp_of hg (tX6_tired hS).2.2) (a1.toNatClampNeg) rfl ?_
      refine ww_aload_n C dX6_tireOrRest_66 0 rfl rfl ?_
      refine wk_getR C dX6_tireOrRest_67 fl_X6_18 hS.1 rfl (tX6_satFor hS).1 ?_
      refine ww_iload_n C dX6_tireOrRest_70 1 rfl rfl ?_
      refine ww_dup2 C dX6_tireOrRest_71 rfl rfl ?_
      obtain ⟨hg, H⟩ := gd_of H
      refine wk_iaload C dX6_tireOrRest_72 (tX6_satFor hS).2.1 (vp_of hg (tX6_satFor hS).2.2) (a1.toNatClampNeg) rfl ?_
      refine ww_as (v := (h.1 (o + 3) (a1.toNatClampNeg))) (by rw [uI_n (by omega)]) ?_
      refine ww_iconst (v := (1 : Int32)) C dX6_tireOrRest_73 (by decide) ?_
      refine ww_iadd C dX6_tireOrRest_74 ?_
      obtain ⟨hg, H⟩ := gd_of H
      refine wk_iastore C dX6_tireOrRest_75 (tX6_satFor hS).2.1 (vp_of hg (tX6_satFor hS).2.2) (a1.toNatClampNeg) rfl ?_
      cases H
      exact ww_vret C E dX6_tireOrRest_76 ⟨rfl, rfl⟩
  · rw [if_pos hc] at H
    refine ww_aload_n C dX6_tireOrRest_10 0 rfl rfl ?_
    refine wk_getR C dX6_tireOrRest_11 fl_X6_15 hS.1 rfl (tX6_tired hS).1 ?_
    refine ww_iload_n C dX6_tireOrRest_14 1 rfl rfl ?_
    refine ww_aload_n C dX6_tireOrRest_15 0 rfl rfl ?_
    refine wk_getR C dX6_tireOrRest_16 fl_X6_15 hS.1 rfl (tX6_tired hS).1 ?_
    refine ww_iload_n C dX6_tireOrRest_19 1 rfl rfl ?_
    obtain ⟨hg, H⟩ := gd_of H
    refine wk_iaload C dX6_tireOrRest_20 (tX6_tired hS).2.1 (vp_of hg (tX6_tired hS).2.2) (a1.toNatClampNeg) rfl ?_
    refine ww_iconst (v := (1 : Int32)) C dX6_tireOrRest_21 (by decide) ?_
    refine ww_iadd C dX6_tireOrRest_22 ?_
    refine ww_aload_n C dX6_tireOrRest_23 0 rfl rfl ?_
    refine wk_getA C dX6_tireOrRest_24 fl_X6_41 hS.1 rfl (tX6_hall hS).1 ?_
    refine wk_getR C dX6_tireOrRest_27 fl_X6_105 (tX6_hall hS).2.1 rfl (tX1_strong (tX6_hall hS).2).1 ?_
    refine ww_iload_n C dX6_tireOrRest_30 1 rfl rfl ?_
    obtain ⟨hg, H⟩ := gd_of H
    refine wk_iaload C dX6_tireOrRest_31 (tX1_strong (tX6_hall hS).2).2.1 (vp_of hg (tX1_strong (tX6_hall hS).2).2.2) (a1.toNatClampNeg) rfl ?_
    refine ww_min C dX6_tireOrRest_32 mw_X6_183 (by decide) (Nat.le_of_ble_eq_true rfl) ⟨Nat.zero_le _, Nat.zero_le _⟩ ?_
    obtain ⟨hg, H⟩ := gd_of H
    refine wk_iastore C dX6_tireOrRest_35 (tX6_tired hS).2.1 (vp_of hg (tX6_tired hS).2.2) (a1.toNatClampNeg) rfl ?_
    refine ww_goto C dX6_tireOrRest_36 76 rfl ?_
    cases H
    exact ww_vret C E dX6_tireOrRest_76 ⟨rfl, rfl⟩
def fX6_overMinute_57 (o : Nat) (hh : Nat) (k : HI → Option (Int32 × HI)) (kb : HI → Int32 → Option (Int32 × HI)) (h : HI) (v1 : Int32) : Option (Int32 × HI) := kb h (v1 + (1 : Int32))
set_option maxRecDepth 100000 in
set_option maxHeartbeats 4000000 in
theorem cX6_overMinute_57 {X : CT} {sh : Sh} {adr : Nat → Nat} {r : Nat → Nat → Option Nat} {o : Nat} {hh : Nat} {p : Int32 × HI} (hS : SS sh r hh o) (C : CX X yX6_overMinute.cls cX6_overMinute 2 3) (hZ : SZX X adr) (E : RX X (some .int) sh adr (fun v τ => v = some (.int p.1) ∧ τ = mk p.2 r)) {k : HI → Option (Int32 × HI)} {kb : HI → Int32 → Option (Int32 × HI)} (hk : ∀ (h : HI), k h = some p → WW X (sh, adr, 0, 0) 63 [.ref o, .retAddr 0] [] (mk h r)) (hb : ∀ (h : HI) (v1 : Int32), kb h v1 = some p → WW X (sh, adr, 0, 0) 12 [.ref o, .int v1] [] (mk h r)) {h : HI} {v1 : Int32} (H : fX6_overMinute_57 o hh k kb h v1 = some p) : WW X (sh, adr, 0, 0) 57 [.ref o, .int v1] [] (mk h r) := by
  rw [fX6_overMinute_57] at H
  refine ww_iinc (v := (v1 + (1 : Int32))) C dX6_overMinute_57 rfl rfl (by decide) rfl [.ref o, .int (v1 + (1 : Int32))] rfl ?_
  refine ww_goto C dX6_overMinute_60 12 rfl ?_
  exact hb h (v1 + (1 : Int32)) H
def fX6_overMinute_12 (o : Nat) (hh : Nat) (k : HI → Option (Int32 × HI)) : Nat → HI → Int32 → Option (Int32 × HI)
  | 0, _, _ => none
  | n + 1, h, v1 => (if (h.1 (hh + 5) 1) ≤ v1 then k h else ((fX6_isAlive o hh h v1).bind fun p1 => (if p1.1 = 0 then fX6_overMinute_57 o hh (k) (fX6_overMinute_12 o hh k n) p1.2 v1 else (if inB v1 4 then (if (p1.2.1 (hh + 9) (v1.toNatClampNeg)) = (p1.2.1 o 1) then (if inB v1 4 then fX6_overMinute_57 o hh (k) (fX6_overMinute_12 o hh k n) (uI p1.2 (o + 5) (v1.toNatClampNeg) (3 : Int32)) v1 else none) else fX6_overMinute_57 o hh (k) (fX6_overMinute_12 o hh k n) p1.2 v1) else none))))
set_option maxRecDepth 100000 in
set_option maxHeartbeats 4000000 in
theorem cX6_overMinute_12 {X : CT} {sh : Sh} {adr : Nat → Nat} {r : Nat → Nat → Option Nat} {o : Nat} {hh : Nat} {p : Int32 × HI} (hS : SS sh r hh o) (C : CX X yX6_overMinute.cls cX6_overMinute 2 3) (hZ : SZX X adr) (E : RX X (some .int) sh adr (fun v τ => v = some (.int p.1) ∧ τ = mk p.2 r)) {k : HI → Option (Int32 × HI)} (hk : ∀ (h : HI), k h = some p → WW X (sh, adr, 0, 0) 63 [.ref o, .retAddr 0] [] (mk h r)) : ∀ (n : Nat) (h : HI) (v1 : Int32), fX6_overMinute_12 o hh k n h v1 = some p → WW X (sh, adr, 0, 0) 12 [.ref o, .int v1] [] (mk h r) := by
  intro n
  induction n with
  | zero =>
    intro h v1 H
    rw [fX6_overMinute_12] at H
    cases H
  | succ n ih =>
    intro h v1 H
    rw [fX6_overMinute_12] at H
    refine ww_iload_n C dX6_overMinute_12 1 rfl rfl ?_
    refine ww_aload_n C dX6_overMinute_13 0 rfl rfl ?_
    refine wk_getA C dX6_overMinute_14 fl_X6_41 hS.1 rfl (tX6_hall hS).1 ?_
    refine wk_getA C dX6_overMinute_17 fl_X6_111 (tX6_hall hS).2.1 rfl (tX1_matters (tX6_hall hS).2).1 ?_
    refine wk_getI C dX6_overMinute_20 fl_X6_167 (tX1_matters (tX6_hall hS).2).2.1 rfl ?_
    refine ww_icmp_ge C dX6_overMinute_23 63 rfl (fun hc => ?_) (fun hc => ?_)
    · rw [if_pos hc] at H
      exact ww_drop [.ref o, .retAddr 0] (sl_e (sl_d sl_n)) (hk h H)
    · rw [if_neg hc] at H
      refine ww_aload_n C dX6_overMinute_26 0 rfl rfl ?_
      refine ww_iload_n C dX6_overMinute_27 1 rfl rfl ?_
      obtain ⟨p1, hc1, H⟩ := bd_of H
      refine ww_callV C hZ dX6_overMinute_28 cw_X6_108 (ccX6_isAlive hS hc1) hS.1 ⟨by decide, rfl⟩ (by decide) rfl rfl (Nat.le_of_ble_eq_true rfl) ⟨Nat.zero_le _, Nat.zero_le _⟩ (fun v τ hp => ?_)
      obtain ⟨rfl, rfl⟩ := hp
      change WW X _ 31 [.ref o, .int v1] [.int p1.1] _
      refine ww_if_eq C dX6_overMinute_31 57 rfl (fun hc => ?_) (fun hc => ?_)
      · rw [if_pos hc] at H
        exact cX6_overMinute_57 hS C hZ E hk ih H
      · rw [if_neg hc] at H
        refine ww_aload_n C dX6_overMinute_34 0 rfl rfl ?_
        refine wk_getA C dX6_overMinute_35 fl_X6_41 hS.1 rfl (tX6_hall hS).1 ?_
        refine wk_getR C dX6_overMinute_38 fl_X6_170 (tX6_hall hS).2.1 rfl (tX1_dies (tX6_hall hS).2).1 ?_
        refine ww_iload_n C dX6_overMinute_41 1 rfl rfl ?_
        obtain ⟨hg, H⟩ := gd_of H
        refine wk_iaload C dX6_overMinute_42 (tX1_dies (tX6_hall hS).2).2.1 (vp_of hg (tX1_dies (tX6_hall hS).2).2.2) (v1.toNatClampNeg) rfl ?_
        refine ww_aload_n C dX6_overMinute_43 0 rfl rfl ?_
        refine wk_getI C dX6_overMinute_44 fl_X6_45 hS.1 rfl ?_
        refine ww_icmp_ne C dX6_overMinute_47 57 rfl (fun hc => ?_) (fun hc => ?_)
        · rw [if_neg hc] at H
          exact cX6_overMinute_57 hS C hZ E hk ih H
        · rw [if_pos hc] at H
          refine ww_aload_n C dX6_overMinute_50 0 rfl rfl ?_
          refine wk_getR C dX6_overMinute_51 fl_X6_24 hS.1 rfl (tX6_status hS).1 ?_
          refine ww_iload_n C dX6_overMinute_54 1 rfl rfl ?_
          refine ww_iconst (v := (3 : Int32)) C dX6_overMinute_55 (by decide) ?_
          obtain ⟨hg, H⟩ := gd_of H
          refine wk_iastore C dX6_overMinute_56 (tX6_status hS).2.1 (vp_of hg (tX6_status hS).2.2) (v1.toNatClampNeg) rfl ?_
          exact cX6_overMinute_57 hS C hZ E hk ih H
def fX6_overMinute_65 (o : Nat) (hh : Nat) (k : HI → Option (Int32 × HI)) : Nat → HI → Int32 → Option (Int32 × HI)
  | 0, _, _ => none
  | n + 1, h, v1 => (if (h.1 (hh + 3) 1) ≤ v1 then k h else ((fX6_tireOrRest o hh h v1).bind fun h4 => fX6_overMinute_65 o hh k n h4 (v1 + (1 : Int32))))
set_option maxRecDepth 100000 in
set_option maxHeartbeats 4000000 in
theorem cX6_overMinute_65 {X : CT} {sh : Sh} {adr : Nat → Nat} {r : Nat → Nat → Option Nat} {o : Nat} {hh : Nat} {p : Int32 × HI} (hS : SS sh r hh o) (C : CX X yX6_overMinute.cls cX6_overMinute 2 3) (hZ : SZX X adr) (E : RX X (some .int) sh adr (fun v τ => v = some (.int p.1) ∧ τ = mk p.2 r)) {k : HI → Option (Int32 × HI)} (hk : ∀ (h : HI), k h = some p → WW X (sh, adr, 0, 0) 90 [.ref o, .retAddr 0] [] (mk h r)) : ∀ (n : Nat) (h : HI) (v1 : Int32), fX6_overMinute_65 o hh k n h v1 = some p → WW X (sh, adr, 0, 0) 65 [.ref o, .int v1] [] (mk h r) := by
  intro n
  induction n with
  | zero =>
    intro h v1 H
    rw [fX6_overMinute_65] at H
    cases H
  | succ n ih =>
    intro h v1 H
    rw [fX6_overMinute_65] at H
    refine ww_iload_n C dX6_overMinute_65 1 rfl rfl ?_
    refine ww_aload_n C dX6_overMinute_66 0 rfl rfl ?_
    refine wk_getA C dX6_overMinute_67 fl_X6_41 hS.1 rfl (tX6_hall hS).1 ?_
    refine wk_getA C dX6_overMinute_70 fl_X6_78 (tX6_hall hS).2.1 rfl (tX1_men (tX6_hall hS).2).1 ?_
    refine wk_getI C dX6_overMinute_73 fl_X6_167 (tX1_men (tX6_hall hS).2).2.1 rfl ?_
    refine ww_icmp_ge C dX6_overMinute_76 90 rfl (fun hc => ?_) (fun hc => ?_)
    · rw [if_pos hc] at H
      exact ww_drop [.ref o, .retAddr 0] (sl_e (sl_d sl_n)) (hk h H)
    · rw [if_neg hc] at H
      refine ww_aload_n C dX6_overMinute_79 0 rfl rfl ?_
      refine ww_iload_n C dX6_overMinute_80 1 rfl rfl ?_
      obtain ⟨h4, hc1, H⟩ := bd_of H
      refine ww_callV C hZ dX6_overMinute_81 cw_X6_173 (ccX6_tireOrRest hS hc1) hS.1 ⟨by decide, rfl⟩ (by decide) rfl rfl (Nat.le_of_ble_eq_true rfl) ⟨Nat.zero_le _, Nat.zero_le _⟩ (fun v τ hp => ?_)
      obtain ⟨rfl, rfl⟩ := hp
      change WW X _ 84 [.ref o, .int v1] [] _
      refine ww_iinc (v := (v1 + (1 : Int32))) C dX6_overMinute_84 rfl rfl (by decide) rfl [.ref o, .int (v1 + (1 : Int32))] rfl ?_
      refine ww_goto C dX6_overMinute_87 65 rfl ?_
      exact ih h4 (v1 + (1 : Int32)) H
def fX6_overMinute_139 (o : Nat) (hh : Nat) (k : HI → Option (Int32 × HI)) (kb : HI → Int32 → Option (Int32 × HI)) (h : HI) (v1 : Int32) : Option (Int32 × HI) := kb h (v1 + (1 : Int32))
set_option maxRecDepth 100000 in
set_option maxHeartbeats 4000000 in
theorem cX6_overMinute_139 {X : CT} {sh : Sh} {adr : Nat → Nat} {r : Nat → Nat → Option Nat} {o : Nat} {hh : Nat} {p : Int32 × HI} (hS : SS sh r hh o) (C : CX X yX6_overMinute.cls cX6_overMinute 2 3) (hZ : SZX X adr) (E : RX X (some .int) sh adr (fun v τ => v = some (.int p.1) ∧ τ = mk p.2 r)) {k : HI → Option (Int32 × HI)} {kb : HI → Int32 → Option (Int32 × HI)} (hk : ∀ (h : HI), k h = some p → WW X (sh, adr, 0, 0) 145 [.ref o, .retAddr 0] [] (mk h r)) (hb : ∀ (h : HI) (v1 : Int32), kb h v1 = some p → WW X (sh, adr, 0, 0) 92 [.ref o, .int v1] [] (mk h r)) {h : HI} {v1 : Int32} (H : fX6_overMinute_139 o hh k kb h v1 = some p) : WW X (sh, adr, 0, 0) 139 [.ref o, .int v1] [] (mk h r) := by
  rw [fX6_overMinute_139] at H
  refine ww_iinc (v := (v1 + (1 : Int32))) C dX6_overMinute_139 rfl rfl (by decide) rfl [.ref o, .int (v1 + (1 : Int32))] rfl ?_
  refine ww_goto C dX6_overMinute_142 92 rfl ?_
  exact hb h (v1 + (1 : Int32)) H
def fX6_overMinute_92 (o : Nat) (hh : Nat) (k : HI → Option (Int32 × HI)) : Nat → HI → Int32 → Option (Int32 × HI)
  | 0, _, _ => none
  | n + 1, h, v1 => (if (h.1 (hh + 3) 1) ≤ v1 then k h else (if inB v1 6 then (if (h.1 (o + 1) (v1.toNatClampNeg)) = (-1 : Int32) then (if inB v1 6 then (if inB v1 6 then (if (h.1 (o + 2) (v1.toNatClampNeg)) < (h.1 (hh + 8) (v1.toNatClampNeg)) then fX6_overMinute_139 o hh (k) (fX6_overMinute_92 o hh k n) h v1 else ((fX6_sink o hh h v1).bind fun h7 => fX6_overMinute_139 o hh (k) (fX6_overMinute_92 o hh k n) h7 v1)) else none) else none) else fX6_overMinute_139 o hh (k) (fX6_overMinute_92 o hh k n) h v1) else none))
set_option maxRecDepth 100000 in
set_option maxHeartbeats 4000000 in
theorem cX6_overMinute_92 {X : CT} {sh : Sh} {adr : Nat → Nat} {r : Nat → Nat → Option Nat} {o : Nat} {hh : Nat} {p : Int32 × HI} (hS : SS sh r hh o) (C : CX X yX6_overMinute.cls cX6_overMinute 2 3) (hZ : SZX X adr) (E : RX X (some .int) sh adr (fun v τ => v = some (.int p.1) ∧ τ = mk p.2 r)) {k : HI → Option (Int32 × HI)} (hk : ∀ (h : HI), k h = some p → WW X (sh, adr, 0, 0) 145 [.ref o, .retAddr 0] [] (mk h r)) : ∀ (n : Nat) (h : HI) (v1 : Int32), fX6_overMinute_92 o hh k n h v1 = some p → WW X (sh, adr, 0, 0) 92 [.ref o, .int v1] [] (mk h r) := by
  intro n
  induction n with
  | zero =>
    intro h v1 H
    rw [fX6_overMinute_92] at H
    cases H
  | succ n ih =>
    intro h v1 H
    rw [fX6_overMinute_92] at H
    refine ww_iload_n C dX6_overMinute_92 1 rfl rfl ?_
    refine ww_aload_n C dX6_overMinute_93 0 rfl rfl ?_
    refine wk_getA C dX6_overMinute_94 fl_X6_41 hS.1 rfl (tX6_hall hS).1 ?_
    refine wk_getA C dX6_overMinute_97 fl_X6_78 (tX6_hall hS).2.1 rfl (tX1_men (tX6_hall hS).2).1 ?_
    refine wk_getI C dX6_overMinute_100 fl_X6_167 (tX1_men (tX6_hall hS).2).2.1 rfl ?_
    refine ww_icmp_ge C dX6_overMinute_103 145 rfl (fun hc => ?_) (fun hc => ?_)
    · rw [if_pos hc] at H
      exact ww_drop [.ref o, .retAddr 0] (sl_e (sl_d sl_n)) (hk h H)
    · rw [if_neg hc] at H
      refine ww_aload_n C dX6_overMinute_106 0 rfl rfl ?_
      refine wk_getR C dX6_overMinute_107 fl_X6_9 hS.1 rfl (tX6_where hS).1 ?_
      refine ww_iload_n C dX6_overMinute_110 1 rfl rfl ?_
      obtain ⟨hg, H⟩ := gd_of H
      refine wk_iaload C dX6_overMinute_111 (tX6_where hS).2.1 (vp_of hg (tX6_where hS).2.2) (v1.toNatClampNeg) rfl ?_
      refine ww_iconst (v := (-1 : Int32)) C dX6_overMinute_112 (by decide) ?_
      refine ww_icmp_ne C dX6_overMinute_113 139 rfl (fun hc => ?_) (fun hc => ?_)
      · rw [if_neg hc] at H
        exact cX6_overMinute_139 hS C hZ E hk ih H
      · rw [if_pos hc] at H
        refine ww_aload_n C dX6_overMinute_116 0 rfl rfl ?_
        refine wk_getR C dX6_overMinute_117 fl_X6_15 hS.1 rfl (tX6_tired hS).1 ?_
        refine ww_iload_n C dX6_overMinute_120 1 rfl rfl ?_
        obtain ⟨hg, H⟩ := gd_of H
        refine wk_iaload C dX6_overMinute_121 (tX6_tired hS).2.1 (vp_of hg (tX6_tired hS).2.2) (v1.toNatClampNeg) rfl ?_
        refine ww_aload_n C dX6_overMinute_122 0 rfl rfl ?_
        refine wk_getA C dX6_overMinute_123 fl_X6_41 hS.1 rfl (tX6_hall hS).1 ?_
        refine wk_getR C dX6_overMinute_126 fl_X6_105 (tX6_hall hS).2.1 rfl (tX1_strong (tX6_hall hS).2).1 ?_
        refine ww_iload_n C dX6_overMinute_129 1 rfl rfl ?_
        obtain ⟨hg, H⟩ := gd_of H
        refine wk_iaload C dX6_overMinute_130 (tX1_strong (tX6_hall hS).2).2.1 (vp_of hg (tX1_strong (tX6_hall hS).2).2.2) (v1.toNatClampNeg) rfl ?_
        refine ww_icmp_lt C dX6_overMinute_131 139 rfl (fun hc => ?_) (fun hc => ?_)
        · rw [if_pos hc] at H
          exact cX6_overMinute_139 hS C hZ E hk ih H
        · rw [if_neg hc] at H
          refine ww_aload_n C dX6_overMinute_134 0 rfl rfl ?_
          refine ww_iload_n C dX6_overMinute_135 1 rfl rfl ?_
          obtain ⟨h7, hc1, H⟩ := bd_of H
          refine ww_callV C hZ dX6_overMinute_136 cw_X6_177 (ccX6_sink hS hc1) hS.1 ⟨by decide, rfl⟩ (by decide) rfl rfl (Nat.le_of_ble_eq_true rfl) ⟨Nat.zero_le _, Nat.zero_le _⟩ (fun v τ hp => ?_)
          obtain ⟨rfl, rfl⟩ := hp
          change WW X _ 139 [.ref o, .int v1] [] _
          exact cX6_overMinute_139 hS C hZ E hk ih H
def fX6_overMinute (o : Nat) (hh : Nat) (h : HI) : Option (Int32 × HI) := fX6_overMinute_12 o hh (fun h3 => fX6_overMinute_65 o hh (fun h6 => fX6_overMinute_92 o hh (fun h9 => ((fX6_keepSeats o hh h9).bind fun h10 => some ((h10.1 o 1), h10))) FU h6 (0 : Int32)) FU h3 (0 : Int32)) FU (uI h o 1 ((h.1 o 1) + (1 : Int32))) (0 : Int32)
set_option maxRecDepth 100000 in
set_option maxHeartbeats 4000000 in
theorem ccX6_overMinute {l : Launch} {sh : Sh} {adr : Nat → Nat} {r : Nat → Nat → Option Nat} {o : Nat} {hh : Nat} (hS : SS sh r hh o) {h : HI}  {p : Int32 × HI} (H : fX6_overMinute o hh h = some p) : CC l yX6_overMinute cX6_overMinute 2 (some .int) 3 [.ref o] sh adr (mk h r) (fun v τ => v = some (.int p.1) ∧ τ = mk p.2 r) := by
  refine CC.of (by decide) (Nat.le_of_ble_eq_true rfl) 1 [.ref o, .retAddr 0] rfl (fun X _ C E hZ => ?_)
  rw [fX6_overMinute] at H
  refine ww_aload_n C dX6_overMinute_0 0 rfl rfl ?_
  refine ww_dup C dX6_overMinute_1 rfl ?_
  refine wk_getI C dX6_overMinute_2 fl_X6_45 hS.1 rfl ?_
  refine ww_iconst (v := (1 : Int32)) C dX6_overMinute_5 (by decide) ?_
  refine ww_iadd C dX6_overMinute_6 ?_
  refine wk_putI C dX6_overMinute_7 fl_X6_45 hS.1 rfl rfl ?_
  refine ww_iconst (v := (0 : Int32)) C dX6_overMinute_10 (by decide) ?_
  refine ww_istore_n C dX6_overMinute_11 1 rfl (by decide) rfl [.ref o, .int (0 : Int32)] rfl ?_
  refine cX6_overMinute_12 hS C hZ E (fun h3 H => ?_) FU (uI h o 1 ((h.1 o 1) + (1 : Int32))) (0 : Int32) H
  refine ww_iconst (v := (0 : Int32)) C dX6_overMinute_63 (by decide) ?_
  refine ww_istore_n C dX6_overMinute_64 1 rfl (by decide) rfl [.ref o, .int (0 : Int32)] rfl ?_
  refine cX6_overMinute_65 hS C hZ E (fun h6 H => ?_) FU h3 (0 : Int32) H
  refine ww_iconst (v := (0 : Int32)) C dX6_overMinute_90 (by decide) ?_
  refine ww_istore_n C dX6_overMinute_91 1 rfl (by decide) rfl [.ref o, .int (0 : Int32)] rfl ?_
  refine cX6_overMinute_92 hS C hZ E (fun h9 H => ?_) FU h6 (0 : Int32) H
  refine ww_aload_n C dX6_overMinute_145 0 rfl rfl ?_
  obtain ⟨h10, hc1, H⟩ := bd_of H
  refine ww_callV C hZ dX6_overMinute_146 cw_X6_180 (ccX6_keepSeats hS hc1) hS.1 ⟨by decide, rfl⟩ (by decide) rfl rfl (Nat.le_of_ble_eq_true rfl) ⟨Nat.zero_le _, Nat.zero_le _⟩ (fun v τ hp => ?_)
  obtain ⟨rfl, rfl⟩ := hp
  change WW X _ 149 [.ref o, .retAddr 0] [] _
  refine ww_aload_n C dX6_overMinute_149 0 rfl rfl ?_
  refine wk_getI C dX6_overMinute_150 fl_X6_45 hS.1 rfl ?_
  cases H
  exact ww_iret C E dX6_overMinute_153 ⟨rfl, rfl⟩
def fX6_standUp (o : Nat) (hh : Nat) (h : HI) (a1 : Int32) : Option (Int32 × HI) := ((fX2_has (hh + 3) h a1).bind fun p1 => (if p1.1 = 0 then some ((-1 : Int32), p1.2) else (if inB a1 6 then (if (p1.2.1 (o + 1) (a1.toNatClampNeg)) < 0 then some ((-1 : Int32), p1.2) else ((fX6_hasTime o p1.2 (1 : Int32)).bind fun p2 => (if p2.1 = 0 then some ((-1 : Int32), p2.2) else ((fX6_place o p2.2 a1 (-1 : Int32)).bind fun h3 => ((fX6_overMinute o hh h3).bind fun p4 => some (p4.1, p4.2)))))) else none)))
set_option maxRecDepth 100000 in
set_option maxHeartbeats 4000000 in
theorem ccX6_standUp {l : Launch} {sh : Sh} {adr : Nat → Nat} {r : Nat → Nat → Option Nat} {o : Nat} {hh : Nat} (hS : SS sh r hh o) {h : HI} {a1 : Int32} {p : Int32 × HI} (H : fX6_standUp o hh h a1 = some p) : CC l yX6_standUp cX6_standUp 2 (some .int) 4 [.ref o, .int a1] sh adr (mk h r) (fun v τ => v = some (.int p.1) ∧ τ = mk p.2 r) := by
  refine CC.of (by decide) (Nat.le_of_ble_eq_true rfl) 0 [.ref o, .int a1] rfl (fun X _ C E hZ => ?_)
  rw [fX6_standUp] at H
  refine ww_aload_n C dX6_standUp_0 0 rfl rfl ?_
  refine wk_getA C dX6_standUp_1 fl_X6_41 hS.1 rfl (tX6_hall hS).1 ?_
  refine wk_getA C dX6_standUp_4 fl_X6_78 (tX6_hall hS).2.1 rfl (tX1_men (tX6_hall hS).2).1 ?_
  refine ww_iload_n C dX6_standUp_7 1 rfl rfl ?_
  obtain ⟨p1, hc1, H⟩ := bd_of H
  refine ww_callV C hZ dX6_standUp_8 cw_X6_82 (ccX2_has (tX1_men (tX6_hall hS).2).2 hc1) (tX1_men (tX6_hall hS).2).2.1 ⟨by decide, rfl⟩ (by decide) rfl rfl (Nat.le_of_ble_eq_true rfl) ⟨Nat.zero_le _, Nat.zero_le _⟩ (fun v τ hp => ?_)
  obtain ⟨rfl, rfl⟩ := hp
  change WW X _ 11 [.ref o, .int a1] [.int p1.1] _
  refine ww_if_eq C dX6_standUp_11 31 rfl (fun hc => ?_) (fun hc => ?_)
  · rw [if_pos hc] at H
    refine ww_iconst (v := (-1 : Int32)) C dX6_standUp_31 (by decide) ?_
    cases H
    exact ww_iret C E dX6_standUp_32 ⟨rfl, rfl⟩
  · rw [if_neg hc] at H
    refine ww_aload_n C dX6_standUp_14 0 rfl rfl ?_
    refine wk_getR C dX6_standUp_15 fl_X6_9 hS.1 rfl (tX6_where hS).1 ?_
    refine ww_iload_n C dX6_standUp_18 1 rfl rfl ?_
    obtain ⟨hg, H⟩ := gd_of H
    refine wk_iaload C dX6_standUp_19 (tX6_where hS).2.1 (vp_of hg (tX6_where hS).2.2) (a1.toNatClampNeg) rfl ?_
    refine ww_if_lt C dX6_standUp_20 31 rfl (fun hc => ?_) (fun hc => ?_)
    · rw [if_pos hc] at H
      refine ww_iconst (v := (-1 : Int32)) C dX6_standUp_31 (by decide) ?_
      cases H
      exact ww_iret C E dX6_standUp_32 ⟨rfl, rfl⟩
    · rw [if_neg hc] at H
      refine ww_aload_n C dX6_standUp_23 0 rfl rfl ?_
      refine ww_iconst (v := (1 : Int32)) C dX6_standUp_24 (by decide) ?_
      obtain ⟨p2, hc1, H⟩ := bd_of H
      refine ww_callV C hZ dX6_standUp_25 cw_X6_88 (ccX6_hasTime hS hc1) hS.1 ⟨by decide, rfl⟩ (by decide) rfl rfl (Nat.le_of_ble_eq_true rfl) ⟨Nat.zero_le _, Nat.zero_le _⟩ (fun v τ hp => ?_)
      obtain ⟨rfl, rfl⟩ := hp
      change WW X _ 28 [.ref o, .int a1] [.int p2.1] _
      refine ww_if_ne C dX6_standUp_28 33 rfl (fun hc => ?_) (fun hc => ?_)
      · rw [if_neg hc] at H
        refine ww_aload_n C dX6_standUp_33 0 rfl rfl ?_
        refine ww_iload_n C dX6_standUp_34 1 rfl rfl ?_
        refine ww_iconst (v := (-1 : Int32)) C dX6_standUp_35 (by decide) ?_
        obtain ⟨h3, hc1, H⟩ := bd_of H
        refine ww_callV C hZ dX6_standUp_36 cw_X6_91 (ccX6_place hS hc1) hS.1 ⟨by decide, rfl⟩ (by decide) rfl rfl (Nat.le_of_ble_eq_true rfl) ⟨Nat.zero_le _, Nat.zero_le _⟩ (fun v τ hp => ?_)
        obtain ⟨rfl, rfl⟩ := hp
        change WW X _ 39 [.ref o, .int a1] [] _
        refine ww_aload_n C dX6_standUp_39 0 rfl rfl ?_
        obtain ⟨p4, hc1, H⟩ := bd_of H
        refine ww_callV C hZ dX6_standUp_40 cw_X6_95 (ccX6_overMinute hS hc1) hS.1 ⟨by decide, rfl⟩ (by decide) rfl rfl (Nat.le_of_ble_eq_true rfl) ⟨Nat.zero_le _, Nat.zero_le _⟩ (fun v τ hp => ?_)
        obtain ⟨rfl, rfl⟩ := hp
        change WW X _ 43 [.ref o, .int a1] [.int p4.1] _
        cases H
        exact ww_iret C E dX6_standUp_43 ⟨rfl, rfl⟩
      · rw [if_pos hc] at H
        refine ww_iconst (v := (-1 : Int32)) C dX6_standUp_31 (by decide) ?_
        cases H
        exact ww_iret C E dX6_standUp_32 ⟨rfl, rfl⟩
def fX6_stands (o : Nat) (hh : Nat) (h : HI) (a1 : Int32) : Option (Int32 × HI) := ((fX2_has (hh + 3) h a1).bind fun p1 => (if p1.1 = 0 then some ((0 : Int32), p1.2) else (if inB a1 6 then (if (p1.2.1 (o + 1) (a1.toNatClampNeg)) = (-1 : Int32) then some ((1 : Int32), p1.2) else some ((0 : Int32), p1.2)) else none)))
set_option maxRecDepth 100000 in
set_option maxHeartbeats 4000000 in
theorem ccX6_stands {l : Launch} {sh : Sh} {adr : Nat → Nat} {r : Nat → Nat → Option Nat} {o : Nat} {hh : Nat} (hS : SS sh r hh o) {h : HI} {a1 : Int32} {p : Int32 × HI} (H : fX6_stands o hh h a1 = some p) : CC l yX6_stands cX6_stands 2 (some .boolean) 1 [.ref o, .int a1] sh adr (mk h r) (fun v τ => v = some (.int p.1) ∧ τ = mk p.2 r) := by
  refine CC.of (by decide) (Nat.le_of_ble_eq_true rfl) 0 [.ref o, .int a1] rfl (fun X _ C E hZ => ?_)
  rw [fX6_stands] at H
  refine ww_aload_n C dX6_stands_0 0 rfl rfl ?_
  refine wk_getA C dX6_stands_1 fl_X6_41 hS.1 rfl (tX6_hall hS).1 ?_
  refine wk_getA C dX6_stands_4 fl_X6_78 (tX6_hall hS).2.1 rfl (tX1_men (tX6_hall hS).2).1 ?_
  refine ww_iload_n C dX6_stands_7 1 rfl rfl ?_
  obtain ⟨p1, hc1, H⟩ := bd_of H
  refine ww_callV C hZ dX6_stands_8 cw_X6_82 (ccX2_has (tX1_men (tX6_hall hS).2).2 hc1) (tX1_men (tX6_hall hS).2).2.1 ⟨by decide, rfl⟩ (by decide) rfl rfl (Nat.le_of_ble_eq_true rfl) ⟨Nat.zero_le _, Nat.zero_le _⟩ (fun v τ hp => ?_)
  obtain ⟨rfl, rfl⟩ := hp
  change WW X _ 11 [.ref o, .int a1] [.int p1.1] _
  refine ww_if_eq C dX6_stands_11 28 rfl (fun hc => ?_) (fun hc => ?_)
  · rw [if_pos hc] at H
    refine ww_iconst (v := (0 : Int32)) C dX6_stands_28 (by decide) ?_
    cases H
    exact ww_zret C E dX6_stands_29 (Or.inl rfl) ⟨rfl, rfl⟩
  · rw [if_neg hc] at H
    refine ww_aload_n C dX6_stands_14 0 rfl rfl ?_
    refine wk_getR C dX6_stands_15 fl_X6_9 hS.1 rfl (tX6_where hS).1 ?_
    refine ww_iload_n C dX6_stands_18 1 rfl rfl ?_
    obtain ⟨hg, H⟩ := gd_of H
    refine wk_iaload C dX6_stands_19 (tX6_where hS).2.1 (vp_of hg (tX6_where hS).2.2) (a1.toNatClampNeg) rfl ?_
    refine ww_iconst (v := (-1 : Int32)) C dX6_stands_20 (by decide) ?_
    refine ww_icmp_ne C dX6_stands_21 28 rfl (fun hc => ?_) (fun hc => ?_)
    · rw [if_neg hc] at H
      refine ww_iconst (v := (0 : Int32)) C dX6_stands_28 (by decide) ?_
      cases H
      exact ww_zret C E dX6_stands_29 (Or.inl rfl) ⟨rfl, rfl⟩
    · rw [if_pos hc] at H
      refine ww_iconst (v := (1 : Int32)) C dX6_stands_24 (by decide) ?_
      refine ww_goto C dX6_stands_25 29 rfl ?_
      cases H
      exact ww_zret C E dX6_stands_29 (Or.inr rfl) ⟨rfl, rfl⟩
def fX6_sitDown (o : Nat) (hh : Nat) (h : HI) (a1 : Int32) (a2 : Int32) : Option (Int32 × HI) := ((fX6_stands o hh h a1).bind fun p1 => (if p1.1 = 0 then some ((-1 : Int32), p1.2) else ((fX6_hasPlace o hh p1.2 a2).bind fun p2 => (if p2.1 = 0 then some ((-1 : Int32), p2.2) else ((fX6_hasTime o p2.2 (1 : Int32)).bind fun p3 => (if p3.1 = 0 then some ((-1 : Int32), p3.2) else ((fX6_place o p3.2 a1 a2).bind fun h4 => ((fX6_overMinute o hh h4).bind fun p5 => some (p5.1, p5.2)))))))))
set_option maxRecDepth 100000 in
set_option maxHeartbeats 4000000 in
theorem ccX6_sitDown {l : Launch} {sh : Sh} {adr : Nat → Nat} {r : Nat → Nat → Option Nat} {o : Nat} {hh : Nat} (hS : SS sh r hh o) {h : HI} {a1 : Int32} {a2 : Int32} {p : Int32 × HI} (H : fX6_sitDown o hh h a1 a2 = some p) : CC l yX6_sitDown cX6_sitDown 3 (some .int) 4 [.ref o, .int a1, .int a2] sh adr (mk h r) (fun v τ => v = some (.int p.1) ∧ τ = mk p.2 r) := by
  refine CC.of (by decide) (Nat.le_of_ble_eq_true rfl) 0 [.ref o, .int a1, .int a2] rfl (fun X _ C E hZ => ?_)
  rw [fX6_sitDown] at H
  refine ww_aload_n C dX6_sitDown_0 0 rfl rfl ?_
  refine ww_iload_n C dX6_sitDown_1 1 rfl rfl ?_
  obtain ⟨p1, hc1, H⟩ := bd_of H
  refine ww_callV C hZ dX6_sitDown_2 cw_X6_99 (ccX6_stands hS hc1) hS.1 ⟨by decide, rfl⟩ (by decide) rfl rfl (Nat.le_of_ble_eq_true rfl) ⟨Nat.zero_le _, Nat.zero_le _⟩ (fun v τ hp => ?_)
  obtain ⟨rfl, rfl⟩ := hp
  change WW X _ 5 [.ref o, .int a1, .int a2] [.int p1.1] _
  refine ww_if_eq C dX6_sitDown_5 24 rfl (fun hc => ?_) (fun hc => ?_)
  · rw [if_pos hc] at H
    refine ww_iconst (v := (-1 : Int32)) C dX6_sitDown_24 (by decide) ?_
    cases H
    exact ww_iret C E dX6_sitDown_25 ⟨rfl, rfl⟩
  · rw [if_neg hc] at H
    refine ww_aload_n C dX6_sitDown_8 0 rfl rfl ?_
    refine ww_iload_n C dX6_sitDown_9 2 rfl rfl ?_
    obtain ⟨p2, hc1, H⟩ := bd_of H
    refine ww_callV C hZ dX6_sitDown_10 cw_X6_102 (ccX6_hasPlace hS hc1) hS.1 ⟨by decide, rfl⟩ (by decide) rfl rfl (Nat.le_of_ble_eq_true rfl) ⟨Nat.zero_le _, Nat.zero_le _⟩ (fun v τ hp => ?_)
    obtain ⟨rfl, rfl⟩ := hp
    change WW X _ 13 [.ref o, .int a1, .int a2] [.int p2.1] _
    refine ww_if_eq C dX6_sitDown_13 24 rfl (fun hc => ?_) (fun hc => ?_)
    · rw [if_pos hc] at H
      refine ww_iconst (v := (-1 : Int32)) C dX6_sitDown_24 (by decide) ?_
      cases H
      exact ww_iret C E dX6_sitDown_25 ⟨rfl, rfl⟩
    · rw [if_neg hc] at H
      refine ww_aload_n C dX6_sitDown_16 0 rfl rfl ?_
      refine ww_iconst (v := (1 : Int32)) C dX6_sitDown_17 (by decide) ?_
      obtain ⟨p3, hc1, H⟩ := bd_of H
      refine ww_callV C hZ dX6_sitDown_18 cw_X6_88 (ccX6_hasTime hS hc1) hS.1 ⟨by decide, rfl⟩ (by decide) rfl rfl (Nat.le_of_ble_eq_true rfl) ⟨Nat.zero_le _, Nat.zero_le _⟩ (fun v τ hp => ?_)
      obtain ⟨rfl, rfl⟩ := hp
      change WW X _ 21 [.ref o, .int a1, .int a2] [.int p3.1] _
      refine ww_if_ne C dX6_sitDown_21 26 rfl (fun hc => ?_) (fun hc => ?_)
      · rw [if_neg hc] at H
        refine ww_aload_n C dX6_sitDown_26 0 rfl rfl ?_
        refine ww_iload_n C dX6_sitDown_27 1 rfl rfl ?_
        refine ww_iload_n C dX6_sitDown_28 2 rfl rfl ?_
        obtain ⟨h4, hc1, H⟩ := bd_of H
        refine ww_callV C hZ dX6_sitDown_29 cw_X6_91 (ccX6_place hS hc1) hS.1 ⟨by decide, rfl⟩ (by decide) rfl rfl (Nat.le_of_ble_eq_true rfl) ⟨Nat.zero_le _, Nat.zero_le _⟩ (fun v τ hp => ?_)
        obtain ⟨rfl, rfl⟩ := hp
        change WW X _ 32 [.ref o, .int a1, .int a2] [] _
        refine ww_aload_n C dX6_sitDown_32 0 rfl rfl ?_
        obtain ⟨p5, hc1, H⟩ := bd_of H
        refine ww_callV C hZ dX6_sitDown_33 cw_X6_95 (ccX6_overMinute hS hc1) hS.1 ⟨by decide, rfl⟩ (by decide) rfl rfl (Nat.le_of_ble_eq_true rfl) ⟨Nat.zero_le _, Nat.zero_le _⟩ (fun v τ hp => ?_)
        obtain ⟨rfl, rfl⟩ := hp
        change WW X _ 36 [.ref o, .int a1, .int a2] [.int p5.1] _
        cases H
        exact ww_iret C E dX6_sitDown_36 ⟨rfl, rfl⟩
      · rw [if_pos hc] at H
        refine ww_iconst (v := (-1 : Int32)) C dX6_sitDown_24 (by decide) ?_
        cases H
        exact ww_iret C E dX6_sitDown_25 ⟨rfl, rfl⟩
def fX6_speakFor (o : Nat) (hh : Nat) (h : HI) (a1 : Int32) (a2 : Int32) : Option (Int32 × HI) := ((fX6_stands o hh h a1).bind fun p1 => (if p1.1 = 0 then some ((-1 : Int32), p1.2) else (if inB a1 6 then (if inB a1 6 then (if (p1.2.1 (hh + 8) (a1.toNatClampNeg)) ≤ (p1.2.1 (o + 2) (a1.toNatClampNeg)) then some ((-1 : Int32), p1.2) else ((fX6_isAlive o hh p1.2 a2).bind fun p2 => (if p2.1 = 0 then some ((-1 : Int32), p2.2) else ((fX6_hasTime o p2.2 (1 : Int32)).bind fun p3 => (if p3.1 = 0 then some ((-1 : Int32), p3.2) else (if inB a2 4 then (if inB a1 6 then (if inB a1 6 then ((fX6_overMinute o hh (uI (uI p3.2 (o + 5) (a2.toNatClampNeg) (1 : Int32)) (o + 4) (a1.toNatClampNeg) ((p3.2.1 (o + 4) (a1.toNatClampNeg)) ||| ((1 : Int32) <<< (a2 &&& 31))))).bind fun p4 => some (p4.1, p4.2)) else none) else none) else none)))))) else none) else none)))
set_option maxRecDepth 100000 in
set_option maxHeartbeats 4000000 in
theorem ccX6_speakFor {l : Launch} {sh : Sh} {adr : Nat → Nat} {r : Nat → Nat → Option Nat} {o : Nat} {hh : Nat} (hS : SS sh r hh o) {h : HI} {a1 : Int32} {a2 : Int32} {p : Int32 × HI} (H : fX6_speakFor o hh h a1 a2 = some p) : CC l yX6_speakFor cX6_speakFor 3 (some .int) 4 [.ref o, .int a1, .int a2] sh adr (mk h r) (fun v τ => v = some (.int p.1) ∧ τ = mk p.2 r) := by
  refine CC.of (by decide) (Nat.le_of_ble_eq_true rfl) 0 [.ref o, .int a1, .int a2] rfl (fun X _ C E hZ => ?_)
  rw [fX6_speakFor] at H
  refine ww_aload_n C dX6_speakFor_0 0 rfl rfl ?_
  refine ww_iload_n C dX6_speakFor_1 1 rfl rfl ?_
  obtain ⟨p1, hc1, H⟩ := bd_of H
  refine ww_callV C hZ dX6_speakFor_2 cw_X6_99 (ccX6_stands hS hc1) hS.1 ⟨by decide, rfl⟩ (by decide) rfl rfl (Nat.le_of_ble_eq_true rfl) ⟨Nat.zero_le _, Nat.zero_le _⟩ (fun v τ hp => ?_)
  obtain ⟨rfl, rfl⟩ := hp
  change WW X _ 5 [.ref o, .int a1, .int a2] [.int p1.1] _
  refine ww_if_eq C dX6_speakFor_5 42 rfl (fun hc => ?_) (fun hc => ?_)
  · rw [if_pos hc] at H
    refine ww_iconst (v := (-1 : Int32)) C dX6_speakFor_42 (by decide) ?_
    cases H
    exact ww_iret C E dX6_speakFor_43 ⟨rfl, rfl⟩
  · rw [if_neg hc] at H
    refine ww_aload_n C dX6_speakFor_8 0 rfl rfl ?_
    refine wk_getR C dX6_speakFor_9 fl_X6_15 hS.1 rfl (tX6_tired hS).1 ?_
    refine ww_iload_n C dX6_speakFor_12 1 rfl rfl ?_
    obtain ⟨hg, H⟩ := gd_of H
    refine wk_iaload C dX6_speakFor_13 (tX6_tired hS).2.1 (vp_of hg (tX6_tired hS).2.2) (a1.toNatClampNeg) rfl ?_
    refine ww_aload_n C dX6_speakFor_14 0 rfl rfl ?_
    refine wk_getA C dX6_speakFor_15 fl_X6_41 hS.1 rfl (tX6_hall hS).1 ?_
    refine wk_getR C dX6_speakFor_18 fl_X6_105 (tX6_hall hS).2.1 rfl (tX1_strong (tX6_hall hS).2).1 ?_
    refine ww_iload_n C dX6_speakFor_21 1 rfl rfl ?_
    obtain ⟨hg, H⟩ := gd_of H
    refine wk_iaload C dX6_speakFor_22 (tX1_strong (tX6_hall hS).2).2.1 (vp_of hg (tX1_strong (tX6_hall hS).2).2.2) (a1.toNatClampNeg) rfl ?_
    refine ww_icmp_ge C dX6_speakFor_23 42 rfl (fun hc => ?_) (fun hc => ?_)
    · rw [if_pos hc] at H
      refine ww_iconst (v := (-1 : Int32)) C dX6_speakFor_42 (by decide) ?_
      cases H
      exact ww_iret C E dX6_speakFor_43 ⟨rfl, rfl⟩
    · rw [if_neg hc] at H
      refine ww_aload_n C dX6_speakFor_26 0 rfl rfl ?_
      refine ww_iload_n C dX6_speakFor_27 2 rfl rfl ?_
      obtain ⟨p2, hc1, H⟩ := bd_of H
      refine ww_callV C hZ dX6_speakFor_28 cw_X6_108 (ccX6_isAlive hS hc1) hS.1 ⟨by decide, rfl⟩ (by decide) rfl rfl (Nat.le_of_ble_eq_true rfl) ⟨Nat.zero_le _, Nat.zero_le _⟩ (fun v τ hp => ?_)
      obtain ⟨rfl, rfl⟩ := hp
      change WW X _ 31 [.ref o, .int a1, .int a2] [.int p2.1] _
      refine ww_if_eq C dX6_speakFor_31 42 rfl (fun hc => ?_) (fun hc => ?_)
      · rw [if_pos hc] at H
        refine ww_iconst (v := (-1 : Int32)) C dX6_speakFor_42 (by decide) ?_
        cases H
        exact ww_iret C E dX6_speakFor_43 ⟨rfl, rfl⟩
      · rw [if_neg hc] at H
        refine ww_aload_n C dX6_speakFor_34 0 rfl rfl ?_
        refine ww_iconst (v := (1 : Int32)) C dX6_speakFor_35 (by decide) ?_
        obtain ⟨p3, hc1, H⟩ := bd_of H
        refine ww_callV C hZ dX6_speakFor_36 cw_X6_88 (ccX6_hasTime hS hc1) hS.1 ⟨by decide, rfl⟩ (by decide) rfl rfl (Nat.le_of_ble_eq_true rfl) ⟨Nat.zero_le _, Nat.zero_le _⟩ (fun v τ hp => ?_)
        obtain ⟨rfl, rfl⟩ := hp
        change WW X _ 39 [.ref o, .int a1, .int a2] [.int p3.1] _
        refine ww_if_ne C dX6_speakFor_39 44 rfl (fun hc => ?_) (fun hc => ?_)
        · rw [if_neg hc] at H
          refine ww_aload_n C dX6_speakFor_44 0 rfl rfl ?_
          refine wk_getR C dX6_speakFor_45 fl_X6_24 hS.1 rfl (tX6_status hS).1 ?_
          refine ww_iload_n C dX6_speakFor_48 2 rfl rfl ?_
          refine ww_iconst (v := (1 : Int32)) C dX6_speakFor_49 (by decide) ?_
          obtain ⟨hg, H⟩ := gd_of H
          refine wk_iastore C dX6_speakFor_50 (tX6_status hS).2.1 (vp_of hg (tX6_status hS).2.2) (a2.toNatClampNeg) rfl ?_
          refine ww_aload_n C dX6_speakFor_51 0 rfl rfl ?_
          refine wk_getR C dX6_speakFor_52 fl_X6_21 hS.1 rfl (tX6_spoken hS).1 ?_
          refine ww_iload_n C dX6_speakFor_55 1 rfl rfl ?_
          refine ww_dup2 C dX6_speakFor_56 rfl rfl ?_
          obtain ⟨hg, H⟩ := gd_of H
          refine wk_iaload C dX6_speakFor_57 (tX6_spoken hS).2.1 (vp_of hg (tX6_spoken hS).2.2) (a1.toNatClampNeg) rfl ?_
          refine ww_as (v := (p3.2.1 (o + 4) (a1.toNatClampNeg))) (by rw [uI_n (by omega)]) ?_
          refine ww_iconst (v := (1 : Int32)) C dX6_speakFor_58 (by decide) ?_
          refine ww_iload_n C dX6_speakFor_59 2 rfl rfl ?_
          refine ww_ishl C dX6_speakFor_60 ?_
          refine ww_ior C dX6_speakFor_61 ?_
          obtain ⟨hg, H⟩ := gd_of H
          refine wk_iastore C dX6_speakFor_62 (tX6_spoken hS).2.1 (vp_of hg (tX6_spoken hS).2.2) (a1.toNatClampNeg) rfl ?_
          refine ww_aload_n C dX6_speakFor_63 0 rfl rfl ?_
          obtain ⟨p4, hc1, H⟩ := bd_of H
          refine ww_callV C hZ dX6_speakFor_64 cw_X6_95 (ccX6_overMinute hS hc1) hS.1 ⟨by decide, rfl⟩ (by decide) rfl rfl (Nat.le_of_ble_eq_true rfl) ⟨Nat.zero_le _, Nat.zero_le _⟩ (fun v τ hp => ?_)
          obtain ⟨rfl, rfl⟩ := hp
          change WW X _ 67 [.ref o, .int a1, .int a2] [.int p4.1] _
          cases H
          exact ww_iret C E dX6_speakFor_67 ⟨rfl, rfl⟩
        · rw [if_pos hc] at H
          refine ww_iconst (v := (-1 : Int32)) C dX6_speakFor_42 (by decide) ?_
          cases H
          exact ww_iret C E dX6_speakFor_43 ⟨rfl, rfl⟩
def fX6_dueDeals_55 (o : Nat) (hh : Nat) (k : HI → Int32 → Option (Int32 × HI)) (kb : HI → Int32 → Int32 → Option (Int32 × HI)) (h : HI) (v1 : Int32) (v2 : Int32) : Option (Int32 × HI) := kb h v1 (v2 + (1 : Int32))
set_option maxRecDepth 100000 in
set_option maxHeartbeats 4000000 in
theorem cX6_dueDeals_55 {X : CT} {sh : Sh} {adr : Nat → Nat} {r : Nat → Nat → Option Nat} {o : Nat} {hh : Nat} {p : Int32 × HI} (hS : SS sh r hh o) (C : CX X yX6_dueDeals.cls cX6_dueDeals 3 0) (hZ : SZX X adr) (E : RX X (some .int) sh adr (fun v τ => v = some (.int p.1) ∧ τ = mk p.2 r)) {k : HI → Int32 → Option (Int32 × HI)} {kb : HI → Int32 → Int32 → Option (Int32 × HI)} (hk : ∀ (h : HI) (v1 : Int32), k h v1 = some p → WW X (sh, adr, 0, 0) 61 [.ref o, .int v1, .retAddr 0] [] (mk h r)) (hb : ∀ (h : HI) (v1 : Int32) (v2 : Int32), kb h v1 v2 = some p → WW X (sh, adr, 0, 0) 4 [.ref o, .int v1, .int v2] [] (mk h r)) {h : HI} {v1 : Int32} {v2 : Int32} (H : fX6_dueDeals_55 o hh k kb h v1 v2 = some p) : WW X (sh, adr, 0, 0) 55 [.ref o, .int v1, .int v2] [] (mk h r) := by
  rw [fX6_dueDeals_55] at H
  refine ww_iinc (v := (v2 + (1 : Int32))) C dX6_dueDeals_55 rfl rfl (by decide) rfl [.ref o, .int v1, .int (v2 + (1 : Int32))] rfl ?_
  refine ww_goto C dX6_dueDeals_58 4 rfl ?_
  exact hb h v1 (v2 + (1 : Int32)) H
def fX6_dueDeals_4 (o : Nat) (hh : Nat) (k : HI → Int32 → Option (Int32 × HI)) : Nat → HI → Int32 → Int32 → Option (Int32 × HI)
  | 0, _, _, _ => none
  | n + 1, h, v1, v2 => (if (h.1 hh 17) ≤ v2 then k h v1 else (if (4 : Int32) ≤ v2 then k h v1 else (if inB v2 4 then (if inB (h.1 (hh + 16) (v2.toNatClampNeg)) 6 then (if inB v2 4 then (if (((h.1 (o + 4) ((h.1 (hh + 16) (v2.toNatClampNeg)).toNatClampNeg)) >>> ((h.1 (hh + 17) (v2.toNatClampNeg)) &&& 31)) &&& (1 : Int32)) = 0 then fX6_dueDeals_55 o hh (k) (fX6_dueDeals_4 o hh k n) h v1 v2 else fX6_dueDeals_55 o hh (k) (fX6_dueDeals_4 o hh k n) h (v1 ||| ((1 : Int32) <<< (v2 &&& 31))) v2) else none) else none) else none)))
set_option maxRecDepth 100000 in
set_option maxHeartbeats 4000000 in
theorem cX6_dueDeals_4 {X : CT} {sh : Sh} {adr : Nat → Nat} {r : Nat → Nat → Option Nat} {o : Nat} {hh : Nat} {p : Int32 × HI} (hS : SS sh r hh o) (C : CX X yX6_dueDeals.cls cX6_dueDeals 3 0) (hZ : SZX X adr) (E : RX X (some .int) sh adr (fun v τ => v = some (.int p.1) ∧ τ = mk p.2 r)) {k : HI → Int32 → Option (Int32 × HI)} (hk : ∀ (h : HI) (v1 : Int32), k h v1 = some p → WW X (sh, adr, 0, 0) 61 [.ref o, .int v1, .retAddr 0] [] (mk h r)) : ∀ (n : Nat) (h : HI) (v1 : Int32) (v2 : Int32), fX6_dueDeals_4 o hh k n h v1 v2 = some p → WW X (sh, adr, 0, 0) 4 [.ref o, .int v1, .int v2] [] (mk h r) := by
  intro n
  induction n with
  | zero =>
    intro h v1 v2 H
    rw [fX6_dueDeals_4] at H
    cases H
  | succ n ih =>
    intro h v1 v2 H
    rw [fX6_dueDeals_4] at H
    refine ww_iload_n C dX6_dueDeals_4 2 rfl rfl ?_
    refine ww_aload_n C dX6_dueDeals_5 0 rfl rfl ?_
    refine wk_getA C dX6_dueDeals_6 fl_X6_41 hS.1 rfl (tX6_hall hS).1 ?_
    refine wk_getI C dX6_dueDeals_9 fl_X6_155 (tX6_hall hS).2.1 rfl ?_
    refine ww_icmp_ge C dX6_dueDeals_12 61 rfl (fun hc => ?_) (fun hc => ?_)
    · rw [if_pos hc] at H
      exact ww_drop [.ref o, .int v1, .retAddr 0] (sl_e (sl_e (sl_d sl_n))) (hk h v1 H)
    · rw [if_neg hc] at H
      refine ww_iload_n C dX6_dueDeals_15 2 rfl rfl ?_
      refine ww_iconst (v := (4 : Int32)) C dX6_dueDeals_16 (by decide) ?_
      refine ww_icmp_ge C dX6_dueDeals_17 61 rfl (fun hc => ?_) (fun hc => ?_)
      · rw [if_pos hc] at H
        exact ww_drop [.ref o, .int v1, .retAddr 0] (sl_e (sl_e (sl_d sl_n))) (hk h v1 H)
      · rw [if_neg hc] at H
        refine ww_aload_n C dX6_dueDeals_20 0 rfl rfl ?_
        refine wk_getR C dX6_dueDeals_21 fl_X6_21 hS.1 rfl (tX6_spoken hS).1 ?_
        refine ww_aload_n C dX6_dueDeals_24 0 rfl rfl ?_
        refine wk_getA C dX6_dueDeals_25 fl_X6_41 hS.1 rfl (tX6_hall hS).1 ?_
        refine wk_getR C dX6_dueDeals_28 fl_X6_213 (tX6_hall hS).2.1 rfl (tX1_otherMan (tX6_hall hS).2).1 ?_
        refine ww_iload_n C dX6_dueDeals_31 2 rfl rfl ?_
        obtain ⟨hg, H⟩ := gd_of H
        refine wk_iaload C dX6_dueDeals_32 (tX1_otherMan (tX6_hall hS).2).2.1 (vp_of hg (tX1_otherMan (tX6_hall hS).2).2.2) (v2.toNatClampNeg) rfl ?_
        obtain ⟨hg, H⟩ := gd_of H
        refine wk_iaload C dX6_dueDeals_33 (tX6_spoken hS).2.1 (vp_of hg (tX6_spoken hS).2.2) ((h.1 (hh + 16) (v2.toNatClampNeg)).toNatClampNeg) rfl ?_
        refine ww_aload_n C dX6_dueDeals_34 0 rfl rfl ?_
        refine wk_getA C dX6_dueDeals_35 fl_X6_41 hS.1 rfl (tX6_hall hS).1 ?_
        refine wk_getR C dX6_dueDeals_38 fl_X6_216 (tX6_hall hS).2.1 rfl (tX1_otherMatter (tX6_hall hS).2).1 ?_
        refine ww_iload_n C dX6_dueDeals_41 2 rfl rfl ?_
        obtain ⟨hg, H⟩ := gd_of H
        refine wk_iaload C dX6_dueDeals_42 (tX1_otherMatter (tX6_hall hS).2).2.1 (vp_of hg (tX1_otherMatter (tX6_hall hS).2).2.2) (v2.toNatClampNeg) rfl ?_
        refine ww_ishr C dX6_dueDeals_43 ?_
        refine ww_iconst (v := (1 : Int32)) C dX6_dueDeals_44 (by decide) ?_
        refine ww_iand C dX6_dueDeals_45 ?_
        refine ww_if_eq C dX6_dueDeals_46 55 rfl (fun hc => ?_) (fun hc => ?_)
        · rw [if_pos hc] at H
          exact cX6_dueDeals_55 hS C hZ E hk ih H
        · rw [if_neg hc] at H
          refine ww_iload_n C dX6_dueDeals_49 1 rfl rfl ?_
          refine ww_iconst (v := (1 : Int32)) C dX6_dueDeals_50 (by decide) ?_
          refine ww_iload_n C dX6_dueDeals_51 2 rfl rfl ?_
          refine ww_ishl C dX6_dueDeals_52 ?_
          refine ww_ior C dX6_dueDeals_53 ?_
          refine ww_istore_n C dX6_dueDeals_54 1 rfl (by decide) rfl [.ref o, .int (v1 ||| ((1 : Int32) <<< (v2 &&& 31))), .int v2] rfl ?_
          exact cX6_dueDeals_55 hS C hZ E hk ih H
def fX6_dueDeals (o : Nat) (hh : Nat) (h : HI) : Option (Int32 × HI) := fX6_dueDeals_4 o hh (fun h2 v1 => some (v1, h2)) FU h (0 : Int32) (0 : Int32)
set_option maxRecDepth 100000 in
set_option maxHeartbeats 4000000 in
theorem ccX6_dueDeals {l : Launch} {sh : Sh} {adr : Nat → Nat} {r : Nat → Nat → Option Nat} {o : Nat} {hh : Nat} (hS : SS sh r hh o) {h : HI}  {p : Int32 × HI} (H : fX6_dueDeals o hh h = some p) : CC l yX6_dueDeals cX6_dueDeals 3 (some .int) 0 [.ref o] sh adr (mk h r) (fun v τ => v = some (.int p.1) ∧ τ = mk p.2 r) := by
  refine CC.of (by decide) (Nat.le_of_ble_eq_true rfl) 2 [.ref o, .retAddr 0, .retAddr 0] rfl (fun X _ C E hZ => ?_)
  rw [fX6_dueDeals] at H
  refine ww_iconst (v := (0 : Int32)) C dX6_dueDeals_0 (by decide) ?_
  refine ww_istore_n C dX6_dueDeals_1 1 rfl (by decide) rfl [.ref o, .int (0 : Int32), .retAddr 0] rfl ?_
  refine ww_iconst (v := (0 : Int32)) C dX6_dueDeals_2 (by decide) ?_
  refine ww_istore_n C dX6_dueDeals_3 2 rfl (by decide) rfl [.ref o, .int (0 : Int32), .int (0 : Int32)] rfl ?_
  refine cX6_dueDeals_4 hS C hZ E (fun h2 v1 H => ?_) FU h (0 : Int32) (0 : Int32) H
  refine ww_iload_n C dX6_dueDeals_61 1 rfl rfl ?_
  cases H
  exact ww_iret C E dX6_dueDeals_62 ⟨rfl, rfl⟩
def fX6_endDeals_78 (o : Nat) (hh : Nat) (k : HI → Option (HI)) (kb : HI → Int32 → Int32 → Int32 → Int32 → Option (HI)) (h : HI) (v1 : Int32) (v2 : Int32) (v3 : Int32) (v4 : Int32) : Option (HI) := kb h v1 v2 v3 (v4 + (1 : Int32))
set_option maxRecDepth 100000 in
set_option maxHeartbeats 4000000 in
theorem cX6_endDeals_78 {X : CT} {sh : Sh} {adr : Nat → Nat} {r : Nat → Nat → Option Nat} {o : Nat} {hh : Nat} {p : HI} (hS : SS sh r hh o) (C : CX X yX6_endDeals.cls cX6_endDeals 5 1) (hZ : SZX X adr) (E : RX X none sh adr (fun v τ => v = none ∧ τ = mk p r)) {k : HI → Option (HI)} {kb : HI → Int32 → Int32 → Int32 → Int32 → Option (HI)} (hk : ∀ (h : HI), k h = some p → WW X (sh, adr, 0, 0) 84 [.ref o, .retAddr 0, .retAddr 0, .retAddr 0, .retAddr 0] [] (mk h r)) (hb : ∀ (h : HI) (v1 : Int32) (v2 : Int32) (v3 : Int32) (v4 : Int32), kb h v1 v2 v3 v4 = some p → WW X (sh, adr, 0, 0) 8 [.ref o, .int v1, .int v2, .int v3, .int v4] [] (mk h r)) {h : HI} {v1 : Int32} {v2 : Int32} {v3 : Int32} {v4 : Int32} (H : fX6_endDeals_78 o hh k kb h v1 v2 v3 v4 = some p) : WW X (sh, adr, 0, 0) 78 [.ref o, .int v1, .int v2, .int v3, .int v4] [] (mk h r) := by
  rw [fX6_endDeals_78] at H
  refine ww_iinc (v := (v4 + (1 : Int32))) C dX6_endDeals_78 rfl rfl (by decide) rfl [.ref o, .int v1, .int v2, .int v3, .int (v4 + (1 : Int32))] rfl ?_
  refine ww_goto C dX6_endDeals_81 8 rfl ?_
  exact hb h v1 v2 v3 (v4 + (1 : Int32)) H
def fX6_endDeals_77 (o : Nat) (hh : Nat) (k : HI → Option (HI)) (kb : HI → Int32 → Int32 → Int32 → Int32 → Option (HI)) (h : HI) (v1 : Int32) (v2 : Int32) (v3 : Int32) (v4 : Int32) (s0 : Int32) (s1 : Int32) : Option (HI) := (if inB s1 4 then fX6_endDeals_78 o hh k kb (uI h (o + 6) (s1.toNatClampNeg) s0) v1 v2 v3 v4 else none)
set_option maxRecDepth 100000 in
set_option maxHeartbeats 4000000 in
theorem cX6_endDeals_77 {X : CT} {sh : Sh} {adr : Nat → Nat} {r : Nat → Nat → Option Nat} {o : Nat} {hh : Nat} {p : HI} (hS : SS sh r hh o) (C : CX X yX6_endDeals.cls cX6_endDeals 5 1) (hZ : SZX X adr) (E : RX X none sh adr (fun v τ => v = none ∧ τ = mk p r)) {k : HI → Option (HI)} {kb : HI → Int32 → Int32 → Int32 → Int32 → Option (HI)} (hk : ∀ (h : HI), k h = some p → WW X (sh, adr, 0, 0) 84 [.ref o, .retAddr 0, .retAddr 0, .retAddr 0, .retAddr 0] [] (mk h r)) (hb : ∀ (h : HI) (v1 : Int32) (v2 : Int32) (v3 : Int32) (v4 : Int32), kb h v1 v2 v3 v4 = some p → WW X (sh, adr, 0, 0) 8 [.ref o, .int v1, .int v2, .int v3, .int v4] [] (mk h r)) {h : HI} {v1 : Int32} {v2 : Int32} {v3 : Int32} {v4 : Int32} {s0 : Int32} {s1 : Int32} (H : fX6_endDeals_77 o hh k kb h v1 v2 v3 v4 s0 s1 = some p) : WW X (sh, adr, 0, 0) 77 [.ref o, .int v1, .int v2, .int v3, .int v4] [.int s0, .int s1, .ref (o + 6)] (mk h r) := by
  rw [fX6_endDeals_77] at H
  obtain ⟨hg, H⟩ := gd_of H
  refine wk_iastore C dX6_endDeals_77 (tX6_dealEnd hS).2.1 (vp_of hg (tX6_dealEnd hS).2.2) (s1.toNatClampNeg) rfl ?_
  exact cX6_endDeals_78 hS C hZ E hk hb H
def fX6_endDeals_8 (o : Nat) (hh : Nat) (k : HI → Option (HI)) : Nat → HI → Int32 → Int32 → Int32 → Int32 → Option (HI)
  | 0, _, _, _, _, _ => none
  | n + 1, h, v1, v2, v3, v4 => (if (h.1 hh 17) ≤ v4 then k h else (if (4 : Int32) ≤ v4 then k h else (if inB v4 4 then (if (h.1 (hh + 15) (v4.toNatClampNeg)) = v1 then (if ((v3 >>> (v4 &&& 31)) &&& (1 : Int32)) = 0 then fX6_endDeals_78 o hh (k) (fX6_endDeals_8 o hh k n) h v1 v2 v3 v4 else (if inB v4 4 then (if ((v2 >>> ((h.1 (hh + 14) (v4.toNatClampNeg)) &&& 31)) &&& (1 : Int32)) = 0 then fX6_endDeals_77 o hh (k) (fX6_endDeals_8 o hh k n) h v1 v2 v3 v4 (3 : Int32) v4 else fX6_endDeals_77 o hh (k) (fX6_endDeals_8 o hh k n) h v1 v2 v3 v4 (2 : Int32) v4) else none)) else fX6_endDeals_78 o hh (k) (fX6_endDeals_8 o hh k n) h v1 v2 v3 v4) else none)))
set_option maxRecDepth 100000 in
set_option maxHeartbeats 4000000 in
theorem cX6_endDeals_8 {X : CT} {sh : Sh} {adr : Nat → Nat} {r : Nat → Nat → Option Nat} {o : Nat} {hh : Nat} {p : HI} (hS : SS sh r hh o) (C : CX X yX6_endDeals.cls cX6_endDeals 5 1) (hZ : SZX X adr) (E : RX X none sh adr (fun v τ => v = none ∧ τ = mk p r)) {k : HI → Option (HI)} (hk : ∀ (h : HI), k h = some p → WW X (sh, adr, 0, 0) 84 [.ref o, .retAddr 0, .retAddr 0, .retAddr 0, .retAddr 0] [] (mk h r)) : ∀ (n : Nat) (h : HI) (v1 : Int32) (v2 : Int32) (v3 : Int32) (v4 : Int32), fX6_endDeals_8 o hh k n h v1 v2 v3 v4 = some p → WW X (sh, adr, 0, 0) 8 [.ref o, .int v1, .int v2, .int v3, .int v4] [] (mk h r) := by
  intro n
  induction n with
  | zero =>
    intro h v1 v2 v3 v4 H
    rw [fX6_endDeals_8] at H
    cases H
  | succ n ih =>
    intro h v1 v2 v3 v4 H
    rw [fX6_endDeals_8] at H
    refine ww_iload C dX6_endDeals_8 rfl ?_
    refine ww_aload_n C dX6_endDeals_10 0 rfl rfl ?_
    refine wk_getA C dX6_endDeals_11 fl_X6_41 hS.1 rfl (tX6_hall hS).1 ?_
    refine wk_getI C dX6_endDeals_14 fl_X6_155 (tX6_hall hS).2.1 rfl ?_
    refine ww_icmp_ge C dX6_endDeals_17 84 rfl (fun hc => ?_) (fun hc => ?_)
    · rw [if_pos hc] at H
      exact ww_drop [.ref o, .retAddr 0, .retAddr 0, .retAddr 0, .retAddr 0] (sl_e (sl_d (sl_d (sl_d (sl_d sl_n))))) (hk h H)
    · rw [if_neg hc] at H
      refine ww_iload C dX6_endDeals_20 rfl ?_
      refine ww_iconst (v := (4 : Int32)) C dX6_endDeals_22 (by decide) ?_
      refine ww_icmp_ge C dX6_endDeals_23 84 rfl (fun hc => ?_) (fun hc => ?_)
      · rw [if_pos hc] at H
        exact ww_drop [.ref o, .retAddr 0, .retAddr 0, .retAddr 0, .retAddr 0] (sl_e (sl_d (sl_d (sl_d (sl_d sl_n))))) (hk h H)
      · rw [if_neg hc] at H
        refine ww_aload_n C dX6_endDeals_26 0 rfl rfl ?_
        refine wk_getA C dX6_endDeals_27 fl_X6_41 hS.1 rfl (tX6_hall hS).1 ?_
        refine wk_getR C dX6_endDeals_30 fl_X6_158 (tX6_hall hS).2.1 rfl (tX1_dealMatter (tX6_hall hS).2).1 ?_
        refine ww_iload C dX6_endDeals_33 rfl ?_
        obtain ⟨hg, H⟩ := gd_of H
        refine wk_iaload C dX6_endDeals_35 (tX1_dealMatter (tX6_hall hS).2).2.1 (vp_of hg (tX1_dealMatter (tX6_hall hS).2).2.2) (v4.toNatClampNeg) rfl ?_
        refine ww_iload_n C dX6_endDeals_36 1 rfl rfl ?_
        refine ww_icmp_ne C dX6_endDeals_37 78 rfl (fun hc => ?_) (fun hc => ?_)
        · rw [if_neg hc] at H
          exact cX6_endDeals_78 hS C hZ E hk ih H
        · rw [if_pos hc] at H
          refine ww_iload_n C dX6_endDeals_40 3 rfl rfl ?_
          refine ww_iload C dX6_endDeals_41 rfl ?_
          refine ww_ishr C dX6_endDeals_43 ?_
          refine ww_iconst (v := (1 : Int32)) C dX6_endDeals_44 (by decide) ?_
          refine ww_iand C dX6_endDeals_45 ?_
          refine ww_if_eq C dX6_endDeals_46 78 rfl (fun hc => ?_) (fun hc => ?_)
          · rw [if_pos hc] at H
            exact cX6_endDeals_78 hS C hZ E hk ih H
          · rw [if_neg hc] at H
            refine ww_aload_n C dX6_endDeals_49 0 rfl rfl ?_
            refine wk_getR C dX6_endDeals_50 fl_X6_27 hS.1 rfl (tX6_dealEnd hS).1 ?_
            refine ww_iload C dX6_endDeals_53 rfl ?_
            refine ww_iload_n C dX6_endDeals_55 2 rfl rfl ?_
            refine ww_aload_n C dX6_endDeals_56 0 rfl rfl ?_
            refine wk_getA C dX6_endDeals_57 fl_X6_41 hS.1 rfl (tX6_hall hS).1 ?_
            refine wk_getR C dX6_endDeals_60 fl_X6_161 (tX6_hall hS).2.1 rfl (tX1_dealMan (tX6_hall hS).2).1 ?_
            refine ww_iload C dX6_endDeals_63 rfl ?_
            obtain ⟨hg, H⟩ := gd_of H
            refine wk_iaload C dX6_endDeals_65 (tX1_dealMan (tX6_hall hS).2).2.1 (vp_of hg (tX1_dealMan (tX6_hall hS).2).2.2) (v4.toNatClampNeg) rfl ?_
            refine ww_ishr C dX6_endDeals_66 ?_
            refine ww_iconst (v := (1 : Int32)) C dX6_endDeals_67 (by decide) ?_
            refine ww_iand C dX6_endDeals_68 ?_
            refine ww_if_eq C dX6_endDeals_69 76 rfl (fun hc => ?_) (fun hc => ?_)
            · rw [if_pos hc] at H
              refine ww_iconst (v := (3 : Int32)) C dX6_endDeals_76 (by decide) ?_
              exact cX6_endDeals_77 hS C hZ E hk ih H
            · rw [if_neg hc] at H
              refine ww_iconst (v := (2 : Int32)) C dX6_endDeals_72 (by decide) ?_
              refine ww_goto C dX6_endDeals_73 77 rfl ?_
              exact cX6_endDeals_77 hS C hZ E hk ih H
def fX6_endDeals (o : Nat) (hh : Nat) (h : HI) (a1 : Int32) (a2 : Int32) : Option (HI) := ((fX6_dueDeals o hh h).bind fun p1 => fX6_endDeals_8 o hh (fun h3 => some h3) FU p1.2 a1 a2 p1.1 (0 : Int32))
set_option maxRecDepth 100000 in
set_option maxHeartbeats 4000000 in
theorem ccX6_endDeals {l : Launch} {sh : Sh} {adr : Nat → Nat} {r : Nat → Nat → Option Nat} {o : Nat} {hh : Nat} (hS : SS sh r hh o) {h : HI} {a1 : Int32} {a2 : Int32} {p : HI} (H : fX6_endDeals o hh h a1 a2 = some p) : CC l yX6_endDeals cX6_endDeals 5 none 1 [.ref o, .int a1, .int a2] sh adr (mk h r) (fun v τ => v = none ∧ τ = mk p r) := by
  refine CC.of (by decide) (Nat.le_of_ble_eq_true rfl) 2 [.ref o, .int a1, .int a2, .retAddr 0, .retAddr 0] rfl (fun X _ C E hZ => ?_)
  rw [fX6_endDeals] at H
  refine ww_aload_n C dX6_endDeals_0 0 rfl rfl ?_
  obtain ⟨p1, hc1, H⟩ := bd_of H
  refine ww_callV C hZ dX6_endDeals_1 cw_X6_152 (ccX6_dueDeals hS hc1) hS.1 ⟨by decide, rfl⟩ (by decide) rfl rfl (Nat.le_of_ble_eq_true rfl) ⟨Nat.zero_le _, Nat.zero_le _⟩ (fun v τ hp => ?_)
  obtain ⟨rfl, rfl⟩ := hp
  change WW X _ 4 [.ref o, .int a1, .int a2, .retAddr 0, .retAddr 0] [.int p1.1] _
  refine ww_istore_n C dX6_endDeals_4 3 rfl (by decide) rfl [.ref o, .int a1, .int a2, .int p1.1, .retAddr 0] rfl ?_
  refine ww_iconst (v := (0 : Int32)) C dX6_endDeals_5 (by decide) ?_
  refine ww_istore C dX6_endDeals_6 (by decide) rfl [.ref o, .int a1, .int a2, .int p1.1, .int (0 : Int32)] rfl ?_
  refine cX6_endDeals_8 hS C hZ E (fun h3 H => ?_) FU p1.2 a1 a2 p1.1 (0 : Int32) H
  cases H
  exact ww_vret C E dX6_endDeals_84 ⟨rfl, rfl⟩
def fX6_allMen (o : Nat) (hh : Nat) (h : HI) : Option (Int32 × HI) := some ((((1 : Int32) <<< ((h.1 (hh + 3) 1) &&& 31)) - (1 : Int32)), h)
set_option maxRecDepth 100000 in
set_option maxHeartbeats 4000000 in
theorem ccX6_allMen {l : Launch} {sh : Sh} {adr : Nat → Nat} {r : Nat → Nat → Option Nat} {o : Nat} {hh : Nat} (hS : SS sh r hh o) {h : HI}  {p : Int32 × HI} (H : fX6_allMen o hh h = some p) : CC l yX6_allMen cX6_allMen 1 (some .int) 0 [.ref o] sh adr (mk h r) (fun v τ => v = some (.int p.1) ∧ τ = mk p.2 r) := by
  refine CC.of (by decide) (Nat.le_of_ble_eq_true rfl) 0 [.ref o] rfl (fun X _ C E hZ => ?_)
  rw [fX6_allMen] at H
  refine ww_iconst (v := (1 : Int32)) C dX6_allMen_0 (by decide) ?_
  refine ww_aload_n C dX6_allMen_1 0 rfl rfl ?_
  refine wk_getA C dX6_allMen_2 fl_X6_41 hS.1 rfl (tX6_hall hS).1 ?_
  refine wk_getA C dX6_allMen_5 fl_X6_78 (tX6_hall hS).2.1 rfl (tX1_men (tX6_hall hS).2).1 ?_
  refine wk_getI C dX6_allMen_8 fl_X6_167 (tX1_men (tX6_hall hS).2).2.1 rfl ?_
  refine ww_ishl C dX6_allMen_11 ?_
  refine ww_iconst (v := (1 : Int32)) C dX6_allMen_12 (by decide) ?_
  refine ww_isub C dX6_allMen_13 ?_
  cases H
  exact ww_iret C E dX6_allMen_14 ⟨rfl, rfl⟩
def fX6_inHall (o : Nat) (hh : Nat) (h : HI) : Option (Int32 × HI) := ((fX6_allMen o hh h).bind fun p1 => ((fX6_sitters o hh p1.2 (-2 : Int32)).bind fun p2 => some ((p1.1 &&& (p2.1 ^^^ (-1 : Int32))), p2.2)))
set_option maxRecDepth 100000 in
set_option maxHeartbeats 4000000 in
theorem ccX6_inHall {l : Launch} {sh : Sh} {adr : Nat → Nat} {r : Nat → Nat → Option Nat} {o : Nat} {hh : Nat} (hS : SS sh r hh o) {h : HI}  {p : Int32 × HI} (H : fX6_inHall o hh h = some p) : CC l yX6_inHall cX6_inHall 1 (some .int) 1 [.ref o] sh adr (mk h r) (fun v τ => v = some (.int p.1) ∧ τ = mk p.2 r) := by
  refine CC.of (by decide) (Nat.le_of_ble_eq_true rfl) 0 [.ref o] rfl (fun X _ C E hZ => ?_)
  rw [fX6_inHall] at H
  refine ww_aload_n C dX6_inHall_0 0 rfl rfl ?_
  obtain ⟨p1, hc1, H⟩ := bd_of H
  refine ww_callV C hZ dX6_inHall_1 cw_X6_164 (ccX6_allMen hS hc1) hS.1 ⟨by decide, rfl⟩ (by decide) rfl rfl (Nat.le_of_ble_eq_true rfl) ⟨Nat.zero_le _, Nat.zero_le _⟩ (fun v τ hp => ?_)
  obtain ⟨rfl, rfl⟩ := hp
  change WW X _ 4 [.ref o] [.int p1.1] _
  refine ww_aload_n C dX6_inHall_4 0 rfl rfl ?_
  refine ww_bipush (v := (-2 : Int32)) C dX6_inHall_5 (by decide) ?_
  obtain ⟨p2, hc1, H⟩ := bd_of H
  refine ww_callV C hZ dX6_inHall_7 cw_X6_207 (ccX6_sitters hS hc1) hS.1 ⟨by decide, rfl⟩ (by decide) rfl rfl (Nat.le_of_ble_eq_true rfl) ⟨Nat.zero_le _, Nat.zero_le _⟩ (fun v τ hp => ?_)
  obtain ⟨rfl, rfl⟩ := hp
  change WW X _ 10 [.ref o] [.int p2.1, .int p1.1] _
  refine ww_iconst (v := (-1 : Int32)) C dX6_inHall_10 (by decide) ?_
  refine ww_ixor C dX6_inHall_11 ?_
  refine ww_iand C dX6_inHall_12 ?_
  cases H
  exact ww_iret C E dX6_inHall_13 ⟨rfl, rfl⟩
def fX6_inChairs (o : Nat) (hh : Nat) (h : HI) : Option (Int32 × HI) := ((fX6_inHall o hh h).bind fun p1 => ((fX6_sitters o hh p1.2 (-1 : Int32)).bind fun p2 => some ((p1.1 &&& (p2.1 ^^^ (-1 : Int32))), p2.2)))
set_option maxRecDepth 100000 in
set_option maxHeartbeats 4000000 in
theorem ccX6_inChairs {l : Launch} {sh : Sh} {adr : Nat → Nat} {r : Nat → Nat → Option Nat} {o : Nat} {hh : Nat} (hS : SS sh r hh o) {h : HI}  {p : Int32 × HI} (H : fX6_inChairs o hh h = some p) : CC l yX6_inChairs cX6_inChairs 1 (some .int) 2 [.ref o] sh adr (mk h r) (fun v τ => v = some (.int p.1) ∧ τ = mk p.2 r) := by
  refine CC.of (by decide) (Nat.le_of_ble_eq_true rfl) 0 [.ref o] rfl (fun X _ C E hZ => ?_)
  rw [fX6_inChairs] at H
  refine ww_aload_n C dX6_inChairs_0 0 rfl rfl ?_
  obtain ⟨p1, hc1, H⟩ := bd_of H
  refine ww_callV C hZ dX6_inChairs_1 cw_X6_129 (ccX6_inHall hS hc1) hS.1 ⟨by decide, rfl⟩ (by decide) rfl rfl (Nat.le_of_ble_eq_true rfl) ⟨Nat.zero_le _, Nat.zero_le _⟩ (fun v τ hp => ?_)
  obtain ⟨rfl, rfl⟩ := hp
  change WW X _ 4 [.ref o] [.int p1.1] _
  refine ww_aload_n C dX6_inChairs_4 0 rfl rfl ?_
  refine ww_iconst (v := (-1 : Int32)) C dX6_inChairs_5 (by decide) ?_
  obtain ⟨p2, hc1, H⟩ := bd_of H
  refine ww_callV C hZ dX6_inChairs_6 cw_X6_207 (ccX6_sitters hS hc1) hS.1 ⟨by decide, rfl⟩ (by decide) rfl rfl (Nat.le_of_ble_eq_true rfl) ⟨Nat.zero_le _, Nat.zero_le _⟩ (fun v τ hp => ?_)
  obtain ⟨rfl, rfl⟩ := hp
  change WW X _ 9 [.ref o] [.int p2.1, .int p1.1] _
  refine ww_iconst (v := (-1 : Int32)) C dX6_inChairs_9 (by decide) ?_
  refine ww_ixor C dX6_inChairs_10 ?_
  refine ww_iand C dX6_inChairs_11 ?_
  cases H
  exact ww_iret C E dX6_inChairs_12 ⟨rfl, rfl⟩
def fX6_keepVote_104 (o : Nat) (hh : Nat) (h : HI) : Option (HI) := some (uI h o 2 ((h.1 o 2) + (1 : Int32)))
set_option maxRecDepth 100000 in
set_option maxHeartbeats 4000000 in
theorem cX6_keepVote_104 {X : CT} {sh : Sh} {adr : Nat → Nat} {r : Nat → Nat → Option Nat} {o : Nat} {hh : Nat} {p : HI} (hS : SS sh r hh o) (C : CX X yX6_keepVote.cls cX6_keepVote 5 3) (hZ : SZX X adr) (E : RX X none sh adr (fun v τ => v = none ∧ τ = mk p r)) {h : HI} (H : fX6_keepVote_104 o hh h = some p) : WW X (sh, adr, 0, 0) 104 [.ref o, .retAddr 0, .retAddr 0, .retAddr 0, .retAddr 0] [] (mk h r) := by
  rw [fX6_keepVote_104] at H
  refine ww_aload_n C dX6_keepVote_104 0 rfl rfl ?_
  refine ww_dup C dX6_keepVote_105 rfl ?_
  refine wk_getI C dX6_keepVote_106 fl_X6_49 hS.1 rfl ?_
  refine ww_iconst (v := (1 : Int32)) C dX6_keepVote_109 (by decide) ?_
  refine ww_iadd C dX6_keepVote_110 ?_
  refine wk_putI C dX6_keepVote_111 fl_X6_49 hS.1 rfl rfl ?_
  cases H
  exact ww_vret C E dX6_keepVote_114 ⟨rfl, rfl⟩
def fX6_keepVote_103 (o : Nat) (hh : Nat) (h : HI) (s0 : Int32) (s1 : Int32) : Option (HI) := (if inB s1 24 then fX6_keepVote_104 o hh (uI h (o + 7) (s1.toNatClampNeg) s0) else none)
set_option maxRecDepth 100000 in
set_option maxHeartbeats 4000000 in
theorem cX6_keepVote_103 {X : CT} {sh : Sh} {adr : Nat → Nat} {r : Nat → Nat → Option Nat} {o : Nat} {hh : Nat} {p : HI} (hS : SS sh r hh o) (C : CX X yX6_keepVote.cls cX6_keepVote 5 3) (hZ : SZX X adr) (E : RX X none sh adr (fun v τ => v = none ∧ τ = mk p r)) {h : HI} {s0 : Int32} {s1 : Int32} (H : fX6_keepVote_103 o hh h s0 s1 = some p) : WW X (sh, adr, 0, 0) 103 [.ref o, .retAddr 0, .retAddr 0, .retAddr 0, .retAddr 0] [.int s0, .int s1, .ref (o + 7)] (mk h r) := by
  rw [fX6_keepVote_103] at H
  obtain ⟨hg, H⟩ := gd_of H
  refine wk_iastore C dX6_keepVote_103 (tX6_voteFacts hS).2.1 (vp_of hg (tX6_voteFacts hS).2.2) (s1.toNatClampNeg) rfl ?_
  exact cX6_keepVote_104 hS C hZ E H
def fX6_keepVote (o : Nat) (hh : Nat) (h : HI) (a1 : Int32) (a2 : Int32) (a3 : Int32) : Option (HI) := (if (4 : Int32) ≤ (h.1 o 2) then fX6_keepVote_104 o hh h else (if inB ((h.1 o 2) * (6 : Int32)) 24 then (if inB (((h.1 o 2) * (6 : Int32)) + (1 : Int32)) 24 then (if inB (((h.1 o 2) * (6 : Int32)) + (2 : Int32)) 24 then (if inB (((h.1 o 2) * (6 : Int32)) + (3 : Int32)) 24 then ((fX6_allMen o hh (uI (uI (uI (uI h (o + 7) (((h.1 o 2) * (6 : Int32)).toNatClampNeg) ((h.1 o 1) + (1 : Int32))) (o + 7) ((((h.1 o 2) * (6 : Int32)) + (1 : Int32)).toNatClampNeg) a1) (o + 7) ((((h.1 o 2) * (6 : Int32)) + (2 : Int32)).toNatClampNeg) a2) (o + 7) ((((h.1 o 2) * (6 : Int32)) + (3 : Int32)).toNatClampNeg) a3)).bind fun p1 => ((fX6_inChairs o hh p1.2).bind fun p2 => (if inB (((h.1 o 2) * (6 : Int32)) + (4 : Int32)) 24 then (if inB a1 4 then (if (p2.2.1 (o + 5) (a1.toNatClampNeg)) = (2 : Int32) then fX6_keepVote_103 o hh (uI p2.2 (o + 7) ((((h.1 o 2) * (6 : Int32)) + (4 : Int32)).toNatClampNeg) (p1.1 &&& (p2.1 ^^^ (-1 : Int32)))) (1 : Int32) (((h.1 o 2) * (6 : Int32)) + (5 : Int32)) else fX6_keepVote_103 o hh (uI p2.2 (o + 7) ((((h.1 o 2) * (6 : Int32)) + (4 : Int32)).toNatClampNeg) (p1.1 &&& (p2.1 ^^^ (-1 : Int32)))) (0 : Int32) (((h.1 o 2) * (6 : Int32)) + (5 : Int32))) else none) else none))) else none) else none) else none) else none))
set_option maxRecDepth 100000 in
set_option maxHeartbeats 4000000 in
theorem ccX6_keepVote {l : Launch} {sh : Sh} {adr : Nat → Nat} {r : Nat → Nat → Option Nat} {o : Nat} {hh : Nat} (hS : SS sh r hh o) {h : HI} {a1 : Int32} {a2 : Int32} {a3 : Int32} {p : HI} (H : fX6_keepVote o hh h a1 a2 a3 = some p) : CC l yX6_keepVote cX6_keepVote 5 none 3 [.ref o, .int a1, .int a2, .int a3] sh adr (mk h r) (fun v τ => v = none ∧ τ = mk p r) := by
  refine CC.of (by decide) (Nat.le_of_ble_eq_true rfl) 1 [.ref o, .int a1, .int a2, .int a3, .retAddr 0] rfl (fun X _ C E hZ => ?_)
  rw [fX6_keepVote] at H
  refine ww_aload_n C dX6_keepVote_0 0 rfl rfl ?_
  refine wk_getI C dX6_keepVote_1 fl_X6_49 hS.1 rfl ?_
  refine ww_iconst (v := (4 : Int32)) C dX6_keepVote_4 (by decide) ?_
  refine ww_icmp_ge C dX6_keepVote_5 104 rfl (fun hc => ?_) (fun hc => ?_)
  · rw [if_pos hc] at H
    exact ww_drop [.ref o, .retAddr 0, .retAddr 0, .retAddr 0, .retAddr 0] (sl_e (sl_d (sl_d (sl_d (sl_e sl_n))))) (cX6_keepVote_104 hS C hZ E H)
  · rw [if_neg hc] at H
    refine ww_aload_n C dX6_keepVote_8 0 rfl rfl ?_
    refine wk_getI C dX6_keepVote_9 fl_X6_49 hS.1 rfl ?_
    refine ww_bipush (v := (6 : Int32)) C dX6_keepVote_12 (by decide) ?_
    refine ww_imul C dX6_keepVote_14 ?_
    refine ww_istore C dX6_keepVote_15 (by decide) rfl [.ref o, .int a1, .int a2, .int a3, .int ((h.1 o 2) * (6 : Int32))] rfl ?_
    refine ww_aload_n C dX6_keepVote_17 0 rfl rfl ?_
    refine wk_getR C dX6_keepVote_18 fl_X6_30 hS.1 rfl (tX6_voteFacts hS).1 ?_
    refine ww_iload C dX6_keepVote_21 rfl ?_
    refine ww_aload_n C dX6_keepVote_23 0 rfl rfl ?_
    refine wk_getI C dX6_keepVote_24 fl_X6_45 hS.1 rfl ?_
    refine ww_iconst (v := (1 : Int32)) C dX6_keepVote_27 (by decide) ?_
    refine ww_iadd C dX6_keepVote_28 ?_
    obtain ⟨hg, H⟩ := gd_of H
    refine wk_iastore C dX6_keepVote_29 (tX6_voteFacts hS).2.1 (vp_of hg (tX6_voteFacts hS).2.2) (((h.1 o 2) * (6 : Int32)).toNatClampNeg) rfl ?_
    refine ww_aload_n C dX6_keepVote_30 0 rfl rfl ?_
    refine wk_getR C dX6_keepVote_31 fl_X6_30 hS.1 rfl (tX6_voteFacts hS).1 ?_
    refine ww_iload C dX6_keepVote_34 rfl ?_
    refine ww_iconst (v := (1 : Int32)) C dX6_keepVote_36 (by decide) ?_
    refine ww_iadd C dX6_keepVote_37 ?_
    refine ww_iload_n C dX6_keepVote_38 1 rfl rfl ?_
    obtain ⟨hg, H⟩ := gd_of H
    refine wk_iastore C dX6_keepVote_39 (tX6_voteFacts hS).2.1 (vp_of hg (tX6_voteFacts hS).2.2) ((((h.1 o 2) * (6 : Int32)) + (1 : Int32)).toNatClampNeg) rfl ?_
    refine ww_aload_n C dX6_keepVote_40 0 rfl rfl ?_
    refine wk_getR C dX6_keepVote_41 fl_X6_30 hS.1 rfl (tX6_voteFacts hS).1 ?_
    refine ww_iload C dX6_keepVote_44 rfl ?_
    refine ww_iconst (v := (2 : Int32)) C dX6_keepVote_46 (by decide) ?_
    refine ww_iadd C dX6_keepVote_47 ?_
    refine ww_iload_n C dX6_keepVote_48 2 rfl rfl ?_
    obtain ⟨hg, H⟩ := gd_of H
    refine wk_iastore C dX6_keepVote_49 (tX6_voteFacts hS).2.1 (vp_of hg (tX6_voteFacts hS).2.2) ((((h.1 o 2) * (6 : Int32)) + (2 : Int32)).toNatClampNeg) rfl ?_
    refine ww_aload_n C dX6_keepVote_50 0 rfl rfl ?_
    refine wk_getR C dX6_keepVote_51 fl_X6_30 hS.1 rfl (tX6_voteFacts hS).1 ?_
    refine ww_iload C dX6_keepVote_54 rfl ?_
    refine ww_iconst (v := (3 : Int32)) C dX6_keepVote_56 (by decide) ?_
    refine ww_iadd C dX6_keepVote_57 ?_
    refine ww_iload_n C dX6_keepVote_58 3 rfl rfl ?_
    obtain ⟨hg, H⟩ := gd_of H
    refine wk_iastore C dX6_keepVote_59 (tX6_voteFacts hS).2.1 (vp_of hg (tX6_voteFacts hS).2.2) ((((h.1 o 2) * (6 : Int32)) + (3 : Int32)).toNatClampNeg) rfl ?_
    refine ww_aload_n C dX6_keepVote_60 0 rfl rfl ?_
    refine wk_getR C dX6_keepVote_61 fl_X6_30 hS.1 rfl (tX6_voteFacts hS).1 ?_
    refine ww_iload C dX6_keepVote_64 rfl ?_
    refine ww_iconst (v := (4 : Int32)) C dX6_keepVote_66 (by decide) ?_
    refine ww_iadd C dX6_keepVote_67 ?_
    refine ww_aload_n C dX6_keepVote_68 0 rfl rfl ?_
    obtain ⟨p1, hc1, H⟩ := bd_of H
    refine ww_callV C hZ dX6_keepVote_69 cw_X6_164 (ccX6_allMen hS hc1) hS.1 ⟨by decide, rfl⟩ (by decide) rfl rfl (Nat.le_of_ble_eq_true rfl) ⟨Nat.zero_le _, Nat.zero_le _⟩ (fun v τ hp => ?_)
    obtain ⟨rfl, rfl⟩ := hp
    change WW X _ 72 [.ref o, .int a1, .int a2, .int a3, .int ((h.1 o 2) * (6 : Int32))] [.int p1.1, .int (((h.1 o 2) * (6 : Int32)) + (4 : Int32)), .ref (o + 7)] _
    refine ww_aload_n C dX6_keepVote_72 0 rfl rfl ?_
    obtain ⟨p2, hc1, H⟩ := bd_of H
    refine ww_callV C hZ dX6_keepVote_73 cw_X6_121 (ccX6_inChairs hS hc1) hS.1 ⟨by decide, rfl⟩ (by decide) rfl rfl (Nat.le_of_ble_eq_true rfl) ⟨Nat.zero_le _, Nat.zero_le _⟩ (fun v τ hp => ?_)
    obtain ⟨rfl, rfl⟩ := hp
    change WW X _ 76 [.ref o, .int a1, .int a2, .int a3, .int ((h.1 o 2) * (6 : Int32))] [.int p2.1, .int p1.1, .int (((h.1 o 2) * (6 : Int32)) + (4 : Int32)), .ref (o + 7)] _
    refine ww_iconst (v := (-1 : Int32)) C dX6_keepVote_76 (by decide) ?_
    refine ww_ixor C dX6_keepVote_77 ?_
    refine ww_iand C dX6_keepVote_78 ?_
    obtain ⟨hg, H⟩ := gd_of H
    refine wk_iastore C dX6_keepVote_79 (tX6_voteFacts hS).2.1 (vp_of hg (tX6_voteFacts hS).2.2) ((((h.1 o 2) * (6 : Int32)) + (4 : Int32)).toNatClampNeg) rfl ?_
    refine ww_aload_n C dX6_keepVote_80 0 rfl rfl ?_
    refine wk_getR C dX6_keepVote_81 fl_X6_30 hS.1 rfl (tX6_voteFacts hS).1 ?_
    refine ww_iload C dX6_keepVote_84 rfl ?_
    refine ww_iconst (v := (5 : Int32)) C dX6_keepVote_86 (by decide) ?_
    refine ww_iadd C dX6_keepVote_87 ?_
    refine ww_aload_n C dX6_keepVote_88 0 rfl rfl ?_
    refine wk_getR C dX6_keepVote_89 fl_X6_24 hS.1 rfl (tX6_status hS).1 ?_
    refine ww_iload_n C dX6_keepVote_92 1 rfl rfl ?_
    obtain ⟨hg, H⟩ := gd_of H
    refine wk_iaload C dX6_keepVote_93 (tX6_status hS).2.1 (vp_of hg (tX6_status hS).2.2) (a1.toNatClampNeg) rfl ?_
    refine ww_as (v := (p2.2.1 (o + 5) (a1.toNatClampNeg))) (by rw [uI_n (by omega)]) ?_
    refine ww_iconst (v := (2 : Int32)) C dX6_keepVote_94 (by decide) ?_
    refine ww_icmp_ne C dX6_keepVote_95 102 rfl (fun hc => ?_) (fun hc => ?_)
    · rw [if_neg hc] at H
      refine ww_iconst (v := (0 : Int32)) C dX6_keepVote_102 (by decide) ?_
      exact ww_drop [.ref o, .retAddr 0, .retAddr 0, .retAddr 0, .retAddr 0] (sl_e (sl_d (sl_d (sl_d (sl_d sl_n))))) (cX6_keepVote_103 hS C hZ E H)
    · rw [if_pos hc] at H
      refine ww_iconst (v := (1 : Int32)) C dX6_keepVote_98 (by decide) ?_
      refine ww_goto C dX6_keepVote_99 103 rfl ?_
      exact ww_drop [.ref o, .retAddr 0, .retAddr 0, .retAddr 0, .retAddr 0] (sl_e (sl_d (sl_d (sl_d (sl_d sl_n))))) (cX6_keepVote_103 hS C hZ E H)
def fX6_naps (o : Nat) (hh : Nat) (h : HI) (a1 : Int32) : Option (Int32 × HI) := (if inB a1 6 then (if (h.1 (o + 1) (a1.toNatClampNeg)) < 0 then some ((0 : Int32), h) else (if (h.1 hh 18) ≤ 0 then some ((0 : Int32), h) else (if inB a1 6 then (if (h.1 (o + 3) (a1.toNatClampNeg)) < (h.1 hh 18) then some ((0 : Int32), h) else some ((1 : Int32), h)) else none))) else none)
set_option maxRecDepth 100000 in
set_option maxHeartbeats 4000000 in
theorem ccX6_naps {l : Launch} {sh : Sh} {adr : Nat → Nat} {r : Nat → Nat → Option Nat} {o : Nat} {hh : Nat} (hS : SS sh r hh o) {h : HI} {a1 : Int32} {p : Int32 × HI} (H : fX6_naps o hh h a1 = some p) : CC l yX6_naps cX6_naps 2 (some .boolean) 0 [.ref o, .int a1] sh adr (mk h r) (fun v τ => v = some (.int p.1) ∧ τ = mk p.2 r) := by
  refine CC.of (by decide) (Nat.le_of_ble_eq_true rfl) 0 [.ref o, .int a1] rfl (fun X _ C E hZ => ?_)
  rw [fX6_naps] at H
  refine ww_aload_n C dX6_naps_0 0 rfl rfl ?_
  refine wk_getR C dX6_naps_1 fl_X6_9 hS.1 rfl (tX6_where hS).1 ?_
  refine ww_iload_n C dX6_naps_4 1 rfl rfl ?_
  obtain ⟨hg, H⟩ := gd_of H
  refine wk_iaload C dX6_naps_5 (tX6_where hS).2.1 (vp_of hg (tX6_where hS).2.2) (a1.toNatClampNeg) rfl ?_
  refine ww_if_lt C dX6_naps_6 39 rfl (fun hc => ?_) (fun hc => ?_)
  · rw [if_pos hc] at H
    refine ww_iconst (v := (0 : Int32)) C dX6_naps_39 (by decide) ?_
    cases H
    exact ww_zret C E dX6_naps_40 (Or.inl rfl) ⟨rfl, rfl⟩
  · rw [if_neg hc] at H
    refine ww_aload_n C dX6_naps_9 0 rfl rfl ?_
    refine wk_getA C dX6_naps_10 fl_X6_41 hS.1 rfl (tX6_hall hS).1 ?_
    refine wk_getI C dX6_naps_13 fl_X6_204 (tX6_hall hS).2.1 rfl ?_
    refine ww_if_le C dX6_naps_16 39 rfl (fun hc => ?_) (fun hc => ?_)
    · rw [if_pos hc] at H
      refine ww_iconst (v := (0 : Int32)) C dX6_naps_39 (by decide) ?_
      cases H
      exact ww_zret C E dX6_naps_40 (Or.inl rfl) ⟨rfl, rfl⟩
    · rw [if_neg hc] at H
      refine ww_aload_n C dX6_naps_19 0 rfl rfl ?_
      refine wk_getR C dX6_naps_20 fl_X6_18 hS.1 rfl (tX6_satFor hS).1 ?_
      refine ww_iload_n C dX6_naps_23 1 rfl rfl ?_
      obtain ⟨hg, H⟩ := gd_of H
      refine wk_iaload C dX6_naps_24 (tX6_satFor hS).2.1 (vp_of hg (tX6_satFor hS).2.2) (a1.toNatClampNeg) rfl ?_
      refine ww_aload_n C dX6_naps_25 0 rfl rfl ?_
      refine wk_getA C dX6_naps_26 fl_X6_41 hS.1 rfl (tX6_hall hS).1 ?_
      refine wk_getI C dX6_naps_29 fl_X6_204 (tX6_hall hS).2.1 rfl ?_
      refine ww_icmp_lt C dX6_naps_32 39 rfl (fun hc => ?_) (fun hc => ?_)
      · rw [if_pos hc] at H
        refine ww_iconst (v := (0 : Int32)) C dX6_naps_39 (by decide) ?_
        cases H
        exact ww_zret C E dX6_naps_40 (Or.inl rfl) ⟨rfl, rfl⟩
      · rw [if_neg hc] at H
        refine ww_iconst (v := (1 : Int32)) C dX6_naps_35 (by decide) ?_
        refine ww_goto C dX6_naps_36 40 rfl ?_
        cases H
        exact ww_zret C E dX6_naps_40 (Or.inr rfl) ⟨rfl, rfl⟩
def fX6_isFound (o : Nat) (h : HI) (a1 : Int32) : Option (Int32 × HI) := (if (((h.1 o 5) >>> (a1 &&& 31)) &&& (1 : Int32)) = 0 then some ((0 : Int32), h) else some ((1 : Int32), h))
set_option maxRecDepth 100000 in
set_option maxHeartbeats 4000000 in
theorem ccX6_isFound {l : Launch} {sh : Sh} {adr : Nat → Nat} {r : Nat → Nat → Option Nat} {o : Nat} {hh : Nat} (hS : SS sh r hh o) {h : HI} {a1 : Int32} {p : Int32 × HI} (H : fX6_isFound o h a1 = some p) : CC l yX6_isFound cX6_isFound 2 (some .boolean) 0 [.ref o, .int a1] sh adr (mk h r) (fun v τ => v = some (.int p.1) ∧ τ = mk p.2 r) := by
  refine CC.of (by decide) (Nat.le_of_ble_eq_true rfl) 0 [.ref o, .int a1] rfl (fun X _ C E hZ => ?_)
  rw [fX6_isFound] at H
  refine ww_aload_n C dX6_isFound_0 0 rfl rfl ?_
  refine wk_getI C dX6_isFound_1 fl_X6_58 hS.1 rfl ?_
  refine ww_iload_n C dX6_isFound_4 1 rfl rfl ?_
  refine ww_ishr C dX6_isFound_5 ?_
  refine ww_iconst (v := (1 : Int32)) C dX6_isFound_6 (by decide) ?_
  refine ww_iand C dX6_isFound_7 ?_
  refine ww_if_eq C dX6_isFound_8 15 rfl (fun hc => ?_) (fun hc => ?_)
  · rw [if_pos hc] at H
    refine ww_iconst (v := (0 : Int32)) C dX6_isFound_15 (by decide) ?_
    cases H
    exact ww_zret C E dX6_isFound_16 (Or.inl rfl) ⟨rfl, rfl⟩
  · rw [if_neg hc] at H
    refine ww_iconst (v := (1 : Int32)) C dX6_isFound_11 (by decide) ?_
    refine ww_goto C dX6_isFound_12 16 rfl ?_
    cases H
    exact ww_zret C E dX6_isFound_16 (Or.inr rfl) ⟨rfl, rfl⟩
def fX6_onSeats_39 (o : Nat) (hh : Nat) (k : HI → Int32 → Option (Int32 × HI)) (kb : HI → Int32 → Int32 → Option (Int32 × HI)) (h : HI) (v1 : Int32) (v2 : Int32) : Option (Int32 × HI) := kb h v1 (v2 + (1 : Int32))
set_option maxRecDepth 100000 in
set_option maxHeartbeats 4000000 in
theorem cX6_onSeats_39 {X : CT} {sh : Sh} {adr : Nat → Nat} {r : Nat → Nat → Option Nat} {o : Nat} {hh : Nat} {p : Int32 × HI} (hS : SS sh r hh o) (C : CX X yX6_onSeats.cls cX6_onSeats 3 3) (hZ : SZX X adr) (E : RX X (some .int) sh adr (fun v τ => v = some (.int p.1) ∧ τ = mk p.2 r)) {k : HI → Int32 → Option (Int32 × HI)} {kb : HI → Int32 → Int32 → Option (Int32 × HI)} (hk : ∀ (h : HI) (v1 : Int32), k h v1 = some p → WW X (sh, adr, 0, 0) 45 [.ref o, .int v1, .retAddr 0] [] (mk h r)) (hb : ∀ (h : HI) (v1 : Int32) (v2 : Int32), kb h v1 v2 = some p → WW X (sh, adr, 0, 0) 7 [.ref o, .int v1, .int v2] [] (mk h r)) {h : HI} {v1 : Int32} {v2 : Int32} (H : fX6_onSeats_39 o hh k kb h v1 v2 = some p) : WW X (sh, adr, 0, 0) 39 [.ref o, .int v1, .int v2] [] (mk h r) := by
  rw [fX6_onSeats_39] at H
  refine ww_iinc (v := (v2 + (1 : Int32))) C dX6_onSeats_39 rfl rfl (by decide) rfl [.ref o, .int v1, .int (v2 + (1 : Int32))] rfl ?_
  refine ww_goto C dX6_onSeats_42 7 rfl ?_
  exact hb h v1 (v2 + (1 : Int32)) H
def fX6_onSeats_7 (o : Nat) (hh : Nat) (k : HI → Int32 → Option (Int32 × HI)) : Nat → HI → Int32 → Int32 → Option (Int32 × HI)
  | 0, _, _, _ => none
  | n + 1, h, v1, v2 => (if (h.1 (hh + 1) 1) ≤ v2 then k h v1 else ((fX6_isFound o h v2).bind fun p2 => (if p2.1 = 0 then fX6_onSeats_39 o hh (k) (fX6_onSeats_7 o hh k n) p2.2 v1 v2 else ((fX6_sitters o hh p2.2 v2).bind fun p3 => fX6_onSeats_39 o hh (k) (fX6_onSeats_7 o hh k n) p3.2 (v1 &&& (p3.1 ^^^ (-1 : Int32))) v2))))
set_option maxRecDepth 100000 in
set_option maxHeartbeats 4000000 in
theorem cX6_onSeats_7 {X : CT} {sh : Sh} {adr : Nat → Nat} {r : Nat → Nat → Option Nat} {o : Nat} {hh : Nat} {p : Int32 × HI} (hS : SS sh r hh o) (C : CX X yX6_onSeats.cls cX6_onSeats 3 3) (hZ : SZX X adr) (E : RX X (some .int) sh adr (fun v τ => v = some (.int p.1) ∧ τ = mk p.2 r)) {k : HI → Int32 → Option (Int32 × HI)} (hk : ∀ (h : HI) (v1 : Int32), k h v1 = some p → WW X (sh, adr, 0, 0) 45 [.ref o, .int v1, .retAddr 0] [] (mk h r)) : ∀ (n : Nat) (h : HI) (v1 : Int32) (v2 : Int32), fX6_onSeats_7 o hh k n h v1 v2 = some p → WW X (sh, adr, 0, 0) 7 [.ref o, .int v1, .int v2] [] (mk h r) := by
  intro n
  induction n with
  | zero =>
    intro h v1 v2 H
    rw [fX6_onSeats_7] at H
    cases H
  | succ n ih =>
    intro h v1 v2 H
    rw [fX6_onSeats_7] at H
    refine ww_iload_n C dX6_onSeats_7 2 rfl rfl ?_
    refine ww_aload_n C dX6_onSeats_8 0 rfl rfl ?_
    refine wk_getA C dX6_onSeats_9 fl_X6_41 hS.1 rfl (tX6_hall hS).1 ?_
    refine wk_getA C dX6_onSeats_12 fl_X6_192 (tX6_hall hS).2.1 rfl (tX1_chairs (tX6_hall hS).2).1 ?_
    refine wk_getI C dX6_onSeats_15 fl_X6_167 (tX1_chairs (tX6_hall hS).2).2.1 rfl ?_
    refine ww_icmp_ge C dX6_onSeats_18 45 rfl (fun hc => ?_) (fun hc => ?_)
    · rw [if_pos hc] at H
      exact ww_drop [.ref o, .int v1, .retAddr 0] (sl_e (sl_e (sl_d sl_n))) (hk h v1 H)
    · rw [if_neg hc] at H
      refine ww_aload_n C dX6_onSeats_21 0 rfl rfl ?_
      refine ww_iload_n C dX6_onSeats_22 2 rfl rfl ?_
      obtain ⟨p2, hc1, H⟩ := bd_of H
      refine ww_callV C hZ dX6_onSeats_23 cw_X6_201 (ccX6_isFound hS hc1) hS.1 ⟨by decide, rfl⟩ (by decide) rfl rfl (Nat.le_of_ble_eq_true rfl) ⟨Nat.zero_le _, Nat.zero_le _⟩ (fun v τ hp => ?_)
      obtain ⟨rfl, rfl⟩ := hp
      change WW X _ 26 [.ref o, .int v1, .int v2] [.int p2.1] _
      refine ww_if_eq C dX6_onSeats_26 39 rfl (fun hc => ?_) (fun hc => ?_)
      · rw [if_pos hc] at H
        exact cX6_onSeats_39 hS C hZ E hk ih H
      · rw [if_neg hc] at H
        refine ww_iload_n C dX6_onSeats_29 1 rfl rfl ?_
        refine ww_aload_n C dX6_onSeats_30 0 rfl rfl ?_
        refine ww_iload_n C dX6_onSeats_31 2 rfl rfl ?_
        obtain ⟨p3, hc1, H⟩ := bd_of H
        refine ww_callV C hZ dX6_onSeats_32 cw_X6_207 (ccX6_sitters hS hc1) hS.1 ⟨by decide, rfl⟩ (by decide) rfl rfl (Nat.le_of_ble_eq_true rfl) ⟨Nat.zero_le _, Nat.zero_le _⟩ (fun v τ hp => ?_)
        obtain ⟨rfl, rfl⟩ := hp
        change WW X _ 35 [.ref o, .int v1, .int v2] [.int p3.1, .int v1] _
        refine ww_iconst (v := (-1 : Int32)) C dX6_onSeats_35 (by decide) ?_
        refine ww_ixor C dX6_onSeats_36 ?_
        refine ww_iand C dX6_onSeats_37 ?_
        refine ww_istore_n C dX6_onSeats_38 1 rfl (by decide) rfl [.ref o, .int (v1 &&& (p3.1 ^^^ (-1 : Int32))), .int v2] rfl ?_
        exact cX6_onSeats_39 hS C hZ E hk ih H
def fX6_onSeats (o : Nat) (hh : Nat) (h : HI) : Option (Int32 × HI) := ((fX6_inChairs o hh h).bind fun p1 => fX6_onSeats_7 o hh (fun h5 v1 => some (v1, h5)) FU p1.2 p1.1 (0 : Int32))
set_option maxRecDepth 100000 in
set_option maxHeartbeats 4000000 in
theorem ccX6_onSeats {l : Launch} {sh : Sh} {adr : Nat → Nat} {r : Nat → Nat → Option Nat} {o : Nat} {hh : Nat} (hS : SS sh r hh o) {h : HI}  {p : Int32 × HI} (H : fX6_onSeats o hh h = some p) : CC l yX6_onSeats cX6_onSeats 3 (some .int) 3 [.ref o] sh adr (mk h r) (fun v τ => v = some (.int p.1) ∧ τ = mk p.2 r) := by
  refine CC.of (by decide) (Nat.le_of_ble_eq_true rfl) 2 [.ref o, .retAddr 0, .retAddr 0] rfl (fun X _ C E hZ => ?_)
  rw [fX6_onSeats] at H
  refine ww_aload_n C dX6_onSeats_0 0 rfl rfl ?_
  obtain ⟨p1, hc1, H⟩ := bd_of H
  refine ww_callV C hZ dX6_onSeats_1 cw_X6_121 (ccX6_inChairs hS hc1) hS.1 ⟨by decide, rfl⟩ (by decide) rfl rfl (Nat.le_of_ble_eq_true rfl) ⟨Nat.zero_le _, Nat.zero_le _⟩ (fun v τ hp => ?_)
  obtain ⟨rfl, rfl⟩ := hp
  change WW X _ 4 [.ref o, .retAddr 0, .retAddr 0] [.int p1.1] _
  refine ww_istore_n C dX6_onSeats_4 1 rfl (by decide) rfl [.ref o, .int p1.1, .retAddr 0] rfl ?_
  refine ww_iconst (v := (0 : Int32)) C dX6_onSeats_5 (by decide) ?_
  refine ww_istore_n C dX6_onSeats_6 2 rfl (by decide) rfl [.ref o, .int p1.1, .int (0 : Int32)] rfl ?_
  refine cX6_onSeats_7 hS C hZ E (fun h5 v1 H => ?_) FU p1.2 p1.1 (0 : Int32) H
  refine ww_iload_n C dX6_onSeats_45 1 rfl rfl ?_
  cases H
  exact ww_iret C E dX6_onSeats_46 ⟨rfl, rfl⟩
def fX6_voters_37 (o : Nat) (hh : Nat) (k : HI → Int32 → Option (Int32 × HI)) (kb : HI → Int32 → Int32 → Option (Int32 × HI)) (h : HI) (v1 : Int32) (v2 : Int32) : Option (Int32 × HI) := kb h v1 (v2 + (1 : Int32))
set_option maxRecDepth 100000 in
set_option maxHeartbeats 4000000 in
theorem cX6_voters_37 {X : CT} {sh : Sh} {adr : Nat → Nat} {r : Nat → Nat → Option Nat} {o : Nat} {hh : Nat} {p : Int32 × HI} (hS : SS sh r hh o) (C : CX X yX6_voters.cls cX6_voters 3 4) (hZ : SZX X adr) (E : RX X (some .int) sh adr (fun v τ => v = some (.int p.1) ∧ τ = mk p.2 r)) {k : HI → Int32 → Option (Int32 × HI)} {kb : HI → Int32 → Int32 → Option (Int32 × HI)} (hk : ∀ (h : HI) (v1 : Int32), k h v1 = some p → WW X (sh, adr, 0, 0) 43 [.ref o, .int v1, .retAddr 0] [] (mk h r)) (hb : ∀ (h : HI) (v1 : Int32) (v2 : Int32), kb h v1 v2 = some p → WW X (sh, adr, 0, 0) 7 [.ref o, .int v1, .int v2] [] (mk h r)) {h : HI} {v1 : Int32} {v2 : Int32} (H : fX6_voters_37 o hh k kb h v1 v2 = some p) : WW X (sh, adr, 0, 0) 37 [.ref o, .int v1, .int v2] [] (mk h r) := by
  rw [fX6_voters_37] at H
  refine ww_iinc (v := (v2 + (1 : Int32))) C dX6_voters_37 rfl rfl (by decide) rfl [.ref o, .int v1, .int (v2 + (1 : Int32))] rfl ?_
  refine ww_goto C dX6_voters_40 7 rfl ?_
  exact hb h v1 (v2 + (1 : Int32)) H
def fX6_voters_7 (o : Nat) (hh : Nat) (k : HI → Int32 → Option (Int32 × HI)) : Nat → HI → Int32 → Int32 → Option (Int32 × HI)
  | 0, _, _, _ => none
  | n + 1, h, v1, v2 => (if (h.1 (hh + 3) 1) ≤ v2 then k h v1 else ((fX6_naps o hh h v2).bind fun p2 => (if p2.1 = 0 then fX6_voters_37 o hh (k) (fX6_voters_7 o hh k n) p2.2 v1 v2 else fX6_voters_37 o hh (k) (fX6_voters_7 o hh k n) p2.2 (v1 &&& (((1 : Int32) <<< (v2 &&& 31)) ^^^ (-1 : Int32))) v2)))
set_option maxRecDepth 100000 in
set_option maxHeartbeats 4000000 in
theorem cX6_voters_7 {X : CT} {sh : Sh} {adr : Nat → Nat} {r : Nat → Nat → Option Nat} {o : Nat} {hh : Nat} {p : Int32 × HI} (hS : SS sh r hh o) (C : CX X yX6_voters.cls cX6_voters 3 4) (hZ : SZX X adr) (E : RX X (some .int) sh adr (fun v τ => v = some (.int p.1) ∧ τ = mk p.2 r)) {k : HI → Int32 → Option (Int32 × HI)} (hk : ∀ (h : HI) (v1 : Int32), k h v1 = some p → WW X (sh, adr, 0, 0) 43 [.ref o, .int v1, .retAddr 0] [] (mk h r)) : ∀ (n : Nat) (h : HI) (v1 : Int32) (v2 : Int32), fX6_voters_7 o hh k n h v1 v2 = some p → WW X (sh, adr, 0, 0) 7 [.ref o, .int v1, .int v2] [] (mk h r) := by
  intro n
  induction n with
  | zero =>
    intro h v1 v2 H
    rw [fX6_voters_7] at H
    cases H
  | succ n ih =>
    intro h v1 v2 H
    rw [fX6_voters_7] at H
    refine ww_iload_n C dX6_voters_7 2 rfl rfl ?_
    refine ww_aload_n C dX6_voters_8 0 rfl rfl ?_
    refine wk_getA C dX6_voters_9 fl_X6_41 hS.1 rfl (tX6_hall hS).1 ?_
    refine wk_getA C dX6_voters_12 fl_X6_78 (tX6_hall hS).2.1 rfl (tX1_men (tX6_hall hS).2).1 ?_
    refine wk_getI C dX6_voters_15 fl_X6_167 (tX1_men (tX6_hall hS).2).2.1 rfl ?_
    refine ww_icmp_ge C dX6_voters_18 43 rfl (fun hc => ?_) (fun hc => ?_)
    · rw [if_pos hc] at H
      exact ww_drop [.ref o, .int v1, .retAddr 0] (sl_e (sl_e (sl_d sl_n))) (hk h v1 H)
    · rw [if_neg hc] at H
      refine ww_aload_n C dX6_voters_21 0 rfl rfl ?_
      refine ww_iload_n C dX6_voters_22 2 rfl rfl ?_
      obtain ⟨p2, hc1, H⟩ := bd_of H
      refine ww_callV C hZ dX6_voters_23 cw_X6_222 (ccX6_naps hS hc1) hS.1 ⟨by decide, rfl⟩ (by decide) rfl rfl (Nat.le_of_ble_eq_true rfl) ⟨Nat.zero_le _, Nat.zero_le _⟩ (fun v τ hp => ?_)
      obtain ⟨rfl, rfl⟩ := hp
      change WW X _ 26 [.ref o, .int v1, .int v2] [.int p2.1] _
      refine ww_if_eq C dX6_voters_26 37 rfl (fun hc => ?_) (fun hc => ?_)
      · rw [if_pos hc] at H
        exact cX6_voters_37 hS C hZ E hk ih H
      · rw [if_neg hc] at H
        refine ww_iload_n C dX6_voters_29 1 rfl rfl ?_
        refine ww_iconst (v := (1 : Int32)) C dX6_voters_30 (by decide) ?_
        refine ww_iload_n C dX6_voters_31 2 rfl rfl ?_
        refine ww_ishl C dX6_voters_32 ?_
        refine ww_iconst (v := (-1 : Int32)) C dX6_voters_33 (by decide) ?_
        refine ww_ixor C dX6_voters_34 ?_
        refine ww_iand C dX6_voters_35 ?_
        refine ww_istore_n C dX6_voters_36 1 rfl (by decide) rfl [.ref o, .int (v1 &&& (((1 : Int32) <<< (v2 &&& 31)) ^^^ (-1 : Int32))), .int v2] rfl ?_
        exact cX6_voters_37 hS C hZ E hk ih H
def fX6_voters (o : Nat) (hh : Nat) (h : HI) : Option (Int32 × HI) := ((fX6_onSeats o hh h).bind fun p1 => fX6_voters_7 o hh (fun h4 v1 => some (v1, h4)) FU p1.2 p1.1 (0 : Int32))
set_option maxRecDepth 100000 in
set_option maxHeartbeats 4000000 in
theorem ccX6_voters {l : Launch} {sh : Sh} {adr : Nat → Nat} {r : Nat → Nat → Option Nat} {o : Nat} {hh : Nat} (hS : SS sh r hh o) {h : HI}  {p : Int32 × HI} (H : fX6_voters o hh h = some p) : CC l yX6_voters cX6_voters 3 (some .int) 4 [.ref o] sh adr (mk h r) (fun v τ => v = some (.int p.1) ∧ τ = mk p.2 r) := by
  refine CC.of (by decide) (Nat.le_of_ble_eq_true rfl) 2 [.ref o, .retAddr 0, .retAddr 0] rfl (fun X _ C E hZ => ?_)
  rw [fX6_voters] at H
  refine ww_aload_n C dX6_voters_0 0 rfl rfl ?_
  obtain ⟨p1, hc1, H⟩ := bd_of H
  refine ww_callV C hZ dX6_voters_1 cw_X6_219 (ccX6_onSeats hS hc1) hS.1 ⟨by decide, rfl⟩ (by decide) rfl rfl (Nat.le_of_ble_eq_true rfl) ⟨Nat.zero_le _, Nat.zero_le _⟩ (fun v τ hp => ?_)
  obtain ⟨rfl, rfl⟩ := hp
  change WW X _ 4 [.ref o, .retAddr 0, .retAddr 0] [.int p1.1] _
  refine ww_istore_n C dX6_voters_4 1 rfl (by decide) rfl [.ref o, .int p1.1, .retAddr 0] rfl ?_
  refine ww_iconst (v := (0 : Int32)) C dX6_voters_5 (by decide) ?_
  refine ww_istore_n C dX6_voters_6 2 rfl (by decide) rfl [.ref o, .int p1.1, .int (0 : Int32)] rfl ?_
  refine cX6_voters_7 hS C hZ E (fun h4 v1 H => ?_) FU p1.2 p1.1 (0 : Int32) H
  refine ww_iload_n C dX6_voters_43 1 rfl rfl ?_
  cases H
  exact ww_iret C E dX6_voters_44 ⟨rfl, rfl⟩
def fX6_noMen (o : Nat) (hh : Nat) (h : HI) (a1 : Int32) : Option (Int32 × HI) := ((fX6_voters o hh h).bind fun p1 => (if inB a1 4 then ((fX6_dueDeals o hh p1.2).bind fun p2 => ((fX1_boundMen hh p2.2 a1 p2.1).bind fun p3 => some (((p1.1 &&& (p1.2.1 (hh + 12) (a1.toNatClampNeg))) &&& (p3.1 ^^^ (-1 : Int32))), p3.2))) else none))
set_option maxRecDepth 100000 in
set_option maxHeartbeats 4000000 in
theorem ccX6_noMen {l : Launch} {sh : Sh} {adr : Nat → Nat} {r : Nat → Nat → Option Nat} {o : Nat} {hh : Nat} (hS : SS sh r hh o) {h : HI} {a1 : Int32} {p : Int32 × HI} (H : fX6_noMen o hh h a1 = some p) : CC l yX6_noMen cX6_noMen 2 (some .int) 5 [.ref o, .int a1] sh adr (mk h r) (fun v τ => v = some (.int p.1) ∧ τ = mk p.2 r) := by
  refine CC.of (by decide) (Nat.le_of_ble_eq_true rfl) 0 [.ref o, .int a1] rfl (fun X _ C E hZ => ?_)
  rw [fX6_noMen] at H
  refine ww_aload_n C dX6_noMen_0 0 rfl rfl ?_
  obtain ⟨p1, hc1, H⟩ := bd_of H
  refine ww_callV C hZ dX6_noMen_1 cw_X6_225 (ccX6_voters hS hc1) hS.1 ⟨by decide, rfl⟩ (by decide) rfl rfl (Nat.le_of_ble_eq_true rfl) ⟨Nat.zero_le _, Nat.zero_le _⟩ (fun v τ hp => ?_)
  obtain ⟨rfl, rfl⟩ := hp
  change WW X _ 4 [.ref o, .int a1] [.int p1.1] _
  refine ww_aload_n C dX6_noMen_4 0 rfl rfl ?_
  refine wk_getA C dX6_noMen_5 fl_X6_41 hS.1 rfl (tX6_hall hS).1 ?_
  refine wk_getR C dX6_noMen_8 fl_X6_234 (tX6_hall hS).2.1 rfl (tX1_dislikes (tX6_hall hS).2).1 ?_
  refine ww_iload_n C dX6_noMen_11 1 rfl rfl ?_
  obtain ⟨hg, H⟩ := gd_of H
  refine wk_iaload C dX6_noMen_12 (tX1_dislikes (tX6_hall hS).2).2.1 (vp_of hg (tX1_dislikes (tX6_hall hS).2).2.2) (a1.toNatClampNeg) rfl ?_
  refine ww_iand C dX6_noMen_13 ?_
  refine ww_aload_n C dX6_noMen_14 0 rfl rfl ?_
  refine wk_getA C dX6_noMen_15 fl_X6_41 hS.1 rfl (tX6_hall hS).1 ?_
  refine ww_iload_n C dX6_noMen_18 1 rfl rfl ?_
  refine ww_aload_n C dX6_noMen_19 0 rfl rfl ?_
  obtain ⟨p2, hc1, H⟩ := bd_of H
  refine ww_callV C hZ dX6_noMen_20 cw_X6_152 (ccX6_dueDeals hS hc1) hS.1 ⟨by decide, rfl⟩ (by decide) rfl rfl (Nat.le_of_ble_eq_true rfl) ⟨Nat.zero_le _, Nat.zero_le _⟩ (fun v τ hp => ?_)
  obtain ⟨rfl, rfl⟩ := hp
  change WW X _ 23 [.ref o, .int a1] [.int p2.1, .int a1, .ref hh, .int (p1.1 &&& (p1.2.1 (hh + 12) (a1.toNatClampNeg)))] _
  obtain ⟨p3, hc1, H⟩ := bd_of H
  refine ww_callV C hZ dX6_noMen_23 cw_X6_231 (ccX1_boundMen (tX6_hall hS).2 hc1) (tX6_hall hS).2.1 ⟨by decide, rfl⟩ (by decide) rfl rfl (Nat.le_of_ble_eq_true rfl) ⟨Nat.zero_le _, Nat.zero_le _⟩ (fun v τ hp => ?_)
  obtain ⟨rfl, rfl⟩ := hp
  change WW X _ 26 [.ref o, .int a1] [.int p3.1, .int (p1.1 &&& (p1.2.1 (hh + 12) (a1.toNatClampNeg)))] _
  refine ww_iconst (v := (-1 : Int32)) C dX6_noMen_26 (by decide) ?_
  refine ww_ixor C dX6_noMen_27 ?_
  refine ww_iand C dX6_noMen_28 ?_
  cases H
  exact ww_iret C E dX6_noMen_29 ⟨rfl, rfl⟩
def fX6_yesMen (o : Nat) (hh : Nat) (h : HI) (a1 : Int32) : Option (Int32 × HI) := ((fX6_voters o hh h).bind fun p1 => (if inB a1 4 then ((fX6_dueDeals o hh p1.2).bind fun p2 => ((fX1_boundMen hh p2.2 a1 p2.1).bind fun p3 => some ((p1.1 &&& ((p1.2.1 (hh + 11) (a1.toNatClampNeg)) ||| p3.1)), p3.2))) else none))
set_option maxRecDepth 100000 in
set_option maxHeartbeats 4000000 in
theorem ccX6_yesMen {l : Launch} {sh : Sh} {adr : Nat → Nat} {r : Nat → Nat → Option Nat} {o : Nat} {hh : Nat} (hS : SS sh r hh o) {h : HI} {a1 : Int32} {p : Int32 × HI} (H : fX6_yesMen o hh h a1 = some p) : CC l yX6_yesMen cX6_yesMen 2 (some .int) 5 [.ref o, .int a1] sh adr (mk h r) (fun v τ => v = some (.int p.1) ∧ τ = mk p.2 r) := by
  refine CC.of (by decide) (Nat.le_of_ble_eq_true rfl) 0 [.ref o, .int a1] rfl (fun X _ C E hZ => ?_)
  rw [fX6_yesMen] at H
  refine ww_aload_n C dX6_yesMen_0 0 rfl rfl ?_
  obtain ⟨p1, hc1, H⟩ := bd_of H
  refine ww_callV C hZ dX6_yesMen_1 cw_X6_225 (ccX6_voters hS hc1) hS.1 ⟨by decide, rfl⟩ (by decide) rfl rfl (Nat.le_of_ble_eq_true rfl) ⟨Nat.zero_le _, Nat.zero_le _⟩ (fun v τ hp => ?_)
  obtain ⟨rfl, rfl⟩ := hp
  change WW X _ 4 [.ref o, .int a1] [.int p1.1] _
  refine ww_aload_n C dX6_yesMen_4 0 rfl rfl ?_
  refine wk_getA C dX6_yesMen_5 fl_X6_41 hS.1 rfl (tX6_hall hS).1 ?_
  refine wk_getR C dX6_yesMen_8 fl_X6_228 (tX6_hall hS).2.1 rfl (tX1_likes (tX6_hall hS).2).1 ?_
  refine ww_iload_n C dX6_yesMen_11 1 rfl rfl ?_
  obtain ⟨hg, H⟩ := gd_of H
  refine wk_iaload C dX6_yesMen_12 (tX1_likes (tX6_hall hS).2).2.1 (vp_of hg (tX1_likes (tX6_hall hS).2).2.2) (a1.toNatClampNeg) rfl ?_
  refine ww_aload_n C dX6_yesMen_13 0 rfl rfl ?_
  refine wk_getA C dX6_yesMen_14 fl_X6_41 hS.1 rfl (tX6_hall hS).1 ?_
  refine ww_iload_n C dX6_yesMen_17 1 rfl rfl ?_
  refine ww_aload_n C dX6_yesMen_18 0 rfl rfl ?_
  obtain ⟨p2, hc1, H⟩ := bd_of H
  refine ww_callV C hZ dX6_yesMen_19 cw_X6_152 (ccX6_dueDeals hS hc1) hS.1 ⟨by decide, rfl⟩ (by decide) rfl rfl (Nat.le_of_ble_eq_true rfl) ⟨Nat.zero_le _, Nat.zero_le _⟩ (fun v τ hp => ?_)
  obtain ⟨rfl, rfl⟩ := hp
  change WW X _ 22 [.ref o, .int a1] [.int p2.1, .int a1, .ref hh, .int (p1.2.1 (hh + 11) (a1.toNatClampNeg)), .int p1.1] _
  obtain ⟨p3, hc1, H⟩ := bd_of H
  refine ww_callV C hZ dX6_yesMen_22 cw_X6_231 (ccX1_boundMen (tX6_hall hS).2 hc1) (tX6_hall hS).2.1 ⟨by decide, rfl⟩ (by decide) rfl rfl (Nat.le_of_ble_eq_true rfl) ⟨Nat.zero_le _, Nat.zero_le _⟩ (fun v τ hp => ?_)
  obtain ⟨rfl, rfl⟩ := hp
  change WW X _ 25 [.ref o, .int a1] [.int p3.1, .int (p1.2.1 (hh + 11) (a1.toNatClampNeg)), .int p1.1] _
  refine ww_ior C dX6_yesMen_25 ?_
  refine ww_iand C dX6_yesMen_26 ?_
  cases H
  exact ww_iret C E dX6_yesMen_27 ⟨rfl, rfl⟩
def fX6_voteOn_112 (o : Nat) (hh : Nat) (h : HI) (v1 : Int32) (v2 : Int32) (v3 : Int32) (v6 : Int32) (s0 : Int32) (s1 : Int32) : Option (Int32 × HI) := (if inB s1 4 then ((fX6_keepVote o hh (uI h (o + 5) (s1.toNatClampNeg) s0) v1 v2 v3).bind fun h13 => ((fX6_overMinute o hh h13).bind fun p14 => (if v6 = 0 then some ((0 : Int32), p14.2) else some ((1 : Int32), p14.2)))) else none)
set_option maxRecDepth 100000 in
set_option maxHeartbeats 4000000 in
theorem cX6_voteOn_112 {X : CT} {sh : Sh} {adr : Nat → Nat} {r : Nat → Nat → Option Nat} {o : Nat} {hh : Nat} {p : Int32 × HI} (hS : SS sh r hh o) (C : CX X yX6_voteOn.cls cX6_voteOn 7 6) (hZ : SZX X adr) (E : RX X (some .int) sh adr (fun v τ => v = some (.int p.1) ∧ τ = mk p.2 r)) {h : HI} {v1 : Int32} {v2 : Int32} {v3 : Int32} {v6 : Int32} {s0 : Int32} {s1 : Int32} (H : fX6_voteOn_112 o hh h v1 v2 v3 v6 s0 s1 = some p) : WW X (sh, adr, 0, 0) 112 [.ref o, .int v1, .int v2, .int v3, .retAddr 0, .retAddr 0, .int v6] [.int s0, .int s1, .ref (o + 5)] (mk h r) := by
  rw [fX6_voteOn_112] at H
  obtain ⟨hg, H⟩ := gd_of H
  refine wk_iastore C dX6_voteOn_112 (tX6_status hS).2.1 (vp_of hg (tX6_status hS).2.2) (s1.toNatClampNeg) rfl ?_
  refine ww_aload_n C dX6_voteOn_113 0 rfl rfl ?_
  refine ww_iload_n C dX6_voteOn_114 1 rfl rfl ?_
  refine ww_iload_n C dX6_voteOn_115 2 rfl rfl ?_
  refine ww_iload_n C dX6_voteOn_116 3 rfl rfl ?_
  obtain ⟨h13, hc1, H⟩ := bd_of H
  refine ww_callV C hZ dX6_voteOn_117 cw_X6_145 (ccX6_keepVote hS hc1) hS.1 ⟨by decide, rfl⟩ (by decide) rfl rfl (Nat.le_of_ble_eq_true rfl) ⟨Nat.zero_le _, Nat.zero_le _⟩ (fun v τ hp => ?_)
  obtain ⟨rfl, rfl⟩ := hp
  change WW X _ 120 [.ref o, .int v1, .int v2, .int v3, .retAddr 0, .retAddr 0, .int v6] [] _
  refine ww_aload_n C dX6_voteOn_120 0 rfl rfl ?_
  obtain ⟨p14, hc1, H⟩ := bd_of H
  refine ww_callV C hZ dX6_voteOn_121 cw_X6_95 (ccX6_overMinute hS hc1) hS.1 ⟨by decide, rfl⟩ (by decide) rfl rfl (Nat.le_of_ble_eq_true rfl) ⟨Nat.zero_le _, Nat.zero_le _⟩ (fun v τ hp => ?_)
  obtain ⟨rfl, rfl⟩ := hp
  change WW X _ 124 [.ref o, .int v1, .int v2, .int v3, .retAddr 0, .retAddr 0, .int v6] [.int p14.1] _
  refine ww_pop C dX6_voteOn_124 rfl ?_
  refine ww_iload C dX6_voteOn_125 rfl ?_
  refine ww_if_eq C dX6_voteOn_127 134 rfl (fun hc => ?_) (fun hc => ?_)
  · rw [if_pos hc] at H
    refine ww_iconst (v := (0 : Int32)) C dX6_voteOn_134 (by decide) ?_
    cases H
    exact ww_iret C E dX6_voteOn_135 ⟨rfl, rfl⟩
  · rw [if_neg hc] at H
    refine ww_iconst (v := (1 : Int32)) C dX6_voteOn_130 (by decide) ?_
    refine ww_goto C dX6_voteOn_131 135 rfl ?_
    cases H
    exact ww_iret C E dX6_voteOn_135 ⟨rfl, rfl⟩
def fX6_voteOn (o : Nat) (hh : Nat) (h : HI) (a1 : Int32) : Option (Int32 × HI) := ((fX2_has (hh + 5) h a1).bind fun p1 => (if p1.1 = 0 then some ((-1 : Int32), p1.2) else (if inB a1 4 then (if (p1.2.1 (o + 5) (a1.toNatClampNeg)) = (1 : Int32) then ((fX6_hasTime o p1.2 (1 : Int32)).bind fun p2 => (if p2.1 = 0 then some ((-1 : Int32), p2.2) else ((fX6_yesMen o hh p2.2 a1).bind fun p3 => ((fX6_noMen o hh p3.2 a1).bind fun p4 => ((fX6_inChairs o hh p4.2).bind fun p5 => ((fJ6_bitCount_0f7a4 p5.2 p5.1).bind fun p6 => ((fX6_inHall o hh p6.2).bind fun p7 => ((fJ6_bitCount_0f7a4 p7.2 p7.1).bind fun p8 => ((fJ6_bitCount_0f7a4 p8.2 p3.1).bind fun p9 => ((fJ6_bitCount_0f7a4 p9.2 p4.1).bind fun p10 => ((fX5_passes (hh + 18) p10.2 p9.1 p10.1 p6.1 (p8.1 - p6.1)).bind fun p11 => ((fX6_endDeals o hh p11.2 a1 p3.1).bind fun h12 => (if p11.1 = 0 then fX6_voteOn_112 o hh h12 a1 p3.1 p4.1 p11.1 (3 : Int32) a1 else fX6_voteOn_112 o hh h12 a1 p3.1 p4.1 p11.1 (2 : Int32) a1))))))))))))) else some ((-1 : Int32), p1.2)) else none)))
set_option maxRecDepth 100000 in
set_option maxHeartbeats 4000000 in
theorem ccX6_voteOn {l : Launch} {sh : Sh} {adr : Nat → Nat} {r : Nat → Nat → Option Nat} {o : Nat} {hh : Nat} (hS : SS sh r hh o) {h : HI} {a1 : Int32} {p : Int32 × HI} (H : fX6_voteOn o hh h a1 = some p) : CC l yX6_voteOn cX6_voteOn 7 (some .int) 6 [.ref o, .int a1] sh adr (mk h r) (fun v τ => v = some (.int p.1) ∧ τ = mk p.2 r) := by
  refine CC.of (by decide) (Nat.le_of_ble_eq_true rfl) 5 [.ref o, .int a1, .retAddr 0, .retAddr 0, .retAddr 0, .retAddr 0, .retAddr 0] rfl (fun X _ C E hZ => ?_)
  rw [fX6_voteOn] at H
  refine ww_aload_n C dX6_voteOn_0 0 rfl rfl ?_
  refine wk_getA C dX6_voteOn_1 fl_X6_41 hS.1 rfl (tX6_hall hS).1 ?_
  refine wk_getA C dX6_voteOn_4 fl_X6_111 (tX6_hall hS).2.1 rfl (tX1_matters (tX6_hall hS).2).1 ?_
  refine ww_iload_n C dX6_voteOn_7 1 rfl rfl ?_
  obtain ⟨p1, hc1, H⟩ := bd_of H
  refine ww_callV C hZ dX6_voteOn_8 cw_X6_82 (ccX2_has (tX1_matters (tX6_hall hS).2).2 hc1) (tX1_matters (tX6_hall hS).2).2.1 ⟨by decide, rfl⟩ (by decide) rfl rfl (Nat.le_of_ble_eq_true rfl) ⟨Nat.zero_le _, Nat.zero_le _⟩ (fun v τ hp => ?_)
  obtain ⟨rfl, rfl⟩ := hp
  change WW X _ 11 [.ref o, .int a1, .retAddr 0, .retAddr 0, .retAddr 0, .retAddr 0, .retAddr 0] [.int p1.1] _
  refine ww_if_eq C dX6_voteOn_11 32 rfl (fun hc => ?_) (fun hc => ?_)
  · rw [if_pos hc] at H
    refine ww_iconst (v := (-1 : Int32)) C dX6_voteOn_32 (by decide) ?_
    cases H
    exact ww_iret C E dX6_voteOn_33 ⟨rfl, rfl⟩
  · rw [if_neg hc] at H
    refine ww_aload_n C dX6_voteOn_14 0 rfl rfl ?_
    refine wk_getR C dX6_voteOn_15 fl_X6_24 hS.1 rfl (tX6_status hS).1 ?_
    refine ww_iload_n C dX6_voteOn_18 1 rfl rfl ?_
    obtain ⟨hg, H⟩ := gd_of H
    refine wk_iaload C dX6_voteOn_19 (tX6_status hS).2.1 (vp_of hg (tX6_status hS).2.2) (a1.toNatClampNeg) rfl ?_
    refine ww_iconst (v := (1 : Int32)) C dX6_voteOn_20 (by decide) ?_
    refine ww_icmp_ne C dX6_voteOn_21 32 rfl (fun hc => ?_) (fun hc => ?_)
    · rw [if_neg hc] at H
      refine ww_iconst (v := (-1 : Int32)) C dX6_voteOn_32 (by decide) ?_
      cases H
      exact ww_iret C E dX6_voteOn_33 ⟨rfl, rfl⟩
    · rw [if_pos hc] at H
      refine ww_aload_n C dX6_voteOn_24 0 rfl rfl ?_
      refine ww_iconst (v := (1 : Int32)) C dX6_voteOn_25 (by decide) ?_
      obtain ⟨p2, hc1, H⟩ := bd_of H
      refine ww_callV C hZ dX6_voteOn_26 cw_X6_88 (ccX6_hasTime hS hc1) hS.1 ⟨by decide, rfl⟩ (by decide) rfl rfl (Nat.le_of_ble_eq_true rfl) ⟨Nat.zero_le _, Nat.zero_le _⟩ (fun v τ hp => ?_)
      obtain ⟨rfl, rfl⟩ := hp
      change WW X _ 29 [.ref o, .int a1, .retAddr 0, .retAddr 0, .retAddr 0, .retAddr 0, .retAddr 0] [.int p2.1] _
      refine ww_if_ne C dX6_voteOn_29 34 rfl (fun hc => ?_) (fun hc => ?_)
      · rw [if_neg hc] at H
        refine ww_aload_n C dX6_voteOn_34 0 rfl rfl ?_
        refine ww_iload_n C dX6_voteOn_35 1 rfl rfl ?_
        obtain ⟨p3, hc1, H⟩ := bd_of H
        refine ww_callV C hZ dX6_voteOn_36 cw_X6_114 (ccX6_yesMen hS hc1) hS.1 ⟨by decide, rfl⟩ (by decide) rfl rfl (Nat.le_of_ble_eq_true rfl) ⟨Nat.zero_le _, Nat.zero_le _⟩ (fun v τ hp => ?_)
        obtain ⟨rfl, rfl⟩ := hp
        change WW X _ 39 [.ref o, .int a1, .retAddr 0, .retAddr 0, .retAddr 0, .retAddr 0, .retAddr 0] [.int p3.1] _
        refine ww_istore_n C dX6_voteOn_39 2 rfl (by decide) rfl [.ref o, .int a1, .int p3.1, .retAddr 0, .retAddr 0, .retAddr 0, .retAddr 0] rfl ?_
        refine ww_aload_n C dX6_voteOn_40 0 rfl rfl ?_
        refine ww_iload_n C dX6_voteOn_41 1 rfl rfl ?_
        obtain ⟨p4, hc1, H⟩ := bd_of H
        refine ww_callV C hZ dX6_voteOn_42 cw_X6_118 (ccX6_noMen hS hc1) hS.1 ⟨by decide, rfl⟩ (by decide) rfl rfl (Nat.le_of_ble_eq_true rfl) ⟨Nat.zero_le _, Nat.zero_le _⟩ (fun v τ hp => ?_)
        obtain ⟨rfl, rfl⟩ := hp
        change WW X _ 45 [.ref o, .int a1, .int p3.1, .retAddr 0, .retAddr 0, .retAddr 0, .retAddr 0] [.int p4.1] _
        refine ww_istore_n C dX6_voteOn_45 3 rfl (by decide) rfl [.ref o, .int a1, .int p3.1, .int p4.1, .retAddr 0, .retAddr 0, .retAddr 0] rfl ?_
        refine ww_aload_n C dX6_voteOn_46 0 rfl rfl ?_
        obtain ⟨p5, hc1, H⟩ := bd_of H
        refine ww_callV C hZ dX6_voteOn_47 cw_X6_121 (ccX6_inChairs hS hc1) hS.1 ⟨by decide, rfl⟩ (by decide) rfl rfl (Nat.le_of_ble_eq_true rfl) ⟨Nat.zero_le _, Nat.zero_le _⟩ (fun v τ hp => ?_)
        obtain ⟨rfl, rfl⟩ := hp
        change WW X _ 50 [.ref o, .int a1, .int p3.1, .int p4.1, .retAddr 0, .retAddr 0, .retAddr 0] [.int p5.1] _
        obtain ⟨p6, hc1, H⟩ := bd_of H
        refine ww_callS C hZ dX6_voteOn_50 sw_X6_124 (ccJ6_bitCount_0f7a4 hc1) (by decide) rfl rfl (Nat.le_of_ble_eq_true rfl) ⟨Nat.zero_le _, Nat.zero_le _⟩ (fun v τ hp => ?_)
        obtain ⟨rfl, rfl⟩ := hp
        change WW X _ 53 [.ref o, .int a1, .int p3.1, .int p4.1, .retAddr 0, .retAddr 0, .retAddr 0] [.int p6.1] _
        refine ww_istore C dX6_voteOn_53 (by decide) rfl [.ref o, .int a1, .int p3.1, .int p4.1, .int p6.1, .retAddr 0, .retAddr 0] rfl ?_
        refine ww_aload_n C dX6_voteOn_55 0 rfl rfl ?_
        obtain ⟨p7, hc1, H⟩ := bd_of H
        refine ww_callV C hZ dX6_voteOn_56 cw_X6_129 (ccX6_inHall hS hc1) hS.1 ⟨by decide, rfl⟩ (by decide) rfl rfl (Nat.le_of_ble_eq_true rfl) ⟨Nat.zero_le _, Nat.zero_le _⟩ (fun v τ hp => ?_)
        obtain ⟨rfl, rfl⟩ := hp
        change WW X _ 59 [.ref o, .int a1, .int p3.1, .int p4.1, .int p6.1, .retAddr 0, .retAddr 0] [.int p7.1] _
        obtain ⟨p8, hc1, H⟩ := bd_of H
        refine ww_callS C hZ dX6_voteOn_59 sw_X6_124 (ccJ6_bitCount_0f7a4 hc1) (by decide) rfl rfl (Nat.le_of_ble_eq_true rfl) ⟨Nat.zero_le _, Nat.zero_le _⟩ (fun v τ hp => ?_)
        obtain ⟨rfl, rfl⟩ := hp
        change WW X _ 62 [.ref o, .int a1, .int p3.1, .int p4.1, .int p6.1, .retAddr 0, .retAddr 0] [.int p8.1] _
        refine ww_iload C dX6_voteOn_62 rfl ?_
        refine ww_isub C dX6_voteOn_64 ?_
        refine ww_istore C dX6_voteOn_65 (by decide) rfl [.ref o, .int a1, .int p3.1, .int p4.1, .int p6.1, .int (p8.1 - p6.1), .retAddr 0] rfl ?_
        refine ww_aload_n C dX6_voteOn_67 0 rfl rfl ?_
        refine wk_getA C dX6_voteOn_68 fl_X6_41 hS.1 rfl (tX6_hall hS).1 ?_
        refine wk_getA C dX6_voteOn_71 fl_X6_132 (tX6_hall hS).2.1 rfl (tX1_rule (tX6_hall hS).2).1 ?_
        refine ww_iload_n C dX6_voteOn_74 2 rfl rfl ?_
        obtain ⟨p9, hc1, H⟩ := bd_of H
        refine ww_callS C hZ dX6_voteOn_75 sw_X6_124 (ccJ6_bitCount_0f7a4 hc1) (by decide) rfl rfl (Nat.le_of_ble_eq_true rfl) ⟨Nat.zero_le _, Nat.zero_le _⟩ (fun v τ hp => ?_)
        obtain ⟨rfl, rfl⟩ := hp
        change WW X _ 78 [.ref o, .int a1, .int p3.1, .int p4.1, .int p6.1, .int (p8.1 - p6.1), .retAddr 0] [.int p9.1, .ref (hh + 18)] _
        refine ww_iload_n C dX6_voteOn_78 3 rfl rfl ?_
        obtain ⟨p10, hc1, H⟩ := bd_of H
        refine ww_callS C hZ dX6_voteOn_79 sw_X6_124 (ccJ6_bitCount_0f7a4 hc1) (by decide) rfl rfl (Nat.le_of_ble_eq_true rfl) ⟨Nat.zero_le _, Nat.zero_le _⟩ (fun v τ hp => ?_)
        obtain ⟨rfl, rfl⟩ := hp
        change WW X _ 82 [.ref o, .int a1, .int p3.1, .int p4.1, .int p6.1, .int (p8.1 - p6.1), .retAddr 0] [.int p10.1, .int p9.1, .ref (hh + 18)] _
        refine ww_iload C dX6_voteOn_82 rfl ?_
        refine ww_iload C dX6_voteOn_84 rfl ?_
        obtain ⟨p11, hc1, H⟩ := bd_of H
        refine ww_callV C hZ dX6_voteOn_86 cw_X6_136 (ccX5_passes (tX1_rule (tX6_hall hS).2).2 hc1) (tX1_rule (tX6_hall hS).2).2.1 ⟨by decide, rfl⟩ (by decide) rfl rfl (Nat.le_of_ble_eq_true rfl) ⟨Nat.zero_le _, Nat.zero_le _⟩ (fun v τ hp => ?_)
        obtain ⟨rfl, rfl⟩ := hp
        change WW X _ 89 [.ref o, .int a1, .int p3.1, .int p4.1, .int p6.1, .int (p8.1 - p6.1), .retAddr 0] [.int p11.1] _
        refine ww_istore C dX6_voteOn_89 (by decide) rfl [.ref o, .int a1, .int p3.1, .int p4.1, .int p6.1, .int (p8.1 - p6.1), .int p11.1] rfl ?_
        refine ww_aload_n C dX6_voteOn_91 0 rfl rfl ?_
        refine ww_iload_n C dX6_voteOn_92 1 rfl rfl ?_
        refine ww_iload_n C dX6_voteOn_93 2 rfl rfl ?_
        obtain ⟨h12, hc1, H⟩ := bd_of H
        refine ww_callV C hZ dX6_voteOn_94 cw_X6_142 (ccX6_endDeals hS hc1) hS.1 ⟨by decide, rfl⟩ (by decide) rfl rfl (Nat.le_of_ble_eq_true rfl) ⟨Nat.zero_le _, Nat.zero_le _⟩ (fun v τ hp => ?_)
        obtain ⟨rfl, rfl⟩ := hp
        change WW X _ 97 [.ref o, .int a1, .int p3.1, .int p4.1, .int p6.1, .int (p8.1 - p6.1), .int p11.1] [] _
        refine ww_aload_n C dX6_voteOn_97 0 rfl rfl ?_
        refine wk_getR C dX6_voteOn_98 fl_X6_24 hS.1 rfl (tX6_status hS).1 ?_
        refine ww_iload_n C dX6_voteOn_101 1 rfl rfl ?_
        refine ww_iload C dX6_voteOn_102 rfl ?_
        refine ww_if_eq C dX6_voteOn_104 111 rfl (fun hc => ?_) (fun hc => ?_)
        · rw [if_pos hc] at H
          refine ww_iconst (v := (3 : Int32)) C dX6_voteOn_111 (by decide) ?_
          exact ww_drop [.ref o, .int a1, .int p3.1, .int p4.1, .retAddr 0, .retAddr 0, .int p11.1] (sl_e (sl_e (sl_e (sl_e (sl_d (sl_d (sl_e sl_n))))))) (cX6_voteOn_112 hS C hZ E H)
        · rw [if_neg hc] at H
          refine ww_iconst (v := (2 : Int32)) C dX6_voteOn_107 (by decide) ?_
          refine ww_goto C dX6_voteOn_108 112 rfl ?_
          exact ww_drop [.ref o, .int a1, .int p3.1, .int p4.1, .retAddr 0, .retAddr 0, .int p11.1] (sl_e (sl_e (sl_e (sl_e (sl_d (sl_d (sl_e sl_n))))))) (cX6_voteOn_112 hS C hZ E H)
      · rw [if_pos hc] at H
        refine ww_iconst (v := (-1 : Int32)) C dX6_voteOn_32 (by decide) ?_
        cases H
        exact ww_iret C E dX6_voteOn_33 ⟨rfl, rfl⟩
def fX6_isAtDoor (o : Nat) (hh : Nat) (h : HI) (a1 : Int32) : Option (Int32 × HI) := ((fX2_has (hh + 3) h a1).bind fun p1 => (if p1.1 = 0 then some ((0 : Int32), p1.2) else (if inB a1 6 then (if (p1.2.1 (o + 1) (a1.toNatClampNeg)) = (-2 : Int32) then some ((1 : Int32), p1.2) else some ((0 : Int32), p1.2)) else none)))
set_option maxRecDepth 100000 in
set_option maxHeartbeats 4000000 in
theorem ccX6_isAtDoor {l : Launch} {sh : Sh} {adr : Nat → Nat} {r : Nat → Nat → Option Nat} {o : Nat} {hh : Nat} (hS : SS sh r hh o) {h : HI} {a1 : Int32} {p : Int32 × HI} (H : fX6_isAtDoor o hh h a1 = some p) : CC l yX6_isAtDoor cX6_isAtDoor 2 (some .boolean) 1 [.ref o, .int a1] sh adr (mk h r) (fun v τ => v = some (.int p.1) ∧ τ = mk p.2 r) := by
  refine CC.of (by decide) (Nat.le_of_ble_eq_true rfl) 0 [.ref o, .int a1] rfl (fun X _ C E hZ => ?_)
  rw [fX6_isAtDoor] at H
  refine ww_aload_n C dX6_isAtDoor_0 0 rfl rfl ?_
  refine wk_getA C dX6_isAtDoor_1 fl_X6_41 hS.1 rfl (tX6_hall hS).1 ?_
  refine wk_getA C dX6_isAtDoor_4 fl_X6_78 (tX6_hall hS).2.1 rfl (tX1_men (tX6_hall hS).2).1 ?_
  refine ww_iload_n C dX6_isAtDoor_7 1 rfl rfl ?_
  obtain ⟨p1, hc1, H⟩ := bd_of H
  refine ww_callV C hZ dX6_isAtDoor_8 cw_X6_82 (ccX2_has (tX1_men (tX6_hall hS).2).2 hc1) (tX1_men (tX6_hall hS).2).2.1 ⟨by decide, rfl⟩ (by decide) rfl rfl (Nat.le_of_ble_eq_true rfl) ⟨Nat.zero_le _, Nat.zero_le _⟩ (fun v τ hp => ?_)
  obtain ⟨rfl, rfl⟩ := hp
  change WW X _ 11 [.ref o, .int a1] [.int p1.1] _
  refine ww_if_eq C dX6_isAtDoor_11 29 rfl (fun hc => ?_) (fun hc => ?_)
  · rw [if_pos hc] at H
    refine ww_iconst (v := (0 : Int32)) C dX6_isAtDoor_29 (by decide) ?_
    cases H
    exact ww_zret C E dX6_isAtDoor_30 (Or.inl rfl) ⟨rfl, rfl⟩
  · rw [if_neg hc] at H
    refine ww_aload_n C dX6_isAtDoor_14 0 rfl rfl ?_
    refine wk_getR C dX6_isAtDoor_15 fl_X6_9 hS.1 rfl (tX6_where hS).1 ?_
    refine ww_iload_n C dX6_isAtDoor_18 1 rfl rfl ?_
    obtain ⟨hg, H⟩ := gd_of H
    refine wk_iaload C dX6_isAtDoor_19 (tX6_where hS).2.1 (vp_of hg (tX6_where hS).2.2) (a1.toNatClampNeg) rfl ?_
    refine ww_bipush (v := (-2 : Int32)) C dX6_isAtDoor_20 (by decide) ?_
    refine ww_icmp_ne C dX6_isAtDoor_22 29 rfl (fun hc => ?_) (fun hc => ?_)
    · rw [if_neg hc] at H
      refine ww_iconst (v := (0 : Int32)) C dX6_isAtDoor_29 (by decide) ?_
      cases H
      exact ww_zret C E dX6_isAtDoor_30 (Or.inl rfl) ⟨rfl, rfl⟩
    · rw [if_pos hc] at H
      refine ww_iconst (v := (1 : Int32)) C dX6_isAtDoor_25 (by decide) ?_
      refine ww_goto C dX6_isAtDoor_26 30 rfl ?_
      cases H
      exact ww_zret C E dX6_isAtDoor_30 (Or.inr rfl) ⟨rfl, rfl⟩
def fX6_comeIn (o : Nat) (hh : Nat) (h : HI) (a1 : Int32) : Option (Int32 × HI) := ((fX6_isAtDoor o hh h a1).bind fun p1 => (if p1.1 = 0 then some ((-1 : Int32), p1.2) else ((fX6_hasTime o p1.2 (1 : Int32)).bind fun p2 => (if p2.1 = 0 then some ((-1 : Int32), p2.2) else ((fX6_place o p2.2 a1 (-1 : Int32)).bind fun h3 => ((fX6_overMinute o hh h3).bind fun p4 => some (p4.1, p4.2)))))))
set_option maxRecDepth 100000 in
set_option maxHeartbeats 4000000 in
theorem ccX6_comeIn {l : Launch} {sh : Sh} {adr : Nat → Nat} {r : Nat → Nat → Option Nat} {o : Nat} {hh : Nat} (hS : SS sh r hh o) {h : HI} {a1 : Int32} {p : Int32 × HI} (H : fX6_comeIn o hh h a1 = some p) : CC l yX6_comeIn cX6_comeIn 2 (some .int) 4 [.ref o, .int a1] sh adr (mk h r) (fun v τ => v = some (.int p.1) ∧ τ = mk p.2 r) := by
  refine CC.of (by decide) (Nat.le_of_ble_eq_true rfl) 0 [.ref o, .int a1] rfl (fun X _ C E hZ => ?_)
  rw [fX6_comeIn] at H
  refine ww_aload_n C dX6_comeIn_0 0 rfl rfl ?_
  refine ww_iload_n C dX6_comeIn_1 1 rfl rfl ?_
  obtain ⟨p1, hc1, H⟩ := bd_of H
  refine ww_callV C hZ dX6_comeIn_2 cw_X6_149 (ccX6_isAtDoor hS hc1) hS.1 ⟨by decide, rfl⟩ (by decide) rfl rfl (Nat.le_of_ble_eq_true rfl) ⟨Nat.zero_le _, Nat.zero_le _⟩ (fun v τ hp => ?_)
  obtain ⟨rfl, rfl⟩ := hp
  change WW X _ 5 [.ref o, .int a1] [.int p1.1] _
  refine ww_if_eq C dX6_comeIn_5 16 rfl (fun hc => ?_) (fun hc => ?_)
  · rw [if_pos hc] at H
    refine ww_iconst (v := (-1 : Int32)) C dX6_comeIn_16 (by decide) ?_
    cases H
    exact ww_iret C E dX6_comeIn_17 ⟨rfl, rfl⟩
  · rw [if_neg hc] at H
    refine ww_aload_n C dX6_comeIn_8 0 rfl rfl ?_
    refine ww_iconst (v := (1 : Int32)) C dX6_comeIn_9 (by decide) ?_
    obtain ⟨p2, hc1, H⟩ := bd_of H
    refine ww_callV C hZ dX6_comeIn_10 cw_X6_88 (ccX6_hasTime hS hc1) hS.1 ⟨by decide, rfl⟩ (by decide) rfl rfl (Nat.le_of_ble_eq_true rfl) ⟨Nat.zero_le _, Nat.zero_le _⟩ (fun v τ hp => ?_)
    obtain ⟨rfl, rfl⟩ := hp
    change WW X _ 13 [.ref o, .int a1] [.int p2.1] _
    refine ww_if_ne C dX6_comeIn_13 18 rfl (fun hc => ?_) (fun hc => ?_)
    · rw [if_neg hc] at H
      refine ww_aload_n C dX6_comeIn_18 0 rfl rfl ?_
      refine ww_iload_n C dX6_comeIn_19 1 rfl rfl ?_
      refine ww_iconst (v := (-1 : Int32)) C dX6_comeIn_20 (by decide) ?_
      obtain ⟨h3, hc1, H⟩ := bd_of H
      refine ww_callV C hZ dX6_comeIn_21 cw_X6_91 (ccX6_place hS hc1) hS.1 ⟨by decide, rfl⟩ (by decide) rfl rfl (Nat.le_of_ble_eq_true rfl) ⟨Nat.zero_le _, Nat.zero_le _⟩ (fun v τ hp => ?_)
      obtain ⟨rfl, rfl⟩ := hp
      change WW X _ 24 [.ref o, .int a1] [] _
      refine ww_aload_n C dX6_comeIn_24 0 rfl rfl ?_
      obtain ⟨p4, hc1, H⟩ := bd_of H
      refine ww_callV C hZ dX6_comeIn_25 cw_X6_95 (ccX6_overMinute hS hc1) hS.1 ⟨by decide, rfl⟩ (by decide) rfl rfl (Nat.le_of_ble_eq_true rfl) ⟨Nat.zero_le _, Nat.zero_le _⟩ (fun v τ hp => ?_)
      obtain ⟨rfl, rfl⟩ := hp
      change WW X _ 28 [.ref o, .int a1] [.int p4.1] _
      cases H
      exact ww_iret C E dX6_comeIn_28 ⟨rfl, rfl⟩
    · rw [if_pos hc] at H
      refine ww_iconst (v := (-1 : Int32)) C dX6_comeIn_16 (by decide) ?_
      cases H
      exact ww_iret C E dX6_comeIn_17 ⟨rfl, rfl⟩
def fX6_idle_23 (o : Nat) (hh : Nat) (k : HI → Option (Int32 × HI)) : Nat → HI → Int32 → Int32 → Option (Int32 × HI)
  | 0, _, _, _ => none
  | n + 1, h, v1, v2 => (if v1 ≤ v2 then k h else ((fX6_overMinute o hh h).bind fun p2 => fX6_idle_23 o hh k n p2.2 v1 (v2 + (1 : Int32))))
set_option maxRecDepth 100000 in
set_option maxHeartbeats 4000000 in
theorem cX6_idle_23 {X : CT} {sh : Sh} {adr : Nat → Nat} {r : Nat → Nat → Option Nat} {o : Nat} {hh : Nat} {p : Int32 × HI} (hS : SS sh r hh o) (C : CX X yX6_idle.cls cX6_idle 3 4) (hZ : SZX X adr) (E : RX X (some .int) sh adr (fun v τ => v = some (.int p.1) ∧ τ = mk p.2 r)) {k : HI → Option (Int32 × HI)} (hk : ∀ (h : HI), k h = some p → WW X (sh, adr, 0, 0) 39 [.ref o, .retAddr 0, .retAddr 0] [] (mk h r)) : ∀ (n : Nat) (h : HI) (v1 : Int32) (v2 : Int32), fX6_idle_23 o hh k n h v1 v2 = some p → WW X (sh, adr, 0, 0) 23 [.ref o, .int v1, .int v2] [] (mk h r) := by
  intro n
  induction n with
  | zero =>
    intro h v1 v2 H
    rw [fX6_idle_23] at H
    cases H
  | succ n ih =>
    intro h v1 v2 H
    rw [fX6_idle_23] at H
    refine ww_iload_n C dX6_idle_23 2 rfl rfl ?_
    refine ww_iload_n C dX6_idle_24 1 rfl rfl ?_
    refine ww_icmp_ge C dX6_idle_25 39 rfl (fun hc => ?_) (fun hc => ?_)
    · rw [if_pos hc] at H
      exact ww_drop [.ref o, .retAddr 0, .retAddr 0] (sl_e (sl_d (sl_d sl_n))) (hk h H)
    · rw [if_neg hc] at H
      refine ww_aload_n C dX6_idle_28 0 rfl rfl ?_
      obtain ⟨p2, hc1, H⟩ := bd_of H
      refine ww_callV C hZ dX6_idle_29 cw_X6_95 (ccX6_overMinute hS hc1) hS.1 ⟨by decide, rfl⟩ (by decide) rfl rfl (Nat.le_of_ble_eq_true rfl) ⟨Nat.zero_le _, Nat.zero_le _⟩ (fun v τ hp => ?_)
      obtain ⟨rfl, rfl⟩ := hp
      change WW X _ 32 [.ref o, .int v1, .int v2] [.int p2.1] _
      refine ww_pop C dX6_idle_32 rfl ?_
      refine ww_iinc (v := (v2 + (1 : Int32))) C dX6_idle_33 rfl rfl (by decide) rfl [.ref o, .int v1, .int (v2 + (1 : Int32))] rfl ?_
      refine ww_goto C dX6_idle_36 23 rfl ?_
      exact ih p2.2 v1 (v2 + (1 : Int32)) H
def fX6_idle (o : Nat) (hh : Nat) (h : HI) (a1 : Int32) : Option (Int32 × HI) := (if a1 < 0 then some ((-1 : Int32), h) else (if (200 : Int32) < a1 then some ((-1 : Int32), h) else ((fX6_hasTime o h a1).bind fun p1 => (if p1.1 = 0 then some ((-1 : Int32), p1.2) else fX6_idle_23 o hh (fun h4 => some ((h4.1 o 1), h4)) FU p1.2 a1 (0 : Int32)))))
set_option maxRecDepth 100000 in
set_option maxHeartbeats 4000000 in
theorem ccX6_idle {l : Launch} {sh : Sh} {adr : Nat → Nat} {r : Nat → Nat → Option Nat} {o : Nat} {hh : Nat} (hS : SS sh r hh o) {h : HI} {a1 : Int32} {p : Int32 × HI} (H : fX6_idle o hh h a1 = some p) : CC l yX6_idle cX6_idle 3 (some .int) 4 [.ref o, .int a1] sh adr (mk h r) (fun v τ => v = some (.int p.1) ∧ τ = mk p.2 r) := by
  refine CC.of (by decide) (Nat.le_of_ble_eq_true rfl) 1 [.ref o, .int a1, .retAddr 0] rfl (fun X _ C E hZ => ?_)
  rw [fX6_idle] at H
  refine ww_iload_n C dX6_idle_0 1 rfl rfl ?_
  refine ww_if_lt C dX6_idle_1 19 rfl (fun hc => ?_) (fun hc => ?_)
  · rw [if_pos hc] at H
    refine ww_iconst (v := (-1 : Int32)) C dX6_idle_19 (by decide) ?_
    cases H
    exact ww_iret C E dX6_idle_20 ⟨rfl, rfl⟩
  · rw [if_neg hc] at H
    refine ww_iload_n C dX6_idle_4 1 rfl rfl ?_
    refine ww_sipush (v := (200 : Int32)) C dX6_idle_5 (by decide) ?_
    refine ww_icmp_gt C dX6_idle_8 19 rfl (fun hc => ?_) (fun hc => ?_)
    · rw [if_pos hc] at H
      refine ww_iconst (v := (-1 : Int32)) C dX6_idle_19 (by decide) ?_
      cases H
      exact ww_iret C E dX6_idle_20 ⟨rfl, rfl⟩
    · rw [if_neg hc] at H
      refine ww_aload_n C dX6_idle_11 0 rfl rfl ?_
      refine ww_iload_n C dX6_idle_12 1 rfl rfl ?_
      obtain ⟨p1, hc1, H⟩ := bd_of H
      refine ww_callV C hZ dX6_idle_13 cw_X6_88 (ccX6_hasTime hS hc1) hS.1 ⟨by decide, rfl⟩ (by decide) rfl rfl (Nat.le_of_ble_eq_true rfl) ⟨Nat.zero_le _, Nat.zero_le _⟩ (fun v τ hp => ?_)
      obtain ⟨rfl, rfl⟩ := hp
      change WW X _ 16 [.ref o, .int a1, .retAddr 0] [.int p1.1] _
      refine ww_if_ne C dX6_idle_16 21 rfl (fun hc => ?_) (fun hc => ?_)
      · rw [if_neg hc] at H
        refine ww_iconst (v := (0 : Int32)) C dX6_idle_21 (by decide) ?_
        refine ww_istore_n C dX6_idle_22 2 rfl (by decide) rfl [.ref o, .int a1, .int (0 : Int32)] rfl ?_
        refine cX6_idle_23 hS C hZ E (fun h4 H => ?_) FU p1.2 a1 (0 : Int32) H
        refine ww_aload_n C dX6_idle_39 0 rfl rfl ?_
        refine wk_getI C dX6_idle_40 fl_X6_45 hS.1 rfl ?_
        cases H
        exact ww_iret C E dX6_idle_43 ⟨rfl, rfl⟩
      · rw [if_pos hc] at H
        refine ww_iconst (v := (-1 : Int32)) C dX6_idle_19 (by decide) ?_
        cases H
        exact ww_iret C E dX6_idle_20 ⟨rfl, rfl⟩
def fX6_setBroken_78 (o : Nat) (hh : Nat) (k : HI → Int32 → Option (Int32 × HI)) (kb : HI → Int32 → Int32 → Int32 → Option (Int32 × HI)) (h : HI) (v1 : Int32) (v3 : Int32) (v4 : Int32) : Option (Int32 × HI) := kb h v1 v3 (v4 + (1 : Int32))
set_option maxRecDepth 100000 in
set_option maxHeartbeats 4000000 in
theorem cX6_setBroken_78 {X : CT} {sh : Sh} {adr : Nat → Nat} {r : Nat → Nat → Option Nat} {o : Nat} {hh : Nat} {p : Int32 × HI} (hS : SS sh r hh o) (C : CX X yX6_setBroken.cls cX6_setBroken 5 1) (hZ : SZX X adr) (E : RX X (some .int) sh adr (fun v τ => v = some (.int p.1) ∧ τ = mk p.2 r)) {k : HI → Int32 → Option (Int32 × HI)} {kb : HI → Int32 → Int32 → Int32 → Option (Int32 × HI)} (hk : ∀ (h : HI) (v3 : Int32), k h v3 = some p → WW X (sh, adr, 0, 0) 84 [.ref o, .retAddr 0, .retAddr 0, .int v3, .retAddr 0] [] (mk h r)) (hb : ∀ (h : HI) (v1 : Int32) (v3 : Int32) (v4 : Int32), kb h v1 v3 v4 = some p → WW X (sh, adr, 0, 0) 42 [.ref o, .int v1, .retAddr 0, .int v3, .int v4] [] (mk h r)) {h : HI} {v1 : Int32} {v3 : Int32} {v4 : Int32} (H : fX6_setBroken_78 o hh k kb h v1 v3 v4 = some p) : WW X (sh, adr, 0, 0) 78 [.ref o, .int v1, .retAddr 0, .int v3, .int v4] [] (mk h r) := by
  rw [fX6_setBroken_78] at H
  refine ww_iinc (v := (v4 + (1 : Int32))) C dX6_setBroken_78 rfl rfl (by decide) rfl [.ref o, .int v1, .retAddr 0, .int v3, .int (v4 + (1 : Int32))] rfl ?_
  refine ww_goto C dX6_setBroken_81 42 rfl ?_
  exact hb h v1 v3 (v4 + (1 : Int32)) H
def fX6_setBroken_42 (o : Nat) (hh : Nat) (k : HI → Int32 → Option (Int32 × HI)) : Nat → HI → Int32 → Int32 → Int32 → Option (Int32 × HI)
  | 0, _, _, _, _ => none
  | n + 1, h, v1, v3, v4 => (if (h.1 (hh + 3) 1) ≤ v4 then k h v3 else (if inB v4 6 then (if (h.1 (o + 1) (v4.toNatClampNeg)) = v1 then ((fX6_place o h v4 (-1 : Int32)).bind fun h3 => fX6_setBroken_78 o hh (k) (fX6_setBroken_42 o hh k n) h3 v1 (v3 + (1 : Int32)) v4) else fX6_setBroken_78 o hh (k) (fX6_setBroken_42 o hh k n) h v1 v3 v4) else none))
set_option maxRecDepth 100000 in
set_option maxHeartbeats 4000000 in
theorem cX6_setBroken_42 {X : CT} {sh : Sh} {adr : Nat → Nat} {r : Nat → Nat → Option Nat} {o : Nat} {hh : Nat} {p : Int32 × HI} (hS : SS sh r hh o) (C : CX X yX6_setBroken.cls cX6_setBroken 5 1) (hZ : SZX X adr) (E : RX X (some .int) sh adr (fun v τ => v = some (.int p.1) ∧ τ = mk p.2 r)) {k : HI → Int32 → Option (Int32 × HI)} (hk : ∀ (h : HI) (v3 : Int32), k h v3 = some p → WW X (sh, adr, 0, 0) 84 [.ref o, .retAddr 0, .retAddr 0, .int v3, .retAddr 0] [] (mk h r)) : ∀ (n : Nat) (h : HI) (v1 : Int32) (v3 : Int32) (v4 : Int32), fX6_setBroken_42 o hh k n h v1 v3 v4 = some p → WW X (sh, adr, 0, 0) 42 [.ref o, .int v1, .retAddr 0, .int v3, .int v4] [] (mk h r) := by
  intro n
  induction n with
  | zero =>
    intro h v1 v3 v4 H
    rw [fX6_setBroken_42] at H
    cases H
  | succ n ih =>
    intro h v1 v3 v4 H
    rw [fX6_setBroken_42] at H
    refine ww_iload C dX6_setBroken_42 rfl ?_
    refine ww_aload_n C dX6_setBroken_44 0 rfl rfl ?_
    refine wk_getA C dX6_setBroken_45 fl_X6_41 hS.1 rfl (tX6_hall hS).1 ?_
    refine wk_getA C dX6_setBroken_48 fl_X6_78 (tX6_hall hS).2.1 rfl (tX1_men (tX6_hall hS).2).1 ?_
    refine wk_getI C dX6_setBroken_51 fl_X6_167 (tX1_men (tX6_hall hS).2).2.1 rfl ?_
    refine ww_icmp_ge C dX6_setBroken_54 84 rfl (fun hc => ?_) (fun hc => ?_)
    · rw [if_pos hc] at H
      exact ww_drop [.ref o, .retAddr 0, .retAddr 0, .int v3, .retAddr 0] (sl_e (sl_d (sl_e (sl_e (sl_d sl_n))))) (hk h v3 H)
    · rw [if_neg hc] at H
      refine ww_aload_n C dX6_setBroken_57 0 rfl rfl ?_
      refine wk_getR C dX6_setBroken_58 fl_X6_9 hS.1 rfl (tX6_where hS).1 ?_
      refine ww_iload C dX6_setBroken_61 rfl ?_
      obtain ⟨hg, H⟩ := gd_of H
      refine wk_iaload C dX6_setBroken_63 (tX6_where hS).2.1 (vp_of hg (tX6_where hS).2.2) (v4.toNatClampNeg) rfl ?_
      refine ww_iload_n C dX6_setBroken_64 1 rfl rfl ?_
      refine ww_icmp_ne C dX6_setBroken_65 78 rfl (fun hc => ?_) (fun hc => ?_)
      · rw [if_neg hc] at H
        exact cX6_setBroken_78 hS C hZ E hk ih H
      · rw [if_pos hc] at H
        refine ww_aload_n C dX6_setBroken_68 0 rfl rfl ?_
        refine ww_iload C dX6_setBroken_69 rfl ?_
        refine ww_iconst (v := (-1 : Int32)) C dX6_setBroken_71 (by decide) ?_
        obtain ⟨h3, hc1, H⟩ := bd_of H
        refine ww_callV C hZ dX6_setBroken_72 cw_X6_91 (ccX6_place hS hc1) hS.1 ⟨by decide, rfl⟩ (by decide) rfl rfl (Nat.le_of_ble_eq_true rfl) ⟨Nat.zero_le _, Nat.zero_le _⟩ (fun v τ hp => ?_)
        obtain ⟨rfl, rfl⟩ := hp
        change WW X _ 75 [.ref o, .int v1, .retAddr 0, .int v3, .int v4] [] _
        refine ww_iinc (v := (v3 + (1 : Int32))) C dX6_setBroken_75 rfl rfl (by decide) rfl [.ref o, .int v1, .retAddr 0, .int (v3 + (1 : Int32)), .int v4] rfl ?_
        exact cX6_setBroken_78 hS C hZ E hk ih H
def fX6_setBroken (o : Nat) (hh : Nat) (h : HI) (a1 : Int32) (a2 : Int32) : Option (Int32 × HI) := ((fX2_has (hh + 1) h a1).bind fun p1 => (if p1.1 = 0 then some ((-1 : Int32), p1.2) else ((fX6_isBroken o p1.2 a1).bind fun p2 => (if p2.1 = a2 then some ((-1 : Int32), p2.2) else fX6_setBroken_42 o hh (fun h5 v3 => some (v3, h5)) FU (uI p2.2 o 4 ((p2.2.1 o 4) ^^^ ((1 : Int32) <<< (a1 &&& 31)))) a1 (0 : Int32) (0 : Int32)))))
set_option maxRecDepth 100000 in
set_option maxHeartbeats 4000000 in
theorem ccX6_setBroken {l : Launch} {sh : Sh} {adr : Nat → Nat} {r : Nat → Nat → Option Nat} {o : Nat} {hh : Nat} (hS : SS sh r hh o) {h : HI} {a1 : Int32} {a2 : Int32} {p : Int32 × HI} (H : fX6_setBroken o hh h a1 a2 = some p) : CC l yX6_setBroken cX6_setBroken 5 (some .int) 1 [.ref o, .int a1, .int a2] sh adr (mk h r) (fun v τ => v = some (.int p.1) ∧ τ = mk p.2 r) := by
  refine CC.of (by decide) (Nat.le_of_ble_eq_true rfl) 2 [.ref o, .int a1, .int a2, .retAddr 0, .retAddr 0] rfl (fun X _ C E hZ => ?_)
  rw [fX6_setBroken] at H
  refine ww_aload_n C dX6_setBroken_0 0 rfl rfl ?_
  refine wk_getA C dX6_setBroken_1 fl_X6_41 hS.1 rfl (tX6_hall hS).1 ?_
  refine wk_getA C dX6_setBroken_4 fl_X6_192 (tX6_hall hS).2.1 rfl (tX1_chairs (tX6_hall hS).2).1 ?_
  refine ww_iload_n C dX6_setBroken_7 1 rfl rfl ?_
  obtain ⟨p1, hc1, H⟩ := bd_of H
  refine ww_callV C hZ dX6_setBroken_8 cw_X6_82 (ccX2_has (tX1_chairs (tX6_hall hS).2).2 hc1) (tX1_chairs (tX6_hall hS).2).2.1 ⟨by decide, rfl⟩ (by decide) rfl rfl (Nat.le_of_ble_eq_true rfl) ⟨Nat.zero_le _, Nat.zero_le _⟩ (fun v τ hp => ?_)
  obtain ⟨rfl, rfl⟩ := hp
  change WW X _ 11 [.ref o, .int a1, .int a2, .retAddr 0, .retAddr 0] [.int p1.1] _
  refine ww_if_eq C dX6_setBroken_11 23 rfl (fun hc => ?_) (fun hc => ?_)
  · rw [if_pos hc] at H
    refine ww_iconst (v := (-1 : Int32)) C dX6_setBroken_23 (by decide) ?_
    cases H
    exact ww_iret C E dX6_setBroken_24 ⟨rfl, rfl⟩
  · rw [if_neg hc] at H
    refine ww_aload_n C dX6_setBroken_14 0 rfl rfl ?_
    refine ww_iload_n C dX6_setBroken_15 1 rfl rfl ?_
    obtain ⟨p2, hc1, H⟩ := bd_of H
    refine ww_callV C hZ dX6_setBroken_16 cw_X6_195 (ccX6_isBroken hS hc1) hS.1 ⟨by decide, rfl⟩ (by decide) rfl rfl (Nat.le_of_ble_eq_true rfl) ⟨Nat.zero_le _, Nat.zero_le _⟩ (fun v τ hp => ?_)
    obtain ⟨rfl, rfl⟩ := hp
    change WW X _ 19 [.ref o, .int a1, .int a2, .retAddr 0, .retAddr 0] [.int p2.1] _
    refine ww_iload_n C dX6_setBroken_19 2 rfl rfl ?_
    refine ww_icmp_ne C dX6_setBroken_20 25 rfl (fun hc => ?_) (fun hc => ?_)
    · rw [if_neg hc] at H
      refine ww_aload_n C dX6_setBroken_25 0 rfl rfl ?_
      refine ww_dup C dX6_setBroken_26 rfl ?_
      refine wk_getI C dX6_setBroken_27 fl_X6_55 hS.1 rfl ?_
      refine ww_iconst (v := (1 : Int32)) C dX6_setBroken_30 (by decide) ?_
      refine ww_iload_n C dX6_setBroken_31 1 rfl rfl ?_
      refine ww_ishl C dX6_setBroken_32 ?_
      refine ww_ixor C dX6_setBroken_33 ?_
      refine wk_putI C dX6_setBroken_34 fl_X6_55 hS.1 rfl rfl ?_
      refine ww_iconst (v := (0 : Int32)) C dX6_setBroken_37 (by decide) ?_
      refine ww_istore_n C dX6_setBroken_38 3 rfl (by decide) rfl [.ref o, .int a1, .int a2, .int (0 : Int32), .retAddr 0] rfl ?_
      refine ww_iconst (v := (0 : Int32)) C dX6_setBroken_39 (by decide) ?_
      refine ww_istore C dX6_setBroken_40 (by decide) rfl [.ref o, .int a1, .int a2, .int (0 : Int32), .int (0 : Int32)] rfl ?_
      refine ww_drop [.ref o, .int a1, .retAddr 0, .int (0 : Int32), .int (0 : Int32)] (sl_e (sl_e (sl_d (sl_e (sl_e sl_n))))) (cX6_setBroken_42 hS C hZ E (fun h5 v3 H => ?_) FU (uI p2.2 o 4 ((p2.2.1 o 4) ^^^ ((1 : Int32) <<< (a1 &&& 31)))) a1 (0 : Int32) (0 : Int32) H)
      refine ww_iload_n C dX6_setBroken_84 3 rfl rfl ?_
      cases H
      exact ww_iret C E dX6_setBroken_85 ⟨rfl, rfl⟩
    · rw [if_pos hc] at H
      refine ww_iconst (v := (-1 : Int32)) C dX6_setBroken_23 (by decide) ?_
      cases H
      exact ww_iret C E dX6_setBroken_24 ⟨rfl, rfl⟩
def fX6_findStool (o : Nat) (hh : Nat) (h : HI) (a1 : Int32) : Option (Int32 × HI) := ((fX1_isStool hh h a1).bind fun p1 => (if p1.1 = 0 then some ((0 : Int32), p1.2) else ((fX6_isFound o p1.2 a1).bind fun p2 => (if p2.1 = 0 then some ((1 : Int32), (uI p2.2 o 5 ((p2.2.1 o 5) ||| ((1 : Int32) <<< (a1 &&& 31))))) else some ((0 : Int32), p2.2)))))
set_option maxRecDepth 100000 in
set_option maxHeartbeats 4000000 in
theorem ccX6_findStool {l : Launch} {sh : Sh} {adr : Nat → Nat} {r : Nat → Nat → Option Nat} {o : Nat} {hh : Nat} (hS : SS sh r hh o) {h : HI} {a1 : Int32} {p : Int32 × HI} (H : fX6_findStool o hh h a1 = some p) : CC l yX6_findStool cX6_findStool 2 (some .boolean) 2 [.ref o, .int a1] sh adr (mk h r) (fun v τ => v = some (.int p.1) ∧ τ = mk p.2 r) := by
  refine CC.of (by decide) (Nat.le_of_ble_eq_true rfl) 0 [.ref o, .int a1] rfl (fun X _ C E hZ => ?_)
  rw [fX6_findStool] at H
  refine ww_aload_n C dX6_findStool_0 0 rfl rfl ?_
  refine wk_getA C dX6_findStool_1 fl_X6_41 hS.1 rfl (tX6_hall hS).1 ?_
  refine ww_iload_n C dX6_findStool_4 1 rfl rfl ?_
  obtain ⟨p1, hc1, H⟩ := bd_of H
  refine ww_callV C hZ dX6_findStool_5 cw_X6_198 (ccX1_isStool (tX6_hall hS).2 hc1) (tX6_hall hS).2.1 ⟨by decide, rfl⟩ (by decide) rfl rfl (Nat.le_of_ble_eq_true rfl) ⟨Nat.zero_le _, Nat.zero_le _⟩ (fun v τ hp => ?_)
  obtain ⟨rfl, rfl⟩ := hp
  change WW X _ 8 [.ref o, .int a1] [.int p1.1] _
  refine ww_if_eq C dX6_findStool_8 19 rfl (fun hc => ?_) (fun hc => ?_)
  · rw [if_pos hc] at H
    refine ww_iconst (v := (0 : Int32)) C dX6_findStool_19 (by decide) ?_
    cases H
    exact ww_zret C E dX6_findStool_20 (Or.inl rfl) ⟨rfl, rfl⟩
  · rw [if_neg hc] at H
    refine ww_aload_n C dX6_findStool_11 0 rfl rfl ?_
    refine ww_iload_n C dX6_findStool_12 1 rfl rfl ?_
    obtain ⟨p2, hc1, H⟩ := bd_of H
    refine ww_callV C hZ dX6_findStool_13 cw_X6_201 (ccX6_isFound hS hc1) hS.1 ⟨by decide, rfl⟩ (by decide) rfl rfl (Nat.le_of_ble_eq_true rfl) ⟨Nat.zero_le _, Nat.zero_le _⟩ (fun v τ hp => ?_)
    obtain ⟨rfl, rfl⟩ := hp
    change WW X _ 16 [.ref o, .int a1] [.int p2.1] _
    refine ww_if_eq C dX6_findStool_16 21 rfl (fun hc => ?_) (fun hc => ?_)
    · rw [if_pos hc] at H
      refine ww_aload_n C dX6_findStool_21 0 rfl rfl ?_
      refine ww_dup C dX6_findStool_22 rfl ?_
      refine wk_getI C dX6_findStool_23 fl_X6_58 hS.1 rfl ?_
      refine ww_iconst (v := (1 : Int32)) C dX6_findStool_26 (by decide) ?_
      refine ww_iload_n C dX6_findStool_27 1 rfl rfl ?_
      refine ww_ishl C dX6_findStool_28 ?_
      refine ww_ior C dX6_findStool_29 ?_
      refine wk_putI C dX6_findStool_30 fl_X6_58 hS.1 rfl rfl ?_
      refine ww_iconst (v := (1 : Int32)) C dX6_findStool_33 (by decide) ?_
      cases H
      exact ww_zret C E dX6_findStool_34 (Or.inr rfl) ⟨rfl, rfl⟩
    · rw [if_neg hc] at H
      refine ww_iconst (v := (0 : Int32)) C dX6_findStool_19 (by decide) ?_
      cases H
      exact ww_zret C E dX6_findStool_20 (Or.inl rfl) ⟨rfl, rfl⟩
def fX6_posture (o : Nat) (h : HI) (a1 : Int32) : Option (Int32 × HI) := (if inB a1 6 then (if (h.1 (o + 1) (a1.toNatClampNeg)) = (-2 : Int32) then some ((2 : Int32), h) else (if inB a1 6 then (if (h.1 (o + 1) (a1.toNatClampNeg)) = (-1 : Int32) then some ((0 : Int32), h) else some ((1 : Int32), h)) else none)) else none)
set_option maxRecDepth 100000 in
set_option maxHeartbeats 4000000 in
theorem ccX6_posture {l : Launch} {sh : Sh} {adr : Nat → Nat} {r : Nat → Nat → Option Nat} {o : Nat} {hh : Nat} (hS : SS sh r hh o) {h : HI} {a1 : Int32} {p : Int32 × HI} (H : fX6_posture o h a1 = some p) : CC l yX6_posture cX6_posture 2 (some .int) 0 [.ref o, .int a1] sh adr (mk h r) (fun v τ => v = some (.int p.1) ∧ τ = mk p.2 r) := by
  refine CC.of (by decide) (Nat.le_of_ble_eq_true rfl) 0 [.ref o, .int a1] rfl (fun X _ C E hZ => ?_)
  rw [fX6_posture] at H
  refine ww_aload_n C dX6_posture_0 0 rfl rfl ?_
  refine wk_getR C dX6_posture_1 fl_X6_9 hS.1 rfl (tX6_where hS).1 ?_
  refine ww_iload_n C dX6_posture_4 1 rfl rfl ?_
  obtain ⟨hg, H⟩ := gd_of H
  refine wk_iaload C dX6_posture_5 (tX6_where hS).2.1 (vp_of hg (tX6_where hS).2.2) (a1.toNatClampNeg) rfl ?_
  refine ww_bipush (v := (-2 : Int32)) C dX6_posture_6 (by decide) ?_
  refine ww_icmp_ne C dX6_posture_8 15 rfl (fun hc => ?_) (fun hc => ?_)
  · rw [if_neg hc] at H
    refine ww_aload_n C dX6_posture_15 0 rfl rfl ?_
    refine wk_getR C dX6_posture_16 fl_X6_9 hS.1 rfl (tX6_where hS).1 ?_
    refine ww_iload_n C dX6_posture_19 1 rfl rfl ?_
    obtain ⟨hg, H⟩ := gd_of H
    refine wk_iaload C dX6_posture_20 (tX6_where hS).2.1 (vp_of hg (tX6_where hS).2.2) (a1.toNatClampNeg) rfl ?_
    refine ww_iconst (v := (-1 : Int32)) C dX6_posture_21 (by decide) ?_
    refine ww_icmp_ne C dX6_posture_22 29 rfl (fun hc => ?_) (fun hc => ?_)
    · rw [if_neg hc] at H
      refine ww_iconst (v := (1 : Int32)) C dX6_posture_29 (by decide) ?_
      cases H
      exact ww_iret C E dX6_posture_30 ⟨rfl, rfl⟩
    · rw [if_pos hc] at H
      refine ww_iconst (v := (0 : Int32)) C dX6_posture_25 (by decide) ?_
      refine ww_goto C dX6_posture_26 30 rfl ?_
      cases H
      exact ww_iret C E dX6_posture_30 ⟨rfl, rfl⟩
  · rw [if_pos hc] at H
    refine ww_iconst (v := (2 : Int32)) C dX6_posture_11 (by decide) ?_
    refine ww_goto C dX6_posture_12 30 rfl ?_
    cases H
    exact ww_iret C E dX6_posture_30 ⟨rfl, rfl⟩
def fX6_seats_46 (o : Nat) (hh : Nat) (k : HI → Int32 → Option (Int32 × HI)) (kb : HI → Int32 → Int32 → Option (Int32 × HI)) (h : HI) (v1 : Int32) (v2 : Int32) : Option (Int32 × HI) := kb h v1 (v2 + (1 : Int32))
set_option maxRecDepth 100000 in
set_option maxHeartbeats 4000000 in
theorem cX6_seats_46 {X : CT} {sh : Sh} {adr : Nat → Nat} {r : Nat → Nat → Option Nat} {o : Nat} {hh : Nat} {p : Int32 × HI} (hS : SS sh r hh o) (C : CX X yX6_seats.cls cX6_seats 3 1) (hZ : SZX X adr) (E : RX X (some .int) sh adr (fun v τ => v = some (.int p.1) ∧ τ = mk p.2 r)) {k : HI → Int32 → Option (Int32 × HI)} {kb : HI → Int32 → Int32 → Option (Int32 × HI)} (hk : ∀ (h : HI) (v1 : Int32), k h v1 = some p → WW X (sh, adr, 0, 0) 52 [.ref o, .int v1, .retAddr 0] [] (mk h r)) (hb : ∀ (h : HI) (v1 : Int32) (v2 : Int32), kb h v1 v2 = some p → WW X (sh, adr, 0, 0) 4 [.ref o, .int v1, .int v2] [] (mk h r)) {h : HI} {v1 : Int32} {v2 : Int32} (H : fX6_seats_46 o hh k kb h v1 v2 = some p) : WW X (sh, adr, 0, 0) 46 [.ref o, .int v1, .int v2] [] (mk h r) := by
  rw [fX6_seats_46] at H
  refine ww_iinc (v := (v2 + (1 : Int32))) C dX6_seats_46 rfl rfl (by decide) rfl [.ref o, .int v1, .int (v2 + (1 : Int32))] rfl ?_
  refine ww_goto C dX6_seats_49 4 rfl ?_
  exact hb h v1 (v2 + (1 : Int32)) H
def fX6_seats_4 (o : Nat) (hh : Nat) (k : HI → Int32 → Option (Int32 × HI)) : Nat → HI → Int32 → Int32 → Option (Int32 × HI)
  | 0, _, _, _ => none
  | n + 1, h, v1, v2 => (if (h.1 (hh + 1) 1) ≤ v2 then k h v1 else ((fX6_isBroken o h v2).bind fun p1 => (if p1.1 = 0 then ((fX6_isFound o p1.2 v2).bind fun p2 => (if p2.1 = 0 then (if inB v2 6 then fX6_seats_46 o hh (k) (fX6_seats_4 o hh k n) p2.2 (v1 + (p2.2.1 (hh + 7) (v2.toNatClampNeg))) v2 else none) else fX6_seats_46 o hh (k) (fX6_seats_4 o hh k n) p2.2 v1 v2)) else fX6_seats_46 o hh (k) (fX6_seats_4 o hh k n) p1.2 v1 v2)))
set_option maxRecDepth 100000 in
set_option maxHeartbeats 4000000 in
theorem cX6_seats_4 {X : CT} {sh : Sh} {adr : Nat → Nat} {r : Nat → Nat → Option Nat} {o : Nat} {hh : Nat} {p : Int32 × HI} (hS : SS sh r hh o) (C : CX X yX6_seats.cls cX6_seats 3 1) (hZ : SZX X adr) (E : RX X (some .int) sh adr (fun v τ => v = some (.int p.1) ∧ τ = mk p.2 r)) {k : HI → Int32 → Option (Int32 × HI)} (hk : ∀ (h : HI) (v1 : Int32), k h v1 = some p → WW X (sh, adr, 0, 0) 52 [.ref o, .int v1, .retAddr 0] [] (mk h r)) : ∀ (n : Nat) (h : HI) (v1 : Int32) (v2 : Int32), fX6_seats_4 o hh k n h v1 v2 = some p → WW X (sh, adr, 0, 0) 4 [.ref o, .int v1, .int v2] [] (mk h r) := by
  intro n
  induction n with
  | zero =>
    intro h v1 v2 H
    rw [fX6_seats_4] at H
    cases H
  | succ n ih =>
    intro h v1 v2 H
    rw [fX6_seats_4] at H
    refine ww_iload_n C dX6_seats_4 2 rfl rfl ?_
    refine ww_aload_n C dX6_seats_5 0 rfl rfl ?_
    refine wk_getA C dX6_seats_6 fl_X6_41 hS.1 rfl (tX6_hall hS).1 ?_
    refine wk_getA C dX6_seats_9 fl_X6_192 (tX6_hall hS).2.1 rfl (tX1_chairs (tX6_hall hS).2).1 ?_
    refine wk_getI C dX6_seats_12 fl_X6_167 (tX1_chairs (tX6_hall hS).2).2.1 rfl ?_
    refine ww_icmp_ge C dX6_seats_15 52 rfl (fun hc => ?_) (fun hc => ?_)
    · rw [if_pos hc] at H
      exact ww_drop [.ref o, .int v1, .retAddr 0] (sl_e (sl_e (sl_d sl_n))) (hk h v1 H)
    · rw [if_neg hc] at H
      refine ww_aload_n C dX6_seats_18 0 rfl rfl ?_
      refine ww_iload_n C dX6_seats_19 2 rfl rfl ?_
      obtain ⟨p1, hc1, H⟩ := bd_of H
      refine ww_callV C hZ dX6_seats_20 cw_X6_195 (ccX6_isBroken hS hc1) hS.1 ⟨by decide, rfl⟩ (by decide) rfl rfl (Nat.le_of_ble_eq_true rfl) ⟨Nat.zero_le _, Nat.zero_le _⟩ (fun v τ hp => ?_)
      obtain ⟨rfl, rfl⟩ := hp
      change WW X _ 23 [.ref o, .int v1, .int v2] [.int p1.1] _
      refine ww_if_ne C dX6_seats_23 46 rfl (fun hc => ?_) (fun hc => ?_)
      · rw [if_neg hc] at H
        exact cX6_seats_46 hS C hZ E hk ih H
      · rw [if_pos hc] at H
        refine ww_aload_n C dX6_seats_26 0 rfl rfl ?_
        refine ww_iload_n C dX6_seats_27 2 rfl rfl ?_
        obtain ⟨p2, hc1, H⟩ := bd_of H
        refine ww_callV C hZ dX6_seats_28 cw_X6_201 (ccX6_isFound hS hc1) hS.1 ⟨by decide, rfl⟩ (by decide) rfl rfl (Nat.le_of_ble_eq_true rfl) ⟨Nat.zero_le _, Nat.zero_le _⟩ (fun v τ hp => ?_)
        obtain ⟨rfl, rfl⟩ := hp
        change WW X _ 31 [.ref o, .int v1, .int v2] [.int p2.1] _
        refine ww_if_ne C dX6_seats_31 46 rfl (fun hc => ?_) (fun hc => ?_)
        · rw [if_neg hc] at H
          exact cX6_seats_46 hS C hZ E hk ih H
        · rw [if_pos hc] at H
          refine ww_iload_n C dX6_seats_34 1 rfl rfl ?_
          refine ww_aload_n C dX6_seats_35 0 rfl rfl ?_
          refine wk_getA C dX6_seats_36 fl_X6_41 hS.1 rfl (tX6_hall hS).1 ?_
          refine wk_getR C dX6_seats_39 fl_X6_210 (tX6_hall hS).2.1 rfl (tX1_holds (tX6_hall hS).2).1 ?_
          refine ww_iload_n C dX6_seats_42 2 rfl rfl ?_
          obtain ⟨hg, H⟩ := gd_of H
          refine wk_iaload C dX6_seats_43 (tX1_holds (tX6_hall hS).2).2.1 (vp_of hg (tX1_holds (tX6_hall hS).2).2.2) (v2.toNatClampNeg) rfl ?_
          refine ww_iadd C dX6_seats_44 ?_
          refine ww_istore_n C dX6_seats_45 1 rfl (by decide) rfl [.ref o, .int (v1 + (p2.2.1 (hh + 7) (v2.toNatClampNeg))), .int v2] rfl ?_
          exact cX6_seats_46 hS C hZ E hk ih H
def fX6_seats (o : Nat) (hh : Nat) (h : HI) : Option (Int32 × HI) := fX6_seats_4 o hh (fun h4 v1 => some (v1, h4)) FU h (0 : Int32) (0 : Int32)
set_option maxRecDepth 100000 in
set_option maxHeartbeats 4000000 in
theorem ccX6_seats {l : Launch} {sh : Sh} {adr : Nat → Nat} {r : Nat → Nat → Option Nat} {o : Nat} {hh : Nat} (hS : SS sh r hh o) {h : HI}  {p : Int32 × HI} (H : fX6_seats o hh h = some p) : CC l yX6_seats cX6_seats 3 (some .int) 1 [.ref o] sh adr (mk h r) (fun v τ => v = some (.int p.1) ∧ τ = mk p.2 r) := by
  refine CC.of (by decide) (Nat.le_of_ble_eq_true rfl) 2 [.ref o, .retAddr 0, .retAddr 0] rfl (fun X _ C E hZ => ?_)
  rw [fX6_seats] at H
  refine ww_iconst (v := (0 : Int32)) C dX6_seats_0 (by decide) ?_
  refine ww_istore_n C dX6_seats_1 1 rfl (by decide) rfl [.ref o, .int (0 : Int32), .retAddr 0] rfl ?_
  refine ww_iconst (v := (0 : Int32)) C dX6_seats_2 (by decide) ?_
  refine ww_istore_n C dX6_seats_3 2 rfl (by decide) rfl [.ref o, .int (0 : Int32), .int (0 : Int32)] rfl ?_
  refine cX6_seats_4 hS C hZ E (fun h4 v1 H => ?_) FU h (0 : Int32) (0 : Int32) H
  refine ww_iload_n C dX6_seats_52 1 rfl rfl ?_
  cases H
  exact ww_iret C E dX6_seats_53 ⟨rfl, rfl⟩
def fX6_dealState (o : Nat) (hh : Nat) (h : HI) (a1 : Int32) : Option (Int32 × HI) := (if a1 < 0 then some ((-1 : Int32), h) else (if (h.1 hh 17) ≤ a1 then some ((-1 : Int32), h) else (if a1 < (4 : Int32) then (if inB a1 4 then (if (h.1 (o + 6) (a1.toNatClampNeg)) = 0 then ((fX6_dueDeals o hh h).bind fun p1 => some ((((p1.1 >>> (a1 &&& 31)) &&& (1 : Int32)) * (1 : Int32)), p1.2)) else (if inB a1 4 then some ((h.1 (o + 6) (a1.toNatClampNeg)), h) else none)) else none) else some ((-1 : Int32), h))))
set_option maxRecDepth 100000 in
set_option maxHeartbeats 4000000 in
theorem ccX6_dealState {l : Launch} {sh : Sh} {adr : Nat → Nat} {r : Nat → Nat → Option Nat} {o : Nat} {hh : Nat} (hS : SS sh r hh o) {h : HI} {a1 : Int32} {p : Int32 × HI} (H : fX6_dealState o hh h a1 = some p) : CC l yX6_dealState cX6_dealState 2 (some .int) 1 [.ref o, .int a1] sh adr (mk h r) (fun v τ => v = some (.int p.1) ∧ τ = mk p.2 r) := by
  refine CC.of (by decide) (Nat.le_of_ble_eq_true rfl) 0 [.ref o, .int a1] rfl (fun X _ C E hZ => ?_)
  rw [fX6_dealState] at H
  refine ww_iload_n C dX6_dealState_0 1 rfl rfl ?_
  refine ww_if_lt C dX6_dealState_1 20 rfl (fun hc => ?_) (fun hc => ?_)
  · rw [if_pos hc] at H
    refine ww_iconst (v := (-1 : Int32)) C dX6_dealState_20 (by decide) ?_
    cases H
    exact ww_iret C E dX6_dealState_21 ⟨rfl, rfl⟩
  · rw [if_neg hc] at H
    refine ww_iload_n C dX6_dealState_4 1 rfl rfl ?_
    refine ww_aload_n C dX6_dealState_5 0 rfl rfl ?_
    refine wk_getA C dX6_dealState_6 fl_X6_41 hS.1 rfl (tX6_hall hS).1 ?_
    refine wk_getI C dX6_dealState_9 fl_X6_155 (tX6_hall hS).2.1 rfl ?_
    refine ww_icmp_ge C dX6_dealState_12 20 rfl (fun hc => ?_) (fun hc => ?_)
    · rw [if_pos hc] at H
      refine ww_iconst (v := (-1 : Int32)) C dX6_dealState_20 (by decide) ?_
      cases H
      exact ww_iret C E dX6_dealState_21 ⟨rfl, rfl⟩
    · rw [if_neg hc] at H
      refine ww_iload_n C dX6_dealState_15 1 rfl rfl ?_
      refine ww_iconst (v := (4 : Int32)) C dX6_dealState_16 (by decide) ?_
      refine ww_icmp_lt C dX6_dealState_17 22 rfl (fun hc => ?_) (fun hc => ?_)
      · rw [if_pos hc] at H
        refine ww_aload_n C dX6_dealState_22 0 rfl rfl ?_
        refine wk_getR C dX6_dealState_23 fl_X6_27 hS.1 rfl (tX6_dealEnd hS).1 ?_
        refine ww_iload_n C dX6_dealState_26 1 rfl rfl ?_
        obtain ⟨hg, H⟩ := gd_of H
        refine wk_iaload C dX6_dealState_27 (tX6_dealEnd hS).2.1 (vp_of hg (tX6_dealEnd hS).2.2) (a1.toNatClampNeg) rfl ?_
        refine ww_if_eq C dX6_dealState_28 40 rfl (fun hc => ?_) (fun hc => ?_)
        · rw [if_pos hc] at H
          refine ww_aload_n C dX6_dealState_40 0 rfl rfl ?_
          obtain ⟨p1, hc1, H⟩ := bd_of H
          refine ww_callV C hZ dX6_dealState_41 cw_X6_152 (ccX6_dueDeals hS hc1) hS.1 ⟨by decide, rfl⟩ (by decide) rfl rfl (Nat.le_of_ble_eq_true rfl) ⟨Nat.zero_le _, Nat.zero_le _⟩ (fun v τ hp => ?_)
          obtain ⟨rfl, rfl⟩ := hp
          change WW X _ 44 [.ref o, .int a1] [.int p1.1] _
          refine ww_iload_n C dX6_dealState_44 1 rfl rfl ?_
          refine ww_ishr C dX6_dealState_45 ?_
          refine ww_iconst (v := (1 : Int32)) C dX6_dealState_46 (by decide) ?_
          refine ww_iand C dX6_dealState_47 ?_
          refine ww_iconst (v := (1 : Int32)) C dX6_dealState_48 (by decide) ?_
          refine ww_imul C dX6_dealState_49 ?_
          cases H
          exact ww_iret C E dX6_dealState_50 ⟨rfl, rfl⟩
        · rw [if_neg hc] at H
          refine ww_aload_n C dX6_dealState_31 0 rfl rfl ?_
          refine wk_getR C dX6_dealState_32 fl_X6_27 hS.1 rfl (tX6_dealEnd hS).1 ?_
          refine ww_iload_n C dX6_dealState_35 1 rfl rfl ?_
          obtain ⟨hg, H⟩ := gd_of H
          refine wk_iaload C dX6_dealState_36 (tX6_dealEnd hS).2.1 (vp_of hg (tX6_dealEnd hS).2.2) (a1.toNatClampNeg) rfl ?_
          refine ww_goto C dX6_dealState_37 50 rfl ?_
          cases H
          exact ww_iret C E dX6_dealState_50 ⟨rfl, rfl⟩
      · rw [if_neg hc] at H
        refine ww_iconst (v := (-1 : Int32)) C dX6_dealState_20 (by decide) ?_
        cases H
        exact ww_iret C E dX6_dealState_21 ⟨rfl, rfl⟩
def fX6_floorTime_97 (o : Nat) (hh : Nat) (k : HI → Int32 → Int32 → Option (Int32 × HI)) (kb : HI → Int32 → Int32 → Int32 → Int32 → Option (Int32 × HI)) (h : HI) (v1 : Int32) (v2 : Int32) (v3 : Int32) (v4 : Int32) : Option (Int32 × HI) := kb h v1 v2 v3 (v4 + (1 : Int32))
set_option maxRecDepth 100000 in
set_option maxHeartbeats 4000000 in
theorem cX6_floorTime_97 {X : CT} {sh : Sh} {adr : Nat → Nat} {r : Nat → Nat → Option Nat} {o : Nat} {hh : Nat} {p : Int32 × HI} (hS : SS sh r hh o) (C : CX X yX6_floorTime.cls cX6_floorTime 5 2) (hZ : SZX X adr) (E : RX X (some .int) sh adr (fun v τ => v = some (.int p.1) ∧ τ = mk p.2 r)) {k : HI → Int32 → Int32 → Option (Int32 × HI)} {kb : HI → Int32 → Int32 → Int32 → Int32 → Option (Int32 × HI)} (hk : ∀ (h : HI) (v2 : Int32) (v3 : Int32), k h v2 v3 = some p → WW X (sh, adr, 0, 0) 103 [.ref o, .retAddr 0, .int v2, .int v3, .retAddr 0] [] (mk h r)) (hb : ∀ (h : HI) (v1 : Int32) (v2 : Int32) (v3 : Int32) (v4 : Int32), kb h v1 v2 v3 v4 = some p → WW X (sh, adr, 0, 0) 33 [.ref o, .int v1, .int v2, .int v3, .int v4] [] (mk h r)) {h : HI} {v1 : Int32} {v2 : Int32} {v3 : Int32} {v4 : Int32} (H : fX6_floorTime_97 o hh k kb h v1 v2 v3 v4 = some p) : WW X (sh, adr, 0, 0) 97 [.ref o, .int v1, .int v2, .int v3, .int v4] [] (mk h r) := by
  rw [fX6_floorTime_97] at H
  refine ww_iinc (v := (v4 + (1 : Int32))) C dX6_floorTime_97 rfl rfl (by decide) rfl [.ref o, .int v1, .int v2, .int v3, .int (v4 + (1 : Int32))] rfl ?_
  refine ww_goto C dX6_floorTime_100 33 rfl ?_
  exact hb h v1 v2 v3 (v4 + (1 : Int32)) H
def fX6_floorTime_33 (o : Nat) (hh : Nat) (k : HI → Int32 → Int32 → Option (Int32 × HI)) : Nat → HI → Int32 → Int32 → Int32 → Int32 → Option (Int32 × HI)
  | 0, _, _, _, _, _ => none
  | n + 1, h, v1, v2, v3, v4 => (if (h.1 (hh + 3) 1) ≤ v4 then k h v2 v3 else (if ((v1 >>> (v4 &&& 31)) &&& (1 : Int32)) = 0 then fX6_floorTime_97 o hh (k) (fX6_floorTime_33 o hh k n) h v1 v2 v3 v4 else (if inB v4 6 then (if (h.1 (hh + 8) (v4.toNatClampNeg)) ≤ (15 : Int32) then (if inB v4 6 then (if inB v4 6 then fX6_floorTime_97 o hh (k) (fX6_floorTime_33 o hh k n) h v1 v2 (if v3 < ((h.1 (hh + 8) (v4.toNatClampNeg)) - (h.1 (o + 2) (v4.toNatClampNeg))) then ((h.1 (hh + 8) (v4.toNatClampNeg)) - (h.1 (o + 2) (v4.toNatClampNeg))) else v3) v4 else none) else none) else some ((-1 : Int32), h)) else none)))
set_option maxRecDepth 100000 in
set_option maxHeartbeats 4000000 in
theorem cX6_floorTime_33 {X : CT} {sh : Sh} {adr : Nat → Nat} {r : Nat → Nat → Option Nat} {o : Nat} {hh : Nat} {p : Int32 × HI} (hS : SS sh r hh o) (C : CX X yX6_floorTime.cls cX6_floorTime 5 2) (hZ : SZX X adr) (E : RX X (some .int) sh adr (fun v τ => v = some (.int p.1) ∧ τ = mk p.2 r)) {k : HI → Int32 → Int32 → Option (Int32 × HI)} (hk : ∀ (h : HI) (v2 : Int32) (v3 : Int32), k h v2 v3 = some p → WW X (sh, adr, 0, 0) 103 [.ref o, .retAddr 0, .int v2, .int v3, .retAddr 0] [] (mk h r)) : ∀ (n : Nat) (h : HI) (v1 : Int32) (v2 : Int32) (v3 : Int32) (v4 : Int32), fX6_floorTime_33 o hh k n h v1 v2 v3 v4 = some p → WW X (sh, adr, 0, 0) 33 [.ref o, .int v1, .int v2, .int v3, .int v4] [] (mk h r) := by
  intro n
  induction n with
  | zero =>
    intro h v1 v2 v3 v4 H
    rw [fX6_floorTime_33] at H
    cases H
  | succ n ih =>
    intro h v1 v2 v3 v4 H
    rw [fX6_floorTime_33] at H
    refine ww_iload C dX6_floorTime_33 rfl ?_
    refine ww_aload_n C dX6_floorTime_35 0 rfl rfl ?_
    refine wk_getA C dX6_floorTime_36 fl_X6_41 hS.1 rfl (tX6_hall hS).1 ?_
    refine wk_getA C dX6_floorTime_39 fl_X6_78 (tX6_hall hS).2.1 rfl (tX1_men (tX6_hall hS).2).1 ?_
    refine wk_getI C dX6_floorTime_42 fl_X6_167 (tX1_men (tX6_hall hS).2).2.1 rfl ?_
    refine ww_icmp_ge C dX6_floorTime_45 103 rfl (fun hc => ?_) (fun hc => ?_)
    · rw [if_pos hc] at H
      exact ww_drop [.ref o, .retAddr 0, .int v2, .int v3, .retAddr 0] (sl_e (sl_d (sl_e (sl_e (sl_d sl_n))))) (hk h v2 v3 H)
    · rw [if_neg hc] at H
      refine ww_iload_n C dX6_floorTime_48 1 rfl rfl ?_
      refine ww_iload C dX6_floorTime_49 rfl ?_
      refine ww_ishr C dX6_floorTime_51 ?_
      refine ww_iconst (v := (1 : Int32)) C dX6_floorTime_52 (by decide) ?_
      refine ww_iand C dX6_floorTime_53 ?_
      refine ww_if_eq C dX6_floorTime_54 97 rfl (fun hc => ?_) (fun hc => ?_)
      · rw [if_pos hc] at H
        exact cX6_floorTime_97 hS C hZ E hk ih H
      · rw [if_neg hc] at H
        refine ww_aload_n C dX6_floorTime_57 0 rfl rfl ?_
        refine wk_getA C dX6_floorTime_58 fl_X6_41 hS.1 rfl (tX6_hall hS).1 ?_
        refine wk_getR C dX6_floorTime_61 fl_X6_105 (tX6_hall hS).2.1 rfl (tX1_strong (tX6_hall hS).2).1 ?_
        refine ww_iload C dX6_floorTime_64 rfl ?_
        obtain ⟨hg, H⟩ := gd_of H
        refine wk_iaload C dX6_floorTime_66 (tX1_strong (tX6_hall hS).2).2.1 (vp_of hg (tX1_strong (tX6_hall hS).2).2.2) (v4.toNatClampNeg) rfl ?_
        refine ww_bipush (v := (15 : Int32)) C dX6_floorTime_67 (by decide) ?_
        refine ww_icmp_le C dX6_floorTime_69 74 rfl (fun hc => ?_) (fun hc => ?_)
        · rw [if_pos hc] at H
          refine ww_iload_n C dX6_floorTime_74 3 rfl rfl ?_
          refine ww_aload_n C dX6_floorTime_75 0 rfl rfl ?_
          refine wk_getA C dX6_floorTime_76 fl_X6_41 hS.1 rfl (tX6_hall hS).1 ?_
          refine wk_getR C dX6_floorTime_79 fl_X6_105 (tX6_hall hS).2.1 rfl (tX1_strong (tX6_hall hS).2).1 ?_
          refine ww_iload C dX6_floorTime_82 rfl ?_
          obtain ⟨hg, H⟩ := gd_of H
          refine wk_iaload C dX6_floorTime_84 (tX1_strong (tX6_hall hS).2).2.1 (vp_of hg (tX1_strong (tX6_hall hS).2).2.2) (v4.toNatClampNeg) rfl ?_
          refine ww_aload_n C dX6_floorTime_85 0 rfl rfl ?_
          refine wk_getR C dX6_floorTime_86 fl_X6_15 hS.1 rfl (tX6_tired hS).1 ?_
          refine ww_iload C dX6_floorTime_89 rfl ?_
          obtain ⟨hg, H⟩ := gd_of H
          refine wk_iaload C dX6_floorTime_91 (tX6_tired hS).2.1 (vp_of hg (tX6_tired hS).2.2) (v4.toNatClampNeg) rfl ?_
          refine ww_isub C dX6_floorTime_92 ?_
          refine ww_max C dX6_floorTime_93 mw_X6_189 (by decide) (Nat.le_of_ble_eq_true rfl) ⟨Nat.zero_le _, Nat.zero_le _⟩ ?_
          refine ww_istore_n C dX6_floorTime_96 3 rfl (by decide) rfl [.ref o, .int v1, .int v2, .int (if v3 < ((h.1 (hh + 8) (v4.toNatClampNeg)) - (h.1 (o + 2) (v4.toNatClampNeg))) then ((h.1 (hh + 8) (v4.toNatClampNeg)) - (h.1 (o + 2) (v4.toNatClampNeg))) else v3), .int v4] rfl ?_
          exact cX6_floorTime_97 hS C hZ E hk ih H
        · rw [if_neg hc] at H
          refine ww_iconst (v := (-1 : Int32)) C dX6_floorTime_72 (by decide) ?_
          cases H
          exact ww_iret C E dX6_floorTime_73 ⟨rfl, rfl⟩
def fX6_floorTime (o : Nat) (hh : Nat) (h : HI) (a1 : Int32) : Option (Int32 × HI) := ((fJ6_bitCount_0f7a4 h a1).bind fun p1 => (if p1.1 < (1 : Int32) then some ((-1 : Int32), p1.2) else (if (3 : Int32) < p1.1 then some ((-1 : Int32), p1.2) else ((fX6_inHall o hh p1.2).bind fun p2 => (if (a1 &&& (p2.1 ^^^ (-1 : Int32))) = 0 then fX6_floorTime_33 o hh (fun h4 v2 v3 => (if v2 ≤ (1 : Int32) then some (v3, h4) else (if v3 ≤ 0 then some (v3, h4) else some ((200 : Int32), h4)))) FU p2.2 a1 p1.1 (0 : Int32) (0 : Int32) else some ((-1 : Int32), p2.2))))))
set_option maxRecDepth 100000 in
set_option maxHeartbeats 4000000 in
theorem ccX6_floorTime {l : Launch} {sh : Sh} {adr : Nat → Nat} {r : Nat → Nat → Option Nat} {o : Nat} {hh : Nat} (hS : SS sh r hh o) {h : HI} {a1 : Int32} {p : Int32 × HI} (H : fX6_floorTime o hh h a1 = some p) : CC l yX6_floorTime cX6_floorTime 5 (some .int) 2 [.ref o, .int a1] sh adr (mk h r) (fun v τ => v = some (.int p.1) ∧ τ = mk p.2 r) := by
  refine CC.of (by decide) (Nat.le_of_ble_eq_true rfl) 3 [.ref o, .int a1, .retAddr 0, .retAddr 0, .retAddr 0] rfl (fun X _ C E hZ => ?_)
  rw [fX6_floorTime] at H
  refine ww_iload_n C dX6_floorTime_0 1 rfl rfl ?_
  obtain ⟨p1, hc1, H⟩ := bd_of H
  refine ww_callS C hZ dX6_floorTime_1 sw_X6_124 (ccJ6_bitCount_0f7a4 hc1) (by decide) rfl rfl (Nat.le_of_ble_eq_true rfl) ⟨Nat.zero_le _, Nat.zero_le _⟩ (fun v τ hp => ?_)
  obtain ⟨rfl, rfl⟩ := hp
  change WW X _ 4 [.ref o, .int a1, .retAddr 0, .retAddr 0, .retAddr 0] [.int p1.1] _
  refine ww_istore_n C dX6_floorTime_4 2 rfl (by decide) rfl [.ref o, .int a1, .int p1.1, .retAddr 0, .retAddr 0] rfl ?_
  refine ww_iload_n C dX6_floorTime_5 2 rfl rfl ?_
  refine ww_iconst (v := (1 : Int32)) C dX6_floorTime_6 (by decide) ?_
  refine ww_icmp_lt C dX6_floorTime_7 26 rfl (fun hc => ?_) (fun hc => ?_)
  · rw [if_pos hc] at H
    refine ww_iconst (v := (-1 : Int32)) C dX6_floorTime_26 (by decide) ?_
    cases H
    exact ww_iret C E dX6_floorTime_27 ⟨rfl, rfl⟩
  · rw [if_neg hc] at H
    refine ww_iload_n C dX6_floorTime_10 2 rfl rfl ?_
    refine ww_iconst (v := (3 : Int32)) C dX6_floorTime_11 (by decide) ?_
    refine ww_icmp_gt C dX6_floorTime_12 26 rfl (fun hc => ?_) (fun hc => ?_)
    · rw [if_pos hc] at H
      refine ww_iconst (v := (-1 : Int32)) C dX6_floorTime_26 (by decide) ?_
      cases H
      exact ww_iret C E dX6_floorTime_27 ⟨rfl, rfl⟩
    · rw [if_neg hc] at H
      refine ww_iload_n C dX6_floorTime_15 1 rfl rfl ?_
      refine ww_aload_n C dX6_floorTime_16 0 rfl rfl ?_
      obtain ⟨p2, hc1, H⟩ := bd_of H
      refine ww_callV C hZ dX6_floorTime_17 cw_X6_129 (ccX6_inHall hS hc1) hS.1 ⟨by decide, rfl⟩ (by decide) rfl rfl (Nat.le_of_ble_eq_true rfl) ⟨Nat.zero_le _, Nat.zero_le _⟩ (fun v τ hp => ?_)
      obtain ⟨rfl, rfl⟩ := hp
      change WW X _ 20 [.ref o, .int a1, .int p1.1, .retAddr 0, .retAddr 0] [.int p2.1, .int a1] _
      refine ww_iconst (v := (-1 : Int32)) C dX6_floorTime_20 (by decide) ?_
      refine ww_ixor C dX6_floorTime_21 ?_
      refine ww_iand C dX6_floorTime_22 ?_
      refine ww_if_eq C dX6_floorTime_23 28 rfl (fun hc => ?_) (fun hc => ?_)
      · rw [if_pos hc] at H
        refine ww_iconst (v := (0 : Int32)) C dX6_floorTime_28 (by decide) ?_
        refine ww_istore_n C dX6_floorTime_29 3 rfl (by decide) rfl [.ref o, .int a1, .int p1.1, .int (0 : Int32), .retAddr 0] rfl ?_
        refine ww_iconst (v := (0 : Int32)) C dX6_floorTime_30 (by decide) ?_
        refine ww_istore C dX6_floorTime_31 (by decide) rfl [.ref o, .int a1, .int p1.1, .int (0 : Int32), .int (0 : Int32)] rfl ?_
        refine cX6_floorTime_33 hS C hZ E (fun h4 v2 v3 H => ?_) FU p2.2 a1 p1.1 (0 : Int32) (0 : Int32) H
        refine ww_iload_n C dX6_floorTime_103 2 rfl rfl ?_
        refine ww_iconst (v := (1 : Int32)) C dX6_floorTime_104 (by decide) ?_
        refine ww_icmp_le C dX6_floorTime_105 118 rfl (fun hc => ?_) (fun hc => ?_)
        · rw [if_pos hc] at H
          refine ww_iload_n C dX6_floorTime_118 3 rfl rfl ?_
          cases H
          exact ww_iret C E dX6_floorTime_119 ⟨rfl, rfl⟩
        · rw [if_neg hc] at H
          refine ww_iload_n C dX6_floorTime_108 3 rfl rfl ?_
          refine ww_if_le C dX6_floorTime_109 118 rfl (fun hc => ?_) (fun hc => ?_)
          · rw [if_pos hc] at H
            refine ww_iload_n C dX6_floorTime_118 3 rfl rfl ?_
            cases H
            exact ww_iret C E dX6_floorTime_119 ⟨rfl, rfl⟩
          · rw [if_neg hc] at H
            refine ww_sipush (v := (200 : Int32)) C dX6_floorTime_112 (by decide) ?_
            refine ww_goto C dX6_floorTime_115 119 rfl ?_
            cases H
            exact ww_iret C E dX6_floorTime_119 ⟨rfl, rfl⟩
      · rw [if_neg hc] at H
        refine ww_iconst (v := (-1 : Int32)) C dX6_floorTime_26 (by decide) ?_
        cases H
        exact ww_iret C E dX6_floorTime_27 ⟨rfl, rfl⟩
def fX6_isKept (o : Nat) (h : HI) (a1 : Int32) : Option (Int32 × HI) := (if a1 < 0 then some ((0 : Int32), h) else (if (h.1 o 2) ≤ a1 then some ((0 : Int32), h) else (if (4 : Int32) ≤ a1 then some ((0 : Int32), h) else some ((1 : Int32), h))))
set_option maxRecDepth 100000 in
set_option maxHeartbeats 4000000 in
theorem ccX6_isKept {l : Launch} {sh : Sh} {adr : Nat → Nat} {r : Nat → Nat → Option Nat} {o : Nat} {hh : Nat} (hS : SS sh r hh o) {h : HI} {a1 : Int32} {p : Int32 × HI} (H : fX6_isKept o h a1 = some p) : CC l yX6_isKept cX6_isKept 2 (some .boolean) 0 [.ref o, .int a1] sh adr (mk h r) (fun v τ => v = some (.int p.1) ∧ τ = mk p.2 r) := by
  refine CC.of (by decide) (Nat.le_of_ble_eq_true rfl) 0 [.ref o, .int a1] rfl (fun X _ C E hZ => ?_)
  rw [fX6_isKept] at H
  refine ww_iload_n C dX6_isKept_0 1 rfl rfl ?_
  refine ww_if_lt C dX6_isKept_1 21 rfl (fun hc => ?_) (fun hc => ?_)
  · rw [if_pos hc] at H
    refine ww_iconst (v := (0 : Int32)) C dX6_isKept_21 (by decide) ?_
    cases H
    exact ww_zret C E dX6_isKept_22 (Or.inl rfl) ⟨rfl, rfl⟩
  · rw [if_neg hc] at H
    refine ww_iload_n C dX6_isKept_4 1 rfl rfl ?_
    refine ww_aload_n C dX6_isKept_5 0 rfl rfl ?_
    refine wk_getI C dX6_isKept_6 fl_X6_49 hS.1 rfl ?_
    refine ww_icmp_ge C dX6_isKept_9 21 rfl (fun hc => ?_) (fun hc => ?_)
    · rw [if_pos hc] at H
      refine ww_iconst (v := (0 : Int32)) C dX6_isKept_21 (by decide) ?_
      cases H
      exact ww_zret C E dX6_isKept_22 (Or.inl rfl) ⟨rfl, rfl⟩
    · rw [if_neg hc] at H
      refine ww_iload_n C dX6_isKept_12 1 rfl rfl ?_
      refine ww_iconst (v := (4 : Int32)) C dX6_isKept_13 (by decide) ?_
      refine ww_icmp_ge C dX6_isKept_14 21 rfl (fun hc => ?_) (fun hc => ?_)
      · rw [if_pos hc] at H
        refine ww_iconst (v := (0 : Int32)) C dX6_isKept_21 (by decide) ?_
        cases H
        exact ww_zret C E dX6_isKept_22 (Or.inl rfl) ⟨rfl, rfl⟩
      · rw [if_neg hc] at H
        refine ww_iconst (v := (1 : Int32)) C dX6_isKept_17 (by decide) ?_
        refine ww_goto C dX6_isKept_18 22 rfl ?_
        cases H
        exact ww_zret C E dX6_isKept_22 (Or.inr rfl) ⟨rfl, rfl⟩
def fX6_voteFact (o : Nat) (h : HI) (a1 : Int32) (a2 : Int32) : Option (Int32 × HI) := ((fX6_isKept o h a1).bind fun p1 => (if p1.1 = 0 then some ((-1 : Int32), p1.2) else (if a2 < 0 then some ((-1 : Int32), p1.2) else (if a2 < (6 : Int32) then (if inB ((a1 * (6 : Int32)) + a2) 24 then some ((p1.2.1 (o + 7) (((a1 * (6 : Int32)) + a2).toNatClampNeg)), p1.2) else none) else some ((-1 : Int32), p1.2)))))
set_option maxRecDepth 100000 in
set_option maxHeartbeats 4000000 in
theorem ccX6_voteFact {l : Launch} {sh : Sh} {adr : Nat → Nat} {r : Nat → Nat → Option Nat} {o : Nat} {hh : Nat} (hS : SS sh r hh o) {h : HI} {a1 : Int32} {a2 : Int32} {p : Int32 × HI} (H : fX6_voteFact o h a1 a2 = some p) : CC l yX6_voteFact cX6_voteFact 3 (some .int) 1 [.ref o, .int a1, .int a2] sh adr (mk h r) (fun v τ => v = some (.int p.1) ∧ τ = mk p.2 r) := by
  refine CC.of (by decide) (Nat.le_of_ble_eq_true rfl) 0 [.ref o, .int a1, .int a2] rfl (fun X _ C E hZ => ?_)
  rw [fX6_voteFact] at H
  refine ww_aload_n C dX6_voteFact_0 0 rfl rfl ?_
  refine ww_iload_n C dX6_voteFact_1 1 rfl rfl ?_
  obtain ⟨p1, hc1, H⟩ := bd_of H
  refine ww_callV C hZ dX6_voteFact_2 cw_X6_237 (ccX6_isKept hS hc1) hS.1 ⟨by decide, rfl⟩ (by decide) rfl rfl (Nat.le_of_ble_eq_true rfl) ⟨Nat.zero_le _, Nat.zero_le _⟩ (fun v τ hp => ?_)
  obtain ⟨rfl, rfl⟩ := hp
  change WW X _ 5 [.ref o, .int a1, .int a2] [.int p1.1] _
  refine ww_if_eq C dX6_voteFact_5 18 rfl (fun hc => ?_) (fun hc => ?_)
  · rw [if_pos hc] at H
    refine ww_iconst (v := (-1 : Int32)) C dX6_voteFact_18 (by decide) ?_
    cases H
    exact ww_iret C E dX6_voteFact_19 ⟨rfl, rfl⟩
  · rw [if_neg hc] at H
    refine ww_iload_n C dX6_voteFact_8 2 rfl rfl ?_
    refine ww_if_lt C dX6_voteFact_9 18 rfl (fun hc => ?_) (fun hc => ?_)
    · rw [if_pos hc] at H
      refine ww_iconst (v := (-1 : Int32)) C dX6_voteFact_18 (by decide) ?_
      cases H
      exact ww_iret C E dX6_voteFact_19 ⟨rfl, rfl⟩
    · rw [if_neg hc] at H
      refine ww_iload_n C dX6_voteFact_12 2 rfl rfl ?_
      refine ww_bipush (v := (6 : Int32)) C dX6_voteFact_13 (by decide) ?_
      refine ww_icmp_lt C dX6_voteFact_15 20 rfl (fun hc => ?_) (fun hc => ?_)
      · rw [if_pos hc] at H
        refine ww_aload_n C dX6_voteFact_20 0 rfl rfl ?_
        refine wk_getR C dX6_voteFact_21 fl_X6_30 hS.1 rfl (tX6_voteFacts hS).1 ?_
        refine ww_iload_n C dX6_voteFact_24 1 rfl rfl ?_
        refine ww_bipush (v := (6 : Int32)) C dX6_voteFact_25 (by decide) ?_
        refine ww_imul C dX6_voteFact_27 ?_
        refine ww_iload_n C dX6_voteFact_28 2 rfl rfl ?_
        refine ww_iadd C dX6_voteFact_29 ?_
        obtain ⟨hg, H⟩ := gd_of H
        refine wk_iaload C dX6_voteFact_30 (tX6_voteFacts hS).2.1 (vp_of hg (tX6_voteFacts hS).2.2) (((a1 * (6 : Int32)) + a2).toNatClampNeg) rfl ?_
        cases H
        exact ww_iret C E dX6_voteFact_31 ⟨rfl, rfl⟩
      · rw [if_neg hc] at H
        refine ww_iconst (v := (-1 : Int32)) C dX6_voteFact_18 (by decide) ?_
        cases H
        exact ww_iret C E dX6_voteFact_19 ⟨rfl, rfl⟩
def fX6_saidIn (o : Nat) (h : HI) (a1 : Int32) (a2 : Int32) : Option (Int32 × HI) := ((fX6_voteFact o h a1 (2 : Int32)).bind fun p1 => ((fX6_voteFact o p1.2 a1 (3 : Int32)).bind fun p2 => some ((((p1.1 >>> (a2 &&& 31)) &&& (1 : Int32)) - ((p2.1 >>> (a2 &&& 31)) &&& (1 : Int32))), p2.2)))
set_option maxRecDepth 100000 in
set_option maxHeartbeats 4000000 in
theorem ccX6_saidIn {l : Launch} {sh : Sh} {adr : Nat → Nat} {r : Nat → Nat → Option Nat} {o : Nat} {hh : Nat} (hS : SS sh r hh o) {h : HI} {a1 : Int32} {a2 : Int32} {p : Int32 × HI} (H : fX6_saidIn o h a1 a2 = some p) : CC l yX6_saidIn cX6_saidIn 3 (some .int) 2 [.ref o, .int a1, .int a2] sh adr (mk h r) (fun v τ => v = some (.int p.1) ∧ τ = mk p.2 r) := by
  refine CC.of (by decide) (Nat.le_of_ble_eq_true rfl) 0 [.ref o, .int a1, .int a2] rfl (fun X _ C E hZ => ?_)
  rw [fX6_saidIn] at H
  refine ww_aload_n C dX6_saidIn_0 0 rfl rfl ?_
  refine ww_iload_n C dX6_saidIn_1 1 rfl rfl ?_
  refine ww_iconst (v := (2 : Int32)) C dX6_saidIn_2 (by decide) ?_
  obtain ⟨p1, hc1, H⟩ := bd_of H
  refine ww_callV C hZ dX6_saidIn_3 cw_X6_240 (ccX6_voteFact hS hc1) hS.1 ⟨by decide, rfl⟩ (by decide) rfl rfl (Nat.le_of_ble_eq_true rfl) ⟨Nat.zero_le _, Nat.zero_le _⟩ (fun v τ hp => ?_)
  obtain ⟨rfl, rfl⟩ := hp
  change WW X _ 6 [.ref o, .int a1, .int a2] [.int p1.1] _
  refine ww_iload_n C dX6_saidIn_6 2 rfl rfl ?_
  refine ww_ishr C dX6_saidIn_7 ?_
  refine ww_iconst (v := (1 : Int32)) C dX6_saidIn_8 (by decide) ?_
  refine ww_iand C dX6_saidIn_9 ?_
  refine ww_aload_n C dX6_saidIn_10 0 rfl rfl ?_
  refine ww_iload_n C dX6_saidIn_11 1 rfl rfl ?_
  refine ww_iconst (v := (3 : Int32)) C dX6_saidIn_12 (by decide) ?_
  obtain ⟨p2, hc1, H⟩ := bd_of H
  refine ww_callV C hZ dX6_saidIn_13 cw_X6_240 (ccX6_voteFact hS hc1) hS.1 ⟨by decide, rfl⟩ (by decide) rfl rfl (Nat.le_of_ble_eq_true rfl) ⟨Nat.zero_le _, Nat.zero_le _⟩ (fun v τ hp => ?_)
  obtain ⟨rfl, rfl⟩ := hp
  change WW X _ 16 [.ref o, .int a1, .int a2] [.int p2.1, .int ((p1.1 >>> (a2 &&& 31)) &&& (1 : Int32))] _
  refine ww_iload_n C dX6_saidIn_16 2 rfl rfl ?_
  refine ww_ishr C dX6_saidIn_17 ?_
  refine ww_iconst (v := (1 : Int32)) C dX6_saidIn_18 (by decide) ?_
  refine ww_iand C dX6_saidIn_19 ?_
  refine ww_isub C dX6_saidIn_20 ?_
  cases H
  exact ww_iret C E dX6_saidIn_21 ⟨rfl, rfl⟩
def fX6_stoodIn (o : Nat) (h : HI) (a1 : Int32) (a2 : Int32) : Option (Int32 × HI) := ((fX6_voteFact o h a1 (4 : Int32)).bind fun p1 => (if ((p1.1 >>> (a2 &&& 31)) &&& (1 : Int32)) = 0 then some ((0 : Int32), p1.2) else some ((1 : Int32), p1.2)))
set_option maxRecDepth 100000 in
set_option maxHeartbeats 4000000 in
theorem ccX6_stoodIn {l : Launch} {sh : Sh} {adr : Nat → Nat} {r : Nat → Nat → Option Nat} {o : Nat} {hh : Nat} (hS : SS sh r hh o) {h : HI} {a1 : Int32} {a2 : Int32} {p : Int32 × HI} (H : fX6_stoodIn o h a1 a2 = some p) : CC l yX6_stoodIn cX6_stoodIn 3 (some .boolean) 2 [.ref o, .int a1, .int a2] sh adr (mk h r) (fun v τ => v = some (.int p.1) ∧ τ = mk p.2 r) := by
  refine CC.of (by decide) (Nat.le_of_ble_eq_true rfl) 0 [.ref o, .int a1, .int a2] rfl (fun X _ C E hZ => ?_)
  rw [fX6_stoodIn] at H
  refine ww_aload_n C dX6_stoodIn_0 0 rfl rfl ?_
  refine ww_iload_n C dX6_stoodIn_1 1 rfl rfl ?_
  refine ww_iconst (v := (4 : Int32)) C dX6_stoodIn_2 (by decide) ?_
  obtain ⟨p1, hc1, H⟩ := bd_of H
  refine ww_callV C hZ dX6_stoodIn_3 cw_X6_240 (ccX6_voteFact hS hc1) hS.1 ⟨by decide, rfl⟩ (by decide) rfl rfl (Nat.le_of_ble_eq_true rfl) ⟨Nat.zero_le _, Nat.zero_le _⟩ (fun v τ hp => ?_)
  obtain ⟨rfl, rfl⟩ := hp
  change WW X _ 6 [.ref o, .int a1, .int a2] [.int p1.1] _
  refine ww_iload_n C dX6_stoodIn_6 2 rfl rfl ?_
  refine ww_ishr C dX6_stoodIn_7 ?_
  refine ww_iconst (v := (1 : Int32)) C dX6_stoodIn_8 (by decide) ?_
  refine ww_iand C dX6_stoodIn_9 ?_
  refine ww_if_eq C dX6_stoodIn_10 17 rfl (fun hc => ?_) (fun hc => ?_)
  · rw [if_pos hc] at H
    refine ww_iconst (v := (0 : Int32)) C dX6_stoodIn_17 (by decide) ?_
    cases H
    exact ww_zret C E dX6_stoodIn_18 (Or.inl rfl) ⟨rfl, rfl⟩
  · rw [if_neg hc] at H
    refine ww_iconst (v := (1 : Int32)) C dX6_stoodIn_13 (by decide) ?_
    refine ww_goto C dX6_stoodIn_14 18 rfl ?_
    cases H
    exact ww_zret C E dX6_stoodIn_18 (Or.inr rfl) ⟨rfl, rfl⟩
def fX6_keptSitters (o : Nat) (hh : Nat) (h : HI) (a1 : Int32) (a2 : Int32) : Option (Int32 × HI) := ((fX2_has (hh + 1) h a1).bind fun p1 => (if p1.1 = 0 then some ((-1 : Int32), p1.2) else (if a2 < (1 : Int32) then some ((-1 : Int32), p1.2) else (if (200 : Int32) < a2 then some ((-1 : Int32), p1.2) else (if a2 ≤ (p1.2.1 o 1) then (if inB (a2 - (1 : Int32)) 200 then some ((((((p1.2.2 (o + 8) ((a2 - (1 : Int32)).toNatClampNeg)).toUInt64 >>> ((a1 * (6 : Int32)).toInt64.toUInt64 &&& Int64.toUInt64 63)).toInt64).toInt32) &&& (63 : Int32)), p1.2) else none) else some ((-1 : Int32), p1.2))))))
set_option maxRecDepth 100000 in
set_option maxHeartbeats 4000000 in
theorem ccX6_keptSitters {l : Launch} {sh : Sh} {adr : Nat → Nat} {r : Nat → Nat → Option Nat} {o : Nat} {hh : Nat} (hS : SS sh r hh o) {h : HI} {a1 : Int32} {a2 : Int32} {p : Int32 × HI} (H : fX6_keptSitters o hh h a1 a2 = some p) : CC l yX6_keptSitters cX6_keptSitters 3 (some .int) 1 [.ref o, .int a1, .int a2] sh adr (mk h r) (fun v τ => v = some (.int p.1) ∧ τ = mk p.2 r) := by
  refine CC.of (by decide) (Nat.le_of_ble_eq_true rfl) 0 [.ref o, .int a1, .int a2] rfl (fun X _ C E hZ => ?_)
  rw [fX6_keptSitters] at H
  refine ww_aload_n C dX6_keptSitters_0 0 rfl rfl ?_
  refine wk_getA C dX6_keptSitters_1 fl_X6_41 hS.1 rfl (tX6_hall hS).1 ?_
  refine wk_getA C dX6_keptSitters_4 fl_X6_192 (tX6_hall hS).2.1 rfl (tX1_chairs (tX6_hall hS).2).1 ?_
  refine ww_iload_n C dX6_keptSitters_7 1 rfl rfl ?_
  obtain ⟨p1, hc1, H⟩ := bd_of H
  refine ww_callV C hZ dX6_keptSitters_8 cw_X6_82 (ccX2_has (tX1_chairs (tX6_hall hS).2).2 hc1) (tX1_chairs (tX6_hall hS).2).2.1 ⟨by decide, rfl⟩ (by decide) rfl rfl (Nat.le_of_ble_eq_true rfl) ⟨Nat.zero_le _, Nat.zero_le _⟩ (fun v τ hp => ?_)
  obtain ⟨rfl, rfl⟩ := hp
  change WW X _ 11 [.ref o, .int a1, .int a2] [.int p1.1] _
  refine ww_if_eq C dX6_keptSitters_11 34 rfl (fun hc => ?_) (fun hc => ?_)
  · rw [if_pos hc] at H
    refine ww_iconst (v := (-1 : Int32)) C dX6_keptSitters_34 (by decide) ?_
    cases H
    exact ww_iret C E dX6_keptSitters_35 ⟨rfl, rfl⟩
  · rw [if_neg hc] at H
    refine ww_iload_n C dX6_keptSitters_14 2 rfl rfl ?_
    refine ww_iconst (v := (1 : Int32)) C dX6_keptSitters_15 (by decide) ?_
    refine ww_icmp_lt C dX6_keptSitters_16 34 rfl (fun hc => ?_) (fun hc => ?_)
    · rw [if_pos hc] at H
      refine ww_iconst (v := (-1 : Int32)) C dX6_keptSitters_34 (by decide) ?_
      cases H
      exact ww_iret C E dX6_keptSitters_35 ⟨rfl, rfl⟩
    · rw [if_neg hc] at H
      refine ww_iload_n C dX6_keptSitters_19 2 rfl rfl ?_
      refine ww_sipush (v := (200 : Int32)) C dX6_keptSitters_20 (by decide) ?_
      refine ww_icmp_gt C dX6_keptSitters_23 34 rfl (fun hc => ?_) (fun hc => ?_)
      · rw [if_pos hc] at H
        refine ww_iconst (v := (-1 : Int32)) C dX6_keptSitters_34 (by decide) ?_
        cases H
        exact ww_iret C E dX6_keptSitters_35 ⟨rfl, rfl⟩
      · rw [if_neg hc] at H
        refine ww_iload_n C dX6_keptSitters_26 2 rfl rfl ?_
        refine ww_aload_n C dX6_keptSitters_27 0 rfl rfl ?_
        refine wk_getI C dX6_keptSitters_28 fl_X6_45 hS.1 rfl ?_
        refine ww_icmp_le C dX6_keptSitters_31 36 rfl (fun hc => ?_) (fun hc => ?_)
        · rw [if_pos hc] at H
          refine ww_aload_n C dX6_keptSitters_36 0 rfl rfl ?_
          refine wk_getR C dX6_keptSitters_37 fl_X6_33 hS.1 rfl (tX6_seatRows hS).1 ?_
          refine ww_iload_n C dX6_keptSitters_40 2 rfl rfl ?_
          refine ww_iconst (v := (1 : Int32)) C dX6_keptSitters_41 (by decide) ?_
          refine ww_isub C dX6_keptSitters_42 ?_
          obtain ⟨hg, H⟩ := gd_of H
          refine wk_laload C dX6_keptSitters_43 (tX6_seatRows hS).2.1 (vp_of hg (tX6_seatRows hS).2.2) ((a2 - (1 : Int32)).toNatClampNeg) rfl ?_
          refine ww_iload_n C dX6_keptSitters_44 1 rfl rfl ?_
          refine ww_bipush (v := (6 : Int32)) C dX6_keptSitters_45 (by decide) ?_
          refine ww_imul C dX6_keptSitters_47 ?_
          refine ww_lushr C dX6_keptSitters_48 ?_
          refine ww_l2i C dX6_keptSitters_49 ?_
          refine ww_bipush (v := (63 : Int32)) C dX6_keptSitters_50 (by decide) ?_
          refine ww_iand C dX6_keptSitters_52 ?_
          cases H
          exact ww_iret C E dX6_keptSitters_53 ⟨rfl, rfl⟩
        · rw [if_neg hc] at H
          refine ww_iconst (v := (-1 : Int32)) C dX6_keptSitters_34 (by decide) ?_
          cases H
          exact ww_iret C E dX6_keptSitters_35 ⟨rfl, rfl⟩
