def fX8_hall_64 (o : Nat) (hh : Nat) (hs : Nat) (k : HI → Option (Int32 × HI)) : Nat → HI → Int32 → Option (Int32 × HI)
  | 0, _, _ => none
  | n + 1, h, v3 => (if (3 : Int32) ≤ v3 then k h else (if inB v3 3 then fX8_hall_64 o hh hs k n (uI h (o + 4) (v3.toNatClampNeg) (0 : Int32)) (v3 + (1 : Int32)) else none))
set_option maxRecDepth 100000 in
set_option maxHeartbeats 4000000 in
theorem cX8_hall_64 {X : CT} {sh : Sh} {adr : Nat → Nat} {r : Nat → Nat → Option Nat} {RR : (Nat → Nat → Option Nat) → Prop} {o : Nat} {hh : Nat} {hs : Nat} {ph : Nat} {p : Int32 × HI} (hS : KS sh r hs hh hs ph hs o) (hRR : RR r) (C : CX X yX8_hall.cls cX8_hall 4 423) (hZ : SZX X adr) (E : RX X (some .int) sh adr (fun v τ => v = some (.int p.1) ∧ ∃ r9, τ = mk p.2 r9 ∧ RR r9)) {k : HI → Option (Int32 × HI)} (hk : ∀ (h : HI), k h = some p → WW X (sh, adr, 0, 0) 82 [.ref o, .retAddr 0, .ref hh, .retAddr 0] [] (mk h r)) : ∀ (n : Nat) (h : HI) (v3 : Int32), fX8_hall_64 o hh hs k n h v3 = some p → WW X (sh, adr, 0, 0) 64 [.ref o, .retAddr 0, .ref hh, .int v3] [] (mk h r) := by
  intro n
  induction n with
  | zero =>
    intro h v3 H
    rw [fX8_hall_64] at H
    cases H
  | succ n ih =>
    intro h v3 H
    rw [fX8_hall_64] at H
    refine ww_iload_n C dX8_hall_64 3 rfl rfl ?_
    refine ww_iconst (v := (3 : Int32)) C dX8_hall_65 (by decide) ?_
    refine ww_icmp_ge C dX8_hall_66 82 rfl (fun hc => ?_) (fun hc => ?_)
    · rw [if_pos hc] at H
      exact ww_drop [.ref o, .retAddr 0, .ref hh, .retAddr 0] (sl_e (sl_e (sl_e (sl_d sl_n)))) (hk h H)
    · rw [if_neg hc] at H
      refine ww_aload_n C dX8_hall_69 0 rfl rfl ?_
      refine wk_getR C dX8_hall_70 fl_X8_22 hS.1 rfl (tX8_filled hS).1 ?_
      refine ww_iload_n C dX8_hall_73 3 rfl rfl ?_
      refine ww_iconst (v := (0 : Int32)) C dX8_hall_74 (by decide) ?_
      obtain ⟨hg, H⟩ := gd_of H
      refine wk_zastore C dX8_hall_75 (tX8_filled hS).2.1 (vp_of hg (tX8_filled hS).2.2) (v3.toNatClampNeg) rfl (0 : Int32) rfl ?_
      refine ww_iinc (v := (v3 + (1 : Int32))) C dX8_hall_76 rfl rfl (by decide) rfl [.ref o, .retAddr 0, .ref hh, .int (v3 + (1 : Int32))] rfl ?_
      refine ww_goto C dX8_hall_79 64 rfl ?_
      exact ih (uI h (o + 4) (v3.toNatClampNeg) (0 : Int32)) (v3 + (1 : Int32)) H
def fX8_hall (o : Nat) (hh : Nat) (hs : Nat) (h : HI) : Option (Int32 × HI) := ((fX4_read (o + 53) (o + 1) hs h).bind fun p1 => (if p1.1 = 0 then some ((-1 : Int32), (uI p1.2 (o + 1) 1 (0 : Int32))) else ((fX6_begin (o + 56) hs (uI p1.2 (o + 1) 1 (0 : Int32))).bind fun h2 => ((fX0_clear (o + 5) h2).bind fun h3 => fX8_hall_64 o hh hs (fun h5 => some ((h5.1 (hs + 3) 1), h5)) FU h3 (0 : Int32)))))
set_option maxRecDepth 100000 in
set_option maxHeartbeats 4000000 in
theorem ccX8_hall {l : Launch} {sh : Sh} {adr : Nat → Nat} {r : Nat → Nat → Option Nat} {o : Nat} {hh : Nat} {hs : Nat} {rh : Nat} {ph : Nat} {nh : Nat} (hS : KS sh r hh hs rh ph nh o) {h : HI}  {p : Int32 × HI} (H : fX8_hall o hh hs h = some p) : CC l yX8_hall cX8_hall 4 (some .int) 423 [.ref o] sh adr (mk h r) (fun v τ => v = some (.int p.1) ∧ ∃ r9, τ = mk p.2 r9 ∧ ((r9 = ur r (o + 53) 2 (some hs) ∧ ∃ q9, fX4_read (o + 53) (o + 1) hs h = some q9 ∧ q9.1 = 0) ∨ (r9 = ur (ur (ur (ur r (o + 53) 2 (some hs)) o 7 (some hs)) o 8 (some hh)) (o + 56) 0 (some hs) ∧ ∃ q9, fX4_read (o + 53) (o + 1) hs h = some q9 ∧ ¬ q9.1 = 0))) := by
  refine CC.of (by decide) (Nat.le_of_ble_eq_true rfl) 3 [.ref o, .retAddr 0, .retAddr 0, .retAddr 0] rfl (fun X _ C E hZ => ?_)
  rw [fX8_hall] at H
  refine ww_aload_n C dX8_hall_0 0 rfl rfl ?_
  refine wk_getA C dX8_hall_1 fl_X8_48 hS.1 rfl (tX8_reader hS).1 ?_
  refine ww_aload_n C dX8_hall_4 0 rfl rfl ?_
  refine wk_getA C dX8_hall_5 fl_X8_40 hS.1 rfl (tX8_spare hS).1 ?_
  obtain ⟨p1, hc1, H⟩ := bd_of H
  refine ww_callV C hZ dX8_hall_8 cw_X8_78 (ccX4_read (tX8_reader hS).2 (tX8_spare hS).2 hc1) (tX8_reader hS).2.1 ⟨by decide, rfl⟩ (by decide) rfl rfl (Nat.le_of_ble_eq_true rfl) ⟨Nat.zero_le _, Nat.zero_le _⟩ (fun v τ hp => ?_)
  obtain ⟨rfl, rfl⟩ := hp
  have hrd := hc1
  have hS := KS.rd hS (tX8_spare hS).2
  change WW X _ 11 [.ref o, .retAddr 0, .retAddr 0, .retAddr 0] [.int p1.1] _
  refine ww_istore_n C dX8_hall_11 1 rfl (by decide) rfl [.ref o, .int p1.1, .retAddr 0, .retAddr 0] rfl ?_
  refine ww_aload_n C dX8_hall_12 0 rfl rfl ?_
  refine wk_getA C dX8_hall_13 fl_X8_10 hS.1 rfl (tX8_tape hS).1 ?_
  refine ww_iconst (v := (0 : Int32)) C dX8_hall_16 (by decide) ?_
  refine wk_putI C dX8_hall_17 fl_X8_74 (tX8_tape hS).2.1 rfl rfl ?_
  refine ww_iload_n C dX8_hall_20 1 rfl rfl ?_
  refine ww_if_ne C dX8_hall_21 26 rfl (fun hc => ?_) (fun hc => ?_)
  · rw [if_neg hc] at H
    refine ww_aload_n C dX8_hall_26 0 rfl rfl ?_
    refine wk_getA C dX8_hall_27 fl_X8_36 hS.1 rfl (tX8_told hS).1 ?_
    refine ww_astore_n C dX8_hall_30 2 rfl (by decide) rfl [.ref o, .int p1.1, .ref hh, .retAddr 0] rfl ?_
    refine ww_aload_n C dX8_hall_31 0 rfl rfl ?_
    refine ww_aload_n C dX8_hall_32 0 rfl rfl ?_
    refine wk_getA C dX8_hall_33 fl_X8_40 hS.1 rfl (tX8_spare hS).1 ?_
    refine wk_putA C dX8_hall_36 fl_X8_36 hS.1 rfl rfl ?_
    have hH9 := HS.keep (o := o) (k := 7) (v := some hs) (by rw [hS.1]; decide) (tX8_told hS).2
    have hS := KS.told hS (tX8_spare hS).2
    refine ww_aload_n C dX8_hall_39 0 rfl rfl ?_
    refine ww_aload_n C dX8_hall_40 2 rfl rfl ?_
    refine wk_putA C dX8_hall_41 fl_X8_40 hS.1 rfl rfl ?_
    have hS := KS.spare hS hH9
    refine ww_aload_n C dX8_hall_44 0 rfl rfl ?_
    refine wk_getA C dX8_hall_45 fl_X8_55 hS.1 rfl (tX8_now hS).1 ?_
    refine ww_aload_n C dX8_hall_48 0 rfl rfl ?_
    refine wk_getA C dX8_hall_49 fl_X8_36 hS.1 rfl (tX8_told hS).1 ?_
    obtain ⟨h2, hc1, H⟩ := bd_of H
    refine ww_callV C hZ dX8_hall_52 cw_X8_82 (ccX6_begin (tX8_now hS).2 (tX8_told hS).2 hc1) (tX8_now hS).2.1 ⟨by decide, rfl⟩ (by decide) rfl rfl (Nat.le_of_ble_eq_true rfl) ⟨Nat.zero_le _, Nat.zero_le _⟩ (fun v τ hp => ?_)
    obtain ⟨rfl, rfl⟩ := hp
    have hS := KS.nw hS (tX8_told hS).2
    change WW X _ 55 [.ref o, .int p1.1, .ref hh, .retAddr 0] [] _
    refine ww_aload_n C dX8_hall_55 0 rfl rfl ?_
    refine wk_getA C dX8_hall_56 fl_X8_29 hS.1 rfl (tX8_book hS).1 ?_
    obtain ⟨h3, hc1, H⟩ := bd_of H
    refine ww_callV C hZ dX8_hall_59 cw_X8_85 (ccX0_clear (tX8_book hS).2 hc1) (tX8_book hS).2.1 ⟨by decide, rfl⟩ (by decide) rfl rfl (Nat.le_of_ble_eq_true rfl) ⟨Nat.zero_le _, Nat.zero_le _⟩ (fun v τ hp => ?_)
    obtain ⟨rfl, rfl⟩ := hp
    change WW X _ 62 [.ref o, .int p1.1, .ref hh, .retAddr 0] [] _
    refine ww_iconst (v := (0 : Int32)) C dX8_hall_62 (by decide) ?_
    refine ww_istore_n C dX8_hall_63 3 rfl (by decide) rfl [.ref o, .int p1.1, .ref hh, .int (0 : Int32)] rfl ?_
    refine ww_drop [.ref o, .retAddr 0, .ref hh, .int (0 : Int32)] (sl_e (sl_d (sl_e (sl_e sl_n)))) (cX8_hall_64 hS (Or.inr ⟨rfl, _, hrd, hc⟩) C hZ E (fun h5 H => ?_) FU h3 (0 : Int32) H)
    refine ww_aload_n C dX8_hall_82 0 rfl rfl ?_
    refine wk_getA C dX8_hall_83 fl_X8_36 hS.1 rfl (tX8_told hS).1 ?_
    refine wk_getA C dX8_hall_86 fl_X8_88 (tX8_told hS).2.1 rfl (tX1_men (tX8_told hS).2).1 ?_
    refine wk_getI C dX8_hall_89 fl_X8_92 (tX1_men (tX8_told hS).2).2.1 rfl ?_
    cases H
    exact ww_iret C E dX8_hall_92 ⟨rfl, _, rfl, (Or.inr ⟨rfl, _, hrd, hc⟩)⟩
  · rw [if_pos hc] at H
    refine ww_iconst (v := (-1 : Int32)) C dX8_hall_24 (by decide) ?_
    cases H
    exact ww_iret C E dX8_hall_25 ⟨rfl, _, rfl, (Or.inl ⟨rfl, _, hrd, hc⟩)⟩
def fX8_image (o : Nat) (nh : Nat) (h : HI) (a1 : Int32) : Option (Int32 × HI) := (if a1 < 0 then some ((-1 : Int32), h) else (if a1 < (3 : Int32) then (if inB a1 3 then ((fX6_copy (o + 74 + 9 * (a1.toNatClampNeg)) (o + 56) nh h).bind fun h1 => (if inB a1 3 then some ((h1.1 (o + 56) 1), (uI h1 (o + 4) (a1.toNatClampNeg) (1 : Int32))) else none)) else none) else some ((-1 : Int32), h)))
set_option maxRecDepth 100000 in
set_option maxHeartbeats 4000000 in
theorem ccX8_image {l : Launch} {sh : Sh} {adr : Nat → Nat} {r : Nat → Nat → Option Nat} {o : Nat} {hh : Nat} {hs : Nat} {rh : Nat} {ph : Nat} {nh : Nat} {bh : Nat} (hS : KS sh r hh hs rh ph nh o) {h : HI} {a1 : Int32} (hB : ∀ i, i < 3 → i = a1.toNatClampNeg → r (o + 3) i = some (o + 74 + 9 * i) ∧ SS sh r bh (o + 74 + 9 * i)) {p : Int32 × HI} (H : fX8_image o nh h a1 = some p) : CC l yX8_image cX8_image 2 (some .int) 2 [.ref o, .int a1] sh adr (mk h r) (fun v τ => v = some (.int p.1) ∧ ∃ r9, τ = mk p.2 r9 ∧ ((r9 = r ∧ (a1 < 0 ∨ ¬ a1 < 3)) ∨ (r9 = ur r (o + 74 + 9 * (a1.toNatClampNeg)) 0 (some nh) ∧ inB a1 3))) := by
  refine CC.of (by decide) (Nat.le_of_ble_eq_true rfl) 0 [.ref o, .int a1] rfl (fun X _ C E hZ => ?_)
  rw [fX8_image] at H
  refine ww_iload_n C dX8_image_0 1 rfl rfl ?_
  refine ww_if_lt C dX8_image_1 9 rfl (fun hc => ?_) (fun hc => ?_)
  · rw [if_pos hc] at H
    refine ww_iconst (v := (-1 : Int32)) C dX8_image_9 (by decide) ?_
    cases H
    exact ww_iret C E dX8_image_10 ⟨rfl, _, rfl, (Or.inl ⟨rfl, by first | exact Or.inl hc | exact Or.inr hc⟩)⟩
  · rw [if_neg hc] at H
    refine ww_iload_n C dX8_image_4 1 rfl rfl ?_
    refine ww_iconst (v := (3 : Int32)) C dX8_image_5 (by decide) ?_
    refine ww_icmp_lt C dX8_image_6 11 rfl (fun hc => ?_) (fun hc => ?_)
    · rw [if_pos hc] at H
      refine ww_aload_n C dX8_image_11 0 rfl rfl ?_
      refine wk_getR C dX8_image_12 fl_X8_18 hS.1 rfl (tX8_boxes hS).1 ?_
      refine ww_iload_n C dX8_image_15 1 rfl rfl ?_
      obtain ⟨hg, H⟩ := gd_of H
      refine ww_aaload C dX8_image_16 (tX8_boxes hS).2.1 (vp_of hg (tX8_boxes hS).2.2) (hB (a1.toNatClampNeg) hg.2 rfl).1 ?_
      refine ww_aload_n C dX8_image_17 0 rfl rfl ?_
      refine wk_getA C dX8_image_18 fl_X8_55 hS.1 rfl (tX8_now hS).1 ?_
      obtain ⟨h1, hc1, H⟩ := bd_of H
      refine ww_callV C hZ dX8_image_21 cw_X8_258 (ccX6_copy (hB (a1.toNatClampNeg) hg.2 rfl).2 (tX8_now hS).2 (by omega) hc1) (hB (a1.toNatClampNeg) hg.2 rfl).2.1 ⟨by decide, rfl⟩ (by decide) rfl rfl (Nat.le_of_ble_eq_true rfl) ⟨Nat.zero_le _, Nat.zero_le _⟩ (fun v τ hp => ?_)
      obtain ⟨rfl, rfl⟩ := hp
      have hS := KS.box (k := 0) (v := some nh) hS (hB _ hg.2 rfl).2.1 (by omega)
      change WW X _ 24 [.ref o, .int a1] [] _
      refine ww_aload_n C dX8_image_24 0 rfl rfl ?_
      refine wk_getR C dX8_image_25 fl_X8_22 hS.1 rfl (tX8_filled hS).1 ?_
      refine ww_iload_n C dX8_image_28 1 rfl rfl ?_
      refine ww_iconst (v := (1 : Int32)) C dX8_image_29 (by decide) ?_
      obtain ⟨hg, H⟩ := gd_of H
      refine wk_zastore C dX8_image_30 (tX8_filled hS).2.1 (vp_of hg (tX8_filled hS).2.2) (a1.toNatClampNeg) rfl (1 : Int32) rfl ?_
      refine ww_aload_n C dX8_image_31 0 rfl rfl ?_
      refine wk_getA C dX8_image_32 fl_X8_55 hS.1 rfl (tX8_now hS).1 ?_
      refine wk_getI C dX8_image_35 fl_X8_262 (tX8_now hS).2.1 rfl ?_
      refine ww_as (v := (h1.1 (o + 56) 1)) (by rw [uI_n (by omega)]) ?_
      cases H
      exact ww_iret C E dX8_image_38 ⟨rfl, _, rfl, (Or.inr ⟨rfl, hg⟩)⟩
    · rw [if_neg hc] at H
      refine ww_iconst (v := (-1 : Int32)) C dX8_image_9 (by decide) ?_
      cases H
      exact ww_iret C E dX8_image_10 ⟨rfl, _, rfl, (Or.inl ⟨rfl, by first | exact Or.inl hc | exact Or.inr hc⟩)⟩
def fX8_back (o : Nat) (bh : Nat) (h : HI) (a1 : Int32) : Option (Int32 × HI) := (if a1 < 0 then some ((-1 : Int32), h) else (if (3 : Int32) ≤ a1 then some ((-1 : Int32), h) else (if inB a1 3 then (if (h.1 (o + 4) (a1.toNatClampNeg)) = 0 then some ((-1 : Int32), h) else (if inB a1 3 then ((fX6_copy (o + 56) (o + 74 + 9 * (a1.toNatClampNeg)) bh h).bind fun h1 => some ((h1.1 (o + 56) 1), h1)) else none)) else none)))
set_option maxRecDepth 100000 in
set_option maxHeartbeats 4000000 in
theorem ccX8_back {l : Launch} {sh : Sh} {adr : Nat → Nat} {r : Nat → Nat → Option Nat} {o : Nat} {hh : Nat} {hs : Nat} {rh : Nat} {ph : Nat} {nh : Nat} {bh : Nat} (hS : KS sh r hh hs rh ph nh o) {h : HI} {a1 : Int32} (hB : ∀ i, i < 3 → i = a1.toNatClampNeg → r (o + 3) i = some (o + 74 + 9 * i) ∧ SS sh r bh (o + 74 + 9 * i)) {p : Int32 × HI} (H : fX8_back o bh h a1 = some p) : CC l yX8_back cX8_back 2 (some .int) 2 [.ref o, .int a1] sh adr (mk h r) (fun v τ => v = some (.int p.1) ∧ ∃ r9, τ = mk p.2 r9 ∧ (r9 = r ∨ (r9 = ur r (o + 56) 0 (some bh) ∧ inB a1 3 ∧ ¬ (h.1 (o + 4) (a1.toNatClampNeg)) = 0))) := by
  refine CC.of (by decide) (Nat.le_of_ble_eq_true rfl) 0 [.ref o, .int a1] rfl (fun X _ C E hZ => ?_)
  rw [fX8_back] at H
  refine ww_iload_n C dX8_back_0 1 rfl rfl ?_
  refine ww_if_lt C dX8_back_1 18 rfl (fun hc => ?_) (fun hc => ?_)
  · rw [if_pos hc] at H
    refine ww_iconst (v := (-1 : Int32)) C dX8_back_18 (by decide) ?_
    cases H
    exact ww_iret C E dX8_back_19 ⟨rfl, _, rfl, (Or.inl rfl)⟩
  · rw [if_neg hc] at H
    refine ww_iload_n C dX8_back_4 1 rfl rfl ?_
    refine ww_iconst (v := (3 : Int32)) C dX8_back_5 (by decide) ?_
    refine ww_icmp_ge C dX8_back_6 18 rfl (fun hc => ?_) (fun hc => ?_)
    · rw [if_pos hc] at H
      refine ww_iconst (v := (-1 : Int32)) C dX8_back_18 (by decide) ?_
      cases H
      exact ww_iret C E dX8_back_19 ⟨rfl, _, rfl, (Or.inl rfl)⟩
    · rw [if_neg hc] at H
      refine ww_aload_n C dX8_back_9 0 rfl rfl ?_
      refine wk_getR C dX8_back_10 fl_X8_22 hS.1 rfl (tX8_filled hS).1 ?_
      refine ww_iload_n C dX8_back_13 1 rfl rfl ?_
      obtain ⟨hg, H⟩ := gd_of H
      refine wk_zaload C dX8_back_14 (tX8_filled hS).2.1 (vp_of hg (tX8_filled hS).2.2) (a1.toNatClampNeg) rfl ?_
      refine ww_if_ne C dX8_back_15 20 rfl (fun hc => ?_) (fun hc => ?_)
      · rw [if_neg hc] at H
        refine ww_aload_n C dX8_back_20 0 rfl rfl ?_
        refine wk_getA C dX8_back_21 fl_X8_55 hS.1 rfl (tX8_now hS).1 ?_
        refine ww_aload_n C dX8_back_24 0 rfl rfl ?_
        refine wk_getR C dX8_back_25 fl_X8_18 hS.1 rfl (tX8_boxes hS).1 ?_
        refine ww_iload_n C dX8_back_28 1 rfl rfl ?_
        obtain ⟨hg, H⟩ := gd_of H
        refine ww_aaload C dX8_back_29 (tX8_boxes hS).2.1 (vp_of hg (tX8_boxes hS).2.2) (hB (a1.toNatClampNeg) hg.2 rfl).1 ?_
        obtain ⟨h1, hc1, H⟩ := bd_of H
        refine ww_callV C hZ dX8_back_30 cw_X8_258 (ccX6_copy (tX8_now hS).2 (hB (a1.toNatClampNeg) hg.2 rfl).2 (by omega) hc1) (tX8_now hS).2.1 ⟨by decide, rfl⟩ (by decide) rfl rfl (Nat.le_of_ble_eq_true rfl) ⟨Nat.zero_le _, Nat.zero_le _⟩ (fun v τ hp => ?_)
        obtain ⟨rfl, rfl⟩ := hp
        have hS := KS.nw hS (tX6_hall (hB _ hg.2 rfl).2).2
        change WW X _ 33 [.ref o, .int a1] [] _
        refine ww_aload_n C dX8_back_33 0 rfl rfl ?_
        refine wk_getA C dX8_back_34 fl_X8_55 hS.1 rfl (tX8_now hS).1 ?_
        refine wk_getI C dX8_back_37 fl_X8_262 (tX8_now hS).2.1 rfl ?_
        cases H
        exact ww_iret C E dX8_back_40 ⟨rfl, _, rfl, (Or.inr ⟨rfl, hg, hc⟩)⟩
      · rw [if_pos hc] at H
        refine ww_iconst (v := (-1 : Int32)) C dX8_back_18 (by decide) ?_
        cases H
        exact ww_iret C E dX8_back_19 ⟨rfl, _, rfl, (Or.inl rfl)⟩
