def fX9_rise (m : Nat) (h : HI) (a1 : Int32) : Option (Int32 × HI) := ((fX9_isMan m h a1).bind fun p1 => (if p1.1 = 0 then some ((-1 : Int32), p1.2) else (if inB a1 6 then (if (p1.2.1 (m + 27) (a1.toNatClampNeg)) < 0 then some ((-1 : Int32), p1.2) else ((fX9_isLong m p1.2 (1 : Int32)).bind fun p2 => (if p2.1 = 0 then (if inB a1 6 then (if inB a1 6 then ((fX9_over m (uI (uI p2.2 (m + 27) (a1.toNatClampNeg) (-1 : Int32)) (m + 29) (a1.toNatClampNeg) (0 : Int32))).bind fun p3 => some (p3.1, p3.2)) else none) else none) else some ((-1 : Int32), p2.2)))) else none)))
set_option maxRecDepth 100000 in
set_option maxHeartbeats 4000000 in
theorem ccX9_rise {l : Launch} {sh : Sh} {adr : Nat → Nat} {r : Nat → Nat → Option Nat} {m : Nat} (hS : MS sh r m) {h : HI} {a1 : Int32} {p : Int32 × HI} (H : fX9_rise m h a1 = some p) : CC l yX9_rise cX9_rise 2 (some .int) 5 [.ref m, .int a1] sh adr (mk h r) (fun v τ => v = some (.int p.1) ∧ τ = mk p.2 r) := by
  refine CC.of (by decide) (Nat.le_of_ble_eq_true rfl) 0 [.ref m, .int a1] rfl (fun X _ C E hZ => ?_)
  rw [fX9_rise] at H
  refine ww_aload_n C dX9_rise_0 0 rfl rfl ?_
  refine ww_iload_n C dX9_rise_1 1 rfl rfl ?_
  obtain ⟨p1, hc1, H⟩ := bd_of H
  refine ww_callV C hZ dX9_rise_2 cw_X9_433 (ccX9_isMan hS hc1) hS.1 ⟨by decide, rfl⟩ (by decide) rfl rfl (Nat.le_of_ble_eq_true rfl) ⟨Nat.zero_le _, Nat.zero_le _⟩ (fun v τ hp => ?_)
  obtain ⟨rfl, rfl⟩ := hp
  change WW X _ 5 [.ref m, .int a1] [.int p1.1] _
  refine ww_if_eq C dX9_rise_5 25 rfl (fun hc => ?_) (fun hc => ?_)
  · rw [if_pos hc] at H
    refine ww_iconst (v := (-1 : Int32)) C dX9_rise_25 (by decide) ?_
    cases H
    exact ww_iret C E dX9_rise_26 ⟨rfl, rfl⟩
  · rw [if_neg hc] at H
    refine ww_aload_n C dX9_rise_8 0 rfl rfl ?_
    refine wk_getR C dX9_rise_9 fl_X9_94 hS.1 rfl (tX9_where hS).1 ?_
    refine ww_iload_n C dX9_rise_12 1 rfl rfl ?_
    obtain ⟨hg, H⟩ := gd_of H
    refine wk_iaload C dX9_rise_13 (tX9_where hS).2.1 (vp_of hg (tX9_where hS).2.2) (a1.toNatClampNeg) rfl ?_
    refine ww_if_lt C dX9_rise_14 25 rfl (fun hc => ?_) (fun hc => ?_)
    · rw [if_pos hc] at H
      refine ww_iconst (v := (-1 : Int32)) C dX9_rise_25 (by decide) ?_
      cases H
      exact ww_iret C E dX9_rise_26 ⟨rfl, rfl⟩
    · rw [if_neg hc] at H
      refine ww_aload_n C dX9_rise_17 0 rfl rfl ?_
      refine ww_iconst (v := (1 : Int32)) C dX9_rise_18 (by decide) ?_
      obtain ⟨p2, hc1, H⟩ := bd_of H
      refine ww_callV C hZ dX9_rise_19 cw_X9_457 (ccX9_isLong hS hc1) hS.1 ⟨by decide, rfl⟩ (by decide) rfl rfl (Nat.le_of_ble_eq_true rfl) ⟨Nat.zero_le _, Nat.zero_le _⟩ (fun v τ hp => ?_)
      obtain ⟨rfl, rfl⟩ := hp
      change WW X _ 22 [.ref m, .int a1] [.int p2.1] _
      refine ww_if_eq C dX9_rise_22 27 rfl (fun hc => ?_) (fun hc => ?_)
      · rw [if_pos hc] at H
        refine ww_aload_n C dX9_rise_27 0 rfl rfl ?_
        refine wk_getR C dX9_rise_28 fl_X9_94 hS.1 rfl (tX9_where hS).1 ?_
        refine ww_iload_n C dX9_rise_31 1 rfl rfl ?_
        refine ww_iconst (v := (-1 : Int32)) C dX9_rise_32 (by decide) ?_
        obtain ⟨hg, H⟩ := gd_of H
        refine wk_iastore C dX9_rise_33 (tX9_where hS).2.1 (vp_of hg (tX9_where hS).2.2) (a1.toNatClampNeg) rfl ?_
        refine ww_aload_n C dX9_rise_34 0 rfl rfl ?_
        refine wk_getR C dX9_rise_35 fl_X9_100 hS.1 rfl (tX9_satFor hS).1 ?_
        refine ww_iload_n C dX9_rise_38 1 rfl rfl ?_
        refine ww_iconst (v := (0 : Int32)) C dX9_rise_39 (by decide) ?_
        obtain ⟨hg, H⟩ := gd_of H
        refine wk_iastore C dX9_rise_40 (tX9_satFor hS).2.1 (vp_of hg (tX9_satFor hS).2.2) (a1.toNatClampNeg) rfl ?_
        refine ww_aload_n C dX9_rise_41 0 rfl rfl ?_
        obtain ⟨p3, hc1, H⟩ := bd_of H
        refine ww_callV C hZ dX9_rise_42 cw_X9_460 (ccX9_over hS hc1) hS.1 ⟨by decide, rfl⟩ (by decide) rfl rfl (Nat.le_of_ble_eq_true rfl) ⟨Nat.zero_le _, Nat.zero_le _⟩ (fun v τ hp => ?_)
        obtain ⟨rfl, rfl⟩ := hp
        change WW X _ 45 [.ref m, .int a1] [.int p3.1] _
        cases H
        exact ww_iret C E dX9_rise_45 ⟨rfl, rfl⟩
      · rw [if_neg hc] at H
        refine ww_iconst (v := (-1 : Int32)) C dX9_rise_25 (by decide) ?_
        cases H
        exact ww_iret C E dX9_rise_26 ⟨rfl, rfl⟩
def fX9_sit (m : Nat) (h : HI) (a1 : Int32) (a2 : Int32) : Option (Int32 × HI) := ((fX9_isUp m h a1).bind fun p1 => (if p1.1 = 0 then some ((-1 : Int32), p1.2) else ((fX9_isChair m p1.2 a2).bind fun p2 => (if p2.1 = 0 then some ((-1 : Int32), p2.2) else ((fX9_hasRoom m p2.2 a2).bind fun p3 => (if p3.1 = 0 then some ((-1 : Int32), p3.2) else ((fX9_isLong m p3.2 (1 : Int32)).bind fun p4 => (if p4.1 = 0 then (if inB a1 6 then (if inB a1 6 then ((fX9_over m (uI (uI p4.2 (m + 27) (a1.toNatClampNeg) a2) (m + 29) (a1.toNatClampNeg) (0 : Int32))).bind fun p5 => some (p5.1, p5.2)) else none) else none) else some ((-1 : Int32), p4.2)))))))))
set_option maxRecDepth 100000 in
set_option maxHeartbeats 4000000 in
theorem ccX9_sit {l : Launch} {sh : Sh} {adr : Nat → Nat} {r : Nat → Nat → Option Nat} {m : Nat} (hS : MS sh r m) {h : HI} {a1 : Int32} {a2 : Int32} {p : Int32 × HI} (H : fX9_sit m h a1 a2 = some p) : CC l yX9_sit cX9_sit 3 (some .int) 5 [.ref m, .int a1, .int a2] sh adr (mk h r) (fun v τ => v = some (.int p.1) ∧ τ = mk p.2 r) := by
  refine CC.of (by decide) (Nat.le_of_ble_eq_true rfl) 0 [.ref m, .int a1, .int a2] rfl (fun X _ C E hZ => ?_)
  rw [fX9_sit] at H
  refine ww_aload_n C dX9_sit_0 0 rfl rfl ?_
  refine ww_iload_n C dX9_sit_1 1 rfl rfl ?_
  obtain ⟨p1, hc1, H⟩ := bd_of H
  refine ww_callV C hZ dX9_sit_2 cw_X9_463 (ccX9_isUp hS hc1) hS.1 ⟨by decide, rfl⟩ (by decide) rfl rfl (Nat.le_of_ble_eq_true rfl) ⟨Nat.zero_le _, Nat.zero_le _⟩ (fun v τ hp => ?_)
  obtain ⟨rfl, rfl⟩ := hp
  change WW X _ 5 [.ref m, .int a1, .int a2] [.int p1.1] _
  refine ww_if_eq C dX9_sit_5 32 rfl (fun hc => ?_) (fun hc => ?_)
  · rw [if_pos hc] at H
    refine ww_iconst (v := (-1 : Int32)) C dX9_sit_32 (by decide) ?_
    cases H
    exact ww_iret C E dX9_sit_33 ⟨rfl, rfl⟩
  · rw [if_neg hc] at H
    refine ww_aload_n C dX9_sit_8 0 rfl rfl ?_
    refine ww_iload_n C dX9_sit_9 2 rfl rfl ?_
    obtain ⟨p2, hc1, H⟩ := bd_of H
    refine ww_callV C hZ dX9_sit_10 cw_X9_466 (ccX9_isChair hS hc1) hS.1 ⟨by decide, rfl⟩ (by decide) rfl rfl (Nat.le_of_ble_eq_true rfl) ⟨Nat.zero_le _, Nat.zero_le _⟩ (fun v τ hp => ?_)
    obtain ⟨rfl, rfl⟩ := hp
    change WW X _ 13 [.ref m, .int a1, .int a2] [.int p2.1] _
    refine ww_if_eq C dX9_sit_13 32 rfl (fun hc => ?_) (fun hc => ?_)
    · rw [if_pos hc] at H
      refine ww_iconst (v := (-1 : Int32)) C dX9_sit_32 (by decide) ?_
      cases H
      exact ww_iret C E dX9_sit_33 ⟨rfl, rfl⟩
    · rw [if_neg hc] at H
      refine ww_aload_n C dX9_sit_16 0 rfl rfl ?_
      refine ww_iload_n C dX9_sit_17 2 rfl rfl ?_
      obtain ⟨p3, hc1, H⟩ := bd_of H
      refine ww_callV C hZ dX9_sit_18 cw_X9_448 (ccX9_hasRoom hS hc1) hS.1 ⟨by decide, rfl⟩ (by decide) rfl rfl (Nat.le_of_ble_eq_true rfl) ⟨Nat.zero_le _, Nat.zero_le _⟩ (fun v τ hp => ?_)
      obtain ⟨rfl, rfl⟩ := hp
      change WW X _ 21 [.ref m, .int a1, .int a2] [.int p3.1] _
      refine ww_if_eq C dX9_sit_21 32 rfl (fun hc => ?_) (fun hc => ?_)
      · rw [if_pos hc] at H
        refine ww_iconst (v := (-1 : Int32)) C dX9_sit_32 (by decide) ?_
        cases H
        exact ww_iret C E dX9_sit_33 ⟨rfl, rfl⟩
      · rw [if_neg hc] at H
        refine ww_aload_n C dX9_sit_24 0 rfl rfl ?_
        refine ww_iconst (v := (1 : Int32)) C dX9_sit_25 (by decide) ?_
        obtain ⟨p4, hc1, H⟩ := bd_of H
        refine ww_callV C hZ dX9_sit_26 cw_X9_457 (ccX9_isLong hS hc1) hS.1 ⟨by decide, rfl⟩ (by decide) rfl rfl (Nat.le_of_ble_eq_true rfl) ⟨Nat.zero_le _, Nat.zero_le _⟩ (fun v τ hp => ?_)
        obtain ⟨rfl, rfl⟩ := hp
        change WW X _ 29 [.ref m, .int a1, .int a2] [.int p4.1] _
        refine ww_if_eq C dX9_sit_29 34 rfl (fun hc => ?_) (fun hc => ?_)
        · rw [if_pos hc] at H
          refine ww_aload_n C dX9_sit_34 0 rfl rfl ?_
          refine wk_getR C dX9_sit_35 fl_X9_94 hS.1 rfl (tX9_where hS).1 ?_
          refine ww_iload_n C dX9_sit_38 1 rfl rfl ?_
          refine ww_iload_n C dX9_sit_39 2 rfl rfl ?_
          obtain ⟨hg, H⟩ := gd_of H
          refine wk_iastore C dX9_sit_40 (tX9_where hS).2.1 (vp_of hg (tX9_where hS).2.2) (a1.toNatClampNeg) rfl ?_
          refine ww_aload_n C dX9_sit_41 0 rfl rfl ?_
          refine wk_getR C dX9_sit_42 fl_X9_100 hS.1 rfl (tX9_satFor hS).1 ?_
          refine ww_iload_n C dX9_sit_45 1 rfl rfl ?_
          refine ww_iconst (v := (0 : Int32)) C dX9_sit_46 (by decide) ?_
          obtain ⟨hg, H⟩ := gd_of H
          refine wk_iastore C dX9_sit_47 (tX9_satFor hS).2.1 (vp_of hg (tX9_satFor hS).2.2) (a1.toNatClampNeg) rfl ?_
          refine ww_aload_n C dX9_sit_48 0 rfl rfl ?_
          obtain ⟨p5, hc1, H⟩ := bd_of H
          refine ww_callV C hZ dX9_sit_49 cw_X9_460 (ccX9_over hS hc1) hS.1 ⟨by decide, rfl⟩ (by decide) rfl rfl (Nat.le_of_ble_eq_true rfl) ⟨Nat.zero_le _, Nat.zero_le _⟩ (fun v τ hp => ?_)
          obtain ⟨rfl, rfl⟩ := hp
          change WW X _ 52 [.ref m, .int a1, .int a2] [.int p5.1] _
          cases H
          exact ww_iret C E dX9_sit_52 ⟨rfl, rfl⟩
        · rw [if_neg hc] at H
          refine ww_iconst (v := (-1 : Int32)) C dX9_sit_32 (by decide) ?_
          cases H
          exact ww_iret C E dX9_sit_33 ⟨rfl, rfl⟩
def fX9_layDue_38 (m : Nat) (k : HI → Option (HI)) (kb : HI → Int32 → Option (HI)) (h : HI) (v1 : Int32) : Option (HI) := kb h (v1 + (1 : Int32))
set_option maxRecDepth 100000 in
set_option maxHeartbeats 4000000 in
theorem cX9_layDue_38 {X : CT} {sh : Sh} {adr : Nat → Nat} {r : Nat → Nat → Option Nat} {m : Nat} {p : HI} (hS : MS sh r m) (C : CX X yX9_layDue.cls cX9_layDue 2 1) (hZ : SZX X adr) (E : RX X none sh adr (fun v τ => v = none ∧ τ = mk p r)) {k : HI → Option (HI)} {kb : HI → Int32 → Option (HI)} (hk : ∀ (h : HI), k h = some p → WW X (sh, adr, 0, 0) 44 [.ref m, .retAddr 0] [] (mk h r)) (hb : ∀ (h : HI) (v1 : Int32), kb h v1 = some p → WW X (sh, adr, 0, 0) 2 [.ref m, .int v1] [] (mk h r)) {h : HI} {v1 : Int32} (H : fX9_layDue_38 m k kb h v1 = some p) : WW X (sh, adr, 0, 0) 38 [.ref m, .int v1] [] (mk h r) := by
  rw [fX9_layDue_38] at H
  refine ww_iinc (v := (v1 + (1 : Int32))) C dX9_layDue_38 rfl rfl (by decide) rfl [.ref m, .int (v1 + (1 : Int32))] rfl ?_
  refine ww_goto C dX9_layDue_41 2 rfl ?_
  exact hb h (v1 + (1 : Int32)) H
def fX9_layDue_2 (m : Nat) (k : HI → Option (HI)) : Nat → HI → Int32 → Option (HI)
  | 0, _, _ => none
  | n + 1, h, v1 => (if (h.1 m 45) ≤ v1 then k h else (if inB v1 4 then (if (h.1 (m + 32) (v1.toNatClampNeg)) = 0 then ((fX9_dueSet m h).bind fun p1 => (if ((p1.1 >>> (v1 &&& 31)) &&& (1 : Int32)) = (1 : Int32) then (if inB v1 4 then fX9_layDue_38 m (k) (fX9_layDue_2 m k n) (uI p1.2 (m + 32) (v1.toNatClampNeg) (1 : Int32)) v1 else none) else fX9_layDue_38 m (k) (fX9_layDue_2 m k n) p1.2 v1)) else fX9_layDue_38 m (k) (fX9_layDue_2 m k n) h v1) else none))
set_option maxRecDepth 100000 in
set_option maxHeartbeats 4000000 in
theorem cX9_layDue_2 {X : CT} {sh : Sh} {adr : Nat → Nat} {r : Nat → Nat → Option Nat} {m : Nat} {p : HI} (hS : MS sh r m) (C : CX X yX9_layDue.cls cX9_layDue 2 1) (hZ : SZX X adr) (E : RX X none sh adr (fun v τ => v = none ∧ τ = mk p r)) {k : HI → Option (HI)} (hk : ∀ (h : HI), k h = some p → WW X (sh, adr, 0, 0) 44 [.ref m, .retAddr 0] [] (mk h r)) : ∀ (n : Nat) (h : HI) (v1 : Int32), fX9_layDue_2 m k n h v1 = some p → WW X (sh, adr, 0, 0) 2 [.ref m, .int v1] [] (mk h r) := by
  intro n
  induction n with
  | zero =>
    intro h v1 H
    rw [fX9_layDue_2] at H
    cases H
  | succ n ih =>
    intro h v1 H
    rw [fX9_layDue_2] at H
    refine ww_iload_n C dX9_layDue_2 1 rfl rfl ?_
    refine ww_aload_n C dX9_layDue_3 0 rfl rfl ?_
    refine wk_getI C dX9_layDue_4 fl_X9_398 hS.1 rfl ?_
    refine ww_icmp_ge C dX9_layDue_7 44 rfl (fun hc => ?_) (fun hc => ?_)
    · rw [if_pos hc] at H
      exact ww_drop [.ref m, .retAddr 0] (sl_e (sl_d sl_n)) (hk h H)
    · rw [if_neg hc] at H
      refine ww_aload_n C dX9_layDue_10 0 rfl rfl ?_
      refine wk_getR C dX9_layDue_11 fl_X9_109 hS.1 rfl (tX9_dealState hS).1 ?_
      refine ww_iload_n C dX9_layDue_14 1 rfl rfl ?_
      obtain ⟨hg, H⟩ := gd_of H
      refine wk_iaload C dX9_layDue_15 (tX9_dealState hS).2.1 (vp_of hg (tX9_dealState hS).2.2) (v1.toNatClampNeg) rfl ?_
      refine ww_if_ne C dX9_layDue_16 38 rfl (fun hc => ?_) (fun hc => ?_)
      · rw [if_neg hc] at H
        exact cX9_layDue_38 hS C hZ E hk ih H
      · rw [if_pos hc] at H
        refine ww_aload_n C dX9_layDue_19 0 rfl rfl ?_
        obtain ⟨p1, hc1, H⟩ := bd_of H
        refine ww_callV C hZ dX9_layDue_20 cw_X9_469 (ccX9_dueSet hS hc1) hS.1 ⟨by decide, rfl⟩ (by decide) rfl rfl (Nat.le_of_ble_eq_true rfl) ⟨Nat.zero_le _, Nat.zero_le _⟩ (fun v τ hp => ?_)
        obtain ⟨rfl, rfl⟩ := hp
        change WW X _ 23 [.ref m, .int v1] [.int p1.1] _
        refine ww_iload_n C dX9_layDue_23 1 rfl rfl ?_
        refine ww_ishr C dX9_layDue_24 ?_
        refine ww_iconst (v := (1 : Int32)) C dX9_layDue_25 (by decide) ?_
        refine ww_iand C dX9_layDue_26 ?_
        refine ww_iconst (v := (1 : Int32)) C dX9_layDue_27 (by decide) ?_
        refine ww_icmp_ne C dX9_layDue_28 38 rfl (fun hc => ?_) (fun hc => ?_)
        · rw [if_neg hc] at H
          exact cX9_layDue_38 hS C hZ E hk ih H
        · rw [if_pos hc] at H
          refine ww_aload_n C dX9_layDue_31 0 rfl rfl ?_
          refine wk_getR C dX9_layDue_32 fl_X9_109 hS.1 rfl (tX9_dealState hS).1 ?_
          refine ww_iload_n C dX9_layDue_35 1 rfl rfl ?_
          refine ww_iconst (v := (1 : Int32)) C dX9_layDue_36 (by decide) ?_
          obtain ⟨hg, H⟩ := gd_of H
          refine wk_iastore C dX9_layDue_37 (tX9_dealState hS).2.1 (vp_of hg (tX9_dealState hS).2.2) (v1.toNatClampNeg) rfl ?_
          exact cX9_layDue_38 hS C hZ E hk ih H
def fX9_layDue (m : Nat) (h : HI) : Option (HI) := fX9_layDue_2 m (fun h3 => some h3) FU h (0 : Int32)
set_option maxRecDepth 100000 in
set_option maxHeartbeats 4000000 in
theorem ccX9_layDue {l : Launch} {sh : Sh} {adr : Nat → Nat} {r : Nat → Nat → Option Nat} {m : Nat} (hS : MS sh r m) {h : HI}  {p : HI} (H : fX9_layDue m h = some p) : CC l yX9_layDue cX9_layDue 2 none 1 [.ref m] sh adr (mk h r) (fun v τ => v = none ∧ τ = mk p r) := by
  refine CC.of (by decide) (Nat.le_of_ble_eq_true rfl) 1 [.ref m, .retAddr 0] rfl (fun X _ C E hZ => ?_)
  rw [fX9_layDue] at H
  refine ww_iconst (v := (0 : Int32)) C dX9_layDue_0 (by decide) ?_
  refine ww_istore_n C dX9_layDue_1 1 rfl (by decide) rfl [.ref m, .int (0 : Int32)] rfl ?_
  refine cX9_layDue_2 hS C hZ E (fun h3 H => ?_) FU h (0 : Int32) H
  cases H
  exact ww_vret C E dX9_layDue_44 ⟨rfl, rfl⟩
def fX9_speak (m : Nat) (h : HI) (a1 : Int32) (a2 : Int32) : Option (Int32 × HI) := ((fX9_isUp m h a1).bind fun p1 => (if p1.1 = 0 then some ((-1 : Int32), p1.2) else (if inB a1 6 then (if inB a1 6 then (if (p1.2.1 (m + 18) (a1.toNatClampNeg)) ≤ (p1.2.1 (m + 28) (a1.toNatClampNeg)) then some ((-1 : Int32), p1.2) else ((fX9_isMatter m p1.2 a2).bind fun p2 => (if p2.1 = 0 then some ((-1 : Int32), p2.2) else (if inB a2 4 then (if (2 : Int32) ≤ (p2.2.1 (m + 31) (a2.toNatClampNeg)) then some ((-1 : Int32), p2.2) else ((fX9_isLong m p2.2 (1 : Int32)).bind fun p3 => (if p3.1 = 0 then (if inB a2 4 then (if inB a1 6 then (if inB a1 6 then ((fX9_layDue m (uI (uI p3.2 (m + 31) (a2.toNatClampNeg) (1 : Int32)) (m + 30) (a1.toNatClampNeg) ((p3.2.1 (m + 30) (a1.toNatClampNeg)) ||| ((1 : Int32) <<< (a2 &&& 31))))).bind fun h4 => ((fX9_over m h4).bind fun p5 => some (p5.1, p5.2))) else none) else none) else none) else some ((-1 : Int32), p3.2)))) else none)))) else none) else none)))
set_option maxRecDepth 100000 in
set_option maxHeartbeats 4000000 in
theorem ccX9_speak {l : Launch} {sh : Sh} {adr : Nat → Nat} {r : Nat → Nat → Option Nat} {m : Nat} (hS : MS sh r m) {h : HI} {a1 : Int32} {a2 : Int32} {p : Int32 × HI} (H : fX9_speak m h a1 a2 = some p) : CC l yX9_speak cX9_speak 3 (some .int) 5 [.ref m, .int a1, .int a2] sh adr (mk h r) (fun v τ => v = some (.int p.1) ∧ τ = mk p.2 r) := by
  refine CC.of (by decide) (Nat.le_of_ble_eq_true rfl) 0 [.ref m, .int a1, .int a2] rfl (fun X _ C E hZ => ?_)
  rw [fX9_speak] at H
  refine ww_aload_n C dX9_speak_0 0 rfl rfl ?_
  refine ww_iload_n C dX9_speak_1 1 rfl rfl ?_
  obtain ⟨p1, hc1, H⟩ := bd_of H
  refine ww_callV C hZ dX9_speak_2 cw_X9_463 (ccX9_isUp hS hc1) hS.1 ⟨by decide, rfl⟩ (by decide) rfl rfl (Nat.le_of_ble_eq_true rfl) ⟨Nat.zero_le _, Nat.zero_le _⟩ (fun v τ hp => ?_)
  obtain ⟨rfl, rfl⟩ := hp
  change WW X _ 5 [.ref m, .int a1, .int a2] [.int p1.1] _
  refine ww_if_eq C dX9_speak_5 49 rfl (fun hc => ?_) (fun hc => ?_)
  · rw [if_pos hc] at H
    refine ww_iconst (v := (-1 : Int32)) C dX9_speak_49 (by decide) ?_
    cases H
    exact ww_iret C E dX9_speak_50 ⟨rfl, rfl⟩
  · rw [if_neg hc] at H
    refine ww_aload_n C dX9_speak_8 0 rfl rfl ?_
    refine wk_getR C dX9_speak_9 fl_X9_97 hS.1 rfl (tX9_tired hS).1 ?_
    refine ww_iload_n C dX9_speak_12 1 rfl rfl ?_
    obtain ⟨hg, H⟩ := gd_of H
    refine wk_iaload C dX9_speak_13 (tX9_tired hS).2.1 (vp_of hg (tX9_tired hS).2.2) (a1.toNatClampNeg) rfl ?_
    refine ww_aload_n C dX9_speak_14 0 rfl rfl ?_
    refine wk_getR C dX9_speak_15 fl_X9_66 hS.1 rfl (tX9_strong hS).1 ?_
    refine ww_iload_n C dX9_speak_18 1 rfl rfl ?_
    obtain ⟨hg, H⟩ := gd_of H
    refine wk_iaload C dX9_speak_19 (tX9_strong hS).2.1 (vp_of hg (tX9_strong hS).2.2) (a1.toNatClampNeg) rfl ?_
    refine ww_icmp_ge C dX9_speak_20 49 rfl (fun hc => ?_) (fun hc => ?_)
    · rw [if_pos hc] at H
      refine ww_iconst (v := (-1 : Int32)) C dX9_speak_49 (by decide) ?_
      cases H
      exact ww_iret C E dX9_speak_50 ⟨rfl, rfl⟩
    · rw [if_neg hc] at H
      refine ww_aload_n C dX9_speak_23 0 rfl rfl ?_
      refine ww_iload_n C dX9_speak_24 2 rfl rfl ?_
      obtain ⟨p2, hc1, H⟩ := bd_of H
      refine ww_callV C hZ dX9_speak_25 cw_X9_472 (ccX9_isMatter hS hc1) hS.1 ⟨by decide, rfl⟩ (by decide) rfl rfl (Nat.le_of_ble_eq_true rfl) ⟨Nat.zero_le _, Nat.zero_le _⟩ (fun v τ hp => ?_)
      obtain ⟨rfl, rfl⟩ := hp
      change WW X _ 28 [.ref m, .int a1, .int a2] [.int p2.1] _
      refine ww_if_eq C dX9_speak_28 49 rfl (fun hc => ?_) (fun hc => ?_)
      · rw [if_pos hc] at H
        refine ww_iconst (v := (-1 : Int32)) C dX9_speak_49 (by decide) ?_
        cases H
        exact ww_iret C E dX9_speak_50 ⟨rfl, rfl⟩
      · rw [if_neg hc] at H
        refine ww_aload_n C dX9_speak_31 0 rfl rfl ?_
        refine wk_getR C dX9_speak_32 fl_X9_106 hS.1 rfl (tX9_state hS).1 ?_
        refine ww_iload_n C dX9_speak_35 2 rfl rfl ?_
        obtain ⟨hg, H⟩ := gd_of H
        refine wk_iaload C dX9_speak_36 (tX9_state hS).2.1 (vp_of hg (tX9_state hS).2.2) (a2.toNatClampNeg) rfl ?_
        refine ww_iconst (v := (2 : Int32)) C dX9_speak_37 (by decide) ?_
        refine ww_icmp_ge C dX9_speak_38 49 rfl (fun hc => ?_) (fun hc => ?_)
        · rw [if_pos hc] at H
          refine ww_iconst (v := (-1 : Int32)) C dX9_speak_49 (by decide) ?_
          cases H
          exact ww_iret C E dX9_speak_50 ⟨rfl, rfl⟩
        · rw [if_neg hc] at H
          refine ww_aload_n C dX9_speak_41 0 rfl rfl ?_
          refine ww_iconst (v := (1 : Int32)) C dX9_speak_42 (by decide) ?_
          obtain ⟨p3, hc1, H⟩ := bd_of H
          refine ww_callV C hZ dX9_speak_43 cw_X9_457 (ccX9_isLong hS hc1) hS.1 ⟨by decide, rfl⟩ (by decide) rfl rfl (Nat.le_of_ble_eq_true rfl) ⟨Nat.zero_le _, Nat.zero_le _⟩ (fun v τ hp => ?_)
          obtain ⟨rfl, rfl⟩ := hp
          change WW X _ 46 [.ref m, .int a1, .int a2] [.int p3.1] _
          refine ww_if_eq C dX9_speak_46 51 rfl (fun hc => ?_) (fun hc => ?_)
          · rw [if_pos hc] at H
            refine ww_aload_n C dX9_speak_51 0 rfl rfl ?_
            refine wk_getR C dX9_speak_52 fl_X9_106 hS.1 rfl (tX9_state hS).1 ?_
            refine ww_iload_n C dX9_speak_55 2 rfl rfl ?_
            refine ww_iconst (v := (1 : Int32)) C dX9_speak_56 (by decide) ?_
            obtain ⟨hg, H⟩ := gd_of H
            refine wk_iastore C dX9_speak_57 (tX9_state hS).2.1 (vp_of hg (tX9_state hS).2.2) (a2.toNatClampNeg) rfl ?_
            refine ww_aload_n C dX9_speak_58 0 rfl rfl ?_
            refine wk_getR C dX9_speak_59 fl_X9_103 hS.1 rfl (tX9_spoke hS).1 ?_
            refine ww_iload_n C dX9_speak_62 1 rfl rfl ?_
            refine ww_dup2 C dX9_speak_63 rfl rfl ?_
            obtain ⟨hg, H⟩ := gd_of H
            refine wk_iaload C dX9_speak_64 (tX9_spoke hS).2.1 (vp_of hg (tX9_spoke hS).2.2) (a1.toNatClampNeg) rfl ?_
            refine ww_as (v := (p3.2.1 (m + 30) (a1.toNatClampNeg))) (by rw [uI_n (by omega)]) ?_
            refine ww_iconst (v := (1 : Int32)) C dX9_speak_65 (by decide) ?_
            refine ww_iload_n C dX9_speak_66 2 rfl rfl ?_
            refine ww_ishl C dX9_speak_67 ?_
            refine ww_ior C dX9_speak_68 ?_
            obtain ⟨hg, H⟩ := gd_of H
            refine wk_iastore C dX9_speak_69 (tX9_spoke hS).2.1 (vp_of hg (tX9_spoke hS).2.2) (a1.toNatClampNeg) rfl ?_
            refine ww_aload_n C dX9_speak_70 0 rfl rfl ?_
            obtain ⟨h4, hc1, H⟩ := bd_of H
            refine ww_callV C hZ dX9_speak_71 cw_X9_475 (ccX9_layDue hS hc1) hS.1 ⟨by decide, rfl⟩ (by decide) rfl rfl (Nat.le_of_ble_eq_true rfl) ⟨Nat.zero_le _, Nat.zero_le _⟩ (fun v τ hp => ?_)
            obtain ⟨rfl, rfl⟩ := hp
            change WW X _ 74 [.ref m, .int a1, .int a2] [] _
            refine ww_aload_n C dX9_speak_74 0 rfl rfl ?_
            obtain ⟨p5, hc1, H⟩ := bd_of H
            refine ww_callV C hZ dX9_speak_75 cw_X9_460 (ccX9_over hS hc1) hS.1 ⟨by decide, rfl⟩ (by decide) rfl rfl (Nat.le_of_ble_eq_true rfl) ⟨Nat.zero_le _, Nat.zero_le _⟩ (fun v τ hp => ?_)
            obtain ⟨rfl, rfl⟩ := hp
            change WW X _ 78 [.ref m, .int a1, .int a2] [.int p5.1] _
            cases H
            exact ww_iret C E dX9_speak_78 ⟨rfl, rfl⟩
          · rw [if_neg hc] at H
            refine ww_iconst (v := (-1 : Int32)) C dX9_speak_49 (by decide) ?_
            cases H
            exact ww_iret C E dX9_speak_50 ⟨rfl, rfl⟩
def fX9_keep_170 (m : Nat) (k : HI → Option (HI)) (kb : HI → Int32 → Int32 → Int32 → Option (HI)) (h : HI) (v1 : Int32) (v2 : Int32) (v5 : Int32) : Option (HI) := kb h v1 v2 (v5 + (1 : Int32))
set_option maxRecDepth 100000 in
set_option maxHeartbeats 4000000 in
theorem cX9_keep_170 {X : CT} {sh : Sh} {adr : Nat → Nat} {r : Nat → Nat → Option Nat} {m : Nat} {p : HI} (hS : MS sh r m) (C : CX X yX9_keep.cls cX9_keep 6 2) (hZ : SZX X adr) (E : RX X none sh adr (fun v τ => v = none ∧ τ = mk p r)) {k : HI → Option (HI)} {kb : HI → Int32 → Int32 → Int32 → Option (HI)} (hk : ∀ (h : HI), k h = some p → WW X (sh, adr, 0, 0) 176 [.ref m, .retAddr 0, .retAddr 0, .retAddr 0, .retAddr 0, .retAddr 0] [] (mk h r)) (hb : ∀ (h : HI) (v1 : Int32) (v2 : Int32) (v5 : Int32), kb h v1 v2 v5 = some p → WW X (sh, adr, 0, 0) 106 [.ref m, .int v1, .int v2, .retAddr 0, .retAddr 0, .int v5] [] (mk h r)) {h : HI} {v1 : Int32} {v2 : Int32} {v5 : Int32} (H : fX9_keep_170 m k kb h v1 v2 v5 = some p) : WW X (sh, adr, 0, 0) 170 [.ref m, .int v1, .int v2, .retAddr 0, .retAddr 0, .int v5] [] (mk h r) := by
  rw [fX9_keep_170] at H
  refine ww_iinc (v := (v5 + (1 : Int32))) C dX9_keep_170 rfl rfl (by decide) rfl [.ref m, .int v1, .int v2, .retAddr 0, .retAddr 0, .int (v5 + (1 : Int32))] rfl ?_
  refine ww_goto C dX9_keep_173 106 rfl ?_
  exact hb h v1 v2 (v5 + (1 : Int32)) H
def fX9_keep_169 (m : Nat) (k : HI → Option (HI)) (kb : HI → Int32 → Int32 → Int32 → Option (HI)) (h : HI) (v1 : Int32) (v2 : Int32) (v5 : Int32) (s0 : Int32) (s1 : Int32) : Option (HI) := (if inB s1 4 then fX9_keep_170 m k kb (uI h (m + 32) (s1.toNatClampNeg) s0) v1 v2 v5 else none)
set_option maxRecDepth 100000 in
set_option maxHeartbeats 4000000 in
theorem cX9_keep_169 {X : CT} {sh : Sh} {adr : Nat → Nat} {r : Nat → Nat → Option Nat} {m : Nat} {p : HI} (hS : MS sh r m) (C : CX X yX9_keep.cls cX9_keep 6 2) (hZ : SZX X adr) (E : RX X none sh adr (fun v τ => v = none ∧ τ = mk p r)) {k : HI → Option (HI)} {kb : HI → Int32 → Int32 → Int32 → Option (HI)} (hk : ∀ (h : HI), k h = some p → WW X (sh, adr, 0, 0) 176 [.ref m, .retAddr 0, .retAddr 0, .retAddr 0, .retAddr 0, .retAddr 0] [] (mk h r)) (hb : ∀ (h : HI) (v1 : Int32) (v2 : Int32) (v5 : Int32), kb h v1 v2 v5 = some p → WW X (sh, adr, 0, 0) 106 [.ref m, .int v1, .int v2, .retAddr 0, .retAddr 0, .int v5] [] (mk h r)) {h : HI} {v1 : Int32} {v2 : Int32} {v5 : Int32} {s0 : Int32} {s1 : Int32} (H : fX9_keep_169 m k kb h v1 v2 v5 s0 s1 = some p) : WW X (sh, adr, 0, 0) 169 [.ref m, .int v1, .int v2, .retAddr 0, .retAddr 0, .int v5] [.int s0, .int s1, .ref (m + 32)] (mk h r) := by
  rw [fX9_keep_169] at H
  obtain ⟨hg, H⟩ := gd_of H
  refine wk_iastore C dX9_keep_169 (tX9_dealState hS).2.1 (vp_of hg (tX9_dealState hS).2.2) (s1.toNatClampNeg) rfl ?_
  exact cX9_keep_170 hS C hZ E hk hb H
def fX9_keep_106 (m : Nat) (k : HI → Option (HI)) : Nat → HI → Int32 → Int32 → Int32 → Option (HI)
  | 0, _, _, _, _ => none
  | n + 1, h, v1, v2, v5 => (if (h.1 m 45) ≤ v5 then k h else (if inB v5 4 then (if (h.1 (m + 32) (v5.toNatClampNeg)) = (1 : Int32) then (if inB (((4 : Int32) * v5) + (1 : Int32)) 16 then (if (h.1 (m + 21) ((((4 : Int32) * v5) + (1 : Int32)).toNatClampNeg)) = v1 then (if inB ((4 : Int32) * v5) 16 then (if ((v2 >>> ((h.1 (m + 21) (((4 : Int32) * v5).toNatClampNeg)) &&& 31)) &&& (1 : Int32)) = (1 : Int32) then fX9_keep_169 m (k) (fX9_keep_106 m k n) h v1 v2 v5 (2 : Int32) v5 else fX9_keep_169 m (k) (fX9_keep_106 m k n) h v1 v2 v5 (3 : Int32) v5) else none) else fX9_keep_170 m (k) (fX9_keep_106 m k n) h v1 v2 v5) else none) else fX9_keep_170 m (k) (fX9_keep_106 m k n) h v1 v2 v5) else none))
set_option maxRecDepth 100000 in
set_option maxHeartbeats 4000000 in
theorem cX9_keep_106 {X : CT} {sh : Sh} {adr : Nat → Nat} {r : Nat → Nat → Option Nat} {m : Nat} {p : HI} (hS : MS sh r m) (C : CX X yX9_keep.cls cX9_keep 6 2) (hZ : SZX X adr) (E : RX X none sh adr (fun v τ => v = none ∧ τ = mk p r)) {k : HI → Option (HI)} (hk : ∀ (h : HI), k h = some p → WW X (sh, adr, 0, 0) 176 [.ref m, .retAddr 0, .retAddr 0, .retAddr 0, .retAddr 0, .retAddr 0] [] (mk h r)) : ∀ (n : Nat) (h : HI) (v1 : Int32) (v2 : Int32) (v5 : Int32), fX9_keep_106 m k n h v1 v2 v5 = some p → WW X (sh, adr, 0, 0) 106 [.ref m, .int v1, .int v2, .retAddr 0, .retAddr 0, .int v5] [] (mk h r) := by
  intro n
  induction n with
  | zero =>
    intro h v1 v2 v5 H
    rw [fX9_keep_106] at H
    cases H
  | succ n ih =>
    intro h v1 v2 v5 H
    rw [fX9_keep_106] at H
    refine ww_iload C dX9_keep_106 rfl ?_
    refine ww_aload_n C dX9_keep_108 0 rfl rfl ?_
    refine wk_getI C dX9_keep_109 fl_X9_398 hS.1 rfl ?_
    refine ww_icmp_ge C dX9_keep_112 176 rfl (fun hc => ?_) (fun hc => ?_)
    · rw [if_pos hc] at H
      exact ww_drop [.ref m, .retAddr 0, .retAddr 0, .retAddr 0, .retAddr 0, .retAddr 0] (sl_e (sl_d (sl_d (sl_e (sl_e (sl_d sl_n)))))) (hk h H)
    · rw [if_neg hc] at H
      refine ww_aload_n C dX9_keep_115 0 rfl rfl ?_
      refine wk_getR C dX9_keep_116 fl_X9_109 hS.1 rfl (tX9_dealState hS).1 ?_
      refine ww_iload C dX9_keep_119 rfl ?_
      obtain ⟨hg, H⟩ := gd_of H
      refine wk_iaload C dX9_keep_121 (tX9_dealState hS).2.1 (vp_of hg (tX9_dealState hS).2.2) (v5.toNatClampNeg) rfl ?_
      refine ww_iconst (v := (1 : Int32)) C dX9_keep_122 (by decide) ?_
      refine ww_icmp_ne C dX9_keep_123 170 rfl (fun hc => ?_) (fun hc => ?_)
      · rw [if_neg hc] at H
        exact cX9_keep_170 hS C hZ E hk ih H
      · rw [if_pos hc] at H
        refine ww_aload_n C dX9_keep_126 0 rfl rfl ?_
        refine wk_getR C dX9_keep_127 fl_X9_75 hS.1 rfl (tX9_deal hS).1 ?_
        refine ww_iconst (v := (4 : Int32)) C dX9_keep_130 (by decide) ?_
        refine ww_iload C dX9_keep_131 rfl ?_
        refine ww_imul C dX9_keep_133 ?_
        refine ww_iconst (v := (1 : Int32)) C dX9_keep_134 (by decide) ?_
        refine ww_iadd C dX9_keep_135 ?_
        obtain ⟨hg, H⟩ := gd_of H
        refine wk_iaload C dX9_keep_136 (tX9_deal hS).2.1 (vp_of hg (tX9_deal hS).2.2) ((((4 : Int32) * v5) + (1 : Int32)).toNatClampNeg) rfl ?_
        refine ww_iload_n C dX9_keep_137 1 rfl rfl ?_
        refine ww_icmp_ne C dX9_keep_138 170 rfl (fun hc => ?_) (fun hc => ?_)
        · rw [if_neg hc] at H
          exact cX9_keep_170 hS C hZ E hk ih H
        · rw [if_pos hc] at H
          refine ww_aload_n C dX9_keep_141 0 rfl rfl ?_
          refine wk_getR C dX9_keep_142 fl_X9_109 hS.1 rfl (tX9_dealState hS).1 ?_
          refine ww_iload C dX9_keep_145 rfl ?_
          refine ww_iload_n C dX9_keep_147 2 rfl rfl ?_
          refine ww_aload_n C dX9_keep_148 0 rfl rfl ?_
          refine wk_getR C dX9_keep_149 fl_X9_75 hS.1 rfl (tX9_deal hS).1 ?_
          refine ww_iconst (v := (4 : Int32)) C dX9_keep_152 (by decide) ?_
          refine ww_iload C dX9_keep_153 rfl ?_
          refine ww_imul C dX9_keep_155 ?_
          obtain ⟨hg, H⟩ := gd_of H
          refine wk_iaload C dX9_keep_156 (tX9_deal hS).2.1 (vp_of hg (tX9_deal hS).2.2) (((4 : Int32) * v5).toNatClampNeg) rfl ?_
          refine ww_ishr C dX9_keep_157 ?_
          refine ww_iconst (v := (1 : Int32)) C dX9_keep_158 (by decide) ?_
          refine ww_iand C dX9_keep_159 ?_
          refine ww_iconst (v := (1 : Int32)) C dX9_keep_160 (by decide) ?_
          refine ww_icmp_ne C dX9_keep_161 168 rfl (fun hc => ?_) (fun hc => ?_)
          · rw [if_neg hc] at H
            refine ww_iconst (v := (3 : Int32)) C dX9_keep_168 (by decide) ?_
            exact cX9_keep_169 hS C hZ E hk ih H
          · rw [if_pos hc] at H
            refine ww_iconst (v := (2 : Int32)) C dX9_keep_164 (by decide) ?_
            refine ww_goto C dX9_keep_165 169 rfl ?_
            exact cX9_keep_169 hS C hZ E hk ih H
def fX9_keep_93 (m : Nat) (h : HI) (v1 : Int32) (v2 : Int32) : Option (HI) := fX9_keep_106 m (fun h2 => some h2) FU (uI h m 58 ((h.1 m 58) + (1 : Int32))) v1 v2 (0 : Int32)
set_option maxRecDepth 100000 in
set_option maxHeartbeats 4000000 in
theorem cX9_keep_93 {X : CT} {sh : Sh} {adr : Nat → Nat} {r : Nat → Nat → Option Nat} {m : Nat} {p : HI} (hS : MS sh r m) (C : CX X yX9_keep.cls cX9_keep 6 2) (hZ : SZX X adr) (E : RX X none sh adr (fun v τ => v = none ∧ τ = mk p r)) {h : HI} {v1 : Int32} {v2 : Int32} (H : fX9_keep_93 m h v1 v2 = some p) : WW X (sh, adr, 0, 0) 93 [.ref m, .int v1, .int v2, .retAddr 0, .retAddr 0, .retAddr 0] [] (mk h r) := by
  rw [fX9_keep_93] at H
  refine ww_aload_n C dX9_keep_93 0 rfl rfl ?_
  refine ww_dup C dX9_keep_94 rfl ?_
  refine wk_getI C dX9_keep_95 fl_X9_427 hS.1 rfl ?_
  refine ww_iconst (v := (1 : Int32)) C dX9_keep_98 (by decide) ?_
  refine ww_iadd C dX9_keep_99 ?_
  refine wk_putI C dX9_keep_100 fl_X9_427 hS.1 rfl rfl ?_
  refine ww_iconst (v := (0 : Int32)) C dX9_keep_103 (by decide) ?_
  refine ww_istore C dX9_keep_104 (by decide) rfl [.ref m, .int v1, .int v2, .retAddr 0, .retAddr 0, .int (0 : Int32)] rfl ?_
  refine cX9_keep_106 hS C hZ E (fun h2 H => ?_) FU (uI h m 58 ((h.1 m 58) + (1 : Int32))) v1 v2 (0 : Int32) H
  cases H
  exact ww_vret C E dX9_keep_176 ⟨rfl, rfl⟩
def fX9_keep_92 (m : Nat) (h : HI) (v1 : Int32) (v2 : Int32) (s0 : Int32) (s1 : Int32) : Option (HI) := (if inB s1 600 then fX9_keep_93 m (uI h (m + 35) (s1.toNatClampNeg) s0) v1 v2 else none)
set_option maxRecDepth 100000 in
set_option maxHeartbeats 4000000 in
theorem cX9_keep_92 {X : CT} {sh : Sh} {adr : Nat → Nat} {r : Nat → Nat → Option Nat} {m : Nat} {p : HI} (hS : MS sh r m) (C : CX X yX9_keep.cls cX9_keep 6 2) (hZ : SZX X adr) (E : RX X none sh adr (fun v τ => v = none ∧ τ = mk p r)) {h : HI} {v1 : Int32} {v2 : Int32} {s0 : Int32} {s1 : Int32} (H : fX9_keep_92 m h v1 v2 s0 s1 = some p) : WW X (sh, adr, 0, 0) 92 [.ref m, .int v1, .int v2, .retAddr 0, .retAddr 0, .retAddr 0] [.int s0, .int s1, .ref (m + 35)] (mk h r) := by
  rw [fX9_keep_92] at H
  obtain ⟨hg, H⟩ := gd_of H
  refine wk_iastore C dX9_keep_92 (tX9_kept hS).2.1 (vp_of hg (tX9_kept hS).2.2) (s1.toNatClampNeg) rfl ?_
  exact cX9_keep_93 hS C hZ E H
def fX9_keep (m : Nat) (h : HI) (a1 : Int32) (a2 : Int32) (a3 : Int32) (a4 : Int32) : Option (HI) := (if (100 : Int32) ≤ (h.1 m 58) then fX9_keep_93 m h a1 a2 else (if inB ((6 : Int32) * (h.1 m 58)) 600 then (if inB (((6 : Int32) * (h.1 m 58)) + (1 : Int32)) 600 then (if inB (((6 : Int32) * (h.1 m 58)) + (2 : Int32)) 600 then (if inB (((6 : Int32) * (h.1 m 58)) + (3 : Int32)) 600 then ((fX9_upSet m (uI (uI (uI (uI h (m + 35) (((6 : Int32) * (h.1 m 58)).toNatClampNeg) ((h.1 m 57) + (1 : Int32))) (m + 35) ((((6 : Int32) * (h.1 m 58)) + (1 : Int32)).toNatClampNeg) a1) (m + 35) ((((6 : Int32) * (h.1 m 58)) + (2 : Int32)).toNatClampNeg) a2) (m + 35) ((((6 : Int32) * (h.1 m 58)) + (3 : Int32)).toNatClampNeg) a3)).bind fun p3 => (if inB (((6 : Int32) * (h.1 m 58)) + (4 : Int32)) 600 then (if a4 = 0 then fX9_keep_92 m (uI p3.2 (m + 35) ((((6 : Int32) * (h.1 m 58)) + (4 : Int32)).toNatClampNeg) p3.1) a1 a2 (0 : Int32) (((6 : Int32) * (h.1 m 58)) + (5 : Int32)) else fX9_keep_92 m (uI p3.2 (m + 35) ((((6 : Int32) * (h.1 m 58)) + (4 : Int32)).toNatClampNeg) p3.1) a1 a2 (1 : Int32) (((6 : Int32) * (h.1 m 58)) + (5 : Int32))) else none)) else none) else none) else none) else none))
set_option maxRecDepth 100000 in
set_option maxHeartbeats 4000000 in
theorem ccX9_keep {l : Launch} {sh : Sh} {adr : Nat → Nat} {r : Nat → Nat → Option Nat} {m : Nat} (hS : MS sh r m) {h : HI} {a1 : Int32} {a2 : Int32} {a3 : Int32} {a4 : Int32} {p : HI} (H : fX9_keep m h a1 a2 a3 a4 = some p) : CC l yX9_keep cX9_keep 6 none 2 [.ref m, .int a1, .int a2, .int a3, .int a4] sh adr (mk h r) (fun v τ => v = none ∧ τ = mk p r) := by
  refine CC.of (by decide) (Nat.le_of_ble_eq_true rfl) 1 [.ref m, .int a1, .int a2, .int a3, .int a4, .retAddr 0] rfl (fun X _ C E hZ => ?_)
  rw [fX9_keep] at H
  refine ww_aload_n C dX9_keep_0 0 rfl rfl ?_
  refine wk_getI C dX9_keep_1 fl_X9_427 hS.1 rfl ?_
  refine ww_bipush (v := (100 : Int32)) C dX9_keep_4 (by decide) ?_
  refine ww_icmp_ge C dX9_keep_6 93 rfl (fun hc => ?_) (fun hc => ?_)
  · rw [if_pos hc] at H
    exact ww_drop [.ref m, .int a1, .int a2, .retAddr 0, .retAddr 0, .retAddr 0] (sl_e (sl_e (sl_e (sl_d (sl_d (sl_e sl_n)))))) (cX9_keep_93 hS C hZ E H)
  · rw [if_neg hc] at H
    refine ww_bipush (v := (6 : Int32)) C dX9_keep_9 (by decide) ?_
    refine ww_aload_n C dX9_keep_11 0 rfl rfl ?_
    refine wk_getI C dX9_keep_12 fl_X9_427 hS.1 rfl ?_
    refine ww_imul C dX9_keep_15 ?_
    refine ww_istore C dX9_keep_16 (by decide) rfl [.ref m, .int a1, .int a2, .int a3, .int a4, .int ((6 : Int32) * (h.1 m 58))] rfl ?_
    refine ww_aload_n C dX9_keep_18 0 rfl rfl ?_
    refine wk_getR C dX9_keep_19 fl_X9_118 hS.1 rfl (tX9_kept hS).1 ?_
    refine ww_iload C dX9_keep_22 rfl ?_
    refine ww_aload_n C dX9_keep_24 0 rfl rfl ?_
    refine wk_getI C dX9_keep_25 fl_X9_424 hS.1 rfl ?_
    refine ww_iconst (v := (1 : Int32)) C dX9_keep_28 (by decide) ?_
    refine ww_iadd C dX9_keep_29 ?_
    obtain ⟨hg, H⟩ := gd_of H
    refine wk_iastore C dX9_keep_30 (tX9_kept hS).2.1 (vp_of hg (tX9_kept hS).2.2) (((6 : Int32) * (h.1 m 58)).toNatClampNeg) rfl ?_
    refine ww_aload_n C dX9_keep_31 0 rfl rfl ?_
    refine wk_getR C dX9_keep_32 fl_X9_118 hS.1 rfl (tX9_kept hS).1 ?_
    refine ww_iload C dX9_keep_35 rfl ?_
    refine ww_iconst (v := (1 : Int32)) C dX9_keep_37 (by decide) ?_
    refine ww_iadd C dX9_keep_38 ?_
    refine ww_iload_n C dX9_keep_39 1 rfl rfl ?_
    obtain ⟨hg, H⟩ := gd_of H
    refine wk_iastore C dX9_keep_40 (tX9_kept hS).2.1 (vp_of hg (tX9_kept hS).2.2) ((((6 : Int32) * (h.1 m 58)) + (1 : Int32)).toNatClampNeg) rfl ?_
    refine ww_aload_n C dX9_keep_41 0 rfl rfl ?_
    refine wk_getR C dX9_keep_42 fl_X9_118 hS.1 rfl (tX9_kept hS).1 ?_
    refine ww_iload C dX9_keep_45 rfl ?_
    refine ww_iconst (v := (2 : Int32)) C dX9_keep_47 (by decide) ?_
    refine ww_iadd C dX9_keep_48 ?_
    refine ww_iload_n C dX9_keep_49 2 rfl rfl ?_
    obtain ⟨hg, H⟩ := gd_of H
    refine wk_iastore C dX9_keep_50 (tX9_kept hS).2.1 (vp_of hg (tX9_kept hS).2.2) ((((6 : Int32) * (h.1 m 58)) + (2 : Int32)).toNatClampNeg) rfl ?_
    refine ww_aload_n C dX9_keep_51 0 rfl rfl ?_
    refine wk_getR C dX9_keep_52 fl_X9_118 hS.1 rfl (tX9_kept hS).1 ?_
    refine ww_iload C dX9_keep_55 rfl ?_
    refine ww_iconst (v := (3 : Int32)) C dX9_keep_57 (by decide) ?_
    refine ww_iadd C dX9_keep_58 ?_
    refine ww_iload_n C dX9_keep_59 3 rfl rfl ?_
    obtain ⟨hg, H⟩ := gd_of H
    refine wk_iastore C dX9_keep_60 (tX9_kept hS).2.1 (vp_of hg (tX9_kept hS).2.2) ((((6 : Int32) * (h.1 m 58)) + (3 : Int32)).toNatClampNeg) rfl ?_
    refine ww_aload_n C dX9_keep_61 0 rfl rfl ?_
    refine wk_getR C dX9_keep_62 fl_X9_118 hS.1 rfl (tX9_kept hS).1 ?_
    refine ww_iload C dX9_keep_65 rfl ?_
    refine ww_iconst (v := (4 : Int32)) C dX9_keep_67 (by decide) ?_
    refine ww_iadd C dX9_keep_68 ?_
    refine ww_aload_n C dX9_keep_69 0 rfl rfl ?_
    obtain ⟨p3, hc1, H⟩ := bd_of H
    refine ww_callV C hZ dX9_keep_70 cw_X9_478 (ccX9_upSet hS hc1) hS.1 ⟨by decide, rfl⟩ (by decide) rfl rfl (Nat.le_of_ble_eq_true rfl) ⟨Nat.zero_le _, Nat.zero_le _⟩ (fun v τ hp => ?_)
    obtain ⟨rfl, rfl⟩ := hp
    change WW X _ 73 [.ref m, .int a1, .int a2, .int a3, .int a4, .int ((6 : Int32) * (h.1 m 58))] [.int p3.1, .int (((6 : Int32) * (h.1 m 58)) + (4 : Int32)), .ref (m + 35)] _
    obtain ⟨hg, H⟩ := gd_of H
    refine wk_iastore C dX9_keep_73 (tX9_kept hS).2.1 (vp_of hg (tX9_kept hS).2.2) ((((6 : Int32) * (h.1 m 58)) + (4 : Int32)).toNatClampNeg) rfl ?_
    refine ww_aload_n C dX9_keep_74 0 rfl rfl ?_
    refine wk_getR C dX9_keep_75 fl_X9_118 hS.1 rfl (tX9_kept hS).1 ?_
    refine ww_iload C dX9_keep_78 rfl ?_
    refine ww_iconst (v := (5 : Int32)) C dX9_keep_80 (by decide) ?_
    refine ww_iadd C dX9_keep_81 ?_
    refine ww_iload C dX9_keep_82 rfl ?_
    refine ww_if_eq C dX9_keep_84 91 rfl (fun hc => ?_) (fun hc => ?_)
    · rw [if_pos hc] at H
      refine ww_iconst (v := (0 : Int32)) C dX9_keep_91 (by decide) ?_
      exact ww_drop [.ref m, .int a1, .int a2, .retAddr 0, .retAddr 0, .retAddr 0] (sl_e (sl_e (sl_e (sl_d (sl_d (sl_d sl_n)))))) (cX9_keep_92 hS C hZ E H)
    · rw [if_neg hc] at H
      refine ww_iconst (v := (1 : Int32)) C dX9_keep_87 (by decide) ?_
      refine ww_goto C dX9_keep_88 92 rfl ?_
      exact ww_drop [.ref m, .int a1, .int a2, .retAddr 0, .retAddr 0, .retAddr 0] (sl_e (sl_e (sl_e (sl_d (sl_d (sl_d sl_n)))))) (cX9_keep_92 hS C hZ E H)
def fX9_vote_110 (m : Nat) (h : HI) (v1 : Int32) (v2 : Int32) (v3 : Int32) (v5 : Int32) (s0 : Int32) (s1 : Int32) : Option (Int32 × HI) := (if inB s1 4 then ((fX9_keep m (uI h (m + 31) (s1.toNatClampNeg) s0) v1 v2 v3 v5).bind fun h17 => ((fX9_over m h17).bind fun p18 => (if v5 = 0 then (if 0 ≤ p18.1 then some ((0 : Int32), p18.2) else some ((-1 : Int32), p18.2)) else some ((1 : Int32), p18.2)))) else none)
set_option maxRecDepth 100000 in
set_option maxHeartbeats 4000000 in
theorem cX9_vote_110 {X : CT} {sh : Sh} {adr : Nat → Nat} {r : Nat → Nat → Option Nat} {m : Nat} {p : Int32 × HI} (hS : MS sh r m) (C : CX X yX9_vote.cls cX9_vote 7 5) (hZ : SZX X adr) (E : RX X (some .int) sh adr (fun v τ => v = some (.int p.1) ∧ τ = mk p.2 r)) {h : HI} {v1 : Int32} {v2 : Int32} {v3 : Int32} {v5 : Int32} {s0 : Int32} {s1 : Int32} (H : fX9_vote_110 m h v1 v2 v3 v5 s0 s1 = some p) : WW X (sh, adr, 0, 0) 110 [.ref m, .int v1, .int v2, .int v3, .retAddr 0, .int v5, .retAddr 0] [.int s0, .int s1, .ref (m + 31)] (mk h r) := by
  rw [fX9_vote_110] at H
  obtain ⟨hg, H⟩ := gd_of H
  refine wk_iastore C dX9_vote_110 (tX9_state hS).2.1 (vp_of hg (tX9_state hS).2.2) (s1.toNatClampNeg) rfl ?_
  refine ww_aload_n C dX9_vote_111 0 rfl rfl ?_
  refine ww_iload_n C dX9_vote_112 1 rfl rfl ?_
  refine ww_iload_n C dX9_vote_113 2 rfl rfl ?_
  refine ww_iload_n C dX9_vote_114 3 rfl rfl ?_
  refine ww_iload C dX9_vote_115 rfl ?_
  obtain ⟨h17, hc1, H⟩ := bd_of H
  refine ww_callV C hZ dX9_vote_117 cw_X9_497 (ccX9_keep hS hc1) hS.1 ⟨by decide, rfl⟩ (by decide) rfl rfl (Nat.le_of_ble_eq_true rfl) ⟨Nat.zero_le _, Nat.zero_le _⟩ (fun v τ hp => ?_)
  obtain ⟨rfl, rfl⟩ := hp
  change WW X _ 120 [.ref m, .int v1, .int v2, .int v3, .retAddr 0, .int v5, .retAddr 0] [] _
  refine ww_aload_n C dX9_vote_120 0 rfl rfl ?_
  obtain ⟨p18, hc1, H⟩ := bd_of H
  refine ww_callV C hZ dX9_vote_121 cw_X9_460 (ccX9_over hS hc1) hS.1 ⟨by decide, rfl⟩ (by decide) rfl rfl (Nat.le_of_ble_eq_true rfl) ⟨Nat.zero_le _, Nat.zero_le _⟩ (fun v τ hp => ?_)
  obtain ⟨rfl, rfl⟩ := hp
  change WW X _ 124 [.ref m, .int v1, .int v2, .int v3, .retAddr 0, .int v5, .retAddr 0] [.int p18.1] _
  refine ww_istore C dX9_vote_124 (by decide) rfl [.ref m, .int v1, .int v2, .int v3, .retAddr 0, .int v5, .int p18.1] rfl ?_
  refine ww_iload C dX9_vote_126 rfl ?_
  refine ww_if_eq C dX9_vote_128 135 rfl (fun hc => ?_) (fun hc => ?_)
  · rw [if_pos hc] at H
    refine ww_iload C dX9_vote_135 rfl ?_
    refine ww_if_ge C dX9_vote_137 144 rfl (fun hc => ?_) (fun hc => ?_)
    · rw [if_pos hc] at H
      refine ww_iconst (v := (0 : Int32)) C dX9_vote_144 (by decide) ?_
      cases H
      exact ww_iret C E dX9_vote_145 ⟨rfl, rfl⟩
    · rw [if_neg hc] at H
      refine ww_iconst (v := (-1 : Int32)) C dX9_vote_140 (by decide) ?_
      refine ww_goto C dX9_vote_141 145 rfl ?_
      cases H
      exact ww_iret C E dX9_vote_145 ⟨rfl, rfl⟩
  · rw [if_neg hc] at H
    refine ww_iconst (v := (1 : Int32)) C dX9_vote_131 (by decide) ?_
    refine ww_goto C dX9_vote_132 145 rfl ?_
    cases H
    exact ww_iret C E dX9_vote_145 ⟨rfl, rfl⟩
def fX9_vote (m : Nat) (h : HI) (a1 : Int32) : Option (Int32 × HI) := ((fX9_isMatter m h a1).bind fun p1 => (if p1.1 = 0 then some ((-1 : Int32), p1.2) else (if inB a1 4 then (if (p1.2.1 (m + 31) (a1.toNatClampNeg)) = (1 : Int32) then ((fX9_isLong m p1.2 (1 : Int32)).bind fun p2 => (if p2.1 = 0 then ((fX9_voters m p2.2).bind fun p3 => ((fX9_dueSet m p3.2).bind fun p4 => ((fX9_yesOf m p4.2 p3.1 a1 p4.1).bind fun p5 => ((fX9_voters m p5.2).bind fun p6 => ((fX9_dueSet m p6.2).bind fun p7 => ((fX9_noOf m p7.2 p6.1 a1 p7.1).bind fun p8 => ((fX9_hereSet m p8.2).bind fun p9 => ((fX9_ones p9.2 p9.1).bind fun p10 => ((fX9_ones p10.2 p5.1).bind fun p11 => ((fX9_ones p11.2 p8.1).bind fun p12 => ((fX9_hereSet m p12.2).bind fun p13 => ((fX9_upSet m p13.2).bind fun p14 => ((fX9_ones p14.2 (p13.1 &&& (p14.1 ^^^ (-1 : Int32)))).bind fun p15 => ((fX9_isPassed m p15.2 p11.1 p12.1 p15.1 p10.1).bind fun p16 => (if p16.1 = 0 then fX9_vote_110 m p16.2 a1 p5.1 p8.1 p16.1 (3 : Int32) a1 else fX9_vote_110 m p16.2 a1 p5.1 p8.1 p16.1 (2 : Int32) a1))))))))))))))) else some ((-1 : Int32), p2.2))) else some ((-1 : Int32), p1.2)) else none)))
set_option maxRecDepth 100000 in
set_option maxHeartbeats 4000000 in
theorem ccX9_vote {l : Launch} {sh : Sh} {adr : Nat → Nat} {r : Nat → Nat → Option Nat} {m : Nat} (hS : MS sh r m) {h : HI} {a1 : Int32} {p : Int32 × HI} (H : fX9_vote m h a1 = some p) : CC l yX9_vote cX9_vote 7 (some .int) 5 [.ref m, .int a1] sh adr (mk h r) (fun v τ => v = some (.int p.1) ∧ τ = mk p.2 r) := by
  refine CC.of (by decide) (Nat.le_of_ble_eq_true rfl) 5 [.ref m, .int a1, .retAddr 0, .retAddr 0, .retAddr 0, .retAddr 0, .retAddr 0] rfl (fun X _ C E hZ => ?_)
  rw [fX9_vote] at H
  refine ww_aload_n C dX9_vote_0 0 rfl rfl ?_
  refine ww_iload_n C dX9_vote_1 1 rfl rfl ?_
  obtain ⟨p1, hc1, H⟩ := bd_of H
  refine ww_callV C hZ dX9_vote_2 cw_X9_472 (ccX9_isMatter hS hc1) hS.1 ⟨by decide, rfl⟩ (by decide) rfl rfl (Nat.le_of_ble_eq_true rfl) ⟨Nat.zero_le _, Nat.zero_le _⟩ (fun v τ hp => ?_)
  obtain ⟨rfl, rfl⟩ := hp
  change WW X _ 5 [.ref m, .int a1, .retAddr 0, .retAddr 0, .retAddr 0, .retAddr 0, .retAddr 0] [.int p1.1] _
  refine ww_if_eq C dX9_vote_5 26 rfl (fun hc => ?_) (fun hc => ?_)
  · rw [if_pos hc] at H
    refine ww_iconst (v := (-1 : Int32)) C dX9_vote_26 (by decide) ?_
    cases H
    exact ww_iret C E dX9_vote_27 ⟨rfl, rfl⟩
  · rw [if_neg hc] at H
    refine ww_aload_n C dX9_vote_8 0 rfl rfl ?_
    refine wk_getR C dX9_vote_9 fl_X9_106 hS.1 rfl (tX9_state hS).1 ?_
    refine ww_iload_n C dX9_vote_12 1 rfl rfl ?_
    obtain ⟨hg, H⟩ := gd_of H
    refine wk_iaload C dX9_vote_13 (tX9_state hS).2.1 (vp_of hg (tX9_state hS).2.2) (a1.toNatClampNeg) rfl ?_
    refine ww_iconst (v := (1 : Int32)) C dX9_vote_14 (by decide) ?_
    refine ww_icmp_ne C dX9_vote_15 26 rfl (fun hc => ?_) (fun hc => ?_)
    · rw [if_neg hc] at H
      refine ww_iconst (v := (-1 : Int32)) C dX9_vote_26 (by decide) ?_
      cases H
      exact ww_iret C E dX9_vote_27 ⟨rfl, rfl⟩
    · rw [if_pos hc] at H
      refine ww_aload_n C dX9_vote_18 0 rfl rfl ?_
      refine ww_iconst (v := (1 : Int32)) C dX9_vote_19 (by decide) ?_
      obtain ⟨p2, hc1, H⟩ := bd_of H
      refine ww_callV C hZ dX9_vote_20 cw_X9_457 (ccX9_isLong hS hc1) hS.1 ⟨by decide, rfl⟩ (by decide) rfl rfl (Nat.le_of_ble_eq_true rfl) ⟨Nat.zero_le _, Nat.zero_le _⟩ (fun v τ hp => ?_)
      obtain ⟨rfl, rfl⟩ := hp
      change WW X _ 23 [.ref m, .int a1, .retAddr 0, .retAddr 0, .retAddr 0, .retAddr 0, .retAddr 0] [.int p2.1] _
      refine ww_if_eq C dX9_vote_23 28 rfl (fun hc => ?_) (fun hc => ?_)
      · rw [if_pos hc] at H
        refine ww_aload_n C dX9_vote_28 0 rfl rfl ?_
        refine ww_aload_n C dX9_vote_29 0 rfl rfl ?_
        obtain ⟨p3, hc1, H⟩ := bd_of H
        refine ww_callV C hZ dX9_vote_30 cw_X9_481 (ccX9_voters hS hc1) hS.1 ⟨by decide, rfl⟩ (by decide) rfl rfl (Nat.le_of_ble_eq_true rfl) ⟨Nat.zero_le _, Nat.zero_le _⟩ (fun v τ hp => ?_)
        obtain ⟨rfl, rfl⟩ := hp
        change WW X _ 33 [.ref m, .int a1, .retAddr 0, .retAddr 0, .retAddr 0, .retAddr 0, .retAddr 0] [.int p3.1, .ref m] _
        refine ww_iload_n C dX9_vote_33 1 rfl rfl ?_
        refine ww_aload_n C dX9_vote_34 0 rfl rfl ?_
        obtain ⟨p4, hc1, H⟩ := bd_of H
        refine ww_callV C hZ dX9_vote_35 cw_X9_469 (ccX9_dueSet hS hc1) hS.1 ⟨by decide, rfl⟩ (by decide) rfl rfl (Nat.le_of_ble_eq_true rfl) ⟨Nat.zero_le _, Nat.zero_le _⟩ (fun v τ hp => ?_)
        obtain ⟨rfl, rfl⟩ := hp
        change WW X _ 38 [.ref m, .int a1, .retAddr 0, .retAddr 0, .retAddr 0, .retAddr 0, .retAddr 0] [.int p4.1, .int a1, .int p3.1, .ref m] _
        obtain ⟨p5, hc1, H⟩ := bd_of H
        refine ww_callV C hZ dX9_vote_38 cw_X9_484 (ccX9_yesOf hS hc1) hS.1 ⟨by decide, rfl⟩ (by decide) rfl rfl (Nat.le_of_ble_eq_true rfl) ⟨Nat.zero_le _, Nat.zero_le _⟩ (fun v τ hp => ?_)
        obtain ⟨rfl, rfl⟩ := hp
        change WW X _ 41 [.ref m, .int a1, .retAddr 0, .retAddr 0, .retAddr 0, .retAddr 0, .retAddr 0] [.int p5.1] _
        refine ww_istore_n C dX9_vote_41 2 rfl (by decide) rfl [.ref m, .int a1, .int p5.1, .retAddr 0, .retAddr 0, .retAddr 0, .retAddr 0] rfl ?_
        refine ww_aload_n C dX9_vote_42 0 rfl rfl ?_
        refine ww_aload_n C dX9_vote_43 0 rfl rfl ?_
        obtain ⟨p6, hc1, H⟩ := bd_of H
        refine ww_callV C hZ dX9_vote_44 cw_X9_481 (ccX9_voters hS hc1) hS.1 ⟨by decide, rfl⟩ (by decide) rfl rfl (Nat.le_of_ble_eq_true rfl) ⟨Nat.zero_le _, Nat.zero_le _⟩ (fun v τ hp => ?_)
        obtain ⟨rfl, rfl⟩ := hp
        change WW X _ 47 [.ref m, .int a1, .int p5.1, .retAddr 0, .retAddr 0, .retAddr 0, .retAddr 0] [.int p6.1, .ref m] _
        refine ww_iload_n C dX9_vote_47 1 rfl rfl ?_
        refine ww_aload_n C dX9_vote_48 0 rfl rfl ?_
        obtain ⟨p7, hc1, H⟩ := bd_of H
        refine ww_callV C hZ dX9_vote_49 cw_X9_469 (ccX9_dueSet hS hc1) hS.1 ⟨by decide, rfl⟩ (by decide) rfl rfl (Nat.le_of_ble_eq_true rfl) ⟨Nat.zero_le _, Nat.zero_le _⟩ (fun v τ hp => ?_)
        obtain ⟨rfl, rfl⟩ := hp
        change WW X _ 52 [.ref m, .int a1, .int p5.1, .retAddr 0, .retAddr 0, .retAddr 0, .retAddr 0] [.int p7.1, .int a1, .int p6.1, .ref m] _
        obtain ⟨p8, hc1, H⟩ := bd_of H
        refine ww_callV C hZ dX9_vote_52 cw_X9_487 (ccX9_noOf hS hc1) hS.1 ⟨by decide, rfl⟩ (by decide) rfl rfl (Nat.le_of_ble_eq_true rfl) ⟨Nat.zero_le _, Nat.zero_le _⟩ (fun v τ hp => ?_)
        obtain ⟨rfl, rfl⟩ := hp
        change WW X _ 55 [.ref m, .int a1, .int p5.1, .retAddr 0, .retAddr 0, .retAddr 0, .retAddr 0] [.int p8.1] _
        refine ww_istore_n C dX9_vote_55 3 rfl (by decide) rfl [.ref m, .int a1, .int p5.1, .int p8.1, .retAddr 0, .retAddr 0, .retAddr 0] rfl ?_
        refine ww_aload_n C dX9_vote_56 0 rfl rfl ?_
        obtain ⟨p9, hc1, H⟩ := bd_of H
        refine ww_callV C hZ dX9_vote_57 cw_X9_490 (ccX9_hereSet hS hc1) hS.1 ⟨by decide, rfl⟩ (by decide) rfl rfl (Nat.le_of_ble_eq_true rfl) ⟨Nat.zero_le _, Nat.zero_le _⟩ (fun v τ hp => ?_)
        obtain ⟨rfl, rfl⟩ := hp
        change WW X _ 60 [.ref m, .int a1, .int p5.1, .int p8.1, .retAddr 0, .retAddr 0, .retAddr 0] [.int p9.1] _
        obtain ⟨p10, hc1, H⟩ := bd_of H
        refine ww_callS C hZ dX9_vote_60 sw_X9_442 (ccX9_ones hc1) (by decide) rfl rfl (Nat.le_of_ble_eq_true rfl) ⟨Nat.zero_le _, Nat.zero_le _⟩ (fun v τ hp => ?_)
        obtain ⟨rfl, rfl⟩ := hp
        change WW X _ 63 [.ref m, .int a1, .int p5.1, .int p8.1, .retAddr 0, .retAddr 0, .retAddr 0] [.int p10.1] _
        refine ww_istore C dX9_vote_63 (by decide) rfl [.ref m, .int a1, .int p5.1, .int p8.1, .int p10.1, .retAddr 0, .retAddr 0] rfl ?_
        refine ww_aload_n C dX9_vote_65 0 rfl rfl ?_
        refine ww_iload_n C dX9_vote_66 2 rfl rfl ?_
        obtain ⟨p11, hc1, H⟩ := bd_of H
        refine ww_callS C hZ dX9_vote_67 sw_X9_442 (ccX9_ones hc1) (by decide) rfl rfl (Nat.le_of_ble_eq_true rfl) ⟨Nat.zero_le _, Nat.zero_le _⟩ (fun v τ hp => ?_)
        obtain ⟨rfl, rfl⟩ := hp
        change WW X _ 70 [.ref m, .int a1, .int p5.1, .int p8.1, .int p10.1, .retAddr 0, .retAddr 0] [.int p11.1, .ref m] _
        refine ww_iload_n C dX9_vote_70 3 rfl rfl ?_
        obtain ⟨p12, hc1, H⟩ := bd_of H
        refine ww_callS C hZ dX9_vote_71 sw_X9_442 (ccX9_ones hc1) (by decide) rfl rfl (Nat.le_of_ble_eq_true rfl) ⟨Nat.zero_le _, Nat.zero_le _⟩ (fun v τ hp => ?_)
        obtain ⟨rfl, rfl⟩ := hp
        change WW X _ 74 [.ref m, .int a1, .int p5.1, .int p8.1, .int p10.1, .retAddr 0, .retAddr 0] [.int p12.1, .int p11.1, .ref m] _
        refine ww_aload_n C dX9_vote_74 0 rfl rfl ?_
        obtain ⟨p13, hc1, H⟩ := bd_of H
        refine ww_callV C hZ dX9_vote_75 cw_X9_490 (ccX9_hereSet hS hc1) hS.1 ⟨by decide, rfl⟩ (by decide) rfl rfl (Nat.le_of_ble_eq_true rfl) ⟨Nat.zero_le _, Nat.zero_le _⟩ (fun v τ hp => ?_)
        obtain ⟨rfl, rfl⟩ := hp
        change WW X _ 78 [.ref m, .int a1, .int p5.1, .int p8.1, .int p10.1, .retAddr 0, .retAddr 0] [.int p13.1, .int p12.1, .int p11.1, .ref m] _
        refine ww_aload_n C dX9_vote_78 0 rfl rfl ?_
        obtain ⟨p14, hc1, H⟩ := bd_of H
        refine ww_callV C hZ dX9_vote_79 cw_X9_478 (ccX9_upSet hS hc1) hS.1 ⟨by decide, rfl⟩ (by decide) rfl rfl (Nat.le_of_ble_eq_true rfl) ⟨Nat.zero_le _, Nat.zero_le _⟩ (fun v τ hp => ?_)
        obtain ⟨rfl, rfl⟩ := hp
        change WW X _ 82 [.ref m, .int a1, .int p5.1, .int p8.1, .int p10.1, .retAddr 0, .retAddr 0] [.int p14.1, .int p13.1, .int p12.1, .int p11.1, .ref m] _
        refine ww_iconst (v := (-1 : Int32)) C dX9_vote_82 (by decide) ?_
        refine ww_ixor C dX9_vote_83 ?_
        refine ww_iand C dX9_vote_84 ?_
        obtain ⟨p15, hc1, H⟩ := bd_of H
        refine ww_callS C hZ dX9_vote_85 sw_X9_442 (ccX9_ones hc1) (by decide) rfl rfl (Nat.le_of_ble_eq_true rfl) ⟨Nat.zero_le _, Nat.zero_le _⟩ (fun v τ hp => ?_)
        obtain ⟨rfl, rfl⟩ := hp
        change WW X _ 88 [.ref m, .int a1, .int p5.1, .int p8.1, .int p10.1, .retAddr 0, .retAddr 0] [.int p15.1, .int p12.1, .int p11.1, .ref m] _
        refine ww_iload C dX9_vote_88 rfl ?_
        obtain ⟨p16, hc1, H⟩ := bd_of H
        refine ww_callV C hZ dX9_vote_90 cw_X9_493 (ccX9_isPassed hS hc1) hS.1 ⟨by decide, rfl⟩ (by decide) rfl rfl (Nat.le_of_ble_eq_true rfl) ⟨Nat.zero_le _, Nat.zero_le _⟩ (fun v τ hp => ?_)
        obtain ⟨rfl, rfl⟩ := hp
        change WW X _ 93 [.ref m, .int a1, .int p5.1, .int p8.1, .int p10.1, .retAddr 0, .retAddr 0] [.int p16.1] _
        refine ww_istore C dX9_vote_93 (by decide) rfl [.ref m, .int a1, .int p5.1, .int p8.1, .int p10.1, .int p16.1, .retAddr 0] rfl ?_
        refine ww_aload_n C dX9_vote_95 0 rfl rfl ?_
        refine wk_getR C dX9_vote_96 fl_X9_106 hS.1 rfl (tX9_state hS).1 ?_
        refine ww_iload_n C dX9_vote_99 1 rfl rfl ?_
        refine ww_iload C dX9_vote_100 rfl ?_
        refine ww_if_eq C dX9_vote_102 109 rfl (fun hc => ?_) (fun hc => ?_)
        · rw [if_pos hc] at H
          refine ww_iconst (v := (3 : Int32)) C dX9_vote_109 (by decide) ?_
          exact ww_drop [.ref m, .int a1, .int p5.1, .int p8.1, .retAddr 0, .int p16.1, .retAddr 0] (sl_e (sl_e (sl_e (sl_e (sl_d (sl_e (sl_e sl_n))))))) (cX9_vote_110 hS C hZ E H)
        · rw [if_neg hc] at H
          refine ww_iconst (v := (2 : Int32)) C dX9_vote_105 (by decide) ?_
          refine ww_goto C dX9_vote_106 110 rfl ?_
          exact ww_drop [.ref m, .int a1, .int p5.1, .int p8.1, .retAddr 0, .int p16.1, .retAddr 0] (sl_e (sl_e (sl_e (sl_e (sl_d (sl_e (sl_e sl_n))))))) (cX9_vote_110 hS C hZ E H)
      · rw [if_neg hc] at H
        refine ww_iconst (v := (-1 : Int32)) C dX9_vote_26 (by decide) ?_
        cases H
        exact ww_iret C E dX9_vote_27 ⟨rfl, rfl⟩
def fX9_enter (m : Nat) (h : HI) (a1 : Int32) : Option (Int32 × HI) := ((fX9_isMan m h a1).bind fun p1 => (if p1.1 = 0 then some ((-1 : Int32), p1.2) else (if inB a1 6 then (if (p1.2.1 (m + 27) (a1.toNatClampNeg)) = (-2 : Int32) then ((fX9_isLong m p1.2 (1 : Int32)).bind fun p2 => (if p2.1 = 0 then (if inB a1 6 then ((fX9_over m (uI p2.2 (m + 27) (a1.toNatClampNeg) (-1 : Int32))).bind fun p3 => some (p3.1, p3.2)) else none) else some ((-1 : Int32), p2.2))) else some ((-1 : Int32), p1.2)) else none)))
set_option maxRecDepth 100000 in
set_option maxHeartbeats 4000000 in
theorem ccX9_enter {l : Launch} {sh : Sh} {adr : Nat → Nat} {r : Nat → Nat → Option Nat} {m : Nat} (hS : MS sh r m) {h : HI} {a1 : Int32} {p : Int32 × HI} (H : fX9_enter m h a1 = some p) : CC l yX9_enter cX9_enter 2 (some .int) 5 [.ref m, .int a1] sh adr (mk h r) (fun v τ => v = some (.int p.1) ∧ τ = mk p.2 r) := by
  refine CC.of (by decide) (Nat.le_of_ble_eq_true rfl) 0 [.ref m, .int a1] rfl (fun X _ C E hZ => ?_)
  rw [fX9_enter] at H
  refine ww_aload_n C dX9_enter_0 0 rfl rfl ?_
  refine ww_iload_n C dX9_enter_1 1 rfl rfl ?_
  obtain ⟨p1, hc1, H⟩ := bd_of H
  refine ww_callV C hZ dX9_enter_2 cw_X9_433 (ccX9_isMan hS hc1) hS.1 ⟨by decide, rfl⟩ (by decide) rfl rfl (Nat.le_of_ble_eq_true rfl) ⟨Nat.zero_le _, Nat.zero_le _⟩ (fun v τ hp => ?_)
  obtain ⟨rfl, rfl⟩ := hp
  change WW X _ 5 [.ref m, .int a1] [.int p1.1] _
  refine ww_if_eq C dX9_enter_5 27 rfl (fun hc => ?_) (fun hc => ?_)
  · rw [if_pos hc] at H
    refine ww_iconst (v := (-1 : Int32)) C dX9_enter_27 (by decide) ?_
    cases H
    exact ww_iret C E dX9_enter_28 ⟨rfl, rfl⟩
  · rw [if_neg hc] at H
    refine ww_aload_n C dX9_enter_8 0 rfl rfl ?_
    refine wk_getR C dX9_enter_9 fl_X9_94 hS.1 rfl (tX9_where hS).1 ?_
    refine ww_iload_n C dX9_enter_12 1 rfl rfl ?_
    obtain ⟨hg, H⟩ := gd_of H
    refine wk_iaload C dX9_enter_13 (tX9_where hS).2.1 (vp_of hg (tX9_where hS).2.2) (a1.toNatClampNeg) rfl ?_
    refine ww_bipush (v := (-2 : Int32)) C dX9_enter_14 (by decide) ?_
    refine ww_icmp_ne C dX9_enter_16 27 rfl (fun hc => ?_) (fun hc => ?_)
    · rw [if_neg hc] at H
      refine ww_iconst (v := (-1 : Int32)) C dX9_enter_27 (by decide) ?_
      cases H
      exact ww_iret C E dX9_enter_28 ⟨rfl, rfl⟩
    · rw [if_pos hc] at H
      refine ww_aload_n C dX9_enter_19 0 rfl rfl ?_
      refine ww_iconst (v := (1 : Int32)) C dX9_enter_20 (by decide) ?_
      obtain ⟨p2, hc1, H⟩ := bd_of H
      refine ww_callV C hZ dX9_enter_21 cw_X9_457 (ccX9_isLong hS hc1) hS.1 ⟨by decide, rfl⟩ (by decide) rfl rfl (Nat.le_of_ble_eq_true rfl) ⟨Nat.zero_le _, Nat.zero_le _⟩ (fun v τ hp => ?_)
      obtain ⟨rfl, rfl⟩ := hp
      change WW X _ 24 [.ref m, .int a1] [.int p2.1] _
      refine ww_if_eq C dX9_enter_24 29 rfl (fun hc => ?_) (fun hc => ?_)
      · rw [if_pos hc] at H
        refine ww_aload_n C dX9_enter_29 0 rfl rfl ?_
        refine wk_getR C dX9_enter_30 fl_X9_94 hS.1 rfl (tX9_where hS).1 ?_
        refine ww_iload_n C dX9_enter_33 1 rfl rfl ?_
        refine ww_iconst (v := (-1 : Int32)) C dX9_enter_34 (by decide) ?_
        obtain ⟨hg, H⟩ := gd_of H
        refine wk_iastore C dX9_enter_35 (tX9_where hS).2.1 (vp_of hg (tX9_where hS).2.2) (a1.toNatClampNeg) rfl ?_
        refine ww_aload_n C dX9_enter_36 0 rfl rfl ?_
        obtain ⟨p3, hc1, H⟩ := bd_of H
        refine ww_callV C hZ dX9_enter_37 cw_X9_460 (ccX9_over hS hc1) hS.1 ⟨by decide, rfl⟩ (by decide) rfl rfl (Nat.le_of_ble_eq_true rfl) ⟨Nat.zero_le _, Nat.zero_le _⟩ (fun v τ hp => ?_)
        obtain ⟨rfl, rfl⟩ := hp
        change WW X _ 40 [.ref m, .int a1] [.int p3.1] _
        cases H
        exact ww_iret C E dX9_enter_40 ⟨rfl, rfl⟩
      · rw [if_neg hc] at H
        refine ww_iconst (v := (-1 : Int32)) C dX9_enter_27 (by decide) ?_
        cases H
        exact ww_iret C E dX9_enter_28 ⟨rfl, rfl⟩
def fX9_stay_28 (m : Nat) (k : HI → Int32 → Option (Int32 × HI)) : Nat → HI → Int32 → Int32 → Int32 → Option (Int32 × HI)
  | 0, _, _, _, _ => none
  | n + 1, h, v1, v2, v3 => (if v1 ≤ v3 then k h v2 else ((fX9_over m h).bind fun p2 => fX9_stay_28 m k n p2.2 v1 p2.1 (v3 + (1 : Int32))))
set_option maxRecDepth 100000 in
set_option maxHeartbeats 4000000 in
theorem cX9_stay_28 {X : CT} {sh : Sh} {adr : Nat → Nat} {r : Nat → Nat → Option Nat} {m : Nat} {p : Int32 × HI} (hS : MS sh r m) (C : CX X yX9_stay.cls cX9_stay 4 5) (hZ : SZX X adr) (E : RX X (some .int) sh adr (fun v τ => v = some (.int p.1) ∧ τ = mk p.2 r)) {k : HI → Int32 → Option (Int32 × HI)} (hk : ∀ (h : HI) (v2 : Int32), k h v2 = some p → WW X (sh, adr, 0, 0) 44 [.ref m, .retAddr 0, .int v2, .retAddr 0] [] (mk h r)) : ∀ (n : Nat) (h : HI) (v1 : Int32) (v2 : Int32) (v3 : Int32), fX9_stay_28 m k n h v1 v2 v3 = some p → WW X (sh, adr, 0, 0) 28 [.ref m, .int v1, .int v2, .int v3] [] (mk h r) := by
  intro n
  induction n with
  | zero =>
    intro h v1 v2 v3 H
    rw [fX9_stay_28] at H
    cases H
  | succ n ih =>
    intro h v1 v2 v3 H
    rw [fX9_stay_28] at H
    refine ww_iload_n C dX9_stay_28 3 rfl rfl ?_
    refine ww_iload_n C dX9_stay_29 1 rfl rfl ?_
    refine ww_icmp_ge C dX9_stay_30 44 rfl (fun hc => ?_) (fun hc => ?_)
    · rw [if_pos hc] at H
      exact ww_drop [.ref m, .retAddr 0, .int v2, .retAddr 0] (sl_e (sl_d (sl_e (sl_d sl_n)))) (hk h v2 H)
    · rw [if_neg hc] at H
      refine ww_aload_n C dX9_stay_33 0 rfl rfl ?_
      obtain ⟨p2, hc1, H⟩ := bd_of H
      refine ww_callV C hZ dX9_stay_34 cw_X9_460 (ccX9_over hS hc1) hS.1 ⟨by decide, rfl⟩ (by decide) rfl rfl (Nat.le_of_ble_eq_true rfl) ⟨Nat.zero_le _, Nat.zero_le _⟩ (fun v τ hp => ?_)
      obtain ⟨rfl, rfl⟩ := hp
      change WW X _ 37 [.ref m, .int v1, .int v2, .int v3] [.int p2.1] _
      refine ww_istore_n C dX9_stay_37 2 rfl (by decide) rfl [.ref m, .int v1, .int p2.1, .int v3] rfl ?_
      refine ww_iinc (v := (v3 + (1 : Int32))) C dX9_stay_38 rfl rfl (by decide) rfl [.ref m, .int v1, .int p2.1, .int (v3 + (1 : Int32))] rfl ?_
      refine ww_goto C dX9_stay_41 28 rfl ?_
      exact ih p2.2 v1 p2.1 (v3 + (1 : Int32)) H
def fX9_stay (m : Nat) (h : HI) (a1 : Int32) : Option (Int32 × HI) := (if a1 < 0 then some ((-1 : Int32), h) else (if (200 : Int32) < a1 then some ((-1 : Int32), h) else ((fX9_isLong m h a1).bind fun p1 => (if p1.1 = 0 then fX9_stay_28 m (fun h4 v2 => some (v2, h4)) FU p1.2 a1 (p1.2.1 m 57) (0 : Int32) else some ((-1 : Int32), p1.2)))))
set_option maxRecDepth 100000 in
set_option maxHeartbeats 4000000 in
theorem ccX9_stay {l : Launch} {sh : Sh} {adr : Nat → Nat} {r : Nat → Nat → Option Nat} {m : Nat} (hS : MS sh r m) {h : HI} {a1 : Int32} {p : Int32 × HI} (H : fX9_stay m h a1 = some p) : CC l yX9_stay cX9_stay 4 (some .int) 5 [.ref m, .int a1] sh adr (mk h r) (fun v τ => v = some (.int p.1) ∧ τ = mk p.2 r) := by
  refine CC.of (by decide) (Nat.le_of_ble_eq_true rfl) 2 [.ref m, .int a1, .retAddr 0, .retAddr 0] rfl (fun X _ C E hZ => ?_)
  rw [fX9_stay] at H
  refine ww_iload_n C dX9_stay_0 1 rfl rfl ?_
  refine ww_if_lt C dX9_stay_1 19 rfl (fun hc => ?_) (fun hc => ?_)
  · rw [if_pos hc] at H
    refine ww_iconst (v := (-1 : Int32)) C dX9_stay_19 (by decide) ?_
    cases H
    exact ww_iret C E dX9_stay_20 ⟨rfl, rfl⟩
  · rw [if_neg hc] at H
    refine ww_iload_n C dX9_stay_4 1 rfl rfl ?_
    refine ww_sipush (v := (200 : Int32)) C dX9_stay_5 (by decide) ?_
    refine ww_icmp_gt C dX9_stay_8 19 rfl (fun hc => ?_) (fun hc => ?_)
    · rw [if_pos hc] at H
      refine ww_iconst (v := (-1 : Int32)) C dX9_stay_19 (by decide) ?_
      cases H
      exact ww_iret C E dX9_stay_20 ⟨rfl, rfl⟩
    · rw [if_neg hc] at H
      refine ww_aload_n C dX9_stay_11 0 rfl rfl ?_
      refine ww_iload_n C dX9_stay_12 1 rfl rfl ?_
      obtain ⟨p1, hc1, H⟩ := bd_of H
      refine ww_callV C hZ dX9_stay_13 cw_X9_457 (ccX9_isLong hS hc1) hS.1 ⟨by decide, rfl⟩ (by decide) rfl rfl (Nat.le_of_ble_eq_true rfl) ⟨Nat.zero_le _, Nat.zero_le _⟩ (fun v τ hp => ?_)
      obtain ⟨rfl, rfl⟩ := hp
      change WW X _ 16 [.ref m, .int a1, .retAddr 0, .retAddr 0] [.int p1.1] _
      refine ww_if_eq C dX9_stay_16 21 rfl (fun hc => ?_) (fun hc => ?_)
      · rw [if_pos hc] at H
        refine ww_aload_n C dX9_stay_21 0 rfl rfl ?_
        refine wk_getI C dX9_stay_22 fl_X9_424 hS.1 rfl ?_
        refine ww_istore_n C dX9_stay_25 2 rfl (by decide) rfl [.ref m, .int a1, .int (p1.2.1 m 57), .retAddr 0] rfl ?_
        refine ww_iconst (v := (0 : Int32)) C dX9_stay_26 (by decide) ?_
        refine ww_istore_n C dX9_stay_27 3 rfl (by decide) rfl [.ref m, .int a1, .int (p1.2.1 m 57), .int (0 : Int32)] rfl ?_
        refine cX9_stay_28 hS C hZ E (fun h4 v2 H => ?_) FU p1.2 a1 (p1.2.1 m 57) (0 : Int32) H
        refine ww_iload_n C dX9_stay_44 2 rfl rfl ?_
        cases H
        exact ww_iret C E dX9_stay_45 ⟨rfl, rfl⟩
      · rw [if_neg hc] at H
        refine ww_iconst (v := (-1 : Int32)) C dX9_stay_19 (by decide) ?_
        cases H
        exact ww_iret C E dX9_stay_20 ⟨rfl, rfl⟩
def fX9_crack_66 (m : Nat) (k : HI → Int32 → Int32 → Int32 → Option (Int32 × HI)) (kb : HI → Int32 → Int32 → Int32 → Int32 → Option (Int32 × HI)) (h : HI) (v1 : Int32) (v2 : Int32) (v3 : Int32) (v4 : Int32) : Option (Int32 × HI) := kb h v1 v2 v3 (v4 + (1 : Int32))
set_option maxRecDepth 100000 in
set_option maxHeartbeats 4000000 in
theorem cX9_crack_66 {X : CT} {sh : Sh} {adr : Nat → Nat} {r : Nat → Nat → Option Nat} {m : Nat} {p : Int32 × HI} (hS : MS sh r m) (C : CX X yX9_crack.cls cX9_crack 5 2) (hZ : SZX X adr) (E : RX X (some .int) sh adr (fun v τ => v = some (.int p.1) ∧ τ = mk p.2 r)) {k : HI → Int32 → Int32 → Int32 → Option (Int32 × HI)} {kb : HI → Int32 → Int32 → Int32 → Int32 → Option (Int32 × HI)} (hk : ∀ (h : HI) (v1 : Int32) (v2 : Int32) (v3 : Int32), k h v1 v2 v3 = some p → WW X (sh, adr, 0, 0) 72 [.ref m, .int v1, .int v2, .int v3, .retAddr 0] [] (mk h r)) (hb : ∀ (h : HI) (v1 : Int32) (v2 : Int32) (v3 : Int32) (v4 : Int32), kb h v1 v2 v3 v4 = some p → WW X (sh, adr, 0, 0) 29 [.ref m, .int v1, .int v2, .int v3, .int v4] [] (mk h r)) {h : HI} {v1 : Int32} {v2 : Int32} {v3 : Int32} {v4 : Int32} (H : fX9_crack_66 m k kb h v1 v2 v3 v4 = some p) : WW X (sh, adr, 0, 0) 66 [.ref m, .int v1, .int v2, .int v3, .int v4] [] (mk h r) := by
  rw [fX9_crack_66] at H
  refine ww_iinc (v := (v4 + (1 : Int32))) C dX9_crack_66 rfl rfl (by decide) rfl [.ref m, .int v1, .int v2, .int v3, .int (v4 + (1 : Int32))] rfl ?_
  refine ww_goto C dX9_crack_69 29 rfl ?_
  exact hb h v1 v2 v3 (v4 + (1 : Int32)) H
def fX9_crack_29 (m : Nat) (k : HI → Int32 → Int32 → Int32 → Option (Int32 × HI)) : Nat → HI → Int32 → Int32 → Int32 → Int32 → Option (Int32 × HI)
  | 0, _, _, _, _, _ => none
  | n + 1, h, v1, v2, v3, v4 => ((fX9_men m h).bind fun p3 => (if p3.1 ≤ v4 then k p3.2 v1 v2 v3 else (if ((v3 >>> (v4 &&& 31)) &&& (1 : Int32)) = 0 then fX9_crack_66 m (k) (fX9_crack_29 m k n) p3.2 v1 v2 v3 v4 else (if inB v4 6 then (if inB v4 6 then fX9_crack_66 m (k) (fX9_crack_29 m k n) (uI (uI p3.2 (m + 27) (v4.toNatClampNeg) (-1 : Int32)) (m + 29) (v4.toNatClampNeg) (0 : Int32)) v1 v2 v3 v4 else none) else none))))
set_option maxRecDepth 100000 in
set_option maxHeartbeats 4000000 in
theorem cX9_crack_29 {X : CT} {sh : Sh} {adr : Nat → Nat} {r : Nat → Nat → Option Nat} {m : Nat} {p : Int32 × HI} (hS : MS sh r m) (C : CX X yX9_crack.cls cX9_crack 5 2) (hZ : SZX X adr) (E : RX X (some .int) sh adr (fun v τ => v = some (.int p.1) ∧ τ = mk p.2 r)) {k : HI → Int32 → Int32 → Int32 → Option (Int32 × HI)} (hk : ∀ (h : HI) (v1 : Int32) (v2 : Int32) (v3 : Int32), k h v1 v2 v3 = some p → WW X (sh, adr, 0, 0) 72 [.ref m, .int v1, .int v2, .int v3, .retAddr 0] [] (mk h r)) : ∀ (n : Nat) (h : HI) (v1 : Int32) (v2 : Int32) (v3 : Int32) (v4 : Int32), fX9_crack_29 m k n h v1 v2 v3 v4 = some p → WW X (sh, adr, 0, 0) 29 [.ref m, .int v1, .int v2, .int v3, .int v4] [] (mk h r) := by
  intro n
  induction n with
  | zero =>
    intro h v1 v2 v3 v4 H
    rw [fX9_crack_29] at H
    cases H
  | succ n ih =>
    intro h v1 v2 v3 v4 H
    rw [fX9_crack_29] at H
    refine ww_iload C dX9_crack_29 rfl ?_
    refine ww_aload_n C dX9_crack_31 0 rfl rfl ?_
    obtain ⟨p3, hc1, H⟩ := bd_of H
    refine ww_callV C hZ dX9_crack_32 cw_X9_417 (ccX9_men hS hc1) hS.1 ⟨by decide, rfl⟩ (by decide) rfl rfl (Nat.le_of_ble_eq_true rfl) ⟨Nat.zero_le _, Nat.zero_le _⟩ (fun v τ hp => ?_)
    obtain ⟨rfl, rfl⟩ := hp
    change WW X _ 35 [.ref m, .int v1, .int v2, .int v3, .int v4] [.int p3.1, .int v4] _
    refine ww_icmp_ge C dX9_crack_35 72 rfl (fun hc => ?_) (fun hc => ?_)
    · rw [if_pos hc] at H
      exact ww_drop [.ref m, .int v1, .int v2, .int v3, .retAddr 0] (sl_e (sl_e (sl_e (sl_e (sl_d sl_n))))) (hk p3.2 v1 v2 v3 H)
    · rw [if_neg hc] at H
      refine ww_iload_n C dX9_crack_38 3 rfl rfl ?_
      refine ww_iload C dX9_crack_39 rfl ?_
      refine ww_ishr C dX9_crack_41 ?_
      refine ww_iconst (v := (1 : Int32)) C dX9_crack_42 (by decide) ?_
      refine ww_iand C dX9_crack_43 ?_
      refine ww_if_ne C dX9_crack_44 50 rfl (fun hc => ?_) (fun hc => ?_)
      · rw [if_neg hc] at H
        refine ww_aload_n C dX9_crack_50 0 rfl rfl ?_
        refine wk_getR C dX9_crack_51 fl_X9_94 hS.1 rfl (tX9_where hS).1 ?_
        refine ww_iload C dX9_crack_54 rfl ?_
        refine ww_iconst (v := (-1 : Int32)) C dX9_crack_56 (by decide) ?_
        obtain ⟨hg, H⟩ := gd_of H
        refine wk_iastore C dX9_crack_57 (tX9_where hS).2.1 (vp_of hg (tX9_where hS).2.2) (v4.toNatClampNeg) rfl ?_
        refine ww_aload_n C dX9_crack_58 0 rfl rfl ?_
        refine wk_getR C dX9_crack_59 fl_X9_100 hS.1 rfl (tX9_satFor hS).1 ?_
        refine ww_iload C dX9_crack_62 rfl ?_
        refine ww_iconst (v := (0 : Int32)) C dX9_crack_64 (by decide) ?_
        obtain ⟨hg, H⟩ := gd_of H
        refine wk_iastore C dX9_crack_65 (tX9_satFor hS).2.1 (vp_of hg (tX9_satFor hS).2.2) (v4.toNatClampNeg) rfl ?_
        exact cX9_crack_66 hS C hZ E hk ih H
      · rw [if_pos hc] at H
        refine ww_goto C dX9_crack_47 66 rfl ?_
        exact cX9_crack_66 hS C hZ E hk ih H
def fX9_crack (m : Nat) (h : HI) (a1 : Int32) (a2 : Int32) : Option (Int32 × HI) := ((fX9_isChair m h a1).bind fun p1 => (if p1.1 = 0 then some ((-1 : Int32), p1.2) else (if inB a1 6 then (if (p1.2.1 (m + 33) (a1.toNatClampNeg)) = a2 then some ((-1 : Int32), p1.2) else ((fX9_on m p1.2 a1).bind fun p2 => fX9_crack_29 m (fun h5 v1 v2 v3 => (if inB v1 6 then ((fX9_ones (uI h5 (m + 33) (v1.toNatClampNeg) (vp_nar .boolean v2)) v3).bind fun p6 => some (p6.1, p6.2)) else none)) FU p2.2 a1 a2 p2.1 (0 : Int32))) else none)))
set_option maxRecDepth 100000 in
set_option maxHeartbeats 4000000 in
theorem ccX9_crack {l : Launch} {sh : Sh} {adr : Nat → Nat} {r : Nat → Nat → Option Nat} {m : Nat} (hS : MS sh r m) {h : HI} {a1 : Int32} {a2 : Int32} {p : Int32 × HI} (H : fX9_crack m h a1 a2 = some p) : CC l yX9_crack cX9_crack 5 (some .int) 2 [.ref m, .int a1, .int a2] sh adr (mk h r) (fun v τ => v = some (.int p.1) ∧ τ = mk p.2 r) := by
  refine CC.of (by decide) (Nat.le_of_ble_eq_true rfl) 2 [.ref m, .int a1, .int a2, .retAddr 0, .retAddr 0] rfl (fun X _ C E hZ => ?_)
  rw [fX9_crack] at H
  refine ww_aload_n C dX9_crack_0 0 rfl rfl ?_
  refine ww_iload_n C dX9_crack_1 1 rfl rfl ?_
  obtain ⟨p1, hc1, H⟩ := bd_of H
  refine ww_callV C hZ dX9_crack_2 cw_X9_466 (ccX9_isChair hS hc1) hS.1 ⟨by decide, rfl⟩ (by decide) rfl rfl (Nat.le_of_ble_eq_true rfl) ⟨Nat.zero_le _, Nat.zero_le _⟩ (fun v τ hp => ?_)
  obtain ⟨rfl, rfl⟩ := hp
  change WW X _ 5 [.ref m, .int a1, .int a2, .retAddr 0, .retAddr 0] [.int p1.1] _
  refine ww_if_eq C dX9_crack_5 18 rfl (fun hc => ?_) (fun hc => ?_)
  · rw [if_pos hc] at H
    refine ww_iconst (v := (-1 : Int32)) C dX9_crack_18 (by decide) ?_
    cases H
    exact ww_iret C E dX9_crack_19 ⟨rfl, rfl⟩
  · rw [if_neg hc] at H
    refine ww_aload_n C dX9_crack_8 0 rfl rfl ?_
    refine wk_getR C dX9_crack_9 fl_X9_112 hS.1 rfl (tX9_isBroken hS).1 ?_
    refine ww_iload_n C dX9_crack_12 1 rfl rfl ?_
    obtain ⟨hg, H⟩ := gd_of H
    refine wk_zaload C dX9_crack_13 (tX9_isBroken hS).2.1 (vp_of hg (tX9_isBroken hS).2.2) (a1.toNatClampNeg) rfl ?_
    refine ww_iload_n C dX9_crack_14 2 rfl rfl ?_
    refine ww_icmp_ne C dX9_crack_15 20 rfl (fun hc => ?_) (fun hc => ?_)
    · rw [if_neg hc] at H
      refine ww_aload_n C dX9_crack_20 0 rfl rfl ?_
      refine ww_iload_n C dX9_crack_21 1 rfl rfl ?_
      obtain ⟨p2, hc1, H⟩ := bd_of H
      refine ww_callV C hZ dX9_crack_22 cw_X9_439 (ccX9_on hS hc1) hS.1 ⟨by decide, rfl⟩ (by decide) rfl rfl (Nat.le_of_ble_eq_true rfl) ⟨Nat.zero_le _, Nat.zero_le _⟩ (fun v τ hp => ?_)
      obtain ⟨rfl, rfl⟩ := hp
      change WW X _ 25 [.ref m, .int a1, .int a2, .retAddr 0, .retAddr 0] [.int p2.1] _
      refine ww_istore_n C dX9_crack_25 3 rfl (by decide) rfl [.ref m, .int a1, .int a2, .int p2.1, .retAddr 0] rfl ?_
      refine ww_iconst (v := (0 : Int32)) C dX9_crack_26 (by decide) ?_
      refine ww_istore C dX9_crack_27 (by decide) rfl [.ref m, .int a1, .int a2, .int p2.1, .int (0 : Int32)] rfl ?_
      refine cX9_crack_29 hS C hZ E (fun h5 v1 v2 v3 H => ?_) FU p2.2 a1 a2 p2.1 (0 : Int32) H
      refine ww_aload_n C dX9_crack_72 0 rfl rfl ?_
      refine wk_getR C dX9_crack_73 fl_X9_112 hS.1 rfl (tX9_isBroken hS).1 ?_
      refine ww_iload_n C dX9_crack_76 1 rfl rfl ?_
      refine ww_iload_n C dX9_crack_77 2 rfl rfl ?_
      obtain ⟨hg, H⟩ := gd_of H
      refine wk_zastore C dX9_crack_78 (tX9_isBroken hS).2.1 (vp_of hg (tX9_isBroken hS).2.2) (v1.toNatClampNeg) rfl (vp_nar .boolean v2) rfl ?_
      refine ww_iload_n C dX9_crack_79 3 rfl rfl ?_
      obtain ⟨p6, hc1, H⟩ := bd_of H
      refine ww_callS C hZ dX9_crack_80 sw_X9_442 (ccX9_ones hc1) (by decide) rfl rfl (Nat.le_of_ble_eq_true rfl) ⟨Nat.zero_le _, Nat.zero_le _⟩ (fun v τ hp => ?_)
      obtain ⟨rfl, rfl⟩ := hp
      change WW X _ 83 [.ref m, .int v1, .int v2, .int v3, .retAddr 0] [.int p6.1] _
      cases H
      exact ww_iret C E dX9_crack_83 ⟨rfl, rfl⟩
    · rw [if_pos hc] at H
      refine ww_iconst (v := (-1 : Int32)) C dX9_crack_18 (by decide) ?_
      cases H
      exact ww_iret C E dX9_crack_19 ⟨rfl, rfl⟩
def fX9_found (m : Nat) (h : HI) (a1 : Int32) : Option (Int32 × HI) := ((fX9_isChair m h a1).bind fun p1 => (if p1.1 = 0 then some ((0 : Int32), p1.2) else (if inB a1 6 then (if (p1.2.1 (m + 25) (a1.toNatClampNeg)) = 0 then some ((0 : Int32), p1.2) else (if inB a1 6 then (if (p1.2.1 (m + 34) (a1.toNatClampNeg)) = 0 then (if inB a1 6 then some ((1 : Int32), (uI p1.2 (m + 34) (a1.toNatClampNeg) (1 : Int32))) else none) else some ((0 : Int32), p1.2)) else none)) else none)))
set_option maxRecDepth 100000 in
set_option maxHeartbeats 4000000 in
theorem ccX9_found {l : Launch} {sh : Sh} {adr : Nat → Nat} {r : Nat → Nat → Option Nat} {m : Nat} (hS : MS sh r m) {h : HI} {a1 : Int32} {p : Int32 × HI} (H : fX9_found m h a1 = some p) : CC l yX9_found cX9_found 2 (some .boolean) 1 [.ref m, .int a1] sh adr (mk h r) (fun v τ => v = some (.int p.1) ∧ τ = mk p.2 r) := by
  refine CC.of (by decide) (Nat.le_of_ble_eq_true rfl) 0 [.ref m, .int a1] rfl (fun X _ C E hZ => ?_)
  rw [fX9_found] at H
  refine ww_aload_n C dX9_found_0 0 rfl rfl ?_
  refine ww_iload_n C dX9_found_1 1 rfl rfl ?_
  obtain ⟨p1, hc1, H⟩ := bd_of H
  refine ww_callV C hZ dX9_found_2 cw_X9_466 (ccX9_isChair hS hc1) hS.1 ⟨by decide, rfl⟩ (by decide) rfl rfl (Nat.le_of_ble_eq_true rfl) ⟨Nat.zero_le _, Nat.zero_le _⟩ (fun v τ hp => ?_)
  obtain ⟨rfl, rfl⟩ := hp
  change WW X _ 5 [.ref m, .int a1] [.int p1.1] _
  refine ww_if_eq C dX9_found_5 26 rfl (fun hc => ?_) (fun hc => ?_)
  · rw [if_pos hc] at H
    refine ww_iconst (v := (0 : Int32)) C dX9_found_26 (by decide) ?_
    cases H
    exact ww_zret C E dX9_found_27 (Or.inl rfl) ⟨rfl, rfl⟩
  · rw [if_neg hc] at H
    refine ww_aload_n C dX9_found_8 0 rfl rfl ?_
    refine wk_getR C dX9_found_9 fl_X9_88 hS.1 rfl (tX9_isStool hS).1 ?_
    refine ww_iload_n C dX9_found_12 1 rfl rfl ?_
    obtain ⟨hg, H⟩ := gd_of H
    refine wk_zaload C dX9_found_13 (tX9_isStool hS).2.1 (vp_of hg (tX9_isStool hS).2.2) (a1.toNatClampNeg) rfl ?_
    refine ww_if_eq C dX9_found_14 26 rfl (fun hc => ?_) (fun hc => ?_)
    · rw [if_pos hc] at H
      refine ww_iconst (v := (0 : Int32)) C dX9_found_26 (by decide) ?_
      cases H
      exact ww_zret C E dX9_found_27 (Or.inl rfl) ⟨rfl, rfl⟩
    · rw [if_neg hc] at H
      refine ww_aload_n C dX9_found_17 0 rfl rfl ?_
      refine wk_getR C dX9_found_18 fl_X9_115 hS.1 rfl (tX9_isFound hS).1 ?_
      refine ww_iload_n C dX9_found_21 1 rfl rfl ?_
      obtain ⟨hg, H⟩ := gd_of H
      refine wk_zaload C dX9_found_22 (tX9_isFound hS).2.1 (vp_of hg (tX9_isFound hS).2.2) (a1.toNatClampNeg) rfl ?_
      refine ww_if_eq C dX9_found_23 28 rfl (fun hc => ?_) (fun hc => ?_)
      · rw [if_pos hc] at H
        refine ww_aload_n C dX9_found_28 0 rfl rfl ?_
        refine wk_getR C dX9_found_29 fl_X9_115 hS.1 rfl (tX9_isFound hS).1 ?_
        refine ww_iload_n C dX9_found_32 1 rfl rfl ?_
        refine ww_iconst (v := (1 : Int32)) C dX9_found_33 (by decide) ?_
        obtain ⟨hg, H⟩ := gd_of H
        refine wk_zastore C dX9_found_34 (tX9_isFound hS).2.1 (vp_of hg (tX9_isFound hS).2.2) (a1.toNatClampNeg) rfl (1 : Int32) rfl ?_
        refine ww_iconst (v := (1 : Int32)) C dX9_found_35 (by decide) ?_
        cases H
        exact ww_zret C E dX9_found_36 (Or.inr rfl) ⟨rfl, rfl⟩
      · rw [if_neg hc] at H
        refine ww_iconst (v := (0 : Int32)) C dX9_found_26 (by decide) ?_
        cases H
        exact ww_zret C E dX9_found_27 (Or.inl rfl) ⟨rfl, rfl⟩
def fX9_man (m : Nat) (h : HI) (a1 : Int32) (a2 : Int32) : Option (Int32 × HI) := ((fX9_isMan m h a1).bind fun p1 => (if p1.1 = 0 then some ((-2 : Int32), p1.2) else (if a2 = (0 : Int32) then (if inB a1 6 then (if (p1.2.1 (m + 27) (a1.toNatClampNeg)) = (-2 : Int32) then some ((2 : Int32), p1.2) else (if inB a1 6 then (if (p1.2.1 (m + 27) (a1.toNatClampNeg)) = (-1 : Int32) then some ((0 : Int32), p1.2) else some ((1 : Int32), p1.2)) else none)) else none) else (if a2 = (1 : Int32) then (if inB a1 6 then (if 0 ≤ (p1.2.1 (m + 27) (a1.toNatClampNeg)) then (if inB a1 6 then some ((p1.2.1 (m + 27) (a1.toNatClampNeg)), p1.2) else none) else some ((-1 : Int32), p1.2)) else none) else (if a2 = (2 : Int32) then (if inB a1 6 then some ((p1.2.1 (m + 28) (a1.toNatClampNeg)), p1.2) else none) else (if a2 = (3 : Int32) then (if inB a1 6 then (if 0 ≤ (p1.2.1 (m + 27) (a1.toNatClampNeg)) then (if inB a1 6 then some ((p1.2.1 (m + 29) (a1.toNatClampNeg)), p1.2) else none) else some ((0 : Int32), p1.2)) else none) else (if a2 = (4 : Int32) then ((fX9_doesNap m p1.2 a1).bind fun p2 => (if p2.1 = 0 then some ((0 : Int32), p2.2) else some ((1 : Int32), p2.2))) else (if a2 = (5 : Int32) then (if inB a1 6 then some ((p1.2.1 (m + 30) (a1.toNatClampNeg)), p1.2) else none) else some ((-2 : Int32), p1.2)))))))))
set_option maxRecDepth 100000 in
set_option maxHeartbeats 4000000 in
theorem ccX9_man {l : Launch} {sh : Sh} {adr : Nat → Nat} {r : Nat → Nat → Option Nat} {m : Nat} (hS : MS sh r m) {h : HI} {a1 : Int32} {a2 : Int32} {p : Int32 × HI} (H : fX9_man m h a1 a2 = some p) : CC l yX9_man cX9_man 3 (some .int) 1 [.ref m, .int a1, .int a2] sh adr (mk h r) (fun v τ => v = some (.int p.1) ∧ τ = mk p.2 r) := by
  refine CC.of (by decide) (Nat.le_of_ble_eq_true rfl) 0 [.ref m, .int a1, .int a2] rfl (fun X _ C E hZ => ?_)
  rw [fX9_man] at H
  refine ww_aload_n C dX9_man_0 0 rfl rfl ?_
  refine ww_iload_n C dX9_man_1 1 rfl rfl ?_
  obtain ⟨p1, hc1, H⟩ := bd_of H
  refine ww_callV C hZ dX9_man_2 cw_X9_433 (ccX9_isMan hS hc1) hS.1 ⟨by decide, rfl⟩ (by decide) rfl rfl (Nat.le_of_ble_eq_true rfl) ⟨Nat.zero_le _, Nat.zero_le _⟩ (fun v τ hp => ?_)
  obtain ⟨rfl, rfl⟩ := hp
  change WW X _ 5 [.ref m, .int a1, .int a2] [.int p1.1] _
  refine ww_if_ne C dX9_man_5 11 rfl (fun hc => ?_) (fun hc => ?_)
  · rw [if_neg hc] at H
    refine ww_iload_n C dX9_man_11 2 rfl rfl ?_
    by_cases hc0 : a2 = (0 : Int32)
    · rw [if_pos hc0] at H
      refine ww_tableIn (off := 40) C dX9_man_12 (by rw [hc0]; decide) (by rw [hc0]; decide) (by rw [hc0]; rfl) 52 rfl ?_
      refine ww_aload_n C dX9_man_52 0 rfl rfl ?_
      refine wk_getR C dX9_man_53 fl_X9_94 hS.1 rfl (tX9_where hS).1 ?_
      refine ww_iload_n C dX9_man_56 1 rfl rfl ?_
      obtain ⟨hg, H⟩ := gd_of H
      refine wk_iaload C dX9_man_57 (tX9_where hS).2.1 (vp_of hg (tX9_where hS).2.2) (a1.toNatClampNeg) rfl ?_
      refine ww_bipush (v := (-2 : Int32)) C dX9_man_58 (by decide) ?_
      refine ww_icmp_ne C dX9_man_60 67 rfl (fun hc => ?_) (fun hc => ?_)
      · rw [if_neg hc] at H
        refine ww_aload_n C dX9_man_67 0 rfl rfl ?_
        refine wk_getR C dX9_man_68 fl_X9_94 hS.1 rfl (tX9_where hS).1 ?_
        refine ww_iload_n C dX9_man_71 1 rfl rfl ?_
        obtain ⟨hg, H⟩ := gd_of H
        refine wk_iaload C dX9_man_72 (tX9_where hS).2.1 (vp_of hg (tX9_where hS).2.2) (a1.toNatClampNeg) rfl ?_
        refine ww_iconst (v := (-1 : Int32)) C dX9_man_73 (by decide) ?_
        refine ww_icmp_ne C dX9_man_74 81 rfl (fun hc => ?_) (fun hc => ?_)
        · rw [if_neg hc] at H
          refine ww_iconst (v := (1 : Int32)) C dX9_man_81 (by decide) ?_
          cases H
          exact ww_iret C E dX9_man_82 ⟨rfl, rfl⟩
        · rw [if_pos hc] at H
          refine ww_iconst (v := (0 : Int32)) C dX9_man_77 (by decide) ?_
          refine ww_goto C dX9_man_78 82 rfl ?_
          cases H
          exact ww_iret C E dX9_man_82 ⟨rfl, rfl⟩
      · rw [if_pos hc] at H
        refine ww_iconst (v := (2 : Int32)) C dX9_man_63 (by decide) ?_
        refine ww_goto C dX9_man_64 82 rfl ?_
        cases H
        exact ww_iret C E dX9_man_82 ⟨rfl, rfl⟩
    · rw [if_neg hc0] at H
      by_cases hc1 : a2 = (1 : Int32)
      · rw [if_pos hc1] at H
        refine ww_tableIn (off := 71) C dX9_man_12 (by rw [hc1]; decide) (by rw [hc1]; decide) (by rw [hc1]; rfl) 83 rfl ?_
        refine ww_aload_n C dX9_man_83 0 rfl rfl ?_
        refine wk_getR C dX9_man_84 fl_X9_94 hS.1 rfl (tX9_where hS).1 ?_
        refine ww_iload_n C dX9_man_87 1 rfl rfl ?_
        obtain ⟨hg, H⟩ := gd_of H
        refine wk_iaload C dX9_man_88 (tX9_where hS).2.1 (vp_of hg (tX9_where hS).2.2) (a1.toNatClampNeg) rfl ?_
        refine ww_if_ge C dX9_man_89 96 rfl (fun hc => ?_) (fun hc => ?_)
        · rw [if_pos hc] at H
          refine ww_aload_n C dX9_man_96 0 rfl rfl ?_
          refine wk_getR C dX9_man_97 fl_X9_94 hS.1 rfl (tX9_where hS).1 ?_
          refine ww_iload_n C dX9_man_100 1 rfl rfl ?_
          obtain ⟨hg, H⟩ := gd_of H
          refine wk_iaload C dX9_man_101 (tX9_where hS).2.1 (vp_of hg (tX9_where hS).2.2) (a1.toNatClampNeg) rfl ?_
          cases H
          exact ww_iret C E dX9_man_102 ⟨rfl, rfl⟩
        · rw [if_neg hc] at H
          refine ww_iconst (v := (-1 : Int32)) C dX9_man_92 (by decide) ?_
          refine ww_goto C dX9_man_93 102 rfl ?_
          cases H
          exact ww_iret C E dX9_man_102 ⟨rfl, rfl⟩
      · rw [if_neg hc1] at H
        by_cases hc2 : a2 = (2 : Int32)
        · rw [if_pos hc2] at H
          refine ww_tableIn (off := 91) C dX9_man_12 (by rw [hc2]; decide) (by rw [hc2]; decide) (by rw [hc2]; rfl) 103 rfl ?_
          refine ww_aload_n C dX9_man_103 0 rfl rfl ?_
          refine wk_getR C dX9_man_104 fl_X9_97 hS.1 rfl (tX9_tired hS).1 ?_
          refine ww_iload_n C dX9_man_107 1 rfl rfl ?_
          obtain ⟨hg, H⟩ := gd_of H
          refine wk_iaload C dX9_man_108 (tX9_tired hS).2.1 (vp_of hg (tX9_tired hS).2.2) (a1.toNatClampNeg) rfl ?_
          cases H
          exact ww_iret C E dX9_man_109 ⟨rfl, rfl⟩
        · rw [if_neg hc2] at H
          by_cases hc3 : a2 = (3 : Int32)
          · rw [if_pos hc3] at H
            refine ww_tableIn (off := 98) C dX9_man_12 (by rw [hc3]; decide) (by rw [hc3]; decide) (by rw [hc3]; rfl) 110 rfl ?_
            refine ww_aload_n C dX9_man_110 0 rfl rfl ?_
            refine wk_getR C dX9_man_111 fl_X9_94 hS.1 rfl (tX9_where hS).1 ?_
            refine ww_iload_n C dX9_man_114 1 rfl rfl ?_
            obtain ⟨hg, H⟩ := gd_of H
            refine wk_iaload C dX9_man_115 (tX9_where hS).2.1 (vp_of hg (tX9_where hS).2.2) (a1.toNatClampNeg) rfl ?_
            refine ww_if_ge C dX9_man_116 123 rfl (fun hc => ?_) (fun hc => ?_)
            · rw [if_pos hc] at H
              refine ww_aload_n C dX9_man_123 0 rfl rfl ?_
              refine wk_getR C dX9_man_124 fl_X9_100 hS.1 rfl (tX9_satFor hS).1 ?_
              refine ww_iload_n C dX9_man_127 1 rfl rfl ?_
              obtain ⟨hg, H⟩ := gd_of H
              refine wk_iaload C dX9_man_128 (tX9_satFor hS).2.1 (vp_of hg (tX9_satFor hS).2.2) (a1.toNatClampNeg) rfl ?_
              cases H
              exact ww_iret C E dX9_man_129 ⟨rfl, rfl⟩
            · rw [if_neg hc] at H
              refine ww_iconst (v := (0 : Int32)) C dX9_man_119 (by decide) ?_
              refine ww_goto C dX9_man_120 129 rfl ?_
              cases H
              exact ww_iret C E dX9_man_129 ⟨rfl, rfl⟩
          · rw [if_neg hc3] at H
            by_cases hc4 : a2 = (4 : Int32)
            · rw [if_pos hc4] at H
              refine ww_tableIn (off := 118) C dX9_man_12 (by rw [hc4]; decide) (by rw [hc4]; decide) (by rw [hc4]; rfl) 130 rfl ?_
              refine ww_aload_n C dX9_man_130 0 rfl rfl ?_
              refine ww_iload_n C dX9_man_131 1 rfl rfl ?_
              obtain ⟨p2, hc1, H⟩ := bd_of H
              refine ww_callV C hZ dX9_man_132 cw_X9_445 (ccX9_doesNap hS hc1) hS.1 ⟨by decide, rfl⟩ (by decide) rfl rfl (Nat.le_of_ble_eq_true rfl) ⟨Nat.zero_le _, Nat.zero_le _⟩ (fun v τ hp => ?_)
              obtain ⟨rfl, rfl⟩ := hp
              change WW X _ 135 [.ref m, .int a1, .int a2] [.int p2.1] _
              refine ww_if_eq C dX9_man_135 142 rfl (fun hc => ?_) (fun hc => ?_)
              · rw [if_pos hc] at H
                refine ww_iconst (v := (0 : Int32)) C dX9_man_142 (by decide) ?_
                cases H
                exact ww_iret C E dX9_man_143 ⟨rfl, rfl⟩
              · rw [if_neg hc] at H
                refine ww_iconst (v := (1 : Int32)) C dX9_man_138 (by decide) ?_
                refine ww_goto C dX9_man_139 143 rfl ?_
                cases H
                exact ww_iret C E dX9_man_143 ⟨rfl, rfl⟩
            · rw [if_neg hc4] at H
              by_cases hc5 : a2 = (5 : Int32)
              · rw [if_pos hc5] at H
                refine ww_tableIn (off := 132) C dX9_man_12 (by rw [hc5]; decide) (by rw [hc5]; decide) (by rw [hc5]; rfl) 144 rfl ?_
                refine ww_aload_n C dX9_man_144 0 rfl rfl ?_
                refine wk_getR C dX9_man_145 fl_X9_103 hS.1 rfl (tX9_spoke hS).1 ?_
                refine ww_iload_n C dX9_man_148 1 rfl rfl ?_
                obtain ⟨hg, H⟩ := gd_of H
                refine wk_iaload C dX9_man_149 (tX9_spoke hS).2.1 (vp_of hg (tX9_spoke hS).2.2) (a1.toNatClampNeg) rfl ?_
                cases H
                exact ww_iret C E dX9_man_150 ⟨rfl, rfl⟩
              · rw [if_neg hc5] at H
                refine ww_tableOut C dX9_man_12 (by have q0 := lv_neT (k := (0 : Int32)) (a := 0) hc0 (by decide); have q1 := lv_neT (k := (1 : Int32)) (a := 1) hc1 (by decide); have q2 := lv_neT (k := (2 : Int32)) (a := 2) hc2 (by decide); have q3 := lv_neT (k := (3 : Int32)) (a := 3) hc3 (by decide); have q4 := lv_neT (k := (4 : Int32)) (a := 4) hc4 (by decide); have q5 := lv_neT (k := (5 : Int32)) (a := 5) hc5 (by decide); omega) 151 rfl ?_
                refine ww_bipush (v := (-2 : Int32)) C dX9_man_151 (by decide) ?_
                cases H
                exact ww_iret C E dX9_man_153 ⟨rfl, rfl⟩
  · rw [if_pos hc] at H
    refine ww_bipush (v := (-2 : Int32)) C dX9_man_8 (by decide) ?_
    cases H
    exact ww_iret C E dX9_man_10 ⟨rfl, rfl⟩
def fX9_chair (m : Nat) (h : HI) (a1 : Int32) (a2 : Int32) : Option (Int32 × HI) := ((fX9_isChair m h a1).bind fun p1 => (if p1.1 = 0 then some ((-2 : Int32), p1.2) else (if a2 = (0 : Int32) then ((fX9_on m p1.2 a1).bind fun p2 => some (p2.1, p2.2)) else (if a2 = (1 : Int32) then (if inB a1 6 then (if (p1.2.1 (m + 33) (a1.toNatClampNeg)) = 0 then some ((0 : Int32), p1.2) else some ((1 : Int32), p1.2)) else none) else (if a2 = (2 : Int32) then (if inB a1 6 then (if (p1.2.1 (m + 34) (a1.toNatClampNeg)) = 0 then some ((0 : Int32), p1.2) else some ((1 : Int32), p1.2)) else none) else some ((-2 : Int32), p1.2))))))
set_option maxRecDepth 100000 in
set_option maxHeartbeats 4000000 in
theorem ccX9_chair {l : Launch} {sh : Sh} {adr : Nat → Nat} {r : Nat → Nat → Option Nat} {m : Nat} (hS : MS sh r m) {h : HI} {a1 : Int32} {a2 : Int32} {p : Int32 × HI} (H : fX9_chair m h a1 a2 = some p) : CC l yX9_chair cX9_chair 3 (some .int) 2 [.ref m, .int a1, .int a2] sh adr (mk h r) (fun v τ => v = some (.int p.1) ∧ τ = mk p.2 r) := by
  refine CC.of (by decide) (Nat.le_of_ble_eq_true rfl) 0 [.ref m, .int a1, .int a2] rfl (fun X _ C E hZ => ?_)
  rw [fX9_chair] at H
  refine ww_aload_n C dX9_chair_0 0 rfl rfl ?_
  refine ww_iload_n C dX9_chair_1 1 rfl rfl ?_
  obtain ⟨p1, hc1, H⟩ := bd_of H
  refine ww_callV C hZ dX9_chair_2 cw_X9_466 (ccX9_isChair hS hc1) hS.1 ⟨by decide, rfl⟩ (by decide) rfl rfl (Nat.le_of_ble_eq_true rfl) ⟨Nat.zero_le _, Nat.zero_le _⟩ (fun v τ hp => ?_)
  obtain ⟨rfl, rfl⟩ := hp
  change WW X _ 5 [.ref m, .int a1, .int a2] [.int p1.1] _
  refine ww_if_ne C dX9_chair_5 11 rfl (fun hc => ?_) (fun hc => ?_)
  · rw [if_neg hc] at H
    refine ww_iload_n C dX9_chair_11 2 rfl rfl ?_
    by_cases hc0 : a2 = (0 : Int32)
    · rw [if_pos hc0] at H
      refine ww_tableIn (off := 28) C dX9_chair_12 (by rw [hc0]; decide) (by rw [hc0]; decide) (by rw [hc0]; rfl) 40 rfl ?_
      refine ww_aload_n C dX9_chair_40 0 rfl rfl ?_
      refine ww_iload_n C dX9_chair_41 1 rfl rfl ?_
      obtain ⟨p2, hc1, H⟩ := bd_of H
      refine ww_callV C hZ dX9_chair_42 cw_X9_439 (ccX9_on hS hc1) hS.1 ⟨by decide, rfl⟩ (by decide) rfl rfl (Nat.le_of_ble_eq_true rfl) ⟨Nat.zero_le _, Nat.zero_le _⟩ (fun v τ hp => ?_)
      obtain ⟨rfl, rfl⟩ := hp
      change WW X _ 45 [.ref m, .int a1, .int a2] [.int p2.1] _
      cases H
      exact ww_iret C E dX9_chair_45 ⟨rfl, rfl⟩
    · rw [if_neg hc0] at H
      by_cases hc1 : a2 = (1 : Int32)
      · rw [if_pos hc1] at H
        refine ww_tableIn (off := 34) C dX9_chair_12 (by rw [hc1]; decide) (by rw [hc1]; decide) (by rw [hc1]; rfl) 46 rfl ?_
        refine ww_aload_n C dX9_chair_46 0 rfl rfl ?_
        refine wk_getR C dX9_chair_47 fl_X9_112 hS.1 rfl (tX9_isBroken hS).1 ?_
        refine ww_iload_n C dX9_chair_50 1 rfl rfl ?_
        obtain ⟨hg, H⟩ := gd_of H
        refine wk_zaload C dX9_chair_51 (tX9_isBroken hS).2.1 (vp_of hg (tX9_isBroken hS).2.2) (a1.toNatClampNeg) rfl ?_
        refine ww_if_eq C dX9_chair_52 59 rfl (fun hc => ?_) (fun hc => ?_)
        · rw [if_pos hc] at H
          refine ww_iconst (v := (0 : Int32)) C dX9_chair_59 (by decide) ?_
          cases H
          exact ww_iret C E dX9_chair_60 ⟨rfl, rfl⟩
        · rw [if_neg hc] at H
          refine ww_iconst (v := (1 : Int32)) C dX9_chair_55 (by decide) ?_
          refine ww_goto C dX9_chair_56 60 rfl ?_
          cases H
          exact ww_iret C E dX9_chair_60 ⟨rfl, rfl⟩
      · rw [if_neg hc1] at H
        by_cases hc2 : a2 = (2 : Int32)
        · rw [if_pos hc2] at H
          refine ww_tableIn (off := 49) C dX9_chair_12 (by rw [hc2]; decide) (by rw [hc2]; decide) (by rw [hc2]; rfl) 61 rfl ?_
          refine ww_aload_n C dX9_chair_61 0 rfl rfl ?_
          refine wk_getR C dX9_chair_62 fl_X9_115 hS.1 rfl (tX9_isFound hS).1 ?_
          refine ww_iload_n C dX9_chair_65 1 rfl rfl ?_
          obtain ⟨hg, H⟩ := gd_of H
          refine wk_zaload C dX9_chair_66 (tX9_isFound hS).2.1 (vp_of hg (tX9_isFound hS).2.2) (a1.toNatClampNeg) rfl ?_
          refine ww_if_eq C dX9_chair_67 74 rfl (fun hc => ?_) (fun hc => ?_)
          · rw [if_pos hc] at H
            refine ww_iconst (v := (0 : Int32)) C dX9_chair_74 (by decide) ?_
            cases H
            exact ww_iret C E dX9_chair_75 ⟨rfl, rfl⟩
          · rw [if_neg hc] at H
            refine ww_iconst (v := (1 : Int32)) C dX9_chair_70 (by decide) ?_
            refine ww_goto C dX9_chair_71 75 rfl ?_
            cases H
            exact ww_iret C E dX9_chair_75 ⟨rfl, rfl⟩
        · rw [if_neg hc2] at H
          refine ww_tableOut C dX9_chair_12 (by have q0 := lv_neT (k := (0 : Int32)) (a := 0) hc0 (by decide); have q1 := lv_neT (k := (1 : Int32)) (a := 1) hc1 (by decide); have q2 := lv_neT (k := (2 : Int32)) (a := 2) hc2 (by decide); omega) 76 rfl ?_
          refine ww_bipush (v := (-2 : Int32)) C dX9_chair_76 (by decide) ?_
          cases H
          exact ww_iret C E dX9_chair_78 ⟨rfl, rfl⟩
  · rw [if_pos hc] at H
    refine ww_bipush (v := (-2 : Int32)) C dX9_chair_8 (by decide) ?_
    cases H
    exact ww_iret C E dX9_chair_10 ⟨rfl, rfl⟩
def fX9_allWishes_4 (m : Nat) (k : HI → Int32 → Option (Int32 × HI)) : Nat → HI → Int32 → Int32 → Int32 → Option (Int32 × HI)
  | 0, _, _, _, _ => none
  | n + 1, h, v1, v2, v3 => ((fX9_men m h).bind fun p1 => (if p1.1 ≤ v3 then k p1.2 v2 else (if inB (((4 : Int32) * v3) + v1) 24 then fX9_allWishes_4 m k n p1.2 v1 (v2 + (p1.2.1 (m + 20) ((((4 : Int32) * v3) + v1).toNatClampNeg))) (v3 + (1 : Int32)) else none)))
set_option maxRecDepth 100000 in
set_option maxHeartbeats 4000000 in
theorem cX9_allWishes_4 {X : CT} {sh : Sh} {adr : Nat → Nat} {r : Nat → Nat → Option Nat} {m : Nat} {p : Int32 × HI} (hS : MS sh r m) (C : CX X yX9_allWishes.cls cX9_allWishes 4 1) (hZ : SZX X adr) (E : RX X (some .int) sh adr (fun v τ => v = some (.int p.1) ∧ τ = mk p.2 r)) {k : HI → Int32 → Option (Int32 × HI)} (hk : ∀ (h : HI) (v2 : Int32), k h v2 = some p → WW X (sh, adr, 0, 0) 31 [.ref m, .retAddr 0, .int v2, .retAddr 0] [] (mk h r)) : ∀ (n : Nat) (h : HI) (v1 : Int32) (v2 : Int32) (v3 : Int32), fX9_allWishes_4 m k n h v1 v2 v3 = some p → WW X (sh, adr, 0, 0) 4 [.ref m, .int v1, .int v2, .int v3] [] (mk h r) := by
  intro n
  induction n with
  | zero =>
    intro h v1 v2 v3 H
    rw [fX9_allWishes_4] at H
    cases H
  | succ n ih =>
    intro h v1 v2 v3 H
    rw [fX9_allWishes_4] at H
    refine ww_iload_n C dX9_allWishes_4 3 rfl rfl ?_
    refine ww_aload_n C dX9_allWishes_5 0 rfl rfl ?_
    obtain ⟨p1, hc1, H⟩ := bd_of H
    refine ww_callV C hZ dX9_allWishes_6 cw_X9_417 (ccX9_men hS hc1) hS.1 ⟨by decide, rfl⟩ (by decide) rfl rfl (Nat.le_of_ble_eq_true rfl) ⟨Nat.zero_le _, Nat.zero_le _⟩ (fun v τ hp => ?_)
    obtain ⟨rfl, rfl⟩ := hp
    change WW X _ 9 [.ref m, .int v1, .int v2, .int v3] [.int p1.1, .int v3] _
    refine ww_icmp_ge C dX9_allWishes_9 31 rfl (fun hc => ?_) (fun hc => ?_)
    · rw [if_pos hc] at H
      exact ww_drop [.ref m, .retAddr 0, .int v2, .retAddr 0] (sl_e (sl_d (sl_e (sl_d sl_n)))) (hk p1.2 v2 H)
    · rw [if_neg hc] at H
      refine ww_iload_n C dX9_allWishes_12 2 rfl rfl ?_
      refine ww_aload_n C dX9_allWishes_13 0 rfl rfl ?_
      refine wk_getR C dX9_allWishes_14 fl_X9_72 hS.1 rfl (tX9_wish hS).1 ?_
      refine ww_iconst (v := (4 : Int32)) C dX9_allWishes_17 (by decide) ?_
      refine ww_iload_n C dX9_allWishes_18 3 rfl rfl ?_
      refine ww_imul C dX9_allWishes_19 ?_
      refine ww_iload_n C dX9_allWishes_20 1 rfl rfl ?_
      refine ww_iadd C dX9_allWishes_21 ?_
      obtain ⟨hg, H⟩ := gd_of H
      refine wk_iaload C dX9_allWishes_22 (tX9_wish hS).2.1 (vp_of hg (tX9_wish hS).2.2) ((((4 : Int32) * v3) + v1).toNatClampNeg) rfl ?_
      refine ww_iadd C dX9_allWishes_23 ?_
      refine ww_istore_n C dX9_allWishes_24 2 rfl (by decide) rfl [.ref m, .int v1, .int (v2 + (p1.2.1 (m + 20) ((((4 : Int32) * v3) + v1).toNatClampNeg))), .int v3] rfl ?_
      refine ww_iinc (v := (v3 + (1 : Int32))) C dX9_allWishes_25 rfl rfl (by decide) rfl [.ref m, .int v1, .int (v2 + (p1.2.1 (m + 20) ((((4 : Int32) * v3) + v1).toNatClampNeg))), .int (v3 + (1 : Int32))] rfl ?_
      refine ww_goto C dX9_allWishes_28 4 rfl ?_
      exact ih p1.2 v1 (v2 + (p1.2.1 (m + 20) ((((4 : Int32) * v3) + v1).toNatClampNeg))) (v3 + (1 : Int32)) H
def fX9_allWishes (m : Nat) (h : HI) (a1 : Int32) : Option (Int32 × HI) := fX9_allWishes_4 m (fun h3 v2 => some (v2, h3)) FU h a1 (0 : Int32) (0 : Int32)
set_option maxRecDepth 100000 in
set_option maxHeartbeats 4000000 in
theorem ccX9_allWishes {l : Launch} {sh : Sh} {adr : Nat → Nat} {r : Nat → Nat → Option Nat} {m : Nat} (hS : MS sh r m) {h : HI} {a1 : Int32} {p : Int32 × HI} (H : fX9_allWishes m h a1 = some p) : CC l yX9_allWishes cX9_allWishes 4 (some .int) 1 [.ref m, .int a1] sh adr (mk h r) (fun v τ => v = some (.int p.1) ∧ τ = mk p.2 r) := by
  refine CC.of (by decide) (Nat.le_of_ble_eq_true rfl) 2 [.ref m, .int a1, .retAddr 0, .retAddr 0] rfl (fun X _ C E hZ => ?_)
  rw [fX9_allWishes] at H
  refine ww_iconst (v := (0 : Int32)) C dX9_allWishes_0 (by decide) ?_
  refine ww_istore_n C dX9_allWishes_1 2 rfl (by decide) rfl [.ref m, .int a1, .int (0 : Int32), .retAddr 0] rfl ?_
  refine ww_iconst (v := (0 : Int32)) C dX9_allWishes_2 (by decide) ?_
  refine ww_istore_n C dX9_allWishes_3 3 rfl (by decide) rfl [.ref m, .int a1, .int (0 : Int32), .int (0 : Int32)] rfl ?_
  refine cX9_allWishes_4 hS C hZ E (fun h3 v2 H => ?_) FU h a1 (0 : Int32) (0 : Int32) H
  refine ww_iload_n C dX9_allWishes_31 2 rfl rfl ?_
  cases H
  exact ww_iret C E dX9_allWishes_32 ⟨rfl, rfl⟩
def fX9_matter (m : Nat) (h : HI) (a1 : Int32) (a2 : Int32) : Option (Int32 × HI) := ((fX9_isMatter m h a1).bind fun p1 => (if p1.1 = 0 then some ((-1000000 : Int32), p1.2) else (if a2 = (0 : Int32) then (if inB a1 4 then some ((p1.2.1 (m + 31) (a1.toNatClampNeg)), p1.2) else none) else (if a2 = (1 : Int32) then ((fX9_allWishes m p1.2 a1).bind fun p2 => some (p2.1, p2.2)) else (if a2 = (2 : Int32) then ((fX9_voters m p1.2).bind fun p3 => ((fX9_dueSet m p3.2).bind fun p4 => ((fX9_yesOf m p4.2 p3.1 a1 p4.1).bind fun p5 => ((fX9_ones p5.2 p5.1).bind fun p6 => some (p6.1, p6.2))))) else (if a2 = (3 : Int32) then ((fX9_voters m p1.2).bind fun p7 => ((fX9_dueSet m p7.2).bind fun p8 => ((fX9_noOf m p8.2 p7.1 a1 p8.1).bind fun p9 => ((fX9_ones p9.2 p9.1).bind fun p10 => some (p10.1, p10.2))))) else some ((-1000000 : Int32), p1.2)))))))
set_option maxRecDepth 100000 in
set_option maxHeartbeats 4000000 in
theorem ccX9_matter {l : Launch} {sh : Sh} {adr : Nat → Nat} {r : Nat → Nat → Option Nat} {m : Nat} (hS : MS sh r m) {h : HI} {a1 : Int32} {a2 : Int32} {p : Int32 × HI} (H : fX9_matter m h a1 a2 = some p) : CC l yX9_matter cX9_matter 3 (some .int) 2 [.ref m, .int a1, .int a2] sh adr (mk h r) (fun v τ => v = some (.int p.1) ∧ τ = mk p.2 r) := by
  refine CC.of (by decide) (Nat.le_of_ble_eq_true rfl) 0 [.ref m, .int a1, .int a2] rfl (fun X _ C E hZ => ?_)
  rw [fX9_matter] at H
  refine ww_aload_n C dX9_matter_0 0 rfl rfl ?_
  refine ww_iload_n C dX9_matter_1 1 rfl rfl ?_
  obtain ⟨p1, hc1, H⟩ := bd_of H
  refine ww_callV C hZ dX9_matter_2 cw_X9_472 (ccX9_isMatter hS hc1) hS.1 ⟨by decide, rfl⟩ (by decide) rfl rfl (Nat.le_of_ble_eq_true rfl) ⟨Nat.zero_le _, Nat.zero_le _⟩ (fun v τ hp => ?_)
  obtain ⟨rfl, rfl⟩ := hp
  change WW X _ 5 [.ref m, .int a1, .int a2] [.int p1.1] _
  refine ww_if_ne C dX9_matter_5 12 rfl (fun hc => ?_) (fun hc => ?_)
  · rw [if_neg hc] at H
    refine ww_iload_n C dX9_matter_12 2 rfl rfl ?_
    by_cases hc0 : a2 = (0 : Int32)
    · rw [if_pos hc0] at H
      refine ww_tableIn (off := 31) C dX9_matter_13 (by rw [hc0]; decide) (by rw [hc0]; decide) (by rw [hc0]; rfl) 44 rfl ?_
      refine ww_aload_n C dX9_matter_44 0 rfl rfl ?_
      refine wk_getR C dX9_matter_45 fl_X9_106 hS.1 rfl (tX9_state hS).1 ?_
      refine ww_iload_n C dX9_matter_48 1 rfl rfl ?_
      obtain ⟨hg, H⟩ := gd_of H
      refine wk_iaload C dX9_matter_49 (tX9_state hS).2.1 (vp_of hg (tX9_state hS).2.2) (a1.toNatClampNeg) rfl ?_
      cases H
      exact ww_iret C E dX9_matter_50 ⟨rfl, rfl⟩
    · rw [if_neg hc0] at H
      by_cases hc1 : a2 = (1 : Int32)
      · rw [if_pos hc1] at H
        refine ww_tableIn (off := 38) C dX9_matter_13 (by rw [hc1]; decide) (by rw [hc1]; decide) (by rw [hc1]; rfl) 51 rfl ?_
        refine ww_aload_n C dX9_matter_51 0 rfl rfl ?_
        refine ww_iload_n C dX9_matter_52 1 rfl rfl ?_
        obtain ⟨p2, hc1, H⟩ := bd_of H
        refine ww_callV C hZ dX9_matter_53 cw_X9_502 (ccX9_allWishes hS hc1) hS.1 ⟨by decide, rfl⟩ (by decide) rfl rfl (Nat.le_of_ble_eq_true rfl) ⟨Nat.zero_le _, Nat.zero_le _⟩ (fun v τ hp => ?_)
        obtain ⟨rfl, rfl⟩ := hp
        change WW X _ 56 [.ref m, .int a1, .int a2] [.int p2.1] _
        cases H
        exact ww_iret C E dX9_matter_56 ⟨rfl, rfl⟩
      · rw [if_neg hc1] at H
        by_cases hc2 : a2 = (2 : Int32)
        · rw [if_pos hc2] at H
          refine ww_tableIn (off := 44) C dX9_matter_13 (by rw [hc2]; decide) (by rw [hc2]; decide) (by rw [hc2]; rfl) 57 rfl ?_
          refine ww_aload_n C dX9_matter_57 0 rfl rfl ?_
          refine ww_aload_n C dX9_matter_58 0 rfl rfl ?_
          obtain ⟨p3, hc1, H⟩ := bd_of H
          refine ww_callV C hZ dX9_matter_59 cw_X9_481 (ccX9_voters hS hc1) hS.1 ⟨by decide, rfl⟩ (by decide) rfl rfl (Nat.le_of_ble_eq_true rfl) ⟨Nat.zero_le _, Nat.zero_le _⟩ (fun v τ hp => ?_)
          obtain ⟨rfl, rfl⟩ := hp
          change WW X _ 62 [.ref m, .int a1, .int a2] [.int p3.1, .ref m] _
          refine ww_iload_n C dX9_matter_62 1 rfl rfl ?_
          refine ww_aload_n C dX9_matter_63 0 rfl rfl ?_
          obtain ⟨p4, hc1, H⟩ := bd_of H
          refine ww_callV C hZ dX9_matter_64 cw_X9_469 (ccX9_dueSet hS hc1) hS.1 ⟨by decide, rfl⟩ (by decide) rfl rfl (Nat.le_of_ble_eq_true rfl) ⟨Nat.zero_le _, Nat.zero_le _⟩ (fun v τ hp => ?_)
          obtain ⟨rfl, rfl⟩ := hp
          change WW X _ 67 [.ref m, .int a1, .int a2] [.int p4.1, .int a1, .int p3.1, .ref m] _
          obtain ⟨p5, hc1, H⟩ := bd_of H
          refine ww_callV C hZ dX9_matter_67 cw_X9_484 (ccX9_yesOf hS hc1) hS.1 ⟨by decide, rfl⟩ (by decide) rfl rfl (Nat.le_of_ble_eq_true rfl) ⟨Nat.zero_le _, Nat.zero_le _⟩ (fun v τ hp => ?_)
          obtain ⟨rfl, rfl⟩ := hp
          change WW X _ 70 [.ref m, .int a1, .int a2] [.int p5.1] _
          obtain ⟨p6, hc1, H⟩ := bd_of H
          refine ww_callS C hZ dX9_matter_70 sw_X9_442 (ccX9_ones hc1) (by decide) rfl rfl (Nat.le_of_ble_eq_true rfl) ⟨Nat.zero_le _, Nat.zero_le _⟩ (fun v τ hp => ?_)
          obtain ⟨rfl, rfl⟩ := hp
          change WW X _ 73 [.ref m, .int a1, .int a2] [.int p6.1] _
          cases H
          exact ww_iret C E dX9_matter_73 ⟨rfl, rfl⟩
        · rw [if_neg hc2] at H
          by_cases hc3 : a2 = (3 : Int32)
          · rw [if_pos hc3] at H
            refine ww_tableIn (off := 61) C dX9_matter_13 (by rw [hc3]; decide) (by rw [hc3]; decide) (by rw [hc3]; rfl) 74 rfl ?_
            refine ww_aload_n C dX9_matter_74 0 rfl rfl ?_
            refine ww_aload_n C dX9_matter_75 0 rfl rfl ?_
            obtain ⟨p7, hc1, H⟩ := bd_of H
            refine ww_callV C hZ dX9_matter_76 cw_X9_481 (ccX9_voters hS hc1) hS.1 ⟨by decide, rfl⟩ (by decide) rfl rfl (Nat.le_of_ble_eq_true rfl) ⟨Nat.zero_le _, Nat.zero_le _⟩ (fun v τ hp => ?_)
            obtain ⟨rfl, rfl⟩ := hp
            change WW X _ 79 [.ref m, .int a1, .int a2] [.int p7.1, .ref m] _
            refine ww_iload_n C dX9_matter_79 1 rfl rfl ?_
            refine ww_aload_n C dX9_matter_80 0 rfl rfl ?_
            obtain ⟨p8, hc1, H⟩ := bd_of H
            refine ww_callV C hZ dX9_matter_81 cw_X9_469 (ccX9_dueSet hS hc1) hS.1 ⟨by decide, rfl⟩ (by decide) rfl rfl (Nat.le_of_ble_eq_true rfl) ⟨Nat.zero_le _, Nat.zero_le _⟩ (fun v τ hp => ?_)
            obtain ⟨rfl, rfl⟩ := hp
            change WW X _ 84 [.ref m, .int a1, .int a2] [.int p8.1, .int a1, .int p7.1, .ref m] _
            obtain ⟨p9, hc1, H⟩ := bd_of H
            refine ww_callV C hZ dX9_matter_84 cw_X9_487 (ccX9_noOf hS hc1) hS.1 ⟨by decide, rfl⟩ (by decide) rfl rfl (Nat.le_of_ble_eq_true rfl) ⟨Nat.zero_le _, Nat.zero_le _⟩ (fun v τ hp => ?_)
            obtain ⟨rfl, rfl⟩ := hp
            change WW X _ 87 [.ref m, .int a1, .int a2] [.int p9.1] _
            obtain ⟨p10, hc1, H⟩ := bd_of H
            refine ww_callS C hZ dX9_matter_87 sw_X9_442 (ccX9_ones hc1) (by decide) rfl rfl (Nat.le_of_ble_eq_true rfl) ⟨Nat.zero_le _, Nat.zero_le _⟩ (fun v τ hp => ?_)
            obtain ⟨rfl, rfl⟩ := hp
            change WW X _ 90 [.ref m, .int a1, .int a2] [.int p10.1] _
            cases H
            exact ww_iret C E dX9_matter_90 ⟨rfl, rfl⟩
          · rw [if_neg hc3] at H
            refine ww_tableOut C dX9_matter_13 (by have q0 := lv_neT (k := (0 : Int32)) (a := 0) hc0 (by decide); have q1 := lv_neT (k := (1 : Int32)) (a := 1) hc1 (by decide); have q2 := lv_neT (k := (2 : Int32)) (a := 2) hc2 (by decide); have q3 := lv_neT (k := (3 : Int32)) (a := 3) hc3 (by decide); omega) 91 rfl ?_
            refine ww_ldcw (v := (-1000000 : Int32)) C dX9_matter_91 kc_X9_501 ?_
            cases H
            exact ww_iret C E dX9_matter_94 ⟨rfl, rfl⟩
  · rw [if_pos hc] at H
    refine ww_ldcw (v := (-1000000 : Int32)) C dX9_matter_8 kc_X9_501 ?_
    cases H
    exact ww_iret C E dX9_matter_11 ⟨rfl, rfl⟩
def fX9_deal (m : Nat) (h : HI) (a1 : Int32) : Option (Int32 × HI) := (if a1 < 0 then some ((-1 : Int32), h) else (if (h.1 m 45) ≤ a1 then some ((-1 : Int32), h) else (if inB a1 4 then some ((h.1 (m + 32) (a1.toNatClampNeg)), h) else none)))
set_option maxRecDepth 100000 in
set_option maxHeartbeats 4000000 in
theorem ccX9_deal {l : Launch} {sh : Sh} {adr : Nat → Nat} {r : Nat → Nat → Option Nat} {m : Nat} (hS : MS sh r m) {h : HI} {a1 : Int32} {p : Int32 × HI} (H : fX9_deal m h a1 = some p) : CC l yX9_deal cX9_deal 2 (some .int) 0 [.ref m, .int a1] sh adr (mk h r) (fun v τ => v = some (.int p.1) ∧ τ = mk p.2 r) := by
  refine CC.of (by decide) (Nat.le_of_ble_eq_true rfl) 0 [.ref m, .int a1] rfl (fun X _ C E hZ => ?_)
  rw [fX9_deal] at H
  refine ww_iload_n C dX9_deal_0 1 rfl rfl ?_
  refine ww_if_lt C dX9_deal_1 21 rfl (fun hc => ?_) (fun hc => ?_)
  · rw [if_pos hc] at H
    refine ww_iconst (v := (-1 : Int32)) C dX9_deal_21 (by decide) ?_
    cases H
    exact ww_iret C E dX9_deal_22 ⟨rfl, rfl⟩
  · rw [if_neg hc] at H
    refine ww_iload_n C dX9_deal_4 1 rfl rfl ?_
    refine ww_aload_n C dX9_deal_5 0 rfl rfl ?_
    refine wk_getI C dX9_deal_6 fl_X9_398 hS.1 rfl ?_
    refine ww_icmp_ge C dX9_deal_9 21 rfl (fun hc => ?_) (fun hc => ?_)
    · rw [if_pos hc] at H
      refine ww_iconst (v := (-1 : Int32)) C dX9_deal_21 (by decide) ?_
      cases H
      exact ww_iret C E dX9_deal_22 ⟨rfl, rfl⟩
    · rw [if_neg hc] at H
      refine ww_aload_n C dX9_deal_12 0 rfl rfl ?_
      refine wk_getR C dX9_deal_13 fl_X9_109 hS.1 rfl (tX9_dealState hS).1 ?_
      refine ww_iload_n C dX9_deal_16 1 rfl rfl ?_
      obtain ⟨hg, H⟩ := gd_of H
      refine wk_iaload C dX9_deal_17 (tX9_dealState hS).2.1 (vp_of hg (tX9_dealState hS).2.2) (a1.toNatClampNeg) rfl ?_
      refine ww_goto C dX9_deal_18 22 rfl ?_
      cases H
      exact ww_iret C E dX9_deal_22 ⟨rfl, rfl⟩
