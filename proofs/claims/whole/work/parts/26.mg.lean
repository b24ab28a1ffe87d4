def fX9_fewest_39 (m : Nat) (k : HI → Int32 → Option (Int32 × HI)) : Nat → HI → Int32 → Int32 → Int32 → Int32 → Int32 → Option (Int32 × HI)
  | 0, _, _, _, _, _, _ => none
  | n + 1, h, v1, v2, v3, v4, v5 => (if v3 ≤ v5 then k h v5 else ((fX9_seated m h).bind fun p7 => ((fX9_firstOf p7.2 p7.1 v5).bind fun p8 => ((fX9_seekBest m p8.2 v1 v2 v5 p8.1).bind fun p9 => (if v4 ≤ p9.1 then k p9.2 v5 else fX9_fewest_39 m k n p9.2 v1 v2 v3 v4 (v5 + (1 : Int32)))))))
set_option maxRecDepth 100000 in
set_option maxHeartbeats 4000000 in
theorem cX9_fewest_39 {X : CT} {sh : Sh} {adr : Nat → Nat} {r : Nat → Nat → Option Nat} {m : Nat} {p : Int32 × HI} (hS : MS sh r m) (C : CX X yX9_fewest.cls cX9_fewest 6 6) (hZ : SZX X adr) (E : RX X (some .int) sh adr (fun v τ => v = some (.int p.1) ∧ τ = mk p.2 r)) {k : HI → Int32 → Option (Int32 × HI)} (hk : ∀ (h : HI) (v5 : Int32), k h v5 = some p → WW X (sh, adr, 0, 0) 73 [.ref m, .retAddr 0, .retAddr 0, .retAddr 0, .retAddr 0, .int v5] [] (mk h r)) : ∀ (n : Nat) (h : HI) (v1 : Int32) (v2 : Int32) (v3 : Int32) (v4 : Int32) (v5 : Int32), fX9_fewest_39 m k n h v1 v2 v3 v4 v5 = some p → WW X (sh, adr, 0, 0) 39 [.ref m, .int v1, .int v2, .int v3, .int v4, .int v5] [] (mk h r) := by
  intro n
  induction n with
  | zero =>
    intro h v1 v2 v3 v4 v5 H
    rw [fX9_fewest_39] at H
    cases H
  | succ n ih =>
    intro h v1 v2 v3 v4 v5 H
    rw [fX9_fewest_39] at H
    refine ww_iload C dX9_fewest_39 rfl ?_
    refine ww_iload_n C dX9_fewest_41 3 rfl rfl ?_
    refine ww_icmp_ge C dX9_fewest_42 73 rfl (fun hc => ?_) (fun hc => ?_)
    · rw [if_pos hc] at H
      exact ww_drop [.ref m, .retAddr 0, .retAddr 0, .retAddr 0, .retAddr 0, .int v5] (sl_e (sl_d (sl_d (sl_d (sl_d (sl_e sl_n)))))) (hk h v5 H)
    · rw [if_neg hc] at H
      refine ww_aload_n C dX9_fewest_45 0 rfl rfl ?_
      refine ww_iload_n C dX9_fewest_46 1 rfl rfl ?_
      refine ww_iload_n C dX9_fewest_47 2 rfl rfl ?_
      refine ww_iload C dX9_fewest_48 rfl ?_
      refine ww_aload_n C dX9_fewest_50 0 rfl rfl ?_
      obtain ⟨p7, hc1, H⟩ := bd_of H
      refine ww_callV C hZ dX9_fewest_51 cw_X9_560 (ccX9_seated hS hc1) hS.1 ⟨by decide, rfl⟩ (by decide) rfl rfl (Nat.le_of_ble_eq_true rfl) ⟨Nat.zero_le _, Nat.zero_le _⟩ (fun v τ hp => ?_)
      obtain ⟨rfl, rfl⟩ := hp
      change WW X _ 54 [.ref m, .int v1, .int v2, .int v3, .int v4, .int v5] [.int p7.1, .int v5, .int v2, .int v1, .ref m] _
      refine ww_iload C dX9_fewest_54 rfl ?_
      obtain ⟨p8, hc1, H⟩ := bd_of H
      refine ww_callS C hZ dX9_fewest_56 sw_X9_567 (ccX9_firstOf hc1) (by decide) rfl rfl (Nat.le_of_ble_eq_true rfl) ⟨Nat.zero_le _, Nat.zero_le _⟩ (fun v τ hp => ?_)
      obtain ⟨rfl, rfl⟩ := hp
      change WW X _ 59 [.ref m, .int v1, .int v2, .int v3, .int v4, .int v5] [.int p8.1, .int v5, .int v2, .int v1, .ref m] _
      obtain ⟨p9, hc1, H⟩ := bd_of H
      refine ww_callV C hZ dX9_fewest_59 cw_X9_563 (ccX9_seekBest hS hc1) hS.1 ⟨by decide, rfl⟩ (by decide) rfl rfl (Nat.le_of_ble_eq_true rfl) ⟨Nat.zero_le _, Nat.zero_le _⟩ (fun v τ hp => ?_)
      obtain ⟨rfl, rfl⟩ := hp
      change WW X _ 62 [.ref m, .int v1, .int v2, .int v3, .int v4, .int v5] [.int p9.1] _
      refine ww_iload C dX9_fewest_62 rfl ?_
      refine ww_icmp_ge C dX9_fewest_64 73 rfl (fun hc => ?_) (fun hc => ?_)
      · rw [if_pos hc] at H
        exact ww_drop [.ref m, .retAddr 0, .retAddr 0, .retAddr 0, .retAddr 0, .int v5] (sl_e (sl_d (sl_d (sl_d (sl_d (sl_e sl_n)))))) (hk p9.2 v5 H)
      · rw [if_neg hc] at H
        refine ww_iinc (v := (v5 + (1 : Int32))) C dX9_fewest_67 rfl rfl (by decide) rfl [.ref m, .int v1, .int v2, .int v3, .int v4, .int (v5 + (1 : Int32))] rfl ?_
        refine ww_goto C dX9_fewest_70 39 rfl ?_
        exact ih p9.2 v1 v2 v3 v4 (v5 + (1 : Int32)) H
def fX9_fewest (m : Nat) (h : HI) (a1 : Int32) : Option (Int32 × HI) := ((fX9_isPlanned h a1).bind fun p1 => (if p1.1 = 0 then some ((-1 : Int32), p1.2) else ((fX9_hereSet m p1.2).bind fun p2 => ((fX9_ones p2.2 p2.1).bind fun p3 => ((fX9_seated m p3.2).bind fun p4 => ((fX9_firstOf p4.2 p4.1 p3.1).bind fun p5 => ((fX9_seekBest m p5.2 a1 p2.1 p3.1 p5.1).bind fun p6 => fX9_fewest_39 m (fun h11 v5 => some (v5, h11)) FU p6.2 a1 p2.1 p3.1 p6.1 (0 : Int32))))))))
set_option maxRecDepth 100000 in
set_option maxHeartbeats 4000000 in
theorem ccX9_fewest {l : Launch} {sh : Sh} {adr : Nat → Nat} {r : Nat → Nat → Option Nat} {m : Nat} (hS : MS sh r m) {h : HI} {a1 : Int32} {p : Int32 × HI} (H : fX9_fewest m h a1 = some p) : CC l yX9_fewest cX9_fewest 6 (some .int) 6 [.ref m, .int a1] sh adr (mk h r) (fun v τ => v = some (.int p.1) ∧ τ = mk p.2 r) := by
  refine CC.of (by decide) (Nat.le_of_ble_eq_true rfl) 4 [.ref m, .int a1, .retAddr 0, .retAddr 0, .retAddr 0, .retAddr 0] rfl (fun X _ C E hZ => ?_)
  rw [fX9_fewest] at H
  refine ww_iload_n C dX9_fewest_0 1 rfl rfl ?_
  obtain ⟨p1, hc1, H⟩ := bd_of H
  refine ww_callS C hZ dX9_fewest_1 sw_X9_554 (ccX9_isPlanned hc1) (by decide) rfl rfl (Nat.le_of_ble_eq_true rfl) ⟨Nat.zero_le _, Nat.zero_le _⟩ (fun v τ hp => ?_)
  obtain ⟨rfl, rfl⟩ := hp
  change WW X _ 4 [.ref m, .int a1, .retAddr 0, .retAddr 0, .retAddr 0, .retAddr 0] [.int p1.1] _
  refine ww_if_ne C dX9_fewest_4 9 rfl (fun hc => ?_) (fun hc => ?_)
  · rw [if_neg hc] at H
    refine ww_aload_n C dX9_fewest_9 0 rfl rfl ?_
    obtain ⟨p2, hc1, H⟩ := bd_of H
    refine ww_callV C hZ dX9_fewest_10 cw_X9_490 (ccX9_hereSet hS hc1) hS.1 ⟨by decide, rfl⟩ (by decide) rfl rfl (Nat.le_of_ble_eq_true rfl) ⟨Nat.zero_le _, Nat.zero_le _⟩ (fun v τ hp => ?_)
    obtain ⟨rfl, rfl⟩ := hp
    change WW X _ 13 [.ref m, .int a1, .retAddr 0, .retAddr 0, .retAddr 0, .retAddr 0] [.int p2.1] _
    refine ww_istore_n C dX9_fewest_13 2 rfl (by decide) rfl [.ref m, .int a1, .int p2.1, .retAddr 0, .retAddr 0, .retAddr 0] rfl ?_
    refine ww_iload_n C dX9_fewest_14 2 rfl rfl ?_
    obtain ⟨p3, hc1, H⟩ := bd_of H
    refine ww_callS C hZ dX9_fewest_15 sw_X9_442 (ccX9_ones hc1) (by decide) rfl rfl (Nat.le_of_ble_eq_true rfl) ⟨Nat.zero_le _, Nat.zero_le _⟩ (fun v τ hp => ?_)
    obtain ⟨rfl, rfl⟩ := hp
    change WW X _ 18 [.ref m, .int a1, .int p2.1, .retAddr 0, .retAddr 0, .retAddr 0] [.int p3.1] _
    refine ww_istore_n C dX9_fewest_18 3 rfl (by decide) rfl [.ref m, .int a1, .int p2.1, .int p3.1, .retAddr 0, .retAddr 0] rfl ?_
    refine ww_aload_n C dX9_fewest_19 0 rfl rfl ?_
    refine ww_iload_n C dX9_fewest_20 1 rfl rfl ?_
    refine ww_iload_n C dX9_fewest_21 2 rfl rfl ?_
    refine ww_iload_n C dX9_fewest_22 3 rfl rfl ?_
    refine ww_aload_n C dX9_fewest_23 0 rfl rfl ?_
    obtain ⟨p4, hc1, H⟩ := bd_of H
    refine ww_callV C hZ dX9_fewest_24 cw_X9_560 (ccX9_seated hS hc1) hS.1 ⟨by decide, rfl⟩ (by decide) rfl rfl (Nat.le_of_ble_eq_true rfl) ⟨Nat.zero_le _, Nat.zero_le _⟩ (fun v τ hp => ?_)
    obtain ⟨rfl, rfl⟩ := hp
    change WW X _ 27 [.ref m, .int a1, .int p2.1, .int p3.1, .retAddr 0, .retAddr 0] [.int p4.1, .int p3.1, .int p2.1, .int a1, .ref m] _
    refine ww_iload_n C dX9_fewest_27 3 rfl rfl ?_
    obtain ⟨p5, hc1, H⟩ := bd_of H
    refine ww_callS C hZ dX9_fewest_28 sw_X9_567 (ccX9_firstOf hc1) (by decide) rfl rfl (Nat.le_of_ble_eq_true rfl) ⟨Nat.zero_le _, Nat.zero_le _⟩ (fun v τ hp => ?_)
    obtain ⟨rfl, rfl⟩ := hp
    change WW X _ 31 [.ref m, .int a1, .int p2.1, .int p3.1, .retAddr 0, .retAddr 0] [.int p5.1, .int p3.1, .int p2.1, .int a1, .ref m] _
    obtain ⟨p6, hc1, H⟩ := bd_of H
    refine ww_callV C hZ dX9_fewest_31 cw_X9_563 (ccX9_seekBest hS hc1) hS.1 ⟨by decide, rfl⟩ (by decide) rfl rfl (Nat.le_of_ble_eq_true rfl) ⟨Nat.zero_le _, Nat.zero_le _⟩ (fun v τ hp => ?_)
    obtain ⟨rfl, rfl⟩ := hp
    change WW X _ 34 [.ref m, .int a1, .int p2.1, .int p3.1, .retAddr 0, .retAddr 0] [.int p6.1] _
    refine ww_istore C dX9_fewest_34 (by decide) rfl [.ref m, .int a1, .int p2.1, .int p3.1, .int p6.1, .retAddr 0] rfl ?_
    refine ww_iconst (v := (0 : Int32)) C dX9_fewest_36 (by decide) ?_
    refine ww_istore C dX9_fewest_37 (by decide) rfl [.ref m, .int a1, .int p2.1, .int p3.1, .int p6.1, .int (0 : Int32)] rfl ?_
    refine cX9_fewest_39 hS C hZ E (fun h11 v5 H => ?_) FU p6.2 a1 p2.1 p3.1 p6.1 (0 : Int32) H
    refine ww_iload C dX9_fewest_73 rfl ?_
    cases H
    exact ww_iret C E dX9_fewest_75 ⟨rfl, rfl⟩
  · rw [if_pos hc] at H
    refine ww_iconst (v := (-1 : Int32)) C dX9_fewest_7 (by decide) ?_
    cases H
    exact ww_iret C E dX9_fewest_8 ⟨rfl, rfl⟩
def fX9_lets (m : Nat) (h : HI) (a1 : Int32) (a2 : Int32) : Option (Int32 × HI) := ((fX9_isMan m h a1).bind fun p1 => (if p1.1 = 0 then some ((-1000000 : Int32), p1.2) else (if inB a1 6 then (if (p1.2.1 (m + 27) (a1.toNatClampNeg)) = (-2 : Int32) then ((fX9_isPlanned p1.2 a2).bind fun p2 => (if p2.1 = 0 then some ((-1000000 : Int32), p2.2) else ((fX9_hereSet m p2.2).bind fun p3 => ((fX9_seats m p3.2).bind fun p4 => ((fX9_seated m p4.2).bind fun p5 => ((fX9_seekBest m p5.2 a2 (p3.1 ||| ((1 : Int32) <<< (a1 &&& 31))) p4.1 p5.1).bind fun p6 => ((fX9_hereSet m p6.2).bind fun p7 => ((fX9_seats m p7.2).bind fun p8 => ((fX9_seated m p8.2).bind fun p9 => ((fX9_seekBest m p9.2 a2 p7.1 p8.1 p9.1).bind fun p10 => some ((p6.1 - p10.1), p10.2))))))))))) else some ((-1000000 : Int32), p1.2)) else none)))
set_option maxRecDepth 100000 in
set_option maxHeartbeats 4000000 in
theorem ccX9_lets {l : Launch} {sh : Sh} {adr : Nat → Nat} {r : Nat → Nat → Option Nat} {m : Nat} (hS : MS sh r m) {h : HI} {a1 : Int32} {a2 : Int32} {p : Int32 × HI} (H : fX9_lets m h a1 a2 = some p) : CC l yX9_lets cX9_lets 4 (some .int) 6 [.ref m, .int a1, .int a2] sh adr (mk h r) (fun v τ => v = some (.int p.1) ∧ τ = mk p.2 r) := by
  refine CC.of (by decide) (Nat.le_of_ble_eq_true rfl) 1 [.ref m, .int a1, .int a2, .retAddr 0] rfl (fun X _ C E hZ => ?_)
  rw [fX9_lets] at H
  refine ww_aload_n C dX9_lets_0 0 rfl rfl ?_
  refine ww_iload_n C dX9_lets_1 1 rfl rfl ?_
  obtain ⟨p1, hc1, H⟩ := bd_of H
  refine ww_callV C hZ dX9_lets_2 cw_X9_433 (ccX9_isMan hS hc1) hS.1 ⟨by decide, rfl⟩ (by decide) rfl rfl (Nat.le_of_ble_eq_true rfl) ⟨Nat.zero_le _, Nat.zero_le _⟩ (fun v τ hp => ?_)
  obtain ⟨rfl, rfl⟩ := hp
  change WW X _ 5 [.ref m, .int a1, .int a2, .retAddr 0] [.int p1.1] _
  refine ww_if_eq C dX9_lets_5 26 rfl (fun hc => ?_) (fun hc => ?_)
  · rw [if_pos hc] at H
    refine ww_ldcw (v := (-1000000 : Int32)) C dX9_lets_26 kc_X9_501 ?_
    cases H
    exact ww_iret C E dX9_lets_29 ⟨rfl, rfl⟩
  · rw [if_neg hc] at H
    refine ww_aload_n C dX9_lets_8 0 rfl rfl ?_
    refine wk_getR C dX9_lets_9 fl_X9_94 hS.1 rfl (tX9_where hS).1 ?_
    refine ww_iload_n C dX9_lets_12 1 rfl rfl ?_
    obtain ⟨hg, H⟩ := gd_of H
    refine wk_iaload C dX9_lets_13 (tX9_where hS).2.1 (vp_of hg (tX9_where hS).2.2) (a1.toNatClampNeg) rfl ?_
    refine ww_bipush (v := (-2 : Int32)) C dX9_lets_14 (by decide) ?_
    refine ww_icmp_ne C dX9_lets_16 26 rfl (fun hc => ?_) (fun hc => ?_)
    · rw [if_neg hc] at H
      refine ww_ldcw (v := (-1000000 : Int32)) C dX9_lets_26 kc_X9_501 ?_
      cases H
      exact ww_iret C E dX9_lets_29 ⟨rfl, rfl⟩
    · rw [if_pos hc] at H
      refine ww_iload_n C dX9_lets_19 2 rfl rfl ?_
      obtain ⟨p2, hc1, H⟩ := bd_of H
      refine ww_callS C hZ dX9_lets_20 sw_X9_554 (ccX9_isPlanned hc1) (by decide) rfl rfl (Nat.le_of_ble_eq_true rfl) ⟨Nat.zero_le _, Nat.zero_le _⟩ (fun v τ hp => ?_)
      obtain ⟨rfl, rfl⟩ := hp
      change WW X _ 23 [.ref m, .int a1, .int a2, .retAddr 0] [.int p2.1] _
      refine ww_if_ne C dX9_lets_23 30 rfl (fun hc => ?_) (fun hc => ?_)
      · rw [if_neg hc] at H
        refine ww_aload_n C dX9_lets_30 0 rfl rfl ?_
        refine ww_iload_n C dX9_lets_31 2 rfl rfl ?_
        refine ww_aload_n C dX9_lets_32 0 rfl rfl ?_
        obtain ⟨p3, hc1, H⟩ := bd_of H
        refine ww_callV C hZ dX9_lets_33 cw_X9_490 (ccX9_hereSet hS hc1) hS.1 ⟨by decide, rfl⟩ (by decide) rfl rfl (Nat.le_of_ble_eq_true rfl) ⟨Nat.zero_le _, Nat.zero_le _⟩ (fun v τ hp => ?_)
        obtain ⟨rfl, rfl⟩ := hp
        change WW X _ 36 [.ref m, .int a1, .int a2, .retAddr 0] [.int p3.1, .int a2, .ref m] _
        refine ww_iconst (v := (1 : Int32)) C dX9_lets_36 (by decide) ?_
        refine ww_iload_n C dX9_lets_37 1 rfl rfl ?_
        refine ww_ishl C dX9_lets_38 ?_
        refine ww_ior C dX9_lets_39 ?_
        refine ww_aload_n C dX9_lets_40 0 rfl rfl ?_
        obtain ⟨p4, hc1, H⟩ := bd_of H
        refine ww_callV C hZ dX9_lets_41 cw_X9_557 (ccX9_seats hS hc1) hS.1 ⟨by decide, rfl⟩ (by decide) rfl rfl (Nat.le_of_ble_eq_true rfl) ⟨Nat.zero_le _, Nat.zero_le _⟩ (fun v τ hp => ?_)
        obtain ⟨rfl, rfl⟩ := hp
        change WW X _ 44 [.ref m, .int a1, .int a2, .retAddr 0] [.int p4.1, .int (p3.1 ||| ((1 : Int32) <<< (a1 &&& 31))), .int a2, .ref m] _
        refine ww_aload_n C dX9_lets_44 0 rfl rfl ?_
        obtain ⟨p5, hc1, H⟩ := bd_of H
        refine ww_callV C hZ dX9_lets_45 cw_X9_560 (ccX9_seated hS hc1) hS.1 ⟨by decide, rfl⟩ (by decide) rfl rfl (Nat.le_of_ble_eq_true rfl) ⟨Nat.zero_le _, Nat.zero_le _⟩ (fun v τ hp => ?_)
        obtain ⟨rfl, rfl⟩ := hp
        change WW X _ 48 [.ref m, .int a1, .int a2, .retAddr 0] [.int p5.1, .int p4.1, .int (p3.1 ||| ((1 : Int32) <<< (a1 &&& 31))), .int a2, .ref m] _
        obtain ⟨p6, hc1, H⟩ := bd_of H
        refine ww_callV C hZ dX9_lets_48 cw_X9_563 (ccX9_seekBest hS hc1) hS.1 ⟨by decide, rfl⟩ (by decide) rfl rfl (Nat.le_of_ble_eq_true rfl) ⟨Nat.zero_le _, Nat.zero_le _⟩ (fun v τ hp => ?_)
        obtain ⟨rfl, rfl⟩ := hp
        change WW X _ 51 [.ref m, .int a1, .int a2, .retAddr 0] [.int p6.1] _
        refine ww_istore_n C dX9_lets_51 3 rfl (by decide) rfl [.ref m, .int a1, .int a2, .int p6.1] rfl ?_
        refine ww_iload_n C dX9_lets_52 3 rfl rfl ?_
        refine ww_aload_n C dX9_lets_53 0 rfl rfl ?_
        refine ww_iload_n C dX9_lets_54 2 rfl rfl ?_
        refine ww_aload_n C dX9_lets_55 0 rfl rfl ?_
        obtain ⟨p7, hc1, H⟩ := bd_of H
        refine ww_callV C hZ dX9_lets_56 cw_X9_490 (ccX9_hereSet hS hc1) hS.1 ⟨by decide, rfl⟩ (by decide) rfl rfl (Nat.le_of_ble_eq_true rfl) ⟨Nat.zero_le _, Nat.zero_le _⟩ (fun v τ hp => ?_)
        obtain ⟨rfl, rfl⟩ := hp
        change WW X _ 59 [.ref m, .int a1, .int a2, .int p6.1] [.int p7.1, .int a2, .ref m, .int p6.1] _
        refine ww_aload_n C dX9_lets_59 0 rfl rfl ?_
        obtain ⟨p8, hc1, H⟩ := bd_of H
        refine ww_callV C hZ dX9_lets_60 cw_X9_557 (ccX9_seats hS hc1) hS.1 ⟨by decide, rfl⟩ (by decide) rfl rfl (Nat.le_of_ble_eq_true rfl) ⟨Nat.zero_le _, Nat.zero_le _⟩ (fun v τ hp => ?_)
        obtain ⟨rfl, rfl⟩ := hp
        change WW X _ 63 [.ref m, .int a1, .int a2, .int p6.1] [.int p8.1, .int p7.1, .int a2, .ref m, .int p6.1] _
        refine ww_aload_n C dX9_lets_63 0 rfl rfl ?_
        obtain ⟨p9, hc1, H⟩ := bd_of H
        refine ww_callV C hZ dX9_lets_64 cw_X9_560 (ccX9_seated hS hc1) hS.1 ⟨by decide, rfl⟩ (by decide) rfl rfl (Nat.le_of_ble_eq_true rfl) ⟨Nat.zero_le _, Nat.zero_le _⟩ (fun v τ hp => ?_)
        obtain ⟨rfl, rfl⟩ := hp
        change WW X _ 67 [.ref m, .int a1, .int a2, .int p6.1] [.int p9.1, .int p8.1, .int p7.1, .int a2, .ref m, .int p6.1] _
        obtain ⟨p10, hc1, H⟩ := bd_of H
        refine ww_callV C hZ dX9_lets_67 cw_X9_563 (ccX9_seekBest hS hc1) hS.1 ⟨by decide, rfl⟩ (by decide) rfl rfl (Nat.le_of_ble_eq_true rfl) ⟨Nat.zero_le _, Nat.zero_le _⟩ (fun v τ hp => ?_)
        obtain ⟨rfl, rfl⟩ := hp
        change WW X _ 70 [.ref m, .int a1, .int a2, .int p6.1] [.int p10.1, .int p6.1] _
        refine ww_isub C dX9_lets_70 ?_
        cases H
        exact ww_iret C E dX9_lets_71 ⟨rfl, rfl⟩
      · rw [if_pos hc] at H
        refine ww_ldcw (v := (-1000000 : Int32)) C dX9_lets_26 kc_X9_501 ?_
        cases H
        exact ww_iret C E dX9_lets_29 ⟨rfl, rfl⟩
def fX9_floorStep_50 (m : Nat) (k : HI → Int32 → Option (Int32 × HI)) (kb : HI → Int32 → Int32 → Int32 → Int32 → Int32 → Option (Int32 × HI)) (h : HI) (v1 : Int32) (v2 : Int32) (v3 : Int32) (v4 : Int32) (v5 : Int32) (s0 : Int32) : Option (Int32 × HI) := kb h v1 v2 v3 (v4 ||| (s0 <<< (((4 : Int32) * v5) &&& 31))) (v5 + (1 : Int32))
set_option maxRecDepth 100000 in
set_option maxHeartbeats 4000000 in
theorem cX9_floorStep_50 {X : CT} {sh : Sh} {adr : Nat → Nat} {r : Nat → Nat → Option Nat} {m : Nat} {p : Int32 × HI} (hS : MS sh r m) (C : CX X yX9_floorStep.cls cX9_floorStep 8 0) (hZ : SZX X adr) (E : RX X (some .int) sh adr (fun v τ => v = some (.int p.1) ∧ τ = mk p.2 r)) {k : HI → Int32 → Option (Int32 × HI)} {kb : HI → Int32 → Int32 → Int32 → Int32 → Int32 → Option (Int32 × HI)} (hk : ∀ (h : HI) (v4 : Int32), k h v4 = some p → WW X (sh, adr, 0, 0) 70 [.ref m, .retAddr 0, .retAddr 0, .retAddr 0, .int v4, .retAddr 0, .retAddr 0, .retAddr 0] [] (mk h r)) (hb : ∀ (h : HI) (v1 : Int32) (v2 : Int32) (v3 : Int32) (v4 : Int32) (v5 : Int32), kb h v1 v2 v3 v4 v5 = some p → WW X (sh, adr, 0, 0) 6 [.ref m, .int v1, .int v2, .int v3, .int v4, .int v5, .retAddr 0, .retAddr 0] [] (mk h r)) {h : HI} {v1 : Int32} {v2 : Int32} {v3 : Int32} {v4 : Int32} {v5 : Int32} {s0 : Int32} (H : fX9_floorStep_50 m k kb h v1 v2 v3 v4 v5 s0 = some p) : WW X (sh, adr, 0, 0) 50 [.ref m, .int v1, .int v2, .int v3, .int v4, .int v5, .retAddr 0, .retAddr 0] [.int s0] (mk h r) := by
  rw [fX9_floorStep_50] at H
  refine ww_istore C dX9_floorStep_50 (by decide) rfl [.ref m, .int v1, .int v2, .int v3, .int v4, .int v5, .retAddr 0, .int s0] rfl ?_
  refine ww_iload C dX9_floorStep_52 rfl ?_
  refine ww_iload C dX9_floorStep_54 rfl ?_
  refine ww_iconst (v := (4 : Int32)) C dX9_floorStep_56 (by decide) ?_
  refine ww_iload C dX9_floorStep_57 rfl ?_
  refine ww_imul C dX9_floorStep_59 ?_
  refine ww_ishl C dX9_floorStep_60 ?_
  refine ww_ior C dX9_floorStep_61 ?_
  refine ww_istore C dX9_floorStep_62 (by decide) rfl [.ref m, .int v1, .int v2, .int v3, .int (v4 ||| (s0 <<< (((4 : Int32) * v5) &&& 31))), .int v5, .retAddr 0, .int s0] rfl ?_
  refine ww_iinc (v := (v5 + (1 : Int32))) C dX9_floorStep_64 rfl rfl (by decide) rfl [.ref m, .int v1, .int v2, .int v3, .int (v4 ||| (s0 <<< (((4 : Int32) * v5) &&& 31))), .int (v5 + (1 : Int32)), .retAddr 0, .int s0] rfl ?_
  refine ww_goto C dX9_floorStep_67 6 rfl ?_
  exact ww_drop [.ref m, .int v1, .int v2, .int v3, .int (v4 ||| (s0 <<< (((4 : Int32) * v5) &&& 31))), .int (v5 + (1 : Int32)), .retAddr 0, .retAddr 0] (sl_e (sl_e (sl_e (sl_e (sl_e (sl_e (sl_e (sl_d sl_n)))))))) (hb h v1 v2 v3 (v4 ||| (s0 <<< (((4 : Int32) * v5) &&& 31))) (v5 + (1 : Int32)) H)
def fX9_floorStep_6 (m : Nat) (k : HI → Int32 → Option (Int32 × HI)) : Nat → HI → Int32 → Int32 → Int32 → Int32 → Int32 → Option (Int32 × HI)
  | 0, _, _, _, _, _, _ => none
  | n + 1, h, v1, v2, v3, v4, v5 => (if v2 ≤ v5 then k h v4 else (if v5 = v3 then fX9_floorStep_50 m (k) (fX9_floorStep_6 m k n) h v1 v2 v3 v4 v5 (((v1 >>> (((4 : Int32) * v5) &&& 31)) &&& (15 : Int32)) + (1 : Int32)) else (if (2 : Int32) ≤ ((v1 >>> (((4 : Int32) * v5) &&& 31)) &&& (15 : Int32)) then fX9_floorStep_50 m (k) (fX9_floorStep_6 m k n) h v1 v2 v3 v4 v5 (((v1 >>> (((4 : Int32) * v5) &&& 31)) &&& (15 : Int32)) - (2 : Int32)) else fX9_floorStep_50 m (k) (fX9_floorStep_6 m k n) h v1 v2 v3 v4 v5 (0 : Int32))))
set_option maxRecDepth 100000 in
set_option maxHeartbeats 4000000 in
theorem cX9_floorStep_6 {X : CT} {sh : Sh} {adr : Nat → Nat} {r : Nat → Nat → Option Nat} {m : Nat} {p : Int32 × HI} (hS : MS sh r m) (C : CX X yX9_floorStep.cls cX9_floorStep 8 0) (hZ : SZX X adr) (E : RX X (some .int) sh adr (fun v τ => v = some (.int p.1) ∧ τ = mk p.2 r)) {k : HI → Int32 → Option (Int32 × HI)} (hk : ∀ (h : HI) (v4 : Int32), k h v4 = some p → WW X (sh, adr, 0, 0) 70 [.ref m, .retAddr 0, .retAddr 0, .retAddr 0, .int v4, .retAddr 0, .retAddr 0, .retAddr 0] [] (mk h r)) : ∀ (n : Nat) (h : HI) (v1 : Int32) (v2 : Int32) (v3 : Int32) (v4 : Int32) (v5 : Int32), fX9_floorStep_6 m k n h v1 v2 v3 v4 v5 = some p → WW X (sh, adr, 0, 0) 6 [.ref m, .int v1, .int v2, .int v3, .int v4, .int v5, .retAddr 0, .retAddr 0] [] (mk h r) := by
  intro n
  induction n with
  | zero =>
    intro h v1 v2 v3 v4 v5 H
    rw [fX9_floorStep_6] at H
    cases H
  | succ n ih =>
    intro h v1 v2 v3 v4 v5 H
    rw [fX9_floorStep_6] at H
    refine ww_iload C dX9_floorStep_6 rfl ?_
    refine ww_iload_n C dX9_floorStep_8 2 rfl rfl ?_
    refine ww_icmp_ge C dX9_floorStep_9 70 rfl (fun hc => ?_) (fun hc => ?_)
    · rw [if_pos hc] at H
      exact ww_drop [.ref m, .retAddr 0, .retAddr 0, .retAddr 0, .int v4, .retAddr 0, .retAddr 0, .retAddr 0] (sl_e (sl_d (sl_d (sl_d (sl_e (sl_d (sl_e (sl_e sl_n)))))))) (hk h v4 H)
    · rw [if_neg hc] at H
      refine ww_iload_n C dX9_floorStep_12 1 rfl rfl ?_
      refine ww_iconst (v := (4 : Int32)) C dX9_floorStep_13 (by decide) ?_
      refine ww_iload C dX9_floorStep_14 rfl ?_
      refine ww_imul C dX9_floorStep_16 ?_
      refine ww_ishr C dX9_floorStep_17 ?_
      refine ww_bipush (v := (15 : Int32)) C dX9_floorStep_18 (by decide) ?_
      refine ww_iand C dX9_floorStep_20 ?_
      refine ww_istore C dX9_floorStep_21 (by decide) rfl [.ref m, .int v1, .int v2, .int v3, .int v4, .int v5, .int ((v1 >>> (((4 : Int32) * v5) &&& 31)) &&& (15 : Int32)), .retAddr 0] rfl ?_
      refine ww_iload C dX9_floorStep_23 rfl ?_
      refine ww_iload_n C dX9_floorStep_25 3 rfl rfl ?_
      refine ww_icmp_ne C dX9_floorStep_26 36 rfl (fun hc => ?_) (fun hc => ?_)
      · rw [if_neg hc] at H
        refine ww_iload C dX9_floorStep_36 rfl ?_
        refine ww_iconst (v := (2 : Int32)) C dX9_floorStep_38 (by decide) ?_
        refine ww_icmp_ge C dX9_floorStep_39 46 rfl (fun hc => ?_) (fun hc => ?_)
        · rw [if_pos hc] at H
          refine ww_iload C dX9_floorStep_46 rfl ?_
          refine ww_iconst (v := (2 : Int32)) C dX9_floorStep_48 (by decide) ?_
          refine ww_isub C dX9_floorStep_49 ?_
          exact ww_drop [.ref m, .int v1, .int v2, .int v3, .int v4, .int v5, .retAddr 0, .retAddr 0] (sl_e (sl_e (sl_e (sl_e (sl_e (sl_e (sl_d (sl_e sl_n)))))))) (cX9_floorStep_50 hS C hZ E hk ih H)
        · rw [if_neg hc] at H
          refine ww_iconst (v := (0 : Int32)) C dX9_floorStep_42 (by decide) ?_
          refine ww_goto C dX9_floorStep_43 50 rfl ?_
          exact ww_drop [.ref m, .int v1, .int v2, .int v3, .int v4, .int v5, .retAddr 0, .retAddr 0] (sl_e (sl_e (sl_e (sl_e (sl_e (sl_e (sl_d (sl_e sl_n)))))))) (cX9_floorStep_50 hS C hZ E hk ih H)
      · rw [if_pos hc] at H
        refine ww_iload C dX9_floorStep_29 rfl ?_
        refine ww_iconst (v := (1 : Int32)) C dX9_floorStep_31 (by decide) ?_
        refine ww_iadd C dX9_floorStep_32 ?_
        refine ww_goto C dX9_floorStep_33 50 rfl ?_
        exact ww_drop [.ref m, .int v1, .int v2, .int v3, .int v4, .int v5, .retAddr 0, .retAddr 0] (sl_e (sl_e (sl_e (sl_e (sl_e (sl_e (sl_d (sl_e sl_n)))))))) (cX9_floorStep_50 hS C hZ E hk ih H)
def fX9_floorStep (m : Nat) (h : HI) (a1 : Int32) (a2 : Int32) (a3 : Int32) : Option (Int32 × HI) := fX9_floorStep_6 m (fun h2 v4 => some (v4, h2)) FU h a1 a2 a3 (0 : Int32) (0 : Int32)
set_option maxRecDepth 100000 in
set_option maxHeartbeats 4000000 in
theorem ccX9_floorStep {l : Launch} {sh : Sh} {adr : Nat → Nat} {r : Nat → Nat → Option Nat} {m : Nat} (hS : MS sh r m) {h : HI} {a1 : Int32} {a2 : Int32} {a3 : Int32} {p : Int32 × HI} (H : fX9_floorStep m h a1 a2 a3 = some p) : CC l yX9_floorStep cX9_floorStep 8 (some .int) 0 [.ref m, .int a1, .int a2, .int a3] sh adr (mk h r) (fun v τ => v = some (.int p.1) ∧ τ = mk p.2 r) := by
  refine CC.of (by decide) (Nat.le_of_ble_eq_true rfl) 4 [.ref m, .int a1, .int a2, .int a3, .retAddr 0, .retAddr 0, .retAddr 0, .retAddr 0] rfl (fun X _ C E hZ => ?_)
  rw [fX9_floorStep] at H
  refine ww_iconst (v := (0 : Int32)) C dX9_floorStep_0 (by decide) ?_
  refine ww_istore C dX9_floorStep_1 (by decide) rfl [.ref m, .int a1, .int a2, .int a3, .int (0 : Int32), .retAddr 0, .retAddr 0, .retAddr 0] rfl ?_
  refine ww_iconst (v := (0 : Int32)) C dX9_floorStep_3 (by decide) ?_
  refine ww_istore C dX9_floorStep_4 (by decide) rfl [.ref m, .int a1, .int a2, .int a3, .int (0 : Int32), .int (0 : Int32), .retAddr 0, .retAddr 0] rfl ?_
  refine cX9_floorStep_6 hS C hZ E (fun h2 v4 H => ?_) FU h a1 a2 a3 (0 : Int32) (0 : Int32) H
  refine ww_iload C dX9_floorStep_70 rfl ?_
  cases H
  exact ww_iret C E dX9_floorStep_72 ⟨rfl, rfl⟩
def fX9_floorOn_4 (m : Nat) (k : HI → Int32 → Int32 → Option (Int32 × HI)) : Nat → HI → Int32 → Int32 → Int32 → Option (Int32 × HI)
  | 0, _, _, _, _ => none
  | n + 1, h, v1, v2, v3 => (if (4096 : Int32) ≤ v3 then k h v1 v2 else (if inB v3 4096 then fX9_floorOn_4 m k n (uI h (m + 40) (v3.toNatClampNeg) (0 : Int32)) v1 v2 (v3 + (1 : Int32)) else none))
set_option maxRecDepth 100000 in
set_option maxHeartbeats 4000000 in
theorem cX9_floorOn_4 {X : CT} {sh : Sh} {adr : Nat → Nat} {r : Nat → Nat → Option Nat} {m : Nat} {p : Int32 × HI} (hS : MS sh r m) (C : CX X yX9_floorOn.cls cX9_floorOn 5 1) (hZ : SZX X adr) (E : RX X (some .boolean) sh adr (fun v τ => v = some (.int p.1) ∧ τ = mk p.2 r)) {k : HI → Int32 → Int32 → Option (Int32 × HI)} (hk : ∀ (h : HI) (v1 : Int32) (v2 : Int32), k h v1 v2 = some p → WW X (sh, adr, 0, 0) 24 [.ref m, .int v1, .int v2, .retAddr 0, .retAddr 0] [] (mk h r)) : ∀ (n : Nat) (h : HI) (v1 : Int32) (v2 : Int32) (v3 : Int32), fX9_floorOn_4 m k n h v1 v2 v3 = some p → WW X (sh, adr, 0, 0) 4 [.ref m, .int v1, .int v2, .int v3, .retAddr 0] [] (mk h r) := by
  intro n
  induction n with
  | zero =>
    intro h v1 v2 v3 H
    rw [fX9_floorOn_4] at H
    cases H
  | succ n ih =>
    intro h v1 v2 v3 H
    rw [fX9_floorOn_4] at H
    refine ww_iload_n C dX9_floorOn_4 3 rfl rfl ?_
    refine ww_sipush (v := (4096 : Int32)) C dX9_floorOn_5 (by decide) ?_
    refine ww_icmp_ge C dX9_floorOn_8 24 rfl (fun hc => ?_) (fun hc => ?_)
    · rw [if_pos hc] at H
      exact ww_drop [.ref m, .int v1, .int v2, .retAddr 0, .retAddr 0] (sl_e (sl_e (sl_e (sl_d (sl_e sl_n))))) (hk h v1 v2 H)
    · rw [if_neg hc] at H
      refine ww_aload_n C dX9_floorOn_11 0 rfl rfl ?_
      refine wk_getR C dX9_floorOn_12 fl_X9_134 hS.1 rfl (tX9_then hS).1 ?_
      refine ww_iload_n C dX9_floorOn_15 3 rfl rfl ?_
      refine ww_iconst (v := (0 : Int32)) C dX9_floorOn_16 (by decide) ?_
      obtain ⟨hg, H⟩ := gd_of H
      refine wk_zastore C dX9_floorOn_17 (tX9_then hS).2.1 (vp_of hg (tX9_then hS).2.2) (v3.toNatClampNeg) rfl (0 : Int32) rfl ?_
      refine ww_iinc (v := (v3 + (1 : Int32))) C dX9_floorOn_18 rfl rfl (by decide) rfl [.ref m, .int v1, .int v2, .int (v3 + (1 : Int32)), .retAddr 0] rfl ?_
      refine ww_goto C dX9_floorOn_21 4 rfl ?_
      exact ih (uI h (m + 40) (v3.toNatClampNeg) (0 : Int32)) v1 v2 (v3 + (1 : Int32)) H
def fX9_floorOn_94 (m : Nat) (k : HI → Int32 → Int32 → Int32 → Option (Int32 × HI)) (kb : HI → Int32 → Int32 → Int32 → Int32 → Option (Int32 × HI)) (h : HI) (v1 : Int32) (v2 : Int32) (v3 : Int32) (v4 : Int32) : Option (Int32 × HI) := kb h v1 v2 v3 (v4 + (1 : Int32))
set_option maxRecDepth 100000 in
set_option maxHeartbeats 4000000 in
theorem cX9_floorOn_94 {X : CT} {sh : Sh} {adr : Nat → Nat} {r : Nat → Nat → Option Nat} {m : Nat} {p : Int32 × HI} (hS : MS sh r m) (C : CX X yX9_floorOn.cls cX9_floorOn 5 1) (hZ : SZX X adr) (E : RX X (some .boolean) sh adr (fun v τ => v = some (.int p.1) ∧ τ = mk p.2 r)) {k : HI → Int32 → Int32 → Int32 → Option (Int32 × HI)} {kb : HI → Int32 → Int32 → Int32 → Int32 → Option (Int32 × HI)} (hk : ∀ (h : HI) (v1 : Int32) (v2 : Int32) (v3 : Int32), k h v1 v2 v3 = some p → WW X (sh, adr, 0, 0) 100 [.ref m, .int v1, .int v2, .int v3, .retAddr 0] [] (mk h r)) (hb : ∀ (h : HI) (v1 : Int32) (v2 : Int32) (v3 : Int32) (v4 : Int32), kb h v1 v2 v3 v4 = some p → WW X (sh, adr, 0, 0) 36 [.ref m, .int v1, .int v2, .int v3, .int v4] [] (mk h r)) {h : HI} {v1 : Int32} {v2 : Int32} {v3 : Int32} {v4 : Int32} (H : fX9_floorOn_94 m k kb h v1 v2 v3 v4 = some p) : WW X (sh, adr, 0, 0) 94 [.ref m, .int v1, .int v2, .int v3, .int v4] [] (mk h r) := by
  rw [fX9_floorOn_94] at H
  refine ww_iinc (v := (v4 + (1 : Int32))) C dX9_floorOn_94 rfl rfl (by decide) rfl [.ref m, .int v1, .int v2, .int v3, .int (v4 + (1 : Int32))] rfl ?_
  refine ww_goto C dX9_floorOn_97 36 rfl ?_
  exact hb h v1 v2 v3 (v4 + (1 : Int32)) H
def fX9_floorOn_36 (m : Nat) (k : HI → Int32 → Int32 → Int32 → Option (Int32 × HI)) : Nat → HI → Int32 → Int32 → Int32 → Int32 → Option (Int32 × HI)
  | 0, _, _, _, _, _ => none
  | n + 1, h, v1, v2, v3, v4 => (if v1 ≤ v4 then k h v1 v2 v3 else (if inB v3 4096 then (if (h.1 (m + 39) (v3.toNatClampNeg)) = 0 then k h v1 v2 v3 else (if inB v4 3 then (if inB (h.1 (m + 41) (v4.toNatClampNeg)) 6 then (if ((v3 >>> (((4 : Int32) * v4) &&& 31)) &&& (15 : Int32)) < (h.1 (m + 18) ((h.1 (m + 41) (v4.toNatClampNeg)).toNatClampNeg)) then ((fX9_floorStep m h v3 v1 v4).bind fun p3 => (if inB p3.1 4096 then fX9_floorOn_94 m (k) (fX9_floorOn_36 m k n) (uI p3.2 (m + 40) (p3.1.toNatClampNeg) (1 : Int32)) v1 (1 : Int32) v3 v4 else none)) else fX9_floorOn_94 m (k) (fX9_floorOn_36 m k n) h v1 v2 v3 v4) else none) else none)) else none))
set_option maxRecDepth 100000 in
set_option maxHeartbeats 4000000 in
theorem cX9_floorOn_36 {X : CT} {sh : Sh} {adr : Nat → Nat} {r : Nat → Nat → Option Nat} {m : Nat} {p : Int32 × HI} (hS : MS sh r m) (C : CX X yX9_floorOn.cls cX9_floorOn 5 1) (hZ : SZX X adr) (E : RX X (some .boolean) sh adr (fun v τ => v = some (.int p.1) ∧ τ = mk p.2 r)) {k : HI → Int32 → Int32 → Int32 → Option (Int32 × HI)} (hk : ∀ (h : HI) (v1 : Int32) (v2 : Int32) (v3 : Int32), k h v1 v2 v3 = some p → WW X (sh, adr, 0, 0) 100 [.ref m, .int v1, .int v2, .int v3, .retAddr 0] [] (mk h r)) : ∀ (n : Nat) (h : HI) (v1 : Int32) (v2 : Int32) (v3 : Int32) (v4 : Int32), fX9_floorOn_36 m k n h v1 v2 v3 v4 = some p → WW X (sh, adr, 0, 0) 36 [.ref m, .int v1, .int v2, .int v3, .int v4] [] (mk h r) := by
  intro n
  induction n with
  | zero =>
    intro h v1 v2 v3 v4 H
    rw [fX9_floorOn_36] at H
    cases H
  | succ n ih =>
    intro h v1 v2 v3 v4 H
    rw [fX9_floorOn_36] at H
    refine ww_iload C dX9_floorOn_36 rfl ?_
    refine ww_iload_n C dX9_floorOn_38 1 rfl rfl ?_
    refine ww_icmp_ge C dX9_floorOn_39 100 rfl (fun hc => ?_) (fun hc => ?_)
    · rw [if_pos hc] at H
      exact ww_drop [.ref m, .int v1, .int v2, .int v3, .retAddr 0] (sl_e (sl_e (sl_e (sl_e (sl_d sl_n))))) (hk h v1 v2 v3 H)
    · rw [if_neg hc] at H
      refine ww_aload_n C dX9_floorOn_42 0 rfl rfl ?_
      refine wk_getR C dX9_floorOn_43 fl_X9_131 hS.1 rfl (tX9_now hS).1 ?_
      refine ww_iload_n C dX9_floorOn_46 3 rfl rfl ?_
      obtain ⟨hg, H⟩ := gd_of H
      refine wk_zaload C dX9_floorOn_47 (tX9_now hS).2.1 (vp_of hg (tX9_now hS).2.2) (v3.toNatClampNeg) rfl ?_
      refine ww_if_eq C dX9_floorOn_48 100 rfl (fun hc => ?_) (fun hc => ?_)
      · rw [if_pos hc] at H
        exact ww_drop [.ref m, .int v1, .int v2, .int v3, .retAddr 0] (sl_e (sl_e (sl_e (sl_e (sl_d sl_n))))) (hk h v1 v2 v3 H)
      · rw [if_neg hc] at H
        refine ww_iload_n C dX9_floorOn_51 3 rfl rfl ?_
        refine ww_iconst (v := (4 : Int32)) C dX9_floorOn_52 (by decide) ?_
        refine ww_iload C dX9_floorOn_53 rfl ?_
        refine ww_imul C dX9_floorOn_55 ?_
        refine ww_ishr C dX9_floorOn_56 ?_
        refine ww_bipush (v := (15 : Int32)) C dX9_floorOn_57 (by decide) ?_
        refine ww_iand C dX9_floorOn_59 ?_
        refine ww_aload_n C dX9_floorOn_60 0 rfl rfl ?_
        refine wk_getR C dX9_floorOn_61 fl_X9_66 hS.1 rfl (tX9_strong hS).1 ?_
        refine ww_aload_n C dX9_floorOn_64 0 rfl rfl ?_
        refine wk_getR C dX9_floorOn_65 fl_X9_137 hS.1 rfl (tX9_floorMen hS).1 ?_
        refine ww_iload C dX9_floorOn_68 rfl ?_
        obtain ⟨hg, H⟩ := gd_of H
        refine wk_iaload C dX9_floorOn_70 (tX9_floorMen hS).2.1 (vp_of hg (tX9_floorMen hS).2.2) (v4.toNatClampNeg) rfl ?_
        obtain ⟨hg, H⟩ := gd_of H
        refine wk_iaload C dX9_floorOn_71 (tX9_strong hS).2.1 (vp_of hg (tX9_strong hS).2.2) ((h.1 (m + 41) (v4.toNatClampNeg)).toNatClampNeg) rfl ?_
        refine ww_icmp_lt C dX9_floorOn_72 78 rfl (fun hc => ?_) (fun hc => ?_)
        · rw [if_pos hc] at H
          refine ww_aload_n C dX9_floorOn_78 0 rfl rfl ?_
          refine wk_getR C dX9_floorOn_79 fl_X9_134 hS.1 rfl (tX9_then hS).1 ?_
          refine ww_aload_n C dX9_floorOn_82 0 rfl rfl ?_
          refine ww_iload_n C dX9_floorOn_83 3 rfl rfl ?_
          refine ww_iload_n C dX9_floorOn_84 1 rfl rfl ?_
          refine ww_iload C dX9_floorOn_85 rfl ?_
          obtain ⟨p3, hc1, H⟩ := bd_of H
          refine ww_callV C hZ dX9_floorOn_87 cw_X9_570 (ccX9_floorStep hS hc1) hS.1 ⟨by decide, rfl⟩ (by decide) rfl rfl (Nat.le_of_ble_eq_true rfl) ⟨Nat.zero_le _, Nat.zero_le _⟩ (fun v τ hp => ?_)
          obtain ⟨rfl, rfl⟩ := hp
          change WW X _ 90 [.ref m, .int v1, .int v2, .int v3, .int v4] [.int p3.1, .ref (m + 40)] _
          refine ww_iconst (v := (1 : Int32)) C dX9_floorOn_90 (by decide) ?_
          obtain ⟨hg, H⟩ := gd_of H
          refine wk_zastore C dX9_floorOn_91 (tX9_then hS).2.1 (vp_of hg (tX9_then hS).2.2) (p3.1.toNatClampNeg) rfl (1 : Int32) rfl ?_
          refine ww_iconst (v := (1 : Int32)) C dX9_floorOn_92 (by decide) ?_
          refine ww_istore_n C dX9_floorOn_93 2 rfl (by decide) rfl [.ref m, .int v1, .int (1 : Int32), .int v3, .int v4] rfl ?_
          exact cX9_floorOn_94 hS C hZ E hk ih H
        · rw [if_neg hc] at H
          refine ww_goto C dX9_floorOn_75 94 rfl ?_
          exact cX9_floorOn_94 hS C hZ E hk ih H
def fX9_floorOn_100 (m : Nat) (k : HI → Int32 → Option (Int32 × HI)) (kb : HI → Int32 → Int32 → Int32 → Option (Int32 × HI)) (h : HI) (v1 : Int32) (v2 : Int32) (v3 : Int32) : Option (Int32 × HI) := kb h v1 v2 (v3 + (1 : Int32))
set_option maxRecDepth 100000 in
set_option maxHeartbeats 4000000 in
theorem cX9_floorOn_100 {X : CT} {sh : Sh} {adr : Nat → Nat} {r : Nat → Nat → Option Nat} {m : Nat} {p : Int32 × HI} (hS : MS sh r m) (C : CX X yX9_floorOn.cls cX9_floorOn 5 1) (hZ : SZX X adr) (E : RX X (some .boolean) sh adr (fun v τ => v = some (.int p.1) ∧ τ = mk p.2 r)) {k : HI → Int32 → Option (Int32 × HI)} {kb : HI → Int32 → Int32 → Int32 → Option (Int32 × HI)} (hk : ∀ (h : HI) (v2 : Int32), k h v2 = some p → WW X (sh, adr, 0, 0) 106 [.ref m, .retAddr 0, .int v2, .retAddr 0, .retAddr 0] [] (mk h r)) (hb : ∀ (h : HI) (v1 : Int32) (v2 : Int32) (v3 : Int32), kb h v1 v2 v3 = some p → WW X (sh, adr, 0, 0) 26 [.ref m, .int v1, .int v2, .int v3, .retAddr 0] [] (mk h r)) {h : HI} {v1 : Int32} {v2 : Int32} {v3 : Int32} (H : fX9_floorOn_100 m k kb h v1 v2 v3 = some p) : WW X (sh, adr, 0, 0) 100 [.ref m, .int v1, .int v2, .int v3, .retAddr 0] [] (mk h r) := by
  rw [fX9_floorOn_100] at H
  refine ww_iinc (v := (v3 + (1 : Int32))) C dX9_floorOn_100 rfl rfl (by decide) rfl [.ref m, .int v1, .int v2, .int (v3 + (1 : Int32)), .retAddr 0] rfl ?_
  refine ww_goto C dX9_floorOn_103 26 rfl ?_
  exact hb h v1 v2 (v3 + (1 : Int32)) H
def fX9_floorOn_26 (m : Nat) (k : HI → Int32 → Option (Int32 × HI)) : Nat → HI → Int32 → Int32 → Int32 → Option (Int32 × HI)
  | 0, _, _, _, _ => none
  | n + 1, h, v1, v2, v3 => (if (4096 : Int32) ≤ v3 then k h v2 else fX9_floorOn_36 m (fun h5 v1 v2 v3 => fX9_floorOn_100 m (k) (fX9_floorOn_26 m k n) h5 v1 v2 v3) FU h v1 v2 v3 (0 : Int32))
set_option maxRecDepth 100000 in
set_option maxHeartbeats 4000000 in
theorem cX9_floorOn_26 {X : CT} {sh : Sh} {adr : Nat → Nat} {r : Nat → Nat → Option Nat} {m : Nat} {p : Int32 × HI} (hS : MS sh r m) (C : CX X yX9_floorOn.cls cX9_floorOn 5 1) (hZ : SZX X adr) (E : RX X (some .boolean) sh adr (fun v τ => v = some (.int p.1) ∧ τ = mk p.2 r)) {k : HI → Int32 → Option (Int32 × HI)} (hk : ∀ (h : HI) (v2 : Int32), k h v2 = some p → WW X (sh, adr, 0, 0) 106 [.ref m, .retAddr 0, .int v2, .retAddr 0, .retAddr 0] [] (mk h r)) : ∀ (n : Nat) (h : HI) (v1 : Int32) (v2 : Int32) (v3 : Int32), fX9_floorOn_26 m k n h v1 v2 v3 = some p → WW X (sh, adr, 0, 0) 26 [.ref m, .int v1, .int v2, .int v3, .retAddr 0] [] (mk h r) := by
  intro n
  induction n with
  | zero =>
    intro h v1 v2 v3 H
    rw [fX9_floorOn_26] at H
    cases H
  | succ n ih =>
    intro h v1 v2 v3 H
    rw [fX9_floorOn_26] at H
    refine ww_iload_n C dX9_floorOn_26 3 rfl rfl ?_
    refine ww_sipush (v := (4096 : Int32)) C dX9_floorOn_27 (by decide) ?_
    refine ww_icmp_ge C dX9_floorOn_30 106 rfl (fun hc => ?_) (fun hc => ?_)
    · rw [if_pos hc] at H
      exact ww_drop [.ref m, .retAddr 0, .int v2, .retAddr 0, .retAddr 0] (sl_e (sl_d (sl_e (sl_d (sl_e sl_n))))) (hk h v2 H)
    · rw [if_neg hc] at H
      refine ww_iconst (v := (0 : Int32)) C dX9_floorOn_33 (by decide) ?_
      refine ww_istore C dX9_floorOn_34 (by decide) rfl [.ref m, .int v1, .int v2, .int v3, .int (0 : Int32)] rfl ?_
      refine cX9_floorOn_36 hS C hZ E (fun h5 v1 v2 v3 H => ?_) FU h v1 v2 v3 (0 : Int32) H
      exact cX9_floorOn_100 hS C hZ E hk ih H
def fX9_floorOn_108 (m : Nat) (k : HI → Int32 → Option (Int32 × HI)) : Nat → HI → Int32 → Int32 → Option (Int32 × HI)
  | 0, _, _, _ => none
  | n + 1, h, v2, v3 => (if (4096 : Int32) ≤ v3 then k h v2 else (if inB v3 4096 then (if inB v3 4096 then fX9_floorOn_108 m k n (uI h (m + 39) (v3.toNatClampNeg) (vp_nar .boolean (h.1 (m + 40) (v3.toNatClampNeg)))) v2 (v3 + (1 : Int32)) else none) else none))
set_option maxRecDepth 100000 in
set_option maxHeartbeats 4000000 in
theorem cX9_floorOn_108 {X : CT} {sh : Sh} {adr : Nat → Nat} {r : Nat → Nat → Option Nat} {m : Nat} {p : Int32 × HI} (hS : MS sh r m) (C : CX X yX9_floorOn.cls cX9_floorOn 5 1) (hZ : SZX X adr) (E : RX X (some .boolean) sh adr (fun v τ => v = some (.int p.1) ∧ τ = mk p.2 r)) {k : HI → Int32 → Option (Int32 × HI)} (hk : ∀ (h : HI) (v2 : Int32), k h v2 = some p → WW X (sh, adr, 0, 0) 133 [.ref m, .retAddr 0, .int v2, .retAddr 0, .retAddr 0] [] (mk h r)) : ∀ (n : Nat) (h : HI) (v2 : Int32) (v3 : Int32), fX9_floorOn_108 m k n h v2 v3 = some p → WW X (sh, adr, 0, 0) 108 [.ref m, .retAddr 0, .int v2, .int v3, .retAddr 0] [] (mk h r) := by
  intro n
  induction n with
  | zero =>
    intro h v2 v3 H
    rw [fX9_floorOn_108] at H
    cases H
  | succ n ih =>
    intro h v2 v3 H
    rw [fX9_floorOn_108] at H
    refine ww_iload_n C dX9_floorOn_108 3 rfl rfl ?_
    refine ww_sipush (v := (4096 : Int32)) C dX9_floorOn_109 (by decide) ?_
    refine ww_icmp_ge C dX9_floorOn_112 133 rfl (fun hc => ?_) (fun hc => ?_)
    · rw [if_pos hc] at H
      exact ww_drop [.ref m, .retAddr 0, .int v2, .retAddr 0, .retAddr 0] (sl_e (sl_e (sl_e (sl_d (sl_e sl_n))))) (hk h v2 H)
    · rw [if_neg hc] at H
      refine ww_aload_n C dX9_floorOn_115 0 rfl rfl ?_
      refine wk_getR C dX9_floorOn_116 fl_X9_131 hS.1 rfl (tX9_now hS).1 ?_
      refine ww_iload_n C dX9_floorOn_119 3 rfl rfl ?_
      refine ww_aload_n C dX9_floorOn_120 0 rfl rfl ?_
      refine wk_getR C dX9_floorOn_121 fl_X9_134 hS.1 rfl (tX9_then hS).1 ?_
      refine ww_iload_n C dX9_floorOn_124 3 rfl rfl ?_
      obtain ⟨hg, H⟩ := gd_of H
      refine wk_zaload C dX9_floorOn_125 (tX9_then hS).2.1 (vp_of hg (tX9_then hS).2.2) (v3.toNatClampNeg) rfl ?_
      obtain ⟨hg, H⟩ := gd_of H
      refine wk_zastore C dX9_floorOn_126 (tX9_now hS).2.1 (vp_of hg (tX9_now hS).2.2) (v3.toNatClampNeg) rfl (vp_nar .boolean (h.1 (m + 40) (v3.toNatClampNeg))) rfl ?_
      refine ww_iinc (v := (v3 + (1 : Int32))) C dX9_floorOn_127 rfl rfl (by decide) rfl [.ref m, .retAddr 0, .int v2, .int (v3 + (1 : Int32)), .retAddr 0] rfl ?_
      refine ww_goto C dX9_floorOn_130 108 rfl ?_
      exact ih (uI h (m + 39) (v3.toNatClampNeg) (vp_nar .boolean (h.1 (m + 40) (v3.toNatClampNeg)))) v2 (v3 + (1 : Int32)) H
def fX9_floorOn (m : Nat) (h : HI) (a1 : Int32) : Option (Int32 × HI) := fX9_floorOn_4 m (fun h2 v1 v2 => fX9_floorOn_26 m (fun h7 v2 => fX9_floorOn_108 m (fun h9 v2 => (if v2 = 0 ∨ v2 = 1 then some (v2, h9) else none)) FU h7 v2 (0 : Int32)) FU h2 v1 v2 (0 : Int32)) FU h a1 (0 : Int32) (0 : Int32)
set_option maxRecDepth 100000 in
set_option maxHeartbeats 4000000 in
theorem ccX9_floorOn {l : Launch} {sh : Sh} {adr : Nat → Nat} {r : Nat → Nat → Option Nat} {m : Nat} (hS : MS sh r m) {h : HI} {a1 : Int32} {p : Int32 × HI} (H : fX9_floorOn m h a1 = some p) : CC l yX9_floorOn cX9_floorOn 5 (some .boolean) 1 [.ref m, .int a1] sh adr (mk h r) (fun v τ => v = some (.int p.1) ∧ τ = mk p.2 r) := by
  refine CC.of (by decide) (Nat.le_of_ble_eq_true rfl) 3 [.ref m, .int a1, .retAddr 0, .retAddr 0, .retAddr 0] rfl (fun X _ C E hZ => ?_)
  rw [fX9_floorOn] at H
  refine ww_iconst (v := (0 : Int32)) C dX9_floorOn_0 (by decide) ?_
  refine ww_istore_n C dX9_floorOn_1 2 rfl (by decide) rfl [.ref m, .int a1, .int (0 : Int32), .retAddr 0, .retAddr 0] rfl ?_
  refine ww_iconst (v := (0 : Int32)) C dX9_floorOn_2 (by decide) ?_
  refine ww_istore_n C dX9_floorOn_3 3 rfl (by decide) rfl [.ref m, .int a1, .int (0 : Int32), .int (0 : Int32), .retAddr 0] rfl ?_
  refine cX9_floorOn_4 hS C hZ E (fun h2 v1 v2 H => ?_) FU h a1 (0 : Int32) (0 : Int32) H
  refine ww_iconst (v := (0 : Int32)) C dX9_floorOn_24 (by decide) ?_
  refine ww_istore_n C dX9_floorOn_25 3 rfl (by decide) rfl [.ref m, .int v1, .int v2, .int (0 : Int32), .retAddr 0] rfl ?_
  refine cX9_floorOn_26 hS C hZ E (fun h7 v2 H => ?_) FU h2 v1 v2 (0 : Int32) H
  refine ww_iconst (v := (0 : Int32)) C dX9_floorOn_106 (by decide) ?_
  refine ww_istore_n C dX9_floorOn_107 3 rfl (by decide) rfl [.ref m, .retAddr 0, .int v2, .int (0 : Int32), .retAddr 0] rfl ?_
  refine cX9_floorOn_108 hS C hZ E (fun h9 v2 H => ?_) FU h7 v2 (0 : Int32) H
  refine ww_iload_n C dX9_floorOn_133 2 rfl rfl ?_
  obtain ⟨hg, H⟩ := gd_of H
  cases H
  exact ww_zret C E dX9_floorOn_134 hg ⟨rfl, rfl⟩
def fX9_floor_116 (m : Nat) (k : HI → Int32 → Int32 → Int32 → Option (Int32 × HI)) (kb : HI → Int32 → Int32 → Int32 → Int32 → Int32 → Option (Int32 × HI)) (h : HI) (v1 : Int32) (v2 : Int32) (v3 : Int32) (v4 : Int32) (v5 : Int32) : Option (Int32 × HI) := kb h v1 v2 v3 v4 (v5 + (1 : Int32))
set_option maxRecDepth 100000 in
set_option maxHeartbeats 4000000 in
theorem cX9_floor_116 {X : CT} {sh : Sh} {adr : Nat → Nat} {r : Nat → Nat → Option Nat} {m : Nat} {p : Int32 × HI} (hS : MS sh r m) (C : CX X yX9_floor.cls cX9_floor 6 2) (hZ : SZX X adr) (E : RX X (some .int) sh adr (fun v τ => v = some (.int p.1) ∧ τ = mk p.2 r)) {k : HI → Int32 → Int32 → Int32 → Option (Int32 × HI)} {kb : HI → Int32 → Int32 → Int32 → Int32 → Int32 → Option (Int32 × HI)} (hk : ∀ (h : HI) (v2 : Int32) (v3 : Int32) (v4 : Int32), k h v2 v3 v4 = some p → WW X (sh, adr, 0, 0) 122 [.ref m, .retAddr 0, .int v2, .int v3, .int v4, .retAddr 0] [] (mk h r)) (hb : ∀ (h : HI) (v1 : Int32) (v2 : Int32) (v3 : Int32) (v4 : Int32) (v5 : Int32), kb h v1 v2 v3 v4 v5 = some p → WW X (sh, adr, 0, 0) 48 [.ref m, .int v1, .int v2, .int v3, .int v4, .int v5] [] (mk h r)) {h : HI} {v1 : Int32} {v2 : Int32} {v3 : Int32} {v4 : Int32} {v5 : Int32} (H : fX9_floor_116 m k kb h v1 v2 v3 v4 v5 = some p) : WW X (sh, adr, 0, 0) 116 [.ref m, .int v1, .int v2, .int v3, .int v4, .int v5] [] (mk h r) := by
  rw [fX9_floor_116] at H
  refine ww_iinc (v := (v5 + (1 : Int32))) C dX9_floor_116 rfl rfl (by decide) rfl [.ref m, .int v1, .int v2, .int v3, .int v4, .int (v5 + (1 : Int32))] rfl ?_
  refine ww_goto C dX9_floor_119 48 rfl ?_
  exact hb h v1 v2 v3 v4 (v5 + (1 : Int32)) H
def fX9_floor_111 (m : Nat) (k : HI → Int32 → Int32 → Int32 → Option (Int32 × HI)) (kb : HI → Int32 → Int32 → Int32 → Int32 → Int32 → Option (Int32 × HI)) (h : HI) (v1 : Int32) (v2 : Int32) (v3 : Int32) (v5 : Int32) (s0 : Int32) : Option (Int32 × HI) := fX9_floor_116 m k kb h v1 (v2 + (1 : Int32)) v3 s0 v5
set_option maxRecDepth 100000 in
set_option maxHeartbeats 4000000 in
theorem cX9_floor_111 {X : CT} {sh : Sh} {adr : Nat → Nat} {r : Nat → Nat → Option Nat} {m : Nat} {p : Int32 × HI} (hS : MS sh r m) (C : CX X yX9_floor.cls cX9_floor 6 2) (hZ : SZX X adr) (E : RX X (some .int) sh adr (fun v τ => v = some (.int p.1) ∧ τ = mk p.2 r)) {k : HI → Int32 → Int32 → Int32 → Option (Int32 × HI)} {kb : HI → Int32 → Int32 → Int32 → Int32 → Int32 → Option (Int32 × HI)} (hk : ∀ (h : HI) (v2 : Int32) (v3 : Int32) (v4 : Int32), k h v2 v3 v4 = some p → WW X (sh, adr, 0, 0) 122 [.ref m, .retAddr 0, .int v2, .int v3, .int v4, .retAddr 0] [] (mk h r)) (hb : ∀ (h : HI) (v1 : Int32) (v2 : Int32) (v3 : Int32) (v4 : Int32) (v5 : Int32), kb h v1 v2 v3 v4 v5 = some p → WW X (sh, adr, 0, 0) 48 [.ref m, .int v1, .int v2, .int v3, .int v4, .int v5] [] (mk h r)) {h : HI} {v1 : Int32} {v2 : Int32} {v3 : Int32} {v5 : Int32} {s0 : Int32} (H : fX9_floor_111 m k kb h v1 v2 v3 v5 s0 = some p) : WW X (sh, adr, 0, 0) 111 [.ref m, .int v1, .int v2, .int v3, .retAddr 0, .int v5] [.int s0] (mk h r) := by
  rw [fX9_floor_111] at H
  refine ww_istore C dX9_floor_111 (by decide) rfl [.ref m, .int v1, .int v2, .int v3, .int s0, .int v5] rfl ?_
  refine ww_iinc (v := (v2 + (1 : Int32))) C dX9_floor_113 rfl rfl (by decide) rfl [.ref m, .int v1, .int (v2 + (1 : Int32)), .int v3, .int s0, .int v5] rfl ?_
  exact cX9_floor_116 hS C hZ E hk hb H
def fX9_floor_110 (m : Nat) (k : HI → Int32 → Int32 → Int32 → Option (Int32 × HI)) (kb : HI → Int32 → Int32 → Int32 → Int32 → Int32 → Option (Int32 × HI)) (h : HI) (v1 : Int32) (v2 : Int32) (v3 : Int32) (v5 : Int32) : Option (Int32 × HI) := fX9_floor_111 m k kb h v1 v2 v3 v5 (0 : Int32)
set_option maxRecDepth 100000 in
set_option maxHeartbeats 4000000 in
theorem cX9_floor_110 {X : CT} {sh : Sh} {adr : Nat → Nat} {r : Nat → Nat → Option Nat} {m : Nat} {p : Int32 × HI} (hS : MS sh r m) (C : CX X yX9_floor.cls cX9_floor 6 2) (hZ : SZX X adr) (E : RX X (some .int) sh adr (fun v τ => v = some (.int p.1) ∧ τ = mk p.2 r)) {k : HI → Int32 → Int32 → Int32 → Option (Int32 × HI)} {kb : HI → Int32 → Int32 → Int32 → Int32 → Int32 → Option (Int32 × HI)} (hk : ∀ (h : HI) (v2 : Int32) (v3 : Int32) (v4 : Int32), k h v2 v3 v4 = some p → WW X (sh, adr, 0, 0) 122 [.ref m, .retAddr 0, .int v2, .int v3, .int v4, .retAddr 0] [] (mk h r)) (hb : ∀ (h : HI) (v1 : Int32) (v2 : Int32) (v3 : Int32) (v4 : Int32) (v5 : Int32), kb h v1 v2 v3 v4 v5 = some p → WW X (sh, adr, 0, 0) 48 [.ref m, .int v1, .int v2, .int v3, .int v4, .int v5] [] (mk h r)) {h : HI} {v1 : Int32} {v2 : Int32} {v3 : Int32} {v5 : Int32} (H : fX9_floor_110 m k kb h v1 v2 v3 v5 = some p) : WW X (sh, adr, 0, 0) 110 [.ref m, .int v1, .int v2, .int v3, .retAddr 0, .int v5] [] (mk h r) := by
  rw [fX9_floor_110] at H
  refine ww_iconst (v := (0 : Int32)) C dX9_floor_110 (by decide) ?_
  exact cX9_floor_111 hS C hZ E hk hb H
def fX9_floor_48 (m : Nat) (k : HI → Int32 → Int32 → Int32 → Option (Int32 × HI)) : Nat → HI → Int32 → Int32 → Int32 → Int32 → Int32 → Option (Int32 × HI)
  | 0, _, _, _, _, _, _ => none
  | n + 1, h, v1, v2, v3, v4, v5 => (if (6 : Int32) ≤ v5 then k h v2 v3 v4 else (if ((v1 >>> (v5 &&& 31)) &&& (1 : Int32)) = 0 then fX9_floor_116 m (k) (fX9_floor_48 m k n) h v1 v2 v3 v4 v5 else (if inB v2 3 then (if inB v5 6 then (if v4 = 0 then fX9_floor_110 m (k) (fX9_floor_48 m k n) (uI h (m + 41) (v2.toNatClampNeg) v5) v1 v2 (v3 ||| ((h.1 (m + 28) (v5.toNatClampNeg)) <<< (((4 : Int32) * v2) &&& 31))) v5 else (if inB v5 6 then (if (15 : Int32) < (h.1 (m + 18) (v5.toNatClampNeg)) then fX9_floor_110 m (k) (fX9_floor_48 m k n) (uI h (m + 41) (v2.toNatClampNeg) v5) v1 v2 (v3 ||| ((h.1 (m + 28) (v5.toNatClampNeg)) <<< (((4 : Int32) * v2) &&& 31))) v5 else fX9_floor_111 m (k) (fX9_floor_48 m k n) (uI h (m + 41) (v2.toNatClampNeg) v5) v1 v2 (v3 ||| ((h.1 (m + 28) (v5.toNatClampNeg)) <<< (((4 : Int32) * v2) &&& 31))) v5 (1 : Int32)) else none)) else none) else none)))
set_option maxRecDepth 100000 in
set_option maxHeartbeats 4000000 in
theorem cX9_floor_48 {X : CT} {sh : Sh} {adr : Nat → Nat} {r : Nat → Nat → Option Nat} {m : Nat} {p : Int32 × HI} (hS : MS sh r m) (C : CX X yX9_floor.cls cX9_floor 6 2) (hZ : SZX X adr) (E : RX X (some .int) sh adr (fun v τ => v = some (.int p.1) ∧ τ = mk p.2 r)) {k : HI → Int32 → Int32 → Int32 → Option (Int32 × HI)} (hk : ∀ (h : HI) (v2 : Int32) (v3 : Int32) (v4 : Int32), k h v2 v3 v4 = some p → WW X (sh, adr, 0, 0) 122 [.ref m, .retAddr 0, .int v2, .int v3, .int v4, .retAddr 0] [] (mk h r)) : ∀ (n : Nat) (h : HI) (v1 : Int32) (v2 : Int32) (v3 : Int32) (v4 : Int32) (v5 : Int32), fX9_floor_48 m k n h v1 v2 v3 v4 v5 = some p → WW X (sh, adr, 0, 0) 48 [.ref m, .int v1, .int v2, .int v3, .int v4, .int v5] [] (mk h r) := by
  intro n
  induction n with
  | zero =>
    intro h v1 v2 v3 v4 v5 H
    rw [fX9_floor_48] at H
    cases H
  | succ n ih =>
    intro h v1 v2 v3 v4 v5 H
    rw [fX9_floor_48] at H
    refine ww_iload C dX9_floor_48 rfl ?_
    refine ww_bipush (v := (6 : Int32)) C dX9_floor_50 (by decide) ?_
    refine ww_icmp_ge C dX9_floor_52 122 rfl (fun hc => ?_) (fun hc => ?_)
    · rw [if_pos hc] at H
      exact ww_drop [.ref m, .retAddr 0, .int v2, .int v3, .int v4, .retAddr 0] (sl_e (sl_d (sl_e (sl_e (sl_e (sl_d sl_n)))))) (hk h v2 v3 v4 H)
    · rw [if_neg hc] at H
      refine ww_iload_n C dX9_floor_55 1 rfl rfl ?_
      refine ww_iload C dX9_floor_56 rfl ?_
      refine ww_ishr C dX9_floor_58 ?_
      refine ww_iconst (v := (1 : Int32)) C dX9_floor_59 (by decide) ?_
      refine ww_iand C dX9_floor_60 ?_
      refine ww_if_ne C dX9_floor_61 67 rfl (fun hc => ?_) (fun hc => ?_)
      · rw [if_neg hc] at H
        refine ww_aload_n C dX9_floor_67 0 rfl rfl ?_
        refine wk_getR C dX9_floor_68 fl_X9_137 hS.1 rfl (tX9_floorMen hS).1 ?_
        refine ww_iload_n C dX9_floor_71 2 rfl rfl ?_
        refine ww_iload C dX9_floor_72 rfl ?_
        obtain ⟨hg, H⟩ := gd_of H
        refine wk_iastore C dX9_floor_74 (tX9_floorMen hS).2.1 (vp_of hg (tX9_floorMen hS).2.2) (v2.toNatClampNeg) rfl ?_
        refine ww_iload_n C dX9_floor_75 3 rfl rfl ?_
        refine ww_aload_n C dX9_floor_76 0 rfl rfl ?_
        refine wk_getR C dX9_floor_77 fl_X9_97 hS.1 rfl (tX9_tired hS).1 ?_
        refine ww_iload C dX9_floor_80 rfl ?_
        obtain ⟨hg, H⟩ := gd_of H
        refine wk_iaload C dX9_floor_82 (tX9_tired hS).2.1 (vp_of hg (tX9_tired hS).2.2) (v5.toNatClampNeg) rfl ?_
        refine ww_as (v := (h.1 (m + 28) (v5.toNatClampNeg))) (by rw [uI_n (by omega)]) ?_
        refine ww_iconst (v := (4 : Int32)) C dX9_floor_83 (by decide) ?_
        refine ww_iload_n C dX9_floor_84 2 rfl rfl ?_
        refine ww_imul C dX9_floor_85 ?_
        refine ww_ishl C dX9_floor_86 ?_
        refine ww_ior C dX9_floor_87 ?_
        refine ww_istore_n C dX9_floor_88 3 rfl (by decide) rfl [.ref m, .int v1, .int v2, .int (v3 ||| ((h.1 (m + 28) (v5.toNatClampNeg)) <<< (((4 : Int32) * v2) &&& 31))), .int v4, .int v5] rfl ?_
        refine ww_iload C dX9_floor_89 rfl ?_
        refine ww_if_eq C dX9_floor_91 110 rfl (fun hc => ?_) (fun hc => ?_)
        · rw [if_pos hc] at H
          exact ww_drop [.ref m, .int v1, .int v2, .int (v3 ||| ((h.1 (m + 28) (v5.toNatClampNeg)) <<< (((4 : Int32) * v2) &&& 31))), .retAddr 0, .int v5] (sl_e (sl_e (sl_e (sl_e (sl_d (sl_e sl_n)))))) (cX9_floor_110 hS C hZ E hk ih H)
        · rw [if_neg hc] at H
          refine ww_aload_n C dX9_floor_94 0 rfl rfl ?_
          refine wk_getR C dX9_floor_95 fl_X9_66 hS.1 rfl (tX9_strong hS).1 ?_
          refine ww_iload C dX9_floor_98 rfl ?_
          obtain ⟨hg, H⟩ := gd_of H
          refine wk_iaload C dX9_floor_100 (tX9_strong hS).2.1 (vp_of hg (tX9_strong hS).2.2) (v5.toNatClampNeg) rfl ?_
          refine ww_as (v := (h.1 (m + 18) (v5.toNatClampNeg))) (by rw [uI_n (by omega)]) ?_
          refine ww_bipush (v := (15 : Int32)) C dX9_floor_101 (by decide) ?_
          refine ww_icmp_gt C dX9_floor_103 110 rfl (fun hc => ?_) (fun hc => ?_)
          · rw [if_pos hc] at H
            exact ww_drop [.ref m, .int v1, .int v2, .int (v3 ||| ((h.1 (m + 28) (v5.toNatClampNeg)) <<< (((4 : Int32) * v2) &&& 31))), .retAddr 0, .int v5] (sl_e (sl_e (sl_e (sl_e (sl_d (sl_e sl_n)))))) (cX9_floor_110 hS C hZ E hk ih H)
          · rw [if_neg hc] at H
            refine ww_iconst (v := (1 : Int32)) C dX9_floor_106 (by decide) ?_
            refine ww_goto C dX9_floor_107 111 rfl ?_
            exact ww_drop [.ref m, .int v1, .int v2, .int (v3 ||| ((h.1 (m + 28) (v5.toNatClampNeg)) <<< (((4 : Int32) * v2) &&& 31))), .retAddr 0, .int v5] (sl_e (sl_e (sl_e (sl_e (sl_d (sl_e sl_n)))))) (cX9_floor_111 hS C hZ E hk ih H)
      · rw [if_pos hc] at H
        refine ww_goto C dX9_floor_64 116 rfl ?_
        exact cX9_floor_116 hS C hZ E hk ih H
def fX9_floor_157 (m : Nat) (k : HI → Int32 → Option (Int32 × HI)) (kb : HI → Int32 → Int32 → Int32 → Option (Int32 × HI)) (h : HI) (v2 : Int32) (v3 : Int32) (v5 : Int32) (s0 : Int32) (s1 : Int32) : Option (Int32 × HI) := (if inB s1 4096 then kb (uI h (m + 39) (s1.toNatClampNeg) (vp_nar .boolean s0)) v2 v3 (v5 + (1 : Int32)) else none)
set_option maxRecDepth 100000 in
set_option maxHeartbeats 4000000 in
theorem cX9_floor_157 {X : CT} {sh : Sh} {adr : Nat → Nat} {r : Nat → Nat → Option Nat} {m : Nat} {p : Int32 × HI} (hS : MS sh r m) (C : CX X yX9_floor.cls cX9_floor 6 2) (hZ : SZX X adr) (E : RX X (some .int) sh adr (fun v τ => v = some (.int p.1) ∧ τ = mk p.2 r)) {k : HI → Int32 → Option (Int32 × HI)} {kb : HI → Int32 → Int32 → Int32 → Option (Int32 × HI)} (hk : ∀ (h : HI) (v2 : Int32), k h v2 = some p → WW X (sh, adr, 0, 0) 164 [.ref m, .retAddr 0, .int v2, .retAddr 0, .retAddr 0, .retAddr 0] [] (mk h r)) (hb : ∀ (h : HI) (v2 : Int32) (v3 : Int32) (v5 : Int32), kb h v2 v3 v5 = some p → WW X (sh, adr, 0, 0) 132 [.ref m, .retAddr 0, .int v2, .int v3, .retAddr 0, .int v5] [] (mk h r)) {h : HI} {v2 : Int32} {v3 : Int32} {v5 : Int32} {s0 : Int32} {s1 : Int32} (H : fX9_floor_157 m k kb h v2 v3 v5 s0 s1 = some p) : WW X (sh, adr, 0, 0) 157 [.ref m, .retAddr 0, .int v2, .int v3, .retAddr 0, .int v5] [.int s0, .int s1, .ref (m + 39)] (mk h r) := by
  rw [fX9_floor_157] at H
  obtain ⟨hg, H⟩ := gd_of H
  refine wk_zastore C dX9_floor_157 (tX9_now hS).2.1 (vp_of hg (tX9_now hS).2.2) (s1.toNatClampNeg) rfl (vp_nar .boolean s0) rfl ?_
  refine ww_iinc (v := (v5 + (1 : Int32))) C dX9_floor_158 rfl rfl (by decide) rfl [.ref m, .retAddr 0, .int v2, .int v3, .retAddr 0, .int (v5 + (1 : Int32))] rfl ?_
  refine ww_goto C dX9_floor_161 132 rfl ?_
  exact hb (uI h (m + 39) (s1.toNatClampNeg) (vp_nar .boolean s0)) v2 v3 (v5 + (1 : Int32)) H
def fX9_floor_132 (m : Nat) (k : HI → Int32 → Option (Int32 × HI)) : Nat → HI → Int32 → Int32 → Int32 → Option (Int32 × HI)
  | 0, _, _, _, _ => none
  | n + 1, h, v2, v3, v5 => (if (4096 : Int32) ≤ v5 then k h v2 else (if v5 = v3 then fX9_floor_157 m (k) (fX9_floor_132 m k n) h v2 v3 v5 (1 : Int32) v5 else fX9_floor_157 m (k) (fX9_floor_132 m k n) h v2 v3 v5 (0 : Int32) v5))
set_option maxRecDepth 100000 in
set_option maxHeartbeats 4000000 in
theorem cX9_floor_132 {X : CT} {sh : Sh} {adr : Nat → Nat} {r : Nat → Nat → Option Nat} {m : Nat} {p : Int32 × HI} (hS : MS sh r m) (C : CX X yX9_floor.cls cX9_floor 6 2) (hZ : SZX X adr) (E : RX X (some .int) sh adr (fun v τ => v = some (.int p.1) ∧ τ = mk p.2 r)) {k : HI → Int32 → Option (Int32 × HI)} (hk : ∀ (h : HI) (v2 : Int32), k h v2 = some p → WW X (sh, adr, 0, 0) 164 [.ref m, .retAddr 0, .int v2, .retAddr 0, .retAddr 0, .retAddr 0] [] (mk h r)) : ∀ (n : Nat) (h : HI) (v2 : Int32) (v3 : Int32) (v5 : Int32), fX9_floor_132 m k n h v2 v3 v5 = some p → WW X (sh, adr, 0, 0) 132 [.ref m, .retAddr 0, .int v2, .int v3, .retAddr 0, .int v5] [] (mk h r) := by
  intro n
  induction n with
  | zero =>
    intro h v2 v3 v5 H
    rw [fX9_floor_132] at H
    cases H
  | succ n ih =>
    intro h v2 v3 v5 H
    rw [fX9_floor_132] at H
    refine ww_iload C dX9_floor_132 rfl ?_
    refine ww_sipush (v := (4096 : Int32)) C dX9_floor_134 (by decide) ?_
    refine ww_icmp_ge C dX9_floor_137 164 rfl (fun hc => ?_) (fun hc => ?_)
    · rw [if_pos hc] at H
      exact ww_drop [.ref m, .retAddr 0, .int v2, .retAddr 0, .retAddr 0, .retAddr 0] (sl_e (sl_e (sl_e (sl_d (sl_e (sl_d sl_n)))))) (hk h v2 H)
    · rw [if_neg hc] at H
      refine ww_aload_n C dX9_floor_140 0 rfl rfl ?_
      refine wk_getR C dX9_floor_141 fl_X9_131 hS.1 rfl (tX9_now hS).1 ?_
      refine ww_iload C dX9_floor_144 rfl ?_
      refine ww_iload C dX9_floor_146 rfl ?_
      refine ww_iload_n C dX9_floor_148 3 rfl rfl ?_
      refine ww_icmp_ne C dX9_floor_149 156 rfl (fun hc => ?_) (fun hc => ?_)
      · rw [if_neg hc] at H
        refine ww_iconst (v := (0 : Int32)) C dX9_floor_156 (by decide) ?_
        exact cX9_floor_157 hS C hZ E hk ih H
      · rw [if_pos hc] at H
        refine ww_iconst (v := (1 : Int32)) C dX9_floor_152 (by decide) ?_
        refine ww_goto C dX9_floor_153 157 rfl ?_
        exact cX9_floor_157 hS C hZ E hk ih H
def fX9_floor_167 (m : Nat) (k : HI → Int32 → Option (Int32 × HI)) : Nat → HI → Int32 → Int32 → Option (Int32 × HI)
  | 0, _, _, _ => none
  | n + 1, h, v2, v5 => (if (200 : Int32) ≤ v5 then k h v5 else ((fX9_floorOn m h v2).bind fun p7 => (if p7.1 = 0 then k p7.2 v5 else fX9_floor_167 m k n p7.2 v2 (v5 + (1 : Int32)))))
set_option maxRecDepth 100000 in
set_option maxHeartbeats 4000000 in
theorem cX9_floor_167 {X : CT} {sh : Sh} {adr : Nat → Nat} {r : Nat → Nat → Option Nat} {m : Nat} {p : Int32 × HI} (hS : MS sh r m) (C : CX X yX9_floor.cls cX9_floor 6 2) (hZ : SZX X adr) (E : RX X (some .int) sh adr (fun v τ => v = some (.int p.1) ∧ τ = mk p.2 r)) {k : HI → Int32 → Option (Int32 × HI)} (hk : ∀ (h : HI) (v5 : Int32), k h v5 = some p → WW X (sh, adr, 0, 0) 189 [.ref m, .retAddr 0, .retAddr 0, .retAddr 0, .retAddr 0, .int v5] [] (mk h r)) : ∀ (n : Nat) (h : HI) (v2 : Int32) (v5 : Int32), fX9_floor_167 m k n h v2 v5 = some p → WW X (sh, adr, 0, 0) 167 [.ref m, .retAddr 0, .int v2, .retAddr 0, .retAddr 0, .int v5] [] (mk h r) := by
  intro n
  induction n with
  | zero =>
    intro h v2 v5 H
    rw [fX9_floor_167] at H
    cases H
  | succ n ih =>
    intro h v2 v5 H
    rw [fX9_floor_167] at H
    refine ww_iload C dX9_floor_167 rfl ?_
    refine ww_sipush (v := (200 : Int32)) C dX9_floor_169 (by decide) ?_
    refine ww_icmp_ge C dX9_floor_172 189 rfl (fun hc => ?_) (fun hc => ?_)
    · rw [if_pos hc] at H
      exact ww_drop [.ref m, .retAddr 0, .retAddr 0, .retAddr 0, .retAddr 0, .int v5] (sl_e (sl_e (sl_d (sl_e (sl_e (sl_e sl_n)))))) (hk h v5 H)
    · rw [if_neg hc] at H
      refine ww_aload_n C dX9_floor_175 0 rfl rfl ?_
      refine ww_iload_n C dX9_floor_176 2 rfl rfl ?_
      obtain ⟨p7, hc1, H⟩ := bd_of H
      refine ww_callV C hZ dX9_floor_177 cw_X9_573 (ccX9_floorOn hS hc1) hS.1 ⟨by decide, rfl⟩ (by decide) rfl rfl (Nat.le_of_ble_eq_true rfl) ⟨Nat.zero_le _, Nat.zero_le _⟩ (fun v τ hp => ?_)
      obtain ⟨rfl, rfl⟩ := hp
      change WW X _ 180 [.ref m, .retAddr 0, .int v2, .retAddr 0, .retAddr 0, .int v5] [.int p7.1] _
      refine ww_if_eq C dX9_floor_180 189 rfl (fun hc => ?_) (fun hc => ?_)
      · rw [if_pos hc] at H
        exact ww_drop [.ref m, .retAddr 0, .retAddr 0, .retAddr 0, .retAddr 0, .int v5] (sl_e (sl_e (sl_d (sl_e (sl_e (sl_e sl_n)))))) (hk p7.2 v5 H)
      · rw [if_neg hc] at H
        refine ww_iinc (v := (v5 + (1 : Int32))) C dX9_floor_183 rfl rfl (by decide) rfl [.ref m, .retAddr 0, .int v2, .retAddr 0, .retAddr 0, .int (v5 + (1 : Int32))] rfl ?_
        refine ww_goto C dX9_floor_186 167 rfl ?_
        exact ih p7.2 v2 (v5 + (1 : Int32)) H
def fX9_floor (m : Nat) (h : HI) (a1 : Int32) : Option (Int32 × HI) := (if a1 < (1 : Int32) then some ((-1 : Int32), h) else (if ((1 : Int32) <<< ((h.1 (m + 11) 1) &&& 31)) ≤ a1 then some ((-1 : Int32), h) else ((fX9_hereSet m h).bind fun p1 => (if (a1 &&& (p1.1 ^^^ (-1 : Int32))) = 0 then ((fX9_ones p1.2 a1).bind fun p2 => (if p2.1 ≤ (3 : Int32) then fX9_floor_48 m (fun h4 v2 v3 v4 => (if v4 = 0 then some ((-1 : Int32), h4) else fX9_floor_132 m (fun h6 v2 => fX9_floor_167 m (fun h9 v5 => some (v5, h9)) FU h6 v2 (0 : Int32)) FU h4 v2 v3 (0 : Int32))) FU p2.2 a1 (0 : Int32) (0 : Int32) (1 : Int32) (0 : Int32) else some ((-1 : Int32), p2.2))) else some ((-1 : Int32), p1.2)))))
set_option maxRecDepth 100000 in
set_option maxHeartbeats 4000000 in
theorem ccX9_floor {l : Launch} {sh : Sh} {adr : Nat → Nat} {r : Nat → Nat → Option Nat} {m : Nat} (hS : MS sh r m) {h : HI} {a1 : Int32} {p : Int32 × HI} (H : fX9_floor m h a1 = some p) : CC l yX9_floor cX9_floor 6 (some .int) 2 [.ref m, .int a1] sh adr (mk h r) (fun v τ => v = some (.int p.1) ∧ τ = mk p.2 r) := by
  refine CC.of (by decide) (Nat.le_of_ble_eq_true rfl) 4 [.ref m, .int a1, .retAddr 0, .retAddr 0, .retAddr 0, .retAddr 0] rfl (fun X _ C E hZ => ?_)
  rw [fX9_floor] at H
  refine ww_iload_n C dX9_floor_0 1 rfl rfl ?_
  refine ww_iconst (v := (1 : Int32)) C dX9_floor_1 (by decide) ?_
  refine ww_icmp_lt C dX9_floor_2 36 rfl (fun hc => ?_) (fun hc => ?_)
  · rw [if_pos hc] at H
    refine ww_iconst (v := (-1 : Int32)) C dX9_floor_36 (by decide) ?_
    cases H
    exact ww_iret C E dX9_floor_37 ⟨rfl, rfl⟩
  · rw [if_neg hc] at H
    refine ww_iload_n C dX9_floor_5 1 rfl rfl ?_
    refine ww_iconst (v := (1 : Int32)) C dX9_floor_6 (by decide) ?_
    refine ww_aload_n C dX9_floor_7 0 rfl rfl ?_
    refine wk_getR C dX9_floor_8 fl_X9_45 hS.1 rfl (tX9_many hS).1 ?_
    refine ww_iconst (v := (1 : Int32)) C dX9_floor_11 (by decide) ?_
    refine wk_iaload C dX9_floor_12 (tX9_many hS).2.1 (vp_of (by decide : inB (1 : Int32) 3) (tX9_many hS).2.2) 1 rfl ?_
    refine ww_ishl C dX9_floor_13 ?_
    refine ww_icmp_ge C dX9_floor_14 36 rfl (fun hc => ?_) (fun hc => ?_)
    · rw [if_pos hc] at H
      refine ww_iconst (v := (-1 : Int32)) C dX9_floor_36 (by decide) ?_
      cases H
      exact ww_iret C E dX9_floor_37 ⟨rfl, rfl⟩
    · rw [if_neg hc] at H
      refine ww_iload_n C dX9_floor_17 1 rfl rfl ?_
      refine ww_aload_n C dX9_floor_18 0 rfl rfl ?_
      obtain ⟨p1, hc1, H⟩ := bd_of H
      refine ww_callV C hZ dX9_floor_19 cw_X9_490 (ccX9_hereSet hS hc1) hS.1 ⟨by decide, rfl⟩ (by decide) rfl rfl (Nat.le_of_ble_eq_true rfl) ⟨Nat.zero_le _, Nat.zero_le _⟩ (fun v τ hp => ?_)
      obtain ⟨rfl, rfl⟩ := hp
      change WW X _ 22 [.ref m, .int a1, .retAddr 0, .retAddr 0, .retAddr 0, .retAddr 0] [.int p1.1, .int a1] _
      refine ww_iconst (v := (-1 : Int32)) C dX9_floor_22 (by decide) ?_
      refine ww_ixor C dX9_floor_23 ?_
      refine ww_iand C dX9_floor_24 ?_
      refine ww_if_ne C dX9_floor_25 36 rfl (fun hc => ?_) (fun hc => ?_)
      · rw [if_neg hc] at H
        refine ww_iconst (v := (-1 : Int32)) C dX9_floor_36 (by decide) ?_
        cases H
        exact ww_iret C E dX9_floor_37 ⟨rfl, rfl⟩
      · rw [if_pos hc] at H
        refine ww_iload_n C dX9_floor_28 1 rfl rfl ?_
        obtain ⟨p2, hc1, H⟩ := bd_of H
        refine ww_callS C hZ dX9_floor_29 sw_X9_442 (ccX9_ones hc1) (by decide) rfl rfl (Nat.le_of_ble_eq_true rfl) ⟨Nat.zero_le _, Nat.zero_le _⟩ (fun v τ hp => ?_)
        obtain ⟨rfl, rfl⟩ := hp
        change WW X _ 32 [.ref m, .int a1, .retAddr 0, .retAddr 0, .retAddr 0, .retAddr 0] [.int p2.1] _
        refine ww_iconst (v := (3 : Int32)) C dX9_floor_32 (by decide) ?_
        refine ww_icmp_le C dX9_floor_33 38 rfl (fun hc => ?_) (fun hc => ?_)
        · rw [if_pos hc] at H
          refine ww_iconst (v := (0 : Int32)) C dX9_floor_38 (by decide) ?_
          refine ww_istore_n C dX9_floor_39 2 rfl (by decide) rfl [.ref m, .int a1, .int (0 : Int32), .retAddr 0, .retAddr 0, .retAddr 0] rfl ?_
          refine ww_iconst (v := (0 : Int32)) C dX9_floor_40 (by decide) ?_
          refine ww_istore_n C dX9_floor_41 3 rfl (by decide) rfl [.ref m, .int a1, .int (0 : Int32), .int (0 : Int32), .retAddr 0, .retAddr 0] rfl ?_
          refine ww_iconst (v := (1 : Int32)) C dX9_floor_42 (by decide) ?_
          refine ww_istore C dX9_floor_43 (by decide) rfl [.ref m, .int a1, .int (0 : Int32), .int (0 : Int32), .int (1 : Int32), .retAddr 0] rfl ?_
          refine ww_iconst (v := (0 : Int32)) C dX9_floor_45 (by decide) ?_
          refine ww_istore C dX9_floor_46 (by decide) rfl [.ref m, .int a1, .int (0 : Int32), .int (0 : Int32), .int (1 : Int32), .int (0 : Int32)] rfl ?_
          refine cX9_floor_48 hS C hZ E (fun h4 v2 v3 v4 H => ?_) FU p2.2 a1 (0 : Int32) (0 : Int32) (1 : Int32) (0 : Int32) H
          refine ww_iload C dX9_floor_122 rfl ?_
          refine ww_if_ne C dX9_floor_124 129 rfl (fun hc => ?_) (fun hc => ?_)
          · rw [if_neg hc] at H
            refine ww_iconst (v := (0 : Int32)) C dX9_floor_129 (by decide) ?_
            refine ww_istore C dX9_floor_130 (by decide) rfl [.ref m, .retAddr 0, .int v2, .int v3, .int v4, .int (0 : Int32)] rfl ?_
            refine ww_drop [.ref m, .retAddr 0, .int v2, .int v3, .retAddr 0, .int (0 : Int32)] (sl_e (sl_e (sl_e (sl_e (sl_d (sl_e sl_n)))))) (cX9_floor_132 hS C hZ E (fun h6 v2 H => ?_) FU h4 v2 v3 (0 : Int32) H)
            refine ww_iconst (v := (0 : Int32)) C dX9_floor_164 (by decide) ?_
            refine ww_istore C dX9_floor_165 (by decide) rfl [.ref m, .retAddr 0, .int v2, .retAddr 0, .retAddr 0, .int (0 : Int32)] rfl ?_
            refine cX9_floor_167 hS C hZ E (fun h9 v5 H => ?_) FU h6 v2 (0 : Int32) H
            refine ww_iload C dX9_floor_189 rfl ?_
            cases H
            exact ww_iret C E dX9_floor_191 ⟨rfl, rfl⟩
          · rw [if_pos hc] at H
            refine ww_iconst (v := (-1 : Int32)) C dX9_floor_127 (by decide) ?_
            cases H
            exact ww_iret C E dX9_floor_128 ⟨rfl, rfl⟩
        · rw [if_neg hc] at H
          refine ww_iconst (v := (-1 : Int32)) C dX9_floor_36 (by decide) ?_
          cases H
          exact ww_iret C E dX9_floor_37 ⟨rfl, rfl⟩
def fX9_could_121 (m : Nat) (k : HI → Int32 → Int32 → Int32 → Int32 → Option (Int32 × HI)) (kb : HI → Int32 → Int32 → Int32 → Int32 → Int32 → Int32 → Int32 → Int32 → Option (Int32 × HI)) (h : HI) (v1 : Int32) (v2 : Int32) (v3 : Int32) (v4 : Int32) (v5 : Int32) (v6 : Int32) (v7 : Int32) (v8 : Int32) : Option (Int32 × HI) := kb h v1 v2 v3 v4 v5 v6 v7 (v8 + (1 : Int32))
set_option maxRecDepth 100000 in
set_option maxHeartbeats 4000000 in
theorem cX9_could_121 {X : CT} {sh : Sh} {adr : Nat → Nat} {r : Nat → Nat → Option Nat} {m : Nat} {p : Int32 × HI} (hS : MS sh r m) (C : CX X yX9_could.cls cX9_could 9 2) (hZ : SZX X adr) (E : RX X (some .int) sh adr (fun v τ => v = some (.int p.1) ∧ τ = mk p.2 r)) {k : HI → Int32 → Int32 → Int32 → Int32 → Option (Int32 × HI)} {kb : HI → Int32 → Int32 → Int32 → Int32 → Int32 → Int32 → Int32 → Int32 → Option (Int32 × HI)} (hk : ∀ (h : HI) (v4 : Int32) (v5 : Int32) (v6 : Int32) (v7 : Int32), k h v4 v5 v6 v7 = some p → WW X (sh, adr, 0, 0) 127 [.ref m, .retAddr 0, .retAddr 0, .retAddr 0, .int v4, .int v5, .int v6, .int v7, .retAddr 0] [] (mk h r)) (hb : ∀ (h : HI) (v1 : Int32) (v2 : Int32) (v3 : Int32) (v4 : Int32) (v5 : Int32) (v6 : Int32) (v7 : Int32) (v8 : Int32), kb h v1 v2 v3 v4 v5 v6 v7 v8 = some p → WW X (sh, adr, 0, 0) 48 [.ref m, .int v1, .int v2, .int v3, .int v4, .int v5, .int v6, .int v7, .int v8] [] (mk h r)) {h : HI} {v1 : Int32} {v2 : Int32} {v3 : Int32} {v4 : Int32} {v5 : Int32} {v6 : Int32} {v7 : Int32} {v8 : Int32} (H : fX9_could_121 m k kb h v1 v2 v3 v4 v5 v6 v7 v8 = some p) : WW X (sh, adr, 0, 0) 121 [.ref m, .int v1, .int v2, .int v3, .int v4, .int v5, .int v6, .int v7, .int v8] [] (mk h r) := by
  rw [fX9_could_121] at H
  refine ww_iinc (v := (v8 + (1 : Int32))) C dX9_could_121 rfl rfl (by decide) rfl [.ref m, .int v1, .int v2, .int v3, .int v4, .int v5, .int v6, .int v7, .int (v8 + (1 : Int32))] rfl ?_
  refine ww_goto C dX9_could_124 48 rfl ?_
  exact hb h v1 v2 v3 v4 v5 v6 v7 (v8 + (1 : Int32)) H
def fX9_could_48 (m : Nat) (k : HI → Int32 → Int32 → Int32 → Int32 → Option (Int32 × HI)) : Nat → HI → Int32 → Int32 → Int32 → Int32 → Int32 → Int32 → Int32 → Int32 → Option (Int32 × HI)
  | 0, _, _, _, _, _, _, _, _, _ => none
  | n + 1, h, v1, v2, v3, v4, v5, v6, v7, v8 => ((fX9_men m h).bind fun p3 => (if ((1 : Int32) <<< (p3.1 &&& 31)) ≤ v8 then k p3.2 v4 v5 v6 v7 else ((fX9_ones p3.2 v8).bind fun p4 => ((fX9_seats m p4.2).bind fun p5 => (if p5.1 < p4.1 then fX9_could_121 m (k) (fX9_could_48 m k n) p5.2 v1 v2 v3 v4 v5 v6 v7 v8 else ((fX9_yesOf m p5.2 v8 v1 (0 : Int32)).bind fun p6 => ((fX9_ones p6.2 p6.1).bind fun p7 => (if p7.1 = v2 then ((fX9_noOf m p7.2 v8 v1 (0 : Int32)).bind fun p8 => ((fX9_ones p8.2 p8.1).bind fun p9 => (if p9.1 = v3 then fX9_could_121 m (k) (fX9_could_48 m k n) p9.2 v1 v2 v3 v4 (v5 + (1 : Int32)) (v6 &&& v8) (v7 ||| v8) v8 else fX9_could_121 m (k) (fX9_could_48 m k n) p9.2 v1 v2 v3 v4 v5 v6 v7 v8))) else fX9_could_121 m (k) (fX9_could_48 m k n) p7.2 v1 v2 v3 v4 v5 v6 v7 v8))))))))
set_option maxRecDepth 100000 in
set_option maxHeartbeats 4000000 in
theorem cX9_could_48 {X : CT} {sh : Sh} {adr : Nat → Nat} {r : Nat → Nat → Option Nat} {m : Nat} {p : Int32 × HI} (hS : MS sh r m) (C : CX X yX9_could.cls cX9_could 9 2) (hZ : SZX X adr) (E : RX X (some .int) sh adr (fun v τ => v = some (.int p.1) ∧ τ = mk p.2 r)) {k : HI → Int32 → Int32 → Int32 → Int32 → Option (Int32 × HI)} (hk : ∀ (h : HI) (v4 : Int32) (v5 : Int32) (v6 : Int32) (v7 : Int32), k h v4 v5 v6 v7 = some p → WW X (sh, adr, 0, 0) 127 [.ref m, .retAddr 0, .retAddr 0, .retAddr 0, .int v4, .int v5, .int v6, .int v7, .retAddr 0] [] (mk h r)) : ∀ (n : Nat) (h : HI) (v1 : Int32) (v2 : Int32) (v3 : Int32) (v4 : Int32) (v5 : Int32) (v6 : Int32) (v7 : Int32) (v8 : Int32), fX9_could_48 m k n h v1 v2 v3 v4 v5 v6 v7 v8 = some p → WW X (sh, adr, 0, 0) 48 [.ref m, .int v1, .int v2, .int v3, .int v4, .int v5, .int v6, .int v7, .int v8] [] (mk h r) := by
  intro n
  induction n with
  | zero =>
    intro h v1 v2 v3 v4 v5 v6 v7 v8 H
    rw [fX9_could_48] at H
    cases H
  | succ n ih =>
    intro h v1 v2 v3 v4 v5 v6 v7 v8 H
    rw [fX9_could_48] at H
    refine ww_iload C dX9_could_48 rfl ?_
    refine ww_iconst (v := (1 : Int32)) C dX9_could_50 (by decide) ?_
    refine ww_aload_n C dX9_could_51 0 rfl rfl ?_
    obtain ⟨p3, hc1, H⟩ := bd_of H
    refine ww_callV C hZ dX9_could_52 cw_X9_417 (ccX9_men hS hc1) hS.1 ⟨by decide, rfl⟩ (by decide) rfl rfl (Nat.le_of_ble_eq_true rfl) ⟨Nat.zero_le _, Nat.zero_le _⟩ (fun v τ hp => ?_)
    obtain ⟨rfl, rfl⟩ := hp
    change WW X _ 55 [.ref m, .int v1, .int v2, .int v3, .int v4, .int v5, .int v6, .int v7, .int v8] [.int p3.1, .int (1 : Int32), .int v8] _
    refine ww_ishl C dX9_could_55 ?_
    refine ww_icmp_ge C dX9_could_56 127 rfl (fun hc => ?_) (fun hc => ?_)
    · rw [if_pos hc] at H
      exact ww_drop [.ref m, .retAddr 0, .retAddr 0, .retAddr 0, .int v4, .int v5, .int v6, .int v7, .retAddr 0] (sl_e (sl_d (sl_d (sl_d (sl_e (sl_e (sl_e (sl_e (sl_d sl_n))))))))) (hk p3.2 v4 v5 v6 v7 H)
    · rw [if_neg hc] at H
      refine ww_iload C dX9_could_59 rfl ?_
      obtain ⟨p4, hc1, H⟩ := bd_of H
      refine ww_callS C hZ dX9_could_61 sw_X9_442 (ccX9_ones hc1) (by decide) rfl rfl (Nat.le_of_ble_eq_true rfl) ⟨Nat.zero_le _, Nat.zero_le _⟩ (fun v τ hp => ?_)
      obtain ⟨rfl, rfl⟩ := hp
      change WW X _ 64 [.ref m, .int v1, .int v2, .int v3, .int v4, .int v5, .int v6, .int v7, .int v8] [.int p4.1] _
      refine ww_aload_n C dX9_could_64 0 rfl rfl ?_
      obtain ⟨p5, hc1, H⟩ := bd_of H
      refine ww_callV C hZ dX9_could_65 cw_X9_557 (ccX9_seats hS hc1) hS.1 ⟨by decide, rfl⟩ (by decide) rfl rfl (Nat.le_of_ble_eq_true rfl) ⟨Nat.zero_le _, Nat.zero_le _⟩ (fun v τ hp => ?_)
      obtain ⟨rfl, rfl⟩ := hp
      change WW X _ 68 [.ref m, .int v1, .int v2, .int v3, .int v4, .int v5, .int v6, .int v7, .int v8] [.int p5.1, .int p4.1] _
      refine ww_icmp_gt C dX9_could_68 121 rfl (fun hc => ?_) (fun hc => ?_)
      · rw [if_pos hc] at H
        exact cX9_could_121 hS C hZ E hk ih H
      · rw [if_neg hc] at H
        refine ww_aload_n C dX9_could_71 0 rfl rfl ?_
        refine ww_iload C dX9_could_72 rfl ?_
        refine ww_iload_n C dX9_could_74 1 rfl rfl ?_
        refine ww_iconst (v := (0 : Int32)) C dX9_could_75 (by decide) ?_
        obtain ⟨p6, hc1, H⟩ := bd_of H
        refine ww_callV C hZ dX9_could_76 cw_X9_484 (ccX9_yesOf hS hc1) hS.1 ⟨by decide, rfl⟩ (by decide) rfl rfl (Nat.le_of_ble_eq_true rfl) ⟨Nat.zero_le _, Nat.zero_le _⟩ (fun v τ hp => ?_)
        obtain ⟨rfl, rfl⟩ := hp
        change WW X _ 79 [.ref m, .int v1, .int v2, .int v3, .int v4, .int v5, .int v6, .int v7, .int v8] [.int p6.1] _
        obtain ⟨p7, hc1, H⟩ := bd_of H
        refine ww_callS C hZ dX9_could_79 sw_X9_442 (ccX9_ones hc1) (by decide) rfl rfl (Nat.le_of_ble_eq_true rfl) ⟨Nat.zero_le _, Nat.zero_le _⟩ (fun v τ hp => ?_)
        obtain ⟨rfl, rfl⟩ := hp
        change WW X _ 82 [.ref m, .int v1, .int v2, .int v3, .int v4, .int v5, .int v6, .int v7, .int v8] [.int p7.1] _
        refine ww_iload_n C dX9_could_82 2 rfl rfl ?_
        refine ww_icmp_ne C dX9_could_83 121 rfl (fun hc => ?_) (fun hc => ?_)
        · rw [if_neg hc] at H
          exact cX9_could_121 hS C hZ E hk ih H
        · rw [if_pos hc] at H
          refine ww_aload_n C dX9_could_86 0 rfl rfl ?_
          refine ww_iload C dX9_could_87 rfl ?_
          refine ww_iload_n C dX9_could_89 1 rfl rfl ?_
          refine ww_iconst (v := (0 : Int32)) C dX9_could_90 (by decide) ?_
          obtain ⟨p8, hc1, H⟩ := bd_of H
          refine ww_callV C hZ dX9_could_91 cw_X9_487 (ccX9_noOf hS hc1) hS.1 ⟨by decide, rfl⟩ (by decide) rfl rfl (Nat.le_of_ble_eq_true rfl) ⟨Nat.zero_le _, Nat.zero_le _⟩ (fun v τ hp => ?_)
          obtain ⟨rfl, rfl⟩ := hp
          change WW X _ 94 [.ref m, .int v1, .int v2, .int v3, .int v4, .int v5, .int v6, .int v7, .int v8] [.int p8.1] _
          obtain ⟨p9, hc1, H⟩ := bd_of H
          refine ww_callS C hZ dX9_could_94 sw_X9_442 (ccX9_ones hc1) (by decide) rfl rfl (Nat.le_of_ble_eq_true rfl) ⟨Nat.zero_le _, Nat.zero_le _⟩ (fun v τ hp => ?_)
          obtain ⟨rfl, rfl⟩ := hp
          change WW X _ 97 [.ref m, .int v1, .int v2, .int v3, .int v4, .int v5, .int v6, .int v7, .int v8] [.int p9.1] _
          refine ww_iload_n C dX9_could_97 3 rfl rfl ?_
          refine ww_icmp_eq C dX9_could_98 104 rfl (fun hc => ?_) (fun hc => ?_)
          · rw [if_pos hc] at H
            refine ww_iinc (v := (v5 + (1 : Int32))) C dX9_could_104 rfl rfl (by decide) rfl [.ref m, .int v1, .int v2, .int v3, .int v4, .int (v5 + (1 : Int32)), .int v6, .int v7, .int v8] rfl ?_
            refine ww_iload C dX9_could_107 rfl ?_
            refine ww_iload C dX9_could_109 rfl ?_
            refine ww_iand C dX9_could_111 ?_
            refine ww_istore C dX9_could_112 (by decide) rfl [.ref m, .int v1, .int v2, .int v3, .int v4, .int (v5 + (1 : Int32)), .int (v6 &&& v8), .int v7, .int v8] rfl ?_
            refine ww_iload C dX9_could_114 rfl ?_
            refine ww_iload C dX9_could_116 rfl ?_
            refine ww_ior C dX9_could_118 ?_
            refine ww_istore C dX9_could_119 (by decide) rfl [.ref m, .int v1, .int v2, .int v3, .int v4, .int (v5 + (1 : Int32)), .int (v6 &&& v8), .int (v7 ||| v8), .int v8] rfl ?_
            exact cX9_could_121 hS C hZ E hk ih H
          · rw [if_neg hc] at H
            refine ww_goto C dX9_could_101 121 rfl ?_
            exact cX9_could_121 hS C hZ E hk ih H
def fX9_could (m : Nat) (h : HI) (a1 : Int32) (a2 : Int32) (a3 : Int32) (a4 : Int32) : Option (Int32 × HI) := ((fX9_isMatter m h a1).bind fun p1 => (if p1.1 = 0 then some ((-1 : Int32), p1.2) else (if a2 < 0 then some ((-1 : Int32), p1.2) else (if a3 < 0 then some ((-1 : Int32), p1.2) else (if a4 < 0 then some ((-1 : Int32), p1.2) else (if a4 ≤ (2 : Int32) then ((fX9_men m p1.2).bind fun p2 => fX9_could_48 m (fun h11 v4 v5 v6 v7 => (if v4 = 0 then some (v5, h11) else (if v5 = 0 then some ((0 : Int32), h11) else (if v4 = (1 : Int32) then some (v6, h11) else some (v7, h11))))) FU p2.2 a1 a2 a3 a4 (0 : Int32) (((1 : Int32) <<< (p2.1 &&& 31)) - (1 : Int32)) (0 : Int32) (0 : Int32)) else some ((-1 : Int32), p1.2)))))))
set_option maxRecDepth 100000 in
set_option maxHeartbeats 4000000 in
theorem ccX9_could {l : Launch} {sh : Sh} {adr : Nat → Nat} {r : Nat → Nat → Option Nat} {m : Nat} (hS : MS sh r m) {h : HI} {a1 : Int32} {a2 : Int32} {a3 : Int32} {a4 : Int32} {p : Int32 × HI} (H : fX9_could m h a1 a2 a3 a4 = some p) : CC l yX9_could cX9_could 9 (some .int) 2 [.ref m, .int a1, .int a2, .int a3, .int a4] sh adr (mk h r) (fun v τ => v = some (.int p.1) ∧ τ = mk p.2 r) := by
  refine CC.of (by decide) (Nat.le_of_ble_eq_true rfl) 4 [.ref m, .int a1, .int a2, .int a3, .int a4, .retAddr 0, .retAddr 0, .retAddr 0, .retAddr 0] rfl (fun X _ C E hZ => ?_)
  rw [fX9_could] at H
  refine ww_aload_n C dX9_could_0 0 rfl rfl ?_
  refine ww_iload_n C dX9_could_1 1 rfl rfl ?_
  obtain ⟨p1, hc1, H⟩ := bd_of H
  refine ww_callV C hZ dX9_could_2 cw_X9_472 (ccX9_isMatter hS hc1) hS.1 ⟨by decide, rfl⟩ (by decide) rfl rfl (Nat.le_of_ble_eq_true rfl) ⟨Nat.zero_le _, Nat.zero_le _⟩ (fun v τ hp => ?_)
  obtain ⟨rfl, rfl⟩ := hp
  change WW X _ 5 [.ref m, .int a1, .int a2, .int a3, .int a4, .retAddr 0, .retAddr 0, .retAddr 0, .retAddr 0] [.int p1.1] _
  refine ww_if_eq C dX9_could_5 27 rfl (fun hc => ?_) (fun hc => ?_)
  · rw [if_pos hc] at H
    refine ww_iconst (v := (-1 : Int32)) C dX9_could_27 (by decide) ?_
    cases H
    exact ww_iret C E dX9_could_28 ⟨rfl, rfl⟩
  · rw [if_neg hc] at H
    refine ww_iload_n C dX9_could_8 2 rfl rfl ?_
    refine ww_if_lt C dX9_could_9 27 rfl (fun hc => ?_) (fun hc => ?_)
    · rw [if_pos hc] at H
      refine ww_iconst (v := (-1 : Int32)) C dX9_could_27 (by decide) ?_
      cases H
      exact ww_iret C E dX9_could_28 ⟨rfl, rfl⟩
    · rw [if_neg hc] at H
      refine ww_iload_n C dX9_could_12 3 rfl rfl ?_
      refine ww_if_lt C dX9_could_13 27 rfl (fun hc => ?_) (fun hc => ?_)
      · rw [if_pos hc] at H
        refine ww_iconst (v := (-1 : Int32)) C dX9_could_27 (by decide) ?_
        cases H
        exact ww_iret C E dX9_could_28 ⟨rfl, rfl⟩
      · rw [if_neg hc] at H
        refine ww_iload C dX9_could_16 rfl ?_
        refine ww_if_lt C dX9_could_18 27 rfl (fun hc => ?_) (fun hc => ?_)
        · rw [if_pos hc] at H
          refine ww_iconst (v := (-1 : Int32)) C dX9_could_27 (by decide) ?_
          cases H
          exact ww_iret C E dX9_could_28 ⟨rfl, rfl⟩
        · rw [if_neg hc] at H
          refine ww_iload C dX9_could_21 rfl ?_
          refine ww_iconst (v := (2 : Int32)) C dX9_could_23 (by decide) ?_
          refine ww_icmp_le C dX9_could_24 29 rfl (fun hc => ?_) (fun hc => ?_)
          · rw [if_pos hc] at H
            refine ww_iconst (v := (0 : Int32)) C dX9_could_29 (by decide) ?_
            refine ww_istore C dX9_could_30 (by decide) rfl [.ref m, .int a1, .int a2, .int a3, .int a4, .int (0 : Int32), .retAddr 0, .retAddr 0, .retAddr 0] rfl ?_
            refine ww_iconst (v := (1 : Int32)) C dX9_could_32 (by decide) ?_
            refine ww_aload_n C dX9_could_33 0 rfl rfl ?_
            obtain ⟨p2, hc1, H⟩ := bd_of H
            refine ww_callV C hZ dX9_could_34 cw_X9_417 (ccX9_men hS hc1) hS.1 ⟨by decide, rfl⟩ (by decide) rfl rfl (Nat.le_of_ble_eq_true rfl) ⟨Nat.zero_le _, Nat.zero_le _⟩ (fun v τ hp => ?_)
            obtain ⟨rfl, rfl⟩ := hp
            change WW X _ 37 [.ref m, .int a1, .int a2, .int a3, .int a4, .int (0 : Int32), .retAddr 0, .retAddr 0, .retAddr 0] [.int p2.1, .int (1 : Int32)] _
            refine ww_ishl C dX9_could_37 ?_
            refine ww_iconst (v := (1 : Int32)) C dX9_could_38 (by decide) ?_
            refine ww_isub C dX9_could_39 ?_
            refine ww_istore C dX9_could_40 (by decide) rfl [.ref m, .int a1, .int a2, .int a3, .int a4, .int (0 : Int32), .int (((1 : Int32) <<< (p2.1 &&& 31)) - (1 : Int32)), .retAddr 0, .retAddr 0] rfl ?_
            refine ww_iconst (v := (0 : Int32)) C dX9_could_42 (by decide) ?_
            refine ww_istore C dX9_could_43 (by decide) rfl [.ref m, .int a1, .int a2, .int a3, .int a4, .int (0 : Int32), .int (((1 : Int32) <<< (p2.1 &&& 31)) - (1 : Int32)), .int (0 : Int32), .retAddr 0] rfl ?_
            refine ww_iconst (v := (0 : Int32)) C dX9_could_45 (by decide) ?_
            refine ww_istore C dX9_could_46 (by decide) rfl [.ref m, .int a1, .int a2, .int a3, .int a4, .int (0 : Int32), .int (((1 : Int32) <<< (p2.1 &&& 31)) - (1 : Int32)), .int (0 : Int32), .int (0 : Int32)] rfl ?_
            refine cX9_could_48 hS C hZ E (fun h11 v4 v5 v6 v7 H => ?_) FU p2.2 a1 a2 a3 a4 (0 : Int32) (((1 : Int32) <<< (p2.1 &&& 31)) - (1 : Int32)) (0 : Int32) (0 : Int32) H
            refine ww_iload C dX9_could_127 rfl ?_
            refine ww_if_ne C dX9_could_129 137 rfl (fun hc => ?_) (fun hc => ?_)
            · rw [if_neg hc] at H
              refine ww_iload C dX9_could_137 rfl ?_
              refine ww_if_ne C dX9_could_139 146 rfl (fun hc => ?_) (fun hc => ?_)
              · rw [if_neg hc] at H
                refine ww_iload C dX9_could_146 rfl ?_
                refine ww_iconst (v := (1 : Int32)) C dX9_could_148 (by decide) ?_
                refine ww_icmp_ne C dX9_could_149 157 rfl (fun hc => ?_) (fun hc => ?_)
                · rw [if_neg hc] at H
                  refine ww_iload C dX9_could_157 rfl ?_
                  cases H
                  exact ww_iret C E dX9_could_159 ⟨rfl, rfl⟩
                · rw [if_pos hc] at H
                  refine ww_iload C dX9_could_152 rfl ?_
                  refine ww_goto C dX9_could_154 159 rfl ?_
                  cases H
                  exact ww_iret C E dX9_could_159 ⟨rfl, rfl⟩
              · rw [if_pos hc] at H
                refine ww_iconst (v := (0 : Int32)) C dX9_could_142 (by decide) ?_
                refine ww_goto C dX9_could_143 159 rfl ?_
                cases H
                exact ww_iret C E dX9_could_159 ⟨rfl, rfl⟩
            · rw [if_pos hc] at H
              refine ww_iload C dX9_could_132 rfl ?_
              refine ww_goto C dX9_could_134 159 rfl ?_
              cases H
              exact ww_iret C E dX9_could_159 ⟨rfl, rfl⟩
          · rw [if_neg hc] at H
            refine ww_iconst (v := (-1 : Int32)) C dX9_could_27 (by decide) ?_
            cases H
            exact ww_iret C E dX9_could_28 ⟨rfl, rfl⟩
def fX9_entry (m : Nat) (h : HI) (a1 : Int32) (a2 : Int32) (a3 : Int32) : Option (Int32 × HI) := (if a1 < 0 then some ((-1 : Int32), h) else (if (100 : Int32) ≤ a1 then some ((-1 : Int32), h) else ((fX9_isMan m h a2).bind fun p1 => (if p1.1 = 0 then some ((-1 : Int32), p1.2) else (if a3 < (-1 : Int32) then some ((-1 : Int32), p1.2) else (if (1 : Int32) < a3 then some ((-1 : Int32), p1.2) else (if (p1.2.1 m 79) = (40 : Int32) then some ((-1 : Int32), p1.2) else (if inB (p1.2.1 m 79) 40 then (if inB (p1.2.1 m 79) 40 then (if inB (p1.2.1 m 79) 40 then (if inB (p1.2.1 m 79) 40 then (if inB (p1.2.1 m 79) 40 then some ((((p1.2.1 m 79) + (1 : Int32)) - (1 : Int32)), (uI (uI (uI (uI (uI (uI p1.2 (m + 42) ((p1.2.1 m 79).toNatClampNeg) a1) (m + 43) ((p1.2.1 m 79).toNatClampNeg) a2) (m + 44) ((p1.2.1 m 79).toNatClampNeg) a3) (m + 45) ((p1.2.1 m 79).toNatClampNeg) (p1.2.1 m 80)) (m + 46) ((p1.2.1 m 79).toNatClampNeg) (-1 : Int32)) m 79 ((p1.2.1 m 79) + (1 : Int32)))) else none) else none) else none) else none) else none))))))))
set_option maxRecDepth 100000 in
set_option maxHeartbeats 4000000 in
theorem ccX9_entry {l : Launch} {sh : Sh} {adr : Nat → Nat} {r : Nat → Nat → Option Nat} {m : Nat} (hS : MS sh r m) {h : HI} {a1 : Int32} {a2 : Int32} {a3 : Int32} {p : Int32 × HI} (H : fX9_entry m h a1 a2 a3 = some p) : CC l yX9_entry cX9_entry 4 (some .int) 1 [.ref m, .int a1, .int a2, .int a3] sh adr (mk h r) (fun v τ => v = some (.int p.1) ∧ τ = mk p.2 r) := by
  refine CC.of (by decide) (Nat.le_of_ble_eq_true rfl) 0 [.ref m, .int a1, .int a2, .int a3] rfl (fun X _ C E hZ => ?_)
  rw [fX9_entry] at H
  refine ww_iload_n C dX9_entry_0 1 rfl rfl ?_
  refine ww_if_lt C dX9_entry_1 37 rfl (fun hc => ?_) (fun hc => ?_)
  · rw [if_pos hc] at H
    refine ww_iconst (v := (-1 : Int32)) C dX9_entry_37 (by decide) ?_
    cases H
    exact ww_iret C E dX9_entry_38 ⟨rfl, rfl⟩
  · rw [if_neg hc] at H
    refine ww_iload_n C dX9_entry_4 1 rfl rfl ?_
    refine ww_bipush (v := (100 : Int32)) C dX9_entry_5 (by decide) ?_
    refine ww_icmp_ge C dX9_entry_7 37 rfl (fun hc => ?_) (fun hc => ?_)
    · rw [if_pos hc] at H
      refine ww_iconst (v := (-1 : Int32)) C dX9_entry_37 (by decide) ?_
      cases H
      exact ww_iret C E dX9_entry_38 ⟨rfl, rfl⟩
    · rw [if_neg hc] at H
      refine ww_aload_n C dX9_entry_10 0 rfl rfl ?_
      refine ww_iload_n C dX9_entry_11 2 rfl rfl ?_
      obtain ⟨p1, hc1, H⟩ := bd_of H
      refine ww_callV C hZ dX9_entry_12 cw_X9_433 (ccX9_isMan hS hc1) hS.1 ⟨by decide, rfl⟩ (by decide) rfl rfl (Nat.le_of_ble_eq_true rfl) ⟨Nat.zero_le _, Nat.zero_le _⟩ (fun v τ hp => ?_)
      obtain ⟨rfl, rfl⟩ := hp
      change WW X _ 15 [.ref m, .int a1, .int a2, .int a3] [.int p1.1] _
      refine ww_if_eq C dX9_entry_15 37 rfl (fun hc => ?_) (fun hc => ?_)
      · rw [if_pos hc] at H
        refine ww_iconst (v := (-1 : Int32)) C dX9_entry_37 (by decide) ?_
        cases H
        exact ww_iret C E dX9_entry_38 ⟨rfl, rfl⟩
      · rw [if_neg hc] at H
        refine ww_iload_n C dX9_entry_18 3 rfl rfl ?_
        refine ww_iconst (v := (-1 : Int32)) C dX9_entry_19 (by decide) ?_
        refine ww_icmp_lt C dX9_entry_20 37 rfl (fun hc => ?_) (fun hc => ?_)
        · rw [if_pos hc] at H
          refine ww_iconst (v := (-1 : Int32)) C dX9_entry_37 (by decide) ?_
          cases H
          exact ww_iret C E dX9_entry_38 ⟨rfl, rfl⟩
        · rw [if_neg hc] at H
          refine ww_iload_n C dX9_entry_23 3 rfl rfl ?_
          refine ww_iconst (v := (1 : Int32)) C dX9_entry_24 (by decide) ?_
          refine ww_icmp_gt C dX9_entry_25 37 rfl (fun hc => ?_) (fun hc => ?_)
          · rw [if_pos hc] at H
            refine ww_iconst (v := (-1 : Int32)) C dX9_entry_37 (by decide) ?_
            cases H
            exact ww_iret C E dX9_entry_38 ⟨rfl, rfl⟩
          · rw [if_neg hc] at H
            refine ww_aload_n C dX9_entry_28 0 rfl rfl ?_
            refine wk_getI C dX9_entry_29 fl_X9_410 hS.1 rfl ?_
            refine ww_bipush (v := (40 : Int32)) C dX9_entry_32 (by decide) ?_
            refine ww_icmp_ne C dX9_entry_34 39 rfl (fun hc => ?_) (fun hc => ?_)
            · rw [if_neg hc] at H
              refine ww_aload_n C dX9_entry_39 0 rfl rfl ?_
              refine wk_getR C dX9_entry_40 fl_X9_140 hS.1 rfl (tX9_entryVote hS).1 ?_
              refine ww_aload_n C dX9_entry_43 0 rfl rfl ?_
              refine wk_getI C dX9_entry_44 fl_X9_410 hS.1 rfl ?_
              refine ww_iload_n C dX9_entry_47 1 rfl rfl ?_
              obtain ⟨hg, H⟩ := gd_of H
              refine wk_iastore C dX9_entry_48 (tX9_entryVote hS).2.1 (vp_of hg (tX9_entryVote hS).2.2) ((p1.2.1 m 79).toNatClampNeg) rfl ?_
              refine ww_aload_n C dX9_entry_49 0 rfl rfl ?_
              refine wk_getR C dX9_entry_50 fl_X9_143 hS.1 rfl (tX9_entryMan hS).1 ?_
              refine ww_aload_n C dX9_entry_53 0 rfl rfl ?_
              refine wk_getI C dX9_entry_54 fl_X9_410 hS.1 rfl ?_
              refine ww_as (v := (p1.2.1 m 79)) (by rw [uI_n (by omega)]) ?_
              refine ww_iload_n C dX9_entry_57 2 rfl rfl ?_
              obtain ⟨hg, H⟩ := gd_of H
              refine wk_iastore C dX9_entry_58 (tX9_entryMan hS).2.1 (vp_of hg (tX9_entryMan hS).2.2) ((p1.2.1 m 79).toNatClampNeg) rfl ?_
              refine ww_aload_n C dX9_entry_59 0 rfl rfl ?_
              refine wk_getR C dX9_entry_60 fl_X9_146 hS.1 rfl (tX9_entrySaid hS).1 ?_
              refine ww_aload_n C dX9_entry_63 0 rfl rfl ?_
              refine wk_getI C dX9_entry_64 fl_X9_410 hS.1 rfl ?_
              refine ww_as (v := (p1.2.1 m 79)) (by rw [uI_n (by omega), uI_n (by omega)]) ?_
              refine ww_iload_n C dX9_entry_67 3 rfl rfl ?_
              obtain ⟨hg, H⟩ := gd_of H
              refine wk_iastore C dX9_entry_68 (tX9_entrySaid hS).2.1 (vp_of hg (tX9_entrySaid hS).2.2) ((p1.2.1 m 79).toNatClampNeg) rfl ?_
              refine ww_aload_n C dX9_entry_69 0 rfl rfl ?_
              refine wk_getR C dX9_entry_70 fl_X9_149 hS.1 rfl (tX9_entryTold hS).1 ?_
              refine ww_aload_n C dX9_entry_73 0 rfl rfl ?_
              refine wk_getI C dX9_entry_74 fl_X9_410 hS.1 rfl ?_
              refine ww_as (v := (p1.2.1 m 79)) (by rw [uI_n (by omega), uI_n (by omega), uI_n (by omega)]) ?_
              refine ww_aload_n C dX9_entry_77 0 rfl rfl ?_
              refine wk_getI C dX9_entry_78 fl_X9_576 hS.1 rfl ?_
              refine ww_as (v := (p1.2.1 m 80)) (by rw [uI_n (by omega), uI_n (by omega), uI_n (by omega)]) ?_
              obtain ⟨hg, H⟩ := gd_of H
              refine wk_iastore C dX9_entry_81 (tX9_entryTold hS).2.1 (vp_of hg (tX9_entryTold hS).2.2) ((p1.2.1 m 79).toNatClampNeg) rfl ?_
              refine ww_aload_n C dX9_entry_82 0 rfl rfl ?_
              refine wk_getR C dX9_entry_83 fl_X9_152 hS.1 rfl (tX9_entryUntold hS).1 ?_
              refine ww_aload_n C dX9_entry_86 0 rfl rfl ?_
              refine wk_getI C dX9_entry_87 fl_X9_410 hS.1 rfl ?_
              refine ww_as (v := (p1.2.1 m 79)) (by rw [uI_n (by omega), uI_n (by omega), uI_n (by omega), uI_n (by omega)]) ?_
              refine ww_iconst (v := (-1 : Int32)) C dX9_entry_90 (by decide) ?_
              obtain ⟨hg, H⟩ := gd_of H
              refine wk_iastore C dX9_entry_91 (tX9_entryUntold hS).2.1 (vp_of hg (tX9_entryUntold hS).2.2) ((p1.2.1 m 79).toNatClampNeg) rfl ?_
              refine ww_aload_n C dX9_entry_92 0 rfl rfl ?_
              refine ww_dup C dX9_entry_93 rfl ?_
              refine wk_getI C dX9_entry_94 fl_X9_410 hS.1 rfl ?_
              refine ww_as (v := (p1.2.1 m 79)) (by rw [uI_n (by omega), uI_n (by omega), uI_n (by omega), uI_n (by omega), uI_n (by omega)]) ?_
              refine ww_iconst (v := (1 : Int32)) C dX9_entry_97 (by decide) ?_
              refine ww_iadd C dX9_entry_98 ?_
              refine wk_putI C dX9_entry_99 fl_X9_410 hS.1 rfl rfl ?_
              refine ww_aload_n C dX9_entry_102 0 rfl rfl ?_
              refine wk_getI C dX9_entry_103 fl_X9_410 hS.1 rfl ?_
              refine ww_as (v := ((p1.2.1 m 79) + (1 : Int32))) (by rw [uI_s]) ?_
              refine ww_iconst (v := (1 : Int32)) C dX9_entry_106 (by decide) ?_
              refine ww_isub C dX9_entry_107 ?_
              cases H
              exact ww_iret C E dX9_entry_108 ⟨rfl, rfl⟩
            · rw [if_pos hc] at H
              refine ww_iconst (v := (-1 : Int32)) C dX9_entry_37 (by decide) ?_
              cases H
              exact ww_iret C E dX9_entry_38 ⟨rfl, rfl⟩
def fX9_untell (m : Nat) (h : HI) (a1 : Int32) : Option (Int32 × HI) := (if a1 < 0 then some ((0 : Int32), h) else (if (h.1 m 79) ≤ a1 then some ((0 : Int32), h) else (if inB a1 40 then (if (h.1 (m + 46) (a1.toNatClampNeg)) < 0 then (if inB a1 40 then some ((1 : Int32), (uI h (m + 46) (a1.toNatClampNeg) (h.1 m 80))) else none) else some ((0 : Int32), h)) else none)))
set_option maxRecDepth 100000 in
set_option maxHeartbeats 4000000 in
theorem ccX9_untell {l : Launch} {sh : Sh} {adr : Nat → Nat} {r : Nat → Nat → Option Nat} {m : Nat} (hS : MS sh r m) {h : HI} {a1 : Int32} {p : Int32 × HI} (H : fX9_untell m h a1 = some p) : CC l yX9_untell cX9_untell 2 (some .boolean) 0 [.ref m, .int a1] sh adr (mk h r) (fun v τ => v = some (.int p.1) ∧ τ = mk p.2 r) := by
  refine CC.of (by decide) (Nat.le_of_ble_eq_true rfl) 0 [.ref m, .int a1] rfl (fun X _ C E hZ => ?_)
  rw [fX9_untell] at H
  refine ww_iload_n C dX9_untell_0 1 rfl rfl ?_
  refine ww_if_lt C dX9_untell_1 21 rfl (fun hc => ?_) (fun hc => ?_)
  · rw [if_pos hc] at H
    refine ww_iconst (v := (0 : Int32)) C dX9_untell_21 (by decide) ?_
    cases H
    exact ww_zret C E dX9_untell_22 (Or.inl rfl) ⟨rfl, rfl⟩
  · rw [if_neg hc] at H
    refine ww_iload_n C dX9_untell_4 1 rfl rfl ?_
    refine ww_aload_n C dX9_untell_5 0 rfl rfl ?_
    refine wk_getI C dX9_untell_6 fl_X9_410 hS.1 rfl ?_
    refine ww_icmp_ge C dX9_untell_9 21 rfl (fun hc => ?_) (fun hc => ?_)
    · rw [if_pos hc] at H
      refine ww_iconst (v := (0 : Int32)) C dX9_untell_21 (by decide) ?_
      cases H
      exact ww_zret C E dX9_untell_22 (Or.inl rfl) ⟨rfl, rfl⟩
    · rw [if_neg hc] at H
      refine ww_aload_n C dX9_untell_12 0 rfl rfl ?_
      refine wk_getR C dX9_untell_13 fl_X9_152 hS.1 rfl (tX9_entryUntold hS).1 ?_
      refine ww_iload_n C dX9_untell_16 1 rfl rfl ?_
      obtain ⟨hg, H⟩ := gd_of H
      refine wk_iaload C dX9_untell_17 (tX9_entryUntold hS).2.1 (vp_of hg (tX9_entryUntold hS).2.2) (a1.toNatClampNeg) rfl ?_
      refine ww_if_lt C dX9_untell_18 23 rfl (fun hc => ?_) (fun hc => ?_)
      · rw [if_pos hc] at H
        refine ww_aload_n C dX9_untell_23 0 rfl rfl ?_
        refine wk_getR C dX9_untell_24 fl_X9_152 hS.1 rfl (tX9_entryUntold hS).1 ?_
        refine ww_iload_n C dX9_untell_27 1 rfl rfl ?_
        refine ww_aload_n C dX9_untell_28 0 rfl rfl ?_
        refine wk_getI C dX9_untell_29 fl_X9_576 hS.1 rfl ?_
        obtain ⟨hg, H⟩ := gd_of H
        refine wk_iastore C dX9_untell_32 (tX9_entryUntold hS).2.1 (vp_of hg (tX9_entryUntold hS).2.2) (a1.toNatClampNeg) rfl ?_
        refine ww_iconst (v := (1 : Int32)) C dX9_untell_33 (by decide) ?_
        cases H
        exact ww_zret C E dX9_untell_34 (Or.inr rfl) ⟨rfl, rfl⟩
      · rw [if_neg hc] at H
        refine ww_iconst (v := (0 : Int32)) C dX9_untell_21 (by decide) ?_
        cases H
        exact ww_zret C E dX9_untell_22 (Or.inl rfl) ⟨rfl, rfl⟩
def fX9_later (m : Nat) (h : HI) (a1 : Int32) : Option (Int32 × HI) := (if a1 < 0 then some ((-1 : Int32), h) else (if (1000 : Int32) < a1 then some ((-1 : Int32), h) else (if ((h.1 m 80) + a1) ≤ (100000 : Int32) then some (((h.1 m 80) + a1), (uI h m 80 ((h.1 m 80) + a1))) else some ((-1 : Int32), h))))
set_option maxRecDepth 100000 in
set_option maxHeartbeats 4000000 in
theorem ccX9_later {l : Launch} {sh : Sh} {adr : Nat → Nat} {r : Nat → Nat → Option Nat} {m : Nat} (hS : MS sh r m) {h : HI} {a1 : Int32} {p : Int32 × HI} (H : fX9_later m h a1 = some p) : CC l yX9_later cX9_later 2 (some .int) 0 [.ref m, .int a1] sh adr (mk h r) (fun v τ => v = some (.int p.1) ∧ τ = mk p.2 r) := by
  refine CC.of (by decide) (Nat.le_of_ble_eq_true rfl) 0 [.ref m, .int a1] rfl (fun X _ C E hZ => ?_)
  rw [fX9_later] at H
  refine ww_iload_n C dX9_later_0 1 rfl rfl ?_
  refine ww_if_lt C dX9_later_1 23 rfl (fun hc => ?_) (fun hc => ?_)
  · rw [if_pos hc] at H
    refine ww_iconst (v := (-1 : Int32)) C dX9_later_23 (by decide) ?_
    cases H
    exact ww_iret C E dX9_later_24 ⟨rfl, rfl⟩
  · rw [if_neg hc] at H
    refine ww_iload_n C dX9_later_4 1 rfl rfl ?_
    refine ww_sipush (v := (1000 : Int32)) C dX9_later_5 (by decide) ?_
    refine ww_icmp_gt C dX9_later_8 23 rfl (fun hc => ?_) (fun hc => ?_)
    · rw [if_pos hc] at H
      refine ww_iconst (v := (-1 : Int32)) C dX9_later_23 (by decide) ?_
      cases H
      exact ww_iret C E dX9_later_24 ⟨rfl, rfl⟩
    · rw [if_neg hc] at H
      refine ww_aload_n C dX9_later_11 0 rfl rfl ?_
      refine wk_getI C dX9_later_12 fl_X9_576 hS.1 rfl ?_
      refine ww_iload_n C dX9_later_15 1 rfl rfl ?_
      refine ww_iadd C dX9_later_16 ?_
      refine ww_ldcw (v := (100000 : Int32)) C dX9_later_17 kc_X9_579 ?_
      refine ww_icmp_le C dX9_later_20 25 rfl (fun hc => ?_) (fun hc => ?_)
      · rw [if_pos hc] at H
        refine ww_aload_n C dX9_later_25 0 rfl rfl ?_
        refine ww_dup C dX9_later_26 rfl ?_
        refine wk_getI C dX9_later_27 fl_X9_576 hS.1 rfl ?_
        refine ww_iload_n C dX9_later_30 1 rfl rfl ?_
        refine ww_iadd C dX9_later_31 ?_
        refine wk_putI C dX9_later_32 fl_X9_576 hS.1 rfl rfl ?_
        refine ww_aload_n C dX9_later_35 0 rfl rfl ?_
        refine wk_getI C dX9_later_36 fl_X9_576 hS.1 rfl ?_
        refine ww_as (v := ((h.1 m 80) + a1)) (by rw [uI_s]) ?_
        cases H
        exact ww_iret C E dX9_later_39 ⟨rfl, rfl⟩
      · rw [if_neg hc] at H
        refine ww_iconst (v := (-1 : Int32)) C dX9_later_23 (by decide) ?_
        cases H
        exact ww_iret C E dX9_later_24 ⟨rfl, rfl⟩
def fX9_counts_29 (m : Nat) (h : HI) (v1 : Int32) : Option (Int32 × HI) := (if inB v1 40 then ((fX9_keptVotes m h).bind fun p1 => (if p1.1 ≤ (h.1 (m + 42) (v1.toNatClampNeg)) then some ((0 : Int32), p1.2) else some ((1 : Int32), p1.2))) else none)
set_option maxRecDepth 100000 in
set_option maxHeartbeats 4000000 in
theorem cX9_counts_29 {X : CT} {sh : Sh} {adr : Nat → Nat} {r : Nat → Nat → Option Nat} {m : Nat} {p : Int32 × HI} (hS : MS sh r m) (C : CX X yX9_counts.cls cX9_counts 3 1) (hZ : SZX X adr) (E : RX X (some .boolean) sh adr (fun v τ => v = some (.int p.1) ∧ τ = mk p.2 r)) {h : HI} {v1 : Int32} (H : fX9_counts_29 m h v1 = some p) : WW X (sh, adr, 0, 0) 29 [.ref m, .int v1, .retAddr 0] [] (mk h r) := by
  rw [fX9_counts_29] at H
  refine ww_aload_n C dX9_counts_29 0 rfl rfl ?_
  refine wk_getR C dX9_counts_30 fl_X9_140 hS.1 rfl (tX9_entryVote hS).1 ?_
  refine ww_iload_n C dX9_counts_33 1 rfl rfl ?_
  obtain ⟨hg, H⟩ := gd_of H
  refine wk_iaload C dX9_counts_34 (tX9_entryVote hS).2.1 (vp_of hg (tX9_entryVote hS).2.2) (v1.toNatClampNeg) rfl ?_
  refine ww_aload_n C dX9_counts_35 0 rfl rfl ?_
  obtain ⟨p1, hc1, H⟩ := bd_of H
  refine ww_callV C hZ dX9_counts_36 cw_X9_505 (ccX9_keptVotes hS hc1) hS.1 ⟨by decide, rfl⟩ (by decide) rfl rfl (Nat.le_of_ble_eq_true rfl) ⟨Nat.zero_le _, Nat.zero_le _⟩ (fun v τ hp => ?_)
  obtain ⟨rfl, rfl⟩ := hp
  change WW X _ 39 [.ref m, .int v1, .retAddr 0] [.int p1.1, .int (h.1 (m + 42) (v1.toNatClampNeg))] _
  refine ww_icmp_ge C dX9_counts_39 46 rfl (fun hc => ?_) (fun hc => ?_)
  · rw [if_pos hc] at H
    refine ww_iconst (v := (0 : Int32)) C dX9_counts_46 (by decide) ?_
    cases H
    exact ww_zret C E dX9_counts_47 (Or.inl rfl) ⟨rfl, rfl⟩
  · rw [if_neg hc] at H
    refine ww_iconst (v := (1 : Int32)) C dX9_counts_42 (by decide) ?_
    refine ww_goto C dX9_counts_43 47 rfl ?_
    cases H
    exact ww_zret C E dX9_counts_47 (Or.inr rfl) ⟨rfl, rfl⟩
def fX9_counts (m : Nat) (h : HI) (a1 : Int32) (a2 : Int32) : Option (Int32 × HI) := (if inB a1 40 then (if a2 < (h.1 (m + 45) (a1.toNatClampNeg)) then some ((0 : Int32), h) else (if inB a1 40 then (if (h.1 (m + 46) (a1.toNatClampNeg)) < 0 then fX9_counts_29 m h a1 else (if inB a1 40 then (if (h.1 (m + 46) (a1.toNatClampNeg)) ≤ a2 then some ((0 : Int32), h) else fX9_counts_29 m h a1) else none)) else none)) else none)
set_option maxRecDepth 100000 in
set_option maxHeartbeats 4000000 in
theorem ccX9_counts {l : Launch} {sh : Sh} {adr : Nat → Nat} {r : Nat → Nat → Option Nat} {m : Nat} (hS : MS sh r m) {h : HI} {a1 : Int32} {a2 : Int32} {p : Int32 × HI} (H : fX9_counts m h a1 a2 = some p) : CC l yX9_counts cX9_counts 3 (some .boolean) 1 [.ref m, .int a1, .int a2] sh adr (mk h r) (fun v τ => v = some (.int p.1) ∧ τ = mk p.2 r) := by
  refine CC.of (by decide) (Nat.le_of_ble_eq_true rfl) 0 [.ref m, .int a1, .int a2] rfl (fun X _ C E hZ => ?_)
  rw [fX9_counts] at H
  refine ww_aload_n C dX9_counts_0 0 rfl rfl ?_
  refine wk_getR C dX9_counts_1 fl_X9_149 hS.1 rfl (tX9_entryTold hS).1 ?_
  refine ww_iload_n C dX9_counts_4 1 rfl rfl ?_
  obtain ⟨hg, H⟩ := gd_of H
  refine wk_iaload C dX9_counts_5 (tX9_entryTold hS).2.1 (vp_of hg (tX9_entryTold hS).2.2) (a1.toNatClampNeg) rfl ?_
  refine ww_iload_n C dX9_counts_6 2 rfl rfl ?_
  refine ww_icmp_gt C dX9_counts_7 46 rfl (fun hc => ?_) (fun hc => ?_)
  · rw [if_pos hc] at H
    refine ww_iconst (v := (0 : Int32)) C dX9_counts_46 (by decide) ?_
    cases H
    exact ww_zret C E dX9_counts_47 (Or.inl rfl) ⟨rfl, rfl⟩
  · rw [if_neg hc] at H
    refine ww_aload_n C dX9_counts_10 0 rfl rfl ?_
    refine wk_getR C dX9_counts_11 fl_X9_152 hS.1 rfl (tX9_entryUntold hS).1 ?_
    refine ww_iload_n C dX9_counts_14 1 rfl rfl ?_
    obtain ⟨hg, H⟩ := gd_of H
    refine wk_iaload C dX9_counts_15 (tX9_entryUntold hS).2.1 (vp_of hg (tX9_entryUntold hS).2.2) (a1.toNatClampNeg) rfl ?_
    refine ww_if_lt C dX9_counts_16 29 rfl (fun hc => ?_) (fun hc => ?_)
    · rw [if_pos hc] at H
      exact ww_drop [.ref m, .int a1, .retAddr 0] (sl_e (sl_e (sl_d sl_n))) (cX9_counts_29 hS C hZ E H)
    · rw [if_neg hc] at H
      refine ww_aload_n C dX9_counts_19 0 rfl rfl ?_
      refine wk_getR C dX9_counts_20 fl_X9_152 hS.1 rfl (tX9_entryUntold hS).1 ?_
      refine ww_iload_n C dX9_counts_23 1 rfl rfl ?_
      obtain ⟨hg, H⟩ := gd_of H
      refine wk_iaload C dX9_counts_24 (tX9_entryUntold hS).2.1 (vp_of hg (tX9_entryUntold hS).2.2) (a1.toNatClampNeg) rfl ?_
      refine ww_iload_n C dX9_counts_25 2 rfl rfl ?_
      refine ww_icmp_le C dX9_counts_26 46 rfl (fun hc => ?_) (fun hc => ?_)
      · rw [if_pos hc] at H
        refine ww_iconst (v := (0 : Int32)) C dX9_counts_46 (by decide) ?_
        cases H
        exact ww_zret C E dX9_counts_47 (Or.inl rfl) ⟨rfl, rfl⟩
      · rw [if_neg hc] at H
        exact ww_drop [.ref m, .int a1, .retAddr 0] (sl_e (sl_e (sl_d sl_n))) (cX9_counts_29 hS C hZ E H)
def fX9_isWrong_97 (m : Nat) (h : HI) (v1 : Int32) (s0 : Int32) : Option (Int32 × HI) := (if inB v1 40 then (if s0 = (h.1 (m + 44) (v1.toNatClampNeg)) then some ((0 : Int32), h) else some ((1 : Int32), h)) else none)
set_option maxRecDepth 100000 in
set_option maxHeartbeats 4000000 in
theorem cX9_isWrong_97 {X : CT} {sh : Sh} {adr : Nat → Nat} {r : Nat → Nat → Option Nat} {m : Nat} {p : Int32 × HI} (hS : MS sh r m) (C : CX X yX9_isWrong.cls cX9_isWrong 6 0) (hZ : SZX X adr) (E : RX X (some .boolean) sh adr (fun v τ => v = some (.int p.1) ∧ τ = mk p.2 r)) {h : HI} {v1 : Int32} {s0 : Int32} (H : fX9_isWrong_97 m h v1 s0 = some p) : WW X (sh, adr, 0, 0) 97 [.ref m, .int v1, .retAddr 0, .retAddr 0, .retAddr 0, .retAddr 0] [.int s0] (mk h r) := by
  rw [fX9_isWrong_97] at H
  refine ww_istore C dX9_isWrong_97 (by decide) rfl [.ref m, .int v1, .retAddr 0, .retAddr 0, .retAddr 0, .int s0] rfl ?_
  refine ww_iload C dX9_isWrong_99 rfl ?_
  refine ww_aload_n C dX9_isWrong_101 0 rfl rfl ?_
  refine wk_getR C dX9_isWrong_102 fl_X9_146 hS.1 rfl (tX9_entrySaid hS).1 ?_
  refine ww_iload_n C dX9_isWrong_105 1 rfl rfl ?_
  obtain ⟨hg, H⟩ := gd_of H
  refine wk_iaload C dX9_isWrong_106 (tX9_entrySaid hS).2.1 (vp_of hg (tX9_entrySaid hS).2.2) (v1.toNatClampNeg) rfl ?_
  refine ww_icmp_eq C dX9_isWrong_107 114 rfl (fun hc => ?_) (fun hc => ?_)
  · rw [if_pos hc] at H
    refine ww_iconst (v := (0 : Int32)) C dX9_isWrong_114 (by decide) ?_
    cases H
    exact ww_zret C E dX9_isWrong_115 (Or.inl rfl) ⟨rfl, rfl⟩
  · rw [if_neg hc] at H
    refine ww_iconst (v := (1 : Int32)) C dX9_isWrong_110 (by decide) ?_
    refine ww_goto C dX9_isWrong_111 115 rfl ?_
    cases H
    exact ww_zret C E dX9_isWrong_115 (Or.inr rfl) ⟨rfl, rfl⟩
def fX9_isWrong (m : Nat) (h : HI) (a1 : Int32) (a2 : Int32) : Option (Int32 × HI) := (if inB a1 40 then (if inB a1 40 then (if a2 = 0 then (if inB (((6 : Int32) * (h.1 (m + 42) (a1.toNatClampNeg))) + (2 : Int32)) 600 then (if (((h.1 (m + 35) ((((6 : Int32) * (h.1 (m + 42) (a1.toNatClampNeg))) + (2 : Int32)).toNatClampNeg)) >>> ((h.1 (m + 43) (a1.toNatClampNeg)) &&& 31)) &&& (1 : Int32)) = (1 : Int32) then fX9_isWrong_97 m h a1 (1 : Int32) else (if inB (((6 : Int32) * (h.1 (m + 42) (a1.toNatClampNeg))) + (3 : Int32)) 600 then (if (((h.1 (m + 35) ((((6 : Int32) * (h.1 (m + 42) (a1.toNatClampNeg))) + (3 : Int32)).toNatClampNeg)) >>> ((h.1 (m + 43) (a1.toNatClampNeg)) &&& 31)) &&& (1 : Int32)) = (1 : Int32) then fX9_isWrong_97 m h a1 (-1 : Int32) else fX9_isWrong_97 m h a1 (0 : Int32)) else none)) else none) else (if inB a1 40 then (if (h.1 (m + 44) (a1.toNatClampNeg)) = 0 then some ((0 : Int32), h) else (if inB (((6 : Int32) * (h.1 (m + 42) (a1.toNatClampNeg))) + (4 : Int32)) 600 then (if (((h.1 (m + 35) ((((6 : Int32) * (h.1 (m + 42) (a1.toNatClampNeg))) + (4 : Int32)).toNatClampNeg)) >>> ((h.1 (m + 43) (a1.toNatClampNeg)) &&& 31)) &&& (1 : Int32)) = (1 : Int32) then some ((1 : Int32), h) else some ((0 : Int32), h)) else none)) else none)) else none) else none)
set_option maxRecDepth 100000 in
set_option maxHeartbeats 4000000 in
theorem ccX9_isWrong {l : Launch} {sh : Sh} {adr : Nat → Nat} {r : Nat → Nat → Option Nat} {m : Nat} (hS : MS sh r m) {h : HI} {a1 : Int32} {a2 : Int32} {p : Int32 × HI} (H : fX9_isWrong m h a1 a2 = some p) : CC l yX9_isWrong cX9_isWrong 6 (some .boolean) 0 [.ref m, .int a1, .int a2] sh adr (mk h r) (fun v τ => v = some (.int p.1) ∧ τ = mk p.2 r) := by
  refine CC.of (by decide) (Nat.le_of_ble_eq_true rfl) 3 [.ref m, .int a1, .int a2, .retAddr 0, .retAddr 0, .retAddr 0] rfl (fun X _ C E hZ => ?_)
  rw [fX9_isWrong] at H
  refine ww_bipush (v := (6 : Int32)) C dX9_isWrong_0 (by decide) ?_
  refine ww_aload_n C dX9_isWrong_2 0 rfl rfl ?_
  refine wk_getR C dX9_isWrong_3 fl_X9_140 hS.1 rfl (tX9_entryVote hS).1 ?_
  refine ww_iload_n C dX9_isWrong_6 1 rfl rfl ?_
  obtain ⟨hg, H⟩ := gd_of H
  refine wk_iaload C dX9_isWrong_7 (tX9_entryVote hS).2.1 (vp_of hg (tX9_entryVote hS).2.2) (a1.toNatClampNeg) rfl ?_
  refine ww_imul C dX9_isWrong_8 ?_
  refine ww_istore_n C dX9_isWrong_9 3 rfl (by decide) rfl [.ref m, .int a1, .int a2, .int ((6 : Int32) * (h.1 (m + 42) (a1.toNatClampNeg))), .retAddr 0, .retAddr 0] rfl ?_
  refine ww_aload_n C dX9_isWrong_10 0 rfl rfl ?_
  refine wk_getR C dX9_isWrong_11 fl_X9_143 hS.1 rfl (tX9_entryMan hS).1 ?_
  refine ww_iload_n C dX9_isWrong_14 1 rfl rfl ?_
  obtain ⟨hg, H⟩ := gd_of H
  refine wk_iaload C dX9_isWrong_15 (tX9_entryMan hS).2.1 (vp_of hg (tX9_entryMan hS).2.2) (a1.toNatClampNeg) rfl ?_
  refine ww_istore C dX9_isWrong_16 (by decide) rfl [.ref m, .int a1, .int a2, .int ((6 : Int32) * (h.1 (m + 42) (a1.toNatClampNeg))), .int (h.1 (m + 43) (a1.toNatClampNeg)), .retAddr 0] rfl ?_
  refine ww_iload_n C dX9_isWrong_18 2 rfl rfl ?_
  refine ww_if_eq C dX9_isWrong_19 54 rfl (fun hc => ?_) (fun hc => ?_)
  · rw [if_pos hc] at H
    refine ww_aload_n C dX9_isWrong_54 0 rfl rfl ?_
    refine wk_getR C dX9_isWrong_55 fl_X9_118 hS.1 rfl (tX9_kept hS).1 ?_
    refine ww_iload_n C dX9_isWrong_58 3 rfl rfl ?_
    refine ww_iconst (v := (2 : Int32)) C dX9_isWrong_59 (by decide) ?_
    refine ww_iadd C dX9_isWrong_60 ?_
    obtain ⟨hg, H⟩ := gd_of H
    refine wk_iaload C dX9_isWrong_61 (tX9_kept hS).2.1 (vp_of hg (tX9_kept hS).2.2) ((((6 : Int32) * (h.1 (m + 42) (a1.toNatClampNeg))) + (2 : Int32)).toNatClampNeg) rfl ?_
    refine ww_iload C dX9_isWrong_62 rfl ?_
    refine ww_ishr C dX9_isWrong_64 ?_
    refine ww_iconst (v := (1 : Int32)) C dX9_isWrong_65 (by decide) ?_
    refine ww_iand C dX9_isWrong_66 ?_
    refine ww_iconst (v := (1 : Int32)) C dX9_isWrong_67 (by decide) ?_
    refine ww_icmp_ne C dX9_isWrong_68 75 rfl (fun hc => ?_) (fun hc => ?_)
    · rw [if_neg hc] at H
      refine ww_aload_n C dX9_isWrong_75 0 rfl rfl ?_
      refine wk_getR C dX9_isWrong_76 fl_X9_118 hS.1 rfl (tX9_kept hS).1 ?_
      refine ww_iload_n C dX9_isWrong_79 3 rfl rfl ?_
      refine ww_iconst (v := (3 : Int32)) C dX9_isWrong_80 (by decide) ?_
      refine ww_iadd C dX9_isWrong_81 ?_
      obtain ⟨hg, H⟩ := gd_of H
      refine wk_iaload C dX9_isWrong_82 (tX9_kept hS).2.1 (vp_of hg (tX9_kept hS).2.2) ((((6 : Int32) * (h.1 (m + 42) (a1.toNatClampNeg))) + (3 : Int32)).toNatClampNeg) rfl ?_
      refine ww_iload C dX9_isWrong_83 rfl ?_
      refine ww_ishr C dX9_isWrong_85 ?_
      refine ww_iconst (v := (1 : Int32)) C dX9_isWrong_86 (by decide) ?_
      refine ww_iand C dX9_isWrong_87 ?_
      refine ww_iconst (v := (1 : Int32)) C dX9_isWrong_88 (by decide) ?_
      refine ww_icmp_ne C dX9_isWrong_89 96 rfl (fun hc => ?_) (fun hc => ?_)
      · rw [if_neg hc] at H
        refine ww_iconst (v := (0 : Int32)) C dX9_isWrong_96 (by decide) ?_
        exact ww_drop [.ref m, .int a1, .retAddr 0, .retAddr 0, .retAddr 0, .retAddr 0] (sl_e (sl_e (sl_d (sl_d (sl_d (sl_e sl_n)))))) (cX9_isWrong_97 hS C hZ E H)
      · rw [if_pos hc] at H
        refine ww_iconst (v := (-1 : Int32)) C dX9_isWrong_92 (by decide) ?_
        refine ww_goto C dX9_isWrong_93 97 rfl ?_
        exact ww_drop [.ref m, .int a1, .retAddr 0, .retAddr 0, .retAddr 0, .retAddr 0] (sl_e (sl_e (sl_d (sl_d (sl_d (sl_e sl_n)))))) (cX9_isWrong_97 hS C hZ E H)
    · rw [if_pos hc] at H
      refine ww_iconst (v := (1 : Int32)) C dX9_isWrong_71 (by decide) ?_
      refine ww_goto C dX9_isWrong_72 97 rfl ?_
      exact ww_drop [.ref m, .int a1, .retAddr 0, .retAddr 0, .retAddr 0, .retAddr 0] (sl_e (sl_e (sl_d (sl_d (sl_d (sl_e sl_n)))))) (cX9_isWrong_97 hS C hZ E H)
  · rw [if_neg hc] at H
    refine ww_aload_n C dX9_isWrong_22 0 rfl rfl ?_
    refine wk_getR C dX9_isWrong_23 fl_X9_146 hS.1 rfl (tX9_entrySaid hS).1 ?_
    refine ww_iload_n C dX9_isWrong_26 1 rfl rfl ?_
    obtain ⟨hg, H⟩ := gd_of H
    refine wk_iaload C dX9_isWrong_27 (tX9_entrySaid hS).2.1 (vp_of hg (tX9_entrySaid hS).2.2) (a1.toNatClampNeg) rfl ?_
    refine ww_if_eq C dX9_isWrong_28 52 rfl (fun hc => ?_) (fun hc => ?_)
    · rw [if_pos hc] at H
      refine ww_iconst (v := (0 : Int32)) C dX9_isWrong_52 (by decide) ?_
      cases H
      exact ww_zret C E dX9_isWrong_53 (Or.inl rfl) ⟨rfl, rfl⟩
    · rw [if_neg hc] at H
      refine ww_aload_n C dX9_isWrong_31 0 rfl rfl ?_
      refine wk_getR C dX9_isWrong_32 fl_X9_118 hS.1 rfl (tX9_kept hS).1 ?_
      refine ww_iload_n C dX9_isWrong_35 3 rfl rfl ?_
      refine ww_iconst (v := (4 : Int32)) C dX9_isWrong_36 (by decide) ?_
      refine ww_iadd C dX9_isWrong_37 ?_
      obtain ⟨hg, H⟩ := gd_of H
      refine wk_iaload C dX9_isWrong_38 (tX9_kept hS).2.1 (vp_of hg (tX9_kept hS).2.2) ((((6 : Int32) * (h.1 (m + 42) (a1.toNatClampNeg))) + (4 : Int32)).toNatClampNeg) rfl ?_
      refine ww_iload C dX9_isWrong_39 rfl ?_
      refine ww_ishr C dX9_isWrong_41 ?_
      refine ww_iconst (v := (1 : Int32)) C dX9_isWrong_42 (by decide) ?_
      refine ww_iand C dX9_isWrong_43 ?_
      refine ww_iconst (v := (1 : Int32)) C dX9_isWrong_44 (by decide) ?_
      refine ww_icmp_ne C dX9_isWrong_45 52 rfl (fun hc => ?_) (fun hc => ?_)
      · rw [if_neg hc] at H
        refine ww_iconst (v := (0 : Int32)) C dX9_isWrong_52 (by decide) ?_
        cases H
        exact ww_zret C E dX9_isWrong_53 (Or.inl rfl) ⟨rfl, rfl⟩
      · rw [if_pos hc] at H
        refine ww_iconst (v := (1 : Int32)) C dX9_isWrong_48 (by decide) ?_
        refine ww_goto C dX9_isWrong_49 53 rfl ?_
        cases H
        exact ww_zret C E dX9_isWrong_53 (Or.inr rfl) ⟨rfl, rfl⟩
