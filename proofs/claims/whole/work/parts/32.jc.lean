def fX0_clear (o : Nat) (h : HI) : Option (HI) := some (uI h o 5 (0 : Int32))
set_option maxRecDepth 100000 in
set_option maxHeartbeats 4000000 in
theorem ccX0_clear {l : Launch} {sh : Sh} {adr : Nat → Nat} {r : Nat → Nat → Option Nat} {o : Nat} (hS : BS sh r o) {h : HI}  {p : HI} (H : fX0_clear o h = some p) : CC l yX0_clear cX0_clear 1 none 0 [.ref o] sh adr (mk h r) (fun v τ => v = none ∧ τ = mk p r) := by
  refine CC.of (by decide) (Nat.le_of_ble_eq_true rfl) 0 [.ref o] rfl (fun X _ C E hZ => ?_)
  rw [fX0_clear] at H
  refine ww_aload_n C dX0_clear_0 0 rfl rfl ?_
  refine ww_iconst (v := (0 : Int32)) C dX0_clear_1 (by decide) ?_
  refine wk_putI C dX0_clear_2 fl_X0_27 hS.1 rfl rfl ?_
  cases H
  exact ww_vret C E dX0_clear_5 ⟨rfl, rfl⟩
def fX0_tell (o : Nat) (h : HI) (a1 : Int32) (a2 : Int32) (a3 : Int32) : Option (Int32 × HI) := (if a1 < 0 then some ((-1 : Int32), h) else (if (100 : Int32) ≤ a1 then some ((-1 : Int32), h) else (if a3 < (-1 : Int32) then some ((-1 : Int32), h) else (if (1 : Int32) < a3 then some ((-1 : Int32), h) else (if (h.1 o 5) < (40 : Int32) then (if inB (h.1 o 5) 40 then (if inB (h.1 o 5) 40 then (if inB (h.1 o 5) 40 then (if inB (h.1 o 5) 40 then (if inB (h.1 o 5) 40 then some ((((h.1 o 5) + (1 : Int32)) - (1 : Int32)), (uI (uI (uI (uI (uI (uI h (o + 1) ((h.1 o 5).toNatClampNeg) a1) (o + 2) ((h.1 o 5).toNatClampNeg) a2) (o + 3) ((h.1 o 5).toNatClampNeg) a3) (o + 4) ((h.1 o 5).toNatClampNeg) (h.1 o 6)) (o + 5) ((h.1 o 5).toNatClampNeg) (-1 : Int32)) o 5 ((h.1 o 5) + (1 : Int32)))) else none) else none) else none) else none) else none) else some ((-1 : Int32), h))))))
set_option maxRecDepth 100000 in
set_option maxHeartbeats 4000000 in
theorem ccX0_tell {l : Launch} {sh : Sh} {adr : Nat → Nat} {r : Nat → Nat → Option Nat} {o : Nat} (hS : BS sh r o) {h : HI} {a1 : Int32} {a2 : Int32} {a3 : Int32} {p : Int32 × HI} (H : fX0_tell o h a1 a2 a3 = some p) : CC l yX0_tell cX0_tell 4 (some .int) 0 [.ref o, .int a1, .int a2, .int a3] sh adr (mk h r) (fun v τ => v = some (.int p.1) ∧ τ = mk p.2 r) := by
  refine CC.of (by decide) (Nat.le_of_ble_eq_true rfl) 0 [.ref o, .int a1, .int a2, .int a3] rfl (fun X _ C E hZ => ?_)
  rw [fX0_tell] at H
  refine ww_iload_n C dX0_tell_0 1 rfl rfl ?_
  refine ww_if_lt C dX0_tell_1 29 rfl (fun hc => ?_) (fun hc => ?_)
  · rw [if_pos hc] at H
    refine ww_iconst (v := (-1 : Int32)) C dX0_tell_29 (by decide) ?_
    cases H
    exact ww_iret C E dX0_tell_30 ⟨rfl, rfl⟩
  · rw [if_neg hc] at H
    refine ww_iload_n C dX0_tell_4 1 rfl rfl ?_
    refine ww_bipush (v := (100 : Int32)) C dX0_tell_5 (by decide) ?_
    refine ww_icmp_ge C dX0_tell_7 29 rfl (fun hc => ?_) (fun hc => ?_)
    · rw [if_pos hc] at H
      refine ww_iconst (v := (-1 : Int32)) C dX0_tell_29 (by decide) ?_
      cases H
      exact ww_iret C E dX0_tell_30 ⟨rfl, rfl⟩
    · rw [if_neg hc] at H
      refine ww_iload_n C dX0_tell_10 3 rfl rfl ?_
      refine ww_iconst (v := (-1 : Int32)) C dX0_tell_11 (by decide) ?_
      refine ww_icmp_lt C dX0_tell_12 29 rfl (fun hc => ?_) (fun hc => ?_)
      · rw [if_pos hc] at H
        refine ww_iconst (v := (-1 : Int32)) C dX0_tell_29 (by decide) ?_
        cases H
        exact ww_iret C E dX0_tell_30 ⟨rfl, rfl⟩
      · rw [if_neg hc] at H
        refine ww_iload_n C dX0_tell_15 3 rfl rfl ?_
        refine ww_iconst (v := (1 : Int32)) C dX0_tell_16 (by decide) ?_
        refine ww_icmp_gt C dX0_tell_17 29 rfl (fun hc => ?_) (fun hc => ?_)
        · rw [if_pos hc] at H
          refine ww_iconst (v := (-1 : Int32)) C dX0_tell_29 (by decide) ?_
          cases H
          exact ww_iret C E dX0_tell_30 ⟨rfl, rfl⟩
        · rw [if_neg hc] at H
          refine ww_aload_n C dX0_tell_20 0 rfl rfl ?_
          refine wk_getI C dX0_tell_21 fl_X0_27 hS.1 rfl ?_
          refine ww_bipush (v := (40 : Int32)) C dX0_tell_24 (by decide) ?_
          refine ww_icmp_lt C dX0_tell_26 31 rfl (fun hc => ?_) (fun hc => ?_)
          · rw [if_pos hc] at H
            refine ww_aload_n C dX0_tell_31 0 rfl rfl ?_
            refine wk_getR C dX0_tell_32 fl_X0_11 hS.1 rfl (tX0_votes hS).1 ?_
            refine ww_aload_n C dX0_tell_35 0 rfl rfl ?_
            refine wk_getI C dX0_tell_36 fl_X0_27 hS.1 rfl ?_
            refine ww_iload_n C dX0_tell_39 1 rfl rfl ?_
            obtain ⟨hg, H⟩ := gd_of H
            refine wk_iastore C dX0_tell_40 (tX0_votes hS).2.1 (vp_of hg (tX0_votes hS).2.2) ((h.1 o 5).toNatClampNeg) rfl ?_
            refine ww_aload_n C dX0_tell_41 0 rfl rfl ?_
            refine wk_getR C dX0_tell_42 fl_X0_15 hS.1 rfl (tX0_men hS).1 ?_
            refine ww_aload_n C dX0_tell_45 0 rfl rfl ?_
            refine wk_getI C dX0_tell_46 fl_X0_27 hS.1 rfl ?_
            refine ww_as (v := (h.1 o 5)) (by rw [uI_n (by omega)]) ?_
            refine ww_iload_n C dX0_tell_49 2 rfl rfl ?_
            obtain ⟨hg, H⟩ := gd_of H
            refine wk_iastore C dX0_tell_50 (tX0_men hS).2.1 (vp_of hg (tX0_men hS).2.2) ((h.1 o 5).toNatClampNeg) rfl ?_
            refine ww_aload_n C dX0_tell_51 0 rfl rfl ?_
            refine wk_getR C dX0_tell_52 fl_X0_18 hS.1 rfl (tX0_words hS).1 ?_
            refine ww_aload_n C dX0_tell_55 0 rfl rfl ?_
            refine wk_getI C dX0_tell_56 fl_X0_27 hS.1 rfl ?_
            refine ww_as (v := (h.1 o 5)) (by rw [uI_n (by omega), uI_n (by omega)]) ?_
            refine ww_iload_n C dX0_tell_59 3 rfl rfl ?_
            obtain ⟨hg, H⟩ := gd_of H
            refine wk_iastore C dX0_tell_60 (tX0_words hS).2.1 (vp_of hg (tX0_words hS).2.2) ((h.1 o 5).toNatClampNeg) rfl ?_
            refine ww_aload_n C dX0_tell_61 0 rfl rfl ?_
            refine wk_getR C dX0_tell_62 fl_X0_21 hS.1 rfl (tX0_toldAt hS).1 ?_
            refine ww_aload_n C dX0_tell_65 0 rfl rfl ?_
            refine wk_getI C dX0_tell_66 fl_X0_27 hS.1 rfl ?_
            refine ww_as (v := (h.1 o 5)) (by rw [uI_n (by omega), uI_n (by omega), uI_n (by omega)]) ?_
            refine ww_aload_n C dX0_tell_69 0 rfl rfl ?_
            refine wk_getI C dX0_tell_70 fl_X0_31 hS.1 rfl ?_
            refine ww_as (v := (h.1 o 6)) (by rw [uI_n (by omega), uI_n (by omega), uI_n (by omega)]) ?_
            obtain ⟨hg, H⟩ := gd_of H
            refine wk_iastore C dX0_tell_73 (tX0_toldAt hS).2.1 (vp_of hg (tX0_toldAt hS).2.2) ((h.1 o 5).toNatClampNeg) rfl ?_
            refine ww_aload_n C dX0_tell_74 0 rfl rfl ?_
            refine wk_getR C dX0_tell_75 fl_X0_24 hS.1 rfl (tX0_untoldAt hS).1 ?_
            refine ww_aload_n C dX0_tell_78 0 rfl rfl ?_
            refine wk_getI C dX0_tell_79 fl_X0_27 hS.1 rfl ?_
            refine ww_as (v := (h.1 o 5)) (by rw [uI_n (by omega), uI_n (by omega), uI_n (by omega), uI_n (by omega)]) ?_
            refine ww_iconst (v := (-1 : Int32)) C dX0_tell_82 (by decide) ?_
            obtain ⟨hg, H⟩ := gd_of H
            refine wk_iastore C dX0_tell_83 (tX0_untoldAt hS).2.1 (vp_of hg (tX0_untoldAt hS).2.2) ((h.1 o 5).toNatClampNeg) rfl ?_
            refine ww_aload_n C dX0_tell_84 0 rfl rfl ?_
            refine ww_dup C dX0_tell_85 rfl ?_
            refine wk_getI C dX0_tell_86 fl_X0_27 hS.1 rfl ?_
            refine ww_as (v := (h.1 o 5)) (by rw [uI_n (by omega), uI_n (by omega), uI_n (by omega), uI_n (by omega), uI_n (by omega)]) ?_
            refine ww_iconst (v := (1 : Int32)) C dX0_tell_89 (by decide) ?_
            refine ww_iadd C dX0_tell_90 ?_
            refine wk_putI C dX0_tell_91 fl_X0_27 hS.1 rfl rfl ?_
            refine ww_aload_n C dX0_tell_94 0 rfl rfl ?_
            refine wk_getI C dX0_tell_95 fl_X0_27 hS.1 rfl ?_
            refine ww_as (v := ((h.1 o 5) + (1 : Int32))) (by rw [uI_s]) ?_
            refine ww_iconst (v := (1 : Int32)) C dX0_tell_98 (by decide) ?_
            refine ww_isub C dX0_tell_99 ?_
            cases H
            exact ww_iret C E dX0_tell_100 ⟨rfl, rfl⟩
          · rw [if_neg hc] at H
            refine ww_iconst (v := (-1 : Int32)) C dX0_tell_29 (by decide) ?_
            cases H
            exact ww_iret C E dX0_tell_30 ⟨rfl, rfl⟩
def fX0_takeBack (o : Nat) (h : HI) (a1 : Int32) : Option (Int32 × HI) := (if a1 < 0 then some ((0 : Int32), h) else (if (h.1 o 5) ≤ a1 then some ((0 : Int32), h) else (if (40 : Int32) ≤ a1 then some ((0 : Int32), h) else (if inB a1 40 then (if (h.1 (o + 5) (a1.toNatClampNeg)) = (-1 : Int32) then (if inB a1 40 then some ((1 : Int32), (uI h (o + 5) (a1.toNatClampNeg) (h.1 o 6))) else none) else some ((0 : Int32), h)) else none))))
set_option maxRecDepth 100000 in
set_option maxHeartbeats 4000000 in
theorem ccX0_takeBack {l : Launch} {sh : Sh} {adr : Nat → Nat} {r : Nat → Nat → Option Nat} {o : Nat} (hS : BS sh r o) {h : HI} {a1 : Int32} {p : Int32 × HI} (H : fX0_takeBack o h a1 = some p) : CC l yX0_takeBack cX0_takeBack 2 (some .boolean) 0 [.ref o, .int a1] sh adr (mk h r) (fun v τ => v = some (.int p.1) ∧ τ = mk p.2 r) := by
  refine CC.of (by decide) (Nat.le_of_ble_eq_true rfl) 0 [.ref o, .int a1] rfl (fun X _ C E hZ => ?_)
  rw [fX0_takeBack] at H
  refine ww_iload_n C dX0_takeBack_0 1 rfl rfl ?_
  refine ww_if_lt C dX0_takeBack_1 28 rfl (fun hc => ?_) (fun hc => ?_)
  · rw [if_pos hc] at H
    refine ww_iconst (v := (0 : Int32)) C dX0_takeBack_28 (by decide) ?_
    cases H
    exact ww_zret C E dX0_takeBack_29 (Or.inl rfl) ⟨rfl, rfl⟩
  · rw [if_neg hc] at H
    refine ww_iload_n C dX0_takeBack_4 1 rfl rfl ?_
    refine ww_aload_n C dX0_takeBack_5 0 rfl rfl ?_
    refine wk_getI C dX0_takeBack_6 fl_X0_27 hS.1 rfl ?_
    refine ww_icmp_ge C dX0_takeBack_9 28 rfl (fun hc => ?_) (fun hc => ?_)
    · rw [if_pos hc] at H
      refine ww_iconst (v := (0 : Int32)) C dX0_takeBack_28 (by decide) ?_
      cases H
      exact ww_zret C E dX0_takeBack_29 (Or.inl rfl) ⟨rfl, rfl⟩
    · rw [if_neg hc] at H
      refine ww_iload_n C dX0_takeBack_12 1 rfl rfl ?_
      refine ww_bipush (v := (40 : Int32)) C dX0_takeBack_13 (by decide) ?_
      refine ww_icmp_ge C dX0_takeBack_15 28 rfl (fun hc => ?_) (fun hc => ?_)
      · rw [if_pos hc] at H
        refine ww_iconst (v := (0 : Int32)) C dX0_takeBack_28 (by decide) ?_
        cases H
        exact ww_zret C E dX0_takeBack_29 (Or.inl rfl) ⟨rfl, rfl⟩
      · rw [if_neg hc] at H
        refine ww_aload_n C dX0_takeBack_18 0 rfl rfl ?_
        refine wk_getR C dX0_takeBack_19 fl_X0_24 hS.1 rfl (tX0_untoldAt hS).1 ?_
        refine ww_iload_n C dX0_takeBack_22 1 rfl rfl ?_
        obtain ⟨hg, H⟩ := gd_of H
        refine wk_iaload C dX0_takeBack_23 (tX0_untoldAt hS).2.1 (vp_of hg (tX0_untoldAt hS).2.2) (a1.toNatClampNeg) rfl ?_
        refine ww_iconst (v := (-1 : Int32)) C dX0_takeBack_24 (by decide) ?_
        refine ww_icmp_eq C dX0_takeBack_25 30 rfl (fun hc => ?_) (fun hc => ?_)
        · rw [if_pos hc] at H
          refine ww_aload_n C dX0_takeBack_30 0 rfl rfl ?_
          refine wk_getR C dX0_takeBack_31 fl_X0_24 hS.1 rfl (tX0_untoldAt hS).1 ?_
          refine ww_iload_n C dX0_takeBack_34 1 rfl rfl ?_
          refine ww_aload_n C dX0_takeBack_35 0 rfl rfl ?_
          refine wk_getI C dX0_takeBack_36 fl_X0_31 hS.1 rfl ?_
          obtain ⟨hg, H⟩ := gd_of H
          refine wk_iastore C dX0_takeBack_39 (tX0_untoldAt hS).2.1 (vp_of hg (tX0_untoldAt hS).2.2) (a1.toNatClampNeg) rfl ?_
          refine ww_iconst (v := (1 : Int32)) C dX0_takeBack_40 (by decide) ?_
          cases H
          exact ww_zret C E dX0_takeBack_41 (Or.inr rfl) ⟨rfl, rfl⟩
        · rw [if_neg hc] at H
          refine ww_iconst (v := (0 : Int32)) C dX0_takeBack_28 (by decide) ?_
          cases H
          exact ww_zret C E dX0_takeBack_29 (Or.inl rfl) ⟨rfl, rfl⟩
def fX0_goOn (o : Nat) (h : HI) (a1 : Int32) : Option (Int32 × HI) := (if a1 < 0 then some ((-1 : Int32), h) else (if (1000 : Int32) < a1 then some ((-1 : Int32), h) else (if ((h.1 o 6) + a1) ≤ (100000 : Int32) then some (((h.1 o 6) + a1), (uI h o 6 ((h.1 o 6) + a1))) else some ((-1 : Int32), h))))
set_option maxRecDepth 100000 in
set_option maxHeartbeats 4000000 in
theorem ccX0_goOn {l : Launch} {sh : Sh} {adr : Nat → Nat} {r : Nat → Nat → Option Nat} {o : Nat} (hS : BS sh r o) {h : HI} {a1 : Int32} {p : Int32 × HI} (H : fX0_goOn o h a1 = some p) : CC l yX0_goOn cX0_goOn 2 (some .int) 0 [.ref o, .int a1] sh adr (mk h r) (fun v τ => v = some (.int p.1) ∧ τ = mk p.2 r) := by
  refine CC.of (by decide) (Nat.le_of_ble_eq_true rfl) 0 [.ref o, .int a1] rfl (fun X _ C E hZ => ?_)
  rw [fX0_goOn] at H
  refine ww_iload_n C dX0_goOn_0 1 rfl rfl ?_
  refine ww_if_lt C dX0_goOn_1 22 rfl (fun hc => ?_) (fun hc => ?_)
  · rw [if_pos hc] at H
    refine ww_iconst (v := (-1 : Int32)) C dX0_goOn_22 (by decide) ?_
    cases H
    exact ww_iret C E dX0_goOn_23 ⟨rfl, rfl⟩
  · rw [if_neg hc] at H
    refine ww_iload_n C dX0_goOn_4 1 rfl rfl ?_
    refine ww_sipush (v := (1000 : Int32)) C dX0_goOn_5 (by decide) ?_
    refine ww_icmp_gt C dX0_goOn_8 22 rfl (fun hc => ?_) (fun hc => ?_)
    · rw [if_pos hc] at H
      refine ww_iconst (v := (-1 : Int32)) C dX0_goOn_22 (by decide) ?_
      cases H
      exact ww_iret C E dX0_goOn_23 ⟨rfl, rfl⟩
    · rw [if_neg hc] at H
      refine ww_aload_n C dX0_goOn_11 0 rfl rfl ?_
      refine wk_getI C dX0_goOn_12 fl_X0_31 hS.1 rfl ?_
      refine ww_iload_n C dX0_goOn_15 1 rfl rfl ?_
      refine ww_iadd C dX0_goOn_16 ?_
      refine ww_ldc (v := (100000 : Int32)) C dX0_goOn_17 kc_X0_34 ?_
      refine ww_icmp_le C dX0_goOn_19 24 rfl (fun hc => ?_) (fun hc => ?_)
      · rw [if_pos hc] at H
        refine ww_aload_n C dX0_goOn_24 0 rfl rfl ?_
        refine ww_dup C dX0_goOn_25 rfl ?_
        refine wk_getI C dX0_goOn_26 fl_X0_31 hS.1 rfl ?_
        refine ww_iload_n C dX0_goOn_29 1 rfl rfl ?_
        refine ww_iadd C dX0_goOn_30 ?_
        refine wk_putI C dX0_goOn_31 fl_X0_31 hS.1 rfl rfl ?_
        refine ww_aload_n C dX0_goOn_34 0 rfl rfl ?_
        refine wk_getI C dX0_goOn_35 fl_X0_31 hS.1 rfl ?_
        refine ww_as (v := ((h.1 o 6) + a1)) (by rw [uI_s]) ?_
        cases H
        exact ww_iret C E dX0_goOn_38 ⟨rfl, rfl⟩
      · rw [if_neg hc] at H
        refine ww_iconst (v := (-1 : Int32)) C dX0_goOn_22 (by decide) ?_
        cases H
        exact ww_iret C E dX0_goOn_23 ⟨rfl, rfl⟩
def fX0_isJudged_30 (o : Nat) (a1 : Nat) (h : HI) (v2 : Int32) : Option (Int32 × HI) := (if inB v2 40 then ((fX6_isKept a1 h (h.1 (o + 1) (v2.toNatClampNeg))).bind fun p1 => (if p1.1 = 0 then some ((0 : Int32), p1.2) else some ((1 : Int32), p1.2))) else none)
set_option maxRecDepth 100000 in
set_option maxHeartbeats 4000000 in
theorem cX0_isJudged_30 {X : CT} {sh : Sh} {adr : Nat → Nat} {r : Nat → Nat → Option Nat} {o : Nat} {a1 : Nat} {a1hh : Nat} {p : Int32 × HI} (hS : BS sh r o) (hA1 : SS sh r a1hh a1) (C : CX X yX0_isJudged.cls cX0_isJudged 4 1) (hZ : SZX X adr) (E : RX X (some .boolean) sh adr (fun v τ => v = some (.int p.1) ∧ τ = mk p.2 r)) {h : HI} {v2 : Int32} (H : fX0_isJudged_30 o a1 h v2 = some p) : WW X (sh, adr, 0, 0) 30 [.ref o, .ref a1, .int v2, .retAddr 0] [] (mk h r) := by
  rw [fX0_isJudged_30] at H
  refine ww_aload_n C dX0_isJudged_30 1 rfl rfl ?_
  refine ww_aload_n C dX0_isJudged_31 0 rfl rfl ?_
  refine wk_getR C dX0_isJudged_32 fl_X0_11 hS.1 rfl (tX0_votes hS).1 ?_
  refine ww_iload_n C dX0_isJudged_35 2 rfl rfl ?_
  obtain ⟨hg, H⟩ := gd_of H
  refine wk_iaload C dX0_isJudged_36 (tX0_votes hS).2.1 (vp_of hg (tX0_votes hS).2.2) (v2.toNatClampNeg) rfl ?_
  obtain ⟨p1, hc1, H⟩ := bd_of H
  refine ww_callV C hZ dX0_isJudged_37 cw_X0_52 (ccX6_isKept hA1 hc1) hA1.1 ⟨by decide, rfl⟩ (by decide) rfl rfl (Nat.le_of_ble_eq_true rfl) ⟨Nat.zero_le _, Nat.zero_le _⟩ (fun v τ hp => ?_)
  obtain ⟨rfl, rfl⟩ := hp
  change WW X _ 40 [.ref o, .ref a1, .int v2, .retAddr 0] [.int p1.1] _
  refine ww_if_eq C dX0_isJudged_40 47 rfl (fun hc => ?_) (fun hc => ?_)
  · rw [if_pos hc] at H
    refine ww_iconst (v := (0 : Int32)) C dX0_isJudged_47 (by decide) ?_
    cases H
    exact ww_zret C E dX0_isJudged_48 (Or.inl rfl) ⟨rfl, rfl⟩
  · rw [if_neg hc] at H
    refine ww_iconst (v := (1 : Int32)) C dX0_isJudged_43 (by decide) ?_
    refine ww_goto C dX0_isJudged_44 48 rfl ?_
    cases H
    exact ww_zret C E dX0_isJudged_48 (Or.inr rfl) ⟨rfl, rfl⟩
def fX0_isJudged (o : Nat) (a1 : Nat) (h : HI) (a2 : Int32) (a3 : Int32) : Option (Int32 × HI) := (if inB a2 40 then (if a3 < (h.1 (o + 4) (a2.toNatClampNeg)) then some ((0 : Int32), h) else (if inB a2 40 then (if (h.1 (o + 5) (a2.toNatClampNeg)) = (-1 : Int32) then fX0_isJudged_30 o a1 h a2 else (if inB a2 40 then (if (h.1 (o + 5) (a2.toNatClampNeg)) ≤ a3 then some ((0 : Int32), h) else fX0_isJudged_30 o a1 h a2) else none)) else none)) else none)
set_option maxRecDepth 100000 in
set_option maxHeartbeats 4000000 in
theorem ccX0_isJudged {l : Launch} {sh : Sh} {adr : Nat → Nat} {r : Nat → Nat → Option Nat} {o : Nat} {a1 : Nat} {a1hh : Nat} (hS : BS sh r o) (hA1 : SS sh r a1hh a1) {h : HI} {a2 : Int32} {a3 : Int32} {p : Int32 × HI} (H : fX0_isJudged o a1 h a2 a3 = some p) : CC l yX0_isJudged cX0_isJudged 4 (some .boolean) 1 [.ref o, .ref a1, .int a2, .int a3] sh adr (mk h r) (fun v τ => v = some (.int p.1) ∧ τ = mk p.2 r) := by
  refine CC.of (by decide) (Nat.le_of_ble_eq_true rfl) 0 [.ref o, .ref a1, .int a2, .int a3] rfl (fun X _ C E hZ => ?_)
  rw [fX0_isJudged] at H
  refine ww_aload_n C dX0_isJudged_0 0 rfl rfl ?_
  refine wk_getR C dX0_isJudged_1 fl_X0_21 hS.1 rfl (tX0_toldAt hS).1 ?_
  refine ww_iload_n C dX0_isJudged_4 2 rfl rfl ?_
  obtain ⟨hg, H⟩ := gd_of H
  refine wk_iaload C dX0_isJudged_5 (tX0_toldAt hS).2.1 (vp_of hg (tX0_toldAt hS).2.2) (a2.toNatClampNeg) rfl ?_
  refine ww_iload_n C dX0_isJudged_6 3 rfl rfl ?_
  refine ww_icmp_gt C dX0_isJudged_7 47 rfl (fun hc => ?_) (fun hc => ?_)
  · rw [if_pos hc] at H
    refine ww_iconst (v := (0 : Int32)) C dX0_isJudged_47 (by decide) ?_
    cases H
    exact ww_zret C E dX0_isJudged_48 (Or.inl rfl) ⟨rfl, rfl⟩
  · rw [if_neg hc] at H
    refine ww_aload_n C dX0_isJudged_10 0 rfl rfl ?_
    refine wk_getR C dX0_isJudged_11 fl_X0_24 hS.1 rfl (tX0_untoldAt hS).1 ?_
    refine ww_iload_n C dX0_isJudged_14 2 rfl rfl ?_
    obtain ⟨hg, H⟩ := gd_of H
    refine wk_iaload C dX0_isJudged_15 (tX0_untoldAt hS).2.1 (vp_of hg (tX0_untoldAt hS).2.2) (a2.toNatClampNeg) rfl ?_
    refine ww_iconst (v := (-1 : Int32)) C dX0_isJudged_16 (by decide) ?_
    refine ww_icmp_eq C dX0_isJudged_17 30 rfl (fun hc => ?_) (fun hc => ?_)
    · rw [if_pos hc] at H
      exact ww_drop [.ref o, .ref a1, .int a2, .retAddr 0] (sl_e (sl_e (sl_e (sl_d sl_n)))) (cX0_isJudged_30 hS hA1 C hZ E H)
    · rw [if_neg hc] at H
      refine ww_aload_n C dX0_isJudged_20 0 rfl rfl ?_
      refine wk_getR C dX0_isJudged_21 fl_X0_24 hS.1 rfl (tX0_untoldAt hS).1 ?_
      refine ww_iload_n C dX0_isJudged_24 2 rfl rfl ?_
      obtain ⟨hg, H⟩ := gd_of H
      refine wk_iaload C dX0_isJudged_25 (tX0_untoldAt hS).2.1 (vp_of hg (tX0_untoldAt hS).2.2) (a2.toNatClampNeg) rfl ?_
      refine ww_iload_n C dX0_isJudged_26 3 rfl rfl ?_
      refine ww_icmp_le C dX0_isJudged_27 47 rfl (fun hc => ?_) (fun hc => ?_)
      · rw [if_pos hc] at H
        refine ww_iconst (v := (0 : Int32)) C dX0_isJudged_47 (by decide) ?_
        cases H
        exact ww_zret C E dX0_isJudged_48 (Or.inl rfl) ⟨rfl, rfl⟩
      · rw [if_neg hc] at H
        exact ww_drop [.ref o, .ref a1, .int a2, .retAddr 0] (sl_e (sl_e (sl_e (sl_d sl_n)))) (cX0_isJudged_30 hS hA1 C hZ E H)
def fX0_isFalse (o : Nat) (a1 : Nat) (h : HI) (a2 : Int32) (a3 : Int32) : Option (Int32 × HI) := ((fX0_isJudged o a1 h a2 a3).bind fun p1 => (if p1.1 = 0 then some ((0 : Int32), p1.2) else (if inB a2 40 then (if inB a2 40 then ((fX6_saidIn a1 p1.2 (p1.2.1 (o + 1) (a2.toNatClampNeg)) (p1.2.1 (o + 2) (a2.toNatClampNeg))).bind fun p2 => (if inB a2 40 then (if p2.1 = (p2.2.1 (o + 3) (a2.toNatClampNeg)) then some ((0 : Int32), p2.2) else some ((1 : Int32), p2.2)) else none)) else none) else none)))
set_option maxRecDepth 100000 in
set_option maxHeartbeats 4000000 in
theorem ccX0_isFalse {l : Launch} {sh : Sh} {adr : Nat → Nat} {r : Nat → Nat → Option Nat} {o : Nat} {a1 : Nat} {a1hh : Nat} (hS : BS sh r o) (hA1 : SS sh r a1hh a1) {h : HI} {a2 : Int32} {a3 : Int32} {p : Int32 × HI} (H : fX0_isFalse o a1 h a2 a3 = some p) : CC l yX0_isFalse cX0_isFalse 4 (some .boolean) 3 [.ref o, .ref a1, .int a2, .int a3] sh adr (mk h r) (fun v τ => v = some (.int p.1) ∧ τ = mk p.2 r) := by
  refine CC.of (by decide) (Nat.le_of_ble_eq_true rfl) 0 [.ref o, .ref a1, .int a2, .int a3] rfl (fun X _ C E hZ => ?_)
  rw [fX0_isFalse] at H
  refine ww_aload_n C dX0_isFalse_0 0 rfl rfl ?_
  refine ww_aload_n C dX0_isFalse_1 1 rfl rfl ?_
  refine ww_iload_n C dX0_isFalse_2 2 rfl rfl ?_
  refine ww_iload_n C dX0_isFalse_3 3 rfl rfl ?_
  obtain ⟨p1, hc1, H⟩ := bd_of H
  refine ww_callV C hZ dX0_isFalse_4 cw_X0_39 (ccX0_isJudged hS hA1 hc1) hS.1 ⟨by decide, rfl⟩ (by decide) rfl rfl (Nat.le_of_ble_eq_true rfl) ⟨Nat.zero_le _, Nat.zero_le _⟩ (fun v τ hp => ?_)
  obtain ⟨rfl, rfl⟩ := hp
  change WW X _ 7 [.ref o, .ref a1, .int a2, .int a3] [.int p1.1] _
  refine ww_if_eq C dX0_isFalse_7 39 rfl (fun hc => ?_) (fun hc => ?_)
  · rw [if_pos hc] at H
    refine ww_iconst (v := (0 : Int32)) C dX0_isFalse_39 (by decide) ?_
    cases H
    exact ww_zret C E dX0_isFalse_40 (Or.inl rfl) ⟨rfl, rfl⟩
  · rw [if_neg hc] at H
    refine ww_aload_n C dX0_isFalse_10 1 rfl rfl ?_
    refine ww_aload_n C dX0_isFalse_11 0 rfl rfl ?_
    refine wk_getR C dX0_isFalse_12 fl_X0_11 hS.1 rfl (tX0_votes hS).1 ?_
    refine ww_iload_n C dX0_isFalse_15 2 rfl rfl ?_
    obtain ⟨hg, H⟩ := gd_of H
    refine wk_iaload C dX0_isFalse_16 (tX0_votes hS).2.1 (vp_of hg (tX0_votes hS).2.2) (a2.toNatClampNeg) rfl ?_
    refine ww_aload_n C dX0_isFalse_17 0 rfl rfl ?_
    refine wk_getR C dX0_isFalse_18 fl_X0_15 hS.1 rfl (tX0_men hS).1 ?_
    refine ww_iload_n C dX0_isFalse_21 2 rfl rfl ?_
    obtain ⟨hg, H⟩ := gd_of H
    refine wk_iaload C dX0_isFalse_22 (tX0_men hS).2.1 (vp_of hg (tX0_men hS).2.2) (a2.toNatClampNeg) rfl ?_
    obtain ⟨p2, hc1, H⟩ := bd_of H
    refine ww_callV C hZ dX0_isFalse_23 cw_X0_48 (ccX6_saidIn hA1 hc1) hA1.1 ⟨by decide, rfl⟩ (by decide) rfl rfl (Nat.le_of_ble_eq_true rfl) ⟨Nat.zero_le _, Nat.zero_le _⟩ (fun v τ hp => ?_)
    obtain ⟨rfl, rfl⟩ := hp
    change WW X _ 26 [.ref o, .ref a1, .int a2, .int a3] [.int p2.1] _
    refine ww_aload_n C dX0_isFalse_26 0 rfl rfl ?_
    refine wk_getR C dX0_isFalse_27 fl_X0_18 hS.1 rfl (tX0_words hS).1 ?_
    refine ww_iload_n C dX0_isFalse_30 2 rfl rfl ?_
    obtain ⟨hg, H⟩ := gd_of H
    refine wk_iaload C dX0_isFalse_31 (tX0_words hS).2.1 (vp_of hg (tX0_words hS).2.2) (a2.toNatClampNeg) rfl ?_
    refine ww_icmp_eq C dX0_isFalse_32 39 rfl (fun hc => ?_) (fun hc => ?_)
    · rw [if_pos hc] at H
      refine ww_iconst (v := (0 : Int32)) C dX0_isFalse_39 (by decide) ?_
      cases H
      exact ww_zret C E dX0_isFalse_40 (Or.inl rfl) ⟨rfl, rfl⟩
    · rw [if_neg hc] at H
      refine ww_iconst (v := (1 : Int32)) C dX0_isFalse_35 (by decide) ?_
      refine ww_goto C dX0_isFalse_36 40 rfl ?_
      cases H
      exact ww_zret C E dX0_isFalse_40 (Or.inr rfl) ⟨rfl, rfl⟩
def fX0_countFalse_28 (o : Nat) (a1 : Nat) (k : HI → Int32 → Option (Int32 × HI)) (kb : HI → Int32 → Int32 → Int32 → Option (Int32 × HI)) (h : HI) (v2 : Int32) (v3 : Int32) (v4 : Int32) : Option (Int32 × HI) := kb h v2 v3 (v4 + (1 : Int32))
set_option maxRecDepth 100000 in
set_option maxHeartbeats 4000000 in
theorem cX0_countFalse_28 {X : CT} {sh : Sh} {adr : Nat → Nat} {r : Nat → Nat → Option Nat} {o : Nat} {a1 : Nat} {a1hh : Nat} {p : Int32 × HI} (hS : BS sh r o) (hA1 : SS sh r a1hh a1) (C : CX X yX0_countFalse.cls cX0_countFalse 5 4) (hZ : SZX X adr) (E : RX X (some .int) sh adr (fun v τ => v = some (.int p.1) ∧ τ = mk p.2 r)) {k : HI → Int32 → Option (Int32 × HI)} {kb : HI → Int32 → Int32 → Int32 → Option (Int32 × HI)} (hk : ∀ (h : HI) (v3 : Int32), k h v3 = some p → WW X (sh, adr, 0, 0) 34 [.ref o, .ref a1, .retAddr 0, .int v3, .retAddr 0] [] (mk h r)) (hb : ∀ (h : HI) (v2 : Int32) (v3 : Int32) (v4 : Int32), kb h v2 v3 v4 = some p → WW X (sh, adr, 0, 0) 5 [.ref o, .ref a1, .int v2, .int v3, .int v4] [] (mk h r)) {h : HI} {v2 : Int32} {v3 : Int32} {v4 : Int32} (H : fX0_countFalse_28 o a1 k kb h v2 v3 v4 = some p) : WW X (sh, adr, 0, 0) 28 [.ref o, .ref a1, .int v2, .int v3, .int v4] [] (mk h r) := by
  rw [fX0_countFalse_28] at H
  refine ww_iinc (v := (v4 + (1 : Int32))) C dX0_countFalse_28 rfl rfl (by decide) rfl [.ref o, .ref a1, .int v2, .int v3, .int (v4 + (1 : Int32))] rfl ?_
  refine ww_goto C dX0_countFalse_31 5 rfl ?_
  exact hb h v2 v3 (v4 + (1 : Int32)) H
def fX0_countFalse_5 (o : Nat) (a1 : Nat) (k : HI → Int32 → Option (Int32 × HI)) : Nat → HI → Int32 → Int32 → Int32 → Option (Int32 × HI)
  | 0, _, _, _, _ => none
  | n + 1, h, v2, v3, v4 => (if (h.1 o 5) ≤ v4 then k h v3 else ((fX0_isFalse o a1 h v4 v2).bind fun p1 => (if p1.1 = 0 then fX0_countFalse_28 o a1 (k) (fX0_countFalse_5 o a1 k n) p1.2 v2 v3 v4 else fX0_countFalse_28 o a1 (k) (fX0_countFalse_5 o a1 k n) p1.2 v2 (v3 + (1 : Int32)) v4)))
set_option maxRecDepth 100000 in
set_option maxHeartbeats 4000000 in
theorem cX0_countFalse_5 {X : CT} {sh : Sh} {adr : Nat → Nat} {r : Nat → Nat → Option Nat} {o : Nat} {a1 : Nat} {a1hh : Nat} {p : Int32 × HI} (hS : BS sh r o) (hA1 : SS sh r a1hh a1) (C : CX X yX0_countFalse.cls cX0_countFalse 5 4) (hZ : SZX X adr) (E : RX X (some .int) sh adr (fun v τ => v = some (.int p.1) ∧ τ = mk p.2 r)) {k : HI → Int32 → Option (Int32 × HI)} (hk : ∀ (h : HI) (v3 : Int32), k h v3 = some p → WW X (sh, adr, 0, 0) 34 [.ref o, .ref a1, .retAddr 0, .int v3, .retAddr 0] [] (mk h r)) : ∀ (n : Nat) (h : HI) (v2 : Int32) (v3 : Int32) (v4 : Int32), fX0_countFalse_5 o a1 k n h v2 v3 v4 = some p → WW X (sh, adr, 0, 0) 5 [.ref o, .ref a1, .int v2, .int v3, .int v4] [] (mk h r) := by
  intro n
  induction n with
  | zero =>
    intro h v2 v3 v4 H
    rw [fX0_countFalse_5] at H
    cases H
  | succ n ih =>
    intro h v2 v3 v4 H
    rw [fX0_countFalse_5] at H
    refine ww_iload C dX0_countFalse_5 rfl ?_
    refine ww_aload_n C dX0_countFalse_7 0 rfl rfl ?_
    refine wk_getI C dX0_countFalse_8 fl_X0_27 hS.1 rfl ?_
    refine ww_icmp_ge C dX0_countFalse_11 34 rfl (fun hc => ?_) (fun hc => ?_)
    · rw [if_pos hc] at H
      exact ww_drop [.ref o, .ref a1, .retAddr 0, .int v3, .retAddr 0] (sl_e (sl_e (sl_d (sl_e (sl_d sl_n))))) (hk h v3 H)
    · rw [if_neg hc] at H
      refine ww_aload_n C dX0_countFalse_14 0 rfl rfl ?_
      refine ww_aload_n C dX0_countFalse_15 1 rfl rfl ?_
      refine ww_iload C dX0_countFalse_16 rfl ?_
      refine ww_iload_n C dX0_countFalse_18 2 rfl rfl ?_
      obtain ⟨p1, hc1, H⟩ := bd_of H
      refine ww_callV C hZ dX0_countFalse_19 cw_X0_35 (ccX0_isFalse hS hA1 hc1) hS.1 ⟨by decide, rfl⟩ (by decide) rfl rfl (Nat.le_of_ble_eq_true rfl) ⟨Nat.zero_le _, Nat.zero_le _⟩ (fun v τ hp => ?_)
      obtain ⟨rfl, rfl⟩ := hp
      change WW X _ 22 [.ref o, .ref a1, .int v2, .int v3, .int v4] [.int p1.1] _
      refine ww_if_eq C dX0_countFalse_22 28 rfl (fun hc => ?_) (fun hc => ?_)
      · rw [if_pos hc] at H
        exact cX0_countFalse_28 hS hA1 C hZ E hk ih H
      · rw [if_neg hc] at H
        refine ww_iinc (v := (v3 + (1 : Int32))) C dX0_countFalse_25 rfl rfl (by decide) rfl [.ref o, .ref a1, .int v2, .int (v3 + (1 : Int32)), .int v4] rfl ?_
        exact cX0_countFalse_28 hS hA1 C hZ E hk ih H
def fX0_countFalse (o : Nat) (a1 : Nat) (h : HI) (a2 : Int32) : Option (Int32 × HI) := fX0_countFalse_5 o a1 (fun h3 v3 => some (v3, h3)) FU h a2 (0 : Int32) (0 : Int32)
set_option maxRecDepth 100000 in
set_option maxHeartbeats 4000000 in
theorem ccX0_countFalse {l : Launch} {sh : Sh} {adr : Nat → Nat} {r : Nat → Nat → Option Nat} {o : Nat} {a1 : Nat} {a1hh : Nat} (hS : BS sh r o) (hA1 : SS sh r a1hh a1) {h : HI} {a2 : Int32} {p : Int32 × HI} (H : fX0_countFalse o a1 h a2 = some p) : CC l yX0_countFalse cX0_countFalse 5 (some .int) 4 [.ref o, .ref a1, .int a2] sh adr (mk h r) (fun v τ => v = some (.int p.1) ∧ τ = mk p.2 r) := by
  refine CC.of (by decide) (Nat.le_of_ble_eq_true rfl) 2 [.ref o, .ref a1, .int a2, .retAddr 0, .retAddr 0] rfl (fun X _ C E hZ => ?_)
  rw [fX0_countFalse] at H
  refine ww_iconst (v := (0 : Int32)) C dX0_countFalse_0 (by decide) ?_
  refine ww_istore_n C dX0_countFalse_1 3 rfl (by decide) rfl [.ref o, .ref a1, .int a2, .int (0 : Int32), .retAddr 0] rfl ?_
  refine ww_iconst (v := (0 : Int32)) C dX0_countFalse_2 (by decide) ?_
  refine ww_istore C dX0_countFalse_3 (by decide) rfl [.ref o, .ref a1, .int a2, .int (0 : Int32), .int (0 : Int32)] rfl ?_
  refine cX0_countFalse_5 hS hA1 C hZ E (fun h3 v3 H => ?_) FU h a2 (0 : Int32) (0 : Int32) H
  refine ww_iload_n C dX0_countFalse_34 3 rfl rfl ?_
  cases H
  exact ww_iret C E dX0_countFalse_35 ⟨rfl, rfl⟩
def fX0_countStood_59 (o : Nat) (a1 : Nat) (k : HI → Int32 → Option (Int32 × HI)) (kb : HI → Int32 → Int32 → Int32 → Option (Int32 × HI)) (h : HI) (v2 : Int32) (v3 : Int32) (v4 : Int32) : Option (Int32 × HI) := kb h v2 v3 (v4 + (1 : Int32))
set_option maxRecDepth 100000 in
set_option maxHeartbeats 4000000 in
theorem cX0_countStood_59 {X : CT} {sh : Sh} {adr : Nat → Nat} {r : Nat → Nat → Option Nat} {o : Nat} {a1 : Nat} {a1hh : Nat} {p : Int32 × HI} (hS : BS sh r o) (hA1 : SS sh r a1hh a1) (C : CX X yX0_countStood.cls cX0_countStood 5 3) (hZ : SZX X adr) (E : RX X (some .int) sh adr (fun v τ => v = some (.int p.1) ∧ τ = mk p.2 r)) {k : HI → Int32 → Option (Int32 × HI)} {kb : HI → Int32 → Int32 → Int32 → Option (Int32 × HI)} (hk : ∀ (h : HI) (v3 : Int32), k h v3 = some p → WW X (sh, adr, 0, 0) 65 [.ref o, .ref a1, .retAddr 0, .int v3, .retAddr 0] [] (mk h r)) (hb : ∀ (h : HI) (v2 : Int32) (v3 : Int32) (v4 : Int32), kb h v2 v3 v4 = some p → WW X (sh, adr, 0, 0) 5 [.ref o, .ref a1, .int v2, .int v3, .int v4] [] (mk h r)) {h : HI} {v2 : Int32} {v3 : Int32} {v4 : Int32} (H : fX0_countStood_59 o a1 k kb h v2 v3 v4 = some p) : WW X (sh, adr, 0, 0) 59 [.ref o, .ref a1, .int v2, .int v3, .int v4] [] (mk h r) := by
  rw [fX0_countStood_59] at H
  refine ww_iinc (v := (v4 + (1 : Int32))) C dX0_countStood_59 rfl rfl (by decide) rfl [.ref o, .ref a1, .int v2, .int v3, .int (v4 + (1 : Int32))] rfl ?_
  refine ww_goto C dX0_countStood_62 5 rfl ?_
  exact hb h v2 v3 (v4 + (1 : Int32)) H
def fX0_countStood_5 (o : Nat) (a1 : Nat) (k : HI → Int32 → Option (Int32 × HI)) : Nat → HI → Int32 → Int32 → Int32 → Option (Int32 × HI)
  | 0, _, _, _, _ => none
  | n + 1, h, v2, v3, v4 => (if (h.1 o 5) ≤ v4 then k h v3 else ((fX0_isJudged o a1 h v4 v2).bind fun p1 => (if p1.1 = 0 then fX0_countStood_59 o a1 (k) (fX0_countStood_5 o a1 k n) p1.2 v2 v3 v4 else (if inB v4 40 then (if (p1.2.1 (o + 3) (v4.toNatClampNeg)) = 0 then fX0_countStood_59 o a1 (k) (fX0_countStood_5 o a1 k n) p1.2 v2 v3 v4 else (if inB v4 40 then (if inB v4 40 then ((fX6_stoodIn a1 p1.2 (p1.2.1 (o + 1) (v4.toNatClampNeg)) (p1.2.1 (o + 2) (v4.toNatClampNeg))).bind fun p2 => (if p2.1 = 0 then fX0_countStood_59 o a1 (k) (fX0_countStood_5 o a1 k n) p2.2 v2 v3 v4 else fX0_countStood_59 o a1 (k) (fX0_countStood_5 o a1 k n) p2.2 v2 (v3 + (1 : Int32)) v4)) else none) else none)) else none))))
set_option maxRecDepth 100000 in
set_option maxHeartbeats 4000000 in
theorem cX0_countStood_5 {X : CT} {sh : Sh} {adr : Nat → Nat} {r : Nat → Nat → Option Nat} {o : Nat} {a1 : Nat} {a1hh : Nat} {p : Int32 × HI} (hS : BS sh r o) (hA1 : SS sh r a1hh a1) (C : CX X yX0_countStood.cls cX0_countStood 5 3) (hZ : SZX X adr) (E : RX X (some .int) sh adr (fun v τ => v = some (.int p.1) ∧ τ = mk p.2 r)) {k : HI → Int32 → Option (Int32 × HI)} (hk : ∀ (h : HI) (v3 : Int32), k h v3 = some p → WW X (sh, adr, 0, 0) 65 [.ref o, .ref a1, .retAddr 0, .int v3, .retAddr 0] [] (mk h r)) : ∀ (n : Nat) (h : HI) (v2 : Int32) (v3 : Int32) (v4 : Int32), fX0_countStood_5 o a1 k n h v2 v3 v4 = some p → WW X (sh, adr, 0, 0) 5 [.ref o, .ref a1, .int v2, .int v3, .int v4] [] (mk h r) := by
  intro n
  induction n with
  | zero =>
    intro h v2 v3 v4 H
    rw [fX0_countStood_5] at H
    cases H
  | succ n ih =>
    intro h v2 v3 v4 H
    rw [fX0_countStood_5] at H
    refine ww_iload C dX0_countStood_5 rfl ?_
    refine ww_aload_n C dX0_countStood_7 0 rfl rfl ?_
    refine wk_getI C dX0_countStood_8 fl_X0_27 hS.1 rfl ?_
    refine ww_icmp_ge C dX0_countStood_11 65 rfl (fun hc => ?_) (fun hc => ?_)
    · rw [if_pos hc] at H
      exact ww_drop [.ref o, .ref a1, .retAddr 0, .int v3, .retAddr 0] (sl_e (sl_e (sl_d (sl_e (sl_d sl_n))))) (hk h v3 H)
    · rw [if_neg hc] at H
      refine ww_aload_n C dX0_countStood_14 0 rfl rfl ?_
      refine ww_aload_n C dX0_countStood_15 1 rfl rfl ?_
      refine ww_iload C dX0_countStood_16 rfl ?_
      refine ww_iload_n C dX0_countStood_18 2 rfl rfl ?_
      obtain ⟨p1, hc1, H⟩ := bd_of H
      refine ww_callV C hZ dX0_countStood_19 cw_X0_39 (ccX0_isJudged hS hA1 hc1) hS.1 ⟨by decide, rfl⟩ (by decide) rfl rfl (Nat.le_of_ble_eq_true rfl) ⟨Nat.zero_le _, Nat.zero_le _⟩ (fun v τ hp => ?_)
      obtain ⟨rfl, rfl⟩ := hp
      change WW X _ 22 [.ref o, .ref a1, .int v2, .int v3, .int v4] [.int p1.1] _
      refine ww_if_eq C dX0_countStood_22 59 rfl (fun hc => ?_) (fun hc => ?_)
      · rw [if_pos hc] at H
        exact cX0_countStood_59 hS hA1 C hZ E hk ih H
      · rw [if_neg hc] at H
        refine ww_aload_n C dX0_countStood_25 0 rfl rfl ?_
        refine wk_getR C dX0_countStood_26 fl_X0_18 hS.1 rfl (tX0_words hS).1 ?_
        refine ww_iload C dX0_countStood_29 rfl ?_
        obtain ⟨hg, H⟩ := gd_of H
        refine wk_iaload C dX0_countStood_31 (tX0_words hS).2.1 (vp_of hg (tX0_words hS).2.2) (v4.toNatClampNeg) rfl ?_
        refine ww_if_eq C dX0_countStood_32 59 rfl (fun hc => ?_) (fun hc => ?_)
        · rw [if_pos hc] at H
          exact cX0_countStood_59 hS hA1 C hZ E hk ih H
        · rw [if_neg hc] at H
          refine ww_aload_n C dX0_countStood_35 1 rfl rfl ?_
          refine ww_aload_n C dX0_countStood_36 0 rfl rfl ?_
          refine wk_getR C dX0_countStood_37 fl_X0_11 hS.1 rfl (tX0_votes hS).1 ?_
          refine ww_iload C dX0_countStood_40 rfl ?_
          obtain ⟨hg, H⟩ := gd_of H
          refine wk_iaload C dX0_countStood_42 (tX0_votes hS).2.1 (vp_of hg (tX0_votes hS).2.2) (v4.toNatClampNeg) rfl ?_
          refine ww_aload_n C dX0_countStood_43 0 rfl rfl ?_
          refine wk_getR C dX0_countStood_44 fl_X0_15 hS.1 rfl (tX0_men hS).1 ?_
          refine ww_iload C dX0_countStood_47 rfl ?_
          obtain ⟨hg, H⟩ := gd_of H
          refine wk_iaload C dX0_countStood_49 (tX0_men hS).2.1 (vp_of hg (tX0_men hS).2.2) (v4.toNatClampNeg) rfl ?_
          obtain ⟨p2, hc1, H⟩ := bd_of H
          refine ww_callV C hZ dX0_countStood_50 cw_X0_42 (ccX6_stoodIn hA1 hc1) hA1.1 ⟨by decide, rfl⟩ (by decide) rfl rfl (Nat.le_of_ble_eq_true rfl) ⟨Nat.zero_le _, Nat.zero_le _⟩ (fun v τ hp => ?_)
          obtain ⟨rfl, rfl⟩ := hp
          change WW X _ 53 [.ref o, .ref a1, .int v2, .int v3, .int v4] [.int p2.1] _
          refine ww_if_eq C dX0_countStood_53 59 rfl (fun hc => ?_) (fun hc => ?_)
          · rw [if_pos hc] at H
            exact cX0_countStood_59 hS hA1 C hZ E hk ih H
          · rw [if_neg hc] at H
            refine ww_iinc (v := (v3 + (1 : Int32))) C dX0_countStood_56 rfl rfl (by decide) rfl [.ref o, .ref a1, .int v2, .int (v3 + (1 : Int32)), .int v4] rfl ?_
            exact cX0_countStood_59 hS hA1 C hZ E hk ih H
def fX0_countStood (o : Nat) (a1 : Nat) (h : HI) (a2 : Int32) : Option (Int32 × HI) := fX0_countStood_5 o a1 (fun h4 v3 => some (v3, h4)) FU h a2 (0 : Int32) (0 : Int32)
set_option maxRecDepth 100000 in
set_option maxHeartbeats 4000000 in
theorem ccX0_countStood {l : Launch} {sh : Sh} {adr : Nat → Nat} {r : Nat → Nat → Option Nat} {o : Nat} {a1 : Nat} {a1hh : Nat} (hS : BS sh r o) (hA1 : SS sh r a1hh a1) {h : HI} {a2 : Int32} {p : Int32 × HI} (H : fX0_countStood o a1 h a2 = some p) : CC l yX0_countStood cX0_countStood 5 (some .int) 3 [.ref o, .ref a1, .int a2] sh adr (mk h r) (fun v τ => v = some (.int p.1) ∧ τ = mk p.2 r) := by
  refine CC.of (by decide) (Nat.le_of_ble_eq_true rfl) 2 [.ref o, .ref a1, .int a2, .retAddr 0, .retAddr 0] rfl (fun X _ C E hZ => ?_)
  rw [fX0_countStood] at H
  refine ww_iconst (v := (0 : Int32)) C dX0_countStood_0 (by decide) ?_
  refine ww_istore_n C dX0_countStood_1 3 rfl (by decide) rfl [.ref o, .ref a1, .int a2, .int (0 : Int32), .retAddr 0] rfl ?_
  refine ww_iconst (v := (0 : Int32)) C dX0_countStood_2 (by decide) ?_
  refine ww_istore C dX0_countStood_3 (by decide) rfl [.ref o, .ref a1, .int a2, .int (0 : Int32), .int (0 : Int32)] rfl ?_
  refine cX0_countStood_5 hS hA1 C hZ E (fun h4 v3 H => ?_) FU h a2 (0 : Int32) (0 : Int32) H
  refine ww_iload_n C dX0_countStood_65 3 rfl rfl ?_
  cases H
  exact ww_iret C E dX0_countStood_66 ⟨rfl, rfl⟩
def fX0_firstFalse_2 (o : Nat) (a1 : Nat) (k : HI → Option (Int32 × HI)) : Nat → HI → Int32 → Int32 → Option (Int32 × HI)
  | 0, _, _, _ => none
  | n + 1, h, v2, v3 => (if (h.1 o 5) ≤ v3 then k h else ((fX0_isFalse o a1 h v3 v2).bind fun p1 => (if p1.1 = 0 then fX0_firstFalse_2 o a1 k n p1.2 v2 (v3 + (1 : Int32)) else some (v3, p1.2))))
set_option maxRecDepth 100000 in
set_option maxHeartbeats 4000000 in
theorem cX0_firstFalse_2 {X : CT} {sh : Sh} {adr : Nat → Nat} {r : Nat → Nat → Option Nat} {o : Nat} {a1 : Nat} {a1hh : Nat} {p : Int32 × HI} (hS : BS sh r o) (hA1 : SS sh r a1hh a1) (C : CX X yX0_firstFalse.cls cX0_firstFalse 4 4) (hZ : SZX X adr) (E : RX X (some .int) sh adr (fun v τ => v = some (.int p.1) ∧ τ = mk p.2 r)) {k : HI → Option (Int32 × HI)} (hk : ∀ (h : HI), k h = some p → WW X (sh, adr, 0, 0) 28 [.ref o, .ref a1, .retAddr 0, .retAddr 0] [] (mk h r)) : ∀ (n : Nat) (h : HI) (v2 : Int32) (v3 : Int32), fX0_firstFalse_2 o a1 k n h v2 v3 = some p → WW X (sh, adr, 0, 0) 2 [.ref o, .ref a1, .int v2, .int v3] [] (mk h r) := by
  intro n
  induction n with
  | zero =>
    intro h v2 v3 H
    rw [fX0_firstFalse_2] at H
    cases H
  | succ n ih =>
    intro h v2 v3 H
    rw [fX0_firstFalse_2] at H
    refine ww_iload_n C dX0_firstFalse_2 3 rfl rfl ?_
    refine ww_aload_n C dX0_firstFalse_3 0 rfl rfl ?_
    refine wk_getI C dX0_firstFalse_4 fl_X0_27 hS.1 rfl ?_
    refine ww_icmp_ge C dX0_firstFalse_7 28 rfl (fun hc => ?_) (fun hc => ?_)
    · rw [if_pos hc] at H
      exact ww_drop [.ref o, .ref a1, .retAddr 0, .retAddr 0] (sl_e (sl_e (sl_d (sl_d sl_n)))) (hk h H)
    · rw [if_neg hc] at H
      refine ww_aload_n C dX0_firstFalse_10 0 rfl rfl ?_
      refine ww_aload_n C dX0_firstFalse_11 1 rfl rfl ?_
      refine ww_iload_n C dX0_firstFalse_12 3 rfl rfl ?_
      refine ww_iload_n C dX0_firstFalse_13 2 rfl rfl ?_
      obtain ⟨p1, hc1, H⟩ := bd_of H
      refine ww_callV C hZ dX0_firstFalse_14 cw_X0_35 (ccX0_isFalse hS hA1 hc1) hS.1 ⟨by decide, rfl⟩ (by decide) rfl rfl (Nat.le_of_ble_eq_true rfl) ⟨Nat.zero_le _, Nat.zero_le _⟩ (fun v τ hp => ?_)
      obtain ⟨rfl, rfl⟩ := hp
      change WW X _ 17 [.ref o, .ref a1, .int v2, .int v3] [.int p1.1] _
      refine ww_if_eq C dX0_firstFalse_17 22 rfl (fun hc => ?_) (fun hc => ?_)
      · rw [if_pos hc] at H
        refine ww_iinc (v := (v3 + (1 : Int32))) C dX0_firstFalse_22 rfl rfl (by decide) rfl [.ref o, .ref a1, .int v2, .int (v3 + (1 : Int32))] rfl ?_
        refine ww_goto C dX0_firstFalse_25 2 rfl ?_
        exact ih p1.2 v2 (v3 + (1 : Int32)) H
      · rw [if_neg hc] at H
        refine ww_iload_n C dX0_firstFalse_20 3 rfl rfl ?_
        cases H
        exact ww_iret C E dX0_firstFalse_21 ⟨rfl, rfl⟩
def fX0_firstFalse (o : Nat) (a1 : Nat) (h : HI) (a2 : Int32) : Option (Int32 × HI) := fX0_firstFalse_2 o a1 (fun h3 => some ((-1 : Int32), h3)) FU h a2 (0 : Int32)
set_option maxRecDepth 100000 in
set_option maxHeartbeats 4000000 in
theorem ccX0_firstFalse {l : Launch} {sh : Sh} {adr : Nat → Nat} {r : Nat → Nat → Option Nat} {o : Nat} {a1 : Nat} {a1hh : Nat} (hS : BS sh r o) (hA1 : SS sh r a1hh a1) {h : HI} {a2 : Int32} {p : Int32 × HI} (H : fX0_firstFalse o a1 h a2 = some p) : CC l yX0_firstFalse cX0_firstFalse 4 (some .int) 4 [.ref o, .ref a1, .int a2] sh adr (mk h r) (fun v τ => v = some (.int p.1) ∧ τ = mk p.2 r) := by
  refine CC.of (by decide) (Nat.le_of_ble_eq_true rfl) 1 [.ref o, .ref a1, .int a2, .retAddr 0] rfl (fun X _ C E hZ => ?_)
  rw [fX0_firstFalse] at H
  refine ww_iconst (v := (0 : Int32)) C dX0_firstFalse_0 (by decide) ?_
  refine ww_istore_n C dX0_firstFalse_1 3 rfl (by decide) rfl [.ref o, .ref a1, .int a2, .int (0 : Int32)] rfl ?_
  refine cX0_firstFalse_2 hS hA1 C hZ E (fun h3 H => ?_) FU h a2 (0 : Int32) H
  refine ww_iconst (v := (-1 : Int32)) C dX0_firstFalse_28 (by decide) ?_
  cases H
  exact ww_iret C E dX0_firstFalse_29 ⟨rfl, rfl⟩
def fX3_fillFitting_44 (o : Nat) (k : HI → Option (HI)) (kb : HI → Int32 → Int32 → Option (HI)) (h : HI) (v1 : Int32) (v2 : Int32) : Option (HI) := kb h v1 (v2 + (1 : Int32))
set_option maxRecDepth 100000 in
set_option maxHeartbeats 4000000 in
theorem cX3_fillFitting_44 {X : CT} {sh : Sh} {adr : Nat → Nat} {r : Nat → Nat → Option Nat} {o : Nat} {hh : Nat} {p : HI} (hS : PS sh r hh o) (C : CX X yX3_fillFitting.cls cX3_fillFitting 3 1) (hZ : SZX X adr) (E : RX X none sh adr (fun v τ => v = none ∧ τ = mk p r)) {k : HI → Option (HI)} {kb : HI → Int32 → Int32 → Option (HI)} (hk : ∀ (h : HI), k h = some p → WW X (sh, adr, 0, 0) 50 [.ref o, .retAddr 0, .retAddr 0] [] (mk h r)) (hb : ∀ (h : HI) (v1 : Int32) (v2 : Int32), kb h v1 v2 = some p → WW X (sh, adr, 0, 0) 7 [.ref o, .int v1, .int v2] [] (mk h r)) {h : HI} {v1 : Int32} {v2 : Int32} (H : fX3_fillFitting_44 o k kb h v1 v2 = some p) : WW X (sh, adr, 0, 0) 44 [.ref o, .int v1, .int v2] [] (mk h r) := by
  rw [fX3_fillFitting_44] at H
  refine ww_iinc (v := (v2 + (1 : Int32))) C dX3_fillFitting_44 rfl rfl (by decide) rfl [.ref o, .int v1, .int (v2 + (1 : Int32))] rfl ?_
  refine ww_goto C dX3_fillFitting_47 7 rfl ?_
  exact hb h v1 (v2 + (1 : Int32)) H
def fX3_fillFitting_7 (o : Nat) (k : HI → Option (HI)) : Nat → HI → Int32 → Int32 → Option (HI)
  | 0, _, _, _ => none
  | n + 1, h, v1, v2 => (if (64 : Int32) ≤ v2 then k h else (if (v2 &&& ((h.1 o 11) ^^^ (-1 : Int32))) = 0 then ((fJ6_bitCount_0f7a4 h v2).bind fun p1 => (if v1 < p1.1 then fX3_fillFitting_44 o (k) (fX3_fillFitting_7 o k n) p1.2 v1 v2 else fX3_fillFitting_44 o (k) (fX3_fillFitting_7 o k n) (uL p1.2 o 12 ((p1.2.2 o 12) ||| ((1 : Int64) <<< (v2.toInt64 &&& 63)))) v1 v2)) else fX3_fillFitting_44 o (k) (fX3_fillFitting_7 o k n) h v1 v2))
set_option maxRecDepth 100000 in
set_option maxHeartbeats 4000000 in
theorem cX3_fillFitting_7 {X : CT} {sh : Sh} {adr : Nat → Nat} {r : Nat → Nat → Option Nat} {o : Nat} {hh : Nat} {p : HI} (hS : PS sh r hh o) (C : CX X yX3_fillFitting.cls cX3_fillFitting 3 1) (hZ : SZX X adr) (E : RX X none sh adr (fun v τ => v = none ∧ τ = mk p r)) {k : HI → Option (HI)} (hk : ∀ (h : HI), k h = some p → WW X (sh, adr, 0, 0) 50 [.ref o, .retAddr 0, .retAddr 0] [] (mk h r)) : ∀ (n : Nat) (h : HI) (v1 : Int32) (v2 : Int32), fX3_fillFitting_7 o k n h v1 v2 = some p → WW X (sh, adr, 0, 0) 7 [.ref o, .int v1, .int v2] [] (mk h r) := by
  intro n
  induction n with
  | zero =>
    intro h v1 v2 H
    rw [fX3_fillFitting_7] at H
    cases H
  | succ n ih =>
    intro h v1 v2 H
    rw [fX3_fillFitting_7] at H
    refine ww_iload_n C dX3_fillFitting_7 2 rfl rfl ?_
    refine ww_bipush (v := (64 : Int32)) C dX3_fillFitting_8 (by decide) ?_
    refine ww_icmp_ge C dX3_fillFitting_10 50 rfl (fun hc => ?_) (fun hc => ?_)
    · rw [if_pos hc] at H
      exact ww_drop [.ref o, .retAddr 0, .retAddr 0] (sl_e (sl_d (sl_d sl_n))) (hk h H)
    · rw [if_neg hc] at H
      refine ww_iload_n C dX3_fillFitting_13 2 rfl rfl ?_
      refine ww_aload_n C dX3_fillFitting_14 0 rfl rfl ?_
      refine wk_getI C dX3_fillFitting_15 fl_X3_45 hS.1 rfl ?_
      refine ww_iconst (v := (-1 : Int32)) C dX3_fillFitting_18 (by decide) ?_
      refine ww_ixor C dX3_fillFitting_19 ?_
      refine ww_iand C dX3_fillFitting_20 ?_
      refine ww_if_ne C dX3_fillFitting_21 44 rfl (fun hc => ?_) (fun hc => ?_)
      · rw [if_neg hc] at H
        exact cX3_fillFitting_44 hS C hZ E hk ih H
      · rw [if_pos hc] at H
        refine ww_iload_n C dX3_fillFitting_24 2 rfl rfl ?_
        obtain ⟨p1, hc1, H⟩ := bd_of H
        refine ww_callS C hZ dX3_fillFitting_25 sw_X3_135 (ccJ6_bitCount_0f7a4 hc1) (by decide) rfl rfl (Nat.le_of_ble_eq_true rfl) ⟨Nat.zero_le _, Nat.zero_le _⟩ (fun v τ hp => ?_)
        obtain ⟨rfl, rfl⟩ := hp
        change WW X _ 28 [.ref o, .int v1, .int v2] [.int p1.1] _
        refine ww_iload_n C dX3_fillFitting_28 1 rfl rfl ?_
        refine ww_icmp_gt C dX3_fillFitting_29 44 rfl (fun hc => ?_) (fun hc => ?_)
        · rw [if_pos hc] at H
          exact cX3_fillFitting_44 hS C hZ E hk ih H
        · rw [if_neg hc] at H
          refine ww_aload_n C dX3_fillFitting_32 0 rfl rfl ?_
          refine ww_dup C dX3_fillFitting_33 rfl ?_
          refine wk_getJ C dX3_fillFitting_34 fl_X3_81 hS.1 rfl ?_
          refine ww_lconst (v := (1 : Int64)) C dX3_fillFitting_37 (by decide) ?_
          refine ww_iload_n C dX3_fillFitting_38 2 rfl rfl ?_
          refine ww_lshl C dX3_fillFitting_39 ?_
          refine ww_lor C dX3_fillFitting_40 ?_
          refine wk_putJ C dX3_fillFitting_41 fl_X3_81 hS.1 rfl rfl ?_
          exact cX3_fillFitting_44 hS C hZ E hk ih H
def fX3_fillFitting (o : Nat) (h : HI) (a1 : Int32) : Option (HI) := fX3_fillFitting_7 o (fun h3 => some h3) FU (uL h o 12 (0 : Int64)) a1 (0 : Int32)
set_option maxRecDepth 100000 in
set_option maxHeartbeats 4000000 in
theorem ccX3_fillFitting {l : Launch} {sh : Sh} {adr : Nat → Nat} {r : Nat → Nat → Option Nat} {o : Nat} {hh : Nat} (hS : PS sh r hh o) {h : HI} {a1 : Int32} {p : HI} (H : fX3_fillFitting o h a1 = some p) : CC l yX3_fillFitting cX3_fillFitting 3 none 1 [.ref o, .int a1] sh adr (mk h r) (fun v τ => v = none ∧ τ = mk p r) := by
  refine CC.of (by decide) (Nat.le_of_ble_eq_true rfl) 1 [.ref o, .int a1, .retAddr 0] rfl (fun X _ C E hZ => ?_)
  rw [fX3_fillFitting] at H
  refine ww_aload_n C dX3_fillFitting_0 0 rfl rfl ?_
  refine ww_lconst (v := (0 : Int64)) C dX3_fillFitting_1 (by decide) ?_
  refine wk_putJ C dX3_fillFitting_2 fl_X3_81 hS.1 rfl rfl ?_
  refine ww_iconst (v := (0 : Int32)) C dX3_fillFitting_5 (by decide) ?_
  refine ww_istore_n C dX3_fillFitting_6 2 rfl (by decide) rfl [.ref o, .int a1, .int (0 : Int32)] rfl ?_
  refine cX3_fillFitting_7 hS C hZ E (fun h3 H => ?_) FU (uL h o 12 (0 : Int64)) a1 (0 : Int32) H
  cases H
  exact ww_vret C E dX3_fillFitting_50 ⟨rfl, rfl⟩
def fX3_dealsOf_31 (o : Nat) (k : HI → Int32 → Option (Int32 × HI)) (kb : HI → Int32 → Int32 → Int32 → Option (Int32 × HI)) (h : HI) (v1 : Int32) (v2 : Int32) (v3 : Int32) : Option (Int32 × HI) := kb h v1 v2 (v3 + (1 : Int32))
set_option maxRecDepth 100000 in
set_option maxHeartbeats 4000000 in
theorem cX3_dealsOf_31 {X : CT} {sh : Sh} {adr : Nat → Nat} {r : Nat → Nat → Option Nat} {o : Nat} {hh : Nat} {p : Int32 × HI} (hS : PS sh r hh o) (C : CX X yX3_dealsOf.cls cX3_dealsOf 4 0) (hZ : SZX X adr) (E : RX X (some .int) sh adr (fun v τ => v = some (.int p.1) ∧ τ = mk p.2 r)) {k : HI → Int32 → Option (Int32 × HI)} {kb : HI → Int32 → Int32 → Int32 → Option (Int32 × HI)} (hk : ∀ (h : HI) (v2 : Int32), k h v2 = some p → WW X (sh, adr, 0, 0) 37 [.ref o, .retAddr 0, .int v2, .retAddr 0] [] (mk h r)) (hb : ∀ (h : HI) (v1 : Int32) (v2 : Int32) (v3 : Int32), kb h v1 v2 v3 = some p → WW X (sh, adr, 0, 0) 4 [.ref o, .int v1, .int v2, .int v3] [] (mk h r)) {h : HI} {v1 : Int32} {v2 : Int32} {v3 : Int32} (H : fX3_dealsOf_31 o k kb h v1 v2 v3 = some p) : WW X (sh, adr, 0, 0) 31 [.ref o, .int v1, .int v2, .int v3] [] (mk h r) := by
  rw [fX3_dealsOf_31] at H
  refine ww_iinc (v := (v3 + (1 : Int32))) C dX3_dealsOf_31 rfl rfl (by decide) rfl [.ref o, .int v1, .int v2, .int (v3 + (1 : Int32))] rfl ?_
  refine ww_goto C dX3_dealsOf_34 4 rfl ?_
  exact hb h v1 v2 (v3 + (1 : Int32)) H
def fX3_dealsOf_4 (o : Nat) (k : HI → Int32 → Option (Int32 × HI)) : Nat → HI → Int32 → Int32 → Int32 → Option (Int32 × HI)
  | 0, _, _, _, _ => none
  | n + 1, h, v1, v2, v3 => (if (h.1 o 10) ≤ v3 then k h v2 else (if ((v1 >>> (v3 &&& 31)) &&& (1 : Int32)) = 0 then fX3_dealsOf_31 o (k) (fX3_dealsOf_4 o k n) h v1 v2 v3 else (if inB v3 4 then fX3_dealsOf_31 o (k) (fX3_dealsOf_4 o k n) h v1 (v2 ||| ((1 : Int32) <<< ((h.1 (o + 6) (v3.toNatClampNeg)) &&& 31))) v3 else none)))
set_option maxRecDepth 100000 in
set_option maxHeartbeats 4000000 in
theorem cX3_dealsOf_4 {X : CT} {sh : Sh} {adr : Nat → Nat} {r : Nat → Nat → Option Nat} {o : Nat} {hh : Nat} {p : Int32 × HI} (hS : PS sh r hh o) (C : CX X yX3_dealsOf.cls cX3_dealsOf 4 0) (hZ : SZX X adr) (E : RX X (some .int) sh adr (fun v τ => v = some (.int p.1) ∧ τ = mk p.2 r)) {k : HI → Int32 → Option (Int32 × HI)} (hk : ∀ (h : HI) (v2 : Int32), k h v2 = some p → WW X (sh, adr, 0, 0) 37 [.ref o, .retAddr 0, .int v2, .retAddr 0] [] (mk h r)) : ∀ (n : Nat) (h : HI) (v1 : Int32) (v2 : Int32) (v3 : Int32), fX3_dealsOf_4 o k n h v1 v2 v3 = some p → WW X (sh, adr, 0, 0) 4 [.ref o, .int v1, .int v2, .int v3] [] (mk h r) := by
  intro n
  induction n with
  | zero =>
    intro h v1 v2 v3 H
    rw [fX3_dealsOf_4] at H
    cases H
  | succ n ih =>
    intro h v1 v2 v3 H
    rw [fX3_dealsOf_4] at H
    refine ww_iload_n C dX3_dealsOf_4 3 rfl rfl ?_
    refine ww_aload_n C dX3_dealsOf_5 0 rfl rfl ?_
    refine wk_getI C dX3_dealsOf_6 fl_X3_75 hS.1 rfl ?_
    refine ww_icmp_ge C dX3_dealsOf_9 37 rfl (fun hc => ?_) (fun hc => ?_)
    · rw [if_pos hc] at H
      exact ww_drop [.ref o, .retAddr 0, .int v2, .retAddr 0] (sl_e (sl_d (sl_e (sl_d sl_n)))) (hk h v2 H)
    · rw [if_neg hc] at H
      refine ww_iload_n C dX3_dealsOf_12 1 rfl rfl ?_
      refine ww_iload_n C dX3_dealsOf_13 3 rfl rfl ?_
      refine ww_ishr C dX3_dealsOf_14 ?_
      refine ww_iconst (v := (1 : Int32)) C dX3_dealsOf_15 (by decide) ?_
      refine ww_iand C dX3_dealsOf_16 ?_
      refine ww_if_eq C dX3_dealsOf_17 31 rfl (fun hc => ?_) (fun hc => ?_)
      · rw [if_pos hc] at H
        exact cX3_dealsOf_31 hS C hZ E hk ih H
      · rw [if_neg hc] at H
        refine ww_iload_n C dX3_dealsOf_20 2 rfl rfl ?_
        refine ww_iconst (v := (1 : Int32)) C dX3_dealsOf_21 (by decide) ?_
        refine ww_aload_n C dX3_dealsOf_22 0 rfl rfl ?_
        refine wk_getR C dX3_dealsOf_23 fl_X3_29 hS.1 rfl (tX3_links hS).1 ?_
        refine ww_iload_n C dX3_dealsOf_26 3 rfl rfl ?_
        obtain ⟨hg, H⟩ := gd_of H
        refine wk_iaload C dX3_dealsOf_27 (tX3_links hS).2.1 (vp_of hg (tX3_links hS).2.2) (v3.toNatClampNeg) rfl ?_
        refine ww_ishl C dX3_dealsOf_28 ?_
        refine ww_ior C dX3_dealsOf_29 ?_
        refine ww_istore_n C dX3_dealsOf_30 2 rfl (by decide) rfl [.ref o, .int v1, .int (v2 ||| ((1 : Int32) <<< ((h.1 (o + 6) (v3.toNatClampNeg)) &&& 31))), .int v3] rfl ?_
        exact cX3_dealsOf_31 hS C hZ E hk ih H
def fX3_dealsOf (o : Nat) (h : HI) (a1 : Int32) : Option (Int32 × HI) := fX3_dealsOf_4 o (fun h2 v2 => some (v2, h2)) FU h a1 (0 : Int32) (0 : Int32)
set_option maxRecDepth 100000 in
set_option maxHeartbeats 4000000 in
theorem ccX3_dealsOf {l : Launch} {sh : Sh} {adr : Nat → Nat} {r : Nat → Nat → Option Nat} {o : Nat} {hh : Nat} (hS : PS sh r hh o) {h : HI} {a1 : Int32} {p : Int32 × HI} (H : fX3_dealsOf o h a1 = some p) : CC l yX3_dealsOf cX3_dealsOf 4 (some .int) 0 [.ref o, .int a1] sh adr (mk h r) (fun v τ => v = some (.int p.1) ∧ τ = mk p.2 r) := by
  refine CC.of (by decide) (Nat.le_of_ble_eq_true rfl) 2 [.ref o, .int a1, .retAddr 0, .retAddr 0] rfl (fun X _ C E hZ => ?_)
  rw [fX3_dealsOf] at H
  refine ww_iconst (v := (0 : Int32)) C dX3_dealsOf_0 (by decide) ?_
  refine ww_istore_n C dX3_dealsOf_1 2 rfl (by decide) rfl [.ref o, .int a1, .int (0 : Int32), .retAddr 0] rfl ?_
  refine ww_iconst (v := (0 : Int32)) C dX3_dealsOf_2 (by decide) ?_
  refine ww_istore_n C dX3_dealsOf_3 3 rfl (by decide) rfl [.ref o, .int a1, .int (0 : Int32), .int (0 : Int32)] rfl ?_
  refine cX3_dealsOf_4 hS C hZ E (fun h2 v2 H => ?_) FU h a1 (0 : Int32) (0 : Int32) H
  refine ww_iload_n C dX3_dealsOf_37 2 rfl rfl ?_
  cases H
  exact ww_iret C E dX3_dealsOf_38 ⟨rfl, rfl⟩
def fX3_passingSets_119 (o : Nat) (hh : Nat) (k : HI → Int64 → Option (Int64 × HI)) (kb : HI → Int32 → Int32 → Int64 → Int32 → Option (Int64 × HI)) (h : HI) (v4 : Int32) (v5 : Int32) (v6 : Int64) (v8 : Int32) : Option (Int64 × HI) := kb h v4 v5 v6 (v8 + (1 : Int32))
set_option maxRecDepth 100000 in
set_option maxHeartbeats 4000000 in
theorem cX3_passingSets_119 {X : CT} {sh : Sh} {adr : Nat → Nat} {r : Nat → Nat → Option Nat} {o : Nat} {hh : Nat} {p : Int64 × HI} (hS : PS sh r hh o) (C : CX X yX3_passingSets.cls cX3_passingSets 11 1) (hZ : SZX X adr) (E : RX X (some .long) sh adr (fun v τ => v = some (.long p.1) ∧ τ = mk p.2 r)) {k : HI → Int64 → Option (Int64 × HI)} {kb : HI → Int32 → Int32 → Int64 → Int32 → Option (Int64 × HI)} (hk : ∀ (h : HI) (v6 : Int64), k h v6 = some p → WW X (sh, adr, 0, 0) 125 [.ref o, .retAddr 0, .retAddr 0, .retAddr 0, .retAddr 0, .retAddr 0, .long v6, .retAddr 0, .retAddr 0, .retAddr 0, .retAddr 0] [] (mk h r)) (hb : ∀ (h : HI) (v4 : Int32) (v5 : Int32) (v6 : Int64) (v8 : Int32), kb h v4 v5 v6 v8 = some p → WW X (sh, adr, 0, 0) 44 [.ref o, .retAddr 0, .retAddr 0, .retAddr 0, .int v4, .int v5, .long v6, .retAddr 0, .int v8, .retAddr 0, .retAddr 0] [] (mk h r)) {h : HI} {v4 : Int32} {v5 : Int32} {v6 : Int64} {v8 : Int32} (H : fX3_passingSets_119 o hh k kb h v4 v5 v6 v8 = some p) : WW X (sh, adr, 0, 0) 119 [.ref o, .retAddr 0, .retAddr 0, .retAddr 0, .int v4, .int v5, .long v6, .retAddr 0, .int v8, .retAddr 0, .retAddr 0] [] (mk h r) := by
  rw [fX3_passingSets_119] at H
  refine ww_iinc (v := (v8 + (1 : Int32))) C dX3_passingSets_119 rfl rfl (by decide) rfl [.ref o, .retAddr 0, .retAddr 0, .retAddr 0, .int v4, .int v5, .long v6, .retAddr 0, .int (v8 + (1 : Int32)), .retAddr 0, .retAddr 0] rfl ?_
  refine ww_goto C dX3_passingSets_122 44 rfl ?_
  exact hb h v4 v5 v6 (v8 + (1 : Int32)) H
def fX3_passingSets_44 (o : Nat) (hh : Nat) (k : HI → Int64 → Option (Int64 × HI)) : Nat → HI → Int32 → Int32 → Int64 → Int32 → Option (Int64 × HI)
  | 0, _, _, _, _, _ => none
  | n + 1, h, v4, v5, v6, v8 => (if (64 : Int32) ≤ v8 then k h v6 else ((fJ6_bitCount_0f7a4 h (v8 &&& v4)).bind fun p2 => ((fJ6_bitCount_0f7a4 p2.2 (v8 &&& v5)).bind fun p3 => (if (lg_cmp ((((p3.2.2 o 12).toUInt64 >>> (v8.toInt64.toUInt64 &&& Int64.toUInt64 63)).toInt64) &&& (1 : Int64)) (0 : Int64)) = 0 then fX3_passingSets_119 o hh (k) (fX3_passingSets_44 o hh k n) p3.2 v4 v5 v6 v8 else ((fJ6_bitCount_0f7a4 p3.2 v8).bind fun p4 => (if inB ((((p2.1 * (7 : Int32)) + p3.1) * (7 : Int32)) + p4.1) 343 then (if (p4.2.1 (o + 3) (((((p2.1 * (7 : Int32)) + p3.1) * (7 : Int32)) + p4.1).toNatClampNeg)) = 0 then fX3_passingSets_119 o hh (k) (fX3_passingSets_44 o hh k n) p4.2 v4 v5 v6 v8 else fX3_passingSets_119 o hh (k) (fX3_passingSets_44 o hh k n) p4.2 v4 v5 (v6 ||| ((1 : Int64) <<< (v8.toInt64 &&& 63))) v8) else none))))))
set_option maxRecDepth 100000 in
set_option maxHeartbeats 4000000 in
theorem cX3_passingSets_44 {X : CT} {sh : Sh} {adr : Nat → Nat} {r : Nat → Nat → Option Nat} {o : Nat} {hh : Nat} {p : Int64 × HI} (hS : PS sh r hh o) (C : CX X yX3_passingSets.cls cX3_passingSets 11 1) (hZ : SZX X adr) (E : RX X (some .long) sh adr (fun v τ => v = some (.long p.1) ∧ τ = mk p.2 r)) {k : HI → Int64 → Option (Int64 × HI)} (hk : ∀ (h : HI) (v6 : Int64), k h v6 = some p → WW X (sh, adr, 0, 0) 125 [.ref o, .retAddr 0, .retAddr 0, .retAddr 0, .retAddr 0, .retAddr 0, .long v6, .retAddr 0, .retAddr 0, .retAddr 0, .retAddr 0] [] (mk h r)) : ∀ (n : Nat) (h : HI) (v4 : Int32) (v5 : Int32) (v6 : Int64) (v8 : Int32), fX3_passingSets_44 o hh k n h v4 v5 v6 v8 = some p → WW X (sh, adr, 0, 0) 44 [.ref o, .retAddr 0, .retAddr 0, .retAddr 0, .int v4, .int v5, .long v6, .retAddr 0, .int v8, .retAddr 0, .retAddr 0] [] (mk h r) := by
  intro n
  induction n with
  | zero =>
    intro h v4 v5 v6 v8 H
    rw [fX3_passingSets_44] at H
    cases H
  | succ n ih =>
    intro h v4 v5 v6 v8 H
    rw [fX3_passingSets_44] at H
    refine ww_iload C dX3_passingSets_44 rfl ?_
    refine ww_bipush (v := (64 : Int32)) C dX3_passingSets_46 (by decide) ?_
    refine ww_icmp_ge C dX3_passingSets_48 125 rfl (fun hc => ?_) (fun hc => ?_)
    · rw [if_pos hc] at H
      exact ww_drop [.ref o, .retAddr 0, .retAddr 0, .retAddr 0, .retAddr 0, .retAddr 0, .long v6, .retAddr 0, .retAddr 0, .retAddr 0, .retAddr 0] (sl_e (sl_e (sl_e (sl_e (sl_d (sl_d (sl_e (sl_e (sl_d (sl_e (sl_e sl_n))))))))))) (hk h v6 H)
    · rw [if_neg hc] at H
      refine ww_iload C dX3_passingSets_51 rfl ?_
      refine ww_iload C dX3_passingSets_53 rfl ?_
      refine ww_iand C dX3_passingSets_55 ?_
      obtain ⟨p2, hc1, H⟩ := bd_of H
      refine ww_callS C hZ dX3_passingSets_56 sw_X3_135 (ccJ6_bitCount_0f7a4 hc1) (by decide) rfl rfl (Nat.le_of_ble_eq_true rfl) ⟨Nat.zero_le _, Nat.zero_le _⟩ (fun v τ hp => ?_)
      obtain ⟨rfl, rfl⟩ := hp
      change WW X _ 59 [.ref o, .retAddr 0, .retAddr 0, .retAddr 0, .int v4, .int v5, .long v6, .retAddr 0, .int v8, .retAddr 0, .retAddr 0] [.int p2.1] _
      refine ww_istore C dX3_passingSets_59 (by decide) rfl [.ref o, .retAddr 0, .retAddr 0, .retAddr 0, .int v4, .int v5, .long v6, .retAddr 0, .int v8, .int p2.1, .retAddr 0] rfl ?_
      refine ww_iload C dX3_passingSets_61 rfl ?_
      refine ww_iload C dX3_passingSets_63 rfl ?_
      refine ww_iand C dX3_passingSets_65 ?_
      obtain ⟨p3, hc1, H⟩ := bd_of H
      refine ww_callS C hZ dX3_passingSets_66 sw_X3_135 (ccJ6_bitCount_0f7a4 hc1) (by decide) rfl rfl (Nat.le_of_ble_eq_true rfl) ⟨Nat.zero_le _, Nat.zero_le _⟩ (fun v τ hp => ?_)
      obtain ⟨rfl, rfl⟩ := hp
      change WW X _ 69 [.ref o, .retAddr 0, .retAddr 0, .retAddr 0, .int v4, .int v5, .long v6, .retAddr 0, .int v8, .int p2.1, .retAddr 0] [.int p3.1] _
      refine ww_istore C dX3_passingSets_69 (by decide) rfl [.ref o, .retAddr 0, .retAddr 0, .retAddr 0, .int v4, .int v5, .long v6, .retAddr 0, .int v8, .int p2.1, .int p3.1] rfl ?_
      refine ww_aload_n C dX3_passingSets_71 0 rfl rfl ?_
      refine wk_getJ C dX3_passingSets_72 fl_X3_81 hS.1 rfl ?_
      refine ww_iload C dX3_passingSets_75 rfl ?_
      refine ww_lushr C dX3_passingSets_77 ?_
      refine ww_lconst (v := (1 : Int64)) C dX3_passingSets_78 (by decide) ?_
      refine ww_land C dX3_passingSets_79 ?_
      refine ww_lconst (v := (0 : Int64)) C dX3_passingSets_80 (by decide) ?_
      refine ww_lcmp C dX3_passingSets_81 ?_
      refine ww_if_eq C dX3_passingSets_82 119 rfl (fun hc => ?_) (fun hc => ?_)
      · rw [if_pos hc] at H
        exact ww_drop [.ref o, .retAddr 0, .retAddr 0, .retAddr 0, .int v4, .int v5, .long v6, .retAddr 0, .int v8, .retAddr 0, .retAddr 0] (sl_e (sl_e (sl_e (sl_e (sl_e (sl_e (sl_e (sl_e (sl_e (sl_d (sl_d sl_n))))))))))) (cX3_passingSets_119 hS C hZ E hk ih H)
      · rw [if_neg hc] at H
        refine ww_aload_n C dX3_passingSets_85 0 rfl rfl ?_
        refine wk_getR C dX3_passingSets_86 fl_X3_18 hS.1 rfl (tX3_verdicts hS).1 ?_
        refine ww_iload C dX3_passingSets_89 rfl ?_
        refine ww_bipush (v := (7 : Int32)) C dX3_passingSets_91 (by decide) ?_
        refine ww_imul C dX3_passingSets_93 ?_
        refine ww_iload C dX3_passingSets_94 rfl ?_
        refine ww_iadd C dX3_passingSets_96 ?_
        refine ww_bipush (v := (7 : Int32)) C dX3_passingSets_97 (by decide) ?_
        refine ww_imul C dX3_passingSets_99 ?_
        refine ww_iload C dX3_passingSets_100 rfl ?_
        obtain ⟨p4, hc1, H⟩ := bd_of H
        refine ww_callS C hZ dX3_passingSets_102 sw_X3_135 (ccJ6_bitCount_0f7a4 hc1) (by decide) rfl rfl (Nat.le_of_ble_eq_true rfl) ⟨Nat.zero_le _, Nat.zero_le _⟩ (fun v τ hp => ?_)
        obtain ⟨rfl, rfl⟩ := hp
        change WW X _ 105 [.ref o, .retAddr 0, .retAddr 0, .retAddr 0, .int v4, .int v5, .long v6, .retAddr 0, .int v8, .int p2.1, .int p3.1] [.int p4.1, .int (((p2.1 * (7 : Int32)) + p3.1) * (7 : Int32)), .ref (o + 3)] _
        refine ww_iadd C dX3_passingSets_105 ?_
        obtain ⟨hg, H⟩ := gd_of H
        refine wk_zaload C dX3_passingSets_106 (tX3_verdicts hS).2.1 (vp_of hg (tX3_verdicts hS).2.2) (((((p2.1 * (7 : Int32)) + p3.1) * (7 : Int32)) + p4.1).toNatClampNeg) rfl ?_
        refine ww_if_eq C dX3_passingSets_107 119 rfl (fun hc => ?_) (fun hc => ?_)
        · rw [if_pos hc] at H
          exact ww_drop [.ref o, .retAddr 0, .retAddr 0, .retAddr 0, .int v4, .int v5, .long v6, .retAddr 0, .int v8, .retAddr 0, .retAddr 0] (sl_e (sl_e (sl_e (sl_e (sl_e (sl_e (sl_e (sl_e (sl_e (sl_d (sl_d sl_n))))))))))) (cX3_passingSets_119 hS C hZ E hk ih H)
        · rw [if_neg hc] at H
          refine ww_lload C dX3_passingSets_110 rfl ?_
          refine ww_lconst (v := (1 : Int64)) C dX3_passingSets_112 (by decide) ?_
          refine ww_iload C dX3_passingSets_113 rfl ?_
          refine ww_lshl C dX3_passingSets_115 ?_
          refine ww_lor C dX3_passingSets_116 ?_
          refine ww_lstore C dX3_passingSets_117 (by decide) rfl [.ref o, .retAddr 0, .retAddr 0, .retAddr 0, .int v4, .int v5, .long (v6 ||| ((1 : Int64) <<< (v8.toInt64 &&& 63))), .retAddr 0, .int v8, .int p2.1, .int p3.1] rfl ?_
          exact ww_drop [.ref o, .retAddr 0, .retAddr 0, .retAddr 0, .int v4, .int v5, .long (v6 ||| ((1 : Int64) <<< (v8.toInt64 &&& 63))), .retAddr 0, .int v8, .retAddr 0, .retAddr 0] (sl_e (sl_e (sl_e (sl_e (sl_e (sl_e (sl_e (sl_e (sl_e (sl_d (sl_d sl_n))))))))))) (cX3_passingSets_119 hS C hZ E hk ih H)
def fX3_passingSets (o : Nat) (hh : Nat) (h : HI) (a1 : Int32) (a2 : Int32) : Option (Int64 × HI) := ((fX1_boundMen hh h a1 a2).bind fun p1 => (if inB a1 4 then (if inB a1 4 then fX3_passingSets_44 o hh (fun h6 v6 => some (v6, h6)) FU p1.2 ((p1.2.1 (hh + 11) (a1.toNatClampNeg)) ||| p1.1) ((p1.2.1 (hh + 12) (a1.toNatClampNeg)) &&& (p1.1 ^^^ (-1 : Int32))) (0 : Int64) (0 : Int32) else none) else none))
set_option maxRecDepth 100000 in
set_option maxHeartbeats 4000000 in
theorem ccX3_passingSets {l : Launch} {sh : Sh} {adr : Nat → Nat} {r : Nat → Nat → Option Nat} {o : Nat} {hh : Nat} (hS : PS sh r hh o) {h : HI} {a1 : Int32} {a2 : Int32} {p : Int64 × HI} (H : fX3_passingSets o hh h a1 a2 = some p) : CC l yX3_passingSets cX3_passingSets 11 (some .long) 1 [.ref o, .int a1, .int a2] sh adr (mk h r) (fun v τ => v = some (.long p.1) ∧ τ = mk p.2 r) := by
  refine CC.of (by decide) (Nat.le_of_ble_eq_true rfl) 8 [.ref o, .int a1, .int a2, .retAddr 0, .retAddr 0, .retAddr 0, .retAddr 0, .retAddr 0, .retAddr 0, .retAddr 0, .retAddr 0] rfl (fun X _ C E hZ => ?_)
  rw [fX3_passingSets] at H
  refine ww_aload_n C dX3_passingSets_0 0 rfl rfl ?_
  refine wk_getA C dX3_passingSets_1 fl_X3_38 hS.1 rfl (tX3_hall hS).1 ?_
  refine ww_iload_n C dX3_passingSets_4 1 rfl rfl ?_
  refine ww_iload_n C dX3_passingSets_5 2 rfl rfl ?_
  obtain ⟨p1, hc1, H⟩ := bd_of H
  refine ww_callV C hZ dX3_passingSets_6 cw_X3_158 (ccX1_boundMen (tX3_hall hS).2 hc1) (tX3_hall hS).2.1 ⟨by decide, rfl⟩ (by decide) rfl rfl (Nat.le_of_ble_eq_true rfl) ⟨Nat.zero_le _, Nat.zero_le _⟩ (fun v τ hp => ?_)
  obtain ⟨rfl, rfl⟩ := hp
  change WW X _ 9 [.ref o, .int a1, .int a2, .retAddr 0, .retAddr 0, .retAddr 0, .retAddr 0, .retAddr 0, .retAddr 0, .retAddr 0, .retAddr 0] [.int p1.1] _
  refine ww_istore_n C dX3_passingSets_9 3 rfl (by decide) rfl [.ref o, .int a1, .int a2, .int p1.1, .retAddr 0, .retAddr 0, .retAddr 0, .retAddr 0, .retAddr 0, .retAddr 0, .retAddr 0] rfl ?_
  refine ww_aload_n C dX3_passingSets_10 0 rfl rfl ?_
  refine wk_getA C dX3_passingSets_11 fl_X3_38 hS.1 rfl (tX3_hall hS).1 ?_
  refine wk_getR C dX3_passingSets_14 fl_X3_162 (tX3_hall hS).2.1 rfl (tX1_likes (tX3_hall hS).2).1 ?_
  refine ww_iload_n C dX3_passingSets_17 1 rfl rfl ?_
  obtain ⟨hg, H⟩ := gd_of H
  refine wk_iaload C dX3_passingSets_18 (tX1_likes (tX3_hall hS).2).2.1 (vp_of hg (tX1_likes (tX3_hall hS).2).2.2) (a1.toNatClampNeg) rfl ?_
  refine ww_iload_n C dX3_passingSets_19 3 rfl rfl ?_
  refine ww_ior C dX3_passingSets_20 ?_
  refine ww_istore C dX3_passingSets_21 (by decide) rfl [.ref o, .int a1, .int a2, .int p1.1, .int ((p1.2.1 (hh + 11) (a1.toNatClampNeg)) ||| p1.1), .retAddr 0, .retAddr 0, .retAddr 0, .retAddr 0, .retAddr 0, .retAddr 0] rfl ?_
  refine ww_aload_n C dX3_passingSets_23 0 rfl rfl ?_
  refine wk_getA C dX3_passingSets_24 fl_X3_38 hS.1 rfl (tX3_hall hS).1 ?_
  refine wk_getR C dX3_passingSets_27 fl_X3_165 (tX3_hall hS).2.1 rfl (tX1_dislikes (tX3_hall hS).2).1 ?_
  refine ww_iload_n C dX3_passingSets_30 1 rfl rfl ?_
  obtain ⟨hg, H⟩ := gd_of H
  refine wk_iaload C dX3_passingSets_31 (tX1_dislikes (tX3_hall hS).2).2.1 (vp_of hg (tX1_dislikes (tX3_hall hS).2).2.2) (a1.toNatClampNeg) rfl ?_
  refine ww_iload_n C dX3_passingSets_32 3 rfl rfl ?_
  refine ww_iconst (v := (-1 : Int32)) C dX3_passingSets_33 (by decide) ?_
  refine ww_ixor C dX3_passingSets_34 ?_
  refine ww_iand C dX3_passingSets_35 ?_
  refine ww_istore C dX3_passingSets_36 (by decide) rfl [.ref o, .int a1, .int a2, .int p1.1, .int ((p1.2.1 (hh + 11) (a1.toNatClampNeg)) ||| p1.1), .int ((p1.2.1 (hh + 12) (a1.toNatClampNeg)) &&& (p1.1 ^^^ (-1 : Int32))), .retAddr 0, .retAddr 0, .retAddr 0, .retAddr 0, .retAddr 0] rfl ?_
  refine ww_lconst (v := (0 : Int64)) C dX3_passingSets_38 (by decide) ?_
  refine ww_lstore C dX3_passingSets_39 (by decide) rfl [.ref o, .int a1, .int a2, .int p1.1, .int ((p1.2.1 (hh + 11) (a1.toNatClampNeg)) ||| p1.1), .int ((p1.2.1 (hh + 12) (a1.toNatClampNeg)) &&& (p1.1 ^^^ (-1 : Int32))), .long (0 : Int64), .retAddr 0, .retAddr 0, .retAddr 0, .retAddr 0] rfl ?_
  refine ww_iconst (v := (0 : Int32)) C dX3_passingSets_41 (by decide) ?_
  refine ww_istore C dX3_passingSets_42 (by decide) rfl [.ref o, .int a1, .int a2, .int p1.1, .int ((p1.2.1 (hh + 11) (a1.toNatClampNeg)) ||| p1.1), .int ((p1.2.1 (hh + 12) (a1.toNatClampNeg)) &&& (p1.1 ^^^ (-1 : Int32))), .long (0 : Int64), .retAddr 0, .int (0 : Int32), .retAddr 0, .retAddr 0] rfl ?_
  refine ww_drop [.ref o, .retAddr 0, .retAddr 0, .retAddr 0, .int ((p1.2.1 (hh + 11) (a1.toNatClampNeg)) ||| p1.1), .int ((p1.2.1 (hh + 12) (a1.toNatClampNeg)) &&& (p1.1 ^^^ (-1 : Int32))), .long (0 : Int64), .retAddr 0, .int (0 : Int32), .retAddr 0, .retAddr 0] (sl_e (sl_d (sl_d (sl_d (sl_e (sl_e (sl_e (sl_e (sl_e (sl_e (sl_e sl_n))))))))))) (cX3_passingSets_44 hS C hZ E (fun h6 v6 H => ?_) FU p1.2 ((p1.2.1 (hh + 11) (a1.toNatClampNeg)) ||| p1.1) ((p1.2.1 (hh + 12) (a1.toNatClampNeg)) &&& (p1.1 ^^^ (-1 : Int32))) (0 : Int64) (0 : Int32) H)
  refine ww_lload C dX3_passingSets_125 rfl ?_
  cases H
  exact ww_lret C E dX3_passingSets_127 ⟨rfl, rfl⟩
def fX3_fillPassing_12 (o : Nat) (hh : Nat) (k : HI → Int32 → Option (HI)) : Nat → HI → Int32 → Int32 → Option (HI)
  | 0, _, _, _ => none
  | n + 1, h, v1, v2 => (if ((1 : Int32) <<< ((h.1 o 10) &&& 31)) ≤ v2 then k h v1 else (if inB v1 4 then ((fX3_dealsOf o h v2).bind fun p1 => ((fX3_passingSets o hh p1.2 (h.1 (o + 4) (v1.toNatClampNeg)) p1.1).bind fun p2 => (if inB ((v1 * (16 : Int32)) + v2) 64 then fX3_fillPassing_12 o hh k n (uL p2.2 (o + 2) (((v1 * (16 : Int32)) + v2).toNatClampNeg) p2.1) v1 (v2 + (1 : Int32)) else none))) else none))
set_option maxRecDepth 100000 in
set_option maxHeartbeats 4000000 in
theorem cX3_fillPassing_12 {X : CT} {sh : Sh} {adr : Nat → Nat} {r : Nat → Nat → Option Nat} {o : Nat} {hh : Nat} {p : HI} (hS : PS sh r hh o) (C : CX X yX3_fillPassing.cls cX3_fillPassing 3 2) (hZ : SZX X adr) (E : RX X none sh adr (fun v τ => v = none ∧ τ = mk p r)) {k : HI → Int32 → Option (HI)} (hk : ∀ (h : HI) (v1 : Int32), k h v1 = some p → WW X (sh, adr, 0, 0) 54 [.ref o, .int v1, .retAddr 0] [] (mk h r)) : ∀ (n : Nat) (h : HI) (v1 : Int32) (v2 : Int32), fX3_fillPassing_12 o hh k n h v1 v2 = some p → WW X (sh, adr, 0, 0) 12 [.ref o, .int v1, .int v2] [] (mk h r) := by
  intro n
  induction n with
  | zero =>
    intro h v1 v2 H
    rw [fX3_fillPassing_12] at H
    cases H
  | succ n ih =>
    intro h v1 v2 H
    rw [fX3_fillPassing_12] at H
    refine ww_iload_n C dX3_fillPassing_12 2 rfl rfl ?_
    refine ww_iconst (v := (1 : Int32)) C dX3_fillPassing_13 (by decide) ?_
    refine ww_aload_n C dX3_fillPassing_14 0 rfl rfl ?_
    refine wk_getI C dX3_fillPassing_15 fl_X3_75 hS.1 rfl ?_
    refine ww_ishl C dX3_fillPassing_18 ?_
    refine ww_icmp_ge C dX3_fillPassing_19 54 rfl (fun hc => ?_) (fun hc => ?_)
    · rw [if_pos hc] at H
      exact ww_drop [.ref o, .int v1, .retAddr 0] (sl_e (sl_e (sl_d sl_n))) (hk h v1 H)
    · rw [if_neg hc] at H
      refine ww_aload_n C dX3_fillPassing_22 0 rfl rfl ?_
      refine wk_getR C dX3_fillPassing_23 fl_X3_15 hS.1 rfl (tX3_passing hS).1 ?_
      refine ww_iload_n C dX3_fillPassing_26 1 rfl rfl ?_
      refine ww_bipush (v := (16 : Int32)) C dX3_fillPassing_27 (by decide) ?_
      refine ww_imul C dX3_fillPassing_29 ?_
      refine ww_iload_n C dX3_fillPassing_30 2 rfl rfl ?_
      refine ww_iadd C dX3_fillPassing_31 ?_
      refine ww_aload_n C dX3_fillPassing_32 0 rfl rfl ?_
      refine ww_aload_n C dX3_fillPassing_33 0 rfl rfl ?_
      refine wk_getR C dX3_fillPassing_34 fl_X3_22 hS.1 rfl (tX3_goals hS).1 ?_
      refine ww_iload_n C dX3_fillPassing_37 1 rfl rfl ?_
      obtain ⟨hg, H⟩ := gd_of H
      refine wk_iaload C dX3_fillPassing_38 (tX3_goals hS).2.1 (vp_of hg (tX3_goals hS).2.2) (v1.toNatClampNeg) rfl ?_
      refine ww_aload_n C dX3_fillPassing_39 0 rfl rfl ?_
      refine ww_iload_n C dX3_fillPassing_40 2 rfl rfl ?_
      obtain ⟨p1, hc1, H⟩ := bd_of H
      refine ww_callV C hZ dX3_fillPassing_41 cw_X3_151 (ccX3_dealsOf hS hc1) hS.1 ⟨by decide, rfl⟩ (by decide) rfl rfl (Nat.le_of_ble_eq_true rfl) ⟨Nat.zero_le _, Nat.zero_le _⟩ (fun v τ hp => ?_)
      obtain ⟨rfl, rfl⟩ := hp
      change WW X _ 44 [.ref o, .int v1, .int v2] [.int p1.1, .int (h.1 (o + 4) (v1.toNatClampNeg)), .ref o, .int ((v1 * (16 : Int32)) + v2), .ref (o + 2)] _
      obtain ⟨p2, hc1, H⟩ := bd_of H
      refine ww_callV C hZ dX3_fillPassing_44 cw_X3_154 (ccX3_passingSets hS hc1) hS.1 ⟨by decide, rfl⟩ (by decide) rfl rfl (Nat.le_of_ble_eq_true rfl) ⟨Nat.zero_le _, Nat.zero_le _⟩ (fun v τ hp => ?_)
      obtain ⟨rfl, rfl⟩ := hp
      change WW X _ 47 [.ref o, .int v1, .int v2] [.long p2.1, .int ((v1 * (16 : Int32)) + v2), .ref (o + 2)] _
      obtain ⟨hg, H⟩ := gd_of H
      refine wk_lastore C dX3_fillPassing_47 (tX3_passing hS).2.1 (vp_of hg (tX3_passing hS).2.2) (((v1 * (16 : Int32)) + v2).toNatClampNeg) rfl ?_
      refine ww_iinc (v := (v2 + (1 : Int32))) C dX3_fillPassing_48 rfl rfl (by decide) rfl [.ref o, .int v1, .int (v2 + (1 : Int32))] rfl ?_
      refine ww_goto C dX3_fillPassing_51 12 rfl ?_
      exact ih (uL p2.2 (o + 2) (((v1 * (16 : Int32)) + v2).toNatClampNeg) p2.1) v1 (v2 + (1 : Int32)) H
def fX3_fillPassing_2 (o : Nat) (hh : Nat) (k : HI → Option (HI)) : Nat → HI → Int32 → Option (HI)
  | 0, _, _ => none
  | n + 1, h, v1 => (if (h.1 o 9) ≤ v1 then k h else fX3_fillPassing_12 o hh (fun h4 v1 => fX3_fillPassing_2 o hh k n h4 (v1 + (1 : Int32))) FU h v1 (0 : Int32))
set_option maxRecDepth 100000 in
set_option maxHeartbeats 4000000 in
theorem cX3_fillPassing_2 {X : CT} {sh : Sh} {adr : Nat → Nat} {r : Nat → Nat → Option Nat} {o : Nat} {hh : Nat} {p : HI} (hS : PS sh r hh o) (C : CX X yX3_fillPassing.cls cX3_fillPassing 3 2) (hZ : SZX X adr) (E : RX X none sh adr (fun v τ => v = none ∧ τ = mk p r)) {k : HI → Option (HI)} (hk : ∀ (h : HI), k h = some p → WW X (sh, adr, 0, 0) 60 [.ref o, .retAddr 0, .retAddr 0] [] (mk h r)) : ∀ (n : Nat) (h : HI) (v1 : Int32), fX3_fillPassing_2 o hh k n h v1 = some p → WW X (sh, adr, 0, 0) 2 [.ref o, .int v1, .retAddr 0] [] (mk h r) := by
  intro n
  induction n with
  | zero =>
    intro h v1 H
    rw [fX3_fillPassing_2] at H
    cases H
  | succ n ih =>
    intro h v1 H
    rw [fX3_fillPassing_2] at H
    refine ww_iload_n C dX3_fillPassing_2 1 rfl rfl ?_
    refine ww_aload_n C dX3_fillPassing_3 0 rfl rfl ?_
    refine wk_getI C dX3_fillPassing_4 fl_X3_72 hS.1 rfl ?_
    refine ww_icmp_ge C dX3_fillPassing_7 60 rfl (fun hc => ?_) (fun hc => ?_)
    · rw [if_pos hc] at H
      exact ww_drop [.ref o, .retAddr 0, .retAddr 0] (sl_e (sl_d (sl_e sl_n))) (hk h H)
    · rw [if_neg hc] at H
      refine ww_iconst (v := (0 : Int32)) C dX3_fillPassing_10 (by decide) ?_
      refine ww_istore_n C dX3_fillPassing_11 2 rfl (by decide) rfl [.ref o, .int v1, .int (0 : Int32)] rfl ?_
      refine cX3_fillPassing_12 hS C hZ E (fun h4 v1 H => ?_) FU h v1 (0 : Int32) H
      refine ww_iinc (v := (v1 + (1 : Int32))) C dX3_fillPassing_54 rfl rfl (by decide) rfl [.ref o, .int (v1 + (1 : Int32)), .retAddr 0] rfl ?_
      refine ww_goto C dX3_fillPassing_57 2 rfl ?_
      exact ih h4 (v1 + (1 : Int32)) H
def fX3_fillPassing (o : Nat) (hh : Nat) (h : HI) : Option (HI) := fX3_fillPassing_2 o hh (fun h6 => some h6) FU h (0 : Int32)
set_option maxRecDepth 100000 in
set_option maxHeartbeats 4000000 in
theorem ccX3_fillPassing {l : Launch} {sh : Sh} {adr : Nat → Nat} {r : Nat → Nat → Option Nat} {o : Nat} {hh : Nat} (hS : PS sh r hh o) {h : HI}  {p : HI} (H : fX3_fillPassing o hh h = some p) : CC l yX3_fillPassing cX3_fillPassing 3 none 2 [.ref o] sh adr (mk h r) (fun v τ => v = none ∧ τ = mk p r) := by
  refine CC.of (by decide) (Nat.le_of_ble_eq_true rfl) 2 [.ref o, .retAddr 0, .retAddr 0] rfl (fun X _ C E hZ => ?_)
  rw [fX3_fillPassing] at H
  refine ww_iconst (v := (0 : Int32)) C dX3_fillPassing_0 (by decide) ?_
  refine ww_istore_n C dX3_fillPassing_1 1 rfl (by decide) rfl [.ref o, .int (0 : Int32), .retAddr 0] rfl ?_
  refine cX3_fillPassing_2 hS C hZ E (fun h6 H => ?_) FU h (0 : Int32) H
  cases H
  exact ww_vret C E dX3_fillPassing_60 ⟨rfl, rfl⟩
def fX3_fillVerdicts_25 (o : Nat) (hh : Nat) (k : HI → Int32 → Int32 → Int32 → Option (HI)) : Nat → HI → Int32 → Int32 → Int32 → Int32 → Option (HI)
  | 0, _, _, _, _, _ => none
  | n + 1, h, v1, v2, v3, v4 => (if (v2 - v3) < v4 then k h v1 v2 v3 else ((fX5_passes (hh + 18) h v3 v4 v2 (v1 - v2)).bind fun p2 => (if inB ((((v3 * (7 : Int32)) + v4) * (7 : Int32)) + v2) 343 then fX3_fillVerdicts_25 o hh k n (uI p2.2 (o + 3) (((((v3 * (7 : Int32)) + v4) * (7 : Int32)) + v2).toNatClampNeg) (vp_nar .boolean p2.1)) v1 v2 v3 (v4 + (1 : Int32)) else none)))
set_option maxRecDepth 100000 in
set_option maxHeartbeats 4000000 in
theorem cX3_fillVerdicts_25 {X : CT} {sh : Sh} {adr : Nat → Nat} {r : Nat → Nat → Option Nat} {o : Nat} {hh : Nat} {p : HI} (hS : PS sh r hh o) (C : CX X yX3_fillVerdicts.cls cX3_fillVerdicts 5 2) (hZ : SZX X adr) (E : RX X none sh adr (fun v τ => v = none ∧ τ = mk p r)) {k : HI → Int32 → Int32 → Int32 → Option (HI)} (hk : ∀ (h : HI) (v1 : Int32) (v2 : Int32) (v3 : Int32), k h v1 v2 v3 = some p → WW X (sh, adr, 0, 0) 73 [.ref o, .int v1, .int v2, .int v3, .retAddr 0] [] (mk h r)) : ∀ (n : Nat) (h : HI) (v1 : Int32) (v2 : Int32) (v3 : Int32) (v4 : Int32), fX3_fillVerdicts_25 o hh k n h v1 v2 v3 v4 = some p → WW X (sh, adr, 0, 0) 25 [.ref o, .int v1, .int v2, .int v3, .int v4] [] (mk h r) := by
  intro n
  induction n with
  | zero =>
    intro h v1 v2 v3 v4 H
    rw [fX3_fillVerdicts_25] at H
    cases H
  | succ n ih =>
    intro h v1 v2 v3 v4 H
    rw [fX3_fillVerdicts_25] at H
    refine ww_iload C dX3_fillVerdicts_25 rfl ?_
    refine ww_iload_n C dX3_fillVerdicts_27 2 rfl rfl ?_
    refine ww_iload_n C dX3_fillVerdicts_28 3 rfl rfl ?_
    refine ww_isub C dX3_fillVerdicts_29 ?_
    refine ww_icmp_gt C dX3_fillVerdicts_30 73 rfl (fun hc => ?_) (fun hc => ?_)
    · rw [if_pos hc] at H
      exact ww_drop [.ref o, .int v1, .int v2, .int v3, .retAddr 0] (sl_e (sl_e (sl_e (sl_e (sl_d sl_n))))) (hk h v1 v2 v3 H)
    · rw [if_neg hc] at H
      refine ww_aload_n C dX3_fillVerdicts_33 0 rfl rfl ?_
      refine wk_getR C dX3_fillVerdicts_34 fl_X3_18 hS.1 rfl (tX3_verdicts hS).1 ?_
      refine ww_iload_n C dX3_fillVerdicts_37 3 rfl rfl ?_
      refine ww_bipush (v := (7 : Int32)) C dX3_fillVerdicts_38 (by decide) ?_
      refine ww_imul C dX3_fillVerdicts_40 ?_
      refine ww_iload C dX3_fillVerdicts_41 rfl ?_
      refine ww_iadd C dX3_fillVerdicts_43 ?_
      refine ww_bipush (v := (7 : Int32)) C dX3_fillVerdicts_44 (by decide) ?_
      refine ww_imul C dX3_fillVerdicts_46 ?_
      refine ww_iload_n C dX3_fillVerdicts_47 2 rfl rfl ?_
      refine ww_iadd C dX3_fillVerdicts_48 ?_
      refine ww_aload_n C dX3_fillVerdicts_49 0 rfl rfl ?_
      refine wk_getA C dX3_fillVerdicts_50 fl_X3_38 hS.1 rfl (tX3_hall hS).1 ?_
      refine wk_getA C dX3_fillVerdicts_53 fl_X3_141 (tX3_hall hS).2.1 rfl (tX1_rule (tX3_hall hS).2).1 ?_
      refine ww_iload_n C dX3_fillVerdicts_56 3 rfl rfl ?_
      refine ww_iload C dX3_fillVerdicts_57 rfl ?_
      refine ww_iload_n C dX3_fillVerdicts_59 2 rfl rfl ?_
      refine ww_iload_n C dX3_fillVerdicts_60 1 rfl rfl ?_
      refine ww_iload_n C dX3_fillVerdicts_61 2 rfl rfl ?_
      refine ww_isub C dX3_fillVerdicts_62 ?_
      obtain ⟨p2, hc1, H⟩ := bd_of H
      refine ww_callV C hZ dX3_fillVerdicts_63 cw_X3_145 (ccX5_passes (tX1_rule (tX3_hall hS).2).2 hc1) (tX1_rule (tX3_hall hS).2).2.1 ⟨by decide, rfl⟩ (by decide) rfl rfl (Nat.le_of_ble_eq_true rfl) ⟨Nat.zero_le _, Nat.zero_le _⟩ (fun v τ hp => ?_)
      obtain ⟨rfl, rfl⟩ := hp
      change WW X _ 66 [.ref o, .int v1, .int v2, .int v3, .int v4] [.int p2.1, .int ((((v3 * (7 : Int32)) + v4) * (7 : Int32)) + v2), .ref (o + 3)] _
      obtain ⟨hg, H⟩ := gd_of H
      refine wk_zastore C dX3_fillVerdicts_66 (tX3_verdicts hS).2.1 (vp_of hg (tX3_verdicts hS).2.2) (((((v3 * (7 : Int32)) + v4) * (7 : Int32)) + v2).toNatClampNeg) rfl (vp_nar .boolean p2.1) rfl ?_
      refine ww_iinc (v := (v4 + (1 : Int32))) C dX3_fillVerdicts_67 rfl rfl (by decide) rfl [.ref o, .int v1, .int v2, .int v3, .int (v4 + (1 : Int32))] rfl ?_
      refine ww_goto C dX3_fillVerdicts_70 25 rfl ?_
      exact ih (uI p2.2 (o + 3) (((((v3 * (7 : Int32)) + v4) * (7 : Int32)) + v2).toNatClampNeg) (vp_nar .boolean p2.1)) v1 v2 v3 (v4 + (1 : Int32)) H
def fX3_fillVerdicts_17 (o : Nat) (hh : Nat) (k : HI → Int32 → Int32 → Option (HI)) : Nat → HI → Int32 → Int32 → Int32 → Option (HI)
  | 0, _, _, _, _ => none
  | n + 1, h, v1, v2, v3 => (if v2 < v3 then k h v1 v2 else fX3_fillVerdicts_25 o hh (fun h4 v1 v2 v3 => fX3_fillVerdicts_17 o hh k n h4 v1 v2 (v3 + (1 : Int32))) FU h v1 v2 v3 (0 : Int32))
set_option maxRecDepth 100000 in
set_option maxHeartbeats 4000000 in
theorem cX3_fillVerdicts_17 {X : CT} {sh : Sh} {adr : Nat → Nat} {r : Nat → Nat → Option Nat} {o : Nat} {hh : Nat} {p : HI} (hS : PS sh r hh o) (C : CX X yX3_fillVerdicts.cls cX3_fillVerdicts 5 2) (hZ : SZX X adr) (E : RX X none sh adr (fun v τ => v = none ∧ τ = mk p r)) {k : HI → Int32 → Int32 → Option (HI)} (hk : ∀ (h : HI) (v1 : Int32) (v2 : Int32), k h v1 v2 = some p → WW X (sh, adr, 0, 0) 79 [.ref o, .int v1, .int v2, .retAddr 0, .retAddr 0] [] (mk h r)) : ∀ (n : Nat) (h : HI) (v1 : Int32) (v2 : Int32) (v3 : Int32), fX3_fillVerdicts_17 o hh k n h v1 v2 v3 = some p → WW X (sh, adr, 0, 0) 17 [.ref o, .int v1, .int v2, .int v3, .retAddr 0] [] (mk h r) := by
  intro n
  induction n with
  | zero =>
    intro h v1 v2 v3 H
    rw [fX3_fillVerdicts_17] at H
    cases H
  | succ n ih =>
    intro h v1 v2 v3 H
    rw [fX3_fillVerdicts_17] at H
    refine ww_iload_n C dX3_fillVerdicts_17 3 rfl rfl ?_
    refine ww_iload_n C dX3_fillVerdicts_18 2 rfl rfl ?_
    refine ww_icmp_gt C dX3_fillVerdicts_19 79 rfl (fun hc => ?_) (fun hc => ?_)
    · rw [if_pos hc] at H
      exact ww_drop [.ref o, .int v1, .int v2, .retAddr 0, .retAddr 0] (sl_e (sl_e (sl_e (sl_d (sl_e sl_n))))) (hk h v1 v2 H)
    · rw [if_neg hc] at H
      refine ww_iconst (v := (0 : Int32)) C dX3_fillVerdicts_22 (by decide) ?_
      refine ww_istore C dX3_fillVerdicts_23 (by decide) rfl [.ref o, .int v1, .int v2, .int v3, .int (0 : Int32)] rfl ?_
      refine cX3_fillVerdicts_25 hS C hZ E (fun h4 v1 v2 v3 H => ?_) FU h v1 v2 v3 (0 : Int32) H
      refine ww_iinc (v := (v3 + (1 : Int32))) C dX3_fillVerdicts_73 rfl rfl (by decide) rfl [.ref o, .int v1, .int v2, .int (v3 + (1 : Int32)), .retAddr 0] rfl ?_
      refine ww_goto C dX3_fillVerdicts_76 17 rfl ?_
      exact ih h4 v1 v2 (v3 + (1 : Int32)) H
def fX3_fillVerdicts_10 (o : Nat) (hh : Nat) (k : HI → Option (HI)) : Nat → HI → Int32 → Int32 → Option (HI)
  | 0, _, _, _ => none
  | n + 1, h, v1, v2 => (if v1 < v2 then k h else fX3_fillVerdicts_17 o hh (fun h6 v1 v2 => fX3_fillVerdicts_10 o hh k n h6 v1 (v2 + (1 : Int32))) FU h v1 v2 (0 : Int32))
set_option maxRecDepth 100000 in
set_option maxHeartbeats 4000000 in
theorem cX3_fillVerdicts_10 {X : CT} {sh : Sh} {adr : Nat → Nat} {r : Nat → Nat → Option Nat} {o : Nat} {hh : Nat} {p : HI} (hS : PS sh r hh o) (C : CX X yX3_fillVerdicts.cls cX3_fillVerdicts 5 2) (hZ : SZX X adr) (E : RX X none sh adr (fun v τ => v = none ∧ τ = mk p r)) {k : HI → Option (HI)} (hk : ∀ (h : HI), k h = some p → WW X (sh, adr, 0, 0) 85 [.ref o, .retAddr 0, .retAddr 0, .retAddr 0, .retAddr 0] [] (mk h r)) : ∀ (n : Nat) (h : HI) (v1 : Int32) (v2 : Int32), fX3_fillVerdicts_10 o hh k n h v1 v2 = some p → WW X (sh, adr, 0, 0) 10 [.ref o, .int v1, .int v2, .retAddr 0, .retAddr 0] [] (mk h r) := by
  intro n
  induction n with
  | zero =>
    intro h v1 v2 H
    rw [fX3_fillVerdicts_10] at H
    cases H
  | succ n ih =>
    intro h v1 v2 H
    rw [fX3_fillVerdicts_10] at H
    refine ww_iload_n C dX3_fillVerdicts_10 2 rfl rfl ?_
    refine ww_iload_n C dX3_fillVerdicts_11 1 rfl rfl ?_
    refine ww_icmp_gt C dX3_fillVerdicts_12 85 rfl (fun hc => ?_) (fun hc => ?_)
    · rw [if_pos hc] at H
      exact ww_drop [.ref o, .retAddr 0, .retAddr 0, .retAddr 0, .retAddr 0] (sl_e (sl_d (sl_d (sl_e (sl_e sl_n))))) (hk h H)
    · rw [if_neg hc] at H
      refine ww_iconst (v := (0 : Int32)) C dX3_fillVerdicts_15 (by decide) ?_
      refine ww_istore_n C dX3_fillVerdicts_16 3 rfl (by decide) rfl [.ref o, .int v1, .int v2, .int (0 : Int32), .retAddr 0] rfl ?_
      refine cX3_fillVerdicts_17 hS C hZ E (fun h6 v1 v2 H => ?_) FU h v1 v2 (0 : Int32) H
      refine ww_iinc (v := (v2 + (1 : Int32))) C dX3_fillVerdicts_79 rfl rfl (by decide) rfl [.ref o, .int v1, .int (v2 + (1 : Int32)), .retAddr 0, .retAddr 0] rfl ?_
      refine ww_goto C dX3_fillVerdicts_82 10 rfl ?_
      exact ih h6 v1 (v2 + (1 : Int32)) H
def fX3_fillVerdicts (o : Nat) (hh : Nat) (h : HI) : Option (HI) := ((fJ6_bitCount_0f7a4 h (h.1 o 11)).bind fun p1 => fX3_fillVerdicts_10 o hh (fun h8 => some h8) FU p1.2 p1.1 (0 : Int32))
set_option maxRecDepth 100000 in
set_option maxHeartbeats 4000000 in
theorem ccX3_fillVerdicts {l : Launch} {sh : Sh} {adr : Nat → Nat} {r : Nat → Nat → Option Nat} {o : Nat} {hh : Nat} (hS : PS sh r hh o) {h : HI}  {p : HI} (H : fX3_fillVerdicts o hh h = some p) : CC l yX3_fillVerdicts cX3_fillVerdicts 5 none 2 [.ref o] sh adr (mk h r) (fun v τ => v = none ∧ τ = mk p r) := by
  refine CC.of (by decide) (Nat.le_of_ble_eq_true rfl) 4 [.ref o, .retAddr 0, .retAddr 0, .retAddr 0, .retAddr 0] rfl (fun X _ C E hZ => ?_)
  rw [fX3_fillVerdicts] at H
  refine ww_aload_n C dX3_fillVerdicts_0 0 rfl rfl ?_
  refine wk_getI C dX3_fillVerdicts_1 fl_X3_45 hS.1 rfl ?_
  obtain ⟨p1, hc1, H⟩ := bd_of H
  refine ww_callS C hZ dX3_fillVerdicts_4 sw_X3_135 (ccJ6_bitCount_0f7a4 hc1) (by decide) rfl rfl (Nat.le_of_ble_eq_true rfl) ⟨Nat.zero_le _, Nat.zero_le _⟩ (fun v τ hp => ?_)
  obtain ⟨rfl, rfl⟩ := hp
  change WW X _ 7 [.ref o, .retAddr 0, .retAddr 0, .retAddr 0, .retAddr 0] [.int p1.1] _
  refine ww_istore_n C dX3_fillVerdicts_7 1 rfl (by decide) rfl [.ref o, .int p1.1, .retAddr 0, .retAddr 0, .retAddr 0] rfl ?_
  refine ww_iconst (v := (0 : Int32)) C dX3_fillVerdicts_8 (by decide) ?_
  refine ww_istore_n C dX3_fillVerdicts_9 2 rfl (by decide) rfl [.ref o, .int p1.1, .int (0 : Int32), .retAddr 0, .retAddr 0] rfl ?_
  refine cX3_fillVerdicts_10 hS C hZ E (fun h8 H => ?_) FU p1.2 p1.1 (0 : Int32) H
  cases H
  exact ww_vret C E dX3_fillVerdicts_85 ⟨rfl, rfl⟩
def fX3_findGoals_125 (o : Nat) (hh : Nat) (a1 : Nat) (a1hh : Nat) (k : HI → Int32 → Option (Int32 × HI)) (kb : HI → Int32 → Int32 → Option (Int32 × HI)) (h : HI) (v2 : Int32) (v3 : Int32) : Option (Int32 × HI) := kb h v2 (v3 + (1 : Int32))
set_option maxRecDepth 100000 in
set_option maxHeartbeats 4000000 in
theorem cX3_findGoals_125 {X : CT} {sh : Sh} {adr : Nat → Nat} {r : Nat → Nat → Option Nat} {o : Nat} {hh : Nat} {a1 : Nat} {a1hh : Nat} {p : Int32 × HI} (hS : PS sh r hh o) (hA1 : SS sh r a1hh a1) (C : CX X yX3_findGoals.cls cX3_findGoals 5 2) (hZ : SZX X adr) (E : RX X (some .int) sh adr (fun v τ => v = some (.int p.1) ∧ τ = mk p.2 r)) {k : HI → Int32 → Option (Int32 × HI)} {kb : HI → Int32 → Int32 → Option (Int32 × HI)} (hk : ∀ (h : HI) (v2 : Int32), k h v2 = some p → WW X (sh, adr, 0, 0) 131 [.ref o, .ref a1, .int v2, .retAddr 0, .retAddr 0] [] (mk h r)) (hb : ∀ (h : HI) (v2 : Int32) (v3 : Int32), kb h v2 v3 = some p → WW X (sh, adr, 0, 0) 9 [.ref o, .ref a1, .int v2, .int v3, .retAddr 0] [] (mk h r)) {h : HI} {v2 : Int32} {v3 : Int32} (H : fX3_findGoals_125 o hh a1 a1hh k kb h v2 v3 = some p) : WW X (sh, adr, 0, 0) 125 [.ref o, .ref a1, .int v2, .int v3, .retAddr 0] [] (mk h r) := by
  rw [fX3_findGoals_125] at H
  refine ww_iinc (v := (v3 + (1 : Int32))) C dX3_findGoals_125 rfl rfl (by decide) rfl [.ref o, .ref a1, .int v2, .int (v3 + (1 : Int32)), .retAddr 0] rfl ?_
  refine ww_goto C dX3_findGoals_128 9 rfl ?_
  exact hb h v2 (v3 + (1 : Int32)) H
def fX3_findGoals_58 (o : Nat) (hh : Nat) (a1 : Nat) (a1hh : Nat) (k : HI → Int32 → Option (Int32 × HI)) (kb : HI → Int32 → Int32 → Option (Int32 × HI)) (h : HI) (v2 : Int32) (v3 : Int32) (v4 : Int32) (s0 : Int32) (s1 : Int32) : Option (Int32 × HI) := (if inB s1 4 then (if inB v3 4 then (if v4 = 0 then fX3_findGoals_125 o hh a1 a1hh k kb (uI (uI h (o + 8) (s1.toNatClampNeg) s0) (o + 5) (v3.toNatClampNeg) (-1 : Int32)) v2 v3 else (if inB v3 4 then (if ((uI (uI h (o + 8) (s1.toNatClampNeg) s0) (o + 5) (v3.toNatClampNeg) (-1 : Int32)).1 (hh + 10) (v3.toNatClampNeg)) ≤ 0 then fX3_findGoals_125 o hh a1 a1hh k kb (uI (uI h (o + 8) (s1.toNatClampNeg) s0) (o + 5) (v3.toNatClampNeg) (-1 : Int32)) v2 v3 else (if inB v3 4 then (if inB (h.1 o 9) 4 then (if inB v3 4 then fX3_findGoals_125 o hh a1 a1hh k kb (uI (uI (uI (uI (uI h (o + 8) (s1.toNatClampNeg) s0) (o + 5) (v3.toNatClampNeg) (-1 : Int32)) (o + 5) (v3.toNatClampNeg) (h.1 o 9)) (o + 4) ((h.1 o 9).toNatClampNeg) v3) o 9 ((h.1 o 9) + (1 : Int32))) (v2 + ((uI (uI (uI (uI (uI h (o + 8) (s1.toNatClampNeg) s0) (o + 5) (v3.toNatClampNeg) (-1 : Int32)) (o + 5) (v3.toNatClampNeg) (h.1 o 9)) (o + 4) ((h.1 o 9).toNatClampNeg) v3) o 9 ((h.1 o 9) + (1 : Int32))).1 (hh + 10) (v3.toNatClampNeg))) v3 else none) else none) else none)) else none)) else none) else none)
set_option maxRecDepth 100000 in
set_option maxHeartbeats 4000000 in
theorem cX3_findGoals_58 {X : CT} {sh : Sh} {adr : Nat → Nat} {r : Nat → Nat → Option Nat} {o : Nat} {hh : Nat} {a1 : Nat} {a1hh : Nat} {p : Int32 × HI} (hS : PS sh r hh o) (hA1 : SS sh r a1hh a1) (C : CX X yX3_findGoals.cls cX3_findGoals 5 2) (hZ : SZX X adr) (E : RX X (some .int) sh adr (fun v τ => v = some (.int p.1) ∧ τ = mk p.2 r)) {k : HI → Int32 → Option (Int32 × HI)} {kb : HI → Int32 → Int32 → Option (Int32 × HI)} (hk : ∀ (h : HI) (v2 : Int32), k h v2 = some p → WW X (sh, adr, 0, 0) 131 [.ref o, .ref a1, .int v2, .retAddr 0, .retAddr 0] [] (mk h r)) (hb : ∀ (h : HI) (v2 : Int32) (v3 : Int32), kb h v2 v3 = some p → WW X (sh, adr, 0, 0) 9 [.ref o, .ref a1, .int v2, .int v3, .retAddr 0] [] (mk h r)) {h : HI} {v2 : Int32} {v3 : Int32} {v4 : Int32} {s0 : Int32} {s1 : Int32} (H : fX3_findGoals_58 o hh a1 a1hh k kb h v2 v3 v4 s0 s1 = some p) : WW X (sh, adr, 0, 0) 58 [.ref o, .ref a1, .int v2, .int v3, .int v4] [.int s0, .int s1, .ref (o + 8)] (mk h r) := by
  rw [fX3_findGoals_58] at H
  obtain ⟨hg, H⟩ := gd_of H
  refine wk_iastore C dX3_findGoals_58 (tX3_lasts hS).2.1 (vp_of hg (tX3_lasts hS).2.2) (s1.toNatClampNeg) rfl ?_
  refine ww_aload_n C dX3_findGoals_59 0 rfl rfl ?_
  refine wk_getR C dX3_findGoals_60 fl_X3_26 hS.1 rfl (tX3_goalOf hS).1 ?_
  refine ww_iload_n C dX3_findGoals_63 3 rfl rfl ?_
  refine ww_iconst (v := (-1 : Int32)) C dX3_findGoals_64 (by decide) ?_
  obtain ⟨hg, H⟩ := gd_of H
  refine wk_iastore C dX3_findGoals_65 (tX3_goalOf hS).2.1 (vp_of hg (tX3_goalOf hS).2.2) (v3.toNatClampNeg) rfl ?_
  refine ww_iload C dX3_findGoals_66 rfl ?_
  refine ww_if_eq C dX3_findGoals_68 125 rfl (fun hc => ?_) (fun hc => ?_)
  · rw [if_pos hc] at H
    exact ww_drop [.ref o, .ref a1, .int v2, .int v3, .retAddr 0] (sl_e (sl_e (sl_e (sl_e (sl_d sl_n))))) (cX3_findGoals_125 hS hA1 C hZ E hk hb H)
  · rw [if_neg hc] at H
    refine ww_aload_n C dX3_findGoals_71 0 rfl rfl ?_
    refine wk_getA C dX3_findGoals_72 fl_X3_38 hS.1 rfl (tX3_hall hS).1 ?_
    refine wk_getR C dX3_findGoals_75 fl_X3_114 (tX3_hall hS).2.1 rfl (tX1_worth (tX3_hall hS).2).1 ?_
    refine ww_iload_n C dX3_findGoals_78 3 rfl rfl ?_
    obtain ⟨hg, H⟩ := gd_of H
    refine wk_iaload C dX3_findGoals_79 (tX1_worth (tX3_hall hS).2).2.1 (vp_of hg (tX1_worth (tX3_hall hS).2).2.2) (v3.toNatClampNeg) rfl ?_
    refine ww_if_le C dX3_findGoals_80 125 rfl (fun hc => ?_) (fun hc => ?_)
    · rw [if_pos hc] at H
      exact ww_drop [.ref o, .ref a1, .int v2, .int v3, .retAddr 0] (sl_e (sl_e (sl_e (sl_e (sl_d sl_n))))) (cX3_findGoals_125 hS hA1 C hZ E hk hb H)
    · rw [if_neg hc] at H
      refine ww_aload_n C dX3_findGoals_83 0 rfl rfl ?_
      refine wk_getR C dX3_findGoals_84 fl_X3_26 hS.1 rfl (tX3_goalOf hS).1 ?_
      refine ww_iload_n C dX3_findGoals_87 3 rfl rfl ?_
      refine ww_aload_n C dX3_findGoals_88 0 rfl rfl ?_
      refine wk_getI C dX3_findGoals_89 fl_X3_72 hS.1 rfl ?_
      refine ww_as (v := (h.1 o 9)) (by rw [uI_n (by omega), uI_n (by omega)]) ?_
      obtain ⟨hg, H⟩ := gd_of H
      refine wk_iastore C dX3_findGoals_92 (tX3_goalOf hS).2.1 (vp_of hg (tX3_goalOf hS).2.2) (v3.toNatClampNeg) rfl ?_
      refine ww_aload_n C dX3_findGoals_93 0 rfl rfl ?_
      refine wk_getR C dX3_findGoals_94 fl_X3_22 hS.1 rfl (tX3_goals hS).1 ?_
      refine ww_aload_n C dX3_findGoals_97 0 rfl rfl ?_
      refine wk_getI C dX3_findGoals_98 fl_X3_72 hS.1 rfl ?_
      refine ww_as (v := (h.1 o 9)) (by rw [uI_n (by omega), uI_n (by omega), uI_n (by omega)]) ?_
      refine ww_iload_n C dX3_findGoals_101 3 rfl rfl ?_
      obtain ⟨hg, H⟩ := gd_of H
      refine wk_iastore C dX3_findGoals_102 (tX3_goals hS).2.1 (vp_of hg (tX3_goals hS).2.2) ((h.1 o 9).toNatClampNeg) rfl ?_
      refine ww_aload_n C dX3_findGoals_103 0 rfl rfl ?_
      refine ww_dup C dX3_findGoals_104 rfl ?_
      refine wk_getI C dX3_findGoals_105 fl_X3_72 hS.1 rfl ?_
      refine ww_as (v := (h.1 o 9)) (by rw [uI_n (by omega), uI_n (by omega), uI_n (by omega), uI_n (by omega)]) ?_
      refine ww_iconst (v := (1 : Int32)) C dX3_findGoals_108 (by decide) ?_
      refine ww_iadd C dX3_findGoals_109 ?_
      refine wk_putI C dX3_findGoals_110 fl_X3_72 hS.1 rfl rfl ?_
      refine ww_iload_n C dX3_findGoals_113 2 rfl rfl ?_
      refine ww_aload_n C dX3_findGoals_114 0 rfl rfl ?_
      refine wk_getA C dX3_findGoals_115 fl_X3_38 hS.1 rfl (tX3_hall hS).1 ?_
      refine wk_getR C dX3_findGoals_118 fl_X3_114 (tX3_hall hS).2.1 rfl (tX1_worth (tX3_hall hS).2).1 ?_
      refine ww_iload_n C dX3_findGoals_121 3 rfl rfl ?_
      obtain ⟨hg, H⟩ := gd_of H
      refine wk_iaload C dX3_findGoals_122 (tX1_worth (tX3_hall hS).2).2.1 (vp_of hg (tX1_worth (tX3_hall hS).2).2.2) (v3.toNatClampNeg) rfl ?_
      refine ww_iadd C dX3_findGoals_123 ?_
      refine ww_istore_n C dX3_findGoals_124 2 rfl (by decide) rfl [.ref o, .ref a1, .int (v2 + ((uI (uI (uI (uI (uI h (o + 8) (s1.toNatClampNeg) s0) (o + 5) (v3.toNatClampNeg) (-1 : Int32)) (o + 5) (v3.toNatClampNeg) (h.1 o 9)) (o + 4) ((h.1 o 9).toNatClampNeg) v3) o 9 ((h.1 o 9) + (1 : Int32))).1 (hh + 10) (v3.toNatClampNeg))), .int v3, .int v4] rfl ?_
      exact ww_drop [.ref o, .ref a1, .int (v2 + ((uI (uI (uI (uI (uI h (o + 8) (s1.toNatClampNeg) s0) (o + 5) (v3.toNatClampNeg) (-1 : Int32)) (o + 5) (v3.toNatClampNeg) (h.1 o 9)) (o + 4) ((h.1 o 9).toNatClampNeg) v3) o 9 ((h.1 o 9) + (1 : Int32))).1 (hh + 10) (v3.toNatClampNeg))), .int v3, .retAddr 0] (sl_e (sl_e (sl_e (sl_e (sl_d sl_n))))) (cX3_findGoals_125 hS hA1 C hZ E hk hb H)
def fX3_findGoals_9 (o : Nat) (hh : Nat) (a1 : Nat) (a1hh : Nat) (k : HI → Int32 → Option (Int32 × HI)) : Nat → HI → Int32 → Int32 → Option (Int32 × HI)
  | 0, _, _, _ => none
  | n + 1, h, v2, v3 => (if (h.1 (hh + 5) 1) ≤ v3 then k h v2 else ((fX6_isAlive a1 a1hh h v3).bind fun p1 => (if p1.1 = 0 then fX3_findGoals_58 o hh a1 a1hh (k) (fX3_findGoals_9 o hh a1 a1hh k n) p1.2 v2 v3 p1.1 (0 : Int32) v3 else (if inB v3 4 then fX3_findGoals_58 o hh a1 a1hh (k) (fX3_findGoals_9 o hh a1 a1hh k n) p1.2 v2 v3 p1.1 ((p1.2.1 (hh + 9) (v3.toNatClampNeg)) - (p1.2.1 a1 1)) v3 else none))))
set_option maxRecDepth 100000 in
set_option maxHeartbeats 4000000 in
theorem cX3_findGoals_9 {X : CT} {sh : Sh} {adr : Nat → Nat} {r : Nat → Nat → Option Nat} {o : Nat} {hh : Nat} {a1 : Nat} {a1hh : Nat} {p : Int32 × HI} (hS : PS sh r hh o) (hA1 : SS sh r a1hh a1) (C : CX X yX3_findGoals.cls cX3_findGoals 5 2) (hZ : SZX X adr) (E : RX X (some .int) sh adr (fun v τ => v = some (.int p.1) ∧ τ = mk p.2 r)) {k : HI → Int32 → Option (Int32 × HI)} (hk : ∀ (h : HI) (v2 : Int32), k h v2 = some p → WW X (sh, adr, 0, 0) 131 [.ref o, .ref a1, .int v2, .retAddr 0, .retAddr 0] [] (mk h r)) : ∀ (n : Nat) (h : HI) (v2 : Int32) (v3 : Int32), fX3_findGoals_9 o hh a1 a1hh k n h v2 v3 = some p → WW X (sh, adr, 0, 0) 9 [.ref o, .ref a1, .int v2, .int v3, .retAddr 0] [] (mk h r) := by
  intro n
  induction n with
  | zero =>
    intro h v2 v3 H
    rw [fX3_findGoals_9] at H
    cases H
  | succ n ih =>
    intro h v2 v3 H
    rw [fX3_findGoals_9] at H
    refine ww_iload_n C dX3_findGoals_9 3 rfl rfl ?_
    refine ww_aload_n C dX3_findGoals_10 0 rfl rfl ?_
    refine wk_getA C dX3_findGoals_11 fl_X3_38 hS.1 rfl (tX3_hall hS).1 ?_
    refine wk_getA C dX3_findGoals_14 fl_X3_93 (tX3_hall hS).2.1 rfl (tX1_matters (tX3_hall hS).2).1 ?_
    refine wk_getI C dX3_findGoals_17 fl_X3_99 (tX1_matters (tX3_hall hS).2).2.1 rfl ?_
    refine ww_icmp_ge C dX3_findGoals_20 131 rfl (fun hc => ?_) (fun hc => ?_)
    · rw [if_pos hc] at H
      exact ww_drop [.ref o, .ref a1, .int v2, .retAddr 0, .retAddr 0] (sl_e (sl_e (sl_e (sl_d (sl_e sl_n))))) (hk h v2 H)
    · rw [if_neg hc] at H
      refine ww_aload_n C dX3_findGoals_23 1 rfl rfl ?_
      refine ww_iload_n C dX3_findGoals_24 3 rfl rfl ?_
      obtain ⟨p1, hc1, H⟩ := bd_of H
      refine ww_callV C hZ dX3_findGoals_25 cw_X3_104 (ccX6_isAlive hA1 hc1) hA1.1 ⟨by decide, rfl⟩ (by decide) rfl rfl (Nat.le_of_ble_eq_true rfl) ⟨Nat.zero_le _, Nat.zero_le _⟩ (fun v τ hp => ?_)
      obtain ⟨rfl, rfl⟩ := hp
      change WW X _ 28 [.ref o, .ref a1, .int v2, .int v3, .retAddr 0] [.int p1.1] _
      refine ww_istore C dX3_findGoals_28 (by decide) rfl [.ref o, .ref a1, .int v2, .int v3, .int p1.1] rfl ?_
      refine ww_aload_n C dX3_findGoals_30 0 rfl rfl ?_
      refine wk_getR C dX3_findGoals_31 fl_X3_35 hS.1 rfl (tX3_lasts hS).1 ?_
      refine ww_iload_n C dX3_findGoals_34 3 rfl rfl ?_
      refine ww_iload C dX3_findGoals_35 rfl ?_
      refine ww_if_eq C dX3_findGoals_37 57 rfl (fun hc => ?_) (fun hc => ?_)
      · rw [if_pos hc] at H
        refine ww_iconst (v := (0 : Int32)) C dX3_findGoals_57 (by decide) ?_
        exact cX3_findGoals_58 hS hA1 C hZ E hk ih H
      · rw [if_neg hc] at H
        refine ww_aload_n C dX3_findGoals_40 0 rfl rfl ?_
        refine wk_getA C dX3_findGoals_41 fl_X3_38 hS.1 rfl (tX3_hall hS).1 ?_
        refine wk_getR C dX3_findGoals_44 fl_X3_108 (tX3_hall hS).2.1 rfl (tX1_dies (tX3_hall hS).2).1 ?_
        refine ww_iload_n C dX3_findGoals_47 3 rfl rfl ?_
        obtain ⟨hg, H⟩ := gd_of H
        refine wk_iaload C dX3_findGoals_48 (tX1_dies (tX3_hall hS).2).2.1 (vp_of hg (tX1_dies (tX3_hall hS).2).2.2) (v3.toNatClampNeg) rfl ?_
        refine ww_aload_n C dX3_findGoals_49 1 rfl rfl ?_
        refine wk_getI C dX3_findGoals_50 fl_X3_111 hA1.1 rfl ?_
        refine ww_isub C dX3_findGoals_53 ?_
        refine ww_goto C dX3_findGoals_54 58 rfl ?_
        exact cX3_findGoals_58 hS hA1 C hZ E hk ih H
def fX3_findGoals (o : Nat) (hh : Nat) (a1 : Nat) (a1hh : Nat) (h : HI) : Option (Int32 × HI) := fX3_findGoals_9 o hh a1 a1hh (fun h3 v2 => some (v2, h3)) FU (uI h o 9 (0 : Int32)) (0 : Int32) (0 : Int32)
set_option maxRecDepth 100000 in
set_option maxHeartbeats 4000000 in
theorem ccX3_findGoals {l : Launch} {sh : Sh} {adr : Nat → Nat} {r : Nat → Nat → Option Nat} {o : Nat} {hh : Nat} {a1 : Nat} {a1hh : Nat} (hS : PS sh r hh o) (hA1 : SS sh r a1hh a1) {h : HI}  {p : Int32 × HI} (H : fX3_findGoals o hh a1 a1hh h = some p) : CC l yX3_findGoals cX3_findGoals 5 (some .int) 2 [.ref o, .ref a1] sh adr (mk h r) (fun v τ => v = some (.int p.1) ∧ τ = mk p.2 r) := by
  refine CC.of (by decide) (Nat.le_of_ble_eq_true rfl) 3 [.ref o, .ref a1, .retAddr 0, .retAddr 0, .retAddr 0] rfl (fun X _ C E hZ => ?_)
  rw [fX3_findGoals] at H
  refine ww_iconst (v := (0 : Int32)) C dX3_findGoals_0 (by decide) ?_
  refine ww_istore_n C dX3_findGoals_1 2 rfl (by decide) rfl [.ref o, .ref a1, .int (0 : Int32), .retAddr 0, .retAddr 0] rfl ?_
  refine ww_aload_n C dX3_findGoals_2 0 rfl rfl ?_
  refine ww_iconst (v := (0 : Int32)) C dX3_findGoals_3 (by decide) ?_
  refine wk_putI C dX3_findGoals_4 fl_X3_72 hS.1 rfl rfl ?_
  refine ww_iconst (v := (0 : Int32)) C dX3_findGoals_7 (by decide) ?_
  refine ww_istore_n C dX3_findGoals_8 3 rfl (by decide) rfl [.ref o, .ref a1, .int (0 : Int32), .int (0 : Int32), .retAddr 0] rfl ?_
  refine cX3_findGoals_9 hS hA1 C hZ E (fun h3 v2 H => ?_) FU (uI h o 9 (0 : Int32)) (0 : Int32) (0 : Int32) H
  refine ww_iload_n C dX3_findGoals_131 2 rfl rfl ?_
  cases H
  exact ww_iret C E dX3_findGoals_132 ⟨rfl, rfl⟩
def fX3_findLinks_100 (o : Nat) (hh : Nat) (k : HI → Option (HI)) (kb : HI → Int32 → Option (HI)) (h : HI) (v1 : Int32) : Option (HI) := kb h (v1 + (1 : Int32))
set_option maxRecDepth 100000 in
set_option maxHeartbeats 4000000 in
theorem cX3_findLinks_100 {X : CT} {sh : Sh} {adr : Nat → Nat} {r : Nat → Nat → Option Nat} {o : Nat} {hh : Nat} {p : HI} (hS : PS sh r hh o) (C : CX X yX3_findLinks.cls cX3_findLinks 3 1) (hZ : SZX X adr) (E : RX X none sh adr (fun v τ => v = none ∧ τ = mk p r)) {k : HI → Option (HI)} {kb : HI → Int32 → Option (HI)} (hk : ∀ (h : HI), k h = some p → WW X (sh, adr, 0, 0) 106 [.ref o, .retAddr 0, .retAddr 0] [] (mk h r)) (hb : ∀ (h : HI) (v1 : Int32), kb h v1 = some p → WW X (sh, adr, 0, 0) 15 [.ref o, .int v1, .retAddr 0] [] (mk h r)) {h : HI} {v1 : Int32} (H : fX3_findLinks_100 o hh k kb h v1 = some p) : WW X (sh, adr, 0, 0) 100 [.ref o, .int v1, .retAddr 0] [] (mk h r) := by
  rw [fX3_findLinks_100] at H
  refine ww_iinc (v := (v1 + (1 : Int32))) C dX3_findLinks_100 rfl rfl (by decide) rfl [.ref o, .int (v1 + (1 : Int32)), .retAddr 0] rfl ?_
  refine ww_goto C dX3_findLinks_103 15 rfl ?_
  exact hb h (v1 + (1 : Int32)) H
def fX3_findLinks_15 (o : Nat) (hh : Nat) (k : HI → Option (HI)) : Nat → HI → Int32 → Option (HI)
  | 0, _, _ => none
  | n + 1, h, v1 => (if (h.1 hh 17) ≤ v1 then k h else (if inB v1 4 then (if inB (h.1 (hh + 15) (v1.toNatClampNeg)) 4 then (if (h.1 (o + 5) ((h.1 (hh + 15) (v1.toNatClampNeg)).toNatClampNeg)) < 0 then fX3_findLinks_100 o hh (k) (fX3_findLinks_15 o hh k n) h v1 else (if inB v1 4 then (if inB v1 4 then (if inB (((h.1 (hh + 16) (v1.toNatClampNeg)) * (4 : Int32)) + (h.1 (hh + 17) (v1.toNatClampNeg))) 24 then (if inB (((h.1 (hh + 16) (v1.toNatClampNeg)) * (4 : Int32)) + (h.1 (hh + 17) (v1.toNatClampNeg))) 24 then (if inB (h.1 o 10) 4 then fX3_findLinks_100 o hh (k) (fX3_findLinks_15 o hh k n) (uI (uI (uI h (o + 7) ((((h.1 (hh + 16) (v1.toNatClampNeg)) * (4 : Int32)) + (h.1 (hh + 17) (v1.toNatClampNeg))).toNatClampNeg) ((h.1 (o + 7) ((((h.1 (hh + 16) (v1.toNatClampNeg)) * (4 : Int32)) + (h.1 (hh + 17) (v1.toNatClampNeg))).toNatClampNeg)) ||| ((1 : Int32) <<< ((h.1 o 10) &&& 31)))) (o + 6) ((h.1 o 10).toNatClampNeg) v1) o 10 ((h.1 o 10) + (1 : Int32))) v1 else none) else none) else none) else none) else none)) else none) else none))
set_option maxRecDepth 100000 in
set_option maxHeartbeats 4000000 in
theorem cX3_findLinks_15 {X : CT} {sh : Sh} {adr : Nat → Nat} {r : Nat → Nat → Option Nat} {o : Nat} {hh : Nat} {p : HI} (hS : PS sh r hh o) (C : CX X yX3_findLinks.cls cX3_findLinks 3 1) (hZ : SZX X adr) (E : RX X none sh adr (fun v τ => v = none ∧ τ = mk p r)) {k : HI → Option (HI)} (hk : ∀ (h : HI), k h = some p → WW X (sh, adr, 0, 0) 106 [.ref o, .retAddr 0, .retAddr 0] [] (mk h r)) : ∀ (n : Nat) (h : HI) (v1 : Int32), fX3_findLinks_15 o hh k n h v1 = some p → WW X (sh, adr, 0, 0) 15 [.ref o, .int v1, .retAddr 0] [] (mk h r) := by
  intro n
  induction n with
  | zero =>
    intro h v1 H
    rw [fX3_findLinks_15] at H
    cases H
  | succ n ih =>
    intro h v1 H
    rw [fX3_findLinks_15] at H
    refine ww_iload_n C dX3_findLinks_15 1 rfl rfl ?_
    refine ww_aload_n C dX3_findLinks_16 0 rfl rfl ?_
    refine wk_getA C dX3_findLinks_17 fl_X3_38 hS.1 rfl (tX3_hall hS).1 ?_
    refine wk_getI C dX3_findLinks_20 fl_X3_123 (tX3_hall hS).2.1 rfl ?_
    refine ww_icmp_ge C dX3_findLinks_23 106 rfl (fun hc => ?_) (fun hc => ?_)
    · rw [if_pos hc] at H
      exact ww_drop [.ref o, .retAddr 0, .retAddr 0] (sl_e (sl_d (sl_e sl_n))) (hk h H)
    · rw [if_neg hc] at H
      refine ww_aload_n C dX3_findLinks_26 0 rfl rfl ?_
      refine wk_getR C dX3_findLinks_27 fl_X3_26 hS.1 rfl (tX3_goalOf hS).1 ?_
      refine ww_aload_n C dX3_findLinks_30 0 rfl rfl ?_
      refine wk_getA C dX3_findLinks_31 fl_X3_38 hS.1 rfl (tX3_hall hS).1 ?_
      refine wk_getR C dX3_findLinks_34 fl_X3_126 (tX3_hall hS).2.1 rfl (tX1_dealMatter (tX3_hall hS).2).1 ?_
      refine ww_iload_n C dX3_findLinks_37 1 rfl rfl ?_
      obtain ⟨hg, H⟩ := gd_of H
      refine wk_iaload C dX3_findLinks_38 (tX1_dealMatter (tX3_hall hS).2).2.1 (vp_of hg (tX1_dealMatter (tX3_hall hS).2).2.2) (v1.toNatClampNeg) rfl ?_
      obtain ⟨hg, H⟩ := gd_of H
      refine wk_iaload C dX3_findLinks_39 (tX3_goalOf hS).2.1 (vp_of hg (tX3_goalOf hS).2.2) ((h.1 (hh + 15) (v1.toNatClampNeg)).toNatClampNeg) rfl ?_
      refine ww_if_lt C dX3_findLinks_40 100 rfl (fun hc => ?_) (fun hc => ?_)
      · rw [if_pos hc] at H
        exact cX3_findLinks_100 hS C hZ E hk ih H
      · rw [if_neg hc] at H
        refine ww_aload_n C dX3_findLinks_43 0 rfl rfl ?_
        refine wk_getA C dX3_findLinks_44 fl_X3_38 hS.1 rfl (tX3_hall hS).1 ?_
        refine wk_getR C dX3_findLinks_47 fl_X3_129 (tX3_hall hS).2.1 rfl (tX1_otherMan (tX3_hall hS).2).1 ?_
        refine ww_iload_n C dX3_findLinks_50 1 rfl rfl ?_
        obtain ⟨hg, H⟩ := gd_of H
        refine wk_iaload C dX3_findLinks_51 (tX1_otherMan (tX3_hall hS).2).2.1 (vp_of hg (tX1_otherMan (tX3_hall hS).2).2.2) (v1.toNatClampNeg) rfl ?_
        refine ww_iconst (v := (4 : Int32)) C dX3_findLinks_52 (by decide) ?_
        refine ww_imul C dX3_findLinks_53 ?_
        refine ww_aload_n C dX3_findLinks_54 0 rfl rfl ?_
        refine wk_getA C dX3_findLinks_55 fl_X3_38 hS.1 rfl (tX3_hall hS).1 ?_
        refine wk_getR C dX3_findLinks_58 fl_X3_132 (tX3_hall hS).2.1 rfl (tX1_otherMatter (tX3_hall hS).2).1 ?_
        refine ww_iload_n C dX3_findLinks_61 1 rfl rfl ?_
        obtain ⟨hg, H⟩ := gd_of H
        refine wk_iaload C dX3_findLinks_62 (tX1_otherMatter (tX3_hall hS).2).2.1 (vp_of hg (tX1_otherMatter (tX3_hall hS).2).2.2) (v1.toNatClampNeg) rfl ?_
        refine ww_iadd C dX3_findLinks_63 ?_
        refine ww_istore_n C dX3_findLinks_64 2 rfl (by decide) rfl [.ref o, .int v1, .int (((h.1 (hh + 16) (v1.toNatClampNeg)) * (4 : Int32)) + (h.1 (hh + 17) (v1.toNatClampNeg)))] rfl ?_
        refine ww_aload_n C dX3_findLinks_65 0 rfl rfl ?_
        refine wk_getR C dX3_findLinks_66 fl_X3_32 hS.1 rfl (tX3_linksBy hS).1 ?_
        refine ww_iload_n C dX3_findLinks_69 2 rfl rfl ?_
        refine ww_dup2 C dX3_findLinks_70 rfl rfl ?_
        obtain ⟨hg, H⟩ := gd_of H
        refine wk_iaload C dX3_findLinks_71 (tX3_linksBy hS).2.1 (vp_of hg (tX3_linksBy hS).2.2) ((((h.1 (hh + 16) (v1.toNatClampNeg)) * (4 : Int32)) + (h.1 (hh + 17) (v1.toNatClampNeg))).toNatClampNeg) rfl ?_
        refine ww_iconst (v := (1 : Int32)) C dX3_findLinks_72 (by decide) ?_
        refine ww_aload_n C dX3_findLinks_73 0 rfl rfl ?_
        refine wk_getI C dX3_findLinks_74 fl_X3_75 hS.1 rfl ?_
        refine ww_ishl C dX3_findLinks_77 ?_
        refine ww_ior C dX3_findLinks_78 ?_
        obtain ⟨hg, H⟩ := gd_of H
        refine wk_iastore C dX3_findLinks_79 (tX3_linksBy hS).2.1 (vp_of hg (tX3_linksBy hS).2.2) ((((h.1 (hh + 16) (v1.toNatClampNeg)) * (4 : Int32)) + (h.1 (hh + 17) (v1.toNatClampNeg))).toNatClampNeg) rfl ?_
        refine ww_aload_n C dX3_findLinks_80 0 rfl rfl ?_
        refine wk_getR C dX3_findLinks_81 fl_X3_29 hS.1 rfl (tX3_links hS).1 ?_
        refine ww_aload_n C dX3_findLinks_84 0 rfl rfl ?_
        refine wk_getI C dX3_findLinks_85 fl_X3_75 hS.1 rfl ?_
        refine ww_as (v := (h.1 o 10)) (by rw [uI_n (by omega)]) ?_
        refine ww_iload_n C dX3_findLinks_88 1 rfl rfl ?_
        obtain ⟨hg, H⟩ := gd_of H
        refine wk_iastore C dX3_findLinks_89 (tX3_links hS).2.1 (vp_of hg (tX3_links hS).2.2) ((h.1 o 10).toNatClampNeg) rfl ?_
        refine ww_aload_n C dX3_findLinks_90 0 rfl rfl ?_
        refine ww_dup C dX3_findLinks_91 rfl ?_
        refine wk_getI C dX3_findLinks_92 fl_X3_75 hS.1 rfl ?_
        refine ww_as (v := (h.1 o 10)) (by rw [uI_n (by omega), uI_n (by omega)]) ?_
        refine ww_iconst (v := (1 : Int32)) C dX3_findLinks_95 (by decide) ?_
        refine ww_iadd C dX3_findLinks_96 ?_
        refine wk_putI C dX3_findLinks_97 fl_X3_75 hS.1 rfl rfl ?_
        exact ww_drop [.ref o, .int v1, .retAddr 0] (sl_e (sl_e (sl_d sl_n))) (cX3_findLinks_100 hS C hZ E hk ih H)
def fX3_findLinks (o : Nat) (hh : Nat) (h : HI) : Option (HI) := ((fJ7_fill_53178 (o + 7) 24 (uI h o 10 (0 : Int32)) (0 : Int32)).bind fun h1 => fX3_findLinks_15 o hh (fun h3 => some h3) FU h1 (0 : Int32))
set_option maxRecDepth 100000 in
set_option maxHeartbeats 4000000 in
theorem ccX3_findLinks {l : Launch} {sh : Sh} {adr : Nat → Nat} {r : Nat → Nat → Option Nat} {o : Nat} {hh : Nat} (hS : PS sh r hh o) {h : HI}  {p : HI} (H : fX3_findLinks o hh h = some p) : CC l yX3_findLinks cX3_findLinks 3 none 1 [.ref o] sh adr (mk h r) (fun v τ => v = none ∧ τ = mk p r) := by
  refine CC.of (by decide) (Nat.le_of_ble_eq_true rfl) 2 [.ref o, .retAddr 0, .retAddr 0] rfl (fun X _ C E hZ => ?_)
  rw [fX3_findLinks] at H
  refine ww_aload_n C dX3_findLinks_0 0 rfl rfl ?_
  refine ww_iconst (v := (0 : Int32)) C dX3_findLinks_1 (by decide) ?_
  refine wk_putI C dX3_findLinks_2 fl_X3_75 hS.1 rfl rfl ?_
  refine ww_aload_n C dX3_findLinks_5 0 rfl rfl ?_
  refine wk_getR C dX3_findLinks_6 fl_X3_32 hS.1 rfl (tX3_linksBy hS).1 ?_
  refine ww_iconst (v := (0 : Int32)) C dX3_findLinks_9 (by decide) ?_
  obtain ⟨h1, hc1, H⟩ := bd_of H
  refine ww_callS C hZ dX3_findLinks_10 sw_X3_117 (ccJ7_fill_53178 ⟨(tX3_linksBy hS).2.1, (tX3_linksBy hS).2.2⟩ hc1) (by decide) rfl rfl (Nat.le_of_ble_eq_true rfl) ⟨Nat.zero_le _, Nat.zero_le _⟩ (fun v τ hp => ?_)
  obtain ⟨rfl, rfl⟩ := hp
  change WW X _ 13 [.ref o, .retAddr 0, .retAddr 0] [] _
  refine ww_iconst (v := (0 : Int32)) C dX3_findLinks_13 (by decide) ?_
  refine ww_istore_n C dX3_findLinks_14 1 rfl (by decide) rfl [.ref o, .int (0 : Int32), .retAddr 0] rfl ?_
  refine cX3_findLinks_15 hS C hZ E (fun h3 H => ?_) FU h1 (0 : Int32) H
  cases H
  exact ww_vret C E dX3_findLinks_106 ⟨rfl, rfl⟩
def fX3_spokenBit (o : Nat) (h : HI) (a1 : Int32) : Option (Int32 × HI) := some (((1 : Int32) <<< (((h.1 o 10) + a1) &&& 31)), h)
set_option maxRecDepth 100000 in
set_option maxHeartbeats 4000000 in
theorem ccX3_spokenBit {l : Launch} {sh : Sh} {adr : Nat → Nat} {r : Nat → Nat → Option Nat} {o : Nat} {hh : Nat} (hS : PS sh r hh o) {h : HI} {a1 : Int32} {p : Int32 × HI} (H : fX3_spokenBit o h a1 = some p) : CC l yX3_spokenBit cX3_spokenBit 2 (some .int) 0 [.ref o, .int a1] sh adr (mk h r) (fun v τ => v = some (.int p.1) ∧ τ = mk p.2 r) := by
  refine CC.of (by decide) (Nat.le_of_ble_eq_true rfl) 0 [.ref o, .int a1] rfl (fun X _ C E hZ => ?_)
  rw [fX3_spokenBit] at H
  refine ww_iconst (v := (1 : Int32)) C dX3_spokenBit_0 (by decide) ?_
  refine ww_aload_n C dX3_spokenBit_1 0 rfl rfl ?_
  refine wk_getI C dX3_spokenBit_2 fl_X3_75 hS.1 rfl ?_
  refine ww_iload_n C dX3_spokenBit_5 1 rfl rfl ?_
  refine ww_iadd C dX3_spokenBit_6 ?_
  refine ww_ishl C dX3_spokenBit_7 ?_
  cases H
  exact ww_iret C E dX3_spokenBit_8 ⟨rfl, rfl⟩
def fX3_startKey_35 (o : Nat) (a1 : Nat) (a1hh : Nat) (k : HI → Int32 → Option (Int32 × HI)) (kb : HI → Int32 → Int32 → Option (Int32 × HI)) (h : HI) (v2 : Int32) (v3 : Int32) : Option (Int32 × HI) := kb h v2 (v3 + (1 : Int32))
set_option maxRecDepth 100000 in
set_option maxHeartbeats 4000000 in
theorem cX3_startKey_35 {X : CT} {sh : Sh} {adr : Nat → Nat} {r : Nat → Nat → Option Nat} {o : Nat} {hh : Nat} {a1 : Nat} {a1hh : Nat} {p : Int32 × HI} (hS : PS sh r hh o) (hA1 : SS sh r a1hh a1) (C : CX X yX3_startKey.cls cX3_startKey 5 1) (hZ : SZX X adr) (E : RX X (some .int) sh adr (fun v τ => v = some (.int p.1) ∧ τ = mk p.2 r)) {k : HI → Int32 → Option (Int32 × HI)} {kb : HI → Int32 → Int32 → Option (Int32 × HI)} (hk : ∀ (h : HI) (v2 : Int32), k h v2 = some p → WW X (sh, adr, 0, 0) 41 [.ref o, .ref a1, .int v2, .retAddr 0, .retAddr 0] [] (mk h r)) (hb : ∀ (h : HI) (v2 : Int32) (v3 : Int32), kb h v2 v3 = some p → WW X (sh, adr, 0, 0) 4 [.ref o, .ref a1, .int v2, .int v3, .retAddr 0] [] (mk h r)) {h : HI} {v2 : Int32} {v3 : Int32} (H : fX3_startKey_35 o a1 a1hh k kb h v2 v3 = some p) : WW X (sh, adr, 0, 0) 35 [.ref o, .ref a1, .int v2, .int v3, .retAddr 0] [] (mk h r) := by
  rw [fX3_startKey_35] at H
  refine ww_iinc (v := (v3 + (1 : Int32))) C dX3_startKey_35 rfl rfl (by decide) rfl [.ref o, .ref a1, .int v2, .int (v3 + (1 : Int32)), .retAddr 0] rfl ?_
  refine ww_goto C dX3_startKey_38 4 rfl ?_
  exact hb h v2 (v3 + (1 : Int32)) H
def fX3_startKey_4 (o : Nat) (a1 : Nat) (a1hh : Nat) (k : HI → Int32 → Option (Int32 × HI)) : Nat → HI → Int32 → Int32 → Option (Int32 × HI)
  | 0, _, _, _ => none
  | n + 1, h, v2, v3 => (if (h.1 o 9) ≤ v3 then k h v2 else (if inB v3 4 then (if inB (h.1 (o + 4) (v3.toNatClampNeg)) 4 then (if (h.1 (a1 + 5) ((h.1 (o + 4) (v3.toNatClampNeg)).toNatClampNeg)) = (1 : Int32) then ((fX3_spokenBit o h v3).bind fun p1 => fX3_startKey_35 o a1 a1hh (k) (fX3_startKey_4 o a1 a1hh k n) p1.2 (v2 ||| p1.1) v3) else fX3_startKey_35 o a1 a1hh (k) (fX3_startKey_4 o a1 a1hh k n) h v2 v3) else none) else none))
set_option maxRecDepth 100000 in
set_option maxHeartbeats 4000000 in
theorem cX3_startKey_4 {X : CT} {sh : Sh} {adr : Nat → Nat} {r : Nat → Nat → Option Nat} {o : Nat} {hh : Nat} {a1 : Nat} {a1hh : Nat} {p : Int32 × HI} (hS : PS sh r hh o) (hA1 : SS sh r a1hh a1) (C : CX X yX3_startKey.cls cX3_startKey 5 1) (hZ : SZX X adr) (E : RX X (some .int) sh adr (fun v τ => v = some (.int p.1) ∧ τ = mk p.2 r)) {k : HI → Int32 → Option (Int32 × HI)} (hk : ∀ (h : HI) (v2 : Int32), k h v2 = some p → WW X (sh, adr, 0, 0) 41 [.ref o, .ref a1, .int v2, .retAddr 0, .retAddr 0] [] (mk h r)) : ∀ (n : Nat) (h : HI) (v2 : Int32) (v3 : Int32), fX3_startKey_4 o a1 a1hh k n h v2 v3 = some p → WW X (sh, adr, 0, 0) 4 [.ref o, .ref a1, .int v2, .int v3, .retAddr 0] [] (mk h r) := by
  intro n
  induction n with
  | zero =>
    intro h v2 v3 H
    rw [fX3_startKey_4] at H
    cases H
  | succ n ih =>
    intro h v2 v3 H
    rw [fX3_startKey_4] at H
    refine ww_iload_n C dX3_startKey_4 3 rfl rfl ?_
    refine ww_aload_n C dX3_startKey_5 0 rfl rfl ?_
    refine wk_getI C dX3_startKey_6 fl_X3_72 hS.1 rfl ?_
    refine ww_icmp_ge C dX3_startKey_9 41 rfl (fun hc => ?_) (fun hc => ?_)
    · rw [if_pos hc] at H
      exact ww_drop [.ref o, .ref a1, .int v2, .retAddr 0, .retAddr 0] (sl_e (sl_e (sl_e (sl_d (sl_e sl_n))))) (hk h v2 H)
    · rw [if_neg hc] at H
      refine ww_aload_n C dX3_startKey_12 1 rfl rfl ?_
      refine wk_getR C dX3_startKey_13 fl_X3_168 hA1.1 rfl (tX6_status hA1).1 ?_
      refine ww_aload_n C dX3_startKey_16 0 rfl rfl ?_
      refine wk_getR C dX3_startKey_17 fl_X3_22 hS.1 rfl (tX3_goals hS).1 ?_
      refine ww_iload_n C dX3_startKey_20 3 rfl rfl ?_
      obtain ⟨hg, H⟩ := gd_of H
      refine wk_iaload C dX3_startKey_21 (tX3_goals hS).2.1 (vp_of hg (tX3_goals hS).2.2) (v3.toNatClampNeg) rfl ?_
      obtain ⟨hg, H⟩ := gd_of H
      refine wk_iaload C dX3_startKey_22 (tX6_status hA1).2.1 (vp_of hg (tX6_status hA1).2.2) ((h.1 (o + 4) (v3.toNatClampNeg)).toNatClampNeg) rfl ?_
      refine ww_iconst (v := (1 : Int32)) C dX3_startKey_23 (by decide) ?_
      refine ww_icmp_ne C dX3_startKey_24 35 rfl (fun hc => ?_) (fun hc => ?_)
      · rw [if_neg hc] at H
        exact cX3_startKey_35 hS hA1 C hZ E hk ih H
      · rw [if_pos hc] at H
        refine ww_iload_n C dX3_startKey_27 2 rfl rfl ?_
        refine ww_aload_n C dX3_startKey_28 0 rfl rfl ?_
        refine ww_iload_n C dX3_startKey_29 3 rfl rfl ?_
        obtain ⟨p1, hc1, H⟩ := bd_of H
        refine ww_callV C hZ dX3_startKey_30 cw_X3_171 (ccX3_spokenBit hS hc1) hS.1 ⟨by decide, rfl⟩ (by decide) rfl rfl (Nat.le_of_ble_eq_true rfl) ⟨Nat.zero_le _, Nat.zero_le _⟩ (fun v τ hp => ?_)
        obtain ⟨rfl, rfl⟩ := hp
        change WW X _ 33 [.ref o, .ref a1, .int v2, .int v3, .retAddr 0] [.int p1.1, .int v2] _
        refine ww_ior C dX3_startKey_33 ?_
        refine ww_istore_n C dX3_startKey_34 2 rfl (by decide) rfl [.ref o, .ref a1, .int (v2 ||| p1.1), .int v3, .retAddr 0] rfl ?_
        exact cX3_startKey_35 hS hA1 C hZ E hk ih H
def fX3_startKey_79 (o : Nat) (a1 : Nat) (a1hh : Nat) (k : HI → Int32 → Option (Int32 × HI)) (kb : HI → Int32 → Int32 → Int32 → Option (Int32 × HI)) (h : HI) (v2 : Int32) (v3 : Int32) (v4 : Int32) : Option (Int32 × HI) := kb h v2 v3 (v4 + (1 : Int32))
set_option maxRecDepth 100000 in
set_option maxHeartbeats 4000000 in
theorem cX3_startKey_79 {X : CT} {sh : Sh} {adr : Nat → Nat} {r : Nat → Nat → Option Nat} {o : Nat} {hh : Nat} {a1 : Nat} {a1hh : Nat} {p : Int32 × HI} (hS : PS sh r hh o) (hA1 : SS sh r a1hh a1) (C : CX X yX3_startKey.cls cX3_startKey 5 1) (hZ : SZX X adr) (E : RX X (some .int) sh adr (fun v τ => v = some (.int p.1) ∧ τ = mk p.2 r)) {k : HI → Int32 → Option (Int32 × HI)} {kb : HI → Int32 → Int32 → Int32 → Option (Int32 × HI)} (hk : ∀ (h : HI) (v2 : Int32), k h v2 = some p → WW X (sh, adr, 0, 0) 85 [.ref o, .ref a1, .int v2, .retAddr 0, .retAddr 0] [] (mk h r)) (hb : ∀ (h : HI) (v2 : Int32) (v3 : Int32) (v4 : Int32), kb h v2 v3 v4 = some p → WW X (sh, adr, 0, 0) 49 [.ref o, .ref a1, .int v2, .int v3, .int v4] [] (mk h r)) {h : HI} {v2 : Int32} {v3 : Int32} {v4 : Int32} (H : fX3_startKey_79 o a1 a1hh k kb h v2 v3 v4 = some p) : WW X (sh, adr, 0, 0) 79 [.ref o, .ref a1, .int v2, .int v3, .int v4] [] (mk h r) := by
  rw [fX3_startKey_79] at H
  refine ww_iinc (v := (v4 + (1 : Int32))) C dX3_startKey_79 rfl rfl (by decide) rfl [.ref o, .ref a1, .int v2, .int v3, .int (v4 + (1 : Int32))] rfl ?_
  refine ww_goto C dX3_startKey_82 49 rfl ?_
  exact hb h v2 v3 (v4 + (1 : Int32)) H
def fX3_startKey_49 (o : Nat) (a1 : Nat) (a1hh : Nat) (k : HI → Int32 → Option (Int32 × HI)) : Nat → HI → Int32 → Int32 → Int32 → Option (Int32 × HI)
  | 0, _, _, _, _ => none
  | n + 1, h, v2, v3, v4 => (if (h.1 o 10) ≤ v4 then k h v2 else (if inB v4 4 then (if ((v3 >>> ((h.1 (o + 6) (v4.toNatClampNeg)) &&& 31)) &&& (1 : Int32)) = 0 then fX3_startKey_79 o a1 a1hh (k) (fX3_startKey_49 o a1 a1hh k n) h v2 v3 v4 else fX3_startKey_79 o a1 a1hh (k) (fX3_startKey_49 o a1 a1hh k n) h (v2 ||| ((1 : Int32) <<< (v4 &&& 31))) v3 v4) else none))
set_option maxRecDepth 100000 in
set_option maxHeartbeats 4000000 in
theorem cX3_startKey_49 {X : CT} {sh : Sh} {adr : Nat → Nat} {r : Nat → Nat → Option Nat} {o : Nat} {hh : Nat} {a1 : Nat} {a1hh : Nat} {p : Int32 × HI} (hS : PS sh r hh o) (hA1 : SS sh r a1hh a1) (C : CX X yX3_startKey.cls cX3_startKey 5 1) (hZ : SZX X adr) (E : RX X (some .int) sh adr (fun v τ => v = some (.int p.1) ∧ τ = mk p.2 r)) {k : HI → Int32 → Option (Int32 × HI)} (hk : ∀ (h : HI) (v2 : Int32), k h v2 = some p → WW X (sh, adr, 0, 0) 85 [.ref o, .ref a1, .int v2, .retAddr 0, .retAddr 0] [] (mk h r)) : ∀ (n : Nat) (h : HI) (v2 : Int32) (v3 : Int32) (v4 : Int32), fX3_startKey_49 o a1 a1hh k n h v2 v3 v4 = some p → WW X (sh, adr, 0, 0) 49 [.ref o, .ref a1, .int v2, .int v3, .int v4] [] (mk h r) := by
  intro n
  induction n with
  | zero =>
    intro h v2 v3 v4 H
    rw [fX3_startKey_49] at H
    cases H
  | succ n ih =>
    intro h v2 v3 v4 H
    rw [fX3_startKey_49] at H
    refine ww_iload C dX3_startKey_49 rfl ?_
    refine ww_aload_n C dX3_startKey_51 0 rfl rfl ?_
    refine wk_getI C dX3_startKey_52 fl_X3_75 hS.1 rfl ?_
    refine ww_icmp_ge C dX3_startKey_55 85 rfl (fun hc => ?_) (fun hc => ?_)
    · rw [if_pos hc] at H
      exact ww_drop [.ref o, .ref a1, .int v2, .retAddr 0, .retAddr 0] (sl_e (sl_e (sl_e (sl_d (sl_d sl_n))))) (hk h v2 H)
    · rw [if_neg hc] at H
      refine ww_iload_n C dX3_startKey_58 3 rfl rfl ?_
      refine ww_aload_n C dX3_startKey_59 0 rfl rfl ?_
      refine wk_getR C dX3_startKey_60 fl_X3_29 hS.1 rfl (tX3_links hS).1 ?_
      refine ww_iload C dX3_startKey_63 rfl ?_
      obtain ⟨hg, H⟩ := gd_of H
      refine wk_iaload C dX3_startKey_65 (tX3_links hS).2.1 (vp_of hg (tX3_links hS).2.2) (v4.toNatClampNeg) rfl ?_
      refine ww_ishr C dX3_startKey_66 ?_
      refine ww_iconst (v := (1 : Int32)) C dX3_startKey_67 (by decide) ?_
      refine ww_iand C dX3_startKey_68 ?_
      refine ww_if_eq C dX3_startKey_69 79 rfl (fun hc => ?_) (fun hc => ?_)
      · rw [if_pos hc] at H
        exact cX3_startKey_79 hS hA1 C hZ E hk ih H
      · rw [if_neg hc] at H
        refine ww_iload_n C dX3_startKey_72 2 rfl rfl ?_
        refine ww_iconst (v := (1 : Int32)) C dX3_startKey_73 (by decide) ?_
        refine ww_iload C dX3_startKey_74 rfl ?_
        refine ww_ishl C dX3_startKey_76 ?_
        refine ww_ior C dX3_startKey_77 ?_
        refine ww_istore_n C dX3_startKey_78 2 rfl (by decide) rfl [.ref o, .ref a1, .int (v2 ||| ((1 : Int32) <<< (v4 &&& 31))), .int v3, .int v4] rfl ?_
        exact cX3_startKey_79 hS hA1 C hZ E hk ih H
def fX3_startKey (o : Nat) (a1 : Nat) (a1hh : Nat) (h : HI) : Option (Int32 × HI) := fX3_startKey_4 o a1 a1hh (fun h3 v2 => ((fX6_dueDeals a1 a1hh h3).bind fun p4 => fX3_startKey_49 o a1 a1hh (fun h6 v2 => some (v2, h6)) FU p4.2 v2 p4.1 (0 : Int32))) FU h (0 : Int32) (0 : Int32)
set_option maxRecDepth 100000 in
set_option maxHeartbeats 4000000 in
theorem ccX3_startKey {l : Launch} {sh : Sh} {adr : Nat → Nat} {r : Nat → Nat → Option Nat} {o : Nat} {hh : Nat} {a1 : Nat} {a1hh : Nat} (hS : PS sh r hh o) (hA1 : SS sh r a1hh a1) {h : HI}  {p : Int32 × HI} (H : fX3_startKey o a1 a1hh h = some p) : CC l yX3_startKey cX3_startKey 5 (some .int) 1 [.ref o, .ref a1] sh adr (mk h r) (fun v τ => v = some (.int p.1) ∧ τ = mk p.2 r) := by
  refine CC.of (by decide) (Nat.le_of_ble_eq_true rfl) 3 [.ref o, .ref a1, .retAddr 0, .retAddr 0, .retAddr 0] rfl (fun X _ C E hZ => ?_)
  rw [fX3_startKey] at H
  refine ww_iconst (v := (0 : Int32)) C dX3_startKey_0 (by decide) ?_
  refine ww_istore_n C dX3_startKey_1 2 rfl (by decide) rfl [.ref o, .ref a1, .int (0 : Int32), .retAddr 0, .retAddr 0] rfl ?_
  refine ww_iconst (v := (0 : Int32)) C dX3_startKey_2 (by decide) ?_
  refine ww_istore_n C dX3_startKey_3 3 rfl (by decide) rfl [.ref o, .ref a1, .int (0 : Int32), .int (0 : Int32), .retAddr 0] rfl ?_
  refine cX3_startKey_4 hS hA1 C hZ E (fun h3 v2 H => ?_) FU h (0 : Int32) (0 : Int32) H
  refine ww_aload_n C dX3_startKey_41 1 rfl rfl ?_
  obtain ⟨p4, hc1, H⟩ := bd_of H
  refine ww_callV C hZ dX3_startKey_42 cw_X3_174 (ccX6_dueDeals hA1 hc1) hA1.1 ⟨by decide, rfl⟩ (by decide) rfl rfl (Nat.le_of_ble_eq_true rfl) ⟨Nat.zero_le _, Nat.zero_le _⟩ (fun v τ hp => ?_)
  obtain ⟨rfl, rfl⟩ := hp
  change WW X _ 45 [.ref o, .ref a1, .int v2, .retAddr 0, .retAddr 0] [.int p4.1] _
  refine ww_istore_n C dX3_startKey_45 3 rfl (by decide) rfl [.ref o, .ref a1, .int v2, .int p4.1, .retAddr 0] rfl ?_
  refine ww_iconst (v := (0 : Int32)) C dX3_startKey_46 (by decide) ?_
  refine ww_istore C dX3_startKey_47 (by decide) rfl [.ref o, .ref a1, .int v2, .int p4.1, .int (0 : Int32)] rfl ?_
  refine cX3_startKey_49 hS hA1 C hZ E (fun h6 v2 H => ?_) FU p4.2 v2 p4.1 (0 : Int32) H
  refine ww_iload_n C dX3_startKey_85 2 rfl rfl ?_
  cases H
  exact ww_iret C E dX3_startKey_86 ⟨rfl, rfl⟩
def fX3_add (o : Nat) (h : HI) (a1 : Int32) (a2 : Int64) : Option (HI) := (if inB a1 4096 then (if (lg_cmp (a2 &&& ((h.2 (o + 1) (a1.toNatClampNeg)) ^^^ (-1 : Int64))) (0 : Int64)) = 0 then some h else (if inB a1 4096 then (if inB a1 4096 then some (uI (uL h (o + 1) (a1.toNatClampNeg) ((h.2 (o + 1) (a1.toNatClampNeg)) ||| a2)) o 14 (1 : Int32)) else none) else none)) else none)
set_option maxRecDepth 100000 in
set_option maxHeartbeats 4000000 in
theorem ccX3_add {l : Launch} {sh : Sh} {adr : Nat → Nat} {r : Nat → Nat → Option Nat} {o : Nat} {hh : Nat} (hS : PS sh r hh o) {h : HI} {a1 : Int32} {a2 : Int64} {p : HI} (H : fX3_add o h a1 a2 = some p) : CC l yX3_add cX3_add 4 none 0 [.ref o, .int a1, .long a2] sh adr (mk h r) (fun v τ => v = none ∧ τ = mk p r) := by
  refine CC.of (by decide) (Nat.le_of_ble_eq_true rfl) 0 [.ref o, .int a1, .long a2, .retAddr 0] rfl (fun X _ C E hZ => ?_)
  rw [fX3_add] at H
  refine ww_lload_n C dX3_add_0 2 rfl rfl ?_
  refine ww_aload_n C dX3_add_1 0 rfl rfl ?_
  refine wk_getR C dX3_add_2 fl_X3_11 hS.1 rfl (tX3_reach hS).1 ?_
  refine ww_iload_n C dX3_add_5 1 rfl rfl ?_
  obtain ⟨hg, H⟩ := gd_of H
  refine wk_laload C dX3_add_6 (tX3_reach hS).2.1 (vp_of hg (tX3_reach hS).2.2) (a1.toNatClampNeg) rfl ?_
  refine ww_ldc2 (v := (-1 : Int64)) C dX3_add_7 kl_X3_193 ?_
  refine ww_lxor C dX3_add_10 ?_
  refine ww_land C dX3_add_11 ?_
  refine ww_lconst (v := (0 : Int64)) C dX3_add_12 (by decide) ?_
  refine ww_lcmp C dX3_add_13 ?_
  refine ww_if_eq C dX3_add_14 32 rfl (fun hc => ?_) (fun hc => ?_)
  · rw [if_pos hc] at H
    cases H
    exact ww_vret C E dX3_add_32 ⟨rfl, rfl⟩
  · rw [if_neg hc] at H
    refine ww_aload_n C dX3_add_17 0 rfl rfl ?_
    refine wk_getR C dX3_add_18 fl_X3_11 hS.1 rfl (tX3_reach hS).1 ?_
    refine ww_iload_n C dX3_add_21 1 rfl rfl ?_
    refine ww_dup2 C dX3_add_22 rfl rfl ?_
    obtain ⟨hg, H⟩ := gd_of H
    refine wk_laload C dX3_add_23 (tX3_reach hS).2.1 (vp_of hg (tX3_reach hS).2.2) (a1.toNatClampNeg) rfl ?_
    refine ww_lload_n C dX3_add_24 2 rfl rfl ?_
    refine ww_lor C dX3_add_25 ?_
    obtain ⟨hg, H⟩ := gd_of H
    refine wk_lastore C dX3_add_26 (tX3_reach hS).2.1 (vp_of hg (tX3_reach hS).2.2) (a1.toNatClampNeg) rfl ?_
    refine ww_aload_n C dX3_add_27 0 rfl rfl ?_
    refine ww_iconst (v := (1 : Int32)) C dX3_add_28 (by decide) ?_
    refine wk_putZ C dX3_add_29 fl_X3_85 hS.1 rfl rfl (Or.inr rfl) ?_
    cases H
    exact ww_vret C E dX3_add_32 ⟨rfl, rfl⟩
def fX3_passedBit (o : Nat) (h : HI) (a1 : Int32) : Option (Int32 × HI) := some (((1 : Int32) <<< ((((h.1 o 10) + (h.1 o 9)) + a1) &&& 31)), h)
set_option maxRecDepth 100000 in
set_option maxHeartbeats 4000000 in
theorem ccX3_passedBit {l : Launch} {sh : Sh} {adr : Nat → Nat} {r : Nat → Nat → Option Nat} {o : Nat} {hh : Nat} (hS : PS sh r hh o) {h : HI} {a1 : Int32} {p : Int32 × HI} (H : fX3_passedBit o h a1 = some p) : CC l yX3_passedBit cX3_passedBit 2 (some .int) 0 [.ref o, .int a1] sh adr (mk h r) (fun v τ => v = some (.int p.1) ∧ τ = mk p.2 r) := by
  refine CC.of (by decide) (Nat.le_of_ble_eq_true rfl) 0 [.ref o, .int a1] rfl (fun X _ C E hZ => ?_)
  rw [fX3_passedBit] at H
  refine ww_iconst (v := (1 : Int32)) C dX3_passedBit_0 (by decide) ?_
  refine ww_aload_n C dX3_passedBit_1 0 rfl rfl ?_
  refine wk_getI C dX3_passedBit_2 fl_X3_75 hS.1 rfl ?_
  refine ww_aload_n C dX3_passedBit_5 0 rfl rfl ?_
  refine wk_getI C dX3_passedBit_6 fl_X3_72 hS.1 rfl ?_
  refine ww_iadd C dX3_passedBit_9 ?_
  refine ww_iload_n C dX3_passedBit_10 1 rfl rfl ?_
  refine ww_iadd C dX3_passedBit_11 ?_
  refine ww_ishl C dX3_passedBit_12 ?_
  cases H
  exact ww_iret C E dX3_passedBit_13 ⟨rfl, rfl⟩
def fX3_worthOf_39 (o : Nat) (hh : Nat) (k : HI → Int32 → Option (Int32 × HI)) (kb : HI → Int32 → Int32 → Int32 → Option (Int32 × HI)) (h : HI) (v1 : Int32) (v2 : Int32) (v3 : Int32) : Option (Int32 × HI) := kb h v1 v2 (v3 + (1 : Int32))
set_option maxRecDepth 100000 in
set_option maxHeartbeats 4000000 in
theorem cX3_worthOf_39 {X : CT} {sh : Sh} {adr : Nat → Nat} {r : Nat → Nat → Option Nat} {o : Nat} {hh : Nat} {p : Int32 × HI} (hS : PS sh r hh o) (C : CX X yX3_worthOf.cls cX3_worthOf 4 1) (hZ : SZX X adr) (E : RX X (some .int) sh adr (fun v τ => v = some (.int p.1) ∧ τ = mk p.2 r)) {k : HI → Int32 → Option (Int32 × HI)} {kb : HI → Int32 → Int32 → Int32 → Option (Int32 × HI)} (hk : ∀ (h : HI) (v2 : Int32), k h v2 = some p → WW X (sh, adr, 0, 0) 45 [.ref o, .retAddr 0, .int v2, .retAddr 0] [] (mk h r)) (hb : ∀ (h : HI) (v1 : Int32) (v2 : Int32) (v3 : Int32), kb h v1 v2 v3 = some p → WW X (sh, adr, 0, 0) 4 [.ref o, .int v1, .int v2, .int v3] [] (mk h r)) {h : HI} {v1 : Int32} {v2 : Int32} {v3 : Int32} (H : fX3_worthOf_39 o hh k kb h v1 v2 v3 = some p) : WW X (sh, adr, 0, 0) 39 [.ref o, .int v1, .int v2, .int v3] [] (mk h r) := by
  rw [fX3_worthOf_39] at H
  refine ww_iinc (v := (v3 + (1 : Int32))) C dX3_worthOf_39 rfl rfl (by decide) rfl [.ref o, .int v1, .int v2, .int (v3 + (1 : Int32))] rfl ?_
  refine ww_goto C dX3_worthOf_42 4 rfl ?_
  exact hb h v1 v2 (v3 + (1 : Int32)) H
def fX3_worthOf_4 (o : Nat) (hh : Nat) (k : HI → Int32 → Option (Int32 × HI)) : Nat → HI → Int32 → Int32 → Int32 → Option (Int32 × HI)
  | 0, _, _, _, _ => none
  | n + 1, h, v1, v2, v3 => (if (h.1 o 9) ≤ v3 then k h v2 else ((fX3_passedBit o h v3).bind fun p1 => (if (v1 &&& p1.1) = 0 then fX3_worthOf_39 o hh (k) (fX3_worthOf_4 o hh k n) p1.2 v1 v2 v3 else (if inB v3 4 then (if inB (p1.2.1 (o + 4) (v3.toNatClampNeg)) 4 then fX3_worthOf_39 o hh (k) (fX3_worthOf_4 o hh k n) p1.2 v1 (v2 + (p1.2.1 (hh + 10) ((p1.2.1 (o + 4) (v3.toNatClampNeg)).toNatClampNeg))) v3 else none) else none))))
set_option maxRecDepth 100000 in
set_option maxHeartbeats 4000000 in
theorem cX3_worthOf_4 {X : CT} {sh : Sh} {adr : Nat → Nat} {r : Nat → Nat → Option Nat} {o : Nat} {hh : Nat} {p : Int32 × HI} (hS : PS sh r hh o) (C : CX X yX3_worthOf.cls cX3_worthOf 4 1) (hZ : SZX X adr) (E : RX X (some .int) sh adr (fun v τ => v = some (.int p.1) ∧ τ = mk p.2 r)) {k : HI → Int32 → Option (Int32 × HI)} (hk : ∀ (h : HI) (v2 : Int32), k h v2 = some p → WW X (sh, adr, 0, 0) 45 [.ref o, .retAddr 0, .int v2, .retAddr 0] [] (mk h r)) : ∀ (n : Nat) (h : HI) (v1 : Int32) (v2 : Int32) (v3 : Int32), fX3_worthOf_4 o hh k n h v1 v2 v3 = some p → WW X (sh, adr, 0, 0) 4 [.ref o, .int v1, .int v2, .int v3] [] (mk h r) := by
  intro n
  induction n with
  | zero =>
    intro h v1 v2 v3 H
    rw [fX3_worthOf_4] at H
    cases H
  | succ n ih =>
    intro h v1 v2 v3 H
    rw [fX3_worthOf_4] at H
    refine ww_iload_n C dX3_worthOf_4 3 rfl rfl ?_
    refine ww_aload_n C dX3_worthOf_5 0 rfl rfl ?_
    refine wk_getI C dX3_worthOf_6 fl_X3_72 hS.1 rfl ?_
    refine ww_icmp_ge C dX3_worthOf_9 45 rfl (fun hc => ?_) (fun hc => ?_)
    · rw [if_pos hc] at H
      exact ww_drop [.ref o, .retAddr 0, .int v2, .retAddr 0] (sl_e (sl_d (sl_e (sl_d sl_n)))) (hk h v2 H)
    · rw [if_neg hc] at H
      refine ww_iload_n C dX3_worthOf_12 1 rfl rfl ?_
      refine ww_aload_n C dX3_worthOf_13 0 rfl rfl ?_
      refine ww_iload_n C dX3_worthOf_14 3 rfl rfl ?_
      obtain ⟨p1, hc1, H⟩ := bd_of H
      refine ww_callV C hZ dX3_worthOf_15 cw_X3_195 (ccX3_passedBit hS hc1) hS.1 ⟨by decide, rfl⟩ (by decide) rfl rfl (Nat.le_of_ble_eq_true rfl) ⟨Nat.zero_le _, Nat.zero_le _⟩ (fun v τ hp => ?_)
      obtain ⟨rfl, rfl⟩ := hp
      change WW X _ 18 [.ref o, .int v1, .int v2, .int v3] [.int p1.1, .int v1] _
      refine ww_iand C dX3_worthOf_18 ?_
      refine ww_if_eq C dX3_worthOf_19 39 rfl (fun hc => ?_) (fun hc => ?_)
      · rw [if_pos hc] at H
        exact cX3_worthOf_39 hS C hZ E hk ih H
      · rw [if_neg hc] at H
        refine ww_iload_n C dX3_worthOf_22 2 rfl rfl ?_
        refine ww_aload_n C dX3_worthOf_23 0 rfl rfl ?_
        refine wk_getA C dX3_worthOf_24 fl_X3_38 hS.1 rfl (tX3_hall hS).1 ?_
        refine wk_getR C dX3_worthOf_27 fl_X3_114 (tX3_hall hS).2.1 rfl (tX1_worth (tX3_hall hS).2).1 ?_
        refine ww_aload_n C dX3_worthOf_30 0 rfl rfl ?_
        refine wk_getR C dX3_worthOf_31 fl_X3_22 hS.1 rfl (tX3_goals hS).1 ?_
        refine ww_iload_n C dX3_worthOf_34 3 rfl rfl ?_
        obtain ⟨hg, H⟩ := gd_of H
        refine wk_iaload C dX3_worthOf_35 (tX3_goals hS).2.1 (vp_of hg (tX3_goals hS).2.2) (v3.toNatClampNeg) rfl ?_
        obtain ⟨hg, H⟩ := gd_of H
        refine wk_iaload C dX3_worthOf_36 (tX1_worth (tX3_hall hS).2).2.1 (vp_of hg (tX1_worth (tX3_hall hS).2).2.2) ((p1.2.1 (o + 4) (v3.toNatClampNeg)).toNatClampNeg) rfl ?_
        refine ww_iadd C dX3_worthOf_37 ?_
        refine ww_istore_n C dX3_worthOf_38 2 rfl (by decide) rfl [.ref o, .int v1, .int (v2 + (p1.2.1 (hh + 10) ((p1.2.1 (o + 4) (v3.toNatClampNeg)).toNatClampNeg))), .int v3] rfl ?_
        exact cX3_worthOf_39 hS C hZ E hk ih H
def fX3_worthOf (o : Nat) (hh : Nat) (h : HI) (a1 : Int32) : Option (Int32 × HI) := fX3_worthOf_4 o hh (fun h3 v2 => some (v2, h3)) FU h a1 (0 : Int32) (0 : Int32)
set_option maxRecDepth 100000 in
set_option maxHeartbeats 4000000 in
theorem ccX3_worthOf {l : Launch} {sh : Sh} {adr : Nat → Nat} {r : Nat → Nat → Option Nat} {o : Nat} {hh : Nat} (hS : PS sh r hh o) {h : HI} {a1 : Int32} {p : Int32 × HI} (H : fX3_worthOf o hh h a1 = some p) : CC l yX3_worthOf cX3_worthOf 4 (some .int) 1 [.ref o, .int a1] sh adr (mk h r) (fun v τ => v = some (.int p.1) ∧ τ = mk p.2 r) := by
  refine CC.of (by decide) (Nat.le_of_ble_eq_true rfl) 2 [.ref o, .int a1, .retAddr 0, .retAddr 0] rfl (fun X _ C E hZ => ?_)
  rw [fX3_worthOf] at H
  refine ww_iconst (v := (0 : Int32)) C dX3_worthOf_0 (by decide) ?_
  refine ww_istore_n C dX3_worthOf_1 2 rfl (by decide) rfl [.ref o, .int a1, .int (0 : Int32), .retAddr 0] rfl ?_
  refine ww_iconst (v := (0 : Int32)) C dX3_worthOf_2 (by decide) ?_
  refine ww_istore_n C dX3_worthOf_3 3 rfl (by decide) rfl [.ref o, .int a1, .int (0 : Int32), .int (0 : Int32)] rfl ?_
  refine cX3_worthOf_4 hS C hZ E (fun h3 v2 H => ?_) FU h a1 (0 : Int32) (0 : Int32) H
  refine ww_iload_n C dX3_worthOf_45 2 rfl rfl ?_
  cases H
  exact ww_iret C E dX3_worthOf_46 ⟨rfl, rfl⟩
def fX3_voteStep (o : Nat) (hh : Nat) (h : HI) (a1 : Int32) (a2 : Int64) (a4 : Int32) (a5 : Int32) : Option (HI) := (if inB a4 4 then (if (h.1 (o + 5) (a4.toNatClampNeg)) < 0 then some h else ((fX3_spokenBit o h (h.1 (o + 5) (a4.toNatClampNeg))).bind fun p1 => (if (a1 &&& p1.1) = 0 then some p1.2 else ((fX3_passedBit o p1.2 (h.1 (o + 5) (a4.toNatClampNeg))).bind fun p2 => (if (a1 &&& p2.1) = 0 then (if inB (((h.1 (o + 5) (a4.toNatClampNeg)) * (16 : Int32)) + (a1 &&& (((1 : Int32) <<< ((p2.2.1 o 10) &&& 31)) - (1 : Int32)))) 64 then (if (lg_cmp (a2 &&& (p2.2.2 (o + 2) ((((h.1 (o + 5) (a4.toNatClampNeg)) * (16 : Int32)) + (a1 &&& (((1 : Int32) <<< ((p2.2.1 o 10) &&& 31)) - (1 : Int32)))).toNatClampNeg))) (0 : Int64)) = 0 then some p2.2 else ((fX3_passedBit o p2.2 (h.1 (o + 5) (a4.toNatClampNeg))).bind fun p3 => ((fX3_add o p3.2 (a1 ||| p3.1) (a2 &&& (p2.2.2 (o + 2) ((((h.1 (o + 5) (a4.toNatClampNeg)) * (16 : Int32)) + (a1 &&& (((1 : Int32) <<< ((p2.2.1 o 10) &&& 31)) - (1 : Int32)))).toNatClampNeg)))).bind fun h4 => ((fX3_worthOf o hh h4 (a1 ||| p3.1)).bind fun p5 => (if p5.1 ≤ (p5.2.1 o 13) then some p5.2 else some (uI (uI p5.2 o 13 p5.1) o 15 (a5 + (1 : Int32)))))))) else none) else some p2.2))))) else none)
set_option maxRecDepth 100000 in
set_option maxHeartbeats 4000000 in
theorem ccX3_voteStep {l : Launch} {sh : Sh} {adr : Nat → Nat} {r : Nat → Nat → Option Nat} {o : Nat} {hh : Nat} (hS : PS sh r hh o) {h : HI} {a1 : Int32} {a2 : Int64} {a4 : Int32} {a5 : Int32} {p : HI} (H : fX3_voteStep o hh h a1 a2 a4 a5 = some p) : CC l yX3_voteStep cX3_voteStep 12 none 2 [.ref o, .int a1, .long a2, .int a4, .int a5] sh adr (mk h r) (fun v τ => v = none ∧ τ = mk p r) := by
  refine CC.of (by decide) (Nat.le_of_ble_eq_true rfl) 6 [.ref o, .int a1, .long a2, .retAddr 0, .int a4, .int a5, .retAddr 0, .retAddr 0, .retAddr 0, .retAddr 0, .retAddr 0, .retAddr 0] rfl (fun X _ C E hZ => ?_)
  rw [fX3_voteStep] at H
  refine ww_aload_n C dX3_voteStep_0 0 rfl rfl ?_
  refine wk_getR C dX3_voteStep_1 fl_X3_26 hS.1 rfl (tX3_goalOf hS).1 ?_
  refine ww_iload C dX3_voteStep_4 rfl ?_
  obtain ⟨hg, H⟩ := gd_of H
  refine wk_iaload C dX3_voteStep_6 (tX3_goalOf hS).2.1 (vp_of hg (tX3_goalOf hS).2.2) (a4.toNatClampNeg) rfl ?_
  refine ww_istore C dX3_voteStep_7 (by decide) rfl [.ref o, .int a1, .long a2, .retAddr 0, .int a4, .int a5, .int (h.1 (o + 5) (a4.toNatClampNeg)), .retAddr 0, .retAddr 0, .retAddr 0, .retAddr 0, .retAddr 0] rfl ?_
  refine ww_iload C dX3_voteStep_9 rfl ?_
  refine ww_if_lt C dX3_voteStep_11 36 rfl (fun hc => ?_) (fun hc => ?_)
  · rw [if_pos hc] at H
    cases H
    exact ww_vret C E dX3_voteStep_36 ⟨rfl, rfl⟩
  · rw [if_neg hc] at H
    refine ww_iload_n C dX3_voteStep_14 1 rfl rfl ?_
    refine ww_aload_n C dX3_voteStep_15 0 rfl rfl ?_
    refine ww_iload C dX3_voteStep_16 rfl ?_
    obtain ⟨p1, hc1, H⟩ := bd_of H
    refine ww_callV C hZ dX3_voteStep_18 cw_X3_171 (ccX3_spokenBit hS hc1) hS.1 ⟨by decide, rfl⟩ (by decide) rfl rfl (Nat.le_of_ble_eq_true rfl) ⟨Nat.zero_le _, Nat.zero_le _⟩ (fun v τ hp => ?_)
    obtain ⟨rfl, rfl⟩ := hp
    change WW X _ 21 [.ref o, .int a1, .long a2, .retAddr 0, .int a4, .int a5, .int (h.1 (o + 5) (a4.toNatClampNeg)), .retAddr 0, .retAddr 0, .retAddr 0, .retAddr 0, .retAddr 0] [.int p1.1, .int a1] _
    refine ww_iand C dX3_voteStep_21 ?_
    refine ww_if_eq C dX3_voteStep_22 36 rfl (fun hc => ?_) (fun hc => ?_)
    · rw [if_pos hc] at H
      cases H
      exact ww_vret C E dX3_voteStep_36 ⟨rfl, rfl⟩
    · rw [if_neg hc] at H
      refine ww_iload_n C dX3_voteStep_25 1 rfl rfl ?_
      refine ww_aload_n C dX3_voteStep_26 0 rfl rfl ?_
      refine ww_iload C dX3_voteStep_27 rfl ?_
      obtain ⟨p2, hc1, H⟩ := bd_of H
      refine ww_callV C hZ dX3_voteStep_29 cw_X3_195 (ccX3_passedBit hS hc1) hS.1 ⟨by decide, rfl⟩ (by decide) rfl rfl (Nat.le_of_ble_eq_true rfl) ⟨Nat.zero_le _, Nat.zero_le _⟩ (fun v τ hp => ?_)
      obtain ⟨rfl, rfl⟩ := hp
      change WW X _ 32 [.ref o, .int a1, .long a2, .retAddr 0, .int a4, .int a5, .int (h.1 (o + 5) (a4.toNatClampNeg)), .retAddr 0, .retAddr 0, .retAddr 0, .retAddr 0, .retAddr 0] [.int p2.1, .int a1] _
      refine ww_iand C dX3_voteStep_32 ?_
      refine ww_if_eq C dX3_voteStep_33 37 rfl (fun hc => ?_) (fun hc => ?_)
      · rw [if_pos hc] at H
        refine ww_iload_n C dX3_voteStep_37 1 rfl rfl ?_
        refine ww_iconst (v := (1 : Int32)) C dX3_voteStep_38 (by decide) ?_
        refine ww_aload_n C dX3_voteStep_39 0 rfl rfl ?_
        refine wk_getI C dX3_voteStep_40 fl_X3_75 hS.1 rfl ?_
        refine ww_ishl C dX3_voteStep_43 ?_
        refine ww_iconst (v := (1 : Int32)) C dX3_voteStep_44 (by decide) ?_
        refine ww_isub C dX3_voteStep_45 ?_
        refine ww_iand C dX3_voteStep_46 ?_
        refine ww_istore C dX3_voteStep_47 (by decide) rfl [.ref o, .int a1, .long a2, .retAddr 0, .int a4, .int a5, .int (h.1 (o + 5) (a4.toNatClampNeg)), .int (a1 &&& (((1 : Int32) <<< ((p2.2.1 o 10) &&& 31)) - (1 : Int32))), .retAddr 0, .retAddr 0, .retAddr 0, .retAddr 0] rfl ?_
        refine ww_lload_n C dX3_voteStep_49 2 rfl rfl ?_
        refine ww_aload_n C dX3_voteStep_50 0 rfl rfl ?_
        refine wk_getR C dX3_voteStep_51 fl_X3_15 hS.1 rfl (tX3_passing hS).1 ?_
        refine ww_iload C dX3_voteStep_54 rfl ?_
        refine ww_bipush (v := (16 : Int32)) C dX3_voteStep_56 (by decide) ?_
        refine ww_imul C dX3_voteStep_58 ?_
        refine ww_iload C dX3_voteStep_59 rfl ?_
        refine ww_iadd C dX3_voteStep_61 ?_
        obtain ⟨hg, H⟩ := gd_of H
        refine wk_laload C dX3_voteStep_62 (tX3_passing hS).2.1 (vp_of hg (tX3_passing hS).2.2) ((((h.1 (o + 5) (a4.toNatClampNeg)) * (16 : Int32)) + (a1 &&& (((1 : Int32) <<< ((p2.2.1 o 10) &&& 31)) - (1 : Int32)))).toNatClampNeg) rfl ?_
        refine ww_land C dX3_voteStep_63 ?_
        refine ww_lstore C dX3_voteStep_64 (by decide) rfl [.ref o, .int a1, .long a2, .retAddr 0, .int a4, .int a5, .int (h.1 (o + 5) (a4.toNatClampNeg)), .int (a1 &&& (((1 : Int32) <<< ((p2.2.1 o 10) &&& 31)) - (1 : Int32))), .long (a2 &&& (p2.2.2 (o + 2) ((((h.1 (o + 5) (a4.toNatClampNeg)) * (16 : Int32)) + (a1 &&& (((1 : Int32) <<< ((p2.2.1 o 10) &&& 31)) - (1 : Int32)))).toNatClampNeg))), .retAddr 0, .retAddr 0, .retAddr 0] rfl ?_
        refine ww_lload C dX3_voteStep_66 rfl ?_
        refine ww_lconst (v := (0 : Int64)) C dX3_voteStep_68 (by decide) ?_
        refine ww_lcmp C dX3_voteStep_69 ?_
        refine ww_if_ne C dX3_voteStep_70 74 rfl (fun hc => ?_) (fun hc => ?_)
        · rw [if_neg hc] at H
          refine ww_iload_n C dX3_voteStep_74 1 rfl rfl ?_
          refine ww_aload_n C dX3_voteStep_75 0 rfl rfl ?_
          refine ww_iload C dX3_voteStep_76 rfl ?_
          obtain ⟨p3, hc1, H⟩ := bd_of H
          refine ww_callV C hZ dX3_voteStep_78 cw_X3_195 (ccX3_passedBit hS hc1) hS.1 ⟨by decide, rfl⟩ (by decide) rfl rfl (Nat.le_of_ble_eq_true rfl) ⟨Nat.zero_le _, Nat.zero_le _⟩ (fun v τ hp => ?_)
          obtain ⟨rfl, rfl⟩ := hp
          change WW X _ 81 [.ref o, .int a1, .long a2, .retAddr 0, .int a4, .int a5, .int (h.1 (o + 5) (a4.toNatClampNeg)), .int (a1 &&& (((1 : Int32) <<< ((p2.2.1 o 10) &&& 31)) - (1 : Int32))), .long (a2 &&& (p2.2.2 (o + 2) ((((h.1 (o + 5) (a4.toNatClampNeg)) * (16 : Int32)) + (a1 &&& (((1 : Int32) <<< ((p2.2.1 o 10) &&& 31)) - (1 : Int32)))).toNatClampNeg))), .retAddr 0, .retAddr 0, .retAddr 0] [.int p3.1, .int a1] _
          refine ww_ior C dX3_voteStep_81 ?_
          refine ww_istore C dX3_voteStep_82 (by decide) rfl [.ref o, .int a1, .long a2, .retAddr 0, .int a4, .int a5, .int (h.1 (o + 5) (a4.toNatClampNeg)), .int (a1 &&& (((1 : Int32) <<< ((p2.2.1 o 10) &&& 31)) - (1 : Int32))), .long (a2 &&& (p2.2.2 (o + 2) ((((h.1 (o + 5) (a4.toNatClampNeg)) * (16 : Int32)) + (a1 &&& (((1 : Int32) <<< ((p2.2.1 o 10) &&& 31)) - (1 : Int32)))).toNatClampNeg))), .retAddr 0, .int (a1 ||| p3.1), .retAddr 0] rfl ?_
          refine ww_aload_n C dX3_voteStep_84 0 rfl rfl ?_
          refine ww_iload C dX3_voteStep_85 rfl ?_
          refine ww_lload C dX3_voteStep_87 rfl ?_
          obtain ⟨h4, hc1, H⟩ := bd_of H
          refine ww_callV C hZ dX3_voteStep_89 cw_X3_181 (ccX3_add hS hc1) hS.1 ⟨by decide, rfl⟩ (by decide) rfl rfl (Nat.le_of_ble_eq_true rfl) ⟨Nat.zero_le _, Nat.zero_le _⟩ (fun v τ hp => ?_)
          obtain ⟨rfl, rfl⟩ := hp
          change WW X _ 92 [.ref o, .int a1, .long a2, .retAddr 0, .int a4, .int a5, .int (h.1 (o + 5) (a4.toNatClampNeg)), .int (a1 &&& (((1 : Int32) <<< ((p2.2.1 o 10) &&& 31)) - (1 : Int32))), .long (a2 &&& (p2.2.2 (o + 2) ((((h.1 (o + 5) (a4.toNatClampNeg)) * (16 : Int32)) + (a1 &&& (((1 : Int32) <<< ((p2.2.1 o 10) &&& 31)) - (1 : Int32)))).toNatClampNeg))), .retAddr 0, .int (a1 ||| p3.1), .retAddr 0] [] _
          refine ww_aload_n C dX3_voteStep_92 0 rfl rfl ?_
          refine ww_iload C dX3_voteStep_93 rfl ?_
          obtain ⟨p5, hc1, H⟩ := bd_of H
          refine ww_callV C hZ dX3_voteStep_95 cw_X3_198 (ccX3_worthOf hS hc1) hS.1 ⟨by decide, rfl⟩ (by decide) rfl rfl (Nat.le_of_ble_eq_true rfl) ⟨Nat.zero_le _, Nat.zero_le _⟩ (fun v τ hp => ?_)
          obtain ⟨rfl, rfl⟩ := hp
          change WW X _ 98 [.ref o, .int a1, .long a2, .retAddr 0, .int a4, .int a5, .int (h.1 (o + 5) (a4.toNatClampNeg)), .int (a1 &&& (((1 : Int32) <<< ((p2.2.1 o 10) &&& 31)) - (1 : Int32))), .long (a2 &&& (p2.2.2 (o + 2) ((((h.1 (o + 5) (a4.toNatClampNeg)) * (16 : Int32)) + (a1 &&& (((1 : Int32) <<< ((p2.2.1 o 10) &&& 31)) - (1 : Int32)))).toNatClampNeg))), .retAddr 0, .int (a1 ||| p3.1), .retAddr 0] [.int p5.1] _
          refine ww_istore C dX3_voteStep_98 (by decide) rfl [.ref o, .int a1, .long a2, .retAddr 0, .int a4, .int a5, .int (h.1 (o + 5) (a4.toNatClampNeg)), .int (a1 &&& (((1 : Int32) <<< ((p2.2.1 o 10) &&& 31)) - (1 : Int32))), .long (a2 &&& (p2.2.2 (o + 2) ((((h.1 (o + 5) (a4.toNatClampNeg)) * (16 : Int32)) + (a1 &&& (((1 : Int32) <<< ((p2.2.1 o 10) &&& 31)) - (1 : Int32)))).toNatClampNeg))), .retAddr 0, .int (a1 ||| p3.1), .int p5.1] rfl ?_
          refine ww_iload C dX3_voteStep_100 rfl ?_
          refine ww_aload_n C dX3_voteStep_102 0 rfl rfl ?_
          refine wk_getI C dX3_voteStep_103 fl_X3_49 hS.1 rfl ?_
          refine ww_icmp_le C dX3_voteStep_106 123 rfl (fun hc => ?_) (fun hc => ?_)
          · rw [if_pos hc] at H
            cases H
            exact ww_vret C E dX3_voteStep_123 ⟨rfl, rfl⟩
          · rw [if_neg hc] at H
            refine ww_aload_n C dX3_voteStep_109 0 rfl rfl ?_
            refine ww_iload C dX3_voteStep_110 rfl ?_
            refine wk_putI C dX3_voteStep_112 fl_X3_49 hS.1 rfl rfl ?_
            refine ww_aload_n C dX3_voteStep_115 0 rfl rfl ?_
            refine ww_iload C dX3_voteStep_116 rfl ?_
            refine ww_iconst (v := (1 : Int32)) C dX3_voteStep_118 (by decide) ?_
            refine ww_iadd C dX3_voteStep_119 ?_
            refine wk_putI C dX3_voteStep_120 fl_X3_52 hS.1 rfl rfl ?_
            cases H
            exact ww_vret C E dX3_voteStep_123 ⟨rfl, rfl⟩
        · rw [if_pos hc] at H
          cases H
          exact ww_vret C E dX3_voteStep_73 ⟨rfl, rfl⟩
      · rw [if_neg hc] at H
        cases H
        exact ww_vret C E dX3_voteStep_36 ⟨rfl, rfl⟩
