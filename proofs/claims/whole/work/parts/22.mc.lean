def fX9_readDeal (m : Nat) (h : HI) : Option (HI) := ((fX9_token m h).bind fun h1 => ((fX9_old m h1 (1 : Int32) (-1 : Int32)).bind fun p2 => ((fX9_old m p2.2 (2 : Int32) (-1 : Int32)).bind fun p3 => ((fX9_want m p3.2 (6713202 : Int64)).bind fun h4 => ((fX9_old m h4 (1 : Int32) p2.1).bind fun p5 => ((fX9_old m p5.2 (2 : Int32) p3.1).bind fun p6 => (if (p6.2.1 m 2) ≤ 0 then (if inB ((4 : Int32) * (p6.2.1 m 42)) 16 then (if inB (((4 : Int32) * (p6.2.1 m 42)) + (1 : Int32)) 16 then (if inB (((4 : Int32) * (p6.2.1 m 42)) + (2 : Int32)) 16 then (if inB (((4 : Int32) * (p6.2.1 m 42)) + (3 : Int32)) 16 then some (uI (uI (uI (uI (uI p6.2 (m + 16) (((4 : Int32) * (p6.2.1 m 42)).toNatClampNeg) p2.1) (m + 16) ((((4 : Int32) * (p6.2.1 m 42)) + (1 : Int32)).toNatClampNeg) p3.1) (m + 16) ((((4 : Int32) * (p6.2.1 m 42)) + (2 : Int32)).toNatClampNeg) p5.1) (m + 16) ((((4 : Int32) * (p6.2.1 m 42)) + (3 : Int32)).toNatClampNeg) p6.1) m 42 ((p6.2.1 m 42) + (1 : Int32))) else none) else none) else none) else none) else some p6.2)))))))
set_option maxRecDepth 100000 in
set_option maxHeartbeats 4000000 in
theorem ccX9_readDeal {l : Launch} {sh : Sh} {adr : Nat → Nat} {r : Nat → Nat → Option Nat} {m : Nat} (hS : MS sh r m) {h : HI}  {p : HI} (H : fX9_readDeal m h = some p) : CC l yX9_readDeal cX9_readDeal 5 none 3 [.ref m] sh adr (mk h r) (fun v τ => v = none ∧ τ = mk p r) := by
  refine CC.of (by decide) (Nat.le_of_ble_eq_true rfl) 4 [.ref m, .retAddr 0, .retAddr 0, .retAddr 0, .retAddr 0] rfl (fun X _ C E hZ => ?_)
  rw [fX9_readDeal] at H
  refine ww_aload_n C dX9_readDeal_0 0 rfl rfl ?_
  obtain ⟨h1, hc1, H⟩ := bd_of H
  refine ww_callV C hZ dX9_readDeal_1 cw_X9_272 (ccX9_token hS hc1) hS.1 ⟨by decide, rfl⟩ (by decide) rfl rfl (Nat.le_of_ble_eq_true rfl) ⟨Nat.zero_le _, Nat.zero_le _⟩ (fun v τ hp => ?_)
  obtain ⟨rfl, rfl⟩ := hp
  change WW X _ 4 [.ref m, .retAddr 0, .retAddr 0, .retAddr 0, .retAddr 0] [] _
  refine ww_aload_n C dX9_readDeal_4 0 rfl rfl ?_
  refine ww_iconst (v := (1 : Int32)) C dX9_readDeal_5 (by decide) ?_
  refine ww_iconst (v := (-1 : Int32)) C dX9_readDeal_6 (by decide) ?_
  obtain ⟨p2, hc1, H⟩ := bd_of H
  refine ww_callV C hZ dX9_readDeal_7 cw_X9_347 (ccX9_old hS hc1) hS.1 ⟨by decide, rfl⟩ (by decide) rfl rfl (Nat.le_of_ble_eq_true rfl) ⟨Nat.zero_le _, Nat.zero_le _⟩ (fun v τ hp => ?_)
  obtain ⟨rfl, rfl⟩ := hp
  change WW X _ 10 [.ref m, .retAddr 0, .retAddr 0, .retAddr 0, .retAddr 0] [.int p2.1] _
  refine ww_istore_n C dX9_readDeal_10 1 rfl (by decide) rfl [.ref m, .int p2.1, .retAddr 0, .retAddr 0, .retAddr 0] rfl ?_
  refine ww_aload_n C dX9_readDeal_11 0 rfl rfl ?_
  refine ww_iconst (v := (2 : Int32)) C dX9_readDeal_12 (by decide) ?_
  refine ww_iconst (v := (-1 : Int32)) C dX9_readDeal_13 (by decide) ?_
  obtain ⟨p3, hc1, H⟩ := bd_of H
  refine ww_callV C hZ dX9_readDeal_14 cw_X9_347 (ccX9_old hS hc1) hS.1 ⟨by decide, rfl⟩ (by decide) rfl rfl (Nat.le_of_ble_eq_true rfl) ⟨Nat.zero_le _, Nat.zero_le _⟩ (fun v τ hp => ?_)
  obtain ⟨rfl, rfl⟩ := hp
  change WW X _ 17 [.ref m, .int p2.1, .retAddr 0, .retAddr 0, .retAddr 0] [.int p3.1] _
  refine ww_istore_n C dX9_readDeal_17 2 rfl (by decide) rfl [.ref m, .int p2.1, .int p3.1, .retAddr 0, .retAddr 0] rfl ?_
  refine ww_aload_n C dX9_readDeal_18 0 rfl rfl ?_
  refine ww_ldc2 (v := (6713202 : Int64)) C dX9_readDeal_19 kl_X9_243 ?_
  obtain ⟨h4, hc1, H⟩ := bd_of H
  refine ww_callV C hZ dX9_readDeal_22 cw_X9_275 (ccX9_want hS hc1) hS.1 ⟨by decide, rfl⟩ (by decide) rfl rfl (Nat.le_of_ble_eq_true rfl) ⟨Nat.zero_le _, Nat.zero_le _⟩ (fun v τ hp => ?_)
  obtain ⟨rfl, rfl⟩ := hp
  change WW X _ 25 [.ref m, .int p2.1, .int p3.1, .retAddr 0, .retAddr 0] [] _
  refine ww_aload_n C dX9_readDeal_25 0 rfl rfl ?_
  refine ww_iconst (v := (1 : Int32)) C dX9_readDeal_26 (by decide) ?_
  refine ww_iload_n C dX9_readDeal_27 1 rfl rfl ?_
  obtain ⟨p5, hc1, H⟩ := bd_of H
  refine ww_callV C hZ dX9_readDeal_28 cw_X9_347 (ccX9_old hS hc1) hS.1 ⟨by decide, rfl⟩ (by decide) rfl rfl (Nat.le_of_ble_eq_true rfl) ⟨Nat.zero_le _, Nat.zero_le _⟩ (fun v τ hp => ?_)
  obtain ⟨rfl, rfl⟩ := hp
  change WW X _ 31 [.ref m, .int p2.1, .int p3.1, .retAddr 0, .retAddr 0] [.int p5.1] _
  refine ww_istore_n C dX9_readDeal_31 3 rfl (by decide) rfl [.ref m, .int p2.1, .int p3.1, .int p5.1, .retAddr 0] rfl ?_
  refine ww_aload_n C dX9_readDeal_32 0 rfl rfl ?_
  refine ww_iconst (v := (2 : Int32)) C dX9_readDeal_33 (by decide) ?_
  refine ww_iload_n C dX9_readDeal_34 2 rfl rfl ?_
  obtain ⟨p6, hc1, H⟩ := bd_of H
  refine ww_callV C hZ dX9_readDeal_35 cw_X9_347 (ccX9_old hS hc1) hS.1 ⟨by decide, rfl⟩ (by decide) rfl rfl (Nat.le_of_ble_eq_true rfl) ⟨Nat.zero_le _, Nat.zero_le _⟩ (fun v τ hp => ?_)
  obtain ⟨rfl, rfl⟩ := hp
  change WW X _ 38 [.ref m, .int p2.1, .int p3.1, .int p5.1, .retAddr 0] [.int p6.1] _
  refine ww_istore C dX9_readDeal_38 (by decide) rfl [.ref m, .int p2.1, .int p3.1, .int p5.1, .int p6.1] rfl ?_
  refine ww_aload_n C dX9_readDeal_40 0 rfl rfl ?_
  refine wk_getI C dX9_readDeal_41 fl_X9_216 hS.1 rfl ?_
  refine ww_if_le C dX9_readDeal_44 48 rfl (fun hc => ?_) (fun hc => ?_)
  · rw [if_pos hc] at H
    refine ww_aload_n C dX9_readDeal_48 0 rfl rfl ?_
    refine wk_getR C dX9_readDeal_49 fl_X9_60 hS.1 rfl (tX9_nDeal hS).1 ?_
    refine ww_iconst (v := (4 : Int32)) C dX9_readDeal_52 (by decide) ?_
    refine ww_aload_n C dX9_readDeal_53 0 rfl rfl ?_
    refine wk_getI C dX9_readDeal_54 fl_X9_356 hS.1 rfl ?_
    refine ww_imul C dX9_readDeal_57 ?_
    refine ww_iload_n C dX9_readDeal_58 1 rfl rfl ?_
    obtain ⟨hg, H⟩ := gd_of H
    refine wk_iastore C dX9_readDeal_59 (tX9_nDeal hS).2.1 (vp_of hg (tX9_nDeal hS).2.2) (((4 : Int32) * (p6.2.1 m 42)).toNatClampNeg) rfl ?_
    refine ww_aload_n C dX9_readDeal_60 0 rfl rfl ?_
    refine wk_getR C dX9_readDeal_61 fl_X9_60 hS.1 rfl (tX9_nDeal hS).1 ?_
    refine ww_iconst (v := (4 : Int32)) C dX9_readDeal_64 (by decide) ?_
    refine ww_aload_n C dX9_readDeal_65 0 rfl rfl ?_
    refine wk_getI C dX9_readDeal_66 fl_X9_356 hS.1 rfl ?_
    refine ww_as (v := (p6.2.1 m 42)) (by rw [uI_n (by omega)]) ?_
    refine ww_imul C dX9_readDeal_69 ?_
    refine ww_iconst (v := (1 : Int32)) C dX9_readDeal_70 (by decide) ?_
    refine ww_iadd C dX9_readDeal_71 ?_
    refine ww_iload_n C dX9_readDeal_72 2 rfl rfl ?_
    obtain ⟨hg, H⟩ := gd_of H
    refine wk_iastore C dX9_readDeal_73 (tX9_nDeal hS).2.1 (vp_of hg (tX9_nDeal hS).2.2) ((((4 : Int32) * (p6.2.1 m 42)) + (1 : Int32)).toNatClampNeg) rfl ?_
    refine ww_aload_n C dX9_readDeal_74 0 rfl rfl ?_
    refine wk_getR C dX9_readDeal_75 fl_X9_60 hS.1 rfl (tX9_nDeal hS).1 ?_
    refine ww_iconst (v := (4 : Int32)) C dX9_readDeal_78 (by decide) ?_
    refine ww_aload_n C dX9_readDeal_79 0 rfl rfl ?_
    refine wk_getI C dX9_readDeal_80 fl_X9_356 hS.1 rfl ?_
    refine ww_as (v := (p6.2.1 m 42)) (by rw [uI_n (by omega), uI_n (by omega)]) ?_
    refine ww_imul C dX9_readDeal_83 ?_
    refine ww_iconst (v := (2 : Int32)) C dX9_readDeal_84 (by decide) ?_
    refine ww_iadd C dX9_readDeal_85 ?_
    refine ww_iload_n C dX9_readDeal_86 3 rfl rfl ?_
    obtain ⟨hg, H⟩ := gd_of H
    refine wk_iastore C dX9_readDeal_87 (tX9_nDeal hS).2.1 (vp_of hg (tX9_nDeal hS).2.2) ((((4 : Int32) * (p6.2.1 m 42)) + (2 : Int32)).toNatClampNeg) rfl ?_
    refine ww_aload_n C dX9_readDeal_88 0 rfl rfl ?_
    refine wk_getR C dX9_readDeal_89 fl_X9_60 hS.1 rfl (tX9_nDeal hS).1 ?_
    refine ww_iconst (v := (4 : Int32)) C dX9_readDeal_92 (by decide) ?_
    refine ww_aload_n C dX9_readDeal_93 0 rfl rfl ?_
    refine wk_getI C dX9_readDeal_94 fl_X9_356 hS.1 rfl ?_
    refine ww_as (v := (p6.2.1 m 42)) (by rw [uI_n (by omega), uI_n (by omega), uI_n (by omega)]) ?_
    refine ww_imul C dX9_readDeal_97 ?_
    refine ww_iconst (v := (3 : Int32)) C dX9_readDeal_98 (by decide) ?_
    refine ww_iadd C dX9_readDeal_99 ?_
    refine ww_iload C dX9_readDeal_100 rfl ?_
    obtain ⟨hg, H⟩ := gd_of H
    refine wk_iastore C dX9_readDeal_102 (tX9_nDeal hS).2.1 (vp_of hg (tX9_nDeal hS).2.2) ((((4 : Int32) * (p6.2.1 m 42)) + (3 : Int32)).toNatClampNeg) rfl ?_
    refine ww_aload_n C dX9_readDeal_103 0 rfl rfl ?_
    refine ww_dup C dX9_readDeal_104 rfl ?_
    refine wk_getI C dX9_readDeal_105 fl_X9_356 hS.1 rfl ?_
    refine ww_as (v := (p6.2.1 m 42)) (by rw [uI_n (by omega), uI_n (by omega), uI_n (by omega), uI_n (by omega)]) ?_
    refine ww_iconst (v := (1 : Int32)) C dX9_readDeal_108 (by decide) ?_
    refine ww_iadd C dX9_readDeal_109 ?_
    refine wk_putI C dX9_readDeal_110 fl_X9_356 hS.1 rfl rfl ?_
    cases H
    exact ww_vret C E dX9_readDeal_113 ⟨rfl, rfl⟩
  · rw [if_neg hc] at H
    cases H
    exact ww_vret C E dX9_readDeal_47 ⟨rfl, rfl⟩
def fX9_readNap (m : Nat) (h : HI) : Option (HI) := ((fX9_token m h).bind fun h1 => ((fX9_toldNumber m h1 (1 : Int32) (99 : Int32)).bind fun p2 => some (uI p2.2 m 43 p2.1)))
set_option maxRecDepth 100000 in
set_option maxHeartbeats 4000000 in
theorem ccX9_readNap {l : Launch} {sh : Sh} {adr : Nat → Nat} {r : Nat → Nat → Option Nat} {m : Nat} (hS : MS sh r m) {h : HI}  {p : HI} (H : fX9_readNap m h = some p) : CC l yX9_readNap cX9_readNap 1 none 3 [.ref m] sh adr (mk h r) (fun v τ => v = none ∧ τ = mk p r) := by
  refine CC.of (by decide) (Nat.le_of_ble_eq_true rfl) 0 [.ref m] rfl (fun X _ C E hZ => ?_)
  rw [fX9_readNap] at H
  refine ww_aload_n C dX9_readNap_0 0 rfl rfl ?_
  obtain ⟨h1, hc1, H⟩ := bd_of H
  refine ww_callV C hZ dX9_readNap_1 cw_X9_272 (ccX9_token hS hc1) hS.1 ⟨by decide, rfl⟩ (by decide) rfl rfl (Nat.le_of_ble_eq_true rfl) ⟨Nat.zero_le _, Nat.zero_le _⟩ (fun v τ hp => ?_)
  obtain ⟨rfl, rfl⟩ := hp
  change WW X _ 4 [.ref m] [] _
  refine ww_aload_n C dX9_readNap_4 0 rfl rfl ?_
  refine ww_aload_n C dX9_readNap_5 0 rfl rfl ?_
  refine ww_iconst (v := (1 : Int32)) C dX9_readNap_6 (by decide) ?_
  refine ww_bipush (v := (99 : Int32)) C dX9_readNap_7 (by decide) ?_
  obtain ⟨p2, hc1, H⟩ := bd_of H
  refine ww_callV C hZ dX9_readNap_9 cw_X9_279 (ccX9_toldNumber hS hc1) hS.1 ⟨by decide, rfl⟩ (by decide) rfl rfl (Nat.le_of_ble_eq_true rfl) ⟨Nat.zero_le _, Nat.zero_le _⟩ (fun v τ hp => ?_)
  obtain ⟨rfl, rfl⟩ := hp
  change WW X _ 12 [.ref m] [.int p2.1, .ref m] _
  refine wk_putI C dX9_readNap_12 fl_X9_359 hS.1 rfl rfl ?_
  cases H
  exact ww_vret C E dX9_readNap_15 ⟨rfl, rfl⟩
def fX9_readLine_208 (m : Nat) (h : HI) : Option (HI) := (if (h.1 m 2) = 0 then ((fX9_token m h).bind fun h9 => some h9) else some h)
set_option maxRecDepth 100000 in
set_option maxHeartbeats 4000000 in
theorem cX9_readLine_208 {X : CT} {sh : Sh} {adr : Nat → Nat} {r : Nat → Nat → Option Nat} {m : Nat} {p : HI} (hS : MS sh r m) (C : CX X yX9_readLine.cls cX9_readLine 1 5) (hZ : SZX X adr) (E : RX X none sh adr (fun v τ => v = none ∧ τ = mk p r)) {h : HI} (H : fX9_readLine_208 m h = some p) : WW X (sh, adr, 0, 0) 208 [.ref m] [] (mk h r) := by
  rw [fX9_readLine_208] at H
  refine ww_aload_n C dX9_readLine_208 0 rfl rfl ?_
  refine wk_getI C dX9_readLine_209 fl_X9_216 hS.1 rfl ?_
  refine ww_if_ne C dX9_readLine_212 219 rfl (fun hc => ?_) (fun hc => ?_)
  · rw [if_neg hc] at H
    cases H
    exact ww_vret C E dX9_readLine_219 ⟨rfl, rfl⟩
  · rw [if_pos hc] at H
    refine ww_aload_n C dX9_readLine_215 0 rfl rfl ?_
    obtain ⟨h9, hc1, H⟩ := bd_of H
    refine ww_callV C hZ dX9_readLine_216 cw_X9_272 (ccX9_token hS hc1) hS.1 ⟨by decide, rfl⟩ (by decide) rfl rfl (Nat.le_of_ble_eq_true rfl) ⟨Nat.zero_le _, Nat.zero_le _⟩ (fun v τ hp => ?_)
    obtain ⟨rfl, rfl⟩ := hp
    change WW X _ 219 [.ref m] [] _
    cases H
    exact ww_vret C E dX9_readLine_219 ⟨rfl, rfl⟩
def fX9_readLine_187 (m : Nat) (h : HI) : Option (HI) := (if (h.1 m 2) = 0 then (if (h.1 m 6) = (59 : Int32) then fX9_readLine_208 m h else ((fX9_wrong m h (2 : Int32)).bind fun h10 => fX9_readLine_208 m h10)) else fX9_readLine_208 m h)
set_option maxRecDepth 100000 in
set_option maxHeartbeats 4000000 in
theorem cX9_readLine_187 {X : CT} {sh : Sh} {adr : Nat → Nat} {r : Nat → Nat → Option Nat} {m : Nat} {p : HI} (hS : MS sh r m) (C : CX X yX9_readLine.cls cX9_readLine 1 5) (hZ : SZX X adr) (E : RX X none sh adr (fun v τ => v = none ∧ τ = mk p r)) {h : HI} (H : fX9_readLine_187 m h = some p) : WW X (sh, adr, 0, 0) 187 [.ref m] [] (mk h r) := by
  rw [fX9_readLine_187] at H
  refine ww_aload_n C dX9_readLine_187 0 rfl rfl ?_
  refine wk_getI C dX9_readLine_188 fl_X9_216 hS.1 rfl ?_
  refine ww_if_ne C dX9_readLine_191 208 rfl (fun hc => ?_) (fun hc => ?_)
  · rw [if_neg hc] at H
    exact cX9_readLine_208 hS C hZ E H
  · rw [if_pos hc] at H
    refine ww_aload_n C dX9_readLine_194 0 rfl rfl ?_
    refine wk_getI C dX9_readLine_195 fl_X9_203 hS.1 rfl ?_
    refine ww_bipush (v := (59 : Int32)) C dX9_readLine_198 (by decide) ?_
    refine ww_icmp_eq C dX9_readLine_200 208 rfl (fun hc => ?_) (fun hc => ?_)
    · rw [if_pos hc] at H
      exact cX9_readLine_208 hS C hZ E H
    · rw [if_neg hc] at H
      refine ww_aload_n C dX9_readLine_203 0 rfl rfl ?_
      refine ww_iconst (v := (2 : Int32)) C dX9_readLine_204 (by decide) ?_
      obtain ⟨h10, hc1, H⟩ := bd_of H
      refine ww_callV C hZ dX9_readLine_205 cw_X9_269 (ccX9_wrong hS hc1) hS.1 ⟨by decide, rfl⟩ (by decide) rfl rfl (Nat.le_of_ble_eq_true rfl) ⟨Nat.zero_le _, Nat.zero_le _⟩ (fun v τ hp => ?_)
      obtain ⟨rfl, rfl⟩ := hp
      change WW X _ 208 [.ref m] [] _
      exact cX9_readLine_208 hS C hZ E H
def fX9_readLine_182 (m : Nat) (h : HI) : Option (HI) := ((fX9_wrong m h (2 : Int32)).bind fun h8 => fX9_readLine_187 m h8)
set_option maxRecDepth 100000 in
set_option maxHeartbeats 4000000 in
theorem cX9_readLine_182 {X : CT} {sh : Sh} {adr : Nat → Nat} {r : Nat → Nat → Option Nat} {m : Nat} {p : HI} (hS : MS sh r m) (C : CX X yX9_readLine.cls cX9_readLine 1 5) (hZ : SZX X adr) (E : RX X none sh adr (fun v τ => v = none ∧ τ = mk p r)) {h : HI} (H : fX9_readLine_182 m h = some p) : WW X (sh, adr, 0, 0) 182 [.ref m] [] (mk h r) := by
  rw [fX9_readLine_182] at H
  refine ww_aload_n C dX9_readLine_182 0 rfl rfl ?_
  refine ww_iconst (v := (2 : Int32)) C dX9_readLine_183 (by decide) ?_
  obtain ⟨h8, hc1, H⟩ := bd_of H
  refine ww_callV C hZ dX9_readLine_184 cw_X9_269 (ccX9_wrong hS hc1) hS.1 ⟨by decide, rfl⟩ (by decide) rfl rfl (Nat.le_of_ble_eq_true rfl) ⟨Nat.zero_le _, Nat.zero_le _⟩ (fun v τ hp => ?_)
  obtain ⟨rfl, rfl⟩ := hp
  change WW X _ 187 [.ref m] [] _
  exact cX9_readLine_187 hS C hZ E H
def fX9_readLine_158 (m : Nat) (h : HI) : Option (HI) := ((fX9_isWord m h (1885434739 : Int64)).bind fun p7 => (if p7.1 = 0 then fX9_readLine_182 m p7.2 else (if (p7.2.1 m 47) = 0 then ((fX9_readPass m p7.2).bind fun h11 => fX9_readLine_187 m h11) else fX9_readLine_182 m p7.2)))
set_option maxRecDepth 100000 in
set_option maxHeartbeats 4000000 in
theorem cX9_readLine_158 {X : CT} {sh : Sh} {adr : Nat → Nat} {r : Nat → Nat → Option Nat} {m : Nat} {p : HI} (hS : MS sh r m) (C : CX X yX9_readLine.cls cX9_readLine 1 5) (hZ : SZX X adr) (E : RX X none sh adr (fun v τ => v = none ∧ τ = mk p r)) {h : HI} (H : fX9_readLine_158 m h = some p) : WW X (sh, adr, 0, 0) 158 [.ref m] [] (mk h r) := by
  rw [fX9_readLine_158] at H
  refine ww_aload_n C dX9_readLine_158 0 rfl rfl ?_
  refine ww_ldc2 (v := (1885434739 : Int64)) C dX9_readLine_159 kl_X9_247 ?_
  obtain ⟨p7, hc1, H⟩ := bd_of H
  refine ww_callV C hZ dX9_readLine_162 cw_X9_265 (ccX9_isWord hS hc1) hS.1 ⟨by decide, rfl⟩ (by decide) rfl rfl (Nat.le_of_ble_eq_true rfl) ⟨Nat.zero_le _, Nat.zero_le _⟩ (fun v τ hp => ?_)
  obtain ⟨rfl, rfl⟩ := hp
  change WW X _ 165 [.ref m] [.int p7.1] _
  refine ww_if_eq C dX9_readLine_165 182 rfl (fun hc => ?_) (fun hc => ?_)
  · rw [if_pos hc] at H
    exact cX9_readLine_182 hS C hZ E H
  · rw [if_neg hc] at H
    refine ww_aload_n C dX9_readLine_168 0 rfl rfl ?_
    refine wk_getZ C dX9_readLine_169 fl_X9_324 hS.1 rfl ?_
    refine ww_if_ne C dX9_readLine_172 182 rfl (fun hc => ?_) (fun hc => ?_)
    · rw [if_neg hc] at H
      exact cX9_readLine_182 hS C hZ E H
    · rw [if_pos hc] at H
      refine ww_aload_n C dX9_readLine_175 0 rfl rfl ?_
      obtain ⟨h11, hc1, H⟩ := bd_of H
      refine ww_callV C hZ dX9_readLine_176 cw_X9_380 (ccX9_readPass hS hc1) hS.1 ⟨by decide, rfl⟩ (by decide) rfl rfl (Nat.le_of_ble_eq_true rfl) ⟨Nat.zero_le _, Nat.zero_le _⟩ (fun v τ hp => ?_)
      obtain ⟨rfl, rfl⟩ := hp
      change WW X _ 179 [.ref m] [] _
      refine ww_goto C dX9_readLine_179 187 rfl ?_
      exact cX9_readLine_187 hS C hZ E H
def fX9_readLine_134 (m : Nat) (h : HI) : Option (HI) := ((fX9_isWord m h (7233904 : Int64)).bind fun p6 => (if p6.1 = 0 then fX9_readLine_158 m p6.2 else (if (p6.2.1 m 43) = 0 then ((fX9_readNap m p6.2).bind fun h12 => fX9_readLine_187 m h12) else fX9_readLine_158 m p6.2)))
set_option maxRecDepth 100000 in
set_option maxHeartbeats 4000000 in
theorem cX9_readLine_134 {X : CT} {sh : Sh} {adr : Nat → Nat} {r : Nat → Nat → Option Nat} {m : Nat} {p : HI} (hS : MS sh r m) (C : CX X yX9_readLine.cls cX9_readLine 1 5) (hZ : SZX X adr) (E : RX X none sh adr (fun v τ => v = none ∧ τ = mk p r)) {h : HI} (H : fX9_readLine_134 m h = some p) : WW X (sh, adr, 0, 0) 134 [.ref m] [] (mk h r) := by
  rw [fX9_readLine_134] at H
  refine ww_aload_n C dX9_readLine_134 0 rfl rfl ?_
  refine ww_ldc2 (v := (7233904 : Int64)) C dX9_readLine_135 kl_X9_245 ?_
  obtain ⟨p6, hc1, H⟩ := bd_of H
  refine ww_callV C hZ dX9_readLine_138 cw_X9_265 (ccX9_isWord hS hc1) hS.1 ⟨by decide, rfl⟩ (by decide) rfl rfl (Nat.le_of_ble_eq_true rfl) ⟨Nat.zero_le _, Nat.zero_le _⟩ (fun v τ hp => ?_)
  obtain ⟨rfl, rfl⟩ := hp
  change WW X _ 141 [.ref m] [.int p6.1] _
  refine ww_if_eq C dX9_readLine_141 158 rfl (fun hc => ?_) (fun hc => ?_)
  · rw [if_pos hc] at H
    exact cX9_readLine_158 hS C hZ E H
  · rw [if_neg hc] at H
    refine ww_aload_n C dX9_readLine_144 0 rfl rfl ?_
    refine wk_getI C dX9_readLine_145 fl_X9_359 hS.1 rfl ?_
    refine ww_if_ne C dX9_readLine_148 158 rfl (fun hc => ?_) (fun hc => ?_)
    · rw [if_neg hc] at H
      exact cX9_readLine_158 hS C hZ E H
    · rw [if_pos hc] at H
      refine ww_aload_n C dX9_readLine_151 0 rfl rfl ?_
      obtain ⟨h12, hc1, H⟩ := bd_of H
      refine ww_callV C hZ dX9_readLine_152 cw_X9_377 (ccX9_readNap hS hc1) hS.1 ⟨by decide, rfl⟩ (by decide) rfl rfl (Nat.le_of_ble_eq_true rfl) ⟨Nat.zero_le _, Nat.zero_le _⟩ (fun v τ hp => ?_)
      obtain ⟨rfl, rfl⟩ := hp
      change WW X _ 155 [.ref m] [] _
      refine ww_goto C dX9_readLine_155 187 rfl ?_
      exact cX9_readLine_187 hS C hZ E H
def fX9_readLine_109 (m : Nat) (h : HI) : Option (HI) := ((fX9_isWord m h (1684365676 : Int64)).bind fun p5 => (if p5.1 = 0 then fX9_readLine_134 m p5.2 else (if (4 : Int32) ≤ (p5.2.1 m 42) then fX9_readLine_134 m p5.2 else ((fX9_readDeal m p5.2).bind fun h13 => fX9_readLine_187 m h13))))
set_option maxRecDepth 100000 in
set_option maxHeartbeats 4000000 in
theorem cX9_readLine_109 {X : CT} {sh : Sh} {adr : Nat → Nat} {r : Nat → Nat → Option Nat} {m : Nat} {p : HI} (hS : MS sh r m) (C : CX X yX9_readLine.cls cX9_readLine 1 5) (hZ : SZX X adr) (E : RX X none sh adr (fun v τ => v = none ∧ τ = mk p r)) {h : HI} (H : fX9_readLine_109 m h = some p) : WW X (sh, adr, 0, 0) 109 [.ref m] [] (mk h r) := by
  rw [fX9_readLine_109] at H
  refine ww_aload_n C dX9_readLine_109 0 rfl rfl ?_
  refine ww_ldc2 (v := (1684365676 : Int64)) C dX9_readLine_110 kl_X9_241 ?_
  obtain ⟨p5, hc1, H⟩ := bd_of H
  refine ww_callV C hZ dX9_readLine_113 cw_X9_265 (ccX9_isWord hS hc1) hS.1 ⟨by decide, rfl⟩ (by decide) rfl rfl (Nat.le_of_ble_eq_true rfl) ⟨Nat.zero_le _, Nat.zero_le _⟩ (fun v τ hp => ?_)
  obtain ⟨rfl, rfl⟩ := hp
  change WW X _ 116 [.ref m] [.int p5.1] _
  refine ww_if_eq C dX9_readLine_116 134 rfl (fun hc => ?_) (fun hc => ?_)
  · rw [if_pos hc] at H
    exact cX9_readLine_134 hS C hZ E H
  · rw [if_neg hc] at H
    refine ww_aload_n C dX9_readLine_119 0 rfl rfl ?_
    refine wk_getI C dX9_readLine_120 fl_X9_356 hS.1 rfl ?_
    refine ww_iconst (v := (4 : Int32)) C dX9_readLine_123 (by decide) ?_
    refine ww_icmp_ge C dX9_readLine_124 134 rfl (fun hc => ?_) (fun hc => ?_)
    · rw [if_pos hc] at H
      exact cX9_readLine_134 hS C hZ E H
    · rw [if_neg hc] at H
      refine ww_aload_n C dX9_readLine_127 0 rfl rfl ?_
      obtain ⟨h13, hc1, H⟩ := bd_of H
      refine ww_callV C hZ dX9_readLine_128 cw_X9_374 (ccX9_readDeal hS hc1) hS.1 ⟨by decide, rfl⟩ (by decide) rfl rfl (Nat.le_of_ble_eq_true rfl) ⟨Nat.zero_le _, Nat.zero_le _⟩ (fun v τ hp => ?_)
      obtain ⟨rfl, rfl⟩ := hp
      change WW X _ 131 [.ref m] [] _
      refine ww_goto C dX9_readLine_131 187 rfl ?_
      exact cX9_readLine_187 hS C hZ E H
def fX9_readLine_83 (m : Nat) (h : HI) : Option (HI) := ((fX9_isWord m h (2003399528 : Int64)).bind fun p4 => (if p4.1 = 0 then fX9_readLine_109 m p4.2 else (if (24 : Int32) ≤ (p4.2.1 m 41) then fX9_readLine_109 m p4.2 else ((fX9_readWish m p4.2).bind fun h14 => fX9_readLine_187 m h14))))
set_option maxRecDepth 100000 in
set_option maxHeartbeats 4000000 in
theorem cX9_readLine_83 {X : CT} {sh : Sh} {adr : Nat → Nat} {r : Nat → Nat → Option Nat} {m : Nat} {p : HI} (hS : MS sh r m) (C : CX X yX9_readLine.cls cX9_readLine 1 5) (hZ : SZX X adr) (E : RX X none sh adr (fun v τ => v = none ∧ τ = mk p r)) {h : HI} (H : fX9_readLine_83 m h = some p) : WW X (sh, adr, 0, 0) 83 [.ref m] [] (mk h r) := by
  rw [fX9_readLine_83] at H
  refine ww_aload_n C dX9_readLine_83 0 rfl rfl ?_
  refine ww_ldc2 (v := (2003399528 : Int64)) C dX9_readLine_84 kl_X9_239 ?_
  obtain ⟨p4, hc1, H⟩ := bd_of H
  refine ww_callV C hZ dX9_readLine_87 cw_X9_265 (ccX9_isWord hS hc1) hS.1 ⟨by decide, rfl⟩ (by decide) rfl rfl (Nat.le_of_ble_eq_true rfl) ⟨Nat.zero_le _, Nat.zero_le _⟩ (fun v τ hp => ?_)
  obtain ⟨rfl, rfl⟩ := hp
  change WW X _ 90 [.ref m] [.int p4.1] _
  refine ww_if_eq C dX9_readLine_90 109 rfl (fun hc => ?_) (fun hc => ?_)
  · rw [if_pos hc] at H
    exact cX9_readLine_109 hS C hZ E H
  · rw [if_neg hc] at H
    refine ww_aload_n C dX9_readLine_93 0 rfl rfl ?_
    refine wk_getI C dX9_readLine_94 fl_X9_353 hS.1 rfl ?_
    refine ww_bipush (v := (24 : Int32)) C dX9_readLine_97 (by decide) ?_
    refine ww_icmp_ge C dX9_readLine_99 109 rfl (fun hc => ?_) (fun hc => ?_)
    · rw [if_pos hc] at H
      exact cX9_readLine_109 hS C hZ E H
    · rw [if_neg hc] at H
      refine ww_aload_n C dX9_readLine_102 0 rfl rfl ?_
      obtain ⟨h14, hc1, H⟩ := bd_of H
      refine ww_callV C hZ dX9_readLine_103 cw_X9_371 (ccX9_readWish hS hc1) hS.1 ⟨by decide, rfl⟩ (by decide) rfl rfl (Nat.le_of_ble_eq_true rfl) ⟨Nat.zero_le _, Nat.zero_le _⟩ (fun v τ hp => ?_)
      obtain ⟨rfl, rfl⟩ := hp
      change WW X _ 106 [.ref m] [] _
      refine ww_goto C dX9_readLine_106 187 rfl ?_
      exact cX9_readLine_187 hS C hZ E H
def fX9_readLine_56 (m : Nat) (h : HI) : Option (HI) := ((fX9_isWord m h (120265333040498 : Int64)).bind fun p3 => (if p3.1 = 0 then fX9_readLine_83 m p3.2 else (if (4 : Int32) ≤ (p3.2.1 (m + 10) 2) then fX9_readLine_83 m p3.2 else ((fX9_readMatter m p3.2).bind fun h15 => fX9_readLine_187 m h15))))
set_option maxRecDepth 100000 in
set_option maxHeartbeats 4000000 in
theorem cX9_readLine_56 {X : CT} {sh : Sh} {adr : Nat → Nat} {r : Nat → Nat → Option Nat} {m : Nat} {p : HI} (hS : MS sh r m) (C : CX X yX9_readLine.cls cX9_readLine 1 5) (hZ : SZX X adr) (E : RX X none sh adr (fun v τ => v = none ∧ τ = mk p r)) {h : HI} (H : fX9_readLine_56 m h = some p) : WW X (sh, adr, 0, 0) 56 [.ref m] [] (mk h r) := by
  rw [fX9_readLine_56] at H
  refine ww_aload_n C dX9_readLine_56 0 rfl rfl ?_
  refine ww_ldc2 (v := (120265333040498 : Int64)) C dX9_readLine_57 kl_X9_235 ?_
  obtain ⟨p3, hc1, H⟩ := bd_of H
  refine ww_callV C hZ dX9_readLine_60 cw_X9_265 (ccX9_isWord hS hc1) hS.1 ⟨by decide, rfl⟩ (by decide) rfl rfl (Nat.le_of_ble_eq_true rfl) ⟨Nat.zero_le _, Nat.zero_le _⟩ (fun v τ hp => ?_)
  obtain ⟨rfl, rfl⟩ := hp
  change WW X _ 63 [.ref m] [.int p3.1] _
  refine ww_if_eq C dX9_readLine_63 83 rfl (fun hc => ?_) (fun hc => ?_)
  · rw [if_pos hc] at H
    exact cX9_readLine_83 hS C hZ E H
  · rw [if_neg hc] at H
    refine ww_aload_n C dX9_readLine_66 0 rfl rfl ?_
    refine wk_getR C dX9_readLine_67 fl_X9_42 hS.1 rfl (tX9_nMany hS).1 ?_
    refine ww_iconst (v := (2 : Int32)) C dX9_readLine_70 (by decide) ?_
    refine wk_iaload C dX9_readLine_71 (tX9_nMany hS).2.1 (vp_of (by decide : inB (2 : Int32) 3) (tX9_nMany hS).2.2) 2 rfl ?_
    refine ww_iconst (v := (4 : Int32)) C dX9_readLine_72 (by decide) ?_
    refine ww_icmp_ge C dX9_readLine_73 83 rfl (fun hc => ?_) (fun hc => ?_)
    · rw [if_pos hc] at H
      exact cX9_readLine_83 hS C hZ E H
    · rw [if_neg hc] at H
      refine ww_aload_n C dX9_readLine_76 0 rfl rfl ?_
      obtain ⟨h15, hc1, H⟩ := bd_of H
      refine ww_callV C hZ dX9_readLine_77 cw_X9_368 (ccX9_readMatter hS hc1) hS.1 ⟨by decide, rfl⟩ (by decide) rfl rfl (Nat.le_of_ble_eq_true rfl) ⟨Nat.zero_le _, Nat.zero_le _⟩ (fun v τ hp => ?_)
      obtain ⟨rfl, rfl⟩ := hp
      change WW X _ 80 [.ref m] [] _
      refine ww_goto C dX9_readLine_80 187 rfl ?_
      exact cX9_readLine_187 hS C hZ E H
def fX9_readLine_28 (m : Nat) (h : HI) : Option (HI) := ((fX9_isWord m h (7168366 : Int64)).bind fun p2 => (if p2.1 = 0 then fX9_readLine_56 m p2.2 else (if (6 : Int32) ≤ (p2.2.1 (m + 10) 1) then fX9_readLine_56 m p2.2 else ((fX9_readMan m p2.2).bind fun h16 => fX9_readLine_187 m h16))))
set_option maxRecDepth 100000 in
set_option maxHeartbeats 4000000 in
theorem cX9_readLine_28 {X : CT} {sh : Sh} {adr : Nat → Nat} {r : Nat → Nat → Option Nat} {m : Nat} {p : HI} (hS : MS sh r m) (C : CX X yX9_readLine.cls cX9_readLine 1 5) (hZ : SZX X adr) (E : RX X none sh adr (fun v τ => v = none ∧ τ = mk p r)) {h : HI} (H : fX9_readLine_28 m h = some p) : WW X (sh, adr, 0, 0) 28 [.ref m] [] (mk h r) := by
  rw [fX9_readLine_28] at H
  refine ww_aload_n C dX9_readLine_28 0 rfl rfl ?_
  refine ww_ldc2 (v := (7168366 : Int64)) C dX9_readLine_29 kl_X9_229 ?_
  obtain ⟨p2, hc1, H⟩ := bd_of H
  refine ww_callV C hZ dX9_readLine_32 cw_X9_265 (ccX9_isWord hS hc1) hS.1 ⟨by decide, rfl⟩ (by decide) rfl rfl (Nat.le_of_ble_eq_true rfl) ⟨Nat.zero_le _, Nat.zero_le _⟩ (fun v τ hp => ?_)
  obtain ⟨rfl, rfl⟩ := hp
  change WW X _ 35 [.ref m] [.int p2.1] _
  refine ww_if_eq C dX9_readLine_35 56 rfl (fun hc => ?_) (fun hc => ?_)
  · rw [if_pos hc] at H
    exact cX9_readLine_56 hS C hZ E H
  · rw [if_neg hc] at H
    refine ww_aload_n C dX9_readLine_38 0 rfl rfl ?_
    refine wk_getR C dX9_readLine_39 fl_X9_42 hS.1 rfl (tX9_nMany hS).1 ?_
    refine ww_iconst (v := (1 : Int32)) C dX9_readLine_42 (by decide) ?_
    refine wk_iaload C dX9_readLine_43 (tX9_nMany hS).2.1 (vp_of (by decide : inB (1 : Int32) 3) (tX9_nMany hS).2.2) 1 rfl ?_
    refine ww_bipush (v := (6 : Int32)) C dX9_readLine_44 (by decide) ?_
    refine ww_icmp_ge C dX9_readLine_46 56 rfl (fun hc => ?_) (fun hc => ?_)
    · rw [if_pos hc] at H
      exact cX9_readLine_56 hS C hZ E H
    · rw [if_neg hc] at H
      refine ww_aload_n C dX9_readLine_49 0 rfl rfl ?_
      obtain ⟨h16, hc1, H⟩ := bd_of H
      refine ww_callV C hZ dX9_readLine_50 cw_X9_365 (ccX9_readMan hS hc1) hS.1 ⟨by decide, rfl⟩ (by decide) rfl rfl (Nat.le_of_ble_eq_true rfl) ⟨Nat.zero_le _, Nat.zero_le _⟩ (fun v τ hp => ?_)
      obtain ⟨rfl, rfl⟩ := hp
      change WW X _ 53 [.ref m] [] _
      refine ww_goto C dX9_readLine_53 187 rfl ?_
      exact cX9_readLine_187 hS C hZ E H
def fX9_readLine (m : Nat) (h : HI) : Option (HI) := ((fX9_isWord m h (426952976754 : Int64)).bind fun p1 => (if p1.1 = 0 then fX9_readLine_28 m p1.2 else (if (6 : Int32) ≤ (p1.2.1 (m + 10) 0) then fX9_readLine_28 m p1.2 else ((fX9_readChair m p1.2).bind fun h17 => fX9_readLine_187 m h17))))
set_option maxRecDepth 100000 in
set_option maxHeartbeats 4000000 in
theorem ccX9_readLine {l : Launch} {sh : Sh} {adr : Nat → Nat} {r : Nat → Nat → Option Nat} {m : Nat} (hS : MS sh r m) {h : HI}  {p : HI} (H : fX9_readLine m h = some p) : CC l yX9_readLine cX9_readLine 1 none 5 [.ref m] sh adr (mk h r) (fun v τ => v = none ∧ τ = mk p r) := by
  refine CC.of (by decide) (Nat.le_of_ble_eq_true rfl) 0 [.ref m] rfl (fun X _ C E hZ => ?_)
  rw [fX9_readLine] at H
  refine ww_aload_n C dX9_readLine_0 0 rfl rfl ?_
  refine ww_ldc2 (v := (426952976754 : Int64)) C dX9_readLine_1 kl_X9_223 ?_
  obtain ⟨p1, hc1, H⟩ := bd_of H
  refine ww_callV C hZ dX9_readLine_4 cw_X9_265 (ccX9_isWord hS hc1) hS.1 ⟨by decide, rfl⟩ (by decide) rfl rfl (Nat.le_of_ble_eq_true rfl) ⟨Nat.zero_le _, Nat.zero_le _⟩ (fun v τ hp => ?_)
  obtain ⟨rfl, rfl⟩ := hp
  change WW X _ 7 [.ref m] [.int p1.1] _
  refine ww_if_eq C dX9_readLine_7 28 rfl (fun hc => ?_) (fun hc => ?_)
  · rw [if_pos hc] at H
    exact cX9_readLine_28 hS C hZ E H
  · rw [if_neg hc] at H
    refine ww_aload_n C dX9_readLine_10 0 rfl rfl ?_
    refine wk_getR C dX9_readLine_11 fl_X9_42 hS.1 rfl (tX9_nMany hS).1 ?_
    refine ww_iconst (v := (0 : Int32)) C dX9_readLine_14 (by decide) ?_
    refine wk_iaload C dX9_readLine_15 (tX9_nMany hS).2.1 (vp_of (by decide : inB (0 : Int32) 3) (tX9_nMany hS).2.2) 0 rfl ?_
    refine ww_bipush (v := (6 : Int32)) C dX9_readLine_16 (by decide) ?_
    refine ww_icmp_ge C dX9_readLine_18 28 rfl (fun hc => ?_) (fun hc => ?_)
    · rw [if_pos hc] at H
      exact cX9_readLine_28 hS C hZ E H
    · rw [if_neg hc] at H
      refine ww_aload_n C dX9_readLine_21 0 rfl rfl ?_
      obtain ⟨h17, hc1, H⟩ := bd_of H
      refine ww_callV C hZ dX9_readLine_22 cw_X9_362 (ccX9_readChair hS hc1) hS.1 ⟨by decide, rfl⟩ (by decide) rfl rfl (Nat.le_of_ble_eq_true rfl) ⟨Nat.zero_le _, Nat.zero_le _⟩ (fun v τ hp => ?_)
      obtain ⟨rfl, rfl⟩ := hp
      change WW X _ 25 [.ref m] [] _
      refine ww_goto C dX9_readLine_25 187 rfl ?_
      exact cX9_readLine_187 hS C hZ E H
def fX9_readAll_60 (m : Nat) (k : HI → Option (HI)) : Nat → HI → Int32 → Option (HI)
  | 0, _, _ => none
  | n + 1, h, v1 => (if (3 : Int32) ≤ v1 then k h else (if inB v1 3 then fX9_readAll_60 m k n (uI h (m + 10) (v1.toNatClampNeg) (0 : Int32)) (v1 + (1 : Int32)) else none))
set_option maxRecDepth 100000 in
set_option maxHeartbeats 4000000 in
theorem cX9_readAll_60 {X : CT} {sh : Sh} {adr : Nat → Nat} {r : Nat → Nat → Option Nat} {m : Nat} {p : HI} (hS : MS sh r m) (C : CX X yX9_readAll.cls cX9_readAll 2 6) (hZ : SZX X adr) (E : RX X none sh adr (fun v τ => v = none ∧ τ = mk p r)) {k : HI → Option (HI)} (hk : ∀ (h : HI), k h = some p → WW X (sh, adr, 0, 0) 78 [.ref m, .retAddr 0] [] (mk h r)) : ∀ (n : Nat) (h : HI) (v1 : Int32), fX9_readAll_60 m k n h v1 = some p → WW X (sh, adr, 0, 0) 60 [.ref m, .int v1] [] (mk h r) := by
  intro n
  induction n with
  | zero =>
    intro h v1 H
    rw [fX9_readAll_60] at H
    cases H
  | succ n ih =>
    intro h v1 H
    rw [fX9_readAll_60] at H
    refine ww_iload_n C dX9_readAll_60 1 rfl rfl ?_
    refine ww_iconst (v := (3 : Int32)) C dX9_readAll_61 (by decide) ?_
    refine ww_icmp_ge C dX9_readAll_62 78 rfl (fun hc => ?_) (fun hc => ?_)
    · rw [if_pos hc] at H
      exact ww_drop [.ref m, .retAddr 0] (sl_e (sl_d sl_n)) (hk h H)
    · rw [if_neg hc] at H
      refine ww_aload_n C dX9_readAll_65 0 rfl rfl ?_
      refine wk_getR C dX9_readAll_66 fl_X9_42 hS.1 rfl (tX9_nMany hS).1 ?_
      refine ww_iload_n C dX9_readAll_69 1 rfl rfl ?_
      refine ww_iconst (v := (0 : Int32)) C dX9_readAll_70 (by decide) ?_
      obtain ⟨hg, H⟩ := gd_of H
      refine wk_iastore C dX9_readAll_71 (tX9_nMany hS).2.1 (vp_of hg (tX9_nMany hS).2.2) (v1.toNatClampNeg) rfl ?_
      refine ww_iinc (v := (v1 + (1 : Int32))) C dX9_readAll_72 rfl rfl (by decide) rfl [.ref m, .int (v1 + (1 : Int32))] rfl ?_
      refine ww_goto C dX9_readAll_75 60 rfl ?_
      exact ih (uI h (m + 10) (v1.toNatClampNeg) (0 : Int32)) (v1 + (1 : Int32)) H
def fX9_readAll_80 (m : Nat) (k : HI → Option (HI)) : Nat → HI → Int32 → Option (HI)
  | 0, _, _ => none
  | n + 1, h, v1 => (if (24 : Int32) ≤ v1 then k h else (if inB v1 24 then (if inB v1 24 then fX9_readAll_80 m k n (uI (uI h (m + 15) (v1.toNatClampNeg) (0 : Int32)) (m + 24) (v1.toNatClampNeg) (0 : Int32)) (v1 + (1 : Int32)) else none) else none))
set_option maxRecDepth 100000 in
set_option maxHeartbeats 4000000 in
theorem cX9_readAll_80 {X : CT} {sh : Sh} {adr : Nat → Nat} {r : Nat → Nat → Option Nat} {m : Nat} {p : HI} (hS : MS sh r m) (C : CX X yX9_readAll.cls cX9_readAll 2 6) (hZ : SZX X adr) (E : RX X none sh adr (fun v τ => v = none ∧ τ = mk p r)) {k : HI → Option (HI)} (hk : ∀ (h : HI), k h = some p → WW X (sh, adr, 0, 0) 106 [.ref m, .retAddr 0] [] (mk h r)) : ∀ (n : Nat) (h : HI) (v1 : Int32), fX9_readAll_80 m k n h v1 = some p → WW X (sh, adr, 0, 0) 80 [.ref m, .int v1] [] (mk h r) := by
  intro n
  induction n with
  | zero =>
    intro h v1 H
    rw [fX9_readAll_80] at H
    cases H
  | succ n ih =>
    intro h v1 H
    rw [fX9_readAll_80] at H
    refine ww_iload_n C dX9_readAll_80 1 rfl rfl ?_
    refine ww_bipush (v := (24 : Int32)) C dX9_readAll_81 (by decide) ?_
    refine ww_icmp_ge C dX9_readAll_83 106 rfl (fun hc => ?_) (fun hc => ?_)
    · rw [if_pos hc] at H
      exact ww_drop [.ref m, .retAddr 0] (sl_e (sl_d sl_n)) (hk h H)
    · rw [if_neg hc] at H
      refine ww_aload_n C dX9_readAll_86 0 rfl rfl ?_
      refine wk_getR C dX9_readAll_87 fl_X9_57 hS.1 rfl (tX9_nWish hS).1 ?_
      refine ww_iload_n C dX9_readAll_90 1 rfl rfl ?_
      refine ww_iconst (v := (0 : Int32)) C dX9_readAll_91 (by decide) ?_
      obtain ⟨hg, H⟩ := gd_of H
      refine wk_iastore C dX9_readAll_92 (tX9_nWish hS).2.1 (vp_of hg (tX9_nWish hS).2.2) (v1.toNatClampNeg) rfl ?_
      refine ww_aload_n C dX9_readAll_93 0 rfl rfl ?_
      refine wk_getR C dX9_readAll_94 fl_X9_85 hS.1 rfl (tX9_nWished hS).1 ?_
      refine ww_iload_n C dX9_readAll_97 1 rfl rfl ?_
      refine ww_iconst (v := (0 : Int32)) C dX9_readAll_98 (by decide) ?_
      obtain ⟨hg, H⟩ := gd_of H
      refine wk_zastore C dX9_readAll_99 (tX9_nWished hS).2.1 (vp_of hg (tX9_nWished hS).2.2) (v1.toNatClampNeg) rfl (0 : Int32) rfl ?_
      refine ww_iinc (v := (v1 + (1 : Int32))) C dX9_readAll_100 rfl rfl (by decide) rfl [.ref m, .int (v1 + (1 : Int32))] rfl ?_
      refine ww_goto C dX9_readAll_103 80 rfl ?_
      exact ih (uI (uI h (m + 15) (v1.toNatClampNeg) (0 : Int32)) (m + 24) (v1.toNatClampNeg) (0 : Int32)) (v1 + (1 : Int32)) H
def fX9_readAll_110 (m : Nat) (k : HI → Option (HI)) : Nat → HI → Option (HI)
  | 0, _ => none
  | n + 1, h => (if (h.1 m 2) = 0 then (if (h.1 m 6) = 0 then k h else ((fX9_readLine m h).bind fun h6 => fX9_readAll_110 m k n h6)) else k h)
set_option maxRecDepth 100000 in
set_option maxHeartbeats 4000000 in
theorem cX9_readAll_110 {X : CT} {sh : Sh} {adr : Nat → Nat} {r : Nat → Nat → Option Nat} {m : Nat} {p : HI} (hS : MS sh r m) (C : CX X yX9_readAll.cls cX9_readAll 2 6) (hZ : SZX X adr) (E : RX X none sh adr (fun v τ => v = none ∧ τ = mk p r)) {k : HI → Option (HI)} (hk : ∀ (h : HI), k h = some p → WW X (sh, adr, 0, 0) 131 [.ref m, .retAddr 0] [] (mk h r)) : ∀ (n : Nat) (h : HI), fX9_readAll_110 m k n h = some p → WW X (sh, adr, 0, 0) 110 [.ref m, .retAddr 0] [] (mk h r) := by
  intro n
  induction n with
  | zero =>
    intro h H
    rw [fX9_readAll_110] at H
    cases H
  | succ n ih =>
    intro h H
    rw [fX9_readAll_110] at H
    refine ww_aload_n C dX9_readAll_110 0 rfl rfl ?_
    refine wk_getI C dX9_readAll_111 fl_X9_216 hS.1 rfl ?_
    refine ww_if_ne C dX9_readAll_114 131 rfl (fun hc => ?_) (fun hc => ?_)
    · rw [if_neg hc] at H
      exact hk h H
    · rw [if_pos hc] at H
      refine ww_aload_n C dX9_readAll_117 0 rfl rfl ?_
      refine wk_getI C dX9_readAll_118 fl_X9_203 hS.1 rfl ?_
      refine ww_if_eq C dX9_readAll_121 131 rfl (fun hc => ?_) (fun hc => ?_)
      · rw [if_pos hc] at H
        exact hk h H
      · rw [if_neg hc] at H
        refine ww_aload_n C dX9_readAll_124 0 rfl rfl ?_
        obtain ⟨h6, hc1, H⟩ := bd_of H
        refine ww_callV C hZ dX9_readAll_125 cw_X9_383 (ccX9_readLine hS hc1) hS.1 ⟨by decide, rfl⟩ (by decide) rfl rfl (Nat.le_of_ble_eq_true rfl) ⟨Nat.zero_le _, Nat.zero_le _⟩ (fun v τ hp => ?_)
        obtain ⟨rfl, rfl⟩ := hp
        change WW X _ 128 [.ref m, .retAddr 0] [] _
        refine ww_goto C dX9_readAll_128 110 rfl ?_
        exact ih h6 H
def fX9_readAll (m : Nat) (h : HI) : Option (HI) := fX9_readAll_60 m (fun h2 => fX9_readAll_80 m (fun h4 => ((fX9_token m h4).bind fun h5 => fX9_readAll_110 m (fun h8 => some h8) FU h5)) FU h2 (0 : Int32)) FU (uI (uI (uI (uI (uI (uI (uI (uI (uI (uI (uI h m 5 (h.1 m 1)) m 1 (0 : Int32)) m 4 (0 : Int32)) m 2 (0 : Int32)) m 3 (-1 : Int32)) m 17 (0 : Int32)) m 18 (0 : Int32)) m 41 (0 : Int32)) m 42 (0 : Int32)) m 43 (0 : Int32)) m 47 (0 : Int32)) (0 : Int32)
set_option maxRecDepth 100000 in
set_option maxHeartbeats 4000000 in
theorem ccX9_readAll {l : Launch} {sh : Sh} {adr : Nat → Nat} {r : Nat → Nat → Option Nat} {m : Nat} (hS : MS sh r m) {h : HI}  {p : HI} (H : fX9_readAll m h = some p) : CC l yX9_readAll cX9_readAll 2 none 6 [.ref m] sh adr (mk h r) (fun v τ => v = none ∧ τ = mk p r) := by
  refine CC.of (by decide) (Nat.le_of_ble_eq_true rfl) 1 [.ref m, .retAddr 0] rfl (fun X _ C E hZ => ?_)
  rw [fX9_readAll] at H
  refine ww_aload_n C dX9_readAll_0 0 rfl rfl ?_
  refine ww_aload_n C dX9_readAll_1 0 rfl rfl ?_
  refine wk_getI C dX9_readAll_2 fl_X9_176 hS.1 rfl ?_
  refine wk_putI C dX9_readAll_5 fl_X9_186 hS.1 rfl rfl ?_
  refine ww_aload_n C dX9_readAll_8 0 rfl rfl ?_
  refine ww_iconst (v := (0 : Int32)) C dX9_readAll_9 (by decide) ?_
  refine wk_putI C dX9_readAll_10 fl_X9_176 hS.1 rfl rfl ?_
  refine ww_aload_n C dX9_readAll_13 0 rfl rfl ?_
  refine ww_iconst (v := (0 : Int32)) C dX9_readAll_14 (by decide) ?_
  refine wk_putI C dX9_readAll_15 fl_X9_183 hS.1 rfl rfl ?_
  refine ww_aload_n C dX9_readAll_18 0 rfl rfl ?_
  refine ww_iconst (v := (0 : Int32)) C dX9_readAll_19 (by decide) ?_
  refine wk_putI C dX9_readAll_20 fl_X9_216 hS.1 rfl rfl ?_
  refine ww_aload_n C dX9_readAll_23 0 rfl rfl ?_
  refine ww_iconst (v := (-1 : Int32)) C dX9_readAll_24 (by decide) ?_
  refine wk_putI C dX9_readAll_25 fl_X9_13 hS.1 rfl rfl ?_
  refine ww_aload_n C dX9_readAll_28 0 rfl rfl ?_
  refine ww_iconst (v := (0 : Int32)) C dX9_readAll_29 (by decide) ?_
  refine wk_putI C dX9_readAll_30 fl_X9_283 hS.1 rfl rfl ?_
  refine ww_aload_n C dX9_readAll_33 0 rfl rfl ?_
  refine ww_iconst (v := (0 : Int32)) C dX9_readAll_34 (by decide) ?_
  refine wk_putI C dX9_readAll_35 fl_X9_308 hS.1 rfl rfl ?_
  refine ww_aload_n C dX9_readAll_38 0 rfl rfl ?_
  refine ww_iconst (v := (0 : Int32)) C dX9_readAll_39 (by decide) ?_
  refine wk_putI C dX9_readAll_40 fl_X9_353 hS.1 rfl rfl ?_
  refine ww_aload_n C dX9_readAll_43 0 rfl rfl ?_
  refine ww_iconst (v := (0 : Int32)) C dX9_readAll_44 (by decide) ?_
  refine wk_putI C dX9_readAll_45 fl_X9_356 hS.1 rfl rfl ?_
  refine ww_aload_n C dX9_readAll_48 0 rfl rfl ?_
  refine ww_iconst (v := (0 : Int32)) C dX9_readAll_49 (by decide) ?_
  refine wk_putI C dX9_readAll_50 fl_X9_359 hS.1 rfl rfl ?_
  refine ww_aload_n C dX9_readAll_53 0 rfl rfl ?_
  refine ww_iconst (v := (0 : Int32)) C dX9_readAll_54 (by decide) ?_
  refine wk_putZ C dX9_readAll_55 fl_X9_324 hS.1 rfl rfl (Or.inl rfl) ?_
  refine ww_iconst (v := (0 : Int32)) C dX9_readAll_58 (by decide) ?_
  refine ww_istore_n C dX9_readAll_59 1 rfl (by decide) rfl [.ref m, .int (0 : Int32)] rfl ?_
  refine cX9_readAll_60 hS C hZ E (fun h2 H => ?_) FU (uI (uI (uI (uI (uI (uI (uI (uI (uI (uI (uI h m 5 (h.1 m 1)) m 1 (0 : Int32)) m 4 (0 : Int32)) m 2 (0 : Int32)) m 3 (-1 : Int32)) m 17 (0 : Int32)) m 18 (0 : Int32)) m 41 (0 : Int32)) m 42 (0 : Int32)) m 43 (0 : Int32)) m 47 (0 : Int32)) (0 : Int32) H
  refine ww_iconst (v := (0 : Int32)) C dX9_readAll_78 (by decide) ?_
  refine ww_istore_n C dX9_readAll_79 1 rfl (by decide) rfl [.ref m, .int (0 : Int32)] rfl ?_
  refine cX9_readAll_80 hS C hZ E (fun h4 H => ?_) FU h2 (0 : Int32) H
  refine ww_aload_n C dX9_readAll_106 0 rfl rfl ?_
  obtain ⟨h5, hc1, H⟩ := bd_of H
  refine ww_callV C hZ dX9_readAll_107 cw_X9_272 (ccX9_token hS hc1) hS.1 ⟨by decide, rfl⟩ (by decide) rfl rfl (Nat.le_of_ble_eq_true rfl) ⟨Nat.zero_le _, Nat.zero_le _⟩ (fun v τ hp => ?_)
  obtain ⟨rfl, rfl⟩ := hp
  change WW X _ 110 [.ref m, .retAddr 0] [] _
  refine cX9_readAll_110 hS C hZ E (fun h8 H => ?_) FU h5 H
  cases H
  exact ww_vret C E dX9_readAll_131 ⟨rfl, rfl⟩
def fX9_men (m : Nat) (h : HI) : Option (Int32 × HI) := some ((h.1 (m + 11) 1), h)
set_option maxRecDepth 100000 in
set_option maxHeartbeats 4000000 in
theorem ccX9_men {l : Launch} {sh : Sh} {adr : Nat → Nat} {r : Nat → Nat → Option Nat} {m : Nat} (hS : MS sh r m) {h : HI}  {p : Int32 × HI} (H : fX9_men m h = some p) : CC l yX9_men cX9_men 1 (some .int) 0 [.ref m] sh adr (mk h r) (fun v τ => v = some (.int p.1) ∧ τ = mk p.2 r) := by
  refine CC.of (by decide) (Nat.le_of_ble_eq_true rfl) 0 [.ref m] rfl (fun X _ C E hZ => ?_)
  rw [fX9_men] at H
  refine ww_aload_n C dX9_men_0 0 rfl rfl ?_
  refine wk_getR C dX9_men_1 fl_X9_45 hS.1 rfl (tX9_many hS).1 ?_
  refine ww_iconst (v := (1 : Int32)) C dX9_men_4 (by decide) ?_
  refine wk_iaload C dX9_men_5 (tX9_many hS).2.1 (vp_of (by decide : inB (1 : Int32) 3) (tX9_many hS).2.2) 1 rfl ?_
  cases H
  exact ww_iret C E dX9_men_6 ⟨rfl, rfl⟩
def fX9_fresh_36 (m : Nat) (k : HI → Option (HI)) (kb : HI → Int32 → Option (HI)) (h : HI) (v1 : Int32) (s0 : Int32) (s1 : Int32) : Option (HI) := (if inB s1 6 then (if inB v1 6 then (if inB v1 6 then (if inB v1 6 then kb (uI (uI (uI (uI h (m + 27) (s1.toNatClampNeg) s0) (m + 28) (v1.toNatClampNeg) (0 : Int32)) (m + 29) (v1.toNatClampNeg) (0 : Int32)) (m + 30) (v1.toNatClampNeg) (0 : Int32)) (v1 + (1 : Int32)) else none) else none) else none) else none)
set_option maxRecDepth 100000 in
set_option maxHeartbeats 4000000 in
theorem cX9_fresh_36 {X : CT} {sh : Sh} {adr : Nat → Nat} {r : Nat → Nat → Option Nat} {m : Nat} {p : HI} (hS : MS sh r m) (C : CX X yX9_fresh.cls cX9_fresh 2 1) (hZ : SZX X adr) (E : RX X none sh adr (fun v τ => v = none ∧ τ = mk p r)) {k : HI → Option (HI)} {kb : HI → Int32 → Option (HI)} (hk : ∀ (h : HI), k h = some p → WW X (sh, adr, 0, 0) 64 [.ref m, .retAddr 0] [] (mk h r)) (hb : ∀ (h : HI) (v1 : Int32), kb h v1 = some p → WW X (sh, adr, 0, 0) 2 [.ref m, .int v1] [] (mk h r)) {h : HI} {v1 : Int32} {s0 : Int32} {s1 : Int32} (H : fX9_fresh_36 m k kb h v1 s0 s1 = some p) : WW X (sh, adr, 0, 0) 36 [.ref m, .int v1] [.int s0, .int s1, .ref (m + 27)] (mk h r) := by
  rw [fX9_fresh_36] at H
  obtain ⟨hg, H⟩ := gd_of H
  refine wk_iastore C dX9_fresh_36 (tX9_where hS).2.1 (vp_of hg (tX9_where hS).2.2) (s1.toNatClampNeg) rfl ?_
  refine ww_aload_n C dX9_fresh_37 0 rfl rfl ?_
  refine wk_getR C dX9_fresh_38 fl_X9_97 hS.1 rfl (tX9_tired hS).1 ?_
  refine ww_iload_n C dX9_fresh_41 1 rfl rfl ?_
  refine ww_iconst (v := (0 : Int32)) C dX9_fresh_42 (by decide) ?_
  obtain ⟨hg, H⟩ := gd_of H
  refine wk_iastore C dX9_fresh_43 (tX9_tired hS).2.1 (vp_of hg (tX9_tired hS).2.2) (v1.toNatClampNeg) rfl ?_
  refine ww_aload_n C dX9_fresh_44 0 rfl rfl ?_
  refine wk_getR C dX9_fresh_45 fl_X9_100 hS.1 rfl (tX9_satFor hS).1 ?_
  refine ww_iload_n C dX9_fresh_48 1 rfl rfl ?_
  refine ww_iconst (v := (0 : Int32)) C dX9_fresh_49 (by decide) ?_
  obtain ⟨hg, H⟩ := gd_of H
  refine wk_iastore C dX9_fresh_50 (tX9_satFor hS).2.1 (vp_of hg (tX9_satFor hS).2.2) (v1.toNatClampNeg) rfl ?_
  refine ww_aload_n C dX9_fresh_51 0 rfl rfl ?_
  refine wk_getR C dX9_fresh_52 fl_X9_103 hS.1 rfl (tX9_spoke hS).1 ?_
  refine ww_iload_n C dX9_fresh_55 1 rfl rfl ?_
  refine ww_iconst (v := (0 : Int32)) C dX9_fresh_56 (by decide) ?_
  obtain ⟨hg, H⟩ := gd_of H
  refine wk_iastore C dX9_fresh_57 (tX9_spoke hS).2.1 (vp_of hg (tX9_spoke hS).2.2) (v1.toNatClampNeg) rfl ?_
  refine ww_iinc (v := (v1 + (1 : Int32))) C dX9_fresh_58 rfl rfl (by decide) rfl [.ref m, .int (v1 + (1 : Int32))] rfl ?_
  refine ww_goto C dX9_fresh_61 2 rfl ?_
  exact hb (uI (uI (uI (uI h (m + 27) (s1.toNatClampNeg) s0) (m + 28) (v1.toNatClampNeg) (0 : Int32)) (m + 29) (v1.toNatClampNeg) (0 : Int32)) (m + 30) (v1.toNatClampNeg) (0 : Int32)) (v1 + (1 : Int32)) H
def fX9_fresh_35 (m : Nat) (k : HI → Option (HI)) (kb : HI → Int32 → Option (HI)) (h : HI) (v1 : Int32) (s0 : Int32) : Option (HI) := fX9_fresh_36 m k kb h v1 (-1 : Int32) s0
set_option maxRecDepth 100000 in
set_option maxHeartbeats 4000000 in
theorem cX9_fresh_35 {X : CT} {sh : Sh} {adr : Nat → Nat} {r : Nat → Nat → Option Nat} {m : Nat} {p : HI} (hS : MS sh r m) (C : CX X yX9_fresh.cls cX9_fresh 2 1) (hZ : SZX X adr) (E : RX X none sh adr (fun v τ => v = none ∧ τ = mk p r)) {k : HI → Option (HI)} {kb : HI → Int32 → Option (HI)} (hk : ∀ (h : HI), k h = some p → WW X (sh, adr, 0, 0) 64 [.ref m, .retAddr 0] [] (mk h r)) (hb : ∀ (h : HI) (v1 : Int32), kb h v1 = some p → WW X (sh, adr, 0, 0) 2 [.ref m, .int v1] [] (mk h r)) {h : HI} {v1 : Int32} {s0 : Int32} (H : fX9_fresh_35 m k kb h v1 s0 = some p) : WW X (sh, adr, 0, 0) 35 [.ref m, .int v1] [.int s0, .ref (m + 27)] (mk h r) := by
  rw [fX9_fresh_35] at H
  refine ww_iconst (v := (-1 : Int32)) C dX9_fresh_35 (by decide) ?_
  exact cX9_fresh_36 hS C hZ E hk hb H
def fX9_fresh_2 (m : Nat) (k : HI → Option (HI)) : Nat → HI → Int32 → Option (HI)
  | 0, _, _ => none
  | n + 1, h, v1 => (if (6 : Int32) ≤ v1 then k h else ((fX9_men m h).bind fun p1 => (if p1.1 ≤ v1 then fX9_fresh_35 m (k) (fX9_fresh_2 m k n) p1.2 v1 v1 else (if inB v1 6 then (if (p1.2.1 (m + 26) (v1.toNatClampNeg)) = 0 then fX9_fresh_35 m (k) (fX9_fresh_2 m k n) p1.2 v1 v1 else fX9_fresh_36 m (k) (fX9_fresh_2 m k n) p1.2 v1 (-2 : Int32) v1) else none))))
set_option maxRecDepth 100000 in
set_option maxHeartbeats 4000000 in
theorem cX9_fresh_2 {X : CT} {sh : Sh} {adr : Nat → Nat} {r : Nat → Nat → Option Nat} {m : Nat} {p : HI} (hS : MS sh r m) (C : CX X yX9_fresh.cls cX9_fresh 2 1) (hZ : SZX X adr) (E : RX X none sh adr (fun v τ => v = none ∧ τ = mk p r)) {k : HI → Option (HI)} (hk : ∀ (h : HI), k h = some p → WW X (sh, adr, 0, 0) 64 [.ref m, .retAddr 0] [] (mk h r)) : ∀ (n : Nat) (h : HI) (v1 : Int32), fX9_fresh_2 m k n h v1 = some p → WW X (sh, adr, 0, 0) 2 [.ref m, .int v1] [] (mk h r) := by
  intro n
  induction n with
  | zero =>
    intro h v1 H
    rw [fX9_fresh_2] at H
    cases H
  | succ n ih =>
    intro h v1 H
    rw [fX9_fresh_2] at H
    refine ww_iload_n C dX9_fresh_2 1 rfl rfl ?_
    refine ww_bipush (v := (6 : Int32)) C dX9_fresh_3 (by decide) ?_
    refine ww_icmp_ge C dX9_fresh_5 64 rfl (fun hc => ?_) (fun hc => ?_)
    · rw [if_pos hc] at H
      exact ww_drop [.ref m, .retAddr 0] (sl_e (sl_d sl_n)) (hk h H)
    · rw [if_neg hc] at H
      refine ww_aload_n C dX9_fresh_8 0 rfl rfl ?_
      refine wk_getR C dX9_fresh_9 fl_X9_94 hS.1 rfl (tX9_where hS).1 ?_
      refine ww_iload_n C dX9_fresh_12 1 rfl rfl ?_
      refine ww_iload_n C dX9_fresh_13 1 rfl rfl ?_
      refine ww_aload_n C dX9_fresh_14 0 rfl rfl ?_
      obtain ⟨p1, hc1, H⟩ := bd_of H
      refine ww_callV C hZ dX9_fresh_15 cw_X9_417 (ccX9_men hS hc1) hS.1 ⟨by decide, rfl⟩ (by decide) rfl rfl (Nat.le_of_ble_eq_true rfl) ⟨Nat.zero_le _, Nat.zero_le _⟩ (fun v τ hp => ?_)
      obtain ⟨rfl, rfl⟩ := hp
      change WW X _ 18 [.ref m, .int v1] [.int p1.1, .int v1, .int v1, .ref (m + 27)] _
      refine ww_icmp_ge C dX9_fresh_18 35 rfl (fun hc => ?_) (fun hc => ?_)
      · rw [if_pos hc] at H
        exact cX9_fresh_35 hS C hZ E hk ih H
      · rw [if_neg hc] at H
        refine ww_aload_n C dX9_fresh_21 0 rfl rfl ?_
        refine wk_getR C dX9_fresh_22 fl_X9_91 hS.1 rfl (tX9_isTold hS).1 ?_
        refine ww_iload_n C dX9_fresh_25 1 rfl rfl ?_
        obtain ⟨hg, H⟩ := gd_of H
        refine wk_zaload C dX9_fresh_26 (tX9_isTold hS).2.1 (vp_of hg (tX9_isTold hS).2.2) (v1.toNatClampNeg) rfl ?_
        refine ww_if_eq C dX9_fresh_27 35 rfl (fun hc => ?_) (fun hc => ?_)
        · rw [if_pos hc] at H
          exact cX9_fresh_35 hS C hZ E hk ih H
        · rw [if_neg hc] at H
          refine ww_bipush (v := (-2 : Int32)) C dX9_fresh_30 (by decide) ?_
          refine ww_goto C dX9_fresh_32 36 rfl ?_
          exact cX9_fresh_36 hS C hZ E hk ih H
def fX9_fresh_66 (m : Nat) (k : HI → Option (HI)) : Nat → HI → Int32 → Option (HI)
  | 0, _, _ => none
  | n + 1, h, v1 => (if (6 : Int32) ≤ v1 then k h else (if inB v1 6 then (if inB v1 6 then fX9_fresh_66 m k n (uI (uI h (m + 33) (v1.toNatClampNeg) (0 : Int32)) (m + 34) (v1.toNatClampNeg) (0 : Int32)) (v1 + (1 : Int32)) else none) else none))
set_option maxRecDepth 100000 in
set_option maxHeartbeats 4000000 in
theorem cX9_fresh_66 {X : CT} {sh : Sh} {adr : Nat → Nat} {r : Nat → Nat → Option Nat} {m : Nat} {p : HI} (hS : MS sh r m) (C : CX X yX9_fresh.cls cX9_fresh 2 1) (hZ : SZX X adr) (E : RX X none sh adr (fun v τ => v = none ∧ τ = mk p r)) {k : HI → Option (HI)} (hk : ∀ (h : HI), k h = some p → WW X (sh, adr, 0, 0) 92 [.ref m, .retAddr 0] [] (mk h r)) : ∀ (n : Nat) (h : HI) (v1 : Int32), fX9_fresh_66 m k n h v1 = some p → WW X (sh, adr, 0, 0) 66 [.ref m, .int v1] [] (mk h r) := by
  intro n
  induction n with
  | zero =>
    intro h v1 H
    rw [fX9_fresh_66] at H
    cases H
  | succ n ih =>
    intro h v1 H
    rw [fX9_fresh_66] at H
    refine ww_iload_n C dX9_fresh_66 1 rfl rfl ?_
    refine ww_bipush (v := (6 : Int32)) C dX9_fresh_67 (by decide) ?_
    refine ww_icmp_ge C dX9_fresh_69 92 rfl (fun hc => ?_) (fun hc => ?_)
    · rw [if_pos hc] at H
      exact ww_drop [.ref m, .retAddr 0] (sl_e (sl_d sl_n)) (hk h H)
    · rw [if_neg hc] at H
      refine ww_aload_n C dX9_fresh_72 0 rfl rfl ?_
      refine wk_getR C dX9_fresh_73 fl_X9_112 hS.1 rfl (tX9_isBroken hS).1 ?_
      refine ww_iload_n C dX9_fresh_76 1 rfl rfl ?_
      refine ww_iconst (v := (0 : Int32)) C dX9_fresh_77 (by decide) ?_
      obtain ⟨hg, H⟩ := gd_of H
      refine wk_zastore C dX9_fresh_78 (tX9_isBroken hS).2.1 (vp_of hg (tX9_isBroken hS).2.2) (v1.toNatClampNeg) rfl (0 : Int32) rfl ?_
      refine ww_aload_n C dX9_fresh_79 0 rfl rfl ?_
      refine wk_getR C dX9_fresh_80 fl_X9_115 hS.1 rfl (tX9_isFound hS).1 ?_
      refine ww_iload_n C dX9_fresh_83 1 rfl rfl ?_
      refine ww_iconst (v := (0 : Int32)) C dX9_fresh_84 (by decide) ?_
      obtain ⟨hg, H⟩ := gd_of H
      refine wk_zastore C dX9_fresh_85 (tX9_isFound hS).2.1 (vp_of hg (tX9_isFound hS).2.2) (v1.toNatClampNeg) rfl (0 : Int32) rfl ?_
      refine ww_iinc (v := (v1 + (1 : Int32))) C dX9_fresh_86 rfl rfl (by decide) rfl [.ref m, .int (v1 + (1 : Int32))] rfl ?_
      refine ww_goto C dX9_fresh_89 66 rfl ?_
      exact ih (uI (uI h (m + 33) (v1.toNatClampNeg) (0 : Int32)) (m + 34) (v1.toNatClampNeg) (0 : Int32)) (v1 + (1 : Int32)) H
def fX9_fresh_94 (m : Nat) (k : HI → Option (HI)) : Nat → HI → Int32 → Option (HI)
  | 0, _, _ => none
  | n + 1, h, v1 => (if (4 : Int32) ≤ v1 then k h else (if inB v1 4 then fX9_fresh_94 m k n (uI h (m + 31) (v1.toNatClampNeg) (0 : Int32)) (v1 + (1 : Int32)) else none))
set_option maxRecDepth 100000 in
set_option maxHeartbeats 4000000 in
theorem cX9_fresh_94 {X : CT} {sh : Sh} {adr : Nat → Nat} {r : Nat → Nat → Option Nat} {m : Nat} {p : HI} (hS : MS sh r m) (C : CX X yX9_fresh.cls cX9_fresh 2 1) (hZ : SZX X adr) (E : RX X none sh adr (fun v τ => v = none ∧ τ = mk p r)) {k : HI → Option (HI)} (hk : ∀ (h : HI), k h = some p → WW X (sh, adr, 0, 0) 112 [.ref m, .retAddr 0] [] (mk h r)) : ∀ (n : Nat) (h : HI) (v1 : Int32), fX9_fresh_94 m k n h v1 = some p → WW X (sh, adr, 0, 0) 94 [.ref m, .int v1] [] (mk h r) := by
  intro n
  induction n with
  | zero =>
    intro h v1 H
    rw [fX9_fresh_94] at H
    cases H
  | succ n ih =>
    intro h v1 H
    rw [fX9_fresh_94] at H
    refine ww_iload_n C dX9_fresh_94 1 rfl rfl ?_
    refine ww_iconst (v := (4 : Int32)) C dX9_fresh_95 (by decide) ?_
    refine ww_icmp_ge C dX9_fresh_96 112 rfl (fun hc => ?_) (fun hc => ?_)
    · rw [if_pos hc] at H
      exact ww_drop [.ref m, .retAddr 0] (sl_e (sl_d sl_n)) (hk h H)
    · rw [if_neg hc] at H
      refine ww_aload_n C dX9_fresh_99 0 rfl rfl ?_
      refine wk_getR C dX9_fresh_100 fl_X9_106 hS.1 rfl (tX9_state hS).1 ?_
      refine ww_iload_n C dX9_fresh_103 1 rfl rfl ?_
      refine ww_iconst (v := (0 : Int32)) C dX9_fresh_104 (by decide) ?_
      obtain ⟨hg, H⟩ := gd_of H
      refine wk_iastore C dX9_fresh_105 (tX9_state hS).2.1 (vp_of hg (tX9_state hS).2.2) (v1.toNatClampNeg) rfl ?_
      refine ww_iinc (v := (v1 + (1 : Int32))) C dX9_fresh_106 rfl rfl (by decide) rfl [.ref m, .int (v1 + (1 : Int32))] rfl ?_
      refine ww_goto C dX9_fresh_109 94 rfl ?_
      exact ih (uI h (m + 31) (v1.toNatClampNeg) (0 : Int32)) (v1 + (1 : Int32)) H
def fX9_fresh_114 (m : Nat) (k : HI → Option (HI)) : Nat → HI → Int32 → Option (HI)
  | 0, _, _ => none
  | n + 1, h, v1 => (if (4 : Int32) ≤ v1 then k h else (if inB v1 4 then fX9_fresh_114 m k n (uI h (m + 32) (v1.toNatClampNeg) (0 : Int32)) (v1 + (1 : Int32)) else none))
set_option maxRecDepth 100000 in
set_option maxHeartbeats 4000000 in
theorem cX9_fresh_114 {X : CT} {sh : Sh} {adr : Nat → Nat} {r : Nat → Nat → Option Nat} {m : Nat} {p : HI} (hS : MS sh r m) (C : CX X yX9_fresh.cls cX9_fresh 2 1) (hZ : SZX X adr) (E : RX X none sh adr (fun v τ => v = none ∧ τ = mk p r)) {k : HI → Option (HI)} (hk : ∀ (h : HI), k h = some p → WW X (sh, adr, 0, 0) 132 [.ref m, .retAddr 0] [] (mk h r)) : ∀ (n : Nat) (h : HI) (v1 : Int32), fX9_fresh_114 m k n h v1 = some p → WW X (sh, adr, 0, 0) 114 [.ref m, .int v1] [] (mk h r) := by
  intro n
  induction n with
  | zero =>
    intro h v1 H
    rw [fX9_fresh_114] at H
    cases H
  | succ n ih =>
    intro h v1 H
    rw [fX9_fresh_114] at H
    refine ww_iload_n C dX9_fresh_114 1 rfl rfl ?_
    refine ww_iconst (v := (4 : Int32)) C dX9_fresh_115 (by decide) ?_
    refine ww_icmp_ge C dX9_fresh_116 132 rfl (fun hc => ?_) (fun hc => ?_)
    · rw [if_pos hc] at H
      exact ww_drop [.ref m, .retAddr 0] (sl_e (sl_d sl_n)) (hk h H)
    · rw [if_neg hc] at H
      refine ww_aload_n C dX9_fresh_119 0 rfl rfl ?_
      refine wk_getR C dX9_fresh_120 fl_X9_109 hS.1 rfl (tX9_dealState hS).1 ?_
      refine ww_iload_n C dX9_fresh_123 1 rfl rfl ?_
      refine ww_iconst (v := (0 : Int32)) C dX9_fresh_124 (by decide) ?_
      obtain ⟨hg, H⟩ := gd_of H
      refine wk_iastore C dX9_fresh_125 (tX9_dealState hS).2.1 (vp_of hg (tX9_dealState hS).2.2) (v1.toNatClampNeg) rfl ?_
      refine ww_iinc (v := (v1 + (1 : Int32))) C dX9_fresh_126 rfl rfl (by decide) rfl [.ref m, .int (v1 + (1 : Int32))] rfl ?_
      refine ww_goto C dX9_fresh_129 114 rfl ?_
      exact ih (uI h (m + 32) (v1.toNatClampNeg) (0 : Int32)) (v1 + (1 : Int32)) H
def fX9_fresh (m : Nat) (h : HI) : Option (HI) := fX9_fresh_2 m (fun h3 => fX9_fresh_66 m (fun h5 => fX9_fresh_94 m (fun h7 => fX9_fresh_114 m (fun h9 => some (uI (uI (uI h9 m 57 (0 : Int32)) m 58 (0 : Int32)) m 59 (0 : Int32))) FU h7 (0 : Int32)) FU h5 (0 : Int32)) FU h3 (0 : Int32)) FU h (0 : Int32)
set_option maxRecDepth 100000 in
set_option maxHeartbeats 4000000 in
theorem ccX9_fresh {l : Launch} {sh : Sh} {adr : Nat → Nat} {r : Nat → Nat → Option Nat} {m : Nat} (hS : MS sh r m) {h : HI}  {p : HI} (H : fX9_fresh m h = some p) : CC l yX9_fresh cX9_fresh 2 none 1 [.ref m] sh adr (mk h r) (fun v τ => v = none ∧ τ = mk p r) := by
  refine CC.of (by decide) (Nat.le_of_ble_eq_true rfl) 1 [.ref m, .retAddr 0] rfl (fun X _ C E hZ => ?_)
  rw [fX9_fresh] at H
  refine ww_iconst (v := (0 : Int32)) C dX9_fresh_0 (by decide) ?_
  refine ww_istore_n C dX9_fresh_1 1 rfl (by decide) rfl [.ref m, .int (0 : Int32)] rfl ?_
  refine cX9_fresh_2 hS C hZ E (fun h3 H => ?_) FU h (0 : Int32) H
  refine ww_iconst (v := (0 : Int32)) C dX9_fresh_64 (by decide) ?_
  refine ww_istore_n C dX9_fresh_65 1 rfl (by decide) rfl [.ref m, .int (0 : Int32)] rfl ?_
  refine cX9_fresh_66 hS C hZ E (fun h5 H => ?_) FU h3 (0 : Int32) H
  refine ww_iconst (v := (0 : Int32)) C dX9_fresh_92 (by decide) ?_
  refine ww_istore_n C dX9_fresh_93 1 rfl (by decide) rfl [.ref m, .int (0 : Int32)] rfl ?_
  refine cX9_fresh_94 hS C hZ E (fun h7 H => ?_) FU h5 (0 : Int32) H
  refine ww_iconst (v := (0 : Int32)) C dX9_fresh_112 (by decide) ?_
  refine ww_istore_n C dX9_fresh_113 1 rfl (by decide) rfl [.ref m, .int (0 : Int32)] rfl ?_
  refine cX9_fresh_114 hS C hZ E (fun h9 H => ?_) FU h7 (0 : Int32) H
  refine ww_aload_n C dX9_fresh_132 0 rfl rfl ?_
  refine ww_iconst (v := (0 : Int32)) C dX9_fresh_133 (by decide) ?_
  refine wk_putI C dX9_fresh_134 fl_X9_424 hS.1 rfl rfl ?_
  refine ww_aload_n C dX9_fresh_137 0 rfl rfl ?_
  refine ww_iconst (v := (0 : Int32)) C dX9_fresh_138 (by decide) ?_
  refine wk_putI C dX9_fresh_139 fl_X9_427 hS.1 rfl rfl ?_
  refine ww_aload_n C dX9_fresh_142 0 rfl rfl ?_
  refine ww_iconst (v := (0 : Int32)) C dX9_fresh_143 (by decide) ?_
  refine wk_putI C dX9_fresh_144 fl_X9_430 hS.1 rfl rfl ?_
  cases H
  exact ww_vret C E dX9_fresh_147 ⟨rfl, rfl⟩
def fX9_hall_15 (m : Nat) (k : HI → Option (Int32 × HI)) : Nat → HI → Int32 → Option (Int32 × HI)
  | 0, _, _ => none
  | n + 1, h, v1 => (if (3 : Int32) ≤ v1 then k h else (if inB v1 3 then (if inB v1 3 then fX9_hall_15 m k n (uI h (m + 11) (v1.toNatClampNeg) (h.1 (m + 10) (v1.toNatClampNeg))) (v1 + (1 : Int32)) else none) else none))
set_option maxRecDepth 100000 in
set_option maxHeartbeats 4000000 in
theorem cX9_hall_15 {X : CT} {sh : Sh} {adr : Nat → Nat} {r : Nat → Nat → Option Nat} {m : Nat} {p : Int32 × HI} (hS : MS sh r m) (C : CX X yX9_hall.cls cX9_hall 2 7) (hZ : SZX X adr) (E : RX X (some .int) sh adr (fun v τ => v = some (.int p.1) ∧ τ = mk p.2 r)) {k : HI → Option (Int32 × HI)} (hk : ∀ (h : HI), k h = some p → WW X (sh, adr, 0, 0) 38 [.ref m, .retAddr 0] [] (mk h r)) : ∀ (n : Nat) (h : HI) (v1 : Int32), fX9_hall_15 m k n h v1 = some p → WW X (sh, adr, 0, 0) 15 [.ref m, .int v1] [] (mk h r) := by
  intro n
  induction n with
  | zero =>
    intro h v1 H
    rw [fX9_hall_15] at H
    cases H
  | succ n ih =>
    intro h v1 H
    rw [fX9_hall_15] at H
    refine ww_iload_n C dX9_hall_15 1 rfl rfl ?_
    refine ww_iconst (v := (3 : Int32)) C dX9_hall_16 (by decide) ?_
    refine ww_icmp_ge C dX9_hall_17 38 rfl (fun hc => ?_) (fun hc => ?_)
    · rw [if_pos hc] at H
      exact ww_drop [.ref m, .retAddr 0] (sl_e (sl_d sl_n)) (hk h H)
    · rw [if_neg hc] at H
      refine ww_aload_n C dX9_hall_20 0 rfl rfl ?_
      refine wk_getR C dX9_hall_21 fl_X9_45 hS.1 rfl (tX9_many hS).1 ?_
      refine ww_iload_n C dX9_hall_24 1 rfl rfl ?_
      refine ww_aload_n C dX9_hall_25 0 rfl rfl ?_
      refine wk_getR C dX9_hall_26 fl_X9_42 hS.1 rfl (tX9_nMany hS).1 ?_
      refine ww_iload_n C dX9_hall_29 1 rfl rfl ?_
      obtain ⟨hg, H⟩ := gd_of H
      refine wk_iaload C dX9_hall_30 (tX9_nMany hS).2.1 (vp_of hg (tX9_nMany hS).2.2) (v1.toNatClampNeg) rfl ?_
      obtain ⟨hg, H⟩ := gd_of H
      refine wk_iastore C dX9_hall_31 (tX9_many hS).2.1 (vp_of hg (tX9_many hS).2.2) (v1.toNatClampNeg) rfl ?_
      refine ww_iinc (v := (v1 + (1 : Int32))) C dX9_hall_32 rfl rfl (by decide) rfl [.ref m, .int (v1 + (1 : Int32))] rfl ?_
      refine ww_goto C dX9_hall_35 15 rfl ?_
      exact ih (uI h (m + 11) (v1.toNatClampNeg) (h.1 (m + 10) (v1.toNatClampNeg))) (v1 + (1 : Int32)) H
def fX9_hall_40 (m : Nat) (k : HI → Option (Int32 × HI)) : Nat → HI → Int32 → Option (Int32 × HI)
  | 0, _, _ => none
  | n + 1, h, v1 => (if (6 : Int32) ≤ v1 then k h else (if inB v1 6 then (if inB v1 6 then (if inB v1 6 then (if inB v1 6 then (if inB v1 6 then (if inB v1 6 then (if inB v1 6 then (if inB v1 6 then fX9_hall_40 m k n (uI (uI (uI (uI h (m + 17) (v1.toNatClampNeg) (h.1 (m + 12) (v1.toNatClampNeg))) (m + 18) (v1.toNatClampNeg) (h.1 (m + 13) (v1.toNatClampNeg))) (m + 25) (v1.toNatClampNeg) (vp_nar .boolean (h.1 (m + 22) (v1.toNatClampNeg)))) (m + 26) (v1.toNatClampNeg) (vp_nar .boolean (h.1 (m + 23) (v1.toNatClampNeg)))) (v1 + (1 : Int32)) else none) else none) else none) else none) else none) else none) else none) else none))
set_option maxRecDepth 100000 in
set_option maxHeartbeats 4000000 in
theorem cX9_hall_40 {X : CT} {sh : Sh} {adr : Nat → Nat} {r : Nat → Nat → Option Nat} {m : Nat} {p : Int32 × HI} (hS : MS sh r m) (C : CX X yX9_hall.cls cX9_hall 2 7) (hZ : SZX X adr) (E : RX X (some .int) sh adr (fun v τ => v = some (.int p.1) ∧ τ = mk p.2 r)) {k : HI → Option (Int32 × HI)} (hk : ∀ (h : HI), k h = some p → WW X (sh, adr, 0, 0) 100 [.ref m, .retAddr 0] [] (mk h r)) : ∀ (n : Nat) (h : HI) (v1 : Int32), fX9_hall_40 m k n h v1 = some p → WW X (sh, adr, 0, 0) 40 [.ref m, .int v1] [] (mk h r) := by
  intro n
  induction n with
  | zero =>
    intro h v1 H
    rw [fX9_hall_40] at H
    cases H
  | succ n ih =>
    intro h v1 H
    rw [fX9_hall_40] at H
    refine ww_iload_n C dX9_hall_40 1 rfl rfl ?_
    refine ww_bipush (v := (6 : Int32)) C dX9_hall_41 (by decide) ?_
    refine ww_icmp_ge C dX9_hall_43 100 rfl (fun hc => ?_) (fun hc => ?_)
    · rw [if_pos hc] at H
      exact ww_drop [.ref m, .retAddr 0] (sl_e (sl_d sl_n)) (hk h H)
    · rw [if_neg hc] at H
      refine ww_aload_n C dX9_hall_46 0 rfl rfl ?_
      refine wk_getR C dX9_hall_47 fl_X9_63 hS.1 rfl (tX9_holds hS).1 ?_
      refine ww_iload_n C dX9_hall_50 1 rfl rfl ?_
      refine ww_aload_n C dX9_hall_51 0 rfl rfl ?_
      refine wk_getR C dX9_hall_52 fl_X9_48 hS.1 rfl (tX9_nHolds hS).1 ?_
      refine ww_iload_n C dX9_hall_55 1 rfl rfl ?_
      obtain ⟨hg, H⟩ := gd_of H
      refine wk_iaload C dX9_hall_56 (tX9_nHolds hS).2.1 (vp_of hg (tX9_nHolds hS).2.2) (v1.toNatClampNeg) rfl ?_
      obtain ⟨hg, H⟩ := gd_of H
      refine wk_iastore C dX9_hall_57 (tX9_holds hS).2.1 (vp_of hg (tX9_holds hS).2.2) (v1.toNatClampNeg) rfl ?_
      refine ww_aload_n C dX9_hall_58 0 rfl rfl ?_
      refine wk_getR C dX9_hall_59 fl_X9_66 hS.1 rfl (tX9_strong hS).1 ?_
      refine ww_iload_n C dX9_hall_62 1 rfl rfl ?_
      refine ww_aload_n C dX9_hall_63 0 rfl rfl ?_
      refine wk_getR C dX9_hall_64 fl_X9_51 hS.1 rfl (tX9_nStrong hS).1 ?_
      refine ww_iload_n C dX9_hall_67 1 rfl rfl ?_
      obtain ⟨hg, H⟩ := gd_of H
      refine wk_iaload C dX9_hall_68 (tX9_nStrong hS).2.1 (vp_of hg (tX9_nStrong hS).2.2) (v1.toNatClampNeg) rfl ?_
      refine ww_as (v := (h.1 (m + 13) (v1.toNatClampNeg))) (by rw [uI_n (by omega)]) ?_
      obtain ⟨hg, H⟩ := gd_of H
      refine wk_iastore C dX9_hall_69 (tX9_strong hS).2.1 (vp_of hg (tX9_strong hS).2.2) (v1.toNatClampNeg) rfl ?_
      refine ww_aload_n C dX9_hall_70 0 rfl rfl ?_
      refine wk_getR C dX9_hall_71 fl_X9_88 hS.1 rfl (tX9_isStool hS).1 ?_
      refine ww_iload_n C dX9_hall_74 1 rfl rfl ?_
      refine ww_aload_n C dX9_hall_75 0 rfl rfl ?_
      refine wk_getR C dX9_hall_76 fl_X9_78 hS.1 rfl (tX9_nStool hS).1 ?_
      refine ww_iload_n C dX9_hall_79 1 rfl rfl ?_
      obtain ⟨hg, H⟩ := gd_of H
      refine wk_zaload C dX9_hall_80 (tX9_nStool hS).2.1 (vp_of hg (tX9_nStool hS).2.2) (v1.toNatClampNeg) rfl ?_
      refine ww_as (v := (h.1 (m + 22) (v1.toNatClampNeg))) (by rw [uI_n (by omega), uI_n (by omega)]) ?_
      obtain ⟨hg, H⟩ := gd_of H
      refine wk_zastore C dX9_hall_81 (tX9_isStool hS).2.1 (vp_of hg (tX9_isStool hS).2.2) (v1.toNatClampNeg) rfl (vp_nar .boolean (h.1 (m + 22) (v1.toNatClampNeg))) rfl ?_
      refine ww_aload_n C dX9_hall_82 0 rfl rfl ?_
      refine wk_getR C dX9_hall_83 fl_X9_91 hS.1 rfl (tX9_isTold hS).1 ?_
      refine ww_iload_n C dX9_hall_86 1 rfl rfl ?_
      refine ww_aload_n C dX9_hall_87 0 rfl rfl ?_
      refine wk_getR C dX9_hall_88 fl_X9_82 hS.1 rfl (tX9_nDoor hS).1 ?_
      refine ww_iload_n C dX9_hall_91 1 rfl rfl ?_
      obtain ⟨hg, H⟩ := gd_of H
      refine wk_zaload C dX9_hall_92 (tX9_nDoor hS).2.1 (vp_of hg (tX9_nDoor hS).2.2) (v1.toNatClampNeg) rfl ?_
      refine ww_as (v := (h.1 (m + 23) (v1.toNatClampNeg))) (by rw [uI_n (by omega), uI_n (by omega), uI_n (by omega)]) ?_
      obtain ⟨hg, H⟩ := gd_of H
      refine wk_zastore C dX9_hall_93 (tX9_isTold hS).2.1 (vp_of hg (tX9_isTold hS).2.2) (v1.toNatClampNeg) rfl (vp_nar .boolean (h.1 (m + 23) (v1.toNatClampNeg))) rfl ?_
      refine ww_iinc (v := (v1 + (1 : Int32))) C dX9_hall_94 rfl rfl (by decide) rfl [.ref m, .int (v1 + (1 : Int32))] rfl ?_
      refine ww_goto C dX9_hall_97 40 rfl ?_
      exact ih (uI (uI (uI (uI h (m + 17) (v1.toNatClampNeg) (h.1 (m + 12) (v1.toNatClampNeg))) (m + 18) (v1.toNatClampNeg) (h.1 (m + 13) (v1.toNatClampNeg))) (m + 25) (v1.toNatClampNeg) (vp_nar .boolean (h.1 (m + 22) (v1.toNatClampNeg)))) (m + 26) (v1.toNatClampNeg) (vp_nar .boolean (h.1 (m + 23) (v1.toNatClampNeg)))) (v1 + (1 : Int32)) H
def fX9_hall_102 (m : Nat) (k : HI → Option (Int32 × HI)) : Nat → HI → Int32 → Option (Int32 × HI)
  | 0, _, _ => none
  | n + 1, h, v1 => (if (4 : Int32) ≤ v1 then k h else (if inB v1 4 then (if inB v1 4 then fX9_hall_102 m k n (uI h (m + 19) (v1.toNatClampNeg) (h.1 (m + 14) (v1.toNatClampNeg))) (v1 + (1 : Int32)) else none) else none))
set_option maxRecDepth 100000 in
set_option maxHeartbeats 4000000 in
theorem cX9_hall_102 {X : CT} {sh : Sh} {adr : Nat → Nat} {r : Nat → Nat → Option Nat} {m : Nat} {p : Int32 × HI} (hS : MS sh r m) (C : CX X yX9_hall.cls cX9_hall 2 7) (hZ : SZX X adr) (E : RX X (some .int) sh adr (fun v τ => v = some (.int p.1) ∧ τ = mk p.2 r)) {k : HI → Option (Int32 × HI)} (hk : ∀ (h : HI), k h = some p → WW X (sh, adr, 0, 0) 125 [.ref m, .retAddr 0] [] (mk h r)) : ∀ (n : Nat) (h : HI) (v1 : Int32), fX9_hall_102 m k n h v1 = some p → WW X (sh, adr, 0, 0) 102 [.ref m, .int v1] [] (mk h r) := by
  intro n
  induction n with
  | zero =>
    intro h v1 H
    rw [fX9_hall_102] at H
    cases H
  | succ n ih =>
    intro h v1 H
    rw [fX9_hall_102] at H
    refine ww_iload_n C dX9_hall_102 1 rfl rfl ?_
    refine ww_iconst (v := (4 : Int32)) C dX9_hall_103 (by decide) ?_
    refine ww_icmp_ge C dX9_hall_104 125 rfl (fun hc => ?_) (fun hc => ?_)
    · rw [if_pos hc] at H
      exact ww_drop [.ref m, .retAddr 0] (sl_e (sl_d sl_n)) (hk h H)
    · rw [if_neg hc] at H
      refine ww_aload_n C dX9_hall_107 0 rfl rfl ?_
      refine wk_getR C dX9_hall_108 fl_X9_69 hS.1 rfl (tX9_dies hS).1 ?_
      refine ww_iload_n C dX9_hall_111 1 rfl rfl ?_
      refine ww_aload_n C dX9_hall_112 0 rfl rfl ?_
      refine wk_getR C dX9_hall_113 fl_X9_54 hS.1 rfl (tX9_nDies hS).1 ?_
      refine ww_iload_n C dX9_hall_116 1 rfl rfl ?_
      obtain ⟨hg, H⟩ := gd_of H
      refine wk_iaload C dX9_hall_117 (tX9_nDies hS).2.1 (vp_of hg (tX9_nDies hS).2.2) (v1.toNatClampNeg) rfl ?_
      obtain ⟨hg, H⟩ := gd_of H
      refine wk_iastore C dX9_hall_118 (tX9_dies hS).2.1 (vp_of hg (tX9_dies hS).2.2) (v1.toNatClampNeg) rfl ?_
      refine ww_iinc (v := (v1 + (1 : Int32))) C dX9_hall_119 rfl rfl (by decide) rfl [.ref m, .int (v1 + (1 : Int32))] rfl ?_
      refine ww_goto C dX9_hall_122 102 rfl ?_
      exact ih (uI h (m + 19) (v1.toNatClampNeg) (h.1 (m + 14) (v1.toNatClampNeg))) (v1 + (1 : Int32)) H
def fX9_hall_127 (m : Nat) (k : HI → Option (Int32 × HI)) : Nat → HI → Int32 → Option (Int32 × HI)
  | 0, _, _ => none
  | n + 1, h, v1 => (if (24 : Int32) ≤ v1 then k h else (if inB v1 24 then (if inB v1 24 then fX9_hall_127 m k n (uI h (m + 20) (v1.toNatClampNeg) (h.1 (m + 15) (v1.toNatClampNeg))) (v1 + (1 : Int32)) else none) else none))
set_option maxRecDepth 100000 in
set_option maxHeartbeats 4000000 in
theorem cX9_hall_127 {X : CT} {sh : Sh} {adr : Nat → Nat} {r : Nat → Nat → Option Nat} {m : Nat} {p : Int32 × HI} (hS : MS sh r m) (C : CX X yX9_hall.cls cX9_hall 2 7) (hZ : SZX X adr) (E : RX X (some .int) sh adr (fun v τ => v = some (.int p.1) ∧ τ = mk p.2 r)) {k : HI → Option (Int32 × HI)} (hk : ∀ (h : HI), k h = some p → WW X (sh, adr, 0, 0) 151 [.ref m, .retAddr 0] [] (mk h r)) : ∀ (n : Nat) (h : HI) (v1 : Int32), fX9_hall_127 m k n h v1 = some p → WW X (sh, adr, 0, 0) 127 [.ref m, .int v1] [] (mk h r) := by
  intro n
  induction n with
  | zero =>
    intro h v1 H
    rw [fX9_hall_127] at H
    cases H
  | succ n ih =>
    intro h v1 H
    rw [fX9_hall_127] at H
    refine ww_iload_n C dX9_hall_127 1 rfl rfl ?_
    refine ww_bipush (v := (24 : Int32)) C dX9_hall_128 (by decide) ?_
    refine ww_icmp_ge C dX9_hall_130 151 rfl (fun hc => ?_) (fun hc => ?_)
    · rw [if_pos hc] at H
      exact ww_drop [.ref m, .retAddr 0] (sl_e (sl_d sl_n)) (hk h H)
    · rw [if_neg hc] at H
      refine ww_aload_n C dX9_hall_133 0 rfl rfl ?_
      refine wk_getR C dX9_hall_134 fl_X9_72 hS.1 rfl (tX9_wish hS).1 ?_
      refine ww_iload_n C dX9_hall_137 1 rfl rfl ?_
      refine ww_aload_n C dX9_hall_138 0 rfl rfl ?_
      refine wk_getR C dX9_hall_139 fl_X9_57 hS.1 rfl (tX9_nWish hS).1 ?_
      refine ww_iload_n C dX9_hall_142 1 rfl rfl ?_
      obtain ⟨hg, H⟩ := gd_of H
      refine wk_iaload C dX9_hall_143 (tX9_nWish hS).2.1 (vp_of hg (tX9_nWish hS).2.2) (v1.toNatClampNeg) rfl ?_
      obtain ⟨hg, H⟩ := gd_of H
      refine wk_iastore C dX9_hall_144 (tX9_wish hS).2.1 (vp_of hg (tX9_wish hS).2.2) (v1.toNatClampNeg) rfl ?_
      refine ww_iinc (v := (v1 + (1 : Int32))) C dX9_hall_145 rfl rfl (by decide) rfl [.ref m, .int (v1 + (1 : Int32))] rfl ?_
      refine ww_goto C dX9_hall_148 127 rfl ?_
      exact ih (uI h (m + 20) (v1.toNatClampNeg) (h.1 (m + 15) (v1.toNatClampNeg))) (v1 + (1 : Int32)) H
def fX9_hall_153 (m : Nat) (k : HI → Option (Int32 × HI)) : Nat → HI → Int32 → Option (Int32 × HI)
  | 0, _, _ => none
  | n + 1, h, v1 => (if (16 : Int32) ≤ v1 then k h else (if inB v1 16 then (if inB v1 16 then fX9_hall_153 m k n (uI h (m + 21) (v1.toNatClampNeg) (h.1 (m + 16) (v1.toNatClampNeg))) (v1 + (1 : Int32)) else none) else none))
set_option maxRecDepth 100000 in
set_option maxHeartbeats 4000000 in
theorem cX9_hall_153 {X : CT} {sh : Sh} {adr : Nat → Nat} {r : Nat → Nat → Option Nat} {m : Nat} {p : Int32 × HI} (hS : MS sh r m) (C : CX X yX9_hall.cls cX9_hall 2 7) (hZ : SZX X adr) (E : RX X (some .int) sh adr (fun v τ => v = some (.int p.1) ∧ τ = mk p.2 r)) {k : HI → Option (Int32 × HI)} (hk : ∀ (h : HI), k h = some p → WW X (sh, adr, 0, 0) 177 [.ref m, .retAddr 0] [] (mk h r)) : ∀ (n : Nat) (h : HI) (v1 : Int32), fX9_hall_153 m k n h v1 = some p → WW X (sh, adr, 0, 0) 153 [.ref m, .int v1] [] (mk h r) := by
  intro n
  induction n with
  | zero =>
    intro h v1 H
    rw [fX9_hall_153] at H
    cases H
  | succ n ih =>
    intro h v1 H
    rw [fX9_hall_153] at H
    refine ww_iload_n C dX9_hall_153 1 rfl rfl ?_
    refine ww_bipush (v := (16 : Int32)) C dX9_hall_154 (by decide) ?_
    refine ww_icmp_ge C dX9_hall_156 177 rfl (fun hc => ?_) (fun hc => ?_)
    · rw [if_pos hc] at H
      exact ww_drop [.ref m, .retAddr 0] (sl_e (sl_d sl_n)) (hk h H)
    · rw [if_neg hc] at H
      refine ww_aload_n C dX9_hall_159 0 rfl rfl ?_
      refine wk_getR C dX9_hall_160 fl_X9_75 hS.1 rfl (tX9_deal hS).1 ?_
      refine ww_iload_n C dX9_hall_163 1 rfl rfl ?_
      refine ww_aload_n C dX9_hall_164 0 rfl rfl ?_
      refine wk_getR C dX9_hall_165 fl_X9_60 hS.1 rfl (tX9_nDeal hS).1 ?_
      refine ww_iload_n C dX9_hall_168 1 rfl rfl ?_
      obtain ⟨hg, H⟩ := gd_of H
      refine wk_iaload C dX9_hall_169 (tX9_nDeal hS).2.1 (vp_of hg (tX9_nDeal hS).2.2) (v1.toNatClampNeg) rfl ?_
      obtain ⟨hg, H⟩ := gd_of H
      refine wk_iastore C dX9_hall_170 (tX9_deal hS).2.1 (vp_of hg (tX9_deal hS).2.2) (v1.toNatClampNeg) rfl ?_
      refine ww_iinc (v := (v1 + (1 : Int32))) C dX9_hall_171 rfl rfl (by decide) rfl [.ref m, .int (v1 + (1 : Int32))] rfl ?_
      refine ww_goto C dX9_hall_174 153 rfl ?_
      exact ih (uI h (m + 21) (v1.toNatClampNeg) (h.1 (m + 16) (v1.toNatClampNeg))) (v1 + (1 : Int32)) H
def fX9_hall_179 (m : Nat) (k : HI → Option (Int32 × HI)) : Nat → HI → Int32 → Option (Int32 × HI)
  | 0, _, _ => none
  | n + 1, h, v1 => (if (h.1 m 17) ≤ v1 then k h else (if inB v1 640 then (if inB v1 640 then (if inB v1 640 then (if inB v1 640 then fX9_hall_179 m k n (uI (uI h (m + 4) (v1.toNatClampNeg) (h.1 (m + 2) (v1.toNatClampNeg))) (m + 5) (v1.toNatClampNeg) (h.1 (m + 3) (v1.toNatClampNeg))) (v1 + (1 : Int32)) else none) else none) else none) else none))
set_option maxRecDepth 100000 in
set_option maxHeartbeats 4000000 in
theorem cX9_hall_179 {X : CT} {sh : Sh} {adr : Nat → Nat} {r : Nat → Nat → Option Nat} {m : Nat} {p : Int32 × HI} (hS : MS sh r m) (C : CX X yX9_hall.cls cX9_hall 2 7) (hZ : SZX X adr) (E : RX X (some .int) sh adr (fun v τ => v = some (.int p.1) ∧ τ = mk p.2 r)) {k : HI → Option (Int32 × HI)} (hk : ∀ (h : HI), k h = some p → WW X (sh, adr, 0, 0) 217 [.ref m, .retAddr 0] [] (mk h r)) : ∀ (n : Nat) (h : HI) (v1 : Int32), fX9_hall_179 m k n h v1 = some p → WW X (sh, adr, 0, 0) 179 [.ref m, .int v1] [] (mk h r) := by
  intro n
  induction n with
  | zero =>
    intro h v1 H
    rw [fX9_hall_179] at H
    cases H
  | succ n ih =>
    intro h v1 H
    rw [fX9_hall_179] at H
    refine ww_iload_n C dX9_hall_179 1 rfl rfl ?_
    refine ww_aload_n C dX9_hall_180 0 rfl rfl ?_
    refine wk_getI C dX9_hall_181 fl_X9_283 hS.1 rfl ?_
    refine ww_icmp_ge C dX9_hall_184 217 rfl (fun hc => ?_) (fun hc => ?_)
    · rw [if_pos hc] at H
      exact ww_drop [.ref m, .retAddr 0] (sl_e (sl_d sl_n)) (hk h H)
    · rw [if_neg hc] at H
      refine ww_aload_n C dX9_hall_187 0 rfl rfl ?_
      refine wk_getR C dX9_hall_188 fl_X9_23 hS.1 rfl (tX9_whats hS).1 ?_
      refine ww_iload_n C dX9_hall_191 1 rfl rfl ?_
      refine ww_aload_n C dX9_hall_192 0 rfl rfl ?_
      refine wk_getR C dX9_hall_193 fl_X9_17 hS.1 rfl (tX9_nWhat hS).1 ?_
      refine ww_iload_n C dX9_hall_196 1 rfl rfl ?_
      obtain ⟨hg, H⟩ := gd_of H
      refine wk_iaload C dX9_hall_197 (tX9_nWhat hS).2.1 (vp_of hg (tX9_nWhat hS).2.2) (v1.toNatClampNeg) rfl ?_
      obtain ⟨hg, H⟩ := gd_of H
      refine wk_iastore C dX9_hall_198 (tX9_whats hS).2.1 (vp_of hg (tX9_whats hS).2.2) (v1.toNatClampNeg) rfl ?_
      refine ww_aload_n C dX9_hall_199 0 rfl rfl ?_
      refine wk_getR C dX9_hall_200 fl_X9_26 hS.1 rfl (tX9_numbers hS).1 ?_
      refine ww_iload_n C dX9_hall_203 1 rfl rfl ?_
      refine ww_aload_n C dX9_hall_204 0 rfl rfl ?_
      refine wk_getR C dX9_hall_205 fl_X9_20 hS.1 rfl (tX9_nNumber hS).1 ?_
      refine ww_iload_n C dX9_hall_208 1 rfl rfl ?_
      obtain ⟨hg, H⟩ := gd_of H
      refine wk_iaload C dX9_hall_209 (tX9_nNumber hS).2.1 (vp_of hg (tX9_nNumber hS).2.2) (v1.toNatClampNeg) rfl ?_
      refine ww_as (v := (h.1 (m + 3) (v1.toNatClampNeg))) (by rw [uI_n (by omega)]) ?_
      obtain ⟨hg, H⟩ := gd_of H
      refine wk_iastore C dX9_hall_210 (tX9_numbers hS).2.1 (vp_of hg (tX9_numbers hS).2.2) (v1.toNatClampNeg) rfl ?_
      refine ww_iinc (v := (v1 + (1 : Int32))) C dX9_hall_211 rfl rfl (by decide) rfl [.ref m, .int (v1 + (1 : Int32))] rfl ?_
      refine ww_goto C dX9_hall_214 179 rfl ?_
      exact ih (uI (uI h (m + 4) (v1.toNatClampNeg) (h.1 (m + 2) (v1.toNatClampNeg))) (m + 5) (v1.toNatClampNeg) (h.1 (m + 3) (v1.toNatClampNeg))) (v1 + (1 : Int32)) H
def fX9_hall_276 (m : Nat) (k : HI → Option (Int32 × HI)) : Nat → HI → Int32 → Option (Int32 × HI)
  | 0, _, _ => none
  | n + 1, h, v1 => (if (3 : Int32) ≤ v1 then k h else (if inB v1 3 then fX9_hall_276 m k n (uI h (m + 47) (v1.toNatClampNeg) (0 : Int32)) (v1 + (1 : Int32)) else none))
set_option maxRecDepth 100000 in
set_option maxHeartbeats 4000000 in
theorem cX9_hall_276 {X : CT} {sh : Sh} {adr : Nat → Nat} {r : Nat → Nat → Option Nat} {m : Nat} {p : Int32 × HI} (hS : MS sh r m) (C : CX X yX9_hall.cls cX9_hall 2 7) (hZ : SZX X adr) (E : RX X (some .int) sh adr (fun v τ => v = some (.int p.1) ∧ τ = mk p.2 r)) {k : HI → Option (Int32 × HI)} (hk : ∀ (h : HI), k h = some p → WW X (sh, adr, 0, 0) 294 [.ref m, .retAddr 0] [] (mk h r)) : ∀ (n : Nat) (h : HI) (v1 : Int32), fX9_hall_276 m k n h v1 = some p → WW X (sh, adr, 0, 0) 276 [.ref m, .int v1] [] (mk h r) := by
  intro n
  induction n with
  | zero =>
    intro h v1 H
    rw [fX9_hall_276] at H
    cases H
  | succ n ih =>
    intro h v1 H
    rw [fX9_hall_276] at H
    refine ww_iload_n C dX9_hall_276 1 rfl rfl ?_
    refine ww_iconst (v := (3 : Int32)) C dX9_hall_277 (by decide) ?_
    refine ww_icmp_ge C dX9_hall_278 294 rfl (fun hc => ?_) (fun hc => ?_)
    · rw [if_pos hc] at H
      exact ww_drop [.ref m, .retAddr 0] (sl_e (sl_d sl_n)) (hk h H)
    · rw [if_neg hc] at H
      refine ww_aload_n C dX9_hall_281 0 rfl rfl ?_
      refine wk_getR C dX9_hall_282 fl_X9_155 hS.1 rfl (tX9_hasBox hS).1 ?_
      refine ww_iload_n C dX9_hall_285 1 rfl rfl ?_
      refine ww_iconst (v := (0 : Int32)) C dX9_hall_286 (by decide) ?_
      obtain ⟨hg, H⟩ := gd_of H
      refine wk_zastore C dX9_hall_287 (tX9_hasBox hS).2.1 (vp_of hg (tX9_hasBox hS).2.2) (v1.toNatClampNeg) rfl (0 : Int32) rfl ?_
      refine ww_iinc (v := (v1 + (1 : Int32))) C dX9_hall_288 rfl rfl (by decide) rfl [.ref m, .int (v1 + (1 : Int32))] rfl ?_
      refine ww_goto C dX9_hall_291 276 rfl ?_
      exact ih (uI h (m + 47) (v1.toNatClampNeg) (0 : Int32)) (v1 + (1 : Int32)) H
def fX9_hall (m : Nat) (h : HI) : Option (Int32 × HI) := ((fX9_readAll m h).bind fun h1 => (if (h1.1 m 2) ≤ 0 then fX9_hall_15 m (fun h3 => fX9_hall_40 m (fun h5 => fX9_hall_102 m (fun h7 => fX9_hall_127 m (fun h9 => fX9_hall_153 m (fun h11 => fX9_hall_179 m (fun h13 => (if (h13.1 m 47) = 0 ∨ (h13.1 m 47) = 1 then ((fX9_fresh m (uI (uI (uI (uI (uI (uI h13 m 19 (h13.1 m 17)) m 20 (h13.1 m 18)) m 44 (h13.1 m 41)) m 45 (h13.1 m 42)) m 46 (h13.1 m 43)) m 48 (h13.1 m 47))).bind fun h14 => fX9_hall_276 m (fun h16 => some ((h16.1 (m + 11) 1), h16)) FU (uI h14 m 79 (0 : Int32)) (0 : Int32)) else none)) FU h11 (0 : Int32)) FU h9 (0 : Int32)) FU h7 (0 : Int32)) FU h5 (0 : Int32)) FU h3 (0 : Int32)) FU h1 (0 : Int32) else some ((-1 : Int32), h1)))
set_option maxRecDepth 100000 in
set_option maxHeartbeats 4000000 in
theorem ccX9_hall {l : Launch} {sh : Sh} {adr : Nat → Nat} {r : Nat → Nat → Option Nat} {m : Nat} (hS : MS sh r m) {h : HI}  {p : Int32 × HI} (H : fX9_hall m h = some p) : CC l yX9_hall cX9_hall 2 (some .int) 7 [.ref m] sh adr (mk h r) (fun v τ => v = some (.int p.1) ∧ τ = mk p.2 r) := by
  refine CC.of (by decide) (Nat.le_of_ble_eq_true rfl) 1 [.ref m, .retAddr 0] rfl (fun X _ C E hZ => ?_)
  rw [fX9_hall] at H
  refine ww_aload_n C dX9_hall_0 0 rfl rfl ?_
  obtain ⟨h1, hc1, H⟩ := bd_of H
  refine ww_callV C hZ dX9_hall_1 cw_X9_386 (ccX9_readAll hS hc1) hS.1 ⟨by decide, rfl⟩ (by decide) rfl rfl (Nat.le_of_ble_eq_true rfl) ⟨Nat.zero_le _, Nat.zero_le _⟩ (fun v τ hp => ?_)
  obtain ⟨rfl, rfl⟩ := hp
  change WW X _ 4 [.ref m, .retAddr 0] [] _
  refine ww_aload_n C dX9_hall_4 0 rfl rfl ?_
  refine wk_getI C dX9_hall_5 fl_X9_216 hS.1 rfl ?_
  refine ww_if_le C dX9_hall_8 13 rfl (fun hc => ?_) (fun hc => ?_)
  · rw [if_pos hc] at H
    refine ww_iconst (v := (0 : Int32)) C dX9_hall_13 (by decide) ?_
    refine ww_istore_n C dX9_hall_14 1 rfl (by decide) rfl [.ref m, .int (0 : Int32)] rfl ?_
    refine cX9_hall_15 hS C hZ E (fun h3 H => ?_) FU h1 (0 : Int32) H
    refine ww_iconst (v := (0 : Int32)) C dX9_hall_38 (by decide) ?_
    refine ww_istore_n C dX9_hall_39 1 rfl (by decide) rfl [.ref m, .int (0 : Int32)] rfl ?_
    refine cX9_hall_40 hS C hZ E (fun h5 H => ?_) FU h3 (0 : Int32) H
    refine ww_iconst (v := (0 : Int32)) C dX9_hall_100 (by decide) ?_
    refine ww_istore_n C dX9_hall_101 1 rfl (by decide) rfl [.ref m, .int (0 : Int32)] rfl ?_
    refine cX9_hall_102 hS C hZ E (fun h7 H => ?_) FU h5 (0 : Int32) H
    refine ww_iconst (v := (0 : Int32)) C dX9_hall_125 (by decide) ?_
    refine ww_istore_n C dX9_hall_126 1 rfl (by decide) rfl [.ref m, .int (0 : Int32)] rfl ?_
    refine cX9_hall_127 hS C hZ E (fun h9 H => ?_) FU h7 (0 : Int32) H
    refine ww_iconst (v := (0 : Int32)) C dX9_hall_151 (by decide) ?_
    refine ww_istore_n C dX9_hall_152 1 rfl (by decide) rfl [.ref m, .int (0 : Int32)] rfl ?_
    refine cX9_hall_153 hS C hZ E (fun h11 H => ?_) FU h9 (0 : Int32) H
    refine ww_iconst (v := (0 : Int32)) C dX9_hall_177 (by decide) ?_
    refine ww_istore_n C dX9_hall_178 1 rfl (by decide) rfl [.ref m, .int (0 : Int32)] rfl ?_
    refine cX9_hall_179 hS C hZ E (fun h13 H => ?_) FU h11 (0 : Int32) H
    refine ww_aload_n C dX9_hall_217 0 rfl rfl ?_
    refine ww_aload_n C dX9_hall_218 0 rfl rfl ?_
    refine wk_getI C dX9_hall_219 fl_X9_283 hS.1 rfl ?_
    refine wk_putI C dX9_hall_222 fl_X9_389 hS.1 rfl rfl ?_
    refine ww_aload_n C dX9_hall_225 0 rfl rfl ?_
    refine ww_aload_n C dX9_hall_226 0 rfl rfl ?_
    refine wk_getI C dX9_hall_227 fl_X9_308 hS.1 rfl ?_
    refine ww_as (v := (h13.1 m 18)) (by rw [uI_n (by omega)]) ?_
    refine wk_putI C dX9_hall_230 fl_X9_392 hS.1 rfl rfl ?_
    refine ww_aload_n C dX9_hall_233 0 rfl rfl ?_
    refine ww_aload_n C dX9_hall_234 0 rfl rfl ?_
    refine wk_getI C dX9_hall_235 fl_X9_353 hS.1 rfl ?_
    refine ww_as (v := (h13.1 m 41)) (by rw [uI_n (by omega), uI_n (by omega)]) ?_
    refine wk_putI C dX9_hall_238 fl_X9_395 hS.1 rfl rfl ?_
    refine ww_aload_n C dX9_hall_241 0 rfl rfl ?_
    refine ww_aload_n C dX9_hall_242 0 rfl rfl ?_
    refine wk_getI C dX9_hall_243 fl_X9_356 hS.1 rfl ?_
    refine ww_as (v := (h13.1 m 42)) (by rw [uI_n (by omega), uI_n (by omega), uI_n (by omega)]) ?_
    refine wk_putI C dX9_hall_246 fl_X9_398 hS.1 rfl rfl ?_
    refine ww_aload_n C dX9_hall_249 0 rfl rfl ?_
    refine ww_aload_n C dX9_hall_250 0 rfl rfl ?_
    refine wk_getI C dX9_hall_251 fl_X9_359 hS.1 rfl ?_
    refine ww_as (v := (h13.1 m 43)) (by rw [uI_n (by omega), uI_n (by omega), uI_n (by omega), uI_n (by omega)]) ?_
    refine wk_putI C dX9_hall_254 fl_X9_401 hS.1 rfl rfl ?_
    refine ww_aload_n C dX9_hall_257 0 rfl rfl ?_
    refine ww_aload_n C dX9_hall_258 0 rfl rfl ?_
    refine wk_getZ C dX9_hall_259 fl_X9_324 hS.1 rfl ?_
    refine ww_as (v := (h13.1 m 47)) (by rw [uI_n (by omega), uI_n (by omega), uI_n (by omega), uI_n (by omega), uI_n (by omega)]) ?_
    obtain ⟨hg, H⟩ := gd_of H
    refine wk_putZ C dX9_hall_262 fl_X9_404 hS.1 rfl rfl hg ?_
    refine ww_aload_n C dX9_hall_265 0 rfl rfl ?_
    obtain ⟨h14, hc1, H⟩ := bd_of H
    refine ww_callV C hZ dX9_hall_266 cw_X9_407 (ccX9_fresh hS hc1) hS.1 ⟨by decide, rfl⟩ (by decide) rfl rfl (Nat.le_of_ble_eq_true rfl) ⟨Nat.zero_le _, Nat.zero_le _⟩ (fun v τ hp => ?_)
    obtain ⟨rfl, rfl⟩ := hp
    change WW X _ 269 [.ref m, .retAddr 0] [] _
    refine ww_aload_n C dX9_hall_269 0 rfl rfl ?_
    refine ww_iconst (v := (0 : Int32)) C dX9_hall_270 (by decide) ?_
    refine wk_putI C dX9_hall_271 fl_X9_410 hS.1 rfl rfl ?_
    refine ww_iconst (v := (0 : Int32)) C dX9_hall_274 (by decide) ?_
    refine ww_istore_n C dX9_hall_275 1 rfl (by decide) rfl [.ref m, .int (0 : Int32)] rfl ?_
    refine cX9_hall_276 hS C hZ E (fun h16 H => ?_) FU (uI h14 m 79 (0 : Int32)) (0 : Int32) H
    refine ww_aload_n C dX9_hall_294 0 rfl rfl ?_
    refine wk_getR C dX9_hall_295 fl_X9_45 hS.1 rfl (tX9_many hS).1 ?_
    refine ww_iconst (v := (1 : Int32)) C dX9_hall_298 (by decide) ?_
    refine wk_iaload C dX9_hall_299 (tX9_many hS).2.1 (vp_of (by decide : inB (1 : Int32) 3) (tX9_many hS).2.2) 1 rfl ?_
    cases H
    exact ww_iret C E dX9_hall_300 ⟨rfl, rfl⟩
  · rw [if_neg hc] at H
    refine ww_iconst (v := (-1 : Int32)) C dX9_hall_11 (by decide) ?_
    cases H
    exact ww_iret C E dX9_hall_12 ⟨rfl, rfl⟩
def fX9_fault (m : Nat) (h : HI) (a1 : Int32) : Option (Int32 × HI) := (if a1 = 0 then some ((h.1 m 2), h) else (if a1 = (1 : Int32) then some ((h.1 m 3), h) else some ((-1 : Int32), h)))
set_option maxRecDepth 100000 in
set_option maxHeartbeats 4000000 in
theorem ccX9_fault {l : Launch} {sh : Sh} {adr : Nat → Nat} {r : Nat → Nat → Option Nat} {m : Nat} (hS : MS sh r m) {h : HI} {a1 : Int32} {p : Int32 × HI} (H : fX9_fault m h a1 = some p) : CC l yX9_fault cX9_fault 2 (some .int) 0 [.ref m, .int a1] sh adr (mk h r) (fun v τ => v = some (.int p.1) ∧ τ = mk p.2 r) := by
  refine CC.of (by decide) (Nat.le_of_ble_eq_true rfl) 0 [.ref m, .int a1] rfl (fun X _ C E hZ => ?_)
  rw [fX9_fault] at H
  refine ww_iload_n C dX9_fault_0 1 rfl rfl ?_
  refine ww_if_ne C dX9_fault_1 11 rfl (fun hc => ?_) (fun hc => ?_)
  · rw [if_neg hc] at H
    refine ww_iload_n C dX9_fault_11 1 rfl rfl ?_
    refine ww_iconst (v := (1 : Int32)) C dX9_fault_12 (by decide) ?_
    refine ww_icmp_ne C dX9_fault_13 23 rfl (fun hc => ?_) (fun hc => ?_)
    · rw [if_neg hc] at H
      refine ww_iconst (v := (-1 : Int32)) C dX9_fault_23 (by decide) ?_
      cases H
      exact ww_iret C E dX9_fault_24 ⟨rfl, rfl⟩
    · rw [if_pos hc] at H
      refine ww_aload_n C dX9_fault_16 0 rfl rfl ?_
      refine wk_getI C dX9_fault_17 fl_X9_13 hS.1 rfl ?_
      refine ww_goto C dX9_fault_20 24 rfl ?_
      cases H
      exact ww_iret C E dX9_fault_24 ⟨rfl, rfl⟩
  · rw [if_pos hc] at H
    refine ww_aload_n C dX9_fault_4 0 rfl rfl ?_
    refine wk_getI C dX9_fault_5 fl_X9_216 hS.1 rfl ?_
    refine ww_goto C dX9_fault_8 24 rfl ?_
    cases H
    exact ww_iret C E dX9_fault_24 ⟨rfl, rfl⟩
def fX9_isMan (m : Nat) (h : HI) (a1 : Int32) : Option (Int32 × HI) := (if a1 < 0 then some ((0 : Int32), h) else (if (h.1 (m + 11) 1) ≤ a1 then some ((0 : Int32), h) else some ((1 : Int32), h)))
set_option maxRecDepth 100000 in
set_option maxHeartbeats 4000000 in
theorem ccX9_isMan {l : Launch} {sh : Sh} {adr : Nat → Nat} {r : Nat → Nat → Option Nat} {m : Nat} (hS : MS sh r m) {h : HI} {a1 : Int32} {p : Int32 × HI} (H : fX9_isMan m h a1 = some p) : CC l yX9_isMan cX9_isMan 2 (some .boolean) 0 [.ref m, .int a1] sh adr (mk h r) (fun v τ => v = some (.int p.1) ∧ τ = mk p.2 r) := by
  refine CC.of (by decide) (Nat.le_of_ble_eq_true rfl) 0 [.ref m, .int a1] rfl (fun X _ C E hZ => ?_)
  rw [fX9_isMan] at H
  refine ww_iload_n C dX9_isMan_0 1 rfl rfl ?_
  refine ww_if_lt C dX9_isMan_1 18 rfl (fun hc => ?_) (fun hc => ?_)
  · rw [if_pos hc] at H
    refine ww_iconst (v := (0 : Int32)) C dX9_isMan_18 (by decide) ?_
    cases H
    exact ww_zret C E dX9_isMan_19 (Or.inl rfl) ⟨rfl, rfl⟩
  · rw [if_neg hc] at H
    refine ww_iload_n C dX9_isMan_4 1 rfl rfl ?_
    refine ww_aload_n C dX9_isMan_5 0 rfl rfl ?_
    refine wk_getR C dX9_isMan_6 fl_X9_45 hS.1 rfl (tX9_many hS).1 ?_
    refine ww_iconst (v := (1 : Int32)) C dX9_isMan_9 (by decide) ?_
    refine wk_iaload C dX9_isMan_10 (tX9_many hS).2.1 (vp_of (by decide : inB (1 : Int32) 3) (tX9_many hS).2.2) 1 rfl ?_
    refine ww_icmp_ge C dX9_isMan_11 18 rfl (fun hc => ?_) (fun hc => ?_)
    · rw [if_pos hc] at H
      refine ww_iconst (v := (0 : Int32)) C dX9_isMan_18 (by decide) ?_
      cases H
      exact ww_zret C E dX9_isMan_19 (Or.inl rfl) ⟨rfl, rfl⟩
    · rw [if_neg hc] at H
      refine ww_iconst (v := (1 : Int32)) C dX9_isMan_14 (by decide) ?_
      refine ww_goto C dX9_isMan_15 19 rfl ?_
      cases H
      exact ww_zret C E dX9_isMan_19 (Or.inr rfl) ⟨rfl, rfl⟩
def fX9_isChair (m : Nat) (h : HI) (a1 : Int32) : Option (Int32 × HI) := (if a1 < 0 then some ((0 : Int32), h) else (if (h.1 (m + 11) 0) ≤ a1 then some ((0 : Int32), h) else some ((1 : Int32), h)))
set_option maxRecDepth 100000 in
set_option maxHeartbeats 4000000 in
theorem ccX9_isChair {l : Launch} {sh : Sh} {adr : Nat → Nat} {r : Nat → Nat → Option Nat} {m : Nat} (hS : MS sh r m) {h : HI} {a1 : Int32} {p : Int32 × HI} (H : fX9_isChair m h a1 = some p) : CC l yX9_isChair cX9_isChair 2 (some .boolean) 0 [.ref m, .int a1] sh adr (mk h r) (fun v τ => v = some (.int p.1) ∧ τ = mk p.2 r) := by
  refine CC.of (by decide) (Nat.le_of_ble_eq_true rfl) 0 [.ref m, .int a1] rfl (fun X _ C E hZ => ?_)
  rw [fX9_isChair] at H
  refine ww_iload_n C dX9_isChair_0 1 rfl rfl ?_
  refine ww_if_lt C dX9_isChair_1 18 rfl (fun hc => ?_) (fun hc => ?_)
  · rw [if_pos hc] at H
    refine ww_iconst (v := (0 : Int32)) C dX9_isChair_18 (by decide) ?_
    cases H
    exact ww_zret C E dX9_isChair_19 (Or.inl rfl) ⟨rfl, rfl⟩
  · rw [if_neg hc] at H
    refine ww_iload_n C dX9_isChair_4 1 rfl rfl ?_
    refine ww_aload_n C dX9_isChair_5 0 rfl rfl ?_
    refine wk_getR C dX9_isChair_6 fl_X9_45 hS.1 rfl (tX9_many hS).1 ?_
    refine ww_iconst (v := (0 : Int32)) C dX9_isChair_9 (by decide) ?_
    refine wk_iaload C dX9_isChair_10 (tX9_many hS).2.1 (vp_of (by decide : inB (0 : Int32) 3) (tX9_many hS).2.2) 0 rfl ?_
    refine ww_icmp_ge C dX9_isChair_11 18 rfl (fun hc => ?_) (fun hc => ?_)
    · rw [if_pos hc] at H
      refine ww_iconst (v := (0 : Int32)) C dX9_isChair_18 (by decide) ?_
      cases H
      exact ww_zret C E dX9_isChair_19 (Or.inl rfl) ⟨rfl, rfl⟩
    · rw [if_neg hc] at H
      refine ww_iconst (v := (1 : Int32)) C dX9_isChair_14 (by decide) ?_
      refine ww_goto C dX9_isChair_15 19 rfl ?_
      cases H
      exact ww_zret C E dX9_isChair_19 (Or.inr rfl) ⟨rfl, rfl⟩
def fX9_isMatter (m : Nat) (h : HI) (a1 : Int32) : Option (Int32 × HI) := (if a1 < 0 then some ((0 : Int32), h) else (if (h.1 (m + 11) 2) ≤ a1 then some ((0 : Int32), h) else some ((1 : Int32), h)))
set_option maxRecDepth 100000 in
set_option maxHeartbeats 4000000 in
theorem ccX9_isMatter {l : Launch} {sh : Sh} {adr : Nat → Nat} {r : Nat → Nat → Option Nat} {m : Nat} (hS : MS sh r m) {h : HI} {a1 : Int32} {p : Int32 × HI} (H : fX9_isMatter m h a1 = some p) : CC l yX9_isMatter cX9_isMatter 2 (some .boolean) 0 [.ref m, .int a1] sh adr (mk h r) (fun v τ => v = some (.int p.1) ∧ τ = mk p.2 r) := by
  refine CC.of (by decide) (Nat.le_of_ble_eq_true rfl) 0 [.ref m, .int a1] rfl (fun X _ C E hZ => ?_)
  rw [fX9_isMatter] at H
  refine ww_iload_n C dX9_isMatter_0 1 rfl rfl ?_
  refine ww_if_lt C dX9_isMatter_1 18 rfl (fun hc => ?_) (fun hc => ?_)
  · rw [if_pos hc] at H
    refine ww_iconst (v := (0 : Int32)) C dX9_isMatter_18 (by decide) ?_
    cases H
    exact ww_zret C E dX9_isMatter_19 (Or.inl rfl) ⟨rfl, rfl⟩
  · rw [if_neg hc] at H
    refine ww_iload_n C dX9_isMatter_4 1 rfl rfl ?_
    refine ww_aload_n C dX9_isMatter_5 0 rfl rfl ?_
    refine wk_getR C dX9_isMatter_6 fl_X9_45 hS.1 rfl (tX9_many hS).1 ?_
    refine ww_iconst (v := (2 : Int32)) C dX9_isMatter_9 (by decide) ?_
    refine wk_iaload C dX9_isMatter_10 (tX9_many hS).2.1 (vp_of (by decide : inB (2 : Int32) 3) (tX9_many hS).2.2) 2 rfl ?_
    refine ww_icmp_ge C dX9_isMatter_11 18 rfl (fun hc => ?_) (fun hc => ?_)
    · rw [if_pos hc] at H
      refine ww_iconst (v := (0 : Int32)) C dX9_isMatter_18 (by decide) ?_
      cases H
      exact ww_zret C E dX9_isMatter_19 (Or.inl rfl) ⟨rfl, rfl⟩
    · rw [if_neg hc] at H
      refine ww_iconst (v := (1 : Int32)) C dX9_isMatter_14 (by decide) ?_
      refine ww_goto C dX9_isMatter_15 19 rfl ?_
      cases H
      exact ww_zret C E dX9_isMatter_19 (Or.inr rfl) ⟨rfl, rfl⟩
def fX9_ones_4 (k : HI → Int32 → Option (Int32 × HI)) : Nat → HI → Int32 → Int32 → Int32 → Option (Int32 × HI)
  | 0, _, _, _, _ => none
  | n + 1, h, v0, v1, v2 => (if (18 : Int32) ≤ v2 then k h v1 else fX9_ones_4 k n h v0 (v1 + ((v0 >>> (v2 &&& 31)) &&& (1 : Int32))) (v2 + (1 : Int32)))
set_option maxRecDepth 100000 in
set_option maxHeartbeats 4000000 in
theorem cX9_ones_4 {X : CT} {sh : Sh} {adr : Nat → Nat} {r : Nat → Nat → Option Nat} {p : Int32 × HI} (C : CX X yX9_ones.cls cX9_ones 3 0) (hZ : SZX X adr) (E : RX X (some .int) sh adr (fun v τ => v = some (.int p.1) ∧ τ = mk p.2 r)) {k : HI → Int32 → Option (Int32 × HI)} (hk : ∀ (h : HI) (v1 : Int32), k h v1 = some p → WW X (sh, adr, 0, 0) 24 [.retAddr 0, .int v1, .retAddr 0] [] (mk h r)) : ∀ (n : Nat) (h : HI) (v0 : Int32) (v1 : Int32) (v2 : Int32), fX9_ones_4 k n h v0 v1 v2 = some p → WW X (sh, adr, 0, 0) 4 [.int v0, .int v1, .int v2] [] (mk h r) := by
  intro n
  induction n with
  | zero =>
    intro h v0 v1 v2 H
    rw [fX9_ones_4] at H
    cases H
  | succ n ih =>
    intro h v0 v1 v2 H
    rw [fX9_ones_4] at H
    refine ww_iload_n C dX9_ones_4 2 rfl rfl ?_
    refine ww_bipush (v := (18 : Int32)) C dX9_ones_5 (by decide) ?_
    refine ww_icmp_ge C dX9_ones_7 24 rfl (fun hc => ?_) (fun hc => ?_)
    · rw [if_pos hc] at H
      exact ww_drop [.retAddr 0, .int v1, .retAddr 0] (sl_d (sl_e (sl_d sl_n))) (hk h v1 H)
    · rw [if_neg hc] at H
      refine ww_iload_n C dX9_ones_10 1 rfl rfl ?_
      refine ww_iload_n C dX9_ones_11 0 rfl rfl ?_
      refine ww_iload_n C dX9_ones_12 2 rfl rfl ?_
      refine ww_ishr C dX9_ones_13 ?_
      refine ww_iconst (v := (1 : Int32)) C dX9_ones_14 (by decide) ?_
      refine ww_iand C dX9_ones_15 ?_
      refine ww_iadd C dX9_ones_16 ?_
      refine ww_istore_n C dX9_ones_17 1 rfl (by decide) rfl [.int v0, .int (v1 + ((v0 >>> (v2 &&& 31)) &&& (1 : Int32))), .int v2] rfl ?_
      refine ww_iinc (v := (v2 + (1 : Int32))) C dX9_ones_18 rfl rfl (by decide) rfl [.int v0, .int (v1 + ((v0 >>> (v2 &&& 31)) &&& (1 : Int32))), .int (v2 + (1 : Int32))] rfl ?_
      refine ww_goto C dX9_ones_21 4 rfl ?_
      exact ih h v0 (v1 + ((v0 >>> (v2 &&& 31)) &&& (1 : Int32))) (v2 + (1 : Int32)) H
def fX9_ones (h : HI) (a0 : Int32) : Option (Int32 × HI) := fX9_ones_4 (fun h2 v1 => some (v1, h2)) FU h a0 (0 : Int32) (0 : Int32)
set_option maxRecDepth 100000 in
set_option maxHeartbeats 4000000 in
theorem ccX9_ones {l : Launch} {sh : Sh} {adr : Nat → Nat} {r : Nat → Nat → Option Nat} {h : HI} {a0 : Int32} {p : Int32 × HI} (H : fX9_ones h a0 = some p) : CC l yX9_ones cX9_ones 3 (some .int) 0 [.int a0] sh adr (mk h r) (fun v τ => v = some (.int p.1) ∧ τ = mk p.2 r) := by
  refine CC.of (by decide) (Nat.le_of_ble_eq_true rfl) 2 [.int a0, .retAddr 0, .retAddr 0] rfl (fun X _ C E hZ => ?_)
  rw [fX9_ones] at H
  refine ww_iconst (v := (0 : Int32)) C dX9_ones_0 (by decide) ?_
  refine ww_istore_n C dX9_ones_1 1 rfl (by decide) rfl [.int a0, .int (0 : Int32), .retAddr 0] rfl ?_
  refine ww_iconst (v := (0 : Int32)) C dX9_ones_2 (by decide) ?_
  refine ww_istore_n C dX9_ones_3 2 rfl (by decide) rfl [.int a0, .int (0 : Int32), .int (0 : Int32)] rfl ?_
  refine cX9_ones_4 C hZ E (fun h2 v1 H => ?_) FU h a0 (0 : Int32) (0 : Int32) H
  refine ww_iload_n C dX9_ones_24 1 rfl rfl ?_
  cases H
  exact ww_iret C E dX9_ones_25 ⟨rfl, rfl⟩
def fX9_worked (h : HI) (a0 : Int32) (a1 : Int32) (a2 : Int32) : Option (Int32 × HI) := (if a0 = (20 : Int32) then (if a1 = 0 then (if a2 = 0 then some ((0 : Int32), h) else some ((1 : Int32), h)) else some ((1 : Int32), h)) else (if a0 = (21 : Int32) then (if a1 = 0 then some ((0 : Int32), h) else (if a2 = 0 then some ((0 : Int32), h) else some ((1 : Int32), h))) else (if a0 = (22 : Int32) then some ((a1 * a2), h) else (if a0 = (23 : Int32) then (if a1 = a2 then some ((1 : Int32), h) else some ((0 : Int32), h)) else (if a0 = (24 : Int32) then (if a2 ≤ a1 then some ((0 : Int32), h) else some ((1 : Int32), h)) else (if a0 = (25 : Int32) then (if a1 ≤ a2 then some ((0 : Int32), h) else some ((1 : Int32), h)) else (if a0 = (26 : Int32) then some ((a1 + a2), h) else (if a0 = (27 : Int32) then some ((a1 - a2), h) else some ((a1 * a2), h)))))))))
set_option maxRecDepth 100000 in
set_option maxHeartbeats 4000000 in
theorem ccX9_worked {l : Launch} {sh : Sh} {adr : Nat → Nat} {r : Nat → Nat → Option Nat} {h : HI} {a0 : Int32} {a1 : Int32} {a2 : Int32} {p : Int32 × HI} (H : fX9_worked h a0 a1 a2 = some p) : CC l yX9_worked cX9_worked 3 (some .int) 0 [.int a0, .int a1, .int a2] sh adr (mk h r) (fun v τ => v = some (.int p.1) ∧ τ = mk p.2 r) := by
  refine CC.of (by decide) (Nat.le_of_ble_eq_true rfl) 0 [.int a0, .int a1, .int a2] rfl (fun X _ C E hZ => ?_)
  rw [fX9_worked] at H
  refine ww_iload_n C dX9_worked_0 0 rfl rfl ?_
  by_cases hc0 : a0 = (20 : Int32)
  · rw [if_pos hc0] at H
    refine ww_tableIn (off := 47) C dX9_worked_1 (by rw [hc0]; decide) (by rw [hc0]; decide) (by rw [hc0]; rfl) 48 rfl ?_
    refine ww_iload_n C dX9_worked_48 1 rfl rfl ?_
    refine ww_if_ne C dX9_worked_49 56 rfl (fun hc => ?_) (fun hc => ?_)
    · rw [if_neg hc] at H
      refine ww_iconst (v := (1 : Int32)) C dX9_worked_56 (by decide) ?_
      refine ww_goto C dX9_worked_57 61 rfl ?_
      cases H
      exact ww_iret C E dX9_worked_61 ⟨rfl, rfl⟩
    · rw [if_pos hc] at H
      refine ww_iload_n C dX9_worked_52 2 rfl rfl ?_
      refine ww_if_eq C dX9_worked_53 60 rfl (fun hc => ?_) (fun hc => ?_)
      · rw [if_pos hc] at H
        refine ww_iconst (v := (0 : Int32)) C dX9_worked_60 (by decide) ?_
        cases H
        exact ww_iret C E dX9_worked_61 ⟨rfl, rfl⟩
      · rw [if_neg hc] at H
        refine ww_iconst (v := (1 : Int32)) C dX9_worked_56 (by decide) ?_
        refine ww_goto C dX9_worked_57 61 rfl ?_
        cases H
        exact ww_iret C E dX9_worked_61 ⟨rfl, rfl⟩
  · rw [if_neg hc0] at H
    by_cases hc1 : a0 = (21 : Int32)
    · rw [if_pos hc1] at H
      refine ww_tableIn (off := 61) C dX9_worked_1 (by rw [hc1]; decide) (by rw [hc1]; decide) (by rw [hc1]; rfl) 62 rfl ?_
      refine ww_iload_n C dX9_worked_62 1 rfl rfl ?_
      refine ww_if_eq C dX9_worked_63 74 rfl (fun hc => ?_) (fun hc => ?_)
      · rw [if_pos hc] at H
        refine ww_iconst (v := (0 : Int32)) C dX9_worked_74 (by decide) ?_
        cases H
        exact ww_iret C E dX9_worked_75 ⟨rfl, rfl⟩
      · rw [if_neg hc] at H
        refine ww_iload_n C dX9_worked_66 2 rfl rfl ?_
        refine ww_if_eq C dX9_worked_67 74 rfl (fun hc => ?_) (fun hc => ?_)
        · rw [if_pos hc] at H
          refine ww_iconst (v := (0 : Int32)) C dX9_worked_74 (by decide) ?_
          cases H
          exact ww_iret C E dX9_worked_75 ⟨rfl, rfl⟩
        · rw [if_neg hc] at H
          refine ww_iconst (v := (1 : Int32)) C dX9_worked_70 (by decide) ?_
          refine ww_goto C dX9_worked_71 75 rfl ?_
          cases H
          exact ww_iret C E dX9_worked_75 ⟨rfl, rfl⟩
    · rw [if_neg hc1] at H
      by_cases hc2 : a0 = (22 : Int32)
      · rw [if_pos hc2] at H
        refine ww_tableIn (off := 116) C dX9_worked_1 (by rw [hc2]; decide) (by rw [hc2]; decide) (by rw [hc2]; rfl) 117 rfl ?_
        refine ww_iload_n C dX9_worked_117 1 rfl rfl ?_
        refine ww_iload_n C dX9_worked_118 2 rfl rfl ?_
        refine ww_imul C dX9_worked_119 ?_
        cases H
        exact ww_iret C E dX9_worked_120 ⟨rfl, rfl⟩
      · rw [if_neg hc2] at H
        by_cases hc3 : a0 = (23 : Int32)
        · rw [if_pos hc3] at H
          refine ww_tableIn (off := 75) C dX9_worked_1 (by rw [hc3]; decide) (by rw [hc3]; decide) (by rw [hc3]; rfl) 76 rfl ?_
          refine ww_iload_n C dX9_worked_76 1 rfl rfl ?_
          refine ww_iload_n C dX9_worked_77 2 rfl rfl ?_
          refine ww_icmp_ne C dX9_worked_78 85 rfl (fun hc => ?_) (fun hc => ?_)
          · rw [if_neg hc] at H
            refine ww_iconst (v := (0 : Int32)) C dX9_worked_85 (by decide) ?_
            cases H
            exact ww_iret C E dX9_worked_86 ⟨rfl, rfl⟩
          · rw [if_pos hc] at H
            refine ww_iconst (v := (1 : Int32)) C dX9_worked_81 (by decide) ?_
            refine ww_goto C dX9_worked_82 86 rfl ?_
            cases H
            exact ww_iret C E dX9_worked_86 ⟨rfl, rfl⟩
        · rw [if_neg hc3] at H
          by_cases hc4 : a0 = (24 : Int32)
          · rw [if_pos hc4] at H
            refine ww_tableIn (off := 86) C dX9_worked_1 (by rw [hc4]; decide) (by rw [hc4]; decide) (by rw [hc4]; rfl) 87 rfl ?_
            refine ww_iload_n C dX9_worked_87 1 rfl rfl ?_
            refine ww_iload_n C dX9_worked_88 2 rfl rfl ?_
            refine ww_icmp_ge C dX9_worked_89 96 rfl (fun hc => ?_) (fun hc => ?_)
            · rw [if_pos hc] at H
              refine ww_iconst (v := (0 : Int32)) C dX9_worked_96 (by decide) ?_
              cases H
              exact ww_iret C E dX9_worked_97 ⟨rfl, rfl⟩
            · rw [if_neg hc] at H
              refine ww_iconst (v := (1 : Int32)) C dX9_worked_92 (by decide) ?_
              refine ww_goto C dX9_worked_93 97 rfl ?_
              cases H
              exact ww_iret C E dX9_worked_97 ⟨rfl, rfl⟩
          · rw [if_neg hc4] at H
            by_cases hc5 : a0 = (25 : Int32)
            · rw [if_pos hc5] at H
              refine ww_tableIn (off := 97) C dX9_worked_1 (by rw [hc5]; decide) (by rw [hc5]; decide) (by rw [hc5]; rfl) 98 rfl ?_
              refine ww_iload_n C dX9_worked_98 1 rfl rfl ?_
              refine ww_iload_n C dX9_worked_99 2 rfl rfl ?_
              refine ww_icmp_le C dX9_worked_100 107 rfl (fun hc => ?_) (fun hc => ?_)
              · rw [if_pos hc] at H
                refine ww_iconst (v := (0 : Int32)) C dX9_worked_107 (by decide) ?_
                cases H
                exact ww_iret C E dX9_worked_108 ⟨rfl, rfl⟩
              · rw [if_neg hc] at H
                refine ww_iconst (v := (1 : Int32)) C dX9_worked_103 (by decide) ?_
                refine ww_goto C dX9_worked_104 108 rfl ?_
                cases H
                exact ww_iret C E dX9_worked_108 ⟨rfl, rfl⟩
            · rw [if_neg hc5] at H
              by_cases hc6 : a0 = (26 : Int32)
              · rw [if_pos hc6] at H
                refine ww_tableIn (off := 108) C dX9_worked_1 (by rw [hc6]; decide) (by rw [hc6]; decide) (by rw [hc6]; rfl) 109 rfl ?_
                refine ww_iload_n C dX9_worked_109 1 rfl rfl ?_
                refine ww_iload_n C dX9_worked_110 2 rfl rfl ?_
                refine ww_iadd C dX9_worked_111 ?_
                cases H
                exact ww_iret C E dX9_worked_112 ⟨rfl, rfl⟩
              · rw [if_neg hc6] at H
                by_cases hc7 : a0 = (27 : Int32)
                · rw [if_pos hc7] at H
                  refine ww_tableIn (off := 112) C dX9_worked_1 (by rw [hc7]; decide) (by rw [hc7]; decide) (by rw [hc7]; rfl) 113 rfl ?_
                  refine ww_iload_n C dX9_worked_113 1 rfl rfl ?_
                  refine ww_iload_n C dX9_worked_114 2 rfl rfl ?_
                  refine ww_isub C dX9_worked_115 ?_
                  cases H
                  exact ww_iret C E dX9_worked_116 ⟨rfl, rfl⟩
                · rw [if_neg hc7] at H
                  refine ww_tableOut C dX9_worked_1 (by have q0 := lv_neT (k := (20 : Int32)) (a := 20) hc0 (by decide); have q1 := lv_neT (k := (21 : Int32)) (a := 21) hc1 (by decide); have q2 := lv_neT (k := (22 : Int32)) (a := 22) hc2 (by decide); have q3 := lv_neT (k := (23 : Int32)) (a := 23) hc3 (by decide); have q4 := lv_neT (k := (24 : Int32)) (a := 24) hc4 (by decide); have q5 := lv_neT (k := (25 : Int32)) (a := 25) hc5 (by decide); have q6 := lv_neT (k := (26 : Int32)) (a := 26) hc6 (by decide); have q7 := lv_neT (k := (27 : Int32)) (a := 27) hc7 (by decide); omega) 117 rfl ?_
                  refine ww_iload_n C dX9_worked_117 1 rfl rfl ?_
                  refine ww_iload_n C dX9_worked_118 2 rfl rfl ?_
                  refine ww_imul C dX9_worked_119 ?_
                  cases H
                  exact ww_iret C E dX9_worked_120 ⟨rfl, rfl⟩
def fX9_isPassed_208 (m : Nat) (k : HI → Option (Int32 × HI)) (kb : HI → Int32 → Int32 → Option (Int32 × HI)) (h : HI) (v5 : Int32) (v6 : Int32) : Option (Int32 × HI) := kb h v5 (v6 + (1 : Int32))
set_option maxRecDepth 100000 in
set_option maxHeartbeats 4000000 in
theorem cX9_isPassed_208 {X : CT} {sh : Sh} {adr : Nat → Nat} {r : Nat → Nat → Option Nat} {m : Nat} {p : Int32 × HI} (hS : MS sh r m) (C : CX X yX9_isPassed.cls cX9_isPassed 7 1) (hZ : SZX X adr) (E : RX X (some .boolean) sh adr (fun v τ => v = some (.int p.1) ∧ τ = mk p.2 r)) {k : HI → Option (Int32 × HI)} {kb : HI → Int32 → Int32 → Option (Int32 × HI)} (hk : ∀ (h : HI), k h = some p → WW X (sh, adr, 0, 0) 214 [.ref m, .retAddr 0, .retAddr 0, .retAddr 0, .retAddr 0, .retAddr 0, .retAddr 0] [] (mk h r)) (hb : ∀ (h : HI) (v5 : Int32) (v6 : Int32), kb h v5 v6 = some p → WW X (sh, adr, 0, 0) 63 [.ref m, .retAddr 0, .retAddr 0, .retAddr 0, .retAddr 0, .int v5, .int v6] [] (mk h r)) {h : HI} {v5 : Int32} {v6 : Int32} (H : fX9_isPassed_208 m k kb h v5 v6 = some p) : WW X (sh, adr, 0, 0) 208 [.ref m, .retAddr 0, .retAddr 0, .retAddr 0, .retAddr 0, .int v5, .int v6] [] (mk h r) := by
  rw [fX9_isPassed_208] at H
  refine ww_iinc (v := (v6 + (1 : Int32))) C dX9_isPassed_208 rfl rfl (by decide) rfl [.ref m, .retAddr 0, .retAddr 0, .retAddr 0, .retAddr 0, .int v5, .int (v6 + (1 : Int32))] rfl ?_
  refine ww_goto C dX9_isPassed_211 63 rfl ?_
  exact hb h v5 (v6 + (1 : Int32)) H
def fX9_isPassed_166 (m : Nat) (k : HI → Option (Int32 × HI)) (kb : HI → Int32 → Int32 → Option (Int32 × HI)) (h : HI) (v5 : Int32) (v6 : Int32) (s0 : Int32) (s1 : Int32) : Option (Int32 × HI) := (if inB s1 50 then fX9_isPassed_208 m k kb (uI h (m + 7) (s1.toNatClampNeg) s0) v5 v6 else none)
set_option maxRecDepth 100000 in
set_option maxHeartbeats 4000000 in
theorem cX9_isPassed_166 {X : CT} {sh : Sh} {adr : Nat → Nat} {r : Nat → Nat → Option Nat} {m : Nat} {p : Int32 × HI} (hS : MS sh r m) (C : CX X yX9_isPassed.cls cX9_isPassed 7 1) (hZ : SZX X adr) (E : RX X (some .boolean) sh adr (fun v τ => v = some (.int p.1) ∧ τ = mk p.2 r)) {k : HI → Option (Int32 × HI)} {kb : HI → Int32 → Int32 → Option (Int32 × HI)} (hk : ∀ (h : HI), k h = some p → WW X (sh, adr, 0, 0) 214 [.ref m, .retAddr 0, .retAddr 0, .retAddr 0, .retAddr 0, .retAddr 0, .retAddr 0] [] (mk h r)) (hb : ∀ (h : HI) (v5 : Int32) (v6 : Int32), kb h v5 v6 = some p → WW X (sh, adr, 0, 0) 63 [.ref m, .retAddr 0, .retAddr 0, .retAddr 0, .retAddr 0, .int v5, .int v6] [] (mk h r)) {h : HI} {v5 : Int32} {v6 : Int32} {s0 : Int32} {s1 : Int32} (H : fX9_isPassed_166 m k kb h v5 v6 s0 s1 = some p) : WW X (sh, adr, 0, 0) 166 [.ref m, .retAddr 0, .retAddr 0, .retAddr 0, .retAddr 0, .int v5, .int v6] [.int s0, .int s1, .ref (m + 7)] (mk h r) := by
  rw [fX9_isPassed_166] at H
  obtain ⟨hg, H⟩ := gd_of H
  refine wk_iastore C dX9_isPassed_166 (tX9_pile hS).2.1 (vp_of hg (tX9_pile hS).2.2) (s1.toNatClampNeg) rfl ?_
  refine ww_goto C dX9_isPassed_167 208 rfl ?_
  exact cX9_isPassed_208 hS C hZ E hk hb H
def fX9_isPassed_122 (m : Nat) (k : HI → Option (Int32 × HI)) (kb : HI → Int32 → Int32 → Option (Int32 × HI)) (h : HI) (v5 : Int32) (v6 : Int32) (s0 : Int32) (s1 : Int32) : Option (Int32 × HI) := (if inB s1 50 then fX9_isPassed_208 m k kb (uI h (m + 7) (s1.toNatClampNeg) s0) (v5 + (1 : Int32)) v6 else none)
set_option maxRecDepth 100000 in
set_option maxHeartbeats 4000000 in
theorem cX9_isPassed_122 {X : CT} {sh : Sh} {adr : Nat → Nat} {r : Nat → Nat → Option Nat} {m : Nat} {p : Int32 × HI} (hS : MS sh r m) (C : CX X yX9_isPassed.cls cX9_isPassed 7 1) (hZ : SZX X adr) (E : RX X (some .boolean) sh adr (fun v τ => v = some (.int p.1) ∧ τ = mk p.2 r)) {k : HI → Option (Int32 × HI)} {kb : HI → Int32 → Int32 → Option (Int32 × HI)} (hk : ∀ (h : HI), k h = some p → WW X (sh, adr, 0, 0) 214 [.ref m, .retAddr 0, .retAddr 0, .retAddr 0, .retAddr 0, .retAddr 0, .retAddr 0] [] (mk h r)) (hb : ∀ (h : HI) (v5 : Int32) (v6 : Int32), kb h v5 v6 = some p → WW X (sh, adr, 0, 0) 63 [.ref m, .retAddr 0, .retAddr 0, .retAddr 0, .retAddr 0, .int v5, .int v6] [] (mk h r)) {h : HI} {v5 : Int32} {v6 : Int32} {s0 : Int32} {s1 : Int32} (H : fX9_isPassed_122 m k kb h v5 v6 s0 s1 = some p) : WW X (sh, adr, 0, 0) 122 [.ref m, .retAddr 0, .retAddr 0, .retAddr 0, .retAddr 0, .int v5, .int v6] [.int s0, .int s1, .ref (m + 7)] (mk h r) := by
  rw [fX9_isPassed_122] at H
  obtain ⟨hg, H⟩ := gd_of H
  refine wk_iastore C dX9_isPassed_122 (tX9_pile hS).2.1 (vp_of hg (tX9_pile hS).2.2) (s1.toNatClampNeg) rfl ?_
  refine ww_iinc (v := (v5 + (1 : Int32))) C dX9_isPassed_123 rfl rfl (by decide) rfl [.ref m, .retAddr 0, .retAddr 0, .retAddr 0, .retAddr 0, .int (v5 + (1 : Int32)), .int v6] rfl ?_
  refine ww_goto C dX9_isPassed_126 208 rfl ?_
  exact cX9_isPassed_208 hS C hZ E hk hb H
def fX9_isPassed_63 (m : Nat) (k : HI → Option (Int32 × HI)) : Nat → HI → Int32 → Int32 → Option (Int32 × HI)
  | 0, _, _, _ => none
  | n + 1, h, v5, v6 => (if (h.1 m 19) ≤ v6 then k h else (if inB v6 640 then (if (20 : Int32) ≤ (h.1 (m + 4) (v6.toNatClampNeg)) then (if inB v6 640 then (if (h.1 (m + 4) (v6.toNatClampNeg)) = (22 : Int32) then (if inB (v5 - (1 : Int32)) 50 then (if (h.1 (m + 7) ((v5 - (1 : Int32)).toNatClampNeg)) = 0 then fX9_isPassed_166 m (k) (fX9_isPassed_63 m k n) h v5 v6 (1 : Int32) (v5 - (1 : Int32)) else fX9_isPassed_166 m (k) (fX9_isPassed_63 m k n) h v5 v6 (0 : Int32) (v5 - (1 : Int32))) else none) else (if inB v6 640 then (if inB ((v5 + (-1 : Int32)) - (1 : Int32)) 50 then (if inB (v5 + (-1 : Int32)) 50 then ((fX9_worked h (h.1 (m + 4) (v6.toNatClampNeg)) (h.1 (m + 7) (((v5 + (-1 : Int32)) - (1 : Int32)).toNatClampNeg)) (h.1 (m + 7) ((v5 + (-1 : Int32)).toNatClampNeg))).bind fun p1 => (if inB ((v5 + (-1 : Int32)) - (1 : Int32)) 50 then fX9_isPassed_208 m (k) (fX9_isPassed_63 m k n) (uI p1.2 (m + 7) (((v5 + (-1 : Int32)) - (1 : Int32)).toNatClampNeg) p1.1) (v5 + (-1 : Int32)) v6 else none)) else none) else none) else none)) else none) else (if inB v6 640 then (if (h.1 (m + 4) (v6.toNatClampNeg)) = 0 then (if inB v6 640 then fX9_isPassed_122 m (k) (fX9_isPassed_63 m k n) h v5 v6 (h.1 (m + 5) (v6.toNatClampNeg)) v5 else none) else (if inB v6 640 then (if inB (h.1 (m + 4) (v6.toNatClampNeg)) 6 then fX9_isPassed_122 m (k) (fX9_isPassed_63 m k n) h v5 v6 (h.1 (m + 8) ((h.1 (m + 4) (v6.toNatClampNeg)).toNatClampNeg)) v5 else none) else none)) else none)) else none))
set_option maxRecDepth 100000 in
set_option maxHeartbeats 4000000 in
theorem cX9_isPassed_63 {X : CT} {sh : Sh} {adr : Nat → Nat} {r : Nat → Nat → Option Nat} {m : Nat} {p : Int32 × HI} (hS : MS sh r m) (C : CX X yX9_isPassed.cls cX9_isPassed 7 1) (hZ : SZX X adr) (E : RX X (some .boolean) sh adr (fun v τ => v = some (.int p.1) ∧ τ = mk p.2 r)) {k : HI → Option (Int32 × HI)} (hk : ∀ (h : HI), k h = some p → WW X (sh, adr, 0, 0) 214 [.ref m, .retAddr 0, .retAddr 0, .retAddr 0, .retAddr 0, .retAddr 0, .retAddr 0] [] (mk h r)) : ∀ (n : Nat) (h : HI) (v5 : Int32) (v6 : Int32), fX9_isPassed_63 m k n h v5 v6 = some p → WW X (sh, adr, 0, 0) 63 [.ref m, .retAddr 0, .retAddr 0, .retAddr 0, .retAddr 0, .int v5, .int v6] [] (mk h r) := by
  intro n
  induction n with
  | zero =>
    intro h v5 v6 H
    rw [fX9_isPassed_63] at H
    cases H
  | succ n ih =>
    intro h v5 v6 H
    rw [fX9_isPassed_63] at H
    refine ww_iload C dX9_isPassed_63 rfl ?_
    refine ww_aload_n C dX9_isPassed_65 0 rfl rfl ?_
    refine wk_getI C dX9_isPassed_66 fl_X9_389 hS.1 rfl ?_
    refine ww_icmp_ge C dX9_isPassed_69 214 rfl (fun hc => ?_) (fun hc => ?_)
    · rw [if_pos hc] at H
      exact ww_drop [.ref m, .retAddr 0, .retAddr 0, .retAddr 0, .retAddr 0, .retAddr 0, .retAddr 0] (sl_e (sl_e (sl_e (sl_e (sl_e (sl_d (sl_d sl_n))))))) (hk h H)
    · rw [if_neg hc] at H
      refine ww_aload_n C dX9_isPassed_72 0 rfl rfl ?_
      refine wk_getR C dX9_isPassed_73 fl_X9_23 hS.1 rfl (tX9_whats hS).1 ?_
      refine ww_iload C dX9_isPassed_76 rfl ?_
      obtain ⟨hg, H⟩ := gd_of H
      refine wk_iaload C dX9_isPassed_78 (tX9_whats hS).2.1 (vp_of hg (tX9_whats hS).2.2) (v6.toNatClampNeg) rfl ?_
      refine ww_bipush (v := (20 : Int32)) C dX9_isPassed_79 (by decide) ?_
      refine ww_icmp_ge C dX9_isPassed_81 129 rfl (fun hc => ?_) (fun hc => ?_)
      · rw [if_pos hc] at H
        refine ww_aload_n C dX9_isPassed_129 0 rfl rfl ?_
        refine wk_getR C dX9_isPassed_130 fl_X9_23 hS.1 rfl (tX9_whats hS).1 ?_
        refine ww_iload C dX9_isPassed_133 rfl ?_
        obtain ⟨hg, H⟩ := gd_of H
        refine wk_iaload C dX9_isPassed_135 (tX9_whats hS).2.1 (vp_of hg (tX9_whats hS).2.2) (v6.toNatClampNeg) rfl ?_
        refine ww_bipush (v := (22 : Int32)) C dX9_isPassed_136 (by decide) ?_
        refine ww_icmp_ne C dX9_isPassed_138 170 rfl (fun hc => ?_) (fun hc => ?_)
        · rw [if_neg hc] at H
          refine ww_iinc (v := (v5 + (-1 : Int32))) C dX9_isPassed_170 rfl rfl (by decide) rfl [.ref m, .retAddr 0, .retAddr 0, .retAddr 0, .retAddr 0, .int (v5 + (-1 : Int32)), .int v6] rfl ?_
          refine ww_aload_n C dX9_isPassed_173 0 rfl rfl ?_
          refine wk_getR C dX9_isPassed_174 fl_X9_32 hS.1 rfl (tX9_pile hS).1 ?_
          refine ww_iload C dX9_isPassed_177 rfl ?_
          refine ww_iconst (v := (1 : Int32)) C dX9_isPassed_179 (by decide) ?_
          refine ww_isub C dX9_isPassed_180 ?_
          refine ww_aload_n C dX9_isPassed_181 0 rfl rfl ?_
          refine wk_getR C dX9_isPassed_182 fl_X9_23 hS.1 rfl (tX9_whats hS).1 ?_
          refine ww_iload C dX9_isPassed_185 rfl ?_
          obtain ⟨hg, H⟩ := gd_of H
          refine wk_iaload C dX9_isPassed_187 (tX9_whats hS).2.1 (vp_of hg (tX9_whats hS).2.2) (v6.toNatClampNeg) rfl ?_
          refine ww_aload_n C dX9_isPassed_188 0 rfl rfl ?_
          refine wk_getR C dX9_isPassed_189 fl_X9_32 hS.1 rfl (tX9_pile hS).1 ?_
          refine ww_iload C dX9_isPassed_192 rfl ?_
          refine ww_iconst (v := (1 : Int32)) C dX9_isPassed_194 (by decide) ?_
          refine ww_isub C dX9_isPassed_195 ?_
          obtain ⟨hg, H⟩ := gd_of H
          refine wk_iaload C dX9_isPassed_196 (tX9_pile hS).2.1 (vp_of hg (tX9_pile hS).2.2) (((v5 + (-1 : Int32)) - (1 : Int32)).toNatClampNeg) rfl ?_
          refine ww_aload_n C dX9_isPassed_197 0 rfl rfl ?_
          refine wk_getR C dX9_isPassed_198 fl_X9_32 hS.1 rfl (tX9_pile hS).1 ?_
          refine ww_iload C dX9_isPassed_201 rfl ?_
          obtain ⟨hg, H⟩ := gd_of H
          refine wk_iaload C dX9_isPassed_203 (tX9_pile hS).2.1 (vp_of hg (tX9_pile hS).2.2) ((v5 + (-1 : Int32)).toNatClampNeg) rfl ?_
          obtain ⟨p1, hc1, H⟩ := bd_of H
          refine ww_callS C hZ dX9_isPassed_204 sw_X9_413 (ccX9_worked hc1) (by decide) rfl rfl (Nat.le_of_ble_eq_true rfl) ⟨Nat.zero_le _, Nat.zero_le _⟩ (fun v τ hp => ?_)
          obtain ⟨rfl, rfl⟩ := hp
          change WW X _ 207 [.ref m, .retAddr 0, .retAddr 0, .retAddr 0, .retAddr 0, .int (v5 + (-1 : Int32)), .int v6] [.int p1.1, .int ((v5 + (-1 : Int32)) - (1 : Int32)), .ref (m + 7)] _
          obtain ⟨hg, H⟩ := gd_of H
          refine wk_iastore C dX9_isPassed_207 (tX9_pile hS).2.1 (vp_of hg (tX9_pile hS).2.2) (((v5 + (-1 : Int32)) - (1 : Int32)).toNatClampNeg) rfl ?_
          exact cX9_isPassed_208 hS C hZ E hk ih H
        · rw [if_pos hc] at H
          refine ww_aload_n C dX9_isPassed_141 0 rfl rfl ?_
          refine wk_getR C dX9_isPassed_142 fl_X9_32 hS.1 rfl (tX9_pile hS).1 ?_
          refine ww_iload C dX9_isPassed_145 rfl ?_
          refine ww_iconst (v := (1 : Int32)) C dX9_isPassed_147 (by decide) ?_
          refine ww_isub C dX9_isPassed_148 ?_
          refine ww_aload_n C dX9_isPassed_149 0 rfl rfl ?_
          refine wk_getR C dX9_isPassed_150 fl_X9_32 hS.1 rfl (tX9_pile hS).1 ?_
          refine ww_iload C dX9_isPassed_153 rfl ?_
          refine ww_iconst (v := (1 : Int32)) C dX9_isPassed_155 (by decide) ?_
          refine ww_isub C dX9_isPassed_156 ?_
          obtain ⟨hg, H⟩ := gd_of H
          refine wk_iaload C dX9_isPassed_157 (tX9_pile hS).2.1 (vp_of hg (tX9_pile hS).2.2) ((v5 - (1 : Int32)).toNatClampNeg) rfl ?_
          refine ww_if_ne C dX9_isPassed_158 165 rfl (fun hc => ?_) (fun hc => ?_)
          · rw [if_neg hc] at H
            refine ww_iconst (v := (0 : Int32)) C dX9_isPassed_165 (by decide) ?_
            exact cX9_isPassed_166 hS C hZ E hk ih H
          · rw [if_pos hc] at H
            refine ww_iconst (v := (1 : Int32)) C dX9_isPassed_161 (by decide) ?_
            refine ww_goto C dX9_isPassed_162 166 rfl ?_
            exact cX9_isPassed_166 hS C hZ E hk ih H
      · rw [if_neg hc] at H
        refine ww_aload_n C dX9_isPassed_84 0 rfl rfl ?_
        refine wk_getR C dX9_isPassed_85 fl_X9_32 hS.1 rfl (tX9_pile hS).1 ?_
        refine ww_iload C dX9_isPassed_88 rfl ?_
        refine ww_aload_n C dX9_isPassed_90 0 rfl rfl ?_
        refine wk_getR C dX9_isPassed_91 fl_X9_23 hS.1 rfl (tX9_whats hS).1 ?_
        refine ww_iload C dX9_isPassed_94 rfl ?_
        obtain ⟨hg, H⟩ := gd_of H
        refine wk_iaload C dX9_isPassed_96 (tX9_whats hS).2.1 (vp_of hg (tX9_whats hS).2.2) (v6.toNatClampNeg) rfl ?_
        refine ww_if_ne C dX9_isPassed_97 110 rfl (fun hc => ?_) (fun hc => ?_)
        · rw [if_neg hc] at H
          refine ww_aload_n C dX9_isPassed_110 0 rfl rfl ?_
          refine wk_getR C dX9_isPassed_111 fl_X9_35 hS.1 rfl (tX9_asked hS).1 ?_
          refine ww_aload_n C dX9_isPassed_114 0 rfl rfl ?_
          refine wk_getR C dX9_isPassed_115 fl_X9_23 hS.1 rfl (tX9_whats hS).1 ?_
          refine ww_iload C dX9_isPassed_118 rfl ?_
          obtain ⟨hg, H⟩ := gd_of H
          refine wk_iaload C dX9_isPassed_120 (tX9_whats hS).2.1 (vp_of hg (tX9_whats hS).2.2) (v6.toNatClampNeg) rfl ?_
          obtain ⟨hg, H⟩ := gd_of H
          refine wk_iaload C dX9_isPassed_121 (tX9_asked hS).2.1 (vp_of hg (tX9_asked hS).2.2) ((h.1 (m + 4) (v6.toNatClampNeg)).toNatClampNeg) rfl ?_
          exact cX9_isPassed_122 hS C hZ E hk ih H
        · rw [if_pos hc] at H
          refine ww_aload_n C dX9_isPassed_100 0 rfl rfl ?_
          refine wk_getR C dX9_isPassed_101 fl_X9_26 hS.1 rfl (tX9_numbers hS).1 ?_
          refine ww_iload C dX9_isPassed_104 rfl ?_
          obtain ⟨hg, H⟩ := gd_of H
          refine wk_iaload C dX9_isPassed_106 (tX9_numbers hS).2.1 (vp_of hg (tX9_numbers hS).2.2) (v6.toNatClampNeg) rfl ?_
          refine ww_goto C dX9_isPassed_107 122 rfl ?_
          exact cX9_isPassed_122 hS C hZ E hk ih H
def fX9_isPassed (m : Nat) (h : HI) (a1 : Int32) (a2 : Int32) (a3 : Int32) (a4 : Int32) : Option (Int32 × HI) := (if (h.1 m 48) = 0 then (if a1 ≤ a2 then some ((0 : Int32), h) else some ((1 : Int32), h)) else fX9_isPassed_63 m (fun h3 => (if (h3.1 (m + 7) 0) = 0 then some ((0 : Int32), h3) else some ((1 : Int32), h3))) FU (uI (uI (uI (uI (uI h (m + 8) 1 a1) (m + 8) 2 a2) (m + 8) 3 a3) (m + 8) 4 (a4 - a3)) (m + 8) 5 a4) (0 : Int32) (0 : Int32))
set_option maxRecDepth 100000 in
set_option maxHeartbeats 4000000 in
theorem ccX9_isPassed {l : Launch} {sh : Sh} {adr : Nat → Nat} {r : Nat → Nat → Option Nat} {m : Nat} (hS : MS sh r m) {h : HI} {a1 : Int32} {a2 : Int32} {a3 : Int32} {a4 : Int32} {p : Int32 × HI} (H : fX9_isPassed m h a1 a2 a3 a4 = some p) : CC l yX9_isPassed cX9_isPassed 7 (some .boolean) 1 [.ref m, .int a1, .int a2, .int a3, .int a4] sh adr (mk h r) (fun v τ => v = some (.int p.1) ∧ τ = mk p.2 r) := by
  refine CC.of (by decide) (Nat.le_of_ble_eq_true rfl) 2 [.ref m, .int a1, .int a2, .int a3, .int a4, .retAddr 0, .retAddr 0] rfl (fun X _ C E hZ => ?_)
  rw [fX9_isPassed] at H
  refine ww_aload_n C dX9_isPassed_0 0 rfl rfl ?_
  refine wk_getZ C dX9_isPassed_1 fl_X9_404 hS.1 rfl ?_
  refine ww_if_ne C dX9_isPassed_4 18 rfl (fun hc => ?_) (fun hc => ?_)
  · rw [if_neg hc] at H
    refine ww_aload_n C dX9_isPassed_18 0 rfl rfl ?_
    refine wk_getR C dX9_isPassed_19 fl_X9_35 hS.1 rfl (tX9_asked hS).1 ?_
    refine ww_iconst (v := (1 : Int32)) C dX9_isPassed_22 (by decide) ?_
    refine ww_iload_n C dX9_isPassed_23 1 rfl rfl ?_
    refine wk_iastore C dX9_isPassed_24 (tX9_asked hS).2.1 (vp_of (by decide : inB (1 : Int32) 6) (tX9_asked hS).2.2) 1 rfl ?_
    refine ww_aload_n C dX9_isPassed_25 0 rfl rfl ?_
    refine wk_getR C dX9_isPassed_26 fl_X9_35 hS.1 rfl (tX9_asked hS).1 ?_
    refine ww_iconst (v := (2 : Int32)) C dX9_isPassed_29 (by decide) ?_
    refine ww_iload_n C dX9_isPassed_30 2 rfl rfl ?_
    refine wk_iastore C dX9_isPassed_31 (tX9_asked hS).2.1 (vp_of (by decide : inB (2 : Int32) 6) (tX9_asked hS).2.2) 2 rfl ?_
    refine ww_aload_n C dX9_isPassed_32 0 rfl rfl ?_
    refine wk_getR C dX9_isPassed_33 fl_X9_35 hS.1 rfl (tX9_asked hS).1 ?_
    refine ww_iconst (v := (3 : Int32)) C dX9_isPassed_36 (by decide) ?_
    refine ww_iload_n C dX9_isPassed_37 3 rfl rfl ?_
    refine wk_iastore C dX9_isPassed_38 (tX9_asked hS).2.1 (vp_of (by decide : inB (3 : Int32) 6) (tX9_asked hS).2.2) 3 rfl ?_
    refine ww_aload_n C dX9_isPassed_39 0 rfl rfl ?_
    refine wk_getR C dX9_isPassed_40 fl_X9_35 hS.1 rfl (tX9_asked hS).1 ?_
    refine ww_iconst (v := (4 : Int32)) C dX9_isPassed_43 (by decide) ?_
    refine ww_iload C dX9_isPassed_44 rfl ?_
    refine ww_iload_n C dX9_isPassed_46 3 rfl rfl ?_
    refine ww_isub C dX9_isPassed_47 ?_
    refine wk_iastore C dX9_isPassed_48 (tX9_asked hS).2.1 (vp_of (by decide : inB (4 : Int32) 6) (tX9_asked hS).2.2) 4 rfl ?_
    refine ww_aload_n C dX9_isPassed_49 0 rfl rfl ?_
    refine wk_getR C dX9_isPassed_50 fl_X9_35 hS.1 rfl (tX9_asked hS).1 ?_
    refine ww_iconst (v := (5 : Int32)) C dX9_isPassed_53 (by decide) ?_
    refine ww_iload C dX9_isPassed_54 rfl ?_
    refine wk_iastore C dX9_isPassed_56 (tX9_asked hS).2.1 (vp_of (by decide : inB (5 : Int32) 6) (tX9_asked hS).2.2) 5 rfl ?_
    refine ww_iconst (v := (0 : Int32)) C dX9_isPassed_57 (by decide) ?_
    refine ww_istore C dX9_isPassed_58 (by decide) rfl [.ref m, .int a1, .int a2, .int a3, .int a4, .int (0 : Int32), .retAddr 0] rfl ?_
    refine ww_iconst (v := (0 : Int32)) C dX9_isPassed_60 (by decide) ?_
    refine ww_istore C dX9_isPassed_61 (by decide) rfl [.ref m, .int a1, .int a2, .int a3, .int a4, .int (0 : Int32), .int (0 : Int32)] rfl ?_
    refine ww_drop [.ref m, .retAddr 0, .retAddr 0, .retAddr 0, .retAddr 0, .int (0 : Int32), .int (0 : Int32)] (sl_e (sl_d (sl_d (sl_d (sl_d (sl_e (sl_e sl_n))))))) (cX9_isPassed_63 hS C hZ E (fun h3 H => ?_) FU (uI (uI (uI (uI (uI h (m + 8) 1 a1) (m + 8) 2 a2) (m + 8) 3 a3) (m + 8) 4 (a4 - a3)) (m + 8) 5 a4) (0 : Int32) (0 : Int32) H)
    refine ww_aload_n C dX9_isPassed_214 0 rfl rfl ?_
    refine wk_getR C dX9_isPassed_215 fl_X9_32 hS.1 rfl (tX9_pile hS).1 ?_
    refine ww_iconst (v := (0 : Int32)) C dX9_isPassed_218 (by decide) ?_
    refine wk_iaload C dX9_isPassed_219 (tX9_pile hS).2.1 (vp_of (by decide : inB (0 : Int32) 50) (tX9_pile hS).2.2) 0 rfl ?_
    refine ww_if_eq C dX9_isPassed_220 227 rfl (fun hc => ?_) (fun hc => ?_)
    · rw [if_pos hc] at H
      refine ww_iconst (v := (0 : Int32)) C dX9_isPassed_227 (by decide) ?_
      cases H
      exact ww_zret C E dX9_isPassed_228 (Or.inl rfl) ⟨rfl, rfl⟩
    · rw [if_neg hc] at H
      refine ww_iconst (v := (1 : Int32)) C dX9_isPassed_223 (by decide) ?_
      refine ww_goto C dX9_isPassed_224 228 rfl ?_
      cases H
      exact ww_zret C E dX9_isPassed_228 (Or.inr rfl) ⟨rfl, rfl⟩
  · rw [if_pos hc] at H
    refine ww_iload_n C dX9_isPassed_7 1 rfl rfl ?_
    refine ww_iload_n C dX9_isPassed_8 2 rfl rfl ?_
    refine ww_icmp_le C dX9_isPassed_9 16 rfl (fun hc => ?_) (fun hc => ?_)
    · rw [if_pos hc] at H
      refine ww_iconst (v := (0 : Int32)) C dX9_isPassed_16 (by decide) ?_
      cases H
      exact ww_zret C E dX9_isPassed_17 (Or.inl rfl) ⟨rfl, rfl⟩
    · rw [if_neg hc] at H
      refine ww_iconst (v := (1 : Int32)) C dX9_isPassed_12 (by decide) ?_
      refine ww_goto C dX9_isPassed_13 17 rfl ?_
      cases H
      exact ww_zret C E dX9_isPassed_17 (Or.inr rfl) ⟨rfl, rfl⟩
