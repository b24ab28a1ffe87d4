def fX4_unit_87 (ex : HI → Int32 → Int32 → Option HI) (o : Nat) (tt : Nat) (hh : Nat) (h : HI) : Option (HI) := ((fX4_refuse o h (2 : Int32)).bind fun h1 => some h1)
set_option maxRecDepth 100000 in
set_option maxHeartbeats 4000000 in
theorem cX4_unit_87 {X : CT} {sh : Sh} {adr : Nat → Nat} {r : Nat → Nat → Option Nat} {ex : HI → Int32 → Int32 → Option HI} {D : Nat} {o : Nat} {tt : Nat} {hh : Nat} {p : HI} (hS : ES sh r tt hh o) (hD : 20 ≤ D) (hex : ∀ (l : Launch) (h : HI) (a b : Int32) (p : HI), ex h a b = some p → CC l yX4_expression cX4_expression 6 none D [.ref o, .int a, .int b] sh adr (mk h r) (fun v τ => v = none ∧ τ = mk p r)) (C : CX X yX4_unit.cls cX4_unit 4 (D + 1)) (hZ : SZX X adr) (E : RX X none sh adr (fun v τ => v = none ∧ τ = mk p r)) {h : HI} (H : fX4_unit_87 ex o tt hh h = some p) : WW X (sh, adr, 0, 0) 87 [.ref o, .retAddr 0, .retAddr 0, .retAddr 0] [] (mk h r) := by
  rw [fX4_unit_87] at H
  refine ww_aload_n C dX4_unit_87 0 rfl rfl ?_
  refine ww_iconst (v := (2 : Int32)) C dX4_unit_88 (by decide) ?_
  obtain ⟨h1, hc1, H⟩ := bd_of H
  refine ww_callV C hZ dX4_unit_89 cw_X4_98 (ccX4_refuse hS hc1) hS.1 ⟨by decide, rfl⟩ ⟨by omega, by decide⟩ rfl rfl (Nat.le_of_ble_eq_true rfl) ⟨Nat.zero_le _, Nat.zero_le _⟩ (fun v τ hp => ?_)
  obtain ⟨rfl, rfl⟩ := hp
  change WW X _ 92 [.ref o, .retAddr 0, .retAddr 0, .retAddr 0] [] _
  cases H
  exact ww_vret C E dX4_unit_92 ⟨rfl, rfl⟩
def fX4_unit_182 (ex : HI → Int32 → Int32 → Option HI) (o : Nat) (tt : Nat) (hh : Nat) (h : HI) : Option (HI) := ((fX4_next o tt h).bind fun h3 => some h3)
set_option maxRecDepth 100000 in
set_option maxHeartbeats 4000000 in
theorem cX4_unit_182 {X : CT} {sh : Sh} {adr : Nat → Nat} {r : Nat → Nat → Option Nat} {ex : HI → Int32 → Int32 → Option HI} {D : Nat} {o : Nat} {tt : Nat} {hh : Nat} {p : HI} (hS : ES sh r tt hh o) (hD : 20 ≤ D) (hex : ∀ (l : Launch) (h : HI) (a b : Int32) (p : HI), ex h a b = some p → CC l yX4_expression cX4_expression 6 none D [.ref o, .int a, .int b] sh adr (mk h r) (fun v τ => v = none ∧ τ = mk p r)) (C : CX X yX4_unit.cls cX4_unit 4 (D + 1)) (hZ : SZX X adr) (E : RX X none sh adr (fun v τ => v = none ∧ τ = mk p r)) {h : HI} (H : fX4_unit_182 ex o tt hh h = some p) : WW X (sh, adr, 0, 0) 182 [.ref o, .retAddr 0, .retAddr 0, .retAddr 0] [] (mk h r) := by
  rw [fX4_unit_182] at H
  refine ww_aload_n C dX4_unit_182 0 rfl rfl ?_
  obtain ⟨h3, hc1, H⟩ := bd_of H
  refine ww_callV C hZ dX4_unit_183 cw_X4_63 (ccX4_next hS hc1) hS.1 ⟨by decide, rfl⟩ ⟨by omega, by decide⟩ rfl rfl (Nat.le_of_ble_eq_true rfl) ⟨Nat.zero_le _, Nat.zero_le _⟩ (fun v τ hp => ?_)
  obtain ⟨rfl, rfl⟩ := hp
  change WW X _ 186 [.ref o, .retAddr 0, .retAddr 0, .retAddr 0] [] _
  cases H
  exact ww_vret C E dX4_unit_186 ⟨rfl, rfl⟩
def fX4_unit_93 (ex : HI → Int32 → Int32 → Option HI) (o : Nat) (tt : Nat) (hh : Nat) (h : HI) (v1 : Int32) (v2 : Int32) : Option (HI) := (if ((uI h (hh + 18) 3 ((h.1 (hh + 18) 3) + (1 : Int32))).1 o 4) = (40 : Int32) then ((fX4_next o tt (uI h (hh + 18) 3 ((h.1 (hh + 18) 3) + (1 : Int32)))).bind fun h5 => ((ex h5 (0 : Int32) (v1 + (1 : Int32))).bind fun h6 => (if (h6.1 o 4) = (41 : Int32) then fX4_unit_182 ex o tt hh h6 else ((fX4_refuse o h6 (2 : Int32)).bind fun h7 => fX4_unit_182 ex o tt hh h7)))) else (if v2 = 0 then ((fX5_addNumber (hh + 18) (uI h (hh + 18) 3 ((h.1 (hh + 18) 3) + (1 : Int32))) ((uI h (hh + 18) 3 ((h.1 (hh + 18) 3) + (1 : Int32))).1 o 6)).bind fun h2 => fX4_unit_182 ex o tt hh h2) else ((fX5_addToken (hh + 18) (uI h (hh + 18) 3 ((h.1 (hh + 18) 3) + (1 : Int32))) ((uI h (hh + 18) 3 ((h.1 (hh + 18) 3) + (1 : Int32))).1 o 4)).bind fun h4 => fX4_unit_182 ex o tt hh h4)))
set_option maxRecDepth 100000 in
set_option maxHeartbeats 4000000 in
theorem cX4_unit_93 {X : CT} {sh : Sh} {adr : Nat → Nat} {r : Nat → Nat → Option Nat} {ex : HI → Int32 → Int32 → Option HI} {D : Nat} {o : Nat} {tt : Nat} {hh : Nat} {p : HI} (hS : ES sh r tt hh o) (hD : 20 ≤ D) (hex : ∀ (l : Launch) (h : HI) (a b : Int32) (p : HI), ex h a b = some p → CC l yX4_expression cX4_expression 6 none D [.ref o, .int a, .int b] sh adr (mk h r) (fun v τ => v = none ∧ τ = mk p r)) (C : CX X yX4_unit.cls cX4_unit 4 (D + 1)) (hZ : SZX X adr) (E : RX X none sh adr (fun v τ => v = none ∧ τ = mk p r)) {h : HI} {v1 : Int32} {v2 : Int32} (H : fX4_unit_93 ex o tt hh h v1 v2 = some p) : WW X (sh, adr, 0, 0) 93 [.ref o, .int v1, .int v2, .retAddr 0] [] (mk h r) := by
  rw [fX4_unit_93] at H
  refine ww_aload_n C dX4_unit_93 0 rfl rfl ?_
  refine wk_getA C dX4_unit_94 fl_X4_28 hS.1 rfl (tX4_hall hS).1 ?_
  refine wk_getA C dX4_unit_97 fl_X4_134 (tX4_hall hS).2.1 rfl (tX1_rule (tX4_hall hS).2).1 ?_
  refine ww_dup C dX4_unit_100 rfl ?_
  refine wk_getI C dX4_unit_101 fl_X4_233 (tX1_rule (tX4_hall hS).2).2.1 rfl ?_
  refine ww_iconst (v := (1 : Int32)) C dX4_unit_104 (by decide) ?_
  refine ww_iadd C dX4_unit_105 ?_
  refine wk_putI C dX4_unit_106 fl_X4_233 (tX1_rule (tX4_hall hS).2).2.1 rfl rfl ?_
  refine ww_aload_n C dX4_unit_109 0 rfl rfl ?_
  refine wk_getI C dX4_unit_110 fl_X4_66 hS.1 rfl ?_
  refine ww_bipush (v := (40 : Int32)) C dX4_unit_113 (by decide) ?_
  refine ww_icmp_ne C dX4_unit_115 147 rfl (fun hc => ?_) (fun hc => ?_)
  · rw [if_neg hc] at H
    refine ww_iload_n C dX4_unit_147 2 rfl rfl ?_
    refine ww_if_eq C dX4_unit_148 168 rfl (fun hc => ?_) (fun hc => ?_)
    · rw [if_pos hc] at H
      refine ww_aload_n C dX4_unit_168 0 rfl rfl ?_
      refine wk_getA C dX4_unit_169 fl_X4_28 hS.1 rfl (tX4_hall hS).1 ?_
      refine wk_getA C dX4_unit_172 fl_X4_134 (tX4_hall hS).2.1 rfl (tX1_rule (tX4_hall hS).2).1 ?_
      refine ww_aload_n C dX4_unit_175 0 rfl rfl ?_
      refine wk_getI C dX4_unit_176 fl_X4_113 hS.1 rfl ?_
      obtain ⟨h2, hc1, H⟩ := bd_of H
      refine ww_callV C hZ dX4_unit_179 cw_X4_236 (ccX5_addNumber (tX1_rule (tX4_hall hS).2).2 hc1) (tX1_rule (tX4_hall hS).2).2.1 ⟨by decide, rfl⟩ ⟨by omega, by decide⟩ rfl rfl (Nat.le_of_ble_eq_true rfl) ⟨Nat.zero_le _, Nat.zero_le _⟩ (fun v τ hp => ?_)
      obtain ⟨rfl, rfl⟩ := hp
      change WW X _ 182 [.ref o, .int v1, .int v2, .retAddr 0] [] _
      exact ww_drop [.ref o, .retAddr 0, .retAddr 0, .retAddr 0] (sl_e (sl_d (sl_d (sl_e sl_n)))) (cX4_unit_182 hS hD hex C hZ E H)
    · rw [if_neg hc] at H
      refine ww_aload_n C dX4_unit_151 0 rfl rfl ?_
      refine wk_getA C dX4_unit_152 fl_X4_28 hS.1 rfl (tX4_hall hS).1 ?_
      refine wk_getA C dX4_unit_155 fl_X4_134 (tX4_hall hS).2.1 rfl (tX1_rule (tX4_hall hS).2).1 ?_
      refine ww_aload_n C dX4_unit_158 0 rfl rfl ?_
      refine wk_getI C dX4_unit_159 fl_X4_66 hS.1 rfl ?_
      obtain ⟨h4, hc1, H⟩ := bd_of H
      refine ww_callV C hZ dX4_unit_162 cw_X4_230 (ccX5_addToken (tX1_rule (tX4_hall hS).2).2 hc1) (tX1_rule (tX4_hall hS).2).2.1 ⟨by decide, rfl⟩ ⟨by omega, by decide⟩ rfl rfl (Nat.le_of_ble_eq_true rfl) ⟨Nat.zero_le _, Nat.zero_le _⟩ (fun v τ hp => ?_)
      obtain ⟨rfl, rfl⟩ := hp
      change WW X _ 165 [.ref o, .int v1, .int v2, .retAddr 0] [] _
      refine ww_goto C dX4_unit_165 182 rfl ?_
      exact ww_drop [.ref o, .retAddr 0, .retAddr 0, .retAddr 0] (sl_e (sl_d (sl_d (sl_e sl_n)))) (cX4_unit_182 hS hD hex C hZ E H)
  · rw [if_pos hc] at H
    refine ww_aload_n C dX4_unit_118 0 rfl rfl ?_
    obtain ⟨h5, hc1, H⟩ := bd_of H
    refine ww_callV C hZ dX4_unit_119 cw_X4_63 (ccX4_next hS hc1) hS.1 ⟨by decide, rfl⟩ ⟨by omega, by decide⟩ rfl rfl (Nat.le_of_ble_eq_true rfl) ⟨Nat.zero_le _, Nat.zero_le _⟩ (fun v τ hp => ?_)
    obtain ⟨rfl, rfl⟩ := hp
    change WW X _ 122 [.ref o, .int v1, .int v2, .retAddr 0] [] _
    refine ww_aload_n C dX4_unit_122 0 rfl rfl ?_
    refine ww_iconst (v := (0 : Int32)) C dX4_unit_123 (by decide) ?_
    refine ww_iload_n C dX4_unit_124 1 rfl rfl ?_
    refine ww_iconst (v := (1 : Int32)) C dX4_unit_125 (by decide) ?_
    refine ww_iadd C dX4_unit_126 ?_
    obtain ⟨h6, hc1, H⟩ := bd_of H
    refine ww_callV C hZ dX4_unit_127 cw_X4_151 (hex _ _ _ _ _ hc1) hS.1 ⟨by decide, rfl⟩ ⟨by omega, by decide⟩ rfl rfl (Nat.le_of_ble_eq_true rfl) ⟨Nat.zero_le _, Nat.zero_le _⟩ (fun v τ hp => ?_)
    obtain ⟨rfl, rfl⟩ := hp
    change WW X _ 130 [.ref o, .int v1, .int v2, .retAddr 0] [] _
    refine ww_aload_n C dX4_unit_130 0 rfl rfl ?_
    refine wk_getI C dX4_unit_131 fl_X4_66 hS.1 rfl ?_
    refine ww_bipush (v := (41 : Int32)) C dX4_unit_134 (by decide) ?_
    refine ww_icmp_eq C dX4_unit_136 182 rfl (fun hc => ?_) (fun hc => ?_)
    · rw [if_pos hc] at H
      exact ww_drop [.ref o, .retAddr 0, .retAddr 0, .retAddr 0] (sl_e (sl_d (sl_d (sl_e sl_n)))) (cX4_unit_182 hS hD hex C hZ E H)
    · rw [if_neg hc] at H
      refine ww_aload_n C dX4_unit_139 0 rfl rfl ?_
      refine ww_iconst (v := (2 : Int32)) C dX4_unit_140 (by decide) ?_
      obtain ⟨h7, hc1, H⟩ := bd_of H
      refine ww_callV C hZ dX4_unit_141 cw_X4_98 (ccX4_refuse hS hc1) hS.1 ⟨by decide, rfl⟩ ⟨by omega, by decide⟩ rfl rfl (Nat.le_of_ble_eq_true rfl) ⟨Nat.zero_le _, Nat.zero_le _⟩ (fun v τ hp => ?_)
      obtain ⟨rfl, rfl⟩ := hp
      change WW X _ 144 [.ref o, .int v1, .int v2, .retAddr 0] [] _
      refine ww_goto C dX4_unit_144 182 rfl ?_
      exact ww_drop [.ref o, .retAddr 0, .retAddr 0, .retAddr 0] (sl_e (sl_d (sl_d (sl_e sl_n)))) (cX4_unit_182 hS hD hex C hZ E H)
def fX4_unit_61 (ex : HI → Int32 → Int32 → Option HI) (o : Nat) (tt : Nat) (hh : Nat) (h : HI) (v1 : Int32) (v2 : Int32) (s0 : Int32) : Option (HI) := (if s0 = 0 then fX4_unit_87 ex o tt hh h else (if (h.1 o 4) = (2 : Int32) then fX4_unit_93 ex o tt hh h v1 v2 else (if (h.1 o 4) = (40 : Int32) then fX4_unit_93 ex o tt hh h v1 v2 else (if v2 = 0 then fX4_unit_87 ex o tt hh h else fX4_unit_93 ex o tt hh h v1 v2))))
set_option maxRecDepth 100000 in
set_option maxHeartbeats 4000000 in
theorem cX4_unit_61 {X : CT} {sh : Sh} {adr : Nat → Nat} {r : Nat → Nat → Option Nat} {ex : HI → Int32 → Int32 → Option HI} {D : Nat} {o : Nat} {tt : Nat} {hh : Nat} {p : HI} (hS : ES sh r tt hh o) (hD : 20 ≤ D) (hex : ∀ (l : Launch) (h : HI) (a b : Int32) (p : HI), ex h a b = some p → CC l yX4_expression cX4_expression 6 none D [.ref o, .int a, .int b] sh adr (mk h r) (fun v τ => v = none ∧ τ = mk p r)) (C : CX X yX4_unit.cls cX4_unit 4 (D + 1)) (hZ : SZX X adr) (E : RX X none sh adr (fun v τ => v = none ∧ τ = mk p r)) {h : HI} {v1 : Int32} {v2 : Int32} {s0 : Int32} (H : fX4_unit_61 ex o tt hh h v1 v2 s0 = some p) : WW X (sh, adr, 0, 0) 61 [.ref o, .int v1, .int v2, .retAddr 0] [.int s0] (mk h r) := by
  rw [fX4_unit_61] at H
  refine ww_istore_n C dX4_unit_61 3 rfl (by decide) rfl [.ref o, .int v1, .int v2, .int s0] rfl ?_
  refine ww_iload_n C dX4_unit_62 3 rfl rfl ?_
  refine ww_if_eq C dX4_unit_63 87 rfl (fun hc => ?_) (fun hc => ?_)
  · rw [if_pos hc] at H
    exact ww_drop [.ref o, .retAddr 0, .retAddr 0, .retAddr 0] (sl_e (sl_d (sl_d (sl_d sl_n)))) (cX4_unit_87 hS hD hex C hZ E H)
  · rw [if_neg hc] at H
    refine ww_aload_n C dX4_unit_66 0 rfl rfl ?_
    refine wk_getI C dX4_unit_67 fl_X4_66 hS.1 rfl ?_
    refine ww_iconst (v := (2 : Int32)) C dX4_unit_70 (by decide) ?_
    refine ww_icmp_eq C dX4_unit_71 93 rfl (fun hc => ?_) (fun hc => ?_)
    · rw [if_pos hc] at H
      exact ww_drop [.ref o, .int v1, .int v2, .retAddr 0] (sl_e (sl_e (sl_e (sl_d sl_n)))) (cX4_unit_93 hS hD hex C hZ E H)
    · rw [if_neg hc] at H
      refine ww_aload_n C dX4_unit_74 0 rfl rfl ?_
      refine wk_getI C dX4_unit_75 fl_X4_66 hS.1 rfl ?_
      refine ww_bipush (v := (40 : Int32)) C dX4_unit_78 (by decide) ?_
      refine ww_icmp_eq C dX4_unit_80 93 rfl (fun hc => ?_) (fun hc => ?_)
      · rw [if_pos hc] at H
        exact ww_drop [.ref o, .int v1, .int v2, .retAddr 0] (sl_e (sl_e (sl_e (sl_d sl_n)))) (cX4_unit_93 hS hD hex C hZ E H)
      · rw [if_neg hc] at H
        refine ww_iload_n C dX4_unit_83 2 rfl rfl ?_
        refine ww_if_ne C dX4_unit_84 93 rfl (fun hc => ?_) (fun hc => ?_)
        · rw [if_neg hc] at H
          exact ww_drop [.ref o, .int v1, .int v2, .retAddr 0] (sl_e (sl_e (sl_e (sl_d sl_n)))) (cX4_unit_93 hS hD hex C hZ E H)
        · rw [if_pos hc] at H
          exact ww_drop [.ref o, .retAddr 0, .retAddr 0, .retAddr 0] (sl_e (sl_d (sl_d (sl_d sl_n)))) (cX4_unit_87 hS hD hex C hZ E H)
def fX4_unit_60 (ex : HI → Int32 → Int32 → Option HI) (o : Nat) (tt : Nat) (hh : Nat) (h : HI) (v1 : Int32) (v2 : Int32) : Option (HI) := fX4_unit_61 ex o tt hh h v1 v2 (0 : Int32)
set_option maxRecDepth 100000 in
set_option maxHeartbeats 4000000 in
theorem cX4_unit_60 {X : CT} {sh : Sh} {adr : Nat → Nat} {r : Nat → Nat → Option Nat} {ex : HI → Int32 → Int32 → Option HI} {D : Nat} {o : Nat} {tt : Nat} {hh : Nat} {p : HI} (hS : ES sh r tt hh o) (hD : 20 ≤ D) (hex : ∀ (l : Launch) (h : HI) (a b : Int32) (p : HI), ex h a b = some p → CC l yX4_expression cX4_expression 6 none D [.ref o, .int a, .int b] sh adr (mk h r) (fun v τ => v = none ∧ τ = mk p r)) (C : CX X yX4_unit.cls cX4_unit 4 (D + 1)) (hZ : SZX X adr) (E : RX X none sh adr (fun v τ => v = none ∧ τ = mk p r)) {h : HI} {v1 : Int32} {v2 : Int32} (H : fX4_unit_60 ex o tt hh h v1 v2 = some p) : WW X (sh, adr, 0, 0) 60 [.ref o, .int v1, .int v2, .retAddr 0] [] (mk h r) := by
  rw [fX4_unit_60] at H
  refine ww_iconst (v := (0 : Int32)) C dX4_unit_60 (by decide) ?_
  exact cX4_unit_61 hS hD hex C hZ E H
def fX4_unit_56 (ex : HI → Int32 → Int32 → Option HI) (o : Nat) (tt : Nat) (hh : Nat) (h : HI) (v1 : Int32) (v2 : Int32) : Option (HI) := fX4_unit_61 ex o tt hh h v1 v2 (1 : Int32)
set_option maxRecDepth 100000 in
set_option maxHeartbeats 4000000 in
theorem cX4_unit_56 {X : CT} {sh : Sh} {adr : Nat → Nat} {r : Nat → Nat → Option Nat} {ex : HI → Int32 → Int32 → Option HI} {D : Nat} {o : Nat} {tt : Nat} {hh : Nat} {p : HI} (hS : ES sh r tt hh o) (hD : 20 ≤ D) (hex : ∀ (l : Launch) (h : HI) (a b : Int32) (p : HI), ex h a b = some p → CC l yX4_expression cX4_expression 6 none D [.ref o, .int a, .int b] sh adr (mk h r) (fun v τ => v = none ∧ τ = mk p r)) (C : CX X yX4_unit.cls cX4_unit 4 (D + 1)) (hZ : SZX X adr) (E : RX X none sh adr (fun v τ => v = none ∧ τ = mk p r)) {h : HI} {v1 : Int32} {v2 : Int32} (H : fX4_unit_56 ex o tt hh h v1 v2 = some p) : WW X (sh, adr, 0, 0) 56 [.ref o, .int v1, .int v2, .retAddr 0] [] (mk h r) := by
  rw [fX4_unit_56] at H
  refine ww_iconst (v := (1 : Int32)) C dX4_unit_56 (by decide) ?_
  refine ww_goto C dX4_unit_57 61 rfl ?_
  exact cX4_unit_61 hS hD hex C hZ E H
def fX4_unit_25 (ex : HI → Int32 → Int32 → Option HI) (o : Nat) (tt : Nat) (hh : Nat) (h : HI) (v1 : Int32) (s0 : Int32) : Option (HI) := (if (40 : Int32) ≤ (h.1 (hh + 18) 3) then fX4_unit_60 ex o tt hh h v1 s0 else (if (h.1 o 4) = (40 : Int32) then (if (6 : Int32) < v1 then fX4_unit_60 ex o tt hh h v1 s0 else fX4_unit_56 ex o tt hh h v1 s0) else fX4_unit_56 ex o tt hh h v1 s0))
set_option maxRecDepth 100000 in
set_option maxHeartbeats 4000000 in
theorem cX4_unit_25 {X : CT} {sh : Sh} {adr : Nat → Nat} {r : Nat → Nat → Option Nat} {ex : HI → Int32 → Int32 → Option HI} {D : Nat} {o : Nat} {tt : Nat} {hh : Nat} {p : HI} (hS : ES sh r tt hh o) (hD : 20 ≤ D) (hex : ∀ (l : Launch) (h : HI) (a b : Int32) (p : HI), ex h a b = some p → CC l yX4_expression cX4_expression 6 none D [.ref o, .int a, .int b] sh adr (mk h r) (fun v τ => v = none ∧ τ = mk p r)) (C : CX X yX4_unit.cls cX4_unit 4 (D + 1)) (hZ : SZX X adr) (E : RX X none sh adr (fun v τ => v = none ∧ τ = mk p r)) {h : HI} {v1 : Int32} {s0 : Int32} (H : fX4_unit_25 ex o tt hh h v1 s0 = some p) : WW X (sh, adr, 0, 0) 25 [.ref o, .int v1, .retAddr 0, .retAddr 0] [.int s0] (mk h r) := by
  rw [fX4_unit_25] at H
  refine ww_istore_n C dX4_unit_25 2 rfl (by decide) rfl [.ref o, .int v1, .int s0, .retAddr 0] rfl ?_
  refine ww_aload_n C dX4_unit_26 0 rfl rfl ?_
  refine wk_getA C dX4_unit_27 fl_X4_28 hS.1 rfl (tX4_hall hS).1 ?_
  refine wk_getA C dX4_unit_30 fl_X4_134 (tX4_hall hS).2.1 rfl (tX1_rule (tX4_hall hS).2).1 ?_
  refine wk_getI C dX4_unit_33 fl_X4_233 (tX1_rule (tX4_hall hS).2).2.1 rfl ?_
  refine ww_bipush (v := (40 : Int32)) C dX4_unit_36 (by decide) ?_
  refine ww_icmp_ge C dX4_unit_38 60 rfl (fun hc => ?_) (fun hc => ?_)
  · rw [if_pos hc] at H
    exact cX4_unit_60 hS hD hex C hZ E H
  · rw [if_neg hc] at H
    refine ww_aload_n C dX4_unit_41 0 rfl rfl ?_
    refine wk_getI C dX4_unit_42 fl_X4_66 hS.1 rfl ?_
    refine ww_bipush (v := (40 : Int32)) C dX4_unit_45 (by decide) ?_
    refine ww_icmp_ne C dX4_unit_47 56 rfl (fun hc => ?_) (fun hc => ?_)
    · rw [if_neg hc] at H
      exact cX4_unit_56 hS hD hex C hZ E H
    · rw [if_pos hc] at H
      refine ww_iload_n C dX4_unit_50 1 rfl rfl ?_
      refine ww_bipush (v := (6 : Int32)) C dX4_unit_51 (by decide) ?_
      refine ww_icmp_gt C dX4_unit_53 60 rfl (fun hc => ?_) (fun hc => ?_)
      · rw [if_pos hc] at H
        exact cX4_unit_60 hS hD hex C hZ E H
      · rw [if_neg hc] at H
        exact cX4_unit_56 hS hD hex C hZ E H
def fX4_unit_24 (ex : HI → Int32 → Int32 → Option HI) (o : Nat) (tt : Nat) (hh : Nat) (h : HI) (v1 : Int32) : Option (HI) := fX4_unit_25 ex o tt hh h v1 (0 : Int32)
set_option maxRecDepth 100000 in
set_option maxHeartbeats 4000000 in
theorem cX4_unit_24 {X : CT} {sh : Sh} {adr : Nat → Nat} {r : Nat → Nat → Option Nat} {ex : HI → Int32 → Int32 → Option HI} {D : Nat} {o : Nat} {tt : Nat} {hh : Nat} {p : HI} (hS : ES sh r tt hh o) (hD : 20 ≤ D) (hex : ∀ (l : Launch) (h : HI) (a b : Int32) (p : HI), ex h a b = some p → CC l yX4_expression cX4_expression 6 none D [.ref o, .int a, .int b] sh adr (mk h r) (fun v τ => v = none ∧ τ = mk p r)) (C : CX X yX4_unit.cls cX4_unit 4 (D + 1)) (hZ : SZX X adr) (E : RX X none sh adr (fun v τ => v = none ∧ τ = mk p r)) {h : HI} {v1 : Int32} (H : fX4_unit_24 ex o tt hh h v1 = some p) : WW X (sh, adr, 0, 0) 24 [.ref o, .int v1, .retAddr 0, .retAddr 0] [] (mk h r) := by
  rw [fX4_unit_24] at H
  refine ww_iconst (v := (0 : Int32)) C dX4_unit_24 (by decide) ?_
  exact cX4_unit_25 hS hD hex C hZ E H
def fX4_unit (ex : HI → Int32 → Int32 → Option HI) (o : Nat) (tt : Nat) (hh : Nat) (h : HI) (a1 : Int32) : Option (HI) := (if (h.1 o 4) < (144 : Int32) then fX4_unit_24 ex o tt hh h a1 else (if (148 : Int32) < (h.1 o 4) then fX4_unit_24 ex o tt hh h a1 else fX4_unit_25 ex o tt hh h a1 (1 : Int32)))
set_option maxRecDepth 100000 in
set_option maxHeartbeats 4000000 in
theorem ccX4_unit {l : Launch} {sh : Sh} {adr : Nat → Nat} {r : Nat → Nat → Option Nat} {ex : HI → Int32 → Int32 → Option HI} {D : Nat} {o : Nat} {tt : Nat} {hh : Nat} (hS : ES sh r tt hh o) (hD : 20 ≤ D) (hex : ∀ (l : Launch) (h : HI) (a b : Int32) (p : HI), ex h a b = some p → CC l yX4_expression cX4_expression 6 none D [.ref o, .int a, .int b] sh adr (mk h r) (fun v τ => v = none ∧ τ = mk p r)) {h : HI} {a1 : Int32} {p : HI} (H : fX4_unit ex o tt hh h a1 = some p) : CC l yX4_unit cX4_unit 4 none (D + 1) [.ref o, .int a1] sh adr (mk h r) (fun v τ => v = none ∧ τ = mk p r) := by
  refine CC.of (by decide) (Nat.le_of_ble_eq_true rfl) 2 [.ref o, .int a1, .retAddr 0, .retAddr 0] rfl (fun X _ C E hZ => ?_)
  rw [fX4_unit] at H
  refine ww_aload_n C dX4_unit_0 0 rfl rfl ?_
  refine wk_getI C dX4_unit_1 fl_X4_66 hS.1 rfl ?_
  refine ww_sipush (v := (144 : Int32)) C dX4_unit_4 (by decide) ?_
  refine ww_icmp_lt C dX4_unit_7 24 rfl (fun hc => ?_) (fun hc => ?_)
  · rw [if_pos hc] at H
    exact cX4_unit_24 hS hD hex C hZ E H
  · rw [if_neg hc] at H
    refine ww_aload_n C dX4_unit_10 0 rfl rfl ?_
    refine wk_getI C dX4_unit_11 fl_X4_66 hS.1 rfl ?_
    refine ww_sipush (v := (148 : Int32)) C dX4_unit_14 (by decide) ?_
    refine ww_icmp_gt C dX4_unit_17 24 rfl (fun hc => ?_) (fun hc => ?_)
    · rw [if_pos hc] at H
      exact cX4_unit_24 hS hD hex C hZ E H
    · rw [if_neg hc] at H
      refine ww_iconst (v := (1 : Int32)) C dX4_unit_20 (by decide) ?_
      refine ww_goto C dX4_unit_21 25 rfl ?_
      exact cX4_unit_25 hS hD hex C hZ E H
def fX4_negation (ex : HI → Int32 → Int32 → Option HI) (o : Nat) (tt : Nat) (hh : Nat) (h : HI) (a1 : Int32) : Option (HI) := (if a1 ≤ (6 : Int32) then ((fX4_next o tt h).bind fun h1 => ((ex h1 (2 : Int32) (a1 + (1 : Int32))).bind fun h2 => ((fX5_addToken (hh + 18) h2 (143 : Int32)).bind fun h3 => some h3))) else ((fX4_refuse o h (2 : Int32)).bind fun h4 => some h4))
set_option maxRecDepth 100000 in
set_option maxHeartbeats 4000000 in
theorem ccX4_negation {l : Launch} {sh : Sh} {adr : Nat → Nat} {r : Nat → Nat → Option Nat} {ex : HI → Int32 → Int32 → Option HI} {D : Nat} {o : Nat} {tt : Nat} {hh : Nat} (hS : ES sh r tt hh o) (hD : 20 ≤ D) (hex : ∀ (l : Launch) (h : HI) (a b : Int32) (p : HI), ex h a b = some p → CC l yX4_expression cX4_expression 6 none D [.ref o, .int a, .int b] sh adr (mk h r) (fun v τ => v = none ∧ τ = mk p r)) {h : HI} {a1 : Int32} {p : HI} (H : fX4_negation ex o tt hh h a1 = some p) : CC l yX4_negation cX4_negation 2 none (D + 1) [.ref o, .int a1] sh adr (mk h r) (fun v τ => v = none ∧ τ = mk p r) := by
  refine CC.of (by decide) (Nat.le_of_ble_eq_true rfl) 0 [.ref o, .int a1] rfl (fun X _ C E hZ => ?_)
  rw [fX4_negation] at H
  refine ww_iload_n C dX4_negation_0 1 rfl rfl ?_
  refine ww_bipush (v := (6 : Int32)) C dX4_negation_1 (by decide) ?_
  refine ww_icmp_le C dX4_negation_3 12 rfl (fun hc => ?_) (fun hc => ?_)
  · rw [if_pos hc] at H
    refine ww_aload_n C dX4_negation_12 0 rfl rfl ?_
    obtain ⟨h1, hc1, H⟩ := bd_of H
    refine ww_callV C hZ dX4_negation_13 cw_X4_63 (ccX4_next hS hc1) hS.1 ⟨by decide, rfl⟩ ⟨by omega, by decide⟩ rfl rfl (Nat.le_of_ble_eq_true rfl) ⟨Nat.zero_le _, Nat.zero_le _⟩ (fun v τ hp => ?_)
    obtain ⟨rfl, rfl⟩ := hp
    change WW X _ 16 [.ref o, .int a1] [] _
    refine ww_aload_n C dX4_negation_16 0 rfl rfl ?_
    refine ww_iconst (v := (2 : Int32)) C dX4_negation_17 (by decide) ?_
    refine ww_iload_n C dX4_negation_18 1 rfl rfl ?_
    refine ww_iconst (v := (1 : Int32)) C dX4_negation_19 (by decide) ?_
    refine ww_iadd C dX4_negation_20 ?_
    obtain ⟨h2, hc1, H⟩ := bd_of H
    refine ww_callV C hZ dX4_negation_21 cw_X4_151 (hex _ _ _ _ _ hc1) hS.1 ⟨by decide, rfl⟩ ⟨by omega, by decide⟩ rfl rfl (Nat.le_of_ble_eq_true rfl) ⟨Nat.zero_le _, Nat.zero_le _⟩ (fun v τ hp => ?_)
    obtain ⟨rfl, rfl⟩ := hp
    change WW X _ 24 [.ref o, .int a1] [] _
    refine ww_aload_n C dX4_negation_24 0 rfl rfl ?_
    refine wk_getA C dX4_negation_25 fl_X4_28 hS.1 rfl (tX4_hall hS).1 ?_
    refine wk_getA C dX4_negation_28 fl_X4_134 (tX4_hall hS).2.1 rfl (tX1_rule (tX4_hall hS).2).1 ?_
    refine ww_sipush (v := (143 : Int32)) C dX4_negation_31 (by decide) ?_
    obtain ⟨h3, hc1, H⟩ := bd_of H
    refine ww_callV C hZ dX4_negation_34 cw_X4_230 (ccX5_addToken (tX1_rule (tX4_hall hS).2).2 hc1) (tX1_rule (tX4_hall hS).2).2.1 ⟨by decide, rfl⟩ ⟨by omega, by decide⟩ rfl rfl (Nat.le_of_ble_eq_true rfl) ⟨Nat.zero_le _, Nat.zero_le _⟩ (fun v τ hp => ?_)
    obtain ⟨rfl, rfl⟩ := hp
    change WW X _ 37 [.ref o, .int a1] [] _
    cases H
    exact ww_vret C E dX4_negation_37 ⟨rfl, rfl⟩
  · rw [if_neg hc] at H
    refine ww_aload_n C dX4_negation_6 0 rfl rfl ?_
    refine ww_iconst (v := (2 : Int32)) C dX4_negation_7 (by decide) ?_
    obtain ⟨h4, hc1, H⟩ := bd_of H
    refine ww_callV C hZ dX4_negation_8 cw_X4_98 (ccX4_refuse hS hc1) hS.1 ⟨by decide, rfl⟩ ⟨by omega, by decide⟩ rfl rfl (Nat.le_of_ble_eq_true rfl) ⟨Nat.zero_le _, Nat.zero_le _⟩ (fun v τ hp => ?_)
    obtain ⟨rfl, rfl⟩ := hp
    change WW X _ 11 [.ref o, .int a1] [] _
    cases H
    exact ww_vret C E dX4_negation_11 ⟨rfl, rfl⟩
def fX4_expression_123 (ex : HI → Int32 → Int32 → Option HI) (o : Nat) (tt : Nat) (hh : Nat) (k : HI → Option (HI)) (kb : HI → Int32 → Int32 → Int32 → Int32 → Option (HI)) (h : HI) (v1 : Int32) (v2 : Int32) (v4 : Int32) (s0 : Int32) : Option (HI) := kb h v1 v2 s0 (v4 + (1 : Int32))
set_option maxRecDepth 100000 in
set_option maxHeartbeats 4000000 in
theorem cX4_expression_123 {X : CT} {sh : Sh} {adr : Nat → Nat} {r : Nat → Nat → Option Nat} {ex : HI → Int32 → Int32 → Option HI} {D : Nat} {o : Nat} {tt : Nat} {hh : Nat} {p : HI} (hS : ES sh r tt hh o) (hD : 20 ≤ D) (hex : ∀ (l : Launch) (h : HI) (a b : Int32) (p : HI), ex h a b = some p → CC l yX4_expression cX4_expression 6 none D [.ref o, .int a, .int b] sh adr (mk h r) (fun v τ => v = none ∧ τ = mk p r)) (C : CX X yX4_expression.cls cX4_expression 6 (D + 2)) (hZ : SZX X adr) (E : RX X none sh adr (fun v τ => v = none ∧ τ = mk p r)) {k : HI → Option (HI)} {kb : HI → Int32 → Int32 → Int32 → Int32 → Option (HI)} (hk : ∀ (h : HI), k h = some p → WW X (sh, adr, 0, 0) 130 [.ref o, .retAddr 0, .retAddr 0, .retAddr 0, .retAddr 0, .retAddr 0] [] (mk h r)) (hb : ∀ (h : HI) (v1 : Int32) (v2 : Int32) (v3 : Int32) (v4 : Int32), kb h v1 v2 v3 v4 = some p → WW X (sh, adr, 0, 0) 57 [.ref o, .int v1, .int v2, .int v3, .int v4, .retAddr 0] [] (mk h r)) {h : HI} {v1 : Int32} {v2 : Int32} {v4 : Int32} {s0 : Int32} (H : fX4_expression_123 ex o tt hh k kb h v1 v2 v4 s0 = some p) : WW X (sh, adr, 0, 0) 123 [.ref o, .int v1, .int v2, .retAddr 0, .int v4, .retAddr 0] [.int s0] (mk h r) := by
  rw [fX4_expression_123] at H
  refine ww_istore_n C dX4_expression_123 3 rfl (by decide) rfl [.ref o, .int v1, .int v2, .int s0, .int v4, .retAddr 0] rfl ?_
  refine ww_iinc (v := (v4 + (1 : Int32))) C dX4_expression_124 rfl rfl (by decide) rfl [.ref o, .int v1, .int v2, .int s0, .int (v4 + (1 : Int32)), .retAddr 0] rfl ?_
  refine ww_goto C dX4_expression_127 57 rfl ?_
  exact hb h v1 v2 s0 (v4 + (1 : Int32)) H
def fX4_expression_122 (ex : HI → Int32 → Int32 → Option HI) (o : Nat) (tt : Nat) (hh : Nat) (k : HI → Option (HI)) (kb : HI → Int32 → Int32 → Int32 → Int32 → Option (HI)) (h : HI) (v1 : Int32) (v2 : Int32) (v4 : Int32) : Option (HI) := fX4_expression_123 ex o tt hh k kb h v1 v2 v4 (0 : Int32)
set_option maxRecDepth 100000 in
set_option maxHeartbeats 4000000 in
theorem cX4_expression_122 {X : CT} {sh : Sh} {adr : Nat → Nat} {r : Nat → Nat → Option Nat} {ex : HI → Int32 → Int32 → Option HI} {D : Nat} {o : Nat} {tt : Nat} {hh : Nat} {p : HI} (hS : ES sh r tt hh o) (hD : 20 ≤ D) (hex : ∀ (l : Launch) (h : HI) (a b : Int32) (p : HI), ex h a b = some p → CC l yX4_expression cX4_expression 6 none D [.ref o, .int a, .int b] sh adr (mk h r) (fun v τ => v = none ∧ τ = mk p r)) (C : CX X yX4_expression.cls cX4_expression 6 (D + 2)) (hZ : SZX X adr) (E : RX X none sh adr (fun v τ => v = none ∧ τ = mk p r)) {k : HI → Option (HI)} {kb : HI → Int32 → Int32 → Int32 → Int32 → Option (HI)} (hk : ∀ (h : HI), k h = some p → WW X (sh, adr, 0, 0) 130 [.ref o, .retAddr 0, .retAddr 0, .retAddr 0, .retAddr 0, .retAddr 0] [] (mk h r)) (hb : ∀ (h : HI) (v1 : Int32) (v2 : Int32) (v3 : Int32) (v4 : Int32), kb h v1 v2 v3 v4 = some p → WW X (sh, adr, 0, 0) 57 [.ref o, .int v1, .int v2, .int v3, .int v4, .retAddr 0] [] (mk h r)) {h : HI} {v1 : Int32} {v2 : Int32} {v4 : Int32} (H : fX4_expression_122 ex o tt hh k kb h v1 v2 v4 = some p) : WW X (sh, adr, 0, 0) 122 [.ref o, .int v1, .int v2, .retAddr 0, .int v4, .retAddr 0] [] (mk h r) := by
  rw [fX4_expression_122] at H
  refine ww_iconst (v := (0 : Int32)) C dX4_expression_122 (by decide) ?_
  exact cX4_expression_123 hS hD hex C hZ E hk hb H
def fX4_expression_57 (ex : HI → Int32 → Int32 → Option HI) (o : Nat) (tt : Nat) (hh : Nat) (k : HI → Option (HI)) : Nat → HI → Int32 → Int32 → Int32 → Int32 → Option (HI)
  | 0, _, _, _, _, _ => none
  | n + 1, h, v1, v2, v3, v4 => (if (40 : Int32) < v4 then k h else (if v3 = 0 then k h else (if (h.1 o 8) = 0 then ((fX4_next o tt h).bind fun h3 => ((ex h3 (v1 + (1 : Int32)) v2).bind fun h4 => ((fX5_addToken (hh + 18) h4 (h.1 o 4)).bind fun h5 => (if v1 = (2 : Int32) then fX4_expression_122 ex o tt hh (k) (fX4_expression_57 ex o tt hh k n) h5 v1 v2 v4 else ((fX4_isJoint o h5 v1).bind fun p6 => (if p6.1 = 0 then fX4_expression_122 ex o tt hh (k) (fX4_expression_57 ex o tt hh k n) p6.2 v1 v2 v4 else fX4_expression_123 ex o tt hh (k) (fX4_expression_57 ex o tt hh k n) p6.2 v1 v2 v4 (1 : Int32))))))) else k h)))
set_option maxRecDepth 100000 in
set_option maxHeartbeats 4000000 in
theorem cX4_expression_57 {X : CT} {sh : Sh} {adr : Nat → Nat} {r : Nat → Nat → Option Nat} {ex : HI → Int32 → Int32 → Option HI} {D : Nat} {o : Nat} {tt : Nat} {hh : Nat} {p : HI} (hS : ES sh r tt hh o) (hD : 20 ≤ D) (hex : ∀ (l : Launch) (h : HI) (a b : Int32) (p : HI), ex h a b = some p → CC l yX4_expression cX4_expression 6 none D [.ref o, .int a, .int b] sh adr (mk h r) (fun v τ => v = none ∧ τ = mk p r)) (C : CX X yX4_expression.cls cX4_expression 6 (D + 2)) (hZ : SZX X adr) (E : RX X none sh adr (fun v τ => v = none ∧ τ = mk p r)) {k : HI → Option (HI)} (hk : ∀ (h : HI), k h = some p → WW X (sh, adr, 0, 0) 130 [.ref o, .retAddr 0, .retAddr 0, .retAddr 0, .retAddr 0, .retAddr 0] [] (mk h r)) : ∀ (n : Nat) (h : HI) (v1 : Int32) (v2 : Int32) (v3 : Int32) (v4 : Int32), fX4_expression_57 ex o tt hh k n h v1 v2 v3 v4 = some p → WW X (sh, adr, 0, 0) 57 [.ref o, .int v1, .int v2, .int v3, .int v4, .retAddr 0] [] (mk h r) := by
  intro n
  induction n with
  | zero =>
    intro h v1 v2 v3 v4 H
    rw [fX4_expression_57] at H
    cases H
  | succ n ih =>
    intro h v1 v2 v3 v4 H
    rw [fX4_expression_57] at H
    refine ww_iload C dX4_expression_57 rfl ?_
    refine ww_bipush (v := (40 : Int32)) C dX4_expression_59 (by decide) ?_
    refine ww_icmp_gt C dX4_expression_61 130 rfl (fun hc => ?_) (fun hc => ?_)
    · rw [if_pos hc] at H
      exact ww_drop [.ref o, .retAddr 0, .retAddr 0, .retAddr 0, .retAddr 0, .retAddr 0] (sl_e (sl_d (sl_d (sl_d (sl_d (sl_e sl_n)))))) (hk h H)
    · rw [if_neg hc] at H
      refine ww_iload_n C dX4_expression_64 3 rfl rfl ?_
      refine ww_if_eq C dX4_expression_65 130 rfl (fun hc => ?_) (fun hc => ?_)
      · rw [if_pos hc] at H
        exact ww_drop [.ref o, .retAddr 0, .retAddr 0, .retAddr 0, .retAddr 0, .retAddr 0] (sl_e (sl_d (sl_d (sl_d (sl_d (sl_e sl_n)))))) (hk h H)
      · rw [if_neg hc] at H
        refine ww_aload_n C dX4_expression_68 0 rfl rfl ?_
        refine wk_getI C dX4_expression_69 fl_X4_60 hS.1 rfl ?_
        refine ww_if_ne C dX4_expression_72 130 rfl (fun hc => ?_) (fun hc => ?_)
        · rw [if_neg hc] at H
          exact ww_drop [.ref o, .retAddr 0, .retAddr 0, .retAddr 0, .retAddr 0, .retAddr 0] (sl_e (sl_d (sl_d (sl_d (sl_d (sl_e sl_n)))))) (hk h H)
        · rw [if_pos hc] at H
          refine ww_aload_n C dX4_expression_75 0 rfl rfl ?_
          refine wk_getI C dX4_expression_76 fl_X4_66 hS.1 rfl ?_
          refine ww_istore C dX4_expression_79 (by decide) rfl [.ref o, .int v1, .int v2, .int v3, .int v4, .int (h.1 o 4)] rfl ?_
          refine ww_aload_n C dX4_expression_81 0 rfl rfl ?_
          obtain ⟨h3, hc1, H⟩ := bd_of H
          refine ww_callV C hZ dX4_expression_82 cw_X4_63 (ccX4_next hS hc1) hS.1 ⟨by decide, rfl⟩ ⟨by omega, by decide⟩ rfl rfl (Nat.le_of_ble_eq_true rfl) ⟨Nat.zero_le _, Nat.zero_le _⟩ (fun v τ hp => ?_)
          obtain ⟨rfl, rfl⟩ := hp
          change WW X _ 85 [.ref o, .int v1, .int v2, .int v3, .int v4, .int (h.1 o 4)] [] _
          refine ww_aload_n C dX4_expression_85 0 rfl rfl ?_
          refine ww_iload_n C dX4_expression_86 1 rfl rfl ?_
          refine ww_iconst (v := (1 : Int32)) C dX4_expression_87 (by decide) ?_
          refine ww_iadd C dX4_expression_88 ?_
          refine ww_iload_n C dX4_expression_89 2 rfl rfl ?_
          obtain ⟨h4, hc1, H⟩ := bd_of H
          refine ww_callV C hZ dX4_expression_90 cw_X4_151 (hex _ _ _ _ _ hc1) hS.1 ⟨by decide, rfl⟩ ⟨by omega, by decide⟩ rfl rfl (Nat.le_of_ble_eq_true rfl) ⟨Nat.zero_le _, Nat.zero_le _⟩ (fun v τ hp => ?_)
          obtain ⟨rfl, rfl⟩ := hp
          change WW X _ 93 [.ref o, .int v1, .int v2, .int v3, .int v4, .int (h.1 o 4)] [] _
          refine ww_aload_n C dX4_expression_93 0 rfl rfl ?_
          refine wk_getA C dX4_expression_94 fl_X4_28 hS.1 rfl (tX4_hall hS).1 ?_
          refine wk_getA C dX4_expression_97 fl_X4_134 (tX4_hall hS).2.1 rfl (tX1_rule (tX4_hall hS).2).1 ?_
          refine ww_iload C dX4_expression_100 rfl ?_
          obtain ⟨h5, hc1, H⟩ := bd_of H
          refine ww_callV C hZ dX4_expression_102 cw_X4_230 (ccX5_addToken (tX1_rule (tX4_hall hS).2).2 hc1) (tX1_rule (tX4_hall hS).2).2.1 ⟨by decide, rfl⟩ ⟨by omega, by decide⟩ rfl rfl (Nat.le_of_ble_eq_true rfl) ⟨Nat.zero_le _, Nat.zero_le _⟩ (fun v τ hp => ?_)
          obtain ⟨rfl, rfl⟩ := hp
          change WW X _ 105 [.ref o, .int v1, .int v2, .int v3, .int v4, .int (h.1 o 4)] [] _
          refine ww_iload_n C dX4_expression_105 1 rfl rfl ?_
          refine ww_iconst (v := (2 : Int32)) C dX4_expression_106 (by decide) ?_
          refine ww_icmp_eq C dX4_expression_107 122 rfl (fun hc => ?_) (fun hc => ?_)
          · rw [if_pos hc] at H
            exact ww_drop [.ref o, .int v1, .int v2, .retAddr 0, .int v4, .retAddr 0] (sl_e (sl_e (sl_e (sl_d (sl_e (sl_d sl_n)))))) (cX4_expression_122 hS hD hex C hZ E hk ih H)
          · rw [if_neg hc] at H
            refine ww_aload_n C dX4_expression_110 0 rfl rfl ?_
            refine ww_iload_n C dX4_expression_111 1 rfl rfl ?_
            obtain ⟨p6, hc1, H⟩ := bd_of H
            refine ww_callV C hZ dX4_expression_112 cw_X4_227 (ccX4_isJoint hS hc1) hS.1 ⟨by decide, rfl⟩ ⟨by omega, by decide⟩ rfl rfl (Nat.le_of_ble_eq_true rfl) ⟨Nat.zero_le _, Nat.zero_le _⟩ (fun v τ hp => ?_)
            obtain ⟨rfl, rfl⟩ := hp
            change WW X _ 115 [.ref o, .int v1, .int v2, .int v3, .int v4, .int (h.1 o 4)] [.int p6.1] _
            refine ww_if_eq C dX4_expression_115 122 rfl (fun hc => ?_) (fun hc => ?_)
            · rw [if_pos hc] at H
              exact ww_drop [.ref o, .int v1, .int v2, .retAddr 0, .int v4, .retAddr 0] (sl_e (sl_e (sl_e (sl_d (sl_e (sl_d sl_n)))))) (cX4_expression_122 hS hD hex C hZ E hk ih H)
            · rw [if_neg hc] at H
              refine ww_iconst (v := (1 : Int32)) C dX4_expression_118 (by decide) ?_
              refine ww_goto C dX4_expression_119 123 rfl ?_
              exact ww_drop [.ref o, .int v1, .int v2, .retAddr 0, .int v4, .retAddr 0] (sl_e (sl_e (sl_e (sl_d (sl_e (sl_d sl_n)))))) (cX4_expression_123 hS hD hex C hZ E hk ih H)
def fX4_expression_40 (ex : HI → Int32 → Int32 → Option HI) (o : Nat) (tt : Nat) (hh : Nat) (h : HI) (v1 : Int32) (v2 : Int32) : Option (HI) := ((ex h (v1 + (1 : Int32)) v2).bind fun h1 => ((fX4_isJoint o h1 v1).bind fun p2 => fX4_expression_57 ex o tt hh (fun h8 => some h8) FU p2.2 v1 v2 p2.1 (0 : Int32)))
set_option maxRecDepth 100000 in
set_option maxHeartbeats 4000000 in
theorem cX4_expression_40 {X : CT} {sh : Sh} {adr : Nat → Nat} {r : Nat → Nat → Option Nat} {ex : HI → Int32 → Int32 → Option HI} {D : Nat} {o : Nat} {tt : Nat} {hh : Nat} {p : HI} (hS : ES sh r tt hh o) (hD : 20 ≤ D) (hex : ∀ (l : Launch) (h : HI) (a b : Int32) (p : HI), ex h a b = some p → CC l yX4_expression cX4_expression 6 none D [.ref o, .int a, .int b] sh adr (mk h r) (fun v τ => v = none ∧ τ = mk p r)) (C : CX X yX4_expression.cls cX4_expression 6 (D + 2)) (hZ : SZX X adr) (E : RX X none sh adr (fun v τ => v = none ∧ τ = mk p r)) {h : HI} {v1 : Int32} {v2 : Int32} (H : fX4_expression_40 ex o tt hh h v1 v2 = some p) : WW X (sh, adr, 0, 0) 40 [.ref o, .int v1, .int v2, .retAddr 0, .retAddr 0, .retAddr 0] [] (mk h r) := by
  rw [fX4_expression_40] at H
  refine ww_aload_n C dX4_expression_40 0 rfl rfl ?_
  refine ww_iload_n C dX4_expression_41 1 rfl rfl ?_
  refine ww_iconst (v := (1 : Int32)) C dX4_expression_42 (by decide) ?_
  refine ww_iadd C dX4_expression_43 ?_
  refine ww_iload_n C dX4_expression_44 2 rfl rfl ?_
  obtain ⟨h1, hc1, H⟩ := bd_of H
  refine ww_callV C hZ dX4_expression_45 cw_X4_151 (hex _ _ _ _ _ hc1) hS.1 ⟨by decide, rfl⟩ ⟨by omega, by decide⟩ rfl rfl (Nat.le_of_ble_eq_true rfl) ⟨Nat.zero_le _, Nat.zero_le _⟩ (fun v τ hp => ?_)
  obtain ⟨rfl, rfl⟩ := hp
  change WW X _ 48 [.ref o, .int v1, .int v2, .retAddr 0, .retAddr 0, .retAddr 0] [] _
  refine ww_aload_n C dX4_expression_48 0 rfl rfl ?_
  refine ww_iload_n C dX4_expression_49 1 rfl rfl ?_
  obtain ⟨p2, hc1, H⟩ := bd_of H
  refine ww_callV C hZ dX4_expression_50 cw_X4_227 (ccX4_isJoint hS hc1) hS.1 ⟨by decide, rfl⟩ ⟨by omega, by decide⟩ rfl rfl (Nat.le_of_ble_eq_true rfl) ⟨Nat.zero_le _, Nat.zero_le _⟩ (fun v τ hp => ?_)
  obtain ⟨rfl, rfl⟩ := hp
  change WW X _ 53 [.ref o, .int v1, .int v2, .retAddr 0, .retAddr 0, .retAddr 0] [.int p2.1] _
  refine ww_istore_n C dX4_expression_53 3 rfl (by decide) rfl [.ref o, .int v1, .int v2, .int p2.1, .retAddr 0, .retAddr 0] rfl ?_
  refine ww_iconst (v := (0 : Int32)) C dX4_expression_54 (by decide) ?_
  refine ww_istore C dX4_expression_55 (by decide) rfl [.ref o, .int v1, .int v2, .int p2.1, .int (0 : Int32), .retAddr 0] rfl ?_
  refine cX4_expression_57 hS hD hex C hZ E (fun h8 H => ?_) FU p2.2 v1 v2 p2.1 (0 : Int32) H
  cases H
  exact ww_vret C E dX4_expression_130 ⟨rfl, rfl⟩
def fX4_expression (ex : HI → Int32 → Int32 → Option HI) (o : Nat) (tt : Nat) (hh : Nat) (h : HI) (a1 : Int32) (a2 : Int32) : Option (HI) := (if (h.1 o 8) = 0 then (if a1 < (5 : Int32) then (if a1 = (2 : Int32) then (if (h.1 o 4) = (143 : Int32) then ((fX4_negation ex o tt hh h a2).bind fun h9 => some h9) else fX4_expression_40 ex o tt hh h a1 a2) else fX4_expression_40 ex o tt hh h a1 a2) else ((fX4_unit ex o tt hh h a2).bind fun h10 => some h10)) else some h)
set_option maxRecDepth 100000 in
set_option maxHeartbeats 4000000 in
theorem ccX4_expression {l : Launch} {sh : Sh} {adr : Nat → Nat} {r : Nat → Nat → Option Nat} {ex : HI → Int32 → Int32 → Option HI} {D : Nat} {o : Nat} {tt : Nat} {hh : Nat} (hS : ES sh r tt hh o) (hD : 20 ≤ D) (hex : ∀ (l : Launch) (h : HI) (a b : Int32) (p : HI), ex h a b = some p → CC l yX4_expression cX4_expression 6 none D [.ref o, .int a, .int b] sh adr (mk h r) (fun v τ => v = none ∧ τ = mk p r)) {h : HI} {a1 : Int32} {a2 : Int32} {p : HI} (H : fX4_expression ex o tt hh h a1 a2 = some p) : CC l yX4_expression cX4_expression 6 none (D + 2) [.ref o, .int a1, .int a2] sh adr (mk h r) (fun v τ => v = none ∧ τ = mk p r) := by
  refine CC.of (by decide) (Nat.le_of_ble_eq_true rfl) 3 [.ref o, .int a1, .int a2, .retAddr 0, .retAddr 0, .retAddr 0] rfl (fun X _ C E hZ => ?_)
  rw [fX4_expression] at H
  refine ww_aload_n C dX4_expression_0 0 rfl rfl ?_
  refine wk_getI C dX4_expression_1 fl_X4_60 hS.1 rfl ?_
  refine ww_if_eq C dX4_expression_4 8 rfl (fun hc => ?_) (fun hc => ?_)
  · rw [if_pos hc] at H
    refine ww_iload_n C dX4_expression_8 1 rfl rfl ?_
    refine ww_iconst (v := (5 : Int32)) C dX4_expression_9 (by decide) ?_
    refine ww_icmp_lt C dX4_expression_10 19 rfl (fun hc => ?_) (fun hc => ?_)
    · rw [if_pos hc] at H
      refine ww_iload_n C dX4_expression_19 1 rfl rfl ?_
      refine ww_iconst (v := (2 : Int32)) C dX4_expression_20 (by decide) ?_
      refine ww_icmp_ne C dX4_expression_21 40 rfl (fun hc => ?_) (fun hc => ?_)
      · rw [if_neg hc] at H
        exact cX4_expression_40 hS hD hex C hZ E H
      · rw [if_pos hc] at H
        refine ww_aload_n C dX4_expression_24 0 rfl rfl ?_
        refine wk_getI C dX4_expression_25 fl_X4_66 hS.1 rfl ?_
        refine ww_sipush (v := (143 : Int32)) C dX4_expression_28 (by decide) ?_
        refine ww_icmp_ne C dX4_expression_31 40 rfl (fun hc => ?_) (fun hc => ?_)
        · rw [if_neg hc] at H
          exact cX4_expression_40 hS hD hex C hZ E H
        · rw [if_pos hc] at H
          refine ww_aload_n C dX4_expression_34 0 rfl rfl ?_
          refine ww_iload_n C dX4_expression_35 2 rfl rfl ?_
          obtain ⟨h9, hc1, H⟩ := bd_of H
          refine ww_callV C hZ dX4_expression_36 cw_X4_224 (ccX4_negation hS hD hex hc1) hS.1 ⟨by decide, rfl⟩ ⟨by omega, by decide⟩ rfl rfl (Nat.le_of_ble_eq_true rfl) ⟨Nat.zero_le _, Nat.zero_le _⟩ (fun v τ hp => ?_)
          obtain ⟨rfl, rfl⟩ := hp
          change WW X _ 39 [.ref o, .int a1, .int a2, .retAddr 0, .retAddr 0, .retAddr 0] [] _
          cases H
          exact ww_vret C E dX4_expression_39 ⟨rfl, rfl⟩
    · rw [if_neg hc] at H
      refine ww_aload_n C dX4_expression_13 0 rfl rfl ?_
      refine ww_iload_n C dX4_expression_14 2 rfl rfl ?_
      obtain ⟨h10, hc1, H⟩ := bd_of H
      refine ww_callV C hZ dX4_expression_15 cw_X4_221 (ccX4_unit hS hD hex hc1) hS.1 ⟨by decide, rfl⟩ ⟨by omega, by decide⟩ rfl rfl (Nat.le_of_ble_eq_true rfl) ⟨Nat.zero_le _, Nat.zero_le _⟩ (fun v τ hp => ?_)
      obtain ⟨rfl, rfl⟩ := hp
      change WW X _ 18 [.ref o, .int a1, .int a2, .retAddr 0, .retAddr 0, .retAddr 0] [] _
      cases H
      exact ww_vret C E dX4_expression_18 ⟨rfl, rfl⟩
  · rw [if_neg hc] at H
    cases H
    exact ww_vret C E dX4_expression_7 ⟨rfl, rfl⟩
def fX4_expr (o : Nat) (tt : Nat) (hh : Nat) : Nat → HI → Int32 → Int32 → Option HI
  | 0, _, _, _ => none
  | q + 1, h, a, b => fX4_expression (fX4_expr o tt hh q) o tt hh h a b
theorem ccX4_expr {l : Launch} {sh : Sh} {adr : Nat → Nat} {r : Nat → Nat → Option Nat} {o tt hh : Nat} (hS : ES sh r tt hh o) : ∀ (q : Nat) {h : HI} {a b : Int32} {p : HI}, fX4_expr o tt hh q h a b = some p → CC l yX4_expression cX4_expression 6 none (20 + 2 * q) [.ref o, .int a, .int b] sh adr (mk h r) (fun v τ => v = none ∧ τ = mk p r) := by
  intro q
  induction q generalizing l with
  | zero =>
    intro h a b p H
    rw [fX4_expr] at H
    cases H
  | succ q ih =>
    intro h a b p H
    rw [fX4_expr] at H
    exact ccX4_expression (D := 20 + 2 * q) hS (by omega) (fun l h a b p H2 => ih H2) H
def fX4_line_152 (o : Nat) (tt : Nat) (hh : Nat) (h : HI) : Option (HI) := ((fX4_take o tt h (59 : Int32)).bind fun h2 => some h2)
set_option maxRecDepth 100000 in
set_option maxHeartbeats 4000000 in
theorem cX4_line_152 {X : CT} {sh : Sh} {adr : Nat → Nat} {r : Nat → Nat → Option Nat} {o : Nat} {tt : Nat} {hh : Nat} {p : HI} (hS : ES sh r tt hh o) (C : CX X yX4_line.cls cX4_line 1 421) (hZ : SZX X adr) (E : RX X none sh adr (fun v τ => v = none ∧ τ = mk p r)) {h : HI} (H : fX4_line_152 o tt hh h = some p) : WW X (sh, adr, 0, 0) 152 [.ref o] [] (mk h r) := by
  rw [fX4_line_152] at H
  refine ww_aload_n C dX4_line_152 0 rfl rfl ?_
  refine ww_bipush (v := (59 : Int32)) C dX4_line_153 (by decide) ?_
  obtain ⟨h2, hc1, H⟩ := bd_of H
  refine ww_callV C hZ dX4_line_155 cw_X4_154 (ccX4_take hS hc1) hS.1 ⟨by decide, rfl⟩ ⟨by omega, by decide⟩ rfl rfl (Nat.le_of_ble_eq_true rfl) ⟨Nat.zero_le _, Nat.zero_le _⟩ (fun v τ hp => ?_)
  obtain ⟨rfl, rfl⟩ := hp
  change WW X _ 158 [.ref o] [] _
  cases H
  exact ww_vret C E dX4_line_158 ⟨rfl, rfl⟩
def fX4_line (o : Nat) (tt : Nat) (hh : Nat) (h : HI) : Option (HI) := (if (h.1 o 4) = (128 : Int32) then ((fX4_chairLine o tt hh h).bind fun h1 => fX4_line_152 o tt hh h1) else (if (h.1 o 4) = (129 : Int32) then ((fX4_refuse o h (2 : Int32)).bind fun h3 => fX4_line_152 o tt hh h3) else (if (h.1 o 4) = (130 : Int32) then ((fX4_refuse o h (2 : Int32)).bind fun h4 => fX4_line_152 o tt hh h4) else (if (h.1 o 4) = (131 : Int32) then ((fX4_manLine o tt hh h).bind fun h5 => fX4_line_152 o tt hh h5) else (if (h.1 o 4) = (132 : Int32) then ((fX4_refuse o h (2 : Int32)).bind fun h6 => fX4_line_152 o tt hh h6) else (if (h.1 o 4) = (133 : Int32) then ((fX4_refuse o h (2 : Int32)).bind fun h7 => fX4_line_152 o tt hh h7) else (if (h.1 o 4) = (134 : Int32) then ((fX4_matterLine o tt hh h).bind fun h8 => fX4_line_152 o tt hh h8) else (if (h.1 o 4) = (135 : Int32) then ((fX4_refuse o h (2 : Int32)).bind fun h9 => fX4_line_152 o tt hh h9) else (if (h.1 o 4) = (136 : Int32) then ((fX4_wishLine o tt hh h).bind fun h10 => fX4_line_152 o tt hh h10) else (if (h.1 o 4) = (137 : Int32) then ((fX4_dealLine o tt hh h).bind fun h11 => fX4_line_152 o tt hh h11) else (if (h.1 o 4) = (138 : Int32) then ((fX4_refuse o h (2 : Int32)).bind fun h12 => fX4_line_152 o tt hh h12) else (if (h.1 o 4) = (139 : Int32) then ((fX4_napLine o tt hh h).bind fun h13 => fX4_line_152 o tt hh h13) else (if (h.1 o 4) = (140 : Int32) then ((fX4_startLine o tt h (h.1 (hh + 18) 4)).bind fun h14 => ((fX5_begin (hh + 18) h14).bind fun h15 => ((fX4_expr o tt hh 200 h15 (0 : Int32) (0 : Int32)).bind fun h16 => fX4_line_152 o tt hh h16))) else ((fX4_refuse o h (2 : Int32)).bind fun h17 => fX4_line_152 o tt hh h17))))))))))))))
set_option maxRecDepth 100000 in
set_option maxHeartbeats 4000000 in
theorem ccX4_line {l : Launch} {sh : Sh} {adr : Nat → Nat} {r : Nat → Nat → Option Nat} {o : Nat} {tt : Nat} {hh : Nat} (hS : ES sh r tt hh o) {h : HI}  {p : HI} (H : fX4_line o tt hh h = some p) : CC l yX4_line cX4_line 1 none 421 [.ref o] sh adr (mk h r) (fun v τ => v = none ∧ τ = mk p r) := by
  refine CC.of (by decide) (Nat.le_of_ble_eq_true rfl) 0 [.ref o] rfl (fun X _ C E hZ => ?_)
  rw [fX4_line] at H
  refine ww_aload_n C dX4_line_0 0 rfl rfl ?_
  refine wk_getI C dX4_line_1 fl_X4_66 hS.1 rfl ?_
  by_cases hc0 : (h.1 o 4) = (128 : Int32)
  · rw [if_pos hc0] at H
    refine ww_tableIn (off := 68) C dX4_line_4 (by rw [hc0]; decide) (by rw [hc0]; decide) (by rw [hc0]; rfl) 72 rfl ?_
    refine ww_aload_n C dX4_line_72 0 rfl rfl ?_
    obtain ⟨h1, hc1, H⟩ := bd_of H
    refine ww_callV C hZ dX4_line_73 cw_X4_116 (ccX4_chairLine hS hc1) hS.1 ⟨by decide, rfl⟩ ⟨by omega, by decide⟩ rfl rfl (Nat.le_of_ble_eq_true rfl) ⟨Nat.zero_le _, Nat.zero_le _⟩ (fun v τ hp => ?_)
    obtain ⟨rfl, rfl⟩ := hp
    change WW X _ 76 [.ref o] [] _
    refine ww_goto C dX4_line_76 152 rfl ?_
    exact cX4_line_152 hS C hZ E H
  · rw [if_neg hc0] at H
    by_cases hc1 : (h.1 o 4) = (129 : Int32)
    · rw [if_pos hc1] at H
      refine ww_tableIn (off := 143) C dX4_line_4 (by rw [hc1]; decide) (by rw [hc1]; decide) (by rw [hc1]; rfl) 147 rfl ?_
      refine ww_aload_n C dX4_line_147 0 rfl rfl ?_
      refine ww_iconst (v := (2 : Int32)) C dX4_line_148 (by decide) ?_
      obtain ⟨h3, hc1, H⟩ := bd_of H
      refine ww_callV C hZ dX4_line_149 cw_X4_98 (ccX4_refuse hS hc1) hS.1 ⟨by decide, rfl⟩ ⟨by omega, by decide⟩ rfl rfl (Nat.le_of_ble_eq_true rfl) ⟨Nat.zero_le _, Nat.zero_le _⟩ (fun v τ hp => ?_)
      obtain ⟨rfl, rfl⟩ := hp
      change WW X _ 152 [.ref o] [] _
      exact cX4_line_152 hS C hZ E H
    · rw [if_neg hc1] at H
      by_cases hc2 : (h.1 o 4) = (130 : Int32)
      · rw [if_pos hc2] at H
        refine ww_tableIn (off := 143) C dX4_line_4 (by rw [hc2]; decide) (by rw [hc2]; decide) (by rw [hc2]; rfl) 147 rfl ?_
        refine ww_aload_n C dX4_line_147 0 rfl rfl ?_
        refine ww_iconst (v := (2 : Int32)) C dX4_line_148 (by decide) ?_
        obtain ⟨h4, hc1, H⟩ := bd_of H
        refine ww_callV C hZ dX4_line_149 cw_X4_98 (ccX4_refuse hS hc1) hS.1 ⟨by decide, rfl⟩ ⟨by omega, by decide⟩ rfl rfl (Nat.le_of_ble_eq_true rfl) ⟨Nat.zero_le _, Nat.zero_le _⟩ (fun v τ hp => ?_)
        obtain ⟨rfl, rfl⟩ := hp
        change WW X _ 152 [.ref o] [] _
        exact cX4_line_152 hS C hZ E H
      · rw [if_neg hc2] at H
        by_cases hc3 : (h.1 o 4) = (131 : Int32)
        · rw [if_pos hc3] at H
          refine ww_tableIn (off := 75) C dX4_line_4 (by rw [hc3]; decide) (by rw [hc3]; decide) (by rw [hc3]; rfl) 79 rfl ?_
          refine ww_aload_n C dX4_line_79 0 rfl rfl ?_
          obtain ⟨h5, hc1, H⟩ := bd_of H
          refine ww_callV C hZ dX4_line_80 cw_X4_119 (ccX4_manLine hS hc1) hS.1 ⟨by decide, rfl⟩ ⟨by omega, by decide⟩ rfl rfl (Nat.le_of_ble_eq_true rfl) ⟨Nat.zero_le _, Nat.zero_le _⟩ (fun v τ hp => ?_)
          obtain ⟨rfl, rfl⟩ := hp
          change WW X _ 83 [.ref o] [] _
          refine ww_goto C dX4_line_83 152 rfl ?_
          exact cX4_line_152 hS C hZ E H
        · rw [if_neg hc3] at H
          by_cases hc4 : (h.1 o 4) = (132 : Int32)
          · rw [if_pos hc4] at H
            refine ww_tableIn (off := 143) C dX4_line_4 (by rw [hc4]; decide) (by rw [hc4]; decide) (by rw [hc4]; rfl) 147 rfl ?_
            refine ww_aload_n C dX4_line_147 0 rfl rfl ?_
            refine ww_iconst (v := (2 : Int32)) C dX4_line_148 (by decide) ?_
            obtain ⟨h6, hc1, H⟩ := bd_of H
            refine ww_callV C hZ dX4_line_149 cw_X4_98 (ccX4_refuse hS hc1) hS.1 ⟨by decide, rfl⟩ ⟨by omega, by decide⟩ rfl rfl (Nat.le_of_ble_eq_true rfl) ⟨Nat.zero_le _, Nat.zero_le _⟩ (fun v τ hp => ?_)
            obtain ⟨rfl, rfl⟩ := hp
            change WW X _ 152 [.ref o] [] _
            exact cX4_line_152 hS C hZ E H
          · rw [if_neg hc4] at H
            by_cases hc5 : (h.1 o 4) = (133 : Int32)
            · rw [if_pos hc5] at H
              refine ww_tableIn (off := 143) C dX4_line_4 (by rw [hc5]; decide) (by rw [hc5]; decide) (by rw [hc5]; rfl) 147 rfl ?_
              refine ww_aload_n C dX4_line_147 0 rfl rfl ?_
              refine ww_iconst (v := (2 : Int32)) C dX4_line_148 (by decide) ?_
              obtain ⟨h7, hc1, H⟩ := bd_of H
              refine ww_callV C hZ dX4_line_149 cw_X4_98 (ccX4_refuse hS hc1) hS.1 ⟨by decide, rfl⟩ ⟨by omega, by decide⟩ rfl rfl (Nat.le_of_ble_eq_true rfl) ⟨Nat.zero_le _, Nat.zero_le _⟩ (fun v τ hp => ?_)
              obtain ⟨rfl, rfl⟩ := hp
              change WW X _ 152 [.ref o] [] _
              exact cX4_line_152 hS C hZ E H
            · rw [if_neg hc5] at H
              by_cases hc6 : (h.1 o 4) = (134 : Int32)
              · rw [if_pos hc6] at H
                refine ww_tableIn (off := 82) C dX4_line_4 (by rw [hc6]; decide) (by rw [hc6]; decide) (by rw [hc6]; rfl) 86 rfl ?_
                refine ww_aload_n C dX4_line_86 0 rfl rfl ?_
                obtain ⟨h8, hc1, H⟩ := bd_of H
                refine ww_callV C hZ dX4_line_87 cw_X4_122 (ccX4_matterLine hS hc1) hS.1 ⟨by decide, rfl⟩ ⟨by omega, by decide⟩ rfl rfl (Nat.le_of_ble_eq_true rfl) ⟨Nat.zero_le _, Nat.zero_le _⟩ (fun v τ hp => ?_)
                obtain ⟨rfl, rfl⟩ := hp
                change WW X _ 90 [.ref o] [] _
                refine ww_goto C dX4_line_90 152 rfl ?_
                exact cX4_line_152 hS C hZ E H
              · rw [if_neg hc6] at H
                by_cases hc7 : (h.1 o 4) = (135 : Int32)
                · rw [if_pos hc7] at H
                  refine ww_tableIn (off := 143) C dX4_line_4 (by rw [hc7]; decide) (by rw [hc7]; decide) (by rw [hc7]; rfl) 147 rfl ?_
                  refine ww_aload_n C dX4_line_147 0 rfl rfl ?_
                  refine ww_iconst (v := (2 : Int32)) C dX4_line_148 (by decide) ?_
                  obtain ⟨h9, hc1, H⟩ := bd_of H
                  refine ww_callV C hZ dX4_line_149 cw_X4_98 (ccX4_refuse hS hc1) hS.1 ⟨by decide, rfl⟩ ⟨by omega, by decide⟩ rfl rfl (Nat.le_of_ble_eq_true rfl) ⟨Nat.zero_le _, Nat.zero_le _⟩ (fun v τ hp => ?_)
                  obtain ⟨rfl, rfl⟩ := hp
                  change WW X _ 152 [.ref o] [] _
                  exact cX4_line_152 hS C hZ E H
                · rw [if_neg hc7] at H
                  by_cases hc8 : (h.1 o 4) = (136 : Int32)
                  · rw [if_pos hc8] at H
                    refine ww_tableIn (off := 89) C dX4_line_4 (by rw [hc8]; decide) (by rw [hc8]; decide) (by rw [hc8]; rfl) 93 rfl ?_
                    refine ww_aload_n C dX4_line_93 0 rfl rfl ?_
                    obtain ⟨h10, hc1, H⟩ := bd_of H
                    refine ww_callV C hZ dX4_line_94 cw_X4_125 (ccX4_wishLine hS hc1) hS.1 ⟨by decide, rfl⟩ ⟨by omega, by decide⟩ rfl rfl (Nat.le_of_ble_eq_true rfl) ⟨Nat.zero_le _, Nat.zero_le _⟩ (fun v τ hp => ?_)
                    obtain ⟨rfl, rfl⟩ := hp
                    change WW X _ 97 [.ref o] [] _
                    refine ww_goto C dX4_line_97 152 rfl ?_
                    exact cX4_line_152 hS C hZ E H
                  · rw [if_neg hc8] at H
                    by_cases hc9 : (h.1 o 4) = (137 : Int32)
                    · rw [if_pos hc9] at H
                      refine ww_tableIn (off := 96) C dX4_line_4 (by rw [hc9]; decide) (by rw [hc9]; decide) (by rw [hc9]; rfl) 100 rfl ?_
                      refine ww_aload_n C dX4_line_100 0 rfl rfl ?_
                      obtain ⟨h11, hc1, H⟩ := bd_of H
                      refine ww_callV C hZ dX4_line_101 cw_X4_128 (ccX4_dealLine hS hc1) hS.1 ⟨by decide, rfl⟩ ⟨by omega, by decide⟩ rfl rfl (Nat.le_of_ble_eq_true rfl) ⟨Nat.zero_le _, Nat.zero_le _⟩ (fun v τ hp => ?_)
                      obtain ⟨rfl, rfl⟩ := hp
                      change WW X _ 104 [.ref o] [] _
                      refine ww_goto C dX4_line_104 152 rfl ?_
                      exact cX4_line_152 hS C hZ E H
                    · rw [if_neg hc9] at H
                      by_cases hc10 : (h.1 o 4) = (138 : Int32)
                      · rw [if_pos hc10] at H
                        refine ww_tableIn (off := 143) C dX4_line_4 (by rw [hc10]; decide) (by rw [hc10]; decide) (by rw [hc10]; rfl) 147 rfl ?_
                        refine ww_aload_n C dX4_line_147 0 rfl rfl ?_
                        refine ww_iconst (v := (2 : Int32)) C dX4_line_148 (by decide) ?_
                        obtain ⟨h12, hc1, H⟩ := bd_of H
                        refine ww_callV C hZ dX4_line_149 cw_X4_98 (ccX4_refuse hS hc1) hS.1 ⟨by decide, rfl⟩ ⟨by omega, by decide⟩ rfl rfl (Nat.le_of_ble_eq_true rfl) ⟨Nat.zero_le _, Nat.zero_le _⟩ (fun v τ hp => ?_)
                        obtain ⟨rfl, rfl⟩ := hp
                        change WW X _ 152 [.ref o] [] _
                        exact cX4_line_152 hS C hZ E H
                      · rw [if_neg hc10] at H
                        by_cases hc11 : (h.1 o 4) = (139 : Int32)
                        · rw [if_pos hc11] at H
                          refine ww_tableIn (off := 103) C dX4_line_4 (by rw [hc11]; decide) (by rw [hc11]; decide) (by rw [hc11]; rfl) 107 rfl ?_
                          refine ww_aload_n C dX4_line_107 0 rfl rfl ?_
                          obtain ⟨h13, hc1, H⟩ := bd_of H
                          refine ww_callV C hZ dX4_line_108 cw_X4_131 (ccX4_napLine hS hc1) hS.1 ⟨by decide, rfl⟩ ⟨by omega, by decide⟩ rfl rfl (Nat.le_of_ble_eq_true rfl) ⟨Nat.zero_le _, Nat.zero_le _⟩ (fun v τ hp => ?_)
                          obtain ⟨rfl, rfl⟩ := hp
                          change WW X _ 111 [.ref o] [] _
                          refine ww_goto C dX4_line_111 152 rfl ?_
                          exact cX4_line_152 hS C hZ E H
                        · rw [if_neg hc11] at H
                          by_cases hc12 : (h.1 o 4) = (140 : Int32)
                          · rw [if_pos hc12] at H
                            refine ww_tableIn (off := 110) C dX4_line_4 (by rw [hc12]; decide) (by rw [hc12]; decide) (by rw [hc12]; rfl) 114 rfl ?_
                            refine ww_aload_n C dX4_line_114 0 rfl rfl ?_
                            refine ww_aload_n C dX4_line_115 0 rfl rfl ?_
                            refine wk_getA C dX4_line_116 fl_X4_28 hS.1 rfl (tX4_hall hS).1 ?_
                            refine wk_getA C dX4_line_119 fl_X4_134 (tX4_hall hS).2.1 rfl (tX1_rule (tX4_hall hS).2).1 ?_
                            refine wk_getZ C dX4_line_122 fl_X4_138 (tX1_rule (tX4_hall hS).2).2.1 rfl ?_
                            obtain ⟨h14, hc1, H⟩ := bd_of H
                            refine ww_callV C hZ dX4_line_125 cw_X4_144 (ccX4_startLine hS hc1) hS.1 ⟨by decide, rfl⟩ ⟨by omega, by decide⟩ rfl rfl (Nat.le_of_ble_eq_true rfl) ⟨Nat.zero_le _, Nat.zero_le _⟩ (fun v τ hp => ?_)
                            obtain ⟨rfl, rfl⟩ := hp
                            change WW X _ 128 [.ref o] [] _
                            refine ww_aload_n C dX4_line_128 0 rfl rfl ?_
                            refine wk_getA C dX4_line_129 fl_X4_28 hS.1 rfl (tX4_hall hS).1 ?_
                            refine wk_getA C dX4_line_132 fl_X4_134 (tX4_hall hS).2.1 rfl (tX1_rule (tX4_hall hS).2).1 ?_
                            obtain ⟨h15, hc1, H⟩ := bd_of H
                            refine ww_callV C hZ dX4_line_135 cw_X4_148 (ccX5_begin (tX1_rule (tX4_hall hS).2).2 hc1) (tX1_rule (tX4_hall hS).2).2.1 ⟨by decide, rfl⟩ ⟨by omega, by decide⟩ rfl rfl (Nat.le_of_ble_eq_true rfl) ⟨Nat.zero_le _, Nat.zero_le _⟩ (fun v τ hp => ?_)
                            obtain ⟨rfl, rfl⟩ := hp
                            change WW X _ 138 [.ref o] [] _
                            refine ww_aload_n C dX4_line_138 0 rfl rfl ?_
                            refine ww_iconst (v := (0 : Int32)) C dX4_line_139 (by decide) ?_
                            refine ww_iconst (v := (0 : Int32)) C dX4_line_140 (by decide) ?_
                            obtain ⟨h16, hc1, H⟩ := bd_of H
                            refine ww_callV C hZ dX4_line_141 cw_X4_151 (ccX4_expr hS 200 hc1) hS.1 ⟨by decide, rfl⟩ ⟨by omega, by decide⟩ rfl rfl (Nat.le_of_ble_eq_true rfl) ⟨Nat.zero_le _, Nat.zero_le _⟩ (fun v τ hp => ?_)
                            obtain ⟨rfl, rfl⟩ := hp
                            change WW X _ 144 [.ref o] [] _
                            refine ww_goto C dX4_line_144 152 rfl ?_
                            exact cX4_line_152 hS C hZ E H
                          · rw [if_neg hc12] at H
                            refine ww_tableOut C dX4_line_4 (by have q0 := lv_neT (k := (128 : Int32)) (a := 128) hc0 (by decide); have q1 := lv_neT (k := (129 : Int32)) (a := 129) hc1 (by decide); have q2 := lv_neT (k := (130 : Int32)) (a := 130) hc2 (by decide); have q3 := lv_neT (k := (131 : Int32)) (a := 131) hc3 (by decide); have q4 := lv_neT (k := (132 : Int32)) (a := 132) hc4 (by decide); have q5 := lv_neT (k := (133 : Int32)) (a := 133) hc5 (by decide); have q6 := lv_neT (k := (134 : Int32)) (a := 134) hc6 (by decide); have q7 := lv_neT (k := (135 : Int32)) (a := 135) hc7 (by decide); have q8 := lv_neT (k := (136 : Int32)) (a := 136) hc8 (by decide); have q9 := lv_neT (k := (137 : Int32)) (a := 137) hc9 (by decide); have q10 := lv_neT (k := (138 : Int32)) (a := 138) hc10 (by decide); have q11 := lv_neT (k := (139 : Int32)) (a := 139) hc11 (by decide); have q12 := lv_neT (k := (140 : Int32)) (a := 140) hc12 (by decide); omega) 147 rfl ?_
                            refine ww_aload_n C dX4_line_147 0 rfl rfl ?_
                            refine ww_iconst (v := (2 : Int32)) C dX4_line_148 (by decide) ?_
                            obtain ⟨h17, hc1, H⟩ := bd_of H
                            refine ww_callV C hZ dX4_line_149 cw_X4_98 (ccX4_refuse hS hc1) hS.1 ⟨by decide, rfl⟩ ⟨by omega, by decide⟩ rfl rfl (Nat.le_of_ble_eq_true rfl) ⟨Nat.zero_le _, Nat.zero_le _⟩ (fun v τ hp => ?_)
                            obtain ⟨rfl, rfl⟩ := hp
                            change WW X _ 152 [.ref o] [] _
                            exact cX4_line_152 hS C hZ E H
def fX4_read_33 (o : Nat) (tt : Nat) (a1 : Nat) (k : HI → Option (Int32 × HI)) : Nat → HI → Int32 → Option (Int32 × HI)
  | 0, _, _ => none
  | n + 1, h, v2 => (if (1700 : Int32) < v2 then k h else (if (h.1 o 8) = 0 then (if (h.1 o 4) = 0 then k h else ((fX4_line o tt a1 h).bind fun h3 => fX4_read_33 o tt a1 k n h3 (v2 + (1 : Int32)))) else k h))
set_option maxRecDepth 100000 in
set_option maxHeartbeats 4000000 in
theorem cX4_read_33 {X : CT} {sh : Sh} {adr : Nat → Nat} {r : Nat → Nat → Option Nat} {o : Nat} {tt : Nat} {a1 : Nat} {p : Int32 × HI} (hS : ES sh r tt a1 o) (hA1 : HS sh r a1) (C : CX X yX4_read.cls cX4_read 3 422) (hZ : SZX X adr) (E : RX X (some .boolean) sh adr (fun v τ => v = some (.int p.1) ∧ τ = mk p.2 r)) {k : HI → Option (Int32 × HI)} (hk : ∀ (h : HI), k h = some p → WW X (sh, adr, 0, 0) 64 [.ref o, .ref a1, .retAddr 0] [] (mk h r)) : ∀ (n : Nat) (h : HI) (v2 : Int32), fX4_read_33 o tt a1 k n h v2 = some p → WW X (sh, adr, 0, 0) 33 [.ref o, .ref a1, .int v2] [] (mk h r) := by
  intro n
  induction n with
  | zero =>
    intro h v2 H
    rw [fX4_read_33] at H
    cases H
  | succ n ih =>
    intro h v2 H
    rw [fX4_read_33] at H
    refine ww_iload_n C dX4_read_33 2 rfl rfl ?_
    refine ww_sipush (v := (1700 : Int32)) C dX4_read_34 (by decide) ?_
    refine ww_icmp_gt C dX4_read_37 64 rfl (fun hc => ?_) (fun hc => ?_)
    · rw [if_pos hc] at H
      exact ww_drop [.ref o, .ref a1, .retAddr 0] (sl_e (sl_e (sl_d sl_n))) (hk h H)
    · rw [if_neg hc] at H
      refine ww_aload_n C dX4_read_40 0 rfl rfl ?_
      refine wk_getI C dX4_read_41 fl_X4_60 hS.1 rfl ?_
      refine ww_if_ne C dX4_read_44 64 rfl (fun hc => ?_) (fun hc => ?_)
      · rw [if_neg hc] at H
        exact ww_drop [.ref o, .ref a1, .retAddr 0] (sl_e (sl_e (sl_d sl_n))) (hk h H)
      · rw [if_pos hc] at H
        refine ww_aload_n C dX4_read_47 0 rfl rfl ?_
        refine wk_getI C dX4_read_48 fl_X4_66 hS.1 rfl ?_
        refine ww_if_eq C dX4_read_51 64 rfl (fun hc => ?_) (fun hc => ?_)
        · rw [if_pos hc] at H
          exact ww_drop [.ref o, .ref a1, .retAddr 0] (sl_e (sl_e (sl_d sl_n))) (hk h H)
        · rw [if_neg hc] at H
          refine ww_aload_n C dX4_read_54 0 rfl rfl ?_
          obtain ⟨h3, hc1, H⟩ := bd_of H
          refine ww_callV C hZ dX4_read_55 cw_X4_69 (ccX4_line hS hc1) hS.1 ⟨by decide, rfl⟩ (by decide) rfl rfl (Nat.le_of_ble_eq_true rfl) ⟨Nat.zero_le _, Nat.zero_le _⟩ (fun v τ hp => ?_)
          obtain ⟨rfl, rfl⟩ := hp
          change WW X _ 58 [.ref o, .ref a1, .int v2] [] _
          refine ww_iinc (v := (v2 + (1 : Int32))) C dX4_read_58 rfl rfl (by decide) rfl [.ref o, .ref a1, .int (v2 + (1 : Int32))] rfl ?_
          refine ww_goto C dX4_read_61 33 rfl ?_
          exact ih h3 (v2 + (1 : Int32)) H
def fX4_read_64 (o : Nat) (tt : Nat) (a1 : Nat) (h : HI) : Option (Int32 × HI) := (if (h.1 o 8) = 0 then some ((1 : Int32), h) else some ((0 : Int32), h))
set_option maxRecDepth 100000 in
set_option maxHeartbeats 4000000 in
theorem cX4_read_64 {X : CT} {sh : Sh} {adr : Nat → Nat} {r : Nat → Nat → Option Nat} {o : Nat} {tt : Nat} {a1 : Nat} {p : Int32 × HI} (hS : ES sh r tt a1 o) (hA1 : HS sh r a1) (C : CX X yX4_read.cls cX4_read 3 422) (hZ : SZX X adr) (E : RX X (some .boolean) sh adr (fun v τ => v = some (.int p.1) ∧ τ = mk p.2 r)) {h : HI} (H : fX4_read_64 o tt a1 h = some p) : WW X (sh, adr, 0, 0) 64 [.ref o, .ref a1, .retAddr 0] [] (mk h r) := by
  rw [fX4_read_64] at H
  refine ww_aload_n C dX4_read_64 0 rfl rfl ?_
  refine wk_getI C dX4_read_65 fl_X4_60 hS.1 rfl ?_
  refine ww_if_ne C dX4_read_68 75 rfl (fun hc => ?_) (fun hc => ?_)
  · rw [if_neg hc] at H
    refine ww_iconst (v := (0 : Int32)) C dX4_read_75 (by decide) ?_
    cases H
    exact ww_zret C E dX4_read_76 (Or.inl rfl) ⟨rfl, rfl⟩
  · rw [if_pos hc] at H
    refine ww_iconst (v := (1 : Int32)) C dX4_read_71 (by decide) ?_
    refine ww_goto C dX4_read_72 76 rfl ?_
    cases H
    exact ww_zret C E dX4_read_76 (Or.inr rfl) ⟨rfl, rfl⟩
def fX4_read (o : Nat) (tt : Nat) (a1 : Nat) (h : HI) : Option (Int32 × HI) := ((fX1_clear a1 h).bind fun h1 => ((fX4_next o tt (uI (uI (uI h1 o 3 (0 : Int32)) o 8 (0 : Int32)) o 9 (-1 : Int32))).bind fun h2 => fX4_read_33 o tt a1 (fun h5 => fX4_read_64 o tt a1 h5) FU h2 (0 : Int32)))
set_option maxRecDepth 100000 in
set_option maxHeartbeats 4000000 in
theorem ccX4_read {l : Launch} {sh : Sh} {adr : Nat → Nat} {r : Nat → Nat → Option Nat} {o : Nat} {tt : Nat} {hh : Nat} {a1 : Nat} (hS : ES sh r tt hh o) (hA1 : HS sh r a1) {h : HI}  {p : Int32 × HI} (H : fX4_read o tt a1 h = some p) : CC l yX4_read cX4_read 3 (some .boolean) 422 [.ref o, .ref a1] sh adr (mk h r) (fun v τ => v = some (.int p.1) ∧ τ = mk p.2 (ur r o 2 (some a1))) := by
  refine CC.of (by decide) (Nat.le_of_ble_eq_true rfl) 1 [.ref o, .ref a1, .retAddr 0] rfl (fun X _ C E hZ => ?_)
  rw [fX4_read] at H
  refine ww_aload_n C dX4_read_0 0 rfl rfl ?_
  refine ww_aload_n C dX4_read_1 1 rfl rfl ?_
  refine wk_putA C dX4_read_2 fl_X4_28 hS.1 rfl rfl ?_
  have hS9 := ES.put hS hA1
  have hA1 := HS.keep (o := o) (k := 2) (v := some a1) (by rw [hS.1]; decide) hA1
  have hS := hS9
  refine ww_aload_n C dX4_read_5 0 rfl rfl ?_
  refine wk_getA C dX4_read_6 fl_X4_28 hS.1 rfl (tX4_hall hS).1 ?_
  obtain ⟨h1, hc1, H⟩ := bd_of H
  refine ww_callV C hZ dX4_read_9 cw_X4_52 (ccX1_clear (tX4_hall hS).2 hc1) (tX4_hall hS).2.1 ⟨by decide, rfl⟩ (by decide) rfl rfl (Nat.le_of_ble_eq_true rfl) ⟨Nat.zero_le _, Nat.zero_le _⟩ (fun v τ hp => ?_)
  obtain ⟨rfl, rfl⟩ := hp
  change WW X _ 12 [.ref o, .ref a1, .retAddr 0] [] _
  refine ww_aload_n C dX4_read_12 0 rfl rfl ?_
  refine ww_iconst (v := (0 : Int32)) C dX4_read_13 (by decide) ?_
  refine wk_putI C dX4_read_14 fl_X4_57 hS.1 rfl rfl ?_
  refine ww_aload_n C dX4_read_17 0 rfl rfl ?_
  refine ww_iconst (v := (0 : Int32)) C dX4_read_18 (by decide) ?_
  refine wk_putI C dX4_read_19 fl_X4_60 hS.1 rfl rfl ?_
  refine ww_aload_n C dX4_read_22 0 rfl rfl ?_
  refine ww_iconst (v := (-1 : Int32)) C dX4_read_23 (by decide) ?_
  refine wk_putI C dX4_read_24 fl_X4_20 hS.1 rfl rfl ?_
  refine ww_aload_n C dX4_read_27 0 rfl rfl ?_
  obtain ⟨h2, hc1, H⟩ := bd_of H
  refine ww_callV C hZ dX4_read_28 cw_X4_63 (ccX4_next hS hc1) hS.1 ⟨by decide, rfl⟩ (by decide) rfl rfl (Nat.le_of_ble_eq_true rfl) ⟨Nat.zero_le _, Nat.zero_le _⟩ (fun v τ hp => ?_)
  obtain ⟨rfl, rfl⟩ := hp
  change WW X _ 31 [.ref o, .ref a1, .retAddr 0] [] _
  refine ww_iconst (v := (0 : Int32)) C dX4_read_31 (by decide) ?_
  refine ww_istore_n C dX4_read_32 2 rfl (by decide) rfl [.ref o, .ref a1, .int (0 : Int32)] rfl ?_
  refine cX4_read_33 hS hA1 C hZ E (fun h5 H => ?_) FU h2 (0 : Int32) H
  exact cX4_read_64 hS hA1 C hZ E H
