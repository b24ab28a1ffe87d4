theorem RXA.le {X : CT} {sh' : Sh} {adr0 : Nat → Nat} {L mc ms c s : Nat} {post : Hp → Prop} (E : RXA X sh' adr0 L mc ms post) (h1 : c ≤ mc) (h2 : s ≤ ms) : c ≤ (rX X).cells ∧ s ≤ (rX X).slots := by
  obtain ⟨p, l, e, R, s, m, args, below, meth, c, Q, D, z, A⟩ := X
  obtain ⟨-, -, -, e1, e2⟩ := E
  exact ⟨by show _ ≤ R.cells; rw [e1]; exact h1, by show _ ≤ R.slots; rw [e2]; exact h2⟩
/-- a Sitting whose hall is not set yet -/
def SS0 (sh : Sh) (r : Nat → Nat → Option Nat) (o : Nat) : Prop := kd sh o = 6 ∧ ∀ q ∈ SST, r o q.1 = some (o + q.2.1) ∧ kd sh (o + q.2.1) = q.2.2.1 ∧ ln sh (o + q.2.1) = q.2.2.2
theorem SS0.put {sh : Sh} {r : Nat → Nat → Option Nat} {o x : Nat} (h : SS0 sh r o) (hx : HS sh r x) : SS sh (ur r o 0 (some x)) x o := by
  obtain ⟨h1, h2⟩ := h
  have h0 : ∀ q ∈ SST, q.1 ≠ 0 := by decide
  refine ⟨h1, fun q hq => ?_, ur_at r o 0 (some x), hx.keep (by rw [h1]; decide)⟩
  rw [ur_ne (fun w => h0 q hq w.2)]
  exact h2 q hq
set_option maxRecDepth 100000 in
set_option maxHeartbeats 4000000 in
theorem ccX6_begin0 {l : Launch} {sh : Sh} {adr : Nat → Nat} {r : Nat → Nat → Option Nat} {o : Nat} {a1 : Nat} (hS : SS0 sh r o) (hA1 : HS sh r a1) {h : HI}  {p : HI} (H : fX6_begin o a1 h = some p) : CC l yX6_begin cX6_begin 3 none 1 [.ref o, .ref a1] sh adr (mk h r) (fun v τ => v = none ∧ τ = mk p (ur r o 0 (some a1))) := by
  refine CC.of (by decide) (Nat.le_of_ble_eq_true rfl) 1 [.ref o, .ref a1, .retAddr 0] rfl (fun X _ C E hZ => ?_)
  rw [fX6_begin] at H
  refine ww_aload_n C dX6_begin_0 0 rfl rfl ?_
  refine ww_aload_n C dX6_begin_1 1 rfl rfl ?_
  refine wk_putA C dX6_begin_2 fl_X6_41 hS.1 rfl rfl ?_
  have hS9 := SS0.put hS hA1
  have hA1 := HS.keep (o := o) (k := 0) (v := some a1) (by rw [hS.1]; decide) hA1
  have hS := hS9
  refine ww_aload_n C dX6_begin_5 0 rfl rfl ?_
  refine ww_iconst (v := (0 : Int32)) C dX6_begin_6 (by decide) ?_
  refine wk_putI C dX6_begin_7 fl_X6_45 hS.1 rfl rfl ?_
  refine ww_aload_n C dX6_begin_10 0 rfl rfl ?_
  refine ww_iconst (v := (0 : Int32)) C dX6_begin_11 (by decide) ?_
  refine wk_putI C dX6_begin_12 fl_X6_49 hS.1 rfl rfl ?_
  refine ww_aload_n C dX6_begin_15 0 rfl rfl ?_
  refine ww_iconst (v := (0 : Int32)) C dX6_begin_16 (by decide) ?_
  refine wk_putI C dX6_begin_17 fl_X6_52 hS.1 rfl rfl ?_
  refine ww_aload_n C dX6_begin_20 0 rfl rfl ?_
  refine ww_iconst (v := (0 : Int32)) C dX6_begin_21 (by decide) ?_
  refine wk_putI C dX6_begin_22 fl_X6_55 hS.1 rfl rfl ?_
  refine ww_aload_n C dX6_begin_25 0 rfl rfl ?_
  refine ww_iconst (v := (0 : Int32)) C dX6_begin_26 (by decide) ?_
  refine wk_putI C dX6_begin_27 fl_X6_58 hS.1 rfl rfl ?_
  refine ww_iconst (v := (0 : Int32)) C dX6_begin_30 (by decide) ?_
  refine ww_istore_n C dX6_begin_31 2 rfl (by decide) rfl [.ref o, .ref a1, .int (0 : Int32)] rfl ?_
  refine cX6_begin_32 hS hA1 C hZ E (fun h2 H => ?_) FU (uI (uI (uI (uI (uI h o 1 (0 : Int32)) o 2 (0 : Int32)) o 3 (0 : Int32)) o 4 (0 : Int32)) o 5 (0 : Int32)) (0 : Int32) H
  refine ww_aload_n C dX6_begin_70 0 rfl rfl ?_
  refine wk_getR C dX6_begin_71 fl_X6_15 hS.1 rfl (tX6_tired hS).1 ?_
  refine ww_iconst (v := (0 : Int32)) C dX6_begin_74 (by decide) ?_
  obtain ⟨h3, hc1, H⟩ := bd_of H
  refine ww_callS C hZ dX6_begin_75 sw_X6_66 (ccJ7_fill_53178 ⟨(tX6_tired hS).2.1, (tX6_tired hS).2.2⟩ hc1) (by decide) rfl rfl (Nat.le_of_ble_eq_true rfl) ⟨Nat.zero_le _, Nat.zero_le _⟩ (fun v τ hp => ?_)
  obtain ⟨rfl, rfl⟩ := hp
  change WW X _ 78 [.ref o, .ref a1, .retAddr 0] [] _
  refine ww_aload_n C dX6_begin_78 0 rfl rfl ?_
  refine wk_getR C dX6_begin_79 fl_X6_18 hS.1 rfl (tX6_satFor hS).1 ?_
  refine ww_iconst (v := (0 : Int32)) C dX6_begin_82 (by decide) ?_
  obtain ⟨h4, hc1, H⟩ := bd_of H
  refine ww_callS C hZ dX6_begin_83 sw_X6_66 (ccJ7_fill_53178 ⟨(tX6_satFor hS).2.1, (tX6_satFor hS).2.2⟩ hc1) (by decide) rfl rfl (Nat.le_of_ble_eq_true rfl) ⟨Nat.zero_le _, Nat.zero_le _⟩ (fun v τ hp => ?_)
  obtain ⟨rfl, rfl⟩ := hp
  change WW X _ 86 [.ref o, .ref a1, .retAddr 0] [] _
  refine ww_aload_n C dX6_begin_86 0 rfl rfl ?_
  refine wk_getR C dX6_begin_87 fl_X6_21 hS.1 rfl (tX6_spoken hS).1 ?_
  refine ww_iconst (v := (0 : Int32)) C dX6_begin_90 (by decide) ?_
  obtain ⟨h5, hc1, H⟩ := bd_of H
  refine ww_callS C hZ dX6_begin_91 sw_X6_66 (ccJ7_fill_53178 ⟨(tX6_spoken hS).2.1, (tX6_spoken hS).2.2⟩ hc1) (by decide) rfl rfl (Nat.le_of_ble_eq_true rfl) ⟨Nat.zero_le _, Nat.zero_le _⟩ (fun v τ hp => ?_)
  obtain ⟨rfl, rfl⟩ := hp
  change WW X _ 94 [.ref o, .ref a1, .retAddr 0] [] _
  refine ww_aload_n C dX6_begin_94 0 rfl rfl ?_
  refine wk_getR C dX6_begin_95 fl_X6_24 hS.1 rfl (tX6_status hS).1 ?_
  refine ww_iconst (v := (0 : Int32)) C dX6_begin_98 (by decide) ?_
  obtain ⟨h6, hc1, H⟩ := bd_of H
  refine ww_callS C hZ dX6_begin_99 sw_X6_66 (ccJ7_fill_53178 ⟨(tX6_status hS).2.1, (tX6_status hS).2.2⟩ hc1) (by decide) rfl rfl (Nat.le_of_ble_eq_true rfl) ⟨Nat.zero_le _, Nat.zero_le _⟩ (fun v τ hp => ?_)
  obtain ⟨rfl, rfl⟩ := hp
  change WW X _ 102 [.ref o, .ref a1, .retAddr 0] [] _
  refine ww_aload_n C dX6_begin_102 0 rfl rfl ?_
  refine wk_getR C dX6_begin_103 fl_X6_27 hS.1 rfl (tX6_dealEnd hS).1 ?_
  refine ww_iconst (v := (0 : Int32)) C dX6_begin_106 (by decide) ?_
  obtain ⟨h7, hc1, H⟩ := bd_of H
  refine ww_callS C hZ dX6_begin_107 sw_X6_66 (ccJ7_fill_53178 ⟨(tX6_dealEnd hS).2.1, (tX6_dealEnd hS).2.2⟩ hc1) (by decide) rfl rfl (Nat.le_of_ble_eq_true rfl) ⟨Nat.zero_le _, Nat.zero_le _⟩ (fun v τ hp => ?_)
  obtain ⟨rfl, rfl⟩ := hp
  change WW X _ 110 [.ref o, .ref a1, .retAddr 0] [] _
  cases H
  exact ww_vret C E dX6_begin_110 ⟨rfl, rfl⟩
def fX4_init_83 (o : Nat) (k : HI → Option (HI)) (kb : HI → Int64 → Int32 → Option (HI)) (h : HI) (v3 : Int64) (v5 : Int32) : Option (HI) := kb h v3 (v5 + (1 : Int32))
set_option maxRecDepth 100000 in
set_option maxHeartbeats 4000000 in
theorem cX4_init_83 {X : CT} {sh : Sh} {adr adr0 : Nat → Nat} {L mc ms : Nat} {r : Nat → Nat → Option Nat} {o : Nat} {tt : Nat} {hh : Nat} {p : HI} (hS : ES sh r tt hh o) (C : CX X yX4_init.cls cX4_init 7 12) (hZ : SZX X adr) (E : RXA X sh adr0 L mc ms (fun τ => τ = mk p r)) (hag : AG adr0 adr L) {k : HI → Option (HI)} {kb : HI → Int64 → Int32 → Option (HI)} (hk : ∀ (h : HI), k h = some p → WW X (sh, adr, mc, ms) 89 [.ref o, .retAddr 0, .retAddr 0, .retAddr 0, .retAddr 0, .retAddr 0, .retAddr 0] [] (mk h r)) (hb : ∀ (h : HI) (v3 : Int64) (v5 : Int32), kb h v3 v5 = some p → WW X (sh, adr, mc, ms) 37 [.ref o, .retAddr 0, .retAddr 0, .long v3, .retAddr 0, .int v5, .retAddr 0] [] (mk h r)) {h : HI} {v3 : Int64} {v5 : Int32} (H : fX4_init_83 o k kb h v3 v5 = some p) : WW X (sh, adr, mc, ms) 83 [.ref o, .retAddr 0, .retAddr 0, .long v3, .retAddr 0, .int v5, .retAddr 0] [] (mk h r) := by
  rw [fX4_init_83] at H
  refine ww_iinc (v := (v5 + (1 : Int32))) C dX4_init_83 rfl rfl (by decide) rfl [.ref o, .retAddr 0, .retAddr 0, .long v3, .retAddr 0, .int (v5 + (1 : Int32)), .retAddr 0] rfl ?_
  refine ww_goto C dX4_init_86 37 rfl ?_
  exact hb h v3 (v5 + (1 : Int32)) H
def fX4_init_37 (o : Nat) (k : HI → Option (HI)) : Nat → HI → Int64 → Int32 → Option (HI)
  | 0, _, _, _ => none
  | n + 1, h, v3, v5 => ((fJ0_length_8abf5 0 h).bind fun p1 => (if p1.1 ≤ v5 then k p1.2 else ((fJ0_charAt_5068e 0 p1.2 v5).bind fun p2 => (if p2.1 = (32 : Int32) then ((fX2_add (o + 1) 21 p2.2 v3).bind fun h4 => fX4_init_83 o (k) (fX4_init_37 o k n) h4 (0 : Int64) v5) else ((fX4_withLetter p2.2 v3 p2.1).bind fun p3 => fX4_init_83 o (k) (fX4_init_37 o k n) p3.2 p3.1 v5)))))
set_option maxRecDepth 100000 in
set_option maxHeartbeats 4000000 in
theorem cX4_init_37 {X : CT} {sh : Sh} {adr adr0 : Nat → Nat} {L mc ms : Nat} {r : Nat → Nat → Option Nat} {o : Nat} {tt : Nat} {hh : Nat} {p : HI} (hS : ES sh r tt hh o) (C : CX X yX4_init.cls cX4_init 7 12) (hZ : SZX X adr) (E : RXA X sh adr0 L mc ms (fun τ => τ = mk p r)) (hag : AG adr0 adr L) {k : HI → Option (HI)} (hk : ∀ (h : HI), k h = some p → WW X (sh, adr, mc, ms) 89 [.ref o, .retAddr 0, .retAddr 0, .retAddr 0, .retAddr 0, .retAddr 0, .retAddr 0] [] (mk h r)) : ∀ (n : Nat) (h : HI) (v3 : Int64) (v5 : Int32), fX4_init_37 o k n h v3 v5 = some p → WW X (sh, adr, mc, ms) 37 [.ref o, .retAddr 0, .retAddr 0, .long v3, .retAddr 0, .int v5, .retAddr 0] [] (mk h r) := by
  intro n
  induction n with
  | zero =>
    intro h v3 v5 H
    rw [fX4_init_37] at H
    cases H
  | succ n ih =>
    intro h v3 v5 H
    rw [fX4_init_37] at H
    refine ww_iload C dX4_init_37 rfl ?_
    refine ww_ldcS0 C hZ dX4_init_39 ?_
    obtain ⟨p1, hc1, H⟩ := bd_of H
    refine ww_callVS C hZ dX4_init_41 cw_X4_34 (ccJ0_length_8abf5 (by decide) hc1) (by decide) rfl (by decide) rfl rfl (Nat.le_of_ble_eq_true rfl) (RXA.le E (Nat.le_refl _) (Nat.le_refl _)) (fun v τ hp => ?_)
    obtain ⟨rfl, rfl⟩ := hp
    change WW X _ 44 [.ref o, .retAddr 0, .retAddr 0, .long v3, .retAddr 0, .int v5, .retAddr 0] [.int p1.1, .int v5] _
    refine ww_icmp_ge C dX4_init_44 89 rfl (fun hc => ?_) (fun hc => ?_)
    · rw [if_pos hc] at H
      exact ww_drop [.ref o, .retAddr 0, .retAddr 0, .retAddr 0, .retAddr 0, .retAddr 0, .retAddr 0] (sl_e (sl_e (sl_e (sl_d (sl_e (sl_d (sl_e sl_n))))))) (hk p1.2 H)
    · rw [if_neg hc] at H
      refine ww_ldcS0 C hZ dX4_init_47 ?_
      refine ww_iload C dX4_init_49 rfl ?_
      obtain ⟨p2, hc1, H⟩ := bd_of H
      refine ww_callVS C hZ dX4_init_51 cw_X4_40 (ccJ0_charAt_5068e (by decide) hc1) (by decide) rfl (by decide) rfl rfl (Nat.le_of_ble_eq_true rfl) (RXA.le E (Nat.le_refl _) (Nat.le_refl _)) (fun v τ hp => ?_)
      obtain ⟨rfl, rfl⟩ := hp
      change WW X _ 54 [.ref o, .retAddr 0, .retAddr 0, .long v3, .retAddr 0, .int v5, .retAddr 0] [.int p2.1] _
      refine ww_istore C dX4_init_54 (by decide) rfl [.ref o, .retAddr 0, .retAddr 0, .long v3, .retAddr 0, .int v5, .int p2.1] rfl ?_
      refine ww_iload C dX4_init_56 rfl ?_
      refine ww_bipush (v := (32 : Int32)) C dX4_init_58 (by decide) ?_
      refine ww_icmp_ne C dX4_init_60 76 rfl (fun hc => ?_) (fun hc => ?_)
      · rw [if_neg hc] at H
        refine ww_lload_n C dX4_init_76 3 rfl rfl ?_
        refine ww_iload C dX4_init_77 rfl ?_
        obtain ⟨p3, hc1, H⟩ := bd_of H
        refine ww_callS C hZ dX4_init_79 sw_X4_48 (ccX4_withLetter hc1) (by decide) rfl rfl (Nat.le_of_ble_eq_true rfl) (RXA.le E (Nat.le_refl _) (Nat.le_refl _)) (fun v τ hp => ?_)
        obtain ⟨rfl, rfl⟩ := hp
        change WW X _ 82 [.ref o, .retAddr 0, .retAddr 0, .long v3, .retAddr 0, .int v5, .int p2.1] [.long p3.1] _
        refine ww_lstore_n C dX4_init_82 3 rfl (by decide) rfl [.ref o, .retAddr 0, .retAddr 0, .long p3.1, .retAddr 0, .int v5, .int p2.1] rfl ?_
        exact ww_drop [.ref o, .retAddr 0, .retAddr 0, .long p3.1, .retAddr 0, .int v5, .retAddr 0] (sl_e (sl_e (sl_e (sl_e (sl_e (sl_e (sl_d sl_n))))))) (cX4_init_83 hS C hZ E hag hk ih H)
      · rw [if_pos hc] at H
        refine ww_aload_n C dX4_init_63 0 rfl rfl ?_
        refine wk_getA C dX4_init_64 fl_X4_16 hS.1 rfl (tX4_words hS).1 ?_
        refine ww_lload_n C dX4_init_67 3 rfl rfl ?_
        obtain ⟨h4, hc1, H⟩ := bd_of H
        refine ww_callV C hZ dX4_init_68 cw_X4_44 (ccX2_add (tX4_words hS).2 hc1) (tX4_words hS).2.1 ⟨by decide, rfl⟩ (by decide) rfl rfl (Nat.le_of_ble_eq_true rfl) (RXA.le E (Nat.le_refl _) (Nat.le_refl _)) (fun v τ hp => ?_)
        obtain ⟨rfl, rfl⟩ := hp
        change WW X _ 71 [.ref o, .retAddr 0, .retAddr 0, .long v3, .retAddr 0, .int v5, .int p2.1] [] _
        refine ww_lconst (v := (0 : Int64)) C dX4_init_71 (by decide) ?_
        refine ww_lstore_n C dX4_init_72 3 rfl (by decide) rfl [.ref o, .retAddr 0, .retAddr 0, .long (0 : Int64), .retAddr 0, .int v5, .int p2.1] rfl ?_
        refine ww_goto C dX4_init_73 83 rfl ?_
        exact ww_drop [.ref o, .retAddr 0, .retAddr 0, .long (0 : Int64), .retAddr 0, .int v5, .retAddr 0] (sl_e (sl_e (sl_e (sl_e (sl_e (sl_e (sl_d sl_n))))))) (cX4_init_83 hS C hZ E hag hk ih H)
def fX4_ctail (o : Nat) (h : HI) : Option (HI) := fX4_init_37 o (fun h6 => some h6) FU h (0 : Int64) (0 : Int32)
set_option maxRecDepth 100000 in
set_option maxHeartbeats 4000000 in
theorem cX4_ctail {X : CT} {sh : Sh} {adr adr0 : Nat → Nat} {L mc ms : Nat} {r : Nat → Nat → Option Nat} {o : Nat} {tt : Nat} {hh : Nat} {p : HI} (hS : ES sh r tt hh o) (C : CX X yX4_init.cls cX4_init 7 12) (hZ : SZX X adr) (E : RXA X sh adr0 L mc ms (fun τ => τ = mk p r)) (hag : AG adr0 adr L) {h : HI} (H : fX4_ctail o h = some p) : WW X (sh, adr, mc, ms) 32 [.ref o, .retAddr 0, .retAddr 0, .retAddr 0, .retAddr 0, .retAddr 0, .retAddr 0] [] (mk h r) := by
  rw [fX4_ctail] at H
  refine ww_lconst (v := (0 : Int64)) C dX4_init_32 (by decide) ?_
  refine ww_lstore_n C dX4_init_33 3 rfl (by decide) rfl [.ref o, .retAddr 0, .retAddr 0, .long (0 : Int64), .retAddr 0, .retAddr 0, .retAddr 0] rfl ?_
  refine ww_iconst (v := (0 : Int32)) C dX4_init_34 (by decide) ?_
  refine ww_istore C dX4_init_35 (by decide) rfl [.ref o, .retAddr 0, .retAddr 0, .long (0 : Int64), .retAddr 0, .int (0 : Int32), .retAddr 0] rfl ?_
  refine cX4_init_37 hS C hZ E hag (fun h6 H => ?_) FU h (0 : Int64) (0 : Int32) H
  cases H
  exact ww_vretA C E hag dX4_init_89 rfl
