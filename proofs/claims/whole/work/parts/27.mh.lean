def fX9_judge_77 (m : Nat) (k : HI → Int32 → Int32 → Int32 → Option (Int32 × HI)) (kb : HI → Int32 → Int32 → Int32 → Int32 → Int32 → Option (Int32 × HI)) (h : HI) (v1 : Int32) (v2 : Int32) (v3 : Int32) (v4 : Int32) (v5 : Int32) : Option (Int32 × HI) := kb h v1 v2 v3 v4 (v5 + (1 : Int32))
set_option maxRecDepth 100000 in
set_option maxHeartbeats 4000000 in
theorem cX9_judge_77 {X : CT} {sh : Sh} {adr : Nat → Nat} {r : Nat → Nat → Option Nat} {m : Nat} {p : Int32 × HI} (hS : MS sh r m) (C : CX X yX9_judge.cls cX9_judge 6 2) (hZ : SZX X adr) (E : RX X (some .int) sh adr (fun v τ => v = some (.int p.1) ∧ τ = mk p.2 r)) {k : HI → Int32 → Int32 → Int32 → Option (Int32 × HI)} {kb : HI → Int32 → Int32 → Int32 → Int32 → Int32 → Option (Int32 × HI)} (hk : ∀ (h : HI) (v1 : Int32) (v3 : Int32) (v4 : Int32), k h v1 v3 v4 = some p → WW X (sh, adr, 0, 0) 83 [.ref m, .int v1, .retAddr 0, .int v3, .int v4, .retAddr 0] [] (mk h r)) (hb : ∀ (h : HI) (v1 : Int32) (v2 : Int32) (v3 : Int32) (v4 : Int32) (v5 : Int32), kb h v1 v2 v3 v4 v5 = some p → WW X (sh, adr, 0, 0) 19 [.ref m, .int v1, .int v2, .int v3, .int v4, .int v5] [] (mk h r)) {h : HI} {v1 : Int32} {v2 : Int32} {v3 : Int32} {v4 : Int32} {v5 : Int32} (H : fX9_judge_77 m k kb h v1 v2 v3 v4 v5 = some p) : WW X (sh, adr, 0, 0) 77 [.ref m, .int v1, .int v2, .int v3, .int v4, .int v5] [] (mk h r) := by
  rw [fX9_judge_77] at H
  refine ww_iinc (v := (v5 + (1 : Int32))) C dX9_judge_77 rfl rfl (by decide) rfl [.ref m, .int v1, .int v2, .int v3, .int v4, .int (v5 + (1 : Int32))] rfl ?_
  refine ww_goto C dX9_judge_80 19 rfl ?_
  exact hb h v1 v2 v3 v4 (v5 + (1 : Int32)) H
def fX9_judge_75 (m : Nat) (k : HI → Int32 → Int32 → Int32 → Option (Int32 × HI)) (kb : HI → Int32 → Int32 → Int32 → Int32 → Int32 → Option (Int32 × HI)) (h : HI) (v1 : Int32) (v2 : Int32) (v3 : Int32) (v5 : Int32) (s0 : Int32) : Option (Int32 × HI) := fX9_judge_77 m k kb h v1 v2 v3 s0 v5
set_option maxRecDepth 100000 in
set_option maxHeartbeats 4000000 in
theorem cX9_judge_75 {X : CT} {sh : Sh} {adr : Nat → Nat} {r : Nat → Nat → Option Nat} {m : Nat} {p : Int32 × HI} (hS : MS sh r m) (C : CX X yX9_judge.cls cX9_judge 6 2) (hZ : SZX X adr) (E : RX X (some .int) sh adr (fun v τ => v = some (.int p.1) ∧ τ = mk p.2 r)) {k : HI → Int32 → Int32 → Int32 → Option (Int32 × HI)} {kb : HI → Int32 → Int32 → Int32 → Int32 → Int32 → Option (Int32 × HI)} (hk : ∀ (h : HI) (v1 : Int32) (v3 : Int32) (v4 : Int32), k h v1 v3 v4 = some p → WW X (sh, adr, 0, 0) 83 [.ref m, .int v1, .retAddr 0, .int v3, .int v4, .retAddr 0] [] (mk h r)) (hb : ∀ (h : HI) (v1 : Int32) (v2 : Int32) (v3 : Int32) (v4 : Int32) (v5 : Int32), kb h v1 v2 v3 v4 v5 = some p → WW X (sh, adr, 0, 0) 19 [.ref m, .int v1, .int v2, .int v3, .int v4, .int v5] [] (mk h r)) {h : HI} {v1 : Int32} {v2 : Int32} {v3 : Int32} {v5 : Int32} {s0 : Int32} (H : fX9_judge_75 m k kb h v1 v2 v3 v5 s0 = some p) : WW X (sh, adr, 0, 0) 75 [.ref m, .int v1, .int v2, .int v3, .retAddr 0, .int v5] [.int s0] (mk h r) := by
  rw [fX9_judge_75] at H
  refine ww_istore C dX9_judge_75 (by decide) rfl [.ref m, .int v1, .int v2, .int v3, .int s0, .int v5] rfl ?_
  exact cX9_judge_77 hS C hZ E hk hb H
def fX9_judge_51 (m : Nat) (k : HI → Int32 → Int32 → Int32 → Option (Int32 × HI)) (kb : HI → Int32 → Int32 → Int32 → Int32 → Int32 → Option (Int32 × HI)) (h : HI) (v1 : Int32) (v2 : Int32) (v3 : Int32) (v4 : Int32) (v5 : Int32) (s0 : Int32) (s1 : Int32) : Option (Int32 × HI) := ((fX9_isWrong m h s1 s0).bind fun p2 => (if p2.1 = 0 then fX9_judge_77 m k kb p2.2 v1 v2 v3 v4 v5 else (if 0 ≤ v4 then fX9_judge_75 m k kb p2.2 v1 v2 (v3 + (1 : Int32)) v5 v4 else fX9_judge_75 m k kb p2.2 v1 v2 (v3 + (1 : Int32)) v5 v5)))
set_option maxRecDepth 100000 in
set_option maxHeartbeats 4000000 in
theorem cX9_judge_51 {X : CT} {sh : Sh} {adr : Nat → Nat} {r : Nat → Nat → Option Nat} {m : Nat} {p : Int32 × HI} (hS : MS sh r m) (C : CX X yX9_judge.cls cX9_judge 6 2) (hZ : SZX X adr) (E : RX X (some .int) sh adr (fun v τ => v = some (.int p.1) ∧ τ = mk p.2 r)) {k : HI → Int32 → Int32 → Int32 → Option (Int32 × HI)} {kb : HI → Int32 → Int32 → Int32 → Int32 → Int32 → Option (Int32 × HI)} (hk : ∀ (h : HI) (v1 : Int32) (v3 : Int32) (v4 : Int32), k h v1 v3 v4 = some p → WW X (sh, adr, 0, 0) 83 [.ref m, .int v1, .retAddr 0, .int v3, .int v4, .retAddr 0] [] (mk h r)) (hb : ∀ (h : HI) (v1 : Int32) (v2 : Int32) (v3 : Int32) (v4 : Int32) (v5 : Int32), kb h v1 v2 v3 v4 v5 = some p → WW X (sh, adr, 0, 0) 19 [.ref m, .int v1, .int v2, .int v3, .int v4, .int v5] [] (mk h r)) {h : HI} {v1 : Int32} {v2 : Int32} {v3 : Int32} {v4 : Int32} {v5 : Int32} {s0 : Int32} {s1 : Int32} (H : fX9_judge_51 m k kb h v1 v2 v3 v4 v5 s0 s1 = some p) : WW X (sh, adr, 0, 0) 51 [.ref m, .int v1, .int v2, .int v3, .int v4, .int v5] [.int s0, .int s1, .ref m] (mk h r) := by
  rw [fX9_judge_51] at H
  obtain ⟨p2, hc1, H⟩ := bd_of H
  refine ww_callV C hZ dX9_judge_51 cw_X9_583 (ccX9_isWrong hS hc1) hS.1 ⟨by decide, rfl⟩ (by decide) rfl rfl (Nat.le_of_ble_eq_true rfl) ⟨Nat.zero_le _, Nat.zero_le _⟩ (fun v τ hp => ?_)
  obtain ⟨rfl, rfl⟩ := hp
  change WW X _ 54 [.ref m, .int v1, .int v2, .int v3, .int v4, .int v5] [.int p2.1] _
  refine ww_if_ne C dX9_judge_54 60 rfl (fun hc => ?_) (fun hc => ?_)
  · rw [if_neg hc] at H
    refine ww_iinc (v := (v3 + (1 : Int32))) C dX9_judge_60 rfl rfl (by decide) rfl [.ref m, .int v1, .int v2, .int (v3 + (1 : Int32)), .int v4, .int v5] rfl ?_
    refine ww_iload C dX9_judge_63 rfl ?_
    refine ww_if_ge C dX9_judge_65 73 rfl (fun hc => ?_) (fun hc => ?_)
    · rw [if_pos hc] at H
      refine ww_iload C dX9_judge_73 rfl ?_
      exact ww_drop [.ref m, .int v1, .int v2, .int (v3 + (1 : Int32)), .retAddr 0, .int v5] (sl_e (sl_e (sl_e (sl_e (sl_d (sl_e sl_n)))))) (cX9_judge_75 hS C hZ E hk hb H)
    · rw [if_neg hc] at H
      refine ww_iload C dX9_judge_68 rfl ?_
      refine ww_goto C dX9_judge_70 75 rfl ?_
      exact ww_drop [.ref m, .int v1, .int v2, .int (v3 + (1 : Int32)), .retAddr 0, .int v5] (sl_e (sl_e (sl_e (sl_e (sl_d (sl_e sl_n)))))) (cX9_judge_75 hS C hZ E hk hb H)
  · rw [if_pos hc] at H
    refine ww_goto C dX9_judge_57 77 rfl ?_
    exact cX9_judge_77 hS C hZ E hk hb H
def fX9_judge_19 (m : Nat) (k : HI → Int32 → Int32 → Int32 → Option (Int32 × HI)) : Nat → HI → Int32 → Int32 → Int32 → Int32 → Int32 → Option (Int32 × HI)
  | 0, _, _, _, _, _, _ => none
  | n + 1, h, v1, v2, v3, v4, v5 => (if (h.1 m 79) ≤ v5 then k h v1 v3 v4 else ((fX9_counts m h v5 v2).bind fun p1 => (if p1.1 = 0 then fX9_judge_77 m (k) (fX9_judge_19 m k n) p1.2 v1 v2 v3 v4 v5 else (if v1 = (1 : Int32) then fX9_judge_51 m (k) (fX9_judge_19 m k n) p1.2 v1 v2 v3 v4 v5 (1 : Int32) v5 else fX9_judge_51 m (k) (fX9_judge_19 m k n) p1.2 v1 v2 v3 v4 v5 (0 : Int32) v5))))
set_option maxRecDepth 100000 in
set_option maxHeartbeats 4000000 in
theorem cX9_judge_19 {X : CT} {sh : Sh} {adr : Nat → Nat} {r : Nat → Nat → Option Nat} {m : Nat} {p : Int32 × HI} (hS : MS sh r m) (C : CX X yX9_judge.cls cX9_judge 6 2) (hZ : SZX X adr) (E : RX X (some .int) sh adr (fun v τ => v = some (.int p.1) ∧ τ = mk p.2 r)) {k : HI → Int32 → Int32 → Int32 → Option (Int32 × HI)} (hk : ∀ (h : HI) (v1 : Int32) (v3 : Int32) (v4 : Int32), k h v1 v3 v4 = some p → WW X (sh, adr, 0, 0) 83 [.ref m, .int v1, .retAddr 0, .int v3, .int v4, .retAddr 0] [] (mk h r)) : ∀ (n : Nat) (h : HI) (v1 : Int32) (v2 : Int32) (v3 : Int32) (v4 : Int32) (v5 : Int32), fX9_judge_19 m k n h v1 v2 v3 v4 v5 = some p → WW X (sh, adr, 0, 0) 19 [.ref m, .int v1, .int v2, .int v3, .int v4, .int v5] [] (mk h r) := by
  intro n
  induction n with
  | zero =>
    intro h v1 v2 v3 v4 v5 H
    rw [fX9_judge_19] at H
    cases H
  | succ n ih =>
    intro h v1 v2 v3 v4 v5 H
    rw [fX9_judge_19] at H
    refine ww_iload C dX9_judge_19 rfl ?_
    refine ww_aload_n C dX9_judge_21 0 rfl rfl ?_
    refine wk_getI C dX9_judge_22 fl_X9_410 hS.1 rfl ?_
    refine ww_icmp_ge C dX9_judge_25 83 rfl (fun hc => ?_) (fun hc => ?_)
    · rw [if_pos hc] at H
      exact ww_drop [.ref m, .int v1, .retAddr 0, .int v3, .int v4, .retAddr 0] (sl_e (sl_e (sl_d (sl_e (sl_e (sl_d sl_n)))))) (hk h v1 v3 v4 H)
    · rw [if_neg hc] at H
      refine ww_aload_n C dX9_judge_28 0 rfl rfl ?_
      refine ww_iload C dX9_judge_29 rfl ?_
      refine ww_iload_n C dX9_judge_31 2 rfl rfl ?_
      obtain ⟨p1, hc1, H⟩ := bd_of H
      refine ww_callV C hZ dX9_judge_32 cw_X9_580 (ccX9_counts hS hc1) hS.1 ⟨by decide, rfl⟩ (by decide) rfl rfl (Nat.le_of_ble_eq_true rfl) ⟨Nat.zero_le _, Nat.zero_le _⟩ (fun v τ hp => ?_)
      obtain ⟨rfl, rfl⟩ := hp
      change WW X _ 35 [.ref m, .int v1, .int v2, .int v3, .int v4, .int v5] [.int p1.1] _
      refine ww_if_eq C dX9_judge_35 77 rfl (fun hc => ?_) (fun hc => ?_)
      · rw [if_pos hc] at H
        exact cX9_judge_77 hS C hZ E hk ih H
      · rw [if_neg hc] at H
        refine ww_aload_n C dX9_judge_38 0 rfl rfl ?_
        refine ww_iload C dX9_judge_39 rfl ?_
        refine ww_iload_n C dX9_judge_41 1 rfl rfl ?_
        refine ww_iconst (v := (1 : Int32)) C dX9_judge_42 (by decide) ?_
        refine ww_icmp_ne C dX9_judge_43 50 rfl (fun hc => ?_) (fun hc => ?_)
        · rw [if_neg hc] at H
          refine ww_iconst (v := (0 : Int32)) C dX9_judge_50 (by decide) ?_
          exact cX9_judge_51 hS C hZ E hk ih H
        · rw [if_pos hc] at H
          refine ww_iconst (v := (1 : Int32)) C dX9_judge_46 (by decide) ?_
          refine ww_goto C dX9_judge_47 51 rfl ?_
          exact cX9_judge_51 hS C hZ E hk ih H
def fX9_judge (m : Nat) (h : HI) (a1 : Int32) (a2 : Int32) : Option (Int32 × HI) := (if a1 < 0 then some ((-1 : Int32), h) else (if a1 ≤ (2 : Int32) then fX9_judge_19 m (fun h4 v1 v3 v4 => (if v1 = (2 : Int32) then some (v4, h4) else some (v3, h4))) FU h a1 a2 (0 : Int32) (-1 : Int32) (0 : Int32) else some ((-1 : Int32), h)))
set_option maxRecDepth 100000 in
set_option maxHeartbeats 4000000 in
theorem ccX9_judge {l : Launch} {sh : Sh} {adr : Nat → Nat} {r : Nat → Nat → Option Nat} {m : Nat} (hS : MS sh r m) {h : HI} {a1 : Int32} {a2 : Int32} {p : Int32 × HI} (H : fX9_judge m h a1 a2 = some p) : CC l yX9_judge cX9_judge 6 (some .int) 2 [.ref m, .int a1, .int a2] sh adr (mk h r) (fun v τ => v = some (.int p.1) ∧ τ = mk p.2 r) := by
  refine CC.of (by decide) (Nat.le_of_ble_eq_true rfl) 3 [.ref m, .int a1, .int a2, .retAddr 0, .retAddr 0, .retAddr 0] rfl (fun X _ C E hZ => ?_)
  rw [fX9_judge] at H
  refine ww_iload_n C dX9_judge_0 1 rfl rfl ?_
  refine ww_if_lt C dX9_judge_1 9 rfl (fun hc => ?_) (fun hc => ?_)
  · rw [if_pos hc] at H
    refine ww_iconst (v := (-1 : Int32)) C dX9_judge_9 (by decide) ?_
    cases H
    exact ww_iret C E dX9_judge_10 ⟨rfl, rfl⟩
  · rw [if_neg hc] at H
    refine ww_iload_n C dX9_judge_4 1 rfl rfl ?_
    refine ww_iconst (v := (2 : Int32)) C dX9_judge_5 (by decide) ?_
    refine ww_icmp_le C dX9_judge_6 11 rfl (fun hc => ?_) (fun hc => ?_)
    · rw [if_pos hc] at H
      refine ww_iconst (v := (0 : Int32)) C dX9_judge_11 (by decide) ?_
      refine ww_istore_n C dX9_judge_12 3 rfl (by decide) rfl [.ref m, .int a1, .int a2, .int (0 : Int32), .retAddr 0, .retAddr 0] rfl ?_
      refine ww_iconst (v := (-1 : Int32)) C dX9_judge_13 (by decide) ?_
      refine ww_istore C dX9_judge_14 (by decide) rfl [.ref m, .int a1, .int a2, .int (0 : Int32), .int (-1 : Int32), .retAddr 0] rfl ?_
      refine ww_iconst (v := (0 : Int32)) C dX9_judge_16 (by decide) ?_
      refine ww_istore C dX9_judge_17 (by decide) rfl [.ref m, .int a1, .int a2, .int (0 : Int32), .int (-1 : Int32), .int (0 : Int32)] rfl ?_
      refine cX9_judge_19 hS C hZ E (fun h4 v1 v3 v4 H => ?_) FU h a1 a2 (0 : Int32) (-1 : Int32) (0 : Int32) H
      refine ww_iload_n C dX9_judge_83 1 rfl rfl ?_
      refine ww_iconst (v := (2 : Int32)) C dX9_judge_84 (by decide) ?_
      refine ww_icmp_ne C dX9_judge_85 93 rfl (fun hc => ?_) (fun hc => ?_)
      · rw [if_neg hc] at H
        refine ww_iload_n C dX9_judge_93 3 rfl rfl ?_
        cases H
        exact ww_iret C E dX9_judge_94 ⟨rfl, rfl⟩
      · rw [if_pos hc] at H
        refine ww_iload C dX9_judge_88 rfl ?_
        refine ww_goto C dX9_judge_90 94 rfl ?_
        cases H
        exact ww_iret C E dX9_judge_94 ⟨rfl, rfl⟩
    · rw [if_neg hc] at H
      refine ww_iconst (v := (-1 : Int32)) C dX9_judge_9 (by decide) ?_
      cases H
      exact ww_iret C E dX9_judge_10 ⟨rfl, rfl⟩
def fX9_isBox (h : HI) (a0 : Int32) : Option (Int32 × HI) := (if a0 < 0 then some ((0 : Int32), h) else (if (3 : Int32) ≤ a0 then some ((0 : Int32), h) else some ((1 : Int32), h)))
set_option maxRecDepth 100000 in
set_option maxHeartbeats 4000000 in
theorem ccX9_isBox {l : Launch} {sh : Sh} {adr : Nat → Nat} {r : Nat → Nat → Option Nat} {h : HI} {a0 : Int32} {p : Int32 × HI} (H : fX9_isBox h a0 = some p) : CC l yX9_isBox cX9_isBox 1 (some .boolean) 0 [.int a0] sh adr (mk h r) (fun v τ => v = some (.int p.1) ∧ τ = mk p.2 r) := by
  refine CC.of (by decide) (Nat.le_of_ble_eq_true rfl) 0 [.int a0] rfl (fun X _ C E hZ => ?_)
  rw [fX9_isBox] at H
  refine ww_iload_n C dX9_isBox_0 0 rfl rfl ?_
  refine ww_if_lt C dX9_isBox_1 13 rfl (fun hc => ?_) (fun hc => ?_)
  · rw [if_pos hc] at H
    refine ww_iconst (v := (0 : Int32)) C dX9_isBox_13 (by decide) ?_
    cases H
    exact ww_zret C E dX9_isBox_14 (Or.inl rfl) ⟨rfl, rfl⟩
  · rw [if_neg hc] at H
    refine ww_iload_n C dX9_isBox_4 0 rfl rfl ?_
    refine ww_iconst (v := (3 : Int32)) C dX9_isBox_5 (by decide) ?_
    refine ww_icmp_ge C dX9_isBox_6 13 rfl (fun hc => ?_) (fun hc => ?_)
    · rw [if_pos hc] at H
      refine ww_iconst (v := (0 : Int32)) C dX9_isBox_13 (by decide) ?_
      cases H
      exact ww_zret C E dX9_isBox_14 (Or.inl rfl) ⟨rfl, rfl⟩
    · rw [if_neg hc] at H
      refine ww_iconst (v := (1 : Int32)) C dX9_isBox_9 (by decide) ?_
      refine ww_goto C dX9_isBox_10 14 rfl ?_
      cases H
      exact ww_zret C E dX9_isBox_14 (Or.inr rfl) ⟨rfl, rfl⟩
def fX9_image_18 (m : Nat) (k : HI → Int32 → Option (Int32 × HI)) : Nat → HI → Int32 → Int32 → Option (Int32 × HI)
  | 0, _, _, _ => none
  | n + 1, h, v1, v2 => (if (6 : Int32) ≤ v2 then k h v1 else (if inB v2 6 then (if inB ((5 : Int32) * (((6 : Int32) * v1) + v2)) 90 then (if inB v2 6 then (if inB (((5 : Int32) * (((6 : Int32) * v1) + v2)) + (1 : Int32)) 90 then (if inB v2 6 then (if inB (((5 : Int32) * (((6 : Int32) * v1) + v2)) + (2 : Int32)) 90 then (if inB v2 6 then (if inB (((5 : Int32) * (((6 : Int32) * v1) + v2)) + (3 : Int32)) 90 then fX9_image_18 m k n (uI (uI (uI (uI h (m + 48) (((5 : Int32) * (((6 : Int32) * v1) + v2)).toNatClampNeg) (h.1 (m + 27) (v2.toNatClampNeg))) (m + 48) ((((5 : Int32) * (((6 : Int32) * v1) + v2)) + (1 : Int32)).toNatClampNeg) (h.1 (m + 28) (v2.toNatClampNeg))) (m + 48) ((((5 : Int32) * (((6 : Int32) * v1) + v2)) + (2 : Int32)).toNatClampNeg) (h.1 (m + 29) (v2.toNatClampNeg))) (m + 48) ((((5 : Int32) * (((6 : Int32) * v1) + v2)) + (3 : Int32)).toNatClampNeg) (h.1 (m + 30) (v2.toNatClampNeg))) v1 (v2 + (1 : Int32)) else none) else none) else none) else none) else none) else none) else none) else none))
set_option maxRecDepth 100000 in
set_option maxHeartbeats 4000000 in
theorem cX9_image_18 {X : CT} {sh : Sh} {adr : Nat → Nat} {r : Nat → Nat → Option Nat} {m : Nat} {p : Int32 × HI} (hS : MS sh r m) (C : CX X yX9_image.cls cX9_image 4 1) (hZ : SZX X adr) (E : RX X (some .int) sh adr (fun v τ => v = some (.int p.1) ∧ τ = mk p.2 r)) {k : HI → Int32 → Option (Int32 × HI)} (hk : ∀ (h : HI) (v1 : Int32), k h v1 = some p → WW X (sh, adr, 0, 0) 93 [.ref m, .int v1, .retAddr 0, .retAddr 0] [] (mk h r)) : ∀ (n : Nat) (h : HI) (v1 : Int32) (v2 : Int32), fX9_image_18 m k n h v1 v2 = some p → WW X (sh, adr, 0, 0) 18 [.ref m, .int v1, .int v2, .retAddr 0] [] (mk h r) := by
  intro n
  induction n with
  | zero =>
    intro h v1 v2 H
    rw [fX9_image_18] at H
    cases H
  | succ n ih =>
    intro h v1 v2 H
    rw [fX9_image_18] at H
    refine ww_iload_n C dX9_image_18 2 rfl rfl ?_
    refine ww_bipush (v := (6 : Int32)) C dX9_image_19 (by decide) ?_
    refine ww_icmp_ge C dX9_image_21 93 rfl (fun hc => ?_) (fun hc => ?_)
    · rw [if_pos hc] at H
      exact ww_drop [.ref m, .int v1, .retAddr 0, .retAddr 0] (sl_e (sl_e (sl_d (sl_e sl_n)))) (hk h v1 H)
    · rw [if_neg hc] at H
      refine ww_iconst (v := (5 : Int32)) C dX9_image_24 (by decide) ?_
      refine ww_bipush (v := (6 : Int32)) C dX9_image_25 (by decide) ?_
      refine ww_iload_n C dX9_image_27 1 rfl rfl ?_
      refine ww_imul C dX9_image_28 ?_
      refine ww_iload_n C dX9_image_29 2 rfl rfl ?_
      refine ww_iadd C dX9_image_30 ?_
      refine ww_imul C dX9_image_31 ?_
      refine ww_istore_n C dX9_image_32 3 rfl (by decide) rfl [.ref m, .int v1, .int v2, .int ((5 : Int32) * (((6 : Int32) * v1) + v2))] rfl ?_
      refine ww_aload_n C dX9_image_33 0 rfl rfl ?_
      refine wk_getR C dX9_image_34 fl_X9_158 hS.1 rfl (tX9_boxMen hS).1 ?_
      refine ww_iload_n C dX9_image_37 3 rfl rfl ?_
      refine ww_aload_n C dX9_image_38 0 rfl rfl ?_
      refine wk_getR C dX9_image_39 fl_X9_94 hS.1 rfl (tX9_where hS).1 ?_
      refine ww_iload_n C dX9_image_42 2 rfl rfl ?_
      obtain ⟨hg, H⟩ := gd_of H
      refine wk_iaload C dX9_image_43 (tX9_where hS).2.1 (vp_of hg (tX9_where hS).2.2) (v2.toNatClampNeg) rfl ?_
      obtain ⟨hg, H⟩ := gd_of H
      refine wk_iastore C dX9_image_44 (tX9_boxMen hS).2.1 (vp_of hg (tX9_boxMen hS).2.2) (((5 : Int32) * (((6 : Int32) * v1) + v2)).toNatClampNeg) rfl ?_
      refine ww_aload_n C dX9_image_45 0 rfl rfl ?_
      refine wk_getR C dX9_image_46 fl_X9_158 hS.1 rfl (tX9_boxMen hS).1 ?_
      refine ww_iload_n C dX9_image_49 3 rfl rfl ?_
      refine ww_iconst (v := (1 : Int32)) C dX9_image_50 (by decide) ?_
      refine ww_iadd C dX9_image_51 ?_
      refine ww_aload_n C dX9_image_52 0 rfl rfl ?_
      refine wk_getR C dX9_image_53 fl_X9_97 hS.1 rfl (tX9_tired hS).1 ?_
      refine ww_iload_n C dX9_image_56 2 rfl rfl ?_
      obtain ⟨hg, H⟩ := gd_of H
      refine wk_iaload C dX9_image_57 (tX9_tired hS).2.1 (vp_of hg (tX9_tired hS).2.2) (v2.toNatClampNeg) rfl ?_
      refine ww_as (v := (h.1 (m + 28) (v2.toNatClampNeg))) (by rw [uI_n (by omega)]) ?_
      obtain ⟨hg, H⟩ := gd_of H
      refine wk_iastore C dX9_image_58 (tX9_boxMen hS).2.1 (vp_of hg (tX9_boxMen hS).2.2) ((((5 : Int32) * (((6 : Int32) * v1) + v2)) + (1 : Int32)).toNatClampNeg) rfl ?_
      refine ww_aload_n C dX9_image_59 0 rfl rfl ?_
      refine wk_getR C dX9_image_60 fl_X9_158 hS.1 rfl (tX9_boxMen hS).1 ?_
      refine ww_iload_n C dX9_image_63 3 rfl rfl ?_
      refine ww_iconst (v := (2 : Int32)) C dX9_image_64 (by decide) ?_
      refine ww_iadd C dX9_image_65 ?_
      refine ww_aload_n C dX9_image_66 0 rfl rfl ?_
      refine wk_getR C dX9_image_67 fl_X9_100 hS.1 rfl (tX9_satFor hS).1 ?_
      refine ww_iload_n C dX9_image_70 2 rfl rfl ?_
      obtain ⟨hg, H⟩ := gd_of H
      refine wk_iaload C dX9_image_71 (tX9_satFor hS).2.1 (vp_of hg (tX9_satFor hS).2.2) (v2.toNatClampNeg) rfl ?_
      refine ww_as (v := (h.1 (m + 29) (v2.toNatClampNeg))) (by rw [uI_n (by omega), uI_n (by omega)]) ?_
      obtain ⟨hg, H⟩ := gd_of H
      refine wk_iastore C dX9_image_72 (tX9_boxMen hS).2.1 (vp_of hg (tX9_boxMen hS).2.2) ((((5 : Int32) * (((6 : Int32) * v1) + v2)) + (2 : Int32)).toNatClampNeg) rfl ?_
      refine ww_aload_n C dX9_image_73 0 rfl rfl ?_
      refine wk_getR C dX9_image_74 fl_X9_158 hS.1 rfl (tX9_boxMen hS).1 ?_
      refine ww_iload_n C dX9_image_77 3 rfl rfl ?_
      refine ww_iconst (v := (3 : Int32)) C dX9_image_78 (by decide) ?_
      refine ww_iadd C dX9_image_79 ?_
      refine ww_aload_n C dX9_image_80 0 rfl rfl ?_
      refine wk_getR C dX9_image_81 fl_X9_103 hS.1 rfl (tX9_spoke hS).1 ?_
      refine ww_iload_n C dX9_image_84 2 rfl rfl ?_
      obtain ⟨hg, H⟩ := gd_of H
      refine wk_iaload C dX9_image_85 (tX9_spoke hS).2.1 (vp_of hg (tX9_spoke hS).2.2) (v2.toNatClampNeg) rfl ?_
      refine ww_as (v := (h.1 (m + 30) (v2.toNatClampNeg))) (by rw [uI_n (by omega), uI_n (by omega), uI_n (by omega)]) ?_
      obtain ⟨hg, H⟩ := gd_of H
      refine wk_iastore C dX9_image_86 (tX9_boxMen hS).2.1 (vp_of hg (tX9_boxMen hS).2.2) ((((5 : Int32) * (((6 : Int32) * v1) + v2)) + (3 : Int32)).toNatClampNeg) rfl ?_
      refine ww_iinc (v := (v2 + (1 : Int32))) C dX9_image_87 rfl rfl (by decide) rfl [.ref m, .int v1, .int (v2 + (1 : Int32)), .int ((5 : Int32) * (((6 : Int32) * v1) + v2))] rfl ?_
      refine ww_goto C dX9_image_90 18 rfl ?_
      exact ww_drop [.ref m, .int v1, .int (v2 + (1 : Int32)), .retAddr 0] (sl_e (sl_e (sl_e (sl_d sl_n)))) (ih (uI (uI (uI (uI h (m + 48) (((5 : Int32) * (((6 : Int32) * v1) + v2)).toNatClampNeg) (h.1 (m + 27) (v2.toNatClampNeg))) (m + 48) ((((5 : Int32) * (((6 : Int32) * v1) + v2)) + (1 : Int32)).toNatClampNeg) (h.1 (m + 28) (v2.toNatClampNeg))) (m + 48) ((((5 : Int32) * (((6 : Int32) * v1) + v2)) + (2 : Int32)).toNatClampNeg) (h.1 (m + 29) (v2.toNatClampNeg))) (m + 48) ((((5 : Int32) * (((6 : Int32) * v1) + v2)) + (3 : Int32)).toNatClampNeg) (h.1 (m + 30) (v2.toNatClampNeg))) v1 (v2 + (1 : Int32)) H)
def fX9_image_156 (m : Nat) (k : HI → Int32 → Option (Int32 × HI)) (kb : HI → Int32 → Int32 → Option (Int32 × HI)) (h : HI) (v1 : Int32) (v2 : Int32) (s0 : Int32) (s1 : Int32) : Option (Int32 × HI) := (if inB s1 36 then kb (uI h (m + 49) (s1.toNatClampNeg) s0) v1 (v2 + (1 : Int32)) else none)
set_option maxRecDepth 100000 in
set_option maxHeartbeats 4000000 in
theorem cX9_image_156 {X : CT} {sh : Sh} {adr : Nat → Nat} {r : Nat → Nat → Option Nat} {m : Nat} {p : Int32 × HI} (hS : MS sh r m) (C : CX X yX9_image.cls cX9_image 4 1) (hZ : SZX X adr) (E : RX X (some .int) sh adr (fun v τ => v = some (.int p.1) ∧ τ = mk p.2 r)) {k : HI → Int32 → Option (Int32 × HI)} {kb : HI → Int32 → Int32 → Option (Int32 × HI)} (hk : ∀ (h : HI) (v1 : Int32), k h v1 = some p → WW X (sh, adr, 0, 0) 163 [.ref m, .int v1, .retAddr 0, .retAddr 0] [] (mk h r)) (hb : ∀ (h : HI) (v1 : Int32) (v2 : Int32), kb h v1 v2 = some p → WW X (sh, adr, 0, 0) 95 [.ref m, .int v1, .int v2, .retAddr 0] [] (mk h r)) {h : HI} {v1 : Int32} {v2 : Int32} {s0 : Int32} {s1 : Int32} (H : fX9_image_156 m k kb h v1 v2 s0 s1 = some p) : WW X (sh, adr, 0, 0) 156 [.ref m, .int v1, .int v2, .retAddr 0] [.int s0, .int s1, .ref (m + 49)] (mk h r) := by
  rw [fX9_image_156] at H
  obtain ⟨hg, H⟩ := gd_of H
  refine wk_iastore C dX9_image_156 (tX9_boxChairs hS).2.1 (vp_of hg (tX9_boxChairs hS).2.2) (s1.toNatClampNeg) rfl ?_
  refine ww_iinc (v := (v2 + (1 : Int32))) C dX9_image_157 rfl rfl (by decide) rfl [.ref m, .int v1, .int (v2 + (1 : Int32)), .retAddr 0] rfl ?_
  refine ww_goto C dX9_image_160 95 rfl ?_
  exact hb (uI h (m + 49) (s1.toNatClampNeg) s0) v1 (v2 + (1 : Int32)) H
def fX9_image_127 (m : Nat) (k : HI → Int32 → Option (Int32 × HI)) (kb : HI → Int32 → Int32 → Option (Int32 × HI)) (h : HI) (v1 : Int32) (v2 : Int32) (s0 : Int32) (s1 : Int32) : Option (Int32 × HI) := (if inB s1 36 then (if inB v2 6 then (if (h.1 (m + 34) (v2.toNatClampNeg)) = 0 then fX9_image_156 m k kb (uI h (m + 49) (s1.toNatClampNeg) s0) v1 v2 (0 : Int32) (((2 : Int32) * (((6 : Int32) * v1) + v2)) + (1 : Int32)) else fX9_image_156 m k kb (uI h (m + 49) (s1.toNatClampNeg) s0) v1 v2 (1 : Int32) (((2 : Int32) * (((6 : Int32) * v1) + v2)) + (1 : Int32))) else none) else none)
set_option maxRecDepth 100000 in
set_option maxHeartbeats 4000000 in
theorem cX9_image_127 {X : CT} {sh : Sh} {adr : Nat → Nat} {r : Nat → Nat → Option Nat} {m : Nat} {p : Int32 × HI} (hS : MS sh r m) (C : CX X yX9_image.cls cX9_image 4 1) (hZ : SZX X adr) (E : RX X (some .int) sh adr (fun v τ => v = some (.int p.1) ∧ τ = mk p.2 r)) {k : HI → Int32 → Option (Int32 × HI)} {kb : HI → Int32 → Int32 → Option (Int32 × HI)} (hk : ∀ (h : HI) (v1 : Int32), k h v1 = some p → WW X (sh, adr, 0, 0) 163 [.ref m, .int v1, .retAddr 0, .retAddr 0] [] (mk h r)) (hb : ∀ (h : HI) (v1 : Int32) (v2 : Int32), kb h v1 v2 = some p → WW X (sh, adr, 0, 0) 95 [.ref m, .int v1, .int v2, .retAddr 0] [] (mk h r)) {h : HI} {v1 : Int32} {v2 : Int32} {s0 : Int32} {s1 : Int32} (H : fX9_image_127 m k kb h v1 v2 s0 s1 = some p) : WW X (sh, adr, 0, 0) 127 [.ref m, .int v1, .int v2, .retAddr 0] [.int s0, .int s1, .ref (m + 49)] (mk h r) := by
  rw [fX9_image_127] at H
  obtain ⟨hg, H⟩ := gd_of H
  refine wk_iastore C dX9_image_127 (tX9_boxChairs hS).2.1 (vp_of hg (tX9_boxChairs hS).2.2) (s1.toNatClampNeg) rfl ?_
  refine ww_aload_n C dX9_image_128 0 rfl rfl ?_
  refine wk_getR C dX9_image_129 fl_X9_161 hS.1 rfl (tX9_boxChairs hS).1 ?_
  refine ww_iconst (v := (2 : Int32)) C dX9_image_132 (by decide) ?_
  refine ww_bipush (v := (6 : Int32)) C dX9_image_133 (by decide) ?_
  refine ww_iload_n C dX9_image_135 1 rfl rfl ?_
  refine ww_imul C dX9_image_136 ?_
  refine ww_iload_n C dX9_image_137 2 rfl rfl ?_
  refine ww_iadd C dX9_image_138 ?_
  refine ww_imul C dX9_image_139 ?_
  refine ww_iconst (v := (1 : Int32)) C dX9_image_140 (by decide) ?_
  refine ww_iadd C dX9_image_141 ?_
  refine ww_aload_n C dX9_image_142 0 rfl rfl ?_
  refine wk_getR C dX9_image_143 fl_X9_115 hS.1 rfl (tX9_isFound hS).1 ?_
  refine ww_iload_n C dX9_image_146 2 rfl rfl ?_
  obtain ⟨hg, H⟩ := gd_of H
  refine wk_zaload C dX9_image_147 (tX9_isFound hS).2.1 (vp_of hg (tX9_isFound hS).2.2) (v2.toNatClampNeg) rfl ?_
  refine ww_as (v := (h.1 (m + 34) (v2.toNatClampNeg))) (by rw [uI_n (by omega)]) ?_
  refine ww_if_eq C dX9_image_148 155 rfl (fun hc => ?_) (fun hc => ?_)
  · rw [if_pos hc] at H
    refine ww_iconst (v := (0 : Int32)) C dX9_image_155 (by decide) ?_
    exact cX9_image_156 hS C hZ E hk hb H
  · rw [if_neg hc] at H
    refine ww_iconst (v := (1 : Int32)) C dX9_image_151 (by decide) ?_
    refine ww_goto C dX9_image_152 156 rfl ?_
    exact cX9_image_156 hS C hZ E hk hb H
def fX9_image_95 (m : Nat) (k : HI → Int32 → Option (Int32 × HI)) : Nat → HI → Int32 → Int32 → Option (Int32 × HI)
  | 0, _, _, _ => none
  | n + 1, h, v1, v2 => (if (6 : Int32) ≤ v2 then k h v1 else (if inB v2 6 then (if (h.1 (m + 33) (v2.toNatClampNeg)) = 0 then fX9_image_127 m (k) (fX9_image_95 m k n) h v1 v2 (0 : Int32) ((2 : Int32) * (((6 : Int32) * v1) + v2)) else fX9_image_127 m (k) (fX9_image_95 m k n) h v1 v2 (1 : Int32) ((2 : Int32) * (((6 : Int32) * v1) + v2))) else none))
set_option maxRecDepth 100000 in
set_option maxHeartbeats 4000000 in
theorem cX9_image_95 {X : CT} {sh : Sh} {adr : Nat → Nat} {r : Nat → Nat → Option Nat} {m : Nat} {p : Int32 × HI} (hS : MS sh r m) (C : CX X yX9_image.cls cX9_image 4 1) (hZ : SZX X adr) (E : RX X (some .int) sh adr (fun v τ => v = some (.int p.1) ∧ τ = mk p.2 r)) {k : HI → Int32 → Option (Int32 × HI)} (hk : ∀ (h : HI) (v1 : Int32), k h v1 = some p → WW X (sh, adr, 0, 0) 163 [.ref m, .int v1, .retAddr 0, .retAddr 0] [] (mk h r)) : ∀ (n : Nat) (h : HI) (v1 : Int32) (v2 : Int32), fX9_image_95 m k n h v1 v2 = some p → WW X (sh, adr, 0, 0) 95 [.ref m, .int v1, .int v2, .retAddr 0] [] (mk h r) := by
  intro n
  induction n with
  | zero =>
    intro h v1 v2 H
    rw [fX9_image_95] at H
    cases H
  | succ n ih =>
    intro h v1 v2 H
    rw [fX9_image_95] at H
    refine ww_iload_n C dX9_image_95 2 rfl rfl ?_
    refine ww_bipush (v := (6 : Int32)) C dX9_image_96 (by decide) ?_
    refine ww_icmp_ge C dX9_image_98 163 rfl (fun hc => ?_) (fun hc => ?_)
    · rw [if_pos hc] at H
      exact ww_drop [.ref m, .int v1, .retAddr 0, .retAddr 0] (sl_e (sl_e (sl_d (sl_e sl_n)))) (hk h v1 H)
    · rw [if_neg hc] at H
      refine ww_aload_n C dX9_image_101 0 rfl rfl ?_
      refine wk_getR C dX9_image_102 fl_X9_161 hS.1 rfl (tX9_boxChairs hS).1 ?_
      refine ww_iconst (v := (2 : Int32)) C dX9_image_105 (by decide) ?_
      refine ww_bipush (v := (6 : Int32)) C dX9_image_106 (by decide) ?_
      refine ww_iload_n C dX9_image_108 1 rfl rfl ?_
      refine ww_imul C dX9_image_109 ?_
      refine ww_iload_n C dX9_image_110 2 rfl rfl ?_
      refine ww_iadd C dX9_image_111 ?_
      refine ww_imul C dX9_image_112 ?_
      refine ww_aload_n C dX9_image_113 0 rfl rfl ?_
      refine wk_getR C dX9_image_114 fl_X9_112 hS.1 rfl (tX9_isBroken hS).1 ?_
      refine ww_iload_n C dX9_image_117 2 rfl rfl ?_
      obtain ⟨hg, H⟩ := gd_of H
      refine wk_zaload C dX9_image_118 (tX9_isBroken hS).2.1 (vp_of hg (tX9_isBroken hS).2.2) (v2.toNatClampNeg) rfl ?_
      refine ww_if_eq C dX9_image_119 126 rfl (fun hc => ?_) (fun hc => ?_)
      · rw [if_pos hc] at H
        refine ww_iconst (v := (0 : Int32)) C dX9_image_126 (by decide) ?_
        exact cX9_image_127 hS C hZ E hk ih H
      · rw [if_neg hc] at H
        refine ww_iconst (v := (1 : Int32)) C dX9_image_122 (by decide) ?_
        refine ww_goto C dX9_image_123 127 rfl ?_
        exact cX9_image_127 hS C hZ E hk ih H
def fX9_image_165 (m : Nat) (k : HI → Int32 → Option (Int32 × HI)) : Nat → HI → Int32 → Int32 → Option (Int32 × HI)
  | 0, _, _, _ => none
  | n + 1, h, v1, v2 => (if (4 : Int32) ≤ v2 then k h v1 else (if inB v2 4 then (if inB (((8 : Int32) * v1) + v2) 24 then (if inB v2 4 then (if inB ((((8 : Int32) * v1) + (4 : Int32)) + v2) 24 then fX9_image_165 m k n (uI (uI h (m + 50) ((((8 : Int32) * v1) + v2).toNatClampNeg) (h.1 (m + 31) (v2.toNatClampNeg))) (m + 50) (((((8 : Int32) * v1) + (4 : Int32)) + v2).toNatClampNeg) (h.1 (m + 32) (v2.toNatClampNeg))) v1 (v2 + (1 : Int32)) else none) else none) else none) else none))
set_option maxRecDepth 100000 in
set_option maxHeartbeats 4000000 in
theorem cX9_image_165 {X : CT} {sh : Sh} {adr : Nat → Nat} {r : Nat → Nat → Option Nat} {m : Nat} {p : Int32 × HI} (hS : MS sh r m) (C : CX X yX9_image.cls cX9_image 4 1) (hZ : SZX X adr) (E : RX X (some .int) sh adr (fun v τ => v = some (.int p.1) ∧ τ = mk p.2 r)) {k : HI → Int32 → Option (Int32 × HI)} (hk : ∀ (h : HI) (v1 : Int32), k h v1 = some p → WW X (sh, adr, 0, 0) 212 [.ref m, .int v1, .retAddr 0, .retAddr 0] [] (mk h r)) : ∀ (n : Nat) (h : HI) (v1 : Int32) (v2 : Int32), fX9_image_165 m k n h v1 v2 = some p → WW X (sh, adr, 0, 0) 165 [.ref m, .int v1, .int v2, .retAddr 0] [] (mk h r) := by
  intro n
  induction n with
  | zero =>
    intro h v1 v2 H
    rw [fX9_image_165] at H
    cases H
  | succ n ih =>
    intro h v1 v2 H
    rw [fX9_image_165] at H
    refine ww_iload_n C dX9_image_165 2 rfl rfl ?_
    refine ww_iconst (v := (4 : Int32)) C dX9_image_166 (by decide) ?_
    refine ww_icmp_ge C dX9_image_167 212 rfl (fun hc => ?_) (fun hc => ?_)
    · rw [if_pos hc] at H
      exact ww_drop [.ref m, .int v1, .retAddr 0, .retAddr 0] (sl_e (sl_e (sl_d (sl_e sl_n)))) (hk h v1 H)
    · rw [if_neg hc] at H
      refine ww_aload_n C dX9_image_170 0 rfl rfl ?_
      refine wk_getR C dX9_image_171 fl_X9_164 hS.1 rfl (tX9_boxStates hS).1 ?_
      refine ww_bipush (v := (8 : Int32)) C dX9_image_174 (by decide) ?_
      refine ww_iload_n C dX9_image_176 1 rfl rfl ?_
      refine ww_imul C dX9_image_177 ?_
      refine ww_iload_n C dX9_image_178 2 rfl rfl ?_
      refine ww_iadd C dX9_image_179 ?_
      refine ww_aload_n C dX9_image_180 0 rfl rfl ?_
      refine wk_getR C dX9_image_181 fl_X9_106 hS.1 rfl (tX9_state hS).1 ?_
      refine ww_iload_n C dX9_image_184 2 rfl rfl ?_
      obtain ⟨hg, H⟩ := gd_of H
      refine wk_iaload C dX9_image_185 (tX9_state hS).2.1 (vp_of hg (tX9_state hS).2.2) (v2.toNatClampNeg) rfl ?_
      obtain ⟨hg, H⟩ := gd_of H
      refine wk_iastore C dX9_image_186 (tX9_boxStates hS).2.1 (vp_of hg (tX9_boxStates hS).2.2) ((((8 : Int32) * v1) + v2).toNatClampNeg) rfl ?_
      refine ww_aload_n C dX9_image_187 0 rfl rfl ?_
      refine wk_getR C dX9_image_188 fl_X9_164 hS.1 rfl (tX9_boxStates hS).1 ?_
      refine ww_bipush (v := (8 : Int32)) C dX9_image_191 (by decide) ?_
      refine ww_iload_n C dX9_image_193 1 rfl rfl ?_
      refine ww_imul C dX9_image_194 ?_
      refine ww_iconst (v := (4 : Int32)) C dX9_image_195 (by decide) ?_
      refine ww_iadd C dX9_image_196 ?_
      refine ww_iload_n C dX9_image_197 2 rfl rfl ?_
      refine ww_iadd C dX9_image_198 ?_
      refine ww_aload_n C dX9_image_199 0 rfl rfl ?_
      refine wk_getR C dX9_image_200 fl_X9_109 hS.1 rfl (tX9_dealState hS).1 ?_
      refine ww_iload_n C dX9_image_203 2 rfl rfl ?_
      obtain ⟨hg, H⟩ := gd_of H
      refine wk_iaload C dX9_image_204 (tX9_dealState hS).2.1 (vp_of hg (tX9_dealState hS).2.2) (v2.toNatClampNeg) rfl ?_
      refine ww_as (v := (h.1 (m + 32) (v2.toNatClampNeg))) (by rw [uI_n (by omega)]) ?_
      obtain ⟨hg, H⟩ := gd_of H
      refine wk_iastore C dX9_image_205 (tX9_boxStates hS).2.1 (vp_of hg (tX9_boxStates hS).2.2) (((((8 : Int32) * v1) + (4 : Int32)) + v2).toNatClampNeg) rfl ?_
      refine ww_iinc (v := (v2 + (1 : Int32))) C dX9_image_206 rfl rfl (by decide) rfl [.ref m, .int v1, .int (v2 + (1 : Int32)), .retAddr 0] rfl ?_
      refine ww_goto C dX9_image_209 165 rfl ?_
      exact ih (uI (uI h (m + 50) ((((8 : Int32) * v1) + v2).toNatClampNeg) (h.1 (m + 31) (v2.toNatClampNeg))) (m + 50) (((((8 : Int32) * v1) + (4 : Int32)) + v2).toNatClampNeg) (h.1 (m + 32) (v2.toNatClampNeg))) v1 (v2 + (1 : Int32)) H
def fX9_image_214 (m : Nat) (k : HI → Int32 → Option (Int32 × HI)) : Nat → HI → Int32 → Int32 → Option (Int32 × HI)
  | 0, _, _, _ => none
  | n + 1, h, v1, v2 => (if (600 : Int32) ≤ v2 then k h v1 else (if inB v2 600 then (if inB (((600 : Int32) * v1) + v2) 1800 then fX9_image_214 m k n (uI h (m + 51) ((((600 : Int32) * v1) + v2).toNatClampNeg) (h.1 (m + 35) (v2.toNatClampNeg))) v1 (v2 + (1 : Int32)) else none) else none))
set_option maxRecDepth 100000 in
set_option maxHeartbeats 4000000 in
theorem cX9_image_214 {X : CT} {sh : Sh} {adr : Nat → Nat} {r : Nat → Nat → Option Nat} {m : Nat} {p : Int32 × HI} (hS : MS sh r m) (C : CX X yX9_image.cls cX9_image 4 1) (hZ : SZX X adr) (E : RX X (some .int) sh adr (fun v τ => v = some (.int p.1) ∧ τ = mk p.2 r)) {k : HI → Int32 → Option (Int32 × HI)} (hk : ∀ (h : HI) (v1 : Int32), k h v1 = some p → WW X (sh, adr, 0, 0) 245 [.ref m, .int v1, .retAddr 0, .retAddr 0] [] (mk h r)) : ∀ (n : Nat) (h : HI) (v1 : Int32) (v2 : Int32), fX9_image_214 m k n h v1 v2 = some p → WW X (sh, adr, 0, 0) 214 [.ref m, .int v1, .int v2, .retAddr 0] [] (mk h r) := by
  intro n
  induction n with
  | zero =>
    intro h v1 v2 H
    rw [fX9_image_214] at H
    cases H
  | succ n ih =>
    intro h v1 v2 H
    rw [fX9_image_214] at H
    refine ww_iload_n C dX9_image_214 2 rfl rfl ?_
    refine ww_sipush (v := (600 : Int32)) C dX9_image_215 (by decide) ?_
    refine ww_icmp_ge C dX9_image_218 245 rfl (fun hc => ?_) (fun hc => ?_)
    · rw [if_pos hc] at H
      exact ww_drop [.ref m, .int v1, .retAddr 0, .retAddr 0] (sl_e (sl_e (sl_d (sl_e sl_n)))) (hk h v1 H)
    · rw [if_neg hc] at H
      refine ww_aload_n C dX9_image_221 0 rfl rfl ?_
      refine wk_getR C dX9_image_222 fl_X9_167 hS.1 rfl (tX9_boxKept hS).1 ?_
      refine ww_sipush (v := (600 : Int32)) C dX9_image_225 (by decide) ?_
      refine ww_iload_n C dX9_image_228 1 rfl rfl ?_
      refine ww_imul C dX9_image_229 ?_
      refine ww_iload_n C dX9_image_230 2 rfl rfl ?_
      refine ww_iadd C dX9_image_231 ?_
      refine ww_aload_n C dX9_image_232 0 rfl rfl ?_
      refine wk_getR C dX9_image_233 fl_X9_118 hS.1 rfl (tX9_kept hS).1 ?_
      refine ww_iload_n C dX9_image_236 2 rfl rfl ?_
      obtain ⟨hg, H⟩ := gd_of H
      refine wk_iaload C dX9_image_237 (tX9_kept hS).2.1 (vp_of hg (tX9_kept hS).2.2) (v2.toNatClampNeg) rfl ?_
      obtain ⟨hg, H⟩ := gd_of H
      refine wk_iastore C dX9_image_238 (tX9_boxKept hS).2.1 (vp_of hg (tX9_boxKept hS).2.2) ((((600 : Int32) * v1) + v2).toNatClampNeg) rfl ?_
      refine ww_iinc (v := (v2 + (1 : Int32))) C dX9_image_239 rfl rfl (by decide) rfl [.ref m, .int v1, .int (v2 + (1 : Int32)), .retAddr 0] rfl ?_
      refine ww_goto C dX9_image_242 214 rfl ?_
      exact ih (uI h (m + 51) ((((600 : Int32) * v1) + v2).toNatClampNeg) (h.1 (m + 35) (v2.toNatClampNeg))) v1 (v2 + (1 : Int32)) H
def fX9_image_247 (m : Nat) (k : HI → Int32 → Option (Int32 × HI)) : Nat → HI → Int32 → Int32 → Option (Int32 × HI)
  | 0, _, _, _ => none
  | n + 1, h, v1, v2 => (if (1206 : Int32) ≤ v2 then k h v1 else (if inB v2 1206 then (if inB (((1206 : Int32) * v1) + v2) 3618 then fX9_image_247 m k n (uI h (m + 52) ((((1206 : Int32) * v1) + v2).toNatClampNeg) (h.1 (m + 36) (v2.toNatClampNeg))) v1 (v2 + (1 : Int32)) else none) else none))
set_option maxRecDepth 100000 in
set_option maxHeartbeats 4000000 in
theorem cX9_image_247 {X : CT} {sh : Sh} {adr : Nat → Nat} {r : Nat → Nat → Option Nat} {m : Nat} {p : Int32 × HI} (hS : MS sh r m) (C : CX X yX9_image.cls cX9_image 4 1) (hZ : SZX X adr) (E : RX X (some .int) sh adr (fun v τ => v = some (.int p.1) ∧ τ = mk p.2 r)) {k : HI → Int32 → Option (Int32 × HI)} (hk : ∀ (h : HI) (v1 : Int32), k h v1 = some p → WW X (sh, adr, 0, 0) 278 [.ref m, .int v1, .retAddr 0, .retAddr 0] [] (mk h r)) : ∀ (n : Nat) (h : HI) (v1 : Int32) (v2 : Int32), fX9_image_247 m k n h v1 v2 = some p → WW X (sh, adr, 0, 0) 247 [.ref m, .int v1, .int v2, .retAddr 0] [] (mk h r) := by
  intro n
  induction n with
  | zero =>
    intro h v1 v2 H
    rw [fX9_image_247] at H
    cases H
  | succ n ih =>
    intro h v1 v2 H
    rw [fX9_image_247] at H
    refine ww_iload_n C dX9_image_247 2 rfl rfl ?_
    refine ww_sipush (v := (1206 : Int32)) C dX9_image_248 (by decide) ?_
    refine ww_icmp_ge C dX9_image_251 278 rfl (fun hc => ?_) (fun hc => ?_)
    · rw [if_pos hc] at H
      exact ww_drop [.ref m, .int v1, .retAddr 0, .retAddr 0] (sl_e (sl_e (sl_d (sl_e sl_n)))) (hk h v1 H)
    · rw [if_neg hc] at H
      refine ww_aload_n C dX9_image_254 0 rfl rfl ?_
      refine wk_getR C dX9_image_255 fl_X9_170 hS.1 rfl (tX9_boxSat hS).1 ?_
      refine ww_sipush (v := (1206 : Int32)) C dX9_image_258 (by decide) ?_
      refine ww_iload_n C dX9_image_261 1 rfl rfl ?_
      refine ww_imul C dX9_image_262 ?_
      refine ww_iload_n C dX9_image_263 2 rfl rfl ?_
      refine ww_iadd C dX9_image_264 ?_
      refine ww_aload_n C dX9_image_265 0 rfl rfl ?_
      refine wk_getR C dX9_image_266 fl_X9_121 hS.1 rfl (tX9_sat hS).1 ?_
      refine ww_iload_n C dX9_image_269 2 rfl rfl ?_
      obtain ⟨hg, H⟩ := gd_of H
      refine wk_iaload C dX9_image_270 (tX9_sat hS).2.1 (vp_of hg (tX9_sat hS).2.2) (v2.toNatClampNeg) rfl ?_
      obtain ⟨hg, H⟩ := gd_of H
      refine wk_iastore C dX9_image_271 (tX9_boxSat hS).2.1 (vp_of hg (tX9_boxSat hS).2.2) ((((1206 : Int32) * v1) + v2).toNatClampNeg) rfl ?_
      refine ww_iinc (v := (v2 + (1 : Int32))) C dX9_image_272 rfl rfl (by decide) rfl [.ref m, .int v1, .int (v2 + (1 : Int32)), .retAddr 0] rfl ?_
      refine ww_goto C dX9_image_275 247 rfl ?_
      exact ih (uI h (m + 52) ((((1206 : Int32) * v1) + v2).toNatClampNeg) (h.1 (m + 36) (v2.toNatClampNeg))) v1 (v2 + (1 : Int32)) H
def fX9_image (m : Nat) (h : HI) (a1 : Int32) : Option (Int32 × HI) := ((fX9_isBox h a1).bind fun p1 => (if p1.1 = 0 then some ((-1 : Int32), p1.2) else (if inB a1 3 then fX9_image_18 m (fun h3 v1 => fX9_image_95 m (fun h5 v1 => fX9_image_165 m (fun h7 v1 => fX9_image_214 m (fun h9 v1 => fX9_image_247 m (fun h11 v1 => (if inB ((3 : Int32) * v1) 9 then (if inB (((3 : Int32) * v1) + (1 : Int32)) 9 then (if inB (((3 : Int32) * v1) + (2 : Int32)) 9 then some ((h11.1 m 57), (uI (uI (uI h11 (m + 53) (((3 : Int32) * v1).toNatClampNeg) (h11.1 m 57)) (m + 53) ((((3 : Int32) * v1) + (1 : Int32)).toNatClampNeg) (h11.1 m 58)) (m + 53) ((((3 : Int32) * v1) + (2 : Int32)).toNatClampNeg) (h11.1 m 59))) else none) else none) else none)) FU h9 v1 (0 : Int32)) FU h7 v1 (0 : Int32)) FU h5 v1 (0 : Int32)) FU h3 v1 (0 : Int32)) FU (uI p1.2 (m + 47) (a1.toNatClampNeg) (1 : Int32)) a1 (0 : Int32) else none)))
set_option maxRecDepth 100000 in
set_option maxHeartbeats 4000000 in
theorem ccX9_image {l : Launch} {sh : Sh} {adr : Nat → Nat} {r : Nat → Nat → Option Nat} {m : Nat} (hS : MS sh r m) {h : HI} {a1 : Int32} {p : Int32 × HI} (H : fX9_image m h a1 = some p) : CC l yX9_image cX9_image 4 (some .int) 1 [.ref m, .int a1] sh adr (mk h r) (fun v τ => v = some (.int p.1) ∧ τ = mk p.2 r) := by
  refine CC.of (by decide) (Nat.le_of_ble_eq_true rfl) 2 [.ref m, .int a1, .retAddr 0, .retAddr 0] rfl (fun X _ C E hZ => ?_)
  rw [fX9_image] at H
  refine ww_iload_n C dX9_image_0 1 rfl rfl ?_
  obtain ⟨p1, hc1, H⟩ := bd_of H
  refine ww_callS C hZ dX9_image_1 sw_X9_587 (ccX9_isBox hc1) (by decide) rfl rfl (Nat.le_of_ble_eq_true rfl) ⟨Nat.zero_le _, Nat.zero_le _⟩ (fun v τ hp => ?_)
  obtain ⟨rfl, rfl⟩ := hp
  change WW X _ 4 [.ref m, .int a1, .retAddr 0, .retAddr 0] [.int p1.1] _
  refine ww_if_ne C dX9_image_4 9 rfl (fun hc => ?_) (fun hc => ?_)
  · rw [if_neg hc] at H
    refine ww_aload_n C dX9_image_9 0 rfl rfl ?_
    refine wk_getR C dX9_image_10 fl_X9_155 hS.1 rfl (tX9_hasBox hS).1 ?_
    refine ww_iload_n C dX9_image_13 1 rfl rfl ?_
    refine ww_iconst (v := (1 : Int32)) C dX9_image_14 (by decide) ?_
    obtain ⟨hg, H⟩ := gd_of H
    refine wk_zastore C dX9_image_15 (tX9_hasBox hS).2.1 (vp_of hg (tX9_hasBox hS).2.2) (a1.toNatClampNeg) rfl (1 : Int32) rfl ?_
    refine ww_iconst (v := (0 : Int32)) C dX9_image_16 (by decide) ?_
    refine ww_istore_n C dX9_image_17 2 rfl (by decide) rfl [.ref m, .int a1, .int (0 : Int32), .retAddr 0] rfl ?_
    refine cX9_image_18 hS C hZ E (fun h3 v1 H => ?_) FU (uI p1.2 (m + 47) (a1.toNatClampNeg) (1 : Int32)) a1 (0 : Int32) H
    refine ww_iconst (v := (0 : Int32)) C dX9_image_93 (by decide) ?_
    refine ww_istore_n C dX9_image_94 2 rfl (by decide) rfl [.ref m, .int v1, .int (0 : Int32), .retAddr 0] rfl ?_
    refine cX9_image_95 hS C hZ E (fun h5 v1 H => ?_) FU h3 v1 (0 : Int32) H
    refine ww_iconst (v := (0 : Int32)) C dX9_image_163 (by decide) ?_
    refine ww_istore_n C dX9_image_164 2 rfl (by decide) rfl [.ref m, .int v1, .int (0 : Int32), .retAddr 0] rfl ?_
    refine cX9_image_165 hS C hZ E (fun h7 v1 H => ?_) FU h5 v1 (0 : Int32) H
    refine ww_iconst (v := (0 : Int32)) C dX9_image_212 (by decide) ?_
    refine ww_istore_n C dX9_image_213 2 rfl (by decide) rfl [.ref m, .int v1, .int (0 : Int32), .retAddr 0] rfl ?_
    refine cX9_image_214 hS C hZ E (fun h9 v1 H => ?_) FU h7 v1 (0 : Int32) H
    refine ww_iconst (v := (0 : Int32)) C dX9_image_245 (by decide) ?_
    refine ww_istore_n C dX9_image_246 2 rfl (by decide) rfl [.ref m, .int v1, .int (0 : Int32), .retAddr 0] rfl ?_
    refine cX9_image_247 hS C hZ E (fun h11 v1 H => ?_) FU h9 v1 (0 : Int32) H
    refine ww_aload_n C dX9_image_278 0 rfl rfl ?_
    refine wk_getR C dX9_image_279 fl_X9_173 hS.1 rfl (tX9_boxNumbers hS).1 ?_
    refine ww_iconst (v := (3 : Int32)) C dX9_image_282 (by decide) ?_
    refine ww_iload_n C dX9_image_283 1 rfl rfl ?_
    refine ww_imul C dX9_image_284 ?_
    refine ww_aload_n C dX9_image_285 0 rfl rfl ?_
    refine wk_getI C dX9_image_286 fl_X9_424 hS.1 rfl ?_
    obtain ⟨hg, H⟩ := gd_of H
    refine wk_iastore C dX9_image_289 (tX9_boxNumbers hS).2.1 (vp_of hg (tX9_boxNumbers hS).2.2) (((3 : Int32) * v1).toNatClampNeg) rfl ?_
    refine ww_aload_n C dX9_image_290 0 rfl rfl ?_
    refine wk_getR C dX9_image_291 fl_X9_173 hS.1 rfl (tX9_boxNumbers hS).1 ?_
    refine ww_iconst (v := (3 : Int32)) C dX9_image_294 (by decide) ?_
    refine ww_iload_n C dX9_image_295 1 rfl rfl ?_
    refine ww_imul C dX9_image_296 ?_
    refine ww_iconst (v := (1 : Int32)) C dX9_image_297 (by decide) ?_
    refine ww_iadd C dX9_image_298 ?_
    refine ww_aload_n C dX9_image_299 0 rfl rfl ?_
    refine wk_getI C dX9_image_300 fl_X9_427 hS.1 rfl ?_
    refine ww_as (v := (h11.1 m 58)) (by rw [uI_n (by omega)]) ?_
    obtain ⟨hg, H⟩ := gd_of H
    refine wk_iastore C dX9_image_303 (tX9_boxNumbers hS).2.1 (vp_of hg (tX9_boxNumbers hS).2.2) ((((3 : Int32) * v1) + (1 : Int32)).toNatClampNeg) rfl ?_
    refine ww_aload_n C dX9_image_304 0 rfl rfl ?_
    refine wk_getR C dX9_image_305 fl_X9_173 hS.1 rfl (tX9_boxNumbers hS).1 ?_
    refine ww_iconst (v := (3 : Int32)) C dX9_image_308 (by decide) ?_
    refine ww_iload_n C dX9_image_309 1 rfl rfl ?_
    refine ww_imul C dX9_image_310 ?_
    refine ww_iconst (v := (2 : Int32)) C dX9_image_311 (by decide) ?_
    refine ww_iadd C dX9_image_312 ?_
    refine ww_aload_n C dX9_image_313 0 rfl rfl ?_
    refine wk_getI C dX9_image_314 fl_X9_430 hS.1 rfl ?_
    refine ww_as (v := (h11.1 m 59)) (by rw [uI_n (by omega), uI_n (by omega)]) ?_
    obtain ⟨hg, H⟩ := gd_of H
    refine wk_iastore C dX9_image_317 (tX9_boxNumbers hS).2.1 (vp_of hg (tX9_boxNumbers hS).2.2) ((((3 : Int32) * v1) + (2 : Int32)).toNatClampNeg) rfl ?_
    refine ww_aload_n C dX9_image_318 0 rfl rfl ?_
    refine wk_getI C dX9_image_319 fl_X9_424 hS.1 rfl ?_
    refine ww_as (v := (h11.1 m 57)) (by rw [uI_n (by omega), uI_n (by omega), uI_n (by omega)]) ?_
    cases H
    exact ww_iret C E dX9_image_322 ⟨rfl, rfl⟩
  · rw [if_pos hc] at H
    refine ww_iconst (v := (-1 : Int32)) C dX9_image_7 (by decide) ?_
    cases H
    exact ww_iret C E dX9_image_8 ⟨rfl, rfl⟩
def fX9_back_20 (m : Nat) (k : HI → Int32 → Option (Int32 × HI)) : Nat → HI → Int32 → Int32 → Option (Int32 × HI)
  | 0, _, _, _ => none
  | n + 1, h, v1, v2 => (if (6 : Int32) ≤ v2 then k h v1 else (if inB ((5 : Int32) * (((6 : Int32) * v1) + v2)) 90 then (if inB v2 6 then (if inB (((5 : Int32) * (((6 : Int32) * v1) + v2)) + (1 : Int32)) 90 then (if inB v2 6 then (if inB (((5 : Int32) * (((6 : Int32) * v1) + v2)) + (2 : Int32)) 90 then (if inB v2 6 then (if inB (((5 : Int32) * (((6 : Int32) * v1) + v2)) + (3 : Int32)) 90 then (if inB v2 6 then fX9_back_20 m k n (uI (uI (uI (uI h (m + 27) (v2.toNatClampNeg) (h.1 (m + 48) (((5 : Int32) * (((6 : Int32) * v1) + v2)).toNatClampNeg))) (m + 28) (v2.toNatClampNeg) (h.1 (m + 48) ((((5 : Int32) * (((6 : Int32) * v1) + v2)) + (1 : Int32)).toNatClampNeg))) (m + 29) (v2.toNatClampNeg) (h.1 (m + 48) ((((5 : Int32) * (((6 : Int32) * v1) + v2)) + (2 : Int32)).toNatClampNeg))) (m + 30) (v2.toNatClampNeg) (h.1 (m + 48) ((((5 : Int32) * (((6 : Int32) * v1) + v2)) + (3 : Int32)).toNatClampNeg))) v1 (v2 + (1 : Int32)) else none) else none) else none) else none) else none) else none) else none) else none))
set_option maxRecDepth 100000 in
set_option maxHeartbeats 4000000 in
theorem cX9_back_20 {X : CT} {sh : Sh} {adr : Nat → Nat} {r : Nat → Nat → Option Nat} {m : Nat} {p : Int32 × HI} (hS : MS sh r m) (C : CX X yX9_back.cls cX9_back 4 1) (hZ : SZX X adr) (E : RX X (some .int) sh adr (fun v τ => v = some (.int p.1) ∧ τ = mk p.2 r)) {k : HI → Int32 → Option (Int32 × HI)} (hk : ∀ (h : HI) (v1 : Int32), k h v1 = some p → WW X (sh, adr, 0, 0) 95 [.ref m, .int v1, .retAddr 0, .retAddr 0] [] (mk h r)) : ∀ (n : Nat) (h : HI) (v1 : Int32) (v2 : Int32), fX9_back_20 m k n h v1 v2 = some p → WW X (sh, adr, 0, 0) 20 [.ref m, .int v1, .int v2, .retAddr 0] [] (mk h r) := by
  intro n
  induction n with
  | zero =>
    intro h v1 v2 H
    rw [fX9_back_20] at H
    cases H
  | succ n ih =>
    intro h v1 v2 H
    rw [fX9_back_20] at H
    refine ww_iload_n C dX9_back_20 2 rfl rfl ?_
    refine ww_bipush (v := (6 : Int32)) C dX9_back_21 (by decide) ?_
    refine ww_icmp_ge C dX9_back_23 95 rfl (fun hc => ?_) (fun hc => ?_)
    · rw [if_pos hc] at H
      exact ww_drop [.ref m, .int v1, .retAddr 0, .retAddr 0] (sl_e (sl_e (sl_d (sl_e sl_n)))) (hk h v1 H)
    · rw [if_neg hc] at H
      refine ww_iconst (v := (5 : Int32)) C dX9_back_26 (by decide) ?_
      refine ww_bipush (v := (6 : Int32)) C dX9_back_27 (by decide) ?_
      refine ww_iload_n C dX9_back_29 1 rfl rfl ?_
      refine ww_imul C dX9_back_30 ?_
      refine ww_iload_n C dX9_back_31 2 rfl rfl ?_
      refine ww_iadd C dX9_back_32 ?_
      refine ww_imul C dX9_back_33 ?_
      refine ww_istore_n C dX9_back_34 3 rfl (by decide) rfl [.ref m, .int v1, .int v2, .int ((5 : Int32) * (((6 : Int32) * v1) + v2))] rfl ?_
      refine ww_aload_n C dX9_back_35 0 rfl rfl ?_
      refine wk_getR C dX9_back_36 fl_X9_94 hS.1 rfl (tX9_where hS).1 ?_
      refine ww_iload_n C dX9_back_39 2 rfl rfl ?_
      refine ww_aload_n C dX9_back_40 0 rfl rfl ?_
      refine wk_getR C dX9_back_41 fl_X9_158 hS.1 rfl (tX9_boxMen hS).1 ?_
      refine ww_iload_n C dX9_back_44 3 rfl rfl ?_
      obtain ⟨hg, H⟩ := gd_of H
      refine wk_iaload C dX9_back_45 (tX9_boxMen hS).2.1 (vp_of hg (tX9_boxMen hS).2.2) (((5 : Int32) * (((6 : Int32) * v1) + v2)).toNatClampNeg) rfl ?_
      obtain ⟨hg, H⟩ := gd_of H
      refine wk_iastore C dX9_back_46 (tX9_where hS).2.1 (vp_of hg (tX9_where hS).2.2) (v2.toNatClampNeg) rfl ?_
      refine ww_aload_n C dX9_back_47 0 rfl rfl ?_
      refine wk_getR C dX9_back_48 fl_X9_97 hS.1 rfl (tX9_tired hS).1 ?_
      refine ww_iload_n C dX9_back_51 2 rfl rfl ?_
      refine ww_aload_n C dX9_back_52 0 rfl rfl ?_
      refine wk_getR C dX9_back_53 fl_X9_158 hS.1 rfl (tX9_boxMen hS).1 ?_
      refine ww_iload_n C dX9_back_56 3 rfl rfl ?_
      refine ww_iconst (v := (1 : Int32)) C dX9_back_57 (by decide) ?_
      refine ww_iadd C dX9_back_58 ?_
      obtain ⟨hg, H⟩ := gd_of H
      refine wk_iaload C dX9_back_59 (tX9_boxMen hS).2.1 (vp_of hg (tX9_boxMen hS).2.2) ((((5 : Int32) * (((6 : Int32) * v1) + v2)) + (1 : Int32)).toNatClampNeg) rfl ?_
      refine ww_as (v := (h.1 (m + 48) ((((5 : Int32) * (((6 : Int32) * v1) + v2)) + (1 : Int32)).toNatClampNeg))) (by rw [uI_n (by omega)]) ?_
      obtain ⟨hg, H⟩ := gd_of H
      refine wk_iastore C dX9_back_60 (tX9_tired hS).2.1 (vp_of hg (tX9_tired hS).2.2) (v2.toNatClampNeg) rfl ?_
      refine ww_aload_n C dX9_back_61 0 rfl rfl ?_
      refine wk_getR C dX9_back_62 fl_X9_100 hS.1 rfl (tX9_satFor hS).1 ?_
      refine ww_iload_n C dX9_back_65 2 rfl rfl ?_
      refine ww_aload_n C dX9_back_66 0 rfl rfl ?_
      refine wk_getR C dX9_back_67 fl_X9_158 hS.1 rfl (tX9_boxMen hS).1 ?_
      refine ww_iload_n C dX9_back_70 3 rfl rfl ?_
      refine ww_iconst (v := (2 : Int32)) C dX9_back_71 (by decide) ?_
      refine ww_iadd C dX9_back_72 ?_
      obtain ⟨hg, H⟩ := gd_of H
      refine wk_iaload C dX9_back_73 (tX9_boxMen hS).2.1 (vp_of hg (tX9_boxMen hS).2.2) ((((5 : Int32) * (((6 : Int32) * v1) + v2)) + (2 : Int32)).toNatClampNeg) rfl ?_
      refine ww_as (v := (h.1 (m + 48) ((((5 : Int32) * (((6 : Int32) * v1) + v2)) + (2 : Int32)).toNatClampNeg))) (by rw [uI_n (by omega), uI_n (by omega)]) ?_
      obtain ⟨hg, H⟩ := gd_of H
      refine wk_iastore C dX9_back_74 (tX9_satFor hS).2.1 (vp_of hg (tX9_satFor hS).2.2) (v2.toNatClampNeg) rfl ?_
      refine ww_aload_n C dX9_back_75 0 rfl rfl ?_
      refine wk_getR C dX9_back_76 fl_X9_103 hS.1 rfl (tX9_spoke hS).1 ?_
      refine ww_iload_n C dX9_back_79 2 rfl rfl ?_
      refine ww_aload_n C dX9_back_80 0 rfl rfl ?_
      refine wk_getR C dX9_back_81 fl_X9_158 hS.1 rfl (tX9_boxMen hS).1 ?_
      refine ww_iload_n C dX9_back_84 3 rfl rfl ?_
      refine ww_iconst (v := (3 : Int32)) C dX9_back_85 (by decide) ?_
      refine ww_iadd C dX9_back_86 ?_
      obtain ⟨hg, H⟩ := gd_of H
      refine wk_iaload C dX9_back_87 (tX9_boxMen hS).2.1 (vp_of hg (tX9_boxMen hS).2.2) ((((5 : Int32) * (((6 : Int32) * v1) + v2)) + (3 : Int32)).toNatClampNeg) rfl ?_
      refine ww_as (v := (h.1 (m + 48) ((((5 : Int32) * (((6 : Int32) * v1) + v2)) + (3 : Int32)).toNatClampNeg))) (by rw [uI_n (by omega), uI_n (by omega), uI_n (by omega)]) ?_
      obtain ⟨hg, H⟩ := gd_of H
      refine wk_iastore C dX9_back_88 (tX9_spoke hS).2.1 (vp_of hg (tX9_spoke hS).2.2) (v2.toNatClampNeg) rfl ?_
      refine ww_iinc (v := (v2 + (1 : Int32))) C dX9_back_89 rfl rfl (by decide) rfl [.ref m, .int v1, .int (v2 + (1 : Int32)), .int ((5 : Int32) * (((6 : Int32) * v1) + v2))] rfl ?_
      refine ww_goto C dX9_back_92 20 rfl ?_
      exact ww_drop [.ref m, .int v1, .int (v2 + (1 : Int32)), .retAddr 0] (sl_e (sl_e (sl_e (sl_d sl_n)))) (ih (uI (uI (uI (uI h (m + 27) (v2.toNatClampNeg) (h.1 (m + 48) (((5 : Int32) * (((6 : Int32) * v1) + v2)).toNatClampNeg))) (m + 28) (v2.toNatClampNeg) (h.1 (m + 48) ((((5 : Int32) * (((6 : Int32) * v1) + v2)) + (1 : Int32)).toNatClampNeg))) (m + 29) (v2.toNatClampNeg) (h.1 (m + 48) ((((5 : Int32) * (((6 : Int32) * v1) + v2)) + (2 : Int32)).toNatClampNeg))) (m + 30) (v2.toNatClampNeg) (h.1 (m + 48) ((((5 : Int32) * (((6 : Int32) * v1) + v2)) + (3 : Int32)).toNatClampNeg))) v1 (v2 + (1 : Int32)) H)
def fX9_back_160 (m : Nat) (k : HI → Int32 → Option (Int32 × HI)) (kb : HI → Int32 → Int32 → Option (Int32 × HI)) (h : HI) (v1 : Int32) (v2 : Int32) (s0 : Int32) (s1 : Int32) : Option (Int32 × HI) := (if inB s1 6 then kb (uI h (m + 34) (s1.toNatClampNeg) (vp_nar .boolean s0)) v1 (v2 + (1 : Int32)) else none)
set_option maxRecDepth 100000 in
set_option maxHeartbeats 4000000 in
theorem cX9_back_160 {X : CT} {sh : Sh} {adr : Nat → Nat} {r : Nat → Nat → Option Nat} {m : Nat} {p : Int32 × HI} (hS : MS sh r m) (C : CX X yX9_back.cls cX9_back 4 1) (hZ : SZX X adr) (E : RX X (some .int) sh adr (fun v τ => v = some (.int p.1) ∧ τ = mk p.2 r)) {k : HI → Int32 → Option (Int32 × HI)} {kb : HI → Int32 → Int32 → Option (Int32 × HI)} (hk : ∀ (h : HI) (v1 : Int32), k h v1 = some p → WW X (sh, adr, 0, 0) 167 [.ref m, .int v1, .retAddr 0, .retAddr 0] [] (mk h r)) (hb : ∀ (h : HI) (v1 : Int32) (v2 : Int32), kb h v1 v2 = some p → WW X (sh, adr, 0, 0) 97 [.ref m, .int v1, .int v2, .retAddr 0] [] (mk h r)) {h : HI} {v1 : Int32} {v2 : Int32} {s0 : Int32} {s1 : Int32} (H : fX9_back_160 m k kb h v1 v2 s0 s1 = some p) : WW X (sh, adr, 0, 0) 160 [.ref m, .int v1, .int v2, .retAddr 0] [.int s0, .int s1, .ref (m + 34)] (mk h r) := by
  rw [fX9_back_160] at H
  obtain ⟨hg, H⟩ := gd_of H
  refine wk_zastore C dX9_back_160 (tX9_isFound hS).2.1 (vp_of hg (tX9_isFound hS).2.2) (s1.toNatClampNeg) rfl (vp_nar .boolean s0) rfl ?_
  refine ww_iinc (v := (v2 + (1 : Int32))) C dX9_back_161 rfl rfl (by decide) rfl [.ref m, .int v1, .int (v2 + (1 : Int32)), .retAddr 0] rfl ?_
  refine ww_goto C dX9_back_164 97 rfl ?_
  exact hb (uI h (m + 34) (s1.toNatClampNeg) (vp_nar .boolean s0)) v1 (v2 + (1 : Int32)) H
def fX9_back_130 (m : Nat) (k : HI → Int32 → Option (Int32 × HI)) (kb : HI → Int32 → Int32 → Option (Int32 × HI)) (h : HI) (v1 : Int32) (v2 : Int32) (s0 : Int32) (s1 : Int32) : Option (Int32 × HI) := (if inB s1 6 then (if inB (((2 : Int32) * (((6 : Int32) * v1) + v2)) + (1 : Int32)) 36 then (if (h.1 (m + 49) ((((2 : Int32) * (((6 : Int32) * v1) + v2)) + (1 : Int32)).toNatClampNeg)) = (1 : Int32) then fX9_back_160 m k kb (uI h (m + 33) (s1.toNatClampNeg) (vp_nar .boolean s0)) v1 v2 (1 : Int32) v2 else fX9_back_160 m k kb (uI h (m + 33) (s1.toNatClampNeg) (vp_nar .boolean s0)) v1 v2 (0 : Int32) v2) else none) else none)
set_option maxRecDepth 100000 in
set_option maxHeartbeats 4000000 in
theorem cX9_back_130 {X : CT} {sh : Sh} {adr : Nat → Nat} {r : Nat → Nat → Option Nat} {m : Nat} {p : Int32 × HI} (hS : MS sh r m) (C : CX X yX9_back.cls cX9_back 4 1) (hZ : SZX X adr) (E : RX X (some .int) sh adr (fun v τ => v = some (.int p.1) ∧ τ = mk p.2 r)) {k : HI → Int32 → Option (Int32 × HI)} {kb : HI → Int32 → Int32 → Option (Int32 × HI)} (hk : ∀ (h : HI) (v1 : Int32), k h v1 = some p → WW X (sh, adr, 0, 0) 167 [.ref m, .int v1, .retAddr 0, .retAddr 0] [] (mk h r)) (hb : ∀ (h : HI) (v1 : Int32) (v2 : Int32), kb h v1 v2 = some p → WW X (sh, adr, 0, 0) 97 [.ref m, .int v1, .int v2, .retAddr 0] [] (mk h r)) {h : HI} {v1 : Int32} {v2 : Int32} {s0 : Int32} {s1 : Int32} (H : fX9_back_130 m k kb h v1 v2 s0 s1 = some p) : WW X (sh, adr, 0, 0) 130 [.ref m, .int v1, .int v2, .retAddr 0] [.int s0, .int s1, .ref (m + 33)] (mk h r) := by
  rw [fX9_back_130] at H
  obtain ⟨hg, H⟩ := gd_of H
  refine wk_zastore C dX9_back_130 (tX9_isBroken hS).2.1 (vp_of hg (tX9_isBroken hS).2.2) (s1.toNatClampNeg) rfl (vp_nar .boolean s0) rfl ?_
  refine ww_aload_n C dX9_back_131 0 rfl rfl ?_
  refine wk_getR C dX9_back_132 fl_X9_115 hS.1 rfl (tX9_isFound hS).1 ?_
  refine ww_iload_n C dX9_back_135 2 rfl rfl ?_
  refine ww_aload_n C dX9_back_136 0 rfl rfl ?_
  refine wk_getR C dX9_back_137 fl_X9_161 hS.1 rfl (tX9_boxChairs hS).1 ?_
  refine ww_iconst (v := (2 : Int32)) C dX9_back_140 (by decide) ?_
  refine ww_bipush (v := (6 : Int32)) C dX9_back_141 (by decide) ?_
  refine ww_iload_n C dX9_back_143 1 rfl rfl ?_
  refine ww_imul C dX9_back_144 ?_
  refine ww_iload_n C dX9_back_145 2 rfl rfl ?_
  refine ww_iadd C dX9_back_146 ?_
  refine ww_imul C dX9_back_147 ?_
  refine ww_iconst (v := (1 : Int32)) C dX9_back_148 (by decide) ?_
  refine ww_iadd C dX9_back_149 ?_
  obtain ⟨hg, H⟩ := gd_of H
  refine wk_iaload C dX9_back_150 (tX9_boxChairs hS).2.1 (vp_of hg (tX9_boxChairs hS).2.2) ((((2 : Int32) * (((6 : Int32) * v1) + v2)) + (1 : Int32)).toNatClampNeg) rfl ?_
  refine ww_as (v := (h.1 (m + 49) ((((2 : Int32) * (((6 : Int32) * v1) + v2)) + (1 : Int32)).toNatClampNeg))) (by rw [uI_n (by omega)]) ?_
  refine ww_iconst (v := (1 : Int32)) C dX9_back_151 (by decide) ?_
  refine ww_icmp_ne C dX9_back_152 159 rfl (fun hc => ?_) (fun hc => ?_)
  · rw [if_neg hc] at H
    refine ww_iconst (v := (0 : Int32)) C dX9_back_159 (by decide) ?_
    exact cX9_back_160 hS C hZ E hk hb H
  · rw [if_pos hc] at H
    refine ww_iconst (v := (1 : Int32)) C dX9_back_155 (by decide) ?_
    refine ww_goto C dX9_back_156 160 rfl ?_
    exact cX9_back_160 hS C hZ E hk hb H
def fX9_back_97 (m : Nat) (k : HI → Int32 → Option (Int32 × HI)) : Nat → HI → Int32 → Int32 → Option (Int32 × HI)
  | 0, _, _, _ => none
  | n + 1, h, v1, v2 => (if (6 : Int32) ≤ v2 then k h v1 else (if inB ((2 : Int32) * (((6 : Int32) * v1) + v2)) 36 then (if (h.1 (m + 49) (((2 : Int32) * (((6 : Int32) * v1) + v2)).toNatClampNeg)) = (1 : Int32) then fX9_back_130 m (k) (fX9_back_97 m k n) h v1 v2 (1 : Int32) v2 else fX9_back_130 m (k) (fX9_back_97 m k n) h v1 v2 (0 : Int32) v2) else none))
set_option maxRecDepth 100000 in
set_option maxHeartbeats 4000000 in
theorem cX9_back_97 {X : CT} {sh : Sh} {adr : Nat → Nat} {r : Nat → Nat → Option Nat} {m : Nat} {p : Int32 × HI} (hS : MS sh r m) (C : CX X yX9_back.cls cX9_back 4 1) (hZ : SZX X adr) (E : RX X (some .int) sh adr (fun v τ => v = some (.int p.1) ∧ τ = mk p.2 r)) {k : HI → Int32 → Option (Int32 × HI)} (hk : ∀ (h : HI) (v1 : Int32), k h v1 = some p → WW X (sh, adr, 0, 0) 167 [.ref m, .int v1, .retAddr 0, .retAddr 0] [] (mk h r)) : ∀ (n : Nat) (h : HI) (v1 : Int32) (v2 : Int32), fX9_back_97 m k n h v1 v2 = some p → WW X (sh, adr, 0, 0) 97 [.ref m, .int v1, .int v2, .retAddr 0] [] (mk h r) := by
  intro n
  induction n with
  | zero =>
    intro h v1 v2 H
    rw [fX9_back_97] at H
    cases H
  | succ n ih =>
    intro h v1 v2 H
    rw [fX9_back_97] at H
    refine ww_iload_n C dX9_back_97 2 rfl rfl ?_
    refine ww_bipush (v := (6 : Int32)) C dX9_back_98 (by decide) ?_
    refine ww_icmp_ge C dX9_back_100 167 rfl (fun hc => ?_) (fun hc => ?_)
    · rw [if_pos hc] at H
      exact ww_drop [.ref m, .int v1, .retAddr 0, .retAddr 0] (sl_e (sl_e (sl_d (sl_e sl_n)))) (hk h v1 H)
    · rw [if_neg hc] at H
      refine ww_aload_n C dX9_back_103 0 rfl rfl ?_
      refine wk_getR C dX9_back_104 fl_X9_112 hS.1 rfl (tX9_isBroken hS).1 ?_
      refine ww_iload_n C dX9_back_107 2 rfl rfl ?_
      refine ww_aload_n C dX9_back_108 0 rfl rfl ?_
      refine wk_getR C dX9_back_109 fl_X9_161 hS.1 rfl (tX9_boxChairs hS).1 ?_
      refine ww_iconst (v := (2 : Int32)) C dX9_back_112 (by decide) ?_
      refine ww_bipush (v := (6 : Int32)) C dX9_back_113 (by decide) ?_
      refine ww_iload_n C dX9_back_115 1 rfl rfl ?_
      refine ww_imul C dX9_back_116 ?_
      refine ww_iload_n C dX9_back_117 2 rfl rfl ?_
      refine ww_iadd C dX9_back_118 ?_
      refine ww_imul C dX9_back_119 ?_
      obtain ⟨hg, H⟩ := gd_of H
      refine wk_iaload C dX9_back_120 (tX9_boxChairs hS).2.1 (vp_of hg (tX9_boxChairs hS).2.2) (((2 : Int32) * (((6 : Int32) * v1) + v2)).toNatClampNeg) rfl ?_
      refine ww_iconst (v := (1 : Int32)) C dX9_back_121 (by decide) ?_
      refine ww_icmp_ne C dX9_back_122 129 rfl (fun hc => ?_) (fun hc => ?_)
      · rw [if_neg hc] at H
        refine ww_iconst (v := (0 : Int32)) C dX9_back_129 (by decide) ?_
        exact cX9_back_130 hS C hZ E hk ih H
      · rw [if_pos hc] at H
        refine ww_iconst (v := (1 : Int32)) C dX9_back_125 (by decide) ?_
        refine ww_goto C dX9_back_126 130 rfl ?_
        exact cX9_back_130 hS C hZ E hk ih H
def fX9_back_169 (m : Nat) (k : HI → Int32 → Option (Int32 × HI)) : Nat → HI → Int32 → Int32 → Option (Int32 × HI)
  | 0, _, _, _ => none
  | n + 1, h, v1, v2 => (if (4 : Int32) ≤ v2 then k h v1 else (if inB (((8 : Int32) * v1) + v2) 24 then (if inB v2 4 then (if inB ((((8 : Int32) * v1) + (4 : Int32)) + v2) 24 then (if inB v2 4 then fX9_back_169 m k n (uI (uI h (m + 31) (v2.toNatClampNeg) (h.1 (m + 50) ((((8 : Int32) * v1) + v2).toNatClampNeg))) (m + 32) (v2.toNatClampNeg) (h.1 (m + 50) (((((8 : Int32) * v1) + (4 : Int32)) + v2).toNatClampNeg))) v1 (v2 + (1 : Int32)) else none) else none) else none) else none))
set_option maxRecDepth 100000 in
set_option maxHeartbeats 4000000 in
theorem cX9_back_169 {X : CT} {sh : Sh} {adr : Nat → Nat} {r : Nat → Nat → Option Nat} {m : Nat} {p : Int32 × HI} (hS : MS sh r m) (C : CX X yX9_back.cls cX9_back 4 1) (hZ : SZX X adr) (E : RX X (some .int) sh adr (fun v τ => v = some (.int p.1) ∧ τ = mk p.2 r)) {k : HI → Int32 → Option (Int32 × HI)} (hk : ∀ (h : HI) (v1 : Int32), k h v1 = some p → WW X (sh, adr, 0, 0) 216 [.ref m, .int v1, .retAddr 0, .retAddr 0] [] (mk h r)) : ∀ (n : Nat) (h : HI) (v1 : Int32) (v2 : Int32), fX9_back_169 m k n h v1 v2 = some p → WW X (sh, adr, 0, 0) 169 [.ref m, .int v1, .int v2, .retAddr 0] [] (mk h r) := by
  intro n
  induction n with
  | zero =>
    intro h v1 v2 H
    rw [fX9_back_169] at H
    cases H
  | succ n ih =>
    intro h v1 v2 H
    rw [fX9_back_169] at H
    refine ww_iload_n C dX9_back_169 2 rfl rfl ?_
    refine ww_iconst (v := (4 : Int32)) C dX9_back_170 (by decide) ?_
    refine ww_icmp_ge C dX9_back_171 216 rfl (fun hc => ?_) (fun hc => ?_)
    · rw [if_pos hc] at H
      exact ww_drop [.ref m, .int v1, .retAddr 0, .retAddr 0] (sl_e (sl_e (sl_d (sl_e sl_n)))) (hk h v1 H)
    · rw [if_neg hc] at H
      refine ww_aload_n C dX9_back_174 0 rfl rfl ?_
      refine wk_getR C dX9_back_175 fl_X9_106 hS.1 rfl (tX9_state hS).1 ?_
      refine ww_iload_n C dX9_back_178 2 rfl rfl ?_
      refine ww_aload_n C dX9_back_179 0 rfl rfl ?_
      refine wk_getR C dX9_back_180 fl_X9_164 hS.1 rfl (tX9_boxStates hS).1 ?_
      refine ww_bipush (v := (8 : Int32)) C dX9_back_183 (by decide) ?_
      refine ww_iload_n C dX9_back_185 1 rfl rfl ?_
      refine ww_imul C dX9_back_186 ?_
      refine ww_iload_n C dX9_back_187 2 rfl rfl ?_
      refine ww_iadd C dX9_back_188 ?_
      obtain ⟨hg, H⟩ := gd_of H
      refine wk_iaload C dX9_back_189 (tX9_boxStates hS).2.1 (vp_of hg (tX9_boxStates hS).2.2) ((((8 : Int32) * v1) + v2).toNatClampNeg) rfl ?_
      obtain ⟨hg, H⟩ := gd_of H
      refine wk_iastore C dX9_back_190 (tX9_state hS).2.1 (vp_of hg (tX9_state hS).2.2) (v2.toNatClampNeg) rfl ?_
      refine ww_aload_n C dX9_back_191 0 rfl rfl ?_
      refine wk_getR C dX9_back_192 fl_X9_109 hS.1 rfl (tX9_dealState hS).1 ?_
      refine ww_iload_n C dX9_back_195 2 rfl rfl ?_
      refine ww_aload_n C dX9_back_196 0 rfl rfl ?_
      refine wk_getR C dX9_back_197 fl_X9_164 hS.1 rfl (tX9_boxStates hS).1 ?_
      refine ww_bipush (v := (8 : Int32)) C dX9_back_200 (by decide) ?_
      refine ww_iload_n C dX9_back_202 1 rfl rfl ?_
      refine ww_imul C dX9_back_203 ?_
      refine ww_iconst (v := (4 : Int32)) C dX9_back_204 (by decide) ?_
      refine ww_iadd C dX9_back_205 ?_
      refine ww_iload_n C dX9_back_206 2 rfl rfl ?_
      refine ww_iadd C dX9_back_207 ?_
      obtain ⟨hg, H⟩ := gd_of H
      refine wk_iaload C dX9_back_208 (tX9_boxStates hS).2.1 (vp_of hg (tX9_boxStates hS).2.2) (((((8 : Int32) * v1) + (4 : Int32)) + v2).toNatClampNeg) rfl ?_
      refine ww_as (v := (h.1 (m + 50) (((((8 : Int32) * v1) + (4 : Int32)) + v2).toNatClampNeg))) (by rw [uI_n (by omega)]) ?_
      obtain ⟨hg, H⟩ := gd_of H
      refine wk_iastore C dX9_back_209 (tX9_dealState hS).2.1 (vp_of hg (tX9_dealState hS).2.2) (v2.toNatClampNeg) rfl ?_
      refine ww_iinc (v := (v2 + (1 : Int32))) C dX9_back_210 rfl rfl (by decide) rfl [.ref m, .int v1, .int (v2 + (1 : Int32)), .retAddr 0] rfl ?_
      refine ww_goto C dX9_back_213 169 rfl ?_
      exact ih (uI (uI h (m + 31) (v2.toNatClampNeg) (h.1 (m + 50) ((((8 : Int32) * v1) + v2).toNatClampNeg))) (m + 32) (v2.toNatClampNeg) (h.1 (m + 50) (((((8 : Int32) * v1) + (4 : Int32)) + v2).toNatClampNeg))) v1 (v2 + (1 : Int32)) H
def fX9_back_218 (m : Nat) (k : HI → Int32 → Option (Int32 × HI)) : Nat → HI → Int32 → Int32 → Option (Int32 × HI)
  | 0, _, _, _ => none
  | n + 1, h, v1, v2 => (if (600 : Int32) ≤ v2 then k h v1 else (if inB (((600 : Int32) * v1) + v2) 1800 then (if inB v2 600 then fX9_back_218 m k n (uI h (m + 35) (v2.toNatClampNeg) (h.1 (m + 51) ((((600 : Int32) * v1) + v2).toNatClampNeg))) v1 (v2 + (1 : Int32)) else none) else none))
set_option maxRecDepth 100000 in
set_option maxHeartbeats 4000000 in
theorem cX9_back_218 {X : CT} {sh : Sh} {adr : Nat → Nat} {r : Nat → Nat → Option Nat} {m : Nat} {p : Int32 × HI} (hS : MS sh r m) (C : CX X yX9_back.cls cX9_back 4 1) (hZ : SZX X adr) (E : RX X (some .int) sh adr (fun v τ => v = some (.int p.1) ∧ τ = mk p.2 r)) {k : HI → Int32 → Option (Int32 × HI)} (hk : ∀ (h : HI) (v1 : Int32), k h v1 = some p → WW X (sh, adr, 0, 0) 249 [.ref m, .int v1, .retAddr 0, .retAddr 0] [] (mk h r)) : ∀ (n : Nat) (h : HI) (v1 : Int32) (v2 : Int32), fX9_back_218 m k n h v1 v2 = some p → WW X (sh, adr, 0, 0) 218 [.ref m, .int v1, .int v2, .retAddr 0] [] (mk h r) := by
  intro n
  induction n with
  | zero =>
    intro h v1 v2 H
    rw [fX9_back_218] at H
    cases H
  | succ n ih =>
    intro h v1 v2 H
    rw [fX9_back_218] at H
    refine ww_iload_n C dX9_back_218 2 rfl rfl ?_
    refine ww_sipush (v := (600 : Int32)) C dX9_back_219 (by decide) ?_
    refine ww_icmp_ge C dX9_back_222 249 rfl (fun hc => ?_) (fun hc => ?_)
    · rw [if_pos hc] at H
      exact ww_drop [.ref m, .int v1, .retAddr 0, .retAddr 0] (sl_e (sl_e (sl_d (sl_e sl_n)))) (hk h v1 H)
    · rw [if_neg hc] at H
      refine ww_aload_n C dX9_back_225 0 rfl rfl ?_
      refine wk_getR C dX9_back_226 fl_X9_118 hS.1 rfl (tX9_kept hS).1 ?_
      refine ww_iload_n C dX9_back_229 2 rfl rfl ?_
      refine ww_aload_n C dX9_back_230 0 rfl rfl ?_
      refine wk_getR C dX9_back_231 fl_X9_167 hS.1 rfl (tX9_boxKept hS).1 ?_
      refine ww_sipush (v := (600 : Int32)) C dX9_back_234 (by decide) ?_
      refine ww_iload_n C dX9_back_237 1 rfl rfl ?_
      refine ww_imul C dX9_back_238 ?_
      refine ww_iload_n C dX9_back_239 2 rfl rfl ?_
      refine ww_iadd C dX9_back_240 ?_
      obtain ⟨hg, H⟩ := gd_of H
      refine wk_iaload C dX9_back_241 (tX9_boxKept hS).2.1 (vp_of hg (tX9_boxKept hS).2.2) ((((600 : Int32) * v1) + v2).toNatClampNeg) rfl ?_
      obtain ⟨hg, H⟩ := gd_of H
      refine wk_iastore C dX9_back_242 (tX9_kept hS).2.1 (vp_of hg (tX9_kept hS).2.2) (v2.toNatClampNeg) rfl ?_
      refine ww_iinc (v := (v2 + (1 : Int32))) C dX9_back_243 rfl rfl (by decide) rfl [.ref m, .int v1, .int (v2 + (1 : Int32)), .retAddr 0] rfl ?_
      refine ww_goto C dX9_back_246 218 rfl ?_
      exact ih (uI h (m + 35) (v2.toNatClampNeg) (h.1 (m + 51) ((((600 : Int32) * v1) + v2).toNatClampNeg))) v1 (v2 + (1 : Int32)) H
def fX9_back_251 (m : Nat) (k : HI → Int32 → Option (Int32 × HI)) : Nat → HI → Int32 → Int32 → Option (Int32 × HI)
  | 0, _, _, _ => none
  | n + 1, h, v1, v2 => (if (1206 : Int32) ≤ v2 then k h v1 else (if inB (((1206 : Int32) * v1) + v2) 3618 then (if inB v2 1206 then fX9_back_251 m k n (uI h (m + 36) (v2.toNatClampNeg) (h.1 (m + 52) ((((1206 : Int32) * v1) + v2).toNatClampNeg))) v1 (v2 + (1 : Int32)) else none) else none))
set_option maxRecDepth 100000 in
set_option maxHeartbeats 4000000 in
theorem cX9_back_251 {X : CT} {sh : Sh} {adr : Nat → Nat} {r : Nat → Nat → Option Nat} {m : Nat} {p : Int32 × HI} (hS : MS sh r m) (C : CX X yX9_back.cls cX9_back 4 1) (hZ : SZX X adr) (E : RX X (some .int) sh adr (fun v τ => v = some (.int p.1) ∧ τ = mk p.2 r)) {k : HI → Int32 → Option (Int32 × HI)} (hk : ∀ (h : HI) (v1 : Int32), k h v1 = some p → WW X (sh, adr, 0, 0) 282 [.ref m, .int v1, .retAddr 0, .retAddr 0] [] (mk h r)) : ∀ (n : Nat) (h : HI) (v1 : Int32) (v2 : Int32), fX9_back_251 m k n h v1 v2 = some p → WW X (sh, adr, 0, 0) 251 [.ref m, .int v1, .int v2, .retAddr 0] [] (mk h r) := by
  intro n
  induction n with
  | zero =>
    intro h v1 v2 H
    rw [fX9_back_251] at H
    cases H
  | succ n ih =>
    intro h v1 v2 H
    rw [fX9_back_251] at H
    refine ww_iload_n C dX9_back_251 2 rfl rfl ?_
    refine ww_sipush (v := (1206 : Int32)) C dX9_back_252 (by decide) ?_
    refine ww_icmp_ge C dX9_back_255 282 rfl (fun hc => ?_) (fun hc => ?_)
    · rw [if_pos hc] at H
      exact ww_drop [.ref m, .int v1, .retAddr 0, .retAddr 0] (sl_e (sl_e (sl_d (sl_e sl_n)))) (hk h v1 H)
    · rw [if_neg hc] at H
      refine ww_aload_n C dX9_back_258 0 rfl rfl ?_
      refine wk_getR C dX9_back_259 fl_X9_121 hS.1 rfl (tX9_sat hS).1 ?_
      refine ww_iload_n C dX9_back_262 2 rfl rfl ?_
      refine ww_aload_n C dX9_back_263 0 rfl rfl ?_
      refine wk_getR C dX9_back_264 fl_X9_170 hS.1 rfl (tX9_boxSat hS).1 ?_
      refine ww_sipush (v := (1206 : Int32)) C dX9_back_267 (by decide) ?_
      refine ww_iload_n C dX9_back_270 1 rfl rfl ?_
      refine ww_imul C dX9_back_271 ?_
      refine ww_iload_n C dX9_back_272 2 rfl rfl ?_
      refine ww_iadd C dX9_back_273 ?_
      obtain ⟨hg, H⟩ := gd_of H
      refine wk_iaload C dX9_back_274 (tX9_boxSat hS).2.1 (vp_of hg (tX9_boxSat hS).2.2) ((((1206 : Int32) * v1) + v2).toNatClampNeg) rfl ?_
      obtain ⟨hg, H⟩ := gd_of H
      refine wk_iastore C dX9_back_275 (tX9_sat hS).2.1 (vp_of hg (tX9_sat hS).2.2) (v2.toNatClampNeg) rfl ?_
      refine ww_iinc (v := (v2 + (1 : Int32))) C dX9_back_276 rfl rfl (by decide) rfl [.ref m, .int v1, .int (v2 + (1 : Int32)), .retAddr 0] rfl ?_
      refine ww_goto C dX9_back_279 251 rfl ?_
      exact ih (uI h (m + 36) (v2.toNatClampNeg) (h.1 (m + 52) ((((1206 : Int32) * v1) + v2).toNatClampNeg))) v1 (v2 + (1 : Int32)) H
def fX9_back (m : Nat) (h : HI) (a1 : Int32) : Option (Int32 × HI) := ((fX9_isBox h a1).bind fun p1 => (if p1.1 = 0 then some ((-1 : Int32), p1.2) else (if inB a1 3 then (if (p1.2.1 (m + 47) (a1.toNatClampNeg)) = 0 then some ((-1 : Int32), p1.2) else fX9_back_20 m (fun h3 v1 => fX9_back_97 m (fun h5 v1 => fX9_back_169 m (fun h7 v1 => fX9_back_218 m (fun h9 v1 => fX9_back_251 m (fun h11 v1 => (if inB ((3 : Int32) * v1) 9 then (if inB (((3 : Int32) * v1) + (1 : Int32)) 9 then (if inB (((3 : Int32) * v1) + (2 : Int32)) 9 then some ((h11.1 (m + 53) (((3 : Int32) * v1).toNatClampNeg)), (uI (uI (uI h11 m 57 (h11.1 (m + 53) (((3 : Int32) * v1).toNatClampNeg))) m 58 (h11.1 (m + 53) ((((3 : Int32) * v1) + (1 : Int32)).toNatClampNeg))) m 59 (h11.1 (m + 53) ((((3 : Int32) * v1) + (2 : Int32)).toNatClampNeg)))) else none) else none) else none)) FU h9 v1 (0 : Int32)) FU h7 v1 (0 : Int32)) FU h5 v1 (0 : Int32)) FU h3 v1 (0 : Int32)) FU p1.2 a1 (0 : Int32)) else none)))
set_option maxRecDepth 100000 in
set_option maxHeartbeats 4000000 in
theorem ccX9_back {l : Launch} {sh : Sh} {adr : Nat → Nat} {r : Nat → Nat → Option Nat} {m : Nat} (hS : MS sh r m) {h : HI} {a1 : Int32} {p : Int32 × HI} (H : fX9_back m h a1 = some p) : CC l yX9_back cX9_back 4 (some .int) 1 [.ref m, .int a1] sh adr (mk h r) (fun v τ => v = some (.int p.1) ∧ τ = mk p.2 r) := by
  refine CC.of (by decide) (Nat.le_of_ble_eq_true rfl) 2 [.ref m, .int a1, .retAddr 0, .retAddr 0] rfl (fun X _ C E hZ => ?_)
  rw [fX9_back] at H
  refine ww_iload_n C dX9_back_0 1 rfl rfl ?_
  obtain ⟨p1, hc1, H⟩ := bd_of H
  refine ww_callS C hZ dX9_back_1 sw_X9_587 (ccX9_isBox hc1) (by decide) rfl rfl (Nat.le_of_ble_eq_true rfl) ⟨Nat.zero_le _, Nat.zero_le _⟩ (fun v τ hp => ?_)
  obtain ⟨rfl, rfl⟩ := hp
  change WW X _ 4 [.ref m, .int a1, .retAddr 0, .retAddr 0] [.int p1.1] _
  refine ww_if_eq C dX9_back_4 16 rfl (fun hc => ?_) (fun hc => ?_)
  · rw [if_pos hc] at H
    refine ww_iconst (v := (-1 : Int32)) C dX9_back_16 (by decide) ?_
    cases H
    exact ww_iret C E dX9_back_17 ⟨rfl, rfl⟩
  · rw [if_neg hc] at H
    refine ww_aload_n C dX9_back_7 0 rfl rfl ?_
    refine wk_getR C dX9_back_8 fl_X9_155 hS.1 rfl (tX9_hasBox hS).1 ?_
    refine ww_iload_n C dX9_back_11 1 rfl rfl ?_
    obtain ⟨hg, H⟩ := gd_of H
    refine wk_zaload C dX9_back_12 (tX9_hasBox hS).2.1 (vp_of hg (tX9_hasBox hS).2.2) (a1.toNatClampNeg) rfl ?_
    refine ww_if_ne C dX9_back_13 18 rfl (fun hc => ?_) (fun hc => ?_)
    · rw [if_neg hc] at H
      refine ww_iconst (v := (0 : Int32)) C dX9_back_18 (by decide) ?_
      refine ww_istore_n C dX9_back_19 2 rfl (by decide) rfl [.ref m, .int a1, .int (0 : Int32), .retAddr 0] rfl ?_
      refine cX9_back_20 hS C hZ E (fun h3 v1 H => ?_) FU p1.2 a1 (0 : Int32) H
      refine ww_iconst (v := (0 : Int32)) C dX9_back_95 (by decide) ?_
      refine ww_istore_n C dX9_back_96 2 rfl (by decide) rfl [.ref m, .int v1, .int (0 : Int32), .retAddr 0] rfl ?_
      refine cX9_back_97 hS C hZ E (fun h5 v1 H => ?_) FU h3 v1 (0 : Int32) H
      refine ww_iconst (v := (0 : Int32)) C dX9_back_167 (by decide) ?_
      refine ww_istore_n C dX9_back_168 2 rfl (by decide) rfl [.ref m, .int v1, .int (0 : Int32), .retAddr 0] rfl ?_
      refine cX9_back_169 hS C hZ E (fun h7 v1 H => ?_) FU h5 v1 (0 : Int32) H
      refine ww_iconst (v := (0 : Int32)) C dX9_back_216 (by decide) ?_
      refine ww_istore_n C dX9_back_217 2 rfl (by decide) rfl [.ref m, .int v1, .int (0 : Int32), .retAddr 0] rfl ?_
      refine cX9_back_218 hS C hZ E (fun h9 v1 H => ?_) FU h7 v1 (0 : Int32) H
      refine ww_iconst (v := (0 : Int32)) C dX9_back_249 (by decide) ?_
      refine ww_istore_n C dX9_back_250 2 rfl (by decide) rfl [.ref m, .int v1, .int (0 : Int32), .retAddr 0] rfl ?_
      refine cX9_back_251 hS C hZ E (fun h11 v1 H => ?_) FU h9 v1 (0 : Int32) H
      refine ww_aload_n C dX9_back_282 0 rfl rfl ?_
      refine ww_aload_n C dX9_back_283 0 rfl rfl ?_
      refine wk_getR C dX9_back_284 fl_X9_173 hS.1 rfl (tX9_boxNumbers hS).1 ?_
      refine ww_iconst (v := (3 : Int32)) C dX9_back_287 (by decide) ?_
      refine ww_iload_n C dX9_back_288 1 rfl rfl ?_
      refine ww_imul C dX9_back_289 ?_
      obtain ⟨hg, H⟩ := gd_of H
      refine wk_iaload C dX9_back_290 (tX9_boxNumbers hS).2.1 (vp_of hg (tX9_boxNumbers hS).2.2) (((3 : Int32) * v1).toNatClampNeg) rfl ?_
      refine wk_putI C dX9_back_291 fl_X9_424 hS.1 rfl rfl ?_
      refine ww_aload_n C dX9_back_294 0 rfl rfl ?_
      refine ww_aload_n C dX9_back_295 0 rfl rfl ?_
      refine wk_getR C dX9_back_296 fl_X9_173 hS.1 rfl (tX9_boxNumbers hS).1 ?_
      refine ww_iconst (v := (3 : Int32)) C dX9_back_299 (by decide) ?_
      refine ww_iload_n C dX9_back_300 1 rfl rfl ?_
      refine ww_imul C dX9_back_301 ?_
      refine ww_iconst (v := (1 : Int32)) C dX9_back_302 (by decide) ?_
      refine ww_iadd C dX9_back_303 ?_
      obtain ⟨hg, H⟩ := gd_of H
      refine wk_iaload C dX9_back_304 (tX9_boxNumbers hS).2.1 (vp_of hg (tX9_boxNumbers hS).2.2) ((((3 : Int32) * v1) + (1 : Int32)).toNatClampNeg) rfl ?_
      refine ww_as (v := (h11.1 (m + 53) ((((3 : Int32) * v1) + (1 : Int32)).toNatClampNeg))) (by rw [uI_n (by omega)]) ?_
      refine wk_putI C dX9_back_305 fl_X9_427 hS.1 rfl rfl ?_
      refine ww_aload_n C dX9_back_308 0 rfl rfl ?_
      refine ww_aload_n C dX9_back_309 0 rfl rfl ?_
      refine wk_getR C dX9_back_310 fl_X9_173 hS.1 rfl (tX9_boxNumbers hS).1 ?_
      refine ww_iconst (v := (3 : Int32)) C dX9_back_313 (by decide) ?_
      refine ww_iload_n C dX9_back_314 1 rfl rfl ?_
      refine ww_imul C dX9_back_315 ?_
      refine ww_iconst (v := (2 : Int32)) C dX9_back_316 (by decide) ?_
      refine ww_iadd C dX9_back_317 ?_
      obtain ⟨hg, H⟩ := gd_of H
      refine wk_iaload C dX9_back_318 (tX9_boxNumbers hS).2.1 (vp_of hg (tX9_boxNumbers hS).2.2) ((((3 : Int32) * v1) + (2 : Int32)).toNatClampNeg) rfl ?_
      refine ww_as (v := (h11.1 (m + 53) ((((3 : Int32) * v1) + (2 : Int32)).toNatClampNeg))) (by rw [uI_n (by omega), uI_n (by omega)]) ?_
      refine wk_putI C dX9_back_319 fl_X9_430 hS.1 rfl rfl ?_
      refine ww_aload_n C dX9_back_322 0 rfl rfl ?_
      refine wk_getI C dX9_back_323 fl_X9_424 hS.1 rfl ?_
      refine ww_as (v := (h11.1 (m + 53) (((3 : Int32) * v1).toNatClampNeg))) (by rw [uI_n (by omega), uI_n (by omega), uI_s]) ?_
      cases H
      exact ww_iret C E dX9_back_326 ⟨rfl, rfl⟩
    · rw [if_pos hc] at H
      refine ww_iconst (v := (-1 : Int32)) C dX9_back_16 (by decide) ?_
      cases H
      exact ww_iret C E dX9_back_17 ⟨rfl, rfl⟩
def fX9_about (m : Nat) (h : HI) (a1 : Int32) : Option (Int32 × HI) := (if a1 = (0 : Int32) then some ((h.1 (m + 11) 0), h) else (if a1 = (1 : Int32) then ((fX9_men m h).bind fun p1 => some (p1.1, p1.2)) else (if a1 = (2 : Int32) then some ((h.1 (m + 11) 2), h) else (if a1 = (3 : Int32) then some ((h.1 m 44), h) else (if a1 = (4 : Int32) then some ((h.1 m 45), h) else (if a1 = (5 : Int32) then some ((h.1 m 57), h) else (if a1 = (6 : Int32) then some ((h.1 m 58), h) else (if a1 = (7 : Int32) then some ((h.1 m 79), h) else (if a1 = (8 : Int32) then some ((h.1 m 80), h) else (if a1 = (9 : Int32) then some ((h.1 m 1), h) else (if a1 = (10 : Int32) then some ((h.1 m 20), h) else (if a1 = (11 : Int32) then ((fX9_seats m h).bind fun p2 => some (p2.1, p2.2)) else (if a1 = (12 : Int32) then some ((h.1 m 59), h) else some ((-1 : Int32), h))))))))))))))
set_option maxRecDepth 100000 in
set_option maxHeartbeats 4000000 in
theorem ccX9_about {l : Launch} {sh : Sh} {adr : Nat → Nat} {r : Nat → Nat → Option Nat} {m : Nat} (hS : MS sh r m) {h : HI} {a1 : Int32} {p : Int32 × HI} (H : fX9_about m h a1 = some p) : CC l yX9_about cX9_about 2 (some .int) 1 [.ref m, .int a1] sh adr (mk h r) (fun v τ => v = some (.int p.1) ∧ τ = mk p.2 r) := by
  refine CC.of (by decide) (Nat.le_of_ble_eq_true rfl) 0 [.ref m, .int a1] rfl (fun X _ C E hZ => ?_)
  rw [fX9_about] at H
  refine ww_iload_n C dX9_about_0 1 rfl rfl ?_
  by_cases hc0 : a1 = (0 : Int32)
  · rw [if_pos hc0] at H
    refine ww_tableIn (off := 67) C dX9_about_1 (by rw [hc0]; decide) (by rw [hc0]; decide) (by rw [hc0]; rfl) 68 rfl ?_
    refine ww_aload_n C dX9_about_68 0 rfl rfl ?_
    refine wk_getR C dX9_about_69 fl_X9_45 hS.1 rfl (tX9_many hS).1 ?_
    refine ww_iconst (v := (0 : Int32)) C dX9_about_72 (by decide) ?_
    refine wk_iaload C dX9_about_73 (tX9_many hS).2.1 (vp_of (by decide : inB (0 : Int32) 3) (tX9_many hS).2.2) 0 rfl ?_
    cases H
    exact ww_iret C E dX9_about_74 ⟨rfl, rfl⟩
  · rw [if_neg hc0] at H
    by_cases hc1 : a1 = (1 : Int32)
    · rw [if_pos hc1] at H
      refine ww_tableIn (off := 74) C dX9_about_1 (by rw [hc1]; decide) (by rw [hc1]; decide) (by rw [hc1]; rfl) 75 rfl ?_
      refine ww_aload_n C dX9_about_75 0 rfl rfl ?_
      obtain ⟨p1, hc1, H⟩ := bd_of H
      refine ww_callV C hZ dX9_about_76 cw_X9_417 (ccX9_men hS hc1) hS.1 ⟨by decide, rfl⟩ (by decide) rfl rfl (Nat.le_of_ble_eq_true rfl) ⟨Nat.zero_le _, Nat.zero_le _⟩ (fun v τ hp => ?_)
      obtain ⟨rfl, rfl⟩ := hp
      change WW X _ 79 [.ref m, .int a1] [.int p1.1] _
      cases H
      exact ww_iret C E dX9_about_79 ⟨rfl, rfl⟩
    · rw [if_neg hc1] at H
      by_cases hc2 : a1 = (2 : Int32)
      · rw [if_pos hc2] at H
        refine ww_tableIn (off := 79) C dX9_about_1 (by rw [hc2]; decide) (by rw [hc2]; decide) (by rw [hc2]; rfl) 80 rfl ?_
        refine ww_aload_n C dX9_about_80 0 rfl rfl ?_
        refine wk_getR C dX9_about_81 fl_X9_45 hS.1 rfl (tX9_many hS).1 ?_
        refine ww_iconst (v := (2 : Int32)) C dX9_about_84 (by decide) ?_
        refine wk_iaload C dX9_about_85 (tX9_many hS).2.1 (vp_of (by decide : inB (2 : Int32) 3) (tX9_many hS).2.2) 2 rfl ?_
        cases H
        exact ww_iret C E dX9_about_86 ⟨rfl, rfl⟩
      · rw [if_neg hc2] at H
        by_cases hc3 : a1 = (3 : Int32)
        · rw [if_pos hc3] at H
          refine ww_tableIn (off := 86) C dX9_about_1 (by rw [hc3]; decide) (by rw [hc3]; decide) (by rw [hc3]; rfl) 87 rfl ?_
          refine ww_aload_n C dX9_about_87 0 rfl rfl ?_
          refine wk_getI C dX9_about_88 fl_X9_395 hS.1 rfl ?_
          cases H
          exact ww_iret C E dX9_about_91 ⟨rfl, rfl⟩
        · rw [if_neg hc3] at H
          by_cases hc4 : a1 = (4 : Int32)
          · rw [if_pos hc4] at H
            refine ww_tableIn (off := 91) C dX9_about_1 (by rw [hc4]; decide) (by rw [hc4]; decide) (by rw [hc4]; rfl) 92 rfl ?_
            refine ww_aload_n C dX9_about_92 0 rfl rfl ?_
            refine wk_getI C dX9_about_93 fl_X9_398 hS.1 rfl ?_
            cases H
            exact ww_iret C E dX9_about_96 ⟨rfl, rfl⟩
          · rw [if_neg hc4] at H
            by_cases hc5 : a1 = (5 : Int32)
            · rw [if_pos hc5] at H
              refine ww_tableIn (off := 96) C dX9_about_1 (by rw [hc5]; decide) (by rw [hc5]; decide) (by rw [hc5]; rfl) 97 rfl ?_
              refine ww_aload_n C dX9_about_97 0 rfl rfl ?_
              refine wk_getI C dX9_about_98 fl_X9_424 hS.1 rfl ?_
              cases H
              exact ww_iret C E dX9_about_101 ⟨rfl, rfl⟩
            · rw [if_neg hc5] at H
              by_cases hc6 : a1 = (6 : Int32)
              · rw [if_pos hc6] at H
                refine ww_tableIn (off := 101) C dX9_about_1 (by rw [hc6]; decide) (by rw [hc6]; decide) (by rw [hc6]; rfl) 102 rfl ?_
                refine ww_aload_n C dX9_about_102 0 rfl rfl ?_
                refine wk_getI C dX9_about_103 fl_X9_427 hS.1 rfl ?_
                cases H
                exact ww_iret C E dX9_about_106 ⟨rfl, rfl⟩
              · rw [if_neg hc6] at H
                by_cases hc7 : a1 = (7 : Int32)
                · rw [if_pos hc7] at H
                  refine ww_tableIn (off := 106) C dX9_about_1 (by rw [hc7]; decide) (by rw [hc7]; decide) (by rw [hc7]; rfl) 107 rfl ?_
                  refine ww_aload_n C dX9_about_107 0 rfl rfl ?_
                  refine wk_getI C dX9_about_108 fl_X9_410 hS.1 rfl ?_
                  cases H
                  exact ww_iret C E dX9_about_111 ⟨rfl, rfl⟩
                · rw [if_neg hc7] at H
                  by_cases hc8 : a1 = (8 : Int32)
                  · rw [if_pos hc8] at H
                    refine ww_tableIn (off := 111) C dX9_about_1 (by rw [hc8]; decide) (by rw [hc8]; decide) (by rw [hc8]; rfl) 112 rfl ?_
                    refine ww_aload_n C dX9_about_112 0 rfl rfl ?_
                    refine wk_getI C dX9_about_113 fl_X9_576 hS.1 rfl ?_
                    cases H
                    exact ww_iret C E dX9_about_116 ⟨rfl, rfl⟩
                  · rw [if_neg hc8] at H
                    by_cases hc9 : a1 = (9 : Int32)
                    · rw [if_pos hc9] at H
                      refine ww_tableIn (off := 116) C dX9_about_1 (by rw [hc9]; decide) (by rw [hc9]; decide) (by rw [hc9]; rfl) 117 rfl ?_
                      refine ww_aload_n C dX9_about_117 0 rfl rfl ?_
                      refine wk_getI C dX9_about_118 fl_X9_176 hS.1 rfl ?_
                      cases H
                      exact ww_iret C E dX9_about_121 ⟨rfl, rfl⟩
                    · rw [if_neg hc9] at H
                      by_cases hc10 : a1 = (10 : Int32)
                      · rw [if_pos hc10] at H
                        refine ww_tableIn (off := 121) C dX9_about_1 (by rw [hc10]; decide) (by rw [hc10]; decide) (by rw [hc10]; rfl) 122 rfl ?_
                        refine ww_aload_n C dX9_about_122 0 rfl rfl ?_
                        refine wk_getI C dX9_about_123 fl_X9_392 hS.1 rfl ?_
                        cases H
                        exact ww_iret C E dX9_about_126 ⟨rfl, rfl⟩
                      · rw [if_neg hc10] at H
                        by_cases hc11 : a1 = (11 : Int32)
                        · rw [if_pos hc11] at H
                          refine ww_tableIn (off := 126) C dX9_about_1 (by rw [hc11]; decide) (by rw [hc11]; decide) (by rw [hc11]; rfl) 127 rfl ?_
                          refine ww_aload_n C dX9_about_127 0 rfl rfl ?_
                          obtain ⟨p2, hc1, H⟩ := bd_of H
                          refine ww_callV C hZ dX9_about_128 cw_X9_557 (ccX9_seats hS hc1) hS.1 ⟨by decide, rfl⟩ (by decide) rfl rfl (Nat.le_of_ble_eq_true rfl) ⟨Nat.zero_le _, Nat.zero_le _⟩ (fun v τ hp => ?_)
                          obtain ⟨rfl, rfl⟩ := hp
                          change WW X _ 131 [.ref m, .int a1] [.int p2.1] _
                          cases H
                          exact ww_iret C E dX9_about_131 ⟨rfl, rfl⟩
                        · rw [if_neg hc11] at H
                          by_cases hc12 : a1 = (12 : Int32)
                          · rw [if_pos hc12] at H
                            refine ww_tableIn (off := 131) C dX9_about_1 (by rw [hc12]; decide) (by rw [hc12]; decide) (by rw [hc12]; rfl) 132 rfl ?_
                            refine ww_aload_n C dX9_about_132 0 rfl rfl ?_
                            refine wk_getI C dX9_about_133 fl_X9_430 hS.1 rfl ?_
                            cases H
                            exact ww_iret C E dX9_about_136 ⟨rfl, rfl⟩
                          · rw [if_neg hc12] at H
                            refine ww_tableOut C dX9_about_1 (by have q0 := lv_neT (k := (0 : Int32)) (a := 0) hc0 (by decide); have q1 := lv_neT (k := (1 : Int32)) (a := 1) hc1 (by decide); have q2 := lv_neT (k := (2 : Int32)) (a := 2) hc2 (by decide); have q3 := lv_neT (k := (3 : Int32)) (a := 3) hc3 (by decide); have q4 := lv_neT (k := (4 : Int32)) (a := 4) hc4 (by decide); have q5 := lv_neT (k := (5 : Int32)) (a := 5) hc5 (by decide); have q6 := lv_neT (k := (6 : Int32)) (a := 6) hc6 (by decide); have q7 := lv_neT (k := (7 : Int32)) (a := 7) hc7 (by decide); have q8 := lv_neT (k := (8 : Int32)) (a := 8) hc8 (by decide); have q9 := lv_neT (k := (9 : Int32)) (a := 9) hc9 (by decide); have q10 := lv_neT (k := (10 : Int32)) (a := 10) hc10 (by decide); have q11 := lv_neT (k := (11 : Int32)) (a := 11) hc11 (by decide); have q12 := lv_neT (k := (12 : Int32)) (a := 12) hc12 (by decide); omega) 137 rfl ?_
                            refine ww_iconst (v := (-1 : Int32)) C dX9_about_137 (by decide) ?_
                            cases H
                            exact ww_iret C E dX9_about_138 ⟨rfl, rfl⟩
