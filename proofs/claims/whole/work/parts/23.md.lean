def fX9_isBound_63 (m : Nat) (k : HI → Int32 → Option (Int32 × HI)) (kb : HI → Int32 → Int32 → Int32 → Int32 → Int32 → Option (Int32 × HI)) (h : HI) (v1 : Int32) (v2 : Int32) (v3 : Int32) (v5 : Int32) (s0 : Int32) : Option (Int32 × HI) := kb h v1 v2 v3 s0 (v5 + (1 : Int32))
set_option maxRecDepth 100000 in
set_option maxHeartbeats 4000000 in
theorem cX9_isBound_63 {X : CT} {sh : Sh} {adr : Nat → Nat} {r : Nat → Nat → Option Nat} {m : Nat} {p : Int32 × HI} (hS : MS sh r m) (C : CX X yX9_isBound.cls cX9_isBound 6 0) (hZ : SZX X adr) (E : RX X (some .boolean) sh adr (fun v τ => v = some (.int p.1) ∧ τ = mk p.2 r)) {k : HI → Int32 → Option (Int32 × HI)} {kb : HI → Int32 → Int32 → Int32 → Int32 → Int32 → Option (Int32 × HI)} (hk : ∀ (h : HI) (v4 : Int32), k h v4 = some p → WW X (sh, adr, 0, 0) 71 [.ref m, .retAddr 0, .retAddr 0, .retAddr 0, .int v4, .retAddr 0] [] (mk h r)) (hb : ∀ (h : HI) (v1 : Int32) (v2 : Int32) (v3 : Int32) (v4 : Int32) (v5 : Int32), kb h v1 v2 v3 v4 v5 = some p → WW X (sh, adr, 0, 0) 6 [.ref m, .int v1, .int v2, .int v3, .int v4, .int v5] [] (mk h r)) {h : HI} {v1 : Int32} {v2 : Int32} {v3 : Int32} {v5 : Int32} {s0 : Int32} (H : fX9_isBound_63 m k kb h v1 v2 v3 v5 s0 = some p) : WW X (sh, adr, 0, 0) 63 [.ref m, .int v1, .int v2, .int v3, .retAddr 0, .int v5] [.int s0] (mk h r) := by
  rw [fX9_isBound_63] at H
  refine ww_istore C dX9_isBound_63 (by decide) rfl [.ref m, .int v1, .int v2, .int v3, .int s0, .int v5] rfl ?_
  refine ww_iinc (v := (v5 + (1 : Int32))) C dX9_isBound_65 rfl rfl (by decide) rfl [.ref m, .int v1, .int v2, .int v3, .int s0, .int (v5 + (1 : Int32))] rfl ?_
  refine ww_goto C dX9_isBound_68 6 rfl ?_
  exact hb h v1 v2 v3 s0 (v5 + (1 : Int32)) H
def fX9_isBound_58 (m : Nat) (k : HI → Int32 → Option (Int32 × HI)) (kb : HI → Int32 → Int32 → Int32 → Int32 → Int32 → Option (Int32 × HI)) (h : HI) (v1 : Int32) (v2 : Int32) (v3 : Int32) (v5 : Int32) : Option (Int32 × HI) := fX9_isBound_63 m k kb h v1 v2 v3 v5 (1 : Int32)
set_option maxRecDepth 100000 in
set_option maxHeartbeats 4000000 in
theorem cX9_isBound_58 {X : CT} {sh : Sh} {adr : Nat → Nat} {r : Nat → Nat → Option Nat} {m : Nat} {p : Int32 × HI} (hS : MS sh r m) (C : CX X yX9_isBound.cls cX9_isBound 6 0) (hZ : SZX X adr) (E : RX X (some .boolean) sh adr (fun v τ => v = some (.int p.1) ∧ τ = mk p.2 r)) {k : HI → Int32 → Option (Int32 × HI)} {kb : HI → Int32 → Int32 → Int32 → Int32 → Int32 → Option (Int32 × HI)} (hk : ∀ (h : HI) (v4 : Int32), k h v4 = some p → WW X (sh, adr, 0, 0) 71 [.ref m, .retAddr 0, .retAddr 0, .retAddr 0, .int v4, .retAddr 0] [] (mk h r)) (hb : ∀ (h : HI) (v1 : Int32) (v2 : Int32) (v3 : Int32) (v4 : Int32) (v5 : Int32), kb h v1 v2 v3 v4 v5 = some p → WW X (sh, adr, 0, 0) 6 [.ref m, .int v1, .int v2, .int v3, .int v4, .int v5] [] (mk h r)) {h : HI} {v1 : Int32} {v2 : Int32} {v3 : Int32} {v5 : Int32} (H : fX9_isBound_58 m k kb h v1 v2 v3 v5 = some p) : WW X (sh, adr, 0, 0) 58 [.ref m, .int v1, .int v2, .int v3, .retAddr 0, .int v5] [] (mk h r) := by
  rw [fX9_isBound_58] at H
  refine ww_iconst (v := (1 : Int32)) C dX9_isBound_58 (by decide) ?_
  refine ww_goto C dX9_isBound_59 63 rfl ?_
  exact cX9_isBound_63 hS C hZ E hk hb H
def fX9_isBound_62 (m : Nat) (k : HI → Int32 → Option (Int32 × HI)) (kb : HI → Int32 → Int32 → Int32 → Int32 → Int32 → Option (Int32 × HI)) (h : HI) (v1 : Int32) (v2 : Int32) (v3 : Int32) (v5 : Int32) : Option (Int32 × HI) := fX9_isBound_63 m k kb h v1 v2 v3 v5 (0 : Int32)
set_option maxRecDepth 100000 in
set_option maxHeartbeats 4000000 in
theorem cX9_isBound_62 {X : CT} {sh : Sh} {adr : Nat → Nat} {r : Nat → Nat → Option Nat} {m : Nat} {p : Int32 × HI} (hS : MS sh r m) (C : CX X yX9_isBound.cls cX9_isBound 6 0) (hZ : SZX X adr) (E : RX X (some .boolean) sh adr (fun v τ => v = some (.int p.1) ∧ τ = mk p.2 r)) {k : HI → Int32 → Option (Int32 × HI)} {kb : HI → Int32 → Int32 → Int32 → Int32 → Int32 → Option (Int32 × HI)} (hk : ∀ (h : HI) (v4 : Int32), k h v4 = some p → WW X (sh, adr, 0, 0) 71 [.ref m, .retAddr 0, .retAddr 0, .retAddr 0, .int v4, .retAddr 0] [] (mk h r)) (hb : ∀ (h : HI) (v1 : Int32) (v2 : Int32) (v3 : Int32) (v4 : Int32) (v5 : Int32), kb h v1 v2 v3 v4 v5 = some p → WW X (sh, adr, 0, 0) 6 [.ref m, .int v1, .int v2, .int v3, .int v4, .int v5] [] (mk h r)) {h : HI} {v1 : Int32} {v2 : Int32} {v3 : Int32} {v5 : Int32} (H : fX9_isBound_62 m k kb h v1 v2 v3 v5 = some p) : WW X (sh, adr, 0, 0) 62 [.ref m, .int v1, .int v2, .int v3, .retAddr 0, .int v5] [] (mk h r) := by
  rw [fX9_isBound_62] at H
  refine ww_iconst (v := (0 : Int32)) C dX9_isBound_62 (by decide) ?_
  exact cX9_isBound_63 hS C hZ E hk hb H
def fX9_isBound_6 (m : Nat) (k : HI → Int32 → Option (Int32 × HI)) : Nat → HI → Int32 → Int32 → Int32 → Int32 → Int32 → Option (Int32 × HI)
  | 0, _, _, _, _, _, _ => none
  | n + 1, h, v1, v2, v3, v4, v5 => (if (h.1 m 45) ≤ v5 then k h v4 else (if v4 = 0 then (if inB ((4 : Int32) * v5) 16 then (if (h.1 (m + 21) (((4 : Int32) * v5).toNatClampNeg)) = v1 then (if inB (((4 : Int32) * v5) + (1 : Int32)) 16 then (if (h.1 (m + 21) ((((4 : Int32) * v5) + (1 : Int32)).toNatClampNeg)) = v2 then (if ((v3 >>> (v5 &&& 31)) &&& (1 : Int32)) = (1 : Int32) then fX9_isBound_58 m (k) (fX9_isBound_6 m k n) h v1 v2 v3 v5 else fX9_isBound_62 m (k) (fX9_isBound_6 m k n) h v1 v2 v3 v5) else fX9_isBound_62 m (k) (fX9_isBound_6 m k n) h v1 v2 v3 v5) else none) else fX9_isBound_62 m (k) (fX9_isBound_6 m k n) h v1 v2 v3 v5) else none) else fX9_isBound_58 m (k) (fX9_isBound_6 m k n) h v1 v2 v3 v5))
set_option maxRecDepth 100000 in
set_option maxHeartbeats 4000000 in
theorem cX9_isBound_6 {X : CT} {sh : Sh} {adr : Nat → Nat} {r : Nat → Nat → Option Nat} {m : Nat} {p : Int32 × HI} (hS : MS sh r m) (C : CX X yX9_isBound.cls cX9_isBound 6 0) (hZ : SZX X adr) (E : RX X (some .boolean) sh adr (fun v τ => v = some (.int p.1) ∧ τ = mk p.2 r)) {k : HI → Int32 → Option (Int32 × HI)} (hk : ∀ (h : HI) (v4 : Int32), k h v4 = some p → WW X (sh, adr, 0, 0) 71 [.ref m, .retAddr 0, .retAddr 0, .retAddr 0, .int v4, .retAddr 0] [] (mk h r)) : ∀ (n : Nat) (h : HI) (v1 : Int32) (v2 : Int32) (v3 : Int32) (v4 : Int32) (v5 : Int32), fX9_isBound_6 m k n h v1 v2 v3 v4 v5 = some p → WW X (sh, adr, 0, 0) 6 [.ref m, .int v1, .int v2, .int v3, .int v4, .int v5] [] (mk h r) := by
  intro n
  induction n with
  | zero =>
    intro h v1 v2 v3 v4 v5 H
    rw [fX9_isBound_6] at H
    cases H
  | succ n ih =>
    intro h v1 v2 v3 v4 v5 H
    rw [fX9_isBound_6] at H
    refine ww_iload C dX9_isBound_6 rfl ?_
    refine ww_aload_n C dX9_isBound_8 0 rfl rfl ?_
    refine wk_getI C dX9_isBound_9 fl_X9_398 hS.1 rfl ?_
    refine ww_icmp_ge C dX9_isBound_12 71 rfl (fun hc => ?_) (fun hc => ?_)
    · rw [if_pos hc] at H
      exact ww_drop [.ref m, .retAddr 0, .retAddr 0, .retAddr 0, .int v4, .retAddr 0] (sl_e (sl_d (sl_d (sl_d (sl_e (sl_d sl_n)))))) (hk h v4 H)
    · rw [if_neg hc] at H
      refine ww_iload C dX9_isBound_15 rfl ?_
      refine ww_if_ne C dX9_isBound_17 58 rfl (fun hc => ?_) (fun hc => ?_)
      · rw [if_neg hc] at H
        exact ww_drop [.ref m, .int v1, .int v2, .int v3, .retAddr 0, .int v5] (sl_e (sl_e (sl_e (sl_e (sl_d (sl_e sl_n)))))) (cX9_isBound_58 hS C hZ E hk ih H)
      · rw [if_pos hc] at H
        refine ww_aload_n C dX9_isBound_20 0 rfl rfl ?_
        refine wk_getR C dX9_isBound_21 fl_X9_75 hS.1 rfl (tX9_deal hS).1 ?_
        refine ww_iconst (v := (4 : Int32)) C dX9_isBound_24 (by decide) ?_
        refine ww_iload C dX9_isBound_25 rfl ?_
        refine ww_imul C dX9_isBound_27 ?_
        obtain ⟨hg, H⟩ := gd_of H
        refine wk_iaload C dX9_isBound_28 (tX9_deal hS).2.1 (vp_of hg (tX9_deal hS).2.2) (((4 : Int32) * v5).toNatClampNeg) rfl ?_
        refine ww_iload_n C dX9_isBound_29 1 rfl rfl ?_
        refine ww_icmp_ne C dX9_isBound_30 62 rfl (fun hc => ?_) (fun hc => ?_)
        · rw [if_neg hc] at H
          exact ww_drop [.ref m, .int v1, .int v2, .int v3, .retAddr 0, .int v5] (sl_e (sl_e (sl_e (sl_e (sl_d (sl_e sl_n)))))) (cX9_isBound_62 hS C hZ E hk ih H)
        · rw [if_pos hc] at H
          refine ww_aload_n C dX9_isBound_33 0 rfl rfl ?_
          refine wk_getR C dX9_isBound_34 fl_X9_75 hS.1 rfl (tX9_deal hS).1 ?_
          refine ww_iconst (v := (4 : Int32)) C dX9_isBound_37 (by decide) ?_
          refine ww_iload C dX9_isBound_38 rfl ?_
          refine ww_imul C dX9_isBound_40 ?_
          refine ww_iconst (v := (1 : Int32)) C dX9_isBound_41 (by decide) ?_
          refine ww_iadd C dX9_isBound_42 ?_
          obtain ⟨hg, H⟩ := gd_of H
          refine wk_iaload C dX9_isBound_43 (tX9_deal hS).2.1 (vp_of hg (tX9_deal hS).2.2) ((((4 : Int32) * v5) + (1 : Int32)).toNatClampNeg) rfl ?_
          refine ww_iload_n C dX9_isBound_44 2 rfl rfl ?_
          refine ww_icmp_ne C dX9_isBound_45 62 rfl (fun hc => ?_) (fun hc => ?_)
          · rw [if_neg hc] at H
            exact ww_drop [.ref m, .int v1, .int v2, .int v3, .retAddr 0, .int v5] (sl_e (sl_e (sl_e (sl_e (sl_d (sl_e sl_n)))))) (cX9_isBound_62 hS C hZ E hk ih H)
          · rw [if_pos hc] at H
            refine ww_iload_n C dX9_isBound_48 3 rfl rfl ?_
            refine ww_iload C dX9_isBound_49 rfl ?_
            refine ww_ishr C dX9_isBound_51 ?_
            refine ww_iconst (v := (1 : Int32)) C dX9_isBound_52 (by decide) ?_
            refine ww_iand C dX9_isBound_53 ?_
            refine ww_iconst (v := (1 : Int32)) C dX9_isBound_54 (by decide) ?_
            refine ww_icmp_ne C dX9_isBound_55 62 rfl (fun hc => ?_) (fun hc => ?_)
            · rw [if_neg hc] at H
              exact ww_drop [.ref m, .int v1, .int v2, .int v3, .retAddr 0, .int v5] (sl_e (sl_e (sl_e (sl_e (sl_d (sl_e sl_n)))))) (cX9_isBound_62 hS C hZ E hk ih H)
            · rw [if_pos hc] at H
              exact ww_drop [.ref m, .int v1, .int v2, .int v3, .retAddr 0, .int v5] (sl_e (sl_e (sl_e (sl_e (sl_d (sl_e sl_n)))))) (cX9_isBound_58 hS C hZ E hk ih H)
def fX9_isBound (m : Nat) (h : HI) (a1 : Int32) (a2 : Int32) (a3 : Int32) : Option (Int32 × HI) := fX9_isBound_6 m (fun h2 v4 => (if v4 = 0 ∨ v4 = 1 then some (v4, h2) else none)) FU h a1 a2 a3 (0 : Int32) (0 : Int32)
set_option maxRecDepth 100000 in
set_option maxHeartbeats 4000000 in
theorem ccX9_isBound {l : Launch} {sh : Sh} {adr : Nat → Nat} {r : Nat → Nat → Option Nat} {m : Nat} (hS : MS sh r m) {h : HI} {a1 : Int32} {a2 : Int32} {a3 : Int32} {p : Int32 × HI} (H : fX9_isBound m h a1 a2 a3 = some p) : CC l yX9_isBound cX9_isBound 6 (some .boolean) 0 [.ref m, .int a1, .int a2, .int a3] sh adr (mk h r) (fun v τ => v = some (.int p.1) ∧ τ = mk p.2 r) := by
  refine CC.of (by decide) (Nat.le_of_ble_eq_true rfl) 2 [.ref m, .int a1, .int a2, .int a3, .retAddr 0, .retAddr 0] rfl (fun X _ C E hZ => ?_)
  rw [fX9_isBound] at H
  refine ww_iconst (v := (0 : Int32)) C dX9_isBound_0 (by decide) ?_
  refine ww_istore C dX9_isBound_1 (by decide) rfl [.ref m, .int a1, .int a2, .int a3, .int (0 : Int32), .retAddr 0] rfl ?_
  refine ww_iconst (v := (0 : Int32)) C dX9_isBound_3 (by decide) ?_
  refine ww_istore C dX9_isBound_4 (by decide) rfl [.ref m, .int a1, .int a2, .int a3, .int (0 : Int32), .int (0 : Int32)] rfl ?_
  refine cX9_isBound_6 hS C hZ E (fun h2 v4 H => ?_) FU h a1 a2 a3 (0 : Int32) (0 : Int32) H
  refine ww_iload C dX9_isBound_71 rfl ?_
  obtain ⟨hg, H⟩ := gd_of H
  cases H
  exact ww_zret C E dX9_isBound_73 hg ⟨rfl, rfl⟩
def fX9_yesOf_60 (m : Nat) (k : HI → Int32 → Option (Int32 × HI)) (kb : HI → Int32 → Int32 → Int32 → Int32 → Int32 → Option (Int32 × HI)) (h : HI) (v1 : Int32) (v2 : Int32) (v3 : Int32) (v5 : Int32) (s0 : Int32) (s1 : Int32) : Option (Int32 × HI) := kb h v1 v2 v3 (s1 ||| s0) (v5 + (1 : Int32))
set_option maxRecDepth 100000 in
set_option maxHeartbeats 4000000 in
theorem cX9_yesOf_60 {X : CT} {sh : Sh} {adr : Nat → Nat} {r : Nat → Nat → Option Nat} {m : Nat} {p : Int32 × HI} (hS : MS sh r m) (C : CX X yX9_yesOf.cls cX9_yesOf 6 1) (hZ : SZX X adr) (E : RX X (some .int) sh adr (fun v τ => v = some (.int p.1) ∧ τ = mk p.2 r)) {k : HI → Int32 → Option (Int32 × HI)} {kb : HI → Int32 → Int32 → Int32 → Int32 → Int32 → Option (Int32 × HI)} (hk : ∀ (h : HI) (v4 : Int32), k h v4 = some p → WW X (sh, adr, 0, 0) 69 [.ref m, .retAddr 0, .retAddr 0, .retAddr 0, .int v4, .retAddr 0] [] (mk h r)) (hb : ∀ (h : HI) (v1 : Int32) (v2 : Int32) (v3 : Int32) (v4 : Int32) (v5 : Int32), kb h v1 v2 v3 v4 v5 = some p → WW X (sh, adr, 0, 0) 6 [.ref m, .int v1, .int v2, .int v3, .int v4, .int v5] [] (mk h r)) {h : HI} {v1 : Int32} {v2 : Int32} {v3 : Int32} {v5 : Int32} {s0 : Int32} {s1 : Int32} (H : fX9_yesOf_60 m k kb h v1 v2 v3 v5 s0 s1 = some p) : WW X (sh, adr, 0, 0) 60 [.ref m, .int v1, .int v2, .int v3, .retAddr 0, .int v5] [.int s0, .int s1] (mk h r) := by
  rw [fX9_yesOf_60] at H
  refine ww_ior C dX9_yesOf_60 ?_
  refine ww_istore C dX9_yesOf_61 (by decide) rfl [.ref m, .int v1, .int v2, .int v3, .int (s1 ||| s0), .int v5] rfl ?_
  refine ww_iinc (v := (v5 + (1 : Int32))) C dX9_yesOf_63 rfl rfl (by decide) rfl [.ref m, .int v1, .int v2, .int v3, .int (s1 ||| s0), .int (v5 + (1 : Int32))] rfl ?_
  refine ww_goto C dX9_yesOf_66 6 rfl ?_
  exact hb h v1 v2 v3 (s1 ||| s0) (v5 + (1 : Int32)) H
def fX9_yesOf_59 (m : Nat) (k : HI → Int32 → Option (Int32 × HI)) (kb : HI → Int32 → Int32 → Int32 → Int32 → Int32 → Option (Int32 × HI)) (h : HI) (v1 : Int32) (v2 : Int32) (v3 : Int32) (v5 : Int32) (s0 : Int32) : Option (Int32 × HI) := fX9_yesOf_60 m k kb h v1 v2 v3 v5 (0 : Int32) s0
set_option maxRecDepth 100000 in
set_option maxHeartbeats 4000000 in
theorem cX9_yesOf_59 {X : CT} {sh : Sh} {adr : Nat → Nat} {r : Nat → Nat → Option Nat} {m : Nat} {p : Int32 × HI} (hS : MS sh r m) (C : CX X yX9_yesOf.cls cX9_yesOf 6 1) (hZ : SZX X adr) (E : RX X (some .int) sh adr (fun v τ => v = some (.int p.1) ∧ τ = mk p.2 r)) {k : HI → Int32 → Option (Int32 × HI)} {kb : HI → Int32 → Int32 → Int32 → Int32 → Int32 → Option (Int32 × HI)} (hk : ∀ (h : HI) (v4 : Int32), k h v4 = some p → WW X (sh, adr, 0, 0) 69 [.ref m, .retAddr 0, .retAddr 0, .retAddr 0, .int v4, .retAddr 0] [] (mk h r)) (hb : ∀ (h : HI) (v1 : Int32) (v2 : Int32) (v3 : Int32) (v4 : Int32) (v5 : Int32), kb h v1 v2 v3 v4 v5 = some p → WW X (sh, adr, 0, 0) 6 [.ref m, .int v1, .int v2, .int v3, .int v4, .int v5] [] (mk h r)) {h : HI} {v1 : Int32} {v2 : Int32} {v3 : Int32} {v5 : Int32} {s0 : Int32} (H : fX9_yesOf_59 m k kb h v1 v2 v3 v5 s0 = some p) : WW X (sh, adr, 0, 0) 59 [.ref m, .int v1, .int v2, .int v3, .retAddr 0, .int v5] [.int s0] (mk h r) := by
  rw [fX9_yesOf_59] at H
  refine ww_iconst (v := (0 : Int32)) C dX9_yesOf_59 (by decide) ?_
  exact cX9_yesOf_60 hS C hZ E hk hb H
def fX9_yesOf_52 (m : Nat) (k : HI → Int32 → Option (Int32 × HI)) (kb : HI → Int32 → Int32 → Int32 → Int32 → Int32 → Option (Int32 × HI)) (h : HI) (v1 : Int32) (v2 : Int32) (v3 : Int32) (v5 : Int32) (s0 : Int32) : Option (Int32 × HI) := fX9_yesOf_60 m k kb h v1 v2 v3 v5 ((1 : Int32) <<< (v5 &&& 31)) s0
set_option maxRecDepth 100000 in
set_option maxHeartbeats 4000000 in
theorem cX9_yesOf_52 {X : CT} {sh : Sh} {adr : Nat → Nat} {r : Nat → Nat → Option Nat} {m : Nat} {p : Int32 × HI} (hS : MS sh r m) (C : CX X yX9_yesOf.cls cX9_yesOf 6 1) (hZ : SZX X adr) (E : RX X (some .int) sh adr (fun v τ => v = some (.int p.1) ∧ τ = mk p.2 r)) {k : HI → Int32 → Option (Int32 × HI)} {kb : HI → Int32 → Int32 → Int32 → Int32 → Int32 → Option (Int32 × HI)} (hk : ∀ (h : HI) (v4 : Int32), k h v4 = some p → WW X (sh, adr, 0, 0) 69 [.ref m, .retAddr 0, .retAddr 0, .retAddr 0, .int v4, .retAddr 0] [] (mk h r)) (hb : ∀ (h : HI) (v1 : Int32) (v2 : Int32) (v3 : Int32) (v4 : Int32) (v5 : Int32), kb h v1 v2 v3 v4 v5 = some p → WW X (sh, adr, 0, 0) 6 [.ref m, .int v1, .int v2, .int v3, .int v4, .int v5] [] (mk h r)) {h : HI} {v1 : Int32} {v2 : Int32} {v3 : Int32} {v5 : Int32} {s0 : Int32} (H : fX9_yesOf_52 m k kb h v1 v2 v3 v5 s0 = some p) : WW X (sh, adr, 0, 0) 52 [.ref m, .int v1, .int v2, .int v3, .retAddr 0, .int v5] [.int s0] (mk h r) := by
  rw [fX9_yesOf_52] at H
  refine ww_iconst (v := (1 : Int32)) C dX9_yesOf_52 (by decide) ?_
  refine ww_iload C dX9_yesOf_53 rfl ?_
  refine ww_ishl C dX9_yesOf_55 ?_
  refine ww_goto C dX9_yesOf_56 60 rfl ?_
  exact cX9_yesOf_60 hS C hZ E hk hb H
def fX9_yesOf_6 (m : Nat) (k : HI → Int32 → Option (Int32 × HI)) : Nat → HI → Int32 → Int32 → Int32 → Int32 → Int32 → Option (Int32 × HI)
  | 0, _, _, _, _, _, _ => none
  | n + 1, h, v1, v2, v3, v4, v5 => ((fX9_men m h).bind fun p1 => (if p1.1 ≤ v5 then k p1.2 v4 else (if ((v1 >>> (v5 &&& 31)) &&& (1 : Int32)) = (1 : Int32) then ((fX9_isBound m p1.2 v5 v2 v3).bind fun p2 => (if p2.1 = 0 then (if inB (((4 : Int32) * v5) + v2) 24 then (if (p2.2.1 (m + 20) ((((4 : Int32) * v5) + v2).toNatClampNeg)) ≤ 0 then fX9_yesOf_59 m (k) (fX9_yesOf_6 m k n) p2.2 v1 v2 v3 v5 v4 else fX9_yesOf_52 m (k) (fX9_yesOf_6 m k n) p2.2 v1 v2 v3 v5 v4) else none) else fX9_yesOf_52 m (k) (fX9_yesOf_6 m k n) p2.2 v1 v2 v3 v5 v4)) else fX9_yesOf_59 m (k) (fX9_yesOf_6 m k n) p1.2 v1 v2 v3 v5 v4)))
set_option maxRecDepth 100000 in
set_option maxHeartbeats 4000000 in
theorem cX9_yesOf_6 {X : CT} {sh : Sh} {adr : Nat → Nat} {r : Nat → Nat → Option Nat} {m : Nat} {p : Int32 × HI} (hS : MS sh r m) (C : CX X yX9_yesOf.cls cX9_yesOf 6 1) (hZ : SZX X adr) (E : RX X (some .int) sh adr (fun v τ => v = some (.int p.1) ∧ τ = mk p.2 r)) {k : HI → Int32 → Option (Int32 × HI)} (hk : ∀ (h : HI) (v4 : Int32), k h v4 = some p → WW X (sh, adr, 0, 0) 69 [.ref m, .retAddr 0, .retAddr 0, .retAddr 0, .int v4, .retAddr 0] [] (mk h r)) : ∀ (n : Nat) (h : HI) (v1 : Int32) (v2 : Int32) (v3 : Int32) (v4 : Int32) (v5 : Int32), fX9_yesOf_6 m k n h v1 v2 v3 v4 v5 = some p → WW X (sh, adr, 0, 0) 6 [.ref m, .int v1, .int v2, .int v3, .int v4, .int v5] [] (mk h r) := by
  intro n
  induction n with
  | zero =>
    intro h v1 v2 v3 v4 v5 H
    rw [fX9_yesOf_6] at H
    cases H
  | succ n ih =>
    intro h v1 v2 v3 v4 v5 H
    rw [fX9_yesOf_6] at H
    refine ww_iload C dX9_yesOf_6 rfl ?_
    refine ww_aload_n C dX9_yesOf_8 0 rfl rfl ?_
    obtain ⟨p1, hc1, H⟩ := bd_of H
    refine ww_callV C hZ dX9_yesOf_9 cw_X9_417 (ccX9_men hS hc1) hS.1 ⟨by decide, rfl⟩ (by decide) rfl rfl (Nat.le_of_ble_eq_true rfl) ⟨Nat.zero_le _, Nat.zero_le _⟩ (fun v τ hp => ?_)
    obtain ⟨rfl, rfl⟩ := hp
    change WW X _ 12 [.ref m, .int v1, .int v2, .int v3, .int v4, .int v5] [.int p1.1, .int v5] _
    refine ww_icmp_ge C dX9_yesOf_12 69 rfl (fun hc => ?_) (fun hc => ?_)
    · rw [if_pos hc] at H
      exact ww_drop [.ref m, .retAddr 0, .retAddr 0, .retAddr 0, .int v4, .retAddr 0] (sl_e (sl_d (sl_d (sl_d (sl_e (sl_d sl_n)))))) (hk p1.2 v4 H)
    · rw [if_neg hc] at H
      refine ww_iload C dX9_yesOf_15 rfl ?_
      refine ww_iload_n C dX9_yesOf_17 1 rfl rfl ?_
      refine ww_iload C dX9_yesOf_18 rfl ?_
      refine ww_ishr C dX9_yesOf_20 ?_
      refine ww_iconst (v := (1 : Int32)) C dX9_yesOf_21 (by decide) ?_
      refine ww_iand C dX9_yesOf_22 ?_
      refine ww_iconst (v := (1 : Int32)) C dX9_yesOf_23 (by decide) ?_
      refine ww_icmp_ne C dX9_yesOf_24 59 rfl (fun hc => ?_) (fun hc => ?_)
      · rw [if_neg hc] at H
        exact ww_drop [.ref m, .int v1, .int v2, .int v3, .retAddr 0, .int v5] (sl_e (sl_e (sl_e (sl_e (sl_d (sl_e sl_n)))))) (cX9_yesOf_59 hS C hZ E hk ih H)
      · rw [if_pos hc] at H
        refine ww_aload_n C dX9_yesOf_27 0 rfl rfl ?_
        refine ww_iload C dX9_yesOf_28 rfl ?_
        refine ww_iload_n C dX9_yesOf_30 2 rfl rfl ?_
        refine ww_iload_n C dX9_yesOf_31 3 rfl rfl ?_
        obtain ⟨p2, hc1, H⟩ := bd_of H
        refine ww_callV C hZ dX9_yesOf_32 cw_X9_420 (ccX9_isBound hS hc1) hS.1 ⟨by decide, rfl⟩ (by decide) rfl rfl (Nat.le_of_ble_eq_true rfl) ⟨Nat.zero_le _, Nat.zero_le _⟩ (fun v τ hp => ?_)
        obtain ⟨rfl, rfl⟩ := hp
        change WW X _ 35 [.ref m, .int v1, .int v2, .int v3, .int v4, .int v5] [.int p2.1, .int v4] _
        refine ww_if_ne C dX9_yesOf_35 52 rfl (fun hc => ?_) (fun hc => ?_)
        · rw [if_neg hc] at H
          exact ww_drop [.ref m, .int v1, .int v2, .int v3, .retAddr 0, .int v5] (sl_e (sl_e (sl_e (sl_e (sl_d (sl_e sl_n)))))) (cX9_yesOf_52 hS C hZ E hk ih H)
        · rw [if_pos hc] at H
          refine ww_aload_n C dX9_yesOf_38 0 rfl rfl ?_
          refine wk_getR C dX9_yesOf_39 fl_X9_72 hS.1 rfl (tX9_wish hS).1 ?_
          refine ww_iconst (v := (4 : Int32)) C dX9_yesOf_42 (by decide) ?_
          refine ww_iload C dX9_yesOf_43 rfl ?_
          refine ww_imul C dX9_yesOf_45 ?_
          refine ww_iload_n C dX9_yesOf_46 2 rfl rfl ?_
          refine ww_iadd C dX9_yesOf_47 ?_
          obtain ⟨hg, H⟩ := gd_of H
          refine wk_iaload C dX9_yesOf_48 (tX9_wish hS).2.1 (vp_of hg (tX9_wish hS).2.2) ((((4 : Int32) * v5) + v2).toNatClampNeg) rfl ?_
          refine ww_if_le C dX9_yesOf_49 59 rfl (fun hc => ?_) (fun hc => ?_)
          · rw [if_pos hc] at H
            exact ww_drop [.ref m, .int v1, .int v2, .int v3, .retAddr 0, .int v5] (sl_e (sl_e (sl_e (sl_e (sl_d (sl_e sl_n)))))) (cX9_yesOf_59 hS C hZ E hk ih H)
          · rw [if_neg hc] at H
            exact ww_drop [.ref m, .int v1, .int v2, .int v3, .retAddr 0, .int v5] (sl_e (sl_e (sl_e (sl_e (sl_d (sl_e sl_n)))))) (cX9_yesOf_52 hS C hZ E hk ih H)
def fX9_yesOf (m : Nat) (h : HI) (a1 : Int32) (a2 : Int32) (a3 : Int32) : Option (Int32 × HI) := fX9_yesOf_6 m (fun h4 v4 => some (v4, h4)) FU h a1 a2 a3 (0 : Int32) (0 : Int32)
set_option maxRecDepth 100000 in
set_option maxHeartbeats 4000000 in
theorem ccX9_yesOf {l : Launch} {sh : Sh} {adr : Nat → Nat} {r : Nat → Nat → Option Nat} {m : Nat} (hS : MS sh r m) {h : HI} {a1 : Int32} {a2 : Int32} {a3 : Int32} {p : Int32 × HI} (H : fX9_yesOf m h a1 a2 a3 = some p) : CC l yX9_yesOf cX9_yesOf 6 (some .int) 1 [.ref m, .int a1, .int a2, .int a3] sh adr (mk h r) (fun v τ => v = some (.int p.1) ∧ τ = mk p.2 r) := by
  refine CC.of (by decide) (Nat.le_of_ble_eq_true rfl) 2 [.ref m, .int a1, .int a2, .int a3, .retAddr 0, .retAddr 0] rfl (fun X _ C E hZ => ?_)
  rw [fX9_yesOf] at H
  refine ww_iconst (v := (0 : Int32)) C dX9_yesOf_0 (by decide) ?_
  refine ww_istore C dX9_yesOf_1 (by decide) rfl [.ref m, .int a1, .int a2, .int a3, .int (0 : Int32), .retAddr 0] rfl ?_
  refine ww_iconst (v := (0 : Int32)) C dX9_yesOf_3 (by decide) ?_
  refine ww_istore C dX9_yesOf_4 (by decide) rfl [.ref m, .int a1, .int a2, .int a3, .int (0 : Int32), .int (0 : Int32)] rfl ?_
  refine cX9_yesOf_6 hS C hZ E (fun h4 v4 H => ?_) FU h a1 a2 a3 (0 : Int32) (0 : Int32) H
  refine ww_iload C dX9_yesOf_69 rfl ?_
  cases H
  exact ww_iret C E dX9_yesOf_71 ⟨rfl, rfl⟩
def fX9_noOf_60 (m : Nat) (k : HI → Int32 → Option (Int32 × HI)) (kb : HI → Int32 → Int32 → Int32 → Int32 → Int32 → Option (Int32 × HI)) (h : HI) (v1 : Int32) (v2 : Int32) (v3 : Int32) (v5 : Int32) (s0 : Int32) (s1 : Int32) : Option (Int32 × HI) := kb h v1 v2 v3 (s1 ||| s0) (v5 + (1 : Int32))
set_option maxRecDepth 100000 in
set_option maxHeartbeats 4000000 in
theorem cX9_noOf_60 {X : CT} {sh : Sh} {adr : Nat → Nat} {r : Nat → Nat → Option Nat} {m : Nat} {p : Int32 × HI} (hS : MS sh r m) (C : CX X yX9_noOf.cls cX9_noOf 6 1) (hZ : SZX X adr) (E : RX X (some .int) sh adr (fun v τ => v = some (.int p.1) ∧ τ = mk p.2 r)) {k : HI → Int32 → Option (Int32 × HI)} {kb : HI → Int32 → Int32 → Int32 → Int32 → Int32 → Option (Int32 × HI)} (hk : ∀ (h : HI) (v4 : Int32), k h v4 = some p → WW X (sh, adr, 0, 0) 69 [.ref m, .retAddr 0, .retAddr 0, .retAddr 0, .int v4, .retAddr 0] [] (mk h r)) (hb : ∀ (h : HI) (v1 : Int32) (v2 : Int32) (v3 : Int32) (v4 : Int32) (v5 : Int32), kb h v1 v2 v3 v4 v5 = some p → WW X (sh, adr, 0, 0) 6 [.ref m, .int v1, .int v2, .int v3, .int v4, .int v5] [] (mk h r)) {h : HI} {v1 : Int32} {v2 : Int32} {v3 : Int32} {v5 : Int32} {s0 : Int32} {s1 : Int32} (H : fX9_noOf_60 m k kb h v1 v2 v3 v5 s0 s1 = some p) : WW X (sh, adr, 0, 0) 60 [.ref m, .int v1, .int v2, .int v3, .retAddr 0, .int v5] [.int s0, .int s1] (mk h r) := by
  rw [fX9_noOf_60] at H
  refine ww_ior C dX9_noOf_60 ?_
  refine ww_istore C dX9_noOf_61 (by decide) rfl [.ref m, .int v1, .int v2, .int v3, .int (s1 ||| s0), .int v5] rfl ?_
  refine ww_iinc (v := (v5 + (1 : Int32))) C dX9_noOf_63 rfl rfl (by decide) rfl [.ref m, .int v1, .int v2, .int v3, .int (s1 ||| s0), .int (v5 + (1 : Int32))] rfl ?_
  refine ww_goto C dX9_noOf_66 6 rfl ?_
  exact hb h v1 v2 v3 (s1 ||| s0) (v5 + (1 : Int32)) H
def fX9_noOf_59 (m : Nat) (k : HI → Int32 → Option (Int32 × HI)) (kb : HI → Int32 → Int32 → Int32 → Int32 → Int32 → Option (Int32 × HI)) (h : HI) (v1 : Int32) (v2 : Int32) (v3 : Int32) (v5 : Int32) (s0 : Int32) : Option (Int32 × HI) := fX9_noOf_60 m k kb h v1 v2 v3 v5 (0 : Int32) s0
set_option maxRecDepth 100000 in
set_option maxHeartbeats 4000000 in
theorem cX9_noOf_59 {X : CT} {sh : Sh} {adr : Nat → Nat} {r : Nat → Nat → Option Nat} {m : Nat} {p : Int32 × HI} (hS : MS sh r m) (C : CX X yX9_noOf.cls cX9_noOf 6 1) (hZ : SZX X adr) (E : RX X (some .int) sh adr (fun v τ => v = some (.int p.1) ∧ τ = mk p.2 r)) {k : HI → Int32 → Option (Int32 × HI)} {kb : HI → Int32 → Int32 → Int32 → Int32 → Int32 → Option (Int32 × HI)} (hk : ∀ (h : HI) (v4 : Int32), k h v4 = some p → WW X (sh, adr, 0, 0) 69 [.ref m, .retAddr 0, .retAddr 0, .retAddr 0, .int v4, .retAddr 0] [] (mk h r)) (hb : ∀ (h : HI) (v1 : Int32) (v2 : Int32) (v3 : Int32) (v4 : Int32) (v5 : Int32), kb h v1 v2 v3 v4 v5 = some p → WW X (sh, adr, 0, 0) 6 [.ref m, .int v1, .int v2, .int v3, .int v4, .int v5] [] (mk h r)) {h : HI} {v1 : Int32} {v2 : Int32} {v3 : Int32} {v5 : Int32} {s0 : Int32} (H : fX9_noOf_59 m k kb h v1 v2 v3 v5 s0 = some p) : WW X (sh, adr, 0, 0) 59 [.ref m, .int v1, .int v2, .int v3, .retAddr 0, .int v5] [.int s0] (mk h r) := by
  rw [fX9_noOf_59] at H
  refine ww_iconst (v := (0 : Int32)) C dX9_noOf_59 (by decide) ?_
  exact cX9_noOf_60 hS C hZ E hk hb H
def fX9_noOf_6 (m : Nat) (k : HI → Int32 → Option (Int32 × HI)) : Nat → HI → Int32 → Int32 → Int32 → Int32 → Int32 → Option (Int32 × HI)
  | 0, _, _, _, _, _, _ => none
  | n + 1, h, v1, v2, v3, v4, v5 => ((fX9_men m h).bind fun p1 => (if p1.1 ≤ v5 then k p1.2 v4 else (if ((v1 >>> (v5 &&& 31)) &&& (1 : Int32)) = (1 : Int32) then ((fX9_isBound m p1.2 v5 v2 v3).bind fun p2 => (if p2.1 = 0 then (if inB (((4 : Int32) * v5) + v2) 24 then (if 0 ≤ (p2.2.1 (m + 20) ((((4 : Int32) * v5) + v2).toNatClampNeg)) then fX9_noOf_59 m (k) (fX9_noOf_6 m k n) p2.2 v1 v2 v3 v5 v4 else fX9_noOf_60 m (k) (fX9_noOf_6 m k n) p2.2 v1 v2 v3 v5 ((1 : Int32) <<< (v5 &&& 31)) v4) else none) else fX9_noOf_59 m (k) (fX9_noOf_6 m k n) p2.2 v1 v2 v3 v5 v4)) else fX9_noOf_59 m (k) (fX9_noOf_6 m k n) p1.2 v1 v2 v3 v5 v4)))
set_option maxRecDepth 100000 in
set_option maxHeartbeats 4000000 in
theorem cX9_noOf_6 {X : CT} {sh : Sh} {adr : Nat → Nat} {r : Nat → Nat → Option Nat} {m : Nat} {p : Int32 × HI} (hS : MS sh r m) (C : CX X yX9_noOf.cls cX9_noOf 6 1) (hZ : SZX X adr) (E : RX X (some .int) sh adr (fun v τ => v = some (.int p.1) ∧ τ = mk p.2 r)) {k : HI → Int32 → Option (Int32 × HI)} (hk : ∀ (h : HI) (v4 : Int32), k h v4 = some p → WW X (sh, adr, 0, 0) 69 [.ref m, .retAddr 0, .retAddr 0, .retAddr 0, .int v4, .retAddr 0] [] (mk h r)) : ∀ (n : Nat) (h : HI) (v1 : Int32) (v2 : Int32) (v3 : Int32) (v4 : Int32) (v5 : Int32), fX9_noOf_6 m k n h v1 v2 v3 v4 v5 = some p → WW X (sh, adr, 0, 0) 6 [.ref m, .int v1, .int v2, .int v3, .int v4, .int v5] [] (mk h r) := by
  intro n
  induction n with
  | zero =>
    intro h v1 v2 v3 v4 v5 H
    rw [fX9_noOf_6] at H
    cases H
  | succ n ih =>
    intro h v1 v2 v3 v4 v5 H
    rw [fX9_noOf_6] at H
    refine ww_iload C dX9_noOf_6 rfl ?_
    refine ww_aload_n C dX9_noOf_8 0 rfl rfl ?_
    obtain ⟨p1, hc1, H⟩ := bd_of H
    refine ww_callV C hZ dX9_noOf_9 cw_X9_417 (ccX9_men hS hc1) hS.1 ⟨by decide, rfl⟩ (by decide) rfl rfl (Nat.le_of_ble_eq_true rfl) ⟨Nat.zero_le _, Nat.zero_le _⟩ (fun v τ hp => ?_)
    obtain ⟨rfl, rfl⟩ := hp
    change WW X _ 12 [.ref m, .int v1, .int v2, .int v3, .int v4, .int v5] [.int p1.1, .int v5] _
    refine ww_icmp_ge C dX9_noOf_12 69 rfl (fun hc => ?_) (fun hc => ?_)
    · rw [if_pos hc] at H
      exact ww_drop [.ref m, .retAddr 0, .retAddr 0, .retAddr 0, .int v4, .retAddr 0] (sl_e (sl_d (sl_d (sl_d (sl_e (sl_d sl_n)))))) (hk p1.2 v4 H)
    · rw [if_neg hc] at H
      refine ww_iload C dX9_noOf_15 rfl ?_
      refine ww_iload_n C dX9_noOf_17 1 rfl rfl ?_
      refine ww_iload C dX9_noOf_18 rfl ?_
      refine ww_ishr C dX9_noOf_20 ?_
      refine ww_iconst (v := (1 : Int32)) C dX9_noOf_21 (by decide) ?_
      refine ww_iand C dX9_noOf_22 ?_
      refine ww_iconst (v := (1 : Int32)) C dX9_noOf_23 (by decide) ?_
      refine ww_icmp_ne C dX9_noOf_24 59 rfl (fun hc => ?_) (fun hc => ?_)
      · rw [if_neg hc] at H
        exact ww_drop [.ref m, .int v1, .int v2, .int v3, .retAddr 0, .int v5] (sl_e (sl_e (sl_e (sl_e (sl_d (sl_e sl_n)))))) (cX9_noOf_59 hS C hZ E hk ih H)
      · rw [if_pos hc] at H
        refine ww_aload_n C dX9_noOf_27 0 rfl rfl ?_
        refine ww_iload C dX9_noOf_28 rfl ?_
        refine ww_iload_n C dX9_noOf_30 2 rfl rfl ?_
        refine ww_iload_n C dX9_noOf_31 3 rfl rfl ?_
        obtain ⟨p2, hc1, H⟩ := bd_of H
        refine ww_callV C hZ dX9_noOf_32 cw_X9_420 (ccX9_isBound hS hc1) hS.1 ⟨by decide, rfl⟩ (by decide) rfl rfl (Nat.le_of_ble_eq_true rfl) ⟨Nat.zero_le _, Nat.zero_le _⟩ (fun v τ hp => ?_)
        obtain ⟨rfl, rfl⟩ := hp
        change WW X _ 35 [.ref m, .int v1, .int v2, .int v3, .int v4, .int v5] [.int p2.1, .int v4] _
        refine ww_if_ne C dX9_noOf_35 59 rfl (fun hc => ?_) (fun hc => ?_)
        · rw [if_neg hc] at H
          exact ww_drop [.ref m, .int v1, .int v2, .int v3, .retAddr 0, .int v5] (sl_e (sl_e (sl_e (sl_e (sl_d (sl_e sl_n)))))) (cX9_noOf_59 hS C hZ E hk ih H)
        · rw [if_pos hc] at H
          refine ww_aload_n C dX9_noOf_38 0 rfl rfl ?_
          refine wk_getR C dX9_noOf_39 fl_X9_72 hS.1 rfl (tX9_wish hS).1 ?_
          refine ww_iconst (v := (4 : Int32)) C dX9_noOf_42 (by decide) ?_
          refine ww_iload C dX9_noOf_43 rfl ?_
          refine ww_imul C dX9_noOf_45 ?_
          refine ww_iload_n C dX9_noOf_46 2 rfl rfl ?_
          refine ww_iadd C dX9_noOf_47 ?_
          obtain ⟨hg, H⟩ := gd_of H
          refine wk_iaload C dX9_noOf_48 (tX9_wish hS).2.1 (vp_of hg (tX9_wish hS).2.2) ((((4 : Int32) * v5) + v2).toNatClampNeg) rfl ?_
          refine ww_if_ge C dX9_noOf_49 59 rfl (fun hc => ?_) (fun hc => ?_)
          · rw [if_pos hc] at H
            exact ww_drop [.ref m, .int v1, .int v2, .int v3, .retAddr 0, .int v5] (sl_e (sl_e (sl_e (sl_e (sl_d (sl_e sl_n)))))) (cX9_noOf_59 hS C hZ E hk ih H)
          · rw [if_neg hc] at H
            refine ww_iconst (v := (1 : Int32)) C dX9_noOf_52 (by decide) ?_
            refine ww_iload C dX9_noOf_53 rfl ?_
            refine ww_ishl C dX9_noOf_55 ?_
            refine ww_goto C dX9_noOf_56 60 rfl ?_
            exact ww_drop [.ref m, .int v1, .int v2, .int v3, .retAddr 0, .int v5] (sl_e (sl_e (sl_e (sl_e (sl_d (sl_e sl_n)))))) (cX9_noOf_60 hS C hZ E hk ih H)
def fX9_noOf (m : Nat) (h : HI) (a1 : Int32) (a2 : Int32) (a3 : Int32) : Option (Int32 × HI) := fX9_noOf_6 m (fun h4 v4 => some (v4, h4)) FU h a1 a2 a3 (0 : Int32) (0 : Int32)
set_option maxRecDepth 100000 in
set_option maxHeartbeats 4000000 in
theorem ccX9_noOf {l : Launch} {sh : Sh} {adr : Nat → Nat} {r : Nat → Nat → Option Nat} {m : Nat} (hS : MS sh r m) {h : HI} {a1 : Int32} {a2 : Int32} {a3 : Int32} {p : Int32 × HI} (H : fX9_noOf m h a1 a2 a3 = some p) : CC l yX9_noOf cX9_noOf 6 (some .int) 1 [.ref m, .int a1, .int a2, .int a3] sh adr (mk h r) (fun v τ => v = some (.int p.1) ∧ τ = mk p.2 r) := by
  refine CC.of (by decide) (Nat.le_of_ble_eq_true rfl) 2 [.ref m, .int a1, .int a2, .int a3, .retAddr 0, .retAddr 0] rfl (fun X _ C E hZ => ?_)
  rw [fX9_noOf] at H
  refine ww_iconst (v := (0 : Int32)) C dX9_noOf_0 (by decide) ?_
  refine ww_istore C dX9_noOf_1 (by decide) rfl [.ref m, .int a1, .int a2, .int a3, .int (0 : Int32), .retAddr 0] rfl ?_
  refine ww_iconst (v := (0 : Int32)) C dX9_noOf_3 (by decide) ?_
  refine ww_istore C dX9_noOf_4 (by decide) rfl [.ref m, .int a1, .int a2, .int a3, .int (0 : Int32), .int (0 : Int32)] rfl ?_
  refine cX9_noOf_6 hS C hZ E (fun h4 v4 H => ?_) FU h a1 a2 a3 (0 : Int32) (0 : Int32) H
  refine ww_iload C dX9_noOf_69 rfl ?_
  cases H
  exact ww_iret C E dX9_noOf_71 ⟨rfl, rfl⟩
def fX9_isHere (m : Nat) (h : HI) (a1 : Int32) : Option (Int32 × HI) := (if inB a1 6 then (if (h.1 (m + 27) (a1.toNatClampNeg)) = (-2 : Int32) then some ((0 : Int32), h) else some ((1 : Int32), h)) else none)
set_option maxRecDepth 100000 in
set_option maxHeartbeats 4000000 in
theorem ccX9_isHere {l : Launch} {sh : Sh} {adr : Nat → Nat} {r : Nat → Nat → Option Nat} {m : Nat} (hS : MS sh r m) {h : HI} {a1 : Int32} {p : Int32 × HI} (H : fX9_isHere m h a1 = some p) : CC l yX9_isHere cX9_isHere 2 (some .boolean) 0 [.ref m, .int a1] sh adr (mk h r) (fun v τ => v = some (.int p.1) ∧ τ = mk p.2 r) := by
  refine CC.of (by decide) (Nat.le_of_ble_eq_true rfl) 0 [.ref m, .int a1] rfl (fun X _ C E hZ => ?_)
  rw [fX9_isHere] at H
  refine ww_aload_n C dX9_isHere_0 0 rfl rfl ?_
  refine wk_getR C dX9_isHere_1 fl_X9_94 hS.1 rfl (tX9_where hS).1 ?_
  refine ww_iload_n C dX9_isHere_4 1 rfl rfl ?_
  obtain ⟨hg, H⟩ := gd_of H
  refine wk_iaload C dX9_isHere_5 (tX9_where hS).2.1 (vp_of hg (tX9_where hS).2.2) (a1.toNatClampNeg) rfl ?_
  refine ww_bipush (v := (-2 : Int32)) C dX9_isHere_6 (by decide) ?_
  refine ww_icmp_eq C dX9_isHere_8 15 rfl (fun hc => ?_) (fun hc => ?_)
  · rw [if_pos hc] at H
    refine ww_iconst (v := (0 : Int32)) C dX9_isHere_15 (by decide) ?_
    cases H
    exact ww_zret C E dX9_isHere_16 (Or.inl rfl) ⟨rfl, rfl⟩
  · rw [if_neg hc] at H
    refine ww_iconst (v := (1 : Int32)) C dX9_isHere_11 (by decide) ?_
    refine ww_goto C dX9_isHere_12 16 rfl ?_
    cases H
    exact ww_zret C E dX9_isHere_16 (Or.inr rfl) ⟨rfl, rfl⟩
def fX9_isUp (m : Nat) (h : HI) (a1 : Int32) : Option (Int32 × HI) := ((fX9_isMan m h a1).bind fun p1 => (if p1.1 = 0 then some ((0 : Int32), p1.2) else (if inB a1 6 then (if (p1.2.1 (m + 27) (a1.toNatClampNeg)) = (-1 : Int32) then some ((1 : Int32), p1.2) else some ((0 : Int32), p1.2)) else none)))
set_option maxRecDepth 100000 in
set_option maxHeartbeats 4000000 in
theorem ccX9_isUp {l : Launch} {sh : Sh} {adr : Nat → Nat} {r : Nat → Nat → Option Nat} {m : Nat} (hS : MS sh r m) {h : HI} {a1 : Int32} {p : Int32 × HI} (H : fX9_isUp m h a1 = some p) : CC l yX9_isUp cX9_isUp 2 (some .boolean) 1 [.ref m, .int a1] sh adr (mk h r) (fun v τ => v = some (.int p.1) ∧ τ = mk p.2 r) := by
  refine CC.of (by decide) (Nat.le_of_ble_eq_true rfl) 0 [.ref m, .int a1] rfl (fun X _ C E hZ => ?_)
  rw [fX9_isUp] at H
  refine ww_aload_n C dX9_isUp_0 0 rfl rfl ?_
  refine ww_iload_n C dX9_isUp_1 1 rfl rfl ?_
  obtain ⟨p1, hc1, H⟩ := bd_of H
  refine ww_callV C hZ dX9_isUp_2 cw_X9_433 (ccX9_isMan hS hc1) hS.1 ⟨by decide, rfl⟩ (by decide) rfl rfl (Nat.le_of_ble_eq_true rfl) ⟨Nat.zero_le _, Nat.zero_le _⟩ (fun v τ hp => ?_)
  obtain ⟨rfl, rfl⟩ := hp
  change WW X _ 5 [.ref m, .int a1] [.int p1.1] _
  refine ww_if_eq C dX9_isUp_5 22 rfl (fun hc => ?_) (fun hc => ?_)
  · rw [if_pos hc] at H
    refine ww_iconst (v := (0 : Int32)) C dX9_isUp_22 (by decide) ?_
    cases H
    exact ww_zret C E dX9_isUp_23 (Or.inl rfl) ⟨rfl, rfl⟩
  · rw [if_neg hc] at H
    refine ww_aload_n C dX9_isUp_8 0 rfl rfl ?_
    refine wk_getR C dX9_isUp_9 fl_X9_94 hS.1 rfl (tX9_where hS).1 ?_
    refine ww_iload_n C dX9_isUp_12 1 rfl rfl ?_
    obtain ⟨hg, H⟩ := gd_of H
    refine wk_iaload C dX9_isUp_13 (tX9_where hS).2.1 (vp_of hg (tX9_where hS).2.2) (a1.toNatClampNeg) rfl ?_
    refine ww_iconst (v := (-1 : Int32)) C dX9_isUp_14 (by decide) ?_
    refine ww_icmp_ne C dX9_isUp_15 22 rfl (fun hc => ?_) (fun hc => ?_)
    · rw [if_neg hc] at H
      refine ww_iconst (v := (0 : Int32)) C dX9_isUp_22 (by decide) ?_
      cases H
      exact ww_zret C E dX9_isUp_23 (Or.inl rfl) ⟨rfl, rfl⟩
    · rw [if_pos hc] at H
      refine ww_iconst (v := (1 : Int32)) C dX9_isUp_18 (by decide) ?_
      refine ww_goto C dX9_isUp_19 23 rfl ?_
      cases H
      exact ww_zret C E dX9_isUp_23 (Or.inr rfl) ⟨rfl, rfl⟩
def fX9_on_30 (m : Nat) (k : HI → Int32 → Option (Int32 × HI)) (kb : HI → Int32 → Int32 → Int32 → Option (Int32 × HI)) (h : HI) (v1 : Int32) (v3 : Int32) (s0 : Int32) (s1 : Int32) : Option (Int32 × HI) := kb h v1 (s1 ||| s0) (v3 + (1 : Int32))
set_option maxRecDepth 100000 in
set_option maxHeartbeats 4000000 in
theorem cX9_on_30 {X : CT} {sh : Sh} {adr : Nat → Nat} {r : Nat → Nat → Option Nat} {m : Nat} {p : Int32 × HI} (hS : MS sh r m) (C : CX X yX9_on.cls cX9_on 4 1) (hZ : SZX X adr) (E : RX X (some .int) sh adr (fun v τ => v = some (.int p.1) ∧ τ = mk p.2 r)) {k : HI → Int32 → Option (Int32 × HI)} {kb : HI → Int32 → Int32 → Int32 → Option (Int32 × HI)} (hk : ∀ (h : HI) (v2 : Int32), k h v2 = some p → WW X (sh, adr, 0, 0) 38 [.ref m, .retAddr 0, .int v2, .retAddr 0] [] (mk h r)) (hb : ∀ (h : HI) (v1 : Int32) (v2 : Int32) (v3 : Int32), kb h v1 v2 v3 = some p → WW X (sh, adr, 0, 0) 4 [.ref m, .int v1, .int v2, .int v3] [] (mk h r)) {h : HI} {v1 : Int32} {v3 : Int32} {s0 : Int32} {s1 : Int32} (H : fX9_on_30 m k kb h v1 v3 s0 s1 = some p) : WW X (sh, adr, 0, 0) 30 [.ref m, .int v1, .retAddr 0, .int v3] [.int s0, .int s1] (mk h r) := by
  rw [fX9_on_30] at H
  refine ww_ior C dX9_on_30 ?_
  refine ww_istore_n C dX9_on_31 2 rfl (by decide) rfl [.ref m, .int v1, .int (s1 ||| s0), .int v3] rfl ?_
  refine ww_iinc (v := (v3 + (1 : Int32))) C dX9_on_32 rfl rfl (by decide) rfl [.ref m, .int v1, .int (s1 ||| s0), .int (v3 + (1 : Int32))] rfl ?_
  refine ww_goto C dX9_on_35 4 rfl ?_
  exact hb h v1 (s1 ||| s0) (v3 + (1 : Int32)) H
def fX9_on_4 (m : Nat) (k : HI → Int32 → Option (Int32 × HI)) : Nat → HI → Int32 → Int32 → Int32 → Option (Int32 × HI)
  | 0, _, _, _, _ => none
  | n + 1, h, v1, v2, v3 => ((fX9_men m h).bind fun p1 => (if p1.1 ≤ v3 then k p1.2 v2 else (if inB v3 6 then (if (p1.2.1 (m + 27) (v3.toNatClampNeg)) = v1 then fX9_on_30 m (k) (fX9_on_4 m k n) p1.2 v1 v3 ((1 : Int32) <<< (v3 &&& 31)) v2 else fX9_on_30 m (k) (fX9_on_4 m k n) p1.2 v1 v3 (0 : Int32) v2) else none)))
set_option maxRecDepth 100000 in
set_option maxHeartbeats 4000000 in
theorem cX9_on_4 {X : CT} {sh : Sh} {adr : Nat → Nat} {r : Nat → Nat → Option Nat} {m : Nat} {p : Int32 × HI} (hS : MS sh r m) (C : CX X yX9_on.cls cX9_on 4 1) (hZ : SZX X adr) (E : RX X (some .int) sh adr (fun v τ => v = some (.int p.1) ∧ τ = mk p.2 r)) {k : HI → Int32 → Option (Int32 × HI)} (hk : ∀ (h : HI) (v2 : Int32), k h v2 = some p → WW X (sh, adr, 0, 0) 38 [.ref m, .retAddr 0, .int v2, .retAddr 0] [] (mk h r)) : ∀ (n : Nat) (h : HI) (v1 : Int32) (v2 : Int32) (v3 : Int32), fX9_on_4 m k n h v1 v2 v3 = some p → WW X (sh, adr, 0, 0) 4 [.ref m, .int v1, .int v2, .int v3] [] (mk h r) := by
  intro n
  induction n with
  | zero =>
    intro h v1 v2 v3 H
    rw [fX9_on_4] at H
    cases H
  | succ n ih =>
    intro h v1 v2 v3 H
    rw [fX9_on_4] at H
    refine ww_iload_n C dX9_on_4 3 rfl rfl ?_
    refine ww_aload_n C dX9_on_5 0 rfl rfl ?_
    obtain ⟨p1, hc1, H⟩ := bd_of H
    refine ww_callV C hZ dX9_on_6 cw_X9_417 (ccX9_men hS hc1) hS.1 ⟨by decide, rfl⟩ (by decide) rfl rfl (Nat.le_of_ble_eq_true rfl) ⟨Nat.zero_le _, Nat.zero_le _⟩ (fun v τ hp => ?_)
    obtain ⟨rfl, rfl⟩ := hp
    change WW X _ 9 [.ref m, .int v1, .int v2, .int v3] [.int p1.1, .int v3] _
    refine ww_icmp_ge C dX9_on_9 38 rfl (fun hc => ?_) (fun hc => ?_)
    · rw [if_pos hc] at H
      exact ww_drop [.ref m, .retAddr 0, .int v2, .retAddr 0] (sl_e (sl_d (sl_e (sl_d sl_n)))) (hk p1.2 v2 H)
    · rw [if_neg hc] at H
      refine ww_iload_n C dX9_on_12 2 rfl rfl ?_
      refine ww_aload_n C dX9_on_13 0 rfl rfl ?_
      refine wk_getR C dX9_on_14 fl_X9_94 hS.1 rfl (tX9_where hS).1 ?_
      refine ww_iload_n C dX9_on_17 3 rfl rfl ?_
      obtain ⟨hg, H⟩ := gd_of H
      refine wk_iaload C dX9_on_18 (tX9_where hS).2.1 (vp_of hg (tX9_where hS).2.2) (v3.toNatClampNeg) rfl ?_
      refine ww_iload_n C dX9_on_19 1 rfl rfl ?_
      refine ww_icmp_ne C dX9_on_20 29 rfl (fun hc => ?_) (fun hc => ?_)
      · rw [if_neg hc] at H
        refine ww_iconst (v := (0 : Int32)) C dX9_on_29 (by decide) ?_
        exact ww_drop [.ref m, .int v1, .retAddr 0, .int v3] (sl_e (sl_e (sl_d (sl_e sl_n)))) (cX9_on_30 hS C hZ E hk ih H)
      · rw [if_pos hc] at H
        refine ww_iconst (v := (1 : Int32)) C dX9_on_23 (by decide) ?_
        refine ww_iload_n C dX9_on_24 3 rfl rfl ?_
        refine ww_ishl C dX9_on_25 ?_
        refine ww_goto C dX9_on_26 30 rfl ?_
        exact ww_drop [.ref m, .int v1, .retAddr 0, .int v3] (sl_e (sl_e (sl_d (sl_e sl_n)))) (cX9_on_30 hS C hZ E hk ih H)
def fX9_on (m : Nat) (h : HI) (a1 : Int32) : Option (Int32 × HI) := fX9_on_4 m (fun h3 v2 => some (v2, h3)) FU h a1 (0 : Int32) (0 : Int32)
set_option maxRecDepth 100000 in
set_option maxHeartbeats 4000000 in
theorem ccX9_on {l : Launch} {sh : Sh} {adr : Nat → Nat} {r : Nat → Nat → Option Nat} {m : Nat} (hS : MS sh r m) {h : HI} {a1 : Int32} {p : Int32 × HI} (H : fX9_on m h a1 = some p) : CC l yX9_on cX9_on 4 (some .int) 1 [.ref m, .int a1] sh adr (mk h r) (fun v τ => v = some (.int p.1) ∧ τ = mk p.2 r) := by
  refine CC.of (by decide) (Nat.le_of_ble_eq_true rfl) 2 [.ref m, .int a1, .retAddr 0, .retAddr 0] rfl (fun X _ C E hZ => ?_)
  rw [fX9_on] at H
  refine ww_iconst (v := (0 : Int32)) C dX9_on_0 (by decide) ?_
  refine ww_istore_n C dX9_on_1 2 rfl (by decide) rfl [.ref m, .int a1, .int (0 : Int32), .retAddr 0] rfl ?_
  refine ww_iconst (v := (0 : Int32)) C dX9_on_2 (by decide) ?_
  refine ww_istore_n C dX9_on_3 3 rfl (by decide) rfl [.ref m, .int a1, .int (0 : Int32), .int (0 : Int32)] rfl ?_
  refine cX9_on_4 hS C hZ E (fun h3 v2 H => ?_) FU h a1 (0 : Int32) (0 : Int32) H
  refine ww_iload_n C dX9_on_38 2 rfl rfl ?_
  cases H
  exact ww_iret C E dX9_on_39 ⟨rfl, rfl⟩
def fX9_upSet_29 (m : Nat) (k : HI → Int32 → Option (Int32 × HI)) (kb : HI → Int32 → Int32 → Option (Int32 × HI)) (h : HI) (v2 : Int32) (s0 : Int32) (s1 : Int32) : Option (Int32 × HI) := kb h (s1 ||| s0) (v2 + (1 : Int32))
set_option maxRecDepth 100000 in
set_option maxHeartbeats 4000000 in
theorem cX9_upSet_29 {X : CT} {sh : Sh} {adr : Nat → Nat} {r : Nat → Nat → Option Nat} {m : Nat} {p : Int32 × HI} (hS : MS sh r m) (C : CX X yX9_upSet.cls cX9_upSet 3 1) (hZ : SZX X adr) (E : RX X (some .int) sh adr (fun v τ => v = some (.int p.1) ∧ τ = mk p.2 r)) {k : HI → Int32 → Option (Int32 × HI)} {kb : HI → Int32 → Int32 → Option (Int32 × HI)} (hk : ∀ (h : HI) (v1 : Int32), k h v1 = some p → WW X (sh, adr, 0, 0) 37 [.ref m, .int v1, .retAddr 0] [] (mk h r)) (hb : ∀ (h : HI) (v1 : Int32) (v2 : Int32), kb h v1 v2 = some p → WW X (sh, adr, 0, 0) 4 [.ref m, .int v1, .int v2] [] (mk h r)) {h : HI} {v2 : Int32} {s0 : Int32} {s1 : Int32} (H : fX9_upSet_29 m k kb h v2 s0 s1 = some p) : WW X (sh, adr, 0, 0) 29 [.ref m, .retAddr 0, .int v2] [.int s0, .int s1] (mk h r) := by
  rw [fX9_upSet_29] at H
  refine ww_ior C dX9_upSet_29 ?_
  refine ww_istore_n C dX9_upSet_30 1 rfl (by decide) rfl [.ref m, .int (s1 ||| s0), .int v2] rfl ?_
  refine ww_iinc (v := (v2 + (1 : Int32))) C dX9_upSet_31 rfl rfl (by decide) rfl [.ref m, .int (s1 ||| s0), .int (v2 + (1 : Int32))] rfl ?_
  refine ww_goto C dX9_upSet_34 4 rfl ?_
  exact hb h (s1 ||| s0) (v2 + (1 : Int32)) H
def fX9_upSet_4 (m : Nat) (k : HI → Int32 → Option (Int32 × HI)) : Nat → HI → Int32 → Int32 → Option (Int32 × HI)
  | 0, _, _, _ => none
  | n + 1, h, v1, v2 => ((fX9_men m h).bind fun p1 => (if p1.1 ≤ v2 then k p1.2 v1 else (if inB v2 6 then (if 0 ≤ (p1.2.1 (m + 27) (v2.toNatClampNeg)) then fX9_upSet_29 m (k) (fX9_upSet_4 m k n) p1.2 v2 (0 : Int32) v1 else fX9_upSet_29 m (k) (fX9_upSet_4 m k n) p1.2 v2 ((1 : Int32) <<< (v2 &&& 31)) v1) else none)))
set_option maxRecDepth 100000 in
set_option maxHeartbeats 4000000 in
theorem cX9_upSet_4 {X : CT} {sh : Sh} {adr : Nat → Nat} {r : Nat → Nat → Option Nat} {m : Nat} {p : Int32 × HI} (hS : MS sh r m) (C : CX X yX9_upSet.cls cX9_upSet 3 1) (hZ : SZX X adr) (E : RX X (some .int) sh adr (fun v τ => v = some (.int p.1) ∧ τ = mk p.2 r)) {k : HI → Int32 → Option (Int32 × HI)} (hk : ∀ (h : HI) (v1 : Int32), k h v1 = some p → WW X (sh, adr, 0, 0) 37 [.ref m, .int v1, .retAddr 0] [] (mk h r)) : ∀ (n : Nat) (h : HI) (v1 : Int32) (v2 : Int32), fX9_upSet_4 m k n h v1 v2 = some p → WW X (sh, adr, 0, 0) 4 [.ref m, .int v1, .int v2] [] (mk h r) := by
  intro n
  induction n with
  | zero =>
    intro h v1 v2 H
    rw [fX9_upSet_4] at H
    cases H
  | succ n ih =>
    intro h v1 v2 H
    rw [fX9_upSet_4] at H
    refine ww_iload_n C dX9_upSet_4 2 rfl rfl ?_
    refine ww_aload_n C dX9_upSet_5 0 rfl rfl ?_
    obtain ⟨p1, hc1, H⟩ := bd_of H
    refine ww_callV C hZ dX9_upSet_6 cw_X9_417 (ccX9_men hS hc1) hS.1 ⟨by decide, rfl⟩ (by decide) rfl rfl (Nat.le_of_ble_eq_true rfl) ⟨Nat.zero_le _, Nat.zero_le _⟩ (fun v τ hp => ?_)
    obtain ⟨rfl, rfl⟩ := hp
    change WW X _ 9 [.ref m, .int v1, .int v2] [.int p1.1, .int v2] _
    refine ww_icmp_ge C dX9_upSet_9 37 rfl (fun hc => ?_) (fun hc => ?_)
    · rw [if_pos hc] at H
      exact ww_drop [.ref m, .int v1, .retAddr 0] (sl_e (sl_e (sl_d sl_n))) (hk p1.2 v1 H)
    · rw [if_neg hc] at H
      refine ww_iload_n C dX9_upSet_12 1 rfl rfl ?_
      refine ww_aload_n C dX9_upSet_13 0 rfl rfl ?_
      refine wk_getR C dX9_upSet_14 fl_X9_94 hS.1 rfl (tX9_where hS).1 ?_
      refine ww_iload_n C dX9_upSet_17 2 rfl rfl ?_
      obtain ⟨hg, H⟩ := gd_of H
      refine wk_iaload C dX9_upSet_18 (tX9_where hS).2.1 (vp_of hg (tX9_where hS).2.2) (v2.toNatClampNeg) rfl ?_
      refine ww_if_ge C dX9_upSet_19 28 rfl (fun hc => ?_) (fun hc => ?_)
      · rw [if_pos hc] at H
        refine ww_iconst (v := (0 : Int32)) C dX9_upSet_28 (by decide) ?_
        exact ww_drop [.ref m, .retAddr 0, .int v2] (sl_e (sl_d (sl_e sl_n))) (cX9_upSet_29 hS C hZ E hk ih H)
      · rw [if_neg hc] at H
        refine ww_iconst (v := (1 : Int32)) C dX9_upSet_22 (by decide) ?_
        refine ww_iload_n C dX9_upSet_23 2 rfl rfl ?_
        refine ww_ishl C dX9_upSet_24 ?_
        refine ww_goto C dX9_upSet_25 29 rfl ?_
        exact ww_drop [.ref m, .retAddr 0, .int v2] (sl_e (sl_d (sl_e sl_n))) (cX9_upSet_29 hS C hZ E hk ih H)
def fX9_upSet (m : Nat) (h : HI) : Option (Int32 × HI) := fX9_upSet_4 m (fun h3 v1 => some (v1, h3)) FU h (0 : Int32) (0 : Int32)
set_option maxRecDepth 100000 in
set_option maxHeartbeats 4000000 in
theorem ccX9_upSet {l : Launch} {sh : Sh} {adr : Nat → Nat} {r : Nat → Nat → Option Nat} {m : Nat} (hS : MS sh r m) {h : HI}  {p : Int32 × HI} (H : fX9_upSet m h = some p) : CC l yX9_upSet cX9_upSet 3 (some .int) 1 [.ref m] sh adr (mk h r) (fun v τ => v = some (.int p.1) ∧ τ = mk p.2 r) := by
  refine CC.of (by decide) (Nat.le_of_ble_eq_true rfl) 2 [.ref m, .retAddr 0, .retAddr 0] rfl (fun X _ C E hZ => ?_)
  rw [fX9_upSet] at H
  refine ww_iconst (v := (0 : Int32)) C dX9_upSet_0 (by decide) ?_
  refine ww_istore_n C dX9_upSet_1 1 rfl (by decide) rfl [.ref m, .int (0 : Int32), .retAddr 0] rfl ?_
  refine ww_iconst (v := (0 : Int32)) C dX9_upSet_2 (by decide) ?_
  refine ww_istore_n C dX9_upSet_3 2 rfl (by decide) rfl [.ref m, .int (0 : Int32), .int (0 : Int32)] rfl ?_
  refine cX9_upSet_4 hS C hZ E (fun h3 v1 H => ?_) FU h (0 : Int32) (0 : Int32) H
  refine ww_iload_n C dX9_upSet_37 1 rfl rfl ?_
  cases H
  exact ww_iret C E dX9_upSet_38 ⟨rfl, rfl⟩
def fX9_hereSet_28 (m : Nat) (k : HI → Int32 → Option (Int32 × HI)) (kb : HI → Int32 → Int32 → Option (Int32 × HI)) (h : HI) (v2 : Int32) (s0 : Int32) (s1 : Int32) : Option (Int32 × HI) := kb h (s1 ||| s0) (v2 + (1 : Int32))
set_option maxRecDepth 100000 in
set_option maxHeartbeats 4000000 in
theorem cX9_hereSet_28 {X : CT} {sh : Sh} {adr : Nat → Nat} {r : Nat → Nat → Option Nat} {m : Nat} {p : Int32 × HI} (hS : MS sh r m) (C : CX X yX9_hereSet.cls cX9_hereSet 3 1) (hZ : SZX X adr) (E : RX X (some .int) sh adr (fun v τ => v = some (.int p.1) ∧ τ = mk p.2 r)) {k : HI → Int32 → Option (Int32 × HI)} {kb : HI → Int32 → Int32 → Option (Int32 × HI)} (hk : ∀ (h : HI) (v1 : Int32), k h v1 = some p → WW X (sh, adr, 0, 0) 36 [.ref m, .int v1, .retAddr 0] [] (mk h r)) (hb : ∀ (h : HI) (v1 : Int32) (v2 : Int32), kb h v1 v2 = some p → WW X (sh, adr, 0, 0) 4 [.ref m, .int v1, .int v2] [] (mk h r)) {h : HI} {v2 : Int32} {s0 : Int32} {s1 : Int32} (H : fX9_hereSet_28 m k kb h v2 s0 s1 = some p) : WW X (sh, adr, 0, 0) 28 [.ref m, .retAddr 0, .int v2] [.int s0, .int s1] (mk h r) := by
  rw [fX9_hereSet_28] at H
  refine ww_ior C dX9_hereSet_28 ?_
  refine ww_istore_n C dX9_hereSet_29 1 rfl (by decide) rfl [.ref m, .int (s1 ||| s0), .int v2] rfl ?_
  refine ww_iinc (v := (v2 + (1 : Int32))) C dX9_hereSet_30 rfl rfl (by decide) rfl [.ref m, .int (s1 ||| s0), .int (v2 + (1 : Int32))] rfl ?_
  refine ww_goto C dX9_hereSet_33 4 rfl ?_
  exact hb h (s1 ||| s0) (v2 + (1 : Int32)) H
def fX9_hereSet_4 (m : Nat) (k : HI → Int32 → Option (Int32 × HI)) : Nat → HI → Int32 → Int32 → Option (Int32 × HI)
  | 0, _, _, _ => none
  | n + 1, h, v1, v2 => ((fX9_men m h).bind fun p1 => (if p1.1 ≤ v2 then k p1.2 v1 else ((fX9_isHere m p1.2 v2).bind fun p2 => (if p2.1 = 0 then fX9_hereSet_28 m (k) (fX9_hereSet_4 m k n) p2.2 v2 (0 : Int32) v1 else fX9_hereSet_28 m (k) (fX9_hereSet_4 m k n) p2.2 v2 ((1 : Int32) <<< (v2 &&& 31)) v1))))
set_option maxRecDepth 100000 in
set_option maxHeartbeats 4000000 in
theorem cX9_hereSet_4 {X : CT} {sh : Sh} {adr : Nat → Nat} {r : Nat → Nat → Option Nat} {m : Nat} {p : Int32 × HI} (hS : MS sh r m) (C : CX X yX9_hereSet.cls cX9_hereSet 3 1) (hZ : SZX X adr) (E : RX X (some .int) sh adr (fun v τ => v = some (.int p.1) ∧ τ = mk p.2 r)) {k : HI → Int32 → Option (Int32 × HI)} (hk : ∀ (h : HI) (v1 : Int32), k h v1 = some p → WW X (sh, adr, 0, 0) 36 [.ref m, .int v1, .retAddr 0] [] (mk h r)) : ∀ (n : Nat) (h : HI) (v1 : Int32) (v2 : Int32), fX9_hereSet_4 m k n h v1 v2 = some p → WW X (sh, adr, 0, 0) 4 [.ref m, .int v1, .int v2] [] (mk h r) := by
  intro n
  induction n with
  | zero =>
    intro h v1 v2 H
    rw [fX9_hereSet_4] at H
    cases H
  | succ n ih =>
    intro h v1 v2 H
    rw [fX9_hereSet_4] at H
    refine ww_iload_n C dX9_hereSet_4 2 rfl rfl ?_
    refine ww_aload_n C dX9_hereSet_5 0 rfl rfl ?_
    obtain ⟨p1, hc1, H⟩ := bd_of H
    refine ww_callV C hZ dX9_hereSet_6 cw_X9_417 (ccX9_men hS hc1) hS.1 ⟨by decide, rfl⟩ (by decide) rfl rfl (Nat.le_of_ble_eq_true rfl) ⟨Nat.zero_le _, Nat.zero_le _⟩ (fun v τ hp => ?_)
    obtain ⟨rfl, rfl⟩ := hp
    change WW X _ 9 [.ref m, .int v1, .int v2] [.int p1.1, .int v2] _
    refine ww_icmp_ge C dX9_hereSet_9 36 rfl (fun hc => ?_) (fun hc => ?_)
    · rw [if_pos hc] at H
      exact ww_drop [.ref m, .int v1, .retAddr 0] (sl_e (sl_e (sl_d sl_n))) (hk p1.2 v1 H)
    · rw [if_neg hc] at H
      refine ww_iload_n C dX9_hereSet_12 1 rfl rfl ?_
      refine ww_aload_n C dX9_hereSet_13 0 rfl rfl ?_
      refine ww_iload_n C dX9_hereSet_14 2 rfl rfl ?_
      obtain ⟨p2, hc1, H⟩ := bd_of H
      refine ww_callV C hZ dX9_hereSet_15 cw_X9_436 (ccX9_isHere hS hc1) hS.1 ⟨by decide, rfl⟩ (by decide) rfl rfl (Nat.le_of_ble_eq_true rfl) ⟨Nat.zero_le _, Nat.zero_le _⟩ (fun v τ hp => ?_)
      obtain ⟨rfl, rfl⟩ := hp
      change WW X _ 18 [.ref m, .int v1, .int v2] [.int p2.1, .int v1] _
      refine ww_if_eq C dX9_hereSet_18 27 rfl (fun hc => ?_) (fun hc => ?_)
      · rw [if_pos hc] at H
        refine ww_iconst (v := (0 : Int32)) C dX9_hereSet_27 (by decide) ?_
        exact ww_drop [.ref m, .retAddr 0, .int v2] (sl_e (sl_d (sl_e sl_n))) (cX9_hereSet_28 hS C hZ E hk ih H)
      · rw [if_neg hc] at H
        refine ww_iconst (v := (1 : Int32)) C dX9_hereSet_21 (by decide) ?_
        refine ww_iload_n C dX9_hereSet_22 2 rfl rfl ?_
        refine ww_ishl C dX9_hereSet_23 ?_
        refine ww_goto C dX9_hereSet_24 28 rfl ?_
        exact ww_drop [.ref m, .retAddr 0, .int v2] (sl_e (sl_d (sl_e sl_n))) (cX9_hereSet_28 hS C hZ E hk ih H)
def fX9_hereSet (m : Nat) (h : HI) : Option (Int32 × HI) := fX9_hereSet_4 m (fun h4 v1 => some (v1, h4)) FU h (0 : Int32) (0 : Int32)
set_option maxRecDepth 100000 in
set_option maxHeartbeats 4000000 in
theorem ccX9_hereSet {l : Launch} {sh : Sh} {adr : Nat → Nat} {r : Nat → Nat → Option Nat} {m : Nat} (hS : MS sh r m) {h : HI}  {p : Int32 × HI} (H : fX9_hereSet m h = some p) : CC l yX9_hereSet cX9_hereSet 3 (some .int) 1 [.ref m] sh adr (mk h r) (fun v τ => v = some (.int p.1) ∧ τ = mk p.2 r) := by
  refine CC.of (by decide) (Nat.le_of_ble_eq_true rfl) 2 [.ref m, .retAddr 0, .retAddr 0] rfl (fun X _ C E hZ => ?_)
  rw [fX9_hereSet] at H
  refine ww_iconst (v := (0 : Int32)) C dX9_hereSet_0 (by decide) ?_
  refine ww_istore_n C dX9_hereSet_1 1 rfl (by decide) rfl [.ref m, .int (0 : Int32), .retAddr 0] rfl ?_
  refine ww_iconst (v := (0 : Int32)) C dX9_hereSet_2 (by decide) ?_
  refine ww_istore_n C dX9_hereSet_3 2 rfl (by decide) rfl [.ref m, .int (0 : Int32), .int (0 : Int32)] rfl ?_
  refine cX9_hereSet_4 hS C hZ E (fun h4 v1 H => ?_) FU h (0 : Int32) (0 : Int32) H
  refine ww_iload_n C dX9_hereSet_36 1 rfl rfl ?_
  cases H
  exact ww_iret C E dX9_hereSet_37 ⟨rfl, rfl⟩
def fX9_hasRoom (m : Nat) (h : HI) (a1 : Int32) : Option (Int32 × HI) := (if inB a1 6 then (if (h.1 (m + 33) (a1.toNatClampNeg)) = 0 then ((fX9_on m h a1).bind fun p1 => ((fX9_ones p1.2 p1.1).bind fun p2 => (if inB a1 6 then (if (p2.2.1 (m + 17) (a1.toNatClampNeg)) ≤ p2.1 then some ((0 : Int32), p2.2) else some ((1 : Int32), p2.2)) else none))) else some ((0 : Int32), h)) else none)
set_option maxRecDepth 100000 in
set_option maxHeartbeats 4000000 in
theorem ccX9_hasRoom {l : Launch} {sh : Sh} {adr : Nat → Nat} {r : Nat → Nat → Option Nat} {m : Nat} (hS : MS sh r m) {h : HI} {a1 : Int32} {p : Int32 × HI} (H : fX9_hasRoom m h a1 = some p) : CC l yX9_hasRoom cX9_hasRoom 2 (some .boolean) 2 [.ref m, .int a1] sh adr (mk h r) (fun v τ => v = some (.int p.1) ∧ τ = mk p.2 r) := by
  refine CC.of (by decide) (Nat.le_of_ble_eq_true rfl) 0 [.ref m, .int a1] rfl (fun X _ C E hZ => ?_)
  rw [fX9_hasRoom] at H
  refine ww_aload_n C dX9_hasRoom_0 0 rfl rfl ?_
  refine wk_getR C dX9_hasRoom_1 fl_X9_112 hS.1 rfl (tX9_isBroken hS).1 ?_
  refine ww_iload_n C dX9_hasRoom_4 1 rfl rfl ?_
  obtain ⟨hg, H⟩ := gd_of H
  refine wk_zaload C dX9_hasRoom_5 (tX9_isBroken hS).2.1 (vp_of hg (tX9_isBroken hS).2.2) (a1.toNatClampNeg) rfl ?_
  refine ww_if_ne C dX9_hasRoom_6 30 rfl (fun hc => ?_) (fun hc => ?_)
  · rw [if_neg hc] at H
    refine ww_iconst (v := (0 : Int32)) C dX9_hasRoom_30 (by decide) ?_
    cases H
    exact ww_zret C E dX9_hasRoom_31 (Or.inl rfl) ⟨rfl, rfl⟩
  · rw [if_pos hc] at H
    refine ww_aload_n C dX9_hasRoom_9 0 rfl rfl ?_
    refine ww_iload_n C dX9_hasRoom_10 1 rfl rfl ?_
    obtain ⟨p1, hc1, H⟩ := bd_of H
    refine ww_callV C hZ dX9_hasRoom_11 cw_X9_439 (ccX9_on hS hc1) hS.1 ⟨by decide, rfl⟩ (by decide) rfl rfl (Nat.le_of_ble_eq_true rfl) ⟨Nat.zero_le _, Nat.zero_le _⟩ (fun v τ hp => ?_)
    obtain ⟨rfl, rfl⟩ := hp
    change WW X _ 14 [.ref m, .int a1] [.int p1.1] _
    obtain ⟨p2, hc1, H⟩ := bd_of H
    refine ww_callS C hZ dX9_hasRoom_14 sw_X9_442 (ccX9_ones hc1) (by decide) rfl rfl (Nat.le_of_ble_eq_true rfl) ⟨Nat.zero_le _, Nat.zero_le _⟩ (fun v τ hp => ?_)
    obtain ⟨rfl, rfl⟩ := hp
    change WW X _ 17 [.ref m, .int a1] [.int p2.1] _
    refine ww_aload_n C dX9_hasRoom_17 0 rfl rfl ?_
    refine wk_getR C dX9_hasRoom_18 fl_X9_63 hS.1 rfl (tX9_holds hS).1 ?_
    refine ww_iload_n C dX9_hasRoom_21 1 rfl rfl ?_
    obtain ⟨hg, H⟩ := gd_of H
    refine wk_iaload C dX9_hasRoom_22 (tX9_holds hS).2.1 (vp_of hg (tX9_holds hS).2.2) (a1.toNatClampNeg) rfl ?_
    refine ww_icmp_ge C dX9_hasRoom_23 30 rfl (fun hc => ?_) (fun hc => ?_)
    · rw [if_pos hc] at H
      refine ww_iconst (v := (0 : Int32)) C dX9_hasRoom_30 (by decide) ?_
      cases H
      exact ww_zret C E dX9_hasRoom_31 (Or.inl rfl) ⟨rfl, rfl⟩
    · rw [if_neg hc] at H
      refine ww_iconst (v := (1 : Int32)) C dX9_hasRoom_26 (by decide) ?_
      refine ww_goto C dX9_hasRoom_27 31 rfl ?_
      cases H
      exact ww_zret C E dX9_hasRoom_31 (Or.inr rfl) ⟨rfl, rfl⟩
def fX9_doesNap (m : Nat) (h : HI) (a1 : Int32) : Option (Int32 × HI) := (if inB a1 6 then (if (h.1 (m + 27) (a1.toNatClampNeg)) < 0 then some ((0 : Int32), h) else (if (h.1 m 46) ≤ 0 then some ((0 : Int32), h) else (if inB a1 6 then (if (h.1 (m + 29) (a1.toNatClampNeg)) < (h.1 m 46) then some ((0 : Int32), h) else some ((1 : Int32), h)) else none))) else none)
set_option maxRecDepth 100000 in
set_option maxHeartbeats 4000000 in
theorem ccX9_doesNap {l : Launch} {sh : Sh} {adr : Nat → Nat} {r : Nat → Nat → Option Nat} {m : Nat} (hS : MS sh r m) {h : HI} {a1 : Int32} {p : Int32 × HI} (H : fX9_doesNap m h a1 = some p) : CC l yX9_doesNap cX9_doesNap 2 (some .boolean) 0 [.ref m, .int a1] sh adr (mk h r) (fun v τ => v = some (.int p.1) ∧ τ = mk p.2 r) := by
  refine CC.of (by decide) (Nat.le_of_ble_eq_true rfl) 0 [.ref m, .int a1] rfl (fun X _ C E hZ => ?_)
  rw [fX9_doesNap] at H
  refine ww_aload_n C dX9_doesNap_0 0 rfl rfl ?_
  refine wk_getR C dX9_doesNap_1 fl_X9_94 hS.1 rfl (tX9_where hS).1 ?_
  refine ww_iload_n C dX9_doesNap_4 1 rfl rfl ?_
  obtain ⟨hg, H⟩ := gd_of H
  refine wk_iaload C dX9_doesNap_5 (tX9_where hS).2.1 (vp_of hg (tX9_where hS).2.2) (a1.toNatClampNeg) rfl ?_
  refine ww_if_lt C dX9_doesNap_6 33 rfl (fun hc => ?_) (fun hc => ?_)
  · rw [if_pos hc] at H
    refine ww_iconst (v := (0 : Int32)) C dX9_doesNap_33 (by decide) ?_
    cases H
    exact ww_zret C E dX9_doesNap_34 (Or.inl rfl) ⟨rfl, rfl⟩
  · rw [if_neg hc] at H
    refine ww_aload_n C dX9_doesNap_9 0 rfl rfl ?_
    refine wk_getI C dX9_doesNap_10 fl_X9_401 hS.1 rfl ?_
    refine ww_if_le C dX9_doesNap_13 33 rfl (fun hc => ?_) (fun hc => ?_)
    · rw [if_pos hc] at H
      refine ww_iconst (v := (0 : Int32)) C dX9_doesNap_33 (by decide) ?_
      cases H
      exact ww_zret C E dX9_doesNap_34 (Or.inl rfl) ⟨rfl, rfl⟩
    · rw [if_neg hc] at H
      refine ww_aload_n C dX9_doesNap_16 0 rfl rfl ?_
      refine wk_getR C dX9_doesNap_17 fl_X9_100 hS.1 rfl (tX9_satFor hS).1 ?_
      refine ww_iload_n C dX9_doesNap_20 1 rfl rfl ?_
      obtain ⟨hg, H⟩ := gd_of H
      refine wk_iaload C dX9_doesNap_21 (tX9_satFor hS).2.1 (vp_of hg (tX9_satFor hS).2.2) (a1.toNatClampNeg) rfl ?_
      refine ww_aload_n C dX9_doesNap_22 0 rfl rfl ?_
      refine wk_getI C dX9_doesNap_23 fl_X9_401 hS.1 rfl ?_
      refine ww_icmp_lt C dX9_doesNap_26 33 rfl (fun hc => ?_) (fun hc => ?_)
      · rw [if_pos hc] at H
        refine ww_iconst (v := (0 : Int32)) C dX9_doesNap_33 (by decide) ?_
        cases H
        exact ww_zret C E dX9_doesNap_34 (Or.inl rfl) ⟨rfl, rfl⟩
      · rw [if_neg hc] at H
        refine ww_iconst (v := (1 : Int32)) C dX9_doesNap_29 (by decide) ?_
        refine ww_goto C dX9_doesNap_30 34 rfl ?_
        cases H
        exact ww_zret C E dX9_doesNap_34 (Or.inr rfl) ⟨rfl, rfl⟩
def fX9_voters_51 (m : Nat) (k : HI → Int32 → Option (Int32 × HI)) (kb : HI → Int32 → Int32 → Option (Int32 × HI)) (h : HI) (v2 : Int32) (s0 : Int32) (s1 : Int32) : Option (Int32 × HI) := kb h (s1 ||| s0) (v2 + (1 : Int32))
set_option maxRecDepth 100000 in
set_option maxHeartbeats 4000000 in
theorem cX9_voters_51 {X : CT} {sh : Sh} {adr : Nat → Nat} {r : Nat → Nat → Option Nat} {m : Nat} {p : Int32 × HI} (hS : MS sh r m) (C : CX X yX9_voters.cls cX9_voters 3 1) (hZ : SZX X adr) (E : RX X (some .int) sh adr (fun v τ => v = some (.int p.1) ∧ τ = mk p.2 r)) {k : HI → Int32 → Option (Int32 × HI)} {kb : HI → Int32 → Int32 → Option (Int32 × HI)} (hk : ∀ (h : HI) (v1 : Int32), k h v1 = some p → WW X (sh, adr, 0, 0) 59 [.ref m, .int v1, .retAddr 0] [] (mk h r)) (hb : ∀ (h : HI) (v1 : Int32) (v2 : Int32), kb h v1 v2 = some p → WW X (sh, adr, 0, 0) 4 [.ref m, .int v1, .int v2] [] (mk h r)) {h : HI} {v2 : Int32} {s0 : Int32} {s1 : Int32} (H : fX9_voters_51 m k kb h v2 s0 s1 = some p) : WW X (sh, adr, 0, 0) 51 [.ref m, .retAddr 0, .int v2] [.int s0, .int s1] (mk h r) := by
  rw [fX9_voters_51] at H
  refine ww_ior C dX9_voters_51 ?_
  refine ww_istore_n C dX9_voters_52 1 rfl (by decide) rfl [.ref m, .int (s1 ||| s0), .int v2] rfl ?_
  refine ww_iinc (v := (v2 + (1 : Int32))) C dX9_voters_53 rfl rfl (by decide) rfl [.ref m, .int (s1 ||| s0), .int (v2 + (1 : Int32))] rfl ?_
  refine ww_goto C dX9_voters_56 4 rfl ?_
  exact hb h (s1 ||| s0) (v2 + (1 : Int32)) H
def fX9_voters_50 (m : Nat) (k : HI → Int32 → Option (Int32 × HI)) (kb : HI → Int32 → Int32 → Option (Int32 × HI)) (h : HI) (v2 : Int32) (s0 : Int32) : Option (Int32 × HI) := fX9_voters_51 m k kb h v2 (0 : Int32) s0
set_option maxRecDepth 100000 in
set_option maxHeartbeats 4000000 in
theorem cX9_voters_50 {X : CT} {sh : Sh} {adr : Nat → Nat} {r : Nat → Nat → Option Nat} {m : Nat} {p : Int32 × HI} (hS : MS sh r m) (C : CX X yX9_voters.cls cX9_voters 3 1) (hZ : SZX X adr) (E : RX X (some .int) sh adr (fun v τ => v = some (.int p.1) ∧ τ = mk p.2 r)) {k : HI → Int32 → Option (Int32 × HI)} {kb : HI → Int32 → Int32 → Option (Int32 × HI)} (hk : ∀ (h : HI) (v1 : Int32), k h v1 = some p → WW X (sh, adr, 0, 0) 59 [.ref m, .int v1, .retAddr 0] [] (mk h r)) (hb : ∀ (h : HI) (v1 : Int32) (v2 : Int32), kb h v1 v2 = some p → WW X (sh, adr, 0, 0) 4 [.ref m, .int v1, .int v2] [] (mk h r)) {h : HI} {v2 : Int32} {s0 : Int32} (H : fX9_voters_50 m k kb h v2 s0 = some p) : WW X (sh, adr, 0, 0) 50 [.ref m, .retAddr 0, .int v2] [.int s0] (mk h r) := by
  rw [fX9_voters_50] at H
  refine ww_iconst (v := (0 : Int32)) C dX9_voters_50 (by decide) ?_
  exact cX9_voters_51 hS C hZ E hk hb H
def fX9_voters_4 (m : Nat) (k : HI → Int32 → Option (Int32 × HI)) : Nat → HI → Int32 → Int32 → Option (Int32 × HI)
  | 0, _, _, _ => none
  | n + 1, h, v1, v2 => ((fX9_men m h).bind fun p1 => (if p1.1 ≤ v2 then k p1.2 v1 else (if inB v2 6 then (if (p1.2.1 (m + 27) (v2.toNatClampNeg)) < 0 then fX9_voters_50 m (k) (fX9_voters_4 m k n) p1.2 v2 v1 else ((fX9_doesNap m p1.2 v2).bind fun p2 => (if p2.1 = 0 then (if inB v2 6 then (if inB (p2.2.1 (m + 27) (v2.toNatClampNeg)) 6 then (if (p2.2.1 (m + 34) ((p2.2.1 (m + 27) (v2.toNatClampNeg)).toNatClampNeg)) = 0 then fX9_voters_51 m (k) (fX9_voters_4 m k n) p2.2 v2 ((1 : Int32) <<< (v2 &&& 31)) v1 else fX9_voters_50 m (k) (fX9_voters_4 m k n) p2.2 v2 v1) else none) else none) else fX9_voters_50 m (k) (fX9_voters_4 m k n) p2.2 v2 v1))) else none)))
set_option maxRecDepth 100000 in
set_option maxHeartbeats 4000000 in
theorem cX9_voters_4 {X : CT} {sh : Sh} {adr : Nat → Nat} {r : Nat → Nat → Option Nat} {m : Nat} {p : Int32 × HI} (hS : MS sh r m) (C : CX X yX9_voters.cls cX9_voters 3 1) (hZ : SZX X adr) (E : RX X (some .int) sh adr (fun v τ => v = some (.int p.1) ∧ τ = mk p.2 r)) {k : HI → Int32 → Option (Int32 × HI)} (hk : ∀ (h : HI) (v1 : Int32), k h v1 = some p → WW X (sh, adr, 0, 0) 59 [.ref m, .int v1, .retAddr 0] [] (mk h r)) : ∀ (n : Nat) (h : HI) (v1 : Int32) (v2 : Int32), fX9_voters_4 m k n h v1 v2 = some p → WW X (sh, adr, 0, 0) 4 [.ref m, .int v1, .int v2] [] (mk h r) := by
  intro n
  induction n with
  | zero =>
    intro h v1 v2 H
    rw [fX9_voters_4] at H
    cases H
  | succ n ih =>
    intro h v1 v2 H
    rw [fX9_voters_4] at H
    refine ww_iload_n C dX9_voters_4 2 rfl rfl ?_
    refine ww_aload_n C dX9_voters_5 0 rfl rfl ?_
    obtain ⟨p1, hc1, H⟩ := bd_of H
    refine ww_callV C hZ dX9_voters_6 cw_X9_417 (ccX9_men hS hc1) hS.1 ⟨by decide, rfl⟩ (by decide) rfl rfl (Nat.le_of_ble_eq_true rfl) ⟨Nat.zero_le _, Nat.zero_le _⟩ (fun v τ hp => ?_)
    obtain ⟨rfl, rfl⟩ := hp
    change WW X _ 9 [.ref m, .int v1, .int v2] [.int p1.1, .int v2] _
    refine ww_icmp_ge C dX9_voters_9 59 rfl (fun hc => ?_) (fun hc => ?_)
    · rw [if_pos hc] at H
      exact ww_drop [.ref m, .int v1, .retAddr 0] (sl_e (sl_e (sl_d sl_n))) (hk p1.2 v1 H)
    · rw [if_neg hc] at H
      refine ww_iload_n C dX9_voters_12 1 rfl rfl ?_
      refine ww_aload_n C dX9_voters_13 0 rfl rfl ?_
      refine wk_getR C dX9_voters_14 fl_X9_94 hS.1 rfl (tX9_where hS).1 ?_
      refine ww_iload_n C dX9_voters_17 2 rfl rfl ?_
      obtain ⟨hg, H⟩ := gd_of H
      refine wk_iaload C dX9_voters_18 (tX9_where hS).2.1 (vp_of hg (tX9_where hS).2.2) (v2.toNatClampNeg) rfl ?_
      refine ww_if_lt C dX9_voters_19 50 rfl (fun hc => ?_) (fun hc => ?_)
      · rw [if_pos hc] at H
        exact ww_drop [.ref m, .retAddr 0, .int v2] (sl_e (sl_d (sl_e sl_n))) (cX9_voters_50 hS C hZ E hk ih H)
      · rw [if_neg hc] at H
        refine ww_aload_n C dX9_voters_22 0 rfl rfl ?_
        refine ww_iload_n C dX9_voters_23 2 rfl rfl ?_
        obtain ⟨p2, hc1, H⟩ := bd_of H
        refine ww_callV C hZ dX9_voters_24 cw_X9_445 (ccX9_doesNap hS hc1) hS.1 ⟨by decide, rfl⟩ (by decide) rfl rfl (Nat.le_of_ble_eq_true rfl) ⟨Nat.zero_le _, Nat.zero_le _⟩ (fun v τ hp => ?_)
        obtain ⟨rfl, rfl⟩ := hp
        change WW X _ 27 [.ref m, .int v1, .int v2] [.int p2.1, .int v1] _
        refine ww_if_ne C dX9_voters_27 50 rfl (fun hc => ?_) (fun hc => ?_)
        · rw [if_neg hc] at H
          exact ww_drop [.ref m, .retAddr 0, .int v2] (sl_e (sl_d (sl_e sl_n))) (cX9_voters_50 hS C hZ E hk ih H)
        · rw [if_pos hc] at H
          refine ww_aload_n C dX9_voters_30 0 rfl rfl ?_
          refine wk_getR C dX9_voters_31 fl_X9_115 hS.1 rfl (tX9_isFound hS).1 ?_
          refine ww_aload_n C dX9_voters_34 0 rfl rfl ?_
          refine wk_getR C dX9_voters_35 fl_X9_94 hS.1 rfl (tX9_where hS).1 ?_
          refine ww_iload_n C dX9_voters_38 2 rfl rfl ?_
          obtain ⟨hg, H⟩ := gd_of H
          refine wk_iaload C dX9_voters_39 (tX9_where hS).2.1 (vp_of hg (tX9_where hS).2.2) (v2.toNatClampNeg) rfl ?_
          obtain ⟨hg, H⟩ := gd_of H
          refine wk_zaload C dX9_voters_40 (tX9_isFound hS).2.1 (vp_of hg (tX9_isFound hS).2.2) ((p2.2.1 (m + 27) (v2.toNatClampNeg)).toNatClampNeg) rfl ?_
          refine ww_if_ne C dX9_voters_41 50 rfl (fun hc => ?_) (fun hc => ?_)
          · rw [if_neg hc] at H
            exact ww_drop [.ref m, .retAddr 0, .int v2] (sl_e (sl_d (sl_e sl_n))) (cX9_voters_50 hS C hZ E hk ih H)
          · rw [if_pos hc] at H
            refine ww_iconst (v := (1 : Int32)) C dX9_voters_44 (by decide) ?_
            refine ww_iload_n C dX9_voters_45 2 rfl rfl ?_
            refine ww_ishl C dX9_voters_46 ?_
            refine ww_goto C dX9_voters_47 51 rfl ?_
            exact ww_drop [.ref m, .retAddr 0, .int v2] (sl_e (sl_d (sl_e sl_n))) (cX9_voters_51 hS C hZ E hk ih H)
def fX9_voters (m : Nat) (h : HI) : Option (Int32 × HI) := fX9_voters_4 m (fun h4 v1 => some (v1, h4)) FU h (0 : Int32) (0 : Int32)
set_option maxRecDepth 100000 in
set_option maxHeartbeats 4000000 in
theorem ccX9_voters {l : Launch} {sh : Sh} {adr : Nat → Nat} {r : Nat → Nat → Option Nat} {m : Nat} (hS : MS sh r m) {h : HI}  {p : Int32 × HI} (H : fX9_voters m h = some p) : CC l yX9_voters cX9_voters 3 (some .int) 1 [.ref m] sh adr (mk h r) (fun v τ => v = some (.int p.1) ∧ τ = mk p.2 r) := by
  refine CC.of (by decide) (Nat.le_of_ble_eq_true rfl) 2 [.ref m, .retAddr 0, .retAddr 0] rfl (fun X _ C E hZ => ?_)
  rw [fX9_voters] at H
  refine ww_iconst (v := (0 : Int32)) C dX9_voters_0 (by decide) ?_
  refine ww_istore_n C dX9_voters_1 1 rfl (by decide) rfl [.ref m, .int (0 : Int32), .retAddr 0] rfl ?_
  refine ww_iconst (v := (0 : Int32)) C dX9_voters_2 (by decide) ?_
  refine ww_istore_n C dX9_voters_3 2 rfl (by decide) rfl [.ref m, .int (0 : Int32), .int (0 : Int32)] rfl ?_
  refine cX9_voters_4 hS C hZ E (fun h4 v1 H => ?_) FU h (0 : Int32) (0 : Int32) H
  refine ww_iload_n C dX9_voters_59 1 rfl rfl ?_
  cases H
  exact ww_iret C E dX9_voters_60 ⟨rfl, rfl⟩
def fX9_dueSet_52 (m : Nat) (k : HI → Int32 → Option (Int32 × HI)) (kb : HI → Int32 → Int32 → Option (Int32 × HI)) (h : HI) (v2 : Int32) (s0 : Int32) (s1 : Int32) : Option (Int32 × HI) := kb h (s1 ||| s0) (v2 + (1 : Int32))
set_option maxRecDepth 100000 in
set_option maxHeartbeats 4000000 in
theorem cX9_dueSet_52 {X : CT} {sh : Sh} {adr : Nat → Nat} {r : Nat → Nat → Option Nat} {m : Nat} {p : Int32 × HI} (hS : MS sh r m) (C : CX X yX9_dueSet.cls cX9_dueSet 3 0) (hZ : SZX X adr) (E : RX X (some .int) sh adr (fun v τ => v = some (.int p.1) ∧ τ = mk p.2 r)) {k : HI → Int32 → Option (Int32 × HI)} {kb : HI → Int32 → Int32 → Option (Int32 × HI)} (hk : ∀ (h : HI) (v1 : Int32), k h v1 = some p → WW X (sh, adr, 0, 0) 60 [.ref m, .int v1, .retAddr 0] [] (mk h r)) (hb : ∀ (h : HI) (v1 : Int32) (v2 : Int32), kb h v1 v2 = some p → WW X (sh, adr, 0, 0) 4 [.ref m, .int v1, .int v2] [] (mk h r)) {h : HI} {v2 : Int32} {s0 : Int32} {s1 : Int32} (H : fX9_dueSet_52 m k kb h v2 s0 s1 = some p) : WW X (sh, adr, 0, 0) 52 [.ref m, .retAddr 0, .int v2] [.int s0, .int s1] (mk h r) := by
  rw [fX9_dueSet_52] at H
  refine ww_ior C dX9_dueSet_52 ?_
  refine ww_istore_n C dX9_dueSet_53 1 rfl (by decide) rfl [.ref m, .int (s1 ||| s0), .int v2] rfl ?_
  refine ww_iinc (v := (v2 + (1 : Int32))) C dX9_dueSet_54 rfl rfl (by decide) rfl [.ref m, .int (s1 ||| s0), .int (v2 + (1 : Int32))] rfl ?_
  refine ww_goto C dX9_dueSet_57 4 rfl ?_
  exact hb h (s1 ||| s0) (v2 + (1 : Int32)) H
def fX9_dueSet_4 (m : Nat) (k : HI → Int32 → Option (Int32 × HI)) : Nat → HI → Int32 → Int32 → Option (Int32 × HI)
  | 0, _, _, _ => none
  | n + 1, h, v1, v2 => (if (h.1 m 45) ≤ v2 then k h v1 else (if inB (((4 : Int32) * v2) + (2 : Int32)) 16 then (if inB (h.1 (m + 21) ((((4 : Int32) * v2) + (2 : Int32)).toNatClampNeg)) 6 then (if inB (((4 : Int32) * v2) + (3 : Int32)) 16 then (if (((h.1 (m + 30) ((h.1 (m + 21) ((((4 : Int32) * v2) + (2 : Int32)).toNatClampNeg)).toNatClampNeg)) >>> ((h.1 (m + 21) ((((4 : Int32) * v2) + (3 : Int32)).toNatClampNeg)) &&& 31)) &&& (1 : Int32)) = (1 : Int32) then fX9_dueSet_52 m (k) (fX9_dueSet_4 m k n) h v2 ((1 : Int32) <<< (v2 &&& 31)) v1 else fX9_dueSet_52 m (k) (fX9_dueSet_4 m k n) h v2 (0 : Int32) v1) else none) else none) else none))
set_option maxRecDepth 100000 in
set_option maxHeartbeats 4000000 in
theorem cX9_dueSet_4 {X : CT} {sh : Sh} {adr : Nat → Nat} {r : Nat → Nat → Option Nat} {m : Nat} {p : Int32 × HI} (hS : MS sh r m) (C : CX X yX9_dueSet.cls cX9_dueSet 3 0) (hZ : SZX X adr) (E : RX X (some .int) sh adr (fun v τ => v = some (.int p.1) ∧ τ = mk p.2 r)) {k : HI → Int32 → Option (Int32 × HI)} (hk : ∀ (h : HI) (v1 : Int32), k h v1 = some p → WW X (sh, adr, 0, 0) 60 [.ref m, .int v1, .retAddr 0] [] (mk h r)) : ∀ (n : Nat) (h : HI) (v1 : Int32) (v2 : Int32), fX9_dueSet_4 m k n h v1 v2 = some p → WW X (sh, adr, 0, 0) 4 [.ref m, .int v1, .int v2] [] (mk h r) := by
  intro n
  induction n with
  | zero =>
    intro h v1 v2 H
    rw [fX9_dueSet_4] at H
    cases H
  | succ n ih =>
    intro h v1 v2 H
    rw [fX9_dueSet_4] at H
    refine ww_iload_n C dX9_dueSet_4 2 rfl rfl ?_
    refine ww_aload_n C dX9_dueSet_5 0 rfl rfl ?_
    refine wk_getI C dX9_dueSet_6 fl_X9_398 hS.1 rfl ?_
    refine ww_icmp_ge C dX9_dueSet_9 60 rfl (fun hc => ?_) (fun hc => ?_)
    · rw [if_pos hc] at H
      exact ww_drop [.ref m, .int v1, .retAddr 0] (sl_e (sl_e (sl_d sl_n))) (hk h v1 H)
    · rw [if_neg hc] at H
      refine ww_iload_n C dX9_dueSet_12 1 rfl rfl ?_
      refine ww_aload_n C dX9_dueSet_13 0 rfl rfl ?_
      refine wk_getR C dX9_dueSet_14 fl_X9_103 hS.1 rfl (tX9_spoke hS).1 ?_
      refine ww_aload_n C dX9_dueSet_17 0 rfl rfl ?_
      refine wk_getR C dX9_dueSet_18 fl_X9_75 hS.1 rfl (tX9_deal hS).1 ?_
      refine ww_iconst (v := (4 : Int32)) C dX9_dueSet_21 (by decide) ?_
      refine ww_iload_n C dX9_dueSet_22 2 rfl rfl ?_
      refine ww_imul C dX9_dueSet_23 ?_
      refine ww_iconst (v := (2 : Int32)) C dX9_dueSet_24 (by decide) ?_
      refine ww_iadd C dX9_dueSet_25 ?_
      obtain ⟨hg, H⟩ := gd_of H
      refine wk_iaload C dX9_dueSet_26 (tX9_deal hS).2.1 (vp_of hg (tX9_deal hS).2.2) ((((4 : Int32) * v2) + (2 : Int32)).toNatClampNeg) rfl ?_
      obtain ⟨hg, H⟩ := gd_of H
      refine wk_iaload C dX9_dueSet_27 (tX9_spoke hS).2.1 (vp_of hg (tX9_spoke hS).2.2) ((h.1 (m + 21) ((((4 : Int32) * v2) + (2 : Int32)).toNatClampNeg)).toNatClampNeg) rfl ?_
      refine ww_aload_n C dX9_dueSet_28 0 rfl rfl ?_
      refine wk_getR C dX9_dueSet_29 fl_X9_75 hS.1 rfl (tX9_deal hS).1 ?_
      refine ww_iconst (v := (4 : Int32)) C dX9_dueSet_32 (by decide) ?_
      refine ww_iload_n C dX9_dueSet_33 2 rfl rfl ?_
      refine ww_imul C dX9_dueSet_34 ?_
      refine ww_iconst (v := (3 : Int32)) C dX9_dueSet_35 (by decide) ?_
      refine ww_iadd C dX9_dueSet_36 ?_
      obtain ⟨hg, H⟩ := gd_of H
      refine wk_iaload C dX9_dueSet_37 (tX9_deal hS).2.1 (vp_of hg (tX9_deal hS).2.2) ((((4 : Int32) * v2) + (3 : Int32)).toNatClampNeg) rfl ?_
      refine ww_ishr C dX9_dueSet_38 ?_
      refine ww_iconst (v := (1 : Int32)) C dX9_dueSet_39 (by decide) ?_
      refine ww_iand C dX9_dueSet_40 ?_
      refine ww_iconst (v := (1 : Int32)) C dX9_dueSet_41 (by decide) ?_
      refine ww_icmp_ne C dX9_dueSet_42 51 rfl (fun hc => ?_) (fun hc => ?_)
      · rw [if_neg hc] at H
        refine ww_iconst (v := (0 : Int32)) C dX9_dueSet_51 (by decide) ?_
        exact ww_drop [.ref m, .retAddr 0, .int v2] (sl_e (sl_d (sl_e sl_n))) (cX9_dueSet_52 hS C hZ E hk ih H)
      · rw [if_pos hc] at H
        refine ww_iconst (v := (1 : Int32)) C dX9_dueSet_45 (by decide) ?_
        refine ww_iload_n C dX9_dueSet_46 2 rfl rfl ?_
        refine ww_ishl C dX9_dueSet_47 ?_
        refine ww_goto C dX9_dueSet_48 52 rfl ?_
        exact ww_drop [.ref m, .retAddr 0, .int v2] (sl_e (sl_d (sl_e sl_n))) (cX9_dueSet_52 hS C hZ E hk ih H)
def fX9_dueSet (m : Nat) (h : HI) : Option (Int32 × HI) := fX9_dueSet_4 m (fun h2 v1 => some (v1, h2)) FU h (0 : Int32) (0 : Int32)
set_option maxRecDepth 100000 in
set_option maxHeartbeats 4000000 in
theorem ccX9_dueSet {l : Launch} {sh : Sh} {adr : Nat → Nat} {r : Nat → Nat → Option Nat} {m : Nat} (hS : MS sh r m) {h : HI}  {p : Int32 × HI} (H : fX9_dueSet m h = some p) : CC l yX9_dueSet cX9_dueSet 3 (some .int) 0 [.ref m] sh adr (mk h r) (fun v τ => v = some (.int p.1) ∧ τ = mk p.2 r) := by
  refine CC.of (by decide) (Nat.le_of_ble_eq_true rfl) 2 [.ref m, .retAddr 0, .retAddr 0] rfl (fun X _ C E hZ => ?_)
  rw [fX9_dueSet] at H
  refine ww_iconst (v := (0 : Int32)) C dX9_dueSet_0 (by decide) ?_
  refine ww_istore_n C dX9_dueSet_1 1 rfl (by decide) rfl [.ref m, .int (0 : Int32), .retAddr 0] rfl ?_
  refine ww_iconst (v := (0 : Int32)) C dX9_dueSet_2 (by decide) ?_
  refine ww_istore_n C dX9_dueSet_3 2 rfl (by decide) rfl [.ref m, .int (0 : Int32), .int (0 : Int32)] rfl ?_
  refine cX9_dueSet_4 hS C hZ E (fun h2 v1 H => ?_) FU h (0 : Int32) (0 : Int32) H
  refine ww_iload_n C dX9_dueSet_60 1 rfl rfl ?_
  cases H
  exact ww_iret C E dX9_dueSet_61 ⟨rfl, rfl⟩
def fX9_isLong (m : Nat) (h : HI) (a1 : Int32) : Option (Int32 × HI) := (if ((h.1 m 57) + a1) ≤ (10000 : Int32) then some ((0 : Int32), h) else some ((1 : Int32), h))
set_option maxRecDepth 100000 in
set_option maxHeartbeats 4000000 in
theorem ccX9_isLong {l : Launch} {sh : Sh} {adr : Nat → Nat} {r : Nat → Nat → Option Nat} {m : Nat} (hS : MS sh r m) {h : HI} {a1 : Int32} {p : Int32 × HI} (H : fX9_isLong m h a1 = some p) : CC l yX9_isLong cX9_isLong 2 (some .boolean) 0 [.ref m, .int a1] sh adr (mk h r) (fun v τ => v = some (.int p.1) ∧ τ = mk p.2 r) := by
  refine CC.of (by decide) (Nat.le_of_ble_eq_true rfl) 0 [.ref m, .int a1] rfl (fun X _ C E hZ => ?_)
  rw [fX9_isLong] at H
  refine ww_aload_n C dX9_isLong_0 0 rfl rfl ?_
  refine wk_getI C dX9_isLong_1 fl_X9_424 hS.1 rfl ?_
  refine ww_iload_n C dX9_isLong_4 1 rfl rfl ?_
  refine ww_iadd C dX9_isLong_5 ?_
  refine ww_sipush (v := (10000 : Int32)) C dX9_isLong_6 (by decide) ?_
  refine ww_icmp_le C dX9_isLong_9 16 rfl (fun hc => ?_) (fun hc => ?_)
  · rw [if_pos hc] at H
    refine ww_iconst (v := (0 : Int32)) C dX9_isLong_16 (by decide) ?_
    cases H
    exact ww_zret C E dX9_isLong_17 (Or.inl rfl) ⟨rfl, rfl⟩
  · rw [if_neg hc] at H
    refine ww_iconst (v := (1 : Int32)) C dX9_isLong_12 (by decide) ?_
    refine ww_goto C dX9_isLong_13 17 rfl ?_
    cases H
    exact ww_zret C E dX9_isLong_17 (Or.inr rfl) ⟨rfl, rfl⟩
def fX9_tire_72 (m : Nat) (h : HI) (v1 : Int32) (s0 : Int32) (s1 : Int32) : Option (HI) := (if inB s1 6 then (if inB v1 6 then (if inB v1 6 then some (uI (uI h (m + 28) (s1.toNatClampNeg) s0) (m + 29) (v1.toNatClampNeg) ((h.1 (m + 29) (v1.toNatClampNeg)) + (1 : Int32))) else none) else none) else none)
set_option maxRecDepth 100000 in
set_option maxHeartbeats 4000000 in
theorem cX9_tire_72 {X : CT} {sh : Sh} {adr : Nat → Nat} {r : Nat → Nat → Option Nat} {m : Nat} {p : HI} (hS : MS sh r m) (C : CX X yX9_tire.cls cX9_tire 2 0) (hZ : SZX X adr) (E : RX X none sh adr (fun v τ => v = none ∧ τ = mk p r)) {h : HI} {v1 : Int32} {s0 : Int32} {s1 : Int32} (H : fX9_tire_72 m h v1 s0 s1 = some p) : WW X (sh, adr, 0, 0) 72 [.ref m, .int v1] [.int s0, .int s1, .ref (m + 28)] (mk h r) := by
  rw [fX9_tire_72] at H
  obtain ⟨hg, H⟩ := gd_of H
  refine wk_iastore C dX9_tire_72 (tX9_tired hS).2.1 (vp_of hg (tX9_tired hS).2.2) (s1.toNatClampNeg) rfl ?_
  refine ww_aload_n C dX9_tire_73 0 rfl rfl ?_
  refine wk_getR C dX9_tire_74 fl_X9_100 hS.1 rfl (tX9_satFor hS).1 ?_
  refine ww_iload_n C dX9_tire_77 1 rfl rfl ?_
  refine ww_dup2 C dX9_tire_78 rfl rfl ?_
  obtain ⟨hg, H⟩ := gd_of H
  refine wk_iaload C dX9_tire_79 (tX9_satFor hS).2.1 (vp_of hg (tX9_satFor hS).2.2) (v1.toNatClampNeg) rfl ?_
  refine ww_as (v := (h.1 (m + 29) (v1.toNatClampNeg))) (by rw [uI_n (by omega)]) ?_
  refine ww_iconst (v := (1 : Int32)) C dX9_tire_80 (by decide) ?_
  refine ww_iadd C dX9_tire_81 ?_
  obtain ⟨hg, H⟩ := gd_of H
  refine wk_iastore C dX9_tire_82 (tX9_satFor hS).2.1 (vp_of hg (tX9_satFor hS).2.2) (v1.toNatClampNeg) rfl ?_
  cases H
  exact ww_vret C E dX9_tire_83 ⟨rfl, rfl⟩
def fX9_tire_35 (m : Nat) (h : HI) (v1 : Int32) : Option (HI) := (if inB v1 6 then (if 0 ≤ (h.1 (m + 27) (v1.toNatClampNeg)) then (if inB v1 6 then (if (2 : Int32) ≤ (h.1 (m + 28) (v1.toNatClampNeg)) then (if inB v1 6 then fX9_tire_72 m h v1 ((h.1 (m + 28) (v1.toNatClampNeg)) - (2 : Int32)) v1 else none) else fX9_tire_72 m h v1 (0 : Int32) v1) else none) else some h) else none)
set_option maxRecDepth 100000 in
set_option maxHeartbeats 4000000 in
theorem cX9_tire_35 {X : CT} {sh : Sh} {adr : Nat → Nat} {r : Nat → Nat → Option Nat} {m : Nat} {p : HI} (hS : MS sh r m) (C : CX X yX9_tire.cls cX9_tire 2 0) (hZ : SZX X adr) (E : RX X none sh adr (fun v τ => v = none ∧ τ = mk p r)) {h : HI} {v1 : Int32} (H : fX9_tire_35 m h v1 = some p) : WW X (sh, adr, 0, 0) 35 [.ref m, .int v1] [] (mk h r) := by
  rw [fX9_tire_35] at H
  refine ww_aload_n C dX9_tire_35 0 rfl rfl ?_
  refine wk_getR C dX9_tire_36 fl_X9_94 hS.1 rfl (tX9_where hS).1 ?_
  refine ww_iload_n C dX9_tire_39 1 rfl rfl ?_
  obtain ⟨hg, H⟩ := gd_of H
  refine wk_iaload C dX9_tire_40 (tX9_where hS).2.1 (vp_of hg (tX9_where hS).2.2) (v1.toNatClampNeg) rfl ?_
  refine ww_if_ge C dX9_tire_41 45 rfl (fun hc => ?_) (fun hc => ?_)
  · rw [if_pos hc] at H
    refine ww_aload_n C dX9_tire_45 0 rfl rfl ?_
    refine wk_getR C dX9_tire_46 fl_X9_97 hS.1 rfl (tX9_tired hS).1 ?_
    refine ww_iload_n C dX9_tire_49 1 rfl rfl ?_
    refine ww_aload_n C dX9_tire_50 0 rfl rfl ?_
    refine wk_getR C dX9_tire_51 fl_X9_97 hS.1 rfl (tX9_tired hS).1 ?_
    refine ww_iload_n C dX9_tire_54 1 rfl rfl ?_
    obtain ⟨hg, H⟩ := gd_of H
    refine wk_iaload C dX9_tire_55 (tX9_tired hS).2.1 (vp_of hg (tX9_tired hS).2.2) (v1.toNatClampNeg) rfl ?_
    refine ww_iconst (v := (2 : Int32)) C dX9_tire_56 (by decide) ?_
    refine ww_icmp_ge C dX9_tire_57 64 rfl (fun hc => ?_) (fun hc => ?_)
    · rw [if_pos hc] at H
      refine ww_aload_n C dX9_tire_64 0 rfl rfl ?_
      refine wk_getR C dX9_tire_65 fl_X9_97 hS.1 rfl (tX9_tired hS).1 ?_
      refine ww_iload_n C dX9_tire_68 1 rfl rfl ?_
      obtain ⟨hg, H⟩ := gd_of H
      refine wk_iaload C dX9_tire_69 (tX9_tired hS).2.1 (vp_of hg (tX9_tired hS).2.2) (v1.toNatClampNeg) rfl ?_
      refine ww_iconst (v := (2 : Int32)) C dX9_tire_70 (by decide) ?_
      refine ww_isub C dX9_tire_71 ?_
      exact cX9_tire_72 hS C hZ E H
    · rw [if_neg hc] at H
      refine ww_iconst (v := (0 : Int32)) C dX9_tire_60 (by decide) ?_
      refine ww_goto C dX9_tire_61 72 rfl ?_
      exact cX9_tire_72 hS C hZ E H
  · rw [if_neg hc] at H
    cases H
    exact ww_vret C E dX9_tire_44 ⟨rfl, rfl⟩
def fX9_tire (m : Nat) (h : HI) (a1 : Int32) : Option (HI) := (if inB a1 6 then (if (h.1 (m + 27) (a1.toNatClampNeg)) = (-1 : Int32) then (if inB a1 6 then (if inB a1 6 then (if (h.1 (m + 18) (a1.toNatClampNeg)) ≤ (h.1 (m + 28) (a1.toNatClampNeg)) then fX9_tire_35 m h a1 else (if inB a1 6 then (if inB a1 6 then fX9_tire_35 m (uI h (m + 28) (a1.toNatClampNeg) ((h.1 (m + 28) (a1.toNatClampNeg)) + (1 : Int32))) a1 else none) else none)) else none) else none) else fX9_tire_35 m h a1) else none)
set_option maxRecDepth 100000 in
set_option maxHeartbeats 4000000 in
theorem ccX9_tire {l : Launch} {sh : Sh} {adr : Nat → Nat} {r : Nat → Nat → Option Nat} {m : Nat} (hS : MS sh r m) {h : HI} {a1 : Int32} {p : HI} (H : fX9_tire m h a1 = some p) : CC l yX9_tire cX9_tire 2 none 0 [.ref m, .int a1] sh adr (mk h r) (fun v τ => v = none ∧ τ = mk p r) := by
  refine CC.of (by decide) (Nat.le_of_ble_eq_true rfl) 0 [.ref m, .int a1] rfl (fun X _ C E hZ => ?_)
  rw [fX9_tire] at H
  refine ww_aload_n C dX9_tire_0 0 rfl rfl ?_
  refine wk_getR C dX9_tire_1 fl_X9_94 hS.1 rfl (tX9_where hS).1 ?_
  refine ww_iload_n C dX9_tire_4 1 rfl rfl ?_
  obtain ⟨hg, H⟩ := gd_of H
  refine wk_iaload C dX9_tire_5 (tX9_where hS).2.1 (vp_of hg (tX9_where hS).2.2) (a1.toNatClampNeg) rfl ?_
  refine ww_iconst (v := (-1 : Int32)) C dX9_tire_6 (by decide) ?_
  refine ww_icmp_ne C dX9_tire_7 35 rfl (fun hc => ?_) (fun hc => ?_)
  · rw [if_neg hc] at H
    exact cX9_tire_35 hS C hZ E H
  · rw [if_pos hc] at H
    refine ww_aload_n C dX9_tire_10 0 rfl rfl ?_
    refine wk_getR C dX9_tire_11 fl_X9_97 hS.1 rfl (tX9_tired hS).1 ?_
    refine ww_iload_n C dX9_tire_14 1 rfl rfl ?_
    obtain ⟨hg, H⟩ := gd_of H
    refine wk_iaload C dX9_tire_15 (tX9_tired hS).2.1 (vp_of hg (tX9_tired hS).2.2) (a1.toNatClampNeg) rfl ?_
    refine ww_aload_n C dX9_tire_16 0 rfl rfl ?_
    refine wk_getR C dX9_tire_17 fl_X9_66 hS.1 rfl (tX9_strong hS).1 ?_
    refine ww_iload_n C dX9_tire_20 1 rfl rfl ?_
    obtain ⟨hg, H⟩ := gd_of H
    refine wk_iaload C dX9_tire_21 (tX9_strong hS).2.1 (vp_of hg (tX9_strong hS).2.2) (a1.toNatClampNeg) rfl ?_
    refine ww_icmp_ge C dX9_tire_22 35 rfl (fun hc => ?_) (fun hc => ?_)
    · rw [if_pos hc] at H
      exact cX9_tire_35 hS C hZ E H
    · rw [if_neg hc] at H
      refine ww_aload_n C dX9_tire_25 0 rfl rfl ?_
      refine wk_getR C dX9_tire_26 fl_X9_97 hS.1 rfl (tX9_tired hS).1 ?_
      refine ww_iload_n C dX9_tire_29 1 rfl rfl ?_
      refine ww_dup2 C dX9_tire_30 rfl rfl ?_
      obtain ⟨hg, H⟩ := gd_of H
      refine wk_iaload C dX9_tire_31 (tX9_tired hS).2.1 (vp_of hg (tX9_tired hS).2.2) (a1.toNatClampNeg) rfl ?_
      refine ww_iconst (v := (1 : Int32)) C dX9_tire_32 (by decide) ?_
      refine ww_iadd C dX9_tire_33 ?_
      obtain ⟨hg, H⟩ := gd_of H
      refine wk_iastore C dX9_tire_34 (tX9_tired hS).2.1 (vp_of hg (tX9_tired hS).2.2) (a1.toNatClampNeg) rfl ?_
      exact cX9_tire_35 hS C hZ E H
def fX9_sink_28 (m : Nat) (k : HI → Option (HI)) : Nat → HI → Int32 → Int32 → Option (HI)
  | 0, _, _, _ => none
  | n + 1, h, v1, v2 => (if (h.1 (m + 11) 0) ≤ v2 then k h else ((fX9_hasRoom m h v2).bind fun p1 => (if p1.1 = 0 then fX9_sink_28 m k n p1.2 v1 (v2 + (1 : Int32)) else (if inB v1 6 then (if inB v1 6 then some (uI (uI (uI p1.2 (m + 27) (v1.toNatClampNeg) v2) (m + 29) (v1.toNatClampNeg) (0 : Int32)) m 59 ((p1.2.1 m 59) + (1 : Int32))) else none) else none))))
set_option maxRecDepth 100000 in
set_option maxHeartbeats 4000000 in
theorem cX9_sink_28 {X : CT} {sh : Sh} {adr : Nat → Nat} {r : Nat → Nat → Option Nat} {m : Nat} {p : HI} (hS : MS sh r m) (C : CX X yX9_sink.cls cX9_sink 3 3) (hZ : SZX X adr) (E : RX X none sh adr (fun v τ => v = none ∧ τ = mk p r)) {k : HI → Option (HI)} (hk : ∀ (h : HI), k h = some p → WW X (sh, adr, 0, 0) 80 [.ref m, .retAddr 0, .retAddr 0] [] (mk h r)) : ∀ (n : Nat) (h : HI) (v1 : Int32) (v2 : Int32), fX9_sink_28 m k n h v1 v2 = some p → WW X (sh, adr, 0, 0) 28 [.ref m, .int v1, .int v2] [] (mk h r) := by
  intro n
  induction n with
  | zero =>
    intro h v1 v2 H
    rw [fX9_sink_28] at H
    cases H
  | succ n ih =>
    intro h v1 v2 H
    rw [fX9_sink_28] at H
    refine ww_iload_n C dX9_sink_28 2 rfl rfl ?_
    refine ww_aload_n C dX9_sink_29 0 rfl rfl ?_
    refine wk_getR C dX9_sink_30 fl_X9_45 hS.1 rfl (tX9_many hS).1 ?_
    refine ww_iconst (v := (0 : Int32)) C dX9_sink_33 (by decide) ?_
    refine wk_iaload C dX9_sink_34 (tX9_many hS).2.1 (vp_of (by decide : inB (0 : Int32) 3) (tX9_many hS).2.2) 0 rfl ?_
    refine ww_icmp_ge C dX9_sink_35 80 rfl (fun hc => ?_) (fun hc => ?_)
    · rw [if_pos hc] at H
      exact ww_drop [.ref m, .retAddr 0, .retAddr 0] (sl_e (sl_d (sl_d sl_n))) (hk h H)
    · rw [if_neg hc] at H
      refine ww_aload_n C dX9_sink_38 0 rfl rfl ?_
      refine ww_iload_n C dX9_sink_39 2 rfl rfl ?_
      obtain ⟨p1, hc1, H⟩ := bd_of H
      refine ww_callV C hZ dX9_sink_40 cw_X9_448 (ccX9_hasRoom hS hc1) hS.1 ⟨by decide, rfl⟩ (by decide) rfl rfl (Nat.le_of_ble_eq_true rfl) ⟨Nat.zero_le _, Nat.zero_le _⟩ (fun v τ hp => ?_)
      obtain ⟨rfl, rfl⟩ := hp
      change WW X _ 43 [.ref m, .int v1, .int v2] [.int p1.1] _
      refine ww_if_ne C dX9_sink_43 49 rfl (fun hc => ?_) (fun hc => ?_)
      · rw [if_neg hc] at H
        refine ww_aload_n C dX9_sink_49 0 rfl rfl ?_
        refine wk_getR C dX9_sink_50 fl_X9_94 hS.1 rfl (tX9_where hS).1 ?_
        refine ww_iload_n C dX9_sink_53 1 rfl rfl ?_
        refine ww_iload_n C dX9_sink_54 2 rfl rfl ?_
        obtain ⟨hg, H⟩ := gd_of H
        refine wk_iastore C dX9_sink_55 (tX9_where hS).2.1 (vp_of hg (tX9_where hS).2.2) (v1.toNatClampNeg) rfl ?_
        refine ww_aload_n C dX9_sink_56 0 rfl rfl ?_
        refine wk_getR C dX9_sink_57 fl_X9_100 hS.1 rfl (tX9_satFor hS).1 ?_
        refine ww_iload_n C dX9_sink_60 1 rfl rfl ?_
        refine ww_iconst (v := (0 : Int32)) C dX9_sink_61 (by decide) ?_
        obtain ⟨hg, H⟩ := gd_of H
        refine wk_iastore C dX9_sink_62 (tX9_satFor hS).2.1 (vp_of hg (tX9_satFor hS).2.2) (v1.toNatClampNeg) rfl ?_
        refine ww_aload_n C dX9_sink_63 0 rfl rfl ?_
        refine ww_dup C dX9_sink_64 rfl ?_
        refine wk_getI C dX9_sink_65 fl_X9_430 hS.1 rfl ?_
        refine ww_as (v := (p1.2.1 m 59)) (by rw [uI_n (by omega), uI_n (by omega)]) ?_
        refine ww_iconst (v := (1 : Int32)) C dX9_sink_68 (by decide) ?_
        refine ww_iadd C dX9_sink_69 ?_
        refine wk_putI C dX9_sink_70 fl_X9_430 hS.1 rfl rfl ?_
        cases H
        exact ww_vret C E dX9_sink_73 ⟨rfl, rfl⟩
      · rw [if_pos hc] at H
        refine ww_goto C dX9_sink_46 74 rfl ?_
        refine ww_iinc (v := (v2 + (1 : Int32))) C dX9_sink_74 rfl rfl (by decide) rfl [.ref m, .int v1, .int (v2 + (1 : Int32))] rfl ?_
        refine ww_goto C dX9_sink_77 28 rfl ?_
        exact ih p1.2 v1 (v2 + (1 : Int32)) H
def fX9_sink (m : Nat) (h : HI) (a1 : Int32) : Option (HI) := (if inB a1 6 then (if (h.1 (m + 27) (a1.toNatClampNeg)) = (-1 : Int32) then (if inB a1 6 then (if inB a1 6 then (if (h.1 (m + 18) (a1.toNatClampNeg)) ≤ (h.1 (m + 28) (a1.toNatClampNeg)) then fX9_sink_28 m (fun h3 => some h3) FU h a1 (0 : Int32) else some h) else none) else none) else some h) else none)
set_option maxRecDepth 100000 in
set_option maxHeartbeats 4000000 in
theorem ccX9_sink {l : Launch} {sh : Sh} {adr : Nat → Nat} {r : Nat → Nat → Option Nat} {m : Nat} (hS : MS sh r m) {h : HI} {a1 : Int32} {p : HI} (H : fX9_sink m h a1 = some p) : CC l yX9_sink cX9_sink 3 none 3 [.ref m, .int a1] sh adr (mk h r) (fun v τ => v = none ∧ τ = mk p r) := by
  refine CC.of (by decide) (Nat.le_of_ble_eq_true rfl) 1 [.ref m, .int a1, .retAddr 0] rfl (fun X _ C E hZ => ?_)
  rw [fX9_sink] at H
  refine ww_aload_n C dX9_sink_0 0 rfl rfl ?_
  refine wk_getR C dX9_sink_1 fl_X9_94 hS.1 rfl (tX9_where hS).1 ?_
  refine ww_iload_n C dX9_sink_4 1 rfl rfl ?_
  obtain ⟨hg, H⟩ := gd_of H
  refine wk_iaload C dX9_sink_5 (tX9_where hS).2.1 (vp_of hg (tX9_where hS).2.2) (a1.toNatClampNeg) rfl ?_
  refine ww_iconst (v := (-1 : Int32)) C dX9_sink_6 (by decide) ?_
  refine ww_icmp_ne C dX9_sink_7 25 rfl (fun hc => ?_) (fun hc => ?_)
  · rw [if_neg hc] at H
    cases H
    exact ww_vret C E dX9_sink_25 ⟨rfl, rfl⟩
  · rw [if_pos hc] at H
    refine ww_aload_n C dX9_sink_10 0 rfl rfl ?_
    refine wk_getR C dX9_sink_11 fl_X9_97 hS.1 rfl (tX9_tired hS).1 ?_
    refine ww_iload_n C dX9_sink_14 1 rfl rfl ?_
    obtain ⟨hg, H⟩ := gd_of H
    refine wk_iaload C dX9_sink_15 (tX9_tired hS).2.1 (vp_of hg (tX9_tired hS).2.2) (a1.toNatClampNeg) rfl ?_
    refine ww_aload_n C dX9_sink_16 0 rfl rfl ?_
    refine wk_getR C dX9_sink_17 fl_X9_66 hS.1 rfl (tX9_strong hS).1 ?_
    refine ww_iload_n C dX9_sink_20 1 rfl rfl ?_
    obtain ⟨hg, H⟩ := gd_of H
    refine wk_iaload C dX9_sink_21 (tX9_strong hS).2.1 (vp_of hg (tX9_strong hS).2.2) (a1.toNatClampNeg) rfl ?_
    refine ww_icmp_ge C dX9_sink_22 26 rfl (fun hc => ?_) (fun hc => ?_)
    · rw [if_pos hc] at H
      refine ww_iconst (v := (0 : Int32)) C dX9_sink_26 (by decide) ?_
      refine ww_istore_n C dX9_sink_27 2 rfl (by decide) rfl [.ref m, .int a1, .int (0 : Int32)] rfl ?_
      refine cX9_sink_28 hS C hZ E (fun h3 H => ?_) FU h a1 (0 : Int32) H
      cases H
      exact ww_vret C E dX9_sink_80 ⟨rfl, rfl⟩
    · rw [if_neg hc] at H
      cases H
      exact ww_vret C E dX9_sink_25 ⟨rfl, rfl⟩
def fX9_over_52 (m : Nat) (k : HI → Option (Int32 × HI)) (kb : HI → Int32 → Option (Int32 × HI)) (h : HI) (v1 : Int32) : Option (Int32 × HI) := kb h (v1 + (1 : Int32))
set_option maxRecDepth 100000 in
set_option maxHeartbeats 4000000 in
theorem cX9_over_52 {X : CT} {sh : Sh} {adr : Nat → Nat} {r : Nat → Nat → Option Nat} {m : Nat} {p : Int32 × HI} (hS : MS sh r m) (C : CX X yX9_over.cls cX9_over 2 4) (hZ : SZX X adr) (E : RX X (some .int) sh adr (fun v τ => v = some (.int p.1) ∧ τ = mk p.2 r)) {k : HI → Option (Int32 × HI)} {kb : HI → Int32 → Option (Int32 × HI)} (hk : ∀ (h : HI), k h = some p → WW X (sh, adr, 0, 0) 58 [.ref m, .retAddr 0] [] (mk h r)) (hb : ∀ (h : HI) (v1 : Int32), kb h v1 = some p → WW X (sh, adr, 0, 0) 12 [.ref m, .int v1] [] (mk h r)) {h : HI} {v1 : Int32} (H : fX9_over_52 m k kb h v1 = some p) : WW X (sh, adr, 0, 0) 52 [.ref m, .int v1] [] (mk h r) := by
  rw [fX9_over_52] at H
  refine ww_iinc (v := (v1 + (1 : Int32))) C dX9_over_52 rfl rfl (by decide) rfl [.ref m, .int (v1 + (1 : Int32))] rfl ?_
  refine ww_goto C dX9_over_55 12 rfl ?_
  exact hb h (v1 + (1 : Int32)) H
def fX9_over_12 (m : Nat) (k : HI → Option (Int32 × HI)) : Nat → HI → Int32 → Option (Int32 × HI)
  | 0, _, _ => none
  | n + 1, h, v1 => (if (h.1 (m + 11) 2) ≤ v1 then k h else (if inB v1 4 then (if (2 : Int32) ≤ (h.1 (m + 31) (v1.toNatClampNeg)) then fX9_over_52 m (k) (fX9_over_12 m k n) h v1 else (if inB v1 4 then (if (h.1 (m + 19) (v1.toNatClampNeg)) = (h.1 m 57) then (if inB v1 4 then fX9_over_52 m (k) (fX9_over_12 m k n) (uI h (m + 31) (v1.toNatClampNeg) (3 : Int32)) v1 else none) else fX9_over_52 m (k) (fX9_over_12 m k n) h v1) else none)) else none))
set_option maxRecDepth 100000 in
set_option maxHeartbeats 4000000 in
theorem cX9_over_12 {X : CT} {sh : Sh} {adr : Nat → Nat} {r : Nat → Nat → Option Nat} {m : Nat} {p : Int32 × HI} (hS : MS sh r m) (C : CX X yX9_over.cls cX9_over 2 4) (hZ : SZX X adr) (E : RX X (some .int) sh adr (fun v τ => v = some (.int p.1) ∧ τ = mk p.2 r)) {k : HI → Option (Int32 × HI)} (hk : ∀ (h : HI), k h = some p → WW X (sh, adr, 0, 0) 58 [.ref m, .retAddr 0] [] (mk h r)) : ∀ (n : Nat) (h : HI) (v1 : Int32), fX9_over_12 m k n h v1 = some p → WW X (sh, adr, 0, 0) 12 [.ref m, .int v1] [] (mk h r) := by
  intro n
  induction n with
  | zero =>
    intro h v1 H
    rw [fX9_over_12] at H
    cases H
  | succ n ih =>
    intro h v1 H
    rw [fX9_over_12] at H
    refine ww_iload_n C dX9_over_12 1 rfl rfl ?_
    refine ww_aload_n C dX9_over_13 0 rfl rfl ?_
    refine wk_getR C dX9_over_14 fl_X9_45 hS.1 rfl (tX9_many hS).1 ?_
    refine ww_iconst (v := (2 : Int32)) C dX9_over_17 (by decide) ?_
    refine wk_iaload C dX9_over_18 (tX9_many hS).2.1 (vp_of (by decide : inB (2 : Int32) 3) (tX9_many hS).2.2) 2 rfl ?_
    refine ww_icmp_ge C dX9_over_19 58 rfl (fun hc => ?_) (fun hc => ?_)
    · rw [if_pos hc] at H
      exact ww_drop [.ref m, .retAddr 0] (sl_e (sl_d sl_n)) (hk h H)
    · rw [if_neg hc] at H
      refine ww_aload_n C dX9_over_22 0 rfl rfl ?_
      refine wk_getR C dX9_over_23 fl_X9_106 hS.1 rfl (tX9_state hS).1 ?_
      refine ww_iload_n C dX9_over_26 1 rfl rfl ?_
      obtain ⟨hg, H⟩ := gd_of H
      refine wk_iaload C dX9_over_27 (tX9_state hS).2.1 (vp_of hg (tX9_state hS).2.2) (v1.toNatClampNeg) rfl ?_
      refine ww_iconst (v := (2 : Int32)) C dX9_over_28 (by decide) ?_
      refine ww_icmp_ge C dX9_over_29 52 rfl (fun hc => ?_) (fun hc => ?_)
      · rw [if_pos hc] at H
        exact cX9_over_52 hS C hZ E hk ih H
      · rw [if_neg hc] at H
        refine ww_aload_n C dX9_over_32 0 rfl rfl ?_
        refine wk_getR C dX9_over_33 fl_X9_69 hS.1 rfl (tX9_dies hS).1 ?_
        refine ww_iload_n C dX9_over_36 1 rfl rfl ?_
        obtain ⟨hg, H⟩ := gd_of H
        refine wk_iaload C dX9_over_37 (tX9_dies hS).2.1 (vp_of hg (tX9_dies hS).2.2) (v1.toNatClampNeg) rfl ?_
        refine ww_aload_n C dX9_over_38 0 rfl rfl ?_
        refine wk_getI C dX9_over_39 fl_X9_424 hS.1 rfl ?_
        refine ww_icmp_ne C dX9_over_42 52 rfl (fun hc => ?_) (fun hc => ?_)
        · rw [if_neg hc] at H
          exact cX9_over_52 hS C hZ E hk ih H
        · rw [if_pos hc] at H
          refine ww_aload_n C dX9_over_45 0 rfl rfl ?_
          refine wk_getR C dX9_over_46 fl_X9_106 hS.1 rfl (tX9_state hS).1 ?_
          refine ww_iload_n C dX9_over_49 1 rfl rfl ?_
          refine ww_iconst (v := (3 : Int32)) C dX9_over_50 (by decide) ?_
          obtain ⟨hg, H⟩ := gd_of H
          refine wk_iastore C dX9_over_51 (tX9_state hS).2.1 (vp_of hg (tX9_state hS).2.2) (v1.toNatClampNeg) rfl ?_
          exact cX9_over_52 hS C hZ E hk ih H
def fX9_over_60 (m : Nat) (k : HI → Option (Int32 × HI)) : Nat → HI → Int32 → Option (Int32 × HI)
  | 0, _, _ => none
  | n + 1, h, v1 => ((fX9_men m h).bind fun p3 => (if p3.1 ≤ v1 then k p3.2 else ((fX9_tire m p3.2 v1).bind fun h4 => fX9_over_60 m k n h4 (v1 + (1 : Int32)))))
set_option maxRecDepth 100000 in
set_option maxHeartbeats 4000000 in
theorem cX9_over_60 {X : CT} {sh : Sh} {adr : Nat → Nat} {r : Nat → Nat → Option Nat} {m : Nat} {p : Int32 × HI} (hS : MS sh r m) (C : CX X yX9_over.cls cX9_over 2 4) (hZ : SZX X adr) (E : RX X (some .int) sh adr (fun v τ => v = some (.int p.1) ∧ τ = mk p.2 r)) {k : HI → Option (Int32 × HI)} (hk : ∀ (h : HI), k h = some p → WW X (sh, adr, 0, 0) 79 [.ref m, .retAddr 0] [] (mk h r)) : ∀ (n : Nat) (h : HI) (v1 : Int32), fX9_over_60 m k n h v1 = some p → WW X (sh, adr, 0, 0) 60 [.ref m, .int v1] [] (mk h r) := by
  intro n
  induction n with
  | zero =>
    intro h v1 H
    rw [fX9_over_60] at H
    cases H
  | succ n ih =>
    intro h v1 H
    rw [fX9_over_60] at H
    refine ww_iload_n C dX9_over_60 1 rfl rfl ?_
    refine ww_aload_n C dX9_over_61 0 rfl rfl ?_
    obtain ⟨p3, hc1, H⟩ := bd_of H
    refine ww_callV C hZ dX9_over_62 cw_X9_417 (ccX9_men hS hc1) hS.1 ⟨by decide, rfl⟩ (by decide) rfl rfl (Nat.le_of_ble_eq_true rfl) ⟨Nat.zero_le _, Nat.zero_le _⟩ (fun v τ hp => ?_)
    obtain ⟨rfl, rfl⟩ := hp
    change WW X _ 65 [.ref m, .int v1] [.int p3.1, .int v1] _
    refine ww_icmp_ge C dX9_over_65 79 rfl (fun hc => ?_) (fun hc => ?_)
    · rw [if_pos hc] at H
      exact ww_drop [.ref m, .retAddr 0] (sl_e (sl_d sl_n)) (hk p3.2 H)
    · rw [if_neg hc] at H
      refine ww_aload_n C dX9_over_68 0 rfl rfl ?_
      refine ww_iload_n C dX9_over_69 1 rfl rfl ?_
      obtain ⟨h4, hc1, H⟩ := bd_of H
      refine ww_callV C hZ dX9_over_70 cw_X9_451 (ccX9_tire hS hc1) hS.1 ⟨by decide, rfl⟩ (by decide) rfl rfl (Nat.le_of_ble_eq_true rfl) ⟨Nat.zero_le _, Nat.zero_le _⟩ (fun v τ hp => ?_)
      obtain ⟨rfl, rfl⟩ := hp
      change WW X _ 73 [.ref m, .int v1] [] _
      refine ww_iinc (v := (v1 + (1 : Int32))) C dX9_over_73 rfl rfl (by decide) rfl [.ref m, .int (v1 + (1 : Int32))] rfl ?_
      refine ww_goto C dX9_over_76 60 rfl ?_
      exact ih h4 (v1 + (1 : Int32)) H
def fX9_over_81 (m : Nat) (k : HI → Option (Int32 × HI)) : Nat → HI → Int32 → Option (Int32 × HI)
  | 0, _, _ => none
  | n + 1, h, v1 => ((fX9_men m h).bind fun p7 => (if p7.1 ≤ v1 then k p7.2 else ((fX9_sink m p7.2 v1).bind fun h8 => fX9_over_81 m k n h8 (v1 + (1 : Int32)))))
set_option maxRecDepth 100000 in
set_option maxHeartbeats 4000000 in
theorem cX9_over_81 {X : CT} {sh : Sh} {adr : Nat → Nat} {r : Nat → Nat → Option Nat} {m : Nat} {p : Int32 × HI} (hS : MS sh r m) (C : CX X yX9_over.cls cX9_over 2 4) (hZ : SZX X adr) (E : RX X (some .int) sh adr (fun v τ => v = some (.int p.1) ∧ τ = mk p.2 r)) {k : HI → Option (Int32 × HI)} (hk : ∀ (h : HI), k h = some p → WW X (sh, adr, 0, 0) 100 [.ref m, .retAddr 0] [] (mk h r)) : ∀ (n : Nat) (h : HI) (v1 : Int32), fX9_over_81 m k n h v1 = some p → WW X (sh, adr, 0, 0) 81 [.ref m, .int v1] [] (mk h r) := by
  intro n
  induction n with
  | zero =>
    intro h v1 H
    rw [fX9_over_81] at H
    cases H
  | succ n ih =>
    intro h v1 H
    rw [fX9_over_81] at H
    refine ww_iload_n C dX9_over_81 1 rfl rfl ?_
    refine ww_aload_n C dX9_over_82 0 rfl rfl ?_
    obtain ⟨p7, hc1, H⟩ := bd_of H
    refine ww_callV C hZ dX9_over_83 cw_X9_417 (ccX9_men hS hc1) hS.1 ⟨by decide, rfl⟩ (by decide) rfl rfl (Nat.le_of_ble_eq_true rfl) ⟨Nat.zero_le _, Nat.zero_le _⟩ (fun v τ hp => ?_)
    obtain ⟨rfl, rfl⟩ := hp
    change WW X _ 86 [.ref m, .int v1] [.int p7.1, .int v1] _
    refine ww_icmp_ge C dX9_over_86 100 rfl (fun hc => ?_) (fun hc => ?_)
    · rw [if_pos hc] at H
      exact ww_drop [.ref m, .retAddr 0] (sl_e (sl_d sl_n)) (hk p7.2 H)
    · rw [if_neg hc] at H
      refine ww_aload_n C dX9_over_89 0 rfl rfl ?_
      refine ww_iload_n C dX9_over_90 1 rfl rfl ?_
      obtain ⟨h8, hc1, H⟩ := bd_of H
      refine ww_callV C hZ dX9_over_91 cw_X9_454 (ccX9_sink hS hc1) hS.1 ⟨by decide, rfl⟩ (by decide) rfl rfl (Nat.le_of_ble_eq_true rfl) ⟨Nat.zero_le _, Nat.zero_le _⟩ (fun v τ hp => ?_)
      obtain ⟨rfl, rfl⟩ := hp
      change WW X _ 94 [.ref m, .int v1] [] _
      refine ww_iinc (v := (v1 + (1 : Int32))) C dX9_over_94 rfl rfl (by decide) rfl [.ref m, .int (v1 + (1 : Int32))] rfl ?_
      refine ww_goto C dX9_over_97 81 rfl ?_
      exact ih h8 (v1 + (1 : Int32)) H
def fX9_over_102 (m : Nat) (k : HI → Option (Int32 × HI)) : Nat → HI → Int32 → Option (Int32 × HI)
  | 0, _, _ => none
  | n + 1, h, v1 => (if (h.1 (m + 11) 0) ≤ v1 then k h else (if (200 : Int32) < (h.1 m 57) then k h else ((fX9_on m h v1).bind fun p11 => (if inB (((6 : Int32) * (h.1 m 57)) + v1) 1206 then fX9_over_102 m k n (uI p11.2 (m + 36) ((((6 : Int32) * (h.1 m 57)) + v1).toNatClampNeg) p11.1) (v1 + (1 : Int32)) else none))))
set_option maxRecDepth 100000 in
set_option maxHeartbeats 4000000 in
theorem cX9_over_102 {X : CT} {sh : Sh} {adr : Nat → Nat} {r : Nat → Nat → Option Nat} {m : Nat} {p : Int32 × HI} (hS : MS sh r m) (C : CX X yX9_over.cls cX9_over 2 4) (hZ : SZX X adr) (E : RX X (some .int) sh adr (fun v τ => v = some (.int p.1) ∧ τ = mk p.2 r)) {k : HI → Option (Int32 × HI)} (hk : ∀ (h : HI), k h = some p → WW X (sh, adr, 0, 0) 147 [.ref m, .retAddr 0] [] (mk h r)) : ∀ (n : Nat) (h : HI) (v1 : Int32), fX9_over_102 m k n h v1 = some p → WW X (sh, adr, 0, 0) 102 [.ref m, .int v1] [] (mk h r) := by
  intro n
  induction n with
  | zero =>
    intro h v1 H
    rw [fX9_over_102] at H
    cases H
  | succ n ih =>
    intro h v1 H
    rw [fX9_over_102] at H
    refine ww_iload_n C dX9_over_102 1 rfl rfl ?_
    refine ww_aload_n C dX9_over_103 0 rfl rfl ?_
    refine wk_getR C dX9_over_104 fl_X9_45 hS.1 rfl (tX9_many hS).1 ?_
    refine ww_iconst (v := (0 : Int32)) C dX9_over_107 (by decide) ?_
    refine wk_iaload C dX9_over_108 (tX9_many hS).2.1 (vp_of (by decide : inB (0 : Int32) 3) (tX9_many hS).2.2) 0 rfl ?_
    refine ww_icmp_ge C dX9_over_109 147 rfl (fun hc => ?_) (fun hc => ?_)
    · rw [if_pos hc] at H
      exact ww_drop [.ref m, .retAddr 0] (sl_e (sl_d sl_n)) (hk h H)
    · rw [if_neg hc] at H
      refine ww_aload_n C dX9_over_112 0 rfl rfl ?_
      refine wk_getI C dX9_over_113 fl_X9_424 hS.1 rfl ?_
      refine ww_sipush (v := (200 : Int32)) C dX9_over_116 (by decide) ?_
      refine ww_icmp_gt C dX9_over_119 147 rfl (fun hc => ?_) (fun hc => ?_)
      · rw [if_pos hc] at H
        exact ww_drop [.ref m, .retAddr 0] (sl_e (sl_d sl_n)) (hk h H)
      · rw [if_neg hc] at H
        refine ww_aload_n C dX9_over_122 0 rfl rfl ?_
        refine wk_getR C dX9_over_123 fl_X9_121 hS.1 rfl (tX9_sat hS).1 ?_
        refine ww_bipush (v := (6 : Int32)) C dX9_over_126 (by decide) ?_
        refine ww_aload_n C dX9_over_128 0 rfl rfl ?_
        refine wk_getI C dX9_over_129 fl_X9_424 hS.1 rfl ?_
        refine ww_imul C dX9_over_132 ?_
        refine ww_iload_n C dX9_over_133 1 rfl rfl ?_
        refine ww_iadd C dX9_over_134 ?_
        refine ww_aload_n C dX9_over_135 0 rfl rfl ?_
        refine ww_iload_n C dX9_over_136 1 rfl rfl ?_
        obtain ⟨p11, hc1, H⟩ := bd_of H
        refine ww_callV C hZ dX9_over_137 cw_X9_439 (ccX9_on hS hc1) hS.1 ⟨by decide, rfl⟩ (by decide) rfl rfl (Nat.le_of_ble_eq_true rfl) ⟨Nat.zero_le _, Nat.zero_le _⟩ (fun v τ hp => ?_)
        obtain ⟨rfl, rfl⟩ := hp
        change WW X _ 140 [.ref m, .int v1] [.int p11.1, .int (((6 : Int32) * (h.1 m 57)) + v1), .ref (m + 36)] _
        obtain ⟨hg, H⟩ := gd_of H
        refine wk_iastore C dX9_over_140 (tX9_sat hS).2.1 (vp_of hg (tX9_sat hS).2.2) ((((6 : Int32) * (h.1 m 57)) + v1).toNatClampNeg) rfl ?_
        refine ww_iinc (v := (v1 + (1 : Int32))) C dX9_over_141 rfl rfl (by decide) rfl [.ref m, .int (v1 + (1 : Int32))] rfl ?_
        refine ww_goto C dX9_over_144 102 rfl ?_
        exact ih (uI p11.2 (m + 36) ((((6 : Int32) * (h.1 m 57)) + v1).toNatClampNeg) p11.1) (v1 + (1 : Int32)) H
def fX9_over (m : Nat) (h : HI) : Option (Int32 × HI) := fX9_over_12 m (fun h2 => fX9_over_60 m (fun h6 => fX9_over_81 m (fun h10 => fX9_over_102 m (fun h13 => some ((h13.1 m 57), h13)) FU h10 (0 : Int32)) FU h6 (0 : Int32)) FU h2 (0 : Int32)) FU (uI h m 57 ((h.1 m 57) + (1 : Int32))) (0 : Int32)
set_option maxRecDepth 100000 in
set_option maxHeartbeats 4000000 in
theorem ccX9_over {l : Launch} {sh : Sh} {adr : Nat → Nat} {r : Nat → Nat → Option Nat} {m : Nat} (hS : MS sh r m) {h : HI}  {p : Int32 × HI} (H : fX9_over m h = some p) : CC l yX9_over cX9_over 2 (some .int) 4 [.ref m] sh adr (mk h r) (fun v τ => v = some (.int p.1) ∧ τ = mk p.2 r) := by
  refine CC.of (by decide) (Nat.le_of_ble_eq_true rfl) 1 [.ref m, .retAddr 0] rfl (fun X _ C E hZ => ?_)
  rw [fX9_over] at H
  refine ww_aload_n C dX9_over_0 0 rfl rfl ?_
  refine ww_dup C dX9_over_1 rfl ?_
  refine wk_getI C dX9_over_2 fl_X9_424 hS.1 rfl ?_
  refine ww_iconst (v := (1 : Int32)) C dX9_over_5 (by decide) ?_
  refine ww_iadd C dX9_over_6 ?_
  refine wk_putI C dX9_over_7 fl_X9_424 hS.1 rfl rfl ?_
  refine ww_iconst (v := (0 : Int32)) C dX9_over_10 (by decide) ?_
  refine ww_istore_n C dX9_over_11 1 rfl (by decide) rfl [.ref m, .int (0 : Int32)] rfl ?_
  refine cX9_over_12 hS C hZ E (fun h2 H => ?_) FU (uI h m 57 ((h.1 m 57) + (1 : Int32))) (0 : Int32) H
  refine ww_iconst (v := (0 : Int32)) C dX9_over_58 (by decide) ?_
  refine ww_istore_n C dX9_over_59 1 rfl (by decide) rfl [.ref m, .int (0 : Int32)] rfl ?_
  refine cX9_over_60 hS C hZ E (fun h6 H => ?_) FU h2 (0 : Int32) H
  refine ww_iconst (v := (0 : Int32)) C dX9_over_79 (by decide) ?_
  refine ww_istore_n C dX9_over_80 1 rfl (by decide) rfl [.ref m, .int (0 : Int32)] rfl ?_
  refine cX9_over_81 hS C hZ E (fun h10 H => ?_) FU h6 (0 : Int32) H
  refine ww_iconst (v := (0 : Int32)) C dX9_over_100 (by decide) ?_
  refine ww_istore_n C dX9_over_101 1 rfl (by decide) rfl [.ref m, .int (0 : Int32)] rfl ?_
  refine cX9_over_102 hS C hZ E (fun h13 H => ?_) FU h10 (0 : Int32) H
  refine ww_aload_n C dX9_over_147 0 rfl rfl ?_
  refine wk_getI C dX9_over_148 fl_X9_424 hS.1 rfl ?_
  cases H
  exact ww_iret C E dX9_over_151 ⟨rfl, rfl⟩
