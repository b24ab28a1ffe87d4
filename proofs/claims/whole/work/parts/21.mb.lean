def fX9_settle_0 (m : Nat) (k : HI → Option (HI)) : Nat → HI → Int32 → Option (HI)
  | 0, _, _ => none
  | n + 1, h, v1 => ((fX9_upper m h).bind fun p1 => (if p1.1 = (40 : Int32) then k p1.2 else ((fX9_upper m p1.2).bind fun p2 => ((fX9_rank p2.2 p2.1).bind fun p3 => (if p3.1 < v1 then k p3.2 else ((fX9_pop m p3.2).bind fun h4 => fX9_settle_0 m k n h4 v1))))))
set_option maxRecDepth 100000 in
set_option maxHeartbeats 4000000 in
theorem cX9_settle_0 {X : CT} {sh : Sh} {adr : Nat → Nat} {r : Nat → Nat → Option Nat} {m : Nat} {p : HI} (hS : MS sh r m) (C : CX X yX9_settle.cls cX9_settle 2 2) (hZ : SZX X adr) (E : RX X none sh adr (fun v τ => v = none ∧ τ = mk p r)) {k : HI → Option (HI)} (hk : ∀ (h : HI), k h = some p → WW X (sh, adr, 0, 0) 27 [.ref m, .retAddr 0] [] (mk h r)) : ∀ (n : Nat) (h : HI) (v1 : Int32), fX9_settle_0 m k n h v1 = some p → WW X (sh, adr, 0, 0) 0 [.ref m, .int v1] [] (mk h r) := by
  intro n
  induction n with
  | zero =>
    intro h v1 H
    rw [fX9_settle_0] at H
    cases H
  | succ n ih =>
    intro h v1 H
    rw [fX9_settle_0] at H
    refine ww_aload_n C dX9_settle_0 0 rfl rfl ?_
    obtain ⟨p1, hc1, H⟩ := bd_of H
    refine ww_callV C hZ dX9_settle_1 cw_X9_295 (ccX9_upper hS hc1) hS.1 ⟨by decide, rfl⟩ (by decide) rfl rfl (Nat.le_of_ble_eq_true rfl) ⟨Nat.zero_le _, Nat.zero_le _⟩ (fun v τ hp => ?_)
    obtain ⟨rfl, rfl⟩ := hp
    change WW X _ 4 [.ref m, .int v1] [.int p1.1] _
    refine ww_bipush (v := (40 : Int32)) C dX9_settle_4 (by decide) ?_
    refine ww_icmp_eq C dX9_settle_6 27 rfl (fun hc => ?_) (fun hc => ?_)
    · rw [if_pos hc] at H
      exact ww_drop [.ref m, .retAddr 0] (sl_e (sl_d sl_n)) (hk p1.2 H)
    · rw [if_neg hc] at H
      refine ww_aload_n C dX9_settle_9 0 rfl rfl ?_
      obtain ⟨p2, hc1, H⟩ := bd_of H
      refine ww_callV C hZ dX9_settle_10 cw_X9_295 (ccX9_upper hS hc1) hS.1 ⟨by decide, rfl⟩ (by decide) rfl rfl (Nat.le_of_ble_eq_true rfl) ⟨Nat.zero_le _, Nat.zero_le _⟩ (fun v τ hp => ?_)
      obtain ⟨rfl, rfl⟩ := hp
      change WW X _ 13 [.ref m, .int v1] [.int p2.1] _
      obtain ⟨p3, hc1, H⟩ := bd_of H
      refine ww_callS C hZ dX9_settle_13 sw_X9_299 (ccX9_rank hc1) (by decide) rfl rfl (Nat.le_of_ble_eq_true rfl) ⟨Nat.zero_le _, Nat.zero_le _⟩ (fun v τ hp => ?_)
      obtain ⟨rfl, rfl⟩ := hp
      change WW X _ 16 [.ref m, .int v1] [.int p3.1] _
      refine ww_iload_n C dX9_settle_16 1 rfl rfl ?_
      refine ww_icmp_lt C dX9_settle_17 27 rfl (fun hc => ?_) (fun hc => ?_)
      · rw [if_pos hc] at H
        exact ww_drop [.ref m, .retAddr 0] (sl_e (sl_d sl_n)) (hk p3.2 H)
      · rw [if_neg hc] at H
        refine ww_aload_n C dX9_settle_20 0 rfl rfl ?_
        obtain ⟨h4, hc1, H⟩ := bd_of H
        refine ww_callV C hZ dX9_settle_21 cw_X9_302 (ccX9_pop hS hc1) hS.1 ⟨by decide, rfl⟩ (by decide) rfl rfl (Nat.le_of_ble_eq_true rfl) ⟨Nat.zero_le _, Nat.zero_le _⟩ (fun v τ hp => ?_)
        obtain ⟨rfl, rfl⟩ := hp
        change WW X _ 24 [.ref m, .int v1] [] _
        refine ww_goto C dX9_settle_24 0 rfl ?_
        exact ih h4 v1 H
def fX9_settle (m : Nat) (h : HI) (a1 : Int32) : Option (HI) := fX9_settle_0 m (fun h6 => some h6) FU h a1
set_option maxRecDepth 100000 in
set_option maxHeartbeats 4000000 in
theorem ccX9_settle {l : Launch} {sh : Sh} {adr : Nat → Nat} {r : Nat → Nat → Option Nat} {m : Nat} (hS : MS sh r m) {h : HI} {a1 : Int32} {p : HI} (H : fX9_settle m h a1 = some p) : CC l yX9_settle cX9_settle 2 none 2 [.ref m, .int a1] sh adr (mk h r) (fun v τ => v = none ∧ τ = mk p r) := by
  refine CC.of (by decide) (Nat.le_of_ble_eq_true rfl) 0 [.ref m, .int a1] rfl (fun X _ C E hZ => ?_)
  rw [fX9_settle] at H
  refine cX9_settle_0 hS C hZ E (fun h6 H => ?_) FU h a1 H
  cases H
  exact ww_vret C E dX9_settle_27 ⟨rfl, rfl⟩
def fX9_isOpen_32 (m : Nat) (k : HI → Int32 → Option (Int32 × HI)) (kb : HI → Int32 → Int32 → Option (Int32 × HI)) (h : HI) (v2 : Int32) (s0 : Int32) : Option (Int32 × HI) := kb h s0 (v2 + (1 : Int32))
set_option maxRecDepth 100000 in
set_option maxHeartbeats 4000000 in
theorem cX9_isOpen_32 {X : CT} {sh : Sh} {adr : Nat → Nat} {r : Nat → Nat → Option Nat} {m : Nat} {p : Int32 × HI} (hS : MS sh r m) (C : CX X yX9_isOpen.cls cX9_isOpen 3 0) (hZ : SZX X adr) (E : RX X (some .boolean) sh adr (fun v τ => v = some (.int p.1) ∧ τ = mk p.2 r)) {k : HI → Int32 → Option (Int32 × HI)} {kb : HI → Int32 → Int32 → Option (Int32 × HI)} (hk : ∀ (h : HI) (v1 : Int32), k h v1 = some p → WW X (sh, adr, 0, 0) 39 [.ref m, .int v1, .retAddr 0] [] (mk h r)) (hb : ∀ (h : HI) (v1 : Int32) (v2 : Int32), kb h v1 v2 = some p → WW X (sh, adr, 0, 0) 4 [.ref m, .int v1, .int v2] [] (mk h r)) {h : HI} {v2 : Int32} {s0 : Int32} (H : fX9_isOpen_32 m k kb h v2 s0 = some p) : WW X (sh, adr, 0, 0) 32 [.ref m, .retAddr 0, .int v2] [.int s0] (mk h r) := by
  rw [fX9_isOpen_32] at H
  refine ww_istore_n C dX9_isOpen_32 1 rfl (by decide) rfl [.ref m, .int s0, .int v2] rfl ?_
  refine ww_iinc (v := (v2 + (1 : Int32))) C dX9_isOpen_33 rfl rfl (by decide) rfl [.ref m, .int s0, .int (v2 + (1 : Int32))] rfl ?_
  refine ww_goto C dX9_isOpen_36 4 rfl ?_
  exact hb h s0 (v2 + (1 : Int32)) H
def fX9_isOpen_27 (m : Nat) (k : HI → Int32 → Option (Int32 × HI)) (kb : HI → Int32 → Int32 → Option (Int32 × HI)) (h : HI) (v2 : Int32) : Option (Int32 × HI) := fX9_isOpen_32 m k kb h v2 (1 : Int32)
set_option maxRecDepth 100000 in
set_option maxHeartbeats 4000000 in
theorem cX9_isOpen_27 {X : CT} {sh : Sh} {adr : Nat → Nat} {r : Nat → Nat → Option Nat} {m : Nat} {p : Int32 × HI} (hS : MS sh r m) (C : CX X yX9_isOpen.cls cX9_isOpen 3 0) (hZ : SZX X adr) (E : RX X (some .boolean) sh adr (fun v τ => v = some (.int p.1) ∧ τ = mk p.2 r)) {k : HI → Int32 → Option (Int32 × HI)} {kb : HI → Int32 → Int32 → Option (Int32 × HI)} (hk : ∀ (h : HI) (v1 : Int32), k h v1 = some p → WW X (sh, adr, 0, 0) 39 [.ref m, .int v1, .retAddr 0] [] (mk h r)) (hb : ∀ (h : HI) (v1 : Int32) (v2 : Int32), kb h v1 v2 = some p → WW X (sh, adr, 0, 0) 4 [.ref m, .int v1, .int v2] [] (mk h r)) {h : HI} {v2 : Int32} (H : fX9_isOpen_27 m k kb h v2 = some p) : WW X (sh, adr, 0, 0) 27 [.ref m, .retAddr 0, .int v2] [] (mk h r) := by
  rw [fX9_isOpen_27] at H
  refine ww_iconst (v := (1 : Int32)) C dX9_isOpen_27 (by decide) ?_
  refine ww_goto C dX9_isOpen_28 32 rfl ?_
  exact cX9_isOpen_32 hS C hZ E hk hb H
def fX9_isOpen_4 (m : Nat) (k : HI → Int32 → Option (Int32 × HI)) : Nat → HI → Int32 → Int32 → Option (Int32 × HI)
  | 0, _, _, _ => none
  | n + 1, h, v1, v2 => (if (h.1 m 21) ≤ v2 then k h v1 else (if v1 = 0 then (if inB v2 300 then (if (h.1 (m + 6) (v2.toNatClampNeg)) = (40 : Int32) then fX9_isOpen_27 m (k) (fX9_isOpen_4 m k n) h v2 else fX9_isOpen_32 m (k) (fX9_isOpen_4 m k n) h v2 (0 : Int32)) else none) else fX9_isOpen_27 m (k) (fX9_isOpen_4 m k n) h v2))
set_option maxRecDepth 100000 in
set_option maxHeartbeats 4000000 in
theorem cX9_isOpen_4 {X : CT} {sh : Sh} {adr : Nat → Nat} {r : Nat → Nat → Option Nat} {m : Nat} {p : Int32 × HI} (hS : MS sh r m) (C : CX X yX9_isOpen.cls cX9_isOpen 3 0) (hZ : SZX X adr) (E : RX X (some .boolean) sh adr (fun v τ => v = some (.int p.1) ∧ τ = mk p.2 r)) {k : HI → Int32 → Option (Int32 × HI)} (hk : ∀ (h : HI) (v1 : Int32), k h v1 = some p → WW X (sh, adr, 0, 0) 39 [.ref m, .int v1, .retAddr 0] [] (mk h r)) : ∀ (n : Nat) (h : HI) (v1 : Int32) (v2 : Int32), fX9_isOpen_4 m k n h v1 v2 = some p → WW X (sh, adr, 0, 0) 4 [.ref m, .int v1, .int v2] [] (mk h r) := by
  intro n
  induction n with
  | zero =>
    intro h v1 v2 H
    rw [fX9_isOpen_4] at H
    cases H
  | succ n ih =>
    intro h v1 v2 H
    rw [fX9_isOpen_4] at H
    refine ww_iload_n C dX9_isOpen_4 2 rfl rfl ?_
    refine ww_aload_n C dX9_isOpen_5 0 rfl rfl ?_
    refine wk_getI C dX9_isOpen_6 fl_X9_286 hS.1 rfl ?_
    refine ww_icmp_ge C dX9_isOpen_9 39 rfl (fun hc => ?_) (fun hc => ?_)
    · rw [if_pos hc] at H
      exact ww_drop [.ref m, .int v1, .retAddr 0] (sl_e (sl_e (sl_d sl_n))) (hk h v1 H)
    · rw [if_neg hc] at H
      refine ww_iload_n C dX9_isOpen_12 1 rfl rfl ?_
      refine ww_if_ne C dX9_isOpen_13 27 rfl (fun hc => ?_) (fun hc => ?_)
      · rw [if_neg hc] at H
        exact ww_drop [.ref m, .retAddr 0, .int v2] (sl_e (sl_d (sl_e sl_n))) (cX9_isOpen_27 hS C hZ E hk ih H)
      · rw [if_pos hc] at H
        refine ww_aload_n C dX9_isOpen_16 0 rfl rfl ?_
        refine wk_getR C dX9_isOpen_17 fl_X9_29 hS.1 rfl (tX9_waits hS).1 ?_
        refine ww_iload_n C dX9_isOpen_20 2 rfl rfl ?_
        obtain ⟨hg, H⟩ := gd_of H
        refine wk_iaload C dX9_isOpen_21 (tX9_waits hS).2.1 (vp_of hg (tX9_waits hS).2.2) (v2.toNatClampNeg) rfl ?_
        refine ww_bipush (v := (40 : Int32)) C dX9_isOpen_22 (by decide) ?_
        refine ww_icmp_ne C dX9_isOpen_24 31 rfl (fun hc => ?_) (fun hc => ?_)
        · rw [if_neg hc] at H
          refine ww_iconst (v := (0 : Int32)) C dX9_isOpen_31 (by decide) ?_
          exact ww_drop [.ref m, .retAddr 0, .int v2] (sl_e (sl_d (sl_e sl_n))) (cX9_isOpen_32 hS C hZ E hk ih H)
        · rw [if_pos hc] at H
          exact ww_drop [.ref m, .retAddr 0, .int v2] (sl_e (sl_d (sl_e sl_n))) (cX9_isOpen_27 hS C hZ E hk ih H)
def fX9_isOpen (m : Nat) (h : HI) : Option (Int32 × HI) := fX9_isOpen_4 m (fun h2 v1 => (if v1 = 0 ∨ v1 = 1 then some (v1, h2) else none)) FU h (0 : Int32) (0 : Int32)
set_option maxRecDepth 100000 in
set_option maxHeartbeats 4000000 in
theorem ccX9_isOpen {l : Launch} {sh : Sh} {adr : Nat → Nat} {r : Nat → Nat → Option Nat} {m : Nat} (hS : MS sh r m) {h : HI}  {p : Int32 × HI} (H : fX9_isOpen m h = some p) : CC l yX9_isOpen cX9_isOpen 3 (some .boolean) 0 [.ref m] sh adr (mk h r) (fun v τ => v = some (.int p.1) ∧ τ = mk p.2 r) := by
  refine CC.of (by decide) (Nat.le_of_ble_eq_true rfl) 2 [.ref m, .retAddr 0, .retAddr 0] rfl (fun X _ C E hZ => ?_)
  rw [fX9_isOpen] at H
  refine ww_iconst (v := (0 : Int32)) C dX9_isOpen_0 (by decide) ?_
  refine ww_istore_n C dX9_isOpen_1 1 rfl (by decide) rfl [.ref m, .int (0 : Int32), .retAddr 0] rfl ?_
  refine ww_iconst (v := (0 : Int32)) C dX9_isOpen_2 (by decide) ?_
  refine ww_istore_n C dX9_isOpen_3 2 rfl (by decide) rfl [.ref m, .int (0 : Int32), .int (0 : Int32)] rfl ?_
  refine cX9_isOpen_4 hS C hZ E (fun h2 v1 H => ?_) FU h (0 : Int32) (0 : Int32) H
  refine ww_iload_n C dX9_isOpen_39 1 rfl rfl ?_
  obtain ⟨hg, H⟩ := gd_of H
  cases H
  exact ww_zret C E dX9_isOpen_40 hg ⟨rfl, rfl⟩
def fX9_known (m : Nat) (h : HI) : Option (Int32 × HI) := ((fX9_isWord m h (7955827 : Int64)).bind fun p1 => (if p1.1 = 0 then ((fX9_isWord m p1.2 (28271 : Int64)).bind fun p2 => (if p2.1 = 0 then ((fX9_isWord m p2.2 (1936290931 : Int64)).bind fun p3 => (if p3.1 = 0 then ((fX9_isWord m p3.2 (126943688025203 : Int64)).bind fun p4 => (if p4.1 = 0 then ((fX9_isWord m p4.2 (1751478885 : Int64)).bind fun p5 => (if p5.1 = 0 then some ((-1 : Int32), p5.2) else some ((5 : Int32), p5.2))) else some ((4 : Int32), p4.2))) else some ((3 : Int32), p3.2))) else some ((2 : Int32), p2.2))) else some ((1 : Int32), p1.2)))
set_option maxRecDepth 100000 in
set_option maxHeartbeats 4000000 in
theorem ccX9_known {l : Launch} {sh : Sh} {adr : Nat → Nat} {r : Nat → Nat → Option Nat} {m : Nat} (hS : MS sh r m) {h : HI}  {p : Int32 × HI} (H : fX9_known m h = some p) : CC l yX9_known cX9_known 1 (some .int) 1 [.ref m] sh adr (mk h r) (fun v τ => v = some (.int p.1) ∧ τ = mk p.2 r) := by
  refine CC.of (by decide) (Nat.le_of_ble_eq_true rfl) 0 [.ref m] rfl (fun X _ C E hZ => ?_)
  rw [fX9_known] at H
  refine ww_aload_n C dX9_known_0 0 rfl rfl ?_
  refine ww_ldc2 (v := (7955827 : Int64)) C dX9_known_1 kl_X9_249 ?_
  obtain ⟨p1, hc1, H⟩ := bd_of H
  refine ww_callV C hZ dX9_known_4 cw_X9_265 (ccX9_isWord hS hc1) hS.1 ⟨by decide, rfl⟩ (by decide) rfl rfl (Nat.le_of_ble_eq_true rfl) ⟨Nat.zero_le _, Nat.zero_le _⟩ (fun v τ hp => ?_)
  obtain ⟨rfl, rfl⟩ := hp
  change WW X _ 7 [.ref m] [.int p1.1] _
  refine ww_if_eq C dX9_known_7 14 rfl (fun hc => ?_) (fun hc => ?_)
  · rw [if_pos hc] at H
    refine ww_aload_n C dX9_known_14 0 rfl rfl ?_
    refine ww_ldc2 (v := (28271 : Int64)) C dX9_known_15 kl_X9_251 ?_
    obtain ⟨p2, hc1, H⟩ := bd_of H
    refine ww_callV C hZ dX9_known_18 cw_X9_265 (ccX9_isWord hS hc1) hS.1 ⟨by decide, rfl⟩ (by decide) rfl rfl (Nat.le_of_ble_eq_true rfl) ⟨Nat.zero_le _, Nat.zero_le _⟩ (fun v τ hp => ?_)
    obtain ⟨rfl, rfl⟩ := hp
    change WW X _ 21 [.ref m] [.int p2.1] _
    refine ww_if_eq C dX9_known_21 28 rfl (fun hc => ?_) (fun hc => ?_)
    · rw [if_pos hc] at H
      refine ww_aload_n C dX9_known_28 0 rfl rfl ?_
      refine ww_ldc2 (v := (1936290931 : Int64)) C dX9_known_29 kl_X9_253 ?_
      obtain ⟨p3, hc1, H⟩ := bd_of H
      refine ww_callV C hZ dX9_known_32 cw_X9_265 (ccX9_isWord hS hc1) hS.1 ⟨by decide, rfl⟩ (by decide) rfl rfl (Nat.le_of_ble_eq_true rfl) ⟨Nat.zero_le _, Nat.zero_le _⟩ (fun v τ hp => ?_)
      obtain ⟨rfl, rfl⟩ := hp
      change WW X _ 35 [.ref m] [.int p3.1] _
      refine ww_if_eq C dX9_known_35 42 rfl (fun hc => ?_) (fun hc => ?_)
      · rw [if_pos hc] at H
        refine ww_aload_n C dX9_known_42 0 rfl rfl ?_
        refine ww_ldc2 (v := (126943688025203 : Int64)) C dX9_known_43 kl_X9_255 ?_
        obtain ⟨p4, hc1, H⟩ := bd_of H
        refine ww_callV C hZ dX9_known_46 cw_X9_265 (ccX9_isWord hS hc1) hS.1 ⟨by decide, rfl⟩ (by decide) rfl rfl (Nat.le_of_ble_eq_true rfl) ⟨Nat.zero_le _, Nat.zero_le _⟩ (fun v τ hp => ?_)
        obtain ⟨rfl, rfl⟩ := hp
        change WW X _ 49 [.ref m] [.int p4.1] _
        refine ww_if_eq C dX9_known_49 56 rfl (fun hc => ?_) (fun hc => ?_)
        · rw [if_pos hc] at H
          refine ww_aload_n C dX9_known_56 0 rfl rfl ?_
          refine ww_ldc2 (v := (1751478885 : Int64)) C dX9_known_57 kl_X9_257 ?_
          obtain ⟨p5, hc1, H⟩ := bd_of H
          refine ww_callV C hZ dX9_known_60 cw_X9_265 (ccX9_isWord hS hc1) hS.1 ⟨by decide, rfl⟩ (by decide) rfl rfl (Nat.le_of_ble_eq_true rfl) ⟨Nat.zero_le _, Nat.zero_le _⟩ (fun v τ hp => ?_)
          obtain ⟨rfl, rfl⟩ := hp
          change WW X _ 63 [.ref m] [.int p5.1] _
          refine ww_if_eq C dX9_known_63 70 rfl (fun hc => ?_) (fun hc => ?_)
          · rw [if_pos hc] at H
            refine ww_iconst (v := (-1 : Int32)) C dX9_known_70 (by decide) ?_
            cases H
            exact ww_iret C E dX9_known_71 ⟨rfl, rfl⟩
          · rw [if_neg hc] at H
            refine ww_iconst (v := (5 : Int32)) C dX9_known_66 (by decide) ?_
            refine ww_goto C dX9_known_67 71 rfl ?_
            cases H
            exact ww_iret C E dX9_known_71 ⟨rfl, rfl⟩
        · rw [if_neg hc] at H
          refine ww_iconst (v := (4 : Int32)) C dX9_known_52 (by decide) ?_
          refine ww_goto C dX9_known_53 71 rfl ?_
          cases H
          exact ww_iret C E dX9_known_71 ⟨rfl, rfl⟩
      · rw [if_neg hc] at H
        refine ww_iconst (v := (3 : Int32)) C dX9_known_38 (by decide) ?_
        refine ww_goto C dX9_known_39 71 rfl ?_
        cases H
        exact ww_iret C E dX9_known_71 ⟨rfl, rfl⟩
    · rw [if_neg hc] at H
      refine ww_iconst (v := (2 : Int32)) C dX9_known_24 (by decide) ?_
      refine ww_goto C dX9_known_25 71 rfl ?_
      cases H
      exact ww_iret C E dX9_known_71 ⟨rfl, rfl⟩
  · rw [if_neg hc] at H
    refine ww_iconst (v := (1 : Int32)) C dX9_known_10 (by decide) ?_
    refine ww_goto C dX9_known_11 71 rfl ?_
    cases H
    exact ww_iret C E dX9_known_71 ⟨rfl, rfl⟩
def fX9_operand_169 (m : Nat) (h : HI) (s0 : Int32) : Option (Int32 × HI) := ((fX9_note m h s0 (h.1 m 8)).bind fun h2 => ((fX9_token m h2).bind fun h3 => some ((2 : Int32), h3)))
set_option maxRecDepth 100000 in
set_option maxHeartbeats 4000000 in
theorem cX9_operand_169 {X : CT} {sh : Sh} {adr : Nat → Nat} {r : Nat → Nat → Option Nat} {m : Nat} {p : Int32 × HI} (hS : MS sh r m) (C : CX X yX9_operand.cls cX9_operand 5 2) (hZ : SZX X adr) (E : RX X (some .int) sh adr (fun v τ => v = some (.int p.1) ∧ τ = mk p.2 r)) {h : HI} {s0 : Int32} (H : fX9_operand_169 m h s0 = some p) : WW X (sh, adr, 0, 0) 169 [.ref m, .retAddr 0, .retAddr 0, .retAddr 0, .retAddr 0] [.int s0, .ref m] (mk h r) := by
  rw [fX9_operand_169] at H
  refine ww_aload_n C dX9_operand_169 0 rfl rfl ?_
  refine wk_getI C dX9_operand_170 fl_X9_200 hS.1 rfl ?_
  obtain ⟨h2, hc1, H⟩ := bd_of H
  refine ww_callV C hZ dX9_operand_173 cw_X9_292 (ccX9_note hS hc1) hS.1 ⟨by decide, rfl⟩ (by decide) rfl rfl (Nat.le_of_ble_eq_true rfl) ⟨Nat.zero_le _, Nat.zero_le _⟩ (fun v τ hp => ?_)
  obtain ⟨rfl, rfl⟩ := hp
  change WW X _ 176 [.ref m, .retAddr 0, .retAddr 0, .retAddr 0, .retAddr 0] [] _
  refine ww_aload_n C dX9_operand_176 0 rfl rfl ?_
  obtain ⟨h3, hc1, H⟩ := bd_of H
  refine ww_callV C hZ dX9_operand_177 cw_X9_272 (ccX9_token hS hc1) hS.1 ⟨by decide, rfl⟩ (by decide) rfl rfl (Nat.le_of_ble_eq_true rfl) ⟨Nat.zero_le _, Nat.zero_le _⟩ (fun v τ hp => ?_)
  obtain ⟨rfl, rfl⟩ := hp
  change WW X _ 180 [.ref m, .retAddr 0, .retAddr 0, .retAddr 0, .retAddr 0] [] _
  refine ww_iconst (v := (2 : Int32)) C dX9_operand_180 (by decide) ?_
  cases H
  exact ww_iret C E dX9_operand_181 ⟨rfl, rfl⟩
def fX9_operand_103 (m : Nat) (h : HI) (v1 : Int32) (v2 : Int32) (v3 : Int32) : Option (Int32 × HI) := (if (h.1 m 2) ≤ 0 then (if v2 = 0 then (if (h.1 m 6) = (40 : Int32) then ((fX9_hold m (uI h m 18 ((h.1 m 18) + (1 : Int32))) (40 : Int32)).bind fun h4 => ((fX9_token m h4).bind fun h5 => some ((0 : Int32), h5))) else (if 0 ≤ v3 then fX9_operand_169 m (uI h m 18 ((h.1 m 18) + (1 : Int32))) v3 else fX9_operand_169 m (uI h m 18 ((h.1 m 18) + (1 : Int32))) (0 : Int32))) else ((fX9_hold m h (22 : Int32)).bind fun h6 => ((fX9_token m h6).bind fun h7 => some ((0 : Int32), h7)))) else some (v1, h))
set_option maxRecDepth 100000 in
set_option maxHeartbeats 4000000 in
theorem cX9_operand_103 {X : CT} {sh : Sh} {adr : Nat → Nat} {r : Nat → Nat → Option Nat} {m : Nat} {p : Int32 × HI} (hS : MS sh r m) (C : CX X yX9_operand.cls cX9_operand 5 2) (hZ : SZX X adr) (E : RX X (some .int) sh adr (fun v τ => v = some (.int p.1) ∧ τ = mk p.2 r)) {h : HI} {v1 : Int32} {v2 : Int32} {v3 : Int32} (H : fX9_operand_103 m h v1 v2 v3 = some p) : WW X (sh, adr, 0, 0) 103 [.ref m, .int v1, .int v2, .int v3, .retAddr 0] [] (mk h r) := by
  rw [fX9_operand_103] at H
  refine ww_aload_n C dX9_operand_103 0 rfl rfl ?_
  refine wk_getI C dX9_operand_104 fl_X9_216 hS.1 rfl ?_
  refine ww_if_le C dX9_operand_107 112 rfl (fun hc => ?_) (fun hc => ?_)
  · rw [if_pos hc] at H
    refine ww_iload_n C dX9_operand_112 2 rfl rfl ?_
    refine ww_if_eq C dX9_operand_113 128 rfl (fun hc => ?_) (fun hc => ?_)
    · rw [if_pos hc] at H
      refine ww_aload_n C dX9_operand_128 0 rfl rfl ?_
      refine ww_dup C dX9_operand_129 rfl ?_
      refine wk_getI C dX9_operand_130 fl_X9_308 hS.1 rfl ?_
      refine ww_iconst (v := (1 : Int32)) C dX9_operand_133 (by decide) ?_
      refine ww_iadd C dX9_operand_134 ?_
      refine wk_putI C dX9_operand_135 fl_X9_308 hS.1 rfl rfl ?_
      refine ww_aload_n C dX9_operand_138 0 rfl rfl ?_
      refine wk_getI C dX9_operand_139 fl_X9_203 hS.1 rfl ?_
      refine ww_as (v := (h.1 m 6)) (by rw [uI_n (by omega)]) ?_
      refine ww_bipush (v := (40 : Int32)) C dX9_operand_142 (by decide) ?_
      refine ww_icmp_ne C dX9_operand_144 159 rfl (fun hc => ?_) (fun hc => ?_)
      · rw [if_neg hc] at H
        refine ww_aload_n C dX9_operand_159 0 rfl rfl ?_
        refine ww_iload_n C dX9_operand_160 3 rfl rfl ?_
        refine ww_if_ge C dX9_operand_161 168 rfl (fun hc => ?_) (fun hc => ?_)
        · rw [if_pos hc] at H
          refine ww_iload_n C dX9_operand_168 3 rfl rfl ?_
          exact ww_drop [.ref m, .retAddr 0, .retAddr 0, .retAddr 0, .retAddr 0] (sl_e (sl_d (sl_d (sl_d (sl_e sl_n))))) (cX9_operand_169 hS C hZ E H)
        · rw [if_neg hc] at H
          refine ww_iconst (v := (0 : Int32)) C dX9_operand_164 (by decide) ?_
          refine ww_goto C dX9_operand_165 169 rfl ?_
          exact ww_drop [.ref m, .retAddr 0, .retAddr 0, .retAddr 0, .retAddr 0] (sl_e (sl_d (sl_d (sl_d (sl_e sl_n))))) (cX9_operand_169 hS C hZ E H)
      · rw [if_pos hc] at H
        refine ww_aload_n C dX9_operand_147 0 rfl rfl ?_
        refine ww_bipush (v := (40 : Int32)) C dX9_operand_148 (by decide) ?_
        obtain ⟨h4, hc1, H⟩ := bd_of H
        refine ww_callV C hZ dX9_operand_150 cw_X9_311 (ccX9_hold hS hc1) hS.1 ⟨by decide, rfl⟩ (by decide) rfl rfl (Nat.le_of_ble_eq_true rfl) ⟨Nat.zero_le _, Nat.zero_le _⟩ (fun v τ hp => ?_)
        obtain ⟨rfl, rfl⟩ := hp
        change WW X _ 153 [.ref m, .int v1, .int v2, .int v3, .retAddr 0] [] _
        refine ww_aload_n C dX9_operand_153 0 rfl rfl ?_
        obtain ⟨h5, hc1, H⟩ := bd_of H
        refine ww_callV C hZ dX9_operand_154 cw_X9_272 (ccX9_token hS hc1) hS.1 ⟨by decide, rfl⟩ (by decide) rfl rfl (Nat.le_of_ble_eq_true rfl) ⟨Nat.zero_le _, Nat.zero_le _⟩ (fun v τ hp => ?_)
        obtain ⟨rfl, rfl⟩ := hp
        change WW X _ 157 [.ref m, .int v1, .int v2, .int v3, .retAddr 0] [] _
        refine ww_iconst (v := (0 : Int32)) C dX9_operand_157 (by decide) ?_
        cases H
        exact ww_iret C E dX9_operand_158 ⟨rfl, rfl⟩
    · rw [if_neg hc] at H
      refine ww_aload_n C dX9_operand_116 0 rfl rfl ?_
      refine ww_bipush (v := (22 : Int32)) C dX9_operand_117 (by decide) ?_
      obtain ⟨h6, hc1, H⟩ := bd_of H
      refine ww_callV C hZ dX9_operand_119 cw_X9_311 (ccX9_hold hS hc1) hS.1 ⟨by decide, rfl⟩ (by decide) rfl rfl (Nat.le_of_ble_eq_true rfl) ⟨Nat.zero_le _, Nat.zero_le _⟩ (fun v τ hp => ?_)
      obtain ⟨rfl, rfl⟩ := hp
      change WW X _ 122 [.ref m, .int v1, .int v2, .int v3, .retAddr 0] [] _
      refine ww_aload_n C dX9_operand_122 0 rfl rfl ?_
      obtain ⟨h7, hc1, H⟩ := bd_of H
      refine ww_callV C hZ dX9_operand_123 cw_X9_272 (ccX9_token hS hc1) hS.1 ⟨by decide, rfl⟩ (by decide) rfl rfl (Nat.le_of_ble_eq_true rfl) ⟨Nat.zero_le _, Nat.zero_le _⟩ (fun v τ hp => ?_)
      obtain ⟨rfl, rfl⟩ := hp
      change WW X _ 126 [.ref m, .int v1, .int v2, .int v3, .retAddr 0] [] _
      refine ww_iconst (v := (0 : Int32)) C dX9_operand_126 (by decide) ?_
      cases H
      exact ww_iret C E dX9_operand_127 ⟨rfl, rfl⟩
  · rw [if_neg hc] at H
    refine ww_iload_n C dX9_operand_110 1 rfl rfl ?_
    cases H
    exact ww_iret C E dX9_operand_111 ⟨rfl, rfl⟩
def fX9_operand_98 (m : Nat) (h : HI) (v1 : Int32) (v2 : Int32) (v3 : Int32) : Option (Int32 × HI) := ((fX9_wrong m h (2 : Int32)).bind fun h8 => fX9_operand_103 m h8 v1 v2 v3)
set_option maxRecDepth 100000 in
set_option maxHeartbeats 4000000 in
theorem cX9_operand_98 {X : CT} {sh : Sh} {adr : Nat → Nat} {r : Nat → Nat → Option Nat} {m : Nat} {p : Int32 × HI} (hS : MS sh r m) (C : CX X yX9_operand.cls cX9_operand 5 2) (hZ : SZX X adr) (E : RX X (some .int) sh adr (fun v τ => v = some (.int p.1) ∧ τ = mk p.2 r)) {h : HI} {v1 : Int32} {v2 : Int32} {v3 : Int32} (H : fX9_operand_98 m h v1 v2 v3 = some p) : WW X (sh, adr, 0, 0) 98 [.ref m, .int v1, .int v2, .int v3, .retAddr 0] [] (mk h r) := by
  rw [fX9_operand_98] at H
  refine ww_aload_n C dX9_operand_98 0 rfl rfl ?_
  refine ww_iconst (v := (2 : Int32)) C dX9_operand_99 (by decide) ?_
  obtain ⟨h8, hc1, H⟩ := bd_of H
  refine ww_callV C hZ dX9_operand_100 cw_X9_269 (ccX9_wrong hS hc1) hS.1 ⟨by decide, rfl⟩ (by decide) rfl rfl (Nat.le_of_ble_eq_true rfl) ⟨Nat.zero_le _, Nat.zero_le _⟩ (fun v τ hp => ?_)
  obtain ⟨rfl, rfl⟩ := hp
  change WW X _ 103 [.ref m, .int v1, .int v2, .int v3, .retAddr 0] [] _
  exact cX9_operand_103 hS C hZ E H
def fX9_operand_89 (m : Nat) (h : HI) (v1 : Int32) (v2 : Int32) (v3 : Int32) : Option (Int32 × HI) := (if (h.1 m 22) < (7 : Int32) then fX9_operand_103 m h v1 v2 v3 else fX9_operand_98 m h v1 v2 v3)
set_option maxRecDepth 100000 in
set_option maxHeartbeats 4000000 in
theorem cX9_operand_89 {X : CT} {sh : Sh} {adr : Nat → Nat} {r : Nat → Nat → Option Nat} {m : Nat} {p : Int32 × HI} (hS : MS sh r m) (C : CX X yX9_operand.cls cX9_operand 5 2) (hZ : SZX X adr) (E : RX X (some .int) sh adr (fun v τ => v = some (.int p.1) ∧ τ = mk p.2 r)) {h : HI} {v1 : Int32} {v2 : Int32} {v3 : Int32} (H : fX9_operand_89 m h v1 v2 v3 = some p) : WW X (sh, adr, 0, 0) 89 [.ref m, .int v1, .int v2, .int v3, .retAddr 0] [] (mk h r) := by
  rw [fX9_operand_89] at H
  refine ww_aload_n C dX9_operand_89 0 rfl rfl ?_
  refine wk_getI C dX9_operand_90 fl_X9_289 hS.1 rfl ?_
  refine ww_bipush (v := (7 : Int32)) C dX9_operand_93 (by decide) ?_
  refine ww_icmp_lt C dX9_operand_95 103 rfl (fun hc => ?_) (fun hc => ?_)
  · rw [if_pos hc] at H
    exact cX9_operand_103 hS C hZ E H
  · rw [if_neg hc] at H
    exact cX9_operand_98 hS C hZ E H
def fX9_operand_76 (m : Nat) (h : HI) (v1 : Int32) (v2 : Int32) (v3 : Int32) : Option (Int32 × HI) := (if v2 = 0 then (if (h.1 m 6) = (40 : Int32) then fX9_operand_89 m h v1 v2 v3 else fX9_operand_103 m h v1 v2 v3) else fX9_operand_89 m h v1 v2 v3)
set_option maxRecDepth 100000 in
set_option maxHeartbeats 4000000 in
theorem cX9_operand_76 {X : CT} {sh : Sh} {adr : Nat → Nat} {r : Nat → Nat → Option Nat} {m : Nat} {p : Int32 × HI} (hS : MS sh r m) (C : CX X yX9_operand.cls cX9_operand 5 2) (hZ : SZX X adr) (E : RX X (some .int) sh adr (fun v τ => v = some (.int p.1) ∧ τ = mk p.2 r)) {h : HI} {v1 : Int32} {v2 : Int32} {v3 : Int32} (H : fX9_operand_76 m h v1 v2 v3 = some p) : WW X (sh, adr, 0, 0) 76 [.ref m, .int v1, .int v2, .int v3, .retAddr 0] [] (mk h r) := by
  rw [fX9_operand_76] at H
  refine ww_iload_n C dX9_operand_76 2 rfl rfl ?_
  refine ww_if_ne C dX9_operand_77 89 rfl (fun hc => ?_) (fun hc => ?_)
  · rw [if_neg hc] at H
    exact cX9_operand_89 hS C hZ E H
  · rw [if_pos hc] at H
    refine ww_aload_n C dX9_operand_80 0 rfl rfl ?_
    refine wk_getI C dX9_operand_81 fl_X9_203 hS.1 rfl ?_
    refine ww_bipush (v := (40 : Int32)) C dX9_operand_84 (by decide) ?_
    refine ww_icmp_ne C dX9_operand_86 103 rfl (fun hc => ?_) (fun hc => ?_)
    · rw [if_neg hc] at H
      exact cX9_operand_103 hS C hZ E H
    · rw [if_pos hc] at H
      exact cX9_operand_89 hS C hZ E H
def fX9_operand_62 (m : Nat) (h : HI) (v1 : Int32) (v2 : Int32) (v3 : Int32) (v4 : Int32) : Option (Int32 × HI) := (if v4 = 0 then fX9_operand_76 m h v1 v2 v3 else (if (h.1 m 18) = (40 : Int32) then fX9_operand_98 m h v1 v2 v3 else fX9_operand_76 m h v1 v2 v3))
set_option maxRecDepth 100000 in
set_option maxHeartbeats 4000000 in
theorem cX9_operand_62 {X : CT} {sh : Sh} {adr : Nat → Nat} {r : Nat → Nat → Option Nat} {m : Nat} {p : Int32 × HI} (hS : MS sh r m) (C : CX X yX9_operand.cls cX9_operand 5 2) (hZ : SZX X adr) (E : RX X (some .int) sh adr (fun v τ => v = some (.int p.1) ∧ τ = mk p.2 r)) {h : HI} {v1 : Int32} {v2 : Int32} {v3 : Int32} {v4 : Int32} (H : fX9_operand_62 m h v1 v2 v3 v4 = some p) : WW X (sh, adr, 0, 0) 62 [.ref m, .int v1, .int v2, .int v3, .int v4] [] (mk h r) := by
  rw [fX9_operand_62] at H
  refine ww_iload C dX9_operand_62 rfl ?_
  refine ww_if_eq C dX9_operand_64 76 rfl (fun hc => ?_) (fun hc => ?_)
  · rw [if_pos hc] at H
    exact ww_drop [.ref m, .int v1, .int v2, .int v3, .retAddr 0] (sl_e (sl_e (sl_e (sl_e (sl_d sl_n))))) (cX9_operand_76 hS C hZ E H)
  · rw [if_neg hc] at H
    refine ww_aload_n C dX9_operand_67 0 rfl rfl ?_
    refine wk_getI C dX9_operand_68 fl_X9_308 hS.1 rfl ?_
    refine ww_bipush (v := (40 : Int32)) C dX9_operand_71 (by decide) ?_
    refine ww_icmp_eq C dX9_operand_73 98 rfl (fun hc => ?_) (fun hc => ?_)
    · rw [if_pos hc] at H
      exact ww_drop [.ref m, .int v1, .int v2, .int v3, .retAddr 0] (sl_e (sl_e (sl_e (sl_e (sl_d sl_n))))) (cX9_operand_98 hS C hZ E H)
    · rw [if_neg hc] at H
      exact ww_drop [.ref m, .int v1, .int v2, .int v3, .retAddr 0] (sl_e (sl_e (sl_e (sl_e (sl_d sl_n))))) (cX9_operand_76 hS C hZ E H)
def fX9_operand_51 (m : Nat) (h : HI) (v1 : Int32) (v2 : Int32) (v3 : Int32) (s0 : Int32) : Option (Int32 × HI) := (if v2 = 0 then (if s0 = 0 then fX9_operand_98 m h v1 v2 v3 else fX9_operand_62 m h v1 v2 v3 s0) else fX9_operand_62 m h v1 v2 v3 s0)
set_option maxRecDepth 100000 in
set_option maxHeartbeats 4000000 in
theorem cX9_operand_51 {X : CT} {sh : Sh} {adr : Nat → Nat} {r : Nat → Nat → Option Nat} {m : Nat} {p : Int32 × HI} (hS : MS sh r m) (C : CX X yX9_operand.cls cX9_operand 5 2) (hZ : SZX X adr) (E : RX X (some .int) sh adr (fun v τ => v = some (.int p.1) ∧ τ = mk p.2 r)) {h : HI} {v1 : Int32} {v2 : Int32} {v3 : Int32} {s0 : Int32} (H : fX9_operand_51 m h v1 v2 v3 s0 = some p) : WW X (sh, adr, 0, 0) 51 [.ref m, .int v1, .int v2, .int v3, .retAddr 0] [.int s0] (mk h r) := by
  rw [fX9_operand_51] at H
  refine ww_istore C dX9_operand_51 (by decide) rfl [.ref m, .int v1, .int v2, .int v3, .int s0] rfl ?_
  refine ww_iload_n C dX9_operand_53 2 rfl rfl ?_
  refine ww_if_ne C dX9_operand_54 62 rfl (fun hc => ?_) (fun hc => ?_)
  · rw [if_neg hc] at H
    exact cX9_operand_62 hS C hZ E H
  · rw [if_pos hc] at H
    refine ww_iload C dX9_operand_57 rfl ?_
    refine ww_if_eq C dX9_operand_59 98 rfl (fun hc => ?_) (fun hc => ?_)
    · rw [if_pos hc] at H
      exact ww_drop [.ref m, .int v1, .int v2, .int v3, .retAddr 0] (sl_e (sl_e (sl_e (sl_e (sl_d sl_n))))) (cX9_operand_98 hS C hZ E H)
    · rw [if_neg hc] at H
      exact cX9_operand_62 hS C hZ E H
def fX9_operand_46 (m : Nat) (h : HI) (v1 : Int32) (v2 : Int32) (v3 : Int32) : Option (Int32 × HI) := fX9_operand_51 m h v1 v2 v3 (1 : Int32)
set_option maxRecDepth 100000 in
set_option maxHeartbeats 4000000 in
theorem cX9_operand_46 {X : CT} {sh : Sh} {adr : Nat → Nat} {r : Nat → Nat → Option Nat} {m : Nat} {p : Int32 × HI} (hS : MS sh r m) (C : CX X yX9_operand.cls cX9_operand 5 2) (hZ : SZX X adr) (E : RX X (some .int) sh adr (fun v τ => v = some (.int p.1) ∧ τ = mk p.2 r)) {h : HI} {v1 : Int32} {v2 : Int32} {v3 : Int32} (H : fX9_operand_46 m h v1 v2 v3 = some p) : WW X (sh, adr, 0, 0) 46 [.ref m, .int v1, .int v2, .int v3, .retAddr 0] [] (mk h r) := by
  rw [fX9_operand_46] at H
  refine ww_iconst (v := (1 : Int32)) C dX9_operand_46 (by decide) ?_
  refine ww_goto C dX9_operand_47 51 rfl ?_
  exact cX9_operand_51 hS C hZ E H
def fX9_operand_19 (m : Nat) (h : HI) (v1 : Int32) (s0 : Int32) : Option (Int32 × HI) := ((fX9_known m h).bind fun p1 => (if (p1.2.1 m 6) = (2 : Int32) then fX9_operand_46 m p1.2 v1 s0 p1.1 else (if (p1.2.1 m 6) = (40 : Int32) then fX9_operand_46 m p1.2 v1 s0 p1.1 else (if p1.1 < 0 then fX9_operand_51 m p1.2 v1 s0 p1.1 (0 : Int32) else fX9_operand_46 m p1.2 v1 s0 p1.1))))
set_option maxRecDepth 100000 in
set_option maxHeartbeats 4000000 in
theorem cX9_operand_19 {X : CT} {sh : Sh} {adr : Nat → Nat} {r : Nat → Nat → Option Nat} {m : Nat} {p : Int32 × HI} (hS : MS sh r m) (C : CX X yX9_operand.cls cX9_operand 5 2) (hZ : SZX X adr) (E : RX X (some .int) sh adr (fun v τ => v = some (.int p.1) ∧ τ = mk p.2 r)) {h : HI} {v1 : Int32} {s0 : Int32} (H : fX9_operand_19 m h v1 s0 = some p) : WW X (sh, adr, 0, 0) 19 [.ref m, .int v1, .retAddr 0, .retAddr 0, .retAddr 0] [.int s0] (mk h r) := by
  rw [fX9_operand_19] at H
  refine ww_istore_n C dX9_operand_19 2 rfl (by decide) rfl [.ref m, .int v1, .int s0, .retAddr 0, .retAddr 0] rfl ?_
  refine ww_aload_n C dX9_operand_20 0 rfl rfl ?_
  obtain ⟨p1, hc1, H⟩ := bd_of H
  refine ww_callV C hZ dX9_operand_21 cw_X9_305 (ccX9_known hS hc1) hS.1 ⟨by decide, rfl⟩ (by decide) rfl rfl (Nat.le_of_ble_eq_true rfl) ⟨Nat.zero_le _, Nat.zero_le _⟩ (fun v τ hp => ?_)
  obtain ⟨rfl, rfl⟩ := hp
  change WW X _ 24 [.ref m, .int v1, .int s0, .retAddr 0, .retAddr 0] [.int p1.1] _
  refine ww_istore_n C dX9_operand_24 3 rfl (by decide) rfl [.ref m, .int v1, .int s0, .int p1.1, .retAddr 0] rfl ?_
  refine ww_aload_n C dX9_operand_25 0 rfl rfl ?_
  refine wk_getI C dX9_operand_26 fl_X9_203 hS.1 rfl ?_
  refine ww_iconst (v := (2 : Int32)) C dX9_operand_29 (by decide) ?_
  refine ww_icmp_eq C dX9_operand_30 46 rfl (fun hc => ?_) (fun hc => ?_)
  · rw [if_pos hc] at H
    exact cX9_operand_46 hS C hZ E H
  · rw [if_neg hc] at H
    refine ww_aload_n C dX9_operand_33 0 rfl rfl ?_
    refine wk_getI C dX9_operand_34 fl_X9_203 hS.1 rfl ?_
    refine ww_bipush (v := (40 : Int32)) C dX9_operand_37 (by decide) ?_
    refine ww_icmp_eq C dX9_operand_39 46 rfl (fun hc => ?_) (fun hc => ?_)
    · rw [if_pos hc] at H
      exact cX9_operand_46 hS C hZ E H
    · rw [if_neg hc] at H
      refine ww_iload_n C dX9_operand_42 3 rfl rfl ?_
      refine ww_if_lt C dX9_operand_43 50 rfl (fun hc => ?_) (fun hc => ?_)
      · rw [if_pos hc] at H
        refine ww_iconst (v := (0 : Int32)) C dX9_operand_50 (by decide) ?_
        exact cX9_operand_51 hS C hZ E H
      · rw [if_neg hc] at H
        exact cX9_operand_46 hS C hZ E H
def fX9_operand_18 (m : Nat) (h : HI) (v1 : Int32) : Option (Int32 × HI) := fX9_operand_19 m h v1 (0 : Int32)
set_option maxRecDepth 100000 in
set_option maxHeartbeats 4000000 in
theorem cX9_operand_18 {X : CT} {sh : Sh} {adr : Nat → Nat} {r : Nat → Nat → Option Nat} {m : Nat} {p : Int32 × HI} (hS : MS sh r m) (C : CX X yX9_operand.cls cX9_operand 5 2) (hZ : SZX X adr) (E : RX X (some .int) sh adr (fun v τ => v = some (.int p.1) ∧ τ = mk p.2 r)) {h : HI} {v1 : Int32} (H : fX9_operand_18 m h v1 = some p) : WW X (sh, adr, 0, 0) 18 [.ref m, .int v1, .retAddr 0, .retAddr 0, .retAddr 0] [] (mk h r) := by
  rw [fX9_operand_18] at H
  refine ww_iconst (v := (0 : Int32)) C dX9_operand_18 (by decide) ?_
  exact cX9_operand_19 hS C hZ E H
def fX9_operand (m : Nat) (h : HI) (a1 : Int32) : Option (Int32 × HI) := (if a1 = 0 then ((fX9_isWord m h (7237492 : Int64)).bind fun p9 => (if p9.1 = 0 then fX9_operand_18 m p9.2 a1 else fX9_operand_19 m p9.2 a1 (1 : Int32))) else fX9_operand_18 m h a1)
set_option maxRecDepth 100000 in
set_option maxHeartbeats 4000000 in
theorem ccX9_operand {l : Launch} {sh : Sh} {adr : Nat → Nat} {r : Nat → Nat → Option Nat} {m : Nat} (hS : MS sh r m) {h : HI} {a1 : Int32} {p : Int32 × HI} (H : fX9_operand m h a1 = some p) : CC l yX9_operand cX9_operand 5 (some .int) 2 [.ref m, .int a1] sh adr (mk h r) (fun v τ => v = some (.int p.1) ∧ τ = mk p.2 r) := by
  refine CC.of (by decide) (Nat.le_of_ble_eq_true rfl) 3 [.ref m, .int a1, .retAddr 0, .retAddr 0, .retAddr 0] rfl (fun X _ C E hZ => ?_)
  rw [fX9_operand] at H
  refine ww_iload_n C dX9_operand_0 1 rfl rfl ?_
  refine ww_if_ne C dX9_operand_1 18 rfl (fun hc => ?_) (fun hc => ?_)
  · rw [if_neg hc] at H
    exact cX9_operand_18 hS C hZ E H
  · rw [if_pos hc] at H
    refine ww_aload_n C dX9_operand_4 0 rfl rfl ?_
    refine ww_ldc2 (v := (7237492 : Int64)) C dX9_operand_5 kl_X9_263 ?_
    obtain ⟨p9, hc1, H⟩ := bd_of H
    refine ww_callV C hZ dX9_operand_8 cw_X9_265 (ccX9_isWord hS hc1) hS.1 ⟨by decide, rfl⟩ (by decide) rfl rfl (Nat.le_of_ble_eq_true rfl) ⟨Nat.zero_le _, Nat.zero_le _⟩ (fun v τ hp => ?_)
    obtain ⟨rfl, rfl⟩ := hp
    change WW X _ 11 [.ref m, .int a1, .retAddr 0, .retAddr 0, .retAddr 0] [.int p9.1] _
    refine ww_if_eq C dX9_operand_11 18 rfl (fun hc => ?_) (fun hc => ?_)
    · rw [if_pos hc] at H
      exact cX9_operand_18 hS C hZ E H
    · rw [if_neg hc] at H
      refine ww_iconst (v := (1 : Int32)) C dX9_operand_14 (by decide) ?_
      refine ww_goto C dX9_operand_15 19 rfl ?_
      exact cX9_operand_19 hS C hZ E H
def fX9_signOf (m : Nat) (h : HI) : Option (Int32 × HI) := (if (h.1 m 6) = (43 : Int32) then some ((26 : Int32), h) else (if (h.1 m 6) = (45 : Int32) then some ((27 : Int32), h) else (if (h.1 m 6) = (42 : Int32) then some ((28 : Int32), h) else (if (h.1 m 6) = (61 : Int32) then some ((23 : Int32), h) else (if (h.1 m 6) = (60 : Int32) then some ((24 : Int32), h) else (if (h.1 m 6) = (62 : Int32) then some ((25 : Int32), h) else ((fX9_isWord m h (6385252 : Int64)).bind fun p1 => (if p1.1 = 0 then ((fX9_isWord m p1.2 (28530 : Int64)).bind fun p2 => (if p2.1 = 0 then some ((-1 : Int32), p2.2) else some ((20 : Int32), p2.2))) else some ((21 : Int32), p1.2)))))))))
set_option maxRecDepth 100000 in
set_option maxHeartbeats 4000000 in
theorem ccX9_signOf {l : Launch} {sh : Sh} {adr : Nat → Nat} {r : Nat → Nat → Option Nat} {m : Nat} (hS : MS sh r m) {h : HI}  {p : Int32 × HI} (H : fX9_signOf m h = some p) : CC l yX9_signOf cX9_signOf 1 (some .int) 1 [.ref m] sh adr (mk h r) (fun v τ => v = some (.int p.1) ∧ τ = mk p.2 r) := by
  refine CC.of (by decide) (Nat.le_of_ble_eq_true rfl) 0 [.ref m] rfl (fun X _ C E hZ => ?_)
  rw [fX9_signOf] at H
  refine ww_aload_n C dX9_signOf_0 0 rfl rfl ?_
  refine wk_getI C dX9_signOf_1 fl_X9_203 hS.1 rfl ?_
  refine ww_bipush (v := (43 : Int32)) C dX9_signOf_4 (by decide) ?_
  refine ww_icmp_ne C dX9_signOf_6 14 rfl (fun hc => ?_) (fun hc => ?_)
  · rw [if_neg hc] at H
    refine ww_aload_n C dX9_signOf_14 0 rfl rfl ?_
    refine wk_getI C dX9_signOf_15 fl_X9_203 hS.1 rfl ?_
    refine ww_bipush (v := (45 : Int32)) C dX9_signOf_18 (by decide) ?_
    refine ww_icmp_ne C dX9_signOf_20 28 rfl (fun hc => ?_) (fun hc => ?_)
    · rw [if_neg hc] at H
      refine ww_aload_n C dX9_signOf_28 0 rfl rfl ?_
      refine wk_getI C dX9_signOf_29 fl_X9_203 hS.1 rfl ?_
      refine ww_bipush (v := (42 : Int32)) C dX9_signOf_32 (by decide) ?_
      refine ww_icmp_ne C dX9_signOf_34 42 rfl (fun hc => ?_) (fun hc => ?_)
      · rw [if_neg hc] at H
        refine ww_aload_n C dX9_signOf_42 0 rfl rfl ?_
        refine wk_getI C dX9_signOf_43 fl_X9_203 hS.1 rfl ?_
        refine ww_bipush (v := (61 : Int32)) C dX9_signOf_46 (by decide) ?_
        refine ww_icmp_ne C dX9_signOf_48 56 rfl (fun hc => ?_) (fun hc => ?_)
        · rw [if_neg hc] at H
          refine ww_aload_n C dX9_signOf_56 0 rfl rfl ?_
          refine wk_getI C dX9_signOf_57 fl_X9_203 hS.1 rfl ?_
          refine ww_bipush (v := (60 : Int32)) C dX9_signOf_60 (by decide) ?_
          refine ww_icmp_ne C dX9_signOf_62 70 rfl (fun hc => ?_) (fun hc => ?_)
          · rw [if_neg hc] at H
            refine ww_aload_n C dX9_signOf_70 0 rfl rfl ?_
            refine wk_getI C dX9_signOf_71 fl_X9_203 hS.1 rfl ?_
            refine ww_bipush (v := (62 : Int32)) C dX9_signOf_74 (by decide) ?_
            refine ww_icmp_ne C dX9_signOf_76 84 rfl (fun hc => ?_) (fun hc => ?_)
            · rw [if_neg hc] at H
              refine ww_aload_n C dX9_signOf_84 0 rfl rfl ?_
              refine ww_ldc2 (v := (6385252 : Int64)) C dX9_signOf_85 kl_X9_259 ?_
              obtain ⟨p1, hc1, H⟩ := bd_of H
              refine ww_callV C hZ dX9_signOf_88 cw_X9_265 (ccX9_isWord hS hc1) hS.1 ⟨by decide, rfl⟩ (by decide) rfl rfl (Nat.le_of_ble_eq_true rfl) ⟨Nat.zero_le _, Nat.zero_le _⟩ (fun v τ hp => ?_)
              obtain ⟨rfl, rfl⟩ := hp
              change WW X _ 91 [.ref m] [.int p1.1] _
              refine ww_if_eq C dX9_signOf_91 99 rfl (fun hc => ?_) (fun hc => ?_)
              · rw [if_pos hc] at H
                refine ww_aload_n C dX9_signOf_99 0 rfl rfl ?_
                refine ww_ldc2 (v := (28530 : Int64)) C dX9_signOf_100 kl_X9_261 ?_
                obtain ⟨p2, hc1, H⟩ := bd_of H
                refine ww_callV C hZ dX9_signOf_103 cw_X9_265 (ccX9_isWord hS hc1) hS.1 ⟨by decide, rfl⟩ (by decide) rfl rfl (Nat.le_of_ble_eq_true rfl) ⟨Nat.zero_le _, Nat.zero_le _⟩ (fun v τ hp => ?_)
                obtain ⟨rfl, rfl⟩ := hp
                change WW X _ 106 [.ref m] [.int p2.1] _
                refine ww_if_eq C dX9_signOf_106 114 rfl (fun hc => ?_) (fun hc => ?_)
                · rw [if_pos hc] at H
                  refine ww_iconst (v := (-1 : Int32)) C dX9_signOf_114 (by decide) ?_
                  cases H
                  exact ww_iret C E dX9_signOf_115 ⟨rfl, rfl⟩
                · rw [if_neg hc] at H
                  refine ww_bipush (v := (20 : Int32)) C dX9_signOf_109 (by decide) ?_
                  refine ww_goto C dX9_signOf_111 115 rfl ?_
                  cases H
                  exact ww_iret C E dX9_signOf_115 ⟨rfl, rfl⟩
              · rw [if_neg hc] at H
                refine ww_bipush (v := (21 : Int32)) C dX9_signOf_94 (by decide) ?_
                refine ww_goto C dX9_signOf_96 115 rfl ?_
                cases H
                exact ww_iret C E dX9_signOf_115 ⟨rfl, rfl⟩
            · rw [if_pos hc] at H
              refine ww_bipush (v := (25 : Int32)) C dX9_signOf_79 (by decide) ?_
              refine ww_goto C dX9_signOf_81 115 rfl ?_
              cases H
              exact ww_iret C E dX9_signOf_115 ⟨rfl, rfl⟩
          · rw [if_pos hc] at H
            refine ww_bipush (v := (24 : Int32)) C dX9_signOf_65 (by decide) ?_
            refine ww_goto C dX9_signOf_67 115 rfl ?_
            cases H
            exact ww_iret C E dX9_signOf_115 ⟨rfl, rfl⟩
        · rw [if_pos hc] at H
          refine ww_bipush (v := (23 : Int32)) C dX9_signOf_51 (by decide) ?_
          refine ww_goto C dX9_signOf_53 115 rfl ?_
          cases H
          exact ww_iret C E dX9_signOf_115 ⟨rfl, rfl⟩
      · rw [if_pos hc] at H
        refine ww_bipush (v := (28 : Int32)) C dX9_signOf_37 (by decide) ?_
        refine ww_goto C dX9_signOf_39 115 rfl ?_
        cases H
        exact ww_iret C E dX9_signOf_115 ⟨rfl, rfl⟩
    · rw [if_pos hc] at H
      refine ww_bipush (v := (27 : Int32)) C dX9_signOf_23 (by decide) ?_
      refine ww_goto C dX9_signOf_25 115 rfl ?_
      cases H
      exact ww_iret C E dX9_signOf_115 ⟨rfl, rfl⟩
  · rw [if_pos hc] at H
    refine ww_bipush (v := (26 : Int32)) C dX9_signOf_9 (by decide) ?_
    refine ww_goto C dX9_signOf_11 115 rfl ?_
    cases H
    exact ww_iret C E dX9_signOf_115 ⟨rfl, rfl⟩
def fX9_sign_106 (m : Nat) (h : HI) (v1 : Int32) : Option (Int32 × HI) := (if (h.1 m 2) ≤ 0 then ((fX9_hold m h v1).bind fun h5 => ((fX9_token m h5).bind fun h6 => (if v1 = (21 : Int32) then some ((0 : Int32), h6) else (if v1 = (20 : Int32) then some ((0 : Int32), h6) else some ((1 : Int32), h6))))) else some ((2 : Int32), h))
set_option maxRecDepth 100000 in
set_option maxHeartbeats 4000000 in
theorem cX9_sign_106 {X : CT} {sh : Sh} {adr : Nat → Nat} {r : Nat → Nat → Option Nat} {m : Nat} {p : Int32 × HI} (hS : MS sh r m) (C : CX X yX9_sign.cls cX9_sign 2 3) (hZ : SZX X adr) (E : RX X (some .int) sh adr (fun v τ => v = some (.int p.1) ∧ τ = mk p.2 r)) {h : HI} {v1 : Int32} (H : fX9_sign_106 m h v1 = some p) : WW X (sh, adr, 0, 0) 106 [.ref m, .int v1] [] (mk h r) := by
  rw [fX9_sign_106] at H
  refine ww_aload_n C dX9_sign_106 0 rfl rfl ?_
  refine wk_getI C dX9_sign_107 fl_X9_216 hS.1 rfl ?_
  refine ww_if_le C dX9_sign_110 115 rfl (fun hc => ?_) (fun hc => ?_)
  · rw [if_pos hc] at H
    refine ww_aload_n C dX9_sign_115 0 rfl rfl ?_
    refine ww_iload_n C dX9_sign_116 1 rfl rfl ?_
    obtain ⟨h5, hc1, H⟩ := bd_of H
    refine ww_callV C hZ dX9_sign_117 cw_X9_311 (ccX9_hold hS hc1) hS.1 ⟨by decide, rfl⟩ (by decide) rfl rfl (Nat.le_of_ble_eq_true rfl) ⟨Nat.zero_le _, Nat.zero_le _⟩ (fun v τ hp => ?_)
    obtain ⟨rfl, rfl⟩ := hp
    change WW X _ 120 [.ref m, .int v1] [] _
    refine ww_aload_n C dX9_sign_120 0 rfl rfl ?_
    obtain ⟨h6, hc1, H⟩ := bd_of H
    refine ww_callV C hZ dX9_sign_121 cw_X9_272 (ccX9_token hS hc1) hS.1 ⟨by decide, rfl⟩ (by decide) rfl rfl (Nat.le_of_ble_eq_true rfl) ⟨Nat.zero_le _, Nat.zero_le _⟩ (fun v τ hp => ?_)
    obtain ⟨rfl, rfl⟩ := hp
    change WW X _ 124 [.ref m, .int v1] [] _
    refine ww_iload_n C dX9_sign_124 1 rfl rfl ?_
    refine ww_bipush (v := (21 : Int32)) C dX9_sign_125 (by decide) ?_
    refine ww_icmp_eq C dX9_sign_127 136 rfl (fun hc => ?_) (fun hc => ?_)
    · rw [if_pos hc] at H
      refine ww_iconst (v := (0 : Int32)) C dX9_sign_136 (by decide) ?_
      refine ww_goto C dX9_sign_137 141 rfl ?_
      cases H
      exact ww_iret C E dX9_sign_141 ⟨rfl, rfl⟩
    · rw [if_neg hc] at H
      refine ww_iload_n C dX9_sign_130 1 rfl rfl ?_
      refine ww_bipush (v := (20 : Int32)) C dX9_sign_131 (by decide) ?_
      refine ww_icmp_ne C dX9_sign_133 140 rfl (fun hc => ?_) (fun hc => ?_)
      · rw [if_neg hc] at H
        refine ww_iconst (v := (1 : Int32)) C dX9_sign_140 (by decide) ?_
        cases H
        exact ww_iret C E dX9_sign_141 ⟨rfl, rfl⟩
      · rw [if_pos hc] at H
        refine ww_iconst (v := (0 : Int32)) C dX9_sign_136 (by decide) ?_
        refine ww_goto C dX9_sign_137 141 rfl ?_
        cases H
        exact ww_iret C E dX9_sign_141 ⟨rfl, rfl⟩
  · rw [if_neg hc] at H
    refine ww_iconst (v := (2 : Int32)) C dX9_sign_113 (by decide) ?_
    cases H
    exact ww_iret C E dX9_sign_114 ⟨rfl, rfl⟩
def fX9_sign_52 (m : Nat) (h : HI) (v1 : Int32) : Option (Int32 × HI) := (if 0 ≤ v1 then ((fX9_rank h v1).bind fun p2 => (if p2.1 = (23 : Int32) then ((fX9_settle m p2.2 (26 : Int32)).bind fun h7 => ((fX9_upper m h7).bind fun p8 => ((fX9_rank p8.2 p8.1).bind fun p9 => (if p9.1 = (23 : Int32) then ((fX9_wrong m p9.2 (2 : Int32)).bind fun h10 => fX9_sign_106 m h10 v1) else fX9_sign_106 m p9.2 v1)))) else ((fX9_rank p2.2 v1).bind fun p3 => ((fX9_settle m p3.2 p3.1).bind fun h4 => fX9_sign_106 m h4 v1)))) else ((fX9_wrong m h (2 : Int32)).bind fun h11 => some ((2 : Int32), h11)))
set_option maxRecDepth 100000 in
set_option maxHeartbeats 4000000 in
theorem cX9_sign_52 {X : CT} {sh : Sh} {adr : Nat → Nat} {r : Nat → Nat → Option Nat} {m : Nat} {p : Int32 × HI} (hS : MS sh r m) (C : CX X yX9_sign.cls cX9_sign 2 3) (hZ : SZX X adr) (E : RX X (some .int) sh adr (fun v τ => v = some (.int p.1) ∧ τ = mk p.2 r)) {h : HI} {v1 : Int32} (H : fX9_sign_52 m h v1 = some p) : WW X (sh, adr, 0, 0) 52 [.ref m, .int v1] [] (mk h r) := by
  rw [fX9_sign_52] at H
  refine ww_iload_n C dX9_sign_52 1 rfl rfl ?_
  refine ww_if_ge C dX9_sign_53 63 rfl (fun hc => ?_) (fun hc => ?_)
  · rw [if_pos hc] at H
    refine ww_iload_n C dX9_sign_63 1 rfl rfl ?_
    obtain ⟨p2, hc1, H⟩ := bd_of H
    refine ww_callS C hZ dX9_sign_64 sw_X9_299 (ccX9_rank hc1) (by decide) rfl rfl (Nat.le_of_ble_eq_true rfl) ⟨Nat.zero_le _, Nat.zero_le _⟩ (fun v τ hp => ?_)
    obtain ⟨rfl, rfl⟩ := hp
    change WW X _ 67 [.ref m, .int v1] [.int p2.1] _
    refine ww_bipush (v := (23 : Int32)) C dX9_sign_67 (by decide) ?_
    refine ww_icmp_ne C dX9_sign_69 98 rfl (fun hc => ?_) (fun hc => ?_)
    · rw [if_neg hc] at H
      refine ww_aload_n C dX9_sign_98 0 rfl rfl ?_
      refine ww_iload_n C dX9_sign_99 1 rfl rfl ?_
      obtain ⟨p3, hc1, H⟩ := bd_of H
      refine ww_callS C hZ dX9_sign_100 sw_X9_299 (ccX9_rank hc1) (by decide) rfl rfl (Nat.le_of_ble_eq_true rfl) ⟨Nat.zero_le _, Nat.zero_le _⟩ (fun v τ hp => ?_)
      obtain ⟨rfl, rfl⟩ := hp
      change WW X _ 103 [.ref m, .int v1] [.int p3.1, .ref m] _
      obtain ⟨h4, hc1, H⟩ := bd_of H
      refine ww_callV C hZ dX9_sign_103 cw_X9_321 (ccX9_settle hS hc1) hS.1 ⟨by decide, rfl⟩ (by decide) rfl rfl (Nat.le_of_ble_eq_true rfl) ⟨Nat.zero_le _, Nat.zero_le _⟩ (fun v τ hp => ?_)
      obtain ⟨rfl, rfl⟩ := hp
      change WW X _ 106 [.ref m, .int v1] [] _
      exact cX9_sign_106 hS C hZ E H
    · rw [if_pos hc] at H
      refine ww_aload_n C dX9_sign_72 0 rfl rfl ?_
      refine ww_bipush (v := (26 : Int32)) C dX9_sign_73 (by decide) ?_
      obtain ⟨h7, hc1, H⟩ := bd_of H
      refine ww_callV C hZ dX9_sign_75 cw_X9_321 (ccX9_settle hS hc1) hS.1 ⟨by decide, rfl⟩ (by decide) rfl rfl (Nat.le_of_ble_eq_true rfl) ⟨Nat.zero_le _, Nat.zero_le _⟩ (fun v τ hp => ?_)
      obtain ⟨rfl, rfl⟩ := hp
      change WW X _ 78 [.ref m, .int v1] [] _
      refine ww_aload_n C dX9_sign_78 0 rfl rfl ?_
      obtain ⟨p8, hc1, H⟩ := bd_of H
      refine ww_callV C hZ dX9_sign_79 cw_X9_295 (ccX9_upper hS hc1) hS.1 ⟨by decide, rfl⟩ (by decide) rfl rfl (Nat.le_of_ble_eq_true rfl) ⟨Nat.zero_le _, Nat.zero_le _⟩ (fun v τ hp => ?_)
      obtain ⟨rfl, rfl⟩ := hp
      change WW X _ 82 [.ref m, .int v1] [.int p8.1] _
      obtain ⟨p9, hc1, H⟩ := bd_of H
      refine ww_callS C hZ dX9_sign_82 sw_X9_299 (ccX9_rank hc1) (by decide) rfl rfl (Nat.le_of_ble_eq_true rfl) ⟨Nat.zero_le _, Nat.zero_le _⟩ (fun v τ hp => ?_)
      obtain ⟨rfl, rfl⟩ := hp
      change WW X _ 85 [.ref m, .int v1] [.int p9.1] _
      refine ww_bipush (v := (23 : Int32)) C dX9_sign_85 (by decide) ?_
      refine ww_icmp_ne C dX9_sign_87 106 rfl (fun hc => ?_) (fun hc => ?_)
      · rw [if_neg hc] at H
        exact cX9_sign_106 hS C hZ E H
      · rw [if_pos hc] at H
        refine ww_aload_n C dX9_sign_90 0 rfl rfl ?_
        refine ww_iconst (v := (2 : Int32)) C dX9_sign_91 (by decide) ?_
        obtain ⟨h10, hc1, H⟩ := bd_of H
        refine ww_callV C hZ dX9_sign_92 cw_X9_269 (ccX9_wrong hS hc1) hS.1 ⟨by decide, rfl⟩ (by decide) rfl rfl (Nat.le_of_ble_eq_true rfl) ⟨Nat.zero_le _, Nat.zero_le _⟩ (fun v τ hp => ?_)
        obtain ⟨rfl, rfl⟩ := hp
        change WW X _ 95 [.ref m, .int v1] [] _
        refine ww_goto C dX9_sign_95 106 rfl ?_
        exact cX9_sign_106 hS C hZ E H
  · rw [if_neg hc] at H
    refine ww_aload_n C dX9_sign_56 0 rfl rfl ?_
    refine ww_iconst (v := (2 : Int32)) C dX9_sign_57 (by decide) ?_
    obtain ⟨h11, hc1, H⟩ := bd_of H
    refine ww_callV C hZ dX9_sign_58 cw_X9_269 (ccX9_wrong hS hc1) hS.1 ⟨by decide, rfl⟩ (by decide) rfl rfl (Nat.le_of_ble_eq_true rfl) ⟨Nat.zero_le _, Nat.zero_le _⟩ (fun v τ hp => ?_)
    obtain ⟨rfl, rfl⟩ := hp
    change WW X _ 61 [.ref m, .int v1] [] _
    refine ww_iconst (v := (2 : Int32)) C dX9_sign_61 (by decide) ?_
    cases H
    exact ww_iret C E dX9_sign_62 ⟨rfl, rfl⟩
def fX9_sign (m : Nat) (h : HI) : Option (Int32 × HI) := ((fX9_signOf m h).bind fun p1 => (if (p1.2.1 m 6) = (41 : Int32) then ((fX9_isOpen m p1.2).bind fun p12 => (if p12.1 = 0 then fX9_sign_52 m p12.2 p1.1 else ((fX9_settle m p12.2 (0 : Int32)).bind fun h13 => ((fX9_token m (uI (uI h13 m 21 ((h13.1 m 21) - (1 : Int32))) m 22 ((h13.1 m 22) - (1 : Int32)))).bind fun h14 => some ((2 : Int32), h14))))) else fX9_sign_52 m p1.2 p1.1))
set_option maxRecDepth 100000 in
set_option maxHeartbeats 4000000 in
theorem ccX9_sign {l : Launch} {sh : Sh} {adr : Nat → Nat} {r : Nat → Nat → Option Nat} {m : Nat} (hS : MS sh r m) {h : HI}  {p : Int32 × HI} (H : fX9_sign m h = some p) : CC l yX9_sign cX9_sign 2 (some .int) 3 [.ref m] sh adr (mk h r) (fun v τ => v = some (.int p.1) ∧ τ = mk p.2 r) := by
  refine CC.of (by decide) (Nat.le_of_ble_eq_true rfl) 1 [.ref m, .retAddr 0] rfl (fun X _ C E hZ => ?_)
  rw [fX9_sign] at H
  refine ww_aload_n C dX9_sign_0 0 rfl rfl ?_
  obtain ⟨p1, hc1, H⟩ := bd_of H
  refine ww_callV C hZ dX9_sign_1 cw_X9_314 (ccX9_signOf hS hc1) hS.1 ⟨by decide, rfl⟩ (by decide) rfl rfl (Nat.le_of_ble_eq_true rfl) ⟨Nat.zero_le _, Nat.zero_le _⟩ (fun v τ hp => ?_)
  obtain ⟨rfl, rfl⟩ := hp
  change WW X _ 4 [.ref m, .retAddr 0] [.int p1.1] _
  refine ww_istore_n C dX9_sign_4 1 rfl (by decide) rfl [.ref m, .int p1.1] rfl ?_
  refine ww_aload_n C dX9_sign_5 0 rfl rfl ?_
  refine wk_getI C dX9_sign_6 fl_X9_203 hS.1 rfl ?_
  refine ww_bipush (v := (41 : Int32)) C dX9_sign_9 (by decide) ?_
  refine ww_icmp_ne C dX9_sign_11 52 rfl (fun hc => ?_) (fun hc => ?_)
  · rw [if_neg hc] at H
    exact cX9_sign_52 hS C hZ E H
  · rw [if_pos hc] at H
    refine ww_aload_n C dX9_sign_14 0 rfl rfl ?_
    obtain ⟨p12, hc1, H⟩ := bd_of H
    refine ww_callV C hZ dX9_sign_15 cw_X9_317 (ccX9_isOpen hS hc1) hS.1 ⟨by decide, rfl⟩ (by decide) rfl rfl (Nat.le_of_ble_eq_true rfl) ⟨Nat.zero_le _, Nat.zero_le _⟩ (fun v τ hp => ?_)
    obtain ⟨rfl, rfl⟩ := hp
    change WW X _ 18 [.ref m, .int p1.1] [.int p12.1] _
    refine ww_if_eq C dX9_sign_18 52 rfl (fun hc => ?_) (fun hc => ?_)
    · rw [if_pos hc] at H
      exact cX9_sign_52 hS C hZ E H
    · rw [if_neg hc] at H
      refine ww_aload_n C dX9_sign_21 0 rfl rfl ?_
      refine ww_iconst (v := (0 : Int32)) C dX9_sign_22 (by decide) ?_
      obtain ⟨h13, hc1, H⟩ := bd_of H
      refine ww_callV C hZ dX9_sign_23 cw_X9_321 (ccX9_settle hS hc1) hS.1 ⟨by decide, rfl⟩ (by decide) rfl rfl (Nat.le_of_ble_eq_true rfl) ⟨Nat.zero_le _, Nat.zero_le _⟩ (fun v τ hp => ?_)
      obtain ⟨rfl, rfl⟩ := hp
      change WW X _ 26 [.ref m, .int p1.1] [] _
      refine ww_aload_n C dX9_sign_26 0 rfl rfl ?_
      refine ww_dup C dX9_sign_27 rfl ?_
      refine wk_getI C dX9_sign_28 fl_X9_286 hS.1 rfl ?_
      refine ww_iconst (v := (1 : Int32)) C dX9_sign_31 (by decide) ?_
      refine ww_isub C dX9_sign_32 ?_
      refine wk_putI C dX9_sign_33 fl_X9_286 hS.1 rfl rfl ?_
      refine ww_aload_n C dX9_sign_36 0 rfl rfl ?_
      refine ww_dup C dX9_sign_37 rfl ?_
      refine wk_getI C dX9_sign_38 fl_X9_289 hS.1 rfl ?_
      refine ww_as (v := (h13.1 m 22)) (by rw [uI_n (by omega)]) ?_
      refine ww_iconst (v := (1 : Int32)) C dX9_sign_41 (by decide) ?_
      refine ww_isub C dX9_sign_42 ?_
      refine wk_putI C dX9_sign_43 fl_X9_289 hS.1 rfl rfl ?_
      refine ww_aload_n C dX9_sign_46 0 rfl rfl ?_
      obtain ⟨h14, hc1, H⟩ := bd_of H
      refine ww_callV C hZ dX9_sign_47 cw_X9_272 (ccX9_token hS hc1) hS.1 ⟨by decide, rfl⟩ (by decide) rfl rfl (Nat.le_of_ble_eq_true rfl) ⟨Nat.zero_le _, Nat.zero_le _⟩ (fun v τ hp => ?_)
      obtain ⟨rfl, rfl⟩ := hp
      change WW X _ 50 [.ref m, .int p1.1] [] _
      refine ww_iconst (v := (2 : Int32)) C dX9_sign_50 (by decide) ?_
      cases H
      exact ww_iret C E dX9_sign_51 ⟨rfl, rfl⟩
def fX9_readPass_66 (m : Nat) (k : HI → Option (HI)) (kb : HI → Int32 → Option (HI)) (h : HI) (s0 : Int32) : Option (HI) := kb h s0
set_option maxRecDepth 100000 in
set_option maxHeartbeats 4000000 in
theorem cX9_readPass_66 {X : CT} {sh : Sh} {adr : Nat → Nat} {r : Nat → Nat → Option Nat} {m : Nat} {p : HI} (hS : MS sh r m) (C : CX X yX9_readPass.cls cX9_readPass 2 4) (hZ : SZX X adr) (E : RX X none sh adr (fun v τ => v = none ∧ τ = mk p r)) {k : HI → Option (HI)} {kb : HI → Int32 → Option (HI)} (hk : ∀ (h : HI), k h = some p → WW X (sh, adr, 0, 0) 70 [.ref m, .retAddr 0] [] (mk h r)) (hb : ∀ (h : HI) (v1 : Int32), kb h v1 = some p → WW X (sh, adr, 0, 0) 21 [.ref m, .int v1] [] (mk h r)) {h : HI} {s0 : Int32} (H : fX9_readPass_66 m k kb h s0 = some p) : WW X (sh, adr, 0, 0) 66 [.ref m, .retAddr 0] [.int s0] (mk h r) := by
  rw [fX9_readPass_66] at H
  refine ww_istore_n C dX9_readPass_66 1 rfl (by decide) rfl [.ref m, .int s0] rfl ?_
  refine ww_goto C dX9_readPass_67 21 rfl ?_
  exact hb h s0 H
def fX9_readPass_49 (m : Nat) (k : HI → Option (HI)) (kb : HI → Int32 → Option (HI)) (h : HI) (v1 : Int32) : Option (HI) := (if v1 = (2 : Int32) then ((fX9_sign m h).bind fun p3 => fX9_readPass_66 m k kb p3.2 p3.1) else ((fX9_operand m h v1).bind fun p2 => fX9_readPass_66 m k kb p2.2 p2.1))
set_option maxRecDepth 100000 in
set_option maxHeartbeats 4000000 in
theorem cX9_readPass_49 {X : CT} {sh : Sh} {adr : Nat → Nat} {r : Nat → Nat → Option Nat} {m : Nat} {p : HI} (hS : MS sh r m) (C : CX X yX9_readPass.cls cX9_readPass 2 4) (hZ : SZX X adr) (E : RX X none sh adr (fun v τ => v = none ∧ τ = mk p r)) {k : HI → Option (HI)} {kb : HI → Int32 → Option (HI)} (hk : ∀ (h : HI), k h = some p → WW X (sh, adr, 0, 0) 70 [.ref m, .retAddr 0] [] (mk h r)) (hb : ∀ (h : HI) (v1 : Int32), kb h v1 = some p → WW X (sh, adr, 0, 0) 21 [.ref m, .int v1] [] (mk h r)) {h : HI} {v1 : Int32} (H : fX9_readPass_49 m k kb h v1 = some p) : WW X (sh, adr, 0, 0) 49 [.ref m, .int v1] [] (mk h r) := by
  rw [fX9_readPass_49] at H
  refine ww_iload_n C dX9_readPass_49 1 rfl rfl ?_
  refine ww_iconst (v := (2 : Int32)) C dX9_readPass_50 (by decide) ?_
  refine ww_icmp_ne C dX9_readPass_51 61 rfl (fun hc => ?_) (fun hc => ?_)
  · rw [if_neg hc] at H
    refine ww_aload_n C dX9_readPass_61 0 rfl rfl ?_
    refine ww_iload_n C dX9_readPass_62 1 rfl rfl ?_
    obtain ⟨p2, hc1, H⟩ := bd_of H
    refine ww_callV C hZ dX9_readPass_63 cw_X9_331 (ccX9_operand hS hc1) hS.1 ⟨by decide, rfl⟩ (by decide) rfl rfl (Nat.le_of_ble_eq_true rfl) ⟨Nat.zero_le _, Nat.zero_le _⟩ (fun v τ hp => ?_)
    obtain ⟨rfl, rfl⟩ := hp
    change WW X _ 66 [.ref m, .int v1] [.int p2.1] _
    exact ww_drop [.ref m, .retAddr 0] (sl_e (sl_d sl_n)) (cX9_readPass_66 hS C hZ E hk hb H)
  · rw [if_pos hc] at H
    refine ww_aload_n C dX9_readPass_54 0 rfl rfl ?_
    obtain ⟨p3, hc1, H⟩ := bd_of H
    refine ww_callV C hZ dX9_readPass_55 cw_X9_328 (ccX9_sign hS hc1) hS.1 ⟨by decide, rfl⟩ (by decide) rfl rfl (Nat.le_of_ble_eq_true rfl) ⟨Nat.zero_le _, Nat.zero_le _⟩ (fun v τ hp => ?_)
    obtain ⟨rfl, rfl⟩ := hp
    change WW X _ 58 [.ref m, .int v1] [.int p3.1] _
    refine ww_goto C dX9_readPass_58 66 rfl ?_
    exact ww_drop [.ref m, .retAddr 0] (sl_e (sl_d sl_n)) (cX9_readPass_66 hS C hZ E hk hb H)
def fX9_readPass_21 (m : Nat) (k : HI → Option (HI)) : Nat → HI → Int32 → Option (HI)
  | 0, _, _ => none
  | n + 1, h, v1 => (if (h.1 m 2) = 0 then (if v1 = (2 : Int32) then ((fX9_isOpen m h).bind fun p4 => (if p4.1 = 0 then (if (p4.2.1 m 6) = (59 : Int32) then k p4.2 else fX9_readPass_49 m (k) (fX9_readPass_21 m k n) p4.2 v1) else fX9_readPass_49 m (k) (fX9_readPass_21 m k n) p4.2 v1)) else fX9_readPass_49 m (k) (fX9_readPass_21 m k n) h v1) else k h)
set_option maxRecDepth 100000 in
set_option maxHeartbeats 4000000 in
theorem cX9_readPass_21 {X : CT} {sh : Sh} {adr : Nat → Nat} {r : Nat → Nat → Option Nat} {m : Nat} {p : HI} (hS : MS sh r m) (C : CX X yX9_readPass.cls cX9_readPass 2 4) (hZ : SZX X adr) (E : RX X none sh adr (fun v τ => v = none ∧ τ = mk p r)) {k : HI → Option (HI)} (hk : ∀ (h : HI), k h = some p → WW X (sh, adr, 0, 0) 70 [.ref m, .retAddr 0] [] (mk h r)) : ∀ (n : Nat) (h : HI) (v1 : Int32), fX9_readPass_21 m k n h v1 = some p → WW X (sh, adr, 0, 0) 21 [.ref m, .int v1] [] (mk h r) := by
  intro n
  induction n with
  | zero =>
    intro h v1 H
    rw [fX9_readPass_21] at H
    cases H
  | succ n ih =>
    intro h v1 H
    rw [fX9_readPass_21] at H
    refine ww_aload_n C dX9_readPass_21 0 rfl rfl ?_
    refine wk_getI C dX9_readPass_22 fl_X9_216 hS.1 rfl ?_
    refine ww_if_ne C dX9_readPass_25 70 rfl (fun hc => ?_) (fun hc => ?_)
    · rw [if_neg hc] at H
      exact ww_drop [.ref m, .retAddr 0] (sl_e (sl_d sl_n)) (hk h H)
    · rw [if_pos hc] at H
      refine ww_iload_n C dX9_readPass_28 1 rfl rfl ?_
      refine ww_iconst (v := (2 : Int32)) C dX9_readPass_29 (by decide) ?_
      refine ww_icmp_ne C dX9_readPass_30 49 rfl (fun hc => ?_) (fun hc => ?_)
      · rw [if_neg hc] at H
        exact cX9_readPass_49 hS C hZ E hk ih H
      · rw [if_pos hc] at H
        refine ww_aload_n C dX9_readPass_33 0 rfl rfl ?_
        obtain ⟨p4, hc1, H⟩ := bd_of H
        refine ww_callV C hZ dX9_readPass_34 cw_X9_317 (ccX9_isOpen hS hc1) hS.1 ⟨by decide, rfl⟩ (by decide) rfl rfl (Nat.le_of_ble_eq_true rfl) ⟨Nat.zero_le _, Nat.zero_le _⟩ (fun v τ hp => ?_)
        obtain ⟨rfl, rfl⟩ := hp
        change WW X _ 37 [.ref m, .int v1] [.int p4.1] _
        refine ww_if_ne C dX9_readPass_37 49 rfl (fun hc => ?_) (fun hc => ?_)
        · rw [if_neg hc] at H
          exact cX9_readPass_49 hS C hZ E hk ih H
        · rw [if_pos hc] at H
          refine ww_aload_n C dX9_readPass_40 0 rfl rfl ?_
          refine wk_getI C dX9_readPass_41 fl_X9_203 hS.1 rfl ?_
          refine ww_bipush (v := (59 : Int32)) C dX9_readPass_44 (by decide) ?_
          refine ww_icmp_eq C dX9_readPass_46 70 rfl (fun hc => ?_) (fun hc => ?_)
          · rw [if_pos hc] at H
            exact ww_drop [.ref m, .retAddr 0] (sl_e (sl_d sl_n)) (hk p4.2 H)
          · rw [if_neg hc] at H
            exact cX9_readPass_49 hS C hZ E hk ih H
def fX9_readPass_70 (m : Nat) (h : HI) : Option (HI) := (if (h.1 m 2) = 0 then ((fX9_settle m h (0 : Int32)).bind fun h7 => some h7) else some h)
set_option maxRecDepth 100000 in
set_option maxHeartbeats 4000000 in
theorem cX9_readPass_70 {X : CT} {sh : Sh} {adr : Nat → Nat} {r : Nat → Nat → Option Nat} {m : Nat} {p : HI} (hS : MS sh r m) (C : CX X yX9_readPass.cls cX9_readPass 2 4) (hZ : SZX X adr) (E : RX X none sh adr (fun v τ => v = none ∧ τ = mk p r)) {h : HI} (H : fX9_readPass_70 m h = some p) : WW X (sh, adr, 0, 0) 70 [.ref m, .retAddr 0] [] (mk h r) := by
  rw [fX9_readPass_70] at H
  refine ww_aload_n C dX9_readPass_70 0 rfl rfl ?_
  refine wk_getI C dX9_readPass_71 fl_X9_216 hS.1 rfl ?_
  refine ww_if_ne C dX9_readPass_74 82 rfl (fun hc => ?_) (fun hc => ?_)
  · rw [if_neg hc] at H
    cases H
    exact ww_vret C E dX9_readPass_82 ⟨rfl, rfl⟩
  · rw [if_pos hc] at H
    refine ww_aload_n C dX9_readPass_77 0 rfl rfl ?_
    refine ww_iconst (v := (0 : Int32)) C dX9_readPass_78 (by decide) ?_
    obtain ⟨h7, hc1, H⟩ := bd_of H
    refine ww_callV C hZ dX9_readPass_79 cw_X9_321 (ccX9_settle hS hc1) hS.1 ⟨by decide, rfl⟩ (by decide) rfl rfl (Nat.le_of_ble_eq_true rfl) ⟨Nat.zero_le _, Nat.zero_le _⟩ (fun v τ hp => ?_)
    obtain ⟨rfl, rfl⟩ := hp
    change WW X _ 82 [.ref m, .retAddr 0] [] _
    cases H
    exact ww_vret C E dX9_readPass_82 ⟨rfl, rfl⟩
def fX9_readPass (m : Nat) (h : HI) : Option (HI) := ((fX9_token m h).bind fun h1 => fX9_readPass_21 m (fun h6 => fX9_readPass_70 m h6) FU (uI (uI (uI h1 m 47 (1 : Int32)) m 21 (0 : Int32)) m 22 (0 : Int32)) (0 : Int32))
set_option maxRecDepth 100000 in
set_option maxHeartbeats 4000000 in
theorem ccX9_readPass {l : Launch} {sh : Sh} {adr : Nat → Nat} {r : Nat → Nat → Option Nat} {m : Nat} (hS : MS sh r m) {h : HI}  {p : HI} (H : fX9_readPass m h = some p) : CC l yX9_readPass cX9_readPass 2 none 4 [.ref m] sh adr (mk h r) (fun v τ => v = none ∧ τ = mk p r) := by
  refine CC.of (by decide) (Nat.le_of_ble_eq_true rfl) 1 [.ref m, .retAddr 0] rfl (fun X _ C E hZ => ?_)
  rw [fX9_readPass] at H
  refine ww_aload_n C dX9_readPass_0 0 rfl rfl ?_
  obtain ⟨h1, hc1, H⟩ := bd_of H
  refine ww_callV C hZ dX9_readPass_1 cw_X9_272 (ccX9_token hS hc1) hS.1 ⟨by decide, rfl⟩ (by decide) rfl rfl (Nat.le_of_ble_eq_true rfl) ⟨Nat.zero_le _, Nat.zero_le _⟩ (fun v τ hp => ?_)
  obtain ⟨rfl, rfl⟩ := hp
  change WW X _ 4 [.ref m, .retAddr 0] [] _
  refine ww_aload_n C dX9_readPass_4 0 rfl rfl ?_
  refine ww_iconst (v := (1 : Int32)) C dX9_readPass_5 (by decide) ?_
  refine wk_putZ C dX9_readPass_6 fl_X9_324 hS.1 rfl rfl (Or.inr rfl) ?_
  refine ww_aload_n C dX9_readPass_9 0 rfl rfl ?_
  refine ww_iconst (v := (0 : Int32)) C dX9_readPass_10 (by decide) ?_
  refine wk_putI C dX9_readPass_11 fl_X9_286 hS.1 rfl rfl ?_
  refine ww_aload_n C dX9_readPass_14 0 rfl rfl ?_
  refine ww_iconst (v := (0 : Int32)) C dX9_readPass_15 (by decide) ?_
  refine wk_putI C dX9_readPass_16 fl_X9_289 hS.1 rfl rfl ?_
  refine ww_iconst (v := (0 : Int32)) C dX9_readPass_19 (by decide) ?_
  refine ww_istore_n C dX9_readPass_20 1 rfl (by decide) rfl [.ref m, .int (0 : Int32)] rfl ?_
  refine cX9_readPass_21 hS C hZ E (fun h6 H => ?_) FU (uI (uI (uI h1 m 47 (1 : Int32)) m 21 (0 : Int32)) m 22 (0 : Int32)) (0 : Int32) H
  exact cX9_readPass_70 hS C hZ E H
def fX9_find_38 (m : Nat) (k : HI → Int32 → Option (Int32 × HI)) (kb : HI → Int32 → Int32 → Int32 → Option (Int32 × HI)) (h : HI) (v1 : Int32) (v3 : Int32) (s0 : Int32) : Option (Int32 × HI) := kb h v1 s0 (v3 + (1 : Int32))
set_option maxRecDepth 100000 in
set_option maxHeartbeats 4000000 in
theorem cX9_find_38 {X : CT} {sh : Sh} {adr : Nat → Nat} {r : Nat → Nat → Option Nat} {m : Nat} {p : Int32 × HI} (hS : MS sh r m) (C : CX X yX9_find.cls cX9_find 4 0) (hZ : SZX X adr) (E : RX X (some .int) sh adr (fun v τ => v = some (.int p.1) ∧ τ = mk p.2 r)) {k : HI → Int32 → Option (Int32 × HI)} {kb : HI → Int32 → Int32 → Int32 → Option (Int32 × HI)} (hk : ∀ (h : HI) (v2 : Int32), k h v2 = some p → WW X (sh, adr, 0, 0) 45 [.ref m, .retAddr 0, .int v2, .retAddr 0] [] (mk h r)) (hb : ∀ (h : HI) (v1 : Int32) (v2 : Int32) (v3 : Int32), kb h v1 v2 v3 = some p → WW X (sh, adr, 0, 0) 4 [.ref m, .int v1, .int v2, .int v3] [] (mk h r)) {h : HI} {v1 : Int32} {v3 : Int32} {s0 : Int32} (H : fX9_find_38 m k kb h v1 v3 s0 = some p) : WW X (sh, adr, 0, 0) 38 [.ref m, .int v1, .retAddr 0, .int v3] [.int s0] (mk h r) := by
  rw [fX9_find_38] at H
  refine ww_istore_n C dX9_find_38 2 rfl (by decide) rfl [.ref m, .int v1, .int s0, .int v3] rfl ?_
  refine ww_iinc (v := (v3 + (1 : Int32))) C dX9_find_39 rfl rfl (by decide) rfl [.ref m, .int v1, .int s0, .int (v3 + (1 : Int32))] rfl ?_
  refine ww_goto C dX9_find_42 4 rfl ?_
  exact hb h v1 s0 (v3 + (1 : Int32)) H
def fX9_find_4 (m : Nat) (k : HI → Int32 → Option (Int32 × HI)) : Nat → HI → Int32 → Int32 → Int32 → Option (Int32 × HI)
  | 0, _, _, _, _ => none
  | n + 1, h, v1, v2, v3 => (if inB v1 3 then (if (h.1 (m + 10) (v1.toNatClampNeg)) ≤ v3 then k h v2 else (if inB (((10 : Int32) * v1) + v3) 30 then (if (lg_cmp (h.2 (m + 9) ((((10 : Int32) * v1) + v3).toNatClampNeg)) (h.2 m 9)) = 0 then fX9_find_38 m (k) (fX9_find_4 m k n) h v1 v3 v3 else fX9_find_38 m (k) (fX9_find_4 m k n) h v1 v3 v2) else none)) else none)
set_option maxRecDepth 100000 in
set_option maxHeartbeats 4000000 in
theorem cX9_find_4 {X : CT} {sh : Sh} {adr : Nat → Nat} {r : Nat → Nat → Option Nat} {m : Nat} {p : Int32 × HI} (hS : MS sh r m) (C : CX X yX9_find.cls cX9_find 4 0) (hZ : SZX X adr) (E : RX X (some .int) sh adr (fun v τ => v = some (.int p.1) ∧ τ = mk p.2 r)) {k : HI → Int32 → Option (Int32 × HI)} (hk : ∀ (h : HI) (v2 : Int32), k h v2 = some p → WW X (sh, adr, 0, 0) 45 [.ref m, .retAddr 0, .int v2, .retAddr 0] [] (mk h r)) : ∀ (n : Nat) (h : HI) (v1 : Int32) (v2 : Int32) (v3 : Int32), fX9_find_4 m k n h v1 v2 v3 = some p → WW X (sh, adr, 0, 0) 4 [.ref m, .int v1, .int v2, .int v3] [] (mk h r) := by
  intro n
  induction n with
  | zero =>
    intro h v1 v2 v3 H
    rw [fX9_find_4] at H
    cases H
  | succ n ih =>
    intro h v1 v2 v3 H
    rw [fX9_find_4] at H
    refine ww_iload_n C dX9_find_4 3 rfl rfl ?_
    refine ww_aload_n C dX9_find_5 0 rfl rfl ?_
    refine wk_getR C dX9_find_6 fl_X9_42 hS.1 rfl (tX9_nMany hS).1 ?_
    refine ww_iload_n C dX9_find_9 1 rfl rfl ?_
    obtain ⟨hg, H⟩ := gd_of H
    refine wk_iaload C dX9_find_10 (tX9_nMany hS).2.1 (vp_of hg (tX9_nMany hS).2.2) (v1.toNatClampNeg) rfl ?_
    refine ww_icmp_ge C dX9_find_11 45 rfl (fun hc => ?_) (fun hc => ?_)
    · rw [if_pos hc] at H
      exact ww_drop [.ref m, .retAddr 0, .int v2, .retAddr 0] (sl_e (sl_d (sl_e (sl_d sl_n)))) (hk h v2 H)
    · rw [if_neg hc] at H
      refine ww_aload_n C dX9_find_14 0 rfl rfl ?_
      refine wk_getR C dX9_find_15 fl_X9_38 hS.1 rfl (tX9_nName hS).1 ?_
      refine ww_bipush (v := (10 : Int32)) C dX9_find_18 (by decide) ?_
      refine ww_iload_n C dX9_find_20 1 rfl rfl ?_
      refine ww_imul C dX9_find_21 ?_
      refine ww_iload_n C dX9_find_22 3 rfl rfl ?_
      refine ww_iadd C dX9_find_23 ?_
      obtain ⟨hg, H⟩ := gd_of H
      refine wk_laload C dX9_find_24 (tX9_nName hS).2.1 (vp_of hg (tX9_nName hS).2.2) ((((10 : Int32) * v1) + v3).toNatClampNeg) rfl ?_
      refine ww_aload_n C dX9_find_25 0 rfl rfl ?_
      refine wk_getJ C dX9_find_26 fl_X9_196 hS.1 rfl ?_
      refine ww_lcmp C dX9_find_29 ?_
      refine ww_if_ne C dX9_find_30 37 rfl (fun hc => ?_) (fun hc => ?_)
      · rw [if_neg hc] at H
        refine ww_iload_n C dX9_find_37 2 rfl rfl ?_
        exact ww_drop [.ref m, .int v1, .retAddr 0, .int v3] (sl_e (sl_e (sl_d (sl_e sl_n)))) (cX9_find_38 hS C hZ E hk ih H)
      · rw [if_pos hc] at H
        refine ww_iload_n C dX9_find_33 3 rfl rfl ?_
        refine ww_goto C dX9_find_34 38 rfl ?_
        exact ww_drop [.ref m, .int v1, .retAddr 0, .int v3] (sl_e (sl_e (sl_d (sl_e sl_n)))) (cX9_find_38 hS C hZ E hk ih H)
def fX9_find (m : Nat) (h : HI) (a1 : Int32) : Option (Int32 × HI) := fX9_find_4 m (fun h2 v2 => some (v2, h2)) FU h a1 (-1 : Int32) (0 : Int32)
set_option maxRecDepth 100000 in
set_option maxHeartbeats 4000000 in
theorem ccX9_find {l : Launch} {sh : Sh} {adr : Nat → Nat} {r : Nat → Nat → Option Nat} {m : Nat} (hS : MS sh r m) {h : HI} {a1 : Int32} {p : Int32 × HI} (H : fX9_find m h a1 = some p) : CC l yX9_find cX9_find 4 (some .int) 0 [.ref m, .int a1] sh adr (mk h r) (fun v τ => v = some (.int p.1) ∧ τ = mk p.2 r) := by
  refine CC.of (by decide) (Nat.le_of_ble_eq_true rfl) 2 [.ref m, .int a1, .retAddr 0, .retAddr 0] rfl (fun X _ C E hZ => ?_)
  rw [fX9_find] at H
  refine ww_iconst (v := (-1 : Int32)) C dX9_find_0 (by decide) ?_
  refine ww_istore_n C dX9_find_1 2 rfl (by decide) rfl [.ref m, .int a1, .int (-1 : Int32), .retAddr 0] rfl ?_
  refine ww_iconst (v := (0 : Int32)) C dX9_find_2 (by decide) ?_
  refine ww_istore_n C dX9_find_3 3 rfl (by decide) rfl [.ref m, .int a1, .int (-1 : Int32), .int (0 : Int32)] rfl ?_
  refine cX9_find_4 hS C hZ E (fun h2 v2 H => ?_) FU h a1 (-1 : Int32) (0 : Int32) H
  refine ww_iload_n C dX9_find_45 2 rfl rfl ?_
  cases H
  exact ww_iret C E dX9_find_46 ⟨rfl, rfl⟩
def fX9_readName_32 (m : Nat) (h : HI) (v1 : Int32) : Option (HI) := (if (h.1 m 2) ≤ 0 then (if inB v1 3 then (if inB (((10 : Int32) * v1) + (h.1 (m + 10) (v1.toNatClampNeg))) 30 then ((fX9_token m (uL h (m + 9) ((((10 : Int32) * v1) + (h.1 (m + 10) (v1.toNatClampNeg))).toNatClampNeg) (h.2 m 9))).bind fun h4 => some h4) else none) else none) else some h)
set_option maxRecDepth 100000 in
set_option maxHeartbeats 4000000 in
theorem cX9_readName_32 {X : CT} {sh : Sh} {adr : Nat → Nat} {r : Nat → Nat → Option Nat} {m : Nat} {p : HI} (hS : MS sh r m) (C : CX X yX9_readName.cls cX9_readName 2 2) (hZ : SZX X adr) (E : RX X none sh adr (fun v τ => v = none ∧ τ = mk p r)) {h : HI} {v1 : Int32} (H : fX9_readName_32 m h v1 = some p) : WW X (sh, adr, 0, 0) 32 [.ref m, .int v1] [] (mk h r) := by
  rw [fX9_readName_32] at H
  refine ww_aload_n C dX9_readName_32 0 rfl rfl ?_
  refine wk_getI C dX9_readName_33 fl_X9_216 hS.1 rfl ?_
  refine ww_if_le C dX9_readName_36 40 rfl (fun hc => ?_) (fun hc => ?_)
  · rw [if_pos hc] at H
    refine ww_aload_n C dX9_readName_40 0 rfl rfl ?_
    refine wk_getR C dX9_readName_41 fl_X9_38 hS.1 rfl (tX9_nName hS).1 ?_
    refine ww_bipush (v := (10 : Int32)) C dX9_readName_44 (by decide) ?_
    refine ww_iload_n C dX9_readName_46 1 rfl rfl ?_
    refine ww_imul C dX9_readName_47 ?_
    refine ww_aload_n C dX9_readName_48 0 rfl rfl ?_
    refine wk_getR C dX9_readName_49 fl_X9_42 hS.1 rfl (tX9_nMany hS).1 ?_
    refine ww_iload_n C dX9_readName_52 1 rfl rfl ?_
    obtain ⟨hg, H⟩ := gd_of H
    refine wk_iaload C dX9_readName_53 (tX9_nMany hS).2.1 (vp_of hg (tX9_nMany hS).2.2) (v1.toNatClampNeg) rfl ?_
    refine ww_iadd C dX9_readName_54 ?_
    refine ww_aload_n C dX9_readName_55 0 rfl rfl ?_
    refine wk_getJ C dX9_readName_56 fl_X9_196 hS.1 rfl ?_
    obtain ⟨hg, H⟩ := gd_of H
    refine wk_lastore C dX9_readName_59 (tX9_nName hS).2.1 (vp_of hg (tX9_nName hS).2.2) ((((10 : Int32) * v1) + (h.1 (m + 10) (v1.toNatClampNeg))).toNatClampNeg) rfl ?_
    refine ww_aload_n C dX9_readName_60 0 rfl rfl ?_
    obtain ⟨h4, hc1, H⟩ := bd_of H
    refine ww_callV C hZ dX9_readName_61 cw_X9_272 (ccX9_token hS hc1) hS.1 ⟨by decide, rfl⟩ (by decide) rfl rfl (Nat.le_of_ble_eq_true rfl) ⟨Nat.zero_le _, Nat.zero_le _⟩ (fun v τ hp => ?_)
    obtain ⟨rfl, rfl⟩ := hp
    change WW X _ 64 [.ref m, .int v1] [] _
    cases H
    exact ww_vret C E dX9_readName_64 ⟨rfl, rfl⟩
  · rw [if_neg hc] at H
    cases H
    exact ww_vret C E dX9_readName_39 ⟨rfl, rfl⟩
def fX9_readName (m : Nat) (h : HI) (a1 : Int32) : Option (HI) := ((fX9_token m h).bind fun h1 => ((fX9_isName m h1).bind fun p2 => (if p2.1 = 0 then ((fX9_wrong m p2.2 (2 : Int32)).bind fun h6 => fX9_readName_32 m h6 a1) else ((fX9_find m p2.2 a1).bind fun p3 => (if p3.1 < 0 then fX9_readName_32 m p3.2 a1 else ((fX9_wrong m p3.2 (3 : Int32)).bind fun h5 => fX9_readName_32 m h5 a1))))))
set_option maxRecDepth 100000 in
set_option maxHeartbeats 4000000 in
theorem ccX9_readName {l : Launch} {sh : Sh} {adr : Nat → Nat} {r : Nat → Nat → Option Nat} {m : Nat} (hS : MS sh r m) {h : HI} {a1 : Int32} {p : HI} (H : fX9_readName m h a1 = some p) : CC l yX9_readName cX9_readName 2 none 2 [.ref m, .int a1] sh adr (mk h r) (fun v τ => v = none ∧ τ = mk p r) := by
  refine CC.of (by decide) (Nat.le_of_ble_eq_true rfl) 0 [.ref m, .int a1] rfl (fun X _ C E hZ => ?_)
  rw [fX9_readName] at H
  refine ww_aload_n C dX9_readName_0 0 rfl rfl ?_
  obtain ⟨h1, hc1, H⟩ := bd_of H
  refine ww_callV C hZ dX9_readName_1 cw_X9_272 (ccX9_token hS hc1) hS.1 ⟨by decide, rfl⟩ (by decide) rfl rfl (Nat.le_of_ble_eq_true rfl) ⟨Nat.zero_le _, Nat.zero_le _⟩ (fun v τ hp => ?_)
  obtain ⟨rfl, rfl⟩ := hp
  change WW X _ 4 [.ref m, .int a1] [] _
  refine ww_aload_n C dX9_readName_4 0 rfl rfl ?_
  obtain ⟨p2, hc1, H⟩ := bd_of H
  refine ww_callV C hZ dX9_readName_5 cw_X9_334 (ccX9_isName hS hc1) hS.1 ⟨by decide, rfl⟩ (by decide) rfl rfl (Nat.le_of_ble_eq_true rfl) ⟨Nat.zero_le _, Nat.zero_le _⟩ (fun v τ hp => ?_)
  obtain ⟨rfl, rfl⟩ := hp
  change WW X _ 8 [.ref m, .int a1] [.int p2.1] _
  refine ww_if_ne C dX9_readName_8 19 rfl (fun hc => ?_) (fun hc => ?_)
  · rw [if_neg hc] at H
    refine ww_aload_n C dX9_readName_19 0 rfl rfl ?_
    refine ww_iload_n C dX9_readName_20 1 rfl rfl ?_
    obtain ⟨p3, hc1, H⟩ := bd_of H
    refine ww_callV C hZ dX9_readName_21 cw_X9_337 (ccX9_find hS hc1) hS.1 ⟨by decide, rfl⟩ (by decide) rfl rfl (Nat.le_of_ble_eq_true rfl) ⟨Nat.zero_le _, Nat.zero_le _⟩ (fun v τ hp => ?_)
    obtain ⟨rfl, rfl⟩ := hp
    change WW X _ 24 [.ref m, .int a1] [.int p3.1] _
    refine ww_if_lt C dX9_readName_24 32 rfl (fun hc => ?_) (fun hc => ?_)
    · rw [if_pos hc] at H
      exact cX9_readName_32 hS C hZ E H
    · rw [if_neg hc] at H
      refine ww_aload_n C dX9_readName_27 0 rfl rfl ?_
      refine ww_iconst (v := (3 : Int32)) C dX9_readName_28 (by decide) ?_
      obtain ⟨h5, hc1, H⟩ := bd_of H
      refine ww_callV C hZ dX9_readName_29 cw_X9_269 (ccX9_wrong hS hc1) hS.1 ⟨by decide, rfl⟩ (by decide) rfl rfl (Nat.le_of_ble_eq_true rfl) ⟨Nat.zero_le _, Nat.zero_le _⟩ (fun v τ hp => ?_)
      obtain ⟨rfl, rfl⟩ := hp
      change WW X _ 32 [.ref m, .int a1] [] _
      exact cX9_readName_32 hS C hZ E H
  · rw [if_pos hc] at H
    refine ww_aload_n C dX9_readName_11 0 rfl rfl ?_
    refine ww_iconst (v := (2 : Int32)) C dX9_readName_12 (by decide) ?_
    obtain ⟨h6, hc1, H⟩ := bd_of H
    refine ww_callV C hZ dX9_readName_13 cw_X9_269 (ccX9_wrong hS hc1) hS.1 ⟨by decide, rfl⟩ (by decide) rfl rfl (Nat.le_of_ble_eq_true rfl) ⟨Nat.zero_le _, Nat.zero_le _⟩ (fun v τ hp => ?_)
    obtain ⟨rfl, rfl⟩ := hp
    change WW X _ 16 [.ref m, .int a1] [] _
    refine ww_goto C dX9_readName_16 32 rfl ?_
    exact cX9_readName_32 hS C hZ E H
def fX9_old_52 (m : Nat) (h : HI) (v3 : Int32) : Option (Int32 × HI) := (if (h.1 m 2) = 0 then ((fX9_token m h).bind fun h3 => some (v3, h3)) else some (v3, h))
set_option maxRecDepth 100000 in
set_option maxHeartbeats 4000000 in
theorem cX9_old_52 {X : CT} {sh : Sh} {adr : Nat → Nat} {r : Nat → Nat → Option Nat} {m : Nat} {p : Int32 × HI} (hS : MS sh r m) (C : CX X yX9_old.cls cX9_old 4 2) (hZ : SZX X adr) (E : RX X (some .int) sh adr (fun v τ => v = some (.int p.1) ∧ τ = mk p.2 r)) {h : HI} {v3 : Int32} (H : fX9_old_52 m h v3 = some p) : WW X (sh, adr, 0, 0) 52 [.ref m, .retAddr 0, .retAddr 0, .int v3] [] (mk h r) := by
  rw [fX9_old_52] at H
  refine ww_aload_n C dX9_old_52 0 rfl rfl ?_
  refine wk_getI C dX9_old_53 fl_X9_216 hS.1 rfl ?_
  refine ww_if_ne C dX9_old_56 63 rfl (fun hc => ?_) (fun hc => ?_)
  · rw [if_neg hc] at H
    refine ww_iload_n C dX9_old_63 3 rfl rfl ?_
    cases H
    exact ww_iret C E dX9_old_64 ⟨rfl, rfl⟩
  · rw [if_pos hc] at H
    refine ww_aload_n C dX9_old_59 0 rfl rfl ?_
    obtain ⟨h3, hc1, H⟩ := bd_of H
    refine ww_callV C hZ dX9_old_60 cw_X9_272 (ccX9_token hS hc1) hS.1 ⟨by decide, rfl⟩ (by decide) rfl rfl (Nat.le_of_ble_eq_true rfl) ⟨Nat.zero_le _, Nat.zero_le _⟩ (fun v τ hp => ?_)
    obtain ⟨rfl, rfl⟩ := hp
    change WW X _ 63 [.ref m, .retAddr 0, .retAddr 0, .int v3] [] _
    refine ww_iload_n C dX9_old_63 3 rfl rfl ?_
    cases H
    exact ww_iret C E dX9_old_64 ⟨rfl, rfl⟩
def fX9_old (m : Nat) (h : HI) (a1 : Int32) (a2 : Int32) : Option (Int32 × HI) := (if (h.1 m 2) ≤ 0 then ((fX9_find m h a1).bind fun p1 => ((fX9_isName m p1.2).bind fun p2 => (if p2.1 = 0 then ((fX9_wrong m p2.2 (2 : Int32)).bind fun h6 => fX9_old_52 m h6 p1.1) else (if 0 ≤ p1.1 then (if p1.1 = a2 then ((fX9_wrong m p2.2 (3 : Int32)).bind fun h4 => fX9_old_52 m h4 p1.1) else fX9_old_52 m p2.2 p1.1) else ((fX9_wrong m p2.2 (5 : Int32)).bind fun h5 => fX9_old_52 m h5 p1.1))))) else some ((0 : Int32), h))
set_option maxRecDepth 100000 in
set_option maxHeartbeats 4000000 in
theorem ccX9_old {l : Launch} {sh : Sh} {adr : Nat → Nat} {r : Nat → Nat → Option Nat} {m : Nat} (hS : MS sh r m) {h : HI} {a1 : Int32} {a2 : Int32} {p : Int32 × HI} (H : fX9_old m h a1 a2 = some p) : CC l yX9_old cX9_old 4 (some .int) 2 [.ref m, .int a1, .int a2] sh adr (mk h r) (fun v τ => v = some (.int p.1) ∧ τ = mk p.2 r) := by
  refine CC.of (by decide) (Nat.le_of_ble_eq_true rfl) 1 [.ref m, .int a1, .int a2, .retAddr 0] rfl (fun X _ C E hZ => ?_)
  rw [fX9_old] at H
  refine ww_aload_n C dX9_old_0 0 rfl rfl ?_
  refine wk_getI C dX9_old_1 fl_X9_216 hS.1 rfl ?_
  refine ww_if_le C dX9_old_4 9 rfl (fun hc => ?_) (fun hc => ?_)
  · rw [if_pos hc] at H
    refine ww_aload_n C dX9_old_9 0 rfl rfl ?_
    refine ww_iload_n C dX9_old_10 1 rfl rfl ?_
    obtain ⟨p1, hc1, H⟩ := bd_of H
    refine ww_callV C hZ dX9_old_11 cw_X9_337 (ccX9_find hS hc1) hS.1 ⟨by decide, rfl⟩ (by decide) rfl rfl (Nat.le_of_ble_eq_true rfl) ⟨Nat.zero_le _, Nat.zero_le _⟩ (fun v τ hp => ?_)
    obtain ⟨rfl, rfl⟩ := hp
    change WW X _ 14 [.ref m, .int a1, .int a2, .retAddr 0] [.int p1.1] _
    refine ww_istore_n C dX9_old_14 3 rfl (by decide) rfl [.ref m, .int a1, .int a2, .int p1.1] rfl ?_
    refine ww_aload_n C dX9_old_15 0 rfl rfl ?_
    obtain ⟨p2, hc1, H⟩ := bd_of H
    refine ww_callV C hZ dX9_old_16 cw_X9_334 (ccX9_isName hS hc1) hS.1 ⟨by decide, rfl⟩ (by decide) rfl rfl (Nat.le_of_ble_eq_true rfl) ⟨Nat.zero_le _, Nat.zero_le _⟩ (fun v τ hp => ?_)
    obtain ⟨rfl, rfl⟩ := hp
    change WW X _ 19 [.ref m, .int a1, .int a2, .int p1.1] [.int p2.1] _
    refine ww_if_ne C dX9_old_19 30 rfl (fun hc => ?_) (fun hc => ?_)
    · rw [if_neg hc] at H
      refine ww_iload_n C dX9_old_30 3 rfl rfl ?_
      refine ww_if_ge C dX9_old_31 42 rfl (fun hc => ?_) (fun hc => ?_)
      · rw [if_pos hc] at H
        refine ww_iload_n C dX9_old_42 3 rfl rfl ?_
        refine ww_iload_n C dX9_old_43 2 rfl rfl ?_
        refine ww_icmp_ne C dX9_old_44 52 rfl (fun hc => ?_) (fun hc => ?_)
        · rw [if_neg hc] at H
          exact ww_drop [.ref m, .retAddr 0, .retAddr 0, .int p1.1] (sl_e (sl_d (sl_d (sl_e sl_n)))) (cX9_old_52 hS C hZ E H)
        · rw [if_pos hc] at H
          refine ww_aload_n C dX9_old_47 0 rfl rfl ?_
          refine ww_iconst (v := (3 : Int32)) C dX9_old_48 (by decide) ?_
          obtain ⟨h4, hc1, H⟩ := bd_of H
          refine ww_callV C hZ dX9_old_49 cw_X9_269 (ccX9_wrong hS hc1) hS.1 ⟨by decide, rfl⟩ (by decide) rfl rfl (Nat.le_of_ble_eq_true rfl) ⟨Nat.zero_le _, Nat.zero_le _⟩ (fun v τ hp => ?_)
          obtain ⟨rfl, rfl⟩ := hp
          change WW X _ 52 [.ref m, .int a1, .int a2, .int p1.1] [] _
          exact ww_drop [.ref m, .retAddr 0, .retAddr 0, .int p1.1] (sl_e (sl_d (sl_d (sl_e sl_n)))) (cX9_old_52 hS C hZ E H)
      · rw [if_neg hc] at H
        refine ww_aload_n C dX9_old_34 0 rfl rfl ?_
        refine ww_iconst (v := (5 : Int32)) C dX9_old_35 (by decide) ?_
        obtain ⟨h5, hc1, H⟩ := bd_of H
        refine ww_callV C hZ dX9_old_36 cw_X9_269 (ccX9_wrong hS hc1) hS.1 ⟨by decide, rfl⟩ (by decide) rfl rfl (Nat.le_of_ble_eq_true rfl) ⟨Nat.zero_le _, Nat.zero_le _⟩ (fun v τ hp => ?_)
        obtain ⟨rfl, rfl⟩ := hp
        change WW X _ 39 [.ref m, .int a1, .int a2, .int p1.1] [] _
        refine ww_goto C dX9_old_39 52 rfl ?_
        exact ww_drop [.ref m, .retAddr 0, .retAddr 0, .int p1.1] (sl_e (sl_d (sl_d (sl_e sl_n)))) (cX9_old_52 hS C hZ E H)
    · rw [if_pos hc] at H
      refine ww_aload_n C dX9_old_22 0 rfl rfl ?_
      refine ww_iconst (v := (2 : Int32)) C dX9_old_23 (by decide) ?_
      obtain ⟨h6, hc1, H⟩ := bd_of H
      refine ww_callV C hZ dX9_old_24 cw_X9_269 (ccX9_wrong hS hc1) hS.1 ⟨by decide, rfl⟩ (by decide) rfl rfl (Nat.le_of_ble_eq_true rfl) ⟨Nat.zero_le _, Nat.zero_le _⟩ (fun v τ hp => ?_)
      obtain ⟨rfl, rfl⟩ := hp
      change WW X _ 27 [.ref m, .int a1, .int a2, .int p1.1] [] _
      refine ww_goto C dX9_old_27 52 rfl ?_
      exact ww_drop [.ref m, .retAddr 0, .retAddr 0, .int p1.1] (sl_e (sl_d (sl_d (sl_e sl_n)))) (cX9_old_52 hS C hZ E H)
  · rw [if_neg hc] at H
    refine ww_iconst (v := (0 : Int32)) C dX9_old_7 (by decide) ?_
    cases H
    exact ww_iret C E dX9_old_8 ⟨rfl, rfl⟩
def fX9_readChair_67 (m : Nat) (h : HI) : Option (HI) := some (uI h (m + 10) 0 ((h.1 (m + 10) 0) + (1 : Int32)))
set_option maxRecDepth 100000 in
set_option maxHeartbeats 4000000 in
theorem cX9_readChair_67 {X : CT} {sh : Sh} {adr : Nat → Nat} {r : Nat → Nat → Option Nat} {m : Nat} {p : HI} (hS : MS sh r m) (C : CX X yX9_readChair.cls cX9_readChair 2 4) (hZ : SZX X adr) (E : RX X none sh adr (fun v τ => v = none ∧ τ = mk p r)) {h : HI} (H : fX9_readChair_67 m h = some p) : WW X (sh, adr, 0, 0) 67 [.ref m, .retAddr 0] [] (mk h r) := by
  rw [fX9_readChair_67] at H
  refine ww_aload_n C dX9_readChair_67 0 rfl rfl ?_
  refine wk_getR C dX9_readChair_68 fl_X9_42 hS.1 rfl (tX9_nMany hS).1 ?_
  refine ww_iconst (v := (0 : Int32)) C dX9_readChair_71 (by decide) ?_
  refine ww_dup2 C dX9_readChair_72 rfl rfl ?_
  refine wk_iaload C dX9_readChair_73 (tX9_nMany hS).2.1 (vp_of (by decide : inB (0 : Int32) 3) (tX9_nMany hS).2.2) 0 rfl ?_
  refine ww_iconst (v := (1 : Int32)) C dX9_readChair_74 (by decide) ?_
  refine ww_iadd C dX9_readChair_75 ?_
  refine wk_iastore C dX9_readChair_76 (tX9_nMany hS).2.1 (vp_of (by decide : inB (0 : Int32) 3) (tX9_nMany hS).2.2) 0 rfl ?_
  cases H
  exact ww_vret C E dX9_readChair_77 ⟨rfl, rfl⟩
def fX9_readChair (m : Nat) (h : HI) : Option (HI) := ((fX9_readName m h (0 : Int32)).bind fun h1 => ((fX9_told m h1 (448545973363 : Int64) (1 : Int32) (2 : Int32)).bind fun p2 => (if (p2.2.1 m 2) ≤ 0 then ((fX9_isWord m p2.2 (495874699116 : Int64)).bind fun p3 => (if inB (p2.2.1 (m + 10) 0) 6 then (if inB (p3.2.1 (m + 10) 0) 6 then ((fX9_isWord m (uI (uI p3.2 (m + 22) ((p2.2.1 (m + 10) 0).toNatClampNeg) (vp_nar .boolean p3.1)) (m + 12) ((p3.2.1 (m + 10) 0).toNatClampNeg) p2.1) (495874699116 : Int64)).bind fun p4 => (if p4.1 = 0 then fX9_readChair_67 m p4.2 else ((fX9_token m p4.2).bind fun h5 => fX9_readChair_67 m h5))) else none) else none)) else some p2.2)))
set_option maxRecDepth 100000 in
set_option maxHeartbeats 4000000 in
theorem ccX9_readChair {l : Launch} {sh : Sh} {adr : Nat → Nat} {r : Nat → Nat → Option Nat} {m : Nat} (hS : MS sh r m) {h : HI}  {p : HI} (H : fX9_readChair m h = some p) : CC l yX9_readChair cX9_readChair 2 none 4 [.ref m] sh adr (mk h r) (fun v τ => v = none ∧ τ = mk p r) := by
  refine CC.of (by decide) (Nat.le_of_ble_eq_true rfl) 1 [.ref m, .retAddr 0] rfl (fun X _ C E hZ => ?_)
  rw [fX9_readChair] at H
  refine ww_aload_n C dX9_readChair_0 0 rfl rfl ?_
  refine ww_iconst (v := (0 : Int32)) C dX9_readChair_1 (by decide) ?_
  obtain ⟨h1, hc1, H⟩ := bd_of H
  refine ww_callV C hZ dX9_readChair_2 cw_X9_340 (ccX9_readName hS hc1) hS.1 ⟨by decide, rfl⟩ (by decide) rfl rfl (Nat.le_of_ble_eq_true rfl) ⟨Nat.zero_le _, Nat.zero_le _⟩ (fun v τ hp => ?_)
  obtain ⟨rfl, rfl⟩ := hp
  change WW X _ 5 [.ref m, .retAddr 0] [] _
  refine ww_aload_n C dX9_readChair_5 0 rfl rfl ?_
  refine ww_ldc2 (v := (448545973363 : Int64)) C dX9_readChair_6 kl_X9_225 ?_
  refine ww_iconst (v := (1 : Int32)) C dX9_readChair_9 (by decide) ?_
  refine ww_iconst (v := (2 : Int32)) C dX9_readChair_10 (by decide) ?_
  obtain ⟨p2, hc1, H⟩ := bd_of H
  refine ww_callV C hZ dX9_readChair_11 cw_X9_343 (ccX9_told hS hc1) hS.1 ⟨by decide, rfl⟩ (by decide) rfl rfl (Nat.le_of_ble_eq_true rfl) ⟨Nat.zero_le _, Nat.zero_le _⟩ (fun v τ hp => ?_)
  obtain ⟨rfl, rfl⟩ := hp
  change WW X _ 14 [.ref m, .retAddr 0] [.int p2.1] _
  refine ww_istore_n C dX9_readChair_14 1 rfl (by decide) rfl [.ref m, .int p2.1] rfl ?_
  refine ww_aload_n C dX9_readChair_15 0 rfl rfl ?_
  refine wk_getI C dX9_readChair_16 fl_X9_216 hS.1 rfl ?_
  refine ww_if_le C dX9_readChair_19 23 rfl (fun hc => ?_) (fun hc => ?_)
  · rw [if_pos hc] at H
    refine ww_aload_n C dX9_readChair_23 0 rfl rfl ?_
    refine wk_getR C dX9_readChair_24 fl_X9_78 hS.1 rfl (tX9_nStool hS).1 ?_
    refine ww_aload_n C dX9_readChair_27 0 rfl rfl ?_
    refine wk_getR C dX9_readChair_28 fl_X9_42 hS.1 rfl (tX9_nMany hS).1 ?_
    refine ww_iconst (v := (0 : Int32)) C dX9_readChair_31 (by decide) ?_
    refine wk_iaload C dX9_readChair_32 (tX9_nMany hS).2.1 (vp_of (by decide : inB (0 : Int32) 3) (tX9_nMany hS).2.2) 0 rfl ?_
    refine ww_aload_n C dX9_readChair_33 0 rfl rfl ?_
    refine ww_ldc2 (v := (495874699116 : Int64)) C dX9_readChair_34 kl_X9_227 ?_
    obtain ⟨p3, hc1, H⟩ := bd_of H
    refine ww_callV C hZ dX9_readChair_37 cw_X9_265 (ccX9_isWord hS hc1) hS.1 ⟨by decide, rfl⟩ (by decide) rfl rfl (Nat.le_of_ble_eq_true rfl) ⟨Nat.zero_le _, Nat.zero_le _⟩ (fun v τ hp => ?_)
    obtain ⟨rfl, rfl⟩ := hp
    change WW X _ 40 [.ref m, .int p2.1] [.int p3.1, .int (p2.2.1 (m + 10) 0), .ref (m + 22)] _
    obtain ⟨hg, H⟩ := gd_of H
    refine wk_zastore C dX9_readChair_40 (tX9_nStool hS).2.1 (vp_of hg (tX9_nStool hS).2.2) ((p2.2.1 (m + 10) 0).toNatClampNeg) rfl (vp_nar .boolean p3.1) rfl ?_
    refine ww_aload_n C dX9_readChair_41 0 rfl rfl ?_
    refine wk_getR C dX9_readChair_42 fl_X9_48 hS.1 rfl (tX9_nHolds hS).1 ?_
    refine ww_aload_n C dX9_readChair_45 0 rfl rfl ?_
    refine wk_getR C dX9_readChair_46 fl_X9_42 hS.1 rfl (tX9_nMany hS).1 ?_
    refine ww_iconst (v := (0 : Int32)) C dX9_readChair_49 (by decide) ?_
    refine wk_iaload C dX9_readChair_50 (tX9_nMany hS).2.1 (vp_of (by decide : inB (0 : Int32) 3) (tX9_nMany hS).2.2) 0 rfl ?_
    refine ww_as (v := (p3.2.1 (m + 10) 0)) (by rw [uI_n (by omega)]) ?_
    refine ww_iload_n C dX9_readChair_51 1 rfl rfl ?_
    obtain ⟨hg, H⟩ := gd_of H
    refine wk_iastore C dX9_readChair_52 (tX9_nHolds hS).2.1 (vp_of hg (tX9_nHolds hS).2.2) ((p3.2.1 (m + 10) 0).toNatClampNeg) rfl ?_
    refine ww_aload_n C dX9_readChair_53 0 rfl rfl ?_
    refine ww_ldc2 (v := (495874699116 : Int64)) C dX9_readChair_54 kl_X9_227 ?_
    obtain ⟨p4, hc1, H⟩ := bd_of H
    refine ww_callV C hZ dX9_readChair_57 cw_X9_265 (ccX9_isWord hS hc1) hS.1 ⟨by decide, rfl⟩ (by decide) rfl rfl (Nat.le_of_ble_eq_true rfl) ⟨Nat.zero_le _, Nat.zero_le _⟩ (fun v τ hp => ?_)
    obtain ⟨rfl, rfl⟩ := hp
    change WW X _ 60 [.ref m, .int p2.1] [.int p4.1] _
    refine ww_if_eq C dX9_readChair_60 67 rfl (fun hc => ?_) (fun hc => ?_)
    · rw [if_pos hc] at H
      exact ww_drop [.ref m, .retAddr 0] (sl_e (sl_d sl_n)) (cX9_readChair_67 hS C hZ E H)
    · rw [if_neg hc] at H
      refine ww_aload_n C dX9_readChair_63 0 rfl rfl ?_
      obtain ⟨h5, hc1, H⟩ := bd_of H
      refine ww_callV C hZ dX9_readChair_64 cw_X9_272 (ccX9_token hS hc1) hS.1 ⟨by decide, rfl⟩ (by decide) rfl rfl (Nat.le_of_ble_eq_true rfl) ⟨Nat.zero_le _, Nat.zero_le _⟩ (fun v τ hp => ?_)
      obtain ⟨rfl, rfl⟩ := hp
      change WW X _ 67 [.ref m, .int p2.1] [] _
      exact ww_drop [.ref m, .retAddr 0] (sl_e (sl_d sl_n)) (cX9_readChair_67 hS C hZ E H)
  · rw [if_neg hc] at H
    cases H
    exact ww_vret C E dX9_readChair_22 ⟨rfl, rfl⟩
def fX9_readMan_68 (m : Nat) (h : HI) : Option (HI) := some (uI h (m + 10) 1 ((h.1 (m + 10) 1) + (1 : Int32)))
set_option maxRecDepth 100000 in
set_option maxHeartbeats 4000000 in
theorem cX9_readMan_68 {X : CT} {sh : Sh} {adr : Nat → Nat} {r : Nat → Nat → Option Nat} {m : Nat} {p : HI} (hS : MS sh r m) (C : CX X yX9_readMan.cls cX9_readMan 2 4) (hZ : SZX X adr) (E : RX X none sh adr (fun v τ => v = none ∧ τ = mk p r)) {h : HI} (H : fX9_readMan_68 m h = some p) : WW X (sh, adr, 0, 0) 68 [.ref m, .retAddr 0] [] (mk h r) := by
  rw [fX9_readMan_68] at H
  refine ww_aload_n C dX9_readMan_68 0 rfl rfl ?_
  refine wk_getR C dX9_readMan_69 fl_X9_42 hS.1 rfl (tX9_nMany hS).1 ?_
  refine ww_iconst (v := (1 : Int32)) C dX9_readMan_72 (by decide) ?_
  refine ww_dup2 C dX9_readMan_73 rfl rfl ?_
  refine wk_iaload C dX9_readMan_74 (tX9_nMany hS).2.1 (vp_of (by decide : inB (1 : Int32) 3) (tX9_nMany hS).2.2) 1 rfl ?_
  refine ww_iconst (v := (1 : Int32)) C dX9_readMan_75 (by decide) ?_
  refine ww_iadd C dX9_readMan_76 ?_
  refine wk_iastore C dX9_readMan_77 (tX9_nMany hS).2.1 (vp_of (by decide : inB (1 : Int32) 3) (tX9_nMany hS).2.2) 1 rfl ?_
  cases H
  exact ww_vret C E dX9_readMan_78 ⟨rfl, rfl⟩
def fX9_readMan (m : Nat) (h : HI) : Option (HI) := ((fX9_readName m h (1 : Int32)).bind fun h1 => ((fX9_told m h1 (126943973305959 : Int64) (1 : Int32) (30 : Int32)).bind fun p2 => (if (p2.2.1 m 2) ≤ 0 then ((fX9_isWord m p2.2 (1685024626 : Int64)).bind fun p3 => (if inB (p2.2.1 (m + 10) 1) 6 then (if inB (p3.2.1 (m + 10) 1) 6 then ((fX9_isWord m (uI (uI p3.2 (m + 23) ((p2.2.1 (m + 10) 1).toNatClampNeg) (vp_nar .boolean p3.1)) (m + 13) ((p3.2.1 (m + 10) 1).toNatClampNeg) p2.1) (1685024626 : Int64)).bind fun p4 => (if p4.1 = 0 then fX9_readMan_68 m p4.2 else ((fX9_token m p4.2).bind fun h5 => fX9_readMan_68 m h5))) else none) else none)) else some p2.2)))
set_option maxRecDepth 100000 in
set_option maxHeartbeats 4000000 in
theorem ccX9_readMan {l : Launch} {sh : Sh} {adr : Nat → Nat} {r : Nat → Nat → Option Nat} {m : Nat} (hS : MS sh r m) {h : HI}  {p : HI} (H : fX9_readMan m h = some p) : CC l yX9_readMan cX9_readMan 2 none 4 [.ref m] sh adr (mk h r) (fun v τ => v = none ∧ τ = mk p r) := by
  refine CC.of (by decide) (Nat.le_of_ble_eq_true rfl) 1 [.ref m, .retAddr 0] rfl (fun X _ C E hZ => ?_)
  rw [fX9_readMan] at H
  refine ww_aload_n C dX9_readMan_0 0 rfl rfl ?_
  refine ww_iconst (v := (1 : Int32)) C dX9_readMan_1 (by decide) ?_
  obtain ⟨h1, hc1, H⟩ := bd_of H
  refine ww_callV C hZ dX9_readMan_2 cw_X9_340 (ccX9_readName hS hc1) hS.1 ⟨by decide, rfl⟩ (by decide) rfl rfl (Nat.le_of_ble_eq_true rfl) ⟨Nat.zero_le _, Nat.zero_le _⟩ (fun v τ hp => ?_)
  obtain ⟨rfl, rfl⟩ := hp
  change WW X _ 5 [.ref m, .retAddr 0] [] _
  refine ww_aload_n C dX9_readMan_5 0 rfl rfl ?_
  refine ww_ldc2 (v := (126943973305959 : Int64)) C dX9_readMan_6 kl_X9_231 ?_
  refine ww_iconst (v := (1 : Int32)) C dX9_readMan_9 (by decide) ?_
  refine ww_bipush (v := (30 : Int32)) C dX9_readMan_10 (by decide) ?_
  obtain ⟨p2, hc1, H⟩ := bd_of H
  refine ww_callV C hZ dX9_readMan_12 cw_X9_343 (ccX9_told hS hc1) hS.1 ⟨by decide, rfl⟩ (by decide) rfl rfl (Nat.le_of_ble_eq_true rfl) ⟨Nat.zero_le _, Nat.zero_le _⟩ (fun v τ hp => ?_)
  obtain ⟨rfl, rfl⟩ := hp
  change WW X _ 15 [.ref m, .retAddr 0] [.int p2.1] _
  refine ww_istore_n C dX9_readMan_15 1 rfl (by decide) rfl [.ref m, .int p2.1] rfl ?_
  refine ww_aload_n C dX9_readMan_16 0 rfl rfl ?_
  refine wk_getI C dX9_readMan_17 fl_X9_216 hS.1 rfl ?_
  refine ww_if_le C dX9_readMan_20 24 rfl (fun hc => ?_) (fun hc => ?_)
  · rw [if_pos hc] at H
    refine ww_aload_n C dX9_readMan_24 0 rfl rfl ?_
    refine wk_getR C dX9_readMan_25 fl_X9_82 hS.1 rfl (tX9_nDoor hS).1 ?_
    refine ww_aload_n C dX9_readMan_28 0 rfl rfl ?_
    refine wk_getR C dX9_readMan_29 fl_X9_42 hS.1 rfl (tX9_nMany hS).1 ?_
    refine ww_iconst (v := (1 : Int32)) C dX9_readMan_32 (by decide) ?_
    refine wk_iaload C dX9_readMan_33 (tX9_nMany hS).2.1 (vp_of (by decide : inB (1 : Int32) 3) (tX9_nMany hS).2.2) 1 rfl ?_
    refine ww_aload_n C dX9_readMan_34 0 rfl rfl ?_
    refine ww_ldc2 (v := (1685024626 : Int64)) C dX9_readMan_35 kl_X9_233 ?_
    obtain ⟨p3, hc1, H⟩ := bd_of H
    refine ww_callV C hZ dX9_readMan_38 cw_X9_265 (ccX9_isWord hS hc1) hS.1 ⟨by decide, rfl⟩ (by decide) rfl rfl (Nat.le_of_ble_eq_true rfl) ⟨Nat.zero_le _, Nat.zero_le _⟩ (fun v τ hp => ?_)
    obtain ⟨rfl, rfl⟩ := hp
    change WW X _ 41 [.ref m, .int p2.1] [.int p3.1, .int (p2.2.1 (m + 10) 1), .ref (m + 23)] _
    obtain ⟨hg, H⟩ := gd_of H
    refine wk_zastore C dX9_readMan_41 (tX9_nDoor hS).2.1 (vp_of hg (tX9_nDoor hS).2.2) ((p2.2.1 (m + 10) 1).toNatClampNeg) rfl (vp_nar .boolean p3.1) rfl ?_
    refine ww_aload_n C dX9_readMan_42 0 rfl rfl ?_
    refine wk_getR C dX9_readMan_43 fl_X9_51 hS.1 rfl (tX9_nStrong hS).1 ?_
    refine ww_aload_n C dX9_readMan_46 0 rfl rfl ?_
    refine wk_getR C dX9_readMan_47 fl_X9_42 hS.1 rfl (tX9_nMany hS).1 ?_
    refine ww_iconst (v := (1 : Int32)) C dX9_readMan_50 (by decide) ?_
    refine wk_iaload C dX9_readMan_51 (tX9_nMany hS).2.1 (vp_of (by decide : inB (1 : Int32) 3) (tX9_nMany hS).2.2) 1 rfl ?_
    refine ww_as (v := (p3.2.1 (m + 10) 1)) (by rw [uI_n (by omega)]) ?_
    refine ww_iload_n C dX9_readMan_52 1 rfl rfl ?_
    obtain ⟨hg, H⟩ := gd_of H
    refine wk_iastore C dX9_readMan_53 (tX9_nStrong hS).2.1 (vp_of hg (tX9_nStrong hS).2.2) ((p3.2.1 (m + 10) 1).toNatClampNeg) rfl ?_
    refine ww_aload_n C dX9_readMan_54 0 rfl rfl ?_
    refine ww_ldc2 (v := (1685024626 : Int64)) C dX9_readMan_55 kl_X9_233 ?_
    obtain ⟨p4, hc1, H⟩ := bd_of H
    refine ww_callV C hZ dX9_readMan_58 cw_X9_265 (ccX9_isWord hS hc1) hS.1 ⟨by decide, rfl⟩ (by decide) rfl rfl (Nat.le_of_ble_eq_true rfl) ⟨Nat.zero_le _, Nat.zero_le _⟩ (fun v τ hp => ?_)
    obtain ⟨rfl, rfl⟩ := hp
    change WW X _ 61 [.ref m, .int p2.1] [.int p4.1] _
    refine ww_if_eq C dX9_readMan_61 68 rfl (fun hc => ?_) (fun hc => ?_)
    · rw [if_pos hc] at H
      exact ww_drop [.ref m, .retAddr 0] (sl_e (sl_d sl_n)) (cX9_readMan_68 hS C hZ E H)
    · rw [if_neg hc] at H
      refine ww_aload_n C dX9_readMan_64 0 rfl rfl ?_
      obtain ⟨h5, hc1, H⟩ := bd_of H
      refine ww_callV C hZ dX9_readMan_65 cw_X9_272 (ccX9_token hS hc1) hS.1 ⟨by decide, rfl⟩ (by decide) rfl rfl (Nat.le_of_ble_eq_true rfl) ⟨Nat.zero_le _, Nat.zero_le _⟩ (fun v τ hp => ?_)
      obtain ⟨rfl, rfl⟩ := hp
      change WW X _ 68 [.ref m, .int p2.1] [] _
      exact ww_drop [.ref m, .retAddr 0] (sl_e (sl_d sl_n)) (cX9_readMan_68 hS C hZ E H)
  · rw [if_neg hc] at H
    cases H
    exact ww_vret C E dX9_readMan_23 ⟨rfl, rfl⟩
def fX9_readMatter (m : Nat) (h : HI) : Option (HI) := ((fX9_readName m h (2 : Int32)).bind fun h1 => ((fX9_told m h1 (1684628851 : Int64) (1 : Int32) (999 : Int32)).bind fun p2 => (if (p2.2.1 m 2) ≤ 0 then (if inB (p2.2.1 (m + 10) 2) 4 then some (uI (uI p2.2 (m + 14) ((p2.2.1 (m + 10) 2).toNatClampNeg) p2.1) (m + 10) 2 ((p2.2.1 (m + 10) 2) + (1 : Int32))) else none) else some p2.2)))
set_option maxRecDepth 100000 in
set_option maxHeartbeats 4000000 in
theorem ccX9_readMatter {l : Launch} {sh : Sh} {adr : Nat → Nat} {r : Nat → Nat → Option Nat} {m : Nat} (hS : MS sh r m) {h : HI}  {p : HI} (H : fX9_readMatter m h = some p) : CC l yX9_readMatter cX9_readMatter 2 none 4 [.ref m] sh adr (mk h r) (fun v τ => v = none ∧ τ = mk p r) := by
  refine CC.of (by decide) (Nat.le_of_ble_eq_true rfl) 1 [.ref m, .retAddr 0] rfl (fun X _ C E hZ => ?_)
  rw [fX9_readMatter] at H
  refine ww_aload_n C dX9_readMatter_0 0 rfl rfl ?_
  refine ww_iconst (v := (2 : Int32)) C dX9_readMatter_1 (by decide) ?_
  obtain ⟨h1, hc1, H⟩ := bd_of H
  refine ww_callV C hZ dX9_readMatter_2 cw_X9_340 (ccX9_readName hS hc1) hS.1 ⟨by decide, rfl⟩ (by decide) rfl rfl (Nat.le_of_ble_eq_true rfl) ⟨Nat.zero_le _, Nat.zero_le _⟩ (fun v τ hp => ?_)
  obtain ⟨rfl, rfl⟩ := hp
  change WW X _ 5 [.ref m, .retAddr 0] [] _
  refine ww_aload_n C dX9_readMatter_5 0 rfl rfl ?_
  refine ww_ldc2 (v := (1684628851 : Int64)) C dX9_readMatter_6 kl_X9_237 ?_
  refine ww_iconst (v := (1 : Int32)) C dX9_readMatter_9 (by decide) ?_
  refine ww_sipush (v := (999 : Int32)) C dX9_readMatter_10 (by decide) ?_
  obtain ⟨p2, hc1, H⟩ := bd_of H
  refine ww_callV C hZ dX9_readMatter_13 cw_X9_343 (ccX9_told hS hc1) hS.1 ⟨by decide, rfl⟩ (by decide) rfl rfl (Nat.le_of_ble_eq_true rfl) ⟨Nat.zero_le _, Nat.zero_le _⟩ (fun v τ hp => ?_)
  obtain ⟨rfl, rfl⟩ := hp
  change WW X _ 16 [.ref m, .retAddr 0] [.int p2.1] _
  refine ww_istore_n C dX9_readMatter_16 1 rfl (by decide) rfl [.ref m, .int p2.1] rfl ?_
  refine ww_aload_n C dX9_readMatter_17 0 rfl rfl ?_
  refine wk_getI C dX9_readMatter_18 fl_X9_216 hS.1 rfl ?_
  refine ww_if_le C dX9_readMatter_21 25 rfl (fun hc => ?_) (fun hc => ?_)
  · rw [if_pos hc] at H
    refine ww_aload_n C dX9_readMatter_25 0 rfl rfl ?_
    refine wk_getR C dX9_readMatter_26 fl_X9_54 hS.1 rfl (tX9_nDies hS).1 ?_
    refine ww_aload_n C dX9_readMatter_29 0 rfl rfl ?_
    refine wk_getR C dX9_readMatter_30 fl_X9_42 hS.1 rfl (tX9_nMany hS).1 ?_
    refine ww_iconst (v := (2 : Int32)) C dX9_readMatter_33 (by decide) ?_
    refine wk_iaload C dX9_readMatter_34 (tX9_nMany hS).2.1 (vp_of (by decide : inB (2 : Int32) 3) (tX9_nMany hS).2.2) 2 rfl ?_
    refine ww_iload_n C dX9_readMatter_35 1 rfl rfl ?_
    obtain ⟨hg, H⟩ := gd_of H
    refine wk_iastore C dX9_readMatter_36 (tX9_nDies hS).2.1 (vp_of hg (tX9_nDies hS).2.2) ((p2.2.1 (m + 10) 2).toNatClampNeg) rfl ?_
    refine ww_aload_n C dX9_readMatter_37 0 rfl rfl ?_
    refine wk_getR C dX9_readMatter_38 fl_X9_42 hS.1 rfl (tX9_nMany hS).1 ?_
    refine ww_iconst (v := (2 : Int32)) C dX9_readMatter_41 (by decide) ?_
    refine ww_dup2 C dX9_readMatter_42 rfl rfl ?_
    refine wk_iaload C dX9_readMatter_43 (tX9_nMany hS).2.1 (vp_of (by decide : inB (2 : Int32) 3) (tX9_nMany hS).2.2) 2 rfl ?_
    refine ww_as (v := (p2.2.1 (m + 10) 2)) (by rw [uI_n (by omega)]) ?_
    refine ww_iconst (v := (1 : Int32)) C dX9_readMatter_44 (by decide) ?_
    refine ww_iadd C dX9_readMatter_45 ?_
    refine wk_iastore C dX9_readMatter_46 (tX9_nMany hS).2.1 (vp_of (by decide : inB (2 : Int32) 3) (tX9_nMany hS).2.2) 2 rfl ?_
    cases H
    exact ww_vret C E dX9_readMatter_47 ⟨rfl, rfl⟩
  · rw [if_neg hc] at H
    cases H
    exact ww_vret C E dX9_readMatter_24 ⟨rfl, rfl⟩
def fX9_readWish_54 (m : Nat) (h : HI) (v1 : Int32) : Option (HI) := ((fX9_old m h (2 : Int32) (-1 : Int32)).bind fun p5 => ((fX9_signed m p5.2 (-99 : Int32) (99 : Int32)).bind fun p6 => (if (p6.2.1 m 2) ≤ 0 then (if inB (((4 : Int32) * v1) + p5.1) 24 then (if inB (((4 : Int32) * v1) + p5.1) 24 then some (uI (uI (uI p6.2 (m + 24) ((((4 : Int32) * v1) + p5.1).toNatClampNeg) (1 : Int32)) (m + 15) ((((4 : Int32) * v1) + p5.1).toNatClampNeg) p6.1) m 41 ((p6.2.1 m 41) + (1 : Int32))) else none) else none) else some p6.2)))
set_option maxRecDepth 100000 in
set_option maxHeartbeats 4000000 in
theorem cX9_readWish_54 {X : CT} {sh : Sh} {adr : Nat → Nat} {r : Nat → Nat → Option Nat} {m : Nat} {p : HI} (hS : MS sh r m) (C : CX X yX9_readWish.cls cX9_readWish 4 3) (hZ : SZX X adr) (E : RX X none sh adr (fun v τ => v = none ∧ τ = mk p r)) {h : HI} {v1 : Int32} (H : fX9_readWish_54 m h v1 = some p) : WW X (sh, adr, 0, 0) 54 [.ref m, .int v1, .retAddr 0, .retAddr 0] [] (mk h r) := by
  rw [fX9_readWish_54] at H
  refine ww_aload_n C dX9_readWish_54 0 rfl rfl ?_
  refine ww_iconst (v := (2 : Int32)) C dX9_readWish_55 (by decide) ?_
  refine ww_iconst (v := (-1 : Int32)) C dX9_readWish_56 (by decide) ?_
  obtain ⟨p5, hc1, H⟩ := bd_of H
  refine ww_callV C hZ dX9_readWish_57 cw_X9_347 (ccX9_old hS hc1) hS.1 ⟨by decide, rfl⟩ (by decide) rfl rfl (Nat.le_of_ble_eq_true rfl) ⟨Nat.zero_le _, Nat.zero_le _⟩ (fun v τ hp => ?_)
  obtain ⟨rfl, rfl⟩ := hp
  change WW X _ 60 [.ref m, .int v1, .retAddr 0, .retAddr 0] [.int p5.1] _
  refine ww_istore_n C dX9_readWish_60 2 rfl (by decide) rfl [.ref m, .int v1, .int p5.1, .retAddr 0] rfl ?_
  refine ww_aload_n C dX9_readWish_61 0 rfl rfl ?_
  refine ww_bipush (v := (-99 : Int32)) C dX9_readWish_62 (by decide) ?_
  refine ww_bipush (v := (99 : Int32)) C dX9_readWish_64 (by decide) ?_
  obtain ⟨p6, hc1, H⟩ := bd_of H
  refine ww_callV C hZ dX9_readWish_66 cw_X9_350 (ccX9_signed hS hc1) hS.1 ⟨by decide, rfl⟩ (by decide) rfl rfl (Nat.le_of_ble_eq_true rfl) ⟨Nat.zero_le _, Nat.zero_le _⟩ (fun v τ hp => ?_)
  obtain ⟨rfl, rfl⟩ := hp
  change WW X _ 69 [.ref m, .int v1, .int p5.1, .retAddr 0] [.int p6.1] _
  refine ww_istore_n C dX9_readWish_69 3 rfl (by decide) rfl [.ref m, .int v1, .int p5.1, .int p6.1] rfl ?_
  refine ww_aload_n C dX9_readWish_70 0 rfl rfl ?_
  refine wk_getI C dX9_readWish_71 fl_X9_216 hS.1 rfl ?_
  refine ww_if_le C dX9_readWish_74 78 rfl (fun hc => ?_) (fun hc => ?_)
  · rw [if_pos hc] at H
    refine ww_aload_n C dX9_readWish_78 0 rfl rfl ?_
    refine wk_getR C dX9_readWish_79 fl_X9_85 hS.1 rfl (tX9_nWished hS).1 ?_
    refine ww_iconst (v := (4 : Int32)) C dX9_readWish_82 (by decide) ?_
    refine ww_iload_n C dX9_readWish_83 1 rfl rfl ?_
    refine ww_imul C dX9_readWish_84 ?_
    refine ww_iload_n C dX9_readWish_85 2 rfl rfl ?_
    refine ww_iadd C dX9_readWish_86 ?_
    refine ww_iconst (v := (1 : Int32)) C dX9_readWish_87 (by decide) ?_
    obtain ⟨hg, H⟩ := gd_of H
    refine wk_zastore C dX9_readWish_88 (tX9_nWished hS).2.1 (vp_of hg (tX9_nWished hS).2.2) ((((4 : Int32) * v1) + p5.1).toNatClampNeg) rfl (1 : Int32) rfl ?_
    refine ww_aload_n C dX9_readWish_89 0 rfl rfl ?_
    refine wk_getR C dX9_readWish_90 fl_X9_57 hS.1 rfl (tX9_nWish hS).1 ?_
    refine ww_iconst (v := (4 : Int32)) C dX9_readWish_93 (by decide) ?_
    refine ww_iload_n C dX9_readWish_94 1 rfl rfl ?_
    refine ww_imul C dX9_readWish_95 ?_
    refine ww_iload_n C dX9_readWish_96 2 rfl rfl ?_
    refine ww_iadd C dX9_readWish_97 ?_
    refine ww_iload_n C dX9_readWish_98 3 rfl rfl ?_
    obtain ⟨hg, H⟩ := gd_of H
    refine wk_iastore C dX9_readWish_99 (tX9_nWish hS).2.1 (vp_of hg (tX9_nWish hS).2.2) ((((4 : Int32) * v1) + p5.1).toNatClampNeg) rfl ?_
    refine ww_aload_n C dX9_readWish_100 0 rfl rfl ?_
    refine ww_dup C dX9_readWish_101 rfl ?_
    refine wk_getI C dX9_readWish_102 fl_X9_353 hS.1 rfl ?_
    refine ww_as (v := (p6.2.1 m 41)) (by rw [uI_n (by omega), uI_n (by omega)]) ?_
    refine ww_iconst (v := (1 : Int32)) C dX9_readWish_105 (by decide) ?_
    refine ww_iadd C dX9_readWish_106 ?_
    refine wk_putI C dX9_readWish_107 fl_X9_353 hS.1 rfl rfl ?_
    cases H
    exact ww_vret C E dX9_readWish_110 ⟨rfl, rfl⟩
  · rw [if_neg hc] at H
    cases H
    exact ww_vret C E dX9_readWish_77 ⟨rfl, rfl⟩
def fX9_readWish (m : Nat) (h : HI) : Option (HI) := ((fX9_token m h).bind fun h1 => ((fX9_old m h1 (1 : Int32) (-1 : Int32)).bind fun p2 => (if (p2.2.1 m 2) ≤ 0 then ((fX9_find m p2.2 (2 : Int32)).bind fun p3 => ((fX9_isName m p3.2).bind fun p4 => (if p4.1 = 0 then fX9_readWish_54 m p4.2 p2.1 else (if p3.1 < 0 then fX9_readWish_54 m p4.2 p2.1 else (if inB (((4 : Int32) * p2.1) + p3.1) 24 then (if (p4.2.1 (m + 24) ((((4 : Int32) * p2.1) + p3.1).toNatClampNeg)) = 0 then fX9_readWish_54 m p4.2 p2.1 else ((fX9_wrong m p4.2 (3 : Int32)).bind fun h7 => fX9_readWish_54 m h7 p2.1)) else none))))) else some p2.2)))
set_option maxRecDepth 100000 in
set_option maxHeartbeats 4000000 in
theorem ccX9_readWish {l : Launch} {sh : Sh} {adr : Nat → Nat} {r : Nat → Nat → Option Nat} {m : Nat} (hS : MS sh r m) {h : HI}  {p : HI} (H : fX9_readWish m h = some p) : CC l yX9_readWish cX9_readWish 4 none 3 [.ref m] sh adr (mk h r) (fun v τ => v = none ∧ τ = mk p r) := by
  refine CC.of (by decide) (Nat.le_of_ble_eq_true rfl) 3 [.ref m, .retAddr 0, .retAddr 0, .retAddr 0] rfl (fun X _ C E hZ => ?_)
  rw [fX9_readWish] at H
  refine ww_aload_n C dX9_readWish_0 0 rfl rfl ?_
  obtain ⟨h1, hc1, H⟩ := bd_of H
  refine ww_callV C hZ dX9_readWish_1 cw_X9_272 (ccX9_token hS hc1) hS.1 ⟨by decide, rfl⟩ (by decide) rfl rfl (Nat.le_of_ble_eq_true rfl) ⟨Nat.zero_le _, Nat.zero_le _⟩ (fun v τ hp => ?_)
  obtain ⟨rfl, rfl⟩ := hp
  change WW X _ 4 [.ref m, .retAddr 0, .retAddr 0, .retAddr 0] [] _
  refine ww_aload_n C dX9_readWish_4 0 rfl rfl ?_
  refine ww_iconst (v := (1 : Int32)) C dX9_readWish_5 (by decide) ?_
  refine ww_iconst (v := (-1 : Int32)) C dX9_readWish_6 (by decide) ?_
  obtain ⟨p2, hc1, H⟩ := bd_of H
  refine ww_callV C hZ dX9_readWish_7 cw_X9_347 (ccX9_old hS hc1) hS.1 ⟨by decide, rfl⟩ (by decide) rfl rfl (Nat.le_of_ble_eq_true rfl) ⟨Nat.zero_le _, Nat.zero_le _⟩ (fun v τ hp => ?_)
  obtain ⟨rfl, rfl⟩ := hp
  change WW X _ 10 [.ref m, .retAddr 0, .retAddr 0, .retAddr 0] [.int p2.1] _
  refine ww_istore_n C dX9_readWish_10 1 rfl (by decide) rfl [.ref m, .int p2.1, .retAddr 0, .retAddr 0] rfl ?_
  refine ww_aload_n C dX9_readWish_11 0 rfl rfl ?_
  refine wk_getI C dX9_readWish_12 fl_X9_216 hS.1 rfl ?_
  refine ww_if_le C dX9_readWish_15 19 rfl (fun hc => ?_) (fun hc => ?_)
  · rw [if_pos hc] at H
    refine ww_aload_n C dX9_readWish_19 0 rfl rfl ?_
    refine ww_iconst (v := (2 : Int32)) C dX9_readWish_20 (by decide) ?_
    obtain ⟨p3, hc1, H⟩ := bd_of H
    refine ww_callV C hZ dX9_readWish_21 cw_X9_337 (ccX9_find hS hc1) hS.1 ⟨by decide, rfl⟩ (by decide) rfl rfl (Nat.le_of_ble_eq_true rfl) ⟨Nat.zero_le _, Nat.zero_le _⟩ (fun v τ hp => ?_)
    obtain ⟨rfl, rfl⟩ := hp
    change WW X _ 24 [.ref m, .int p2.1, .retAddr 0, .retAddr 0] [.int p3.1] _
    refine ww_istore_n C dX9_readWish_24 2 rfl (by decide) rfl [.ref m, .int p2.1, .int p3.1, .retAddr 0] rfl ?_
    refine ww_aload_n C dX9_readWish_25 0 rfl rfl ?_
    obtain ⟨p4, hc1, H⟩ := bd_of H
    refine ww_callV C hZ dX9_readWish_26 cw_X9_334 (ccX9_isName hS hc1) hS.1 ⟨by decide, rfl⟩ (by decide) rfl rfl (Nat.le_of_ble_eq_true rfl) ⟨Nat.zero_le _, Nat.zero_le _⟩ (fun v τ hp => ?_)
    obtain ⟨rfl, rfl⟩ := hp
    change WW X _ 29 [.ref m, .int p2.1, .int p3.1, .retAddr 0] [.int p4.1] _
    refine ww_if_eq C dX9_readWish_29 54 rfl (fun hc => ?_) (fun hc => ?_)
    · rw [if_pos hc] at H
      exact ww_drop [.ref m, .int p2.1, .retAddr 0, .retAddr 0] (sl_e (sl_e (sl_d (sl_e sl_n)))) (cX9_readWish_54 hS C hZ E H)
    · rw [if_neg hc] at H
      refine ww_iload_n C dX9_readWish_32 2 rfl rfl ?_
      refine ww_if_lt C dX9_readWish_33 54 rfl (fun hc => ?_) (fun hc => ?_)
      · rw [if_pos hc] at H
        exact ww_drop [.ref m, .int p2.1, .retAddr 0, .retAddr 0] (sl_e (sl_e (sl_d (sl_e sl_n)))) (cX9_readWish_54 hS C hZ E H)
      · rw [if_neg hc] at H
        refine ww_aload_n C dX9_readWish_36 0 rfl rfl ?_
        refine wk_getR C dX9_readWish_37 fl_X9_85 hS.1 rfl (tX9_nWished hS).1 ?_
        refine ww_iconst (v := (4 : Int32)) C dX9_readWish_40 (by decide) ?_
        refine ww_iload_n C dX9_readWish_41 1 rfl rfl ?_
        refine ww_imul C dX9_readWish_42 ?_
        refine ww_iload_n C dX9_readWish_43 2 rfl rfl ?_
        refine ww_iadd C dX9_readWish_44 ?_
        obtain ⟨hg, H⟩ := gd_of H
        refine wk_zaload C dX9_readWish_45 (tX9_nWished hS).2.1 (vp_of hg (tX9_nWished hS).2.2) ((((4 : Int32) * p2.1) + p3.1).toNatClampNeg) rfl ?_
        refine ww_if_eq C dX9_readWish_46 54 rfl (fun hc => ?_) (fun hc => ?_)
        · rw [if_pos hc] at H
          exact ww_drop [.ref m, .int p2.1, .retAddr 0, .retAddr 0] (sl_e (sl_e (sl_d (sl_e sl_n)))) (cX9_readWish_54 hS C hZ E H)
        · rw [if_neg hc] at H
          refine ww_aload_n C dX9_readWish_49 0 rfl rfl ?_
          refine ww_iconst (v := (3 : Int32)) C dX9_readWish_50 (by decide) ?_
          obtain ⟨h7, hc1, H⟩ := bd_of H
          refine ww_callV C hZ dX9_readWish_51 cw_X9_269 (ccX9_wrong hS hc1) hS.1 ⟨by decide, rfl⟩ (by decide) rfl rfl (Nat.le_of_ble_eq_true rfl) ⟨Nat.zero_le _, Nat.zero_le _⟩ (fun v τ hp => ?_)
          obtain ⟨rfl, rfl⟩ := hp
          change WW X _ 54 [.ref m, .int p2.1, .int p3.1, .retAddr 0] [] _
          exact ww_drop [.ref m, .int p2.1, .retAddr 0, .retAddr 0] (sl_e (sl_e (sl_d (sl_e sl_n)))) (cX9_readWish_54 hS C hZ E H)
  · rw [if_neg hc] at H
    cases H
    exact ww_vret C E dX9_readWish_18 ⟨rfl, rfl⟩
