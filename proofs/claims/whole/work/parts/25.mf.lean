def fX9_keptVotes (m : Nat) (h : HI) : Option (Int32 × HI) := (if (100 : Int32) ≤ (h.1 m 58) then some ((100 : Int32), h) else some ((h.1 m 58), h))
set_option maxRecDepth 100000 in
set_option maxHeartbeats 4000000 in
theorem ccX9_keptVotes {l : Launch} {sh : Sh} {adr : Nat → Nat} {r : Nat → Nat → Option Nat} {m : Nat} (hS : MS sh r m) {h : HI}  {p : Int32 × HI} (H : fX9_keptVotes m h = some p) : CC l yX9_keptVotes cX9_keptVotes 1 (some .int) 0 [.ref m] sh adr (mk h r) (fun v τ => v = some (.int p.1) ∧ τ = mk p.2 r) := by
  refine CC.of (by decide) (Nat.le_of_ble_eq_true rfl) 0 [.ref m] rfl (fun X _ C E hZ => ?_)
  rw [fX9_keptVotes] at H
  refine ww_aload_n C dX9_keptVotes_0 0 rfl rfl ?_
  refine wk_getI C dX9_keptVotes_1 fl_X9_427 hS.1 rfl ?_
  refine ww_bipush (v := (100 : Int32)) C dX9_keptVotes_4 (by decide) ?_
  refine ww_icmp_ge C dX9_keptVotes_6 16 rfl (fun hc => ?_) (fun hc => ?_)
  · rw [if_pos hc] at H
    refine ww_bipush (v := (100 : Int32)) C dX9_keptVotes_16 (by decide) ?_
    cases H
    exact ww_iret C E dX9_keptVotes_18 ⟨rfl, rfl⟩
  · rw [if_neg hc] at H
    refine ww_aload_n C dX9_keptVotes_9 0 rfl rfl ?_
    refine wk_getI C dX9_keptVotes_10 fl_X9_427 hS.1 rfl ?_
    refine ww_goto C dX9_keptVotes_13 18 rfl ?_
    cases H
    exact ww_iret C E dX9_keptVotes_18 ⟨rfl, rfl⟩
def fX9_voted (m : Nat) (h : HI) (a1 : Int32) (a2 : Int32) : Option (Int32 × HI) := (if a1 < 0 then some ((-1 : Int32), h) else ((fX9_keptVotes m h).bind fun p1 => (if p1.1 ≤ a1 then some ((-1 : Int32), p1.2) else (if a2 < 0 then some ((-1 : Int32), p1.2) else (if a2 ≤ (5 : Int32) then (if inB (((6 : Int32) * a1) + a2) 600 then some ((p1.2.1 (m + 35) ((((6 : Int32) * a1) + a2).toNatClampNeg)), p1.2) else none) else some ((-1 : Int32), p1.2))))))
set_option maxRecDepth 100000 in
set_option maxHeartbeats 4000000 in
theorem ccX9_voted {l : Launch} {sh : Sh} {adr : Nat → Nat} {r : Nat → Nat → Option Nat} {m : Nat} (hS : MS sh r m) {h : HI} {a1 : Int32} {a2 : Int32} {p : Int32 × HI} (H : fX9_voted m h a1 a2 = some p) : CC l yX9_voted cX9_voted 3 (some .int) 1 [.ref m, .int a1, .int a2] sh adr (mk h r) (fun v τ => v = some (.int p.1) ∧ τ = mk p.2 r) := by
  refine CC.of (by decide) (Nat.le_of_ble_eq_true rfl) 0 [.ref m, .int a1, .int a2] rfl (fun X _ C E hZ => ?_)
  rw [fX9_voted] at H
  refine ww_iload_n C dX9_voted_0 1 rfl rfl ?_
  refine ww_if_lt C dX9_voted_1 21 rfl (fun hc => ?_) (fun hc => ?_)
  · rw [if_pos hc] at H
    refine ww_iconst (v := (-1 : Int32)) C dX9_voted_21 (by decide) ?_
    refine ww_goto C dX9_voted_22 36 rfl ?_
    cases H
    exact ww_iret C E dX9_voted_36 ⟨rfl, rfl⟩
  · rw [if_neg hc] at H
    refine ww_iload_n C dX9_voted_4 1 rfl rfl ?_
    refine ww_aload_n C dX9_voted_5 0 rfl rfl ?_
    obtain ⟨p1, hc1, H⟩ := bd_of H
    refine ww_callV C hZ dX9_voted_6 cw_X9_505 (ccX9_keptVotes hS hc1) hS.1 ⟨by decide, rfl⟩ (by decide) rfl rfl (Nat.le_of_ble_eq_true rfl) ⟨Nat.zero_le _, Nat.zero_le _⟩ (fun v τ hp => ?_)
    obtain ⟨rfl, rfl⟩ := hp
    change WW X _ 9 [.ref m, .int a1, .int a2] [.int p1.1, .int a1] _
    refine ww_icmp_ge C dX9_voted_9 21 rfl (fun hc => ?_) (fun hc => ?_)
    · rw [if_pos hc] at H
      refine ww_iconst (v := (-1 : Int32)) C dX9_voted_21 (by decide) ?_
      refine ww_goto C dX9_voted_22 36 rfl ?_
      cases H
      exact ww_iret C E dX9_voted_36 ⟨rfl, rfl⟩
    · rw [if_neg hc] at H
      refine ww_iload_n C dX9_voted_12 2 rfl rfl ?_
      refine ww_if_lt C dX9_voted_13 21 rfl (fun hc => ?_) (fun hc => ?_)
      · rw [if_pos hc] at H
        refine ww_iconst (v := (-1 : Int32)) C dX9_voted_21 (by decide) ?_
        refine ww_goto C dX9_voted_22 36 rfl ?_
        cases H
        exact ww_iret C E dX9_voted_36 ⟨rfl, rfl⟩
      · rw [if_neg hc] at H
        refine ww_iload_n C dX9_voted_16 2 rfl rfl ?_
        refine ww_iconst (v := (5 : Int32)) C dX9_voted_17 (by decide) ?_
        refine ww_icmp_le C dX9_voted_18 25 rfl (fun hc => ?_) (fun hc => ?_)
        · rw [if_pos hc] at H
          refine ww_aload_n C dX9_voted_25 0 rfl rfl ?_
          refine wk_getR C dX9_voted_26 fl_X9_118 hS.1 rfl (tX9_kept hS).1 ?_
          refine ww_bipush (v := (6 : Int32)) C dX9_voted_29 (by decide) ?_
          refine ww_iload_n C dX9_voted_31 1 rfl rfl ?_
          refine ww_imul C dX9_voted_32 ?_
          refine ww_iload_n C dX9_voted_33 2 rfl rfl ?_
          refine ww_iadd C dX9_voted_34 ?_
          obtain ⟨hg, H⟩ := gd_of H
          refine wk_iaload C dX9_voted_35 (tX9_kept hS).2.1 (vp_of hg (tX9_kept hS).2.2) ((((6 : Int32) * a1) + a2).toNatClampNeg) rfl ?_
          cases H
          exact ww_iret C E dX9_voted_36 ⟨rfl, rfl⟩
        · rw [if_neg hc] at H
          refine ww_iconst (v := (-1 : Int32)) C dX9_voted_21 (by decide) ?_
          refine ww_goto C dX9_voted_22 36 rfl ?_
          cases H
          exact ww_iret C E dX9_voted_36 ⟨rfl, rfl⟩
def fX9_sat (m : Nat) (h : HI) (a1 : Int32) (a2 : Int32) : Option (Int32 × HI) := ((fX9_isChair m h a1).bind fun p1 => (if p1.1 = 0 then some ((-1 : Int32), p1.2) else (if a2 < (1 : Int32) then some ((-1 : Int32), p1.2) else (if (200 : Int32) < a2 then some ((-1 : Int32), p1.2) else (if (p1.2.1 m 57) < a2 then some ((-1 : Int32), p1.2) else (if inB (((6 : Int32) * a2) + a1) 1206 then some ((p1.2.1 (m + 36) ((((6 : Int32) * a2) + a1).toNatClampNeg)), p1.2) else none))))))
set_option maxRecDepth 100000 in
set_option maxHeartbeats 4000000 in
theorem ccX9_sat {l : Launch} {sh : Sh} {adr : Nat → Nat} {r : Nat → Nat → Option Nat} {m : Nat} (hS : MS sh r m) {h : HI} {a1 : Int32} {a2 : Int32} {p : Int32 × HI} (H : fX9_sat m h a1 a2 = some p) : CC l yX9_sat cX9_sat 3 (some .int) 1 [.ref m, .int a1, .int a2] sh adr (mk h r) (fun v τ => v = some (.int p.1) ∧ τ = mk p.2 r) := by
  refine CC.of (by decide) (Nat.le_of_ble_eq_true rfl) 0 [.ref m, .int a1, .int a2] rfl (fun X _ C E hZ => ?_)
  rw [fX9_sat] at H
  refine ww_aload_n C dX9_sat_0 0 rfl rfl ?_
  refine ww_iload_n C dX9_sat_1 1 rfl rfl ?_
  obtain ⟨p1, hc1, H⟩ := bd_of H
  refine ww_callV C hZ dX9_sat_2 cw_X9_466 (ccX9_isChair hS hc1) hS.1 ⟨by decide, rfl⟩ (by decide) rfl rfl (Nat.le_of_ble_eq_true rfl) ⟨Nat.zero_le _, Nat.zero_le _⟩ (fun v τ hp => ?_)
  obtain ⟨rfl, rfl⟩ := hp
  change WW X _ 5 [.ref m, .int a1, .int a2] [.int p1.1] _
  refine ww_if_eq C dX9_sat_5 42 rfl (fun hc => ?_) (fun hc => ?_)
  · rw [if_pos hc] at H
    refine ww_iconst (v := (-1 : Int32)) C dX9_sat_42 (by decide) ?_
    cases H
    exact ww_iret C E dX9_sat_43 ⟨rfl, rfl⟩
  · rw [if_neg hc] at H
    refine ww_iload_n C dX9_sat_8 2 rfl rfl ?_
    refine ww_iconst (v := (1 : Int32)) C dX9_sat_9 (by decide) ?_
    refine ww_icmp_lt C dX9_sat_10 42 rfl (fun hc => ?_) (fun hc => ?_)
    · rw [if_pos hc] at H
      refine ww_iconst (v := (-1 : Int32)) C dX9_sat_42 (by decide) ?_
      cases H
      exact ww_iret C E dX9_sat_43 ⟨rfl, rfl⟩
    · rw [if_neg hc] at H
      refine ww_iload_n C dX9_sat_13 2 rfl rfl ?_
      refine ww_sipush (v := (200 : Int32)) C dX9_sat_14 (by decide) ?_
      refine ww_icmp_gt C dX9_sat_17 42 rfl (fun hc => ?_) (fun hc => ?_)
      · rw [if_pos hc] at H
        refine ww_iconst (v := (-1 : Int32)) C dX9_sat_42 (by decide) ?_
        cases H
        exact ww_iret C E dX9_sat_43 ⟨rfl, rfl⟩
      · rw [if_neg hc] at H
        refine ww_iload_n C dX9_sat_20 2 rfl rfl ?_
        refine ww_aload_n C dX9_sat_21 0 rfl rfl ?_
        refine wk_getI C dX9_sat_22 fl_X9_424 hS.1 rfl ?_
        refine ww_icmp_gt C dX9_sat_25 42 rfl (fun hc => ?_) (fun hc => ?_)
        · rw [if_pos hc] at H
          refine ww_iconst (v := (-1 : Int32)) C dX9_sat_42 (by decide) ?_
          cases H
          exact ww_iret C E dX9_sat_43 ⟨rfl, rfl⟩
        · rw [if_neg hc] at H
          refine ww_aload_n C dX9_sat_28 0 rfl rfl ?_
          refine wk_getR C dX9_sat_29 fl_X9_121 hS.1 rfl (tX9_sat hS).1 ?_
          refine ww_bipush (v := (6 : Int32)) C dX9_sat_32 (by decide) ?_
          refine ww_iload_n C dX9_sat_34 2 rfl rfl ?_
          refine ww_imul C dX9_sat_35 ?_
          refine ww_iload_n C dX9_sat_36 1 rfl rfl ?_
          refine ww_iadd C dX9_sat_37 ?_
          obtain ⟨hg, H⟩ := gd_of H
          refine wk_iaload C dX9_sat_38 (tX9_sat hS).2.1 (vp_of hg (tX9_sat hS).2.2) ((((6 : Int32) * a2) + a1).toNatClampNeg) rfl ?_
          refine ww_goto C dX9_sat_39 43 rfl ?_
          cases H
          exact ww_iret C E dX9_sat_43 ⟨rfl, rfl⟩
def fX9_seats_43 (m : Nat) (k : HI → Int32 → Option (Int32 × HI)) (kb : HI → Int32 → Int32 → Option (Int32 × HI)) (h : HI) (v2 : Int32) (s0 : Int32) (s1 : Int32) : Option (Int32 × HI) := kb h (s1 + s0) (v2 + (1 : Int32))
set_option maxRecDepth 100000 in
set_option maxHeartbeats 4000000 in
theorem cX9_seats_43 {X : CT} {sh : Sh} {adr : Nat → Nat} {r : Nat → Nat → Option Nat} {m : Nat} {p : Int32 × HI} (hS : MS sh r m) (C : CX X yX9_seats.cls cX9_seats 3 0) (hZ : SZX X adr) (E : RX X (some .int) sh adr (fun v τ => v = some (.int p.1) ∧ τ = mk p.2 r)) {k : HI → Int32 → Option (Int32 × HI)} {kb : HI → Int32 → Int32 → Option (Int32 × HI)} (hk : ∀ (h : HI) (v1 : Int32), k h v1 = some p → WW X (sh, adr, 0, 0) 51 [.ref m, .int v1, .retAddr 0] [] (mk h r)) (hb : ∀ (h : HI) (v1 : Int32) (v2 : Int32), kb h v1 v2 = some p → WW X (sh, adr, 0, 0) 4 [.ref m, .int v1, .int v2] [] (mk h r)) {h : HI} {v2 : Int32} {s0 : Int32} {s1 : Int32} (H : fX9_seats_43 m k kb h v2 s0 s1 = some p) : WW X (sh, adr, 0, 0) 43 [.ref m, .retAddr 0, .int v2] [.int s0, .int s1] (mk h r) := by
  rw [fX9_seats_43] at H
  refine ww_iadd C dX9_seats_43 ?_
  refine ww_istore_n C dX9_seats_44 1 rfl (by decide) rfl [.ref m, .int (s1 + s0), .int v2] rfl ?_
  refine ww_iinc (v := (v2 + (1 : Int32))) C dX9_seats_45 rfl rfl (by decide) rfl [.ref m, .int (s1 + s0), .int (v2 + (1 : Int32))] rfl ?_
  refine ww_goto C dX9_seats_48 4 rfl ?_
  exact hb h (s1 + s0) (v2 + (1 : Int32)) H
def fX9_seats_33 (m : Nat) (k : HI → Int32 → Option (Int32 × HI)) (kb : HI → Int32 → Int32 → Option (Int32 × HI)) (h : HI) (v2 : Int32) (s0 : Int32) : Option (Int32 × HI) := fX9_seats_43 m k kb h v2 (0 : Int32) s0
set_option maxRecDepth 100000 in
set_option maxHeartbeats 4000000 in
theorem cX9_seats_33 {X : CT} {sh : Sh} {adr : Nat → Nat} {r : Nat → Nat → Option Nat} {m : Nat} {p : Int32 × HI} (hS : MS sh r m) (C : CX X yX9_seats.cls cX9_seats 3 0) (hZ : SZX X adr) (E : RX X (some .int) sh adr (fun v τ => v = some (.int p.1) ∧ τ = mk p.2 r)) {k : HI → Int32 → Option (Int32 × HI)} {kb : HI → Int32 → Int32 → Option (Int32 × HI)} (hk : ∀ (h : HI) (v1 : Int32), k h v1 = some p → WW X (sh, adr, 0, 0) 51 [.ref m, .int v1, .retAddr 0] [] (mk h r)) (hb : ∀ (h : HI) (v1 : Int32) (v2 : Int32), kb h v1 v2 = some p → WW X (sh, adr, 0, 0) 4 [.ref m, .int v1, .int v2] [] (mk h r)) {h : HI} {v2 : Int32} {s0 : Int32} (H : fX9_seats_33 m k kb h v2 s0 = some p) : WW X (sh, adr, 0, 0) 33 [.ref m, .retAddr 0, .int v2] [.int s0] (mk h r) := by
  rw [fX9_seats_33] at H
  refine ww_iconst (v := (0 : Int32)) C dX9_seats_33 (by decide) ?_
  refine ww_goto C dX9_seats_34 43 rfl ?_
  exact cX9_seats_43 hS C hZ E hk hb H
def fX9_seats_4 (m : Nat) (k : HI → Int32 → Option (Int32 × HI)) : Nat → HI → Int32 → Int32 → Option (Int32 × HI)
  | 0, _, _, _ => none
  | n + 1, h, v1, v2 => (if (h.1 (m + 11) 0) ≤ v2 then k h v1 else (if inB v2 6 then (if (h.1 (m + 33) (v2.toNatClampNeg)) = 0 then (if inB v2 6 then (if (h.1 (m + 34) (v2.toNatClampNeg)) = 0 then (if inB v2 6 then fX9_seats_43 m (k) (fX9_seats_4 m k n) h v2 (h.1 (m + 17) (v2.toNatClampNeg)) v1 else none) else fX9_seats_33 m (k) (fX9_seats_4 m k n) h v2 v1) else none) else fX9_seats_33 m (k) (fX9_seats_4 m k n) h v2 v1) else none))
set_option maxRecDepth 100000 in
set_option maxHeartbeats 4000000 in
theorem cX9_seats_4 {X : CT} {sh : Sh} {adr : Nat → Nat} {r : Nat → Nat → Option Nat} {m : Nat} {p : Int32 × HI} (hS : MS sh r m) (C : CX X yX9_seats.cls cX9_seats 3 0) (hZ : SZX X adr) (E : RX X (some .int) sh adr (fun v τ => v = some (.int p.1) ∧ τ = mk p.2 r)) {k : HI → Int32 → Option (Int32 × HI)} (hk : ∀ (h : HI) (v1 : Int32), k h v1 = some p → WW X (sh, adr, 0, 0) 51 [.ref m, .int v1, .retAddr 0] [] (mk h r)) : ∀ (n : Nat) (h : HI) (v1 : Int32) (v2 : Int32), fX9_seats_4 m k n h v1 v2 = some p → WW X (sh, adr, 0, 0) 4 [.ref m, .int v1, .int v2] [] (mk h r) := by
  intro n
  induction n with
  | zero =>
    intro h v1 v2 H
    rw [fX9_seats_4] at H
    cases H
  | succ n ih =>
    intro h v1 v2 H
    rw [fX9_seats_4] at H
    refine ww_iload_n C dX9_seats_4 2 rfl rfl ?_
    refine ww_aload_n C dX9_seats_5 0 rfl rfl ?_
    refine wk_getR C dX9_seats_6 fl_X9_45 hS.1 rfl (tX9_many hS).1 ?_
    refine ww_iconst (v := (0 : Int32)) C dX9_seats_9 (by decide) ?_
    refine wk_iaload C dX9_seats_10 (tX9_many hS).2.1 (vp_of (by decide : inB (0 : Int32) 3) (tX9_many hS).2.2) 0 rfl ?_
    refine ww_icmp_ge C dX9_seats_11 51 rfl (fun hc => ?_) (fun hc => ?_)
    · rw [if_pos hc] at H
      exact ww_drop [.ref m, .int v1, .retAddr 0] (sl_e (sl_e (sl_d sl_n))) (hk h v1 H)
    · rw [if_neg hc] at H
      refine ww_iload_n C dX9_seats_14 1 rfl rfl ?_
      refine ww_aload_n C dX9_seats_15 0 rfl rfl ?_
      refine wk_getR C dX9_seats_16 fl_X9_112 hS.1 rfl (tX9_isBroken hS).1 ?_
      refine ww_iload_n C dX9_seats_19 2 rfl rfl ?_
      obtain ⟨hg, H⟩ := gd_of H
      refine wk_zaload C dX9_seats_20 (tX9_isBroken hS).2.1 (vp_of hg (tX9_isBroken hS).2.2) (v2.toNatClampNeg) rfl ?_
      refine ww_if_ne C dX9_seats_21 33 rfl (fun hc => ?_) (fun hc => ?_)
      · rw [if_neg hc] at H
        exact ww_drop [.ref m, .retAddr 0, .int v2] (sl_e (sl_d (sl_e sl_n))) (cX9_seats_33 hS C hZ E hk ih H)
      · rw [if_pos hc] at H
        refine ww_aload_n C dX9_seats_24 0 rfl rfl ?_
        refine wk_getR C dX9_seats_25 fl_X9_115 hS.1 rfl (tX9_isFound hS).1 ?_
        refine ww_iload_n C dX9_seats_28 2 rfl rfl ?_
        obtain ⟨hg, H⟩ := gd_of H
        refine wk_zaload C dX9_seats_29 (tX9_isFound hS).2.1 (vp_of hg (tX9_isFound hS).2.2) (v2.toNatClampNeg) rfl ?_
        refine ww_if_eq C dX9_seats_30 37 rfl (fun hc => ?_) (fun hc => ?_)
        · rw [if_pos hc] at H
          refine ww_aload_n C dX9_seats_37 0 rfl rfl ?_
          refine wk_getR C dX9_seats_38 fl_X9_63 hS.1 rfl (tX9_holds hS).1 ?_
          refine ww_iload_n C dX9_seats_41 2 rfl rfl ?_
          obtain ⟨hg, H⟩ := gd_of H
          refine wk_iaload C dX9_seats_42 (tX9_holds hS).2.1 (vp_of hg (tX9_holds hS).2.2) (v2.toNatClampNeg) rfl ?_
          exact ww_drop [.ref m, .retAddr 0, .int v2] (sl_e (sl_d (sl_e sl_n))) (cX9_seats_43 hS C hZ E hk ih H)
        · rw [if_neg hc] at H
          exact ww_drop [.ref m, .retAddr 0, .int v2] (sl_e (sl_d (sl_e sl_n))) (cX9_seats_33 hS C hZ E hk ih H)
def fX9_seats (m : Nat) (h : HI) : Option (Int32 × HI) := fX9_seats_4 m (fun h2 v1 => some (v1, h2)) FU h (0 : Int32) (0 : Int32)
set_option maxRecDepth 100000 in
set_option maxHeartbeats 4000000 in
theorem ccX9_seats {l : Launch} {sh : Sh} {adr : Nat → Nat} {r : Nat → Nat → Option Nat} {m : Nat} (hS : MS sh r m) {h : HI}  {p : Int32 × HI} (H : fX9_seats m h = some p) : CC l yX9_seats cX9_seats 3 (some .int) 0 [.ref m] sh adr (mk h r) (fun v τ => v = some (.int p.1) ∧ τ = mk p.2 r) := by
  refine CC.of (by decide) (Nat.le_of_ble_eq_true rfl) 2 [.ref m, .retAddr 0, .retAddr 0] rfl (fun X _ C E hZ => ?_)
  rw [fX9_seats] at H
  refine ww_iconst (v := (0 : Int32)) C dX9_seats_0 (by decide) ?_
  refine ww_istore_n C dX9_seats_1 1 rfl (by decide) rfl [.ref m, .int (0 : Int32), .retAddr 0] rfl ?_
  refine ww_iconst (v := (0 : Int32)) C dX9_seats_2 (by decide) ?_
  refine ww_istore_n C dX9_seats_3 2 rfl (by decide) rfl [.ref m, .int (0 : Int32), .int (0 : Int32)] rfl ?_
  refine cX9_seats_4 hS C hZ E (fun h2 v1 H => ?_) FU h (0 : Int32) (0 : Int32) H
  refine ww_iload_n C dX9_seats_51 1 rfl rfl ?_
  cases H
  exact ww_iret C E dX9_seats_52 ⟨rfl, rfl⟩
def fX9_seated_43 (m : Nat) (k : HI → Int32 → Option (Int32 × HI)) (kb : HI → Int32 → Int32 → Option (Int32 × HI)) (h : HI) (v2 : Int32) (s0 : Int32) (s1 : Int32) : Option (Int32 × HI) := kb h (s1 ||| s0) (v2 + (1 : Int32))
set_option maxRecDepth 100000 in
set_option maxHeartbeats 4000000 in
theorem cX9_seated_43 {X : CT} {sh : Sh} {adr : Nat → Nat} {r : Nat → Nat → Option Nat} {m : Nat} {p : Int32 × HI} (hS : MS sh r m) (C : CX X yX9_seated.cls cX9_seated 3 1) (hZ : SZX X adr) (E : RX X (some .int) sh adr (fun v τ => v = some (.int p.1) ∧ τ = mk p.2 r)) {k : HI → Int32 → Option (Int32 × HI)} {kb : HI → Int32 → Int32 → Option (Int32 × HI)} (hk : ∀ (h : HI) (v1 : Int32), k h v1 = some p → WW X (sh, adr, 0, 0) 51 [.ref m, .int v1, .retAddr 0] [] (mk h r)) (hb : ∀ (h : HI) (v1 : Int32) (v2 : Int32), kb h v1 v2 = some p → WW X (sh, adr, 0, 0) 4 [.ref m, .int v1, .int v2] [] (mk h r)) {h : HI} {v2 : Int32} {s0 : Int32} {s1 : Int32} (H : fX9_seated_43 m k kb h v2 s0 s1 = some p) : WW X (sh, adr, 0, 0) 43 [.ref m, .retAddr 0, .int v2] [.int s0, .int s1] (mk h r) := by
  rw [fX9_seated_43] at H
  refine ww_ior C dX9_seated_43 ?_
  refine ww_istore_n C dX9_seated_44 1 rfl (by decide) rfl [.ref m, .int (s1 ||| s0), .int v2] rfl ?_
  refine ww_iinc (v := (v2 + (1 : Int32))) C dX9_seated_45 rfl rfl (by decide) rfl [.ref m, .int (s1 ||| s0), .int (v2 + (1 : Int32))] rfl ?_
  refine ww_goto C dX9_seated_48 4 rfl ?_
  exact hb h (s1 ||| s0) (v2 + (1 : Int32)) H
def fX9_seated_42 (m : Nat) (k : HI → Int32 → Option (Int32 × HI)) (kb : HI → Int32 → Int32 → Option (Int32 × HI)) (h : HI) (v2 : Int32) (s0 : Int32) : Option (Int32 × HI) := fX9_seated_43 m k kb h v2 (0 : Int32) s0
set_option maxRecDepth 100000 in
set_option maxHeartbeats 4000000 in
theorem cX9_seated_42 {X : CT} {sh : Sh} {adr : Nat → Nat} {r : Nat → Nat → Option Nat} {m : Nat} {p : Int32 × HI} (hS : MS sh r m) (C : CX X yX9_seated.cls cX9_seated 3 1) (hZ : SZX X adr) (E : RX X (some .int) sh adr (fun v τ => v = some (.int p.1) ∧ τ = mk p.2 r)) {k : HI → Int32 → Option (Int32 × HI)} {kb : HI → Int32 → Int32 → Option (Int32 × HI)} (hk : ∀ (h : HI) (v1 : Int32), k h v1 = some p → WW X (sh, adr, 0, 0) 51 [.ref m, .int v1, .retAddr 0] [] (mk h r)) (hb : ∀ (h : HI) (v1 : Int32) (v2 : Int32), kb h v1 v2 = some p → WW X (sh, adr, 0, 0) 4 [.ref m, .int v1, .int v2] [] (mk h r)) {h : HI} {v2 : Int32} {s0 : Int32} (H : fX9_seated_42 m k kb h v2 s0 = some p) : WW X (sh, adr, 0, 0) 42 [.ref m, .retAddr 0, .int v2] [.int s0] (mk h r) := by
  rw [fX9_seated_42] at H
  refine ww_iconst (v := (0 : Int32)) C dX9_seated_42 (by decide) ?_
  exact cX9_seated_43 hS C hZ E hk hb H
def fX9_seated_4 (m : Nat) (k : HI → Int32 → Option (Int32 × HI)) : Nat → HI → Int32 → Int32 → Option (Int32 × HI)
  | 0, _, _, _ => none
  | n + 1, h, v1, v2 => ((fX9_men m h).bind fun p1 => (if p1.1 ≤ v2 then k p1.2 v1 else (if inB v2 6 then (if (p1.2.1 (m + 27) (v2.toNatClampNeg)) < 0 then fX9_seated_42 m (k) (fX9_seated_4 m k n) p1.2 v2 v1 else (if inB v2 6 then (if inB (p1.2.1 (m + 27) (v2.toNatClampNeg)) 6 then (if (p1.2.1 (m + 34) ((p1.2.1 (m + 27) (v2.toNatClampNeg)).toNatClampNeg)) = 0 then fX9_seated_43 m (k) (fX9_seated_4 m k n) p1.2 v2 ((1 : Int32) <<< (v2 &&& 31)) v1 else fX9_seated_42 m (k) (fX9_seated_4 m k n) p1.2 v2 v1) else none) else none)) else none)))
set_option maxRecDepth 100000 in
set_option maxHeartbeats 4000000 in
theorem cX9_seated_4 {X : CT} {sh : Sh} {adr : Nat → Nat} {r : Nat → Nat → Option Nat} {m : Nat} {p : Int32 × HI} (hS : MS sh r m) (C : CX X yX9_seated.cls cX9_seated 3 1) (hZ : SZX X adr) (E : RX X (some .int) sh adr (fun v τ => v = some (.int p.1) ∧ τ = mk p.2 r)) {k : HI → Int32 → Option (Int32 × HI)} (hk : ∀ (h : HI) (v1 : Int32), k h v1 = some p → WW X (sh, adr, 0, 0) 51 [.ref m, .int v1, .retAddr 0] [] (mk h r)) : ∀ (n : Nat) (h : HI) (v1 : Int32) (v2 : Int32), fX9_seated_4 m k n h v1 v2 = some p → WW X (sh, adr, 0, 0) 4 [.ref m, .int v1, .int v2] [] (mk h r) := by
  intro n
  induction n with
  | zero =>
    intro h v1 v2 H
    rw [fX9_seated_4] at H
    cases H
  | succ n ih =>
    intro h v1 v2 H
    rw [fX9_seated_4] at H
    refine ww_iload_n C dX9_seated_4 2 rfl rfl ?_
    refine ww_aload_n C dX9_seated_5 0 rfl rfl ?_
    obtain ⟨p1, hc1, H⟩ := bd_of H
    refine ww_callV C hZ dX9_seated_6 cw_X9_417 (ccX9_men hS hc1) hS.1 ⟨by decide, rfl⟩ (by decide) rfl rfl (Nat.le_of_ble_eq_true rfl) ⟨Nat.zero_le _, Nat.zero_le _⟩ (fun v τ hp => ?_)
    obtain ⟨rfl, rfl⟩ := hp
    change WW X _ 9 [.ref m, .int v1, .int v2] [.int p1.1, .int v2] _
    refine ww_icmp_ge C dX9_seated_9 51 rfl (fun hc => ?_) (fun hc => ?_)
    · rw [if_pos hc] at H
      exact ww_drop [.ref m, .int v1, .retAddr 0] (sl_e (sl_e (sl_d sl_n))) (hk p1.2 v1 H)
    · rw [if_neg hc] at H
      refine ww_iload_n C dX9_seated_12 1 rfl rfl ?_
      refine ww_aload_n C dX9_seated_13 0 rfl rfl ?_
      refine wk_getR C dX9_seated_14 fl_X9_94 hS.1 rfl (tX9_where hS).1 ?_
      refine ww_iload_n C dX9_seated_17 2 rfl rfl ?_
      obtain ⟨hg, H⟩ := gd_of H
      refine wk_iaload C dX9_seated_18 (tX9_where hS).2.1 (vp_of hg (tX9_where hS).2.2) (v2.toNatClampNeg) rfl ?_
      refine ww_if_lt C dX9_seated_19 42 rfl (fun hc => ?_) (fun hc => ?_)
      · rw [if_pos hc] at H
        exact ww_drop [.ref m, .retAddr 0, .int v2] (sl_e (sl_d (sl_e sl_n))) (cX9_seated_42 hS C hZ E hk ih H)
      · rw [if_neg hc] at H
        refine ww_aload_n C dX9_seated_22 0 rfl rfl ?_
        refine wk_getR C dX9_seated_23 fl_X9_115 hS.1 rfl (tX9_isFound hS).1 ?_
        refine ww_aload_n C dX9_seated_26 0 rfl rfl ?_
        refine wk_getR C dX9_seated_27 fl_X9_94 hS.1 rfl (tX9_where hS).1 ?_
        refine ww_iload_n C dX9_seated_30 2 rfl rfl ?_
        obtain ⟨hg, H⟩ := gd_of H
        refine wk_iaload C dX9_seated_31 (tX9_where hS).2.1 (vp_of hg (tX9_where hS).2.2) (v2.toNatClampNeg) rfl ?_
        obtain ⟨hg, H⟩ := gd_of H
        refine wk_zaload C dX9_seated_32 (tX9_isFound hS).2.1 (vp_of hg (tX9_isFound hS).2.2) ((p1.2.1 (m + 27) (v2.toNatClampNeg)).toNatClampNeg) rfl ?_
        refine ww_if_ne C dX9_seated_33 42 rfl (fun hc => ?_) (fun hc => ?_)
        · rw [if_neg hc] at H
          exact ww_drop [.ref m, .retAddr 0, .int v2] (sl_e (sl_d (sl_e sl_n))) (cX9_seated_42 hS C hZ E hk ih H)
        · rw [if_pos hc] at H
          refine ww_iconst (v := (1 : Int32)) C dX9_seated_36 (by decide) ?_
          refine ww_iload_n C dX9_seated_37 2 rfl rfl ?_
          refine ww_ishl C dX9_seated_38 ?_
          refine ww_goto C dX9_seated_39 43 rfl ?_
          exact ww_drop [.ref m, .retAddr 0, .int v2] (sl_e (sl_d (sl_e sl_n))) (cX9_seated_43 hS C hZ E hk ih H)
def fX9_seated (m : Nat) (h : HI) : Option (Int32 × HI) := fX9_seated_4 m (fun h3 v1 => some (v1, h3)) FU h (0 : Int32) (0 : Int32)
set_option maxRecDepth 100000 in
set_option maxHeartbeats 4000000 in
theorem ccX9_seated {l : Launch} {sh : Sh} {adr : Nat → Nat} {r : Nat → Nat → Option Nat} {m : Nat} (hS : MS sh r m) {h : HI}  {p : Int32 × HI} (H : fX9_seated m h = some p) : CC l yX9_seated cX9_seated 3 (some .int) 1 [.ref m] sh adr (mk h r) (fun v τ => v = some (.int p.1) ∧ τ = mk p.2 r) := by
  refine CC.of (by decide) (Nat.le_of_ble_eq_true rfl) 2 [.ref m, .retAddr 0, .retAddr 0] rfl (fun X _ C E hZ => ?_)
  rw [fX9_seated] at H
  refine ww_iconst (v := (0 : Int32)) C dX9_seated_0 (by decide) ?_
  refine ww_istore_n C dX9_seated_1 1 rfl (by decide) rfl [.ref m, .int (0 : Int32), .retAddr 0] rfl ?_
  refine ww_iconst (v := (0 : Int32)) C dX9_seated_2 (by decide) ?_
  refine ww_istore_n C dX9_seated_3 2 rfl (by decide) rfl [.ref m, .int (0 : Int32), .int (0 : Int32)] rfl ?_
  refine cX9_seated_4 hS C hZ E (fun h3 v1 H => ?_) FU h (0 : Int32) (0 : Int32) H
  refine ww_iload_n C dX9_seated_51 1 rfl rfl ?_
  cases H
  exact ww_iret C E dX9_seated_52 ⟨rfl, rfl⟩
def fX9_statusOf (h : HI) (a0 : Int32) (a1 : Int32) : Option (Int32 × HI) := some (((a0 >>> (((6 : Int32) + ((2 : Int32) * a1)) &&& 31)) &&& (3 : Int32)), h)
set_option maxRecDepth 100000 in
set_option maxHeartbeats 4000000 in
theorem ccX9_statusOf {l : Launch} {sh : Sh} {adr : Nat → Nat} {r : Nat → Nat → Option Nat} {h : HI} {a0 : Int32} {a1 : Int32} {p : Int32 × HI} (H : fX9_statusOf h a0 a1 = some p) : CC l yX9_statusOf cX9_statusOf 2 (some .int) 0 [.int a0, .int a1] sh adr (mk h r) (fun v τ => v = some (.int p.1) ∧ τ = mk p.2 r) := by
  refine CC.of (by decide) (Nat.le_of_ble_eq_true rfl) 0 [.int a0, .int a1] rfl (fun X _ C E hZ => ?_)
  rw [fX9_statusOf] at H
  refine ww_iload_n C dX9_statusOf_0 0 rfl rfl ?_
  refine ww_bipush (v := (6 : Int32)) C dX9_statusOf_1 (by decide) ?_
  refine ww_iconst (v := (2 : Int32)) C dX9_statusOf_3 (by decide) ?_
  refine ww_iload_n C dX9_statusOf_4 1 rfl rfl ?_
  refine ww_imul C dX9_statusOf_5 ?_
  refine ww_iadd C dX9_statusOf_6 ?_
  refine ww_ishr C dX9_statusOf_7 ?_
  refine ww_iconst (v := (3 : Int32)) C dX9_statusOf_8 (by decide) ?_
  refine ww_iand C dX9_statusOf_9 ?_
  cases H
  exact ww_iret C E dX9_statusOf_10 ⟨rfl, rfl⟩
def fX9_firstState_12 (m : Nat) (k : HI → Int32 → Option (Int32 × HI)) : Nat → HI → Int32 → Int32 → Option (Int32 × HI)
  | 0, _, _, _ => none
  | n + 1, h, v2, v3 => (if (h.1 (m + 11) 2) ≤ v3 then k h v2 else (if inB v3 4 then fX9_firstState_12 m k n h (v2 ||| ((h.1 (m + 31) (v3.toNatClampNeg)) <<< (((6 : Int32) + ((2 : Int32) * v3)) &&& 31))) (v3 + (1 : Int32)) else none))
set_option maxRecDepth 100000 in
set_option maxHeartbeats 4000000 in
theorem cX9_firstState_12 {X : CT} {sh : Sh} {adr : Nat → Nat} {r : Nat → Nat → Option Nat} {m : Nat} {p : Int32 × HI} (hS : MS sh r m) (C : CX X yX9_firstState.cls cX9_firstState 4 1) (hZ : SZX X adr) (E : RX X (some .int) sh adr (fun v τ => v = some (.int p.1) ∧ τ = mk p.2 r)) {k : HI → Int32 → Option (Int32 × HI)} (hk : ∀ (h : HI) (v2 : Int32), k h v2 = some p → WW X (sh, adr, 0, 0) 44 [.ref m, .retAddr 0, .int v2, .retAddr 0] [] (mk h r)) : ∀ (n : Nat) (h : HI) (v2 : Int32) (v3 : Int32), fX9_firstState_12 m k n h v2 v3 = some p → WW X (sh, adr, 0, 0) 12 [.ref m, .retAddr 0, .int v2, .int v3] [] (mk h r) := by
  intro n
  induction n with
  | zero =>
    intro h v2 v3 H
    rw [fX9_firstState_12] at H
    cases H
  | succ n ih =>
    intro h v2 v3 H
    rw [fX9_firstState_12] at H
    refine ww_iload_n C dX9_firstState_12 3 rfl rfl ?_
    refine ww_aload_n C dX9_firstState_13 0 rfl rfl ?_
    refine wk_getR C dX9_firstState_14 fl_X9_45 hS.1 rfl (tX9_many hS).1 ?_
    refine ww_iconst (v := (2 : Int32)) C dX9_firstState_17 (by decide) ?_
    refine wk_iaload C dX9_firstState_18 (tX9_many hS).2.1 (vp_of (by decide : inB (2 : Int32) 3) (tX9_many hS).2.2) 2 rfl ?_
    refine ww_icmp_ge C dX9_firstState_19 44 rfl (fun hc => ?_) (fun hc => ?_)
    · rw [if_pos hc] at H
      exact ww_drop [.ref m, .retAddr 0, .int v2, .retAddr 0] (sl_e (sl_e (sl_e (sl_d sl_n)))) (hk h v2 H)
    · rw [if_neg hc] at H
      refine ww_iload_n C dX9_firstState_22 2 rfl rfl ?_
      refine ww_aload_n C dX9_firstState_23 0 rfl rfl ?_
      refine wk_getR C dX9_firstState_24 fl_X9_106 hS.1 rfl (tX9_state hS).1 ?_
      refine ww_iload_n C dX9_firstState_27 3 rfl rfl ?_
      obtain ⟨hg, H⟩ := gd_of H
      refine wk_iaload C dX9_firstState_28 (tX9_state hS).2.1 (vp_of hg (tX9_state hS).2.2) (v3.toNatClampNeg) rfl ?_
      refine ww_bipush (v := (6 : Int32)) C dX9_firstState_29 (by decide) ?_
      refine ww_iconst (v := (2 : Int32)) C dX9_firstState_31 (by decide) ?_
      refine ww_iload_n C dX9_firstState_32 3 rfl rfl ?_
      refine ww_imul C dX9_firstState_33 ?_
      refine ww_iadd C dX9_firstState_34 ?_
      refine ww_ishl C dX9_firstState_35 ?_
      refine ww_ior C dX9_firstState_36 ?_
      refine ww_istore_n C dX9_firstState_37 2 rfl (by decide) rfl [.ref m, .retAddr 0, .int (v2 ||| ((h.1 (m + 31) (v3.toNatClampNeg)) <<< (((6 : Int32) + ((2 : Int32) * v3)) &&& 31))), .int v3] rfl ?_
      refine ww_iinc (v := (v3 + (1 : Int32))) C dX9_firstState_38 rfl rfl (by decide) rfl [.ref m, .retAddr 0, .int (v2 ||| ((h.1 (m + 31) (v3.toNatClampNeg)) <<< (((6 : Int32) + ((2 : Int32) * v3)) &&& 31))), .int (v3 + (1 : Int32))] rfl ?_
      refine ww_goto C dX9_firstState_41 12 rfl ?_
      exact ih h (v2 ||| ((h.1 (m + 31) (v3.toNatClampNeg)) <<< (((6 : Int32) + ((2 : Int32) * v3)) &&& 31))) (v3 + (1 : Int32)) H
def fX9_firstState (m : Nat) (h : HI) (a1 : Int32) : Option (Int32 × HI) := ((fX9_dueSet m h).bind fun p1 => fX9_firstState_12 m (fun h3 v2 => some (v2, h3)) FU p1.2 (a1 ||| (p1.1 <<< ((14 : Int32) &&& 31))) (0 : Int32))
set_option maxRecDepth 100000 in
set_option maxHeartbeats 4000000 in
theorem ccX9_firstState {l : Launch} {sh : Sh} {adr : Nat → Nat} {r : Nat → Nat → Option Nat} {m : Nat} (hS : MS sh r m) {h : HI} {a1 : Int32} {p : Int32 × HI} (H : fX9_firstState m h a1 = some p) : CC l yX9_firstState cX9_firstState 4 (some .int) 1 [.ref m, .int a1] sh adr (mk h r) (fun v τ => v = some (.int p.1) ∧ τ = mk p.2 r) := by
  refine CC.of (by decide) (Nat.le_of_ble_eq_true rfl) 2 [.ref m, .int a1, .retAddr 0, .retAddr 0] rfl (fun X _ C E hZ => ?_)
  rw [fX9_firstState] at H
  refine ww_iload_n C dX9_firstState_0 1 rfl rfl ?_
  refine ww_aload_n C dX9_firstState_1 0 rfl rfl ?_
  obtain ⟨p1, hc1, H⟩ := bd_of H
  refine ww_callV C hZ dX9_firstState_2 cw_X9_469 (ccX9_dueSet hS hc1) hS.1 ⟨by decide, rfl⟩ (by decide) rfl rfl (Nat.le_of_ble_eq_true rfl) ⟨Nat.zero_le _, Nat.zero_le _⟩ (fun v τ hp => ?_)
  obtain ⟨rfl, rfl⟩ := hp
  change WW X _ 5 [.ref m, .int a1, .retAddr 0, .retAddr 0] [.int p1.1, .int a1] _
  refine ww_bipush (v := (14 : Int32)) C dX9_firstState_5 (by decide) ?_
  refine ww_ishl C dX9_firstState_7 ?_
  refine ww_ior C dX9_firstState_8 ?_
  refine ww_istore_n C dX9_firstState_9 2 rfl (by decide) rfl [.ref m, .int a1, .int (a1 ||| (p1.1 <<< ((14 : Int32) &&& 31))), .retAddr 0] rfl ?_
  refine ww_iconst (v := (0 : Int32)) C dX9_firstState_10 (by decide) ?_
  refine ww_istore_n C dX9_firstState_11 3 rfl (by decide) rfl [.ref m, .int a1, .int (a1 ||| (p1.1 <<< ((14 : Int32) &&& 31))), .int (0 : Int32)] rfl ?_
  refine ww_drop [.ref m, .retAddr 0, .int (a1 ||| (p1.1 <<< ((14 : Int32) &&& 31))), .int (0 : Int32)] (sl_e (sl_d (sl_e (sl_e sl_n)))) (cX9_firstState_12 hS C hZ E (fun h3 v2 H => ?_) FU p1.2 (a1 ||| (p1.1 <<< ((14 : Int32) &&& 31))) (0 : Int32) H)
  refine ww_iload_n C dX9_firstState_44 2 rfl rfl ?_
  cases H
  exact ww_iret C E dX9_firstState_45 ⟨rfl, rfl⟩
def fX9_worthOf_43 (m : Nat) (k : HI → Int32 → Option (Int32 × HI)) (kb : HI → Int32 → Int32 → Int32 → Option (Int32 × HI)) (h : HI) (v1 : Int32) (v3 : Int32) (s0 : Int32) (s1 : Int32) : Option (Int32 × HI) := kb h v1 (s1 + s0) (v3 + (1 : Int32))
set_option maxRecDepth 100000 in
set_option maxHeartbeats 4000000 in
theorem cX9_worthOf_43 {X : CT} {sh : Sh} {adr : Nat → Nat} {r : Nat → Nat → Option Nat} {m : Nat} {p : Int32 × HI} (hS : MS sh r m) (C : CX X yX9_worthOf.cls cX9_worthOf 4 2) (hZ : SZX X adr) (E : RX X (some .int) sh adr (fun v τ => v = some (.int p.1) ∧ τ = mk p.2 r)) {k : HI → Int32 → Option (Int32 × HI)} {kb : HI → Int32 → Int32 → Int32 → Option (Int32 × HI)} (hk : ∀ (h : HI) (v2 : Int32), k h v2 = some p → WW X (sh, adr, 0, 0) 51 [.ref m, .retAddr 0, .int v2, .retAddr 0] [] (mk h r)) (hb : ∀ (h : HI) (v1 : Int32) (v2 : Int32) (v3 : Int32), kb h v1 v2 v3 = some p → WW X (sh, adr, 0, 0) 4 [.ref m, .int v1, .int v2, .int v3] [] (mk h r)) {h : HI} {v1 : Int32} {v3 : Int32} {s0 : Int32} {s1 : Int32} (H : fX9_worthOf_43 m k kb h v1 v3 s0 s1 = some p) : WW X (sh, adr, 0, 0) 43 [.ref m, .int v1, .retAddr 0, .int v3] [.int s0, .int s1] (mk h r) := by
  rw [fX9_worthOf_43] at H
  refine ww_iadd C dX9_worthOf_43 ?_
  refine ww_istore_n C dX9_worthOf_44 2 rfl (by decide) rfl [.ref m, .int v1, .int (s1 + s0), .int v3] rfl ?_
  refine ww_iinc (v := (v3 + (1 : Int32))) C dX9_worthOf_45 rfl rfl (by decide) rfl [.ref m, .int v1, .int (s1 + s0), .int (v3 + (1 : Int32))] rfl ?_
  refine ww_goto C dX9_worthOf_48 4 rfl ?_
  exact hb h v1 (s1 + s0) (v3 + (1 : Int32)) H
def fX9_worthOf_42 (m : Nat) (k : HI → Int32 → Option (Int32 × HI)) (kb : HI → Int32 → Int32 → Int32 → Option (Int32 × HI)) (h : HI) (v1 : Int32) (v3 : Int32) (s0 : Int32) : Option (Int32 × HI) := fX9_worthOf_43 m k kb h v1 v3 (0 : Int32) s0
set_option maxRecDepth 100000 in
set_option maxHeartbeats 4000000 in
theorem cX9_worthOf_42 {X : CT} {sh : Sh} {adr : Nat → Nat} {r : Nat → Nat → Option Nat} {m : Nat} {p : Int32 × HI} (hS : MS sh r m) (C : CX X yX9_worthOf.cls cX9_worthOf 4 2) (hZ : SZX X adr) (E : RX X (some .int) sh adr (fun v τ => v = some (.int p.1) ∧ τ = mk p.2 r)) {k : HI → Int32 → Option (Int32 × HI)} {kb : HI → Int32 → Int32 → Int32 → Option (Int32 × HI)} (hk : ∀ (h : HI) (v2 : Int32), k h v2 = some p → WW X (sh, adr, 0, 0) 51 [.ref m, .retAddr 0, .int v2, .retAddr 0] [] (mk h r)) (hb : ∀ (h : HI) (v1 : Int32) (v2 : Int32) (v3 : Int32), kb h v1 v2 v3 = some p → WW X (sh, adr, 0, 0) 4 [.ref m, .int v1, .int v2, .int v3] [] (mk h r)) {h : HI} {v1 : Int32} {v3 : Int32} {s0 : Int32} (H : fX9_worthOf_42 m k kb h v1 v3 s0 = some p) : WW X (sh, adr, 0, 0) 42 [.ref m, .int v1, .retAddr 0, .int v3] [.int s0] (mk h r) := by
  rw [fX9_worthOf_42] at H
  refine ww_iconst (v := (0 : Int32)) C dX9_worthOf_42 (by decide) ?_
  exact cX9_worthOf_43 hS C hZ E hk hb H
def fX9_worthOf_4 (m : Nat) (k : HI → Int32 → Option (Int32 × HI)) : Nat → HI → Int32 → Int32 → Int32 → Option (Int32 × HI)
  | 0, _, _, _, _ => none
  | n + 1, h, v1, v2, v3 => (if (h.1 (m + 11) 2) ≤ v3 then k h v2 else ((fX9_statusOf h v1 v3).bind fun p1 => (if p1.1 = (2 : Int32) then (if inB v3 4 then (if (p1.2.1 (m + 31) (v3.toNatClampNeg)) = (2 : Int32) then fX9_worthOf_42 m (k) (fX9_worthOf_4 m k n) p1.2 v1 v3 v2 else ((fX9_allWishes m p1.2 v3).bind fun p2 => fX9_worthOf_43 m (k) (fX9_worthOf_4 m k n) p2.2 v1 v3 p2.1 v2)) else none) else fX9_worthOf_42 m (k) (fX9_worthOf_4 m k n) p1.2 v1 v3 v2)))
set_option maxRecDepth 100000 in
set_option maxHeartbeats 4000000 in
theorem cX9_worthOf_4 {X : CT} {sh : Sh} {adr : Nat → Nat} {r : Nat → Nat → Option Nat} {m : Nat} {p : Int32 × HI} (hS : MS sh r m) (C : CX X yX9_worthOf.cls cX9_worthOf 4 2) (hZ : SZX X adr) (E : RX X (some .int) sh adr (fun v τ => v = some (.int p.1) ∧ τ = mk p.2 r)) {k : HI → Int32 → Option (Int32 × HI)} (hk : ∀ (h : HI) (v2 : Int32), k h v2 = some p → WW X (sh, adr, 0, 0) 51 [.ref m, .retAddr 0, .int v2, .retAddr 0] [] (mk h r)) : ∀ (n : Nat) (h : HI) (v1 : Int32) (v2 : Int32) (v3 : Int32), fX9_worthOf_4 m k n h v1 v2 v3 = some p → WW X (sh, adr, 0, 0) 4 [.ref m, .int v1, .int v2, .int v3] [] (mk h r) := by
  intro n
  induction n with
  | zero =>
    intro h v1 v2 v3 H
    rw [fX9_worthOf_4] at H
    cases H
  | succ n ih =>
    intro h v1 v2 v3 H
    rw [fX9_worthOf_4] at H
    refine ww_iload_n C dX9_worthOf_4 3 rfl rfl ?_
    refine ww_aload_n C dX9_worthOf_5 0 rfl rfl ?_
    refine wk_getR C dX9_worthOf_6 fl_X9_45 hS.1 rfl (tX9_many hS).1 ?_
    refine ww_iconst (v := (2 : Int32)) C dX9_worthOf_9 (by decide) ?_
    refine wk_iaload C dX9_worthOf_10 (tX9_many hS).2.1 (vp_of (by decide : inB (2 : Int32) 3) (tX9_many hS).2.2) 2 rfl ?_
    refine ww_icmp_ge C dX9_worthOf_11 51 rfl (fun hc => ?_) (fun hc => ?_)
    · rw [if_pos hc] at H
      exact ww_drop [.ref m, .retAddr 0, .int v2, .retAddr 0] (sl_e (sl_d (sl_e (sl_d sl_n)))) (hk h v2 H)
    · rw [if_neg hc] at H
      refine ww_iload_n C dX9_worthOf_14 2 rfl rfl ?_
      refine ww_iload_n C dX9_worthOf_15 1 rfl rfl ?_
      refine ww_iload_n C dX9_worthOf_16 3 rfl rfl ?_
      obtain ⟨p1, hc1, H⟩ := bd_of H
      refine ww_callS C hZ dX9_worthOf_17 sw_X9_508 (ccX9_statusOf hc1) (by decide) rfl rfl (Nat.le_of_ble_eq_true rfl) ⟨Nat.zero_le _, Nat.zero_le _⟩ (fun v τ hp => ?_)
      obtain ⟨rfl, rfl⟩ := hp
      change WW X _ 20 [.ref m, .int v1, .int v2, .int v3] [.int p1.1, .int v2] _
      refine ww_iconst (v := (2 : Int32)) C dX9_worthOf_20 (by decide) ?_
      refine ww_icmp_ne C dX9_worthOf_21 42 rfl (fun hc => ?_) (fun hc => ?_)
      · rw [if_neg hc] at H
        exact ww_drop [.ref m, .int v1, .retAddr 0, .int v3] (sl_e (sl_e (sl_d (sl_e sl_n)))) (cX9_worthOf_42 hS C hZ E hk ih H)
      · rw [if_pos hc] at H
        refine ww_aload_n C dX9_worthOf_24 0 rfl rfl ?_
        refine wk_getR C dX9_worthOf_25 fl_X9_106 hS.1 rfl (tX9_state hS).1 ?_
        refine ww_iload_n C dX9_worthOf_28 3 rfl rfl ?_
        obtain ⟨hg, H⟩ := gd_of H
        refine wk_iaload C dX9_worthOf_29 (tX9_state hS).2.1 (vp_of hg (tX9_state hS).2.2) (v3.toNatClampNeg) rfl ?_
        refine ww_iconst (v := (2 : Int32)) C dX9_worthOf_30 (by decide) ?_
        refine ww_icmp_eq C dX9_worthOf_31 42 rfl (fun hc => ?_) (fun hc => ?_)
        · rw [if_pos hc] at H
          exact ww_drop [.ref m, .int v1, .retAddr 0, .int v3] (sl_e (sl_e (sl_d (sl_e sl_n)))) (cX9_worthOf_42 hS C hZ E hk ih H)
        · rw [if_neg hc] at H
          refine ww_aload_n C dX9_worthOf_34 0 rfl rfl ?_
          refine ww_iload_n C dX9_worthOf_35 3 rfl rfl ?_
          obtain ⟨p2, hc1, H⟩ := bd_of H
          refine ww_callV C hZ dX9_worthOf_36 cw_X9_502 (ccX9_allWishes hS hc1) hS.1 ⟨by decide, rfl⟩ (by decide) rfl rfl (Nat.le_of_ble_eq_true rfl) ⟨Nat.zero_le _, Nat.zero_le _⟩ (fun v τ hp => ?_)
          obtain ⟨rfl, rfl⟩ := hp
          change WW X _ 39 [.ref m, .int v1, .int v2, .int v3] [.int p2.1, .int v2] _
          refine ww_goto C dX9_worthOf_39 43 rfl ?_
          exact ww_drop [.ref m, .int v1, .retAddr 0, .int v3] (sl_e (sl_e (sl_d (sl_e sl_n)))) (cX9_worthOf_43 hS C hZ E hk ih H)
def fX9_worthOf (m : Nat) (h : HI) (a1 : Int32) : Option (Int32 × HI) := fX9_worthOf_4 m (fun h4 v2 => some (v2, h4)) FU h a1 (0 : Int32) (0 : Int32)
set_option maxRecDepth 100000 in
set_option maxHeartbeats 4000000 in
theorem ccX9_worthOf {l : Launch} {sh : Sh} {adr : Nat → Nat} {r : Nat → Nat → Option Nat} {m : Nat} (hS : MS sh r m) {h : HI} {a1 : Int32} {p : Int32 × HI} (H : fX9_worthOf m h a1 = some p) : CC l yX9_worthOf cX9_worthOf 4 (some .int) 2 [.ref m, .int a1] sh adr (mk h r) (fun v τ => v = some (.int p.1) ∧ τ = mk p.2 r) := by
  refine CC.of (by decide) (Nat.le_of_ble_eq_true rfl) 2 [.ref m, .int a1, .retAddr 0, .retAddr 0] rfl (fun X _ C E hZ => ?_)
  rw [fX9_worthOf] at H
  refine ww_iconst (v := (0 : Int32)) C dX9_worthOf_0 (by decide) ?_
  refine ww_istore_n C dX9_worthOf_1 2 rfl (by decide) rfl [.ref m, .int a1, .int (0 : Int32), .retAddr 0] rfl ?_
  refine ww_iconst (v := (0 : Int32)) C dX9_worthOf_2 (by decide) ?_
  refine ww_istore_n C dX9_worthOf_3 3 rfl (by decide) rfl [.ref m, .int a1, .int (0 : Int32), .int (0 : Int32)] rfl ?_
  refine cX9_worthOf_4 hS C hZ E (fun h4 v2 H => ?_) FU h a1 (0 : Int32) (0 : Int32) H
  refine ww_iload_n C dX9_worthOf_51 2 rfl rfl ?_
  cases H
  exact ww_iret C E dX9_worthOf_52 ⟨rfl, rfl⟩
def fX9_come (m : Nat) (h : HI) (a1 : Int32) : Option (HI) := (if inB a1 262144 then (if (h.1 (m + 37) (a1.toNatClampNeg)) = (h.1 m 64) then some h else (if inB a1 262144 then (if inB (h.1 m 65) 262144 then ((fX9_worthOf m (uI (uI (uI h (m + 37) (a1.toNatClampNeg) (h.1 m 64)) (m + 38) ((h.1 m 65).toNatClampNeg) a1) m 65 ((h.1 m 65) + (1 : Int32))) a1).bind fun p1 => (if (p1.2.1 m 68) < p1.1 then some (uI (uI p1.2 m 68 p1.1) m 69 ((p1.2.1 m 70) + (1 : Int32))) else some p1.2)) else none) else none)) else none)
set_option maxRecDepth 100000 in
set_option maxHeartbeats 4000000 in
theorem ccX9_come {l : Launch} {sh : Sh} {adr : Nat → Nat} {r : Nat → Nat → Option Nat} {m : Nat} (hS : MS sh r m) {h : HI} {a1 : Int32} {p : HI} (H : fX9_come m h a1 = some p) : CC l yX9_come cX9_come 3 none 3 [.ref m, .int a1] sh adr (mk h r) (fun v τ => v = none ∧ τ = mk p r) := by
  refine CC.of (by decide) (Nat.le_of_ble_eq_true rfl) 1 [.ref m, .int a1, .retAddr 0] rfl (fun X _ C E hZ => ?_)
  rw [fX9_come] at H
  refine ww_aload_n C dX9_come_0 0 rfl rfl ?_
  refine wk_getR C dX9_come_1 fl_X9_125 hS.1 rfl (tX9_stamps hS).1 ?_
  refine ww_iload_n C dX9_come_4 1 rfl rfl ?_
  obtain ⟨hg, H⟩ := gd_of H
  refine wk_iaload C dX9_come_5 (tX9_stamps hS).2.1 (vp_of hg (tX9_stamps hS).2.2) (a1.toNatClampNeg) rfl ?_
  refine ww_aload_n C dX9_come_6 0 rfl rfl ?_
  refine wk_getI C dX9_come_7 fl_X9_511 hS.1 rfl ?_
  refine ww_icmp_ne C dX9_come_10 14 rfl (fun hc => ?_) (fun hc => ?_)
  · rw [if_neg hc] at H
    refine ww_aload_n C dX9_come_14 0 rfl rfl ?_
    refine wk_getR C dX9_come_15 fl_X9_125 hS.1 rfl (tX9_stamps hS).1 ?_
    refine ww_iload_n C dX9_come_18 1 rfl rfl ?_
    refine ww_aload_n C dX9_come_19 0 rfl rfl ?_
    refine wk_getI C dX9_come_20 fl_X9_511 hS.1 rfl ?_
    obtain ⟨hg, H⟩ := gd_of H
    refine wk_iastore C dX9_come_23 (tX9_stamps hS).2.1 (vp_of hg (tX9_stamps hS).2.2) (a1.toNatClampNeg) rfl ?_
    refine ww_aload_n C dX9_come_24 0 rfl rfl ?_
    refine wk_getR C dX9_come_25 fl_X9_128 hS.1 rfl (tX9_queue hS).1 ?_
    refine ww_aload_n C dX9_come_28 0 rfl rfl ?_
    refine wk_getI C dX9_come_29 fl_X9_514 hS.1 rfl ?_
    refine ww_as (v := (h.1 m 65)) (by rw [uI_n (by omega)]) ?_
    refine ww_iload_n C dX9_come_32 1 rfl rfl ?_
    obtain ⟨hg, H⟩ := gd_of H
    refine wk_iastore C dX9_come_33 (tX9_queue hS).2.1 (vp_of hg (tX9_queue hS).2.2) ((h.1 m 65).toNatClampNeg) rfl ?_
    refine ww_aload_n C dX9_come_34 0 rfl rfl ?_
    refine ww_dup C dX9_come_35 rfl ?_
    refine wk_getI C dX9_come_36 fl_X9_514 hS.1 rfl ?_
    refine ww_as (v := (h.1 m 65)) (by rw [uI_n (by omega), uI_n (by omega)]) ?_
    refine ww_iconst (v := (1 : Int32)) C dX9_come_39 (by decide) ?_
    refine ww_iadd C dX9_come_40 ?_
    refine wk_putI C dX9_come_41 fl_X9_514 hS.1 rfl rfl ?_
    refine ww_aload_n C dX9_come_44 0 rfl rfl ?_
    refine ww_iload_n C dX9_come_45 1 rfl rfl ?_
    obtain ⟨p1, hc1, H⟩ := bd_of H
    refine ww_callV C hZ dX9_come_46 cw_X9_517 (ccX9_worthOf hS hc1) hS.1 ⟨by decide, rfl⟩ (by decide) rfl rfl (Nat.le_of_ble_eq_true rfl) ⟨Nat.zero_le _, Nat.zero_le _⟩ (fun v τ hp => ?_)
    obtain ⟨rfl, rfl⟩ := hp
    change WW X _ 49 [.ref m, .int a1, .retAddr 0] [.int p1.1] _
    refine ww_istore_n C dX9_come_49 2 rfl (by decide) rfl [.ref m, .int a1, .int p1.1] rfl ?_
    refine ww_iload_n C dX9_come_50 2 rfl rfl ?_
    refine ww_aload_n C dX9_come_51 0 rfl rfl ?_
    refine wk_getI C dX9_come_52 fl_X9_520 hS.1 rfl ?_
    refine ww_icmp_gt C dX9_come_55 59 rfl (fun hc => ?_) (fun hc => ?_)
    · rw [if_pos hc] at H
      refine ww_aload_n C dX9_come_59 0 rfl rfl ?_
      refine ww_iload_n C dX9_come_60 2 rfl rfl ?_
      refine wk_putI C dX9_come_61 fl_X9_520 hS.1 rfl rfl ?_
      refine ww_aload_n C dX9_come_64 0 rfl rfl ?_
      refine ww_aload_n C dX9_come_65 0 rfl rfl ?_
      refine wk_getI C dX9_come_66 fl_X9_523 hS.1 rfl ?_
      refine ww_as (v := (p1.2.1 m 70)) (by rw [uI_n (by omega)]) ?_
      refine ww_iconst (v := (1 : Int32)) C dX9_come_69 (by decide) ?_
      refine ww_iadd C dX9_come_70 ?_
      refine wk_putI C dX9_come_71 fl_X9_526 hS.1 rfl rfl ?_
      cases H
      exact ww_vret C E dX9_come_74 ⟨rfl, rfl⟩
    · rw [if_neg hc] at H
      cases H
      exact ww_vret C E dX9_come_58 ⟨rfl, rfl⟩
  · rw [if_pos hc] at H
    cases H
    exact ww_vret C E dX9_come_13 ⟨rfl, rfl⟩
def fX9_isAlive (m : Nat) (h : HI) (a1 : Int32) (a2 : Int32) : Option (Int32 × HI) := ((fX9_statusOf h a1 a2).bind fun p1 => (if (2 : Int32) ≤ p1.1 then some ((0 : Int32), p1.2) else (if inB a2 4 then (if (p1.2.1 (m + 19) (a2.toNatClampNeg)) ≤ ((p1.2.1 m 57) + (p1.2.1 m 70)) then some ((0 : Int32), p1.2) else some ((1 : Int32), p1.2)) else none)))
set_option maxRecDepth 100000 in
set_option maxHeartbeats 4000000 in
theorem ccX9_isAlive {l : Launch} {sh : Sh} {adr : Nat → Nat} {r : Nat → Nat → Option Nat} {m : Nat} (hS : MS sh r m) {h : HI} {a1 : Int32} {a2 : Int32} {p : Int32 × HI} (H : fX9_isAlive m h a1 a2 = some p) : CC l yX9_isAlive cX9_isAlive 3 (some .boolean) 1 [.ref m, .int a1, .int a2] sh adr (mk h r) (fun v τ => v = some (.int p.1) ∧ τ = mk p.2 r) := by
  refine CC.of (by decide) (Nat.le_of_ble_eq_true rfl) 0 [.ref m, .int a1, .int a2] rfl (fun X _ C E hZ => ?_)
  rw [fX9_isAlive] at H
  refine ww_iload_n C dX9_isAlive_0 1 rfl rfl ?_
  refine ww_iload_n C dX9_isAlive_1 2 rfl rfl ?_
  obtain ⟨p1, hc1, H⟩ := bd_of H
  refine ww_callS C hZ dX9_isAlive_2 sw_X9_508 (ccX9_statusOf hc1) (by decide) rfl rfl (Nat.le_of_ble_eq_true rfl) ⟨Nat.zero_le _, Nat.zero_le _⟩ (fun v τ hp => ?_)
  obtain ⟨rfl, rfl⟩ := hp
  change WW X _ 5 [.ref m, .int a1, .int a2] [.int p1.1] _
  refine ww_iconst (v := (2 : Int32)) C dX9_isAlive_5 (by decide) ?_
  refine ww_icmp_ge C dX9_isAlive_6 31 rfl (fun hc => ?_) (fun hc => ?_)
  · rw [if_pos hc] at H
    refine ww_iconst (v := (0 : Int32)) C dX9_isAlive_31 (by decide) ?_
    cases H
    exact ww_zret C E dX9_isAlive_32 (Or.inl rfl) ⟨rfl, rfl⟩
  · rw [if_neg hc] at H
    refine ww_aload_n C dX9_isAlive_9 0 rfl rfl ?_
    refine wk_getR C dX9_isAlive_10 fl_X9_69 hS.1 rfl (tX9_dies hS).1 ?_
    refine ww_iload_n C dX9_isAlive_13 2 rfl rfl ?_
    obtain ⟨hg, H⟩ := gd_of H
    refine wk_iaload C dX9_isAlive_14 (tX9_dies hS).2.1 (vp_of hg (tX9_dies hS).2.2) (a2.toNatClampNeg) rfl ?_
    refine ww_aload_n C dX9_isAlive_15 0 rfl rfl ?_
    refine wk_getI C dX9_isAlive_16 fl_X9_424 hS.1 rfl ?_
    refine ww_aload_n C dX9_isAlive_19 0 rfl rfl ?_
    refine wk_getI C dX9_isAlive_20 fl_X9_523 hS.1 rfl ?_
    refine ww_iadd C dX9_isAlive_23 ?_
    refine ww_icmp_le C dX9_isAlive_24 31 rfl (fun hc => ?_) (fun hc => ?_)
    · rw [if_pos hc] at H
      refine ww_iconst (v := (0 : Int32)) C dX9_isAlive_31 (by decide) ?_
      cases H
      exact ww_zret C E dX9_isAlive_32 (Or.inl rfl) ⟨rfl, rfl⟩
    · rw [if_neg hc] at H
      refine ww_iconst (v := (1 : Int32)) C dX9_isAlive_27 (by decide) ?_
      refine ww_goto C dX9_isAlive_28 32 rfl ?_
      cases H
      exact ww_zret C E dX9_isAlive_32 (Or.inr rfl) ⟨rfl, rfl⟩
def fX9_planSeat_68 (m : Nat) (k : HI → Option (HI)) (kb : HI → Int32 → Int32 → Int32 → Option (HI)) (h : HI) (v1 : Int32) (v2 : Int32) (v3 : Int32) : Option (HI) := kb h v1 v2 (v3 + (1 : Int32))
set_option maxRecDepth 100000 in
set_option maxHeartbeats 4000000 in
theorem cX9_planSeat_68 {X : CT} {sh : Sh} {adr : Nat → Nat} {r : Nat → Nat → Option Nat} {m : Nat} {p : HI} (hS : MS sh r m) (C : CX X yX9_planSeat.cls cX9_planSeat 4 4) (hZ : SZX X adr) (E : RX X none sh adr (fun v τ => v = none ∧ τ = mk p r)) {k : HI → Option (HI)} {kb : HI → Int32 → Int32 → Int32 → Option (HI)} (hk : ∀ (h : HI), k h = some p → WW X (sh, adr, 0, 0) 74 [.ref m, .retAddr 0, .retAddr 0, .retAddr 0] [] (mk h r)) (hb : ∀ (h : HI) (v1 : Int32) (v2 : Int32) (v3 : Int32), kb h v1 v2 v3 = some p → WW X (sh, adr, 0, 0) 7 [.ref m, .int v1, .int v2, .int v3] [] (mk h r)) {h : HI} {v1 : Int32} {v2 : Int32} {v3 : Int32} (H : fX9_planSeat_68 m k kb h v1 v2 v3 = some p) : WW X (sh, adr, 0, 0) 68 [.ref m, .int v1, .int v2, .int v3] [] (mk h r) := by
  rw [fX9_planSeat_68] at H
  refine ww_iinc (v := (v3 + (1 : Int32))) C dX9_planSeat_68 rfl rfl (by decide) rfl [.ref m, .int v1, .int v2, .int (v3 + (1 : Int32))] rfl ?_
  refine ww_goto C dX9_planSeat_71 7 rfl ?_
  exact hb h v1 v2 (v3 + (1 : Int32)) H
def fX9_planSeat_7 (m : Nat) (k : HI → Option (HI)) : Nat → HI → Int32 → Int32 → Int32 → Option (HI)
  | 0, _, _, _, _ => none
  | n + 1, h, v1, v2, v3 => ((fX9_men m h).bind fun p1 => (if p1.1 ≤ v3 then k p1.2 else (if ((v2 >>> (v3 &&& 31)) &&& (1 : Int32)) = (1 : Int32) then ((fX9_come m p1.2 (v1 ^^^ ((1 : Int32) <<< (v3 &&& 31)))).bind fun h4 => fX9_planSeat_68 m (k) (fX9_planSeat_7 m k n) h4 v1 v2 v3) else (if (((p1.2.1 m 66) >>> (v3 &&& 31)) &&& (1 : Int32)) = (1 : Int32) then ((fX9_ones p1.2 v2).bind fun p2 => (if (p2.2.1 m 67) ≤ p2.1 then fX9_planSeat_68 m (k) (fX9_planSeat_7 m k n) p2.2 v1 v2 v3 else ((fX9_come m p2.2 (v1 ||| ((1 : Int32) <<< (v3 &&& 31)))).bind fun h3 => fX9_planSeat_68 m (k) (fX9_planSeat_7 m k n) h3 v1 v2 v3))) else fX9_planSeat_68 m (k) (fX9_planSeat_7 m k n) p1.2 v1 v2 v3))))
set_option maxRecDepth 100000 in
set_option maxHeartbeats 4000000 in
theorem cX9_planSeat_7 {X : CT} {sh : Sh} {adr : Nat → Nat} {r : Nat → Nat → Option Nat} {m : Nat} {p : HI} (hS : MS sh r m) (C : CX X yX9_planSeat.cls cX9_planSeat 4 4) (hZ : SZX X adr) (E : RX X none sh adr (fun v τ => v = none ∧ τ = mk p r)) {k : HI → Option (HI)} (hk : ∀ (h : HI), k h = some p → WW X (sh, adr, 0, 0) 74 [.ref m, .retAddr 0, .retAddr 0, .retAddr 0] [] (mk h r)) : ∀ (n : Nat) (h : HI) (v1 : Int32) (v2 : Int32) (v3 : Int32), fX9_planSeat_7 m k n h v1 v2 v3 = some p → WW X (sh, adr, 0, 0) 7 [.ref m, .int v1, .int v2, .int v3] [] (mk h r) := by
  intro n
  induction n with
  | zero =>
    intro h v1 v2 v3 H
    rw [fX9_planSeat_7] at H
    cases H
  | succ n ih =>
    intro h v1 v2 v3 H
    rw [fX9_planSeat_7] at H
    refine ww_iload_n C dX9_planSeat_7 3 rfl rfl ?_
    refine ww_aload_n C dX9_planSeat_8 0 rfl rfl ?_
    obtain ⟨p1, hc1, H⟩ := bd_of H
    refine ww_callV C hZ dX9_planSeat_9 cw_X9_417 (ccX9_men hS hc1) hS.1 ⟨by decide, rfl⟩ (by decide) rfl rfl (Nat.le_of_ble_eq_true rfl) ⟨Nat.zero_le _, Nat.zero_le _⟩ (fun v τ hp => ?_)
    obtain ⟨rfl, rfl⟩ := hp
    change WW X _ 12 [.ref m, .int v1, .int v2, .int v3] [.int p1.1, .int v3] _
    refine ww_icmp_ge C dX9_planSeat_12 74 rfl (fun hc => ?_) (fun hc => ?_)
    · rw [if_pos hc] at H
      exact ww_drop [.ref m, .retAddr 0, .retAddr 0, .retAddr 0] (sl_e (sl_d (sl_d (sl_d sl_n)))) (hk p1.2 H)
    · rw [if_neg hc] at H
      refine ww_iload_n C dX9_planSeat_15 2 rfl rfl ?_
      refine ww_iload_n C dX9_planSeat_16 3 rfl rfl ?_
      refine ww_ishr C dX9_planSeat_17 ?_
      refine ww_iconst (v := (1 : Int32)) C dX9_planSeat_18 (by decide) ?_
      refine ww_iand C dX9_planSeat_19 ?_
      refine ww_iconst (v := (1 : Int32)) C dX9_planSeat_20 (by decide) ?_
      refine ww_icmp_ne C dX9_planSeat_21 36 rfl (fun hc => ?_) (fun hc => ?_)
      · rw [if_neg hc] at H
        refine ww_aload_n C dX9_planSeat_36 0 rfl rfl ?_
        refine wk_getI C dX9_planSeat_37 fl_X9_532 hS.1 rfl ?_
        refine ww_iload_n C dX9_planSeat_40 3 rfl rfl ?_
        refine ww_ishr C dX9_planSeat_41 ?_
        refine ww_iconst (v := (1 : Int32)) C dX9_planSeat_42 (by decide) ?_
        refine ww_iand C dX9_planSeat_43 ?_
        refine ww_iconst (v := (1 : Int32)) C dX9_planSeat_44 (by decide) ?_
        refine ww_icmp_ne C dX9_planSeat_45 68 rfl (fun hc => ?_) (fun hc => ?_)
        · rw [if_neg hc] at H
          exact cX9_planSeat_68 hS C hZ E hk ih H
        · rw [if_pos hc] at H
          refine ww_iload_n C dX9_planSeat_48 2 rfl rfl ?_
          obtain ⟨p2, hc1, H⟩ := bd_of H
          refine ww_callS C hZ dX9_planSeat_49 sw_X9_442 (ccX9_ones hc1) (by decide) rfl rfl (Nat.le_of_ble_eq_true rfl) ⟨Nat.zero_le _, Nat.zero_le _⟩ (fun v τ hp => ?_)
          obtain ⟨rfl, rfl⟩ := hp
          change WW X _ 52 [.ref m, .int v1, .int v2, .int v3] [.int p2.1] _
          refine ww_aload_n C dX9_planSeat_52 0 rfl rfl ?_
          refine wk_getI C dX9_planSeat_53 fl_X9_535 hS.1 rfl ?_
          refine ww_icmp_ge C dX9_planSeat_56 68 rfl (fun hc => ?_) (fun hc => ?_)
          · rw [if_pos hc] at H
            exact cX9_planSeat_68 hS C hZ E hk ih H
          · rw [if_neg hc] at H
            refine ww_aload_n C dX9_planSeat_59 0 rfl rfl ?_
            refine ww_iload_n C dX9_planSeat_60 1 rfl rfl ?_
            refine ww_iconst (v := (1 : Int32)) C dX9_planSeat_61 (by decide) ?_
            refine ww_iload_n C dX9_planSeat_62 3 rfl rfl ?_
            refine ww_ishl C dX9_planSeat_63 ?_
            refine ww_ior C dX9_planSeat_64 ?_
            obtain ⟨h3, hc1, H⟩ := bd_of H
            refine ww_callV C hZ dX9_planSeat_65 cw_X9_529 (ccX9_come hS hc1) hS.1 ⟨by decide, rfl⟩ (by decide) rfl rfl (Nat.le_of_ble_eq_true rfl) ⟨Nat.zero_le _, Nat.zero_le _⟩ (fun v τ hp => ?_)
            obtain ⟨rfl, rfl⟩ := hp
            change WW X _ 68 [.ref m, .int v1, .int v2, .int v3] [] _
            exact cX9_planSeat_68 hS C hZ E hk ih H
      · rw [if_pos hc] at H
        refine ww_aload_n C dX9_planSeat_24 0 rfl rfl ?_
        refine ww_iload_n C dX9_planSeat_25 1 rfl rfl ?_
        refine ww_iconst (v := (1 : Int32)) C dX9_planSeat_26 (by decide) ?_
        refine ww_iload_n C dX9_planSeat_27 3 rfl rfl ?_
        refine ww_ishl C dX9_planSeat_28 ?_
        refine ww_ixor C dX9_planSeat_29 ?_
        obtain ⟨h4, hc1, H⟩ := bd_of H
        refine ww_callV C hZ dX9_planSeat_30 cw_X9_529 (ccX9_come hS hc1) hS.1 ⟨by decide, rfl⟩ (by decide) rfl rfl (Nat.le_of_ble_eq_true rfl) ⟨Nat.zero_le _, Nat.zero_le _⟩ (fun v τ hp => ?_)
        obtain ⟨rfl, rfl⟩ := hp
        change WW X _ 33 [.ref m, .int v1, .int v2, .int v3] [] _
        refine ww_goto C dX9_planSeat_33 68 rfl ?_
        exact cX9_planSeat_68 hS C hZ E hk ih H
def fX9_planSeat (m : Nat) (h : HI) (a1 : Int32) : Option (HI) := fX9_planSeat_7 m (fun h6 => some h6) FU h a1 (a1 &&& (63 : Int32)) (0 : Int32)
set_option maxRecDepth 100000 in
set_option maxHeartbeats 4000000 in
theorem ccX9_planSeat {l : Launch} {sh : Sh} {adr : Nat → Nat} {r : Nat → Nat → Option Nat} {m : Nat} (hS : MS sh r m) {h : HI} {a1 : Int32} {p : HI} (H : fX9_planSeat m h a1 = some p) : CC l yX9_planSeat cX9_planSeat 4 none 4 [.ref m, .int a1] sh adr (mk h r) (fun v τ => v = none ∧ τ = mk p r) := by
  refine CC.of (by decide) (Nat.le_of_ble_eq_true rfl) 2 [.ref m, .int a1, .retAddr 0, .retAddr 0] rfl (fun X _ C E hZ => ?_)
  rw [fX9_planSeat] at H
  refine ww_iload_n C dX9_planSeat_0 1 rfl rfl ?_
  refine ww_bipush (v := (63 : Int32)) C dX9_planSeat_1 (by decide) ?_
  refine ww_iand C dX9_planSeat_3 ?_
  refine ww_istore_n C dX9_planSeat_4 2 rfl (by decide) rfl [.ref m, .int a1, .int (a1 &&& (63 : Int32)), .retAddr 0] rfl ?_
  refine ww_iconst (v := (0 : Int32)) C dX9_planSeat_5 (by decide) ?_
  refine ww_istore_n C dX9_planSeat_6 3 rfl (by decide) rfl [.ref m, .int a1, .int (a1 &&& (63 : Int32)), .int (0 : Int32)] rfl ?_
  refine cX9_planSeat_7 hS C hZ E (fun h6 H => ?_) FU h a1 (a1 &&& (63 : Int32)) (0 : Int32) H
  cases H
  exact ww_vret C E dX9_planSeat_74 ⟨rfl, rfl⟩
def fX9_dueBy_53 (m : Nat) (k : HI → Int32 → Option (Int32 × HI)) (kb : HI → Int32 → Int32 → Int32 → Int32 → Option (Int32 × HI)) (h : HI) (v1 : Int32) (v2 : Int32) (v4 : Int32) (s0 : Int32) (s1 : Int32) : Option (Int32 × HI) := kb h v1 v2 (s1 ||| s0) (v4 + (1 : Int32))
set_option maxRecDepth 100000 in
set_option maxHeartbeats 4000000 in
theorem cX9_dueBy_53 {X : CT} {sh : Sh} {adr : Nat → Nat} {r : Nat → Nat → Option Nat} {m : Nat} {p : Int32 × HI} (hS : MS sh r m) (C : CX X yX9_dueBy.cls cX9_dueBy 5 0) (hZ : SZX X adr) (E : RX X (some .int) sh adr (fun v τ => v = some (.int p.1) ∧ τ = mk p.2 r)) {k : HI → Int32 → Option (Int32 × HI)} {kb : HI → Int32 → Int32 → Int32 → Int32 → Option (Int32 × HI)} (hk : ∀ (h : HI) (v3 : Int32), k h v3 = some p → WW X (sh, adr, 0, 0) 61 [.ref m, .retAddr 0, .retAddr 0, .int v3, .retAddr 0] [] (mk h r)) (hb : ∀ (h : HI) (v1 : Int32) (v2 : Int32) (v3 : Int32) (v4 : Int32), kb h v1 v2 v3 v4 = some p → WW X (sh, adr, 0, 0) 5 [.ref m, .int v1, .int v2, .int v3, .int v4] [] (mk h r)) {h : HI} {v1 : Int32} {v2 : Int32} {v4 : Int32} {s0 : Int32} {s1 : Int32} (H : fX9_dueBy_53 m k kb h v1 v2 v4 s0 s1 = some p) : WW X (sh, adr, 0, 0) 53 [.ref m, .int v1, .int v2, .retAddr 0, .int v4] [.int s0, .int s1] (mk h r) := by
  rw [fX9_dueBy_53] at H
  refine ww_ior C dX9_dueBy_53 ?_
  refine ww_istore_n C dX9_dueBy_54 3 rfl (by decide) rfl [.ref m, .int v1, .int v2, .int (s1 ||| s0), .int v4] rfl ?_
  refine ww_iinc (v := (v4 + (1 : Int32))) C dX9_dueBy_55 rfl rfl (by decide) rfl [.ref m, .int v1, .int v2, .int (s1 ||| s0), .int (v4 + (1 : Int32))] rfl ?_
  refine ww_goto C dX9_dueBy_58 5 rfl ?_
  exact hb h v1 v2 (s1 ||| s0) (v4 + (1 : Int32)) H
def fX9_dueBy_52 (m : Nat) (k : HI → Int32 → Option (Int32 × HI)) (kb : HI → Int32 → Int32 → Int32 → Int32 → Option (Int32 × HI)) (h : HI) (v1 : Int32) (v2 : Int32) (v4 : Int32) (s0 : Int32) : Option (Int32 × HI) := fX9_dueBy_53 m k kb h v1 v2 v4 (0 : Int32) s0
set_option maxRecDepth 100000 in
set_option maxHeartbeats 4000000 in
theorem cX9_dueBy_52 {X : CT} {sh : Sh} {adr : Nat → Nat} {r : Nat → Nat → Option Nat} {m : Nat} {p : Int32 × HI} (hS : MS sh r m) (C : CX X yX9_dueBy.cls cX9_dueBy 5 0) (hZ : SZX X adr) (E : RX X (some .int) sh adr (fun v τ => v = some (.int p.1) ∧ τ = mk p.2 r)) {k : HI → Int32 → Option (Int32 × HI)} {kb : HI → Int32 → Int32 → Int32 → Int32 → Option (Int32 × HI)} (hk : ∀ (h : HI) (v3 : Int32), k h v3 = some p → WW X (sh, adr, 0, 0) 61 [.ref m, .retAddr 0, .retAddr 0, .int v3, .retAddr 0] [] (mk h r)) (hb : ∀ (h : HI) (v1 : Int32) (v2 : Int32) (v3 : Int32) (v4 : Int32), kb h v1 v2 v3 v4 = some p → WW X (sh, adr, 0, 0) 5 [.ref m, .int v1, .int v2, .int v3, .int v4] [] (mk h r)) {h : HI} {v1 : Int32} {v2 : Int32} {v4 : Int32} {s0 : Int32} (H : fX9_dueBy_52 m k kb h v1 v2 v4 s0 = some p) : WW X (sh, adr, 0, 0) 52 [.ref m, .int v1, .int v2, .retAddr 0, .int v4] [.int s0] (mk h r) := by
  rw [fX9_dueBy_52] at H
  refine ww_iconst (v := (0 : Int32)) C dX9_dueBy_52 (by decide) ?_
  exact cX9_dueBy_53 hS C hZ E hk hb H
def fX9_dueBy_5 (m : Nat) (k : HI → Int32 → Option (Int32 × HI)) : Nat → HI → Int32 → Int32 → Int32 → Int32 → Option (Int32 × HI)
  | 0, _, _, _, _, _ => none
  | n + 1, h, v1, v2, v3, v4 => (if (h.1 m 45) ≤ v4 then k h v3 else (if inB (((4 : Int32) * v4) + (2 : Int32)) 16 then (if (h.1 (m + 21) ((((4 : Int32) * v4) + (2 : Int32)).toNatClampNeg)) = v1 then (if inB (((4 : Int32) * v4) + (3 : Int32)) 16 then (if (h.1 (m + 21) ((((4 : Int32) * v4) + (3 : Int32)).toNatClampNeg)) = v2 then fX9_dueBy_53 m (k) (fX9_dueBy_5 m k n) h v1 v2 v4 ((1 : Int32) <<< (v4 &&& 31)) v3 else fX9_dueBy_52 m (k) (fX9_dueBy_5 m k n) h v1 v2 v4 v3) else none) else fX9_dueBy_52 m (k) (fX9_dueBy_5 m k n) h v1 v2 v4 v3) else none))
set_option maxRecDepth 100000 in
set_option maxHeartbeats 4000000 in
theorem cX9_dueBy_5 {X : CT} {sh : Sh} {adr : Nat → Nat} {r : Nat → Nat → Option Nat} {m : Nat} {p : Int32 × HI} (hS : MS sh r m) (C : CX X yX9_dueBy.cls cX9_dueBy 5 0) (hZ : SZX X adr) (E : RX X (some .int) sh adr (fun v τ => v = some (.int p.1) ∧ τ = mk p.2 r)) {k : HI → Int32 → Option (Int32 × HI)} (hk : ∀ (h : HI) (v3 : Int32), k h v3 = some p → WW X (sh, adr, 0, 0) 61 [.ref m, .retAddr 0, .retAddr 0, .int v3, .retAddr 0] [] (mk h r)) : ∀ (n : Nat) (h : HI) (v1 : Int32) (v2 : Int32) (v3 : Int32) (v4 : Int32), fX9_dueBy_5 m k n h v1 v2 v3 v4 = some p → WW X (sh, adr, 0, 0) 5 [.ref m, .int v1, .int v2, .int v3, .int v4] [] (mk h r) := by
  intro n
  induction n with
  | zero =>
    intro h v1 v2 v3 v4 H
    rw [fX9_dueBy_5] at H
    cases H
  | succ n ih =>
    intro h v1 v2 v3 v4 H
    rw [fX9_dueBy_5] at H
    refine ww_iload C dX9_dueBy_5 rfl ?_
    refine ww_aload_n C dX9_dueBy_7 0 rfl rfl ?_
    refine wk_getI C dX9_dueBy_8 fl_X9_398 hS.1 rfl ?_
    refine ww_icmp_ge C dX9_dueBy_11 61 rfl (fun hc => ?_) (fun hc => ?_)
    · rw [if_pos hc] at H
      exact ww_drop [.ref m, .retAddr 0, .retAddr 0, .int v3, .retAddr 0] (sl_e (sl_d (sl_d (sl_e (sl_d sl_n))))) (hk h v3 H)
    · rw [if_neg hc] at H
      refine ww_iload_n C dX9_dueBy_14 3 rfl rfl ?_
      refine ww_aload_n C dX9_dueBy_15 0 rfl rfl ?_
      refine wk_getR C dX9_dueBy_16 fl_X9_75 hS.1 rfl (tX9_deal hS).1 ?_
      refine ww_iconst (v := (4 : Int32)) C dX9_dueBy_19 (by decide) ?_
      refine ww_iload C dX9_dueBy_20 rfl ?_
      refine ww_imul C dX9_dueBy_22 ?_
      refine ww_iconst (v := (2 : Int32)) C dX9_dueBy_23 (by decide) ?_
      refine ww_iadd C dX9_dueBy_24 ?_
      obtain ⟨hg, H⟩ := gd_of H
      refine wk_iaload C dX9_dueBy_25 (tX9_deal hS).2.1 (vp_of hg (tX9_deal hS).2.2) ((((4 : Int32) * v4) + (2 : Int32)).toNatClampNeg) rfl ?_
      refine ww_iload_n C dX9_dueBy_26 1 rfl rfl ?_
      refine ww_icmp_ne C dX9_dueBy_27 52 rfl (fun hc => ?_) (fun hc => ?_)
      · rw [if_neg hc] at H
        exact ww_drop [.ref m, .int v1, .int v2, .retAddr 0, .int v4] (sl_e (sl_e (sl_e (sl_d (sl_e sl_n))))) (cX9_dueBy_52 hS C hZ E hk ih H)
      · rw [if_pos hc] at H
        refine ww_aload_n C dX9_dueBy_30 0 rfl rfl ?_
        refine wk_getR C dX9_dueBy_31 fl_X9_75 hS.1 rfl (tX9_deal hS).1 ?_
        refine ww_iconst (v := (4 : Int32)) C dX9_dueBy_34 (by decide) ?_
        refine ww_iload C dX9_dueBy_35 rfl ?_
        refine ww_imul C dX9_dueBy_37 ?_
        refine ww_iconst (v := (3 : Int32)) C dX9_dueBy_38 (by decide) ?_
        refine ww_iadd C dX9_dueBy_39 ?_
        obtain ⟨hg, H⟩ := gd_of H
        refine wk_iaload C dX9_dueBy_40 (tX9_deal hS).2.1 (vp_of hg (tX9_deal hS).2.2) ((((4 : Int32) * v4) + (3 : Int32)).toNatClampNeg) rfl ?_
        refine ww_iload_n C dX9_dueBy_41 2 rfl rfl ?_
        refine ww_icmp_ne C dX9_dueBy_42 52 rfl (fun hc => ?_) (fun hc => ?_)
        · rw [if_neg hc] at H
          exact ww_drop [.ref m, .int v1, .int v2, .retAddr 0, .int v4] (sl_e (sl_e (sl_e (sl_d (sl_e sl_n))))) (cX9_dueBy_52 hS C hZ E hk ih H)
        · rw [if_pos hc] at H
          refine ww_iconst (v := (1 : Int32)) C dX9_dueBy_45 (by decide) ?_
          refine ww_iload C dX9_dueBy_46 rfl ?_
          refine ww_ishl C dX9_dueBy_48 ?_
          refine ww_goto C dX9_dueBy_49 53 rfl ?_
          exact ww_drop [.ref m, .int v1, .int v2, .retAddr 0, .int v4] (sl_e (sl_e (sl_e (sl_d (sl_e sl_n))))) (cX9_dueBy_53 hS C hZ E hk ih H)
def fX9_dueBy (m : Nat) (h : HI) (a1 : Int32) (a2 : Int32) : Option (Int32 × HI) := fX9_dueBy_5 m (fun h2 v3 => some (v3, h2)) FU h a1 a2 (0 : Int32) (0 : Int32)
set_option maxRecDepth 100000 in
set_option maxHeartbeats 4000000 in
theorem ccX9_dueBy {l : Launch} {sh : Sh} {adr : Nat → Nat} {r : Nat → Nat → Option Nat} {m : Nat} (hS : MS sh r m) {h : HI} {a1 : Int32} {a2 : Int32} {p : Int32 × HI} (H : fX9_dueBy m h a1 a2 = some p) : CC l yX9_dueBy cX9_dueBy 5 (some .int) 0 [.ref m, .int a1, .int a2] sh adr (mk h r) (fun v τ => v = some (.int p.1) ∧ τ = mk p.2 r) := by
  refine CC.of (by decide) (Nat.le_of_ble_eq_true rfl) 2 [.ref m, .int a1, .int a2, .retAddr 0, .retAddr 0] rfl (fun X _ C E hZ => ?_)
  rw [fX9_dueBy] at H
  refine ww_iconst (v := (0 : Int32)) C dX9_dueBy_0 (by decide) ?_
  refine ww_istore_n C dX9_dueBy_1 3 rfl (by decide) rfl [.ref m, .int a1, .int a2, .int (0 : Int32), .retAddr 0] rfl ?_
  refine ww_iconst (v := (0 : Int32)) C dX9_dueBy_2 (by decide) ?_
  refine ww_istore C dX9_dueBy_3 (by decide) rfl [.ref m, .int a1, .int a2, .int (0 : Int32), .int (0 : Int32)] rfl ?_
  refine cX9_dueBy_5 hS C hZ E (fun h2 v3 H => ?_) FU h a1 a2 (0 : Int32) (0 : Int32) H
  refine ww_iload_n C dX9_dueBy_61 3 rfl rfl ?_
  cases H
  exact ww_iret C E dX9_dueBy_62 ⟨rfl, rfl⟩
def fX9_planMatter_74 (m : Nat) (k : HI → Int32 → Int32 → Int32 → Int32 → Option (HI)) (kb : HI → Int32 → Int32 → Int32 → Int32 → Int32 → Option (HI)) (h : HI) (v1 : Int32) (v2 : Int32) (v3 : Int32) (v4 : Int32) (v5 : Int32) : Option (HI) := kb h v1 v2 v3 v4 (v5 + (1 : Int32))
set_option maxRecDepth 100000 in
set_option maxHeartbeats 4000000 in
theorem cX9_planMatter_74 {X : CT} {sh : Sh} {adr : Nat → Nat} {r : Nat → Nat → Option Nat} {m : Nat} {p : HI} (hS : MS sh r m) (C : CX X yX9_planMatter.cls cX9_planMatter 7 4) (hZ : SZX X adr) (E : RX X none sh adr (fun v τ => v = none ∧ τ = mk p r)) {k : HI → Int32 → Int32 → Int32 → Int32 → Option (HI)} {kb : HI → Int32 → Int32 → Int32 → Int32 → Int32 → Option (HI)} (hk : ∀ (h : HI) (v1 : Int32) (v2 : Int32) (v3 : Int32) (v4 : Int32), k h v1 v2 v3 v4 = some p → WW X (sh, adr, 0, 0) 80 [.ref m, .int v1, .int v2, .int v3, .int v4, .retAddr 0, .retAddr 0] [] (mk h r)) (hb : ∀ (h : HI) (v1 : Int32) (v2 : Int32) (v3 : Int32) (v4 : Int32) (v5 : Int32), kb h v1 v2 v3 v4 v5 = some p → WW X (sh, adr, 0, 0) 22 [.ref m, .int v1, .int v2, .int v3, .int v4, .int v5, .retAddr 0] [] (mk h r)) {h : HI} {v1 : Int32} {v2 : Int32} {v3 : Int32} {v4 : Int32} {v5 : Int32} (H : fX9_planMatter_74 m k kb h v1 v2 v3 v4 v5 = some p) : WW X (sh, adr, 0, 0) 74 [.ref m, .int v1, .int v2, .int v3, .int v4, .int v5, .retAddr 0] [] (mk h r) := by
  rw [fX9_planMatter_74] at H
  refine ww_iinc (v := (v5 + (1 : Int32))) C dX9_planMatter_74 rfl rfl (by decide) rfl [.ref m, .int v1, .int v2, .int v3, .int v4, .int (v5 + (1 : Int32)), .retAddr 0] rfl ?_
  refine ww_goto C dX9_planMatter_77 22 rfl ?_
  exact hb h v1 v2 v3 v4 (v5 + (1 : Int32)) H
def fX9_planMatter_22 (m : Nat) (k : HI → Int32 → Int32 → Int32 → Int32 → Option (HI)) : Nat → HI → Int32 → Int32 → Int32 → Int32 → Int32 → Option (HI)
  | 0, _, _, _, _, _, _ => none
  | n + 1, h, v1, v2, v3, v4, v5 => ((fX9_men m h).bind fun p1 => (if p1.1 ≤ v5 then k p1.2 v1 v2 v3 v4 else (if ((((p1.2.1 m 66) &&& (v4 ^^^ (-1 : Int32))) >>> (v5 &&& 31)) &&& (1 : Int32)) = (1 : Int32) then ((fX9_dueBy m p1.2 v5 v2).bind fun p2 => ((fX9_come m p2.2 ((v3 ||| ((1 : Int32) <<< (((6 : Int32) + ((2 : Int32) * v2)) &&& 31))) ||| (p2.1 <<< ((14 : Int32) &&& 31)))).bind fun h3 => fX9_planMatter_74 m (k) (fX9_planMatter_22 m k n) h3 v1 v2 v3 v4 v5)) else fX9_planMatter_74 m (k) (fX9_planMatter_22 m k n) p1.2 v1 v2 v3 v4 v5)))
set_option maxRecDepth 100000 in
set_option maxHeartbeats 4000000 in
theorem cX9_planMatter_22 {X : CT} {sh : Sh} {adr : Nat → Nat} {r : Nat → Nat → Option Nat} {m : Nat} {p : HI} (hS : MS sh r m) (C : CX X yX9_planMatter.cls cX9_planMatter 7 4) (hZ : SZX X adr) (E : RX X none sh adr (fun v τ => v = none ∧ τ = mk p r)) {k : HI → Int32 → Int32 → Int32 → Int32 → Option (HI)} (hk : ∀ (h : HI) (v1 : Int32) (v2 : Int32) (v3 : Int32) (v4 : Int32), k h v1 v2 v3 v4 = some p → WW X (sh, adr, 0, 0) 80 [.ref m, .int v1, .int v2, .int v3, .int v4, .retAddr 0, .retAddr 0] [] (mk h r)) : ∀ (n : Nat) (h : HI) (v1 : Int32) (v2 : Int32) (v3 : Int32) (v4 : Int32) (v5 : Int32), fX9_planMatter_22 m k n h v1 v2 v3 v4 v5 = some p → WW X (sh, adr, 0, 0) 22 [.ref m, .int v1, .int v2, .int v3, .int v4, .int v5, .retAddr 0] [] (mk h r) := by
  intro n
  induction n with
  | zero =>
    intro h v1 v2 v3 v4 v5 H
    rw [fX9_planMatter_22] at H
    cases H
  | succ n ih =>
    intro h v1 v2 v3 v4 v5 H
    rw [fX9_planMatter_22] at H
    refine ww_iload C dX9_planMatter_22 rfl ?_
    refine ww_aload_n C dX9_planMatter_24 0 rfl rfl ?_
    obtain ⟨p1, hc1, H⟩ := bd_of H
    refine ww_callV C hZ dX9_planMatter_25 cw_X9_417 (ccX9_men hS hc1) hS.1 ⟨by decide, rfl⟩ (by decide) rfl rfl (Nat.le_of_ble_eq_true rfl) ⟨Nat.zero_le _, Nat.zero_le _⟩ (fun v τ hp => ?_)
    obtain ⟨rfl, rfl⟩ := hp
    change WW X _ 28 [.ref m, .int v1, .int v2, .int v3, .int v4, .int v5, .retAddr 0] [.int p1.1, .int v5] _
    refine ww_icmp_ge C dX9_planMatter_28 80 rfl (fun hc => ?_) (fun hc => ?_)
    · rw [if_pos hc] at H
      exact ww_drop [.ref m, .int v1, .int v2, .int v3, .int v4, .retAddr 0, .retAddr 0] (sl_e (sl_e (sl_e (sl_e (sl_e (sl_d (sl_e sl_n))))))) (hk p1.2 v1 v2 v3 v4 H)
    · rw [if_neg hc] at H
      refine ww_aload_n C dX9_planMatter_31 0 rfl rfl ?_
      refine wk_getI C dX9_planMatter_32 fl_X9_532 hS.1 rfl ?_
      refine ww_iload C dX9_planMatter_35 rfl ?_
      refine ww_iconst (v := (-1 : Int32)) C dX9_planMatter_37 (by decide) ?_
      refine ww_ixor C dX9_planMatter_38 ?_
      refine ww_iand C dX9_planMatter_39 ?_
      refine ww_iload C dX9_planMatter_40 rfl ?_
      refine ww_ishr C dX9_planMatter_42 ?_
      refine ww_iconst (v := (1 : Int32)) C dX9_planMatter_43 (by decide) ?_
      refine ww_iand C dX9_planMatter_44 ?_
      refine ww_iconst (v := (1 : Int32)) C dX9_planMatter_45 (by decide) ?_
      refine ww_icmp_ne C dX9_planMatter_46 74 rfl (fun hc => ?_) (fun hc => ?_)
      · rw [if_neg hc] at H
        exact cX9_planMatter_74 hS C hZ E hk ih H
      · rw [if_pos hc] at H
        refine ww_aload_n C dX9_planMatter_49 0 rfl rfl ?_
        refine ww_iload_n C dX9_planMatter_50 3 rfl rfl ?_
        refine ww_iconst (v := (1 : Int32)) C dX9_planMatter_51 (by decide) ?_
        refine ww_bipush (v := (6 : Int32)) C dX9_planMatter_52 (by decide) ?_
        refine ww_iconst (v := (2 : Int32)) C dX9_planMatter_54 (by decide) ?_
        refine ww_iload_n C dX9_planMatter_55 2 rfl rfl ?_
        refine ww_imul C dX9_planMatter_56 ?_
        refine ww_iadd C dX9_planMatter_57 ?_
        refine ww_ishl C dX9_planMatter_58 ?_
        refine ww_ior C dX9_planMatter_59 ?_
        refine ww_aload_n C dX9_planMatter_60 0 rfl rfl ?_
        refine ww_iload C dX9_planMatter_61 rfl ?_
        refine ww_iload_n C dX9_planMatter_63 2 rfl rfl ?_
        obtain ⟨p2, hc1, H⟩ := bd_of H
        refine ww_callV C hZ dX9_planMatter_64 cw_X9_538 (ccX9_dueBy hS hc1) hS.1 ⟨by decide, rfl⟩ (by decide) rfl rfl (Nat.le_of_ble_eq_true rfl) ⟨Nat.zero_le _, Nat.zero_le _⟩ (fun v τ hp => ?_)
        obtain ⟨rfl, rfl⟩ := hp
        change WW X _ 67 [.ref m, .int v1, .int v2, .int v3, .int v4, .int v5, .retAddr 0] [.int p2.1, .int (v3 ||| ((1 : Int32) <<< (((6 : Int32) + ((2 : Int32) * v2)) &&& 31))), .ref m] _
        refine ww_bipush (v := (14 : Int32)) C dX9_planMatter_67 (by decide) ?_
        refine ww_ishl C dX9_planMatter_69 ?_
        refine ww_ior C dX9_planMatter_70 ?_
        obtain ⟨h3, hc1, H⟩ := bd_of H
        refine ww_callV C hZ dX9_planMatter_71 cw_X9_529 (ccX9_come hS hc1) hS.1 ⟨by decide, rfl⟩ (by decide) rfl rfl (Nat.le_of_ble_eq_true rfl) ⟨Nat.zero_le _, Nat.zero_le _⟩ (fun v τ hp => ?_)
        obtain ⟨rfl, rfl⟩ := hp
        change WW X _ 74 [.ref m, .int v1, .int v2, .int v3, .int v4, .int v5, .retAddr 0] [] _
        exact cX9_planMatter_74 hS C hZ E hk ih H
def fX9_planMatter_150 (m : Nat) (h : HI) (v2 : Int32) (s0 : Int32) (s1 : Int32) : Option (HI) := ((fX9_come m h (s1 ||| (s0 <<< (((6 : Int32) + ((2 : Int32) * v2)) &&& 31)))).bind fun h14 => some h14)
set_option maxRecDepth 100000 in
set_option maxHeartbeats 4000000 in
theorem cX9_planMatter_150 {X : CT} {sh : Sh} {adr : Nat → Nat} {r : Nat → Nat → Option Nat} {m : Nat} {p : HI} (hS : MS sh r m) (C : CX X yX9_planMatter.cls cX9_planMatter 7 4) (hZ : SZX X adr) (E : RX X none sh adr (fun v τ => v = none ∧ τ = mk p r)) {h : HI} {v2 : Int32} {s0 : Int32} {s1 : Int32} (H : fX9_planMatter_150 m h v2 s0 s1 = some p) : WW X (sh, adr, 0, 0) 150 [.ref m, .retAddr 0, .int v2, .retAddr 0, .retAddr 0, .retAddr 0, .retAddr 0] [.int s0, .int s1, .ref m] (mk h r) := by
  rw [fX9_planMatter_150] at H
  refine ww_bipush (v := (6 : Int32)) C dX9_planMatter_150 (by decide) ?_
  refine ww_iconst (v := (2 : Int32)) C dX9_planMatter_152 (by decide) ?_
  refine ww_iload_n C dX9_planMatter_153 2 rfl rfl ?_
  refine ww_imul C dX9_planMatter_154 ?_
  refine ww_iadd C dX9_planMatter_155 ?_
  refine ww_ishl C dX9_planMatter_156 ?_
  refine ww_ior C dX9_planMatter_157 ?_
  obtain ⟨h14, hc1, H⟩ := bd_of H
  refine ww_callV C hZ dX9_planMatter_158 cw_X9_529 (ccX9_come hS hc1) hS.1 ⟨by decide, rfl⟩ (by decide) rfl rfl (Nat.le_of_ble_eq_true rfl) ⟨Nat.zero_le _, Nat.zero_le _⟩ (fun v τ hp => ?_)
  obtain ⟨rfl, rfl⟩ := hp
  change WW X _ 161 [.ref m, .retAddr 0, .int v2, .retAddr 0, .retAddr 0, .retAddr 0, .retAddr 0] [] _
  cases H
  exact ww_vret C E dX9_planMatter_161 ⟨rfl, rfl⟩
def fX9_planMatter (m : Nat) (h : HI) (a1 : Int32) (a2 : Int32) : Option (HI) := fX9_planMatter_22 m (fun h5 v1 v2 v3 v4 => ((fX9_statusOf h5 v1 v2).bind fun p6 => (if p6.1 = (1 : Int32) then ((fX9_yesOf m p6.2 v4 v2 (v1 >>> ((14 : Int32) &&& 31))).bind fun p7 => ((fX9_ones p7.2 p7.1).bind fun p8 => ((fX9_noOf m p8.2 v4 v2 (v1 >>> ((14 : Int32) &&& 31))).bind fun p9 => ((fX9_ones p9.2 p9.1).bind fun p10 => ((fX9_ones p10.2 v4).bind fun p11 => ((fX9_ones p11.2 (p11.2.1 m 66)).bind fun p12 => ((fX9_isPassed m p12.2 p8.1 p10.1 p11.1 p12.1).bind fun p13 => (if p13.1 = 0 then fX9_planMatter_150 m p13.2 v2 (3 : Int32) v3 else fX9_planMatter_150 m p13.2 v2 (2 : Int32) v3)))))))) else some p6.2))) FU h a1 a2 (a1 &&& (((3 : Int32) <<< (((6 : Int32) + ((2 : Int32) * a2)) &&& 31)) ^^^ (-1 : Int32))) (a1 &&& (63 : Int32)) (0 : Int32)
set_option maxRecDepth 100000 in
set_option maxHeartbeats 4000000 in
theorem ccX9_planMatter {l : Launch} {sh : Sh} {adr : Nat → Nat} {r : Nat → Nat → Option Nat} {m : Nat} (hS : MS sh r m) {h : HI} {a1 : Int32} {a2 : Int32} {p : HI} (H : fX9_planMatter m h a1 a2 = some p) : CC l yX9_planMatter cX9_planMatter 7 none 4 [.ref m, .int a1, .int a2] sh adr (mk h r) (fun v τ => v = none ∧ τ = mk p r) := by
  refine CC.of (by decide) (Nat.le_of_ble_eq_true rfl) 4 [.ref m, .int a1, .int a2, .retAddr 0, .retAddr 0, .retAddr 0, .retAddr 0] rfl (fun X _ C E hZ => ?_)
  rw [fX9_planMatter] at H
  refine ww_iload_n C dX9_planMatter_0 1 rfl rfl ?_
  refine ww_iconst (v := (3 : Int32)) C dX9_planMatter_1 (by decide) ?_
  refine ww_bipush (v := (6 : Int32)) C dX9_planMatter_2 (by decide) ?_
  refine ww_iconst (v := (2 : Int32)) C dX9_planMatter_4 (by decide) ?_
  refine ww_iload_n C dX9_planMatter_5 2 rfl rfl ?_
  refine ww_imul C dX9_planMatter_6 ?_
  refine ww_iadd C dX9_planMatter_7 ?_
  refine ww_ishl C dX9_planMatter_8 ?_
  refine ww_iconst (v := (-1 : Int32)) C dX9_planMatter_9 (by decide) ?_
  refine ww_ixor C dX9_planMatter_10 ?_
  refine ww_iand C dX9_planMatter_11 ?_
  refine ww_istore_n C dX9_planMatter_12 3 rfl (by decide) rfl [.ref m, .int a1, .int a2, .int (a1 &&& (((3 : Int32) <<< (((6 : Int32) + ((2 : Int32) * a2)) &&& 31)) ^^^ (-1 : Int32))), .retAddr 0, .retAddr 0, .retAddr 0] rfl ?_
  refine ww_iload_n C dX9_planMatter_13 1 rfl rfl ?_
  refine ww_bipush (v := (63 : Int32)) C dX9_planMatter_14 (by decide) ?_
  refine ww_iand C dX9_planMatter_16 ?_
  refine ww_istore C dX9_planMatter_17 (by decide) rfl [.ref m, .int a1, .int a2, .int (a1 &&& (((3 : Int32) <<< (((6 : Int32) + ((2 : Int32) * a2)) &&& 31)) ^^^ (-1 : Int32))), .int (a1 &&& (63 : Int32)), .retAddr 0, .retAddr 0] rfl ?_
  refine ww_iconst (v := (0 : Int32)) C dX9_planMatter_19 (by decide) ?_
  refine ww_istore C dX9_planMatter_20 (by decide) rfl [.ref m, .int a1, .int a2, .int (a1 &&& (((3 : Int32) <<< (((6 : Int32) + ((2 : Int32) * a2)) &&& 31)) ^^^ (-1 : Int32))), .int (a1 &&& (63 : Int32)), .int (0 : Int32), .retAddr 0] rfl ?_
  refine cX9_planMatter_22 hS C hZ E (fun h5 v1 v2 v3 v4 H => ?_) FU h a1 a2 (a1 &&& (((3 : Int32) <<< (((6 : Int32) + ((2 : Int32) * a2)) &&& 31)) ^^^ (-1 : Int32))) (a1 &&& (63 : Int32)) (0 : Int32) H
  refine ww_iload_n C dX9_planMatter_80 1 rfl rfl ?_
  refine ww_iload_n C dX9_planMatter_81 2 rfl rfl ?_
  obtain ⟨p6, hc1, H⟩ := bd_of H
  refine ww_callS C hZ dX9_planMatter_82 sw_X9_508 (ccX9_statusOf hc1) (by decide) rfl rfl (Nat.le_of_ble_eq_true rfl) ⟨Nat.zero_le _, Nat.zero_le _⟩ (fun v τ hp => ?_)
  obtain ⟨rfl, rfl⟩ := hp
  change WW X _ 85 [.ref m, .int v1, .int v2, .int v3, .int v4, .retAddr 0, .retAddr 0] [.int p6.1] _
  refine ww_iconst (v := (1 : Int32)) C dX9_planMatter_85 (by decide) ?_
  refine ww_icmp_eq C dX9_planMatter_86 90 rfl (fun hc => ?_) (fun hc => ?_)
  · rw [if_pos hc] at H
    refine ww_iload_n C dX9_planMatter_90 1 rfl rfl ?_
    refine ww_bipush (v := (14 : Int32)) C dX9_planMatter_91 (by decide) ?_
    refine ww_ishr C dX9_planMatter_93 ?_
    refine ww_istore C dX9_planMatter_94 (by decide) rfl [.ref m, .int v1, .int v2, .int v3, .int v4, .int (v1 >>> ((14 : Int32) &&& 31)), .retAddr 0] rfl ?_
    refine ww_aload_n C dX9_planMatter_96 0 rfl rfl ?_
    refine ww_aload_n C dX9_planMatter_97 0 rfl rfl ?_
    refine ww_iload C dX9_planMatter_98 rfl ?_
    refine ww_iload_n C dX9_planMatter_100 2 rfl rfl ?_
    refine ww_iload C dX9_planMatter_101 rfl ?_
    obtain ⟨p7, hc1, H⟩ := bd_of H
    refine ww_callV C hZ dX9_planMatter_103 cw_X9_484 (ccX9_yesOf hS hc1) hS.1 ⟨by decide, rfl⟩ (by decide) rfl rfl (Nat.le_of_ble_eq_true rfl) ⟨Nat.zero_le _, Nat.zero_le _⟩ (fun v τ hp => ?_)
    obtain ⟨rfl, rfl⟩ := hp
    change WW X _ 106 [.ref m, .int v1, .int v2, .int v3, .int v4, .int (v1 >>> ((14 : Int32) &&& 31)), .retAddr 0] [.int p7.1, .ref m] _
    obtain ⟨p8, hc1, H⟩ := bd_of H
    refine ww_callS C hZ dX9_planMatter_106 sw_X9_442 (ccX9_ones hc1) (by decide) rfl rfl (Nat.le_of_ble_eq_true rfl) ⟨Nat.zero_le _, Nat.zero_le _⟩ (fun v τ hp => ?_)
    obtain ⟨rfl, rfl⟩ := hp
    change WW X _ 109 [.ref m, .int v1, .int v2, .int v3, .int v4, .int (v1 >>> ((14 : Int32) &&& 31)), .retAddr 0] [.int p8.1, .ref m] _
    refine ww_aload_n C dX9_planMatter_109 0 rfl rfl ?_
    refine ww_iload C dX9_planMatter_110 rfl ?_
    refine ww_iload_n C dX9_planMatter_112 2 rfl rfl ?_
    refine ww_iload C dX9_planMatter_113 rfl ?_
    obtain ⟨p9, hc1, H⟩ := bd_of H
    refine ww_callV C hZ dX9_planMatter_115 cw_X9_487 (ccX9_noOf hS hc1) hS.1 ⟨by decide, rfl⟩ (by decide) rfl rfl (Nat.le_of_ble_eq_true rfl) ⟨Nat.zero_le _, Nat.zero_le _⟩ (fun v τ hp => ?_)
    obtain ⟨rfl, rfl⟩ := hp
    change WW X _ 118 [.ref m, .int v1, .int v2, .int v3, .int v4, .int (v1 >>> ((14 : Int32) &&& 31)), .retAddr 0] [.int p9.1, .int p8.1, .ref m] _
    obtain ⟨p10, hc1, H⟩ := bd_of H
    refine ww_callS C hZ dX9_planMatter_118 sw_X9_442 (ccX9_ones hc1) (by decide) rfl rfl (Nat.le_of_ble_eq_true rfl) ⟨Nat.zero_le _, Nat.zero_le _⟩ (fun v τ hp => ?_)
    obtain ⟨rfl, rfl⟩ := hp
    change WW X _ 121 [.ref m, .int v1, .int v2, .int v3, .int v4, .int (v1 >>> ((14 : Int32) &&& 31)), .retAddr 0] [.int p10.1, .int p8.1, .ref m] _
    refine ww_iload C dX9_planMatter_121 rfl ?_
    obtain ⟨p11, hc1, H⟩ := bd_of H
    refine ww_callS C hZ dX9_planMatter_123 sw_X9_442 (ccX9_ones hc1) (by decide) rfl rfl (Nat.le_of_ble_eq_true rfl) ⟨Nat.zero_le _, Nat.zero_le _⟩ (fun v τ hp => ?_)
    obtain ⟨rfl, rfl⟩ := hp
    change WW X _ 126 [.ref m, .int v1, .int v2, .int v3, .int v4, .int (v1 >>> ((14 : Int32) &&& 31)), .retAddr 0] [.int p11.1, .int p10.1, .int p8.1, .ref m] _
    refine ww_aload_n C dX9_planMatter_126 0 rfl rfl ?_
    refine wk_getI C dX9_planMatter_127 fl_X9_532 hS.1 rfl ?_
    obtain ⟨p12, hc1, H⟩ := bd_of H
    refine ww_callS C hZ dX9_planMatter_130 sw_X9_442 (ccX9_ones hc1) (by decide) rfl rfl (Nat.le_of_ble_eq_true rfl) ⟨Nat.zero_le _, Nat.zero_le _⟩ (fun v τ hp => ?_)
    obtain ⟨rfl, rfl⟩ := hp
    change WW X _ 133 [.ref m, .int v1, .int v2, .int v3, .int v4, .int (v1 >>> ((14 : Int32) &&& 31)), .retAddr 0] [.int p12.1, .int p11.1, .int p10.1, .int p8.1, .ref m] _
    obtain ⟨p13, hc1, H⟩ := bd_of H
    refine ww_callV C hZ dX9_planMatter_133 cw_X9_493 (ccX9_isPassed hS hc1) hS.1 ⟨by decide, rfl⟩ (by decide) rfl rfl (Nat.le_of_ble_eq_true rfl) ⟨Nat.zero_le _, Nat.zero_le _⟩ (fun v τ hp => ?_)
    obtain ⟨rfl, rfl⟩ := hp
    change WW X _ 136 [.ref m, .int v1, .int v2, .int v3, .int v4, .int (v1 >>> ((14 : Int32) &&& 31)), .retAddr 0] [.int p13.1] _
    refine ww_istore C dX9_planMatter_136 (by decide) rfl [.ref m, .int v1, .int v2, .int v3, .int v4, .int (v1 >>> ((14 : Int32) &&& 31)), .int p13.1] rfl ?_
    refine ww_aload_n C dX9_planMatter_138 0 rfl rfl ?_
    refine ww_iload_n C dX9_planMatter_139 3 rfl rfl ?_
    refine ww_iload C dX9_planMatter_140 rfl ?_
    refine ww_if_eq C dX9_planMatter_142 149 rfl (fun hc => ?_) (fun hc => ?_)
    · rw [if_pos hc] at H
      refine ww_iconst (v := (3 : Int32)) C dX9_planMatter_149 (by decide) ?_
      exact ww_drop [.ref m, .retAddr 0, .int v2, .retAddr 0, .retAddr 0, .retAddr 0, .retAddr 0] (sl_e (sl_d (sl_e (sl_d (sl_d (sl_d (sl_d sl_n))))))) (cX9_planMatter_150 hS C hZ E H)
    · rw [if_neg hc] at H
      refine ww_iconst (v := (2 : Int32)) C dX9_planMatter_145 (by decide) ?_
      refine ww_goto C dX9_planMatter_146 150 rfl ?_
      exact ww_drop [.ref m, .retAddr 0, .int v2, .retAddr 0, .retAddr 0, .retAddr 0, .retAddr 0] (sl_e (sl_d (sl_e (sl_d (sl_d (sl_d (sl_d sl_n))))))) (cX9_planMatter_150 hS C hZ E H)
  · rw [if_neg hc] at H
    cases H
    exact ww_vret C E dX9_planMatter_89 ⟨rfl, rfl⟩
def fX9_seekBest_143 (m : Nat) (k : HI → Int32 → Int32 → Int32 → Option (Int32 × HI)) (kb : HI → Int32 → Int32 → Int32 → Int32 → Option (Int32 × HI)) (h : HI) (v1 : Int32) (v5 : Int32) (v6 : Int32) (v7 : Int32) : Option (Int32 × HI) := kb h v1 v5 v6 (v7 + (1 : Int32))
set_option maxRecDepth 100000 in
set_option maxHeartbeats 4000000 in
theorem cX9_seekBest_143 {X : CT} {sh : Sh} {adr : Nat → Nat} {r : Nat → Nat → Option Nat} {m : Nat} {p : Int32 × HI} (hS : MS sh r m) (C : CX X yX9_seekBest.cls cX9_seekBest 8 5) (hZ : SZX X adr) (E : RX X (some .int) sh adr (fun v τ => v = some (.int p.1) ∧ τ = mk p.2 r)) {k : HI → Int32 → Int32 → Int32 → Option (Int32 × HI)} {kb : HI → Int32 → Int32 → Int32 → Int32 → Option (Int32 × HI)} (hk : ∀ (h : HI) (v1 : Int32) (v5 : Int32) (v6 : Int32), k h v1 v5 v6 = some p → WW X (sh, adr, 0, 0) 149 [.ref m, .int v1, .retAddr 0, .retAddr 0, .retAddr 0, .int v5, .int v6, .retAddr 0] [] (mk h r)) (hb : ∀ (h : HI) (v1 : Int32) (v5 : Int32) (v6 : Int32) (v7 : Int32), kb h v1 v5 v6 v7 = some p → WW X (sh, adr, 0, 0) 103 [.ref m, .int v1, .retAddr 0, .retAddr 0, .retAddr 0, .int v5, .int v6, .int v7] [] (mk h r)) {h : HI} {v1 : Int32} {v5 : Int32} {v6 : Int32} {v7 : Int32} (H : fX9_seekBest_143 m k kb h v1 v5 v6 v7 = some p) : WW X (sh, adr, 0, 0) 143 [.ref m, .int v1, .retAddr 0, .retAddr 0, .retAddr 0, .int v5, .int v6, .int v7] [] (mk h r) := by
  rw [fX9_seekBest_143] at H
  refine ww_iinc (v := (v7 + (1 : Int32))) C dX9_seekBest_143 rfl rfl (by decide) rfl [.ref m, .int v1, .retAddr 0, .retAddr 0, .retAddr 0, .int v5, .int v6, .int (v7 + (1 : Int32))] rfl ?_
  refine ww_goto C dX9_seekBest_146 103 rfl ?_
  exact hb h v1 v5 v6 (v7 + (1 : Int32)) H
def fX9_seekBest_103 (m : Nat) (k : HI → Int32 → Int32 → Int32 → Option (Int32 × HI)) : Nat → HI → Int32 → Int32 → Int32 → Int32 → Option (Int32 × HI)
  | 0, _, _, _, _, _ => none
  | n + 1, h, v1, v5, v6, v7 => (if (h.1 (m + 11) 2) ≤ v7 then k h v1 v5 v6 else (if inB v5 262144 then ((fX9_isAlive m h (h.1 (m + 38) (v5.toNatClampNeg)) v7).bind fun p4 => (if p4.1 = 0 then fX9_seekBest_143 m (k) (fX9_seekBest_103 m k n) p4.2 v1 v5 v6 v7 else (if inB v5 262144 then ((fX9_planMatter m p4.2 (p4.2.1 (m + 38) (v5.toNatClampNeg)) v7).bind fun h5 => fX9_seekBest_143 m (k) (fX9_seekBest_103 m k n) h5 v1 v5 v6 v7) else none))) else none))
set_option maxRecDepth 100000 in
set_option maxHeartbeats 4000000 in
theorem cX9_seekBest_103 {X : CT} {sh : Sh} {adr : Nat → Nat} {r : Nat → Nat → Option Nat} {m : Nat} {p : Int32 × HI} (hS : MS sh r m) (C : CX X yX9_seekBest.cls cX9_seekBest 8 5) (hZ : SZX X adr) (E : RX X (some .int) sh adr (fun v τ => v = some (.int p.1) ∧ τ = mk p.2 r)) {k : HI → Int32 → Int32 → Int32 → Option (Int32 × HI)} (hk : ∀ (h : HI) (v1 : Int32) (v5 : Int32) (v6 : Int32), k h v1 v5 v6 = some p → WW X (sh, adr, 0, 0) 149 [.ref m, .int v1, .retAddr 0, .retAddr 0, .retAddr 0, .int v5, .int v6, .retAddr 0] [] (mk h r)) : ∀ (n : Nat) (h : HI) (v1 : Int32) (v5 : Int32) (v6 : Int32) (v7 : Int32), fX9_seekBest_103 m k n h v1 v5 v6 v7 = some p → WW X (sh, adr, 0, 0) 103 [.ref m, .int v1, .retAddr 0, .retAddr 0, .retAddr 0, .int v5, .int v6, .int v7] [] (mk h r) := by
  intro n
  induction n with
  | zero =>
    intro h v1 v5 v6 v7 H
    rw [fX9_seekBest_103] at H
    cases H
  | succ n ih =>
    intro h v1 v5 v6 v7 H
    rw [fX9_seekBest_103] at H
    refine ww_iload C dX9_seekBest_103 rfl ?_
    refine ww_aload_n C dX9_seekBest_105 0 rfl rfl ?_
    refine wk_getR C dX9_seekBest_106 fl_X9_45 hS.1 rfl (tX9_many hS).1 ?_
    refine ww_iconst (v := (2 : Int32)) C dX9_seekBest_109 (by decide) ?_
    refine wk_iaload C dX9_seekBest_110 (tX9_many hS).2.1 (vp_of (by decide : inB (2 : Int32) 3) (tX9_many hS).2.2) 2 rfl ?_
    refine ww_icmp_ge C dX9_seekBest_111 149 rfl (fun hc => ?_) (fun hc => ?_)
    · rw [if_pos hc] at H
      exact ww_drop [.ref m, .int v1, .retAddr 0, .retAddr 0, .retAddr 0, .int v5, .int v6, .retAddr 0] (sl_e (sl_e (sl_e (sl_e (sl_e (sl_e (sl_e (sl_d sl_n)))))))) (hk h v1 v5 v6 H)
    · rw [if_neg hc] at H
      refine ww_aload_n C dX9_seekBest_114 0 rfl rfl ?_
      refine ww_aload_n C dX9_seekBest_115 0 rfl rfl ?_
      refine wk_getR C dX9_seekBest_116 fl_X9_128 hS.1 rfl (tX9_queue hS).1 ?_
      refine ww_iload C dX9_seekBest_119 rfl ?_
      obtain ⟨hg, H⟩ := gd_of H
      refine wk_iaload C dX9_seekBest_121 (tX9_queue hS).2.1 (vp_of hg (tX9_queue hS).2.2) (v5.toNatClampNeg) rfl ?_
      refine ww_iload C dX9_seekBest_122 rfl ?_
      obtain ⟨p4, hc1, H⟩ := bd_of H
      refine ww_callV C hZ dX9_seekBest_124 cw_X9_547 (ccX9_isAlive hS hc1) hS.1 ⟨by decide, rfl⟩ (by decide) rfl rfl (Nat.le_of_ble_eq_true rfl) ⟨Nat.zero_le _, Nat.zero_le _⟩ (fun v τ hp => ?_)
      obtain ⟨rfl, rfl⟩ := hp
      change WW X _ 127 [.ref m, .int v1, .retAddr 0, .retAddr 0, .retAddr 0, .int v5, .int v6, .int v7] [.int p4.1] _
      refine ww_if_eq C dX9_seekBest_127 143 rfl (fun hc => ?_) (fun hc => ?_)
      · rw [if_pos hc] at H
        exact cX9_seekBest_143 hS C hZ E hk ih H
      · rw [if_neg hc] at H
        refine ww_aload_n C dX9_seekBest_130 0 rfl rfl ?_
        refine ww_aload_n C dX9_seekBest_131 0 rfl rfl ?_
        refine wk_getR C dX9_seekBest_132 fl_X9_128 hS.1 rfl (tX9_queue hS).1 ?_
        refine ww_iload C dX9_seekBest_135 rfl ?_
        obtain ⟨hg, H⟩ := gd_of H
        refine wk_iaload C dX9_seekBest_137 (tX9_queue hS).2.1 (vp_of hg (tX9_queue hS).2.2) (v5.toNatClampNeg) rfl ?_
        refine ww_iload C dX9_seekBest_138 rfl ?_
        obtain ⟨h5, hc1, H⟩ := bd_of H
        refine ww_callV C hZ dX9_seekBest_140 cw_X9_551 (ccX9_planMatter hS hc1) hS.1 ⟨by decide, rfl⟩ (by decide) rfl rfl (Nat.le_of_ble_eq_true rfl) ⟨Nat.zero_le _, Nat.zero_le _⟩ (fun v τ hp => ?_)
        obtain ⟨rfl, rfl⟩ := hp
        change WW X _ 143 [.ref m, .int v1, .retAddr 0, .retAddr 0, .retAddr 0, .int v5, .int v6, .int v7] [] _
        exact cX9_seekBest_143 hS C hZ E hk ih H
def fX9_seekBest_82 (m : Nat) (k : HI → Int32 → Int32 → Option (Int32 × HI)) : Nat → HI → Int32 → Int32 → Int32 → Option (Int32 × HI)
  | 0, _, _, _, _ => none
  | n + 1, h, v1, v5, v6 => (if v6 ≤ v5 then k h v1 v5 else (if inB v5 262144 then ((fX9_planSeat m h (h.1 (m + 38) (v5.toNatClampNeg))).bind fun h3 => fX9_seekBest_103 m (fun h7 v1 v5 v6 => fX9_seekBest_82 m k n h7 v1 (v5 + (1 : Int32)) v6) FU h3 v1 v5 v6 (0 : Int32)) else none))
set_option maxRecDepth 100000 in
set_option maxHeartbeats 4000000 in
theorem cX9_seekBest_82 {X : CT} {sh : Sh} {adr : Nat → Nat} {r : Nat → Nat → Option Nat} {m : Nat} {p : Int32 × HI} (hS : MS sh r m) (C : CX X yX9_seekBest.cls cX9_seekBest 8 5) (hZ : SZX X adr) (E : RX X (some .int) sh adr (fun v τ => v = some (.int p.1) ∧ τ = mk p.2 r)) {k : HI → Int32 → Int32 → Option (Int32 × HI)} (hk : ∀ (h : HI) (v1 : Int32) (v5 : Int32), k h v1 v5 = some p → WW X (sh, adr, 0, 0) 155 [.ref m, .int v1, .retAddr 0, .retAddr 0, .retAddr 0, .int v5, .retAddr 0, .retAddr 0] [] (mk h r)) : ∀ (n : Nat) (h : HI) (v1 : Int32) (v5 : Int32) (v6 : Int32), fX9_seekBest_82 m k n h v1 v5 v6 = some p → WW X (sh, adr, 0, 0) 82 [.ref m, .int v1, .retAddr 0, .retAddr 0, .retAddr 0, .int v5, .int v6, .retAddr 0] [] (mk h r) := by
  intro n
  induction n with
  | zero =>
    intro h v1 v5 v6 H
    rw [fX9_seekBest_82] at H
    cases H
  | succ n ih =>
    intro h v1 v5 v6 H
    rw [fX9_seekBest_82] at H
    refine ww_iload C dX9_seekBest_82 rfl ?_
    refine ww_iload C dX9_seekBest_84 rfl ?_
    refine ww_icmp_ge C dX9_seekBest_86 155 rfl (fun hc => ?_) (fun hc => ?_)
    · rw [if_pos hc] at H
      exact ww_drop [.ref m, .int v1, .retAddr 0, .retAddr 0, .retAddr 0, .int v5, .retAddr 0, .retAddr 0] (sl_e (sl_e (sl_e (sl_e (sl_e (sl_e (sl_d (sl_e sl_n)))))))) (hk h v1 v5 H)
    · rw [if_neg hc] at H
      refine ww_aload_n C dX9_seekBest_89 0 rfl rfl ?_
      refine ww_aload_n C dX9_seekBest_90 0 rfl rfl ?_
      refine wk_getR C dX9_seekBest_91 fl_X9_128 hS.1 rfl (tX9_queue hS).1 ?_
      refine ww_iload C dX9_seekBest_94 rfl ?_
      obtain ⟨hg, H⟩ := gd_of H
      refine wk_iaload C dX9_seekBest_96 (tX9_queue hS).2.1 (vp_of hg (tX9_queue hS).2.2) (v5.toNatClampNeg) rfl ?_
      obtain ⟨h3, hc1, H⟩ := bd_of H
      refine ww_callV C hZ dX9_seekBest_97 cw_X9_544 (ccX9_planSeat hS hc1) hS.1 ⟨by decide, rfl⟩ (by decide) rfl rfl (Nat.le_of_ble_eq_true rfl) ⟨Nat.zero_le _, Nat.zero_le _⟩ (fun v τ hp => ?_)
      obtain ⟨rfl, rfl⟩ := hp
      change WW X _ 100 [.ref m, .int v1, .retAddr 0, .retAddr 0, .retAddr 0, .int v5, .int v6, .retAddr 0] [] _
      refine ww_iconst (v := (0 : Int32)) C dX9_seekBest_100 (by decide) ?_
      refine ww_istore C dX9_seekBest_101 (by decide) rfl [.ref m, .int v1, .retAddr 0, .retAddr 0, .retAddr 0, .int v5, .int v6, .int (0 : Int32)] rfl ?_
      refine cX9_seekBest_103 hS C hZ E (fun h7 v1 v5 v6 H => ?_) FU h3 v1 v5 v6 (0 : Int32) H
      refine ww_iinc (v := (v5 + (1 : Int32))) C dX9_seekBest_149 rfl rfl (by decide) rfl [.ref m, .int v1, .retAddr 0, .retAddr 0, .retAddr 0, .int (v5 + (1 : Int32)), .int v6, .retAddr 0] rfl ?_
      refine ww_goto C dX9_seekBest_152 82 rfl ?_
      exact ih h7 v1 (v5 + (1 : Int32)) v6 H
def fX9_seekBest_68 (m : Nat) (k : HI → Option (Int32 × HI)) : Nat → HI → Int32 → Int32 → Option (Int32 × HI)
  | 0, _, _, _ => none
  | n + 1, h, v1, v5 => (if v1 ≤ (h.1 m 70) then k h else fX9_seekBest_82 m (fun h9 v1 v5 => fX9_seekBest_68 m k n (uI h9 m 70 ((h9.1 m 70) + (1 : Int32))) v1 v5) FU h v1 v5 (h.1 m 65))
set_option maxRecDepth 100000 in
set_option maxHeartbeats 4000000 in
theorem cX9_seekBest_68 {X : CT} {sh : Sh} {adr : Nat → Nat} {r : Nat → Nat → Option Nat} {m : Nat} {p : Int32 × HI} (hS : MS sh r m) (C : CX X yX9_seekBest.cls cX9_seekBest 8 5) (hZ : SZX X adr) (E : RX X (some .int) sh adr (fun v τ => v = some (.int p.1) ∧ τ = mk p.2 r)) {k : HI → Option (Int32 × HI)} (hk : ∀ (h : HI), k h = some p → WW X (sh, adr, 0, 0) 168 [.ref m, .retAddr 0, .retAddr 0, .retAddr 0, .retAddr 0, .retAddr 0, .retAddr 0, .retAddr 0] [] (mk h r)) : ∀ (n : Nat) (h : HI) (v1 : Int32) (v5 : Int32), fX9_seekBest_68 m k n h v1 v5 = some p → WW X (sh, adr, 0, 0) 68 [.ref m, .int v1, .retAddr 0, .retAddr 0, .retAddr 0, .int v5, .retAddr 0, .retAddr 0] [] (mk h r) := by
  intro n
  induction n with
  | zero =>
    intro h v1 v5 H
    rw [fX9_seekBest_68] at H
    cases H
  | succ n ih =>
    intro h v1 v5 H
    rw [fX9_seekBest_68] at H
    refine ww_aload_n C dX9_seekBest_68 0 rfl rfl ?_
    refine wk_getI C dX9_seekBest_69 fl_X9_523 hS.1 rfl ?_
    refine ww_iload_n C dX9_seekBest_72 1 rfl rfl ?_
    refine ww_icmp_ge C dX9_seekBest_73 168 rfl (fun hc => ?_) (fun hc => ?_)
    · rw [if_pos hc] at H
      exact ww_drop [.ref m, .retAddr 0, .retAddr 0, .retAddr 0, .retAddr 0, .retAddr 0, .retAddr 0, .retAddr 0] (sl_e (sl_d (sl_e (sl_e (sl_e (sl_d (sl_e (sl_e sl_n)))))))) (hk h H)
    · rw [if_neg hc] at H
      refine ww_aload_n C dX9_seekBest_76 0 rfl rfl ?_
      refine wk_getI C dX9_seekBest_77 fl_X9_514 hS.1 rfl ?_
      refine ww_istore C dX9_seekBest_80 (by decide) rfl [.ref m, .int v1, .retAddr 0, .retAddr 0, .retAddr 0, .int v5, .int (h.1 m 65), .retAddr 0] rfl ?_
      refine cX9_seekBest_82 hS C hZ E (fun h9 v1 v5 H => ?_) FU h v1 v5 (h.1 m 65) H
      refine ww_aload_n C dX9_seekBest_155 0 rfl rfl ?_
      refine ww_dup C dX9_seekBest_156 rfl ?_
      refine wk_getI C dX9_seekBest_157 fl_X9_523 hS.1 rfl ?_
      refine ww_iconst (v := (1 : Int32)) C dX9_seekBest_160 (by decide) ?_
      refine ww_iadd C dX9_seekBest_161 ?_
      refine wk_putI C dX9_seekBest_162 fl_X9_523 hS.1 rfl rfl ?_
      refine ww_goto C dX9_seekBest_165 68 rfl ?_
      exact ih (uI h9 m 70 ((h9.1 m 70) + (1 : Int32))) v1 v5 H
def fX9_seekBest (m : Nat) (h : HI) (a1 : Int32) (a2 : Int32) (a3 : Int32) (a4 : Int32) : Option (Int32 × HI) := ((fX9_firstState m (uI (uI (uI (uI (uI (uI (uI h m 64 ((h.1 m 64) + (1 : Int32))) m 65 (0 : Int32)) m 66 a2) m 67 a3) m 68 (0 : Int32)) m 69 (0 : Int32)) m 70 (-1 : Int32)) a4).bind fun p1 => ((fX9_come m p1.2 p1.1).bind fun h2 => fX9_seekBest_68 m (fun h11 => some ((h11.1 m 68), h11)) FU (uI (uI (uI h2 m 68 (0 : Int32)) m 69 (0 : Int32)) m 70 (0 : Int32)) a1 (0 : Int32)))
set_option maxRecDepth 100000 in
set_option maxHeartbeats 4000000 in
theorem ccX9_seekBest {l : Launch} {sh : Sh} {adr : Nat → Nat} {r : Nat → Nat → Option Nat} {m : Nat} (hS : MS sh r m) {h : HI} {a1 : Int32} {a2 : Int32} {a3 : Int32} {a4 : Int32} {p : Int32 × HI} (H : fX9_seekBest m h a1 a2 a3 a4 = some p) : CC l yX9_seekBest cX9_seekBest 8 (some .int) 5 [.ref m, .int a1, .int a2, .int a3, .int a4] sh adr (mk h r) (fun v τ => v = some (.int p.1) ∧ τ = mk p.2 r) := by
  refine CC.of (by decide) (Nat.le_of_ble_eq_true rfl) 3 [.ref m, .int a1, .int a2, .int a3, .int a4, .retAddr 0, .retAddr 0, .retAddr 0] rfl (fun X _ C E hZ => ?_)
  rw [fX9_seekBest] at H
  refine ww_aload_n C dX9_seekBest_0 0 rfl rfl ?_
  refine ww_dup C dX9_seekBest_1 rfl ?_
  refine wk_getI C dX9_seekBest_2 fl_X9_511 hS.1 rfl ?_
  refine ww_iconst (v := (1 : Int32)) C dX9_seekBest_5 (by decide) ?_
  refine ww_iadd C dX9_seekBest_6 ?_
  refine wk_putI C dX9_seekBest_7 fl_X9_511 hS.1 rfl rfl ?_
  refine ww_aload_n C dX9_seekBest_10 0 rfl rfl ?_
  refine ww_iconst (v := (0 : Int32)) C dX9_seekBest_11 (by decide) ?_
  refine wk_putI C dX9_seekBest_12 fl_X9_514 hS.1 rfl rfl ?_
  refine ww_aload_n C dX9_seekBest_15 0 rfl rfl ?_
  refine ww_iload_n C dX9_seekBest_16 2 rfl rfl ?_
  refine wk_putI C dX9_seekBest_17 fl_X9_532 hS.1 rfl rfl ?_
  refine ww_aload_n C dX9_seekBest_20 0 rfl rfl ?_
  refine ww_iload_n C dX9_seekBest_21 3 rfl rfl ?_
  refine wk_putI C dX9_seekBest_22 fl_X9_535 hS.1 rfl rfl ?_
  refine ww_aload_n C dX9_seekBest_25 0 rfl rfl ?_
  refine ww_iconst (v := (0 : Int32)) C dX9_seekBest_26 (by decide) ?_
  refine wk_putI C dX9_seekBest_27 fl_X9_520 hS.1 rfl rfl ?_
  refine ww_aload_n C dX9_seekBest_30 0 rfl rfl ?_
  refine ww_iconst (v := (0 : Int32)) C dX9_seekBest_31 (by decide) ?_
  refine wk_putI C dX9_seekBest_32 fl_X9_526 hS.1 rfl rfl ?_
  refine ww_aload_n C dX9_seekBest_35 0 rfl rfl ?_
  refine ww_iconst (v := (-1 : Int32)) C dX9_seekBest_36 (by decide) ?_
  refine wk_putI C dX9_seekBest_37 fl_X9_523 hS.1 rfl rfl ?_
  refine ww_aload_n C dX9_seekBest_40 0 rfl rfl ?_
  refine ww_aload_n C dX9_seekBest_41 0 rfl rfl ?_
  refine ww_iload C dX9_seekBest_42 rfl ?_
  obtain ⟨p1, hc1, H⟩ := bd_of H
  refine ww_callV C hZ dX9_seekBest_44 cw_X9_541 (ccX9_firstState hS hc1) hS.1 ⟨by decide, rfl⟩ (by decide) rfl rfl (Nat.le_of_ble_eq_true rfl) ⟨Nat.zero_le _, Nat.zero_le _⟩ (fun v τ hp => ?_)
  obtain ⟨rfl, rfl⟩ := hp
  change WW X _ 47 [.ref m, .int a1, .int a2, .int a3, .int a4, .retAddr 0, .retAddr 0, .retAddr 0] [.int p1.1, .ref m] _
  obtain ⟨h2, hc1, H⟩ := bd_of H
  refine ww_callV C hZ dX9_seekBest_47 cw_X9_529 (ccX9_come hS hc1) hS.1 ⟨by decide, rfl⟩ (by decide) rfl rfl (Nat.le_of_ble_eq_true rfl) ⟨Nat.zero_le _, Nat.zero_le _⟩ (fun v τ hp => ?_)
  obtain ⟨rfl, rfl⟩ := hp
  change WW X _ 50 [.ref m, .int a1, .int a2, .int a3, .int a4, .retAddr 0, .retAddr 0, .retAddr 0] [] _
  refine ww_aload_n C dX9_seekBest_50 0 rfl rfl ?_
  refine ww_iconst (v := (0 : Int32)) C dX9_seekBest_51 (by decide) ?_
  refine wk_putI C dX9_seekBest_52 fl_X9_520 hS.1 rfl rfl ?_
  refine ww_aload_n C dX9_seekBest_55 0 rfl rfl ?_
  refine ww_iconst (v := (0 : Int32)) C dX9_seekBest_56 (by decide) ?_
  refine wk_putI C dX9_seekBest_57 fl_X9_526 hS.1 rfl rfl ?_
  refine ww_iconst (v := (0 : Int32)) C dX9_seekBest_60 (by decide) ?_
  refine ww_istore C dX9_seekBest_61 (by decide) rfl [.ref m, .int a1, .int a2, .int a3, .int a4, .int (0 : Int32), .retAddr 0, .retAddr 0] rfl ?_
  refine ww_aload_n C dX9_seekBest_63 0 rfl rfl ?_
  refine ww_iconst (v := (0 : Int32)) C dX9_seekBest_64 (by decide) ?_
  refine wk_putI C dX9_seekBest_65 fl_X9_523 hS.1 rfl rfl ?_
  refine ww_drop [.ref m, .int a1, .retAddr 0, .retAddr 0, .retAddr 0, .int (0 : Int32), .retAddr 0, .retAddr 0] (sl_e (sl_e (sl_d (sl_d (sl_d (sl_e (sl_e (sl_e sl_n)))))))) (cX9_seekBest_68 hS C hZ E (fun h11 H => ?_) FU (uI (uI (uI h2 m 68 (0 : Int32)) m 69 (0 : Int32)) m 70 (0 : Int32)) a1 (0 : Int32) H)
  refine ww_aload_n C dX9_seekBest_168 0 rfl rfl ?_
  refine wk_getI C dX9_seekBest_169 fl_X9_520 hS.1 rfl ?_
  cases H
  exact ww_iret C E dX9_seekBest_172 ⟨rfl, rfl⟩
def fX9_isPlanned (h : HI) (a0 : Int32) : Option (Int32 × HI) := (if a0 < 0 then some ((0 : Int32), h) else (if (40 : Int32) < a0 then some ((0 : Int32), h) else some ((1 : Int32), h)))
set_option maxRecDepth 100000 in
set_option maxHeartbeats 4000000 in
theorem ccX9_isPlanned {l : Launch} {sh : Sh} {adr : Nat → Nat} {r : Nat → Nat → Option Nat} {h : HI} {a0 : Int32} {p : Int32 × HI} (H : fX9_isPlanned h a0 = some p) : CC l yX9_isPlanned cX9_isPlanned 1 (some .boolean) 0 [.int a0] sh adr (mk h r) (fun v τ => v = some (.int p.1) ∧ τ = mk p.2 r) := by
  refine CC.of (by decide) (Nat.le_of_ble_eq_true rfl) 0 [.int a0] rfl (fun X _ C E hZ => ?_)
  rw [fX9_isPlanned] at H
  refine ww_iload_n C dX9_isPlanned_0 0 rfl rfl ?_
  refine ww_if_lt C dX9_isPlanned_1 14 rfl (fun hc => ?_) (fun hc => ?_)
  · rw [if_pos hc] at H
    refine ww_iconst (v := (0 : Int32)) C dX9_isPlanned_14 (by decide) ?_
    cases H
    exact ww_zret C E dX9_isPlanned_15 (Or.inl rfl) ⟨rfl, rfl⟩
  · rw [if_neg hc] at H
    refine ww_iload_n C dX9_isPlanned_4 0 rfl rfl ?_
    refine ww_bipush (v := (40 : Int32)) C dX9_isPlanned_5 (by decide) ?_
    refine ww_icmp_gt C dX9_isPlanned_7 14 rfl (fun hc => ?_) (fun hc => ?_)
    · rw [if_pos hc] at H
      refine ww_iconst (v := (0 : Int32)) C dX9_isPlanned_14 (by decide) ?_
      cases H
      exact ww_zret C E dX9_isPlanned_15 (Or.inl rfl) ⟨rfl, rfl⟩
    · rw [if_neg hc] at H
      refine ww_iconst (v := (1 : Int32)) C dX9_isPlanned_10 (by decide) ?_
      refine ww_goto C dX9_isPlanned_11 15 rfl ?_
      cases H
      exact ww_zret C E dX9_isPlanned_15 (Or.inr rfl) ⟨rfl, rfl⟩
def fX9_best (m : Nat) (h : HI) (a1 : Int32) (a2 : Int32) : Option (Int32 × HI) := ((fX9_isPlanned h a1).bind fun p1 => (if p1.1 = 0 then some ((-1 : Int32), p1.2) else (if a2 < 0 then some ((-1 : Int32), p1.2) else (if a2 ≤ (1 : Int32) then ((fX9_hereSet m p1.2).bind fun p2 => ((fX9_seats m p2.2).bind fun p3 => ((fX9_seated m p3.2).bind fun p4 => ((fX9_seekBest m p4.2 a1 p2.1 p3.1 p4.1).bind fun p5 => (if a2 = 0 then some (p5.1, p5.2) else some ((p5.2.1 m 69), p5.2)))))) else some ((-1 : Int32), p1.2)))))
set_option maxRecDepth 100000 in
set_option maxHeartbeats 4000000 in
theorem ccX9_best {l : Launch} {sh : Sh} {adr : Nat → Nat} {r : Nat → Nat → Option Nat} {m : Nat} (hS : MS sh r m) {h : HI} {a1 : Int32} {a2 : Int32} {p : Int32 × HI} (H : fX9_best m h a1 a2 = some p) : CC l yX9_best cX9_best 4 (some .int) 6 [.ref m, .int a1, .int a2] sh adr (mk h r) (fun v τ => v = some (.int p.1) ∧ τ = mk p.2 r) := by
  refine CC.of (by decide) (Nat.le_of_ble_eq_true rfl) 1 [.ref m, .int a1, .int a2, .retAddr 0] rfl (fun X _ C E hZ => ?_)
  rw [fX9_best] at H
  refine ww_iload_n C dX9_best_0 1 rfl rfl ?_
  obtain ⟨p1, hc1, H⟩ := bd_of H
  refine ww_callS C hZ dX9_best_1 sw_X9_554 (ccX9_isPlanned hc1) (by decide) rfl rfl (Nat.le_of_ble_eq_true rfl) ⟨Nat.zero_le _, Nat.zero_le _⟩ (fun v τ hp => ?_)
  obtain ⟨rfl, rfl⟩ := hp
  change WW X _ 4 [.ref m, .int a1, .int a2, .retAddr 0] [.int p1.1] _
  refine ww_if_eq C dX9_best_4 16 rfl (fun hc => ?_) (fun hc => ?_)
  · rw [if_pos hc] at H
    refine ww_iconst (v := (-1 : Int32)) C dX9_best_16 (by decide) ?_
    cases H
    exact ww_iret C E dX9_best_17 ⟨rfl, rfl⟩
  · rw [if_neg hc] at H
    refine ww_iload_n C dX9_best_7 2 rfl rfl ?_
    refine ww_if_lt C dX9_best_8 16 rfl (fun hc => ?_) (fun hc => ?_)
    · rw [if_pos hc] at H
      refine ww_iconst (v := (-1 : Int32)) C dX9_best_16 (by decide) ?_
      cases H
      exact ww_iret C E dX9_best_17 ⟨rfl, rfl⟩
    · rw [if_neg hc] at H
      refine ww_iload_n C dX9_best_11 2 rfl rfl ?_
      refine ww_iconst (v := (1 : Int32)) C dX9_best_12 (by decide) ?_
      refine ww_icmp_le C dX9_best_13 18 rfl (fun hc => ?_) (fun hc => ?_)
      · rw [if_pos hc] at H
        refine ww_aload_n C dX9_best_18 0 rfl rfl ?_
        refine ww_iload_n C dX9_best_19 1 rfl rfl ?_
        refine ww_aload_n C dX9_best_20 0 rfl rfl ?_
        obtain ⟨p2, hc1, H⟩ := bd_of H
        refine ww_callV C hZ dX9_best_21 cw_X9_490 (ccX9_hereSet hS hc1) hS.1 ⟨by decide, rfl⟩ (by decide) rfl rfl (Nat.le_of_ble_eq_true rfl) ⟨Nat.zero_le _, Nat.zero_le _⟩ (fun v τ hp => ?_)
        obtain ⟨rfl, rfl⟩ := hp
        change WW X _ 24 [.ref m, .int a1, .int a2, .retAddr 0] [.int p2.1, .int a1, .ref m] _
        refine ww_aload_n C dX9_best_24 0 rfl rfl ?_
        obtain ⟨p3, hc1, H⟩ := bd_of H
        refine ww_callV C hZ dX9_best_25 cw_X9_557 (ccX9_seats hS hc1) hS.1 ⟨by decide, rfl⟩ (by decide) rfl rfl (Nat.le_of_ble_eq_true rfl) ⟨Nat.zero_le _, Nat.zero_le _⟩ (fun v τ hp => ?_)
        obtain ⟨rfl, rfl⟩ := hp
        change WW X _ 28 [.ref m, .int a1, .int a2, .retAddr 0] [.int p3.1, .int p2.1, .int a1, .ref m] _
        refine ww_aload_n C dX9_best_28 0 rfl rfl ?_
        obtain ⟨p4, hc1, H⟩ := bd_of H
        refine ww_callV C hZ dX9_best_29 cw_X9_560 (ccX9_seated hS hc1) hS.1 ⟨by decide, rfl⟩ (by decide) rfl rfl (Nat.le_of_ble_eq_true rfl) ⟨Nat.zero_le _, Nat.zero_le _⟩ (fun v τ hp => ?_)
        obtain ⟨rfl, rfl⟩ := hp
        change WW X _ 32 [.ref m, .int a1, .int a2, .retAddr 0] [.int p4.1, .int p3.1, .int p2.1, .int a1, .ref m] _
        obtain ⟨p5, hc1, H⟩ := bd_of H
        refine ww_callV C hZ dX9_best_32 cw_X9_563 (ccX9_seekBest hS hc1) hS.1 ⟨by decide, rfl⟩ (by decide) rfl rfl (Nat.le_of_ble_eq_true rfl) ⟨Nat.zero_le _, Nat.zero_le _⟩ (fun v τ hp => ?_)
        obtain ⟨rfl, rfl⟩ := hp
        change WW X _ 35 [.ref m, .int a1, .int a2, .retAddr 0] [.int p5.1] _
        refine ww_istore_n C dX9_best_35 3 rfl (by decide) rfl [.ref m, .int a1, .int a2, .int p5.1] rfl ?_
        refine ww_iload_n C dX9_best_36 2 rfl rfl ?_
        refine ww_if_ne C dX9_best_37 44 rfl (fun hc => ?_) (fun hc => ?_)
        · rw [if_neg hc] at H
          refine ww_aload_n C dX9_best_44 0 rfl rfl ?_
          refine wk_getI C dX9_best_45 fl_X9_526 hS.1 rfl ?_
          cases H
          exact ww_iret C E dX9_best_48 ⟨rfl, rfl⟩
        · rw [if_pos hc] at H
          refine ww_iload_n C dX9_best_40 3 rfl rfl ?_
          refine ww_goto C dX9_best_41 48 rfl ?_
          cases H
          exact ww_iret C E dX9_best_48 ⟨rfl, rfl⟩
      · rw [if_neg hc] at H
        refine ww_iconst (v := (-1 : Int32)) C dX9_best_16 (by decide) ?_
        cases H
        exact ww_iret C E dX9_best_17 ⟨rfl, rfl⟩
def fX9_firstOf_35 (k : HI → Int32 → Option (Int32 × HI)) (kb : HI → Int32 → Int32 → Int32 → Int32 → Option (Int32 × HI)) (h : HI) (v0 : Int32) (v1 : Int32) (v3 : Int32) (s0 : Int32) (s1 : Int32) : Option (Int32 × HI) := kb h v0 v1 (s1 ||| s0) (v3 + (1 : Int32))
set_option maxRecDepth 100000 in
set_option maxHeartbeats 4000000 in
theorem cX9_firstOf_35 {X : CT} {sh : Sh} {adr : Nat → Nat} {r : Nat → Nat → Option Nat} {p : Int32 × HI} (C : CX X yX9_firstOf.cls cX9_firstOf 4 1) (hZ : SZX X adr) (E : RX X (some .int) sh adr (fun v τ => v = some (.int p.1) ∧ τ = mk p.2 r)) {k : HI → Int32 → Option (Int32 × HI)} {kb : HI → Int32 → Int32 → Int32 → Int32 → Option (Int32 × HI)} (hk : ∀ (h : HI) (v2 : Int32), k h v2 = some p → WW X (sh, adr, 0, 0) 43 [.retAddr 0, .retAddr 0, .int v2, .retAddr 0] [] (mk h r)) (hb : ∀ (h : HI) (v0 : Int32) (v1 : Int32) (v2 : Int32) (v3 : Int32), kb h v0 v1 v2 v3 = some p → WW X (sh, adr, 0, 0) 4 [.int v0, .int v1, .int v2, .int v3] [] (mk h r)) {h : HI} {v0 : Int32} {v1 : Int32} {v3 : Int32} {s0 : Int32} {s1 : Int32} (H : fX9_firstOf_35 k kb h v0 v1 v3 s0 s1 = some p) : WW X (sh, adr, 0, 0) 35 [.int v0, .int v1, .retAddr 0, .int v3] [.int s0, .int s1] (mk h r) := by
  rw [fX9_firstOf_35] at H
  refine ww_ior C dX9_firstOf_35 ?_
  refine ww_istore_n C dX9_firstOf_36 2 rfl (by decide) rfl [.int v0, .int v1, .int (s1 ||| s0), .int v3] rfl ?_
  refine ww_iinc (v := (v3 + (1 : Int32))) C dX9_firstOf_37 rfl rfl (by decide) rfl [.int v0, .int v1, .int (s1 ||| s0), .int (v3 + (1 : Int32))] rfl ?_
  refine ww_goto C dX9_firstOf_40 4 rfl ?_
  exact hb h v0 v1 (s1 ||| s0) (v3 + (1 : Int32)) H
def fX9_firstOf_34 (k : HI → Int32 → Option (Int32 × HI)) (kb : HI → Int32 → Int32 → Int32 → Int32 → Option (Int32 × HI)) (h : HI) (v0 : Int32) (v1 : Int32) (v3 : Int32) (s0 : Int32) : Option (Int32 × HI) := fX9_firstOf_35 k kb h v0 v1 v3 (0 : Int32) s0
set_option maxRecDepth 100000 in
set_option maxHeartbeats 4000000 in
theorem cX9_firstOf_34 {X : CT} {sh : Sh} {adr : Nat → Nat} {r : Nat → Nat → Option Nat} {p : Int32 × HI} (C : CX X yX9_firstOf.cls cX9_firstOf 4 1) (hZ : SZX X adr) (E : RX X (some .int) sh adr (fun v τ => v = some (.int p.1) ∧ τ = mk p.2 r)) {k : HI → Int32 → Option (Int32 × HI)} {kb : HI → Int32 → Int32 → Int32 → Int32 → Option (Int32 × HI)} (hk : ∀ (h : HI) (v2 : Int32), k h v2 = some p → WW X (sh, adr, 0, 0) 43 [.retAddr 0, .retAddr 0, .int v2, .retAddr 0] [] (mk h r)) (hb : ∀ (h : HI) (v0 : Int32) (v1 : Int32) (v2 : Int32) (v3 : Int32), kb h v0 v1 v2 v3 = some p → WW X (sh, adr, 0, 0) 4 [.int v0, .int v1, .int v2, .int v3] [] (mk h r)) {h : HI} {v0 : Int32} {v1 : Int32} {v3 : Int32} {s0 : Int32} (H : fX9_firstOf_34 k kb h v0 v1 v3 s0 = some p) : WW X (sh, adr, 0, 0) 34 [.int v0, .int v1, .retAddr 0, .int v3] [.int s0] (mk h r) := by
  rw [fX9_firstOf_34] at H
  refine ww_iconst (v := (0 : Int32)) C dX9_firstOf_34 (by decide) ?_
  exact cX9_firstOf_35 C hZ E hk hb H
def fX9_firstOf_4 (k : HI → Int32 → Option (Int32 × HI)) : Nat → HI → Int32 → Int32 → Int32 → Int32 → Option (Int32 × HI)
  | 0, _, _, _, _, _ => none
  | n + 1, h, v0, v1, v2, v3 => (if (6 : Int32) ≤ v3 then k h v2 else (if ((v0 >>> (v3 &&& 31)) &&& (1 : Int32)) = (1 : Int32) then ((fX9_ones h v2).bind fun p1 => (if v1 ≤ p1.1 then fX9_firstOf_34 (k) (fX9_firstOf_4 k n) p1.2 v0 v1 v3 v2 else fX9_firstOf_35 (k) (fX9_firstOf_4 k n) p1.2 v0 v1 v3 ((1 : Int32) <<< (v3 &&& 31)) v2)) else fX9_firstOf_34 (k) (fX9_firstOf_4 k n) h v0 v1 v3 v2))
set_option maxRecDepth 100000 in
set_option maxHeartbeats 4000000 in
theorem cX9_firstOf_4 {X : CT} {sh : Sh} {adr : Nat → Nat} {r : Nat → Nat → Option Nat} {p : Int32 × HI} (C : CX X yX9_firstOf.cls cX9_firstOf 4 1) (hZ : SZX X adr) (E : RX X (some .int) sh adr (fun v τ => v = some (.int p.1) ∧ τ = mk p.2 r)) {k : HI → Int32 → Option (Int32 × HI)} (hk : ∀ (h : HI) (v2 : Int32), k h v2 = some p → WW X (sh, adr, 0, 0) 43 [.retAddr 0, .retAddr 0, .int v2, .retAddr 0] [] (mk h r)) : ∀ (n : Nat) (h : HI) (v0 : Int32) (v1 : Int32) (v2 : Int32) (v3 : Int32), fX9_firstOf_4 k n h v0 v1 v2 v3 = some p → WW X (sh, adr, 0, 0) 4 [.int v0, .int v1, .int v2, .int v3] [] (mk h r) := by
  intro n
  induction n with
  | zero =>
    intro h v0 v1 v2 v3 H
    rw [fX9_firstOf_4] at H
    cases H
  | succ n ih =>
    intro h v0 v1 v2 v3 H
    rw [fX9_firstOf_4] at H
    refine ww_iload_n C dX9_firstOf_4 3 rfl rfl ?_
    refine ww_bipush (v := (6 : Int32)) C dX9_firstOf_5 (by decide) ?_
    refine ww_icmp_ge C dX9_firstOf_7 43 rfl (fun hc => ?_) (fun hc => ?_)
    · rw [if_pos hc] at H
      exact ww_drop [.retAddr 0, .retAddr 0, .int v2, .retAddr 0] (sl_d (sl_d (sl_e (sl_d sl_n)))) (hk h v2 H)
    · rw [if_neg hc] at H
      refine ww_iload_n C dX9_firstOf_10 2 rfl rfl ?_
      refine ww_iload_n C dX9_firstOf_11 0 rfl rfl ?_
      refine ww_iload_n C dX9_firstOf_12 3 rfl rfl ?_
      refine ww_ishr C dX9_firstOf_13 ?_
      refine ww_iconst (v := (1 : Int32)) C dX9_firstOf_14 (by decide) ?_
      refine ww_iand C dX9_firstOf_15 ?_
      refine ww_iconst (v := (1 : Int32)) C dX9_firstOf_16 (by decide) ?_
      refine ww_icmp_ne C dX9_firstOf_17 34 rfl (fun hc => ?_) (fun hc => ?_)
      · rw [if_neg hc] at H
        exact ww_drop [.int v0, .int v1, .retAddr 0, .int v3] (sl_e (sl_e (sl_d (sl_e sl_n)))) (cX9_firstOf_34 C hZ E hk ih H)
      · rw [if_pos hc] at H
        refine ww_iload_n C dX9_firstOf_20 2 rfl rfl ?_
        obtain ⟨p1, hc1, H⟩ := bd_of H
        refine ww_callS C hZ dX9_firstOf_21 sw_X9_442 (ccX9_ones hc1) (by decide) rfl rfl (Nat.le_of_ble_eq_true rfl) ⟨Nat.zero_le _, Nat.zero_le _⟩ (fun v τ hp => ?_)
        obtain ⟨rfl, rfl⟩ := hp
        change WW X _ 24 [.int v0, .int v1, .int v2, .int v3] [.int p1.1, .int v2] _
        refine ww_iload_n C dX9_firstOf_24 1 rfl rfl ?_
        refine ww_icmp_ge C dX9_firstOf_25 34 rfl (fun hc => ?_) (fun hc => ?_)
        · rw [if_pos hc] at H
          exact ww_drop [.int v0, .int v1, .retAddr 0, .int v3] (sl_e (sl_e (sl_d (sl_e sl_n)))) (cX9_firstOf_34 C hZ E hk ih H)
        · rw [if_neg hc] at H
          refine ww_iconst (v := (1 : Int32)) C dX9_firstOf_28 (by decide) ?_
          refine ww_iload_n C dX9_firstOf_29 3 rfl rfl ?_
          refine ww_ishl C dX9_firstOf_30 ?_
          refine ww_goto C dX9_firstOf_31 35 rfl ?_
          exact ww_drop [.int v0, .int v1, .retAddr 0, .int v3] (sl_e (sl_e (sl_d (sl_e sl_n)))) (cX9_firstOf_35 C hZ E hk ih H)
def fX9_firstOf (h : HI) (a0 : Int32) (a1 : Int32) : Option (Int32 × HI) := fX9_firstOf_4 (fun h3 v2 => some (v2, h3)) FU h a0 a1 (0 : Int32) (0 : Int32)
set_option maxRecDepth 100000 in
set_option maxHeartbeats 4000000 in
theorem ccX9_firstOf {l : Launch} {sh : Sh} {adr : Nat → Nat} {r : Nat → Nat → Option Nat} {h : HI} {a0 : Int32} {a1 : Int32} {p : Int32 × HI} (H : fX9_firstOf h a0 a1 = some p) : CC l yX9_firstOf cX9_firstOf 4 (some .int) 1 [.int a0, .int a1] sh adr (mk h r) (fun v τ => v = some (.int p.1) ∧ τ = mk p.2 r) := by
  refine CC.of (by decide) (Nat.le_of_ble_eq_true rfl) 2 [.int a0, .int a1, .retAddr 0, .retAddr 0] rfl (fun X _ C E hZ => ?_)
  rw [fX9_firstOf] at H
  refine ww_iconst (v := (0 : Int32)) C dX9_firstOf_0 (by decide) ?_
  refine ww_istore_n C dX9_firstOf_1 2 rfl (by decide) rfl [.int a0, .int a1, .int (0 : Int32), .retAddr 0] rfl ?_
  refine ww_iconst (v := (0 : Int32)) C dX9_firstOf_2 (by decide) ?_
  refine ww_istore_n C dX9_firstOf_3 3 rfl (by decide) rfl [.int a0, .int a1, .int (0 : Int32), .int (0 : Int32)] rfl ?_
  refine cX9_firstOf_4 C hZ E (fun h3 v2 H => ?_) FU h a0 a1 (0 : Int32) (0 : Int32) H
  refine ww_iload_n C dX9_firstOf_43 2 rfl rfl ?_
  cases H
  exact ww_iret C E dX9_firstOf_44 ⟨rfl, rfl⟩
