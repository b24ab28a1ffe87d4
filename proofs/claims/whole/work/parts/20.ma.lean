def MST : List (Nat × Nat × Nat × Nat) := [(0, 1, 11, 1700), (10, 2, 11, 640), (11, 3, 11, 640), (12, 4, 11, 640), (13, 5, 11, 640), (14, 6, 11, 300), (15, 7, 11, 50), (16, 8, 11, 6), (23, 9, 12, 30), (24, 10, 11, 3), (25, 11, 11, 3), (26, 12, 11, 6), (27, 13, 11, 6), (28, 14, 11, 4), (29, 15, 11, 24), (30, 16, 11, 16), (31, 17, 11, 6), (32, 18, 11, 6), (33, 19, 11, 4), (34, 20, 11, 24), (35, 21, 11, 16), (36, 22, 13, 6), (37, 23, 13, 6), (38, 24, 13, 24), (39, 25, 13, 6), (40, 26, 13, 6), (49, 27, 11, 6), (50, 28, 11, 6), (51, 29, 11, 6), (52, 30, 11, 6), (53, 31, 11, 4), (54, 32, 11, 4), (55, 33, 13, 6), (56, 34, 13, 6), (60, 35, 11, 600), (61, 36, 11, 1206), (62, 37, 11, 262144), (63, 38, 11, 262144), (71, 39, 13, 4096), (72, 40, 13, 4096), (73, 41, 11, 3), (74, 42, 11, 40), (75, 43, 11, 40), (76, 44, 11, 40), (77, 45, 11, 40), (78, 46, 11, 40), (81, 47, 13, 3), (82, 48, 11, 90), (83, 49, 11, 36), (84, 50, 11, 24), (85, 51, 11, 1800), (86, 52, 11, 3618), (87, 53, 11, 9)]
/-- an object of kind 9: where what it holds lies -/
def MS (sh : Sh) (r : Nat → Nat → Option Nat) (m : Nat) : Prop := kd sh m = 9 ∧ (∀ q ∈ MST, r m q.1 = some (m + q.2.1) ∧ kd sh (m + q.2.1) = q.2.2.1 ∧ ln sh (m + q.2.1) = q.2.2.2)
theorem tX9_tape {sh : Sh} {r : Nat → Nat → Option Nat} {m : Nat} (h : MS sh r m) : r m 0 = some (m + 1) ∧ kd sh (m + 1) = 11 ∧ ln sh (m + 1) = 1700 := h.2 (0, 1, 11, 1700) (by decide)
theorem tX9_nWhat {sh : Sh} {r : Nat → Nat → Option Nat} {m : Nat} (h : MS sh r m) : r m 10 = some (m + 2) ∧ kd sh (m + 2) = 11 ∧ ln sh (m + 2) = 640 := h.2 (10, 2, 11, 640) (by decide)
theorem tX9_nNumber {sh : Sh} {r : Nat → Nat → Option Nat} {m : Nat} (h : MS sh r m) : r m 11 = some (m + 3) ∧ kd sh (m + 3) = 11 ∧ ln sh (m + 3) = 640 := h.2 (11, 3, 11, 640) (by decide)
theorem tX9_whats {sh : Sh} {r : Nat → Nat → Option Nat} {m : Nat} (h : MS sh r m) : r m 12 = some (m + 4) ∧ kd sh (m + 4) = 11 ∧ ln sh (m + 4) = 640 := h.2 (12, 4, 11, 640) (by decide)
theorem tX9_numbers {sh : Sh} {r : Nat → Nat → Option Nat} {m : Nat} (h : MS sh r m) : r m 13 = some (m + 5) ∧ kd sh (m + 5) = 11 ∧ ln sh (m + 5) = 640 := h.2 (13, 5, 11, 640) (by decide)
theorem tX9_waits {sh : Sh} {r : Nat → Nat → Option Nat} {m : Nat} (h : MS sh r m) : r m 14 = some (m + 6) ∧ kd sh (m + 6) = 11 ∧ ln sh (m + 6) = 300 := h.2 (14, 6, 11, 300) (by decide)
theorem tX9_pile {sh : Sh} {r : Nat → Nat → Option Nat} {m : Nat} (h : MS sh r m) : r m 15 = some (m + 7) ∧ kd sh (m + 7) = 11 ∧ ln sh (m + 7) = 50 := h.2 (15, 7, 11, 50) (by decide)
theorem tX9_asked {sh : Sh} {r : Nat → Nat → Option Nat} {m : Nat} (h : MS sh r m) : r m 16 = some (m + 8) ∧ kd sh (m + 8) = 11 ∧ ln sh (m + 8) = 6 := h.2 (16, 8, 11, 6) (by decide)
theorem tX9_nName {sh : Sh} {r : Nat → Nat → Option Nat} {m : Nat} (h : MS sh r m) : r m 23 = some (m + 9) ∧ kd sh (m + 9) = 12 ∧ ln sh (m + 9) = 30 := h.2 (23, 9, 12, 30) (by decide)
theorem tX9_nMany {sh : Sh} {r : Nat → Nat → Option Nat} {m : Nat} (h : MS sh r m) : r m 24 = some (m + 10) ∧ kd sh (m + 10) = 11 ∧ ln sh (m + 10) = 3 := h.2 (24, 10, 11, 3) (by decide)
theorem tX9_many {sh : Sh} {r : Nat → Nat → Option Nat} {m : Nat} (h : MS sh r m) : r m 25 = some (m + 11) ∧ kd sh (m + 11) = 11 ∧ ln sh (m + 11) = 3 := h.2 (25, 11, 11, 3) (by decide)
theorem tX9_nHolds {sh : Sh} {r : Nat → Nat → Option Nat} {m : Nat} (h : MS sh r m) : r m 26 = some (m + 12) ∧ kd sh (m + 12) = 11 ∧ ln sh (m + 12) = 6 := h.2 (26, 12, 11, 6) (by decide)
theorem tX9_nStrong {sh : Sh} {r : Nat → Nat → Option Nat} {m : Nat} (h : MS sh r m) : r m 27 = some (m + 13) ∧ kd sh (m + 13) = 11 ∧ ln sh (m + 13) = 6 := h.2 (27, 13, 11, 6) (by decide)
theorem tX9_nDies {sh : Sh} {r : Nat → Nat → Option Nat} {m : Nat} (h : MS sh r m) : r m 28 = some (m + 14) ∧ kd sh (m + 14) = 11 ∧ ln sh (m + 14) = 4 := h.2 (28, 14, 11, 4) (by decide)
theorem tX9_nWish {sh : Sh} {r : Nat → Nat → Option Nat} {m : Nat} (h : MS sh r m) : r m 29 = some (m + 15) ∧ kd sh (m + 15) = 11 ∧ ln sh (m + 15) = 24 := h.2 (29, 15, 11, 24) (by decide)
theorem tX9_nDeal {sh : Sh} {r : Nat → Nat → Option Nat} {m : Nat} (h : MS sh r m) : r m 30 = some (m + 16) ∧ kd sh (m + 16) = 11 ∧ ln sh (m + 16) = 16 := h.2 (30, 16, 11, 16) (by decide)
theorem tX9_holds {sh : Sh} {r : Nat → Nat → Option Nat} {m : Nat} (h : MS sh r m) : r m 31 = some (m + 17) ∧ kd sh (m + 17) = 11 ∧ ln sh (m + 17) = 6 := h.2 (31, 17, 11, 6) (by decide)
theorem tX9_strong {sh : Sh} {r : Nat → Nat → Option Nat} {m : Nat} (h : MS sh r m) : r m 32 = some (m + 18) ∧ kd sh (m + 18) = 11 ∧ ln sh (m + 18) = 6 := h.2 (32, 18, 11, 6) (by decide)
theorem tX9_dies {sh : Sh} {r : Nat → Nat → Option Nat} {m : Nat} (h : MS sh r m) : r m 33 = some (m + 19) ∧ kd sh (m + 19) = 11 ∧ ln sh (m + 19) = 4 := h.2 (33, 19, 11, 4) (by decide)
theorem tX9_wish {sh : Sh} {r : Nat → Nat → Option Nat} {m : Nat} (h : MS sh r m) : r m 34 = some (m + 20) ∧ kd sh (m + 20) = 11 ∧ ln sh (m + 20) = 24 := h.2 (34, 20, 11, 24) (by decide)
theorem tX9_deal {sh : Sh} {r : Nat → Nat → Option Nat} {m : Nat} (h : MS sh r m) : r m 35 = some (m + 21) ∧ kd sh (m + 21) = 11 ∧ ln sh (m + 21) = 16 := h.2 (35, 21, 11, 16) (by decide)
theorem tX9_nStool {sh : Sh} {r : Nat → Nat → Option Nat} {m : Nat} (h : MS sh r m) : r m 36 = some (m + 22) ∧ kd sh (m + 22) = 13 ∧ ln sh (m + 22) = 6 := h.2 (36, 22, 13, 6) (by decide)
theorem tX9_nDoor {sh : Sh} {r : Nat → Nat → Option Nat} {m : Nat} (h : MS sh r m) : r m 37 = some (m + 23) ∧ kd sh (m + 23) = 13 ∧ ln sh (m + 23) = 6 := h.2 (37, 23, 13, 6) (by decide)
theorem tX9_nWished {sh : Sh} {r : Nat → Nat → Option Nat} {m : Nat} (h : MS sh r m) : r m 38 = some (m + 24) ∧ kd sh (m + 24) = 13 ∧ ln sh (m + 24) = 24 := h.2 (38, 24, 13, 24) (by decide)
theorem tX9_isStool {sh : Sh} {r : Nat → Nat → Option Nat} {m : Nat} (h : MS sh r m) : r m 39 = some (m + 25) ∧ kd sh (m + 25) = 13 ∧ ln sh (m + 25) = 6 := h.2 (39, 25, 13, 6) (by decide)
theorem tX9_isTold {sh : Sh} {r : Nat → Nat → Option Nat} {m : Nat} (h : MS sh r m) : r m 40 = some (m + 26) ∧ kd sh (m + 26) = 13 ∧ ln sh (m + 26) = 6 := h.2 (40, 26, 13, 6) (by decide)
theorem tX9_where {sh : Sh} {r : Nat → Nat → Option Nat} {m : Nat} (h : MS sh r m) : r m 49 = some (m + 27) ∧ kd sh (m + 27) = 11 ∧ ln sh (m + 27) = 6 := h.2 (49, 27, 11, 6) (by decide)
theorem tX9_tired {sh : Sh} {r : Nat → Nat → Option Nat} {m : Nat} (h : MS sh r m) : r m 50 = some (m + 28) ∧ kd sh (m + 28) = 11 ∧ ln sh (m + 28) = 6 := h.2 (50, 28, 11, 6) (by decide)
theorem tX9_satFor {sh : Sh} {r : Nat → Nat → Option Nat} {m : Nat} (h : MS sh r m) : r m 51 = some (m + 29) ∧ kd sh (m + 29) = 11 ∧ ln sh (m + 29) = 6 := h.2 (51, 29, 11, 6) (by decide)
theorem tX9_spoke {sh : Sh} {r : Nat → Nat → Option Nat} {m : Nat} (h : MS sh r m) : r m 52 = some (m + 30) ∧ kd sh (m + 30) = 11 ∧ ln sh (m + 30) = 6 := h.2 (52, 30, 11, 6) (by decide)
theorem tX9_state {sh : Sh} {r : Nat → Nat → Option Nat} {m : Nat} (h : MS sh r m) : r m 53 = some (m + 31) ∧ kd sh (m + 31) = 11 ∧ ln sh (m + 31) = 4 := h.2 (53, 31, 11, 4) (by decide)
theorem tX9_dealState {sh : Sh} {r : Nat → Nat → Option Nat} {m : Nat} (h : MS sh r m) : r m 54 = some (m + 32) ∧ kd sh (m + 32) = 11 ∧ ln sh (m + 32) = 4 := h.2 (54, 32, 11, 4) (by decide)
theorem tX9_isBroken {sh : Sh} {r : Nat → Nat → Option Nat} {m : Nat} (h : MS sh r m) : r m 55 = some (m + 33) ∧ kd sh (m + 33) = 13 ∧ ln sh (m + 33) = 6 := h.2 (55, 33, 13, 6) (by decide)
theorem tX9_isFound {sh : Sh} {r : Nat → Nat → Option Nat} {m : Nat} (h : MS sh r m) : r m 56 = some (m + 34) ∧ kd sh (m + 34) = 13 ∧ ln sh (m + 34) = 6 := h.2 (56, 34, 13, 6) (by decide)
theorem tX9_kept {sh : Sh} {r : Nat → Nat → Option Nat} {m : Nat} (h : MS sh r m) : r m 60 = some (m + 35) ∧ kd sh (m + 35) = 11 ∧ ln sh (m + 35) = 600 := h.2 (60, 35, 11, 600) (by decide)
theorem tX9_sat {sh : Sh} {r : Nat → Nat → Option Nat} {m : Nat} (h : MS sh r m) : r m 61 = some (m + 36) ∧ kd sh (m + 36) = 11 ∧ ln sh (m + 36) = 1206 := h.2 (61, 36, 11, 1206) (by decide)
theorem tX9_stamps {sh : Sh} {r : Nat → Nat → Option Nat} {m : Nat} (h : MS sh r m) : r m 62 = some (m + 37) ∧ kd sh (m + 37) = 11 ∧ ln sh (m + 37) = 262144 := h.2 (62, 37, 11, 262144) (by decide)
theorem tX9_queue {sh : Sh} {r : Nat → Nat → Option Nat} {m : Nat} (h : MS sh r m) : r m 63 = some (m + 38) ∧ kd sh (m + 38) = 11 ∧ ln sh (m + 38) = 262144 := h.2 (63, 38, 11, 262144) (by decide)
theorem tX9_now {sh : Sh} {r : Nat → Nat → Option Nat} {m : Nat} (h : MS sh r m) : r m 71 = some (m + 39) ∧ kd sh (m + 39) = 13 ∧ ln sh (m + 39) = 4096 := h.2 (71, 39, 13, 4096) (by decide)
theorem tX9_then {sh : Sh} {r : Nat → Nat → Option Nat} {m : Nat} (h : MS sh r m) : r m 72 = some (m + 40) ∧ kd sh (m + 40) = 13 ∧ ln sh (m + 40) = 4096 := h.2 (72, 40, 13, 4096) (by decide)
theorem tX9_floorMen {sh : Sh} {r : Nat → Nat → Option Nat} {m : Nat} (h : MS sh r m) : r m 73 = some (m + 41) ∧ kd sh (m + 41) = 11 ∧ ln sh (m + 41) = 3 := h.2 (73, 41, 11, 3) (by decide)
theorem tX9_entryVote {sh : Sh} {r : Nat → Nat → Option Nat} {m : Nat} (h : MS sh r m) : r m 74 = some (m + 42) ∧ kd sh (m + 42) = 11 ∧ ln sh (m + 42) = 40 := h.2 (74, 42, 11, 40) (by decide)
theorem tX9_entryMan {sh : Sh} {r : Nat → Nat → Option Nat} {m : Nat} (h : MS sh r m) : r m 75 = some (m + 43) ∧ kd sh (m + 43) = 11 ∧ ln sh (m + 43) = 40 := h.2 (75, 43, 11, 40) (by decide)
theorem tX9_entrySaid {sh : Sh} {r : Nat → Nat → Option Nat} {m : Nat} (h : MS sh r m) : r m 76 = some (m + 44) ∧ kd sh (m + 44) = 11 ∧ ln sh (m + 44) = 40 := h.2 (76, 44, 11, 40) (by decide)
theorem tX9_entryTold {sh : Sh} {r : Nat → Nat → Option Nat} {m : Nat} (h : MS sh r m) : r m 77 = some (m + 45) ∧ kd sh (m + 45) = 11 ∧ ln sh (m + 45) = 40 := h.2 (77, 45, 11, 40) (by decide)
theorem tX9_entryUntold {sh : Sh} {r : Nat → Nat → Option Nat} {m : Nat} (h : MS sh r m) : r m 78 = some (m + 46) ∧ kd sh (m + 46) = 11 ∧ ln sh (m + 46) = 40 := h.2 (78, 46, 11, 40) (by decide)
theorem tX9_hasBox {sh : Sh} {r : Nat → Nat → Option Nat} {m : Nat} (h : MS sh r m) : r m 81 = some (m + 47) ∧ kd sh (m + 47) = 13 ∧ ln sh (m + 47) = 3 := h.2 (81, 47, 13, 3) (by decide)
theorem tX9_boxMen {sh : Sh} {r : Nat → Nat → Option Nat} {m : Nat} (h : MS sh r m) : r m 82 = some (m + 48) ∧ kd sh (m + 48) = 11 ∧ ln sh (m + 48) = 90 := h.2 (82, 48, 11, 90) (by decide)
theorem tX9_boxChairs {sh : Sh} {r : Nat → Nat → Option Nat} {m : Nat} (h : MS sh r m) : r m 83 = some (m + 49) ∧ kd sh (m + 49) = 11 ∧ ln sh (m + 49) = 36 := h.2 (83, 49, 11, 36) (by decide)
theorem tX9_boxStates {sh : Sh} {r : Nat → Nat → Option Nat} {m : Nat} (h : MS sh r m) : r m 84 = some (m + 50) ∧ kd sh (m + 50) = 11 ∧ ln sh (m + 50) = 24 := h.2 (84, 50, 11, 24) (by decide)
theorem tX9_boxKept {sh : Sh} {r : Nat → Nat → Option Nat} {m : Nat} (h : MS sh r m) : r m 85 = some (m + 51) ∧ kd sh (m + 51) = 11 ∧ ln sh (m + 51) = 1800 := h.2 (85, 51, 11, 1800) (by decide)
theorem tX9_boxSat {sh : Sh} {r : Nat → Nat → Option Nat} {m : Nat} (h : MS sh r m) : r m 86 = some (m + 52) ∧ kd sh (m + 52) = 11 ∧ ln sh (m + 52) = 3618 := h.2 (86, 52, 11, 3618) (by decide)
theorem tX9_boxNumbers {sh : Sh} {r : Nat → Nat → Option Nat} {m : Nat} (h : MS sh r m) : r m 87 = some (m + 53) ∧ kd sh (m + 53) = 11 ∧ ln sh (m + 53) = 9 := h.2 (87, 53, 11, 9) (by decide)
def fX9_four_3 (m : Nat) (k : HI → Option (HI)) : Nat → HI → Int32 → Int32 → Option (HI)
  | 0, _, _, _ => none
  | n + 1, h, v1, v2 => (if v2 < 0 then k h else (if inB (h.1 m 1) 1700 then fX9_four_3 m k n (uI (uI h (m + 1) ((h.1 m 1).toNatClampNeg) ((v1 >>> (v2 &&& 31)) &&& (255 : Int32))) m 1 ((h.1 m 1) + (1 : Int32))) v1 (v2 + (-8 : Int32)) else none))
set_option maxRecDepth 100000 in
set_option maxHeartbeats 4000000 in
theorem cX9_four_3 {X : CT} {sh : Sh} {adr : Nat → Nat} {r : Nat → Nat → Option Nat} {m : Nat} {p : HI} (hS : MS sh r m) (C : CX X yX9_four.cls cX9_four 3 0) (hZ : SZX X adr) (E : RX X none sh adr (fun v τ => v = none ∧ τ = mk p r)) {k : HI → Option (HI)} (hk : ∀ (h : HI), k h = some p → WW X (sh, adr, 0, 0) 39 [.ref m, .retAddr 0, .retAddr 0] [] (mk h r)) : ∀ (n : Nat) (h : HI) (v1 : Int32) (v2 : Int32), fX9_four_3 m k n h v1 v2 = some p → WW X (sh, adr, 0, 0) 3 [.ref m, .int v1, .int v2] [] (mk h r) := by
  intro n
  induction n with
  | zero =>
    intro h v1 v2 H
    rw [fX9_four_3] at H
    cases H
  | succ n ih =>
    intro h v1 v2 H
    rw [fX9_four_3] at H
    refine ww_iload_n C dX9_four_3 2 rfl rfl ?_
    refine ww_if_lt C dX9_four_4 39 rfl (fun hc => ?_) (fun hc => ?_)
    · rw [if_pos hc] at H
      exact ww_drop [.ref m, .retAddr 0, .retAddr 0] (sl_e (sl_d (sl_d sl_n))) (hk h H)
    · rw [if_neg hc] at H
      refine ww_aload_n C dX9_four_7 0 rfl rfl ?_
      refine wk_getR C dX9_four_8 fl_X9_7 hS.1 rfl (tX9_tape hS).1 ?_
      refine ww_aload_n C dX9_four_11 0 rfl rfl ?_
      refine wk_getI C dX9_four_12 fl_X9_176 hS.1 rfl ?_
      refine ww_iload_n C dX9_four_15 1 rfl rfl ?_
      refine ww_iload_n C dX9_four_16 2 rfl rfl ?_
      refine ww_ishr C dX9_four_17 ?_
      refine ww_sipush (v := (255 : Int32)) C dX9_four_18 (by decide) ?_
      refine ww_iand C dX9_four_21 ?_
      obtain ⟨hg, H⟩ := gd_of H
      refine wk_iastore C dX9_four_22 (tX9_tape hS).2.1 (vp_of hg (tX9_tape hS).2.2) ((h.1 m 1).toNatClampNeg) rfl ?_
      refine ww_aload_n C dX9_four_23 0 rfl rfl ?_
      refine ww_dup C dX9_four_24 rfl ?_
      refine wk_getI C dX9_four_25 fl_X9_176 hS.1 rfl ?_
      refine ww_as (v := (h.1 m 1)) (by rw [uI_n (by omega)]) ?_
      refine ww_iconst (v := (1 : Int32)) C dX9_four_28 (by decide) ?_
      refine ww_iadd C dX9_four_29 ?_
      refine wk_putI C dX9_four_30 fl_X9_176 hS.1 rfl rfl ?_
      refine ww_iinc (v := (v2 + (-8 : Int32))) C dX9_four_33 rfl rfl (by decide) rfl [.ref m, .int v1, .int (v2 + (-8 : Int32))] rfl ?_
      refine ww_goto C dX9_four_36 3 rfl ?_
      exact ih (uI (uI h (m + 1) ((h.1 m 1).toNatClampNeg) ((v1 >>> (v2 &&& 31)) &&& (255 : Int32))) m 1 ((h.1 m 1) + (1 : Int32))) v1 (v2 + (-8 : Int32)) H
def fX9_four (m : Nat) (h : HI) (a1 : Int32) : Option (HI) := fX9_four_3 m (fun h2 => some h2) FU h a1 (24 : Int32)
set_option maxRecDepth 100000 in
set_option maxHeartbeats 4000000 in
theorem ccX9_four {l : Launch} {sh : Sh} {adr : Nat → Nat} {r : Nat → Nat → Option Nat} {m : Nat} (hS : MS sh r m) {h : HI} {a1 : Int32} {p : HI} (H : fX9_four m h a1 = some p) : CC l yX9_four cX9_four 3 none 0 [.ref m, .int a1] sh adr (mk h r) (fun v τ => v = none ∧ τ = mk p r) := by
  refine CC.of (by decide) (Nat.le_of_ble_eq_true rfl) 1 [.ref m, .int a1, .retAddr 0] rfl (fun X _ C E hZ => ?_)
  rw [fX9_four] at H
  refine ww_bipush (v := (24 : Int32)) C dX9_four_0 (by decide) ?_
  refine ww_istore_n C dX9_four_2 2 rfl (by decide) rfl [.ref m, .int a1, .int (24 : Int32)] rfl ?_
  refine cX9_four_3 hS C hZ E (fun h2 H => ?_) FU h a1 (24 : Int32) H
  cases H
  exact ww_vret C E dX9_four_39 ⟨rfl, rfl⟩
def fX9_feed (m : Nat) (h : HI) (a1 : Int32) (a2 : Int32) (a3 : Int32) (a4 : Int32) (a5 : Int32) : Option (Int32 × HI) := (if ((h.1 m 1) + (20 : Int32)) ≤ (1700 : Int32) then ((fX9_four m h a1).bind fun h1 => ((fX9_four m h1 a2).bind fun h2 => ((fX9_four m h2 a3).bind fun h3 => ((fX9_four m h3 a4).bind fun h4 => ((fX9_four m h4 a5).bind fun h5 => some ((h5.1 m 1), h5)))))) else some ((-1 : Int32), h))
set_option maxRecDepth 100000 in
set_option maxHeartbeats 4000000 in
theorem ccX9_feed {l : Launch} {sh : Sh} {adr : Nat → Nat} {r : Nat → Nat → Option Nat} {m : Nat} (hS : MS sh r m) {h : HI} {a1 : Int32} {a2 : Int32} {a3 : Int32} {a4 : Int32} {a5 : Int32} {p : Int32 × HI} (H : fX9_feed m h a1 a2 a3 a4 a5 = some p) : CC l yX9_feed cX9_feed 6 (some .int) 1 [.ref m, .int a1, .int a2, .int a3, .int a4, .int a5] sh adr (mk h r) (fun v τ => v = some (.int p.1) ∧ τ = mk p.2 r) := by
  refine CC.of (by decide) (Nat.le_of_ble_eq_true rfl) 0 [.ref m, .int a1, .int a2, .int a3, .int a4, .int a5] rfl (fun X _ C E hZ => ?_)
  rw [fX9_feed] at H
  refine ww_aload_n C dX9_feed_0 0 rfl rfl ?_
  refine wk_getI C dX9_feed_1 fl_X9_176 hS.1 rfl ?_
  refine ww_bipush (v := (20 : Int32)) C dX9_feed_4 (by decide) ?_
  refine ww_iadd C dX9_feed_6 ?_
  refine ww_sipush (v := (1700 : Int32)) C dX9_feed_7 (by decide) ?_
  refine ww_icmp_le C dX9_feed_10 15 rfl (fun hc => ?_) (fun hc => ?_)
  · rw [if_pos hc] at H
    refine ww_aload_n C dX9_feed_15 0 rfl rfl ?_
    refine ww_iload_n C dX9_feed_16 1 rfl rfl ?_
    obtain ⟨h1, hc1, H⟩ := bd_of H
    refine ww_callV C hZ dX9_feed_17 cw_X9_179 (ccX9_four hS hc1) hS.1 ⟨by decide, rfl⟩ (by decide) rfl rfl (Nat.le_of_ble_eq_true rfl) ⟨Nat.zero_le _, Nat.zero_le _⟩ (fun v τ hp => ?_)
    obtain ⟨rfl, rfl⟩ := hp
    change WW X _ 20 [.ref m, .int a1, .int a2, .int a3, .int a4, .int a5] [] _
    refine ww_aload_n C dX9_feed_20 0 rfl rfl ?_
    refine ww_iload_n C dX9_feed_21 2 rfl rfl ?_
    obtain ⟨h2, hc1, H⟩ := bd_of H
    refine ww_callV C hZ dX9_feed_22 cw_X9_179 (ccX9_four hS hc1) hS.1 ⟨by decide, rfl⟩ (by decide) rfl rfl (Nat.le_of_ble_eq_true rfl) ⟨Nat.zero_le _, Nat.zero_le _⟩ (fun v τ hp => ?_)
    obtain ⟨rfl, rfl⟩ := hp
    change WW X _ 25 [.ref m, .int a1, .int a2, .int a3, .int a4, .int a5] [] _
    refine ww_aload_n C dX9_feed_25 0 rfl rfl ?_
    refine ww_iload_n C dX9_feed_26 3 rfl rfl ?_
    obtain ⟨h3, hc1, H⟩ := bd_of H
    refine ww_callV C hZ dX9_feed_27 cw_X9_179 (ccX9_four hS hc1) hS.1 ⟨by decide, rfl⟩ (by decide) rfl rfl (Nat.le_of_ble_eq_true rfl) ⟨Nat.zero_le _, Nat.zero_le _⟩ (fun v τ hp => ?_)
    obtain ⟨rfl, rfl⟩ := hp
    change WW X _ 30 [.ref m, .int a1, .int a2, .int a3, .int a4, .int a5] [] _
    refine ww_aload_n C dX9_feed_30 0 rfl rfl ?_
    refine ww_iload C dX9_feed_31 rfl ?_
    obtain ⟨h4, hc1, H⟩ := bd_of H
    refine ww_callV C hZ dX9_feed_33 cw_X9_179 (ccX9_four hS hc1) hS.1 ⟨by decide, rfl⟩ (by decide) rfl rfl (Nat.le_of_ble_eq_true rfl) ⟨Nat.zero_le _, Nat.zero_le _⟩ (fun v τ hp => ?_)
    obtain ⟨rfl, rfl⟩ := hp
    change WW X _ 36 [.ref m, .int a1, .int a2, .int a3, .int a4, .int a5] [] _
    refine ww_aload_n C dX9_feed_36 0 rfl rfl ?_
    refine ww_iload C dX9_feed_37 rfl ?_
    obtain ⟨h5, hc1, H⟩ := bd_of H
    refine ww_callV C hZ dX9_feed_39 cw_X9_179 (ccX9_four hS hc1) hS.1 ⟨by decide, rfl⟩ (by decide) rfl rfl (Nat.le_of_ble_eq_true rfl) ⟨Nat.zero_le _, Nat.zero_le _⟩ (fun v τ hp => ?_)
    obtain ⟨rfl, rfl⟩ := hp
    change WW X _ 42 [.ref m, .int a1, .int a2, .int a3, .int a4, .int a5] [] _
    refine ww_aload_n C dX9_feed_42 0 rfl rfl ?_
    refine wk_getI C dX9_feed_43 fl_X9_176 hS.1 rfl ?_
    cases H
    exact ww_iret C E dX9_feed_46 ⟨rfl, rfl⟩
  · rw [if_neg hc] at H
    refine ww_iconst (v := (-1 : Int32)) C dX9_feed_13 (by decide) ?_
    cases H
    exact ww_iret C E dX9_feed_14 ⟨rfl, rfl⟩
def fX9_end (m : Nat) (h : HI) (a1 : Int32) : Option (Int32 × HI) := (if a1 < 0 then some ((-1 : Int32), h) else (if a1 ≤ (h.1 m 1) then some (a1, (uI h m 1 a1)) else some ((-1 : Int32), h)))
set_option maxRecDepth 100000 in
set_option maxHeartbeats 4000000 in
theorem ccX9_end {l : Launch} {sh : Sh} {adr : Nat → Nat} {r : Nat → Nat → Option Nat} {m : Nat} (hS : MS sh r m) {h : HI} {a1 : Int32} {p : Int32 × HI} (H : fX9_end m h a1 = some p) : CC l yX9_end cX9_end 2 (some .int) 0 [.ref m, .int a1] sh adr (mk h r) (fun v τ => v = some (.int p.1) ∧ τ = mk p.2 r) := by
  refine CC.of (by decide) (Nat.le_of_ble_eq_true rfl) 0 [.ref m, .int a1] rfl (fun X _ C E hZ => ?_)
  rw [fX9_end] at H
  refine ww_iload_n C dX9_end_0 1 rfl rfl ?_
  refine ww_if_lt C dX9_end_1 12 rfl (fun hc => ?_) (fun hc => ?_)
  · rw [if_pos hc] at H
    refine ww_iconst (v := (-1 : Int32)) C dX9_end_12 (by decide) ?_
    cases H
    exact ww_iret C E dX9_end_13 ⟨rfl, rfl⟩
  · rw [if_neg hc] at H
    refine ww_iload_n C dX9_end_4 1 rfl rfl ?_
    refine ww_aload_n C dX9_end_5 0 rfl rfl ?_
    refine wk_getI C dX9_end_6 fl_X9_176 hS.1 rfl ?_
    refine ww_icmp_le C dX9_end_9 14 rfl (fun hc => ?_) (fun hc => ?_)
    · rw [if_pos hc] at H
      refine ww_aload_n C dX9_end_14 0 rfl rfl ?_
      refine ww_iload_n C dX9_end_15 1 rfl rfl ?_
      refine wk_putI C dX9_end_16 fl_X9_176 hS.1 rfl rfl ?_
      refine ww_iload_n C dX9_end_19 1 rfl rfl ?_
      cases H
      exact ww_iret C E dX9_end_20 ⟨rfl, rfl⟩
    · rw [if_neg hc] at H
      refine ww_iconst (v := (-1 : Int32)) C dX9_end_12 (by decide) ?_
      cases H
      exact ww_iret C E dX9_end_13 ⟨rfl, rfl⟩
def fX9_here (m : Nat) (h : HI) (a1 : Int32) : Option (Int32 × HI) := (if (h.1 m 5) ≤ ((h.1 m 4) + a1) then some ((-1 : Int32), h) else (if inB ((h.1 m 4) + a1) 1700 then some ((h.1 (m + 1) (((h.1 m 4) + a1).toNatClampNeg)), h) else none))
set_option maxRecDepth 100000 in
set_option maxHeartbeats 4000000 in
theorem ccX9_here {l : Launch} {sh : Sh} {adr : Nat → Nat} {r : Nat → Nat → Option Nat} {m : Nat} (hS : MS sh r m) {h : HI} {a1 : Int32} {p : Int32 × HI} (H : fX9_here m h a1 = some p) : CC l yX9_here cX9_here 2 (some .int) 0 [.ref m, .int a1] sh adr (mk h r) (fun v τ => v = some (.int p.1) ∧ τ = mk p.2 r) := by
  refine CC.of (by decide) (Nat.le_of_ble_eq_true rfl) 0 [.ref m, .int a1] rfl (fun X _ C E hZ => ?_)
  rw [fX9_here] at H
  refine ww_aload_n C dX9_here_0 0 rfl rfl ?_
  refine wk_getI C dX9_here_1 fl_X9_183 hS.1 rfl ?_
  refine ww_iload_n C dX9_here_4 1 rfl rfl ?_
  refine ww_iadd C dX9_here_5 ?_
  refine ww_aload_n C dX9_here_6 0 rfl rfl ?_
  refine wk_getI C dX9_here_7 fl_X9_186 hS.1 rfl ?_
  refine ww_icmp_ge C dX9_here_10 27 rfl (fun hc => ?_) (fun hc => ?_)
  · rw [if_pos hc] at H
    refine ww_iconst (v := (-1 : Int32)) C dX9_here_27 (by decide) ?_
    cases H
    exact ww_iret C E dX9_here_28 ⟨rfl, rfl⟩
  · rw [if_neg hc] at H
    refine ww_aload_n C dX9_here_13 0 rfl rfl ?_
    refine wk_getR C dX9_here_14 fl_X9_7 hS.1 rfl (tX9_tape hS).1 ?_
    refine ww_aload_n C dX9_here_17 0 rfl rfl ?_
    refine wk_getI C dX9_here_18 fl_X9_183 hS.1 rfl ?_
    refine ww_iload_n C dX9_here_21 1 rfl rfl ?_
    refine ww_iadd C dX9_here_22 ?_
    obtain ⟨hg, H⟩ := gd_of H
    refine wk_iaload C dX9_here_23 (tX9_tape hS).2.1 (vp_of hg (tX9_tape hS).2.2) (((h.1 m 4) + a1).toNatClampNeg) rfl ?_
    refine ww_goto C dX9_here_24 28 rfl ?_
    cases H
    exact ww_iret C E dX9_here_28 ⟨rfl, rfl⟩
def fX9_isLetter (h : HI) (a0 : Int32) : Option (Int32 × HI) := (if a0 < (97 : Int32) then some ((0 : Int32), h) else (if (122 : Int32) < a0 then some ((0 : Int32), h) else some ((1 : Int32), h)))
set_option maxRecDepth 100000 in
set_option maxHeartbeats 4000000 in
theorem ccX9_isLetter {l : Launch} {sh : Sh} {adr : Nat → Nat} {r : Nat → Nat → Option Nat} {h : HI} {a0 : Int32} {p : Int32 × HI} (H : fX9_isLetter h a0 = some p) : CC l yX9_isLetter cX9_isLetter 1 (some .boolean) 0 [.int a0] sh adr (mk h r) (fun v τ => v = some (.int p.1) ∧ τ = mk p.2 r) := by
  refine CC.of (by decide) (Nat.le_of_ble_eq_true rfl) 0 [.int a0] rfl (fun X _ C E hZ => ?_)
  rw [fX9_isLetter] at H
  refine ww_iload_n C dX9_isLetter_0 0 rfl rfl ?_
  refine ww_bipush (v := (97 : Int32)) C dX9_isLetter_1 (by decide) ?_
  refine ww_icmp_lt C dX9_isLetter_3 16 rfl (fun hc => ?_) (fun hc => ?_)
  · rw [if_pos hc] at H
    refine ww_iconst (v := (0 : Int32)) C dX9_isLetter_16 (by decide) ?_
    cases H
    exact ww_zret C E dX9_isLetter_17 (Or.inl rfl) ⟨rfl, rfl⟩
  · rw [if_neg hc] at H
    refine ww_iload_n C dX9_isLetter_6 0 rfl rfl ?_
    refine ww_bipush (v := (122 : Int32)) C dX9_isLetter_7 (by decide) ?_
    refine ww_icmp_gt C dX9_isLetter_9 16 rfl (fun hc => ?_) (fun hc => ?_)
    · rw [if_pos hc] at H
      refine ww_iconst (v := (0 : Int32)) C dX9_isLetter_16 (by decide) ?_
      cases H
      exact ww_zret C E dX9_isLetter_17 (Or.inl rfl) ⟨rfl, rfl⟩
    · rw [if_neg hc] at H
      refine ww_iconst (v := (1 : Int32)) C dX9_isLetter_12 (by decide) ?_
      refine ww_goto C dX9_isLetter_13 17 rfl ?_
      cases H
      exact ww_zret C E dX9_isLetter_17 (Or.inr rfl) ⟨rfl, rfl⟩
def fX9_isDigit (h : HI) (a0 : Int32) : Option (Int32 × HI) := (if a0 < (48 : Int32) then some ((0 : Int32), h) else (if (57 : Int32) < a0 then some ((0 : Int32), h) else some ((1 : Int32), h)))
set_option maxRecDepth 100000 in
set_option maxHeartbeats 4000000 in
theorem ccX9_isDigit {l : Launch} {sh : Sh} {adr : Nat → Nat} {r : Nat → Nat → Option Nat} {h : HI} {a0 : Int32} {p : Int32 × HI} (H : fX9_isDigit h a0 = some p) : CC l yX9_isDigit cX9_isDigit 1 (some .boolean) 0 [.int a0] sh adr (mk h r) (fun v τ => v = some (.int p.1) ∧ τ = mk p.2 r) := by
  refine CC.of (by decide) (Nat.le_of_ble_eq_true rfl) 0 [.int a0] rfl (fun X _ C E hZ => ?_)
  rw [fX9_isDigit] at H
  refine ww_iload_n C dX9_isDigit_0 0 rfl rfl ?_
  refine ww_bipush (v := (48 : Int32)) C dX9_isDigit_1 (by decide) ?_
  refine ww_icmp_lt C dX9_isDigit_3 16 rfl (fun hc => ?_) (fun hc => ?_)
  · rw [if_pos hc] at H
    refine ww_iconst (v := (0 : Int32)) C dX9_isDigit_16 (by decide) ?_
    cases H
    exact ww_zret C E dX9_isDigit_17 (Or.inl rfl) ⟨rfl, rfl⟩
  · rw [if_neg hc] at H
    refine ww_iload_n C dX9_isDigit_6 0 rfl rfl ?_
    refine ww_bipush (v := (57 : Int32)) C dX9_isDigit_7 (by decide) ?_
    refine ww_icmp_gt C dX9_isDigit_9 16 rfl (fun hc => ?_) (fun hc => ?_)
    · rw [if_pos hc] at H
      refine ww_iconst (v := (0 : Int32)) C dX9_isDigit_16 (by decide) ?_
      cases H
      exact ww_zret C E dX9_isDigit_17 (Or.inl rfl) ⟨rfl, rfl⟩
    · rw [if_neg hc] at H
      refine ww_iconst (v := (1 : Int32)) C dX9_isDigit_12 (by decide) ?_
      refine ww_goto C dX9_isDigit_13 17 rfl ?_
      cases H
      exact ww_zret C E dX9_isDigit_17 (Or.inr rfl) ⟨rfl, rfl⟩
def fX9_isSign (h : HI) (a0 : Int32) : Option (Int32 × HI) := (if a0 = (59 : Int32) then some ((1 : Int32), h) else (if a0 = (40 : Int32) then some ((1 : Int32), h) else (if a0 = (41 : Int32) then some ((1 : Int32), h) else (if a0 = (60 : Int32) then some ((1 : Int32), h) else (if a0 = (62 : Int32) then some ((1 : Int32), h) else (if a0 = (61 : Int32) then some ((1 : Int32), h) else (if a0 = (43 : Int32) then some ((1 : Int32), h) else (if a0 = (45 : Int32) then some ((1 : Int32), h) else (if a0 = (42 : Int32) then some ((1 : Int32), h) else some ((0 : Int32), h))))))))))
set_option maxRecDepth 100000 in
set_option maxHeartbeats 4000000 in
theorem ccX9_isSign {l : Launch} {sh : Sh} {adr : Nat → Nat} {r : Nat → Nat → Option Nat} {h : HI} {a0 : Int32} {p : Int32 × HI} (H : fX9_isSign h a0 = some p) : CC l yX9_isSign cX9_isSign 1 (some .boolean) 0 [.int a0] sh adr (mk h r) (fun v τ => v = some (.int p.1) ∧ τ = mk p.2 r) := by
  refine CC.of (by decide) (Nat.le_of_ble_eq_true rfl) 0 [.int a0] rfl (fun X _ C E hZ => ?_)
  rw [fX9_isSign] at H
  refine ww_iload_n C dX9_isSign_0 0 rfl rfl ?_
  refine ww_bipush (v := (59 : Int32)) C dX9_isSign_1 (by decide) ?_
  refine ww_icmp_eq C dX9_isSign_3 54 rfl (fun hc => ?_) (fun hc => ?_)
  · rw [if_pos hc] at H
    refine ww_iconst (v := (1 : Int32)) C dX9_isSign_54 (by decide) ?_
    refine ww_goto C dX9_isSign_55 59 rfl ?_
    cases H
    exact ww_zret C E dX9_isSign_59 (Or.inr rfl) ⟨rfl, rfl⟩
  · rw [if_neg hc] at H
    refine ww_iload_n C dX9_isSign_6 0 rfl rfl ?_
    refine ww_bipush (v := (40 : Int32)) C dX9_isSign_7 (by decide) ?_
    refine ww_icmp_eq C dX9_isSign_9 54 rfl (fun hc => ?_) (fun hc => ?_)
    · rw [if_pos hc] at H
      refine ww_iconst (v := (1 : Int32)) C dX9_isSign_54 (by decide) ?_
      refine ww_goto C dX9_isSign_55 59 rfl ?_
      cases H
      exact ww_zret C E dX9_isSign_59 (Or.inr rfl) ⟨rfl, rfl⟩
    · rw [if_neg hc] at H
      refine ww_iload_n C dX9_isSign_12 0 rfl rfl ?_
      refine ww_bipush (v := (41 : Int32)) C dX9_isSign_13 (by decide) ?_
      refine ww_icmp_eq C dX9_isSign_15 54 rfl (fun hc => ?_) (fun hc => ?_)
      · rw [if_pos hc] at H
        refine ww_iconst (v := (1 : Int32)) C dX9_isSign_54 (by decide) ?_
        refine ww_goto C dX9_isSign_55 59 rfl ?_
        cases H
        exact ww_zret C E dX9_isSign_59 (Or.inr rfl) ⟨rfl, rfl⟩
      · rw [if_neg hc] at H
        refine ww_iload_n C dX9_isSign_18 0 rfl rfl ?_
        refine ww_bipush (v := (60 : Int32)) C dX9_isSign_19 (by decide) ?_
        refine ww_icmp_eq C dX9_isSign_21 54 rfl (fun hc => ?_) (fun hc => ?_)
        · rw [if_pos hc] at H
          refine ww_iconst (v := (1 : Int32)) C dX9_isSign_54 (by decide) ?_
          refine ww_goto C dX9_isSign_55 59 rfl ?_
          cases H
          exact ww_zret C E dX9_isSign_59 (Or.inr rfl) ⟨rfl, rfl⟩
        · rw [if_neg hc] at H
          refine ww_iload_n C dX9_isSign_24 0 rfl rfl ?_
          refine ww_bipush (v := (62 : Int32)) C dX9_isSign_25 (by decide) ?_
          refine ww_icmp_eq C dX9_isSign_27 54 rfl (fun hc => ?_) (fun hc => ?_)
          · rw [if_pos hc] at H
            refine ww_iconst (v := (1 : Int32)) C dX9_isSign_54 (by decide) ?_
            refine ww_goto C dX9_isSign_55 59 rfl ?_
            cases H
            exact ww_zret C E dX9_isSign_59 (Or.inr rfl) ⟨rfl, rfl⟩
          · rw [if_neg hc] at H
            refine ww_iload_n C dX9_isSign_30 0 rfl rfl ?_
            refine ww_bipush (v := (61 : Int32)) C dX9_isSign_31 (by decide) ?_
            refine ww_icmp_eq C dX9_isSign_33 54 rfl (fun hc => ?_) (fun hc => ?_)
            · rw [if_pos hc] at H
              refine ww_iconst (v := (1 : Int32)) C dX9_isSign_54 (by decide) ?_
              refine ww_goto C dX9_isSign_55 59 rfl ?_
              cases H
              exact ww_zret C E dX9_isSign_59 (Or.inr rfl) ⟨rfl, rfl⟩
            · rw [if_neg hc] at H
              refine ww_iload_n C dX9_isSign_36 0 rfl rfl ?_
              refine ww_bipush (v := (43 : Int32)) C dX9_isSign_37 (by decide) ?_
              refine ww_icmp_eq C dX9_isSign_39 54 rfl (fun hc => ?_) (fun hc => ?_)
              · rw [if_pos hc] at H
                refine ww_iconst (v := (1 : Int32)) C dX9_isSign_54 (by decide) ?_
                refine ww_goto C dX9_isSign_55 59 rfl ?_
                cases H
                exact ww_zret C E dX9_isSign_59 (Or.inr rfl) ⟨rfl, rfl⟩
              · rw [if_neg hc] at H
                refine ww_iload_n C dX9_isSign_42 0 rfl rfl ?_
                refine ww_bipush (v := (45 : Int32)) C dX9_isSign_43 (by decide) ?_
                refine ww_icmp_eq C dX9_isSign_45 54 rfl (fun hc => ?_) (fun hc => ?_)
                · rw [if_pos hc] at H
                  refine ww_iconst (v := (1 : Int32)) C dX9_isSign_54 (by decide) ?_
                  refine ww_goto C dX9_isSign_55 59 rfl ?_
                  cases H
                  exact ww_zret C E dX9_isSign_59 (Or.inr rfl) ⟨rfl, rfl⟩
                · rw [if_neg hc] at H
                  refine ww_iload_n C dX9_isSign_48 0 rfl rfl ?_
                  refine ww_bipush (v := (42 : Int32)) C dX9_isSign_49 (by decide) ?_
                  refine ww_icmp_ne C dX9_isSign_51 58 rfl (fun hc => ?_) (fun hc => ?_)
                  · rw [if_neg hc] at H
                    refine ww_iconst (v := (0 : Int32)) C dX9_isSign_58 (by decide) ?_
                    cases H
                    exact ww_zret C E dX9_isSign_59 (Or.inl rfl) ⟨rfl, rfl⟩
                  · rw [if_pos hc] at H
                    refine ww_iconst (v := (1 : Int32)) C dX9_isSign_54 (by decide) ?_
                    refine ww_goto C dX9_isSign_55 59 rfl ?_
                    cases H
                    exact ww_zret C E dX9_isSign_59 (Or.inr rfl) ⟨rfl, rfl⟩
def fX9_token_20 (m : Nat) (k : HI → Option (HI)) (kb : HI → Option (HI)) (h : HI) : Option (HI) := kb (uI h m 4 ((h.1 m 4) + (1 : Int32)))
set_option maxRecDepth 100000 in
set_option maxHeartbeats 4000000 in
theorem cX9_token_20 {X : CT} {sh : Sh} {adr : Nat → Nat} {r : Nat → Nat → Option Nat} {m : Nat} {p : HI} (hS : MS sh r m) (C : CX X yX9_token.cls cX9_token 3 1) (hZ : SZX X adr) (E : RX X none sh adr (fun v τ => v = none ∧ τ = mk p r)) {k : HI → Option (HI)} {kb : HI → Option (HI)} (hk : ∀ (h : HI), k h = some p → WW X (sh, adr, 0, 0) 33 [.ref m, .retAddr 0, .retAddr 0] [] (mk h r)) (hb : ∀ (h : HI), kb h = some p → WW X (sh, adr, 0, 0) 0 [.ref m, .retAddr 0, .retAddr 0] [] (mk h r)) {h : HI} (H : fX9_token_20 m k kb h = some p) : WW X (sh, adr, 0, 0) 20 [.ref m, .retAddr 0, .retAddr 0] [] (mk h r) := by
  rw [fX9_token_20] at H
  refine ww_aload_n C dX9_token_20 0 rfl rfl ?_
  refine ww_dup C dX9_token_21 rfl ?_
  refine wk_getI C dX9_token_22 fl_X9_183 hS.1 rfl ?_
  refine ww_iconst (v := (1 : Int32)) C dX9_token_25 (by decide) ?_
  refine ww_iadd C dX9_token_26 ?_
  refine wk_putI C dX9_token_27 fl_X9_183 hS.1 rfl rfl ?_
  refine ww_goto C dX9_token_30 0 rfl ?_
  exact hb (uI h m 4 ((h.1 m 4) + (1 : Int32))) H
def fX9_token_0 (m : Nat) (k : HI → Option (HI)) : Nat → HI → Option (HI)
  | 0, _ => none
  | n + 1, h => ((fX9_here m h (0 : Int32)).bind fun p1 => (if p1.1 = (32 : Int32) then fX9_token_20 m (k) (fX9_token_0 m k n) p1.2 else ((fX9_here m p1.2 (0 : Int32)).bind fun p2 => (if p2.1 = (10 : Int32) then fX9_token_20 m (k) (fX9_token_0 m k n) p2.2 else k p2.2))))
set_option maxRecDepth 100000 in
set_option maxHeartbeats 4000000 in
theorem cX9_token_0 {X : CT} {sh : Sh} {adr : Nat → Nat} {r : Nat → Nat → Option Nat} {m : Nat} {p : HI} (hS : MS sh r m) (C : CX X yX9_token.cls cX9_token 3 1) (hZ : SZX X adr) (E : RX X none sh adr (fun v τ => v = none ∧ τ = mk p r)) {k : HI → Option (HI)} (hk : ∀ (h : HI), k h = some p → WW X (sh, adr, 0, 0) 33 [.ref m, .retAddr 0, .retAddr 0] [] (mk h r)) : ∀ (n : Nat) (h : HI), fX9_token_0 m k n h = some p → WW X (sh, adr, 0, 0) 0 [.ref m, .retAddr 0, .retAddr 0] [] (mk h r) := by
  intro n
  induction n with
  | zero =>
    intro h H
    rw [fX9_token_0] at H
    cases H
  | succ n ih =>
    intro h H
    rw [fX9_token_0] at H
    refine ww_aload_n C dX9_token_0 0 rfl rfl ?_
    refine ww_iconst (v := (0 : Int32)) C dX9_token_1 (by decide) ?_
    obtain ⟨p1, hc1, H⟩ := bd_of H
    refine ww_callV C hZ dX9_token_2 cw_X9_189 (ccX9_here hS hc1) hS.1 ⟨by decide, rfl⟩ (by decide) rfl rfl (Nat.le_of_ble_eq_true rfl) ⟨Nat.zero_le _, Nat.zero_le _⟩ (fun v τ hp => ?_)
    obtain ⟨rfl, rfl⟩ := hp
    change WW X _ 5 [.ref m, .retAddr 0, .retAddr 0] [.int p1.1] _
    refine ww_bipush (v := (32 : Int32)) C dX9_token_5 (by decide) ?_
    refine ww_icmp_eq C dX9_token_7 20 rfl (fun hc => ?_) (fun hc => ?_)
    · rw [if_pos hc] at H
      exact cX9_token_20 hS C hZ E hk ih H
    · rw [if_neg hc] at H
      refine ww_aload_n C dX9_token_10 0 rfl rfl ?_
      refine ww_iconst (v := (0 : Int32)) C dX9_token_11 (by decide) ?_
      obtain ⟨p2, hc1, H⟩ := bd_of H
      refine ww_callV C hZ dX9_token_12 cw_X9_189 (ccX9_here hS hc1) hS.1 ⟨by decide, rfl⟩ (by decide) rfl rfl (Nat.le_of_ble_eq_true rfl) ⟨Nat.zero_le _, Nat.zero_le _⟩ (fun v τ hp => ?_)
      obtain ⟨rfl, rfl⟩ := hp
      change WW X _ 15 [.ref m, .retAddr 0, .retAddr 0] [.int p2.1] _
      refine ww_bipush (v := (10 : Int32)) C dX9_token_15 (by decide) ?_
      refine ww_icmp_ne C dX9_token_17 33 rfl (fun hc => ?_) (fun hc => ?_)
      · rw [if_neg hc] at H
        exact hk p2.2 H
      · rw [if_pos hc] at H
        exact cX9_token_20 hS C hZ E hk ih H
def fX9_token_232 (m : Nat) (h : HI) (v2 : Int32) : Option (HI) := (if (h.1 m 6) = (3 : Int32) then some h else some (uI h m 4 ((h.1 m 4) + v2)))
set_option maxRecDepth 100000 in
set_option maxHeartbeats 4000000 in
theorem cX9_token_232 {X : CT} {sh : Sh} {adr : Nat → Nat} {r : Nat → Nat → Option Nat} {m : Nat} {p : HI} (hS : MS sh r m) (C : CX X yX9_token.cls cX9_token 3 1) (hZ : SZX X adr) (E : RX X none sh adr (fun v τ => v = none ∧ τ = mk p r)) {h : HI} {v2 : Int32} (H : fX9_token_232 m h v2 = some p) : WW X (sh, adr, 0, 0) 232 [.ref m, .retAddr 0, .int v2] [] (mk h r) := by
  rw [fX9_token_232] at H
  refine ww_aload_n C dX9_token_232 0 rfl rfl ?_
  refine wk_getI C dX9_token_233 fl_X9_203 hS.1 rfl ?_
  refine ww_iconst (v := (3 : Int32)) C dX9_token_236 (by decide) ?_
  refine ww_icmp_eq C dX9_token_237 250 rfl (fun hc => ?_) (fun hc => ?_)
  · rw [if_pos hc] at H
    cases H
    exact ww_vret C E dX9_token_250 ⟨rfl, rfl⟩
  · rw [if_neg hc] at H
    refine ww_aload_n C dX9_token_240 0 rfl rfl ?_
    refine ww_dup C dX9_token_241 rfl ?_
    refine wk_getI C dX9_token_242 fl_X9_183 hS.1 rfl ?_
    refine ww_iload_n C dX9_token_245 2 rfl rfl ?_
    refine ww_iadd C dX9_token_246 ?_
    refine wk_putI C dX9_token_247 fl_X9_183 hS.1 rfl rfl ?_
    cases H
    exact ww_vret C E dX9_token_250 ⟨rfl, rfl⟩
def fX9_token_229 (m : Nat) (h : HI) (v2 : Int32) (s0 : Int32) : Option (HI) := fX9_token_232 m (uI h m 6 s0) v2
set_option maxRecDepth 100000 in
set_option maxHeartbeats 4000000 in
theorem cX9_token_229 {X : CT} {sh : Sh} {adr : Nat → Nat} {r : Nat → Nat → Option Nat} {m : Nat} {p : HI} (hS : MS sh r m) (C : CX X yX9_token.cls cX9_token 3 1) (hZ : SZX X adr) (E : RX X none sh adr (fun v τ => v = none ∧ τ = mk p r)) {h : HI} {v2 : Int32} {s0 : Int32} (H : fX9_token_229 m h v2 s0 = some p) : WW X (sh, adr, 0, 0) 229 [.ref m, .retAddr 0, .int v2] [.int s0, .ref m] (mk h r) := by
  rw [fX9_token_229] at H
  refine wk_putI C dX9_token_229 fl_X9_203 hS.1 rfl rfl ?_
  exact cX9_token_232 hS C hZ E H
def fX9_token_180 (m : Nat) (k : HI → Int32 → Option (HI)) (kb : HI → Int32 → Option (HI)) (h : HI) (v2 : Int32) : Option (HI) := kb h (v2 + (1 : Int32))
set_option maxRecDepth 100000 in
set_option maxHeartbeats 4000000 in
theorem cX9_token_180 {X : CT} {sh : Sh} {adr : Nat → Nat} {r : Nat → Nat → Option Nat} {m : Nat} {p : HI} (hS : MS sh r m) (C : CX X yX9_token.cls cX9_token 3 1) (hZ : SZX X adr) (E : RX X none sh adr (fun v τ => v = none ∧ τ = mk p r)) {k : HI → Int32 → Option (HI)} {kb : HI → Int32 → Option (HI)} (hk : ∀ (h : HI) (v2 : Int32), k h v2 = some p → WW X (sh, adr, 0, 0) 186 [.ref m, .retAddr 0, .int v2] [] (mk h r)) (hb : ∀ (h : HI) (v2 : Int32), kb h v2 = some p → WW X (sh, adr, 0, 0) 144 [.ref m, .retAddr 0, .int v2] [] (mk h r)) {h : HI} {v2 : Int32} (H : fX9_token_180 m k kb h v2 = some p) : WW X (sh, adr, 0, 0) 180 [.ref m, .retAddr 0, .int v2] [] (mk h r) := by
  rw [fX9_token_180] at H
  refine ww_iinc (v := (v2 + (1 : Int32))) C dX9_token_180 rfl rfl (by decide) rfl [.ref m, .retAddr 0, .int (v2 + (1 : Int32))] rfl ?_
  refine ww_goto C dX9_token_183 144 rfl ?_
  exact hb h (v2 + (1 : Int32)) H
def fX9_token_144 (m : Nat) (k : HI → Int32 → Option (HI)) : Nat → HI → Int32 → Option (HI)
  | 0, _, _ => none
  | n + 1, h, v2 => ((fX9_here m h v2).bind fun p9 => ((fX9_isDigit p9.2 p9.1).bind fun p10 => (if p10.1 = 0 then k p10.2 v2 else (if (4 : Int32) ≤ v2 then fX9_token_180 m (k) (fX9_token_144 m k n) p10.2 v2 else ((fX9_here m p10.2 v2).bind fun p11 => fX9_token_180 m (k) (fX9_token_144 m k n) (uI p11.2 m 8 ((((10 : Int32) * (p10.2.1 m 8)) + p11.1) - (48 : Int32))) v2)))))
set_option maxRecDepth 100000 in
set_option maxHeartbeats 4000000 in
theorem cX9_token_144 {X : CT} {sh : Sh} {adr : Nat → Nat} {r : Nat → Nat → Option Nat} {m : Nat} {p : HI} (hS : MS sh r m) (C : CX X yX9_token.cls cX9_token 3 1) (hZ : SZX X adr) (E : RX X none sh adr (fun v τ => v = none ∧ τ = mk p r)) {k : HI → Int32 → Option (HI)} (hk : ∀ (h : HI) (v2 : Int32), k h v2 = some p → WW X (sh, adr, 0, 0) 186 [.ref m, .retAddr 0, .int v2] [] (mk h r)) : ∀ (n : Nat) (h : HI) (v2 : Int32), fX9_token_144 m k n h v2 = some p → WW X (sh, adr, 0, 0) 144 [.ref m, .retAddr 0, .int v2] [] (mk h r) := by
  intro n
  induction n with
  | zero =>
    intro h v2 H
    rw [fX9_token_144] at H
    cases H
  | succ n ih =>
    intro h v2 H
    rw [fX9_token_144] at H
    refine ww_aload_n C dX9_token_144 0 rfl rfl ?_
    refine ww_iload_n C dX9_token_145 2 rfl rfl ?_
    obtain ⟨p9, hc1, H⟩ := bd_of H
    refine ww_callV C hZ dX9_token_146 cw_X9_189 (ccX9_here hS hc1) hS.1 ⟨by decide, rfl⟩ (by decide) rfl rfl (Nat.le_of_ble_eq_true rfl) ⟨Nat.zero_le _, Nat.zero_le _⟩ (fun v τ hp => ?_)
    obtain ⟨rfl, rfl⟩ := hp
    change WW X _ 149 [.ref m, .retAddr 0, .int v2] [.int p9.1] _
    obtain ⟨p10, hc1, H⟩ := bd_of H
    refine ww_callS C hZ dX9_token_149 sw_X9_210 (ccX9_isDigit hc1) (by decide) rfl rfl (Nat.le_of_ble_eq_true rfl) ⟨Nat.zero_le _, Nat.zero_le _⟩ (fun v τ hp => ?_)
    obtain ⟨rfl, rfl⟩ := hp
    change WW X _ 152 [.ref m, .retAddr 0, .int v2] [.int p10.1] _
    refine ww_if_eq C dX9_token_152 186 rfl (fun hc => ?_) (fun hc => ?_)
    · rw [if_pos hc] at H
      exact hk p10.2 v2 H
    · rw [if_neg hc] at H
      refine ww_iload_n C dX9_token_155 2 rfl rfl ?_
      refine ww_iconst (v := (4 : Int32)) C dX9_token_156 (by decide) ?_
      refine ww_icmp_ge C dX9_token_157 180 rfl (fun hc => ?_) (fun hc => ?_)
      · rw [if_pos hc] at H
        exact cX9_token_180 hS C hZ E hk ih H
      · rw [if_neg hc] at H
        refine ww_aload_n C dX9_token_160 0 rfl rfl ?_
        refine ww_bipush (v := (10 : Int32)) C dX9_token_161 (by decide) ?_
        refine ww_aload_n C dX9_token_163 0 rfl rfl ?_
        refine wk_getI C dX9_token_164 fl_X9_200 hS.1 rfl ?_
        refine ww_imul C dX9_token_167 ?_
        refine ww_aload_n C dX9_token_168 0 rfl rfl ?_
        refine ww_iload_n C dX9_token_169 2 rfl rfl ?_
        obtain ⟨p11, hc1, H⟩ := bd_of H
        refine ww_callV C hZ dX9_token_170 cw_X9_189 (ccX9_here hS hc1) hS.1 ⟨by decide, rfl⟩ (by decide) rfl rfl (Nat.le_of_ble_eq_true rfl) ⟨Nat.zero_le _, Nat.zero_le _⟩ (fun v τ hp => ?_)
        obtain ⟨rfl, rfl⟩ := hp
        change WW X _ 173 [.ref m, .retAddr 0, .int v2] [.int p11.1, .int ((10 : Int32) * (p10.2.1 m 8)), .ref m] _
        refine ww_iadd C dX9_token_173 ?_
        refine ww_bipush (v := (48 : Int32)) C dX9_token_174 (by decide) ?_
        refine ww_isub C dX9_token_176 ?_
        refine wk_putI C dX9_token_177 fl_X9_200 hS.1 rfl rfl ?_
        exact cX9_token_180 hS C hZ E hk ih H
def fX9_token_208 (m : Nat) (h : HI) (v2 : Int32) (s0 : Int32) : Option (HI) := fX9_token_232 m (uI h m 6 s0) v2
set_option maxRecDepth 100000 in
set_option maxHeartbeats 4000000 in
theorem cX9_token_208 {X : CT} {sh : Sh} {adr : Nat → Nat} {r : Nat → Nat → Option Nat} {m : Nat} {p : HI} (hS : MS sh r m) (C : CX X yX9_token.cls cX9_token 3 1) (hZ : SZX X adr) (E : RX X none sh adr (fun v τ => v = none ∧ τ = mk p r)) {h : HI} {v2 : Int32} {s0 : Int32} (H : fX9_token_208 m h v2 s0 = some p) : WW X (sh, adr, 0, 0) 208 [.ref m, .retAddr 0, .int v2] [.int s0, .ref m] (mk h r) := by
  rw [fX9_token_208] at H
  refine wk_putI C dX9_token_208 fl_X9_203 hS.1 rfl rfl ?_
  refine ww_goto C dX9_token_211 232 rfl ?_
  exact cX9_token_232 hS C hZ E H
def fX9_token_203 (m : Nat) (h : HI) (v2 : Int32) : Option (HI) := fX9_token_208 m h v2 (3 : Int32)
set_option maxRecDepth 100000 in
set_option maxHeartbeats 4000000 in
theorem cX9_token_203 {X : CT} {sh : Sh} {adr : Nat → Nat} {r : Nat → Nat → Option Nat} {m : Nat} {p : HI} (hS : MS sh r m) (C : CX X yX9_token.cls cX9_token 3 1) (hZ : SZX X adr) (E : RX X none sh adr (fun v τ => v = none ∧ τ = mk p r)) {h : HI} {v2 : Int32} (H : fX9_token_203 m h v2 = some p) : WW X (sh, adr, 0, 0) 203 [.ref m, .retAddr 0, .int v2] [.ref m] (mk h r) := by
  rw [fX9_token_203] at H
  refine ww_iconst (v := (3 : Int32)) C dX9_token_203 (by decide) ?_
  refine ww_goto C dX9_token_204 208 rfl ?_
  exact cX9_token_208 hS C hZ E H
def fX9_token_113 (m : Nat) (k : HI → Int32 → Option (HI)) (kb : HI → Int32 → Option (HI)) (h : HI) (v2 : Int32) : Option (HI) := kb h (v2 + (1 : Int32))
set_option maxRecDepth 100000 in
set_option maxHeartbeats 4000000 in
theorem cX9_token_113 {X : CT} {sh : Sh} {adr : Nat → Nat} {r : Nat → Nat → Option Nat} {m : Nat} {p : HI} (hS : MS sh r m) (C : CX X yX9_token.cls cX9_token 3 1) (hZ : SZX X adr) (E : RX X none sh adr (fun v τ => v = none ∧ τ = mk p r)) {k : HI → Int32 → Option (HI)} {kb : HI → Int32 → Option (HI)} (hk : ∀ (h : HI) (v2 : Int32), k h v2 = some p → WW X (sh, adr, 0, 0) 119 [.ref m, .retAddr 0, .int v2] [] (mk h r)) (hb : ∀ (h : HI) (v2 : Int32), kb h v2 = some p → WW X (sh, adr, 0, 0) 78 [.ref m, .retAddr 0, .int v2] [] (mk h r)) {h : HI} {v2 : Int32} (H : fX9_token_113 m k kb h v2 = some p) : WW X (sh, adr, 0, 0) 113 [.ref m, .retAddr 0, .int v2] [] (mk h r) := by
  rw [fX9_token_113] at H
  refine ww_iinc (v := (v2 + (1 : Int32))) C dX9_token_113 rfl rfl (by decide) rfl [.ref m, .retAddr 0, .int (v2 + (1 : Int32))] rfl ?_
  refine ww_goto C dX9_token_116 78 rfl ?_
  exact hb h (v2 + (1 : Int32)) H
def fX9_token_78 (m : Nat) (k : HI → Int32 → Option (HI)) : Nat → HI → Int32 → Option (HI)
  | 0, _, _ => none
  | n + 1, h, v2 => ((fX9_here m h v2).bind fun p16 => ((fX9_isLetter p16.2 p16.1).bind fun p17 => (if p17.1 = 0 then k p17.2 v2 else (if (8 : Int32) ≤ v2 then fX9_token_113 m (k) (fX9_token_78 m k n) p17.2 v2 else ((fX9_here m p17.2 v2).bind fun p18 => fX9_token_113 m (k) (fX9_token_78 m k n) (uL p18.2 m 9 (((p17.2.2 m 9) <<< ((8 : Int32).toInt64 &&& 63)) ||| p18.1.toInt64)) v2)))))
set_option maxRecDepth 100000 in
set_option maxHeartbeats 4000000 in
theorem cX9_token_78 {X : CT} {sh : Sh} {adr : Nat → Nat} {r : Nat → Nat → Option Nat} {m : Nat} {p : HI} (hS : MS sh r m) (C : CX X yX9_token.cls cX9_token 3 1) (hZ : SZX X adr) (E : RX X none sh adr (fun v τ => v = none ∧ τ = mk p r)) {k : HI → Int32 → Option (HI)} (hk : ∀ (h : HI) (v2 : Int32), k h v2 = some p → WW X (sh, adr, 0, 0) 119 [.ref m, .retAddr 0, .int v2] [] (mk h r)) : ∀ (n : Nat) (h : HI) (v2 : Int32), fX9_token_78 m k n h v2 = some p → WW X (sh, adr, 0, 0) 78 [.ref m, .retAddr 0, .int v2] [] (mk h r) := by
  intro n
  induction n with
  | zero =>
    intro h v2 H
    rw [fX9_token_78] at H
    cases H
  | succ n ih =>
    intro h v2 H
    rw [fX9_token_78] at H
    refine ww_aload_n C dX9_token_78 0 rfl rfl ?_
    refine ww_iload_n C dX9_token_79 2 rfl rfl ?_
    obtain ⟨p16, hc1, H⟩ := bd_of H
    refine ww_callV C hZ dX9_token_80 cw_X9_189 (ccX9_here hS hc1) hS.1 ⟨by decide, rfl⟩ (by decide) rfl rfl (Nat.le_of_ble_eq_true rfl) ⟨Nat.zero_le _, Nat.zero_le _⟩ (fun v τ hp => ?_)
    obtain ⟨rfl, rfl⟩ := hp
    change WW X _ 83 [.ref m, .retAddr 0, .int v2] [.int p16.1] _
    obtain ⟨p17, hc1, H⟩ := bd_of H
    refine ww_callS C hZ dX9_token_83 sw_X9_206 (ccX9_isLetter hc1) (by decide) rfl rfl (Nat.le_of_ble_eq_true rfl) ⟨Nat.zero_le _, Nat.zero_le _⟩ (fun v τ hp => ?_)
    obtain ⟨rfl, rfl⟩ := hp
    change WW X _ 86 [.ref m, .retAddr 0, .int v2] [.int p17.1] _
    refine ww_if_eq C dX9_token_86 119 rfl (fun hc => ?_) (fun hc => ?_)
    · rw [if_pos hc] at H
      exact hk p17.2 v2 H
    · rw [if_neg hc] at H
      refine ww_iload_n C dX9_token_89 2 rfl rfl ?_
      refine ww_bipush (v := (8 : Int32)) C dX9_token_90 (by decide) ?_
      refine ww_icmp_ge C dX9_token_92 113 rfl (fun hc => ?_) (fun hc => ?_)
      · rw [if_pos hc] at H
        exact cX9_token_113 hS C hZ E hk ih H
      · rw [if_neg hc] at H
        refine ww_aload_n C dX9_token_95 0 rfl rfl ?_
        refine ww_aload_n C dX9_token_96 0 rfl rfl ?_
        refine wk_getJ C dX9_token_97 fl_X9_196 hS.1 rfl ?_
        refine ww_bipush (v := (8 : Int32)) C dX9_token_100 (by decide) ?_
        refine ww_lshl C dX9_token_102 ?_
        refine ww_aload_n C dX9_token_103 0 rfl rfl ?_
        refine ww_iload_n C dX9_token_104 2 rfl rfl ?_
        obtain ⟨p18, hc1, H⟩ := bd_of H
        refine ww_callV C hZ dX9_token_105 cw_X9_189 (ccX9_here hS hc1) hS.1 ⟨by decide, rfl⟩ (by decide) rfl rfl (Nat.le_of_ble_eq_true rfl) ⟨Nat.zero_le _, Nat.zero_le _⟩ (fun v τ hp => ?_)
        obtain ⟨rfl, rfl⟩ := hp
        change WW X _ 108 [.ref m, .retAddr 0, .int v2] [.int p18.1, .long ((p17.2.2 m 9) <<< ((8 : Int32).toInt64 &&& 63)), .ref m] _
        refine ww_i2l C dX9_token_108 ?_
        refine ww_lor C dX9_token_109 ?_
        refine wk_putJ C dX9_token_110 fl_X9_196 hS.1 rfl rfl ?_
        exact cX9_token_113 hS C hZ E hk ih H
def fX9_token_131 (m : Nat) (h : HI) (v2 : Int32) (s0 : Int32) : Option (HI) := fX9_token_232 m (uI h m 6 s0) v2
set_option maxRecDepth 100000 in
set_option maxHeartbeats 4000000 in
theorem cX9_token_131 {X : CT} {sh : Sh} {adr : Nat → Nat} {r : Nat → Nat → Option Nat} {m : Nat} {p : HI} (hS : MS sh r m) (C : CX X yX9_token.cls cX9_token 3 1) (hZ : SZX X adr) (E : RX X none sh adr (fun v τ => v = none ∧ τ = mk p r)) {h : HI} {v2 : Int32} {s0 : Int32} (H : fX9_token_131 m h v2 s0 = some p) : WW X (sh, adr, 0, 0) 131 [.ref m, .retAddr 0, .int v2] [.int s0, .ref m] (mk h r) := by
  rw [fX9_token_131] at H
  refine wk_putI C dX9_token_131 fl_X9_203 hS.1 rfl rfl ?_
  refine ww_goto C dX9_token_134 232 rfl ?_
  exact cX9_token_232 hS C hZ E H
def fX9_token (m : Nat) (h : HI) : Option (HI) := fX9_token_0 m (fun h4 => ((fX9_here m (uI h4 m 7 (h4.1 m 4)) (0 : Int32)).bind fun p5 => (if 0 ≤ p5.1 then ((fX9_isLetter (uI (uL p5.2 m 9 (0 : Int64)) m 8 (0 : Int32)) p5.1).bind fun p6 => (if p6.1 = 0 then ((fX9_isDigit p6.2 p5.1).bind fun p7 => (if p7.1 = 0 then ((fX9_isSign p7.2 p5.1).bind fun p8 => (if p8.1 = 0 then fX9_token_229 m p8.2 (1 : Int32) (3 : Int32) else fX9_token_229 m p8.2 (1 : Int32) p5.1)) else fX9_token_144 m (fun h13 v2 => (if (4 : Int32) < v2 then fX9_token_203 m h13 v2 else ((fX9_here m h13 v2).bind fun p14 => ((fX9_isLetter p14.2 p14.1).bind fun p15 => (if p15.1 = 0 then fX9_token_208 m p15.2 v2 (2 : Int32) else fX9_token_203 m p15.2 v2))))) FU p7.2 (0 : Int32))) else fX9_token_78 m (fun h20 v2 => (if v2 ≤ (8 : Int32) then fX9_token_131 m h20 v2 (1 : Int32) else fX9_token_131 m h20 v2 (3 : Int32))) FU p6.2 (0 : Int32))) else fX9_token_232 m (uI (uI (uL p5.2 m 9 (0 : Int64)) m 8 (0 : Int32)) m 6 (0 : Int32)) (0 : Int32)))) FU h
set_option maxRecDepth 100000 in
set_option maxHeartbeats 4000000 in
theorem ccX9_token {l : Launch} {sh : Sh} {adr : Nat → Nat} {r : Nat → Nat → Option Nat} {m : Nat} (hS : MS sh r m) {h : HI}  {p : HI} (H : fX9_token m h = some p) : CC l yX9_token cX9_token 3 none 1 [.ref m] sh adr (mk h r) (fun v τ => v = none ∧ τ = mk p r) := by
  refine CC.of (by decide) (Nat.le_of_ble_eq_true rfl) 2 [.ref m, .retAddr 0, .retAddr 0] rfl (fun X _ C E hZ => ?_)
  rw [fX9_token] at H
  refine cX9_token_0 hS C hZ E (fun h4 H => ?_) FU h H
  refine ww_aload_n C dX9_token_33 0 rfl rfl ?_
  refine ww_aload_n C dX9_token_34 0 rfl rfl ?_
  refine wk_getI C dX9_token_35 fl_X9_183 hS.1 rfl ?_
  refine wk_putI C dX9_token_38 fl_X9_193 hS.1 rfl rfl ?_
  refine ww_aload_n C dX9_token_41 0 rfl rfl ?_
  refine ww_iconst (v := (0 : Int32)) C dX9_token_42 (by decide) ?_
  obtain ⟨p5, hc1, H⟩ := bd_of H
  refine ww_callV C hZ dX9_token_43 cw_X9_189 (ccX9_here hS hc1) hS.1 ⟨by decide, rfl⟩ (by decide) rfl rfl (Nat.le_of_ble_eq_true rfl) ⟨Nat.zero_le _, Nat.zero_le _⟩ (fun v τ hp => ?_)
  obtain ⟨rfl, rfl⟩ := hp
  change WW X _ 46 [.ref m, .retAddr 0, .retAddr 0] [.int p5.1] _
  refine ww_istore_n C dX9_token_46 1 rfl (by decide) rfl [.ref m, .int p5.1, .retAddr 0] rfl ?_
  refine ww_iconst (v := (0 : Int32)) C dX9_token_47 (by decide) ?_
  refine ww_istore_n C dX9_token_48 2 rfl (by decide) rfl [.ref m, .int p5.1, .int (0 : Int32)] rfl ?_
  refine ww_aload_n C dX9_token_49 0 rfl rfl ?_
  refine ww_lconst (v := (0 : Int64)) C dX9_token_50 (by decide) ?_
  refine wk_putJ C dX9_token_51 fl_X9_196 hS.1 rfl rfl ?_
  refine ww_aload_n C dX9_token_54 0 rfl rfl ?_
  refine ww_iconst (v := (0 : Int32)) C dX9_token_55 (by decide) ?_
  refine wk_putI C dX9_token_56 fl_X9_200 hS.1 rfl rfl ?_
  refine ww_iload_n C dX9_token_59 1 rfl rfl ?_
  refine ww_if_ge C dX9_token_60 71 rfl (fun hc => ?_) (fun hc => ?_)
  · rw [if_pos hc] at H
    refine ww_iload_n C dX9_token_71 1 rfl rfl ?_
    obtain ⟨p6, hc1, H⟩ := bd_of H
    refine ww_callS C hZ dX9_token_72 sw_X9_206 (ccX9_isLetter hc1) (by decide) rfl rfl (Nat.le_of_ble_eq_true rfl) ⟨Nat.zero_le _, Nat.zero_le _⟩ (fun v τ hp => ?_)
    obtain ⟨rfl, rfl⟩ := hp
    change WW X _ 75 [.ref m, .int p5.1, .int (0 : Int32)] [.int p6.1] _
    refine ww_if_eq C dX9_token_75 137 rfl (fun hc => ?_) (fun hc => ?_)
    · rw [if_pos hc] at H
      refine ww_iload_n C dX9_token_137 1 rfl rfl ?_
      obtain ⟨p7, hc1, H⟩ := bd_of H
      refine ww_callS C hZ dX9_token_138 sw_X9_210 (ccX9_isDigit hc1) (by decide) rfl rfl (Nat.le_of_ble_eq_true rfl) ⟨Nat.zero_le _, Nat.zero_le _⟩ (fun v τ hp => ?_)
      obtain ⟨rfl, rfl⟩ := hp
      change WW X _ 141 [.ref m, .int p5.1, .int (0 : Int32)] [.int p7.1] _
      refine ww_if_eq C dX9_token_141 214 rfl (fun hc => ?_) (fun hc => ?_)
      · rw [if_pos hc] at H
        refine ww_iconst (v := (1 : Int32)) C dX9_token_214 (by decide) ?_
        refine ww_istore_n C dX9_token_215 2 rfl (by decide) rfl [.ref m, .int p5.1, .int (1 : Int32)] rfl ?_
        refine ww_aload_n C dX9_token_216 0 rfl rfl ?_
        refine ww_iload_n C dX9_token_217 1 rfl rfl ?_
        obtain ⟨p8, hc1, H⟩ := bd_of H
        refine ww_callS C hZ dX9_token_218 sw_X9_213 (ccX9_isSign hc1) (by decide) rfl rfl (Nat.le_of_ble_eq_true rfl) ⟨Nat.zero_le _, Nat.zero_le _⟩ (fun v τ hp => ?_)
        obtain ⟨rfl, rfl⟩ := hp
        change WW X _ 221 [.ref m, .int p5.1, .int (1 : Int32)] [.int p8.1, .ref m] _
        refine ww_if_eq C dX9_token_221 228 rfl (fun hc => ?_) (fun hc => ?_)
        · rw [if_pos hc] at H
          refine ww_iconst (v := (3 : Int32)) C dX9_token_228 (by decide) ?_
          exact ww_drop [.ref m, .retAddr 0, .int (1 : Int32)] (sl_e (sl_d (sl_e sl_n))) (cX9_token_229 hS C hZ E H)
        · rw [if_neg hc] at H
          refine ww_iload_n C dX9_token_224 1 rfl rfl ?_
          refine ww_goto C dX9_token_225 229 rfl ?_
          exact ww_drop [.ref m, .retAddr 0, .int (1 : Int32)] (sl_e (sl_d (sl_e sl_n))) (cX9_token_229 hS C hZ E H)
      · rw [if_neg hc] at H
        refine ww_drop [.ref m, .retAddr 0, .int (0 : Int32)] (sl_e (sl_d (sl_e sl_n))) (cX9_token_144 hS C hZ E (fun h13 v2 H => ?_) FU p7.2 (0 : Int32) H)
        refine ww_aload_n C dX9_token_186 0 rfl rfl ?_
        refine ww_iload_n C dX9_token_187 2 rfl rfl ?_
        refine ww_iconst (v := (4 : Int32)) C dX9_token_188 (by decide) ?_
        refine ww_icmp_gt C dX9_token_189 203 rfl (fun hc => ?_) (fun hc => ?_)
        · rw [if_pos hc] at H
          exact cX9_token_203 hS C hZ E H
        · rw [if_neg hc] at H
          refine ww_aload_n C dX9_token_192 0 rfl rfl ?_
          refine ww_iload_n C dX9_token_193 2 rfl rfl ?_
          obtain ⟨p14, hc1, H⟩ := bd_of H
          refine ww_callV C hZ dX9_token_194 cw_X9_189 (ccX9_here hS hc1) hS.1 ⟨by decide, rfl⟩ (by decide) rfl rfl (Nat.le_of_ble_eq_true rfl) ⟨Nat.zero_le _, Nat.zero_le _⟩ (fun v τ hp => ?_)
          obtain ⟨rfl, rfl⟩ := hp
          change WW X _ 197 [.ref m, .retAddr 0, .int v2] [.int p14.1, .ref m] _
          obtain ⟨p15, hc1, H⟩ := bd_of H
          refine ww_callS C hZ dX9_token_197 sw_X9_206 (ccX9_isLetter hc1) (by decide) rfl rfl (Nat.le_of_ble_eq_true rfl) ⟨Nat.zero_le _, Nat.zero_le _⟩ (fun v τ hp => ?_)
          obtain ⟨rfl, rfl⟩ := hp
          change WW X _ 200 [.ref m, .retAddr 0, .int v2] [.int p15.1, .ref m] _
          refine ww_if_eq C dX9_token_200 207 rfl (fun hc => ?_) (fun hc => ?_)
          · rw [if_pos hc] at H
            refine ww_iconst (v := (2 : Int32)) C dX9_token_207 (by decide) ?_
            exact cX9_token_208 hS C hZ E H
          · rw [if_neg hc] at H
            exact cX9_token_203 hS C hZ E H
    · rw [if_neg hc] at H
      refine ww_drop [.ref m, .retAddr 0, .int (0 : Int32)] (sl_e (sl_d (sl_e sl_n))) (cX9_token_78 hS C hZ E (fun h20 v2 H => ?_) FU p6.2 (0 : Int32) H)
      refine ww_aload_n C dX9_token_119 0 rfl rfl ?_
      refine ww_iload_n C dX9_token_120 2 rfl rfl ?_
      refine ww_bipush (v := (8 : Int32)) C dX9_token_121 (by decide) ?_
      refine ww_icmp_le C dX9_token_123 130 rfl (fun hc => ?_) (fun hc => ?_)
      · rw [if_pos hc] at H
        refine ww_iconst (v := (1 : Int32)) C dX9_token_130 (by decide) ?_
        exact cX9_token_131 hS C hZ E H
      · rw [if_neg hc] at H
        refine ww_iconst (v := (3 : Int32)) C dX9_token_126 (by decide) ?_
        refine ww_goto C dX9_token_127 131 rfl ?_
        exact cX9_token_131 hS C hZ E H
  · rw [if_neg hc] at H
    refine ww_aload_n C dX9_token_63 0 rfl rfl ?_
    refine ww_iconst (v := (0 : Int32)) C dX9_token_64 (by decide) ?_
    refine wk_putI C dX9_token_65 fl_X9_203 hS.1 rfl rfl ?_
    refine ww_goto C dX9_token_68 232 rfl ?_
    exact ww_drop [.ref m, .retAddr 0, .int (0 : Int32)] (sl_e (sl_d (sl_e sl_n))) (cX9_token_232 hS C hZ E H)
def fX9_wrongAt_30 (m : Nat) (h : HI) (v2 : Int32) (s0 : Int32) : Option (HI) := some (uI (uI h m 2 s0) m 3 v2)
set_option maxRecDepth 100000 in
set_option maxHeartbeats 4000000 in
theorem cX9_wrongAt_30 {X : CT} {sh : Sh} {adr : Nat → Nat} {r : Nat → Nat → Option Nat} {m : Nat} {p : HI} (hS : MS sh r m) (C : CX X yX9_wrongAt.cls cX9_wrongAt 3 0) (hZ : SZX X adr) (E : RX X none sh adr (fun v τ => v = none ∧ τ = mk p r)) {h : HI} {v2 : Int32} {s0 : Int32} (H : fX9_wrongAt_30 m h v2 s0 = some p) : WW X (sh, adr, 0, 0) 30 [.ref m, .retAddr 0, .int v2] [.int s0, .ref m] (mk h r) := by
  rw [fX9_wrongAt_30] at H
  refine wk_putI C dX9_wrongAt_30 fl_X9_216 hS.1 rfl rfl ?_
  refine ww_aload_n C dX9_wrongAt_33 0 rfl rfl ?_
  refine ww_iload_n C dX9_wrongAt_34 2 rfl rfl ?_
  refine wk_putI C dX9_wrongAt_35 fl_X9_13 hS.1 rfl rfl ?_
  cases H
  exact ww_vret C E dX9_wrongAt_38 ⟨rfl, rfl⟩
def fX9_wrongAt_29 (m : Nat) (h : HI) (v1 : Int32) (v2 : Int32) : Option (HI) := fX9_wrongAt_30 m h v2 v1
set_option maxRecDepth 100000 in
set_option maxHeartbeats 4000000 in
theorem cX9_wrongAt_29 {X : CT} {sh : Sh} {adr : Nat → Nat} {r : Nat → Nat → Option Nat} {m : Nat} {p : HI} (hS : MS sh r m) (C : CX X yX9_wrongAt.cls cX9_wrongAt 3 0) (hZ : SZX X adr) (E : RX X none sh adr (fun v τ => v = none ∧ τ = mk p r)) {h : HI} {v1 : Int32} {v2 : Int32} (H : fX9_wrongAt_29 m h v1 v2 = some p) : WW X (sh, adr, 0, 0) 29 [.ref m, .int v1, .int v2] [.ref m] (mk h r) := by
  rw [fX9_wrongAt_29] at H
  refine ww_iload_n C dX9_wrongAt_29 1 rfl rfl ?_
  exact ww_drop [.ref m, .retAddr 0, .int v2] (sl_e (sl_d (sl_e sl_n))) (cX9_wrongAt_30 hS C hZ E H)
def fX9_wrongAt (m : Nat) (h : HI) (a1 : Int32) (a2 : Int32) : Option (HI) := (if (h.1 m 2) ≤ 0 then (if (h.1 m 6) = (3 : Int32) then (if a2 = (h.1 m 7) then fX9_wrongAt_30 m h a2 (1 : Int32) else fX9_wrongAt_29 m h a1 a2) else fX9_wrongAt_29 m h a1 a2) else some h)
set_option maxRecDepth 100000 in
set_option maxHeartbeats 4000000 in
theorem ccX9_wrongAt {l : Launch} {sh : Sh} {adr : Nat → Nat} {r : Nat → Nat → Option Nat} {m : Nat} (hS : MS sh r m) {h : HI} {a1 : Int32} {a2 : Int32} {p : HI} (H : fX9_wrongAt m h a1 a2 = some p) : CC l yX9_wrongAt cX9_wrongAt 3 none 0 [.ref m, .int a1, .int a2] sh adr (mk h r) (fun v τ => v = none ∧ τ = mk p r) := by
  refine CC.of (by decide) (Nat.le_of_ble_eq_true rfl) 0 [.ref m, .int a1, .int a2] rfl (fun X _ C E hZ => ?_)
  rw [fX9_wrongAt] at H
  refine ww_aload_n C dX9_wrongAt_0 0 rfl rfl ?_
  refine wk_getI C dX9_wrongAt_1 fl_X9_216 hS.1 rfl ?_
  refine ww_if_le C dX9_wrongAt_4 8 rfl (fun hc => ?_) (fun hc => ?_)
  · rw [if_pos hc] at H
    refine ww_aload_n C dX9_wrongAt_8 0 rfl rfl ?_
    refine ww_aload_n C dX9_wrongAt_9 0 rfl rfl ?_
    refine wk_getI C dX9_wrongAt_10 fl_X9_203 hS.1 rfl ?_
    refine ww_iconst (v := (3 : Int32)) C dX9_wrongAt_13 (by decide) ?_
    refine ww_icmp_ne C dX9_wrongAt_14 29 rfl (fun hc => ?_) (fun hc => ?_)
    · rw [if_neg hc] at H
      exact cX9_wrongAt_29 hS C hZ E H
    · rw [if_pos hc] at H
      refine ww_iload_n C dX9_wrongAt_17 2 rfl rfl ?_
      refine ww_aload_n C dX9_wrongAt_18 0 rfl rfl ?_
      refine wk_getI C dX9_wrongAt_19 fl_X9_193 hS.1 rfl ?_
      refine ww_icmp_ne C dX9_wrongAt_22 29 rfl (fun hc => ?_) (fun hc => ?_)
      · rw [if_neg hc] at H
        exact cX9_wrongAt_29 hS C hZ E H
      · rw [if_pos hc] at H
        refine ww_iconst (v := (1 : Int32)) C dX9_wrongAt_25 (by decide) ?_
        refine ww_goto C dX9_wrongAt_26 30 rfl ?_
        exact ww_drop [.ref m, .retAddr 0, .int a2] (sl_e (sl_d (sl_e sl_n))) (cX9_wrongAt_30 hS C hZ E H)
  · rw [if_neg hc] at H
    cases H
    exact ww_vret C E dX9_wrongAt_7 ⟨rfl, rfl⟩
def fX9_wrong (m : Nat) (h : HI) (a1 : Int32) : Option (HI) := ((fX9_wrongAt m h a1 (h.1 m 7)).bind fun h1 => some h1)
set_option maxRecDepth 100000 in
set_option maxHeartbeats 4000000 in
theorem ccX9_wrong {l : Launch} {sh : Sh} {adr : Nat → Nat} {r : Nat → Nat → Option Nat} {m : Nat} (hS : MS sh r m) {h : HI} {a1 : Int32} {p : HI} (H : fX9_wrong m h a1 = some p) : CC l yX9_wrong cX9_wrong 2 none 1 [.ref m, .int a1] sh adr (mk h r) (fun v τ => v = none ∧ τ = mk p r) := by
  refine CC.of (by decide) (Nat.le_of_ble_eq_true rfl) 0 [.ref m, .int a1] rfl (fun X _ C E hZ => ?_)
  rw [fX9_wrong] at H
  refine ww_aload_n C dX9_wrong_0 0 rfl rfl ?_
  refine ww_iload_n C dX9_wrong_1 1 rfl rfl ?_
  refine ww_aload_n C dX9_wrong_2 0 rfl rfl ?_
  refine wk_getI C dX9_wrong_3 fl_X9_193 hS.1 rfl ?_
  obtain ⟨h1, hc1, H⟩ := bd_of H
  refine ww_callV C hZ dX9_wrong_6 cw_X9_219 (ccX9_wrongAt hS hc1) hS.1 ⟨by decide, rfl⟩ (by decide) rfl rfl (Nat.le_of_ble_eq_true rfl) ⟨Nat.zero_le _, Nat.zero_le _⟩ (fun v τ hp => ?_)
  obtain ⟨rfl, rfl⟩ := hp
  change WW X _ 9 [.ref m, .int a1] [] _
  cases H
  exact ww_vret C E dX9_wrong_9 ⟨rfl, rfl⟩
def fX9_isWord (m : Nat) (h : HI) (a1 : Int64) : Option (Int32 × HI) := (if (h.1 m 6) = (1 : Int32) then (if (lg_cmp (h.2 m 9) a1) = 0 then some ((1 : Int32), h) else some ((0 : Int32), h)) else some ((0 : Int32), h))
set_option maxRecDepth 100000 in
set_option maxHeartbeats 4000000 in
theorem ccX9_isWord {l : Launch} {sh : Sh} {adr : Nat → Nat} {r : Nat → Nat → Option Nat} {m : Nat} (hS : MS sh r m) {h : HI} {a1 : Int64} {p : Int32 × HI} (H : fX9_isWord m h a1 = some p) : CC l yX9_isWord cX9_isWord 3 (some .boolean) 0 [.ref m, .long a1] sh adr (mk h r) (fun v τ => v = some (.int p.1) ∧ τ = mk p.2 r) := by
  refine CC.of (by decide) (Nat.le_of_ble_eq_true rfl) 0 [.ref m, .long a1, .retAddr 0] rfl (fun X _ C E hZ => ?_)
  rw [fX9_isWord] at H
  refine ww_aload_n C dX9_isWord_0 0 rfl rfl ?_
  refine wk_getI C dX9_isWord_1 fl_X9_203 hS.1 rfl ?_
  refine ww_iconst (v := (1 : Int32)) C dX9_isWord_4 (by decide) ?_
  refine ww_icmp_ne C dX9_isWord_5 21 rfl (fun hc => ?_) (fun hc => ?_)
  · rw [if_neg hc] at H
    refine ww_iconst (v := (0 : Int32)) C dX9_isWord_21 (by decide) ?_
    cases H
    exact ww_zret C E dX9_isWord_22 (Or.inl rfl) ⟨rfl, rfl⟩
  · rw [if_pos hc] at H
    refine ww_aload_n C dX9_isWord_8 0 rfl rfl ?_
    refine wk_getJ C dX9_isWord_9 fl_X9_196 hS.1 rfl ?_
    refine ww_lload_n C dX9_isWord_12 1 rfl rfl ?_
    refine ww_lcmp C dX9_isWord_13 ?_
    refine ww_if_ne C dX9_isWord_14 21 rfl (fun hc => ?_) (fun hc => ?_)
    · rw [if_neg hc] at H
      refine ww_iconst (v := (0 : Int32)) C dX9_isWord_21 (by decide) ?_
      cases H
      exact ww_zret C E dX9_isWord_22 (Or.inl rfl) ⟨rfl, rfl⟩
    · rw [if_pos hc] at H
      refine ww_iconst (v := (1 : Int32)) C dX9_isWord_17 (by decide) ?_
      refine ww_goto C dX9_isWord_18 22 rfl ?_
      cases H
      exact ww_zret C E dX9_isWord_22 (Or.inr rfl) ⟨rfl, rfl⟩
def fX9_isName_252 (m : Nat) (h : HI) (v1 : Int32) (s0 : Int32) : Option (Int32 × HI) := (if v1 = 0 then (if s0 = 0 then some ((1 : Int32), h) else some ((0 : Int32), h)) else some ((0 : Int32), h))
set_option maxRecDepth 100000 in
set_option maxHeartbeats 4000000 in
theorem cX9_isName_252 {X : CT} {sh : Sh} {adr : Nat → Nat} {r : Nat → Nat → Option Nat} {m : Nat} {p : Int32 × HI} (hS : MS sh r m) (C : CX X yX9_isName.cls cX9_isName 3 0) (hZ : SZX X adr) (E : RX X (some .boolean) sh adr (fun v τ => v = some (.int p.1) ∧ τ = mk p.2 r)) {h : HI} {v1 : Int32} {s0 : Int32} (H : fX9_isName_252 m h v1 s0 = some p) : WW X (sh, adr, 0, 0) 252 [.ref m, .int v1, .retAddr 0] [.int s0] (mk h r) := by
  rw [fX9_isName_252] at H
  refine ww_istore_n C dX9_isName_252 2 rfl (by decide) rfl [.ref m, .int v1, .int s0] rfl ?_
  refine ww_iload_n C dX9_isName_253 1 rfl rfl ?_
  refine ww_if_ne C dX9_isName_254 265 rfl (fun hc => ?_) (fun hc => ?_)
  · rw [if_neg hc] at H
    refine ww_iconst (v := (0 : Int32)) C dX9_isName_265 (by decide) ?_
    cases H
    exact ww_zret C E dX9_isName_266 (Or.inl rfl) ⟨rfl, rfl⟩
  · rw [if_pos hc] at H
    refine ww_iload_n C dX9_isName_257 2 rfl rfl ?_
    refine ww_if_ne C dX9_isName_258 265 rfl (fun hc => ?_) (fun hc => ?_)
    · rw [if_neg hc] at H
      refine ww_iconst (v := (0 : Int32)) C dX9_isName_265 (by decide) ?_
      cases H
      exact ww_zret C E dX9_isName_266 (Or.inl rfl) ⟨rfl, rfl⟩
    · rw [if_pos hc] at H
      refine ww_iconst (v := (1 : Int32)) C dX9_isName_261 (by decide) ?_
      refine ww_goto C dX9_isName_262 266 rfl ?_
      cases H
      exact ww_zret C E dX9_isName_266 (Or.inr rfl) ⟨rfl, rfl⟩
def fX9_isName_247 (m : Nat) (h : HI) (v1 : Int32) : Option (Int32 × HI) := fX9_isName_252 m h v1 (1 : Int32)
set_option maxRecDepth 100000 in
set_option maxHeartbeats 4000000 in
theorem cX9_isName_247 {X : CT} {sh : Sh} {adr : Nat → Nat} {r : Nat → Nat → Option Nat} {m : Nat} {p : Int32 × HI} (hS : MS sh r m) (C : CX X yX9_isName.cls cX9_isName 3 0) (hZ : SZX X adr) (E : RX X (some .boolean) sh adr (fun v τ => v = some (.int p.1) ∧ τ = mk p.2 r)) {h : HI} {v1 : Int32} (H : fX9_isName_247 m h v1 = some p) : WW X (sh, adr, 0, 0) 247 [.ref m, .int v1, .retAddr 0] [] (mk h r) := by
  rw [fX9_isName_247] at H
  refine ww_iconst (v := (1 : Int32)) C dX9_isName_247 (by decide) ?_
  refine ww_goto C dX9_isName_248 252 rfl ?_
  exact cX9_isName_252 hS C hZ E H
def fX9_isName_136 (m : Nat) (h : HI) (s0 : Int32) : Option (Int32 × HI) := (if (lg_cmp (h.2 m 9) (7233904 : Int64)) = 0 then fX9_isName_247 m h s0 else (if (lg_cmp (h.2 m 9) (1885434739 : Int64)) = 0 then fX9_isName_247 m h s0 else (if (lg_cmp (h.2 m 9) (7955827 : Int64)) = 0 then fX9_isName_247 m h s0 else (if (lg_cmp (h.2 m 9) (28271 : Int64)) = 0 then fX9_isName_247 m h s0 else (if (lg_cmp (h.2 m 9) (1936290931 : Int64)) = 0 then fX9_isName_247 m h s0 else (if (lg_cmp (h.2 m 9) (126943688025203 : Int64)) = 0 then fX9_isName_247 m h s0 else (if (lg_cmp (h.2 m 9) (1751478885 : Int64)) = 0 then fX9_isName_247 m h s0 else (if (lg_cmp (h.2 m 9) (6385252 : Int64)) = 0 then fX9_isName_247 m h s0 else (if (lg_cmp (h.2 m 9) (28530 : Int64)) = 0 then fX9_isName_247 m h s0 else (if (lg_cmp (h.2 m 9) (7237492 : Int64)) = 0 then fX9_isName_247 m h s0 else fX9_isName_252 m h s0 (0 : Int32)))))))))))
set_option maxRecDepth 100000 in
set_option maxHeartbeats 4000000 in
theorem cX9_isName_136 {X : CT} {sh : Sh} {adr : Nat → Nat} {r : Nat → Nat → Option Nat} {m : Nat} {p : Int32 × HI} (hS : MS sh r m) (C : CX X yX9_isName.cls cX9_isName 3 0) (hZ : SZX X adr) (E : RX X (some .boolean) sh adr (fun v τ => v = some (.int p.1) ∧ τ = mk p.2 r)) {h : HI} {s0 : Int32} (H : fX9_isName_136 m h s0 = some p) : WW X (sh, adr, 0, 0) 136 [.ref m, .retAddr 0, .retAddr 0] [.int s0] (mk h r) := by
  rw [fX9_isName_136] at H
  refine ww_istore_n C dX9_isName_136 1 rfl (by decide) rfl [.ref m, .int s0, .retAddr 0] rfl ?_
  refine ww_aload_n C dX9_isName_137 0 rfl rfl ?_
  refine wk_getJ C dX9_isName_138 fl_X9_196 hS.1 rfl ?_
  refine ww_ldc2 (v := (7233904 : Int64)) C dX9_isName_141 kl_X9_245 ?_
  refine ww_lcmp C dX9_isName_144 ?_
  refine ww_if_eq C dX9_isName_145 247 rfl (fun hc => ?_) (fun hc => ?_)
  · rw [if_pos hc] at H
    exact cX9_isName_247 hS C hZ E H
  · rw [if_neg hc] at H
    refine ww_aload_n C dX9_isName_148 0 rfl rfl ?_
    refine wk_getJ C dX9_isName_149 fl_X9_196 hS.1 rfl ?_
    refine ww_ldc2 (v := (1885434739 : Int64)) C dX9_isName_152 kl_X9_247 ?_
    refine ww_lcmp C dX9_isName_155 ?_
    refine ww_if_eq C dX9_isName_156 247 rfl (fun hc => ?_) (fun hc => ?_)
    · rw [if_pos hc] at H
      exact cX9_isName_247 hS C hZ E H
    · rw [if_neg hc] at H
      refine ww_aload_n C dX9_isName_159 0 rfl rfl ?_
      refine wk_getJ C dX9_isName_160 fl_X9_196 hS.1 rfl ?_
      refine ww_ldc2 (v := (7955827 : Int64)) C dX9_isName_163 kl_X9_249 ?_
      refine ww_lcmp C dX9_isName_166 ?_
      refine ww_if_eq C dX9_isName_167 247 rfl (fun hc => ?_) (fun hc => ?_)
      · rw [if_pos hc] at H
        exact cX9_isName_247 hS C hZ E H
      · rw [if_neg hc] at H
        refine ww_aload_n C dX9_isName_170 0 rfl rfl ?_
        refine wk_getJ C dX9_isName_171 fl_X9_196 hS.1 rfl ?_
        refine ww_ldc2 (v := (28271 : Int64)) C dX9_isName_174 kl_X9_251 ?_
        refine ww_lcmp C dX9_isName_177 ?_
        refine ww_if_eq C dX9_isName_178 247 rfl (fun hc => ?_) (fun hc => ?_)
        · rw [if_pos hc] at H
          exact cX9_isName_247 hS C hZ E H
        · rw [if_neg hc] at H
          refine ww_aload_n C dX9_isName_181 0 rfl rfl ?_
          refine wk_getJ C dX9_isName_182 fl_X9_196 hS.1 rfl ?_
          refine ww_ldc2 (v := (1936290931 : Int64)) C dX9_isName_185 kl_X9_253 ?_
          refine ww_lcmp C dX9_isName_188 ?_
          refine ww_if_eq C dX9_isName_189 247 rfl (fun hc => ?_) (fun hc => ?_)
          · rw [if_pos hc] at H
            exact cX9_isName_247 hS C hZ E H
          · rw [if_neg hc] at H
            refine ww_aload_n C dX9_isName_192 0 rfl rfl ?_
            refine wk_getJ C dX9_isName_193 fl_X9_196 hS.1 rfl ?_
            refine ww_ldc2 (v := (126943688025203 : Int64)) C dX9_isName_196 kl_X9_255 ?_
            refine ww_lcmp C dX9_isName_199 ?_
            refine ww_if_eq C dX9_isName_200 247 rfl (fun hc => ?_) (fun hc => ?_)
            · rw [if_pos hc] at H
              exact cX9_isName_247 hS C hZ E H
            · rw [if_neg hc] at H
              refine ww_aload_n C dX9_isName_203 0 rfl rfl ?_
              refine wk_getJ C dX9_isName_204 fl_X9_196 hS.1 rfl ?_
              refine ww_ldc2 (v := (1751478885 : Int64)) C dX9_isName_207 kl_X9_257 ?_
              refine ww_lcmp C dX9_isName_210 ?_
              refine ww_if_eq C dX9_isName_211 247 rfl (fun hc => ?_) (fun hc => ?_)
              · rw [if_pos hc] at H
                exact cX9_isName_247 hS C hZ E H
              · rw [if_neg hc] at H
                refine ww_aload_n C dX9_isName_214 0 rfl rfl ?_
                refine wk_getJ C dX9_isName_215 fl_X9_196 hS.1 rfl ?_
                refine ww_ldc2 (v := (6385252 : Int64)) C dX9_isName_218 kl_X9_259 ?_
                refine ww_lcmp C dX9_isName_221 ?_
                refine ww_if_eq C dX9_isName_222 247 rfl (fun hc => ?_) (fun hc => ?_)
                · rw [if_pos hc] at H
                  exact cX9_isName_247 hS C hZ E H
                · rw [if_neg hc] at H
                  refine ww_aload_n C dX9_isName_225 0 rfl rfl ?_
                  refine wk_getJ C dX9_isName_226 fl_X9_196 hS.1 rfl ?_
                  refine ww_ldc2 (v := (28530 : Int64)) C dX9_isName_229 kl_X9_261 ?_
                  refine ww_lcmp C dX9_isName_232 ?_
                  refine ww_if_eq C dX9_isName_233 247 rfl (fun hc => ?_) (fun hc => ?_)
                  · rw [if_pos hc] at H
                    exact cX9_isName_247 hS C hZ E H
                  · rw [if_neg hc] at H
                    refine ww_aload_n C dX9_isName_236 0 rfl rfl ?_
                    refine wk_getJ C dX9_isName_237 fl_X9_196 hS.1 rfl ?_
                    refine ww_ldc2 (v := (7237492 : Int64)) C dX9_isName_240 kl_X9_263 ?_
                    refine ww_lcmp C dX9_isName_243 ?_
                    refine ww_if_ne C dX9_isName_244 251 rfl (fun hc => ?_) (fun hc => ?_)
                    · rw [if_neg hc] at H
                      refine ww_iconst (v := (0 : Int32)) C dX9_isName_251 (by decide) ?_
                      exact cX9_isName_252 hS C hZ E H
                    · rw [if_pos hc] at H
                      exact cX9_isName_247 hS C hZ E H
def fX9_isName_131 (m : Nat) (h : HI) : Option (Int32 × HI) := fX9_isName_136 m h (1 : Int32)
set_option maxRecDepth 100000 in
set_option maxHeartbeats 4000000 in
theorem cX9_isName_131 {X : CT} {sh : Sh} {adr : Nat → Nat} {r : Nat → Nat → Option Nat} {m : Nat} {p : Int32 × HI} (hS : MS sh r m) (C : CX X yX9_isName.cls cX9_isName 3 0) (hZ : SZX X adr) (E : RX X (some .boolean) sh adr (fun v τ => v = some (.int p.1) ∧ τ = mk p.2 r)) {h : HI} (H : fX9_isName_131 m h = some p) : WW X (sh, adr, 0, 0) 131 [.ref m, .retAddr 0, .retAddr 0] [] (mk h r) := by
  rw [fX9_isName_131] at H
  refine ww_iconst (v := (1 : Int32)) C dX9_isName_131 (by decide) ?_
  refine ww_goto C dX9_isName_132 136 rfl ?_
  exact cX9_isName_136 hS C hZ E H
def fX9_isName (m : Nat) (h : HI) : Option (Int32 × HI) := (if (h.1 m 6) = (1 : Int32) then (if (lg_cmp (h.2 m 9) (426952976754 : Int64)) = 0 then fX9_isName_131 m h else (if (lg_cmp (h.2 m 9) (448545973363 : Int64)) = 0 then fX9_isName_131 m h else (if (lg_cmp (h.2 m 9) (495874699116 : Int64)) = 0 then fX9_isName_131 m h else (if (lg_cmp (h.2 m 9) (7168366 : Int64)) = 0 then fX9_isName_131 m h else (if (lg_cmp (h.2 m 9) (126943973305959 : Int64)) = 0 then fX9_isName_131 m h else (if (lg_cmp (h.2 m 9) (1685024626 : Int64)) = 0 then fX9_isName_131 m h else (if (lg_cmp (h.2 m 9) (120265333040498 : Int64)) = 0 then fX9_isName_131 m h else (if (lg_cmp (h.2 m 9) (1684628851 : Int64)) = 0 then fX9_isName_131 m h else (if (lg_cmp (h.2 m 9) (2003399528 : Int64)) = 0 then fX9_isName_131 m h else (if (lg_cmp (h.2 m 9) (1684365676 : Int64)) = 0 then fX9_isName_131 m h else (if (lg_cmp (h.2 m 9) (6713202 : Int64)) = 0 then fX9_isName_131 m h else fX9_isName_136 m h (0 : Int32)))))))))))) else some ((0 : Int32), h))
set_option maxRecDepth 100000 in
set_option maxHeartbeats 4000000 in
theorem ccX9_isName {l : Launch} {sh : Sh} {adr : Nat → Nat} {r : Nat → Nat → Option Nat} {m : Nat} (hS : MS sh r m) {h : HI}  {p : Int32 × HI} (H : fX9_isName m h = some p) : CC l yX9_isName cX9_isName 3 (some .boolean) 0 [.ref m] sh adr (mk h r) (fun v τ => v = some (.int p.1) ∧ τ = mk p.2 r) := by
  refine CC.of (by decide) (Nat.le_of_ble_eq_true rfl) 2 [.ref m, .retAddr 0, .retAddr 0] rfl (fun X _ C E hZ => ?_)
  rw [fX9_isName] at H
  refine ww_aload_n C dX9_isName_0 0 rfl rfl ?_
  refine wk_getI C dX9_isName_1 fl_X9_203 hS.1 rfl ?_
  refine ww_iconst (v := (1 : Int32)) C dX9_isName_4 (by decide) ?_
  refine ww_icmp_eq C dX9_isName_5 10 rfl (fun hc => ?_) (fun hc => ?_)
  · rw [if_pos hc] at H
    refine ww_aload_n C dX9_isName_10 0 rfl rfl ?_
    refine wk_getJ C dX9_isName_11 fl_X9_196 hS.1 rfl ?_
    refine ww_ldc2 (v := (426952976754 : Int64)) C dX9_isName_14 kl_X9_223 ?_
    refine ww_lcmp C dX9_isName_17 ?_
    refine ww_if_eq C dX9_isName_18 131 rfl (fun hc => ?_) (fun hc => ?_)
    · rw [if_pos hc] at H
      exact cX9_isName_131 hS C hZ E H
    · rw [if_neg hc] at H
      refine ww_aload_n C dX9_isName_21 0 rfl rfl ?_
      refine wk_getJ C dX9_isName_22 fl_X9_196 hS.1 rfl ?_
      refine ww_ldc2 (v := (448545973363 : Int64)) C dX9_isName_25 kl_X9_225 ?_
      refine ww_lcmp C dX9_isName_28 ?_
      refine ww_if_eq C dX9_isName_29 131 rfl (fun hc => ?_) (fun hc => ?_)
      · rw [if_pos hc] at H
        exact cX9_isName_131 hS C hZ E H
      · rw [if_neg hc] at H
        refine ww_aload_n C dX9_isName_32 0 rfl rfl ?_
        refine wk_getJ C dX9_isName_33 fl_X9_196 hS.1 rfl ?_
        refine ww_ldc2 (v := (495874699116 : Int64)) C dX9_isName_36 kl_X9_227 ?_
        refine ww_lcmp C dX9_isName_39 ?_
        refine ww_if_eq C dX9_isName_40 131 rfl (fun hc => ?_) (fun hc => ?_)
        · rw [if_pos hc] at H
          exact cX9_isName_131 hS C hZ E H
        · rw [if_neg hc] at H
          refine ww_aload_n C dX9_isName_43 0 rfl rfl ?_
          refine wk_getJ C dX9_isName_44 fl_X9_196 hS.1 rfl ?_
          refine ww_ldc2 (v := (7168366 : Int64)) C dX9_isName_47 kl_X9_229 ?_
          refine ww_lcmp C dX9_isName_50 ?_
          refine ww_if_eq C dX9_isName_51 131 rfl (fun hc => ?_) (fun hc => ?_)
          · rw [if_pos hc] at H
            exact cX9_isName_131 hS C hZ E H
          · rw [if_neg hc] at H
            refine ww_aload_n C dX9_isName_54 0 rfl rfl ?_
            refine wk_getJ C dX9_isName_55 fl_X9_196 hS.1 rfl ?_
            refine ww_ldc2 (v := (126943973305959 : Int64)) C dX9_isName_58 kl_X9_231 ?_
            refine ww_lcmp C dX9_isName_61 ?_
            refine ww_if_eq C dX9_isName_62 131 rfl (fun hc => ?_) (fun hc => ?_)
            · rw [if_pos hc] at H
              exact cX9_isName_131 hS C hZ E H
            · rw [if_neg hc] at H
              refine ww_aload_n C dX9_isName_65 0 rfl rfl ?_
              refine wk_getJ C dX9_isName_66 fl_X9_196 hS.1 rfl ?_
              refine ww_ldc2 (v := (1685024626 : Int64)) C dX9_isName_69 kl_X9_233 ?_
              refine ww_lcmp C dX9_isName_72 ?_
              refine ww_if_eq C dX9_isName_73 131 rfl (fun hc => ?_) (fun hc => ?_)
              · rw [if_pos hc] at H
                exact cX9_isName_131 hS C hZ E H
              · rw [if_neg hc] at H
                refine ww_aload_n C dX9_isName_76 0 rfl rfl ?_
                refine wk_getJ C dX9_isName_77 fl_X9_196 hS.1 rfl ?_
                refine ww_ldc2 (v := (120265333040498 : Int64)) C dX9_isName_80 kl_X9_235 ?_
                refine ww_lcmp C dX9_isName_83 ?_
                refine ww_if_eq C dX9_isName_84 131 rfl (fun hc => ?_) (fun hc => ?_)
                · rw [if_pos hc] at H
                  exact cX9_isName_131 hS C hZ E H
                · rw [if_neg hc] at H
                  refine ww_aload_n C dX9_isName_87 0 rfl rfl ?_
                  refine wk_getJ C dX9_isName_88 fl_X9_196 hS.1 rfl ?_
                  refine ww_ldc2 (v := (1684628851 : Int64)) C dX9_isName_91 kl_X9_237 ?_
                  refine ww_lcmp C dX9_isName_94 ?_
                  refine ww_if_eq C dX9_isName_95 131 rfl (fun hc => ?_) (fun hc => ?_)
                  · rw [if_pos hc] at H
                    exact cX9_isName_131 hS C hZ E H
                  · rw [if_neg hc] at H
                    refine ww_aload_n C dX9_isName_98 0 rfl rfl ?_
                    refine wk_getJ C dX9_isName_99 fl_X9_196 hS.1 rfl ?_
                    refine ww_ldc2 (v := (2003399528 : Int64)) C dX9_isName_102 kl_X9_239 ?_
                    refine ww_lcmp C dX9_isName_105 ?_
                    refine ww_if_eq C dX9_isName_106 131 rfl (fun hc => ?_) (fun hc => ?_)
                    · rw [if_pos hc] at H
                      exact cX9_isName_131 hS C hZ E H
                    · rw [if_neg hc] at H
                      refine ww_aload_n C dX9_isName_109 0 rfl rfl ?_
                      refine wk_getJ C dX9_isName_110 fl_X9_196 hS.1 rfl ?_
                      refine ww_ldc2 (v := (1684365676 : Int64)) C dX9_isName_113 kl_X9_241 ?_
                      refine ww_lcmp C dX9_isName_116 ?_
                      refine ww_if_eq C dX9_isName_117 131 rfl (fun hc => ?_) (fun hc => ?_)
                      · rw [if_pos hc] at H
                        exact cX9_isName_131 hS C hZ E H
                      · rw [if_neg hc] at H
                        refine ww_aload_n C dX9_isName_120 0 rfl rfl ?_
                        refine wk_getJ C dX9_isName_121 fl_X9_196 hS.1 rfl ?_
                        refine ww_ldc2 (v := (6713202 : Int64)) C dX9_isName_124 kl_X9_243 ?_
                        refine ww_lcmp C dX9_isName_127 ?_
                        refine ww_if_ne C dX9_isName_128 135 rfl (fun hc => ?_) (fun hc => ?_)
                        · rw [if_neg hc] at H
                          refine ww_iconst (v := (0 : Int32)) C dX9_isName_135 (by decide) ?_
                          exact cX9_isName_136 hS C hZ E H
                        · rw [if_pos hc] at H
                          exact cX9_isName_131 hS C hZ E H
  · rw [if_neg hc] at H
    refine ww_iconst (v := (0 : Int32)) C dX9_isName_8 (by decide) ?_
    cases H
    exact ww_zret C E dX9_isName_9 (Or.inl rfl) ⟨rfl, rfl⟩
def fX9_want (m : Nat) (h : HI) (a1 : Int64) : Option (HI) := (if (h.1 m 2) ≤ 0 then ((fX9_isWord m h a1).bind fun p1 => (if p1.1 = 0 then ((fX9_wrong m p1.2 (2 : Int32)).bind fun h3 => some h3) else ((fX9_token m p1.2).bind fun h2 => some h2))) else some h)
set_option maxRecDepth 100000 in
set_option maxHeartbeats 4000000 in
theorem ccX9_want {l : Launch} {sh : Sh} {adr : Nat → Nat} {r : Nat → Nat → Option Nat} {m : Nat} (hS : MS sh r m) {h : HI} {a1 : Int64} {p : HI} (H : fX9_want m h a1 = some p) : CC l yX9_want cX9_want 3 none 2 [.ref m, .long a1] sh adr (mk h r) (fun v τ => v = none ∧ τ = mk p r) := by
  refine CC.of (by decide) (Nat.le_of_ble_eq_true rfl) 0 [.ref m, .long a1, .retAddr 0] rfl (fun X _ C E hZ => ?_)
  rw [fX9_want] at H
  refine ww_aload_n C dX9_want_0 0 rfl rfl ?_
  refine wk_getI C dX9_want_1 fl_X9_216 hS.1 rfl ?_
  refine ww_if_le C dX9_want_4 8 rfl (fun hc => ?_) (fun hc => ?_)
  · rw [if_pos hc] at H
    refine ww_aload_n C dX9_want_8 0 rfl rfl ?_
    refine ww_lload_n C dX9_want_9 1 rfl rfl ?_
    obtain ⟨p1, hc1, H⟩ := bd_of H
    refine ww_callV C hZ dX9_want_10 cw_X9_265 (ccX9_isWord hS hc1) hS.1 ⟨by decide, rfl⟩ (by decide) rfl rfl (Nat.le_of_ble_eq_true rfl) ⟨Nat.zero_le _, Nat.zero_le _⟩ (fun v τ hp => ?_)
    obtain ⟨rfl, rfl⟩ := hp
    change WW X _ 13 [.ref m, .long a1, .retAddr 0] [.int p1.1] _
    refine ww_if_ne C dX9_want_13 24 rfl (fun hc => ?_) (fun hc => ?_)
    · rw [if_neg hc] at H
      refine ww_aload_n C dX9_want_24 0 rfl rfl ?_
      obtain ⟨h2, hc1, H⟩ := bd_of H
      refine ww_callV C hZ dX9_want_25 cw_X9_272 (ccX9_token hS hc1) hS.1 ⟨by decide, rfl⟩ (by decide) rfl rfl (Nat.le_of_ble_eq_true rfl) ⟨Nat.zero_le _, Nat.zero_le _⟩ (fun v τ hp => ?_)
      obtain ⟨rfl, rfl⟩ := hp
      change WW X _ 28 [.ref m, .long a1, .retAddr 0] [] _
      cases H
      exact ww_vret C E dX9_want_28 ⟨rfl, rfl⟩
    · rw [if_pos hc] at H
      refine ww_aload_n C dX9_want_16 0 rfl rfl ?_
      refine ww_iconst (v := (2 : Int32)) C dX9_want_17 (by decide) ?_
      obtain ⟨h3, hc1, H⟩ := bd_of H
      refine ww_callV C hZ dX9_want_18 cw_X9_269 (ccX9_wrong hS hc1) hS.1 ⟨by decide, rfl⟩ (by decide) rfl rfl (Nat.le_of_ble_eq_true rfl) ⟨Nat.zero_le _, Nat.zero_le _⟩ (fun v τ hp => ?_)
      obtain ⟨rfl, rfl⟩ := hp
      change WW X _ 21 [.ref m, .long a1, .retAddr 0] [] _
      refine ww_goto C dX9_want_21 28 rfl ?_
      cases H
      exact ww_vret C E dX9_want_28 ⟨rfl, rfl⟩
  · rw [if_neg hc] at H
    cases H
    exact ww_vret C E dX9_want_7 ⟨rfl, rfl⟩
def fX9_toldNumber_46 (m : Nat) (h : HI) : Option (Int32 × HI) := (if (h.1 m 2) = 0 then ((fX9_token m h).bind fun h2 => some ((h.1 m 8), h2)) else some ((h.1 m 8), h))
set_option maxRecDepth 100000 in
set_option maxHeartbeats 4000000 in
theorem cX9_toldNumber_46 {X : CT} {sh : Sh} {adr : Nat → Nat} {r : Nat → Nat → Option Nat} {m : Nat} {p : Int32 × HI} (hS : MS sh r m) (C : CX X yX9_toldNumber.cls cX9_toldNumber 4 2) (hZ : SZX X adr) (E : RX X (some .int) sh adr (fun v τ => v = some (.int p.1) ∧ τ = mk p.2 r)) {h : HI} (H : fX9_toldNumber_46 m h = some p) : WW X (sh, adr, 0, 0) 46 [.ref m, .retAddr 0, .retAddr 0, .retAddr 0] [] (mk h r) := by
  rw [fX9_toldNumber_46] at H
  refine ww_aload_n C dX9_toldNumber_46 0 rfl rfl ?_
  refine wk_getI C dX9_toldNumber_47 fl_X9_200 hS.1 rfl ?_
  refine ww_istore_n C dX9_toldNumber_50 3 rfl (by decide) rfl [.ref m, .retAddr 0, .retAddr 0, .int (h.1 m 8)] rfl ?_
  refine ww_aload_n C dX9_toldNumber_51 0 rfl rfl ?_
  refine wk_getI C dX9_toldNumber_52 fl_X9_216 hS.1 rfl ?_
  refine ww_if_ne C dX9_toldNumber_55 62 rfl (fun hc => ?_) (fun hc => ?_)
  · rw [if_neg hc] at H
    refine ww_iload_n C dX9_toldNumber_62 3 rfl rfl ?_
    cases H
    exact ww_iret C E dX9_toldNumber_63 ⟨rfl, rfl⟩
  · rw [if_pos hc] at H
    refine ww_aload_n C dX9_toldNumber_58 0 rfl rfl ?_
    obtain ⟨h2, hc1, H⟩ := bd_of H
    refine ww_callV C hZ dX9_toldNumber_59 cw_X9_272 (ccX9_token hS hc1) hS.1 ⟨by decide, rfl⟩ (by decide) rfl rfl (Nat.le_of_ble_eq_true rfl) ⟨Nat.zero_le _, Nat.zero_le _⟩ (fun v τ hp => ?_)
    obtain ⟨rfl, rfl⟩ := hp
    change WW X _ 62 [.ref m, .retAddr 0, .retAddr 0, .int (h.1 m 8)] [] _
    refine ww_iload_n C dX9_toldNumber_62 3 rfl rfl ?_
    cases H
    exact ww_iret C E dX9_toldNumber_63 ⟨rfl, rfl⟩
def fX9_toldNumber_41 (m : Nat) (h : HI) : Option (Int32 × HI) := ((fX9_wrong m h (4 : Int32)).bind fun h1 => fX9_toldNumber_46 m h1)
set_option maxRecDepth 100000 in
set_option maxHeartbeats 4000000 in
theorem cX9_toldNumber_41 {X : CT} {sh : Sh} {adr : Nat → Nat} {r : Nat → Nat → Option Nat} {m : Nat} {p : Int32 × HI} (hS : MS sh r m) (C : CX X yX9_toldNumber.cls cX9_toldNumber 4 2) (hZ : SZX X adr) (E : RX X (some .int) sh adr (fun v τ => v = some (.int p.1) ∧ τ = mk p.2 r)) {h : HI} (H : fX9_toldNumber_41 m h = some p) : WW X (sh, adr, 0, 0) 41 [.ref m, .retAddr 0, .retAddr 0, .retAddr 0] [] (mk h r) := by
  rw [fX9_toldNumber_41] at H
  refine ww_aload_n C dX9_toldNumber_41 0 rfl rfl ?_
  refine ww_iconst (v := (4 : Int32)) C dX9_toldNumber_42 (by decide) ?_
  obtain ⟨h1, hc1, H⟩ := bd_of H
  refine ww_callV C hZ dX9_toldNumber_43 cw_X9_269 (ccX9_wrong hS hc1) hS.1 ⟨by decide, rfl⟩ (by decide) rfl rfl (Nat.le_of_ble_eq_true rfl) ⟨Nat.zero_le _, Nat.zero_le _⟩ (fun v τ hp => ?_)
  obtain ⟨rfl, rfl⟩ := hp
  change WW X _ 46 [.ref m, .retAddr 0, .retAddr 0, .retAddr 0] [] _
  exact cX9_toldNumber_46 hS C hZ E H
def fX9_toldNumber (m : Nat) (h : HI) (a1 : Int32) (a2 : Int32) : Option (Int32 × HI) := (if (h.1 m 2) ≤ 0 then (if (h.1 m 6) = (2 : Int32) then (if (h.1 m 8) < a1 then fX9_toldNumber_41 m h else (if (h.1 m 8) ≤ a2 then fX9_toldNumber_46 m h else fX9_toldNumber_41 m h)) else ((fX9_wrong m h (2 : Int32)).bind fun h3 => fX9_toldNumber_46 m h3)) else some ((0 : Int32), h))
set_option maxRecDepth 100000 in
set_option maxHeartbeats 4000000 in
theorem ccX9_toldNumber {l : Launch} {sh : Sh} {adr : Nat → Nat} {r : Nat → Nat → Option Nat} {m : Nat} (hS : MS sh r m) {h : HI} {a1 : Int32} {a2 : Int32} {p : Int32 × HI} (H : fX9_toldNumber m h a1 a2 = some p) : CC l yX9_toldNumber cX9_toldNumber 4 (some .int) 2 [.ref m, .int a1, .int a2] sh adr (mk h r) (fun v τ => v = some (.int p.1) ∧ τ = mk p.2 r) := by
  refine CC.of (by decide) (Nat.le_of_ble_eq_true rfl) 1 [.ref m, .int a1, .int a2, .retAddr 0] rfl (fun X _ C E hZ => ?_)
  rw [fX9_toldNumber] at H
  refine ww_aload_n C dX9_toldNumber_0 0 rfl rfl ?_
  refine wk_getI C dX9_toldNumber_1 fl_X9_216 hS.1 rfl ?_
  refine ww_if_le C dX9_toldNumber_4 9 rfl (fun hc => ?_) (fun hc => ?_)
  · rw [if_pos hc] at H
    refine ww_aload_n C dX9_toldNumber_9 0 rfl rfl ?_
    refine wk_getI C dX9_toldNumber_10 fl_X9_203 hS.1 rfl ?_
    refine ww_iconst (v := (2 : Int32)) C dX9_toldNumber_13 (by decide) ?_
    refine ww_icmp_eq C dX9_toldNumber_14 25 rfl (fun hc => ?_) (fun hc => ?_)
    · rw [if_pos hc] at H
      refine ww_aload_n C dX9_toldNumber_25 0 rfl rfl ?_
      refine wk_getI C dX9_toldNumber_26 fl_X9_200 hS.1 rfl ?_
      refine ww_iload_n C dX9_toldNumber_29 1 rfl rfl ?_
      refine ww_icmp_lt C dX9_toldNumber_30 41 rfl (fun hc => ?_) (fun hc => ?_)
      · rw [if_pos hc] at H
        exact ww_drop [.ref m, .retAddr 0, .retAddr 0, .retAddr 0] (sl_e (sl_d (sl_d (sl_e sl_n)))) (cX9_toldNumber_41 hS C hZ E H)
      · rw [if_neg hc] at H
        refine ww_aload_n C dX9_toldNumber_33 0 rfl rfl ?_
        refine wk_getI C dX9_toldNumber_34 fl_X9_200 hS.1 rfl ?_
        refine ww_iload_n C dX9_toldNumber_37 2 rfl rfl ?_
        refine ww_icmp_le C dX9_toldNumber_38 46 rfl (fun hc => ?_) (fun hc => ?_)
        · rw [if_pos hc] at H
          exact ww_drop [.ref m, .retAddr 0, .retAddr 0, .retAddr 0] (sl_e (sl_d (sl_d (sl_e sl_n)))) (cX9_toldNumber_46 hS C hZ E H)
        · rw [if_neg hc] at H
          exact ww_drop [.ref m, .retAddr 0, .retAddr 0, .retAddr 0] (sl_e (sl_d (sl_d (sl_e sl_n)))) (cX9_toldNumber_41 hS C hZ E H)
    · rw [if_neg hc] at H
      refine ww_aload_n C dX9_toldNumber_17 0 rfl rfl ?_
      refine ww_iconst (v := (2 : Int32)) C dX9_toldNumber_18 (by decide) ?_
      obtain ⟨h3, hc1, H⟩ := bd_of H
      refine ww_callV C hZ dX9_toldNumber_19 cw_X9_269 (ccX9_wrong hS hc1) hS.1 ⟨by decide, rfl⟩ (by decide) rfl rfl (Nat.le_of_ble_eq_true rfl) ⟨Nat.zero_le _, Nat.zero_le _⟩ (fun v τ hp => ?_)
      obtain ⟨rfl, rfl⟩ := hp
      change WW X _ 22 [.ref m, .int a1, .int a2, .retAddr 0] [] _
      refine ww_goto C dX9_toldNumber_22 46 rfl ?_
      exact ww_drop [.ref m, .retAddr 0, .retAddr 0, .retAddr 0] (sl_e (sl_d (sl_d (sl_e sl_n)))) (cX9_toldNumber_46 hS C hZ E H)
  · rw [if_neg hc] at H
    refine ww_iconst (v := (0 : Int32)) C dX9_toldNumber_7 (by decide) ?_
    cases H
    exact ww_iret C E dX9_toldNumber_8 ⟨rfl, rfl⟩
def fX9_told (m : Nat) (h : HI) (a1 : Int64) (a3 : Int32) (a4 : Int32) : Option (Int32 × HI) := ((fX9_want m h a1).bind fun h1 => ((fX9_toldNumber m h1 a3 a4).bind fun p2 => some (p2.1, p2.2)))
set_option maxRecDepth 100000 in
set_option maxHeartbeats 4000000 in
theorem ccX9_told {l : Launch} {sh : Sh} {adr : Nat → Nat} {r : Nat → Nat → Option Nat} {m : Nat} (hS : MS sh r m) {h : HI} {a1 : Int64} {a3 : Int32} {a4 : Int32} {p : Int32 × HI} (H : fX9_told m h a1 a3 a4 = some p) : CC l yX9_told cX9_told 5 (some .int) 3 [.ref m, .long a1, .int a3, .int a4] sh adr (mk h r) (fun v τ => v = some (.int p.1) ∧ τ = mk p.2 r) := by
  refine CC.of (by decide) (Nat.le_of_ble_eq_true rfl) 0 [.ref m, .long a1, .retAddr 0, .int a3, .int a4] rfl (fun X _ C E hZ => ?_)
  rw [fX9_told] at H
  refine ww_aload_n C dX9_told_0 0 rfl rfl ?_
  refine ww_lload_n C dX9_told_1 1 rfl rfl ?_
  obtain ⟨h1, hc1, H⟩ := bd_of H
  refine ww_callV C hZ dX9_told_2 cw_X9_275 (ccX9_want hS hc1) hS.1 ⟨by decide, rfl⟩ (by decide) rfl rfl (Nat.le_of_ble_eq_true rfl) ⟨Nat.zero_le _, Nat.zero_le _⟩ (fun v τ hp => ?_)
  obtain ⟨rfl, rfl⟩ := hp
  change WW X _ 5 [.ref m, .long a1, .retAddr 0, .int a3, .int a4] [] _
  refine ww_aload_n C dX9_told_5 0 rfl rfl ?_
  refine ww_iload_n C dX9_told_6 3 rfl rfl ?_
  refine ww_iload C dX9_told_7 rfl ?_
  obtain ⟨p2, hc1, H⟩ := bd_of H
  refine ww_callV C hZ dX9_told_9 cw_X9_279 (ccX9_toldNumber hS hc1) hS.1 ⟨by decide, rfl⟩ (by decide) rfl rfl (Nat.le_of_ble_eq_true rfl) ⟨Nat.zero_le _, Nat.zero_le _⟩ (fun v τ hp => ?_)
  obtain ⟨rfl, rfl⟩ := hp
  change WW X _ 12 [.ref m, .long a1, .retAddr 0, .int a3, .int a4] [.int p2.1] _
  cases H
  exact ww_iret C E dX9_told_12 ⟨rfl, rfl⟩
def fX9_signed_96 (m : Nat) (h : HI) (v5 : Int32) : Option (Int32 × HI) := (if (h.1 m 2) = 0 then ((fX9_token m h).bind fun h1 => some (v5, h1)) else some (v5, h))
set_option maxRecDepth 100000 in
set_option maxHeartbeats 4000000 in
theorem cX9_signed_96 {X : CT} {sh : Sh} {adr : Nat → Nat} {r : Nat → Nat → Option Nat} {m : Nat} {p : Int32 × HI} (hS : MS sh r m) (C : CX X yX9_signed.cls cX9_signed 6 2) (hZ : SZX X adr) (E : RX X (some .int) sh adr (fun v τ => v = some (.int p.1) ∧ τ = mk p.2 r)) {h : HI} {v5 : Int32} (H : fX9_signed_96 m h v5 = some p) : WW X (sh, adr, 0, 0) 96 [.ref m, .retAddr 0, .retAddr 0, .retAddr 0, .retAddr 0, .int v5] [] (mk h r) := by
  rw [fX9_signed_96] at H
  refine ww_aload_n C dX9_signed_96 0 rfl rfl ?_
  refine wk_getI C dX9_signed_97 fl_X9_216 hS.1 rfl ?_
  refine ww_if_ne C dX9_signed_100 107 rfl (fun hc => ?_) (fun hc => ?_)
  · rw [if_neg hc] at H
    refine ww_iload C dX9_signed_107 rfl ?_
    cases H
    exact ww_iret C E dX9_signed_109 ⟨rfl, rfl⟩
  · rw [if_pos hc] at H
    refine ww_aload_n C dX9_signed_103 0 rfl rfl ?_
    obtain ⟨h1, hc1, H⟩ := bd_of H
    refine ww_callV C hZ dX9_signed_104 cw_X9_272 (ccX9_token hS hc1) hS.1 ⟨by decide, rfl⟩ (by decide) rfl rfl (Nat.le_of_ble_eq_true rfl) ⟨Nat.zero_le _, Nat.zero_le _⟩ (fun v τ hp => ?_)
    obtain ⟨rfl, rfl⟩ := hp
    change WW X _ 107 [.ref m, .retAddr 0, .retAddr 0, .retAddr 0, .retAddr 0, .int v5] [] _
    refine ww_iload C dX9_signed_107 rfl ?_
    cases H
    exact ww_iret C E dX9_signed_109 ⟨rfl, rfl⟩
def fX9_signed_90 (m : Nat) (h : HI) (v3 : Int32) (v5 : Int32) : Option (Int32 × HI) := ((fX9_wrongAt m h (4 : Int32) v3).bind fun h2 => fX9_signed_96 m h2 v5)
set_option maxRecDepth 100000 in
set_option maxHeartbeats 4000000 in
theorem cX9_signed_90 {X : CT} {sh : Sh} {adr : Nat → Nat} {r : Nat → Nat → Option Nat} {m : Nat} {p : Int32 × HI} (hS : MS sh r m) (C : CX X yX9_signed.cls cX9_signed 6 2) (hZ : SZX X adr) (E : RX X (some .int) sh adr (fun v τ => v = some (.int p.1) ∧ τ = mk p.2 r)) {h : HI} {v3 : Int32} {v5 : Int32} (H : fX9_signed_90 m h v3 v5 = some p) : WW X (sh, adr, 0, 0) 90 [.ref m, .retAddr 0, .retAddr 0, .int v3, .retAddr 0, .int v5] [] (mk h r) := by
  rw [fX9_signed_90] at H
  refine ww_aload_n C dX9_signed_90 0 rfl rfl ?_
  refine ww_iconst (v := (4 : Int32)) C dX9_signed_91 (by decide) ?_
  refine ww_iload_n C dX9_signed_92 3 rfl rfl ?_
  obtain ⟨h2, hc1, H⟩ := bd_of H
  refine ww_callV C hZ dX9_signed_93 cw_X9_219 (ccX9_wrongAt hS hc1) hS.1 ⟨by decide, rfl⟩ (by decide) rfl rfl (Nat.le_of_ble_eq_true rfl) ⟨Nat.zero_le _, Nat.zero_le _⟩ (fun v τ hp => ?_)
  obtain ⟨rfl, rfl⟩ := hp
  change WW X _ 96 [.ref m, .retAddr 0, .retAddr 0, .int v3, .retAddr 0, .int v5] [] _
  exact ww_drop [.ref m, .retAddr 0, .retAddr 0, .retAddr 0, .retAddr 0, .int v5] (sl_e (sl_e (sl_e (sl_d (sl_e (sl_e sl_n)))))) (cX9_signed_96 hS C hZ E H)
def fX9_signed_69 (m : Nat) (h : HI) (v1 : Int32) (v2 : Int32) (v3 : Int32) (s0 : Int32) : Option (Int32 × HI) := (if (h.1 m 2) = 0 then (if s0 < v1 then fX9_signed_90 m h v3 s0 else (if s0 ≤ v2 then fX9_signed_96 m h s0 else fX9_signed_90 m h v3 s0)) else fX9_signed_96 m h s0)
set_option maxRecDepth 100000 in
set_option maxHeartbeats 4000000 in
theorem cX9_signed_69 {X : CT} {sh : Sh} {adr : Nat → Nat} {r : Nat → Nat → Option Nat} {m : Nat} {p : Int32 × HI} (hS : MS sh r m) (C : CX X yX9_signed.cls cX9_signed 6 2) (hZ : SZX X adr) (E : RX X (some .int) sh adr (fun v τ => v = some (.int p.1) ∧ τ = mk p.2 r)) {h : HI} {v1 : Int32} {v2 : Int32} {v3 : Int32} {s0 : Int32} (H : fX9_signed_69 m h v1 v2 v3 s0 = some p) : WW X (sh, adr, 0, 0) 69 [.ref m, .int v1, .int v2, .int v3, .retAddr 0, .retAddr 0] [.int s0] (mk h r) := by
  rw [fX9_signed_69] at H
  refine ww_istore C dX9_signed_69 (by decide) rfl [.ref m, .int v1, .int v2, .int v3, .retAddr 0, .int s0] rfl ?_
  refine ww_aload_n C dX9_signed_71 0 rfl rfl ?_
  refine wk_getI C dX9_signed_72 fl_X9_216 hS.1 rfl ?_
  refine ww_if_ne C dX9_signed_75 96 rfl (fun hc => ?_) (fun hc => ?_)
  · rw [if_neg hc] at H
    exact ww_drop [.ref m, .retAddr 0, .retAddr 0, .retAddr 0, .retAddr 0, .int s0] (sl_e (sl_d (sl_d (sl_d (sl_e (sl_e sl_n)))))) (cX9_signed_96 hS C hZ E H)
  · rw [if_pos hc] at H
    refine ww_iload C dX9_signed_78 rfl ?_
    refine ww_iload_n C dX9_signed_80 1 rfl rfl ?_
    refine ww_icmp_lt C dX9_signed_81 90 rfl (fun hc => ?_) (fun hc => ?_)
    · rw [if_pos hc] at H
      exact ww_drop [.ref m, .retAddr 0, .retAddr 0, .int v3, .retAddr 0, .int s0] (sl_e (sl_d (sl_d (sl_e (sl_e (sl_e sl_n)))))) (cX9_signed_90 hS C hZ E H)
    · rw [if_neg hc] at H
      refine ww_iload C dX9_signed_84 rfl ?_
      refine ww_iload_n C dX9_signed_86 2 rfl rfl ?_
      refine ww_icmp_le C dX9_signed_87 96 rfl (fun hc => ?_) (fun hc => ?_)
      · rw [if_pos hc] at H
        exact ww_drop [.ref m, .retAddr 0, .retAddr 0, .retAddr 0, .retAddr 0, .int s0] (sl_e (sl_d (sl_d (sl_d (sl_e (sl_e sl_n)))))) (cX9_signed_96 hS C hZ E H)
      · rw [if_neg hc] at H
        exact ww_drop [.ref m, .retAddr 0, .retAddr 0, .int v3, .retAddr 0, .int s0] (sl_e (sl_d (sl_d (sl_e (sl_e (sl_e sl_n)))))) (cX9_signed_90 hS C hZ E H)
def fX9_signed_52 (m : Nat) (h : HI) (v1 : Int32) (v2 : Int32) (v3 : Int32) (v4 : Int32) : Option (Int32 × HI) := (if v4 = 0 then fX9_signed_69 m h v1 v2 v3 (h.1 m 8) else fX9_signed_69 m h v1 v2 v3 (-(h.1 m 8)))
set_option maxRecDepth 100000 in
set_option maxHeartbeats 4000000 in
theorem cX9_signed_52 {X : CT} {sh : Sh} {adr : Nat → Nat} {r : Nat → Nat → Option Nat} {m : Nat} {p : Int32 × HI} (hS : MS sh r m) (C : CX X yX9_signed.cls cX9_signed 6 2) (hZ : SZX X adr) (E : RX X (some .int) sh adr (fun v τ => v = some (.int p.1) ∧ τ = mk p.2 r)) {h : HI} {v1 : Int32} {v2 : Int32} {v3 : Int32} {v4 : Int32} (H : fX9_signed_52 m h v1 v2 v3 v4 = some p) : WW X (sh, adr, 0, 0) 52 [.ref m, .int v1, .int v2, .int v3, .int v4, .retAddr 0] [] (mk h r) := by
  rw [fX9_signed_52] at H
  refine ww_iload C dX9_signed_52 rfl ?_
  refine ww_if_eq C dX9_signed_54 65 rfl (fun hc => ?_) (fun hc => ?_)
  · rw [if_pos hc] at H
    refine ww_aload_n C dX9_signed_65 0 rfl rfl ?_
    refine wk_getI C dX9_signed_66 fl_X9_200 hS.1 rfl ?_
    exact ww_drop [.ref m, .int v1, .int v2, .int v3, .retAddr 0, .retAddr 0] (sl_e (sl_e (sl_e (sl_e (sl_d (sl_e sl_n)))))) (cX9_signed_69 hS C hZ E H)
  · rw [if_neg hc] at H
    refine ww_aload_n C dX9_signed_57 0 rfl rfl ?_
    refine wk_getI C dX9_signed_58 fl_X9_200 hS.1 rfl ?_
    refine ww_ineg C dX9_signed_61 ?_
    refine ww_goto C dX9_signed_62 69 rfl ?_
    exact ww_drop [.ref m, .int v1, .int v2, .int v3, .retAddr 0, .retAddr 0] (sl_e (sl_e (sl_e (sl_e (sl_d (sl_e sl_n)))))) (cX9_signed_69 hS C hZ E H)
def fX9_signed_39 (m : Nat) (h : HI) (v1 : Int32) (v2 : Int32) (v3 : Int32) (v4 : Int32) : Option (Int32 × HI) := (if (h.1 m 6) = (2 : Int32) then fX9_signed_52 m h v1 v2 v3 v4 else ((fX9_wrong m h (2 : Int32)).bind fun h3 => fX9_signed_52 m h3 v1 v2 v3 v4))
set_option maxRecDepth 100000 in
set_option maxHeartbeats 4000000 in
theorem cX9_signed_39 {X : CT} {sh : Sh} {adr : Nat → Nat} {r : Nat → Nat → Option Nat} {m : Nat} {p : Int32 × HI} (hS : MS sh r m) (C : CX X yX9_signed.cls cX9_signed 6 2) (hZ : SZX X adr) (E : RX X (some .int) sh adr (fun v τ => v = some (.int p.1) ∧ τ = mk p.2 r)) {h : HI} {v1 : Int32} {v2 : Int32} {v3 : Int32} {v4 : Int32} (H : fX9_signed_39 m h v1 v2 v3 v4 = some p) : WW X (sh, adr, 0, 0) 39 [.ref m, .int v1, .int v2, .int v3, .int v4, .retAddr 0] [] (mk h r) := by
  rw [fX9_signed_39] at H
  refine ww_aload_n C dX9_signed_39 0 rfl rfl ?_
  refine wk_getI C dX9_signed_40 fl_X9_203 hS.1 rfl ?_
  refine ww_iconst (v := (2 : Int32)) C dX9_signed_43 (by decide) ?_
  refine ww_icmp_eq C dX9_signed_44 52 rfl (fun hc => ?_) (fun hc => ?_)
  · rw [if_pos hc] at H
    exact cX9_signed_52 hS C hZ E H
  · rw [if_neg hc] at H
    refine ww_aload_n C dX9_signed_47 0 rfl rfl ?_
    refine ww_iconst (v := (2 : Int32)) C dX9_signed_48 (by decide) ?_
    obtain ⟨h3, hc1, H⟩ := bd_of H
    refine ww_callV C hZ dX9_signed_49 cw_X9_269 (ccX9_wrong hS hc1) hS.1 ⟨by decide, rfl⟩ (by decide) rfl rfl (Nat.le_of_ble_eq_true rfl) ⟨Nat.zero_le _, Nat.zero_le _⟩ (fun v τ hp => ?_)
    obtain ⟨rfl, rfl⟩ := hp
    change WW X _ 52 [.ref m, .int v1, .int v2, .int v3, .int v4, .retAddr 0] [] _
    exact cX9_signed_52 hS C hZ E H
def fX9_signed_28 (m : Nat) (h : HI) (v1 : Int32) (v2 : Int32) (v3 : Int32) (s0 : Int32) : Option (Int32 × HI) := (if s0 = 0 then fX9_signed_39 m h v1 v2 v3 s0 else ((fX9_token m h).bind fun h4 => fX9_signed_39 m h4 v1 v2 v3 s0))
set_option maxRecDepth 100000 in
set_option maxHeartbeats 4000000 in
theorem cX9_signed_28 {X : CT} {sh : Sh} {adr : Nat → Nat} {r : Nat → Nat → Option Nat} {m : Nat} {p : Int32 × HI} (hS : MS sh r m) (C : CX X yX9_signed.cls cX9_signed 6 2) (hZ : SZX X adr) (E : RX X (some .int) sh adr (fun v τ => v = some (.int p.1) ∧ τ = mk p.2 r)) {h : HI} {v1 : Int32} {v2 : Int32} {v3 : Int32} {s0 : Int32} (H : fX9_signed_28 m h v1 v2 v3 s0 = some p) : WW X (sh, adr, 0, 0) 28 [.ref m, .int v1, .int v2, .int v3, .retAddr 0, .retAddr 0] [.int s0] (mk h r) := by
  rw [fX9_signed_28] at H
  refine ww_istore C dX9_signed_28 (by decide) rfl [.ref m, .int v1, .int v2, .int v3, .int s0, .retAddr 0] rfl ?_
  refine ww_iload C dX9_signed_30 rfl ?_
  refine ww_if_eq C dX9_signed_32 39 rfl (fun hc => ?_) (fun hc => ?_)
  · rw [if_pos hc] at H
    exact cX9_signed_39 hS C hZ E H
  · rw [if_neg hc] at H
    refine ww_aload_n C dX9_signed_35 0 rfl rfl ?_
    obtain ⟨h4, hc1, H⟩ := bd_of H
    refine ww_callV C hZ dX9_signed_36 cw_X9_272 (ccX9_token hS hc1) hS.1 ⟨by decide, rfl⟩ (by decide) rfl rfl (Nat.le_of_ble_eq_true rfl) ⟨Nat.zero_le _, Nat.zero_le _⟩ (fun v τ hp => ?_)
    obtain ⟨rfl, rfl⟩ := hp
    change WW X _ 39 [.ref m, .int v1, .int v2, .int v3, .int s0, .retAddr 0] [] _
    exact cX9_signed_39 hS C hZ E H
def fX9_signed (m : Nat) (h : HI) (a1 : Int32) (a2 : Int32) : Option (Int32 × HI) := (if (h.1 m 2) ≤ 0 then (if (h.1 m 6) = (45 : Int32) then fX9_signed_28 m h a1 a2 (h.1 m 7) (1 : Int32) else fX9_signed_28 m h a1 a2 (h.1 m 7) (0 : Int32)) else some ((0 : Int32), h))
set_option maxRecDepth 100000 in
set_option maxHeartbeats 4000000 in
theorem ccX9_signed {l : Launch} {sh : Sh} {adr : Nat → Nat} {r : Nat → Nat → Option Nat} {m : Nat} (hS : MS sh r m) {h : HI} {a1 : Int32} {a2 : Int32} {p : Int32 × HI} (H : fX9_signed m h a1 a2 = some p) : CC l yX9_signed cX9_signed 6 (some .int) 2 [.ref m, .int a1, .int a2] sh adr (mk h r) (fun v τ => v = some (.int p.1) ∧ τ = mk p.2 r) := by
  refine CC.of (by decide) (Nat.le_of_ble_eq_true rfl) 3 [.ref m, .int a1, .int a2, .retAddr 0, .retAddr 0, .retAddr 0] rfl (fun X _ C E hZ => ?_)
  rw [fX9_signed] at H
  refine ww_aload_n C dX9_signed_0 0 rfl rfl ?_
  refine wk_getI C dX9_signed_1 fl_X9_216 hS.1 rfl ?_
  refine ww_if_le C dX9_signed_4 9 rfl (fun hc => ?_) (fun hc => ?_)
  · rw [if_pos hc] at H
    refine ww_aload_n C dX9_signed_9 0 rfl rfl ?_
    refine wk_getI C dX9_signed_10 fl_X9_193 hS.1 rfl ?_
    refine ww_istore_n C dX9_signed_13 3 rfl (by decide) rfl [.ref m, .int a1, .int a2, .int (h.1 m 7), .retAddr 0, .retAddr 0] rfl ?_
    refine ww_aload_n C dX9_signed_14 0 rfl rfl ?_
    refine wk_getI C dX9_signed_15 fl_X9_203 hS.1 rfl ?_
    refine ww_bipush (v := (45 : Int32)) C dX9_signed_18 (by decide) ?_
    refine ww_icmp_ne C dX9_signed_20 27 rfl (fun hc => ?_) (fun hc => ?_)
    · rw [if_neg hc] at H
      refine ww_iconst (v := (0 : Int32)) C dX9_signed_27 (by decide) ?_
      exact cX9_signed_28 hS C hZ E H
    · rw [if_pos hc] at H
      refine ww_iconst (v := (1 : Int32)) C dX9_signed_23 (by decide) ?_
      refine ww_goto C dX9_signed_24 28 rfl ?_
      exact cX9_signed_28 hS C hZ E H
  · rw [if_neg hc] at H
    refine ww_iconst (v := (0 : Int32)) C dX9_signed_7 (by decide) ?_
    cases H
    exact ww_iret C E dX9_signed_8 ⟨rfl, rfl⟩
def fX9_note (m : Nat) (h : HI) (a1 : Int32) (a2 : Int32) : Option (HI) := (if inB (h.1 m 17) 640 then (if inB (h.1 m 17) 640 then some (uI (uI (uI h (m + 2) ((h.1 m 17).toNatClampNeg) a1) (m + 3) ((h.1 m 17).toNatClampNeg) a2) m 17 ((h.1 m 17) + (1 : Int32))) else none) else none)
set_option maxRecDepth 100000 in
set_option maxHeartbeats 4000000 in
theorem ccX9_note {l : Launch} {sh : Sh} {adr : Nat → Nat} {r : Nat → Nat → Option Nat} {m : Nat} (hS : MS sh r m) {h : HI} {a1 : Int32} {a2 : Int32} {p : HI} (H : fX9_note m h a1 a2 = some p) : CC l yX9_note cX9_note 3 none 0 [.ref m, .int a1, .int a2] sh adr (mk h r) (fun v τ => v = none ∧ τ = mk p r) := by
  refine CC.of (by decide) (Nat.le_of_ble_eq_true rfl) 0 [.ref m, .int a1, .int a2] rfl (fun X _ C E hZ => ?_)
  rw [fX9_note] at H
  refine ww_aload_n C dX9_note_0 0 rfl rfl ?_
  refine wk_getR C dX9_note_1 fl_X9_17 hS.1 rfl (tX9_nWhat hS).1 ?_
  refine ww_aload_n C dX9_note_4 0 rfl rfl ?_
  refine wk_getI C dX9_note_5 fl_X9_283 hS.1 rfl ?_
  refine ww_iload_n C dX9_note_8 1 rfl rfl ?_
  obtain ⟨hg, H⟩ := gd_of H
  refine wk_iastore C dX9_note_9 (tX9_nWhat hS).2.1 (vp_of hg (tX9_nWhat hS).2.2) ((h.1 m 17).toNatClampNeg) rfl ?_
  refine ww_aload_n C dX9_note_10 0 rfl rfl ?_
  refine wk_getR C dX9_note_11 fl_X9_20 hS.1 rfl (tX9_nNumber hS).1 ?_
  refine ww_aload_n C dX9_note_14 0 rfl rfl ?_
  refine wk_getI C dX9_note_15 fl_X9_283 hS.1 rfl ?_
  refine ww_as (v := (h.1 m 17)) (by rw [uI_n (by omega)]) ?_
  refine ww_iload_n C dX9_note_18 2 rfl rfl ?_
  obtain ⟨hg, H⟩ := gd_of H
  refine wk_iastore C dX9_note_19 (tX9_nNumber hS).2.1 (vp_of hg (tX9_nNumber hS).2.2) ((h.1 m 17).toNatClampNeg) rfl ?_
  refine ww_aload_n C dX9_note_20 0 rfl rfl ?_
  refine ww_dup C dX9_note_21 rfl ?_
  refine wk_getI C dX9_note_22 fl_X9_283 hS.1 rfl ?_
  refine ww_as (v := (h.1 m 17)) (by rw [uI_n (by omega), uI_n (by omega)]) ?_
  refine ww_iconst (v := (1 : Int32)) C dX9_note_25 (by decide) ?_
  refine ww_iadd C dX9_note_26 ?_
  refine wk_putI C dX9_note_27 fl_X9_283 hS.1 rfl rfl ?_
  cases H
  exact ww_vret C E dX9_note_30 ⟨rfl, rfl⟩
def fX9_upper (m : Nat) (h : HI) : Option (Int32 × HI) := (if (h.1 m 21) = 0 then some ((40 : Int32), h) else (if inB ((h.1 m 21) - (1 : Int32)) 300 then some ((h.1 (m + 6) (((h.1 m 21) - (1 : Int32)).toNatClampNeg)), h) else none))
set_option maxRecDepth 100000 in
set_option maxHeartbeats 4000000 in
theorem ccX9_upper {l : Launch} {sh : Sh} {adr : Nat → Nat} {r : Nat → Nat → Option Nat} {m : Nat} (hS : MS sh r m) {h : HI}  {p : Int32 × HI} (H : fX9_upper m h = some p) : CC l yX9_upper cX9_upper 1 (some .int) 0 [.ref m] sh adr (mk h r) (fun v τ => v = some (.int p.1) ∧ τ = mk p.2 r) := by
  refine CC.of (by decide) (Nat.le_of_ble_eq_true rfl) 0 [.ref m] rfl (fun X _ C E hZ => ?_)
  rw [fX9_upper] at H
  refine ww_aload_n C dX9_upper_0 0 rfl rfl ?_
  refine wk_getI C dX9_upper_1 fl_X9_286 hS.1 rfl ?_
  refine ww_if_ne C dX9_upper_4 12 rfl (fun hc => ?_) (fun hc => ?_)
  · rw [if_neg hc] at H
    refine ww_aload_n C dX9_upper_12 0 rfl rfl ?_
    refine wk_getR C dX9_upper_13 fl_X9_29 hS.1 rfl (tX9_waits hS).1 ?_
    refine ww_aload_n C dX9_upper_16 0 rfl rfl ?_
    refine wk_getI C dX9_upper_17 fl_X9_286 hS.1 rfl ?_
    refine ww_iconst (v := (1 : Int32)) C dX9_upper_20 (by decide) ?_
    refine ww_isub C dX9_upper_21 ?_
    obtain ⟨hg, H⟩ := gd_of H
    refine wk_iaload C dX9_upper_22 (tX9_waits hS).2.1 (vp_of hg (tX9_waits hS).2.2) (((h.1 m 21) - (1 : Int32)).toNatClampNeg) rfl ?_
    cases H
    exact ww_iret C E dX9_upper_23 ⟨rfl, rfl⟩
  · rw [if_pos hc] at H
    refine ww_bipush (v := (40 : Int32)) C dX9_upper_7 (by decide) ?_
    refine ww_goto C dX9_upper_9 23 rfl ?_
    cases H
    exact ww_iret C E dX9_upper_23 ⟨rfl, rfl⟩
def fX9_hold_32 (m : Nat) (h : HI) : Option (HI) := some (uI h m 22 ((h.1 m 22) + (1 : Int32)))
set_option maxRecDepth 100000 in
set_option maxHeartbeats 4000000 in
theorem cX9_hold_32 {X : CT} {sh : Sh} {adr : Nat → Nat} {r : Nat → Nat → Option Nat} {m : Nat} {p : HI} (hS : MS sh r m) (C : CX X yX9_hold.cls cX9_hold 2 0) (hZ : SZX X adr) (E : RX X none sh adr (fun v τ => v = none ∧ τ = mk p r)) {h : HI} (H : fX9_hold_32 m h = some p) : WW X (sh, adr, 0, 0) 32 [.ref m, .retAddr 0] [] (mk h r) := by
  rw [fX9_hold_32] at H
  refine ww_aload_n C dX9_hold_32 0 rfl rfl ?_
  refine ww_dup C dX9_hold_33 rfl ?_
  refine wk_getI C dX9_hold_34 fl_X9_289 hS.1 rfl ?_
  refine ww_iconst (v := (1 : Int32)) C dX9_hold_37 (by decide) ?_
  refine ww_iadd C dX9_hold_38 ?_
  refine wk_putI C dX9_hold_39 fl_X9_289 hS.1 rfl rfl ?_
  cases H
  exact ww_vret C E dX9_hold_42 ⟨rfl, rfl⟩
def fX9_hold (m : Nat) (h : HI) (a1 : Int32) : Option (HI) := (if inB (h.1 m 21) 300 then (if a1 = (40 : Int32) then fX9_hold_32 m (uI (uI h (m + 6) ((h.1 m 21).toNatClampNeg) a1) m 21 ((h.1 m 21) + (1 : Int32))) else (if a1 = (22 : Int32) then fX9_hold_32 m (uI (uI h (m + 6) ((h.1 m 21).toNatClampNeg) a1) m 21 ((h.1 m 21) + (1 : Int32))) else some (uI (uI h (m + 6) ((h.1 m 21).toNatClampNeg) a1) m 21 ((h.1 m 21) + (1 : Int32))))) else none)
set_option maxRecDepth 100000 in
set_option maxHeartbeats 4000000 in
theorem ccX9_hold {l : Launch} {sh : Sh} {adr : Nat → Nat} {r : Nat → Nat → Option Nat} {m : Nat} (hS : MS sh r m) {h : HI} {a1 : Int32} {p : HI} (H : fX9_hold m h a1 = some p) : CC l yX9_hold cX9_hold 2 none 0 [.ref m, .int a1] sh adr (mk h r) (fun v τ => v = none ∧ τ = mk p r) := by
  refine CC.of (by decide) (Nat.le_of_ble_eq_true rfl) 0 [.ref m, .int a1] rfl (fun X _ C E hZ => ?_)
  rw [fX9_hold] at H
  refine ww_aload_n C dX9_hold_0 0 rfl rfl ?_
  refine wk_getR C dX9_hold_1 fl_X9_29 hS.1 rfl (tX9_waits hS).1 ?_
  refine ww_aload_n C dX9_hold_4 0 rfl rfl ?_
  refine wk_getI C dX9_hold_5 fl_X9_286 hS.1 rfl ?_
  refine ww_iload_n C dX9_hold_8 1 rfl rfl ?_
  obtain ⟨hg, H⟩ := gd_of H
  refine wk_iastore C dX9_hold_9 (tX9_waits hS).2.1 (vp_of hg (tX9_waits hS).2.2) ((h.1 m 21).toNatClampNeg) rfl ?_
  refine ww_aload_n C dX9_hold_10 0 rfl rfl ?_
  refine ww_dup C dX9_hold_11 rfl ?_
  refine wk_getI C dX9_hold_12 fl_X9_286 hS.1 rfl ?_
  refine ww_as (v := (h.1 m 21)) (by rw [uI_n (by omega)]) ?_
  refine ww_iconst (v := (1 : Int32)) C dX9_hold_15 (by decide) ?_
  refine ww_iadd C dX9_hold_16 ?_
  refine wk_putI C dX9_hold_17 fl_X9_286 hS.1 rfl rfl ?_
  refine ww_iload_n C dX9_hold_20 1 rfl rfl ?_
  refine ww_bipush (v := (40 : Int32)) C dX9_hold_21 (by decide) ?_
  refine ww_icmp_eq C dX9_hold_23 32 rfl (fun hc => ?_) (fun hc => ?_)
  · rw [if_pos hc] at H
    exact ww_drop [.ref m, .retAddr 0] (sl_e (sl_d sl_n)) (cX9_hold_32 hS C hZ E H)
  · rw [if_neg hc] at H
    refine ww_iload_n C dX9_hold_26 1 rfl rfl ?_
    refine ww_bipush (v := (22 : Int32)) C dX9_hold_27 (by decide) ?_
    refine ww_icmp_ne C dX9_hold_29 42 rfl (fun hc => ?_) (fun hc => ?_)
    · rw [if_neg hc] at H
      cases H
      exact ww_vret C E dX9_hold_42 ⟨rfl, rfl⟩
    · rw [if_pos hc] at H
      exact ww_drop [.ref m, .retAddr 0] (sl_e (sl_d sl_n)) (cX9_hold_32 hS C hZ E H)
def fX9_pop_34 (m : Nat) (h : HI) : Option (HI) := (if inB (h.1 m 21) 300 then ((fX9_note m h (h.1 (m + 6) ((h.1 m 21).toNatClampNeg)) (0 : Int32)).bind fun h1 => some h1) else none)
set_option maxRecDepth 100000 in
set_option maxHeartbeats 4000000 in
theorem cX9_pop_34 {X : CT} {sh : Sh} {adr : Nat → Nat} {r : Nat → Nat → Option Nat} {m : Nat} {p : HI} (hS : MS sh r m) (C : CX X yX9_pop.cls cX9_pop 1 1) (hZ : SZX X adr) (E : RX X none sh adr (fun v τ => v = none ∧ τ = mk p r)) {h : HI} (H : fX9_pop_34 m h = some p) : WW X (sh, adr, 0, 0) 34 [.ref m] [] (mk h r) := by
  rw [fX9_pop_34] at H
  refine ww_aload_n C dX9_pop_34 0 rfl rfl ?_
  refine ww_aload_n C dX9_pop_35 0 rfl rfl ?_
  refine wk_getR C dX9_pop_36 fl_X9_29 hS.1 rfl (tX9_waits hS).1 ?_
  refine ww_aload_n C dX9_pop_39 0 rfl rfl ?_
  refine wk_getI C dX9_pop_40 fl_X9_286 hS.1 rfl ?_
  obtain ⟨hg, H⟩ := gd_of H
  refine wk_iaload C dX9_pop_43 (tX9_waits hS).2.1 (vp_of hg (tX9_waits hS).2.2) ((h.1 m 21).toNatClampNeg) rfl ?_
  refine ww_iconst (v := (0 : Int32)) C dX9_pop_44 (by decide) ?_
  obtain ⟨h1, hc1, H⟩ := bd_of H
  refine ww_callV C hZ dX9_pop_45 cw_X9_292 (ccX9_note hS hc1) hS.1 ⟨by decide, rfl⟩ (by decide) rfl rfl (Nat.le_of_ble_eq_true rfl) ⟨Nat.zero_le _, Nat.zero_le _⟩ (fun v τ hp => ?_)
  obtain ⟨rfl, rfl⟩ := hp
  change WW X _ 48 [.ref m] [] _
  cases H
  exact ww_vret C E dX9_pop_48 ⟨rfl, rfl⟩
def fX9_pop (m : Nat) (h : HI) : Option (HI) := (if inB ((h.1 m 21) - (1 : Int32)) 300 then (if (h.1 (m + 6) (((h.1 m 21) - (1 : Int32)).toNatClampNeg)) = (22 : Int32) then fX9_pop_34 m (uI (uI h m 21 ((h.1 m 21) - (1 : Int32))) m 22 ((h.1 m 22) - (1 : Int32))) else fX9_pop_34 m (uI h m 21 ((h.1 m 21) - (1 : Int32)))) else none)
set_option maxRecDepth 100000 in
set_option maxHeartbeats 4000000 in
theorem ccX9_pop {l : Launch} {sh : Sh} {adr : Nat → Nat} {r : Nat → Nat → Option Nat} {m : Nat} (hS : MS sh r m) {h : HI}  {p : HI} (H : fX9_pop m h = some p) : CC l yX9_pop cX9_pop 1 none 1 [.ref m] sh adr (mk h r) (fun v τ => v = none ∧ τ = mk p r) := by
  refine CC.of (by decide) (Nat.le_of_ble_eq_true rfl) 0 [.ref m] rfl (fun X _ C E hZ => ?_)
  rw [fX9_pop] at H
  refine ww_aload_n C dX9_pop_0 0 rfl rfl ?_
  refine ww_dup C dX9_pop_1 rfl ?_
  refine wk_getI C dX9_pop_2 fl_X9_286 hS.1 rfl ?_
  refine ww_iconst (v := (1 : Int32)) C dX9_pop_5 (by decide) ?_
  refine ww_isub C dX9_pop_6 ?_
  refine wk_putI C dX9_pop_7 fl_X9_286 hS.1 rfl rfl ?_
  refine ww_aload_n C dX9_pop_10 0 rfl rfl ?_
  refine wk_getR C dX9_pop_11 fl_X9_29 hS.1 rfl (tX9_waits hS).1 ?_
  refine ww_aload_n C dX9_pop_14 0 rfl rfl ?_
  refine wk_getI C dX9_pop_15 fl_X9_286 hS.1 rfl ?_
  refine ww_as (v := ((h.1 m 21) - (1 : Int32))) (by rw [uI_s]) ?_
  obtain ⟨hg, H⟩ := gd_of H
  refine wk_iaload C dX9_pop_18 (tX9_waits hS).2.1 (vp_of hg (tX9_waits hS).2.2) (((h.1 m 21) - (1 : Int32)).toNatClampNeg) rfl ?_
  refine ww_as (v := (h.1 (m + 6) (((h.1 m 21) - (1 : Int32)).toNatClampNeg))) (by rw [uI_n (by omega)]) ?_
  refine ww_bipush (v := (22 : Int32)) C dX9_pop_19 (by decide) ?_
  refine ww_icmp_ne C dX9_pop_21 34 rfl (fun hc => ?_) (fun hc => ?_)
  · rw [if_neg hc] at H
    exact cX9_pop_34 hS C hZ E H
  · rw [if_pos hc] at H
    refine ww_aload_n C dX9_pop_24 0 rfl rfl ?_
    refine ww_dup C dX9_pop_25 rfl ?_
    refine wk_getI C dX9_pop_26 fl_X9_289 hS.1 rfl ?_
    refine ww_as (v := (h.1 m 22)) (by rw [uI_n (by omega)]) ?_
    refine ww_iconst (v := (1 : Int32)) C dX9_pop_29 (by decide) ?_
    refine ww_isub C dX9_pop_30 ?_
    refine wk_putI C dX9_pop_31 fl_X9_289 hS.1 rfl rfl ?_
    exact cX9_pop_34 hS C hZ E H
def fX9_rank (h : HI) (a0 : Int32) : Option (Int32 × HI) := (if a0 = (27 : Int32) then some ((26 : Int32), h) else (if a0 = (24 : Int32) then some ((23 : Int32), h) else (if a0 = (25 : Int32) then some ((23 : Int32), h) else some (a0, h))))
set_option maxRecDepth 100000 in
set_option maxHeartbeats 4000000 in
theorem ccX9_rank {l : Launch} {sh : Sh} {adr : Nat → Nat} {r : Nat → Nat → Option Nat} {h : HI} {a0 : Int32} {p : Int32 × HI} (H : fX9_rank h a0 = some p) : CC l yX9_rank cX9_rank 1 (some .int) 0 [.int a0] sh adr (mk h r) (fun v τ => v = some (.int p.1) ∧ τ = mk p.2 r) := by
  refine CC.of (by decide) (Nat.le_of_ble_eq_true rfl) 0 [.int a0] rfl (fun X _ C E hZ => ?_)
  rw [fX9_rank] at H
  refine ww_iload_n C dX9_rank_0 0 rfl rfl ?_
  refine ww_bipush (v := (27 : Int32)) C dX9_rank_1 (by decide) ?_
  refine ww_icmp_ne C dX9_rank_3 11 rfl (fun hc => ?_) (fun hc => ?_)
  · rw [if_neg hc] at H
    refine ww_iload_n C dX9_rank_11 0 rfl rfl ?_
    refine ww_bipush (v := (24 : Int32)) C dX9_rank_12 (by decide) ?_
    refine ww_icmp_eq C dX9_rank_14 23 rfl (fun hc => ?_) (fun hc => ?_)
    · rw [if_pos hc] at H
      refine ww_bipush (v := (23 : Int32)) C dX9_rank_23 (by decide) ?_
      refine ww_goto C dX9_rank_25 29 rfl ?_
      cases H
      exact ww_iret C E dX9_rank_29 ⟨rfl, rfl⟩
    · rw [if_neg hc] at H
      refine ww_iload_n C dX9_rank_17 0 rfl rfl ?_
      refine ww_bipush (v := (25 : Int32)) C dX9_rank_18 (by decide) ?_
      refine ww_icmp_ne C dX9_rank_20 28 rfl (fun hc => ?_) (fun hc => ?_)
      · rw [if_neg hc] at H
        refine ww_iload_n C dX9_rank_28 0 rfl rfl ?_
        cases H
        exact ww_iret C E dX9_rank_29 ⟨rfl, rfl⟩
      · rw [if_pos hc] at H
        refine ww_bipush (v := (23 : Int32)) C dX9_rank_23 (by decide) ?_
        refine ww_goto C dX9_rank_25 29 rfl ?_
        cases H
        exact ww_iret C E dX9_rank_29 ⟨rfl, rfl⟩
  · rw [if_pos hc] at H
    refine ww_bipush (v := (26 : Int32)) C dX9_rank_6 (by decide) ?_
    refine ww_goto C dX9_rank_8 29 rfl ?_
    cases H
    exact ww_iret C E dX9_rank_29 ⟨rfl, rfl⟩
