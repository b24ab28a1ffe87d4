def fX8_feed (o : Nat) (h : HI) (a1 : Int32) (a2 : Int32) (a3 : Int32) (a4 : Int32) (a5 : Int32) : Option (Int32 × HI) := ((fX7_hasRoomForFive (o + 1) h).bind fun p1 => (if p1.1 = 0 then some ((-1 : Int32), p1.2) else ((fX7_put (o + 1) p1.2 a1).bind fun h2 => ((fX7_put (o + 1) h2 a2).bind fun h3 => ((fX7_put (o + 1) h3 a3).bind fun h4 => ((fX7_put (o + 1) h4 a4).bind fun h5 => ((fX7_put (o + 1) h5 a5).bind fun h6 => some ((h6.1 (o + 1) 1), h6))))))))
set_option maxRecDepth 100000 in
set_option maxHeartbeats 4000000 in
theorem ccX8_feed {l : Launch} {sh : Sh} {adr : Nat → Nat} {r : Nat → Nat → Option Nat} {o : Nat} {hh : Nat} {hs : Nat} {rh : Nat} {ph : Nat} {nh : Nat} (hS : KS sh r hh hs rh ph nh o) {h : HI} {a1 : Int32} {a2 : Int32} {a3 : Int32} {a4 : Int32} {a5 : Int32} {p : Int32 × HI} (H : fX8_feed o h a1 a2 a3 a4 a5 = some p) : CC l yX8_feed cX8_feed 6 (some .int) 1 [.ref o, .int a1, .int a2, .int a3, .int a4, .int a5] sh adr (mk h r) (fun v τ => v = some (.int p.1) ∧ τ = mk p.2 r) := by
  refine CC.of (by decide) (Nat.le_of_ble_eq_true rfl) 0 [.ref o, .int a1, .int a2, .int a3, .int a4, .int a5] rfl (fun X _ C E hZ => ?_)
  rw [fX8_feed] at H
  refine ww_aload_n C dX8_feed_0 0 rfl rfl ?_
  refine wk_getA C dX8_feed_1 fl_X8_10 hS.1 rfl (tX8_tape hS).1 ?_
  obtain ⟨p1, hc1, H⟩ := bd_of H
  refine ww_callV C hZ dX8_feed_4 cw_X8_66 (ccX7_hasRoomForFive (tX8_tape hS).2 hc1) (tX8_tape hS).2.1 ⟨by decide, rfl⟩ (by decide) rfl rfl (Nat.le_of_ble_eq_true rfl) ⟨Nat.zero_le _, Nat.zero_le _⟩ (fun v τ hp => ?_)
  obtain ⟨rfl, rfl⟩ := hp
  change WW X _ 7 [.ref o, .int a1, .int a2, .int a3, .int a4, .int a5] [.int p1.1] _
  refine ww_if_ne C dX8_feed_7 12 rfl (fun hc => ?_) (fun hc => ?_)
  · rw [if_neg hc] at H
    refine ww_aload_n C dX8_feed_12 0 rfl rfl ?_
    refine wk_getA C dX8_feed_13 fl_X8_10 hS.1 rfl (tX8_tape hS).1 ?_
    refine ww_iload_n C dX8_feed_16 1 rfl rfl ?_
    obtain ⟨h2, hc1, H⟩ := bd_of H
    refine ww_callV C hZ dX8_feed_17 cw_X8_70 (ccX7_put (tX8_tape hS).2 hc1) (tX8_tape hS).2.1 ⟨by decide, rfl⟩ (by decide) rfl rfl (Nat.le_of_ble_eq_true rfl) ⟨Nat.zero_le _, Nat.zero_le _⟩ (fun v τ hp => ?_)
    obtain ⟨rfl, rfl⟩ := hp
    change WW X _ 20 [.ref o, .int a1, .int a2, .int a3, .int a4, .int a5] [] _
    refine ww_aload_n C dX8_feed_20 0 rfl rfl ?_
    refine wk_getA C dX8_feed_21 fl_X8_10 hS.1 rfl (tX8_tape hS).1 ?_
    refine ww_iload_n C dX8_feed_24 2 rfl rfl ?_
    obtain ⟨h3, hc1, H⟩ := bd_of H
    refine ww_callV C hZ dX8_feed_25 cw_X8_70 (ccX7_put (tX8_tape hS).2 hc1) (tX8_tape hS).2.1 ⟨by decide, rfl⟩ (by decide) rfl rfl (Nat.le_of_ble_eq_true rfl) ⟨Nat.zero_le _, Nat.zero_le _⟩ (fun v τ hp => ?_)
    obtain ⟨rfl, rfl⟩ := hp
    change WW X _ 28 [.ref o, .int a1, .int a2, .int a3, .int a4, .int a5] [] _
    refine ww_aload_n C dX8_feed_28 0 rfl rfl ?_
    refine wk_getA C dX8_feed_29 fl_X8_10 hS.1 rfl (tX8_tape hS).1 ?_
    refine ww_iload_n C dX8_feed_32 3 rfl rfl ?_
    obtain ⟨h4, hc1, H⟩ := bd_of H
    refine ww_callV C hZ dX8_feed_33 cw_X8_70 (ccX7_put (tX8_tape hS).2 hc1) (tX8_tape hS).2.1 ⟨by decide, rfl⟩ (by decide) rfl rfl (Nat.le_of_ble_eq_true rfl) ⟨Nat.zero_le _, Nat.zero_le _⟩ (fun v τ hp => ?_)
    obtain ⟨rfl, rfl⟩ := hp
    change WW X _ 36 [.ref o, .int a1, .int a2, .int a3, .int a4, .int a5] [] _
    refine ww_aload_n C dX8_feed_36 0 rfl rfl ?_
    refine wk_getA C dX8_feed_37 fl_X8_10 hS.1 rfl (tX8_tape hS).1 ?_
    refine ww_iload C dX8_feed_40 rfl ?_
    obtain ⟨h5, hc1, H⟩ := bd_of H
    refine ww_callV C hZ dX8_feed_42 cw_X8_70 (ccX7_put (tX8_tape hS).2 hc1) (tX8_tape hS).2.1 ⟨by decide, rfl⟩ (by decide) rfl rfl (Nat.le_of_ble_eq_true rfl) ⟨Nat.zero_le _, Nat.zero_le _⟩ (fun v τ hp => ?_)
    obtain ⟨rfl, rfl⟩ := hp
    change WW X _ 45 [.ref o, .int a1, .int a2, .int a3, .int a4, .int a5] [] _
    refine ww_aload_n C dX8_feed_45 0 rfl rfl ?_
    refine wk_getA C dX8_feed_46 fl_X8_10 hS.1 rfl (tX8_tape hS).1 ?_
    refine ww_iload C dX8_feed_49 rfl ?_
    obtain ⟨h6, hc1, H⟩ := bd_of H
    refine ww_callV C hZ dX8_feed_51 cw_X8_70 (ccX7_put (tX8_tape hS).2 hc1) (tX8_tape hS).2.1 ⟨by decide, rfl⟩ (by decide) rfl rfl (Nat.le_of_ble_eq_true rfl) ⟨Nat.zero_le _, Nat.zero_le _⟩ (fun v τ hp => ?_)
    obtain ⟨rfl, rfl⟩ := hp
    change WW X _ 54 [.ref o, .int a1, .int a2, .int a3, .int a4, .int a5] [] _
    refine ww_aload_n C dX8_feed_54 0 rfl rfl ?_
    refine wk_getA C dX8_feed_55 fl_X8_10 hS.1 rfl (tX8_tape hS).1 ?_
    refine wk_getI C dX8_feed_58 fl_X8_74 (tX8_tape hS).2.1 rfl ?_
    cases H
    exact ww_iret C E dX8_feed_61 ⟨rfl, rfl⟩
  · rw [if_pos hc] at H
    refine ww_iconst (v := (-1 : Int32)) C dX8_feed_10 (by decide) ?_
    cases H
    exact ww_iret C E dX8_feed_11 ⟨rfl, rfl⟩
def fX8_end (o : Nat) (h : HI) (a1 : Int32) : Option (Int32 × HI) := (if a1 < 0 then some ((-1 : Int32), h) else (if a1 ≤ (h.1 (o + 1) 1) then some (a1, (uI h (o + 1) 1 a1)) else some ((-1 : Int32), h)))
set_option maxRecDepth 100000 in
set_option maxHeartbeats 4000000 in
theorem ccX8_end {l : Launch} {sh : Sh} {adr : Nat → Nat} {r : Nat → Nat → Option Nat} {o : Nat} {hh : Nat} {hs : Nat} {rh : Nat} {ph : Nat} {nh : Nat} (hS : KS sh r hh hs rh ph nh o) {h : HI} {a1 : Int32} {p : Int32 × HI} (H : fX8_end o h a1 = some p) : CC l yX8_end cX8_end 2 (some .int) 0 [.ref o, .int a1] sh adr (mk h r) (fun v τ => v = some (.int p.1) ∧ τ = mk p.2 r) := by
  refine CC.of (by decide) (Nat.le_of_ble_eq_true rfl) 0 [.ref o, .int a1] rfl (fun X _ C E hZ => ?_)
  rw [fX8_end] at H
  refine ww_iload_n C dX8_end_0 1 rfl rfl ?_
  refine ww_if_lt C dX8_end_1 15 rfl (fun hc => ?_) (fun hc => ?_)
  · rw [if_pos hc] at H
    refine ww_iconst (v := (-1 : Int32)) C dX8_end_15 (by decide) ?_
    cases H
    exact ww_iret C E dX8_end_16 ⟨rfl, rfl⟩
  · rw [if_neg hc] at H
    refine ww_iload_n C dX8_end_4 1 rfl rfl ?_
    refine ww_aload_n C dX8_end_5 0 rfl rfl ?_
    refine wk_getA C dX8_end_6 fl_X8_10 hS.1 rfl (tX8_tape hS).1 ?_
    refine wk_getI C dX8_end_9 fl_X8_74 (tX8_tape hS).2.1 rfl ?_
    refine ww_icmp_le C dX8_end_12 17 rfl (fun hc => ?_) (fun hc => ?_)
    · rw [if_pos hc] at H
      refine ww_aload_n C dX8_end_17 0 rfl rfl ?_
      refine wk_getA C dX8_end_18 fl_X8_10 hS.1 rfl (tX8_tape hS).1 ?_
      refine ww_iload_n C dX8_end_21 1 rfl rfl ?_
      refine wk_putI C dX8_end_22 fl_X8_74 (tX8_tape hS).2.1 rfl rfl ?_
      refine ww_iload_n C dX8_end_25 1 rfl rfl ?_
      cases H
      exact ww_iret C E dX8_end_26 ⟨rfl, rfl⟩
    · rw [if_neg hc] at H
      refine ww_iconst (v := (-1 : Int32)) C dX8_end_15 (by decide) ?_
      cases H
      exact ww_iret C E dX8_end_16 ⟨rfl, rfl⟩
def fX8_fault (o : Nat) (h : HI) (a1 : Int32) : Option (Int32 × HI) := (if a1 = (0 : Int32) then some ((h.1 (o + 53) 8), h) else (if a1 = (1 : Int32) then some ((h.1 (o + 53) 9), h) else some ((-1 : Int32), h)))
set_option maxRecDepth 100000 in
set_option maxHeartbeats 4000000 in
theorem ccX8_fault {l : Launch} {sh : Sh} {adr : Nat → Nat} {r : Nat → Nat → Option Nat} {o : Nat} {hh : Nat} {hs : Nat} {rh : Nat} {ph : Nat} {nh : Nat} (hS : KS sh r hh hs rh ph nh o) {h : HI} {a1 : Int32} {p : Int32 × HI} (H : fX8_fault o h a1 = some p) : CC l yX8_fault cX8_fault 2 (some .int) 0 [.ref o, .int a1] sh adr (mk h r) (fun v τ => v = some (.int p.1) ∧ τ = mk p.2 r) := by
  refine CC.of (by decide) (Nat.le_of_ble_eq_true rfl) 0 [.ref o, .int a1] rfl (fun X _ C E hZ => ?_)
  rw [fX8_fault] at H
  refine ww_iload_n C dX8_fault_0 1 rfl rfl ?_
  by_cases hc0 : a1 = (0 : Int32)
  · rw [if_pos hc0] at H
    refine ww_lookup (off := 27) C dX8_fault_1 (by decide) (by rw [hc0]; rfl) 28 rfl ?_
    refine ww_aload_n C dX8_fault_28 0 rfl rfl ?_
    refine wk_getA C dX8_fault_29 fl_X8_48 hS.1 rfl (tX8_reader hS).1 ?_
    refine wk_getI C dX8_fault_32 fl_X8_97 (tX8_reader hS).2.1 rfl ?_
    cases H
    exact ww_iret C E dX8_fault_35 ⟨rfl, rfl⟩
  · rw [if_neg hc0] at H
    by_cases hc1 : a1 = (1 : Int32)
    · rw [if_pos hc1] at H
      refine ww_lookup (off := 35) C dX8_fault_1 (by decide) (by rw [hc1]; rfl) 36 rfl ?_
      refine ww_aload_n C dX8_fault_36 0 rfl rfl ?_
      refine wk_getA C dX8_fault_37 fl_X8_48 hS.1 rfl (tX8_reader hS).1 ?_
      refine wk_getI C dX8_fault_40 fl_X8_100 (tX8_reader hS).2.1 rfl ?_
      cases H
      exact ww_iret C E dX8_fault_43 ⟨rfl, rfl⟩
    · rw [if_neg hc1] at H
      refine ww_lookup (off := 43) C dX8_fault_1 (by decide) (by show Op.lookupswitch.offset [(0, 27), (1, 35)] 43 _ = _; rw [lv_osw (k := (0 : Int32)) hc0 (by decide), lv_osw (k := (1 : Int32)) hc1 (by decide)]; rfl) 44 rfl ?_
      refine ww_iconst (v := (-1 : Int32)) C dX8_fault_44 (by decide) ?_
      cases H
      exact ww_iret C E dX8_fault_45 ⟨rfl, rfl⟩
def fX8_rise (o : Nat) (nh : Nat) (h : HI) (a1 : Int32) : Option (Int32 × HI) := ((fX6_standUp (o + 56) nh h a1).bind fun p1 => some (p1.1, p1.2))
set_option maxRecDepth 100000 in
set_option maxHeartbeats 4000000 in
theorem ccX8_rise {l : Launch} {sh : Sh} {adr : Nat → Nat} {r : Nat → Nat → Option Nat} {o : Nat} {hh : Nat} {hs : Nat} {rh : Nat} {ph : Nat} {nh : Nat} (hS : KS sh r hh hs rh ph nh o) {h : HI} {a1 : Int32} {p : Int32 × HI} (H : fX8_rise o nh h a1 = some p) : CC l yX8_rise cX8_rise 2 (some .int) 5 [.ref o, .int a1] sh adr (mk h r) (fun v τ => v = some (.int p.1) ∧ τ = mk p.2 r) := by
  refine CC.of (by decide) (Nat.le_of_ble_eq_true rfl) 0 [.ref o, .int a1] rfl (fun X _ C E hZ => ?_)
  rw [fX8_rise] at H
  refine ww_aload_n C dX8_rise_0 0 rfl rfl ?_
  refine wk_getA C dX8_rise_1 fl_X8_55 hS.1 rfl (tX8_now hS).1 ?_
  refine ww_iload_n C dX8_rise_4 1 rfl rfl ?_
  obtain ⟨p1, hc1, H⟩ := bd_of H
  refine ww_callV C hZ dX8_rise_5 cw_X8_103 (ccX6_standUp (tX8_now hS).2 hc1) (tX8_now hS).2.1 ⟨by decide, rfl⟩ (by decide) rfl rfl (Nat.le_of_ble_eq_true rfl) ⟨Nat.zero_le _, Nat.zero_le _⟩ (fun v τ hp => ?_)
  obtain ⟨rfl, rfl⟩ := hp
  change WW X _ 8 [.ref o, .int a1] [.int p1.1] _
  cases H
  exact ww_iret C E dX8_rise_8 ⟨rfl, rfl⟩
def fX8_sit (o : Nat) (nh : Nat) (h : HI) (a1 : Int32) (a2 : Int32) : Option (Int32 × HI) := ((fX6_sitDown (o + 56) nh h a1 a2).bind fun p1 => some (p1.1, p1.2))
set_option maxRecDepth 100000 in
set_option maxHeartbeats 4000000 in
theorem ccX8_sit {l : Launch} {sh : Sh} {adr : Nat → Nat} {r : Nat → Nat → Option Nat} {o : Nat} {hh : Nat} {hs : Nat} {rh : Nat} {ph : Nat} {nh : Nat} (hS : KS sh r hh hs rh ph nh o) {h : HI} {a1 : Int32} {a2 : Int32} {p : Int32 × HI} (H : fX8_sit o nh h a1 a2 = some p) : CC l yX8_sit cX8_sit 3 (some .int) 5 [.ref o, .int a1, .int a2] sh adr (mk h r) (fun v τ => v = some (.int p.1) ∧ τ = mk p.2 r) := by
  refine CC.of (by decide) (Nat.le_of_ble_eq_true rfl) 0 [.ref o, .int a1, .int a2] rfl (fun X _ C E hZ => ?_)
  rw [fX8_sit] at H
  refine ww_aload_n C dX8_sit_0 0 rfl rfl ?_
  refine wk_getA C dX8_sit_1 fl_X8_55 hS.1 rfl (tX8_now hS).1 ?_
  refine ww_iload_n C dX8_sit_4 1 rfl rfl ?_
  refine ww_iload_n C dX8_sit_5 2 rfl rfl ?_
  obtain ⟨p1, hc1, H⟩ := bd_of H
  refine ww_callV C hZ dX8_sit_6 cw_X8_107 (ccX6_sitDown (tX8_now hS).2 hc1) (tX8_now hS).2.1 ⟨by decide, rfl⟩ (by decide) rfl rfl (Nat.le_of_ble_eq_true rfl) ⟨Nat.zero_le _, Nat.zero_le _⟩ (fun v τ hp => ?_)
  obtain ⟨rfl, rfl⟩ := hp
  change WW X _ 9 [.ref o, .int a1, .int a2] [.int p1.1] _
  cases H
  exact ww_iret C E dX8_sit_9 ⟨rfl, rfl⟩
def fX8_speak (o : Nat) (nh : Nat) (h : HI) (a1 : Int32) (a2 : Int32) : Option (Int32 × HI) := ((fX6_speakFor (o + 56) nh h a1 a2).bind fun p1 => some (p1.1, p1.2))
set_option maxRecDepth 100000 in
set_option maxHeartbeats 4000000 in
theorem ccX8_speak {l : Launch} {sh : Sh} {adr : Nat → Nat} {r : Nat → Nat → Option Nat} {o : Nat} {hh : Nat} {hs : Nat} {rh : Nat} {ph : Nat} {nh : Nat} (hS : KS sh r hh hs rh ph nh o) {h : HI} {a1 : Int32} {a2 : Int32} {p : Int32 × HI} (H : fX8_speak o nh h a1 a2 = some p) : CC l yX8_speak cX8_speak 3 (some .int) 5 [.ref o, .int a1, .int a2] sh adr (mk h r) (fun v τ => v = some (.int p.1) ∧ τ = mk p.2 r) := by
  refine CC.of (by decide) (Nat.le_of_ble_eq_true rfl) 0 [.ref o, .int a1, .int a2] rfl (fun X _ C E hZ => ?_)
  rw [fX8_speak] at H
  refine ww_aload_n C dX8_speak_0 0 rfl rfl ?_
  refine wk_getA C dX8_speak_1 fl_X8_55 hS.1 rfl (tX8_now hS).1 ?_
  refine ww_iload_n C dX8_speak_4 1 rfl rfl ?_
  refine ww_iload_n C dX8_speak_5 2 rfl rfl ?_
  obtain ⟨p1, hc1, H⟩ := bd_of H
  refine ww_callV C hZ dX8_speak_6 cw_X8_111 (ccX6_speakFor (tX8_now hS).2 hc1) (tX8_now hS).2.1 ⟨by decide, rfl⟩ (by decide) rfl rfl (Nat.le_of_ble_eq_true rfl) ⟨Nat.zero_le _, Nat.zero_le _⟩ (fun v τ hp => ?_)
  obtain ⟨rfl, rfl⟩ := hp
  change WW X _ 9 [.ref o, .int a1, .int a2] [.int p1.1] _
  cases H
  exact ww_iret C E dX8_speak_9 ⟨rfl, rfl⟩
def fX8_vote (o : Nat) (nh : Nat) (h : HI) (a1 : Int32) : Option (Int32 × HI) := ((fX6_voteOn (o + 56) nh h a1).bind fun p1 => some (p1.1, p1.2))
set_option maxRecDepth 100000 in
set_option maxHeartbeats 4000000 in
theorem ccX8_vote {l : Launch} {sh : Sh} {adr : Nat → Nat} {r : Nat → Nat → Option Nat} {o : Nat} {hh : Nat} {hs : Nat} {rh : Nat} {ph : Nat} {nh : Nat} (hS : KS sh r hh hs rh ph nh o) {h : HI} {a1 : Int32} {p : Int32 × HI} (H : fX8_vote o nh h a1 = some p) : CC l yX8_vote cX8_vote 2 (some .int) 7 [.ref o, .int a1] sh adr (mk h r) (fun v τ => v = some (.int p.1) ∧ τ = mk p.2 r) := by
  refine CC.of (by decide) (Nat.le_of_ble_eq_true rfl) 0 [.ref o, .int a1] rfl (fun X _ C E hZ => ?_)
  rw [fX8_vote] at H
  refine ww_aload_n C dX8_vote_0 0 rfl rfl ?_
  refine wk_getA C dX8_vote_1 fl_X8_55 hS.1 rfl (tX8_now hS).1 ?_
  refine ww_iload_n C dX8_vote_4 1 rfl rfl ?_
  obtain ⟨p1, hc1, H⟩ := bd_of H
  refine ww_callV C hZ dX8_vote_5 cw_X8_114 (ccX6_voteOn (tX8_now hS).2 hc1) (tX8_now hS).2.1 ⟨by decide, rfl⟩ (by decide) rfl rfl (Nat.le_of_ble_eq_true rfl) ⟨Nat.zero_le _, Nat.zero_le _⟩ (fun v τ hp => ?_)
  obtain ⟨rfl, rfl⟩ := hp
  change WW X _ 8 [.ref o, .int a1] [.int p1.1] _
  cases H
  exact ww_iret C E dX8_vote_8 ⟨rfl, rfl⟩
def fX8_enter (o : Nat) (nh : Nat) (h : HI) (a1 : Int32) : Option (Int32 × HI) := ((fX6_comeIn (o + 56) nh h a1).bind fun p1 => some (p1.1, p1.2))
set_option maxRecDepth 100000 in
set_option maxHeartbeats 4000000 in
theorem ccX8_enter {l : Launch} {sh : Sh} {adr : Nat → Nat} {r : Nat → Nat → Option Nat} {o : Nat} {hh : Nat} {hs : Nat} {rh : Nat} {ph : Nat} {nh : Nat} (hS : KS sh r hh hs rh ph nh o) {h : HI} {a1 : Int32} {p : Int32 × HI} (H : fX8_enter o nh h a1 = some p) : CC l yX8_enter cX8_enter 2 (some .int) 5 [.ref o, .int a1] sh adr (mk h r) (fun v τ => v = some (.int p.1) ∧ τ = mk p.2 r) := by
  refine CC.of (by decide) (Nat.le_of_ble_eq_true rfl) 0 [.ref o, .int a1] rfl (fun X _ C E hZ => ?_)
  rw [fX8_enter] at H
  refine ww_aload_n C dX8_enter_0 0 rfl rfl ?_
  refine wk_getA C dX8_enter_1 fl_X8_55 hS.1 rfl (tX8_now hS).1 ?_
  refine ww_iload_n C dX8_enter_4 1 rfl rfl ?_
  obtain ⟨p1, hc1, H⟩ := bd_of H
  refine ww_callV C hZ dX8_enter_5 cw_X8_117 (ccX6_comeIn (tX8_now hS).2 hc1) (tX8_now hS).2.1 ⟨by decide, rfl⟩ (by decide) rfl rfl (Nat.le_of_ble_eq_true rfl) ⟨Nat.zero_le _, Nat.zero_le _⟩ (fun v τ hp => ?_)
  obtain ⟨rfl, rfl⟩ := hp
  change WW X _ 8 [.ref o, .int a1] [.int p1.1] _
  cases H
  exact ww_iret C E dX8_enter_8 ⟨rfl, rfl⟩
def fX8_stay (o : Nat) (nh : Nat) (h : HI) (a1 : Int32) : Option (Int32 × HI) := ((fX6_idle (o + 56) nh h a1).bind fun p1 => some (p1.1, p1.2))
set_option maxRecDepth 100000 in
set_option maxHeartbeats 4000000 in
theorem ccX8_stay {l : Launch} {sh : Sh} {adr : Nat → Nat} {r : Nat → Nat → Option Nat} {o : Nat} {hh : Nat} {hs : Nat} {rh : Nat} {ph : Nat} {nh : Nat} (hS : KS sh r hh hs rh ph nh o) {h : HI} {a1 : Int32} {p : Int32 × HI} (H : fX8_stay o nh h a1 = some p) : CC l yX8_stay cX8_stay 2 (some .int) 5 [.ref o, .int a1] sh adr (mk h r) (fun v τ => v = some (.int p.1) ∧ τ = mk p.2 r) := by
  refine CC.of (by decide) (Nat.le_of_ble_eq_true rfl) 0 [.ref o, .int a1] rfl (fun X _ C E hZ => ?_)
  rw [fX8_stay] at H
  refine ww_aload_n C dX8_stay_0 0 rfl rfl ?_
  refine wk_getA C dX8_stay_1 fl_X8_55 hS.1 rfl (tX8_now hS).1 ?_
  refine ww_iload_n C dX8_stay_4 1 rfl rfl ?_
  obtain ⟨p1, hc1, H⟩ := bd_of H
  refine ww_callV C hZ dX8_stay_5 cw_X8_120 (ccX6_idle (tX8_now hS).2 hc1) (tX8_now hS).2.1 ⟨by decide, rfl⟩ (by decide) rfl rfl (Nat.le_of_ble_eq_true rfl) ⟨Nat.zero_le _, Nat.zero_le _⟩ (fun v τ hp => ?_)
  obtain ⟨rfl, rfl⟩ := hp
  change WW X _ 8 [.ref o, .int a1] [.int p1.1] _
  cases H
  exact ww_iret C E dX8_stay_8 ⟨rfl, rfl⟩
def fX8_crack (o : Nat) (nh : Nat) (h : HI) (a1 : Int32) (a2 : Int32) : Option (Int32 × HI) := ((fX6_setBroken (o + 56) nh h a1 a2).bind fun p1 => some (p1.1, p1.2))
set_option maxRecDepth 100000 in
set_option maxHeartbeats 4000000 in
theorem ccX8_crack {l : Launch} {sh : Sh} {adr : Nat → Nat} {r : Nat → Nat → Option Nat} {o : Nat} {hh : Nat} {hs : Nat} {rh : Nat} {ph : Nat} {nh : Nat} (hS : KS sh r hh hs rh ph nh o) {h : HI} {a1 : Int32} {a2 : Int32} {p : Int32 × HI} (H : fX8_crack o nh h a1 a2 = some p) : CC l yX8_crack cX8_crack 3 (some .int) 2 [.ref o, .int a1, .int a2] sh adr (mk h r) (fun v τ => v = some (.int p.1) ∧ τ = mk p.2 r) := by
  refine CC.of (by decide) (Nat.le_of_ble_eq_true rfl) 0 [.ref o, .int a1, .int a2] rfl (fun X _ C E hZ => ?_)
  rw [fX8_crack] at H
  refine ww_aload_n C dX8_crack_0 0 rfl rfl ?_
  refine wk_getA C dX8_crack_1 fl_X8_55 hS.1 rfl (tX8_now hS).1 ?_
  refine ww_iload_n C dX8_crack_4 1 rfl rfl ?_
  refine ww_iload_n C dX8_crack_5 2 rfl rfl ?_
  obtain ⟨p1, hc1, H⟩ := bd_of H
  refine ww_callV C hZ dX8_crack_6 cw_X8_123 (ccX6_setBroken (tX8_now hS).2 hc1) (tX8_now hS).2.1 ⟨by decide, rfl⟩ (by decide) rfl rfl (Nat.le_of_ble_eq_true rfl) ⟨Nat.zero_le _, Nat.zero_le _⟩ (fun v τ hp => ?_)
  obtain ⟨rfl, rfl⟩ := hp
  change WW X _ 9 [.ref o, .int a1, .int a2] [.int p1.1] _
  cases H
  exact ww_iret C E dX8_crack_9 ⟨rfl, rfl⟩
def fX8_found (o : Nat) (nh : Nat) (h : HI) (a1 : Int32) : Option (Int32 × HI) := ((fX6_findStool (o + 56) nh h a1).bind fun p1 => (if p1.1 = 0 ∨ p1.1 = 1 then some (p1.1, p1.2) else none))
set_option maxRecDepth 100000 in
set_option maxHeartbeats 4000000 in
theorem ccX8_found {l : Launch} {sh : Sh} {adr : Nat → Nat} {r : Nat → Nat → Option Nat} {o : Nat} {hh : Nat} {hs : Nat} {rh : Nat} {ph : Nat} {nh : Nat} (hS : KS sh r hh hs rh ph nh o) {h : HI} {a1 : Int32} {p : Int32 × HI} (H : fX8_found o nh h a1 = some p) : CC l yX8_found cX8_found 2 (some .boolean) 3 [.ref o, .int a1] sh adr (mk h r) (fun v τ => v = some (.int p.1) ∧ τ = mk p.2 r) := by
  refine CC.of (by decide) (Nat.le_of_ble_eq_true rfl) 0 [.ref o, .int a1] rfl (fun X _ C E hZ => ?_)
  rw [fX8_found] at H
  refine ww_aload_n C dX8_found_0 0 rfl rfl ?_
  refine wk_getA C dX8_found_1 fl_X8_55 hS.1 rfl (tX8_now hS).1 ?_
  refine ww_iload_n C dX8_found_4 1 rfl rfl ?_
  obtain ⟨p1, hc1, H⟩ := bd_of H
  refine ww_callV C hZ dX8_found_5 cw_X8_127 (ccX6_findStool (tX8_now hS).2 hc1) (tX8_now hS).2.1 ⟨by decide, rfl⟩ (by decide) rfl rfl (Nat.le_of_ble_eq_true rfl) ⟨Nat.zero_le _, Nat.zero_le _⟩ (fun v τ hp => ?_)
  obtain ⟨rfl, rfl⟩ := hp
  change WW X _ 8 [.ref o, .int a1] [.int p1.1] _
  obtain ⟨hg, H⟩ := gd_of H
  cases H
  exact ww_zret C E dX8_found_8 hg ⟨rfl, rfl⟩
def fX8_man (o : Nat) (hh : Nat) (nh : Nat) (h : HI) (a1 : Int32) (a2 : Int32) : Option (Int32 × HI) := ((fX2_has (hh + 3) h a1).bind fun p1 => (if p1.1 = 0 then some ((-2 : Int32), p1.2) else (if a2 = (0 : Int32) then ((fX6_posture (o + 56) p1.2 a1).bind fun p2 => some (p2.1, p2.2)) else (if a2 = (1 : Int32) then (if inB a1 6 then some ((if (p1.2.1 (o + 56 + 1) (a1.toNatClampNeg)) < (-1 : Int32) then (-1 : Int32) else (p1.2.1 (o + 56 + 1) (a1.toNatClampNeg))), p1.2) else none) else (if a2 = (2 : Int32) then (if inB a1 6 then some ((p1.2.1 (o + 56 + 2) (a1.toNatClampNeg)), p1.2) else none) else (if a2 = (3 : Int32) then (if inB a1 6 then some ((p1.2.1 (o + 56 + 3) (a1.toNatClampNeg)), p1.2) else none) else (if a2 = (4 : Int32) then ((fX6_naps (o + 56) nh p1.2 a1).bind fun p3 => (if p3.1 = 0 then some ((0 : Int32), p3.2) else some ((1 : Int32), p3.2))) else (if a2 = (5 : Int32) then (if inB a1 6 then some ((p1.2.1 (o + 56 + 4) (a1.toNatClampNeg)), p1.2) else none) else some ((-2 : Int32), p1.2)))))))))
set_option maxRecDepth 100000 in
set_option maxHeartbeats 4000000 in
theorem ccX8_man {l : Launch} {sh : Sh} {adr : Nat → Nat} {r : Nat → Nat → Option Nat} {o : Nat} {hh : Nat} {hs : Nat} {rh : Nat} {ph : Nat} {nh : Nat} (hS : KS sh r hh hs rh ph nh o) {h : HI} {a1 : Int32} {a2 : Int32} {p : Int32 × HI} (H : fX8_man o hh nh h a1 a2 = some p) : CC l yX8_man cX8_man 3 (some .int) 1 [.ref o, .int a1, .int a2] sh adr (mk h r) (fun v τ => v = some (.int p.1) ∧ τ = mk p.2 r) := by
  refine CC.of (by decide) (Nat.le_of_ble_eq_true rfl) 0 [.ref o, .int a1, .int a2] rfl (fun X _ C E hZ => ?_)
  rw [fX8_man] at H
  refine ww_aload_n C dX8_man_0 0 rfl rfl ?_
  refine wk_getA C dX8_man_1 fl_X8_36 hS.1 rfl (tX8_told hS).1 ?_
  refine wk_getA C dX8_man_4 fl_X8_88 (tX8_told hS).2.1 rfl (tX1_men (tX8_told hS).2).1 ?_
  refine ww_iload_n C dX8_man_7 1 rfl rfl ?_
  obtain ⟨p1, hc1, H⟩ := bd_of H
  refine ww_callV C hZ dX8_man_8 cw_X8_131 (ccX2_has (tX1_men (tX8_told hS).2).2 hc1) (tX1_men (tX8_told hS).2).2.1 ⟨by decide, rfl⟩ (by decide) rfl rfl (Nat.le_of_ble_eq_true rfl) ⟨Nat.zero_le _, Nat.zero_le _⟩ (fun v τ hp => ?_)
  obtain ⟨rfl, rfl⟩ := hp
  change WW X _ 11 [.ref o, .int a1, .int a2] [.int p1.1] _
  refine ww_if_ne C dX8_man_11 17 rfl (fun hc => ?_) (fun hc => ?_)
  · rw [if_neg hc] at H
    refine ww_iload_n C dX8_man_17 2 rfl rfl ?_
    by_cases hc0 : a2 = (0 : Int32)
    · rw [if_pos hc0] at H
      refine ww_tableIn (off := 38) C dX8_man_18 (by rw [hc0]; decide) (by rw [hc0]; decide) (by rw [hc0]; rfl) 56 rfl ?_
      refine ww_aload_n C dX8_man_56 0 rfl rfl ?_
      refine wk_getA C dX8_man_57 fl_X8_55 hS.1 rfl (tX8_now hS).1 ?_
      refine ww_iload_n C dX8_man_60 1 rfl rfl ?_
      obtain ⟨p2, hc1, H⟩ := bd_of H
      refine ww_callV C hZ dX8_man_61 cw_X8_134 (ccX6_posture (tX8_now hS).2 hc1) (tX8_now hS).2.1 ⟨by decide, rfl⟩ (by decide) rfl rfl (Nat.le_of_ble_eq_true rfl) ⟨Nat.zero_le _, Nat.zero_le _⟩ (fun v τ hp => ?_)
      obtain ⟨rfl, rfl⟩ := hp
      change WW X _ 64 [.ref o, .int a1, .int a2] [.int p2.1] _
      cases H
      exact ww_iret C E dX8_man_64 ⟨rfl, rfl⟩
    · rw [if_neg hc0] at H
      by_cases hc1 : a2 = (1 : Int32)
      · rw [if_pos hc1] at H
        refine ww_tableIn (off := 47) C dX8_man_18 (by rw [hc1]; decide) (by rw [hc1]; decide) (by rw [hc1]; rfl) 65 rfl ?_
        refine ww_aload_n C dX8_man_65 0 rfl rfl ?_
        refine wk_getA C dX8_man_66 fl_X8_55 hS.1 rfl (tX8_now hS).1 ?_
        refine wk_getR C dX8_man_69 fl_X8_137 (tX8_now hS).2.1 rfl (tX6_where (tX8_now hS).2).1 ?_
        refine ww_iload_n C dX8_man_72 1 rfl rfl ?_
        obtain ⟨hg, H⟩ := gd_of H
        refine wk_iaload C dX8_man_73 (tX6_where (tX8_now hS).2).2.1 (vp_of hg (tX6_where (tX8_now hS).2).2.2) (a1.toNatClampNeg) rfl ?_
        refine ww_iconst (v := (-1 : Int32)) C dX8_man_74 (by decide) ?_
        refine ww_max C dX8_man_75 mw_X8_141 (by decide) (Nat.le_of_ble_eq_true rfl) ⟨Nat.zero_le _, Nat.zero_le _⟩ ?_
        cases H
        exact ww_iret C E dX8_man_78 ⟨rfl, rfl⟩
      · rw [if_neg hc1] at H
        by_cases hc2 : a2 = (2 : Int32)
        · rw [if_pos hc2] at H
          refine ww_tableIn (off := 61) C dX8_man_18 (by rw [hc2]; decide) (by rw [hc2]; decide) (by rw [hc2]; rfl) 79 rfl ?_
          refine ww_aload_n C dX8_man_79 0 rfl rfl ?_
          refine wk_getA C dX8_man_80 fl_X8_55 hS.1 rfl (tX8_now hS).1 ?_
          refine wk_getR C dX8_man_83 fl_X8_146 (tX8_now hS).2.1 rfl (tX6_tired (tX8_now hS).2).1 ?_
          refine ww_iload_n C dX8_man_86 1 rfl rfl ?_
          obtain ⟨hg, H⟩ := gd_of H
          refine wk_iaload C dX8_man_87 (tX6_tired (tX8_now hS).2).2.1 (vp_of hg (tX6_tired (tX8_now hS).2).2.2) (a1.toNatClampNeg) rfl ?_
          cases H
          exact ww_iret C E dX8_man_88 ⟨rfl, rfl⟩
        · rw [if_neg hc2] at H
          by_cases hc3 : a2 = (3 : Int32)
          · rw [if_pos hc3] at H
            refine ww_tableIn (off := 71) C dX8_man_18 (by rw [hc3]; decide) (by rw [hc3]; decide) (by rw [hc3]; rfl) 89 rfl ?_
            refine ww_aload_n C dX8_man_89 0 rfl rfl ?_
            refine wk_getA C dX8_man_90 fl_X8_55 hS.1 rfl (tX8_now hS).1 ?_
            refine wk_getR C dX8_man_93 fl_X8_149 (tX8_now hS).2.1 rfl (tX6_satFor (tX8_now hS).2).1 ?_
            refine ww_iload_n C dX8_man_96 1 rfl rfl ?_
            obtain ⟨hg, H⟩ := gd_of H
            refine wk_iaload C dX8_man_97 (tX6_satFor (tX8_now hS).2).2.1 (vp_of hg (tX6_satFor (tX8_now hS).2).2.2) (a1.toNatClampNeg) rfl ?_
            cases H
            exact ww_iret C E dX8_man_98 ⟨rfl, rfl⟩
          · rw [if_neg hc3] at H
            by_cases hc4 : a2 = (4 : Int32)
            · rw [if_pos hc4] at H
              refine ww_tableIn (off := 81) C dX8_man_18 (by rw [hc4]; decide) (by rw [hc4]; decide) (by rw [hc4]; rfl) 99 rfl ?_
              refine ww_aload_n C dX8_man_99 0 rfl rfl ?_
              refine wk_getA C dX8_man_100 fl_X8_55 hS.1 rfl (tX8_now hS).1 ?_
              refine ww_iload_n C dX8_man_103 1 rfl rfl ?_
              obtain ⟨p3, hc1, H⟩ := bd_of H
              refine ww_callV C hZ dX8_man_104 cw_X8_152 (ccX6_naps (tX8_now hS).2 hc1) (tX8_now hS).2.1 ⟨by decide, rfl⟩ (by decide) rfl rfl (Nat.le_of_ble_eq_true rfl) ⟨Nat.zero_le _, Nat.zero_le _⟩ (fun v τ hp => ?_)
              obtain ⟨rfl, rfl⟩ := hp
              change WW X _ 107 [.ref o, .int a1, .int a2] [.int p3.1] _
              refine ww_if_eq C dX8_man_107 114 rfl (fun hc => ?_) (fun hc => ?_)
              · rw [if_pos hc] at H
                refine ww_iconst (v := (0 : Int32)) C dX8_man_114 (by decide) ?_
                cases H
                exact ww_iret C E dX8_man_115 ⟨rfl, rfl⟩
              · rw [if_neg hc] at H
                refine ww_iconst (v := (1 : Int32)) C dX8_man_110 (by decide) ?_
                refine ww_goto C dX8_man_111 115 rfl ?_
                cases H
                exact ww_iret C E dX8_man_115 ⟨rfl, rfl⟩
            · rw [if_neg hc4] at H
              by_cases hc5 : a2 = (5 : Int32)
              · rw [if_pos hc5] at H
                refine ww_tableIn (off := 98) C dX8_man_18 (by rw [hc5]; decide) (by rw [hc5]; decide) (by rw [hc5]; rfl) 116 rfl ?_
                refine ww_aload_n C dX8_man_116 0 rfl rfl ?_
                refine wk_getA C dX8_man_117 fl_X8_55 hS.1 rfl (tX8_now hS).1 ?_
                refine wk_getR C dX8_man_120 fl_X8_155 (tX8_now hS).2.1 rfl (tX6_spoken (tX8_now hS).2).1 ?_
                refine ww_iload_n C dX8_man_123 1 rfl rfl ?_
                obtain ⟨hg, H⟩ := gd_of H
                refine wk_iaload C dX8_man_124 (tX6_spoken (tX8_now hS).2).2.1 (vp_of hg (tX6_spoken (tX8_now hS).2).2.2) (a1.toNatClampNeg) rfl ?_
                cases H
                exact ww_iret C E dX8_man_125 ⟨rfl, rfl⟩
              · rw [if_neg hc5] at H
                refine ww_tableOut C dX8_man_18 (by have q0 := lv_neT (k := (0 : Int32)) (a := 0) hc0 (by decide); have q1 := lv_neT (k := (1 : Int32)) (a := 1) hc1 (by decide); have q2 := lv_neT (k := (2 : Int32)) (a := 2) hc2 (by decide); have q3 := lv_neT (k := (3 : Int32)) (a := 3) hc3 (by decide); have q4 := lv_neT (k := (4 : Int32)) (a := 4) hc4 (by decide); have q5 := lv_neT (k := (5 : Int32)) (a := 5) hc5 (by decide); omega) 126 rfl ?_
                refine ww_bipush (v := (-2 : Int32)) C dX8_man_126 (by decide) ?_
                cases H
                exact ww_iret C E dX8_man_128 ⟨rfl, rfl⟩
  · rw [if_pos hc] at H
    refine ww_bipush (v := (-2 : Int32)) C dX8_man_14 (by decide) ?_
    cases H
    exact ww_iret C E dX8_man_16 ⟨rfl, rfl⟩
def fX8_chair (o : Nat) (hh : Nat) (nh : Nat) (h : HI) (a1 : Int32) (a2 : Int32) : Option (Int32 × HI) := ((fX2_has (hh + 1) h a1).bind fun p1 => (if p1.1 = 0 then some ((-2 : Int32), p1.2) else (if a2 = (0 : Int32) then ((fX6_sitters (o + 56) nh p1.2 a1).bind fun p2 => some (p2.1, p2.2)) else (if a2 = (1 : Int32) then some ((((p1.2.1 (o + 56) 4) >>> (a1 &&& 31)) &&& (1 : Int32)), p1.2) else (if a2 = (2 : Int32) then some ((((p1.2.1 (o + 56) 5) >>> (a1 &&& 31)) &&& (1 : Int32)), p1.2) else some ((-2 : Int32), p1.2))))))
set_option maxRecDepth 100000 in
set_option maxHeartbeats 4000000 in
theorem ccX8_chair {l : Launch} {sh : Sh} {adr : Nat → Nat} {r : Nat → Nat → Option Nat} {o : Nat} {hh : Nat} {hs : Nat} {rh : Nat} {ph : Nat} {nh : Nat} (hS : KS sh r hh hs rh ph nh o) {h : HI} {a1 : Int32} {a2 : Int32} {p : Int32 × HI} (H : fX8_chair o hh nh h a1 a2 = some p) : CC l yX8_chair cX8_chair 3 (some .int) 1 [.ref o, .int a1, .int a2] sh adr (mk h r) (fun v τ => v = some (.int p.1) ∧ τ = mk p.2 r) := by
  refine CC.of (by decide) (Nat.le_of_ble_eq_true rfl) 0 [.ref o, .int a1, .int a2] rfl (fun X _ C E hZ => ?_)
  rw [fX8_chair] at H
  refine ww_aload_n C dX8_chair_0 0 rfl rfl ?_
  refine wk_getA C dX8_chair_1 fl_X8_36 hS.1 rfl (tX8_told hS).1 ?_
  refine wk_getA C dX8_chair_4 fl_X8_158 (tX8_told hS).2.1 rfl (tX1_chairs (tX8_told hS).2).1 ?_
  refine ww_iload_n C dX8_chair_7 1 rfl rfl ?_
  obtain ⟨p1, hc1, H⟩ := bd_of H
  refine ww_callV C hZ dX8_chair_8 cw_X8_131 (ccX2_has (tX1_chairs (tX8_told hS).2).2 hc1) (tX1_chairs (tX8_told hS).2).2.1 ⟨by decide, rfl⟩ (by decide) rfl rfl (Nat.le_of_ble_eq_true rfl) ⟨Nat.zero_le _, Nat.zero_le _⟩ (fun v τ hp => ?_)
  obtain ⟨rfl, rfl⟩ := hp
  change WW X _ 11 [.ref o, .int a1, .int a2] [.int p1.1] _
  refine ww_if_ne C dX8_chair_11 17 rfl (fun hc => ?_) (fun hc => ?_)
  · rw [if_neg hc] at H
    refine ww_iload_n C dX8_chair_17 2 rfl rfl ?_
    by_cases hc0 : a2 = (0 : Int32)
    · rw [if_pos hc0] at H
      refine ww_tableIn (off := 26) C dX8_chair_18 (by rw [hc0]; decide) (by rw [hc0]; decide) (by rw [hc0]; rfl) 44 rfl ?_
      refine ww_aload_n C dX8_chair_44 0 rfl rfl ?_
      refine wk_getA C dX8_chair_45 fl_X8_55 hS.1 rfl (tX8_now hS).1 ?_
      refine ww_iload_n C dX8_chair_48 1 rfl rfl ?_
      obtain ⟨p2, hc1, H⟩ := bd_of H
      refine ww_callV C hZ dX8_chair_49 cw_X8_161 (ccX6_sitters (tX8_now hS).2 hc1) (tX8_now hS).2.1 ⟨by decide, rfl⟩ (by decide) rfl rfl (Nat.le_of_ble_eq_true rfl) ⟨Nat.zero_le _, Nat.zero_le _⟩ (fun v τ hp => ?_)
      obtain ⟨rfl, rfl⟩ := hp
      change WW X _ 52 [.ref o, .int a1, .int a2] [.int p2.1] _
      cases H
      exact ww_iret C E dX8_chair_52 ⟨rfl, rfl⟩
    · rw [if_neg hc0] at H
      by_cases hc1 : a2 = (1 : Int32)
      · rw [if_pos hc1] at H
        refine ww_tableIn (off := 35) C dX8_chair_18 (by rw [hc1]; decide) (by rw [hc1]; decide) (by rw [hc1]; rfl) 53 rfl ?_
        refine ww_aload_n C dX8_chair_53 0 rfl rfl ?_
        refine wk_getA C dX8_chair_54 fl_X8_55 hS.1 rfl (tX8_now hS).1 ?_
        refine wk_getI C dX8_chair_57 fl_X8_164 (tX8_now hS).2.1 rfl ?_
        refine ww_iload_n C dX8_chair_60 1 rfl rfl ?_
        refine ww_ishr C dX8_chair_61 ?_
        refine ww_iconst (v := (1 : Int32)) C dX8_chair_62 (by decide) ?_
        refine ww_iand C dX8_chair_63 ?_
        cases H
        exact ww_iret C E dX8_chair_64 ⟨rfl, rfl⟩
      · rw [if_neg hc1] at H
        by_cases hc2 : a2 = (2 : Int32)
        · rw [if_pos hc2] at H
          refine ww_tableIn (off := 47) C dX8_chair_18 (by rw [hc2]; decide) (by rw [hc2]; decide) (by rw [hc2]; rfl) 65 rfl ?_
          refine ww_aload_n C dX8_chair_65 0 rfl rfl ?_
          refine wk_getA C dX8_chair_66 fl_X8_55 hS.1 rfl (tX8_now hS).1 ?_
          refine wk_getI C dX8_chair_69 fl_X8_167 (tX8_now hS).2.1 rfl ?_
          refine ww_iload_n C dX8_chair_72 1 rfl rfl ?_
          refine ww_ishr C dX8_chair_73 ?_
          refine ww_iconst (v := (1 : Int32)) C dX8_chair_74 (by decide) ?_
          refine ww_iand C dX8_chair_75 ?_
          cases H
          exact ww_iret C E dX8_chair_76 ⟨rfl, rfl⟩
        · rw [if_neg hc2] at H
          refine ww_tableOut C dX8_chair_18 (by have q0 := lv_neT (k := (0 : Int32)) (a := 0) hc0 (by decide); have q1 := lv_neT (k := (1 : Int32)) (a := 1) hc1 (by decide); have q2 := lv_neT (k := (2 : Int32)) (a := 2) hc2 (by decide); omega) 77 rfl ?_
          refine ww_bipush (v := (-2 : Int32)) C dX8_chair_77 (by decide) ?_
          cases H
          exact ww_iret C E dX8_chair_79 ⟨rfl, rfl⟩
  · rw [if_pos hc] at H
    refine ww_bipush (v := (-2 : Int32)) C dX8_chair_14 (by decide) ?_
    cases H
    exact ww_iret C E dX8_chair_16 ⟨rfl, rfl⟩
def fX8_matter (o : Nat) (hh : Nat) (nh : Nat) (h : HI) (a1 : Int32) (a2 : Int32) : Option (Int32 × HI) := ((fX2_has (hh + 5) h a1).bind fun p1 => (if p1.1 = 0 then some ((-1000000 : Int32), p1.2) else (if a2 = (0 : Int32) then (if inB a1 4 then some ((p1.2.1 (o + 56 + 5) (a1.toNatClampNeg)), p1.2) else none) else (if a2 = (1 : Int32) then (if inB a1 4 then some ((p1.2.1 (hh + 10) (a1.toNatClampNeg)), p1.2) else none) else (if a2 = (2 : Int32) then ((fX6_yesMen (o + 56) nh p1.2 a1).bind fun p2 => ((fJ6_bitCount_0f7a4 p2.2 p2.1).bind fun p3 => some (p3.1, p3.2))) else (if a2 = (3 : Int32) then ((fX6_noMen (o + 56) nh p1.2 a1).bind fun p4 => ((fJ6_bitCount_0f7a4 p4.2 p4.1).bind fun p5 => some (p5.1, p5.2))) else some ((-1000000 : Int32), p1.2)))))))
set_option maxRecDepth 100000 in
set_option maxHeartbeats 4000000 in
theorem ccX8_matter {l : Launch} {sh : Sh} {adr : Nat → Nat} {r : Nat → Nat → Option Nat} {o : Nat} {hh : Nat} {hs : Nat} {rh : Nat} {ph : Nat} {nh : Nat} (hS : KS sh r hh hs rh ph nh o) {h : HI} {a1 : Int32} {a2 : Int32} {p : Int32 × HI} (H : fX8_matter o hh nh h a1 a2 = some p) : CC l yX8_matter cX8_matter 3 (some .int) 6 [.ref o, .int a1, .int a2] sh adr (mk h r) (fun v τ => v = some (.int p.1) ∧ τ = mk p.2 r) := by
  refine CC.of (by decide) (Nat.le_of_ble_eq_true rfl) 0 [.ref o, .int a1, .int a2] rfl (fun X _ C E hZ => ?_)
  rw [fX8_matter] at H
  refine ww_aload_n C dX8_matter_0 0 rfl rfl ?_
  refine wk_getA C dX8_matter_1 fl_X8_36 hS.1 rfl (tX8_told hS).1 ?_
  refine wk_getA C dX8_matter_4 fl_X8_170 (tX8_told hS).2.1 rfl (tX1_matters (tX8_told hS).2).1 ?_
  refine ww_iload_n C dX8_matter_7 1 rfl rfl ?_
  obtain ⟨p1, hc1, H⟩ := bd_of H
  refine ww_callV C hZ dX8_matter_8 cw_X8_131 (ccX2_has (tX1_matters (tX8_told hS).2).2 hc1) (tX1_matters (tX8_told hS).2).2.1 ⟨by decide, rfl⟩ (by decide) rfl rfl (Nat.le_of_ble_eq_true rfl) ⟨Nat.zero_le _, Nat.zero_le _⟩ (fun v τ hp => ?_)
  obtain ⟨rfl, rfl⟩ := hp
  change WW X _ 11 [.ref o, .int a1, .int a2] [.int p1.1] _
  refine ww_if_ne C dX8_matter_11 17 rfl (fun hc => ?_) (fun hc => ?_)
  · rw [if_neg hc] at H
    refine ww_iload_n C dX8_matter_17 2 rfl rfl ?_
    by_cases hc0 : a2 = (0 : Int32)
    · rw [if_pos hc0] at H
      refine ww_tableIn (off := 30) C dX8_matter_18 (by rw [hc0]; decide) (by rw [hc0]; decide) (by rw [hc0]; rfl) 48 rfl ?_
      refine ww_aload_n C dX8_matter_48 0 rfl rfl ?_
      refine wk_getA C dX8_matter_49 fl_X8_55 hS.1 rfl (tX8_now hS).1 ?_
      refine wk_getR C dX8_matter_52 fl_X8_174 (tX8_now hS).2.1 rfl (tX6_status (tX8_now hS).2).1 ?_
      refine ww_iload_n C dX8_matter_55 1 rfl rfl ?_
      obtain ⟨hg, H⟩ := gd_of H
      refine wk_iaload C dX8_matter_56 (tX6_status (tX8_now hS).2).2.1 (vp_of hg (tX6_status (tX8_now hS).2).2.2) (a1.toNatClampNeg) rfl ?_
      cases H
      exact ww_iret C E dX8_matter_57 ⟨rfl, rfl⟩
    · rw [if_neg hc0] at H
      by_cases hc1 : a2 = (1 : Int32)
      · rw [if_pos hc1] at H
        refine ww_tableIn (off := 40) C dX8_matter_18 (by rw [hc1]; decide) (by rw [hc1]; decide) (by rw [hc1]; rfl) 58 rfl ?_
        refine ww_aload_n C dX8_matter_58 0 rfl rfl ?_
        refine wk_getA C dX8_matter_59 fl_X8_36 hS.1 rfl (tX8_told hS).1 ?_
        refine wk_getR C dX8_matter_62 fl_X8_177 (tX8_told hS).2.1 rfl (tX1_worth (tX8_told hS).2).1 ?_
        refine ww_iload_n C dX8_matter_65 1 rfl rfl ?_
        obtain ⟨hg, H⟩ := gd_of H
        refine wk_iaload C dX8_matter_66 (tX1_worth (tX8_told hS).2).2.1 (vp_of hg (tX1_worth (tX8_told hS).2).2.2) (a1.toNatClampNeg) rfl ?_
        cases H
        exact ww_iret C E dX8_matter_67 ⟨rfl, rfl⟩
      · rw [if_neg hc1] at H
        by_cases hc2 : a2 = (2 : Int32)
        · rw [if_pos hc2] at H
          refine ww_tableIn (off := 50) C dX8_matter_18 (by rw [hc2]; decide) (by rw [hc2]; decide) (by rw [hc2]; rfl) 68 rfl ?_
          refine ww_aload_n C dX8_matter_68 0 rfl rfl ?_
          refine wk_getA C dX8_matter_69 fl_X8_55 hS.1 rfl (tX8_now hS).1 ?_
          refine ww_iload_n C dX8_matter_72 1 rfl rfl ?_
          obtain ⟨p2, hc1, H⟩ := bd_of H
          refine ww_callV C hZ dX8_matter_73 cw_X8_180 (ccX6_yesMen (tX8_now hS).2 hc1) (tX8_now hS).2.1 ⟨by decide, rfl⟩ (by decide) rfl rfl (Nat.le_of_ble_eq_true rfl) ⟨Nat.zero_le _, Nat.zero_le _⟩ (fun v τ hp => ?_)
          obtain ⟨rfl, rfl⟩ := hp
          change WW X _ 76 [.ref o, .int a1, .int a2] [.int p2.1] _
          obtain ⟨p3, hc1, H⟩ := bd_of H
          refine ww_callS C hZ dX8_matter_76 sw_X8_183 (ccJ6_bitCount_0f7a4 hc1) (by decide) rfl rfl (Nat.le_of_ble_eq_true rfl) ⟨Nat.zero_le _, Nat.zero_le _⟩ (fun v τ hp => ?_)
          obtain ⟨rfl, rfl⟩ := hp
          change WW X _ 79 [.ref o, .int a1, .int a2] [.int p3.1] _
          cases H
          exact ww_iret C E dX8_matter_79 ⟨rfl, rfl⟩
        · rw [if_neg hc2] at H
          by_cases hc3 : a2 = (3 : Int32)
          · rw [if_pos hc3] at H
            refine ww_tableIn (off := 62) C dX8_matter_18 (by rw [hc3]; decide) (by rw [hc3]; decide) (by rw [hc3]; rfl) 80 rfl ?_
            refine ww_aload_n C dX8_matter_80 0 rfl rfl ?_
            refine wk_getA C dX8_matter_81 fl_X8_55 hS.1 rfl (tX8_now hS).1 ?_
            refine ww_iload_n C dX8_matter_84 1 rfl rfl ?_
            obtain ⟨p4, hc1, H⟩ := bd_of H
            refine ww_callV C hZ dX8_matter_85 cw_X8_188 (ccX6_noMen (tX8_now hS).2 hc1) (tX8_now hS).2.1 ⟨by decide, rfl⟩ (by decide) rfl rfl (Nat.le_of_ble_eq_true rfl) ⟨Nat.zero_le _, Nat.zero_le _⟩ (fun v τ hp => ?_)
            obtain ⟨rfl, rfl⟩ := hp
            change WW X _ 88 [.ref o, .int a1, .int a2] [.int p4.1] _
            obtain ⟨p5, hc1, H⟩ := bd_of H
            refine ww_callS C hZ dX8_matter_88 sw_X8_183 (ccJ6_bitCount_0f7a4 hc1) (by decide) rfl rfl (Nat.le_of_ble_eq_true rfl) ⟨Nat.zero_le _, Nat.zero_le _⟩ (fun v τ hp => ?_)
            obtain ⟨rfl, rfl⟩ := hp
            change WW X _ 91 [.ref o, .int a1, .int a2] [.int p5.1] _
            cases H
            exact ww_iret C E dX8_matter_91 ⟨rfl, rfl⟩
          · rw [if_neg hc3] at H
            refine ww_tableOut C dX8_matter_18 (by have q0 := lv_neT (k := (0 : Int32)) (a := 0) hc0 (by decide); have q1 := lv_neT (k := (1 : Int32)) (a := 1) hc1 (by decide); have q2 := lv_neT (k := (2 : Int32)) (a := 2) hc2 (by decide); have q3 := lv_neT (k := (3 : Int32)) (a := 3) hc3 (by decide); omega) 92 rfl ?_
            refine ww_ldc (v := (-1000000 : Int32)) C dX8_matter_92 kc_X8_173 ?_
            cases H
            exact ww_iret C E dX8_matter_94 ⟨rfl, rfl⟩
  · rw [if_pos hc] at H
    refine ww_ldc (v := (-1000000 : Int32)) C dX8_matter_14 kc_X8_173 ?_
    cases H
    exact ww_iret C E dX8_matter_16 ⟨rfl, rfl⟩
def fX8_deal (o : Nat) (nh : Nat) (h : HI) (a1 : Int32) : Option (Int32 × HI) := ((fX6_dealState (o + 56) nh h a1).bind fun p1 => some (p1.1, p1.2))
set_option maxRecDepth 100000 in
set_option maxHeartbeats 4000000 in
theorem ccX8_deal {l : Launch} {sh : Sh} {adr : Nat → Nat} {r : Nat → Nat → Option Nat} {o : Nat} {hh : Nat} {hs : Nat} {rh : Nat} {ph : Nat} {nh : Nat} (hS : KS sh r hh hs rh ph nh o) {h : HI} {a1 : Int32} {p : Int32 × HI} (H : fX8_deal o nh h a1 = some p) : CC l yX8_deal cX8_deal 2 (some .int) 2 [.ref o, .int a1] sh adr (mk h r) (fun v τ => v = some (.int p.1) ∧ τ = mk p.2 r) := by
  refine CC.of (by decide) (Nat.le_of_ble_eq_true rfl) 0 [.ref o, .int a1] rfl (fun X _ C E hZ => ?_)
  rw [fX8_deal] at H
  refine ww_aload_n C dX8_deal_0 0 rfl rfl ?_
  refine wk_getA C dX8_deal_1 fl_X8_55 hS.1 rfl (tX8_now hS).1 ?_
  refine ww_iload_n C dX8_deal_4 1 rfl rfl ?_
  obtain ⟨p1, hc1, H⟩ := bd_of H
  refine ww_callV C hZ dX8_deal_5 cw_X8_191 (ccX6_dealState (tX8_now hS).2 hc1) (tX8_now hS).2.1 ⟨by decide, rfl⟩ (by decide) rfl rfl (Nat.le_of_ble_eq_true rfl) ⟨Nat.zero_le _, Nat.zero_le _⟩ (fun v τ hp => ?_)
  obtain ⟨rfl, rfl⟩ := hp
  change WW X _ 8 [.ref o, .int a1] [.int p1.1] _
  cases H
  exact ww_iret C E dX8_deal_8 ⟨rfl, rfl⟩
def fX8_voted (o : Nat) (h : HI) (a1 : Int32) (a2 : Int32) : Option (Int32 × HI) := ((fX6_voteFact (o + 56) h a1 a2).bind fun p1 => some (p1.1, p1.2))
set_option maxRecDepth 100000 in
set_option maxHeartbeats 4000000 in
theorem ccX8_voted {l : Launch} {sh : Sh} {adr : Nat → Nat} {r : Nat → Nat → Option Nat} {o : Nat} {hh : Nat} {hs : Nat} {rh : Nat} {ph : Nat} {nh : Nat} (hS : KS sh r hh hs rh ph nh o) {h : HI} {a1 : Int32} {a2 : Int32} {p : Int32 × HI} (H : fX8_voted o h a1 a2 = some p) : CC l yX8_voted cX8_voted 3 (some .int) 2 [.ref o, .int a1, .int a2] sh adr (mk h r) (fun v τ => v = some (.int p.1) ∧ τ = mk p.2 r) := by
  refine CC.of (by decide) (Nat.le_of_ble_eq_true rfl) 0 [.ref o, .int a1, .int a2] rfl (fun X _ C E hZ => ?_)
  rw [fX8_voted] at H
  refine ww_aload_n C dX8_voted_0 0 rfl rfl ?_
  refine wk_getA C dX8_voted_1 fl_X8_55 hS.1 rfl (tX8_now hS).1 ?_
  refine ww_iload_n C dX8_voted_4 1 rfl rfl ?_
  refine ww_iload_n C dX8_voted_5 2 rfl rfl ?_
  obtain ⟨p1, hc1, H⟩ := bd_of H
  refine ww_callV C hZ dX8_voted_6 cw_X8_194 (ccX6_voteFact (tX8_now hS).2 hc1) (tX8_now hS).2.1 ⟨by decide, rfl⟩ (by decide) rfl rfl (Nat.le_of_ble_eq_true rfl) ⟨Nat.zero_le _, Nat.zero_le _⟩ (fun v τ hp => ?_)
  obtain ⟨rfl, rfl⟩ := hp
  change WW X _ 9 [.ref o, .int a1, .int a2] [.int p1.1] _
  cases H
  exact ww_iret C E dX8_voted_9 ⟨rfl, rfl⟩
def fX8_sat (o : Nat) (nh : Nat) (h : HI) (a1 : Int32) (a2 : Int32) : Option (Int32 × HI) := ((fX6_keptSitters (o + 56) nh h a1 a2).bind fun p1 => some (p1.1, p1.2))
set_option maxRecDepth 100000 in
set_option maxHeartbeats 4000000 in
theorem ccX8_sat {l : Launch} {sh : Sh} {adr : Nat → Nat} {r : Nat → Nat → Option Nat} {o : Nat} {hh : Nat} {hs : Nat} {rh : Nat} {ph : Nat} {nh : Nat} (hS : KS sh r hh hs rh ph nh o) {h : HI} {a1 : Int32} {a2 : Int32} {p : Int32 × HI} (H : fX8_sat o nh h a1 a2 = some p) : CC l yX8_sat cX8_sat 3 (some .int) 2 [.ref o, .int a1, .int a2] sh adr (mk h r) (fun v τ => v = some (.int p.1) ∧ τ = mk p.2 r) := by
  refine CC.of (by decide) (Nat.le_of_ble_eq_true rfl) 0 [.ref o, .int a1, .int a2] rfl (fun X _ C E hZ => ?_)
  rw [fX8_sat] at H
  refine ww_aload_n C dX8_sat_0 0 rfl rfl ?_
  refine wk_getA C dX8_sat_1 fl_X8_55 hS.1 rfl (tX8_now hS).1 ?_
  refine ww_iload_n C dX8_sat_4 1 rfl rfl ?_
  refine ww_iload_n C dX8_sat_5 2 rfl rfl ?_
  obtain ⟨p1, hc1, H⟩ := bd_of H
  refine ww_callV C hZ dX8_sat_6 cw_X8_197 (ccX6_keptSitters (tX8_now hS).2 hc1) (tX8_now hS).2.1 ⟨by decide, rfl⟩ (by decide) rfl rfl (Nat.le_of_ble_eq_true rfl) ⟨Nat.zero_le _, Nat.zero_le _⟩ (fun v τ hp => ?_)
  obtain ⟨rfl, rfl⟩ := hp
  change WW X _ 9 [.ref o, .int a1, .int a2] [.int p1.1] _
  cases H
  exact ww_iret C E dX8_sat_9 ⟨rfl, rfl⟩
def fX8_isPlanTime (h : HI) (a0 : Int32) : Option (Int32 × HI) := (if a0 < 0 then some ((0 : Int32), h) else (if (40 : Int32) < a0 then some ((0 : Int32), h) else some ((1 : Int32), h)))
set_option maxRecDepth 100000 in
set_option maxHeartbeats 4000000 in
theorem ccX8_isPlanTime {l : Launch} {sh : Sh} {adr : Nat → Nat} {r : Nat → Nat → Option Nat} {h : HI} {a0 : Int32} {p : Int32 × HI} (H : fX8_isPlanTime h a0 = some p) : CC l yX8_isPlanTime cX8_isPlanTime 1 (some .boolean) 0 [.int a0] sh adr (mk h r) (fun v τ => v = some (.int p.1) ∧ τ = mk p.2 r) := by
  refine CC.of (by decide) (Nat.le_of_ble_eq_true rfl) 0 [.int a0] rfl (fun X _ C E hZ => ?_)
  rw [fX8_isPlanTime] at H
  refine ww_iload_n C dX8_isPlanTime_0 0 rfl rfl ?_
  refine ww_if_lt C dX8_isPlanTime_1 14 rfl (fun hc => ?_) (fun hc => ?_)
  · rw [if_pos hc] at H
    refine ww_iconst (v := (0 : Int32)) C dX8_isPlanTime_14 (by decide) ?_
    cases H
    exact ww_zret C E dX8_isPlanTime_15 (Or.inl rfl) ⟨rfl, rfl⟩
  · rw [if_neg hc] at H
    refine ww_iload_n C dX8_isPlanTime_4 0 rfl rfl ?_
    refine ww_bipush (v := (40 : Int32)) C dX8_isPlanTime_5 (by decide) ?_
    refine ww_icmp_gt C dX8_isPlanTime_7 14 rfl (fun hc => ?_) (fun hc => ?_)
    · rw [if_pos hc] at H
      refine ww_iconst (v := (0 : Int32)) C dX8_isPlanTime_14 (by decide) ?_
      cases H
      exact ww_zret C E dX8_isPlanTime_15 (Or.inl rfl) ⟨rfl, rfl⟩
    · rw [if_neg hc] at H
      refine ww_iconst (v := (1 : Int32)) C dX8_isPlanTime_10 (by decide) ?_
      refine ww_goto C dX8_isPlanTime_11 15 rfl ?_
      cases H
      exact ww_zret C E dX8_isPlanTime_15 (Or.inr rfl) ⟨rfl, rfl⟩
def fX8_firstOf_38 (k : HI → Int32 → Option (Int32 × HI)) (kb : HI → Int32 → Int32 → Int32 → Int32 → Int32 → Option (Int32 × HI)) (h : HI) (v0 : Int32) (v1 : Int32) (v2 : Int32) (v3 : Int32) (v4 : Int32) : Option (Int32 × HI) := kb h v0 v1 v2 v3 (v4 + (1 : Int32))
set_option maxRecDepth 100000 in
set_option maxHeartbeats 4000000 in
theorem cX8_firstOf_38 {X : CT} {sh : Sh} {adr : Nat → Nat} {r : Nat → Nat → Option Nat} {p : Int32 × HI} (C : CX X yX8_firstOf.cls cX8_firstOf 5 0) (hZ : SZX X adr) (E : RX X (some .int) sh adr (fun v τ => v = some (.int p.1) ∧ τ = mk p.2 r)) {k : HI → Int32 → Option (Int32 × HI)} {kb : HI → Int32 → Int32 → Int32 → Int32 → Int32 → Option (Int32 × HI)} (hk : ∀ (h : HI) (v2 : Int32), k h v2 = some p → WW X (sh, adr, 0, 0) 44 [.retAddr 0, .retAddr 0, .int v2, .retAddr 0, .retAddr 0] [] (mk h r)) (hb : ∀ (h : HI) (v0 : Int32) (v1 : Int32) (v2 : Int32) (v3 : Int32) (v4 : Int32), kb h v0 v1 v2 v3 v4 = some p → WW X (sh, adr, 0, 0) 7 [.int v0, .int v1, .int v2, .int v3, .int v4] [] (mk h r)) {h : HI} {v0 : Int32} {v1 : Int32} {v2 : Int32} {v3 : Int32} {v4 : Int32} (H : fX8_firstOf_38 k kb h v0 v1 v2 v3 v4 = some p) : WW X (sh, adr, 0, 0) 38 [.int v0, .int v1, .int v2, .int v3, .int v4] [] (mk h r) := by
  rw [fX8_firstOf_38] at H
  refine ww_iinc (v := (v4 + (1 : Int32))) C dX8_firstOf_38 rfl rfl (by decide) rfl [.int v0, .int v1, .int v2, .int v3, .int (v4 + (1 : Int32))] rfl ?_
  refine ww_goto C dX8_firstOf_41 7 rfl ?_
  exact hb h v0 v1 v2 v3 (v4 + (1 : Int32)) H
def fX8_firstOf_7 (k : HI → Int32 → Option (Int32 × HI)) : Nat → HI → Int32 → Int32 → Int32 → Int32 → Int32 → Option (Int32 × HI)
  | 0, _, _, _, _, _, _ => none
  | n + 1, h, v0, v1, v2, v3, v4 => (if (6 : Int32) ≤ v4 then k h v2 else (if ((v0 >>> (v4 &&& 31)) &&& (1 : Int32)) = 0 then fX8_firstOf_38 (k) (fX8_firstOf_7 k n) h v0 v1 v2 v3 v4 else (if v1 ≤ v3 then fX8_firstOf_38 (k) (fX8_firstOf_7 k n) h v0 v1 v2 v3 v4 else fX8_firstOf_38 (k) (fX8_firstOf_7 k n) h v0 v1 (v2 ||| ((1 : Int32) <<< (v4 &&& 31))) (v3 + (1 : Int32)) v4)))
set_option maxRecDepth 100000 in
set_option maxHeartbeats 4000000 in
theorem cX8_firstOf_7 {X : CT} {sh : Sh} {adr : Nat → Nat} {r : Nat → Nat → Option Nat} {p : Int32 × HI} (C : CX X yX8_firstOf.cls cX8_firstOf 5 0) (hZ : SZX X adr) (E : RX X (some .int) sh adr (fun v τ => v = some (.int p.1) ∧ τ = mk p.2 r)) {k : HI → Int32 → Option (Int32 × HI)} (hk : ∀ (h : HI) (v2 : Int32), k h v2 = some p → WW X (sh, adr, 0, 0) 44 [.retAddr 0, .retAddr 0, .int v2, .retAddr 0, .retAddr 0] [] (mk h r)) : ∀ (n : Nat) (h : HI) (v0 : Int32) (v1 : Int32) (v2 : Int32) (v3 : Int32) (v4 : Int32), fX8_firstOf_7 k n h v0 v1 v2 v3 v4 = some p → WW X (sh, adr, 0, 0) 7 [.int v0, .int v1, .int v2, .int v3, .int v4] [] (mk h r) := by
  intro n
  induction n with
  | zero =>
    intro h v0 v1 v2 v3 v4 H
    rw [fX8_firstOf_7] at H
    cases H
  | succ n ih =>
    intro h v0 v1 v2 v3 v4 H
    rw [fX8_firstOf_7] at H
    refine ww_iload C dX8_firstOf_7 rfl ?_
    refine ww_bipush (v := (6 : Int32)) C dX8_firstOf_9 (by decide) ?_
    refine ww_icmp_ge C dX8_firstOf_11 44 rfl (fun hc => ?_) (fun hc => ?_)
    · rw [if_pos hc] at H
      exact ww_drop [.retAddr 0, .retAddr 0, .int v2, .retAddr 0, .retAddr 0] (sl_d (sl_d (sl_e (sl_d (sl_d sl_n))))) (hk h v2 H)
    · rw [if_neg hc] at H
      refine ww_iload_n C dX8_firstOf_14 0 rfl rfl ?_
      refine ww_iload C dX8_firstOf_15 rfl ?_
      refine ww_ishr C dX8_firstOf_17 ?_
      refine ww_iconst (v := (1 : Int32)) C dX8_firstOf_18 (by decide) ?_
      refine ww_iand C dX8_firstOf_19 ?_
      refine ww_if_eq C dX8_firstOf_20 38 rfl (fun hc => ?_) (fun hc => ?_)
      · rw [if_pos hc] at H
        exact cX8_firstOf_38 C hZ E hk ih H
      · rw [if_neg hc] at H
        refine ww_iload_n C dX8_firstOf_23 3 rfl rfl ?_
        refine ww_iload_n C dX8_firstOf_24 1 rfl rfl ?_
        refine ww_icmp_ge C dX8_firstOf_25 38 rfl (fun hc => ?_) (fun hc => ?_)
        · rw [if_pos hc] at H
          exact cX8_firstOf_38 C hZ E hk ih H
        · rw [if_neg hc] at H
          refine ww_iload_n C dX8_firstOf_28 2 rfl rfl ?_
          refine ww_iconst (v := (1 : Int32)) C dX8_firstOf_29 (by decide) ?_
          refine ww_iload C dX8_firstOf_30 rfl ?_
          refine ww_ishl C dX8_firstOf_32 ?_
          refine ww_ior C dX8_firstOf_33 ?_
          refine ww_istore_n C dX8_firstOf_34 2 rfl (by decide) rfl [.int v0, .int v1, .int (v2 ||| ((1 : Int32) <<< (v4 &&& 31))), .int v3, .int v4] rfl ?_
          refine ww_iinc (v := (v3 + (1 : Int32))) C dX8_firstOf_35 rfl rfl (by decide) rfl [.int v0, .int v1, .int (v2 ||| ((1 : Int32) <<< (v4 &&& 31))), .int (v3 + (1 : Int32)), .int v4] rfl ?_
          exact cX8_firstOf_38 C hZ E hk ih H
def fX8_firstOf (h : HI) (a0 : Int32) (a1 : Int32) : Option (Int32 × HI) := fX8_firstOf_7 (fun h2 v2 => some (v2, h2)) FU h a0 a1 (0 : Int32) (0 : Int32) (0 : Int32)
set_option maxRecDepth 100000 in
set_option maxHeartbeats 4000000 in
theorem ccX8_firstOf {l : Launch} {sh : Sh} {adr : Nat → Nat} {r : Nat → Nat → Option Nat} {h : HI} {a0 : Int32} {a1 : Int32} {p : Int32 × HI} (H : fX8_firstOf h a0 a1 = some p) : CC l yX8_firstOf cX8_firstOf 5 (some .int) 0 [.int a0, .int a1] sh adr (mk h r) (fun v τ => v = some (.int p.1) ∧ τ = mk p.2 r) := by
  refine CC.of (by decide) (Nat.le_of_ble_eq_true rfl) 3 [.int a0, .int a1, .retAddr 0, .retAddr 0, .retAddr 0] rfl (fun X _ C E hZ => ?_)
  rw [fX8_firstOf] at H
  refine ww_iconst (v := (0 : Int32)) C dX8_firstOf_0 (by decide) ?_
  refine ww_istore_n C dX8_firstOf_1 2 rfl (by decide) rfl [.int a0, .int a1, .int (0 : Int32), .retAddr 0, .retAddr 0] rfl ?_
  refine ww_iconst (v := (0 : Int32)) C dX8_firstOf_2 (by decide) ?_
  refine ww_istore_n C dX8_firstOf_3 3 rfl (by decide) rfl [.int a0, .int a1, .int (0 : Int32), .int (0 : Int32), .retAddr 0] rfl ?_
  refine ww_iconst (v := (0 : Int32)) C dX8_firstOf_4 (by decide) ?_
  refine ww_istore C dX8_firstOf_5 (by decide) rfl [.int a0, .int a1, .int (0 : Int32), .int (0 : Int32), .int (0 : Int32)] rfl ?_
  refine cX8_firstOf_7 C hZ E (fun h2 v2 H => ?_) FU h a0 a1 (0 : Int32) (0 : Int32) (0 : Int32) H
  refine ww_iload_n C dX8_firstOf_44 2 rfl rfl ?_
  cases H
  exact ww_iret C E dX8_firstOf_45 ⟨rfl, rfl⟩
def fX8_floor (o : Nat) (nh : Nat) (h : HI) (a1 : Int32) : Option (Int32 × HI) := ((fX6_floorTime (o + 56) nh h a1).bind fun p1 => some (p1.1, p1.2))
set_option maxRecDepth 100000 in
set_option maxHeartbeats 4000000 in
theorem ccX8_floor {l : Launch} {sh : Sh} {adr : Nat → Nat} {r : Nat → Nat → Option Nat} {o : Nat} {hh : Nat} {hs : Nat} {rh : Nat} {ph : Nat} {nh : Nat} (hS : KS sh r hh hs rh ph nh o) {h : HI} {a1 : Int32} {p : Int32 × HI} (H : fX8_floor o nh h a1 = some p) : CC l yX8_floor cX8_floor 2 (some .int) 3 [.ref o, .int a1] sh adr (mk h r) (fun v τ => v = some (.int p.1) ∧ τ = mk p.2 r) := by
  refine CC.of (by decide) (Nat.le_of_ble_eq_true rfl) 0 [.ref o, .int a1] rfl (fun X _ C E hZ => ?_)
  rw [fX8_floor] at H
  refine ww_aload_n C dX8_floor_0 0 rfl rfl ?_
  refine wk_getA C dX8_floor_1 fl_X8_55 hS.1 rfl (tX8_now hS).1 ?_
  refine ww_iload_n C dX8_floor_4 1 rfl rfl ?_
  obtain ⟨p1, hc1, H⟩ := bd_of H
  refine ww_callV C hZ dX8_floor_5 cw_X8_226 (ccX6_floorTime (tX8_now hS).2 hc1) (tX8_now hS).2.1 ⟨by decide, rfl⟩ (by decide) rfl rfl (Nat.le_of_ble_eq_true rfl) ⟨Nat.zero_le _, Nat.zero_le _⟩ (fun v τ hp => ?_)
  obtain ⟨rfl, rfl⟩ := hp
  change WW X _ 8 [.ref o, .int a1] [.int p1.1] _
  cases H
  exact ww_iret C E dX8_floor_8 ⟨rfl, rfl⟩
def fX8_could_151 (o : Nat) (hh : Nat) (nh : Nat) (k : HI → Int32 → Int32 → Int32 → Int32 → Option (Int32 × HI)) (kb : HI → Int32 → Int32 → Int32 → Int32 → Int32 → Int32 → Int32 → Int32 → Int32 → Option (Int32 × HI)) (h : HI) (v1 : Int32) (v2 : Int32) (v3 : Int32) (v4 : Int32) (v5 : Int32) (v6 : Int32) (v7 : Int32) (v8 : Int32) (v9 : Int32) : Option (Int32 × HI) := kb h v1 v2 v3 v4 v5 v6 v7 v8 (v9 + (1 : Int32))
set_option maxRecDepth 100000 in
set_option maxHeartbeats 4000000 in
theorem cX8_could_151 {X : CT} {sh : Sh} {adr : Nat → Nat} {r : Nat → Nat → Option Nat} {o : Nat} {hh : Nat} {hs : Nat} {rh : Nat} {ph : Nat} {nh : Nat} {p : Int32 × HI} (hS : KS sh r hh hs rh ph nh o) (C : CX X yX8_could.cls cX8_could 10 2) (hZ : SZX X adr) (E : RX X (some .int) sh adr (fun v τ => v = some (.int p.1) ∧ τ = mk p.2 r)) {k : HI → Int32 → Int32 → Int32 → Int32 → Option (Int32 × HI)} {kb : HI → Int32 → Int32 → Int32 → Int32 → Int32 → Int32 → Int32 → Int32 → Int32 → Option (Int32 × HI)} (hk : ∀ (h : HI) (v4 : Int32) (v5 : Int32) (v6 : Int32) (v7 : Int32), k h v4 v5 v6 v7 = some p → WW X (sh, adr, 0, 0) 157 [.ref o, .retAddr 0, .retAddr 0, .retAddr 0, .int v4, .int v5, .int v6, .int v7, .retAddr 0, .retAddr 0] [] (mk h r)) (hb : ∀ (h : HI) (v1 : Int32) (v2 : Int32) (v3 : Int32) (v4 : Int32) (v5 : Int32) (v6 : Int32) (v7 : Int32) (v8 : Int32) (v9 : Int32), kb h v1 v2 v3 v4 v5 v6 v7 v8 v9 = some p → WW X (sh, adr, 0, 0) 69 [.ref o, .int v1, .int v2, .int v3, .int v4, .int v5, .int v6, .int v7, .int v8, .int v9] [] (mk h r)) {h : HI} {v1 : Int32} {v2 : Int32} {v3 : Int32} {v4 : Int32} {v5 : Int32} {v6 : Int32} {v7 : Int32} {v8 : Int32} {v9 : Int32} (H : fX8_could_151 o hh nh k kb h v1 v2 v3 v4 v5 v6 v7 v8 v9 = some p) : WW X (sh, adr, 0, 0) 151 [.ref o, .int v1, .int v2, .int v3, .int v4, .int v5, .int v6, .int v7, .int v8, .int v9] [] (mk h r) := by
  rw [fX8_could_151] at H
  refine ww_iinc (v := (v9 + (1 : Int32))) C dX8_could_151 rfl rfl (by decide) rfl [.ref o, .int v1, .int v2, .int v3, .int v4, .int v5, .int v6, .int v7, .int v8, .int (v9 + (1 : Int32))] rfl ?_
  refine ww_goto C dX8_could_154 69 rfl ?_
  exact hb h v1 v2 v3 v4 v5 v6 v7 v8 (v9 + (1 : Int32)) H
def fX8_could_69 (o : Nat) (hh : Nat) (nh : Nat) (k : HI → Int32 → Int32 → Int32 → Int32 → Option (Int32 × HI)) : Nat → HI → Int32 → Int32 → Int32 → Int32 → Int32 → Int32 → Int32 → Int32 → Int32 → Option (Int32 × HI)
  | 0, _, _, _, _, _, _, _, _, _, _ => none
  | n + 1, h, v1, v2, v3, v4, v5, v6, v7, v8, v9 => (if ((1 : Int32) <<< ((h.1 (hh + 3) 1) &&& 31)) ≤ v9 then k h v4 v5 v6 v7 else ((fJ6_bitCount_0f7a4 h v9).bind fun p3 => (if v8 < p3.1 then fX8_could_151 o hh nh (k) (fX8_could_69 o hh nh k n) p3.2 v1 v2 v3 v4 v5 v6 v7 v8 v9 else (if inB v1 4 then ((fJ6_bitCount_0f7a4 p3.2 (v9 &&& (p3.2.1 (hh + 11) (v1.toNatClampNeg)))).bind fun p4 => (if p4.1 = v2 then (if inB v1 4 then ((fJ6_bitCount_0f7a4 p4.2 (v9 &&& (p4.2.1 (hh + 12) (v1.toNatClampNeg)))).bind fun p5 => (if p5.1 = v3 then fX8_could_151 o hh nh (k) (fX8_could_69 o hh nh k n) p5.2 v1 v2 v3 v4 (v5 + (1 : Int32)) (v6 &&& v9) (v7 ||| v9) v8 v9 else fX8_could_151 o hh nh (k) (fX8_could_69 o hh nh k n) p5.2 v1 v2 v3 v4 v5 v6 v7 v8 v9)) else none) else fX8_could_151 o hh nh (k) (fX8_could_69 o hh nh k n) p4.2 v1 v2 v3 v4 v5 v6 v7 v8 v9)) else none))))
set_option maxRecDepth 100000 in
set_option maxHeartbeats 4000000 in
theorem cX8_could_69 {X : CT} {sh : Sh} {adr : Nat → Nat} {r : Nat → Nat → Option Nat} {o : Nat} {hh : Nat} {hs : Nat} {rh : Nat} {ph : Nat} {nh : Nat} {p : Int32 × HI} (hS : KS sh r hh hs rh ph nh o) (C : CX X yX8_could.cls cX8_could 10 2) (hZ : SZX X adr) (E : RX X (some .int) sh adr (fun v τ => v = some (.int p.1) ∧ τ = mk p.2 r)) {k : HI → Int32 → Int32 → Int32 → Int32 → Option (Int32 × HI)} (hk : ∀ (h : HI) (v4 : Int32) (v5 : Int32) (v6 : Int32) (v7 : Int32), k h v4 v5 v6 v7 = some p → WW X (sh, adr, 0, 0) 157 [.ref o, .retAddr 0, .retAddr 0, .retAddr 0, .int v4, .int v5, .int v6, .int v7, .retAddr 0, .retAddr 0] [] (mk h r)) : ∀ (n : Nat) (h : HI) (v1 : Int32) (v2 : Int32) (v3 : Int32) (v4 : Int32) (v5 : Int32) (v6 : Int32) (v7 : Int32) (v8 : Int32) (v9 : Int32), fX8_could_69 o hh nh k n h v1 v2 v3 v4 v5 v6 v7 v8 v9 = some p → WW X (sh, adr, 0, 0) 69 [.ref o, .int v1, .int v2, .int v3, .int v4, .int v5, .int v6, .int v7, .int v8, .int v9] [] (mk h r) := by
  intro n
  induction n with
  | zero =>
    intro h v1 v2 v3 v4 v5 v6 v7 v8 v9 H
    rw [fX8_could_69] at H
    cases H
  | succ n ih =>
    intro h v1 v2 v3 v4 v5 v6 v7 v8 v9 H
    rw [fX8_could_69] at H
    refine ww_iload C dX8_could_69 rfl ?_
    refine ww_iconst (v := (1 : Int32)) C dX8_could_71 (by decide) ?_
    refine ww_aload_n C dX8_could_72 0 rfl rfl ?_
    refine wk_getA C dX8_could_73 fl_X8_36 hS.1 rfl (tX8_told hS).1 ?_
    refine wk_getA C dX8_could_76 fl_X8_88 (tX8_told hS).2.1 rfl (tX1_men (tX8_told hS).2).1 ?_
    refine wk_getI C dX8_could_79 fl_X8_92 (tX1_men (tX8_told hS).2).2.1 rfl ?_
    refine ww_ishl C dX8_could_82 ?_
    refine ww_icmp_ge C dX8_could_83 157 rfl (fun hc => ?_) (fun hc => ?_)
    · rw [if_pos hc] at H
      exact ww_drop [.ref o, .retAddr 0, .retAddr 0, .retAddr 0, .int v4, .int v5, .int v6, .int v7, .retAddr 0, .retAddr 0] (sl_e (sl_d (sl_d (sl_d (sl_e (sl_e (sl_e (sl_e (sl_d (sl_d sl_n)))))))))) (hk h v4 v5 v6 v7 H)
    · rw [if_neg hc] at H
      refine ww_iload C dX8_could_86 rfl ?_
      obtain ⟨p3, hc1, H⟩ := bd_of H
      refine ww_callS C hZ dX8_could_88 sw_X8_183 (ccJ6_bitCount_0f7a4 hc1) (by decide) rfl rfl (Nat.le_of_ble_eq_true rfl) ⟨Nat.zero_le _, Nat.zero_le _⟩ (fun v τ hp => ?_)
      obtain ⟨rfl, rfl⟩ := hp
      change WW X _ 91 [.ref o, .int v1, .int v2, .int v3, .int v4, .int v5, .int v6, .int v7, .int v8, .int v9] [.int p3.1] _
      refine ww_iload C dX8_could_91 rfl ?_
      refine ww_icmp_gt C dX8_could_93 151 rfl (fun hc => ?_) (fun hc => ?_)
      · rw [if_pos hc] at H
        exact cX8_could_151 hS C hZ E hk ih H
      · rw [if_neg hc] at H
        refine ww_iload C dX8_could_96 rfl ?_
        refine ww_aload_n C dX8_could_98 0 rfl rfl ?_
        refine wk_getA C dX8_could_99 fl_X8_36 hS.1 rfl (tX8_told hS).1 ?_
        refine wk_getR C dX8_could_102 fl_X8_232 (tX8_told hS).2.1 rfl (tX1_likes (tX8_told hS).2).1 ?_
        refine ww_iload_n C dX8_could_105 1 rfl rfl ?_
        obtain ⟨hg, H⟩ := gd_of H
        refine wk_iaload C dX8_could_106 (tX1_likes (tX8_told hS).2).2.1 (vp_of hg (tX1_likes (tX8_told hS).2).2.2) (v1.toNatClampNeg) rfl ?_
        refine ww_iand C dX8_could_107 ?_
        obtain ⟨p4, hc1, H⟩ := bd_of H
        refine ww_callS C hZ dX8_could_108 sw_X8_183 (ccJ6_bitCount_0f7a4 hc1) (by decide) rfl rfl (Nat.le_of_ble_eq_true rfl) ⟨Nat.zero_le _, Nat.zero_le _⟩ (fun v τ hp => ?_)
        obtain ⟨rfl, rfl⟩ := hp
        change WW X _ 111 [.ref o, .int v1, .int v2, .int v3, .int v4, .int v5, .int v6, .int v7, .int v8, .int v9] [.int p4.1] _
        refine ww_iload_n C dX8_could_111 2 rfl rfl ?_
        refine ww_icmp_ne C dX8_could_112 151 rfl (fun hc => ?_) (fun hc => ?_)
        · rw [if_neg hc] at H
          exact cX8_could_151 hS C hZ E hk ih H
        · rw [if_pos hc] at H
          refine ww_iload C dX8_could_115 rfl ?_
          refine ww_aload_n C dX8_could_117 0 rfl rfl ?_
          refine wk_getA C dX8_could_118 fl_X8_36 hS.1 rfl (tX8_told hS).1 ?_
          refine wk_getR C dX8_could_121 fl_X8_235 (tX8_told hS).2.1 rfl (tX1_dislikes (tX8_told hS).2).1 ?_
          refine ww_iload_n C dX8_could_124 1 rfl rfl ?_
          obtain ⟨hg, H⟩ := gd_of H
          refine wk_iaload C dX8_could_125 (tX1_dislikes (tX8_told hS).2).2.1 (vp_of hg (tX1_dislikes (tX8_told hS).2).2.2) (v1.toNatClampNeg) rfl ?_
          refine ww_iand C dX8_could_126 ?_
          obtain ⟨p5, hc1, H⟩ := bd_of H
          refine ww_callS C hZ dX8_could_127 sw_X8_183 (ccJ6_bitCount_0f7a4 hc1) (by decide) rfl rfl (Nat.le_of_ble_eq_true rfl) ⟨Nat.zero_le _, Nat.zero_le _⟩ (fun v τ hp => ?_)
          obtain ⟨rfl, rfl⟩ := hp
          change WW X _ 130 [.ref o, .int v1, .int v2, .int v3, .int v4, .int v5, .int v6, .int v7, .int v8, .int v9] [.int p5.1] _
          refine ww_iload_n C dX8_could_130 3 rfl rfl ?_
          refine ww_icmp_ne C dX8_could_131 151 rfl (fun hc => ?_) (fun hc => ?_)
          · rw [if_neg hc] at H
            exact cX8_could_151 hS C hZ E hk ih H
          · rw [if_pos hc] at H
            refine ww_iinc (v := (v5 + (1 : Int32))) C dX8_could_134 rfl rfl (by decide) rfl [.ref o, .int v1, .int v2, .int v3, .int v4, .int (v5 + (1 : Int32)), .int v6, .int v7, .int v8, .int v9] rfl ?_
            refine ww_iload C dX8_could_137 rfl ?_
            refine ww_iload C dX8_could_139 rfl ?_
            refine ww_iand C dX8_could_141 ?_
            refine ww_istore C dX8_could_142 (by decide) rfl [.ref o, .int v1, .int v2, .int v3, .int v4, .int (v5 + (1 : Int32)), .int (v6 &&& v9), .int v7, .int v8, .int v9] rfl ?_
            refine ww_iload C dX8_could_144 rfl ?_
            refine ww_iload C dX8_could_146 rfl ?_
            refine ww_ior C dX8_could_148 ?_
            refine ww_istore C dX8_could_149 (by decide) rfl [.ref o, .int v1, .int v2, .int v3, .int v4, .int (v5 + (1 : Int32)), .int (v6 &&& v9), .int (v7 ||| v9), .int v8, .int v9] rfl ?_
            exact cX8_could_151 hS C hZ E hk ih H
def fX8_could (o : Nat) (hh : Nat) (nh : Nat) (h : HI) (a1 : Int32) (a2 : Int32) (a3 : Int32) (a4 : Int32) : Option (Int32 × HI) := ((fX2_has (hh + 5) h a1).bind fun p1 => (if p1.1 = 0 then some ((-1 : Int32), p1.2) else (if a2 < 0 then some ((-1 : Int32), p1.2) else (if a3 < 0 then some ((-1 : Int32), p1.2) else (if a4 < 0 then some ((-1 : Int32), p1.2) else (if a4 ≤ (2 : Int32) then ((fX6_seats (o + 56) nh p1.2).bind fun p2 => fX8_could_69 o hh nh (fun h7 v4 v5 v6 v7 => (if v4 = 0 then some (v5, h7) else (if v4 = (2 : Int32) then some (v7, h7) else (if v5 = 0 then some ((0 : Int32), h7) else some (v6, h7))))) FU p2.2 a1 a2 a3 a4 (0 : Int32) (((1 : Int32) <<< ((p1.2.1 (hh + 3) 1) &&& 31)) - (1 : Int32)) (0 : Int32) p2.1 (0 : Int32)) else some ((-1 : Int32), p1.2)))))))
set_option maxRecDepth 100000 in
set_option maxHeartbeats 4000000 in
theorem ccX8_could {l : Launch} {sh : Sh} {adr : Nat → Nat} {r : Nat → Nat → Option Nat} {o : Nat} {hh : Nat} {hs : Nat} {rh : Nat} {ph : Nat} {nh : Nat} (hS : KS sh r hh hs rh ph nh o) {h : HI} {a1 : Int32} {a2 : Int32} {a3 : Int32} {a4 : Int32} {p : Int32 × HI} (H : fX8_could o hh nh h a1 a2 a3 a4 = some p) : CC l yX8_could cX8_could 10 (some .int) 2 [.ref o, .int a1, .int a2, .int a3, .int a4] sh adr (mk h r) (fun v τ => v = some (.int p.1) ∧ τ = mk p.2 r) := by
  refine CC.of (by decide) (Nat.le_of_ble_eq_true rfl) 5 [.ref o, .int a1, .int a2, .int a3, .int a4, .retAddr 0, .retAddr 0, .retAddr 0, .retAddr 0, .retAddr 0] rfl (fun X _ C E hZ => ?_)
  rw [fX8_could] at H
  refine ww_aload_n C dX8_could_0 0 rfl rfl ?_
  refine wk_getA C dX8_could_1 fl_X8_36 hS.1 rfl (tX8_told hS).1 ?_
  refine wk_getA C dX8_could_4 fl_X8_170 (tX8_told hS).2.1 rfl (tX1_matters (tX8_told hS).2).1 ?_
  refine ww_iload_n C dX8_could_7 1 rfl rfl ?_
  obtain ⟨p1, hc1, H⟩ := bd_of H
  refine ww_callV C hZ dX8_could_8 cw_X8_131 (ccX2_has (tX1_matters (tX8_told hS).2).2 hc1) (tX1_matters (tX8_told hS).2).2.1 ⟨by decide, rfl⟩ (by decide) rfl rfl (Nat.le_of_ble_eq_true rfl) ⟨Nat.zero_le _, Nat.zero_le _⟩ (fun v τ hp => ?_)
  obtain ⟨rfl, rfl⟩ := hp
  change WW X _ 11 [.ref o, .int a1, .int a2, .int a3, .int a4, .retAddr 0, .retAddr 0, .retAddr 0, .retAddr 0, .retAddr 0] [.int p1.1] _
  refine ww_if_eq C dX8_could_11 33 rfl (fun hc => ?_) (fun hc => ?_)
  · rw [if_pos hc] at H
    refine ww_iconst (v := (-1 : Int32)) C dX8_could_33 (by decide) ?_
    cases H
    exact ww_iret C E dX8_could_34 ⟨rfl, rfl⟩
  · rw [if_neg hc] at H
    refine ww_iload_n C dX8_could_14 2 rfl rfl ?_
    refine ww_if_lt C dX8_could_15 33 rfl (fun hc => ?_) (fun hc => ?_)
    · rw [if_pos hc] at H
      refine ww_iconst (v := (-1 : Int32)) C dX8_could_33 (by decide) ?_
      cases H
      exact ww_iret C E dX8_could_34 ⟨rfl, rfl⟩
    · rw [if_neg hc] at H
      refine ww_iload_n C dX8_could_18 3 rfl rfl ?_
      refine ww_if_lt C dX8_could_19 33 rfl (fun hc => ?_) (fun hc => ?_)
      · rw [if_pos hc] at H
        refine ww_iconst (v := (-1 : Int32)) C dX8_could_33 (by decide) ?_
        cases H
        exact ww_iret C E dX8_could_34 ⟨rfl, rfl⟩
      · rw [if_neg hc] at H
        refine ww_iload C dX8_could_22 rfl ?_
        refine ww_if_lt C dX8_could_24 33 rfl (fun hc => ?_) (fun hc => ?_)
        · rw [if_pos hc] at H
          refine ww_iconst (v := (-1 : Int32)) C dX8_could_33 (by decide) ?_
          cases H
          exact ww_iret C E dX8_could_34 ⟨rfl, rfl⟩
        · rw [if_neg hc] at H
          refine ww_iload C dX8_could_27 rfl ?_
          refine ww_iconst (v := (2 : Int32)) C dX8_could_29 (by decide) ?_
          refine ww_icmp_le C dX8_could_30 35 rfl (fun hc => ?_) (fun hc => ?_)
          · rw [if_pos hc] at H
            refine ww_iconst (v := (0 : Int32)) C dX8_could_35 (by decide) ?_
            refine ww_istore C dX8_could_36 (by decide) rfl [.ref o, .int a1, .int a2, .int a3, .int a4, .int (0 : Int32), .retAddr 0, .retAddr 0, .retAddr 0, .retAddr 0] rfl ?_
            refine ww_iconst (v := (1 : Int32)) C dX8_could_38 (by decide) ?_
            refine ww_aload_n C dX8_could_39 0 rfl rfl ?_
            refine wk_getA C dX8_could_40 fl_X8_36 hS.1 rfl (tX8_told hS).1 ?_
            refine wk_getA C dX8_could_43 fl_X8_88 (tX8_told hS).2.1 rfl (tX1_men (tX8_told hS).2).1 ?_
            refine wk_getI C dX8_could_46 fl_X8_92 (tX1_men (tX8_told hS).2).2.1 rfl ?_
            refine ww_ishl C dX8_could_49 ?_
            refine ww_iconst (v := (1 : Int32)) C dX8_could_50 (by decide) ?_
            refine ww_isub C dX8_could_51 ?_
            refine ww_istore C dX8_could_52 (by decide) rfl [.ref o, .int a1, .int a2, .int a3, .int a4, .int (0 : Int32), .int (((1 : Int32) <<< ((p1.2.1 (hh + 3) 1) &&& 31)) - (1 : Int32)), .retAddr 0, .retAddr 0, .retAddr 0] rfl ?_
            refine ww_iconst (v := (0 : Int32)) C dX8_could_54 (by decide) ?_
            refine ww_istore C dX8_could_55 (by decide) rfl [.ref o, .int a1, .int a2, .int a3, .int a4, .int (0 : Int32), .int (((1 : Int32) <<< ((p1.2.1 (hh + 3) 1) &&& 31)) - (1 : Int32)), .int (0 : Int32), .retAddr 0, .retAddr 0] rfl ?_
            refine ww_aload_n C dX8_could_57 0 rfl rfl ?_
            refine wk_getA C dX8_could_58 fl_X8_55 hS.1 rfl (tX8_now hS).1 ?_
            obtain ⟨p2, hc1, H⟩ := bd_of H
            refine ww_callV C hZ dX8_could_61 cw_X8_229 (ccX6_seats (tX8_now hS).2 hc1) (tX8_now hS).2.1 ⟨by decide, rfl⟩ (by decide) rfl rfl (Nat.le_of_ble_eq_true rfl) ⟨Nat.zero_le _, Nat.zero_le _⟩ (fun v τ hp => ?_)
            obtain ⟨rfl, rfl⟩ := hp
            change WW X _ 64 [.ref o, .int a1, .int a2, .int a3, .int a4, .int (0 : Int32), .int (((1 : Int32) <<< ((p1.2.1 (hh + 3) 1) &&& 31)) - (1 : Int32)), .int (0 : Int32), .retAddr 0, .retAddr 0] [.int p2.1] _
            refine ww_istore C dX8_could_64 (by decide) rfl [.ref o, .int a1, .int a2, .int a3, .int a4, .int (0 : Int32), .int (((1 : Int32) <<< ((p1.2.1 (hh + 3) 1) &&& 31)) - (1 : Int32)), .int (0 : Int32), .int p2.1, .retAddr 0] rfl ?_
            refine ww_iconst (v := (0 : Int32)) C dX8_could_66 (by decide) ?_
            refine ww_istore C dX8_could_67 (by decide) rfl [.ref o, .int a1, .int a2, .int a3, .int a4, .int (0 : Int32), .int (((1 : Int32) <<< ((p1.2.1 (hh + 3) 1) &&& 31)) - (1 : Int32)), .int (0 : Int32), .int p2.1, .int (0 : Int32)] rfl ?_
            refine cX8_could_69 hS C hZ E (fun h7 v4 v5 v6 v7 H => ?_) FU p2.2 a1 a2 a3 a4 (0 : Int32) (((1 : Int32) <<< ((p1.2.1 (hh + 3) 1) &&& 31)) - (1 : Int32)) (0 : Int32) p2.1 (0 : Int32) H
            refine ww_iload C dX8_could_157 rfl ?_
            refine ww_if_ne C dX8_could_159 165 rfl (fun hc => ?_) (fun hc => ?_)
            · rw [if_neg hc] at H
              refine ww_iload C dX8_could_165 rfl ?_
              refine ww_iconst (v := (2 : Int32)) C dX8_could_167 (by decide) ?_
              refine ww_icmp_ne C dX8_could_168 176 rfl (fun hc => ?_) (fun hc => ?_)
              · rw [if_neg hc] at H
                refine ww_iload C dX8_could_176 rfl ?_
                refine ww_if_ne C dX8_could_178 185 rfl (fun hc => ?_) (fun hc => ?_)
                · rw [if_neg hc] at H
                  refine ww_iload C dX8_could_185 rfl ?_
                  cases H
                  exact ww_iret C E dX8_could_187 ⟨rfl, rfl⟩
                · rw [if_pos hc] at H
                  refine ww_iconst (v := (0 : Int32)) C dX8_could_181 (by decide) ?_
                  refine ww_goto C dX8_could_182 187 rfl ?_
                  cases H
                  exact ww_iret C E dX8_could_187 ⟨rfl, rfl⟩
              · rw [if_pos hc] at H
                refine ww_iload C dX8_could_171 rfl ?_
                refine ww_goto C dX8_could_173 187 rfl ?_
                cases H
                exact ww_iret C E dX8_could_187 ⟨rfl, rfl⟩
            · rw [if_pos hc] at H
              refine ww_iload C dX8_could_162 rfl ?_
              cases H
              exact ww_iret C E dX8_could_164 ⟨rfl, rfl⟩
          · rw [if_neg hc] at H
            refine ww_iconst (v := (-1 : Int32)) C dX8_could_33 (by decide) ?_
            cases H
            exact ww_iret C E dX8_could_34 ⟨rfl, rfl⟩
def fX8_entry (o : Nat) (hh : Nat) (h : HI) (a1 : Int32) (a2 : Int32) (a3 : Int32) : Option (Int32 × HI) := ((fX2_has (hh + 3) h a2).bind fun p1 => (if p1.1 = 0 then some ((-1 : Int32), p1.2) else ((fX0_tell (o + 5) p1.2 a1 a2 a3).bind fun p2 => some (p2.1, p2.2))))
set_option maxRecDepth 100000 in
set_option maxHeartbeats 4000000 in
theorem ccX8_entry {l : Launch} {sh : Sh} {adr : Nat → Nat} {r : Nat → Nat → Option Nat} {o : Nat} {hh : Nat} {hs : Nat} {rh : Nat} {ph : Nat} {nh : Nat} (hS : KS sh r hh hs rh ph nh o) {h : HI} {a1 : Int32} {a2 : Int32} {a3 : Int32} {p : Int32 × HI} (H : fX8_entry o hh h a1 a2 a3 = some p) : CC l yX8_entry cX8_entry 4 (some .int) 1 [.ref o, .int a1, .int a2, .int a3] sh adr (mk h r) (fun v τ => v = some (.int p.1) ∧ τ = mk p.2 r) := by
  refine CC.of (by decide) (Nat.le_of_ble_eq_true rfl) 0 [.ref o, .int a1, .int a2, .int a3] rfl (fun X _ C E hZ => ?_)
  rw [fX8_entry] at H
  refine ww_aload_n C dX8_entry_0 0 rfl rfl ?_
  refine wk_getA C dX8_entry_1 fl_X8_36 hS.1 rfl (tX8_told hS).1 ?_
  refine wk_getA C dX8_entry_4 fl_X8_88 (tX8_told hS).2.1 rfl (tX1_men (tX8_told hS).2).1 ?_
  refine ww_iload_n C dX8_entry_7 2 rfl rfl ?_
  obtain ⟨p1, hc1, H⟩ := bd_of H
  refine ww_callV C hZ dX8_entry_8 cw_X8_131 (ccX2_has (tX1_men (tX8_told hS).2).2 hc1) (tX1_men (tX8_told hS).2).2.1 ⟨by decide, rfl⟩ (by decide) rfl rfl (Nat.le_of_ble_eq_true rfl) ⟨Nat.zero_le _, Nat.zero_le _⟩ (fun v τ hp => ?_)
  obtain ⟨rfl, rfl⟩ := hp
  change WW X _ 11 [.ref o, .int a1, .int a2, .int a3] [.int p1.1] _
  refine ww_if_ne C dX8_entry_11 16 rfl (fun hc => ?_) (fun hc => ?_)
  · rw [if_neg hc] at H
    refine ww_aload_n C dX8_entry_16 0 rfl rfl ?_
    refine wk_getA C dX8_entry_17 fl_X8_29 hS.1 rfl (tX8_book hS).1 ?_
    refine ww_iload_n C dX8_entry_20 1 rfl rfl ?_
    refine ww_iload_n C dX8_entry_21 2 rfl rfl ?_
    refine ww_iload_n C dX8_entry_22 3 rfl rfl ?_
    obtain ⟨p2, hc1, H⟩ := bd_of H
    refine ww_callV C hZ dX8_entry_23 cw_X8_238 (ccX0_tell (tX8_book hS).2 hc1) (tX8_book hS).2.1 ⟨by decide, rfl⟩ (by decide) rfl rfl (Nat.le_of_ble_eq_true rfl) ⟨Nat.zero_le _, Nat.zero_le _⟩ (fun v τ hp => ?_)
    obtain ⟨rfl, rfl⟩ := hp
    change WW X _ 26 [.ref o, .int a1, .int a2, .int a3] [.int p2.1] _
    cases H
    exact ww_iret C E dX8_entry_26 ⟨rfl, rfl⟩
  · rw [if_pos hc] at H
    refine ww_iconst (v := (-1 : Int32)) C dX8_entry_14 (by decide) ?_
    cases H
    exact ww_iret C E dX8_entry_15 ⟨rfl, rfl⟩
def fX8_untell (o : Nat) (h : HI) (a1 : Int32) : Option (Int32 × HI) := ((fX0_takeBack (o + 5) h a1).bind fun p1 => (if p1.1 = 0 ∨ p1.1 = 1 then some (p1.1, p1.2) else none))
set_option maxRecDepth 100000 in
set_option maxHeartbeats 4000000 in
theorem ccX8_untell {l : Launch} {sh : Sh} {adr : Nat → Nat} {r : Nat → Nat → Option Nat} {o : Nat} {hh : Nat} {hs : Nat} {rh : Nat} {ph : Nat} {nh : Nat} (hS : KS sh r hh hs rh ph nh o) {h : HI} {a1 : Int32} {p : Int32 × HI} (H : fX8_untell o h a1 = some p) : CC l yX8_untell cX8_untell 2 (some .boolean) 1 [.ref o, .int a1] sh adr (mk h r) (fun v τ => v = some (.int p.1) ∧ τ = mk p.2 r) := by
  refine CC.of (by decide) (Nat.le_of_ble_eq_true rfl) 0 [.ref o, .int a1] rfl (fun X _ C E hZ => ?_)
  rw [fX8_untell] at H
  refine ww_aload_n C dX8_untell_0 0 rfl rfl ?_
  refine wk_getA C dX8_untell_1 fl_X8_29 hS.1 rfl (tX8_book hS).1 ?_
  refine ww_iload_n C dX8_untell_4 1 rfl rfl ?_
  obtain ⟨p1, hc1, H⟩ := bd_of H
  refine ww_callV C hZ dX8_untell_5 cw_X8_242 (ccX0_takeBack (tX8_book hS).2 hc1) (tX8_book hS).2.1 ⟨by decide, rfl⟩ (by decide) rfl rfl (Nat.le_of_ble_eq_true rfl) ⟨Nat.zero_le _, Nat.zero_le _⟩ (fun v τ hp => ?_)
  obtain ⟨rfl, rfl⟩ := hp
  change WW X _ 8 [.ref o, .int a1] [.int p1.1] _
  obtain ⟨hg, H⟩ := gd_of H
  cases H
  exact ww_zret C E dX8_untell_8 hg ⟨rfl, rfl⟩
def fX8_later (o : Nat) (h : HI) (a1 : Int32) : Option (Int32 × HI) := ((fX0_goOn (o + 5) h a1).bind fun p1 => some (p1.1, p1.2))
set_option maxRecDepth 100000 in
set_option maxHeartbeats 4000000 in
theorem ccX8_later {l : Launch} {sh : Sh} {adr : Nat → Nat} {r : Nat → Nat → Option Nat} {o : Nat} {hh : Nat} {hs : Nat} {rh : Nat} {ph : Nat} {nh : Nat} (hS : KS sh r hh hs rh ph nh o) {h : HI} {a1 : Int32} {p : Int32 × HI} (H : fX8_later o h a1 = some p) : CC l yX8_later cX8_later 2 (some .int) 1 [.ref o, .int a1] sh adr (mk h r) (fun v τ => v = some (.int p.1) ∧ τ = mk p.2 r) := by
  refine CC.of (by decide) (Nat.le_of_ble_eq_true rfl) 0 [.ref o, .int a1] rfl (fun X _ C E hZ => ?_)
  rw [fX8_later] at H
  refine ww_aload_n C dX8_later_0 0 rfl rfl ?_
  refine wk_getA C dX8_later_1 fl_X8_29 hS.1 rfl (tX8_book hS).1 ?_
  refine ww_iload_n C dX8_later_4 1 rfl rfl ?_
  obtain ⟨p1, hc1, H⟩ := bd_of H
  refine ww_callV C hZ dX8_later_5 cw_X8_245 (ccX0_goOn (tX8_book hS).2 hc1) (tX8_book hS).2.1 ⟨by decide, rfl⟩ (by decide) rfl rfl (Nat.le_of_ble_eq_true rfl) ⟨Nat.zero_le _, Nat.zero_le _⟩ (fun v τ hp => ?_)
  obtain ⟨rfl, rfl⟩ := hp
  change WW X _ 8 [.ref o, .int a1] [.int p1.1] _
  cases H
  exact ww_iret C E dX8_later_8 ⟨rfl, rfl⟩
def fX8_judge (o : Nat) (h : HI) (a1 : Int32) (a2 : Int32) : Option (Int32 × HI) := (if a1 = (0 : Int32) then ((fX0_countFalse (o + 5) (o + 56) h a2).bind fun p1 => some (p1.1, p1.2)) else (if a1 = (1 : Int32) then ((fX0_countStood (o + 5) (o + 56) h a2).bind fun p2 => some (p2.1, p2.2)) else (if a1 = (2 : Int32) then ((fX0_firstFalse (o + 5) (o + 56) h a2).bind fun p3 => some (p3.1, p3.2)) else some ((-1 : Int32), h))))
set_option maxRecDepth 100000 in
set_option maxHeartbeats 4000000 in
theorem ccX8_judge {l : Launch} {sh : Sh} {adr : Nat → Nat} {r : Nat → Nat → Option Nat} {o : Nat} {hh : Nat} {hs : Nat} {rh : Nat} {ph : Nat} {nh : Nat} (hS : KS sh r hh hs rh ph nh o) {h : HI} {a1 : Int32} {a2 : Int32} {p : Int32 × HI} (H : fX8_judge o h a1 a2 = some p) : CC l yX8_judge cX8_judge 3 (some .int) 5 [.ref o, .int a1, .int a2] sh adr (mk h r) (fun v τ => v = some (.int p.1) ∧ τ = mk p.2 r) := by
  refine CC.of (by decide) (Nat.le_of_ble_eq_true rfl) 0 [.ref o, .int a1, .int a2] rfl (fun X _ C E hZ => ?_)
  rw [fX8_judge] at H
  refine ww_iload_n C dX8_judge_0 1 rfl rfl ?_
  by_cases hc0 : a1 = (0 : Int32)
  · rw [if_pos hc0] at H
    refine ww_tableIn (off := 27) C dX8_judge_1 (by rw [hc0]; decide) (by rw [hc0]; decide) (by rw [hc0]; rfl) 28 rfl ?_
    refine ww_aload_n C dX8_judge_28 0 rfl rfl ?_
    refine wk_getA C dX8_judge_29 fl_X8_29 hS.1 rfl (tX8_book hS).1 ?_
    refine ww_aload_n C dX8_judge_32 0 rfl rfl ?_
    refine wk_getA C dX8_judge_33 fl_X8_55 hS.1 rfl (tX8_now hS).1 ?_
    refine ww_iload_n C dX8_judge_36 2 rfl rfl ?_
    obtain ⟨p1, hc1, H⟩ := bd_of H
    refine ww_callV C hZ dX8_judge_37 cw_X8_248 (ccX0_countFalse (tX8_book hS).2 (tX8_now hS).2 hc1) (tX8_book hS).2.1 ⟨by decide, rfl⟩ (by decide) rfl rfl (Nat.le_of_ble_eq_true rfl) ⟨Nat.zero_le _, Nat.zero_le _⟩ (fun v τ hp => ?_)
    obtain ⟨rfl, rfl⟩ := hp
    change WW X _ 40 [.ref o, .int a1, .int a2] [.int p1.1] _
    cases H
    exact ww_iret C E dX8_judge_40 ⟨rfl, rfl⟩
  · rw [if_neg hc0] at H
    by_cases hc1 : a1 = (1 : Int32)
    · rw [if_pos hc1] at H
      refine ww_tableIn (off := 40) C dX8_judge_1 (by rw [hc1]; decide) (by rw [hc1]; decide) (by rw [hc1]; rfl) 41 rfl ?_
      refine ww_aload_n C dX8_judge_41 0 rfl rfl ?_
      refine wk_getA C dX8_judge_42 fl_X8_29 hS.1 rfl (tX8_book hS).1 ?_
      refine ww_aload_n C dX8_judge_45 0 rfl rfl ?_
      refine wk_getA C dX8_judge_46 fl_X8_55 hS.1 rfl (tX8_now hS).1 ?_
      refine ww_iload_n C dX8_judge_49 2 rfl rfl ?_
      obtain ⟨p2, hc1, H⟩ := bd_of H
      refine ww_callV C hZ dX8_judge_50 cw_X8_252 (ccX0_countStood (tX8_book hS).2 (tX8_now hS).2 hc1) (tX8_book hS).2.1 ⟨by decide, rfl⟩ (by decide) rfl rfl (Nat.le_of_ble_eq_true rfl) ⟨Nat.zero_le _, Nat.zero_le _⟩ (fun v τ hp => ?_)
      obtain ⟨rfl, rfl⟩ := hp
      change WW X _ 53 [.ref o, .int a1, .int a2] [.int p2.1] _
      cases H
      exact ww_iret C E dX8_judge_53 ⟨rfl, rfl⟩
    · rw [if_neg hc1] at H
      by_cases hc2 : a1 = (2 : Int32)
      · rw [if_pos hc2] at H
        refine ww_tableIn (off := 53) C dX8_judge_1 (by rw [hc2]; decide) (by rw [hc2]; decide) (by rw [hc2]; rfl) 54 rfl ?_
        refine ww_aload_n C dX8_judge_54 0 rfl rfl ?_
        refine wk_getA C dX8_judge_55 fl_X8_29 hS.1 rfl (tX8_book hS).1 ?_
        refine ww_aload_n C dX8_judge_58 0 rfl rfl ?_
        refine wk_getA C dX8_judge_59 fl_X8_55 hS.1 rfl (tX8_now hS).1 ?_
        refine ww_iload_n C dX8_judge_62 2 rfl rfl ?_
        obtain ⟨p3, hc1, H⟩ := bd_of H
        refine ww_callV C hZ dX8_judge_63 cw_X8_255 (ccX0_firstFalse (tX8_book hS).2 (tX8_now hS).2 hc1) (tX8_book hS).2.1 ⟨by decide, rfl⟩ (by decide) rfl rfl (Nat.le_of_ble_eq_true rfl) ⟨Nat.zero_le _, Nat.zero_le _⟩ (fun v τ hp => ?_)
        obtain ⟨rfl, rfl⟩ := hp
        change WW X _ 66 [.ref o, .int a1, .int a2] [.int p3.1] _
        cases H
        exact ww_iret C E dX8_judge_66 ⟨rfl, rfl⟩
      · rw [if_neg hc2] at H
        refine ww_tableOut C dX8_judge_1 (by have q0 := lv_neT (k := (0 : Int32)) (a := 0) hc0 (by decide); have q1 := lv_neT (k := (1 : Int32)) (a := 1) hc1 (by decide); have q2 := lv_neT (k := (2 : Int32)) (a := 2) hc2 (by decide); omega) 67 rfl ?_
        refine ww_iconst (v := (-1 : Int32)) C dX8_judge_67 (by decide) ?_
        cases H
        exact ww_iret C E dX8_judge_68 ⟨rfl, rfl⟩
def fX8_about (o : Nat) (hh : Nat) (nh : Nat) (h : HI) (a1 : Int32) : Option (Int32 × HI) := (if a1 = (0 : Int32) then some ((h.1 (hh + 1) 1), h) else (if a1 = (1 : Int32) then some ((h.1 (hh + 3) 1), h) else (if a1 = (2 : Int32) then some ((h.1 (hh + 5) 1), h) else (if a1 = (3 : Int32) then some ((h.1 hh 12), h) else (if a1 = (4 : Int32) then some ((h.1 hh 17), h) else (if a1 = (5 : Int32) then some ((h.1 (o + 56) 1), h) else (if a1 = (6 : Int32) then some ((h.1 (o + 56) 2), h) else (if a1 = (7 : Int32) then some ((h.1 (o + 5) 5), h) else (if a1 = (8 : Int32) then some ((h.1 (o + 5) 6), h) else (if a1 = (9 : Int32) then some ((h.1 (o + 1) 1), h) else (if a1 = (10 : Int32) then some ((h.1 (hh + 18) 3), h) else (if a1 = (11 : Int32) then ((fX6_seats (o + 56) nh h).bind fun p1 => some (p1.1, p1.2)) else (if a1 = (12 : Int32) then some ((h.1 (o + 56) 3), h) else some ((-1 : Int32), h))))))))))))))
set_option maxRecDepth 100000 in
set_option maxHeartbeats 4000000 in
theorem ccX8_about {l : Launch} {sh : Sh} {adr : Nat → Nat} {r : Nat → Nat → Option Nat} {o : Nat} {hh : Nat} {hs : Nat} {rh : Nat} {ph : Nat} {nh : Nat} (hS : KS sh r hh hs rh ph nh o) {h : HI} {a1 : Int32} {p : Int32 × HI} (H : fX8_about o hh nh h a1 = some p) : CC l yX8_about cX8_about 2 (some .int) 2 [.ref o, .int a1] sh adr (mk h r) (fun v τ => v = some (.int p.1) ∧ τ = mk p.2 r) := by
  refine CC.of (by decide) (Nat.le_of_ble_eq_true rfl) 0 [.ref o, .int a1] rfl (fun X _ C E hZ => ?_)
  rw [fX8_about] at H
  refine ww_iload_n C dX8_about_0 1 rfl rfl ?_
  by_cases hc0 : a1 = (0 : Int32)
  · rw [if_pos hc0] at H
    refine ww_tableIn (off := 67) C dX8_about_1 (by rw [hc0]; decide) (by rw [hc0]; decide) (by rw [hc0]; rfl) 68 rfl ?_
    refine ww_aload_n C dX8_about_68 0 rfl rfl ?_
    refine wk_getA C dX8_about_69 fl_X8_36 hS.1 rfl (tX8_told hS).1 ?_
    refine wk_getA C dX8_about_72 fl_X8_158 (tX8_told hS).2.1 rfl (tX1_chairs (tX8_told hS).2).1 ?_
    refine wk_getI C dX8_about_75 fl_X8_92 (tX1_chairs (tX8_told hS).2).2.1 rfl ?_
    cases H
    exact ww_iret C E dX8_about_78 ⟨rfl, rfl⟩
  · rw [if_neg hc0] at H
    by_cases hc1 : a1 = (1 : Int32)
    · rw [if_pos hc1] at H
      refine ww_tableIn (off := 78) C dX8_about_1 (by rw [hc1]; decide) (by rw [hc1]; decide) (by rw [hc1]; rfl) 79 rfl ?_
      refine ww_aload_n C dX8_about_79 0 rfl rfl ?_
      refine wk_getA C dX8_about_80 fl_X8_36 hS.1 rfl (tX8_told hS).1 ?_
      refine wk_getA C dX8_about_83 fl_X8_88 (tX8_told hS).2.1 rfl (tX1_men (tX8_told hS).2).1 ?_
      refine wk_getI C dX8_about_86 fl_X8_92 (tX1_men (tX8_told hS).2).2.1 rfl ?_
      cases H
      exact ww_iret C E dX8_about_89 ⟨rfl, rfl⟩
    · rw [if_neg hc1] at H
      by_cases hc2 : a1 = (2 : Int32)
      · rw [if_pos hc2] at H
        refine ww_tableIn (off := 89) C dX8_about_1 (by rw [hc2]; decide) (by rw [hc2]; decide) (by rw [hc2]; rfl) 90 rfl ?_
        refine ww_aload_n C dX8_about_90 0 rfl rfl ?_
        refine wk_getA C dX8_about_91 fl_X8_36 hS.1 rfl (tX8_told hS).1 ?_
        refine wk_getA C dX8_about_94 fl_X8_170 (tX8_told hS).2.1 rfl (tX1_matters (tX8_told hS).2).1 ?_
        refine wk_getI C dX8_about_97 fl_X8_92 (tX1_matters (tX8_told hS).2).2.1 rfl ?_
        cases H
        exact ww_iret C E dX8_about_100 ⟨rfl, rfl⟩
      · rw [if_neg hc2] at H
        by_cases hc3 : a1 = (3 : Int32)
        · rw [if_pos hc3] at H
          refine ww_tableIn (off := 100) C dX8_about_1 (by rw [hc3]; decide) (by rw [hc3]; decide) (by rw [hc3]; rfl) 101 rfl ?_
          refine ww_aload_n C dX8_about_101 0 rfl rfl ?_
          refine wk_getA C dX8_about_102 fl_X8_36 hS.1 rfl (tX8_told hS).1 ?_
          refine wk_getI C dX8_about_105 fl_X8_265 (tX8_told hS).2.1 rfl ?_
          cases H
          exact ww_iret C E dX8_about_108 ⟨rfl, rfl⟩
        · rw [if_neg hc3] at H
          by_cases hc4 : a1 = (4 : Int32)
          · rw [if_pos hc4] at H
            refine ww_tableIn (off := 108) C dX8_about_1 (by rw [hc4]; decide) (by rw [hc4]; decide) (by rw [hc4]; rfl) 109 rfl ?_
            refine ww_aload_n C dX8_about_109 0 rfl rfl ?_
            refine wk_getA C dX8_about_110 fl_X8_36 hS.1 rfl (tX8_told hS).1 ?_
            refine wk_getI C dX8_about_113 fl_X8_268 (tX8_told hS).2.1 rfl ?_
            cases H
            exact ww_iret C E dX8_about_116 ⟨rfl, rfl⟩
          · rw [if_neg hc4] at H
            by_cases hc5 : a1 = (5 : Int32)
            · rw [if_pos hc5] at H
              refine ww_tableIn (off := 116) C dX8_about_1 (by rw [hc5]; decide) (by rw [hc5]; decide) (by rw [hc5]; rfl) 117 rfl ?_
              refine ww_aload_n C dX8_about_117 0 rfl rfl ?_
              refine wk_getA C dX8_about_118 fl_X8_55 hS.1 rfl (tX8_now hS).1 ?_
              refine wk_getI C dX8_about_121 fl_X8_262 (tX8_now hS).2.1 rfl ?_
              cases H
              exact ww_iret C E dX8_about_124 ⟨rfl, rfl⟩
            · rw [if_neg hc5] at H
              by_cases hc6 : a1 = (6 : Int32)
              · rw [if_pos hc6] at H
                refine ww_tableIn (off := 124) C dX8_about_1 (by rw [hc6]; decide) (by rw [hc6]; decide) (by rw [hc6]; rfl) 125 rfl ?_
                refine ww_aload_n C dX8_about_125 0 rfl rfl ?_
                refine wk_getA C dX8_about_126 fl_X8_55 hS.1 rfl (tX8_now hS).1 ?_
                refine wk_getI C dX8_about_129 fl_X8_271 (tX8_now hS).2.1 rfl ?_
                cases H
                exact ww_iret C E dX8_about_132 ⟨rfl, rfl⟩
              · rw [if_neg hc6] at H
                by_cases hc7 : a1 = (7 : Int32)
                · rw [if_pos hc7] at H
                  refine ww_tableIn (off := 132) C dX8_about_1 (by rw [hc7]; decide) (by rw [hc7]; decide) (by rw [hc7]; rfl) 133 rfl ?_
                  refine ww_aload_n C dX8_about_133 0 rfl rfl ?_
                  refine wk_getA C dX8_about_134 fl_X8_29 hS.1 rfl (tX8_book hS).1 ?_
                  refine wk_getI C dX8_about_137 fl_X8_274 (tX8_book hS).2.1 rfl ?_
                  cases H
                  exact ww_iret C E dX8_about_140 ⟨rfl, rfl⟩
                · rw [if_neg hc7] at H
                  by_cases hc8 : a1 = (8 : Int32)
                  · rw [if_pos hc8] at H
                    refine ww_tableIn (off := 140) C dX8_about_1 (by rw [hc8]; decide) (by rw [hc8]; decide) (by rw [hc8]; rfl) 141 rfl ?_
                    refine ww_aload_n C dX8_about_141 0 rfl rfl ?_
                    refine wk_getA C dX8_about_142 fl_X8_29 hS.1 rfl (tX8_book hS).1 ?_
                    refine wk_getI C dX8_about_145 fl_X8_275 (tX8_book hS).2.1 rfl ?_
                    cases H
                    exact ww_iret C E dX8_about_148 ⟨rfl, rfl⟩
                  · rw [if_neg hc8] at H
                    by_cases hc9 : a1 = (9 : Int32)
                    · rw [if_pos hc9] at H
                      refine ww_tableIn (off := 148) C dX8_about_1 (by rw [hc9]; decide) (by rw [hc9]; decide) (by rw [hc9]; rfl) 149 rfl ?_
                      refine ww_aload_n C dX8_about_149 0 rfl rfl ?_
                      refine wk_getA C dX8_about_150 fl_X8_10 hS.1 rfl (tX8_tape hS).1 ?_
                      refine wk_getI C dX8_about_153 fl_X8_74 (tX8_tape hS).2.1 rfl ?_
                      cases H
                      exact ww_iret C E dX8_about_156 ⟨rfl, rfl⟩
                    · rw [if_neg hc9] at H
                      by_cases hc10 : a1 = (10 : Int32)
                      · rw [if_pos hc10] at H
                        refine ww_tableIn (off := 156) C dX8_about_1 (by rw [hc10]; decide) (by rw [hc10]; decide) (by rw [hc10]; rfl) 157 rfl ?_
                        refine ww_aload_n C dX8_about_157 0 rfl rfl ?_
                        refine wk_getA C dX8_about_158 fl_X8_36 hS.1 rfl (tX8_told hS).1 ?_
                        refine wk_getA C dX8_about_161 fl_X8_278 (tX8_told hS).2.1 rfl (tX1_rule (tX8_told hS).2).1 ?_
                        refine wk_getI C dX8_about_164 fl_X8_282 (tX1_rule (tX8_told hS).2).2.1 rfl ?_
                        cases H
                        exact ww_iret C E dX8_about_167 ⟨rfl, rfl⟩
                      · rw [if_neg hc10] at H
                        by_cases hc11 : a1 = (11 : Int32)
                        · rw [if_pos hc11] at H
                          refine ww_tableIn (off := 167) C dX8_about_1 (by rw [hc11]; decide) (by rw [hc11]; decide) (by rw [hc11]; rfl) 168 rfl ?_
                          refine ww_aload_n C dX8_about_168 0 rfl rfl ?_
                          refine wk_getA C dX8_about_169 fl_X8_55 hS.1 rfl (tX8_now hS).1 ?_
                          obtain ⟨p1, hc1, H⟩ := bd_of H
                          refine ww_callV C hZ dX8_about_172 cw_X8_229 (ccX6_seats (tX8_now hS).2 hc1) (tX8_now hS).2.1 ⟨by decide, rfl⟩ (by decide) rfl rfl (Nat.le_of_ble_eq_true rfl) ⟨Nat.zero_le _, Nat.zero_le _⟩ (fun v τ hp => ?_)
                          obtain ⟨rfl, rfl⟩ := hp
                          change WW X _ 175 [.ref o, .int a1] [.int p1.1] _
                          cases H
                          exact ww_iret C E dX8_about_175 ⟨rfl, rfl⟩
                        · rw [if_neg hc11] at H
                          by_cases hc12 : a1 = (12 : Int32)
                          · rw [if_pos hc12] at H
                            refine ww_tableIn (off := 175) C dX8_about_1 (by rw [hc12]; decide) (by rw [hc12]; decide) (by rw [hc12]; rfl) 176 rfl ?_
                            refine ww_aload_n C dX8_about_176 0 rfl rfl ?_
                            refine wk_getA C dX8_about_177 fl_X8_55 hS.1 rfl (tX8_now hS).1 ?_
                            refine wk_getI C dX8_about_180 fl_X8_287 (tX8_now hS).2.1 rfl ?_
                            cases H
                            exact ww_iret C E dX8_about_183 ⟨rfl, rfl⟩
                          · rw [if_neg hc12] at H
                            refine ww_tableOut C dX8_about_1 (by have q0 := lv_neT (k := (0 : Int32)) (a := 0) hc0 (by decide); have q1 := lv_neT (k := (1 : Int32)) (a := 1) hc1 (by decide); have q2 := lv_neT (k := (2 : Int32)) (a := 2) hc2 (by decide); have q3 := lv_neT (k := (3 : Int32)) (a := 3) hc3 (by decide); have q4 := lv_neT (k := (4 : Int32)) (a := 4) hc4 (by decide); have q5 := lv_neT (k := (5 : Int32)) (a := 5) hc5 (by decide); have q6 := lv_neT (k := (6 : Int32)) (a := 6) hc6 (by decide); have q7 := lv_neT (k := (7 : Int32)) (a := 7) hc7 (by decide); have q8 := lv_neT (k := (8 : Int32)) (a := 8) hc8 (by decide); have q9 := lv_neT (k := (9 : Int32)) (a := 9) hc9 (by decide); have q10 := lv_neT (k := (10 : Int32)) (a := 10) hc10 (by decide); have q11 := lv_neT (k := (11 : Int32)) (a := 11) hc11 (by decide); have q12 := lv_neT (k := (12 : Int32)) (a := 12) hc12 (by decide); omega) 184 rfl ?_
                            refine ww_iconst (v := (-1 : Int32)) C dX8_about_184 (by decide) ?_
                            cases H
                            exact ww_iret C E dX8_about_185 ⟨rfl, rfl⟩
