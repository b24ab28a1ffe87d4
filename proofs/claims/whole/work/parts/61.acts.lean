/-! both sides hold one state; what an act does -/
theorem CS.keep {o : Nat} {d : HD} {h h2 : HI} {s : SD} {W : Nat → Nat → Prop} (R : CS o d h s) (F : Fr W h h2) (hd : ∀ a b, o ≤ a → a ≤ o + 8 → ¬ W a b) : CS o d h2 s := by
  have g : ∀ j b, j ≤ 8 → h2.1 (o + j) b = h.1 (o + j) b := fun j b p => F.1 _ b (hd _ b (by omega) (by omega))
  have g0 : ∀ b, h2.1 o b = h.1 o b := fun b => F.1 _ b (hd _ b (by omega) (by omega))
  have g2 : ∀ b, h2.2 (o + 8) b = h.2 (o + 8) b := fun b => F.2 _ b (hd _ b (by omega) (by omega))
  exact ⟨fun i hi => (g 1 i (by omega)).trans (R.wh i hi), fun i hi => (g 2 i (by omega)).trans (R.ti i hi), fun i hi => (g 3 i (by omega)).trans (R.sf i hi), fun i hi => (g 4 i (by omega)).trans (R.sp i hi), fun i hi => (g 5 i (by omega)).trans (R.ss i hi), fun i hi => (g 6 i (by omega)).trans (R.de i hi), (g0 _).trans R.br, (g0 _).trans R.fo, (g0 _).trans R.mi, (g0 _).trans R.vo, (g0 _).trans R.sk, fun i w hi h4 hw => (g 7 _ (by omega)).trans (R.fa i w hi h4 hw), fun k hk h2 => (g2 _).trans (R.sr k hk h2)⟩
theorem RS.keep {d : HD} {h h2 : HI} {s : SD} {W : Nat → Nat → Prop} (R : RS d h s) (F : Fr W h h2) (hd : ∀ a b, Wr a b → ¬ W a b) : RS d h2 s := by
  have g : ∀ a b, 128 ≤ a → a ≤ 137 → h2.1 a b = h.1 a b := fun a b p q => F.1 _ b (hd _ b (Or.inr ⟨p, q⟩))
  have g0 : ∀ b, 57 ≤ b → b ≤ 59 → h2.1 101 b = h.1 101 b := fun b p q => F.1 _ b (hd _ b (Or.inl ⟨rfl, p, q⟩))
  exact ⟨fun i hi => (g _ i (by omega) (by omega)).trans (R.wh i hi), fun i hi => (g _ i (by omega) (by omega)).trans (R.ti i hi), fun i hi => (g _ i (by omega) (by omega)).trans (R.sf i hi), fun i hi => (g _ i (by omega) (by omega)).trans (R.sp i hi), fun i hi => (g _ i (by omega) (by omega)).trans (R.ss i hi), fun i hi => (g _ i (by omega) (by omega)).trans (R.ds i hi), fun i hi => (g _ i (by omega) (by omega)).trans (R.br i hi), fun i hi => (g _ i (by omega) (by omega)).trans (R.fo i hi), (g0 _ (by omega) (by omega)).trans R.mi, (g0 _ (by omega) (by omega)).trans R.vo, (g0 _ (by omega) (by omega)).trans R.sk, fun i w hi h4 hw => (g _ _ (by omega) (by omega)).trans (R.fa i w hi h4 hw), fun k c hk h2 hc => (g _ _ (by omega) (by omega)).trans (R.sr k c hk h2 hc)⟩
/-- the state of both sides -/
def St (hh : Nat) (d : HD) (h : HI) (s : SD) : Prop := CO 56 hh d h h s ∧ RO d h h s
def Wa (hh a b : Nat) : Prop := Wc 56 a b ∨ Wr a b ∨ a = hh + 20 ∨ a = 108 ∨ a = 109
theorem St.r {hh : Nat} {d : HD} {h h1 : HI} {s : SD} (T : St hh d h s) (F : Fr (Wc 56) h h1) : RO d h1 h1 s := ⟨T.2.S.keep F (fun a b p q => by unfold Wr at p; unfold Wc at q; omega), T.2.H.keep F (fun a b p q => by unfold RHW at p; unfold Wc at q; omega), Fr.rf⟩
theorem St.go {hh : Nat} {d : HD} {h h1 h2 : HI} {s s2 : SD} (_ : St hh d h s) (C : CO 56 hh d h h1 s2) (R : RO d h1 h2 s2) : St hh d h2 s2 ∧ Fr (Wa hh) h h2 := by
  have hh36 := C.1
  refine ⟨⟨⟨hh36, C.S.keep R.F (fun a b p q w => by unfold Wr at w; omega), C.H.keep R.F (fun a b p q w => by unfold Wr at w; omega), Fr.rf⟩, ⟨R.S, R.H, Fr.rf⟩⟩, (C.F.mono fun a b w => Or.inl w).tr (R.F.mono fun a b w => Or.inr (Or.inl w))⟩
/-- how a call that changes the sitting alone ends -/
def Act (hh : Nat) (d : HD) (h : HI) (f : Option (Int32 × HI)) (g : HI → Option (Int32 × HI)) : Prop := ∃ (r : Int32) (h1 h2 : HI) (s2 : SD), f = some (r, h1) ∧ g h1 = some (r, h2) ∧ St hh d h2 s2 ∧ SDw d s2 ∧ Fr (Wa hh) h h2
theorem Act.no {hh : Nat} {d : HD} {h : HI} {s : SD} {f : Option (Int32 × HI)} {g : HI → Option (Int32 × HI)} (T : St hh d h s) (v : SDw d s) (r : Int32) (e1 : f = some (r, h)) (e2 : g h = some (r, h)) : Act hh d h f g := ⟨r, h, h, s, e1, e2, T, v, Fr.rf⟩
theorem Act.yes {hh : Nat} {d : HD} {h : HI} {s s2 : SD} {f : Option (Int32 × HI)} {g : HI → Option (Int32 × HI)} (T : St hh d h s) (v : SDw d s2) (r : Int32) (e1 : ∃ h1, f = some (r, h1) ∧ CO 56 hh d h h1 s2) (e2 : ∀ h1, RO d h1 h1 s → ∃ h2, g h1 = some (r, h2) ∧ RO d h1 h2 s2) : Act hh d h f g := by
  obtain ⟨h1, e1, C⟩ := e1
  obtain ⟨h2, e2, R⟩ := e2 h1 (T.r C.F)
  have q := T.go C R
  exact ⟨r, h1, h2, s2, e1, e2, q.1, v, q.2⟩
def seatP (s : SD) (m : Nat) (p : Int32) : SD := (s.w_wh (ud s.wh m p)).w_sf (ud s.sf m 0)
theorem seatP_w {d : HD} {s : SD} {m : Nat} {p : Int32} (w : HDw d) (v : SDw d s) (hp : p = -1 ∨ ∃ c, c < d.C ∧ p = nI c ∧ roomP d s c = true) : SDw d (seatP s m p) := ⟨seat_v v.v (hp.imp id fun ⟨c, a, b, _⟩ => ⟨c, a, b⟩), v.mi, v.kn, oc_seat w v.oc hp⟩
theorem seatP_mi (s : SD) (m : Nat) (p : Int32) : (seatP s m p).mi = s.mi := rfl
theorem c_time {o hh : Nat} {d : HD} {h0 h : HI} {s : SD} (v : SDw d s) (R : CO o hh d h0 h s) {n : Nat} (hn : n ≤ 200) : fX6_hasTime o h (nI n) = some (b01 (decide (s.mi + n ≤ 10000)), h) := by
  have hm := v.mi
  unfold fX6_hasTime
  rw [R.S.mi, nI_add]
  by_cases c : s.mi + n ≤ 10000
  · rw [if_neg (show ¬ (10000 : Int32) < nI (s.mi + n) from nI_nlt (a := 10000) c (by decide)), decide_eq_true c, b01t1]
  · rw [if_pos (show (10000 : Int32) < nI (s.mi + n) from nI_lt (a := 10000) (by omega) (by omega)), decide_eq_false c, b01f]
theorem r_long {d : HD} {h0 h : HI} {s : SD} (v : SDw d s) (R : RO d h0 h s) {n : Nat} (hn : n ≤ 200) : fX9_isLong 101 h (nI n) = some (b01 (!decide (s.mi + n ≤ 10000)), h) := by
  have hm := v.mi
  unfold fX9_isLong
  rw [R.S.mi, nI_add]
  by_cases c : s.mi + n ≤ 10000
  · rw [if_pos (show nI (s.mi + n) ≤ (10000 : Int32) from nI_le (b := 10000) c (by decide)), decide_eq_true c, Bool.not_true, b01f]
  · rw [if_neg (show ¬ nI (s.mi + n) ≤ (10000 : Int32) from nI_ge (a := 10000) (by omega) (by omega)), decide_eq_false c, Bool.not_false, b01t1]
theorem c_time1 {o hh : Nat} {d : HD} {h0 h : HI} {s : SD} (v : SDw d s) (R : CO o hh d h0 h s) : fX6_hasTime o h 1 = some (b01 (decide (s.mi + 1 ≤ 10000)), h) := c_time v R (n := 1) (by omega)
theorem r_long1 {d : HD} {h0 h : HI} {s : SD} (v : SDw d s) (R : RO d h0 h s) : fX9_isLong 101 h 1 = some (b01 (!decide (s.mi + 1 ≤ 10000)), h) := r_long v R (n := 1) (by omega)
theorem r_isMan1 {d : HD} {h : HI} (w : HDw d) (R : RH d h) {j : Nat} (hj : j < d.M) : fX9_isMan 101 h (nI j) = some (1, h) := by
  have := w.M6
  unfold fX9_isMan
  rw [if_neg (nI_pos (by omega)), show h.1 (101 + 11) 1 = nI d.M from R.M, if_neg (nI_ge hj (by omega))]
theorem r_isMan0 {d : HD} {h : HI} (R : RH d h) {a : Int32} (c : a < 0 ∨ ¬ a < 0 ∧ nI d.M ≤ a) : fX9_isMan 101 h a = some (0, h) := by
  unfold fX9_isMan
  rcases c with c | ⟨c, c2⟩
  · rw [if_pos c]
  · rw [if_neg c, show h.1 (101 + 11) 1 = nI d.M from R.M, if_pos c2]
theorem r_isChair1 {d : HD} {h : HI} (w : HDw d) (R : RH d h) {j : Nat} (hj : j < d.C) : fX9_isChair 101 h (nI j) = some (1, h) := by
  have := w.C6
  unfold fX9_isChair
  rw [if_neg (nI_pos (by omega)), show h.1 (101 + 11) 0 = nI d.C from R.C, if_neg (nI_ge hj (by omega))]
theorem r_isChair0 {d : HD} {h : HI} (R : RH d h) {a : Int32} (c : a < 0 ∨ ¬ a < 0 ∧ nI d.C ≤ a) : fX9_isChair 101 h a = some (0, h) := by
  unfold fX9_isChair
  rcases c with c | ⟨c, c2⟩
  · rw [if_pos c]
  · rw [if_neg c, show h.1 (101 + 11) 0 = nI d.C from R.C, if_pos c2]
theorem r_isMatter1 {d : HD} {h : HI} (w : HDw d) (R : RH d h) {j : Nat} (hj : j < d.X) : fX9_isMatter 101 h (nI j) = some (1, h) := by
  have := w.X4
  unfold fX9_isMatter
  rw [if_neg (nI_pos (by omega)), show h.1 (101 + 11) 2 = nI d.X from R.X, if_neg (nI_ge hj (by omega))]
theorem r_isMatter0 {d : HD} {h : HI} (R : RH d h) {a : Int32} (c : a < 0 ∨ ¬ a < 0 ∧ nI d.X ≤ a) : fX9_isMatter 101 h a = some (0, h) := by
  unfold fX9_isMatter
  rcases c with c | ⟨c, c2⟩
  · rw [if_pos c]
  · rw [if_neg c, show h.1 (101 + 11) 2 = nI d.X from R.X, if_pos c2]
theorem c_stands {o hh : Nat} {d : HD} {h0 h : HI} {s : SD} (w : HDw d) (R : CO o hh d h0 h s) {j : Nat} (hj : j < d.M) : fX6_stands o hh h (nI j) = some (b01 (decide (s.wh j = -1)), h) := by
  have := w.M6
  unfold fX6_stands
  rw [has1 R.H.M hj (by omega), Option.bind_some, if_neg ne10]
  simp (disch := omega) only [gB, nI_clamp]
  rw [R.S.wh j (by omega)]
  by_cases c : s.wh j = -1
  · rw [if_pos c, decide_eq_true c, b01t1]
  · rw [if_neg c, decide_eq_false c, b01f]
theorem c_stands0 {o hh : Nat} {d : HD} {h0 h : HI} {s : SD} (R : CO o hh d h0 h s) {a : Int32} (c : a < 0 ∨ ¬ a < 0 ∧ nI d.M ≤ a) : fX6_stands o hh h a = some (0, h) := by
  unfold fX6_stands
  rw [has0 R.H.M c, Option.bind_some, if_pos rfl]
theorem r_isUp {d : HD} {h0 h : HI} {s : SD} (w : HDw d) (R : RO d h0 h s) {j : Nat} (hj : j < d.M) : fX9_isUp 101 h (nI j) = some (b01 (decide (s.wh j = -1)), h) := by
  have := w.M6
  unfold fX9_isUp
  rw [r_isMan1 w R.H hj, Option.bind_some, if_neg ne10]
  simp (disch := omega) only [gB, nI_clamp, Nat.reduceAdd]
  rw [R.S.wh j (by omega)]
  by_cases c : s.wh j = -1
  · rw [if_pos c, decide_eq_true c, b01t1]
  · rw [if_neg c, decide_eq_false c, b01f]
theorem r_isUp0 {d : HD} {h0 h : HI} {s : SD} (R : RO d h0 h s) {a : Int32} (c : a < 0 ∨ ¬ a < 0 ∧ nI d.M ≤ a) : fX9_isUp 101 h a = some (0, h) := by
  unfold fX9_isUp
  rw [r_isMan0 R.H c, Option.bind_some, if_pos rfl]
theorem one_n1 : (1 : Int32) = nI 1 := rfl
theorem b01_0 {b : Bool} (h : b = false) : b01 b = 0 := by rw [h]; rfl
theorem b01_1 {b : Bool} (h : b = true) : ¬ b01 b = 0 := by rw [h]; decide
/-- rise -/
theorem op_rise {hh : Nat} {d : HD} {h : HI} {s : SD} (w : HDw d) (v : SDw d s) (T : St hh d h s) (a : Int32) : Act hh d h (fX8_rise 0 hh h a) (fun h1 => fX9_rise 101 h1 a) := by
  have hM := w.M6
  unfold fX8_rise fX6_standUp fX9_rise
  rcases rng a d.M (by omega) with ⟨j, hj, rfl⟩ | c
  · by_cases c1 : s.wh j < 0
    · refine Act.no T v (-1) ?_ ?_
      · rw [has1 T.1.H.M hj (by omega)]
        simp only [Option.bind_some]
        rw [if_neg ne10]
        simp (disch := omega) only [gB, nI_clamp, Nat.zero_add]
        rw [T.1.S.wh j (by omega), if_pos c1, Option.bind_some]
      · rw [r_isMan1 w T.2.H hj]
        simp only [Option.bind_some]
        rw [if_neg ne10]
        simp (disch := omega) only [gB, nI_clamp, Nat.reduceAdd]
        rw [T.2.S.wh j (by omega), if_pos c1]
    · by_cases c2 : s.mi + 1 ≤ 10000
      · refine Act.yes (s2 := overP d (seatP s j (-1))) T (overP_w w (seatP_w w v (Or.inl rfl)) c2) (nI (s.mi + 1)) ?_ fun h1 R => ?_
        · obtain ⟨h2, e2, R2⟩ := c_place w T.1 hj (-1)
          obtain ⟨h3, e3, R3⟩ := c_over w (seatP_w (m := j) w v (Or.inl rfl)) R2
          refine ⟨h3, ?_, R3⟩
          rw [has1 T.1.H.M hj (by omega)]
          simp only [Option.bind_some]
          rw [if_neg ne10]
          simp (disch := omega) only [gB, nI_clamp, Nat.zero_add]
          rw [T.1.S.wh j (by omega), if_neg c1, c_time1 v T.1, Option.bind_some, if_neg (b01_1 (decide_eq_true c2)), e2, Option.bind_some, e3, Option.bind_some, Option.bind_some, seatP_mi]
        · have R2 := (R.s_wh (m := j) (v := -1)).s_sf (m := j) (v := 0)
          obtain ⟨h3, e3, R3⟩ := r_over w (seatP_w (m := j) w v (Or.inl rfl)) R2
          refine ⟨h3, ?_, R3⟩
          rw [r_isMan1 w R.H hj]
          simp only [Option.bind_some]
          rw [if_neg ne10]
          simp (disch := omega) only [gB, nI_clamp, Nat.reduceAdd]
          rw [R.S.wh j (by omega), if_neg c1, r_long1 v R, Option.bind_some, if_pos (b01_0 (by rw [decide_eq_true c2]; rfl)), e3, Option.bind_some, seatP_mi]
      · refine Act.no T v (-1) ?_ ?_
        · rw [has1 T.1.H.M hj (by omega)]
          simp only [Option.bind_some]
          rw [if_neg ne10]
          simp (disch := omega) only [gB, nI_clamp, Nat.zero_add]
          rw [T.1.S.wh j (by omega), if_neg c1, c_time1 v T.1, Option.bind_some, if_pos (b01_0 (decide_eq_false c2)), Option.bind_some]
        · rw [r_isMan1 w T.2.H hj]
          simp only [Option.bind_some]
          rw [if_neg ne10]
          simp (disch := omega) only [gB, nI_clamp, Nat.reduceAdd]
          rw [T.2.S.wh j (by omega), if_neg c1, r_long1 v T.2, Option.bind_some, if_neg (b01_1 (by rw [decide_eq_false c2]; rfl))]
  · refine Act.no T v (-1) ?_ ?_
    · rw [has0 T.1.H.M c]
      simp only [Option.bind_some]
      rw [if_pos trivial, Option.bind_some]
    · rw [r_isMan0 T.2.H c]
      simp only [Option.bind_some]
      rw [if_pos trivial]
/-- enter -/
theorem c_door {o hh : Nat} {d : HD} {h0 h : HI} {s : SD} (w : HDw d) (R : CO o hh d h0 h s) {j : Nat} (hj : j < d.M) : fX6_isAtDoor o hh h (nI j) = some (b01 (decide (s.wh j = -2)), h) := by
  have := w.M6
  unfold fX6_isAtDoor
  rw [has1 R.H.M hj (by omega), Option.bind_some, if_neg ne10]
  simp (disch := omega) only [gB, nI_clamp]
  rw [R.S.wh j (by omega)]
  by_cases c : s.wh j = -2
  · rw [if_pos c, decide_eq_true c, b01t1]
  · rw [if_neg c, decide_eq_false c, b01f]
theorem c_door0 {o hh : Nat} {d : HD} {h0 h : HI} {s : SD} (R : CO o hh d h0 h s) {a : Int32} (c : a < 0 ∨ ¬ a < 0 ∧ nI d.M ≤ a) : fX6_isAtDoor o hh h a = some (0, h) := by
  unfold fX6_isAtDoor
  rw [has0 R.H.M c, Option.bind_some, if_pos rfl]
theorem op_enter {hh : Nat} {d : HD} {h : HI} {s : SD} (w : HDw d) (v : SDw d s) (T : St hh d h s) (a : Int32) : Act hh d h (fX8_enter 0 hh h a) (fun h1 => fX9_enter 101 h1 a) := by
  have hM := w.M6
  unfold fX8_enter fX6_comeIn fX9_enter
  rcases rng a d.M (by omega) with ⟨j, hj, rfl⟩ | c
  · have hr : ∀ h1, RO d h1 h1 s → (fX9_isMan 101 h1 (nI j)).bind (fun p1 => (if p1.1 = 0 then some ((-1 : Int32), p1.2) else (if inB (nI j) 6 then (if (p1.2.1 (101 + 27) ((nI j).toNatClampNeg)) = (-2 : Int32) then ((fX9_isLong 101 p1.2 (1 : Int32)).bind fun p2 => (if p2.1 = 0 then (if inB (nI j) 6 then ((fX9_over 101 (uI p2.2 (101 + 27) ((nI j).toNatClampNeg) (-1 : Int32))).bind fun p3 => some (p3.1, p3.2)) else none) else some ((-1 : Int32), p2.2))) else some ((-1 : Int32), p1.2)) else none))) = if s.wh j = -2 then (if b01 (!decide (s.mi + 1 ≤ 10000)) = 0 then ((fX9_over 101 (uI h1 128 j (-1 : Int32))).bind fun p3 => some (p3.1, p3.2)) else some (-1, h1)) else some (-1, h1) := by
      intro h1 R
      rw [r_isMan1 w R.H hj]
      simp only [Option.bind_some]
      rw [if_neg ne10]
      simp (disch := omega) only [gB, nI_clamp, Nat.reduceAdd]
      rw [R.S.wh j (by omega), r_long1 v R, Option.bind_some]
    rw [Nat.zero_add, c_door w T.1 hj, Option.bind_some]
    by_cases c1 : s.wh j = -2
    · rw [if_neg (b01_1 (decide_eq_true c1)), c_time1 v T.1, Option.bind_some]
      by_cases c2 : s.mi + 1 ≤ 10000
      · refine Act.yes (s2 := overP d (seatP s j (-1))) T (overP_w w (seatP_w w v (Or.inl rfl)) c2) (nI (s.mi + 1)) ?_ fun h1 R => ?_
        · obtain ⟨h2, e2, R2⟩ := c_place w T.1 hj (-1)
          obtain ⟨h3, e3, R3⟩ := c_over w (seatP_w (m := j) w v (Or.inl rfl)) R2
          refine ⟨h3, ?_, R3⟩
          rw [if_neg (b01_1 (decide_eq_true c2)), e2, Option.bind_some, e3, Option.bind_some, Option.bind_some, seatP_mi]
        · have R2 := R.s_wh (m := j) (v := -1)
          have e : ud s.sf j 0 = s.sf := by
            funext i
            unfold ud
            split
            · next e => rw [e]; exact (v.v.sf j hj (by rw [c1]; exact m2lt)).symm
            · rfl
          have e4 : s.w_wh (ud s.wh j (-1)) = seatP s j (-1) := by unfold seatP; rw [e]; rfl
          rw [e4] at R2
          obtain ⟨h3, e3, R3⟩ := r_over w (seatP_w (m := j) w v (Or.inl rfl)) R2
          refine ⟨h3, ?_, R3⟩
          rw [hr h1 R, if_pos c1, if_pos (b01_0 (by rw [decide_eq_true c2]; rfl)), e3, Option.bind_some, seatP_mi]
      · refine Act.no T v (-1) ?_ ?_
        · rw [if_pos (b01_0 (decide_eq_false c2)), Option.bind_some]
        · rw [hr h T.2, if_pos c1, if_neg (b01_1 (by rw [decide_eq_false c2]; rfl))]
    · refine Act.no T v (-1) ?_ ?_
      · rw [if_pos (b01_0 (decide_eq_false c1)), Option.bind_some]
      · rw [hr h T.2, if_neg c1]
  · refine Act.no T v (-1) ?_ ?_
    · rw [Nat.zero_add, c_door0 T.1 c, Option.bind_some, if_pos rfl, Option.bind_some]
    · rw [r_isMan0 T.2.H c]
      simp only [Option.bind_some]
      rw [if_pos trivial]
/-- sit -/
theorem c_room0 {o hh : Nat} {d : HD} {h0 h : HI} {s : SD} (R : CO o hh d h0 h s) {a : Int32} (c : a < 0 ∨ ¬ a < 0 ∧ nI d.C ≤ a) : fX6_hasPlace o hh h a = some (0, h) := by
  unfold fX6_hasPlace
  rw [has0 R.H.C c, Option.bind_some, if_pos rfl]
theorem op_sit {hh : Nat} {d : HD} {h : HI} {s : SD} (w : HDw d) (v : SDw d s) (T : St hh d h s) (a b : Int32) : Act hh d h (fX8_sit 0 hh h a b) (fun h1 => fX9_sit 101 h1 a b) := by
  have hM := w.M6
  have hC := w.C6
  unfold fX8_sit fX6_sitDown fX9_sit
  rw [Nat.zero_add]
  rcases rng a d.M (by omega) with ⟨j, hj, rfl⟩ | c
  · rw [c_stands w T.1 hj, Option.bind_some]
    by_cases c1 : s.wh j = -1
    · rw [if_neg (b01_1 (decide_eq_true c1))]
      rcases rng b d.C (by omega) with ⟨x, hx, rfl⟩ | c
      · rw [c_room w T.1 hx, Option.bind_some]
        cases c2 : roomP d s x with
        | false =>
          refine Act.no T v (-1) ?_ ?_
          · rw [if_pos b01f, Option.bind_some]
          · skip
            rw [r_isUp w T.2 hj, Option.bind_some, if_neg (b01_1 (decide_eq_true c1)), r_isChair1 w T.2.H hx, Option.bind_some, if_neg ne10, r_room w T.2 hx, Option.bind_some, c2, if_pos b01f]
        | true =>
          rw [if_neg b01t, c_time1 v T.1, Option.bind_some]
          by_cases c3 : s.mi + 1 ≤ 10000
          · refine Act.yes (s2 := overP d (seatP s j (nI x))) T (overP_w w (seatP_w w v (Or.inr ⟨x, hx, rfl, c2⟩)) c3) (nI (s.mi + 1)) ?_ fun h1 R => ?_
            · obtain ⟨h2, e2, R2⟩ := c_place w T.1 hj (nI x)
              obtain ⟨h3, e3, R3⟩ := c_over w (seatP_w (m := j) w v (Or.inr ⟨x, hx, rfl, c2⟩)) R2
              refine ⟨h3, ?_, R3⟩
              rw [if_neg (b01_1 (decide_eq_true c3)), e2, Option.bind_some, e3, Option.bind_some, Option.bind_some, seatP_mi]
            · have R2 := (R.s_wh (m := j) (v := nI x)).s_sf (m := j) (v := 0)
              obtain ⟨h3, e3, R3⟩ := r_over w (seatP_w (m := j) w v (Or.inr ⟨x, hx, rfl, c2⟩)) R2
              refine ⟨h3, ?_, R3⟩
              rw [r_isUp w R hj, Option.bind_some, if_neg (b01_1 (decide_eq_true c1)), r_isChair1 w R.H hx, Option.bind_some, if_neg ne10, r_room w R hx, Option.bind_some, c2, if_neg b01t, r_long1 v R, Option.bind_some, if_pos (b01_0 (by rw [decide_eq_true c3]; rfl))]
              simp (disch := omega) only [gB, nI_clamp, Nat.reduceAdd]
              rw [e3, Option.bind_some, seatP_mi]
          · refine Act.no T v (-1) ?_ ?_
            · rw [if_pos (b01_0 (decide_eq_false c3)), Option.bind_some]
            · skip
              rw [r_isUp w T.2 hj, Option.bind_some, if_neg (b01_1 (decide_eq_true c1)), r_isChair1 w T.2.H hx, Option.bind_some, if_neg ne10, r_room w T.2 hx, Option.bind_some, c2, if_neg b01t, r_long1 v T.2, Option.bind_some, if_neg (b01_1 (by rw [decide_eq_false c3]; rfl))]
      · refine Act.no T v (-1) ?_ ?_
        · rw [c_room0 T.1 c, Option.bind_some, if_pos rfl, Option.bind_some]
        · skip
          rw [r_isUp w T.2 hj, Option.bind_some, if_neg (b01_1 (decide_eq_true c1)), r_isChair0 T.2.H c, Option.bind_some, if_pos rfl]
    · refine Act.no T v (-1) ?_ ?_
      · rw [if_pos (b01_0 (decide_eq_false c1)), Option.bind_some]
      · skip
        rw [r_isUp w T.2 hj, Option.bind_some, if_pos (b01_0 (decide_eq_false c1))]
  · refine Act.no T v (-1) ?_ ?_
    · rw [c_stands0 T.1 c, Option.bind_some, if_pos rfl, Option.bind_some]
    · skip
      rw [r_isUp0 T.2 c, Option.bind_some, if_pos rfl]
/-- stay -/
def ovs (d : HD) : Nat → SD → SD
  | 0, s => s
  | n + 1, s => overP d (ovs d n s)
theorem ovs_mi (d : HD) (s : SD) : ∀ n, (ovs d n s).mi = s.mi + n
  | 0 => rfl
  | n + 1 => by rw [ovs, overP_mi, ovs_mi d s n]; omega
theorem ovs_w {d : HD} {s : SD} (w : HDw d) (v : SDw d s) : ∀ n, s.mi + n ≤ 10000 → SDw d (ovs d n s)
  | 0, _ => v
  | n + 1, h => overP_w w (ovs_w w v n (by omega)) (by rw [ovs_mi]; omega)
theorem op_stay {hh : Nat} {d : HD} {h : HI} {s : SD} (w : HDw d) (v : SDw d s) (T : St hh d h s) (a : Int32) : Act hh d h (fX8_stay 0 hh h a) (fun h1 => fX9_stay 101 h1 a) := by
  unfold fX8_stay fX6_idle fX9_stay
  rw [Nat.zero_add]
  rcases rng a 201 (by omega) with ⟨j, hj, rfl⟩ | c
  · have g1 : ¬ nI j < 0 := nI_pos (by omega)
    have g2 : ¬ (200 : Int32) < nI j := nI_nlt (a := 200) (b := j) (by omega) (by decide)
    rw [if_neg g1, if_neg g2, c_time v T.1 (by omega), Option.bind_some]
    by_cases c1 : s.mi + j ≤ 10000
    · refine Act.yes (s2 := ovs d j s) T (ovs_w w v j c1) (nI (s.mi + j)) ?_ fun h1 R => ?_
      · rw [if_neg (b01_1 (decide_eq_true c1))]
        obtain ⟨F, ⟨h2, i⟩, ⟨hi, R2⟩, hL⟩ := lpi (fun n (p : HI × Int32) => fX6_idle_23 56 hh (fun h4 => some ((h4.1 56 1), h4)) n p.1 (nI j) p.2) (fun k p => p.2 = nI k ∧ CO 56 hh d h p.1 (ovs d k s)) j (by omega) (by
          rintro k ⟨h2, i⟩ hk ⟨hi, R2⟩
          simp only at hi R2
          subst hi
          obtain ⟨h3, e3, R3⟩ := c_over w (ovs_w w v k (by omega)) R2
          refine ⟨(h3, nI (k + 1)), ⟨rfl, R3⟩, fun n => ?_⟩
          show fX6_idle_23 56 hh _ (n + 1) h2 (nI j) (nI k) = fX6_idle_23 56 hh _ n h3 (nI j) (nI (k + 1))
          rw [fX6_idle_23, if_neg (nI_ge hk (by omega)), e3, Option.bind_some, nI_1]) (s0 := (h, 0)) ⟨rfl, T.1⟩
        simp only at hi R2 hL
        subst hi
        refine ⟨h2, ?_, R2⟩
        rw [hL, fX6_idle_23, if_pos (nI_le (Nat.le_refl _) (by omega)), R2.S.mi, ovs_mi, Option.bind_some]
      · rw [if_neg g1, if_neg g2, r_long v R (by omega), Option.bind_some, if_pos (b01_0 (by rw [decide_eq_true c1]; rfl))]
        obtain ⟨F, ⟨h2, q, i⟩, ⟨hi, hq, R2⟩, hL⟩ := lpi (fun n (p : HI × Int32 × Int32) => fX9_stay_28 101 (fun h4 v2 => some (v2, h4)) n p.1 (nI j) p.2.1 p.2.2) (fun k p => p.2.2 = nI k ∧ p.2.1 = nI (s.mi + k) ∧ RO d h1 p.1 (ovs d k s)) j (by omega) (by
          rintro k ⟨h2, q, i⟩ hk ⟨hi, hq, R2⟩
          simp only at hi hq R2
          subst hi
          obtain ⟨h3, e3, R3⟩ := r_over w (ovs_w w v k (by omega)) R2
          refine ⟨(h3, nI (s.mi + (k + 1)), nI (k + 1)), ⟨rfl, rfl, R3⟩, fun n => ?_⟩
          show fX9_stay_28 101 _ (n + 1) h2 (nI j) q (nI k) = fX9_stay_28 101 _ n h3 (nI j) (nI (s.mi + (k + 1))) (nI (k + 1))
          rw [fX9_stay_28, if_neg (nI_ge hk (by omega)), e3, Option.bind_some, nI_1, ovs_mi, Nat.add_assoc]) (s0 := (h1, h1.1 101 57, 0)) ⟨rfl, R.S.mi, R⟩
        simp only at hi hq R2 hL
        subst hi
        refine ⟨h2, ?_, R2⟩
        simp only
        rw [hL, fX9_stay_28, if_pos (nI_le (Nat.le_refl _) (by omega)), hq]
    · refine Act.no T v (-1) ?_ ?_
      · rw [if_pos (b01_0 (decide_eq_false c1)), Option.bind_some]
      · skip
        rw [if_neg g1, if_neg g2, r_long v T.2 (by omega), Option.bind_some, if_neg (b01_1 (by rw [decide_eq_false c1]; rfl))]
  · refine Act.no T v (-1) ?_ ?_
    · rcases c with c | ⟨c, c2⟩
      · rw [if_pos c, Option.bind_some]
      · have c3 : (200 : Int32) < a := Int32.lt_of_lt_of_le (show (200 : Int32) < nI 201 by decide) c2
        rw [if_neg c, if_pos c3, Option.bind_some]
    · skip
      rcases c with c | ⟨c, c2⟩
      · rw [if_pos c]
      · have c3 : (200 : Int32) < a := Int32.lt_of_lt_of_le (show (200 : Int32) < nI 201 by decide) c2
        rw [if_neg c, if_pos c3]
