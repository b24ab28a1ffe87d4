/-! the end of a minute: the reference -/
theorem nI_mu (a b : Nat) : nI a * nI b = nI (a * b) := by
  apply Int32.toBitVec_inj.mp
  show BitVec.ofNat 32 a * BitVec.ofNat 32 b = BitVec.ofNat 32 (a * b)
  rw [BitVec.ofNat_mul]
theorem r_men {d : HD} {h : HI} (R : RH d h) : fX9_men 101 h = some (nI d.M, h) := by
  unfold fX9_men
  rw [show h.1 (101 + 11) 1 = nI d.M from R.M]
theorem r_on {d : HD} {h0 h : HI} {s : SD} (w : HDw d) (R : RO d h0 h s) (c : Int32) : fX9_on 101 h c = some (nI (onP d s c), h) := by
  have hM := w.M6
  rw [f_on (m := 101) c R.H.M hM]
  unfold onP
  rw [bs_cong (Q := fun m => decide (s.wh m = c)) (fun i hi => by rw [show h.1 (101 + 27) i = s.wh i from R.S.wh i (by omega)])]
theorem r_room {d : HD} {h0 h : HI} {s : SD} (w : HDw d) (R : RO d h0 h s) {c : Nat} (hc : c < d.C) : fX9_hasRoom 101 h (nI c) = some (b01 (roomP d s c), h) := by
  have hC := w.C6
  have hho := w.ho c hc
  have h6 := ct6_le (onP d s (nI c))
  unfold fX9_hasRoom
  simp (disch := omega) only [gB, nI_clamp, Nat.reduceAdd]
  rw [R.S.br c (by omega)]
  unfold roomP
  cases e : s.br c with
  | true =>
    rw [if_neg b01t, Bool.not_true, Bool.false_and, b01f]
  | false =>
    rw [if_pos b01f, r_on w R, Option.bind_some, f_ones6 _ (onP_lt w s _), Option.bind_some]
    simp only
    rw [R.H.ho c hc]
    by_cases q : pc6 (onP d s (nI c)) < d.ho c
    · rw [if_neg (nI_ge q (by omega)), Bool.not_false, Bool.true_and, decide_eq_true q, b01t1]
    · rw [if_pos (nI_le (by omega) (by omega)), Bool.not_false, Bool.true_and, decide_eq_false q, b01f]
theorem r_die {d : HD} {h0 h : HI} {s : SD} (hm : s.mi ≤ 10001) (w : HDw d) (v : SDv d s) (R : RO d h0 h s) (k : HI → Option (Int32 × HI)) : ∃ F h1, fX9_over_12 101 k FU h 0 = fX9_over_12 101 k (F + 1) h1 (nI d.X) ∧ RO d h0 h1 (itr (dieP d) d.X s) ∧ SDv d (itr (dieP d) d.X s) := by
  have hX := w.X4
  obtain ⟨F, ⟨h1, i⟩, ⟨hi, hR, hv⟩, hL⟩ := lpi (fun n (p : HI × Int32) => fX9_over_12 101 k n p.1 p.2) (fun j p => p.2 = nI j ∧ RO d h0 p.1 (itr (dieP d) j s) ∧ SDv d (itr (dieP d) j s)) d.X (by omega) (by
    rintro j ⟨h1, i⟩ hj ⟨hi, hR, hv⟩
    simp only at hi hR
    subst hi
    have hs : ∃ h2, RO d h0 h2 (itr (dieP d) (j + 1) s) ∧ ∀ n, fX9_over_12 101 k (n + 1) h1 (nI j) = fX9_over_12 101 k n h2 (nI (j + 1)) := by
      rw [itr]
      have hm1 : (itr (dieP d) j s).mi ≤ 10001 := by rw [itr_mi (dieP_mi d)]; exact hm
      generalize itr (dieP d) j s = s1 at hR hv hm1 ⊢
      have h3 := hv.ss j (by omega)
      have e0 : ∀ n, fX9_over_12 101 k (n + 1) h1 (nI j) = if (2 : Int32) ≤ nI (s1.ss j) then fX9_over_12 101 k n h1 (nI (j + 1)) else if nI (d.di j) = nI s1.mi then fX9_over_12 101 k n (uI h1 132 j 3) (nI (j + 1)) else fX9_over_12 101 k n h1 (nI (j + 1)) := by
        intro n
        rw [fX9_over_12]
        simp only [Nat.reduceAdd]
        rw [hR.H.X, if_neg (nI_ge hj (by omega))]
        simp (disch := omega) only [gB, nI_clamp, fX9_over_52, nI_1]
        rw [hR.S.ss j (by omega), hR.H.di j hj, hR.S.mi]
      unfold dieP
      by_cases c1 : s1.ss j < 2
      · have c1' : ¬ (2 : Int32) ≤ nI (s1.ss j) := nI_ge (b := 2) c1 (by decide)
        by_cases c2 : d.di j = s1.mi
        · rw [if_pos ⟨c1, c2⟩]
          refine ⟨_, hR.s_ss (m := j) (v := 3), fun n => ?_⟩
          rw [e0, if_neg c1', if_pos (congrArg nI c2)]; rfl
        · rw [if_neg (fun q => c2 q.2)]
          refine ⟨h1, hR, fun n => ?_⟩
          have := w.di j hj
          rw [e0, if_neg c1', if_neg (fun e => c2 ((nI_eq (by omega) (by omega)).mp e))]
      · rw [if_neg (fun q => c1 q.1)]
        refine ⟨h1, hR, fun n => ?_⟩
        rw [e0, if_pos (show (2 : Int32) ≤ nI (s1.ss j) from nI_le (a := 2) (by omega) (by omega))]
    obtain ⟨h2, hR2, hs2⟩ := hs
    exact ⟨(h2, nI (j + 1)), ⟨rfl, hR2, by rw [itr]; exact dieP_v hv⟩, hs2⟩) (s0 := (h, 0)) ⟨rfl, R, v⟩
  exact ⟨F, h1, by simp only at hi hL; rw [hL, hi], hR, hv⟩
theorem r_tire {d : HD} {h0 h : HI} {s : SD} (w : HDw d) (v : SDv d s) (R : RO d h0 h s) {m : Nat} (hm : m < d.M) : ∃ h1, fX9_tire 101 h (nI m) = some h1 ∧ RO d h0 h1 (tireP d m s) := by
  have hM := w.M6
  have hst := w.st m hm
  have hti := v.ti m hm
  have e35 : ∀ g : HI, fX9_tire_35 101 g (nI m) = if 0 ≤ g.1 128 m then (if (2 : Int32) ≤ g.1 129 m then some (uI (uI g 129 m (g.1 129 m - 2)) 130 m (g.1 130 m + 1)) else some (uI (uI g 129 m 0) 130 m (g.1 130 m + 1))) else some g := by
    intro g
    unfold fX9_tire_35 fX9_tire_72
    simp (disch := omega) only [gB, nI_clamp, Nat.reduceAdd]
  unfold fX9_tire tireP
  simp (disch := omega) only [gB, nI_clamp, Nat.reduceAdd, e35]
  rw [R.S.wh m (by omega), R.S.ti m (by omega), R.H.st m hm]
  by_cases c1 : s.wh m = -1
  · rw [if_pos c1, if_pos c1, nI_1]
    have c0 : ¬ (0 : Int32) ≤ s.wh m := by rw [c1]; decide
    by_cases c2 : s.ti m < d.st m
    · rw [if_pos c2, if_neg (nI_ge c2 (by omega)), uI_n (by omega), R.S.wh m (by omega), if_neg c0]
      exact ⟨_, rfl, R.s_ti⟩
    · rw [if_neg c2, if_pos (nI_le (by omega) (by omega)), if_neg c0]
      exact ⟨_, rfl, R⟩
  · rw [if_neg c1, if_neg c1]
    by_cases c2 : s.wh m < 0
    · rw [if_pos c2, if_neg (Int32.not_le.mpr c2)]
      exact ⟨_, rfl, R⟩
    · rw [if_neg c2, if_pos (Int32.not_lt.mp c2), R.S.sf m (by omega)]
      have R1 := (R.s_ti (m := m) (v := s.ti m - 2)).s_sf (m := m) (v := s.sf m + 1)
      by_cases c3 : 2 ≤ s.ti m
      · rw [if_pos (show (2 : Int32) ≤ nI (s.ti m) from nI_le (a := 2) c3 (by omega))]
        have e : nI (s.ti m) - (2 : Int32) = nI (s.ti m - 2) := by
          have h : ∀ t, t ≤ 30 → 2 ≤ t → nI t - (2 : Int32) = nI (t - 2) := by decide
          exact h _ (by omega) c3
        rw [e]
        exact ⟨_, rfl, R1⟩
      · rw [if_neg (show ¬ (2 : Int32) ≤ nI (s.ti m) from nI_ge (b := 2) (by omega) (by decide))]
        rw [show s.ti m - 2 = 0 by omega] at R1 ⊢
        exact ⟨_, rfl, R1⟩
theorem r_tires {d : HD} {h0 h : HI} {s : SD} (w : HDw d) (v : SDv d s) (R : RO d h0 h s) (k : HI → Option (Int32 × HI)) : ∃ F h1, fX9_over_60 101 k FU h 0 = fX9_over_60 101 k (F + 1) h1 (nI d.M) ∧ RO d h0 h1 (itr (tireP d) d.M s) ∧ SDv d (itr (tireP d) d.M s) := by
  have hM := w.M6
  obtain ⟨F, ⟨h1, i⟩, ⟨hi, hR, hv⟩, hL⟩ := lpi (fun n (p : HI × Int32) => fX9_over_60 101 k n p.1 p.2) (fun j p => p.2 = nI j ∧ RO d h0 p.1 (itr (tireP d) j s) ∧ SDv d (itr (tireP d) j s)) d.M (by omega) (by
    rintro j ⟨h1, i⟩ hj ⟨hi, hR, hv⟩
    simp only at hi hR
    subst hi
    obtain ⟨h2, e2, R2⟩ := r_tire w hv hR hj
    refine ⟨(h2, nI (j + 1)), ⟨rfl, R2, tireP_v hv⟩, fun n => ?_⟩
    show fX9_over_60 101 k (n + 1) h1 (nI j) = fX9_over_60 101 k n h2 (nI (j + 1))
    rw [fX9_over_60, r_men hR.H, Option.bind_some, if_neg (nI_ge hj (by omega)), e2, Option.bind_some, nI_1]) (s0 := (h, 0)) ⟨rfl, R, v⟩
  exact ⟨F, h1, by simp only at hi hL; rw [hL, hi], hR, hv⟩
theorem r_sink28 {d : HD} {h0 h : HI} {s : SD} (w : HDw d) (R : RO d h0 h s) {m : Nat} (hm : m < d.M) : ∀ (f i F : Nat), i + f = d.C → ∃ h1, fX9_sink_28 101 (fun h4 => some h4) (F + (f + 1)) h (nI m) (nI i) = some h1 ∧ RO d h0 h1 (match fnd (roomP d s) i f with
  | none => s
  | some c => ((s.w_wh (ud s.wh m (nI c))).w_sf (ud s.sf m 0)).w_sk (s.sk + 1)) := by
  have hC := w.C6
  have hM := w.M6
  intro f
  induction f with
  | zero =>
    intro i F hi
    refine ⟨h, ?_, R⟩
    rw [show F + (0 + 1) = F + 1 from rfl, fX9_sink_28, show h.1 (101 + 11) 0 = nI d.C from R.H.C, if_pos (nI_le (by omega) (by omega))]
  | succ f ih =>
    intro i F hi
    rw [show F + (f + 1 + 1) = (F + (f + 1)) + 1 from rfl, fX9_sink_28, show h.1 (101 + 11) 0 = nI d.C from R.H.C, if_neg (nI_ge (by omega) (by omega)), r_room w R (by omega), Option.bind_some, fnd]
    cases e : roomP d s i with
    | false =>
      rw [if_pos b01f, if_neg (by decide), nI_1]
      exact ih (i + 1) F (by omega)
    | true =>
      rw [if_neg b01t, if_pos rfl]
      simp (disch := omega) only [gB, nI_clamp, Nat.reduceAdd]
      refine ⟨_, rfl, ?_⟩
      rw [R.S.sk]
      exact ((R.s_wh (m := m) (v := nI i)).s_sf (m := m) (v := 0)).s_sk
theorem r_sink {d : HD} {h0 h : HI} {s : SD} (w : HDw d) (v : SDv d s) (R : RO d h0 h s) {m : Nat} (hm : m < d.M) : ∃ h1, fX9_sink 101 h (nI m) = some h1 ∧ RO d h0 h1 (sinkP d m s) := by
  have hM := w.M6
  have hC := w.C6
  have hst := w.st m hm
  have hti := v.ti m hm
  unfold fX9_sink sinkP
  simp (disch := omega) only [gB, nI_clamp, Nat.reduceAdd]
  rw [R.S.wh m (by omega), R.S.ti m (by omega), R.H.st m hm]
  by_cases c1 : s.wh m = -1
  · rw [if_pos c1]
    by_cases c2 : d.st m ≤ s.ti m
    · rw [if_pos (nI_le c2 (by omega)), if_pos ⟨c1, c2⟩]
      obtain ⟨F, hF⟩ := FU_ge (n := d.C) (by omega)
      rw [hF]
      exact r_sink28 w R hm d.C 0 F (by omega)
    · rw [if_neg (nI_ge (a := s.ti m) (b := d.st m) (by omega) (by omega)), if_neg (fun q => c2 q.2)]
      exact ⟨_, rfl, R⟩
  · rw [if_neg c1, if_neg (fun q => c1 q.1)]
    exact ⟨_, rfl, R⟩
theorem r_sinks {d : HD} {h0 h : HI} {s : SD} (w : HDw d) (v : SDv d s) (R : RO d h0 h s) (k : HI → Option (Int32 × HI)) : ∃ F h1, fX9_over_81 101 k FU h 0 = fX9_over_81 101 k (F + 1) h1 (nI d.M) ∧ RO d h0 h1 (itr (sinkP d) d.M s) ∧ SDv d (itr (sinkP d) d.M s) := by
  have hM := w.M6
  obtain ⟨F, ⟨h1, i⟩, ⟨hi, hR, hv⟩, hL⟩ := lpi (fun n (p : HI × Int32) => fX9_over_81 101 k n p.1 p.2) (fun j p => p.2 = nI j ∧ RO d h0 p.1 (itr (sinkP d) j s) ∧ SDv d (itr (sinkP d) j s)) d.M (by omega) (by
    rintro j ⟨h1, i⟩ hj ⟨hi, hR, hv⟩
    simp only at hi hR
    subst hi
    obtain ⟨h2, e2, R2⟩ := r_sink w hv hR hj
    refine ⟨(h2, nI (j + 1)), ⟨rfl, R2, sinkP_v hv⟩, fun n => ?_⟩
    show fX9_over_81 101 k (n + 1) h1 (nI j) = fX9_over_81 101 k n h2 (nI (j + 1))
    rw [fX9_over_81, r_men hR.H, Option.bind_some, if_neg (nI_ge hj (by omega)), e2, Option.bind_some, nI_1]) (s0 := (h, 0)) ⟨rfl, R, v⟩
  exact ⟨F, h1, by simp only at hi hL; rw [hL, hi], hR, hv⟩
set_option maxRecDepth 4000 in
theorem r_keep {d : HD} {h0 h : HI} {s : SD} (w : HDw d) (R : RO d h0 h s) (hm : s.mi ≤ 10001) (hk : s.mi = s.kn + 1) : ∃ h1, fX9_over_102 101 (fun h13 => some ((h13.1 101 57), h13)) FU h 0 = some (nI s.mi, h1) ∧ RO d h0 h1 (keepP s) := by
  have hC := w.C6
  by_cases c : s.mi ≤ 200
  · obtain ⟨F, ⟨h1, i⟩, ⟨hi, hR, hn⟩, hL⟩ := lpi (fun n (p : HI × Int32) => fX9_over_102 101 (fun h13 => some ((h13.1 101 57), h13)) n p.1 p.2) (fun j p => p.2 = nI j ∧ RO d h0 p.1 s ∧ ∀ c, c < j → p.1.1 137 (6 * s.mi + c) = nI (onP d s (nI c))) d.C (by omega) (by
      rintro j ⟨h1, i⟩ hj ⟨hi, hR, hn⟩
      simp only at hi hR hn
      subst hi
      have em : (6 : Int32) * nI s.mi + nI j = nI (6 * s.mi + j) := by
        rw [show (6 : Int32) = nI 6 from rfl, nI_mu, nI_add]
      refine ⟨(uI h1 137 (6 * s.mi + j) (nI (onP d s (nI j))), nI (j + 1)), ⟨rfl, hR.put (Fr.uI (by unfold Wr; omega)) ⟨fun i hi => (uI_n (by omega)).trans (hR.S.wh i hi), fun i hi => (uI_n (by omega)).trans (hR.S.ti i hi), fun i hi => (uI_n (by omega)).trans (hR.S.sf i hi), fun i hi => (uI_n (by omega)).trans (hR.S.sp i hi), fun i hi => (uI_n (by omega)).trans (hR.S.ss i hi), fun i hi => (uI_n (by omega)).trans (hR.S.ds i hi), fun i hi => (uI_n (by omega)).trans (hR.S.br i hi), fun i hi => (uI_n (by omega)).trans (hR.S.fo i hi), (uI_n (by omega)).trans hR.S.mi, (uI_n (by omega)).trans hR.S.vo, (uI_n (by omega)).trans hR.S.sk, fun i w hi h4 hw => (uI_n (by omega)).trans (hR.S.fa i w hi h4 hw), fun k c hk h2 hc => (uI_n (by omega)).trans (hR.S.sr k c hk h2 hc)⟩, fun c hc => ?_⟩, fun n => ?_⟩
      · show (uI h1 137 (6 * s.mi + j) (nI (onP d s (nI j)))).1 137 (6 * s.mi + c) = _
        by_cases q : c = j
        · rw [q, uI_s]
        · rw [uI_n (by omega)]; exact hn c (by omega)
      · show fX9_over_102 101 _ (n + 1) h1 (nI j) = fX9_over_102 101 _ n _ (nI (j + 1))
        rw [fX9_over_102]
        simp only [Nat.reduceAdd]
        rw [hR.H.C, if_neg (nI_ge hj (by omega)), hR.S.mi, if_neg (show ¬ (200 : Int32) < nI s.mi from nI_nlt (a := 200) c (by decide)), r_on w hR, Option.bind_some, em]
        simp (disch := omega) only [gB, nI_clamp, nI_1]) (s0 := (h, 0)) ⟨rfl, R, fun c hc => absurd hc (Nat.not_lt_zero c)⟩
    simp only at hi hL hR hn
    subst hi
    rw [hL, fX9_over_102]
    simp only [Nat.reduceAdd]
    rw [hR.H.C, if_pos (nI_le (Nat.le_refl _) (by omega)), hR.S.mi]
    refine ⟨h1, rfl, hR.put Fr.rf ⟨hR.S.wh, hR.S.ti, hR.S.sf, hR.S.sp, hR.S.ss, hR.S.ds, hR.S.br, hR.S.fo, hR.S.mi, hR.S.vo, hR.S.sk, hR.S.fa, fun k c hk1 hk2 hc => ?_⟩⟩
    have hk3 : k < s.mi := hk1
    show _ = nI (bs (fun m => decide (ud s.sr (s.mi - 1) s.wh k m = nI c)) d.M)
    by_cases q : k = s.mi - 1
    · rw [q, ud_s, show 6 * (s.mi - 1 + 1) + c = 6 * s.mi + c by omega]
      exact hn c hc
    · rw [ud_n q]
      exact hR.S.sr k c (by omega) hk2 hc
  · obtain ⟨F, hF⟩ := FU_ge (n := 0) (by omega)
    rw [hF, fX9_over_102]
    simp only [Nat.reduceAdd]
    rw [R.S.mi, if_pos (show (200 : Int32) < nI s.mi from nI_lt (a := 200) (by omega) (by omega)), ite_self]
    refine ⟨h, rfl, R.put Fr.rf ⟨R.S.wh, R.S.ti, R.S.sf, R.S.sp, R.S.ss, R.S.ds, R.S.br, R.S.fo, R.S.mi, R.S.vo, R.S.sk, R.S.fa, fun k c hk1 hk2 hc => ?_⟩⟩
    have hk3 : k < s.mi := hk1
    show _ = nI (bs (fun m => decide (ud s.sr (s.mi - 1) s.wh k m = nI c)) d.M)
    rw [ud_n (by omega)]
    exact R.S.sr k c (by omega) hk2 hc
theorem r_over {d : HD} {h0 h : HI} {s : SD} (w : HDw d) (v : SDw d s) (R : RO d h0 h s) : ∃ h1, fX9_over 101 h = some (nI (s.mi + 1), h1) ∧ RO d h0 h1 (overP d s) := by
  have hmi := v.mi
  unfold fX9_over
  rw [R.S.mi, nI_1]
  have R1 := R.s_mi (v := s.mi + 1)
  obtain ⟨F2, h2, e2, R2, v2⟩ := r_die (s := s.w_mi (s.mi + 1)) (by rw [w_mi_mi]; omega) w (mi_v v.v) R1 (fun h2 => fX9_over_60 101 (fun h6 => fX9_over_81 101 (fun h10 => fX9_over_102 101 (fun h13 => some ((h13.1 101 57), h13)) FU h10 (0 : Int32)) FU h6 (0 : Int32)) FU h2 (0 : Int32))
  rw [e2, fX9_over_12, show h2.1 (101 + 11) 2 = nI d.X from R2.H.X, if_pos (nI_le (Nat.le_refl _) (by have := w.X4; omega))]
  obtain ⟨F3, h3, e3, R3, v3⟩ := r_tires w v2 R2 (fun h6 => fX9_over_81 101 (fun h10 => fX9_over_102 101 (fun h13 => some ((h13.1 101 57), h13)) FU h10 (0 : Int32)) FU h6 (0 : Int32))
  rw [e3, fX9_over_60, r_men R3.H, Option.bind_some, if_pos (nI_le (Nat.le_refl _) (by have := w.M6; omega))]
  obtain ⟨F4, h4, e4, R4, v4⟩ := r_sinks w v3 R3 (fun h10 => fX9_over_102 101 (fun h13 => some ((h13.1 101 57), h13)) FU h10 (0 : Int32))
  rw [e4, fX9_over_81, r_men R4.H, Option.bind_some, if_pos (nI_le (Nat.le_refl _) (by have := w.M6; omega))]
  have em : (itr (sinkP d) d.M (itr (tireP d) d.M (itr (dieP d) d.X (s.w_mi (s.mi + 1))))).mi = s.mi + 1 := by rw [itr_mi (sinkP_mi d), itr_mi (tireP_mi d), itr_mi (dieP_mi d), w_mi_mi]
  have ek : (itr (sinkP d) d.M (itr (tireP d) d.M (itr (dieP d) d.X (s.w_mi (s.mi + 1))))).kn = s.mi := by rw [itr_kn (sinkP_kn d), itr_kn (tireP_kn d), itr_kn (dieP_kn d), w_mi_kn, v.kn]
  obtain ⟨h5, e5, R5⟩ := r_keep w R4 (by rw [em]; omega) (by rw [em, ek])
  rw [e5, em]
  exact ⟨h5, rfl, R5⟩
