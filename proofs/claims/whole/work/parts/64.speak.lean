/-! crack, found, speak -/
theorem Act.yes2 {hh : Nat} {d : HD} {h : HI} {s s2 : SD} {f : Option (Int32 × HI)} {g : HI → Option (Int32 × HI)} (T : St hh d h s) (U : RU hh d h) (v : SDw d s2) (r : Int32) (e1 : ∃ hA h1, f = some (r, h1) ∧ Fr (fun a _ => a = hh + 20) h hA ∧ CO 56 hh d hA h1 s2) (e2 : ∀ h1, RO d h1 h1 s → RU hh d h1 → ∃ hB h2, g h1 = some (r, h2) ∧ Fr Wp h1 hB ∧ RO d hB h2 s2) : Act hh d h f g := by
  obtain ⟨hA, h1, e1, FA, C⟩ := e1
  have hh36 := C.1
  have F1 : Fr (fun a b => Wc 56 a b ∨ a = hh + 20) h h1 := (FA.mono fun a b w => Or.inr w).tr (C.F.mono fun a b w => Or.inl w)
  obtain ⟨hB, h2, e2, FB, R⟩ := e2 h1 ⟨T.2.S.keep F1 (fun a b p q => by unfold Wr at p; unfold Wc at q; omega), T.2.H.keep F1 (fun a b p q => by unfold RHW at p; unfold Wc at q; omega), Fr.rf⟩ (U.keep F1 (fun a b p q => by unfold Wc at q; omega))
  have F2 : Fr (fun a b => Wr a b ∨ Wp a b) h1 h2 := (FB.mono fun a b w => Or.inr w).tr (R.F.mono fun a b w => Or.inl w)
  refine ⟨r, h1, h2, s2, e1, e2, ⟨⟨hh36, C.S.keep F2 (fun a b p q w => by unfold Wr Wp at w; omega), C.H.keep F2 (fun a b p q w => by unfold Wr Wp at w; omega), Fr.rf⟩, ⟨R.S, R.H, Fr.rf⟩⟩, v, (F1.mono fun a b w => ?_).tr (F2.mono fun a b w => ?_)⟩
  · unfold Wa; rcases w with w | w
    · exact Or.inl w
    · exact Or.inr (Or.inr (Or.inl w))
  · unfold Wa; rcases w with w | w
    · exact Or.inr (Or.inl w)
    · unfold Wp at w; omega
def crkP (c : Nat) (m : Nat) (s : SD) : SD := if s.wh m = nI c then seatP s m (-1) else s
theorem crkP_v {d : HD} {c m : Nat} {s : SD} (v : SDv d s) : SDv d (crkP c m s) := by
  unfold crkP
  split
  · exact seat_v v (Or.inl rfl)
  · exact v
theorem crkP_wh (c : Nat) (s : SD) (m : Nat) : ∀ j, j ≤ m → (itr (crkP c) j s).wh m = s.wh m
  | 0, _ => rfl
  | j + 1, h => by
    rw [itr, ← crkP_wh c s m j (by omega)]
    unfold crkP
    split
    · exact ud_n (by omega)
    · rfl
theorem br_v {d : HD} {s : SD} {b : Nat → Bool} (v : SDv d s) : SDv d (s.w_br b) := ⟨v.wh, v.ti, v.sf, v.ss, v.de, v.dd, v.vo, v.fa, v.ds, v.sr⟩
theorem fo_v {d : HD} {s : SD} {b : Nat → Bool} (v : SDv d s) : SDv d (s.w_fo b) := ⟨v.wh, v.ti, v.sf, v.ss, v.de, v.dd, v.vo, v.fa, v.ds, v.sr⟩
theorem crkP_mi (c : Nat) (m : Nat) (s : SD) : (crkP c m s).mi = s.mi := by unfold crkP; split <;> rfl
theorem crkP_kn (c : Nat) (m : Nat) (s : SD) : (crkP c m s).kn = s.kn := by unfold crkP; split <;> rfl
theorem itr_br (c : Nat) (b : Nat → Bool) (s : SD) : ∀ j, itr (crkP c) j (s.w_br b) = (itr (crkP c) j s).w_br b
  | 0 => rfl
  | j + 1 => by
    rw [itr, itr, itr_br c b s j]
    generalize itr (crkP c) j s = s1
    unfold crkP
    show (if s1.wh j = nI c then seatP (s1.w_br b) j (-1) else s1.w_br b) = _
    split <;> rfl
theorem crkP_end (c : Nat) (s : SD) (m : Nat) : ∀ j, (itr (crkP c) j s).wh m = if m < j ∧ s.wh m = nI c then -1 else s.wh m
  | 0 => (if_neg (fun q => absurd q.1 (Nat.not_lt_zero m))).symm
  | j + 1 => by
    rw [itr]
    by_cases e : m = j
    · subst e
      have h0 := crkP_wh c s m m (Nat.le_refl m)
      by_cases q : s.wh m = nI c
      · rw [if_pos ⟨Nat.lt_succ_self m, q⟩]
        unfold crkP at h0 ⊢
        rw [h0, if_pos q]
        exact ud_s _ _ _
      · rw [if_neg (fun z => q z.2)]
        unfold crkP at h0 ⊢
        rw [h0, if_neg q]
        exact h0
    · have ih := crkP_end c s m j
      have e2 : (crkP c j (itr (crkP c) j s)).wh m = (itr (crkP c) j s).wh m := by
        generalize itr (crkP c) j s = s1
        unfold crkP
        split
        · exact ud_n e
        · rfl
      rw [e2, ih]
      by_cases q : s.wh m = nI c
      · by_cases z : m < j
        · rw [if_pos ⟨z, q⟩, if_pos ⟨by omega, q⟩]
        · rw [if_neg (fun y => z y.1), if_neg (fun y => by omega)]
      · rw [if_neg (fun y => q y.2), if_neg (fun y => q y.2)]
theorem crkP_br (c : Nat) (s : SD) : ∀ j, (itr (crkP c) j s).br = s.br
  | 0 => rfl
  | j + 1 => by
    rw [itr, ← crkP_br c s j]
    generalize itr (crkP c) j s = s1
    unfold crkP
    split <;> rfl
theorem crk_oc {d : HD} {s : SD} {c : Nat} {b : Bool} (w : HDw d) (hc : c < d.C) (h : Oc d s) : Oc d (itr (crkP c) d.M (s.w_br (ud s.br c b))) := by
  have hC := w.C6
  intro c2 hc2
  rw [crkP_br]
  show _ ≤ if ud s.br c b c2 = true then 0 else d.ho c2
  by_cases q : c2 = c
  · have : ct (fun m => decide ((itr (crkP c) d.M (s.w_br (ud s.br c b))).wh m = nI c2)) d.M = ct (fun _ => false) d.M := ct_cong fun i hi => by
      rw [crkP_end]
      show decide ((if i < d.M ∧ s.wh i = nI c then -1 else s.wh i) = nI c2) = false
      rw [q]
      by_cases z : s.wh i = nI c
      · rw [if_pos ⟨hi, z⟩]; exact decide_eq_false (nI_ne_m1 (by omega))
      · rw [if_neg (fun y => z y.2)]; exact decide_eq_false z
    rw [this]
    have z0 : ∀ n, ct (fun _ => false) n = 0 := by
      intro n
      induction n with
      | zero => rfl
      | succ n ih => rw [ct, ih]; rfl
    rw [z0]; exact Nat.zero_le _
  · rw [ud_n q]
    refine Nat.le_trans (ct_mono fun i hi hq => ?_) (h c2 hc2)
    have hq2 := of_decide_eq_true hq
    rw [crkP_end] at hq2
    have hq3 : (if i < d.M ∧ s.wh i = nI c then -1 else s.wh i) = nI c2 := hq2
    by_cases z : s.wh i = nI c
    · rw [if_pos ⟨hi, z⟩] at hq3; exact absurd hq3 (nI_ne_m1 (by omega))
    · rw [if_neg (fun y => z y.2)] at hq3; exact decide_eq_true hq3
theorem op_crack {hh : Nat} {d : HD} {h : HI} {s : SD} (w : HDw d) (v : SDw d s) (T : St hh d h s) (a : Int32) (b : Bool) : Act hh d h (fX8_crack 0 hh h a (b01 b)) (fun h1 => fX9_crack 101 h1 a (b01 b)) := by
  have hM := w.M6
  have hC := w.C6
  unfold fX8_crack fX6_setBroken fX9_crack
  rw [Nat.zero_add]
  rcases rng a d.C (by omega) with ⟨c, hc, rfl⟩ | c
  · have bb : b01 (s.br c) = b01 b ↔ s.br c = b := by cases s.br c <;> cases b <;> decide
    rw [has1 T.1.H.C hc (by omega), Option.bind_some, if_neg ne10, c_isBroken T.1 (by omega), Option.bind_some]
    by_cases q : s.br c = b
    · refine Act.no T v (-1) ?_ ?_
      · rw [if_pos (bb.mpr q), Option.bind_some]
      · rw [r_isChair1 w T.2.H hc, Option.bind_some, if_neg ne10]
        simp (disch := omega) only [gB, nI_clamp, Nat.reduceAdd]
        rw [T.2.S.br c (by omega), if_pos (bb.mpr q)]
    · rw [if_neg (fun e => q (bb.mp e))]
      have qb : b = !s.br c := by cases b <;> cases e : s.br c <;> simp_all
      have sv : SDw d (itr (crkP c) d.M (s.w_br (ud s.br c b))) := ⟨itr_v (br_v v.v) (fun j s _ => crkP_v), by rw [itr_mi (crkP_mi c)]; exact v.mi, by rw [itr_mi (crkP_mi c), itr_kn (crkP_kn c)]; exact v.kn, crk_oc w hc v.oc⟩
      refine Act.yes (s2 := itr (crkP c) d.M (s.w_br (ud s.br c b))) T sv (nI (ct (fun m => decide (s.wh m = nI c)) d.M)) ?_ fun h1 R => ?_
      · have e0 : (nI (bs s.br 6)) ^^^ ((1 : Int32) <<< (nI c &&& 31)) = nI (bs (ud s.br c b) 6) := by
          rw [one_shl (by omega), bs_flip _ (by omega)]
          congr 1
          refine bs_cong fun i hi => ?_
          unfold ud
          by_cases e : i = c
          · rw [if_pos e, if_pos e, qb, e]
          · rw [if_neg e, if_neg e]
        rw [T.1.S.br, e0]
        obtain ⟨F, ⟨h2, n, i⟩, ⟨hi, hn, R2⟩, hL⟩ := lpi (fun n (p : HI × Int32 × Int32) => fX6_setBroken_42 56 hh (fun h5 v3 => some (v3, h5)) n p.1 (nI c) p.2.1 p.2.2) (fun j p => p.2.2 = nI j ∧ p.2.1 = nI (ct (fun m => decide (s.wh m = nI c)) j) ∧ CO 56 hh d h p.1 (itr (crkP c) j (s.w_br (ud s.br c b)))) d.M (by omega) (by
          rintro j ⟨h2, n, i⟩ hj ⟨hi, hn, R2⟩
          simp only at hi hn R2
          subst hi hn
          have ew : (itr (crkP c) j (s.w_br (ud s.br c b))).wh j = s.wh j := crkP_wh c (s.w_br (ud s.br c b)) j j (Nat.le_refl j)
          have e1 : ∀ n, fX6_setBroken_42 56 hh (fun h5 v3 => some (v3, h5)) (n + 1) h2 (nI c) (nI (ct (fun m => decide (s.wh m = nI c)) j)) (nI j) = if s.wh j = nI c then ((fX6_place 56 h2 (nI j) (-1 : Int32)).bind fun h3 => fX6_setBroken_42 56 hh (fun h5 v3 => some (v3, h5)) n h3 (nI c) (nI (ct (fun m => decide (s.wh m = nI c)) j + 1)) (nI (j + 1))) else fX6_setBroken_42 56 hh (fun h5 v3 => some (v3, h5)) n h2 (nI c) (nI (ct (fun m => decide (s.wh m = nI c)) j)) (nI (j + 1)) := by
            intro n
            rw [fX6_setBroken_42, R2.H.M, if_neg (nI_ge hj (by omega))]
            unfold fX6_setBroken_78
            simp (disch := omega) only [gB, nI_clamp, nI_1]
            rw [R2.S.wh j (by omega), ew]
          by_cases q2 : s.wh j = nI c
          · obtain ⟨h3, e3, R3⟩ := c_place w R2 hj (-1)
            refine ⟨(h3, nI (ct (fun m => decide (s.wh m = nI c)) (j + 1)), nI (j + 1)), ⟨rfl, rfl, ?_⟩, fun n => ?_⟩
            · rw [itr]
              unfold crkP at R3 ew ⊢
              rw [ew, if_pos q2]
              exact R3
            · show fX6_setBroken_42 56 hh _ (n + 1) h2 (nI c) _ (nI j) = fX6_setBroken_42 56 hh _ n h3 (nI c) _ (nI (j + 1))
              rw [e1, if_pos q2, e3, Option.bind_some, ct, decide_eq_true q2, if_pos rfl]
          · refine ⟨(h2, nI (ct (fun m => decide (s.wh m = nI c)) (j + 1)), nI (j + 1)), ⟨rfl, rfl, ?_⟩, fun n => ?_⟩
            · rw [itr]
              unfold crkP at R2 ew ⊢
              rw [ew, if_neg q2]
              exact R2
            · show fX6_setBroken_42 56 hh _ (n + 1) h2 (nI c) _ (nI j) = fX6_setBroken_42 56 hh _ n h2 (nI c) _ (nI (j + 1))
              rw [e1, if_neg q2, ct, decide_eq_false q2]; rfl) (s0 := (uI h 56 4 (nI (bs (ud s.br c b) 6)), 0, 0)) ⟨rfl, rfl, T.1.s_br⟩
        simp only at hi hn hL R2
        subst hi
        refine ⟨h2, ?_, R2⟩
        rw [hL, fX6_setBroken_42, R2.H.M, if_pos (nI_le (Nat.le_refl _) (by omega)), hn, Option.bind_some]
      · rw [r_isChair1 w R.H hc, Option.bind_some, if_neg ne10]
        simp (disch := omega) only [gB, nI_clamp, Nat.reduceAdd]
        rw [R.S.br c (by omega), if_neg (fun e => q (bb.mp e)), r_on w R, Option.bind_some]
        obtain ⟨F, ⟨h2, i⟩, ⟨hi, R2⟩, hL⟩ := lpi (fun n (p : HI × Int32) => fX9_crack_29 101 (fun h5 v1 v2 v3 => (if inB v1 6 then ((fX9_ones (uI h5 134 (v1.toNatClampNeg) (vp_nar .boolean v2)) v3).bind fun p6 => some (p6.1, p6.2)) else none)) n p.1 (nI c) (b01 b) (nI (onP d s (nI c))) p.2) (fun j p => p.2 = nI j ∧ RO d h1 p.1 (itr (crkP c) j s)) d.M (by omega) (by
          rintro j ⟨h2, i⟩ hj ⟨hi, R2⟩
          simp only at hi R2
          subst hi
          have ew : (itr (crkP c) j s).wh j = s.wh j := crkP_wh c s j j (Nat.le_refl j)
          have e1 : ∀ n, fX9_crack_29 101 (fun h5 v1 v2 v3 => (if inB v1 6 then ((fX9_ones (uI h5 134 (v1.toNatClampNeg) (vp_nar .boolean v2)) v3).bind fun p6 => some (p6.1, p6.2)) else none)) (n + 1) h2 (nI c) (b01 b) (nI (onP d s (nI c))) (nI j) = if s.wh j = nI c then fX9_crack_29 101 (fun h5 v1 v2 v3 => (if inB v1 6 then ((fX9_ones (uI h5 134 (v1.toNatClampNeg) (vp_nar .boolean v2)) v3).bind fun p6 => some (p6.1, p6.2)) else none)) n (uI (uI h2 128 j (-1)) 130 j 0) (nI c) (b01 b) (nI (onP d s (nI c))) (nI (j + 1)) else fX9_crack_29 101 (fun h5 v1 v2 v3 => (if inB v1 6 then ((fX9_ones (uI h5 134 (v1.toNatClampNeg) (vp_nar .boolean v2)) v3).bind fun p6 => some (p6.1, p6.2)) else none)) n h2 (nI c) (b01 b) (nI (onP d s (nI c))) (nI (j + 1)) := by
            intro n
            rw [fX9_crack_29, r_men R2.H, Option.bind_some, if_neg (nI_ge hj (by omega))]
            unfold fX9_crack_66
            simp (disch := omega) only [gB, nI_clamp, nI_1, Nat.reduceAdd]
            unfold onP
            rw [tst _ (by omega) hj]
            by_cases q2 : s.wh j = nI c
            · rw [decide_eq_true q2, if_neg b01t, if_pos q2]
            · rw [decide_eq_false q2, if_pos b01f, if_neg q2]
          by_cases q2 : s.wh j = nI c
          · refine ⟨(uI (uI h2 128 j (-1)) 130 j 0, nI (j + 1)), ⟨rfl, ?_⟩, fun n => ?_⟩
            · have R3 := (R2.s_wh (m := j) (v := -1)).s_sf (m := j) (v := 0)
              rw [itr]
              unfold crkP at R3 ew ⊢
              rw [ew, if_pos q2]
              exact R3
            · show fX9_crack_29 101 _ (n + 1) h2 (nI c) (b01 b) _ (nI j) = _
              rw [e1, if_pos q2]
          · refine ⟨(h2, nI (j + 1)), ⟨rfl, ?_⟩, fun n => ?_⟩
            · rw [itr]
              unfold crkP at R2 ew ⊢
              rw [ew, if_neg q2]
              exact R2
            · show fX9_crack_29 101 _ (n + 1) h2 (nI c) (b01 b) _ (nI j) = _
              rw [e1, if_neg q2]) (s0 := (h1, 0)) ⟨rfl, R⟩
        simp only at hi hL R2
        subst hi
        have R3 := R2.s_br (m := c) (v := b)
        rw [show ud (itr (crkP c) d.M s).br c b = ud s.br c b from by
          have : ∀ j, (itr (crkP c) j s).br = s.br := by
            intro j
            induction j with
            | zero => rfl
            | succ j ih =>
              rw [itr, ← ih]
              unfold crkP
              split <;> rfl
          rw [this], ← itr_br] at R3
        refine ⟨_, ?_, R3⟩
        rw [hL, fX9_crack_29, r_men R2.H, Option.bind_some, if_pos (nI_le (Nat.le_refl _) (by omega))]
        simp (disch := omega) only [gB, nI_clamp]
        rw [show vp_nar .boolean (b01 b) = b01 b by cases b <;> rfl, f_ones6 _ (onP_lt w s _), Option.bind_some]
        unfold onP
        rw [pc6_bs _ hM]
  · refine Act.no T v (-1) ?_ ?_
    · rw [has0 T.1.H.C c, Option.bind_some, if_pos rfl, Option.bind_some]
    · rw [r_isChair0 T.2.H c, Option.bind_some, if_pos rfl]
theorem op_found {hh : Nat} {d : HD} {h : HI} {s : SD} (w : HDw d) (v : SDw d s) (T : St hh d h s) (a : Int32) : Act hh d h (fX8_found 0 hh h a) (fun h1 => fX9_found 101 h1 a) := by
  have hC := w.C6
  unfold fX8_found fX6_findStool fX1_isStool fX9_found
  rw [Nat.zero_add]
  rcases rng a d.C (by omega) with ⟨c, hc, rfl⟩ | c
  · rw [has1 T.1.H.C hc (by omega), Option.bind_some, if_neg ne10, T.1.H.sl, tst _ (by omega) hc]
    have hr : ∀ h1, RO d h1 h1 s → (fX9_isChair 101 h1 (nI c)).bind (fun p1 => (if p1.1 = 0 then some ((0 : Int32), p1.2) else (if inB (nI c) 6 then (if (p1.2.1 (101 + 25) ((nI c).toNatClampNeg)) = 0 then some ((0 : Int32), p1.2) else (if inB (nI c) 6 then (if (p1.2.1 (101 + 34) ((nI c).toNatClampNeg)) = 0 then (if inB (nI c) 6 then some ((1 : Int32), (uI p1.2 (101 + 34) ((nI c).toNatClampNeg) (1 : Int32))) else none) else some ((0 : Int32), p1.2)) else none)) else none))) = if b01 (d.sl c) = 0 then some (0, h1) else if b01 (s.fo c) = 0 then some (1, uI h1 135 c 1) else some (0, h1) := by
      intro h1 R
      rw [r_isChair1 w R.H hc, Option.bind_some, if_neg ne10]
      simp (disch := omega) only [gB, nI_clamp, Nat.reduceAdd]
      rw [R.H.sl c hc, R.S.fo c (by omega)]
    cases q : d.sl c with
    | false =>
      refine Act.no T v 0 ?_ ?_
      · rw [if_pos b01f, Option.bind_some, if_pos rfl, Option.bind_some, if_pos (Or.inl rfl)]
      · rw [hr h T.2, q, if_pos b01f]
    | true =>
      rw [if_neg b01t, Option.bind_some, if_neg ne10, c_isFound T.1 (by omega), Option.bind_some]
      cases q2 : s.fo c with
      | true =>
        refine Act.no T v 0 ?_ ?_
        · rw [if_neg b01t, Option.bind_some, if_pos (Or.inl rfl)]
        · rw [hr h T.2, q, q2, if_neg b01t, if_neg b01t]
      | false =>
        refine Act.yes (s2 := s.w_fo (ud s.fo c true)) T ⟨fo_v v.v, v.mi, v.kn, oc_of v.oc rfl rfl⟩ 1 ?_ fun h1 R => ?_
        · have e0 : (nI (bs s.fo 6)) ||| ((1 : Int32) <<< (nI c &&& 31)) = nI (bs (ud s.fo c true) 6) := by
            rw [one_shl (by omega), bs_one _ (by omega)]
            congr 1
            refine bs_cong fun i hi => ?_
            unfold ud
            by_cases e : i = c
            · rw [if_pos e, decide_eq_true e, Bool.true_or]
            · rw [if_neg e, decide_eq_false e, Bool.false_or]
          refine ⟨_, ?_, T.1.s_fo (v := ud s.fo c true)⟩
          rw [if_pos b01f, Option.bind_some, if_pos (Or.inr rfl), T.1.S.fo, e0]
        · refine ⟨_, ?_, R.s_fo (m := c) (v := true)⟩
          rw [hr h1 R, q, q2, if_neg b01t, if_pos b01f]; rfl
  · refine Act.no T v 0 ?_ ?_
    · rw [has0 T.1.H.C c, Option.bind_some, if_pos rfl, Option.bind_some, if_pos rfl, Option.bind_some, if_pos (Or.inl rfl)]
    · rw [r_isChair0 T.2.H c, Option.bind_some, if_pos rfl]
/-! speak -/
def sayP (s : SD) (m x : Nat) : SD := (s.w_ss (ud s.ss x 1)).w_sp (ud s.sp m (s.sp m ||| ((1 : Int32) <<< (nI x &&& 31))))
def dueF (d : HD) (sp : Nat → Int32) (i : Nat) : Bool := decide (¬ ((sp (d.om i) >>> (nI (d.ox i) &&& 31)) &&& 1) = 0)
theorem due_F (d : HD) (s : SD) : due d s = dueF d s.sp := rfl
def layP (d : HD) (s : SD) (j : Nat) : SD := s.w_ds (fun i => if i < j ∧ s.ds i = 0 ∧ dueF d s.sp i = true then 1 else s.ds i)
def spk (s : SD) (m x : Nat) : Nat → Int32 := ud s.sp m (s.sp m ||| ((1 : Int32) <<< (nI x &&& 31)))
theorem due_mono {d : HD} (w : HDw d) {s : SD} {m x i : Nat} (hi : i < d.D) (h : due d s i = true) : dueF d (spk s m x) i = true := by
  have hX := w.X4
  have hdl := w.dl i hi
  have h1 := of_decide_eq_true h
  refine decide_eq_true ?_
  unfold spk ud
  split
  · next e =>
    rw [e, shb _ (by omega), b01_eq0, Bool.not_eq_false] at h1
    rw [shb _ (by omega), b01_eq0, Int32.toBitVec_or, BitVec.getLsbD_or, h1, Bool.true_or]
    decide
  · exact h1
theorem say_mk {d : HD} {s : SD} {ss : Nat → Nat} {sp ds : Nat → Int32} (v : SDv d s) (h1 : ∀ x, x < 4 → ss x ≤ 3) (h2 : ∀ i, i < d.D → s.de i ≠ 0 → 2 ≤ ss (d.dx i)) (h3 : s.vo ≤ ct (fun x => decide (2 ≤ ss x)) d.X) (h4 : ∀ i, i < d.D → ds i = if s.de i = 0 then b01 (dueF d sp i) else nI (s.de i)) : SDv d (((s.w_ss ss).w_sp sp).w_ds ds) := ⟨v.wh, v.ti, v.sf, h1, v.de, h2, h3, v.fa, h4, v.sr⟩
def lays (d : HD) (s : SD) (m x : Nat) (i : Nat) : Int32 := if i < d.D ∧ s.ds i = 0 ∧ dueF d (spk s m x) i = true then 1 else s.ds i
theorem lay_say (d : HD) (s : SD) (m x : Nat) : layP d (sayP s m x) d.D = ((s.w_ss (ud s.ss x 1)).w_sp (spk s m x)).w_ds (lays d s m x) := rfl
theorem say_v {d : HD} (w : HDw d) {s : SD} {m x : Nat} (hx : x < d.X) (c : s.ss x < 2) (v : SDv d s) : SDv d (layP d (sayP s m x) d.D) := by
  have hD := w.D4
  rw [lay_say]
  refine say_mk v (fun y hy => ?_) (fun i hi he => ?_) (Nat.le_trans v.vo (ct_mono fun y _ hy => ?_)) fun i hi => ?_
  · unfold ud; split
    · omega
    · exact v.ss y hy
  · have := v.dd i hi he
    rw [ud_n (fun e => by rw [e] at this; omega)]
    exact this
  · have := of_decide_eq_true hy
    rw [ud_n (fun e => by rw [e] at this; omega)]
    exact hy
  · unfold lays
    have e := v.ds i hi
    have hd := v.de i (by omega)
    by_cases q : s.de i = 0
    · rw [if_pos q] at e ⊢
      cases b : due d s i with
      | true =>
        rw [b] at e
        rw [due_mono w hi b, e, if_neg (fun z => absurd z.2.1 (by decide))]
      | false =>
        rw [b] at e
        cases b2 : dueF d (spk s m x) i with
        | true => rw [if_pos ⟨hi, e, rfl⟩]; rfl
        | false => rw [if_neg (fun z => absurd z.2.2 (by decide)), e]
    · rw [if_neg q] at e ⊢
      rw [if_neg (fun z => by rw [e] at z; exact nI_ne0 (by omega) (by omega) z.2.1)]
      exact e
theorem r_lay {d : HD} {h0 h : HI} {s : SD} (w : HDw d) (R : RO d h0 h s) : ∃ h1, fX9_layDue 101 h = some h1 ∧ RO d h0 h1 (layP d s d.D) := by
  have hD := w.D4
  unfold fX9_layDue
  obtain ⟨F, ⟨h2, i⟩, ⟨hi, R2⟩, hL⟩ := lpi (fun n (p : HI × Int32) => fX9_layDue_2 101 (fun h3 => some h3) n p.1 p.2) (fun j p => p.2 = nI j ∧ RO d h0 p.1 (layP d s j)) d.D (by omega) (by
    rintro j ⟨h2, i⟩ hj ⟨hi, R2⟩
    simp only at hi R2
    subst hi
    have ej : (layP d s j).ds j = s.ds j := if_neg (fun z => absurd z.1 (Nat.lt_irrefl j))
    have ed : due d (layP d s j) = dueF d s.sp := rfl
    have e1 : ∀ n, fX9_layDue_2 101 (fun h3 => some h3) (n + 1) h2 (nI j) = if s.ds j = 0 then (if b01 (dueF d s.sp j) = 1 then fX9_layDue_2 101 (fun h3 => some h3) n (uI h2 133 j 1) (nI (j + 1)) else fX9_layDue_2 101 (fun h3 => some h3) n h2 (nI (j + 1))) else fX9_layDue_2 101 (fun h3 => some h3) n h2 (nI (j + 1)) := by
      intro n
      rw [fX9_layDue_2, R2.H.D, if_neg (nI_ge hj (by omega))]
      unfold fX9_layDue_38
      rw [r_due w R2, Option.bind_some, tst _ (by omega) hj, ed]
      simp (disch := omega) only [gB, nI_clamp, nI_1, Nat.reduceAdd]
      rw [R2.S.ds j (by omega), ej]
    by_cases q : s.ds j = 0
    · cases b : dueF d s.sp j with
      | true =>
        refine ⟨(uI h2 133 j 1, nI (j + 1)), ⟨rfl, ?_⟩, fun n => ?_⟩
        · have R3 := R2.s_ds (m := j) (v := 1)
          have e : (layP d s j).w_ds (ud (layP d s j).ds j 1) = layP d s (j + 1) := by
            show s.w_ds (ud (layP d s j).ds j 1) = s.w_ds _
            refine congrArg s.w_ds (funext fun i => ?_)
            unfold ud
            by_cases z : i = j
            · rw [if_pos z, z, if_pos ⟨Nat.lt_succ_self j, q, b⟩]
            · rw [if_neg z]
              show (if i < j ∧ _ then _ else _) = _
              by_cases y : i < j
              · by_cases x : s.ds i = 0 ∧ dueF d s.sp i = true
                · rw [if_pos ⟨y, x⟩, if_pos ⟨by omega, x⟩]
                · rw [if_neg (fun u => x u.2), if_neg (fun u => x u.2)]
              · rw [if_neg (fun u => y u.1), if_neg (fun u => by omega)]
          rw [e] at R3
          exact R3
        · show fX9_layDue_2 101 _ (n + 1) h2 (nI j) = _
          rw [e1, if_pos q, b, if_pos b01t1]
      | false =>
        refine ⟨(h2, nI (j + 1)), ⟨rfl, ?_⟩, fun n => ?_⟩
        · have e : layP d s j = layP d s (j + 1) := by
            refine congrArg s.w_ds (funext fun i => ?_)
            by_cases x : s.ds i = 0 ∧ dueF d s.sp i = true
            · by_cases y : i < j
              · rw [if_pos ⟨y, x⟩, if_pos ⟨by omega, x⟩]
              · rw [if_neg (fun u => y u.1), if_neg (fun u => by
                  have : i = j := by omega
                  rw [this, b] at x; exact absurd x.2 (by decide))]
            · rw [if_neg (fun u => x u.2), if_neg (fun u => x u.2)]
          rw [← e]
          exact R2
        · show fX9_layDue_2 101 _ (n + 1) h2 (nI j) = _
          rw [e1, if_pos q, b, if_neg (by decide)]
    · refine ⟨(h2, nI (j + 1)), ⟨rfl, ?_⟩, fun n => ?_⟩
      · have e : layP d s j = layP d s (j + 1) := by
          refine congrArg s.w_ds (funext fun i => ?_)
          by_cases x : s.ds i = 0 ∧ dueF d s.sp i = true
          · by_cases y : i < j
            · rw [if_pos ⟨y, x⟩, if_pos ⟨by omega, x⟩]
            · rw [if_neg (fun u => y u.1), if_neg (fun u => by
                have : i = j := by omega
                rw [this] at x; exact absurd x.1 q)]
          · rw [if_neg (fun u => x u.2), if_neg (fun u => x u.2)]
        rw [← e]
        exact R2
      · show fX9_layDue_2 101 _ (n + 1) h2 (nI j) = _
        rw [e1, if_neg q]) (s0 := (h, 0)) ⟨rfl, by
      have e : layP d s 0 = s := by
        show s.w_ds _ = s
        rw [show (fun i => if i < 0 ∧ s.ds i = 0 ∧ dueF d s.sp i = true then (1 : Int32) else s.ds i) = s.ds from funext fun i => if_neg (fun u => absurd u.1 (Nat.not_lt_zero i))]
        rfl
      rw [e]; exact R⟩
  simp only at hi R2 hL
  subst hi
  exact ⟨h2, by rw [hL, fX9_layDue_2, R2.H.D, if_pos (nI_le (Nat.le_refl _) (by omega))], R2⟩
theorem c_alive0 {o hh : Nat} {d : HD} {h0 h : HI} {s : SD} (R : CO o hh d h0 h s) {a : Int32} (c : a < 0 ∨ ¬ a < 0 ∧ nI d.X ≤ a) : fX6_isAlive o hh h a = some (0, h) := by
  unfold fX6_isAlive
  rw [has0 R.H.X c, Option.bind_some, if_pos rfl]
theorem op_speak {hh : Nat} {d : HD} {h : HI} {s : SD} (w : HDw d) (v : SDw d s) (T : St hh d h s) (a b : Int32) : Act hh d h (fX8_speak 0 hh h a b) (fun h1 => fX9_speak 101 h1 a b) := by
  have hM := w.M6
  have hX := w.X4
  unfold fX8_speak fX6_speakFor fX9_speak
  rw [Nat.zero_add]
  rcases rng a d.M (by omega) with ⟨j, hj, rfl⟩ | c
  · have hst := w.st j hj
    have hti := v.v.ti j hj
    rw [c_stands w T.1 hj, Option.bind_some]
    have hr : ∀ h1, RO d h1 h1 s → _ := fun h1 R => r_isUp w R hj
    by_cases c1 : s.wh j = -1
    · rw [if_neg (b01_1 (decide_eq_true c1))]
      simp (disch := omega) only [gB, nI_clamp, Nat.reduceAdd]
      rw [T.1.H.st j hj, show h.1 (56 + 2) j = nI (s.ti j) from T.1.S.ti j (by omega)]
      by_cases c2 : d.st j ≤ s.ti j
      · refine Act.no T v (-1) ?_ ?_
        · rw [if_pos (nI_le c2 (by omega)), Option.bind_some]
        · rw [r_isUp w T.2 hj, Option.bind_some, if_neg (b01_1 (decide_eq_true c1)), T.2.H.st j hj, T.2.S.ti j (by omega), if_pos (nI_le c2 (by omega))]
      · rw [if_neg (nI_ge (by omega) (by omega))]
        rcases rng b d.X (by omega) with ⟨x, hx, rfl⟩ | c
        · have hss := v.v.ss x (by omega)
          rw [c_alive T.1 w v.v hx, Option.bind_some]
          simp (disch := omega) only [gB, nI_clamp, Nat.reduceAdd]
          by_cases c3 : s.ss x < 2
          · rw [if_pos c3, if_neg ne10, c_time1 v T.1, Option.bind_some]
            by_cases c4 : s.mi + 1 ≤ 10000
            · have sv : SDw d (layP d (sayP s j x) d.D) := ⟨say_v w hx c3 v.v, v.mi, v.kn, oc_of v.oc rfl rfl⟩
              refine Act.yes (s2 := overP d (layP d (sayP s j x) d.D)) T (overP_w w sv c4) (nI (s.mi + 1)) ?_ fun h1 R => ?_
              · rw [if_neg (b01_1 (decide_eq_true c4)), show h.1 (56 + 4) j = s.sp j from T.1.S.sp j (by omega)]
                have R1 : CO 56 hh d h (uI (uI h (56 + 5) x 1) (56 + 4) j (s.sp j ||| ((1 : Int32) <<< (nI x &&& 31)))) (layP d (sayP s j x) d.D) := (((T.1.s_ss (m := x) (v := 1)).s_sp (m := j) (v := s.sp j ||| ((1 : Int32) <<< (nI x &&& 31))))).i_ds
                obtain ⟨h3, e3, R3⟩ := c_over w sv R1
                refine ⟨h3, ?_, R3⟩
                rw [e3, Option.bind_some, Option.bind_some]; rfl
              · rw [r_isUp w R hj, Option.bind_some, if_neg (b01_1 (decide_eq_true c1)), R.H.st j hj, R.S.ti j (by omega), if_neg (nI_ge (by omega) (by omega)), r_isMatter1 w R.H hx, Option.bind_some, if_neg ne10, R.S.ss x (by omega), if_neg (show ¬ (2 : Int32) ≤ nI (s.ss x) from nI_ge (b := 2) c3 (by decide)), r_long1 v R, Option.bind_some, if_pos (b01_0 (by rw [decide_eq_true c4]; rfl)), R.S.sp j (by omega)]
                have R1 : RO d h1 (uI (uI h1 132 x 1) 131 j (s.sp j ||| ((1 : Int32) <<< (nI x &&& 31)))) (sayP s j x) := (R.s_ss (m := x) (v := 1)).s_sp (m := j) (v := s.sp j ||| ((1 : Int32) <<< (nI x &&& 31)))
                obtain ⟨h2, e2, R2⟩ := r_lay w R1
                obtain ⟨h3, e3, R3⟩ := r_over w sv R2
                refine ⟨h3, ?_, R3⟩
                rw [e2, Option.bind_some, e3, Option.bind_some]; rfl
            · refine Act.no T v (-1) ?_ ?_
              · rw [if_pos (b01_0 (decide_eq_false c4)), Option.bind_some]
              · rw [r_isUp w T.2 hj, Option.bind_some, if_neg (b01_1 (decide_eq_true c1)), T.2.H.st j hj, T.2.S.ti j (by omega), if_neg (nI_ge (by omega) (by omega)), r_isMatter1 w T.2.H hx, Option.bind_some, if_neg ne10, T.2.S.ss x (by omega), if_neg (show ¬ (2 : Int32) ≤ nI (s.ss x) from nI_ge (b := 2) c3 (by decide)), r_long1 v T.2, Option.bind_some, if_neg (b01_1 (by rw [decide_eq_false c4]; rfl))]
          · refine Act.no T v (-1) ?_ ?_
            · rw [if_neg c3, if_pos rfl, Option.bind_some]
            · rw [r_isUp w T.2 hj, Option.bind_some, if_neg (b01_1 (decide_eq_true c1)), T.2.H.st j hj, T.2.S.ti j (by omega), if_neg (nI_ge (by omega) (by omega)), r_isMatter1 w T.2.H hx, Option.bind_some, if_neg ne10, T.2.S.ss x (by omega), if_pos (show (2 : Int32) ≤ nI (s.ss x) from nI_le (a := 2) (by omega) (by omega))]
        · refine Act.no T v (-1) ?_ ?_
          · rw [c_alive0 T.1 c, Option.bind_some, if_pos rfl, Option.bind_some]
          · rw [r_isUp w T.2 hj, Option.bind_some, if_neg (b01_1 (decide_eq_true c1)), T.2.H.st j hj, T.2.S.ti j (by omega), if_neg (nI_ge (by omega) (by omega)), r_isMatter0 T.2.H c, Option.bind_some, if_pos rfl]
    · refine Act.no T v (-1) ?_ ?_
      · rw [if_pos (b01_0 (decide_eq_false c1)), Option.bind_some]
      · rw [r_isUp w T.2 hj, Option.bind_some, if_pos (b01_0 (decide_eq_false c1))]
  · refine Act.no T v (-1) ?_ ?_
    · rw [c_stands0 T.1 c, Option.bind_some, if_pos rfl, Option.bind_some]
    · rw [r_isUp0 T.2 c, Option.bind_some, if_pos rfl]
