/-! entry, judge, could -/
theorem op_entry {hh : Nat} {d : HD} {h : HI} {s : SD} (w : HDw d) (T : St hh d h s) (hB : Bk h) (a b c : Int32) : ∃ (r : Int32) (h1 h2 : HI), fX8_entry 0 hh h a b c = some (r, h1) ∧ fX9_entry 101 h1 a b c = some (r, h2) ∧ Bk h2 ∧ Fr BkW h h2 := by
  have hM := w.M6
  have hB0 := hB
  obtain ⟨n, t, n1, n2, b1, b2, b3, b4, b5, b6⟩ := hB
  unfold fX8_entry fX9_entry
  rw [Nat.zero_add]
  rcases rng b d.M (by omega) with ⟨j, hj, rfl⟩ | cc
  · rw [has1 T.1.H.M hj (by omega), Option.bind_some, if_neg ne10]
    have no : ∀ h1 h2 : HI, h1 = h → h2 = h → Bk h2 ∧ Fr BkW h h2 := fun h1 h2 e1 e2 => by rw [e2]; exact ⟨hB0, Fr.rf⟩
    by_cases c0 : a < 0
    · exact ⟨-1, h, h, by unfold fX0_tell; rw [if_pos c0, Option.bind_some], by rw [if_pos c0], hB0, Fr.rf⟩
    · by_cases c1 : (100 : Int32) ≤ a
      · exact ⟨-1, h, h, by unfold fX0_tell; rw [if_neg c0, if_pos c1, Option.bind_some], by rw [if_neg c0, if_pos c1], hB0, Fr.rf⟩
      · obtain ⟨vv, hvv, rfl⟩ := nI_of c0
        have hvv2 : vv < 100 := by
          rcases Nat.lt_or_ge vv 100 with z | z
          · exact z
          · exact absurd (nI_le (a := 100) z hvv) c1
        by_cases c2 : c < -1
        · exact ⟨-1, h, h, by unfold fX0_tell; rw [if_neg c0, if_neg c1, if_pos c2, Option.bind_some], by rw [if_neg c0, if_neg c1, r_isMan1 w T.2.H hj, Option.bind_some, if_neg ne10, if_pos c2], hB0, Fr.rf⟩
        · by_cases c3 : 1 < c
          · exact ⟨-1, h, h, by unfold fX0_tell; rw [if_neg c0, if_neg c1, if_neg c2, if_pos c3, Option.bind_some], by rw [if_neg c0, if_neg c1, r_isMan1 w T.2.H hj, Option.bind_some, if_neg ne10, if_neg c2, if_pos c3], hB0, Fr.rf⟩
          · by_cases c4 : n < 40
            · have et : fX0_tell 5 h (nI vv) (nI j) c = some (nI n, uI (uI (uI (uI (uI (uI h (5 + 1) n (nI vv)) (5 + 2) n (nI j)) (5 + 3) n c) (5 + 4) n (nI t)) (5 + 5) n (-1)) 5 5 (nI (n + 1))) := by
                unfold fX0_tell
                rw [if_neg c0, if_neg c1, if_neg c2, if_neg c3, b1, if_pos (show nI n < (40 : Int32) from nI_lt (b := 40) c4 (by decide))]
                simp (disch := omega) only [gB, nI_clamp]
                rw [b3, nI_1, nI_m1 (by omega), Nat.add_sub_cancel]
              rw [et, Option.bind_some]
              generalize hg : uI (uI (uI (uI (uI (uI h (5 + 1) n (nI vv)) (5 + 2) n (nI j)) (5 + 3) n c) (5 + 4) n (nI t)) (5 + 5) n (-1)) 5 5 (nI (n + 1)) = g
              have G : Fr (fun a b => BkW a b ∧ a ≤ 10) h g := by
                rw [← hg]
                exact (((((Fr.uI (by unfold BkW; omega)).tr (Fr.uI (by unfold BkW; omega))).tr (Fr.uI (by unfold BkW; omega))).tr (Fr.uI (by unfold BkW; omega))).tr (Fr.uI (by unfold BkW; omega))).tr (Fr.uI (by unfold BkW; omega))
              have RG : RH d g := T.2.H.keep G (fun a b p q => by have := q.2; unfold RHW at p; omega)
              have g1 : g.1 101 79 = nI n := by rw [G.1 _ _ (by unfold BkW; omega)]; exact b2
              have g2 : g.1 101 80 = nI t := by rw [G.1 _ _ (by unfold BkW; omega)]; exact b4
              refine ⟨nI n, g, uI (uI (uI (uI (uI (uI g 143 n (nI vv)) 144 n (nI j)) 145 n c) 146 n (nI t)) 147 n (-1)) 101 79 (nI (n + 1)), rfl, ?_, ?_, ?_⟩
              · rw [if_neg c0, if_neg c1, r_isMan1 w RG hj, Option.bind_some, if_neg ne10, if_neg c2, if_neg c3, g1, if_neg (show ¬ nI n = (40 : Int32) from fun e => by have := (nI_eq (b := 40) (by omega) (by decide)).mp e; omega)]
                simp (disch := omega) only [gB, nI_clamp, Nat.reduceAdd]
                rw [g2, nI_1, nI_m1 (by omega), Nat.add_sub_cancel]
              · have q : ∀ x y, ¬ (143 ≤ x ∧ x ≤ 147 ∧ y = n) → ¬ (x = 101 ∧ y = 79) → (uI (uI (uI (uI (uI (uI g 143 n (nI vv)) 144 n (nI j)) 145 n c) 146 n (nI t)) 147 n (-1)) 101 79 (nI (n + 1))).1 x y = g.1 x y := fun x y p1 p2 => by
                  rw [uI_n (by omega), uI_n (by omega), uI_n (by omega), uI_n (by omega), uI_n (by omega), uI_n (by omega)]
                have q5 : ∀ x y, ¬ (6 ≤ x ∧ x ≤ 10 ∧ y = n) → ¬ (x = 5 ∧ y = 5) → g.1 x y = h.1 x y := fun x y p1 p2 => by
                  rw [← hg, uI_n (by omega), uI_n (by omega), uI_n (by omega), uI_n (by omega), uI_n (by omega), uI_n (by omega)]
                refine ⟨n + 1, t, by omega, n2, ?_, uI_s _ _ _ _, ?_, ?_, fun i hi => ?_, fun i hi => ?_⟩
                · rw [q _ _ (by omega) (by omega), ← hg, uI_s]
                · rw [q _ _ (by omega) (by omega), q5 _ _ (by omega) (by omega)]; exact b3
                · rw [q _ _ (by omega) (by omega), q5 _ _ (by omega) (by omega)]; exact b4
                · rw [q 6 _ (by omega) (by omega), q 7 _ (by omega) (by omega), q 8 _ (by omega) (by omega), q 9 _ (by omega) (by omega), q 10 _ (by omega) (by omega)]
                  by_cases e : i = n
                  · subst e
                    refine ⟨?_, ?_, ?_, ?_, ?_⟩
                    · rw [← hg, uI_n (by omega), uI_n (by omega), uI_n (by omega), uI_n (by omega), uI_n (by omega), uI_s, uI_n (by omega), uI_n (by omega), uI_n (by omega), uI_n (by omega), uI_n (by omega), uI_s]
                    · rw [← hg, uI_n (by omega), uI_n (by omega), uI_n (by omega), uI_n (by omega), uI_s, uI_n (by omega), uI_n (by omega), uI_n (by omega), uI_n (by omega), uI_s]
                    · rw [← hg, uI_n (by omega), uI_n (by omega), uI_n (by omega), uI_s, uI_n (by omega), uI_n (by omega), uI_n (by omega), uI_s]
                    · rw [← hg, uI_n (by omega), uI_n (by omega), uI_s, uI_n (by omega), uI_n (by omega), uI_s]
                    · rw [← hg, uI_n (by omega), uI_s, uI_n (by omega), uI_s]
                  · rw [q5 6 _ (by omega) (by omega), q5 7 _ (by omega) (by omega), q5 8 _ (by omega) (by omega), q5 9 _ (by omega) (by omega), q5 10 _ (by omega) (by omega), q 143 _ (by omega) (by omega), q 144 _ (by omega) (by omega), q 145 _ (by omega) (by omega), q 146 _ (by omega) (by omega), q 147 _ (by omega) (by omega), q5 143 _ (by omega) (by omega), q5 144 _ (by omega) (by omega), q5 145 _ (by omega) (by omega), q5 146 _ (by omega) (by omega), q5 147 _ (by omega) (by omega)]
                    exact b5 i (by omega)
                · by_cases e : i = n
                  · subst e
                    refine ⟨⟨vv, hvv2, ?_⟩, ⟨j, by omega, ?_⟩, Or.inl ?_⟩
                    · rw [uI_n (by omega), uI_n (by omega), uI_n (by omega), uI_n (by omega), uI_n (by omega), uI_s]
                    · rw [uI_n (by omega), uI_n (by omega), uI_n (by omega), uI_n (by omega), uI_s]
                    · rw [uI_n (by omega), uI_s]
                  · rw [q 143 _ (by omega) (by omega), q 144 _ (by omega) (by omega), q 147 _ (by omega) (by omega), q5 143 _ (by omega) (by omega), q5 144 _ (by omega) (by omega), q5 147 _ (by omega) (by omega)]
                    exact b6 i (by omega)
              · exact (G.mono fun a b q => q.1).tr ((((((Fr.uI (by unfold BkW; omega)).tr (Fr.uI (by unfold BkW; omega))).tr (Fr.uI (by unfold BkW; omega))).tr (Fr.uI (by unfold BkW; omega))).tr (Fr.uI (by unfold BkW; omega))).tr (Fr.uI (by unfold BkW; omega)))
            · refine ⟨-1, h, h, by unfold fX0_tell; rw [if_neg c0, if_neg c1, if_neg c2, if_neg c3, b1, if_neg (show ¬ nI n < (40 : Int32) from nI_nlt (b := 40) (by omega) (by omega)), Option.bind_some], ?_, hB0, Fr.rf⟩
              rw [if_neg c0, if_neg c1, r_isMan1 w T.2.H hj, Option.bind_some, if_neg ne10, if_neg c2, if_neg c3, b2, if_pos (show nI n = (40 : Int32) by rw [show n = 40 by omega]; rfl)]
  · refine ⟨-1, h, h, by rw [has0 T.1.H.M cc, Option.bind_some, if_pos rfl], ?_, hB0, Fr.rf⟩
    by_cases c0 : a < 0
    · rw [if_pos c0]
    · rw [if_neg c0]
      by_cases c1 : (100 : Int32) ≤ a
      · rw [if_pos c1]
      · rw [if_neg c1, r_isMan0 T.2.H cc, Option.bind_some, if_pos rfl]
/-! judge -/
def juP (h : HI) (s : SD) (k : Int32) (i : Nat) : Bool := !decide (k < h.1 146 i) && ((decide (h.1 147 i < 0) || !decide (h.1 147 i ≤ k)) && decide (h.1 143 i < nI s.vo))
def saP (h : HI) (s : SD) (i : Nat) : Int32 := if ((s.fa (h.1 143 i).toNatClampNeg 2 >>> (h.1 144 i &&& 31)) &&& 1) = 1 then 1 else if ((s.fa (h.1 143 i).toNatClampNeg 3 >>> (h.1 144 i &&& 31)) &&& 1) = 1 then -1 else 0
def fsP (h : HI) (s : SD) (k : Int32) (i : Nat) : Bool := juP h s k i && !decide (saP h s i = h.1 145 i)
def sdP (h : HI) (s : SD) (k : Int32) (i : Nat) : Bool := juP h s k i && (!decide (h.1 145 i = 0) && decide (((s.fa (h.1 143 i).toNatClampNeg 4 >>> (h.1 144 i &&& 31)) &&& 1) = 1))
theorem c_judged {hh : Nat} {d : HD} {h : HI} {s : SD} {n : Nat} (w : HDw d) (v : SDv d s) (T : St hh d h s) (n1 : n ≤ 40) (b5 : ∀ i, i < n → h.1 6 i = h.1 143 i ∧ h.1 7 i = h.1 144 i ∧ h.1 8 i = h.1 145 i ∧ h.1 9 i = h.1 146 i ∧ h.1 10 i = h.1 147 i) (b6 : ∀ i, i < n → (∃ v, v < 100 ∧ h.1 143 i = nI v) ∧ (∃ v, v < 6 ∧ h.1 144 i = nI v) ∧ (h.1 147 i = -1 ∨ ∃ u, u ≤ 100000 ∧ h.1 147 i = nI u)) (k : Int32) {i : Nat} (hi : i < n) : fX0_isJudged 5 56 h (nI i) k = some (b01 (juP h s k i), h) := by
  obtain ⟨e1, e2, e3, e4, e5⟩ := b5 i hi
  obtain ⟨⟨vv, hv, f1⟩, ⟨mm, hm, f2⟩, f3⟩ := b6 i hi
  have h4 := vo4 w v
  have e30 : fX0_isJudged_30 5 56 h (nI i) = some (b01 (decide (h.1 143 i < nI s.vo)), h) := by
    unfold fX0_isJudged_30
    simp (disch := omega) only [gB, nI_clamp, Nat.reduceAdd]
    rw [e1, f1, c_kept w v T.1 (by omega), Option.bind_some, show decide (nI vv < nI s.vo) = decide (vv < s.vo) from decide_eq_decide.mpr (nI_ltI (by omega) (by omega))]
    cases decide (vv < s.vo) with
    | true => rw [if_neg b01t]; rfl
    | false => rw [if_pos b01f]; rfl
  unfold fX0_isJudged juP
  simp (disch := omega) only [gB, nI_clamp, Nat.reduceAdd]
  rw [e4, e5, e30]
  by_cases c1 : k < h.1 146 i
  · rw [if_pos c1, decide_eq_true c1]; rfl
  · rw [if_neg c1, decide_eq_false c1]
    rcases f3 with f3 | ⟨u, hu, f3⟩
    · rw [if_pos f3, decide_eq_true (show h.1 147 i < 0 by rw [f3]; exact m1lt)]; rfl
    · have f4 : ¬ h.1 147 i < 0 := by rw [f3]; exact nI_pos (by omega)
      rw [if_neg (fun e => f4 (by rw [e]; exact m1lt)), decide_eq_false f4]
      by_cases c2 : h.1 147 i ≤ k
      · rw [if_pos c2, decide_eq_true c2]; rfl
      · rw [if_neg c2, decide_eq_false c2]; rfl
theorem r_counts {hh : Nat} {d : HD} {h : HI} {s : SD} {n : Nat} (w : HDw d) (v : SDv d s) (T : St hh d h s) (n1 : n ≤ 40) (k : Int32) {i : Nat} (hi : i < n) : fX9_counts 101 h (nI i) k = some (b01 (juP h s k i), h) := by
  have e30 : fX9_counts_29 101 h (nI i) = some (b01 (decide (h.1 143 i < nI s.vo)), h) := by
    unfold fX9_counts_29
    simp (disch := omega) only [gB, nI_clamp, Nat.reduceAdd]
    rw [r_kept w v T.2, Option.bind_some]
    by_cases q : h.1 143 i < nI s.vo
    · rw [if_neg (Int32.not_le.mpr q), decide_eq_true q]; rfl
    · rw [if_pos (Int32.not_lt.mp q), decide_eq_false q]; rfl
  unfold fX9_counts juP
  simp (disch := omega) only [gB, nI_clamp, Nat.reduceAdd]
  rw [e30]
  by_cases c1 : k < h.1 146 i
  · rw [if_pos c1, decide_eq_true c1]; rfl
  · rw [if_neg c1, decide_eq_false c1]
    by_cases c3 : h.1 147 i < 0
    · rw [if_pos c3, decide_eq_true c3]; rfl
    · rw [if_neg c3, decide_eq_false c3]
      by_cases c2 : h.1 147 i ≤ k
      · rw [if_pos c2, decide_eq_true c2]; rfl
      · rw [if_neg c2, decide_eq_false c2]; rfl
theorem ju_vo {h : HI} {s : SD} {k : Int32} {i : Nat} (q : juP h s k i = true) : h.1 143 i < nI s.vo := by
  unfold juP at q
  simp only [Bool.and_eq_true, decide_eq_true_eq] at q
  exact q.2.2
theorem c_false {hh : Nat} {d : HD} {h : HI} {s : SD} {n : Nat} (w : HDw d) (v : SDv d s) (T : St hh d h s) (n1 : n ≤ 40) (b5 : ∀ i, i < n → h.1 6 i = h.1 143 i ∧ h.1 7 i = h.1 144 i ∧ h.1 8 i = h.1 145 i ∧ h.1 9 i = h.1 146 i ∧ h.1 10 i = h.1 147 i) (b6 : ∀ i, i < n → (∃ v, v < 100 ∧ h.1 143 i = nI v) ∧ (∃ v, v < 6 ∧ h.1 144 i = nI v) ∧ (h.1 147 i = -1 ∨ ∃ u, u ≤ 100000 ∧ h.1 147 i = nI u)) (k : Int32) {i : Nat} (hi : i < n) : fX0_isFalse 5 56 h (nI i) k = some (b01 (fsP h s k i), h) := by
  obtain ⟨e1, e2, e3, e4, e5⟩ := b5 i hi
  obtain ⟨⟨vv, hv, f1⟩, ⟨mm, hm, f2⟩, f3⟩ := b6 i hi
  have h4 := vo4 w v
  unfold fX0_isFalse fsP
  rw [c_judged w v T n1 b5 b6 k hi, Option.bind_some]
  cases q : juP h s k i with
  | false => rw [if_pos b01f]; rfl
  | true =>
    have q2 := ju_vo q
    rw [f1] at q2
    have q3 : vv < s.vo := (nI_ltI (by omega) (by omega)).mp q2
    rw [if_neg b01t]
    simp (disch := omega) only [gB, nI_clamp, Nat.reduceAdd]
    rw [e1, e2, f1, f2]
    unfold fX6_saidIn saP
    rw [show (2 : Int32) = nI 2 from rfl, show (3 : Int32) = nI 3 from rfl, c_fact w v T.1 q3 (by omega), Option.bind_some, c_fact w v T.1 q3 (by omega), Option.bind_some, Option.bind_some, f1, f2, nI_clamp (by omega), e3]
    have hd := v.fa vv q3 mm hm
    rw [shb _ (by omega), shb _ (by omega)] at hd ⊢
    have key : b01 ((s.fa vv 2).toBitVec.getLsbD mm) - b01 ((s.fa vv 3).toBitVec.getLsbD mm) = if b01 ((s.fa vv 2).toBitVec.getLsbD mm) = 1 then 1 else if b01 ((s.fa vv 3).toBitVec.getLsbD mm) = 1 then -1 else 0 := by
      cases x : (s.fa vv 2).toBitVec.getLsbD mm <;> cases y : (s.fa vv 3).toBitVec.getLsbD mm
      · decide
      · decide
      · decide
      · rw [x, y] at hd; exact absurd ⟨rfl, rfl⟩ hd
    show (if b01 ((s.fa vv 2).toBitVec.getLsbD mm) - b01 ((s.fa vv 3).toBitVec.getLsbD mm) = h.1 145 i then _ else _) = _
    rw [key]
    by_cases z : (if b01 ((s.fa vv 2).toBitVec.getLsbD mm) = 1 then (1 : Int32) else if b01 ((s.fa vv 3).toBitVec.getLsbD mm) = 1 then -1 else 0) = h.1 145 i
    · rw [if_pos z, decide_eq_true z]; rfl
    · rw [if_neg z, decide_eq_false z]; rfl
theorem r_wrong {hh : Nat} {d : HD} {h : HI} {s : SD} {n : Nat} (w : HDw d) (v : SDv d s) (T : St hh d h s) (n1 : n ≤ 40) (b6 : ∀ i, i < n → (∃ v, v < 100 ∧ h.1 143 i = nI v) ∧ (∃ v, v < 6 ∧ h.1 144 i = nI v) ∧ (h.1 147 i = -1 ∨ ∃ u, u ≤ 100000 ∧ h.1 147 i = nI u)) (k : Int32) {i : Nat} (hi : i < n) (q : juP h s k i = true) : fX9_isWrong 101 h (nI i) 0 = some (b01 (!decide (saP h s i = h.1 145 i)), h) ∧ fX9_isWrong 101 h (nI i) 1 = some (b01 (!decide (h.1 145 i = 0) && decide (((s.fa (h.1 143 i).toNatClampNeg 4 >>> (h.1 144 i &&& 31)) &&& 1) = 1)), h) := by
  obtain ⟨⟨vv, hv, f1⟩, ⟨mm, hm, f2⟩, f3⟩ := b6 i hi
  have h4 := vo4 w v
  have q2 := ju_vo q
  rw [f1] at q2
  have q3 : vv < s.vo := (nI_ltI (by omega) (by omega)).mp q2
  have m2 : (6 : Int32) * nI vv + 2 = nI (6 * vv + 2) := nI_6m vv 2
  have m3 : (6 : Int32) * nI vv + 3 = nI (6 * vv + 3) := nI_6m vv 3
  have m4 : (6 : Int32) * nI vv + 4 = nI (6 * vv + 4) := nI_6m vv 4
  unfold fX9_isWrong fX9_isWrong_97 saP
  simp (disch := omega) only [gB, nI_clamp, Nat.reduceAdd, f1, f2, m2, m3, m4]
  rw [T.2.S.fa vv 2 q3 (by omega) (by omega), T.2.S.fa vv 3 q3 (by omega) (by omega), T.2.S.fa vv 4 q3 (by omega) (by omega)]
  constructor
  · rw [if_pos trivial]
    by_cases z : ((s.fa vv 2 >>> (nI mm &&& 31)) &&& 1) = 1
    · rw [if_pos z, if_pos z]
      by_cases y : (1 : Int32) = h.1 145 i
      · rw [if_pos y, decide_eq_true y]; rfl
      · rw [if_neg y, decide_eq_false y]; rfl
    · rw [if_neg z, if_neg z]
      by_cases z2 : ((s.fa vv 3 >>> (nI mm &&& 31)) &&& 1) = 1
      · rw [if_pos z2, if_pos z2]
        by_cases y : (-1 : Int32) = h.1 145 i
        · rw [if_pos y, decide_eq_true y]; rfl
        · rw [if_neg y, decide_eq_false y]; rfl
      · rw [if_neg z2, if_neg z2]
        by_cases y : (0 : Int32) = h.1 145 i
        · rw [if_pos y, decide_eq_true y]; rfl
        · rw [if_neg y, decide_eq_false y]; rfl
  · rw [if_neg ne10]
    by_cases y : h.1 145 i = 0
    · rw [if_pos y, decide_eq_true y]; rfl
    · rw [if_neg y, decide_eq_false y]
      by_cases z : ((s.fa vv 4 >>> (nI mm &&& 31)) &&& 1) = 1
      · rw [if_pos z, decide_eq_true z]; rfl
      · rw [if_neg z, decide_eq_false z]; rfl
def fr (P : Nat → Bool) : Nat → Int32
  | 0 => -1
  | j + 1 => if fr P j < 0 then (if P j then nI j else -1) else fr P j
theorem fr_no {P : Nat → Bool} : ∀ {j : Nat}, (∀ i, i < j → P i = false) → fr P j = -1
  | 0, _ => rfl
  | j + 1, h => by rw [fr, fr_no (fun i hi => h i (by omega)), if_pos m1lt, h j (by omega)]; rfl
theorem fr_at {P : Nat → Bool} {i : Nat} (h : ∀ e, e < i → P e = false) (hp : P i = true) : ∀ {j : Nat}, i < j → j ≤ 1000 → fr P j = nI i
  | 0, hj, _ => absurd hj (Nat.not_lt_zero i)
  | j + 1, hj, hl => by
    rw [fr]
    by_cases q : i = j
    · rw [← q, fr_no h, if_pos m1lt, if_pos hp]
    · rw [fr_at h hp (by omega) (by omega), if_neg (nI_pos (by omega))]
theorem fr_neg {P : Nat → Bool} : ∀ j, j ≤ 1000 → fr P j = -1 ∨ ¬ fr P j < 0
  | 0, _ => Or.inl rfl
  | j + 1, hj => by
    rw [fr]
    rcases fr_neg j (by omega) with e | e
    · rw [e, if_pos m1lt]
      split
      · exact Or.inr (nI_pos (by omega))
      · exact Or.inl rfl
    · rw [if_neg e]; exact Or.inr e
theorem c_ffirst {hh : Nat} {d : HD} {h : HI} {s : SD} {n : Nat} (w : HDw d) (v : SDv d s) (T : St hh d h s) (n1 : n ≤ 40) (b1 : h.1 5 5 = nI n) (b5 : ∀ i, i < n → h.1 6 i = h.1 143 i ∧ h.1 7 i = h.1 144 i ∧ h.1 8 i = h.1 145 i ∧ h.1 9 i = h.1 146 i ∧ h.1 10 i = h.1 147 i) (b6 : ∀ i, i < n → (∃ v, v < 100 ∧ h.1 143 i = nI v) ∧ (∃ v, v < 6 ∧ h.1 144 i = nI v) ∧ (h.1 147 i = -1 ∨ ∃ u, u ≤ 100000 ∧ h.1 147 i = nI u)) (k : Int32) : ∀ (f i F : Nat), i + f = n → (∀ e, e < i → fsP h s k e = false) → fX0_firstFalse_2 5 56 (fun h3 => some ((-1 : Int32), h3)) (F + (f + 1)) h k (nI i) = some (fr (fsP h s k) n, h) := by
  intro f
  induction f with
  | zero =>
    intro i F hi ha
    rw [show F + (0 + 1) = F + 1 from rfl, fX0_firstFalse_2, b1, if_pos (nI_le (by omega) (by omega)), fr_no (fun e he => ha e (by omega))]
  | succ f ih =>
    intro i F hi ha
    rw [show F + (f + 1 + 1) = (F + (f + 1)) + 1 from rfl, fX0_firstFalse_2, b1, if_neg (nI_ge (by omega) (by omega)), c_false w v T n1 b5 b6 k (by omega), Option.bind_some]
    cases q : fsP h s k i with
    | true => rw [if_neg b01t, fr_at ha q (by omega) (by omega)]
    | false =>
      rw [if_pos b01f, nI_1]
      exact ih (i + 1) F (by omega) (fun e he => by
        by_cases z : e = i
        · rw [z]; exact q
        · exact ha e (by omega))
theorem op_judge {hh : Nat} {d : HD} {h : HI} {s : SD} (w : HDw d) (v : SDw d s) (T : St hh d h s) (hB : Bk h) (a k : Int32) : Qu h (fX8_judge 0 h a k) (fX9_judge 101 h a k) := by
  obtain ⟨n, t, n1, n2, b1, b2, b3, b4, b5, b6⟩ := hB
  have hv := v.v
  have rl : ∀ (P : Nat → Bool) (z : Int32), (∀ i, i < n → P i = (juP h s k i && (if a = 1 then !decide (h.1 145 i = 0) && decide (((s.fa (h.1 143 i).toNatClampNeg 4 >>> (h.1 144 i &&& 31)) &&& 1) = 1) else !decide (saP h s i = h.1 145 i)))) → (z = if a = 2 then fr P n else nI (ct P n)) → fX9_judge_19 101 (fun h4 v1 v3 v4 => (if v1 = (2 : Int32) then some (v4, h4) else some (v3, h4))) FU h a k (0 : Int32) (-1 : Int32) (0 : Int32) = some (z, h) := by
    intro P z hP hz
    obtain ⟨F, hL⟩ := lpd (fun n (p : Int32 × Int32 × Int32) => fX9_judge_19 101 (fun h4 v1 v3 v4 => (if v1 = (2 : Int32) then some (v4, h4) else some (v3, h4))) n h a k p.1 p.2.1 p.2.2) (fun j => (nI (ct P j), fr P j, nI j)) n (by omega) (by
      intro j hj m
      show fX9_judge_19 101 _ (m + 1) h a k (nI (ct P j)) (fr P j) (nI j) = fX9_judge_19 101 _ m h a k (nI (ct P (j + 1))) (fr P (j + 1)) (nI (j + 1))
      rw [fX9_judge_19, b2, if_neg (nI_ge hj (by omega)), r_counts w hv T n1 k hj, Option.bind_some, ct, fr, hP j hj]
      unfold fX9_judge_51 fX9_judge_77 fX9_judge_75
      unfold fX9_judge_77
      rw [nI_1]
      cases q : juP h s k j with
      | false =>
        rw [if_pos b01f, Bool.false_and]
        rcases fr_neg (P := P) j (by omega) with e | e
        · rw [e, if_pos m1lt]; rfl
        · rw [if_neg e]; rfl
      | true =>
        have hw := r_wrong w hv T n1 b6 k hj q
        rw [if_neg b01t, Bool.true_and]
        have fin : ∀ B : Bool, (if b01 B = 0 then fX9_judge_19 101 (fun h4 v1 v3 v4 => (if v1 = (2 : Int32) then some (v4, h4) else some (v3, h4))) m h a k (nI (ct P j)) (fr P j) (nI (j + 1)) else if 0 ≤ fr P j then fX9_judge_19 101 (fun h4 v1 v3 v4 => (if v1 = (2 : Int32) then some (v4, h4) else some (v3, h4))) m h a k (nI (ct P j) + 1) (fr P j) (nI (j + 1)) else fX9_judge_19 101 (fun h4 v1 v3 v4 => (if v1 = (2 : Int32) then some (v4, h4) else some (v3, h4))) m h a k (nI (ct P j) + 1) (nI j) (nI (j + 1))) = fX9_judge_19 101 (fun h4 v1 v3 v4 => (if v1 = (2 : Int32) then some (v4, h4) else some (v3, h4))) m h a k (nI (ct P j + if B = true then 1 else 0)) (if fr P j < 0 then if B = true then nI j else -1 else fr P j) (nI (j + 1)) := by
          intro B
          cases B with
          | false =>
            rw [if_pos b01f]
            rcases fr_neg (P := P) j (by omega) with e | e
            · rw [e, if_pos m1lt]; rfl
            · rw [if_neg e]; rfl
          | true =>
            rw [if_neg b01t, nI_1]
            rcases fr_neg (P := P) j (by omega) with e | e
            · rw [e, if_pos m1lt, if_neg (by decide)]; rfl
            · rw [if_neg e, if_pos (Int32.not_lt.mp e)]; rfl
        by_cases a1 : a = 1
        · rw [if_pos a1, if_pos a1, hw.2, Option.bind_some]
          exact fin _
        · rw [if_neg a1, if_neg a1, hw.1, Option.bind_some]
          exact fin _)
    simp only at hL
    change fX9_judge_19 101 _ FU h a k 0 (-1) 0 = _ at hL
    rw [hL, fX9_judge_19, b2, if_pos (nI_le (Nat.le_refl _) (by omega)), hz]
    split <;> rfl
  unfold fX8_judge fX9_judge
  rw [Nat.zero_add, Nat.zero_add]
  by_cases a0 : a = 0
  · have e := rl (fsP h s k) (nI (ct (fsP h s k) n)) (fun i hi => by rw [if_neg (by rw [a0]; decide)]; rfl) (by rw [if_neg (by rw [a0]; decide)])
    rw [if_pos a0, if_neg (show ¬ a < 0 by rw [a0]; decide), if_pos (show a ≤ (2 : Int32) by rw [a0]; decide), e]
    refine Qu.mk _ ?_ rfl
    unfold fX0_countFalse
    obtain ⟨F, hL⟩ := lpd (fun n (p : Int32 × Int32) => fX0_countFalse_5 5 56 (fun h3 v3 => some (v3, h3)) n h k p.1 p.2) (fun j => (nI (ct (fsP h s k) j), nI j)) n (by omega) (by
      intro j hj m
      show fX0_countFalse_5 5 56 _ (m + 1) h k (nI (ct (fsP h s k) j)) (nI j) = fX0_countFalse_5 5 56 _ m h k (nI (ct (fsP h s k) (j + 1))) (nI (j + 1))
      rw [fX0_countFalse_5, b1, if_neg (nI_ge hj (by omega)), c_false w hv T n1 b5 b6 k hj, Option.bind_some, ct]
      unfold fX0_countFalse_28
      rw [nI_1, nI_1]
      cases fsP h s k j with
      | true => rw [if_neg b01t]; rfl
      | false => rw [if_pos b01f]; rfl)
    simp only at hL
    change fX0_countFalse_5 5 56 _ FU h k 0 0 = _ at hL
    rw [hL, fX0_countFalse_5, b1, if_pos (nI_le (Nat.le_refl _) (by omega)), Option.bind_some]
  · rw [if_neg a0]
    by_cases a1 : a = 1
    · have e := rl (sdP h s k) (nI (ct (sdP h s k) n)) (fun i hi => by rw [if_pos a1]; rfl) (by rw [if_neg (by rw [a1]; decide)])
      rw [if_pos a1, if_neg (show ¬ a < 0 by rw [a1]; decide), if_pos (show a ≤ (2 : Int32) by rw [a1]; decide), e]
      refine Qu.mk _ ?_ rfl
      unfold fX0_countStood
      obtain ⟨F, hL⟩ := lpd (fun n (p : Int32 × Int32) => fX0_countStood_5 5 56 (fun h3 v3 => some (v3, h3)) n h k p.1 p.2) (fun j => (nI (ct (sdP h s k) j), nI j)) n (by omega) (by
        intro j hj m
        show fX0_countStood_5 5 56 _ (m + 1) h k (nI (ct (sdP h s k) j)) (nI j) = fX0_countStood_5 5 56 _ m h k (nI (ct (sdP h s k) (j + 1))) (nI (j + 1))
        obtain ⟨e1, e2, e3, e4, e5⟩ := b5 j hj
        obtain ⟨⟨vv, hvv, f1⟩, ⟨mm, hm, f2⟩, f3⟩ := b6 j hj
        have h4 := vo4 w hv
        rw [fX0_countStood_5, b1, if_neg (nI_ge hj (by omega)), c_judged w hv T n1 b5 b6 k hj, Option.bind_some, ct]
        unfold fX0_countStood_59 sdP
        simp (disch := omega) only [gB, nI_clamp, Nat.reduceAdd, nI_1]
        cases q : juP h s k j with
        | false => rw [if_pos b01f]; rfl
        | true =>
          have q2 := ju_vo q
          rw [f1] at q2
          have q3 : vv < s.vo := (nI_ltI (by omega) (by omega)).mp q2
          rw [if_neg b01t, e3]
          by_cases y : h.1 145 j = 0
          · rw [if_pos y, decide_eq_true y]; rfl
          · rw [if_neg y, decide_eq_false y, e1, e2, f1, f2]
            unfold fX6_stoodIn
            rw [show (4 : Int32) = nI 4 from rfl, c_fact w hv T.1 q3 (by omega), Option.bind_some, nI_clamp (by omega), shb _ (by omega)]
            cases (s.fa vv 4).toBitVec.getLsbD mm with
            | true => rw [if_neg b01t, Option.bind_some, if_neg ne10]; rfl
            | false => rw [if_pos b01f, Option.bind_some, if_pos rfl]; rfl)
      simp only at hL
      change fX0_countStood_5 5 56 _ FU h k 0 0 = _ at hL
      rw [hL, fX0_countStood_5, b1, if_pos (nI_le (Nat.le_refl _) (by omega)), Option.bind_some]
    · rw [if_neg a1]
      by_cases a2 : a = 2
      · have e := rl (fsP h s k) (fr (fsP h s k) n) (fun i hi => by rw [if_neg a1]; rfl) (by rw [if_pos a2])
        rw [if_pos a2, if_neg (show ¬ a < 0 by rw [a2]; decide), if_pos (show a ≤ (2 : Int32) by rw [a2]; decide), e]
        refine Qu.mk _ ?_ rfl
        unfold fX0_firstFalse
        obtain ⟨F, hF⟩ := FU_ge (n := n) (by omega)
        rw [hF, show (0 : Int32) = nI 0 from rfl, c_ffirst w hv T n1 b1 b5 b6 k n 0 F (by omega) (fun e he => absurd he (Nat.not_lt_zero e)), Option.bind_some]
      · rw [if_neg a2]
        refine Qu.mk (-1) rfl ?_
        by_cases c0 : a < 0
        · rw [if_pos c0]
        · rw [if_neg c0, if_neg]
          intro z
          obtain ⟨j, hj, rfl⟩ := nI_of c0
          have : j ≤ 2 := (nI_leI (b := 2) hj (by decide)).mp z
          rcases (show j = 0 ∨ j = 1 ∨ j = 2 by omega) with e | e | e <;> subst e
          · exact a0 rfl
          · exact a1 rfl
          · exact a2 rfl
