/-! questions: man, chair, about, matter, deal, voted, sat -/
def Qu (h : HI) (f g : Option (Int32 × HI)) : Prop := ∃ r : Int32, f = some (r, h) ∧ g = some (r, h)
theorem Qu.mk {h : HI} {f g : Option (Int32 × HI)} (r : Int32) (e1 : f = some (r, h)) (e2 : g = some (r, h)) : Qu h f g := ⟨r, e1, e2⟩
theorem Qu.ite {h : HI} {c : Prop} [Decidable c] {a b a2 b2 : Option (Int32 × HI)} (h1 : Qu h a a2) (h2 : Qu h b b2) : Qu h (if c then a else b) (if c then a2 else b2) := by
  by_cases q : c
  · rw [if_pos q, if_pos q]; exact h1
  · rw [if_neg q, if_neg q]; exact h2
theorem c_posture {o hh : Nat} {d : HD} {h0 h : HI} {s : SD} (w : HDw d) (R : CO o hh d h0 h s) {j : Nat} (hj : j < d.M) : fX6_posture o h (nI j) = some (if s.wh j = -2 then 2 else if s.wh j = -1 then 0 else 1, h) := by
  have := w.M6
  unfold fX6_posture
  simp (disch := omega) only [gB, nI_clamp]
  rw [R.S.wh j (by omega)]
  split
  · rfl
  · split <;> rfl
theorem op_man {hh : Nat} {d : HD} {h : HI} {s : SD} (w : HDw d) (v : SDw d s) (T : St hh d h s) (a b : Int32) : Qu h (fX8_man 0 hh hh h a b) (fX9_man 101 h a b) := by
  have hM := w.M6
  have hC := w.C6
  unfold fX8_man fX9_man
  rcases rng a d.M (by omega) with ⟨j, hj, rfl⟩ | c
  · have hwh := v.v.wh j hj
    have hsf := v.v.sf j hj
    rw [has1 T.1.H.M hj (by omega), Option.bind_some, if_neg ne10, r_isMan1 w T.2.H hj, Option.bind_some, if_neg ne10]
    simp (disch := omega) only [gB, nI_clamp, Nat.reduceAdd]
    rw [T.2.S.wh j (by omega), T.2.S.ti j (by omega), T.2.S.sf j (by omega), T.2.S.sp j (by omega), c_posture w T.1 hj, c_naps w T.1 hj, r_naps w T.2 hj, show h.1 57 j = s.wh j from T.1.S.wh j (by omega), show h.1 58 j = nI (s.ti j) from T.1.S.ti j (by omega), show h.1 59 j = s.sf j from T.1.S.sf j (by omega), show h.1 60 j = s.sp j from T.1.S.sp j (by omega)]
    by_cases b0 : b = 0
    · rw [if_pos b0, if_pos b0, Option.bind_some]
      refine Qu.mk _ rfl ?_
      split
      · rfl
      · split <;> rfl
    · rw [if_neg b0, if_neg b0]
      by_cases b1 : b = 1
      · rw [if_pos b1, if_pos b1]
        rcases hwh with e | e | ⟨c, hc, e⟩
        · rw [e]; exact Qu.mk (-1) (by rw [if_pos (by decide)]) (by rw [if_neg (by decide)])
        · rw [e]; exact Qu.mk (-1) (by rw [if_neg (by decide)]) (by rw [if_neg (by decide)])
        · rw [e]
          refine Qu.mk (nI c) (by rw [if_neg]; exact fun z => nI_pos (n := c) (by omega) (Int32.lt_trans z m1lt)) (by rw [if_pos (nI_pos' (by omega))])
      · rw [if_neg b1, if_neg b1]
        by_cases b2 : b = 2
        · rw [if_pos b2, if_pos b2]; exact Qu.mk _ rfl rfl
        · rw [if_neg b2, if_neg b2]
          by_cases b3 : b = 3
          · rw [if_pos b3, if_pos b3]
            by_cases q : s.wh j < 0
            · rw [if_neg (Int32.not_le.mpr q), hsf q]; exact Qu.mk 0 rfl rfl
            · rw [if_pos (Int32.not_lt.mp q)]; exact Qu.mk _ rfl rfl
          · rw [if_neg b3, if_neg b3]
            refine Qu.ite ?_ (Qu.ite ⟨_, rfl, rfl⟩ ⟨_, rfl, rfl⟩)
            rw [Option.bind_some]
            cases napP d s j with
            | true => exact ⟨1, rfl, rfl⟩
            | false => exact ⟨0, rfl, rfl⟩
  · exact Qu.mk (-2) (by rw [has0 T.1.H.M c, Option.bind_some, if_pos rfl]) (by rw [r_isMan0 T.2.H c, Option.bind_some, if_pos rfl])
theorem op_chair {hh : Nat} {d : HD} {h : HI} {s : SD} (w : HDw d) (T : St hh d h s) (a b : Int32) : Qu h (fX8_chair 0 hh hh h a b) (fX9_chair 101 h a b) := by
  have hM := w.M6
  have hC := w.C6
  unfold fX8_chair fX9_chair
  rcases rng a d.C (by omega) with ⟨j, hj, rfl⟩ | c
  · rw [has1 T.1.H.C hj (by omega), Option.bind_some, if_neg ne10, r_isChair1 w T.2.H hj, Option.bind_some, if_neg ne10]
    simp (disch := omega) only [gB, nI_clamp, Nat.reduceAdd]
    rw [T.2.S.br j (by omega), T.2.S.fo j (by omega), c_on w T.1, r_on w T.2, show h.1 56 4 = nI (bs s.br 6) from T.1.S.br, show h.1 56 5 = nI (bs s.fo 6) from T.1.S.fo, tst s.br (by omega) (by omega), tst s.fo (by omega) (by omega), Option.bind_some]
    by_cases b0 : b = 0
    · rw [if_pos b0, if_pos b0]; exact Qu.mk _ rfl rfl
    · rw [if_neg b0, if_neg b0]
      by_cases b1 : b = 1
      · rw [if_pos b1, if_pos b1]
        cases s.br j with
        | true => exact Qu.mk 1 rfl (by rw [if_neg b01t])
        | false => exact Qu.mk 0 rfl (by rw [if_pos b01f])
      · rw [if_neg b1, if_neg b1]
        by_cases b2 : b = 2
        · rw [if_pos b2, if_pos b2]
          cases s.fo j with
          | true => exact Qu.mk 1 rfl (by rw [if_neg b01t])
          | false => exact Qu.mk 0 rfl (by rw [if_pos b01f])
        · rw [if_neg b2, if_neg b2]; exact Qu.mk _ rfl rfl
  · exact Qu.mk (-2) (by rw [has0 T.1.H.C c, Option.bind_some, if_pos rfl]) (by rw [r_isChair0 T.2.H c, Option.bind_some, if_pos rfl])
theorem op_about {hh : Nat} {d : HD} {h : HI} {s : SD} (w : HDw d) (T : St hh d h s) (hT : Tp h) (hB : Bk h) (a : Int32) : Qu h (fX8_about 0 hh hh h a) (fX9_about 101 h a) := by
  obtain ⟨n, _, t1, t2, _⟩ := hT
  obtain ⟨c, t, _, _, b1, b2, b3, b4, _⟩ := hB
  unfold fX8_about fX9_about
  rw [r_men T.2.H, r_seats w T.2, c_seats w T.1, Option.bind_some, Option.bind_some]
  refine Qu.ite ⟨_, rfl, ?_⟩ (Qu.ite ⟨_, rfl, ?_⟩ (Qu.ite ⟨_, rfl, ?_⟩ (Qu.ite ⟨_, rfl, ?_⟩ (Qu.ite ⟨_, rfl, ?_⟩ (Qu.ite ⟨_, rfl, ?_⟩ (Qu.ite ⟨_, rfl, ?_⟩ (Qu.ite ⟨_, rfl, ?_⟩ (Qu.ite ⟨_, rfl, ?_⟩ (Qu.ite ⟨_, rfl, ?_⟩ (Qu.ite ⟨_, rfl, ?_⟩ (Qu.ite ⟨_, rfl, ?_⟩ (Qu.ite ⟨_, rfl, ?_⟩ ⟨_, rfl, rfl⟩))))))))))))
  · exact congrArg (fun x => some (x, h)) (T.2.H.C.trans T.1.H.C.symm)
  · exact congrArg (fun x => some (x, h)) T.1.H.M.symm
  · exact congrArg (fun x => some (x, h)) (T.2.H.X.trans T.1.H.X.symm)
  · exact congrArg (fun x => some (x, h)) (T.2.H.W.trans T.1.H.W.symm)
  · exact congrArg (fun x => some (x, h)) (T.2.H.D.trans T.1.H.D.symm)
  · exact congrArg (fun x => some (x, h)) (T.2.S.mi.trans T.1.S.mi.symm)
  · exact congrArg (fun x => some (x, h)) (T.2.S.vo.trans T.1.S.vo.symm)
  · exact congrArg (fun x => some (x, h)) (b2.trans b1.symm)
  · exact congrArg (fun x => some (x, h)) (b4.trans b3.symm)
  · exact congrArg (fun x => some (x, h)) (t2.trans t1.symm)
  · exact congrArg (fun x => some (x, h)) (T.2.H.un.trans T.1.H.un.symm)
  · rfl
  · exact congrArg (fun x => some (x, h)) (T.2.S.sk.trans T.1.S.sk.symm)
theorem r_all {d : HD} {h : HI} (w : HDw d) (R : RH d h) {x : Nat} (hx : x < d.X) : fX9_allWishes 101 h (nI x) = some (Int32.ofInt (wo d x d.M), h) := by
  have hM := w.M6
  have hX := w.X4
  unfold fX9_allWishes
  obtain ⟨F, hL⟩ := lpd (fun n (p : Int32 × Int32) => fX9_allWishes_4 101 (fun h3 v2 => some (v2, h3)) n h (nI x) p.1 p.2) (fun j => (Int32.ofInt (wo d x j), nI j)) d.M (by omega) (by
    intro j hj n
    show fX9_allWishes_4 101 _ (n + 1) h (nI x) (Int32.ofInt (wo d x j)) (nI j) = fX9_allWishes_4 101 _ n h (nI x) (Int32.ofInt (wo d x (j + 1))) (nI (j + 1))
    rw [fX9_allWishes_4, r_men R, Option.bind_some, if_neg (nI_ge hj (by omega)), nI_m4]
    simp (disch := omega) only [gB, nI_clamp, Nat.reduceAdd, R.wi, nI_1]
    rw [wo, Int32.ofInt_add])
  simp only at hL
  change fX9_allWishes_4 101 _ FU h (nI x) 0 0 = _ at hL
  rw [hL, fX9_allWishes_4, r_men R, Option.bind_some, if_pos (nI_le (Nat.le_refl _) (by omega))]
theorem op_matter {hh : Nat} {d : HD} {h : HI} {s : SD} (w : HDw d) (v : SDw d s) (T : St hh d h s) (a b : Int32) : Qu h (fX8_matter 0 hh hh h a b) (fX9_matter 101 h a b) := by
  have hM := w.M6
  have hX := w.X4
  have hD := w.D4
  unfold fX8_matter fX9_matter
  rcases rng a d.X (by omega) with ⟨j, hj, rfl⟩ | c
  · rw [has1 T.1.H.X hj (by omega), Option.bind_some, if_neg ne10, r_isMatter1 w T.2.H hj, Option.bind_some, if_neg ne10]
    simp (disch := omega) only [gB, nI_clamp, Nat.reduceAdd]
    rw [T.2.S.ss j (by omega), show h.1 61 j = nI (s.ss j) from T.1.S.ss j (by omega), T.1.H.wo j hj, r_all w T.2.H hj, Option.bind_some, c_yes w v.v T.1 hj, Option.bind_some, f_bit6 _ (bs_lt6 _ hM), Option.bind_some, c_no w v.v T.1 hj, Option.bind_some, f_bit6 _ (bs_lt6 _ hM), Option.bind_some, r_voters w v.v T.2, Option.bind_some, r_due w T.2, Option.bind_some, r_yes w T.2.H hj _ _ (voP d s) (due d s) (fun i hi => tst _ (by omega) hi) (fun i hi => tst _ (by omega) hi), Option.bind_some, f_ones6 _ (bs_lt6 _ hM), Option.bind_some, Option.bind_some, r_due w T.2, Option.bind_some, r_no w T.2.H hj _ _ (voP d s) (due d s) (fun i hi => tst _ (by omega) hi) (fun i hi => tst _ (by omega) hi), Option.bind_some, f_ones6 _ (bs_lt6 _ hM), Option.bind_some]
    exact Qu.ite ⟨_, rfl, rfl⟩ (Qu.ite ⟨_, rfl, rfl⟩ (Qu.ite ⟨_, rfl, rfl⟩ (Qu.ite ⟨_, rfl, rfl⟩ ⟨_, rfl, rfl⟩)))
  · exact Qu.mk (-1000000) (by rw [has0 T.1.H.X c, Option.bind_some, if_pos rfl]) (by rw [r_isMatter0 T.2.H c, Option.bind_some, if_pos rfl])
theorem op_deal {hh : Nat} {d : HD} {h : HI} {s : SD} (w : HDw d) (v : SDw d s) (T : St hh d h s) (a : Int32) : Qu h (fX8_deal 0 hh h a) (fX9_deal 101 h a) := by
  have hD := w.D4
  unfold fX8_deal fX6_dealState fX9_deal
  rcases rng a d.D (by omega) with ⟨j, hj, rfl⟩ | c
  · have hde := v.v.de j (by omega)
    rw [Nat.zero_add, T.1.H.D, T.2.H.D, if_neg (nI_pos (by omega)), if_neg (nI_ge hj (by omega)), if_neg (nI_pos (by omega)), if_neg (nI_ge hj (by omega)), if_pos (show nI j < (4 : Int32) from nI_lt (b := 4) (by omega) (by decide))]
    simp (disch := omega) only [gB, nI_clamp, Nat.reduceAdd]
    rw [T.2.S.ds j (by omega), v.v.ds j hj, show h.1 62 j = nI (s.de j) from T.1.S.de j (by omega), c_due w T.1, Option.bind_some, tst _ (by omega) hj]
    by_cases q : s.de j = 0
    · rw [if_pos q, if_pos (show nI (s.de j) = 0 by rw [q]; rfl), Option.bind_some, Int32.mul_one]
      exact Qu.mk _ rfl rfl
    · rw [if_neg q, if_neg (nI_ne0 (by omega) (by omega)), Option.bind_some]
      exact Qu.mk _ rfl rfl
  · rw [Nat.zero_add, T.1.H.D, T.2.H.D]
    rcases c with c | ⟨c, c2⟩
    · exact Qu.mk (-1) (by rw [if_pos c, Option.bind_some]) (by rw [if_pos c])
    · exact Qu.mk (-1) (by rw [if_neg c, if_pos c2, Option.bind_some]) (by rw [if_neg c, if_pos c2])
theorem vo4 {d : HD} {s : SD} (w : HDw d) (v : SDv d s) : s.vo ≤ 4 := by
  have h1 := v.vo
  have h2 := ct_le (fun x => decide (2 ≤ s.ss x)) d.X
  have := w.X4
  omega
theorem c_kept {o hh : Nat} {d : HD} {h0 h : HI} {s : SD} (w : HDw d) (v : SDv d s) (R : CO o hh d h0 h s) {j : Nat} (hj : j < 2 ^ 31) : fX6_isKept o h (nI j) = some (b01 (decide (j < s.vo)), h) := by
  have h4 := vo4 w v
  unfold fX6_isKept
  rw [if_neg (nI_pos hj), R.S.vo]
  by_cases c : j < s.vo
  · rw [if_neg (nI_ge c (by omega)), if_neg (show ¬ (4 : Int32) ≤ nI j from nI_ge (b := 4) (by omega) (by decide)), decide_eq_true c]; rfl
  · rw [if_pos (nI_le (by omega) hj), decide_eq_false c]; rfl
theorem c_fact {o hh : Nat} {d : HD} {h0 h : HI} {s : SD} (w : HDw d) (v : SDv d s) (R : CO o hh d h0 h s) {j k : Nat} (hj : j < s.vo) (hk : k < 6) : fX6_voteFact o h (nI j) (nI k) = some (s.fa j k, h) := by
  have h4 := vo4 w v
  unfold fX6_voteFact
  rw [c_kept w v R (by omega), Option.bind_some, if_neg (b01_1 (decide_eq_true hj)), if_neg (nI_pos (by omega)), if_pos (show nI k < (6 : Int32) from nI_lt (b := 6) hk (by decide)), nI_m6]
  simp (disch := omega) only [gB, nI_clamp]
  rw [R.S.fa j k hj (by omega) hk]
theorem r_kept {d : HD} {h0 h : HI} {s : SD} (w : HDw d) (v : SDv d s) (R : RO d h0 h s) : fX9_keptVotes 101 h = some (nI s.vo, h) := by
  have h4 := vo4 w v
  unfold fX9_keptVotes
  rw [R.S.vo, if_neg (show ¬ (100 : Int32) ≤ nI s.vo from nI_ge (b := 100) (by omega) (by decide))]
theorem op_voted {hh : Nat} {d : HD} {h : HI} {s : SD} (w : HDw d) (v : SDw d s) (T : St hh d h s) (a b : Int32) : Qu h (fX8_voted 0 h a b) (fX9_voted 101 h a b) := by
  have h4 := vo4 w v.v
  unfold fX8_voted fX9_voted
  rw [r_kept w v.v T.2, Option.bind_some]
  by_cases c0 : a < 0
  · refine Qu.mk (-1) ?_ (by rw [if_pos c0])
    unfold fX6_voteFact fX6_isKept
    rw [if_pos c0, Option.bind_some, if_pos rfl, Option.bind_some]
  · obtain ⟨j, hj, rfl⟩ := nI_of c0
    rw [if_neg c0]
    by_cases c1 : j < s.vo
    · rw [if_neg (nI_ge c1 (by omega))]
      rcases rng b 6 (by omega) with ⟨k, hk, rfl⟩ | c
      · rw [Nat.zero_add, c_fact w v.v T.1 c1 hk, Option.bind_some, if_neg (nI_pos (by omega)), if_pos (show nI k ≤ (5 : Int32) from nI_le (b := 5) (by omega) (by decide)), nI_6m]
        simp (disch := omega) only [gB, nI_clamp, Nat.reduceAdd]
        rw [T.2.S.fa j k c1 (by omega) hk]
        exact Qu.mk _ rfl rfl
      · unfold fX6_voteFact
        rw [Nat.zero_add, c_kept w v.v T.1 hj, Option.bind_some, if_neg (b01_1 (decide_eq_true c1))]
        rcases c with c | ⟨c, c2⟩
        · exact Qu.mk (-1) (by rw [if_pos c, Option.bind_some]) (by rw [if_pos c])
        · exact Qu.mk (-1) (by rw [if_neg c, if_neg (show ¬ b < (6 : Int32) from Int32.not_lt.mpr c2), Option.bind_some]) (by rw [if_neg c, if_neg (show ¬ b ≤ (5 : Int32) from fun z => absurd (Int32.le_trans c2 z) (by decide))])
    · unfold fX6_voteFact
      rw [Nat.zero_add, c_kept w v.v T.1 hj, Option.bind_some, if_pos (b01_0 (decide_eq_false c1)), Option.bind_some]
      exact Qu.mk (-1) rfl (by rw [if_pos (nI_le (by omega) hj)])
/-! a minute's row: six bits a chair -/
def rb (f : Nat → Int32) : Nat → Nat → Bool
  | 0, _ => false
  | n + 1, k => rb f n k || (!decide (f n < 0) && decide (k = 6 * (f n).toNatClampNeg + n))
theorem one_sh64 : ∀ k, k < 36 → ∀ j, j < 64 → (((1 : Int64) <<< ((nI k).toInt64 &&& 63)).toBitVec.getLsbD j) = decide (j = k) := by decide +kernel
theorem rw6_bit {f : Nat → Int32} {C : Nat} (hC : C ≤ 6) : ∀ n, n ≤ 6 → (∀ i, i < n → f i = -2 ∨ f i = -1 ∨ ∃ c, c < C ∧ f i = nI c) → ∀ k, k < 64 → (rw6 f n).toBitVec.getLsbD k = rb f n k
  | 0, _, _, k, hk => by
    have h0 : ∀ k, k < 64 → (0 : Int64).toBitVec.getLsbD k = false := by decide
    exact h0 k hk
  | n + 1, hn, hf, k, hk => by
    have ih := rw6_bit (f := f) hC n (by omega) (fun i hi => hf i (by omega)) k hk
    rw [rw6, rb]
    rcases hf n (by omega) with e | e | ⟨c, hc, e⟩
    · rw [e, if_pos m2lt, ih, decide_eq_true m2lt, Bool.not_true, Bool.false_and, Bool.or_false]
    · rw [e, if_pos m1lt, ih, decide_eq_true m1lt, Bool.not_true, Bool.false_and, Bool.or_false]
    · rw [e, if_neg (nI_pos (by omega)), Int64.toBitVec_or, BitVec.getLsbD_or, ih, nI_m6, one_sh64 _ (by omega) k hk, decide_eq_false (nI_pos (by omega)), nI_clamp (by omega), Bool.not_false, Bool.true_and]
theorem rb_at {f : Nat → Int32} {C : Nat} (hC : C ≤ 6) {c : Nat} (hc : c < 6) : ∀ n, n ≤ 6 → (∀ i, i < n → f i = -2 ∨ f i = -1 ∨ ∃ c, c < C ∧ f i = nI c) → ∀ i, i < 6 → rb f n (6 * c + i) = (decide (i < n) && decide (f i = nI c))
  | 0, _, _, i, hi => by rw [rb, decide_eq_false (by omega), Bool.false_and]
  | n + 1, hn, hf, i, hi => by
    have ih := rb_at (f := f) hC hc n (by omega) (fun i hi => hf i (by omega)) i hi
    rw [rb, ih]
    by_cases q : i = n
    · rw [q, decide_eq_false (show ¬ n < n by omega), Bool.false_and, Bool.false_or, decide_eq_true (show n < n + 1 by omega), Bool.true_and]
      rcases hf n (by omega) with e | e | ⟨c2, hc2, e⟩
      · rw [e, decide_eq_true m2lt]
        exact (decide_eq_false (fun z => nI_pos (n := c) (by omega) (by rw [← z]; exact m2lt))).symm
      · rw [e, decide_eq_true m1lt]
        exact (decide_eq_false (fun z => nI_pos (n := c) (by omega) (by rw [← z]; exact m1lt))).symm
      · rw [e, decide_eq_false (nI_pos (by omega)), nI_clamp (by omega), nI_inj (by omega) (by omega), Bool.not_false, Bool.true_and]
        exact decide_eq_decide.mpr (by omega)
    · have e2 : (!decide (f n < 0) && decide (6 * c + i = 6 * (f n).toNatClampNeg + n)) = false := by
        rw [decide_eq_false (show ¬ 6 * c + i = 6 * (f n).toNatClampNeg + n by omega), Bool.and_false]
      rw [e2, Bool.or_false, show decide (i < n + 1) = decide (i < n) from decide_eq_decide.mpr (by omega)]
theorem c_row {f : Nat → Int32} {C M : Nat} (hC : C ≤ 6) (hM : M ≤ 6) {c : Nat} (hc : c < 6) (hf : ∀ i, i < M → f i = -2 ∨ f i = -1 ∨ ∃ c, c < C ∧ f i = nI c) : ((((rw6 f M).toUInt64 >>> ((nI c * (6 : Int32)).toInt64.toUInt64 &&& Int64.toUInt64 63)).toInt64).toInt32) &&& (63 : Int32) = nI (bs (fun m => decide (f m = nI c)) M) := by
  apply i32_ext
  intro i hi
  have h63 : ∀ i, i < 32 → (63 : Int32).toBitVec.getLsbD i = decide (i < 6) := by decide
  have hs : ∀ c, c < 6 → (((nI c * (6 : Int32)).toInt64.toUInt64 &&& Int64.toUInt64 63).toBitVec % 64) = BitVec.ofNat 64 (6 * c) := by decide +kernel
  rw [Int32.toBitVec_and, BitVec.getLsbD_and, h63 i hi, nI_bit _ hi, bs_bit]
  by_cases q : i < 6
  · rw [decide_eq_true q, Bool.and_true]
    have e1 : ((((rw6 f M).toUInt64 >>> ((nI c * (6 : Int32)).toInt64.toUInt64 &&& Int64.toUInt64 63)).toInt64).toInt32).toBitVec.getLsbD i = (rw6 f M).toBitVec.getLsbD (6 * c + i) := by
      rw [Int64.toBitVec_toInt32, BitVec.getLsbD_signExtend]
      show (decide (i < 32) && if i < 64 then ((rw6 f M).toUInt64 >>> ((nI c * (6 : Int32)).toInt64.toUInt64 &&& Int64.toUInt64 63)).toBitVec.getLsbD i else _) = _
      rw [decide_eq_true hi, Bool.true_and, if_pos (by omega), UInt64.toBitVec_shiftRight, hs c hc]
      show (((rw6 f M).toBitVec) >>> (BitVec.ofNat 64 (6 * c))).getLsbD i = _
      rw [BitVec.ushiftRight_eq', BitVec.getLsbD_ushiftRight, BitVec.toNat_ofNat, Nat.mod_eq_of_lt (by omega)]
    rw [e1, rw6_bit hC M hM hf _ (by omega), rb_at hC hc M hM hf i q]
  · rw [decide_eq_false q, Bool.and_false, decide_eq_false (by omega), Bool.false_and]
theorem op_sat {hh : Nat} {d : HD} {h : HI} {s : SD} (w : HDw d) (v : SDw d s) (T : St hh d h s) (a b : Int32) : Qu h (fX8_sat 0 hh h a b) (fX9_sat 101 h a b) := by
  have hC := w.C6
  have hM := w.M6
  have hmi := v.mi
  unfold fX8_sat fX6_keptSitters fX9_sat
  rw [Nat.zero_add]
  rcases rng a d.C (by omega) with ⟨j, hj, rfl⟩ | c
  · rw [has1 T.1.H.C hj (by omega), Option.bind_some, if_neg ne10, r_isChair1 w T.2.H hj, Option.bind_some, if_neg ne10]
    by_cases c1 : b < 1
    · rw [if_pos c1, if_pos c1]; exact Qu.mk _ rfl rfl
    · rw [if_neg c1, if_neg c1]
      have c0 : ¬ b < 0 := fun z => c1 (Int32.lt_trans z (by decide))
      obtain ⟨k, hk, rfl⟩ := nI_of c0
      have hk1 : 1 ≤ k := by
        rcases Nat.eq_zero_or_pos k with z | z
        · rw [z] at c1; exact absurd (by decide) c1
        · exact z
      by_cases c2 : k ≤ 200
      · rw [if_neg (show ¬ (200 : Int32) < nI k from nI_nlt (a := 200) c2 (by decide)), if_neg (show ¬ (200 : Int32) < nI k from nI_nlt (a := 200) c2 (by decide)), show h.1 56 1 = nI s.mi from T.1.S.mi, T.2.S.mi]
        by_cases c3 : k ≤ s.mi
        · rw [if_pos (nI_le c3 (by omega)), if_neg (nI_nlt c3 (by omega)), nI_m1 hk1, nI_6m]
          simp (disch := omega) only [gB, nI_clamp, Nat.reduceAdd]
          have hkn : k - 1 < s.kn := by rw [v.kn]; omega
          have e := T.2.S.sr (k - 1) j hkn (by omega) hj
          rw [show 6 * (k - 1 + 1) + j = 6 * k + j by omega] at e
          rw [e, show h.2 64 (k - 1) = rw6 (s.sr (k - 1)) d.M from T.1.S.sr (k - 1) hkn (by omega), c_row hC hM (by omega) (v.v.sr (k - 1) hkn (by omega))]
          exact Qu.mk _ rfl rfl
        · rw [if_neg (nI_ge (by omega) hk), if_pos (nI_lt (by omega) hk)]
          exact Qu.mk _ rfl rfl
      · rw [if_pos (show (200 : Int32) < nI k from nI_lt (a := 200) (by omega) hk), if_pos (show (200 : Int32) < nI k from nI_lt (a := 200) (by omega) hk)]
        exact Qu.mk _ rfl rfl
  · exact Qu.mk (-1) (by rw [has0 T.1.H.C c, Option.bind_some, if_pos rfl, Option.bind_some]) (by rw [r_isChair0 T.2.H c, Option.bind_some, if_pos rfl])
