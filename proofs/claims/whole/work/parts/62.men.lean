/-! sets of men and of deals -/
theorem and1 (x : Int32) : x &&& 1 = b01 (x.toBitVec.getLsbD 0) := by
  apply i32_ext
  intro i hi
  have h1 : ∀ i, i < 32 → (1 : Int32).toBitVec.getLsbD i = decide (i = 0) := by decide
  rw [Int32.toBitVec_and, BitVec.getLsbD_and, h1 i hi]
  by_cases q : i = 0
  · subst q
    cases x.toBitVec.getLsbD 0 <;> rfl
  · rw [decide_eq_false q, Bool.and_false]
    have h2 : ∀ b i, i < 32 → i ≠ 0 → (b01 b).toBitVec.getLsbD i = false := by decide
    exact (h2 _ i hi q).symm
theorem shb (x : Int32) {k : Nat} (hk : k < 32) : (x >>> (nI k &&& 31)) &&& 1 = b01 (x.toBitVec.getLsbD k) := by
  rw [and1]
  congr 1
  have h : ∀ k, k < 32 → ((nI k &&& 31).toBitVec.smod 32) = BitVec.ofNat 32 k := by decide +kernel
  rw [Int32.toBitVec_shiftRight, h k hk, BitVec.sshiftRight_eq', BitVec.getLsbD_sshiftRight, BitVec.toNat_ofNat, Nat.mod_eq_of_lt (by omega)]
  simp [hk]
theorem b01_eq0 {b : Bool} : b01 b = 0 ↔ b = false := by cases b <;> decide
theorem b01_eq1 {b : Bool} : b01 b = 1 ↔ b = true := by cases b <;> decide
theorem tst (P : Nat → Bool) {n i : Nat} (hn : n ≤ 31) (hi : i < n) : ((nI (bs P n) >>> (nI i &&& 31)) &&& 1) = b01 (P i) := by
  rw [shb _ (by omega), nI_bit _ (by omega), bs_bit, decide_eq_true hi, Bool.true_and]
theorem bs_put {P : Nat → Bool} {j : Nat} (hj : j < 31) (h : P j = true) : nI (bs P j) ||| ((1 : Int32) <<< (nI j &&& 31)) = nI (bs P (j + 1)) := by
  rw [one_shl hj, bs_or hj, bs, if_pos h]
theorem bs_skip {P : Nat → Bool} {j : Nat} (h : P j = false) : nI (bs P j) = nI (bs P (j + 1)) := by
  rw [bs, if_neg (by rw [h]; decide), Nat.add_zero]
theorem bs_skip0 {P : Nat → Bool} {j : Nat} (h : P j = false) : nI (bs P j) ||| (0 : Int32) = nI (bs P (j + 1)) := by
  rw [Int32.or_zero, bs_skip h]
def anyB (P : Nat → Bool) : Nat → Bool
  | 0 => false
  | n + 1 => anyB P n || P n
theorem anyB_f {P : Nat → Bool} : ∀ {n : Nat}, (∀ i, i < n → P i = false) → anyB P n = false
  | 0, _ => rfl
  | n + 1, h => by rw [anyB, anyB_f (fun i hi => h i (by omega)), h n (by omega)]; rfl
theorem anyB_one {P : Nat → Bool} {c : Nat} : ∀ {n : Nat}, c < n → (∀ i, i < n → i ≠ c → P i = false) → anyB P n = P c
  | 0, hc, _ => absurd hc (Nat.not_lt_zero c)
  | n + 1, hc, h => by
    rw [anyB]
    by_cases q : c = n
    · rw [anyB_f (fun i hi => h i (by omega) (by omega)), q, Bool.false_or]
    · rw [anyB_one (by omega) (fun i hi => h i (by omega)), h n (by omega) (fun e => q e.symm), Bool.or_false]
theorem anyB_cong {P Q : Nat → Bool} : ∀ {n : Nat}, (∀ i, i < n → P i = Q i) → anyB P n = anyB Q n
  | 0, _ => rfl
  | n + 1, h => by rw [anyB, anyB, anyB_cong (fun i hi => h i (by omega)), h n (by omega)]
/-- he sits on a place that counts; he naps; he may vote; he is bound -/
def seP (s : SD) (m : Nat) : Bool := !decide (s.wh m < 0) && !s.fo (s.wh m).toNatClampNeg
def napP (d : HD) (s : SD) (m : Nat) : Bool := !decide (s.wh m < 0) && (decide (0 < d.np) && decide (nI d.np ≤ s.sf m))
def voP (d : HD) (s : SD) (m : Nat) : Bool := seP s m && !napP d s m
def bnd (d : HD) (du : Nat → Bool) (x m : Nat) : Bool := anyB (fun i => decide (d.dm i = m) && (decide (d.dx i = x) && du i)) d.D
def heN (d : HD) (s : SD) : Nat := bs (fun m => !decide (s.wh m = -2)) d.M
def siN (d : HD) (s : SD) : Nat := bs (fun m => !decide (s.wh m < 0)) d.M
def yesP (d : HD) (V du : Nat → Bool) (x m : Nat) : Bool := V m && (bnd d du x m || decide (0 < d.wi m x))
def noP (d : HD) (V du : Nat → Bool) (x m : Nat) : Bool := V m && (!bnd d du x m && decide (d.wi m x < 0))
theorem c_here {o hh : Nat} {d : HD} {h0 h : HI} {s : SD} (w : HDw d) (R : CO o hh d h0 h s) : fX6_inHall o hh h = some (nI (heN d s), h) := by
  have hM := w.M6
  unfold fX6_inHall fX6_allMen
  rw [Option.bind_some, c_on w R, Option.bind_some, R.H.M, bs_all hM]
  unfold onP heN
  rw [bs_andn]
  rfl
theorem wh_neg {d : HD} {s : SD} (v : ∀ i, i < d.M → s.wh i = -2 ∨ s.wh i = -1 ∨ ∃ c, c < d.C ∧ s.wh i = nI c) {m : Nat} (w : HDw d) (hm : m < d.M) : (!decide (s.wh m = -2) && !decide (s.wh m = -1)) = !decide (s.wh m < 0) := by
  have hC := w.C6
  rcases v m hm with e | e | ⟨c, hc, e⟩
  · rw [e]; decide
  · rw [e]; decide
  · rw [e, decide_eq_false (nI_pos (by omega)), decide_eq_false, decide_eq_false]
    · rfl
    · intro q; exact nI_pos (n := c) (by omega) (by rw [q]; exact m1lt)
    · intro q; exact nI_pos (n := c) (by omega) (by rw [q]; exact m2lt)
theorem c_sit {o hh : Nat} {d : HD} {h0 h : HI} {s : SD} (w : HDw d) (v : ∀ i, i < d.M → s.wh i = -2 ∨ s.wh i = -1 ∨ ∃ c, c < d.C ∧ s.wh i = nI c) (R : CO o hh d h0 h s) : fX6_inChairs o hh h = some (nI (siN d s), h) := by
  unfold fX6_inChairs
  rw [c_here w R, Option.bind_some, c_on w R, Option.bind_some]
  unfold onP heN siN
  rw [bs_andn, bs_cong (fun i hi => wh_neg v w hi)]
theorem c_naps {o hh : Nat} {d : HD} {h0 h : HI} {s : SD} (w : HDw d) (R : CO o hh d h0 h s) {m : Nat} (hm : m < d.M) : fX6_naps o hh h (nI m) = some (b01 (napP d s m), h) := by
  have hM := w.M6
  have hnp := w.np
  unfold fX6_naps napP
  simp (disch := omega) only [gB, nI_clamp]
  rw [R.S.wh m (by omega), R.H.np, R.S.sf m (by omega)]
  by_cases c1 : s.wh m < 0
  · rw [if_pos c1, decide_eq_true c1]; rfl
  · rw [if_neg c1, decide_eq_false c1]
    by_cases c2 : 0 < d.np
    · rw [if_neg (nI_nle c2 (by omega)), decide_eq_true c2]
      by_cases c3 : s.sf m < nI d.np
      · rw [if_pos c3, decide_eq_false (Int32.not_le.mpr c3)]; rfl
      · rw [if_neg c3, decide_eq_true (Int32.not_lt.mp c3)]; rfl
    · rw [if_pos (show nI d.np ≤ 0 from nI_le (b := 0) (by omega) (by decide)), decide_eq_false c2]; rfl
theorem r_naps {d : HD} {h0 h : HI} {s : SD} (w : HDw d) (R : RO d h0 h s) {m : Nat} (hm : m < d.M) : fX9_doesNap 101 h (nI m) = some (b01 (napP d s m), h) := by
  have hM := w.M6
  have hnp := w.np
  unfold fX9_doesNap napP
  simp (disch := omega) only [gB, nI_clamp, Nat.reduceAdd]
  rw [R.S.wh m (by omega), R.H.np, R.S.sf m (by omega)]
  by_cases c1 : s.wh m < 0
  · rw [if_pos c1, decide_eq_true c1]; rfl
  · rw [if_neg c1, decide_eq_false c1]
    by_cases c2 : 0 < d.np
    · rw [if_neg (nI_nle c2 (by omega)), decide_eq_true c2]
      by_cases c3 : s.sf m < nI d.np
      · rw [if_pos c3, decide_eq_false (Int32.not_le.mpr c3)]; rfl
      · rw [if_neg c3, decide_eq_true (Int32.not_lt.mp c3)]; rfl
    · rw [if_pos (show nI d.np ≤ 0 from nI_le (b := 0) (by omega) (by decide)), decide_eq_false c2]; rfl
theorem nI_inj {a b : Nat} (ha : a < 2 ^ 31) (hb : b < 2 ^ 31) : decide (nI a = nI b) = decide (a = b) := decide_eq_decide.mpr (nI_eq ha hb)
theorem c_onSeats {o hh : Nat} {d : HD} {h0 h : HI} {s : SD} (w : HDw d) (v : SDv d s) (R : CO o hh d h0 h s) : fX6_onSeats o hh h = some (nI (bs (seP s) d.M), h) := by
  have hC := w.C6
  unfold fX6_onSeats
  rw [c_sit w v.wh R, Option.bind_some]
  obtain ⟨F, hL⟩ := lpd (fun n (p : Int32 × Int32) => fX6_onSeats_7 o hh (fun h5 v1 => some (v1, h5)) n h p.1 p.2) (fun j => (nI (bs (fun m => !decide (s.wh m < 0) && !anyB (fun c => s.fo c && decide (s.wh m = nI c)) j) d.M), nI j)) d.C (by omega) (by
    intro j hj n
    show fX6_onSeats_7 o hh _ (n + 1) h (nI (bs _ d.M)) (nI j) = fX6_onSeats_7 o hh _ n h (nI (bs _ d.M)) (nI (j + 1))
    rw [fX6_onSeats_7, R.H.C, if_neg (nI_ge hj (by omega)), c_isFound R (by omega), Option.bind_some]
    unfold fX6_onSeats_39
    cases e : s.fo j with
    | false =>
      rw [if_pos b01f, nI_1]
      congr 2
      refine bs_cong fun i hi => ?_
      rw [anyB, e, Bool.false_and, Bool.or_false]
    | true =>
      rw [if_neg b01t, c_on w R, Option.bind_some, nI_1]
      unfold onP
      rw [bs_andn]
      congr 2
      refine bs_cong fun i hi => ?_
      rw [anyB, e, Bool.true_and]
      cases decide (s.wh i < 0) <;> cases anyB (fun c => s.fo c && decide (s.wh i = nI c)) j <;> cases decide (s.wh i = nI j) <;> rfl)
  simp only at hL
  have e0 : nI (siN d s) = nI (bs (fun m => !decide (s.wh m < 0) && !anyB (fun c => s.fo c && decide (s.wh m = nI c)) 0) d.M) := by
    unfold siN
    congr 1
    refine bs_cong fun i hi => ?_
    rw [anyB, Bool.not_false, Bool.and_true]
  rw [e0]
  change fX6_onSeats_7 o hh _ FU h _ 0 = _ at hL
  rw [hL, fX6_onSeats_7, R.H.C, if_pos (nI_le (Nat.le_refl _) (by omega))]
  congr 3
  refine bs_cong fun i hi => ?_
  unfold seP
  rcases v.wh i hi with e | e | ⟨c, hc, e⟩
  · rw [e]; rfl
  · rw [e]; rfl
  · rw [e, nI_clamp (by omega), anyB_one hc, decide_eq_true rfl, Bool.and_true]
    intro k hk hkc
    rw [nI_inj (by omega) (by omega), decide_eq_false (fun q => hkc q.symm), Bool.and_false]
theorem c_voters {o hh : Nat} {d : HD} {h0 h : HI} {s : SD} (w : HDw d) (v : SDv d s) (R : CO o hh d h0 h s) : fX6_voters o hh h = some (nI (bs (voP d s) d.M), h) := by
  have hM := w.M6
  unfold fX6_voters
  rw [c_onSeats w v R, Option.bind_some]
  obtain ⟨F, hL⟩ := lpd (fun n (p : Int32 × Int32) => fX6_voters_7 o hh (fun h5 v1 => some (v1, h5)) n h p.1 p.2) (fun j => (nI (bs (fun m => seP s m && !(decide (m < j) && napP d s m)) d.M), nI j)) d.M (by omega) (by
    intro j hj n
    show fX6_voters_7 o hh _ (n + 1) h (nI (bs _ d.M)) (nI j) = fX6_voters_7 o hh _ n h (nI (bs _ d.M)) (nI (j + 1))
    rw [fX6_voters_7, R.H.M, if_neg (nI_ge hj (by omega)), c_naps w R hj, Option.bind_some]
    unfold fX6_voters_37
    cases e : napP d s j with
    | false =>
      rw [if_pos b01f, nI_1]
      congr 2
      refine bs_cong fun i hi => ?_
      by_cases q : i = j
      · rw [q, e, Bool.and_false, Bool.and_false]
      · rw [show decide (i < j + 1) = decide (i < j) from decide_eq_decide.mpr (by omega)]
    | true =>
      rw [if_neg b01t, one_shl (by omega), bs_rm, nI_1]
      congr 2
      refine bs_cong fun i hi => ?_
      by_cases q : i = j
      · rw [q, e, decide_eq_true rfl, decide_eq_true (by omega : j < j + 1)]; simp
      · rw [show decide (i < j + 1) = decide (i < j) from decide_eq_decide.mpr (by omega), decide_eq_false q, Bool.not_false, Bool.and_true])
  simp only at hL
  have e0 : nI (bs (seP s) d.M) = nI (bs (fun m => seP s m && !(decide (m < 0) && napP d s m)) d.M) := by
    congr 1
    refine bs_cong fun i hi => ?_
    rw [decide_eq_false (by omega), Bool.false_and, Bool.not_false, Bool.and_true]
  rw [e0]
  change fX6_voters_7 o hh _ FU h _ 0 = _ at hL
  rw [hL, fX6_voters_7, R.H.M, if_pos (nI_le (Nat.le_refl _) (by omega))]
  congr 3
  refine bs_cong fun i hi => ?_
  unfold voP
  rw [decide_eq_true hi, Bool.true_and]
theorem c_due {o hh : Nat} {d : HD} {h0 h : HI} {s : SD} (w : HDw d) (R : CO o hh d h0 h s) : fX6_dueDeals o hh h = some (nI (bs (due d s) d.D), h) := by
  have hD := w.D4
  have hM := w.M6
  have hX := w.X4
  unfold fX6_dueDeals
  obtain ⟨F, hL⟩ := lpd (fun n (p : Int32 × Int32) => fX6_dueDeals_4 o hh (fun h2 v1 => some (v1, h2)) n h p.1 p.2) (fun j => (nI (bs (due d s) j), nI j)) d.D (by omega) (by
    intro j hj n
    show fX6_dueDeals_4 o hh _ (n + 1) h (nI (bs _ j)) (nI j) = fX6_dueDeals_4 o hh _ n h (nI (bs _ (j + 1))) (nI (j + 1))
    have hdl := w.dl j hj
    rw [fX6_dueDeals_4, R.H.D, if_neg (nI_ge hj (by omega)), if_neg (show ¬ (4 : Int32) ≤ nI j from nI_ge (b := 4) (by omega) (by decide))]
    simp (disch := omega) only [gB, nI_clamp, R.H.om, R.H.ox, R.S.sp]
    unfold fX6_dueDeals_55
    rw [nI_1]
    by_cases q : ((s.sp (d.om j) >>> (nI (d.ox j) &&& 31)) &&& 1) = 0
    · rw [if_pos q, bs_skip (show due d s j = false from decide_eq_false (fun e => e q))]
    · rw [if_neg q, bs_put (by omega) (show due d s j = true from decide_eq_true q)])
  simp only at hL
  change fX6_dueDeals_4 o hh _ FU h 0 0 = _ at hL
  rw [hL, fX6_dueDeals_4, R.H.D, if_pos (nI_le (Nat.le_refl _) (by omega))]
theorem c_bound {hh : Nat} {d : HD} {h : HI} (w : HDw d) (R : CH hh d h) {x : Nat} (hx : x < d.X) (q : Int32) (du : Nat → Bool) (hq : ∀ i, i < d.D → ((q >>> (nI i &&& 31)) &&& 1) = b01 (du i)) : fX1_boundMen hh h (nI x) q = some (nI (bs (bnd d du x) d.M), h) := by
  have hD := w.D4
  have hM := w.M6
  have hX := w.X4
  unfold fX1_boundMen
  obtain ⟨F, hL⟩ := lpd (fun n (p : Int32 × Int32) => fX1_boundMen_5 hh (fun h2 v1 => some (v1, h2)) n h (nI x) q p.1 p.2) (fun j => (nI (bs (fun m => anyB (fun i => decide (d.dm i = m) && (decide (d.dx i = x) && du i)) j) d.M), nI j)) d.D (by omega) (by
    intro j hj n
    show fX1_boundMen_5 hh _ (n + 1) h (nI x) q (nI (bs _ d.M)) (nI j) = fX1_boundMen_5 hh _ n h (nI x) q (nI (bs _ d.M)) (nI (j + 1))
    have hdl := w.dl j hj
    rw [fX1_boundMen_5, R.D, if_neg (nI_ge hj (by omega)), if_neg (show ¬ (4 : Int32) ≤ nI j from nI_ge (b := 4) (by omega) (by decide))]
    simp (disch := omega) only [gB, nI_clamp, R.dm, R.dx, hq]
    unfold fX1_boundMen_52
    rw [nI_1]
    by_cases q1 : d.dx j = x
    · rw [if_pos (congrArg nI q1)]
      cases e : du j with
      | false =>
        rw [if_pos b01f]
        congr 2
        refine bs_cong fun i hi => ?_
        rw [anyB, e, Bool.and_false, Bool.and_false, Bool.or_false]
      | true =>
        rw [if_neg b01t, one_shl (by omega), bs_one _ hdl.1]
        congr 2
        refine bs_cong fun i hi => ?_
        rw [anyB, e, decide_eq_true q1, Bool.and_true, Bool.and_true, show decide (i = d.dm j) = decide (d.dm j = i) from decide_eq_decide.mpr ⟨Eq.symm, Eq.symm⟩, Bool.or_comm]
    · rw [if_neg (fun e => q1 ((nI_eq (by omega) (by omega)).mp e))]
      congr 2
      refine bs_cong fun i hi => ?_
      rw [anyB, decide_eq_false q1, Bool.false_and, Bool.and_false, Bool.or_false])
  simp only at hL
  have e0 : (0 : Int32) = nI (bs (fun m => anyB (fun i => decide (d.dm i = m) && (decide (d.dx i = x) && du i)) 0) d.M) := by
    have : ∀ n, bs (fun _ => false) n = 0 := by
      intro n
      induction n with
      | zero => rfl
      | succ n ih => rw [bs, ih]; rfl
    rw [show (fun m => anyB (fun i => decide (d.dm i = m) && (decide (d.dx i = x) && du i)) 0) = fun _ => false from rfl, this]; rfl
  change fX1_boundMen_5 hh _ FU h (nI x) q _ 0 = _ at hL
  rw [← e0] at hL
  rw [hL, fX1_boundMen_5, R.D, if_pos (nI_le (Nat.le_refl _) (by omega))]
  rfl
theorem c_yes {o hh : Nat} {d : HD} {h0 h : HI} {s : SD} (w : HDw d) (v : SDv d s) (R : CO o hh d h0 h s) {x : Nat} (hx : x < d.X) : fX6_yesMen o hh h (nI x) = some (nI (bs (yesP d (voP d s) (due d s) x) d.M), h) := by
  have hX := w.X4
  have hD := w.D4
  unfold fX6_yesMen
  rw [c_voters w v R, Option.bind_some]
  simp (disch := omega) only [gB, nI_clamp]
  rw [c_due w R, Option.bind_some, c_bound w R.H hx _ (due d s) (fun i hi => tst _ (by omega) hi), Option.bind_some, R.H.li x hx, bs_orr, bs_and]
  congr 3
  refine bs_cong fun i hi => ?_
  unfold yesP
  rw [Bool.or_comm]
theorem c_no {o hh : Nat} {d : HD} {h0 h : HI} {s : SD} (w : HDw d) (v : SDv d s) (R : CO o hh d h0 h s) {x : Nat} (hx : x < d.X) : fX6_noMen o hh h (nI x) = some (nI (bs (noP d (voP d s) (due d s) x) d.M), h) := by
  have hX := w.X4
  have hD := w.D4
  unfold fX6_noMen
  rw [c_voters w v R, Option.bind_some]
  simp (disch := omega) only [gB, nI_clamp]
  rw [c_due w R, Option.bind_some, c_bound w R.H hx _ (due d s) (fun i hi => tst _ (by omega) hi), Option.bind_some, R.H.dl x hx, bs_and, bs_andn]
  congr 3
  refine bs_cong fun i hi => ?_
  unfold noP
  cases voP d s i <;> cases bnd d (due d s) x i <;> cases decide (d.wi i x < 0) <;> rfl
/-! the same of the reference -/
theorem r_here {d : HD} {h0 h : HI} {s : SD} (w : HDw d) (R : RO d h0 h s) : fX9_hereSet 101 h = some (nI (heN d s), h) := by
  have hM := w.M6
  unfold fX9_hereSet heN
  obtain ⟨F, hL⟩ := lpd (fun n (p : Int32 × Int32) => fX9_hereSet_4 101 (fun h4 v1 => some (v1, h4)) n h p.1 p.2) (fun j => (nI (bs (fun m => !decide (s.wh m = -2)) j), nI j)) d.M (by omega) (by
    intro j hj n
    show fX9_hereSet_4 101 _ (n + 1) h (nI (bs _ j)) (nI j) = fX9_hereSet_4 101 _ n h (nI (bs _ (j + 1))) (nI (j + 1))
    rw [fX9_hereSet_4, r_men R.H, Option.bind_some, if_neg (nI_ge hj (by omega))]
    unfold fX9_isHere fX9_hereSet_28
    simp (disch := omega) only [gB, nI_clamp, Nat.reduceAdd]
    rw [R.S.wh j (by omega), nI_1]
    by_cases q : s.wh j = -2
    · rw [if_pos q, Option.bind_some, if_pos rfl, bs_skip0 (by rw [decide_eq_true q]; rfl)]
    · rw [if_neg q, Option.bind_some, if_neg ne10, bs_put (by omega) (by rw [decide_eq_false q]; rfl)])
  simp only at hL
  change fX9_hereSet_4 101 _ FU h 0 0 = _ at hL
  rw [hL, fX9_hereSet_4, r_men R.H, Option.bind_some, if_pos (nI_le (Nat.le_refl _) (by omega))]
theorem r_up {d : HD} {h0 h : HI} {s : SD} (w : HDw d) (R : RO d h0 h s) : fX9_upSet 101 h = some (nI (bs (fun m => decide (s.wh m < 0)) d.M), h) := by
  have hM := w.M6
  unfold fX9_upSet
  obtain ⟨F, hL⟩ := lpd (fun n (p : Int32 × Int32) => fX9_upSet_4 101 (fun h4 v1 => some (v1, h4)) n h p.1 p.2) (fun j => (nI (bs (fun m => decide (s.wh m < 0)) j), nI j)) d.M (by omega) (by
    intro j hj n
    show fX9_upSet_4 101 _ (n + 1) h (nI (bs _ j)) (nI j) = fX9_upSet_4 101 _ n h (nI (bs _ (j + 1))) (nI (j + 1))
    rw [fX9_upSet_4, r_men R.H, Option.bind_some, if_neg (nI_ge hj (by omega))]
    unfold fX9_upSet_29
    simp (disch := omega) only [gB, nI_clamp, Nat.reduceAdd]
    rw [R.S.wh j (by omega), nI_1]
    by_cases q : s.wh j < 0
    · rw [if_neg (Int32.not_le.mpr q), bs_put (by omega) (decide_eq_true q)]
    · rw [if_pos (Int32.not_lt.mp q), bs_skip0 (decide_eq_false q)])
  simp only at hL
  change fX9_upSet_4 101 _ FU h 0 0 = _ at hL
  rw [hL, fX9_upSet_4, r_men R.H, Option.bind_some, if_pos (nI_le (Nat.le_refl _) (by omega))]
theorem wh_c {d : HD} {s : SD} (w : HDw d) (v : SDv d s) {m : Nat} (hm : m < d.M) (c : ¬ s.wh m < 0) : ∃ c, c < d.C ∧ s.wh m = nI c := by
  rcases v.wh m hm with e | e | e
  · exact absurd (by rw [e]; exact m2lt) c
  · exact absurd (by rw [e]; exact m1lt) c
  · exact e
theorem r_seated {d : HD} {h0 h : HI} {s : SD} (w : HDw d) (v : SDv d s) (R : RO d h0 h s) : fX9_seated 101 h = some (nI (bs (seP s) d.M), h) := by
  have hM := w.M6
  have hC := w.C6
  unfold fX9_seated
  obtain ⟨F, hL⟩ := lpd (fun n (p : Int32 × Int32) => fX9_seated_4 101 (fun h4 v1 => some (v1, h4)) n h p.1 p.2) (fun j => (nI (bs (seP s) j), nI j)) d.M (by omega) (by
    intro j hj n
    show fX9_seated_4 101 _ (n + 1) h (nI (bs _ j)) (nI j) = fX9_seated_4 101 _ n h (nI (bs _ (j + 1))) (nI (j + 1))
    rw [fX9_seated_4, r_men R.H, Option.bind_some, if_neg (nI_ge hj (by omega))]
    unfold fX9_seated_42 fX9_seated_43
    by_cases q : s.wh j < 0
    · simp (disch := omega) only [gB, nI_clamp, Nat.reduceAdd, R.S.wh, nI_1]
      rw [if_pos q, bs_skip0 (by unfold seP; rw [decide_eq_true q]; rfl)]
    · obtain ⟨c, hc, e⟩ := wh_c w v hj q
      simp (disch := omega) only [gB, nI_clamp, Nat.reduceAdd, R.S.wh, nI_1, e, R.S.fo]
      rw [if_neg (nI_pos (by omega))]
      cases f : s.fo c with
      | false => rw [if_pos b01f, bs_put (by omega) (by unfold seP; rw [e, nI_clamp (by omega), f, decide_eq_false (nI_pos (by omega))]; rfl)]
      | true => rw [if_neg b01t, bs_skip0 (by unfold seP; rw [e, nI_clamp (by omega), f, decide_eq_false (nI_pos (by omega))]; rfl)])
  simp only at hL
  change fX9_seated_4 101 _ FU h 0 0 = _ at hL
  rw [hL, fX9_seated_4, r_men R.H, Option.bind_some, if_pos (nI_le (Nat.le_refl _) (by omega))]
theorem r_voters {d : HD} {h0 h : HI} {s : SD} (w : HDw d) (v : SDv d s) (R : RO d h0 h s) : fX9_voters 101 h = some (nI (bs (voP d s) d.M), h) := by
  have hM := w.M6
  have hC := w.C6
  unfold fX9_voters
  obtain ⟨F, hL⟩ := lpd (fun n (p : Int32 × Int32) => fX9_voters_4 101 (fun h4 v1 => some (v1, h4)) n h p.1 p.2) (fun j => (nI (bs (voP d s) j), nI j)) d.M (by omega) (by
    intro j hj n
    show fX9_voters_4 101 _ (n + 1) h (nI (bs _ j)) (nI j) = fX9_voters_4 101 _ n h (nI (bs _ (j + 1))) (nI (j + 1))
    rw [fX9_voters_4, r_men R.H, Option.bind_some, if_neg (nI_ge hj (by omega))]
    unfold fX9_voters_50 fX9_voters_51
    by_cases q : s.wh j < 0
    · simp (disch := omega) only [gB, nI_clamp, Nat.reduceAdd, R.S.wh, nI_1]
      rw [if_pos q, bs_skip0 (by unfold voP seP; rw [decide_eq_true q]; rfl)]
    · obtain ⟨c, hc, e⟩ := wh_c w v hj q
      simp (disch := omega) only [gB, nI_clamp, Nat.reduceAdd, R.S.wh, nI_1, r_naps w R hj, Option.bind_some]
      rw [if_neg q]
      cases g : napP d s j with
      | true => rw [if_neg b01t, bs_skip0 (by unfold voP; rw [g, Bool.not_true, Bool.and_false])]
      | false =>
        rw [if_pos b01f]
        simp (disch := omega) only [gB, nI_clamp, e, R.S.fo]
        cases f : s.fo c with
        | false => rw [if_pos b01f, bs_put (by omega) (by unfold voP seP; rw [g, e, nI_clamp (by omega), f, decide_eq_false (nI_pos (by omega))]; rfl)]
        | true => rw [if_neg b01t, bs_skip0 (by unfold voP seP; rw [g, e, nI_clamp (by omega), f, decide_eq_false (nI_pos (by omega))]; rfl)])
  simp only at hL
  change fX9_voters_4 101 _ FU h 0 0 = _ at hL
  rw [hL, fX9_voters_4, r_men R.H, Option.bind_some, if_pos (nI_le (Nat.le_refl _) (by omega))]
theorem nI_m4 (j k : Nat) : (4 : Int32) * nI j + nI k = nI (4 * j + k) := by rw [show (4 : Int32) = nI 4 from rfl, nI_mu, nI_add]
theorem nI_m40 (j : Nat) : (4 : Int32) * nI j = nI (4 * j) := by rw [show (4 : Int32) = nI 4 from rfl, nI_mu]
theorem r_due {d : HD} {h0 h : HI} {s : SD} (w : HDw d) (R : RO d h0 h s) : fX9_dueSet 101 h = some (nI (bs (due d s) d.D), h) := by
  have hD := w.D4
  have hM := w.M6
  have hX := w.X4
  unfold fX9_dueSet
  obtain ⟨F, hL⟩ := lpd (fun n (p : Int32 × Int32) => fX9_dueSet_4 101 (fun h2 v1 => some (v1, h2)) n h p.1 p.2) (fun j => (nI (bs (due d s) j), nI j)) d.D (by omega) (by
    intro j hj n
    show fX9_dueSet_4 101 _ (n + 1) h (nI (bs _ j)) (nI j) = fX9_dueSet_4 101 _ n h (nI (bs _ (j + 1))) (nI (j + 1))
    have hdl := w.dl j hj
    rw [fX9_dueSet_4, R.H.D, if_neg (nI_ge hj (by omega)), show (2 : Int32) = nI 2 from rfl, show (3 : Int32) = nI 3 from rfl, nI_m4, nI_m4]
    simp (disch := omega) only [gB, nI_clamp, Nat.reduceAdd, R.H.om, R.H.ox, R.S.sp]
    unfold fX9_dueSet_52
    rw [nI_1]
    have e := shb (s.sp (d.om j)) (k := d.ox j) (by omega)
    cases b : (s.sp (d.om j)).toBitVec.getLsbD (d.ox j) with
    | false =>
      rw [b] at e
      rw [if_neg (by rw [e]; decide), bs_skip0 (show due d s j = false from decide_eq_false (fun q => q e))]
    | true =>
      rw [b] at e
      rw [if_pos (by rw [e]; decide), bs_put (by omega) (show due d s j = true from decide_eq_true (by rw [e]; decide))])
  simp only at hL
  change fX9_dueSet_4 101 _ FU h 0 0 = _ at hL
  rw [hL, fX9_dueSet_4, R.H.D, if_pos (nI_le (Nat.le_refl _) (by omega))]
theorem r_bound {d : HD} {h : HI} (w : HDw d) (R : RH d h) {x m : Nat} (hx : x < d.X) (hm : m < d.M) (q : Int32) (du : Nat → Bool) (hq : ∀ i, i < d.D → ((q >>> (nI i &&& 31)) &&& 1) = b01 (du i)) : fX9_isBound 101 h (nI m) (nI x) q = some (b01 (bnd d du x m), h) := by
  have hD := w.D4
  have hM := w.M6
  have hX := w.X4
  unfold fX9_isBound
  obtain ⟨F, hL⟩ := lpd (fun n (p : Int32 × Int32) => fX9_isBound_6 101 (fun h2 v4 => (if v4 = 0 ∨ v4 = 1 then some (v4, h2) else none)) n h (nI m) (nI x) q p.1 p.2) (fun j => (b01 (anyB (fun i => decide (d.dm i = m) && (decide (d.dx i = x) && du i)) j), nI j)) d.D (by omega) (by
    intro j hj n
    show fX9_isBound_6 101 _ (n + 1) h (nI m) (nI x) q (b01 _) (nI j) = fX9_isBound_6 101 _ n h (nI m) (nI x) q (b01 _) (nI (j + 1))
    have hdl := w.dl j hj
    rw [fX9_isBound_6, R.D, if_neg (nI_ge hj (by omega)), show (4 : Int32) * nI j + (1 : Int32) = nI (4 * j + 1) from nI_m4 j 1, nI_m40]
    simp (disch := omega) only [gB, nI_clamp, Nat.reduceAdd, R.dm, R.dx, hq]
    unfold fX9_isBound_62 fX9_isBound_58 fX9_isBound_63
    rw [nI_1, anyB]
    cases a : anyB (fun i => decide (d.dm i = m) && (decide (d.dx i = x) && du i)) j with
    | true => rw [if_neg b01t, Bool.true_or]; rfl
    | false =>
      rw [if_pos b01f, Bool.false_or]
      by_cases q1 : d.dm j = m
      · rw [if_pos (congrArg nI q1), decide_eq_true q1, Bool.true_and]
        by_cases q2 : d.dx j = x
        · rw [if_pos (congrArg nI q2), decide_eq_true q2, Bool.true_and]
          cases du j with
          | false => rw [if_neg (by decide)]; rfl
          | true => rw [if_pos (by decide)]; rfl
        · rw [if_neg (fun e => q2 ((nI_eq (by omega) (by omega)).mp e)), decide_eq_false q2, Bool.false_and]; rfl
      · rw [if_neg (fun e => q1 ((nI_eq (by omega) (by omega)).mp e)), decide_eq_false q1, Bool.false_and]; rfl)
  simp only at hL
  change fX9_isBound_6 101 _ FU h (nI m) (nI x) q 0 0 = _ at hL
  rw [hL, fX9_isBound_6, R.D, if_pos (nI_le (Nat.le_refl _) (by omega))]
  unfold bnd
  cases anyB (fun i => decide (d.dm i = m) && (decide (d.dx i = x) && du i)) d.D <;> rfl
theorem ofI_pos {z : Int} (h1 : -99 ≤ z) (h2 : z ≤ 99) : (Int32.ofInt z ≤ 0 ↔ ¬ 0 < z) ∧ (0 ≤ Int32.ofInt z ↔ ¬ z < 0) := by
  have h : ∀ n : Nat, n ≤ 99 → ((Int32.ofInt n ≤ 0 ↔ ¬ 0 < (n : Int)) ∧ (0 ≤ Int32.ofInt n ↔ ¬ (n : Int) < 0)) ∧ ((Int32.ofInt (-(n : Int)) ≤ 0 ↔ ¬ 0 < -(n : Int)) ∧ (0 ≤ Int32.ofInt (-(n : Int)) ↔ ¬ -(n : Int) < 0)) := by decide +kernel
  rcases Int.le_total 0 z with q | q
  · have := (h z.toNat (by omega)).1
    rw [Int.toNat_of_nonneg q] at this
    exact this
  · have := (h (-z).toNat (by omega)).2
    rw [Int.toNat_of_nonneg (by omega), Int.neg_neg] at this
    exact this
theorem r_yes {d : HD} {h : HI} (w : HDw d) (R : RH d h) {x : Nat} (hx : x < d.X) (S q : Int32) (V du : Nat → Bool) (hS : ∀ i, i < d.M → ((S >>> (nI i &&& 31)) &&& 1) = b01 (V i)) (hq : ∀ i, i < d.D → ((q >>> (nI i &&& 31)) &&& 1) = b01 (du i)) : fX9_yesOf 101 h S (nI x) q = some (nI (bs (yesP d V du x) d.M), h) := by
  have hM := w.M6
  have hX := w.X4
  unfold fX9_yesOf
  obtain ⟨F, hL⟩ := lpd (fun n (p : Int32 × Int32) => fX9_yesOf_6 101 (fun h4 v4 => some (v4, h4)) n h S (nI x) q p.1 p.2) (fun j => (nI (bs (yesP d V du x) j), nI j)) d.M (by omega) (by
    intro j hj n
    show fX9_yesOf_6 101 _ (n + 1) h S (nI x) q (nI (bs _ j)) (nI j) = fX9_yesOf_6 101 _ n h S (nI x) q (nI (bs _ (j + 1))) (nI (j + 1))
    rw [fX9_yesOf_6, r_men R, Option.bind_some, if_neg (nI_ge hj (by omega)), hS j hj, r_bound w R hx hj q du hq, Option.bind_some, nI_m4]
    unfold fX9_yesOf_59 fX9_yesOf_52 fX9_yesOf_60
    simp (disch := omega) only [gB, nI_clamp, Nat.reduceAdd, R.wi, nI_1]
    have hw := w.wi j x
    have e := (ofI_pos hw.1 hw.2).1
    cases a : V j with
    | false => rw [if_neg (by decide), bs_skip0 (by unfold yesP; rw [a]; rfl)]
    | true =>
      rw [if_pos (by decide)]
      cases b : bnd d du x j with
      | true => rw [if_neg b01t, bs_put (by omega) (by unfold yesP; rw [a, b]; rfl)]
      | false =>
        rw [if_pos b01f]
        by_cases c : 0 < d.wi j x
        · rw [if_neg (fun z => e.mp z c), bs_put (by omega) (by unfold yesP; rw [a, b, decide_eq_true c]; rfl)]
        · rw [if_pos (e.mpr c), bs_skip0 (by unfold yesP; rw [a, b, decide_eq_false c]; rfl)])
  simp only at hL
  change fX9_yesOf_6 101 _ FU h S (nI x) q 0 0 = _ at hL
  rw [hL, fX9_yesOf_6, r_men R, Option.bind_some, if_pos (nI_le (Nat.le_refl _) (by omega))]
theorem r_no {d : HD} {h : HI} (w : HDw d) (R : RH d h) {x : Nat} (hx : x < d.X) (S q : Int32) (V du : Nat → Bool) (hS : ∀ i, i < d.M → ((S >>> (nI i &&& 31)) &&& 1) = b01 (V i)) (hq : ∀ i, i < d.D → ((q >>> (nI i &&& 31)) &&& 1) = b01 (du i)) : fX9_noOf 101 h S (nI x) q = some (nI (bs (noP d V du x) d.M), h) := by
  have hM := w.M6
  have hX := w.X4
  unfold fX9_noOf
  obtain ⟨F, hL⟩ := lpd (fun n (p : Int32 × Int32) => fX9_noOf_6 101 (fun h4 v4 => some (v4, h4)) n h S (nI x) q p.1 p.2) (fun j => (nI (bs (noP d V du x) j), nI j)) d.M (by omega) (by
    intro j hj n
    show fX9_noOf_6 101 _ (n + 1) h S (nI x) q (nI (bs _ j)) (nI j) = fX9_noOf_6 101 _ n h S (nI x) q (nI (bs _ (j + 1))) (nI (j + 1))
    rw [fX9_noOf_6, r_men R, Option.bind_some, if_neg (nI_ge hj (by omega)), hS j hj, r_bound w R hx hj q du hq, Option.bind_some, nI_m4]
    unfold fX9_noOf_59 fX9_noOf_60
    simp (disch := omega) only [gB, nI_clamp, Nat.reduceAdd, R.wi, nI_1]
    have hw := w.wi j x
    have e := (ofI_pos hw.1 hw.2).2
    cases a : V j with
    | false => rw [if_neg (by decide), bs_skip0 (by unfold noP; rw [a]; rfl)]
    | true =>
      rw [if_pos (by decide)]
      cases b : bnd d du x j with
      | true => rw [if_neg b01t, bs_skip0 (by unfold noP; rw [a, b]; rfl)]
      | false =>
        rw [if_pos b01f]
        by_cases c : d.wi j x < 0
        · rw [if_neg (fun z => e.mp z c), bs_put (by omega) (by unfold noP; rw [a, b, decide_eq_true c]; rfl)]
        · rw [if_pos (e.mpr c), bs_skip0 (by unfold noP; rw [a, b, decide_eq_false c]; rfl)])
  simp only at hL
  change fX9_noOf_6 101 _ FU h S (nI x) q 0 0 = _ at hL
  rw [hL, fX9_noOf_6, r_men R, Option.bind_some, if_pos (nI_le (Nat.le_refl _) (by omega))]
/-! seats -/
def stN (d : HD) (s : SD) : Nat → Nat
  | 0 => 0
  | n + 1 => stN d s n + (if s.br n || s.fo n then 0 else d.ho n)
theorem stN_le {d : HD} (w : HDw d) (s : SD) : ∀ n, n ≤ d.C → stN d s n ≤ 2 * n
  | 0, _ => Nat.le_refl 0
  | n + 1, h => by
    have ih := stN_le w s n (by omega)
    have := w.ho n (by omega)
    rw [stN]
    split <;> omega
theorem c_seats {o hh : Nat} {d : HD} {h0 h : HI} {s : SD} (w : HDw d) (R : CO o hh d h0 h s) : fX6_seats o hh h = some (nI (stN d s d.C), h) := by
  have hC := w.C6
  unfold fX6_seats
  obtain ⟨F, hL⟩ := lpd (fun n (p : Int32 × Int32) => fX6_seats_4 o hh (fun h4 v4 => some (v4, h4)) n h p.1 p.2) (fun j => (nI (stN d s j), nI j)) d.C (by omega) (by
    intro j hj n
    show fX6_seats_4 o hh _ (n + 1) h (nI _) (nI j) = fX6_seats_4 o hh _ n h (nI _) (nI (j + 1))
    rw [fX6_seats_4, R.H.C, if_neg (nI_ge hj (by omega)), c_isBroken R (by omega), Option.bind_some, c_isFound R (by omega), Option.bind_some, stN]
    unfold fX6_seats_46
    simp (disch := omega) only [gB, nI_clamp, R.H.ho, nI_1, nI_add]
    cases s.br j with
    | true => rw [if_neg b01t, Bool.true_or, if_pos rfl]; rfl
    | false =>
      rw [if_pos b01f, Bool.false_or]
      cases s.fo j with
      | true => rw [if_neg b01t, if_pos rfl]; rfl
      | false => rw [if_pos b01f, if_neg (by decide)])
  simp only at hL
  change fX6_seats_4 o hh _ FU h 0 0 = _ at hL
  rw [hL, fX6_seats_4, R.H.C, if_pos (nI_le (Nat.le_refl _) (by omega))]
theorem r_seats {d : HD} {h0 h : HI} {s : SD} (w : HDw d) (R : RO d h0 h s) : fX9_seats 101 h = some (nI (stN d s d.C), h) := by
  have hC := w.C6
  unfold fX9_seats
  obtain ⟨F, hL⟩ := lpd (fun n (p : Int32 × Int32) => fX9_seats_4 101 (fun h4 v4 => some (v4, h4)) n h p.1 p.2) (fun j => (nI (stN d s j), nI j)) d.C (by omega) (by
    intro j hj n
    show fX9_seats_4 101 _ (n + 1) h (nI _) (nI j) = fX9_seats_4 101 _ n h (nI _) (nI (j + 1))
    rw [fX9_seats_4, show h.1 (101 + 11) 0 = nI d.C from R.H.C, if_neg (nI_ge hj (by omega)), stN]
    unfold fX9_seats_33 fX9_seats_43
    simp (disch := omega) only [gB, nI_clamp, Nat.reduceAdd, R.H.ho, R.S.br, R.S.fo, nI_1, nI_add]
    cases s.br j with
    | true => rw [if_neg b01t, Bool.true_or, if_pos rfl, Int32.add_zero]; rfl
    | false =>
      rw [if_pos b01f, Bool.false_or]
      cases s.fo j with
      | true => rw [if_neg b01t, if_pos rfl, Int32.add_zero]; rfl
      | false => rw [if_pos b01f, if_neg (by decide)])
  simp only at hL
  change fX9_seats_4 101 _ FU h 0 0 = _ at hL
  rw [hL, fX9_seats_4, show h.1 (101 + 11) 0 = nI d.C from R.H.C, if_pos (nI_le (Nat.le_refl _) (by omega))]
