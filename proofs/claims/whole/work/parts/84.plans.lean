/-! plans: best, fewest, lets -/
theorem ct_or2 (P Q : Nat → Bool) : ∀ n, ct (fun i => P i || Q i) n ≤ ct P n + ct Q n
  | 0 => Nat.le_refl _
  | n + 1 => by
    have ih := ct_or2 P Q n
    rw [ct, ct, ct]
    cases P n <;> cases Q n <;> simp <;> omega
theorem seP_c {d : HD} {s : SD} (w : HDw d) (v : SDv d s) {m : Nat} (hm : m < d.M) (h : seP s m = true) : ∃ c, c < d.C ∧ s.wh m = nI c ∧ s.fo c = false ∧ (s.wh m).toNatClampNeg = c := by
  unfold seP at h
  rw [Bool.and_eq_true, Bool.not_eq_true', Bool.not_eq_true', decide_eq_false_iff_not] at h
  obtain ⟨c, hc, e⟩ := wh_c w v hm h.1
  have hC := w.C6
  have e2 : (s.wh m).toNatClampNeg = c := by rw [e, nI_clamp (by omega)]
  exact ⟨c, hc, e, by rw [← e2]; exact h.2, e2⟩
theorem se_st {d : HD} {s : SD} (w : HDw d) (v : SDw d s) : ∀ n, n ≤ d.C → ct (fun m => seP s m && decide ((s.wh m).toNatClampNeg < n)) d.M ≤ stN d s n
  | 0, _ => by
    rw [ct_cong (Q := fun _ => false) (fun i _ => by rw [decide_eq_false (Nat.not_lt_zero _), Bool.and_false]), ct_f]
    exact Nat.zero_le _
  | n + 1, hn => by
    have ih := se_st w v n (by omega)
    have hoc := v.oc n (by omega)
    have hC := w.C6
    rw [stN]
    have h1 : ct (fun m => seP s m && decide ((s.wh m).toNatClampNeg < n + 1)) d.M ≤ ct (fun m => seP s m && decide ((s.wh m).toNatClampNeg < n)) d.M + ct (fun m => seP s m && decide (s.wh m = nI n)) d.M := by
      refine Nat.le_trans (ct_mono (Q := fun m => (seP s m && decide ((s.wh m).toNatClampNeg < n)) || (seP s m && decide (s.wh m = nI n))) fun i hi q => ?_) (ct_or2 _ _ _)
      simp only [Bool.and_eq_true, decide_eq_true_eq] at q
      obtain ⟨c, hc, e, _, e2⟩ := seP_c w v.v hi q.1
      simp only [Bool.or_eq_true, Bool.and_eq_true, decide_eq_true_eq]
      rcases (show c < n ∨ c = n by omega) with z | z
      · exact Or.inl ⟨q.1, by omega⟩
      · exact Or.inr ⟨q.1, by rw [e, z]⟩
    have h2 : ct (fun m => seP s m && decide (s.wh m = nI n)) d.M ≤ if s.br n || s.fo n then 0 else d.ho n := by
      cases q : s.fo n with
      | true =>
        rw [ct_cong (Q := fun _ => false) (fun i hi => ?_), ct_f]
        · exact Nat.zero_le _
        · cases q2 : seP s i with
          | false => rfl
          | true =>
            obtain ⟨c, hc, e, e3, e2⟩ := seP_c w v.v hi q2
            rw [Bool.true_and]
            refine decide_eq_false fun e4 => ?_
            have := (nI_eq (by omega) (by omega)).mp (e.symm.trans e4)
            rw [this, q] at e3
            cases e3
      | false =>
        rw [Bool.or_false]
        refine Nat.le_trans (ct_mono fun i _ q2 => ?_) hoc
        simp only [Bool.and_eq_true] at q2
        exact q2.2
    omega
theorem se_pc {d : HD} {s : SD} (w : HDw d) (v : SDw d s) : pc6 (bs (seP s) d.M) ≤ stN d s d.C := by
  rw [pc6_bs _ w.M6]
  refine Nat.le_trans (ct_mono fun i hi q => ?_) (se_st w v d.C (Nat.le_refl _))
  obtain ⟨c, hc, e, _, e2⟩ := seP_c w v.v hi q
  simp only [Bool.and_eq_true, decide_eq_true_eq]
  exact ⟨q, by omega⟩
theorem se_sub {d : HD} {s : SD} {H : Nat} (h : ∀ m, m < d.M → seP s m = true → H.testBit m = true) : bs (seP s) d.M &&& H = bs (seP s) d.M := by
  apply Nat.eq_of_testBit_eq
  intro i
  rw [Nat.testBit_and, bs_bit]
  by_cases q : i < d.M
  · cases q2 : seP s i with
    | false => simp
    | true => rw [h i q q2]; simp
  · rw [decide_eq_false q]; rfl
theorem se_he {d : HD} {s : SD} (m : Nat) (hm : m < d.M) (h : seP s m = true) : (heN d s).testBit m = true := by
  unfold heN
  rw [bs_bit, decide_eq_true hm, Bool.true_and, Bool.not_eq_true']
  unfold seP at h
  rw [Bool.and_eq_true, Bool.not_eq_true', decide_eq_false_iff_not] at h
  refine decide_eq_false fun e => h.1 ?_
  rw [e]; exact m2lt
/-! the first of those who sit -/
def foN (S n : Nat) : Nat → Nat
  | 0 => 0
  | j + 1 => if S.testBit j = true ∧ pc6 (foN S n j) < n then foN S n j ||| 2 ^ j else foN S n j
theorem foN_lt (S n : Nat) : ∀ j, foN S n j < 2 ^ j
  | 0 => Nat.zero_lt_one
  | j + 1 => by
    have ih := foN_lt S n j
    have h2 : foN S n j < 2 ^ (j + 1) := Nat.lt_of_lt_of_le ih (Nat.pow_le_pow_right (by decide) (by omega))
    rw [foN]
    split
    · exact or_pow_lt h2 (by omega)
    · exact h2
theorem foN_pc {S n j : Nat} (hj : j < 6) : pc6 (foN S n j ||| 2 ^ j) = pc6 (foN S n j) + 1 := by
  have h := foN_lt S n j
  have h6 : foN S n j < 64 := Nat.lt_of_lt_of_le h (Nat.pow_le_pow_right (n := 2) (j := 6) (by decide) (by omega))
  have e := (xo_t _ h6 j hj).2.1 (Nat.testBit_lt_two_pow h)
  rw [e.2, e.1]
theorem foN_ok (S n : Nat) : ∀ j, j ≤ 6 → foN S n j &&& S = foN S n j ∧ pc6 (foN S n j) ≤ n
  | 0, _ => ⟨by rw [foN, Nat.zero_and], by rw [foN]; exact Nat.zero_le _⟩
  | j + 1, hj => by
    have ih := foN_ok S n j (by omega)
    rw [foN]
    split
    · rename_i c
      refine ⟨?_, by rw [foN_pc (by omega)]; omega⟩
      apply Nat.eq_of_testBit_eq
      intro i
      have e := congrArg (fun a => a.testBit i) ih.1
      simp only [Nat.testBit_and] at e
      rw [Nat.testBit_and, Nat.testBit_or, Nat.testBit_two_pow]
      by_cases q : j = i
      · rw [← q, c.1, Bool.and_true]
      · rw [decide_eq_false q, Bool.or_false, e]
    · exact ih
theorem foN_all {S n : Nat} (h : pc6 S ≤ n) : ∀ j, j ≤ 6 → foN S n j = S % 2 ^ j
  | 0, _ => by rw [foN, Nat.pow_zero, Nat.mod_one]
  | j + 1, hj => by
    have ih := foN_all h j (by omega)
    rw [foN, ih]
    have hb : (S % 2 ^ j).testBit j = false := Nat.testBit_lt_two_pow (Nat.mod_lt _ (Nat.pow_pos (by decide)))
    have fin : ∀ i, (S % 2 ^ (j + 1)).testBit i = ((S % 2 ^ j).testBit i || (decide (j = i) && S.testBit j)) := fun i => by
      rw [Nat.testBit_mod_two_pow, Nat.testBit_mod_two_pow]
      by_cases q : j = i
      · rw [q, decide_eq_true (Nat.lt_succ_self i), decide_eq_false (Nat.lt_irrefl i), decide_eq_true rfl]; rfl
      · rw [decide_eq_false q, Bool.false_and, Bool.or_false, decide_eq_decide.mpr (show i < j + 1 ↔ i < j by omega)]
    cases q : S.testBit j with
    | true =>
      have hlt : pc6 (S % 2 ^ j) + 1 ≤ pc6 S := ct_up hb q (fun i _ hi => by
        rw [Nat.testBit_mod_two_pow, Bool.and_eq_true] at hi
        exact hi.2) (show j < 6 by omega)
      rw [if_pos ⟨rfl, by omega⟩]
      apply Nat.eq_of_testBit_eq
      intro i
      rw [fin i, q, Bool.and_true, Nat.testBit_or, Nat.testBit_two_pow]
    | false =>
      rw [if_neg (fun e => by cases e.1)]
      apply Nat.eq_of_testBit_eq
      intro i
      rw [fin i, q, Bool.and_false, Bool.or_false]
theorem c_firstOf {h : HI} {S n : Nat} (hn : n ≤ 6) : fX8_firstOf h (nI S) (nI n) = some (nI (foN S n 6), h) := by
  unfold fX8_firstOf
  obtain ⟨F, hL⟩ := lpd (fun m (p : Int32 × Int32 × Int32) => fX8_firstOf_7 (fun h2 v2 => some (v2, h2)) m h (nI S) (nI n) p.1 p.2.1 p.2.2) (fun j => (nI (foN S n j), nI (pc6 (foN S n j)), nI j)) 6 (by omega) (by
    intro j hj m
    show fX8_firstOf_7 _ (m + 1) h (nI S) (nI n) (nI (foN S n j)) (nI (pc6 (foN S n j))) (nI j) = fX8_firstOf_7 _ m h (nI S) (nI n) (nI (foN S n (j + 1))) (nI (pc6 (foN S n (j + 1)))) (nI (j + 1))
    have h6 := pc6_le (foN S n j)
    rw [fX8_firstOf_7, if_neg (show ¬ (6 : Int32) ≤ nI j from nI_ge (b := 6) hj (by decide)), bit_n (by omega), foN]
    unfold fX8_firstOf_38
    rw [nI_1]
    cases q : S.testBit j with
    | false => rw [if_pos b01f, if_neg (fun e => by cases e.1)]
    | true =>
      rw [if_neg b01t]
      by_cases c : pc6 (foN S n j) < n
      · rw [if_neg (nI_ge c (by omega)), if_pos ⟨rfl, c⟩, one_shl (by omega), or_n, nI_1, foN_pc hj]
      · rw [if_pos (nI_le (by omega) (by omega)), if_neg (fun e => c e.2)])
  simp only at hL
  rw [show foN S n 0 = 0 from rfl, show pc6 0 = 0 by decide] at hL
  change fX8_firstOf_7 _ FU h (nI S) (nI n) 0 0 0 = _ at hL
  rw [hL, fX8_firstOf_7, if_pos (show (6 : Int32) ≤ nI 6 by decide)]
theorem r_firstOf {h : HI} {S n : Nat} (hn : n ≤ 6) : fX9_firstOf h (nI S) (nI n) = some (nI (foN S n 6), h) := by
  unfold fX9_firstOf
  obtain ⟨F, hL⟩ := lpd (fun m (p : Int32 × Int32) => fX9_firstOf_4 (fun h3 v2 => some (v2, h3)) m h (nI S) (nI n) p.1 p.2) (fun j => (nI (foN S n j), nI j)) 6 (by omega) (by
    intro j hj m
    show fX9_firstOf_4 _ (m + 1) h (nI S) (nI n) (nI (foN S n j)) (nI j) = fX9_firstOf_4 _ m h (nI S) (nI n) (nI (foN S n (j + 1))) (nI (j + 1))
    have h6 := pc6_le (foN S n j)
    have hl : foN S n j < 64 := Nat.lt_of_lt_of_le (foN_lt S n j) (Nat.pow_le_pow_right (n := 2) (j := 6) (by decide) (by omega))
    rw [fX9_firstOf_4, if_neg (show ¬ (6 : Int32) ≤ nI j from nI_ge (b := 6) hj (by decide)), bit_n (by omega), foN, f_ones6 h hl, Option.bind_some]
    unfold fX9_firstOf_34 fX9_firstOf_35
    rw [nI_1, Int32.or_zero]
    cases q : S.testBit j with
    | false => rw [if_neg (by decide), if_neg (fun e => by cases e.1)]
    | true =>
      rw [if_pos b01t1]
      by_cases c : pc6 (foN S n j) < n
      · rw [if_neg (nI_ge c (by omega)), if_pos ⟨rfl, c⟩, one_shl (by omega), or_n]
      · rw [if_pos (nI_le (by omega) (by omega)), if_neg (fun e => c e.2)])
  simp only at hL
  change fX9_firstOf_4 _ FU h (nI S) (nI n) 0 0 = _ at hL
  rw [hL, fX9_firstOf_4, if_pos (show (6 : Int32) ≤ nI 6 by decide)]
/-! the calls -/
def Wpn (hh a b : Nat) : Prop := Wpl hh a b ∨ Wsk a b
def Plan (hh T : Nat) (h : HI) (f : Option (Int32 × HI)) (g : HI → Option (Int32 × HI)) : Prop := ∃ (r : Int32) (h1 h2 : HI) (T2 : Nat), f = some (r, h1) ∧ g h1 = some (r, h2) ∧ Fr (Wpn hh) h h2 ∧ T2 ≤ T + 8 ∧ Sp T2 h2
theorem Plan.no {hh T : Nat} {h : HI} {f : Option (Int32 × HI)} {g : HI → Option (Int32 × HI)} (P : Sp T h) (r : Int32) (e1 : f = some (r, h)) (e2 : g h = some (r, h)) : Plan hh T h f g := ⟨r, h, h, T, e1, e2, Fr.rf, by omega, P⟩
theorem RO.pl {hh : Nat} {d : HD} {s : SD} {h g : HI} (hp : hh + 20 < 56) (R : RO d h h s) (F : Fr (Wpl hh) h g) : RO d g g s := ⟨R.S.keep F (fun a b p q => by unfold Wr at p; unfold Wpl at q; omega), R.H.keep F (fun a b p q => by unfold RHW at p; unfold Wpl at q; omega), Fr.rf⟩
theorem Sp.pl {hh T : Nat} {h g : HI} (hp : hh + 20 < 56) (P : Sp T h) (F : Fr (Wpl hh) h g) : Sp T g := ⟨by rw [F.1 _ _ (by unfold Wpl; omega)]; exact P.1, fun z hz => by
  obtain ⟨k, k1, k2⟩ := P.2 z hz
  exact ⟨k, k1, by rw [F.1 _ _ (by unfold Wpl; omega)]; exact k2⟩⟩
theorem c_plan1 {h : HI} {L : Nat} (hL : L ≤ 40) : fX8_isPlanTime h (nI L) = some (1, h) := by
  unfold fX8_isPlanTime
  rw [if_neg (nI_pos (by omega)), if_neg (show ¬ (40 : Int32) < nI L from nI_nlt (a := 40) hL (by decide))]
theorem r_plan1 {h : HI} {L : Nat} (hL : L ≤ 40) : fX9_isPlanned h (nI L) = some (1, h) := by
  unfold fX9_isPlanned
  rw [if_neg (nI_pos (by omega)), if_neg (show ¬ (40 : Int32) < nI L from nI_nlt (a := 40) hL (by decide))]
theorem lt40 {a : Int32} (h : nI 41 ≤ a) : (40 : Int32) < a := Int32.lt_of_lt_of_le (show (40 : Int32) < nI 41 by decide) h
theorem c_plan0 {h : HI} {a : Int32} (c : a < 0 ∨ ¬ a < 0 ∧ nI 41 ≤ a) : fX8_isPlanTime h a = some (0, h) := by
  unfold fX8_isPlanTime
  rcases c with c | c
  · rw [if_pos c]
  · rw [if_neg c.1, if_pos (lt40 c.2)]
theorem r_plan0 {h : HI} {a : Int32} (c : a < 0 ∨ ¬ a < 0 ∧ nI 41 ≤ a) : fX9_isPlanned h a = some (0, h) := by
  unfold fX9_isPlanned
  rcases c with c | c
  · rw [if_pos c]
  · rw [if_neg c.1, if_pos (lt40 c.2)]
theorem c_bestW {hh : Nat} {d : HD} {s : SD} {h : HI} {H L : Nat} (w : HDw d) (v : SDw d s) (C : CO 56 hh d h h s) (U : RU hh d h) (hH : H < 2 ^ d.M) (hL : L ≤ 40) (hf : ft H (stN d s d.C) (bs (seP s) d.M)) : ∃ g b o, fX8_bestWith 0 hh h (nI H) (nI L) = some (Int32.ofInt b, g) ∧ BSo (Vt d s H (stN d s d.C) (zst d s (bs (seP s) d.M))) (wz d s) L b o ∧ g.1 65 15 = nI o ∧ Fr (Wpl hh) h g := by
  have hst := stN_le w s d.C (Nat.le_refl _)
  have hC := w.C6
  obtain ⟨g, b, o, e1, e2, e3, e4⟩ := c_search w v C U hH (by omega) hL hf
  refine ⟨g, b, o, ?_, e2, e3, e4⟩
  unfold fX8_bestWith
  simp only [Nat.zero_add]
  rw [c_onSeats w v.v C, Option.bind_some, c_seats w C, Option.bind_some, e1, Option.bind_some]
theorem he_lt (d : HD) (s : SD) : heN d s < 2 ^ d.M := bs_lt _ _
theorem op_best {hh T : Nat} {d : HD} {h : HI} {s : SD} (w : HDw d) (v : SDw d s) (X : St hh d h s) (U : RU hh d h) (P : Sp T h) (hT : T + 8 < 2 ^ 30) (a1 a2 : Int32) : Plan hh T h (fX8_best 0 hh h a1 a2) (fun h1 => fX9_best 101 h1 a1 a2) := by
  have hp := X.1.1
  have hM := w.M6
  have hst := stN_le w s d.C (Nat.le_refl _)
  have hC := w.C6
  rcases rng a1 41 (by decide) with ⟨L, hL, rfl⟩ | c
  · have ex : ∀ a : Int32, (a < 0 → fX8_best 0 hh h (nI L) a = some (-1, h) ∧ fX9_best 101 h (nI L) a = some (-1, h)) ∧ (¬ a < 0 → ¬ a ≤ 1 → fX8_best 0 hh h (nI L) a = some (-1, h) ∧ fX9_best 101 h (nI L) a = some (-1, h)) := fun a => by
      unfold fX8_best fX9_best
      rw [c_plan1 (by omega), Option.bind_some, if_neg ne10, r_plan1 (by omega), Option.bind_some, if_neg ne10]
      exact ⟨fun c => by rw [if_pos c, if_pos c]; exact ⟨rfl, rfl⟩, fun c c2 => by rw [if_neg c, if_neg c, if_neg c2, if_neg c2]; exact ⟨rfl, rfl⟩⟩
    by_cases k0 : a2 < 0
    · exact Plan.no P (-1) ((ex a2).1 k0).1 ((ex a2).1 k0).2
    · by_cases k1 : a2 ≤ 1
      · have hf : ft (heN d s) (stN d s d.C) (bs (seP s) d.M) := ⟨bs_lt6 _ hM, se_sub se_he, se_pc w v⟩
        obtain ⟨g, b, o, e1, e2, e3, e4⟩ := c_bestW w v X.1 U (he_lt d s) (show L ≤ 40 by omega) hf
        have R1 := X.2.pl hp e4
        obtain ⟨g2, b2, o2, q1, q2, q3, q4, q5, q6, q7⟩ := r_seek (L := L) (K := stN d s d.C) (H := heN d s) (S0 := bs (seP s) d.M) hp w v R1 (U.pl hp e4) (P.pl hp e4) (by omega) (heN_lt w s) (by omega) (by omega) hf.1
        obtain ⟨z1, z2⟩ := BSo_un e2 q2
        subst z1 z2
        refine ⟨if a2 = 0 then Int32.ofInt b else nI o, g, g2, T + 1, ?_, ?_, (e4.mono fun _ _ q => Or.inl q).tr (q4.mono fun _ _ q => Or.inr q), by omega, q5⟩
        · unfold fX8_best
          simp only [Nat.zero_add]
          rw [c_plan1 (by omega), Option.bind_some, if_neg ne10, if_neg k0, if_pos k1, c_here w X.1, Option.bind_some, e1, Option.bind_some, e3]
          split <;> rfl
        · show fX9_best 101 g (nI L) a2 = _
          unfold fX9_best
          rw [r_plan1 (by omega), Option.bind_some, if_neg ne10, if_neg k0, if_pos k1, r_here w R1, Option.bind_some, r_seats w R1, Option.bind_some, r_seated w v.v R1, Option.bind_some, q1, Option.bind_some, q3]
          split <;> rfl
      · exact Plan.no P (-1) ((ex a2).2 k0 k1).1 ((ex a2).2 k0 k1).2
  · refine Plan.no P (-1) ?_ ?_
    · unfold fX8_best
      rw [c_plan0 c, Option.bind_some, if_pos rfl]
    · show fX9_best 101 h a1 a2 = _
      unfold fX9_best
      rw [r_plan0 c, Option.bind_some, if_pos rfl]
theorem op_lets {hh T : Nat} {d : HD} {h : HI} {s : SD} (w : HDw d) (v : SDw d s) (X : St hh d h s) (U : RU hh d h) (P : Sp T h) (hT : T + 8 < 2 ^ 30) (a1 a2 : Int32) : Plan hh T h (fX8_lets 0 hh h a1 a2) (fun h1 => fX9_lets 101 h1 a1 a2) := by
  have hp := X.1.1
  have hM := w.M6
  have hst := stN_le w s d.C (Nat.le_refl _)
  have hC := w.C6
  rcases rng a1 d.M (by omega) with ⟨m, hm, rfl⟩ | c1
  · by_cases cd : s.wh m = -2
    · rcases rng a2 41 (by decide) with ⟨L, hL, rfl⟩ | c
      · have hf : ft (heN d s) (stN d s d.C) (bs (seP s) d.M) := ⟨bs_lt6 _ hM, se_sub se_he, se_pc w v⟩
        have hf2 : ft (heN d s ||| 2 ^ m) (stN d s d.C) (bs (seP s) d.M) := ⟨bs_lt6 _ hM, se_sub fun i hi q => by rw [Nat.testBit_or, se_he i hi q]; rfl, se_pc w v⟩
        have hH2 : heN d s ||| 2 ^ m < 2 ^ d.M := or_pow_lt (he_lt d s) hm
        have hH6 : heN d s ||| 2 ^ m < 64 := Nat.lt_of_lt_of_le hH2 (Nat.pow_le_pow_right (n := 2) (j := 6) (by decide) hM)
        obtain ⟨g, b, o, e1, e2, e3, e4⟩ := c_bestW w v X.1 U hH2 (show L ≤ 40 by omega) hf2
        obtain ⟨g', b', o', e1', e2', e3', e4'⟩ := c_bestW w v (X.1.pl e4) (U.pl hp e4) (he_lt d s) (show L ≤ 40 by omega) hf
        have FF := e4.tr e4'
        have R1 := X.2.pl hp FF
        obtain ⟨g2, b2, o2, q1, q2, q3, q4, q5, q6, q7⟩ := r_seek (L := L) (K := stN d s d.C) (H := heN d s ||| 2 ^ m) (S0 := bs (seP s) d.M) hp w v R1 (U.pl hp FF) (P.pl hp FF) (by omega) hH6 (by omega) (by omega) hf.1
        obtain ⟨g3, b3, o3, p1, p2, p3, p4, p5, p6, p7⟩ := r_seek (L := L) (K := stN d s d.C) (H := heN d s) (S0 := bs (seP s) d.M) hp w v q6 q7 q5 (by omega) (heN_lt w s) (by omega) (by omega) hf.1
        obtain ⟨z1, z2⟩ := BSo_un e2 q2
        obtain ⟨z3, z4⟩ := BSo_un e2' p2
        subst z1 z2 z3 z4
        refine ⟨Int32.ofInt b - Int32.ofInt b', g', g3, T + 1 + 1, ?_, ?_, (FF.mono fun _ _ q => Or.inl q).tr ((q4.tr p4).mono fun _ _ q => Or.inr q), by omega, p5⟩
        · unfold fX8_lets
          simp only [Nat.zero_add]
          rw [c_plan1 (by omega), Option.bind_some, if_neg ne10, c_door w X.1 hm, Option.bind_some, decide_eq_true cd, if_neg b01t, c_here w X.1, Option.bind_some, one_shl (by omega), or_n, e1, Option.bind_some, e1', Option.bind_some]
        · show fX9_lets 101 g' (nI m) (nI L) = _
          unfold fX9_lets
          rw [r_isMan1 w R1.H hm, Option.bind_some, if_neg ne10]
          simp (disch := omega) only [gB, nI_clamp, Nat.reduceAdd]
          rw [R1.S.wh m (by omega), if_pos cd, r_plan1 (by omega), Option.bind_some, if_neg ne10, r_here w R1, Option.bind_some, r_seats w R1, Option.bind_some, r_seated w v.v R1, Option.bind_some, one_shl (by omega), or_n, q1, Option.bind_some, r_here w q6, Option.bind_some, r_seats w q6, Option.bind_some, r_seated w v.v q6, Option.bind_some, p1, Option.bind_some]
      · refine Plan.no P (-1000000) ?_ ?_
        · unfold fX8_lets
          rw [c_plan0 c, Option.bind_some, if_pos rfl]
        · show fX9_lets 101 h (nI m) a2 = _
          unfold fX9_lets
          rw [r_isMan1 w X.2.H hm, Option.bind_some, if_neg ne10]
          simp (disch := omega) only [gB, nI_clamp, Nat.reduceAdd]
          rw [X.2.S.wh m (by omega), if_pos cd, r_plan0 c, Option.bind_some, if_pos rfl]
    · refine Plan.no P (-1000000) ?_ ?_
      · unfold fX8_lets
        simp only [Nat.zero_add]
        rcases rng a2 41 (by decide) with ⟨L, hL, rfl⟩ | c
        · rw [c_plan1 (by omega), Option.bind_some, if_neg ne10, c_door w X.1 hm, Option.bind_some, decide_eq_false cd, if_pos b01f]
        · rw [c_plan0 c, Option.bind_some, if_pos rfl]
      · show fX9_lets 101 h (nI m) a2 = _
        unfold fX9_lets
        rw [r_isMan1 w X.2.H hm, Option.bind_some, if_neg ne10]
        simp (disch := omega) only [gB, nI_clamp, Nat.reduceAdd]
        rw [X.2.S.wh m (by omega), if_neg cd]
  · refine Plan.no P (-1000000) ?_ ?_
    · unfold fX8_lets
      simp only [Nat.zero_add]
      rcases rng a2 41 (by decide) with ⟨L, hL, rfl⟩ | c
      · rw [c_plan1 (by omega), Option.bind_some, if_neg ne10, c_door0 X.1 c1, Option.bind_some, if_pos rfl]
      · rw [c_plan0 c, Option.bind_some, if_pos rfl]
    · show fX9_lets 101 h a1 a2 = _
      unfold fX9_lets
      rw [r_isMan0 X.2.H c1, Option.bind_some, if_pos rfl]
/-! fewest -/
def Bq (d : HD) (s : SD) (H L n S : Nat) (b : Int) : Prop := ∃ o, BSo (Vt d s H n (zst d s S)) (wz d s) L b o
theorem Bq_un {d : HD} {s : SD} {H L n S : Nat} {a b : Int} (h1 : Bq d s H L n S a) (h2 : Bq d s H L n S b) : a = b := by
  obtain ⟨o, q⟩ := h1
  obtain ⟨p, r⟩ := h2
  exact (BSo_un q r).1
theorem BSo_b {d : HD} {s : SD} {P : Nat → Nat → Prop} (w : HDw d) : ∀ {L : Nat} {b : Int} {o : Nat}, BSo P (wz d s) L b o → 0 ≤ b ∧ b ≤ 2400
  | 0, b, o, h => by rw [h.1]; omega
  | t + 1, b, o, h => by
    obtain ⟨b1, o1, _, h2, _⟩ := h
    refine ⟨h2.1, ?_⟩
    rcases h2.2.2 with e | ⟨z, _, e⟩
    · omega
    · rw [← e]; exact (wz_b w s z).2
def FW (d : HD) (s : SD) (H L A S : Nat) (mo : Int) (n : Nat) : Prop := (∀ i, i < n → ∃ b, Bq d s H L i (foN S i 6) b ∧ b < mo) ∧ (n = A ∨ n < A ∧ ∃ b, Bq d s H L n (foN S n 6) b ∧ mo ≤ b)
theorem FW_un {d : HD} {s : SD} {H L A S : Nat} {mo : Int} {n m : Nat} (hn : n ≤ A) (hm : m ≤ A) (h1 : FW d s H L A S mo n) (h2 : FW d s H L A S mo m) : n = m := by
  rcases Nat.lt_trichotomy n m with e | e | e
  · obtain ⟨b, b1, b2⟩ := h2.1 n e
    rcases h1.2 with q | ⟨_, c, c1, c2⟩
    · omega
    · have := Bq_un b1 c1; omega
  · exact e
  · obtain ⟨b, b1, b2⟩ := h1.1 m e
    rcases h2.2 with q | ⟨_, c, c1, c2⟩
    · omega
    · have := Bq_un b1 c1; omega
theorem fo_ft {d : HD} {s : SD} {n : Nat} (w : HDw d) : ft (heN d s) n (foN (bs (seP s) d.M) n 6) := by
  have h1 := foN_ok (bs (seP s) d.M) n 6 (Nat.le_refl _)
  refine ⟨foN_lt _ _ 6, ?_, h1.2⟩
  apply Nat.eq_of_testBit_eq
  intro i
  have e := congrArg (fun a => a.testBit i) h1.1
  have e2 := congrArg (fun a => a.testBit i) (se_sub (d := d) (s := s) se_he)
  simp only [Nat.testBit_and] at e e2
  rw [Nat.testBit_and]
  cases q : (foN (bs (seP s) d.M) n 6).testBit i with
  | false => rfl
  | true =>
    rw [q, Bool.true_and] at e
    rw [e, Bool.true_and] at e2
    rw [e2]; rfl
theorem c_few {hh : Nat} {d : HD} {s : SD} {L : Nat} {mo : Int} (w : HDw d) (v : SDw d s) (hL : L ≤ 40) (hmo : 0 ≤ mo ∧ mo ≤ 2400) : ∀ (r n F : Nat) (h : HI), n + r = pc6 (heN d s) → CO 56 hh d h h s → RU hh d h → (∀ i, i < n → ∃ b, Bq d s (heN d s) L i (foN (bs (seP s) d.M) i 6) b ∧ b < mo) → ∃ g m, fX8_fewest_52 0 hh (fun h9 v3 => some (v3, h9)) (F + (r + 1)) h (nI L) (nI (heN d s)) (nI (pc6 (heN d s))) (nI (bs (seP s) d.M)) (Int32.ofInt mo) (nI n) = some (nI m, g) ∧ m ≤ pc6 (heN d s) ∧ FW d s (heN d s) L (pc6 (heN d s)) (bs (seP s) d.M) mo m ∧ Fr (Wpl hh) h g
  | 0, n, F, h, e, C, U, hb => by
    have h6 := pc6_le (heN d s)
    refine ⟨h, n, ?_, by omega, ⟨hb, Or.inl (by omega)⟩, Fr.rf⟩
    rw [fX8_fewest_52, if_pos (nI_le (by omega) (by omega)), show n = pc6 (heN d s) by omega]
  | r + 1, n, F, h, e, C, U, hb => by
    have h6 := pc6_le (heN d s)
    have hp := C.1
    obtain ⟨g, b, o, e1, e2, e3, e4⟩ := c_search (K := n) w v C U (he_lt d s) (by omega) hL (fo_ft w)
    have hb2 := BSo_b w e2
    by_cases c : b < mo
    · obtain ⟨g2, m, q1, q2, q3, q4⟩ := c_few (hh := hh) w v hL hmo r (n + 1) F g (by omega) (C.pl e4) (U.pl hp e4) (fun i hi => by
        rcases (show i < n ∨ i = n by omega) with z | z
        · exact hb i z
        · rw [z]; exact ⟨b, ⟨o, e2⟩, c⟩)
      refine ⟨g2, m, ?_, q2, q3, e4.tr q4⟩
      rw [show F + (r + 1 + 1) = (F + (r + 1)) + 1 by omega, fX8_fewest_52, if_neg (nI_ge (by omega) (by omega)), c_firstOf (by omega), Option.bind_some]
      simp only [Nat.zero_add]
      rw [e1, Option.bind_some, if_pos ((ofI_lt (by omega) (by omega) (by omega) (by omega)).mpr c), nI_1]
      exact q1
    · refine ⟨g, n, ?_, by omega, ⟨hb, Or.inr ⟨by omega, b, ⟨o, e2⟩, by omega⟩⟩, e4⟩
      rw [show F + (r + 1 + 1) = (F + (r + 1)) + 1 by omega, fX8_fewest_52, if_neg (nI_ge (by omega) (by omega)), c_firstOf (by omega), Option.bind_some]
      simp only [Nat.zero_add]
      rw [e1, Option.bind_some, if_neg (fun q => c ((ofI_lt (by omega) (by omega) (by omega) (by omega)).mp q))]
theorem r_few {hh : Nat} {d : HD} {s : SD} {L : Nat} {mo : Int} (w : HDw d) (v : SDw d s) (hp : hh + 20 < 56) (hL : L ≤ 40) (hmo : 0 ≤ mo ∧ mo ≤ 2400) : ∀ (r n F T : Nat) (h : HI), n + r = pc6 (heN d s) → RO d h h s → RU hh d h → Sp T h → T + r < 2 ^ 30 → (∀ i, i < n → ∃ b, Bq d s (heN d s) L i (foN (bs (seP s) d.M) i 6) b ∧ b < mo) → ∃ g m T2, fX9_fewest_39 101 (fun h11 v5 => some (v5, h11)) (F + (r + 1)) h (nI L) (nI (heN d s)) (nI (pc6 (heN d s))) (Int32.ofInt mo) (nI n) = some (nI m, g) ∧ m ≤ pc6 (heN d s) ∧ FW d s (heN d s) L (pc6 (heN d s)) (bs (seP s) d.M) mo m ∧ Fr Wsk h g ∧ T2 ≤ T + r ∧ Sp T2 g
  | 0, n, F, T, h, e, R, U, P, hT, hb => by
    have h6 := pc6_le (heN d s)
    refine ⟨h, n, T, ?_, by omega, ⟨hb, Or.inl (by omega)⟩, Fr.rf, by omega, P⟩
    rw [fX9_fewest_39, if_pos (nI_le (by omega) (by omega))]
  | r + 1, n, F, T, h, e, R, U, P, hT, hb => by
    have h6 := pc6_le (heN d s)
    obtain ⟨g, b, o, e1, e2, e3, e4, e5, e6, e7⟩ := r_seek (L := L) (K := n) (H := heN d s) (S0 := foN (bs (seP s) d.M) n 6) hp w v R U P (by omega) (heN_lt w s) (by omega) hL (foN_lt _ _ 6)
    have hb2 := BSo_b w e2
    by_cases c : b < mo
    · obtain ⟨g2, m, T2, q1, q2, q3, q4, q5, q6⟩ := r_few (hh := hh) w v hp hL hmo r (n + 1) F (T + 1) g (by omega) e6 e7 e5 (by omega) (fun i hi => by
        rcases (show i < n ∨ i = n by omega) with z | z
        · exact hb i z
        · rw [z]; exact ⟨b, ⟨o, e2⟩, c⟩)
      refine ⟨g2, m, T2, ?_, q2, q3, e4.tr q4, by omega, q6⟩
      rw [show F + (r + 1 + 1) = (F + (r + 1)) + 1 by omega, fX9_fewest_39, if_neg (nI_ge (by omega) (by omega)), r_seated w v.v R, Option.bind_some, r_firstOf (by omega), Option.bind_some, e1, Option.bind_some, if_neg (fun q => by have := (ofI_le (by omega) (by omega) (by omega) (by omega)).mp q; omega), nI_1]
      exact q1
    · refine ⟨g, n, T + 1, ?_, by omega, ⟨hb, Or.inr ⟨by omega, b, ⟨o, e2⟩, by omega⟩⟩, e4, by omega, e5⟩
      rw [show F + (r + 1 + 1) = (F + (r + 1)) + 1 by omega, fX9_fewest_39, if_neg (nI_ge (by omega) (by omega)), r_seated w v.v R, Option.bind_some, r_firstOf (by omega), Option.bind_some, e1, Option.bind_some, if_pos ((ofI_le (by omega) (by omega) (by omega) (by omega)).mpr (by omega))]
theorem op_fewest {hh T : Nat} {d : HD} {h : HI} {s : SD} (w : HDw d) (v : SDw d s) (X : St hh d h s) (U : RU hh d h) (P : Sp T h) (hT : T + 8 < 2 ^ 30) (a1 : Int32) : Plan hh T h (fX8_fewest 0 hh h a1) (fun h1 => fX9_fewest 101 h1 a1) := by
  have hp := X.1.1
  have hM := w.M6
  have h6 := pc6_le (heN d s)
  have hb6 : bs (seP s) d.M < 64 := bs_lt6 _ hM
  rcases rng a1 41 (by decide) with ⟨L, hL, rfl⟩ | c
  · have hpc : pc6 (bs (seP s) d.M) ≤ pc6 (heN d s) := pc6_sub (se_sub se_he)
    have hf : ft (heN d s) (pc6 (heN d s)) (bs (seP s) d.M) := ⟨hb6, se_sub se_he, hpc⟩
    have efo : foN (bs (seP s) d.M) (pc6 (heN d s)) 6 = bs (seP s) d.M := by
      rw [foN_all hpc 6 (Nat.le_refl _)]
      exact Nat.mod_eq_of_lt hb6
    obtain ⟨g, b, o, e1, e2, e3, e4⟩ := c_search (K := pc6 (heN d s)) w v X.1 U (he_lt d s) (by omega) (show L ≤ 40 by omega) hf
    have hb2 := BSo_b w e2
    obtain ⟨Fu, hFu⟩ := FU_ge (n := pc6 (heN d s)) (by omega)
    obtain ⟨g2, m, q1, q2, q3, q4⟩ := c_few (hh := hh) (L := L) w v (by omega) hb2 (pc6 (heN d s)) 0 Fu g (by omega) (X.1.pl e4) (U.pl hp e4) (fun i hi => absurd hi (Nat.not_lt_zero i))
    have FF := e4.tr q4
    have R1 := X.2.pl hp FF
    obtain ⟨g3, b3, o3, p1, p2, p3, p4, p5, p6, p7⟩ := r_seek (L := L) (K := pc6 (heN d s)) (H := heN d s) (S0 := bs (seP s) d.M) hp w v R1 (U.pl hp FF) (P.pl hp FF) (by omega) (heN_lt w s) (by omega) (by omega) hb6
    obtain ⟨z1, z2⟩ := BSo_un e2 p2
    subst z1 z2
    obtain ⟨g4, m2, T2, r1, r2, r3, r4, r5, r6⟩ := r_few (hh := hh) (L := L) w v hp (by omega) hb2 (pc6 (heN d s)) 0 Fu (T + 1) g3 (by omega) p6 p7 p5 (by omega) (fun i hi => absurd hi (Nat.not_lt_zero i))
    have em := FW_un q2 r2 q3 r3
    subst em
    rw [← hFu] at q1 r1
    refine ⟨nI m, g2, g4, T2, ?_, ?_, (FF.mono fun _ _ q => Or.inl q).tr ((p4.tr r4).mono fun _ _ q => Or.inr q), by omega, r6⟩
    · unfold fX8_fewest
      simp only [Nat.zero_add]
      rw [c_plan1 (by omega), Option.bind_some, if_neg ne10, c_here w X.1, Option.bind_some, f_bit6 _ (heN_lt w s), Option.bind_some, c_onSeats w v.v X.1, Option.bind_some, e1, Option.bind_some]
      exact q1
    · show fX9_fewest 101 g2 (nI L) = _
      unfold fX9_fewest
      rw [r_plan1 (by omega), Option.bind_some, if_neg ne10, r_here w R1, Option.bind_some, f_ones6 _ (heN_lt w s), Option.bind_some, r_seated w v.v R1, Option.bind_some, r_firstOf (by omega), Option.bind_some, efo, p1, Option.bind_some]
      exact r1
  · refine Plan.no P (-1) ?_ ?_
    · unfold fX8_fewest
      rw [c_plan0 c, Option.bind_some, if_pos rfl]
    · show fX9_fewest 101 h a1 = _
      unfold fX9_fewest
      rw [r_plan0 c, Option.bind_some, if_pos rfl]
