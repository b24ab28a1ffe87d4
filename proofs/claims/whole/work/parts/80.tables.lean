/-! plans: the class's tables: who fits, verdicts, passing sets -/
def lb (v : Int64) (T : Nat) : Bool := v.toBitVec.getLsbD T
theorem amtL : ∀ S, S < 64 → (((nI S).toInt64 &&& 63).toBitVec.smod 64).toNat = S := by decide +kernel
theorem amtR : ∀ S, S < 64 → (((nI S).toInt64.toUInt64 &&& Int64.toUInt64 63).toBitVec % 64).toNat = S := by decide +kernel
theorem lb_or (a b : Int64) (T : Nat) : lb (a ||| b) T = (lb a T || lb b T) := by unfold lb; rw [Int64.toBitVec_or, BitVec.getLsbD_or]
theorem lb_and (a b : Int64) (T : Nat) : lb (a &&& b) T = (lb a T && lb b T) := by unfold lb; rw [Int64.toBitVec_and, BitVec.getLsbD_and]
theorem lb_xor (a b : Int64) (T : Nat) : lb (a ^^^ b) T = (lb a T ^^ lb b T) := by unfold lb; rw [Int64.toBitVec_xor, BitVec.getLsbD_xor]
theorem lb_0 (T : Nat) : lb 0 T = false := by unfold lb; exact BitVec.getLsbD_zero
theorem lb_ext {a b : Int64} (h : ∀ T, T < 64 → lb a T = lb b T) : a = b := by
  apply Int64.toBitVec_inj.mp
  apply BitVec.eq_of_getLsbD_eq
  exact h
theorem lb_shl (v : Int64) {S T : Nat} (hS : S < 64) (hT : T < 64) : lb (v <<< ((nI S).toInt64 &&& 63)) T = (!decide (T < S) && lb v (T - S)) := by
  unfold lb
  rw [Int64.toBitVec_shiftLeft, BitVec.shiftLeft_eq', amtL S hS, BitVec.getLsbD_shiftLeft, decide_eq_true hT, Bool.true_and]
theorem lb_shr (v : Int64) {S : Nat} (hS : S < 64) (T : Nat) : lb ((v.toUInt64 >>> ((nI S).toInt64.toUInt64 &&& Int64.toUInt64 63)).toInt64) T = lb v (S + T) := by
  unfold lb
  rw [UInt64.toBitVec_toInt64, UInt64.toBitVec_shiftRight, BitVec.ushiftRight_eq', amtR S hS, BitVec.getLsbD_ushiftRight, Int64.toBitVec_toUInt64]
theorem lb_o : ∀ T, T < 64 → lb 1 T = decide (T = 0) := by decide +kernel
theorem lb_one {S T : Nat} (hS : S < 64) (hT : T < 64) : lb ((1 : Int64) <<< ((nI S).toInt64 &&& 63)) T = decide (T = S) := by
  rw [lb_shl _ hS hT]
  by_cases q : T < S
  · rw [decide_eq_true q, decide_eq_false (show ¬ T = S by omega)]; rfl
  · rw [decide_eq_false q, lb_o _ (by omega)]
    exact decide_eq_decide.mpr (by omega)
theorem cmp0 (v : Int64) : lg_cmp v 0 = 0 ↔ v = 0 := by
  unfold lg_cmp
  constructor
  · intro h
    split at h
    · cases h
    · split at h
      · assumption
      · cases h
  · intro h
    rw [h]; decide
theorem cmpS (v : Int64) {S : Nat} (hS : S < 64) : lg_cmp (((v.toUInt64 >>> ((nI S).toInt64.toUInt64 &&& Int64.toUInt64 63)).toInt64) &&& (1 : Int64)) 0 = 0 ↔ lb v S = false := by
  rw [cmp0]
  constructor
  · intro h
    have := congrArg (fun a => lb a 0) h
    simp only [lb_and, lb_shr v hS, lb_0, lb_o 0 (by decide), Nat.add_zero, decide_true, Bool.and_true] at this
    exact this
  · intro h
    apply lb_ext
    intro T hT
    rw [lb_and, lb_shr v hS, lb_o T hT, lb_0]
    by_cases q : T = 0
    · rw [q, Nat.add_zero, h]; rfl
    · rw [decide_eq_false q, Bool.and_false]
theorem sub_and : ∀ S, S < 64 → ∀ H, H < 64 → (nI S &&& (nI H ^^^ (-1 : Int32)) = 0 ↔ S &&& H = S) := by decide +kernel
def ftb (H K S : Nat) : Bool := decide (S &&& H = S) && decide (pc6 S ≤ K)
theorem ftb_ft {H K S : Nat} (hS : S < 64) : ftb H K S = true ↔ ft H K S := by
  unfold ftb ft
  rw [Bool.and_eq_true_iff, decide_eq_true_iff, decide_eq_true_iff]
  exact ⟨fun h => ⟨hS, h⟩, fun h => h.2⟩
theorem pc6_le (S : Nat) : pc6 S ≤ 6 := ct_le _ 6
theorem c_fit {h : HI} {H K : Nat} (eH : h.1 65 11 = nI H) (hH : H < 64) (hK : K < 100) : ∃ g, fX3_fillFitting 65 h (nI K) = some g ∧ Fr (fun a b => a = 65 ∧ b = 12) h g ∧ ∀ S, S < 64 → lb (g.2 65 12) S = ftb H K S := by
  unfold fX3_fillFitting
  obtain ⟨F, ⟨g, i⟩, ⟨i1, i2, i3, i4⟩, hL⟩ := lpi (fun n (p : HI × Int32) => fX3_fillFitting_7 65 (fun h3 => some h3) n p.1 (nI K) p.2) (fun j p => p.2 = nI j ∧ Fr (fun a b => a = 65 ∧ b = 12) h p.1 ∧ p.1.1 = h.1 ∧ ∀ S, S < 64 → lb (p.1.2 65 12) S = (decide (S < j) && ftb H K S)) 64 (by omega) (by
    rintro j ⟨g, i⟩ hj ⟨i1, i2, i3, i4⟩
    simp only at i1 i2 i3 i4
    subst i1
    have h6 := pc6_le j
    have cont : ∀ (g2 : HI), Fr (fun a b => a = 65 ∧ b = 12) g g2 → g2.1 = g.1 → (∀ S, S < 64 → lb (g2.2 65 12) S = (lb (g.2 65 12) S || (decide (S = j) && ftb H K j))) → (fun p : HI × Int32 => p.2 = nI (j + 1) ∧ Fr (fun a b => a = 65 ∧ b = 12) h p.1 ∧ p.1.1 = h.1 ∧ ∀ S, S < 64 → lb (p.1.2 65 12) S = (decide (S < j + 1) && ftb H K S)) (g2, nI (j + 1)) := by
      intro g2 f2 e2 l2
      refine ⟨rfl, i2.tr f2, e2.trans i3, fun S hS => ?_⟩
      show lb (g2.2 65 12) S = _
      rw [l2 S hS, i4 S hS]
      by_cases q : S = j
      · rw [q, decide_eq_true rfl, decide_eq_false (Nat.lt_irrefl j), decide_eq_true (Nat.lt_succ_self j)]; rfl
      · rw [decide_eq_false q, Bool.false_and, Bool.or_false, decide_eq_decide.mpr (show S < j ↔ S < j + 1 by omega)]
    have stp : ∀ n, fX3_fillFitting_7 65 (fun h3 => some h3) (n + 1) g (nI K) (nI j) = if j &&& H = j then (if nI K < nI (pc6 j) then fX3_fillFitting_7 65 (fun h3 => some h3) n g (nI K) (nI (j + 1)) else fX3_fillFitting_7 65 (fun h3 => some h3) n (uL g 65 12 ((g.2 65 12) ||| ((1 : Int64) <<< ((nI j).toInt64 &&& 63)))) (nI K) (nI (j + 1))) else fX3_fillFitting_7 65 (fun h3 => some h3) n g (nI K) (nI (j + 1)) := by
      intro n
      rw [fX3_fillFitting_7, if_neg (show ¬ (64 : Int32) ≤ nI j from nI_ge (b := 64) (by omega) (by decide)), i3, eH, f_bit6 g hj, Option.bind_some]
      unfold fX3_fillFitting_44
      rw [nI_1]
      by_cases q : j &&& H = j
      · rw [if_pos q, if_pos ((sub_and j hj H hH).mpr q)]
      · rw [if_neg q, if_neg (fun e => q ((sub_and j hj H hH).mp e))]
    by_cases q : j &&& H = j
    · by_cases q2 : pc6 j ≤ K
      · refine ⟨(uL g 65 12 ((g.2 65 12) ||| ((1 : Int64) <<< ((nI j).toInt64 &&& 63))), nI (j + 1)), cont _ (Fr.uL (by omega)) rfl (fun S hS => ?_), fun n => (stp n).trans (by rw [if_pos q, if_neg (nI_nlt q2 (by omega))])⟩
        rw [uL_s, lb_or, lb_one hj hS]
        unfold ftb
        rw [decide_eq_true q, decide_eq_true q2, Bool.and_true, Bool.and_true]
      · refine ⟨(g, nI (j + 1)), cont g Fr.rf rfl (fun S hS => ?_), fun n => (stp n).trans (by rw [if_pos q, if_pos (nI_lt (by omega) (by omega))])⟩
        unfold ftb
        rw [decide_eq_false q2, Bool.and_false, Bool.and_false, Bool.or_false]
    · refine ⟨(g, nI (j + 1)), cont g Fr.rf rfl (fun S hS => ?_), fun n => (stp n).trans (by rw [if_neg q])⟩
      unfold ftb
      rw [decide_eq_false q, Bool.false_and, Bool.and_false, Bool.or_false]) (s0 := (uL h 65 12 0, 0)) ⟨rfl, Fr.uL (by omega), rfl, fun S hS => by
        show lb ((uL h 65 12 0).2 65 12) S = _
        rw [uL_s, lb_0, decide_eq_false (Nat.not_lt_zero S)]; rfl⟩
  simp only at i1 i2 i3 i4 hL
  subst i1
  refine ⟨g, by rw [hL, fX3_fillFitting_7, if_pos (show (64 : Int32) ≤ nI 64 by decide)], i2, fun S hS => ?_⟩
  rw [i4 S hS, decide_eq_true hS, Bool.true_and]
/-! verdicts -/
theorem nI_sb {a b : Nat} (h : b ≤ a) : nI a - nI b = nI (a - b) := by
  rw [nI_ofI a, nI_ofI b, ← Int32.ofInt_sub, nI_ofI (a - b), Int.ofNat_sub h]
def vdV (d : HD) (A y n q : Nat) : Int32 := b01 (psP d.ru (nI y) (nI n) (nI q) (nI A - nI q))
def VD (d : HD) (A : Nat) (g : HI) (q y n : Nat) : Prop := ∀ q1 y1 n1, q1 ≤ A → y1 ≤ q1 → n1 ≤ q1 - y1 → (q1 < q ∨ q1 = q ∧ (y1 < y ∨ y1 = y ∧ n1 < n)) → g.1 68 ((y1 * 7 + n1) * 7 + q1) = vdV d A y1 n1 q1
theorem vp_b (b : Bool) : vp_nar .boolean (b01 b) = b01 b := by cases b <;> rfl
theorem v_25 {hh : Nat} {d : HD} {g : HI} {A q y : Nat} (hp : hh + 20 < 56) (hA : A ≤ 6) (hq : q ≤ A) (hy : y ≤ q) (U : RU hh d g) (V : VD d A g q y 0) : ∃ g2, (∀ k, fX3_fillVerdicts_25 65 hh k FU g (nI A) (nI q) (nI y) 0 = k g2 (nI A) (nI q) (nI y)) ∧ Fr (fun a _ => a = 68 ∨ a = hh + 20) g g2 ∧ VD d A g2 q (y + 1) 0 := by
  obtain ⟨F, ⟨g2, i⟩, ⟨i1, i2, i3⟩, hL⟩ := lpi (fun n (p : HI × Int32) => fun k => fX3_fillVerdicts_25 65 hh k n p.1 (nI A) (nI q) (nI y) p.2) (fun j p => p.2 = nI j ∧ Fr (fun a _ => a = 68 ∨ a = hh + 20) g p.1 ∧ VD d A p.1 q y j) (q - y + 1) (by omega) (by
    rintro j ⟨g1, i⟩ hj ⟨i1, i2, i3⟩
    simp only at i1 i2 i3
    subst i1
    have U1 := U.keep i2 (fun a b p r => by omega)
    obtain ⟨g3, e3, f3⟩ := c_pass U1 (nI y) (nI j) (nI q) (nI A - nI q)
    refine ⟨(uI g3 68 ((y * 7 + j) * 7 + q) (vdV d A y j q), nI (j + 1)), ⟨rfl, (i2.tr (f3.mono fun a b e => Or.inr e)).tr (Fr.uI (Or.inl rfl)), fun q1 y1 n1 h1 h2 h3 h4 => ?_⟩, fun n => funext fun k => ?_⟩
    · show (uI g3 68 _ _).1 68 _ = _
      by_cases c : q1 = q ∧ y1 = y ∧ n1 = j
      · rw [c.1, c.2.1, c.2.2, uI_s]
      · rw [uI_n (by omega), f3.1 _ _ (by omega)]
        exact i3 q1 y1 n1 h1 h2 h3 (by omega)
    · show fX3_fillVerdicts_25 65 hh k (n + 1) g1 (nI A) (nI q) (nI y) (nI j) = _
      rw [fX3_fillVerdicts_25, nI_sb hy, if_neg (nI_nlt (by omega) (by omega)), e3, Option.bind_some, show (7 : Int32) = nI 7 from rfl, nI_mu, nI_add, nI_mu, nI_add]
      simp (disch := omega) only [gB, nI_clamp, Nat.reduceAdd, nI_1, vp_b]
      rfl) (s0 := (g, 0)) ⟨rfl, Fr.rf, V⟩
  simp only at i1 i2 i3 hL
  subst i1
  refine ⟨g2, fun k => ?_, i2, fun q1 y1 n1 h1 h2 h3 h4 => i3 q1 y1 n1 h1 h2 h3 (by omega)⟩
  rw [congrFun hL k, fX3_fillVerdicts_25, nI_sb hy, if_pos (nI_lt (by omega) (by omega))]
theorem v_17 {hh : Nat} {d : HD} {g : HI} {A q : Nat} (hp : hh + 20 < 56) (hA : A ≤ 6) (hq : q ≤ A) (U : RU hh d g) (V : VD d A g q 0 0) : ∃ g2, (∀ k, fX3_fillVerdicts_17 65 hh k FU g (nI A) (nI q) 0 = k g2 (nI A) (nI q)) ∧ Fr (fun a _ => a = 68 ∨ a = hh + 20) g g2 ∧ VD d A g2 (q + 1) 0 0 := by
  obtain ⟨F, ⟨g2, i⟩, ⟨i1, i2, i3⟩, hL⟩ := lpi (fun n (p : HI × Int32) => fun k => fX3_fillVerdicts_17 65 hh k n p.1 (nI A) (nI q) p.2) (fun j p => p.2 = nI j ∧ Fr (fun a _ => a = 68 ∨ a = hh + 20) g p.1 ∧ VD d A p.1 q j 0) (q + 1) (by omega) (by
    rintro j ⟨g1, i⟩ hj ⟨i1, i2, i3⟩
    simp only at i1 i2 i3
    subst i1
    have U1 := U.keep i2 (fun a b p r => by omega)
    obtain ⟨g3, e3, f3, v3⟩ := v_25 hp hA hq (y := j) (by omega) U1 i3
    refine ⟨(g3, nI (j + 1)), ⟨rfl, i2.tr f3, v3⟩, fun n => funext fun k => ?_⟩
    show fX3_fillVerdicts_17 65 hh k (n + 1) g1 (nI A) (nI q) (nI j) = _
    rw [fX3_fillVerdicts_17, if_neg (nI_nlt (by omega) (by omega)), e3, nI_1]) (s0 := (g, 0)) ⟨rfl, Fr.rf, V⟩
  simp only at i1 i2 i3 hL
  subst i1
  refine ⟨g2, fun k => ?_, i2, fun q1 y1 n1 h1 h2 h3 h4 => i3 q1 y1 n1 h1 h2 h3 (by omega)⟩
  rw [congrFun hL k, fX3_fillVerdicts_17, if_pos (nI_lt (by omega) (by omega))]
theorem c_verd {hh : Nat} {d : HD} {g : HI} {H : Nat} (hp : hh + 20 < 56) (U : RU hh d g) (eH : g.1 65 11 = nI H) (hH : H < 64) : ∃ g2, fX3_fillVerdicts 65 hh g = some g2 ∧ Fr (fun a _ => a = 68 ∨ a = hh + 20) g g2 ∧ VD d (pc6 H) g2 (pc6 H + 1) 0 0 := by
  have hA := pc6_le H
  unfold fX3_fillVerdicts
  rw [eH, f_bit6 g hH, Option.bind_some]
  obtain ⟨F, ⟨g2, i⟩, ⟨i1, i2, i3⟩, hL⟩ := lpi (fun n (p : HI × Int32) => fX3_fillVerdicts_10 65 hh (fun h8 => some h8) n p.1 (nI (pc6 H)) p.2) (fun j p => p.2 = nI j ∧ Fr (fun a _ => a = 68 ∨ a = hh + 20) g p.1 ∧ VD d (pc6 H) p.1 j 0 0) (pc6 H + 1) (by omega) (by
    rintro j ⟨g1, i⟩ hj ⟨i1, i2, i3⟩
    simp only at i1 i2 i3
    subst i1
    have U1 := U.keep i2 (fun a b p r => by omega)
    obtain ⟨g3, e3, f3, v3⟩ := v_17 hp hA (q := j) (by omega) U1 i3
    refine ⟨(g3, nI (j + 1)), ⟨rfl, i2.tr f3, v3⟩, fun n => ?_⟩
    show fX3_fillVerdicts_10 65 hh _ (n + 1) g1 (nI (pc6 H)) (nI j) = _
    rw [fX3_fillVerdicts_10, if_neg (nI_nlt (by omega) (by omega)), e3, nI_1]) (s0 := (g, 0)) ⟨rfl, Fr.rf, fun q1 y1 n1 h1 h2 h3 h4 => by omega⟩
  simp only at i1 i2 i3 hL
  subst i1
  refine ⟨g2, ?_, i2, i3⟩
  rw [hL, fX3_fillVerdicts_10, if_pos (nI_lt (by omega) (by omega))]
/-! passing sets -/
def dlN (d : HD) (s : SD) (k : Nat) : Nat := bs (fun i => lnk d s i && k.testBit (ct (lnk d s) i)) d.D
theorem c_deals {d : HD} {s : SD} {h : HI} {e : Nat} (w : HDw d) (P : PL d s d.D h) : fX3_dealsOf 65 h (nI e) = some (nI (dlN d s e), h) := by
  have hD := w.D4
  have hl := (lC_le (s := s) w).1
  unfold fX3_dealsOf
  obtain ⟨F, hL⟩ := lpd (fun n (p : Int32 × Int32) => fX3_dealsOf_4 65 (fun h2 v2 => some (v2, h2)) n h (nI e) p.1 p.2) (fun j => (nI (bs (fun i => lnk d s i && (decide (ct (lnk d s) i < j) && e.testBit (ct (lnk d s) i))) d.D), nI j)) (lC d s) (by omega) (by
    intro j hj n
    obtain ⟨i, hi, hli, hci⟩ := ct_inv hj
    show fX3_dealsOf_4 65 _ (n + 1) h (nI e) (nI (bs (fun i => lnk d s i && (decide (ct (lnk d s) i < j) && e.testBit (ct (lnk d s) i))) d.D)) (nI j) = fX3_dealsOf_4 65 _ n h (nI e) (nI (bs (fun i => lnk d s i && (decide (ct (lnk d s) i < j + 1) && e.testBit (ct (lnk d s) i))) d.D)) (nI (j + 1))
    have e71 : h.1 71 j = nI i := by rw [← hci]; exact P.2.1 i hi hli
    rw [fX3_dealsOf_4, show h.1 65 10 = nI (lC d s) from P.1, if_neg (nI_ge hj (by omega)), bit_n (by omega)]
    unfold fX3_dealsOf_31
    simp (disch := omega) only [gB, nI_clamp, Nat.reduceAdd, nI_1, e71]
    cases q : e.testBit j with
    | false =>
      rw [if_pos b01f, bs_cong (n := d.D) (P := fun i => lnk d s i && (decide (ct (lnk d s) i < j) && e.testBit (ct (lnk d s) i))) (Q := fun i => lnk d s i && (decide (ct (lnk d s) i < j + 1) && e.testBit (ct (lnk d s) i)))]
      intro a ha
      by_cases c : ct (lnk d s) a = j
      · show (lnk d s a && (decide (ct (lnk d s) a < j) && e.testBit (ct (lnk d s) a))) = (lnk d s a && (decide (ct (lnk d s) a < j + 1) && e.testBit (ct (lnk d s) a)))
        rw [c, q, Bool.and_false, Bool.and_false, Bool.and_false, Bool.and_false]
      · show (lnk d s a && (decide (ct (lnk d s) a < j) && e.testBit (ct (lnk d s) a))) = (lnk d s a && (decide (ct (lnk d s) a < j + 1) && e.testBit (ct (lnk d s) a)))
        rw [decide_eq_decide.mpr (show ct (lnk d s) a < j ↔ ct (lnk d s) a < j + 1 by omega)]
    | true =>
      rw [if_neg (by decide), one_shl (by omega), bs_one _ hi, bs_cong (n := d.D) (P := fun a => decide (a = i) || (lnk d s a && (decide (ct (lnk d s) a < j) && e.testBit (ct (lnk d s) a)))) (Q := fun i => lnk d s i && (decide (ct (lnk d s) i < j + 1) && e.testBit (ct (lnk d s) i)))]
      intro a ha
      show (decide (a = i) || (lnk d s a && (decide (ct (lnk d s) a < j) && e.testBit (ct (lnk d s) a)))) = (lnk d s a && (decide (ct (lnk d s) a < j + 1) && e.testBit (ct (lnk d s) a)))
      by_cases c : a = i
      · rw [c, decide_eq_true rfl, hli, hci, q, decide_eq_true (Nat.lt_succ_self j)]; rfl
      · rw [decide_eq_false c, Bool.false_or]
        cases c2 : lnk d s a with
        | false => rfl
        | true =>
          have : ct (lnk d s) a ≠ j := fun e2 => c (ct_inj c2 hli (by rw [e2, hci]))
          rw [decide_eq_decide.mpr (show ct (lnk d s) a < j ↔ ct (lnk d s) a < j + 1 by omega)])
  simp only at hL
  have e0 : bs (fun i => lnk d s i && (decide (ct (lnk d s) i < 0) && e.testBit (ct (lnk d s) i))) d.D = 0 := by
    rw [bs_cong (n := d.D) (Q := fun _ => false) (fun a ha => by rw [decide_eq_false (Nat.not_lt_zero _)]; simp)]
    exact bs0 (ct_f _)
  rw [e0] at hL
  change fX3_dealsOf_4 65 _ FU h (nI e) 0 0 = _ at hL
  rw [hL, fX3_dealsOf_4, show h.1 65 10 = nI (lC d s) from P.1, if_pos (nI_le (Nat.le_refl _) (by omega))]
  unfold dlN
  rw [bs_cong (n := d.D) (Q := fun i => lnk d s i && e.testBit (ct (lnk d s) i))]
  intro a ha
  show (lnk d s a && (decide (ct (lnk d s) a < lC d s) && e.testBit (ct (lnk d s) a))) = (lnk d s a && e.testBit (ct (lnk d s) a))
  cases c2 : lnk d s a with
  | false => rfl
  | true => rw [decide_eq_true (li_lt ha c2), Bool.true_and]
theorem ct_add {P Q R : Nat → Bool} (h1 : ∀ i, P i = true → R i = true ∧ Q i = false) (h2 : ∀ i, Q i = true → R i = true) : ∀ n, ct P n + ct Q n ≤ ct R n
  | 0 => Nat.le_refl _
  | n + 1 => by
    have ih := ct_add h1 h2 n
    rw [ct, ct, ct]
    cases c : P n with
    | true => rw [(h1 n c).2, (h1 n c).1]; simp; omega
    | false =>
      cases c2 : Q n with
      | true => rw [h2 n c2]; simp; omega
      | false => simp; omega
theorem pc6_sub {S H : Nat} (h : S &&& H = S) : pc6 S ≤ pc6 H := ct_mono fun i _ hi => sub_bit h hi
theorem andN_bs {S M : Nat} (Q : Nat → Bool) : S &&& bs Q M = bs (fun i => S.testBit i && Q i) M := by
  apply Nat.eq_of_testBit_eq
  intro j
  rw [Nat.testBit_and, bs_bit, bs_bit]
  cases S.testBit j <;> cases decide (j < M) <;> cases Q j <;> rfl
def PSv (d : HD) (s : SD) (H K e x : Nat) (v : Int64) : Prop := ∀ S, S < 64 → lb v S = (ftb H K S && pz d s H e S x)
theorem c_pset {hh : Nat} {d : HD} {h : HI} {s : SD} {H K e x : Nat} (w : HDw d) (C : CH hh d h) (hx : x < d.X) (hf : ∀ S, S < 64 → lb (h.2 65 12) S = ftb H K S) (V : VD d (pc6 H) h (pc6 H + 1) 0 0) : ∃ v, fX3_passingSets 65 hh h (nI x) (nI (dlN d s e)) = some (v, h) ∧ PSv d s H K e x v := by
  have hX := w.X4
  have hM := w.M6
  have hD := w.D4
  unfold fX3_passingSets
  rw [c_bound w C hx (nI (dlN d s e)) (fun i => lnk d s i && e.testBit (ct (lnk d s) i)) (fun i hi => by unfold dlN; rw [tst _ (by omega) hi]), Option.bind_some]
  simp (disch := omega) only [gB, nI_clamp]
  rw [C.li x hx, C.dl x hx, bs_orr, bs_andn]
  generalize hY : (fun i => decide (0 < d.wi i x) || bnd d (fun i => lnk d s i && e.testBit (ct (lnk d s) i)) x i) = Y
  generalize hN : (fun i => decide (d.wi i x < 0) && !bnd d (fun i => lnk d s i && e.testBit (ct (lnk d s) i)) x i) = N
  have eY : ∀ S : Nat, bs (fun i => S.testBit i && Y i) d.M = bs (yesP d (fun i => S.testBit i) (fun i => lnk d s i && e.testBit (ct (lnk d s) i)) x) d.M := fun S => bs_cong fun i _ => by
    rw [← hY]; unfold yesP; dsimp only; rw [Bool.or_comm]
  have eN : ∀ S : Nat, bs (fun i => S.testBit i && N i) d.M = bs (noP d (fun i => S.testBit i) (fun i => lnk d s i && e.testBit (ct (lnk d s) i)) x) d.M := fun S => bs_cong fun i _ => by
    rw [← hN]; unfold noP; dsimp only; rw [Bool.and_comm (decide (d.wi i x < 0))]
  obtain ⟨F, ⟨v, i⟩, ⟨i1, i2⟩, hL⟩ := lpi (fun n (p : Int64 × Int32) => fX3_passingSets_44 65 hh (fun h6 v6 => some (v6, h6)) n h (nI (bs Y d.M)) (nI (bs N d.M)) p.1 p.2) (fun j p => p.2 = nI j ∧ ∀ S, S < 64 → lb p.1 S = (decide (S < j) && (ftb H K S && pz d s H e S x))) 64 (by omega) (by
    rintro j ⟨v, i⟩ hj ⟨i1, i2⟩
    simp only at i1 i2
    subst i1
    have hy : pc6 (j &&& bs Y d.M) + pc6 (j &&& bs N d.M) ≤ pc6 j := by
      refine ct_add (fun i hi => ?_) (fun i hi => ?_) 6
      · rw [Nat.testBit_and] at hi
        have h1 := (Bool.and_eq_true_iff.mp hi).1
        have h2 := (Bool.and_eq_true_iff.mp hi).2
        refine ⟨h1, ?_⟩
        rw [Nat.testBit_and, h1, Bool.true_and, bs_bit]
        rw [bs_bit] at h2
        have h3 := (Bool.and_eq_true_iff.mp h2).2
        rw [← hY] at h3
        rw [← hN]
        simp only at h3 ⊢
        cases c : bnd d (fun i => lnk d s i && e.testBit (ct (lnk d s) i)) x i with
        | true => simp
        | false =>
          rw [c, Bool.or_false] at h3
          have := of_decide_eq_true h3
          rw [decide_eq_false (show ¬ d.wi i x < 0 by omega)]; simp
      · rw [Nat.testBit_and] at hi
        exact (Bool.and_eq_true_iff.mp hi).1
    have l64 : ∀ Q : Nat → Bool, j &&& bs Q d.M < 64 := fun Q => Nat.lt_of_le_of_lt Nat.and_le_left hj
    have h6 := pc6_le j
    have cont : ∀ v2 : Int64, (∀ S, S < 64 → lb v2 S = (lb v S || (decide (S = j) && (ftb H K j && pz d s H e j x)))) → (fun p : Int64 × Int32 => p.2 = nI (j + 1) ∧ ∀ S, S < 64 → lb p.1 S = (decide (S < j + 1) && (ftb H K S && pz d s H e S x))) (v2, nI (j + 1)) := by
      intro v2 l2
      refine ⟨rfl, fun S hS => ?_⟩
      show lb v2 S = _
      rw [l2 S hS, i2 S hS]
      by_cases q : S = j
      · rw [q, decide_eq_true rfl, decide_eq_false (Nat.lt_irrefl j), decide_eq_true (Nat.lt_succ_self j)]; rfl
      · rw [decide_eq_false q, Bool.false_and, Bool.or_false, decide_eq_decide.mpr (show S < j ↔ S < j + 1 by omega)]
    have stp : ∀ n, fX3_passingSets_44 65 hh (fun h6 v6 => some (v6, h6)) (n + 1) h (nI (bs Y d.M)) (nI (bs N d.M)) v (nI j) = if ftb H K j = false then fX3_passingSets_44 65 hh (fun h6 v6 => some (v6, h6)) n h (nI (bs Y d.M)) (nI (bs N d.M)) v (nI (j + 1)) else (if (h.1 68 ((pc6 (j &&& bs Y d.M) * 7 + pc6 (j &&& bs N d.M)) * 7 + pc6 j)) = 0 then fX3_passingSets_44 65 hh (fun h6 v6 => some (v6, h6)) n h (nI (bs Y d.M)) (nI (bs N d.M)) v (nI (j + 1)) else fX3_passingSets_44 65 hh (fun h6 v6 => some (v6, h6)) n h (nI (bs Y d.M)) (nI (bs N d.M)) (v ||| ((1 : Int64) <<< ((nI j).toInt64 &&& 63))) (nI (j + 1))) := by
      intro n
      rw [fX3_passingSets_44, if_neg (show ¬ (64 : Int32) ≤ nI j from nI_ge (b := 64) (by omega) (by decide)), and_n, f_bit6 h (l64 Y), Option.bind_some, and_n, f_bit6 h (l64 N), Option.bind_some]
      unfold fX3_passingSets_119
      rw [nI_1]
      cases q : ftb H K j with
      | false => rw [if_pos ((cmpS _ hj).mpr (by rw [hf j hj]; exact q)), if_pos rfl]
      | true =>
        rw [if_neg (fun e2 => by have := (cmpS _ hj).mp e2; rw [hf j hj, q] at this; cases this), if_neg (by decide), f_bit6 h hj, Option.bind_some, show (7 : Int32) = nI 7 from rfl, nI_mu, nI_add, nI_mu, nI_add]
        simp (disch := omega) only [gB, nI_clamp, Nat.reduceAdd]
    cases q : ftb H K j with
    | false =>
      refine ⟨(v, nI (j + 1)), cont v (fun S hS => ?_), fun n => (stp n).trans (by rw [if_pos q])⟩
      rw [q, Bool.false_and, Bool.and_false, Bool.or_false]
    | true =>
      have hft := (ftb_ft hj).mp q
      have hsub := pc6_sub hft.2.1
      have hA := pc6_le H
      have ev := V (pc6 j) (pc6 (j &&& bs Y d.M)) (pc6 (j &&& bs N d.M)) hsub (by omega) (by omega) (by omega)
      have epz : vdV d (pc6 H) (pc6 (j &&& bs Y d.M)) (pc6 (j &&& bs N d.M)) (pc6 j) = b01 (pz d s H e j x) := by
        unfold vdV pz
        rw [andN_bs, andN_bs, eY, eN]
      cases q2 : pz d s H e j x with
      | false =>
        refine ⟨(v, nI (j + 1)), cont v (fun S hS => ?_), fun n => (stp n).trans (by rw [if_neg (by rw [q]; decide), if_pos (by rw [ev, epz, q2]; rfl)])⟩
        rw [q2, Bool.and_false, Bool.and_false, Bool.or_false]
      | true =>
        refine ⟨(v ||| ((1 : Int64) <<< ((nI j).toInt64 &&& 63)), nI (j + 1)), cont _ (fun S hS => ?_), fun n => (stp n).trans (by rw [if_neg (by rw [q]; decide), if_neg (by rw [ev, epz, q2]; decide)])⟩
        rw [lb_or, lb_one hj hS, q, q2, Bool.and_true, Bool.and_true]) (s0 := (0, 0)) ⟨rfl, fun S hS => by
        show lb 0 S = _
        rw [lb_0, decide_eq_false (Nat.not_lt_zero S)]; rfl⟩
  simp only at i1 i2 hL
  subst i1
  refine ⟨v, by rw [hL, fX3_passingSets_44, if_pos (show (64 : Int32) ≤ nI 64 by decide)], fun S hS => ?_⟩
  rw [i2 S hS, decide_eq_true hS, Bool.true_and]
