/-! floor -/
theorem bs0 {P : Nat → Bool} : ∀ {n : Nat}, ct P n = 0 → bs P n = 0
  | 0, _ => rfl
  | n + 1, h => by
    rw [ct] at h
    rw [bs]
    by_cases q : P n = true
    · rw [if_pos q] at h; omega
    · rw [if_neg q] at h ⊢; rw [bs0 (by omega)]
theorem bs1 {P : Nat → Bool} : ∀ {n : Nat}, 1 ≤ ct P n → 1 ≤ bs P n
  | 0, h => h
  | n + 1, h => by
    rw [ct] at h
    rw [bs]
    by_cases q : P n = true
    · rw [if_pos q]
      have : 1 ≤ 2 ^ n := Nat.one_le_two_pow
      omega
    · rw [if_neg q] at h ⊢
      have := bs1 (P := P) (n := n) (by omega)
      omega
theorem sub_n {a : Int32} {Q : Nat → Bool} {M : Nat} (hM : M ≤ 6) (h : a &&& (nI (bs Q M) ^^^ (-1 : Int32)) = 0) : a = nI (bs (fun i => a.toBitVec.getLsbD i) M) := by
  apply i32_ext
  intro i hi
  rw [nI_bit _ hi, bs_bit]
  by_cases q : i < M
  · rw [decide_eq_true q, Bool.true_and]
  · have h2 : (a &&& (nI (bs Q M) ^^^ (-1 : Int32))).toBitVec.getLsbD i = (0 : Int32).toBitVec.getLsbD i := by rw [h]
    rw [Int32.toBitVec_and, BitVec.getLsbD_and, Int32.toBitVec_xor, BitVec.getLsbD_xor, nI_bit _ hi, bs_bit, m1_bit hi, decide_eq_false q] at h2
    have h0 : ∀ i, i < 32 → (0 : Int32).toBitVec.getLsbD i = false := by decide
    rw [h0 i hi] at h2
    rw [decide_eq_false q, Bool.false_and]
    cases b : a.toBitVec.getLsbD i
    · rfl
    · rw [b] at h2; simp at h2
def bdP (d : HD) (P : Nat → Bool) (m : Nat) : Bool := P m && decide (15 < d.st m)
def mx (d : HD) (s : SD) (P : Nat → Bool) : Nat → Nat
  | 0 => 0
  | m + 1 => if P m then max (mx d s P m) (d.st m - s.ti m) else mx d s P m
theorem mx_le {d : HD} {s : SD} {P : Nat → Bool} {X : Nat} : ∀ {n : Nat}, (∀ m, m < n → P m = true → d.st m - s.ti m ≤ X) → mx d s P n ≤ X
  | 0, _ => Nat.zero_le _
  | n + 1, h => by
    have ih := mx_le (d := d) (s := s) (P := P) (X := X) (n := n) (fun m hm => h m (by omega))
    rw [mx]
    split
    · next q => have := h n (by omega) q; omega
    · exact ih
theorem mx_ge {d : HD} {s : SD} {P : Nat → Bool} {m : Nat} (hP : P m = true) : ∀ {n : Nat}, m < n → d.st m - s.ti m ≤ mx d s P n
  | 0, h => absurd h (Nat.not_lt_zero m)
  | n + 1, h => by
    rw [mx]
    by_cases e : m = n
    · rw [← e, if_pos hP]; omega
    · have ih := mx_ge (d := d) (s := s) hP (n := n) (by omega)
      split <;> omega
theorem mx_ex {d : HD} {s : SD} {P : Nat → Bool} : ∀ {n : Nat}, 0 < mx d s P n → ∃ m, m < n ∧ P m = true ∧ s.ti m < d.st m
  | 0, h => absurd h (Nat.not_lt_zero 0)
  | n + 1, h => by
    rw [mx] at h
    by_cases q : P n = true
    · rw [if_pos q] at h
      rcases (show 0 < mx d s P n ∨ 0 < d.st n - s.ti n by omega) with z | z
      · obtain ⟨m, a, b⟩ := mx_ex z
        exact ⟨m, by omega, b⟩
      · exact ⟨n, by omega, q, by omega⟩
    · rw [if_neg q] at h
      obtain ⟨m, a, b⟩ := mx_ex h
      exact ⟨m, by omega, b⟩
def fex (P : Nat → Bool) : Nat → Nat → Bool
  | _, 0 => false
  | i, f + 1 => P i || fex P (i + 1) f
theorem fex_any (P : Nat → Bool) : ∀ f i, fex P i f = true ↔ ∃ m, i ≤ m ∧ m < i + f ∧ P m = true
  | 0, i => ⟨fun h => by rw [fex] at h; exact absurd h (by decide), fun ⟨m, a, b, _⟩ => by omega⟩
  | f + 1, i => by
    rw [fex, Bool.or_eq_true, fex_any P f (i + 1)]
    constructor
    · rintro (h | ⟨m, a, b, c⟩)
      · exact ⟨i, Nat.le_refl _, by omega, h⟩
      · exact ⟨m, by omega, by omega, c⟩
    · rintro ⟨m, a, b, c⟩
      by_cases e : m = i
      · rw [e] at c; exact Or.inl c
      · exact Or.inr ⟨m, by omega, by omega, c⟩
theorem any_ex (P : Nat → Bool) : ∀ n, anyB P n = true ↔ ∃ m, m < n ∧ P m = true
  | 0 => ⟨fun h => by rw [anyB] at h; exact absurd h (by decide), fun ⟨m, a, _⟩ => absurd a (Nat.not_lt_zero m)⟩
  | n + 1 => by
    rw [anyB, Bool.or_eq_true, any_ex P n]
    constructor
    · rintro (⟨m, a, b⟩ | h)
      · exact ⟨m, by omega, b⟩
      · exact ⟨n, by omega, h⟩
    · rintro ⟨m, a, b⟩
      by_cases e : m = n
      · rw [e] at b; exact Or.inr b
      · exact Or.inl ⟨m, by omega, b⟩
theorem fex_eq (P : Nat → Bool) (n : Nat) : fex P 0 n = anyB P n := by
  rw [Bool.eq_iff_iff, fex_any, any_ex]
  constructor
  · rintro ⟨m, a, b, c⟩; exact ⟨m, by omega, c⟩
  · rintro ⟨m, a, b⟩; exact ⟨m, by omega, by omega, b⟩
theorem c_floorlp {hh : Nat} {d : HD} {h : HI} {s : SD} (w : HDw d) (v : SDv d s) (T : St hh d h s) (P : Nat → Bool) (c : Int32) (k : HI → Int32 → Int32 → Option (Int32 × HI)) : ∀ (f i F : Nat), i + f = d.M → fX6_floorTime_33 56 hh k (F + (f + 1)) h (nI (bs P d.M)) c (nI (mx d s P i)) (nI i) = if fex (bdP d P) i f = true then some (-1, h) else k h c (nI (mx d s P d.M)) := by
  have hM := w.M6
  intro f
  induction f with
  | zero =>
    intro i F hi
    rw [show F + (0 + 1) = F + 1 from rfl, fX6_floorTime_33, T.1.H.M, if_pos (nI_le (by omega) (by omega)), fex, if_neg (by decide), show i = d.M by omega]
  | succ f ih =>
    intro i F hi
    have hst := w.st i (by omega)
    have hti := v.ti i (by omega)
    have hmx : mx d s P i ≤ 30 := mx_le fun m hm _ => by have := w.st m (by omega); omega
    rw [show F + (f + 1 + 1) = (F + (f + 1)) + 1 from rfl, fX6_floorTime_33, T.1.H.M, if_neg (nI_ge (by omega) (by omega)), tst P (by omega) (by omega), fex]
    unfold fX6_floorTime_97
    simp (disch := omega) only [gB, nI_clamp, nI_1, Nat.reduceAdd]
    rw [T.1.H.st i (by omega), show h.1 58 i = nI (s.ti i) from T.1.S.ti i (by omega)]
    have e := ih (i + 1) F (by omega)
    rw [mx] at e
    unfold bdP
    cases q : P i with
    | false =>
      rw [q] at e
      rw [if_pos b01f, Bool.false_and, Bool.false_or]
      exact e
    | true =>
      rw [q, if_pos rfl] at e
      rw [if_neg b01t, Bool.true_and]
      by_cases z : 15 < d.st i
      · rw [if_neg (show ¬ nI (d.st i) ≤ (15 : Int32) from nI_ge (a := 15) z (by omega)), decide_eq_true z, Bool.true_or, if_pos rfl]
      · rw [if_pos (show nI (d.st i) ≤ (15 : Int32) from nI_le (b := 15) (by omega) (by decide)), decide_eq_false z, Bool.false_or]
        have es : nI (d.st i) - nI (s.ti i) = nI (d.st i - s.ti i) := by
          have : d.st i = (d.st i - s.ti i) + s.ti i := by omega
          rw [this, ← nI_add, Int32.add_sub_cancel, Nat.add_sub_cancel]
        rw [es]
        by_cases y : mx d s P i < d.st i - s.ti i
        · rw [if_pos (nI_lt y (by omega)), show d.st i - s.ti i = max (mx d s P i) (d.st i - s.ti i) by omega]
          exact e
        · rw [if_neg (nI_nlt (by omega) (by omega))]
          rw [show max (mx d s P i) (d.st i - s.ti i) = mx d s P i by omega] at e
          exact e
def Wfl (a _ : Nat) : Prop := 140 ≤ a ∧ a ≤ 142
theorem ct_lt {P : Nat → Bool} {m : Nat} (h : P m = true) : ∀ {n : Nat}, m < n → ct P m < ct P n
  | 0, hm => absurd hm (Nat.not_lt_zero m)
  | n + 1, hm => by
    rw [ct]
    by_cases e : m = n
    · rw [e] at h ⊢; rw [if_pos h]; omega
    · have := ct_lt h (n := n) (by omega)
      omega
theorem ct_inv {P : Nat → Bool} {t : Nat} : ∀ {n : Nat}, t < ct P n → ∃ m, m < n ∧ P m = true ∧ ct P m = t
  | 0, h => absurd h (Nat.not_lt_zero t)
  | n + 1, h => by
    rw [ct] at h
    by_cases q : P n = true
    · rw [if_pos q] at h
      by_cases e : t = ct P n
      · exact ⟨n, by omega, q, e.symm⟩
      · obtain ⟨m, a, b⟩ := ct_inv (P := P) (t := t) (n := n) (by omega)
        exact ⟨m, by omega, b⟩
    · rw [if_neg q] at h
      obtain ⟨m, a, b⟩ := ct_inv (P := P) (t := t) (n := n) (by omega)
      exact ⟨m, by omega, b⟩
/-- the reference gathers the talkers -/
theorem r_gather {d : HD} {h : HI} {s : SD} (w : HDw d) (v : SDv d s) (R : RO d h h s) (P : Nat → Bool) (hP : ∀ m, P m = true → m < d.M) (hc : ct P 6 ≤ 3) (K : HI → Int32 → Int32 → Int32 → Option (Int32 × HI)) : ∃ g f, fX9_floor_48 101 K FU h (nI (bs P 6)) 0 0 1 0 = K g (nI (ct P 6)) f (b01 (!anyB (bdP d P) 6)) ∧ Fr (fun a _ => a = 142) h g ∧ (∀ m, m < 6 → P m = true → g.1 142 (ct P m) = nI m) ∧ (anyB (bdP d P) 6 = false → ∃ x, f = nI x ∧ x < 16 ^ ct P 6 ∧ ∀ m, m < 6 → P m = true → nib x (ct P m) = s.ti m) := by
  have hM := w.M6
  obtain ⟨F, ⟨g, n, f, b, i⟩, ⟨hi, hn, hb, hF, hr, hx⟩, hL⟩ := lpi (fun n (p : HI × Int32 × Int32 × Int32 × Int32) => fX9_floor_48 101 K n p.1 (nI (bs P 6)) p.2.1 p.2.2.1 p.2.2.2.1 p.2.2.2.2) (fun j p => p.2.2.2.2 = nI j ∧ p.2.1 = nI (ct P j) ∧ p.2.2.2.1 = b01 (!anyB (bdP d P) j) ∧ Fr (fun a _ => a = 142) h p.1 ∧ (∀ m, m < j → P m = true → p.1.1 142 (ct P m) = nI m) ∧ (anyB (bdP d P) j = false → ∃ x, p.2.2.1 = nI x ∧ x < 16 ^ ct P j ∧ ∀ m, m < j → P m = true → nib x (ct P m) = s.ti m)) 6 (by omega) (by
    rintro j ⟨g, n, f, b, i⟩ hj ⟨hi, hn, hb, hF, hr, hx⟩
    simp only at hi hn hb hF hr hx
    subst hi hn hb
    have gg : ∀ a b, ¬ a = 142 → g.1 a b = h.1 a b := fun a b e => hF.1 _ _ e
    have hct : P j = true → ct P j < 3 := fun q => by have := ct_lt q hj; omega
    cases q : P j with
    | false =>
      refine ⟨(g, nI (ct P j), f, b01 (!anyB (bdP d P) j), nI (j + 1)), ⟨rfl, ?_, ?_, hF, fun m hm hp => ?_, fun ha => ?_⟩, fun n => ?_⟩
      · show nI (ct P j) = nI (ct P (j + 1))
        rw [ct, q]; rfl
      · show b01 (!anyB (bdP d P) j) = b01 (!anyB (bdP d P) (j + 1))
        rw [anyB, show bdP d P j = false by unfold bdP; rw [q]; rfl, Bool.or_false]
      · by_cases e : m = j
        · rw [e, q] at hp; exact absurd hp (by decide)
        · exact hr m (by omega) hp
      · rw [anyB, show bdP d P j = false by unfold bdP; rw [q]; rfl, Bool.or_false] at ha
        obtain ⟨x, e1, e2, e3⟩ := hx ha
        refine ⟨x, e1, by rw [ct, q]; exact e2, fun m hm hp => ?_⟩
        by_cases e : m = j
        · rw [e, q] at hp; exact absurd hp (by decide)
        · exact e3 m (by omega) hp
      · show fX9_floor_48 101 K (n + 1) g (nI (bs P 6)) (nI (ct P j)) f (b01 (!anyB (bdP d P) j)) (nI j) = fX9_floor_48 101 K n g (nI (bs P 6)) (nI (ct P j)) f (b01 (!anyB (bdP d P) j)) (nI (j + 1))
        rw [fX9_floor_48, if_neg (show ¬ (6 : Int32) ≤ nI j from nI_ge (b := 6) (by omega) (by decide)), tst P (by omega) hj, q, if_pos b01f]
        unfold fX9_floor_116
        rw [nI_1]
    | true =>
      have hc3 := hct q
      have hjM := hP j q
      have hst := w.st j hjM
      have hti := v.ti j hjM
      have e1 : ∀ n, fX9_floor_48 101 K (n + 1) g (nI (bs P 6)) (nI (ct P j)) f (b01 (!anyB (bdP d P) j)) (nI j) = fX9_floor_48 101 K n (uI g 142 (ct P j) (nI j)) (nI (bs P 6)) (nI (ct P j + 1)) (f ||| (nI (s.ti j) <<< (((4 : Int32) * nI (ct P j)) &&& 31))) (b01 (!anyB (bdP d P) (j + 1))) (nI (j + 1)) := by
        intro n
        rw [fX9_floor_48, if_neg (show ¬ (6 : Int32) ≤ nI j from nI_ge (b := 6) (by omega) (by decide)), tst P (by omega) hj, q, if_neg b01t]
        unfold fX9_floor_110 fX9_floor_111 fX9_floor_116
        simp (disch := omega) only [gB, nI_clamp, nI_1, Nat.reduceAdd]
        rw [gg 129 j (by decide), R.S.ti j (by omega), gg 119 j (by decide), R.H.st j hjM, anyB]
        unfold bdP
        rw [q, Bool.true_and]
        cases anyB (fun m => P m && decide (15 < d.st m)) j with
        | true => rw [if_pos (show b01 (!true) = 0 from rfl), Bool.true_or]; rfl
        | false =>
          rw [if_neg (show ¬ b01 (!false) = 0 by decide), Bool.false_or]
          by_cases z : 15 < d.st j
          · rw [if_pos (show (15 : Int32) < nI (d.st j) from nI_lt (a := 15) z (by omega)), decide_eq_true z]; rfl
          · rw [if_neg (show ¬ (15 : Int32) < nI (d.st j) from nI_nlt (a := 15) (by omega) (by decide)), decide_eq_false z]; rfl
      refine ⟨(uI g 142 (ct P j) (nI j), nI (ct P j + 1), f ||| (nI (s.ti j) <<< (((4 : Int32) * nI (ct P j)) &&& 31)), b01 (!anyB (bdP d P) (j + 1)), nI (j + 1)), ⟨rfl, ?_, rfl, hF.tr (Fr.uI rfl), fun m hm hp => ?_, fun ha => ?_⟩, e1⟩
      · show nI (ct P j + 1) = nI (ct P (j + 1))
        rw [ct, q]; rfl
      · show (uI g 142 (ct P j) (nI j)).1 142 (ct P m) = nI m
        by_cases e : m = j
        · rw [e, uI_s]
        · have := ct_lt hp (n := j) (by omega)
          rw [uI_n (by omega)]; exact hr m (by omega) hp
      · rw [anyB, Bool.or_eq_false_iff] at ha
        obtain ⟨x, e1, e2, e3⟩ := hx ha.1
        have hs15 : d.st j ≤ 15 := by
          have := ha.2
          unfold bdP at this
          rw [q, Bool.true_and] at this
          have := of_decide_eq_false this
          omega
        have e16 : (16 : Nat) ^ ct P j = 2 ^ (4 * ct P j) := by rw [Nat.pow_mul]
        refine ⟨x + s.ti j * 16 ^ ct P j, ?_, ?_, fun m hm hp => ?_⟩
        · show f ||| (nI (s.ti j) <<< (((4 : Int32) * nI (ct P j)) &&& 31)) = _
          rw [e1, nI_m40, shl_n (by omega), or_n, ← e16, show x ||| s.ti j * 16 ^ ct P j = x + s.ti j * 16 ^ ct P j by rw [e16]; exact or_add (by rw [← e16]; exact e2)]
        · rw [ct, q, if_pos rfl, Nat.pow_succ]
          have : s.ti j * 16 ^ ct P j ≤ 15 * 16 ^ ct P j := Nat.mul_le_mul_right _ (by omega)
          omega
        · by_cases e : m = j
          · rw [e, nib_top e2 (by omega)]
          · rw [nib_add e2 (ct_lt hp (by omega))]; exact e3 m (by omega) hp) (s0 := (h, 0, 0, 1, 0)) ⟨rfl, rfl, rfl, Fr.rf, fun m hm => absurd hm (Nat.not_lt_zero m), fun _ => ⟨0, rfl, Nat.zero_lt_one, fun m hm => absurd hm (Nat.not_lt_zero m)⟩⟩
  simp only at hi hn hb hF hr hx hL
  subst hi hn hb
  refine ⟨g, f, ?_, hF, hr, hx⟩
  rw [hL, fX9_floor_48, if_pos (show (6 : Int32) ≤ nI 6 by decide)]
def mmP (P : Nat → Bool) : Nat → Nat → Nat
  | 0, _ => 0
  | n + 1, k => if P n = true ∧ ct P n = k then n else mmP P n k
theorem mmP_ok {P : Nat → Bool} {k : Nat} : ∀ {n : Nat}, k < ct P n → mmP P n k < n ∧ P (mmP P n k) = true ∧ ct P (mmP P n k) = k
  | 0, h => absurd h (Nat.not_lt_zero k)
  | n + 1, h => by
    rw [mmP]
    by_cases q : P n = true ∧ ct P n = k
    · rw [if_pos q]; exact ⟨Nat.lt_succ_self n, q⟩
    · rw [if_neg q]
      have h2 : k < ct P n := by
        rw [ct] at h
        by_cases z : P n = true
        · rw [if_pos z] at h
          rcases (show k < ct P n ∨ ct P n = k by omega) with y | y
          · exact y
          · exact absurd ⟨z, y⟩ q
        · rw [if_neg z] at h; exact h
      have ih := mmP_ok h2
      exact ⟨by omega, ih.2⟩
theorem r_begin {h : HI} {c x : Nat} (K : HI → Int32 → Option (Int32 × HI)) : ∃ g, fX9_floor_132 101 K FU h (nI c) (nI x) 0 = K g (nI c) ∧ (∀ t, t < 4096 → (¬ g.1 140 t = 0 ↔ nI t = nI x)) ∧ Fr (fun a _ => a = 140) h g := by
  obtain ⟨F, ⟨g, i⟩, ⟨hi, hz, hF⟩, hL⟩ := lpi (fun n (p : HI × Int32) => fX9_floor_132 101 K n p.1 (nI c) (nI x) p.2) (fun j p => p.2 = nI j ∧ (∀ t, t < j → (¬ p.1.1 140 t = 0 ↔ nI t = nI x)) ∧ Fr (fun a _ => a = 140) h p.1) 4096 (by omega) (by
    rintro j ⟨g, i⟩ hj ⟨hi, hz, hF⟩
    simp only at hi hz hF
    subst hi
    have st : ∀ z : Int32, (¬ z = 0 ↔ nI j = nI x) → ∀ t, t < j + 1 → (¬ (uI g 140 j z).1 140 t = 0 ↔ nI t = nI x) := by
      intro z hz2 t ht
      by_cases e : t = j
      · rw [e, uI_s]; exact hz2
      · rw [uI_n (by omega)]; exact hz t (by omega)
    have e1 : ∀ n, fX9_floor_132 101 K (n + 1) g (nI c) (nI x) (nI j) = if nI j = nI x then fX9_floor_132 101 K n (uI g 140 j 1) (nI c) (nI x) (nI (j + 1)) else fX9_floor_132 101 K n (uI g 140 j 0) (nI c) (nI x) (nI (j + 1)) := by
      intro n
      rw [fX9_floor_132, if_neg (show ¬ (4096 : Int32) ≤ nI j from nI_ge (b := 4096) hj (by decide))]
      unfold fX9_floor_157
      simp (disch := omega) only [gB, nI_clamp, Nat.reduceAdd, nI_1]
      rfl
    by_cases q : nI j = nI x
    · refine ⟨(uI g 140 j 1, nI (j + 1)), ⟨rfl, st 1 ⟨fun _ => q, fun _ => by decide⟩, hF.tr (Fr.uI rfl)⟩, fun n => ?_⟩
      show fX9_floor_132 101 K (n + 1) g (nI c) (nI x) (nI j) = _
      rw [e1, if_pos q]
    · refine ⟨(uI g 140 j 0, nI (j + 1)), ⟨rfl, st 0 ⟨fun z => absurd rfl z, fun z => absurd z q⟩, hF.tr (Fr.uI rfl)⟩, fun n => ?_⟩
      show fX9_floor_132 101 K (n + 1) g (nI c) (nI x) (nI j) = _
      rw [e1, if_neg q]) (s0 := (h, 0)) ⟨rfl, fun t ht => absurd ht (Nat.not_lt_zero t), Fr.rf⟩
  simp only at hi hz hF hL
  subst hi
  exact ⟨g, by rw [hL, fX9_floor_132, if_pos (show (4096 : Int32) ≤ nI 4096 by decide)], hz, hF⟩
/-- the minutes of the floor -/
theorem r_run {h : HI} {c x L : Nat} {mm sg : Nat → Nat} (c1 : 1 ≤ c) (c3 : c ≤ 3) (hx : x < 16 ^ c) (hm : ∀ k, k < c → mm k < 6 ∧ h.1 142 k = nI (mm k) ∧ h.1 119 (mm k) = nI (sg k) ∧ 1 ≤ sg k ∧ sg k ≤ 15 ∧ nib x k ≤ sg k) (hn : ∀ t, t < 4096 → (¬ h.1 140 t = 0 ↔ nI t = nI x)) (hL : (∀ k, k < c → sg k - nib x k ≤ L) ∧ (0 < L → ∃ k, k < c ∧ nib x k < sg k) ∧ (c = 1 → L = sg 0 - nib x 0)) : ∃ g, fX9_floor_167 101 (fun h9 v5 => some (v5, h9)) FU h (nI c) 0 = some (if c ≤ 1 then nI L else if L = 0 then nI L else 200, g) ∧ Fr (fun a _ => a = 140 ∨ a = 141) h g := by
  have hx2 : x < 4096 := Nat.lt_of_lt_of_le hx (Nat.pow_le_pow_right (n := 16) (j := 3) (by decide) c3)
  have hsg : ∀ k, k < c → sg k ≤ 15 := fun k hk => (hm k hk).2.2.2.2.1
  have on : ∀ g : HI, Fr (fun a _ => a = 140 ∨ a = 141) h g → ∀ k, k < c → mm k < 6 ∧ g.1 142 k = nI (mm k) ∧ g.1 119 (mm k) = nI (sg k) ∧ sg k ≤ 15 := fun g F k hk => ⟨(hm k hk).1, by rw [F.1 _ _ (by omega)]; exact (hm k hk).2.1, by rw [F.1 _ _ (by omega)]; exact (hm k hk).2.2.1, hsg k hk⟩
  have eqx : ∀ t, t < 4096 → (¬ h.1 140 t = 0 ↔ t = x) := fun t ht => (hn t ht).trans (nI_eq (by omega) (by omega))
  by_cases hL0 : L = 0
  · obtain ⟨f, g, e, e1, e2, e3, e4⟩ := r_fon (mm := mm) (sg := sg) c1 c3 (on h Fr.rf)
    have f0 : f = 0 := by
      rcases e1 with z | z
      · exact z
      · have : ¬ f = 0 := by rw [z]; decide
        obtain ⟨s, k, a, b, y1, y2⟩ := e2.mp this
        rw [(eqx s a).mp y1] at y2
        have := hL.1 k b
        omega
    refine ⟨g, ?_, e4⟩
    obtain ⟨G, hG⟩ := FU_ge (n := 0) (by omega)
    rw [hG, fX9_floor_167, if_neg (by decide), e, Option.bind_some, if_pos f0, hL0]
    split <;> rfl
  · by_cases hc : c ≤ 1
    · have hc1 : c = 1 := by omega
      subst hc1
      have hl := hL.2.2 rfl
      have hx16 : x < 16 := by simpa using hx
      have nx : ∀ y, y < 16 → nib y 0 = y := fun y hy => by unfold nib; rw [Nat.pow_zero, Nat.div_one, Nat.mod_eq_of_lt hy]
      have h0 := hm 0 (by omega)
      rw [nx x hx16] at hl h0
      obtain ⟨F, ⟨g, i⟩, ⟨hi, hz, hF⟩, hR⟩ := lpi (fun n (p : HI × Int32) => fX9_floor_167 101 (fun h9 v5 => some (v5, h9)) n p.1 (nI 1) p.2) (fun j p => p.2 = nI j ∧ (∀ t, t < 4096 → (¬ p.1.1 140 t = 0 ↔ t = x + j)) ∧ Fr (fun a _ => a = 140 ∨ a = 141) h p.1) L (by omega) (by
        rintro j ⟨g, i⟩ hj ⟨hi, hz, hF⟩
        simp only at hi hz hF
        subst hi
        obtain ⟨f, g2, e, e1, e2, e3, e4⟩ := r_fon (mm := mm) (sg := sg) (Nat.le_refl 1) c3 (on g hF)
        have hxj : nib (x + j) 0 = x + j := nx _ (by omega)
        have f0 : ¬ f = 0 := e2.mpr ⟨x + j, 0, by omega, by omega, (hz _ (by omega)).mpr rfl, by rw [hxj]; omega⟩
        refine ⟨(g2, nI (j + 1)), ⟨rfl, fun t ht => (e3 t ht).2.trans ⟨?_, ?_⟩, hF.tr e4⟩, fun n => ?_⟩
        · rintro ⟨s, k, a, b, y1, y2, y3⟩
          have hk : k = 0 := by omega
          have hs := (hz s a).mp y1
          subst hk hs
          rw [y3, stp, stp]
          unfold nv
          rw [if_pos rfl, hxj]; omega
        · intro y
          refine ⟨x + j, 0, by omega, by omega, (hz _ (by omega)).mpr rfl, by rw [hxj]; omega, ?_⟩
          rw [stp, stp]
          unfold nv
          rw [if_pos rfl, hxj]; omega
        · show fX9_floor_167 101 _ (n + 1) g (nI 1) (nI j) = fX9_floor_167 101 _ n g2 (nI 1) (nI (j + 1))
          rw [fX9_floor_167, if_neg (show ¬ (200 : Int32) ≤ nI j from nI_ge (b := 200) (by omega) (by decide)), e, Option.bind_some, if_neg f0, nI_1]) (s0 := (h, 0)) ⟨rfl, fun t ht => by rw [Nat.add_zero]; exact eqx t ht, Fr.rf⟩
      simp only at hi hz hF hR
      subst hi
      obtain ⟨f, g2, e, e1, e2, e3, e4⟩ := r_fon (mm := mm) (sg := sg) (Nat.le_refl 1) c3 (on g hF)
      have f0 : f = 0 := by
        rcases e1 with z | z
        · exact z
        · have : ¬ f = 0 := by rw [z]; decide
          obtain ⟨s, k, a, b, y1, y2⟩ := e2.mp this
          have hk : k = 0 := by omega
          have hs := (hz s a).mp y1
          subst hk hs
          rw [nx _ (by omega)] at y2
          omega
      refine ⟨g2, ?_, hF.tr e4⟩
      rw [hR, fX9_floor_167, if_neg (show ¬ (200 : Int32) ≤ nI L from nI_ge (b := 200) (by omega) (by decide)), e, Option.bind_some, if_pos f0, if_pos (Nat.le_refl 1)]
    · obtain ⟨F, ⟨g, i⟩, ⟨hi, hz, hF⟩, hR⟩ := lpi (fun n (p : HI × Int32) => fX9_floor_167 101 (fun h9 v5 => some (v5, h9)) n p.1 (nI c) p.2) (fun j p => p.2 = nI j ∧ (∃ s, s < 4096 ∧ ¬ p.1.1 140 s = 0 ∧ (∀ k, k < c → nib s k ≤ sg k) ∧ ∃ k, k < c ∧ nib s k < sg k) ∧ Fr (fun a _ => a = 140 ∨ a = 141) h p.1) 200 (by omega) (by
        rintro j ⟨g, i⟩ hj ⟨hi, ⟨s, s1, s2, s3, k, k1, k2⟩, hF⟩
        simp only at hi s2 hF
        subst hi
        obtain ⟨f, g2, e, e1, e2, e3, e4⟩ := r_fon (mm := mm) (sg := sg) c1 c3 (on g hF)
        have f0 : ¬ f = 0 := e2.mpr ⟨s, k, s1, k1, s2, k2⟩
        have hk15 : nib s k < 15 := by have := hsg k k1; omega
        have hlt : stp s k c < 4096 := Nat.lt_of_lt_of_le (stp_lt hk15 c) (Nat.pow_le_pow_right (n := 16) (j := 3) (by decide) c3)
        obtain ⟨o, o1, o2⟩ : ∃ o, o < c ∧ o ≠ k := by
          by_cases z : k = 0
          · exact ⟨1, by omega, by omega⟩
          · exact ⟨0, by omega, by omega⟩
        refine ⟨(g2, nI (j + 1)), ⟨rfl, ⟨stp s k c, hlt, (e3 _ hlt).2.mpr ⟨s, k, s1, k1, s2, k2, rfl⟩, fun q hq => ?_, o, o1, ?_⟩, hF.tr e4⟩, fun n => ?_⟩
        · rw [nib_stp hk15 c q hq]
          unfold nv
          have := s3 q hq
          split
          · next z => rw [z]; omega
          · omega
        · rw [nib_stp hk15 c o o1]
          unfold nv
          rw [if_neg o2]
          have := s3 o o1
          have := (hm o o1).2.2.2.1
          omega
        · show fX9_floor_167 101 _ (n + 1) g (nI c) (nI j) = fX9_floor_167 101 _ n g2 (nI c) (nI (j + 1))
          rw [fX9_floor_167, if_neg (show ¬ (200 : Int32) ≤ nI j from nI_ge (b := 200) hj (by decide)), e, Option.bind_some, if_neg f0, nI_1]) (s0 := (h, 0)) ⟨rfl, ⟨x, hx2, (eqx x hx2).mpr rfl, fun k hk => (hm k hk).2.2.2.2.2, hL.2.1 (by omega)⟩, Fr.rf⟩
      simp only at hi hF hR
      subst hi
      refine ⟨g, ?_, hF⟩
      rw [hR, fX9_floor_167, if_pos (show (200 : Int32) ≤ nI 200 by decide), if_neg hc, if_neg hL0]; rfl
theorem bs_ext {P : Nat → Bool} {M : Nat} (h : ∀ m, P m = true → m < M) : ∀ n, M ≤ n → bs P n = bs P M
  | 0, hn => by rw [show M = 0 by omega]
  | n + 1, hn => by
    by_cases e : M = n + 1
    · rw [e]
    · rw [bs, bs_ext h n (by omega)]
      by_cases q : P n = true
      · have := h n q; omega
      · rw [if_neg q]; rfl
theorem ct_ext {P : Nat → Bool} {M : Nat} (h : ∀ m, P m = true → m < M) : ∀ n, M ≤ n → ct P n = ct P M
  | 0, hn => by rw [show M = 0 by omega]
  | n + 1, hn => by
    by_cases e : M = n + 1
    · rw [e]
    · rw [ct, ct_ext h n (by omega)]
      by_cases q : P n = true
      · have := h n q; omega
      · rw [if_neg q]; rfl
theorem op_floor {hh : Nat} {d : HD} {h : HI} {s : SD} (w : HDw d) (v : SDw d s) (T : St hh d h s) (a : Int32) : ∃ (r : Int32) (h2 : HI), fX8_floor 0 hh h a = some (r, h) ∧ fX9_floor 101 h a = some (r, h2) ∧ Fr Wfl h h2 := by
  have hM := w.M6
  have hP : 2 ^ d.M ≤ 64 := Nat.pow_le_pow_right (n := 2) (j := 6) (by decide) hM
  unfold fX8_floor fX6_floorTime fX9_floor
  rw [Nat.zero_add, r_here w T.2, Option.bind_some, show h.1 (101 + 11) 1 = nI d.M from T.2.H.M, one_shl (by omega)]
  by_cases sub : a &&& (nI (heN d s) ^^^ (-1 : Int32)) = 0
  · have ea := sub_n hM sub
    generalize hPd : (fun i => decide (i < d.M) && a.toBitVec.getLsbD i) = P
    have hPM : ∀ m, P m = true → m < d.M := fun m hm => by
      rw [← hPd] at hm
      rw [Bool.and_eq_true, decide_eq_true_eq] at hm
      exact hm.1
    have ea2 : a = nI (bs P d.M) := by
      rw [ea]
      congr 1
      refine bs_cong fun i hi => ?_
      rw [← hPd]
      show a.toBitVec.getLsbD i = (decide (i < d.M) && a.toBitVec.getLsbD i)
      rw [decide_eq_true hi, Bool.true_and]
    have hb6 := bs_ext hPM 6 hM
    have hc6 := ct_ext hPM 6 hM
    have hlt := bs_lt P d.M
    rw [if_pos sub, ea2, f_ones6 _ (bs_lt6 _ hM), Option.bind_some, f_bit6 _ (bs_lt6 _ hM), Option.bind_some, pc6_bs P hM]
    have hc := ct_le P d.M
    by_cases c0 : ct P d.M = 0
    · refine ⟨-1, h, ?_, ?_, Fr.rf⟩
      · rw [c0, if_pos (show nI 0 < (1 : Int32) by decide), Option.bind_some]
      · rw [bs0 c0, if_pos (show nI 0 < (1 : Int32) by decide)]
    · have hb1 := bs1 (P := P) (n := d.M) (by omega)
      have g1 : ¬ nI (bs P d.M) < (1 : Int32) := nI_nlt (b := 1) hb1 (by omega)
      have g2 : ¬ nI (2 ^ d.M) ≤ nI (bs P d.M) := nI_ge hlt (by omega)
      rw [if_neg g1, if_neg g2, if_neg (show ¬ nI (ct P d.M) < (1 : Int32) from nI_nlt (b := 1) (by omega) (by omega))]
      by_cases c3 : ct P d.M ≤ 3
      · rw [if_neg (show ¬ (3 : Int32) < nI (ct P d.M) from nI_nlt (a := 3) c3 (by decide)), if_pos (show nI (ct P d.M) ≤ (3 : Int32) from nI_le (b := 3) c3 (by decide)), c_here w T.1, Option.bind_some, ← ea2, if_pos sub, ea2]
        obtain ⟨G, hG⟩ := FU_ge (n := d.M) (by omega)
        have ec := c_floorlp w v.v T P (nI (ct P d.M)) (fun h4 v2 v3 => (if v2 ≤ (1 : Int32) then some (v3, h4) else (if v3 ≤ 0 then some (v3, h4) else some ((200 : Int32), h4)))) d.M 0 G (by omega)
        rw [← hG, fex_eq] at ec
        change fX6_floorTime_33 56 hh _ FU h (nI (bs P d.M)) (nI (ct P d.M)) 0 0 = _ at ec
        rw [ec]
        obtain ⟨g, f, er, Fg, r1, r2⟩ := r_gather w v.v T.2 P hPM (by rw [hc6]; exact c3) (fun h4 v2 v3 v4 => (if v4 = 0 then some ((-1 : Int32), h4) else fX9_floor_132 101 (fun h6 v2 => fX9_floor_167 101 (fun h9 v5 => some (v5, h9)) FU h6 v2 (0 : Int32)) FU h4 v2 v3 (0 : Int32)))
        have hany : anyB (bdP d P) 6 = anyB (bdP d P) d.M := by
          rw [Bool.eq_iff_iff, any_ex, any_ex]
          constructor
          · rintro ⟨m, _, b⟩
            have : P m = true := by unfold bdP at b; rw [Bool.and_eq_true] at b; exact b.1
            exact ⟨m, hPM m this, b⟩
          · rintro ⟨m, a, b⟩; exact ⟨m, by omega, b⟩
        rw [hb6, hc6, hany] at er
        rw [hany, hc6] at r2
        rw [er]
        cases hbad : anyB (bdP d P) d.M with
        | true =>
          rw [if_pos rfl, if_pos (show b01 (!true) = 0 from rfl)]
          exact ⟨-1, g, rfl, rfl, Fg.mono fun a b q => by unfold Wfl; omega⟩
        | false =>
          rw [if_neg (by decide), if_neg (show ¬ b01 (!false) = 0 by decide)]
          obtain ⟨x, e1, e2, e3⟩ := r2 hbad
          rw [e1]
          obtain ⟨g2, eg, n2, F2⟩ := r_begin (h := g) (c := ct P d.M) (x := x) (fun h6 v2 => fX9_floor_167 101 (fun h9 v5 => some (v5, h9)) FU h6 v2 (0 : Int32))
          rw [eg]
          have hmm : ∀ k, k < ct P d.M → mmP P d.M k < d.M ∧ P (mmP P d.M k) = true ∧ ct P (mmP P d.M k) = k := fun k hk => mmP_ok hk
          have nbad : ∀ m, m < d.M → P m = true → d.st m ≤ 15 := fun m hm hp => by
            rcases Nat.lt_or_ge 15 (d.st m) with z | z
            · have : anyB (bdP d P) d.M = true := (any_ex _ _).mpr ⟨m, hm, by unfold bdP; rw [hp, decide_eq_true z]; rfl⟩
              rw [hbad] at this; exact absurd this (by decide)
            · exact z
          obtain ⟨g3, e4, F3⟩ := r_run (h := g2) (c := ct P d.M) (x := x) (L := mx d s P d.M) (mm := mmP P d.M) (sg := fun k => d.st (mmP P d.M k)) (by omega) c3 e2 (fun k hk => by
            obtain ⟨m1, m2, m3⟩ := hmm k hk
            have hst := w.st _ m1
            refine ⟨by omega, ?_, ?_, hst.1, nbad _ m1 m2, ?_⟩
            · rw [F2.1 142 _ (show ¬ 142 = 140 by decide)]
              have := r1 _ (by omega) m2
              rw [m3] at this
              exact this
            · rw [F2.1 119 _ (show ¬ 119 = 140 by decide), Fg.1 119 _ (show ¬ 119 = 142 by decide)]
              exact T.2.H.st _ m1
            · have := e3 _ (by omega) m2
              rw [m3] at this
              rw [this]
              exact v.v.ti _ m1) n2 ⟨fun k hk => by
                obtain ⟨m1, m2, m3⟩ := hmm k hk
                have := e3 _ (by omega) m2
                rw [m3] at this
                rw [this]
                exact mx_ge m2 m1, fun hl => by
                obtain ⟨m, m1, m2, m3⟩ := mx_ex hl
                have hk := ct_lt m2 m1
                refine ⟨ct P m, hk, ?_⟩
                obtain ⟨q1, q2, q3⟩ := hmm _ hk
                have em : mmP P d.M (ct P m) = m := by
                  rcases Nat.lt_trichotomy (mmP P d.M (ct P m)) m with z | z | z
                  · have := ct_lt q2 z; omega
                  · exact z
                  · have := ct_lt m2 z; omega
                rw [em, e3 m (by omega) m2]
                exact m3, fun hc1 => by
                obtain ⟨m1, m2, m3⟩ := hmm 0 (by omega)
                have e5 := e3 _ (by omega) m2
                rw [m3] at e5
                rw [e5]
                refine Nat.le_antisymm (mx_le fun m hm hp => ?_) (mx_ge m2 m1)
                have hk := ct_lt hp hm
                have em : m = mmP P d.M 0 := by
                  rcases Nat.lt_trichotomy m (mmP P d.M 0) with z | z | z
                  · have := ct_lt hp z; omega
                  · exact z
                  · have := ct_lt m2 z; omega
                rw [em]; exact Nat.le_refl _⟩
          rw [e4]
          refine ⟨_, g3, ?_, rfl, (Fg.mono fun a b q => ?_).tr ((F2.mono fun a b q => ?_).tr (F3.mono fun a b q => ?_))⟩
          · have hmx : mx d s P d.M ≤ 30 := mx_le fun m hm _ => by have := w.st m hm; omega
            by_cases z1 : ct P d.M ≤ 1
            · rw [if_pos z1, if_pos (show nI (ct P d.M) ≤ (1 : Int32) from nI_le (b := 1) z1 (by decide)), Option.bind_some]
            · rw [if_neg z1, if_neg (show ¬ nI (ct P d.M) ≤ (1 : Int32) from nI_ge (a := 1) (by omega) (by omega))]
              by_cases z2 : mx d s P d.M = 0
              · rw [if_pos z2, z2, if_pos (show nI 0 ≤ (0 : Int32) by decide), Option.bind_some]
              · rw [if_neg z2, if_neg (nI_nle (by omega) (by omega)), Option.bind_some]
          all_goals (unfold Wfl; omega)
      · refine ⟨-1, h, ?_, ?_, Fr.rf⟩
        · rw [if_pos (show (3 : Int32) < nI (ct P d.M) from nI_lt (a := 3) (by omega) (by omega)), Option.bind_some]
        · rw [if_neg (show ¬ nI (ct P d.M) ≤ (3 : Int32) from nI_ge (a := 3) (by omega) (by omega))]
  · refine ⟨-1, h, ?_, ?_, Fr.rf⟩
    · rw [f_bit, Option.bind_some, c_here w T.1, Option.bind_some, if_neg sub, ite_self, ite_self, Option.bind_some]
    · rw [if_neg sub, ite_self, ite_self]
