/-! the developers' reader takes a token -/
def TX (B : Nat → Nat) (n : Nat) : Prop := n ≤ 1700 ∧ ∀ k, B k < 256
def TC (B : Nat → Nat) (n : Nat) (h : HI) : Prop := h.1 1 1 = nI n ∧ ∀ k, k < n → h.1 2 k &&& 255 = nI (B k)
def Wd (h : HI) : Prop := h.1 54 1 = nI 21 ∧ ∀ i, i < 21 → h.2 55 i = lN (c5 (K i))
def WN (a b : Nat) : Prop := a = 53 ∧ 3 ≤ b ∧ b ≤ 9
theorem TC.keep {B : Nat → Nat} {n : Nat} {h g : HI} {W : Nat → Nat → Prop} (T : TC B n h) (F : Fr W h g) (hd : ∀ a b, a = 1 ∧ b = 1 ∨ a = 2 → ¬ W a b) : TC B n g := ⟨(F.1 _ _ (hd _ _ (by omega))).trans T.1, fun k hk => by rw [F.1 _ _ (hd _ _ (by omega))]; exact T.2 k hk⟩
theorem Wd.keep {h g : HI} {W : Nat → Nat → Prop} (T : Wd h) (F : Fr W h g) (hd : ∀ a b, a = 54 ∨ a = 55 → ¬ W a b) : Wd g := ⟨(F.1 _ _ (hd _ _ (by omega))).trans T.1, fun k hk => by rw [F.2 _ _ (hd _ _ (by omega))]; exact T.2 k hk⟩
theorem TC.n {B : Nat → Nat} {n : Nat} {h g : HI} (T : TC B n h) (F : Fr WN h g) : TC B n g := T.keep F (fun a b p q => by unfold WN at q; omega)
theorem Wd.n {h g : HI} (T : Wd h) (F : Fr WN h g) : Wd g := T.keep F (fun a b p q => by unfold WN at q; omega)
theorem c_byte {B : Nat → Nat} {n q : Nat} {h : HI} (X : TX B n) (T : TC B n h) (hq : q < 2 ^ 31) : fX4_byteAt 53 1 h (nI q) = some (nI (if q < n then B q else 0), h) := by
  have hn := X.1
  unfold fX4_byteAt
  rw [if_neg (nI_pos hq), T.1]
  by_cases c : q < n
  · rw [if_neg (nI_ge c (by omega)), if_neg (show ¬ (1700 : Int32) ≤ nI q from nI_ge (b := 1700) (by omega) (by decide)), if_pos c]
    simp (disch := omega) only [gB, nI_clamp, Nat.reduceAdd]
    rw [T.2 q c]
  · rw [if_pos (nI_le (by omega) hq), if_neg c]; rfl
/-! bits of longs out of numbers -/
theorem lb_N (v : Nat) {T : Nat} (hT : T < 64) : lb (lN v) T = v.testBit T := by
  show (BitVec.ofNat 64 v).getLsbD T = _
  rw [BitVec.getLsbD_ofNat, decide_eq_true hT, Bool.true_and]
theorem lN_shl {k x : Nat} (v : Nat) (hk : k < 64) (hx : x < 2 ^ k) : (lN v <<< ((nI k).toInt64 &&& 63)) ||| lN x = lN (v * 2 ^ k + x) := by
  apply lb_ext
  intro T hT
  rw [lb_or, lb_shl _ hk hT, lb_N _ hT, lb_N _ hT, tb_mul hx]
  by_cases c : T < k
  · rw [decide_eq_true c, if_pos c]; rfl
  · rw [decide_eq_false c, if_neg c, lb_N _ (by omega), Nat.testBit_lt_two_pow (Nat.lt_of_lt_of_le hx (Nat.pow_le_pow_right (by decide) (by omega))), Bool.or_false]; rfl
theorem lN_inj {a b : Nat} (ha : a < 2 ^ 64) (hb : b < 2 ^ 64) : lN a = lN b ↔ a = b := by
  constructor
  · intro e
    apply Nat.eq_of_testBit_eq
    intro i
    by_cases c : i < 64
    · rw [← lb_N a c, ← lb_N b c, e]
    · rw [Nat.testBit_lt_two_pow (Nat.lt_of_lt_of_le ha (Nat.pow_le_pow_right (by decide) (by omega))), Nat.testBit_lt_two_pow (Nat.lt_of_lt_of_le hb (Nat.pow_le_pow_right (by decide) (by omega)))]
  · intro e; rw [e]
theorem cmpE (a b : Int64) : lg_cmp a b = 0 ↔ a = b := by
  unfold lg_cmp
  constructor
  · intro h
    split at h
    · cases h
    · split at h
      · assumption
      · cases h
  · intro h
    rw [h, if_neg (Int64.lt_irrefl), if_pos rfl]
theorem c5_w {l m : List Nat} (h1 : lett l) (h2 : lett m) (l1 : l.length ≤ 8) (l2 : m.length ≤ 8) : lN (c5 l) = lN (c5 m) ↔ l = m := by
  have b1 : c5 l < 2 ^ 64 := Nat.lt_of_lt_of_le (c5_lt h1) (Nat.le_trans (Nat.pow_le_pow_right (by decide) l1) (by decide))
  have b2 : c5 m < 2 ^ 64 := Nat.lt_of_lt_of_le (c5_lt h2) (Nat.le_trans (Nat.pow_le_pow_right (by decide) l2) (by decide))
  rw [lN_inj b1 b2]
  exact ⟨c5_inj h1 h2, fun e => by rw [e]⟩
theorem c8_w {l m : List Nat} (h1 : lett l) (h2 : lett m) (l1 : l.length ≤ 8) (l2 : m.length ≤ 8) : lN (c8 l) = lN (c8 m) ↔ l = m := by
  have b1 : c8 l < 2 ^ 64 := Nat.lt_of_lt_of_le (c8_lt h1) (Nat.le_trans (Nat.pow_le_pow_right (by decide) l1) (by decide))
  have b2 : c8 m < 2 ^ 64 := Nat.lt_of_lt_of_le (c8_lt h2) (Nat.le_trans (Nat.pow_le_pow_right (by decide) l2) (by decide))
  rw [lN_inj b1 b2]
  exact ⟨c8_inj h1 h2, fun e => by rw [e]⟩
/-! where a name is found -/
def ofO : Option Nat → Int32
  | some i => nI i
  | none => -1
theorem c_find {q N m : Nat} {h : HI} {v : Int64} (hN : N ≤ 1000) (hm : m ≤ N) (e : h.1 q 1 = nI m) : fX2_find q N h v = some (ofO (fnd (fun i => decide (h.2 (q + 1) i = v)) 0 m), h) := by
  have go : ∀ (r j F : Nat), j + r = m → fX2_find_2 q N (fun h2 => some ((-1 : Int32), h2)) (F + (r + 1)) h v (nI j) = some (ofO (fnd (fun i => decide (h.2 (q + 1) i = v)) j r), h) := by
    intro r
    induction r with
    | zero =>
      intro j F hj
      rw [fX2_find_2, e, if_pos (nI_le (by omega) (by omega))]
      rfl
    | succ r ih =>
      intro j F hj
      rw [show F + (r + 1 + 1) = (F + (r + 1)) + 1 by omega, fX2_find_2, e, if_neg (nI_ge (by omega) (by omega)), if_neg (nI_ge (by omega) (by omega)), fnd]
      simp (disch := omega) only [gB, nI_clamp, nI_1]
      by_cases c : h.2 (q + 1) j = v
      · rw [if_pos ((cmpE _ _).mpr c), if_pos (decide_eq_true c)]; rfl
      · rw [if_neg (fun z => c ((cmpE _ _).mp z)), if_neg (by rw [decide_eq_false c]; decide)]
        exact ih (j + 1) F (by omega)
  obtain ⟨F, hF⟩ := FU_ge (n := m) (by omega)
  unfold fX2_find
  rw [hF]
  exact go m 0 F (by omega)
/-! the signs -/
theorem ix_go {h : HI} {v : Int32} {k : HI → Option (Int32 × HI)} : ∀ (r j F : Nat), j + r = 9 → fJ1_indexOfChar_4cfef_7 1 k (F + (r + 1)) h (nI 9) v (nI j) = (match fnd (fun i => decide ((BJ.getD 1 []).getD i 0 = v)) j r with
    | some i => some (nI i, h)
    | none => k h) := by
  intro r
  induction r with
  | zero =>
    intro j F hj
    rw [fJ1_indexOfChar_4cfef_7, if_pos (nI_le (by omega) (by omega))]
    rfl
  | succ r ih =>
    intro j F hj
    have h9 : LJ.getD 1 0 = 9 := rfl
    rw [show F + (r + 1 + 1) = (F + (r + 1)) + 1 by omega, fJ1_indexOfChar_4cfef_7, if_neg (nI_ge (by omega) (by omega)), h9, fnd]
    simp (disch := omega) only [gB, nI_clamp, nI_1]
    by_cases c : (BJ.getD 1 []).getD j 0 = v
    · rw [if_pos c, if_pos (decide_eq_true c)]
    · rw [if_neg c, if_neg (by rw [decide_eq_false c]; decide)]
      exact ih (j + 1) F (by omega)
theorem sg_t : ∀ c, c < 128 → (fnd (fun i => decide ((BJ.getD 1 []).getD i 0 = nI c)) 0 9).isSome = isg c := by decide +kernel
theorem sg_c : ∀ c, c < 128 → ((nI c).toUInt32 % 65536).toInt32 = nI c ∧ (nI c).toInt8.toInt32 = nI c := by decide +kernel
theorem c_index {h : HI} {c : Nat} (hc : c < 128) : ∃ r, fJ0_indexOf_0f7a4 1 h (((nI c).toUInt32 % 65536).toInt32) = some (r, h) ∧ (r < 0 ↔ isg c = false) := by
  have e := sg_c c hc
  have l9 : nI (LJ.getD 1 0) = nI 9 := rfl
  obtain ⟨F, hF⟩ := FU_ge (n := 9) (by omega)
  have g := ix_go (h := h) (v := nI c) (k := fun h2 => some ((-1 : Int32), h2)) 9 0 F (by omega)
  rw [← hF] at g
  have hs := sg_t c hc
  have e1 : fJ0_length_8abf5 1 h = some (nI 9, h) := by
    unfold fJ0_length_8abf5 fJ0_coder_7d493
    rw [if_neg (by decide), if_pos (by decide), Option.bind_some]
    show some (nI 9 >>> ((0 : Int32) &&& 31), h) = some (nI 9, h)
    rw [show nI 9 >>> ((0 : Int32) &&& 31) = nI 9 by decide]
  have e2 : fJ0_isLatin1_aae02 1 h = some (1, h) := by
    unfold fJ0_isLatin1_aae02
    rw [if_neg (by decide), if_pos rfl]
  have e3 : fJ1_canEncode_9a6ad h (nI c) = some (1, h) := by
    unfold fJ1_canEncode_9a6ad
    rw [if_neg (nI_pos (by omega)), if_neg (show ¬ (255 : Int32) < nI c from nI_nlt (a := 255) (by omega) (by decide))]
  unfold fJ0_indexOf_0f7a4 fJ0_indexOf_7cf53 fJ1_indexOf_4cfef fJ1_indexOfChar_4cfef
  rw [e.1, e2, Option.bind_some, if_neg ne10, e1, Option.bind_some, e3, Option.bind_some, if_neg ne10, l9, if_neg (show ¬ (0 : Int32) < 0 by decide), if_neg (show ¬ nI 9 < nI 9 by decide), if_pos (show (0 : Int32) < nI 9 by decide), e.2]
  change fJ1_indexOfChar_4cfef_7 1 _ FU h (nI 9) (nI c) 0 = _ at g
  rw [g]
  cases q : fnd (fun i => decide ((BJ.getD 1 []).getD i 0 = nI c)) 0 9 with
  | none =>
    rw [q] at hs
    refine ⟨-1, rfl, ?_⟩
    rw [← hs]
    exact ⟨fun _ => rfl, fun _ => m1lt⟩
  | some i =>
    rw [q] at hs
    have hi := fnd_in q
    refine ⟨nI i, rfl, ?_⟩
    rw [← hs]
    exact ⟨fun z => absurd z (nI_pos (by omega)), fun z => by cases z⟩
/-! the token that the reader holds, or its fault -/
def CTk (B : Nat → Nat) (n p : Nat) (h : HI) : Prop := p ≤ n ∧ h.1 53 3 = nI (tn B n p) ∧ h.1 53 4 = nI (tc B n p) ∧ h.1 53 5 = nI (tp B n p) ∧ (tc B n p = 2 → h.1 53 6 = nI (tv B n p)) ∧ (tc B n p = 1 → h.2 53 7 = lN (c5 (tw B n p))) ∧ h.1 53 8 = 0 ∧ h.1 53 9 = -1 ∧ tc B n p ≠ 3
def CF (k q : Nat) (h : HI) : Prop := h.1 53 8 = nI k ∧ h.1 53 9 = nI q ∧ 1 ≤ k ∧ k ≤ 5
def CQ (B : Nat → Nat) (n : Nat) (r : Sum (Nat × Nat) Nat) (h : HI) : Prop := match r with
  | .inr p => CTk B n p h
  | .inl e => CF e.1 e.2 h
def tk (B : Nat → Nat) (n p : Nat) : Sum (Nat × Nat) Nat := if tc B n p = 3 then .inl (1, tp B n p) else .inr p
theorem c_skip {B : Nat → Nat} {n p : Nat} {h : HI} (X : TX B n) (T : TC B n h) (hp : p ≤ n) (e : h.1 53 3 = nI p) : ∃ g, (∀ k, fX4_next_8 53 1 k FU h = k g) ∧ Fr (fun a b => a = 53 ∧ b = 3) h g ∧ g.1 53 3 = nI (tp B n p) := by
  have hn := X.1
  have h1 : p ≤ tp B n p := run_ge _ _ _ _
  have h2 := tp_le (B := B) hp
  obtain ⟨F, g, ⟨i1, i2⟩, hL⟩ := lpi (fun m (g : HI) => fun k => fX4_next_8 53 1 k m g) (fun j g => Fr (fun a b => a = 53 ∧ b = 3) h g ∧ g.1 53 3 = nI (p + j)) (tp B n p - p) (by omega) (by
    rintro j g hj ⟨i1, i2⟩
    have T2 := T.keep i1 (fun a b q r => by omega)
    obtain ⟨r1, r2⟩ := run_in (f := iss) (B := B) (n := n) (p := p) (k := p + j) (by omega) (by unfold tp at hj; omega)
    unfold iss at r2
    rw [Bool.or_eq_true, decide_eq_true_eq, decide_eq_true_eq] at r2
    refine ⟨uI g 53 3 (nI (p + j + 1)), ⟨i1.tr (Fr.uI (by omega)), uI_s _ _ _ _⟩, fun m => funext fun k => ?_⟩
    rw [fX4_next_8, T2.1, i2, if_neg (nI_ge r1 (by omega)), c_byte X T2 (by omega), Option.bind_some, if_pos r1, i2, c_byte X T2 (by omega), Option.bind_some, if_pos r1]
    unfold fX4_next_48
    rw [i2, nI_1]
    rcases r2 with r2 | r2
    · rw [if_pos (show nI (B (p + j)) = (32 : Int32) by rw [r2]; rfl)]
    · rw [if_neg (show ¬ nI (B (p + j)) = (32 : Int32) by rw [r2]; decide), if_pos (show nI (B (p + j)) = (10 : Int32) by rw [r2]; rfl)]) (s0 := h) ⟨Fr.rf, e⟩
  rw [show p + (tp B n p - p) = tp B n p by omega] at i2
  refine ⟨g, fun k => ?_, i1, i2⟩
  have T2 := T.keep i1 (fun a b q r => by omega)
  rw [congrFun hL k, fX4_next_8, T2.1, i2]
  by_cases c : tp B n p < n
  · have r2 := run_end (f := iss) (B := B) (n := n) (p := p) c
    have r3 : B (tp B n p) ≠ 32 ∧ B (tp B n p) ≠ 10 := by
      unfold iss at r2
      rw [Bool.or_eq_false_iff, decide_eq_false_iff_not, decide_eq_false_iff_not] at r2
      exact r2
    have hb := X.2 (tp B n p)
    rw [if_neg (nI_ge c (by omega)), c_byte X T2 (by omega), Option.bind_some, if_pos c, if_neg (show ¬ nI (B (tp B n p)) = (32 : Int32) from fun z => r3.1 ((nI_eq (b := 32) (by omega) (by decide)).mp z)), i2, c_byte X T2 (by omega), Option.bind_some, if_pos c, if_neg (show ¬ nI (B (tp B n p)) = (10 : Int32) from fun z => r3.2 ((nI_eq (b := 10) (by omega) (by decide)).mp z))]
  · rw [if_pos (nI_le (by omega) (by omega))]
theorem isl_b {c : Nat} (hc : c < 256) : (isl c = true ↔ ¬ nI c < (97 : Int32) ∧ ¬ (122 : Int32) < nI c) ∧ (isd c = true ↔ ¬ nI c < (48 : Int32) ∧ ¬ (57 : Int32) < nI c) := by
  rw [isl_i, isd_i, show (97 : Int32) = nI 97 from rfl, show (122 : Int32) = nI 122 from rfl, show (48 : Int32) = nI 48 from rfl, show (57 : Int32) = nI 57 from rfl, nI_ltI (by omega) (by omega), nI_ltI (by omega) (by omega), nI_ltI (by omega) (by omega), nI_ltI (by omega) (by omega)]
  omega
theorem c_word {B : Nat → Nat} {n a : Nat} {h : HI} (X : TX B n) (T : TC B n h) (ha : a < n) (e : h.1 53 3 = nI a) : ∃ g, fX4_readWord 53 1 h = fX4_readWord_74 53 1 g ∧ Fr (fun x y => x = 53 ∧ (y = 3 ∨ y = 7)) h g ∧ g.1 53 3 = nI (wle B n a) ∧ g.2 53 7 = lN (c5 (wl B a (wle B n a - a))) := by
  have hn := X.1
  have h1 : a ≤ wle B n a := run_ge _ _ _ _
  have h2 : wle B n a ≤ n := run_le (by omega)
  unfold fX4_readWord
  have T0 : TC B n (uL h 53 7 0) := T.keep (Fr.uL (W := fun x y => x = 53 ∧ (y = 3 ∨ y = 7)) (by omega)) (fun a b q r => by omega)
  rw [e, c_byte X T0 (by omega), Option.bind_some]
  obtain ⟨F, ⟨g, v⟩, ⟨i1, i2, i3, i4⟩, hL⟩ := lpi (fun m (p : HI × Int32) => fX4_readWord_14 53 1 (fun h5 => fX4_readWord_74 53 1 h5) m p.1 p.2) (fun j p => Fr (fun x y => x = 53 ∧ (y = 3 ∨ y = 7)) h p.1 ∧ p.1.1 53 3 = nI (a + j) ∧ p.1.2 53 7 = lN (c5 (wl B a j)) ∧ p.2 = nI (if a + j < n then B (a + j) else 0)) (wle B n a - a) (by omega) (by
    rintro j ⟨g, v⟩ hj ⟨i1, i2, i3, i4⟩
    simp only at i1 i2 i3 i4
    have T2 := T.keep i1 (fun a b q r => by omega)
    obtain ⟨r1, r2⟩ := run_in (f := isl) (B := B) (n := n) (p := a) (k := a + j) (by omega) (by unfold wle at hj; omega)
    have hb := X.2 (a + j)
    have r3 := (isl_b hb).1.mp r2
    have r4 := isl_i.mp r2
    rw [if_pos r1] at i4
    subst i4
    have el : nI (B (a + j)) - (97 : Int32) + 1 = nI (B (a + j) - 96) := by
      rw [show (97 : Int32) = nI 97 from rfl, nI_sb (by omega), nI_1, show B (a + j) - 97 + 1 = B (a + j) - 96 by omega]
    have F3 : Fr (fun x y => x = 53 ∧ (y = 3 ∨ y = 7)) h (uI (uL g 53 7 (lN (c5 (wl B a (j + 1))))) 53 3 (nI (a + j + 1))) := (i1.tr (Fr.uL (by omega))).tr (Fr.uI (by omega))
    have T3 := T.keep F3 (fun a b q r => by omega)
    refine ⟨(uI (uL g 53 7 (lN (c5 (wl B a (j + 1))))) 53 3 (nI (a + j + 1)), nI (if a + (j + 1) < n then B (a + (j + 1)) else 0)), ⟨F3, uI_s _ _ _ _, (by
      show (uL g 53 7 (lN (c5 (wl B a (j + 1))))).2 53 7 = _
      rw [uL_s]), rfl⟩, fun m => ?_⟩
    show fX4_readWord_14 53 1 _ (m + 1) g (nI (B (a + j))) = _
    rw [fX4_readWord_14, T2.1, i2, if_neg (nI_ge r1 (by omega)), if_neg r3.1, if_neg r3.2]
    unfold fX4_withLetter
    rw [Option.bind_some, i3, el, nI_l (by omega), show (5 : Int32) = nI 5 from rfl, lN_shl _ (by decide) (show B (a + j) - 96 < 2 ^ 5 by omega), i2, nI_1]
    have ew : c5 (wl B a j) * 2 ^ 5 + (B (a + j) - 96) = c5 (wl B a (j + 1)) := rfl
    rw [ew, c_byte X T3 (by omega), Option.bind_some]
    rfl) (s0 := (uL h 53 7 0, nI (if a < n then B a else 0))) ⟨Fr.uL (by omega), e, uL_s _ _ _ _, rfl⟩
  simp only at i1 i2 i3 i4 hL
  rw [show a + (wle B n a - a) = wle B n a by omega] at i2 i4
  refine ⟨g, ?_, i1, i2, i3⟩
  have T2 := T.keep i1 (fun a b q r => by omega)
  rw [hL, i4, fX4_readWord_14, T2.1, i2]
  by_cases c : wle B n a < n
  · have r2 := run_end (f := isl) (B := B) (n := n) (p := a) c
    have hb := X.2 (wle B n a)
    rw [if_neg (nI_ge c (by omega)), if_pos c]
    by_cases q : nI (B (wle B n a)) < (97 : Int32)
    · rw [if_pos q]
    · rw [if_neg q]
      by_cases q2 : (122 : Int32) < nI (B (wle B n a))
      · rw [if_pos q2]
      · have := (isl_b hb).1.mpr ⟨q, q2⟩
        unfold wle at this
        rw [r2] at this; cases this
  · rw [if_pos (nI_le (by omega) (by omega))]
theorem c_number {B : Nat → Nat} {n a : Nat} {h : HI} (X : TX B n) (T : TC B n h) (ha : a < n) (e : h.1 53 3 = nI a) : ∃ g, fX4_readNumber 53 1 h = fX4_readNumber_78 53 1 g (nI (if nue B n a < n then B (nue B n a) else 0)) ∧ Fr (fun x y => x = 53 ∧ (y = 3 ∨ y = 6)) h g ∧ g.1 53 3 = nI (nue B n a) ∧ g.1 53 6 = nI (num B a (nue B n a - a)) := by
  have hn := X.1
  have h1 : a ≤ nue B n a := run_ge _ _ _ _
  have h2 : nue B n a ≤ n := run_le (by omega)
  unfold fX4_readNumber
  have T0 : TC B n (uI h 53 6 0) := T.keep (Fr.uI (W := fun x y => x = 53 ∧ (y = 3 ∨ y = 6)) (by omega)) (fun a b q r => by omega)
  rw [e, c_byte X T0 (by omega), Option.bind_some]
  obtain ⟨F, ⟨g, v⟩, ⟨i1, i2, i3, i4⟩, hL⟩ := lpi (fun m (p : HI × Int32) => fX4_readNumber_14 53 1 (fun h4 v1 => fX4_readNumber_78 53 1 h4 v1) m p.1 p.2) (fun j p => Fr (fun x y => x = 53 ∧ (y = 3 ∨ y = 6)) h p.1 ∧ p.1.1 53 3 = nI (a + j) ∧ p.1.1 53 6 = nI (num B a j) ∧ p.2 = nI (if a + j < n then B (a + j) else 0)) (nue B n a - a) (by omega) (by
    rintro j ⟨g, v⟩ hj ⟨i1, i2, i3, i4⟩
    simp only at i1 i2 i3 i4
    have T2 := T.keep i1 (fun a b q r => by omega)
    obtain ⟨r1, r2⟩ := run_in (f := isd) (B := B) (n := n) (p := a) (k := a + j) (by omega) (by unfold nue at hj; omega)
    have hb := X.2 (a + j)
    have r3 := (isl_b hb).2.mp r2
    have r4 := isd_i.mp r2
    rw [if_pos r1] at i4
    subst i4
    have el : nI (num B a j) * (10 : Int32) + nI (B (a + j)) - (48 : Int32) = nI (num B a (j + 1)) := by
      rw [show (10 : Int32) = nI 10 from rfl, nI_mu, nI_add, show (48 : Int32) = nI 48 from rfl, nI_sb (by omega), num, show num B a j * 10 + B (a + j) - 48 = num B a j * 10 + (B (a + j) - 48) by omega]
    have F3 : Fr (fun x y => x = 53 ∧ (y = 3 ∨ y = 6)) h (uI (uI g 53 6 (nI (num B a (j + 1)))) 53 3 (nI (a + j + 1))) := (i1.tr (Fr.uI (by omega))).tr (Fr.uI (by omega))
    have T3 := T.keep F3 (fun a b q r => by omega)
    refine ⟨(uI (uI g 53 6 (nI (num B a (j + 1)))) 53 3 (nI (a + j + 1)), nI (if a + (j + 1) < n then B (a + (j + 1)) else 0)), ⟨F3, uI_s _ _ _ _, by rw [uI_n (by omega), uI_s], rfl⟩, fun m => ?_⟩
    show fX4_readNumber_14 53 1 _ (m + 1) g (nI (B (a + j))) = _
    rw [fX4_readNumber_14, T2.1, i2, if_neg (nI_ge r1 (by omega)), if_neg r3.1, if_neg r3.2, i3, el, nI_1, c_byte X T3 (by omega), Option.bind_some]
    rfl) (s0 := (uI h 53 6 0, nI (if a < n then B a else 0))) ⟨Fr.uI (by omega), e, uI_s _ _ _ _, rfl⟩
  simp only at i1 i2 i3 i4 hL
  rw [show a + (nue B n a - a) = nue B n a by omega] at i2 i4
  refine ⟨g, ?_, i1, i2, i3⟩
  have T2 := T.keep i1 (fun a b q r => by omega)
  rw [hL, i4, fX4_readNumber_14, T2.1, i2]
  by_cases c : nue B n a < n
  · have r2 := run_end (f := isd) (B := B) (n := n) (p := a) c
    have hb := X.2 (nue B n a)
    rw [if_neg (nI_ge c (by omega)), if_pos c]
    by_cases q : nI (B (nue B n a)) < (48 : Int32)
    · rw [if_pos q]
    · rw [if_neg q]
      by_cases q2 : (57 : Int32) < nI (B (nue B n a))
      · rw [if_pos q2]
      · have := (isl_b hb).2.mpr ⟨q, q2⟩
        unfold nue at this
        rw [r2] at this; cases this
  · rw [if_pos (nI_le (by omega) (by omega))]
/-- the next token -/
theorem c_next0 {B : Nat → Nat} {n p : Nat} {h : HI} (X : TX B n) (T : TC B n h) (D : Wd h) (hp : p ≤ n) (e : h.1 53 3 = nI p) (e8 : h.1 53 8 = 0) (e9 : h.1 53 9 = -1) : ∃ g, fX4_next 53 1 h = some g ∧ Fr WN h g ∧ CQ B n (tk B n p) g := by
  have hn := X.1
  obtain ⟨g, e1, f1, p1⟩ := c_skip X T hp e
  have h2 := tp_le (B := B) hp
  unfold fX4_next
  rw [if_pos e8, e1]
  unfold fX4_next_61
  rw [p1]
  have F2 : Fr WN h (uI g 53 5 (nI (tp B n p))) := (f1.mono fun a b q => by unfold WN; omega).tr (Fr.uI (by unfold WN; omega))
  have q3 : (uI g 53 5 (nI (tp B n p))).1 53 3 = nI (tp B n p) := by rw [uI_n (by omega)]; exact p1
  have q5 : (uI g 53 5 (nI (tp B n p))).1 53 5 = nI (tp B n p) := uI_s _ _ _ _
  have q8 : (uI g 53 5 (nI (tp B n p))).1 53 8 = 0 := by rw [uI_n (by omega), f1.1 _ _ (by omega)]; exact e8
  have q9 : (uI g 53 5 (nI (tp B n p))).1 53 9 = -1 := by rw [uI_n (by omega), f1.1 _ _ (by omega)]; exact e9
  generalize uI g 53 5 (nI (tp B n p)) = g2 at F2 q3 q5 q8 q9
  have T2 := T.n F2
  have D2 := D.n F2
  rw [c_byte X T2 (by omega), Option.bind_some, q3, T2.1]
  have hb := X.2 (tp B n p)
  by_cases c : n ≤ tp B n p
  · have ec : tc B n p = 0 := by unfold tc; rw [if_pos c]
    have et : tn B n p = tp B n p := by unfold tn; rw [if_pos c]
    rw [if_neg (nI_nlt c (by omega))]
    refine ⟨uI g2 53 4 0, rfl, F2.tr (Fr.uI (by unfold WN; omega)), ?_⟩
    unfold tk
    rw [ec, if_neg (by decide)]
    refine ⟨hp, ?_, ?_, ?_, fun z => by omega, fun z => by omega, ?_, ?_, by omega⟩
    · rw [uI_n (by omega), q3, et]
    · rw [uI_s, ec]; rfl
    · rw [uI_n (by omega), q5]
    · rw [uI_n (by omega), q8]
    · rw [uI_n (by omega), q9]
  · rw [if_pos (nI_lt (by omega) (by omega)), if_pos (show tp B n p < n by omega)]
    by_cases cl : isl (B (tp B n p)) = true
    · have et : tn B n p = wle B n (tp B n p) := by unfold tn; rw [if_neg c, if_pos cl]
      have r := (isl_b hb).1.mp cl
      rw [if_neg r.1, if_neg r.2]
      obtain ⟨g3, w1, w2, w3, w4⟩ := c_word X T2 (show tp B n p < n by omega) q3
      have h1 : tp B n p ≤ wle B n (tp B n p) := run_ge _ _ _ _
      have h3 : wle B n (tp B n p) ≤ n := run_le h2
      have F3 : Fr WN h g3 := F2.tr (w2.mono fun a b q => by unfold WN; omega)
      have D3 := D.n F3
      have s5 : g3.1 53 5 = nI (tp B n p) := by rw [w2.1 _ _ (by omega)]; exact q5
      have s8 : g3.1 53 8 = 0 := by rw [w2.1 _ _ (by omega)]; exact q8
      have s9 : g3.1 53 9 = -1 := by rw [w2.1 _ _ (by omega)]; exact q9
      rw [w1]
      unfold fX4_readWord_74
      rw [w3, s5, nI_sb h1]
      by_cases c8 : wle B n (tp B n p) - tp B n p ≤ 8
      · have ec : tc B n p = kwc (tw B n p) := by unfold tc; rw [if_neg c, if_pos cl, if_pos c8]; rfl
        have hlet : lett (tw B n p) := wl_lett fun k h1 h2 => (run_in (n := n) h1 (by unfold wle at h2; omega)).2
        have hlen : (tw B n p).length ≤ 8 := by unfold tw; rw [wl_len]; exact c8
        have ef : fnd (fun i => decide (g3.2 (54 + 1) i = lN (c5 (tw B n p)))) 0 21 = fnd (fun i => decide (K i = tw B n p)) 0 21 := fnd_cong fun i _ hi => decide_eq_decide.mpr (by
          rw [show g3.2 (54 + 1) i = lN (c5 (K i)) from D3.2 i (by omega)]
          exact c5_w (K_lett (by omega)) hlet (K_ok i (by omega)).1 hlen)
        have w4' : g3.2 53 7 = lN (c5 (tw B n p)) := w4
        rw [if_pos (show nI (wle B n (tp B n p) - tp B n p) ≤ (8 : Int32) from nI_le (b := 8) c8 (by decide)), w4', show (53 + 1 : Nat) = 54 from rfl, c_find (by decide) (Nat.le_refl 21) D3.1, Option.bind_some, ef]
        have fin : ∀ v, nI v = nI (kwc (tw B n p)) → (∃ g, ((fX4_readWord_124 53 1 g3 (nI v)).bind fun h9 => some h9) = some g ∧ Fr WN h g ∧ CQ B n (tk B n p) g) := by
          intro v hv
          refine ⟨uI g3 53 4 (nI v), rfl, F3.tr (Fr.uI (by unfold WN; omega)), ?_⟩
          have hk := kwc_c (tw B n p)
          have h3 : tc B n p ≠ 3 := by rw [ec]; rcases hk with z | ⟨i, hi, z⟩ <;> omega
          unfold tk
          rw [if_neg h3]
          refine ⟨hp, ?_, ?_, ?_, fun z => ?_, fun z => ?_, ?_, ?_, h3⟩
          · rw [uI_n (by omega), w3, et]
          · rw [uI_s, ec]; exact hv
          · rw [uI_n (by omega), s5]
          · rw [ec] at z; rcases hk with z2 | ⟨i, hi, z2⟩ <;> omega
          · exact w4'
          · rw [uI_n (by omega), s8]
          · rw [uI_n (by omega), s9]
        cases q : fnd (fun i => decide (K i = tw B n p)) 0 21 with
        | none =>
          rw [show ofO none = -1 from rfl, if_pos m1lt]
          exact fin 1 (by unfold kwc; rw [q])
        | some i =>
          have hi := fnd_in q
          rw [show ofO (some i) = nI i from rfl, if_neg (nI_pos (by omega)), show (128 : Int32) = nI 128 from rfl, nI_add]
          exact fin (128 + i) (by unfold kwc; rw [q])
      · have ec : tc B n p = 3 := by unfold tc; rw [if_neg c, if_pos cl, if_neg c8]
        rw [if_neg (show ¬ nI (wle B n (tp B n p) - tp B n p) ≤ (8 : Int32) from nI_ge (a := 8) (by omega) (by omega))]
        unfold fX4_refuseAt
        rw [if_pos s8, Option.bind_some]
        refine ⟨_, rfl, (F3.tr (Fr.uI (by unfold WN; omega))).tr (Fr.uI (by unfold WN; omega)), ?_⟩
        unfold tk
        rw [if_pos ec]
        exact ⟨by rw [uI_n (by omega), uI_s]; rfl, uI_s _ _ _ _, Nat.le_refl 1, Nat.le_of_ble_eq_true rfl⟩
    · have e119 : (if nI (B (tp B n p)) < (97 : Int32) then fX4_next_119 53 1 g2 (nI (B (tp B n p))) else (if (122 : Int32) < nI (B (tp B n p)) then fX4_next_119 53 1 g2 (nI (B (tp B n p))) else ((fX4_readWord 53 1 g2).bind fun h9 => some h9))) = fX4_next_119 53 1 g2 (nI (B (tp B n p))) := by
        by_cases z : nI (B (tp B n p)) < (97 : Int32)
        · rw [if_pos z]
        · rw [if_neg z]
          by_cases z2 : (122 : Int32) < nI (B (tp B n p))
          · rw [if_pos z2]
          · exact absurd ((isl_b hb).1.mpr ⟨z, z2⟩) cl
      rw [e119]
      unfold fX4_next_119
      by_cases cd : isd (B (tp B n p)) = true
      · have et : tn B n p = nue B n (tp B n p) := by unfold tn; rw [if_neg c, if_neg cl, if_pos cd]
        have r := (isl_b hb).2.mp cd
        rw [if_neg r.1, if_neg r.2]
        obtain ⟨g3, w1, w2, w3, w4⟩ := c_number X T2 (show tp B n p < n by omega) q3
        have h1 : tp B n p ≤ nue B n (tp B n p) := run_ge _ _ _ _
        have h3 : nue B n (tp B n p) ≤ n := run_le h2
        have F3 : Fr WN h g3 := F2.tr (w2.mono fun a b q => by unfold WN; omega)
        have s5 : g3.1 53 5 = nI (tp B n p) := by rw [w2.1 _ _ (by omega)]; exact q5
        have s8 : g3.1 53 8 = 0 := by rw [w2.1 _ _ (by omega)]; exact q8
        have s9 : g3.1 53 9 = -1 := by rw [w2.1 _ _ (by omega)]; exact q9
        rw [w1]
        unfold fX4_readNumber_78
        rw [w3, s5, nI_sb h1]
        have hb2 := X.2 (nue B n (tp B n p))
        have bad : tc B n p = 3 → ∃ g, ((fX4_readNumber_108 53 1 (uI g3 53 4 2)).bind fun h8 => some h8) = some g ∧ Fr WN h g ∧ CQ B n (tk B n p) g := by
          intro ec
          unfold fX4_readNumber_108 fX4_refuseAt
          rw [uI_n (by omega), if_pos s8, uI_n (by omega), s5, Option.bind_some, Option.bind_some]
          refine ⟨_, rfl, ((F3.tr (Fr.uI (by unfold WN; omega))).tr (Fr.uI (by unfold WN; omega))).tr (Fr.uI (by unfold WN; omega)), ?_⟩
          unfold tk
          rw [if_pos ec]
          exact ⟨by rw [uI_n (by omega), uI_s]; rfl, uI_s _ _ _ _, Nat.le_refl 1, Nat.le_of_ble_eq_true rfl⟩
        have good : tc B n p = 2 → ∃ g, ((some (uI g3 53 4 2) : Option HI).bind fun h8 => some h8) = some g ∧ Fr WN h g ∧ CQ B n (tk B n p) g := by
          intro ec
          refine ⟨_, rfl, F3.tr (Fr.uI (by unfold WN; omega)), ?_⟩
          unfold tk
          rw [ec, if_neg (by decide)]
          refine ⟨hp, ?_, ?_, ?_, fun z => ?_, fun z => by omega, ?_, ?_, by omega⟩
          · rw [uI_n (by omega), w3, et]
          · rw [uI_s, ec]; rfl
          · rw [uI_n (by omega), s5]
          · rw [uI_n (by omega), w4]; rfl
          · rw [uI_n (by omega), s8]
          · rw [uI_n (by omega), s9]
        by_cases c4 : nue B n (tp B n p) - tp B n p ≤ 4
        · rw [if_neg (show ¬ (4 : Int32) < nI (nue B n (tp B n p) - tp B n p) from nI_nlt (a := 4) c4 (by decide))]
          cases cL : inT isl B n (nue B n (tp B n p)) with
          | true =>
            have cL2 := cL
            unfold inT at cL2
            rw [Bool.and_eq_true, decide_eq_true_eq] at cL2
            have rr := (isl_b hb2).1.mp cL2.2
            rw [if_pos cL2.1, if_neg rr.1, if_neg rr.2]
            exact bad (by unfold tc; rw [if_neg c, if_neg cl, if_pos cd, if_neg (fun z => by rw [cL] at z; cases z.2)])
          | false =>
            have ec : tc B n p = 2 := by unfold tc; rw [if_neg c, if_neg cl, if_pos cd, if_pos ⟨c4, cL⟩]
            by_cases cn : nue B n (tp B n p) < n
            · rw [if_pos cn]
              have nl : ¬ isl (B (nue B n (tp B n p))) = true := by
                intro z
                unfold inT at cL
                rw [decide_eq_true cn, z] at cL
                cases cL
              by_cases z1 : nI (B (nue B n (tp B n p))) < (97 : Int32)
              · rw [if_pos z1]; exact good ec
              · rw [if_neg z1]
                by_cases z2 : (122 : Int32) < nI (B (nue B n (tp B n p)))
                · rw [if_pos z2]; exact good ec
                · exact absurd ((isl_b hb2).1.mpr ⟨z1, z2⟩) nl
            · rw [if_neg cn, if_pos (show nI 0 < (97 : Int32) by decide)]
              exact good ec
        · rw [if_pos (show (4 : Int32) < nI (nue B n (tp B n p) - tp B n p) from nI_lt (a := 4) (by omega) (by omega))]
          exact bad (by unfold tc; rw [if_neg c, if_neg cl, if_pos cd, if_neg (fun z => c4 z.1)])
      · have e138 : (if nI (B (tp B n p)) < (48 : Int32) then fX4_next_138 53 1 g2 (nI (B (tp B n p))) else (if (57 : Int32) < nI (B (tp B n p)) then fX4_next_138 53 1 g2 (nI (B (tp B n p))) else ((fX4_readNumber 53 1 g2).bind fun h8 => some h8))) = fX4_next_138 53 1 g2 (nI (B (tp B n p))) := by
          by_cases z : nI (B (tp B n p)) < (48 : Int32)
          · rw [if_pos z]
          · rw [if_neg z]
            by_cases z2 : (57 : Int32) < nI (B (tp B n p))
            · rw [if_pos z2]
            · exact absurd ((isl_b hb).2.mpr ⟨z, z2⟩) cd
        rw [e138]
        unfold fX4_next_138
        have bad : tc B n p = 3 → ∃ g, fX4_next_173 53 1 g2 = some g ∧ Fr WN h g ∧ CQ B n (tk B n p) g := by
          intro ec
          unfold fX4_next_173 fX4_refuse fX4_refuseAt
          rw [if_pos q8, q5, Option.bind_some, Option.bind_some]
          refine ⟨_, rfl, (F2.tr (Fr.uI (by unfold WN; omega))).tr (Fr.uI (by unfold WN; omega)), ?_⟩
          unfold tk
          rw [if_pos ec]
          exact ⟨by rw [uI_n (by omega), uI_s]; rfl, uI_s _ _ _ _, Nat.le_refl 1, Nat.le_of_ble_eq_true rfl⟩
        by_cases c128 : B (tp B n p) < 128
        · rw [if_neg (show ¬ (128 : Int32) ≤ nI (B (tp B n p)) from nI_ge (b := 128) c128 (by decide))]
          obtain ⟨r, r1, r2⟩ := c_index (h := g2) c128
          rw [r1, Option.bind_some]
          cases cg : isg (B (tp B n p)) with
          | true =>
            have ec : tc B n p = B (tp B n p) := by unfold tc; rw [if_neg c, if_neg cl, if_neg cd, if_pos cg]
            have et : tn B n p = tp B n p + 1 := by unfold tn; rw [if_neg c, if_neg cl, if_neg cd]
            rw [if_neg (fun z => by have := r2.mp z; rw [cg] at this; cases this), q3, nI_1]
            refine ⟨_, rfl, (F2.tr (Fr.uI (by unfold WN; omega))).tr (Fr.uI (by unfold WN; omega)), ?_⟩
            have h3 : tc B n p ≠ 3 := by rw [ec]; rcases isg_c cg with e | e | e | e | e | e | e | e | e <;> omega
            unfold tk
            rw [if_neg h3]
            refine ⟨hp, ?_, ?_, ?_, fun z => ?_, fun z => ?_, ?_, ?_, h3⟩
            · rw [uI_s, et]
            · rw [uI_n (by omega), uI_s, ec]
            · rw [uI_n (by omega), uI_n (by omega), q5]
            · rw [ec] at z; rcases isg_c cg with e | e | e | e | e | e | e | e | e <;> omega
            · rw [ec] at z; rcases isg_c cg with e | e | e | e | e | e | e | e | e <;> omega
            · rw [uI_n (by omega), uI_n (by omega), q8]
            · rw [uI_n (by omega), uI_n (by omega), q9]
          | false =>
            rw [if_pos (r2.mpr cg)]
            exact bad (by unfold tc; rw [if_neg c, if_neg cl, if_neg cd, if_neg (by rw [cg]; decide)])
        · rw [if_pos (show (128 : Int32) ≤ nI (B (tp B n p)) from nI_le (a := 128) (by omega) (by omega))]
          have ng : ¬ isg (B (tp B n p)) = true := by
            intro z
            rcases isg_c z with e | e | e | e | e | e | e | e | e <;> omega
          exact bad (by unfold tc; rw [if_neg c, if_neg cl, if_neg cd, if_neg ng])
