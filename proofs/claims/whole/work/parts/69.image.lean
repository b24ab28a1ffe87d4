/-! images -/
theorem cpI_s {h : HI} {a b n y : Nat} (hy : y < n) : (cpI h a b n).1 b y = h.1 a y := if_pos ⟨rfl, hy⟩
theorem cpI_n {h : HI} {a b n x y : Nat} (hx : x ≠ b) : (cpI h a b n).1 x y = h.1 x y := if_neg (fun q => hx q.1)
theorem cpL_s {h : HI} {a b n y : Nat} (hy : y < n) : (cpL h a b n).2 b y = h.2 a y := if_pos ⟨rfl, hy⟩
theorem cpL_n {h : HI} {a b n x y : Nat} (hx : x ≠ b) : (cpL h a b n).2 x y = h.2 x y := if_neg (fun q => hx q.1)
theorem cpL_1 {h : HI} {a b n x y : Nat} : (cpL h a b n).1 x y = h.1 x y := rfl
theorem cpI_2 {h : HI} {a b n x y : Nat} : (cpI h a b n).2 x y = h.2 x y := rfl
theorem c_copy {o p x : Nat} {d : HD} {h : HI} {s : SD} (hop : o + 8 < p ∨ p + 8 < o) (S : CS p d h s) (h4 : s.vo ≤ 4) : ∃ h1, fX6_copy o p x h = some h1 ∧ CS o d h1 s ∧ Fr (Wc o) h h1 := by
  unfold fX6_copy
  refine ⟨_, rfl, ⟨fun i hi => ?_, fun i hi => ?_, fun i hi => ?_, fun i hi => ?_, fun i hi => ?_, fun i hi => ?_, ?_, ?_, ?_, ?_, ?_, fun i w hi h4 hw => ?_, fun k hk h2 => ?_⟩, ⟨fun a b q => ?_, fun a b q => ?_⟩⟩
  · rw [cpL_1, cpI_n (by omega), cpI_n (by omega), cpI_n (by omega), cpI_n (by omega), cpI_n (by omega), cpI_n (by omega), cpI_s hi, uI_n (by omega), uI_n (by omega), uI_n (by omega), uI_n (by omega), uI_n (by omega)]; exact S.wh i hi
  · rw [cpL_1, cpI_n (by omega), cpI_n (by omega), cpI_n (by omega), cpI_n (by omega), cpI_n (by omega), cpI_s hi, cpI_n (by omega), uI_n (by omega), uI_n (by omega), uI_n (by omega), uI_n (by omega), uI_n (by omega)]; exact S.ti i hi
  · rw [cpL_1, cpI_n (by omega), cpI_n (by omega), cpI_n (by omega), cpI_n (by omega), cpI_s hi, cpI_n (by omega), cpI_n (by omega), uI_n (by omega), uI_n (by omega), uI_n (by omega), uI_n (by omega), uI_n (by omega)]; exact S.sf i hi
  · rw [cpL_1, cpI_n (by omega), cpI_n (by omega), cpI_n (by omega), cpI_s hi, cpI_n (by omega), cpI_n (by omega), cpI_n (by omega), uI_n (by omega), uI_n (by omega), uI_n (by omega), uI_n (by omega), uI_n (by omega)]; exact S.sp i hi
  · rw [cpL_1, cpI_n (by omega), cpI_n (by omega), cpI_s hi, cpI_n (by omega), cpI_n (by omega), cpI_n (by omega), cpI_n (by omega), uI_n (by omega), uI_n (by omega), uI_n (by omega), uI_n (by omega), uI_n (by omega)]; exact S.ss i hi
  · rw [cpL_1, cpI_n (by omega), cpI_s hi, cpI_n (by omega), cpI_n (by omega), cpI_n (by omega), cpI_n (by omega), cpI_n (by omega), uI_n (by omega), uI_n (by omega), uI_n (by omega), uI_n (by omega), uI_n (by omega)]; exact S.de i hi
  · rw [cpL_1, cpI_n (by omega), cpI_n (by omega), cpI_n (by omega), cpI_n (by omega), cpI_n (by omega), cpI_n (by omega), cpI_n (by omega), uI_n (by omega), uI_s, uI_n (by omega), uI_n (by omega), uI_n (by omega)]; exact S.br
  · rw [cpL_1, cpI_n (by omega), cpI_n (by omega), cpI_n (by omega), cpI_n (by omega), cpI_n (by omega), cpI_n (by omega), cpI_n (by omega), uI_s, uI_n (by omega), uI_n (by omega), uI_n (by omega), uI_n (by omega)]; exact S.fo
  · rw [cpL_1, cpI_n (by omega), cpI_n (by omega), cpI_n (by omega), cpI_n (by omega), cpI_n (by omega), cpI_n (by omega), cpI_n (by omega), uI_n (by omega), uI_n (by omega), uI_n (by omega), uI_n (by omega), uI_s]; exact S.mi
  · rw [cpL_1, cpI_n (by omega), cpI_n (by omega), cpI_n (by omega), cpI_n (by omega), cpI_n (by omega), cpI_n (by omega), cpI_n (by omega), uI_n (by omega), uI_n (by omega), uI_n (by omega), uI_s, uI_n (by omega)]; exact S.vo
  · rw [cpL_1, cpI_n (by omega), cpI_n (by omega), cpI_n (by omega), cpI_n (by omega), cpI_n (by omega), cpI_n (by omega), cpI_n (by omega), uI_n (by omega), uI_n (by omega), uI_s, uI_n (by omega), uI_n (by omega)]; exact S.sk
  · rw [cpL_1, cpI_s (by omega), cpI_n (by omega), cpI_n (by omega), cpI_n (by omega), cpI_n (by omega), cpI_n (by omega), cpI_n (by omega), uI_n (by omega), uI_n (by omega), uI_n (by omega), uI_n (by omega), uI_n (by omega)]; exact S.fa i w hi h4 hw
  · rw [cpL_s h2]; exact S.sr k hk h2
  · have q2 : ¬ (o ≤ a ∧ a ≤ o + 8) := q
    rw [cpL_1, cpI_n (by omega), cpI_n (by omega), cpI_n (by omega), cpI_n (by omega), cpI_n (by omega), cpI_n (by omega), cpI_n (by omega), uI_n (by omega), uI_n (by omega), uI_n (by omega), uI_n (by omega), uI_n (by omega)]
  · have q2 : ¬ (o ≤ a ∧ a ≤ o + 8) := q
    rw [cpL_n (by omega)]; rfl
/-- a box of the reference -/
def RB (i : Nat) (d : HD) (h : HI) (s : SD) : Prop := (∀ m, m < 6 → (0 < d.M → h.1 149 (5 * (6 * i + m) + 0) = s.wh m) ∧ h.1 149 (5 * (6 * i + m) + 1) = nI (s.ti m) ∧ h.1 149 (5 * (6 * i + m) + 2) = s.sf m ∧ h.1 149 (5 * (6 * i + m) + 3) = s.sp m) ∧ (∀ c, c < 6 → h.1 150 (2 * (6 * i + c) + 0) = b01 (s.br c) ∧ h.1 150 (2 * (6 * i + c) + 1) = b01 (s.fo c)) ∧ (∀ x, x < 4 → h.1 151 (8 * i + x) = nI (s.ss x) ∧ h.1 151 (8 * i + 4 + x) = s.ds x) ∧ (∀ j w, j < s.vo → j < 4 → w < 6 → h.1 152 (600 * i + (6 * j + w)) = s.fa j w) ∧ (∀ k c, k < s.kn → k < 200 → c < d.C → h.1 153 (1206 * i + (6 * (k + 1) + c)) = nI (bs (fun m => decide (s.sr k m = nI c)) d.M)) ∧ h.1 154 (3 * i + 0) = nI s.mi ∧ h.1 154 (3 * i + 1) = nI s.vo ∧ h.1 154 (3 * i + 2) = s.sk
def Wb (i a b : Nat) : Prop := a = 149 ∧ 30 * i ≤ b ∧ b < 30 * i + 30 ∨ a = 150 ∧ 12 * i ≤ b ∧ b < 12 * i + 12 ∨ a = 151 ∧ 8 * i ≤ b ∧ b < 8 * i + 8 ∨ a = 152 ∧ 600 * i ≤ b ∧ b < 600 * i + 600 ∨ a = 153 ∧ 1206 * i ≤ b ∧ b < 1206 * i + 1206 ∨ a = 154 ∧ 3 * i ≤ b ∧ b < 3 * i + 3
theorem RB.keep {i : Nat} {d : HD} {h h2 : HI} {s : SD} {W : Nat → Nat → Prop} (w : HDw d) (R : RB i d h s) (F : Fr W h h2) (hd : ∀ a b, Wb i a b → ¬ W a b) : RB i d h2 s := by
  have g : ∀ a b, Wb i a b → h2.1 a b = h.1 a b := fun a b q => F.1 a b (hd a b q)
  have hC := w.C6
  obtain ⟨r1, r2, r3, r4, r5, r6, r7, r8⟩ := R
  refine ⟨fun m hm => ?_, fun c hc => ?_, fun x hx => ?_, fun j w hj h4 hw => ?_, fun k c hk h2 hc => ?_, ?_, ?_, ?_⟩
  · rw [g _ _ (by unfold Wb; omega), g _ _ (by unfold Wb; omega), g _ _ (by unfold Wb; omega), g _ _ (by unfold Wb; omega)]; exact r1 m hm
  · rw [g _ _ (by unfold Wb; omega), g _ _ (by unfold Wb; omega)]; exact r2 c hc
  · rw [g _ _ (by unfold Wb; omega), g _ _ (by unfold Wb; omega)]; exact r3 x hx
  · rw [g _ _ (by unfold Wb; omega)]; exact r4 j w hj h4 hw
  · rw [g _ _ (by unfold Wb; omega)]; exact r5 k c hk h2 hc
  · rw [g _ _ (by unfold Wb; omega)]; exact r6
  · rw [g _ _ (by unfold Wb; omega)]; exact r7
  · rw [g _ _ (by unfold Wb; omega)]; exact r8
theorem x5 (i m k : Nat) : (5 : Int32) * ((6 : Int32) * nI i + nI m) + nI k = nI (5 * (6 * i + m) + k) := by rw [nI_6m, show (5 : Int32) = nI 5 from rfl, nI_mu, nI_add]
theorem x2 (i m k : Nat) : (2 : Int32) * ((6 : Int32) * nI i + nI m) + nI k = nI (2 * (6 * i + m) + k) := by rw [nI_6m, show (2 : Int32) = nI 2 from rfl, nI_mu, nI_add]
theorem x50 (i m : Nat) : (5 : Int32) * ((6 : Int32) * nI i + nI m) = nI (5 * (6 * i + m) + 0) := by rw [nI_6m, show (5 : Int32) = nI 5 from rfl, nI_mu, Nat.add_zero (5 * (6 * i + m))]
theorem x20 (i m : Nat) : (2 : Int32) * ((6 : Int32) * nI i + nI m) = nI (2 * (6 * i + m) + 0) := by rw [nI_6m, show (2 : Int32) = nI 2 from rfl, nI_mu, Nat.add_zero (2 * (6 * i + m))]
theorem x51 (i m : Nat) : (5 : Int32) * ((6 : Int32) * nI i + nI m) + 1 = nI (5 * (6 * i + m) + 1) := x5 i m 1
theorem x52 (i m : Nat) : (5 : Int32) * ((6 : Int32) * nI i + nI m) + 2 = nI (5 * (6 * i + m) + 2) := x5 i m 2
theorem x53 (i m : Nat) : (5 : Int32) * ((6 : Int32) * nI i + nI m) + 3 = nI (5 * (6 * i + m) + 3) := x5 i m 3
theorem x21 (i m : Nat) : (2 : Int32) * ((6 : Int32) * nI i + nI m) + 1 = nI (2 * (6 * i + m) + 1) := x2 i m 1
theorem x8 (i x : Nat) : (8 : Int32) * nI i + nI x = nI (8 * i + x) := by rw [show (8 : Int32) = nI 8 from rfl, nI_mu, nI_add]
theorem x84 (i x : Nat) : (8 : Int32) * nI i + 4 + nI x = nI (8 * i + 4 + x) := by rw [show (8 : Int32) * nI i + 4 = nI (8 * i + 4) from x8 i 4, nI_add]
theorem x600 (i x : Nat) : (600 : Int32) * nI i + nI x = nI (600 * i + x) := by rw [show (600 : Int32) = nI 600 from rfl, nI_mu, nI_add]
theorem x1206 (i x : Nat) : (1206 : Int32) * nI i + nI x = nI (1206 * i + x) := by rw [show (1206 : Int32) = nI 1206 from rfl, nI_mu, nI_add]
theorem x3 (i x : Nat) : (3 : Int32) * nI i + nI x = nI (3 * i + x) := by rw [show (3 : Int32) = nI 3 from rfl, nI_mu, nI_add]
theorem x30 (i : Nat) : (3 : Int32) * nI i = nI (3 * i + 0) := by rw [show (3 : Int32) = nI 3 from rfl, nI_mu, Nat.add_zero (3 * i)]
theorem im18 {i : Nat} (hi : i < 3) (k : HI → Int32 → Option (Int32 × HI)) (h : HI) : ∃ h1, fX9_image_18 101 k FU h (nI i) 0 = k h1 (nI i) ∧ Fr (fun a b => a = 149 ∧ 30 * i ≤ b ∧ b < 30 * i + 30) h h1 ∧ ∀ m, m < 6 → h1.1 149 (5 * (6 * i + m) + 0) = h.1 128 m ∧ h1.1 149 (5 * (6 * i + m) + 1) = h.1 129 m ∧ h1.1 149 (5 * (6 * i + m) + 2) = h.1 130 m ∧ h1.1 149 (5 * (6 * i + m) + 3) = h.1 131 m := by
  obtain ⟨F, ⟨h2, z⟩, ⟨hz, hF, hc⟩, hL⟩ := lpi (fun n (p : HI × Int32) => fX9_image_18 101 k n p.1 (nI i) p.2) (fun j p => p.2 = nI j ∧ Fr (fun a b => a = 149 ∧ 30 * i ≤ b ∧ b < 30 * i + 30) h p.1 ∧ ∀ m, m < j → p.1.1 149 (5 * (6 * i + m) + 0) = h.1 128 m ∧ p.1.1 149 (5 * (6 * i + m) + 1) = h.1 129 m ∧ p.1.1 149 (5 * (6 * i + m) + 2) = h.1 130 m ∧ p.1.1 149 (5 * (6 * i + m) + 3) = h.1 131 m) 6 (by omega) (by
    rintro j ⟨h2, z⟩ hj ⟨hz, hF, hc⟩
    simp only at hz hF hc
    subst hz
    refine ⟨(uI (uI (uI (uI h2 149 (5 * (6 * i + j) + 0) (h.1 128 j)) 149 (5 * (6 * i + j) + 1) (h.1 129 j)) 149 (5 * (6 * i + j) + 2) (h.1 130 j)) 149 (5 * (6 * i + j) + 3) (h.1 131 j), nI (j + 1)), ⟨rfl, hF.tr ((((Fr.uI (by omega)).tr (Fr.uI (by omega))).tr (Fr.uI (by omega))).tr (Fr.uI (by omega))), fun m hm => ?_⟩, fun n => ?_⟩
    · by_cases e : m = j
      · subst e
        refine ⟨?_, ?_, ?_, ?_⟩
        · rw [uI_n (by omega), uI_n (by omega), uI_n (by omega), uI_s]
        · rw [uI_n (by omega), uI_n (by omega), uI_s]
        · rw [uI_n (by omega), uI_s]
        · rw [uI_s]
      · have q := hc m (by omega)
        refine ⟨?_, ?_, ?_, ?_⟩
        · rw [uI_n (by omega), uI_n (by omega), uI_n (by omega), uI_n (by omega)]; exact q.1
        · rw [uI_n (by omega), uI_n (by omega), uI_n (by omega), uI_n (by omega)]; exact q.2.1
        · rw [uI_n (by omega), uI_n (by omega), uI_n (by omega), uI_n (by omega)]; exact q.2.2.1
        · rw [uI_n (by omega), uI_n (by omega), uI_n (by omega), uI_n (by omega)]; exact q.2.2.2
    · show fX9_image_18 101 k (n + 1) h2 (nI i) (nI j) = fX9_image_18 101 k n _ (nI i) (nI (j + 1))
      rw [fX9_image_18, if_neg (show ¬ (6 : Int32) ≤ nI j from nI_ge (b := 6) hj (by decide)), x51, x52, x53, x50]
      simp (disch := omega) only [gB, nI_clamp, Nat.reduceAdd, nI_1]
      rw [hF.1 128 j (by omega), hF.1 129 j (by omega), hF.1 130 j (by omega), hF.1 131 j (by omega)]) (s0 := (h, 0)) ⟨rfl, Fr.rf, fun m hm => absurd hm (Nat.not_lt_zero m)⟩
  simp only at hz hF hc hL
  subst hz
  exact ⟨h2, by rw [hL, fX9_image_18, if_pos (by decide)], hF, hc⟩
theorem im95 {i : Nat} (hi : i < 3) (k : HI → Int32 → Option (Int32 × HI)) (h : HI) (B Fo : Nat → Bool) (hB : ∀ c, c < 6 → h.1 134 c = b01 (B c)) (hFo : ∀ c, c < 6 → h.1 135 c = b01 (Fo c)) : ∃ h1, fX9_image_95 101 k FU h (nI i) 0 = k h1 (nI i) ∧ Fr (fun a b => a = 150 ∧ 12 * i ≤ b ∧ b < 12 * i + 12) h h1 ∧ ∀ m, m < 6 → h1.1 150 (2 * (6 * i + m) + 0) = b01 (B m) ∧ h1.1 150 (2 * (6 * i + m) + 1) = b01 (Fo m) := by
  obtain ⟨F, ⟨h2, z⟩, ⟨hz, hF, hc⟩, hL⟩ := lpi (fun n (p : HI × Int32) => fX9_image_95 101 k n p.1 (nI i) p.2) (fun j p => p.2 = nI j ∧ Fr (fun a b => a = 150 ∧ 12 * i ≤ b ∧ b < 12 * i + 12) h p.1 ∧ ∀ m, m < j → p.1.1 150 (2 * (6 * i + m) + 0) = b01 (B m) ∧ p.1.1 150 (2 * (6 * i + m) + 1) = b01 (Fo m)) 6 (by omega) (by
    rintro j ⟨h2, z⟩ hj ⟨hz, hF, hc⟩
    simp only at hz hF hc
    subst hz
    refine ⟨(uI (uI h2 150 (2 * (6 * i + j) + 0) (b01 (B j))) 150 (2 * (6 * i + j) + 1) (b01 (Fo j)), nI (j + 1)), ⟨rfl, hF.tr ((Fr.uI (by omega)).tr (Fr.uI (by omega))), fun m hm => ?_⟩, fun n => ?_⟩
    · by_cases e : m = j
      · subst e
        exact ⟨by rw [uI_n (by omega), uI_s], by rw [uI_s]⟩
      · have q := hc m (by omega)
        exact ⟨by rw [uI_n (by omega), uI_n (by omega)]; exact q.1, by rw [uI_n (by omega), uI_n (by omega)]; exact q.2⟩
    · show fX9_image_95 101 k (n + 1) h2 (nI i) (nI j) = fX9_image_95 101 k n _ (nI i) (nI (j + 1))
      rw [fX9_image_95, if_neg (show ¬ (6 : Int32) ≤ nI j from nI_ge (b := 6) hj (by decide)), x20]
      unfold fX9_image_127 fX9_image_156
      simp (disch := omega) only [gB, nI_clamp, Nat.reduceAdd, nI_1, x21]
      rw [hF.1 134 j (by omega), hF.1 135 j (by omega), hB j hj, hFo j hj]
      cases B j with
      | true =>
        rw [if_neg b01t]
        cases Fo j with
        | true => rw [if_neg b01t]; rfl
        | false => rw [if_pos b01f]; rfl
      | false =>
        rw [if_pos b01f]
        cases Fo j with
        | true => rw [if_neg b01t]; rfl
        | false => rw [if_pos b01f]; rfl) (s0 := (h, 0)) ⟨rfl, Fr.rf, fun m hm => absurd hm (Nat.not_lt_zero m)⟩
  simp only at hz hF hc hL
  subst hz
  exact ⟨h2, by rw [hL, fX9_image_95, if_pos (by decide)], hF, hc⟩
theorem im165 {i : Nat} (hi : i < 3) (k : HI → Int32 → Option (Int32 × HI)) (h : HI) : ∃ h1, fX9_image_165 101 k FU h (nI i) 0 = k h1 (nI i) ∧ Fr (fun a b => a = 151 ∧ 8 * i ≤ b ∧ b < 8 * i + 8) h h1 ∧ ∀ m, m < 4 → h1.1 151 (8 * i + m) = h.1 132 m ∧ h1.1 151 (8 * i + 4 + m) = h.1 133 m := by
  obtain ⟨F, ⟨h2, z⟩, ⟨hz, hF, hc⟩, hL⟩ := lpi (fun n (p : HI × Int32) => fX9_image_165 101 k n p.1 (nI i) p.2) (fun j p => p.2 = nI j ∧ Fr (fun a b => a = 151 ∧ 8 * i ≤ b ∧ b < 8 * i + 8) h p.1 ∧ ∀ m, m < j → p.1.1 151 (8 * i + m) = h.1 132 m ∧ p.1.1 151 (8 * i + 4 + m) = h.1 133 m) 4 (by omega) (by
    rintro j ⟨h2, z⟩ hj ⟨hz, hF, hc⟩
    simp only at hz hF hc
    subst hz
    refine ⟨(uI (uI h2 151 (8 * i + j) (h.1 132 j)) 151 (8 * i + 4 + j) (h.1 133 j), nI (j + 1)), ⟨rfl, hF.tr ((Fr.uI (by omega)).tr (Fr.uI (by omega))), fun m hm => ?_⟩, fun n => ?_⟩
    · by_cases e : m = j
      · subst e
        exact ⟨by rw [uI_n (by omega), uI_s], by rw [uI_s]⟩
      · have q := hc m (by omega)
        exact ⟨by rw [uI_n (by omega), uI_n (by omega)]; exact q.1, by rw [uI_n (by omega), uI_n (by omega)]; exact q.2⟩
    · show fX9_image_165 101 k (n + 1) h2 (nI i) (nI j) = fX9_image_165 101 k n _ (nI i) (nI (j + 1))
      rw [fX9_image_165, if_neg (show ¬ (4 : Int32) ≤ nI j from nI_ge (b := 4) hj (by decide)), x84, x8]
      simp (disch := omega) only [gB, nI_clamp, Nat.reduceAdd, nI_1]
      rw [hF.1 132 j (by omega), hF.1 133 j (by omega)]) (s0 := (h, 0)) ⟨rfl, Fr.rf, fun m hm => absurd hm (Nat.not_lt_zero m)⟩
  simp only at hz hF hc hL
  subst hz
  exact ⟨h2, by rw [hL, fX9_image_165, if_pos (by decide)], hF, hc⟩
theorem im214 {i : Nat} (hi : i < 3) (k : HI → Int32 → Option (Int32 × HI)) (h : HI) : ∃ h1, fX9_image_214 101 k FU h (nI i) 0 = k h1 (nI i) ∧ Fr (fun a b => a = 152 ∧ 600 * i ≤ b ∧ b < 600 * i + 600) h h1 ∧ ∀ m, m < 600 → h1.1 152 (600 * i + m) = h.1 136 m := by
  obtain ⟨F, ⟨h2, z⟩, ⟨hz, hF, hc⟩, hL⟩ := lpi (fun n (p : HI × Int32) => fX9_image_214 101 k n p.1 (nI i) p.2) (fun j p => p.2 = nI j ∧ Fr (fun a b => a = 152 ∧ 600 * i ≤ b ∧ b < 600 * i + 600) h p.1 ∧ ∀ m, m < j → p.1.1 152 (600 * i + m) = h.1 136 m) 600 (by omega) (by
    rintro j ⟨h2, z⟩ hj ⟨hz, hF, hc⟩
    simp only at hz hF hc
    subst hz
    refine ⟨(uI h2 152 (600 * i + j) (h.1 136 j), nI (j + 1)), ⟨rfl, hF.tr (Fr.uI (by omega)), fun m hm => ?_⟩, fun n => ?_⟩
    · by_cases e : m = j
      · subst e; rw [uI_s]
      · rw [uI_n (by omega)]; exact hc m (by omega)
    · show fX9_image_214 101 k (n + 1) h2 (nI i) (nI j) = fX9_image_214 101 k n _ (nI i) (nI (j + 1))
      rw [fX9_image_214, if_neg (show ¬ (600 : Int32) ≤ nI j from nI_ge (b := 600) hj (by decide)), x600]
      simp (disch := omega) only [gB, nI_clamp, Nat.reduceAdd, nI_1]
      rw [hF.1 136 j (by omega)]) (s0 := (h, 0)) ⟨rfl, Fr.rf, fun m hm => absurd hm (Nat.not_lt_zero m)⟩
  simp only at hz hF hc hL
  subst hz
  exact ⟨h2, by rw [hL, fX9_image_214, if_pos (show (600 : Int32) ≤ nI 600 by decide)], hF, hc⟩
theorem im247 {i : Nat} (hi : i < 3) (k : HI → Int32 → Option (Int32 × HI)) (h : HI) : ∃ h1, fX9_image_247 101 k FU h (nI i) 0 = k h1 (nI i) ∧ Fr (fun a b => a = 153 ∧ 1206 * i ≤ b ∧ b < 1206 * i + 1206) h h1 ∧ ∀ m, m < 1206 → h1.1 153 (1206 * i + m) = h.1 137 m := by
  obtain ⟨F, ⟨h2, z⟩, ⟨hz, hF, hc⟩, hL⟩ := lpi (fun n (p : HI × Int32) => fX9_image_247 101 k n p.1 (nI i) p.2) (fun j p => p.2 = nI j ∧ Fr (fun a b => a = 153 ∧ 1206 * i ≤ b ∧ b < 1206 * i + 1206) h p.1 ∧ ∀ m, m < j → p.1.1 153 (1206 * i + m) = h.1 137 m) 1206 (by omega) (by
    rintro j ⟨h2, z⟩ hj ⟨hz, hF, hc⟩
    simp only at hz hF hc
    subst hz
    refine ⟨(uI h2 153 (1206 * i + j) (h.1 137 j), nI (j + 1)), ⟨rfl, hF.tr (Fr.uI (by omega)), fun m hm => ?_⟩, fun n => ?_⟩
    · by_cases e : m = j
      · subst e; rw [uI_s]
      · rw [uI_n (by omega)]; exact hc m (by omega)
    · show fX9_image_247 101 k (n + 1) h2 (nI i) (nI j) = fX9_image_247 101 k n _ (nI i) (nI (j + 1))
      rw [fX9_image_247, if_neg (show ¬ (1206 : Int32) ≤ nI j from nI_ge (b := 1206) hj (by decide)), x1206]
      simp (disch := omega) only [gB, nI_clamp, Nat.reduceAdd, nI_1]
      rw [hF.1 137 j (by omega)]) (s0 := (h, 0)) ⟨rfl, Fr.rf, fun m hm => absurd hm (Nat.not_lt_zero m)⟩
  simp only at hz hF hc hL
  subst hz
  exact ⟨h2, by rw [hL, fX9_image_247, if_pos (show (1206 : Int32) ≤ nI 1206 by decide)], hF, hc⟩
theorem r_isBox {h : HI} {i : Nat} (hi : i < 3) : fX9_isBox h (nI i) = some (1, h) := by
  unfold fX9_isBox
  rw [if_neg (nI_pos (by omega)), if_neg (show ¬ (3 : Int32) ≤ nI i from nI_ge (b := 3) hi (by decide))]
theorem r_isBox0 {h : HI} {a : Int32} (c : a < 0 ∨ ¬ a < 0 ∧ nI 3 ≤ a) : fX9_isBox h a = some (0, h) := by
  unfold fX9_isBox
  rcases c with c | ⟨c, c2⟩
  · rw [if_pos c]
  · rw [if_neg c, if_pos (show (3 : Int32) ≤ a from c2)]
theorem r_image {d : HD} {h : HI} {s : SD} {i : Nat} (hi : i < 3) (w : HDw d) (R : RO d h h s) (h4 : s.vo ≤ 4) : ∃ h1, fX9_image 101 h (nI i) = some (nI s.mi, h1) ∧ RB i d h1 s ∧ h1.1 148 i = 1 ∧ Fr (fun a b => Wb i a b ∨ a = 148 ∧ b = i) h h1 := by
  have hC := w.C6
  unfold fX9_image
  rw [r_isBox hi, Option.bind_some, if_neg ne10]
  simp (disch := omega) only [gB, nI_clamp, Nat.reduceAdd]
  have F0 : Fr (fun a b => a = 148 ∧ b = i) h (uI h 148 i 1) := Fr.uI ⟨rfl, rfl⟩
  generalize hg0 : uI h 148 i 1 = g0 at F0 ⊢
  obtain ⟨g1, e1, F1, c1⟩ := im18 hi (fun h3 v1 => fX9_image_95 101 (fun h5 v1 => fX9_image_165 101 (fun h7 v1 => fX9_image_214 101 (fun h9 v1 => fX9_image_247 101 (fun h11 v1 => (if inB ((3 : Int32) * v1) 9 then (if inB (((3 : Int32) * v1) + (1 : Int32)) 9 then (if inB (((3 : Int32) * v1) + (2 : Int32)) 9 then some ((h11.1 101 57), (uI (uI (uI h11 154 (((3 : Int32) * v1).toNatClampNeg) (h11.1 101 57)) 154 ((((3 : Int32) * v1) + (1 : Int32)).toNatClampNeg) (h11.1 101 58)) 154 ((((3 : Int32) * v1) + (2 : Int32)).toNatClampNeg) (h11.1 101 59))) else none) else none) else none)) FU h9 v1 (0 : Int32)) FU h7 v1 (0 : Int32)) FU h5 v1 (0 : Int32)) FU h3 v1 (0 : Int32)) g0
  rw [e1]
  have q1 : ∀ a b, ¬ (148 ≤ a ∧ a ≤ 149) → g1.1 a b = h.1 a b := fun a b q => by rw [F1.1 a b (by omega), F0.1 a b (by omega)]
  obtain ⟨g2, e2, F2, c2⟩ := im95 hi (fun h5 v1 => fX9_image_165 101 (fun h7 v1 => fX9_image_214 101 (fun h9 v1 => fX9_image_247 101 (fun h11 v1 => (if inB ((3 : Int32) * v1) 9 then (if inB (((3 : Int32) * v1) + (1 : Int32)) 9 then (if inB (((3 : Int32) * v1) + (2 : Int32)) 9 then some ((h11.1 101 57), (uI (uI (uI h11 154 (((3 : Int32) * v1).toNatClampNeg) (h11.1 101 57)) 154 ((((3 : Int32) * v1) + (1 : Int32)).toNatClampNeg) (h11.1 101 58)) 154 ((((3 : Int32) * v1) + (2 : Int32)).toNatClampNeg) (h11.1 101 59))) else none) else none) else none)) FU h9 v1 (0 : Int32)) FU h7 v1 (0 : Int32)) FU h5 v1 (0 : Int32)) g1 s.br s.fo (fun c hc => by rw [q1 _ _ (by omega)]; exact R.S.br c hc) (fun c hc => by rw [q1 _ _ (by omega)]; exact R.S.fo c hc)
  rw [e2]
  have q2 : ∀ a b, ¬ (148 ≤ a ∧ a ≤ 150) → g2.1 a b = h.1 a b := fun a b q => by rw [F2.1 a b (by omega), q1 a b (by omega)]
  obtain ⟨g3, e3, F3, c3⟩ := im165 hi (fun h7 v1 => fX9_image_214 101 (fun h9 v1 => fX9_image_247 101 (fun h11 v1 => (if inB ((3 : Int32) * v1) 9 then (if inB (((3 : Int32) * v1) + (1 : Int32)) 9 then (if inB (((3 : Int32) * v1) + (2 : Int32)) 9 then some ((h11.1 101 57), (uI (uI (uI h11 154 (((3 : Int32) * v1).toNatClampNeg) (h11.1 101 57)) 154 ((((3 : Int32) * v1) + (1 : Int32)).toNatClampNeg) (h11.1 101 58)) 154 ((((3 : Int32) * v1) + (2 : Int32)).toNatClampNeg) (h11.1 101 59))) else none) else none) else none)) FU h9 v1 (0 : Int32)) FU h7 v1 (0 : Int32)) g2
  rw [e3]
  have q3 : ∀ a b, ¬ (148 ≤ a ∧ a ≤ 151) → g3.1 a b = h.1 a b := fun a b q => by rw [F3.1 a b (by omega), q2 a b (by omega)]
  obtain ⟨g4, e4, F4, c4⟩ := im214 hi (fun h9 v1 => fX9_image_247 101 (fun h11 v1 => (if inB ((3 : Int32) * v1) 9 then (if inB (((3 : Int32) * v1) + (1 : Int32)) 9 then (if inB (((3 : Int32) * v1) + (2 : Int32)) 9 then some ((h11.1 101 57), (uI (uI (uI h11 154 (((3 : Int32) * v1).toNatClampNeg) (h11.1 101 57)) 154 ((((3 : Int32) * v1) + (1 : Int32)).toNatClampNeg) (h11.1 101 58)) 154 ((((3 : Int32) * v1) + (2 : Int32)).toNatClampNeg) (h11.1 101 59))) else none) else none) else none)) FU h9 v1 (0 : Int32)) g3
  rw [e4]
  have q4 : ∀ a b, ¬ (148 ≤ a ∧ a ≤ 152) → g4.1 a b = h.1 a b := fun a b q => by rw [F4.1 a b (by omega), q3 a b (by omega)]
  obtain ⟨g5, e5, F5, c5⟩ := im247 hi (fun h11 v1 => (if inB ((3 : Int32) * v1) 9 then (if inB (((3 : Int32) * v1) + (1 : Int32)) 9 then (if inB (((3 : Int32) * v1) + (2 : Int32)) 9 then some ((h11.1 101 57), (uI (uI (uI h11 154 (((3 : Int32) * v1).toNatClampNeg) (h11.1 101 57)) 154 ((((3 : Int32) * v1) + (1 : Int32)).toNatClampNeg) (h11.1 101 58)) 154 ((((3 : Int32) * v1) + (2 : Int32)).toNatClampNeg) (h11.1 101 59))) else none) else none) else none)) g4
  rw [e5]
  have q5 : ∀ a b, ¬ (148 ≤ a ∧ a ≤ 153) → g5.1 a b = h.1 a b := fun a b q => by rw [F5.1 a b (by omega), q4 a b (by omega)]
  have m1 : (3 : Int32) * nI i + 1 = nI (3 * i + 1) := x3 i 1
  have m2 : (3 : Int32) * nI i + 2 = nI (3 * i + 2) := x3 i 2
  rw [m1, m2, x30]
  simp (disch := omega) only [gB, nI_clamp, Nat.reduceAdd]
  rw [q5 101 57 (by omega), q5 101 58 (by omega), q5 101 59 (by omega), R.S.mi, R.S.vo, R.S.sk]
  have F6 : Fr (fun a b => a = 154 ∧ 3 * i ≤ b ∧ b < 3 * i + 3) g5 (uI (uI (uI g5 154 (3 * i + 0) (nI s.mi)) 154 (3 * i + 1) (nI s.vo)) 154 (3 * i + 2) s.sk) := ((Fr.uI (by omega)).tr (Fr.uI (by omega))).tr (Fr.uI (by omega))
  generalize hg6 : uI (uI (uI g5 154 (3 * i + 0) (nI s.mi)) 154 (3 * i + 1) (nI s.vo)) 154 (3 * i + 2) s.sk = g6 at F6
  refine ⟨g6, rfl, ⟨fun m hm => ?_, fun c hc => ?_, fun x hx => ?_, fun j w hj h4 hw => ?_, fun k c hk h2 hc => ?_, ?_, ?_, ?_⟩, ?_, ?_⟩
  · have t : ∀ b, g6.1 149 b = g1.1 149 b := fun b => by rw [F6.1 _ _ (by omega), F5.1 _ _ (by omega), F4.1 _ _ (by omega), F3.1 _ _ (by omega), F2.1 _ _ (by omega)]
    rw [t, t, t, t]
    have q := c1 m hm
    rw [F0.1 _ _ (by omega), F0.1 _ _ (by omega), F0.1 _ _ (by omega), F0.1 _ _ (by omega), R.S.ti m hm, R.S.sf m hm, R.S.sp m hm] at q
    exact ⟨fun z => q.1.trans (R.S.wh m ⟨hm, z⟩), q.2⟩
  · have t : ∀ b, g6.1 150 b = g2.1 150 b := fun b => by rw [F6.1 _ _ (by omega), F5.1 _ _ (by omega), F4.1 _ _ (by omega), F3.1 _ _ (by omega)]
    rw [t, t]
    exact c2 c hc
  · have t : ∀ b, g6.1 151 b = g3.1 151 b := fun b => by rw [F6.1 _ _ (by omega), F5.1 _ _ (by omega), F4.1 _ _ (by omega)]
    rw [t, t]
    have q := c3 x hx
    rw [q2 _ _ (by omega), q2 _ _ (by omega), R.S.ss x hx, R.S.ds x hx] at q
    exact q
  · rw [F6.1 _ _ (by omega), F5.1 _ _ (by omega), c4 _ (by omega), q3 _ _ (by omega)]
    exact R.S.fa j w hj h4 hw
  · rw [F6.1 _ _ (by omega), c5 _ (by omega), q4 _ _ (by omega)]
    exact R.S.sr k c hk h2 hc
  · rw [← hg6, uI_n (by omega), uI_n (by omega), uI_s]
  · rw [← hg6, uI_n (by omega), uI_s]
  · rw [← hg6, uI_s]
  · rw [F6.1 _ _ (by omega), F5.1 _ _ (by omega), F4.1 _ _ (by omega), F3.1 _ _ (by omega), F2.1 _ _ (by omega), F1.1 _ _ (by omega), ← hg0, uI_s]
  · refine (F0.mono fun a b q => Or.inr q).tr ((F1.mono fun a b q => Or.inl ?_).tr ((F2.mono fun a b q => Or.inl ?_).tr ((F3.mono fun a b q => Or.inl ?_).tr ((F4.mono fun a b q => Or.inl ?_).tr ((F5.mono fun a b q => Or.inl ?_).tr (F6.mono fun a b q => Or.inl ?_)))))) <;> (unfold Wb; omega)
