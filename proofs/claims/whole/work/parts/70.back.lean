/-! back -/
theorem bk20 {i : Nat} (hi : i < 3) (k : HI → Int32 → Option (Int32 × HI)) (h : HI) : ∃ h1, fX9_back_20 101 k FU h (nI i) 0 = k h1 (nI i) ∧ Fr (fun a b => 128 ≤ a ∧ a ≤ 131) h h1 ∧ ∀ m, m < 6 → h1.1 128 m = h.1 149 (5 * (6 * i + m) + 0) ∧ h1.1 129 m = h.1 149 (5 * (6 * i + m) + 1) ∧ h1.1 130 m = h.1 149 (5 * (6 * i + m) + 2) ∧ h1.1 131 m = h.1 149 (5 * (6 * i + m) + 3) := by
  obtain ⟨F, ⟨h2, z⟩, ⟨hz, hF, hc⟩, hL⟩ := lpi (fun n (p : HI × Int32) => fX9_back_20 101 k n p.1 (nI i) p.2) (fun j p => p.2 = nI j ∧ Fr (fun a b => 128 ≤ a ∧ a ≤ 131) h p.1 ∧ ∀ m, m < j → p.1.1 128 m = h.1 149 (5 * (6 * i + m) + 0) ∧ p.1.1 129 m = h.1 149 (5 * (6 * i + m) + 1) ∧ p.1.1 130 m = h.1 149 (5 * (6 * i + m) + 2) ∧ p.1.1 131 m = h.1 149 (5 * (6 * i + m) + 3)) 6 (by omega) (by
    rintro j ⟨h2, z⟩ hj ⟨hz, hF, hc⟩
    simp only at hz hF hc
    subst hz
    refine ⟨(uI (uI (uI (uI h2 128 j (h.1 149 (5 * (6 * i + j) + 0))) 129 j (h.1 149 (5 * (6 * i + j) + 1))) 130 j (h.1 149 (5 * (6 * i + j) + 2))) 131 j (h.1 149 (5 * (6 * i + j) + 3)), nI (j + 1)), ⟨rfl, hF.tr ((((Fr.uI (by omega)).tr (Fr.uI (by omega))).tr (Fr.uI (by omega))).tr (Fr.uI (by omega))), fun m hm => ?_⟩, fun n => ?_⟩
    · by_cases e : m = j
      · subst e
        refine ⟨?_, ?_, ?_, ?_⟩
        · rw [uI_n (by omega), uI_n (by omega), uI_n (by omega), uI_s]
        · rw [uI_n (by omega), uI_n (by omega), uI_s]
        · rw [uI_n (by omega), uI_s]
        · rw [uI_s]
      · have q := hc m (by omega)
        refine ⟨?_, ?_, ?_, ?_⟩
        · rw [uI_n (by omega), uI_n (by omega), uI_n (by omega), uI_n (by omega)]; exact q.1
        · rw [uI_n (by omega), uI_n (by omega), uI_n (by omega), uI_n (by omega)]; exact q.2.1
        · rw [uI_n (by omega), uI_n (by omega), uI_n (by omega), uI_n (by omega)]; exact q.2.2.1
        · rw [uI_n (by omega), uI_n (by omega), uI_n (by omega), uI_n (by omega)]; exact q.2.2.2
    · show fX9_back_20 101 k (n + 1) h2 (nI i) (nI j) = fX9_back_20 101 k n _ (nI i) (nI (j + 1))
      rw [fX9_back_20, if_neg (show ¬ (6 : Int32) ≤ nI j from nI_ge (b := 6) hj (by decide)), x51, x52, x53, x50]
      simp (disch := omega) only [gB, nI_clamp, Nat.reduceAdd, nI_1]
      rw [hF.1 149 _ (by omega), hF.1 149 _ (by omega), hF.1 149 _ (by omega), hF.1 149 _ (by omega)]) (s0 := (h, 0)) ⟨rfl, Fr.rf, fun m hm => absurd hm (Nat.not_lt_zero m)⟩
  simp only at hz hF hc hL
  subst hz
  exact ⟨h2, by rw [hL, fX9_back_20, if_pos (by decide)], hF, hc⟩
theorem bk97 {i : Nat} (hi : i < 3) (k : HI → Int32 → Option (Int32 × HI)) (h : HI) (B Fo : Nat → Bool) (hB : ∀ c, c < 6 → h.1 150 (2 * (6 * i + c) + 0) = b01 (B c)) (hFo : ∀ c, c < 6 → h.1 150 (2 * (6 * i + c) + 1) = b01 (Fo c)) : ∃ h1, fX9_back_97 101 k FU h (nI i) 0 = k h1 (nI i) ∧ Fr (fun a b => 134 ≤ a ∧ a ≤ 135) h h1 ∧ ∀ m, m < 6 → h1.1 134 m = b01 (B m) ∧ h1.1 135 m = b01 (Fo m) := by
  obtain ⟨F, ⟨h2, z⟩, ⟨hz, hF, hc⟩, hL⟩ := lpi (fun n (p : HI × Int32) => fX9_back_97 101 k n p.1 (nI i) p.2) (fun j p => p.2 = nI j ∧ Fr (fun a b => 134 ≤ a ∧ a ≤ 135) h p.1 ∧ ∀ m, m < j → p.1.1 134 m = b01 (B m) ∧ p.1.1 135 m = b01 (Fo m)) 6 (by omega) (by
    rintro j ⟨h2, z⟩ hj ⟨hz, hF, hc⟩
    simp only at hz hF hc
    subst hz
    refine ⟨(uI (uI h2 134 j (b01 (B j))) 135 j (b01 (Fo j)), nI (j + 1)), ⟨rfl, hF.tr ((Fr.uI (by omega)).tr (Fr.uI (by omega))), fun m hm => ?_⟩, fun n => ?_⟩
    · by_cases e : m = j
      · subst e
        exact ⟨by rw [uI_n (by omega), uI_s], by rw [uI_s]⟩
      · have q := hc m (by omega)
        exact ⟨by rw [uI_n (by omega), uI_n (by omega)]; exact q.1, by rw [uI_n (by omega), uI_n (by omega)]; exact q.2⟩
    · show fX9_back_97 101 k (n + 1) h2 (nI i) (nI j) = fX9_back_97 101 k n _ (nI i) (nI (j + 1))
      rw [fX9_back_97, if_neg (show ¬ (6 : Int32) ≤ nI j from nI_ge (b := 6) hj (by decide)), x20]
      unfold fX9_back_130 fX9_back_160
      simp (disch := omega) only [gB, nI_clamp, Nat.reduceAdd, nI_1, x21]
      rw [hF.1 150 _ (by omega), hF.1 150 _ (by omega), hB j hj, hFo j hj]
      cases B j with
      | true =>
        rw [if_pos b01t1]
        cases Fo j with
        | true => rw [if_pos b01t1]; rfl
        | false => rw [if_neg (by decide)]; rfl
      | false =>
        rw [if_neg (show ¬ b01 false = 1 by decide)]
        cases Fo j with
        | true => rw [if_pos b01t1]; rfl
        | false => rw [if_neg (by decide)]; rfl) (s0 := (h, 0)) ⟨rfl, Fr.rf, fun m hm => absurd hm (Nat.not_lt_zero m)⟩
  simp only at hz hF hc hL
  subst hz
  exact ⟨h2, by rw [hL, fX9_back_97, if_pos (by decide)], hF, hc⟩
theorem bk169 {i : Nat} (hi : i < 3) (k : HI → Int32 → Option (Int32 × HI)) (h : HI) : ∃ h1, fX9_back_169 101 k FU h (nI i) 0 = k h1 (nI i) ∧ Fr (fun a b => 132 ≤ a ∧ a ≤ 133) h h1 ∧ ∀ m, m < 4 → h1.1 132 m = h.1 151 (8 * i + m) ∧ h1.1 133 m = h.1 151 (8 * i + 4 + m) := by
  obtain ⟨F, ⟨h2, z⟩, ⟨hz, hF, hc⟩, hL⟩ := lpi (fun n (p : HI × Int32) => fX9_back_169 101 k n p.1 (nI i) p.2) (fun j p => p.2 = nI j ∧ Fr (fun a b => 132 ≤ a ∧ a ≤ 133) h p.1 ∧ ∀ m, m < j → p.1.1 132 m = h.1 151 (8 * i + m) ∧ p.1.1 133 m = h.1 151 (8 * i + 4 + m)) 4 (by omega) (by
    rintro j ⟨h2, z⟩ hj ⟨hz, hF, hc⟩
    simp only at hz hF hc
    subst hz
    refine ⟨(uI (uI h2 132 j (h.1 151 (8 * i + j))) 133 j (h.1 151 (8 * i + 4 + j)), nI (j + 1)), ⟨rfl, hF.tr ((Fr.uI (by omega)).tr (Fr.uI (by omega))), fun m hm => ?_⟩, fun n => ?_⟩
    · by_cases e : m = j
      · subst e
        exact ⟨by rw [uI_n (by omega), uI_s], by rw [uI_s]⟩
      · have q := hc m (by omega)
        exact ⟨by rw [uI_n (by omega), uI_n (by omega)]; exact q.1, by rw [uI_n (by omega), uI_n (by omega)]; exact q.2⟩
    · show fX9_back_169 101 k (n + 1) h2 (nI i) (nI j) = fX9_back_169 101 k n _ (nI i) (nI (j + 1))
      rw [fX9_back_169, if_neg (show ¬ (4 : Int32) ≤ nI j from nI_ge (b := 4) hj (by decide)), x84, x8]
      simp (disch := omega) only [gB, nI_clamp, Nat.reduceAdd, nI_1]
      rw [hF.1 151 _ (by omega), hF.1 151 _ (by omega)]) (s0 := (h, 0)) ⟨rfl, Fr.rf, fun m hm => absurd hm (Nat.not_lt_zero m)⟩
  simp only at hz hF hc hL
  subst hz
  exact ⟨h2, by rw [hL, fX9_back_169, if_pos (by decide)], hF, hc⟩
theorem bk218 {i : Nat} (hi : i < 3) (k : HI → Int32 → Option (Int32 × HI)) (h : HI) : ∃ h1, fX9_back_218 101 k FU h (nI i) 0 = k h1 (nI i) ∧ Fr (fun a b => a = 136) h h1 ∧ ∀ m, m < 600 → h1.1 136 m = h.1 152 (600 * i + m) := by
  obtain ⟨F, ⟨h2, z⟩, ⟨hz, hF, hc⟩, hL⟩ := lpi (fun n (p : HI × Int32) => fX9_back_218 101 k n p.1 (nI i) p.2) (fun j p => p.2 = nI j ∧ Fr (fun a b => a = 136) h p.1 ∧ ∀ m, m < j → p.1.1 136 m = h.1 152 (600 * i + m)) 600 (by omega) (by
    rintro j ⟨h2, z⟩ hj ⟨hz, hF, hc⟩
    simp only at hz hF hc
    subst hz
    refine ⟨(uI h2 136 j (h.1 152 (600 * i + j)), nI (j + 1)), ⟨rfl, hF.tr (Fr.uI rfl), fun m hm => ?_⟩, fun n => ?_⟩
    · by_cases e : m = j
      · subst e; rw [uI_s]
      · rw [uI_n (by omega)]; exact hc m (by omega)
    · show fX9_back_218 101 k (n + 1) h2 (nI i) (nI j) = fX9_back_218 101 k n _ (nI i) (nI (j + 1))
      rw [fX9_back_218, if_neg (show ¬ (600 : Int32) ≤ nI j from nI_ge (b := 600) hj (by decide)), x600]
      simp (disch := omega) only [gB, nI_clamp, Nat.reduceAdd, nI_1]
      rw [hF.1 152 _ (by omega)]) (s0 := (h, 0)) ⟨rfl, Fr.rf, fun m hm => absurd hm (Nat.not_lt_zero m)⟩
  simp only at hz hF hc hL
  subst hz
  exact ⟨h2, by rw [hL, fX9_back_218, if_pos (show (600 : Int32) ≤ nI 600 by decide)], hF, hc⟩
theorem bk251 {i : Nat} (hi : i < 3) (k : HI → Int32 → Option (Int32 × HI)) (h : HI) : ∃ h1, fX9_back_251 101 k FU h (nI i) 0 = k h1 (nI i) ∧ Fr (fun a b => a = 137) h h1 ∧ ∀ m, m < 1206 → h1.1 137 m = h.1 153 (1206 * i + m) := by
  obtain ⟨F, ⟨h2, z⟩, ⟨hz, hF, hc⟩, hL⟩ := lpi (fun n (p : HI × Int32) => fX9_back_251 101 k n p.1 (nI i) p.2) (fun j p => p.2 = nI j ∧ Fr (fun a b => a = 137) h p.1 ∧ ∀ m, m < j → p.1.1 137 m = h.1 153 (1206 * i + m)) 1206 (by omega) (by
    rintro j ⟨h2, z⟩ hj ⟨hz, hF, hc⟩
    simp only at hz hF hc
    subst hz
    refine ⟨(uI h2 137 j (h.1 153 (1206 * i + j)), nI (j + 1)), ⟨rfl, hF.tr (Fr.uI rfl), fun m hm => ?_⟩, fun n => ?_⟩
    · by_cases e : m = j
      · subst e; rw [uI_s]
      · rw [uI_n (by omega)]; exact hc m (by omega)
    · show fX9_back_251 101 k (n + 1) h2 (nI i) (nI j) = fX9_back_251 101 k n _ (nI i) (nI (j + 1))
      rw [fX9_back_251, if_neg (show ¬ (1206 : Int32) ≤ nI j from nI_ge (b := 1206) hj (by decide)), x1206]
      simp (disch := omega) only [gB, nI_clamp, Nat.reduceAdd, nI_1]
      rw [hF.1 153 _ (by omega)]) (s0 := (h, 0)) ⟨rfl, Fr.rf, fun m hm => absurd hm (Nat.not_lt_zero m)⟩
  simp only at hz hF hc hL
  subst hz
  exact ⟨h2, by rw [hL, fX9_back_251, if_pos (show (1206 : Int32) ≤ nI 1206 by decide)], hF, hc⟩
theorem r_back {d : HD} {h : HI} {s : SD} {i : Nat} (hi : i < 3) (w : HDw d) (R : RB i d h s) (H : RH d h) (hf : ¬ h.1 148 i = 0) : ∃ h1, fX9_back 101 h (nI i) = some (nI s.mi, h1) ∧ RO d h h1 s := by
  have hC := w.C6
  obtain ⟨r1, r2, r3, r4, r5, r6, r7, r8⟩ := R
  unfold fX9_back
  rw [r_isBox hi, Option.bind_some, if_neg ne10]
  simp (disch := omega) only [gB, nI_clamp, Nat.reduceAdd]
  rw [if_neg hf]
  obtain ⟨g1, e1, F1, c1⟩ := bk20 hi (fun h3 v1 => fX9_back_97 101 (fun h5 v1 => fX9_back_169 101 (fun h7 v1 => fX9_back_218 101 (fun h9 v1 => fX9_back_251 101 (fun h11 v1 => (if inB ((3 : Int32) * v1) 9 then (if inB (((3 : Int32) * v1) + (1 : Int32)) 9 then (if inB (((3 : Int32) * v1) + (2 : Int32)) 9 then some ((h11.1 154 (((3 : Int32) * v1).toNatClampNeg)), (uI (uI (uI h11 101 57 (h11.1 154 (((3 : Int32) * v1).toNatClampNeg))) 101 58 (h11.1 154 ((((3 : Int32) * v1) + (1 : Int32)).toNatClampNeg))) 101 59 (h11.1 154 ((((3 : Int32) * v1) + (2 : Int32)).toNatClampNeg)))) else none) else none) else none)) FU h9 v1 (0 : Int32)) FU h7 v1 (0 : Int32)) FU h5 v1 (0 : Int32)) FU h3 v1 (0 : Int32)) h
  rw [e1]
  obtain ⟨g2, e2, F2, c2⟩ := bk97 hi (fun h5 v1 => fX9_back_169 101 (fun h7 v1 => fX9_back_218 101 (fun h9 v1 => fX9_back_251 101 (fun h11 v1 => (if inB ((3 : Int32) * v1) 9 then (if inB (((3 : Int32) * v1) + (1 : Int32)) 9 then (if inB (((3 : Int32) * v1) + (2 : Int32)) 9 then some ((h11.1 154 (((3 : Int32) * v1).toNatClampNeg)), (uI (uI (uI h11 101 57 (h11.1 154 (((3 : Int32) * v1).toNatClampNeg))) 101 58 (h11.1 154 ((((3 : Int32) * v1) + (1 : Int32)).toNatClampNeg))) 101 59 (h11.1 154 ((((3 : Int32) * v1) + (2 : Int32)).toNatClampNeg)))) else none) else none) else none)) FU h9 v1 (0 : Int32)) FU h7 v1 (0 : Int32)) FU h5 v1 (0 : Int32)) g1 s.br s.fo (fun c hc => by rw [F1.1 _ _ (by omega)]; exact (r2 c hc).1) (fun c hc => by rw [F1.1 _ _ (by omega)]; exact (r2 c hc).2)
  rw [e2]
  obtain ⟨g3, e3, F3, c3⟩ := bk169 hi (fun h7 v1 => fX9_back_218 101 (fun h9 v1 => fX9_back_251 101 (fun h11 v1 => (if inB ((3 : Int32) * v1) 9 then (if inB (((3 : Int32) * v1) + (1 : Int32)) 9 then (if inB (((3 : Int32) * v1) + (2 : Int32)) 9 then some ((h11.1 154 (((3 : Int32) * v1).toNatClampNeg)), (uI (uI (uI h11 101 57 (h11.1 154 (((3 : Int32) * v1).toNatClampNeg))) 101 58 (h11.1 154 ((((3 : Int32) * v1) + (1 : Int32)).toNatClampNeg))) 101 59 (h11.1 154 ((((3 : Int32) * v1) + (2 : Int32)).toNatClampNeg)))) else none) else none) else none)) FU h9 v1 (0 : Int32)) FU h7 v1 (0 : Int32)) g2
  rw [e3]
  obtain ⟨g4, e4, F4, c4⟩ := bk218 hi (fun h9 v1 => fX9_back_251 101 (fun h11 v1 => (if inB ((3 : Int32) * v1) 9 then (if inB (((3 : Int32) * v1) + (1 : Int32)) 9 then (if inB (((3 : Int32) * v1) + (2 : Int32)) 9 then some ((h11.1 154 (((3 : Int32) * v1).toNatClampNeg)), (uI (uI (uI h11 101 57 (h11.1 154 (((3 : Int32) * v1).toNatClampNeg))) 101 58 (h11.1 154 ((((3 : Int32) * v1) + (1 : Int32)).toNatClampNeg))) 101 59 (h11.1 154 ((((3 : Int32) * v1) + (2 : Int32)).toNatClampNeg)))) else none) else none) else none)) FU h9 v1 (0 : Int32)) g3
  rw [e4]
  obtain ⟨g5, e5, F5, c5⟩ := bk251 hi (fun h11 v1 => (if inB ((3 : Int32) * v1) 9 then (if inB (((3 : Int32) * v1) + (1 : Int32)) 9 then (if inB (((3 : Int32) * v1) + (2 : Int32)) 9 then some ((h11.1 154 (((3 : Int32) * v1).toNatClampNeg)), (uI (uI (uI h11 101 57 (h11.1 154 (((3 : Int32) * v1).toNatClampNeg))) 101 58 (h11.1 154 ((((3 : Int32) * v1) + (1 : Int32)).toNatClampNeg))) 101 59 (h11.1 154 ((((3 : Int32) * v1) + (2 : Int32)).toNatClampNeg)))) else none) else none) else none)) g4
  rw [e5]
  have q5 : ∀ a b, ¬ (128 ≤ a ∧ a ≤ 137) → g5.1 a b = h.1 a b := fun a b q => by rw [F5.1 a b (by omega), F4.1 a b (by omega), F3.1 a b (by omega), F2.1 a b (by omega), F1.1 a b (by omega)]
  have m1 : (3 : Int32) * nI i + 1 = nI (3 * i + 1) := x3 i 1
  have m2 : (3 : Int32) * nI i + 2 = nI (3 * i + 2) := x3 i 2
  rw [m1, m2, x30]
  simp (disch := omega) only [gB, nI_clamp, Nat.reduceAdd]
  rw [q5 154 _ (by omega), q5 154 _ (by omega), q5 154 _ (by omega), r6, r7, r8]
  have F6 : Fr (fun a b => a = 101 ∧ 57 ≤ b ∧ b ≤ 59) g5 (uI (uI (uI g5 101 57 (nI s.mi)) 101 58 (nI s.vo)) 101 59 s.sk) := ((Fr.uI (by omega)).tr (Fr.uI (by omega))).tr (Fr.uI (by omega))
  generalize hg6 : uI (uI (uI g5 101 57 (nI s.mi)) 101 58 (nI s.vo)) 101 59 s.sk = g6 at F6
  have FF : Fr Wr h g6 := ((F1.mono fun a b q => ?_).tr ((F2.mono fun a b q => ?_).tr ((F3.mono fun a b q => ?_).tr ((F4.mono fun a b q => ?_).tr (F5.mono fun a b q => ?_))))).tr (F6.mono fun a b q => ?_)
  · refine ⟨g6, rfl, ⟨fun m hm => ?_, fun m hm => ?_, fun m hm => ?_, fun m hm => ?_, fun x hx => ?_, fun x hx => ?_, fun c hc => ?_, fun c hc => ?_, ?_, ?_, ?_, fun j w hj h4 hw => ?_, fun k c hk h2 hc => ?_⟩, H.keep FF (fun a b p q => by unfold Wr at q; unfold RHW at p; omega), FF⟩
    · rw [F6.1 _ _ (by omega), F5.1 _ _ (by omega), F4.1 _ _ (by omega), F3.1 _ _ (by omega), F2.1 _ _ (by omega), (c1 m hm.1).1]; exact (r1 m hm.1).1 hm.2
    · rw [F6.1 _ _ (by omega), F5.1 _ _ (by omega), F4.1 _ _ (by omega), F3.1 _ _ (by omega), F2.1 _ _ (by omega), (c1 m hm).2.1]; exact (r1 m hm).2.1
    · rw [F6.1 _ _ (by omega), F5.1 _ _ (by omega), F4.1 _ _ (by omega), F3.1 _ _ (by omega), F2.1 _ _ (by omega), (c1 m hm).2.2.1]; exact (r1 m hm).2.2.1
    · rw [F6.1 _ _ (by omega), F5.1 _ _ (by omega), F4.1 _ _ (by omega), F3.1 _ _ (by omega), F2.1 _ _ (by omega), (c1 m hm).2.2.2]; exact (r1 m hm).2.2.2
    · rw [F6.1 _ _ (by omega), F5.1 _ _ (by omega), F4.1 _ _ (by omega), (c3 x hx).1, F2.1 _ _ (by omega), F1.1 _ _ (by omega)]; exact (r3 x hx).1
    · rw [F6.1 _ _ (by omega), F5.1 _ _ (by omega), F4.1 _ _ (by omega), (c3 x hx).2, F2.1 _ _ (by omega), F1.1 _ _ (by omega)]; exact (r3 x hx).2
    · rw [F6.1 _ _ (by omega), F5.1 _ _ (by omega), F4.1 _ _ (by omega), F3.1 _ _ (by omega)]; exact (c2 c hc).1
    · rw [F6.1 _ _ (by omega), F5.1 _ _ (by omega), F4.1 _ _ (by omega), F3.1 _ _ (by omega)]; exact (c2 c hc).2
    · rw [← hg6, uI_n (by omega), uI_n (by omega), uI_s]
    · rw [← hg6, uI_n (by omega), uI_s]
    · rw [← hg6, uI_s]
    · rw [F6.1 _ _ (by omega), F5.1 _ _ (by omega), c4 _ (by omega), F3.1 _ _ (by omega), F2.1 _ _ (by omega), F1.1 _ _ (by omega)]; exact r4 j w hj h4 hw
    · rw [F6.1 _ _ (by omega), c5 _ (by omega), F4.1 _ _ (by omega), F3.1 _ _ (by omega), F2.1 _ _ (by omega), F1.1 _ _ (by omega)]; exact r5 k c hk h2 hc
  all_goals (unfold Wr; omega)
/-- the boxes -/
def BX (hh : Nat) (bh : Nat → Nat) (d : HD) (h : HI) : Prop := ∀ i, i < 3 → ∃ f : Bool, h.1 4 i = b01 f ∧ h.1 148 i = b01 f ∧ (f = true → bh i = hh ∧ ∃ s, SDw d s ∧ CS (74 + 9 * i) d h s ∧ RB i d h s)
def BXW (a b : Nat) : Prop := a = 4 ∨ 74 ≤ a ∧ a ≤ 100 ∨ 148 ≤ a ∧ a ≤ 154
theorem BX.keep {hh : Nat} {bh : Nat → Nat} {d : HD} {h h2 : HI} {W : Nat → Nat → Prop} (w : HDw d) (B : BX hh bh d h) (F : Fr W h h2) (hd : ∀ a b, BXW a b → ¬ W a b) : BX hh bh d h2 := by
  intro i hi
  obtain ⟨f, e1, e2, e3⟩ := B i hi
  refine ⟨f, by rw [F.1 _ _ (hd _ _ (by unfold BXW; omega))]; exact e1, by rw [F.1 _ _ (hd _ _ (by unfold BXW; omega))]; exact e2, fun hf => ?_⟩
  obtain ⟨a, s, v, C, R⟩ := e3 hf
  exact ⟨a, s, v, C.keep F (fun a b p q => hd a b (by unfold BXW; omega)), R.keep w F (fun a b p => hd a b (by unfold Wb at p; unfold BXW; omega))⟩
def Wim (i a b : Nat) : Prop := Wc (74 + 9 * i) a b ∨ a = 4 ∧ b = i ∨ Wb i a b ∨ a = 148 ∧ b = i
theorem op_image {hh : Nat} {bh : Nat → Nat} {d : HD} {h : HI} {s : SD} (w : HDw d) (v : SDw d s) (T : St hh d h s) (B : BX hh bh d h) (a : Int32) : ∃ (r : Int32) (h1 h2 : HI), fX8_image 0 hh h a = some (r, h1) ∧ fX9_image 101 h1 a = some (r, h2) ∧ Fr BXW h h2 ∧ ((¬ inB a 3 ∧ BX hh bh d h2) ∨ (inB a 3 ∧ BX hh (fun i => if i = a.toNatClampNeg then hh else bh i) d h2)) := by
  have h4 := vo4 w v.v
  rcases rng a 3 (by omega) with ⟨i, hi, rfl⟩ | c
  · obtain ⟨h1, e1, C1, F1⟩ := c_copy (o := 74 + 9 * i) (p := 56) (x := hh) (by omega) T.1.S h4
    have R1 : RO d (uI h1 4 i 1) (uI h1 4 i 1) s := by
      have F2 : Fr (fun a b => Wc (74 + 9 * i) a b ∨ a = 4) h (uI h1 4 i 1) := (F1.mono fun a b q => Or.inl q).tr (Fr.uI (Or.inr rfl))
      exact ⟨T.2.S.keep F2 (fun a b p q => by unfold Wr at p; unfold Wc at q; omega), T.2.H.keep F2 (fun a b p q => by unfold RHW at p; unfold Wc at q; omega), Fr.rf⟩
    obtain ⟨h2, e2, B2, n2, F2⟩ := r_image hi w R1 h4
    have FF : Fr (Wim i) h h2 := (F1.mono fun a b q => Or.inl q).tr ((Fr.uI (Or.inr (Or.inl ⟨rfl, rfl⟩))).tr (F2.mono fun a b q => Or.inr (Or.inr q)))
    refine ⟨nI s.mi, uI h1 4 i 1, h2, ?_, e2, FF.mono (fun a b q => by unfold Wim Wc Wb at q; unfold BXW; omega), Or.inr ⟨inB_n hi (by omega), ?_⟩⟩
    · unfold fX8_image
      rw [if_neg (nI_pos (by omega)), if_pos (show nI i < (3 : Int32) from nI_lt (b := 3) hi (by decide))]
      simp (disch := omega) only [gB, nI_clamp, Nat.zero_add]
      rw [e1, Option.bind_some, F1.1 56 1 (by unfold Wc; omega), T.1.S.mi]
    · rw [nI_clamp (by omega)]
      intro k hk
      by_cases q : k = i
      · subst q
        refine ⟨true, ?_, n2, fun _ => ⟨if_pos rfl, s, v, ?_, B2⟩⟩
        · rw [F2.1 _ _ (by unfold Wb; omega), uI_s]; rfl
        · exact (C1.keep (h2 := uI h1 4 k 1) (W := fun a b => a = 4) (Fr.uI rfl) (fun a b p q z => by omega)).keep F2 (fun a b p q z => by unfold Wb at z; omega)
      · obtain ⟨f, b1, b2, b3⟩ := B k hk
        refine ⟨f, ?_, ?_, fun hf => ?_⟩
        · rw [FF.1 _ _ (by unfold Wim Wc Wb; omega)]; exact b1
        · rw [FF.1 _ _ (by unfold Wim Wc Wb; omega)]; exact b2
        · obtain ⟨z, sb, vb, Cb, Rb⟩ := b3 hf
          exact ⟨(if_neg q).trans z, sb, vb, Cb.keep FF (fun a b p q z => by unfold Wim Wc Wb at z; omega), Rb.keep w FF (fun a b p z => by unfold Wb at p; unfold Wim Wc Wb at z; omega)⟩
  · refine ⟨-1, h, h, ?_, ?_, Fr.rf, Or.inl ⟨?_, B⟩⟩
    · unfold fX8_image
      rcases c with c | ⟨c, c2⟩
      · rw [if_pos c]
      · rw [if_neg c, if_neg (show ¬ a < (3 : Int32) from Int32.not_lt.mpr c2)]
    · unfold fX9_image
      rw [r_isBox0 c, Option.bind_some, if_pos rfl]
    · rintro ⟨p, q⟩
      rcases c with c | ⟨c, c2⟩
      · exact p c
      · obtain ⟨j, hj, rfl⟩ := nI_of c
        rw [nI_clamp hj] at q
        exact nI_ge q (by decide) c2
theorem op_back {hh : Nat} {bh : Nat → Nat} {d : HD} {h : HI} {s : SD} (w : HDw d) (v : SDw d s) (T : St hh d h s) (B : BX hh bh d h) (a : Int32) : ∃ (r : Int32) (h1 h2 : HI) (s2 : SD), fX8_back 0 (bh (a.toNatClampNeg)) h a = some (r, h1) ∧ fX9_back 101 h1 a = some (r, h2) ∧ St hh d h2 s2 ∧ SDw d s2 ∧ Fr (Wa hh) h h2 ∧ (inB a 3 → ¬ (h.1 (0 + 4) (a.toNatClampNeg)) = 0 → bh (a.toNatClampNeg) = hh) := by
  rcases rng a 3 (by omega) with ⟨i, hi, rfl⟩ | c
  · obtain ⟨f, b1, b2, b3⟩ := B i hi
    have b1' : h.1 (0 + 4) i = b01 f := b1
    rw [nI_clamp (by omega)]
    cases f with
    | false =>
      refine ⟨-1, h, h, s, ?_, ?_, T, v, Fr.rf, fun _ q => absurd (b1'.trans b01f) q⟩
      · unfold fX8_back
        rw [if_neg (nI_pos (by omega)), if_neg (show ¬ (3 : Int32) ≤ nI i from nI_ge (b := 3) hi (by decide))]
        simp (disch := omega) only [gB, nI_clamp, Nat.zero_add]
        rw [b1, if_pos b01f]
      · unfold fX9_back
        rw [r_isBox hi, Option.bind_some, if_neg ne10]
        simp (disch := omega) only [gB, nI_clamp, Nat.reduceAdd]
        rw [b2, if_pos b01f]
    | true =>
      obtain ⟨z, sb, vb, Cb, Rb⟩ := b3 rfl
      have h4 := vo4 w vb.v
      obtain ⟨h1, e1, C1, F1⟩ := c_copy (o := 56) (p := 74 + 9 * i) (x := bh i) (by omega) Cb h4
      have hh36 := T.1.1
      have CO1 : CO 56 hh d h h1 sb := ⟨hh36, C1, T.1.H.keep F1 (fun a b p q z => by unfold Wc at z; omega), F1⟩
      have RB1 : RB i d h1 sb := Rb.keep w F1 (fun a b p z => by unfold Wb at p; unfold Wc at z; omega)
      have RH1 : RH d h1 := T.2.H.keep F1 (fun a b p z => by unfold RHW at p; unfold Wc at z; omega)
      obtain ⟨h2, e2, R2⟩ := r_back hi w RB1 RH1 (by rw [F1.1 _ _ (by unfold Wc; omega), b2]; exact b01t)
      have q := T.go CO1 R2
      refine ⟨nI sb.mi, h1, h2, sb, ?_, e2, q.1, vb, q.2, fun _ _ => z⟩
      unfold fX8_back
      rw [if_neg (nI_pos (by omega)), if_neg (show ¬ (3 : Int32) ≤ nI i from nI_ge (b := 3) hi (by decide))]
      simp (disch := omega) only [gB, nI_clamp, Nat.zero_add]
      rw [b1, if_neg b01t, e1, Option.bind_some, C1.mi]
  · refine ⟨-1, h, h, s, ?_, ?_, T, v, Fr.rf, fun q => ?_⟩
    · unfold fX8_back
      rcases c with c | ⟨c, c2⟩
      · rw [if_pos c]
      · rw [if_neg c, if_pos (show (3 : Int32) ≤ a from c2)]
    · unfold fX9_back
      rw [r_isBox0 c, Option.bind_some, if_pos rfl]
    · obtain ⟨p, q⟩ := q
      rcases c with c | ⟨c, c2⟩
      · exact absurd c p
      · obtain ⟨j, hj, rfl⟩ := nI_of c
        rw [nI_clamp hj] at q
        exact absurd c2 (nI_ge q (by decide))
