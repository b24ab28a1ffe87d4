/-! the first state: what the two constructors leave -/
def WC : List Nat := [99, 104, 97, 105, 114, 32, 104, 111, 108, 100, 115, 32, 115, 116, 111, 111, 108, 32, 109, 97, 110, 32, 115, 116, 114, 111, 110, 103, 32, 100, 111, 111, 114, 32, 109, 97, 116, 116, 101, 114, 32, 100, 105, 101, 115, 32, 119, 105, 115, 104, 32, 100, 101, 97, 108, 32, 102, 111, 114, 32, 110, 97, 112, 32, 112, 97, 115, 115, 32, 111, 114, 32, 97, 110, 100, 32, 110, 111, 116, 32, 121, 101, 115, 32, 110, 111, 32, 115, 105, 116, 115, 32, 115, 116, 97, 110, 100, 115, 32, 104, 101, 114, 101, 32]
def stW : Nat → Nat × Nat
  | 0 => (0, 0)
  | i + 1 => if WC.getD i 0 = 32 then (0, (stW i).2 + 1) else ((stW i).1 * 2 ^ 5 + (WC.getD i 0 - 96), (stW i).2)
theorem wc_1 : ∀ i, i < 104 → ((((BJ.getD 0 []).getD i 0) &&& (255 : Int32)).toUInt32 % 65536).toInt32 = nI (WC.getD i 0) := by decide +kernel
theorem wc_2 : ∀ i, i < 104 → narrow .char (.int (nI (WC.getD i 0))) = .int (nI (WC.getD i 0)) := by decide +kernel
theorem wc_3 : ∀ i, i < 104 → (WC.getD i 0 = 32 → (stW i).1 = c5 (K (stW i).2) ∧ (stW i).2 < 21) ∧ (WC.getD i 0 ≠ 32 → 97 ≤ WC.getD i 0 ∧ WC.getD i 0 ≤ 122) := by decide +kernel
theorem wc_4 : (stW 104).2 = 21 := by decide +kernel
theorem c_add21 {q N m : Nat} {h : HI} {v : Int64} (e : h.1 q 1 = nI m) (hm : m < N) (hN : N ≤ 1000) : fX2_add q N h v = some (uI (uL h (q + 1) m v) q 1 (nI (m + 1))) := by
  unfold fX2_add fX2_isFull
  rw [e, if_pos (nI_lt hm (by omega)), Option.bind_some, if_pos rfl, e]
  simp (disch := omega) only [gB, nI_clamp, nI_1]
theorem c_char {i : Nat} {h : HI} (hi : i < 104) : fJ0_charAt_5068e 0 h (nI i) = some (nI (WC.getD i 0), h) := by
  unfold fJ0_charAt_5068e fJ0_isLatin1_aae02 fJ1_charAt_3b067 fJ0_checkIndex_df160 fJ3_checkIndex_8e157
  have l : LJ.getD 0 0 = 104 := rfl
  rw [if_neg (show ¬ (1 : Int32) = 0 by decide), if_pos (show (0 : Int32) = 0 from rfl), Option.bind_some, if_neg (show ¬ (1 : Int32) = 0 by decide), l, if_neg (nI_pos (by omega)), if_pos (nI_lt hi (by decide)), Option.bind_some, Option.bind_some]
  simp (disch := omega) only [gB, nI_clamp]
  rw [wc_1 i hi, if_pos (wc_2 i hi), Option.bind_some, if_pos (wc_2 i hi)]
theorem c_tail {h : HI} (e : h.1 54 1 = 0) : ∃ g, fX4_ctail 53 h = some g ∧ Fr (fun a _ => a = 54 ∨ a = 55) h g ∧ Wd g := by
  unfold fX4_ctail
  have e1 : ∀ h : HI, fJ0_length_8abf5 0 h = some (nI 104, h) := fun h => by
    unfold fJ0_length_8abf5 fJ0_coder_7d493
    rw [if_neg (by decide), if_pos (by decide), Option.bind_some]
    show some (nI 104 >>> ((0 : Int32) &&& 31), h) = some (nI 104, h)
    rw [show nI 104 >>> ((0 : Int32) &&& 31) = nI 104 by decide]
  obtain ⟨F, ⟨g, v, i⟩, ⟨i1, i2, i3, i4, i5⟩, hL⟩ := lpi (fun n (p : HI × Int64 × Int32) => fX4_init_37 53 (fun h6 => some h6) n p.1 p.2.1 p.2.2) (fun j p => p.2.2 = nI j ∧ p.2.1 = lN (stW j).1 ∧ Fr (fun a _ => a = 54 ∨ a = 55) h p.1 ∧ p.1.1 54 1 = nI (stW j).2 ∧ ∀ x, x < (stW j).2 → p.1.2 55 x = lN (c5 (K x))) 104 (by decide) (by
    rintro j ⟨g, v, i⟩ hj ⟨i1, i2, i3, i4, i5⟩
    simp only at i1 i2 i3 i4 i5
    subst i1 i2
    have st : ∀ n, fX4_init_37 53 (fun h6 => some h6) (n + 1) g (lN (stW j).1) (nI j) = (if nI (WC.getD j 0) = (32 : Int32) then ((fX2_add 54 21 g (lN (stW j).1)).bind fun h4 => fX4_init_37 53 (fun h6 => some h6) n h4 0 (nI (j + 1))) else ((fX4_withLetter g (lN (stW j).1) (nI (WC.getD j 0))).bind fun p3 => fX4_init_37 53 (fun h6 => some h6) n p3.2 p3.1 (nI (j + 1)))) := fun n => by
      rw [fX4_init_37, e1, Option.bind_some, if_neg (nI_ge hj (by decide)), c_char hj, Option.bind_some]
      unfold fX4_init_83
      rw [nI_1]
    obtain ⟨w1, w2⟩ := wc_3 j hj
    by_cases c : WC.getD j 0 = 32
    · have es : stW (j + 1) = (0, (stW j).2 + 1) := by rw [stW, if_pos c]
      obtain ⟨w3, w4⟩ := w1 c
      refine ⟨(uI (uL g 55 (stW j).2 (lN (stW j).1)) 54 1 (nI ((stW j).2 + 1)), 0, nI (j + 1)), ⟨rfl, by rw [es]; rfl, (i3.tr (Fr.uL (by decide))).tr (Fr.uI (by decide)), by rw [es]; exact uI_s _ _ _ _, fun x hx => ?_⟩, fun n => ?_⟩
      · rw [es] at hx
        have hx : x < (stW j).2 + 1 := hx
        show (uL g 55 (stW j).2 (lN (stW j).1)).2 55 x = _
        by_cases e : x = (stW j).2
        · rw [e, uL_s, w3]
        · rw [uL_n (by omega)]; exact i5 x (by omega)
      · show fX4_init_37 53 _ (n + 1) g (lN (stW j).1) (nI j) = _
        rw [st, c, if_pos (show nI 32 = (32 : Int32) from rfl), c_add21 (q := 54) i4 w4 (by decide), Option.bind_some]
    · have es : stW (j + 1) = ((stW j).1 * 2 ^ 5 + (WC.getD j 0 - 96), (stW j).2) := by rw [stW, if_neg c]
      obtain ⟨w3, w4⟩ := w2 c
      refine ⟨(g, lN ((stW j).1 * 2 ^ 5 + (WC.getD j 0 - 96)), nI (j + 1)), ⟨rfl, by rw [es], i3, by rw [es]; exact i4, fun x hx => ?_⟩, fun n => ?_⟩
      · rw [es] at hx
        exact i5 x hx
      · show fX4_init_37 53 _ (n + 1) g (lN (stW j).1) (nI j) = _
        have el : nI (WC.getD j 0) - (97 : Int32) + 1 = nI (WC.getD j 0 - 96) := by
          rw [show (97 : Int32) = nI 97 from rfl, nI_sb (by omega), nI_1, show WC.getD j 0 - 97 + 1 = WC.getD j 0 - 96 by omega]
        rw [st, if_neg (show ¬ nI (WC.getD j 0) = (32 : Int32) from fun z => c ((nI_eq (b := 32) (by omega) (by decide)).mp z))]
        unfold fX4_withLetter
        rw [Option.bind_some, el, nI_l (by omega), show (5 : Int32) = nI 5 from rfl, lN_shl _ (by decide) (show WC.getD j 0 - 96 < 2 ^ 5 by omega)]) (s0 := (h, 0, 0)) ⟨rfl, rfl, Fr.rf, e, fun x hx => absurd hx (Nat.not_lt_zero x)⟩
  simp only at i1 i2 i3 i4 i5 hL
  subst i1
  rw [wc_4] at i4 i5
  refine ⟨g, ?_, i3, i4, i5⟩
  rw [hL, fX4_init_37, e1, Option.bind_some, if_pos (nI_le (Nat.le_refl _) (by decide))]
theorem zc_n {h : HI} {n a b : Nat} (e : ¬ a = n) : (zc h n).1 a b = h.1 a b := if_neg e
theorem zc_s {h : HI} {n b : Nat} : (zc h n).1 n b = 0 := if_pos rfl
theorem Fr.zr {W : Nat → Nat → Prop} {h : HI} {n : Nat} (hw : ∀ b, W n b) : Fr W h (zc h n) := ⟨fun a b w => zc_n (fun z => w (by rw [z]; exact hw b)), fun a b w => if_neg (fun z : a = n => w (by rw [z]; exact hw b))⟩
theorem zc0 (n : Nat) : zc h00 n = h00 := by
  unfold zc h00
  simp only [ite_self]
theorem c_begO {o q : Nat} {d : HD} {h : HI} (hq : q + 20 < o) (R : CH q d h) : ∃ g, fX6_begin o q h = some g ∧ Fr (Wc o) h g ∧ CS o d g (s00 d) := by
  unfold fX6_begin
  obtain ⟨g0, hg0⟩ : ∃ g0, g0 = uI (uI (uI (uI (uI h o 1 0) o 2 0) o 3 0) o 4 0) o 5 0 := ⟨_, rfl⟩
  have f0 : Fr (fun a b => a = o) h g0 := by
    rw [hg0]
    iterate 4 refine Fr.tr ?_ (Fr.uI rfl)
    exact Fr.uI rfl
  have v : g0.1 o 1 = 0 ∧ g0.1 o 2 = 0 ∧ g0.1 o 3 = 0 ∧ g0.1 o 4 = 0 ∧ g0.1 o 5 = 0 := by
    rw [hg0]
    refine ⟨?_, ?_, ?_, ?_, ?_⟩ <;> simp (disch := omega) only [uI_s, uI_n]
  rw [← hg0]
  clear hg0
  have L := lpS (f := fun k => fX6_begin_32 o q k) (st := fun i g => uI g (o + 1) i ((s00 d).wh i)) (Q := fun g => g.1 q 6 = nI (bs d.dr d.M)) (N := 6) (h := g0) (fun k F h _ => by
    show fX6_begin_32 o q k (F + 1) h (nI 6) = k h
    rw [fX6_begin_32, if_pos (by decide)]) (fun k F g i hi Q => by
    have Q : g.1 q 6 = nI (bs d.dr d.M) := Q
    show fX6_begin_32 o q k (F + 1) g (nI i) = _
    rw [fX6_begin_32, if_neg (show ¬ (6 : Int32) ≤ nI i from nI_ge (show i < 6 from hi) (by decide)), Q, tst6 d.dr hi]
    unfold fX6_begin_63
    simp (disch := omega) only [gB, nI_clamp, nI_1]
    show _ = fX6_begin_32 o q k F (uI g (o + 1) i (if i < d.M ∧ d.dr i = true then (-2 : Int32) else -1)) (nI (i + 1))
    by_cases c : i < d.M ∧ d.dr i = true
    · rw [if_pos c, decide_eq_true c.1, c.2, if_neg (show ¬ b01 (true && true) = 0 from b01t)]
    · rw [if_neg c, if_pos (show b01 (decide (i < d.M) && d.dr i) = 0 by
        rw [show (decide (i < d.M) && d.dr i) = false from by
          by_cases c1 : i < d.M
          · rw [decide_eq_true c1]
            cases y : d.dr i with
            | false => rfl
            | true => exact absurd ⟨c1, y⟩ c
          · rw [decide_eq_false c1]; rfl]; rfl)]) (fun i g hi Q => by
    show (uI g (o + 1) i ((s00 d).wh i)).1 q 6 = _
    rw [uI_n (by omega)]; exact Q) (by rw [f0.1 _ _ (by omega)]; exact R.dr) (by decide)
  rw [L.2]
  have f1 : Fr (fun a b => a = o + 1) g0 (itS (fun i g => uI g (o + 1) i ((s00 d).wh i)) 6 g0) := itF (W := fun x _ => x = o + 1) (N := 6) (fun i g _ => Fr.uI rfl) g0 6 (Nat.le_refl _)
  have v1 : ∀ i, i < 6 → (itS (fun i g => uI g (o + 1) i ((s00 d).wh i)) 6 g0).1 (o + 1) i = (s00 d).wh i := fun i hi => itV (a := (o + 1)) (N := 6) (v := fun i _ => (s00 d).wh i) (fun i g _ => uI_s _ _ _ _) (fun i j g hj _ => uI_n (by omega)) g0 6 (Nat.le_refl _) i hi
  clear L
  revert f1 v1
  generalize itS (fun i g => uI g (o + 1) i ((s00 d).wh i)) 6 g0 = g1
  intro f1 v1
  obtain ⟨g2, a2, f2, v2⟩ := c_fl (a := (o + 2)) (N := 6) (h := g1) (by decide)
  obtain ⟨g3, a3, f3, v3⟩ := c_fl (a := (o + 3)) (N := 6) (h := g2) (by decide)
  obtain ⟨g4, a4, f4, v4⟩ := c_fl (a := (o + 4)) (N := 6) (h := g3) (by decide)
  obtain ⟨g5, a5, f5, v5⟩ := c_fl (a := (o + 5)) (N := 4) (h := g4) (by decide)
  obtain ⟨g6, a6, f6, v6⟩ := c_fl (a := (o + 6)) (N := 4) (h := g5) (by decide)
  rw [a2, Option.bind_some, a3, Option.bind_some, a4, Option.bind_some, a5, Option.bind_some, a6, Option.bind_some]
  have k : ∀ a b, a = o ∨ a = o + 1 → g6.1 a b = g1.1 a b := fun a b z => by
    rw [f6.1 _ _ (by omega), f5.1 _ _ (by omega), f4.1 _ _ (by omega), f3.1 _ _ (by omega), f2.1 _ _ (by omega)]
  have k0 : ∀ b, g6.1 o b = g0.1 o b := fun b => (k _ _ (by omega)).trans (f1.1 _ _ (by omega))
  refine ⟨g6, rfl, (((((((f0.mono fun a b z => by unfold Wc; omega).tr (f1.mono fun a b z => by unfold Wc; omega)).tr (f2.mono fun a b z => by unfold Wc; omega)).tr (f3.mono fun a b z => by unfold Wc; omega)).tr (f4.mono fun a b z => by unfold Wc; omega)).tr (f5.mono fun a b z => by unfold Wc; omega)).tr (f6.mono fun a b z => by unfold Wc; omega)), ?_⟩
  obtain ⟨w1, w2, w3, w4, w5⟩ := v
  refine ⟨fun i hi => (k _ _ (by omega)).trans (v1 i hi), fun i hi => ?_, fun i hi => ?_, fun i hi => ?_, fun i hi => ?_, fun i hi => ?_, ?_, ?_, (k0 1).trans w1, (k0 2).trans w2, (k0 3).trans w3, fun i w hi => absurd hi (Nat.not_lt_zero i), fun k hk => absurd hk (Nat.not_lt_zero k)⟩
  · rw [f6.1 _ _ (by omega), f5.1 _ _ (by omega), f4.1 _ _ (by omega), f3.1 _ _ (by omega)]; exact v2 i hi
  · rw [f6.1 _ _ (by omega), f5.1 _ _ (by omega), f4.1 _ _ (by omega)]; exact v3 i hi
  · rw [f6.1 _ _ (by omega), f5.1 _ _ (by omega)]; exact v4 i hi
  · rw [f6.1 _ _ (by omega)]; exact v5 i hi
  · exact v6 i hi
  · rw [show bs (s00 d).br 6 = 0 from bs0 (ct_f 6)]; exact (k0 4).trans w4
  · rw [show bs (s00 d).fo 6 = 0 from bs0 (ct_f 6)]; exact (k0 5).trans w5
theorem zcs_1 : ∀ (l : List Nat) (h : HI) (a b : Nat), (l.foldl zc h).1 a b = if a ∈ l then 0 else h.1 a b
  | [], h, a, b => by rw [if_neg (by simp)]; rfl
  | n :: l, h, a, b => by
    rw [List.foldl_cons, zcs_1 l (zc h n) a b]
    by_cases c : a ∈ l
    · rw [if_pos c, if_pos (List.mem_cons_of_mem _ c)]
    · rw [if_neg c]
      by_cases e : a = n
      · rw [e, zc_s, if_pos List.mem_cons_self]
      · rw [zc_n e, if_neg (fun z => by rcases List.mem_cons.mp z with z | z <;> contradiction)]
theorem g101 (h : HI) : ∃ g, gX9_101 h = some g ∧ Fr (fun a _ => 101 ≤ a) h g ∧ (∀ a b, 102 ≤ a → a ≤ 154 → g.1 a b = 0) ∧ ∀ b, g.1 101 b = if b = 3 then -1 else h.1 101 b := by
  refine ⟨[103, 104, 105, 106, 107, 108, 109, 110, 111, 112, 113, 114, 115, 116, 117, 118, 119, 120, 121, 122, 123, 124, 125, 126, 127, 128, 129, 130, 131, 132, 133, 134, 135, 136, 137, 138, 139, 140, 141, 142, 143, 144, 145, 146, 147, 148, 149, 150, 151, 152, 153, 154].foldl zc (uI (zc h 102) 101 3 (-1)), rfl, ?_, fun a b h1 h2 => ?_, fun b => ?_⟩
  · simp only [List.foldl]
    repeat (first | exact Fr.zr (fun _ => by decide) | refine Fr.tr ?_ (Fr.zr (fun _ => by decide)) | refine Fr.tr ?_ (Fr.uI (by decide)))
  · rw [zcs_1]
    by_cases c : a = 102
    · rw [if_neg (by rw [c]; decide), uI_n (by omega), c, zc_s]
    · rw [if_pos (by simp only [List.mem_cons, List.not_mem_nil]; omega)]
  · rw [zcs_1, if_neg (by decide)]
    by_cases c : b = 3
    · rw [if_pos c, c, uI_s]
    · rw [if_neg c, uI_n (by omega), zc_n (by decide)]
theorem g32 (h : HI) : ∃ g, gX1_32 h = some g ∧ Fr (fun a _ => 32 ≤ a ∧ a ≤ 52) h g := by
  unfold gX1_32 gX2_33 gX2_35 gX2_37 gX5_50 fX5_clear
  refine ⟨_, rfl, ?_⟩
  repeat (first | exact Fr.zr (fun _ => by decide) | refine Fr.tr ?_ (Fr.zr (fun _ => by decide)) | refine Fr.tr ?_ (Fr.uI (by decide)))
theorem g11 : ∃ g, gX1_11 h00 = some g ∧ Fr (fun a _ => a = 29 ∨ a = 30) h00 g ∧ CH 11 d00 g ∧ g.1 29 2 = nI 3 ∧ ∀ i, i < 3 → g.1 30 i = nI (rdef.getD i 0) := by
  unfold gX1_11 gX2_12 gX2_14 gX2_16 gX5_29 fX5_clear
  simp only [zc0, Option.bind_some]
  have F : Fr (fun a _ => a = 29 ∨ a = 30) h00 (uI (uI (uI (uI (uI (uI h00 29 4 0) 29 3 0) (29 + 1) 0 10144) (29 + 1) 1 10145) (29 + 1) 2 10062) 29 2 3) := by
    iterate 5 refine Fr.tr ?_ (Fr.uI (by decide))
    exact Fr.uI (by decide)
  have z : ∀ a b, ¬ (a = 29 ∨ a = 30) → (uI (uI (uI (uI (uI (uI h00 29 4 0) 29 3 0) (29 + 1) 0 10144) (29 + 1) 1 10145) (29 + 1) 2 10062) 29 2 3).1 a b = 0 := fun a b h => F.1 a b h
  refine ⟨_, rfl, F, ⟨z _ _ (by decide), z _ _ (by decide), z _ _ (by decide), fun i hi => absurd hi (Nat.not_lt_zero i), fun i hi => absurd hi (Nat.not_lt_zero i), fun i hi => absurd hi (Nat.not_lt_zero i), fun i hi => absurd hi (Nat.not_lt_zero i), fun i hi => absurd hi (Nat.not_lt_zero i), fun i hi => absurd hi (Nat.not_lt_zero i), fun i hi => absurd hi (Nat.not_lt_zero i), fun i hi => absurd hi (Nat.not_lt_zero i), fun i hi => absurd hi (Nat.not_lt_zero i), fun i hi => absurd hi (Nat.not_lt_zero i), z _ _ (by decide), z _ _ (by decide), z _ _ (by decide), z _ _ (by decide), z _ _ (by decide), rfl⟩, rfl, fun i hi => ?_⟩
  rcases (show i = 0 ∨ i = 1 ∨ i = 2 by omega) with e | e | e <;> subst e <;> rfl
theorem g53 (h : HI) : ∃ g, gX4_53 (zc h 53) = some g ∧ Fr (fun a _ => a = 53 ∨ a = 54 ∨ a = 55) h g ∧ Wd g ∧ g.1 53 8 = 0 ∧ g.1 53 9 = -1 := by
  obtain ⟨gC, aC, fC, DC⟩ := c_tail (h := uI (zc (zc (zc h 53) 54) 55) 53 9 (-1)) (by rw [uI_n (by omega), zc_n (by decide), zc_s])
  have fC0 : Fr (fun a _ => a = 53 ∨ a = 54 ∨ a = 55) h (uI (zc (zc (zc h 53) 54) 55) 53 9 (-1)) := (((Fr.zr (fun _ => by decide)).tr (Fr.zr (fun _ => by decide))).tr (Fr.zr (fun _ => by decide))).tr (Fr.uI (by decide))
  unfold gX4_53 gX2_54
  rw [Option.bind_some]
  exact ⟨gC, aC, fC0.tr (fC.mono fun a b z => by omega), DC, by rw [fC.1 _ _ (by omega), uI_n (by omega), zc_n (by decide), zc_n (by decide), zc_s], by rw [fC.1 _ _ (by omega), uI_s]⟩
theorem Fr9 (o : Nat) (h : HI) (a1 a2 a3 a4 a5 a6 a7 a8 : Nat) (e : a1 = o + 1 ∧ a2 = o + 2 ∧ a3 = o + 3 ∧ a4 = o + 4 ∧ a5 = o + 5 ∧ a6 = o + 6 ∧ a7 = o + 7 ∧ a8 = o + 8) : Fr (Wc o) h (zc (zc (zc (zc (zc (zc (zc (zc (zc h o) a1) a2) a3) a4) a5) a6) a7) a8) := by
  have k : ∀ (n : Nat) (g : HI), o ≤ n ∧ n ≤ o + 8 → Fr (Wc o) g (zc g n) := fun n g hn => Fr.zr (fun _ => hn)
  exact ((((((((k _ _ (by omega)).tr (k _ _ (by omega))).tr (k _ _ (by omega))).tr (k _ _ (by omega))).tr (k _ _ (by omega))).tr (k _ _ (by omega))).tr (k _ _ (by omega))).tr (k _ _ (by omega))).tr (k _ _ (by omega))
theorem g56 {h : HI} (H : CH 11 d00 h) : ∃ g, gX6_56 (zc h 56) = some g ∧ Fr (Wc 56) h g ∧ CS 56 d00 g (s00 d00) := by
  have F0 : Fr (Wc 56) h (zc (zc (zc (zc (zc (zc (zc (zc (zc h 56) 57) 58) 59) 60) 61) 62) 63) 64) := Fr9 56 h _ _ _ _ _ _ _ _ (by decide)
  obtain ⟨g, a, f, S⟩ := c_begO (o := 56) (q := 11) (h := (zc (zc (zc (zc (zc (zc (zc (zc (zc h 56) 57) 58) 59) 60) 61) 62) 63) 64)) (by decide) (H.keep F0 (fun a b p q z => by unfold Wc at z; omega))
  unfold gX6_56
  rw [a]
  exact ⟨g, rfl, F0.tr f, S⟩
theorem g74 {h : HI} (H : CH 11 d00 h) : ∃ g, gX6_74 (zc h 74) = some g ∧ Fr (Wc 74) h g ∧ CS 74 d00 g (s00 d00) := by
  have F0 : Fr (Wc 74) h (zc (zc (zc (zc (zc (zc (zc (zc (zc h 74) 75) 76) 77) 78) 79) 80) 81) 82) := Fr9 74 h _ _ _ _ _ _ _ _ (by decide)
  obtain ⟨g, a, f, S⟩ := c_begO (o := 74) (q := 11) (h := (zc (zc (zc (zc (zc (zc (zc (zc (zc h 74) 75) 76) 77) 78) 79) 80) 81) 82)) (by decide) (H.keep F0 (fun a b p q z => by unfold Wc at z; omega))
  unfold gX6_74
  rw [a]
  exact ⟨g, rfl, F0.tr f, S⟩
theorem g83 {h : HI} (H : CH 11 d00 h) : ∃ g, gX6_83 (zc h 83) = some g ∧ Fr (Wc 83) h g ∧ CS 83 d00 g (s00 d00) := by
  have F0 : Fr (Wc 83) h (zc (zc (zc (zc (zc (zc (zc (zc (zc h 83) 84) 85) 86) 87) 88) 89) 90) 91) := Fr9 83 h _ _ _ _ _ _ _ _ (by decide)
  obtain ⟨g, a, f, S⟩ := c_begO (o := 83) (q := 11) (h := (zc (zc (zc (zc (zc (zc (zc (zc (zc h 83) 84) 85) 86) 87) 88) 89) 90) 91)) (by decide) (H.keep F0 (fun a b p q z => by unfold Wc at z; omega))
  unfold gX6_83
  rw [a]
  exact ⟨g, rfl, F0.tr f, S⟩
theorem g92 {h : HI} (H : CH 11 d00 h) : ∃ g, gX6_92 (zc h 92) = some g ∧ Fr (Wc 92) h g ∧ CS 92 d00 g (s00 d00) := by
  have F0 : Fr (Wc 92) h (zc (zc (zc (zc (zc (zc (zc (zc (zc h 92) 93) 94) 95) 96) 97) 98) 99) 100) := Fr9 92 h _ _ _ _ _ _ _ _ (by decide)
  obtain ⟨g, a, f, S⟩ := c_begO (o := 92) (q := 11) (h := (zc (zc (zc (zc (zc (zc (zc (zc (zc h 92) 93) 94) 95) 96) 97) 98) 99) 100)) (by decide) (H.keep F0 (fun a b p q z => by unfold Wc at z; omega))
  unfold gX6_92
  rw [a]
  exact ⟨g, rfl, F0.tr f, S⟩
theorem g65 (h : HI) : ∃ g, gX3_65 (zc h 65) = some g ∧ Fr (Wc 65) h g := by
  unfold gX3_65
  exact ⟨_, rfl, Fr9 65 h _ _ _ _ _ _ _ _ (by decide)⟩
