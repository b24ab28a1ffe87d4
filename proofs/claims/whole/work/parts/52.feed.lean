theorem FU_5 : FU = 999995 + 5 := rfl
theorem bp_b (x : Int32) : x.toInt8.toInt32 &&& 255 = x &&& 255 := by
  apply Int32.toBitVec_inj.mp
  rw [Int32.toBitVec_and, Int32.toBitVec_and, Int8.toBitVec_toInt32, Int32.toBitVec_toInt8]
  apply BitVec.eq_of_getLsbD_eq
  intro i hi
  rw [BitVec.getLsbD_and, BitVec.getLsbD_and]
  have hm : ∀ i < 32, 8 ≤ i → (255 : Int32).toBitVec.getLsbD i = false := by decide
  rcases Nat.lt_or_ge i 8 with z | z
  · rw [BitVec.getLsbD_signExtend, BitVec.getLsbD_signExtend, if_pos z, if_pos hi]
    simp only [z, hi, decide_true, Bool.true_and]
  · rw [hm i hi z]; simp
theorem by_and (x : Int32) : vp_nar .byte (x.toInt8.toInt32) &&& 255 = x &&& 255 := by
  rw [vp_nar_byte, bp_b, bp_b]
theorem put_one {k : HI → Option HI} {n : Nat} {h : HI} {v s : Int32} {L : Nat} (hs : ¬ s < 0) (hL : h.1 1 1 = nI L) (hl : L < 1700) : fX7_put_3 1 k (n + 1) h v s = fX7_put_3 1 k n (uI (uI h 2 L (vp_nar .byte ((v >>> (s &&& 31)).toInt8.toInt32))) 1 1 (nI (L + 1))) v (s + (-8)) := by
  rw [fX7_put_3, if_neg hs, hL, if_neg (show ¬ (1700 : Int32) ≤ nI L from nI_ge (b := 1700) hl (by decide)), if_pos (show inB (nI L) 1700 from ⟨nI_pos (by omega), by rw [nI_clamp (by omega)]; exact hl⟩)]
  unfold fX7_put_40
  rw [nI_clamp (by omega), uI_n (by omega), hL, nI_1]
theorem four_one {k : HI → Option HI} {n : Nat} {h : HI} {v s : Int32} {L : Nat} (hs : ¬ s < 0) (hL : h.1 101 1 = nI L) (hl : L < 1700) : fX9_four_3 101 k (n + 1) h v s = fX9_four_3 101 k n (uI (uI h 102 L ((v >>> (s &&& 31)) &&& 255)) 101 1 (nI (L + 1))) v (s + (-8)) := by
  rw [fX9_four_3, if_neg hs, hL, if_pos (show inB (nI L) 1700 from ⟨nI_pos (by omega), by rw [nI_clamp (by omega)]; exact hl⟩), nI_clamp (by omega), uI_n (by omega), hL, nI_1]
/-- the j-th byte of a number -/
def bb (v : Int32) : Nat → Int32
  | 0 => (v >>> ((24 : Int32) &&& 31)) &&& 255
  | 1 => (v >>> ((16 : Int32) &&& 31)) &&& 255
  | 2 => (v >>> ((8 : Int32) &&& 31)) &&& 255
  | _ => (v >>> ((0 : Int32) &&& 31)) &&& 255
def T1W (a b : Nat) : Prop := a = 1 ∧ b = 1 ∨ a = 2
def T9W (a b : Nat) : Prop := a = 101 ∧ b = 1 ∨ a = 102
theorem put_four {h : HI} {v : Int32} {L : Nat} (hL : h.1 1 1 = nI L) (hl : L + 4 ≤ 1700) : ∃ h2 : HI, fX7_put 1 h v = some h2 ∧ h2.1 1 1 = nI (L + 4) ∧ (∀ k, k < L → h2.1 2 k = h.1 2 k) ∧ (∀ j, j < 4 → h2.1 2 (L + j) &&& 255 = bb v j) ∧ Fr T1W h h2 := by
  unfold fX7_put
  rw [FU_5, put_one (by decide) hL (by omega), show (24 : Int32) + (-8) = 16 from by decide, put_one (L := L + 1) (by decide) (uI_s _ _ _ _) (by omega), show (16 : Int32) + (-8) = 8 from by decide, put_one (L := L + 2) (by decide) (uI_s _ _ _ _) (by omega), show (8 : Int32) + (-8) = 0 from by decide, put_one (L := L + 3) (by decide) (uI_s _ _ _ _) (by omega), show (0 : Int32) + (-8) = -8 from by decide, fX7_put_3, if_pos (by decide)]
  refine ⟨_, rfl, uI_s _ _ _ _, fun k hk => ?_, fun j hj => ?_, ?_⟩
  · rw [uI_n (by omega), uI_n (by omega), uI_n (by omega), uI_n (by omega), uI_n (by omega), uI_n (by omega), uI_n (by omega), uI_n (by omega)]
  · rcases (show j = 0 ∨ j = 1 ∨ j = 2 ∨ j = 3 by omega) with rfl | rfl | rfl | rfl
    · rw [uI_n (by omega), uI_n (by omega), uI_n (by omega), uI_n (by omega), uI_n (by omega), uI_n (by omega), uI_n (by omega), Nat.add_zero, uI_s, by_and]; rfl
    · rw [uI_n (by omega), uI_n (by omega), uI_n (by omega), uI_n (by omega), uI_n (by omega), uI_s, by_and]; rfl
    · rw [uI_n (by omega), uI_n (by omega), uI_n (by omega), uI_s, by_and]; rfl
    · rw [uI_n (by omega), uI_s, by_and]; rfl
  · have w1 : T1W 1 1 := Or.inl ⟨rfl, rfl⟩
    have w2 : ∀ b, T1W 2 b := fun b => Or.inr rfl
    exact ((((((((Fr.uI (w2 _)).tr (Fr.uI w1)).tr (Fr.uI (w2 _))).tr (Fr.uI w1)).tr (Fr.uI (w2 _))).tr (Fr.uI w1)).tr (Fr.uI (w2 _))).tr (Fr.uI w1))
theorem four_four {h : HI} {v : Int32} {L : Nat} (hL : h.1 101 1 = nI L) (hl : L + 4 ≤ 1700) : ∃ h2 : HI, fX9_four 101 h v = some h2 ∧ h2.1 101 1 = nI (L + 4) ∧ (∀ k, k < L → h2.1 102 k = h.1 102 k) ∧ (∀ j, j < 4 → h2.1 102 (L + j) = bb v j) ∧ Fr T9W h h2 := by
  unfold fX9_four
  rw [FU_5, four_one (by decide) hL (by omega), show (24 : Int32) + (-8) = 16 from by decide, four_one (L := L + 1) (by decide) (uI_s _ _ _ _) (by omega), show (16 : Int32) + (-8) = 8 from by decide, four_one (L := L + 2) (by decide) (uI_s _ _ _ _) (by omega), show (8 : Int32) + (-8) = 0 from by decide, four_one (L := L + 3) (by decide) (uI_s _ _ _ _) (by omega), show (0 : Int32) + (-8) = -8 from by decide, fX9_four_3, if_pos (by decide)]
  refine ⟨_, rfl, uI_s _ _ _ _, fun k hk => ?_, fun j hj => ?_, ?_⟩
  · rw [uI_n (by omega), uI_n (by omega), uI_n (by omega), uI_n (by omega), uI_n (by omega), uI_n (by omega), uI_n (by omega), uI_n (by omega)]
  · rcases (show j = 0 ∨ j = 1 ∨ j = 2 ∨ j = 3 by omega) with rfl | rfl | rfl | rfl
    · rw [uI_n (by omega), uI_n (by omega), uI_n (by omega), uI_n (by omega), uI_n (by omega), uI_n (by omega), uI_n (by omega), Nat.add_zero, uI_s]; rfl
    · rw [uI_n (by omega), uI_n (by omega), uI_n (by omega), uI_n (by omega), uI_n (by omega), uI_s]; rfl
    · rw [uI_n (by omega), uI_n (by omega), uI_n (by omega), uI_s]; rfl
    · rw [uI_n (by omega), uI_s]; rfl
  · have w1 : T9W 101 1 := Or.inl ⟨rfl, rfl⟩
    have w2 : ∀ b, T9W 102 b := fun b => Or.inr rfl
    exact ((((((((Fr.uI (w2 _)).tr (Fr.uI w1)).tr (Fr.uI (w2 _))).tr (Fr.uI w1)).tr (Fr.uI (w2 _))).tr (Fr.uI w1)).tr (Fr.uI (w2 _))).tr (Fr.uI w1))
