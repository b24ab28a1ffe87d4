theorem FU_5 : FU = 999995 + 5 := rfl
theorem bp_b (x : Int32) : x.toInt8.toInt32 &&& 255 = x &&& 255 := by
  apply Int32.toBitVec_inj.mp
  rw [Int32.toBitVec_and, Int32.toBitVec_and, Int8.toBitVec_toInt32, Int32.toBitVec_toInt8]
  apply BitVec.eq_of_getLsbD_eq
  intro i hi
  rw [BitVec.getLsbD_and, BitVec.getLsbD_and]
  have hm : ∀ i < 32, 8 ≤ i → (255 : Int32).toBitVec.getLsbD i = false := by decide
  rcases Nat.lt_or_ge i 8 with z | z
  · rw [BitVec.getLsbD_signExtend, BitVec.getLsbD_signExtend, if_pos z, if_pos hi]
    simp only [z, hi, decide_true, Bool.true_and]
  · rw [hm i hi z]; simp
theorem by_and (x : Int32) : vp_nar .byte (x.toInt8.toInt32) &&& 255 = x &&& 255 := by
  rw [vp_nar_byte, bp_b, bp_b]
theorem put_one {k : HI → Option HI} {n : Nat} {h : HI} {v s : Int32} {L : Nat} (hs : ¬ s < 0) (hL : h.1 1 1 = nI L) (hl : L < 1700) : fX7_put_3 1 k (n + 1) h v s = fX7_put_3 1 k n (uI (uI h 2 L (vp_nar .byte ((v >>> (s &&& 31)).toInt8.toInt32))) 1 1 (nI (L + 1))) v (s + (-8)) := by
  rw [fX7_put_3, if_neg hs, hL, if_neg (show ¬ (1700 : Int32) ≤ nI L from nI_ge (b := 1700) hl (by decide)), if_pos (show inB (nI L) 1700 from ⟨nI_pos (by omega), by rw [nI_clamp (by omega)]; exact hl⟩)]
  unfold fX7_put_40
  rw [nI_clamp (by omega), nI_1]
theorem four_one {k : HI → Option HI} {n : Nat} {h : HI} {v s : Int32} {L : Nat} (hs : ¬ s < 0) (hL : h.1 101 1 = nI L) (hl : L < 1700) : fX9_four_3 101 k (n + 1) h v s = fX9_four_3 101 k n (uI (uI h 102 L ((v >>> (s &&& 31)) &&& 255)) 101 1 (nI (L + 1))) v (s + (-8)) := by
  rw [fX9_four_3, if_neg hs, hL, if_pos (show inB (nI L) 1700 from ⟨nI_pos (by omega), by rw [nI_clamp (by omega)]; exact hl⟩), nI_clamp (by omega), nI_1]
/-- the j-th byte of a number -/
def bb (v : Int32) : Nat → Int32
  | 0 => (v >>> ((24 : Int32) &&& 31)) &&& 255
  | 1 => (v >>> ((16 : Int32) &&& 31)) &&& 255
  | 2 => (v >>> ((8 : Int32) &&& 31)) &&& 255
  | _ => (v >>> ((0 : Int32) &&& 31)) &&& 255
def T1W (a b : Nat) : Prop := a = 1 ∧ b = 1 ∨ a = 2
def T9W (a b : Nat) : Prop := a = 101 ∧ b = 1 ∨ a = 102
theorem put_four {h : HI} {v : Int32} {L : Nat} (hL : h.1 1 1 = nI L) (hl : L + 4 ≤ 1700) : ∃ h2 : HI, fX7_put 1 h v = some h2 ∧ h2.1 1 1 = nI (L + 4) ∧ (∀ k, k < L → h2.1 2 k = h.1 2 k) ∧ (∀ j, j < 4 → h2.1 2 (L + j) &&& 255 = bb v j) ∧ Fr T1W h h2 := by
  unfold fX7_put
  rw [FU_5, put_one (by decide) hL (by omega), show (24 : Int32) + (-8) = 16 from by decide, put_one (L := L + 1) (by decide) (uI_s _ _ _ _) (by omega), show (16 : Int32) + (-8) = 8 from by decide, put_one (L := L + 2) (by decide) (uI_s _ _ _ _) (by omega), show (8 : Int32) + (-8) = 0 from by decide, put_one (L := L + 3) (by decide) (uI_s _ _ _ _) (by omega), show (0 : Int32) + (-8) = -8 from by decide, fX7_put_3, if_pos (by decide)]
  refine ⟨_, rfl, uI_s _ _ _ _, fun k hk => ?_, fun j hj => ?_, ?_⟩
  · rw [uI_n (by omega), uI_n (by omega), uI_n (by omega), uI_n (by omega), uI_n (by omega), uI_n (by omega), uI_n (by omega), uI_n (by omega)]
  · rcases (show j = 0 ∨ j = 1 ∨ j = 2 ∨ j = 3 by omega) with rfl | rfl | rfl | rfl
    · rw [uI_n (by omega), uI_n (by omega), uI_n (by omega), uI_n (by omega), uI_n (by omega), uI_n (by omega), uI_n (by omega), Nat.add_zero, uI_s, by_and]; rfl
    · rw [uI_n (by omega), uI_n (by omega), uI_n (by omega), uI_n (by omega), uI_n (by omega), uI_s, by_and]; rfl
    · rw [uI_n (by omega), uI_n (by omega), uI_n (by omega), uI_s, by_and]; rfl
    · rw [uI_n (by omega), uI_s, by_and]; rfl
  · have w1 : T1W 1 1 := Or.inl ⟨rfl, rfl⟩
    have w2 : ∀ b, T1W 2 b := fun b => Or.inr rfl
    exact ((((((((Fr.uI (w2 _)).tr (Fr.uI w1)).tr (Fr.uI (w2 _))).tr (Fr.uI w1)).tr (Fr.uI (w2 _))).tr (Fr.uI w1)).tr (Fr.uI (w2 _))).tr (Fr.uI w1))
theorem four_four {h : HI} {v : Int32} {L : Nat} (hL : h.1 101 1 = nI L) (hl : L + 4 ≤ 1700) : ∃ h2 : HI, fX9_four 101 h v = some h2 ∧ h2.1 101 1 = nI (L + 4) ∧ (∀ k, k < L → h2.1 102 k = h.1 102 k) ∧ (∀ j, j < 4 → h2.1 102 (L + j) = bb v j) ∧ Fr T9W h h2 := by
  unfold fX9_four
  rw [FU_5, four_one (by decide) hL (by omega), show (24 : Int32) + (-8) = 16 from by decide, four_one (L := L + 1) (by decide) (uI_s _ _ _ _) (by omega), show (16 : Int32) + (-8) = 8 from by decide, four_one (L := L + 2) (by decide) (uI_s _ _ _ _) (by omega), show (8 : Int32) + (-8) = 0 from by decide, four_one (L := L + 3) (by decide) (uI_s _ _ _ _) (by omega), show (0 : Int32) + (-8) = -8 from by decide, fX9_four_3, if_pos (by decide)]
  refine ⟨_, rfl, uI_s _ _ _ _, fun k hk => ?_, fun j hj => ?_, ?_⟩
  · rw [uI_n (by omega), uI_n (by omega), uI_n (by omega), uI_n (by omega), uI_n (by omega), uI_n (by omega), uI_n (by omega), uI_n (by omega)]
  · rcases (show j = 0 ∨ j = 1 ∨ j = 2 ∨ j = 3 by omega) with rfl | rfl | rfl | rfl
    · rw [uI_n (by omega), uI_n (by omega), uI_n (by omega), uI_n (by omega), uI_n (by omega), uI_n (by omega), uI_n (by omega), Nat.add_zero, uI_s]; rfl
    · rw [uI_n (by omega), uI_n (by omega), uI_n (by omega), uI_n (by omega), uI_n (by omega), uI_s]; rfl
    · rw [uI_n (by omega), uI_n (by omega), uI_n (by omega), uI_s]; rfl
    · rw [uI_n (by omega), uI_s]; rfl
  · have w1 : T9W 101 1 := Or.inl ⟨rfl, rfl⟩
    have w2 : ∀ b, T9W 102 b := fun b => Or.inr rfl
    exact ((((((((Fr.uI (w2 _)).tr (Fr.uI w1)).tr (Fr.uI (w2 _))).tr (Fr.uI w1)).tr (Fr.uI (w2 _))).tr (Fr.uI w1)).tr (Fr.uI (w2 _))).tr (Fr.uI w1))
theorem bb_lt (v : Int32) (j : Nat) : ∃ y : Nat, y < 256 ∧ bb v j = nI y := by
  unfold bb
  split <;> exact pk_andE _ (m := (255 : Int32)) 8 (by decide)
/-- feed(a, b, c, d, e) -/
theorem op_feed {h : HI} (hT : Tp h) (a1 a2 a3 a4 a5 : Int32) : ∃ (w : Int32) (h1 h2 : HI), fX8_feed 0 h a1 a2 a3 a4 a5 = some (w, h1) ∧ fX9_feed 101 h1 a1 a2 a3 a4 a5 = some (w, h2) ∧ Tp h2 ∧ Fr TpW h h2 := by
  obtain ⟨n, hn, e1, e2, e3, e4⟩ := hT
  unfold fX8_feed fX7_hasRoomForFive fX9_feed
  have e0 : h.1 (0 + 1) 1 = nI n := e1
  have e20 : nI n + (20 : Int32) = nI (n + 20) := nI_add n 20
  by_cases c : n + 20 ≤ 1700
  · rw [e0, e20, if_neg (show ¬ (1700 : Int32) < nI (n + 20) from nI_nlt (a := 1700) (b := n + 20) c (by decide))]
    simp only [Option.bind_some]
    rw [if_neg (by decide)]
    obtain ⟨g1, p1, l1, o1, b1, f1⟩ := put_four (v := a1) e1 (by omega)
    obtain ⟨g2, p2, l2, o2, b2, f2⟩ := put_four (v := a2) l1 (by omega)
    obtain ⟨g3, p3, l3, o3, b3, f3⟩ := put_four (v := a3) l2 (by omega)
    obtain ⟨g4, p4, l4, o4, b4, f4⟩ := put_four (v := a4) l3 (by omega)
    obtain ⟨g5, p5, l5, o5, b5, f5⟩ := put_four (v := a5) l4 (by omega)
    have F := (((f1.tr f2).tr f3).tr f4).tr f5
    have m0 : g5.1 101 1 = nI n := by rw [F.1 101 1 (by unfold T1W; omega)]; exact e2
    obtain ⟨k1, q1, r1, s1, t1, u1⟩ := four_four (v := a1) m0 (by omega)
    obtain ⟨k2, q2, r2, s2, t2, u2⟩ := four_four (v := a2) r1 (by omega)
    obtain ⟨k3, q3, r3, s3, t3, u3⟩ := four_four (v := a3) r2 (by omega)
    obtain ⟨k4, q4, r4, s4, t4, u4⟩ := four_four (v := a4) r3 (by omega)
    obtain ⟨k5, q5, r5, s5, t5, u5⟩ := four_four (v := a5) r4 (by omega)
    have G := (((u1.tr u2).tr u3).tr u4).tr u5
    refine ⟨nI (n + 20), g5, k5, ?_, ?_, ⟨n + 20, c, ?_, ?_, ?_, ?_⟩, ?_⟩
    · rw [show (0 + 1) = 1 from rfl, p1]
      simp only [Option.bind_some]
      rw [p2]
      simp only [Option.bind_some]
      rw [p3]
      simp only [Option.bind_some]
      rw [p4]
      simp only [Option.bind_some]
      rw [p5]
      simp only [Option.bind_some]
      rw [l5]
    · rw [m0, e20, if_pos (show nI (n + 20) ≤ (1700 : Int32) from nI_le (b := 1700) c (by decide)), q1]
      simp only [Option.bind_some]
      rw [q2]
      simp only [Option.bind_some]
      rw [q3]
      simp only [Option.bind_some]
      rw [q4]
      simp only [Option.bind_some]
      rw [q5]
      simp only [Option.bind_some]
      rw [r5]
    · rw [G.1 1 1 (by unfold T9W; omega), l5]
    · rw [r5]
    · intro k hk
      have hc : ∀ j, k5.1 2 j = g5.1 2 j := fun j => G.1 2 j (by unfold T9W; omega)
      rw [hc]
      rcases (show k < n ∨ (∃ j, j < 4 ∧ k = n + j) ∨ (∃ j, j < 4 ∧ k = n + 4 + j) ∨ (∃ j, j < 4 ∧ k = n + 4 + 4 + j) ∨ (∃ j, j < 4 ∧ k = n + 4 + 4 + 4 + j) ∨ ∃ j, j < 4 ∧ k = n + 4 + 4 + 4 + 4 + j by
        rcases (show k < n ∨ k - n < 4 ∨ k - (n + 4) < 4 ∧ n + 4 ≤ k ∨ k - (n + 8) < 4 ∧ n + 8 ≤ k ∨ k - (n + 12) < 4 ∧ n + 12 ≤ k ∨ n + 16 ≤ k by omega) with z | z | z | z | z | z
        · exact Or.inl z
        · rcases Nat.lt_or_ge k n with y | y
          · exact Or.inl y
          · exact Or.inr (Or.inl ⟨k - n, z, by omega⟩)
        · exact Or.inr (Or.inr (Or.inl ⟨k - (n + 4), z.1, by omega⟩))
        · exact Or.inr (Or.inr (Or.inr (Or.inl ⟨k - (n + 8), z.1, by omega⟩)))
        · exact Or.inr (Or.inr (Or.inr (Or.inr (Or.inl ⟨k - (n + 12), z.1, by omega⟩))))
        · exact Or.inr (Or.inr (Or.inr (Or.inr (Or.inr ⟨k - (n + 16), by omega, by omega⟩))))) with z | ⟨j, hj, rfl⟩ | ⟨j, hj, rfl⟩ | ⟨j, hj, rfl⟩ | ⟨j, hj, rfl⟩ | ⟨j, hj, rfl⟩
      · rw [o5 k (by omega), o4 k (by omega), o3 k (by omega), o2 k (by omega), o1 k (by omega), s5 k (by omega), s4 k (by omega), s3 k (by omega), s2 k (by omega), s1 k (by omega), F.1 102 k (by unfold T1W; omega)]
        exact e3 k z
      · rw [o5 _ (by omega), o4 _ (by omega), o3 _ (by omega), o2 _ (by omega), b1 j hj, s5 _ (by omega), s4 _ (by omega), s3 _ (by omega), s2 _ (by omega), t1 j hj]
      · rw [o5 _ (by omega), o4 _ (by omega), o3 _ (by omega), b2 j hj, s5 _ (by omega), s4 _ (by omega), s3 _ (by omega), t2 j hj]
      · rw [o5 _ (by omega), o4 _ (by omega), b3 j hj, s5 _ (by omega), s4 _ (by omega), t3 j hj]
      · rw [o5 _ (by omega), b4 j hj, s5 _ (by omega), t4 j hj]
      · rw [b5 j hj, t5 j hj]
    · intro k hk
      rcases (show k < n ∨ (∃ j, j < 4 ∧ k = n + j) ∨ (∃ j, j < 4 ∧ k = n + 4 + j) ∨ (∃ j, j < 4 ∧ k = n + 4 + 4 + j) ∨ (∃ j, j < 4 ∧ k = n + 4 + 4 + 4 + j) ∨ ∃ j, j < 4 ∧ k = n + 4 + 4 + 4 + 4 + j by
        rcases (show k < n ∨ k - n < 4 ∨ k - (n + 4) < 4 ∧ n + 4 ≤ k ∨ k - (n + 8) < 4 ∧ n + 8 ≤ k ∨ k - (n + 12) < 4 ∧ n + 12 ≤ k ∨ n + 16 ≤ k by omega) with z | z | z | z | z | z
        · exact Or.inl z
        · rcases Nat.lt_or_ge k n with y | y
          · exact Or.inl y
          · exact Or.inr (Or.inl ⟨k - n, z, by omega⟩)
        · exact Or.inr (Or.inr (Or.inl ⟨k - (n + 4), z.1, by omega⟩))
        · exact Or.inr (Or.inr (Or.inr (Or.inl ⟨k - (n + 8), z.1, by omega⟩)))
        · exact Or.inr (Or.inr (Or.inr (Or.inr (Or.inl ⟨k - (n + 12), z.1, by omega⟩))))
        · exact Or.inr (Or.inr (Or.inr (Or.inr (Or.inr ⟨k - (n + 16), by omega, by omega⟩))))) with z | ⟨j, hj, rfl⟩ | ⟨j, hj, rfl⟩ | ⟨j, hj, rfl⟩ | ⟨j, hj, rfl⟩ | ⟨j, hj, rfl⟩
      · rw [s5 k (by omega), s4 k (by omega), s3 k (by omega), s2 k (by omega), s1 k (by omega), F.1 102 k (by unfold T1W; omega)]
        exact e4 k z
      · rw [s5 _ (by omega), s4 _ (by omega), s3 _ (by omega), s2 _ (by omega), t1 j hj]; exact bb_lt _ _
      · rw [s5 _ (by omega), s4 _ (by omega), s3 _ (by omega), t2 j hj]; exact bb_lt _ _
      · rw [s5 _ (by omega), s4 _ (by omega), t3 j hj]; exact bb_lt _ _
      · rw [s5 _ (by omega), t4 j hj]; exact bb_lt _ _
      · rw [t5 j hj]; exact bb_lt _ _
    · exact (F.mono (fun x y w => by unfold T1W at w; unfold TpW; omega)).tr (G.mono (fun x y w => by unfold T9W at w; unfold TpW; omega))
  · have hgt : (1700 : Int32) < nI (n + 20) := nI_lt (a := 1700) (b := n + 20) (by omega) (by omega)
    rw [e0, e20, if_pos hgt]
    simp only [Option.bind_some]
    rw [if_pos trivial]
    refine ⟨_, _, h, rfl, ?_, ⟨n, hn, e1, e2, e3, e4⟩, Fr.rf⟩
    rw [e2, e20, if_neg (show ¬ nI (n + 20) ≤ (1700 : Int32) from nI_ge (a := 1700) (b := n + 20) (by omega) (by omega))]
