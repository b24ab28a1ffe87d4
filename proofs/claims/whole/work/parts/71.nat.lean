/-! ints that are small numbers: shifts, and, or -/
theorem shr_n {s k : Nat} (hs : s < 2 ^ 31) (hk : k < 32) : nI s >>> (nI k &&& 31) = nI (s / 2 ^ k) := by
  apply i32_ext
  intro i hi
  have h : ∀ k, k < 32 → ((nI k &&& 31).toBitVec.smod 32) = BitVec.ofNat 32 k := by decide +kernel
  rw [Int32.toBitVec_shiftRight, h k hk, BitVec.sshiftRight_eq', BitVec.getLsbD_sshiftRight, BitVec.toNat_ofNat, Nat.mod_eq_of_lt (show k < 2 ^ 32 by omega), nI_bit _ hi, ← Nat.shiftRight_eq_div_pow, Nat.testBit_shiftRight]
  have hm : (nI s).toBitVec.msb = false := by
    show (nI s).toBitVec.getMsbD 0 = false
    rw [BitVec.getMsbD_eq_getLsbD]
    show (decide (0 < 32) && (nI s).toBitVec.getLsbD (32 - 1 - 0)) = false
    rw [nI_bit _ (by omega), Nat.testBit_lt_two_pow (by exact hs), Bool.and_false]
  have h2 : decide (32 ≤ i) = false := decide_eq_false (by omega)
  rw [h2, Bool.not_false, Bool.true_and]
  by_cases q : k + i < 32
  · rw [if_pos q, nI_bit _ q]
  · rw [if_neg q, hm, Nat.testBit_lt_two_pow (Nat.lt_of_lt_of_le hs (Nat.pow_le_pow_right (by decide) (by omega)))]
theorem and_n (a b : Nat) : nI a &&& nI b = nI (a &&& b) := by
  apply i32_ext
  intro i hi
  rw [Int32.toBitVec_and, BitVec.getLsbD_and, nI_bit _ hi, nI_bit _ hi, nI_bit _ hi, Nat.testBit_and]
theorem or_n (a b : Nat) : nI a ||| nI b = nI (a ||| b) := by
  apply i32_ext
  intro i hi
  rw [Int32.toBitVec_or, BitVec.getLsbD_or, nI_bit _ hi, nI_bit _ hi, nI_bit _ hi, Nat.testBit_or]
theorem xor_n (a b : Nat) : nI a ^^^ nI b = nI (a ^^^ b) := by
  apply i32_ext
  intro i hi
  rw [Int32.toBitVec_xor, BitVec.getLsbD_xor, nI_bit _ hi, nI_bit _ hi, nI_bit _ hi, Nat.testBit_xor]
theorem shl_n {v k : Nat} (hk : k < 32) : nI v <<< (nI k &&& 31) = nI (v * 2 ^ k) := by
  apply i32_ext
  intro i hi
  have h : ∀ k, k < 32 → ((nI k &&& 31).toBitVec.smod 32) = BitVec.ofNat 32 k := by decide +kernel
  rw [Int32.toBitVec_shiftLeft, h k hk, BitVec.shiftLeft_eq', BitVec.getLsbD_shiftLeft, BitVec.toNat_ofNat, Nat.mod_eq_of_lt (show k < 2 ^ 32 by omega), nI_bit _ hi, ← Nat.shiftLeft_eq, Nat.testBit_shiftLeft]
  by_cases q : i < k
  · simp [hi, q, show ¬ k ≤ i by omega]
  · rw [nI_bit _ (by omega)]
    simp [hi, q, show k ≤ i by omega]
theorem andmask {a k : Nat} : a &&& (2 ^ k - 1) = a % 2 ^ k := Nat.and_two_pow_sub_one_eq_mod a k
theorem or_add {a b k : Nat} (ha : a < 2 ^ k) : a ||| b * 2 ^ k = a + b * 2 ^ k := by
  rw [Nat.or_comm, ← Nat.shiftLeft_eq, ← Nat.shiftLeft_add_eq_or_of_lt ha, Nat.add_comm]
/-! the floor: the reference's step -/
def nib (s k : Nat) : Nat := s / 16 ^ k % 16
theorem nib_n {s k : Nat} (hs : s < 2 ^ 31) (hk : k < 7) : (nI s >>> (((4 : Int32) * nI k) &&& 31)) &&& (15 : Int32) = nI (nib s k) := by
  rw [nI_m40, shr_n hs (by omega), show (15 : Int32) = nI (2 ^ 4 - 1) from rfl, and_n, andmask, Nat.pow_mul]; rfl
theorem nib_lt (s k : Nat) : nib s k < 16 := Nat.mod_lt _ (by decide)
def nv (s k i : Nat) : Nat := if i = k then nib s i + 1 else nib s i - 2
def stp (s k : Nat) : Nat → Nat
  | 0 => 0
  | c + 1 => stp s k c + nv s k c * 16 ^ c
theorem stp_lt {s k : Nat} (hk : nib s k < 15) : ∀ c, stp s k c < 16 ^ c
  | 0 => Nat.zero_lt_one
  | c + 1 => by
    have ih := stp_lt hk c
    have hv : nv s k c < 16 := by
      unfold nv
      have := nib_lt s c
      split
      · next e => rw [e]; omega
      · omega
    rw [stp, Nat.pow_succ]
    have : nv s k c * 16 ^ c ≤ 15 * 16 ^ c := Nat.mul_le_mul_right _ (by omega)
    omega
theorem nib_add {x v c i : Nat} (hx : x < 16 ^ c) (hi : i < c) : nib (x + v * 16 ^ c) i = nib x i := by
  unfold nib
  obtain ⟨e, he⟩ : ∃ e, c = i + (e + 1) := ⟨c - i - 1, by omega⟩
  subst he
  rw [show v * 16 ^ (i + (e + 1)) = 16 ^ i * (16 * (v * 16 ^ e)) by rw [Nat.pow_add, Nat.pow_succ]; simp only [Nat.mul_comm, Nat.mul_left_comm], Nat.add_mul_div_left _ _ (Nat.pow_pos (by decide)), Nat.add_mul_mod_self_left]
theorem nib_top {x v c : Nat} (hx : x < 16 ^ c) (hv : v < 16) : nib (x + v * 16 ^ c) c = v := by
  unfold nib
  rw [Nat.add_mul_div_right _ _ (Nat.pow_pos (by decide)), Nat.div_eq_of_lt hx, Nat.zero_add, Nat.mod_eq_of_lt hv]
theorem nib_stp {s k : Nat} (hk : nib s k < 15) : ∀ c i, i < c → nib (stp s k c) i = nv s k i
  | 0, i, h => absurd h (Nat.not_lt_zero i)
  | c + 1, i, h => by
    rw [stp]
    by_cases e : i = c
    · rw [e, nib_top (stp_lt hk c)]
      unfold nv
      have := nib_lt s c
      split
      · next e => rw [e]; omega
      · omega
    · rw [nib_add (stp_lt hk c) (by omega)]
      exact nib_stp hk c i (by omega)
theorem r_fstep {h : HI} {s c k : Nat} (hs : s < 4096) (hc : c ≤ 3) (hkc : k < c) (hk : nib s k < 15) : fX9_floorStep 101 h (nI s) (nI c) (nI k) = some (nI (stp s k c), h) := by
  · unfold fX9_floorStep
    obtain ⟨F, hL⟩ := lpd (fun n (p : Int32 × Int32) => fX9_floorStep_6 101 (fun h2 v4 => some (v4, h2)) n h (nI s) (nI c) (nI k) p.1 p.2) (fun j => (nI (stp s k j), nI j)) c (by omega) (by
      intro j hj n
      show fX9_floorStep_6 101 _ (n + 1) h (nI s) (nI c) (nI k) (nI (stp s k j)) (nI j) = fX9_floorStep_6 101 _ n h (nI s) (nI c) (nI k) (nI (stp s k (j + 1))) (nI (j + 1))
      have hn := nib_lt s j
      have hlt := stp_lt hk j
      have put : ∀ v : Nat, nI (stp s k j) ||| (nI v <<< (((4 : Int32) * nI j) &&& 31)) = nI (stp s k j + v * 16 ^ j) := by
        intro v
        have e16 : (16 : Nat) ^ j = 2 ^ (4 * j) := by rw [Nat.pow_mul]
        rw [nI_m40, shl_n (by omega), or_n, e16, or_add (by rw [← e16]; exact hlt)]
      rw [fX9_floorStep_6, if_neg (nI_ge hj (by omega)), nib_n (by omega) (by omega), stp]
      unfold fX9_floorStep_50 nv
      rw [nI_1, nI_1]
      by_cases q1 : j = k
      · rw [if_pos (congrArg nI q1), if_pos q1, put]
      · rw [if_neg (fun e => q1 ((nI_eq (by omega) (by omega)).mp e)), if_neg q1]
        by_cases q2 : 2 ≤ nib s j
        · have e : nI (nib s j) - (2 : Int32) = nI (nib s j - 2) := by
            have h : ∀ t, t < 16 → 2 ≤ t → nI t - (2 : Int32) = nI (t - 2) := by decide
            exact h _ hn q2
          rw [if_pos (show (2 : Int32) ≤ nI (nib s j) from nI_le (a := 2) q2 (by omega)), e, put]
        · rw [if_neg (show ¬ (2 : Int32) ≤ nI (nib s j) from nI_ge (b := 2) (by omega) (by decide)), show (0 : Int32) = nI 0 from rfl, put, show nib s j - 2 = 0 by omega])
    simp only at hL
    change fX9_floorStep_6 101 _ FU h (nI s) (nI c) (nI k) 0 0 = _ at hL
    rw [hL, fX9_floorStep_6, if_pos (nI_le (Nat.le_refl _) (by omega))]
