/-! sets as bits: bs P n has the bits i < n with P i -/
def bs (P : Nat → Bool) : Nat → Nat
  | 0 => 0
  | n + 1 => bs P n + (if P n then 2 ^ n else 0)
theorem bs_lt (P : Nat → Bool) : ∀ n, bs P n < 2 ^ n
  | 0 => Nat.zero_lt_one
  | n + 1 => by
    have ih := bs_lt P n
    rw [bs, Nat.pow_succ]
    split <;> omega
theorem bs_cong {P Q : Nat → Bool} : ∀ {n : Nat}, (∀ i, i < n → P i = Q i) → bs P n = bs Q n
  | 0, _ => rfl
  | n + 1, h => by rw [bs, bs, bs_cong (fun i hi => h i (by omega)), h n (by omega)]
theorem bs_bit (P : Nat → Bool) : ∀ n i, (bs P n).testBit i = (decide (i < n) && P i)
  | 0, i => by simp [bs]
  | n + 1, i => by
    have ih := bs_bit P n
    have hl := bs_lt P n
    rw [bs]
    by_cases hp : P n = true
    · rw [if_pos hp]
      by_cases hi : i = n
      · subst hi
        rw [Nat.add_comm, Nat.testBit_two_pow_add_eq, ih i]
        simp [hp]
      · rcases Nat.lt_or_ge i n with q | q
        · rw [Nat.add_comm, Nat.testBit_two_pow_add_gt q, ih i]
          simp [q, show i < n + 1 by omega]
        · rw [Nat.testBit_lt_two_pow (by have h2 : 2 ^ (n + 1) ≤ 2 ^ i := Nat.pow_le_pow_right (by decide) (by omega); have h3 : 2 ^ (n + 1) = 2 ^ n * 2 := Nat.pow_succ 2 n; omega)]
          simp [show ¬ i < n + 1 by omega]
    · rw [if_neg hp, Nat.add_zero, ih i]
      by_cases hi : i = n
      · subst hi
        simp [hp]
      · rcases Nat.lt_or_ge i n with q | q
        · simp [q, show i < n + 1 by omega]
        · simp [show ¬ i < n by omega, show ¬ i < n + 1 by omega]
theorem one_shl {n : Nat} (hn : n < 31) : (1 : Int32) <<< (nI n &&& 31) = nI (2 ^ n) := by
  have h : ∀ j, j < 31 → (1 : Int32) <<< (nI j &&& 31) = nI (2 ^ j) := by decide +kernel
  exact h n hn
theorem bs_or {P : Nat → Bool} {n : Nat} (hn : n < 31) : nI (bs P n) ||| nI (2 ^ n) = nI (bs P n + 2 ^ n) := by
  have h1 : nI (bs P n) ||| nI (2 ^ n) = nI (bs P n ||| 2 ^ n) := by
    apply Int32.toBitVec_inj.mp
    show BitVec.ofNat 32 _ ||| BitVec.ofNat 32 _ = BitVec.ofNat 32 _
    rw [BitVec.ofNat_or]
  rw [h1]
  congr 1
  apply Nat.eq_of_testBit_eq
  intro i
  have hl := bs_lt P n
  rw [Nat.testBit_or, Nat.testBit_two_pow]
  rcases Nat.lt_trichotomy i n with q | q | q
  · rw [Nat.add_comm, Nat.testBit_two_pow_add_gt q]
    simp [show ¬ n = i by omega]
  · subst q
    rw [Nat.add_comm, Nat.testBit_two_pow_add_eq, bs_bit]
    simp
  · rw [Nat.testBit_lt_two_pow (show bs P n + 2 ^ n < 2 ^ i by have h2 : 2 ^ (n + 1) ≤ 2 ^ i := Nat.pow_le_pow_right (by decide) (by omega); have h3 : 2 ^ (n + 1) = 2 ^ n * 2 := Nat.pow_succ 2 n; omega), Nat.testBit_lt_two_pow (show bs P n < 2 ^ i by have h2 : 2 ^ n ≤ 2 ^ i := Nat.pow_le_pow_right (by decide) (by omega); omega)]
    simp [show ¬ n = i by omega]
theorem FU_ge {n : Nat} (h : n ≤ 999999) : ∃ F, FU = F + (n + 1) := ⟨FU - (n + 1), by unfold FU; omega⟩
theorem inB_n {i n : Nat} (h : i < n) (hn : n ≤ 1000000) : inB (nI i) n := ⟨nI_pos (by omega), by rw [nI_clamp (by omega)]; exact h⟩
/-- who sits on a chair: the class -/
theorem sitters_loop {o hh N : Nat} {k : HI → Int32 → Option (Int32 × HI)} {h : HI} {v : Int32} (hN : h.1 (hh + 3) 1 = nI N) (h6 : N ≤ 6) : ∀ (d i F : Nat), i + d = N → fX6_sitters_4 o hh k (F + (d + 1)) h v (nI (bs (fun m => decide (h.1 (o + 1) m = v)) i)) (nI i) = k h (nI (bs (fun m => decide (h.1 (o + 1) m = v)) N)) := by
  intro d
  induction d with
  | zero =>
    intro i F hi
    rw [show F + (0 + 1) = F + 1 from rfl, fX6_sitters_4, hN, if_pos (nI_le (by omega) (by omega)), show i = N by omega]
  | succ d ih =>
    intro i F hi
    rw [show F + (d + 1 + 1) = (F + (d + 1)) + 1 from rfl, fX6_sitters_4, hN, if_neg (nI_ge (by omega) (by omega)), if_pos (inB_n (by omega) (by omega)), nI_clamp (by omega)]
    unfold fX6_sitters_34
    have hb := ih (i + 1) F (by omega)
    rw [← hb, nI_1]
    by_cases hc : h.1 (o + 1) i = v
    · rw [if_pos hc, one_shl (by omega), bs_or (by omega)]
      congr 1
      rw [bs, if_pos (by simp [hc])]
    · rw [if_neg hc]
      congr 1
      rw [bs, if_neg (by simp [hc])]
      rfl
theorem f_sitters {o hh N : Nat} {h : HI} (v : Int32) (hN : h.1 (hh + 3) 1 = nI N) (h6 : N ≤ 6) : fX6_sitters o hh h v = some (nI (bs (fun m => decide (h.1 (o + 1) m = v)) N), h) := by
  unfold fX6_sitters
  obtain ⟨F, hF⟩ := FU_ge (n := N) (by omega)
  rw [hF]
  exact sitters_loop (o := o) (hh := hh) (k := fun h2 v2 => some (v2, h2)) hN h6 N 0 F (by omega)
/-- who sits on a chair: the reference -/
theorem on_loop {m N : Nat} {k : HI → Int32 → Option (Int32 × HI)} {h : HI} {v : Int32} (hN : h.1 (m + 11) 1 = nI N) (h6 : N ≤ 6) : ∀ (d i F : Nat), i + d = N → fX9_on_4 m k (F + (d + 1)) h v (nI (bs (fun j => decide (h.1 (m + 27) j = v)) i)) (nI i) = k h (nI (bs (fun j => decide (h.1 (m + 27) j = v)) N)) := by
  intro d
  induction d with
  | zero =>
    intro i F hi
    rw [show F + (0 + 1) = F + 1 from rfl, fX9_on_4, fX9_men]
    simp only [Option.bind_some]
    rw [hN, if_pos (nI_le (by omega) (by omega)), show i = N by omega]
  | succ d ih =>
    intro i F hi
    rw [show F + (d + 1 + 1) = (F + (d + 1)) + 1 from rfl, fX9_on_4, fX9_men]
    simp only [Option.bind_some]
    rw [hN, if_neg (nI_ge (by omega) (by omega)), if_pos (inB_n (by omega) (by omega)), nI_clamp (by omega)]
    unfold fX9_on_30
    have hb := ih (i + 1) F (by omega)
    rw [← hb, nI_1]
    by_cases hc : h.1 (m + 27) i = v
    · rw [if_pos hc, one_shl (by omega), bs_or (by omega)]
      congr 1
      rw [bs, if_pos (by simp [hc])]
    · rw [if_neg hc]
      congr 1
      rw [bs, if_neg (by simp [hc]), Nat.add_zero]
      exact Int32.or_zero
theorem f_on {m N : Nat} {h : HI} (v : Int32) (hN : h.1 (m + 11) 1 = nI N) (h6 : N ≤ 6) : fX9_on m h v = some (nI (bs (fun j => decide (h.1 (m + 27) j = v)) N), h) := by
  unfold fX9_on
  obtain ⟨F, hF⟩ := FU_ge (n := N) (by omega)
  rw [hF]
  exact on_loop (m := m) (k := fun h2 v2 => some (v2, h2)) hN h6 N 0 F (by omega)
