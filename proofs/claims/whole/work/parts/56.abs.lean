/-! bits of ints -/
theorem nI_bit (S : Nat) {i : Nat} (hi : i < 32) : (nI S).toBitVec.getLsbD i = S.testBit i := by
  show (BitVec.ofNat 32 S).getLsbD i = _
  rw [BitVec.getLsbD_ofNat]
  simp [hi]
theorem i32_ext {x y : Int32} (h : ∀ i, i < 32 → x.toBitVec.getLsbD i = y.toBitVec.getLsbD i) : x = y := by
  apply Int32.toBitVec_inj.mp
  apply BitVec.eq_of_getLsbD_eq
  exact h
theorem m1_bit {i : Nat} (hi : i < 32) : (-1 : Int32).toBitVec.getLsbD i = true := by
  have h : ∀ i, i < 32 → (-1 : Int32).toBitVec.getLsbD i = true := by decide
  exact h i hi
theorem bs_and (P Q : Nat → Bool) (n : Nat) : nI (bs P n) &&& nI (bs Q n) = nI (bs (fun i => P i && Q i) n) := by
  apply i32_ext
  intro i hi
  rw [Int32.toBitVec_and, BitVec.getLsbD_and, nI_bit _ hi, nI_bit _ hi, nI_bit _ hi, bs_bit, bs_bit, bs_bit]
  cases decide (i < n) <;> cases P i <;> cases Q i <;> rfl
theorem bs_orr (P Q : Nat → Bool) (n : Nat) : nI (bs P n) ||| nI (bs Q n) = nI (bs (fun i => P i || Q i) n) := by
  apply i32_ext
  intro i hi
  rw [Int32.toBitVec_or, BitVec.getLsbD_or, nI_bit _ hi, nI_bit _ hi, nI_bit _ hi, bs_bit, bs_bit, bs_bit]
  cases decide (i < n) <;> cases P i <;> cases Q i <;> rfl
theorem bs_andn (P Q : Nat → Bool) (n : Nat) : nI (bs P n) &&& (nI (bs Q n) ^^^ (-1 : Int32)) = nI (bs (fun i => P i && !Q i) n) := by
  apply i32_ext
  intro i hi
  rw [Int32.toBitVec_and, BitVec.getLsbD_and, Int32.toBitVec_xor, BitVec.getLsbD_xor, nI_bit _ hi, nI_bit _ hi, nI_bit _ hi, bs_bit, bs_bit, bs_bit, m1_bit hi]
  cases decide (i < n) <;> cases P i <;> cases Q i <;> rfl
theorem bs_one (P : Nat → Bool) {n c : Nat} (hc : c < n) : nI (bs P n) ||| nI (2 ^ c) = nI (bs (fun i => decide (i = c) || P i) n) := by
  apply i32_ext
  intro i hi
  rw [Int32.toBitVec_or, BitVec.getLsbD_or, nI_bit _ hi, nI_bit _ hi, nI_bit _ hi, bs_bit, bs_bit, Nat.testBit_two_pow]
  by_cases q : i = c
  · subst q; simp [hc]
  · have q2 : ¬ c = i := fun e => q e.symm
    simp [q, q2]
theorem bs_rm (P : Nat → Bool) {n c : Nat} : nI (bs P n) &&& (nI (2 ^ c) ^^^ (-1 : Int32)) = nI (bs (fun i => P i && !decide (i = c)) n) := by
  apply i32_ext
  intro i hi
  rw [Int32.toBitVec_and, BitVec.getLsbD_and, Int32.toBitVec_xor, BitVec.getLsbD_xor, nI_bit _ hi, nI_bit _ hi, nI_bit _ hi, bs_bit, bs_bit, Nat.testBit_two_pow, m1_bit hi]
  by_cases q : i = c
  · subst q; simp
  · have q2 : ¬ c = i := fun e => q e.symm
    simp [q, q2]
theorem bs_flip (P : Nat → Bool) {n c : Nat} (hc : c < n) : nI (bs P n) ^^^ nI (2 ^ c) = nI (bs (fun i => if i = c then !P i else P i) n) := by
  apply i32_ext
  intro i hi
  rw [Int32.toBitVec_xor, BitVec.getLsbD_xor, nI_bit _ hi, nI_bit _ hi, nI_bit _ hi, bs_bit, bs_bit, Nat.testBit_two_pow]
  by_cases q : i = c
  · subst q; simp [hc]
  · have q2 : ¬ c = i := fun e => q e.symm
    simp [q, q2]
theorem bs_all {n : Nat} (hn : n ≤ 6) : ((1 : Int32) <<< (nI n &&& 31)) - 1 = nI (bs (fun _ => true) n) := by
  have h : ∀ n, n ≤ 6 → ((1 : Int32) <<< (nI n &&& 31)) - 1 = nI (bs (fun _ => true) n) := by decide +kernel
  exact h n hn
theorem tb6 {S i : Nat} (hS : S < 64) (hi : i < 6) : ((nI S >>> (nI i &&& 31)) &&& 1) = if S.testBit i then (1 : Int32) else 0 := by
  have h : ∀ S, S < 64 → ∀ i, i < 6 → ((nI S >>> (nI i &&& 31)) &&& 1) = if S.testBit i then (1 : Int32) else 0 := by decide +kernel
  exact h S hS i hi
theorem bs_lt6 (P : Nat → Bool) {n : Nat} (hn : n ≤ 6) : bs P n < 64 := Nat.lt_of_lt_of_le (bs_lt P n) (Nat.pow_le_pow_right (by decide) hn)
theorem bs_tb {P : Nat → Bool} {n i : Nat} (hn : n ≤ 6) (hi : i < n) : ((nI (bs P n) >>> (nI i &&& 31)) &&& 1) = if P i then (1 : Int32) else 0 := by
  rw [tb6 (bs_lt6 P hn) (by omega), bs_bit]
  simp [hi]
theorem nI0 : nI 0 = 0 := rfl
/-! loops -/
theorem lpd {α β : Type} (L : Nat → α → β) (g : Nat → α) (N : Nat) (hN : N ≤ 999999) (hs : ∀ j, j < N → ∀ n, L (n + 1) (g j) = L n (g (j + 1))) : ∃ F, L FU (g 0) = L (F + 1) (g N) := by
  have h : ∀ j, j ≤ N → ∀ n, L (n + j) (g 0) = L n (g j) := by
    intro j
    induction j with
    | zero => intro _ n; rfl
    | succ j ih =>
      intro hj n
      rw [show n + (j + 1) = (n + 1) + j by omega, ih (by omega) (n + 1), hs j (by omega) n]
  obtain ⟨F, hF⟩ := FU_ge hN
  exact ⟨F, by rw [hF, show F + (N + 1) = (F + 1) + N by omega]; exact h N (Nat.le_refl N) (F + 1)⟩
theorem lpi {α β : Type} (L : Nat → α → β) (I : Nat → α → Prop) (N : Nat) (hN : N ≤ 999999) (hs : ∀ j s, j < N → I j s → ∃ s', I (j + 1) s' ∧ ∀ n, L (n + 1) s = L n s') {s0 : α} (h0 : I 0 s0) : ∃ F s, I N s ∧ L FU s0 = L (F + 1) s := by
  have h : ∀ j, j ≤ N → ∃ s, I j s ∧ ∀ n, L (n + j) s0 = L n s := by
    intro j
    induction j with
    | zero => intro _; exact ⟨s0, h0, fun n => rfl⟩
    | succ j ih =>
      intro hj
      obtain ⟨s, hI, hL⟩ := ih (by omega)
      obtain ⟨s', hI', hL'⟩ := hs j s (by omega) hI
      exact ⟨s', hI', fun n => by rw [show n + (j + 1) = (n + 1) + j by omega, hL (n + 1), hL' n]⟩
  obtain ⟨F, hF⟩ := FU_ge hN
  obtain ⟨s, hI, hL⟩ := h N (Nat.le_refl N)
  exact ⟨F, s, hI, by rw [hF, show F + (N + 1) = (F + 1) + N by omega]; exact hL (F + 1)⟩
/-! WHAT IS TOLD, AND HOW THE COUNCIL SITS: the state that both sides hold -/
abbrev HD : Type := (Nat) × (Nat) × (Nat) × (Nat) × (Nat → Nat) × (Nat → Nat) × (Nat → Nat) × (Nat → Bool) × (Nat → Bool) × (Nat → Nat → Int) × (Nat) × (Nat → Nat) × (Nat → Nat) × (Nat → Nat) × (Nat → Nat) × (Nat) × (Nat) × (List Nat)
def HD.C (s : HD) : Nat := s.1
def HD.M (s : HD) : Nat := s.2.1
def HD.X (s : HD) : Nat := s.2.2.1
def HD.D (s : HD) : Nat := s.2.2.2.1
def HD.ho (s : HD) : Nat → Nat := s.2.2.2.2.1
def HD.st (s : HD) : Nat → Nat := s.2.2.2.2.2.1
def HD.di (s : HD) : Nat → Nat := s.2.2.2.2.2.2.1
def HD.sl (s : HD) : Nat → Bool := s.2.2.2.2.2.2.2.1
def HD.dr (s : HD) : Nat → Bool := s.2.2.2.2.2.2.2.2.1
def HD.wi (s : HD) : Nat → Nat → Int := s.2.2.2.2.2.2.2.2.2.1
def HD.W (s : HD) : Nat := s.2.2.2.2.2.2.2.2.2.2.1
def HD.dm (s : HD) : Nat → Nat := s.2.2.2.2.2.2.2.2.2.2.2.1
def HD.dx (s : HD) : Nat → Nat := s.2.2.2.2.2.2.2.2.2.2.2.2.1
def HD.om (s : HD) : Nat → Nat := s.2.2.2.2.2.2.2.2.2.2.2.2.2.1
def HD.ox (s : HD) : Nat → Nat := s.2.2.2.2.2.2.2.2.2.2.2.2.2.2.1
def HD.np (s : HD) : Nat := s.2.2.2.2.2.2.2.2.2.2.2.2.2.2.2.1
def HD.un (s : HD) : Nat := s.2.2.2.2.2.2.2.2.2.2.2.2.2.2.2.2.1
def HD.ru (s : HD) : List Nat := s.2.2.2.2.2.2.2.2.2.2.2.2.2.2.2.2.2
def HD.w_C (s : HD) (v : Nat) : HD := (v, s.2.1, s.2.2.1, s.2.2.2.1, s.2.2.2.2.1, s.2.2.2.2.2.1, s.2.2.2.2.2.2.1, s.2.2.2.2.2.2.2.1, s.2.2.2.2.2.2.2.2.1, s.2.2.2.2.2.2.2.2.2.1, s.2.2.2.2.2.2.2.2.2.2.1, s.2.2.2.2.2.2.2.2.2.2.2.1, s.2.2.2.2.2.2.2.2.2.2.2.2.1, s.2.2.2.2.2.2.2.2.2.2.2.2.2.1, s.2.2.2.2.2.2.2.2.2.2.2.2.2.2.1, s.2.2.2.2.2.2.2.2.2.2.2.2.2.2.2.1, s.2.2.2.2.2.2.2.2.2.2.2.2.2.2.2.2.1, s.2.2.2.2.2.2.2.2.2.2.2.2.2.2.2.2.2)
def HD.w_M (s : HD) (v : Nat) : HD := (s.1, v, s.2.2.1, s.2.2.2.1, s.2.2.2.2.1, s.2.2.2.2.2.1, s.2.2.2.2.2.2.1, s.2.2.2.2.2.2.2.1, s.2.2.2.2.2.2.2.2.1, s.2.2.2.2.2.2.2.2.2.1, s.2.2.2.2.2.2.2.2.2.2.1, s.2.2.2.2.2.2.2.2.2.2.2.1, s.2.2.2.2.2.2.2.2.2.2.2.2.1, s.2.2.2.2.2.2.2.2.2.2.2.2.2.1, s.2.2.2.2.2.2.2.2.2.2.2.2.2.2.1, s.2.2.2.2.2.2.2.2.2.2.2.2.2.2.2.1, s.2.2.2.2.2.2.2.2.2.2.2.2.2.2.2.2.1, s.2.2.2.2.2.2.2.2.2.2.2.2.2.2.2.2.2)
def HD.w_X (s : HD) (v : Nat) : HD := (s.1, s.2.1, v, s.2.2.2.1, s.2.2.2.2.1, s.2.2.2.2.2.1, s.2.2.2.2.2.2.1, s.2.2.2.2.2.2.2.1, s.2.2.2.2.2.2.2.2.1, s.2.2.2.2.2.2.2.2.2.1, s.2.2.2.2.2.2.2.2.2.2.1, s.2.2.2.2.2.2.2.2.2.2.2.1, s.2.2.2.2.2.2.2.2.2.2.2.2.1, s.2.2.2.2.2.2.2.2.2.2.2.2.2.1, s.2.2.2.2.2.2.2.2.2.2.2.2.2.2.1, s.2.2.2.2.2.2.2.2.2.2.2.2.2.2.2.1, s.2.2.2.2.2.2.2.2.2.2.2.2.2.2.2.2.1, s.2.2.2.2.2.2.2.2.2.2.2.2.2.2.2.2.2)
def HD.w_D (s : HD) (v : Nat) : HD := (s.1, s.2.1, s.2.2.1, v, s.2.2.2.2.1, s.2.2.2.2.2.1, s.2.2.2.2.2.2.1, s.2.2.2.2.2.2.2.1, s.2.2.2.2.2.2.2.2.1, s.2.2.2.2.2.2.2.2.2.1, s.2.2.2.2.2.2.2.2.2.2.1, s.2.2.2.2.2.2.2.2.2.2.2.1, s.2.2.2.2.2.2.2.2.2.2.2.2.1, s.2.2.2.2.2.2.2.2.2.2.2.2.2.1, s.2.2.2.2.2.2.2.2.2.2.2.2.2.2.1, s.2.2.2.2.2.2.2.2.2.2.2.2.2.2.2.1, s.2.2.2.2.2.2.2.2.2.2.2.2.2.2.2.2.1, s.2.2.2.2.2.2.2.2.2.2.2.2.2.2.2.2.2)
def HD.w_ho (s : HD) (v : Nat → Nat) : HD := (s.1, s.2.1, s.2.2.1, s.2.2.2.1, v, s.2.2.2.2.2.1, s.2.2.2.2.2.2.1, s.2.2.2.2.2.2.2.1, s.2.2.2.2.2.2.2.2.1, s.2.2.2.2.2.2.2.2.2.1, s.2.2.2.2.2.2.2.2.2.2.1, s.2.2.2.2.2.2.2.2.2.2.2.1, s.2.2.2.2.2.2.2.2.2.2.2.2.1, s.2.2.2.2.2.2.2.2.2.2.2.2.2.1, s.2.2.2.2.2.2.2.2.2.2.2.2.2.2.1, s.2.2.2.2.2.2.2.2.2.2.2.2.2.2.2.1, s.2.2.2.2.2.2.2.2.2.2.2.2.2.2.2.2.1, s.2.2.2.2.2.2.2.2.2.2.2.2.2.2.2.2.2)
def HD.w_st (s : HD) (v : Nat → Nat) : HD := (s.1, s.2.1, s.2.2.1, s.2.2.2.1, s.2.2.2.2.1, v, s.2.2.2.2.2.2.1, s.2.2.2.2.2.2.2.1, s.2.2.2.2.2.2.2.2.1, s.2.2.2.2.2.2.2.2.2.1, s.2.2.2.2.2.2.2.2.2.2.1, s.2.2.2.2.2.2.2.2.2.2.2.1, s.2.2.2.2.2.2.2.2.2.2.2.2.1, s.2.2.2.2.2.2.2.2.2.2.2.2.2.1, s.2.2.2.2.2.2.2.2.2.2.2.2.2.2.1, s.2.2.2.2.2.2.2.2.2.2.2.2.2.2.2.1, s.2.2.2.2.2.2.2.2.2.2.2.2.2.2.2.2.1, s.2.2.2.2.2.2.2.2.2.2.2.2.2.2.2.2.2)
def HD.w_di (s : HD) (v : Nat → Nat) : HD := (s.1, s.2.1, s.2.2.1, s.2.2.2.1, s.2.2.2.2.1, s.2.2.2.2.2.1, v, s.2.2.2.2.2.2.2.1, s.2.2.2.2.2.2.2.2.1, s.2.2.2.2.2.2.2.2.2.1, s.2.2.2.2.2.2.2.2.2.2.1, s.2.2.2.2.2.2.2.2.2.2.2.1, s.2.2.2.2.2.2.2.2.2.2.2.2.1, s.2.2.2.2.2.2.2.2.2.2.2.2.2.1, s.2.2.2.2.2.2.2.2.2.2.2.2.2.2.1, s.2.2.2.2.2.2.2.2.2.2.2.2.2.2.2.1, s.2.2.2.2.2.2.2.2.2.2.2.2.2.2.2.2.1, s.2.2.2.2.2.2.2.2.2.2.2.2.2.2.2.2.2)
def HD.w_sl (s : HD) (v : Nat → Bool) : HD := (s.1, s.2.1, s.2.2.1, s.2.2.2.1, s.2.2.2.2.1, s.2.2.2.2.2.1, s.2.2.2.2.2.2.1, v, s.2.2.2.2.2.2.2.2.1, s.2.2.2.2.2.2.2.2.2.1, s.2.2.2.2.2.2.2.2.2.2.1, s.2.2.2.2.2.2.2.2.2.2.2.1, s.2.2.2.2.2.2.2.2.2.2.2.2.1, s.2.2.2.2.2.2.2.2.2.2.2.2.2.1, s.2.2.2.2.2.2.2.2.2.2.2.2.2.2.1, s.2.2.2.2.2.2.2.2.2.2.2.2.2.2.2.1, s.2.2.2.2.2.2.2.2.2.2.2.2.2.2.2.2.1, s.2.2.2.2.2.2.2.2.2.2.2.2.2.2.2.2.2)
def HD.w_dr (s : HD) (v : Nat → Bool) : HD := (s.1, s.2.1, s.2.2.1, s.2.2.2.1, s.2.2.2.2.1, s.2.2.2.2.2.1, s.2.2.2.2.2.2.1, s.2.2.2.2.2.2.2.1, v, s.2.2.2.2.2.2.2.2.2.1, s.2.2.2.2.2.2.2.2.2.2.1, s.2.2.2.2.2.2.2.2.2.2.2.1, s.2.2.2.2.2.2.2.2.2.2.2.2.1, s.2.2.2.2.2.2.2.2.2.2.2.2.2.1, s.2.2.2.2.2.2.2.2.2.2.2.2.2.2.1, s.2.2.2.2.2.2.2.2.2.2.2.2.2.2.2.1, s.2.2.2.2.2.2.2.2.2.2.2.2.2.2.2.2.1, s.2.2.2.2.2.2.2.2.2.2.2.2.2.2.2.2.2)
def HD.w_wi (s : HD) (v : Nat → Nat → Int) : HD := (s.1, s.2.1, s.2.2.1, s.2.2.2.1, s.2.2.2.2.1, s.2.2.2.2.2.1, s.2.2.2.2.2.2.1, s.2.2.2.2.2.2.2.1, s.2.2.2.2.2.2.2.2.1, v, s.2.2.2.2.2.2.2.2.2.2.1, s.2.2.2.2.2.2.2.2.2.2.2.1, s.2.2.2.2.2.2.2.2.2.2.2.2.1, s.2.2.2.2.2.2.2.2.2.2.2.2.2.1, s.2.2.2.2.2.2.2.2.2.2.2.2.2.2.1, s.2.2.2.2.2.2.2.2.2.2.2.2.2.2.2.1, s.2.2.2.2.2.2.2.2.2.2.2.2.2.2.2.2.1, s.2.2.2.2.2.2.2.2.2.2.2.2.2.2.2.2.2)
def HD.w_W (s : HD) (v : Nat) : HD := (s.1, s.2.1, s.2.2.1, s.2.2.2.1, s.2.2.2.2.1, s.2.2.2.2.2.1, s.2.2.2.2.2.2.1, s.2.2.2.2.2.2.2.1, s.2.2.2.2.2.2.2.2.1, s.2.2.2.2.2.2.2.2.2.1, v, s.2.2.2.2.2.2.2.2.2.2.2.1, s.2.2.2.2.2.2.2.2.2.2.2.2.1, s.2.2.2.2.2.2.2.2.2.2.2.2.2.1, s.2.2.2.2.2.2.2.2.2.2.2.2.2.2.1, s.2.2.2.2.2.2.2.2.2.2.2.2.2.2.2.1, s.2.2.2.2.2.2.2.2.2.2.2.2.2.2.2.2.1, s.2.2.2.2.2.2.2.2.2.2.2.2.2.2.2.2.2)
def HD.w_dm (s : HD) (v : Nat → Nat) : HD := (s.1, s.2.1, s.2.2.1, s.2.2.2.1, s.2.2.2.2.1, s.2.2.2.2.2.1, s.2.2.2.2.2.2.1, s.2.2.2.2.2.2.2.1, s.2.2.2.2.2.2.2.2.1, s.2.2.2.2.2.2.2.2.2.1, s.2.2.2.2.2.2.2.2.2.2.1, v, s.2.2.2.2.2.2.2.2.2.2.2.2.1, s.2.2.2.2.2.2.2.2.2.2.2.2.2.1, s.2.2.2.2.2.2.2.2.2.2.2.2.2.2.1, s.2.2.2.2.2.2.2.2.2.2.2.2.2.2.2.1, s.2.2.2.2.2.2.2.2.2.2.2.2.2.2.2.2.1, s.2.2.2.2.2.2.2.2.2.2.2.2.2.2.2.2.2)
def HD.w_dx (s : HD) (v : Nat → Nat) : HD := (s.1, s.2.1, s.2.2.1, s.2.2.2.1, s.2.2.2.2.1, s.2.2.2.2.2.1, s.2.2.2.2.2.2.1, s.2.2.2.2.2.2.2.1, s.2.2.2.2.2.2.2.2.1, s.2.2.2.2.2.2.2.2.2.1, s.2.2.2.2.2.2.2.2.2.2.1, s.2.2.2.2.2.2.2.2.2.2.2.1, v, s.2.2.2.2.2.2.2.2.2.2.2.2.2.1, s.2.2.2.2.2.2.2.2.2.2.2.2.2.2.1, s.2.2.2.2.2.2.2.2.2.2.2.2.2.2.2.1, s.2.2.2.2.2.2.2.2.2.2.2.2.2.2.2.2.1, s.2.2.2.2.2.2.2.2.2.2.2.2.2.2.2.2.2)
def HD.w_om (s : HD) (v : Nat → Nat) : HD := (s.1, s.2.1, s.2.2.1, s.2.2.2.1, s.2.2.2.2.1, s.2.2.2.2.2.1, s.2.2.2.2.2.2.1, s.2.2.2.2.2.2.2.1, s.2.2.2.2.2.2.2.2.1, s.2.2.2.2.2.2.2.2.2.1, s.2.2.2.2.2.2.2.2.2.2.1, s.2.2.2.2.2.2.2.2.2.2.2.1, s.2.2.2.2.2.2.2.2.2.2.2.2.1, v, s.2.2.2.2.2.2.2.2.2.2.2.2.2.2.1, s.2.2.2.2.2.2.2.2.2.2.2.2.2.2.2.1, s.2.2.2.2.2.2.2.2.2.2.2.2.2.2.2.2.1, s.2.2.2.2.2.2.2.2.2.2.2.2.2.2.2.2.2)
def HD.w_ox (s : HD) (v : Nat → Nat) : HD := (s.1, s.2.1, s.2.2.1, s.2.2.2.1, s.2.2.2.2.1, s.2.2.2.2.2.1, s.2.2.2.2.2.2.1, s.2.2.2.2.2.2.2.1, s.2.2.2.2.2.2.2.2.1, s.2.2.2.2.2.2.2.2.2.1, s.2.2.2.2.2.2.2.2.2.2.1, s.2.2.2.2.2.2.2.2.2.2.2.1, s.2.2.2.2.2.2.2.2.2.2.2.2.1, s.2.2.2.2.2.2.2.2.2.2.2.2.2.1, v, s.2.2.2.2.2.2.2.2.2.2.2.2.2.2.2.1, s.2.2.2.2.2.2.2.2.2.2.2.2.2.2.2.2.1, s.2.2.2.2.2.2.2.2.2.2.2.2.2.2.2.2.2)
def HD.w_np (s : HD) (v : Nat) : HD := (s.1, s.2.1, s.2.2.1, s.2.2.2.1, s.2.2.2.2.1, s.2.2.2.2.2.1, s.2.2.2.2.2.2.1, s.2.2.2.2.2.2.2.1, s.2.2.2.2.2.2.2.2.1, s.2.2.2.2.2.2.2.2.2.1, s.2.2.2.2.2.2.2.2.2.2.1, s.2.2.2.2.2.2.2.2.2.2.2.1, s.2.2.2.2.2.2.2.2.2.2.2.2.1, s.2.2.2.2.2.2.2.2.2.2.2.2.2.1, s.2.2.2.2.2.2.2.2.2.2.2.2.2.2.1, v, s.2.2.2.2.2.2.2.2.2.2.2.2.2.2.2.2.1, s.2.2.2.2.2.2.2.2.2.2.2.2.2.2.2.2.2)
def HD.w_un (s : HD) (v : Nat) : HD := (s.1, s.2.1, s.2.2.1, s.2.2.2.1, s.2.2.2.2.1, s.2.2.2.2.2.1, s.2.2.2.2.2.2.1, s.2.2.2.2.2.2.2.1, s.2.2.2.2.2.2.2.2.1, s.2.2.2.2.2.2.2.2.2.1, s.2.2.2.2.2.2.2.2.2.2.1, s.2.2.2.2.2.2.2.2.2.2.2.1, s.2.2.2.2.2.2.2.2.2.2.2.2.1, s.2.2.2.2.2.2.2.2.2.2.2.2.2.1, s.2.2.2.2.2.2.2.2.2.2.2.2.2.2.1, s.2.2.2.2.2.2.2.2.2.2.2.2.2.2.2.1, v, s.2.2.2.2.2.2.2.2.2.2.2.2.2.2.2.2.2)
def HD.w_ru (s : HD) (v : List Nat) : HD := (s.1, s.2.1, s.2.2.1, s.2.2.2.1, s.2.2.2.2.1, s.2.2.2.2.2.1, s.2.2.2.2.2.2.1, s.2.2.2.2.2.2.2.1, s.2.2.2.2.2.2.2.2.1, s.2.2.2.2.2.2.2.2.2.1, s.2.2.2.2.2.2.2.2.2.2.1, s.2.2.2.2.2.2.2.2.2.2.2.1, s.2.2.2.2.2.2.2.2.2.2.2.2.1, s.2.2.2.2.2.2.2.2.2.2.2.2.2.1, s.2.2.2.2.2.2.2.2.2.2.2.2.2.2.1, s.2.2.2.2.2.2.2.2.2.2.2.2.2.2.2.1, s.2.2.2.2.2.2.2.2.2.2.2.2.2.2.2.2.1, v)
abbrev SD : Type := (Nat → Int32) × (Nat → Nat) × (Nat → Int32) × (Nat → Int32) × (Nat → Nat) × (Nat → Nat) × (Nat → Bool) × (Nat → Bool) × (Nat) × (Nat) × (Int32) × (Nat → Nat → Int32) × (Nat → Nat → Int32) × (Nat → Int32) × (Nat)
def SD.wh (s : SD) : Nat → Int32 := s.1
def SD.ti (s : SD) : Nat → Nat := s.2.1
def SD.sf (s : SD) : Nat → Int32 := s.2.2.1
def SD.sp (s : SD) : Nat → Int32 := s.2.2.2.1
def SD.ss (s : SD) : Nat → Nat := s.2.2.2.2.1
def SD.de (s : SD) : Nat → Nat := s.2.2.2.2.2.1
def SD.br (s : SD) : Nat → Bool := s.2.2.2.2.2.2.1
def SD.fo (s : SD) : Nat → Bool := s.2.2.2.2.2.2.2.1
def SD.mi (s : SD) : Nat := s.2.2.2.2.2.2.2.2.1
def SD.vo (s : SD) : Nat := s.2.2.2.2.2.2.2.2.2.1
def SD.sk (s : SD) : Int32 := s.2.2.2.2.2.2.2.2.2.2.1
def SD.fa (s : SD) : Nat → Nat → Int32 := s.2.2.2.2.2.2.2.2.2.2.2.1
def SD.sr (s : SD) : Nat → Nat → Int32 := s.2.2.2.2.2.2.2.2.2.2.2.2.1
def SD.ds (s : SD) : Nat → Int32 := s.2.2.2.2.2.2.2.2.2.2.2.2.2.1
def SD.kn (s : SD) : Nat := s.2.2.2.2.2.2.2.2.2.2.2.2.2.2
def SD.w_wh (s : SD) (v : Nat → Int32) : SD := (v, s.2.1, s.2.2.1, s.2.2.2.1, s.2.2.2.2.1, s.2.2.2.2.2.1, s.2.2.2.2.2.2.1, s.2.2.2.2.2.2.2.1, s.2.2.2.2.2.2.2.2.1, s.2.2.2.2.2.2.2.2.2.1, s.2.2.2.2.2.2.2.2.2.2.1, s.2.2.2.2.2.2.2.2.2.2.2.1, s.2.2.2.2.2.2.2.2.2.2.2.2.1, s.2.2.2.2.2.2.2.2.2.2.2.2.2.1, s.2.2.2.2.2.2.2.2.2.2.2.2.2.2)
def SD.w_ti (s : SD) (v : Nat → Nat) : SD := (s.1, v, s.2.2.1, s.2.2.2.1, s.2.2.2.2.1, s.2.2.2.2.2.1, s.2.2.2.2.2.2.1, s.2.2.2.2.2.2.2.1, s.2.2.2.2.2.2.2.2.1, s.2.2.2.2.2.2.2.2.2.1, s.2.2.2.2.2.2.2.2.2.2.1, s.2.2.2.2.2.2.2.2.2.2.2.1, s.2.2.2.2.2.2.2.2.2.2.2.2.1, s.2.2.2.2.2.2.2.2.2.2.2.2.2.1, s.2.2.2.2.2.2.2.2.2.2.2.2.2.2)
def SD.w_sf (s : SD) (v : Nat → Int32) : SD := (s.1, s.2.1, v, s.2.2.2.1, s.2.2.2.2.1, s.2.2.2.2.2.1, s.2.2.2.2.2.2.1, s.2.2.2.2.2.2.2.1, s.2.2.2.2.2.2.2.2.1, s.2.2.2.2.2.2.2.2.2.1, s.2.2.2.2.2.2.2.2.2.2.1, s.2.2.2.2.2.2.2.2.2.2.2.1, s.2.2.2.2.2.2.2.2.2.2.2.2.1, s.2.2.2.2.2.2.2.2.2.2.2.2.2.1, s.2.2.2.2.2.2.2.2.2.2.2.2.2.2)
def SD.w_sp (s : SD) (v : Nat → Int32) : SD := (s.1, s.2.1, s.2.2.1, v, s.2.2.2.2.1, s.2.2.2.2.2.1, s.2.2.2.2.2.2.1, s.2.2.2.2.2.2.2.1, s.2.2.2.2.2.2.2.2.1, s.2.2.2.2.2.2.2.2.2.1, s.2.2.2.2.2.2.2.2.2.2.1, s.2.2.2.2.2.2.2.2.2.2.2.1, s.2.2.2.2.2.2.2.2.2.2.2.2.1, s.2.2.2.2.2.2.2.2.2.2.2.2.2.1, s.2.2.2.2.2.2.2.2.2.2.2.2.2.2)
def SD.w_ss (s : SD) (v : Nat → Nat) : SD := (s.1, s.2.1, s.2.2.1, s.2.2.2.1, v, s.2.2.2.2.2.1, s.2.2.2.2.2.2.1, s.2.2.2.2.2.2.2.1, s.2.2.2.2.2.2.2.2.1, s.2.2.2.2.2.2.2.2.2.1, s.2.2.2.2.2.2.2.2.2.2.1, s.2.2.2.2.2.2.2.2.2.2.2.1, s.2.2.2.2.2.2.2.2.2.2.2.2.1, s.2.2.2.2.2.2.2.2.2.2.2.2.2.1, s.2.2.2.2.2.2.2.2.2.2.2.2.2.2)
def SD.w_de (s : SD) (v : Nat → Nat) : SD := (s.1, s.2.1, s.2.2.1, s.2.2.2.1, s.2.2.2.2.1, v, s.2.2.2.2.2.2.1, s.2.2.2.2.2.2.2.1, s.2.2.2.2.2.2.2.2.1, s.2.2.2.2.2.2.2.2.2.1, s.2.2.2.2.2.2.2.2.2.2.1, s.2.2.2.2.2.2.2.2.2.2.2.1, s.2.2.2.2.2.2.2.2.2.2.2.2.1, s.2.2.2.2.2.2.2.2.2.2.2.2.2.1, s.2.2.2.2.2.2.2.2.2.2.2.2.2.2)
def SD.w_br (s : SD) (v : Nat → Bool) : SD := (s.1, s.2.1, s.2.2.1, s.2.2.2.1, s.2.2.2.2.1, s.2.2.2.2.2.1, v, s.2.2.2.2.2.2.2.1, s.2.2.2.2.2.2.2.2.1, s.2.2.2.2.2.2.2.2.2.1, s.2.2.2.2.2.2.2.2.2.2.1, s.2.2.2.2.2.2.2.2.2.2.2.1, s.2.2.2.2.2.2.2.2.2.2.2.2.1, s.2.2.2.2.2.2.2.2.2.2.2.2.2.1, s.2.2.2.2.2.2.2.2.2.2.2.2.2.2)
def SD.w_fo (s : SD) (v : Nat → Bool) : SD := (s.1, s.2.1, s.2.2.1, s.2.2.2.1, s.2.2.2.2.1, s.2.2.2.2.2.1, s.2.2.2.2.2.2.1, v, s.2.2.2.2.2.2.2.2.1, s.2.2.2.2.2.2.2.2.2.1, s.2.2.2.2.2.2.2.2.2.2.1, s.2.2.2.2.2.2.2.2.2.2.2.1, s.2.2.2.2.2.2.2.2.2.2.2.2.1, s.2.2.2.2.2.2.2.2.2.2.2.2.2.1, s.2.2.2.2.2.2.2.2.2.2.2.2.2.2)
def SD.w_mi (s : SD) (v : Nat) : SD := (s.1, s.2.1, s.2.2.1, s.2.2.2.1, s.2.2.2.2.1, s.2.2.2.2.2.1, s.2.2.2.2.2.2.1, s.2.2.2.2.2.2.2.1, v, s.2.2.2.2.2.2.2.2.2.1, s.2.2.2.2.2.2.2.2.2.2.1, s.2.2.2.2.2.2.2.2.2.2.2.1, s.2.2.2.2.2.2.2.2.2.2.2.2.1, s.2.2.2.2.2.2.2.2.2.2.2.2.2.1, s.2.2.2.2.2.2.2.2.2.2.2.2.2.2)
def SD.w_vo (s : SD) (v : Nat) : SD := (s.1, s.2.1, s.2.2.1, s.2.2.2.1, s.2.2.2.2.1, s.2.2.2.2.2.1, s.2.2.2.2.2.2.1, s.2.2.2.2.2.2.2.1, s.2.2.2.2.2.2.2.2.1, v, s.2.2.2.2.2.2.2.2.2.2.1, s.2.2.2.2.2.2.2.2.2.2.2.1, s.2.2.2.2.2.2.2.2.2.2.2.2.1, s.2.2.2.2.2.2.2.2.2.2.2.2.2.1, s.2.2.2.2.2.2.2.2.2.2.2.2.2.2)
def SD.w_sk (s : SD) (v : Int32) : SD := (s.1, s.2.1, s.2.2.1, s.2.2.2.1, s.2.2.2.2.1, s.2.2.2.2.2.1, s.2.2.2.2.2.2.1, s.2.2.2.2.2.2.2.1, s.2.2.2.2.2.2.2.2.1, s.2.2.2.2.2.2.2.2.2.1, v, s.2.2.2.2.2.2.2.2.2.2.2.1, s.2.2.2.2.2.2.2.2.2.2.2.2.1, s.2.2.2.2.2.2.2.2.2.2.2.2.2.1, s.2.2.2.2.2.2.2.2.2.2.2.2.2.2)
def SD.w_fa (s : SD) (v : Nat → Nat → Int32) : SD := (s.1, s.2.1, s.2.2.1, s.2.2.2.1, s.2.2.2.2.1, s.2.2.2.2.2.1, s.2.2.2.2.2.2.1, s.2.2.2.2.2.2.2.1, s.2.2.2.2.2.2.2.2.1, s.2.2.2.2.2.2.2.2.2.1, s.2.2.2.2.2.2.2.2.2.2.1, v, s.2.2.2.2.2.2.2.2.2.2.2.2.1, s.2.2.2.2.2.2.2.2.2.2.2.2.2.1, s.2.2.2.2.2.2.2.2.2.2.2.2.2.2)
def SD.w_sr (s : SD) (v : Nat → Nat → Int32) : SD := (s.1, s.2.1, s.2.2.1, s.2.2.2.1, s.2.2.2.2.1, s.2.2.2.2.2.1, s.2.2.2.2.2.2.1, s.2.2.2.2.2.2.2.1, s.2.2.2.2.2.2.2.2.1, s.2.2.2.2.2.2.2.2.2.1, s.2.2.2.2.2.2.2.2.2.2.1, s.2.2.2.2.2.2.2.2.2.2.2.1, v, s.2.2.2.2.2.2.2.2.2.2.2.2.2.1, s.2.2.2.2.2.2.2.2.2.2.2.2.2.2)
def SD.w_ds (s : SD) (v : Nat → Int32) : SD := (s.1, s.2.1, s.2.2.1, s.2.2.2.1, s.2.2.2.2.1, s.2.2.2.2.2.1, s.2.2.2.2.2.2.1, s.2.2.2.2.2.2.2.1, s.2.2.2.2.2.2.2.2.1, s.2.2.2.2.2.2.2.2.2.1, s.2.2.2.2.2.2.2.2.2.2.1, s.2.2.2.2.2.2.2.2.2.2.2.1, s.2.2.2.2.2.2.2.2.2.2.2.2.1, v, s.2.2.2.2.2.2.2.2.2.2.2.2.2.2)
def SD.w_kn (s : SD) (v : Nat) : SD := (s.1, s.2.1, s.2.2.1, s.2.2.2.1, s.2.2.2.2.1, s.2.2.2.2.2.1, s.2.2.2.2.2.2.1, s.2.2.2.2.2.2.2.1, s.2.2.2.2.2.2.2.2.1, s.2.2.2.2.2.2.2.2.2.1, s.2.2.2.2.2.2.2.2.2.2.1, s.2.2.2.2.2.2.2.2.2.2.2.1, s.2.2.2.2.2.2.2.2.2.2.2.2.1, s.2.2.2.2.2.2.2.2.2.2.2.2.2.1, v)
def ud {α : Type} (f : Nat → α) (m : Nat) (v : α) : Nat → α := fun i => if i = m then v else f i
theorem ud_s {α : Type} (f : Nat → α) (m : Nat) (v : α) : ud f m v m = v := if_pos rfl
theorem ud_n {α : Type} {f : Nat → α} {m i : Nat} {v : α} (h : ¬ i = m) : ud f m v i = f i := if_neg h
/-- the sum of all wishes for a matter -/
def wo (d : HD) (x : Nat) : Nat → Int
  | 0 => 0
  | n + 1 => wo d x n + d.wi n x
/-- a deal is due -/
def due (d : HD) (s : SD) (i : Nat) : Bool := decide (¬ ((s.sp (d.om i) >>> (nI (d.ox i) &&& 31)) &&& 1) = 0)
/-- a minute's row of the class: six bits a chair -/
def rw6 (f : Nat → Int32) : Nat → Int64
  | 0 => 0
  | n + 1 => if f n < 0 then rw6 f n else rw6 f n ||| ((1 : Int64) <<< (((f n * (6 : Int32)) + nI n).toInt64 &&& 63))
def b01 (b : Bool) : Int32 := if b then 1 else 0
def HDw (d : HD) : Prop := (d.C ≤ 6) ∧ (d.M ≤ 6) ∧ (d.X ≤ 4) ∧ (d.D ≤ 4) ∧ (∀ i, i < d.C → 1 ≤ d.ho i ∧ d.ho i ≤ 2) ∧ (∀ i, i < d.M → 1 ≤ d.st i ∧ d.st i ≤ 30) ∧ (∀ i, i < d.X → 1 ≤ d.di i ∧ d.di i ≤ 999) ∧ (∀ i x, -99 ≤ d.wi i x ∧ d.wi i x ≤ 99) ∧ (∀ i, i < d.D → d.dm i < d.M ∧ d.dx i < d.X ∧ d.om i < d.M ∧ d.ox i < d.X) ∧ (d.np ≤ 99)
theorem HDw.C6 {d : HD} (R : HDw d) : d.C ≤ 6 := R.1
theorem HDw.M6 {d : HD} (R : HDw d) : d.M ≤ 6 := R.2.1
theorem HDw.X4 {d : HD} (R : HDw d) : d.X ≤ 4 := R.2.2.1
theorem HDw.D4 {d : HD} (R : HDw d) : d.D ≤ 4 := R.2.2.2.1
theorem HDw.ho {d : HD} (R : HDw d) : ∀ i, i < d.C → 1 ≤ d.ho i ∧ d.ho i ≤ 2 := R.2.2.2.2.1
theorem HDw.st {d : HD} (R : HDw d) : ∀ i, i < d.M → 1 ≤ d.st i ∧ d.st i ≤ 30 := R.2.2.2.2.2.1
theorem HDw.di {d : HD} (R : HDw d) : ∀ i, i < d.X → 1 ≤ d.di i ∧ d.di i ≤ 999 := R.2.2.2.2.2.2.1
theorem HDw.wi {d : HD} (R : HDw d) : ∀ i x, -99 ≤ d.wi i x ∧ d.wi i x ≤ 99 := R.2.2.2.2.2.2.2.1
theorem HDw.dl {d : HD} (R : HDw d) : ∀ i, i < d.D → d.dm i < d.M ∧ d.dx i < d.X ∧ d.om i < d.M ∧ d.ox i < d.X := R.2.2.2.2.2.2.2.2.1
theorem HDw.np {d : HD} (R : HDw d) : d.np ≤ 99 := R.2.2.2.2.2.2.2.2.2
def SDv (d : HD) (s : SD) : Prop := (∀ i, i < d.M → s.wh i = -2 ∨ s.wh i = -1 ∨ ∃ c, c < d.C ∧ s.wh i = nI c) ∧ (∀ i, i < d.M → s.ti i ≤ d.st i) ∧ (∀ i, i < d.M → s.wh i < 0 → s.sf i = 0) ∧ (∀ x, x < 4 → s.ss x ≤ 3) ∧ (∀ i, i < 4 → s.de i ≤ 3 ∧ s.de i ≠ 1) ∧ (∀ i, i < d.D → s.de i ≠ 0 → 2 ≤ s.ss (d.dx i)) ∧ (s.vo ≤ ct (fun x => decide (2 ≤ s.ss x)) d.X) ∧ (∀ i, i < s.vo → ∀ m, m < 6 → ¬ (((s.fa i 2 >>> (nI m &&& 31)) &&& 1) = 1 ∧ ((s.fa i 3 >>> (nI m &&& 31)) &&& 1) = 1)) ∧ (∀ i, i < d.D → s.ds i = if s.de i = 0 then b01 (due d s i) else nI (s.de i)) ∧ (∀ k, k < s.kn → k < 200 → ∀ i, i < d.M → s.sr k i = -2 ∨ s.sr k i = -1 ∨ ∃ c, c < d.C ∧ s.sr k i = nI c)
theorem SDv.wh {d : HD} {s : SD} (R : SDv d s) : ∀ i, i < d.M → s.wh i = -2 ∨ s.wh i = -1 ∨ ∃ c, c < d.C ∧ s.wh i = nI c := R.1
theorem SDv.ti {d : HD} {s : SD} (R : SDv d s) : ∀ i, i < d.M → s.ti i ≤ d.st i := R.2.1
theorem SDv.sf {d : HD} {s : SD} (R : SDv d s) : ∀ i, i < d.M → s.wh i < 0 → s.sf i = 0 := R.2.2.1
theorem SDv.ss {d : HD} {s : SD} (R : SDv d s) : ∀ x, x < 4 → s.ss x ≤ 3 := R.2.2.2.1
theorem SDv.de {d : HD} {s : SD} (R : SDv d s) : ∀ i, i < 4 → s.de i ≤ 3 ∧ s.de i ≠ 1 := R.2.2.2.2.1
theorem SDv.dd {d : HD} {s : SD} (R : SDv d s) : ∀ i, i < d.D → s.de i ≠ 0 → 2 ≤ s.ss (d.dx i) := R.2.2.2.2.2.1
theorem SDv.vo {d : HD} {s : SD} (R : SDv d s) : s.vo ≤ ct (fun x => decide (2 ≤ s.ss x)) d.X := R.2.2.2.2.2.2.1
theorem SDv.fa {d : HD} {s : SD} (R : SDv d s) : ∀ i, i < s.vo → ∀ m, m < 6 → ¬ (((s.fa i 2 >>> (nI m &&& 31)) &&& 1) = 1 ∧ ((s.fa i 3 >>> (nI m &&& 31)) &&& 1) = 1) := R.2.2.2.2.2.2.2.1
theorem SDv.ds {d : HD} {s : SD} (R : SDv d s) : ∀ i, i < d.D → s.ds i = if s.de i = 0 then b01 (due d s i) else nI (s.de i) := R.2.2.2.2.2.2.2.2.1
theorem SDv.sr {d : HD} {s : SD} (R : SDv d s) : ∀ k, k < s.kn → k < 200 → ∀ i, i < d.M → s.sr k i = -2 ∨ s.sr k i = -1 ∨ ∃ c, c < d.C ∧ s.sr k i = nI c := R.2.2.2.2.2.2.2.2.2
/-- no chair holds more than it can, a broken one nobody -/
def Oc (d : HD) (s : SD) : Prop := ∀ c, c < d.C → ct (fun m => decide (s.wh m = nI c)) d.M ≤ if s.br c then 0 else d.ho c
def SDw (d : HD) (s : SD) : Prop := (SDv d s) ∧ (s.mi ≤ 10000) ∧ (s.kn = s.mi) ∧ (Oc d s)
theorem SDw.v {d : HD} {s : SD} (R : SDw d s) : SDv d s := R.1
theorem SDw.mi {d : HD} {s : SD} (R : SDw d s) : s.mi ≤ 10000 := R.2.1
theorem SDw.kn {d : HD} {s : SD} (R : SDw d s) : s.kn = s.mi := R.2.2.1
theorem SDw.oc {d : HD} {s : SD} (R : SDw d s) : Oc d s := R.2.2.2
def CH (hh : Nat) (d : HD) (h : HI) : Prop := (h.1 (hh + 1) 1 = nI d.C) ∧ (h.1 (hh + 3) 1 = nI d.M) ∧ (h.1 (hh + 5) 1 = nI d.X) ∧ (∀ i, i < d.C → h.1 (hh + 7) i = nI (d.ho i)) ∧ (∀ i, i < d.M → h.1 (hh + 8) i = nI (d.st i)) ∧ (∀ i, i < d.X → h.1 (hh + 9) i = nI (d.di i)) ∧ (∀ x, x < d.X → h.1 (hh + 10) x = Int32.ofInt (wo d x d.M)) ∧ (∀ x, x < d.X → h.1 (hh + 11) x = nI (bs (fun m => decide (0 < d.wi m x)) d.M)) ∧ (∀ x, x < d.X → h.1 (hh + 12) x = nI (bs (fun m => decide (d.wi m x < 0)) d.M)) ∧ (∀ i, i < d.D → h.1 (hh + 14) i = nI (d.dm i)) ∧ (∀ i, i < d.D → h.1 (hh + 15) i = nI (d.dx i)) ∧ (∀ i, i < d.D → h.1 (hh + 16) i = nI (d.om i)) ∧ (∀ i, i < d.D → h.1 (hh + 17) i = nI (d.ox i)) ∧ (h.1 hh 4 = nI (bs d.sl d.C)) ∧ (h.1 hh 6 = nI (bs d.dr d.M)) ∧ (h.1 hh 12 = nI d.W) ∧ (h.1 hh 17 = nI d.D) ∧ (h.1 hh 18 = nI d.np) ∧ (h.1 (hh + 18) 3 = nI d.un)
theorem CH.C {hh : Nat} {d : HD} {h : HI} (R : CH hh d h) : h.1 (hh + 1) 1 = nI d.C := R.1
theorem CH.M {hh : Nat} {d : HD} {h : HI} (R : CH hh d h) : h.1 (hh + 3) 1 = nI d.M := R.2.1
theorem CH.X {hh : Nat} {d : HD} {h : HI} (R : CH hh d h) : h.1 (hh + 5) 1 = nI d.X := R.2.2.1
theorem CH.ho {hh : Nat} {d : HD} {h : HI} (R : CH hh d h) : ∀ i, i < d.C → h.1 (hh + 7) i = nI (d.ho i) := R.2.2.2.1
theorem CH.st {hh : Nat} {d : HD} {h : HI} (R : CH hh d h) : ∀ i, i < d.M → h.1 (hh + 8) i = nI (d.st i) := R.2.2.2.2.1
theorem CH.di {hh : Nat} {d : HD} {h : HI} (R : CH hh d h) : ∀ i, i < d.X → h.1 (hh + 9) i = nI (d.di i) := R.2.2.2.2.2.1
theorem CH.wo {hh : Nat} {d : HD} {h : HI} (R : CH hh d h) : ∀ x, x < d.X → h.1 (hh + 10) x = Int32.ofInt (wo d x d.M) := R.2.2.2.2.2.2.1
theorem CH.li {hh : Nat} {d : HD} {h : HI} (R : CH hh d h) : ∀ x, x < d.X → h.1 (hh + 11) x = nI (bs (fun m => decide (0 < d.wi m x)) d.M) := R.2.2.2.2.2.2.2.1
theorem CH.dl {hh : Nat} {d : HD} {h : HI} (R : CH hh d h) : ∀ x, x < d.X → h.1 (hh + 12) x = nI (bs (fun m => decide (d.wi m x < 0)) d.M) := R.2.2.2.2.2.2.2.2.1
theorem CH.dm {hh : Nat} {d : HD} {h : HI} (R : CH hh d h) : ∀ i, i < d.D → h.1 (hh + 14) i = nI (d.dm i) := R.2.2.2.2.2.2.2.2.2.1
theorem CH.dx {hh : Nat} {d : HD} {h : HI} (R : CH hh d h) : ∀ i, i < d.D → h.1 (hh + 15) i = nI (d.dx i) := R.2.2.2.2.2.2.2.2.2.2.1
theorem CH.om {hh : Nat} {d : HD} {h : HI} (R : CH hh d h) : ∀ i, i < d.D → h.1 (hh + 16) i = nI (d.om i) := R.2.2.2.2.2.2.2.2.2.2.2.1
theorem CH.ox {hh : Nat} {d : HD} {h : HI} (R : CH hh d h) : ∀ i, i < d.D → h.1 (hh + 17) i = nI (d.ox i) := R.2.2.2.2.2.2.2.2.2.2.2.2.1
theorem CH.sl {hh : Nat} {d : HD} {h : HI} (R : CH hh d h) : h.1 hh 4 = nI (bs d.sl d.C) := R.2.2.2.2.2.2.2.2.2.2.2.2.2.1
theorem CH.dr {hh : Nat} {d : HD} {h : HI} (R : CH hh d h) : h.1 hh 6 = nI (bs d.dr d.M) := R.2.2.2.2.2.2.2.2.2.2.2.2.2.2.1
theorem CH.W {hh : Nat} {d : HD} {h : HI} (R : CH hh d h) : h.1 hh 12 = nI d.W := R.2.2.2.2.2.2.2.2.2.2.2.2.2.2.2.1
theorem CH.D {hh : Nat} {d : HD} {h : HI} (R : CH hh d h) : h.1 hh 17 = nI d.D := R.2.2.2.2.2.2.2.2.2.2.2.2.2.2.2.2.1
theorem CH.np {hh : Nat} {d : HD} {h : HI} (R : CH hh d h) : h.1 hh 18 = nI d.np := R.2.2.2.2.2.2.2.2.2.2.2.2.2.2.2.2.2.1
theorem CH.un {hh : Nat} {d : HD} {h : HI} (R : CH hh d h) : h.1 (hh + 18) 3 = nI d.un := R.2.2.2.2.2.2.2.2.2.2.2.2.2.2.2.2.2.2
def RH (d : HD) (h : HI) : Prop := (h.1 112 0 = nI d.C) ∧ (h.1 112 1 = nI d.M) ∧ (h.1 112 2 = nI d.X) ∧ (∀ i, i < d.C → h.1 118 i = nI (d.ho i)) ∧ (∀ i, i < d.M → h.1 119 i = nI (d.st i)) ∧ (∀ i, i < d.X → h.1 120 i = nI (d.di i)) ∧ (∀ m x, m < d.M → x < d.X → h.1 121 (4 * m + x) = Int32.ofInt (d.wi m x)) ∧ (∀ i, i < d.D → h.1 122 (4 * i) = nI (d.dm i)) ∧ (∀ i, i < d.D → h.1 122 (4 * i + 1) = nI (d.dx i)) ∧ (∀ i, i < d.D → h.1 122 (4 * i + 2) = nI (d.om i)) ∧ (∀ i, i < d.D → h.1 122 (4 * i + 3) = nI (d.ox i)) ∧ (∀ i, i < d.C → h.1 126 i = b01 (d.sl i)) ∧ (∀ i, i < d.M → h.1 127 i = b01 (d.dr i)) ∧ (h.1 101 44 = nI d.W) ∧ (h.1 101 45 = nI d.D) ∧ (h.1 101 46 = nI d.np) ∧ (h.1 101 20 = nI d.un)
theorem RH.C {d : HD} {h : HI} (R : RH d h) : h.1 112 0 = nI d.C := R.1
theorem RH.M {d : HD} {h : HI} (R : RH d h) : h.1 112 1 = nI d.M := R.2.1
theorem RH.X {d : HD} {h : HI} (R : RH d h) : h.1 112 2 = nI d.X := R.2.2.1
theorem RH.ho {d : HD} {h : HI} (R : RH d h) : ∀ i, i < d.C → h.1 118 i = nI (d.ho i) := R.2.2.2.1
theorem RH.st {d : HD} {h : HI} (R : RH d h) : ∀ i, i < d.M → h.1 119 i = nI (d.st i) := R.2.2.2.2.1
theorem RH.di {d : HD} {h : HI} (R : RH d h) : ∀ i, i < d.X → h.1 120 i = nI (d.di i) := R.2.2.2.2.2.1
theorem RH.wi {d : HD} {h : HI} (R : RH d h) : ∀ m x, m < d.M → x < d.X → h.1 121 (4 * m + x) = Int32.ofInt (d.wi m x) := R.2.2.2.2.2.2.1
theorem RH.dm {d : HD} {h : HI} (R : RH d h) : ∀ i, i < d.D → h.1 122 (4 * i) = nI (d.dm i) := R.2.2.2.2.2.2.2.1
theorem RH.dx {d : HD} {h : HI} (R : RH d h) : ∀ i, i < d.D → h.1 122 (4 * i + 1) = nI (d.dx i) := R.2.2.2.2.2.2.2.2.1
theorem RH.om {d : HD} {h : HI} (R : RH d h) : ∀ i, i < d.D → h.1 122 (4 * i + 2) = nI (d.om i) := R.2.2.2.2.2.2.2.2.2.1
theorem RH.ox {d : HD} {h : HI} (R : RH d h) : ∀ i, i < d.D → h.1 122 (4 * i + 3) = nI (d.ox i) := R.2.2.2.2.2.2.2.2.2.2.1
theorem RH.sl {d : HD} {h : HI} (R : RH d h) : ∀ i, i < d.C → h.1 126 i = b01 (d.sl i) := R.2.2.2.2.2.2.2.2.2.2.2.1
theorem RH.dr {d : HD} {h : HI} (R : RH d h) : ∀ i, i < d.M → h.1 127 i = b01 (d.dr i) := R.2.2.2.2.2.2.2.2.2.2.2.2.1
theorem RH.W {d : HD} {h : HI} (R : RH d h) : h.1 101 44 = nI d.W := R.2.2.2.2.2.2.2.2.2.2.2.2.2.1
theorem RH.D {d : HD} {h : HI} (R : RH d h) : h.1 101 45 = nI d.D := R.2.2.2.2.2.2.2.2.2.2.2.2.2.2.1
theorem RH.np {d : HD} {h : HI} (R : RH d h) : h.1 101 46 = nI d.np := R.2.2.2.2.2.2.2.2.2.2.2.2.2.2.2.1
theorem RH.un {d : HD} {h : HI} (R : RH d h) : h.1 101 20 = nI d.un := R.2.2.2.2.2.2.2.2.2.2.2.2.2.2.2.2
def CS (o : Nat) (d : HD) (h : HI) (s : SD) : Prop := (∀ i, i < 6 → h.1 (o + 1) i = s.wh i) ∧ (∀ i, i < 6 → h.1 (o + 2) i = nI (s.ti i)) ∧ (∀ i, i < 6 → h.1 (o + 3) i = s.sf i) ∧ (∀ i, i < 6 → h.1 (o + 4) i = s.sp i) ∧ (∀ i, i < 4 → h.1 (o + 5) i = nI (s.ss i)) ∧ (∀ i, i < 4 → h.1 (o + 6) i = nI (s.de i)) ∧ (h.1 o 4 = nI (bs s.br 6)) ∧ (h.1 o 5 = nI (bs s.fo 6)) ∧ (h.1 o 1 = nI s.mi) ∧ (h.1 o 2 = nI s.vo) ∧ (h.1 o 3 = s.sk) ∧ (∀ i w, i < s.vo → i < 4 → w < 6 → h.1 (o + 7) (6 * i + w) = s.fa i w) ∧ (∀ k, k < s.kn → k < 200 → h.2 (o + 8) k = rw6 (s.sr k) d.M)
theorem CS.wh {o : Nat} {d : HD} {h : HI} {s : SD} (R : CS o d h s) : ∀ i, i < 6 → h.1 (o + 1) i = s.wh i := R.1
theorem CS.ti {o : Nat} {d : HD} {h : HI} {s : SD} (R : CS o d h s) : ∀ i, i < 6 → h.1 (o + 2) i = nI (s.ti i) := R.2.1
theorem CS.sf {o : Nat} {d : HD} {h : HI} {s : SD} (R : CS o d h s) : ∀ i, i < 6 → h.1 (o + 3) i = s.sf i := R.2.2.1
theorem CS.sp {o : Nat} {d : HD} {h : HI} {s : SD} (R : CS o d h s) : ∀ i, i < 6 → h.1 (o + 4) i = s.sp i := R.2.2.2.1
theorem CS.ss {o : Nat} {d : HD} {h : HI} {s : SD} (R : CS o d h s) : ∀ i, i < 4 → h.1 (o + 5) i = nI (s.ss i) := R.2.2.2.2.1
theorem CS.de {o : Nat} {d : HD} {h : HI} {s : SD} (R : CS o d h s) : ∀ i, i < 4 → h.1 (o + 6) i = nI (s.de i) := R.2.2.2.2.2.1
theorem CS.br {o : Nat} {d : HD} {h : HI} {s : SD} (R : CS o d h s) : h.1 o 4 = nI (bs s.br 6) := R.2.2.2.2.2.2.1
theorem CS.fo {o : Nat} {d : HD} {h : HI} {s : SD} (R : CS o d h s) : h.1 o 5 = nI (bs s.fo 6) := R.2.2.2.2.2.2.2.1
theorem CS.mi {o : Nat} {d : HD} {h : HI} {s : SD} (R : CS o d h s) : h.1 o 1 = nI s.mi := R.2.2.2.2.2.2.2.2.1
theorem CS.vo {o : Nat} {d : HD} {h : HI} {s : SD} (R : CS o d h s) : h.1 o 2 = nI s.vo := R.2.2.2.2.2.2.2.2.2.1
theorem CS.sk {o : Nat} {d : HD} {h : HI} {s : SD} (R : CS o d h s) : h.1 o 3 = s.sk := R.2.2.2.2.2.2.2.2.2.2.1
theorem CS.fa {o : Nat} {d : HD} {h : HI} {s : SD} (R : CS o d h s) : ∀ i w, i < s.vo → i < 4 → w < 6 → h.1 (o + 7) (6 * i + w) = s.fa i w := R.2.2.2.2.2.2.2.2.2.2.2.1
theorem CS.sr {o : Nat} {d : HD} {h : HI} {s : SD} (R : CS o d h s) : ∀ k, k < s.kn → k < 200 → h.2 (o + 8) k = rw6 (s.sr k) d.M := R.2.2.2.2.2.2.2.2.2.2.2.2
def RS (d : HD) (h : HI) (s : SD) : Prop := (∀ i, i < 6 ∧ 0 < d.M → h.1 128 i = s.wh i) ∧ (∀ i, i < 6 → h.1 129 i = nI (s.ti i)) ∧ (∀ i, i < 6 → h.1 130 i = s.sf i) ∧ (∀ i, i < 6 → h.1 131 i = s.sp i) ∧ (∀ i, i < 4 → h.1 132 i = nI (s.ss i)) ∧ (∀ i, i < 4 → h.1 133 i = s.ds i) ∧ (∀ i, i < 6 → h.1 134 i = b01 (s.br i)) ∧ (∀ i, i < 6 → h.1 135 i = b01 (s.fo i)) ∧ (h.1 101 57 = nI s.mi) ∧ (h.1 101 58 = nI s.vo) ∧ (h.1 101 59 = s.sk) ∧ (∀ i w, i < s.vo → i < 4 → w < 6 → h.1 136 (6 * i + w) = s.fa i w) ∧ (∀ k c, k < s.kn → k < 200 → c < d.C → h.1 137 (6 * (k + 1) + c) = nI (bs (fun m => decide (s.sr k m = nI c)) d.M))
theorem RS.wh {d : HD} {h : HI} {s : SD} (R : RS d h s) : ∀ i, i < 6 ∧ 0 < d.M → h.1 128 i = s.wh i := R.1
theorem RS.ti {d : HD} {h : HI} {s : SD} (R : RS d h s) : ∀ i, i < 6 → h.1 129 i = nI (s.ti i) := R.2.1
theorem RS.sf {d : HD} {h : HI} {s : SD} (R : RS d h s) : ∀ i, i < 6 → h.1 130 i = s.sf i := R.2.2.1
theorem RS.sp {d : HD} {h : HI} {s : SD} (R : RS d h s) : ∀ i, i < 6 → h.1 131 i = s.sp i := R.2.2.2.1
theorem RS.ss {d : HD} {h : HI} {s : SD} (R : RS d h s) : ∀ i, i < 4 → h.1 132 i = nI (s.ss i) := R.2.2.2.2.1
theorem RS.ds {d : HD} {h : HI} {s : SD} (R : RS d h s) : ∀ i, i < 4 → h.1 133 i = s.ds i := R.2.2.2.2.2.1
theorem RS.br {d : HD} {h : HI} {s : SD} (R : RS d h s) : ∀ i, i < 6 → h.1 134 i = b01 (s.br i) := R.2.2.2.2.2.2.1
theorem RS.fo {d : HD} {h : HI} {s : SD} (R : RS d h s) : ∀ i, i < 6 → h.1 135 i = b01 (s.fo i) := R.2.2.2.2.2.2.2.1
theorem RS.mi {d : HD} {h : HI} {s : SD} (R : RS d h s) : h.1 101 57 = nI s.mi := R.2.2.2.2.2.2.2.2.1
theorem RS.vo {d : HD} {h : HI} {s : SD} (R : RS d h s) : h.1 101 58 = nI s.vo := R.2.2.2.2.2.2.2.2.2.1
theorem RS.sk {d : HD} {h : HI} {s : SD} (R : RS d h s) : h.1 101 59 = s.sk := R.2.2.2.2.2.2.2.2.2.2.1
theorem RS.fa {d : HD} {h : HI} {s : SD} (R : RS d h s) : ∀ i w, i < s.vo → i < 4 → w < 6 → h.1 136 (6 * i + w) = s.fa i w := R.2.2.2.2.2.2.2.2.2.2.2.1
theorem RS.sr {d : HD} {h : HI} {s : SD} (R : RS d h s) : ∀ k c, k < s.kn → k < 200 → c < d.C → h.1 137 (6 * (k + 1) + c) = nI (bs (fun m => decide (s.sr k m = nI c)) d.M) := R.2.2.2.2.2.2.2.2.2.2.2.2
