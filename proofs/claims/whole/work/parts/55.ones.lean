/-! how many -/
def ct (P : Nat → Bool) : Nat → Nat
  | 0 => 0
  | n + 1 => ct P n + (if P n then 1 else 0)
def pc6 (S : Nat) : Nat := ct (fun i => S.testBit i) 6
theorem ct_le (P : Nat → Bool) : ∀ n, ct P n ≤ n
  | 0 => Nat.le_refl 0
  | n + 1 => by
    have ih := ct_le P n
    rw [ct]
    split <;> omega
def onf (x : Int32) : Nat → Int32
  | 0 => 0
  | k + 1 => onf x k + ((x >>> (nI k &&& 31)) &&& 1)
theorem ones_loop {k : HI → Int32 → Option (Int32 × HI)} {h : HI} {x : Int32} : ∀ (d i F : Nat), i + d = 18 → fX9_ones_4 k (F + (d + 1)) h x (onf x i) (nI i) = k h (onf x 18) := by
  intro d
  induction d with
  | zero =>
    intro i F hi
    rw [show F + (0 + 1) = F + 1 from rfl, fX9_ones_4, show i = 18 by omega, if_pos (by decide)]
  | succ d ih =>
    intro i F hi
    rw [show F + (d + 1 + 1) = (F + (d + 1)) + 1 from rfl, fX9_ones_4, if_neg (show ¬ (18 : Int32) ≤ nI i from nI_ge (a := i) (b := 18) (by omega) (by decide)), nI_1]
    exact ih (i + 1) F (by omega)
theorem f_ones (h : HI) (x : Int32) : fX9_ones h x = some (onf x 18, h) := by
  unfold fX9_ones
  obtain ⟨F, hF⟩ := FU_ge (n := 18) (by omega)
  rw [hF]
  exact ones_loop (k := fun h2 v1 => some (v1, h2)) 18 0 F (by omega)
theorem onf_pc : ∀ S, S < 64 → onf (nI S) 18 = nI (pc6 S) := by decide +kernel
theorem f_ones6 (h : HI) {S : Nat} (hS : S < 64) : fX9_ones h (nI S) = some (nI (pc6 S), h) := by rw [f_ones, onf_pc S hS]
def bcf (x : Int32) : Int32 := ((fJ6_bitCount_0f7a4 h00 x).getD (0, h00)).1
theorem f_bit (h : HI) (x : Int32) : fJ6_bitCount_0f7a4 h x = some (bcf x, h) := rfl
theorem bcf_pc : ∀ S, S < 64 → bcf (nI S) = nI (pc6 S) := by decide +kernel
theorem f_bit6 (h : HI) {S : Nat} (hS : S < 64) : fJ6_bitCount_0f7a4 h (nI S) = some (nI (pc6 S), h) := by rw [f_bit, bcf_pc S hS]
