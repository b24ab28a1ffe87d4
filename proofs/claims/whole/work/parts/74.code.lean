/-! plans: a state as a number: who sits (6 bits), four matters (2 bits each), deals that are due (4 bits) -/
theorem tb_mul {a b i : Nat} (hb : b < 2 ^ i) (j : Nat) : (a * 2 ^ i + b).testBit j = if j < i then b.testBit j else a.testBit (j - i) := by
  rw [Nat.mul_comm, Nat.testBit_two_pow_mul_add a hb]
theorem cmb_or {a b a2 b2 i : Nat} (h1 : b < 2 ^ i) (h2 : b2 < 2 ^ i) : (a * 2 ^ i + b) ||| (a2 * 2 ^ i + b2) = (a ||| a2) * 2 ^ i + (b ||| b2) := by
  apply Nat.eq_of_testBit_eq
  intro j
  rw [Nat.testBit_or, tb_mul h1, tb_mul h2, tb_mul (Nat.or_lt_two_pow h1 h2)]
  by_cases q : j < i
  · rw [if_pos q, if_pos q, if_pos q, Nat.testBit_or]
  · rw [if_neg q, if_neg q, if_neg q, Nat.testBit_or]
theorem cmb_xor {a b a2 b2 i : Nat} (h1 : b < 2 ^ i) (h2 : b2 < 2 ^ i) : (a * 2 ^ i + b) ^^^ (a2 * 2 ^ i + b2) = (a ^^^ a2) * 2 ^ i + (b ^^^ b2) := by
  apply Nat.eq_of_testBit_eq
  intro j
  rw [Nat.testBit_xor, tb_mul h1, tb_mul h2, tb_mul (Nat.xor_lt_two_pow h1 h2)]
  by_cases q : j < i
  · rw [if_pos q, if_pos q, if_pos q, Nat.testBit_xor]
  · rw [if_neg q, if_neg q, if_neg q, Nat.testBit_xor]
/-- a matter's two bits taken out -/
theorem clr_n {a v b k : Nat} (hb : b < 2 ^ k) (hv : v < 4) (hk : k + 2 ≤ 30) : nI (a * 2 ^ (k + 2) + (v * 2 ^ k + b)) &&& (nI (3 * 2 ^ k) ^^^ (-1 : Int32)) = nI (a * 2 ^ (k + 2) + b) := by
  have hp : 2 ^ (k + 2) = 2 ^ k * 4 := by rw [Nat.pow_add]
  have hvb : v * 2 ^ k + b < 2 ^ (k + 2) := by
    have : v * 2 ^ k ≤ 3 * 2 ^ k := Nat.mul_le_mul_right _ (by omega)
    omega
  apply i32_ext
  intro j hj
  rw [Int32.toBitVec_and, BitVec.getLsbD_and, Int32.toBitVec_xor, BitVec.getLsbD_xor, nI_bit _ hj, nI_bit _ hj, nI_bit _ hj, m1_bit hj, tb_mul hvb, tb_mul (show b < 2 ^ (k + 2) by omega), show (3 : Nat) * 2 ^ k = 3 * 2 ^ k + 0 from rfl, tb_mul (Nat.pow_pos (by decide)), Nat.zero_testBit]
  by_cases q1 : j < k
  · rw [if_pos (show j < k + 2 by omega), if_pos (show j < k + 2 by omega), if_pos q1, tb_mul hb, if_pos q1]; simp
  · rw [if_neg q1]
    by_cases q2 : j < k + 2
    · rw [if_pos q2, if_pos q2, Nat.testBit_lt_two_pow (Nat.lt_of_lt_of_le hb (Nat.pow_le_pow_right (by decide) (by omega)))]
      have : (3 : Nat).testBit (j - k) = true := by
        rcases (show j - k = 0 ∨ j - k = 1 by omega) with e | e <;> rw [e] <;> rfl
      rw [this]; simp
    · rw [if_neg q2, if_neg q2, Nat.testBit_lt_two_pow (show 3 < 2 ^ (j - k) from Nat.lt_of_lt_of_le (by decide) (Nat.pow_le_pow_right (n := 2) (i := 2) (by decide) (by omega)))]
      simp
def sit (z : Nat) : Nat := z % 64
def stt (z x : Nat) : Nat := z / 2 ^ (6 + 2 * x) % 4
def dus (z : Nat) : Nat := z / 16384
theorem sit_lt (z : Nat) : sit z < 64 := Nat.mod_lt _ (by decide)
theorem stt_lt (z x : Nat) : stt z x < 4 := Nat.mod_lt _ (by decide)
/-- what a state is made of -/
def enc (S a0 a1 a2 a3 D : Nat) : Nat := S + 64 * a0 + 256 * a1 + 1024 * a2 + 4096 * a3 + 16384 * D
theorem enc_dec (z : Nat) : z = enc (sit z) (stt z 0) (stt z 1) (stt z 2) (stt z 3) (dus z) := by
  unfold enc sit stt dus
  simp only [Nat.mul_zero, Nat.add_zero, Nat.reduceMul, Nat.reduceAdd, Nat.reducePow]
  omega
theorem enc_at {S a0 a1 a2 a3 D : Nat} (h : S < 64) (h0 : a0 < 4) (h1 : a1 < 4) (h2 : a2 < 4) (h3 : a3 < 4) : sit (enc S a0 a1 a2 a3 D) = S ∧ stt (enc S a0 a1 a2 a3 D) 0 = a0 ∧ stt (enc S a0 a1 a2 a3 D) 1 = a1 ∧ stt (enc S a0 a1 a2 a3 D) 2 = a2 ∧ stt (enc S a0 a1 a2 a3 D) 3 = a3 ∧ dus (enc S a0 a1 a2 a3 D) = D := by
  unfold enc sit stt dus
  simp only [Nat.mul_zero, Nat.add_zero, Nat.reduceMul, Nat.reduceAdd, Nat.reducePow]
  refine ⟨?_, ?_, ?_, ?_, ?_, ?_⟩ <;> omega
theorem enc_lt {S a0 a1 a2 a3 D : Nat} (h : S < 64) (h0 : a0 < 4) (h1 : a1 < 4) (h2 : a2 < 4) (h3 : a3 < 4) (hD : D < 16) : enc S a0 a1 a2 a3 D < 262144 := by
  unfold enc; omega
/-- another who sits -/
def putT (z S : Nat) : Nat := z - sit z + S
/-- another status -/
def putS (z x v : Nat) : Nat := z - stt z x * 2 ^ (6 + 2 * x) + v * 2 ^ (6 + 2 * x)
/-- more deals due -/
def putD (z D : Nat) : Nat := (dus z ||| D) * 16384 + z % 16384
theorem putT_at {z S : Nat} (h : S < 64) : sit (putT z S) = S ∧ (∀ x, x < 4 → stt (putT z S) x = stt z x) ∧ dus (putT z S) = dus z := by
  unfold putT sit stt dus
  refine ⟨by omega, fun x hx => ?_, by omega⟩
  rcases (show x = 0 ∨ x = 1 ∨ x = 2 ∨ x = 3 by omega) with e | e | e | e <;> subst e <;> simp only [Nat.mul_zero, Nat.add_zero, Nat.reduceMul, Nat.reduceAdd, Nat.reducePow] <;> omega
theorem putS_at {z x v : Nat} (hx : x < 4) (hv : v < 4) : sit (putS z x v) = sit z ∧ (∀ y, y < 4 → stt (putS z x v) y = if y = x then v else stt z y) ∧ dus (putS z x v) = dus z := by
  unfold putS sit stt dus
  rcases (show x = 0 ∨ x = 1 ∨ x = 2 ∨ x = 3 by omega) with e | e | e | e <;> subst e <;> (simp only [Nat.mul_zero, Nat.add_zero, Nat.reduceMul, Nat.reduceAdd, Nat.reducePow]; refine ⟨by omega, fun y hy => ?_, by omega⟩; rcases (show y = 0 ∨ y = 1 ∨ y = 2 ∨ y = 3 by omega) with e | e | e | e <;> subst e <;> simp only [Nat.mul_zero, Nat.add_zero, Nat.reduceMul, Nat.reduceAdd, Nat.reducePow] <;> simp <;> omega)
theorem putD_at {z D : Nat} : sit (putD z D) = sit z ∧ (∀ y, y < 4 → stt (putD z D) y = stt z y) ∧ dus (putD z D) = (dus z ||| D) := by
  unfold putD
  generalize dus z ||| D = Q
  unfold sit stt dus
  refine ⟨by omega, fun y hy => ?_, by omega⟩
  rcases (show y = 0 ∨ y = 1 ∨ y = 2 ∨ y = 3 by omega) with e | e | e | e <;> subst e <;> simp only [Nat.mul_zero, Nat.add_zero, Nat.reduceMul, Nat.reduceAdd, Nat.reducePow] <;> omega
theorem put_lt {z : Nat} (hz : z < 262144) : (∀ S, S < 64 → putT z S < 262144) ∧ (∀ x v, x < 4 → v < 4 → putS z x v < 262144) ∧ ∀ D, D < 16 → putD z D < 262144 := by
  refine ⟨fun S hS => ?_, fun x v hx hv => ?_, fun D hD => ?_⟩
  · unfold putT sit; omega
  · unfold putS stt
    rcases (show x = 0 ∨ x = 1 ∨ x = 2 ∨ x = 3 by omega) with e | e | e | e <;> subst e <;> simp only [Nat.mul_zero, Nat.add_zero, Nat.reduceMul, Nat.reduceAdd, Nat.reducePow] <;> omega
  · have : dus z ||| D < 2 ^ 4 := Nat.or_lt_two_pow (show dus z < 2 ^ 4 by unfold dus; omega) hD
    unfold putD; omega
/-! what the reference's ints do -/
theorem k6 (x : Nat) : (6 : Int32) + (2 : Int32) * nI x = nI (6 + 2 * x) := by rw [show (2 : Int32) = nI 2 from rfl, nI_mu, show (6 : Int32) = nI 6 from rfl, nI_add]
theorem i_sit (z : Nat) : nI z &&& (63 : Int32) = nI (sit z) := by rw [show (63 : Int32) = nI (2 ^ 6 - 1) from rfl, and_n, andmask]; rfl
theorem i_stt {z x : Nat} (hz : z < 2 ^ 31) (hx : x < 4) : (nI z >>> (((6 : Int32) + (2 : Int32) * nI x) &&& 31)) &&& (3 : Int32) = nI (stt z x) := by rw [k6, shr_n hz (by omega), show (3 : Int32) = nI (2 ^ 2 - 1) from rfl, and_n, andmask]; rfl
theorem i_dus {z : Nat} (hz : z < 2 ^ 31) : nI z >>> ((14 : Int32) &&& 31) = nI (dus z) := shr_n (k := 14) hz (by omega)
theorem i_flip {z m : Nat} (hm : m < 6) : nI z ^^^ ((1 : Int32) <<< (nI m &&& 31)) = nI (putT z (sit z ^^^ 2 ^ m)) := by
  have h2 : 2 ^ m < 2 ^ 6 := Nat.pow_lt_pow_right (by decide) hm
  rw [one_shl (by omega), xor_n]
  congr 1
  have e := cmb_xor (a := z / 64) (b := sit z) (a2 := 0) (b2 := 2 ^ m) (i := 6) (sit_lt z) h2
  rw [Nat.zero_mul, Nat.zero_add, Nat.xor_zero, show z / 64 * 2 ^ 6 + sit z = z by unfold sit; omega] at e
  rw [e]
  unfold putT sit; omega
theorem i_add {z m : Nat} (hm : m < 6) : nI z ||| ((1 : Int32) <<< (nI m &&& 31)) = nI (putT z (sit z ||| 2 ^ m)) := by
  have h2 : 2 ^ m < 2 ^ 6 := Nat.pow_lt_pow_right (by decide) hm
  rw [one_shl (by omega), or_n]
  congr 1
  have e := cmb_or (a := z / 64) (b := sit z) (a2 := 0) (b2 := 2 ^ m) (i := 6) (sit_lt z) h2
  rw [Nat.zero_mul, Nat.zero_add, Nat.or_zero, show z / 64 * 2 ^ 6 + sit z = z by unfold sit; omega] at e
  rw [e]
  unfold putT sit; omega
/-- bare: the matter's status taken out; and another put in -/
def bare (z x : Nat) : Nat := z - stt z x * 2 ^ (6 + 2 * x)
theorem bare_eq {z x : Nat} (hx : x < 4) : z / 2 ^ (6 + 2 * x + 2) * 2 ^ (6 + 2 * x + 2) + z % 2 ^ (6 + 2 * x) = bare z x := by
  unfold bare stt
  rcases (show x = 0 ∨ x = 1 ∨ x = 2 ∨ x = 3 by omega) with e | e | e | e <;> subst e <;> simp only [Nat.mul_zero, Nat.add_zero, Nat.reduceMul, Nat.reduceAdd, Nat.reducePow] <;> omega
theorem i_bare {z x : Nat} (hx : x < 4) : nI z &&& (((3 : Int32) <<< (((6 : Int32) + (2 : Int32) * nI x) &&& 31)) ^^^ (-1 : Int32)) = nI (bare z x) := by
  have hb : z % 2 ^ (6 + 2 * x) < 2 ^ (6 + 2 * x) := Nat.mod_lt _ (Nat.pow_pos (by decide))
  have e := clr_n (a := z / 2 ^ (6 + 2 * x + 2)) (v := stt z x) (b := z % 2 ^ (6 + 2 * x)) (k := 6 + 2 * x) hb (stt_lt z x) (by omega)
  rw [k6, show (3 : Int32) = nI 3 from rfl, shl_n (by omega)]
  have e1 : z / 2 ^ (6 + 2 * x + 2) * 2 ^ (6 + 2 * x + 2) + (stt z x * 2 ^ (6 + 2 * x) + z % 2 ^ (6 + 2 * x)) = z := by
    unfold stt
    rcases (show x = 0 ∨ x = 1 ∨ x = 2 ∨ x = 3 by omega) with e | e | e | e <;> subst e <;> simp only [Nat.mul_zero, Nat.add_zero, Nat.reduceMul, Nat.reduceAdd, Nat.reducePow] <;> omega
  have e2 : z / 2 ^ (6 + 2 * x + 2) * 2 ^ (6 + 2 * x + 2) + z % 2 ^ (6 + 2 * x) = bare z x := by
    unfold bare stt
    rcases (show x = 0 ∨ x = 1 ∨ x = 2 ∨ x = 3 by omega) with e | e | e | e <;> subst e <;> simp only [Nat.mul_zero, Nat.add_zero, Nat.reduceMul, Nat.reduceAdd, Nat.reducePow] <;> omega
  rw [e1, e2] at e
  exact e
theorem i_put {z x v : Nat} (hx : x < 4) (hv : v < 4) : nI (bare z x) ||| (nI v <<< (((6 : Int32) + (2 : Int32) * nI x) &&& 31)) = nI (putS z x v) := by
  have hb : z % 2 ^ (6 + 2 * x) < 2 ^ (6 + 2 * x) := Nat.mod_lt _ (Nat.pow_pos (by decide))
  rw [k6, shl_n (by omega), or_n]
  congr 1
  have e := cmb_or (a := z / 2 ^ (6 + 2 * x + 2) * 4) (b := z % 2 ^ (6 + 2 * x)) (a2 := v) (b2 := 0) (i := 6 + 2 * x) hb (Nat.pow_pos (by decide))
  have e3 := cmb_or (a := z / 2 ^ (6 + 2 * x + 2)) (b := 0) (a2 := 0) (b2 := v) (i := 2) (by decide) hv
  rw [Nat.zero_mul, Nat.zero_add, Nat.or_zero, Nat.zero_or, Nat.add_zero (z / 2 ^ (6 + 2 * x + 2) * 2 ^ 2), show (2 : Nat) ^ 2 = 4 from rfl] at e3
  rw [Nat.add_zero (v * 2 ^ (6 + 2 * x)), Nat.or_zero, e3] at e
  have e1 : z / 2 ^ (6 + 2 * x + 2) * 4 * 2 ^ (6 + 2 * x) + z % 2 ^ (6 + 2 * x) = bare z x := by
    rw [← bare_eq hx, Nat.mul_assoc, show 4 * 2 ^ (6 + 2 * x) = 2 ^ (6 + 2 * x + 2) by rw [Nat.pow_add 2 (6 + 2 * x) 2, Nat.mul_comm]]
  have e2 : (z / 2 ^ (6 + 2 * x + 2) * 4 + v) * 2 ^ (6 + 2 * x) + z % 2 ^ (6 + 2 * x) = putS z x v := by
    rw [Nat.add_mul, Nat.add_right_comm, e1]; rfl
  rw [e1, e2] at e
  exact e
theorem i_due {z D : Nat} : nI z ||| (nI D <<< ((14 : Int32) &&& 31)) = nI (putD z D) := by
  have hb : z % 2 ^ 14 < 2 ^ 14 := Nat.mod_lt _ (by decide)
  rw [show (14 : Int32) &&& 31 = nI 14 &&& 31 from rfl, shl_n (by omega), or_n]
  congr 1
  have e := cmb_or (a := z / 2 ^ 14) (b := z % 2 ^ 14) (a2 := D) (b2 := 0) (i := 14) hb (by decide)
  rw [Nat.add_zero (D * 2 ^ 14), Nat.or_zero, Nat.div_add_mod' z (2 ^ 14)] at e
  rw [e]
  rfl
