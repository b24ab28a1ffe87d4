/-! a whole text, on both sides -/
noncomputable def rdP (B : Nat → Nat) (n : Nat) : Nat → TD → Nat → Sum (Nat × Nat) TD
  | 0, S, _ => .inr S
  | f + 1, S, p => if tc B n p = 0 then .inr S else thn (clL B n (liL B n S p)) fun a => rdP B n f a.2 a.1
def CRq (q : Nat) (r : Sum (Nat × Nat) TD) (h : HI) : Prop := match r with
  | .inl e => CF e.1 e.2 h
  | .inr S => PIt S ∧ PCt q S h ∧ h.1 53 8 = 0 ∧ h.1 53 9 = -1
def RRq (r : Sum (Nat × Nat) TD) (h : HI) : Prop := match r with
  | .inl e => RFl e.1 e.2 h
  | .inr S => PRt S h ∧ h.1 101 2 = 0 ∧ h.1 101 3 = -1
theorem c_rd {q : Nat} {B : Nat → Nat} {n : Nat} (hq : q + 20 < 53) (hq2 : 2 < q) (X : TX B n) : ∀ (m : Nat) (S : TD) (p i : Nat) (h : HI) (F : Nat), n + 1 ≤ m + p → i ≤ p → TC B n h → Wd h → PIt S → PCt q S h → CTk B n p h → ∃ g, (∀ k, fX4_read_33 53 1 q k (F + (m + 1)) h (nI i) = k g) ∧ Fr (Wln q) h g ∧ CRq q (rdP B n m S p) g
  | 0, S, p, i, h, F, hm, hi, T, D, I, R, C => absurd C.1 (by omega)
  | m + 1, S, p, i, h, F, hm, hi, T, D, I, R, C => by
    have hn := X.1
    have hp := C.1
    have t0 : h.1 53 4 = 0 ↔ tc B n p = 0 := tc_eq C (c := 0) (by decide)
    have e1 : ¬ (1700 : Int32) < nI i := nI_nlt (a := 1700) (by omega) (by decide)
    obtain ⟨G, hG⟩ : ∃ G, G = F + (m + 1) := ⟨_, rfl⟩
    rw [show F + (m + 1 + 1) = G + 1 by omega, rdP]
    simp only [fX4_read_33, if_neg e1, if_pos C.f]
    by_cases c0 : tc B n p = 0
    · rw [if_pos c0]
      refine ⟨h, fun k => by rw [if_pos (t0.mpr c0)], Fr.rf, I, R, C.f, C.2.2.2.2.2.2.2.1⟩
    · obtain ⟨g1, a1, a2, a3⟩ := c_line hq hq2 X T D I R C
      simp only [if_neg (fun z => c0 (t0.mp z)), a1, Option.bind_some, nI_1]
      rw [if_neg c0]
      cases z : clL B n (liL B n S p) with
      | inl e =>
        rw [z] at a3
        have a3 : CF e.1 e.2 g1 := a3
        refine ⟨g1, fun k => ?_, a2, a3⟩
        rw [show G = (F + m) + 1 by omega, fX4_read_33]
        split
        · rfl
        · rw [if_neg a3.f]
      | inr a =>
        rw [z] at a3
        obtain ⟨i2, lt, _⟩ := clL_in I z
        have T1 : TC B n g1 := T.keep a2 (fun a b y z => by unfold Wln WN Whs at z; omega)
        have D1 : Wd g1 := D.keep a2 (fun a b y z => by unfold Wln WN Whs at z; omega)
        obtain ⟨g2, b1, b2, b3⟩ := c_rd hq hq2 X m a.2 a.1 (i + 1) g1 F (by omega) (by omega) T1 D1 i2 a3.2 a3.1
        exact ⟨g2, hG ▸ b1, a2.tr b2, b3⟩
theorem r_line3 {B : Nat → Nat} {n p : Nat} {h : HI} (X : TX B n) (C : RTk B n p h) (h3 : tc B n p = 3) : ∃ g, fX9_readLine 101 h = some g ∧ Fr Wrd h g ∧ RFl 1 (tp B n p) g := by
  have w : ∀ i, i < 21 → fX9_isWord 101 h (lN (c8 (K i))) = some (b01 false, h) := fun i hi => by rw [r_isW C hi, decide_eq_false (by omega)]
  have w0 : fX9_isWord 101 h (426952976754 : Int64) = some (b01 false, h) := by rw [kk.1]; exact w 0 (by decide)
  have w3 : fX9_isWord 101 h (7168366 : Int64) = some (b01 false, h) := by rw [kk.2.2.2.1]; exact w 3 (by decide)
  have w6 : fX9_isWord 101 h (120265333040498 : Int64) = some (b01 false, h) := by rw [kk.2.2.2.2.2.2.1]; exact w 6 (by decide)
  have w8 : fX9_isWord 101 h (2003399528 : Int64) = some (b01 false, h) := by rw [kk.2.2.2.2.2.2.2.2.1]; exact w 8 (by decide)
  have w9 : fX9_isWord 101 h (1684365676 : Int64) = some (b01 false, h) := by rw [kk.2.2.2.2.2.2.2.2.2.1]; exact w 9 (by decide)
  have w11 : fX9_isWord 101 h (7233904 : Int64) = some (b01 false, h) := by rw [kk2.1]; exact w 11 (by decide)
  have w12 : fX9_isWord 101 h (1885434739 : Int64) = some (b01 false, h) := by rw [kk2.2.1]; exact w 12 (by decide)
  unfold fX9_readLine
  rw [w0, Option.bind_some, if_pos b01f]
  unfold fX9_readLine_28
  rw [w3, Option.bind_some, if_pos b01f]
  unfold fX9_readLine_56
  rw [w6, Option.bind_some, if_pos b01f]
  unfold fX9_readLine_83
  rw [w8, Option.bind_some, if_pos b01f]
  unfold fX9_readLine_109
  rw [w9, Option.bind_some, if_pos b01f]
  unfold fX9_readLine_134
  rw [w11, Option.bind_some, if_pos b01f]
  unfold fX9_readLine_158
  rw [w12, Option.bind_some, if_pos b01f]
  obtain ⟨g, e, a1, a2, a3, a4⟩ := rt_wrong X C (k := 2) (by decide) (by decide)
  have a1' : fX9_wrong 101 h (2 : Int32) = some g := a1
  unfold fX9_readLine_182
  rw [a1', Option.bind_some]
  unfold fX9_readLine_187 fX9_readLine_208
  rw [if_neg a3.f.2, if_neg a3.f.2]
  have := a4 (fun q => (Sum.inl (2, tp B n p) : Sum (Nat × Nat) Nat)) (fun _ => rfl)
  rw [tk3 h3] at this
  cases this
  exact ⟨g, rfl, a2.rd, a3⟩
theorem r_rd3 {B : Nat → Nat} {n p : Nat} {h : HI} (X : TX B n) (C : RTk B n p h) (h3 : tc B n p = 3) (F : Nat) : ∃ g, (∀ k, fX9_readAll_110 101 k (F + 2) h = k g) ∧ Fr Wrd h g ∧ RFl 1 (tp B n p) g := by
  have t0 : h.1 101 6 = 0 ↔ tc B n p = 0 := so_eq2 C (c := 0) (by decide) (by decide)
  obtain ⟨g, a1, a2, a3⟩ := r_line3 X C h3
  refine ⟨g, fun k => ?_, a2, a3⟩
  rw [show F + 2 = (F + 1) + 1 from rfl, fX9_readAll_110, if_pos C.f, if_neg (fun z => by have := t0.mp z; omega), a1, Option.bind_some, fX9_readAll_110, if_neg a3.f.2]
theorem r_rd {B : Nat → Nat} {n : Nat} (X : TX B n) : ∀ (m : Nat) (S : TD) (p : Nat) (h : HI) (F : Nat), n + 1 ≤ m + p → tc B n p ≠ 3 → TR B n h → PIt S → PRt S h → RTk B n p h → ∃ g, (∀ k, fX9_readAll_110 101 k (F + (m + 2)) h = k g) ∧ Fr Wrd h g ∧ RRq (rdP B n m S p) g
  | 0, S, p, h, F, hm, h3, T, I, R, C => absurd C.1 (by omega)
  | m + 1, S, p, h, F, hm, h3, T, I, R, C => by
    have t0 : h.1 101 6 = 0 ↔ tc B n p = 0 := so_eq2 C (c := 0) (by decide) (by decide)
    obtain ⟨G, hG⟩ : ∃ G, G = F + (m + 2) := ⟨_, rfl⟩
    rw [show F + (m + 1 + 2) = G + 1 by omega, rdP]
    simp only [fX9_readAll_110, if_pos C.f]
    by_cases c0 : tc B n p = 0
    · rw [if_pos c0]
      exact ⟨h, fun k => by rw [if_pos (t0.mpr c0)], Fr.rf, R, C.f, C.2.2.2.2.2.2.2⟩
    · obtain ⟨g1, a1, a2, a3⟩ := r_line X T I R C
      simp only [if_neg (fun z => c0 (t0.mp z)), a1, Option.bind_some]
      rw [if_neg c0]
      rw [tkn h3, thn_in] at a3
      rcases a3 with ⟨e, z, Z⟩ | ⟨p2, S2, z, C2, R2⟩
      · rw [z]
        refine ⟨g1, fun k => ?_, a2, Z⟩
        rw [show G = (F + m + 1) + 1 by omega, fX9_readAll_110, if_neg Z.f.2]
      · by_cases c3 : tc B n p2 = 3
        · rw [tk3 c3] at z
          have z : clL B n (liL B n S p) = .inl (1, tp B n p2) := z
          obtain ⟨g2, b1, b2, b3⟩ := r_rd3 X C2 c3 (F + m)
          rw [z]
          exact ⟨g2, hG ▸ b1, a2.tr b2, b3⟩
        · rw [tkn c3] at z
          have z : clL B n (liL B n S p) = .inr (p2, S2) := z
          obtain ⟨i2, lt, _⟩ := clL_in I z
          have lt : p < p2 := lt
          obtain ⟨g2, b1, b2, b3⟩ := r_rd X m S2 p2 g1 F (by omega) c3 (T.rd a2) i2 R2 C2
          rw [z]
          exact ⟨g2, hG ▸ b1, a2.tr b2, b3⟩
