/-! plans: goals, links and keys (the class's states), against the reference's states -/
def alv (d : HD) (s : SD) (x : Nat) : Bool := decide (s.ss x < 2)
def gl (d : HD) (s : SD) (x : Nat) : Bool := alv d s x && decide (0 < wo d x d.M)
def lnk (d : HD) (s : SD) (i : Nat) : Bool := gl d s (d.dx i)
def gC (d : HD) (s : SD) : Nat := ct (gl d s) d.X
def lC (d : HD) (s : SD) : Nat := ct (lnk d s) d.D
def sb (d : HD) (s : SD) (x : Nat) : Nat := lC d s + ct (gl d s) x
def pb (d : HD) (s : SD) (x : Nat) : Nat := lC d s + gC d s + ct (gl d s) x
def lbN (d : HD) (s : SD) (m x : Nat) : Nat → Nat
  | 0 => 0
  | i + 1 => if lnk d s i = true ∧ d.om i = m ∧ d.ox i = x then lbN d s m x i ||| 2 ^ ct (lnk d s) i else lbN d s m x i
def KB (d : HD) (s : SD) : Nat := 2 * gC d s + lC d s
theorem ct_mono2 {P : Nat → Bool} {m : Nat} : ∀ {n : Nat}, m ≤ n → ct P m ≤ ct P n
  | 0, h => by rw [show m = 0 by omega]; exact Nat.le_refl _
  | n + 1, h => by
    rcases (show m = n + 1 ∨ m ≤ n by omega) with e | e
    · rw [e]; exact Nat.le_refl _
    · rw [ct]; have := ct_mono2 (P := P) e; omega
theorem ct_inj {P : Nat → Bool} {i j : Nat} (hi : P i = true) (hj : P j = true) (h : ct P i = ct P j) : i = j := by
  rcases Nat.lt_trichotomy i j with e | e | e
  · have := ct_lt hi e; omega
  · exact e
  · have := ct_lt hj e; omega
theorem lC_le {d : HD} {s : SD} (w : HDw d) : lC d s ≤ 4 ∧ gC d s ≤ 4 := ⟨Nat.le_trans (ct_le _ _) w.D4, Nat.le_trans (ct_le _ _) w.X4⟩
theorem KB_le {d : HD} {s : SD} (w : HDw d) : KB d s ≤ 12 := by
  have := lC_le (s := s) w
  unfold KB; omega
theorem li_lt {d : HD} {s : SD} {i : Nat} (hi : i < d.D) (h : lnk d s i = true) : ct (lnk d s) i < lC d s := ct_lt h hi
theorem gi_lt {d : HD} {s : SD} {x : Nat} (hx : x < d.X) (h : gl d s x = true) : ct (gl d s) x < gC d s := ct_lt h hx
theorem lbN_bit {d : HD} {s : SD} {m x i : Nat} (hl : lnk d s i = true) : ∀ n, (lbN d s m x n).testBit (ct (lnk d s) i) = (decide (i < n) && (decide (d.om i = m) && decide (d.ox i = x)))
  | 0 => by rw [lbN, Nat.zero_testBit]; simp
  | n + 1 => by
    have ih := lbN_bit (m := m) (x := x) hl n
    rw [lbN]
    split
    · rename_i c
      rw [Nat.testBit_or, ih, Nat.testBit_two_pow]
      by_cases e : i = n
      · subst e
        rw [decide_eq_true (rfl : ct (lnk d s) i = _), decide_eq_true c.2.1, decide_eq_true c.2.2, decide_eq_true (Nat.lt_succ_self i), Bool.or_true]
        rfl
      · rw [decide_eq_false (fun q => e (ct_inj c.1 hl q).symm), Bool.or_false]
        by_cases q : i < n
        · rw [decide_eq_true q, decide_eq_true (show i < n + 1 by omega)]
        · rw [decide_eq_false q, decide_eq_false (show ¬ i < n + 1 by omega)]
    · rename_i c
      rw [ih]
      by_cases e : i = n
      · subst e
        rw [decide_eq_false (Nat.lt_irrefl i), decide_eq_true (Nat.lt_succ_self i)]
        by_cases q1 : d.om i = m
        · by_cases q2 : d.ox i = x
          · exact absurd ⟨hl, q1, q2⟩ c
          · rw [decide_eq_false q2]; simp
        · rw [decide_eq_false q1]; simp
      · by_cases q : i < n
        · rw [decide_eq_true q, decide_eq_true (show i < n + 1 by omega)]
        · rw [decide_eq_false q, decide_eq_false (show ¬ i < n + 1 by omega)]
theorem lbN_lt {d : HD} {s : SD} {m x : Nat} : ∀ n, lbN d s m x n < 2 ^ ct (lnk d s) n
  | 0 => by rw [lbN]; exact Nat.pow_pos (by decide)
  | n + 1 => by
    have ih := lbN_lt (d := d) (s := s) (m := m) (x := x) n
    rw [lbN]
    split
    · rename_i c
      rw [ct, if_pos c.1]
      refine Nat.or_lt_two_pow (Nat.lt_of_lt_of_le ih (Nat.pow_le_pow_right (by decide) (by omega))) (Nat.pow_lt_pow_right (by decide) (by omega))
    · exact Nat.lt_of_lt_of_le ih (Nat.pow_le_pow_right (by decide) (ct_mono2 (by omega)))
def ft (H K S : Nat) : Prop := S < 64 ∧ S &&& H = S ∧ pc6 S ≤ K
def pz (d : HD) (s : SD) (H k S x : Nat) : Bool := psP d.ru (nI (pc6 (bs (yesP d (fun i => S.testBit i) (fun i => lnk d s i && k.testBit (ct (lnk d s) i)) x) d.M))) (nI (pc6 (bs (noP d (fun i => S.testBit i) (fun i => lnk d s i && k.testBit (ct (lnk d s) i)) x) d.M))) (nI (pc6 S)) (nI (pc6 H) - nI (pc6 S))
def mvK (H K k S k2 S2 : Nat) : Prop := k2 = k ∧ ft H K S2 ∧ ∃ m, m < 6 ∧ H.testBit m = true ∧ S2 = S ^^^ 2 ^ m
def spB (d : HD) (s : SD) (k m x : Nat) : Nat := (if gl d s x = true then k ||| 2 ^ sb d s x else k) ||| lbN d s m x d.D
def spK (d : HD) (s : SD) (H t x k S k2 S2 : Nat) : Prop := S2 = S ∧ (alv d s x = true ∧ s.mi + t < d.di x) ∧ ¬ (gl d s x = true ∧ k.testBit (pb d s x) = true) ∧ ∃ m, m < 6 ∧ H.testBit m = true ∧ S.testBit m = false ∧ k2 = spB d s k m x
def vtK (d : HD) (s : SD) (H t x k S k2 S2 : Nat) : Prop := S2 = S ∧ (alv d s x = true ∧ s.mi + t < d.di x) ∧ gl d s x = true ∧ k.testBit (sb d s x) = true ∧ k.testBit (pb d s x) = false ∧ pz d s H k S x = true ∧ k2 = k ||| 2 ^ pb d s x
def Ks (d : HD) (s : SD) (H K t k S k2 S2 : Nat) : Prop := mvK H K k S k2 S2 ∨ ∃ x, x < d.X ∧ (spK d s H t x k S k2 S2 ∨ vtK d s H t x k S k2 S2)
def Ck (d : HD) (s : SD) (H K k0 S0 : Nat) : Nat → Nat → Nat → Prop
  | 0, k, S => k = k0 ∧ S = S0
  | t + 1, k, S => Ck d s H K k0 S0 t k S ∨ ∃ k1 S1, Ck d s H K k0 S0 t k1 S1 ∧ Ks d s H K t k1 S1 k S
theorem or_pow_lt {k j n : Nat} (h : k < 2 ^ n) (hj : j < n) : k ||| 2 ^ j < 2 ^ n := Nat.or_lt_two_pow h (Nat.pow_lt_pow_right (by decide) hj)
theorem spB_lt {d : HD} {s : SD} {k m x : Nat} (hx : x < d.X) (h : k < 2 ^ KB d s) : spB d s k m x < 2 ^ KB d s := by
  have hl := lbN_lt (d := d) (s := s) (m := m) (x := x) d.D
  have hl2 : lbN d s m x d.D < 2 ^ KB d s := Nat.lt_of_lt_of_le hl (Nat.pow_le_pow_right (by decide) (by unfold KB lC; omega))
  unfold spB
  split
  · rename_i c
    have := gi_lt hx c
    exact Nat.or_lt_two_pow (or_pow_lt h (by unfold sb KB; omega)) hl2
  · exact Nat.or_lt_two_pow h hl2
theorem Ks_lt {d : HD} {s : SD} {H K t k S k2 S2 : Nat} (h : k < 2 ^ KB d s) (hf : ft H K S) (q : Ks d s H K t k S k2 S2) : k2 < 2 ^ KB d s ∧ ft H K S2 := by
  rcases q with ⟨e, f, _⟩ | ⟨x, hx, ⟨e, _, _, m, _, _, _, e2⟩ | ⟨e, _, hg, _, _, _, e2⟩⟩
  · rw [e]; exact ⟨h, f⟩
  · rw [e, e2]; exact ⟨spB_lt hx h, hf⟩
  · rw [e, e2]
    have := gi_lt hx hg
    exact ⟨or_pow_lt h (by unfold pb KB; omega), hf⟩
theorem le_or (a b : Nat) : a ≤ a ||| b := Nat.left_le_or
theorem Ks_le {d : HD} {s : SD} {H K t k S k2 S2 : Nat} (q : Ks d s H K t k S k2 S2) : k ≤ k2 := by
  rcases q with ⟨e, f, _⟩ | ⟨x, hx, ⟨e, _, _, m, _, _, _, e2⟩ | ⟨e, _, hg, _, _, _, e2⟩⟩
  · rw [e]; exact Nat.le_refl _
  · rw [e2]
    unfold spB
    split
    · exact Nat.le_trans (le_or _ _) (le_or _ _)
    · exact le_or _ _
  · rw [e2]; exact le_or _ _
theorem Ck_lt {d : HD} {s : SD} {H K k0 S0 : Nat} (h : k0 < 2 ^ KB d s) (hf : ft H K S0) : ∀ {t k S : Nat}, Ck d s H K k0 S0 t k S → k < 2 ^ KB d s ∧ ft H K S
  | 0, k, S, q => by rw [q.1, q.2]; exact ⟨h, hf⟩
  | t + 1, k, S, q => by
    rcases q with q | ⟨k1, S1, q1, q2⟩
    · exact Ck_lt h hf q
    · exact Ks_lt (Ck_lt h hf q1).1 (Ck_lt h hf q1).2 q2
/-- a key and a state say the same -/
def Kz (d : HD) (s : SD) (k z : Nat) : Prop := (∀ i, i < d.D → lnk d s i = true → k.testBit (ct (lnk d s) i) = (dus z).testBit i) ∧ ∀ x, x < d.X → gl d s x = true → k.testBit (sb d s x) = decide (1 ≤ stt z x) ∧ k.testBit (pb d s x) = decide (stt z x = 2)
def Zc (d : HD) (s : SD) (z : Nat) : Prop := ∀ x, x < d.X → alv d s x = false → stt z x = s.ss x
def Zs (d : HD) (s : SD) (z : Nat) : Prop := Zc d s z ∧ ∀ x, x < d.X → alv d s x = true → stt z x ≤ 2 ∧ (gl d s x = false → stt z x < 2)
theorem spB_li {d : HD} {s : SD} {k m x i : Nat} (hi : i < d.D) (hl : lnk d s i = true) : (spB d s k m x).testBit (ct (lnk d s) i) = (k.testBit (ct (lnk d s) i) || (decide (d.om i = m) && decide (d.ox i = x))) := by
  have h1 := li_lt hi hl
  unfold spB
  rw [Nat.testBit_or, lbN_bit hl, decide_eq_true hi, Bool.true_and]
  split
  · rw [Nat.testBit_or, Nat.testBit_two_pow, decide_eq_false (by unfold sb; omega), Bool.or_false]
  · rfl
theorem lbN_hi {d : HD} {s : SD} {m x j : Nat} (h : lC d s ≤ j) : (lbN d s m x d.D).testBit j = false := Nat.testBit_lt_two_pow (Nat.lt_of_lt_of_le (lbN_lt d.D) (Nat.pow_le_pow_right (by decide) h))
theorem spB_sb {d : HD} {s : SD} {k m x y : Nat} (hx : x < d.X) (hy : y < d.X) (hg : gl d s y = true) : (spB d s k m x).testBit (sb d s y) = (k.testBit (sb d s y) || decide (y = x)) := by
  unfold spB
  rw [Nat.testBit_or, lbN_hi (by unfold sb; omega), Bool.or_false]
  split
  · rename_i c
    rw [Nat.testBit_or, Nat.testBit_two_pow]
    congr 1
    refine decide_eq_decide.mpr ⟨fun e => ?_, fun e => by rw [e]⟩
    unfold sb at e
    exact (ct_inj c hg (by omega)).symm
  · rename_i c
    rw [decide_eq_false (fun e => c (by rw [← e]; exact hg)), Bool.or_false]
theorem spB_pb {d : HD} {s : SD} {k m x y : Nat} (hx : x < d.X) (hy : y < d.X) : (spB d s k m x).testBit (pb d s y) = k.testBit (pb d s y) := by
  unfold spB
  rw [Nat.testBit_or, lbN_hi (by unfold pb; omega), Bool.or_false]
  split
  · rename_i c
    have := gi_lt hx c
    rw [Nat.testBit_or, Nat.testBit_two_pow, decide_eq_false (by unfold sb pb; omega), Bool.or_false]
  · rfl
theorem Kz_sp {d : HD} {s : SD} {k z m x : Nat} (w : HDw d) (h : Kz d s k z) (hx : x < d.X) (hn : gl d s x = true → k.testBit (pb d s x) = false) : Kz d s (spB d s k m x) (spkZ d z m x) := by
  have hX := w.X4
  obtain ⟨a1, a2, a3⟩ := putD_at (z := putS z x 1) (D := dbN d m x)
  obtain ⟨b1, b2, b3⟩ := putS_at (z := z) (x := x) (v := 1) (by omega) (by decide)
  refine ⟨fun i hi hl => ?_, fun y hy hg => ?_⟩
  · rw [spB_li hi hl, h.1 i hi hl]
    unfold spkZ
    rw [a3, b3, Nat.testBit_or]
    unfold dbN
    rw [bs_bit, decide_eq_true hi, Bool.true_and]
  · rw [spB_sb hx hy hg, spB_pb hx hy, (h.2 y hy hg).1]
    unfold spkZ
    rw [a2 y (by omega), b2 y (by omega)]
    by_cases e : y = x
    · subst e
      rw [if_pos rfl, decide_eq_true rfl, Bool.or_true, hn hg]
      exact ⟨rfl, rfl⟩
    · rw [if_neg e, decide_eq_false e, Bool.or_false]
      exact ⟨rfl, (h.2 y hy hg).2⟩
theorem Kz_vt {d : HD} {s : SD} {k z x : Nat} (w : HDw d) (h : Kz d s k z) (hx : x < d.X) (hg : gl d s x = true) (hs : k.testBit (sb d s x) = true) : Kz d s (k ||| 2 ^ pb d s x) (putS z x 2) := by
  have hX := w.X4
  obtain ⟨b1, b2, b3⟩ := putS_at (z := z) (x := x) (v := 2) (by omega) (by decide)
  refine ⟨fun i hi hl => ?_, fun y hy hg2 => ?_⟩
  · have := li_lt hi hl
    rw [Nat.testBit_or, Nat.testBit_two_pow, decide_eq_false (by unfold pb; omega), Bool.or_false, b3]
    exact h.1 i hi hl
  · have hy2 := gi_lt hy hg2
    rw [Nat.testBit_or, Nat.testBit_two_pow, decide_eq_false (show ¬ pb d s x = sb d s y by unfold pb sb; omega), Bool.or_false, Nat.testBit_or, Nat.testBit_two_pow, b2 y (by omega)]
    by_cases e : y = x
    · subst e
      rw [if_pos rfl, hs, decide_eq_true rfl, Bool.or_true]
      exact ⟨rfl, rfl⟩
    · rw [if_neg e, decide_eq_false (show ¬ pb d s x = pb d s y from fun q => e (ct_inj hg2 hg (by unfold pb at q; omega))), Bool.or_false]
      exact h.2 y hy hg2
/-- a status that says no more of goals than before -/
theorem Kz_st {d : HD} {s : SD} {k z x v : Nat} (w : HDw d) (h : Kz d s k z) (hx : x < d.X) (hv : v < 4) (hg : gl d s x = true → v = 3 ∧ stt z x = 1) : Kz d s k (putS z x v) := by
  have hX := w.X4
  obtain ⟨b1, b2, b3⟩ := putS_at (z := z) (x := x) (v := v) (by omega) hv
  refine ⟨fun i hi hl => by rw [b3]; exact h.1 i hi hl, fun y hy hg2 => ?_⟩
  rw [b2 y (by omega)]
  by_cases e : y = x
  · subst e
    obtain ⟨q1, q2⟩ := hg hg2
    rw [if_pos rfl, (h.2 y hy hg2).1, (h.2 y hy hg2).2, q1, q2]
    exact ⟨rfl, rfl⟩
  · rw [if_neg e]; exact h.2 y hy hg2
theorem Kz_put {d : HD} {s : SD} {k z S : Nat} (w : HDw d) (h : Kz d s k z) (hS : S < 64) : Kz d s k (putT z S) := by
  have hX := w.X4
  obtain ⟨b1, b2, b3⟩ := putT_at (z := z) hS
  exact ⟨fun i hi hl => by rw [b3]; exact h.1 i hi hl, fun y hy hg2 => by rw [b2 y (by omega)]; exact h.2 y hy hg2⟩
theorem pz_eq {d : HD} {s : SD} {H k z x : Nat} (h : Kz d s k z) (hg : gl d s x = true) : passZ d H z x = pz d s H k (sit z) x := by
  have hb : ∀ m, bnd d (fun i => (dus z).testBit i) x m = bnd d (fun i => lnk d s i && k.testBit (ct (lnk d s) i)) x m := fun m => by
    unfold bnd
    refine anyB_cong fun i hi => ?_
    by_cases e : d.dx i = x
    · have hl : lnk d s i = true := by unfold lnk; rw [e]; exact hg
      show (decide (d.dm i = m) && (decide (d.dx i = x) && (dus z).testBit i)) = (decide (d.dm i = m) && (decide (d.dx i = x) && (lnk d s i && k.testBit (ct (lnk d s) i))))
      rw [h.1 i hi hl, hl, Bool.true_and]
    · rw [decide_eq_false e]; simp
  unfold passZ pz
  rw [bs_cong (n := d.M) (P := yesP d (fun i => (sit z).testBit i) (fun i => (dus z).testBit i) x) (Q := yesP d (fun i => (sit z).testBit i) (fun i => lnk d s i && k.testBit (ct (lnk d s) i)) x) (fun m _ => by unfold yesP; rw [hb m]), bs_cong (n := d.M) (P := noP d (fun i => (sit z).testBit i) (fun i => (dus z).testBit i) x) (Q := noP d (fun i => (sit z).testBit i) (fun i => lnk d s i && k.testBit (ct (lnk d s) i)) x) (fun m _ => by unfold noP; rw [hb m])]
theorem xo_t : ∀ S, S < 64 → ∀ m, m < 6 → (S.testBit m = true → pc6 (S ^^^ 2 ^ m) + 1 = pc6 S) ∧ (S.testBit m = false → pc6 (S ^^^ 2 ^ m) = pc6 S + 1 ∧ S ||| 2 ^ m = S ^^^ 2 ^ m) ∧ S ^^^ 2 ^ m < 64 := by decide +kernel
theorem sub_bit {S H m : Nat} (h : S &&& H = S) (hm : S.testBit m = true) : H.testBit m = true := by
  have e := congrArg (fun a => a.testBit m) h
  simp only [Nat.testBit_and, hm, Bool.true_and] at e
  exact e
theorem sub_xor {S H m : Nat} (h : S &&& H = S) (hm : H.testBit m = true) : (S ^^^ 2 ^ m) &&& H = S ^^^ 2 ^ m := by
  apply Nat.eq_of_testBit_eq
  intro j
  have e := congrArg (fun a => a.testBit j) h
  simp only [Nat.testBit_and] at e
  rw [Nat.testBit_and, Nat.testBit_xor, Nat.testBit_two_pow]
  by_cases q : m = j
  · subst q; rw [hm, Bool.and_true]
  · rw [decide_eq_false q, Bool.xor_false, e]
theorem bit_lt {H m M : Nat} (h : H < 2 ^ M) (hb : H.testBit m = true) : m < M := by
  rcases Nat.lt_or_ge m M with e | e
  · exact e
  · rw [Nat.testBit_lt_two_pow (Nat.lt_of_lt_of_le h (Nat.pow_le_pow_right (by decide) e))] at hb; cases hb
/-- all that the class reaches, the reference reaches -/
theorem snd_step {d : HD} {s : SD} {H K t k S k2 S2 z : Nat} (w : HDw d) (hH : H < 2 ^ d.M) (hf : ft H K S) (hz : sit z = S) (hk : Kz d s k z) (hs : Zs d s z) (q : Ks d s H K t k S k2 S2) : ∃ y, ScA d s H K t z y ∧ sit y = S2 ∧ Kz d s k2 y ∧ Zs d s y := by
  have hX := w.X4
  rcases q with ⟨e, f, m, hm, hHm, e2⟩ | ⟨x, hx, ⟨e, ⟨ha, ht⟩, hp, m, hm, hHm, hSm, e2⟩ | ⟨e, ⟨ha, ht⟩, hg, hsp, hps, hpz, e2⟩⟩
  · obtain ⟨b1, b2, b3⟩ := putT_at (z := z) (S := S2) f.1
    have hx := xo_t S hf.1 m hm
    refine ⟨putT z S2, Or.inl ⟨m, bit_lt hH hHm, ?_⟩, b1, by rw [e]; exact Kz_put w hk f.1, fun x hx h => by rw [b2 x (by omega)]; exact hs.1 x hx h, fun x hx h => by rw [b2 x (by omega)]; exact hs.2 x hx h⟩
    rw [hz]
    cases q : S.testBit m with
    | true => exact Or.inl ⟨rfl, by rw [e2]⟩
    | false =>
      have h2 := hx.2.1 q
      have h3 := f.2.2
      rw [e2, h2.1] at h3
      exact Or.inr ⟨rfl, hHm, by omega, by rw [h2.2, e2]⟩
  · obtain ⟨a1, a2, a3⟩ := putD_at (z := putS z x 1) (D := dbN d m x)
    obtain ⟨b1, b2, b3⟩ := putS_at (z := z) (x := x) (v := 1) (by omega) (by decide)
    have hp2 : gl d s x = true → k.testBit (pb d s x) = false := fun hg => by
      cases c : k.testBit (pb d s x) with
      | true => exact absurd ⟨hg, c⟩ hp
      | false => rfl
    have hst : stt z x < 2 := by
      have h1 := hs.2 x hx ha
      cases c : gl d s x with
      | false => exact h1.2 c
      | true =>
        have := hp2 c
        rw [(hk.2 x hx c).2] at this
        have := of_decide_eq_false this
        omega
    refine ⟨spkZ d z m x, Or.inr ⟨x, hx, ⟨hst, ht⟩, Or.inl ⟨m, bit_lt hH hHm, ⟨hHm, by rw [hz]; exact hSm⟩, rfl⟩⟩, ?_, by rw [e2]; exact Kz_sp w hk hx hp2, fun y hy h => ?_, fun y hy h => ?_⟩
    · unfold spkZ; rw [a1, b1, hz, e]
    · unfold spkZ; rw [a2 y (by omega), b2 y (by omega), if_neg (fun q => by rw [q, ha] at h; cases h)]; exact hs.1 y hy h
    · unfold spkZ; rw [a2 y (by omega), b2 y (by omega)]
      split
      · exact ⟨by omega, fun _ => by omega⟩
      · exact hs.2 y hy h
  · have hst : stt z x = 1 := by
      have h1 := hk.2 x hx hg
      rw [hsp, hps] at h1
      have h2 := of_decide_eq_true h1.1.symm
      have h3 := of_decide_eq_false h1.2.symm
      have h4 := (hs.2 x hx ha).1
      omega
    have hpass : passZ d H z x = true := by rw [pz_eq hk hg, hz]; exact hpz
    obtain ⟨b1, b2, b3⟩ := putS_at (z := z) (x := x) (v := 2) (by omega) (by decide)
    have ev : vtZ d H z x = putS z x 2 := by unfold vtZ; rw [hpass]; rfl
    refine ⟨putS z x 2, Or.inr ⟨x, hx, ⟨by omega, ht⟩, Or.inr ⟨hst, ev.symm⟩⟩, by rw [b1, hz, e], by rw [e2]; exact Kz_vt w hk hx hg hsp, fun y hy h => ?_, fun y hy h => ?_⟩
    · rw [b2 y (by omega), if_neg (fun q => by rw [q, ha] at h; cases h)]; exact hs.1 y hy h
    · rw [b2 y (by omega)]
      split
      · rename_i c
        exact ⟨Nat.le_refl _, fun h2 => by rw [c, hg] at h2; cases h2⟩
      · exact hs.2 y hy h
/-- all that the reference reaches, the class reaches -/
theorem cmp_step {d : HD} {s : SD} {H K t k z y : Nat} (w : HDw d) (hf : ft H K (sit z)) (hk : Kz d s k z) (hs : Zc d s z) (q : ScA d s H K t z y) : ∃ k2, (k2 = k ∧ sit y = sit z ∨ Ks d s H K t k (sit z) k2 (sit y)) ∧ Kz d s k2 y ∧ Zc d s y := by
  have hX := w.X4
  have hM := w.M6
  rcases q with ⟨m, hm, q⟩ | ⟨x, hx, ⟨hst, ht⟩, q⟩
  · have hx := xo_t (sit z) hf.1 m (by omega)
    have fin : ∀ S2, S2 = sit z ^^^ 2 ^ m → H.testBit m = true → pc6 S2 ≤ K → y = putT z S2 → ∃ k2, (k2 = k ∧ sit y = sit z ∨ Ks d s H K t k (sit z) k2 (sit y)) ∧ Kz d s k2 y ∧ Zc d s y := by
      intro S2 e1 hHm hp ey
      have h64 : S2 < 64 := by rw [e1]; exact hx.2.2
      obtain ⟨b1, b2, b3⟩ := putT_at (z := z) (S := S2) h64
      subst ey
      exact ⟨k, Or.inr (Or.inl ⟨rfl, by rw [b1]; exact ⟨h64, by rw [e1]; exact sub_xor hf.2.1 hHm, hp⟩, m, by omega, hHm, by rw [b1]; exact e1⟩), Kz_put w hk h64, fun x hx h => by rw [b2 x (by omega)]; exact hs x hx h⟩
    rcases q with ⟨q1, q2⟩ | ⟨q1, q2, q3, q4⟩
    · have h1 := hx.1 q1
      have := hf.2.2
      exact fin _ rfl (sub_bit hf.2.1 q1) (by omega) q2
    · have h1 := hx.2.1 q1
      exact fin _ h1.2 q2 (by rw [h1.2, h1.1]; omega) q4
  · have ha : alv d s x = true := by
      cases c : alv d s x with
      | true => rfl
      | false =>
        have h1 := hs x hx c
        unfold alv at c
        rw [decide_eq_true (by omega)] at c
        cases c
    rcases q with ⟨m, hm, ⟨hHm, hSm⟩, ey⟩ | ⟨h1, ey⟩
    · obtain ⟨a1, a2, a3⟩ := putD_at (z := putS z x 1) (D := dbN d m x)
      obtain ⟨b1, b2, b3⟩ := putS_at (z := z) (x := x) (v := 1) (by omega) (by decide)
      have hp2 : gl d s x = true → k.testBit (pb d s x) = false := fun hg => by
        rw [(hk.2 x hx hg).2]; exact decide_eq_false (by omega)
      have es : sit y = sit z := by rw [ey]; unfold spkZ; rw [a1, b1]
      refine ⟨spB d s k m x, Or.inr (Or.inr ⟨x, hx, Or.inl ⟨es, ⟨ha, ht⟩, (fun c => by have e1 := c.2; rw [hp2 c.1] at e1; cases e1), ⟨m, by omega, hHm, hSm, rfl⟩⟩⟩), by rw [ey]; exact Kz_sp w hk hx hp2, fun y2 hy h => ?_⟩
      rw [ey]
      unfold spkZ; rw [a2 y2 (by omega), b2 y2 (by omega), if_neg (fun q => by rw [q, ha] at h; cases h)]; exact hs y2 hy h
    · have zc : ∀ v, v < 4 → y = putS z x v → sit y = sit z ∧ Zc d s y := fun v hv e => by
        obtain ⟨b1, b2, b3⟩ := putS_at (z := z) (x := x) (v := v) (by omega) hv
        refine ⟨by rw [e, b1], fun y2 hy h => ?_⟩
        rw [e, b2 y2 (by omega), if_neg (fun q => by rw [q, ha] at h; cases h)]; exact hs y2 hy h
      unfold vtZ at ey
      cases c : gl d s x with
      | false =>
        have hv : (if passZ d H z x = true then 2 else 3) < 4 := by split <;> decide
        exact ⟨k, Or.inl ⟨rfl, (zc _ hv ey).1⟩, by rw [ey]; exact Kz_st w hk hx hv (fun h => by rw [c] at h; cases h), (zc _ hv ey).2⟩
      | true =>
        cases c2 : passZ d H z x with
        | false =>
          rw [c2, if_neg (by decide)] at ey
          exact ⟨k, Or.inl ⟨rfl, (zc 3 (by decide) ey).1⟩, by rw [ey]; exact Kz_st w hk hx (by decide) (fun _ => ⟨rfl, h1⟩), (zc 3 (by decide) ey).2⟩
        | true =>
          rw [c2, if_pos rfl] at ey
          have k1 : k.testBit (sb d s x) = true := by rw [(hk.2 x hx c).1]; exact decide_eq_true (by omega)
          have k2 : k.testBit (pb d s x) = false := by rw [(hk.2 x hx c).2]; exact decide_eq_false (by omega)
          refine ⟨k ||| 2 ^ pb d s x, Or.inr (Or.inr ⟨x, hx, Or.inr ⟨(zc 2 (by decide) ey).1, ⟨ha, ht⟩, c, k1, k2, by rw [← pz_eq hk c]; exact c2, rfl⟩⟩), by rw [ey]; exact Kz_vt w hk hx c k1, (zc 2 (by decide) ey).2⟩
theorem snd {d : HD} {s : SD} {H K k0 S0 z0 : Nat} (w : HDw d) (hH : H < 2 ^ d.M) (h0 : k0 < 2 ^ KB d s) (hf : ft H K S0) (hz : sit z0 = S0) (hk : Kz d s k0 z0) (hs : Zs d s z0) : ∀ {t k S : Nat}, Ck d s H K k0 S0 t k S → ∃ z, Vt d s H K z0 t z ∧ sit z = S ∧ Kz d s k z ∧ Zs d s z
  | 0, k, S, q => ⟨z0, rfl, by rw [q.2]; exact hz, by rw [q.1]; exact hk, hs⟩
  | t + 1, k, S, q => by
    rcases q with q | ⟨k1, S1, q1, q2⟩
    · obtain ⟨z, a, b, c, e⟩ := snd w hH h0 hf hz hk hs q
      exact ⟨z, Or.inl a, b, c, e⟩
    · obtain ⟨z, a, b, c, e⟩ := snd w hH h0 hf hz hk hs q1
      obtain ⟨y, y1, y2, y3, y4⟩ := snd_step w hH (Ck_lt h0 hf q1).2 b c e q2
      exact ⟨y, Or.inr ⟨z, a, y1⟩, y2, y3, y4⟩
theorem cmpl {d : HD} {s : SD} {H K k0 S0 z0 : Nat} (w : HDw d) (h0 : k0 < 2 ^ KB d s) (hf : ft H K S0) (hz : sit z0 = S0) (hk : Kz d s k0 z0) (hs : Zc d s z0) : ∀ {t z : Nat}, Vt d s H K z0 t z → ∃ k, Ck d s H K k0 S0 t k (sit z) ∧ Kz d s k z ∧ Zc d s z
  | 0, z, q => ⟨k0, ⟨rfl, by rw [show z = z0 from q]; exact hz⟩, by rw [show z = z0 from q]; exact hk, by rw [show z = z0 from q]; exact hs⟩
  | t + 1, z, q => by
    rcases q with q | ⟨z1, q1, q2⟩
    · obtain ⟨k, a, b, c⟩ := cmpl w h0 hf hz hk hs q
      exact ⟨k, Or.inl a, b, c⟩
    · obtain ⟨k, a, b, c⟩ := cmpl w h0 hf hz hk hs q1
      obtain ⟨k2, y1, y2, y3⟩ := cmp_step w (Ck_lt h0 hf a).2 b c q2
      rcases y1 with ⟨y1, y5⟩ | y1
      · exact ⟨k2, Or.inl (by rw [y1, y5]; exact a), y2, y3⟩
      · exact ⟨k2, Or.inr ⟨k, _, a, y1⟩, y2, y3⟩
/-! worth -/
def wkN (d : HD) (s : SD) (k : Nat) : Nat → Int
  | 0 => 0
  | x + 1 => wkN d s k x + (if gl d s x = true ∧ k.testBit (pb d s x) = true then wo d x d.M else 0)
def wk (d : HD) (s : SD) (k : Nat) : Int := wkN d s k d.X
theorem gl_alv {d : HD} {s : SD} {x : Nat} (h : gl d s x = true) : alv d s x = true ∧ 0 < wo d x d.M := by
  unfold gl at h
  have := Bool.and_eq_true_iff.mp h
  exact ⟨this.1, of_decide_eq_true this.2⟩
theorem alv_ss {d : HD} {s : SD} {x : Nat} (h : alv d s x = true) : s.ss x < 2 := of_decide_eq_true h
theorem wk_ge {d : HD} {s : SD} {k z : Nat} (hk : Kz d s k z) (hs : Zc d s z) : ∀ n, n ≤ d.X → wzN d s z n ≤ wkN d s k n
  | 0, _ => Int.le_refl _
  | n + 1, hn => by
    have ih := wk_ge hk hs n (by omega)
    rw [wzN, wkN]
    cases c : gl d s n with
    | true =>
      have h1 := alv_ss (gl_alv c).1
      rw [(hk.2 n (by omega) c).2]
      by_cases q : stt z n = 2
      · rw [if_pos ⟨q, by omega⟩, if_pos ⟨rfl, decide_eq_true q⟩]; omega
      · rw [if_neg (fun e => q e.1), if_neg (fun e => q (of_decide_eq_true e.2))]; omega
    | false =>
      rw [if_neg (show ¬ (false = true ∧ k.testBit (pb d s n) = true) from fun e => by cases e.1)]
      split
      · rename_i e
        cases c2 : alv d s n with
        | false => exact absurd (by rw [← hs n (by omega) c2]; exact e.1) e.2
        | true =>
          unfold gl at c
          rw [c2, Bool.true_and] at c
          have := of_decide_eq_false c
          omega
      · omega
theorem wk_eq {d : HD} {s : SD} {k z : Nat} (hk : Kz d s k z) (hs : Zs d s z) : ∀ n, n ≤ d.X → wzN d s z n = wkN d s k n
  | 0, _ => rfl
  | n + 1, hn => by
    have ih := wk_eq hk hs n (by omega)
    rw [wzN, wkN, ih]
    congr 1
    cases c : gl d s n with
    | true =>
      have h1 := alv_ss (gl_alv c).1
      rw [(hk.2 n (by omega) c).2]
      by_cases q : stt z n = 2
      · rw [if_pos ⟨q, by omega⟩, if_pos ⟨rfl, decide_eq_true q⟩]
      · rw [if_neg (fun e => q e.1), if_neg (fun e => q (of_decide_eq_true e.2))]
    | false =>
      rw [if_neg (show ¬ (false = true ∧ k.testBit (pb d s n) = true) from fun e => by cases e.1)]
      rw [if_neg]
      intro e
      cases c2 : alv d s n with
      | false => exact e.2 (by rw [← hs.1 n (by omega) c2]; exact e.1)
      | true => have := (hs.2 n (by omega) c2).2 c; omega
def Cp (d : HD) (s : SD) (H K k0 S0 t p : Nat) : Prop := Ck d s H K k0 S0 t (p / 64) (p % 64)
theorem mx_tr {d : HD} {s : SD} {H K k0 S0 z0 t : Nat} {b : Int} (w : HDw d) (hH : H < 2 ^ d.M) (h0 : k0 < 2 ^ KB d s) (hf : ft H K S0) (hz : sit z0 = S0) (hk : Kz d s k0 z0) (hs : Zs d s z0) (q : isMx (Cp d s H K k0 S0 t) (fun p => wk d s (p / 64)) b) : isMx (Vt d s H K z0 t) (wz d s) b := by
  obtain ⟨q1, q2, q3⟩ := q
  refine ⟨q1, fun z hz2 => ?_, q3.imp id ?_⟩
  · obtain ⟨k, a1, a2, a3⟩ := cmpl w h0 hf hz hk hs.1 hz2
    have h1 := wk_ge a2 a3 d.X (Nat.le_refl _)
    have hl := sit_lt z
    have h2 := q2 (k * 64 + sit z) (by unfold Cp; rw [show (k * 64 + sit z) / 64 = k by omega, show (k * 64 + sit z) % 64 = sit z by omega]; exact a1)
    have h3 : wk d s ((k * 64 + sit z) / 64) ≤ b := h2
    rw [show (k * 64 + sit z) / 64 = k by omega] at h3
    exact Int.le_trans h1 h3
  · rintro ⟨p, p1, p2⟩
    obtain ⟨z, a1, a2, a3, a4⟩ := snd w hH h0 hf hz hk hs p1
    exact ⟨z, a1, by rw [← p2]; exact wk_eq a3 a4 d.X (Nat.le_refl _)⟩
theorem BSo_tr {P Q : Nat → Nat → Prop} {f g : Nat → Int} (h : ∀ t b, isMx (P t) f b → isMx (Q t) g b) : ∀ {L : Nat} {b : Int} {o : Nat}, BSo P f L b o → BSo Q g L b o
  | 0, b, o, q => q
  | t + 1, b, o, q => by
    obtain ⟨b1, o1, q1, q2, q3⟩ := q
    exact ⟨b1, o1, BSo_tr h q1, h _ _ q2, q3⟩
theorem isMx_un {P : Nat → Prop} {f : Nat → Int} {a b : Int} (h1 : isMx P f a) (h2 : isMx P f b) : a = b := by
  obtain ⟨p1, p2, p3⟩ := h1
  obtain ⟨q1, q2, q3⟩ := h2
  rcases p3 with p3 | ⟨z, z1, z2⟩
  · rcases q3 with q3 | ⟨y, y1, y2⟩
    · rw [p3, q3]
    · have := p2 y y1; omega
  · have := q2 z z1
    rcases q3 with q3 | ⟨y, y1, y2⟩
    · omega
    · have := p2 y y1; omega
theorem BSo_un {P : Nat → Nat → Prop} {f : Nat → Int} : ∀ {L : Nat} {a b : Int} {o p : Nat}, BSo P f L a o → BSo P f L b p → a = b ∧ o = p
  | 0, a, b, o, p, h1, h2 => ⟨h1.1.trans h2.1.symm, h1.2.trans h2.2.symm⟩
  | t + 1, a, b, o, p, h1, h2 => by
    obtain ⟨a1, o1, x1, x2, x3⟩ := h1
    obtain ⟨b1, p1, y1, y2, y3⟩ := h2
    obtain ⟨e1, e2⟩ := BSo_un x1 y1
    have e := isMx_un x2 y2
    exact ⟨e, by rw [x3, y3, e1, e2, e]⟩
