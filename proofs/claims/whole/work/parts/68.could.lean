/-! could -/
theorem and_bs (P : Nat → Bool) (j : Nat) {n : Nat} (hn : n ≤ 31) : nI j &&& nI (bs P n) = nI (bs (fun i => j.testBit i && P i) n) := by
  apply i32_ext
  intro i hi
  rw [Int32.toBitVec_and, BitVec.getLsbD_and, nI_bit _ hi, nI_bit _ hi, nI_bit _ hi, bs_bit, bs_bit]
  cases decide (i < n) <;> cases P i <;> cases j.testBit i <;> rfl
def al (P : Nat → Bool) (z : Int32) : Nat → Int32
  | 0 => z
  | j + 1 => if P j then al P z j &&& nI j else al P z j
def an (P : Nat → Bool) : Nat → Int32
  | 0 => 0
  | j + 1 => if P j then an P j ||| nI j else an P j
theorem an0 {P : Nat → Bool} : ∀ {j : Nat}, ct P j = 0 → an P j = 0
  | 0, _ => rfl
  | j + 1, h => by
    rw [ct] at h
    rw [an]
    by_cases q : P j = true
    · rw [if_pos q] at h; omega
    · rw [if_neg q] at h ⊢; exact an0 (by omega)
def cdP (d : HD) (s : SD) (x : Nat) (y n : Int32) (j : Nat) : Bool := decide (pc6 j ≤ stN d s d.C) && (decide (nI (pc6 (bs (fun i => j.testBit i && decide (0 < d.wi i x)) d.M)) = y) && decide (nI (pc6 (bs (fun i => j.testBit i && decide (d.wi i x < 0)) d.M)) = n))
theorem bnd_no (d : HD) (x m : Nat) : bnd d (fun _ => false) x m = false := by
  unfold bnd
  exact anyB_f fun i _ => by rw [Bool.and_false, Bool.and_false]
theorem Qu.ite2 {h : HI} {c : Prop} [Decidable c] {a b a2 b2 : Option (Int32 × HI)} (h1 : c → Qu h a a2) (h2 : ¬ c → Qu h b b2) : Qu h (if c then a else b) (if c then a2 else b2) := by
  by_cases q : c
  · rw [if_pos q, if_pos q]; exact h1 q
  · rw [if_neg q, if_neg q]; exact h2 q
theorem op_could {hh : Nat} {d : HD} {h : HI} {s : SD} (w : HDw d) (T : St hh d h s) (a y n k : Int32) : Qu h (fX8_could 0 hh hh h a y n k) (fX9_could 101 h a y n k) := by
  have hM := w.M6
  have hX := w.X4
  have hD := w.D4
  have hP : 2 ^ d.M ≤ 64 := Nat.pow_le_pow_right (n := 2) (j := 6) (by decide) hM
  have hst := stN_le w s d.C (Nat.le_refl _)
  have hC := w.C6
  unfold fX8_could fX9_could
  rcases rng a d.X (by omega) with ⟨x, hx, rfl⟩ | c
  · rw [has1 T.1.H.X hx (by omega), Option.bind_some, if_neg ne10, r_isMatter1 w T.2.H hx, Option.bind_some, if_neg ne10, r_men T.2.H, Option.bind_some, Nat.zero_add, c_seats w T.1, Option.bind_some]
    refine Qu.ite ⟨_, rfl, rfl⟩ (Qu.ite ⟨_, rfl, rfl⟩ (Qu.ite2 (fun _ => ⟨_, rfl, rfl⟩) fun k0 => Qu.ite2 (fun k3 => ?_) fun _ => ⟨_, rfl, rfl⟩))
    rw [T.1.H.M]
    obtain ⟨F, hL⟩ := lpd (fun m (p : Int32 × Int32 × Int32 × Int32) => fX8_could_69 0 hh hh (fun h7 v4 v5 v6 v7 => (if v4 = 0 then some (v5, h7) else (if v4 = (2 : Int32) then some (v7, h7) else (if v5 = 0 then some ((0 : Int32), h7) else some (v6, h7))))) m h (nI x) y n k p.1 p.2.1 p.2.2.1 (nI (stN d s d.C)) p.2.2.2) (fun j => (nI (ct (cdP d s x y n) j), al (cdP d s x y n) (((1 : Int32) <<< (nI d.M &&& 31)) - 1) j, an (cdP d s x y n) j, nI j)) (2 ^ d.M) (by omega) (by
      intro j hj m
      show fX8_could_69 0 hh hh _ (m + 1) h (nI x) y n k (nI _) _ _ _ (nI j) = fX8_could_69 0 hh hh _ m h (nI x) y n k (nI _) _ _ _ (nI (j + 1))
      have h6 := ct6_le j
      rw [fX8_could_69, T.1.H.M, one_shl (by omega), if_neg (nI_ge hj (by omega)), f_bit6 _ (by omega), Option.bind_some, ct, al, an]
      unfold fX8_could_151 cdP
      simp (disch := omega) only [gB, nI_clamp, nI_1]
      rw [T.1.H.li x hx, and_bs _ _ (by omega), f_bit6 _ (bs_lt6 _ hM), Option.bind_some]
      by_cases c1 : pc6 j ≤ stN d s d.C
      · rw [if_neg (nI_nlt c1 (by omega)), decide_eq_true c1, Bool.true_and]
        by_cases c2 : nI (pc6 (bs (fun i => j.testBit i && decide (0 < d.wi i x)) d.M)) = y
        · rw [if_pos c2, decide_eq_true c2, Bool.true_and, T.1.H.dl x hx, and_bs _ _ (by omega), f_bit6 _ (bs_lt6 _ hM), Option.bind_some]
          by_cases c3 : nI (pc6 (bs (fun i => j.testBit i && decide (d.wi i x < 0)) d.M)) = n
          · rw [if_pos c3, decide_eq_true c3]; rfl
          · rw [if_neg c3, decide_eq_false c3]; rfl
        · rw [if_neg c2, decide_eq_false c2]; rfl
      · rw [if_pos (nI_lt (by omega) (by omega)), decide_eq_false c1]; rfl)
    simp only at hL
    change fX8_could_69 0 hh hh _ FU h (nI x) y n k 0 (((1 : Int32) <<< (nI d.M &&& 31)) - 1) 0 (nI (stN d s d.C)) 0 = _ at hL
    obtain ⟨G, hG⟩ := lpd (fun m (p : Int32 × Int32 × Int32 × Int32) => fX9_could_48 101 (fun h11 v4 v5 v6 v7 => (if v4 = 0 then some (v5, h11) else (if v5 = 0 then some ((0 : Int32), h11) else (if v4 = (1 : Int32) then some (v6, h11) else some (v7, h11))))) m h (nI x) y n k p.1 p.2.1 p.2.2.1 p.2.2.2) (fun j => (nI (ct (cdP d s x y n) j), al (cdP d s x y n) (((1 : Int32) <<< (nI d.M &&& 31)) - 1) j, an (cdP d s x y n) j, nI j)) (2 ^ d.M) (by omega) (by
      intro j hj m
      show fX9_could_48 101 _ (m + 1) h (nI x) y n k (nI _) _ _ (nI j) = fX9_could_48 101 _ m h (nI x) y n k (nI _) _ _ (nI (j + 1))
      have h6 := ct6_le j
      have hS : ∀ i, i < d.M → ((nI j >>> (nI i &&& 31)) &&& 1) = b01 (j.testBit i) := fun i hi => by rw [shb _ (by omega), nI_bit _ (by omega)]
      have hq : ∀ i, i < d.D → (((0 : Int32) >>> (nI i &&& 31)) &&& 1) = b01 ((fun _ => false) i) := fun i hi => by
        have : ∀ i, i < 4 → (((0 : Int32) >>> (nI i &&& 31)) &&& 1) = 0 := by decide
        exact this i (by omega)
      have ey : bs (yesP d (fun i => j.testBit i) (fun _ => false) x) d.M = bs (fun i => j.testBit i && decide (0 < d.wi i x)) d.M := bs_cong fun i _ => by unfold yesP; rw [bnd_no, Bool.false_or]
      have en : bs (noP d (fun i => j.testBit i) (fun _ => false) x) d.M = bs (fun i => j.testBit i && decide (d.wi i x < 0)) d.M := bs_cong fun i _ => by unfold noP; rw [bnd_no, Bool.not_false, Bool.true_and]
      rw [fX9_could_48, r_men T.2.H, Option.bind_some, one_shl (by omega), if_neg (nI_ge hj (by omega)), f_ones6 _ (by omega), Option.bind_some, r_seats w T.2, Option.bind_some, ct, al, an, r_yes w T.2.H hx _ _ (fun i => j.testBit i) (fun _ => false) hS hq, Option.bind_some, ey, f_ones6 _ (bs_lt6 _ hM), Option.bind_some]
      unfold fX9_could_121 cdP
      rw [nI_1, nI_1]
      by_cases c1 : pc6 j ≤ stN d s d.C
      · rw [if_neg (nI_nlt c1 (by omega)), decide_eq_true c1, Bool.true_and]
        by_cases c2 : nI (pc6 (bs (fun i => j.testBit i && decide (0 < d.wi i x)) d.M)) = y
        · rw [if_pos c2, decide_eq_true c2, Bool.true_and, r_no w T.2.H hx _ _ (fun i => j.testBit i) (fun _ => false) hS hq, Option.bind_some, en, f_ones6 _ (bs_lt6 _ hM), Option.bind_some]
          by_cases c3 : nI (pc6 (bs (fun i => j.testBit i && decide (d.wi i x < 0)) d.M)) = n
          · rw [if_pos c3, decide_eq_true c3]; rfl
          · rw [if_neg c3, decide_eq_false c3]; rfl
        · rw [if_neg c2, decide_eq_false c2]; rfl
      · rw [if_pos (nI_lt (by omega) (by omega)), decide_eq_false c1]; rfl)
    simp only at hG
    change fX9_could_48 101 _ FU h (nI x) y n k 0 (((1 : Int32) <<< (nI d.M &&& 31)) - 1) 0 0 = _ at hG
    have hle : (1 : Int32) <<< (nI d.M &&& 31) ≤ nI (2 ^ d.M) := by rw [one_shl (by omega)]; exact nI_le (Nat.le_refl _) (by omega)
    rw [hL, hG, fX8_could_69, fX9_could_48, r_men T.2.H, Option.bind_some, T.1.H.M, if_pos hle, if_pos hle]
    refine Qu.ite2 (fun _ => ⟨_, rfl, rfl⟩) fun k4 => ?_
    have hc := ct_le (cdP d s x y n) (2 ^ d.M)
    by_cases z : ct (cdP d s x y n) (2 ^ d.M) = 0
    · rw [an0 z, if_pos (show nI (ct (cdP d s x y n) (2 ^ d.M)) = 0 by rw [z]; rfl), if_pos (show nI (ct (cdP d s x y n) (2 ^ d.M)) = 0 by rw [z]; rfl), ite_self]
      exact ⟨_, rfl, rfl⟩
    · rw [if_neg (nI_ne0 (by omega) (by omega)), if_neg (nI_ne0 (by omega) (by omega))]
      by_cases k2 : k = 2
      · rw [if_pos k2, if_neg (show ¬ k = (1 : Int32) by rw [k2]; decide)]; exact ⟨_, rfl, rfl⟩
      · rw [if_neg k2]
        by_cases k1 : k = 1
        · rw [if_pos k1]; exact ⟨_, rfl, rfl⟩
        · obtain ⟨z, hz, rfl⟩ := nI_of k0
          have : z ≤ 2 := (nI_leI (b := 2) hz (by decide)).mp k3
          rcases (show z = 0 ∨ z = 1 ∨ z = 2 by omega) with e | e | e <;> subst e
          · exact absurd rfl k4
          · exact absurd rfl k1
          · exact absurd rfl k2
  · exact Qu.mk (-1) (by rw [has0 T.1.H.X c, Option.bind_some, if_pos rfl]) (by rw [r_isMatter0 T.2.H c, Option.bind_some, if_pos rfl])
