/-! the first state: both together -/
theorem p1_ok : ∃ p : HI, gX8_0 (zc h00 0) = some p ∧ CH 11 d00 p ∧ CS 56 d00 p (s00 d00) ∧ p.1 29 2 = nI 3 ∧ (∀ i, i < 3 → p.1 30 i = nI (rdef.getD i 0)) ∧ Wd p ∧ p.1 53 8 = 0 ∧ p.1 53 9 = -1 ∧ ∀ a b, a ≤ 28 → p.1 a b = 0 := by
  obtain ⟨gA, aA, fA, HA, eA, cA⟩ := g11
  obtain ⟨gB, aB, fB⟩ := g32 (zc gA 32)
  have FB : Fr (fun a _ => 32 ≤ a ∧ a ≤ 52) gA gB := (Fr.zr (fun _ => by decide)).tr fB
  obtain ⟨gC, aC, FC, DC, c8, c9⟩ := g53 gB
  have HC : CH 11 d00 gC := (HA.keep FB (fun a b p q z => by omega)).keep FC (fun a b p q z => by omega)
  obtain ⟨gD, aD, FD, SD⟩ := g56 HC
  have HD : CH 11 d00 gD := HC.keep FD (fun a b p q z => by unfold Wc at z; omega)
  obtain ⟨gE, aE, FE⟩ := g65 gD
  have HE : CH 11 d00 gE := HD.keep FE (fun a b p q z => by unfold Wc at z; omega)
  obtain ⟨gF, aF, FF, _⟩ := g74 HE
  have HF : CH 11 d00 gF := HE.keep FF (fun a b p q z => by unfold Wc at z; omega)
  obtain ⟨gG, aG, FG, _⟩ := g83 HF
  have HG : CH 11 d00 gG := HF.keep FG (fun a b p q z => by unfold Wc at z; omega)
  obtain ⟨gH, aH, FH, _⟩ := g92 HG
  have HH : CH 11 d00 gH := HG.keep FH (fun a b p q z => by unfold Wc at z; omega)
  have FDH : Fr (fun a _ => 65 ≤ a) gD gH := (((FE.mono fun a b z => by unfold Wc at z; omega).tr (FF.mono fun a b z => by unfold Wc at z; omega)).tr (FG.mono fun a b z => by unfold Wc at z; omega)).tr (FH.mono fun a b z => by unfold Wc at z; omega)
  have FCH : Fr (fun a _ => 56 ≤ a) gC gH := (FD.mono fun a b z => by unfold Wc at z; omega).tr (FDH.mono fun a b z => by omega)
  have FAH : Fr (fun a _ => 32 ≤ a) gA gH := ((FB.mono fun a b z => z.1).tr (FC.mono fun a b z => by omega)).tr (FCH.mono fun a b z => by omega)
  have F0H : Fr (fun a _ => 29 ≤ a) h00 gH := (fA.mono fun a b z => by omega).tr (FAH.mono fun a b z => by omega)
  have a8 : gX8_0 (zc h00 0) = some gH := by
    unfold gX8_0 gX7_1 gX0_5
    rw [zc0, zc0, zc0, Option.bind_some, zc0, zc0, zc0, zc0, zc0, zc0, zc0, zc0, Option.bind_some, zc0, aA, Option.bind_some, aB, Option.bind_some, aC, Option.bind_some, aD, Option.bind_some, aE, Option.bind_some, aF, Option.bind_some, aG, Option.bind_some, aH, Option.bind_some]
  refine ⟨gH, a8, HH, SD.keep FDH (fun a b p q z => by omega), ?_, fun i hi => ?_, DC.keep FCH (fun a b p z => by omega), ?_, ?_, fun a b ha => ?_⟩
  · rw [FAH.1 _ _ (by omega)]; exact eA
  · rw [FAH.1 _ _ (by omega)]; exact cA i hi
  · rw [FCH.1 _ _ (by omega)]; exact c8
  · rw [FCH.1 _ _ (by omega)]; exact c9
  · rw [F0H.1 _ _ (by omega)]; rfl
theorem RS0 {p : HI} (zp : ∀ a b, 102 ≤ a → a ≤ 154 → p.1 a b = 0) (s : ∀ b, ¬ b = 3 → p.1 101 b = 0) : RS d00 p (s00 d00) := ⟨fun i hi => absurd hi.2 (Nat.not_lt_zero 0), fun i _ => zp 129 i (by decide) (by decide), fun i _ => zp 130 i (by decide) (by decide), fun i _ => zp 131 i (by decide) (by decide), fun i _ => zp 132 i (by decide) (by decide), fun i _ => zp 133 i (by decide) (by decide), fun i _ => zp 134 i (by decide) (by decide), fun i _ => zp 135 i (by decide) (by decide), s 57 (by decide), s 58 (by decide), s 59 (by decide), fun i w hi => absurd hi (Nat.not_lt_zero i), fun k c hk => absurd hk (Nat.not_lt_zero k)⟩
theorem RH0 {p : HI} (zp : ∀ a b, 102 ≤ a → a ≤ 154 → p.1 a b = 0) (s : ∀ b, ¬ b = 3 → p.1 101 b = 0) : RH d00 p := ⟨zp 112 0 (by decide) (by decide), zp 112 1 (by decide) (by decide), zp 112 2 (by decide) (by decide), fun i hi => absurd hi (Nat.not_lt_zero i), fun i hi => absurd hi (Nat.not_lt_zero i), fun i hi => absurd hi (Nat.not_lt_zero i), fun m x hm => absurd hm (Nat.not_lt_zero m), fun i hi => absurd hi (Nat.not_lt_zero i), fun i hi => absurd hi (Nat.not_lt_zero i), fun i hi => absurd hi (Nat.not_lt_zero i), fun i hi => absurd hi (Nat.not_lt_zero i), fun i hi => absurd hi (Nat.not_lt_zero i), fun i hi => absurd hi (Nat.not_lt_zero i), s 44 (by decide), s 45 (by decide), s 46 (by decide), s 20 (by decide)⟩
theorem Sp00 {p : HI} (zp : ∀ a b, 102 ≤ a → a ≤ 154 → p.1 a b = 0) (s : ∀ b, ¬ b = 3 → p.1 101 b = 0) : Sp 0 p := by
  refine ⟨s 64 (by decide), fun z _ => ⟨0, Nat.le_refl _, ?_⟩⟩
  rw [zp 138 z (by decide) (by decide)]; rfl
theorem Bk00 {p : HI} (z0 : ∀ a b, a ≤ 28 → p.1 a b = 0) (s : ∀ b, ¬ b = 3 → p.1 101 b = 0) : Bk p := ⟨0, 0, by decide, by decide, z0 5 5 (by decide), s 79 (by decide), z0 5 6 (by decide), s 80 (by decide), fun i hi => absurd hi (Nat.not_lt_zero i), fun i hi => absurd hi (Nat.not_lt_zero i)⟩
