/-! the floor: one minute of the reference over all states -/
def ZZ (h : HI) (c : Nat) (sg : Nat → Nat) (D : Nat → Nat → Prop) (g : HI) (f : Int32) : Prop := (f = 0 ∨ f = 1) ∧ ((¬ f = 0) ↔ ∃ s k, D s k ∧ ¬ h.1 140 s = 0 ∧ nib s k < sg k) ∧ (∀ t, t < 4096 → (g.1 141 t = 0 ∨ g.1 141 t = 1) ∧ ((¬ g.1 141 t = 0) ↔ ∃ s k, D s k ∧ ¬ h.1 140 s = 0 ∧ nib s k < sg k ∧ t = stp s k c)) ∧ Fr (fun a _ => a = 141) h g
theorem ZZ.cong {h g : HI} {c : Nat} {sg : Nat → Nat} {D E : Nat → Nat → Prop} {f : Int32} (Z : ZZ h c sg D g f) (e : ∀ s k, ¬ h.1 140 s = 0 → nib s k < sg k → (D s k ↔ E s k)) : ZZ h c sg E g f := by
  obtain ⟨z1, z2, z3, z4⟩ := Z
  refine ⟨z1, z2.trans ⟨?_, ?_⟩, fun t ht => ⟨(z3 t ht).1, (z3 t ht).2.trans ⟨?_, ?_⟩⟩, z4⟩
  · rintro ⟨s, k, a, b, c⟩; exact ⟨s, k, (e s k b c).mp a, b, c⟩
  · rintro ⟨s, k, a, b, c⟩; exact ⟨s, k, (e s k b c).mpr a, b, c⟩
  · rintro ⟨s, k, a, b, c, d⟩; exact ⟨s, k, (e s k b c).mp a, b, c, d⟩
  · rintro ⟨s, k, a, b, c, d⟩; exact ⟨s, k, (e s k b c).mpr a, b, c, d⟩
theorem ZZ.put {h g : HI} {c : Nat} {sg : Nat → Nat} {D : Nat → Nat → Prop} {f : Int32} {s0 k0 : Nat} (Z : ZZ h c sg D g f) (h1 : ¬ h.1 140 s0 = 0) (h2 : nib s0 k0 < sg k0) : ZZ h c sg (fun s k => D s k ∨ s = s0 ∧ k = k0) (uI g 141 (stp s0 k0 c) 1) 1 := by
  obtain ⟨z1, z2, z3, z4⟩ := Z
  refine ⟨Or.inr rfl, ⟨fun _ => ⟨s0, k0, Or.inr ⟨rfl, rfl⟩, h1, h2⟩, fun _ => by decide⟩, fun t ht => ?_, z4.tr (Fr.uI rfl)⟩
  by_cases q : t = stp s0 k0 c
  · rw [q, uI_s]
    exact ⟨Or.inr rfl, ⟨fun _ => ⟨s0, k0, Or.inr ⟨rfl, rfl⟩, h1, h2, rfl⟩, fun _ => by decide⟩⟩
  · rw [uI_n (by omega)]
    refine ⟨(z3 t ht).1, (z3 t ht).2.trans ⟨?_, ?_⟩⟩
    · rintro ⟨s, k, a, b, c, d⟩; exact ⟨s, k, Or.inl a, b, c, d⟩
    · rintro ⟨s, k, a, b, c, d⟩
      rcases a with a | ⟨rfl, rfl⟩
      · exact ⟨s, k, a, b, c, d⟩
      · exact absurd d q
theorem r_fon {h : HI} {c : Nat} {mm sg : Nat → Nat} (c1 : 1 ≤ c) (c3 : c ≤ 3) (hm : ∀ k, k < c → mm k < 6 ∧ h.1 142 k = nI (mm k) ∧ h.1 119 (mm k) = nI (sg k) ∧ sg k ≤ 15) : ∃ f h1, fX9_floorOn 101 h (nI c) = some (f, h1) ∧ (f = 0 ∨ f = 1) ∧ ((¬ f = 0) ↔ ∃ s k, s < 4096 ∧ k < c ∧ ¬ h.1 140 s = 0 ∧ nib s k < sg k) ∧ (∀ t, t < 4096 → (h1.1 140 t = 0 ∨ h1.1 140 t = 1) ∧ ((¬ h1.1 140 t = 0) ↔ ∃ s k, s < 4096 ∧ k < c ∧ ¬ h.1 140 s = 0 ∧ nib s k < sg k ∧ t = stp s k c)) ∧ Fr (fun a _ => a = 140 ∨ a = 141) h h1 := by
  unfold fX9_floorOn
  obtain ⟨F1, ⟨g1, i1⟩, ⟨hi1, hz1, hF1⟩, hL1⟩ := lpi (fun n (p : HI × Int32) => fX9_floorOn_4 101 (fun h2 v1 v2 => fX9_floorOn_26 101 (fun h7 v2 => fX9_floorOn_108 101 (fun h9 v2 => (if v2 = 0 ∨ v2 = 1 then some (v2, h9) else none)) FU h7 v2 (0 : Int32)) FU h2 v1 v2 (0 : Int32)) n p.1 (nI c) 0 p.2) (fun j p => p.2 = nI j ∧ (∀ t, t < j → p.1.1 141 t = 0) ∧ Fr (fun a _ => a = 141) h p.1) 4096 (by omega) (by
    rintro j ⟨g, i⟩ hj ⟨hi, hz, hF⟩
    simp only at hi hz hF
    subst hi
    refine ⟨(uI g 141 j 0, nI (j + 1)), ⟨rfl, fun t ht => ?_, hF.tr (Fr.uI rfl)⟩, fun n => ?_⟩
    · show (uI g 141 j 0).1 141 t = 0
      by_cases e : t = j
      · rw [e, uI_s]
      · rw [uI_n (by omega)]; exact hz t (by omega)
    · show fX9_floorOn_4 101 _ (n + 1) g (nI c) 0 (nI j) = fX9_floorOn_4 101 _ n _ (nI c) 0 (nI (j + 1))
      rw [fX9_floorOn_4, if_neg (show ¬ (4096 : Int32) ≤ nI j from nI_ge (b := 4096) hj (by decide))]
      simp (disch := omega) only [gB, nI_clamp, Nat.reduceAdd, nI_1]) (s0 := (h, 0)) ⟨rfl, fun t ht => absurd ht (Nat.not_lt_zero t), Fr.rf⟩
  simp only at hi1 hz1 hF1 hL1
  subst hi1
  rw [hL1, fX9_floorOn_4, if_pos (show (4096 : Int32) ≤ nI 4096 by decide)]
  have Z0 : ZZ h c sg (fun s k => s < 0 ∧ k < c) g1 0 := ⟨Or.inl rfl, ⟨fun q => absurd rfl q, fun ⟨s, k, a, _⟩ => absurd a.1 (Nat.not_lt_zero s)⟩, fun t ht => ⟨Or.inl (hz1 t ht), ⟨fun q => absurd (hz1 t ht) q, fun ⟨s, k, a, _⟩ => absurd a.1 (Nat.not_lt_zero s)⟩⟩, hF1⟩
  obtain ⟨F2, ⟨g2, f2, i2⟩, ⟨hi2, Z2⟩, hL2⟩ := lpi (fun n (p : HI × Int32 × Int32) => fX9_floorOn_26 101 (fun h7 v2 => fX9_floorOn_108 101 (fun h9 v2 => (if v2 = 0 ∨ v2 = 1 then some (v2, h9) else none)) FU h7 v2 (0 : Int32)) n p.1 (nI c) p.2.1 p.2.2) (fun j p => p.2.2 = nI j ∧ ZZ h c sg (fun s k => s < j ∧ k < c) p.1 p.2.1) 4096 (by omega) (by
    rintro j ⟨g, f, i⟩ hj ⟨hi, Z⟩
    simp only at hi Z
    subst hi
    have gn : ∀ b, g.1 140 b = h.1 140 b := fun b => Z.2.2.2.1 _ _ (show ¬ 140 = 141 by decide)
    by_cases q : h.1 140 j = 0
    · refine ⟨(g, f, nI (j + 1)), ⟨rfl, Z.cong fun s k a b => ⟨fun z => ⟨by omega, z.2⟩, fun z => ⟨?_, z.2⟩⟩⟩, fun n => ?_⟩
      · rcases (show s < j ∨ s = j by omega) with y | y
        · exact y
        · rw [y] at a; exact absurd q a
      · show fX9_floorOn_26 101 _ (n + 1) g (nI c) f (nI j) = fX9_floorOn_26 101 _ n g (nI c) f (nI (j + 1))
        obtain ⟨G, hG⟩ := FU_ge (n := 0) (by omega)
        rw [fX9_floorOn_26, if_neg (show ¬ (4096 : Int32) ≤ nI j from nI_ge (b := 4096) hj (by decide)), hG, fX9_floorOn_36, if_neg (show ¬ nI c ≤ (0 : Int32) from nI_nle (by omega) (by omega))]
        simp (disch := omega) only [gB, nI_clamp, Nat.reduceAdd]
        rw [gn, if_pos q]
        unfold fX9_floorOn_100
        rw [nI_1]
    · have inner : ∃ g' f', (∀ K : HI → Int32 → Int32 → Int32 → Option (Int32 × HI), fX9_floorOn_36 101 K FU g (nI c) f (nI j) 0 = K g' (nI c) f' (nI j)) ∧ ZZ h c sg (fun s k => s < j + 1 ∧ k < c) g' f' := by
        obtain ⟨F3, ⟨g3, f3, i3⟩, ⟨hi3, Z3⟩, hL3⟩ := lpi (fun n (p : HI × Int32 × Int32) => fun K : HI → Int32 → Int32 → Int32 → Option (Int32 × HI) => fX9_floorOn_36 101 K n p.1 (nI c) p.2.1 (nI j) p.2.2) (fun i p => p.2.2 = nI i ∧ ZZ h c sg (fun s k => s < j ∧ k < c ∨ s = j ∧ k < i) p.1 p.2.1) c (by omega) (by
          rintro i ⟨g3, f3, i3⟩ hi ⟨hi3, Z3⟩
          simp only at hi3 Z3
          subst hi3
          obtain ⟨m1, m2, m3, m4⟩ := hm i hi
          have gg : ∀ a b, ¬ a = 141 → g3.1 a b = h.1 a b := fun a b e => Z3.2.2.2.1 _ _ e
          have e1 : ∀ n K, fX9_floorOn_36 101 K (n + 1) g3 (nI c) f3 (nI j) (nI i) = if nI (nib j i) < nI (sg i) then ((fX9_floorStep 101 g3 (nI j) (nI c) (nI i)).bind fun p3 => (if inB p3.1 4096 then fX9_floorOn_36 101 K n (uI p3.2 141 (p3.1.toNatClampNeg) (1 : Int32)) (nI c) (1 : Int32) (nI j) (nI (i + 1)) else none)) else fX9_floorOn_36 101 K n g3 (nI c) f3 (nI j) (nI (i + 1)) := by
            intro n K
            rw [fX9_floorOn_36, if_neg (nI_ge hi (by omega))]
            unfold fX9_floorOn_94
            simp (disch := omega) only [gB, nI_clamp, Nat.reduceAdd, gg 142 i (by decide), m2]
            rw [gg 140 j (by decide), if_neg q, gg 119 _ (by decide), m3, nib_n (by omega) (by omega), nI_1]
          by_cases q2 : nib j i < sg i
          · have hlt := stp_lt (s := j) (k := i) (show nib j i < 15 by omega) c
            have h16 : (16 : Nat) ^ c ≤ 4096 := Nat.pow_le_pow_right (n := 16) (j := 3) (by decide) c3
            refine ⟨(uI g3 141 (stp j i c) 1, 1, nI (i + 1)), ⟨rfl, (Z3.put q q2).cong fun s k a b => ?_⟩, fun n => funext fun K => ?_⟩
            · constructor
              · rintro ((z | z) | z)
                · exact Or.inl z
                · exact Or.inr ⟨z.1, by omega⟩
                · exact Or.inr ⟨z.1, by omega⟩
              · rintro (z | z)
                · exact Or.inl (Or.inl z)
                · rcases (show k < i ∨ k = i by omega) with y | y
                  · exact Or.inl (Or.inr ⟨z.1, y⟩)
                  · exact Or.inr ⟨z.1, y⟩
            · show fX9_floorOn_36 101 K (n + 1) g3 (nI c) f3 (nI j) (nI i) = fX9_floorOn_36 101 K n _ (nI c) 1 (nI j) (nI (i + 1))
              rw [e1, if_pos (nI_lt q2 (by omega)), r_fstep (by omega) c3 hi (by omega), Option.bind_some]
              simp (disch := omega) only [gB, nI_clamp]
          · refine ⟨(g3, f3, nI (i + 1)), ⟨rfl, Z3.cong fun s k a b => ?_⟩, fun n => funext fun K => ?_⟩
            · constructor
              · rintro (z | z)
                · exact Or.inl z
                · exact Or.inr ⟨z.1, by omega⟩
              · rintro (z | z)
                · exact Or.inl z
                · rcases (show k < i ∨ k = i by omega) with y | y
                  · exact Or.inr ⟨z.1, y⟩
                  · rw [z.1, y] at b; exact absurd b q2
            · show fX9_floorOn_36 101 K (n + 1) g3 (nI c) f3 (nI j) (nI i) = fX9_floorOn_36 101 K n g3 (nI c) f3 (nI j) (nI (i + 1))
              rw [e1, if_neg (nI_nlt (by omega) (by have := nib_lt j i; omega))]) (s0 := (g, f, 0)) ⟨rfl, Z.cong fun s k a b => ⟨fun z => Or.inl z, fun z => by
            rcases z with z | z
            · exact z
            · exact absurd z.2 (Nat.not_lt_zero k)⟩⟩
        simp only at hi3 Z3 hL3
        subst hi3
        refine ⟨g3, f3, fun K => by rw [congrFun hL3 K, fX9_floorOn_36, if_pos (nI_le (Nat.le_refl _) (by omega))], Z3.cong fun s k a b => ?_⟩
        constructor
        · rintro (z | z)
          · exact ⟨by omega, z.2⟩
          · exact ⟨by omega, z.2⟩
        · intro z
          rcases (show s < j ∨ s = j by omega) with y | y
          · exact Or.inl ⟨y, z.2⟩
          · exact Or.inr ⟨y, z.2⟩
      obtain ⟨g', f', e', Z'⟩ := inner
      refine ⟨(g', f', nI (j + 1)), ⟨rfl, Z'⟩, fun n => ?_⟩
      show fX9_floorOn_26 101 _ (n + 1) g (nI c) f (nI j) = fX9_floorOn_26 101 _ n g' (nI c) f' (nI (j + 1))
      rw [fX9_floorOn_26, if_neg (show ¬ (4096 : Int32) ≤ nI j from nI_ge (b := 4096) hj (by decide))]
      rw [e']
      unfold fX9_floorOn_100
      rw [nI_1]) (s0 := (g1, 0, 0)) ⟨rfl, Z0⟩
  simp only at hi2 Z2 hL2
  subst hi2
  rw [hL2, fX9_floorOn_26, if_pos (show (4096 : Int32) ≤ nI 4096 by decide)]
  obtain ⟨y1, y2, y3, y4⟩ := Z2
  obtain ⟨F4, ⟨g4, i4⟩, ⟨hi4, hz4, hF4⟩, hL4⟩ := lpi (fun n (p : HI × Int32) => fX9_floorOn_108 101 (fun h9 v2 => (if v2 = 0 ∨ v2 = 1 then some (v2, h9) else none)) n p.1 f2 p.2) (fun j p => p.2 = nI j ∧ (∀ t, t < j → p.1.1 140 t = g2.1 141 t) ∧ Fr (fun a _ => a = 140) g2 p.1) 4096 (by omega) (by
    rintro j ⟨g, i⟩ hj ⟨hi, hz, hF⟩
    simp only at hi hz hF
    subst hi
    refine ⟨(uI g 140 j (g2.1 141 j), nI (j + 1)), ⟨rfl, fun t ht => ?_, hF.tr (Fr.uI rfl)⟩, fun n => ?_⟩
    · show (uI g 140 j (g2.1 141 j)).1 140 t = _
      by_cases e : t = j
      · rw [e, uI_s]
      · rw [uI_n (by omega)]; exact hz t (by omega)
    · show fX9_floorOn_108 101 _ (n + 1) g f2 (nI j) = fX9_floorOn_108 101 _ n _ f2 (nI (j + 1))
      rw [fX9_floorOn_108, if_neg (show ¬ (4096 : Int32) ≤ nI j from nI_ge (b := 4096) hj (by decide))]
      simp (disch := omega) only [gB, nI_clamp, Nat.reduceAdd, nI_1]
      have e : vp_nar .boolean (g.1 141 j) = g2.1 141 j := by
        rw [hF.1 141 j (show ¬ 141 = 140 by decide)]
        rcases (y3 j hj).1 with e | e <;> rw [e] <;> rfl
      rw [e]) (s0 := (g2, 0)) ⟨rfl, fun t ht => absurd ht (Nat.not_lt_zero t), Fr.rf⟩
  simp only at hi4 hz4 hF4 hL4
  subst hi4
  refine ⟨f2, g4, ?_, y1, y2.trans ⟨?_, ?_⟩, fun t ht => ?_, (y4.mono fun a b q => Or.inr q).tr (hF4.mono fun a b q => Or.inl q)⟩
  · rw [hL4, fX9_floorOn_108, if_pos (show (4096 : Int32) ≤ nI 4096 by decide), if_pos y1]
  · rintro ⟨s, k, a, b, c⟩; exact ⟨s, k, a.1, a.2, b, c⟩
  · rintro ⟨s, k, a1, a2, b, c⟩; exact ⟨s, k, ⟨a1, a2⟩, b, c⟩
  · rw [hz4 t ht]
    refine ⟨(y3 t ht).1, (y3 t ht).2.trans ⟨?_, ?_⟩⟩
    · rintro ⟨s, k, a, b, c, d⟩; exact ⟨s, k, a.1, a.2, b, c, d⟩
    · rintro ⟨s, k, a1, a2, b, c, d⟩; exact ⟨s, k, ⟨a1, a2⟩, b, c, d⟩
