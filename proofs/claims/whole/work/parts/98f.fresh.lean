/-! a new sitting -/
def s00 (d : HD) : SD := (fun m => if m < d.M ∧ d.dr m = true then -2 else -1, fun _ => 0, fun _ => 0, fun _ => 0, fun _ => 0, fun _ => 0, fun _ => false, fun _ => false, 0, 0, 0, fun _ _ => 0, fun _ _ => 0, fun _ => 0, 0)
theorem wh00 (d : HD) (m : Nat) : (s00 d).wh m = -2 ∨ (s00 d).wh m = -1 := by
  show (if m < d.M ∧ d.dr m = true then (-2 : Int32) else -1) = -2 ∨ (if m < d.M ∧ d.dr m = true then (-2 : Int32) else -1) = -1
  split
  · exact Or.inl rfl
  · exact Or.inr rfl
theorem ne00 : ∀ c, c < 6 → ¬ (-2 : Int32) = nI c ∧ ¬ (-1 : Int32) = nI c := by decide
theorem SDw0 {d : HD} (w : HDw d) : SDw d (s00 d) := by
  refine ⟨⟨fun i _ => ?_, fun i _ => Nat.zero_le _, fun i _ _ => rfl, fun x _ => Nat.zero_le _, fun i _ => (show (0 : Nat) ≤ 3 ∧ (0 : Nat) ≠ 1 by decide), fun i _ z => absurd rfl z, Nat.zero_le _, fun i hi => absurd hi (Nat.not_lt_zero i), fun i _ => ?_, fun k hk => absurd hk (Nat.not_lt_zero k)⟩, Nat.zero_le _, rfl, fun c hc => ?_⟩
  · rcases wh00 d i with z | z
    · exact Or.inl z
    · exact Or.inr (Or.inl z)
  · show (0 : Int32) = if (0 : Nat) = 0 then b01 (due d (s00 d) i) else nI 0
    have : due d (s00 d) i = false := by
      unfold due
      refine decide_eq_false (fun z => z ?_)
      show ((0 : Int32) >>> (nI (d.ox i) &&& 31)) &&& 1 = 0
      by_cases c : d.ox i < 32
      · rw [shb _ c]; simp [b01]
      · simp
    rw [if_pos rfl, this]; rfl
  · have hc6 : c < 6 := by have := w.C6; omega
    rw [ct_cong (Q := fun _ => false) (fun m _ => decide_eq_false (fun z => by
      rcases wh00 d m with y | y <;> rw [y] at z
      · exact (ne00 c hc6).1 z
      · exact (ne00 c hc6).2 z)), ct_f]
    exact Nat.zero_le _
theorem c_fl {a N : Nat} {h : HI} (hN : N ≤ 1000) : ∃ g, fJ7_fill_53178 a N h 0 = some g ∧ Fr (fun x _ => x = a) h g ∧ ∀ k, k < N → g.1 a k = 0 := by
  unfold fJ7_fill_53178
  have L := lpS (f := fun k F h v => fJ7_fill_53178_5 a N k F h 0 v (nI N)) (st := fun i h => uI h a i 0) (Q := fun _ => True) (N := N) (h := h) (fun k F h _ => by
    show fJ7_fill_53178_5 a N k (F + 1) h 0 (nI N) (nI N) = k h
    rw [fJ7_fill_53178_5, if_pos (nI_le (Nat.le_refl _) (by omega))]) (fun k F h i hi _ => by
    show fJ7_fill_53178_5 a N k (F + 1) h 0 (nI i) (nI N) = _
    rw [fJ7_fill_53178_5, if_neg (nI_ge hi (by omega))]
    simp (disch := omega) only [gB, nI_clamp, nI_1]) (fun _ _ _ _ => trivial) trivial (by omega)
  refine ⟨_, L.2 _, itF (W := fun x _ => x = a) (N := N) (fun i g _ => Fr.uI rfl) h N (Nat.le_refl _), fun x hx => ?_⟩
  exact itV (a := a) (N := N) (v := fun _ _ => 0) (fun i g _ => uI_s _ _ _ _) (fun i j g hj _ => uI_n (by omega)) h N (Nat.le_refl _) x hx
theorem c_beg {q : Nat} {d : HD} {h : HI} (hq : q + 20 < 53) (R : CH q d h) : ∃ g, fX6_begin 56 q h = some g ∧ Fr (Wc 56) h g ∧ CS 56 d g (s00 d) := by
  unfold fX6_begin
  obtain ⟨g0, hg0⟩ : ∃ g0, g0 = uI (uI (uI (uI (uI h 56 1 0) 56 2 0) 56 3 0) 56 4 0) 56 5 0 := ⟨_, rfl⟩
  have f0 : Fr (fun a b => a = 56) h g0 := by
    rw [hg0]
    iterate 4 refine Fr.tr ?_ (Fr.uI rfl)
    exact Fr.uI rfl
  have v : g0.1 56 1 = 0 ∧ g0.1 56 2 = 0 ∧ g0.1 56 3 = 0 ∧ g0.1 56 4 = 0 ∧ g0.1 56 5 = 0 := by
    rw [hg0]
    refine ⟨?_, ?_, ?_, ?_, ?_⟩ <;> simp (disch := omega) only [uI_s, uI_n]
  rw [← hg0]
  clear hg0
  have L := lpS (f := fun k => fX6_begin_32 56 q k) (st := fun i g => uI g 57 i ((s00 d).wh i)) (Q := fun g => g.1 q 6 = nI (bs d.dr d.M)) (N := 6) (h := g0) (fun k F h _ => by
    show fX6_begin_32 56 q k (F + 1) h (nI 6) = k h
    rw [fX6_begin_32, if_pos (by decide)]) (fun k F g i hi Q => by
    have Q : g.1 q 6 = nI (bs d.dr d.M) := Q
    show fX6_begin_32 56 q k (F + 1) g (nI i) = _
    rw [fX6_begin_32, if_neg (show ¬ (6 : Int32) ≤ nI i from nI_ge (show i < 6 from hi) (by decide)), Q, tst6 d.dr hi]
    unfold fX6_begin_63
    simp (disch := omega) only [gB, nI_clamp, nI_1]
    show _ = fX6_begin_32 56 q k F (uI g 57 i (if i < d.M ∧ d.dr i = true then (-2 : Int32) else -1)) (nI (i + 1))
    by_cases c : i < d.M ∧ d.dr i = true
    · rw [if_pos c, decide_eq_true c.1, c.2, if_neg (show ¬ b01 (true && true) = 0 from b01t)]
    · rw [if_neg c, if_pos (show b01 (decide (i < d.M) && d.dr i) = 0 by
        rw [show (decide (i < d.M) && d.dr i) = false from by
          by_cases c1 : i < d.M
          · rw [decide_eq_true c1]
            cases y : d.dr i with
            | false => rfl
            | true => exact absurd ⟨c1, y⟩ c
          · rw [decide_eq_false c1]; rfl]; rfl)]) (fun i g hi Q => by
    show (uI g 57 i ((s00 d).wh i)).1 q 6 = _
    rw [uI_n (by omega)]; exact Q) (by rw [f0.1 _ _ (by omega)]; exact R.dr) (by decide)
  rw [L.2]
  have f1 : Fr (fun a b => a = 57) g0 (itS (fun i g => uI g 57 i ((s00 d).wh i)) 6 g0) := itF (W := fun x _ => x = 57) (N := 6) (fun i g _ => Fr.uI rfl) g0 6 (Nat.le_refl _)
  have v1 : ∀ i, i < 6 → (itS (fun i g => uI g 57 i ((s00 d).wh i)) 6 g0).1 57 i = (s00 d).wh i := fun i hi => itV (a := 57) (N := 6) (v := fun i _ => (s00 d).wh i) (fun i g _ => uI_s _ _ _ _) (fun i j g hj _ => uI_n (by omega)) g0 6 (Nat.le_refl _) i hi
  clear L
  revert f1 v1
  generalize itS (fun i g => uI g 57 i ((s00 d).wh i)) 6 g0 = g1
  intro f1 v1
  obtain ⟨g2, a2, f2, v2⟩ := c_fl (a := 58) (N := 6) (h := g1) (by decide)
  obtain ⟨g3, a3, f3, v3⟩ := c_fl (a := 59) (N := 6) (h := g2) (by decide)
  obtain ⟨g4, a4, f4, v4⟩ := c_fl (a := 60) (N := 6) (h := g3) (by decide)
  obtain ⟨g5, a5, f5, v5⟩ := c_fl (a := 61) (N := 4) (h := g4) (by decide)
  obtain ⟨g6, a6, f6, v6⟩ := c_fl (a := 62) (N := 4) (h := g5) (by decide)
  rw [a2, Option.bind_some, a3, Option.bind_some, a4, Option.bind_some, a5, Option.bind_some, a6, Option.bind_some]
  have k : ∀ a b, a = 56 ∨ a = 57 → g6.1 a b = g1.1 a b := fun a b z => by
    rw [f6.1 _ _ (by omega), f5.1 _ _ (by omega), f4.1 _ _ (by omega), f3.1 _ _ (by omega), f2.1 _ _ (by omega)]
  have k0 : ∀ b, g6.1 56 b = g0.1 56 b := fun b => (k _ _ (by omega)).trans (f1.1 _ _ (by omega))
  refine ⟨g6, rfl, (((((((f0.mono fun a b z => by unfold Wc; omega).tr (f1.mono fun a b z => by unfold Wc; omega)).tr (f2.mono fun a b z => by unfold Wc; omega)).tr (f3.mono fun a b z => by unfold Wc; omega)).tr (f4.mono fun a b z => by unfold Wc; omega)).tr (f5.mono fun a b z => by unfold Wc; omega)).tr (f6.mono fun a b z => by unfold Wc; omega)), ?_⟩
  obtain ⟨w1, w2, w3, w4, w5⟩ := v
  refine ⟨fun i hi => (k _ _ (by omega)).trans (v1 i hi), fun i hi => ?_, fun i hi => ?_, fun i hi => ?_, fun i hi => ?_, fun i hi => ?_, ?_, ?_, (k0 1).trans w1, (k0 2).trans w2, (k0 3).trans w3, fun i w hi => absurd hi (Nat.not_lt_zero i), fun k hk => absurd hk (Nat.not_lt_zero k)⟩
  · rw [f6.1 _ _ (by omega), f5.1 _ _ (by omega), f4.1 _ _ (by omega), f3.1 _ _ (by omega)]; exact v2 i hi
  · rw [f6.1 _ _ (by omega), f5.1 _ _ (by omega), f4.1 _ _ (by omega)]; exact v3 i hi
  · rw [f6.1 _ _ (by omega), f5.1 _ _ (by omega)]; exact v4 i hi
  · rw [f6.1 _ _ (by omega)]; exact v5 i hi
  · exact v6 i hi
  · rw [show bs (s00 d).br 6 = 0 from bs0 (ct_f 6)]; exact (k0 4).trans w4
  · rw [show bs (s00 d).fo 6 = 0 from bs0 (ct_f 6)]; exact (k0 5).trans w5
theorem r_fr2 {d : HD} {h : HI} (w : HDw d) (R : RH d h) : ∃ g, (∀ k, fX9_fresh_2 101 k FU h 0 = k g) ∧ Fr (fun a _ => 128 ≤ a ∧ a ≤ 131) h g ∧ ∀ i, i < 6 → g.1 128 i = (s00 d).wh i ∧ g.1 129 i = 0 ∧ g.1 130 i = 0 ∧ g.1 131 i = 0 := by
  have hM := w.M6
  have L := lpS (f := fun k => fX9_fresh_2 101 k) (st := fun i g => uI (uI (uI (uI g 128 i ((s00 d).wh i)) 129 i 0) 130 i 0) 131 i 0) (Q := fun g => g.1 112 1 = nI d.M ∧ ∀ i, i < d.M → g.1 127 i = b01 (d.dr i)) (N := 6) (h := h) (fun k F h _ => by
    show fX9_fresh_2 101 k (F + 1) h (nI 6) = k h
    rw [fX9_fresh_2, if_pos (by decide)]) (fun k F g i hi Q => by
    obtain ⟨Q1, Q2⟩ := Q
    show fX9_fresh_2 101 k (F + 1) g (nI i) = _
    rw [fX9_fresh_2, if_neg (show ¬ (6 : Int32) ≤ nI i from nI_ge (show i < 6 from hi) (by decide))]
    unfold fX9_men fX9_fresh_35 fX9_fresh_36
    rw [Option.bind_some]
    simp (disch := omega) only [gB, nI_clamp, nI_1]
    show _ = fX9_fresh_2 101 k F (uI (uI (uI (uI g 128 i (if i < d.M ∧ d.dr i = true then (-2 : Int32) else -1)) 129 i 0) 130 i 0) 131 i 0) (nI (i + 1))
    by_cases c : i < d.M
    · rw [if_neg (show ¬ g.1 112 1 ≤ nI i from by rw [Q1]; exact nI_ge c (by omega))]
      cases y : d.dr i with
      | false => rw [if_pos (show g.1 127 i = 0 from by rw [Q2 i c, y]; rfl), if_neg (fun z => by cases z.2)]
      | true => rw [if_neg (show ¬ g.1 127 i = 0 from by rw [Q2 i c, y]; exact b01t), if_pos ⟨c, rfl⟩]
    · rw [if_pos (show g.1 112 1 ≤ nI i from by rw [Q1]; exact nI_le (by omega) (by omega)), if_neg (fun z => c z.1)]) (fun i g hi Q => by
    refine ⟨?_, fun j hj => ?_⟩
    · show (uI (uI (uI (uI g 128 i ((s00 d).wh i)) 129 i 0) 130 i 0) 131 i 0).1 112 1 = _
      rw [uI_n (by omega), uI_n (by omega), uI_n (by omega), uI_n (by omega)]; exact Q.1
    · show (uI (uI (uI (uI g 128 i ((s00 d).wh i)) 129 i 0) 130 i 0) 131 i 0).1 127 j = _
      rw [uI_n (by omega), uI_n (by omega), uI_n (by omega), uI_n (by omega)]; exact Q.2 j hj) ⟨R.M, R.dr⟩ (by decide)
  refine ⟨_, L.2, itF (W := fun a _ => 128 ≤ a ∧ a ≤ 131) (N := 6) (fun i g _ => (((Fr.uI (by decide)).tr (Fr.uI (by decide))).tr (Fr.uI (by decide))).tr (Fr.uI (by decide))) h 6 (Nat.le_refl _), fun i hi => ⟨?_, ?_, ?_, ?_⟩⟩
  · exact itV (a := 128) (N := 6) (v := fun i _ => (s00 d).wh i) (fun i g _ => by rw [uI_n (by omega), uI_n (by omega), uI_n (by omega), uI_s]) (fun i j g hj _ => by rw [uI_n (by omega), uI_n (by omega), uI_n (by omega), uI_n (by omega)]) h 6 (Nat.le_refl _) i hi
  · exact itV (a := 129) (N := 6) (v := fun i _ => 0) (fun i g _ => by rw [uI_n (by omega), uI_n (by omega), uI_s]) (fun i j g hj _ => by rw [uI_n (by omega), uI_n (by omega), uI_n (by omega), uI_n (by omega)]) h 6 (Nat.le_refl _) i hi
  · exact itV (a := 130) (N := 6) (v := fun i _ => 0) (fun i g _ => by rw [uI_n (by omega), uI_s]) (fun i j g hj _ => by rw [uI_n (by omega), uI_n (by omega), uI_n (by omega), uI_n (by omega)]) h 6 (Nat.le_refl _) i hi
  · exact itV (a := 131) (N := 6) (v := fun i _ => 0) (fun i g _ => by rw [uI_s]) (fun i j g hj _ => by rw [uI_n (by omega), uI_n (by omega), uI_n (by omega), uI_n (by omega)]) h 6 (Nat.le_refl _) i hi
theorem r_fr66 {h : HI} : ∃ g, (∀ k, fX9_fresh_66 101 k FU h 0 = k g) ∧ Fr (fun a _ => a = 134 ∨ a = 135) h g ∧ ∀ i, i < 6 → g.1 134 i = 0 ∧ g.1 135 i = 0 := by
  have L := lpS (f := fun k => fX9_fresh_66 101 k) (st := fun i g => uI (uI g 134 i 0) 135 i 0) (Q := fun _ => True) (N := 6) (h := h) (fun k F h _ => by
    show fX9_fresh_66 101 k (F + 1) h (nI 6) = k h
    rw [fX9_fresh_66, if_pos (by decide)]) (fun k F h i hi _ => by
    show fX9_fresh_66 101 k (F + 1) h (nI i) = _
    rw [fX9_fresh_66, if_neg (show ¬ (6 : Int32) ≤ nI i from nI_ge (show i < 6 from hi) (by decide))]
    simp (disch := omega) only [gB, nI_clamp, nI_1]) (fun _ _ _ _ => trivial) trivial (by decide)
  refine ⟨_, L.2, itF (W := fun a _ => a = 134 ∨ a = 135) (N := 6) (fun i g _ => (Fr.uI (by decide)).tr (Fr.uI (by decide))) h 6 (Nat.le_refl _), fun i hi => ⟨?_, ?_⟩⟩
  · exact itV (a := 134) (N := 6) (v := fun i _ => 0) (fun i g _ => by rw [uI_n (by omega), uI_s]) (fun i j g hj _ => by rw [uI_n (by omega), uI_n (by omega)]) h 6 (Nat.le_refl _) i hi
  · exact itV (a := 135) (N := 6) (v := fun i _ => 0) (fun i g _ => by rw [uI_s]) (fun i j g hj _ => by rw [uI_n (by omega), uI_n (by omega)]) h 6 (Nat.le_refl _) i hi
theorem r_fr94 {h : HI} : ∃ g, (∀ k, fX9_fresh_94 101 k FU h 0 = k g) ∧ Fr (fun a _ => a = 132) h g ∧ ∀ i, i < 4 → g.1 132 i = 0 := by
  have L := lpS (f := fun k => fX9_fresh_94 101 k) (st := fun i g => uI g 132 i 0) (Q := fun _ => True) (N := 4) (h := h) (fun k F h _ => by
    show fX9_fresh_94 101 k (F + 1) h (nI 4) = k h
    rw [fX9_fresh_94, if_pos (by decide)]) (fun k F h i hi _ => by
    show fX9_fresh_94 101 k (F + 1) h (nI i) = _
    rw [fX9_fresh_94, if_neg (show ¬ (4 : Int32) ≤ nI i from nI_ge (show i < 4 from hi) (by decide))]
    simp (disch := omega) only [gB, nI_clamp, nI_1]) (fun _ _ _ _ => trivial) trivial (by decide)
  refine ⟨_, L.2, itF (W := fun a _ => a = 132) (N := 4) (fun i g _ => Fr.uI rfl) h 4 (Nat.le_refl _), fun i hi => ?_⟩
  exact itV (a := 132) (N := 4) (v := fun i _ => 0) (fun i g _ => by rw [uI_s]) (fun i j g hj _ => by rw [uI_n (by omega)]) h 4 (Nat.le_refl _) i hi
theorem r_fr114 {h : HI} : ∃ g, (∀ k, fX9_fresh_114 101 k FU h 0 = k g) ∧ Fr (fun a _ => a = 133) h g ∧ ∀ i, i < 4 → g.1 133 i = 0 := by
  have L := lpS (f := fun k => fX9_fresh_114 101 k) (st := fun i g => uI g 133 i 0) (Q := fun _ => True) (N := 4) (h := h) (fun k F h _ => by
    show fX9_fresh_114 101 k (F + 1) h (nI 4) = k h
    rw [fX9_fresh_114, if_pos (by decide)]) (fun k F h i hi _ => by
    show fX9_fresh_114 101 k (F + 1) h (nI i) = _
    rw [fX9_fresh_114, if_neg (show ¬ (4 : Int32) ≤ nI i from nI_ge (show i < 4 from hi) (by decide))]
    simp (disch := omega) only [gB, nI_clamp, nI_1]) (fun _ _ _ _ => trivial) trivial (by decide)
  refine ⟨_, L.2, itF (W := fun a _ => a = 133) (N := 4) (fun i g _ => Fr.uI rfl) h 4 (Nat.le_refl _), fun i hi => ?_⟩
  exact itV (a := 133) (N := 4) (v := fun i _ => 0) (fun i g _ => by rw [uI_s]) (fun i j g hj _ => by rw [uI_n (by omega)]) h 4 (Nat.le_refl _) i hi
theorem r_fresh {d : HD} {h : HI} (w : HDw d) (R : RH d h) : ∃ g, fX9_fresh 101 h = some g ∧ Fr Wr h g ∧ RS d g (s00 d) := by
  unfold fX9_fresh
  obtain ⟨g1, a1, f1, v1⟩ := r_fr2 w R
  obtain ⟨g2, a2, f2, v2⟩ := r_fr66 (h := g1)
  obtain ⟨g3, a3, f3, v3⟩ := r_fr94 (h := g2)
  obtain ⟨g4, a4, f4, v4⟩ := r_fr114 (h := g3)
  rw [a1, a2, a3, a4]
  have f5 : Fr (fun a b => a = 101 ∧ 57 ≤ b ∧ b ≤ 59) g4 (uI (uI (uI g4 101 57 0) 101 58 0) 101 59 0) := ((Fr.uI (by decide)).tr (Fr.uI (by decide))).tr (Fr.uI (by decide))
  refine ⟨_, rfl, ((((f1.mono fun a b z => by unfold Wr; omega).tr (f2.mono fun a b z => by unfold Wr; omega)).tr (f3.mono fun a b z => by unfold Wr; omega)).tr (f4.mono fun a b z => by unfold Wr; omega)).tr (f5.mono fun a b z => by unfold Wr; omega), ?_⟩
  have k1 : ∀ a b, 128 ≤ a ∧ a ≤ 131 → (uI (uI (uI g4 101 57 0) 101 58 0) 101 59 0).1 a b = g1.1 a b := fun a b z => by
    rw [f5.1 _ _ (by omega), f4.1 _ _ (by omega), f3.1 _ _ (by omega), f2.1 _ _ (by omega)]
  refine ⟨fun i hi => (k1 _ _ (by omega)).trans (v1 i hi.1).1, fun i hi => (k1 _ _ (by omega)).trans (v1 i hi).2.1, fun i hi => (k1 _ _ (by omega)).trans (v1 i hi).2.2.1, fun i hi => (k1 _ _ (by omega)).trans (v1 i hi).2.2.2, fun i hi => ?_, fun i hi => ?_, fun i hi => ?_, fun i hi => ?_, ?_, ?_, ?_, fun i w hi => absurd hi (Nat.not_lt_zero i), fun k c hk => absurd hk (Nat.not_lt_zero k)⟩
  · rw [f5.1 _ _ (by omega), f4.1 _ _ (by omega)]; exact v3 i hi
  · rw [f5.1 _ _ (by omega)]; exact v4 i hi
  · rw [f5.1 _ _ (by omega), f4.1 _ _ (by omega), f3.1 _ _ (by omega)]; exact (v2 i hi).1
  · rw [f5.1 _ _ (by omega), f4.1 _ _ (by omega), f3.1 _ _ (by omega)]; exact (v2 i hi).2
  · rw [uI_n (by omega), uI_n (by omega), uI_s]; rfl
  · rw [uI_n (by omega), uI_s]; rfl
  · rw [uI_s]; rfl
