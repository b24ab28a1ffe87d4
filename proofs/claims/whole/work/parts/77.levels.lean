/-! plans: minute by minute -/
def ScA (d : HD) (s : SD) (H K t z y : Nat) : Prop := seatA d H K z y ∨ ∃ x, x < d.X ∧ (stt z x < 2 ∧ s.mi + t < d.di x) ∧ matA d H z x y
def Vt (d : HD) (s : SD) (H K z0 : Nat) : Nat → Nat → Prop
  | 0, y => y = z0
  | t + 1, y => Vt d s H K z0 t y ∨ ∃ z, Vt d s H K z0 t z ∧ ScA d s H K t z y
def isMx (P : Nat → Prop) (f : Nat → Int) (b : Int) : Prop := 0 ≤ b ∧ (∀ z, P z → f z ≤ b) ∧ (b = 0 ∨ ∃ z, P z ∧ f z = b)
def BSo (P : Nat → Nat → Prop) (f : Nat → Int) : Nat → Int → Nat → Prop
  | 0, b, o => b = 0 ∧ o = 0
  | t + 1, b, o => ∃ b1 o1, BSo P f t b1 o1 ∧ isMx (P (t + 1)) f b ∧ o = if b = b1 then o1 else t + 1
theorem ScA_mono {d : HD} {s : SD} {H K t t2 z y : Nat} (h : t ≤ t2) (a : ScA d s H K t2 z y) : ScA d s H K t z y := by
  rcases a with a | ⟨x, x1, x2, x3⟩
  · exact Or.inl a
  · exact Or.inr ⟨x, x1, ⟨x2.1, by omega⟩, x3⟩
theorem SX.qe {hh : Nat} {d : HD} {s : SD} {h0 g0 g : HI} {T H K q0 : Nat} {pl so0 : Int32} {V0 : Nat → Bool} {b0 : Int} {A : Nat → Prop} (S : SX hh d s h0 T H K pl g0 q0 V0 b0 so0 A g) {i : Nat} (hi : i < q0) : g.1 139 i = g0.1 139 i := by
  obtain ⟨q, V, b, so, _, _, _, _, _, h⟩ := S
  exact h i hi
theorem r_103 {hh : Nat} {d : HD} {s : SD} {h0 g0 g : HI} {T H K q0 t i : Nat} {so0 v1 v6 : Int32} {V0 : Nat → Bool} {b0 : Int} {A : Nat → Prop} (hh36 : hh + 20 < 56) (w : HDw d) (v : SDw d s) (hT : T < 2 ^ 30) (hH : H < 64) (ht : t ≤ 40) (S : SX hh d s h0 T H K (nI t) g0 q0 V0 b0 so0 A g) {z : Nat} (hi : i < q0) (hi2 : i < 262144) (hq : g0.1 139 i = nI z) (hz : z < 262144) : ∃ g2, (∀ k, fX9_seekBest_103 101 k FU g v1 (nI i) v6 0 = k g2 v1 (nI i) v6) ∧ SX hh d s h0 T H K (nI t) g0 q0 V0 b0 so0 (fun y => A y ∨ ∃ x, x < d.X ∧ (stt z x < 2 ∧ s.mi + t < d.di x) ∧ matA d H z x y) g2 := by
  have hX := w.X4
  obtain ⟨F, ⟨g2, c⟩, ⟨hc, S2⟩, hL⟩ := lpi (fun n (p : HI × Int32) => fun k : HI → Int32 → Int32 → Int32 → Option (Int32 × HI) => fX9_seekBest_103 101 k n p.1 v1 (nI i) v6 p.2) (fun j p => p.2 = nI j ∧ SX hh d s h0 T H K (nI t) g0 q0 V0 b0 so0 (fun y => A y ∨ ∃ x, x < j ∧ (stt z x < 2 ∧ s.mi + t < d.di x) ∧ matA d H z x y) p.1) d.X (by omega) (by
    rintro j ⟨g2, c⟩ hj ⟨hc, S2⟩
    simp only at hc S2
    subst hc
    obtain ⟨R, _⟩ := S2.ro
    have eq : g2.1 139 i = nI z := (S2.qe hi).trans hq
    have e1 : ∀ n k, fX9_seekBest_103 101 k (n + 1) g2 v1 (nI i) v6 (nI j) = if b01 (decide (stt z j < 2) && decide (s.mi + t < d.di j)) = 0 then fX9_seekBest_103 101 k n g2 v1 (nI i) v6 (nI (j + 1)) else ((fX9_planMatter 101 g2 (nI z) (nI j)).bind fun h5 => fX9_seekBest_103 101 k n h5 v1 (nI i) v6 (nI (j + 1))) := by
      intro n k
      rw [fX9_seekBest_103, show g2.1 (101 + 11) 2 = nI d.X from R.H.X, if_neg (nI_ge hj (by omega))]
      unfold fX9_seekBest_143
      simp (disch := omega) only [gB, nI_clamp, Nat.reduceAdd, nI_1]
      rw [eq, r_palive w v S2 ht hz hj, Option.bind_some]
      simp only
      rw [eq]
    by_cases q : stt z j < 2 ∧ s.mi + t < d.di j
    · obtain ⟨g3, e3, S3⟩ := r_pmat hh36 w v.v hT hH S2 hz hj
      refine ⟨(g3, nI (j + 1)), ⟨rfl, S3.cong fun y => ?_⟩, fun n => funext fun k => ?_⟩
      · constructor
        · rintro (h | ((h | ⟨m, h1, h2⟩) | h))
          · exact Or.inl h
          · exact Or.inr (Or.inl h)
          · exact Or.inr (Or.inr ⟨m, by omega, h2⟩)
          · exact Or.inr (Or.inr ⟨j, by omega, q, h⟩)
        · rintro (h | (h | ⟨m, h1, h2⟩))
          · exact Or.inl h
          · exact Or.inr (Or.inl (Or.inl h))
          · rcases (show m < j ∨ m = j by omega) with e | e
            · exact Or.inr (Or.inl (Or.inr ⟨m, e, h2⟩))
            · subst e; exact Or.inr (Or.inr h2.2)
      · show fX9_seekBest_103 101 k (n + 1) g2 v1 (nI i) v6 (nI j) = _
        rw [e1, decide_eq_true q.1, decide_eq_true q.2, if_neg (by decide), e3, Option.bind_some]
    · refine ⟨(g2, nI (j + 1)), ⟨rfl, S2.cong fun y => ?_⟩, fun n => funext fun k => ?_⟩
      · constructor
        · rintro (h | (h | ⟨m, h1, h2⟩))
          · exact Or.inl h
          · exact Or.inr (Or.inl h)
          · exact Or.inr (Or.inr ⟨m, by omega, h2⟩)
        · rintro (h | (h | ⟨m, h1, h2⟩))
          · exact Or.inl h
          · exact Or.inr (Or.inl h)
          · rcases (show m < j ∨ m = j by omega) with e | e
            · exact Or.inr (Or.inr ⟨m, e, h2⟩)
            · subst e; exact absurd h2.1 q
      · show fX9_seekBest_103 101 k (n + 1) g2 v1 (nI i) v6 (nI j) = _
        rw [e1, if_pos]
        rw [b01_eq0, Bool.and_eq_false_iff, decide_eq_false_iff_not, decide_eq_false_iff_not]
        omega) (s0 := (g, 0)) ⟨rfl, S.cong fun y => ⟨fun h => h.imp id Or.inl, fun h => by
      rcases h with h | h | ⟨m, h1, _⟩
      · exact Or.inl h
      · exact Or.inr h
      · exact absurd h1 (Nat.not_lt_zero m)⟩⟩
  simp only at hc S2 hL
  subst hc
  obtain ⟨R, _⟩ := S2.ro
  exact ⟨g2, fun k => by rw [congrFun hL k, fX9_seekBest_103, show g2.1 (101 + 11) 2 = nI d.X from R.H.X, if_pos (nI_le (Nat.le_refl _) (by omega))], S2⟩
def zq (g : HI) (e : Nat) : Nat := (g.1 139 e).toNatClampNeg
theorem SK.q_ok {hh : Nat} {d : HD} {s : SD} {h0 g : HI} {T H K q : Nat} {pl so : Int32} {V : Nat → Bool} {b : Int} (S : SK hh d s h0 T H K pl g q V b so) : q ≤ 262144 ∧ (∀ i, i < q → V (zq g i) = true ∧ g.1 139 i = nI (zq g i) ∧ zq g i < 262144) ∧ ∀ z, V z = true → ∃ i, i < q ∧ zq g i = z := by
  obtain ⟨a1, a2, a3, a4, a5, a6, a7, a8, a9, a10, a11⟩ := S
  have hN := NZ_e
  refine ⟨by rw [a7]; have := ct_le V NZ; omega, fun i hi => ?_, fun z hz => ?_⟩
  · obtain ⟨z, z1, z2⟩ := a9 i hi
    have z3 := a6 z z1
    have : zq g i = z := by unfold zq; rw [z2, nI_clamp (by omega)]
    rw [this]
    exact ⟨z1, z2, by omega⟩
  · obtain ⟨i, i1, i2⟩ := a10 z hz
    have z3 := a6 z hz
    exact ⟨i, i1, by unfold zq; rw [i2, nI_clamp (by omega)]⟩
theorem r_82 {hh : Nat} {d : HD} {s : SD} {h0 g : HI} {T H K q f t : Nat} {so v1 : Int32} {V : Nat → Bool} {b : Int} (hh36 : hh + 20 < 56) (w : HDw d) (v : SDw d s) (hT : T < 2 ^ 30) (hH : H < 64) (hK : K < 100) (ht : t ≤ 40) (S : SK hh d s h0 T H K (nI t) g q V b so) (hf : f ≤ q) : ∃ g2, (∀ k, fX9_seekBest_82 101 k FU g v1 (nI f) (nI q) = k g2 v1 (nI q)) ∧ SX hh d s h0 T H K (nI t) g q V b so (fun y => ∃ e, f ≤ e ∧ e < q ∧ ScA d s H K t (zq g e) y) g2 := by
  obtain ⟨hq, hz, _⟩ := S.q_ok
  obtain ⟨F, ⟨g2, c⟩, ⟨hc, S2⟩, hL⟩ := lpi (fun n (p : HI × Int32) => fun k : HI → Int32 → Int32 → Option (Int32 × HI) => fX9_seekBest_82 101 k n p.1 v1 p.2 (nI q)) (fun j p => p.2 = nI (f + j) ∧ SX hh d s h0 T H K (nI t) g q V b so (fun y => ∃ e, f ≤ e ∧ e < f + j ∧ ScA d s H K t (zq g e) y) p.1) (q - f) (by omega) (by
    rintro j ⟨g2, c⟩ hj ⟨hc, S2⟩
    simp only at hc S2
    subst hc
    obtain ⟨z1, z2, z3⟩ := hz (f + j) (by omega)
    obtain ⟨g3, e3, S3⟩ := r_pseat hh36 w v.v hT hK S2 z3
    obtain ⟨g4, e4, S4⟩ := r_103 (v1 := v1) (v6 := nI q) hh36 w v hT hH ht S3 (show f + j < q by omega) (by omega) z2 z3
    refine ⟨(g4, nI (f + (j + 1))), ⟨rfl, S4.cong fun y => ?_⟩, fun n => funext fun k => ?_⟩
    · constructor
      · rintro (h | ((⟨e, h1, h2, h3⟩ | h) | h))
        · exact Or.inl h
        · exact Or.inr ⟨e, h1, by omega, h3⟩
        · exact Or.inr ⟨f + j, by omega, by omega, Or.inl h⟩
        · exact Or.inr ⟨f + j, by omega, by omega, Or.inr h⟩
      · rintro (h | ⟨e, h1, h2, h3⟩)
        · exact Or.inl h
        · rcases (show e < f + j ∨ e = f + j by omega) with z | z
          · exact Or.inr (Or.inl (Or.inl ⟨e, h1, z, h3⟩))
          · subst z
            rcases h3 with h3 | h3
            · exact Or.inr (Or.inl (Or.inr h3))
            · exact Or.inr (Or.inr h3)
    · show fX9_seekBest_82 101 k (n + 1) g2 v1 (nI (f + j)) (nI q) = fX9_seekBest_82 101 k n g4 v1 (nI (f + (j + 1))) (nI q)
      rw [fX9_seekBest_82, if_neg (nI_ge (by omega) (by omega))]
      simp (disch := omega) only [gB, nI_clamp, Nat.reduceAdd]
      rw [S2.qe (show f + j < q by omega), z2, e3, Option.bind_some, e4, nI_1]; rfl) (s0 := (g, nI f)) ⟨rfl, q, V, b, so, S, fun y => ⟨fun h => Or.inl h, fun h => by
      rcases h with h | ⟨e, h1, h2, _⟩
      · exact h
      · omega⟩, Int.le_refl _, by rw [if_pos rfl], Nat.le_refl _, fun _ _ => rfl⟩
  simp only at hc S2 hL
  subst hc
  rw [show f + (q - f) = q by omega] at S2 hL
  exact ⟨g2, fun k => by rw [congrFun hL k, fX9_seekBest_82, if_pos (nI_le (Nat.le_refl _) (by omega))], S2⟩
theorem SK.re {hh : Nat} {d : HD} {s : SD} {h0 g g2 : HI} {T H K q : Nat} {pl so pl2 so2 : Int32} {V : Nat → Bool} {b b2 : Int} (hh36 : hh + 20 < 56) (S : SK hh d s h0 T H K pl g q V b so) (F : Fr (fun a b => a = 101 ∧ 68 ≤ b ∧ b ≤ 70) g g2) (e1 : g2.1 101 68 = Int32.ofInt b2) (e2 : g2.1 101 69 = so2) (e3 : g2.1 101 70 = pl2) (hb : 0 ≤ b2 ∧ b2 ≤ 2400 ∧ (∀ z, V z = true → wz d s z ≤ b2) ∧ (b2 = 0 ∨ ∃ z, V z = true ∧ wz d s z = b2)) : SK hh d s h0 T H K pl2 g2 q V b2 so2 := by
  obtain ⟨a1, a2, a3, a4, a5, a6, a7, a8, a9, a10, a11, a12, a13⟩ := S
  have e : ∀ a b, ¬ (a = 101 ∧ 68 ≤ b ∧ b ≤ 70) → g2.1 a b = g.1 a b := fun a b p => F.1 a b p
  refine ⟨⟨a1.S.keep F (fun a b p q => by unfold Wr at p; omega), a1.H.keep F (fun a b p q => by unfold RHW at p; omega), Fr.rf⟩, a2.keep F (fun a b p q => by omega), a3.tr (F.mono fun a b q => by unfold Wsk; omega), ?_, fun z hz => ?_, a6, a7, ?_, fun i hi => ?_, fun z hz => ?_, ?_, ?_, e1, e2, e3, hb⟩
  · rw [e _ _ (by omega)]; exact a4
  · rw [e _ _ (by omega)]; exact a5 z hz
  · rw [e _ _ (by omega)]; exact a8
  · rw [e _ _ (by omega)]; exact a9 i hi
  · obtain ⟨i, h1, h2⟩ := a10 z hz
    exact ⟨i, h1, by rw [e _ _ (by omega)]; exact h2⟩
  · rw [e _ _ (by omega)]; exact a11
  · rw [e _ _ (by omega)]; exact a12
theorem SK.bb {hh : Nat} {d : HD} {s : SD} {h0 g : HI} {T H K q : Nat} {pl so : Int32} {V : Nat → Bool} {b : Int} (S : SK hh d s h0 T H K pl g q V b so) : (g.1 101 68 = Int32.ofInt b ∧ g.1 101 69 = so ∧ g.1 101 70 = pl) ∧ 0 ≤ b ∧ b ≤ 2400 ∧ (∀ z, V z = true → wz d s z ≤ b) ∧ (b = 0 ∨ ∃ z, V z = true ∧ wz d s z = b) := by
  obtain ⟨a1, a2, a3, a4, a5, a6, a7, a8, a9, a10, a11, a12, a13, a14, a15, a16⟩ := S
  exact ⟨⟨a13, a14, a15⟩, a16⟩
/-- all minutes -/
theorem r_68 {hh : Nat} {d : HD} {s : SD} {h0 g : HI} {T H K q L z0 : Nat} {V : Nat → Bool} (hh36 : hh + 20 < 56) (w : HDw d) (v : SDw d s) (hT : T < 2 ^ 30) (hH : H < 64) (hK : K < 100) (hL40 : L ≤ 40) (S : SK hh d s h0 T H K 0 g q V 0 0) (hV : ∀ y, V y = true ↔ y = z0) : ∃ g2 q2 V2 b o, fX9_seekBest_68 101 (fun h11 => some ((h11.1 101 68), h11)) FU g (nI L) 0 = some (Int32.ofInt b, g2) ∧ SK hh d s h0 T H K (nI L) g2 q2 V2 b (nI o) ∧ BSo (Vt d s H K z0) (wz d s) L b o := by
  obtain ⟨F, ⟨g2, c⟩, ⟨q2, V2, b, o, f, S2, hV2, hB, hc, hf, hcl⟩, hR⟩ := lpi (fun n (p : HI × Int32) => fX9_seekBest_68 101 (fun h11 => some ((h11.1 101 68), h11)) n p.1 (nI L) p.2) (fun t p => ∃ q V b o f, SK hh d s h0 T H K (nI t) p.1 q V b (nI o) ∧ (∀ y, V y = true ↔ Vt d s H K z0 t y) ∧ BSo (Vt d s H K z0) (wz d s) t b o ∧ p.2 = nI f ∧ f ≤ q ∧ ∀ e, e < f → ∀ t2, t ≤ t2 → ∀ y, ScA d s H K t2 (zq p.1 e) y → V y = true) L (by omega) (by
    rintro t ⟨g, c⟩ ht ⟨q, V, b, o, f, S, hV, hB, hc, hf, hcl⟩
    simp only at S hc hcl
    subst hc
    obtain ⟨hq, hz, hz2⟩ := S.q_ok
    obtain ⟨g3, e3, q3, V3, b3, so3, S3, v3, b3', so3', hq3, hqe⟩ := r_82 (v1 := nI L) hh36 w v hT hH hK (by omega) S hf
    obtain ⟨⟨m1, m2, m3⟩, m4⟩ := S3.bb
    have S4 : SK hh d s h0 T H K (nI (t + 1)) (uI g3 101 70 (nI (t + 1))) q3 V3 b3 so3 := SK.re hh36 S3 (Fr.uI (by omega)) (by rw [uI_n (by omega)]; exact m1) (by rw [uI_n (by omega)]; exact m2) (uI_s _ _ _ _) m4
    have hV3 : ∀ y, V3 y = true ↔ Vt d s H K z0 (t + 1) y := by
      intro y
      rw [v3 y]
      constructor
      · rintro (h | ⟨e, h1, h2, h3⟩)
        · exact Or.inl ((hV y).mp h)
        · exact Or.inr ⟨zq g e, (hV _).mp (hz e h2).1, h3⟩
      · rintro (h | ⟨z, h1, h2⟩)
        · exact Or.inl ((hV y).mpr h)
        · obtain ⟨i, i1, i2⟩ := hz2 z ((hV z).mpr h1)
          rcases Nat.lt_or_ge i f with z1 | z1
          · exact Or.inl (hcl i z1 t (Nat.le_refl t) y (by rw [i2]; exact h2))
          · exact Or.inr ⟨i, z1, i1, by rw [i2]; exact h2⟩
    have hso : so3 = nI (if b3 = b then o else t + 1) := by
      rw [so3']
      split
      · rfl
      · rw [nI_1]
    rw [hso] at S4
    refine ⟨(uI g3 101 70 (nI (t + 1)), nI q), ⟨q3, V3, b3, _, q, S4, hV3, ⟨b, o, hB, ⟨m4.1, fun z hz => m4.2.2.1 z ((hV3 z).mpr hz), m4.2.2.2.imp id fun ⟨z, z1, z2⟩ => ⟨z, (hV3 z).mp z1, z2⟩⟩, rfl⟩, rfl, hq3, fun e he t2 ht2 y hy => ?_⟩, fun n => ?_⟩
    · have ez : zq (uI g3 101 70 (nI (t + 1))) e = zq g e := by
        unfold zq
        rw [uI_n (by omega), hqe e he]
      have hy2 : ScA d s H K t2 (zq g e) y := by rw [← ez]; exact hy
      rw [v3 y]
      rcases Nat.lt_or_ge e f with z1 | z1
      · exact Or.inl (hcl e z1 t2 (by omega) y hy2)
      · exact Or.inr ⟨e, z1, he, ScA_mono (by omega) hy2⟩
    · show fX9_seekBest_68 101 _ (n + 1) g (nI L) (nI f) = fX9_seekBest_68 101 _ n _ (nI L) (nI q)
      have h8 : g.1 101 65 = nI q := by obtain ⟨a1, a2, a3, a4, a5, a6, a7, a8, a9⟩ := S; exact a8
      rw [fX9_seekBest_68, S.bb.1.2.2, if_neg (nI_ge ht (by omega)), h8, e3, m3, nI_1]) (s0 := (g, 0)) ⟨q, V, 0, 0, 0, S, hV, ⟨rfl, rfl⟩, rfl, Nat.zero_le _, fun e he => absurd he (Nat.not_lt_zero e)⟩
  simp only at S2 hc hR
  subst hc
  refine ⟨g2, q2, V2, b, o, ?_, S2, hB⟩
  rw [hR, fX9_seekBest_68, S2.bb.1.2.2, if_pos (nI_le (Nat.le_refl _) (by omega)), S2.bb.1.1]
/-! the first state -/
def z0N (S0 D : Nat) (ss : Nat → Nat) : Nat → Nat
  | 0 => putD S0 D
  | j + 1 => putS (z0N S0 D ss j) j (ss j)
theorem z0N_at {S0 D : Nat} {ss : Nat → Nat} (hS : S0 < 64) (hss : ∀ x, x < 4 → ss x < 4) : ∀ j, j ≤ 4 → sit (z0N S0 D ss j) = S0 ∧ (∀ x, x < 4 → stt (z0N S0 D ss j) x = if x < j then ss x else 0) ∧ dus (z0N S0 D ss j) = D
  | 0, _ => by
    obtain ⟨p1, p2, p3⟩ := putD_at (z := S0) (D := D)
    refine ⟨?_, fun x hx => ?_, ?_⟩
    · rw [z0N, p1]; unfold sit; omega
    · rw [z0N, p2 x hx, if_neg (by omega)]
      unfold stt
      rw [Nat.div_eq_of_lt (Nat.lt_of_lt_of_le hS (Nat.pow_le_pow_right (n := 2) (i := 6) (by decide) (by omega)))]
    · rw [z0N, p3]
      have : dus S0 = 0 := by unfold dus; omega
      rw [this, Nat.zero_or]
  | j + 1, hj => by
    obtain ⟨i1, i2, i3⟩ := z0N_at (D := D) hS hss j (by omega)
    obtain ⟨p1, p2, p3⟩ := putS_at (z := z0N S0 D ss j) (x := j) (v := ss j) (by omega) (hss j (by omega))
    refine ⟨by rw [z0N, p1]; exact i1, fun x hx => ?_, by rw [z0N, p3]; exact i3⟩
    rw [z0N, p2 x hx, i2 x hx]
    by_cases e : x = j
    · rw [if_pos e, if_pos (by omega), e]
    · rw [if_neg e]
      by_cases c : x < j
      · rw [if_pos c, if_pos (by omega)]
      · rw [if_neg c, if_neg (by omega)]
theorem z0N_lt {S0 D : Nat} {ss : Nat → Nat} (hS : S0 < 64) (hD : D < 16) (hss : ∀ x, x < 4 → ss x < 4) : ∀ j, j ≤ 4 → z0N S0 D ss j < 262144
  | 0, _ => (put_lt (z := S0) (by omega)).2.2 D hD
  | j + 1, hj => (put_lt (z0N_lt hS hD hss j (by omega))).2.1 j _ (by omega) (hss j (by omega))
def zst (d : HD) (s : SD) (S0 : Nat) : Nat := z0N S0 (bs (due d s) d.D) s.ss d.X
theorem r_first {d : HD} {g : HI} {s : SD} (w : HDw d) (v : SDv d s) (R : RO d g g s) {S0 : Nat} (hS : S0 < 64) : fX9_firstState 101 g (nI S0) = some (nI (zst d s S0), g) := by
  have hX := w.X4
  have hss : ∀ x, x < 4 → s.ss x < 4 := fun x hx => by have := v.ss x hx; omega
  have hD : bs (due d s) d.D < 16 := Nat.lt_of_lt_of_le (bs_lt _ d.D) (Nat.pow_le_pow_right (n := 2) (j := 4) (by decide) w.D4)
  unfold fX9_firstState
  rw [r_due w R, Option.bind_some, i_due]
  obtain ⟨F, hL⟩ := lpd (fun n (p : Int32 × Int32) => fX9_firstState_12 101 (fun h3 v2 => some (v2, h3)) n g p.1 p.2) (fun j => (nI (z0N S0 (bs (due d s) d.D) s.ss j), nI j)) d.X (by omega) (by
    intro j hj n
    show fX9_firstState_12 101 _ (n + 1) g (nI (z0N S0 (bs (due d s) d.D) s.ss j)) (nI j) = fX9_firstState_12 101 _ n g (nI (z0N S0 (bs (due d s) d.D) s.ss (j + 1))) (nI (j + 1))
    obtain ⟨i1, i2, i3⟩ := z0N_at (D := bs (due d s) d.D) hS hss j (by omega)
    have eb : bare (z0N S0 (bs (due d s) d.D) s.ss j) j = z0N S0 (bs (due d s) d.D) s.ss j := by
      unfold bare
      rw [i2 j (by omega), if_neg (by omega), Nat.zero_mul, Nat.sub_zero]
    have ip := i_put (z := z0N S0 (bs (due d s) d.D) s.ss j) (x := j) (v := s.ss j) (by omega) (hss j (by omega))
    rw [eb] at ip
    rw [fX9_firstState_12, show g.1 (101 + 11) 2 = nI d.X from R.H.X, if_neg (nI_ge hj (by omega))]
    simp (disch := omega) only [gB, nI_clamp, Nat.reduceAdd, nI_1]
    rw [R.S.ss j (by omega), ip]
    rfl)
  simp only at hL
  change fX9_firstState_12 101 _ FU g (nI (putD S0 (bs (due d s) d.D))) 0 = _ at hL
  rw [hL, fX9_firstState_12, show g.1 (101 + 11) 2 = nI d.X from R.H.X, if_pos (nI_le (Nat.le_refl _) (by omega))]
  rfl
theorem wz_first {d : HD} {s : SD} (w : HDw d) (v : SDv d s) {S0 : Nat} (hS : S0 < 64) : wz d s (zst d s S0) = 0 := by
  have hX := w.X4
  obtain ⟨i1, i2, i3⟩ := z0N_at (D := bs (due d s) d.D) hS (fun x hx => show s.ss x < 4 by have := v.ss x hx; omega) d.X hX
  have : ∀ n, n ≤ d.X → wzN d s (zst d s S0) n = 0 := by
    intro n
    induction n with
    | zero => intro _; rfl
    | succ n ih =>
      intro hn
      rw [wzN, ih (by omega), if_neg]
      · rfl
      · unfold zst
        rw [i2 n (by omega), if_pos (by omega)]
        exact fun e => e.2 e.1
  exact this d.X (Nat.le_refl _)
theorem ct_f : ∀ n, ct (fun _ => false) n = 0
  | 0 => rfl
  | n + 1 => by rw [ct, ct_f n]; rfl
/-- stamps of the searches so far -/
def Sp (T : Nat) (h : HI) : Prop := h.1 101 64 = nI T ∧ ∀ z, z < NZ → ∃ k, k ≤ T ∧ h.1 138 z = nI k
theorem r_seek {hh : Nat} {d : HD} {s : SD} {h : HI} {T H K L S0 : Nat} (hh36 : hh + 20 < 56) (w : HDw d) (v : SDw d s) (R : RO d h h s) (U : RU hh d h) (P : Sp T h) (hT : T + 1 < 2 ^ 30) (hH : H < 64) (hK : K < 100) (hL : L ≤ 40) (hS : S0 < 64) : ∃ g b o, fX9_seekBest 101 h (nI L) (nI H) (nI K) (nI S0) = some (Int32.ofInt b, g) ∧ BSo (Vt d s H K (zst d s S0)) (wz d s) L b o ∧ g.1 101 69 = nI o ∧ Fr Wsk h g ∧ Sp (T + 1) g ∧ RO d g g s ∧ RU hh d g := by
  have hX := w.X4
  have hss : ∀ x, x < 4 → s.ss x < 4 := fun x hx => by have := v.v.ss x hx; omega
  have hD : bs (due d s) d.D < 16 := Nat.lt_of_lt_of_le (bs_lt _ d.D) (Nat.pow_le_pow_right (n := 2) (j := 4) (by decide) w.D4)
  have hz0 : zst d s S0 < 262144 := z0N_lt hS hD hss d.X hX
  unfold fX9_seekBest
  rw [P.1, nI_1]
  have F1 : Fr Wsk h (uI (uI (uI (uI (uI (uI (uI h 101 64 (nI (T + 1))) 101 65 (0 : Int32)) 101 66 (nI H)) 101 67 (nI K)) 101 68 (0 : Int32)) 101 69 (0 : Int32)) 101 70 (-1 : Int32)) := ((((((Fr.uI (by unfold Wsk; omega)).tr (Fr.uI (by unfold Wsk; omega))).tr (Fr.uI (by unfold Wsk; omega))).tr (Fr.uI (by unfold Wsk; omega))).tr (Fr.uI (by unfold Wsk; omega))).tr (Fr.uI (by unfold Wsk; omega))).tr (Fr.uI (by unfold Wsk; omega))
  generalize hg1 : uI (uI (uI (uI (uI (uI (uI h 101 64 (nI (T + 1))) 101 65 (0 : Int32)) 101 66 (nI H)) 101 67 (nI K)) 101 68 (0 : Int32)) 101 69 (0 : Int32)) 101 70 (-1 : Int32) = g1 at F1
  have e1 : ∀ a b, ¬ (a = 101 ∧ 64 ≤ b ∧ b ≤ 70) → g1.1 a b = h.1 a b := fun a b p => by rw [← hg1, uI_n (by omega), uI_n (by omega), uI_n (by omega), uI_n (by omega), uI_n (by omega), uI_n (by omega), uI_n (by omega)]
  have R1 : RO d g1 g1 s := ⟨R.S.keep F1 (fun a b p q => by unfold Wr at p; unfold Wsk at q; omega), R.H.keep F1 (fun a b p q => by unfold RHW at p; unfold Wsk at q; omega), Fr.rf⟩
  have U1 : RU hh d g1 := U.keep F1 (fun a b p q => by unfold Wsk at q; omega)
  rw [r_first w v.v R1 hS, Option.bind_some]
  have S1 : SK hh d s h (T + 1) H K (-1) g1 0 (fun _ => false) 0 0 := by
    refine ⟨R1, U1, F1, ?_, fun z hz => ⟨⟨fun e => ?_, fun e => absurd e (by simp)⟩, ?_⟩, fun z e => absurd e (by simp), (ct_f NZ).symm, ?_, fun i hi => absurd hi (Nat.not_lt_zero i), fun z e => absurd e (by simp), ?_, ?_, ?_, ?_, ?_, Int.le_refl 0, by omega, fun z e => absurd e (by simp), Or.inl rfl⟩
    · rw [← hg1, uI_n (by omega), uI_n (by omega), uI_n (by omega), uI_n (by omega), uI_n (by omega), uI_n (by omega), uI_s]
    · obtain ⟨k, k1, k2⟩ := P.2 z hz
      rw [e1 _ _ (by omega), k2] at e
      have := (nI_eq (by omega) (by omega)).mp e
      omega
    · obtain ⟨k, k1, k2⟩ := P.2 z hz
      exact ⟨k, by omega, by rw [e1 _ _ (by omega)]; exact k2⟩
    · rw [← hg1, uI_n (by omega), uI_n (by omega), uI_n (by omega), uI_n (by omega), uI_n (by omega), uI_s]; rfl
    · rw [← hg1, uI_n (by omega), uI_n (by omega), uI_n (by omega), uI_n (by omega), uI_s]
    · rw [← hg1, uI_n (by omega), uI_n (by omega), uI_n (by omega), uI_s]
    · rw [← hg1, uI_n (by omega), uI_n (by omega), uI_s]; rfl
    · rw [← hg1, uI_n (by omega), uI_s]
    · rw [← hg1, uI_s]
  have X1 : SX hh d s h (T + 1) H K (-1) g1 0 (fun _ => false) 0 0 (fun _ => False) g1 := ⟨0, fun _ => false, 0, 0, S1, fun y => ⟨fun e => absurd e (by simp), fun e => by rcases e with e | e; exact absurd e (by simp); exact absurd e id⟩, Int.le_refl 0, by rw [if_pos rfl], Nat.le_refl 0, fun _ _ => rfl⟩
  obtain ⟨g2, e2, q2, V2, b2, so2, S2, v2, _⟩ := r_come hh36 w v.v (by omega) X1 hz0
  have hV2 : ∀ y, V2 y = true ↔ y = zst d s S0 := fun y => by
    rw [v2 y]
    constructor
    · rintro (e | (e | e))
      · exact absurd e (by simp)
      · exact absurd e id
      · exact e
    · exact fun e => Or.inr (Or.inr e)
  rw [e2, Option.bind_some]
  have S3 : SK hh d s h (T + 1) H K 0 (uI (uI (uI g2 101 68 (0 : Int32)) 101 69 (0 : Int32)) 101 70 (0 : Int32)) q2 V2 0 0 := SK.re hh36 S2 (((Fr.uI (by omega)).tr (Fr.uI (by omega))).tr (Fr.uI (by omega))) (by rw [uI_n (by omega), uI_n (by omega), uI_s]; rfl) (by rw [uI_n (by omega), uI_s]) (uI_s _ _ _ _) ⟨Int.le_refl 0, by omega, fun z hz => by rw [(hV2 z).mp hz, wz_first w v.v hS]; exact Int.le_refl 0, Or.inl rfl⟩
  obtain ⟨g3, q3, V3, b, o, e3, S4, hB⟩ := r_68 hh36 w v (by omega) hH hK hL S3 hV2
  refine ⟨g3, b, o, e3, hB, S4.bb.1.2.1, ?_⟩
  obtain ⟨a1, a2, a3, a4, a5, a6⟩ := S4
  exact ⟨a3, ⟨a4, fun z hz => (a5 z hz).2⟩, a1, a2⟩
