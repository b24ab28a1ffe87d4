/-! plans: the reference's search -/
theorem ofI_lt {a b : Int} (h1 : -4000 ≤ a) (h2 : a ≤ 4000) (h3 : -4000 ≤ b) (h4 : b ≤ 4000) : Int32.ofInt a < Int32.ofInt b ↔ a < b := by
  rw [Int32.lt_iff_toInt_lt, Int32.toInt_ofInt_of_le (by omega) (by omega), Int32.toInt_ofInt_of_le (by omega) (by omega)]
theorem ofI_le {a b : Int} (h1 : -4000 ≤ a) (h2 : a ≤ 4000) (h3 : -4000 ≤ b) (h4 : b ≤ 4000) : Int32.ofInt a ≤ Int32.ofInt b ↔ a ≤ b := by
  rw [Int32.le_iff_toInt_le, Int32.toInt_ofInt_of_le (by omega) (by omega), Int32.toInt_ofInt_of_le (by omega) (by omega)]
theorem wo_b {d : HD} (w : HDw d) (x : Nat) : ∀ n : Nat, -(99 * (n : Int)) ≤ wo d x n ∧ wo d x n ≤ 99 * (n : Int)
  | 0 => ⟨by rw [wo]; omega, by rw [wo]; omega⟩
  | n + 1 => by
    have ih := wo_b w x n
    have := w.wi n x
    rw [wo]
    omega
def wzN (d : HD) (s : SD) (z : Nat) : Nat → Int
  | 0 => 0
  | x + 1 => wzN d s z x + (if stt z x = 2 ∧ s.ss x ≠ 2 then wo d x d.M else 0)
def wz (d : HD) (s : SD) (z : Nat) : Int := wzN d s z d.X
theorem wzN_b {d : HD} (w : HDw d) (s : SD) (z : Nat) : ∀ n : Nat, -(594 * (n : Int)) ≤ wzN d s z n ∧ wzN d s z n ≤ 594 * (n : Int)
  | 0 => ⟨by rw [wzN]; omega, by rw [wzN]; omega⟩
  | n + 1 => by
    have ih := wzN_b w s z n
    have h := wo_b w n d.M
    have := w.M6
    rw [wzN]
    split <;> omega
theorem wz_b {d : HD} (w : HDw d) (s : SD) (z : Nat) : -2400 ≤ wz d s z ∧ wz d s z ≤ 2400 := by
  have h := wzN_b w s z d.X
  have := w.X4
  unfold wz
  omega
theorem r_worth {d : HD} {g : HI} {s : SD} (w : HDw d) (v : SDv d s) (R : RO d g g s) {z : Nat} (hz : z < 262144) : fX9_worthOf 101 g (nI z) = some (Int32.ofInt (wz d s z), g) := by
  have hX := w.X4
  unfold fX9_worthOf
  obtain ⟨F, hL⟩ := lpd (fun n (p : Int32 × Int32) => fX9_worthOf_4 101 (fun h4 v2 => some (v2, h4)) n g (nI z) p.1 p.2) (fun j => (Int32.ofInt (wzN d s z j), nI j)) d.X (by omega) (by
    intro j hj n
    show fX9_worthOf_4 101 _ (n + 1) g (nI z) (Int32.ofInt (wzN d s z j)) (nI j) = fX9_worthOf_4 101 _ n g (nI z) (Int32.ofInt (wzN d s z (j + 1))) (nI (j + 1))
    have h3 := v.ss j (by omega)
    have h4 := stt_lt z j
    rw [fX9_worthOf_4, show g.1 (101 + 11) 2 = nI d.X from R.H.X, if_neg (nI_ge hj (by omega))]
    unfold fX9_statusOf fX9_worthOf_42 fX9_worthOf_43
    rw [i_stt (by omega) (by omega), Option.bind_some, wzN]
    simp (disch := omega) only [gB, nI_clamp, Nat.reduceAdd, nI_1]
    rw [R.S.ss j (by omega), r_all w R.H hj, Option.bind_some]
    by_cases q1 : stt z j = 2
    · rw [if_pos (show nI (stt z j) = (2 : Int32) by rw [q1]; rfl)]
      by_cases q2 : s.ss j = 2
      · rw [if_pos (show nI (s.ss j) = (2 : Int32) by rw [q2]; rfl), if_neg (fun e => e.2 q2), Int32.add_zero, Int.add_zero]
      · rw [if_neg (show ¬ nI (s.ss j) = (2 : Int32) from fun e => q2 ((nI_eq (b := 2) (by omega) (by decide)).mp e)), if_pos ⟨q1, q2⟩, Int32.ofInt_add]
    · rw [if_neg (show ¬ nI (stt z j) = (2 : Int32) from fun e => q1 ((nI_eq (b := 2) (by omega) (by decide)).mp e)), if_neg (fun e => q1 e.1), Int32.add_zero, Int.add_zero])
  simp only at hL
  change fX9_worthOf_4 101 _ FU g (nI z) 0 0 = _ at hL
  rw [hL, fX9_worthOf_4, show g.1 (101 + 11) 2 = nI d.X from R.H.X, if_pos (nI_le (Nat.le_refl _) (by omega))]
  rfl
def NZ : Nat := 262144
theorem NZ_e : NZ = 262144 := rfl
def Wsk (a b : Nat) : Prop := a = 138 ∨ a = 139 ∨ a = 101 ∧ 64 ≤ b ∧ b ≤ 70 ∨ a = 108 ∨ a = 109
/-- how the search stands: V the states that came, q how many, b the best worth, so when, pl the minute -/
def SK (hh : Nat) (d : HD) (s : SD) (h0 : HI) (T H K : Nat) (pl : Int32) (g : HI) (q : Nat) (V : Nat → Bool) (b : Int) (so : Int32) : Prop := RO d g g s ∧ RU hh d g ∧ Fr Wsk h0 g ∧ g.1 101 64 = nI T ∧ (∀ z, z < NZ → (g.1 138 z = nI T ↔ V z = true) ∧ ∃ k, k ≤ T ∧ g.1 138 z = nI k) ∧ (∀ z, V z = true → z < NZ) ∧ q = ct V NZ ∧ g.1 101 65 = nI q ∧ (∀ i, i < q → ∃ z, V z = true ∧ g.1 139 i = nI z) ∧ (∀ z, V z = true → ∃ i, i < q ∧ g.1 139 i = nI z) ∧ g.1 101 66 = nI H ∧ g.1 101 67 = nI K ∧ g.1 101 68 = Int32.ofInt b ∧ g.1 101 69 = so ∧ g.1 101 70 = pl ∧ 0 ≤ b ∧ b ≤ 2400 ∧ (∀ z, V z = true → wz d s z ≤ b) ∧ (b = 0 ∨ ∃ z, V z = true ∧ wz d s z = b)
/-- what has come since: the states A -/
def SX (hh : Nat) (d : HD) (s : SD) (h0 : HI) (T H K : Nat) (pl : Int32) (g0 : HI) (q0 : Nat) (V0 : Nat → Bool) (b0 : Int) (so0 : Int32) (A : Nat → Prop) (g : HI) : Prop := ∃ q V b so, SK hh d s h0 T H K pl g q V b so ∧ (∀ y, V y = true ↔ V0 y = true ∨ A y) ∧ b0 ≤ b ∧ (so = if b = b0 then so0 else pl + 1) ∧ q0 ≤ q ∧ ∀ i, i < q0 → g.1 139 i = g0.1 139 i
theorem SX.cong {hh : Nat} {d : HD} {s : SD} {h0 g0 g : HI} {T H K q0 : Nat} {pl so0 : Int32} {V0 : Nat → Bool} {b0 : Int} {A B : Nat → Prop} (S : SX hh d s h0 T H K pl g0 q0 V0 b0 so0 A g) (e : ∀ y, V0 y = true ∨ A y ↔ V0 y = true ∨ B y) : SX hh d s h0 T H K pl g0 q0 V0 b0 so0 B g := by
  obtain ⟨q, V, b, so, h1, h2, h3⟩ := S
  exact ⟨q, V, b, so, h1, fun y => (h2 y).trans (e y), h3⟩
theorem SK.keep {hh : Nat} {d : HD} {s : SD} {h0 g g2 : HI} {T H K q : Nat} {pl so : Int32} {V : Nat → Bool} {b : Int} (S : SK hh d s h0 T H K pl g q V b so) (hh36 : hh + 20 < 56) (F : Fr Wp g g2) : SK hh d s h0 T H K pl g2 q V b so := by
  obtain ⟨a1, a2, a3, a4, a5, a6, a7, a8, a9, a10, a11, a12, a13, a14, a15, a16⟩ := S
  have e : ∀ a b, ¬ (a = 108 ∨ a = 109) → g2.1 a b = g.1 a b := fun a b p => F.1 a b p
  refine ⟨⟨a1.S.keep F (fun a b p q => by unfold Wr at p; unfold Wp at q; omega), a1.H.keep F (fun a b p q => by unfold RHW at p; unfold Wp at q; omega), Fr.rf⟩, a2.keep F (fun a b p q => by unfold Wp at q; omega), a3.tr (F.mono fun a b q => by unfold Wp at q; unfold Wsk; omega), ?_, fun z hz => ?_, a6, a7, ?_, fun i hi => ?_, fun z hz => ?_, ?_, ?_, ?_, ?_, ?_, a16⟩
  · rw [e _ _ (by omega)]; exact a4
  · rw [e _ _ (by omega)]; exact a5 z hz
  · rw [e _ _ (by omega)]; exact a8
  · rw [e _ _ (by omega)]; exact a9 i hi
  · obtain ⟨i, h1, h2⟩ := a10 z hz
    exact ⟨i, h1, by rw [e _ _ (by omega)]; exact h2⟩
  · rw [e _ _ (by omega)]; exact a11
  · rw [e _ _ (by omega)]; exact a12
  · rw [e _ _ (by omega)]; exact a13
  · rw [e _ _ (by omega)]; exact a14
  · rw [e _ _ (by omega)]; exact a15
theorem SX.keep {hh : Nat} {d : HD} {s : SD} {h0 g0 g g2 : HI} {T H K q0 : Nat} {pl so0 : Int32} {V0 : Nat → Bool} {b0 : Int} {A : Nat → Prop} (S : SX hh d s h0 T H K pl g0 q0 V0 b0 so0 A g) (hh36 : hh + 20 < 56) (F : Fr Wp g g2) : SX hh d s h0 T H K pl g0 q0 V0 b0 so0 A g2 := by
  obtain ⟨q, V, b, so, h1, h2, h3, h4, h5, h6⟩ := S
  exact ⟨q, V, b, so, h1.keep hh36 F, h2, h3, h4, h5, fun i hi => (F.1 _ _ (by unfold Wp; omega)).trans (h6 i hi)⟩
theorem ct_no {V : Nat → Bool} {z : Nat} (h : V z = false) : ∀ {n : Nat}, z < n → ct V n < n
  | 0, hz => absurd hz (Nat.not_lt_zero z)
  | n + 1, hz => by
    rw [ct]
    by_cases e : z = n
    · rw [← e, h, if_neg (by decide)]
      have := ct_le V z
      omega
    · have := ct_no h (n := n) (by omega)
      split <;> omega
def Vn (V : Nat → Bool) (z y : Nat) : Bool := V y || decide (y = z)
theorem Vn_i {V : Nat → Bool} {z y : Nat} : Vn V z y = true ↔ V y = true ∨ y = z := by unfold Vn; rw [Bool.or_eq_true, decide_eq_true_eq]
theorem Vn_n {V : Nat → Bool} {z y : Nat} (h : ¬ y = z) : Vn V z y = V y := by unfold Vn; rw [decide_eq_false h, Bool.or_false]
theorem ct_one {V : Nat → Bool} {z : Nat} (h : V z = false) : ∀ {n : Nat}, z < n → ct (Vn V z) n = ct V n + 1
  | 0, hz => absurd hz (Nat.not_lt_zero z)
  | n + 1, hz => by
    rw [ct, ct]
    by_cases e : z = n
    · subst e
      rw [h, ct_cong (P := Vn V z) (Q := V) (fun i hi => Vn_n (by omega)), if_pos (Vn_i.mpr (Or.inr rfl)), if_neg (by decide)]
    · rw [ct_one h (n := n) (by omega), Vn_n (fun q => e q.symm)]
      omega
/-- a state comes -/
theorem r_come {hh : Nat} {d : HD} {s : SD} {h0 g0 g : HI} {T H K q0 : Nat} {pl so0 : Int32} {V0 : Nat → Bool} {b0 : Int} {A : Nat → Prop} (hh36 : hh + 20 < 56) (w : HDw d) (v : SDv d s) (hT : T < 2 ^ 30) (S : SX hh d s h0 T H K pl g0 q0 V0 b0 so0 A g) {z : Nat} (hz : z < 262144) : ∃ g2, fX9_come 101 g (nI z) = some g2 ∧ SX hh d s h0 T H K pl g0 q0 V0 b0 so0 (fun y => A y ∨ y = z) g2 := by
  obtain ⟨q, V, b, so, ⟨a1, a2, a3, a4, a5, a6, a7, a8, a9, a10, a11, a12, a13, a14, a15, a16, a17, a18, a19⟩, h2, h3, h4, h5, h6⟩ := S
  have hNS := NZ_e
  unfold fX9_come
  simp (disch := omega) only [gB, nI_clamp, Nat.reduceAdd]
  rw [a4]
  by_cases c : g.1 138 z = nI T
  · have hV := (a5 z (by omega)).1.mp c
    rw [if_pos c]
    refine ⟨g, rfl, q, V, b, so, ⟨a1, a2, a3, a4, a5, a6, a7, a8, a9, a10, a11, a12, a13, a14, a15, a16, a17, a18, a19⟩, fun y => (h2 y).trans ⟨fun z => ?_, fun z => ?_⟩, h3, h4, h5, h6⟩
    · rcases z with z | z
      · exact Or.inl z
      · exact Or.inr (Or.inl z)
    · rcases z with z | z | z
      · exact Or.inl z
      · exact Or.inr z
      · rw [z]; exact (h2 _).mp hV
  · have hV : V z = false := by
      cases e : V z
      · rfl
      · exact absurd ((a5 z (by omega)).1.mpr e) c
    have hq : q < 262144 := by rw [a7]; have := ct_no hV (n := NZ) (by omega); omega
    rw [if_neg c, a8]
    simp (disch := omega) only [gB, nI_clamp, nI_1]
    have F1 : Fr Wsk g (uI (uI (uI g 138 z (nI T)) 139 q (nI z)) 101 65 (nI (q + 1))) := ((Fr.uI (by unfold Wsk; omega)).tr (Fr.uI (by unfold Wsk; omega))).tr (Fr.uI (by unfold Wsk; omega))
    generalize hg1 : uI (uI (uI g 138 z (nI T)) 139 q (nI z)) 101 65 (nI (q + 1)) = g1 at F1
    have e1 : ∀ a b, ¬ (a = 138 ∧ b = z) → ¬ (a = 139 ∧ b = q) → ¬ (a = 101 ∧ b = 65) → g1.1 a b = g.1 a b := fun a b p1 p2 p3 => by rw [← hg1, uI_n (by omega), uI_n (by omega), uI_n (by omega)]
    have R1 : RO d g1 g1 s := ⟨a1.S.keep F1 (fun a b p q => by unfold Wr at p; unfold Wsk at q; omega), a1.H.keep F1 (fun a b p q => by unfold RHW at p; unfold Wsk at q; omega), Fr.rf⟩
    rw [r_worth w v R1 hz, Option.bind_some, e1 101 68 (by omega) (by omega) (by omega), a13, e1 101 70 (by omega) (by omega) (by omega), a15]
    have hw := wz_b w s z
    have fin : ∀ (g2 : HI) (b2 : Int) (so2 : Int32), Fr (fun a b => a = 101 ∧ (b = 68 ∨ b = 69)) g1 g2 → g2.1 101 68 = Int32.ofInt b2 → g2.1 101 69 = so2 → b ≤ b2 → b2 ≤ 2400 → wz d s z ≤ b2 → (b2 = b ∨ b2 = wz d s z) → (so2 = if b2 = b then so else pl + 1) → SX hh d s h0 T H K pl g0 q0 V0 b0 so0 (fun y => A y ∨ y = z) g2 := by
      intro g2 b2 so2 F2 f1 f2 f3 f4 f5 f6 f7
      have e2 : ∀ a b, ¬ (a = 101 ∧ (b = 68 ∨ b = 69)) → g2.1 a b = g1.1 a b := fun a b p => F2.1 a b p
      have FF : Fr Wsk g g2 := F1.tr (F2.mono fun a b q => by unfold Wsk; omega)
      refine ⟨q + 1, Vn V z, b2, so2, ⟨⟨a1.S.keep FF (fun a b p q => by unfold Wr at p; unfold Wsk at q; omega), a1.H.keep FF (fun a b p q => by unfold RHW at p; unfold Wsk at q; omega), Fr.rf⟩, a2.keep FF (fun a b p q => by unfold Wsk at q; omega), a3.tr FF, ?_, fun y hy => ?_, fun y hy => ?_, ?_, ?_, fun i hi => ?_, fun y hy => ?_, ?_, ?_, f1, f2, ?_, by omega, f4, fun y hy => ?_, ?_⟩, fun y => ?_, by omega, ?_, by omega, fun i hi => ?_⟩
      · rw [e2 _ _ (by omega), e1 _ _ (by omega) (by omega) (by omega)]; exact a4
      · rw [e2 _ _ (by omega)]
        by_cases e : y = z
        · subst e
          rw [← hg1, uI_n (by omega), uI_n (by omega), uI_s]
          exact ⟨⟨fun _ => Vn_i.mpr (Or.inr rfl), fun _ => rfl⟩, T, Nat.le_refl T, rfl⟩
        · rw [e1 _ _ (by omega) (by omega) (by omega), Vn_n e]
          exact a5 y hy
      · rw [Vn_i] at hy
        rcases hy with hy | hy
        · exact a6 y hy
        · omega
      · rw [ct_one hV (by omega), a7]
      · rw [e2 _ _ (by omega), ← hg1, uI_s]
      · rw [e2 _ _ (by omega)]
        by_cases e : i = q
        · rw [e, ← hg1, uI_n (by omega), uI_s]
          exact ⟨z, Vn_i.mpr (Or.inr rfl), rfl⟩
        · rw [e1 _ _ (by omega) (by omega) (by omega)]
          obtain ⟨y, y1, y2⟩ := a9 i (by omega)
          exact ⟨y, Vn_i.mpr (Or.inl y1), y2⟩
      · rw [Vn_i] at hy
        rcases hy with hy | hy
        · obtain ⟨i, i1, i2⟩ := a10 y hy
          refine ⟨i, by omega, ?_⟩
          rw [e2 _ _ (by omega), e1 _ _ (by omega) (by omega) (by omega)]; exact i2
        · refine ⟨q, by omega, ?_⟩
          rw [hy, e2 _ _ (by omega), ← hg1, uI_n (by omega), uI_s]
      · rw [e2 _ _ (by omega), e1 _ _ (by omega) (by omega) (by omega)]; exact a11
      · rw [e2 _ _ (by omega), e1 _ _ (by omega) (by omega) (by omega)]; exact a12
      · rw [e2 _ _ (by omega), e1 _ _ (by omega) (by omega) (by omega)]; exact a15
      · rw [Vn_i] at hy
        rcases hy with hy | hy
        · have := a18 y hy; omega
        · rw [hy]; exact f5
      · rcases f6 with f6 | f6
        · rcases a19 with e | ⟨y, y1, y2⟩
          · exact Or.inl (by omega)
          · exact Or.inr ⟨y, Vn_i.mpr (Or.inl y1), by omega⟩
        · exact Or.inr ⟨z, Vn_i.mpr (Or.inr rfl), f6.symm⟩
      · rw [Vn_i, h2 y, or_assoc]
      · rw [f7]
        by_cases e : b2 = b
        · rw [if_pos e, h4, e]
        · rw [if_neg e, if_neg (by omega)]
      · rw [e2 _ _ (by omega), e1 _ _ (by omega) (by omega) (by omega)]; exact h6 i hi
    by_cases cb : b < wz d s z
    · rw [if_pos ((ofI_lt (by omega) (by omega) (by omega) (by omega)).mpr cb)]
      refine ⟨_, rfl, fin _ (wz d s z) (pl + 1) ((Fr.uI (by omega)).tr (Fr.uI (by omega))) ?_ (uI_s _ _ _ _) (by omega) (by omega) (by omega) (Or.inr rfl) (by rw [if_neg (by omega)])⟩
      rw [uI_n (by omega), uI_s]
    · rw [if_neg (fun e => cb ((ofI_lt (by omega) (by omega) (by omega) (by omega)).mp e))]
      refine ⟨_, rfl, fin g1 b so Fr.rf ?_ ?_ (by omega) a17 (by omega) (Or.inl rfl) (by rw [if_pos rfl])⟩
      · rw [e1 _ _ (by omega) (by omega) (by omega)]; exact a13
      · rw [e1 _ _ (by omega) (by omega) (by omega)]; exact a14
