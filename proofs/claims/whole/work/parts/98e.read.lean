/-! loops that write a row; the two readers -/
def itS (st : Nat → HI → HI) : Nat → HI → HI
  | 0, h => h
  | i + 1, h => st i (itS st i h)
theorem lpS {β : Type} {f : (HI → Option β) → Nat → HI → Int32 → Option β} {st : Nat → HI → HI} {Q : HI → Prop} {N : Nat} (he : ∀ k F h, Q h → f k (F + 1) h (nI N) = k h) (hs : ∀ k F h i, i < N → Q h → f k (F + 1) h (nI i) = f k F (st i h) (nI (i + 1))) (hQ : ∀ i h, i < N → Q h → Q (st i h)) {h : HI} (q : Q h) (hN : N ≤ 100000) : Q (itS st N h) ∧ ∀ k, f k FU h 0 = k (itS st N h) := by
  have key : ∀ j, j ≤ N → Q (itS st j h) ∧ ∀ k F, f k (F + (N + 1)) h 0 = f k (F + (N + 1 - j)) (itS st j h) (nI j) := by
    intro j
    induction j with
    | zero => exact fun _ => ⟨q, fun k F => rfl⟩
    | succ j ih =>
      intro hj
      obtain ⟨q1, e1⟩ := ih (by omega)
      refine ⟨hQ j _ (by omega) q1, fun k F => ?_⟩
      rw [e1, show F + (N + 1 - j) = (F + (N + 1 - (j + 1))) + 1 by omega, hs k _ _ j (by omega) q1]; rfl
  obtain ⟨q1, e1⟩ := key N (Nat.le_refl _)
  refine ⟨q1, fun k => ?_⟩
  obtain ⟨F, hF⟩ := FU_ge (n := N) (by omega)
  rw [hF, e1, show F + (N + 1 - N) = F + 1 by omega, he k F _ q1]
theorem itF {st : Nat → HI → HI} {W : Nat → Nat → Prop} {N : Nat} (hf : ∀ i h, i < N → Fr W h (st i h)) (h : HI) : ∀ m, m ≤ N → Fr W h (itS st m h)
  | 0, _ => Fr.rf
  | m + 1, hm => (itF hf h m (by omega)).tr (hf m _ (by omega))
theorem itV {st : Nat → HI → HI} {a N : Nat} {v : Nat → HI → Int32} (hs : ∀ i g, i < N → (st i g).1 a i = v i g) (hk : ∀ i j g, j < i → i < N → (st i g).1 a j = g.1 a j) (h : HI) : ∀ m, m ≤ N → ∀ i, i < m → (itS st m h).1 a i = v i (itS st i h)
  | 0, _, i, hi => absurd hi (Nat.not_lt_zero i)
  | m + 1, hm, i, hi => by
    by_cases c : i = m
    · subst c; exact hs i _ (by omega)
    · show (st m (itS st m h)).1 a i = _
      rw [hk m i _ (by omega) (by omega)]
      exact itV hs hk h m (by omega) i (by omega)
def d00 : HD := (0, 0, 0, 0, fun _ => 0, fun _ => 0, fun _ => 0, fun _ => false, fun _ => false, fun _ _ => 0, 0, fun _ => 0, fun _ => 0, fun _ => 0, fun _ => 0, 0, 0, rdef)
def S00 : TD := (d00, fun _ _ => [], fun _ _ => false, false)
theorem PIt0 : PIt S00 := by
  have c0 : ∀ k, cnt S00.d k = 0 := fun k => by
    unfold cnt
    split
    · rfl
    · split <;> rfl
  exact ⟨⟨Nat.zero_le _, Nat.zero_le _, Nat.zero_le _, Nat.zero_le _, fun i hi => absurd hi (Nat.not_lt_zero i), fun i hi => absurd hi (Nat.not_lt_zero i), fun i hi => absurd hi (Nat.not_lt_zero i), fun i x => (show (-99 : Int) ≤ 0 ∧ (0 : Int) ≤ 99 by decide), fun i hi => absurd hi (Nat.not_lt_zero i), Nat.zero_le _⟩, fun k i _ hi => absurd hi (by rw [c0]; omega), fun k i j _ hi => absurd hi (by rw [c0]; omega), (fun m x z => by cases z), fun m x _ => rfl, Nat.zero_le _, by unfold WFR; decide, Nat.zero_le _, fun _ => ⟨rfl, rfl⟩⟩
noncomputable def rdA (B : Nat → Nat) (n : Nat) : Sum (Nat × Nat) TD := thn (tk B n 0) (rdP B n (n + 1) S00)
theorem c_clr {q : Nat} {h : HI} : ∃ g, fX1_clear q h = some g ∧ Fr (Whs q) h g ∧ PCt q S00 g := by
  unfold fX1_clear fX5_clear
  refine ⟨_, rfl, ?_, ?_⟩
  · iterate 13 refine Fr.tr ?_ (Fr.uI (by unfold Whs; omega))
    exact Fr.uI (by unfold Whs; omega)
  · refine ⟨⟨?_, ?_, ?_, fun i hi => absurd hi (Nat.not_lt_zero i), fun i hi => absurd hi (Nat.not_lt_zero i), fun i hi => absurd hi (Nat.not_lt_zero i), fun i hi => absurd hi (Nat.not_lt_zero i), fun i hi => absurd hi (Nat.not_lt_zero i), fun i hi => absurd hi (Nat.not_lt_zero i), fun i hi => absurd hi (Nat.not_lt_zero i), fun i hi => absurd hi (Nat.not_lt_zero i), fun i hi => absurd hi (Nat.not_lt_zero i), fun i hi => absurd hi (Nat.not_lt_zero i), ?_, ?_, ?_, ?_, ?_, ?_⟩, ⟨fun i hi => absurd hi (Nat.not_lt_zero i), fun i hi => absurd hi (Nat.not_lt_zero i), fun i hi => absurd hi (Nat.not_lt_zero i)⟩, fun i hi => absurd hi (Nat.not_lt_zero i), ?_, fun i hi => ?_, ?_⟩
    all_goals first | (simp (disch := omega) only [uI_s, uI_n]; rfl) | (rcases (show i = 0 ∨ i = 1 ∨ i = 2 from by have : i < 3 := hi; omega) with z | z | z <;> subst z <;> (simp (disch := omega) only [uI_s, uI_n]; rfl))
theorem c_read {q : Nat} {B : Nat → Nat} {n : Nat} {h : HI} (hq : q + 20 < 53) (hq2 : 2 < q) (X : TX B n) (T : TC B n h) (D : Wd h) : ∃ v g, fX4_read 53 1 q h = some (v, g) ∧ Fr (Wln q) h g ∧ CRq q (rdA B n) g ∧ (v = 0 ↔ ∃ e, rdA B n = .inl e) := by
  unfold fX4_read
  obtain ⟨g0, a0, f0, R0⟩ := c_clr (q := q) (h := h)
  rw [a0, Option.bind_some]
  have f1 : Fr WN g0 (uI (uI (uI g0 53 3 0) 53 8 0) 53 9 (-1)) := ((Fr.uI (by unfold WN; omega)).tr (Fr.uI (by unfold WN; omega))).tr (Fr.uI (by unfold WN; omega))
  have v3 : (uI (uI (uI g0 53 3 0) 53 8 0) 53 9 (-1)).1 53 3 = nI 0 := by rw [uI_n (by omega), uI_n (by omega), uI_s]; rfl
  have v8 : (uI (uI (uI g0 53 3 0) 53 8 0) 53 9 (-1)).1 53 8 = 0 := by rw [uI_n (by omega), uI_s]
  have v9 : (uI (uI (uI g0 53 3 0) 53 8 0) 53 9 (-1)).1 53 9 = -1 := by rw [uI_s]
  revert f1 v3 v8 v9
  generalize uI (uI (uI g0 53 3 0) 53 8 0) 53 9 (-1) = g1
  intro f1 v3 v8 v9
  have F1 : Fr (Wln q) h g1 := f0.hs.tr f1.ln
  have T1 : TC B n g1 := T.keep F1 (fun a b y z => by unfold Wln WN Whs at z; omega)
  have D1 : Wd g1 := D.keep F1 (fun a b y z => by unfold Wln WN Whs at z; omega)
  obtain ⟨g2, a2, f2, C2⟩ := c_next0 X T1 D1 (Nat.zero_le _) v3 v8 v9
  rw [a2, Option.bind_some]
  have fin : ∀ g, Fr (Wln q) h g → CRq q (rdA B n) g → ∃ v g2, fX4_read_64 53 1 q g = some (v, g2) ∧ Fr (Wln q) h g2 ∧ CRq q (rdA B n) g2 ∧ (v = 0 ↔ ∃ e, rdA B n = .inl e) := by
    intro g F C
    unfold fX4_read_64
    cases z : rdA B n with
    | inl e =>
      rw [z] at C
      have C' : CF e.1 e.2 g := C
      rw [if_neg C'.f]
      exact ⟨0, g, rfl, F, C, fun _ => ⟨e, rfl⟩, fun _ => rfl⟩
    | inr S =>
      rw [z] at C
      rw [if_pos C.2.2.1]
      exact ⟨1, g, rfl, F, C, (fun y => absurd y (by decide)), fun ⟨e, y⟩ => by cases y⟩
  have hn := X.1
  cases z : tk B n 0 with
  | inl e =>
    rw [z] at C2
    have C2 : CF e.1 e.2 g2 := C2
    obtain ⟨F, hF⟩ := FU_ge (n := 0) (by omega)
    rw [hF, fX4_read_33, if_neg (by decide), if_neg C2.f]
    refine fin g2 (F1.tr f2.ln) ?_
    unfold rdA
    rw [z]; exact C2
  | inr p =>
    have hp := (tk_in z).1
    subst hp
    rw [z] at C2
    obtain ⟨F, hF⟩ := FU_ge (n := n + 1) (by omega)
    obtain ⟨g3, b1, b2, b3⟩ := c_rd hq hq2 X (n + 1) S00 0 0 g2 F (by omega) (Nat.le_refl _) (T1.n f2) (D1.n f2) PIt0 ((R0.n hq f1).n hq f2) C2
    rw [hF]
    have b1' := b1 (fun h5 => fX4_read_64 53 1 q h5)
    rw [show ((0 : Int32)) = nI 0 from rfl, b1']
    refine fin g3 ((F1.tr f2.ln).tr b2) ?_
    unfold rdA
    rw [z]; exact b3
theorem r_z60 {h : HI} : ∃ g, (∀ k, fX9_readAll_60 101 k FU h 0 = k g) ∧ Fr (fun a b => a = 111) h g ∧ ∀ x, x < 3 → g.1 111 x = 0 := by
  have L := lpS (f := fun k => fX9_readAll_60 101 k) (st := fun i h => uI h 111 i 0) (Q := fun _ => True) (N := 3) (h := h) (fun k F h _ => by
    show fX9_readAll_60 101 k (F + 1) h (nI 3) = k h
    rw [fX9_readAll_60, if_pos (by decide)]) (fun k F h i hi _ => by
    show fX9_readAll_60 101 k (F + 1) h (nI i) = _
    rw [fX9_readAll_60, if_neg (show ¬ (3 : Int32) ≤ nI i from nI_ge (show i < 3 from hi) (by decide))]
    simp (disch := omega) only [gB, nI_clamp, nI_1]) (fun _ _ _ _ => trivial) trivial (by decide)
  refine ⟨_, L.2, itF (N := 3) (fun i g _ => Fr.uI (by omega)) h 3 (Nat.le_refl _), fun x hx => ?_⟩
  exact itV (a := 111) (N := 3) (v := fun _ _ => 0) (fun i g _ => uI_s _ _ _ _) (fun i j g hj _ => uI_n (by omega)) h 3 (Nat.le_refl _) x hx
theorem r_z80 {h : HI} : ∃ g, (∀ k, fX9_readAll_80 101 k FU h 0 = k g) ∧ Fr (fun a b => a = 116 ∨ a = 125) h g ∧ ∀ x, x < 24 → g.1 116 x = 0 ∧ g.1 125 x = 0 := by
  have L := lpS (f := fun k => fX9_readAll_80 101 k) (st := fun i h => uI (uI h 116 i 0) 125 i 0) (Q := fun _ => True) (N := 24) (h := h) (fun k F h _ => by
    show fX9_readAll_80 101 k (F + 1) h (nI 24) = k h
    rw [fX9_readAll_80, if_pos (by decide)]) (fun k F h i hi _ => by
    show fX9_readAll_80 101 k (F + 1) h (nI i) = _
    rw [fX9_readAll_80, if_neg (show ¬ (24 : Int32) ≤ nI i from nI_ge (show i < 24 from hi) (by decide))]
    simp (disch := omega) only [gB, nI_clamp, nI_1]) (fun _ _ _ _ => trivial) trivial (by decide)
  refine ⟨_, L.2, itF (N := 24) (fun i g _ => (Fr.uI (by omega)).tr (Fr.uI (by omega))) h 24 (Nat.le_refl _), fun x hx => ⟨?_, ?_⟩⟩
  · exact itV (a := 116) (N := 24) (v := fun _ _ => 0) (fun i g _ => by rw [uI_n (by omega), uI_s]) (fun i j g hj _ => by rw [uI_n (by omega), uI_n (by omega)]) h 24 (Nat.le_refl _) x hx
  · exact itV (a := 125) (N := 24) (v := fun _ _ => 0) (fun i g _ => uI_s _ _ _ _) (fun i j g hj _ => by rw [uI_n (by omega), uI_n (by omega)]) h 24 (Nat.le_refl _) x hx
def Wra (a b : Nat) : Prop := Wrd a b ∨ a = 101 ∧ (b = 1 ∨ b = 5)
theorem r_read {B : Nat → Nat} {n : Nat} {h : HI} (X : TX B n) (e1 : h.1 101 1 = nI n) (e2 : ∀ k, k < n → h.1 102 k = nI (B k)) : ∃ g, fX9_readAll 101 h = some g ∧ Fr Wra h g ∧ RRq (rdA B n) g ∧ g.1 101 1 = 0 := by
  unfold fX9_readAll
  rw [e1]
  obtain ⟨g0, hg0⟩ : ∃ g0, g0 = uI (uI (uI (uI (uI (uI (uI (uI (uI (uI (uI h 101 5 (nI n)) 101 1 0) 101 4 0) 101 2 0) 101 3 (-1)) 101 17 0) 101 18 0) 101 41 0) 101 42 0) 101 43 0) 101 47 0 := ⟨_, rfl⟩
  have f0 : Fr Wra h g0 := by
    rw [hg0]
    iterate 10 refine Fr.tr ?_ (Fr.uI (by unfold Wra Wrd WT Wtl; omega))
    exact Fr.uI (by unfold Wra Wrd WT Wtl; omega)
  have v : g0.1 101 5 = nI n ∧ g0.1 101 1 = 0 ∧ g0.1 101 4 = 0 ∧ g0.1 101 2 = 0 ∧ g0.1 101 3 = -1 ∧ g0.1 101 17 = 0 ∧ g0.1 101 18 = 0 ∧ g0.1 101 41 = 0 ∧ g0.1 101 42 = 0 ∧ g0.1 101 43 = 0 ∧ g0.1 101 47 = 0 := by
    rw [hg0]
    refine ⟨?_, ?_, ?_, ?_, ?_, ?_, ?_, ?_, ?_, ?_, ?_⟩ <;> simp (disch := omega) only [uI_s, uI_n]
  rw [← hg0]
  clear hg0
  obtain ⟨g1, b1, f1, z1⟩ := r_z60 (h := g0)
  obtain ⟨g2, b2, f2, z2⟩ := r_z80 (h := g1)
  rw [b1, b2]
  have F2 : Fr Wra h g2 := (f0.tr (f1.mono fun a b z => by unfold Wra Wrd Wtl; omega)).tr (f2.mono fun a b z => by unfold Wra Wrd Wtl; omega)
  have FF : Fr (fun a b => a = 111 ∨ a = 116 ∨ a = 125) g0 g2 := (f1.mono fun a b z => by omega).tr (f2.mono fun a b z => by omega)
  have w : ∀ b, g2.1 101 b = g0.1 101 b := fun b => FF.1 _ _ (by omega)
  obtain ⟨v5, v1, v4, v2, v3, v17, v18, v41, v42, v43, v47⟩ := v
  have T2 : TR B n g2 := ⟨(w 5).trans v5, fun k hk => (F2.1 _ _ (by unfold Wra Wrd WT Wtl; omega)).trans (e2 k hk)⟩
  obtain ⟨g3, a3, f3, C3⟩ := r_tok0 (p := 0) X T2 (Nat.zero_le _) ((w 4).trans v4) ((w 2).trans v2) ((w 3).trans v3)
  rw [a3, Option.bind_some]
  have z111 : ∀ x, x < 3 → g2.1 111 x = 0 := fun x hx => (f2.1 _ _ (by omega)).trans (z1 x hx)
  have c0 : ∀ k, cnt S00.d k = 0 := fun k => by
    unfold cnt
    split
    · rfl
    · split <;> rfl
  have R2 : PRt S00 g2 := ⟨z111 0 (by decide), z111 1 (by decide), z111 2 (by decide), fun i hi => absurd hi (Nat.not_lt_zero i), fun i hi => absurd hi (Nat.not_lt_zero i), fun i hi => absurd hi (Nat.not_lt_zero i), fun m x hm hx => (z2 _ (by omega)).1, fun i hi => absurd hi (Nat.not_lt_zero i), fun i hi => absurd hi (Nat.not_lt_zero i), fun i hi => absurd hi (Nat.not_lt_zero i), fun i hi => absurd hi (Nat.not_lt_zero i), fun i hi => absurd hi (Nat.not_lt_zero i), fun i hi => absurd hi (Nat.not_lt_zero i), fun m x hm hx => (z2 _ (by omega)).2, (w 41).trans v41, (w 42).trans v42, (w 43).trans v43, (w 47).trans v47, (w 18).trans v18, fun _ => (w 17).trans v17, (fun z => by cases z), fun k i _ hi => absurd hi (by rw [c0]; omega)⟩
  have R3 := R2.t f3
  have n1 : ∀ g, Fr Wrd g3 g → g.1 101 1 = 0 := fun g F => by
    rw [F.1 _ _ (by unfold Wrd WT Wtl; omega), f3.1 _ _ (by unfold WT; omega), w 1, v1]
  have F3 : Fr Wra h g3 := F2.tr (f3.mono fun a b z => Or.inl (Or.inl z))
  have hn := X.1
  unfold rdA
  by_cases c3 : tc B n 0 = 3
  · obtain ⟨F, hF⟩ := FU_ge (n := 1) (by omega)
    obtain ⟨g4, a4, f4, Z4⟩ := r_rd3 X C3 c3 F
    have a4' := a4 (fun h8 => some h8)
    rw [hF, a4', tk3 c3]
    exact ⟨g4, rfl, F3.tr (f4.mono fun a b z => Or.inl z), Z4, n1 _ f4⟩
  · obtain ⟨F, hF⟩ := FU_ge (n := n + 2) (by omega)
    obtain ⟨g4, a4, f4, Z4⟩ := r_rd X (n + 1) S00 0 g3 F (by omega) c3 (T2.t f3) PIt0 R3 C3
    have a4' := a4 (fun h8 => some h8)
    rw [hF, show F + (n + 2 + 1) = F + (n + 1 + 2) by omega, a4', tkn c3]
    exact ⟨g4, rfl, F3.tr (f4.mono fun a b z => Or.inl z), Z4, n1 _ f4⟩
