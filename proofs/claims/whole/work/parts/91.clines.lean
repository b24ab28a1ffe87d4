/-! lines, developers' side; and what a line that is read keeps -/
def CLq (q : Nat) (B : Nat → Nat) (n : Nat) (r : Sum (Nat × Nat) (Nat × TD)) (h : HI) : Prop := match r with
  | .inr a => CTk B n a.1 h ∧ PCt q a.2 h
  | .inl e => CF e.1 e.2 h
def Wln (q a b : Nat) : Prop := WN a b ∨ Whs q a b
theorem CTk.keep {B : Nat → Nat} {n p : Nat} {h g : HI} {W : Nat → Nat → Prop} (C : CTk B n p h) (F : Fr W h g) (hd : ∀ b, ¬ W 53 b) : CTk B n p g := by
  obtain ⟨c1, c2, c3, c4, c5, c6, c7, c8, c9⟩ := C
  exact ⟨c1, (F.1 _ _ (hd _)).trans c2, (F.1 _ _ (hd _)).trans c3, (F.1 _ _ (hd _)).trans c4, fun z => (F.1 _ _ (hd _)).trans (c5 z), fun z => (F.2 _ _ (hd _)).trans (c6 z), (F.1 _ _ (hd _)).trans c7, (F.1 _ _ (hd _)).trans c8, c9⟩
theorem CV.q {α : Type} {B : Nat → Nat} {n : Nat} {R : α → Int32 → Prop} {r : Sum (Nat × Nat) (α × Nat)} {v : Int32} {h : HI} (C : CV B n R r v h) : CQ B n (thn r (fun a => .inr a.2)) h := by
  cases r with
  | inl e => exact C
  | inr a => exact C.2
theorem CVn.q {B : Nat → Nat} {n : Nat} {r : Sum (Nat × Nat) (List Nat × Nat)} {v : Int64} {h : HI} (C : CVn B n r v h) : CQ B n (thn r (fun a => .inr a.2)) h := by
  cases r with
  | inl e => exact C
  | inr a => exact C.2
theorem Fr.ln {q : Nat} {h g : HI} (F : Fr WN h g) : Fr (Wln q) h g := F.mono fun _ _ z => Or.inl z
theorem Fr.hs {q : Nat} {h g : HI} (F : Fr (Whs q) h g) : Fr (Wln q) h g := F.mono fun _ _ z => Or.inr z
theorem stP_in {B : Nat → Nat} {n p p1 : Nat} {b : Bool} (h : stP B n b p = .inr p1) : b = false ∧ adv B n p = .inr p1 := by
  unfold stP at h
  cases b with
  | true => cases h
  | false => exact ⟨rfl, h⟩
theorem adv_in {B : Nat → Nat} {n p p1 : Nat} (h : adv B n p = .inr p1) : p1 = tn B n p ∧ tc B n p1 ≠ 3 := by
  have := tk_in h
  exact ⟨this.1, by rw [this.1]; exact this.2⟩
theorem tdP_in {B : Nat → Nat} {n m p : Nat} {f : Nat → List Nat} {a : Nat × Nat} (h : tdP B n f m p = .inr a) : a.1 < m ∧ a.2 = p := by
  unfold tdP at h
  split at h
  · cases z : fiP B n f m p with
    | none => rw [z] at h; cases h
    | some i =>
      rw [z] at h
      cases h
      have := fnd_in z
      exact ⟨by simp only; omega, rfl⟩
  · cases h
theorem wrP_in {B : Nat → Nat} {n z p : Nat} {s : Bool} {a : Int × Nat} (h : wrP B n z s p = .inr a) : (-99 ≤ a.1 ∧ a.1 ≤ 99) ∧ adv B n p = .inr a.2 := by
  unfold wrP at h
  split at h
  · split at h
    · rename_i c
      cases y : adv B n p with
      | inl e => rw [y] at h; cases h
      | inr t =>
        rw [y] at h
        cases h
        refine ⟨?_, rfl⟩
        cases s
        · simp; omega
        · simp; omega
    · cases h
  · cases h
theorem woP_in {B : Nat → Nat} {n p : Nat} {a : Int × Nat} (h : woP B n p = .inr a) : -99 ≤ a.1 ∧ a.1 ≤ 99 := by
  unfold woP at h
  split at h
  · cases y : adv B n p with
    | inl e => rw [y] at h; cases h
    | inr t => rw [y] at h; exact (wrP_in h).1
  · exact (wrP_in h).1
theorem c_chL {q : Nat} {B : Nat → Nat} {n p : Nat} {S : TD} {h : HI} (hq : q + 20 < 53) (X : TX B n) (T : TC B n h) (D : Wd h) (I : PIt S) (R : PCt q S h) (C : CTk B n p h) : ∃ g, fX4_chairLine 53 1 q h = some g ∧ Fr (Wln q) h g ∧ CLq q B n (chL B n S p) g := by
  unfold fX4_chairLine
  rw [c_full R.1.C I.1.C6 (by decide), Option.bind_some]
  obtain ⟨g1, a1, f1, C1⟩ := c_start (r := .inr p) X T D C (decide (6 ≤ S.d.C))
  rw [a1, Option.bind_some]
  obtain ⟨v2, g2, a2, f2, C2⟩ := c_new X (T.n f1) (D.n f1) ((R.n hq f1).nm0 I) C1
  rw [a2, Option.bind_some]
  have F2 := f1.tr f2
  obtain ⟨g3, a3, f3, C3⟩ := c_take (c := 129) X (T.n F2) (D.n F2) C2.q (by decide)
  have a3' : fX4_take 53 1 g2 (129 : Int32) = some g3 := a3
  have F3 := F2.tr f3
  obtain ⟨v4, g4, a4, f4, C4⟩ := c_takeNb (a := 1) (b := 2) X (T.n F3) (D.n F3) C3 (by decide) (by decide)
  have a4' : fX4_takeNumber 53 1 g3 (1 : Int32) (2 : Int32) = some (v4, g4) := a4
  have F4 := F3.tr f4
  obtain ⟨v5, g5, a5, f5, C5⟩ := c_takeIf (c := 130) X (T.n F4) (D.n F4) C4.q (by decide)
  have a5' : fX4_takeIf 53 1 g4 (130 : Int32) = some (v5, g5) := a5
  have F5 := F4.tr f5
  rw [a3', Option.bind_some, a4', Option.bind_some, a5', Option.bind_some]
  unfold chL
  have bad : ∀ e : Nat × Nat, CF e.1 e.2 g5 → ∃ g, (if (g5.1 53 8) = 0 then ((fX1_addChair q g5 v2 v4 v5).bind fun h7 => some h7) else some g5) = some g ∧ Fr (Wln q) h g ∧ CLq q B n (.inl e) g := fun e z => by
    rw [if_neg z.f]
    exact ⟨g5, rfl, F5.ln, z⟩
  rw [thn_in] at C2 C3 C4 C5
  cases h1 : stP B n (decide (6 ≤ S.d.C)) p with
  | inl e => simp only [h1, thn] at C5 ⊢; exact bad e C5
  | inr p1 =>
    cases h2 : newP B n (S.N 0) S.d.C p1 with
    | inl e => simp only [h1, h2, thn] at C5 ⊢; exact bad e C5
    | inr wp =>
      cases h3 : takeP B n 129 wp.2 with
      | inl e => simp only [h1, h2, h3, thn] at C5 ⊢; exact bad e C5
      | inr p3 =>
        cases h4 : nbP B n 1 2 p3 with
        | inl e => simp only [h1, h2, h3, h4, thn] at C5 ⊢; exact bad e C5
        | inr xp =>
          cases h5 : ifP B n 130 xp.2 with
          | inl e => simp only [h1, h2, h3, h4, h5, thn] at C5 ⊢; exact bad e C5
          | inr bp =>
            simp only [h1, h2, h3, h4, h5, thn] at C2 C4 C5 ⊢
            obtain ⟨y2, _⟩ := C2
            obtain ⟨y4, _⟩ := C4
            obtain ⟨y5, z5⟩ := C5
            have hC := of_decide_eq_false (stP_in h1).1
            obtain ⟨g, b1, b2, b3⟩ := c_addCh (w := wp.1) (x := xp.1) (b := bp.1) hq (R.n hq F5) (by omega)
            rw [if_pos z5.f, y2, y4, y5, b1, Option.bind_some]
            exact ⟨g, rfl, F5.ln.tr b2.hs, z5.keep b2 (fun b z => by unfold Whs at z; omega), b3⟩
theorem c_maL {q : Nat} {B : Nat → Nat} {n p : Nat} {S : TD} {h : HI} (hq : q + 20 < 53) (X : TX B n) (T : TC B n h) (D : Wd h) (I : PIt S) (R : PCt q S h) (C : CTk B n p h) : ∃ g, fX4_manLine 53 1 q h = some g ∧ Fr (Wln q) h g ∧ CLq q B n (maL B n S p) g := by
  unfold fX4_manLine
  rw [c_full R.1.M I.1.M6 (by decide), Option.bind_some]
  obtain ⟨g1, a1, f1, C1⟩ := c_start (r := .inr p) X T D C (decide (6 ≤ S.d.M))
  rw [a1, Option.bind_some]
  obtain ⟨v2, g2, a2, f2, C2⟩ := c_new X (T.n f1) (D.n f1) ((R.n hq f1).nm1 I) C1
  rw [a2, Option.bind_some]
  have F2 := f1.tr f2
  obtain ⟨g3, a3, f3, C3⟩ := c_take (c := 132) X (T.n F2) (D.n F2) C2.q (by decide)
  have a3' : fX4_take 53 1 g2 (132 : Int32) = some g3 := a3
  have F3 := F2.tr f3
  obtain ⟨v4, g4, a4, f4, C4⟩ := c_takeNb (a := 1) (b := 30) X (T.n F3) (D.n F3) C3 (by decide) (by decide)
  have a4' : fX4_takeNumber 53 1 g3 (1 : Int32) (30 : Int32) = some (v4, g4) := a4
  have F4 := F3.tr f4
  obtain ⟨v5, g5, a5, f5, C5⟩ := c_takeIf (c := 133) X (T.n F4) (D.n F4) C4.q (by decide)
  have a5' : fX4_takeIf 53 1 g4 (133 : Int32) = some (v5, g5) := a5
  have F5 := F4.tr f5
  rw [a3', Option.bind_some, a4', Option.bind_some, a5', Option.bind_some]
  unfold maL
  have bad : ∀ e : Nat × Nat, CF e.1 e.2 g5 → ∃ g, (if (g5.1 53 8) = 0 then ((fX1_addMan q g5 v2 v4 v5).bind fun h7 => some h7) else some g5) = some g ∧ Fr (Wln q) h g ∧ CLq q B n (.inl e) g := fun e z => by
    rw [if_neg z.f]
    exact ⟨g5, rfl, F5.ln, z⟩
  rw [thn_in] at C2 C3 C4 C5
  cases h1 : stP B n (decide (6 ≤ S.d.M)) p with
  | inl e => simp only [h1, thn] at C5 ⊢; exact bad e C5
  | inr p1 =>
    cases h2 : newP B n (S.N 1) S.d.M p1 with
    | inl e => simp only [h1, h2, thn] at C5 ⊢; exact bad e C5
    | inr wp =>
      cases h3 : takeP B n 132 wp.2 with
      | inl e => simp only [h1, h2, h3, thn] at C5 ⊢; exact bad e C5
      | inr p3 =>
        cases h4 : nbP B n 1 30 p3 with
        | inl e => simp only [h1, h2, h3, h4, thn] at C5 ⊢; exact bad e C5
        | inr xp =>
          cases h5 : ifP B n 133 xp.2 with
          | inl e => simp only [h1, h2, h3, h4, h5, thn] at C5 ⊢; exact bad e C5
          | inr bp =>
            simp only [h1, h2, h3, h4, h5, thn] at C2 C4 C5 ⊢
            obtain ⟨y2, _⟩ := C2
            obtain ⟨y4, _⟩ := C4
            obtain ⟨y5, z5⟩ := C5
            have hC := of_decide_eq_false (stP_in h1).1
            obtain ⟨g, b1, b2, b3⟩ := c_addMa (w := wp.1) (x := xp.1) (b := bp.1) hq I (R.n hq F5) (by omega)
            rw [if_pos z5.f, y2, y4, y5, b1, Option.bind_some]
            exact ⟨g, rfl, F5.ln.tr b2.hs, z5.keep b2 (fun b z => by unfold Whs at z; omega), b3⟩
theorem c_mtL {q : Nat} {B : Nat → Nat} {n p : Nat} {S : TD} {h : HI} (hq : q + 20 < 53) (X : TX B n) (T : TC B n h) (D : Wd h) (I : PIt S) (R : PCt q S h) (C : CTk B n p h) : ∃ g, fX4_matterLine 53 1 q h = some g ∧ Fr (Wln q) h g ∧ CLq q B n (mtL B n S p) g := by
  unfold fX4_matterLine
  rw [c_full R.1.X I.1.X4 (by decide), Option.bind_some]
  obtain ⟨g1, a1, f1, C1⟩ := c_start (r := .inr p) X T D C (decide (4 ≤ S.d.X))
  rw [a1, Option.bind_some]
  obtain ⟨v2, g2, a2, f2, C2⟩ := c_new X (T.n f1) (D.n f1) ((R.n hq f1).nm2 I) C1
  rw [a2, Option.bind_some]
  have F2 := f1.tr f2
  obtain ⟨g3, a3, f3, C3⟩ := c_take (c := 135) X (T.n F2) (D.n F2) C2.q (by decide)
  have a3' : fX4_take 53 1 g2 (135 : Int32) = some g3 := a3
  have F3 := F2.tr f3
  obtain ⟨v4, g4, a4, f4, C4⟩ := c_takeNb (a := 1) (b := 999) X (T.n F3) (D.n F3) C3 (by decide) (by decide)
  have a4' : fX4_takeNumber 53 1 g3 (1 : Int32) (999 : Int32) = some (v4, g4) := a4
  have F4 := F3.tr f4
  rw [a3', Option.bind_some, a4', Option.bind_some]
  unfold mtL
  have bad : ∀ e : Nat × Nat, CF e.1 e.2 g4 → ∃ g, (if (g4.1 53 8) = 0 then ((fX1_addMatter q g4 v2 v4).bind fun h7 => some h7) else some g4) = some g ∧ Fr (Wln q) h g ∧ CLq q B n (.inl e) g := fun e z => by
    rw [if_neg z.f]
    exact ⟨g4, rfl, F4.ln, z⟩
  rw [thn_in] at C2 C3 C4
  cases h1 : stP B n (decide (4 ≤ S.d.X)) p with
  | inl e => simp only [h1, thn] at C4 ⊢; exact bad e C4
  | inr p1 =>
    cases h2 : newP B n (S.N 2) S.d.X p1 with
    | inl e => simp only [h1, h2, thn] at C4 ⊢; exact bad e C4
    | inr wp =>
      cases h3 : takeP B n 135 wp.2 with
      | inl e => simp only [h1, h2, h3, thn] at C4 ⊢; exact bad e C4
      | inr p3 =>
        cases h4 : nbP B n 1 999 p3 with
        | inl e => simp only [h1, h2, h3, h4, thn] at C4 ⊢; exact bad e C4
        | inr xp =>
          simp only [h1, h2, h3, h4, thn] at C2 C4 ⊢
          obtain ⟨y2, _⟩ := C2
          obtain ⟨y4, z5⟩ := C4
          have hC := of_decide_eq_false (stP_in h1).1
          obtain ⟨g, b1, b2, b3⟩ := c_addMt (w := wp.1) (x := xp.1) hq I (R.n hq F4) (by omega)
          rw [if_pos z5.f, y2, y4, b1, Option.bind_some]
          exact ⟨g, rfl, F4.ln.tr b2.hs, z5.keep b2 (fun b z => by unfold Whs at z; omega), b3⟩
theorem c_naL {q : Nat} {B : Nat → Nat} {n p : Nat} {S : TD} {h : HI} (hq : q + 20 < 53) (X : TX B n) (T : TC B n h) (D : Wd h) (I : PIt S) (R : PCt q S h) (C : CTk B n p h) : ∃ g, fX4_napLine 53 1 q h = some g ∧ Fr (Wln q) h g ∧ CLq q B n (naL B n S p) g := by
  have hnp := I.1.np
  have e0 : fX4_napLine 53 1 q h = fX4_napLine_16 53 1 q h (b01 (decide (S.d.np ≠ 0))) := by
    unfold fX4_napLine
    rw [R.1.np]
    by_cases c : S.d.np = 0
    · rw [if_pos (show nI S.d.np = 0 by rw [c]; rfl), decide_eq_false (fun z => z c)]; rfl
    · rw [if_neg (nI_ne0 (by omega) (by omega)), decide_eq_true c]; rfl
  rw [e0]
  unfold fX4_napLine_16
  obtain ⟨g1, a1, f1, C1⟩ := c_start (r := .inr p) X T D C (decide (S.d.np ≠ 0))
  rw [a1, Option.bind_some]
  obtain ⟨v4, g4, a4, f4, C4⟩ := c_takeNb (a := 1) (b := 99) X (T.n f1) (D.n f1) C1 (by decide) (by decide)
  have a4' : fX4_takeNumber 53 1 g1 (1 : Int32) (99 : Int32) = some (v4, g4) := a4
  have F4 := f1.tr f4
  rw [a4', Option.bind_some]
  unfold naL
  have bad : ∀ e : Nat × Nat, CF e.1 e.2 g4 → ∃ g, (if (g4.1 53 8) = 0 then some (uI g4 q 18 v4) else some g4) = some g ∧ Fr (Wln q) h g ∧ CLq q B n (.inl e) g := fun e z => by
    rw [if_neg z.f]
    exact ⟨g4, rfl, F4.ln, z⟩
  rw [thn_in] at C4
  cases h1 : stP B n (decide (S.d.np ≠ 0)) p with
  | inl e => simp only [h1, thn] at C4 ⊢; exact bad e C4
  | inr p1 =>
    cases h4 : nbP B n 1 99 p1 with
    | inl e => simp only [h1, h4, thn] at C4 ⊢; exact bad e C4
    | inr xp =>
      simp only [h1, h4, thn] at C4 ⊢
      obtain ⟨y4, z5⟩ := C4
      obtain ⟨b2, b3⟩ := c_addNp (x := xp.1) hq (R.n hq F4)
      rw [if_pos z5.f, y4]
      exact ⟨_, rfl, F4.ln.tr b2.hs, z5.keep b2 (fun b z => by unfold Whs at z; omega), b3⟩
/-! told names, the second of which may not be the first; behind a fault nothing is done -/
theorem cf_take {k q : Nat} {h : HI} (C : CF k q h) (v : Int32) : fX4_take 53 1 h v = some h := by
  unfold fX4_take
  rw [cf_next C, cf_refuse C, Option.bind_some]
  split <;> rfl
theorem cf_told {k z q N m : Nat} {f : Nat → List Nat} {h : HI} (M : NmC q N m f h) (C : CF k z h) : ∃ v, fX4_toldName 53 q N h = some (v, h) := by
  obtain ⟨t1, t2, t3, t4, t5⟩ := M
  unfold fX4_toldName
  simp only [c_find (show N ≤ 1000 by omega) t1 t3, Option.bind_some, cf_refuse C]
  repeat' split
  all_goals exact ⟨_, rfl⟩
theorem cf_w66 {k z q : Nat} {h : HI} (C : CF k z h) (a b : Int32) : fX4_wishLine_66 53 1 q h a b = some h := by
  obtain ⟨v, hv⟩ := cf_worth C
  unfold fX4_wishLine_66
  rw [cf_next C, Option.bind_some, hv, Option.bind_some, if_neg C.f]
theorem c_isWd {q X : Nat} {h : HI} (e : h.1 (q + 5) 1 = nI X) (hX : X ≤ 4) (a b : Int32) : ∃ v, fX1_isWished q h a b = some (v, h) ∧ ∀ (m x : Nat) (w : Nat → Bool), m < 6 → x < X → a = nI m → b = nI x → h.1 (q + 13) x = nI (bs w 6) → v = b01 (w m) := by
  unfold fX1_isWished
  rcases rng b X (by omega) with ⟨x, hx, rfl⟩ | c
  · rw [has1 e hx (by omega), Option.bind_some, if_neg ne10]
    simp (disch := omega) only [gB, nI_clamp]
    have fin : ∀ (m x2 : Nat) (w : Nat → Bool), m < 6 → x2 < X → a = nI m → nI x = nI x2 → h.1 (q + 13) x2 = nI (bs w 6) → ((h.1 (q + 13) x >>> (a &&& 31)) &&& 1) = b01 (w m) := by
      intro m x2 w hm hx2 ea ex er
      have : x = x2 := (nI_eq (by omega) (by omega)).mp ex
      rw [this, ea, er, tst _ (by decide) hm]
    split
    · rename_i z
      refine ⟨0, rfl, fun m x2 w hm hx2 ea ex er => ?_⟩
      rw [← z]; exact fin m x2 w hm hx2 ea ex er
    · rename_i z
      refine ⟨1, rfl, fun m x2 w hm hx2 ea ex er => ?_⟩
      have := fin m x2 w hm hx2 ea ex er
      cases q : w m with
      | false => rw [q] at this; exact absurd this z
      | true => rfl
  · rw [has0 e c, Option.bind_some, if_pos rfl]
    refine ⟨0, rfl, fun m x w hm hx ea ex er => ?_⟩
    rcases c with c | c
    · rw [ex] at c; exact absurd c (nI_pos (by omega))
    · rw [ex] at c; exact absurd c.2 (nI_ge hx (by omega))
theorem odP_none {B : Nat → Nat} {n m p : Nat} {f : Nat → List Nat} : odP B n f m none p = thn (tdP B n f m p) (fun ip => thn (adv B n ip.2) (fun q => .inr (ip.1, q))) := by
  unfold odP
  cases tdP B n f m p with
  | inl e => rfl
  | inr a =>
    show (if (none : Option Nat) = some a.1 then Sum.inl (3, tp B n p) else thn (adv B n a.2) (fun q => .inr (a.1, q))) = thn (adv B n a.2) (fun q => .inr (a.1, q))
    rw [if_neg (fun z => by cases z)]
theorem c_wiL {q : Nat} {B : Nat → Nat} {n p : Nat} {S : TD} {h : HI} (hq : q + 20 < 53) (X : TX B n) (T : TC B n h) (D : Wd h) (I : PIt S) (R : PCt q S h) (C : CTk B n p h) : ∃ g, fX4_wishLine 53 1 q h = some g ∧ Fr (Wln q) h g ∧ CLq q B n (wiL B n S p) g := by
  have hW := I.2.2.2.2.2.1
  have hM := I.1.M6
  have hX := I.1.X4
  have e0 : fX4_wishLine 53 1 q h = fX4_wishLine_18 53 1 q h (b01 (decide (24 ≤ S.d.W))) := by
    unfold fX4_wishLine
    rw [R.1.W]
    by_cases c : S.d.W < 24
    · rw [if_pos (show nI S.d.W < (24 : Int32) from nI_lt (b := 24) c (by decide)), decide_eq_false (by omega)]; rfl
    · rw [if_neg (show ¬ nI S.d.W < (24 : Int32) from nI_nlt (b := 24) (by omega) (by omega)), decide_eq_true (by omega)]; rfl
  rw [e0]
  unfold fX4_wishLine_18 wiL
  have bad : ∀ (g : HI) (e : Nat × Nat) (a : Int32), Fr WN h g → CF e.1 e.2 g → ((fX1_isWished q g a a).bind fun p5 => some p5.2) = some g := fun g e a F z => by
    obtain ⟨v, hv, _⟩ := c_isWd (R.n hq F).1.X hX a a
    rw [hv, Option.bind_some]
  have fw : ∀ (g : HI) (e : Nat × Nat) (a b : Int32), Fr WN h g → CF e.1 e.2 g → ((fX1_isWished q g a b).bind fun p5 => (if p5.1 = 0 then fX4_wishLine_66 53 1 q p5.2 a b else ((fX4_refuse 53 p5.2 (3 : Int32)).bind fun h9 => fX4_wishLine_66 53 1 q h9 a b))) = some g := fun g e a b F z => by
    obtain ⟨v, hv, _⟩ := c_isWd (R.n hq F).1.X hX a b
    rw [hv, Option.bind_some, cf_refuse z, Option.bind_some, cf_w66 z, ite_self]
  obtain ⟨g1, a1, f1, C1⟩ := c_start (r := .inr p) X T D C (decide (24 ≤ S.d.W))
  rw [a1, Option.bind_some]
  rw [thn_in] at C1
  cases h1 : stP B n (decide (24 ≤ S.d.W)) p with
  | inl e =>
    rw [h1] at C1
    have z : CF e.1 e.2 g1 := C1
    obtain ⟨u1, hu1⟩ := cf_told ((R.n hq f1).nm1 I) z
    obtain ⟨u2, hu2⟩ := cf_told ((R.n hq f1).nm2 I) z
    rw [hu1, Option.bind_some, cf_next z, Option.bind_some, hu2, Option.bind_some, fw g1 e _ _ f1 z]
    exact ⟨g1, rfl, f1.ln, z⟩
  | inr p1 =>
    rw [h1] at C1
    rw [thn_in, odP_none]
    obtain ⟨v2, g2, a2, f2, C2⟩ := c_told (r := .inr p1) ((R.n hq f1).nm1 I) C1
    rw [a2, Option.bind_some]
    rw [thn_in] at C2
    have F2 := f1.tr f2
    cases h2 : tdP B n (S.N 1) S.d.M p1 with
    | inl e =>
      rw [h2] at C2
      have z : CF e.1 e.2 g2 := C2
      obtain ⟨u2, hu2⟩ := cf_told ((R.n hq F2).nm2 I) z
      rw [cf_next z, Option.bind_some, hu2, Option.bind_some, fw g2 e _ _ F2 z]
      exact ⟨g2, rfl, F2.ln, z⟩
    | inr ip =>
      rw [h2] at C2
      obtain ⟨⟨y2, l2⟩, C2⟩ := C2
      rw [thn_in]
      obtain ⟨g3, a3, f3, C3⟩ := c_next (r := .inr ip.2) X (T.n F2) (D.n F2) C2
      rw [a3, Option.bind_some]
      rw [thn_in] at C3
      have F3 := F2.tr f3
      cases h3 : adv B n ip.2 with
      | inl e =>
        rw [h3] at C3
        have z : CF e.1 e.2 g3 := C3
        obtain ⟨u2, hu2⟩ := cf_told ((R.n hq F3).nm2 I) z
        rw [hu2, Option.bind_some, fw g3 e _ _ F3 z]
        exact ⟨g3, rfl, F3.ln, z⟩
      | inr p2 =>
        rw [h3] at C3
        rw [thn_in, thn_in]
        obtain ⟨v4, g4, a4, f4, C4⟩ := c_told (r := .inr p2) ((R.n hq F3).nm2 I) C3
        rw [a4, Option.bind_some]
        rw [thn_in] at C4
        have F4 := F3.tr f4
        show ∃ g, _ ∧ _ ∧ CLq q B n (thn (tdP B n (S.N 2) S.d.X p2) _) g
        cases h4 : tdP B n (S.N 2) S.d.X p2 with
        | inl e =>
          rw [h4] at C4
          have z : CF e.1 e.2 g4 := C4
          rw [fw g4 e _ _ F4 z]
          exact ⟨g4, rfl, F4.ln, z⟩
        | inr xp =>
          rw [h4] at C4
          obtain ⟨⟨y4, l4⟩, C4⟩ := C4
          have R4 := R.n hq F4
          obtain ⟨v, hv, hv2⟩ := c_isWd R4.1.X hX v2 v4
          have ev := hv2 ip.1 xp.1 (fun m => S.w m xp.1) (by omega) l4 y2 y4 (R4.2.2.1 xp.1 l4)
          rw [thn_in, hv, Option.bind_some, ev]
          cases hw : S.w ip.1 xp.1 with
          | true =>
            obtain ⟨g5, a5, f5, C5⟩ := ct_refuse C4 (k := 3) (by decide) (by decide)
            rw [if_neg b01t, show (3 : Int32) = nI 3 from rfl, a5, Option.bind_some, cf_w66 C5, if_pos rfl, thn_l]
            exact ⟨g5, rfl, (F4.tr f5).ln, C5⟩
          | false =>
            rw [if_pos b01f, if_neg (by decide)]
            unfold fX4_wishLine_66
            obtain ⟨g5, a5, f5, C5⟩ := c_next (r := .inr xp.2) X (T.n F4) (D.n F4) C4
            rw [a5, Option.bind_some]
            rw [thn_in] at C5
            have F5 := F4.tr f5
            obtain ⟨v6, g6, a6, f6, C6⟩ := c_worthT X (T.n F5) (D.n F5) C5
            rw [a6, Option.bind_some]
            have F6 := F5.tr f6
            cases h5 : adv B n xp.2 with
            | inl e =>
              rw [h5] at C6
              have z : CF e.1 e.2 g6 := C6
              rw [if_neg z.f]
              exact ⟨g6, rfl, F6.ln, z⟩
            | inr p3 =>
              rw [h5, thn_in] at C6
              rw [thn_in]
              cases h6 : woP B n p3 with
              | inl e =>
                rw [h6] at C6
                have z : CF e.1 e.2 g6 := C6
                rw [if_neg z.f]
                exact ⟨g6, rfl, F6.ln, z⟩
              | inr vp =>
                rw [h6] at C6
                obtain ⟨y6, C6⟩ := C6
                have hb : -99 ≤ vp.1 ∧ vp.1 ≤ 99 := woP_in h6
                obtain ⟨g, b1, b2, b3⟩ := c_addWi (m := ip.1) (x := xp.1) (v := vp.1) hq I (R.n hq F6) l2 l4 hb.1 hb.2 hw
                rw [if_pos C6.f, y2, y4, y6, b1, Option.bind_some, thn_in]
                exact ⟨g, rfl, F6.ln.tr b2.hs, C6.keep b2 (fun b z => by unfold Whs at z; omega), b3⟩
theorem cf_109 {k z q : Nat} {h : HI} (C : CF k z h) (a b c d : Int32) : fX4_dealLine_109 53 1 q h a b c d = some h := by
  unfold fX4_dealLine_109
  rw [cf_next C, Option.bind_some, if_neg C.f]
theorem cf_81 {k z q m : Nat} {f : Nat → List Nat} {h : HI} (C : CF k z h) (M : NmC (q + 5) 4 m f h) (a b c : Int32) : fX4_dealLine_81 53 1 q h a b c = some h := by
  obtain ⟨u, hu⟩ := cf_told M C
  unfold fX4_dealLine_81
  rw [cf_next C, Option.bind_some, hu, Option.bind_some, cf_refuse C, Option.bind_some, cf_109 C, ite_self]
theorem c_deL {q : Nat} {B : Nat → Nat} {n p : Nat} {S : TD} {h : HI} (hq : q + 20 < 53) (X : TX B n) (T : TC B n h) (D : Wd h) (I : PIt S) (R : PCt q S h) (C : CTk B n p h) : ∃ g, fX4_dealLine 53 1 q h = some g ∧ Fr (Wln q) h g ∧ CLq q B n (deL B n S p) g := by
  have hD := I.1.D4
  have hM := I.1.M6
  have hX := I.1.X4
  have e0 : fX4_dealLine 53 1 q h = fX4_dealLine_17 53 1 q h (b01 (decide (4 ≤ S.d.D))) := by
    unfold fX4_dealLine
    rw [R.1.D]
    by_cases c : S.d.D < 4
    · rw [if_pos (show nI S.d.D < (4 : Int32) from nI_lt (b := 4) c (by decide)), decide_eq_false (by omega)]; rfl
    · rw [if_neg (show ¬ nI S.d.D < (4 : Int32) from nI_nlt (b := 4) (by omega) (by omega)), decide_eq_true (by omega)]; rfl
  rw [e0]
  unfold fX4_dealLine_17 deL
  have nm1 : ∀ g, Fr WN h g → NmC (q + 3) 6 S.d.M (S.N 1) g := fun g F => (R.n hq F).nm1 I
  have nm2 : ∀ g, Fr WN h g → NmC (q + 5) 4 S.d.X (S.N 2) g := fun g F => (R.n hq F).nm2 I
  -- behind a fault: from the second name on, and from FOR on
  have t7 : ∀ (g : HI) (e : Nat × Nat) (a b : Int32), Fr WN h g → CF e.1 e.2 g → ((fX4_toldName 53 (q + 3) 6 g).bind fun p7 => (if p7.1 = a then ((fX4_refuse 53 p7.2 (3 : Int32)).bind fun h13 => fX4_dealLine_81 53 1 q h13 a b p7.1) else fX4_dealLine_81 53 1 q p7.2 a b p7.1)) = some g := fun g e a b F z => by
    obtain ⟨u, hu⟩ := cf_told (nm1 g F) z
    rw [hu, Option.bind_some, cf_refuse z, Option.bind_some, cf_81 z (nm2 g F), ite_self]
  have t4 : ∀ (g : HI) (e : Nat × Nat) (a : Int32), Fr WN h g → CF e.1 e.2 g → ((fX4_toldName 53 (q + 5) 4 g).bind fun p4 => ((fX4_next 53 1 p4.2).bind fun h5 => ((fX4_take 53 1 h5 (138 : Int32)).bind fun h6 => ((fX4_toldName 53 (q + 3) 6 h6).bind fun p7 => (if p7.1 = a then ((fX4_refuse 53 p7.2 (3 : Int32)).bind fun h13 => fX4_dealLine_81 53 1 q h13 a p4.1 p7.1) else fX4_dealLine_81 53 1 q p7.2 a p4.1 p7.1))))) = some g := fun g e a F z => by
    obtain ⟨u, hu⟩ := cf_told (nm2 g F) z
    rw [hu, Option.bind_some, cf_next z, Option.bind_some, cf_take z, Option.bind_some]
    exact t7 g e a u F z
  obtain ⟨g1, a1, f1, C1⟩ := c_start (r := .inr p) X T D C (decide (4 ≤ S.d.D))
  rw [a1, Option.bind_some]
  rw [thn_in] at C1
  cases h1 : stP B n (decide (4 ≤ S.d.D)) p with
  | inl e =>
    rw [h1] at C1
    have z : CF e.1 e.2 g1 := C1
    obtain ⟨u1, hu1⟩ := cf_told (nm1 g1 f1) z
    rw [hu1, Option.bind_some, cf_next z, Option.bind_some, t4 g1 e _ f1 z]
    exact ⟨g1, rfl, f1.ln, z⟩
  | inr p1 =>
    rw [h1] at C1
    have hD4 := of_decide_eq_false (stP_in h1).1
    rw [thn_in, odP_none]
    obtain ⟨v2, g2, a2, f2, C2⟩ := c_told (r := .inr p1) (nm1 g1 f1) C1
    rw [a2, Option.bind_some]
    rw [thn_in] at C2
    have F2 := f1.tr f2
    cases h2 : tdP B n (S.N 1) S.d.M p1 with
    | inl e =>
      rw [h2] at C2
      have z : CF e.1 e.2 g2 := C2
      rw [cf_next z, Option.bind_some, t4 g2 e _ F2 z]
      exact ⟨g2, rfl, F2.ln, z⟩
    | inr ip =>
      rw [h2] at C2
      obtain ⟨⟨y2, l2⟩, C2⟩ := C2
      rw [thn_in]
      obtain ⟨g3, a3, f3, C3⟩ := c_next (r := .inr ip.2) X (T.n F2) (D.n F2) C2
      rw [a3, Option.bind_some]
      rw [thn_in] at C3
      have F3 := F2.tr f3
      cases h3 : adv B n ip.2 with
      | inl e =>
        rw [h3] at C3
        have z : CF e.1 e.2 g3 := C3
        rw [t4 g3 e _ F3 z]
        exact ⟨g3, rfl, F3.ln, z⟩
      | inr p2 =>
        rw [h3] at C3
        rw [thn_in, thn_in, odP_none]
        obtain ⟨v4, g4, a4, f4, C4⟩ := c_told (r := .inr p2) (nm2 g3 F3) C3
        rw [a4, Option.bind_some]
        rw [thn_in] at C4
        have F4 := F3.tr f4
        show ∃ g, _ ∧ _ ∧ CLq q B n (thn (thn (tdP B n (S.N 2) S.d.X p2) _) _) g
        cases h4 : tdP B n (S.N 2) S.d.X p2 with
        | inl e =>
          rw [h4] at C4
          have z : CF e.1 e.2 g4 := C4
          rw [cf_next z, Option.bind_some, cf_take z, Option.bind_some, t7 g4 e _ _ F4 z]
          exact ⟨g4, rfl, F4.ln, z⟩
        | inr xp =>
          rw [h4] at C4
          obtain ⟨⟨y4, l4⟩, C4⟩ := C4
          rw [thn_in]
          obtain ⟨g5, a5, f5, C5⟩ := c_next (r := .inr xp.2) X (T.n F4) (D.n F4) C4
          rw [a5, Option.bind_some]
          rw [thn_in] at C5
          have F5 := F4.tr f5
          cases h5 : adv B n xp.2 with
          | inl e =>
            rw [h5] at C5
            have z : CF e.1 e.2 g5 := C5
            rw [cf_take z, Option.bind_some, t7 g5 e _ _ F5 z]
            exact ⟨g5, rfl, F5.ln, z⟩
          | inr p3 =>
            rw [h5] at C5
            rw [thn_in, thn_in]
            obtain ⟨g6, a6, f6, C6⟩ := c_take (r := .inr p3) (c := 138) X (T.n F5) (D.n F5) C5 (by decide)
            have a6' : fX4_take 53 1 g5 (138 : Int32) = some g6 := a6
            rw [a6', Option.bind_some]
            rw [thn_in] at C6
            have F6 := F5.tr f6
            show ∃ g, _ ∧ _ ∧ CLq q B n (thn (takeP B n 138 p3) _) g
            cases h6 : takeP B n 138 p3 with
            | inl e =>
              rw [h6] at C6
              have z : CF e.1 e.2 g6 := C6
              rw [t7 g6 e _ _ F6 z]
              exact ⟨g6, rfl, F6.ln, z⟩
            | inr p6 =>
              rw [h6] at C6
              rw [thn_in]
              obtain ⟨v7, g7, a7, f7, C7⟩ := c_told (r := .inr p6) (nm1 g6 F6) C6
              rw [a7, Option.bind_some]
              rw [thn_in] at C7
              have F7 := F6.tr f7
              unfold odP
              cases h7 : tdP B n (S.N 1) S.d.M p6 with
              | inl e =>
                rw [h7] at C7
                have z : CF e.1 e.2 g7 := C7
                rw [cf_refuse z, Option.bind_some, cf_81 z (nm2 g7 F7), ite_self]
                exact ⟨g7, rfl, F7.ln, z⟩
              | inr op =>
                rw [h7] at C7
                obtain ⟨⟨y7, l7⟩, C7⟩ := C7
                rw [thn_in, y2, y7]
                have eop : op.2 = p6 := (tdP_in h7).2
                by_cases c7 : op.1 = ip.1
                · obtain ⟨g8, a8, f8, C8⟩ := ct_refuse C7 (k := 3) (by decide) (by decide)
                  rw [if_pos (congrArg nI c7), show (3 : Int32) = nI 3 from rfl, a8, Option.bind_some, cf_81 C8 (nm2 g8 (F7.tr f8)), if_pos (by rw [c7]), thn_l]
                  rw [eop] at C8
                  exact ⟨g8, rfl, (F7.tr f8).ln, C8⟩
                · rw [if_neg (fun z => c7 ((nI_eq (by omega) (by omega)).mp z)), if_neg (fun z => c7 (Option.some.inj z).symm)]
                  unfold fX4_dealLine_81
                  obtain ⟨g8, a8, f8, C8⟩ := c_next (r := .inr op.2) X (T.n F7) (D.n F7) C7
                  rw [a8, Option.bind_some]
                  rw [thn_in] at C8
                  have F8 := F7.tr f8
                  cases h8 : adv B n op.2 with
                  | inl e =>
                    rw [h8] at C8
                    have z : CF e.1 e.2 g8 := C8
                    obtain ⟨u, hu⟩ := cf_told (nm2 g8 F8) z
                    rw [hu, Option.bind_some, cf_refuse z, Option.bind_some, cf_109 z, ite_self]
                    exact ⟨g8, rfl, F8.ln, z⟩
                  | inr p8 =>
                    rw [h8] at C8
                    rw [thn_in, thn_in]
                    obtain ⟨v9, g9, a9, f9, C9⟩ := c_told (r := .inr p8) (nm2 g8 F8) C8
                    rw [a9, Option.bind_some]
                    rw [thn_in] at C9
                    have F9 := F8.tr f9
                    show ∃ g, _ ∧ _ ∧ CLq q B n (thn (thn (tdP B n (S.N 2) S.d.X p8) _) _) g
                    cases h9 : tdP B n (S.N 2) S.d.X p8 with
                    | inl e =>
                      rw [h9] at C9
                      have z : CF e.1 e.2 g9 := C9
                      rw [cf_refuse z, Option.bind_some, cf_109 z, ite_self]
                      exact ⟨g9, rfl, F9.ln, z⟩
                    | inr zp =>
                      rw [h9] at C9
                      obtain ⟨⟨y9, l9⟩, C9⟩ := C9
                      rw [thn_in, y4, y9]
                      have ezp : zp.2 = p8 := (tdP_in h9).2
                      by_cases c9 : zp.1 = xp.1
                      · obtain ⟨g10, a10, f10, C10⟩ := ct_refuse C9 (k := 3) (by decide) (by decide)
                        rw [if_pos (congrArg nI c9), show (3 : Int32) = nI 3 from rfl, a10, Option.bind_some, cf_109 C10, if_pos (by rw [c9]), thn_l]
                        rw [ezp] at C10
                        exact ⟨g10, rfl, (F9.tr f10).ln, C10⟩
                      · rw [if_neg (fun z => c9 ((nI_eq (by omega) (by omega)).mp z)), if_neg (fun z => c9 (Option.some.inj z).symm)]
                        unfold fX4_dealLine_109
                        obtain ⟨g10, a10, f10, C10⟩ := c_next (r := .inr zp.2) X (T.n F9) (D.n F9) C9
                        rw [a10, Option.bind_some]
                        rw [thn_in] at C10
                        have F10 := F9.tr f10
                        cases h10 : adv B n zp.2 with
                        | inl e =>
                          rw [h10] at C10
                          have z : CF e.1 e.2 g10 := C10
                          rw [if_neg z.f]
                          exact ⟨g10, rfl, F10.ln, z⟩
                        | inr p10 =>
                          rw [h10] at C10
                          have z : CTk B n p10 g10 := C10
                          rw [thn_in, thn_in, if_pos z.f]
                          obtain ⟨g, b1, b2, b3⟩ := c_addDe (m := ip.1) (x := xp.1) (o := op.1) (z := zp.1) hq I (R.n hq F10) (by omega) l2 l4 l7 l9
                          rw [b1, Option.bind_some]
                          exact ⟨g, rfl, F10.ln.tr b2.hs, z.keep b2 (fun b z => by unfold Whs at z; omega), b3⟩
