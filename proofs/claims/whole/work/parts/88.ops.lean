/-! the steps of which a line is made, pure, and in the developers' reader -/
def thn {α β : Type} (r : Sum (Nat × Nat) α) (f : α → Sum (Nat × Nat) β) : Sum (Nat × Nat) β := match r with
  | .inl e => .inl e
  | .inr a => f a
def adv (B : Nat → Nat) (n p : Nat) : Sum (Nat × Nat) Nat := tk B n (tn B n p)
def takeP (B : Nat → Nat) (n c p : Nat) : Sum (Nat × Nat) Nat := if tc B n p = c then adv B n p else .inl (2, tp B n p)
def ifP (B : Nat → Nat) (n c p : Nat) : Sum (Nat × Nat) (Bool × Nat) := if tc B n p = c then thn (adv B n p) (fun q => .inr (true, q)) else .inr (false, p)
def nbP (B : Nat → Nat) (n a b p : Nat) : Sum (Nat × Nat) (Nat × Nat) := if tc B n p = 2 then (if a ≤ tv B n p ∧ tv B n p ≤ b then thn (adv B n p) (fun q => .inr (tv B n p, q)) else .inl (4, tp B n p)) else .inl (2, tp B n p)
def wrP (B : Nat → Nat) (n z : Nat) (s : Bool) (p : Nat) : Sum (Nat × Nat) (Int × Nat) := if tc B n p = 2 then (if tv B n p ≤ 99 then thn (adv B n p) (fun q => .inr (if s then -(tv B n p : Int) else (tv B n p : Int), q)) else .inl (4, z)) else .inl (2, tp B n p)
def woP (B : Nat → Nat) (n p : Nat) : Sum (Nat × Nat) (Int × Nat) := if tc B n p = 45 then thn (adv B n p) (wrP B n (tp B n p) true) else wrP B n (tp B n p) false p
def fiP (B : Nat → Nat) (n : Nat) (f : Nat → List Nat) (m p : Nat) : Option Nat := fnd (fun i => decide (f i = tw B n p)) 0 m
def newP (B : Nat → Nat) (n : Nat) (f : Nat → List Nat) (m p : Nat) : Sum (Nat × Nat) (List Nat × Nat) := if tc B n p = 1 then (match fiP B n f m p with
  | none => thn (adv B n p) (fun q => .inr (tw B n p, q))
  | some _ => .inl (3, tp B n p)) else .inl (2, tp B n p)
def tdP (B : Nat → Nat) (n : Nat) (f : Nat → List Nat) (m p : Nat) : Sum (Nat × Nat) (Nat × Nat) := if tc B n p = 1 then (match fiP B n f m p with
  | none => .inl (5, tp B n p)
  | some i => .inr (i, p)) else .inl (2, tp B n p)
def stP (B : Nat → Nat) (n : Nat) (b : Bool) (p : Nat) : Sum (Nat × Nat) Nat := if b then .inl (2, tp B n p) else adv B n p
theorem tk_in {B : Nat → Nat} {n p q : Nat} (h : tk B n p = .inr q) : q = p ∧ tc B n p ≠ 3 := by
  unfold tk at h
  split at h
  · cases h
  · rename_i c
    cases h
    exact ⟨rfl, c⟩
def CV {α : Type} (B : Nat → Nat) (n : Nat) (R : α → Int32 → Prop) (r : Sum (Nat × Nat) (α × Nat)) (v : Int32) (h : HI) : Prop := match r with
  | .inr a => R a.1 v ∧ CTk B n a.2 h
  | .inl e => CF e.1 e.2 h
theorem CTk.f {B : Nat → Nat} {n p : Nat} {h : HI} (C : CTk B n p h) : h.1 53 8 = 0 := C.2.2.2.2.2.2.1
theorem CF.f {k q : Nat} {h : HI} (C : CF k q h) : ¬ h.1 53 8 = 0 := by
  rw [C.1]; exact nI_ne0 (by have := C.2.2.1; omega) (by have := C.2.2.2; omega)
theorem cf_next {k q : Nat} {h : HI} (C : CF k q h) : fX4_next 53 1 h = some h := by unfold fX4_next; rw [if_neg C.f]
theorem cf_refuse {k q : Nat} {h : HI} (C : CF k q h) (v : Int32) : fX4_refuse 53 h v = some h := by unfold fX4_refuse fX4_refuseAt; rw [if_neg C.f, Option.bind_some]
theorem ct_refuse {B : Nat → Nat} {n p : Nat} {h : HI} (C : CTk B n p h) {k : Nat} (h1 : 1 ≤ k) (h5 : k ≤ 5) : ∃ g, fX4_refuse 53 h (nI k) = some g ∧ Fr WN h g ∧ CF k (tp B n p) g := by
  unfold fX4_refuse fX4_refuseAt
  rw [if_pos C.f, Option.bind_some, C.2.2.2.1]
  exact ⟨_, rfl, (Fr.uI (by unfold WN; omega)).tr (Fr.uI (by unfold WN; omega)), by rw [uI_n (by omega), uI_s], uI_s _ _ _ _, h1, h5⟩
theorem ct_next {B : Nat → Nat} {n p : Nat} {h : HI} (X : TX B n) (T : TC B n h) (D : Wd h) (C : CTk B n p h) : ∃ g, fX4_next 53 1 h = some g ∧ Fr WN h g ∧ CQ B n (adv B n p) g := c_next0 X T D (tn_le C.1) C.2.1 C.2.2.2.2.2.2.1 C.2.2.2.2.2.2.2.1
theorem c_next {B : Nat → Nat} {n : Nat} {h : HI} {r : Sum (Nat × Nat) Nat} (X : TX B n) (T : TC B n h) (D : Wd h) (C : CQ B n r h) : ∃ g, fX4_next 53 1 h = some g ∧ Fr WN h g ∧ CQ B n (thn r (adv B n)) g := by
  cases r with
  | inl e => exact ⟨h, cf_next C, Fr.rf, C⟩
  | inr p => exact ct_next X T D C
theorem c_refuse {B : Nat → Nat} {n : Nat} {h : HI} {r : Sum (Nat × Nat) Nat} (C : CQ B n r h) {k : Nat} (h1 : 1 ≤ k) (h5 : k ≤ 5) : ∃ g, fX4_refuse 53 h (nI k) = some g ∧ Fr WN h g ∧ CQ B n (thn r (fun p => .inl (k, tp B n p))) g := by
  cases r with
  | inl e => exact ⟨h, cf_refuse C _, Fr.rf, C⟩
  | inr p => exact ct_refuse C h1 h5
theorem tc_eq {B : Nat → Nat} {n p : Nat} {h : HI} (C : CTk B n p h) {c : Nat} (hc : c < 1000) : h.1 53 4 = nI c ↔ tc B n p = c := by
  have := tc_lt B n p
  rw [C.2.2.1]
  exact nI_eq (by omega) (by omega)
theorem c_take {B : Nat → Nat} {n : Nat} {h : HI} {r : Sum (Nat × Nat) Nat} (X : TX B n) (T : TC B n h) (D : Wd h) (C : CQ B n r h) {c : Nat} (hc : c < 1000) : ∃ g, fX4_take 53 1 h (nI c) = some g ∧ Fr WN h g ∧ CQ B n (thn r (takeP B n c)) g := by
  unfold fX4_take
  cases r with
  | inl e =>
    refine ⟨h, ?_, Fr.rf, C⟩
    rw [cf_next C, cf_refuse C, Option.bind_some]
    split <;> rfl
  | inr p =>
    have C2 : CTk B n p h := C
    show ∃ g, _ ∧ _ ∧ CQ B n (takeP B n c p) g
    unfold takeP
    by_cases q : tc B n p = c
    · obtain ⟨g, e1, e2, e3⟩ := ct_next X T D C2
      rw [if_pos q, if_pos ((tc_eq C2 hc).mpr q), e1, Option.bind_some]
      exact ⟨g, rfl, e2, e3⟩
    · obtain ⟨g, e1, e2, e3⟩ := ct_refuse C2 (k := 2) (by decide) (by decide)
      rw [if_neg q, if_neg (fun z => q ((tc_eq C2 hc).mp z)), show (2 : Int32) = nI 2 from rfl, e1, Option.bind_some]
      exact ⟨g, rfl, e2, e3⟩
theorem c_takeIf {B : Nat → Nat} {n : Nat} {h : HI} {r : Sum (Nat × Nat) Nat} (X : TX B n) (T : TC B n h) (D : Wd h) (C : CQ B n r h) {c : Nat} (hc : c < 1000) : ∃ v g, fX4_takeIf 53 1 h (nI c) = some (v, g) ∧ Fr WN h g ∧ CV B n (fun b v => v = b01 b) (thn r (ifP B n c)) v g := by
  unfold fX4_takeIf
  cases r with
  | inl e =>
    rw [cf_next C, Option.bind_some]
    split
    · exact ⟨_, _, rfl, Fr.rf, C⟩
    · exact ⟨_, _, rfl, Fr.rf, C⟩
  | inr p =>
    have C2 : CTk B n p h := C
    show ∃ v g, _ ∧ _ ∧ CV B n _ (ifP B n c p) v g
    unfold ifP
    by_cases q : tc B n p = c
    · obtain ⟨g, e1, e2, e3⟩ := ct_next X T D C2
      rw [if_pos q, if_pos ((tc_eq C2 hc).mpr q), e1, Option.bind_some]
      refine ⟨_, g, rfl, e2, ?_⟩
      cases z : adv B n p with
      | inl e => rw [z] at e3; exact e3
      | inr t => rw [z] at e3; exact ⟨rfl, e3⟩
    · rw [if_neg q, if_neg (fun z => q ((tc_eq C2 hc).mp z))]
      exact ⟨_, h, rfl, Fr.rf, rfl, C2⟩
theorem c_takeNb {B : Nat → Nat} {n : Nat} {h : HI} {r : Sum (Nat × Nat) Nat} (X : TX B n) (T : TC B n h) (D : Wd h) (C : CQ B n r h) {a b : Nat} (hb : b < 10000) (hab : a ≤ b) : ∃ v g, fX4_takeNumber 53 1 h (nI a) (nI b) = some (v, g) ∧ Fr WN h g ∧ CV B n (fun x v => v = nI x) (thn r (nbP B n a b)) v g := by
  unfold fX4_takeNumber fX4_takeNumber_32 fX4_takeNumber_37
  cases r with
  | inl e =>
    refine ⟨h.1 53 6, h, ?_, Fr.rf, C⟩
    rw [cf_next C, cf_refuse C, cf_refuse C, Option.bind_some, Option.bind_some, cf_next C, Option.bind_some]
    split
    · split
      · rfl
      · split <;> rfl
    · rfl
  | inr p =>
    have C2 : CTk B n p h := C
    show ∃ v g, _ ∧ _ ∧ CV B n _ (nbP B n a b p) v g
    unfold nbP
    have cf : ∀ (k : Nat), 1 ≤ k → k ≤ 5 → ∃ v g, ((fX4_refuse 53 h (nI k)).bind fun h1 => ((fX4_next 53 1 h1).bind fun h2 => some ((h1.1 53 6), h2))) = some (v, g) ∧ Fr WN h g ∧ CF k (tp B n p) g := by
      intro k h1 h5
      obtain ⟨g, e1, e2, e3⟩ := ct_refuse C2 h1 h5
      rw [e1, Option.bind_some, cf_next e3, Option.bind_some]
      exact ⟨_, g, rfl, e2, e3⟩
    by_cases q : tc B n p = 2
    · rw [if_pos q, if_pos (show h.1 53 4 = (2 : Int32) from (tc_eq C2 (by decide)).mpr q), C2.2.2.2.2.1 q]
      have hv := tv_lt q
      by_cases c1 : tv B n p < a
      · rw [if_pos (nI_lt c1 (by omega)), if_neg (by omega)]
        exact cf 4 (by decide) (by decide)
      · rw [if_neg (nI_nlt (by omega) (by omega))]
        by_cases c2 : tv B n p ≤ b
        · obtain ⟨g, e1, e2, e3⟩ := ct_next X T D C2
          rw [if_pos (nI_le c2 (by omega)), if_pos ⟨by omega, c2⟩, e1, Option.bind_some]
          refine ⟨_, g, rfl, e2, ?_⟩
          cases z : adv B n p with
          | inl e => rw [z] at e3; exact e3
          | inr t => rw [z] at e3; exact ⟨rfl, e3⟩
        · rw [if_neg (nI_ge (by omega) (by omega)), if_neg (fun z => c2 z.2)]
          exact cf 4 (by decide) (by decide)
    · rw [if_neg q, if_neg (show ¬ h.1 53 4 = (2 : Int32) from fun z => q ((tc_eq C2 (c := 2) (by decide)).mp z))]
      exact cf 2 (by decide) (by decide)
theorem ofI_n (a : Nat) : nI a = Int32.ofInt (a : Int) := rfl
theorem ofI_neg (a : Nat) : -(nI a) = Int32.ofInt (-(a : Int)) := by rw [nI_ofI, Int32.ofInt_neg]
theorem c_wr {B : Nat → Nat} {n z : Nat} {h : HI} {r : Sum (Nat × Nat) Nat} (X : TX B n) (T : TC B n h) (D : Wd h) (C : CQ B n r h) (s : Bool) : ∃ v g, fX4_takeWorth_28 53 1 h (nI z) (b01 s) = some (v, g) ∧ Fr WN h g ∧ CV B n (fun x v => v = Int32.ofInt x) (thn r (wrP B n z s)) v g := by
  unfold fX4_takeWorth_28 fX4_takeWorth_59
  cases r with
  | inl e =>
    have ex : fX4_refuseAt 53 h 4 (nI z) = some h := by unfold fX4_refuseAt; rw [if_neg (CF.f C)]
    rw [cf_next C, cf_refuse C, ex, Option.bind_some, Option.bind_some, cf_next C, Option.bind_some]
    refine ⟨if b01 s = 0 then h.1 53 6 else -(h.1 53 6), h, ?_, Fr.rf, C⟩
    split
    · split <;> split <;> rfl
    · split <;> rfl
  | inr p =>
    have C2 : CTk B n p h := C
    show ∃ v g, _ ∧ _ ∧ CV B n _ (wrP B n z s p) v g
    unfold wrP
    have cf : ∀ (k q : Nat) (g : HI), Fr WN h g → CF k q g → ∃ v g2, ((fX4_next 53 1 g).bind fun h1 => (if b01 s = 0 then some ((g.1 53 6), h1) else some ((-(g.1 53 6)), h1))) = some (v, g2) ∧ Fr WN h g2 ∧ CF k q g2 := by
      intro k q g F1 C3
      rw [cf_next C3, Option.bind_some]
      split
      · exact ⟨_, _, rfl, F1, C3⟩
      · exact ⟨_, _, rfl, F1, C3⟩
    by_cases q : tc B n p = 2
    · rw [if_pos q, if_pos (show h.1 53 4 = (2 : Int32) from (tc_eq C2 (by decide)).mpr q), C2.2.2.2.2.1 q]
      have hv := tv_lt q
      by_cases c2 : tv B n p ≤ 99
      · obtain ⟨g, e1, e2, e3⟩ := ct_next X T D C2
        rw [if_pos (show nI (tv B n p) ≤ (99 : Int32) from nI_le (b := 99) c2 (by decide)), if_pos c2, e1, Option.bind_some]
        cases s with
        | false =>
          rw [if_pos b01f]
          refine ⟨_, g, rfl, e2, ?_⟩
          cases z : adv B n p with
          | inl e => rw [z] at e3; exact e3
          | inr t => rw [z] at e3; exact ⟨rfl, e3⟩
        | true =>
          rw [if_neg b01t]
          refine ⟨_, g, rfl, e2, ?_⟩
          cases z : adv B n p with
          | inl e => rw [z] at e3; exact e3
          | inr t => rw [z] at e3; exact ⟨ofI_neg _, e3⟩
      · rw [if_neg (show ¬ nI (tv B n p) ≤ (99 : Int32) from nI_ge (a := 99) (by omega) (by omega)), if_neg c2]
        unfold fX4_refuseAt
        rw [if_pos C2.f, Option.bind_some]
        exact cf 4 z _ ((Fr.uI (by unfold WN; omega)).tr (Fr.uI (by unfold WN; omega))) ⟨by rw [uI_n (by omega), uI_s]; rfl, uI_s _ _ _ _, by decide, by decide⟩
    · obtain ⟨g, e1, e2, e3⟩ := ct_refuse C2 (k := 2) (by decide) (by decide)
      rw [if_neg q, if_neg (show ¬ h.1 53 4 = (2 : Int32) from fun z => q ((tc_eq C2 (c := 2) (by decide)).mp z)), show (2 : Int32) = nI 2 from rfl, e1, Option.bind_some]
      exact cf 2 _ g e2 e3
theorem cf_worth {k q : Nat} {h : HI} (C : CF k q h) : ∃ v, fX4_takeWorth 53 1 h = some (v, h) := by
  have ex : ∀ a b, fX4_refuseAt 53 h a b = some h := fun a b => by unfold fX4_refuseAt; rw [if_neg C.f]
  unfold fX4_takeWorth fX4_takeWorth_19 fX4_takeWorth_28 fX4_takeWorth_59
  simp only [cf_next C, ex, cf_refuse C, Option.bind_some]
  repeat' split
  all_goals exact ⟨_, rfl⟩
theorem c_worthT {B : Nat → Nat} {n : Nat} {h : HI} {r : Sum (Nat × Nat) Nat} (X : TX B n) (T : TC B n h) (D : Wd h) (C : CQ B n r h) : ∃ v g, fX4_takeWorth 53 1 h = some (v, g) ∧ Fr WN h g ∧ CV B n (fun x v => v = Int32.ofInt x) (thn r (woP B n)) v g := by
  cases r with
  | inl e =>
    obtain ⟨v, hv⟩ := cf_worth C
    exact ⟨v, h, hv, Fr.rf, C⟩
  | inr p =>
    have C2 : CTk B n p h := C
    show ∃ v g, _ ∧ _ ∧ CV B n _ (woP B n p) v g
    unfold fX4_takeWorth fX4_takeWorth_19
    rw [if_neg (show ¬ (1 : Int32) = 0 by decide), if_pos (show (0 : Int32) = 0 from rfl)]
    unfold woP
    rw [C2.2.2.2.1]
    by_cases q : tc B n p = 45
    · obtain ⟨g, e1, e2, e3⟩ := ct_next X T D C2
      rw [if_pos q, if_pos (show h.1 53 4 = (45 : Int32) from (tc_eq C2 (by decide)).mpr q), e1, Option.bind_some]
      obtain ⟨v, g2, a1, a2, a3⟩ := c_wr (z := tp B n p) X (T.n e2) (D.n e2) e3 true
      exact ⟨v, g2, a1, e2.tr a2, a3⟩
    · rw [if_neg q, if_neg (show ¬ h.1 53 4 = (45 : Int32) from fun z => q ((tc_eq C2 (c := 45) (by decide)).mp z))]
      exact c_wr (z := tp B n p) (r := .inr p) X T D C2 false
/-! names -/
def NmC (q N m : Nat) (f : Nat → List Nat) (h : HI) : Prop := m ≤ N ∧ N ≤ 6 ∧ h.1 q 1 = nI m ∧ (∀ i, i < m → h.2 (q + 1) i = lN (c5 (f i))) ∧ ∀ i, i < m → lett (f i) ∧ (f i).length ≤ 8
theorem NmC.keep {q N m : Nat} {f : Nat → List Nat} {h g : HI} {W : Nat → Nat → Prop} (T : NmC q N m f h) (F : Fr W h g) (hd : ∀ b, ¬ W q b ∧ ¬ W (q + 1) b) : NmC q N m f g := ⟨T.1, T.2.1, (F.1 _ _ (hd _).1).trans T.2.2.1, fun i hi => (F.2 _ _ (hd _).2).trans (T.2.2.2.1 i hi), T.2.2.2.2⟩
theorem fi_c {B : Nat → Nat} {n p q N m : Nat} {f : Nat → List Nat} {h : HI} (T : NmC q N m f h) (C : CTk B n p h) (e : tc B n p = 1) : fX2_find q N h (h.2 53 7) = some (ofO (fiP B n f m p), h) := by
  obtain ⟨t1, t2, t3, t4, t5⟩ := T
  have hw := tw_ok (Or.inl e)
  rw [c_find (by omega) t1 t3, C.2.2.2.2.2.1 e]
  unfold fiP
  rw [fnd_cong (P := fun i => decide (h.2 (q + 1) i = lN (c5 (tw B n p)))) (Q := fun i => decide (f i = tw B n p)) (fun i _ hi => decide_eq_decide.mpr (by
    rw [t4 i (by omega)]
    exact c5_w (t5 i (by omega)).1 hw.1 (t5 i (by omega)).2 hw.2.1))]
def CVn (B : Nat → Nat) (n : Nat) (r : Sum (Nat × Nat) (List Nat × Nat)) (v : Int64) (h : HI) : Prop := match r with
  | .inr a => v = lN (c5 a.1) ∧ CTk B n a.2 h
  | .inl e => CF e.1 e.2 h
theorem c_new {B : Nat → Nat} {n q N m : Nat} {f : Nat → List Nat} {h : HI} {r : Sum (Nat × Nat) Nat} (X : TX B n) (T : TC B n h) (D : Wd h) (M : NmC q N m f h) (C : CQ B n r h) : ∃ v g, fX4_takeNewName 53 1 q N h = some (v, g) ∧ Fr WN h g ∧ CVn B n (thn r (newP B n f m)) v g := by
  unfold fX4_takeNewName fX4_takeNewName_32
  cases r with
  | inl e =>
    obtain ⟨t1, t2, t3, t4, t5⟩ := M
    refine ⟨h.2 53 7, h, ?_, Fr.rf, C⟩
    rw [c_find (by omega) t1 t3, Option.bind_some, cf_next C, cf_refuse C, cf_refuse C, Option.bind_some, Option.bind_some, cf_next C, Option.bind_some]
    split
    · split <;> rfl
    · rfl
  | inr p =>
    have C2 : CTk B n p h := C
    show ∃ v g, _ ∧ _ ∧ CVn B n (newP B n f m p) v g
    unfold newP
    by_cases e1 : tc B n p = 1
    · rw [if_pos e1, if_pos (show h.1 53 4 = (1 : Int32) from (tc_eq C2 (by decide)).mpr e1), fi_c M C2 e1, Option.bind_some]
      cases z : fiP B n f m p with
      | none =>
        obtain ⟨g, a1, a2, a3⟩ := ct_next X T D C2
        rw [show ofO none = -1 from rfl, if_pos m1lt, a1, Option.bind_some]
        refine ⟨_, g, rfl, a2, ?_⟩
        simp only
        cases y : adv B n p with
        | inl e => rw [y] at a3; exact a3
        | inr t => rw [y] at a3; exact ⟨C2.2.2.2.2.2.1 e1, a3⟩
      | some i =>
        have hi := fnd_in z
        have := M.1
        have := M.2.1
        obtain ⟨g, a1, a2, a3⟩ := ct_refuse C2 (k := 3) (by decide) (by decide)
        rw [show ofO (some i) = nI i from rfl, if_neg (nI_pos (by omega)), show (3 : Int32) = nI 3 from rfl, a1, Option.bind_some, cf_next a3, Option.bind_some]
        exact ⟨_, g, rfl, a2, a3⟩
    · obtain ⟨g, a1, a2, a3⟩ := ct_refuse C2 (k := 2) (by decide) (by decide)
      rw [if_neg e1, if_neg (show ¬ h.1 53 4 = (1 : Int32) from fun z => e1 ((tc_eq C2 (c := 1) (by decide)).mp z)), show (2 : Int32) = nI 2 from rfl, a1, Option.bind_some, cf_next a3, Option.bind_some]
      exact ⟨_, g, rfl, a2, a3⟩
/-- what stands for the number of a name: below it, or -1 behind a fault -/
theorem c_told {B : Nat → Nat} {n q N m : Nat} {f : Nat → List Nat} {h : HI} {r : Sum (Nat × Nat) Nat} (M : NmC q N m f h) (C : CQ B n r h) : ∃ v g, fX4_toldName 53 q N h = some (v, g) ∧ Fr WN h g ∧ CV B n (fun i v => v = nI i ∧ i < m) (thn r (tdP B n f m)) v g := by
  unfold fX4_toldName
  cases r with
  | inl e =>
    obtain ⟨t1, t2, t3, t4, t5⟩ := M
    rw [c_find (by omega) t1 t3, Option.bind_some, cf_refuse C, cf_refuse C, Option.bind_some, Option.bind_some]
    split
    · split
      · exact ⟨_, h, rfl, Fr.rf, C⟩
      · exact ⟨_, h, rfl, Fr.rf, C⟩
    · exact ⟨_, h, rfl, Fr.rf, C⟩
  | inr p =>
    have C2 : CTk B n p h := C
    show ∃ v g, _ ∧ _ ∧ CV B n _ (tdP B n f m p) v g
    unfold tdP
    by_cases e1 : tc B n p = 1
    · rw [if_pos e1, if_pos (show h.1 53 4 = (1 : Int32) from (tc_eq C2 (by decide)).mpr e1), fi_c M C2 e1, Option.bind_some]
      cases z : fiP B n f m p with
      | none =>
        obtain ⟨g, a1, a2, a3⟩ := ct_refuse C2 (k := 5) (by decide) (by decide)
        rw [show ofO none = -1 from rfl, if_neg (show ¬ (0 : Int32) ≤ -1 by decide), show (5 : Int32) = nI 5 from rfl, a1, Option.bind_some]
        exact ⟨_, g, rfl, a2, a3⟩
      | some i =>
        have hi := fnd_in z
        have := M.1
        have := M.2.1
        rw [show ofO (some i) = nI i from rfl, if_pos (nI_pos' (by omega))]
        exact ⟨_, h, rfl, Fr.rf, ⟨rfl, by omega⟩, C2⟩
    · obtain ⟨g, a1, a2, a3⟩ := ct_refuse C2 (k := 2) (by decide) (by decide)
      rw [if_neg e1, if_neg (show ¬ h.1 53 4 = (1 : Int32) from fun z => e1 ((tc_eq C2 (c := 1) (by decide)).mp z)), show (2 : Int32) = nI 2 from rfl, a1, Option.bind_some]
      exact ⟨_, g, rfl, a2, a3⟩
theorem c_start {B : Nat → Nat} {n : Nat} {h : HI} {r : Sum (Nat × Nat) Nat} (X : TX B n) (T : TC B n h) (D : Wd h) (C : CQ B n r h) (b : Bool) : ∃ g, fX4_startLine 53 1 h (b01 b) = some g ∧ Fr WN h g ∧ CQ B n (thn r (stP B n b)) g := by
  unfold fX4_startLine fX4_startLine_9
  cases b with
  | false =>
    obtain ⟨g, a1, a2, a3⟩ := c_next X T D C
    rw [if_pos b01f, a1, Option.bind_some]
    exact ⟨g, rfl, a2, a3⟩
  | true =>
    obtain ⟨g, a1, a2, a3⟩ := c_refuse C (k := 2) (by decide) (by decide)
    rw [if_neg b01t, show (2 : Int32) = nI 2 from rfl, a1, Option.bind_some]
    have hf : ∃ k q, CF k q g ∧ thn r (stP B n true) = .inl (k, q) := by
      cases r with
      | inl e => exact ⟨_, _, a3, rfl⟩
      | inr p => exact ⟨_, _, a3, rfl⟩
    obtain ⟨k, q, c1, c2⟩ := hf
    rw [cf_next c1, Option.bind_some, c2]
    exact ⟨g, rfl, a2, c1⟩
