/-! e in the developers' reader -/
def LB (s : EXs) : Prop := s.2.1 ≤ 40 ∧ s.2.2.length ≤ 9 * s.2.1
theorem OKx.lb {dp : Nat} {s0 s : EXs} (h : OKx dp s0 s) (L : LB s0) : s.2.2.length + 1 + dp ≤ 9 * s.2.1 ∧ s.2.1 ≤ 40 := by
  obtain ⟨a1, a2, a3, e, a4, a5⟩ := h
  have h1 := a5.1
  have h2 := L.2
  have h3 := L.1
  rw [a4, List.length_append]
  omega
def EXok (q : Nat) (B : Nat → Nat) (n : Nat) (ex : HI → Int32 → Int32 → Option HI) (a b : Nat) (eq : EXs → Sum (Nat × Nat) EXs) : Prop := ∀ s h, TC B n h → Wd h → CE q B n s h → LB s → ∃ g, ex h (nI a) (nI b) = some g ∧ Fr (Wex q) h g ∧ CEq q B n (eq s) g
theorem stop57 {ex : HI → Int32 → Int32 → Option HI} {q F : Nat} {g : HI} {a b v3 v4 : Int32} (h : v3 = 0 ∨ ¬ g.1 53 8 = 0) : fX4_expression_57 ex 53 1 q (fun h8 => some h8) (F + 1) g a b v3 v4 = some g := by
  rw [fX4_expression_57]
  split
  · rfl
  · split
    · rfl
    · rename_i c
      rcases h with h | h
      · exact absurd h c
      · rw [if_neg h]
theorem Fr.p2 {q : Nat} {h g : HI} (F : Fr (fun a b => a = q + 18 ∧ b = 2 ∨ a = q + 19) h g) : Fr (Wex q) h g := F.mono fun a b z => by unfold Wex; omega
theorem c_loop {q : Nat} {B : Nat → Nat} {n dp lv : Nat} {ex : HI → Int32 → Int32 → Option HI} {eq : EXs → Sum (Nat × Nat) EXs} (hq : q + 20 < 53) (hq2 : 2 < q) (X : TX B n) (hlv : lv < 5) (hex : EXok q B n ex (lv + 1) dp eq) (hcf : ∀ (g : HI) (a b : Int32), ¬ g.1 53 8 = 0 → ex g a b = some g) (hok : ∀ s s2, s.2.1 ≤ 40 → eq s = .inr s2 → OKx dp s s2) : ∀ (c j F : Nat) (s : EXs) (h : HI), j + c = 41 → TC B n h → Wd h → CE q B n s h → LB s → ∃ g, fX4_expression_57 ex 53 1 q (fun h8 => some h8) (F + (c + 1)) h (nI lv) (nI dp) (b01 (joint lv (tc B n s.1))) (nI j) = some g ∧ Fr (Wex q) h g ∧ CEq q B n (loopP B n eq lv c s) g
  | 0, j, F, s, h, hj, T, D, C, L => by
    refine ⟨h, ?_, Fr.rf, C⟩
    rw [fX4_expression_57, if_pos (show (40 : Int32) < nI j from nI_lt (a := 40) (by omega) (by omega))]
  | c + 1, j, F, s, h, hj, T, D, C, L => by
    rw [loopP]
    cases hjo : joint lv (tc B n s.1) with
    | false =>
      rw [if_neg (by decide)]
      exact ⟨h, stop57 (Or.inl rfl), Fr.rf, C⟩
    | true =>
      rw [if_pos rfl, show F + (c + 1 + 1) = (F + (c + 1)) + 1 by omega, fX4_expression_57, if_neg (show ¬ (40 : Int32) < nI j from nI_nlt (a := 40) (by omega) (by decide)), if_neg b01t, if_pos C.1.f]
      obtain ⟨g1, a1, f1, C1⟩ := ct_next X T D C.1
      rw [a1, Option.bind_some, nI_1, C.1.2.2.1]
      unfold fX4_expression_122 fX4_expression_123
      -- behind a fault
      have bad : ∀ (g3 : HI) (e : Nat × Nat), Fr (Wex q) h g3 → CF e.1 e.2 g3 → LEN q g3 → ∃ g, ((fX5_addToken (q + 18) g3 (nI (tc B n s.1))).bind fun h5 => (if nI lv = (2 : Int32) then fX4_expression_57 ex 53 1 q (fun h8 => some h8) (F + (c + 1)) h5 (nI lv) (nI dp) (0 : Int32) (nI j + (1 : Int32)) else ((fX4_isJoint 53 h5 (nI lv)).bind fun p6 => (if p6.1 = 0 then fX4_expression_57 ex 53 1 q (fun h8 => some h8) (F + (c + 1)) p6.2 (nI lv) (nI dp) (0 : Int32) (nI j + (1 : Int32)) else fX4_expression_57 ex 53 1 q (fun h8 => some h8) (F + (c + 1)) p6.2 (nI lv) (nI dp) (1 : Int32) (nI j + (1 : Int32)))))) = some g ∧ Fr (Wex q) h g ∧ CF e.1 e.2 g ∧ LEN q g := by
        intro g3 e F3 Z3 L3
        obtain ⟨g4, a4, f4, L4⟩ := c_lenT L3 (nI (tc B n s.1))
        have Z4 := Z3.keep f4 (fun b z => by omega)
        obtain ⟨w, hw⟩ := cf_joint (h := g4) (nI lv)
        rw [a4, Option.bind_some, hw, Option.bind_some, show F + (c + 1) = (F + c) + 1 by omega, stop57 (Or.inr Z4.f), stop57 (Or.inr Z4.f), ite_self, ite_self]
        exact ⟨g4, rfl, F3.tr f4.p2, Z4, L4⟩
      cases h1 : adv B n s.1 with
      | inl e =>
        rw [h1] at C1
        have Z1 : CF e.1 e.2 g1 := C1
        rw [hcf g1 _ _ Z1.f, Option.bind_some, thn_l]
        obtain ⟨g, b1, b2, b3, b4⟩ := bad g1 e f1.ex Z1 ((C.2.len (by have := L.1; have := L.2; omega)).n hq f1)
        exact ⟨g, b1, b2, b3, b4⟩
      | inr p1 =>
        rw [h1] at C1
        rw [thn_in]
        obtain ⟨g2, a2, f2, C2⟩ := hex (p1, s.2.1, s.2.2) g1 (T.n f1) (D.n f1) ⟨C1, C.2.n hq f1⟩ L
        have F2 := f1.ex.tr f2
        rw [a2, Option.bind_some]
        cases h2 : eq (p1, s.2.1, s.2.2) with
        | inl e =>
          rw [h2] at C2
          obtain ⟨g, b1, b2, b3, b4⟩ := bad g2 e F2 C2.1 C2.2
          rw [thn_l]
          exact ⟨g, b1, b2, b3, b4⟩
        | inr s2 =>
          rw [h2] at C2
          obtain ⟨C2, R2⟩ := C2
          have ok := hok (p1, s.2.1, s.2.2) s2 L.1 h2
          have lb := ok.lb (show LB (p1, s.2.1, s.2.2) from L)
          obtain ⟨g3, a3, f3, R3⟩ := c_tok (v := tc B n s.1) R2 (by omega)
          have C3 := C2.keep f3 (fun b z => by omega)
          have F3 := F2.tr f3.p2
          rw [a3, Option.bind_some, thn_in]
          by_cases c2 : lv = 2
          · rw [if_pos c2, if_pos (show nI lv = (2 : Int32) by rw [c2]; rfl), show F + (c + 1) = (F + c) + 1 by omega, stop57 (Or.inl rfl)]
            exact ⟨g3, rfl, F3, C3, R3⟩
          · rw [if_neg c2, if_neg (show ¬ nI lv = (2 : Int32) from fun z => c2 ((nI_eq (b := 2) (by omega) (by decide)).mp z)), c_joint C3 hlv, Option.bind_some]
            have eb : (if b01 (joint lv (tc B n s2.1)) = 0 then fX4_expression_57 ex 53 1 q (fun h8 => some h8) (F + (c + 1)) g3 (nI lv) (nI dp) (0 : Int32) (nI j + (1 : Int32)) else fX4_expression_57 ex 53 1 q (fun h8 => some h8) (F + (c + 1)) g3 (nI lv) (nI dp) (1 : Int32) (nI j + (1 : Int32))) = fX4_expression_57 ex 53 1 q (fun h8 => some h8) (F + (c + 1)) g3 (nI lv) (nI dp) (b01 (joint lv (tc B n s2.1))) (nI (j + 1)) := by
              rw [nI_1]
              cases joint lv (tc B n s2.1) with
              | false => rw [if_pos b01f]; rfl
              | true => rw [if_neg b01t]; rfl
            rw [eb]
            obtain ⟨g, b1, b2, b3⟩ := c_loop (q := q) hq hq2 X hlv hex hcf hok c (j + 1) F (s2.1, s2.2.1, s2.2.2 ++ [10000 + tc B n s.1]) g3 (by omega) (T.e hq2 F3) (D.e hq F3) ⟨C3, R3⟩ ⟨lb.2, by show (s2.2.2 ++ [10000 + tc B n s.1]).length ≤ 9 * s2.2.1; rw [List.length_append]; simp; omega⟩
            exact ⟨g, b1, F3.tr b2, b3⟩
theorem c_182 {q : Nat} {B : Nat → Nat} {n : Nat} {ex : HI → Int32 → Int32 → Option HI} {h : HI} (hq : q + 20 < 53) (X : TX B n) (T : TC B n h) (D : Wd h) {p u : Nat} {code : List Nat} (C : CTk B n p h) (R : RLc q u code h) (hl : code.length ≤ 400) : ∃ g, fX4_unit_182 ex 53 1 q h = some g ∧ Fr WN h g ∧ CEq q B n (thn (adv B n p) fun p1 => .inr (p1, u, code)) g := by
  obtain ⟨g, a1, f1, C1⟩ := ct_next X T D C
  unfold fX4_unit_182
  rw [a1, Option.bind_some]
  refine ⟨g, rfl, f1, ?_⟩
  cases z : adv B n p with
  | inl e => rw [z] at C1; exact ⟨C1, (R.len hl).n hq f1⟩
  | inr p1 => rw [z] at C1; exact ⟨C1, R.n hq f1⟩
theorem c_unit {q : Nat} {B : Nat → Nat} {n dp : Nat} {ex : HI → Int32 → Int32 → Option HI} {eq : EXs → Sum (Nat × Nat) EXs} {h : HI} {s : EXs} (hq : q + 20 < 53) (hq2 : 2 < q) (X : TX B n) (hd : dp ≤ 7) (hex : dp ≤ 6 → EXok q B n ex 0 (dp + 1) eq) (hcf : ∀ (g : HI) (a b : Int32), ¬ g.1 53 8 = 0 → ex g a b = some g) (hok : dp ≤ 6 → ∀ s s2, s.2.1 ≤ 40 → eq s = .inr s2 → OKx (dp + 1) s s2) (T : TC B n h) (D : Wd h) (C : CE q B n s h) (L : LB s) : ∃ g, fX4_unit ex 53 1 q h (nI dp) = some g ∧ Fr (Wex q) h g ∧ CEq q B n (unitP B n eq dp s) g := by
  have htc := tc_lt B n s.1
  have e4 := C.1.2.2.1
  have hu := L.1
  have hl := L.2
  have no : ¬ unOK B n dp s → ∃ g, fX4_unit_87 ex 53 1 q h = some g ∧ Fr (Wex q) h g ∧ CEq q B n (unitP B n eq dp s) g := fun c => by
    obtain ⟨g, a1, a2, a3⟩ := ct_refuse C.1 (k := 2) (by decide) (by decide)
    unfold fX4_unit_87
    rw [show (2 : Int32) = nI 2 from rfl, a1, Option.bind_some, unitP_n c]
    exact ⟨g, rfl, a2.ex, a3, (C.2.len (by omega)).n hq a2⟩
  have t40 : h.1 53 4 = (40 : Int32) ↔ tc B n s.1 = 40 := tc_eq C.1 (c := 40) (by decide)
  have t2 : h.1 53 4 = (2 : Int32) ↔ tc B n s.1 = 2 := tc_eq C.1 (c := 2) (by decide)
  have yes : ∀ b : Bool, (b = true ↔ 144 ≤ tc B n s.1 ∧ tc B n s.1 ≤ 148) → unOK B n dp s → ∃ g, fX4_unit_93 ex 53 1 q h (nI dp) (b01 b) = some g ∧ Fr (Wex q) h g ∧ CEq q B n (unitP B n eq dp s) g := by
    intro b hb c
    rw [unitP_y c]
    have hc := c.1
    unfold fX4_unit_93
    rw [C.2.2.2, nI_1]
    have F1 : Fr (fun x y => x = q + 18 ∧ y = 3) h (uI h (q + 18) 3 (nI (s.2.1 + 1))) := Fr.uI (by omega)
    have C1 := C.1.keep F1 (fun b z => by omega)
    have R1 : RLc q (s.2.1 + 1) s.2.2 (uI h (q + 18) 3 (nI (s.2.1 + 1))) := ⟨by rw [uI_n (by omega)]; exact C.2.1, fun i hi => by rw [uI_n (by omega)]; exact C.2.2.1 i hi, uI_s _ _ _ _⟩
    have F1' : Fr (Wex q) h (uI h (q + 18) 3 (nI (s.2.1 + 1))) := F1.mono fun a b z => by unfold Wex; omega
    generalize uI h (q + 18) 3 (nI (s.2.1 + 1)) = h1 at F1 C1 R1 F1'
    have T1 := T.e hq2 F1'
    have D1 := D.e hq F1'
    have e41 := C1.2.2.1
    by_cases c40 : tc B n s.1 = 40
    · have hd6 : dp ≤ 6 := by obtain ⟨_, z | z | z⟩ := c <;> omega
      rw [if_pos c40, e41, if_pos (show nI (tc B n s.1) = (40 : Int32) by rw [c40]; rfl)]
      obtain ⟨g2, a2, f2, C2⟩ := ct_next X T1 D1 C1
      rw [a2, Option.bind_some]
      have F2 := F1'.tr f2.ex
      have R2 := R1.n hq f2
      -- behind a fault
      have bad : ∀ (g3 : HI) (e : Nat × Nat), Fr (Wex q) h g3 → CF e.1 e.2 g3 → LEN q g3 → ∃ g, (if (g3.1 53 4) = (41 : Int32) then fX4_unit_182 ex 53 1 q g3 else ((fX4_refuse 53 g3 (2 : Int32)).bind fun h7 => fX4_unit_182 ex 53 1 q h7)) = some g ∧ Fr (Wex q) h g ∧ CF e.1 e.2 g ∧ LEN q g := by
        intro g3 e F3 Z3 L3
        unfold fX4_unit_182
        rw [cf_refuse Z3, Option.bind_some, cf_next Z3, Option.bind_some, ite_self]
        exact ⟨g3, rfl, F3, Z3, L3⟩
      cases h1 : adv B n s.1 with
      | inl e =>
        rw [h1] at C2
        have Z2 : CF e.1 e.2 g2 := C2
        rw [hcf g2 _ _ Z2.f, Option.bind_some]
        exact bad g2 e F2 Z2 (R2.len (by omega))
      | inr p1 =>
        rw [h1] at C2
        rw [thn_in, nI_1]
        obtain ⟨g3, a3, f3, C3⟩ := hex hd6 (p1, s.2.1 + 1, s.2.2) g2 (T.e hq2 F2) (D.e hq F2) ⟨C2, R2⟩ ⟨by show s.2.1 + 1 ≤ 40; omega, by show s.2.2.length ≤ 9 * (s.2.1 + 1); omega⟩
        have a3' : ex g2 0 (nI (dp + 1)) = some g3 := a3
        rw [a3', Option.bind_some]
        have F3 := F2.tr f3
        cases h2 : eq (p1, s.2.1 + 1, s.2.2) with
        | inl e => rw [h2] at C3; exact bad g3 e F3 C3.1 C3.2
        | inr s3 =>
          rw [h2] at C3
          obtain ⟨C3, R3⟩ := C3
          have ok := hok hd6 (p1, s.2.1 + 1, s.2.2) s3 (by show s.2.1 + 1 ≤ 40; omega) h2
          have lb := ok.lb (show LB (p1, s.2.1 + 1, s.2.2) from ⟨by show s.2.1 + 1 ≤ 40; omega, by show s.2.2.length ≤ 9 * (s.2.1 + 1); omega⟩)
          rw [thn_in]
          unfold clP
          by_cases c41 : tc B n s3.1 = 41
          · obtain ⟨g4, a4, f4, C4⟩ := c_182 (q := q) (ex := ex) hq X (T.e hq2 F3) (D.e hq F3) C3 R3 (by omega)
            rw [if_pos c41, if_pos (show g3.1 53 4 = (41 : Int32) from (tc_eq C3 (c := 41) (by decide)).mpr c41), a4]
            exact ⟨g4, rfl, F3.tr f4.ex, C4⟩
          · obtain ⟨g4, a4, f4, C4⟩ := ct_refuse C3 (k := 2) (by decide) (by decide)
            rw [if_neg c41, if_neg (show ¬ g3.1 53 4 = (41 : Int32) from fun z => c41 ((tc_eq C3 (c := 41) (by decide)).mp z)), show (2 : Int32) = nI 2 from rfl, a4, Option.bind_some]
            unfold fX4_unit_182
            rw [cf_next C4, Option.bind_some]
            exact ⟨g4, rfl, F3.tr f4.ex, C4, (R3.len (by omega)).n hq f4⟩
    · rw [if_neg c40, e41, if_neg (show ¬ nI (tc B n s.1) = (40 : Int32) from fun z => c40 ((nI_eq (b := 40) (by omega) (by decide)).mp z))]
      cases b with
      | true =>
        have hb2 := hb.mp rfl
        obtain ⟨g3, a3, f3, R3⟩ := c_tok (v := tc B n s.1) R1 (by omega)
        have C3 := C1.keep f3 (fun b z => by omega)
        have F3 := F1'.tr f3.p2
        obtain ⟨g4, a4, f4, C4⟩ := c_182 (q := q) (ex := ex) hq X (T.e hq2 F3) (D.e hq F3) C3 R3 (by rw [List.length_append]; simp; omega)
        rw [if_neg b01t, a3, Option.bind_some, a4]
        refine ⟨g4, rfl, F3.tr f4.ex, ?_⟩
        have : unC B n s.1 = 10000 + tc B n s.1 := by unfold unC; rw [if_neg (by omega)]
        rw [this]; exact C4
      | false =>
        have hc2 : tc B n s.1 = 2 := by
          rcases c.2 with z | z | z
          · exact z
          · exact absurd z.1 c40
          · have := hb.mpr z; cases this
        have e6 : h1.1 53 6 = nI (tv B n s.1) := C1.2.2.2.2.1 hc2
        obtain ⟨g3, a3, f3, R3⟩ := c_push (v := tv B n s.1) R1 (by omega)
        have C3 := C1.keep f3 (fun b z => by omega)
        have F3 := F1'.tr f3.p2
        obtain ⟨g4, a4, f4, C4⟩ := c_182 (q := q) (ex := ex) hq X (T.e hq2 F3) (D.e hq F3) C3 R3 (by rw [List.length_append]; simp; omega)
        rw [if_pos b01f, e6, a3, Option.bind_some, a4]
        refine ⟨g4, rfl, F3.tr f4.ex, ?_⟩
        have : unC B n s.1 = tv B n s.1 := by unfold unC; rw [if_pos hc2]
        rw [this]; exact C4
  have main : ∀ b : Bool, (b = true ↔ 144 ≤ tc B n s.1 ∧ tc B n s.1 ≤ 148) → ∃ g, fX4_unit_25 ex 53 1 q h (nI dp) (b01 b) = some g ∧ Fr (Wex q) h g ∧ CEq q B n (unitP B n eq dp s) g := by
    intro b hb
    unfold fX4_unit_25 fX4_unit_60 fX4_unit_56 fX4_unit_61
    rw [C.2.2.2, if_pos (show (0 : Int32) = 0 from rfl), if_neg ne10]
    by_cases c1 : s.2.1 < 40
    · rw [if_neg (show ¬ (40 : Int32) ≤ nI s.2.1 from nI_ge (b := 40) c1 (by decide))]
      by_cases c2 : tc B n s.1 = 40
      · rw [if_pos (t40.mpr c2)]
        by_cases c3 : dp ≤ 6
        · rw [if_neg (show ¬ (6 : Int32) < nI dp from nI_nlt (a := 6) c3 (by decide)), if_neg (show ¬ h.1 53 4 = (2 : Int32) from fun z => by have := t2.mp z; omega), if_pos (t40.mpr c2)]
          exact yes b hb ⟨c1, Or.inr (Or.inl ⟨c2, c3⟩)⟩
        · rw [if_pos (show (6 : Int32) < nI dp from nI_lt (a := 6) (by omega) (by omega))]
          exact no (fun z => by obtain ⟨_, z | z | z⟩ := z <;> omega)
      · rw [if_neg (fun z => c2 (t40.mp z)), if_neg (fun z => c2 (t40.mp z))]
        by_cases c3 : tc B n s.1 = 2
        · rw [if_pos (t2.mpr c3)]
          exact yes b hb ⟨c1, Or.inl c3⟩
        · rw [if_neg (fun z => c3 (t2.mp z))]
          cases b with
          | true => rw [if_neg b01t]; exact yes true hb ⟨c1, Or.inr (Or.inr (hb.mp rfl))⟩
          | false =>
            rw [if_pos b01f]
            exact no (fun z => by
              obtain ⟨_, z | z | z⟩ := z
              · exact c3 z
              · exact c2 z.1
              · have := hb.mpr z; cases this)
    · rw [if_pos (show (40 : Int32) ≤ nI s.2.1 from nI_le (a := 40) (by omega) (by omega))]
      exact no (fun z => c1 z.1)
  unfold fX4_unit fX4_unit_24
  rw [e4]
  by_cases c1 : tc B n s.1 < 144
  · rw [if_pos (show nI (tc B n s.1) < (144 : Int32) from nI_lt (b := 144) c1 (by decide))]
    exact main false ⟨(fun z => by cases z), fun z => by omega⟩
  · rw [if_neg (show ¬ nI (tc B n s.1) < (144 : Int32) from nI_nlt (b := 144) (by omega) (by omega)), if_neg (show ¬ (148 : Int32) < nI (tc B n s.1) from nI_nlt (a := 148) (by omega) (by decide))]
    exact main true ⟨fun _ => by omega, fun _ => rfl⟩
theorem cf_expr {q f : Nat} (g : HI) (a b : Int32) (hf : 1 ≤ f) (h : ¬ g.1 53 8 = 0) : fX4_expr 53 1 q f g a b = some g := by
  obtain ⟨f2, rfl⟩ : ∃ f2, f = f2 + 1 := ⟨f - 1, by omega⟩
  rw [fX4_expr]
  unfold fX4_expression
  rw [if_neg h]
theorem c_expr {q : Nat} {B : Nat → Nat} {n : Nat} (hq : q + 20 < 53) (hq2 : 2 < q) (X : TX B n) : ∀ (f lv dp : Nat), 7 * (8 - dp) + (6 - lv) ≤ f → dp ≤ 7 → lv ≤ 5 → EXok q B n (fX4_expr 53 1 q f) lv dp (exP B n f lv dp)
  | 0, lv, dp, hb, hd, hl => by omega
  | f + 1, lv, dp, hb, hd, hl => by
    intro s h T D C L
    have hu := L.1
    have hlen := L.2
    rw [fX4_expr, exP]
    unfold fX4_expression
    rw [if_pos C.1.f]
    by_cases c5 : lv < 5
    · rw [if_pos c5, if_pos (show nI lv < (5 : Int32) from nI_lt (b := 5) c5 (by decide))]
      have t143 : h.1 53 4 = (143 : Int32) ↔ tc B n s.1 = 143 := tc_eq C.1 (c := 143) (by decide)
      by_cases cn : lv = 2 ∧ tc B n s.1 = 143
      · rw [if_pos cn, if_pos (show nI lv = (2 : Int32) by rw [cn.1]; rfl), if_pos (t143.mpr cn.2)]
        unfold fX4_negation
        by_cases c6 : dp ≤ 6
        · rw [if_pos c6, if_pos (show nI dp ≤ (6 : Int32) from nI_le (b := 6) c6 (by decide)), nI_1]
          obtain ⟨g1, a1, f1, C1⟩ := ct_next X T D C.1
          rw [a1, Option.bind_some]
          have R1 := C.2.n hq f1
          have bad : ∀ (g3 : HI) (e : Nat × Nat), Fr (Wex q) h g3 → CF e.1 e.2 g3 → LEN q g3 → ∃ g, ((((fX5_addToken (q + 18) g3 (143 : Int32)).bind fun h3 => some h3) : Option HI).bind fun h9 => some h9) = some g ∧ Fr (Wex q) h g ∧ CF e.1 e.2 g ∧ LEN q g := by
            intro g3 e F3 Z3 L3
            obtain ⟨g4, a4, f4, L4⟩ := c_lenT L3 143
            rw [a4, Option.bind_some, Option.bind_some]
            exact ⟨g4, rfl, F3.tr f4.p2, Z3.keep f4 (fun b z => by omega), L4⟩
          cases h1 : adv B n s.1 with
          | inl e =>
            rw [h1] at C1
            have Z1 : CF e.1 e.2 g1 := C1
            rw [cf_expr g1 _ _ (by omega) Z1.f, Option.bind_some]
            exact bad g1 e f1.ex Z1 (R1.len (by omega))
          | inr p1 =>
            rw [h1] at C1
            rw [thn_in]
            obtain ⟨g2, a2, f2, C2⟩ := c_expr hq hq2 X f 2 (dp + 1) (by omega) (by omega) (by omega) (p1, s.2.1, s.2.2) g1 (T.n f1) (D.n f1) ⟨C1, R1⟩ L
            have a2' : fX4_expr 53 1 q f g1 (2 : Int32) (nI (dp + 1)) = some g2 := a2
            rw [a2', Option.bind_some]
            have F2 := f1.ex.tr f2
            cases h2 : exP B n f 2 (dp + 1) (p1, s.2.1, s.2.2) with
            | inl e => rw [h2] at C2; exact bad g2 e F2 C2.1 C2.2
            | inr s2 =>
              rw [h2] at C2
              obtain ⟨C2, R2⟩ := C2
              have ok := exP_ok f 2 (dp + 1) (p1, s.2.1, s.2.2) s2 (by omega) hu h2
              have lb := ok.lb (show LB (p1, s.2.1, s.2.2) from L)
              obtain ⟨g3, a3, f3, R3⟩ := c_tok (v := 143) R2 (by omega)
              have a3' : fX5_addToken (q + 18) g2 (143 : Int32) = some g3 := a3
              rw [a3', Option.bind_some, Option.bind_some, thn_in]
              exact ⟨g3, rfl, F2.tr f3.p2, C2.keep f3 (fun b z => by omega), R3⟩
        · obtain ⟨g, a1, a2, a3⟩ := ct_refuse C.1 (k := 2) (by decide) (by decide)
          rw [if_neg c6, if_neg (show ¬ nI dp ≤ (6 : Int32) from nI_ge (a := 6) (by omega) (by omega)), show (2 : Int32) = nI 2 from rfl, a1, Option.bind_some, Option.bind_some]
          exact ⟨g, rfl, a2.ex, a3, (C.2.len (by omega)).n hq a2⟩
      · rw [if_neg cn]
        have e40 : (if nI lv = (2 : Int32) then (if h.1 53 4 = (143 : Int32) then ((fX4_negation (fX4_expr 53 1 q f) 53 1 q h (nI dp)).bind fun h9 => some h9) else fX4_expression_40 (fX4_expr 53 1 q f) 53 1 q h (nI lv) (nI dp)) else fX4_expression_40 (fX4_expr 53 1 q f) 53 1 q h (nI lv) (nI dp)) = fX4_expression_40 (fX4_expr 53 1 q f) 53 1 q h (nI lv) (nI dp) := by
          by_cases z : lv = 2
          · rw [if_pos (show nI lv = (2 : Int32) by rw [z]; rfl), if_neg (fun y => cn ⟨z, t143.mp y⟩)]
          · rw [if_neg (show ¬ nI lv = (2 : Int32) from fun y => z ((nI_eq (b := 2) (by omega) (by decide)).mp y))]
        rw [e40]
        unfold fX4_expression_40
        have sub := c_expr hq hq2 X f (lv + 1) dp (by omega) hd (by omega)
        obtain ⟨g1, a1, f1, C1⟩ := sub s h T D C L
        rw [nI_1, a1, Option.bind_some]
        cases h1 : exP B n f (lv + 1) dp s with
        | inl e =>
          rw [h1] at C1
          obtain ⟨w, hw⟩ := cf_joint (h := g1) (nI lv)
          obtain ⟨F, hF⟩ := FU_ge (n := 0) (by omega)
          rw [hw, Option.bind_some, hF, stop57 (Or.inr C1.1.f)]
          exact ⟨g1, rfl, f1, C1⟩
        | inr s1 =>
          rw [h1] at C1
          have ok := exP_ok f (lv + 1) dp s s1 hd hu h1
          have lb := ok.lb L
          rw [c_joint C1.1 c5, Option.bind_some, thn_in]
          obtain ⟨F, hF⟩ := FU_ge (n := 41) (by omega)
          obtain ⟨g2, a2, f2, C2⟩ := c_loop (q := q) hq hq2 X c5 sub (fun g a b hg => cf_expr g a b (by omega) hg) (fun x y hx hxy => exP_ok f (lv + 1) dp x y hd hx hxy) 41 0 F s1 g1 (by omega) (T.e hq2 f1) (D.e hq f1) C1 ⟨lb.2, by omega⟩
          have a2' : fX4_expression_57 (fX4_expr 53 1 q f) 53 1 q (fun h8 => some h8) FU g1 (nI lv) (nI dp) (b01 (joint lv (tc B n s1.1))) (0 : Int32) = some g2 := by rw [hF]; exact a2
          rw [a2']
          exact ⟨g2, rfl, f1.tr f2, C2⟩
    · rw [if_neg c5, if_neg (show ¬ nI lv < (5 : Int32) from nI_nlt (b := 5) (by omega) (by omega))]
      obtain ⟨g, a1, a2, a3⟩ := c_unit (q := q) (ex := fX4_expr 53 1 q f) (eq := exP B n f 0 (dp + 1)) hq hq2 X hd (fun hd6 => c_expr hq hq2 X f 0 (dp + 1) (by omega) (by omega) (by omega)) (fun g a b hg => cf_expr g a b (by omega) hg) (fun hd6 x y hx hxy => exP_ok f 0 (dp + 1) x y (by omega) hx hxy) T D C L
      rw [a1, Option.bind_some]
      exact ⟨g, rfl, a2, a3⟩
