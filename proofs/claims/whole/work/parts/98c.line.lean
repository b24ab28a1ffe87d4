/-! a line of any kind, on both sides -/
theorem tr_of {b : Bool} (h : ¬ b = false) : b = true := by cases b <;> simp_all
theorem c_line {q : Nat} {B : Nat → Nat} {n p : Nat} {S : TD} {h : HI} (hq : q + 20 < 53) (hq2 : 2 < q) (X : TX B n) (T : TC B n h) (D : Wd h) (I : PIt S) (R : PCt q S h) (C : CTk B n p h) : ∃ g, fX4_line 53 1 q h = some g ∧ Fr (Wln q) h g ∧ CLq q B n (clL B n (liL B n S p)) g := by
  have bad : ∀ r, r = .inl (2, tp B n p) → ∃ g, ((fX4_refuse 53 h (2 : Int32)).bind fun h3 => fX4_line_152 53 1 q h3) = some g ∧ Fr (Wln q) h g ∧ CLq q B n (clL B n r) g := by
    intro r hr
    obtain ⟨g1, a1, a2, a3⟩ := ct_refuse C (k := 2) (by decide) (by decide)
    have a1' : fX4_refuse 53 h (2 : Int32) = some g1 := a1
    rw [a1', Option.bind_some, hr]
    obtain ⟨g2, b1, b2, b3⟩ := c_cl (r := .inl (2, tp B n p)) hq X (T.n a2) (D.n a2) a3
    exact ⟨g2, b1, (a2.tr b2).ln, b3⟩
  have fin : ∀ (r : Sum (Nat × Nat) (Nat × TD)) (g1 : HI), Fr (Wln q) h g1 → CLq q B n r g1 → ∃ g, fX4_line_152 53 1 q g1 = some g ∧ Fr (Wln q) h g ∧ CLq q B n (clL B n r) g := by
    intro r g1 F1 C1
    obtain ⟨g2, b1, b2, b3⟩ := c_cl (r := r) hq X (T.keep F1 (fun a b y z => by unfold Wln WN Whs at z; omega)) (D.keep F1 (fun a b y z => by unfold Wln WN Whs at z; omega)) C1
    exact ⟨g2, b1, F1.tr b2.ln, b3⟩
  have t128 : h.1 53 4 = (128 : Int32) ↔ tc B n p = 128 := tc_eq C (c := 128) (by decide)
  have t129 : h.1 53 4 = (129 : Int32) ↔ tc B n p = 129 := tc_eq C (c := 129) (by decide)
  have t130 : h.1 53 4 = (130 : Int32) ↔ tc B n p = 130 := tc_eq C (c := 130) (by decide)
  have t131 : h.1 53 4 = (131 : Int32) ↔ tc B n p = 131 := tc_eq C (c := 131) (by decide)
  have t132 : h.1 53 4 = (132 : Int32) ↔ tc B n p = 132 := tc_eq C (c := 132) (by decide)
  have t133 : h.1 53 4 = (133 : Int32) ↔ tc B n p = 133 := tc_eq C (c := 133) (by decide)
  have t134 : h.1 53 4 = (134 : Int32) ↔ tc B n p = 134 := tc_eq C (c := 134) (by decide)
  have t135 : h.1 53 4 = (135 : Int32) ↔ tc B n p = 135 := tc_eq C (c := 135) (by decide)
  have t136 : h.1 53 4 = (136 : Int32) ↔ tc B n p = 136 := tc_eq C (c := 136) (by decide)
  have t137 : h.1 53 4 = (137 : Int32) ↔ tc B n p = 137 := tc_eq C (c := 137) (by decide)
  have t138 : h.1 53 4 = (138 : Int32) ↔ tc B n p = 138 := tc_eq C (c := 138) (by decide)
  have t139 : h.1 53 4 = (139 : Int32) ↔ tc B n p = 139 := tc_eq C (c := 139) (by decide)
  have t140 : h.1 53 4 = (140 : Int32) ↔ tc B n p = 140 := tc_eq C (c := 140) (by decide)
  unfold fX4_line liL
  by_cases c128 : tc B n p = 128
  · rw [if_pos (t128.mpr c128), if_pos c128]
    obtain ⟨g1, a1, a2, a3⟩ := c_chL hq X T D I R C
    rw [a1, Option.bind_some]
    exact fin _ g1 a2 a3
  rw [if_neg (fun z => c128 (t128.mp z))]
  by_cases c129 : tc B n p = 129
  · rw [if_pos (t129.mpr c129), if_neg c128, if_neg (show ¬ tc B n p = 131 by omega), if_neg (show ¬ tc B n p = 134 by omega), if_neg (show ¬ tc B n p = 136 by omega), if_neg (show ¬ tc B n p = 137 by omega), if_neg (show ¬ tc B n p = 139 by omega), if_neg (show ¬ tc B n p = 140 by omega)]
    exact bad _ rfl
  rw [if_neg (fun z => c129 (t129.mp z))]
  by_cases c130 : tc B n p = 130
  · rw [if_pos (t130.mpr c130), if_neg c128, if_neg (show ¬ tc B n p = 131 by omega), if_neg (show ¬ tc B n p = 134 by omega), if_neg (show ¬ tc B n p = 136 by omega), if_neg (show ¬ tc B n p = 137 by omega), if_neg (show ¬ tc B n p = 139 by omega), if_neg (show ¬ tc B n p = 140 by omega)]
    exact bad _ rfl
  rw [if_neg (fun z => c130 (t130.mp z))]
  by_cases c131 : tc B n p = 131
  · rw [if_pos (t131.mpr c131), if_neg c128, if_pos c131]
    obtain ⟨g1, a1, a2, a3⟩ := c_maL hq X T D I R C
    rw [a1, Option.bind_some]
    exact fin _ g1 a2 a3
  rw [if_neg (fun z => c131 (t131.mp z))]
  by_cases c132 : tc B n p = 132
  · rw [if_pos (t132.mpr c132), if_neg c128, if_neg c131, if_neg (show ¬ tc B n p = 134 by omega), if_neg (show ¬ tc B n p = 136 by omega), if_neg (show ¬ tc B n p = 137 by omega), if_neg (show ¬ tc B n p = 139 by omega), if_neg (show ¬ tc B n p = 140 by omega)]
    exact bad _ rfl
  rw [if_neg (fun z => c132 (t132.mp z))]
  by_cases c133 : tc B n p = 133
  · rw [if_pos (t133.mpr c133), if_neg c128, if_neg c131, if_neg (show ¬ tc B n p = 134 by omega), if_neg (show ¬ tc B n p = 136 by omega), if_neg (show ¬ tc B n p = 137 by omega), if_neg (show ¬ tc B n p = 139 by omega), if_neg (show ¬ tc B n p = 140 by omega)]
    exact bad _ rfl
  rw [if_neg (fun z => c133 (t133.mp z))]
  by_cases c134 : tc B n p = 134
  · rw [if_pos (t134.mpr c134), if_neg c128, if_neg c131, if_pos c134]
    obtain ⟨g1, a1, a2, a3⟩ := c_mtL hq X T D I R C
    rw [a1, Option.bind_some]
    exact fin _ g1 a2 a3
  rw [if_neg (fun z => c134 (t134.mp z))]
  by_cases c135 : tc B n p = 135
  · rw [if_pos (t135.mpr c135), if_neg c128, if_neg c131, if_neg c134, if_neg (show ¬ tc B n p = 136 by omega), if_neg (show ¬ tc B n p = 137 by omega), if_neg (show ¬ tc B n p = 139 by omega), if_neg (show ¬ tc B n p = 140 by omega)]
    exact bad _ rfl
  rw [if_neg (fun z => c135 (t135.mp z))]
  by_cases c136 : tc B n p = 136
  · rw [if_pos (t136.mpr c136), if_neg c128, if_neg c131, if_neg c134, if_pos c136]
    obtain ⟨g1, a1, a2, a3⟩ := c_wiL hq X T D I R C
    rw [a1, Option.bind_some]
    exact fin _ g1 a2 a3
  rw [if_neg (fun z => c136 (t136.mp z))]
  by_cases c137 : tc B n p = 137
  · rw [if_pos (t137.mpr c137), if_neg c128, if_neg c131, if_neg c134, if_neg c136, if_pos c137]
    obtain ⟨g1, a1, a2, a3⟩ := c_deL hq X T D I R C
    rw [a1, Option.bind_some]
    exact fin _ g1 a2 a3
  rw [if_neg (fun z => c137 (t137.mp z))]
  by_cases c138 : tc B n p = 138
  · rw [if_pos (t138.mpr c138), if_neg c128, if_neg c131, if_neg c134, if_neg c136, if_neg c137, if_neg (show ¬ tc B n p = 139 by omega), if_neg (show ¬ tc B n p = 140 by omega)]
    exact bad _ rfl
  rw [if_neg (fun z => c138 (t138.mp z))]
  by_cases c139 : tc B n p = 139
  · rw [if_pos (t139.mpr c139), if_neg c128, if_neg c131, if_neg c134, if_neg c136, if_neg c137, if_pos c139]
    obtain ⟨g1, a1, a2, a3⟩ := c_naL hq X T D I R C
    rw [a1, Option.bind_some]
    exact fin _ g1 a2 a3
  rw [if_neg (fun z => c139 (t139.mp z))]
  by_cases c140 : tc B n p = 140
  · rw [if_pos (t140.mpr c140), if_neg c128, if_neg c131, if_neg c134, if_neg c136, if_neg c137, if_neg c139, if_pos c140]
    obtain ⟨g1, a1, a2, a3⟩ := c_paL hq hq2 X T D R C
    rw [a1]
    exact fin _ g1 a2 a3
  rw [if_neg (fun z => c140 (t140.mp z))]
  rw [if_neg c128, if_neg c131, if_neg c134, if_neg c136, if_neg c137, if_neg c139, if_neg c140]
  exact bad _ rfl
theorem r_line {B : Nat → Nat} {n p : Nat} {S : TD} {h : HI} (X : TX B n) (T : TR B n h) (I : PIt S) (R : PRt S h) (C : RTk B n p h) : ∃ g, fX9_readLine 101 h = some g ∧ Fr Wrd h g ∧ RLq B n (thn (tk B n p) fun q => clL B n (liL B n S q)) g := by
  have hC := I.1.C6
  have hM := I.1.M6
  have hX := I.1.X4
  have hD := I.1.D4
  have hW := I.2.2.2.2.2.1
  have hnp := I.1.np
  have RR := R
  obtain ⟨r_C, r_M, r_X, r_ho, r_st, r_di, r_wi, r_dm, r_dx, r_om, r_ox, r_sl, r_dr, r_w, r_W, r_D, r_np, r_t, r_un, r_n0, r_n1, r_nm⟩ := R
  have w0 : fX9_isWord 101 h (426952976754 : Int64) = some (b01 (decide (tc B n p = 128)), h) := by rw [kk.1]; exact r_isW (i := 0) C (by decide)
  have w3 : fX9_isWord 101 h (7168366 : Int64) = some (b01 (decide (tc B n p = 131)), h) := by rw [kk.2.2.2.1]; exact r_isW (i := 3) C (by decide)
  have w6 : fX9_isWord 101 h (120265333040498 : Int64) = some (b01 (decide (tc B n p = 134)), h) := by rw [kk.2.2.2.2.2.2.1]; exact r_isW (i := 6) C (by decide)
  have w8 : fX9_isWord 101 h (2003399528 : Int64) = some (b01 (decide (tc B n p = 136)), h) := by rw [kk.2.2.2.2.2.2.2.2.1]; exact r_isW (i := 8) C (by decide)
  have w9 : fX9_isWord 101 h (1684365676 : Int64) = some (b01 (decide (tc B n p = 137)), h) := by rw [kk.2.2.2.2.2.2.2.2.2.1]; exact r_isW (i := 9) C (by decide)
  have w11 : fX9_isWord 101 h (7233904 : Int64) = some (b01 (decide (tc B n p = 139)), h) := by rw [kk2.1]; exact r_isW (i := 11) C (by decide)
  have w12 : fX9_isWord 101 h (1885434739 : Int64) = some (b01 (decide (tc B n p = 140)), h) := by rw [kk2.2.1]; exact r_isW (i := 12) C (by decide)
  have fin : ∀ (r : Sum (Nat × Nat) (Nat × TD)) (g1 : HI), Fr Wrd h g1 → RLq B n r g1 → ∃ g, fX9_readLine_187 101 g1 = some g ∧ Fr Wrd h g ∧ RLq B n (clL B n r) g := by
    intro r g1 F1 C1
    obtain ⟨g2, b1, b2, b3⟩ := r_cl X (T.rd F1) C1
    exact ⟨g2, b1, F1.tr b2.rd, b3⟩
  have bad : (tc B n p ≠ 3 → liL B n S p = .inl (2, tp B n p)) → ∃ g, fX9_readLine_182 101 h = some g ∧ Fr Wrd h g ∧ RLq B n (thn (tk B n p) fun q => clL B n (liL B n S q)) g := by
    intro hb
    obtain ⟨g, e, a1, a2, a3, a4⟩ := rt_wrong X C (k := 2) (by decide) (by decide)
    have a1' : fX9_wrong 101 h (2 : Int32) = some g := a1
    unfold fX9_readLine_182
    rw [a1', Option.bind_some]
    unfold fX9_readLine_187 fX9_readLine_208
    rw [if_neg a3.f.2, if_neg a3.f.2]
    exact ⟨g, rfl, a2.rd, Or.inl ⟨e, a4 _ (fun z => by rw [hb z]; rfl), a3⟩⟩
  have n128 : ¬ (tc B n p = 128 ∧ S.d.C < 6) → fX9_readLine 101 h = fX9_readLine_28 101 h := by
    intro hn
    unfold fX9_readLine
    rw [w0, Option.bind_some]
    by_cases c : tc B n p = 128
    · have d128 : ¬ S.d.C < 6 := fun z => hn ⟨c, z⟩
      rw [decide_eq_true c, if_neg b01t, if_pos (show (6 : Int32) ≤ h.1 111 0 from by rw [r_C]; exact nI_le (a := 6) (by omega) (by omega))]
    · rw [decide_eq_false c, if_pos b01f]
  have n131 : ¬ (tc B n p = 131 ∧ S.d.M < 6) → fX9_readLine_28 101 h = fX9_readLine_56 101 h := by
    intro hn
    unfold fX9_readLine_28
    rw [w3, Option.bind_some]
    by_cases c : tc B n p = 131
    · have d131 : ¬ S.d.M < 6 := fun z => hn ⟨c, z⟩
      rw [decide_eq_true c, if_neg b01t, if_pos (show (6 : Int32) ≤ h.1 111 1 from by rw [r_M]; exact nI_le (a := 6) (by omega) (by omega))]
    · rw [decide_eq_false c, if_pos b01f]
  have n134 : ¬ (tc B n p = 134 ∧ S.d.X < 4) → fX9_readLine_56 101 h = fX9_readLine_83 101 h := by
    intro hn
    unfold fX9_readLine_56
    rw [w6, Option.bind_some]
    by_cases c : tc B n p = 134
    · have d134 : ¬ S.d.X < 4 := fun z => hn ⟨c, z⟩
      rw [decide_eq_true c, if_neg b01t, if_pos (show (4 : Int32) ≤ h.1 111 2 from by rw [r_X]; exact nI_le (a := 4) (by omega) (by omega))]
    · rw [decide_eq_false c, if_pos b01f]
  have n136 : ¬ (tc B n p = 136 ∧ S.d.W < 24) → fX9_readLine_83 101 h = fX9_readLine_109 101 h := by
    intro hn
    unfold fX9_readLine_83
    rw [w8, Option.bind_some]
    by_cases c : tc B n p = 136
    · have d136 : ¬ S.d.W < 24 := fun z => hn ⟨c, z⟩
      rw [decide_eq_true c, if_neg b01t, if_pos (show (24 : Int32) ≤ h.1 101 41 from by rw [r_W]; exact nI_le (a := 24) (by omega) (by omega))]
    · rw [decide_eq_false c, if_pos b01f]
  have n137 : ¬ (tc B n p = 137 ∧ S.d.D < 4) → fX9_readLine_109 101 h = fX9_readLine_134 101 h := by
    intro hn
    unfold fX9_readLine_109
    rw [w9, Option.bind_some]
    by_cases c : tc B n p = 137
    · have d137 : ¬ S.d.D < 4 := fun z => hn ⟨c, z⟩
      rw [decide_eq_true c, if_neg b01t, if_pos (show (4 : Int32) ≤ h.1 101 42 from by rw [r_D]; exact nI_le (a := 4) (by omega) (by omega))]
    · rw [decide_eq_false c, if_pos b01f]
  have n139 : ¬ (tc B n p = 139 ∧ S.d.np = 0) → fX9_readLine_134 101 h = fX9_readLine_158 101 h := by
    intro hn
    unfold fX9_readLine_134
    rw [w11, Option.bind_some]
    by_cases c : tc B n p = 139
    · have d139 : ¬ S.d.np = 0 := fun z => hn ⟨c, z⟩
      rw [decide_eq_true c, if_neg b01t, if_neg (show ¬ h.1 101 43 = 0 from by rw [r_np]; exact nI_ne0 (by omega) (by omega))]
    · rw [decide_eq_false c, if_pos b01f]
  have n140 : ¬ (tc B n p = 140 ∧ S.t = false) → fX9_readLine_158 101 h = fX9_readLine_182 101 h := by
    intro hn
    unfold fX9_readLine_158
    rw [w12, Option.bind_some]
    by_cases c : tc B n p = 140
    · have d140 : ¬ S.t = false := fun z => hn ⟨c, z⟩
      rw [decide_eq_true c, if_neg b01t, if_neg (show ¬ h.1 101 47 = 0 from by rw [r_t, tr_of d140]; exact b01t)]
    · rw [decide_eq_false c, if_pos b01f]
  by_cases y128 : tc B n p = 128 ∧ S.d.C < 6
  · have el : (thn (tk B n p) fun q => clL B n (liL B n S q)) = clL B n (chL B n S p) := by
      rw [tkn (by omega), thn_in]; unfold liL; rw [if_pos y128.1]
    rw [el]
    unfold fX9_readLine
    rw [w0, Option.bind_some, decide_eq_true y128.1, if_neg b01t, if_neg (show ¬ (6 : Int32) ≤ h.1 111 0 from by rw [r_C]; exact nI_ge (show S.d.C < 6 from y128.2) (by decide))]
    obtain ⟨g1, a1, a2, a3⟩ := r_chL X T I RR C (by omega) y128.2
    rw [a1, Option.bind_some]
    exact fin _ g1 a2 a3
  rw [n128 y128]
  by_cases y131 : tc B n p = 131 ∧ S.d.M < 6
  · have el : (thn (tk B n p) fun q => clL B n (liL B n S q)) = clL B n (maL B n S p) := by
      rw [tkn (by omega), thn_in]; unfold liL; rw [if_neg (show ¬ tc B n p = 128 by omega), if_pos y131.1]
    rw [el]
    unfold fX9_readLine_28
    rw [w3, Option.bind_some, decide_eq_true y131.1, if_neg b01t, if_neg (show ¬ (6 : Int32) ≤ h.1 111 1 from by rw [r_M]; exact nI_ge (show S.d.M < 6 from y131.2) (by decide))]
    obtain ⟨g1, a1, a2, a3⟩ := r_maL X T I RR C (by omega) y131.2
    rw [a1, Option.bind_some]
    exact fin _ g1 a2 a3
  rw [n131 y131]
  by_cases y134 : tc B n p = 134 ∧ S.d.X < 4
  · have el : (thn (tk B n p) fun q => clL B n (liL B n S q)) = clL B n (mtL B n S p) := by
      rw [tkn (by omega), thn_in]; unfold liL; rw [if_neg (show ¬ tc B n p = 128 by omega), if_neg (show ¬ tc B n p = 131 by omega), if_pos y134.1]
    rw [el]
    unfold fX9_readLine_56
    rw [w6, Option.bind_some, decide_eq_true y134.1, if_neg b01t, if_neg (show ¬ (4 : Int32) ≤ h.1 111 2 from by rw [r_X]; exact nI_ge (show S.d.X < 4 from y134.2) (by decide))]
    obtain ⟨g1, a1, a2, a3⟩ := r_mtL X T I RR C (by omega) y134.2
    rw [a1, Option.bind_some]
    exact fin _ g1 a2 a3
  rw [n134 y134]
  by_cases y136 : tc B n p = 136 ∧ S.d.W < 24
  · have el : (thn (tk B n p) fun q => clL B n (liL B n S q)) = clL B n (wiL B n S p) := by
      rw [tkn (by omega), thn_in]; unfold liL; rw [if_neg (show ¬ tc B n p = 128 by omega), if_neg (show ¬ tc B n p = 131 by omega), if_neg (show ¬ tc B n p = 134 by omega), if_pos y136.1]
    rw [el]
    unfold fX9_readLine_83
    rw [w8, Option.bind_some, decide_eq_true y136.1, if_neg b01t, if_neg (show ¬ (24 : Int32) ≤ h.1 101 41 from by rw [r_W]; exact nI_ge (show S.d.W < 24 from y136.2) (by decide))]
    obtain ⟨g1, a1, a2, a3⟩ := r_wiL X T I RR C (by omega) y136.2
    rw [a1, Option.bind_some]
    exact fin _ g1 a2 a3
  rw [n136 y136]
  by_cases y137 : tc B n p = 137 ∧ S.d.D < 4
  · have el : (thn (tk B n p) fun q => clL B n (liL B n S q)) = clL B n (deL B n S p) := by
      rw [tkn (by omega), thn_in]; unfold liL; rw [if_neg (show ¬ tc B n p = 128 by omega), if_neg (show ¬ tc B n p = 131 by omega), if_neg (show ¬ tc B n p = 134 by omega), if_neg (show ¬ tc B n p = 136 by omega), if_pos y137.1]
    rw [el]
    unfold fX9_readLine_109
    rw [w9, Option.bind_some, decide_eq_true y137.1, if_neg b01t, if_neg (show ¬ (4 : Int32) ≤ h.1 101 42 from by rw [r_D]; exact nI_ge (show S.d.D < 4 from y137.2) (by decide))]
    obtain ⟨g1, a1, a2, a3⟩ := r_deL X T I RR C (by omega) y137.2
    rw [a1, Option.bind_some]
    exact fin _ g1 a2 a3
  rw [n137 y137]
  by_cases y139 : tc B n p = 139 ∧ S.d.np = 0
  · have el : (thn (tk B n p) fun q => clL B n (liL B n S q)) = clL B n (naL B n S p) := by
      rw [tkn (by omega), thn_in]; unfold liL; rw [if_neg (show ¬ tc B n p = 128 by omega), if_neg (show ¬ tc B n p = 131 by omega), if_neg (show ¬ tc B n p = 134 by omega), if_neg (show ¬ tc B n p = 136 by omega), if_neg (show ¬ tc B n p = 137 by omega), if_pos y139.1]
    rw [el]
    unfold fX9_readLine_134
    rw [w11, Option.bind_some, decide_eq_true y139.1, if_neg b01t, if_pos (show h.1 101 43 = 0 from by rw [r_np, y139.2]; rfl)]
    obtain ⟨g1, a1, a2, a3⟩ := r_naL X T RR C (by omega) y139.2
    rw [a1, Option.bind_some]
    exact fin _ g1 a2 a3
  rw [n139 y139]
  by_cases y140 : tc B n p = 140 ∧ S.t = false
  · have el : (thn (tk B n p) fun q => clL B n (liL B n S q)) = clL B n (paL B n S p) := by
      rw [tkn (by omega), thn_in]; unfold liL; rw [if_neg (show ¬ tc B n p = 128 by omega), if_neg (show ¬ tc B n p = 131 by omega), if_neg (show ¬ tc B n p = 134 by omega), if_neg (show ¬ tc B n p = 136 by omega), if_neg (show ¬ tc B n p = 137 by omega), if_neg (show ¬ tc B n p = 139 by omega), if_pos y140.1]
    rw [el]
    unfold fX9_readLine_158
    rw [w12, Option.bind_some, decide_eq_true y140.1, if_neg b01t, if_pos (show h.1 101 47 = 0 from by rw [r_t, y140.2]; rfl)]
    exact r_paL X T I RR C (by omega) y140.2
  rw [n140 y140]
  refine bad fun _ => ?_
  unfold liL
  by_cases c128 : tc B n p = 128
  · rw [if_pos c128]; unfold chL stP; rw [decide_eq_true (show 6 ≤ S.d.C from by have := fun z => y128 ⟨c128, z⟩; omega)]; rfl
  rw [if_neg c128]
  by_cases c131 : tc B n p = 131
  · rw [if_pos c131]; unfold maL stP; rw [decide_eq_true (show 6 ≤ S.d.M from by have := fun z => y131 ⟨c131, z⟩; omega)]; rfl
  rw [if_neg c131]
  by_cases c134 : tc B n p = 134
  · rw [if_pos c134]; unfold mtL stP; rw [decide_eq_true (show 4 ≤ S.d.X from by have := fun z => y134 ⟨c134, z⟩; omega)]; rfl
  rw [if_neg c134]
  by_cases c136 : tc B n p = 136
  · rw [if_pos c136]; unfold wiL stP; rw [decide_eq_true (show 24 ≤ S.d.W from by have := fun z => y136 ⟨c136, z⟩; omega)]; rfl
  rw [if_neg c136]
  by_cases c137 : tc B n p = 137
  · rw [if_pos c137]; unfold deL stP; rw [decide_eq_true (show 4 ≤ S.d.D from by have := fun z => y137 ⟨c137, z⟩; omega)]; rfl
  rw [if_neg c137]
  by_cases c139 : tc B n p = 139
  · rw [if_pos c139]; unfold naL stP; rw [decide_eq_true (show S.d.np ≠ 0 from fun z => y139 ⟨c139, z⟩)]; rfl
  rw [if_neg c139]
  by_cases c140 : tc B n p = 140
  · rw [if_pos c140]; unfold paL stP; rw [tr_of (fun z => y140 ⟨c140, z⟩)]; rfl
  rw [if_neg c140]
