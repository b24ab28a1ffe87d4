/-! e, the rule's text, pure: level by level; and in the developers' reader -/
abbrev EXs : Type := Nat × Nat × List Nat
def joint (lv c : Nat) : Bool := if lv = 0 then decide (c = 141) else if lv = 1 then decide (c = 142) else if lv = 2 then (decide (c = 60) || (decide (c = 62) || decide (c = 61))) else if lv = 3 then (decide (c = 43) || decide (c = 45)) else decide (c = 42)
def loopP (B : Nat → Nat) (n : Nat) (ex : EXs → Sum (Nat × Nat) EXs) (lv : Nat) : Nat → EXs → Sum (Nat × Nat) EXs
  | 0, s => .inr s
  | c + 1, s => if joint lv (tc B n s.1) = true then thn (adv B n s.1) fun p1 => thn (ex (p1, s.2.1, s.2.2)) fun s2 => (if lv = 2 then .inr (s2.1, s2.2.1, s2.2.2 ++ [10000 + tc B n s.1]) else loopP B n ex lv c (s2.1, s2.2.1, s2.2.2 ++ [10000 + tc B n s.1])) else .inr s
def unOK (B : Nat → Nat) (n dp : Nat) (s : EXs) : Prop := s.2.1 < 40 ∧ (tc B n s.1 = 2 ∨ tc B n s.1 = 40 ∧ dp ≤ 6 ∨ 144 ≤ tc B n s.1 ∧ tc B n s.1 ≤ 148)
def clP (B : Nat → Nat) (n : Nat) (s2 : EXs) : Sum (Nat × Nat) EXs := if tc B n s2.1 = 41 then thn (adv B n s2.1) fun p3 => .inr (p3, s2.2.1, s2.2.2) else .inl (2, tp B n s2.1)
def unC (B : Nat → Nat) (n p : Nat) : Nat := if tc B n p = 2 then tv B n p else 10000 + tc B n p
noncomputable def unitP (B : Nat → Nat) (n : Nat) (ex : EXs → Sum (Nat × Nat) EXs) (dp : Nat) (s : EXs) : Sum (Nat × Nat) EXs := @ite _ (unOK B n dp s) (Classical.propDecidable _) (if tc B n s.1 = 40 then thn (adv B n s.1) fun p1 => thn (ex (p1, s.2.1 + 1, s.2.2)) (clP B n) else thn (adv B n s.1) fun p1 => .inr (p1, s.2.1 + 1, s.2.2 ++ [unC B n s.1])) (.inl (2, tp B n s.1))
theorem unitP_y {B : Nat → Nat} {n : Nat} {ex : EXs → Sum (Nat × Nat) EXs} {dp : Nat} {s : EXs} (h : unOK B n dp s) : unitP B n ex dp s = if tc B n s.1 = 40 then thn (adv B n s.1) fun p1 => thn (ex (p1, s.2.1 + 1, s.2.2)) (clP B n) else thn (adv B n s.1) fun p1 => .inr (p1, s.2.1 + 1, s.2.2 ++ [unC B n s.1]) := if_pos h
theorem unitP_n {B : Nat → Nat} {n : Nat} {ex : EXs → Sum (Nat × Nat) EXs} {dp : Nat} {s : EXs} (h : ¬ unOK B n dp s) : unitP B n ex dp s = .inl (2, tp B n s.1) := if_neg h
def pu (s : EXs) (c : Nat) : EXs := (s.1, s.2.1, s.2.2 ++ [c])
noncomputable def exP (B : Nat → Nat) (n : Nat) : Nat → Nat → Nat → EXs → Sum (Nat × Nat) EXs
  | 0, _, _, _ => .inl (0, 0)
  | f + 1, lv, dp, s => if lv < 5 then (if lv = 2 ∧ tc B n s.1 = 143 then (if dp ≤ 6 then thn (adv B n s.1) fun p1 => thn (exP B n f 2 (dp + 1) (p1, s.2.1, s.2.2)) fun s2 => .inr (pu s2 10143) else .inl (2, tp B n s.1)) else thn (exP B n f (lv + 1) dp s) fun s1 => loopP B n (exP B n f (lv + 1) dp) lv 41 s1) else unitP B n (exP B n f 0 (dp + 1)) dp s
/-! what is told of e: steps that leave one number, and not too many -/
def OKe (dp u : Nat) (e : List Nat) : Prop := e.length + 1 + dp ≤ 9 * u ∧ (∀ k l, k + u ≤ 42 → rt (e ++ l) k = rt l (k + 1)) ∧ ∀ c, c ∈ e → c < 20000
def OKx (dp : Nat) (s0 s : EXs) : Prop := s0.1 ≤ s.1 ∧ s0.2.1 < s.2.1 ∧ s.2.1 ≤ 40 ∧ ∃ e, s.2.2 = s0.2.2 ++ e ∧ OKe dp (s.2.1 - s0.2.1) e
theorem tn_ge {B : Nat → Nat} {n p : Nat} : p ≤ tn B n p := by
  have h1 : p ≤ tp B n p := run_ge _ _ _ _
  unfold tn
  split
  · exact h1
  · split
    · exact Nat.le_trans h1 (run_ge _ _ _ _)
    · split
      · exact Nat.le_trans h1 (run_ge _ _ _ _)
      · omega
theorem adv_ge {B : Nat → Nat} {n p q : Nat} (h : adv B n p = .inr q) : p ≤ q := by
  rw [(adv_in h).1]; exact tn_ge
theorem thn_inv {α β : Type} {r : Sum (Nat × Nat) α} {f : α → Sum (Nat × Nat) β} {b : β} (h : thn r f = .inr b) : ∃ a, r = .inr a ∧ f a = .inr b := by
  cases r with
  | inl e => cases h
  | inr a => exact ⟨a, rfl, h⟩
theorem joint_c {lv c : Nat} (h : joint lv c = true) : binc (10000 + c) = true ∧ c < 149 ∧ c ≠ 3 ∧ c ≠ 0 := by
  unfold joint at h
  have fin : (c = 141 ∨ c = 142 ∨ c = 60 ∨ c = 61 ∨ c = 62 ∨ c = 43 ∨ c = 45 ∨ c = 42) → binc (10000 + c) = true ∧ c < 149 ∧ c ≠ 3 ∧ c ≠ 0 := by
    rintro (z | z | z | z | z | z | z | z) <;> subst z <;> decide
  split at h
  · exact fin (by have := of_decide_eq_true h; omega)
  · split at h
    · exact fin (by have := of_decide_eq_true h; omega)
    · split at h
      · simp only [Bool.or_eq_true, decide_eq_true_eq] at h; exact fin (by omega)
      · split at h
        · simp only [Bool.or_eq_true, decide_eq_true_eq] at h; exact fin (by omega)
        · exact fin (by have := of_decide_eq_true h; omega)
theorem rt_op {c k : Nat} {l : List Nat} (h : opc c = true) (hn : c ≠ 10143) (hk : k < 42) : rt (c :: l) k = rt l (k + 1) := by rw [rt, if_neg hn, if_pos h, if_pos hk]
theorem rt_not {k : Nat} {l : List Nat} (hk : 1 ≤ k) : rt (10143 :: l) k = rt l k := by rw [rt, if_pos rfl, if_pos hk]
theorem rt_bin {c k : Nat} {l : List Nat} (h : binc c = true) (hk : 2 ≤ k) : rt (c :: l) k = rt l (k - 1) := by
  have hb := binc_cases h
  have ho : ¬ opc c = true := fun z => by have := opc_cases z; omega
  rw [rt, if_neg (by omega), if_neg ho, if_pos h, if_pos hk]
theorem OKe.un {dp c : Nat} (hd : dp ≤ 7) (h : opc c = true) (hn : c ≠ 10143) : OKe dp 1 [c] := by
  refine ⟨by simp; omega, fun k l hk => ?_, fun x hx => ?_⟩
  · show rt (c :: l) k = _
    exact rt_op h hn (by omega)
  · rw [List.mem_singleton] at hx
    rw [hx]
    have := opc_cases h
    omega
theorem OKe.pa {dp u : Nat} {e : List Nat} (h : OKe (dp + 1) u e) : OKe dp (u + 1) e := ⟨by have := h.1; omega, fun k l hk => h.2.1 k l (by omega), h.2.2⟩
theorem OKe.no {dp u : Nat} {e : List Nat} (h : OKe (dp + 1) u e) : OKe dp u (e ++ [10143]) := by
  refine ⟨by have := h.1; rw [List.length_append]; simp; omega, fun k l hk => ?_, fun c hc => ?_⟩
  · rw [List.append_assoc, h.2.1 k _ hk]
    exact rt_not (by omega)
  · rcases List.mem_append.mp hc with z | z
    · exact h.2.2 c z
    · rw [List.mem_singleton] at z; omega
theorem OKe.bi {dp u v c : Nat} {e f : List Nat} (h1 : OKe dp u e) (h2 : OKe dp v f) (hu : 1 ≤ u) (hv : 1 ≤ v) (hc : binc c = true) : OKe dp (u + v) (e ++ f ++ [c]) := by
  refine ⟨by have := h1.1; have := h2.1; rw [List.length_append, List.length_append]; simp; omega, fun k l hk => ?_, fun x hx => ?_⟩
  · rw [List.append_assoc, List.append_assoc, h1.2.1 k _ (by omega), h2.2.1 (k + 1) _ (by omega)]
    exact rt_bin hc (by omega)
  · rcases List.mem_append.mp hx with z | z
    · rcases List.mem_append.mp z with z | z
      · exact h1.2.2 x z
      · exact h2.2.2 x z
    · rw [List.mem_singleton] at z
      have := binc_cases hc
      omega
theorem loopP_ok {B : Nat → Nat} {n dp lv : Nat} {ex : EXs → Sum (Nat × Nat) EXs} {s0 : EXs} (hex : ∀ s s2, s.2.1 ≤ 40 → ex s = .inr s2 → OKx dp s s2) : ∀ c s s2, OKx dp s0 s → loopP B n ex lv c s = .inr s2 → OKx dp s0 s2
  | 0, s, s2, h, e => by cases e; exact h
  | c + 1, s, s2, h, e => by
    rw [loopP] at e
    split at e
    · rename_i hj
      obtain ⟨p1, e1, e2⟩ := thn_inv e
      obtain ⟨s3, e3, e4⟩ := thn_inv e2
      have h3 := hex (p1, s.2.1, s.2.2) s3 h.2.2.1 e3
      have hc := joint_c hj
      have h4 : OKx dp s0 (s3.1, s3.2.1, s3.2.2 ++ [10000 + tc B n s.1]) := by
        obtain ⟨a1, a2, a3, ee, a4, a5⟩ := h
        obtain ⟨b1, b2, b3, ff, b4, b5⟩ := h3
        have g1 := adv_ge e1
        have b1' : p1 ≤ s3.1 := b1
        have b2' : s.2.1 < s3.2.1 := b2
        have b4' : s3.2.2 = s.2.2 ++ ff := b4
        have b5' : OKe dp (s3.2.1 - s.2.1) ff := b5
        refine ⟨by show s0.1 ≤ s3.1; omega, by show s0.2.1 < s3.2.1; omega, b3, ee ++ ff ++ [10000 + tc B n s.1], ?_, ?_⟩
        · show s3.2.2 ++ [10000 + tc B n s.1] = _
          rw [b4', a4, List.append_assoc, List.append_assoc, List.append_assoc]
        · show OKe dp (s3.2.1 - s0.2.1) _
          rw [show s3.2.1 - s0.2.1 = (s.2.1 - s0.2.1) + (s3.2.1 - s.2.1) by omega]
          exact a5.bi b5' (by omega) (by omega) hc.1
      split at e4
      · cases e4; exact h4
      · exact loopP_ok hex c _ s2 h4 e4
    · cases e; exact h
theorem exP_ok {B : Nat → Nat} {n : Nat} : ∀ f lv dp s s2, dp ≤ 7 → s.2.1 ≤ 40 → exP B n f lv dp s = .inr s2 → OKx dp s s2
  | 0, _, _, _, _, _, _, e => by cases e
  | f + 1, lv, dp, s, s2, hd, hu, e => by
    rw [exP] at e
    split at e
    · split at e
      · split at e
        · rename_i c1 c2 c3
          obtain ⟨p1, e1, e2⟩ := thn_inv e
          obtain ⟨s3, e3, e4⟩ := thn_inv e2
          cases e4
          obtain ⟨b1, b2, b3, ff, b4, b5⟩ := exP_ok f 2 (dp + 1) (p1, s.2.1, s.2.2) s3 (by omega) hu e3
          have g1 := adv_ge e1
          have b1' : p1 ≤ s3.1 := b1
          refine ⟨by show s.1 ≤ s3.1; omega, b2, b3, ff ++ [10143], ?_, OKe.no b5⟩
          have b4' : s3.2.2 = s.2.2 ++ ff := b4
          show s3.2.2 ++ [10143] = _
          rw [b4', List.append_assoc]
        · cases e
      · obtain ⟨s1, e1, e2⟩ := thn_inv e
        exact loopP_ok (fun a b ha hab => exP_ok f (lv + 1) dp a b hd ha hab) 41 s1 s2 (exP_ok f (lv + 1) dp s s1 hd hu e1) e2
    · by_cases c : unOK B n dp s
      · rw [unitP_y c] at e
        split at e
        · rename_i c1 c2
          have hd6 : dp ≤ 6 := by obtain ⟨_, z | z | z⟩ := c <;> omega
          obtain ⟨p1, e1, e2⟩ := thn_inv e
          obtain ⟨s3, e3, e4⟩ := thn_inv e2
          obtain ⟨b1, b2, b3, ff, b4, b5⟩ := exP_ok f 0 (dp + 1) (p1, s.2.1 + 1, s.2.2) s3 (by omega) (by show s.2.1 + 1 ≤ 40; have := c.1; omega) e3
          have b1' : p1 ≤ s3.1 := b1
          have b2' : s.2.1 + 1 < s3.2.1 := b2
          have b4' : s3.2.2 = s.2.2 ++ ff := b4
          have b5' : OKe (dp + 1) (s3.2.1 - (s.2.1 + 1)) ff := b5
          unfold clP at e4
          split at e4
          · obtain ⟨p3, e5, e6⟩ := thn_inv e4
            cases e6
            have g1 := adv_ge e1
            have g2 := adv_ge e5
            refine ⟨by show s.1 ≤ p3; omega, by show s.2.1 < s3.2.1; omega, b3, ff, b4', ?_⟩
            show OKe dp (s3.2.1 - s.2.1) ff
            rw [show s3.2.1 - s.2.1 = s3.2.1 - (s.2.1 + 1) + 1 by omega]
            exact b5'.pa
          · cases e4
        · rename_i c1 c2
          obtain ⟨p1, e1, e2⟩ := thn_inv e
          cases e2
          have g1 := adv_ge e1
          have hc := c.1
          refine ⟨g1, by show s.2.1 < s.2.1 + 1; omega, by show s.2.1 + 1 ≤ 40; omega, [unC B n s.1], rfl, ?_⟩
          show OKe dp (s.2.1 + 1 - s.2.1) _
          rw [show s.2.1 + 1 - s.2.1 = 1 by omega]
          have ho : opc (unC B n s.1) = true ∧ unC B n s.1 ≠ 10143 := by
            unfold unC
            rcases c.2 with z | z | z
            · rw [if_pos z]
              have := tv_lt z
              unfold opc
              rw [decide_eq_true this]
              exact ⟨rfl, by omega⟩
            · exact absurd z.1 c2
            · rw [if_neg (by omega)]
              unfold opc
              rw [decide_eq_false (by omega), decide_eq_true (by omega), decide_eq_true (by omega)]
              exact ⟨rfl, by omega⟩
          exact OKe.un hd ho.1 ho.2
      · rw [unitP_n c] at e; cases e
/-! the developers' reader -/
def RLc (q u : Nat) (code : List Nat) (h : HI) : Prop := h.1 (q + 18) 2 = nI code.length ∧ (∀ i, i < code.length → h.1 (q + 19) i = nI (code.getD i 0)) ∧ h.1 (q + 18) 3 = nI u
def LEN (q : Nat) (h : HI) : Prop := ∃ l, l ≤ 400 ∧ h.1 (q + 18) 2 = nI l
def CE (q : Nat) (B : Nat → Nat) (n : Nat) (s : EXs) (h : HI) : Prop := CTk B n s.1 h ∧ RLc q s.2.1 s.2.2 h
def CEq (q : Nat) (B : Nat → Nat) (n : Nat) (r : Sum (Nat × Nat) EXs) (h : HI) : Prop := match r with
  | .inr s => CE q B n s h
  | .inl e => CF e.1 e.2 h ∧ LEN q h
def Wex (q a b : Nat) : Prop := WN a b ∨ a = q + 18 ∧ (b = 2 ∨ b = 3) ∨ a = q + 19
theorem Fr.ex {q : Nat} {h g : HI} (F : Fr WN h g) : Fr (Wex q) h g := F.mono fun _ _ z => Or.inl z
theorem getD_app {l : List Nat} {v i : Nat} : (l ++ [v]).getD i 0 = if i = l.length then v else l.getD i 0 := by
  rcases Nat.lt_trichotomy i l.length with c | c | c
  · rw [if_neg (by omega), List.getD_eq_getElem?_getD, List.getElem?_append_left c, List.getD_eq_getElem?_getD]
  · rw [if_pos c, List.getD_eq_getElem?_getD, c, List.getElem?_append_right (Nat.le_refl _), Nat.sub_self]; rfl
  · rw [if_neg (by omega), List.getD_eq_getElem?_getD, List.getElem?_eq_none (by rw [List.length_append]; simp; omega), List.getD_eq_getElem?_getD, List.getElem?_eq_none (by omega)]
theorem c_push {q u v : Nat} {code : List Nat} {h : HI} (R : RLc q u code h) (hl : code.length < 400) : ∃ g, fX5_addNumber (q + 18) h (nI v) = some g ∧ Fr (fun a b => a = q + 18 ∧ b = 2 ∨ a = q + 19) h g ∧ RLc q u (code ++ [v]) g := by
  obtain ⟨r1, r2, r3⟩ := R
  unfold fX5_addNumber
  rw [r1, if_neg (show ¬ (400 : Int32) ≤ nI code.length from nI_ge (b := 400) hl (by decide))]
  simp (disch := omega) only [gB, nI_clamp, nI_1]
  refine ⟨_, rfl, (Fr.uI (by omega)).tr (Fr.uI (by omega)), ?_, fun i hi => ?_, ?_⟩
  · rw [uI_s, List.length_append]; rfl
  · rw [List.length_append] at hi
    simp at hi
    rw [uI_n (by omega), getD_app, show q + 18 + 1 = q + 19 from rfl]
    by_cases c : i = code.length
    · rw [if_pos c, c, uI_s]
    · rw [if_neg c, uI_n (by omega)]; exact r2 i (by omega)
  · rw [uI_n (by omega), uI_n (by omega)]; exact r3
theorem c_tok {q u v : Nat} {code : List Nat} {h : HI} (R : RLc q u code h) (hl : code.length < 400) : ∃ g, fX5_addToken (q + 18) h (nI v) = some g ∧ Fr (fun a b => a = q + 18 ∧ b = 2 ∨ a = q + 19) h g ∧ RLc q u (code ++ [10000 + v]) g := by
  obtain ⟨g, a1, a2, a3⟩ := c_push (v := 10000 + v) R hl
  unfold fX5_addToken
  rw [show (10000 : Int32) = nI 10000 from rfl, nI_add, a1, Option.bind_some]
  exact ⟨g, rfl, a2, a3⟩
theorem c_lenN {q : Nat} {h : HI} (L : LEN q h) (v : Int32) : ∃ g, fX5_addNumber (q + 18) h v = some g ∧ Fr (fun a b => a = q + 18 ∧ b = 2 ∨ a = q + 19) h g ∧ LEN q g := by
  obtain ⟨l, h1, h2⟩ := L
  unfold fX5_addNumber
  rw [h2]
  by_cases c : l < 400
  · rw [if_neg (show ¬ (400 : Int32) ≤ nI l from nI_ge (b := 400) c (by decide))]
    simp (disch := omega) only [gB, nI_clamp, nI_1]
    exact ⟨_, rfl, (Fr.uI (by omega)).tr (Fr.uI (by omega)), l + 1, by omega, uI_s _ _ _ _⟩
  · rw [if_pos (show (400 : Int32) ≤ nI l from nI_le (a := 400) (by omega) (by omega))]
    exact ⟨h, rfl, Fr.rf, l, h1, h2⟩
theorem c_lenT {q : Nat} {h : HI} (L : LEN q h) (v : Int32) : ∃ g, fX5_addToken (q + 18) h v = some g ∧ Fr (fun a b => a = q + 18 ∧ b = 2 ∨ a = q + 19) h g ∧ LEN q g := by
  obtain ⟨g, a1, a2, a3⟩ := c_lenN L ((10000 : Int32) + v)
  unfold fX5_addToken
  rw [a1, Option.bind_some]
  exact ⟨g, rfl, a2, a3⟩
theorem CF.keep {k z : Nat} {h g : HI} {W : Nat → Nat → Prop} (C : CF k z h) (F : Fr W h g) (hd : ∀ b, ¬ W 53 b) : CF k z g := ⟨(F.1 _ _ (hd _)).trans C.1, (F.1 _ _ (hd _)).trans C.2.1, C.2.2⟩
theorem RLc.n {q u : Nat} {code : List Nat} {h g : HI} (R : RLc q u code h) (hq : q + 20 < 53) (F : Fr WN h g) : RLc q u code g := by
  obtain ⟨r1, r2, r3⟩ := R
  refine ⟨?_, fun i hi => ?_, ?_⟩
  · rw [F.1 _ _ (by unfold WN; omega)]; exact r1
  · rw [F.1 _ _ (by unfold WN; omega)]; exact r2 i hi
  · rw [F.1 _ _ (by unfold WN; omega)]; exact r3
theorem LEN.n {q : Nat} {h g : HI} (R : LEN q h) (hq : q + 20 < 53) (F : Fr WN h g) : LEN q g := by
  obtain ⟨l, h1, h2⟩ := R
  exact ⟨l, h1, by rw [F.1 _ _ (by unfold WN; omega)]; exact h2⟩
theorem RLc.len {q u : Nat} {code : List Nat} {h : HI} (R : RLc q u code h) (hl : code.length ≤ 400) : LEN q h := ⟨_, hl, R.1⟩
theorem TC.e {q : Nat} {B : Nat → Nat} {n : Nat} {h g : HI} (T : TC B n h) (hq : 2 < q) (F : Fr (Wex q) h g) : TC B n g := T.keep F (fun a b p z => by unfold Wex WN at z; omega)
theorem Wd.e {q : Nat} {h g : HI} (T : Wd h) (hq : q + 20 < 53) (F : Fr (Wex q) h g) : Wd g := T.keep F (fun a b p z => by unfold Wex WN at z; omega)
theorem c_joint {B : Nat → Nat} {n p lv : Nat} {h : HI} (C : CTk B n p h) (hlv : lv < 5) : fX4_isJoint 53 h (nI lv) = some (b01 (joint lv (tc B n p)), h) := by
  have ne : ∀ v : Nat, v < 1000 → (h.1 53 4 = nI v ↔ tc B n p = v) := fun v hv => tc_eq C hv
  have t : ∀ v : Nat, v < 1000 → ∀ (b : Option (Int32 × HI)), (if h.1 53 4 = nI v then some ((1 : Int32), h) else b) = if tc B n p = v then some (1, h) else b := fun v hv b => by
    by_cases c : tc B n p = v
    · rw [if_pos c, if_pos ((ne v hv).mpr c)]
    · rw [if_neg c, if_neg (fun z => c ((ne v hv).mp z))]
  unfold fX4_isJoint joint
  have t141 := t 141 (by decide)
  have t142 := t 142 (by decide)
  have t60 := t 60 (by decide)
  have t62 := t 62 (by decide)
  have t61 := t 61 (by decide)
  have t43 := t 43 (by decide)
  have t45 := t 45 (by decide)
  have t42 := t 42 (by decide)
  rcases (show lv = 0 ∨ lv = 1 ∨ lv = 2 ∨ lv = 3 ∨ lv = 4 by omega) with z | z | z | z | z <;> subst z
  · rw [if_pos (show nI 0 = (0 : Int32) from rfl), if_pos rfl]
    refine (t141 _).trans ?_
    by_cases c : tc B n p = 141
    · rw [if_pos c, decide_eq_true c]; rfl
    · rw [if_neg c, decide_eq_false c]; rfl
  · rw [if_neg (show ¬ nI 1 = (0 : Int32) by decide), if_pos (show nI 1 = (1 : Int32) from rfl), if_neg (show ¬ (1 : Nat) = 0 by decide), if_pos (show (1 : Nat) = 1 from rfl)]
    refine (t142 _).trans ?_
    by_cases c : tc B n p = 142
    · rw [if_pos c, decide_eq_true c]; rfl
    · rw [if_neg c, decide_eq_false c]; rfl
  · rw [if_neg (show ¬ nI 2 = (0 : Int32) by decide), if_neg (show ¬ nI 2 = (1 : Int32) by decide), if_pos (show nI 2 = (2 : Int32) from rfl), if_neg (show ¬ (2 : Nat) = 0 by decide), if_neg (show ¬ (2 : Nat) = 1 by decide), if_pos (show (2 : Nat) = 2 from rfl)]
    refine (t60 _).trans ?_
    by_cases c : tc B n p = 60
    · rw [if_pos c, decide_eq_true c]; rfl
    · rw [if_neg c, decide_eq_false c, Bool.false_or]
      refine (t62 _).trans ?_
      by_cases c : tc B n p = 62
      · rw [if_pos c, decide_eq_true c]; rfl
      · rw [if_neg c, decide_eq_false c, Bool.false_or]
        refine (t61 _).trans ?_
        by_cases c : tc B n p = 61
        · rw [if_pos c, decide_eq_true c]; rfl
        · rw [if_neg c, decide_eq_false c]; rfl
  · rw [if_neg (show ¬ nI 3 = (0 : Int32) by decide), if_neg (show ¬ nI 3 = (1 : Int32) by decide), if_neg (show ¬ nI 3 = (2 : Int32) by decide), if_pos (show nI 3 = (3 : Int32) from rfl), if_neg (show ¬ (3 : Nat) = 0 by decide), if_neg (show ¬ (3 : Nat) = 1 by decide), if_neg (show ¬ (3 : Nat) = 2 by decide), if_pos (show (3 : Nat) = 3 from rfl)]
    refine (t43 _).trans ?_
    by_cases c : tc B n p = 43
    · rw [if_pos c, decide_eq_true c]; rfl
    · rw [if_neg c, decide_eq_false c, Bool.false_or]
      refine (t45 _).trans ?_
      by_cases c : tc B n p = 45
      · rw [if_pos c, decide_eq_true c]; rfl
      · rw [if_neg c, decide_eq_false c]; rfl
  · rw [if_neg (show ¬ nI 4 = (0 : Int32) by decide), if_neg (show ¬ nI 4 = (1 : Int32) by decide), if_neg (show ¬ nI 4 = (2 : Int32) by decide), if_neg (show ¬ nI 4 = (3 : Int32) by decide), if_neg (show ¬ (4 : Nat) = 0 by decide), if_neg (show ¬ (4 : Nat) = 1 by decide), if_neg (show ¬ (4 : Nat) = 2 by decide), if_neg (show ¬ (4 : Nat) = 3 by decide)]
    refine (t42 _).trans ?_
    by_cases c : tc B n p = 42
    · rw [if_pos c, decide_eq_true c]; rfl
    · rw [if_neg c, decide_eq_false c]; rfl
theorem cf_joint {h : HI} (v : Int32) : ∃ w, fX4_isJoint 53 h v = some (w, h) := by
  unfold fX4_isJoint
  repeat' split
  all_goals exact ⟨_, rfl⟩
