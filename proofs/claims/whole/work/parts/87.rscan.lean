/-! the reference takes a token -/
def TR (B : Nat → Nat) (n : Nat) (h : HI) : Prop := h.1 101 5 = nI n ∧ ∀ k, k < n → h.1 102 k = nI (B k)
def WT (a b : Nat) : Prop := a = 101 ∧ (b = 2 ∨ b = 3 ∨ b = 4 ∨ 6 ≤ b ∧ b ≤ 9)
theorem TR.keep {B : Nat → Nat} {n : Nat} {h g : HI} {W : Nat → Nat → Prop} (T : TR B n h) (F : Fr W h g) (hd : ∀ a b, a = 101 ∧ b = 5 ∨ a = 102 → ¬ W a b) : TR B n g := ⟨(F.1 _ _ (hd _ _ (by omega))).trans T.1, fun k hk => by rw [F.1 _ _ (hd _ _ (by omega))]; exact T.2 k hk⟩
theorem TR.t {B : Nat → Nat} {n : Nat} {h g : HI} (T : TR B n h) (F : Fr WT h g) : TR B n g := T.keep F (fun a b p q => by unfold WT at q; omega)
def hr (B : Nat → Nat) (n q : Nat) : Int32 := if q < n then nI (B q) else -1
theorem r_hr {B : Nat → Nat} {n q k : Nat} {h : HI} (X : TX B n) (T : TR B n h) (e : h.1 101 4 = nI q) (hq : q + k < 2 ^ 31) : fX9_here 101 h (nI k) = some (hr B n (q + k), h) := by
  have hn := X.1
  unfold fX9_here hr
  rw [e, nI_add, T.1]
  by_cases c : q + k < n
  · rw [if_neg (nI_ge c (by omega)), if_pos c]
    simp (disch := omega) only [gB, nI_clamp, Nat.reduceAdd]
    rw [T.2 _ c]
  · rw [if_pos (nI_le (by omega) hq), if_neg c]
theorem r_isl {B : Nat → Nat} {n q : Nat} {h : HI} (X : TX B n) : fX9_isLetter h (hr B n q) = some (b01 (inT isl B n q), h) := by
  unfold fX9_isLetter hr inT
  by_cases c : q < n
  · rw [if_pos c, decide_eq_true c, Bool.true_and]
    have hb := (isl_b (X.2 q)).1
    cases z : isl (B q) with
    | true =>
      have := hb.mp z
      rw [if_neg this.1, if_neg this.2]; rfl
    | false =>
      by_cases z1 : nI (B q) < (97 : Int32)
      · rw [if_pos z1]; rfl
      · rw [if_neg z1]
        by_cases z2 : (122 : Int32) < nI (B q)
        · rw [if_pos z2]; rfl
        · have := hb.mpr ⟨z1, z2⟩
          rw [z] at this; cases this
  · rw [if_neg c, decide_eq_false c, if_pos (by decide)]; rfl
theorem r_isd {B : Nat → Nat} {n q : Nat} {h : HI} (X : TX B n) : fX9_isDigit h (hr B n q) = some (b01 (inT isd B n q), h) := by
  unfold fX9_isDigit hr inT
  by_cases c : q < n
  · rw [if_pos c, decide_eq_true c, Bool.true_and]
    have hb := (isl_b (X.2 q)).2
    cases z : isd (B q) with
    | true =>
      have := hb.mp z
      rw [if_neg this.1, if_neg this.2]; rfl
    | false =>
      by_cases z1 : nI (B q) < (48 : Int32)
      · rw [if_pos z1]; rfl
      · rw [if_neg z1]
        by_cases z2 : (57 : Int32) < nI (B q)
        · rw [if_pos z2]; rfl
        · have := hb.mpr ⟨z1, z2⟩
          rw [z] at this; cases this
  · rw [if_neg c, decide_eq_false c, if_pos (by decide)]; rfl
theorem r_isg {h : HI} {c : Nat} (hc : c < 256) : fX9_isSign h (nI c) = some (b01 (isg c), h) := by
  have ne : ∀ v : Nat, v < 256 → (nI c = nI v ↔ c = v) := fun v hv => nI_eq (by omega) (by omega)
  unfold fX9_isSign isg
  rw [show (59 : Int32) = nI 59 from rfl, show (40 : Int32) = nI 40 from rfl, show (41 : Int32) = nI 41 from rfl, show (60 : Int32) = nI 60 from rfl, show (62 : Int32) = nI 62 from rfl, show (61 : Int32) = nI 61 from rfl, show (43 : Int32) = nI 43 from rfl, show (45 : Int32) = nI 45 from rfl, show (42 : Int32) = nI 42 from rfl]
  by_cases c1 : c = 59
  · rw [if_pos (congrArg nI c1), decide_eq_true c1]; rfl
  · rw [if_neg (fun z => c1 ((ne 59 (by decide)).mp z)), decide_eq_false c1, Bool.false_or]
    by_cases c2 : c = 40
    · rw [if_pos (congrArg nI c2), decide_eq_true c2]; rfl
    · rw [if_neg (fun z => c2 ((ne 40 (by decide)).mp z)), decide_eq_false c2, Bool.false_or]
      by_cases c3 : c = 41
      · rw [if_pos (congrArg nI c3), decide_eq_true c3]; rfl
      · rw [if_neg (fun z => c3 ((ne 41 (by decide)).mp z)), decide_eq_false c3, Bool.false_or]
        by_cases c4 : c = 60
        · rw [if_pos (congrArg nI c4), decide_eq_true c4]; rfl
        · rw [if_neg (fun z => c4 ((ne 60 (by decide)).mp z)), decide_eq_false c4, Bool.false_or]
          by_cases c5 : c = 62
          · rw [if_pos (congrArg nI c5), decide_eq_true c5]; rfl
          · rw [if_neg (fun z => c5 ((ne 62 (by decide)).mp z)), decide_eq_false c5, Bool.false_or]
            by_cases c6 : c = 61
            · rw [if_pos (congrArg nI c6), decide_eq_true c6]; rfl
            · rw [if_neg (fun z => c6 ((ne 61 (by decide)).mp z)), decide_eq_false c6, Bool.false_or]
              by_cases c7 : c = 43
              · rw [if_pos (congrArg nI c7), decide_eq_true c7]; rfl
              · rw [if_neg (fun z => c7 ((ne 43 (by decide)).mp z)), decide_eq_false c7, Bool.false_or]
                by_cases c8 : c = 45
                · rw [if_pos (congrArg nI c8), decide_eq_true c8]; rfl
                · rw [if_neg (fun z => c8 ((ne 45 (by decide)).mp z)), decide_eq_false c8, Bool.false_or]
                  by_cases c9 : c = 42
                  · rw [if_pos (congrArg nI c9), decide_eq_true c9]; rfl
                  · rw [if_neg (fun z => c9 ((ne 42 (by decide)).mp z)), decide_eq_false c9]; rfl
def srt (c : Nat) : Nat := if 128 ≤ c then 1 else c
def RTk (B : Nat → Nat) (n p : Nat) (h : HI) : Prop := p ≤ n ∧ (tc B n p ≠ 3 → h.1 101 4 = nI (tn B n p)) ∧ h.1 101 6 = nI (srt (tc B n p)) ∧ h.1 101 7 = nI (tp B n p) ∧ (tc B n p = 2 → h.1 101 8 = nI (tv B n p)) ∧ (tc B n p = 1 ∨ 128 ≤ tc B n p → h.2 101 9 = lN (c8 (tw B n p))) ∧ h.1 101 2 = 0 ∧ h.1 101 3 = -1
theorem r_skip {B : Nat → Nat} {n p : Nat} {h : HI} (X : TX B n) (T : TR B n h) (hp : p ≤ n) (e : h.1 101 4 = nI p) : ∃ g, (∀ k, fX9_token_0 101 k FU h = k g) ∧ Fr (fun a b => a = 101 ∧ b = 4) h g ∧ g.1 101 4 = nI (tp B n p) := by
  have hn := X.1
  have h1 : p ≤ tp B n p := run_ge _ _ _ _
  have h2 := tp_le (B := B) hp
  obtain ⟨F, g, ⟨i1, i2⟩, hL⟩ := lpi (fun m (g : HI) => fun k => fX9_token_0 101 k m g) (fun j g => Fr (fun a b => a = 101 ∧ b = 4) h g ∧ g.1 101 4 = nI (p + j)) (tp B n p - p) (by omega) (by
    rintro j g hj ⟨i1, i2⟩
    have T2 := T.keep i1 (fun a b q r => by omega)
    obtain ⟨r1, r2⟩ := run_in (f := iss) (B := B) (n := n) (p := p) (k := p + j) (by omega) (by unfold tp at hj; omega)
    unfold iss at r2
    rw [Bool.or_eq_true, decide_eq_true_eq, decide_eq_true_eq] at r2
    refine ⟨uI g 101 4 (nI (p + j + 1)), ⟨i1.tr (Fr.uI (by omega)), uI_s _ _ _ _⟩, fun m => funext fun k => ?_⟩
    have eh : fX9_here 101 g 0 = some (nI (B (p + j)), g) := by
      have := r_hr (k := 0) X T2 i2 (by omega)
      unfold hr at this
      rw [Nat.add_zero, if_pos r1] at this
      exact this
    rw [fX9_token_0, eh, Option.bind_some, eh, Option.bind_some]
    unfold fX9_token_20
    rw [i2, nI_1]
    rcases r2 with r2 | r2
    · rw [if_pos (show nI (B (p + j)) = (32 : Int32) by rw [r2]; rfl)]
    · rw [if_neg (show ¬ nI (B (p + j)) = (32 : Int32) by rw [r2]; decide), if_pos (show nI (B (p + j)) = (10 : Int32) by rw [r2]; rfl)]) (s0 := h) ⟨Fr.rf, e⟩
  rw [show p + (tp B n p - p) = tp B n p by omega] at i2
  refine ⟨g, fun k => ?_, i1, i2⟩
  have T2 := T.keep i1 (fun a b q r => by omega)
  have eh : fX9_here 101 g 0 = some (hr B n (tp B n p), g) := r_hr (q := tp B n p) (k := 0) X T2 i2 (by omega)
  rw [congrFun hL k, fX9_token_0, eh, Option.bind_some, eh, Option.bind_some]
  have hne : ¬ hr B n (tp B n p) = 32 ∧ ¬ hr B n (tp B n p) = 10 := by
    unfold hr
    by_cases c : tp B n p < n
    · have r2 := run_end (f := iss) (B := B) (n := n) (p := p) c
      have r3 : B (tp B n p) ≠ 32 ∧ B (tp B n p) ≠ 10 := by
        unfold iss at r2
        rw [Bool.or_eq_false_iff, decide_eq_false_iff_not, decide_eq_false_iff_not] at r2
        exact r2
      have hb := X.2 (tp B n p)
      rw [if_pos c]
      exact ⟨fun z => r3.1 ((nI_eq (b := 32) (by omega) (by decide)).mp z), fun z => r3.2 ((nI_eq (b := 10) (by omega) (by decide)).mp z)⟩
    · rw [if_neg c]; decide
  rw [if_neg hne.1, if_neg hne.2]
theorem inT_in {f : Nat → Bool} {B : Nat → Nat} {n p k : Nat} (h1 : p ≤ k) (h2 : k < run f B n p) : inT f B n k = true := by
  obtain ⟨a, b⟩ := run_in h1 h2
  unfold inT
  rw [decide_eq_true a, b]; rfl
theorem inT_end (f : Nat → Bool) (B : Nat → Nat) (n p : Nat) : inT f B n (run f B n p) = false := rn_end (n := n) (fun _ hk => inT_out hk) _ _ (by omega)
theorem r_word {B : Nat → Nat} {n a : Nat} {h : HI} (X : TX B n) (T : TR B n h) (ha : a < n) (e : h.1 101 4 = nI a) (e9 : h.2 101 9 = 0) : ∃ g, (∀ k, fX9_token_78 101 k FU h 0 = k g (nI (wle B n a - a))) ∧ Fr (fun x y => x = 101 ∧ y = 9) h g ∧ g.1 = h.1 ∧ (wle B n a - a ≤ 8 → g.2 101 9 = lN (c8 (wl B a (wle B n a - a)))) := by
  have hn := X.1
  have h1 : a ≤ wle B n a := run_ge _ _ _ _
  have h2 : wle B n a ≤ n := run_le (by omega)
  obtain ⟨F, ⟨g, v⟩, ⟨i1, i2, i3, i4⟩, hL⟩ := lpi (fun m (p : HI × Int32) => fun k => fX9_token_78 101 k m p.1 p.2) (fun j p => Fr (fun x y => x = 101 ∧ y = 9) h p.1 ∧ p.1.1 = h.1 ∧ (j ≤ 8 → p.1.2 101 9 = lN (c8 (wl B a j))) ∧ p.2 = nI j) (wle B n a - a) (by omega) (by
    rintro j ⟨g, v⟩ hj ⟨i1, i2, i3, i4⟩
    simp only at i1 i2 i3 i4
    subst i4
    have T2 := T.keep i1 (fun a b q r => by omega)
    have e2 : g.1 101 4 = nI a := by rw [i2]; exact e
    obtain ⟨r1, r2⟩ := run_in (f := isl) (B := B) (n := n) (p := a) (k := a + j) (by omega) (by unfold wle at hj; omega)
    have r4 := isl_i.mp r2
    have ei : inT isl B n (a + j) = true := inT_in (p := a) (by omega) (by unfold wle at hj; omega)
    have eh : hr B n (a + j) = nI (B (a + j)) := by unfold hr; rw [if_pos r1]
    have st : ∀ m k, fX9_token_78 101 k (m + 1) g (nI j) = if (8 : Int32) ≤ nI j then fX9_token_78 101 k m g (nI (j + 1)) else fX9_token_78 101 k m (uL g 101 9 (((g.2 101 9) <<< ((8 : Int32).toInt64 &&& 63)) ||| (nI (B (a + j))).toInt64)) (nI (j + 1)) := by
      intro m k
      rw [fX9_token_78, r_hr X T2 e2 (by omega), Option.bind_some, r_isl X, Option.bind_some, ei, if_neg b01t, r_hr X T2 e2 (by omega), Option.bind_some, eh]
      unfold fX9_token_113
      rw [nI_1]
    by_cases c : 8 ≤ j
    · exact ⟨(g, nI (j + 1)), ⟨i1, i2, fun z => by omega, rfl⟩, fun m => funext fun k => by rw [st, if_pos (show (8 : Int32) ≤ nI j from nI_le (a := 8) c (by omega))]⟩
    · refine ⟨(uL g 101 9 (lN (c8 (wl B a (j + 1)))), nI (j + 1)), ⟨i1.tr (Fr.uL (by omega)), i2, fun _ => uL_s _ _ _ _, rfl⟩, fun m => funext fun k => ?_⟩
      rw [st, if_neg (show ¬ (8 : Int32) ≤ nI j from nI_ge (b := 8) (by omega) (by decide)), i3 (by omega), nI_l (by omega), show (8 : Int32) = nI 8 from rfl, lN_shl _ (by decide) (show B (a + j) < 2 ^ 8 by omega)]
      rfl) (s0 := (h, 0)) ⟨Fr.rf, rfl, fun _ => e9, rfl⟩
  simp only at i1 i2 i3 i4 hL
  subst i4
  have T2 := T.keep i1 (fun a b q r => by omega)
  have e2 : g.1 101 4 = nI a := by rw [i2]; exact e
  refine ⟨g, fun k => ?_, i1, i2, i3⟩
  have ei : inT isl B n (a + (wle B n a - a)) = false := by rw [show a + (wle B n a - a) = wle B n a by omega]; exact inT_end _ _ _ _
  rw [congrFun hL k, fX9_token_78, r_hr X T2 e2 (by omega), Option.bind_some, r_isl X, Option.bind_some, ei, if_pos b01f]
theorem r_number {B : Nat → Nat} {n a : Nat} {h : HI} (X : TX B n) (T : TR B n h) (ha : a < n) (e : h.1 101 4 = nI a) (e8 : h.1 101 8 = 0) : ∃ g, (∀ k, fX9_token_144 101 k FU h 0 = k g (nI (nue B n a - a))) ∧ Fr (fun x y => x = 101 ∧ y = 8) h g ∧ (nue B n a - a ≤ 4 → g.1 101 8 = nI (num B a (nue B n a - a))) := by
  have hn := X.1
  have h1 : a ≤ nue B n a := run_ge _ _ _ _
  have h2 : nue B n a ≤ n := run_le (by omega)
  obtain ⟨F, ⟨g, v⟩, ⟨i1, i3, i4⟩, hL⟩ := lpi (fun m (p : HI × Int32) => fun k => fX9_token_144 101 k m p.1 p.2) (fun j p => Fr (fun x y => x = 101 ∧ y = 8) h p.1 ∧ (j ≤ 4 → p.1.1 101 8 = nI (num B a j)) ∧ p.2 = nI j) (nue B n a - a) (by omega) (by
    rintro j ⟨g, v⟩ hj ⟨i1, i3, i4⟩
    simp only at i1 i3 i4
    subst i4
    have T2 := T.keep i1 (fun a b q r => by omega)
    have e2 : g.1 101 4 = nI a := by rw [i1.1 _ _ (by omega)]; exact e
    obtain ⟨r1, r2⟩ := run_in (f := isd) (B := B) (n := n) (p := a) (k := a + j) (by omega) (by unfold nue at hj; omega)
    have r4 := isd_i.mp r2
    have ei : inT isd B n (a + j) = true := inT_in (p := a) (by omega) (by unfold nue at hj; omega)
    have eh : hr B n (a + j) = nI (B (a + j)) := by unfold hr; rw [if_pos r1]
    have st : ∀ m k, fX9_token_144 101 k (m + 1) g (nI j) = if (4 : Int32) ≤ nI j then fX9_token_144 101 k m g (nI (j + 1)) else fX9_token_144 101 k m (uI g 101 8 ((((10 : Int32) * (g.1 101 8)) + nI (B (a + j))) - (48 : Int32))) (nI (j + 1)) := by
      intro m k
      rw [fX9_token_144, r_hr X T2 e2 (by omega), Option.bind_some, r_isd X, Option.bind_some, ei, if_neg b01t, r_hr X T2 e2 (by omega), Option.bind_some, eh]
      unfold fX9_token_180
      rw [nI_1]
    by_cases c : 4 ≤ j
    · exact ⟨(g, nI (j + 1)), ⟨i1, fun z => by omega, rfl⟩, fun m => funext fun k => by rw [st, if_pos (show (4 : Int32) ≤ nI j from nI_le (a := 4) c (by omega))]⟩
    · refine ⟨(uI g 101 8 (nI (num B a (j + 1))), nI (j + 1)), ⟨i1.tr (Fr.uI (by omega)), fun _ => uI_s _ _ _ _, rfl⟩, fun m => funext fun k => ?_⟩
      have el : (10 : Int32) * nI (num B a j) + nI (B (a + j)) - (48 : Int32) = nI (num B a (j + 1)) := by
        rw [show (10 : Int32) = nI 10 from rfl, nI_mu, nI_add, show (48 : Int32) = nI 48 from rfl, nI_sb (by omega), num, show 10 * num B a j + B (a + j) - 48 = num B a j * 10 + (B (a + j) - 48) by omega]
      rw [st, if_neg (show ¬ (4 : Int32) ≤ nI j from nI_ge (b := 4) (by omega) (by decide)), i3 (by omega), el]) (s0 := (h, 0)) ⟨Fr.rf, fun _ => e8, rfl⟩
  simp only at i1 i3 i4 hL
  subst i4
  have T2 := T.keep i1 (fun a b q r => by omega)
  have e2 : g.1 101 4 = nI a := by rw [i1.1 _ _ (by omega)]; exact e
  refine ⟨g, fun k => ?_, i1, i3⟩
  have ei : inT isd B n (a + (nue B n a - a)) = false := by rw [show a + (nue B n a - a) = nue B n a by omega]; exact inT_end _ _ _ _
  rw [congrFun hL k, fX9_token_144, r_hr X T2 e2 (by omega), Option.bind_some, r_isd X, Option.bind_some, ei, if_pos b01f]
theorem srt_ne3 {c : Nat} (h : c ≠ 3) : srt c ≠ 3 := by unfold srt; split <;> omega
theorem srt_lt {c : Nat} : srt c < 128 := by unfold srt; split <;> omega
theorem r_tok0 {B : Nat → Nat} {n p : Nat} {h : HI} (X : TX B n) (T : TR B n h) (hp : p ≤ n) (e : h.1 101 4 = nI p) (e2 : h.1 101 2 = 0) (e3 : h.1 101 3 = -1) : ∃ g, fX9_token 101 h = some g ∧ Fr WT h g ∧ RTk B n p g := by
  have hn := X.1
  obtain ⟨g, e1, f1, p1⟩ := r_skip X T hp e
  have h2 := tp_le (B := B) hp
  unfold fX9_token
  rw [e1, p1]
  have F2 : Fr WT h (uI g 101 7 (nI (tp B n p))) := (f1.mono fun a b q => by unfold WT; omega).tr (Fr.uI (by unfold WT; omega))
  have q4 : (uI g 101 7 (nI (tp B n p))).1 101 4 = nI (tp B n p) := by rw [uI_n (by omega)]; exact p1
  have q7 : (uI g 101 7 (nI (tp B n p))).1 101 7 = nI (tp B n p) := uI_s _ _ _ _
  have q2 : (uI g 101 7 (nI (tp B n p))).1 101 2 = 0 := by rw [uI_n (by omega), f1.1 _ _ (by omega)]; exact e2
  have q3 : (uI g 101 7 (nI (tp B n p))).1 101 3 = -1 := by rw [uI_n (by omega), f1.1 _ _ (by omega)]; exact e3
  generalize uI g 101 7 (nI (tp B n p)) = g2 at F2 q4 q7 q2 q3
  have T2 := T.t F2
  have eh : fX9_here 101 g2 0 = some (hr B n (tp B n p), g2) := r_hr (q := tp B n p) (k := 0) X T2 q4 (by omega)
  rw [eh, Option.bind_some]
  have F3 : Fr WT h (uI (uL g2 101 9 0) 101 8 0) := (F2.tr (Fr.uL (by unfold WT; omega))).tr (Fr.uI (by unfold WT; omega))
  have z : ∀ b, ¬ b = 8 → (uI (uL g2 101 9 0) 101 8 0).1 101 b = g2.1 101 b := fun b hb => by rw [uI_n (by omega)]; rfl
  have z8 : (uI (uL g2 101 9 0) 101 8 0).1 101 8 = 0 := uI_s _ _ _ _
  have z9 : (uI (uL g2 101 9 0) 101 8 0).2 101 9 = 0 := by
    show (uL g2 101 9 0).2 101 9 = 0
    rw [uL_s]
  generalize uI (uL g2 101 9 0) 101 8 0 = g3 at F3 z z8 z9
  have T3 := T.t F3
  have w4 : g3.1 101 4 = nI (tp B n p) := (z 4 (by omega)).trans q4
  have w7 : g3.1 101 7 = nI (tp B n p) := (z 7 (by omega)).trans q7
  have w2 : g3.1 101 2 = 0 := (z 2 (by omega)).trans q2
  have w3 : g3.1 101 3 = -1 := (z 3 (by omega)).trans q3
  have hb := X.2 (tp B n p)
  by_cases c : n ≤ tp B n p
  · have ec : tc B n p = 0 := by unfold tc; rw [if_pos c]
    have et : tn B n p = tp B n p := by unfold tn; rw [if_pos c]
    have eh2 : hr B n (tp B n p) = -1 := by unfold hr; rw [if_neg (by omega)]
    rw [eh2, if_neg (show ¬ (0 : Int32) ≤ -1 by decide)]
    unfold fX9_token_232
    rw [uI_s, if_neg (show ¬ (0 : Int32) = 3 by decide)]
    refine ⟨_, rfl, (F3.tr (Fr.uI (by unfold WT; omega))).tr (Fr.uI (by unfold WT; omega)), hp, fun _ => ?_, ?_, ?_, fun y => by omega, fun y => by omega, ?_, ?_⟩
    · rw [uI_s, uI_n (by omega), w4, et]; exact Int32.add_zero _
    · rw [uI_n (by omega), uI_s, ec]; rfl
    · rw [uI_n (by omega), uI_n (by omega), w7]
    · rw [uI_n (by omega), uI_n (by omega), w2]
    · rw [uI_n (by omega), uI_n (by omega), w3]
  · have eh2 : hr B n (tp B n p) = nI (B (tp B n p)) := by unfold hr; rw [if_pos (by omega)]
    have ei : inT isl B n (tp B n p) = isl (B (tp B n p)) := by unfold inT; rw [decide_eq_true (by omega), Bool.true_and]
    have eD : inT isd B n (tp B n p) = isd (B (tp B n p)) := by unfold inT; rw [decide_eq_true (by omega), Bool.true_and]
    rw [if_pos (by rw [eh2]; exact nI_pos' (by omega)), r_isl X, Option.bind_some, ei]
    have bad : ∀ (g4 : HI) (v : Int32), Fr WT h g4 → g4.1 101 7 = nI (tp B n p) → g4.1 101 2 = 0 → g4.1 101 3 = -1 → tc B n p = 3 → ∃ g, fX9_token_232 101 (uI g4 101 6 3) v = some g ∧ Fr WT h g ∧ RTk B n p g := by
      intro g4 v F4 a7 a2 a3 ec
      unfold fX9_token_232
      rw [uI_s, if_pos rfl]
      refine ⟨_, rfl, F4.tr (Fr.uI (by unfold WT; omega)), hp, fun y => absurd ec y, ?_, ?_, fun y => by omega, fun y => by omega, ?_, ?_⟩
      · rw [uI_s, ec]; rfl
      · rw [uI_n (by omega), a7]
      · rw [uI_n (by omega), a2]
      · rw [uI_n (by omega), a3]
    have good : ∀ (g4 : HI) (v s : Nat), Fr WT h g4 → g4.1 101 4 = nI (tp B n p) → g4.1 101 7 = nI (tp B n p) → g4.1 101 2 = 0 → g4.1 101 3 = -1 → s ≠ 3 → s < 128 → s = srt (tc B n p) → tn B n p = tp B n p + v → (tc B n p = 2 → g4.1 101 8 = nI (tv B n p)) → (tc B n p = 1 ∨ 128 ≤ tc B n p → g4.2 101 9 = lN (c8 (tw B n p))) → ∃ g, fX9_token_232 101 (uI g4 101 6 (nI s)) (nI v) = some g ∧ Fr WT h g ∧ RTk B n p g := by
      intro g4 v s F4 a4 a7 a2 a3 hs hs2 es et a8 a9
      unfold fX9_token_232
      rw [uI_s, if_neg (show ¬ nI s = (3 : Int32) from fun y => hs ((nI_eq (b := 3) (by omega) (by decide)).mp y))]
      refine ⟨_, rfl, (F4.tr (Fr.uI (by unfold WT; omega))).tr (Fr.uI (by unfold WT; omega)), hp, fun y => ?_, ?_, ?_, fun y => ?_, fun y => ?_, ?_, ?_⟩
      · rw [uI_s, uI_n (by omega), a4, nI_add, et]
      · rw [uI_n (by omega), uI_s, es]
      · rw [uI_n (by omega), uI_n (by omega), a7]
      · rw [uI_n (by omega), uI_n (by omega), a8 y]
      · exact a9 y
      · rw [uI_n (by omega), uI_n (by omega), a2]
      · rw [uI_n (by omega), uI_n (by omega), a3]
    cases cl : isl (B (tp B n p)) with
    | true =>
      have et : tn B n p = wle B n (tp B n p) := by unfold tn; rw [if_neg c, if_pos cl]
      have h1 : tp B n p ≤ wle B n (tp B n p) := run_ge _ _ _ _
      have h3 : wle B n (tp B n p) ≤ n := run_le h2
      obtain ⟨g4, y1, y2, y3, y4⟩ := r_word X T3 (show tp B n p < n by omega) w4 z9
      have F4 : Fr WT h g4 := F3.tr (y2.mono fun a b q => by unfold WT; omega)
      rw [if_neg b01t, y1]
      unfold fX9_token_131
      by_cases c8 : wle B n (tp B n p) - tp B n p ≤ 8
      · have ec : tc B n p = kwc (tw B n p) := by unfold tc; rw [if_neg c, if_pos cl, if_pos c8]; rfl
        have etv : tn B n p = tp B n p + (wle B n (tp B n p) - tp B n p) := by omega
        have hk := kwc_c (tw B n p)
        rw [if_pos (show nI (wle B n (tp B n p) - tp B n p) ≤ (8 : Int32) from nI_le (b := 8) c8 (by decide))]
        have es : 1 = srt (tc B n p) := by
          rw [ec]; unfold srt
          rcases hk with k1 | ⟨i, hi, k1⟩
          · rw [k1]; rfl
          · rw [k1, if_pos (by omega)]
        have e2 : tc B n p ≠ 2 := by rw [ec]; rcases hk with k1 | ⟨i, hi, k1⟩ <;> omega
        exact good g4 _ 1 F4 (by rw [y3]; exact w4) (by rw [y3]; exact w7) (by rw [y3]; exact w2) (by rw [y3]; exact w3) (by decide) (by decide) es etv (fun y => absurd y e2) (fun _ => y4 c8)
      · have ec : tc B n p = 3 := by unfold tc; rw [if_neg c, if_pos cl, if_neg c8]
        rw [if_neg (show ¬ nI (wle B n (tp B n p) - tp B n p) ≤ (8 : Int32) from nI_ge (a := 8) (by omega) (by omega))]
        exact bad g4 _ F4 (by rw [y3]; exact w7) (by rw [y3]; exact w2) (by rw [y3]; exact w3) ec
    | false =>
      have ncl : ¬ isl (B (tp B n p)) = true := by rw [cl]; decide
      rw [if_pos b01f, r_isd X, Option.bind_some, eD]
      cases cd : isd (B (tp B n p)) with
      | true =>
        have et : tn B n p = nue B n (tp B n p) := by unfold tn; rw [if_neg c, if_neg ncl, if_pos cd]
        have h1 : tp B n p ≤ nue B n (tp B n p) := run_ge _ _ _ _
        have h3 : nue B n (tp B n p) ≤ n := run_le h2
        obtain ⟨g4, y1, y2, y4⟩ := r_number X T3 (show tp B n p < n by omega) w4 z8
        have F4 : Fr WT h g4 := F3.tr (y2.mono fun a b q => by unfold WT; omega)
        have T4 := T.t F4
        have v4 : g4.1 101 4 = nI (tp B n p) := by rw [y2.1 _ _ (by omega)]; exact w4
        have v7 : g4.1 101 7 = nI (tp B n p) := by rw [y2.1 _ _ (by omega)]; exact w7
        have v2 : g4.1 101 2 = 0 := by rw [y2.1 _ _ (by omega)]; exact w2
        have v3 : g4.1 101 3 = -1 := by rw [y2.1 _ _ (by omega)]; exact w3
        rw [if_neg b01t, y1]
        unfold fX9_token_203 fX9_token_208
        by_cases c4 : nue B n (tp B n p) - tp B n p ≤ 4
        · rw [if_neg (show ¬ (4 : Int32) < nI (nue B n (tp B n p) - tp B n p) from nI_nlt (a := 4) c4 (by decide)), r_hr X T4 v4 (by omega), Option.bind_some, r_isl X, Option.bind_some, show tp B n p + (nue B n (tp B n p) - tp B n p) = nue B n (tp B n p) by omega]
          cases cL : inT isl B n (nue B n (tp B n p)) with
          | true =>
            rw [if_neg b01t]
            exact bad g4 _ F4 v7 v2 v3 (by unfold tc; rw [if_neg c, if_neg ncl, if_pos cd, if_neg (fun z => by rw [cL] at z; cases z.2)])
          | false =>
            have ec : tc B n p = 2 := by unfold tc; rw [if_neg c, if_neg ncl, if_pos cd, if_pos ⟨c4, cL⟩]
            rw [if_pos b01f]
            exact good g4 _ 2 F4 v4 v7 v2 v3 (by decide) (by decide) (by rw [ec]; rfl) (by omega) (fun _ => y4 c4) (fun y => by omega)
        · rw [if_pos (show (4 : Int32) < nI (nue B n (tp B n p) - tp B n p) from nI_lt (a := 4) (by omega) (by omega))]
          exact bad g4 _ F4 v7 v2 v3 (by unfold tc; rw [if_neg c, if_neg ncl, if_pos cd, if_neg (fun z => c4 z.1)])
      | false =>
        have ncd : ¬ isd (B (tp B n p)) = true := by rw [cd]; decide
        rw [if_pos b01f, eh2, r_isg hb, Option.bind_some]
        unfold fX9_token_229
        cases cg : isg (B (tp B n p)) with
        | true =>
          have ec : tc B n p = B (tp B n p) := by unfold tc; rw [if_neg c, if_neg ncl, if_neg ncd, if_pos cg]
          have et : tn B n p = tp B n p + 1 := by unfold tn; rw [if_neg c, if_neg ncl, if_neg ncd]
          have hg := isg_c cg
          rw [if_neg b01t]
          exact good g3 1 _ F3 w4 w7 w2 w3 (by omega) (by omega) (by rw [ec]; unfold srt; rw [if_neg (by omega)]) et (fun y => by omega) (fun y => by omega)
        | false =>
          rw [if_pos b01f]
          exact bad g3 _ F3 w7 w2 w3 (by unfold tc; rw [if_neg c, if_neg ncl, if_neg ncd, if_neg (by rw [cg]; decide)])
