/-! plans: what the class lays ready: goals and links -/
def Wpl (hh a b : Nat) : Prop := 65 ≤ a ∧ a ≤ 73 ∨ a = hh + 20
theorem CO.pl {hh : Nat} {d : HD} {h g : HI} {s : SD} (C : CO 56 hh d h h s) (F : Fr (Wpl hh) h g) : CO 56 hh d g g s := by
  have hp := C.1
  exact ⟨C.1, C.S.keep F (fun a b p q r => by unfold Wpl at r; omega), C.H.keep F (fun a b p q r => by unfold Wpl at r; omega), Fr.rf⟩
theorem RU.pl {hh : Nat} {d : HD} {h g : HI} (hp : hh + 20 < 56) (U : RU hh d h) (F : Fr (Wpl hh) h g) : RU hh d g := U.keep F (fun a b p r => by unfold Wpl at r; omega)
theorem nI_ofI (a : Nat) : nI a = Int32.ofInt (a : Int) := rfl
theorem ofI_le2 {a b : Int} (h1 : -40000 ≤ a) (h2 : a ≤ 40000) (h3 : -40000 ≤ b) (h4 : b ≤ 40000) : Int32.ofInt a ≤ Int32.ofInt b ↔ a ≤ b := by
  rw [Int32.le_iff_toInt_le, Int32.toInt_ofInt_of_le (by omega) (by omega), Int32.toInt_ofInt_of_le (by omega) (by omega)]
theorem sub_le {a b t : Nat} (ha : a ≤ 10000) (hb : b ≤ 10000) (ht : t ≤ 10000) : nI a - nI b ≤ nI t ↔ a ≤ b + t := by
  rw [nI_ofI a, nI_ofI b, nI_ofI t, ← Int32.ofInt_sub, ofI_le2 (by omega) (by omega) (by omega) (by omega)]
  omega
def hpN (d : HD) (s : SD) : Nat → Int
  | 0 => 0
  | x + 1 => hpN d s x + (if gl d s x = true then wo d x d.M else 0)
theorem hpN_b {d : HD} (w : HDw d) (s : SD) : ∀ n : Nat, 0 ≤ hpN d s n ∧ hpN d s n ≤ 594 * (n : Int)
  | 0 => ⟨Int.le_refl _, by rw [hpN]; omega⟩
  | n + 1 => by
    have ih := hpN_b w s n
    have h := wo_b w n d.M
    have := w.M6
    rw [hpN]
    split
    · rename_i c
      have := (gl_alv c).2
      omega
    · omega
theorem hp_b {d : HD} (w : HDw d) (s : SD) : 0 ≤ hpN d s d.X ∧ hpN d s d.X ≤ 2400 := by
  have := hpN_b w s d.X
  have := w.X4
  omega
theorem wk_hp {d : HD} {s : SD} (k : Nat) : ∀ n, 0 ≤ wkN d s k n ∧ wkN d s k n ≤ hpN d s n
  | 0 => ⟨Int.le_refl _, Int.le_refl _⟩
  | n + 1 => by
    have ih := wk_hp (d := d) (s := s) k n
    rw [wkN, hpN]
    by_cases c : gl d s n = true
    · have := (gl_alv c).2
      rw [if_pos c]
      split <;> omega
    · rw [if_neg c, if_neg (fun e => c e.1)]; omega
def Wgo (a b : Nat) : Prop := a = 65 ∧ b = 9 ∨ a = 69 ∨ a = 70 ∨ a = 73
theorem Wgo_pl {hh : Nat} : ∀ a b, Wgo a b → Wpl hh a b := fun a b h => by unfold Wgo at h; unfold Wpl; omega
def PG (d : HD) (s : SD) (n : Nat) (h : HI) : Prop := h.1 65 9 = nI (ct (gl d s) n) ∧ (∀ x, x < n → gl d s x = true → h.1 69 (ct (gl d s) x) = nI x) ∧ (∀ x, x < n → h.1 70 x = if gl d s x = true then nI (ct (gl d s) x) else -1) ∧ ∀ x, x < n → h.1 73 x = if alv d s x = true then nI (d.di x) - nI s.mi else 0
theorem PG.keep {d : HD} {s : SD} {n : Nat} {h g : HI} {W : Nat → Nat → Prop} (P : PG d s n h) (F : Fr W h g) (hd : ∀ a b, Wgo a b → ¬ W a b) : PG d s n g := by
  obtain ⟨p1, p2, p3, p4⟩ := P
  refine ⟨?_, fun x hx hg => ?_, fun x hx => ?_, fun x hx => ?_⟩
  · rw [F.1 _ _ (hd _ _ (by unfold Wgo; omega))]; exact p1
  · rw [F.1 _ _ (hd _ _ (by unfold Wgo; omega))]; exact p2 x hx hg
  · rw [F.1 _ _ (hd _ _ (by unfold Wgo; omega))]; exact p3 x hx
  · rw [F.1 _ _ (hd _ _ (by unfold Wgo; omega))]; exact p4 x hx
theorem PG.no {d : HD} {s : SD} {j : Nat} {g : HI} {v : Int32} (P : PG d s j g) (hv : v = if alv d s j = true then nI (d.di j) - nI s.mi else 0) (hg : gl d s j = false) : PG d s (j + 1) (uI (uI g 73 j v) 70 j (-1)) := by
  obtain ⟨p1, p2, p3, p4⟩ := P
  refine ⟨?_, fun x hx hg2 => ?_, fun x hx => ?_, fun x hx => ?_⟩
  · rw [uI_n (by omega), uI_n (by omega), p1, ct, hg]; rfl
  · rw [uI_n (by omega), uI_n (by omega)]
    refine p2 x ?_ hg2
    rcases (show x < j ∨ x = j by omega) with e | e
    · exact e
    · rw [e, hg] at hg2; cases hg2
  · rcases (show x < j ∨ x = j by omega) with e | e
    · rw [uI_n (by omega), uI_n (by omega)]; exact p3 x e
    · rw [e, uI_s, hg]; rfl
  · rcases (show x < j ∨ x = j by omega) with e | e
    · rw [uI_n (by omega), uI_n (by omega)]; exact p4 x e
    · rw [e, uI_n (by omega), uI_s, hv]
theorem PG.yes {d : HD} {s : SD} {j : Nat} {g : HI} {v : Int32} (P : PG d s j g) (hv : v = if alv d s j = true then nI (d.di j) - nI s.mi else 0) (hg : gl d s j = true) : PG d s (j + 1) (uI (uI (uI (uI (uI g 73 j v) 70 j (-1)) 70 j (nI (ct (gl d s) j))) 69 (ct (gl d s) j) (nI j)) 65 9 (nI (ct (gl d s) j + 1))) := by
  obtain ⟨p1, p2, p3, p4⟩ := P
  refine ⟨?_, fun x hx hg2 => ?_, fun x hx => ?_, fun x hx => ?_⟩
  · rw [uI_s, ct, hg]; rfl
  · rcases (show x < j ∨ x = j by omega) with e | e
    · have := ct_lt hg2 e
      rw [uI_n (by omega), uI_n (by omega), uI_n (by omega), uI_n (by omega), uI_n (by omega)]; exact p2 x e hg2
    · rw [e, uI_n (by omega), uI_s]
  · rcases (show x < j ∨ x = j by omega) with e | e
    · rw [uI_n (by omega), uI_n (by omega), uI_n (by omega), uI_n (by omega), uI_n (by omega)]; exact p3 x e
    · rw [e, uI_n (by omega), uI_n (by omega), uI_s, hg]; rfl
  · rcases (show x < j ∨ x = j by omega) with e | e
    · rw [uI_n (by omega), uI_n (by omega), uI_n (by omega), uI_n (by omega), uI_n (by omega)]; exact p4 x e
    · rw [e, uI_n (by omega), uI_n (by omega), uI_n (by omega), uI_n (by omega), uI_s, hv]
theorem c_goals {hh : Nat} {d : HD} {h : HI} {s : SD} (w : HDw d) (v : SDw d s) (C : CO 56 hh d h h s) : ∃ g, fX3_findGoals 65 hh 56 hh h = some (Int32.ofInt (hpN d s d.X), g) ∧ Fr Wgo h g ∧ PG d s d.X g := by
  have hX := w.X4
  have hp := C.1
  have hgo : ∀ j, ct (gl d s) j ≤ j := fun j => ct_le _ j
  unfold fX3_findGoals
  obtain ⟨F, ⟨g, v2, v3⟩, ⟨i1, i2, i3, i4⟩, hL⟩ := lpi (fun n (p : HI × Int32 × Int32) => fX3_findGoals_9 65 hh 56 hh (fun h3 v2 => some (v2, h3)) n p.1 p.2.1 p.2.2) (fun j p => p.2.2 = nI j ∧ p.2.1 = Int32.ofInt (hpN d s j) ∧ Fr Wgo h p.1 ∧ PG d s j p.1) d.X (by omega) (by
    rintro j ⟨g, v2, v3⟩ hj ⟨i1, i2, i3, i4⟩
    simp only at i1 i2 i3 i4
    subst i1 i2
    have C2 := C.pl (i3.mono Wgo_pl)
    have hj4 := hgo j
    have hwo : g.1 (hh + 10) j = Int32.ofInt (wo d j d.M) := C2.H.wo j hj
    have hwb := wo_b w j d.M
    have hM := w.M6
    have hstep : ∀ v : Int32, v = (if alv d s j = true then nI (d.di j) - nI s.mi else 0) → ∃ s' : HI × Int32 × Int32, (s'.2.2 = nI (j + 1) ∧ s'.2.1 = Int32.ofInt (hpN d s (j + 1)) ∧ Fr Wgo h s'.1 ∧ PG d s (j + 1) s'.1) ∧ ∀ n, fX3_findGoals_58 65 hh 56 hh (fun h3 v2 => some (v2, h3)) (fX3_findGoals_9 65 hh 56 hh (fun h3 v2 => some (v2, h3)) n) g (Int32.ofInt (hpN d s j)) (nI j) (if s.ss j < 2 then 1 else 0) v (nI j) = fX3_findGoals_9 65 hh 56 hh (fun h3 v2 => some (v2, h3)) n s'.1 s'.2.1 s'.2.2 := by
      intro v hv
      cases hg : gl d s j with
      | false =>
        refine ⟨(uI (uI g 73 j v) 70 j (-1), Int32.ofInt (hpN d s (j + 1)), nI (j + 1)), ⟨rfl, rfl, (i3.tr (Fr.uI (by unfold Wgo; omega))).tr (Fr.uI (by unfold Wgo; omega)), i4.no hv hg⟩, fun n => ?_⟩
        unfold fX3_findGoals_58 fX3_findGoals_125
        simp (disch := omega) only [gB, nI_clamp, Nat.reduceAdd, uI_n, hwo, nI_1]
        rw [show hpN d s (j + 1) = hpN d s j by rw [hpN, hg, if_neg (by decide), Int.add_zero]]
        by_cases q : s.ss j < 2
        · rw [if_pos q, if_neg (by decide), if_pos]
          rw [show (0 : Int32) = Int32.ofInt 0 from rfl, ofI_le2 (by omega) (by omega) (by omega) (by omega)]
          unfold gl alv at hg
          rw [decide_eq_true q, Bool.true_and] at hg
          have := of_decide_eq_false hg
          omega
        · rw [if_neg q, if_pos rfl]
      | true =>
        have hq := alv_ss (gl_alv hg).1
        have hpos := (gl_alv hg).2
        refine ⟨(uI (uI (uI (uI (uI g 73 j v) 70 j (-1)) 70 j (nI (ct (gl d s) j))) 69 (ct (gl d s) j) (nI j)) 65 9 (nI (ct (gl d s) j + 1)), Int32.ofInt (hpN d s (j + 1)), nI (j + 1)), ⟨rfl, rfl, ((((i3.tr (Fr.uI (by unfold Wgo; omega))).tr (Fr.uI (by unfold Wgo; omega))).tr (Fr.uI (by unfold Wgo; omega))).tr (Fr.uI (by unfold Wgo; omega))).tr (Fr.uI (by unfold Wgo; omega)), i4.yes hv hg⟩, fun n => ?_⟩
        unfold fX3_findGoals_58 fX3_findGoals_125
        rw [if_pos hq]
        simp (disch := omega) only [gB, nI_clamp, Nat.reduceAdd, uI_n, hwo, nI_1, i4.1]
        rw [if_neg (by decide), if_neg, hpN, hg, if_pos rfl, Int32.ofInt_add]
        rw [show (0 : Int32) = Int32.ofInt 0 from rfl, ofI_le2 (by omega) (by omega) (by omega) (by omega)]
        omega
    by_cases q : s.ss j < 2
    · obtain ⟨s', a, b⟩ := hstep (nI (d.di j) - nI s.mi) (by rw [if_pos (show alv d s j = true from decide_eq_true q)])
      refine ⟨s', a, fun n => ?_⟩
      show fX3_findGoals_9 65 hh 56 hh _ (n + 1) g (Int32.ofInt (hpN d s j)) (nI j) = _
      rw [fX3_findGoals_9, show g.1 (hh + 5) 1 = nI d.X from C2.H.X, if_neg (nI_ge hj (by omega)), c_alive C2 w v.v hj, Option.bind_some]
      have hb := b n
      rw [if_pos q] at hb ⊢
      rw [if_neg (show ¬ (1 : Int32) = 0 by decide)]
      simp (disch := omega) only [gB, nI_clamp]
      rw [show g.1 (hh + 9) j = nI (d.di j) from C2.H.di j hj, show g.1 56 1 = nI s.mi from C2.S.mi]
      exact hb
    · obtain ⟨s', a, b⟩ := hstep 0 (by rw [if_neg]; intro e; exact q (of_decide_eq_true e))
      refine ⟨s', a, fun n => ?_⟩
      show fX3_findGoals_9 65 hh 56 hh _ (n + 1) g (Int32.ofInt (hpN d s j)) (nI j) = _
      rw [fX3_findGoals_9, show g.1 (hh + 5) 1 = nI d.X from C2.H.X, if_neg (nI_ge hj (by omega)), c_alive C2 w v.v hj, Option.bind_some]
      have hb := b n
      rw [if_neg q] at hb ⊢
      rw [if_pos rfl]
      exact hb) (s0 := (uI h 65 9 0, 0, 0)) ⟨rfl, rfl, Fr.uI (by unfold Wgo; omega), uI_s _ _ _ _, fun x hx => absurd hx (Nat.not_lt_zero x), fun x hx => absurd hx (Nat.not_lt_zero x), fun x hx => absurd hx (Nat.not_lt_zero x)⟩
  simp only at i1 i2 i3 i4 hL
  subst i1 i2
  refine ⟨g, ?_, i3, i4⟩
  have C2 := C.pl (i3.mono Wgo_pl)
  rw [hL, fX3_findGoals_9, show g.1 (hh + 5) 1 = nI d.X from C2.H.X, if_pos (nI_le (Nat.le_refl _) (by omega))]
/-! links -/
theorem c_fill {h : HI} : ∃ g, fJ7_fill_53178 72 24 h 0 = some g ∧ Fr (fun a _ => a = 72) h g ∧ ∀ k, k < 24 → g.1 72 k = 0 := by
  unfold fJ7_fill_53178
  obtain ⟨F, ⟨g, i⟩, ⟨i1, i2, i3⟩, hL⟩ := lpi (fun n (p : HI × Int32) => fJ7_fill_53178_5 72 24 (fun h2 => some h2) n p.1 0 p.2 (nI 24)) (fun j p => p.2 = nI j ∧ Fr (fun a _ => a = 72) h p.1 ∧ ∀ k, k < j → p.1.1 72 k = 0) 24 (by omega) (by
    rintro j ⟨g, i⟩ hj ⟨i1, i2, i3⟩
    simp only at i1 i2 i3
    subst i1
    refine ⟨(uI g 72 j 0, nI (j + 1)), ⟨rfl, i2.tr (Fr.uI rfl), fun k hk => ?_⟩, fun n => ?_⟩
    · show (uI g 72 j 0).1 72 k = 0
      rcases (show k < j ∨ k = j by omega) with e | e
      · rw [uI_n (by omega)]; exact i3 k e
      · rw [e, uI_s]
    · show fJ7_fill_53178_5 72 24 _ (n + 1) g 0 (nI j) (nI 24) = _
      rw [fJ7_fill_53178_5, if_neg (nI_ge hj (by omega))]
      simp (disch := omega) only [gB, nI_clamp, nI_1]) (s0 := (h, 0)) ⟨rfl, Fr.rf, fun k hk => absurd hk (Nat.not_lt_zero k)⟩
  simp only at i1 i2 i3 hL
  subst i1
  exact ⟨g, by rw [hL, fJ7_fill_53178_5, if_pos (nI_le (Nat.le_refl _) (by omega))], i2, i3⟩
def Wlk (a b : Nat) : Prop := a = 65 ∧ b = 10 ∨ a = 71 ∨ a = 72
def PL (d : HD) (s : SD) (n : Nat) (h : HI) : Prop := h.1 65 10 = nI (ct (lnk d s) n) ∧ (∀ i, i < n → lnk d s i = true → h.1 71 (ct (lnk d s) i) = nI i) ∧ ∀ m x, m < 6 → x < 4 → h.1 72 (4 * m + x) = nI (lbN d s m x n)
theorem PL.keep {d : HD} {s : SD} {n : Nat} {h g : HI} {W : Nat → Nat → Prop} (P : PL d s n h) (F : Fr W h g) (hd : ∀ a b, Wlk a b → ¬ W a b) : PL d s n g := by
  obtain ⟨p1, p2, p3⟩ := P
  refine ⟨?_, fun x hx hg => ?_, fun m x hm hx => ?_⟩
  · rw [F.1 _ _ (hd _ _ (by unfold Wlk; omega))]; exact p1
  · rw [F.1 _ _ (hd _ _ (by unfold Wlk; omega))]; exact p2 x hx hg
  · rw [F.1 _ _ (hd _ _ (by unfold Wlk; omega))]; exact p3 m x hm hx
theorem c_links {hh : Nat} {d : HD} {h0 h : HI} {s : SD} (w : HDw d) (C : CO 56 hh d h0 h0 s) (F0 : Fr (Wpl hh) h0 h) (G : PG d s d.X h) : ∃ g, fX3_findLinks 65 hh h = some g ∧ Fr Wlk h g ∧ PL d s d.D g := by
  have hX := w.X4
  have hD := w.D4
  have hM := w.M6
  have hp := C.1
  unfold fX3_findLinks
  obtain ⟨g0, e0, f0, z0⟩ := c_fill (h := uI h 65 10 0)
  have e00 : fJ7_fill_53178 (65 + 7) 24 (uI h 65 10 0) 0 = some g0 := e0
  rw [e00, Option.bind_some]
  have k10 : g0.1 65 10 = 0 := by rw [f0.1 _ _ (by omega), uI_s]
  obtain ⟨F, ⟨g, i⟩, ⟨i1, i3, i4⟩, hL⟩ := lpi (fun n (p : HI × Int32) => fX3_findLinks_15 65 hh (fun h3 => some h3) n p.1 p.2) (fun j p => p.2 = nI j ∧ Fr Wlk h p.1 ∧ PL d s j p.1) d.D (by omega) (by
    rintro j ⟨g, i⟩ hj ⟨i1, i3, i4⟩
    simp only at i1 i3 i4
    subst i1
    have hpl : ∀ a b, Wlk a b → Wpl hh a b := fun a b q => by unfold Wlk at q; unfold Wpl; omega
    have C2 := C.pl (F0.tr (i3.mono hpl))
    have G2 := G.keep i3 (fun a b p q => by unfold Wgo at p; unfold Wlk at q; omega)
    have hdl := w.dl j hj
    have hc := ct_le (lnk d s) j
    obtain ⟨p1, p2, p3⟩ := i4
    have edx : g.1 (hh + 15) j = nI (d.dx j) := C2.H.dx j hj
    have eom : g.1 (hh + 16) j = nI (d.om j) := C2.H.om j hj
    have eox : g.1 (hh + 17) j = nI (d.ox j) := C2.H.ox j hj
    have e70 := G2.2.2.1 (d.dx j) (by omega)
    have emu : nI (d.om j) * (4 : Int32) + nI (d.ox j) = nI (4 * d.om j + d.ox j) := by rw [show (4 : Int32) = nI 4 from rfl, nI_mu, nI_add, Nat.mul_comm]
    have e72 := p3 (d.om j) (d.ox j) (by omega) (by omega)
    cases hg : lnk d s j with
    | false =>
      refine ⟨(g, nI (j + 1)), ⟨rfl, i3, ?_, fun i hi hl => ?_, fun m x hm hx => ?_⟩, fun n => ?_⟩
      · show g.1 65 10 = _
        rw [p1, ct, hg]; rfl
      · show g.1 71 _ = _
        refine p2 i ?_ hl
        rcases (show i < j ∨ i = j by omega) with e | e
        · exact e
        · rw [e, hg] at hl; cases hl
      · show g.1 72 _ = _
        rw [p3 m x hm hx, lbN, if_neg (fun e => by rw [hg] at e; cases e.1)]
      · show fX3_findLinks_15 65 hh _ (n + 1) g (nI j) = _
        rw [fX3_findLinks_15, show g.1 hh 17 = nI d.D from C2.H.D, if_neg (nI_ge hj (by omega))]
        unfold fX3_findLinks_100
        simp (disch := omega) only [gB, nI_clamp, Nat.reduceAdd, edx, e70, nI_1]
        rw [show gl d s (d.dx j) = false from hg, if_neg (show ¬ (false = true) by decide), if_pos (by decide)]
    | true =>
      refine ⟨(uI (uI (uI g 72 (4 * d.om j + d.ox j) (nI (lbN d s (d.om j) (d.ox j) j ||| 2 ^ ct (lnk d s) j))) 71 (ct (lnk d s) j) (nI j)) 65 10 (nI (ct (lnk d s) j + 1)), nI (j + 1)), ⟨rfl, ((i3.tr (Fr.uI (by unfold Wlk; omega))).tr (Fr.uI (by unfold Wlk; omega))).tr (Fr.uI (by unfold Wlk; omega)), ?_, fun i hi hl => ?_, fun m x hm hx => ?_⟩, fun n => ?_⟩
      · show (uI (uI (uI g _ _ _) _ _ _) 65 10 _).1 65 10 = _
        rw [uI_s, ct, hg]; rfl
      · show (uI (uI (uI g _ _ _) _ _ _) 65 10 _).1 71 _ = _
        rcases (show i < j ∨ i = j by omega) with e | e
        · have := ct_lt hl e
          rw [uI_n (by omega), uI_n (by omega), uI_n (by omega)]; exact p2 i e hl
        · rw [e, uI_n (by omega), uI_s]
      · show (uI (uI (uI g _ _ _) _ _ _) 65 10 _).1 72 _ = _
        rw [uI_n (by omega), uI_n (by omega), lbN]
        by_cases q : m = d.om j ∧ x = d.ox j
        · rw [q.1, q.2, uI_s, if_pos ⟨hg, rfl, rfl⟩]
        · rw [uI_n (by omega), if_neg (fun e => q ⟨e.2.1.symm, e.2.2.symm⟩)]; exact p3 m x hm hx
      · show fX3_findLinks_15 65 hh _ (n + 1) g (nI j) = _
        rw [fX3_findLinks_15, show g.1 hh 17 = nI d.D from C2.H.D, if_neg (nI_ge hj (by omega))]
        unfold fX3_findLinks_100
        have hgi : ct (gl d s) (d.dx j) < 2 ^ 31 := Nat.lt_of_le_of_lt (ct_le _ _) (by omega)
        simp (disch := omega) only [gB, nI_clamp, Nat.reduceAdd, edx, e70, nI_1]
        rw [show gl d s (d.dx j) = true from hg, if_pos rfl, if_neg (nI_pos hgi)]
        simp (disch := omega) only [gB, nI_clamp, Nat.reduceAdd, eom, eox, emu, p1, e72, nI_1]
        rw [one_shl (by omega), or_n]) (s0 := (g0, 0)) ⟨rfl, (Fr.uI (by unfold Wlk; omega)).tr (f0.mono fun a b q => by unfold Wlk; omega), k10, fun x hx => absurd hx (Nat.not_lt_zero x), fun m x hm hx => z0 _ (by omega)⟩
  simp only at i1 i3 i4 hL
  subst i1
  have C2 := C.pl (F0.tr (i3.mono fun a b q => by unfold Wlk at q; unfold Wpl; omega))
  exact ⟨g, by rw [hL, fX3_findLinks_15, show g.1 hh 17 = nI d.D from C2.H.D, if_pos (nI_le (Nat.le_refl _) (by omega))], i3, i4⟩
