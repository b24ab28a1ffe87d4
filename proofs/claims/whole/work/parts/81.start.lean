/-! plans: passing sets of all goals, the first key, a key's worth -/
theorem pw_le {n : Nat} (h : n ≤ 4) : 2 ^ n ≤ 16 := Nat.pow_le_pow_right (n := 2) (j := 4) (by decide) h
def Pas (d : HD) (s : SD) (H K n : Nat) (h : HI) : Prop := ∀ x, x < d.X → gl d s x = true → ct (gl d s) x < n → ∀ e, e < 2 ^ lC d s → PSv d s H K e x (h.2 67 (ct (gl d s) x * 16 + e))
theorem c_p12 {hh : Nat} {d : HD} {h : HI} {s : SD} {H K x : Nat} (hp : hh + 20 < 56) (w : HDw d) (C : CH hh d h) (G : PG d s d.X h) (L : PL d s d.D h) (hx : x < d.X) (hg : gl d s x = true) (hf : ∀ S, S < 64 → lb (h.2 65 12) S = ftb H K S) (V : VD d (pc6 H) h (pc6 H + 1) 0 0) : ∃ g, (∀ k, fX3_fillPassing_12 65 hh k FU h (nI (ct (gl d s) x)) 0 = k g (nI (ct (gl d s) x))) ∧ Fr (fun a b => a = 67 ∧ ct (gl d s) x * 16 ≤ b ∧ b < ct (gl d s) x * 16 + 16) h g ∧ ∀ e, e < 2 ^ lC d s → PSv d s H K e x (g.2 67 (ct (gl d s) x * 16 + e)) := by
  have hl := lC_le (s := s) w
  have h16 := pw_le hl.1
  have hgi := gi_lt hx hg
  obtain ⟨j, hj⟩ : ∃ j, ct (gl d s) x = j := ⟨_, rfl⟩
  rw [hj] at hgi ⊢
  obtain ⟨F, ⟨g, i⟩, ⟨i1, i2, i3⟩, hL⟩ := lpi (fun n (p : HI × Int32) => fun k => fX3_fillPassing_12 65 hh k n p.1 (nI j) p.2) (fun e p => p.2 = nI e ∧ Fr (fun a b => a = 67 ∧ j * 16 ≤ b ∧ b < j * 16 + 16) h p.1 ∧ ∀ e1, e1 < e → PSv d s H K e1 x (p.1.2 67 (j * 16 + e1))) (2 ^ lC d s) (by omega) (by
    rintro e ⟨g, i⟩ he ⟨i1, i2, i3⟩
    simp only at i1 i2 i3
    subst i1
    have C2 := C.keep i2 (fun a b p q r => by omega)
    have G2 := G.keep i2 (fun a b p r => by unfold Wgo at p; omega)
    have L2 := L.keep i2 (fun a b p r => by unfold Wlk at p; omega)
    have hf2 : ∀ S, S < 64 → lb (g.2 65 12) S = ftb H K S := fun S hS => by rw [i2.2 _ _ (by omega)]; exact hf S hS
    have V2 : VD d (pc6 H) g (pc6 H + 1) 0 0 := fun q1 y1 n1 h1 h2 h3 h4 => by rw [i2.1 _ _ (by omega)]; exact V q1 y1 n1 h1 h2 h3 h4
    obtain ⟨v, e3, p3⟩ := c_pset (e := e) (s := s) w C2 hx hf2 V2
    have e69 : g.1 69 j = nI x := by rw [← hj]; exact G2.2.1 x hx hg
    refine ⟨(uL g 67 (j * 16 + e) v, nI (e + 1)), ⟨rfl, i2.tr (Fr.uL (by omega)), fun e1 he1 => ?_⟩, fun n => funext fun k => ?_⟩
    · show PSv d s H K e1 x ((uL g 67 (j * 16 + e) v).2 67 (j * 16 + e1))
      rcases (show e1 < e ∨ e1 = e by omega) with q | q
      · rw [uL_n (by omega)]; exact i3 e1 q
      · rw [q, uL_s]; exact p3
    · show fX3_fillPassing_12 65 hh k (n + 1) g (nI j) (nI e) = _
      rw [fX3_fillPassing_12, show g.1 65 10 = nI (lC d s) from L2.1, one_shl (by omega), if_neg (nI_ge he (by omega)), c_deals w L2, Option.bind_some]
      simp (disch := omega) only [gB, nI_clamp, Nat.reduceAdd]
      rw [e69, e3, Option.bind_some, show (16 : Int32) = nI 16 from rfl, nI_mu, nI_add]
      simp (disch := omega) only [gB, nI_clamp, Nat.reduceAdd, nI_1]) (s0 := (h, 0)) ⟨rfl, Fr.rf, fun e he => absurd he (Nat.not_lt_zero e)⟩
  simp only at i1 i2 i3 hL
  subst i1
  refine ⟨g, fun k => ?_, i2, i3⟩
  have L2 := L.keep i2 (fun a b p r => by unfold Wlk at p; omega)
  rw [congrFun hL k, fX3_fillPassing_12, show g.1 65 10 = nI (lC d s) from L2.1, one_shl (by omega), if_pos (nI_le (Nat.le_refl _) (by omega))]
theorem c_fillp {hh : Nat} {d : HD} {h : HI} {s : SD} {H K : Nat} (hp : hh + 20 < 56) (w : HDw d) (C : CH hh d h) (G : PG d s d.X h) (L : PL d s d.D h) (hf : ∀ S, S < 64 → lb (h.2 65 12) S = ftb H K S) (V : VD d (pc6 H) h (pc6 H + 1) 0 0) : ∃ g, fX3_fillPassing 65 hh h = some g ∧ Fr (fun a _ => a = 67) h g ∧ Pas d s H K (gC d s) g := by
  have hl := lC_le (s := s) w
  have h16 := pw_le hl.1
  unfold fX3_fillPassing
  obtain ⟨F, ⟨g, i⟩, ⟨i1, i2, i3⟩, hL⟩ := lpi (fun n (p : HI × Int32) => fX3_fillPassing_2 65 hh (fun h6 => some h6) n p.1 p.2) (fun j p => p.2 = nI j ∧ Fr (fun a _ => a = 67) h p.1 ∧ Pas d s H K j p.1) (gC d s) (by omega) (by
    rintro j ⟨g, i⟩ hj ⟨i1, i2, i3⟩
    simp only at i1 i2 i3
    subst i1
    have C2 := C.keep i2 (fun a b p q r => by omega)
    have G2 := G.keep i2 (fun a b p r => by unfold Wgo at p; omega)
    have L2 := L.keep i2 (fun a b p r => by unfold Wlk at p; omega)
    have hf2 : ∀ S, S < 64 → lb (g.2 65 12) S = ftb H K S := fun S hS => by rw [i2.2 _ _ (by omega)]; exact hf S hS
    have V2 : VD d (pc6 H) g (pc6 H + 1) 0 0 := fun q1 y1 n1 h1 h2 h3 h4 => by rw [i2.1 _ _ (by omega)]; exact V q1 y1 n1 h1 h2 h3 h4
    obtain ⟨x, hx, hg, hc⟩ := ct_inv (show j < ct (gl d s) d.X from hj)
    obtain ⟨g2, e2, f2, p2⟩ := c_p12 (H := H) (K := K) hp w C2 G2 L2 hx hg hf2 V2
    rw [hc] at f2 p2
    refine ⟨(g2, nI (j + 1)), ⟨rfl, i2.tr (f2.mono fun a b q => q.1), fun x1 hx1 hg1 hc1 e he => ?_⟩, fun n => ?_⟩
    · show PSv d s H K e x1 (g2.2 67 (ct (gl d s) x1 * 16 + e))
      rcases (show ct (gl d s) x1 < j ∨ ct (gl d s) x1 = j by omega) with q | q
      · rw [f2.2 _ _ (by omega)]; exact i3 x1 hx1 hg1 q e he
      · have e5 : x1 = x := ct_inj hg1 hg (q.trans hc.symm)
        rw [q, e5]; exact p2 e he
    · show fX3_fillPassing_2 65 hh _ (n + 1) g (nI j) = _
      rw [hc] at e2
      rw [fX3_fillPassing_2, show g.1 65 9 = nI (gC d s) from G2.1, if_neg (nI_ge hj (by omega)), e2, nI_1]) (s0 := (h, 0)) ⟨rfl, Fr.rf, fun x hx hg hc => absurd hc (Nat.not_lt_zero _)⟩
  simp only at i1 i2 i3 hL
  subst i1
  have G2 := G.keep i2 (fun a b p r => by unfold Wgo at p; omega)
  exact ⟨g, by rw [hL, fX3_fillPassing_2, show g.1 65 9 = nI (gC d s) from G2.1, if_pos (nI_le (Nat.le_refl _) (by omega))], i2, i3⟩
/-! the first key -/
def K0 (d : HD) (s : SD) (a b k : Nat) : Prop := k < 2 ^ KB d s ∧ (∀ x, x < d.X → gl d s x = true → k.testBit (sb d s x) = (decide (ct (gl d s) x < a) && decide (s.ss x = 1)) ∧ k.testBit (pb d s x) = false) ∧ ∀ i, i < d.D → lnk d s i = true → k.testBit (ct (lnk d s) i) = (decide (ct (lnk d s) i < b) && due d s i)
theorem dlt {a b : Nat} (h : a ≠ b) : decide (a < b) = decide (a < b + 1) := decide_eq_decide.mpr (by omega)
theorem K0.g1 {d : HD} {s : SD} {a b k x : Nat} (Z : K0 d s a b k) (hx : x < d.X) (hg : gl d s x = true) (ha : ct (gl d s) x = a) (hs : s.ss x = 1) : K0 d s (a + 1) b (k ||| 2 ^ sb d s x) := by
  obtain ⟨z1, z2, z3⟩ := Z
  have hxl := gi_lt hx hg
  refine ⟨or_pow_lt z1 (by unfold sb KB; omega), fun y hy hgy => ?_, fun i hi hl => ?_⟩
  · have hyl := gi_lt hy hgy
    rw [Nat.testBit_or, Nat.testBit_two_pow, Nat.testBit_or, Nat.testBit_two_pow, (z2 y hy hgy).1, (z2 y hy hgy).2, decide_eq_false (show ¬ sb d s x = pb d s y by unfold sb pb; omega)]
    refine ⟨?_, rfl⟩
    by_cases e : y = x
    · rw [e, hs, ha, decide_eq_true (Nat.lt_succ_self a), decide_eq_true (rfl : sb d s x = _), Bool.or_true]; rfl
    · have e2 : ct (gl d s) y ≠ ct (gl d s) x := fun q => e (ct_inj hgy hg q)
      rw [decide_eq_false (show ¬ sb d s x = sb d s y by unfold sb; omega), Bool.or_false, dlt (by omega)]
  · have := li_lt hi hl
    rw [Nat.testBit_or, Nat.testBit_two_pow, z3 i hi hl, decide_eq_false (show ¬ sb d s x = ct (lnk d s) i by unfold sb; omega), Bool.or_false]
theorem K0.g0 {d : HD} {s : SD} {a b k x : Nat} (Z : K0 d s a b k) (hx : x < d.X) (hg : gl d s x = true) (ha : ct (gl d s) x = a) (hs : ¬ s.ss x = 1) : K0 d s (a + 1) b k := by
  obtain ⟨z1, z2, z3⟩ := Z
  refine ⟨z1, fun y hy hgy => ?_, z3⟩
  rw [(z2 y hy hgy).1, (z2 y hy hgy).2]
  refine ⟨?_, rfl⟩
  by_cases e : y = x
  · rw [e, decide_eq_false hs, Bool.and_false, Bool.and_false]
  · have e2 : ct (gl d s) y ≠ ct (gl d s) x := fun q => e (ct_inj hgy hg q)
    rw [dlt (by omega)]
theorem K0.l1 {d : HD} {s : SD} {a b k i : Nat} (Z : K0 d s a b k) (hi : i < d.D) (hl : lnk d s i = true) (hb : ct (lnk d s) i = b) (hs : due d s i = true) : K0 d s a (b + 1) (k ||| 2 ^ b) := by
  obtain ⟨z1, z2, z3⟩ := Z
  have hil := li_lt hi hl
  refine ⟨or_pow_lt z1 (by unfold KB; omega), fun y hy hgy => ?_, fun i2 hi2 hl2 => ?_⟩
  · rw [Nat.testBit_or, Nat.testBit_two_pow, Nat.testBit_or, Nat.testBit_two_pow, (z2 y hy hgy).1, (z2 y hy hgy).2, decide_eq_false (show ¬ b = pb d s y by unfold pb; omega), decide_eq_false (show ¬ b = sb d s y by unfold sb; omega), Bool.or_false]
    exact ⟨rfl, rfl⟩
  · rw [Nat.testBit_or, Nat.testBit_two_pow, z3 i2 hi2 hl2]
    by_cases e : i2 = i
    · rw [e, hs, hb, decide_eq_true (Nat.lt_succ_self b), decide_eq_true (rfl : b = _), Bool.or_true]; rfl
    · have e2 : ct (lnk d s) i2 ≠ ct (lnk d s) i := fun q => e (ct_inj hl2 hl q)
      rw [decide_eq_false (show ¬ b = ct (lnk d s) i2 by omega), Bool.or_false, dlt (by omega)]
theorem K0.l0 {d : HD} {s : SD} {a b k i : Nat} (Z : K0 d s a b k) (hi : i < d.D) (hl : lnk d s i = true) (hb : ct (lnk d s) i = b) (hs : due d s i = false) : K0 d s a (b + 1) k := by
  obtain ⟨z1, z2, z3⟩ := Z
  refine ⟨z1, z2, fun i2 hi2 hl2 => ?_⟩
  rw [z3 i2 hi2 hl2]
  by_cases e : i2 = i
  · rw [e, hs, Bool.and_false, Bool.and_false]
  · have e2 : ct (lnk d s) i2 ≠ ct (lnk d s) i := fun q => e (ct_inj hl2 hl q)
    rw [dlt (by omega)]
theorem c_key {hh : Nat} {d : HD} {h : HI} {s : SD} (w : HDw d) (v : SDv d s) (C : CO 56 hh d h h s) (G : PG d s d.X h) (L : PL d s d.D h) : ∃ k, fX3_startKey 65 56 hh h = some (nI k, h) ∧ K0 d s (gC d s) (lC d s) k := by
  have hX := w.X4
  have hD := w.D4
  have hl := lC_le (s := s) w
  unfold fX3_startKey
  obtain ⟨F, ⟨v2, v3⟩, ⟨i1, k, i2, i3⟩, hL⟩ := lpi (fun n (p : Int32 × Int32) => fun k => fX3_startKey_4 65 56 hh k n h p.1 p.2) (fun j p => p.2 = nI j ∧ ∃ k, p.1 = nI k ∧ K0 d s j 0 k) (gC d s) (by omega) (by
    rintro j ⟨v2, v3⟩ hj ⟨i1, k, i2, i3⟩
    simp only at i1 i2
    subst i1 i2
    obtain ⟨x, hx, hg, hc⟩ := ct_inv (show j < ct (gl d s) d.X from hj)
    have h3 := v.ss x (by omega)
    have e69 : h.1 69 j = nI x := by rw [← hc]; exact G.2.1 x hx hg
    have ess : h.1 61 x = nI (s.ss x) := C.S.ss x (by omega)
    have esb : sb d s x = lC d s + j := by unfold sb; rw [hc]
    by_cases q : s.ss x = 1
    · refine ⟨(nI (k ||| 2 ^ sb d s x), nI (j + 1)), ⟨rfl, _, rfl, i3.g1 hx hg hc q⟩, fun n => funext fun kk => ?_⟩
      show fX3_startKey_4 65 56 hh kk (n + 1) h (nI k) (nI j) = _
      rw [fX3_startKey_4, show h.1 65 9 = nI (gC d s) from G.1, if_neg (nI_ge hj (by omega))]
      unfold fX3_startKey_35 fX3_spokenBit
      simp (disch := omega) only [gB, nI_clamp, Nat.reduceAdd, e69, ess]
      rw [if_pos (show nI (s.ss x) = (1 : Int32) by rw [q]; rfl), show h.1 65 10 = nI (lC d s) from L.1, nI_add, one_shl (by omega), Option.bind_some, or_n, nI_1, ← esb]
    · refine ⟨(nI k, nI (j + 1)), ⟨rfl, _, rfl, i3.g0 hx hg hc q⟩, fun n => funext fun kk => ?_⟩
      show fX3_startKey_4 65 56 hh kk (n + 1) h (nI k) (nI j) = _
      rw [fX3_startKey_4, show h.1 65 9 = nI (gC d s) from G.1, if_neg (nI_ge hj (by omega))]
      unfold fX3_startKey_35
      simp (disch := omega) only [gB, nI_clamp, Nat.reduceAdd, e69, ess]
      rw [if_neg (show ¬ nI (s.ss x) = (1 : Int32) from fun e => q ((nI_eq (b := 1) (by omega) (by decide)).mp e)), nI_1]) (s0 := (0, 0)) ⟨rfl, 0, rfl, Nat.pow_pos (by decide), fun x hx hg => by rw [Nat.zero_testBit, Nat.zero_testBit, decide_eq_false (Nat.not_lt_zero _)]; exact ⟨rfl, rfl⟩, fun i hi hl2 => by rw [Nat.zero_testBit, decide_eq_false (Nat.not_lt_zero _)]; rfl⟩
  simp only at i1 i2 hL
  subst i1 i2
  rw [congrFun hL, fX3_startKey_4, show h.1 65 9 = nI (gC d s) from G.1, if_pos (nI_le (Nat.le_refl _) (by omega)), c_due w C, Option.bind_some]
  obtain ⟨F2, ⟨v2, v3⟩, ⟨j1, k2, j2, j3⟩, hL2⟩ := lpi (fun n (p : Int32 × Int32) => fX3_startKey_49 65 56 hh (fun h6 v2 => some (v2, h6)) n h p.1 (nI (bs (due d s) d.D)) p.2) (fun j p => p.2 = nI j ∧ ∃ k, p.1 = nI k ∧ K0 d s (gC d s) j k) (lC d s) (by omega) (by
    rintro j ⟨v2, v3⟩ hj ⟨i1, k, i2, i3⟩
    simp only at i1 i2
    subst i1 i2
    obtain ⟨i, hi, hli, hc⟩ := ct_inv (show j < ct (lnk d s) d.D from hj)
    have e71 : h.1 71 j = nI i := by rw [← hc]; exact L.2.1 i hi hli
    cases q : due d s i with
    | true =>
      refine ⟨(nI (k ||| 2 ^ j), nI (j + 1)), ⟨rfl, _, rfl, i3.l1 hi hli hc q⟩, fun n => ?_⟩
      show fX3_startKey_49 65 56 hh _ (n + 1) h (nI k) _ (nI j) = _
      rw [fX3_startKey_49, show h.1 65 10 = nI (lC d s) from L.1, if_neg (nI_ge hj (by omega))]
      unfold fX3_startKey_79
      simp (disch := omega) only [gB, nI_clamp, Nat.reduceAdd, e71]
      rw [tst _ (by omega) hi, q, if_neg b01t, one_shl (by omega), or_n, nI_1]
    | false =>
      refine ⟨(nI k, nI (j + 1)), ⟨rfl, _, rfl, i3.l0 hi hli hc q⟩, fun n => ?_⟩
      show fX3_startKey_49 65 56 hh _ (n + 1) h (nI k) _ (nI j) = _
      rw [fX3_startKey_49, show h.1 65 10 = nI (lC d s) from L.1, if_neg (nI_ge hj (by omega))]
      unfold fX3_startKey_79
      simp (disch := omega) only [gB, nI_clamp, Nat.reduceAdd, e71]
      rw [tst _ (by omega) hi, q, if_pos b01f, nI_1]) (s0 := (nI k, 0)) ⟨rfl, k, rfl, i3⟩
  simp only at j1 j2 hL2
  subst j1 j2
  refine ⟨k2, ?_, j3⟩
  rw [hL2, fX3_startKey_49, show h.1 65 10 = nI (lC d s) from L.1, if_pos (nI_le (Nat.le_refl _) (by omega))]
theorem zst_at {d : HD} {s : SD} (w : HDw d) (v : SDv d s) {S0 : Nat} (hS : S0 < 64) : sit (zst d s S0) = S0 ∧ (∀ x, x < d.X → stt (zst d s S0) x = s.ss x) ∧ dus (zst d s S0) = bs (due d s) d.D := by
  have hX := w.X4
  obtain ⟨i1, i2, i3⟩ := z0N_at (D := bs (due d s) d.D) hS (fun x hx => show s.ss x < 4 by have := v.ss x hx; omega) d.X hX
  exact ⟨i1, fun x hx => (i2 x (by omega)).trans (if_pos hx), i3⟩
theorem K0.kz {d : HD} {s : SD} {k S0 : Nat} (w : HDw d) (v : SDv d s) (hS : S0 < 64) (Z : K0 d s (gC d s) (lC d s) k) : Kz d s k (zst d s S0) := by
  obtain ⟨z1, z2, z3⟩ := Z
  obtain ⟨a1, a2, a3⟩ := zst_at w v hS
  refine ⟨fun i hi hl => ?_, fun x hx hg => ?_⟩
  · rw [z3 i hi hl, a3, bs_bit, decide_eq_true (li_lt hi hl), decide_eq_true hi]
  · have h1 := alv_ss (gl_alv hg).1
    rw [(z2 x hx hg).1, (z2 x hx hg).2, a2 x hx, decide_eq_true (gi_lt hx hg), Bool.true_and, decide_eq_false (show ¬ s.ss x = 2 by omega)]
    exact ⟨decide_eq_decide.mpr (by omega), rfl⟩
theorem zst_zs {d : HD} {s : SD} (w : HDw d) (v : SDv d s) {S0 : Nat} (hS : S0 < 64) : Zs d s (zst d s S0) := by
  obtain ⟨a1, a2, a3⟩ := zst_at w v hS
  refine ⟨fun x hx _ => a2 x hx, fun x hx ha => ?_⟩
  have h1 := alv_ss ha
  rw [a2 x hx]
  exact ⟨by omega, fun _ => h1⟩
/-! a key's worth -/
theorem wkN_nx {d : HD} {s : SD} {k x : Nat} (hg : gl d s x = true) : ∀ n, ct (gl d s) n = ct (gl d s) x + 1 → wkN d s k n = wkN d s k (x + 1)
  | 0, h => by rw [ct] at h; omega
  | n + 1, h => by
    by_cases e : n = x
    · rw [e]
    · have hlt : x < n := by
        rcases Nat.lt_or_ge x n with q | q
        · exact q
        · have := ct_mono2 (P := gl d s) (m := n + 1) (n := x) (by omega)
          omega
      have h1 := ct_lt hg hlt
      rw [ct] at h
      have hn : gl d s n = false := by
        cases q : gl d s n with
        | false => rfl
        | true => rw [q, if_pos rfl] at h; omega
      rw [hn, if_neg (by decide)] at h
      rw [wkN, hn, if_neg (fun e => by cases e.1), wkN_nx hg n (by omega), Int.add_zero]
theorem wkN_z {d : HD} {s : SD} {k : Nat} : ∀ n, ct (gl d s) n = 0 → wkN d s k n = 0
  | 0, _ => rfl
  | n + 1, h => by
    rw [ct] at h
    have hn : gl d s n = false := by
      cases q : gl d s n with
      | false => rfl
      | true => rw [q, if_pos rfl] at h; omega
    rw [wkN, hn, if_neg (fun e => by cases e.1), wkN_z n (by omega), Int.add_zero]
theorem and_pow {k j : Nat} (hj : j < 31) : nI k &&& nI (2 ^ j) = 0 ↔ k.testBit j = false := by
  rw [and_n]
  have hb : k &&& 2 ^ j < 2 ^ 31 := Nat.lt_of_le_of_lt Nat.and_le_right (Nat.pow_lt_pow_right (by decide) hj)
  constructor
  · intro h
    have h0 := (nI_eq (b := 0) hb (by decide)).mp h
    have := congrArg (fun a => a.testBit j) h0
    simp only [Nat.testBit_and, Nat.testBit_two_pow, decide_true, Bool.and_true, Nat.zero_testBit] at this
    exact this
  · intro h
    have h0 : k &&& 2 ^ j = 0 := by
      apply Nat.eq_of_testBit_eq
      intro i
      rw [Nat.testBit_and, Nat.testBit_two_pow, Nat.zero_testBit]
      by_cases q : j = i
      · rw [← q, h]; rfl
      · rw [decide_eq_false q, Bool.and_false]
    rw [h0]; rfl
theorem c_worth {hh : Nat} {d : HD} {h : HI} {s : SD} {k : Nat} (w : HDw d) (C : CH hh d h) (G : PG d s d.X h) (L : h.1 65 10 = nI (lC d s)) : fX3_worthOf 65 hh h (nI k) = some (Int32.ofInt (wk d s k), h) := by
  have hX := w.X4
  have hl := lC_le (s := s) w
  unfold fX3_worthOf
  obtain ⟨F, ⟨v2, v3⟩, ⟨i1, i2⟩, hL⟩ := lpi (fun n (p : Int32 × Int32) => fX3_worthOf_4 65 hh (fun h3 v2 => some (v2, h3)) n h (nI k) p.1 p.2) (fun j p => p.2 = nI j ∧ ∀ n, n ≤ d.X → ct (gl d s) n = j → p.1 = Int32.ofInt (wkN d s k n)) (gC d s) (by omega) (by
    rintro j ⟨v2, v3⟩ hj ⟨i1, i2⟩
    simp only at i1 i2
    subst i1
    obtain ⟨x, hx, hg, hc⟩ := ct_inv (show j < ct (gl d s) d.X from hj)
    have e69 : h.1 69 j = nI x := by rw [← hc]; exact G.2.1 x hx hg
    have ewo : h.1 (hh + 10) x = Int32.ofInt (wo d x d.M) := C.wo x hx
    have epb : pb d s x = lC d s + gC d s + j := by unfold pb; rw [hc]
    have hv := i2 x (by omega) hc
    subst hv
    have stp : ∀ n, fX3_worthOf_4 65 hh (fun h3 v2 => some (v2, h3)) (n + 1) h (nI k) (Int32.ofInt (wkN d s k x)) (nI j) = fX3_worthOf_4 65 hh (fun h3 v2 => some (v2, h3)) n h (nI k) (Int32.ofInt (wkN d s k (x + 1))) (nI (j + 1)) := by
      intro n
      rw [fX3_worthOf_4, show h.1 65 9 = nI (gC d s) from G.1, if_neg (nI_ge hj (by omega))]
      unfold fX3_worthOf_39 fX3_passedBit
      rw [L, show h.1 65 9 = nI (gC d s) from G.1, nI_add, nI_add, one_shl (by omega), Option.bind_some, nI_1, wkN, ← epb]
      cases q : k.testBit (pb d s x) with
      | false => rw [if_pos ((and_pow (by omega)).mpr q), if_neg (fun e => by cases e.2), Int.add_zero]
      | true =>
        rw [if_neg (fun e => by have := (and_pow (by omega)).mp e; rw [q] at this; cases this)]
        simp (disch := omega) only [gB, nI_clamp, Nat.reduceAdd, e69, ewo]
        rw [if_pos ⟨hg, trivial⟩, Int32.ofInt_add]
    refine ⟨(Int32.ofInt (wkN d s k (x + 1)), nI (j + 1)), ⟨rfl, fun n hn hcn => ?_⟩, stp⟩
    show Int32.ofInt (wkN d s k (x + 1)) = _
    rw [wkN_nx hg n (by omega)]) (s0 := (0, 0)) ⟨rfl, fun n hn hcn => by
      show (0 : Int32) = _
      rw [wkN_z n hcn]; rfl⟩
  simp only at i1 i2 hL
  subst i1
  rw [hL, fX3_worthOf_4, show h.1 65 9 = nI (gC d s) from G.1, if_pos (nI_le (Nat.le_refl _) (by omega)), i2 d.X (Nat.le_refl _) rfl]
  rfl
