/-! plans: a step of the class -/
def Wre (a b : Nat) : Prop := a = 66 ∨ a = 65 ∧ (b = 13 ∨ b = 14 ∨ b = 15)
def PT (hh : Nat) (d : HD) (s : SD) (H K : Nat) (h : HI) : Prop := CO 56 hh d h h s ∧ h.1 65 11 = nI H ∧ (∀ S, S < 64 → lb (h.2 65 12) S = ftb H K S) ∧ PG d s d.X h ∧ PL d s d.D h ∧ Pas d s H K (gC d s) h
theorem PT.keep {hh : Nat} {d : HD} {s : SD} {H K : Nat} {h g : HI} (P : PT hh d s H K h) (F : Fr Wre h g) : PT hh d s H K g := by
  obtain ⟨p1, p2, p3, p4, p5, p6⟩ := P
  refine ⟨p1.pl (F.mono fun a b q => by unfold Wre at q; unfold Wpl; omega), ?_, fun S hS => ?_, p4.keep F (fun a b p q => by unfold Wgo at p; unfold Wre at q; omega), p5.keep F (fun a b p q => by unfold Wlk at p; unfold Wre at q; omega), fun x hx hg hc e he => ?_⟩
  · rw [F.1 _ _ (by unfold Wre; omega)]; exact p2
  · rw [F.2 _ _ (by unfold Wre; omega)]; exact p3 S hS
  · rw [F.2 _ _ (by unfold Wre; omega)]; exact p6 x hx hg hc e he
/-- how the class's search stands: A the keys and sets that came, R0 those of the minute's beginning -/
def PX (d : HD) (s : SD) (t : Nat) (b0 : Int) (so0 : Int32) (R0 A : Nat → Nat → Prop) (h : HI) : Prop := ∃ b so, h.1 65 13 = Int32.ofInt b ∧ h.1 65 15 = so ∧ b0 ≤ b ∧ b ≤ 2400 ∧ (so = if b = b0 then so0 else nI (t + 1)) ∧ (∀ k S, k < 2 ^ KB d s → S < 64 → (lb (h.2 66 k) S = true ↔ A k S)) ∧ (∀ k S, A k S → (k < 2 ^ KB d s ∧ S < 64) ∧ wk d s k ≤ b) ∧ (b = 0 ∨ ∃ k S, A k S ∧ wk d s k = b) ∧ (h.1 65 14 = 0 → ∀ k S, A k S → R0 k S)
theorem PX.cong {d : HD} {s : SD} {t : Nat} {b0 : Int} {so0 : Int32} {R0 A B : Nat → Nat → Prop} {h : HI} (P : PX d s t b0 so0 R0 A h) (e : ∀ k S, A k S ↔ B k S) : PX d s t b0 so0 R0 B h := by
  have e2 : A = B := funext fun k => funext fun S => propext (e k S)
  rw [← e2]; exact P
theorem PX.at {d : HD} {s : SD} {t : Nat} {b0 : Int} {so0 : Int32} {R0 A : Nat → Nat → Prop} {h : HI} (P : PX d s t b0 so0 R0 A h) {k S : Nat} (hk : k < 2 ^ KB d s) (hS : S < 64) : lb (h.2 66 k) S = true ↔ A k S := by
  obtain ⟨b, so, p1, p2, p3, p4, p5, p6, p7, p8⟩ := P
  exact p6 k S hk hS
theorem lb_m1 : ∀ S, S < 64 → lb (-1) S = true := by decide +kernel
theorem no_new {r v : Int64} (h : v &&& (r ^^^ (-1 : Int64)) = 0) {S : Nat} (hS : S < 64) (hv : lb v S = true) : lb r S = true := by
  have e : lb (v &&& (r ^^^ (-1 : Int64))) S = false := by rw [h, lb_0]
  rw [lb_and, lb_xor, lb_m1 S hS, hv] at e
  cases q : lb r S with
  | true => rfl
  | false => rw [q] at e; exact absurd e (by decide)
theorem c_padd {h : HI} {k2 : Nat} {v : Int64} (hk : k2 < 4096) : fX3_add 65 h (nI k2) v = if v &&& (h.2 66 k2 ^^^ (-1 : Int64)) = 0 then some h else some (uI (uL h 66 k2 (h.2 66 k2 ||| v)) 65 14 1) := by
  unfold fX3_add
  simp (disch := omega) only [gB, nI_clamp, Nat.reduceAdd]
  by_cases c : v &&& (h.2 66 k2 ^^^ (-1 : Int64)) = 0
  · rw [if_pos c, if_pos ((cmp0 _).mpr c)]
  · rw [if_neg c, if_neg (fun e => c ((cmp0 _).mp e))]
theorem PX.put {d : HD} {s : SD} {t : Nat} {b0 : Int} {so0 : Int32} {R0 A B : Nat → Nat → Prop} {h : HI} {k2 : Nat} {v : Int64} (P : PX d s t b0 so0 R0 A h) (hk : k2 < 2 ^ KB d s) (h4 : 2 ^ KB d s ≤ 4096) (hAB : ∀ k S, A k S → B k S) (hk1 : ∀ k S, k ≠ k2 → B k S → A k S) (hk2 : ∀ S, S < 64 → (lb (h.2 66 k2 ||| v) S = true ↔ B k2 S)) (hS : ∀ S, B k2 S → S < 64 ∧ ∃ k1 S1, A k1 S1 ∧ wk d s k2 ≤ wk d s k1) : ∃ g, fX3_add 65 h (nI k2) v = some g ∧ Fr Wre h g ∧ PX d s t b0 so0 R0 B g := by
  by_cases c : v &&& (h.2 66 k2 ^^^ (-1 : Int64)) = 0
  · refine ⟨h, by rw [c_padd (by omega), if_pos c], Fr.rf, P.cong fun k S => ⟨hAB k S, fun b => ?_⟩⟩
    by_cases e : k = k2
    · rw [e] at b ⊢
      have hS6 := (hS S b).1
      refine (P.at hk hS6).mp ?_
      have q := (hk2 S hS6).mpr b
      rw [lb_or, Bool.or_eq_true] at q
      exact q.elim id (no_new c hS6)
    · exact hk1 k S e b
  · refine ⟨uI (uL h 66 k2 (h.2 66 k2 ||| v)) 65 14 1, by rw [c_padd (by omega), if_neg c], (Fr.uL (by unfold Wre; omega)).tr (Fr.uI (by unfold Wre; omega)), ?_⟩
    obtain ⟨b, so, p1, p2, p3, p4, p5, p6, p7, p8, p9⟩ := P
    refine ⟨b, so, by rw [uI_n (by omega)]; exact p1, by rw [uI_n (by omega)]; exact p2, p3, p4, p5, fun k S hk3 hS3 => ?_, fun k S hb => ?_, p8.imp id fun ⟨k, S, a, e⟩ => ⟨k, S, hAB k S a, e⟩, fun e => ?_⟩
    · show lb ((uL h 66 k2 (h.2 66 k2 ||| v)).2 66 k) S = true ↔ B k S
      by_cases e : k = k2
      · rw [e, uL_s]; exact hk2 S hS3
      · rw [uL_n (by omega), p6 k S hk3 hS3]
        exact ⟨hAB k S, hk1 k S e⟩
    · by_cases e : k = k2
      · rw [e] at hb ⊢
        obtain ⟨q1, k1, S1, q2, q3⟩ := hS S hb
        exact ⟨⟨hk, q1⟩, Int.le_trans q3 (p7 k1 S1 q2).2⟩
      · exact p7 k S (hk1 k S e hb)
    · rw [uI_s] at e; exact absurd e (by decide)
theorem lb_WO : ∀ m, m < 6 → ∀ S, S < 64 → lb (WO.getD m 0) S = !S.testBit m := by decide +kernel
theorem wkN_cong {d : HD} {s : SD} {k k2 : Nat} : ∀ n, (∀ y, y < n → gl d s y = true → k.testBit (pb d s y) = k2.testBit (pb d s y)) → wkN d s k n = wkN d s k2 n
  | 0, _ => rfl
  | n + 1, h => by
    rw [wkN, wkN, wkN_cong n (fun y hy => h y (by omega))]
    cases q : gl d s n with
    | false => rfl
    | true => rw [h n (by omega) q]
theorem wk_sp {d : HD} {s : SD} {k m x : Nat} (hx : x < d.X) : wk d s (spB d s k m x) = wk d s k := wkN_cong d.X fun _ hy _ => spB_pb hx hy
theorem c_speak {hh : Nat} {d : HD} {s : SD} {H K t k x : Nat} {b0 : Int} {so0 : Int32} {R0 A : Nat → Nat → Prop} {h : HI} {v : Int64} (w : HDw d) (Q : PT hh d s H K h) (P : PX d s t b0 so0 R0 A h) (hk : k < 2 ^ KB d s) (hx : x < d.X) (hv : ∀ S, S < 64 → lb v S = true → A k S) : ∃ g, fX3_speakStep 65 h (nI k) v (nI x) = some g ∧ Fr Wre h g ∧ PX d s t b0 so0 R0 (fun k2 S => A k2 S ∨ S < 64 ∧ lb v S = true ∧ ¬ (gl d s x = true ∧ k.testBit (pb d s x) = true) ∧ ∃ m, m < 6 ∧ H.testBit m = true ∧ S.testBit m = false ∧ k2 = spB d s k m x) g := by
  have hX := w.X4
  have hKB := KB_le (s := s) w
  have hl := lC_le (s := s) w
  have h4k : 2 ^ KB d s ≤ 4096 := Nat.pow_le_pow_right (n := 2) (j := 12) (by decide) hKB
  have e70 := Q.2.2.2.1.2.2.1 x hx
  have lp : ∃ g, fX3_speakStep_48 65 (fun h2 => some h2) FU h (nI k) v (nI x) (nI (if gl d s x = true then k ||| 2 ^ sb d s x else k)) 0 = some g ∧ Fr Wre h g ∧ PX d s t b0 so0 R0 (fun k2 S => A k2 S ∨ S < 64 ∧ lb v S = true ∧ ∃ m, m < 6 ∧ H.testBit m = true ∧ S.testBit m = false ∧ k2 = spB d s k m x) g := by
    obtain ⟨F, ⟨g, i⟩, ⟨i1, i2, i3⟩, hL⟩ := lpi (fun n (p : HI × Int32) => fX3_speakStep_48 65 (fun h2 => some h2) n p.1 (nI k) v (nI x) (nI (if gl d s x = true then k ||| 2 ^ sb d s x else k)) p.2) (fun j p => p.2 = nI j ∧ Fr Wre h p.1 ∧ PX d s t b0 so0 R0 (fun k2 S => A k2 S ∨ S < 64 ∧ lb v S = true ∧ ∃ m, m < j ∧ H.testBit m = true ∧ S.testBit m = false ∧ k2 = spB d s k m x) p.1) 6 (by omega) (by
      rintro j ⟨g, i⟩ hj ⟨i1, i2, i3⟩
      simp only at i1 i2 i3
      subst i1
      have Q2 := Q.keep i2
      have hlt := spB_lt (m := j) hx hk
      have e72 : g.1 72 (j * 4 + x) = nI (lbN d s j x d.D) := by rw [Nat.mul_comm]; exact Q2.2.2.2.2.1.2.2 j x hj (by omega)
      have stp : ∀ n, fX3_speakStep_48 65 (fun h2 => some h2) (n + 1) g (nI k) v (nI x) (nI (if gl d s x = true then k ||| 2 ^ sb d s x else k)) (nI j) = if spB d s k j x = k then fX3_speakStep_48 65 (fun h2 => some h2) n g (nI k) v (nI x) (nI (if gl d s x = true then k ||| 2 ^ sb d s x else k)) (nI (j + 1)) else if H.testBit j = false then fX3_speakStep_48 65 (fun h2 => some h2) n g (nI k) v (nI x) (nI (if gl d s x = true then k ||| 2 ^ sb d s x else k)) (nI (j + 1)) else ((fX3_add 65 g (nI (spB d s k j x)) (v &&& WO.getD j 0)).bind fun h1 => fX3_speakStep_48 65 (fun h2 => some h2) n h1 (nI k) v (nI x) (nI (if gl d s x = true then k ||| 2 ^ sb d s x else k)) (nI (j + 1))) := by
        intro n
        have eo : nI (if gl d s x = true then k ||| 2 ^ sb d s x else k) ||| nI (lbN d s j x d.D) = nI (spB d s k j x) := by rw [or_n]; rfl
        rw [fX3_speakStep_48, if_neg (show ¬ (6 : Int32) ≤ nI j from nI_ge (b := 6) hj (by decide)), show (4 : Int32) = nI 4 from rfl, nI_mu, nI_add]
        unfold fX3_speakStep_104
        simp (disch := omega) only [gB, nI_clamp, Nat.reduceAdd, e72, eo, nI_1]
        rw [Q2.2.1, bit_n (by omega)]
        by_cases q : spB d s k j x = k
        · rw [if_pos q, if_pos (congrArg nI q)]
        · rw [if_neg q, if_neg (fun e => q ((nI_eq (by omega) (by omega)).mp e))]
          cases q2 : H.testBit j with
          | false => rw [if_pos rfl, if_pos b01f]
          | true => rw [if_neg b01t, if_neg (show ¬ (true = false) by decide)]
      by_cases q : spB d s k j x = k
      · refine ⟨(g, nI (j + 1)), ⟨rfl, i2, i3.cong fun k2 S => ?_⟩, fun n => (stp n).trans (if_pos q)⟩
        constructor
        · rintro (a | ⟨a1, a2, m, a3, a4⟩)
          · exact Or.inl a
          · exact Or.inr ⟨a1, a2, m, by omega, a4⟩
        · rintro (a | ⟨a1, a2, m, a3, a4, a5, a6⟩)
          · exact Or.inl a
          · rcases (show m < j ∨ m = j by omega) with e | e
            · exact Or.inr ⟨a1, a2, m, e, a4, a5, a6⟩
            · rw [e, q] at a6
              rw [a6]; exact Or.inl (hv S a1 a2)
      · cases q2 : H.testBit j with
        | false =>
          refine ⟨(g, nI (j + 1)), ⟨rfl, i2, i3.cong fun k2 S => ?_⟩, fun n => (stp n).trans (by rw [if_neg q, if_pos q2])⟩
          constructor
          · rintro (a | ⟨a1, a2, m, a3, a4⟩)
            · exact Or.inl a
            · exact Or.inr ⟨a1, a2, m, by omega, a4⟩
          · rintro (a | ⟨a1, a2, m, a3, a4, a5, a6⟩)
            · exact Or.inl a
            · rcases (show m < j ∨ m = j by omega) with e | e
              · exact Or.inr ⟨a1, a2, m, e, a4, a5, a6⟩
              · rw [e, q2] at a4; cases a4
        | true =>
          suffices X2 : ∃ g2, fX3_add 65 g (nI (spB d s k j x)) (v &&& WO.getD j 0) = some g2 ∧ Fr Wre g g2 ∧ PX d s t b0 so0 R0 (fun k2 S => A k2 S ∨ S < 64 ∧ lb v S = true ∧ ∃ m, m < j + 1 ∧ H.testBit m = true ∧ S.testBit m = false ∧ k2 = spB d s k m x) g2 by
            obtain ⟨g2, e2, f2, x2⟩ := X2
            exact ⟨(g2, nI (j + 1)), ⟨rfl, i2.tr f2, x2⟩, fun n => (stp n).trans (by rw [if_neg q, if_neg (by rw [q2]; decide), e2, Option.bind_some])⟩
          refine i3.put hlt h4k (fun k2 S a => ?_) (fun k2 S hne a => ?_) (fun S hS => ?_) (fun S a => ?_)
          · rcases a with a | ⟨a1, a2, m, a3, a4⟩
            · exact Or.inl a
            · exact Or.inr ⟨a1, a2, m, by omega, a4⟩
          · rcases a with a | ⟨a1, a2, m, a3, a4, a5, a6⟩
            · exact Or.inl a
            · rcases (show m < j ∨ m = j by omega) with e | e
              · exact Or.inr ⟨a1, a2, m, e, a4, a5, a6⟩
              · rw [e] at a6; exact absurd a6 hne
          · rw [lb_or, lb_and, lb_WO j hj S hS, Bool.or_eq_true, i3.at hlt hS, Bool.and_eq_true, Bool.not_eq_true']
            constructor
            · rintro ((a | ⟨a1, a2, m, a3, a4⟩) | ⟨a1, a2⟩)
              · exact Or.inl a
              · exact Or.inr ⟨a1, a2, m, by omega, a4⟩
              · exact Or.inr ⟨hS, a1, j, by omega, q2, a2, rfl⟩
            · rintro (a | ⟨a1, a2, m, a3, a4, a5, a6⟩)
              · exact Or.inl (Or.inl a)
              · rcases (show m < j ∨ m = j by omega) with e | e
                · exact Or.inl (Or.inr ⟨a1, a2, m, e, a4, a5, a6⟩)
                · rw [e] at a5; exact Or.inr ⟨a2, a5⟩
          · rcases a with a | ⟨a1, a2, a3⟩
            · have hS : S < 64 := by
                obtain ⟨b, so, p1, p2, p3, p4, p5, p6, p7, p8⟩ := P
                exact (p7 _ _ a).1.2
              exact ⟨hS, _, S, Or.inl a, Int.le_refl _⟩
            · exact ⟨a1, k, S, Or.inl (hv S a1 a2), by rw [wk_sp hx]; exact Int.le_refl _⟩) (s0 := (h, 0)) ⟨rfl, Fr.rf, P.cong fun k2 S => ⟨fun a => Or.inl a, fun a => by
              rcases a with a | ⟨_, _, m, a3, _⟩
              · exact a
              · exact absurd a3 (Nat.not_lt_zero m)⟩⟩
    simp only at i1 i2 i3 hL
    subst i1
    exact ⟨g, by rw [hL, fX3_speakStep_48, if_pos (show (6 : Int32) ≤ nI 6 by decide)], i2, i3⟩
  obtain ⟨g, e1, f1, x1⟩ := lp
  have e10 : h.1 65 10 = nI (lC d s) := Q.2.2.2.2.1.1
  have e9 : h.1 65 9 = nI (gC d s) := Q.2.2.2.1.1
  unfold fX3_speakStep fX3_speakStep_26 fX3_speakStep_43
  simp (disch := omega) only [gB, nI_clamp, Nat.reduceAdd, e70]
  cases q : gl d s x with
  | false =>
    rw [q, if_neg (by decide)] at e1
    rw [if_neg (show ¬ (false = true) by decide), if_pos m1lt, if_pos m1lt]
    refine ⟨g, e1, f1, x1.cong fun k2 S => ?_⟩
    constructor
    · rintro (a | ⟨a1, a2, a3⟩)
      · exact Or.inl a
      · exact Or.inr ⟨a1, a2, (fun e => by cases e.1), a3⟩
    · rintro (a | ⟨a1, a2, _, a3⟩)
      · exact Or.inl a
      · exact Or.inr ⟨a1, a2, a3⟩
  | true =>
    have hgi := gi_lt hx q
    have epb : pb d s x = lC d s + gC d s + ct (gl d s) x := rfl
    have esb : sb d s x = lC d s + ct (gl d s) x := rfl
    rw [q, if_pos rfl] at e1
    rw [if_pos rfl, if_neg (nI_pos (by omega))]
    unfold fX3_passedBit fX3_spokenBit
    rw [Option.bind_some, if_neg (nI_pos (by omega)), Option.bind_some, e10, e9]
    simp only [nI_add]
    rw [← epb, ← esb, one_shl (by omega), one_shl (by omega), or_n]
    cases q2 : k.testBit (pb d s x) with
    | false =>
      rw [if_pos ((and_pow (by omega)).mpr q2)]
      refine ⟨g, e1, f1, x1.cong fun k2 S => ?_⟩
      constructor
      · rintro (a | ⟨a1, a2, a3⟩)
        · exact Or.inl a
        · exact Or.inr ⟨a1, a2, (fun e => by cases e.2), a3⟩
      · rintro (a | ⟨a1, a2, _, a3⟩)
        · exact Or.inl a
        · exact Or.inr ⟨a1, a2, a3⟩
    | true =>
      rw [if_neg (fun e => by have := (and_pow (by omega)).mp e; rw [q2] at this; cases this)]
      refine ⟨h, rfl, Fr.rf, P.cong fun k2 S => ⟨fun a => Or.inl a, fun a => ?_⟩⟩
      rcases a with a | ⟨_, _, a3, _⟩
      · exact a
      · exact absurd ⟨trivial, rfl⟩ a3
/-! a vote -/
theorem pz_mod {d : HD} {s : SD} {H k S x : Nat} : pz d s H (k % 2 ^ lC d s) S x = pz d s H k S x := by
  have hb : ∀ m, bnd d (fun i => lnk d s i && (k % 2 ^ lC d s).testBit (ct (lnk d s) i)) x m = bnd d (fun i => lnk d s i && k.testBit (ct (lnk d s) i)) x m := fun m => by
    unfold bnd
    refine anyB_cong fun i hi => ?_
    show (decide (d.dm i = m) && (decide (d.dx i = x) && (lnk d s i && (k % 2 ^ lC d s).testBit (ct (lnk d s) i)))) = (decide (d.dm i = m) && (decide (d.dx i = x) && (lnk d s i && k.testBit (ct (lnk d s) i))))
    cases q : lnk d s i with
    | false => rfl
    | true =>
      rw [Nat.testBit_mod_two_pow, decide_eq_true (li_lt hi q), Bool.true_and]
  unfold pz
  rw [bs_cong (n := d.M) (P := yesP d (fun i => S.testBit i) (fun i => lnk d s i && (k % 2 ^ lC d s).testBit (ct (lnk d s) i)) x) (Q := yesP d (fun i => S.testBit i) (fun i => lnk d s i && k.testBit (ct (lnk d s) i)) x) (fun m _ => by unfold yesP; rw [hb m]), bs_cong (n := d.M) (P := noP d (fun i => S.testBit i) (fun i => lnk d s i && (k % 2 ^ lC d s).testBit (ct (lnk d s) i)) x) (Q := noP d (fun i => S.testBit i) (fun i => lnk d s i && k.testBit (ct (lnk d s) i)) x) (fun m _ => by unfold noP; rw [hb m])]
theorem wk_le24 {d : HD} {s : SD} (w : HDw d) (k : Nat) : 0 ≤ wk d s k ∧ wk d s k ≤ 2400 := by
  have h1 := wk_hp (d := d) (s := s) k d.X
  have h2 := hp_b w s
  unfold wk
  omega
/-- sets come at a key by a vote: the best may change -/
theorem PX.vt {hh : Nat} {d : HD} {s : SD} {t : Nat} {b0 : Int} {so0 : Int32} {R0 A : Nat → Nat → Prop} {h : HI} {k2 : Nat} {v : Int64} (w : HDw d) (hb0 : 0 ≤ b0) (ht : t ≤ 40) (P : PX d s t b0 so0 R0 A h) (hk : k2 < 2 ^ KB d s) (h4 : 2 ^ KB d s ≤ 4096) (hne : ∃ S, S < 64 ∧ lb v S = true) : ∃ g1 g, fX3_add 65 h (nI k2) v = some g1 ∧ Fr Wre h g1 ∧ (if Int32.ofInt (wk d s k2) ≤ g1.1 65 13 then some g1 else some (uI (uI g1 65 13 (Int32.ofInt (wk d s k2))) 65 15 (nI t + 1))) = some g ∧ Fr Wre h g ∧ PX d s t b0 so0 R0 (fun k S => A k S ∨ S < 64 ∧ lb v S = true ∧ k = k2) g := by
  have hwk := wk_le24 (s := s) w k2
  obtain ⟨S0, hS0, hv0⟩ := hne
  by_cases cc : v &&& (h.2 66 k2 ^^^ (-1 : Int64)) = 0
  · have hin : ∀ S, S < 64 → lb v S = true → A k2 S := fun S hS hv => (P.at hk hS).mp (no_new cc hS hv)
    have Pc : PX d s t b0 so0 R0 (fun k S => A k S ∨ S < 64 ∧ lb v S = true ∧ k = k2) h := P.cong fun k S => ⟨fun a => Or.inl a, fun a => by
      rcases a with a | ⟨a1, a2, a3⟩
      · exact a
      · rw [a3]; exact hin S a1 a2⟩
    refine ⟨h, h, by rw [c_padd (by omega), if_pos cc], Fr.rf, ?_, Fr.rf, Pc⟩
    obtain ⟨b, so, p1, p2, p3, p4, p5, p6, p7, p8⟩ := P
    rw [p1, if_pos ((ofI_le2 (a := wk d s k2) (b := b) (by omega) (by omega) (by omega) (by omega)).mpr (p7 k2 S0 (hin S0 hS0 hv0)).2)]
  · obtain ⟨b, so, p1, p2, p3, p4, p5, p6, p7, p8, p9⟩ := P
    have r1 : ∀ k S, k < 2 ^ KB d s → S < 64 → (lb ((uI (uL h 66 k2 (h.2 66 k2 ||| v)) 65 14 1).2 66 k) S = true ↔ A k S ∨ S < 64 ∧ lb v S = true ∧ k = k2) := fun k S hk3 hS3 => by
      show lb ((uL h 66 k2 (h.2 66 k2 ||| v)).2 66 k) S = true ↔ _
      by_cases e : k = k2
      · rw [e, uL_s, lb_or, Bool.or_eq_true, p6 k2 S hk hS3]
        exact ⟨fun a => a.imp id fun a => ⟨hS3, a, rfl⟩, fun a => a.imp id fun a => a.2.1⟩
      · rw [uL_n (by omega), p6 k S hk3 hS3]
        exact ⟨fun a => Or.inl a, fun a => by
          rcases a with a | a
          · exact a
          · exact absurd a.2.2 e⟩
    have e13 : (uI (uL h 66 k2 (h.2 66 k2 ||| v)) 65 14 1).1 65 13 = Int32.ofInt b := by rw [uI_n (by omega)]; exact p1
    have e15 : (uI (uL h 66 k2 (h.2 66 k2 ||| v)) 65 14 1).1 65 15 = so := by rw [uI_n (by omega)]; exact p2
    have e14 : (uI (uL h 66 k2 (h.2 66 k2 ||| v)) 65 14 1).1 65 14 = 1 := uI_s _ _ _ _
    have Fg : Fr Wre h (uI (uL h 66 k2 (h.2 66 k2 ||| v)) 65 14 1) := (Fr.uL (by unfold Wre; omega)).tr (Fr.uI (by unfold Wre; omega))
    have eg : fX3_add 65 h (nI k2) v = some (uI (uL h 66 k2 (h.2 66 k2 ||| v)) 65 14 1) := by rw [c_padd (by omega), if_neg cc]
    generalize uI (uL h 66 k2 (h.2 66 k2 ||| v)) 65 14 1 = g1 at r1 e13 e15 e14 Fg eg
    have hle := ofI_le2 (a := wk d s k2) (b := b) (by omega) (by omega) (by omega) (by omega)
    by_cases c : wk d s k2 ≤ b
    · refine ⟨g1, g1, eg, Fg, by rw [e13, if_pos (hle.mpr c)], Fg, b, so, e13, e15, p3, p4, p5, r1, fun k S a => ?_, p8.imp id fun ⟨k, S, a, e⟩ => ⟨k, S, Or.inl a, e⟩, fun e => by rw [e14] at e; exact absurd e (by decide)⟩
      rcases a with a | ⟨a1, a2, a3⟩
      · exact p7 k S a
      · rw [a3]; exact ⟨⟨hk, a1⟩, c⟩
    · refine ⟨g1, uI (uI g1 65 13 (Int32.ofInt (wk d s k2))) 65 15 (nI t + 1), eg, Fg, by rw [e13, if_neg (fun e => c (hle.mp e))], (Fg.tr (Fr.uI (by unfold Wre; omega))).tr (Fr.uI (by unfold Wre; omega)), wk d s k2, nI (t + 1), ?_, ?_, by omega, by omega, by rw [if_neg (by omega)], r1, fun k S a => ?_, Or.inr ⟨k2, S0, Or.inr ⟨hS0, hv0, rfl⟩, rfl⟩, fun e => ?_⟩
      · rw [uI_n (by omega), uI_s]
      · rw [uI_s, nI_1]
      · rcases a with a | ⟨a1, a2, a3⟩
        · exact ⟨(p7 k S a).1, by have := (p7 k S a).2; omega⟩
        · rw [a3]; exact ⟨⟨hk, a1⟩, Int.le_refl _⟩
      · rw [uI_n (by omega), uI_n (by omega), e14] at e; exact absurd e (by decide)
theorem lb_ne {v : Int64} (h : ¬ v = 0) : ∃ S, S < 64 ∧ lb v S = true := by
  apply Classical.byContradiction
  intro hn
  apply h
  apply lb_ext
  intro T hT
  rw [lb_0]
  cases q : lb v T with
  | false => rfl
  | true => exact absurd ⟨T, hT, q⟩ hn
theorem c_vote {hh : Nat} {d : HD} {s : SD} {H K t k x : Nat} {b0 : Int} {so0 : Int32} {R0 A : Nat → Nat → Prop} {h : HI} {v : Int64} (w : HDw d) (hb0 : 0 ≤ b0) (ht : t ≤ 40) (Q : PT hh d s H K h) (P : PX d s t b0 so0 R0 A h) (hk : k < 2 ^ KB d s) (hx : x < d.X) (hv : ∀ S, S < 64 → lb v S = true → ftb H K S = true) : ∃ g, fX3_voteStep 65 hh h (nI k) v (nI x) (nI t) = some g ∧ Fr Wre h g ∧ PX d s t b0 so0 R0 (fun k2 S => A k2 S ∨ S < 64 ∧ lb v S = true ∧ gl d s x = true ∧ k.testBit (sb d s x) = true ∧ k.testBit (pb d s x) = false ∧ pz d s H k S x = true ∧ k2 = k ||| 2 ^ pb d s x) g := by
  have hX := w.X4
  have hKB := KB_le (s := s) w
  have hl := lC_le (s := s) w
  have h16 := pw_le hl.1
  have h4k : 2 ^ KB d s ≤ 4096 := Nat.pow_le_pow_right (n := 2) (j := 12) (by decide) hKB
  have e70 := Q.2.2.2.1.2.2.1 x hx
  have e10 : h.1 65 10 = nI (lC d s) := Q.2.2.2.2.1.1
  have e9 : h.1 65 9 = nI (gC d s) := Q.2.2.2.1.1
  have no : (∀ S, S < 64 → ¬ (lb v S = true ∧ gl d s x = true ∧ k.testBit (sb d s x) = true ∧ k.testBit (pb d s x) = false ∧ pz d s H k S x = true)) → ∃ g, (some h : Option HI) = some g ∧ Fr Wre h g ∧ PX d s t b0 so0 R0 (fun k2 S => A k2 S ∨ S < 64 ∧ lb v S = true ∧ gl d s x = true ∧ k.testBit (sb d s x) = true ∧ k.testBit (pb d s x) = false ∧ pz d s H k S x = true ∧ k2 = k ||| 2 ^ pb d s x) g := by
    intro hn
    refine ⟨h, rfl, Fr.rf, P.cong fun k2 S => ⟨fun a => Or.inl a, fun a => ?_⟩⟩
    rcases a with a | ⟨a1, a2, a3, a4, a5, a6, _⟩
    · exact a
    · exact absurd ⟨a2, a3, a4, a5, a6⟩ (hn S a1)
  unfold fX3_voteStep
  rw [gB (by omega) (by omega), nI_clamp (by omega), show h.1 (65 + 5) x = (if gl d s x = true then nI (ct (gl d s) x) else -1) from e70]
  cases q : gl d s x with
  | false =>
    rw [if_neg (show ¬ (false = true) by decide), if_pos m1lt]
    rw [q] at no
    exact no fun S hS e => by cases e.2.1
  | true =>
    have hgi := gi_lt hx q
    have epb : pb d s x = lC d s + gC d s + ct (gl d s) x := rfl
    have esb : sb d s x = lC d s + ct (gl d s) x := rfl
    rw [q] at no
    rw [if_pos rfl, if_neg (nI_pos (by omega))]
    unfold fX3_passedBit fX3_spokenBit
    rw [e10, nI_add, one_shl (by omega), ← esb, Option.bind_some]
    cases q1 : k.testBit (sb d s x) with
    | false =>
      rw [q1] at no
      rw [if_pos ((and_pow (by omega)).mpr q1)]
      exact no fun S hS e => by cases e.2.2.1
    | true =>
      rw [if_neg (fun e => by have := (and_pow (by omega)).mp e; rw [q1] at this; cases this), Option.bind_some, e10, e9, nI_add, nI_add, one_shl (by omega), ← epb]
      cases q2 : k.testBit (pb d s x) with
      | true =>
        rw [q1, q2] at no
        rw [if_neg (fun e => by have := (and_pow (by omega)).mp e; rw [q2] at this; cases this)]
        exact no fun S hS e => by cases e.2.2.2.1
      | false =>
        rw [q1, q2] at no
        have hm : k % 2 ^ lC d s < 2 ^ lC d s := Nat.mod_lt _ (Nat.pow_pos (by decide))
        have hto : k ||| 2 ^ pb d s x < 2 ^ KB d s := or_pow_lt hk (by unfold pb KB; omega)
        have ep := Q.2.2.2.2.2 x hx q hgi (k % 2 ^ lC d s) hm
        rw [if_pos ((and_pow (by omega)).mpr q2), one_shl (by omega), nI_m1 (Nat.pow_pos (by decide)), and_n, andmask, show (16 : Int32) = nI 16 from rfl, nI_mu, nI_add, gB (by omega) (by omega), nI_clamp (by omega)]
        show ∃ g, (if lg_cmp (v &&& h.2 67 (ct (gl d s) x * 16 + k % 2 ^ lC d s)) 0 = 0 then some h else _) = some g ∧ _
        have lbp : ∀ S, S < 64 → (lb (v &&& h.2 67 (ct (gl d s) x * 16 + k % 2 ^ lC d s)) S = true ↔ lb v S = true ∧ pz d s H k S x = true) := fun S hS => by
          rw [lb_and, Bool.and_eq_true, ep S hS, pz_mod, Bool.and_eq_true]
          exact ⟨fun a => ⟨a.1, a.2.2⟩, fun a => ⟨a.1, hv S hS a.1, a.2⟩⟩
        by_cases c : (v &&& h.2 67 (ct (gl d s) x * 16 + k % 2 ^ lC d s)) = 0
        · rw [if_pos ((cmp0 _).mpr c)]
          refine no fun S hS e => ?_
          have := (lbp S hS).mpr ⟨e.1, e.2.2.2.2⟩
          rw [c, lb_0] at this
          cases this
        · rw [if_neg (fun e => c ((cmp0 _).mp e)), Option.bind_some, or_n]
          obtain ⟨ga, g, g0, fa, g1, g2, g3⟩ := PX.vt (hh := hh) w hb0 ht P hto h4k (lb_ne c)
          have Q2 := Q.keep fa
          rw [g0, Option.bind_some, c_worth w Q2.1.H Q2.2.2.2.1 Q2.2.2.2.2.1.1, Option.bind_some]
          refine ⟨g, g1, g2, g3.cong fun k2 S => ?_⟩
          constructor
          · rintro (a | ⟨a1, a2, a3⟩)
            · exact Or.inl a
            · have := (lbp S a1).mp a2
              exact Or.inr ⟨a1, this.1, rfl, rfl, rfl, this.2, a3⟩
          · rintro (a | ⟨a1, a2, _, _, _, a6, a7⟩)
            · exact Or.inl a
            · exact Or.inr ⟨a1, (lbp S a1).mpr ⟨a2, a6⟩, a7⟩
/-! moves -/
theorem mv_1 : ∀ T, T < 64 → ∀ m, m < 6 → T.testBit m = true → 2 ^ m ≤ T ∧ T - 2 ^ m = T ^^^ 2 ^ m ∧ (T - 2 ^ m).testBit m = false ∧ (2 ^ m + T).testBit m = false := by decide +kernel
theorem mv_2 : ∀ T, T < 64 → ∀ m, m < 6 → T.testBit m = false → 2 ^ m + T = T ^^^ 2 ^ m ∧ 2 ^ m + T < 64 ∧ (2 ^ m + T).testBit m = true ∧ (T < 2 ^ m ∨ (T - 2 ^ m).testBit m = true) := by decide +kernel
theorem mv_3 : ∀ T, T < 64 → ∀ m, m < 6 → 2 ^ m < 64 ∧ T ^^^ 2 ^ m < 64 := by decide +kernel
theorem lb_hi (v : Int64) {T : Nat} (h : 64 ≤ T) : lb v T = false := BitVec.getLsbD_of_ge _ _ h
theorem mv_lb (v : Int64) {T m : Nat} (hT : T < 64) (hm : m < 6) : lb (((v &&& WO.getD m 0) <<< ((nI (2 ^ m)).toInt64 &&& 63)) ||| (((v ^^^ (v &&& WO.getD m 0)).toUInt64 >>> ((nI (2 ^ m)).toInt64.toUInt64 &&& Int64.toUInt64 63)).toInt64)) T = lb v (T ^^^ 2 ^ m) := by
  have t1 := mv_1 T hT m hm
  have t2 := mv_2 T hT m hm
  have t3 := (mv_3 T hT m hm).1
  rw [lb_or, lb_shl _ t3 hT, lb_shr _ t3, lb_and, lb_xor, lb_and, lb_WO m hm (T - 2 ^ m) (Nat.lt_of_le_of_lt (Nat.sub_le _ _) hT)]
  cases q : T.testBit m with
  | true =>
    obtain ⟨a1, a2, a3, a4⟩ := t1 q
    rw [a3, decide_eq_false (show ¬ T < 2 ^ m by omega), a2]
    rcases Nat.lt_or_ge (2 ^ m + T) 64 with c | c
    · rw [lb_WO m hm _ c, a4]
      cases lb v (T ^^^ 2 ^ m) <;> cases lb v (2 ^ m + T) <;> rfl
    · rw [lb_hi v c]
      cases lb v (T ^^^ 2 ^ m) <;> rfl
  | false =>
    obtain ⟨a1, a2, a3, a4⟩ := t2 q
    rw [lb_WO m hm _ a2, a3, a1]
    by_cases c : T < 2 ^ m
    · rw [decide_eq_true c]
      cases lb v (T ^^^ 2 ^ m) <;> rfl
    · rw [decide_eq_false c, a4.resolve_left c]
      cases lb v (T ^^^ 2 ^ m) <;> cases lb v (T - 2 ^ m) <;> rfl
theorem c_moved {hh : Nat} {h : HI} {H k t : Nat} {v : Int64} (eH : h.1 65 11 = nI H) : ∃ v5, (∀ kk, fX3_step_13 65 hh kk FU h (nI k) (nI t) v v 0 = kk h (nI k) (nI t) v v5) ∧ ∀ T, T < 64 → (lb v5 T = true ↔ lb v T = true ∨ ∃ m, m < 6 ∧ H.testBit m = true ∧ lb v (T ^^^ 2 ^ m) = true) := by
  obtain ⟨F, ⟨v5, i⟩, ⟨i1, i2⟩, hL⟩ := lpi (fun n (p : Int64 × Int32) => fun kk => fX3_step_13 65 hh kk n h (nI k) (nI t) v p.1 p.2) (fun j p => p.2 = nI j ∧ ∀ T, T < 64 → (lb p.1 T = true ↔ lb v T = true ∨ ∃ m, m < j ∧ H.testBit m = true ∧ lb v (T ^^^ 2 ^ m) = true)) 6 (by omega) (by
    rintro j ⟨v5, i⟩ hj ⟨i1, i2⟩
    simp only at i1 i2
    subst i1
    cases q : H.testBit j with
    | false =>
      refine ⟨(v5, nI (j + 1)), ⟨rfl, fun T hT => ?_⟩, fun n => funext fun kk => ?_⟩
      · show lb v5 T = true ↔ _
        rw [i2 T hT]
        constructor
        · rintro (a | ⟨m, a1, a2⟩)
          · exact Or.inl a
          · exact Or.inr ⟨m, by omega, a2⟩
        · rintro (a | ⟨m, a1, a2, a3⟩)
          · exact Or.inl a
          · rcases (show m < j ∨ m = j by omega) with e | e
            · exact Or.inr ⟨m, e, a2, a3⟩
            · rw [e, q] at a2; cases a2
      · show fX3_step_13 65 hh kk (n + 1) h (nI k) (nI t) v v5 (nI j) = _
        rw [fX3_step_13, if_neg (show ¬ (6 : Int32) ≤ nI j from nI_ge (b := 6) hj (by decide)), eH, bit_n (by omega), q, if_pos b01f]
        unfold fX3_step_64
        rw [nI_1]
    | true =>
      refine ⟨(v5 ||| (((v &&& WO.getD j 0) <<< ((nI (2 ^ j)).toInt64 &&& 63)) ||| (((v ^^^ (v &&& WO.getD j 0)).toUInt64 >>> ((nI (2 ^ j)).toInt64.toUInt64 &&& Int64.toUInt64 63)).toInt64)), nI (j + 1)), ⟨rfl, fun T hT => ?_⟩, fun n => funext fun kk => ?_⟩
      · show lb (v5 ||| _) T = true ↔ _
        rw [lb_or, Bool.or_eq_true, i2 T hT, mv_lb v hT hj]
        constructor
        · rintro ((a | ⟨m, a1, a2⟩) | a)
          · exact Or.inl a
          · exact Or.inr ⟨m, by omega, a2⟩
          · exact Or.inr ⟨j, by omega, q, a⟩
        · rintro (a | ⟨m, a1, a2, a3⟩)
          · exact Or.inl (Or.inl a)
          · rcases (show m < j ∨ m = j by omega) with e | e
            · exact Or.inl (Or.inr ⟨m, e, a2, a3⟩)
            · rw [e] at a3; exact Or.inr a3
      · show fX3_step_13 65 hh kk (n + 1) h (nI k) (nI t) v v5 (nI j) = _
        rw [fX3_step_13, if_neg (show ¬ (6 : Int32) ≤ nI j from nI_ge (b := 6) hj (by decide)), eH, bit_n (by omega), q, if_neg b01t]
        unfold fX3_step_64
        simp (disch := omega) only [gB, nI_clamp, nI_1]
        rw [one_shl (by omega)]) (s0 := (v, 0)) ⟨rfl, fun T hT => ⟨fun a => Or.inl a, fun a => by
          rcases a with a | ⟨m, a1, _⟩
          · exact a
          · exact absurd a1 (Nat.not_lt_zero m)⟩⟩
  simp only at i1 i2 hL
  subst i1
  exact ⟨v5, fun kk => by rw [congrFun hL kk, fX3_step_13, if_pos (show (6 : Int32) ≤ nI 6 by decide)], i2⟩
theorem xor_two (S m : Nat) : (S ^^^ 2 ^ m) ^^^ 2 ^ m = S := by rw [Nat.xor_assoc, Nat.xor_self, Nat.xor_zero]
/-- all that comes out of a key in a minute -/
theorem c_step {hh : Nat} {d : HD} {s : SD} {H K t k : Nat} {b0 : Int} {so0 : Int32} {R0 A : Nat → Nat → Prop} {h : HI} (w : HDw d) (v : SDw d s) (hb0 : 0 ≤ b0) (ht : t ≤ 40) (Q : PT hh d s H K h) (P : PX d s t b0 so0 R0 A h) (hk : k < 2 ^ KB d s) (hA : ∀ S, A k S → ft H K S) : ∃ g, fX3_step 65 hh h (nI k) (nI t) = some g ∧ Fr Wre h g ∧ PX d s t b0 so0 R0 (fun k2 S => A k2 S ∨ ∃ S1, A k S1 ∧ Ks d s H K t k S1 k2 S) g := by
  have hX := w.X4
  have hKB := KB_le (s := s) w
  have h4k : 2 ^ KB d s ≤ 4096 := Nat.pow_le_pow_right (n := 2) (j := 12) (by decide) hKB
  obtain ⟨v5, e5, l5⟩ := c_moved (hh := hh) (k := k) (t := t) (v := h.2 66 k) Q.2.1
  have hs64 : ∀ S, A k S → S < 64 := fun S a => (hA S a).1
  have hR : ∀ S, S < 64 → (lb (h.2 66 k) S = true ↔ A k S) := fun S hS => P.at hk hS
  unfold fX3_step
  simp (disch := omega) only [gB, nI_clamp, Nat.reduceAdd]
  rw [e5]
  obtain ⟨h1, e6, F1, P1⟩ : ∃ h1, fX3_add 65 h (nI k) (v5 &&& h.2 65 12) = some h1 ∧ Fr Wre h h1 ∧ PX d s t b0 so0 R0 (fun k2 S => A k2 S ∨ ∃ S1, A k S1 ∧ mvK H K k S1 k2 S) h1 := by
    refine P.put hk h4k (fun k2 S a => Or.inl a) (fun k2 S hne a => ?_) (fun S hS => ?_) (fun S a => ?_)
    · rcases a with a | ⟨S1, a1, a2, _⟩
      · exact a
      · exact absurd a2 hne
    · rw [lb_or, lb_and, Bool.or_eq_true, Bool.and_eq_true, l5 S hS, Q.2.2.1 S hS, ftb_ft hS]
      constructor
      · rintro (a | ⟨a | ⟨m, a1, a2, a3⟩, a4⟩)
        · exact Or.inl ((hR S hS).mp a)
        · exact Or.inl ((hR S hS).mp a)
        · exact Or.inr ⟨S ^^^ 2 ^ m, (hR _ (mv_3 S hS m a1).2).mp a3, rfl, a4, m, a1, a2, (xor_two S m).symm⟩
      · rintro (a | ⟨S1, a1, _, a3, m, a4, a5, a6⟩)
        · exact Or.inl ((hR S hS).mpr a)
        · refine Or.inr ⟨Or.inr ⟨m, a4, a5, ?_⟩, a3⟩
          rw [a6, xor_two]
          exact (hR S1 (hs64 S1 a1)).mpr a1
    · rcases a with a | ⟨S1, a1, _, a3, _⟩
      · exact ⟨hs64 S a, k, S, a, Int.le_refl _⟩
      · exact ⟨a3.1, k, S1, a1, Int.le_refl _⟩
  rw [e6, Option.bind_some]
  generalize hvv : h.2 66 k = vv at hR
  obtain ⟨F, ⟨g, i⟩, ⟨i1, i2, i3⟩, hL⟩ := lpi (fun n (p : HI × Int32) => fX3_step_85 65 hh (fun h6 => some h6) n p.1 (nI k) (nI t) vv p.2) (fun j p => p.2 = nI j ∧ Fr Wre h p.1 ∧ PX d s t b0 so0 R0 (fun k2 S => (A k2 S ∨ ∃ S1, A k S1 ∧ mvK H K k S1 k2 S) ∨ ∃ S1, A k S1 ∧ ∃ x, x < j ∧ (spK d s H t x k S1 k2 S ∨ vtK d s H t x k S1 k2 S)) p.1) d.X (by omega) (by
    rintro j ⟨g, i⟩ hj ⟨i1, i2, i3⟩
    simp only at i1 i2 i3
    subst i1
    have Q2 := Q.keep i2
    have e73 := Q2.2.2.2.1.2.2.2 j hj
    have eX : g.1 (hh + 5) 1 = nI d.X := Q2.1.H.X
    have hmi := v.mi
    have hdi := w.di j hj
    have stp : ∀ n, fX3_step_85 65 hh (fun h6 => some h6) (n + 1) g (nI k) (nI t) vv (nI j) = if alv d s j = true ∧ s.mi + t < d.di j then ((fX3_speakStep 65 g (nI k) vv (nI j)).bind fun h3 => ((fX3_voteStep 65 hh h3 (nI k) vv (nI j) (nI t)).bind fun h4 => fX3_step_85 65 hh (fun h6 => some h6) n h4 (nI k) (nI t) vv (nI (j + 1)))) else fX3_step_85 65 hh (fun h6 => some h6) n g (nI k) (nI t) vv (nI (j + 1)) := by
      intro n
      rw [fX3_step_85, eX, if_neg (nI_ge hj (by omega))]
      unfold fX3_step_128
      simp (disch := omega) only [gB, nI_clamp, Nat.reduceAdd, e73, nI_1]
      cases q : alv d s j with
      | false => rw [if_neg (show ¬ (false = true) by decide), if_pos (nI_pos' (by omega)), if_neg (fun e => by cases e.1)]
      | true =>
        rw [if_pos rfl]
        by_cases q2 : s.mi + t < d.di j
        · rw [if_neg (fun e => by have := (sub_le (by omega) hmi (by omega)).mp e; omega), if_pos ⟨rfl, q2⟩]
        · rw [if_pos ((sub_le (by omega) hmi (by omega)).mpr (by omega)), if_neg (fun e => q2 e.2)]
    by_cases c : alv d s j = true ∧ s.mi + t < d.di j
    · obtain ⟨g1, e1, f1, x1⟩ := c_speak (v := vv) w Q2 i3 hk hj (fun S hS a => Or.inl (Or.inl ((hR S hS).mp a)))
      obtain ⟨g2, e2, f2, x2⟩ := c_vote (v := vv) w hb0 ht (Q2.keep f1) x1 hk hj (fun S hS a => (ftb_ft hS).mpr (hA S ((hR S hS).mp a)))
      refine ⟨(g2, nI (j + 1)), ⟨rfl, (i2.tr f1).tr f2, x2.cong fun k2 S => ?_⟩, fun n => (stp n).trans (by rw [if_pos c, e1, Option.bind_some, e2, Option.bind_some])⟩
      constructor
      · rintro (((a | ⟨S1, a1, x, a2, a3⟩) | ⟨a1, a2, a3, a4⟩) | ⟨a1, a2, a3⟩)
        · exact Or.inl a
        · exact Or.inr ⟨S1, a1, x, by omega, a3⟩
        · exact Or.inr ⟨S, (hR S a1).mp a2, j, by omega, Or.inl ⟨rfl, c, a3, a4⟩⟩
        · exact Or.inr ⟨S, (hR S a1).mp a2, j, by omega, Or.inr ⟨rfl, c, a3⟩⟩
      · rintro (a | ⟨S1, a1, x, a2, a3⟩)
        · exact Or.inl (Or.inl (Or.inl a))
        · rcases (show x < j ∨ x = j by omega) with e | e
          · exact Or.inl (Or.inl (Or.inr ⟨S1, a1, x, e, a3⟩))
          · rw [e] at a3
            rcases a3 with ⟨b1, b2, b3, b4⟩ | ⟨b1, b2, b3⟩
            · rw [b1]; exact Or.inl (Or.inr ⟨hs64 S1 a1, (hR S1 (hs64 S1 a1)).mpr a1, b3, b4⟩)
            · rw [b1]; exact Or.inr ⟨hs64 S1 a1, (hR S1 (hs64 S1 a1)).mpr a1, b3⟩
    · refine ⟨(g, nI (j + 1)), ⟨rfl, i2, i3.cong fun k2 S => ?_⟩, fun n => (stp n).trans (if_neg c)⟩
      constructor
      · rintro (a | ⟨S1, a1, x, a2, a3⟩)
        · exact Or.inl a
        · exact Or.inr ⟨S1, a1, x, by omega, a3⟩
      · rintro (a | ⟨S1, a1, x, a2, a3⟩)
        · exact Or.inl a
        · rcases (show x < j ∨ x = j by omega) with e | e
          · exact Or.inr ⟨S1, a1, x, e, a3⟩
          · rw [e] at a3
            rcases a3 with ⟨_, b2, _⟩ | ⟨_, b2, _⟩
            · exact absurd b2 c
            · exact absurd b2 c) (s0 := (h1, 0)) ⟨rfl, F1, P1.cong fun k2 S => ⟨fun a => Or.inl a, fun a => by
              rcases a with a | ⟨_, _, m, a3, _⟩
              · exact a
              · exact absurd a3 (Nat.not_lt_zero m)⟩⟩
  simp only at i1 i2 i3 hL
  subst i1
  have Q2 := Q.keep i2
  refine ⟨g, ?_, i2, i3.cong fun k2 S => ?_⟩
  · rw [hL, fX3_step_85, show g.1 (hh + 5) 1 = nI d.X from Q2.1.H.X, if_pos (nI_le (Nat.le_refl _) (by omega))]
  · constructor
    · rintro ((a | ⟨S1, a1, a2⟩) | ⟨S1, a1, a2⟩)
      · exact Or.inl a
      · exact Or.inr ⟨S1, a1, Or.inl a2⟩
      · exact Or.inr ⟨S1, a1, Or.inr a2⟩
    · rintro (a | ⟨S1, a1, a2 | a2⟩)
      · exact Or.inl (Or.inl a)
      · exact Or.inl (Or.inr ⟨S1, a1, a2⟩)
      · exact Or.inr ⟨S1, a1, a2⟩
