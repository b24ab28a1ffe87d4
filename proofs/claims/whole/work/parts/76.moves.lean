/-! plans: the moves of the reference -/
def seatA (d : HD) (H K z y : Nat) : Prop := ∃ m, m < d.M ∧ ((sit z).testBit m = true ∧ y = putT z (sit z ^^^ 2 ^ m) ∨ (sit z).testBit m = false ∧ H.testBit m = true ∧ pc6 (sit z) < K ∧ y = putT z (sit z ||| 2 ^ m))
def dbN (d : HD) (m x : Nat) : Nat := bs (fun i => decide (d.om i = m) && decide (d.ox i = x)) d.D
def spkZ (d : HD) (z m x : Nat) : Nat := putD (putS z x 1) (dbN d m x)
def passZ (d : HD) (H z x : Nat) : Bool := psP d.ru (nI (pc6 (bs (yesP d (fun i => (sit z).testBit i) (fun i => (dus z).testBit i) x) d.M))) (nI (pc6 (bs (noP d (fun i => (sit z).testBit i) (fun i => (dus z).testBit i) x) d.M))) (nI (pc6 (sit z))) (nI (pc6 H) - nI (pc6 (sit z)))
def vtZ (d : HD) (H z x : Nat) : Nat := putS z x (if passZ d H z x then 2 else 3)
def matA (d : HD) (H z x y : Nat) : Prop := (∃ m, m < d.M ∧ (H.testBit m = true ∧ (sit z).testBit m = false) ∧ y = spkZ d z m x) ∨ stt z x = 1 ∧ y = vtZ d H z x
theorem SX.ro {hh : Nat} {d : HD} {s : SD} {h0 g0 g : HI} {T H K q0 : Nat} {pl so0 : Int32} {V0 : Nat → Bool} {b0 : Int} {A : Nat → Prop} (S : SX hh d s h0 T H K pl g0 q0 V0 b0 so0 A g) : RO d g g s ∧ RU hh d g ∧ g.1 101 66 = nI H ∧ g.1 101 67 = nI K ∧ g.1 101 70 = pl := by
  obtain ⟨q, V, b, so, ⟨a1, a2, a3, a4, a5, a6, a7, a8, a9, a10, a11, a12, a13, a14, a15, a16⟩, _⟩ := S
  exact ⟨a1, a2, a11, a12, a15⟩
theorem bit_n {S i : Nat} (hi : i < 32) : ((nI S >>> (nI i &&& 31)) &&& 1) = b01 (S.testBit i) := by rw [shb _ hi, nI_bit _ hi]
theorem r_pseat {hh : Nat} {d : HD} {s : SD} {h0 g0 g : HI} {T H K q0 : Nat} {pl so0 : Int32} {V0 : Nat → Bool} {b0 : Int} {A : Nat → Prop} (hh36 : hh + 20 < 56) (w : HDw d) (v : SDv d s) (hT : T < 2 ^ 30) (hK : K < 100) (S : SX hh d s h0 T H K pl g0 q0 V0 b0 so0 A g) {z : Nat} (hz : z < 262144) : ∃ g2, fX9_planSeat 101 g (nI z) = some g2 ∧ SX hh d s h0 T H K pl g0 q0 V0 b0 so0 (fun y => A y ∨ seatA d H K z y) g2 := by
  have hM := w.M6
  unfold fX9_planSeat
  rw [i_sit]
  obtain ⟨F, ⟨g2, i⟩, ⟨hi, S2⟩, hL⟩ := lpi (fun n (p : HI × Int32) => fX9_planSeat_7 101 (fun h6 => some h6) n p.1 (nI z) (nI (sit z)) p.2) (fun j p => p.2 = nI j ∧ SX hh d s h0 T H K pl g0 q0 V0 b0 so0 (fun y => A y ∨ ∃ m, m < j ∧ ((sit z).testBit m = true ∧ y = putT z (sit z ^^^ 2 ^ m) ∨ (sit z).testBit m = false ∧ H.testBit m = true ∧ pc6 (sit z) < K ∧ y = putT z (sit z ||| 2 ^ m))) p.1) d.M (by omega) (by
    rintro j ⟨g2, i⟩ hj ⟨hi, S2⟩
    simp only at hi S2
    subst hi
    obtain ⟨R, U, eH, eK, _⟩ := S2.ro
    have hpw : 2 ^ j < 2 ^ 6 := Nat.pow_lt_pow_right (by decide) (by omega)
    have hs := sit_lt z
    have h6 := ct6_le (sit z)
    have e1 : ∀ n, fX9_planSeat_7 101 (fun h6 => some h6) (n + 1) g2 (nI z) (nI (sit z)) (nI j) = if b01 ((sit z).testBit j) = 1 then ((fX9_come 101 g2 (nI (putT z (sit z ^^^ 2 ^ j)))).bind fun h4 => fX9_planSeat_7 101 (fun h6 => some h6) n h4 (nI z) (nI (sit z)) (nI (j + 1))) else if b01 (H.testBit j) = 1 then (if nI K ≤ nI (pc6 (sit z)) then fX9_planSeat_7 101 (fun h6 => some h6) n g2 (nI z) (nI (sit z)) (nI (j + 1)) else ((fX9_come 101 g2 (nI (putT z (sit z ||| 2 ^ j)))).bind fun h3 => fX9_planSeat_7 101 (fun h6 => some h6) n h3 (nI z) (nI (sit z)) (nI (j + 1)))) else fX9_planSeat_7 101 (fun h6 => some h6) n g2 (nI z) (nI (sit z)) (nI (j + 1)) := by
      intro n
      rw [fX9_planSeat_7, r_men R.H, Option.bind_some, if_neg (nI_ge hj (by omega)), bit_n (by omega), eH, bit_n (by omega), f_ones6 _ (sit_lt z), Option.bind_some, eK, i_flip (by omega), i_add (by omega)]
      unfold fX9_planSeat_68
      rw [nI_1]
    cases q1 : (sit z).testBit j with
    | true =>
      obtain ⟨g3, e3, S3⟩ := r_come hh36 w v hT S2 (z := putT z (sit z ^^^ 2 ^ j)) ((put_lt hz).1 _ (Nat.xor_lt_two_pow (n := 6) hs hpw))
      refine ⟨(g3, nI (j + 1)), ⟨rfl, S3.cong fun y => ?_⟩, fun n => ?_⟩
      · constructor
        · rintro (h | ((h | ⟨m, h1, h2⟩) | h))
          · exact Or.inl h
          · exact Or.inr (Or.inl h)
          · exact Or.inr (Or.inr ⟨m, by omega, h2⟩)
          · exact Or.inr (Or.inr ⟨j, by omega, Or.inl ⟨q1, h⟩⟩)
        · rintro (h | (h | ⟨m, h1, h2⟩))
          · exact Or.inl h
          · exact Or.inr (Or.inl (Or.inl h))
          · rcases (show m < j ∨ m = j by omega) with e | e
            · exact Or.inr (Or.inl (Or.inr ⟨m, e, h2⟩))
            · subst e
              rcases h2 with h2 | h2
              · exact Or.inr (Or.inr h2.2)
              · rw [q1] at h2; exact absurd h2.1 (by decide)
      · show fX9_planSeat_7 101 _ (n + 1) g2 (nI z) (nI (sit z)) (nI j) = _
        rw [e1, q1, if_pos b01t1, e3, Option.bind_some]
    | false =>
      have skip : ¬ (H.testBit j = true ∧ pc6 (sit z) < K) → ∀ y, V0 y = true ∨ (A y ∨ ∃ m, m < j ∧ ((sit z).testBit m = true ∧ y = putT z (sit z ^^^ 2 ^ m) ∨ (sit z).testBit m = false ∧ H.testBit m = true ∧ pc6 (sit z) < K ∧ y = putT z (sit z ||| 2 ^ m))) ↔ V0 y = true ∨ (A y ∨ ∃ m, m < j + 1 ∧ ((sit z).testBit m = true ∧ y = putT z (sit z ^^^ 2 ^ m) ∨ (sit z).testBit m = false ∧ H.testBit m = true ∧ pc6 (sit z) < K ∧ y = putT z (sit z ||| 2 ^ m))) := by
        intro hn y
        constructor
        · rintro (h | (h | ⟨m, h1, h2⟩))
          · exact Or.inl h
          · exact Or.inr (Or.inl h)
          · exact Or.inr (Or.inr ⟨m, by omega, h2⟩)
        · rintro (h | (h | ⟨m, h1, h2⟩))
          · exact Or.inl h
          · exact Or.inr (Or.inl h)
          · rcases (show m < j ∨ m = j by omega) with e | e
            · exact Or.inr (Or.inr ⟨m, e, h2⟩)
            · subst e
              rcases h2 with h2 | h2
              · rw [q1] at h2; exact absurd h2.1 (by decide)
              · exact absurd ⟨h2.2.1, h2.2.2.1⟩ hn
      cases q2 : H.testBit j with
      | false =>
        refine ⟨(g2, nI (j + 1)), ⟨rfl, S2.cong (skip (by rw [q2]; simp))⟩, fun n => ?_⟩
        show fX9_planSeat_7 101 _ (n + 1) g2 (nI z) (nI (sit z)) (nI j) = _
        rw [e1, q1, if_neg (by decide), q2, if_neg (by decide)]
      | true =>
        by_cases q3 : pc6 (sit z) < K
        · obtain ⟨g3, e3, S3⟩ := r_come hh36 w v hT S2 (z := putT z (sit z ||| 2 ^ j)) ((put_lt hz).1 _ (Nat.or_lt_two_pow (n := 6) hs hpw))
          refine ⟨(g3, nI (j + 1)), ⟨rfl, S3.cong fun y => ?_⟩, fun n => ?_⟩
          · constructor
            · rintro (h | ((h | ⟨m, h1, h2⟩) | h))
              · exact Or.inl h
              · exact Or.inr (Or.inl h)
              · exact Or.inr (Or.inr ⟨m, by omega, h2⟩)
              · exact Or.inr (Or.inr ⟨j, by omega, Or.inr ⟨q1, q2, q3, h⟩⟩)
            · rintro (h | (h | ⟨m, h1, h2⟩))
              · exact Or.inl h
              · exact Or.inr (Or.inl (Or.inl h))
              · rcases (show m < j ∨ m = j by omega) with e | e
                · exact Or.inr (Or.inl (Or.inr ⟨m, e, h2⟩))
                · subst e
                  rcases h2 with h2 | h2
                  · rw [q1] at h2; exact absurd h2.1 (by decide)
                  · exact Or.inr (Or.inr h2.2.2.2)
          · show fX9_planSeat_7 101 _ (n + 1) g2 (nI z) (nI (sit z)) (nI j) = _
            rw [e1, q1, if_neg (by decide), q2, if_pos b01t1, if_neg (nI_ge q3 (by omega)), e3, Option.bind_some]
        · refine ⟨(g2, nI (j + 1)), ⟨rfl, S2.cong (skip (fun e => q3 e.2))⟩, fun n => ?_⟩
          show fX9_planSeat_7 101 _ (n + 1) g2 (nI z) (nI (sit z)) (nI j) = _
          rw [e1, q1, if_neg (by decide), q2, if_pos b01t1, if_pos (nI_le (by omega) (by omega))]) (s0 := (g, 0)) ⟨rfl, S.cong fun y => ⟨fun h => h.imp id Or.inl, fun h => by
      rcases h with h | h | ⟨m, h1, _⟩
      · exact Or.inl h
      · exact Or.inr h
      · exact absurd h1 (Nat.not_lt_zero m)⟩⟩
  simp only at hi S2 hL
  subst hi
  obtain ⟨R, _⟩ := S2.ro
  exact ⟨g2, by rw [hL, fX9_planSeat_7, r_men R.H, Option.bind_some, if_pos (nI_le (Nat.le_refl _) (by omega))], S2⟩
theorem r_dueBy {d : HD} {h : HI} (w : HDw d) (R : RH d h) {m x : Nat} (hm : m < d.M) (hx : x < d.X) : fX9_dueBy 101 h (nI m) (nI x) = some (nI (dbN d m x), h) := by
  have hD := w.D4
  have hM := w.M6
  have hX := w.X4
  unfold fX9_dueBy dbN
  obtain ⟨F, hL⟩ := lpd (fun n (p : Int32 × Int32) => fX9_dueBy_5 101 (fun h2 v3 => some (v3, h2)) n h (nI m) (nI x) p.1 p.2) (fun j => (nI (bs (fun i => decide (d.om i = m) && decide (d.ox i = x)) j), nI j)) d.D (by omega) (by
    intro j hj n
    show fX9_dueBy_5 101 _ (n + 1) h (nI m) (nI x) (nI (bs _ j)) (nI j) = fX9_dueBy_5 101 _ n h (nI m) (nI x) (nI (bs _ (j + 1))) (nI (j + 1))
    have hdl := w.dl j hj
    rw [fX9_dueBy_5, R.D, if_neg (nI_ge hj (by omega)), show (2 : Int32) = nI 2 from rfl, show (3 : Int32) = nI 3 from rfl, nI_m4, nI_m4]
    unfold fX9_dueBy_52 fX9_dueBy_53
    simp (disch := omega) only [gB, nI_clamp, Nat.reduceAdd, R.om, R.ox, nI_1]
    by_cases q1 : d.om j = m
    · rw [if_pos (congrArg nI q1)]
      by_cases q2 : d.ox j = x
      · rw [if_pos (congrArg nI q2), bs_put (by omega) (by rw [decide_eq_true q1, decide_eq_true q2]; rfl)]
      · rw [if_neg (fun e => q2 ((nI_eq (by omega) (by omega)).mp e)), bs_skip0 (by rw [decide_eq_false q2, Bool.and_false])]
    · rw [if_neg (fun e => q1 ((nI_eq (by omega) (by omega)).mp e)), bs_skip0 (by rw [decide_eq_false q1, Bool.false_and])])
  simp only at hL
  change fX9_dueBy_5 101 _ FU h (nI m) (nI x) 0 0 = _ at hL
  rw [hL, fX9_dueBy_5, R.D, if_pos (nI_le (Nat.le_refl _) (by omega))]
theorem dbN_lt {d : HD} (w : HDw d) (m x : Nat) : dbN d m x < 16 := Nat.lt_of_lt_of_le (bs_lt _ d.D) (Nat.pow_le_pow_right (n := 2) (j := 4) (by decide) w.D4)
theorem spkZ_lt {d : HD} (w : HDw d) {z m x : Nat} (hz : z < 262144) (hx : x < 4) : spkZ d z m x < 262144 := (put_lt ((put_lt hz).2.1 x 1 hx (by decide))).2.2 _ (dbN_lt w m x)
theorem vtZ_lt {d : HD} {H z x : Nat} (hz : z < 262144) (hx : x < 4) : vtZ d H z x < 262144 := (put_lt hz).2.1 x _ hx (by split <;> decide)
theorem up_bit {H S m : Nat} (hm : m < 32) : (((nI H &&& (nI S ^^^ (-1 : Int32))) >>> (nI m &&& 31)) &&& 1) = b01 (H.testBit m && !S.testBit m) := by
  rw [shb _ hm, Int32.toBitVec_and, BitVec.getLsbD_and, Int32.toBitVec_xor, BitVec.getLsbD_xor, nI_bit _ hm, nI_bit _ hm, m1_bit hm, Bool.xor_true]
theorem r_pmat {hh : Nat} {d : HD} {s : SD} {h0 g0 g : HI} {T H K q0 : Nat} {pl so0 : Int32} {V0 : Nat → Bool} {b0 : Int} {A : Nat → Prop} (hh36 : hh + 20 < 56) (w : HDw d) (v : SDv d s) (hT : T < 2 ^ 30) (hH : H < 64) (S : SX hh d s h0 T H K pl g0 q0 V0 b0 so0 A g) {z x : Nat} (hz : z < 262144) (hx : x < d.X) : ∃ g2, fX9_planMatter 101 g (nI z) (nI x) = some g2 ∧ SX hh d s h0 T H K pl g0 q0 V0 b0 so0 (fun y => A y ∨ matA d H z x y) g2 := by
  have hM := w.M6
  have hX := w.X4
  have hD := w.D4
  unfold fX9_planMatter
  rw [i_sit, i_bare (by omega)]
  obtain ⟨F, ⟨g2, i⟩, ⟨hi, S2⟩, hL⟩ := lpi (fun n (p : HI × Int32) => fun k : HI → Int32 → Int32 → Int32 → Int32 → Option HI => fX9_planMatter_22 101 k n p.1 (nI z) (nI x) (nI (bare z x)) (nI (sit z)) p.2) (fun j p => p.2 = nI j ∧ SX hh d s h0 T H K pl g0 q0 V0 b0 so0 (fun y => A y ∨ ∃ m, m < j ∧ (H.testBit m = true ∧ (sit z).testBit m = false) ∧ y = spkZ d z m x) p.1) d.M (by omega) (by
    rintro j ⟨g2, i⟩ hj ⟨hi, S2⟩
    simp only at hi S2
    subst hi
    obtain ⟨R, U, eH, eK, _⟩ := S2.ro
    have e1 : ∀ n k, fX9_planMatter_22 101 k (n + 1) g2 (nI z) (nI x) (nI (bare z x)) (nI (sit z)) (nI j) = if b01 (H.testBit j && !(sit z).testBit j) = 1 then ((fX9_come 101 g2 (nI (spkZ d z j x))).bind fun h3 => fX9_planMatter_22 101 k n h3 (nI z) (nI x) (nI (bare z x)) (nI (sit z)) (nI (j + 1))) else fX9_planMatter_22 101 k n g2 (nI z) (nI x) (nI (bare z x)) (nI (sit z)) (nI (j + 1)) := by
      intro n k
      have ip : nI (bare z x) ||| ((1 : Int32) <<< (((6 : Int32) + ((2 : Int32) * nI x)) &&& 31)) = nI (putS z x 1) := i_put (v := 1) (by omega) (by decide)
      rw [fX9_planMatter_22, r_men R.H, Option.bind_some, if_neg (nI_ge hj (by omega)), eH, up_bit (by omega), r_dueBy w R.H hj hx, Option.bind_some, ip, i_due]
      unfold fX9_planMatter_74
      rw [nI_1]
      rfl
    by_cases q : H.testBit j = true ∧ (sit z).testBit j = false
    · obtain ⟨g3, e3, S3⟩ := r_come hh36 w v hT S2 (z := spkZ d z j x) (spkZ_lt w hz (by omega))
      refine ⟨(g3, nI (j + 1)), ⟨rfl, S3.cong fun y => ?_⟩, fun n => funext fun k => ?_⟩
      · constructor
        · rintro (h | ((h | ⟨m, h1, h2⟩) | h))
          · exact Or.inl h
          · exact Or.inr (Or.inl h)
          · exact Or.inr (Or.inr ⟨m, by omega, h2⟩)
          · exact Or.inr (Or.inr ⟨j, by omega, q, h⟩)
        · rintro (h | (h | ⟨m, h1, h2⟩))
          · exact Or.inl h
          · exact Or.inr (Or.inl (Or.inl h))
          · rcases (show m < j ∨ m = j by omega) with e | e
            · exact Or.inr (Or.inl (Or.inr ⟨m, e, h2⟩))
            · subst e; exact Or.inr (Or.inr h2.2)
      · show fX9_planMatter_22 101 k (n + 1) g2 (nI z) (nI x) (nI (bare z x)) (nI (sit z)) (nI j) = _
        rw [e1, q.1, q.2, if_pos (by decide), e3, Option.bind_some]
    · refine ⟨(g2, nI (j + 1)), ⟨rfl, S2.cong fun y => ?_⟩, fun n => funext fun k => ?_⟩
      · constructor
        · rintro (h | (h | ⟨m, h1, h2⟩))
          · exact Or.inl h
          · exact Or.inr (Or.inl h)
          · exact Or.inr (Or.inr ⟨m, by omega, h2⟩)
        · rintro (h | (h | ⟨m, h1, h2⟩))
          · exact Or.inl h
          · exact Or.inr (Or.inl h)
          · rcases (show m < j ∨ m = j by omega) with e | e
            · exact Or.inr (Or.inr ⟨m, e, h2⟩)
            · subst e; exact absurd h2.1 q
      · show fX9_planMatter_22 101 k (n + 1) g2 (nI z) (nI x) (nI (bare z x)) (nI (sit z)) (nI j) = _
        rw [e1, if_neg]
        intro e
        rw [b01_eq1, Bool.and_eq_true, Bool.not_eq_true'] at e
        exact q e) (s0 := (g, 0)) ⟨rfl, S.cong fun y => ⟨fun h => h.imp id Or.inl, fun h => by
      rcases h with h | h | ⟨m, h1, _⟩
      · exact Or.inl h
      · exact Or.inr h
      · exact absurd h1 (Nat.not_lt_zero m)⟩⟩
  simp only at hi S2 hL
  subst hi
  obtain ⟨R, U, eH, eK, _⟩ := S2.ro
  rw [congrFun hL, fX9_planMatter_22, r_men R.H, Option.bind_some, if_pos (nI_le (Nat.le_refl _) (by omega))]
  unfold fX9_statusOf
  have h4 := stt_lt z x
  rw [i_stt (by omega) (by omega), Option.bind_some]
  by_cases c : stt z x = 1
  · rw [if_pos (show nI (stt z x) = (1 : Int32) by rw [c]; rfl), i_dus (by omega), r_yes w R.H hx _ _ (fun i => (sit z).testBit i) (fun i => (dus z).testBit i) (fun i hi => bit_n (by omega)) (fun i hi => bit_n (by omega)), Option.bind_some, f_ones6 _ (bs_lt6 _ hM), Option.bind_some, r_no w R.H hx _ _ (fun i => (sit z).testBit i) (fun i => (dus z).testBit i) (fun i hi => bit_n (by omega)) (fun i hi => bit_n (by omega)), Option.bind_some, f_ones6 _ (bs_lt6 _ hM), Option.bind_some, f_ones6 _ (sit_lt z), Option.bind_some, eH, f_ones6 _ hH, Option.bind_some]
    have es : nI (pc6 (sit z)) + (nI (pc6 H) - nI (pc6 (sit z))) = nI (pc6 H) := by rw [Int32.add_comm, Int32.sub_add_cancel]
    obtain ⟨hA, eA, FA⟩ := r_pass U (nI (pc6 (bs (yesP d (fun i => (sit z).testBit i) (fun i => (dus z).testBit i) x) d.M))) (nI (pc6 (bs (noP d (fun i => (sit z).testBit i) (fun i => (dus z).testBit i) x) d.M))) (nI (pc6 (sit z))) (nI (pc6 H) - nI (pc6 (sit z)))
    rw [es] at eA
    rw [eA, Option.bind_some]
    have S3 := S2.keep hh36 FA
    obtain ⟨g3, e3, S4⟩ := r_come hh36 w v hT S3 (z := vtZ d H z x) (vtZ_lt hz (by omega))
    refine ⟨g3, ?_, S4.cong fun y => ?_⟩
    · unfold fX9_planMatter_150
      have e5 : fX9_come 101 hA (nI (bare z x) ||| (nI (if passZ d H z x then 2 else 3) <<< (((6 : Int32) + ((2 : Int32) * nI x)) &&& 31))) = some g3 := by
        rw [i_put (by omega) (by split <;> decide)]; exact e3
      unfold passZ at e5
      cases hp : psP d.ru (nI (pc6 (bs (yesP d (fun i => (sit z).testBit i) (fun i => (dus z).testBit i) x) d.M))) (nI (pc6 (bs (noP d (fun i => (sit z).testBit i) (fun i => (dus z).testBit i) x) d.M))) (nI (pc6 (sit z))) (nI (pc6 H) - nI (pc6 (sit z))) with
      | true =>
        rw [hp] at e5
        rw [if_neg b01t]
        show (Option.bind (fX9_come 101 hA (nI (bare z x) ||| (nI (if true = true then 2 else 3) <<< (((6 : Int32) + ((2 : Int32) * nI x)) &&& 31)))) _) = _
        rw [e5, Option.bind_some]
      | false =>
        rw [hp] at e5
        rw [if_pos b01f]
        show (Option.bind (fX9_come 101 hA (nI (bare z x) ||| (nI (if false = true then 2 else 3) <<< (((6 : Int32) + ((2 : Int32) * nI x)) &&& 31)))) _) = _
        rw [e5, Option.bind_some]
    · unfold matA
      constructor
      · rintro (h | ((h | h) | h))
        · exact Or.inl h
        · exact Or.inr (Or.inl h)
        · exact Or.inr (Or.inr (Or.inl h))
        · exact Or.inr (Or.inr (Or.inr ⟨c, h⟩))
      · rintro (h | (h | (h | h)))
        · exact Or.inl h
        · exact Or.inr (Or.inl (Or.inl h))
        · exact Or.inr (Or.inl (Or.inr h))
        · exact Or.inr (Or.inr h.2)
  · rw [if_neg (show ¬ nI (stt z x) = (1 : Int32) from fun e => c ((nI_eq (b := 1) (by omega) (by decide)).mp e))]
    refine ⟨g2, rfl, S2.cong fun y => ?_⟩
    unfold matA
    constructor
    · rintro (h | (h | h))
      · exact Or.inl h
      · exact Or.inr (Or.inl h)
      · exact Or.inr (Or.inr (Or.inl h))
    · rintro (h | (h | (h | h)))
      · exact Or.inl h
      · exact Or.inr (Or.inl h)
      · exact Or.inr (Or.inr h)
      · exact absurd h.1 c
theorem r_palive {hh : Nat} {d : HD} {s : SD} {h0 g0 g : HI} {T H K q0 t : Nat} {so0 : Int32} {V0 : Nat → Bool} {b0 : Int} {A : Nat → Prop} (w : HDw d) (v : SDw d s) (S : SX hh d s h0 T H K (nI t) g0 q0 V0 b0 so0 A g) (ht : t ≤ 40) {z x : Nat} (hz : z < 262144) (hx : x < d.X) : fX9_isAlive 101 g (nI z) (nI x) = some (b01 (decide (stt z x < 2) && decide (s.mi + t < d.di x)), g) := by
  have hX := w.X4
  have hdi := w.di x hx
  have hmi := v.mi
  have h4 := stt_lt z x
  obtain ⟨R, U, eH, eK, ep⟩ := S.ro
  unfold fX9_isAlive fX9_statusOf
  rw [i_stt (by omega) (by omega), Option.bind_some]
  simp (disch := omega) only [gB, nI_clamp, Nat.reduceAdd]
  rw [R.H.di x hx, R.S.mi, ep, nI_add]
  by_cases q1 : stt z x < 2
  · rw [if_neg (show ¬ (2 : Int32) ≤ nI (stt z x) from nI_ge (b := 2) q1 (by decide)), decide_eq_true q1, Bool.true_and]
    by_cases q2 : s.mi + t < d.di x
    · rw [if_neg (nI_ge q2 (by omega)), decide_eq_true q2]; rfl
    · rw [if_pos (nI_le (by omega) (by omega)), decide_eq_false q2]; rfl
  · rw [if_pos (show (2 : Int32) ≤ nI (stt z x) from nI_le (a := 2) (by omega) (by omega)), decide_eq_false q1, Bool.false_and]; rfl
