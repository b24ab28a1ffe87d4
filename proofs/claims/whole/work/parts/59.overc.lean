/-! helps -/
theorem rng (a : Int32) (N : Nat) (hN : N < 2 ^ 31) : (∃ j, j < N ∧ a = nI j) ∨ (a < 0 ∨ ¬ a < 0 ∧ nI N ≤ a) := by
  by_cases c : a < 0
  · exact Or.inr (Or.inl c)
  · obtain ⟨j, hj, ej⟩ := nI_of c
    rcases Nat.lt_or_ge j N with q | q
    · exact Or.inl ⟨j, q, ej⟩
    · exact Or.inr (Or.inr ⟨c, by rw [ej]; exact nI_le q hj⟩)
theorem has1 {q N j : Nat} {h : HI} (e : h.1 q 1 = nI N) (hj : j < N) (hN : N < 2 ^ 31) : fX2_has q h (nI j) = some (1, h) := by
  unfold fX2_has
  rw [if_neg (nI_pos (by omega)), e, if_neg (nI_ge hj hN)]
theorem has0 {q N : Nat} {h : HI} {a : Int32} (e : h.1 q 1 = nI N) (c : a < 0 ∨ ¬ a < 0 ∧ nI N ≤ a) : fX2_has q h a = some (0, h) := by
  unfold fX2_has
  rcases c with c | ⟨c, c2⟩
  · rw [if_pos c]
  · rw [if_neg c, e, if_pos c2]
theorem gB {α : Type} {a b : α} {i n : Nat} [Decidable (inB (nI i) n)] (h : i < n) (hn : n ≤ 1000000) : (if inB (nI i) n then a else b) = a := if_pos (inB_n h hn)
theorem b01f : b01 false = 0 := rfl
theorem b01t1 : b01 true = 1 := rfl
theorem b01t : ¬ b01 true = 0 := by decide
theorem ne10 : ¬ (1 : Int32) = 0 := by decide
theorem m1lt : (-1 : Int32) < 0 := by decide
theorem m2lt : (-2 : Int32) < 0 := by decide
theorem c_alive {o hh : Nat} {d : HD} {h0 h : HI} {s : SD} (R : CO o hh d h0 h s) (w : HDw d) (v : SDv d s) {x : Nat} (hx : x < d.X) : fX6_isAlive o hh h (nI x) = some (if s.ss x < 2 then 1 else 0, h) := by
  have hX := w.X4
  have h3 := v.ss x (by omega)
  unfold fX6_isAlive
  rw [has1 R.H.X hx (by omega)]
  simp only [Option.bind_some]
  rw [if_neg ne10, if_pos (inB_n (by omega) (by omega)), if_pos (inB_n (by omega) (by omega)), nI_clamp (by omega), R.S.ss x (by omega)]
  rcases (show s.ss x = 0 ∨ s.ss x = 1 ∨ s.ss x = 2 ∨ s.ss x = 3 by omega) with e | e | e | e <;> rw [e] <;> rfl
theorem c_die {o hh : Nat} {d : HD} {h0 h : HI} {s : SD} (hm : s.mi ≤ 10001) (w : HDw d) (v : SDv d s) (R : CO o hh d h0 h s) (k : HI → Option (Int32 × HI)) : ∃ F h1, fX6_overMinute_12 o hh k FU h 0 = fX6_overMinute_12 o hh k (F + 1) h1 (nI d.X) ∧ CO o hh d h0 h1 (itr (dieP d) d.X s) ∧ SDv d (itr (dieP d) d.X s) := by
  have hX := w.X4
  obtain ⟨F, ⟨h1, i⟩, ⟨hi, hR, hv⟩, hL⟩ := lpi (fun n (p : HI × Int32) => fX6_overMinute_12 o hh k n p.1 p.2) (fun j p => p.2 = nI j ∧ CO o hh d h0 p.1 (itr (dieP d) j s) ∧ SDv d (itr (dieP d) j s)) d.X (by omega) (by
    rintro j ⟨h1, i⟩ hj ⟨hi, hR, hv⟩
    simp only at hi hR
    subst hi
    have hs : ∃ h2, CO o hh d h0 h2 (itr (dieP d) (j + 1) s) ∧ ∀ n, fX6_overMinute_12 o hh k (n + 1) h1 (nI j) = fX6_overMinute_12 o hh k n h2 (nI (j + 1)) := by
      rw [itr]
      have hm1 : (itr (dieP d) j s).mi ≤ 10001 := by rw [itr_mi (dieP_mi d)]; exact hm
      generalize itr (dieP d) j s = s1 at hR hv hm1 ⊢
      unfold dieP
      by_cases c1 : s1.ss j < 2
      · by_cases c2 : d.di j = s1.mi
        · rw [if_pos ⟨c1, c2⟩]
          refine ⟨_, hR.s_ss (m := j) (v := 3), fun n => ?_⟩
          rw [fX6_overMinute_12, hR.H.X, if_neg (nI_ge hj (by omega)), c_alive hR w hv hj, if_pos c1]
          simp only [Option.bind_some]
          rw [if_neg ne10]
          simp (disch := omega) only [gB, nI_clamp]
          rw [hR.H.di j hj, hR.S.mi, c2, if_pos rfl]
          unfold fX6_overMinute_57
          rw [nI_1]; rfl
        · rw [if_neg (fun q => c2 q.2)]
          refine ⟨h1, hR, fun n => ?_⟩
          rw [fX6_overMinute_12, hR.H.X, if_neg (nI_ge hj (by omega)), c_alive hR w hv hj, if_pos c1]
          simp only [Option.bind_some]
          rw [if_neg ne10]
          simp (disch := omega) only [gB, nI_clamp]
          rw [hR.H.di j hj, hR.S.mi, if_neg]
          · unfold fX6_overMinute_57
            rw [nI_1]
          · have := w.di j hj
            exact fun e => c2 ((nI_eq (by omega) (by omega)).mp e)
      · rw [if_neg (fun q => c1 q.1)]
        refine ⟨h1, hR, fun n => ?_⟩
        rw [fX6_overMinute_12, hR.H.X, if_neg (nI_ge hj (by omega)), c_alive hR w hv hj, if_neg c1]
        simp only [Option.bind_some]
        rw [if_pos trivial]
        unfold fX6_overMinute_57
        rw [nI_1]
    obtain ⟨h2, hR2, hs2⟩ := hs
    exact ⟨(h2, nI (j + 1)), ⟨rfl, hR2, by rw [itr]; exact dieP_v hv⟩, hs2⟩) (s0 := (h, 0)) ⟨rfl, R, v⟩
  exact ⟨F, h1, by simp only at hi hL; rw [hL, hi], hR, hv⟩
theorem c_tire {o hh : Nat} {d : HD} {h0 h : HI} {s : SD} (w : HDw d) (v : SDv d s) (R : CO o hh d h0 h s) {m : Nat} (hm : m < d.M) : ∃ h1, fX6_tireOrRest o hh h (nI m) = some h1 ∧ CO o hh d h0 h1 (tireP d m s) := by
  have hM := w.M6
  have hst := w.st m hm
  have hti := v.ti m hm
  unfold fX6_tireOrRest tireP
  simp (disch := omega) only [gB, nI_clamp]
  rw [R.S.wh m (by omega), R.S.ti m (by omega), R.H.st m hm]
  by_cases c1 : s.wh m = -1
  · rw [if_pos c1, if_pos c1, nI_1]
    by_cases c2 : s.ti m < d.st m
    · rw [if_pos c2, if_neg (nI_nlt (a := d.st m) (by omega) (by omega))]
      exact ⟨_, rfl, R.s_ti⟩
    · rw [if_neg c2, if_pos (nI_lt (by omega) (by omega))]
      refine ⟨_, rfl, R.put (Fr.uI (by unfold Wc; omega)) ?_⟩
      have hc := (R.s_ti (m := m) (v := d.st m)).S
      have e : ud s.ti m (d.st m) = s.ti := by
        funext i
        unfold ud
        split
        · next e => subst e; omega
        · rfl
      rw [e] at hc
      exact hc
  · rw [if_neg c1, if_neg c1]
    by_cases c2 : s.wh m < 0
    · rw [if_pos c2, if_pos c2]
      exact ⟨_, rfl, R⟩
    · rw [if_neg c2, if_neg c2]
      refine ⟨_, rfl, ?_⟩
      have e : (if nI (s.ti m) - (2 : Int32) < 0 then (0 : Int32) else nI (s.ti m) - (2 : Int32)) = nI (s.ti m - 2) := by
        have h : ∀ t, t ≤ 30 → (if nI t - (2 : Int32) < 0 then (0 : Int32) else nI t - (2 : Int32)) = nI (t - 2) := by decide
        exact h _ (by omega)
      rw [e, R.S.sf m (by omega)]
      exact (R.s_ti (m := m) (v := s.ti m - 2)).s_sf
theorem c_tires {o hh : Nat} {d : HD} {h0 h : HI} {s : SD} (w : HDw d) (v : SDv d s) (R : CO o hh d h0 h s) (k : HI → Option (Int32 × HI)) : ∃ F h1, fX6_overMinute_65 o hh k FU h 0 = fX6_overMinute_65 o hh k (F + 1) h1 (nI d.M) ∧ CO o hh d h0 h1 (itr (tireP d) d.M s) ∧ SDv d (itr (tireP d) d.M s) := by
  have hM := w.M6
  obtain ⟨F, ⟨h1, i⟩, ⟨hi, hR, hv⟩, hL⟩ := lpi (fun n (p : HI × Int32) => fX6_overMinute_65 o hh k n p.1 p.2) (fun j p => p.2 = nI j ∧ CO o hh d h0 p.1 (itr (tireP d) j s) ∧ SDv d (itr (tireP d) j s)) d.M (by omega) (by
    rintro j ⟨h1, i⟩ hj ⟨hi, hR, hv⟩
    simp only at hi hR
    subst hi
    obtain ⟨h2, e2, R2⟩ := c_tire w hv hR hj
    refine ⟨(h2, nI (j + 1)), ⟨rfl, R2, tireP_v hv⟩, fun n => ?_⟩
    show fX6_overMinute_65 o hh k (n + 1) h1 (nI j) = fX6_overMinute_65 o hh k n h2 (nI (j + 1))
    rw [fX6_overMinute_65, hR.H.M, if_neg (nI_ge hj (by omega)), e2, Option.bind_some, nI_1]) (s0 := (h, 0)) ⟨rfl, R, v⟩
  exact ⟨F, h1, by simp only at hi hL; rw [hL, hi], hR, hv⟩
theorem c_on {o hh : Nat} {d : HD} {h0 h : HI} {s : SD} (w : HDw d) (R : CO o hh d h0 h s) (c : Int32) : fX6_sitters o hh h c = some (nI (onP d s c), h) := by
  have hM := w.M6
  rw [f_sitters c R.H.M hM]
  unfold onP
  rw [bs_cong (fun i hi => by rw [R.S.wh i (by omega)])]
theorem onP_lt {d : HD} (w : HDw d) (s : SD) (c : Int32) : onP d s c < 64 := bs_lt6 _ w.M6
theorem c_isBroken {o hh : Nat} {d : HD} {h0 h : HI} {s : SD} (R : CO o hh d h0 h s) {c : Nat} (hc : c < 6) : fX6_isBroken o h (nI c) = some (b01 (s.br c), h) := by
  unfold fX6_isBroken b01
  rw [R.S.br, bs_tb (Nat.le_refl 6) hc]
  cases s.br c <;> rfl
theorem c_isFound {o hh : Nat} {d : HD} {h0 h : HI} {s : SD} (R : CO o hh d h0 h s) {c : Nat} (hc : c < 6) : fX6_isFound o h (nI c) = some (b01 (s.fo c), h) := by
  unfold fX6_isFound b01
  rw [R.S.fo, bs_tb (Nat.le_refl 6) hc]
  cases s.fo c <;> rfl
theorem ct6_le (S : Nat) : pc6 S ≤ 6 := ct_le _ 6
theorem c_room {o hh : Nat} {d : HD} {h0 h : HI} {s : SD} (w : HDw d) (R : CO o hh d h0 h s) {c : Nat} (hc : c < d.C) : fX6_hasPlace o hh h (nI c) = some (b01 (roomP d s c), h) := by
  have hC := w.C6
  have hho := w.ho c hc
  have h6 := ct6_le (onP d s (nI c))
  unfold fX6_hasPlace
  rw [has1 R.H.C hc (by omega)]
  simp only [Option.bind_some]
  rw [if_neg ne10, c_isBroken R (by omega)]
  simp only [Option.bind_some]
  unfold roomP
  cases e : s.br c with
  | true =>
    rw [if_neg b01t, Bool.not_true, Bool.false_and, b01f]
  | false =>
    rw [if_pos b01f, c_on w R, Option.bind_some, f_bit6 _ (onP_lt w s _), Option.bind_some]
    simp (disch := omega) only [gB, nI_clamp]
    rw [R.H.ho c hc]
    by_cases q : pc6 (onP d s (nI c)) < d.ho c
    · rw [if_neg (nI_ge q (by omega)), Bool.not_false, Bool.true_and, decide_eq_true q, b01t1]
    · rw [if_pos (nI_le (by omega) (by omega)), Bool.not_false, Bool.true_and, decide_eq_false q, b01f]
theorem c_place {o hh : Nat} {d : HD} {h0 h : HI} {s : SD} (w : HDw d) (R : CO o hh d h0 h s) {m : Nat} (hm : m < d.M) (p : Int32) : ∃ h1, fX6_place o h (nI m) p = some h1 ∧ CO o hh d h0 h1 ((s.w_wh (ud s.wh m p)).w_sf (ud s.sf m 0)) := by
  have hM := w.M6
  unfold fX6_place
  simp (disch := omega) only [gB, nI_clamp]
  exact ⟨_, rfl, (R.s_wh (m := m) (v := p)).s_sf⟩
theorem c_sink {o hh : Nat} {d : HD} {h0 h : HI} {s : SD} (w : HDw d) (R : CO o hh d h0 h s) {m : Nat} (hm : m < d.M) : ∀ (f i F : Nat), i + f = d.C → ∃ h1, fX6_sink_2 o hh (fun h4 => some h4) (F + (f + 1)) h (nI m) (nI i) = some h1 ∧ CO o hh d h0 h1 (match fnd (roomP d s) i f with
  | none => s
  | some c => ((s.w_wh (ud s.wh m (nI c))).w_sf (ud s.sf m 0)).w_sk (s.sk + 1)) := by
  have hC := w.C6
  intro f
  induction f with
  | zero =>
    intro i F hi
    refine ⟨h, ?_, R⟩
    rw [show F + (0 + 1) = F + 1 from rfl, fX6_sink_2, R.H.C, if_pos (nI_le (by omega) (by omega))]
  | succ f ih =>
    intro i F hi
    rw [show F + (f + 1 + 1) = (F + (f + 1)) + 1 from rfl, fX6_sink_2, R.H.C, if_neg (nI_ge (by omega) (by omega)), c_room w R (by omega), fnd]
    simp only [Option.bind_some]
    cases e : roomP d s i with
    | false =>
      rw [if_pos b01f, if_neg (by decide), nI_1]
      exact ih (i + 1) F (by omega)
    | true =>
      rw [if_neg b01t, if_pos rfl]
      obtain ⟨h1, e1, R1⟩ := c_place w R hm (nI i)
      rw [e1]
      simp only [Option.bind_some]
      refine ⟨_, rfl, ?_⟩
      rw [R1.S.sk]
      exact R1.s_sk
theorem c_sinks {o hh : Nat} {d : HD} {h0 h : HI} {s : SD} (w : HDw d) (v : SDv d s) (R : CO o hh d h0 h s) (k : HI → Option (Int32 × HI)) : ∃ F h1, fX6_overMinute_92 o hh k FU h 0 = fX6_overMinute_92 o hh k (F + 1) h1 (nI d.M) ∧ CO o hh d h0 h1 (itr (sinkP d) d.M s) ∧ SDv d (itr (sinkP d) d.M s) := by
  have hM := w.M6
  obtain ⟨F, ⟨h1, i⟩, ⟨hi, hR, hv⟩, hL⟩ := lpi (fun n (p : HI × Int32) => fX6_overMinute_92 o hh k n p.1 p.2) (fun j p => p.2 = nI j ∧ CO o hh d h0 p.1 (itr (sinkP d) j s) ∧ SDv d (itr (sinkP d) j s)) d.M (by omega) (by
    rintro j ⟨h1, i⟩ hj ⟨hi, hR, hv⟩
    simp only at hi hR
    subst hi
    have hs : ∃ h2, CO o hh d h0 h2 (itr (sinkP d) (j + 1) s) ∧ ∀ n, fX6_overMinute_92 o hh k (n + 1) h1 (nI j) = fX6_overMinute_92 o hh k n h2 (nI (j + 1)) := by
      rw [itr]
      generalize itr (sinkP d) j s = s1 at hR hv ⊢
      have hst := w.st j hj
      have hti := hv.ti j hj
      unfold sinkP
      by_cases c1 : s1.wh j = -1
      · by_cases c2 : d.st j ≤ s1.ti j
        · rw [if_pos ⟨c1, c2⟩]
          obtain ⟨F, hF⟩ := FU_ge (n := d.C) (by have := w.C6; omega)
          obtain ⟨h2, e2, R2⟩ := c_sink w hR hj d.C 0 F (by omega)
          refine ⟨h2, R2, fun n => ?_⟩
          rw [fX6_overMinute_92, hR.H.M, if_neg (nI_ge hj (by omega))]
          simp (disch := omega) only [gB, nI_clamp]
          rw [hR.S.wh j (by omega), if_pos c1, hR.S.ti j (by omega), hR.H.st j hj, if_neg (nI_nlt c2 (by omega))]
          unfold fX6_sink fX6_overMinute_139
          rw [hF, show (0 : Int32) = nI 0 from rfl, e2, Option.bind_some, nI_1]
        · rw [if_neg (fun q => c2 q.2)]
          refine ⟨h1, hR, fun n => ?_⟩
          rw [fX6_overMinute_92, hR.H.M, if_neg (nI_ge hj (by omega))]
          simp (disch := omega) only [gB, nI_clamp]
          rw [hR.S.wh j (by omega), if_pos c1, hR.S.ti j (by omega), hR.H.st j hj, if_pos (nI_lt (by omega) (by omega))]
          unfold fX6_overMinute_139
          rw [nI_1]
      · rw [if_neg (fun q => c1 q.1)]
        refine ⟨h1, hR, fun n => ?_⟩
        rw [fX6_overMinute_92, hR.H.M, if_neg (nI_ge hj (by omega))]
        simp (disch := omega) only [gB, nI_clamp]
        rw [hR.S.wh j (by omega), if_neg c1]
        unfold fX6_overMinute_139
        rw [nI_1]
    obtain ⟨h2, hR2, hs2⟩ := hs
    exact ⟨(h2, nI (j + 1)), ⟨rfl, hR2, by rw [itr]; exact sinkP_v hv⟩, hs2⟩) (s0 := (h, 0)) ⟨rfl, R, v⟩
  exact ⟨F, h1, by simp only at hi hL; rw [hL, hi], hR, hv⟩
set_option maxRecDepth 4000 in
theorem c_keep {o hh : Nat} {d : HD} {h0 h : HI} {s : SD} (w : HDw d) (R : CO o hh d h0 h s) (hm : s.mi ≤ 10001) (hk : s.mi = s.kn + 1) : ∃ h1, fX6_keepSeats o hh h = some h1 ∧ CO o hh d h0 h1 (keepP s) := by
  have hM := w.M6
  unfold fX6_keepSeats
  rw [R.S.mi, if_neg (show ¬ nI s.mi < (1 : Int32) from nI_nlt (a := s.mi) (b := 1) (by omega) (by omega))]
  by_cases c : s.mi ≤ 200
  · rw [if_pos (show nI s.mi ≤ (200 : Int32) from nI_le (b := 200) c (by decide))]
    obtain ⟨F, hL⟩ := lpd (fun n (p : Int64 × Int32) => fX6_keepSeats_23 o hh (fun h2 v1 => (if inB ((h2.1 o 1) - (1 : Int32)) 200 then some (uL h2 (o + 8) (((h2.1 o 1) - (1 : Int32)).toNatClampNeg) v1) else none)) n h p.1 p.2) (fun j => (rw6 s.wh j, nI j)) d.M (by omega) (by
      intro j hj n
      show fX6_keepSeats_23 o hh _ (n + 1) h (rw6 s.wh j) (nI j) = fX6_keepSeats_23 o hh _ n h (rw6 s.wh (j + 1)) (nI (j + 1))
      rw [fX6_keepSeats_23, R.H.M, if_neg (nI_ge hj (by omega))]
      simp (disch := omega) only [gB, nI_clamp]
      rw [R.S.wh j (by omega), rw6]
      unfold fX6_keepSeats_62
      rw [nI_1]
      by_cases q : s.wh j < 0
      · rw [if_pos q, if_pos q]
      · rw [if_neg q, if_neg q])
    simp only at hL
    change fX6_keepSeats_23 o hh _ FU h 0 0 = _ at hL
    rw [hL, fX6_keepSeats_23, R.H.M, if_pos (nI_le (Nat.le_refl _) (by omega)), R.S.mi]
    have e : nI s.mi - (1 : Int32) = nI (s.mi - 1) := by
      have h : ∀ t, t ≤ 200 → 1 ≤ t → nI t - (1 : Int32) = nI (t - 1) := by decide
      exact h _ c (by omega)
    rw [e]
    simp (disch := omega) only [gB, nI_clamp]
    refine ⟨_, rfl, R.put (Fr.uL (by unfold Wc; omega)) ⟨R.S.wh, R.S.ti, R.S.sf, R.S.sp, R.S.ss, R.S.de, R.S.br, R.S.fo, R.S.mi, R.S.vo, R.S.sk, R.S.fa, fun k hk1 hk2 => ?_⟩⟩
    have hk3 : k < s.mi := hk1
    show _ = rw6 (ud s.sr (s.mi - 1) s.wh k) d.M
    by_cases q : k = s.mi - 1
    · rw [q, ud_s, uL_s]
    · rw [ud_n q, uL_n (by omega)]
      exact R.S.sr k (by omega) hk2
  · rw [if_neg (show ¬ nI s.mi ≤ (200 : Int32) from nI_ge (a := 200) (b := s.mi) (by omega) (by omega))]
    refine ⟨h, rfl, R.put Fr.rf ⟨R.S.wh, R.S.ti, R.S.sf, R.S.sp, R.S.ss, R.S.de, R.S.br, R.S.fo, R.S.mi, R.S.vo, R.S.sk, R.S.fa, fun k hk1 hk2 => ?_⟩⟩
    have hk3 : k < s.mi := hk1
    show _ = rw6 (ud s.sr (s.mi - 1) s.wh k) d.M
    rw [ud_n (by omega)]
    exact R.S.sr k (by omega) hk2
theorem c_over {o hh : Nat} {d : HD} {h0 h : HI} {s : SD} (w : HDw d) (v : SDw d s) (R : CO o hh d h0 h s) : ∃ h1, fX6_overMinute o hh h = some (nI (s.mi + 1), h1) ∧ CO o hh d h0 h1 (overP d s) := by
  have hmi := v.mi
  unfold fX6_overMinute
  rw [R.S.mi, nI_1]
  have R1 := R.s_mi (v := s.mi + 1)
  obtain ⟨F2, h2, e2, R2, v2⟩ := c_die (s := s.w_mi (s.mi + 1)) (by rw [w_mi_mi]; omega) w (mi_v v.v) R1 (fun h3 => fX6_overMinute_65 o hh (fun h6 => fX6_overMinute_92 o hh (fun h9 => ((fX6_keepSeats o hh h9).bind fun h10 => some ((h10.1 o 1), h10))) FU h6 (0 : Int32)) FU h3 (0 : Int32))
  rw [e2, fX6_overMinute_12, R2.H.X, if_pos (nI_le (Nat.le_refl _) (by have := w.X4; omega))]
  obtain ⟨F3, h3, e3, R3, v3⟩ := c_tires w v2 R2 (fun h6 => fX6_overMinute_92 o hh (fun h9 => ((fX6_keepSeats o hh h9).bind fun h10 => some ((h10.1 o 1), h10))) FU h6 (0 : Int32))
  rw [e3, fX6_overMinute_65, R3.H.M, if_pos (nI_le (Nat.le_refl _) (by have := w.M6; omega))]
  obtain ⟨F4, h4, e4, R4, v4⟩ := c_sinks w v3 R3 (fun h9 => ((fX6_keepSeats o hh h9).bind fun h10 => some ((h10.1 o 1), h10)))
  rw [e4, fX6_overMinute_92, R4.H.M, if_pos (nI_le (Nat.le_refl _) (by have := w.M6; omega))]
  have em : (itr (sinkP d) d.M (itr (tireP d) d.M (itr (dieP d) d.X (s.w_mi (s.mi + 1))))).mi = s.mi + 1 := by rw [itr_mi (sinkP_mi d), itr_mi (tireP_mi d), itr_mi (dieP_mi d), w_mi_mi]
  have ek : (itr (sinkP d) d.M (itr (tireP d) d.M (itr (dieP d) d.X (s.w_mi (s.mi + 1))))).kn = s.mi := by rw [itr_kn (sinkP_kn d), itr_kn (tireP_kn d), itr_kn (dieP_kn d), w_mi_kn, v.kn]
  obtain ⟨h5, e5, R5⟩ := c_keep w R4 (by rw [em]; omega) (by rw [em, ek])
  rw [e5, Option.bind_some, R5.S.mi, keepP_mi, em]
  exact ⟨h5, rfl, R5⟩
