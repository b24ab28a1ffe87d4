/-! plans: the search of the developers' planner, minute by minute -/
theorem c_pmin {hh : Nat} {d : HD} {s : SD} {H K t : Nat} {b0 : Int} {so0 : Int32} {R0 R : Nat → Nat → Prop} {h : HI} (w : HDw d) (v : SDw d s) (hb0 : 0 ≤ b0) (ht : t ≤ 40) (Q : PT hh d s H K h) (P : PX d s t b0 so0 R0 R h) (hR : ∀ k S, R k S → ft H K S) : ∃ g, (∀ kk v5 v6, fX3_search_167 65 56 hh kk FU h v5 v6 (nI (2 ^ KB d s)) (nI t) (nI (2 ^ KB d s) - 1) = kk g v5 v6 (nI (2 ^ KB d s)) (nI t)) ∧ Fr Wre h g ∧ PX d s t b0 so0 R0 (fun k S => R k S ∨ ∃ k1 S1, R k1 S1 ∧ Ks d s H K t k1 S1 k S) g := by
  have hKB := KB_le (s := s) w
  have h4k : 2 ^ KB d s ≤ 4096 := Nat.pow_le_pow_right (n := 2) (j := 12) (by decide) hKB
  have h1 : 1 ≤ 2 ^ KB d s := Nat.pow_pos (by decide)
  have hRl : ∀ k S, R k S → k < 2 ^ KB d s := fun k S a => by
    obtain ⟨b, so, p1, p2, p3, p4, p5, p6, p7, p8⟩ := P
    exact (p7 k S a).1.1
  obtain ⟨N, hN⟩ : ∃ N, 2 ^ KB d s = N := ⟨_, rfl⟩
  rw [hN] at h4k h1 ⊢
  obtain ⟨F, ⟨g, i⟩, ⟨i1, i2, i3⟩, hL⟩ := lpi (fun n (p : HI × Int32) => fun (q : (HI → Int32 → Int32 → Int32 → Int32 → Option (Int32 × HI)) × Int32 × Int32) => fX3_search_167 65 56 hh q.1 n p.1 q.2.1 q.2.2 (nI N) (nI t) p.2) (fun j p => p.2 = nI (N - j) + (-1) ∧ Fr Wre h p.1 ∧ PX d s t b0 so0 R0 (fun k S => R k S ∨ ∃ k1 S1, N - j ≤ k1 ∧ R k1 S1 ∧ Ks d s H K t k1 S1 k S) p.1) N (by omega) (by
    rintro j ⟨g, i⟩ hj ⟨i1, i2, i3⟩
    simp only at i1 i2 i3
    rw [nI_p1 (by omega)] at i1
    obtain ⟨k, hkk⟩ : ∃ k, N - j - 1 = k := ⟨_, rfl⟩
    rw [hkk] at i1
    subst i1
    have hk : k < 2 ^ KB d s := by omega
    have Q2 := Q.keep i2
    have hAk : ∀ S, (R k S ∨ ∃ k1 S1, N - j ≤ k1 ∧ R k1 S1 ∧ Ks d s H K t k1 S1 k S) ↔ R k S := fun S => ⟨fun a => by
      rcases a with a | ⟨k1, S1, a1, _, a3⟩
      · exact a
      · have := Ks_le a3; omega, fun a => Or.inl a⟩
    have stp : ∀ n q, fX3_search_167 65 56 hh q (n + 1) g = fun v5 v6 v7 v8 v9 => (if v9 < 0 then q g v5 v6 v7 v8 else (if inB v9 4096 then (if (lg_cmp (g.2 (65 + 1) (v9.toNatClampNeg)) (0 : Int64)) = 0 then fX3_search_167 65 56 hh q n g v5 v6 v7 v8 (v9 + (-1 : Int32)) else ((fX3_step 65 hh g v9 v8).bind fun h9 => fX3_search_167 65 56 hh q n h9 v5 v6 v7 v8 (v9 + (-1 : Int32)))) else none)) := fun n q => rfl
    by_cases c : g.2 66 k = 0
    · refine ⟨(g, nI (N - (j + 1)) + (-1)), ⟨rfl, i2, i3.cong fun k2 S => ?_⟩, fun n => funext fun q => ?_⟩
      · constructor
        · rintro (a | ⟨k1, S1, a1, a2⟩)
          · exact Or.inl a
          · exact Or.inr ⟨k1, S1, by omega, a2⟩
        · rintro (a | ⟨k1, S1, a1, a2, a3⟩)
          · exact Or.inl a
          · rcases (show N - j ≤ k1 ∨ k1 = k by omega) with e | e
            · exact Or.inr ⟨k1, S1, e, a2, a3⟩
            · rw [e] at a2
              have := (i3.at hk (hR k S1 a2).1).mpr (Or.inl a2)
              rw [c, lb_0] at this
              cases this
      · show fX3_search_167 65 56 hh q.1 (n + 1) g q.2.1 q.2.2 (nI N) (nI t) (nI k) = _
        rw [stp]
        simp (disch := omega) only [gB, nI_clamp, Nat.reduceAdd]
        rw [if_neg (nI_pos (by omega)), if_pos ((cmp0 _).mpr c), show N - (j + 1) = k by omega]
    · obtain ⟨g2, e2, f2, x2⟩ := c_step w v hb0 ht Q2 i3 hk (fun S a => hR k S ((hAk S).mp a))
      refine ⟨(g2, nI (N - (j + 1)) + (-1)), ⟨rfl, i2.tr f2, x2.cong fun k2 S => ?_⟩, fun n => funext fun q => ?_⟩
      · constructor
        · rintro ((a | ⟨k1, S1, a1, a2⟩) | ⟨S1, a1, a2⟩)
          · exact Or.inl a
          · exact Or.inr ⟨k1, S1, by omega, a2⟩
          · exact Or.inr ⟨k, S1, by omega, (hAk S1).mp a1, a2⟩
        · rintro (a | ⟨k1, S1, a1, a2, a3⟩)
          · exact Or.inl (Or.inl a)
          · rcases (show N - j ≤ k1 ∨ k1 = k by omega) with e | e
            · exact Or.inl (Or.inr ⟨k1, S1, e, a2, a3⟩)
            · rw [e] at a2 a3; exact Or.inr ⟨S1, Or.inl a2, a3⟩
      · show fX3_search_167 65 56 hh q.1 (n + 1) g q.2.1 q.2.2 (nI N) (nI t) (nI k) = _
        rw [stp]
        simp (disch := omega) only [gB, nI_clamp, Nat.reduceAdd]
        rw [if_neg (nI_pos (by omega)), if_neg (fun e => c ((cmp0 _).mp e)), e2, Option.bind_some, show N - (j + 1) = k by omega]) (s0 := (h, nI N - 1)) ⟨by
        show nI N - 1 = nI (N - 0) + (-1)
        rw [nI_m1 h1, Nat.sub_zero, nI_p1 h1], Fr.rf, P.cong fun k S => ⟨fun a => Or.inl a, fun a => by
          rcases a with a | ⟨k1, S1, a1, a2, _⟩
          · exact a
          · have := hRl k1 S1 a2; omega⟩⟩
  simp only at i1 i2 i3 hL
  refine ⟨g, fun kk v5 v6 => ?_, i2, i3.cong fun k S => ?_⟩
  · have e := congrFun hL (kk, v5, v6)
    simp only at e
    rw [e, fX3_search_167, i1, Nat.sub_self, if_pos (show nI 0 + (-1 : Int32) < 0 by decide)]
  · constructor
    · rintro (a | ⟨k1, S1, a1, a2⟩)
      · exact Or.inl a
      · exact Or.inr ⟨k1, S1, a2⟩
    · rintro (a | ⟨k1, S1, a2⟩)
      · exact Or.inl a
      · exact Or.inr ⟨k1, S1, by omega, a2⟩
def PY (d : HD) (s : SD) (b : Int) (o : Nat) (A : Nat → Nat → Prop) (h : HI) : Prop := h.1 65 13 = Int32.ofInt b ∧ h.1 65 15 = nI o ∧ 0 ≤ b ∧ b ≤ 2400 ∧ (∀ k S, k < 2 ^ KB d s → S < 64 → (lb (h.2 66 k) S = true ↔ A k S)) ∧ (∀ k S, A k S → (k < 2 ^ KB d s ∧ S < 64) ∧ wk d s k ≤ b) ∧ (b = 0 ∨ ∃ k S, A k S ∧ wk d s k = b)
theorem Ck_up {d : HD} {s : SD} {H K k0 S0 t k S : Nat} (h : Ck d s H K k0 S0 t k S) : ∀ n, Ck d s H K k0 S0 (t + n) k S
  | 0 => h
  | n + 1 => Or.inl (Ck_up h n)
def wp (d : HD) (s : SD) (p : Nat) : Int := wk d s (p / 64)
theorem BSo_stay {d : HD} {s : SD} {H K k0 S0 t : Nat} {b : Int} {o : Nat} (hb : 0 ≤ b) (h : BSo (Cp d s H K k0 S0) (wp d s) t b o) (h1 : ∀ k, wk d s k ≤ b) (h2 : b = 0 ∨ ∃ k S, S < 64 ∧ Ck d s H K k0 S0 t k S ∧ wk d s k = b) : ∀ n, BSo (Cp d s H K k0 S0) (wp d s) (t + n) b o
  | 0 => h
  | n + 1 => by
    refine ⟨b, o, BSo_stay hb h h1 h2 n, ⟨hb, fun p _ => h1 _, h2.imp id fun ⟨k, S, q0, q1, q2⟩ => ⟨k * 64 + S, ?_, ?_⟩⟩, by rw [if_pos rfl]⟩
    · show Ck d s H K k0 S0 (t + n + 1) ((k * 64 + S) / 64) ((k * 64 + S) % 64)
      rw [show (k * 64 + S) / 64 = k by omega, show (k * 64 + S) % 64 = S by omega]
      exact Ck_up q1 (n + 1)
    · unfold wp
      rw [show (k * 64 + S) / 64 = k by omega]; exact q2
theorem Ks_dn {d : HD} {s : SD} {H K t k S k2 S2 : Nat} (q : Ks d s H K (t + 1) k S k2 S2) : Ks d s H K t k S k2 S2 := by
  rcases q with q | ⟨x, hx, ⟨a1, ⟨a2, a3⟩, a4⟩ | ⟨a1, ⟨a2, a3⟩, a4⟩⟩
  · exact Or.inl q
  · exact Or.inr ⟨x, hx, Or.inl ⟨a1, ⟨a2, by omega⟩, a4⟩⟩
  · exact Or.inr ⟨x, hx, Or.inr ⟨a1, ⟨a2, by omega⟩, a4⟩⟩
/-- a minute that brings nothing more: no later one does -/
theorem Ck_stop {d : HD} {s : SD} {H K k0 S0 t : Nat} (h : ∀ k S, Ck d s H K k0 S0 (t + 1) k S → Ck d s H K k0 S0 t k S) : ∀ k S, Ck d s H K k0 S0 (t + 1 + 1) k S → Ck d s H K k0 S0 (t + 1) k S := fun k S q => by
  rcases q with q | ⟨k1, S1, q1, q2⟩
  · exact q
  · exact Or.inr ⟨k1, S1, h k1 S1 q1, Ks_dn q2⟩
theorem Ck_st {d : HD} {s : SD} {H K k0 S0 t : Nat} (h : ∀ k S, Ck d s H K k0 S0 (t + 1) k S → Ck d s H K k0 S0 t k S) : ∀ n, ∀ k S, Ck d s H K k0 S0 (t + n + 1) k S → Ck d s H K k0 S0 (t + n) k S
  | 0 => h
  | n + 1 => Ck_stop (Ck_st h n)
theorem Ck_end {d : HD} {s : SD} {H K k0 S0 t : Nat} (h : ∀ k S, Ck d s H K k0 S0 (t + 1) k S → Ck d s H K k0 S0 t k S) : ∀ n k S, Ck d s H K k0 S0 (t + n) k S → Ck d s H K k0 S0 t k S
  | 0, _, _, q => q
  | n + 1, k, S, q => Ck_end h n k S (Ck_st h n k S q)
theorem BSo_stop {d : HD} {s : SD} {H K k0 S0 t : Nat} {b : Int} {o : Nat} (hb : 0 ≤ b) (h : BSo (Cp d s H K k0 S0) (wp d s) t b o) (hs : ∀ k S, Ck d s H K k0 S0 (t + 1) k S → Ck d s H K k0 S0 t k S) (h1 : ∀ k S, Ck d s H K k0 S0 t k S → wk d s k ≤ b) (h2 : b = 0 ∨ ∃ k S, S < 64 ∧ Ck d s H K k0 S0 t k S ∧ wk d s k = b) : ∀ n, BSo (Cp d s H K k0 S0) (wp d s) (t + n) b o
  | 0 => h
  | n + 1 => by
    refine ⟨b, o, BSo_stop hb h hs h1 h2 n, ⟨hb, fun p hp => h1 _ _ (Ck_end hs (n + 1) _ _ hp), h2.imp id fun ⟨k, S, q0, q1, q2⟩ => ⟨k * 64 + S, ?_, ?_⟩⟩, by rw [if_pos rfl]⟩
    · show Ck d s H K k0 S0 (t + n + 1) ((k * 64 + S) / 64) ((k * 64 + S) % 64)
      rw [show (k * 64 + S) / 64 = k by omega, show (k * 64 + S) % 64 = S by omega]
      exact Ck_up q1 (n + 1)
    · unfold wp
      rw [show (k * 64 + S) / 64 = k by omega]; exact q2
theorem c_mins {hh : Nat} {d : HD} {s : SD} {H K k0 S0 L : Nat} (w : HDw d) (v : SDw d s) (hL : L ≤ 40) (h0 : k0 < 2 ^ KB d s) (hf : ft H K S0) : ∀ (r t : Nat) (b : Int) (o : Nat) (h : HI) (F : Nat), t + r = L → PT hh d s H K h → PY d s b o (Ck d s H K k0 S0 t) h → BSo (Cp d s H K k0 S0) (wp d s) t b o → (h.1 65 14 = 0 → ∀ k S, Ck d s H K k0 S0 (t + 1) k S → Ck d s H K k0 S0 t k S) → ∃ g b2 o2, (∀ kk, fX3_search_133 65 56 hh kk (F + (r + 1)) h (nI L) (Int32.ofInt (hpN d s d.X)) (nI (2 ^ KB d s)) (nI t) = kk g) ∧ Fr Wre h g ∧ g.1 65 13 = Int32.ofInt b2 ∧ g.1 65 15 = nI o2 ∧ BSo (Cp d s H K k0 S0) (wp d s) L b2 o2
  | 0, t, b, o, h, F, e, Q, P, B, _ => by
    have e2 : t = L := by omega
    subst e2
    refine ⟨h, b, o, fun kk => ?_, Fr.rf, P.1, P.2.1, B⟩
    rw [fX3_search_133, if_pos (nI_le (Nat.le_refl _) (by omega))]
  | r + 1, t, b, o, h, F, e, Q, P, B, hg => by
    obtain ⟨p1, p2, p3, p4, p5, p6, p7⟩ := P
    have hhp := hp_b w s
    by_cases c : hpN d s d.X ≤ b
    · refine ⟨h, b, o, fun kk => ?_, Fr.rf, p1, p2, ?_⟩
      · rw [show F + (r + 1 + 1) = (F + (r + 1)) + 1 by omega, fX3_search_133, if_neg (nI_ge (by omega) (by omega)), p1, if_pos ((ofI_le2 (by omega) (by omega) (by omega) (by omega)).mpr c)]
      · rw [← e]
        exact BSo_stay p3 B (fun k => Int.le_trans (wk_hp (d := d) (s := s) k d.X).2 c) (p7.imp id fun ⟨k, S, q1, q2⟩ => ⟨k, S, (p6 k S q1).1.2, q1, q2⟩) (r + 1)
    by_cases cg : h.1 65 14 = 0
    · refine ⟨h, b, o, fun kk => ?_, Fr.rf, p1, p2, ?_⟩
      · rw [show F + (r + 1 + 1) = (F + (r + 1)) + 1 by omega, fX3_search_133, if_neg (nI_ge (by omega) (by omega)), p1, if_neg (fun e => c ((ofI_le2 (by omega) (by omega) (by omega) (by omega)).mp e)), if_pos cg]
      · rw [← e]
        exact BSo_stop p3 B (hg cg) (fun k S a => (p6 k S a).2) (p7.imp id fun ⟨k, S, q1, q2⟩ => ⟨k, S, (p6 k S q1).1.2, q1, q2⟩) (r + 1)
    · have F0 : Fr Wre h (uI h 65 14 (0 : Int32)) := Fr.uI (by unfold Wre; omega)
      have X1 : PX d s t b (nI o) (Ck d s H K k0 S0 t) (Ck d s H K k0 S0 t) (uI h 65 14 (0 : Int32)) := ⟨b, nI o, by rw [uI_n (by omega)]; exact p1, by rw [uI_n (by omega)]; exact p2, Int.le_refl _, p4, by rw [if_pos rfl], p5, p6, p7, fun _ k S a => a⟩
      obtain ⟨g, e1, f1, b2, so2, q1, q2, q3, q4, q5, q6, q7, q8, q9⟩ := c_pmin w v p3 (by omega) (Q.keep F0) X1 (fun k S a => (Ck_lt h0 hf a).2)
      have hso : so2 = nI (if b2 = b then o else t + 1) := by rw [q5]; split <;> rfl
      rw [hso] at q2
      have Y1 : PY d s b2 (if b2 = b then o else t + 1) (Ck d s H K k0 S0 (t + 1)) g := ⟨q1, q2, by omega, q4, q6, q7, q8⟩
      have B1 : BSo (Cp d s H K k0 S0) (wp d s) (t + 1) b2 (if b2 = b then o else t + 1) := by
        refine ⟨b, o, B, ⟨by omega, fun p hp => (q7 _ _ hp).2, q8.imp id fun ⟨k, S, a1, a2⟩ => ⟨k * 64 + S, ?_, ?_⟩⟩, rfl⟩
        · have hS := (q7 k S a1).1.2
          show Ck d s H K k0 S0 (t + 1) ((k * 64 + S) / 64) ((k * 64 + S) % 64)
          rw [show (k * 64 + S) / 64 = k by omega, show (k * 64 + S) % 64 = S by omega]
          exact a1
        · have hS := (q7 k S a1).1.2
          unfold wp
          rw [show (k * 64 + S) / 64 = k by omega]; exact a2
      obtain ⟨g3, b3, o3, e3, f3, r1, r2, r3⟩ := c_mins w v hL h0 hf r (t + 1) b2 _ g F (by omega) ((Q.keep F0).keep f1) Y1 B1 (fun z => Ck_stop (q9 z))
      refine ⟨g3, b3, o3, fun kk => ?_, (F0.tr f1).tr f3, r1, r2, r3⟩
      rw [show F + (r + 1 + 1) = (F + (r + 1)) + 1 by omega, fX3_search_133, if_neg (nI_ge (by omega) (by omega)), p1, if_neg (fun e => c ((ofI_le2 (by omega) (by omega) (by omega) (by omega)).mp e)), if_neg cg, e1, nI_1]
      exact e3 kk
theorem c_zero {hh : Nat} {d : HD} {s : SD} {h : HI} (w : HDw d) : ∃ g, (∀ kk v3 v5 v6, fX3_search_78 65 56 hh kk FU h v3 v5 v6 (nI (2 ^ KB d s)) 0 = kk g v3 v5 v6 (nI (2 ^ KB d s))) ∧ (Fr Wre h g ∧ g.1 = h.1) ∧ ∀ k, k < 2 ^ KB d s → g.2 66 k = 0 := by
  have hKB := KB_le (s := s) w
  have h4k : 2 ^ KB d s ≤ 4096 := Nat.pow_le_pow_right (n := 2) (j := 12) (by decide) hKB
  obtain ⟨N, hN⟩ : ∃ N, 2 ^ KB d s = N := ⟨_, rfl⟩
  rw [hN] at h4k ⊢
  obtain ⟨F, ⟨g, i⟩, ⟨i1, i2, i3⟩, hL⟩ := lpi (fun n (p : HI × Int32) => fun (q : (HI → Int32 → Int32 → Int32 → Int32 → Option (Int32 × HI)) × Int32 × Int32 × Int32) => fX3_search_78 65 56 hh q.1 n p.1 q.2.1 q.2.2.1 q.2.2.2 (nI N) p.2) (fun j p => p.2 = nI j ∧ (Fr Wre h p.1 ∧ p.1.1 = h.1) ∧ ∀ k, k < j → p.1.2 66 k = 0) N (by omega) (by
    rintro j ⟨g, i⟩ hj ⟨i1, i2, i3⟩
    simp only at i1 i2 i3
    subst i1
    refine ⟨(uL g 66 j 0, nI (j + 1)), ⟨rfl, ⟨i2.1.tr (Fr.uL (by unfold Wre; omega)), i2.2⟩, fun k hk => ?_⟩, fun n => funext fun q => ?_⟩
    · show (uL g 66 j 0).2 66 k = 0
      rcases (show k < j ∨ k = j by omega) with e | e
      · rw [uL_n (by omega)]; exact i3 k e
      · rw [e, uL_s]
    · show fX3_search_78 65 56 hh q.1 (n + 1) g q.2.1 q.2.2.1 q.2.2.2 (nI N) (nI j) = _
      rw [fX3_search_78, if_neg (nI_ge hj (by omega)), if_neg (show ¬ (4096 : Int32) ≤ nI j from nI_ge (b := 4096) (by omega) (by decide))]
      simp (disch := omega) only [gB, nI_clamp, Nat.reduceAdd, nI_1]) (s0 := (h, 0)) ⟨rfl, ⟨Fr.rf, rfl⟩, fun k hk => absurd hk (Nat.not_lt_zero k)⟩
  simp only at i1 i2 i3 hL
  subst i1
  refine ⟨g, fun kk v3 v5 v6 => ?_, i2, i3⟩
  have e := congrFun hL (kk, v3, v5, v6)
  simp only at e
  rw [e, fX3_search_78, if_pos (nI_le (Nat.le_refl _) (by omega))]
theorem Wre_pl {hh : Nat} : ∀ a b, Wre a b → Wpl hh a b := fun a b h => by unfold Wre at h; unfold Wpl; omega
theorem wk_k0 {d : HD} {s : SD} {k S0 : Nat} (w : HDw d) (v : SDv d s) (hS : S0 < 64) (Z : K0 d s (gC d s) (lC d s) k) : wk d s k = 0 := by
  have e1 := wk_eq (Z.kz w v hS) (zst_zs w v hS) d.X (Nat.le_refl _)
  have e2 := wz_first w v hS
  unfold wz at e2
  unfold wk
  omega
/-- the whole search: the best worth, and how soon -/
theorem c_search {hh : Nat} {d : HD} {s : SD} {h : HI} {H K L S0 : Nat} (w : HDw d) (v : SDw d s) (C : CO 56 hh d h h s) (U : RU hh d h) (hH : H < 2 ^ d.M) (hK : K < 100) (hL : L ≤ 40) (hf : ft H K S0) : ∃ g b o, fX3_search 65 56 hh h (nI H) (nI S0) (nI K) (nI L) = some (Int32.ofInt b, g) ∧ BSo (Vt d s H K (zst d s S0)) (wz d s) L b o ∧ g.1 65 15 = nI o ∧ Fr (Wpl hh) h g := by
  have hp := C.1
  have hM := w.M6
  have hH6 : H < 64 := Nat.lt_of_lt_of_le hH (Nat.pow_le_pow_right (n := 2) (j := 6) (by decide) hM)
  have hS := hf.1
  have hKB := KB_le (s := s) w
  have hhp := hp_b w s
  have h4k : 2 ^ KB d s ≤ 4096 := Nat.pow_le_pow_right (n := 2) (j := 12) (by decide) hKB
  have fin : ∀ {k b o}, K0 d s (gC d s) (lC d s) k → BSo (Cp d s H K k S0) (wp d s) L b o → BSo (Vt d s H K (zst d s S0)) (wz d s) L b o := fun {k b o} Z B => BSo_tr (fun t b q => mx_tr w hH Z.1 hf (zst_at w v.v hS).1 (Z.kz w v.v hS) (zst_zs w v.v hS) q) B
  unfold fX3_search
  have FA : Fr (Wpl hh) h (uI (uI (uI h 65 11 (nI H)) 65 13 (0 : Int32)) 65 15 (0 : Int32)) := ((Fr.uI (by unfold Wpl; omega)).tr (Fr.uI (by unfold Wpl; omega))).tr (Fr.uI (by unfold Wpl; omega))
  have a11 : (uI (uI (uI h 65 11 (nI H)) 65 13 (0 : Int32)) 65 15 (0 : Int32)).1 65 11 = nI H := by rw [uI_n (by omega), uI_n (by omega), uI_s]
  have a13 : (uI (uI (uI h 65 11 (nI H)) 65 13 (0 : Int32)) 65 15 (0 : Int32)).1 65 13 = 0 := by rw [uI_n (by omega), uI_s]
  have a14 : (uI (uI (uI h 65 11 (nI H)) 65 13 (0 : Int32)) 65 15 (0 : Int32)).1 65 15 = 0 := uI_s _ _ _ _
  generalize uI (uI (uI h 65 11 (nI H)) 65 13 (0 : Int32)) 65 15 (0 : Int32) = h1 at FA a11 a13 a14
  obtain ⟨g1, e1, f1, G1⟩ := c_goals w v (C.pl FA)
  have F1 : Fr (Wpl hh) h g1 := FA.tr (f1.mono Wgo_pl)
  rw [e1, Option.bind_some]
  have key0 : ∃ k, K0 d s (gC d s) (lC d s) k := by
    obtain ⟨g2, e2, f2, L2⟩ := c_links w (C.pl FA) (f1.mono Wgo_pl) G1
    obtain ⟨k, _, hk⟩ := c_key w v.v (C.pl (F1.tr (f2.mono fun a b q => by unfold Wlk at q; unfold Wpl; omega))) (G1.keep f2 (fun a b p q => by unfold Wgo at p; unfold Wlk at q; omega)) L2
    exact ⟨k, hk⟩
  by_cases c0 : hpN d s d.X = 0
  · obtain ⟨k, Z⟩ := key0
    rw [if_pos (show Int32.ofInt (hpN d s d.X) = 0 by rw [c0]; rfl)]
    refine ⟨g1, 0, 0, rfl, fin Z ?_, ?_, F1⟩
    · have := BSo_stay (d := d) (s := s) (H := H) (K := K) (k0 := k) (S0 := S0) (t := 0) (b := 0) (o := 0) (Int.le_refl _) ⟨rfl, rfl⟩ (fun k => by have := (wk_hp (d := d) (s := s) k d.X).2; unfold wk; omega) (Or.inl rfl) L
      rw [Nat.zero_add] at this
      exact this
    · rw [f1.1 _ _ (by unfold Wgo; omega), a14]; rfl
  · have c1 : ¬ Int32.ofInt (hpN d s d.X) = 0 := by
      intro e
      have := (ofI_le2 (a := hpN d s d.X) (b := 0) (by omega) (by omega) (by omega) (by omega)).mp (by rw [e]; decide)
      omega
    rw [if_neg c1]
    by_cases cL : L = 0
    · obtain ⟨k, Z⟩ := key0
      rw [if_pos (show nI L = 0 by rw [cL]; rfl)]
      refine ⟨g1, 0, 0, rfl, ?_, ?_, F1⟩
      · rw [cL]; exact ⟨rfl, rfl⟩
      · rw [f1.1 _ _ (by unfold Wgo; omega), a14]; rfl
    · rw [if_neg (show ¬ nI L = 0 from nI_ne0 (by omega) (by omega))]
      obtain ⟨g2, e2, f2, L2⟩ := c_links w (C.pl FA) (f1.mono Wgo_pl) G1
      rw [e2, Option.bind_some]
      have G2 := G1.keep f2 (fun a b p q => by unfold Wgo at p; unfold Wlk at q; omega)
      have b11 : g2.1 65 11 = nI H := by rw [f2.1 _ _ (by unfold Wlk; omega), f1.1 _ _ (by unfold Wgo; omega)]; exact a11
      have F2 : Fr (Wpl hh) h g2 := F1.tr (f2.mono fun a b q => by unfold Wlk at q; unfold Wpl; omega)
      obtain ⟨g3, e3, f3, t3⟩ := c_fit b11 hH6 hK
      rw [e3, Option.bind_some]
      have F3 : Fr (Wpl hh) h g3 := F2.tr (f3.mono fun a b q => by unfold Wpl; omega)
      have c11 : g3.1 65 11 = nI H := by rw [f3.1 _ _ (by omega)]; exact b11
      obtain ⟨g4, e4, f4, V4⟩ := c_verd hp (U.pl hp F3) c11 hH6
      rw [e4, Option.bind_some]
      have F4 : Fr (Wpl hh) h g4 := F3.tr (f4.mono fun a b q => by unfold Wpl; omega)
      have G4 := (G2.keep f3 (fun a b p q => by unfold Wgo at p; omega)).keep f4 (fun a b p q => by unfold Wgo at p; omega)
      have L4 := (L2.keep f3 (fun a b p q => by unfold Wlk at p; omega)).keep f4 (fun a b p q => by unfold Wlk at p; omega)
      have t4 : ∀ S, S < 64 → lb (g4.2 65 12) S = ftb H K S := fun S hS => by rw [f4.2 _ _ (by omega)]; exact t3 S hS
      obtain ⟨g5, e5, f5, P5⟩ := c_fillp (s := s) (K := K) hp w (C.pl F4).H G4 L4 t4 V4
      rw [e5, Option.bind_some]
      have F5 : Fr (Wpl hh) h g5 := F4.tr (f5.mono fun a b q => by unfold Wpl; omega)
      have Q5 : PT hh d s H K g5 := ⟨C.pl F5, by rw [f5.1 _ _ (by omega), f4.1 _ _ (by omega)]; exact c11, fun S hS => by rw [f5.2 _ _ (by omega)]; exact t4 S hS, G4.keep f5 (fun a b p q => by unfold Wgo at p; omega), L4.keep f5 (fun a b p q => by unfold Wlk at p; omega), P5⟩
      have ek : (2 : Int32) * g5.1 65 9 + g5.1 65 10 = nI (KB d s) := by
        rw [show g5.1 65 9 = nI (gC d s) from Q5.2.2.2.1.1, show g5.1 65 10 = nI (lC d s) from Q5.2.2.2.2.1.1, show (2 : Int32) = nI 2 from rfl, nI_mu, nI_add]; rfl
      rw [ek, one_shl (by omega)]
      obtain ⟨g6, e6, ⟨f6, i6⟩, z6⟩ := c_zero (hh := hh) (s := s) (h := g5) w
      have z13 : g6.1 65 13 = g5.1 65 13 := by rw [i6]
      have z14 : g6.1 65 15 = g5.1 65 15 := by rw [i6]
      rw [e6]
      have Q6 := Q5.keep f6
      obtain ⟨k, e7, Z⟩ := c_key w v.v Q6.1 Q6.2.2.2.1 Q6.2.2.2.2.1
      have hk := Z.1
      unfold fX3_search_107
      rw [e7, Option.bind_some]
      simp (disch := omega) only [gB, nI_clamp, Nat.reduceAdd]
      have f7 : Fr Wre g6 (uI (uL g6 66 k (((1 : Int64) <<< ((nI S0).toInt64 &&& 63)) &&& g6.2 65 12)) 65 14 (1 : Int32)) := (Fr.uL (by unfold Wre; omega)).tr (Fr.uI (by unfold Wre; omega))
      have Y7 : PY d s 0 0 (Ck d s H K k S0 0) (uI (uL g6 66 k (((1 : Int64) <<< ((nI S0).toInt64 &&& 63)) &&& g6.2 65 12)) 65 14 (1 : Int32)) := by
        refine ⟨?_, ?_, Int.le_refl _, by omega, fun k2 S hk2 hS2 => ?_, fun k2 S a => ?_, Or.inl rfl⟩
        · rw [uI_n (by omega)]
          show g6.1 65 13 = _
          rw [z13, f5.1 _ _ (by omega), f4.1 _ _ (by omega), f3.1 _ _ (by omega), f2.1 _ _ (by unfold Wlk; omega), f1.1 _ _ (by unfold Wgo; omega), a13]; rfl
        · rw [uI_n (by omega)]
          show g6.1 65 15 = _
          rw [z14, f5.1 _ _ (by omega), f4.1 _ _ (by omega), f3.1 _ _ (by omega), f2.1 _ _ (by unfold Wlk; omega), f1.1 _ _ (by unfold Wgo; omega), a14]; rfl
        · show lb ((uL g6 66 k (((1 : Int64) <<< ((nI S0).toInt64 &&& 63)) &&& g6.2 65 12)).2 66 k2) S = true ↔ _
          by_cases e : k2 = k
          · rw [e, uL_s, lb_and, lb_one hS hS2, Q6.2.2.1 S hS2, Bool.and_eq_true, decide_eq_true_iff]
            exact ⟨fun a => ⟨rfl, a.1⟩, fun a => ⟨a.2, by rw [a.2]; exact (ftb_ft hS).mpr hf⟩⟩
          · rw [uL_n (by omega), z6 k2 hk2, lb_0]
            exact ⟨(fun a => by cases a), fun a => absurd a.1 e⟩
        · rw [a.1, a.2, wk_k0 w v.v hS Z]
          exact ⟨⟨hk, hS⟩, Int.le_refl _⟩
      obtain ⟨Fu, hFu⟩ := FU_ge (n := L) (by omega)
      obtain ⟨g8, b, o, e8, f8, r1, r2, r3⟩ := c_mins w v hL hk hf L 0 0 0 _ Fu (by omega) (Q6.keep f7) Y7 ⟨rfl, rfl⟩ (fun z => by rw [uI_s] at z; exact absurd z (by decide))
      rw [← hFu] at e8
      refine ⟨g8, b, o, ?_, fin Z r3, r2, F5.tr (((f6.tr f7).tr f8).mono Wre_pl)⟩
      rw [← r1]
      exact e8 _
