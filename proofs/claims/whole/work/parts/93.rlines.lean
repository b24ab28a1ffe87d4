/-! matters, naps, wishes, deals, in the reference -/
theorem thn_as {α β γ : Type} (r : Sum (Nat × Nat) α) (f : α → Sum (Nat × Nat) β) (g : β → Sum (Nat × Nat) γ) : thn (thn r f) g = thn r (fun a => thn (f a) g) := by cases r <;> rfl
theorem r_mtL {B : Nat → Nat} {n p : Nat} {S : TD} {h : HI} (X : TX B n) (T : TR B n h) (I : PIt S) (R : PRt S h) (C : RTk B n p h) (h3 : tc B n p ≠ 3) (hC : S.d.X < 4) : ∃ g, fX9_readMatter 101 h = some g ∧ Fr Wrd h g ∧ RLq B n (mtL B n S p) g := by
  obtain ⟨g1, a1, f1, R1, C1⟩ := r_rname (k := 2) X T I R C h3 (by decide) (show S.d.X < 6 by omega)
  have a1' : fX9_readName 101 h (2 : Int32) = some g1 := a1
  unfold fX9_readMatter
  rw [a1', Option.bind_some]
  have est : stP B n (decide (4 ≤ S.d.X)) p = adv B n p := by unfold stP; rw [decide_eq_false (by omega)]; rfl
  unfold mtL
  rw [est, ← thn_as]
  rcases C1 with ⟨e, y1, y2⟩ | ⟨w, p2, y1, y2, y3⟩
  · have y1' : thn (adv B n p) (newP B n (S.N 2) S.d.X) = .inl e := y1
    unfold fX9_told
    rw [y1', thn_l, rf_want y2, Option.bind_some, show ((1 : Int32)) = nI 1 from rfl, rf_nb y2, Option.bind_some, Option.bind_some, if_neg y2.f.1]
    exact ⟨g1, rfl, f1, Or.inl ⟨e, rfl, y2⟩⟩
  · have y1' : thn (adv B n p) (newP B n (S.N 2) S.d.X) = thn (tk B n p2) (fun q => .inr (w, q)) := y1
    rw [y1', thn_as]
    obtain ⟨v2, g2, a2, f2, C2⟩ := r_told (i := 7) (a := 1) (b := 999) X (T.rd f1) (Or.inr ⟨p2, rfl, y2⟩) (by decide) (by decide) (by decide)
    have a2' : fX9_told 101 g1 (1684628851 : Int64) (1 : Int32) (999 : Int32) = some (v2, g2) := by rw [kk.2.2.2.2.2.2.2.1]; exact a2
    rw [a2', Option.bind_some]
    have F2 := f1.tr f2.rd
    have R2 := R1.t f2
    have hg : ∀ f : Nat × Nat → Sum (Nat × Nat) (Nat × TD), thn (tk B n p2) (fun a => thn (Sum.inr (w, a)) (fun wp : List Nat × Nat => thn (takeP B n 135 wp.2) fun p3 => thn (nbP B n 1 999 p3) f)) = thn (thn (thn (tk B n p2) (takeP B n (128 + 7))) (nbP B n 1 999)) f := fun f => by rw [thn_as, thn_as]; rfl
    rcases C2 with ⟨e, z1, z2⟩ | ⟨x, p4, z1, z2, C4⟩
    · rw [if_neg z2.f.1]
      refine ⟨g2, rfl, F2, Or.inl ⟨e, ?_, z2⟩⟩
      have := hg (fun xp => .inr (xp.2, sMt S w xp.1))
      rw [z1] at this
      exact this
    · rw [if_pos C4.le, z2]
      have w2 : g2.2 110 (10 * 2 + cnt S.d 2) = lN (c8 w) := by rw [f2.2 _ _ (by unfold WT; omega)]; exact y3
      have e111 : g2.1 111 2 = nI S.d.X := (R2.nm I (k := 2) (by decide)).2.2.1
      simp only [Nat.reduceAdd]
      rw [e111]
      simp (disch := omega) only [gB, nI_clamp, nI_1]
      have F5 : Fr (fun a b => a = 115 ∧ b = S.d.X ∨ a = 111 ∧ b = 2) g2 (uI (uI g2 115 S.d.X (nI x)) 111 2 (nI (S.d.X + 1))) := (Fr.uI (by omega)).tr (Fr.uI (by omega))
      have F5' : Fr Wtl g2 (uI (uI g2 115 S.d.X (nI x)) 111 2 (nI (S.d.X + 1))) := F5.mono fun a b z => by unfold Wtl; omega
      refine ⟨_, rfl, F2.tr F5'.tl, Or.inr ⟨p4, sMt S w x, ?_, C4.l F5', ?_⟩⟩
      · have := hg (fun xp => .inr (xp.2, sMt S w xp.1))
        rw [z1, thn_as] at this
        exact this
      · have e := F5.1
        have e2 := F5.2
        obtain ⟨r_C, r_M, r_X, r_ho, r_st, r_di, r_wi, r_dm, r_dx, r_om, r_ox, r_sl, r_dr, r_w, r_W, r_D, r_np, r_t, r_un, r_n0, r_n1, r_nm⟩ := R2
        refine ⟨(e _ _ (by omega)).trans r_C, (e _ _ (by omega)).trans r_M, uI_s _ _ _ _, fun i hi => (e _ _ (by omega)).trans (r_ho i hi), fun i hi => (e _ _ (by omega)).trans (r_st i hi), fun i hi => ?_, fun m x hm hx => (e _ _ (by omega)).trans (r_wi m x hm hx), fun i hi => (e _ _ (by omega)).trans (r_dm i hi), fun i hi => (e _ _ (by omega)).trans (r_dx i hi), fun i hi => (e _ _ (by omega)).trans (r_om i hi), fun i hi => (e _ _ (by omega)).trans (r_ox i hi), fun i hi => (e _ _ (by omega)).trans (r_sl i hi), fun i hi => (e _ _ (by omega)).trans (r_dr i hi), fun m x hm hx => (e _ _ (by omega)).trans (r_w m x hm hx), (e _ _ (by omega)).trans r_W, (e _ _ (by omega)).trans r_D, (e _ _ (by omega)).trans r_np, (e _ _ (by omega)).trans r_t, (e _ _ (by omega)).trans r_un, fun z => (e _ _ (by omega)).trans (r_n0 z), fun z => ⟨(e _ _ (by omega)).trans (r_n1 z).1, fun i hi => ⟨(e _ _ (by omega)).trans ((r_n1 z).2 i hi).1, fun y => (e _ _ (by omega)).trans (((r_n1 z).2 i hi).2 y)⟩⟩, fun k2 i hk2 hi => ?_⟩
        · have hi2 : i < S.d.X + 1 := hi
          show _ = nI (ud S.d.di S.d.X x i)
          by_cases c : i = S.d.X
          · rw [c, ud_s, uI_n (by omega), uI_s]
          · rw [ud_n c, e _ _ (by omega)]; exact r_di i (by omega)
        · have hc2 := cnt_le I.1 k2
          rw [e2 _ _ (by omega)]
          show _ = lN (c8 (nN S.N 2 S.d.X w k2 i))
          unfold nN
          by_cases c : k2 = 2 ∧ i = S.d.X
          · rw [if_pos c, c.1, c.2]; exact w2
          · rw [if_neg c]
            refine r_nm k2 i hk2 ?_
            rcases (show k2 = 0 ∨ k2 = 1 ∨ k2 = 2 by omega) with z | z | z <;> subst z
            · exact hi
            · exact hi
            · have h9 : i < S.d.X + 1 := hi
              show i < S.d.X
              omega
theorem r_naL {B : Nat → Nat} {n p : Nat} {S : TD} {h : HI} (X : TX B n) (T : TR B n h) (R : PRt S h) (C : RTk B n p h) (h3 : tc B n p ≠ 3) (hC : S.d.np = 0) : ∃ g, fX9_readNap 101 h = some g ∧ Fr Wrd h g ∧ RLq B n (naL B n S p) g := by
  obtain ⟨g1, a1, f1, C1⟩ := rt_token X T C h3
  unfold fX9_readNap
  rw [a1, Option.bind_some]
  have est : stP B n (decide (S.d.np ≠ 0)) p = adv B n p := by unfold stP; rw [decide_eq_false (fun z => z hC)]; rfl
  unfold naL
  rw [est]
  obtain ⟨v2, g2, a2, f2, C2⟩ := r_nb (a := 1) (b := 99) X (T.t f1) (Or.inr ⟨tn B n p, rfl, C1⟩) (by decide) (by decide)
  have a2' : fX9_toldNumber 101 g1 (1 : Int32) (99 : Int32) = some (v2, g2) := a2
  rw [a2', Option.bind_some]
  have F2 := (f1.tr f2).rd
  have R2 := (R.t f1).t f2
  have F5 : Fr (fun a b => a = 101 ∧ b = 43) g2 (uI g2 101 43 v2) := Fr.uI (by omega)
  have F5' : Fr Wtl g2 (uI g2 101 43 v2) := F5.mono fun a b z => by unfold Wtl; omega
  have hg : ∀ f : Nat × Nat → Sum (Nat × Nat) (Nat × TD), thn (adv B n p) (fun p1 => thn (nbP B n 1 99 p1) f) = thn (thn (tk B n (tn B n p)) (nbP B n 1 99)) f := fun f => by rw [thn_as]; rfl
  rw [hg]
  rcases C2 with ⟨e, z1, z2⟩ | ⟨x, p4, z1, z2, C4⟩
  · refine ⟨_, rfl, F2.tr F5'.tl, Or.inl ⟨e, by rw [z1]; rfl, ?_⟩⟩
    exact ⟨(F5.1 _ _ (by omega)).trans z2.1, (F5.1 _ _ (by omega)).trans z2.2.1, z2.2.2⟩
  · refine ⟨_, rfl, F2.tr F5'.tl, Or.inr ⟨p4, sNp S x, by rw [z1, thn_as]; rfl, C4.l F5', ?_⟩⟩
    have e := F5.1
    have e2 := F5.2
    obtain ⟨r_C, r_M, r_X, r_ho, r_st, r_di, r_wi, r_dm, r_dx, r_om, r_ox, r_sl, r_dr, r_w, r_W, r_D, r_np, r_t, r_un, r_n0, r_n1, r_nm⟩ := R2
    exact ⟨(e _ _ (by omega)).trans r_C, (e _ _ (by omega)).trans r_M, (e _ _ (by omega)).trans r_X, fun i hi => (e _ _ (by omega)).trans (r_ho i hi), fun i hi => (e _ _ (by omega)).trans (r_st i hi), fun i hi => (e _ _ (by omega)).trans (r_di i hi), fun m x hm hx => (e _ _ (by omega)).trans (r_wi m x hm hx), fun i hi => (e _ _ (by omega)).trans (r_dm i hi), fun i hi => (e _ _ (by omega)).trans (r_dx i hi), fun i hi => (e _ _ (by omega)).trans (r_om i hi), fun i hi => (e _ _ (by omega)).trans (r_ox i hi), fun i hi => (e _ _ (by omega)).trans (r_sl i hi), fun i hi => (e _ _ (by omega)).trans (r_dr i hi), fun m x hm hx => (e _ _ (by omega)).trans (r_w m x hm hx), (e _ _ (by omega)).trans r_W, (e _ _ (by omega)).trans r_D, (uI_s _ _ _ _).trans z2, (e _ _ (by omega)).trans r_t, (e _ _ (by omega)).trans r_un, fun z => (e _ _ (by omega)).trans (r_n0 z), fun z => ⟨(e _ _ (by omega)).trans (r_n1 z).1, fun i hi => ⟨(e _ _ (by omega)).trans ((r_n1 z).2 i hi).1, fun y => (e _ _ (by omega)).trans (((r_n1 z).2 i hi).2 y)⟩⟩, fun k i hk hi => (e2 _ _ (by omega)).trans (r_nm k i hk hi)⟩
theorem r_addDe {S : TD} {h : HI} {i x o z : Nat} (R : PRt S h) (hC : S.d.D < 4) : ∃ g, (if inB ((4 : Int32) * (h.1 101 42)) 16 then (if inB (((4 : Int32) * (h.1 101 42)) + (1 : Int32)) 16 then (if inB (((4 : Int32) * (h.1 101 42)) + (2 : Int32)) 16 then (if inB (((4 : Int32) * (h.1 101 42)) + (3 : Int32)) 16 then some (uI (uI (uI (uI (uI h (101 + 16) (((4 : Int32) * (h.1 101 42)).toNatClampNeg) (nI i)) (101 + 16) ((((4 : Int32) * (h.1 101 42)) + (1 : Int32)).toNatClampNeg) (nI x)) (101 + 16) ((((4 : Int32) * (h.1 101 42)) + (2 : Int32)).toNatClampNeg) (nI o)) (101 + 16) ((((4 : Int32) * (h.1 101 42)) + (3 : Int32)).toNatClampNeg) (nI z)) 101 42 ((h.1 101 42) + (1 : Int32))) else none) else none) else none) else none) = some g ∧ Fr Wtl h g ∧ PRt (sDe S i x o z) g := by
  obtain ⟨r_C, r_M, r_X, r_ho, r_st, r_di, r_wi, r_dm, r_dx, r_om, r_ox, r_sl, r_dr, r_w, r_W, r_D, r_np, r_t, r_un, r_n0, r_n1, r_nm⟩ := R
  have eD : (4 : Int32) * nI S.d.D = nI (4 * S.d.D) := nI_m40 _
  rw [r_D, eD, show (1 : Int32) = nI 1 from rfl, show (2 : Int32) = nI 2 from rfl, show (3 : Int32) = nI 3 from rfl, nI_add, nI_add, nI_add, nI_add]
  simp (disch := omega) only [gB, nI_clamp, Nat.reduceAdd]
  have F7 : Fr (fun a b => a = 117 ∧ 4 * S.d.D ≤ b ∨ a = 101 ∧ b = 42) h (uI (uI (uI (uI (uI h 117 (4 * S.d.D) (nI i)) 117 (4 * S.d.D + 1) (nI x)) 117 (4 * S.d.D + 2) (nI o)) 117 (4 * S.d.D + 3) (nI z)) 101 42 (nI (S.d.D + 1))) := ((((Fr.uI (by omega)).tr (Fr.uI (by omega))).tr (Fr.uI (by omega))).tr (Fr.uI (by omega))).tr (Fr.uI (by omega))
  have v0 : (uI (uI (uI (uI (uI h 117 (4 * S.d.D) (nI i)) 117 (4 * S.d.D + 1) (nI x)) 117 (4 * S.d.D + 2) (nI o)) 117 (4 * S.d.D + 3) (nI z)) 101 42 (nI (S.d.D + 1))).1 117 (4 * S.d.D) = nI i := by rw [uI_n (by omega), uI_n (by omega), uI_n (by omega), uI_n (by omega), uI_s]
  have v1 : (uI (uI (uI (uI (uI h 117 (4 * S.d.D) (nI i)) 117 (4 * S.d.D + 1) (nI x)) 117 (4 * S.d.D + 2) (nI o)) 117 (4 * S.d.D + 3) (nI z)) 101 42 (nI (S.d.D + 1))).1 117 (4 * S.d.D + 1) = nI x := by rw [uI_n (by omega), uI_n (by omega), uI_n (by omega), uI_s]
  have v2 : (uI (uI (uI (uI (uI h 117 (4 * S.d.D) (nI i)) 117 (4 * S.d.D + 1) (nI x)) 117 (4 * S.d.D + 2) (nI o)) 117 (4 * S.d.D + 3) (nI z)) 101 42 (nI (S.d.D + 1))).1 117 (4 * S.d.D + 2) = nI o := by rw [uI_n (by omega), uI_n (by omega), uI_s]
  have v3 : (uI (uI (uI (uI (uI h 117 (4 * S.d.D) (nI i)) 117 (4 * S.d.D + 1) (nI x)) 117 (4 * S.d.D + 2) (nI o)) 117 (4 * S.d.D + 3) (nI z)) 101 42 (nI (S.d.D + 1))).1 117 (4 * S.d.D + 3) = nI z := by rw [uI_n (by omega), uI_s]
  have v4 : (uI (uI (uI (uI (uI h 117 (4 * S.d.D) (nI i)) 117 (4 * S.d.D + 1) (nI x)) 117 (4 * S.d.D + 2) (nI o)) 117 (4 * S.d.D + 3) (nI z)) 101 42 (nI (S.d.D + 1))).1 101 42 = nI (S.d.D + 1) := uI_s _ _ _ _
  generalize uI (uI (uI (uI (uI h 117 (4 * S.d.D) (nI i)) 117 (4 * S.d.D + 1) (nI x)) 117 (4 * S.d.D + 2) (nI o)) 117 (4 * S.d.D + 3) (nI z)) 101 42 (nI (S.d.D + 1)) = g at F7 v0 v1 v2 v3 v4
  refine ⟨g, rfl, F7.mono fun a b z => by unfold Wtl; omega, ?_⟩
  have e := F7.1
  have e2 := F7.2
  refine ⟨(e _ _ (by omega)).trans r_C, (e _ _ (by omega)).trans r_M, (e _ _ (by omega)).trans r_X, fun i hi => (e _ _ (by omega)).trans (r_ho i hi), fun i hi => (e _ _ (by omega)).trans (r_st i hi), fun i hi => (e _ _ (by omega)).trans (r_di i hi), fun m x hm hx => (e _ _ (by omega)).trans (r_wi m x hm hx), fun a ha => ?_, fun a ha => ?_, fun a ha => ?_, fun a ha => ?_, fun i hi => (e _ _ (by omega)).trans (r_sl i hi), fun i hi => (e _ _ (by omega)).trans (r_dr i hi), fun m x hm hx => (e _ _ (by omega)).trans (r_w m x hm hx), (e _ _ (by omega)).trans r_W, v4, (e _ _ (by omega)).trans r_np, (e _ _ (by omega)).trans r_t, (e _ _ (by omega)).trans r_un, fun z => (e _ _ (by omega)).trans (r_n0 z), fun z => ⟨(e _ _ (by omega)).trans (r_n1 z).1, fun i hi => ⟨(e _ _ (by omega)).trans ((r_n1 z).2 i hi).1, fun y => (e _ _ (by omega)).trans (((r_n1 z).2 i hi).2 y)⟩⟩, fun k i hk hi => (e2 _ _ (by omega)).trans (r_nm k i hk hi)⟩
  · have ha2 : a < S.d.D + 1 := ha
    show _ = nI (ud S.d.dm S.d.D i a)
    by_cases c : a = S.d.D
    · rw [c, ud_s]; exact v0
    · rw [ud_n c, e _ _ (by omega)]; exact r_dm a (by omega)
  · have ha2 : a < S.d.D + 1 := ha
    show _ = nI (ud S.d.dx S.d.D x a)
    by_cases c : a = S.d.D
    · rw [c, ud_s]; exact v1
    · rw [ud_n c, e _ _ (by omega)]; exact r_dx a (by omega)
  · have ha2 : a < S.d.D + 1 := ha
    show _ = nI (ud S.d.om S.d.D o a)
    by_cases c : a = S.d.D
    · rw [c, ud_s]; exact v2
    · rw [ud_n c, e _ _ (by omega)]; exact r_om a (by omega)
  · have ha2 : a < S.d.D + 1 := ha
    show _ = nI (ud S.d.ox S.d.D z a)
    by_cases c : a = S.d.D
    · rw [c, ud_s]; exact v3
    · rw [ud_n c, e _ _ (by omega)]; exact r_ox a (by omega)
theorem r_addWi {S : TD} {h : HI} {i x : Nat} {v : Int} (R : PRt S h) (hi : i < 6) (hx : x < 4) : ∃ g, (if inB (((4 : Int32) * nI i) + nI x) 24 then (if inB (((4 : Int32) * nI i) + nI x) 24 then some (uI (uI (uI h (101 + 24) ((((4 : Int32) * nI i) + nI x).toNatClampNeg) (1 : Int32)) (101 + 15) ((((4 : Int32) * nI i) + nI x).toNatClampNeg) (Int32.ofInt v)) 101 41 ((h.1 101 41) + (1 : Int32))) else none) else none) = some g ∧ Fr Wtl h g ∧ PRt (sWi S i x v) g := by
  obtain ⟨r_C, r_M, r_X, r_ho, r_st, r_di, r_wi, r_dm, r_dx, r_om, r_ox, r_sl, r_dr, r_w, r_W, r_D, r_np, r_t, r_un, r_n0, r_n1, r_nm⟩ := R
  rw [nI_m4, r_W, nI_1]
  simp (disch := omega) only [gB, nI_clamp, Nat.reduceAdd]
  have F7 : Fr (fun a b => (a = 125 ∨ a = 116) ∧ b = 4 * i + x ∨ a = 101 ∧ b = 41) h (uI (uI (uI h 125 (4 * i + x) 1) 116 (4 * i + x) (Int32.ofInt v)) 101 41 (nI (S.d.W + 1))) := ((Fr.uI (by omega)).tr (Fr.uI (by omega))).tr (Fr.uI (by omega))
  have v0 : (uI (uI (uI h 125 (4 * i + x) 1) 116 (4 * i + x) (Int32.ofInt v)) 101 41 (nI (S.d.W + 1))).1 125 (4 * i + x) = 1 := by rw [uI_n (by omega), uI_n (by omega), uI_s]
  have v1 : (uI (uI (uI h 125 (4 * i + x) 1) 116 (4 * i + x) (Int32.ofInt v)) 101 41 (nI (S.d.W + 1))).1 116 (4 * i + x) = Int32.ofInt v := by rw [uI_n (by omega), uI_s]
  have v4 : (uI (uI (uI h 125 (4 * i + x) 1) 116 (4 * i + x) (Int32.ofInt v)) 101 41 (nI (S.d.W + 1))).1 101 41 = nI (S.d.W + 1) := uI_s _ _ _ _
  generalize uI (uI (uI h 125 (4 * i + x) 1) 116 (4 * i + x) (Int32.ofInt v)) 101 41 (nI (S.d.W + 1)) = g at F7 v0 v1 v4
  refine ⟨g, rfl, F7.mono fun a b z => by unfold Wtl; omega, ?_⟩
  have e := F7.1
  have e2 := F7.2
  refine ⟨(e _ _ (by omega)).trans r_C, (e _ _ (by omega)).trans r_M, (e _ _ (by omega)).trans r_X, fun i hi => (e _ _ (by omega)).trans (r_ho i hi), fun i hi => (e _ _ (by omega)).trans (r_st i hi), fun i hi => (e _ _ (by omega)).trans (r_di i hi), fun a b ha hb => ?_, fun i hi => (e _ _ (by omega)).trans (r_dm i hi), fun i hi => (e _ _ (by omega)).trans (r_dx i hi), fun i hi => (e _ _ (by omega)).trans (r_om i hi), fun i hi => (e _ _ (by omega)).trans (r_ox i hi), fun i hi => (e _ _ (by omega)).trans (r_sl i hi), fun i hi => (e _ _ (by omega)).trans (r_dr i hi), fun a b ha hb => ?_, v4, (e _ _ (by omega)).trans r_D, (e _ _ (by omega)).trans r_np, (e _ _ (by omega)).trans r_t, (e _ _ (by omega)).trans r_un, fun z => (e _ _ (by omega)).trans (r_n0 z), fun z => ⟨(e _ _ (by omega)).trans (r_n1 z).1, fun i hi => ⟨(e _ _ (by omega)).trans ((r_n1 z).2 i hi).1, fun y => (e _ _ (by omega)).trans (((r_n1 z).2 i hi).2 y)⟩⟩, fun k i hk hi => (e2 _ _ (by omega)).trans (r_nm k i hk hi)⟩
  · show _ = Int32.ofInt (ud2 S.d.wi i x v a b)
    by_cases c : a = i ∧ b = x
    · rw [c.1, c.2, ud2_s]; exact v1
    · rw [ud2_n c, e _ _ (by omega)]; exact r_wi a b ha hb
  · show _ = b01 (ud2 S.w i x true a b)
    by_cases c : a = i ∧ b = x
    · rw [c.1, c.2, ud2_s]; exact v0
    · rw [ud2_n c, e _ _ (by omega)]; exact r_w a b ha hb
def dG5 (S : TD) (i x o : Nat) (zp : Nat × Nat) : Sum (Nat × Nat) (Nat × TD) := .inr (zp.2, sDe S i x o zp.1)
def dG4 (B : Nat → Nat) (n : Nat) (S : TD) (i x : Nat) (op : Nat × Nat) : Sum (Nat × Nat) (Nat × TD) := thn (odP B n (S.N 2) S.d.X (some x) op.2) (dG5 S i x op.1)
def dG3 (B : Nat → Nat) (n : Nat) (S : TD) (i x p3 : Nat) : Sum (Nat × Nat) (Nat × TD) := thn (odP B n (S.N 1) S.d.M (some i) p3) (dG4 B n S i x)
def dG2 (B : Nat → Nat) (n : Nat) (S : TD) (i : Nat) (xp : Nat × Nat) : Sum (Nat × Nat) (Nat × TD) := thn (takeP B n 138 xp.2) (dG3 B n S i xp.1)
def dG1 (B : Nat → Nat) (n : Nat) (S : TD) (ip : Nat × Nat) : Sum (Nat × Nat) (Nat × TD) := thn (odP B n (S.N 2) S.d.X none ip.2) (dG2 B n S ip.1)
theorem deL_e {B : Nat → Nat} {n : Nat} {S : TD} {p : Nat} : deL B n S p = thn (stP B n (decide (4 ≤ S.d.D)) p) (fun p1 => thn (odP B n (S.N 1) S.d.M none p1) (dG1 B n S)) := rfl
theorem thn_pr {α β : Type} (r : Sum (Nat × Nat) Nat) (i : α) (g : α × Nat → Sum (Nat × Nat) β) : thn (thn r (fun q => .inr (i, q))) g = thn r (fun q => g (i, q)) := by cases r <;> rfl
theorem dG1_e {B : Nat → Nat} {n : Nat} {S : TD} {i : Nat} (r : Sum (Nat × Nat) Nat) : thn r (fun q => dG1 B n S (i, q)) = thn (thn r (odP B n (S.N 2) S.d.X none)) (dG2 B n S i) := by cases r <;> rfl
theorem dG2_e {B : Nat → Nat} {n : Nat} {S : TD} {i x : Nat} (r : Sum (Nat × Nat) Nat) : thn r (fun q => dG2 B n S i (x, q)) = thn (thn r (takeP B n (128 + 10))) (dG3 B n S i x) := by cases r <;> rfl
theorem dG3_e {B : Nat → Nat} {n : Nat} {S : TD} {i x : Nat} (r : Sum (Nat × Nat) Nat) : thn r (dG3 B n S i x) = thn (thn r (odP B n (S.N 1) S.d.M (some i))) (dG4 B n S i x) := by cases r <;> rfl
theorem dG4_e {B : Nat → Nat} {n : Nat} {S : TD} {i x o : Nat} (r : Sum (Nat × Nat) Nat) : thn r (fun q => dG4 B n S i x (o, q)) = thn (thn r (odP B n (S.N 2) S.d.X (some x))) (dG5 S i x o) := by cases r <;> rfl
theorem r_deL {B : Nat → Nat} {n p : Nat} {S : TD} {h : HI} (X : TX B n) (T : TR B n h) (I : PIt S) (R : PRt S h) (C : RTk B n p h) (h3 : tc B n p ≠ 3) (hC : S.d.D < 4) : ∃ g, fX9_readDeal 101 h = some g ∧ Fr Wrd h g ∧ RLq B n (deL B n S p) g := by
  have hM := I.1.M6
  have hX := I.1.X4
  obtain ⟨g1, a1, f1, C1⟩ := rt_token X T C h3
  unfold fX9_readDeal
  rw [a1, Option.bind_some]
  have est : stP B n (decide (4 ≤ S.d.D)) p = adv B n p := by unfold stP; rw [decide_eq_false (by omega)]; rfl
  rw [deL_e, est, ← thn_as]
  have nm : ∀ {g k}, Fr WT h g → k < 3 → NmR k (cnt S.d k) (S.N k) g := fun {g k} F hk => (R.t F).nm I hk
  obtain ⟨v2, g2, a2, f2, C2⟩ := r_old (bt := none) X (T.t f1) (nm f1 (k := 1) (by decide)) (fun j z => by cases z) (Or.inr ⟨tn B n p, rfl, C1⟩)
  have a2' : fX9_old 101 g1 (1 : Int32) (-1 : Int32) = some (v2, g2) := a2
  rw [a2', Option.bind_some]
  have F2 := f1.tr f2
  rcases C2 with ⟨e, z1, z2⟩ | ⟨i, p2, z1, ⟨z2, l2⟩, C2⟩
  · have z1' : thn (adv B n p) (odP B n (S.N 1) S.d.M none) = .inl e := z1
    rw [rf_old z2, Option.bind_some, rf_want z2, Option.bind_some, rf_old z2, Option.bind_some, rf_old z2, Option.bind_some, if_neg z2.f.1, z1', thn_l]
    exact ⟨g2, rfl, F2.rd, Or.inl ⟨e, rfl, z2⟩⟩
  have z1' : thn (adv B n p) (odP B n (S.N 1) S.d.M none) = thn (tk B n p2) (fun q => .inr (i, q)) := z1
  rw [z1', thn_pr, dG1_e]
  have l2' : i < S.d.M := l2
  obtain ⟨v3, g3, a3, f3, C3⟩ := r_old (bt := none) X (T.t F2) (nm F2 (k := 2) (by decide)) (fun j z => by cases z) (Or.inr ⟨p2, rfl, C2⟩)
  have a3' : fX9_old 101 g2 (2 : Int32) (-1 : Int32) = some (v3, g3) := a3
  rw [a3', Option.bind_some]
  have F3 := F2.tr f3
  rcases C3 with ⟨e, y1, y2⟩ | ⟨x, p3, y1, ⟨y2, l3⟩, C3⟩
  · have y1' : thn (tk B n p2) (odP B n (S.N 2) S.d.X none) = .inl e := y1
    rw [rf_want y2, Option.bind_some, rf_old y2, Option.bind_some, rf_old y2, Option.bind_some, if_neg y2.f.1, y1', thn_l]
    exact ⟨g3, rfl, F3.rd, Or.inl ⟨e, rfl, y2⟩⟩
  have y1' : thn (tk B n p2) (odP B n (S.N 2) S.d.X none) = thn (tk B n p3) (fun q => .inr (x, q)) := y1
  rw [y1', thn_pr, dG2_e]
  have l3' : x < S.d.X := l3
  obtain ⟨g4, a4, f4, C4⟩ := r_want (i := 10) X (T.t F3) (Or.inr ⟨p3, rfl, C3⟩) (by decide)
  have a4' : fX9_want 101 g3 (6713202 : Int64) = some g4 := by rw [kk.2.2.2.2.2.2.2.2.2.2]; exact a4
  rw [a4', Option.bind_some]
  have F4 := F3.tr f4
  rcases C4 with ⟨e, x1, x2⟩ | ⟨p4, x1, C4⟩
  · rw [rf_old x2, Option.bind_some, rf_old x2, Option.bind_some, if_neg x2.f.1, x1, thn_l]
    exact ⟨g4, rfl, F4.rd, Or.inl ⟨e, rfl, x2⟩⟩
  rw [x1, dG3_e, z2, y2]
  obtain ⟨v5, g5, a5, f5, C5⟩ := r_old (bt := some i) X (T.t F4) (nm F4 (k := 1) (by decide)) (fun j z => by have := Option.some.inj z; omega) (Or.inr ⟨p4, rfl, C4⟩)
  have a5' : fX9_old 101 g4 (1 : Int32) (nI i) = some (v5, g5) := a5
  rw [a5', Option.bind_some]
  have F5 := F4.tr f5
  rcases C5 with ⟨e, w1, w2⟩ | ⟨o, p5, w1, ⟨w2, l5⟩, C5⟩
  · have w1' : thn (tk B n p4) (odP B n (S.N 1) S.d.M (some i)) = .inl e := w1
    rw [rf_old w2, Option.bind_some, if_neg w2.f.1, w1', thn_l]
    exact ⟨g5, rfl, F5.rd, Or.inl ⟨e, rfl, w2⟩⟩
  have w1' : thn (tk B n p4) (odP B n (S.N 1) S.d.M (some i)) = thn (tk B n p5) (fun q => .inr (o, q)) := w1
  rw [w1', thn_pr, dG4_e]
  obtain ⟨v6, g6, a6, f6, C6⟩ := r_old (bt := some x) X (T.t F5) (nm F5 (k := 2) (by decide)) (fun j z => by have := Option.some.inj z; omega) (Or.inr ⟨p5, rfl, C5⟩)
  have a6' : fX9_old 101 g5 (2 : Int32) (nI x) = some (v6, g6) := a6
  rw [a6', Option.bind_some]
  have F6 := F5.tr f6
  rcases C6 with ⟨e, u1, u2⟩ | ⟨z, p6, u1, ⟨u2, l6⟩, C6⟩
  · have u1' : thn (tk B n p5) (odP B n (S.N 2) S.d.X (some x)) = .inl e := u1
    rw [if_neg u2.f.1, u1', thn_l]
    exact ⟨g6, rfl, F6.rd, Or.inl ⟨e, rfl, u2⟩⟩
  have u1' : thn (tk B n p5) (odP B n (S.N 2) S.d.X (some x)) = thn (tk B n p6) (fun q => .inr (z, q)) := u1
  rw [u1', thn_pr, if_pos C6.le, w2, u2]
  obtain ⟨g7, a7, f7, R7⟩ := r_addDe (i := i) (x := x) (o := o) (z := z) (R.t F6) hC
  rw [a7]
  exact ⟨g7, rfl, F6.rd.tr f7.tl, Or.inr ⟨p6, sDe S i x o z, rfl, C6.l f7, R7⟩⟩
theorem r_wiL {B : Nat → Nat} {n p : Nat} {S : TD} {h : HI} (X : TX B n) (T : TR B n h) (I : PIt S) (R : PRt S h) (C : RTk B n p h) (h3 : tc B n p ≠ 3) (hC : S.d.W < 24) : ∃ g, fX9_readWish 101 h = some g ∧ Fr Wrd h g ∧ RLq B n (wiL B n S p) g := by
  have hM := I.1.M6
  have hX := I.1.X4
  obtain ⟨g1, a1, f1, C1⟩ := rt_token X T C h3
  unfold fX9_readWish
  rw [a1, Option.bind_some]
  have est : stP B n (decide (24 ≤ S.d.W)) p = adv B n p := by unfold stP; rw [decide_eq_false (by omega)]; rfl
  unfold wiL
  rw [est, ← thn_as]
  have nm : ∀ {g k}, Fr WT h g → k < 3 → NmR k (cnt S.d k) (S.N k) g := fun {g k} F hk => (R.t F).nm I hk
  obtain ⟨v2, g2, a2, f2, C2⟩ := r_old (bt := none) X (T.t f1) (nm f1 (k := 1) (by decide)) (fun j z => by cases z) (Or.inr ⟨tn B n p, rfl, C1⟩)
  have a2' : fX9_old 101 g1 (1 : Int32) (-1 : Int32) = some (v2, g2) := a2
  rw [a2', Option.bind_some]
  have F2 := f1.tr f2
  rcases C2 with ⟨e, z1, z2⟩ | ⟨i, p2, z1, ⟨z2, l2⟩, C2⟩
  · have z1' : thn (adv B n p) (odP B n (S.N 1) S.d.M none) = .inl e := z1
    rw [if_neg z2.f.1, z1', thn_l]
    exact ⟨g2, rfl, F2.rd, Or.inl ⟨e, rfl, z2⟩⟩
  have z1' : thn (adv B n p) (odP B n (S.N 1) S.d.M none) = thn (tk B n p2) (fun q => .inr (i, q)) := z1
  rw [z1', thn_as, if_pos C2.le, z2]
  have l2' : i < S.d.M := l2
  show ∃ g, _ ∧ _ ∧ RLq B n (thn (tk B n p2) (fun a => thn (tdP B n (S.N 2) S.d.X a) fun xp => thn (if S.w i xp.1 = true then .inl (3, tp B n xp.2) else adv B n xp.2) fun p3 => thn (woP B n p3) fun vp => .inr (vp.2, sWi S i xp.1 vp.1))) g
  have R2 := R.t F2
  have n2 := nm F2 (k := 2) (by decide)
  have f0 : fX9_find 101 g2 (2 : Int32) = _ := r_find0 n2
  -- behind a fault nothing is done
  have t54 : ∀ (g : HI) (e : Nat × Nat) (a : Int32), RFl e.1 e.2 g → fX9_readWish_54 101 g a = some g := fun g e a z => by
    unfold fX9_readWish_54
    rw [rf_old z, Option.bind_some, rf_signed z, Option.bind_some, if_neg z.f.1]
  generalize hF : (fun a => thn (tdP B n (S.N 2) S.d.X a) fun xp => thn (if S.w i xp.1 = true then (.inl (3, tp B n xp.2) : Sum (Nat × Nat) Nat) else adv B n xp.2) fun p3 => thn (woP B n p3) fun vp => (.inr (vp.2, sWi S i xp.1 vp.1) : Sum (Nat × Nat) (Nat × TD))) = Fq
  have ev : Fq p2 = thn (tdP B n (S.N 2) S.d.X p2) fun xp => thn (if S.w i xp.1 = true then .inl (3, tp B n xp.2) else adv B n xp.2) fun p3 => thn (woP B n p3) fun vp => .inr (vp.2, sWi S i xp.1 vp.1) := by rw [← hF]
  by_cases c1 : tc B n p2 = 1
  · have rf : fX9_find 101 g2 (2 : Int32) = some (ofO (fiP B n (S.N 2) S.d.X p2), g2) := r_find n2 C2 c1
    rw [rf, Option.bind_some, r_isN C2, Option.bind_some, decide_eq_true c1, if_neg b01t]
    cases hf : fiP B n (S.N 2) S.d.X p2 with
    | none =>
      rw [hf] at rf
      rw [show ofO none = -1 from rfl, if_pos m1lt]
      unfold fX9_readWish_54 fX9_old fX9_old_52
      obtain ⟨g9, e9, b1, b2, b3, b4⟩ := rt_wrong X C2 (k := 5) (by decide) (by decide)
      rw [if_pos C2.le, rf, Option.bind_some, r_isN C2, Option.bind_some, decide_eq_true c1, if_neg b01t, show ofO none = -1 from rfl, if_neg (show ¬ (0 : Int32) ≤ -1 by decide), show (5 : Int32) = nI 5 from rfl, b1, Option.bind_some, if_neg b3.f.2, Option.bind_some, rf_signed b3, Option.bind_some, if_neg b3.f.1]
      refine ⟨g9, rfl, (F2.tr b2).rd, Or.inl ⟨e9, b4 Fq (fun _ => ?_), b3⟩⟩
      rw [ev]; unfold tdP; rw [if_pos c1, hf]; rfl
    | some x =>
      rw [hf] at rf
      have hx := fnd_in hf
      have etd : tdP B n (S.N 2) S.d.X p2 = .inr (x, p2) := by unfold tdP; rw [if_pos c1, hf]
      rw [show ofO (some x) = nI x from rfl, if_neg (nI_pos (by omega))]
      have ew : g2.1 (101 + 24) (4 * i + x) = b01 (S.w i x) := by
        obtain ⟨r_C, r_M, r_X, r_ho, r_st, r_di, r_wi, r_dm, r_dx, r_om, r_ox, r_sl, r_dr, r_w, r_W, r_D, r_np, r_t, r_un, r_n0, r_n1, r_nm⟩ := R2
        exact r_w i x (by omega) (by omega)
      rw [nI_m4]
      simp (disch := omega) only [gB, nI_clamp]
      rw [ew]
      cases hw : S.w i x with
      | true =>
        obtain ⟨g9, e9, b1, b2, b3, b4⟩ := rt_wrong X C2 (k := 3) (by decide) (by decide)
        rw [if_neg b01t, show (3 : Int32) = nI 3 from rfl, b1, Option.bind_some, t54 g9 e9 _ b3]
        refine ⟨g9, rfl, (F2.tr b2).rd, Or.inl ⟨e9, b4 Fq (fun _ => ?_), b3⟩⟩
        rw [ev, etd, thn_in]
        show thn (if S.w i x = true then _ else _) _ = _
        rw [hw, if_pos rfl]; rfl
      | false =>
        rw [if_pos b01f]
        have evF : thn (tk B n p2) Fq = thn (tk B n (tn B n p2)) (fun p3 => thn (woP B n p3) fun vp => .inr (vp.2, sWi S i x vp.1)) := by
          rw [tkn (by omega), thn_in, ev, etd, thn_in]
          show thn (if S.w i x = true then _ else _) _ = _
          rw [hw, if_neg (by decide)]; rfl
        rw [evF]
        unfold fX9_readWish_54
        obtain ⟨gt, at1, ft, Ct⟩ := rt_token X (T.t F2) C2 (by omega)
        have a3' : fX9_old 101 g2 (2 : Int32) (-1 : Int32) = some (nI x, gt) := by
          unfold fX9_old fX9_old_52
          rw [if_pos C2.le, rf, Option.bind_some, r_isN C2, Option.bind_some, decide_eq_true c1, if_neg b01t, show ofO (some x) = nI x from rfl, if_pos (nI_pos' (by omega)), if_neg (fun z => nI_ne_m1 (c := x) (by omega) z.symm), if_pos C2.f, at1, Option.bind_some]
        rw [a3', Option.bind_some]
        have F3 := F2.tr ft
        obtain ⟨v4, g4, a4, f4, C4⟩ := r_sgn X (T.t F3) (Or.inr ⟨tn B n p2, rfl, Ct⟩)
        rw [a4, Option.bind_some]
        have F4 := F3.tr f4
        rcases C4 with ⟨e, y1, y2⟩ | ⟨vv, p4, y1, y2, C4⟩
        · rw [if_neg y2.f.1]
          refine ⟨g4, rfl, F4.rd, Or.inl ⟨e, ?_, y2⟩⟩
          rw [← thn_as, y1]; rfl
        · rw [if_pos C4.le, y2]
          obtain ⟨g7, a7, f7, R7⟩ := r_addWi (i := i) (x := x) (v := vv) (R.t F4) (by omega) (by omega)
          rw [a7]
          refine ⟨g7, rfl, F4.rd.tr f7.tl, Or.inr ⟨p4, sWi S i x vv, ?_, C4.l f7, R7⟩⟩
          rw [← thn_as, y1, thn_as]; rfl
  · rw [f0, Option.bind_some, r_isN C2, Option.bind_some, decide_eq_false c1, if_pos b01f]
    unfold fX9_readWish_54 fX9_old fX9_old_52
    obtain ⟨g9, e9, b1, b2, b3, b4⟩ := rt_wrong X C2 (k := 2) (by decide) (by decide)
    rw [if_pos C2.le, f0, Option.bind_some, r_isN C2, Option.bind_some, decide_eq_false c1, if_pos b01f, show (2 : Int32) = nI 2 from rfl, b1, Option.bind_some, if_neg b3.f.2, Option.bind_some, rf_signed b3, Option.bind_some, if_neg b3.f.1]
    refine ⟨g9, rfl, (F2.tr b2).rd, Or.inl ⟨e9, b4 Fq (fun _ => ?_), b3⟩⟩
    rw [ev]; unfold tdP; rw [if_neg c1]; rfl
