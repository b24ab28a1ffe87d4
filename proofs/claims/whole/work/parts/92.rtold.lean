/-! what a text has told so far, in the reference; its lines -/
def PRt (S : TD) (h : HI) : Prop := h.1 111 0 = nI S.d.C ∧ h.1 111 1 = nI S.d.M ∧ h.1 111 2 = nI S.d.X ∧ (∀ i, i < S.d.C → h.1 113 i = nI (S.d.ho i)) ∧ (∀ i, i < S.d.M → h.1 114 i = nI (S.d.st i)) ∧ (∀ i, i < S.d.X → h.1 115 i = nI (S.d.di i)) ∧ (∀ m x, m < 6 → x < 4 → h.1 116 (4 * m + x) = Int32.ofInt (S.d.wi m x)) ∧ (∀ i, i < S.d.D → h.1 117 (4 * i) = nI (S.d.dm i)) ∧ (∀ i, i < S.d.D → h.1 117 (4 * i + 1) = nI (S.d.dx i)) ∧ (∀ i, i < S.d.D → h.1 117 (4 * i + 2) = nI (S.d.om i)) ∧ (∀ i, i < S.d.D → h.1 117 (4 * i + 3) = nI (S.d.ox i)) ∧ (∀ i, i < S.d.C → h.1 123 i = b01 (S.d.sl i)) ∧ (∀ i, i < S.d.M → h.1 124 i = b01 (S.d.dr i)) ∧ (∀ m x, m < 6 → x < 4 → h.1 125 (4 * m + x) = b01 (S.w m x)) ∧ h.1 101 41 = nI S.d.W ∧ h.1 101 42 = nI S.d.D ∧ h.1 101 43 = nI S.d.np ∧ h.1 101 47 = b01 S.t ∧ h.1 101 18 = nI S.d.un ∧ (S.t = false → h.1 101 17 = 0) ∧ (S.t = true → h.1 101 17 = nI S.d.ru.length ∧ ∀ i, i < S.d.ru.length → h.1 103 i = nI (rco (S.d.ru.getD i 0)) ∧ (S.d.ru.getD i 0 < 10000 → h.1 104 i = nI (S.d.ru.getD i 0))) ∧ ∀ k i, k < 3 → i < cnt S.d k → h.2 110 (10 * k + i) = lN (c8 (S.N k i))
def Wtl (a b : Nat) : Prop := a = 111 ∨ 113 ≤ a ∧ a ≤ 117 ∨ 123 ≤ a ∧ a ≤ 125 ∨ a = 101 ∧ (b = 41 ∨ b = 42 ∨ b = 43 ∨ b = 47 ∨ b = 18 ∨ b = 17) ∨ a = 103 ∨ a = 104 ∨ a = 110
/-- all that the reference writes while it reads a text -/
def Wrd (a b : Nat) : Prop := WT a b ∨ Wtl a b ∨ a = 107 ∨ a = 101 ∧ (b = 21 ∨ b = 22)
theorem Fr.rd {h g : HI} (F : Fr WT h g) : Fr Wrd h g := F.mono fun _ _ z => Or.inl z
theorem Fr.tl {h g : HI} (F : Fr Wtl h g) : Fr Wrd h g := F.mono fun _ _ z => Or.inr (Or.inl z)
theorem TR.rd {B : Nat → Nat} {n : Nat} {h g : HI} (T : TR B n h) (F : Fr Wrd h g) : TR B n g := T.keep F (fun a b p q => by unfold Wrd WT Wtl at q; omega)
theorem PRt.keep {S : TD} {h g : HI} {W : Nat → Nat → Prop} (R : PRt S h) (F : Fr W h g) (hd : ∀ a b, Wtl a b → ¬ W a b) : PRt S g := by
  obtain ⟨r_C, r_M, r_X, r_ho, r_st, r_di, r_wi, r_dm, r_dx, r_om, r_ox, r_sl, r_dr, r_w, r_W, r_D, r_np, r_t, r_un, r_n0, r_n1, r_nm⟩ := R
  have e : ∀ a b, Wtl a b → g.1 a b = h.1 a b := fun a b z => F.1 a b (hd a b z)
  have e2 : ∀ a b, Wtl a b → g.2 a b = h.2 a b := fun a b z => F.2 a b (hd a b z)
  exact ⟨(e _ _ (by unfold Wtl; omega)).trans r_C, (e _ _ (by unfold Wtl; omega)).trans r_M, (e _ _ (by unfold Wtl; omega)).trans r_X, fun i hi => (e _ _ (by unfold Wtl; omega)).trans (r_ho i hi), fun i hi => (e _ _ (by unfold Wtl; omega)).trans (r_st i hi), fun i hi => (e _ _ (by unfold Wtl; omega)).trans (r_di i hi), fun m x hm hx => (e _ _ (by unfold Wtl; omega)).trans (r_wi m x hm hx), fun i hi => (e _ _ (by unfold Wtl; omega)).trans (r_dm i hi), fun i hi => (e _ _ (by unfold Wtl; omega)).trans (r_dx i hi), fun i hi => (e _ _ (by unfold Wtl; omega)).trans (r_om i hi), fun i hi => (e _ _ (by unfold Wtl; omega)).trans (r_ox i hi), fun i hi => (e _ _ (by unfold Wtl; omega)).trans (r_sl i hi), fun i hi => (e _ _ (by unfold Wtl; omega)).trans (r_dr i hi), fun m x hm hx => (e _ _ (by unfold Wtl; omega)).trans (r_w m x hm hx), (e _ _ (by unfold Wtl; omega)).trans r_W, (e _ _ (by unfold Wtl; omega)).trans r_D, (e _ _ (by unfold Wtl; omega)).trans r_np, (e _ _ (by unfold Wtl; omega)).trans r_t, (e _ _ (by unfold Wtl; omega)).trans r_un, fun z => (e _ _ (by unfold Wtl; omega)).trans (r_n0 z), fun z => ⟨(e _ _ (by unfold Wtl; omega)).trans (r_n1 z).1, fun i hi => ⟨(e _ _ (by unfold Wtl; omega)).trans ((r_n1 z).2 i hi).1, fun y => (e _ _ (by unfold Wtl; omega)).trans (((r_n1 z).2 i hi).2 y)⟩⟩, fun k i hk hi => (e2 _ _ (by unfold Wtl; omega)).trans (r_nm k i hk hi)⟩
theorem PRt.t {S : TD} {h g : HI} (R : PRt S h) (F : Fr WT h g) : PRt S g := R.keep F (fun a b p q => by unfold WT at q; unfold Wtl at p; omega)
theorem cnt_le {d : HD} (w : HDw d) (k : Nat) : cnt d k ≤ 6 := by
  have h1 := w.C6
  have h2 := w.M6
  have h3 := w.X4
  unfold cnt
  split
  · omega
  · split <;> omega
theorem PRt.nm {S : TD} {h : HI} (I : PIt S) (R : PRt S h) {k : Nat} (hk : k < 3) : NmR k (cnt S.d k) (S.N k) h := by
  obtain ⟨r_C, r_M, r_X, r_ho, r_st, r_di, r_wi, r_dm, r_dx, r_om, r_ox, r_sl, r_dr, r_w, r_W, r_D, r_np, r_t, r_un, r_n0, r_n1, r_nm⟩ := R
  refine ⟨hk, cnt_le I.1 k, ?_, fun i hi => r_nm k i hk hi, fun i hi => I.2.1 k i hk hi, fun i j hi hj => I.2.2.1 k i j hk hi hj⟩
  rcases (show k = 0 ∨ k = 1 ∨ k = 2 by omega) with z | z | z <;> subst z
  · exact r_C
  · exact r_M
  · exact r_X
def RLq (B : Nat → Nat) (n : Nat) (r : Sum (Nat × Nat) (Nat × TD)) (h : HI) : Prop := (∃ e, r = .inl e ∧ RFl e.1 e.2 h) ∨ ∃ p S, r = thn (tk B n p) (fun q => .inr (q, S)) ∧ RTk B n p h ∧ PRt S h
theorem RTk.keep {B : Nat → Nat} {n p : Nat} {h g : HI} {W : Nat → Nat → Prop} (C : RTk B n p h) (F : Fr W h g) (hd : ∀ a b, WT a b → ¬ W a b) : RTk B n p g := by
  obtain ⟨c1, c2, c3, c4, c5, c6, c7, c8⟩ := C
  have e : ∀ b, WT 101 b → g.1 101 b = h.1 101 b := fun b z => F.1 _ _ (hd _ _ z)
  exact ⟨c1, fun z => (e _ (by unfold WT; omega)).trans (c2 z), (e _ (by unfold WT; omega)).trans c3, (e _ (by unfold WT; omega)).trans c4, fun z => (e _ (by unfold WT; omega)).trans (c5 z), fun z => (F.2 _ _ (hd _ _ (by unfold WT; omega))).trans (c6 z), (e _ (by unfold WT; omega)).trans c7, (e _ (by unfold WT; omega)).trans c8⟩
theorem RTk.l {B : Nat → Nat} {n p : Nat} {h g : HI} (C : RTk B n p h) (F : Fr Wtl h g) : RTk B n p g := C.keep F (fun a b p q => by unfold WT at p; unfold Wtl at q; omega)
/-- a new name: it lies behind the last one, the rows are as before -/
def RNq (B : Nat → Nat) (n : Nat) (S : TD) (k : Nat) (r : Sum (Nat × Nat) (List Nat × Nat)) (h : HI) : Prop := PRt S h ∧ ((∃ e, r = .inl e ∧ RFl e.1 e.2 h) ∨ ∃ w p, r = thn (tk B n p) (fun q => .inr (w, q)) ∧ RTk B n p h ∧ h.2 110 (10 * k + cnt S.d k) = lN (c8 w))
theorem r_rname {B : Nat → Nat} {n p k : Nat} {S : TD} {h : HI} (X : TX B n) (T : TR B n h) (I : PIt S) (R : PRt S h) (C : RTk B n p h) (h3 : tc B n p ≠ 3) (hk : k < 3) (hc : cnt S.d k < 6) : ∃ g, fX9_readName 101 h (nI k) = some g ∧ Fr Wrd h g ∧ RNq B n S k (thn (adv B n p) (newP B n (S.N k) (cnt S.d k))) g := by
  obtain ⟨g1, a1, f1, C1⟩ := rt_token X T C h3
  have R1 := R.t f1
  unfold fX9_readName fX9_readName_32
  rw [a1, Option.bind_some, r_isN C1, Option.bind_some]
  have ea : adv B n p = tk B n (tn B n p) := rfl
  have bad : ∀ v, 1 ≤ v → v ≤ 5 → (tc B n (tn B n p) ≠ 3 → newP B n (S.N k) (cnt S.d k) (tn B n p) = .inl (v, tp B n (tn B n p))) → ∃ g, ((fX9_wrong 101 g1 (nI v)).bind fun h6 => (if (h6.1 101 2) ≤ 0 then (if inB (nI k) 3 then (if inB (((10 : Int32) * nI k) + (h6.1 (101 + 10) ((nI k).toNatClampNeg))) 30 then ((fX9_token 101 (uL h6 (101 + 9) ((((10 : Int32) * nI k) + (h6.1 (101 + 10) ((nI k).toNatClampNeg))).toNatClampNeg) (h6.2 101 9))).bind fun h4 => some h4) else none) else none) else some h6)) = some g ∧ Fr Wrd h g ∧ RNq B n S k (thn (adv B n p) (newP B n (S.N k) (cnt S.d k))) g := by
    intro v h1 h5 hv
    obtain ⟨g, e, b1, b2, b3, b4⟩ := rt_wrong X C1 h1 h5
    rw [b1, Option.bind_some, if_neg b3.f.1]
    exact ⟨g, rfl, (f1.tr b2).rd, R1.t b2, Or.inl ⟨e, by rw [ea]; exact b4 _ hv, b3⟩⟩
  by_cases q : tc B n (tn B n p) = 1
  · have hw := tw_ok (Or.inl q)
    rw [decide_eq_true q, if_neg b01t, r_find (R1.nm I hk) C1 q, Option.bind_some]
    cases z : fiP B n (S.N k) (cnt S.d k) (tn B n p) with
    | none =>
      rw [show ofO none = -1 from rfl, if_pos m1lt, if_pos C1.le]
      have e111 : g1.1 (101 + 10) k = nI (cnt S.d k) := (R1.nm I hk).2.2.1
      simp (disch := omega) only [gB, nI_clamp]
      rw [e111, show (10 : Int32) = nI 10 from rfl, nI_mu, nI_add]
      simp (disch := omega) only [gB, nI_clamp, Nat.reduceAdd]
      have f2 : Fr (fun a b => a = 110 ∧ b = 10 * k + cnt S.d k) g1 (uL g1 110 (10 * k + cnt S.d k) (g1.2 101 9)) := Fr.uL (by omega)
      have C2 : RTk B n (tn B n p) (uL g1 110 (10 * k + cnt S.d k) (g1.2 101 9)) := C1.keep f2 (fun a b p q => by unfold WT at p; omega)
      have R2 : PRt S (uL g1 110 (10 * k + cnt S.d k) (g1.2 101 9)) := by
        obtain ⟨r_C, r_M, r_X, r_ho, r_st, r_di, r_wi, r_dm, r_dx, r_om, r_ox, r_sl, r_dr, r_w, r_W, r_D, r_np, r_t, r_un, r_n0, r_n1, r_nm⟩ := R1
        refine ⟨r_C, r_M, r_X, r_ho, r_st, r_di, r_wi, r_dm, r_dx, r_om, r_ox, r_sl, r_dr, r_w, r_W, r_D, r_np, r_t, r_un, r_n0, r_n1, fun k2 i hk2 hi => ?_⟩
        have hc2 := cnt_le I.1 k2
        have : ¬ (110 = 110 ∧ 10 * k2 + i = 10 * k + cnt S.d k) := by
          rintro ⟨_, z⟩
          have : k2 = k := by omega
          subst this
          omega
        rw [uL_n this]
        exact r_nm k2 i hk2 hi
      have v2 : (uL g1 110 (10 * k + cnt S.d k) (g1.2 101 9)).2 110 (10 * k + cnt S.d k) = lN (c8 (tw B n (tn B n p))) := by rw [uL_s]; exact C1.2.2.2.2.2.1 (Or.inl q)
      generalize uL g1 110 (10 * k + cnt S.d k) (g1.2 101 9) = g2 at f2 C2 R2 v2
      have F2 : Fr Wrd h g2 := f1.rd.tr (f2.mono fun a b z => by unfold Wrd Wtl; omega)
      obtain ⟨g3, a3, f3, C3⟩ := rt_token X (T.rd F2) C2 (by omega)
      rw [a3, Option.bind_some]
      refine ⟨g3, rfl, F2.tr f3.rd, R2.t f3, Or.inr ⟨tw B n (tn B n p), _, ?_, C3, ?_⟩⟩
      · rw [ea, tkn (by omega), thn_in]
        unfold newP
        rw [if_pos q, z]
        rfl
      · rw [f3.2 _ _ (by unfold WT; omega)]; exact v2
    | some i =>
      have hi := fnd_in z
      rw [show ofO (some i) = nI i from rfl, if_neg (nI_pos (by omega))]
      exact bad 3 (by decide) (by decide) (fun _ => by unfold newP; rw [if_pos q, z])
  · rw [decide_eq_false q, if_pos b01f]
    exact bad 2 (by decide) (by decide) (fun _ => by unfold newP; rw [if_neg q])
theorem r_told {B : Nat → Nat} {n i a b : Nat} {h : HI} {r : Sum (Nat × Nat) Nat} (X : TX B n) (T : TR B n h) (C : RQ B n r h) (hi : i < 21) (hb : b < 10000) (hab : a ≤ b) : ∃ v g, fX9_told 101 h (lN (c8 (K i))) (nI a) (nI b) = some (v, g) ∧ Fr WT h g ∧ RV B n (fun x v => v = nI x) (thn (thn r (takeP B n (128 + i))) (nbP B n a b)) v g := by
  obtain ⟨g1, a1, f1, C1⟩ := r_want X T C hi
  obtain ⟨v, g2, a2, f2, C2⟩ := r_nb X (T.t f1) C1 hb hab
  unfold fX9_told
  rw [a1, Option.bind_some, a2, Option.bind_some]
  exact ⟨v, g2, rfl, f1.tr f2, C2⟩
theorem r_chL {B : Nat → Nat} {n p : Nat} {S : TD} {h : HI} (X : TX B n) (T : TR B n h) (I : PIt S) (R : PRt S h) (C : RTk B n p h) (h3 : tc B n p ≠ 3) (hC : S.d.C < 6) : ∃ g, fX9_readChair 101 h = some g ∧ Fr Wrd h g ∧ RLq B n (chL B n S p) g := by
  obtain ⟨g1, a1, f1, R1, C1⟩ := r_rname (k := 0) X T I R C h3 (by decide) hC
  have a1' : fX9_readName 101 h (0 : Int32) = some g1 := a1
  unfold fX9_readChair
  rw [a1', Option.bind_some]
  have est : stP B n (decide (6 ≤ S.d.C)) p = adv B n p := by unfold stP; rw [decide_eq_false (by omega)]; rfl
  unfold chL
  rw [est]
  have CQ1 : RQ B n (thn (thn (adv B n p) (newP B n (S.N 0) S.d.C)) (fun a => .inr a.2)) g1 := by
    rcases C1 with ⟨e, z1, z2⟩ | ⟨w, p2, z1, z2, _⟩
    · exact Or.inl ⟨e, by rw [show thn (adv B n p) (newP B n (S.N 0) S.d.C) = .inl e from z1]; rfl, z2⟩
    · refine Or.inr ⟨p2, ?_, z2⟩
      rw [show thn (adv B n p) (newP B n (S.N 0) S.d.C) = thn (tk B n p2) (fun q => .inr (w, q)) from z1]
      cases tk B n p2 <;> rfl
  obtain ⟨v2, g2, a2, f2, C2⟩ := r_told (i := 1) (a := 1) (b := 2) X (T.rd f1) CQ1 (by decide) (by decide) (by decide)
  have a2' : fX9_told 101 g1 (448545973363 : Int64) (1 : Int32) (2 : Int32) = some (v2, g2) := by rw [kk.2.1]; exact a2
  rw [a2', Option.bind_some]
  have F2 := f1.tr f2.rd
  have R2 := R1.t f2
  have whole : ∀ f : List Nat → Nat → Sum (Nat × Nat) (Nat × TD), ∀ e, thn (thn (thn (thn (adv B n p) (newP B n (S.N 0) S.d.C)) (fun a => .inr a.2)) (takeP B n 129)) (nbP B n 1 2) = .inl e → thn (adv B n p) (fun p1 => thn (newP B n (S.N 0) S.d.C p1) fun wp => thn (takeP B n 129 wp.2) fun p3 => thn (nbP B n 1 2 p3) fun xp => thn (ifP B n 130 xp.2) fun bp => .inr (bp.2, sCh S wp.1 xp.1 bp.1)) = .inl e := by
    intro f e z
    cases h1 : adv B n p with
    | inl e1 => simp only [h1, thn] at z ⊢; cases z; rfl
    | inr p1 =>
      cases h2 : newP B n (S.N 0) S.d.C p1 with
      | inl e1 => simp only [h1, h2, thn] at z ⊢; cases z; rfl
      | inr wp =>
        cases h3 : takeP B n 129 wp.2 with
        | inl e1 => simp only [h1, h2, h3, thn] at z ⊢; cases z; rfl
        | inr p3 =>
          simp only [h1, h2, h3, thn] at z ⊢
          rw [z]
  rcases C2 with ⟨e, z1, z2⟩ | ⟨x, p4, z1, z2, C4⟩
  · rw [if_neg z2.f.1]
    exact ⟨g2, rfl, F2, Or.inl ⟨e, whole (fun _ _ => .inl e) e z1, z2⟩⟩
  · obtain ⟨w, hw⟩ : ∃ w, g1.2 110 (10 * 0 + cnt S.d 0) = lN (c8 w) ∧ thn (adv B n p) (fun p1 => thn (newP B n (S.N 0) S.d.C p1) fun wp => thn (takeP B n 129 wp.2) fun p3 => thn (nbP B n 1 2 p3) fun xp => thn (ifP B n 130 xp.2) fun bp => .inr (bp.2, sCh S wp.1 xp.1 bp.1)) = thn (tk B n p4) (fun q4 => thn (ifP B n 130 q4) fun bp => .inr (bp.2, sCh S w x bp.1)) := by
      rcases C1 with ⟨e, y1, y2⟩ | ⟨w, p2, y1, y2, y3⟩
      · -- a fault before: then it stands behind too
        have y1' : thn (adv B n p) (newP B n (S.N 0) S.d.C) = .inl e := y1
        rw [y1'] at z1
        have y4 : g2.1 101 2 = g1.1 101 2 := by
          have a3 := a2
          unfold fX9_told at a3
          rw [rf_want y2, Option.bind_some, rf_nb y2, Option.bind_some] at a3
          cases a3; rfl
        have := C4.f
        rw [y4] at this
        exact absurd this y2.f.2
      · refine ⟨w, y3, ?_⟩
        have y1' : thn (adv B n p) (newP B n (S.N 0) S.d.C) = thn (tk B n p2) (fun q => .inr (w, q)) := y1
        rw [y1'] at z1
        cases h1 : adv B n p with
        | inl e1 =>
          rw [h1] at y1'
          cases h0 : tk B n p2 with
          | inr t => rw [h0] at y1'; cases y1'
          | inl e2 =>
            rw [h0] at y1' z1
            have y5 : (Sum.inl e1 : Sum (Nat × Nat) (List Nat × Nat)) = .inl e2 := y1'
            have z5 : (Sum.inl e2 : Sum (Nat × Nat) (Nat × Nat)) = thn (tk B n p4) (fun q => .inr (x, q)) := z1
            cases h9 : tk B n p4 with
            | inr t => rw [h9] at z5; cases z5
            | inl e9 =>
              rw [h9] at z5
              cases y5; cases z5; rfl
        | inr p1 =>
          rw [h1, thn_in] at y1'
          rw [thn_in, y1']
          cases h0 : tk B n p2 with
          | inl e2 =>
            rw [h0] at z1
            have z5 : (Sum.inl e2 : Sum (Nat × Nat) (Nat × Nat)) = thn (tk B n p4) (fun q => .inr (x, q)) := z1
            cases h9 : tk B n p4 with
            | inr t => rw [h9] at z5; cases z5
            | inl e9 => rw [h9] at z5; cases z5; rfl
          | inr t =>
            rw [h0] at z1
            have z5 : thn (takeP B n 129 t) (nbP B n 1 2) = thn (tk B n p4) (fun q => .inr (x, q)) := z1
            show thn (takeP B n 129 t) _ = _
            cases h3 : takeP B n 129 t with
            | inl e3 =>
              rw [h3] at z5
              cases h9 : tk B n p4 with
              | inr t => rw [h9] at z5; cases z5
              | inl e9 => rw [h9] at z5; cases z5; rfl
            | inr p3 =>
              rw [h3, thn_in] at z5
              rw [thn_in, z5]
              cases tk B n p4 <;> rfl
    obtain ⟨hw1, hw2⟩ := hw
    rw [hw2, if_pos C4.le]
    rw [z2]
    have w2 : g2.2 110 (10 * 0 + cnt S.d 0) = lN (c8 w) := by rw [f2.2 _ _ (by unfold WT; omega)]; exact hw1
    have e111 : g2.1 111 0 = nI S.d.C := (R2.nm I (k := 0) (by decide)).2.2.1
    have eW := r_isW (i := 2) C4 (by decide)
    have eW' : fX9_isWord 101 g2 (495874699116 : Int64) = some (b01 (decide (tc B n p4 = 130)), g2) := by rw [kk.2.2.1]; exact eW
    rw [eW', Option.bind_some]
    simp only [Nat.reduceAdd]
    rw [e111]
    simp (disch := omega) only [gB, nI_clamp]
    rw [vp_b]
    have F5 : Fr (fun a b => (a = 123 ∨ a = 113) ∧ b = S.d.C) g2 (uI (uI g2 123 S.d.C (b01 (decide (tc B n p4 = 130)))) 113 S.d.C (nI x)) := (Fr.uI (by omega)).tr (Fr.uI (by omega))
    have vS : (uI (uI g2 123 S.d.C (b01 (decide (tc B n p4 = 130)))) 113 S.d.C (nI x)).1 123 S.d.C = b01 (decide (tc B n p4 = 130)) := by rw [uI_n (by omega), uI_s]
    have vV : (uI (uI g2 123 S.d.C (b01 (decide (tc B n p4 = 130)))) 113 S.d.C (nI x)).1 113 S.d.C = nI x := uI_s _ _ _ _
    generalize uI (uI g2 123 S.d.C (b01 (decide (tc B n p4 = 130)))) 113 S.d.C (nI x) = g5 at F5 vS vV
    have F5' : Fr Wtl g2 g5 := F5.mono fun a b z => by unfold Wtl; omega
    have C5 := C4.l F5'
    have FF5 := F2.tr F5'.tl
    have eX' : fX9_isWord 101 g5 (495874699116 : Int64) = some (b01 (decide (tc B n p4 = 130)), g5) := by rw [kk.2.2.1]; exact r_isW (i := 2) C5 (by decide)
    rw [eX', Option.bind_some]
    unfold fX9_readChair_67
    -- the last write: one more
    have fin : ∀ (b : Bool) (g6 : HI), b = decide (tc B n p4 = 130) → Fr WT g5 g6 → PRt (sCh S w x b) (uI g6 111 0 (nI (S.d.C + 1))) ∧ Fr Wtl g6 (uI g6 111 0 (nI (S.d.C + 1))) := by
      intro b g6 hb f6
      have F7 : Fr (fun a b => (a = 123 ∨ a = 113) ∧ b = S.d.C ∨ WT a b ∨ a = 111 ∧ b = 0) g2 (uI g6 111 0 (nI (S.d.C + 1))) := ((F5.mono fun a b z => Or.inl z).tr (f6.mono fun a b z => Or.inr (Or.inl z))).tr (Fr.uI (by omega))
      refine ⟨?_, Fr.uI (by unfold Wtl; omega)⟩
      have e : ∀ a c, ¬ ((a = 123 ∨ a = 113) ∧ c = S.d.C) → ¬ WT a c → ¬ (a = 111 ∧ c = 0) → (uI g6 111 0 (nI (S.d.C + 1))).1 a c = g2.1 a c := fun a c z1 z2 z3 => F7.1 a c (by rintro (z | z | z); exact z1 z; exact z2 z; exact z3 z)
      have e2 : ∀ a c, ¬ ((a = 123 ∨ a = 113) ∧ c = S.d.C) → ¬ WT a c → ¬ (a = 111 ∧ c = 0) → (uI g6 111 0 (nI (S.d.C + 1))).2 a c = g2.2 a c := fun a c z1 z2 z3 => F7.2 a c (by rintro (z | z | z); exact z1 z; exact z2 z; exact z3 z)
      have uS : (uI g6 111 0 (nI (S.d.C + 1))).1 123 S.d.C = b01 b := by rw [uI_n (by omega), f6.1 _ _ (by unfold WT; omega), vS, hb]
      have uV : (uI g6 111 0 (nI (S.d.C + 1))).1 113 S.d.C = nI x := by rw [uI_n (by omega), f6.1 _ _ (by unfold WT; omega), vV]
      obtain ⟨r_C, r_M, r_X, r_ho, r_st, r_di, r_wi, r_dm, r_dx, r_om, r_ox, r_sl, r_dr, r_w, r_W, r_D, r_np, r_t, r_un, r_n0, r_n1, r_nm⟩ := R2
      refine ⟨uI_s _ _ _ _, (e _ _ (by omega) (by unfold WT; omega) (by omega)).trans r_M, (e _ _ (by omega) (by unfold WT; omega) (by omega)).trans r_X, fun i hi => ?_, fun i hi => (e _ _ (by omega) (by unfold WT; omega) (by omega)).trans (r_st i hi), fun i hi => (e _ _ (by omega) (by unfold WT; omega) (by omega)).trans (r_di i hi), fun m x hm hx => (e _ _ (by omega) (by unfold WT; omega) (by omega)).trans (r_wi m x hm hx), fun i hi => (e _ _ (by omega) (by unfold WT; omega) (by omega)).trans (r_dm i hi), fun i hi => (e _ _ (by omega) (by unfold WT; omega) (by omega)).trans (r_dx i hi), fun i hi => (e _ _ (by omega) (by unfold WT; omega) (by omega)).trans (r_om i hi), fun i hi => (e _ _ (by omega) (by unfold WT; omega) (by omega)).trans (r_ox i hi), fun i hi => ?_, fun i hi => (e _ _ (by omega) (by unfold WT; omega) (by omega)).trans (r_dr i hi), fun m x hm hx => (e _ _ (by omega) (by unfold WT; omega) (by omega)).trans (r_w m x hm hx), (e _ _ (by omega) (by unfold WT; omega) (by omega)).trans r_W, (e _ _ (by omega) (by unfold WT; omega) (by omega)).trans r_D, (e _ _ (by omega) (by unfold WT; omega) (by omega)).trans r_np, (e _ _ (by omega) (by unfold WT; omega) (by omega)).trans r_t, (e _ _ (by omega) (by unfold WT; omega) (by omega)).trans r_un, fun z => (e _ _ (by omega) (by unfold WT; omega) (by omega)).trans (r_n0 z), fun z => ⟨(e _ _ (by omega) (by unfold WT; omega) (by omega)).trans (r_n1 z).1, fun i hi => ⟨(e _ _ (by omega) (by unfold WT; omega) (by omega)).trans ((r_n1 z).2 i hi).1, fun y => (e _ _ (by omega) (by unfold WT; omega) (by omega)).trans (((r_n1 z).2 i hi).2 y)⟩⟩, fun k2 i hk2 hi => ?_⟩
      · have hi2 : i < S.d.C + 1 := hi
        show _ = nI (ud S.d.ho S.d.C x i)
        by_cases c : i = S.d.C
        · rw [c, ud_s]; exact uV
        · rw [ud_n c, e _ _ (by omega) (by unfold WT; omega) (by omega)]; exact r_ho i (by omega)
      · have hi2 : i < S.d.C + 1 := hi
        show _ = b01 (ud S.d.sl S.d.C b i)
        by_cases c : i = S.d.C
        · rw [c, ud_s]; exact uS
        · rw [ud_n c, e _ _ (by omega) (by unfold WT; omega) (by omega)]; exact r_sl i (by omega)
      · have hc2 := cnt_le I.1 k2
        rw [e2 _ _ (by omega) (by unfold WT; omega) (by omega)]
        show _ = lN (c8 (nN S.N 0 S.d.C w k2 i))
        unfold nN
        by_cases c : k2 = 0 ∧ i = S.d.C
        · rw [if_pos c, c.1, c.2]; exact w2
        · rw [if_neg c]
          refine r_nm k2 i hk2 ?_
          rcases (show k2 = 0 ∨ k2 = 1 ∨ k2 = 2 by omega) with z | z | z <;> subst z
          · have h9 : i < S.d.C + 1 := hi
            show i < S.d.C
            omega
          · have h9 : i < S.d.M := hi
            show i < S.d.M
            omega
          · have h9 : i < S.d.X := hi
            show i < S.d.X
            omega
    by_cases q : tc B n p4 = 130
    · obtain ⟨g6, a6, f6, C6⟩ := rt_token X (T.rd FF5) C5 (by omega)
      obtain ⟨P7, F7⟩ := fin true g6 (by rw [decide_eq_true q]) f6
      have e6 : g6.1 111 0 = nI S.d.C := by rw [f6.1 _ _ (by unfold WT; omega), F5.1 _ _ (by omega)]; exact e111
      rw [decide_eq_true q, if_neg b01t, a6, Option.bind_some]
      simp only [Nat.reduceAdd]
      rw [e6, nI_1]
      refine ⟨_, rfl, (FF5.tr f6.rd).tr F7.tl, Or.inr ⟨tn B n p4, _, ?_, C6.l F7, P7⟩⟩
      rw [tkn (by omega), thn_in]
      unfold ifP
      rw [if_pos q]
      unfold adv
      cases tk B n (tn B n p4) <;> rfl
    · obtain ⟨P7, F7⟩ := fin false g5 (by rw [decide_eq_false q]) Fr.rf
      have e6 : g5.1 111 0 = nI S.d.C := by rw [F5.1 _ _ (by omega)]; exact e111
      rw [decide_eq_false q, if_pos b01f]
      simp only [Nat.reduceAdd]
      rw [e6, nI_1]
      refine ⟨_, rfl, FF5.tr F7.tl, Or.inr ⟨p4, _, ?_, C5.l F7, P7⟩⟩
      by_cases c3 : tc B n p4 = 3
      · rw [tk3 c3]; rfl
      · rw [tkn c3, thn_in, thn_in]
        unfold ifP
        rw [if_neg q]
        rfl
theorem r_maL {B : Nat → Nat} {n p : Nat} {S : TD} {h : HI} (X : TX B n) (T : TR B n h) (I : PIt S) (R : PRt S h) (C : RTk B n p h) (h3 : tc B n p ≠ 3) (hC : S.d.M < 6) : ∃ g, fX9_readMan 101 h = some g ∧ Fr Wrd h g ∧ RLq B n (maL B n S p) g := by
  obtain ⟨g1, a1, f1, R1, C1⟩ := r_rname (k := 1) X T I R C h3 (by decide) hC
  have a1' : fX9_readName 101 h (1 : Int32) = some g1 := a1
  unfold fX9_readMan
  rw [a1', Option.bind_some]
  have est : stP B n (decide (6 ≤ S.d.M)) p = adv B n p := by unfold stP; rw [decide_eq_false (by omega)]; rfl
  unfold maL
  rw [est]
  have CQ1 : RQ B n (thn (thn (adv B n p) (newP B n (S.N 1) S.d.M)) (fun a => .inr a.2)) g1 := by
    rcases C1 with ⟨e, z1, z2⟩ | ⟨w, p2, z1, z2, _⟩
    · exact Or.inl ⟨e, by rw [show thn (adv B n p) (newP B n (S.N 1) S.d.M) = .inl e from z1]; rfl, z2⟩
    · refine Or.inr ⟨p2, ?_, z2⟩
      rw [show thn (adv B n p) (newP B n (S.N 1) S.d.M) = thn (tk B n p2) (fun q => .inr (w, q)) from z1]
      cases tk B n p2 <;> rfl
  obtain ⟨v2, g2, a2, f2, C2⟩ := r_told (i := 4) (a := 1) (b := 30) X (T.rd f1) CQ1 (by decide) (by decide) (by decide)
  have a2' : fX9_told 101 g1 (126943973305959 : Int64) (1 : Int32) (30 : Int32) = some (v2, g2) := by rw [kk.2.2.2.2.1]; exact a2
  rw [a2', Option.bind_some]
  have F2 := f1.tr f2.rd
  have R2 := R1.t f2
  have whole : ∀ f : List Nat → Nat → Sum (Nat × Nat) (Nat × TD), ∀ e, thn (thn (thn (thn (adv B n p) (newP B n (S.N 1) S.d.M)) (fun a => .inr a.2)) (takeP B n 132)) (nbP B n 1 30) = .inl e → thn (adv B n p) (fun p1 => thn (newP B n (S.N 1) S.d.M p1) fun wp => thn (takeP B n 132 wp.2) fun p3 => thn (nbP B n 1 30 p3) fun xp => thn (ifP B n 133 xp.2) fun bp => .inr (bp.2, sMa S wp.1 xp.1 bp.1)) = .inl e := by
    intro f e z
    cases h1 : adv B n p with
    | inl e1 => simp only [h1, thn] at z ⊢; cases z; rfl
    | inr p1 =>
      cases h2 : newP B n (S.N 1) S.d.M p1 with
      | inl e1 => simp only [h1, h2, thn] at z ⊢; cases z; rfl
      | inr wp =>
        cases h3 : takeP B n 132 wp.2 with
        | inl e1 => simp only [h1, h2, h3, thn] at z ⊢; cases z; rfl
        | inr p3 =>
          simp only [h1, h2, h3, thn] at z ⊢
          rw [z]
  rcases C2 with ⟨e, z1, z2⟩ | ⟨x, p4, z1, z2, C4⟩
  · rw [if_neg z2.f.1]
    exact ⟨g2, rfl, F2, Or.inl ⟨e, whole (fun _ _ => .inl e) e z1, z2⟩⟩
  · obtain ⟨w, hw⟩ : ∃ w, g1.2 110 (10 * 1 + cnt S.d 1) = lN (c8 w) ∧ thn (adv B n p) (fun p1 => thn (newP B n (S.N 1) S.d.M p1) fun wp => thn (takeP B n 132 wp.2) fun p3 => thn (nbP B n 1 30 p3) fun xp => thn (ifP B n 133 xp.2) fun bp => .inr (bp.2, sMa S wp.1 xp.1 bp.1)) = thn (tk B n p4) (fun q4 => thn (ifP B n 133 q4) fun bp => .inr (bp.2, sMa S w x bp.1)) := by
      rcases C1 with ⟨e, y1, y2⟩ | ⟨w, p2, y1, y2, y3⟩
      · -- a fault before: then it stands behind too
        have y1' : thn (adv B n p) (newP B n (S.N 1) S.d.M) = .inl e := y1
        rw [y1'] at z1
        have y4 : g2.1 101 2 = g1.1 101 2 := by
          have a3 := a2
          unfold fX9_told at a3
          rw [rf_want y2, Option.bind_some, rf_nb y2, Option.bind_some] at a3
          cases a3; rfl
        have := C4.f
        rw [y4] at this
        exact absurd this y2.f.2
      · refine ⟨w, y3, ?_⟩
        have y1' : thn (adv B n p) (newP B n (S.N 1) S.d.M) = thn (tk B n p2) (fun q => .inr (w, q)) := y1
        rw [y1'] at z1
        cases h1 : adv B n p with
        | inl e1 =>
          rw [h1] at y1'
          cases h0 : tk B n p2 with
          | inr t => rw [h0] at y1'; cases y1'
          | inl e2 =>
            rw [h0] at y1' z1
            have y5 : (Sum.inl e1 : Sum (Nat × Nat) (List Nat × Nat)) = .inl e2 := y1'
            have z5 : (Sum.inl e2 : Sum (Nat × Nat) (Nat × Nat)) = thn (tk B n p4) (fun q => .inr (x, q)) := z1
            cases h9 : tk B n p4 with
            | inr t => rw [h9] at z5; cases z5
            | inl e9 =>
              rw [h9] at z5
              cases y5; cases z5; rfl
        | inr p1 =>
          rw [h1, thn_in] at y1'
          rw [thn_in, y1']
          cases h0 : tk B n p2 with
          | inl e2 =>
            rw [h0] at z1
            have z5 : (Sum.inl e2 : Sum (Nat × Nat) (Nat × Nat)) = thn (tk B n p4) (fun q => .inr (x, q)) := z1
            cases h9 : tk B n p4 with
            | inr t => rw [h9] at z5; cases z5
            | inl e9 => rw [h9] at z5; cases z5; rfl
          | inr t =>
            rw [h0] at z1
            have z5 : thn (takeP B n 132 t) (nbP B n 1 30) = thn (tk B n p4) (fun q => .inr (x, q)) := z1
            show thn (takeP B n 132 t) _ = _
            cases h3 : takeP B n 132 t with
            | inl e3 =>
              rw [h3] at z5
              cases h9 : tk B n p4 with
              | inr t => rw [h9] at z5; cases z5
              | inl e9 => rw [h9] at z5; cases z5; rfl
            | inr p3 =>
              rw [h3, thn_in] at z5
              rw [thn_in, z5]
              cases tk B n p4 <;> rfl
    obtain ⟨hw1, hw2⟩ := hw
    rw [hw2, if_pos C4.le]
    rw [z2]
    have w2 : g2.2 110 (10 * 1 + cnt S.d 1) = lN (c8 w) := by rw [f2.2 _ _ (by unfold WT; omega)]; exact hw1
    have e111 : g2.1 111 1 = nI S.d.M := (R2.nm I (k := 1) (by decide)).2.2.1
    have eW := r_isW (i := 5) C4 (by decide)
    have eW' : fX9_isWord 101 g2 (1685024626 : Int64) = some (b01 (decide (tc B n p4 = 133)), g2) := by rw [kk.2.2.2.2.2.1]; exact eW
    rw [eW', Option.bind_some]
    simp only [Nat.reduceAdd]
    rw [e111]
    simp (disch := omega) only [gB, nI_clamp]
    rw [vp_b]
    have F5 : Fr (fun a b => (a = 124 ∨ a = 114) ∧ b = S.d.M) g2 (uI (uI g2 124 S.d.M (b01 (decide (tc B n p4 = 133)))) 114 S.d.M (nI x)) := (Fr.uI (by omega)).tr (Fr.uI (by omega))
    have vS : (uI (uI g2 124 S.d.M (b01 (decide (tc B n p4 = 133)))) 114 S.d.M (nI x)).1 124 S.d.M = b01 (decide (tc B n p4 = 133)) := by rw [uI_n (by omega), uI_s]
    have vV : (uI (uI g2 124 S.d.M (b01 (decide (tc B n p4 = 133)))) 114 S.d.M (nI x)).1 114 S.d.M = nI x := uI_s _ _ _ _
    generalize uI (uI g2 124 S.d.M (b01 (decide (tc B n p4 = 133)))) 114 S.d.M (nI x) = g5 at F5 vS vV
    have F5' : Fr Wtl g2 g5 := F5.mono fun a b z => by unfold Wtl; omega
    have C5 := C4.l F5'
    have FF5 := F2.tr F5'.tl
    have eX' : fX9_isWord 101 g5 (1685024626 : Int64) = some (b01 (decide (tc B n p4 = 133)), g5) := by rw [kk.2.2.2.2.2.1]; exact r_isW (i := 5) C5 (by decide)
    rw [eX', Option.bind_some]
    unfold fX9_readMan_68
    -- the last write: one more
    have fin : ∀ (b : Bool) (g6 : HI), b = decide (tc B n p4 = 133) → Fr WT g5 g6 → PRt (sMa S w x b) (uI g6 111 1 (nI (S.d.M + 1))) ∧ Fr Wtl g6 (uI g6 111 1 (nI (S.d.M + 1))) := by
      intro b g6 hb f6
      have F7 : Fr (fun a b => (a = 124 ∨ a = 114) ∧ b = S.d.M ∨ WT a b ∨ a = 111 ∧ b = 1) g2 (uI g6 111 1 (nI (S.d.M + 1))) := ((F5.mono fun a b z => Or.inl z).tr (f6.mono fun a b z => Or.inr (Or.inl z))).tr (Fr.uI (by omega))
      refine ⟨?_, Fr.uI (by unfold Wtl; omega)⟩
      have e : ∀ a c, ¬ ((a = 124 ∨ a = 114) ∧ c = S.d.M) → ¬ WT a c → ¬ (a = 111 ∧ c = 1) → (uI g6 111 1 (nI (S.d.M + 1))).1 a c = g2.1 a c := fun a c z1 z2 z3 => F7.1 a c (by rintro (z | z | z); exact z1 z; exact z2 z; exact z3 z)
      have e2 : ∀ a c, ¬ ((a = 124 ∨ a = 114) ∧ c = S.d.M) → ¬ WT a c → ¬ (a = 111 ∧ c = 1) → (uI g6 111 1 (nI (S.d.M + 1))).2 a c = g2.2 a c := fun a c z1 z2 z3 => F7.2 a c (by rintro (z | z | z); exact z1 z; exact z2 z; exact z3 z)
      have uS : (uI g6 111 1 (nI (S.d.M + 1))).1 124 S.d.M = b01 b := by rw [uI_n (by omega), f6.1 _ _ (by unfold WT; omega), vS, hb]
      have uV : (uI g6 111 1 (nI (S.d.M + 1))).1 114 S.d.M = nI x := by rw [uI_n (by omega), f6.1 _ _ (by unfold WT; omega), vV]
      obtain ⟨r_C, r_M, r_X, r_ho, r_st, r_di, r_wi, r_dm, r_dx, r_om, r_ox, r_sl, r_dr, r_w, r_W, r_D, r_np, r_t, r_un, r_n0, r_n1, r_nm⟩ := R2
      refine ⟨(e _ _ (by omega) (by unfold WT; omega) (by omega)).trans r_C, uI_s _ _ _ _, (e _ _ (by omega) (by unfold WT; omega) (by omega)).trans r_X, fun i hi => (e _ _ (by omega) (by unfold WT; omega) (by omega)).trans (r_ho i hi), fun i hi => ?_, fun i hi => (e _ _ (by omega) (by unfold WT; omega) (by omega)).trans (r_di i hi), fun m x hm hx => (e _ _ (by omega) (by unfold WT; omega) (by omega)).trans (r_wi m x hm hx), fun i hi => (e _ _ (by omega) (by unfold WT; omega) (by omega)).trans (r_dm i hi), fun i hi => (e _ _ (by omega) (by unfold WT; omega) (by omega)).trans (r_dx i hi), fun i hi => (e _ _ (by omega) (by unfold WT; omega) (by omega)).trans (r_om i hi), fun i hi => (e _ _ (by omega) (by unfold WT; omega) (by omega)).trans (r_ox i hi), fun i hi => (e _ _ (by omega) (by unfold WT; omega) (by omega)).trans (r_sl i hi), fun i hi => ?_, fun m x hm hx => (e _ _ (by omega) (by unfold WT; omega) (by omega)).trans (r_w m x hm hx), (e _ _ (by omega) (by unfold WT; omega) (by omega)).trans r_W, (e _ _ (by omega) (by unfold WT; omega) (by omega)).trans r_D, (e _ _ (by omega) (by unfold WT; omega) (by omega)).trans r_np, (e _ _ (by omega) (by unfold WT; omega) (by omega)).trans r_t, (e _ _ (by omega) (by unfold WT; omega) (by omega)).trans r_un, fun z => (e _ _ (by omega) (by unfold WT; omega) (by omega)).trans (r_n0 z), fun z => ⟨(e _ _ (by omega) (by unfold WT; omega) (by omega)).trans (r_n1 z).1, fun i hi => ⟨(e _ _ (by omega) (by unfold WT; omega) (by omega)).trans ((r_n1 z).2 i hi).1, fun y => (e _ _ (by omega) (by unfold WT; omega) (by omega)).trans (((r_n1 z).2 i hi).2 y)⟩⟩, fun k2 i hk2 hi => ?_⟩
      · have hi2 : i < S.d.M + 1 := hi
        show _ = nI (ud S.d.st S.d.M x i)
        by_cases c : i = S.d.M
        · rw [c, ud_s]; exact uV
        · rw [ud_n c, e _ _ (by omega) (by unfold WT; omega) (by omega)]; exact r_st i (by omega)
      · have hi2 : i < S.d.M + 1 := hi
        show _ = b01 (ud S.d.dr S.d.M b i)
        by_cases c : i = S.d.M
        · rw [c, ud_s]; exact uS
        · rw [ud_n c, e _ _ (by omega) (by unfold WT; omega) (by omega)]; exact r_dr i (by omega)
      · have hc2 := cnt_le I.1 k2
        rw [e2 _ _ (by omega) (by unfold WT; omega) (by omega)]
        show _ = lN (c8 (nN S.N 1 S.d.M w k2 i))
        unfold nN
        by_cases c : k2 = 1 ∧ i = S.d.M
        · rw [if_pos c, c.1, c.2]; exact w2
        · rw [if_neg c]
          refine r_nm k2 i hk2 ?_
          rcases (show k2 = 0 ∨ k2 = 1 ∨ k2 = 2 by omega) with z | z | z <;> subst z
          · have h9 : i < S.d.C := hi
            show i < S.d.C
            omega
          · have h9 : i < S.d.M + 1 := hi
            show i < S.d.M
            omega
          · have h9 : i < S.d.X := hi
            show i < S.d.X
            omega
    by_cases q : tc B n p4 = 133
    · obtain ⟨g6, a6, f6, C6⟩ := rt_token X (T.rd FF5) C5 (by omega)
      obtain ⟨P7, F7⟩ := fin true g6 (by rw [decide_eq_true q]) f6
      have e6 : g6.1 111 1 = nI S.d.M := by rw [f6.1 _ _ (by unfold WT; omega), F5.1 _ _ (by omega)]; exact e111
      rw [decide_eq_true q, if_neg b01t, a6, Option.bind_some]
      simp only [Nat.reduceAdd]
      rw [e6, nI_1]
      refine ⟨_, rfl, (FF5.tr f6.rd).tr F7.tl, Or.inr ⟨tn B n p4, _, ?_, C6.l F7, P7⟩⟩
      rw [tkn (by omega), thn_in]
      unfold ifP
      rw [if_pos q]
      unfold adv
      cases tk B n (tn B n p4) <;> rfl
    · obtain ⟨P7, F7⟩ := fin false g5 (by rw [decide_eq_false q]) Fr.rf
      have e6 : g5.1 111 1 = nI S.d.M := by rw [F5.1 _ _ (by omega)]; exact e111
      rw [decide_eq_false q, if_pos b01f]
      simp only [Nat.reduceAdd]
      rw [e6, nI_1]
      refine ⟨_, rfl, FF5.tr F7.tl, Or.inr ⟨p4, _, ?_, C5.l F7, P7⟩⟩
      by_cases c3 : tc B n p4 = 3
      · rw [tk3 c3]; rfl
      · rw [tkn c3, thn_in, thn_in]
        unfold ifP
        rw [if_neg q]
        rfl
