/-! the call hall() -/
def Wha (a b : Nat) : Prop := Wra a b ∨ a = 112 ∨ 118 ≤ a ∧ a ≤ 122 ∨ a = 126 ∨ a = 127 ∨ a = 105 ∨ a = 106 ∨ a = 101 ∧ (b = 19 ∨ b = 20 ∨ b = 44 ∨ b = 45 ∨ b = 46 ∨ b = 48 ∨ b = 79) ∨ Wr a b ∨ a = 148
def Wcp (a b : Nat) : Prop := a = 112 ∨ 118 ≤ a ∧ a ≤ 122 ∨ a = 126 ∨ a = 127 ∨ a = 105 ∨ a = 106
def RUr (d : HD) (h : HI) : Prop := h.1 101 48 = 0 ∧ d.ru = rdef ∨ ¬ h.1 101 48 = 0 ∧ h.1 101 19 = nI d.ru.length ∧ ∀ i, i < d.ru.length → h.1 105 i = nI (rco (d.ru.getD i 0)) ∧ (d.ru.getD i 0 < 10000 → h.1 106 i = nI (d.ru.getD i 0))
theorem r_cpy {S : TD} {g : HI} (I : PIt S) (R : PRt S g) (e2 : g.1 101 2 = 0) : ∃ g7, (∀ k : HI → Option (Int32 × HI), fX9_hall_15 101 (fun h3 => fX9_hall_40 101 (fun h5 => fX9_hall_102 101 (fun h7 => fX9_hall_127 101 (fun h9 => fX9_hall_153 101 (fun h11 => fX9_hall_179 101 (fun h13 => (if (h13.1 101 47) = 0 ∨ (h13.1 101 47) = 1 then k (uI (uI (uI (uI (uI (uI h13 101 19 (h13.1 101 17)) 101 20 (h13.1 101 18)) 101 44 (h13.1 101 41)) 101 45 (h13.1 101 42)) 101 46 (h13.1 101 43)) 101 48 (h13.1 101 47)) else none)) FU h11 (0 : Int32)) FU h9 (0 : Int32)) FU h7 (0 : Int32)) FU h5 (0 : Int32)) FU h3 (0 : Int32)) FU g (0 : Int32) = k g7) ∧ Fr (fun a b => Wcp a b ∨ a = 101 ∧ (b = 19 ∨ b = 20 ∨ b = 44 ∨ b = 45 ∨ b = 46 ∨ b = 48)) g g7 ∧ RH S.d g7 ∧ RUr S.d g7 := by
  obtain ⟨r_C, r_M, r_X, r_ho, r_st, r_di, r_wi, r_dm, r_dx, r_om, r_ox, r_sl, r_dr, r_w, r_W, r_D, r_np, r_t, r_un, r_n0, r_n1, r_nm⟩ := R
  have hlen := I.2.2.2.2.2.2.1.1
  have hC := I.1.C6
  have hM := I.1.M6
  have hX := I.1.X4
  have hD := I.1.D4
  obtain ⟨g1, a1, f1, v1⟩ := r_h15 (h := g)
  obtain ⟨g2, a2, f2, v2⟩ := r_h40 (h := g1)
  obtain ⟨g3, a3, f3, v3⟩ := r_h102 (h := g2)
  obtain ⟨g4, a4, f4, v4⟩ := r_h127 (h := g3)
  obtain ⟨g5, a5, f5, v5⟩ := r_h153 (h := g4)
  have F1 : Fr Wcp g g1 := f1.mono fun a b z => by unfold Wcp; omega
  have F2 : Fr Wcp g g2 := F1.tr (f2.mono fun a b z => by unfold Wcp; omega)
  have F3 : Fr Wcp g g3 := F2.tr (f3.mono fun a b z => by unfold Wcp; omega)
  have F4 : Fr Wcp g g4 := F3.tr (f4.mono fun a b z => by unfold Wcp; omega)
  have F5 : Fr Wcp g g5 := F4.tr (f5.mono fun a b z => by unfold Wcp; omega)
  obtain ⟨c, hc, e17, hcr⟩ : ∃ c, c ≤ 640 ∧ g.1 101 17 = nI c ∧ (S.t = true → c = S.d.ru.length) := by
    cases ht : S.t with
    | false => exact ⟨0, by decide, r_n0 ht, fun z => by cases z⟩
    | true => exact ⟨S.d.ru.length, by omega, (r_n1 ht).1, fun _ => rfl⟩
  obtain ⟨g6, a6, f6, v6⟩ := r_h179 (h := g5) hc ((F5.1 _ _ (by unfold Wcp; omega)).trans e17)
  have F6 : Fr Wcp g g6 := F5.tr (f6.mono fun a b z => by unfold Wcp; omega)
  have s6 : ∀ b, g6.1 101 b = g.1 101 b := fun b => F6.1 _ _ (by unfold Wcp; omega)
  have f7 : Fr (fun a b => a = 101 ∧ (b = 19 ∨ b = 20 ∨ b = 44 ∨ b = 45 ∨ b = 46 ∨ b = 48)) g6 (uI (uI (uI (uI (uI (uI g6 101 19 (g6.1 101 17)) 101 20 (g6.1 101 18)) 101 44 (g6.1 101 41)) 101 45 (g6.1 101 42)) 101 46 (g6.1 101 43)) 101 48 (g6.1 101 47)) := by
    iterate 5 refine Fr.tr ?_ (Fr.uI (by decide))
    exact Fr.uI (by decide)
  have v7 : ∀ g7, g7 = (uI (uI (uI (uI (uI (uI g6 101 19 (g6.1 101 17)) 101 20 (g6.1 101 18)) 101 44 (g6.1 101 41)) 101 45 (g6.1 101 42)) 101 46 (g6.1 101 43)) 101 48 (g6.1 101 47)) → g7.1 101 19 = g.1 101 17 ∧ g7.1 101 20 = g.1 101 18 ∧ g7.1 101 44 = g.1 101 41 ∧ g7.1 101 45 = g.1 101 42 ∧ g7.1 101 46 = g.1 101 43 ∧ g7.1 101 48 = g.1 101 47 := by
    rintro g7 rfl
    refine ⟨?_, ?_, ?_, ?_, ?_, ?_⟩ <;> (simp (disch := omega) only [uI_s, uI_n]; exact s6 _)
  refine ⟨_, fun k => ?_, (F6.mono fun a b z => Or.inl z).tr (f7.mono fun a b z => Or.inr z), ?_, ?_⟩
  · rw [a1, a2, a3, a4, a5, a6, if_pos (show g6.1 101 47 = 0 ∨ g6.1 101 47 = 1 from by
      rw [s6, r_t]
      cases S.t
      · exact Or.inl rfl
      · exact Or.inr rfl)]
  all_goals
    revert f7 v7
    generalize uI (uI (uI (uI (uI (uI g6 101 19 (g6.1 101 17)) 101 20 (g6.1 101 18)) 101 44 (g6.1 101 41)) 101 45 (g6.1 101 42)) 101 46 (g6.1 101 43)) 101 48 (g6.1 101 47) = g7
    intro f7 v7
    obtain ⟨w19, w20, w44, w45, w46, w48⟩ := v7 g7 rfl
  · have q1 : ∀ i, i < 3 → g7.1 112 i = g.1 111 i := fun i hi => by
      rw [f7.1 _ _ (by omega), f6.1 _ _ (by omega), f5.1 _ _ (by omega), f4.1 _ _ (by omega), f3.1 _ _ (by omega), f2.1 _ _ (by omega), v1 i hi]
    have q2 : ∀ i, i < 6 → g7.1 118 i = g.1 113 i ∧ g7.1 119 i = g.1 114 i ∧ g7.1 126 i = vp_nar .boolean (g.1 123 i) ∧ g7.1 127 i = vp_nar .boolean (g.1 124 i) := fun i hi => by
      obtain ⟨y1, y2, y3, y4⟩ := v2 i hi
      rw [F1.1 _ _ (by unfold Wcp; omega)] at y1 y2 y3 y4
      refine ⟨?_, ?_, ?_, ?_⟩
      · rw [f7.1 _ _ (by omega), f6.1 _ _ (by omega), f5.1 _ _ (by omega), f4.1 _ _ (by omega), f3.1 _ _ (by omega), y1]
      · rw [f7.1 _ _ (by omega), f6.1 _ _ (by omega), f5.1 _ _ (by omega), f4.1 _ _ (by omega), f3.1 _ _ (by omega), y2]
      · rw [f7.1 _ _ (by omega), f6.1 _ _ (by omega), f5.1 _ _ (by omega), f4.1 _ _ (by omega), f3.1 _ _ (by omega), y3]
      · rw [f7.1 _ _ (by omega), f6.1 _ _ (by omega), f5.1 _ _ (by omega), f4.1 _ _ (by omega), f3.1 _ _ (by omega), y4]
    have q3 : ∀ i, i < 4 → g7.1 120 i = g.1 115 i := fun i hi => by
      rw [f7.1 _ _ (by omega), f6.1 _ _ (by omega), f5.1 _ _ (by omega), f4.1 _ _ (by omega), v3 i hi, F2.1 _ _ (by unfold Wcp; omega)]
    have q4 : ∀ i, i < 24 → g7.1 121 i = g.1 116 i := fun i hi => by
      rw [f7.1 _ _ (by omega), f6.1 _ _ (by omega), f5.1 _ _ (by omega), v4 i hi, F3.1 _ _ (by unfold Wcp; omega)]
    have q5 : ∀ i, i < 16 → g7.1 122 i = g.1 117 i := fun i hi => by
      rw [f7.1 _ _ (by omega), f6.1 _ _ (by omega), v5 i hi, F4.1 _ _ (by unfold Wcp; omega)]
    exact ⟨(q1 0 (by decide)).trans r_C, (q1 1 (by decide)).trans r_M, (q1 2 (by decide)).trans r_X, fun i hi => (q2 i (by omega)).1.trans (r_ho i hi), fun i hi => (q2 i (by omega)).2.1.trans (r_st i hi), fun i hi => (q3 i (by omega)).trans (r_di i hi), fun m x hm hx => (q4 _ (by omega)).trans (r_wi m x (by omega) (by omega)), fun i hi => (q5 _ (by omega)).trans (r_dm i hi), fun i hi => (q5 _ (by omega)).trans (r_dx i hi), fun i hi => (q5 _ (by omega)).trans (r_om i hi), fun i hi => (q5 _ (by omega)).trans (r_ox i hi), fun i hi => by rw [(q2 i (by omega)).2.2.1, r_sl i hi, vp_b], fun i hi => by rw [(q2 i (by omega)).2.2.2, r_dr i hi, vp_b], w44.trans r_W, w45.trans r_D, w46.trans r_np, w20.trans r_un⟩
  · unfold RUr
    rw [w48, r_t]
    cases ht : S.t with
    | false => exact Or.inl ⟨rfl, (I.2.2.2.2.2.2.2.2 ht).1⟩
    | true =>
      refine Or.inr ⟨b01t, w19.trans (r_n1 ht).1, fun i hi => ?_⟩
      have hic : i < c := by rw [hcr ht]; exact hi
      have y := v6 i hic
      rw [f7.1 _ _ (by omega), f7.1 _ _ (by omega), y.1, y.2, F5.1 _ _ (by unfold Wcp; omega), F5.1 _ _ (by unfold Wcp; omega)]
      exact (r_n1 ht).2 i hi
theorem r_hall {B : Nat → Nat} {n : Nat} {h : HI} (X : TX B n) (e1 : h.1 101 1 = nI n) (e2 : ∀ k, k < n → h.1 102 k = nI (B k)) : match rdA B n with
  | .inl e => ∃ g, fX9_hall 101 h = some (-1, g) ∧ Fr Wra h g ∧ g.1 101 1 = 0 ∧ RFl e.1 e.2 g
  | .inr S => PIt S → ∃ g, fX9_hall 101 h = some (nI S.d.M, g) ∧ Fr Wha h g ∧ g.1 101 1 = 0 ∧ g.1 101 2 = 0 ∧ g.1 101 3 = -1 ∧ g.1 101 79 = 0 ∧ (∀ i, i < 3 → g.1 148 i = 0) ∧ RH S.d g ∧ RS S.d g (s00 S.d) ∧ RUr S.d g := by
  unfold fX9_hall
  obtain ⟨g, a1, f1, R, z1⟩ := r_read X e1 e2
  rw [a1, Option.bind_some]
  cases z : rdA B n with
  | inl e =>
    rw [z] at R
    have R : RFl e.1 e.2 g := R
    exact ⟨g, if_neg R.f.1, f1, z1, R⟩
  | inr S =>
    intro I
    rw [z] at R
    obtain ⟨R, z2, z3⟩ := R
    rw [if_pos (show g.1 101 2 ≤ 0 by rw [z2]; decide)]
    obtain ⟨g7, a7, f7, H7, U7⟩ := r_cpy I R z2
    have a7' := a7 (fun h13 => ((fX9_fresh 101 h13).bind fun h14 => fX9_hall_276 101 (fun h16 => some ((h16.1 112 1), h16)) FU (uI h14 101 79 (0 : Int32)) (0 : Int32)))
    obtain ⟨g8, a8, f8, S8⟩ := r_fresh I.1 H7
    obtain ⟨g9, a9, f9, v9⟩ := r_h276 (h := uI g8 101 79 0)
    have f89 : Fr (fun a b => a = 101 ∧ b = 79 ∨ a = 148) g8 g9 := (Fr.uI (by decide)).tr (f9.mono fun a b y => Or.inr y)
    have G1 : Fr Wha h g := f1.mono fun a b y => Or.inl y
    have G7 : Fr Wha g g7 := f7.mono fun a b y => by unfold Wcp at y; unfold Wha; omega
    have G8 : Fr Wha g7 g8 := f8.mono fun a b y => by unfold Wr at y; unfold Wha Wr; omega
    have G9 : Fr Wha g8 g9 := f89.mono fun a b y => by unfold Wha; omega
    have F9 : Fr Wha h g9 := ((G1.tr G7).tr G8).tr G9
    have H9 : RH S.d g9 := (H7.keep f8 (fun a b p y => by unfold RHW at p; unfold Wr at y; omega)).keep f89 (fun a b p y => by unfold RHW at p; omega)
    have S9 : RS S.d g9 (s00 S.d) := S8.keep f89 (fun a b p y => by unfold Wr at p; omega)
    have k : ∀ b, b = 1 ∨ b = 2 ∨ b = 3 ∨ b = 48 ∨ b = 19 → g9.1 101 b = g7.1 101 b := fun b hb => by rw [f89.1 _ _ (by omega), f8.1 _ _ (by unfold Wr; omega)]
    have k2 : ∀ b, b = 1 ∨ b = 2 ∨ b = 3 → g9.1 101 b = g.1 101 b := fun b hb => by rw [k b (by omega), f7.1 _ _ (by unfold Wcp; omega)]
    have k3 : ∀ a b, a = 105 ∨ a = 106 → g9.1 a b = g7.1 a b := fun a b hb => by rw [f89.1 _ _ (by omega), f8.1 _ _ (by unfold Wr; omega)]
    refine ⟨g9, ?_, F9, (k2 1 (by omega)).trans z1, (k2 2 (by omega)).trans z2, (k2 3 (by omega)).trans z3, ?_, v9, H9, S9, ?_⟩
    · refine a7'.trans ?_
      show ((fX9_fresh 101 g7).bind fun h14 => fX9_hall_276 101 (fun h16 => some ((h16.1 112 1), h16)) FU (uI h14 101 79 (0 : Int32)) (0 : Int32)) = _
      rw [a8, Option.bind_some, a9]
      show some (g9.1 112 1, g9) = _
      rw [H9.M]
    · rw [f9.1 _ _ (by omega), uI_s]
    · unfold RUr
      rw [k 48 (by omega), k 19 (by omega)]
      rcases U7 with y | ⟨y1, y2, y3⟩
      · exact Or.inl y
      · exact Or.inr ⟨y1, y2, fun i hi => by rw [k3 _ _ (by omega), k3 _ _ (by omega)]; exact y3 i hi⟩
def Wf (hs a b : Nat) : Prop := Wln hs a b ∨ a = 1 ∧ b = 1 ∨ Wra a b
def Wg (hs a b : Nat) : Prop := Wf hs a b ∨ Wc 56 a b ∨ a = 5 ∧ b = 5 ∨ a = 4 ∨ Wha a b
theorem Tp0 {h : HI} (e1 : h.1 1 1 = 0) (e2 : h.1 101 1 = 0) : Tp h := ⟨0, by decide, e1, e2, fun k hk => absurd hk (Nat.not_lt_zero k), fun k hk => absurd hk (Nat.not_lt_zero k)⟩
theorem op_hall {hh hs : Nat} {h : HI} (hq : hs + 20 < 53) (hq2 : 5 < hs) (hT : Tp h) (D : Wd h) : ∃ (w : Int32) (h1 h2 : HI) (q : Int32 × HI), fX8_hall 0 hh hs h = some (w, h1) ∧ fX9_hall 101 h1 = some (w, h2) ∧ fX4_read (0 + 53) (0 + 1) hs h = some q ∧ Tp h2 ∧ Fa h2 ∧ ((q.1 = 0 ∧ Fr (Wf hs) h h2) ∨ (¬ q.1 = 0 ∧ ∃ d, HDw d ∧ St hs d h2 (s00 d) ∧ RU hs d h2 ∧ (∀ i, i < 3 → h2.1 4 i = 0 ∧ h2.1 148 i = 0) ∧ h2.1 5 5 = 0 ∧ h2.1 101 79 = 0 ∧ Fr (Wg hs) h h2)) := by
  obtain ⟨n, hn, t1, t2, t3, t4⟩ := hT
  obtain ⟨B, hB⟩ : ∃ B : Nat → Nat, B = fun k => if k < n then (h.1 102 k).toNatClampNeg else 0 := ⟨_, rfl⟩
  have hBk : ∀ k, k < n → B k < 256 ∧ h.1 102 k = nI (B k) := fun k hk => by
    obtain ⟨y, y1, y2⟩ := t4 k hk
    have : B k = y := by rw [hB]; simp only [if_pos hk]; rw [y2, nI_clamp (by omega)]
    rw [this]; exact ⟨y1, y2⟩
  have X : TX B n := ⟨hn, fun k => by
    by_cases hk : k < n
    · exact (hBk k hk).1
    · rw [hB]; simp only [if_neg hk]; decide⟩
  have T : TC B n h := ⟨t1, fun k hk => by rw [t3 k hk]; exact (hBk k hk).2⟩
  obtain ⟨v, g, a1, f1, C1, hv⟩ := c_read (q := hs) hq (by omega) X T D
  have a1' : fX4_read (0 + 53) (0 + 1) hs h = some (v, g) := a1
  unfold fX8_hall
  rw [a1', Option.bind_some]
  have f2 : Fr (fun a b => a = 1 ∧ b = 1) g (uI g (0 + 1) 1 0) := Fr.uI (by decide)
  have v2 : (uI g (0 + 1) 1 0).1 1 1 = 0 := uI_s _ _ _ _
  revert f2 v2
  generalize uI g (0 + 1) 1 0 = g2
  intro f2 v2
  have F2 : Fr (fun a b => Wln hs a b ∨ a = 1 ∧ b = 1) h g2 := (f1.mono fun a b z => Or.inl z).tr (f2.mono fun a b z => Or.inr z)
  cases z : rdA B n with
  | inl e =>
    rw [z] at C1
    have C1 : CF e.1 e.2 g := C1
    have hv0 : v = 0 := hv.mpr ⟨e, z⟩
    have R := r_hall (h := g2) X (by rw [F2.1 _ _ (by unfold Wln WN Whs; omega)]; exact t2) (fun k hk => by rw [F2.1 _ _ (by unfold Wln WN Whs; omega)]; exact (hBk k hk).2)
    rw [z] at R
    obtain ⟨g3, a3, f3, z3, R3⟩ := R
    refine ⟨-1, g2, g3, (v, g), if_pos hv0, a3, rfl, Tp0 ((f3.1 _ _ (by unfold Wra Wrd WT Wtl; omega)).trans v2) z3, ?_, Or.inl ⟨hv0, (F2.mono fun a b y => y.elim Or.inl (fun z => Or.inr (Or.inl z))).tr (f3.mono fun a b y => Or.inr (Or.inr y))⟩⟩
    have k : ∀ b, g3.1 53 b = g.1 53 b := fun b => by rw [f3.1 _ _ (by unfold Wra Wrd WT Wtl; omega), f2.1 _ _ (by omega)]
    exact ⟨by rw [k, C1.1, R3.1], by rw [k, C1.2.1, R3.2.1]⟩
  | inr S =>
    rw [z] at C1
    obtain ⟨I, P1, y8, y9⟩ := C1
    have hv1 : ¬ v = 0 := fun y => by
      obtain ⟨e, he⟩ := hv.mp y
      rw [z] at he
      cases he
    have P2 : PCt hs S g2 := P1.keep f2 (fun a b p q y => by omega)
    obtain ⟨g3, a3, f3, S3⟩ := c_beg hq P2.1
    have a3' : fX6_begin (0 + 56) hs g2 = some g3 := a3
    rw [if_neg hv1, a3', Option.bind_some]
    unfold fX0_clear
    rw [Option.bind_some]
    have f4 : Fr (fun a b => a = 5 ∧ b = 5) g3 (uI g3 (0 + 5) 5 0) := Fr.uI (by decide)
    have v4 : (uI g3 (0 + 5) 5 0).1 5 5 = 0 := uI_s _ _ _ _
    revert f4 v4
    generalize uI g3 (0 + 5) 5 0 = g4
    intro f4 v4
    obtain ⟨g5, a5, f5, v5⟩ := c_h64 (hh := hh) (hs := hs) (h := g4)
    rw [a5]
    have F25 : Fr (fun a b => Wc 56 a b ∨ a = 5 ∧ b = 5 ∨ a = 4) g2 g5 := ((f3.mono fun a b y => Or.inl y).tr (f4.mono fun a b y => Or.inr (Or.inl y))).tr (f5.mono fun a b y => Or.inr (Or.inr y))
    have F5 : Fr (fun a b => Wln hs a b ∨ a = 1 ∧ b = 1 ∨ Wc 56 a b ∨ a = 5 ∧ b = 5 ∨ a = 4) h g5 := (F2.mono fun a b y => y.elim Or.inl (fun z => Or.inr (Or.inl z))).tr (F25.mono fun a b y => Or.inr (Or.inr y))
    have P5 : PCt hs S g5 := P2.keep F25 (fun a b p q y => by unfold Wc at y; omega)
    have R := r_hall (h := g5) X (by rw [F5.1 _ _ (by unfold Wln WN Whs Wc; omega)]; exact t2) (fun k hk => by rw [F5.1 _ _ (by unfold Wln WN Whs Wc; omega)]; exact (hBk k hk).2)
    rw [z] at R
    obtain ⟨g6, a6, f6, z6, z2, z3, z79, z148, H6, S6, U6⟩ := R I
    have k6 : ∀ a b, a ≤ 100 → g6.1 a b = g5.1 a b := fun a b ha => f6.1 _ _ (by unfold Wha Wra Wrd WT Wtl Wr; omega)
    have P6 : PCt hs S g6 := P5.keep f6 (fun a b p q y => by unfold Wha Wra Wrd WT Wtl Wr at y; omega)
    have S5 : CS 56 S.d g5 (s00 S.d) := (S3.keep f4 (fun a b p q y => by omega)).keep f5 (fun a b p q y => by omega)
    have S6' : CS 56 S.d g6 (s00 S.d) := S5.keep f6 (fun a b p q y => by unfold Wha Wra Wrd WT Wtl Wr at y; omega)
    refine ⟨nI S.d.M, g5, g6, (v, g), ?_, a6, rfl, ?_, ?_, Or.inr ⟨hv1, S.d, I.1, ⟨⟨by omega, S6', P6.1, Fr.rf⟩, ⟨S6, H6, Fr.rf⟩⟩, ⟨I.2.2.2.2.2.2.1, P6.2.2.2.1, P6.2.2.2.2.1, U6⟩, fun i hi => ⟨(k6 _ _ (by omega)).trans (v5 i hi), z148 i hi⟩, ?_, z79, ?_⟩⟩
    · show some (g5.1 (hs + 3) 1, g5) = _
      rw [P5.1.M]
    · exact Tp0 (by rw [k6 _ _ (by omega), F25.1 _ _ (by unfold Wc; omega)]; exact v2) z6
    · have k : ∀ b, g6.1 53 b = g.1 53 b := fun b => by rw [k6 _ _ (by omega), F25.1 _ _ (by unfold Wc; omega), f2.1 _ _ (by omega)]
      exact ⟨by rw [k, y8, z2], by rw [k, y9, z3]⟩
    · rw [k6 _ _ (by omega), f5.1 _ _ (by omega)]; exact v4
    · have Q5 : Fr (Wg hs) h g5 := F5.mono fun a b y => by
        rcases y with y | y | y | y | y
        · exact Or.inl (Or.inl y)
        · exact Or.inl (Or.inr (Or.inl y))
        · exact Or.inr (Or.inl y)
        · exact Or.inr (Or.inr (Or.inl y))
        · exact Or.inr (Or.inr (Or.inr (Or.inl y)))
      have Q6 : Fr (Wg hs) g5 g6 := f6.mono fun a b y => Or.inr (Or.inr (Or.inr (Or.inr y)))
      exact Q5.tr Q6
