/-! each call keeps the invariant and answers alike -/
theorem i_same {t : Nat} {h : HI} {hh hs : Nat} {bh : Nat → Nat} (I : Inv t h hh hs bh) : Inv (t + 1) h hh hs bh := by
  obtain ⟨q, d, s, T, w, v, X, U, Bx, tp, fa, bk, wd, sp, hT⟩ := I
  exact ⟨q, d, s, T, w, v, X, U, Bx, tp, fa, bk, wd, sp, by omega⟩
theorem i_act {t T : Nat} {h : HI} {hh hs : Nat} {bh : Nat → Nat} {d : HD} (q : hh = 11 ∧ hs = 32 ∨ hh = 32 ∧ hs = 11) (w : HDw d) (U : RU hh d h) (Bx : BX hh bh d h) (tp : Tp h) (fa : Fa h) (bk : Bk h) (wd : Wd h) (sp : Sp T h) (hT : T ≤ 8 * t) {f : Option (Int32 × HI)} {g : HI → Option (Int32 × HI)} (A : Act hh d h f g) : ∃ (r : Int32) (h1 h2 : HI), f = some (r, h1) ∧ g h1 = some (r, h2) ∧ Inv (t + 1) h2 hh hs bh := by
  obtain ⟨r, h1, h2, s2, e1, e2, X2, v2, F⟩ := A
  obtain ⟨k1, k2, k3, k4, k5, k6, k7⟩ := k_Wa (hs := hs) (s := s00 d) q w U Bx tp fa bk wd sp F
  exact ⟨r, h1, h2, e1, e2, q, d, s2, T, w, v2, X2, k1, k2, k3, k4, k5, k6, k7, by omega⟩
theorem i_plan {t T : Nat} {h : HI} {hh hs : Nat} {bh : Nat → Nat} {d : HD} {s : SD} (q : hh = 11 ∧ hs = 32 ∨ hh = 32 ∧ hs = 11) (w : HDw d) (v : SDw d s) (X : St hh d h s) (U : RU hh d h) (Bx : BX hh bh d h) (tp : Tp h) (fa : Fa h) (bk : Bk h) (wd : Wd h) (hT : T ≤ 8 * t) {f : Option (Int32 × HI)} {g : HI → Option (Int32 × HI)} (A : Plan hh T h f g) : ∃ (r : Int32) (h1 h2 : HI), f = some (r, h1) ∧ g h1 = some (r, h2) ∧ Inv (t + 1) h2 hh hs bh := by
  obtain ⟨r, h1, h2, T2, e1, e2, F, hT2, sp2⟩ := A
  obtain ⟨k0, k1, k2, k3, k4, k5, k6⟩ := k_Wpn (hs := hs) (T := T) q w X U Bx tp fa bk wd F
  exact ⟨r, h1, h2, e1, e2, q, d, s, T2, w, v, k0, k1, k2, k3, k4, k5, k6, sp2, by omega⟩
theorem i_tp {t : Nat} {h h2 : HI} {hh hs : Nat} {bh : Nat → Nat} (I : Inv t h hh hs bh) (tp2 : Tp h2) (F : Fr TpW h h2) : Inv (t + 1) h2 hh hs bh := by
  obtain ⟨q, d, s, T, w, v, X, U, Bx, tp, fa, bk, wd, sp, hT⟩ := I
  obtain ⟨k0, k1, k2, k3, k4, k5, k6⟩ := k_TpW (hs := hs) q w X U Bx fa bk wd sp F
  exact ⟨q, d, s, T, w, v, k0, k1, k2, tp2, k3, k4, k5, k6, by omega⟩
theorem i_bk {t : Nat} {h h2 : HI} {hh hs : Nat} {bh : Nat → Nat} (I : Inv t h hh hs bh) (bk2 : Bk h2) (F : Fr BkW h h2) : Inv (t + 1) h2 hh hs bh := by
  obtain ⟨q, d, s, T, w, v, X, U, Bx, tp, fa, bk, wd, sp, hT⟩ := I
  obtain ⟨k0, k1, k2, k3, k4, k5, k6⟩ := k_BkW (hs := hs) q w X U Bx tp fa wd sp F
  exact ⟨q, d, s, T, w, v, k0, k1, k2, k3, k4, bk2, k5, k6, by omega⟩
theorem i_qu {t : Nat} {h : HI} {hh hs : Nat} {bh : Nat → Nat} (I : Inv t h hh hs bh) {f : Option (Int32 × HI)} {g : HI → Option (Int32 × HI)} (A : Qu h f (g h)) : ∃ (r : Int32) (h1 h2 : HI), f = some (r, h1) ∧ g h1 = some (r, h2) ∧ Inv (t + 1) h2 hh hs bh := by
  obtain ⟨r, e1, e2⟩ := A
  exact ⟨r, h, h, e1, e2, i_same I⟩
theorem i_hall {t : Nat} {h : HI} {hh hs : Nat} {bh : Nat → Nat} (I : Inv t h hh hs bh) : ∃ (w : Int32) (h1 h2 : HI), fX8_hall 0 hh hs h = some (w, h1) ∧ fX9_hall 101 h1 = some (w, h2) ∧ ∃ q : Int32 × HI, fX4_read (0 + 53) (0 + 1) hs h = some q ∧ ((q.1 = 0 ∧ Inv (t + 1) h2 hh hs bh) ∨ (¬ q.1 = 0 ∧ Inv (t + 1) h2 hs hh bh)) := by
  obtain ⟨q, d, s, T, w, v, X, U, Bx, tp, fa, bk, wd, sp, hT⟩ := I
  obtain ⟨r, h1, h2, qq, e1, e2, e3, tp2, fa2, z⟩ := op_hall (hh := hh) (hs := hs) (by omega) (by omega) tp wd
  refine ⟨r, h1, h2, e1, e2, qq, e3, ?_⟩
  rcases z with ⟨z0, F⟩ | ⟨z0, d2, w2, X2, U2, y1, y2, y3, F⟩
  · obtain ⟨k0, k1, k2, k4, k5, k6⟩ := k_Wf (hs := hs) q w X U Bx bk wd sp F
    exact Or.inl ⟨z0, q, d, s, T, w, v, k0, k1, k2, tp2, fa2, k4, k5, k6, by omega⟩
  · refine Or.inr ⟨z0, by omega, d2, s00 d2, T, w2, SDw0 w2, X2, U2, fun i hi => ⟨false, (y1 i hi).1, (y1 i hi).2, (fun y => by cases y)⟩, tp2, fa2, ?_, ?_, ?_, by omega⟩
    · obtain ⟨c, T0, b1, b2, b3, b4, b5, b6, b7, b8⟩ := bk
      refine ⟨0, T0, by decide, b2, y2, y3, ?_, ?_, fun i hi => absurd hi (Nat.not_lt_zero i), fun i hi => absurd hi (Nat.not_lt_zero i)⟩
      · rw [F.1 _ _ (by unfold Wg Wf Wln WN Whs Wha Wra Wrd WT Wtl Wc Wr; omega)]; exact b5
      · rw [F.1 _ _ (by unfold Wg Wf Wln WN Whs Wha Wra Wrd WT Wtl Wc Wr; omega)]; exact b6
    · exact wd.keep F (fun a b p y => by unfold Wg Wf Wln WN Whs Wha Wra Wrd WT Wtl Wc Wr at y; omega)
    · exact sp.keep F (fun y => by unfold Wg Wf Wln WN Whs Wha Wra Wrd WT Wtl Wc Wr at y; omega) (fun b y => by unfold Wg Wf Wln WN Whs Wha Wra Wrd WT Wtl Wc Wr at y; omega)
theorem i_image {t : Nat} {h : HI} {hh hs : Nat} {bh : Nat → Nat} (I : Inv t h hh hs bh) (a1 : Int32) : ∃ (w : Int32) (h1 h2 : HI), fX8_image 0 hh h a1 = some (w, h1) ∧ fX9_image 101 h1 a1 = some (w, h2) ∧ ((¬ inB a1 3 ∧ Inv (t + 1) h2 hh hs bh) ∨ (inB a1 3 ∧ Inv (t + 1) h2 hh hs (fun i => if i = a1.toNatClampNeg then hh else bh i))) := by
  obtain ⟨q, d, s, T, w, v, X, U, Bx, tp, fa, bk, wd, sp, hT⟩ := I
  obtain ⟨r, h1, h2, e1, e2, F, z⟩ := op_image w v X Bx a1
  obtain ⟨k0, k1, k2, k3, k4, k5, k6⟩ := k_BXW (hs := hs) (bh := bh) q w X U tp fa bk wd sp F
  refine ⟨r, h1, h2, e1, e2, ?_⟩
  rcases z with ⟨z, B2⟩ | ⟨z, B2⟩
  · exact Or.inl ⟨z, q, d, s, T, w, v, k0, k1, B2, k2, k3, k4, k5, k6, by omega⟩
  · exact Or.inr ⟨z, q, d, s, T, w, v, k0, k1, B2, k2, k3, k4, k5, k6, by omega⟩
theorem i_back {t : Nat} {h : HI} {hh hs : Nat} {bh : Nat → Nat} (I : Inv t h hh hs bh) (a1 : Int32) : ∃ (w : Int32) (h1 h2 : HI), fX8_back 0 (bh (a1.toNatClampNeg)) h a1 = some (w, h1) ∧ fX9_back 101 h1 a1 = some (w, h2) ∧ (Inv (t + 1) h2 hh hs bh ∧ (inB a1 3 → ¬ (h.1 (0 + 4) (a1.toNatClampNeg)) = 0 → bh (a1.toNatClampNeg) = hh)) := by
  obtain ⟨q, d, s, T, w, v, X, U, Bx, tp, fa, bk, wd, sp, hT⟩ := I
  obtain ⟨r, h1, h2, s2, e1, e2, X2, v2, F, z⟩ := op_back w v X Bx a1
  obtain ⟨k1, k2, k3, k4, k5, k6, k7⟩ := k_Wa (hs := hs) (s := s00 d) q w U Bx tp fa bk wd sp F
  exact ⟨r, h1, h2, e1, e2, ⟨q, d, s2, T, w, v2, X2, k1, k2, k3, k4, k5, k6, k7, by omega⟩, z⟩
theorem i_floor {t : Nat} {h : HI} {hh hs : Nat} {bh : Nat → Nat} (I : Inv t h hh hs bh) (a1 : Int32) : ∃ (w : Int32) (h1 h2 : HI), fX8_floor 0 hh h a1 = some (w, h1) ∧ fX9_floor 101 h1 a1 = some (w, h2) ∧ Inv (t + 1) h2 hh hs bh := by
  obtain ⟨q, d, s, T, w, v, X, U, Bx, tp, fa, bk, wd, sp, hT⟩ := I
  obtain ⟨r, h2, e1, e2, F⟩ := op_floor w v X a1
  obtain ⟨k0, k1, k2, k3, k4, k5, k6, k7⟩ := k_Wfl (hs := hs) q w X U Bx tp fa bk wd sp F
  exact ⟨r, h, h2, e1, e2, q, d, s, T, w, v, k0, k1, k2, k3, k4, k5, k6, k7, by omega⟩
theorem crb (a : Int32) : (if a = 0 then (0 : Int32) else (1 : Int32)) = b01 (decide (¬ a = 0)) := by
  by_cases c : a = 0
  · rw [if_pos c, decide_eq_false (fun z => z c)]; rfl
  · rw [if_neg c, decide_eq_true c]; rfl
theorem step_ok (t : Nat) (ht : t < 512) (op : Nat) (a1 a2 a3 a4 a5 : Int32) (h : HI) (hh hs : Nat) (bh : Nat → Nat) (I : Inv t h hh hs bh) : StepOK (Inv (t + 1)) op a1 a2 a3 a4 a5 h hh hs bh := by
  have II := I
  obtain ⟨q, d, s, T, w, v, X, U, Bx, tp, fa, bk, wd, sp, hT⟩ := I
  have hT8 : T + 8 < 2 ^ 30 := by omega
  match op with
  | 0 => obtain ⟨r, h1, h2, e1, e2, e3, e4⟩ := op_feed tp a1 a2 a3 a4 a5; exact ⟨r, h1, h2, e1, e2, i_tp II e3 e4⟩
  | 1 => obtain ⟨r, h1, h2, e1, e2, e3, e4⟩ := op_end tp a1; exact ⟨r, h1, h2, e1, e2, i_tp II e3 e4⟩
  | 2 => exact i_hall II
  | 3 => obtain ⟨r, e1, e2⟩ := op_fault fa a1; exact ⟨r, h, h, e1, e2, i_same II⟩
  | 4 => exact i_act q w U Bx tp fa bk wd sp hT (op_rise w v X a1)
  | 5 => exact i_act q w U Bx tp fa bk wd sp hT (op_sit w v X a1 a2)
  | 6 => exact i_act q w U Bx tp fa bk wd sp hT (op_speak w v X a1 a2)
  | 7 => exact i_act q w U Bx tp fa bk wd sp hT (op_vote w v U X a1)
  | 8 => exact i_act q w U Bx tp fa bk wd sp hT (op_enter w v X a1)
  | 9 => exact i_act q w U Bx tp fa bk wd sp hT (op_stay w v X a1)
  | 10 =>
    unfold StepOK
    rw [crb a2]
    exact i_act q w U Bx tp fa bk wd sp hT (op_crack w v X a1 (decide (¬ a2 = 0)))
  | 11 => exact i_act q w U Bx tp fa bk wd sp hT (op_found w v X a1)
  | 12 => exact i_qu (g := fun h1 => fX9_man 101 h1 a1 a2) II (op_man w v X a1 a2)
  | 13 => exact i_qu (g := fun h1 => fX9_chair 101 h1 a1 a2) II (op_chair w X a1 a2)
  | 14 => exact i_qu (g := fun h1 => fX9_matter 101 h1 a1 a2) II (op_matter w v X a1 a2)
  | 15 => exact i_qu (g := fun h1 => fX9_deal 101 h1 a1) II (op_deal w v X a1)
  | 16 => exact i_qu (g := fun h1 => fX9_voted 101 h1 a1 a2) II (op_voted w v X a1 a2)
  | 17 => exact i_qu (g := fun h1 => fX9_sat 101 h1 a1 a2) II (op_sat w v X a1 a2)
  | 18 => exact i_plan q w v X U Bx tp fa bk wd hT (op_best w v X U sp hT8 a1 a2)
  | 19 => exact i_plan q w v X U Bx tp fa bk wd hT (op_fewest w v X U sp hT8 a1)
  | 20 => exact i_plan q w v X U Bx tp fa bk wd hT (op_lets w v X U sp hT8 a1 a2)
  | 21 => exact i_floor II a1
  | 22 => exact i_qu (g := fun h1 => fX9_could 101 h1 a1 a2 a3 a4) II (op_could w X a1 a2 a3 a4)
  | 23 => obtain ⟨r, h1, h2, e1, e2, e3, e4⟩ := op_entry w X bk a1 a2 a3; exact ⟨r, h1, h2, e1, e2, i_bk II e3 e4⟩
  | 24 => obtain ⟨r, h1, h2, e1, e2, e3, e4⟩ := op_untell bk a1; exact ⟨r, h1, h2, e1, e2, i_bk II e3 e4⟩
  | 25 => obtain ⟨r, h1, h2, e1, e2, e3, e4⟩ := op_later bk a1; exact ⟨r, h1, h2, e1, e2, i_bk II e3 e4⟩
  | 26 => exact i_qu (g := fun h1 => fX9_judge 101 h1 a1 a2) II (op_judge w v X bk a1 a2)
  | 27 => exact i_image II a1
  | 28 => exact i_back II a1
  | 29 => exact i_qu (g := fun h1 => fX9_about 101 h1 a1) II (op_about w X tp bk a1)
  | n + 30 => exact i_same II
theorem first_inv : ∃ p1 p2 : HI, gX8_0 (zc h00 0) = some p1 ∧ gX9_101 (zc p1 101) = some p2 ∧ Inv 0 p2 11 32 (fun _ => 11) := by
  obtain ⟨p1, a1, H, S, e1, e2, D, c8, c9, z1⟩ := p1_ok
  obtain ⟨p, ap, fp, zp, sp⟩ := g101 (zc p1 101)
  have Fp : Fr (fun a _ => 101 ≤ a) p1 p := (Fr.zr (fun _ => by decide)).tr fp
  have s : ∀ b, ¬ b = 3 → p.1 101 b = 0 := fun b hb => by rw [sp b, if_neg hb, zc_s]
  have z0 : ∀ a b, a ≤ 28 → p.1 a b = 0 := fun a b ha => (Fp.1 _ _ (by omega)).trans (z1 a b ha)
  have Hp : CH 11 d00 p := H.keep Fp (fun a b p q z => by omega)
  have Sp0 : CS 56 d00 p (s00 d00) := S.keep Fp (fun a b p q z => by omega)
  have Up : RU 11 d00 p := ⟨PIt0.2.2.2.2.2.2.1, (Fp.1 29 2 (by decide)).trans e1, fun i hi => (Fp.1 30 i (show ¬ 101 ≤ 30 by decide)).trans (e2 i hi), Or.inl ⟨s 48 (by decide), rfl⟩⟩
  have Bp : BX 11 (fun _ => 11) d00 p := fun i hi => ⟨false, z0 4 i (by decide), zp 148 i (by decide) (by decide), (fun y => by cases y)⟩
  have Fap : Fa p := ⟨by rw [Fp.1 53 8 (by decide), c8, s 2 (by decide)], by rw [Fp.1 53 9 (by decide), c9, sp 3, if_pos rfl]⟩
  have Dp : Wd p := D.keep Fp (fun a b p z => by omega)
  exact ⟨p1, p, a1, ap, Or.inl ⟨rfl, rfl⟩, d00, s00 d00, 0, PIt0.1, SDw0 PIt0.1, ⟨⟨by decide, Sp0, Hp, Fr.rf⟩, ⟨RS0 zp s, RH0 zp s, Fr.rf⟩⟩, Up, Bp, Tp0 (z0 1 1 (by decide)) (s 1 (by decide)), Fap, Bk00 z0 s, Dp, Sp00 zp s, Nat.zero_le _⟩
