/-! vote -/
def msk {α : Type} (f g : Nat → α) (P : Nat → Bool) (j : Nat) : Nat → α := fun i => if i < j ∧ P i = true then g i else f i
theorem msk_0 {α : Type} (f g : Nat → α) (P : Nat → Bool) : msk f g P 0 = f := funext fun i => if_neg (fun u => absurd u.1 (Nat.not_lt_zero i))
theorem msk_at {α : Type} (f g : Nat → α) (P : Nat → Bool) (j : Nat) : msk f g P j j = f j := if_neg (fun u => absurd u.1 (Nat.lt_irrefl j))
theorem msk_y {α : Type} {f g : Nat → α} {P : Nat → Bool} {j : Nat} (h : P j = true) : ud (msk f g P j) j (g j) = msk f g P (j + 1) := by
  funext i
  unfold ud msk
  by_cases z : i = j
  · rw [if_pos z, z, if_pos ⟨Nat.lt_succ_self j, h⟩]
  · rw [if_neg z]
    by_cases x : P i = true
    · by_cases y : i < j
      · rw [if_pos ⟨y, x⟩, if_pos ⟨by omega, x⟩]
      · rw [if_neg (fun u => y u.1), if_neg (fun u => by omega)]
    · rw [if_neg (fun u => x u.2), if_neg (fun u => x u.2)]
theorem msk_n {α : Type} {f g : Nat → α} {P : Nat → Bool} {j : Nat} (h : P j = false) : msk f g P j = msk f g P (j + 1) := by
  funext i
  unfold msk
  by_cases x : P i = true
  · by_cases y : i < j
    · rw [if_pos ⟨y, x⟩, if_pos ⟨by omega, x⟩]
    · rw [if_neg (fun u => y u.1), if_neg (fun u => by
        have : i = j := by omega
        rw [this, h] at x; exact absurd x (by decide))]
  · rw [if_neg (fun u => x u.2), if_neg (fun u => x u.2)]
theorem msk_on {α : Type} {f g : Nat → α} {P : Nat → Bool} {j i : Nat} (hi : i < j) : msk f g P j i = if P i = true then g i else f i := by
  unfold msk
  by_cases x : P i = true
  · rw [if_pos ⟨hi, x⟩, if_pos x]
  · rw [if_neg (fun u => x u.2), if_neg x]
def dkP (d : HD) (s : SD) (x i : Nat) : Bool := decide (d.dx i = x) && due d s i
def rkP (d : HD) (s : SD) (x i : Nat) : Bool := decide (s.ds i = 1) && decide (d.dx i = x)
def en (d : HD) (Y : Nat → Bool) (i : Nat) : Nat := if Y (d.dm i) then 2 else 3
theorem c_end {o hh : Nat} {d : HD} {h0 h : HI} {s : SD} (w : HDw d) (R : CO o hh d h0 h s) {x : Nat} (hx : x < d.X) (Y : Nat → Bool) : ∃ h1, fX6_endDeals o hh h (nI x) (nI (bs Y d.M)) = some h1 ∧ CO o hh d h0 h1 (s.w_de (msk s.de (en d Y) (dkP d s x) d.D)) := by
  have hD := w.D4
  have hM := w.M6
  have hX := w.X4
  unfold fX6_endDeals
  rw [c_due w R, Option.bind_some]
  obtain ⟨F, ⟨h2, i⟩, ⟨hi, R2⟩, hL⟩ := lpi (fun n (p : HI × Int32) => fX6_endDeals_8 o hh (fun h3 => some h3) n p.1 (nI x) (nI (bs Y d.M)) (nI (bs (due d s) d.D)) p.2) (fun j p => p.2 = nI j ∧ CO o hh d h0 p.1 (s.w_de (msk s.de (en d Y) (dkP d s x) j))) d.D (by omega) (by
    rintro j ⟨h2, i⟩ hj ⟨hi, R2⟩
    simp only at hi R2
    subst hi
    have hdl := w.dl j hj
    have e1 : ∀ n, fX6_endDeals_8 o hh (fun h3 => some h3) (n + 1) h2 (nI x) (nI (bs Y d.M)) (nI (bs (due d s) d.D)) (nI j) = if nI (d.dx j) = nI x then (if b01 (due d s j) = 0 then fX6_endDeals_8 o hh (fun h3 => some h3) n h2 (nI x) (nI (bs Y d.M)) (nI (bs (due d s) d.D)) (nI (j + 1)) else if b01 (Y (d.dm j)) = 0 then fX6_endDeals_8 o hh (fun h3 => some h3) n (uI h2 (o + 6) j 3) (nI x) (nI (bs Y d.M)) (nI (bs (due d s) d.D)) (nI (j + 1)) else fX6_endDeals_8 o hh (fun h3 => some h3) n (uI h2 (o + 6) j 2) (nI x) (nI (bs Y d.M)) (nI (bs (due d s) d.D)) (nI (j + 1))) else fX6_endDeals_8 o hh (fun h3 => some h3) n h2 (nI x) (nI (bs Y d.M)) (nI (bs (due d s) d.D)) (nI (j + 1)) := by
      intro n
      rw [fX6_endDeals_8, R2.H.D, if_neg (nI_ge hj (by omega)), if_neg (show ¬ (4 : Int32) ≤ nI j from nI_ge (b := 4) (by omega) (by decide)), tst _ (by omega) hj]
      unfold fX6_endDeals_77 fX6_endDeals_78
      simp (disch := omega) only [gB, nI_clamp, nI_1, R2.H.dx, R2.H.dm]
      rw [tst Y (by omega) hdl.1]
    by_cases q1 : d.dx j = x
    · cases q2 : due d s j with
      | false =>
        refine ⟨(h2, nI (j + 1)), ⟨rfl, ?_⟩, fun n => ?_⟩
        · rw [← msk_n (show dkP d s x j = false by unfold dkP; rw [q2, Bool.and_false])]; exact R2
        · show fX6_endDeals_8 o hh _ (n + 1) h2 _ _ _ (nI j) = _
          rw [e1, if_pos (congrArg nI q1), q2, if_pos b01f]
      | true =>
        have hk : dkP d s x j = true := by unfold dkP; rw [q2, decide_eq_true q1]; rfl
        refine ⟨(uI h2 (o + 6) j (nI (en d Y j)), nI (j + 1)), ⟨rfl, ?_⟩, fun n => ?_⟩
        · rw [← msk_y hk]
          exact R2.s_de (m := j) (v := en d Y j)
        · show fX6_endDeals_8 o hh _ (n + 1) h2 _ _ _ (nI j) = _
          rw [e1, if_pos (congrArg nI q1), q2, if_neg b01t]
          unfold en
          cases Y (d.dm j) with
          | true => rw [if_neg b01t]; rfl
          | false => rw [if_pos b01f]; rfl
    · refine ⟨(h2, nI (j + 1)), ⟨rfl, ?_⟩, fun n => ?_⟩
      · rw [← msk_n (show dkP d s x j = false by unfold dkP; rw [decide_eq_false q1, Bool.false_and])]; exact R2
      · show fX6_endDeals_8 o hh _ (n + 1) h2 _ _ _ (nI j) = _
        rw [e1, if_neg (fun e => q1 ((nI_eq (by omega) (by omega)).mp e))]) (s0 := (h, 0)) ⟨rfl, by rw [msk_0]; exact R⟩
  simp only at hi R2 hL
  subst hi
  exact ⟨h2, by rw [hL, fX6_endDeals_8, R2.H.D, if_pos (nI_le (Nat.le_refl _) (by omega))], R2⟩
def fcs (mi x : Nat) (y n u p : Int32) (w : Nat) : Int32 := if w = 0 then nI (mi + 1) else if w = 1 then nI x else if w = 2 then y else if w = 3 then n else if w = 4 then u else p
theorem CO.s_fx {o hh : Nat} {d : HD} {h0 h : HI} {s : SD} {k : Nat} {u : Int32} (R : CO o hh d h0 h s) (hk : 6 * s.vo ≤ k) : CO o hh d h0 (uI h (o + 7) k u) s := R.put (Fr.uI (by unfold Wc; omega)) ⟨fun i hi => (uI_n (by omega)).trans (R.S.wh i hi), fun i hi => (uI_n (by omega)).trans (R.S.ti i hi), fun i hi => (uI_n (by omega)).trans (R.S.sf i hi), fun i hi => (uI_n (by omega)).trans (R.S.sp i hi), fun i hi => (uI_n (by omega)).trans (R.S.ss i hi), fun i hi => (uI_n (by omega)).trans (R.S.de i hi), (uI_n (by omega)).trans R.S.br, (uI_n (by omega)).trans R.S.fo, (uI_n (by omega)).trans R.S.mi, (uI_n (by omega)).trans R.S.vo, (uI_n (by omega)).trans R.S.sk, fun i w hi h4 hw => (uI_n (by omega)).trans (R.S.fa i w hi h4 hw), fun k hk h2 => R.S.sr k hk h2⟩
theorem RO.s_fx {d : HD} {h0 h : HI} {s : SD} {k : Nat} {u : Int32} (R : RO d h0 h s) (hk : 6 * s.vo ≤ k) : RO d h0 (uI h 136 k u) s := R.put (Fr.uI (by unfold Wr; omega)) ⟨fun i hi => (uI_n (by omega)).trans (R.S.wh i hi), fun i hi => (uI_n (by omega)).trans (R.S.ti i hi), fun i hi => (uI_n (by omega)).trans (R.S.sf i hi), fun i hi => (uI_n (by omega)).trans (R.S.sp i hi), fun i hi => (uI_n (by omega)).trans (R.S.ss i hi), fun i hi => (uI_n (by omega)).trans (R.S.ds i hi), fun i hi => (uI_n (by omega)).trans (R.S.br i hi), fun i hi => (uI_n (by omega)).trans (R.S.fo i hi), (uI_n (by omega)).trans R.S.mi, (uI_n (by omega)).trans R.S.vo, (uI_n (by omega)).trans R.S.sk, fun i w hi h4 hw => (uI_n (by omega)).trans (R.S.fa i w hi h4 hw), fun k c hk h2 hc => (uI_n (by omega)).trans (R.S.sr k c hk h2 hc)⟩
theorem CO.s_vo {o hh : Nat} {d : HD} {h0 h : HI} {s : SD} {f : Nat → Int32} (R : CO o hh d h0 h s) (hf : ∀ w, w < 6 → h.1 (o + 7) (6 * s.vo + w) = f w) : CO o hh d h0 (uI h o 2 (nI (s.vo + 1))) ((s.w_fa (ud s.fa s.vo f)).w_vo (s.vo + 1)) := R.put (Fr.uI (by unfold Wc; omega)) ⟨fun i hi => (uI_n (by omega)).trans (R.S.wh i hi), fun i hi => (uI_n (by omega)).trans (R.S.ti i hi), fun i hi => (uI_n (by omega)).trans (R.S.sf i hi), fun i hi => (uI_n (by omega)).trans (R.S.sp i hi), fun i hi => (uI_n (by omega)).trans (R.S.ss i hi), fun i hi => (uI_n (by omega)).trans (R.S.de i hi), (uI_n (by omega)).trans R.S.br, (uI_n (by omega)).trans R.S.fo, (uI_n (by omega)).trans R.S.mi, uI_s _ _ _ _, (uI_n (by omega)).trans R.S.sk, fun i w hi h4 hw => by
    rw [uI_n (by omega)]
    have hi2 : i < s.vo + 1 := hi
    show _ = ud s.fa s.vo f i w
    by_cases e : i = s.vo
    · rw [e, ud_s]; exact hf w hw
    · rw [ud_n e]; exact R.S.fa i w (by omega) h4 hw, fun k hk h2 => R.S.sr k hk h2⟩
theorem RO.s_vo {d : HD} {h0 h : HI} {s : SD} {f : Nat → Int32} (R : RO d h0 h s) (hf : ∀ w, w < 6 → h.1 136 (6 * s.vo + w) = f w) : RO d h0 (uI h 101 58 (nI (s.vo + 1))) ((s.w_fa (ud s.fa s.vo f)).w_vo (s.vo + 1)) := R.put (Fr.uI (by unfold Wr; omega)) ⟨fun i hi => (uI_n (by omega)).trans (R.S.wh i hi), fun i hi => (uI_n (by omega)).trans (R.S.ti i hi), fun i hi => (uI_n (by omega)).trans (R.S.sf i hi), fun i hi => (uI_n (by omega)).trans (R.S.sp i hi), fun i hi => (uI_n (by omega)).trans (R.S.ss i hi), fun i hi => (uI_n (by omega)).trans (R.S.ds i hi), fun i hi => (uI_n (by omega)).trans (R.S.br i hi), fun i hi => (uI_n (by omega)).trans (R.S.fo i hi), (uI_n (by omega)).trans R.S.mi, uI_s _ _ _ _, (uI_n (by omega)).trans R.S.sk, fun i w hi h4 hw => by
    rw [uI_n (by omega)]
    have hi2 : i < s.vo + 1 := hi
    show _ = ud s.fa s.vo f i w
    by_cases e : i = s.vo
    · rw [e, ud_s]; exact hf w hw
    · rw [ud_n e]; exact R.S.fa i w (by omega) h4 hw, fun k c hk h2 hc => (uI_n (by omega)).trans (R.S.sr k c hk h2 hc)⟩
theorem nI_m6 (j k : Nat) : nI j * (6 : Int32) + nI k = nI (6 * j + k) := by rw [show (6 : Int32) = nI 6 from rfl, nI_mu, nI_add, Nat.mul_comm]
theorem nI_6m (j k : Nat) : (6 : Int32) * nI j + nI k = nI (6 * j + k) := by rw [show (6 : Int32) = nI 6 from rfl, nI_mu, nI_add]
theorem fcs_at {a h4 : Nat} {h : HI} {mi x : Nat} {y n u p : Int32} : ∀ w, w < 6 → (uI (uI (uI (uI (uI (uI h a (h4 + 0) (nI (mi + 1))) a (h4 + 1) (nI x)) a (h4 + 2) y) a (h4 + 3) n) a (h4 + 4) u) a (h4 + 5) p).1 a (h4 + w) = fcs mi x y n u p w := by
  intro w hw
  rcases (show w = 0 ∨ w = 1 ∨ w = 2 ∨ w = 3 ∨ w = 4 ∨ w = 5 by omega) with e | e | e | e | e | e <;> subst e
  · rw [uI_n (by omega), uI_n (by omega), uI_n (by omega), uI_n (by omega), uI_n (by omega), uI_s]; rfl
  · rw [uI_n (by omega), uI_n (by omega), uI_n (by omega), uI_n (by omega), uI_s]; rfl
  · rw [uI_n (by omega), uI_n (by omega), uI_n (by omega), uI_s]; rfl
  · rw [uI_n (by omega), uI_n (by omega), uI_s]; rfl
  · rw [uI_n (by omega), uI_s]; rfl
  · rw [uI_s]; rfl
theorem c_keepV {o hh : Nat} {d : HD} {h0 h : HI} {s : SD} (w : HDw d) (R : CO o hh d h0 h s) (hw : ∀ i, i < d.M → s.wh i = -2 ∨ s.wh i = -1 ∨ ∃ c, c < d.C ∧ s.wh i = nI c) {x : Nat} (hx : x < d.X) {p : Bool} (hp : s.ss x = if p then 2 else 3) (hv : s.vo < 4) (y n : Int32) : ∃ h1, fX6_keepVote o hh h (nI x) y n = some h1 ∧ CO o hh d h0 h1 ((s.w_fa (ud s.fa s.vo (fcs s.mi x y n (nI (bs (fun m => decide (s.wh m < 0)) d.M)) (b01 p)))).w_vo (s.vo + 1)) := by
  have hX := w.X4
  have hM := w.M6
  unfold fX6_keepVote
  have e0 : nI s.vo * (6 : Int32) = nI (6 * s.vo + 0) := by rw [← nI_m6]; exact (Int32.add_zero _).symm
  have e1 : nI s.vo * (6 : Int32) + 1 = nI (6 * s.vo + 1) := nI_m6 s.vo 1
  have e2 : nI s.vo * (6 : Int32) + 2 = nI (6 * s.vo + 2) := nI_m6 s.vo 2
  have e3 : nI s.vo * (6 : Int32) + 3 = nI (6 * s.vo + 3) := nI_m6 s.vo 3
  have e4 : nI s.vo * (6 : Int32) + 4 = nI (6 * s.vo + 4) := nI_m6 s.vo 4
  have e5 : nI s.vo * (6 : Int32) + 5 = nI (6 * s.vo + 5) := nI_m6 s.vo 5
  rw [R.S.vo, e1, e2, e3, e4, e5, e0, if_neg (show ¬ (4 : Int32) ≤ nI s.vo from nI_ge (b := 4) hv (by decide))]
  simp (disch := omega) only [gB, nI_clamp]
  rw [R.S.mi, nI_1]
  have R4 := (((R.s_fx (k := 6 * s.vo + 0) (u := nI (s.mi + 1)) (by omega)).s_fx (k := 6 * s.vo + 1) (u := nI x) (by omega)).s_fx (k := 6 * s.vo + 2) (u := y) (by omega)).s_fx (k := 6 * s.vo + 3) (u := n) (by omega)
  have ea : fX6_allMen o hh (uI (uI (uI (uI h (o + 7) (6 * s.vo + 0) (nI (s.mi + 1))) (o + 7) (6 * s.vo + 1) (nI x)) (o + 7) (6 * s.vo + 2) y) (o + 7) (6 * s.vo + 3) n) = some (nI (bs (fun _ => true) d.M), uI (uI (uI (uI h (o + 7) (6 * s.vo + 0) (nI (s.mi + 1))) (o + 7) (6 * s.vo + 1) (nI x)) (o + 7) (6 * s.vo + 2) y) (o + 7) (6 * s.vo + 3) n) := by
    unfold fX6_allMen
    rw [R4.H.M, bs_all hM]
  rw [ea, Option.bind_some, c_sit w hw R4, Option.bind_some]
  unfold siN
  rw [bs_andn, bs_cong (P := fun i => true && !!decide (s.wh i < 0)) (Q := fun m => decide (s.wh m < 0)) (fun i hi => by rw [Bool.true_and, Bool.not_not]), R4.S.ss x (by omega), hp]
  have R5 := R4.s_fx (k := 6 * s.vo + 4) (u := nI (bs (fun m => decide (s.wh m < 0)) d.M)) (by omega)
  have R6 := R5.s_fx (k := 6 * s.vo + 5) (u := b01 p) (by omega)
  have ek : fX6_keepVote_103 o hh (uI (uI (uI (uI (uI h (o + 7) (6 * s.vo + 0) (nI (s.mi + 1))) (o + 7) (6 * s.vo + 1) (nI x)) (o + 7) (6 * s.vo + 2) y) (o + 7) (6 * s.vo + 3) n) (o + 7) (6 * s.vo + 4) (nI (bs (fun m => decide (s.wh m < 0)) d.M))) (b01 p) (nI (6 * s.vo + 5)) = some (uI (uI (uI (uI (uI (uI (uI h (o + 7) (6 * s.vo + 0) (nI (s.mi + 1))) (o + 7) (6 * s.vo + 1) (nI x)) (o + 7) (6 * s.vo + 2) y) (o + 7) (6 * s.vo + 3) n) (o + 7) (6 * s.vo + 4) (nI (bs (fun m => decide (s.wh m < 0)) d.M))) (o + 7) (6 * s.vo + 5) (b01 p)) o 2 (nI (s.vo + 1))) := by
    unfold fX6_keepVote_103 fX6_keepVote_104
    simp (disch := omega) only [gB, nI_clamp]
    rw [R6.S.vo, nI_1]
  refine ⟨_, ?_, R6.s_vo fcs_at⟩
  rw [← ek]
  cases p with
  | true => rw [if_pos (show nI (if true = true then 2 else 3) = (2 : Int32) from rfl)]; rfl
  | false => rw [if_neg (show ¬ nI (if false = true then 2 else 3) = (2 : Int32) by decide)]; rfl
theorem ds_fv (s : SD) (fa : Nat → Nat → Int32) (vo : Nat) : ((s.w_fa fa).w_vo vo).ds = s.ds := rfl
theorem ds_ds (s : SD) (f : Nat → Int32) : (s.w_ds f).ds = f := rfl
theorem ds_self (s : SD) : s.w_ds s.ds = s := rfl
theorem r_kd {d : HD} {h0 h7 : HI} {s7 : SD} (w : HDw d) (R7 : RO d h0 h7 s7) {x : Nat} (hx : x < d.X) (Y : Nat → Bool) : ∃ h1, fX9_keep_106 101 (fun h2 => some h2) FU h7 (nI x) (nI (bs Y d.M)) 0 = some h1 ∧ RO d h0 h1 (s7.w_ds (msk s7.ds (fun i => nI (en d Y i)) (rkP d s7 x) d.D)) := by
  have hD := w.D4
  have hX := w.X4
  have hM := w.M6
  obtain ⟨F, ⟨h2, i⟩, ⟨hi, R2⟩, hL⟩ := lpi (fun n (p : HI × Int32) => fX9_keep_106 101 (fun h2 => some h2) n p.1 (nI x) (nI (bs Y d.M)) p.2) (fun j p => p.2 = nI j ∧ RO d h0 p.1 (s7.w_ds (msk s7.ds (fun i => nI (en d Y i)) (rkP d s7 x) j))) d.D (by omega) (by
    rintro j ⟨h2, i⟩ hj ⟨hi, R2⟩
    simp only at hi R2
    subst hi
    have hdl := w.dl j hj
    have ej : h2.1 133 j = s7.ds j := by rw [R2.S.ds j (by omega), ds_ds, msk_at]
    have e1 : ∀ n, fX9_keep_106 101 (fun h2 => some h2) (n + 1) h2 (nI x) (nI (bs Y d.M)) (nI j) = if s7.ds j = 1 then (if nI (d.dx j) = nI x then (if b01 (Y (d.dm j)) = 1 then fX9_keep_106 101 (fun h2 => some h2) n (uI h2 133 j 2) (nI x) (nI (bs Y d.M)) (nI (j + 1)) else fX9_keep_106 101 (fun h2 => some h2) n (uI h2 133 j 3) (nI x) (nI (bs Y d.M)) (nI (j + 1))) else fX9_keep_106 101 (fun h2 => some h2) n h2 (nI x) (nI (bs Y d.M)) (nI (j + 1))) else fX9_keep_106 101 (fun h2 => some h2) n h2 (nI x) (nI (bs Y d.M)) (nI (j + 1)) := by
      intro n
      rw [fX9_keep_106, R2.H.D, if_neg (nI_ge hj (by omega)), show (4 : Int32) * nI j + (1 : Int32) = nI (4 * j + 1) from nI_m4 j 1, nI_m40]
      unfold fX9_keep_169 fX9_keep_170
      simp (disch := omega) only [gB, nI_clamp, nI_1, R2.H.dx, R2.H.dm, Nat.reduceAdd]
      rw [tst Y (by omega) hdl.1, ej]
    by_cases q1 : s7.ds j = 1
    · by_cases q2 : d.dx j = x
      · have hk : rkP d s7 x j = true := by unfold rkP; rw [decide_eq_true q1, decide_eq_true q2]; rfl
        refine ⟨(uI h2 133 j (nI (en d Y j)), nI (j + 1)), ⟨rfl, ?_⟩, fun n => ?_⟩
        · rw [← msk_y hk]
          exact R2.s_ds (m := j) (v := nI (en d Y j))
        · show fX9_keep_106 101 _ (n + 1) h2 _ _ (nI j) = _
          rw [e1, if_pos q1, if_pos (congrArg nI q2)]
          unfold en
          cases Y (d.dm j) with
          | true => rw [if_pos b01t1]; rfl
          | false => rw [if_neg (by decide)]; rfl
      · refine ⟨(h2, nI (j + 1)), ⟨rfl, ?_⟩, fun n => ?_⟩
        · rw [← msk_n (show rkP d s7 x j = false by unfold rkP; rw [decide_eq_false q2, Bool.and_false])]; exact R2
        · show fX9_keep_106 101 _ (n + 1) h2 _ _ (nI j) = _
          rw [e1, if_pos q1, if_neg (fun e => q2 ((nI_eq (by omega) (by omega)).mp e))]
    · refine ⟨(h2, nI (j + 1)), ⟨rfl, ?_⟩, fun n => ?_⟩
      · rw [← msk_n (show rkP d s7 x j = false by unfold rkP; rw [decide_eq_false q1, Bool.false_and])]; exact R2
      · show fX9_keep_106 101 _ (n + 1) h2 _ _ (nI j) = _
        rw [e1, if_neg q1]) (s0 := (h7, 0)) ⟨rfl, by rw [msk_0, ds_self]; exact R7⟩
  simp only at hi R2 hL
  subst hi
  exact ⟨h2, by rw [hL, fX9_keep_106, R2.H.D, if_pos (nI_le (Nat.le_refl _) (by omega))], R2⟩
theorem r_keepV {d : HD} {h0 h : HI} {s : SD} (w : HDw d) (R : RO d h0 h s) {x : Nat} (hx : x < d.X) (p : Bool) (hv : s.vo < 4) (Y : Nat → Bool) (n : Int32) : ∃ h1, fX9_keep 101 h (nI x) (nI (bs Y d.M)) n (b01 p) = some h1 ∧ RO d h0 h1 (((s.w_fa (ud s.fa s.vo (fcs s.mi x (nI (bs Y d.M)) n (nI (bs (fun m => decide (s.wh m < 0)) d.M)) (b01 p)))).w_vo (s.vo + 1)).w_ds (msk s.ds (fun i => nI (en d Y i)) (rkP d s x) d.D)) := by
  have hD := w.D4
  have hX := w.X4
  have hM := w.M6
  unfold fX9_keep
  have e0 : (6 : Int32) * nI s.vo = nI (6 * s.vo + 0) := by rw [← nI_6m]; exact (Int32.add_zero _).symm
  have e1 : (6 : Int32) * nI s.vo + 1 = nI (6 * s.vo + 1) := nI_6m s.vo 1
  have e2 : (6 : Int32) * nI s.vo + 2 = nI (6 * s.vo + 2) := nI_6m s.vo 2
  have e3 : (6 : Int32) * nI s.vo + 3 = nI (6 * s.vo + 3) := nI_6m s.vo 3
  have e4 : (6 : Int32) * nI s.vo + 4 = nI (6 * s.vo + 4) := nI_6m s.vo 4
  have e5 : (6 : Int32) * nI s.vo + 5 = nI (6 * s.vo + 5) := nI_6m s.vo 5
  rw [R.S.vo, e1, e2, e3, e4, e5, e0, if_neg (show ¬ (100 : Int32) ≤ nI s.vo from nI_ge (b := 100) (by omega) (by decide))]
  simp (disch := omega) only [gB, nI_clamp, Nat.reduceAdd]
  rw [R.S.mi, nI_1]
  have R4 := (((R.s_fx (k := 6 * s.vo + 0) (u := nI (s.mi + 1)) (by omega)).s_fx (k := 6 * s.vo + 1) (u := nI x) (by omega)).s_fx (k := 6 * s.vo + 2) (u := nI (bs Y d.M)) (by omega)).s_fx (k := 6 * s.vo + 3) (u := n) (by omega)
  rw [r_up w R4, Option.bind_some]
  have R5 := R4.s_fx (k := 6 * s.vo + 4) (u := nI (bs (fun m => decide (s.wh m < 0)) d.M)) (by omega)
  have R6 := R5.s_fx (k := 6 * s.vo + 5) (u := b01 p) (by omega)
  have R7 := R6.s_vo (f := fcs s.mi x (nI (bs Y d.M)) n (nI (bs (fun m => decide (s.wh m < 0)) d.M)) (b01 p)) fcs_at
  have ek : fX9_keep_92 101 (uI (uI (uI (uI (uI h 136 (6 * s.vo + 0) (nI (s.mi + 1))) 136 (6 * s.vo + 1) (nI x)) 136 (6 * s.vo + 2) (nI (bs Y d.M))) 136 (6 * s.vo + 3) n) 136 (6 * s.vo + 4) (nI (bs (fun m => decide (s.wh m < 0)) d.M))) (nI x) (nI (bs Y d.M)) (b01 p) (nI (6 * s.vo + 5)) = fX9_keep_106 101 (fun h2 => some h2) FU (uI (uI (uI (uI (uI (uI (uI h 136 (6 * s.vo + 0) (nI (s.mi + 1))) 136 (6 * s.vo + 1) (nI x)) 136 (6 * s.vo + 2) (nI (bs Y d.M))) 136 (6 * s.vo + 3) n) 136 (6 * s.vo + 4) (nI (bs (fun m => decide (s.wh m < 0)) d.M))) 136 (6 * s.vo + 5) (b01 p)) 101 58 (nI (s.vo + 1))) (nI x) (nI (bs Y d.M)) 0 := by
    unfold fX9_keep_92 fX9_keep_93
    simp (disch := omega) only [gB, nI_clamp, Nat.reduceAdd]
    rw [R6.S.vo, nI_1]
  have ep : (if b01 p = 0 then fX9_keep_92 101 (uI (uI (uI (uI (uI h 136 (6 * s.vo + 0) (nI (s.mi + 1))) 136 (6 * s.vo + 1) (nI x)) 136 (6 * s.vo + 2) (nI (bs Y d.M))) 136 (6 * s.vo + 3) n) 136 (6 * s.vo + 4) (nI (bs (fun m => decide (s.wh m < 0)) d.M))) (nI x) (nI (bs Y d.M)) 0 (nI (6 * s.vo + 5)) else fX9_keep_92 101 (uI (uI (uI (uI (uI h 136 (6 * s.vo + 0) (nI (s.mi + 1))) 136 (6 * s.vo + 1) (nI x)) 136 (6 * s.vo + 2) (nI (bs Y d.M))) 136 (6 * s.vo + 3) n) 136 (6 * s.vo + 4) (nI (bs (fun m => decide (s.wh m < 0)) d.M))) (nI x) (nI (bs Y d.M)) 1 (nI (6 * s.vo + 5))) = fX9_keep_92 101 (uI (uI (uI (uI (uI h 136 (6 * s.vo + 0) (nI (s.mi + 1))) 136 (6 * s.vo + 1) (nI x)) 136 (6 * s.vo + 2) (nI (bs Y d.M))) 136 (6 * s.vo + 3) n) 136 (6 * s.vo + 4) (nI (bs (fun m => decide (s.wh m < 0)) d.M))) (nI x) (nI (bs Y d.M)) (b01 p) (nI (6 * s.vo + 5)) := by
    cases p with
    | true => rw [if_neg b01t, b01t1]
    | false => rw [if_pos b01f, b01f]
  rw [ep, ek]
  obtain ⟨h8, e8, R8⟩ := r_kd w R7 hx Y
  have hrk : rkP d s x = rkP d ((s.w_fa (ud s.fa s.vo (fcs s.mi x (nI (bs Y d.M)) n (nI (bs (fun m => decide (s.wh m < 0)) d.M)) (b01 p)))).w_vo (s.vo + 1)) x := by
    funext i
    unfold rkP
    rw [ds_fv]
  rw [← hrk, ds_fv] at R8
  exact ⟨h8, e8, R8⟩
/-! the state behind a vote -/
def vtS (d : HD) (s : SD) (x : Nat) (Y : Nat → Bool) (f : Nat → Int32) (p : Bool) : SD := ((((s.w_de (msk s.de (en d Y) (dkP d s x) d.D)).w_ds (msk s.ds (fun i => nI (en d Y i)) (rkP d s x) d.D)).w_ss (ud s.ss x (if p then 2 else 3))).w_fa (ud s.fa s.vo f)).w_vo (s.vo + 1)
theorem set_e1 (s : SD) (de : Nat → Nat) (ds : Nat → Int32) (ss : Nat → Nat) (fa : Nat → Nat → Int32) (vo : Nat) : ((((s.w_de de).w_ss ss).w_fa fa).w_vo vo).w_ds ds = ((((s.w_de de).w_ds ds).w_ss ss).w_fa fa).w_vo vo := rfl
theorem set_e2 (s : SD) (de : Nat → Nat) (ds : Nat → Int32) (ss : Nat → Nat) (fa : Nat → Nat → Int32) (vo : Nat) : ((((s.w_ss ss).w_fa fa).w_vo vo).w_ds ds).w_de de = ((((s.w_de de).w_ds ds).w_ss ss).w_fa fa).w_vo vo := rfl
theorem vt_mk {d : HD} {s : SD} {de : Nat → Nat} {ds : Nat → Int32} {ss : Nat → Nat} {fa : Nat → Nat → Int32} {vo : Nat} (v : SDv d s) (h1 : ∀ x, x < 4 → ss x ≤ 3) (h2 : ∀ i, i < 4 → de i ≤ 3 ∧ de i ≠ 1) (h3 : ∀ i, i < d.D → de i ≠ 0 → 2 ≤ ss (d.dx i)) (h4 : vo ≤ ct (fun x => decide (2 ≤ ss x)) d.X) (h5 : ∀ i, i < vo → ∀ m, m < 6 → ¬ (((fa i 2 >>> (nI m &&& 31)) &&& 1) = 1 ∧ ((fa i 3 >>> (nI m &&& 31)) &&& 1) = 1)) (h6 : ∀ i, i < d.D → ds i = if de i = 0 then b01 (dueF d s.sp i) else nI (de i)) : SDv d (((((s.w_de de).w_ds ds).w_ss ss).w_fa fa).w_vo vo) := ⟨v.wh, v.ti, v.sf, h1, h2, h3, h4, h5, h6, v.sr⟩
theorem ct_up {P Q : Nat → Bool} {x : Nat} (hP : P x = false) (hQ : Q x = true) (hn : ∀ i, i ≠ x → P i = true → Q i = true) : ∀ {n : Nat}, x < n → ct P n + 1 ≤ ct Q n
  | 0, h => absurd h (Nat.not_lt_zero x)
  | n + 1, h => by
    rw [ct, ct]
    by_cases e : x = n
    · subst e
      rw [hP, hQ, if_neg (by decide), if_pos rfl]
      have := ct_mono (P := P) (Q := Q) (n := x) (fun i hi => hn i (by omega))
      omega
    · have ih := ct_up hP hQ hn (n := n) (by omega)
      by_cases p : P n = true
      · rw [if_pos p, if_pos (hn n (fun z => e z.symm) p)]; omega
      · rw [if_neg p]; split <;> omega
theorem tst6 (P : Nat → Bool) {n i : Nat} (hi : i < 6) : ((nI (bs P n) >>> (nI i &&& 31)) &&& 1) = b01 (decide (i < n) && P i) := by
  rw [shb _ (by omega), nI_bit _ (by omega), bs_bit]
theorem vtS_v {d : HD} {s : SD} {x : Nat} {Y N : Nat → Bool} {p : Bool} {u q : Int32} {k l : Nat} (w : HDw d) (v : SDv d s) (hx : x < d.X) (h1 : s.ss x = 1) (hd : ∀ m, ¬ (Y m = true ∧ N m = true)) : SDv d (vtS d s x Y (fcs k l (nI (bs Y d.M)) (nI (bs N d.M)) u q) p) := by
  have hD := w.D4
  have hX := w.X4
  unfold vtS
  have he : ∀ i, i < d.D → d.dx i = x → s.de i = 0 := fun i hi e => by
    rcases Nat.eq_zero_or_pos (s.de i) with z | z
    · exact z
    · have := v.dd i hi (by omega)
      rw [e, h1] at this; omega
  have hen : ∀ i, en d Y i = 2 ∨ en d Y i = 3 := fun i => by unfold en; split <;> omega
  refine vt_mk v (fun y hy => ?_) (fun i hi => ?_) (fun i hi hne => ?_) ?_ (fun i hi m hm => ?_) fun i hi => ?_
  · unfold ud
    split
    · split <;> omega
    · exact v.ss y hy
  · unfold msk
    split
    · have := hen i; omega
    · exact v.de i hi
  · rw [msk_on hi] at hne
    unfold ud
    by_cases e : d.dx i = x
    · rw [if_pos e]; split <;> omega
    · rw [if_neg e]
      rw [if_neg (by unfold dkP; rw [decide_eq_false e]; simp)] at hne
      exact v.dd i hi hne
  · refine Nat.le_trans (Nat.succ_le_succ v.vo) (ct_up (x := x) (P := fun x => decide (2 ≤ s.ss x)) ?_ ?_ ?_ hx)
    · rw [h1]; rfl
    · refine decide_eq_true ?_
      rw [ud_s]; split <;> omega
    · intro i hi h
      rw [ud_n hi]; exact h
  · unfold ud
    by_cases e : i = s.vo
    · rw [if_pos e]
      show ¬ (((nI (bs Y d.M) >>> (nI m &&& 31)) &&& 1) = 1 ∧ ((nI (bs N d.M) >>> (nI m &&& 31)) &&& 1) = 1)
      rw [tst6 Y hm, tst6 N hm, b01_eq1, b01_eq1]
      intro z
      have z1 := z.1
      have z2 := z.2
      rw [Bool.and_eq_true] at z1 z2
      exact hd m ⟨z1.2, z2.2⟩
    · rw [if_neg e]
      exact v.fa i (by omega) m hm
  · rw [msk_on hi, msk_on hi]
    have e := v.ds i hi
    rw [due_F] at e
    unfold rkP dkP
    rw [due_F]
    by_cases c : d.dx i = x
    · rw [he i hi c, if_pos rfl] at e
      rw [e, decide_eq_true c]
      have h2 := hen i
      cases dueF d s.sp i with
      | true => rw [if_pos (by decide), if_pos (show (true && true) = true from rfl), if_neg (show ¬ en d Y i = 0 by omega)]
      | false => rw [if_neg (show ¬ (decide (b01 false = 1) && true) = true by decide), if_neg (show ¬ (true && false) = true by decide), he i hi c, if_pos rfl]
    · rw [decide_eq_false c, Bool.and_false, Bool.false_and, if_neg (show ¬ (false = true) by decide), if_neg (show ¬ (false = true) by decide)]
      exact e
theorem vt_w {d : HD} {s : SD} {de : Nat → Nat} {ds : Nat → Int32} {ss : Nat → Nat} {fa : Nat → Nat → Int32} {vo : Nat} (v : SDw d s) (h : SDv d (((((s.w_de de).w_ds ds).w_ss ss).w_fa fa).w_vo vo)) : SDw d (((((s.w_de de).w_ds ds).w_ss ss).w_fa fa).w_vo vo) := ⟨h, v.mi, v.kn, oc_of v.oc rfl rfl⟩
theorem vtS_w {d : HD} {s : SD} {x : Nat} {Y N : Nat → Bool} {p : Bool} {u q : Int32} {k l : Nat} (w : HDw d) (v : SDw d s) (hx : x < d.X) (h1 : s.ss x = 1) (hd : ∀ m, ¬ (Y m = true ∧ N m = true)) : SDw d (vtS d s x Y (fcs k l (nI (bs Y d.M)) (nI (bs N d.M)) u q) p) := by
  have h := vtS_v (p := p) (u := u) (q := q) (k := k) (l := l) w v.v hx h1 hd
  unfold vtS at h ⊢
  exact vt_w v h
theorem yn_dis (d : HD) (V du : Nat → Bool) (x m : Nat) : ¬ (yesP d V du x m = true ∧ noP d V du x m = true) := by
  unfold yesP noP
  rintro ⟨a, b⟩
  simp only [Bool.and_eq_true, Bool.or_eq_true, Bool.not_eq_true', decide_eq_true_eq] at a b
  rcases a.2 with z | z
  · rw [z] at b; exact absurd b.2.1 (by decide)
  · omega
theorem siN_lt {d : HD} (w : HDw d) (s : SD) : siN d s < 64 := bs_lt6 _ w.M6
theorem heN_lt {d : HD} (w : HDw d) (s : SD) : heN d s < 64 := bs_lt6 _ w.M6
def ypc (d : HD) (s : SD) (x : Nat) : Int32 := nI (pc6 (bs (yesP d (voP d s) (due d s) x) d.M))
def npc (d : HD) (s : SD) (x : Nat) : Int32 := nI (pc6 (bs (noP d (voP d s) (due d s) x) d.M))
theorem op_vote {hh : Nat} {d : HD} {h : HI} {s : SD} (w : HDw d) (v : SDw d s) (U : RU hh d h) (T : St hh d h s) (a : Int32) : Act hh d h (fX8_vote 0 hh h a) (fun h1 => fX9_vote 101 h1 a) := by
  have hM := w.M6
  have hX := w.X4
  have hD := w.D4
  unfold fX8_vote fX6_voteOn fX9_vote
  rw [Nat.zero_add]
  rcases rng a d.X (by omega) with ⟨x, hx, rfl⟩ | c
  · have hss := v.v.ss x (by omega)
    rw [has1 T.1.H.X hx (by omega), Option.bind_some, if_neg ne10]
    simp (disch := omega) only [gB, nI_clamp, Nat.reduceAdd]
    rw [show h.1 61 x = nI (s.ss x) from T.1.S.ss x (by omega)]
    by_cases c1 : s.ss x = 1
    · rw [if_pos (show nI (s.ss x) = (1 : Int32) by rw [c1]; rfl), c_time1 v T.1, Option.bind_some]
      by_cases c2 : s.mi + 1 ≤ 10000
      · have hvo : s.vo < 4 := by
          have h1 := v.v.vo
          have h2 := ct_up (x := x) (P := fun x => decide (2 ≤ s.ss x)) (Q := fun _ => true) (by rw [c1]; rfl) rfl (fun _ _ _ => rfl) hx
          have h3 := ct_le (fun _ => true) d.X
          omega
        rw [if_neg (b01_1 (decide_eq_true c2))]
        generalize hY : yesP d (voP d s) (due d s) x = Y
        generalize hN : noP d (voP d s) (due d s) x = N
        have hd : ∀ m, ¬ (Y m = true ∧ N m = true) := fun m => by rw [← hY, ← hN]; exact yn_dis _ _ _ _ _
        generalize hp : psP d.ru (nI (pc6 (bs Y d.M))) (nI (pc6 (bs N d.M))) (nI (pc6 (siN d s))) (nI (pc6 (heN d s)) - nI (pc6 (siN d s))) = p
        have sv : SDw d (vtS d s x Y (fcs s.mi x (nI (bs Y d.M)) (nI (bs N d.M)) (nI (bs (fun m => decide (s.wh m < 0)) d.M)) (b01 p)) p) := vtS_w w v hx c1 hd
        refine Act.yes2 T U (overP_w w sv c2) (b01 p) ?_ fun h1 R U1 => ?_
        · obtain ⟨hA, eA, FA⟩ := c_pass U (nI (pc6 (bs Y d.M))) (nI (pc6 (bs N d.M))) (nI (pc6 (siN d s))) (nI (pc6 (heN d s)) - nI (pc6 (siN d s)))
          rw [hp] at eA
          have hh36 := T.1.1
          have CA : CO 56 hh d hA hA s := ⟨hh36, T.1.S.keep FA (fun a b p q w => by omega), T.1.H.keep FA (fun a b p q w => by omega), Fr.rf⟩
          obtain ⟨hB, eB, CB⟩ := c_end w CA hx Y
          have CC := CB.s_ss (m := x) (v := if p then 2 else 3)
          obtain ⟨hE, eE, CE⟩ := c_keepV w CC v.v.wh hx (p := p) (ud_s _ _ _) hvo (nI (bs Y d.M)) (nI (bs N d.M))
          have CF : CO 56 hh d hA hE (vtS d s x Y (fcs s.mi x (nI (bs Y d.M)) (nI (bs N d.M)) (nI (bs (fun m => decide (s.wh m < 0)) d.M)) (b01 p)) p) := by
            unfold vtS
            rw [← set_e1]
            exact CE.i_ds
          obtain ⟨hG, eG, CG⟩ := c_over w sv CF
          refine ⟨hA, hG, ?_, FA, CG⟩
          rw [c_yes w v.v T.1 hx, Option.bind_some, c_no w v.v T.1 hx, Option.bind_some, c_sit w v.v.wh T.1, Option.bind_some, f_bit6 _ (siN_lt w s), Option.bind_some, c_here w T.1, Option.bind_some, f_bit6 _ (heN_lt w s), Option.bind_some, f_bit6 _ (bs_lt6 _ hM), Option.bind_some, f_bit6 _ (bs_lt6 _ hM), Option.bind_some, hY, hN]
          show ((Option.bind (fX5_passes (hh + 18) h (nI (pc6 (bs Y d.M))) (nI (pc6 (bs N d.M))) (nI (pc6 (siN d s))) (nI (pc6 (heN d s)) - nI (pc6 (siN d s)))) _).bind _) = _
          rw [eA, Option.bind_some, eB, Option.bind_some]
          unfold fX6_voteOn_112
          simp (disch := omega) only [gB, nI_clamp, Nat.reduceAdd]
          cases p with
          | true =>
            rw [if_neg b01t]
            show ((Option.bind (fX6_keepVote 56 hh (uI hB (56 + 5) x (nI (if true = true then 2 else 3))) (nI x) (nI (bs Y d.M)) (nI (bs N d.M))) _).bind _) = _
            rw [eE, Option.bind_some, eG, Option.bind_some, if_neg b01t, Option.bind_some]; rfl
          | false =>
            rw [if_pos b01f]
            show ((Option.bind (fX6_keepVote 56 hh (uI hB (56 + 5) x (nI (if false = true then 2 else 3))) (nI x) (nI (bs Y d.M)) (nI (bs N d.M))) _).bind _) = _
            rw [eE, Option.bind_some, eG, Option.bind_some, if_pos b01f, Option.bind_some]; rfl
        · have es : nI (pc6 (siN d s)) + (nI (pc6 (heN d s)) - nI (pc6 (siN d s))) = nI (pc6 (heN d s)) := by rw [Int32.add_comm, Int32.sub_add_cancel]
          obtain ⟨hA, eA, FA⟩ := r_pass U1 (nI (pc6 (bs Y d.M))) (nI (pc6 (bs N d.M))) (nI (pc6 (siN d s))) (nI (pc6 (heN d s)) - nI (pc6 (siN d s)))
          rw [hp, es] at eA
          have RA : RO d hA hA s := ⟨R.S.keep FA (fun a b p q => by unfold Wr at p; unfold Wp at q; omega), R.H.keep FA (fun a b p q => by unfold RHW at p; unfold Wp at q; omega), Fr.rf⟩
          have RC := RA.s_ss (m := x) (v := if p then 2 else 3)
          obtain ⟨hE, eE, RE⟩ := r_keepV w RC hx p hvo Y (nI (bs N d.M))
          have RF : RO d hA hE (vtS d s x Y (fcs s.mi x (nI (bs Y d.M)) (nI (bs N d.M)) (nI (bs (fun m => decide (s.wh m < 0)) d.M)) (b01 p)) p) := by
            unfold vtS
            rw [← set_e2]
            exact RE.i_de
          obtain ⟨hG, eG, RG⟩ := r_over w sv RF
          refine ⟨hA, hG, ?_, FA, RG⟩
          have eu : nI (heN d s) &&& (nI (bs (fun m => decide (s.wh m < 0)) d.M) ^^^ (-1 : Int32)) = nI (siN d s) := by
            unfold heN siN
            rw [bs_andn]
            congr 1
            refine bs_cong fun i hi => ?_
            by_cases q : s.wh i < 0
            · rw [decide_eq_true q, Bool.not_true, Bool.and_false]
            · rw [decide_eq_false q, decide_eq_false (fun e => q (by rw [e]; exact m2lt))]; rfl
          rw [r_isMatter1 w R.H hx, Option.bind_some, if_neg ne10, R.S.ss x (by omega), if_pos (show nI (s.ss x) = (1 : Int32) by rw [c1]; rfl), r_long1 v R, Option.bind_some, if_pos (b01_0 (by rw [decide_eq_true c2]; rfl)), r_voters w v.v R, Option.bind_some, r_due w R, Option.bind_some, r_yes w R.H hx _ _ (voP d s) (due d s) (fun i hi => tst _ (by omega) hi) (fun i hi => tst _ (by omega) hi), Option.bind_some, r_voters w v.v R, Option.bind_some, r_due w R, Option.bind_some, r_no w R.H hx _ _ (voP d s) (due d s) (fun i hi => tst _ (by omega) hi) (fun i hi => tst _ (by omega) hi), Option.bind_some, r_here w R, Option.bind_some, f_ones6 _ (heN_lt w s), Option.bind_some, f_ones6 _ (bs_lt6 _ hM), Option.bind_some, f_ones6 _ (bs_lt6 _ hM), Option.bind_some, r_here w R, Option.bind_some, r_up w R, Option.bind_some, eu, f_ones6 _ (siN_lt w s), Option.bind_some, hY, hN]
          show (Option.bind (fX9_isPassed 101 h1 (nI (pc6 (bs Y d.M))) (nI (pc6 (bs N d.M))) (nI (pc6 (siN d s))) (nI (pc6 (heN d s)))) _) = _
          rw [eA, Option.bind_some]
          unfold fX9_vote_110
          simp (disch := omega) only [gB, nI_clamp, Nat.reduceAdd]
          cases p with
          | true =>
            rw [if_neg b01t]
            show (Option.bind (fX9_keep 101 (uI hA 132 x (nI (if true = true then 2 else 3))) (nI x) (nI (bs Y d.M)) (nI (bs N d.M)) (b01 true)) _) = _
            rw [eE, Option.bind_some, eG, Option.bind_some, if_neg b01t]; rfl
          | false =>
            rw [if_pos b01f]
            show (Option.bind (fX9_keep 101 (uI hA 132 x (nI (if false = true then 2 else 3))) (nI x) (nI (bs Y d.M)) (nI (bs N d.M)) (b01 false)) _) = _
            rw [eE, Option.bind_some, eG, Option.bind_some, if_pos b01f, if_pos (nI_pos' (by have := sv.mi; omega))]; rfl
      · refine Act.no T v (-1) ?_ ?_
        · rw [if_pos (b01_0 (decide_eq_false c2)), Option.bind_some]
        · rw [r_isMatter1 w T.2.H hx, Option.bind_some, if_neg ne10, T.2.S.ss x (by omega), if_pos (show nI (s.ss x) = (1 : Int32) by rw [c1]; rfl), r_long1 v T.2, Option.bind_some, if_neg (b01_1 (by rw [decide_eq_false c2]; rfl))]
    · have c1' : ¬ nI (s.ss x) = (1 : Int32) := fun e => c1 ((nI_eq (b := 1) (by omega) (by decide)).mp e)
      refine Act.no T v (-1) ?_ ?_
      · rw [if_neg c1', Option.bind_some]
      · rw [r_isMatter1 w T.2.H hx, Option.bind_some, if_neg ne10, T.2.S.ss x (by omega), if_neg c1']
  · refine Act.no T v (-1) ?_ ?_
    · rw [has0 T.1.H.X c, Option.bind_some, if_pos rfl, Option.bind_some]
    · rw [r_isMatter0 T.2.H c, Option.bind_some, if_pos rfl]
