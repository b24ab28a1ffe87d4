def Wc (o a b : Nat) : Prop := o ≤ a ∧ a ≤ o + 8
def Wr (a b : Nat) : Prop := a = 101 ∧ 57 ≤ b ∧ b ≤ 59 ∨ 128 ≤ a ∧ a ≤ 137
theorem CH.keep {hh : Nat} {d : HD} {h h2 : HI} {W : Nat → Nat → Prop} (R : CH hh d h) (F : Fr W h h2) (hd : ∀ a b, hh ≤ a → a ≤ hh + 19 → ¬ W a b) : CH hh d h2 := by
  have e : ∀ a b, hh ≤ a → a ≤ hh + 19 → h2.1 a b = h.1 a b := fun a b p q => F.1 a b (hd a b p q)
  have g : ∀ j b, j ≤ 19 → h2.1 (hh + j) b = h.1 (hh + j) b := fun j b p => e _ b (by omega) (by omega)
  have g0 : ∀ b, h2.1 hh b = h.1 hh b := fun b => e _ b (by omega) (by omega)
  exact ⟨(g 1 _ (by omega)).trans R.C, (g 3 _ (by omega)).trans R.M, (g 5 _ (by omega)).trans R.X, fun i hi => (g 7 _ (by omega)).trans (R.ho i hi), fun i hi => (g 8 _ (by omega)).trans (R.st i hi), fun i hi => (g 9 _ (by omega)).trans (R.di i hi), fun i hi => (g 10 _ (by omega)).trans (R.wo i hi), fun i hi => (g 11 _ (by omega)).trans (R.li i hi), fun i hi => (g 12 _ (by omega)).trans (R.dl i hi), fun i hi => (g 14 _ (by omega)).trans (R.dm i hi), fun i hi => (g 15 _ (by omega)).trans (R.dx i hi), fun i hi => (g 16 _ (by omega)).trans (R.om i hi), fun i hi => (g 17 _ (by omega)).trans (R.ox i hi), (g0 _).trans R.sl, (g0 _).trans R.dr, (g0 _).trans R.W, (g0 _).trans R.D, (g0 _).trans R.np, (g 18 _ (by omega)).trans R.un⟩
def RHW (a b : Nat) : Prop := a = 112 ∨ 118 ≤ a ∧ a ≤ 122 ∨ a = 126 ∨ a = 127 ∨ a = 101 ∧ (b = 44 ∨ b = 45 ∨ b = 46 ∨ b = 20)
theorem RH.keep {d : HD} {h h2 : HI} {W : Nat → Nat → Prop} (R : RH d h) (F : Fr W h h2) (hd : ∀ a b, RHW a b → ¬ W a b) : RH d h2 := by
  have e : ∀ a b, RHW a b → h2.1 a b = h.1 a b := fun a b p => F.1 a b (hd a b p)
  have g : ∀ a b, a = 112 ∨ 118 ≤ a ∧ a ≤ 122 ∨ a = 126 ∨ a = 127 → h2.1 a b = h.1 a b := fun a b p => e a b (by unfold RHW; omega)
  exact ⟨(g _ _ (by omega)).trans R.C, (g _ _ (by omega)).trans R.M, (g _ _ (by omega)).trans R.X, fun i hi => (g _ _ (by omega)).trans (R.ho i hi), fun i hi => (g _ _ (by omega)).trans (R.st i hi), fun i hi => (g _ _ (by omega)).trans (R.di i hi), fun i x hi hx => (g _ _ (by omega)).trans (R.wi i x hi hx), fun i hi => (g _ _ (by omega)).trans (R.dm i hi), fun i hi => (g _ _ (by omega)).trans (R.dx i hi), fun i hi => (g _ _ (by omega)).trans (R.om i hi), fun i hi => (g _ _ (by omega)).trans (R.ox i hi), fun i hi => (g _ _ (by omega)).trans (R.sl i hi), fun i hi => (g _ _ (by omega)).trans (R.dr i hi), (e _ _ (by unfold RHW; omega)).trans R.W, (e _ _ (by unfold RHW; omega)).trans R.D, (e _ _ (by unfold RHW; omega)).trans R.np, (e _ _ (by unfold RHW; omega)).trans R.un⟩
def CO (o hh : Nat) (d : HD) (h0 h : HI) (s : SD) : Prop := (hh + 20 < o) ∧ CS o d h s ∧ CH hh d h ∧ Fr (Wc o) h0 h
def RO (d : HD) (h0 h : HI) (s : SD) : Prop := RS d h s ∧ RH d h ∧ Fr Wr h0 h
theorem CO.put {o hh : Nat} {d : HD} {h0 h h2 : HI} {s s2 : SD} (R : CO o hh d h0 h s) (F : Fr (Wc o) h h2) (S : CS o d h2 s2) : CO o hh d h0 h2 s2 := ⟨R.1, S, R.2.2.1.keep F (fun a b p q w => by have := R.1; unfold Wc at w; omega), R.2.2.2.tr F⟩
theorem RO.put {d : HD} {h0 h h2 : HI} {s s2 : SD} (R : RO d h0 h s) (F : Fr Wr h h2) (S : RS d h2 s2) : RO d h0 h2 s2 := ⟨S, R.2.1.keep F (fun a b p w => by unfold Wr at w; unfold RHW at p; omega), R.2.2.tr F⟩
theorem CO.S {o hh : Nat} {d : HD} {h0 h : HI} {s : SD} (R : CO o hh d h0 h s) : CS o d h s := R.2.1
theorem CO.H {o hh : Nat} {d : HD} {h0 h : HI} {s : SD} (R : CO o hh d h0 h s) : CH hh d h := R.2.2.1
theorem CO.F {o hh : Nat} {d : HD} {h0 h : HI} {s : SD} (R : CO o hh d h0 h s) : Fr (Wc o) h0 h := R.2.2.2
theorem RO.S {d : HD} {h0 h : HI} {s : SD} (R : RO d h0 h s) : RS d h s := R.1
theorem RO.H {d : HD} {h0 h : HI} {s : SD} (R : RO d h0 h s) : RH d h := R.2.1
theorem RO.F {d : HD} {h0 h : HI} {s : SD} (R : RO d h0 h s) : Fr Wr h0 h := R.2.2
theorem CO.s_wh {o hh : Nat} {d : HD} {h0 h : HI} {s : SD} {m : Nat} {v : Int32} (R : CO o hh d h0 h s) : CO o hh d h0 (uI h (o + 1) m v) (s.w_wh (ud s.wh m v)) := R.put (Fr.uI (by unfold Wc; omega)) ⟨fun i hi => by
    by_cases e : i = m
    · rw [e, uI_s]; exact (ud_s _ _ _).symm
    · rw [uI_n (by omega)]; exact (R.S.wh i hi).trans (ud_n e).symm,
  fun i hi => (uI_n (by omega)).trans (R.S.ti i hi),
  fun i hi => (uI_n (by omega)).trans (R.S.sf i hi),
  fun i hi => (uI_n (by omega)).trans (R.S.sp i hi),
  fun i hi => (uI_n (by omega)).trans (R.S.ss i hi),
  fun i hi => (uI_n (by omega)).trans (R.S.de i hi),
  (uI_n (by omega)).trans R.S.br,
  (uI_n (by omega)).trans R.S.fo,
  (uI_n (by omega)).trans R.S.mi,
  (uI_n (by omega)).trans R.S.vo,
  (uI_n (by omega)).trans R.S.sk,
  fun i w hi h4 hw => (uI_n (by omega)).trans (R.S.fa i w hi h4 hw),
  fun k hk h2 => R.S.sr k hk h2⟩
theorem CO.s_ti {o hh : Nat} {d : HD} {h0 h : HI} {s : SD} {m : Nat} {v : Nat} (R : CO o hh d h0 h s) : CO o hh d h0 (uI h (o + 2) m (nI v)) (s.w_ti (ud s.ti m v)) := R.put (Fr.uI (by unfold Wc; omega)) ⟨fun i hi => (uI_n (by omega)).trans (R.S.wh i hi),
  fun i hi => by
    by_cases e : i = m
    · rw [e, uI_s]; exact congrArg nI (ud_s _ _ _).symm
    · rw [uI_n (by omega)]; exact (R.S.ti i hi).trans (congrArg nI (ud_n e).symm),
  fun i hi => (uI_n (by omega)).trans (R.S.sf i hi),
  fun i hi => (uI_n (by omega)).trans (R.S.sp i hi),
  fun i hi => (uI_n (by omega)).trans (R.S.ss i hi),
  fun i hi => (uI_n (by omega)).trans (R.S.de i hi),
  (uI_n (by omega)).trans R.S.br,
  (uI_n (by omega)).trans R.S.fo,
  (uI_n (by omega)).trans R.S.mi,
  (uI_n (by omega)).trans R.S.vo,
  (uI_n (by omega)).trans R.S.sk,
  fun i w hi h4 hw => (uI_n (by omega)).trans (R.S.fa i w hi h4 hw),
  fun k hk h2 => R.S.sr k hk h2⟩
theorem CO.s_sf {o hh : Nat} {d : HD} {h0 h : HI} {s : SD} {m : Nat} {v : Int32} (R : CO o hh d h0 h s) : CO o hh d h0 (uI h (o + 3) m v) (s.w_sf (ud s.sf m v)) := R.put (Fr.uI (by unfold Wc; omega)) ⟨fun i hi => (uI_n (by omega)).trans (R.S.wh i hi),
  fun i hi => (uI_n (by omega)).trans (R.S.ti i hi),
  fun i hi => by
    by_cases e : i = m
    · rw [e, uI_s]; exact (ud_s _ _ _).symm
    · rw [uI_n (by omega)]; exact (R.S.sf i hi).trans (ud_n e).symm,
  fun i hi => (uI_n (by omega)).trans (R.S.sp i hi),
  fun i hi => (uI_n (by omega)).trans (R.S.ss i hi),
  fun i hi => (uI_n (by omega)).trans (R.S.de i hi),
  (uI_n (by omega)).trans R.S.br,
  (uI_n (by omega)).trans R.S.fo,
  (uI_n (by omega)).trans R.S.mi,
  (uI_n (by omega)).trans R.S.vo,
  (uI_n (by omega)).trans R.S.sk,
  fun i w hi h4 hw => (uI_n (by omega)).trans (R.S.fa i w hi h4 hw),
  fun k hk h2 => R.S.sr k hk h2⟩
theorem CO.s_sp {o hh : Nat} {d : HD} {h0 h : HI} {s : SD} {m : Nat} {v : Int32} (R : CO o hh d h0 h s) : CO o hh d h0 (uI h (o + 4) m v) (s.w_sp (ud s.sp m v)) := R.put (Fr.uI (by unfold Wc; omega)) ⟨fun i hi => (uI_n (by omega)).trans (R.S.wh i hi),
  fun i hi => (uI_n (by omega)).trans (R.S.ti i hi),
  fun i hi => (uI_n (by omega)).trans (R.S.sf i hi),
  fun i hi => by
    by_cases e : i = m
    · rw [e, uI_s]; exact (ud_s _ _ _).symm
    · rw [uI_n (by omega)]; exact (R.S.sp i hi).trans (ud_n e).symm,
  fun i hi => (uI_n (by omega)).trans (R.S.ss i hi),
  fun i hi => (uI_n (by omega)).trans (R.S.de i hi),
  (uI_n (by omega)).trans R.S.br,
  (uI_n (by omega)).trans R.S.fo,
  (uI_n (by omega)).trans R.S.mi,
  (uI_n (by omega)).trans R.S.vo,
  (uI_n (by omega)).trans R.S.sk,
  fun i w hi h4 hw => (uI_n (by omega)).trans (R.S.fa i w hi h4 hw),
  fun k hk h2 => R.S.sr k hk h2⟩
theorem CO.s_ss {o hh : Nat} {d : HD} {h0 h : HI} {s : SD} {m : Nat} {v : Nat} (R : CO o hh d h0 h s) : CO o hh d h0 (uI h (o + 5) m (nI v)) (s.w_ss (ud s.ss m v)) := R.put (Fr.uI (by unfold Wc; omega)) ⟨fun i hi => (uI_n (by omega)).trans (R.S.wh i hi),
  fun i hi => (uI_n (by omega)).trans (R.S.ti i hi),
  fun i hi => (uI_n (by omega)).trans (R.S.sf i hi),
  fun i hi => (uI_n (by omega)).trans (R.S.sp i hi),
  fun i hi => by
    by_cases e : i = m
    · rw [e, uI_s]; exact congrArg nI (ud_s _ _ _).symm
    · rw [uI_n (by omega)]; exact (R.S.ss i hi).trans (congrArg nI (ud_n e).symm),
  fun i hi => (uI_n (by omega)).trans (R.S.de i hi),
  (uI_n (by omega)).trans R.S.br,
  (uI_n (by omega)).trans R.S.fo,
  (uI_n (by omega)).trans R.S.mi,
  (uI_n (by omega)).trans R.S.vo,
  (uI_n (by omega)).trans R.S.sk,
  fun i w hi h4 hw => (uI_n (by omega)).trans (R.S.fa i w hi h4 hw),
  fun k hk h2 => R.S.sr k hk h2⟩
theorem CO.s_de {o hh : Nat} {d : HD} {h0 h : HI} {s : SD} {m : Nat} {v : Nat} (R : CO o hh d h0 h s) : CO o hh d h0 (uI h (o + 6) m (nI v)) (s.w_de (ud s.de m v)) := R.put (Fr.uI (by unfold Wc; omega)) ⟨fun i hi => (uI_n (by omega)).trans (R.S.wh i hi),
  fun i hi => (uI_n (by omega)).trans (R.S.ti i hi),
  fun i hi => (uI_n (by omega)).trans (R.S.sf i hi),
  fun i hi => (uI_n (by omega)).trans (R.S.sp i hi),
  fun i hi => (uI_n (by omega)).trans (R.S.ss i hi),
  fun i hi => by
    by_cases e : i = m
    · rw [e, uI_s]; exact congrArg nI (ud_s _ _ _).symm
    · rw [uI_n (by omega)]; exact (R.S.de i hi).trans (congrArg nI (ud_n e).symm),
  (uI_n (by omega)).trans R.S.br,
  (uI_n (by omega)).trans R.S.fo,
  (uI_n (by omega)).trans R.S.mi,
  (uI_n (by omega)).trans R.S.vo,
  (uI_n (by omega)).trans R.S.sk,
  fun i w hi h4 hw => (uI_n (by omega)).trans (R.S.fa i w hi h4 hw),
  fun k hk h2 => R.S.sr k hk h2⟩
theorem CO.s_br {o hh : Nat} {d : HD} {h0 h : HI} {s : SD} {v : Nat → Bool} (R : CO o hh d h0 h s) : CO o hh d h0 (uI h o 4 (nI (bs v 6))) (s.w_br v) := R.put (Fr.uI (by unfold Wc; omega)) ⟨fun i hi => (uI_n (by omega)).trans (R.S.wh i hi),
  fun i hi => (uI_n (by omega)).trans (R.S.ti i hi),
  fun i hi => (uI_n (by omega)).trans (R.S.sf i hi),
  fun i hi => (uI_n (by omega)).trans (R.S.sp i hi),
  fun i hi => (uI_n (by omega)).trans (R.S.ss i hi),
  fun i hi => (uI_n (by omega)).trans (R.S.de i hi),
  uI_s _ _ _ _,
  (uI_n (by omega)).trans R.S.fo,
  (uI_n (by omega)).trans R.S.mi,
  (uI_n (by omega)).trans R.S.vo,
  (uI_n (by omega)).trans R.S.sk,
  fun i w hi h4 hw => (uI_n (by omega)).trans (R.S.fa i w hi h4 hw),
  fun k hk h2 => R.S.sr k hk h2⟩
theorem CO.s_fo {o hh : Nat} {d : HD} {h0 h : HI} {s : SD} {v : Nat → Bool} (R : CO o hh d h0 h s) : CO o hh d h0 (uI h o 5 (nI (bs v 6))) (s.w_fo v) := R.put (Fr.uI (by unfold Wc; omega)) ⟨fun i hi => (uI_n (by omega)).trans (R.S.wh i hi),
  fun i hi => (uI_n (by omega)).trans (R.S.ti i hi),
  fun i hi => (uI_n (by omega)).trans (R.S.sf i hi),
  fun i hi => (uI_n (by omega)).trans (R.S.sp i hi),
  fun i hi => (uI_n (by omega)).trans (R.S.ss i hi),
  fun i hi => (uI_n (by omega)).trans (R.S.de i hi),
  (uI_n (by omega)).trans R.S.br,
  uI_s _ _ _ _,
  (uI_n (by omega)).trans R.S.mi,
  (uI_n (by omega)).trans R.S.vo,
  (uI_n (by omega)).trans R.S.sk,
  fun i w hi h4 hw => (uI_n (by omega)).trans (R.S.fa i w hi h4 hw),
  fun k hk h2 => R.S.sr k hk h2⟩
theorem CO.s_mi {o hh : Nat} {d : HD} {h0 h : HI} {s : SD} {v : Nat} (R : CO o hh d h0 h s) : CO o hh d h0 (uI h o 1 (nI v)) (s.w_mi v) := R.put (Fr.uI (by unfold Wc; omega)) ⟨fun i hi => (uI_n (by omega)).trans (R.S.wh i hi),
  fun i hi => (uI_n (by omega)).trans (R.S.ti i hi),
  fun i hi => (uI_n (by omega)).trans (R.S.sf i hi),
  fun i hi => (uI_n (by omega)).trans (R.S.sp i hi),
  fun i hi => (uI_n (by omega)).trans (R.S.ss i hi),
  fun i hi => (uI_n (by omega)).trans (R.S.de i hi),
  (uI_n (by omega)).trans R.S.br,
  (uI_n (by omega)).trans R.S.fo,
  uI_s _ _ _ _,
  (uI_n (by omega)).trans R.S.vo,
  (uI_n (by omega)).trans R.S.sk,
  fun i w hi h4 hw => (uI_n (by omega)).trans (R.S.fa i w hi h4 hw),
  fun k hk h2 => R.S.sr k hk h2⟩
theorem CO.s_sk {o hh : Nat} {d : HD} {h0 h : HI} {s : SD} {v : Int32} (R : CO o hh d h0 h s) : CO o hh d h0 (uI h o 3 v) (s.w_sk v) := R.put (Fr.uI (by unfold Wc; omega)) ⟨fun i hi => (uI_n (by omega)).trans (R.S.wh i hi),
  fun i hi => (uI_n (by omega)).trans (R.S.ti i hi),
  fun i hi => (uI_n (by omega)).trans (R.S.sf i hi),
  fun i hi => (uI_n (by omega)).trans (R.S.sp i hi),
  fun i hi => (uI_n (by omega)).trans (R.S.ss i hi),
  fun i hi => (uI_n (by omega)).trans (R.S.de i hi),
  (uI_n (by omega)).trans R.S.br,
  (uI_n (by omega)).trans R.S.fo,
  (uI_n (by omega)).trans R.S.mi,
  (uI_n (by omega)).trans R.S.vo,
  uI_s _ _ _ _,
  fun i w hi h4 hw => (uI_n (by omega)).trans (R.S.fa i w hi h4 hw),
  fun k hk h2 => R.S.sr k hk h2⟩
theorem RO.s_wh {d : HD} {h0 h : HI} {s : SD} {m : Nat} {v : Int32} (R : RO d h0 h s) : RO d h0 (uI h 128 m v) (s.w_wh (ud s.wh m v)) := R.put (Fr.uI (by unfold Wr; omega)) ⟨fun i hi => by
    by_cases e : i = m
    · rw [e, uI_s]; exact (ud_s _ _ _).symm
    · rw [uI_n (by omega)]; exact (R.S.wh i hi).trans (ud_n e).symm,
  fun i hi => (uI_n (by omega)).trans (R.S.ti i hi),
  fun i hi => (uI_n (by omega)).trans (R.S.sf i hi),
  fun i hi => (uI_n (by omega)).trans (R.S.sp i hi),
  fun i hi => (uI_n (by omega)).trans (R.S.ss i hi),
  fun i hi => (uI_n (by omega)).trans (R.S.ds i hi),
  fun i hi => (uI_n (by omega)).trans (R.S.br i hi),
  fun i hi => (uI_n (by omega)).trans (R.S.fo i hi),
  (uI_n (by omega)).trans R.S.mi,
  (uI_n (by omega)).trans R.S.vo,
  (uI_n (by omega)).trans R.S.sk,
  fun i w hi h4 hw => (uI_n (by omega)).trans (R.S.fa i w hi h4 hw),
  fun k c hk h2 hc => (uI_n (by omega)).trans (R.S.sr k c hk h2 hc)⟩
theorem RO.s_ti {d : HD} {h0 h : HI} {s : SD} {m : Nat} {v : Nat} (R : RO d h0 h s) : RO d h0 (uI h 129 m (nI v)) (s.w_ti (ud s.ti m v)) := R.put (Fr.uI (by unfold Wr; omega)) ⟨fun i hi => (uI_n (by omega)).trans (R.S.wh i hi),
  fun i hi => by
    by_cases e : i = m
    · rw [e, uI_s]; exact congrArg nI (ud_s _ _ _).symm
    · rw [uI_n (by omega)]; exact (R.S.ti i hi).trans (congrArg nI (ud_n e).symm),
  fun i hi => (uI_n (by omega)).trans (R.S.sf i hi),
  fun i hi => (uI_n (by omega)).trans (R.S.sp i hi),
  fun i hi => (uI_n (by omega)).trans (R.S.ss i hi),
  fun i hi => (uI_n (by omega)).trans (R.S.ds i hi),
  fun i hi => (uI_n (by omega)).trans (R.S.br i hi),
  fun i hi => (uI_n (by omega)).trans (R.S.fo i hi),
  (uI_n (by omega)).trans R.S.mi,
  (uI_n (by omega)).trans R.S.vo,
  (uI_n (by omega)).trans R.S.sk,
  fun i w hi h4 hw => (uI_n (by omega)).trans (R.S.fa i w hi h4 hw),
  fun k c hk h2 hc => (uI_n (by omega)).trans (R.S.sr k c hk h2 hc)⟩
theorem RO.s_sf {d : HD} {h0 h : HI} {s : SD} {m : Nat} {v : Int32} (R : RO d h0 h s) : RO d h0 (uI h 130 m v) (s.w_sf (ud s.sf m v)) := R.put (Fr.uI (by unfold Wr; omega)) ⟨fun i hi => (uI_n (by omega)).trans (R.S.wh i hi),
  fun i hi => (uI_n (by omega)).trans (R.S.ti i hi),
  fun i hi => by
    by_cases e : i = m
    · rw [e, uI_s]; exact (ud_s _ _ _).symm
    · rw [uI_n (by omega)]; exact (R.S.sf i hi).trans (ud_n e).symm,
  fun i hi => (uI_n (by omega)).trans (R.S.sp i hi),
  fun i hi => (uI_n (by omega)).trans (R.S.ss i hi),
  fun i hi => (uI_n (by omega)).trans (R.S.ds i hi),
  fun i hi => (uI_n (by omega)).trans (R.S.br i hi),
  fun i hi => (uI_n (by omega)).trans (R.S.fo i hi),
  (uI_n (by omega)).trans R.S.mi,
  (uI_n (by omega)).trans R.S.vo,
  (uI_n (by omega)).trans R.S.sk,
  fun i w hi h4 hw => (uI_n (by omega)).trans (R.S.fa i w hi h4 hw),
  fun k c hk h2 hc => (uI_n (by omega)).trans (R.S.sr k c hk h2 hc)⟩
theorem RO.s_sp {d : HD} {h0 h : HI} {s : SD} {m : Nat} {v : Int32} (R : RO d h0 h s) : RO d h0 (uI h 131 m v) (s.w_sp (ud s.sp m v)) := R.put (Fr.uI (by unfold Wr; omega)) ⟨fun i hi => (uI_n (by omega)).trans (R.S.wh i hi),
  fun i hi => (uI_n (by omega)).trans (R.S.ti i hi),
  fun i hi => (uI_n (by omega)).trans (R.S.sf i hi),
  fun i hi => by
    by_cases e : i = m
    · rw [e, uI_s]; exact (ud_s _ _ _).symm
    · rw [uI_n (by omega)]; exact (R.S.sp i hi).trans (ud_n e).symm,
  fun i hi => (uI_n (by omega)).trans (R.S.ss i hi),
  fun i hi => (uI_n (by omega)).trans (R.S.ds i hi),
  fun i hi => (uI_n (by omega)).trans (R.S.br i hi),
  fun i hi => (uI_n (by omega)).trans (R.S.fo i hi),
  (uI_n (by omega)).trans R.S.mi,
  (uI_n (by omega)).trans R.S.vo,
  (uI_n (by omega)).trans R.S.sk,
  fun i w hi h4 hw => (uI_n (by omega)).trans (R.S.fa i w hi h4 hw),
  fun k c hk h2 hc => (uI_n (by omega)).trans (R.S.sr k c hk h2 hc)⟩
theorem RO.s_ss {d : HD} {h0 h : HI} {s : SD} {m : Nat} {v : Nat} (R : RO d h0 h s) : RO d h0 (uI h 132 m (nI v)) (s.w_ss (ud s.ss m v)) := R.put (Fr.uI (by unfold Wr; omega)) ⟨fun i hi => (uI_n (by omega)).trans (R.S.wh i hi),
  fun i hi => (uI_n (by omega)).trans (R.S.ti i hi),
  fun i hi => (uI_n (by omega)).trans (R.S.sf i hi),
  fun i hi => (uI_n (by omega)).trans (R.S.sp i hi),
  fun i hi => by
    by_cases e : i = m
    · rw [e, uI_s]; exact congrArg nI (ud_s _ _ _).symm
    · rw [uI_n (by omega)]; exact (R.S.ss i hi).trans (congrArg nI (ud_n e).symm),
  fun i hi => (uI_n (by omega)).trans (R.S.ds i hi),
  fun i hi => (uI_n (by omega)).trans (R.S.br i hi),
  fun i hi => (uI_n (by omega)).trans (R.S.fo i hi),
  (uI_n (by omega)).trans R.S.mi,
  (uI_n (by omega)).trans R.S.vo,
  (uI_n (by omega)).trans R.S.sk,
  fun i w hi h4 hw => (uI_n (by omega)).trans (R.S.fa i w hi h4 hw),
  fun k c hk h2 hc => (uI_n (by omega)).trans (R.S.sr k c hk h2 hc)⟩
theorem RO.s_ds {d : HD} {h0 h : HI} {s : SD} {m : Nat} {v : Int32} (R : RO d h0 h s) : RO d h0 (uI h 133 m v) (s.w_ds (ud s.ds m v)) := R.put (Fr.uI (by unfold Wr; omega)) ⟨fun i hi => (uI_n (by omega)).trans (R.S.wh i hi),
  fun i hi => (uI_n (by omega)).trans (R.S.ti i hi),
  fun i hi => (uI_n (by omega)).trans (R.S.sf i hi),
  fun i hi => (uI_n (by omega)).trans (R.S.sp i hi),
  fun i hi => (uI_n (by omega)).trans (R.S.ss i hi),
  fun i hi => by
    by_cases e : i = m
    · rw [e, uI_s]; exact (ud_s _ _ _).symm
    · rw [uI_n (by omega)]; exact (R.S.ds i hi).trans (ud_n e).symm,
  fun i hi => (uI_n (by omega)).trans (R.S.br i hi),
  fun i hi => (uI_n (by omega)).trans (R.S.fo i hi),
  (uI_n (by omega)).trans R.S.mi,
  (uI_n (by omega)).trans R.S.vo,
  (uI_n (by omega)).trans R.S.sk,
  fun i w hi h4 hw => (uI_n (by omega)).trans (R.S.fa i w hi h4 hw),
  fun k c hk h2 hc => (uI_n (by omega)).trans (R.S.sr k c hk h2 hc)⟩
theorem RO.s_br {d : HD} {h0 h : HI} {s : SD} {m : Nat} {v : Bool} (R : RO d h0 h s) : RO d h0 (uI h 134 m (b01 v)) (s.w_br (ud s.br m v)) := R.put (Fr.uI (by unfold Wr; omega)) ⟨fun i hi => (uI_n (by omega)).trans (R.S.wh i hi),
  fun i hi => (uI_n (by omega)).trans (R.S.ti i hi),
  fun i hi => (uI_n (by omega)).trans (R.S.sf i hi),
  fun i hi => (uI_n (by omega)).trans (R.S.sp i hi),
  fun i hi => (uI_n (by omega)).trans (R.S.ss i hi),
  fun i hi => (uI_n (by omega)).trans (R.S.ds i hi),
  fun i hi => by
    by_cases e : i = m
    · rw [e, uI_s]; exact congrArg b01 (ud_s _ _ _).symm
    · rw [uI_n (by omega)]; exact (R.S.br i hi).trans (congrArg b01 (ud_n e).symm),
  fun i hi => (uI_n (by omega)).trans (R.S.fo i hi),
  (uI_n (by omega)).trans R.S.mi,
  (uI_n (by omega)).trans R.S.vo,
  (uI_n (by omega)).trans R.S.sk,
  fun i w hi h4 hw => (uI_n (by omega)).trans (R.S.fa i w hi h4 hw),
  fun k c hk h2 hc => (uI_n (by omega)).trans (R.S.sr k c hk h2 hc)⟩
theorem RO.s_fo {d : HD} {h0 h : HI} {s : SD} {m : Nat} {v : Bool} (R : RO d h0 h s) : RO d h0 (uI h 135 m (b01 v)) (s.w_fo (ud s.fo m v)) := R.put (Fr.uI (by unfold Wr; omega)) ⟨fun i hi => (uI_n (by omega)).trans (R.S.wh i hi),
  fun i hi => (uI_n (by omega)).trans (R.S.ti i hi),
  fun i hi => (uI_n (by omega)).trans (R.S.sf i hi),
  fun i hi => (uI_n (by omega)).trans (R.S.sp i hi),
  fun i hi => (uI_n (by omega)).trans (R.S.ss i hi),
  fun i hi => (uI_n (by omega)).trans (R.S.ds i hi),
  fun i hi => (uI_n (by omega)).trans (R.S.br i hi),
  fun i hi => by
    by_cases e : i = m
    · rw [e, uI_s]; exact congrArg b01 (ud_s _ _ _).symm
    · rw [uI_n (by omega)]; exact (R.S.fo i hi).trans (congrArg b01 (ud_n e).symm),
  (uI_n (by omega)).trans R.S.mi,
  (uI_n (by omega)).trans R.S.vo,
  (uI_n (by omega)).trans R.S.sk,
  fun i w hi h4 hw => (uI_n (by omega)).trans (R.S.fa i w hi h4 hw),
  fun k c hk h2 hc => (uI_n (by omega)).trans (R.S.sr k c hk h2 hc)⟩
theorem RO.s_mi {d : HD} {h0 h : HI} {s : SD} {v : Nat} (R : RO d h0 h s) : RO d h0 (uI h 101 57 (nI v)) (s.w_mi v) := R.put (Fr.uI (by unfold Wr; omega)) ⟨fun i hi => (uI_n (by omega)).trans (R.S.wh i hi),
  fun i hi => (uI_n (by omega)).trans (R.S.ti i hi),
  fun i hi => (uI_n (by omega)).trans (R.S.sf i hi),
  fun i hi => (uI_n (by omega)).trans (R.S.sp i hi),
  fun i hi => (uI_n (by omega)).trans (R.S.ss i hi),
  fun i hi => (uI_n (by omega)).trans (R.S.ds i hi),
  fun i hi => (uI_n (by omega)).trans (R.S.br i hi),
  fun i hi => (uI_n (by omega)).trans (R.S.fo i hi),
  uI_s _ _ _ _,
  (uI_n (by omega)).trans R.S.vo,
  (uI_n (by omega)).trans R.S.sk,
  fun i w hi h4 hw => (uI_n (by omega)).trans (R.S.fa i w hi h4 hw),
  fun k c hk h2 hc => (uI_n (by omega)).trans (R.S.sr k c hk h2 hc)⟩
theorem RO.s_sk {d : HD} {h0 h : HI} {s : SD} {v : Int32} (R : RO d h0 h s) : RO d h0 (uI h 101 59 v) (s.w_sk v) := R.put (Fr.uI (by unfold Wr; omega)) ⟨fun i hi => (uI_n (by omega)).trans (R.S.wh i hi),
  fun i hi => (uI_n (by omega)).trans (R.S.ti i hi),
  fun i hi => (uI_n (by omega)).trans (R.S.sf i hi),
  fun i hi => (uI_n (by omega)).trans (R.S.sp i hi),
  fun i hi => (uI_n (by omega)).trans (R.S.ss i hi),
  fun i hi => (uI_n (by omega)).trans (R.S.ds i hi),
  fun i hi => (uI_n (by omega)).trans (R.S.br i hi),
  fun i hi => (uI_n (by omega)).trans (R.S.fo i hi),
  (uI_n (by omega)).trans R.S.mi,
  (uI_n (by omega)).trans R.S.vo,
  uI_s _ _ _ _,
  fun i w hi h4 hw => (uI_n (by omega)).trans (R.S.fa i w hi h4 hw),
  fun k c hk h2 hc => (uI_n (by omega)).trans (R.S.sr k c hk h2 hc)⟩
theorem CO.i_ds {o hh : Nat} {d : HD} {h0 h : HI} {s : SD} {v : Nat → Int32} (R : CO o hh d h0 h s) : CO o hh d h0 h (s.w_ds v) := R
theorem RO.i_de {d : HD} {h0 h : HI} {s : SD} {v : Nat → Nat} (R : RO d h0 h s) : RO d h0 h (s.w_de v) := R
