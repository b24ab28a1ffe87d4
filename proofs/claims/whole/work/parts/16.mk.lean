theorem ww_as {X : CT} {Y : YT} {pc : Nat} {ls st : List Value} {σ : Hp} {v x : Int32} (hv : x = v) (k : WW X Y pc ls (.int v :: st) σ) : WW X Y pc ls (.int x :: st) σ := by rw [hv]; exact k
theorem ww_asl {X : CT} {Y : YT} {pc : Nat} {ls st : List Value} {σ : Hp} {v x : Int64} (hv : x = v) (k : WW X Y pc ls (.long v :: st) σ) : WW X Y pc ls (.long x :: st) σ := by rw [hv]; exact k
/-! ints and longs of the heap; references stand apart (r) -/
abbrev HI : Type := (Nat → Nat → Int32) × (Nat → Nat → Int64)
def uI (h : HI) (o k : Nat) (v : Int32) : HI := (fun a b => if a = o ∧ b = k then v else h.1 a b, h.2)
def uL (h : HI) (o k : Nat) (v : Int64) : HI := (h.1, fun a b => if a = o ∧ b = k then v else h.2 a b)
theorem uI_2 (h : HI) (o k : Nat) (v : Int32) : (uI h o k v).2 = h.2 := rfl
theorem uL_1 (h : HI) (o k : Nat) (v : Int64) : (uL h o k v).1 = h.1 := rfl
theorem uI_s (h : HI) (o k : Nat) (v : Int32) : (uI h o k v).1 o k = v := if_pos ⟨rfl, rfl⟩
theorem uI_n {h : HI} {o k : Nat} {v : Int32} {a b : Nat} (hn : ¬ (a = o ∧ b = k)) : (uI h o k v).1 a b = h.1 a b := if_neg hn
theorem uL_s (h : HI) (o k : Nat) (v : Int64) : (uL h o k v).2 o k = v := if_pos ⟨rfl, rfl⟩
theorem uL_n {h : HI} {o k : Nat} {v : Int64} {a b : Nat} (hn : ¬ (a = o ∧ b = k)) : (uL h o k v).2 a b = h.2 a b := if_neg hn
def mk (h : HI) (r : Nat → Nat → Option Nat) : Hp := (h.1, h.2, r)
/-- a place within a row of n -/
abbrev inB (i : Int32) (n : Nat) : Prop := ¬ i < 0 ∧ i.toNatClampNeg < n
theorem vp_of {i : Int32} {n N : Nat} (h : inB i n) (hn : N = n) : vp_in i N := fun q => by
  rw [hn] at q
  rcases q with q | q
  · exact h.1 q
  · have := h.2; omega
theorem gd_of {α : Type} {c : Prop} [Decidable c] {a : Option α} {r : α} (h : (if c then a else none) = some r) : c ∧ a = some r := by
  by_cases q : c
  · rw [if_pos q] at h; exact ⟨q, h⟩
  · rw [if_neg q] at h; cases h
theorem bd_of {α β : Type} {a : Option α} {f : α → Option β} {r : β} (h : a.bind f = some r) : ∃ p, a = some p ∧ f p = some r := by
  cases a with
  | none => cases h
  | some p => exact ⟨p, rfl, h⟩
theorem sl_n {ls : List Value} : subL [] ls := by cases ls <;> exact trivial
theorem sl_e {a : Value} {t u : List Value} (h : subL t u) : subL (a :: t) (a :: u) := ⟨Or.inr rfl, h⟩
theorem sl_d {b : Value} {t u : List Value} (h : subL t u) : subL (.retAddr 0 :: t) (b :: u) := ⟨Or.inl rfl, h⟩
def FU : Nat := 1000000
theorem tab_out {x : Int32} {lo hi : Int} (h : ∀ c : Int, lo ≤ c → c ≤ hi → ¬ x.toInt = c) : x.toInt < lo ∨ hi < x.toInt := by
  rcases Int.lt_or_le x.toInt lo with q | q
  · exact Or.inl q
  · rcases Int.lt_or_le hi x.toInt with p | p
    · exact Or.inr p
    · exact absurd rfl (h x.toInt q p)
theorem wk_getI {X : CT} {sh : Sh} {adr : Nat → Nat} {cells slots : Nat} {own : String} {cc : ByteArray} {nL d pc : Nat} {ls st : List Value} {h : HI} {r : Nat → Nat → Option Nat} {idx o ci kk : Nat} (C : CX X own cc nL d) (hd : decode cc pc = .ok (.getfield idx, 3)) (hf : FLD own idx ci kk) (hk : kd sh o = ci) (ht : tyF ci kk = .int) (k : WW X (sh, adr, cells, slots) (pc + 3) ls (.int (h.1 o kk) :: st) (mk h r)) : WW X (sh, adr, cells, slots) pc ls (.ref o :: st) (mk h r) := ww_getI C hd hf hk ht k
theorem wk_getZ {X : CT} {sh : Sh} {adr : Nat → Nat} {cells slots : Nat} {own : String} {cc : ByteArray} {nL d pc : Nat} {ls st : List Value} {h : HI} {r : Nat → Nat → Option Nat} {idx o ci kk : Nat} (C : CX X own cc nL d) (hd : decode cc pc = .ok (.getfield idx, 3)) (hf : FLD own idx ci kk) (hk : kd sh o = ci) (ht : tyF ci kk = .boolean) (k : WW X (sh, adr, cells, slots) (pc + 3) ls (.int (h.1 o kk) :: st) (mk h r)) : WW X (sh, adr, cells, slots) pc ls (.ref o :: st) (mk h r) := ww_getZ C hd hf hk ht k
theorem wk_getJ {X : CT} {sh : Sh} {adr : Nat → Nat} {cells slots : Nat} {own : String} {cc : ByteArray} {nL d pc : Nat} {ls st : List Value} {h : HI} {r : Nat → Nat → Option Nat} {idx o ci kk : Nat} (C : CX X own cc nL d) (hd : decode cc pc = .ok (.getfield idx, 3)) (hf : FLD own idx ci kk) (hk : kd sh o = ci) (ht : tyF ci kk = .long) (k : WW X (sh, adr, cells, slots) (pc + 3) ls (.long (h.2 o kk) :: st) (mk h r)) : WW X (sh, adr, cells, slots) pc ls (.ref o :: st) (mk h r) := ww_getJ C hd hf hk ht k
theorem wk_getA {X : CT} {sh : Sh} {adr : Nat → Nat} {cells slots : Nat} {own : String} {cc : ByteArray} {nL d pc : Nat} {ls st : List Value} {h : HI} {r : Nat → Nat → Option Nat} {idx o ci kk : Nat} {nm : String} {a : Nat} (C : CX X own cc nL d) (hd : decode cc pc = .ok (.getfield idx, 3)) (hf : FLD own idx ci kk) (hk : kd sh o = ci) (ht : tyF ci kk = .object nm) (hg : r o kk = some a) (k : WW X (sh, adr, cells, slots) (pc + 3) ls (.ref a :: st) (mk h r)) : WW X (sh, adr, cells, slots) pc ls (.ref o :: st) (mk h r) := ww_getA C hd hf hk ht hg k
theorem wk_getR {X : CT} {sh : Sh} {adr : Nat → Nat} {cells slots : Nat} {own : String} {cc : ByteArray} {nL d pc : Nat} {ls st : List Value} {h : HI} {r : Nat → Nat → Option Nat} {idx o ci kk : Nat} {nm : FieldType} {a : Nat} (C : CX X own cc nL d) (hd : decode cc pc = .ok (.getfield idx, 3)) (hf : FLD own idx ci kk) (hk : kd sh o = ci) (ht : tyF ci kk = .array nm) (hg : r o kk = some a) (k : WW X (sh, adr, cells, slots) (pc + 3) ls (.ref a :: st) (mk h r)) : WW X (sh, adr, cells, slots) pc ls (.ref o :: st) (mk h r) := ww_getR C hd hf hk ht hg k
theorem wk_putI {X : CT} {sh : Sh} {adr : Nat → Nat} {cells slots : Nat} {own : String} {cc : ByteArray} {nL d pc : Nat} {ls st : List Value} {h : HI} {r : Nat → Nat → Option Nat} {idx o ci kk : Nat} {v : Int32} (C : CX X own cc nL d) (hd : decode cc pc = .ok (.putfield idx, 3)) (hf : FLD own idx ci kk) (hk : kd sh o = ci) (ht : tyF ci kk = .int) (hn : (TF ci kk).2.2.2 = false) (k : WW X (sh, adr, cells, slots) (pc + 3) ls st (mk (uI h o kk v) r)) : WW X (sh, adr, cells, slots) pc ls (.int v :: .ref o :: st) (mk h r) := ww_putI C hd hf hk ht hn k
theorem wk_putZ {X : CT} {sh : Sh} {adr : Nat → Nat} {cells slots : Nat} {own : String} {cc : ByteArray} {nL d pc : Nat} {ls st : List Value} {h : HI} {r : Nat → Nat → Option Nat} {idx o ci kk : Nat} {v : Int32} (C : CX X own cc nL d) (hd : decode cc pc = .ok (.putfield idx, 3)) (hf : FLD own idx ci kk) (hk : kd sh o = ci) (ht : tyF ci kk = .boolean) (hn : (TF ci kk).2.2.2 = false) (hz : v = 0 ∨ v = 1) (k : WW X (sh, adr, cells, slots) (pc + 3) ls st (mk (uI h o kk v) r)) : WW X (sh, adr, cells, slots) pc ls (.int v :: .ref o :: st) (mk h r) := ww_putZ C hd hf hk ht hn hz k
theorem wk_putJ {X : CT} {sh : Sh} {adr : Nat → Nat} {cells slots : Nat} {own : String} {cc : ByteArray} {nL d pc : Nat} {ls st : List Value} {h : HI} {r : Nat → Nat → Option Nat} {idx o ci kk : Nat} {v : Int64} (C : CX X own cc nL d) (hd : decode cc pc = .ok (.putfield idx, 3)) (hf : FLD own idx ci kk) (hk : kd sh o = ci) (ht : tyF ci kk = .long) (hn : (TF ci kk).2.2.2 = false) (k : WW X (sh, adr, cells, slots) (pc + 3) ls st (mk (uL h o kk v) r)) : WW X (sh, adr, cells, slots) pc ls (.long v :: .ref o :: st) (mk h r) := ww_putJ C hd hf hk ht hn k
theorem wk_iaload {X : CT} {sh : Sh} {adr : Nat → Nat} {cells slots : Nat} {own : String} {cc : ByteArray} {nL d pc : Nat} {ls st : List Value} {h : HI} {r : Nat → Nat → Option Nat} {a : Nat} {i : Int32} (C : CX X own cc nL d) (hd : decode cc pc = .ok (.iaload, 1)) (hk : kd sh a = 11) (hin : vp_in i (ln sh a)) (n : Nat) (hn : i.toNatClampNeg = n) (k : WW X (sh, adr, cells, slots) (pc + 1) ls (.int (h.1 a n) :: st) (mk h r)) : WW X (sh, adr, cells, slots) pc ls (.int i :: .ref a :: st) (mk h r) := by
  subst hn
  exact ww_iaload C hd hk hin k
theorem wk_baload {X : CT} {sh : Sh} {adr : Nat → Nat} {cells slots : Nat} {own : String} {cc : ByteArray} {nL d pc : Nat} {ls st : List Value} {h : HI} {r : Nat → Nat → Option Nat} {a : Nat} {i : Int32} (C : CX X own cc nL d) (hd : decode cc pc = .ok (.baload, 1)) (hk : kd sh a = 10) (hin : vp_in i (ln sh a)) (n : Nat) (hn : i.toNatClampNeg = n) (k : WW X (sh, adr, cells, slots) (pc + 1) ls (.int (h.1 a n) :: st) (mk h r)) : WW X (sh, adr, cells, slots) pc ls (.int i :: .ref a :: st) (mk h r) := by
  subst hn
  exact ww_baload C hd hk hin k
theorem wk_zaload {X : CT} {sh : Sh} {adr : Nat → Nat} {cells slots : Nat} {own : String} {cc : ByteArray} {nL d pc : Nat} {ls st : List Value} {h : HI} {r : Nat → Nat → Option Nat} {a : Nat} {i : Int32} (C : CX X own cc nL d) (hd : decode cc pc = .ok (.baload, 1)) (hk : kd sh a = 13) (hin : vp_in i (ln sh a)) (n : Nat) (hn : i.toNatClampNeg = n) (k : WW X (sh, adr, cells, slots) (pc + 1) ls (.int (h.1 a n) :: st) (mk h r)) : WW X (sh, adr, cells, slots) pc ls (.int i :: .ref a :: st) (mk h r) := by
  subst hn
  exact ww_zaload C hd hk hin k
theorem wk_laload {X : CT} {sh : Sh} {adr : Nat → Nat} {cells slots : Nat} {own : String} {cc : ByteArray} {nL d pc : Nat} {ls st : List Value} {h : HI} {r : Nat → Nat → Option Nat} {a : Nat} {i : Int32} (C : CX X own cc nL d) (hd : decode cc pc = .ok (.laload, 1)) (hk : kd sh a = 12) (hin : vp_in i (ln sh a)) (n : Nat) (hn : i.toNatClampNeg = n) (k : WW X (sh, adr, cells, slots) (pc + 1) ls (.long (h.2 a n) :: st) (mk h r)) : WW X (sh, adr, cells, slots) pc ls (.int i :: .ref a :: st) (mk h r) := by
  subst hn
  exact ww_laload C hd hk hin k
theorem wk_iastore {X : CT} {sh : Sh} {adr : Nat → Nat} {cells slots : Nat} {own : String} {cc : ByteArray} {nL d pc : Nat} {ls st : List Value} {h : HI} {r : Nat → Nat → Option Nat} {a : Nat} {i : Int32} {v : Int32} (C : CX X own cc nL d) (hd : decode cc pc = .ok (.iastore, 1)) (hk : kd sh a = 11) (hin : vp_in i (ln sh a)) (n : Nat) (hn : i.toNatClampNeg = n) (k : WW X (sh, adr, cells, slots) (pc + 1) ls st (mk (uI h a n v) r)) : WW X (sh, adr, cells, slots) pc ls (.int v :: .int i :: .ref a :: st) (mk h r) := by
  subst hn
  exact ww_iastore C hd hk hin k
theorem wk_bastore {X : CT} {sh : Sh} {adr : Nat → Nat} {cells slots : Nat} {own : String} {cc : ByteArray} {nL d pc : Nat} {ls st : List Value} {h : HI} {r : Nat → Nat → Option Nat} {a : Nat} {i : Int32} {v : Int32} (C : CX X own cc nL d) (hd : decode cc pc = .ok (.bastore, 1)) (hk : kd sh a = 10) (hin : vp_in i (ln sh a)) (n : Nat) (hn : i.toNatClampNeg = n) (w : Int32) (hw : vp_nar .byte v = w) (k : WW X (sh, adr, cells, slots) (pc + 1) ls st (mk (uI h a n w) r)) : WW X (sh, adr, cells, slots) pc ls (.int v :: .int i :: .ref a :: st) (mk h r) := by
  subst hn
  subst hw
  exact ww_bastore C hd hk hin k
theorem wk_zastore {X : CT} {sh : Sh} {adr : Nat → Nat} {cells slots : Nat} {own : String} {cc : ByteArray} {nL d pc : Nat} {ls st : List Value} {h : HI} {r : Nat → Nat → Option Nat} {a : Nat} {i : Int32} {v : Int32} (C : CX X own cc nL d) (hd : decode cc pc = .ok (.bastore, 1)) (hk : kd sh a = 13) (hin : vp_in i (ln sh a)) (n : Nat) (hn : i.toNatClampNeg = n) (w : Int32) (hw : vp_nar .boolean v = w) (k : WW X (sh, adr, cells, slots) (pc + 1) ls st (mk (uI h a n w) r)) : WW X (sh, adr, cells, slots) pc ls (.int v :: .int i :: .ref a :: st) (mk h r) := by
  subst hn
  subst hw
  exact ww_zastore C hd hk hin k
theorem wk_lastore {X : CT} {sh : Sh} {adr : Nat → Nat} {cells slots : Nat} {own : String} {cc : ByteArray} {nL d pc : Nat} {ls st : List Value} {h : HI} {r : Nat → Nat → Option Nat} {a : Nat} {i : Int32} {v : Int64} (C : CX X own cc nL d) (hd : decode cc pc = .ok (.lastore, 1)) (hk : kd sh a = 12) (hin : vp_in i (ln sh a)) (n : Nat) (hn : i.toNatClampNeg = n) (k : WW X (sh, adr, cells, slots) (pc + 1) ls st (mk (uL h a n v) r)) : WW X (sh, adr, cells, slots) pc ls (.long v :: .int i :: .ref a :: st) (mk h r) := by
  subst hn
  exact ww_lastore C hd hk hin k
theorem wk_alenI {X : CT} {sh : Sh} {adr : Nat → Nat} {cells slots : Nat} {own : String} {cc : ByteArray} {nL d pc : Nat} {ls st : List Value} {h : HI} {r : Nat → Nat → Option Nat} {a N : Nat} (C : CX X own cc nL d) (hd : decode cc pc = .ok (.arraylength, 1)) (hk : kd sh a = 11) (hl : ln sh a = N) (k : WW X (sh, adr, cells, slots) (pc + 1) ls (.int (nI N) :: st) (mk h r)) : WW X (sh, adr, cells, slots) pc ls (.ref a :: st) (mk h r) := by
  subst hl
  exact ww_alenI C hd hk k
theorem wk_alenJ {X : CT} {sh : Sh} {adr : Nat → Nat} {cells slots : Nat} {own : String} {cc : ByteArray} {nL d pc : Nat} {ls st : List Value} {h : HI} {r : Nat → Nat → Option Nat} {a N : Nat} (C : CX X own cc nL d) (hd : decode cc pc = .ok (.arraylength, 1)) (hk : kd sh a = 12) (hl : ln sh a = N) (k : WW X (sh, adr, cells, slots) (pc + 1) ls (.int (nI N) :: st) (mk h r)) : WW X (sh, adr, cells, slots) pc ls (.ref a :: st) (mk h r) := by
  subst hl
  exact ww_alenJ C hd hk k
