/-! THE PURE PART. Fr W h h2: the heaps are alike but for the places W -/
def Fr (W : Nat → Nat → Prop) (h h2 : HI) : Prop := (∀ a b, ¬ W a b → h2.1 a b = h.1 a b) ∧ ∀ a b, ¬ W a b → h2.2 a b = h.2 a b
theorem Fr.rf {W : Nat → Nat → Prop} {h : HI} : Fr W h h := ⟨fun _ _ _ => rfl, fun _ _ _ => rfl⟩
theorem Fr.tr {W : Nat → Nat → Prop} {h h2 h3 : HI} (a : Fr W h h2) (b : Fr W h2 h3) : Fr W h h3 := ⟨fun x y w => (b.1 x y w).trans (a.1 x y w), fun x y w => (b.2 x y w).trans (a.2 x y w)⟩
theorem Fr.mono {W V : Nat → Nat → Prop} {h h2 : HI} (a : Fr W h h2) (hw : ∀ x y, W x y → V x y) : Fr V h h2 := ⟨fun x y w => a.1 x y (fun q => w (hw x y q)), fun x y w => a.2 x y (fun q => w (hw x y q))⟩
theorem uI_g (h : HI) (o k : Nat) (v : Int32) (a b : Nat) : (uI h o k v).1 a b = if a = o ∧ b = k then v else h.1 a b := rfl
theorem uL_g (h : HI) (o k : Nat) (v : Int64) (a b : Nat) : (uL h o k v).2 a b = if a = o ∧ b = k then v else h.2 a b := rfl
theorem Fr.uI {W : Nat → Nat → Prop} {h : HI} {o k : Nat} {v : Int32} (hw : W o k) : Fr W h (uI h o k v) := ⟨fun a b w => uI_n (fun q => w (by rw [q.1, q.2]; exact hw)), fun _ _ _ => rfl⟩
theorem Fr.uL {W : Nat → Nat → Prop} {h : HI} {o k : Nat} {v : Int64} (hw : W o k) : Fr W h (uL h o k v) := ⟨fun _ _ _ => rfl, fun a b w => uL_n (fun q => w (by rw [q.1, q.2]; exact hw))⟩
/-! the tape: as many bytes on both sides, the same ones -/
def Tp (h : HI) : Prop := ∃ n : Nat, n ≤ 1700 ∧ h.1 1 1 = nI n ∧ h.1 101 1 = nI n ∧ (∀ k, k < n → h.1 2 k &&& 255 = h.1 102 k) ∧ ∀ k, k < n → ∃ y : Nat, y < 256 ∧ h.1 102 k = nI y
def TpW (a b : Nat) : Prop := a = 1 ∧ b = 1 ∨ a = 2 ∨ a = 101 ∧ b = 1 ∨ a = 102
theorem Tp.keep {W : Nat → Nat → Prop} {h h2 : HI} (hT : Tp h) (hF : Fr W h h2) (hd : ∀ a b, TpW a b → ¬ W a b) : Tp h2 := by
  obtain ⟨n, h1, h2', h3, h4, h5⟩ := hT
  refine ⟨n, h1, ?_, ?_, fun k hk => ?_, fun k hk => ?_⟩
  · rw [hF.1 1 1 (hd _ _ (Or.inl ⟨rfl, rfl⟩))]; exact h2'
  · rw [hF.1 101 1 (hd _ _ (Or.inr (Or.inr (Or.inl ⟨rfl, rfl⟩))))]; exact h3
  · rw [hF.1 2 k (hd _ _ (Or.inr (Or.inl rfl))), hF.1 102 k (hd _ _ (Or.inr (Or.inr (Or.inr rfl))))]; exact h4 k hk
  · rw [hF.1 102 k (hd _ _ (Or.inr (Or.inr (Or.inr rfl))))]; exact h5 k hk
/-- end(n) -/
theorem op_end {h : HI} (hT : Tp h) (a1 : Int32) : ∃ (w : Int32) (h1 h2 : HI), fX8_end 0 h a1 = some (w, h1) ∧ fX9_end 101 h1 a1 = some (w, h2) ∧ Tp h2 ∧ Fr TpW h h2 := by
  obtain ⟨n, hn, e1, e2, e3, e4⟩ := hT
  unfold fX8_end fX9_end
  by_cases c1 : a1 < 0
  · exact ⟨_, _, _, if_pos c1, if_pos c1, ⟨n, hn, e1, e2, e3, e4⟩, Fr.rf⟩
  · rw [if_neg c1]
    by_cases c2 : a1 ≤ h.1 (0 + 1) 1
    · rw [if_pos c2]
      refine ⟨_, _, uI (uI h (0 + 1) 1 a1) 101 1 a1, rfl, ?_, ?_, ?_⟩
      · rw [if_neg c1, if_pos]
        rw [uI_n (by omega), e2]
        rw [show h.1 (0 + 1) 1 = nI n from e1] at c2
        exact c2
      · obtain ⟨j, hj, ej⟩ := nI_of c1
        have hjn : j ≤ n := by
          rw [show h.1 (0 + 1) 1 = nI n from e1, ej] at c2
          exact (nI_leI hj (by omega)).mp c2
        refine ⟨j, by omega, ?_, ?_, fun k hk => ?_, fun k hk => ?_⟩
        · rw [uI_n (by omega)]; show (uI h 1 1 a1).1 1 1 = _; rw [uI_s, ej]
        · rw [uI_s, ej]
        · rw [uI_n (by omega), uI_n (by omega), uI_n (by omega), uI_n (by omega)]; exact e3 k (by omega)
        · rw [uI_n (by omega), uI_n (by omega)]; exact e4 k (by omega)
      · exact (Fr.uI (Or.inl ⟨rfl, rfl⟩)).tr (Fr.uI (Or.inr (Or.inr (Or.inl ⟨rfl, rfl⟩))))
    · rw [if_neg c2]
      refine ⟨_, _, h, rfl, ?_, ⟨n, hn, e1, e2, e3, e4⟩, Fr.rf⟩
      rw [if_neg c1, if_neg]
      rw [e2]
      rw [show h.1 (0 + 1) 1 = nI n from e1] at c2
      exact c2
/-! the fault -/
def Fa (h : HI) : Prop := h.1 53 8 = h.1 101 2 ∧ h.1 53 9 = h.1 101 3
def FaW (a b : Nat) : Prop := a = 53 ∧ b = 8 ∨ a = 53 ∧ b = 9 ∨ a = 101 ∧ b = 2 ∨ a = 101 ∧ b = 3
theorem Fa.keep {W : Nat → Nat → Prop} {h h2 : HI} (hT : Fa h) (hF : Fr W h h2) (hd : ∀ a b, FaW a b → ¬ W a b) : Fa h2 := by
  refine ⟨?_, ?_⟩
  · rw [hF.1 53 8 (hd _ _ (Or.inl ⟨rfl, rfl⟩)), hF.1 101 2 (hd _ _ (Or.inr (Or.inr (Or.inl ⟨rfl, rfl⟩))))]; exact hT.1
  · rw [hF.1 53 9 (hd _ _ (Or.inr (Or.inl ⟨rfl, rfl⟩))), hF.1 101 3 (hd _ _ (Or.inr (Or.inr (Or.inr ⟨rfl, rfl⟩))))]; exact hT.2
theorem op_fault {h : HI} (hT : Fa h) (a1 : Int32) : ∃ w : Int32, fX8_fault 0 h a1 = some (w, h) ∧ fX9_fault 101 h a1 = some (w, h) := by
  unfold fX8_fault fX9_fault
  by_cases c0 : a1 = 0
  · exact ⟨_, if_pos c0, by rw [if_pos c0]; exact congrArg (fun x => some (x, h)) hT.1.symm⟩
  · by_cases c1 : a1 = 1
    · exact ⟨_, by rw [if_neg c0, if_pos c1], by rw [if_neg c0, if_pos c1]; exact congrArg (fun x => some (x, h)) hT.2.symm⟩
    · exact ⟨_, by rw [if_neg c0, if_neg c1], by rw [if_neg c0, if_neg c1]⟩
