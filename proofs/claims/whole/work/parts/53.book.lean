/-! the book: entries and the time -/
def Bk (h : HI) : Prop := ∃ c T : Nat, c ≤ 40 ∧ T ≤ 100000 ∧ h.1 5 5 = nI c ∧ h.1 101 79 = nI c ∧ h.1 5 6 = nI T ∧ h.1 101 80 = nI T ∧ (∀ i, i < c → h.1 6 i = h.1 143 i ∧ h.1 7 i = h.1 144 i ∧ h.1 8 i = h.1 145 i ∧ h.1 9 i = h.1 146 i ∧ h.1 10 i = h.1 147 i) ∧ ∀ i, i < c → (∃ v, v < 100 ∧ h.1 143 i = nI v) ∧ (∃ v, v < 6 ∧ h.1 144 i = nI v) ∧ (h.1 147 i = -1 ∨ ∃ u, u ≤ 100000 ∧ h.1 147 i = nI u)
def BkW (a b : Nat) : Prop := a = 5 ∧ (b = 5 ∨ b = 6) ∨ (6 ≤ a ∧ a ≤ 10) ∨ a = 101 ∧ (b = 79 ∨ b = 80) ∨ (143 ≤ a ∧ a ≤ 147)
theorem Bk.keep {W : Nat → Nat → Prop} {h h2 : HI} (hT : Bk h) (hF : Fr W h h2) (hd : ∀ a b, BkW a b → ¬ W a b) : Bk h2 := by
  obtain ⟨c, T, h1, h2', h3, h4, h5, h6, h7, h8⟩ := hT
  have e : ∀ a b, BkW a b → h2.1 a b = h.1 a b := fun a b w => hF.1 a b (hd a b w)
  refine ⟨c, T, h1, h2', ?_, ?_, ?_, ?_, fun i hi => ?_, fun i hi => ?_⟩
  · rw [e 5 5 (by unfold BkW; omega)]; exact h3
  · rw [e 101 79 (by unfold BkW; omega)]; exact h4
  · rw [e 5 6 (by unfold BkW; omega)]; exact h5
  · rw [e 101 80 (by unfold BkW; omega)]; exact h6
  · rw [e 6 i (by unfold BkW; omega), e 7 i (by unfold BkW; omega), e 8 i (by unfold BkW; omega), e 9 i (by unfold BkW; omega), e 10 i (by unfold BkW; omega), e 143 i (by unfold BkW; omega), e 144 i (by unfold BkW; omega), e 145 i (by unfold BkW; omega), e 146 i (by unfold BkW; omega), e 147 i (by unfold BkW; omega)]
    exact h7 i hi
  · rw [e 143 i (by unfold BkW; omega), e 144 i (by unfold BkW; omega), e 147 i (by unfold BkW; omega)]
    exact h8 i hi
/-- later(by) -/
theorem op_later {h : HI} (hT : Bk h) (a1 : Int32) : ∃ (w : Int32) (h1 h2 : HI), fX8_later 0 h a1 = some (w, h1) ∧ fX9_later 101 h1 a1 = some (w, h2) ∧ Bk h2 ∧ Fr BkW h h2 := by
  have hB := hT
  obtain ⟨c, T, b1, b2, b3, b4, b5, b6, b7, b8⟩ := hT
  have b5' : h.1 (0 + 5) 6 = nI T := b5
  unfold fX8_later fX0_goOn fX9_later
  by_cases c1 : a1 < 0
  · rw [if_pos c1]
    exact ⟨_, _, h, rfl, if_pos c1, hB, Fr.rf⟩
  · rw [if_neg c1]
    by_cases c2 : (1000 : Int32) < a1
    · rw [if_pos c2]
      exact ⟨_, _, h, rfl, by rw [if_neg c1, if_pos c2], hB, Fr.rf⟩
    · rw [if_neg c2, b5']
      obtain ⟨j, hj, ej⟩ := nI_of c1
      have hj2 : j ≤ 1000 := by
        rcases Nat.lt_or_ge 1000 j with q | q
        · exact absurd (by rw [ej]; exact nI_lt (a := 1000) q hj) c2
        · exact q
      have es : nI T + a1 = nI (T + j) := by rw [ej, nI_add]
      rw [es]
      by_cases c3 : nI (T + j) ≤ (100000 : Int32)
      · have hTj : T + j ≤ 100000 := by
          rcases Nat.lt_or_ge 100000 (T + j) with q | q
          · exact absurd c3 (nI_ge (a := 100000) (b := T + j) q (by omega))
          · exact q
        rw [if_pos c3]
        refine ⟨nI (T + j), _, uI (uI h 5 6 (nI (T + j))) 101 80 (nI (T + j)), rfl, ?_, ?_, ?_⟩
        · rw [if_neg c1, if_neg c2]
          have e6 : (uI h (0 + 5) 6 (nI (T + j))).1 101 80 = nI T := by rw [uI_n (by omega)]; exact b6
          rw [e6, es, if_pos c3]
        · refine ⟨c, T + j, b1, hTj, ?_, ?_, ?_, ?_, fun i hi => ?_, fun i hi => ?_⟩
          · rw [uI_n (by omega), uI_n (by omega)]; exact b3
          · rw [uI_n (by omega), uI_n (by omega)]; exact b4
          · rw [uI_n (by omega), uI_s]
          · rw [uI_s]
          · have e : ∀ x, 6 ≤ x → x ≤ 10 ∨ 143 ≤ x → (uI (uI h 5 6 (nI (T + j))) 101 80 (nI (T + j))).1 x i = h.1 x i := fun x hx hy => by rw [uI_n (by omega), uI_n (by omega)]
            rw [e 6 (by omega) (by omega), e 7 (by omega) (by omega), e 8 (by omega) (by omega), e 9 (by omega) (by omega), e 10 (by omega) (by omega), e 143 (by omega) (by omega), e 144 (by omega) (by omega), e 145 (by omega) (by omega), e 146 (by omega) (by omega), e 147 (by omega) (by omega)]
            exact b7 i hi
          · rw [uI_n (by omega), uI_n (by omega), uI_n (by omega), uI_n (by omega), uI_n (by omega), uI_n (by omega)]
            exact b8 i hi
        · exact (Fr.uI (by unfold BkW; omega)).tr (Fr.uI (by unfold BkW; omega))
      · rw [if_neg c3]
        refine ⟨_, _, h, rfl, ?_, hB, Fr.rf⟩
        rw [if_neg c1, if_neg c2, b6, es, if_neg c3]
/-- untell(entry) -/
theorem op_untell {h : HI} (hT : Bk h) (a1 : Int32) : ∃ (w : Int32) (h1 h2 : HI), fX8_untell 0 h a1 = some (w, h1) ∧ fX9_untell 101 h1 a1 = some (w, h2) ∧ Bk h2 ∧ Fr BkW h h2 := by
  have hB := hT
  obtain ⟨c, T, b1, b2, b3, b4, b5, b6, b7, b8⟩ := hT
  have b3' : h.1 (0 + 5) 5 = nI c := b3
  have b5' : h.1 (0 + 5) 6 = nI T := b5
  unfold fX8_untell fX0_takeBack fX9_untell
  by_cases c1 : a1 < 0
  · rw [if_pos c1]
    exact ⟨_, _, h, rfl, if_pos c1, hB, Fr.rf⟩
  · rw [if_neg c1, b3']
    obtain ⟨j, hj, ej⟩ := nI_of c1
    by_cases c2 : nI c ≤ a1
    · rw [if_pos c2]
      exact ⟨_, _, h, rfl, by rw [if_neg c1, b4, if_pos c2], hB, Fr.rf⟩
    · rw [if_neg c2]
      have hjc : j < c := by
        rcases Nat.lt_or_ge j c with q | q
        · exact q
        · exact absurd (by rw [ej]; exact nI_le q hj) c2
      have hin : inB a1 40 := ⟨c1, by rw [ej, nI_clamp hj]; omega⟩
      have hcl : a1.toNatClampNeg = j := by rw [ej, nI_clamp hj]
      rw [if_neg (show ¬ (40 : Int32) ≤ a1 from by rw [ej]; exact nI_ge (a := j) (b := 40) (by omega) (by decide)), if_pos hin, if_pos hin]
      simp only [hcl]
      have e10 : h.1 (0 + 5 + 5) j = h.1 147 j := (b7 j hjc).2.2.2.2
      rw [e10]
      by_cases c3 : h.1 147 j = -1
      · rw [if_pos c3]
        refine ⟨1, uI h 10 j (nI T), uI (uI h 10 j (nI T)) 147 j (nI T), ?_, ?_, ?_, ?_⟩
        · simp only [Option.bind_some]
          rw [if_pos (Or.inr trivial), b5']
        · rw [if_neg c1, uI_n (by omega), b4, if_neg c2, if_pos hin, if_pos hin]
          have e7 : (uI h 10 j (nI T)).1 (101 + 46) j = h.1 147 j := uI_n (by omega)
          have e8 : (uI h 10 j (nI T)).1 101 80 = nI T := by rw [uI_n (by omega)]; exact b6
          rw [e7, c3, e8, if_pos (by decide)]
        · refine ⟨c, T, b1, b2, ?_, ?_, ?_, ?_, fun i hi => ?_, fun i hi => ?_⟩
          · rw [uI_n (by omega), uI_n (by omega)]; exact b3
          · rw [uI_n (by omega), uI_n (by omega)]; exact b4
          · rw [uI_n (by omega), uI_n (by omega)]; exact b5
          · rw [uI_n (by omega), uI_n (by omega)]; exact b6
          · have e : ∀ x, x ≠ 10 → x ≠ 147 → (uI (uI h 10 j (nI T)) 147 j (nI T)).1 x i = h.1 x i := fun x hx hy => by rw [uI_n (by omega), uI_n (by omega)]
            rw [e 6 (by omega) (by omega), e 7 (by omega) (by omega), e 8 (by omega) (by omega), e 9 (by omega) (by omega), e 143 (by omega) (by omega), e 144 (by omega) (by omega), e 145 (by omega) (by omega), e 146 (by omega) (by omega)]
            refine ⟨(b7 i hi).1, (b7 i hi).2.1, (b7 i hi).2.2.1, (b7 i hi).2.2.2.1, ?_⟩
            by_cases hij : i = j
            · subst hij
              rw [uI_n (by omega), uI_s, uI_s]
            · rw [uI_n (by omega), uI_n (by omega), uI_n (by omega), uI_n (by omega)]
              exact (b7 i hi).2.2.2.2
          · have e : ∀ x, x ≠ 10 → x ≠ 147 → (uI (uI h 10 j (nI T)) 147 j (nI T)).1 x i = h.1 x i := fun x hx hy => by rw [uI_n (by omega), uI_n (by omega)]
            rw [e 143 (by omega) (by omega), e 144 (by omega) (by omega)]
            refine ⟨(b8 i hi).1, (b8 i hi).2.1, ?_⟩
            by_cases hij : i = j
            · subst hij
              rw [uI_s]
              exact Or.inr ⟨T, b2, rfl⟩
            · rw [uI_n (by omega), uI_n (by omega)]
              exact (b8 i hi).2.2
        · exact (Fr.uI (by unfold BkW; omega)).tr (Fr.uI (by unfold BkW; omega))
      · rw [if_neg c3]
        refine ⟨0, h, h, ?_, ?_, hB, Fr.rf⟩
        · simp only [Option.bind_some]
          rw [if_pos (Or.inl trivial)]
        · rw [if_neg c1, b4, if_neg c2, if_pos hin, if_neg]
          rcases (b8 j hjc).2.2 with q | ⟨u, hu, q⟩
          · exact absurd q c3
          · show ¬ h.1 147 j < 0
            rw [q]
            exact nI_pos (by omega)
