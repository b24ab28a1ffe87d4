/-! the rule of votes: steps behind their operands. A code is a number below 10000, or 10000 and the class's token -/
def opc (c : Nat) : Bool := decide (c < 10000) || (decide (10144 ≤ c) && decide (c ≤ 10148))
def binc (c : Nat) : Bool := decide (c = 10141) || (decide (c = 10142) || (decide (c = 10060) || (decide (c = 10061) || (decide (c = 10062) || (decide (c = 10043) || (decide (c = 10045) || decide (c = 10042)))))))
/-- how many lie on the pile behind the steps -/
def rt : List Nat → Nat → Option Nat
  | [], k => some k
  | c :: l, k => if c = 10143 then (if 1 ≤ k then rt l k else none) else if opc c = true then (if k < 42 then rt l (k + 1) else none) else if binc c = true then (if 2 ≤ k then rt l (k - 1) else none) else none
def opv (y n s t : Int32) (c : Nat) : Int32 := if c = 10144 then y else if c = 10145 then n else if c = 10146 then s else if c = 10147 then t else if c = 10148 then s + t else nI c
def jn (c : Nat) (a b : Int32) : Int32 := if c = 10141 then (if a = 0 then (if b = 0 then 0 else 1) else 1) else if c = 10142 then (if a = 0 then 0 else if b = 0 then 0 else 1) else if c = 10060 then (if b ≤ a then 0 else 1) else if c = 10061 then (if a = b then 1 else 0) else if c = 10062 then (if a ≤ b then 0 else 1) else if c = 10043 then a + b else if c = 10045 then a - b else a * b
def ev (y n s t : Int32) : List Nat → Nat → (Nat → Int32) → Int32
  | [], _, f => f 0
  | c :: l, k, f => if c = 10143 then ev y n s t l k (ud f (k - 1) (if f (k - 1) = 0 then 1 else 0)) else if opc c = true then ev y n s t l (k + 1) (ud f k (opv y n s t c)) else ev y n s t l (k - 1) (ud f (k - 2) (jn c (f (k - 2)) (f (k - 1))))
def psP (l : List Nat) (y n s t : Int32) : Bool := !decide (ev y n s t l 0 (fun _ => 0) = 0)
def WFR (l : List Nat) : Prop := l.length ≤ 400 ∧ rt l 0 = some 1 ∧ ∀ i, i < l.length → l.getD i 0 < 20000
/-- the reference's word for a code -/
def rco (c : Nat) : Nat := if c < 10000 then 0 else if c = 10144 then 1 else if c = 10145 then 2 else if c = 10146 then 3 else if c = 10147 then 4 else if c = 10148 then 5 else if c = 10141 then 20 else if c = 10142 then 21 else if c = 10143 then 22 else if c = 10061 then 23 else if c = 10060 then 24 else if c = 10062 then 25 else if c = 10043 then 26 else if c = 10045 then 27 else 28
def rdef : List Nat := [10144, 10145, 10062]
def RU (hh : Nat) (d : HD) (h : HI) : Prop := WFR d.ru ∧ h.1 (hh + 18) 2 = nI d.ru.length ∧ (∀ i, i < d.ru.length → h.1 (hh + 19) i = nI (d.ru.getD i 0)) ∧ (h.1 101 48 = 0 ∧ d.ru = rdef ∨ ¬ h.1 101 48 = 0 ∧ h.1 101 19 = nI d.ru.length ∧ ∀ i, i < d.ru.length → h.1 105 i = nI (rco (d.ru.getD i 0)) ∧ (d.ru.getD i 0 < 10000 → h.1 106 i = nI (d.ru.getD i 0)))
theorem RU.keep {hh : Nat} {d : HD} {h h2 : HI} {W : Nat → Nat → Prop} (R : RU hh d h) (F : Fr W h h2) (hd : ∀ a b, a = hh + 18 ∧ b = 2 ∨ a = hh + 19 ∨ a = 101 ∧ b = 48 ∨ a = 101 ∧ b = 19 ∨ a = 105 ∨ a = 106 → ¬ W a b) : RU hh d h2 := by
  obtain ⟨r1, r2, r3, r4⟩ := R
  refine ⟨r1, (F.1 _ _ (hd _ _ (by omega))).trans r2, fun i hi => (F.1 _ _ (hd _ _ (by omega))).trans (r3 i hi), ?_⟩
  rw [F.1 101 48 (hd _ _ (by omega)), F.1 101 19 (hd _ _ (by omega))]
  rcases r4 with r4 | ⟨a, b, c⟩
  · exact Or.inl r4
  · exact Or.inr ⟨a, b, fun i hi => ⟨(F.1 _ _ (hd _ _ (by omega))).trans (c i hi).1, fun q => (F.1 _ _ (hd _ _ (by omega))).trans ((c i hi).2 q)⟩⟩
theorem binc_cases {c : Nat} (h : binc c = true) : c = 10141 ∨ c = 10142 ∨ c = 10060 ∨ c = 10061 ∨ c = 10062 ∨ c = 10043 ∨ c = 10045 ∨ c = 10042 := by
  unfold binc at h
  simp only [Bool.or_eq_true, decide_eq_true_eq] at h
  exact h
theorem opc_cases {c : Nat} (h : opc c = true) : c < 10000 ∨ c = 10144 ∨ c = 10145 ∨ c = 10146 ∨ c = 10147 ∨ c = 10148 := by
  unfold opc at h
  simp only [Bool.or_eq_true, Bool.and_eq_true, decide_eq_true_eq] at h
  omega
theorem c_join (h : HI) {c : Nat} (hc : binc c = true) (a b : Int32) : fX5_join h (nI c - 10000) a b = some (jn c a b, h) := by
  unfold fX5_join
  rcases binc_cases hc with e | e | e | e | e | e | e | e <;> subst e
  · rw [show nI 10141 - 10000 = (141 : Int32) by decide]
    simp (decide := true) only [jn, if_true, if_false]
    (repeat' split) <;> rfl
  · rw [show nI 10142 - 10000 = (142 : Int32) by decide]
    simp (decide := true) only [jn, if_true, if_false]
    (repeat' split) <;> rfl
  · rw [show nI 10060 - 10000 = (60 : Int32) by decide]
    simp (decide := true) only [jn, if_true, if_false]
    split <;> rfl
  · rw [show nI 10061 - 10000 = (61 : Int32) by decide]
    simp (decide := true) only [jn, if_true, if_false]
    split <;> rfl
  · rw [show nI 10062 - 10000 = (62 : Int32) by decide]
    simp (decide := true) only [jn, if_true, if_false]
    split <;> rfl
  · rw [show nI 10043 - 10000 = (43 : Int32) by decide]
    simp (decide := true) only [jn, if_true, if_false]
  · rw [show nI 10045 - 10000 = (45 : Int32) by decide]
    simp (decide := true) only [jn, if_true, if_false]
  · rw [show nI 10042 - 10000 = (42 : Int32) by decide]
    simp (decide := true) only [jn, if_true, if_false]
theorem r_join (h : HI) {c : Nat} (hc : binc c = true) (a b : Int32) : fX9_worked h (nI (rco c)) a b = some (jn c a b, h) := by
  unfold fX9_worked
  rcases binc_cases hc with e | e | e | e | e | e | e | e <;> subst e
  · rw [show nI (rco 10141) = (20 : Int32) by decide]
    simp (decide := true) only [jn, if_true, if_false]
    (repeat' split) <;> rfl
  · rw [show nI (rco 10142) = (21 : Int32) by decide]
    simp (decide := true) only [jn, if_true, if_false]
    (repeat' split) <;> rfl
  · rw [show nI (rco 10060) = (24 : Int32) by decide]
    simp (decide := true) only [jn, if_true, if_false]
    split <;> rfl
  · rw [show nI (rco 10061) = (23 : Int32) by decide]
    simp (decide := true) only [jn, if_true, if_false]
    split <;> rfl
  · rw [show nI (rco 10062) = (25 : Int32) by decide]
    simp (decide := true) only [jn, if_true, if_false]
    split <;> rfl
  · rw [show nI (rco 10043) = (26 : Int32) by decide]
    simp (decide := true) only [jn, if_true, if_false]
  · rw [show nI (rco 10045) = (27 : Int32) by decide]
    simp (decide := true) only [jn, if_true, if_false]
  · rw [show nI (rco 10042) = (28 : Int32) by decide]
    simp (decide := true) only [jn, if_true, if_false]
theorem c_opv (h : HI) {c : Nat} (hc : opc c = true) (y n s t : Int32) : fX5_operand h (nI c) y n s t = some (opv y n s t c, h) := by
  have e : ∀ k, k < 2 ^ 31 - 10000 → nI c - (10000 : Int32) = nI k → c = 10000 + k := by
    intro k hk e
    have e2 : nI c = nI (10000 + k) := by
      rw [← nI_add, ← e, show nI 10000 = (10000 : Int32) from rfl, Int32.add_comm, Int32.sub_add_cancel]
    have : c ≤ 10148 := by rcases opc_cases hc with q | q | q | q | q | q <;> omega
    exact (nI_eq (by omega) (by omega)).mp e2
  unfold fX5_operand opv
  rcases opc_cases hc with q | q | q | q | q | q
  · rw [if_neg (fun z => by have := e 144 (by decide) z; omega), if_neg (fun z => by have := e 145 (by decide) z; omega), if_neg (fun z => by have := e 146 (by decide) z; omega), if_neg (fun z => by have := e 147 (by decide) z; omega), if_neg (fun z => by have := e 148 (by decide) z; omega), if_neg (by omega), if_neg (by omega), if_neg (by omega), if_neg (by omega), if_neg (by omega)]
  · subst q; rw [if_pos (by decide), if_pos rfl]
  · subst q; rw [if_neg (by decide), if_pos (by decide)]; rfl
  · subst q; rw [if_neg (by decide), if_neg (by decide), if_pos (by decide)]; rfl
  · subst q; rw [if_neg (by decide), if_neg (by decide), if_neg (by decide), if_pos (by decide)]; rfl
  · subst q; rw [if_neg (by decide), if_neg (by decide), if_neg (by decide), if_neg (by decide), if_pos (by decide)]; rfl
theorem c_isop (h : HI) {c : Nat} (hc : c < 20000) : fX5_isOperand h (nI c) = some (b01 (opc c), h) := by
  unfold fX5_isOperand opc
  by_cases q1 : c < 10000
  · rw [if_pos (show nI c < (10000 : Int32) from nI_lt (b := 10000) q1 (by decide)), decide_eq_true q1]; rfl
  · rw [if_neg (show ¬ nI c < (10000 : Int32) from nI_nlt (b := 10000) (by omega) (by omega)), decide_eq_false q1]
    by_cases q2 : 10144 ≤ c
    · rw [if_neg (show ¬ nI c < (10144 : Int32) from nI_nlt (b := 10144) q2 (by omega)), decide_eq_true q2]
      by_cases q3 : c ≤ 10148
      · rw [if_neg (show ¬ (10148 : Int32) < nI c from nI_nlt (a := 10148) q3 (by decide)), decide_eq_true q3]; rfl
      · rw [if_pos (show (10148 : Int32) < nI c from nI_lt (a := 10148) (by omega) (by omega)), decide_eq_false q3]; rfl
    · rw [if_pos (show nI c < (10144 : Int32) from nI_lt (b := 10144) (by omega) (by decide)), decide_eq_false q2]; rfl
theorem nI_m1 {k : Nat} (h : 1 ≤ k) : nI k - (1 : Int32) = nI (k - 1) := by
  obtain ⟨j, rfl⟩ : ∃ j, k = j + 1 := ⟨k - 1, by omega⟩
  rw [show (1 : Int32) = 1 from rfl, nI_pred, Nat.add_sub_cancel]
theorem nI_p1 {k : Nat} (h : 1 ≤ k) : nI k + (-1 : Int32) = nI (k - 1) := by
  rw [← nI_m1 h, Int32.sub_eq_add_neg]
theorem not_op : opc 10143 = false := by decide
/-- the class's loop over the steps -/
theorem c_pass_lp {o : Nat} {y n s t : Int32} : ∀ (l : List Nat) (j k : Nat) (f : Nat → Int32) (h : HI) (F : Nat), j + l.length ≤ 400 → h.1 o 2 = nI (j + l.length) → (∀ i, i < l.length → h.1 (o + 1) (j + i) = nI (l.getD i 0)) → (∀ i, i < l.length → l.getD i 0 < 20000) → k ≤ 42 → rt l k = some 1 → (∀ i, i < k → h.1 (o + 2) i = f i) → ∃ h1, fX5_passes_6 o (fun h5 v5 => fX5_passes_165 o h5 v5) (F + (l.length + 1)) h y n s t (nI k) (nI j) = some (b01 (!decide (ev y n s t l k f = 0)), h1) ∧ Fr (fun a _ => a = o + 2) h h1 := by
  intro l
  induction l with
  | nil =>
    intro j k f h F hj hl hr hb hk hw hf
    have hk1 : k = 1 := by rw [rt] at hw; exact Option.some.inj hw
    subst hk1
    refine ⟨h, ?_, Fr.rf⟩
    rw [show F + (([] : List Nat).length + 1) = F + 1 from rfl, fX5_passes_6, hl, if_pos (nI_le (by simp) (by simp; omega))]
    unfold fX5_passes_165
    rw [if_neg (show ¬ nI 1 < (1 : Int32) by decide), show nI 1 - (1 : Int32) = nI 0 from rfl]
    simp (disch := omega) only [gB, nI_clamp]
    rw [hf 0 (by omega), ev]
    by_cases q : f 0 = 0
    · rw [if_pos q, decide_eq_true q]; rfl
    · rw [if_neg q, decide_eq_false q]; rfl
  | cons c l ih =>
    intro j k f h F hj hl hr hb hk hw hf
    have hj2 : j + (l.length + 1) ≤ 400 := hj
    have hc := hb 0 (Nat.zero_lt_succ _)
    have hr0 := hr 0 (Nat.zero_lt_succ _)
    rw [List.getD_cons_zero] at hc hr0
    have hr1 : ∀ i, i < l.length → h.1 (o + 1) (j + 1 + i) = nI (l.getD i 0) := fun i hi => by
      have := hr (i + 1) (Nat.succ_lt_succ hi)
      rw [List.getD_cons_succ] at this
      rw [show j + 1 + i = j + (i + 1) by omega]; exact this
    have hb1 : ∀ i, i < l.length → l.getD i 0 < 20000 := fun i hi => by
      have := hb (i + 1) (Nat.succ_lt_succ hi)
      rw [List.getD_cons_succ] at this
      exact this
    have hl1 : h.1 o 2 = nI (j + 1 + l.length) := by rw [hl]; congr 1; rw [List.length_cons]; omega
    rw [rt] at hw
    rw [show F + ((c :: l).length + 1) = (F + (l.length + 1)) + 1 from rfl, fX5_passes_6, hl, if_neg (nI_ge (by rw [List.length_cons]; omega) (by rw [List.length_cons]; omega)), if_neg (show ¬ (400 : Int32) ≤ nI j from nI_ge (b := 400) (by omega) (by decide)), ev]
    rw [Nat.add_zero j] at hr0
    simp (disch := omega) only [gB, nI_clamp]
    rw [hr0]
    unfold fX5_passes_159 fX5_passes_71
    by_cases q1 : c = 10143
    · rw [if_pos q1] at hw
      by_cases q2 : 1 ≤ k
      · rw [if_pos q2] at hw
        rw [if_pos (show nI c = (10143 : Int32) by rw [q1]; rfl), if_pos q1, if_neg (show ¬ nI k < (1 : Int32) from nI_nlt (b := 1) q2 (by omega)), nI_m1 q2]
        unfold fX5_passes_159
        simp (disch := omega) only [gB, nI_clamp]
        rw [hf (k - 1) (by omega), nI_1]
        have key : ∀ z : Int32, ∃ h1, fX5_passes_6 o (fun h5 v5 => fX5_passes_165 o h5 v5) (F + (l.length + 1)) (uI h (o + 2) (k - 1) z) y n s t (nI k) (nI (j + 1)) = some (b01 (!decide (ev y n s t l k (ud f (k - 1) z) = 0)), h1) ∧ Fr (fun a _ => a = o + 2) h h1 := by
          intro z
          obtain ⟨h1, e1, F1⟩ := ih (j + 1) k (ud f (k - 1) z) (uI h (o + 2) (k - 1) z) F (by omega) (by rw [uI_n (by omega)]; exact hl1) (fun i hi => by rw [uI_n (by omega)]; exact hr1 i hi) hb1 hk hw (fun i hi => by
            by_cases e : i = k - 1
            · rw [e, uI_s, ud_s]
            · rw [uI_n (by omega), ud_n e]; exact hf i hi)
          exact ⟨h1, e1, (Fr.uI (W := fun a _ => a = o + 2) rfl).tr F1⟩
        by_cases q3 : f (k - 1) = 0
        · rw [if_pos q3, if_pos q3]; exact key 1
        · rw [if_neg q3, if_neg q3]; exact key 0
      · rw [if_neg q2] at hw; cases hw
    · rw [if_neg q1] at hw
      rw [if_neg (show ¬ nI c = (10143 : Int32) from fun e => q1 ((nI_eq (b := 10143) (by omega) (by decide)).mp e)), if_neg q1, c_isop h hc, Option.bind_some]
      cases q2 : opc c with
      | true =>
        rw [q2, if_pos rfl] at hw
        by_cases q3 : k < 42
        · rw [if_pos q3] at hw
          rw [if_neg b01t, if_pos rfl, if_neg (nI_ge q3 (by omega)), c_opv h q2, Option.bind_some]
          simp (disch := omega) only [gB, nI_clamp, nI_1]
          obtain ⟨h1, e1, F1⟩ := ih (j + 1) (k + 1) (ud f k (opv y n s t c)) (uI h (o + 2) k (opv y n s t c)) F (by omega) (by rw [uI_n (by omega)]; exact hl1) (fun i hi => by rw [uI_n (by omega)]; exact hr1 i hi) hb1 (by omega) hw (fun i hi => by
            by_cases e : i = k
            · rw [e, uI_s, ud_s]
            · rw [uI_n (by omega), ud_n e]; exact hf i (by omega))
          exact ⟨h1, e1, (Fr.uI (W := fun a _ => a = o + 2) rfl).tr F1⟩
        · rw [if_neg q3] at hw; cases hw
      | false =>
        rw [q2, if_neg (by decide)] at hw
        cases q3 : binc c with
        | false => rw [q3, if_neg (by decide)] at hw; cases hw
        | true =>
          rw [q3, if_pos rfl] at hw
          by_cases q4 : 2 ≤ k
          · rw [if_pos q4] at hw
            rw [if_pos b01f, if_neg (show ¬ (false = true) by decide), if_neg (show ¬ nI k < (2 : Int32) from nI_nlt (b := 2) q4 (by omega)), nI_p1 (by omega), nI_m1 (by omega)]
            simp (disch := omega) only [gB, nI_clamp]
            rw [show k - 1 - 1 = k - 2 by omega, hf (k - 2) (by omega), hf (k - 1) (by omega), c_join h q3, Option.bind_some, nI_1]
            obtain ⟨h1, e1, F1⟩ := ih (j + 1) (k - 1) (ud f (k - 2) (jn c (f (k - 2)) (f (k - 1)))) (uI h (o + 2) (k - 2) (jn c (f (k - 2)) (f (k - 1)))) F (by omega) (by rw [uI_n (by omega)]; exact hl1) (fun i hi => by rw [uI_n (by omega)]; exact hr1 i hi) hb1 (by omega) hw (fun i hi => by
              by_cases e : i = k - 2
              · rw [e, uI_s, ud_s]
              · rw [uI_n (by omega), ud_n e]; exact hf i (by omega))
            exact ⟨h1, e1, (Fr.uI (W := fun a _ => a = o + 2) rfl).tr F1⟩
          · rw [if_neg q4] at hw; cases hw
theorem c_pass {hh : Nat} {d : HD} {h : HI} (R : RU hh d h) (y n s t : Int32) : ∃ h1, fX5_passes (hh + 18) h y n s t = some (b01 (psP d.ru y n s t), h1) ∧ Fr (fun a _ => a = hh + 20) h h1 := by
  obtain ⟨⟨r0, r1, r5⟩, r2, r3, r4⟩ := R
  unfold fX5_passes
  obtain ⟨F, hF⟩ := FU_ge (n := d.ru.length) (by omega)
  rw [hF]
  exact c_pass_lp (o := hh + 18) d.ru 0 0 (fun _ => 0) h F (by omega) (by rw [Nat.zero_add]; exact r2) (fun i hi => by rw [Nat.zero_add]; exact r3 i hi) r5 (by omega) r1 (fun i hi => absurd hi (Nat.not_lt_zero i))
theorem rco_op {c : Nat} (h : opc c = true) : rco c < 6 := by
  rcases opc_cases h with q | q | q | q | q | q
  · unfold rco; rw [if_pos q]; omega
  all_goals subst q; decide
theorem rco_op0 {c : Nat} (h : opc c = true) (h2 : ¬ c < 10000) : rco c ≠ 0 := by
  rcases opc_cases h with q | q | q | q | q | q
  · exact absurd q h2
  all_goals subst q; decide
theorem rco_bin {c : Nat} (h : binc c = true) : 20 ≤ rco c ∧ rco c ≠ 22 ∧ rco c < 30 := by
  rcases binc_cases h with q | q | q | q | q | q | q | q <;> subst q <;> decide
def Rask (h : HI) (y n s t : Int32) : Prop := h.1 109 1 = y ∧ h.1 109 2 = n ∧ h.1 109 3 = s ∧ h.1 109 4 = t ∧ h.1 109 5 = s + t
theorem Rask.op {h : HI} {y n s t : Int32} (R : Rask h y n s t) {c : Nat} (hc : opc c = true) (h2 : ¬ c < 10000) : h.1 109 (rco c) = opv y n s t c := by
  rcases opc_cases hc with q | q | q | q | q | q
  · exact absurd q h2
  all_goals subst q
  · exact R.1
  · exact R.2.1
  · exact R.2.2.1
  · exact R.2.2.2.1
  · exact R.2.2.2.2
theorem opv_n {y n s t : Int32} {c : Nat} (h : c < 10000) : opv y n s t c = nI c := by
  unfold opv
  rw [if_neg (by omega), if_neg (by omega), if_neg (by omega), if_neg (by omega), if_neg (by omega)]
def Wp (a b : Nat) : Prop := a = 108 ∨ a = 109
theorem r_pass_lp {y n s t : Int32} : ∀ (l : List Nat) (j k : Nat) (f : Nat → Int32) (h : HI) (F : Nat), j + l.length ≤ 400 → h.1 101 19 = nI (j + l.length) → (∀ i, i < l.length → h.1 105 (j + i) = nI (rco (l.getD i 0)) ∧ (l.getD i 0 < 10000 → h.1 106 (j + i) = nI (l.getD i 0))) → k ≤ 42 → rt l k = some 1 → Rask h y n s t → (∀ i, i < k → h.1 108 i = f i) → ∃ h1, fX9_isPassed_63 101 (fun h3 => (if (h3.1 108 0) = 0 then some ((0 : Int32), h3) else some ((1 : Int32), h3))) (F + (l.length + 1)) h (nI k) (nI j) = some (b01 (!decide (ev y n s t l k f = 0)), h1) ∧ Fr Wp h h1 := by
  intro l
  induction l with
  | nil =>
    intro j k f h F hj hl hr hk hw ha hf
    have hk1 : k = 1 := by rw [rt] at hw; exact Option.some.inj hw
    subst hk1
    refine ⟨h, ?_, Fr.rf⟩
    rw [show F + (([] : List Nat).length + 1) = F + 1 from rfl, fX9_isPassed_63, hl, if_pos (nI_le (by simp) (by simp; omega)), hf 0 (by omega), ev]
    by_cases q : f 0 = 0
    · rw [if_pos q, decide_eq_true q]; rfl
    · rw [if_neg q, decide_eq_false q]; rfl
  | cons c l ih =>
    intro j k f h F hj hl hr hk hw ha hf
    have hj2 : j + (l.length + 1) ≤ 400 := hj
    have hr0 := hr 0 (Nat.zero_lt_succ _)
    rw [List.getD_cons_zero, Nat.add_zero j] at hr0
    have hr1 : ∀ i, i < l.length → h.1 105 (j + 1 + i) = nI (rco (l.getD i 0)) ∧ (l.getD i 0 < 10000 → h.1 106 (j + 1 + i) = nI (l.getD i 0)) := fun i hi => by
      have := hr (i + 1) (Nat.succ_lt_succ hi)
      rw [List.getD_cons_succ] at this
      rw [show j + 1 + i = j + (i + 1) by omega]
      exact this
    have hl1 : h.1 101 19 = nI (j + 1 + l.length) := by rw [hl]; congr 1; rw [List.length_cons]; omega
    have put : ∀ (p : Nat) (z : Int32) (k2 : Nat) (f2 : Nat → Int32), k2 ≤ 42 → rt l k2 = some 1 → (∀ i, i < k2 → (uI h 108 p z).1 108 i = f2 i) → ∃ h1, fX9_isPassed_63 101 (fun h3 => (if (h3.1 108 0) = 0 then some ((0 : Int32), h3) else some ((1 : Int32), h3))) (F + (l.length + 1)) (uI h 108 p z) (nI k2) (nI (j + 1)) = some (b01 (!decide (ev y n s t l k2 f2 = 0)), h1) ∧ Fr Wp h h1 := by
      intro p z k2 f2 hk2 hw2 hf2
      obtain ⟨h1, e1, F1⟩ := ih (j + 1) k2 f2 (uI h 108 p z) F (by omega) (by rw [uI_n (by omega)]; exact hl1) (fun i hi => by rw [uI_n (by omega), uI_n (by omega)]; exact hr1 i hi) hk2 hw2 (by unfold Rask; rw [uI_n (by omega), uI_n (by omega), uI_n (by omega), uI_n (by omega), uI_n (by omega)]; exact ha) hf2
      exact ⟨h1, e1, (Fr.uI (W := Wp) (Or.inl rfl)).tr F1⟩
    rw [rt] at hw
    rw [show F + ((c :: l).length + 1) = (F + (l.length + 1)) + 1 from rfl, fX9_isPassed_63, hl, if_neg (nI_ge (by rw [List.length_cons]; omega) (by rw [List.length_cons]; omega)), ev]
    unfold fX9_isPassed_208 fX9_isPassed_166 fX9_isPassed_122
    unfold fX9_isPassed_208
    simp (disch := omega) only [gB, nI_clamp, Nat.reduceAdd, hr0.1, nI_1]
    by_cases q1 : c = 10143
    · rw [if_pos q1] at hw
      by_cases q2 : 1 ≤ k
      · rw [if_pos q2] at hw
        have q4 : nI (rco c) = (22 : Int32) := by rw [q1]; rfl
        rw [if_pos (show (20 : Int32) ≤ nI (rco c) by rw [q4]; decide), if_pos q4, if_pos q1, nI_m1 q2]
        simp (disch := omega) only [gB, nI_clamp]
        rw [hf (k - 1) (by omega)]
        have key : ∀ z : Int32, _ := fun z => put (k - 1) z k (ud f (k - 1) z) hk hw (fun i hi => by
            by_cases e : i = k - 1
            · rw [e, uI_s, ud_s]
            · rw [uI_n (by omega), ud_n e]; exact hf i hi)
        by_cases q3 : f (k - 1) = 0
        · rw [if_pos q3, if_pos q3]; exact key 1
        · rw [if_neg q3, if_neg q3]; exact key 0
      · rw [if_neg q2] at hw; cases hw
    · rw [if_neg q1] at hw
      rw [if_neg q1]
      cases q2 : opc c with
      | true =>
        rw [q2, if_pos rfl] at hw
        by_cases q3 : k < 42
        · rw [if_pos q3] at hw
          have q5 := rco_op q2
          rw [if_neg (show ¬ (20 : Int32) ≤ nI (rco c) from nI_ge (b := 20) (by omega) (by decide)), if_pos rfl]
          have key := put k (opv y n s t c) (k + 1) (ud f k (opv y n s t c)) (by omega) hw (fun i hi => by
            by_cases e : i = k
            · rw [e, uI_s, ud_s]
            · rw [uI_n (by omega), ud_n e]; exact hf i (by omega))
          by_cases q6 : c < 10000
          · rw [if_pos (show nI (rco c) = 0 by unfold rco; rw [if_pos q6]; rfl), hr0.2 q6, ← opv_n (y := y) (n := n) (s := s) (t := t) q6]
            exact key
          · rw [if_neg (nI_ne0 (by have := rco_op0 q2 q6; omega) (by omega))]
            simp (disch := omega) only [gB, nI_clamp]
            rw [ha.op q2 q6]
            exact key
        · rw [if_neg q3] at hw; cases hw
      | false =>
        rw [q2, if_neg (by decide)] at hw
        cases q3 : binc c with
        | false => rw [q3, if_neg (by decide)] at hw; cases hw
        | true =>
          rw [q3, if_pos rfl] at hw
          by_cases q4 : 2 ≤ k
          · rw [if_pos q4] at hw
            have q5 := rco_bin q3
            rw [if_pos (show (20 : Int32) ≤ nI (rco c) from nI_le (a := 20) q5.1 (by omega)), if_neg (show ¬ nI (rco c) = (22 : Int32) from fun e => q5.2.1 ((nI_eq (b := 22) (by omega) (by decide)).mp e)), if_neg (show ¬ (false = true) by decide), nI_p1 (by omega), nI_m1 (by omega)]
            simp (disch := omega) only [gB, nI_clamp]
            rw [show k - 1 - 1 = k - 2 by omega, hf (k - 2) (by omega), hf (k - 1) (by omega), r_join h q3, Option.bind_some]
            exact put (k - 2) (jn c (f (k - 2)) (f (k - 1))) (k - 1) (ud f (k - 2) (jn c (f (k - 2)) (f (k - 1)))) (by omega) hw (fun i hi => by
              by_cases e : i = k - 2
              · rw [e, uI_s, ud_s]
              · rw [uI_n (by omega), ud_n e]; exact hf i (by omega))
          · rw [if_neg q4] at hw; cases hw
theorem r_pass {hh : Nat} {d : HD} {h : HI} (R : RU hh d h) (y n s t : Int32) : ∃ h1, fX9_isPassed 101 h y n s (s + t) = some (b01 (psP d.ru y n s t), h1) ∧ Fr Wp h h1 := by
  obtain ⟨⟨r0, r1, r5⟩, r2, r3, r4⟩ := R
  unfold fX9_isPassed
  rcases r4 with ⟨e, e2⟩ | ⟨e, e2, e3⟩
  · rw [if_pos e, e2]
    refine ⟨h, ?_, Fr.rf⟩
    have e4 : psP rdef y n s t = !decide (y ≤ n) := by
      show (!decide ((if y ≤ n then (0 : Int32) else 1) = 0)) = _
      by_cases q : y ≤ n
      · rw [if_pos q, decide_eq_true q]; rfl
      · rw [if_neg q, decide_eq_false q]; rfl
    rw [e4]
    by_cases q : y ≤ n
    · rw [if_pos q, decide_eq_true q]; rfl
    · rw [if_neg q, decide_eq_false q]; rfl
  · rw [if_neg e]
    obtain ⟨F, hF⟩ := FU_ge (n := d.ru.length) (by omega)
    rw [hF, show s + t - s = t by rw [Int32.add_comm, Int32.add_sub_cancel]]
    have g : Fr Wp h (uI (uI (uI (uI (uI h (101 + 8) 1 y) (101 + 8) 2 n) (101 + 8) 3 s) (101 + 8) 4 t) (101 + 8) 5 (s + t)) := ((((Fr.uI (Or.inr rfl)).tr (Fr.uI (Or.inr rfl))).tr (Fr.uI (Or.inr rfl))).tr (Fr.uI (Or.inr rfl))).tr (Fr.uI (Or.inr rfl))
    obtain ⟨h1, e4, F1⟩ := r_pass_lp (y := y) (n := n) (s := s) (t := t) d.ru 0 0 (fun _ => 0) (uI (uI (uI (uI (uI h (101 + 8) 1 y) (101 + 8) 2 n) (101 + 8) 3 s) (101 + 8) 4 t) (101 + 8) 5 (s + t)) F (by omega) (by rw [Nat.zero_add, g.1 _ _ (by unfold Wp; omega)]; exact e2) (fun i hi => by rw [Nat.zero_add, g.1 _ _ (by unfold Wp; omega), g.1 _ _ (by unfold Wp; omega)]; exact e3 i hi) (by omega) r1 ⟨by rw [uI_n (by omega), uI_n (by omega), uI_n (by omega), uI_n (by omega)]; exact uI_s _ _ _ _, by rw [uI_n (by omega), uI_n (by omega), uI_n (by omega)]; exact uI_s _ _ _ _, by rw [uI_n (by omega), uI_n (by omega)]; exact uI_s _ _ _ _, by rw [uI_n (by omega)]; exact uI_s _ _ _ _, uI_s _ _ _ _⟩ (fun i hi => absurd hi (Nat.not_lt_zero i))
    exact ⟨h1, e4, g.tr F1⟩
