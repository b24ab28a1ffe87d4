/-! the pile of waiting signs in the reference -/
def wco (c : Nat) : Nat := if c = 0 then 40 else rco c
def Stk : List Nat → HI → Prop
  | [], _ => True
  | c :: st, h => h.1 107 st.length = nI (wco c) ∧ Stk st h
def Nts (out : List Nat) (h : HI) : Prop := ∀ i, i < out.length → h.1 103 i = nI (rco (out.getD i 0)) ∧ (out.getD i 0 < 10000 → h.1 104 i = nI (out.getD i 0))
def Ym (u : Nat) (out st : List Nat) (h : HI) : Prop := h.1 101 18 = nI u ∧ h.1 101 17 = nI out.length ∧ Nts out h ∧ h.1 101 21 = nI st.length ∧ Stk st h ∧ h.1 101 22 = nI (deepC st)
def Wym (a b : Nat) : Prop := a = 103 ∨ a = 104 ∨ a = 107 ∨ a = 101 ∧ (b = 17 ∨ b = 18 ∨ b = 21 ∨ b = 22)
def Wps (a b : Nat) : Prop := WT a b ∨ Wym a b
theorem Fr.ym {h g : HI} (F : Fr Wym h g) : Fr Wps h g := F.mono fun _ _ z => Or.inr z
theorem Fr.rdp {h g : HI} (F : Fr WT h g) : Fr Wps h g := F.mono fun _ _ z => Or.inl z
theorem Fr.ps {h g : HI} (F : Fr Wps h g) : Fr Wrd h g := F.mono fun a b z => by unfold Wps WT Wym at z; unfold Wrd Wtl WT; omega
theorem TR.rdp {B : Nat → Nat} {n : Nat} {h g : HI} (T : TR B n h) (F : Fr Wps h g) : TR B n g := T.rd F.ps
theorem Stk.keep {h g : HI} {W : Nat → Nat → Prop} (F : Fr W h g) : ∀ {st : List Nat}, (∀ b, b < st.length → ¬ W 107 b) → Stk st h → Stk st g
  | [], _, _ => trivial
  | c :: st, hd, s => ⟨(F.1 _ _ (hd _ (by simp))).trans s.1, Stk.keep F (fun b hb => hd b (by simp; omega)) s.2⟩
theorem Ym.t {u : Nat} {out st : List Nat} {h g : HI} (R : Ym u out st h) (F : Fr WT h g) : Ym u out st g := by
  obtain ⟨r1, r2, r3, r4, r5, r6⟩ := R
  refine ⟨(F.1 _ _ (by unfold WT; omega)).trans r1, (F.1 _ _ (by unfold WT; omega)).trans r2, fun i hi => ⟨(F.1 _ _ (by unfold WT; omega)).trans (r3 i hi).1, fun z => (F.1 _ _ (by unfold WT; omega)).trans ((r3 i hi).2 z)⟩, (F.1 _ _ (by unfold WT; omega)).trans r4, r5.keep F (fun b _ => by unfold WT; omega), (F.1 _ _ (by unfold WT; omega)).trans r6⟩
def okS (st : List Nat) : Prop := ∀ c, c ∈ st → c = 0 ∨ c = 10143 ∨ binc c = true
theorem rk_c {c : Nat} (h : c = 10143 ∨ binc c = true) : (∀ h : HI, fX9_rank h (nI (wco c)) = some (nI (rk c), h)) ∧ wco c = rco c ∧ rco c < 40 ∧ 20 ≤ rco c ∧ rk c < 30 ∧ c ≠ 0 ∧ 10000 ≤ c ∧ (rco c = 22 ↔ c = 10143) := by
  rcases h with z | z
  · subst z; exact ⟨fun h => rfl, by decide, by decide, by decide, by decide, by decide, by decide, by decide⟩
  · rcases binc_cases z with e | e | e | e | e | e | e | e <;> subst e <;> exact ⟨fun h => rfl, by decide, by decide, by decide, by decide, by decide, by decide, by decide⟩
def topW : List Nat → Int32
  | [] => nI 40
  | c :: _ => nI (wco c)
theorem r_upY {u : Nat} {st out : List Nat} {h : HI} (R : Ym u out st h) (hl : st.length < 300) : fX9_upper 101 h = some (topW st, h) := by
  obtain ⟨r1, r2, r3, r4, r5, r6⟩ := R
  unfold fX9_upper
  rw [r4]
  cases st with
  | nil => rw [if_pos (show nI ([] : List Nat).length = 0 from rfl)]; rfl
  | cons c st =>
    have e : (c :: st).length = st.length + 1 := rfl
    rw [e] at hl ⊢
    rw [if_neg (nI_ne0 (by omega) (by omega)), nI_m1 (by omega), show st.length + 1 - 1 = st.length by omega]
    simp (disch := omega) only [gB, nI_clamp]
    rw [show h.1 (101 + 6) st.length = nI (wco c) from r5.1]
    rfl
theorem Nts.ap {out : List Nat} {c : Nat} {h : HI} (R : Nts out h) (h1 : h.1 103 out.length = nI (rco c)) (h2 : c < 10000 → h.1 104 out.length = nI c) : Nts (out ++ [c]) h := by
  intro i hi
  rw [List.length_append] at hi
  simp at hi
  rw [getD_app]
  by_cases z : i = out.length
  · rw [if_pos z, z]; exact ⟨h1, h2⟩
  · rw [if_neg z]; exact R i (by omega)
theorem Nts.keep {out : List Nat} {h g : HI} {W : Nat → Nat → Prop} (R : Nts out h) (F : Fr W h g) (hd : ∀ b, b < out.length → ¬ W 103 b ∧ ¬ W 104 b) : Nts out g := fun i hi => ⟨(F.1 _ _ (hd i hi).1).trans (R i hi).1, fun z => (F.1 _ _ (hd i hi).2).trans ((R i hi).2 z)⟩
theorem r_note {u c : Nat} {v : Int32} {out st : List Nat} {h : HI} (R : Ym u out st h) (hl : out.length < 640) (hv : c < 10000 → v = nI c) : ∃ g, fX9_note 101 h (nI (rco c)) v = some g ∧ Fr (fun a b => (a = 103 ∨ a = 104) ∧ b = out.length ∨ a = 101 ∧ b = 17) h g ∧ Ym u (out ++ [c]) st g := by
  obtain ⟨r1, r2, r3, r4, r5, r6⟩ := R
  unfold fX9_note
  rw [r2]
  simp (disch := omega) only [gB, nI_clamp, nI_1, Nat.reduceAdd]
  have F : Fr (fun a b => (a = 103 ∨ a = 104) ∧ b = out.length ∨ a = 101 ∧ b = 17) h (uI (uI (uI h 103 out.length (nI (rco c))) 104 out.length v) 101 17 (nI (out.length + 1))) := ((Fr.uI (by omega)).tr (Fr.uI (by omega))).tr (Fr.uI (by omega))
  refine ⟨_, rfl, F, (F.1 _ _ (by omega)).trans r1, by rw [uI_s, List.length_append]; rfl, ?_, (F.1 _ _ (by omega)).trans r4, r5.keep F (fun b _ => by omega), (F.1 _ _ (by omega)).trans r6⟩
  refine (r3.keep F (fun b hb => by omega)).ap ?_ (fun z => ?_)
  · rw [uI_n (by omega), uI_n (by omega), uI_s]
  · rw [uI_n (by omega), uI_s]; exact hv z
theorem r_popY {u c : Nat} {out st : List Nat} {h : HI} (R : Ym u out (c :: st) h) (hc : c = 10143 ∨ binc c = true) (hl : st.length < 299) (ho : out.length < 640) : ∃ g, fX9_pop 101 h = some g ∧ Fr Wym h g ∧ Ym u (out ++ [c]) st g := by
  obtain ⟨r1, r2, r3, r4, r5, r6⟩ := R
  have rc := rk_c hc
  unfold fX9_pop fX9_pop_34
  have e : (c :: st).length = st.length + 1 := rfl
  rw [r4, e, nI_m1 (by omega), show st.length + 1 - 1 = st.length by omega]
  simp (disch := omega) only [gB, nI_clamp]
  rw [show h.1 (101 + 6) st.length = nI (wco c) from r5.1, rc.2.1]
  have fin : ∀ g1 : HI, Fr (fun a b => a = 101 ∧ (b = 21 ∨ b = 22)) h g1 → g1.1 101 21 = nI st.length → g1.1 101 22 = nI (deepC st) → ∃ g, (if inB (g1.1 101 21) 300 then ((fX9_note 101 g1 (g1.1 (101 + 6) ((g1.1 101 21).toNatClampNeg)) (0 : Int32)).bind fun h1 => some h1) else none) = some g ∧ Fr Wym h g ∧ Ym u (out ++ [c]) st g := by
    intro g1 F1 v21 v22
    have Y1 : Ym u out st g1 := ⟨(F1.1 _ _ (by omega)).trans r1, (F1.1 _ _ (by omega)).trans r2, r3.keep F1 (fun b _ => by omega), v21, r5.2.keep F1 (fun b _ => by omega), v22⟩
    rw [v21]
    simp (disch := omega) only [gB, nI_clamp]
    rw [F1.1 _ _ (by omega), show h.1 (101 + 6) st.length = nI (wco c) from r5.1, rc.2.1]
    obtain ⟨g2, a2, f2, Y2⟩ := r_note (c := c) (v := 0) Y1 ho (fun z => by have := rc.2.2.2.2.2.2.1; omega)
    rw [a2, Option.bind_some]
    exact ⟨g2, rfl, (F1.mono fun a b z => by unfold Wym; omega).tr (f2.mono fun a b z => by unfold Wym; omega), Y2⟩
  by_cases z : rco c = 22
  · have zc := rc.2.2.2.2.2.2.2.mp z
    rw [if_pos (show nI (rco c) = (22 : Int32) by rw [z]; rfl)]
    refine fin _ ((Fr.uI (by omega)).tr (Fr.uI (by omega))) (by rw [uI_n (by omega), uI_s]) ?_
    rw [uI_s, r6, deepC, if_pos (Or.inr zc), nI_m1 (by omega), Nat.add_sub_cancel]
  · rw [if_neg (show ¬ nI (rco c) = (22 : Int32) from fun y => z ((nI_eq (b := 22) (by omega) (by decide)).mp y))]
    refine fin _ (Fr.uI (by omega)) (uI_s _ _ _ _) ?_
    rw [uI_n (by omega), r6, deepC, if_neg (fun y => by rcases y with y | y; exact rc.2.2.2.2.2.1 y; exact z (rc.2.2.2.2.2.2.2.mpr y))]; rfl
theorem r_setl {u r : Nat} (hr : r < 100) : ∀ (st out : List Nat) (h : HI) (F : Nat), Ym u out st h → okS st → st.length < 300 → out.length + st.length < 640 → ∃ g, (∀ k, fX9_settle_0 101 k (F + (st.length + 1)) h (nI r) = k g) ∧ Fr Wym h g ∧ Ym u (setl r out st).1 (setl r out st).2 g
  | [], out, h, F, R, ok, hl, ho => by
    refine ⟨h, fun k => ?_, Fr.rf, R⟩
    rw [show F + (([] : List Nat).length + 1) = F + 1 from rfl, fX9_settle_0, r_upY R hl, Option.bind_some, if_pos (show topW [] = (40 : Int32) from rfl)]
  | c :: st, out, h, F, R, ok, hl, ho => by
    have e : (c :: st).length = st.length + 1 := rfl
    rw [e] at hl ho
    have up := r_upY R (by rw [e]; exact hl)
    have up' : fX9_upper 101 h = some (nI (wco c), h) := up
    by_cases c0 : c = 0
    · refine ⟨h, fun k => ?_, Fr.rf, ?_⟩
      · rw [e, show F + (st.length + 1 + 1) = (F + (st.length + 1)) + 1 by omega, fX9_settle_0, up', Option.bind_some, if_pos (show nI (wco c) = (40 : Int32) by rw [c0]; rfl)]
      · rw [setl, if_neg (fun z => z.1 c0)]; exact R
    · have hc : c = 10143 ∨ binc c = true := (ok c List.mem_cons_self).resolve_left c0
      have rc := rk_c hc
      by_cases c1 : r ≤ rk c
      · obtain ⟨g1, a1, f1, Y1⟩ := r_popY R hc (by omega) (by omega)
        obtain ⟨g2, a2, f2, Y2⟩ := r_setl hr st (out ++ [c]) g1 F Y1 (fun x hx => ok x (List.mem_cons_of_mem _ hx)) (by omega) (by rw [List.length_append]; simp; omega)
        refine ⟨g2, fun k => ?_, f1.tr f2, ?_⟩
        · rw [e, show F + (st.length + 1 + 1) = (F + (st.length + 1)) + 1 by omega, fX9_settle_0, up', Option.bind_some, if_neg (show ¬ nI (wco c) = (40 : Int32) from fun z => by have := (nI_eq (b := 40) (by omega) (by decide)).mp z; omega), up', Option.bind_some, rc.1 h, Option.bind_some, if_neg (nI_nlt c1 (by omega)), a1, Option.bind_some, a2 k]
        · rw [setl, if_pos ⟨c0, c1⟩]; exact Y2
      · refine ⟨h, fun k => ?_, Fr.rf, ?_⟩
        · rw [e, show F + (st.length + 1 + 1) = (F + (st.length + 1)) + 1 by omega, fX9_settle_0, up', Option.bind_some, if_neg (show ¬ nI (wco c) = (40 : Int32) from fun z => by have := (nI_eq (b := 40) (by omega) (by decide)).mp z; omega), up', Option.bind_some, rc.1 h, Option.bind_some, if_pos (nI_lt (by omega) (by omega))]
        · rw [setl, if_neg (fun z => c1 z.2)]; exact R
theorem r_settle {u r : Nat} {st out : List Nat} {h : HI} (hr : r < 100) (R : Ym u out st h) (ok : okS st) (hl : st.length < 300) (ho : out.length + st.length < 640) : ∃ g, fX9_settle 101 h (nI r) = some g ∧ Fr Wym h g ∧ Ym u (setl r out st).1 (setl r out st).2 g := by
  obtain ⟨F, hF⟩ := FU_ge (n := st.length) (by omega)
  obtain ⟨g, a1, a2, a3⟩ := r_setl hr st out h F R ok hl ho
  unfold fX9_settle
  rw [hF, a1]
  exact ⟨g, rfl, a2, a3⟩
theorem Stk_op {h : HI} : ∀ {st : List Nat}, okS st → Stk st h → anyB (fun i => decide (h.1 107 i = 40)) st.length = decide (0 ∈ st)
  | [], _, _ => rfl
  | c :: st, ok, s => by
    rw [show (c :: st).length = st.length + 1 from rfl, anyB, Stk_op (fun x hx => ok x (List.mem_cons_of_mem _ hx)) s.2, s.1]
    by_cases c0 : c = 0
    · rw [decide_eq_true (show nI (wco c) = (40 : Int32) by rw [c0]; rfl), Bool.or_true, decide_eq_true (by rw [c0]; exact List.mem_cons_self)]
    · have rc := rk_c ((ok c List.mem_cons_self).resolve_left c0)
      rw [decide_eq_false (show ¬ nI (wco c) = (40 : Int32) from fun z => by have := (nI_eq (b := 40) (by omega) (by decide)).mp z; omega), Bool.or_false]
      refine decide_eq_decide.mpr ⟨fun z => List.mem_cons_of_mem _ z, fun z => ?_⟩
      rcases List.mem_cons.mp z with y | y
      · exact absurd y.symm c0
      · exact y
theorem r_open {u : Nat} {st out : List Nat} {h : HI} (R : Ym u out st h) (ok : okS st) (hl : st.length < 300) : fX9_isOpen 101 h = some (b01 (decide (0 ∈ st)), h) := by
  obtain ⟨r1, r2, r3, r4, r5, r6⟩ := R
  unfold fX9_isOpen
  obtain ⟨F, hL⟩ := lpd (fun n (p : Int32 × Int32) => fX9_isOpen_4 101 (fun h2 v1 => (if v1 = 0 ∨ v1 = 1 then some (v1, h2) else none)) n h p.1 p.2) (fun j => (b01 (anyB (fun i => decide (h.1 107 i = 40)) j), nI j)) st.length (by omega) (by
    intro j hj n
    show fX9_isOpen_4 101 _ (n + 1) h (b01 (anyB _ j)) (nI j) = fX9_isOpen_4 101 _ n h (b01 (anyB _ (j + 1))) (nI (j + 1))
    rw [fX9_isOpen_4, r4, if_neg (nI_ge hj (by omega)), anyB]
    unfold fX9_isOpen_27 fX9_isOpen_32
    rw [nI_1]
    cases anyB (fun i => decide (h.1 107 i = 40)) j with
    | true => rw [if_neg b01t]; rfl
    | false =>
      rw [if_pos b01f, Bool.false_or]
      simp (disch := omega) only [gB, nI_clamp, Nat.reduceAdd]
      by_cases c : h.1 107 j = 40
      · rw [if_pos c, decide_eq_true c]; rfl
      · rw [if_neg c, decide_eq_false c]; rfl)
  simp only at hL
  change fX9_isOpen_4 101 _ FU h 0 0 = _ at hL
  rw [hL, fX9_isOpen_4, r4, if_pos (nI_le (Nat.le_refl _) (by omega)), Stk_op ok r5]
  cases decide (0 ∈ st) with
  | true => rw [if_pos (by decide)]
  | false => rw [if_pos (by decide)]
theorem r_holdY {u c : Nat} {out st : List Nat} {h : HI} (R : Ym u out st h) (hc : c = 0 ∨ c = 10143 ∨ binc c = true) (hl : st.length < 300) : ∃ g, fX9_hold 101 h (nI (wco c)) = some g ∧ Fr Wym h g ∧ Ym u out (c :: st) g := by
  obtain ⟨r1, r2, r3, r4, r5, r6⟩ := R
  unfold fX9_hold fX9_hold_32
  rw [r4]
  simp (disch := omega) only [gB, nI_clamp, nI_1, Nat.reduceAdd]
  have F1 : Fr (fun a b => a = 107 ∧ b = st.length ∨ a = 101 ∧ b = 21) h (uI (uI h 107 st.length (nI (wco c))) 101 21 (nI (st.length + 1))) := (Fr.uI (by omega)).tr (Fr.uI (by omega))
  have v1 : (uI (uI h 107 st.length (nI (wco c))) 101 21 (nI (st.length + 1))).1 107 st.length = nI (wco c) := by rw [uI_n (by omega), uI_s]
  have v2 : (uI (uI h 107 st.length (nI (wco c))) 101 21 (nI (st.length + 1))).1 101 21 = nI (st.length + 1) := uI_s _ _ _ _
  generalize uI (uI h 107 st.length (nI (wco c))) 101 21 (nI (st.length + 1)) = g1 at F1 v1 v2
  have base : ∀ g : HI, Fr (fun a b => a = 101 ∧ b = 22) g1 g → g.1 101 22 = nI (deepC (c :: st)) → Fr Wym h g ∧ Ym u out (c :: st) g := by
    intro g F2 v22
    have F3 : Fr (fun a b => a = 107 ∧ b = st.length ∨ a = 101 ∧ (b = 21 ∨ b = 22)) h g := (F1.mono fun a b z => by omega).tr (F2.mono fun a b z => by omega)
    exact ⟨F3.mono fun a b z => by unfold Wym; omega, (F3.1 _ _ (by omega)).trans r1, (F3.1 _ _ (by omega)).trans r2, r3.keep F3 (fun b _ => by omega), (F2.1 _ _ (by omega)).trans v2, ⟨(F2.1 _ _ (by omega)).trans v1, r5.keep F3 (fun b hb => by omega)⟩, v22⟩
  have up : c = 0 ∨ c = 10143 → ∃ g, (some (uI g1 101 22 ((g1.1 101 22) + (1 : Int32))) : Option HI) = some g ∧ Fr Wym h g ∧ Ym u out (c :: st) g := fun z => by
    obtain ⟨b1, b2⟩ := base (uI g1 101 22 ((g1.1 101 22) + (1 : Int32))) (Fr.uI (by omega)) (by rw [uI_s, F1.1 _ _ (by omega), r6, nI_1, deepC, if_pos z])
    exact ⟨_, rfl, b1, b2⟩
  rcases hc with z | z | z
  · rw [if_pos (show nI (wco c) = (40 : Int32) by rw [z]; rfl)]
    exact up (Or.inl z)
  · rw [if_neg (show ¬ nI (wco c) = (40 : Int32) by rw [z]; decide), if_pos (show nI (wco c) = (22 : Int32) by rw [z]; rfl)]
    exact up (Or.inr z)
  · have rc := rk_c (Or.inr z)
    have hne : ¬ c = 10143 := fun y => by have := binc_cases z; omega
    rw [if_neg (show ¬ nI (wco c) = (40 : Int32) from fun y => by have := (nI_eq (b := 40) (by omega) (by decide)).mp y; omega), if_neg (show ¬ nI (wco c) = (22 : Int32) from fun y => by have := (nI_eq (b := 22) (by omega) (by decide)).mp y; exact hne (rc.2.2.2.2.2.2.2.mp (by omega)))]
    obtain ⟨b1, b2⟩ := base g1 Fr.rf (by rw [F1.1 _ _ (by omega), r6, deepC, if_neg (fun y => by rcases y with y | y; exact rc.2.2.2.2.2.1 y; exact hne y)]; rfl)
    exact ⟨g1, rfl, b1, b2⟩
def YR (B : Nat → Nat) (n : Nat) (M : YMs) (h : HI) : Prop := RTk B n M.2.1 h ∧ Ym M.2.2.1 M.2.2.2.1 M.2.2.2.2 h
theorem RTk.y {B : Nat → Nat} {n p : Nat} {h g : HI} (C : RTk B n p h) (F : Fr Wym h g) : RTk B n p g := C.keep F (fun a b p q => by unfold WT at p; unfold Wym at q; omega)
theorem r_known {B : Nat → Nat} {n p : Nat} {h : HI} (C : RTk B n p h) : fX9_known 101 h = some (if 144 ≤ tc B n p ∧ tc B n p ≤ 148 then nI (tc B n p - 143) else -1, h) := by
  have hlt := tc_lt B n p
  obtain ⟨k11, k12, k13, k14, k15, k16, k17, k18, k19, k20⟩ := kk2
  unfold fX9_known
  rw [k16, k17, k18, k19, k20, r_isW C (by decide), Option.bind_some]
  by_cases c : tc B n p = 128 + 16
  · rw [decide_eq_true c, if_neg b01t, if_pos (by omega), c]; rfl
  · rw [decide_eq_false c, if_pos b01f, r_isW C (by decide), Option.bind_some]
    by_cases c : tc B n p = 128 + 17
    · rw [decide_eq_true c, if_neg b01t, if_pos (by omega), c]; rfl
    · rw [decide_eq_false c, if_pos b01f, r_isW C (by decide), Option.bind_some]
      by_cases c : tc B n p = 128 + 18
      · rw [decide_eq_true c, if_neg b01t, if_pos (by omega), c]; rfl
      · rw [decide_eq_false c, if_pos b01f, r_isW C (by decide), Option.bind_some]
        by_cases c : tc B n p = 128 + 19
        · rw [decide_eq_true c, if_neg b01t, if_pos (by omega), c]; rfl
        · rw [decide_eq_false c, if_pos b01f, r_isW C (by decide), Option.bind_some]
          by_cases c : tc B n p = 128 + 20
          · rw [decide_eq_true c, if_neg b01t, if_pos (by omega), c]; rfl
          · rw [decide_eq_false c, if_pos b01f, if_neg (by omega)]
def YRq (B : Nat → Nat) (n : Nat) (r : Sum (Nat × Nat) YMs) (v : Int32) (h : HI) : Prop := match r with
  | .inr M => v = nI M.1 ∧ YR B n M h
  | .inl e => RFl e.1 e.2 h
theorem r_opd {B : Nat → Nat} {n : Nat} {M : YMs} {h : HI} (X : TX B n) (T : TR B n h) (R : YR B n M h) (h1 : M.1 = 0 ∨ M.1 = 1) (hu : M.2.2.1 ≤ 40) (hd : deepC M.2.2.2.2 < 1000) (hl : M.2.2.2.2.length < 300) (ho : M.2.2.2.1.length < 640) : ∃ v g, fX9_operand 101 h (nI M.1) = some (v, g) ∧ Fr Wps h g ∧ YRq B n (opd B n M) v g := by
  obtain ⟨now, p, u, out, st⟩ := M
  obtain ⟨C, Y⟩ := R
  have C : RTk B n p h := C
  have Y : Ym u out st h := Y
  have hu : u ≤ 40 := hu
  have hd : deepC st < 1000 := hd
  have hl : st.length < 300 := hl
  have ho : out.length < 640 := ho
  have h1 : now = 0 ∨ now = 1 := h1
  have htc := tc_lt B n p
  obtain ⟨y1, y2, y3, y4, y5, y6⟩ := Y
  have Y : Ym u out st h := ⟨y1, y2, y3, y4, y5, y6⟩
  -- a fault
  have bad : ∀ (nt kn : Int32), ∃ v g, ((fX9_wrong 101 h (2 : Int32)).bind fun h8 => fX9_operand_103 101 h8 (nI now) nt kn) = some (v, g) ∧ Fr Wps h g ∧ RFl (errP B n p).1 (errP B n p).2 g := by
    intro nt kn
    obtain ⟨g, e, a1, a2, a3, a4⟩ := rt_wrong X C (k := 2) (by decide) (by decide)
    unfold fX9_operand_103
    rw [show (2 : Int32) = nI 2 from rfl, a1, Option.bind_some, if_neg a3.f.1]
    refine ⟨_, g, rfl, a2.rdp, ?_⟩
    have := a4 (fun q => (Sum.inl (2, tp B n p) : Sum (Nat × Nat) Nat)) (fun _ => rfl)
    unfold errP
    by_cases z : tc B n p = 3
    · rw [tk3 z] at this
      rw [if_pos z]
      cases this; exact a3
    · rw [tkn z] at this
      rw [if_neg z]
      cases this; exact a3
  -- a sign that waits, and the next token
  have wait : ∀ (c : Nat) (u2 : Nat) (g1 : HI), Fr Wym h g1 → Ym u2 out st g1 → (c = 0 ∨ c = 10143) → tc B n p ≠ 3 → ∃ v g, ((fX9_hold 101 g1 (nI (wco c))).bind fun h6 => ((fX9_token 101 h6).bind fun h7 => some ((0 : Int32), h7))) = some (v, g) ∧ Fr Wps h g ∧ v = nI 0 ∧ YR B n (0, tn B n p, u2, out, c :: st) g := by
    intro c u2 g1 F1 Y1 hc h3
    obtain ⟨g2, a2, f2, Y2⟩ := r_holdY Y1 (by rcases hc with z | z; exact Or.inl z; exact Or.inr (Or.inl z)) hl
    have F2 := F1.tr f2
    obtain ⟨g3, a3, f3, C3⟩ := rt_token X (T.rdp F2.ym) (C.y F2) h3
    rw [a2, Option.bind_some, a3, Option.bind_some]
    exact ⟨_, g3, rfl, F2.ym.tr f3.rdp, rfl, C3, Y2.t f3⟩
  have s40 : h.1 101 6 = (40 : Int32) ↔ tc B n p = 40 := so_eq2 C (c := 40) (by decide) (by decide)
  have s2 : h.1 101 6 = (2 : Int32) ↔ tc B n p = 2 := so_eq2 C (c := 2) (by decide) (by decide)
  have main : ∀ nt : Bool, (nt = true ↔ now = 0 ∧ tc B n p = 143) → ∃ v g, fX9_operand_19 101 h (nI now) (b01 nt) = some (v, g) ∧ Fr Wps h g ∧ YRq B n (opd B n (now, p, u, out, st)) v g := by
    intro nt hnt
    unfold fX9_operand_19
    rw [r_known C, Option.bind_some]
    unfold opd
    cases nt with
    | true =>
      have hn := hnt.mp rfl
      rw [if_neg (fun z => by have := s2.mp z; omega), if_neg (fun z => by have := s40.mp z; omega), if_neg (show ¬ (144 ≤ tc B n p ∧ tc B n p ≤ 148) by omega), if_pos m1lt, if_pos hn]
      unfold fX9_operand_51 fX9_operand_62 fX9_operand_76 fX9_operand_89 fX9_operand_98
      rw [if_neg b01t, if_pos rfl, if_neg b01t, y6]
      by_cases c7 : deepC st < 7
      · rw [if_pos (show nI (deepC st) < (7 : Int32) from nI_lt (b := 7) c7 (by decide)), if_pos (show deepC st < 7 from c7)]
        unfold fX9_operand_103
        rw [if_pos C.le, if_neg b01t]
        obtain ⟨v, g, b1, b2, b3, b4⟩ := wait 10143 u h Fr.rf Y (Or.inr rfl) (by omega)
        exact ⟨v, g, b1, b2, b3, b4⟩
      · rw [if_neg (show ¬ nI (deepC st) < (7 : Int32) from nI_nlt (b := 7) (by omega) (by omega)), if_neg (show ¬ deepC st < 7 from c7)]
        exact bad _ _
    | false =>
      have hn : ¬ (now = 0 ∧ tc B n p = 143) := fun z => by have := hnt.mpr z; cases this
      rw [if_neg hn]
      by_cases c40 : tc B n p = 40
      · rw [if_neg (fun z => by have := s2.mp z; omega), if_pos (s40.mpr c40), if_pos c40]
        unfold fX9_operand_46 fX9_operand_51 fX9_operand_62 fX9_operand_76 fX9_operand_89 fX9_operand_98
        rw [if_pos b01f, if_neg ne10, if_neg ne10, y1, if_pos b01f, if_pos (s40.mpr c40), y6]
        by_cases c1 : u = 40
        · rw [if_pos (show nI u = (40 : Int32) by rw [c1]; rfl), if_pos (show u = 40 ∨ 7 ≤ deepC st from Or.inl c1)]
          exact bad _ _
        · rw [if_neg (show ¬ nI u = (40 : Int32) from fun z => c1 ((nI_eq (b := 40) (by omega) (by decide)).mp z))]
          by_cases c7 : deepC st < 7
          · rw [if_pos (show nI (deepC st) < (7 : Int32) from nI_lt (b := 7) c7 (by decide)), if_neg (show ¬ (u = 40 ∨ 7 ≤ deepC st) by omega)]
            unfold fX9_operand_103
            rw [if_pos C.le, if_pos b01f, if_pos (s40.mpr c40), y1, nI_1]
            have F1 : Fr (fun a b => a = 101 ∧ b = 18) h (uI h 101 18 (nI (u + 1))) := Fr.uI (by omega)
            obtain ⟨v, g, b1, b2, b3, b4⟩ := wait 0 (u + 1) (uI h 101 18 (nI (u + 1))) (F1.mono fun a b z => by unfold Wym; omega) ⟨uI_s _ _ _ _, (F1.1 _ _ (by omega)).trans y2, y3.keep F1 (fun b _ => by omega), (F1.1 _ _ (by omega)).trans y4, y5.keep F1 (fun b _ => by omega), (F1.1 _ _ (by omega)).trans y6⟩ (Or.inl rfl) (by omega)
            exact ⟨v, g, b1, b2, b3, b4⟩
          · rw [if_neg (show ¬ nI (deepC st) < (7 : Int32) from nI_nlt (b := 7) (by omega) (by omega)), if_pos (show u = 40 ∨ 7 ≤ deepC st by omega)]
            exact bad _ _
      · have e51 : ∀ kn : Int32, (tc B n p = 2 ∨ 144 ≤ tc B n p ∧ tc B n p ≤ 148) → (tc B n p = 2 → kn < 0) → (¬ tc B n p = 2 → kn = nI (tc B n p - 143)) → ∃ v g, fX9_operand_46 101 h (nI now) (b01 false) kn = some (v, g) ∧ Fr Wps h g ∧ YRq B n (if u = 40 then .inl (errP B n p) else .inr (2, tn B n p, u + 1, out ++ [unC B n p], st)) v g := by
          intro kn hun hk1 hk2
          unfold fX9_operand_46 fX9_operand_51 fX9_operand_62 fX9_operand_76 fX9_operand_98
          rw [if_pos b01f, if_neg ne10, if_neg ne10, y1, if_pos b01f, if_neg (fun z => c40 (s40.mp z))]
          by_cases c1 : u = 40
          · rw [if_pos (show nI u = (40 : Int32) by rw [c1]; rfl), if_pos c1]
            exact bad _ _
          · rw [if_neg (show ¬ nI u = (40 : Int32) from fun z => c1 ((nI_eq (b := 40) (by omega) (by decide)).mp z)), if_neg c1]
            unfold fX9_operand_103 fX9_operand_169
            rw [if_pos C.le, if_pos b01f, if_neg (fun z => c40 (s40.mp z)), y1, nI_1]
            have F1 : Fr (fun a b => a = 101 ∧ b = 18) h (uI h 101 18 (nI (u + 1))) := Fr.uI (by omega)
            have Y1 : Ym (u + 1) out st (uI h 101 18 (nI (u + 1))) := ⟨uI_s _ _ _ _, (F1.1 _ _ (by omega)).trans y2, y3.keep F1 (fun b _ => by omega), (F1.1 _ _ (by omega)).trans y4, y5.keep F1 (fun b _ => by omega), (F1.1 _ _ (by omega)).trans y6⟩
            have F1' : Fr Wym h (uI h 101 18 (nI (u + 1))) := F1.mono fun a b z => by unfold Wym; omega
            have C1 := C.y F1'
            generalize uI h 101 18 (nI (u + 1)) = g1 at F1 Y1 F1' C1
            have fin : ∀ s0 : Int32, s0 = nI (rco (unC B n p)) → ∃ v g, ((fX9_note 101 g1 s0 (g1.1 101 8)).bind fun h2 => ((fX9_token 101 h2).bind fun h3 => some ((2 : Int32), h3))) = some (v, g) ∧ Fr Wps h g ∧ YRq B n (.inr (2, tn B n p, u + 1, out ++ [unC B n p], st)) v g := by
              intro s0 hs0
              rw [hs0]
              obtain ⟨g2, a2, f2, Y2⟩ := r_note (c := unC B n p) (v := g1.1 101 8) Y1 ho (fun z => by
                unfold unC at z ⊢
                by_cases y : tc B n p = 2
                · rw [if_pos y]; exact C1.2.2.2.2.1 y
                · rw [if_neg y] at z; omega)
              have F2 : Fr Wym h g2 := F1'.tr (f2.mono fun a b z => by unfold Wym; omega)
              obtain ⟨g3, a3, f3, C3⟩ := rt_token X (T.rdp F2.ym) (C.y F2) (by omega)
              rw [a2, Option.bind_some, a3, Option.bind_some]
              exact ⟨_, g3, rfl, F2.ym.tr f3.rdp, rfl, C3, Y2.t f3⟩
            by_cases c2 : tc B n p = 2
            · rw [if_neg (fun z => by
                have k := hk1 c2
                exact Int32.lt_irrefl (Int32.lt_of_lt_of_le k z))]
              refine fin 0 ?_
              have := tv_lt c2
              unfold unC rco
              rw [if_pos c2, if_pos this]; rfl
            · have hk := hk2 c2
              have hr : 144 ≤ tc B n p ∧ tc B n p ≤ 148 := hun.resolve_left c2
              rw [hk, if_pos (nI_pos' (by omega))]
              refine fin _ ?_
              unfold unC
              rw [if_neg c2]
              rcases (show tc B n p = 144 ∨ tc B n p = 145 ∨ tc B n p = 146 ∨ tc B n p = 147 ∨ tc B n p = 148 by omega) with z | z | z | z | z <;> rw [z] <;> rfl
        rw [if_neg c40]
        by_cases c2 : tc B n p = 2
        · rw [if_pos (s2.mpr c2), if_neg (show ¬ (144 ≤ tc B n p ∧ tc B n p ≤ 148) by omega), if_pos (Or.inl c2)]
          exact e51 (-1) (Or.inl c2) (fun _ => m1lt) (fun z => absurd c2 z)
        · rw [if_neg (fun z => c2 (s2.mp z)), if_neg (fun z => c40 (s40.mp z))]
          by_cases c3 : 144 ≤ tc B n p ∧ tc B n p ≤ 148
          · rw [if_pos c3, if_neg (nI_pos (by omega)), if_pos (Or.inr c3)]
            exact e51 _ (Or.inr c3) (fun z => absurd z c2) (fun _ => rfl)
          · rw [if_neg c3, if_pos m1lt, if_neg (fun z => by rcases z with z | z; exact c2 z; exact c3 z)]
            unfold fX9_operand_51 fX9_operand_98
            rw [if_pos b01f, if_pos rfl]
            exact bad _ _
  unfold fX9_operand fX9_operand_18
  show ∃ v g, (if nI now = 0 then _ else _) = _ ∧ _
  obtain ⟨k11, k12, k13, k14, k15, k16, k17, k18, k19, k20⟩ := kk2
  rw [k15, r_isW C (by decide), Option.bind_some]
  rcases h1 with z | z
  · rw [if_pos (show nI now = 0 by rw [z]; rfl)]
    by_cases c : tc B n p = 128 + 15
    · rw [decide_eq_true c, if_neg b01t]
      exact main true ⟨fun _ => ⟨z, c⟩, fun _ => rfl⟩
    · rw [decide_eq_false c, if_pos b01f]
      exact main false ⟨(fun y => by cases y), fun y => absurd y.2 c⟩
  · rw [if_neg (show ¬ nI now = 0 by rw [z]; decide)]
    exact main false ⟨(fun y => by cases y), fun y => by omega⟩
