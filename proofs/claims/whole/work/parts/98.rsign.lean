/-! signs in the reference, and the whole of e there -/
def nz : List Nat → Nat
  | [] => 0
  | c :: l => nz l + (if c = 0 then 0 else 1)
theorem len_db : ∀ l : List Nat, l.length = deepC l + binC l
  | [] => rfl
  | c :: l => by
    rw [List.length_cons, len_db l, deepC, binC]
    split <;> omega
theorem nz_le : ∀ l : List Nat, nz l ≤ l.length
  | [] => Nat.le_refl _
  | c :: l => by
    have := nz_le l
    rw [nz, List.length_cons]
    split <;> omega
theorem setl_f {r : Nat} : ∀ (st out : List Nat), okS st → okS (setl r out st).2 ∧ (setl r out st).2.length ≤ st.length ∧ (setl r out st).1.length + nz (setl r out st).2 = out.length + nz st ∧ binC (setl r out st).2 ≤ binC st ∧ deepC (setl r out st).2 ≤ deepC st
  | [], out, ok => ⟨ok, Nat.le_refl _, rfl, Nat.le_refl _, Nat.le_refl _⟩
  | c :: st, out, ok => by
    rw [setl]
    split
    · rename_i z
      obtain ⟨a1, a2, a3, a4, a5⟩ := setl_f (r := r) st (out ++ [c]) (fun x hx => ok x (List.mem_cons_of_mem _ hx))
      refine ⟨a1, by rw [List.length_cons]; omega, ?_, ?_, ?_⟩
      · rw [a3, nz, if_neg z.1, List.length_append]; simp; omega
      · rw [binC]; omega
      · rw [deepC]; omega
    · exact ⟨ok, Nat.le_refl _, rfl, Nat.le_refl _, Nat.le_refl _⟩
theorem setl0 : ∀ (st out : List Nat), 0 ∈ st → ∃ l, (setl 0 out st).2 = 0 :: l
  | [], _, h => by cases h
  | c :: st, out, h => by
    rw [setl]
    by_cases z : c = 0
    · rw [if_neg (fun y => y.1 z), z]; exact ⟨st, rfl⟩
    · rw [if_pos ⟨z, Nat.zero_le _⟩]
      refine setl0 st (out ++ [c]) ?_
      rcases List.mem_cons.mp h with y | y
      · exact absurd y.symm z
      · exact y
def Yok (M : YMs) : Prop := (M.1 = 0 ∨ M.1 = 1 ∨ M.1 = 2) ∧ M.2.2.1 ≤ 40 ∧ deepC M.2.2.2.2 ≤ 7 ∧ okS M.2.2.2.2 ∧ (M.1 ≠ 2 → binC M.2.2.2.2 ≤ M.2.2.1 ∧ M.2.2.2.1.length + nz M.2.2.2.2 ≤ 9 * M.2.2.1 + deepC M.2.2.2.2) ∧ (M.1 = 2 → binC M.2.2.2.2 + 1 ≤ M.2.2.1 ∧ M.2.2.2.1.length + nz M.2.2.2.2 + 1 ≤ 9 * M.2.2.1)
theorem Yok.b {M : YMs} (h : Yok M) : M.2.2.2.2.length ≤ 47 ∧ M.2.2.2.1.length ≤ 367 := by
  obtain ⟨h1, h2, h3, h4, h5, h6⟩ := h
  have hl := len_db M.2.2.2.2
  by_cases z : M.1 = 2
  · have := h6 z; omega
  · have := h5 z; omega
theorem isOp_b {c : Nat} (h : isOp c = true) : binc (10000 + c) = true ∧ 10000 + c ≠ 0 ∧ 10000 + c ≠ 10143 := by
  obtain ⟨v, hv, hj⟩ := isOp_j h
  exact ⟨(joint_c hj).1, (rk_j hv hj).2.2.2⟩
theorem Yok_step {B : Nat → Nat} {n : Nat} {M M2 : YMs} (K : Yok M) (e : stepM B n M = .inr M2) : Yok M2 ∧ M2.2.1 = tn B n M.2.1 ∧ tc B n M.2.1 ≠ 0 := by
  obtain ⟨now, p, u, out, st⟩ := M
  obtain ⟨h1, h2, h3, h4, h5, h6⟩ := K
  have h1 : now = 0 ∨ now = 1 ∨ now = 2 := h1
  have h2 : u ≤ 40 := h2
  have h3 : deepC st ≤ 7 := h3
  have h4 : okS st := h4
  have h5 : now ≠ 2 → binC st ≤ u ∧ out.length + nz st ≤ 9 * u + deepC st := h5
  have h6 : now = 2 → binC st + 1 ≤ u ∧ out.length + nz st + 1 ≤ 9 * u := h6
  unfold stepM at e
  show _ ∧ M2.2.1 = tn B n p ∧ tc B n p ≠ 0
  by_cases z2 : now = 2
  · rw [if_pos z2] at e
    have h6 := h6 z2
    unfold sgn at e
    split at e
    · rename_i c
      have c : tc B n p = 41 ∧ 0 ∈ st := c
      obtain ⟨l, hl⟩ := setl0 st out c.2
      obtain ⟨a1, a2, a3, a4, a5⟩ := setl_f (r := 0) st out h4
      cases e
      rw [hl] at a1 a2 a3 a4 a5
      rw [nz, if_pos rfl] at a3
      rw [binC, if_pos (Or.inl rfl)] at a4
      rw [deepC, if_pos (Or.inl rfl)] at a5
      refine ⟨⟨Or.inr (Or.inr rfl), h2, ?_, ?_, fun y => absurd rfl y, fun _ => ?_⟩, rfl, by omega⟩
      · show deepC (setl 0 out st).2.tail ≤ 7
        rw [hl]; show deepC l ≤ 7; omega
      · show okS (setl 0 out st).2.tail
        rw [hl]; exact fun x hx => a1 x (List.mem_cons_of_mem _ hx)
      · show binC (setl 0 out st).2.tail + 1 ≤ u ∧ (setl 0 out st).1.length + nz (setl 0 out st).2.tail + 1 ≤ 9 * u
        rw [hl]
        show binC l + 1 ≤ u ∧ (setl 0 out st).1.length + nz l + 1 ≤ 9 * u
        omega
    · split at e
      · rename_i c1 c2
        have c2 : isOp (tc B n p) = true := c2
        obtain ⟨b1, b2, b3⟩ := isOp_b c2
        have h0 : tc B n p ≠ 0 := fun y => by rw [y] at c2; exact absurd c2 (by decide)
        have fin : ∀ (nw r : Nat), (nw = 0 ∨ nw = 1) → Yok (nw, tn B n p, u, (setl r out st).1, (10000 + tc B n p) :: (setl r out st).2) := by
          intro nw r hnw
          obtain ⟨a1, a2, a3, a4, a5⟩ := setl_f (r := r) st out h4
          refine ⟨by show nw = 0 ∨ nw = 1 ∨ nw = 2; omega, h2, ?_, ?_, fun _ => ?_, fun y => ?_⟩
          · show deepC ((10000 + tc B n p) :: (setl r out st).2) ≤ 7
            rw [deepC_n ⟨b2, b3⟩]; omega
          · show okS ((10000 + tc B n p) :: (setl r out st).2)
            intro x hx
            rcases List.mem_cons.mp hx with y | y
            · rw [y]; exact Or.inr (Or.inr b1)
            · exact a1 x y
          · show binC ((10000 + tc B n p) :: (setl r out st).2) ≤ u ∧ (setl r out st).1.length + nz ((10000 + tc B n p) :: (setl r out st).2) ≤ 9 * u + deepC ((10000 + tc B n p) :: (setl r out st).2)
            rw [binC, if_neg (by omega), nz, if_neg b2]
            omega
          · have y : nw = 2 := y
            omega
        split at e
        · split at e
          · cases e
          · cases e
            exact ⟨fin 1 26 (Or.inr rfl), rfl, h0⟩
        · cases e
          refine ⟨fin _ _ ?_, rfl, h0⟩
          split
          · exact Or.inl rfl
          · exact Or.inr rfl
      · cases e
  · rw [if_neg z2] at e
    have h5 := h5 z2
    unfold opd at e
    split at e
    · rename_i c
      have c : now = 0 ∧ tc B n p = 143 := c
      split at e
      · rename_i c7
        have c7 : deepC st < 7 := c7
        cases e
        refine ⟨⟨Or.inl rfl, h2, ?_, ?_, fun _ => ?_, fun y => by cases y⟩, rfl, by omega⟩
        · show deepC (10143 :: st) ≤ 7
          rw [deepC, if_pos (Or.inr rfl)]; omega
        · show okS (10143 :: st)
          intro x hx
          rcases List.mem_cons.mp hx with y | y
          · exact Or.inr (Or.inl y)
          · exact h4 x y
        · show binC (10143 :: st) ≤ u ∧ out.length + nz (10143 :: st) ≤ 9 * u + deepC (10143 :: st)
          rw [binC, if_pos (Or.inr rfl), nz, if_neg (by decide), deepC, if_pos (Or.inr rfl)]
          omega
      · cases e
    · split at e
      · rename_i c40
        have c40 : tc B n p = 40 := c40
        split at e
        · cases e
        · rename_i c7
          have c7 : ¬ (u = 40 ∨ 7 ≤ deepC st) := c7
          cases e
          refine ⟨⟨Or.inl rfl, by show u + 1 ≤ 40; omega, ?_, ?_, fun _ => ?_, fun y => by cases y⟩, rfl, by omega⟩
          · show deepC (0 :: st) ≤ 7
            rw [deepC, if_pos (Or.inl rfl)]; omega
          · show okS (0 :: st)
            intro x hx
            rcases List.mem_cons.mp hx with y | y
            · exact Or.inl y
            · exact h4 x y
          · show binC (0 :: st) ≤ u + 1 ∧ out.length + nz (0 :: st) ≤ 9 * (u + 1) + deepC (0 :: st)
            rw [binC, if_pos (Or.inl rfl), nz, if_pos rfl, deepC, if_pos (Or.inl rfl)]
            omega
      · split at e
        · rename_i cu
          have cu : tc B n p = 2 ∨ 144 ≤ tc B n p ∧ tc B n p ≤ 148 := cu
          split at e
          · cases e
          · rename_i c7
            have c7 : ¬ u = 40 := c7
            cases e
            refine ⟨⟨Or.inr (Or.inr rfl), by show u + 1 ≤ 40; omega, h3, h4, fun y => absurd rfl y, fun _ => ?_⟩, rfl, by omega⟩
            show binC st + 1 ≤ u + 1 ∧ (out ++ [unC B n p]).length + nz st + 1 ≤ 9 * (u + 1)
            rw [List.length_append]
            simp
            omega
        · cases e
theorem r_signOf {B : Nat → Nat} {n p : Nat} {h : HI} (C : RTk B n p h) : fX9_signOf 101 h = some (if isOp (tc B n p) = true then nI (rco (10000 + tc B n p)) else -1, h) := by
  have hlt := tc_lt B n p
  obtain ⟨k11, k12, k13, k14, k15, k16, k17, k18, k19, k20⟩ := kk2
  have s : ∀ v : Nat, v < 128 → v ≠ 1 → (h.1 101 6 = nI v ↔ tc B n p = v) := fun v hv h1 => so_eq2 C hv h1
  have t : ∀ (v : Nat) (c : Int32) (b : Option (Int32 × HI)), v < 128 → v ≠ 1 → (if h.1 101 6 = nI v then some (c, h) else b) = if tc B n p = v then some (c, h) else b := fun v c b hv h1 => by
    by_cases z : tc B n p = v
    · rw [if_pos z, if_pos ((s v hv h1).mpr z)]
    · rw [if_neg z, if_neg (fun y => z ((s v hv h1).mp y))]
  unfold fX9_signOf
  rw [show (43 : Int32) = nI 43 from rfl, show (45 : Int32) = nI 45 from rfl, show (42 : Int32) = nI 42 from rfl, show (61 : Int32) = nI 61 from rfl, show (60 : Int32) = nI 60 from rfl, show (62 : Int32) = nI 62 from rfl, t 43 _ _ (by decide) (by decide), t 45 _ _ (by decide) (by decide), t 42 _ _ (by decide) (by decide), t 61 _ _ (by decide) (by decide), t 60 _ _ (by decide) (by decide), t 62 _ _ (by decide) (by decide), k14, k13, r_isW C (by decide), Option.bind_some, r_isW C (by decide), Option.bind_some]
  by_cases c : tc B n p = 43
  · rw [if_pos c, c]; rfl
  · rw [if_neg c]
    by_cases c1 : tc B n p = 45
    · rw [if_pos c1, c1]; rfl
    · rw [if_neg c1]
      by_cases c2 : tc B n p = 42
      · rw [if_pos c2, c2]; rfl
      · rw [if_neg c2]
        by_cases c3 : tc B n p = 61
        · rw [if_pos c3, c3]; rfl
        · rw [if_neg c3]
          by_cases c4 : tc B n p = 60
          · rw [if_pos c4, c4]; rfl
          · rw [if_neg c4]
            by_cases c5 : tc B n p = 62
            · rw [if_pos c5, c5]; rfl
            · rw [if_neg c5]
              by_cases c6 : tc B n p = 128 + 14
              · rw [decide_eq_true c6, if_neg b01t, c6]; rfl
              · rw [decide_eq_false c6, if_pos b01f]
                by_cases c7 : tc B n p = 128 + 13
                · rw [decide_eq_true c7, if_neg b01t, c7]; rfl
                · rw [decide_eq_false c7, if_pos b01f]
                  have : ¬ isOp (tc B n p) = true := fun z => by
                    unfold isOp at z
                    simp only [Bool.or_eq_true, decide_eq_true_eq] at z
                    omega
                  rw [if_neg this]
theorem top_rank {st : List Nat} (ok : okS st) (h : HI) : ∃ r, fX9_rank h (topW st) = some (r, h) ∧ (r = 23 ↔ top23 st = true) := by
  cases st with
  | nil => exact ⟨40, rfl, by decide⟩
  | cons c st =>
    by_cases z : c = 0
    · subst z
      exact ⟨40, rfl, ⟨fun y => absurd y (by decide), fun y => absurd (show top23 (0 :: st) = true from y) (show ¬ decide (rk 0 = 23) = true from by decide)⟩⟩
    · have rc := rk_c ((ok c List.mem_cons_self).resolve_left z)
      refine ⟨nI (rk c), rc.1 h, ?_⟩
      show nI (rk c) = nI 23 ↔ decide (rk c = 23) = true
      rw [nI_eq (by omega) (by omega), decide_eq_true_eq]
theorem r_err {B : Nat → Nat} {n p : Nat} {h : HI} (X : TX B n) (C : RTk B n p h) : ∃ g, fX9_wrong 101 h (2 : Int32) = some g ∧ Fr WT h g ∧ RFl (errP B n p).1 (errP B n p).2 g := by
  obtain ⟨g, e, a1, a2, a3, a4⟩ := rt_wrong X C (k := 2) (by decide) (by decide)
  refine ⟨g, a1, a2, ?_⟩
  have := a4 (fun q => (Sum.inl (2, tp B n p) : Sum (Nat × Nat) Nat)) (fun _ => rfl)
  unfold errP
  by_cases z : tc B n p = 3
  · rw [tk3 z] at this
    rw [if_pos z]
    cases this; exact a3
  · rw [tkn z] at this
    rw [if_neg z]
    cases this; exact a3
theorem r_sig {B : Nat → Nat} {n : Nat} {M : YMs} {h : HI} (X : TX B n) (T : TR B n h) (R : YR B n M h) (K : Yok M) : ∃ v g, fX9_sign 101 h = some (v, g) ∧ Fr Wps h g ∧ YRq B n (sgn B n M) v g := by
  obtain ⟨hb1, hb2⟩ := K.b
  obtain ⟨now, p, u, out, st⟩ := M
  obtain ⟨C, Y⟩ := R
  have C : RTk B n p h := C
  have Y : Ym u out st h := Y
  have ok : okS st := K.2.2.2.1
  have hl : st.length ≤ 47 := hb1
  have ho : out.length ≤ 367 := hb2
  have htc := tc_lt B n p
  have hold : ∀ (r nw : Nat) (g1 : HI), Fr Wym h g1 → Ym u (setl r out st).1 (setl r out st).2 g1 → isOp (tc B n p) = true → nw = (if tc B n p = 141 ∨ tc B n p = 142 then 0 else 1) → ∃ v g, fX9_sign_106 101 g1 (nI (rco (10000 + tc B n p))) = some (v, g) ∧ Fr Wps h g ∧ YRq B n (.inr (nw, tn B n p, u, (setl r out st).1, (10000 + tc B n p) :: (setl r out st).2)) v g := by
    intro r nw g1 F1 Y1 hop hnw
    obtain ⟨b1, b2, b3⟩ := isOp_b hop
    have rc := rk_c (Or.inr b1)
    obtain ⟨a1, a2, a3, a4, a5⟩ := setl_f (r := r) st out ok
    obtain ⟨g2, e2, f2, Y2⟩ := r_holdY Y1 (Or.inr (Or.inr b1)) (by omega)
    rw [rc.2.1] at e2
    have F2 := F1.tr f2
    have h3 : tc B n p ≠ 3 := fun z => by rw [z] at hop; exact absurd hop (by decide)
    obtain ⟨g3, e3, f3, C3⟩ := rt_token X (T.rdp F2.ym) (C.y F2) h3
    unfold fX9_sign_106
    rw [if_pos (C.y F1).le, e2, Option.bind_some, e3, Option.bind_some]
    have hv : (if nI (rco (10000 + tc B n p)) = (21 : Int32) then some ((0 : Int32), g3) else (if nI (rco (10000 + tc B n p)) = (20 : Int32) then some ((0 : Int32), g3) else some ((1 : Int32), g3))) = some (nI nw, g3) := by
      unfold isOp at hop
      simp only [Bool.or_eq_true, decide_eq_true_eq] at hop
      rw [hnw]
      rcases hop with z | z | z | z | z | z | z | z <;> rw [z] <;> rfl
    exact ⟨nI nw, g3, hv, F2.ym.tr f3.rdp, rfl, C3, Y2.t f3⟩
  have s41 : h.1 101 6 = (41 : Int32) ↔ tc B n p = 41 := so_eq2 C (c := 41) (by decide) (by decide)
  unfold fX9_sign
  rw [r_signOf C, Option.bind_some]
  have rest : ¬ (tc B n p = 41 ∧ 0 ∈ st) → ∃ v g, fX9_sign_52 101 h (if isOp (tc B n p) = true then nI (rco (10000 + tc B n p)) else -1) = some (v, g) ∧ Fr Wps h g ∧ YRq B n (sgn B n (now, p, u, out, st)) v g := by
    intro hn
    unfold fX9_sign_52 sgn
    rw [if_neg hn]
    by_cases hop : isOp (tc B n p) = true
    · obtain ⟨b1, b2, b3⟩ := isOp_b hop
      have rc := rk_c (Or.inr b1)
      have rk' : fX9_rank h (nI (rco (10000 + tc B n p))) = some (nI (rk (10000 + tc B n p)), h) := by rw [← rc.2.1]; exact rc.1 h
      rw [if_pos hop, if_pos hop, if_pos (nI_pos' (by omega)), rk', Option.bind_some]
      by_cases c23 : rk (10000 + tc B n p) = 23
      · rw [if_pos (show nI (rk (10000 + tc B n p)) = (23 : Int32) by rw [c23]; rfl), if_pos (show rk (10000 + tc B n p) = 23 from c23)]
        obtain ⟨g1, e1, f1, Y1⟩ := r_settle (r := 26) (by decide) Y ok (by omega) (by omega)
        have e1' : fX9_settle 101 h (26 : Int32) = some g1 := e1
        obtain ⟨a1, a2, a3, a4, a5⟩ := setl_f (r := 26) st out ok
        obtain ⟨r9, e9, e10⟩ := top_rank a1 g1
        rw [e1', Option.bind_some, r_upY Y1 (by omega), Option.bind_some, e9, Option.bind_some]
        by_cases ct : top23 (setl 26 out st).2 = true
        · obtain ⟨g2, a6, a7, a8⟩ := r_err X (C.y f1)
          rw [if_pos (e10.mpr ct), a6, Option.bind_some, if_pos ct]
          unfold fX9_sign_106
          rw [if_neg a8.f.1]
          exact ⟨_, g2, rfl, f1.ym.tr a7.rdp, a8⟩
        · rw [if_neg (fun z => ct (e10.mp z)), if_neg ct]
          refine hold 26 1 g1 f1 Y1 hop ?_
          rw [if_neg]
          intro z
          rcases z with z | z
          · rw [z] at c23; exact absurd c23 (by decide)
          · rw [z] at c23; exact absurd c23 (by decide)
      · rw [if_neg (show ¬ nI (rk (10000 + tc B n p)) = (23 : Int32) from fun z => c23 ((nI_eq (b := 23) (by omega) (by decide)).mp z)), if_neg (show ¬ rk (10000 + tc B n p) = 23 from c23), rk', Option.bind_some]
        obtain ⟨g1, e1, f1, Y1⟩ := r_settle (r := rk (10000 + tc B n p)) (by omega) Y ok (by omega) (by omega)
        rw [e1, Option.bind_some]
        exact hold _ _ g1 f1 Y1 hop rfl
    · obtain ⟨g2, a6, a7, a8⟩ := r_err X C
      rw [if_neg hop, if_neg hop, if_neg (show ¬ (0 : Int32) ≤ -1 by decide), a6, Option.bind_some]
      exact ⟨_, g2, rfl, a7.rdp, a8⟩
  by_cases c41 : tc B n p = 41
  · rw [if_pos (s41.mpr c41), r_open Y ok (by omega), Option.bind_some]
    by_cases c0 : 0 ∈ st
    · rw [decide_eq_true c0, if_neg b01t]
      obtain ⟨g1, e1, f1, Y1⟩ := r_settle (r := 0) (by decide) Y ok (by omega) (by omega)
      have e1' : fX9_settle 101 h (0 : Int32) = some g1 := e1
      obtain ⟨l, hl0⟩ := setl0 st out c0
      obtain ⟨a1, a2, a3, a4, a5⟩ := setl_f (r := 0) st out ok
      rw [e1', Option.bind_some]
      unfold sgn
      rw [if_pos ⟨c41, c0⟩]
      show ∃ v g, _ ∧ _ ∧ YRq B n (.inr (2, tn B n p, u, (setl 0 out st).1, (setl 0 out st).2.tail)) v g
      rw [hl0] at Y1 a2 ⊢
      obtain ⟨y1, y2, y3, y4, y5, y6⟩ := Y1
      have hll : l.length + 1 ≤ st.length := a2
      have y4' : g1.1 101 21 = nI (l.length + 1) := y4
      have y6' : g1.1 101 22 = nI (deepC l + 1) := y6
      have hdl := len_db l
      rw [y4', nI_m1 (by omega), Nat.add_sub_cancel]
      have F2 : Fr (fun a b => a = 101 ∧ (b = 21 ∨ b = 22)) g1 (uI (uI g1 101 21 (nI l.length)) 101 22 ((uI g1 101 21 (nI l.length)).1 101 22 - 1)) := (Fr.uI (by omega)).tr (Fr.uI (by omega))
      have v21 : (uI (uI g1 101 21 (nI l.length)) 101 22 ((uI g1 101 21 (nI l.length)).1 101 22 - 1)).1 101 21 = nI l.length := by rw [uI_n (by omega), uI_s]
      have v22 : (uI (uI g1 101 21 (nI l.length)) 101 22 ((uI g1 101 21 (nI l.length)).1 101 22 - 1)).1 101 22 = nI (deepC l) := by rw [uI_s, uI_n (by omega), y6', nI_m1 (by omega), Nat.add_sub_cancel]
      have ex : (uI g1 101 21 (nI l.length)).1 101 22 = g1.1 101 22 := uI_n (by omega)
      rw [ex] at F2 v21 v22
      generalize uI (uI g1 101 21 (nI l.length)) 101 22 (g1.1 101 22 - 1) = g2 at F2 v21 v22
      have Y2 : Ym u (setl 0 out st).1 l g2 := ⟨(F2.1 _ _ (by omega)).trans y1, (F2.1 _ _ (by omega)).trans y2, y3.keep F2 (fun b _ => by omega), v21, y5.2.keep F2 (fun b _ => by omega), v22⟩
      have FF : Fr Wym h g2 := f1.tr (F2.mono fun a b z => by unfold Wym; omega)
      obtain ⟨g3, e3, f3, C3⟩ := rt_token X (T.rdp FF.ym) (C.y FF) (by omega)
      rw [e3, Option.bind_some]
      exact ⟨_, g3, rfl, FF.ym.tr f3.rdp, rfl, C3, Y2.t f3⟩
    · rw [decide_eq_false c0, if_pos b01f]
      exact rest (fun z => c0 z.2)
  · rw [if_neg (fun z => c41 (s41.mp z))]
    exact rest (fun z => c41 z.1)
theorem r_stM {B : Nat → Nat} {n : Nat} {M : YMs} {h : HI} (X : TX B n) (T : TR B n h) (R : YR B n M h) (K : Yok M) (hd : ¬ doneM B n M) : ∃ v g, (∀ k F, fX9_readPass_21 101 k (F + 1) h (nI M.1) = fX9_readPass_21 101 k F g v) ∧ Fr Wps h g ∧ YRq B n (stepM B n M) v g := by
  obtain ⟨hb1, hb2⟩ := K.b
  have hK := K
  obtain ⟨h1, h2, h3, h4, h5, h6⟩ := K
  unfold stepM
  by_cases z2 : M.1 = 2
  · obtain ⟨v, g, a1, a2, a3⟩ := r_sig X T R hK
    rw [if_pos z2]
    refine ⟨v, g, fun k F => ?_, a2, a3⟩
    rw [fX9_readPass_21, if_pos R.1.f, if_pos (show nI M.1 = (2 : Int32) by rw [z2]; rfl), r_open R.2 h4 (by omega), Option.bind_some]
    unfold fX9_readPass_49 fX9_readPass_66
    rw [if_pos (show nI M.1 = (2 : Int32) by rw [z2]; rfl), a1, Option.bind_some]
    by_cases c0 : 0 ∈ M.2.2.2.2
    · rw [decide_eq_true c0, if_neg b01t]
    · rw [decide_eq_false c0, if_pos b01f, if_neg (show ¬ h.1 101 6 = (59 : Int32) from fun y => hd ⟨z2, c0, (so_eq2 R.1 (c := 59) (by decide) (by decide)).mp y⟩)]
  · obtain ⟨v, g, a1, a2, a3⟩ := r_opd X T R (by omega) h2 (by omega) (by omega) (by omega)
    rw [if_neg z2]
    have hne : ¬ nI M.1 = (2 : Int32) := fun y => z2 ((nI_eq (b := 2) (by omega) (by decide)).mp y)
    refine ⟨v, g, fun k F => ?_, a2, a3⟩
    rw [fX9_readPass_21, if_pos R.1.f, if_neg hne]
    unfold fX9_readPass_49 fX9_readPass_66
    rw [if_neg hne, a1, Option.bind_some]
theorem r_runY {B : Nat → Nat} {n : Nat} (X : TX B n) : ∀ (j : Nat) (M : YMs) (R : Sum (Nat × Nat) YMs) (h : HI), RchN B n j M R → TR B n h → YR B n M h → Yok M → ∃ v g, (∀ k F, fX9_readPass_21 101 k (F + j) h (nI M.1) = fX9_readPass_21 101 k F g v) ∧ Fr Wps h g ∧ YRq B n R v g ∧ (∀ M2, R = .inr M2 → Yok M2) ∧ M.2.1 + j ≤ n + 1
  | 0, M, R, h, e, T, Y, K => by
    have e : R = .inr M := e
    subst e
    refine ⟨nI M.1, h, fun k F => rfl, Fr.rf, ⟨rfl, Y⟩, fun M2 z => by cases z; exact K, ?_⟩
    have := Y.1.1; omega
  | j + 1, M, R, h, e, T, Y, K => by
    obtain ⟨nd, e⟩ := e
    obtain ⟨v, g, a1, a2, a3⟩ := r_stM X T Y K nd
    rcases e with ⟨e, b1, b2, b3⟩ | ⟨M2, b1, b2⟩
    · subst b2 b3
      rw [b1] at a3
      have := Y.1.1
      exact ⟨v, g, fun k F => a1 k F, a2, a3, (fun M2 z => by cases z), by omega⟩
    · rw [b1] at a3
      obtain ⟨K2, p2, p0⟩ := Yok_step K b1
      obtain ⟨v2, g2, c1, c2, c3, c4, c5⟩ := r_runY X j M2 R g b2 (T.rdp a2) a3.2 K2
      have hlt := tn_gt p0
      refine ⟨v2, g2, fun k F => ?_, a2.tr c2, c3, c4, by omega⟩
      rw [show F + (j + 1) = (F + j) + 1 by omega, a1, a3.1, c1]
