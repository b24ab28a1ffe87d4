/-! the line that tells the rule -/
def dPa (d : HD) (u : Nat) (c : List Nat) : HD := (d.C, d.M, d.X, d.D, d.ho, d.st, d.di, d.sl, d.dr, d.wi, d.W, d.dm, d.dx, d.om, d.ox, d.np, u, c)
def sPa (S : TD) (u : Nat) (c : List Nat) : TD := (dPa S.d u c, S.N, S.w, true)
def paE (S : TD) (s : EXs) : Sum (Nat × Nat) (Nat × TD) := .inr (s.1, sPa S s.2.1 s.2.2)
noncomputable def paX (B : Nat → Nat) (n : Nat) (S : TD) (p1 : Nat) : Sum (Nat × Nat) (Nat × TD) := thn (exP B n 200 0 0 (p1, 0, [])) (paE S)
noncomputable def paL (B : Nat → Nat) (n : Nat) (S : TD) (p : Nat) : Sum (Nat × Nat) (Nat × TD) := thn (stP B n S.t p) (paX B n S)
theorem c_paL {q : Nat} {B : Nat → Nat} {n p : Nat} {S : TD} {h : HI} (hq : q + 20 < 53) (hq2 : 2 < q) (X : TX B n) (T : TC B n h) (D : Wd h) (R : PCt q S h) (C : CTk B n p h) : ∃ g, (∀ k : HI → Option HI, ((fX4_startLine 53 1 h (h.1 (q + 18) 4)).bind fun h14 => ((fX5_begin (q + 18) h14).bind fun h15 => ((fX4_expr 53 1 q 200 h15 (0 : Int32) (0 : Int32)).bind fun h16 => k h16))) = k g) ∧ Fr (Wln q) h g ∧ CLq q B n (paL B n S p) g := by
  obtain ⟨r, ⟨r2, r3, r4⟩, r5, r6, r7, r8⟩ := R
  rw [r8]
  obtain ⟨g1, a1, f1, C1⟩ := c_start (r := .inr p) X T D C S.t
  rw [a1]
  unfold fX5_begin
  simp only [Option.bind_some]
  have f2 : Fr (fun a b => a = q + 18 ∧ (b = 4 ∨ b = 3 ∨ b = 2)) g1 (uI (uI (uI g1 (q + 18) 4 1) (q + 18) 3 0) (q + 18) 2 0) := ((Fr.uI (by omega)).tr (Fr.uI (by omega))).tr (Fr.uI (by omega))
  have v4 : (uI (uI (uI g1 (q + 18) 4 1) (q + 18) 3 0) (q + 18) 2 0).1 (q + 18) 4 = 1 := by rw [uI_n (by omega), uI_n (by omega), uI_s]
  have L2 : RLc q 0 [] (uI (uI (uI g1 (q + 18) 4 1) (q + 18) 3 0) (q + 18) 2 0) := ⟨by rw [uI_s]; rfl, fun i hi => absurd hi (Nat.not_lt_zero i), by rw [uI_n (by omega), uI_s]; rfl⟩
  revert f2 v4 L2
  generalize uI (uI (uI g1 (q + 18) 4 1) (q + 18) 3 0) (q + 18) 2 0 = g2
  intro f2 v4 L2
  have F2 : Fr (Wln q) h g2 := f1.ln.tr (f2.mono fun a b z => by unfold Wln Whs; omega)
  unfold paL
  rw [thn_in] at C1
  cases h1 : stP B n S.t p with
  | inl e =>
    rw [h1] at C1
    have Z : CF e.1 e.2 g2 := (show CF e.1 e.2 g1 from C1).keep f2 (fun b z => by omega)
    rw [cf_expr (q := q) (f := 200) g2 _ _ (by decide) Z.f]
    exact ⟨g2, fun k => rfl, F2, Z⟩
  | inr p1 =>
    rw [h1] at C1
    have C2 : CTk B n p1 g2 := (show CTk B n p1 g1 from C1).keep f2 (fun b z => by omega)
    obtain ⟨g3, a3, f3, C3⟩ := c_expr hq hq2 X 200 0 0 (by decide) (by decide) (by decide) (p1, 0, []) g2 ((T.n f1).keep f2 (fun a b y z => by omega)) ((D.n f1).keep f2 (fun a b y z => by omega)) ⟨C2, L2⟩ ⟨Nat.zero_le _, Nat.zero_le _⟩
    have a3' : fX4_expr 53 1 q 200 g2 (0 : Int32) (0 : Int32) = some g3 := a3
    rw [a3']
    have F3 : Fr (Wln q) h g3 := F2.tr (f3.mono fun a b z => by unfold Wex WN at z; unfold Wln WN Whs; omega)
    refine ⟨g3, fun k => rfl, F3, ?_⟩
    rw [thn_in]
    unfold paX
    cases h3 : exP B n 200 0 0 (p1, 0, []) with
    | inl e => rw [h3] at C3; exact C3.1
    | inr s =>
      rw [h3] at C3
      obtain ⟨c1, c2, c3, c4⟩ := C3
      rw [thn_in]
      refine ⟨c1, ?_⟩
      have FF : Fr (fun a b => a = 53 ∨ a = q + 18 ∨ a = q + 19) h g3 := ((f1.mono fun a b z => by unfold WN at z; omega).tr (f2.mono fun a b z => by omega)).tr (f3.mono fun a b z => by unfold Wex WN at z; omega)
      have e := FF.1
      have E4 : g3.1 (q + 18) 4 = 1 := (f3.1 _ _ (by unfold Wex WN; omega)).trans v4
      refine ⟨⟨(e _ _ (by omega)).trans r.C, (e _ _ (by omega)).trans r.M, (e _ _ (by omega)).trans r.X, fun i hi => (e _ _ (by omega)).trans (r.ho i hi), fun i hi => (e _ _ (by omega)).trans (r.st i hi), fun i hi => (e _ _ (by omega)).trans (r.di i hi), fun y hy => ?_, fun i hi => (e _ _ (by omega)).trans (r.li i hi), fun i hi => (e _ _ (by omega)).trans (r.dl i hi), fun i hi => (e _ _ (by omega)).trans (r.dm i hi), fun i hi => (e _ _ (by omega)).trans (r.dx i hi), fun i hi => (e _ _ (by omega)).trans (r.om i hi), fun i hi => (e _ _ (by omega)).trans (r.ox i hi), (e _ _ (by omega)).trans r.sl, (e _ _ (by omega)).trans r.dr, (e _ _ (by omega)).trans r.W, (e _ _ (by omega)).trans r.D, (e _ _ (by omega)).trans r.np, c4⟩, ⟨fun i hi => (FF.2 _ _ (by omega)).trans (r2 i hi), fun i hi => (FF.2 _ _ (by omega)).trans (r3 i hi), fun i hi => (FF.2 _ _ (by omega)).trans (r4 i hi)⟩, fun y hy => (e _ _ (by omega)).trans (r5 y hy), c2, c3, E4⟩
      show _ = Int32.ofInt (wo (dPa S.d s.2.1 s.2.2) y S.d.M)
      rw [e _ _ (by omega), r.wo y hy, wo_cong (d := S.d) (d2 := dPa S.d s.2.1 s.2.2) _ (fun m _ => rfl)]
/-! a line's end -/
def clE (B : Nat → Nat) (n : Nat) (a : Nat × TD) : Sum (Nat × Nat) (Nat × TD) := thn (takeP B n 59 a.1) fun p => .inr (p, a.2)
def clL (B : Nat → Nat) (n : Nat) (r : Sum (Nat × Nat) (Nat × TD)) : Sum (Nat × Nat) (Nat × TD) := thn r (clE B n)
theorem r_cl {B : Nat → Nat} {n : Nat} {r : Sum (Nat × Nat) (Nat × TD)} {h : HI} (X : TX B n) (T : TR B n h) (C : RLq B n r h) : ∃ g, fX9_readLine_187 101 h = some g ∧ Fr WT h g ∧ RLq B n (clL B n r) g := by
  unfold fX9_readLine_187 fX9_readLine_208
  rcases C with ⟨e, e1, e2⟩ | ⟨p, S, e1, e2, e3⟩
  · rw [if_neg e2.f.2, if_neg e2.f.2, e1]
    exact ⟨h, rfl, Fr.rf, Or.inl ⟨e, rfl, e2⟩⟩
  · have t59 : h.1 101 6 = (59 : Int32) ↔ tc B n p = 59 := so_eq2 e2 (c := 59) (by decide) (by decide)
    rw [if_pos e2.f, e1]
    by_cases c : tc B n p = 59
    · obtain ⟨g, a1, a2, a3⟩ := rt_token X T e2 (by omega)
      rw [if_pos (t59.mpr c), if_pos e2.f, a1, Option.bind_some]
      refine ⟨g, rfl, a2, Or.inr ⟨tn B n p, S, ?_, a3, e3.t a2⟩⟩
      rw [tkn (by omega)]
      show thn (takeP B n 59 p) _ = _
      unfold takeP
      rw [if_pos c]; rfl
    · obtain ⟨g, e, a1, a2, a3, a4⟩ := rt_wrong X e2 (k := 2) (by decide) (by decide)
      have a1' : fX9_wrong 101 h (2 : Int32) = some g := a1
      rw [if_neg (fun z => c (t59.mp z)), a1', Option.bind_some, if_neg a3.f.2]
      refine ⟨g, rfl, a2, Or.inl ⟨e, ?_, a3⟩⟩
      have := a4 (fun q => clE B n (q, S)) (fun _ => by
        show thn (takeP B n 59 p) _ = _
        unfold takeP
        rw [if_neg c]; rfl)
      rw [← this]
      unfold clL
      cases tk B n p <;> rfl
theorem c_cl {q : Nat} {B : Nat → Nat} {n : Nat} {r : Sum (Nat × Nat) (Nat × TD)} {h : HI} (hq : q + 20 < 53) (X : TX B n) (T : TC B n h) (D : Wd h) (C : CLq q B n r h) : ∃ g, fX4_line_152 53 1 q h = some g ∧ Fr WN h g ∧ CLq q B n (clL B n r) g := by
  unfold fX4_line_152
  cases r with
  | inl e =>
    have C : CF e.1 e.2 h := C
    rw [cf_take C, Option.bind_some]
    exact ⟨h, rfl, Fr.rf, C⟩
  | inr a =>
    obtain ⟨g, a1, a2, a3⟩ := c_take (r := .inr a.1) X T D C.1 (c := 59) (by decide)
    have a1' : fX4_take 53 1 h (59 : Int32) = some g := a1
    rw [a1', Option.bind_some]
    refine ⟨g, rfl, a2, ?_⟩
    have P := C.2.n hq a2
    show CLq q B n (thn (takeP B n 59 a.1) fun p => .inr (p, a.2)) g
    rw [thn_in] at a3
    cases z : takeP B n 59 a.1 with
    | inl e => rw [z] at a3; exact a3
    | inr p => rw [z] at a3; exact ⟨a3, P⟩
theorem setl_end {out pend : List Nat} (h : ∀ c, c ∈ pend → c ≠ 0) : setl 0 out pend = (out ++ pend, []) := by
  have := setl_pop (r := 0) (st := []) (Or.inl rfl) pend out (fun c hc => ⟨h c hc, Nat.zero_le _⟩)
  rwa [List.append_nil] at this
theorem PRt.pa {S : TD} {h g : HI} {u : Nat} {code : List Nat} (R : PRt S h) (F : Fr (fun a b => Wps a b ∨ a = 101 ∧ b = 47) h g) (Y : Ym u code [] g) (h47 : g.1 101 47 = 1) : PRt (sPa S u code) g := by
  obtain ⟨r_C, r_M, r_X, r_ho, r_st, r_di, r_wi, r_dm, r_dx, r_om, r_ox, r_sl, r_dr, r_w, r_W, r_D, r_np, r_t, r_un, r_n0, r_n1, r_nm⟩ := R
  obtain ⟨y1, y2, y3, y4, y5, y6⟩ := Y
  have e : ∀ a b, (a = 111 ∨ 113 ≤ a ∧ a ≤ 117 ∨ 123 ≤ a ∧ a ≤ 125 ∨ a = 101 ∧ (b = 41 ∨ b = 42 ∨ b = 43) ∨ a = 110) → g.1 a b = h.1 a b ∧ g.2 a b = h.2 a b := fun a b z => ⟨F.1 a b (by unfold Wps WT Wym; omega), F.2 a b (by unfold Wps WT Wym; omega)⟩
  exact ⟨(e _ _ (by omega)).1.trans r_C, (e _ _ (by omega)).1.trans r_M, (e _ _ (by omega)).1.trans r_X, fun i hi => (e _ _ (by omega)).1.trans (r_ho i hi), fun i hi => (e _ _ (by omega)).1.trans (r_st i hi), fun i hi => (e _ _ (by omega)).1.trans (r_di i hi), fun m x hm hx => (e _ _ (by omega)).1.trans (r_wi m x hm hx), fun i hi => (e _ _ (by omega)).1.trans (r_dm i hi), fun i hi => (e _ _ (by omega)).1.trans (r_dx i hi), fun i hi => (e _ _ (by omega)).1.trans (r_om i hi), fun i hi => (e _ _ (by omega)).1.trans (r_ox i hi), fun i hi => (e _ _ (by omega)).1.trans (r_sl i hi), fun i hi => (e _ _ (by omega)).1.trans (r_dr i hi), fun m x hm hx => (e _ _ (by omega)).1.trans (r_w m x hm hx), (e _ _ (by omega)).1.trans r_W, (e _ _ (by omega)).1.trans r_D, (e _ _ (by omega)).1.trans r_np, h47, y1, (fun z => by cases z), fun _ => ⟨y2, y3⟩, fun k i hk hi => (e _ _ (by omega)).2.trans (r_nm k i hk hi)⟩
theorem r_paL {B : Nat → Nat} {n p : Nat} {S : TD} {h : HI} (X : TX B n) (T : TR B n h) (I : PIt S) (R : PRt S h) (C : RTk B n p h) (h3 : tc B n p ≠ 3) (ht : S.t = false) : ∃ g, ((fX9_readPass 101 h).bind fun h11 => fX9_readLine_187 101 h11) = some g ∧ Fr Wrd h g ∧ RLq B n (clL B n (paL B n S p)) g := by
  unfold fX9_readPass
  obtain ⟨g1, a1, f1, C1⟩ := rt_token X T C h3
  rw [a1, Option.bind_some]
  have f2 : Fr (fun a b => Wps a b ∨ a = 101 ∧ b = 47) g1 (uI (uI (uI g1 101 47 1) 101 21 0) 101 22 0) := ((Fr.uI (by unfold Wps Wym; omega)).tr (Fr.uI (by unfold Wps Wym; omega))).tr (Fr.uI (by unfold Wps Wym; omega))
  have f2' : Fr (fun a b => a = 101 ∧ (b = 47 ∨ b = 21 ∨ b = 22)) g1 (uI (uI (uI g1 101 47 1) 101 21 0) 101 22 0) := ((Fr.uI (by omega)).tr (Fr.uI (by omega))).tr (Fr.uI (by omega))
  have v47 : (uI (uI (uI g1 101 47 1) 101 21 0) 101 22 0).1 101 47 = 1 := by rw [uI_n (by omega), uI_n (by omega), uI_s]
  have v21 : (uI (uI (uI g1 101 47 1) 101 21 0) 101 22 0).1 101 21 = 0 := by rw [uI_n (by omega), uI_s]
  have v22 : (uI (uI (uI g1 101 47 1) 101 21 0) 101 22 0).1 101 22 = 0 := by rw [uI_s]
  revert f2 f2' v47 v21 v22
  generalize uI (uI (uI g1 101 47 1) 101 21 0) 101 22 0 = g2
  intro f2 f2' v47 v21 v22
  have F2 : Fr (fun a b => Wps a b ∨ a = 101 ∧ b = 47) h g2 := (f1.mono fun a b z => Or.inl (Or.inl z)).tr f2
  have wide : ∀ g : HI, Fr (fun a b => Wps a b ∨ a = 101 ∧ b = 47) h g → Fr Wrd h g := fun g F => F.mono fun a b z => by unfold Wps WT Wym at z; unfold Wrd Wtl WT; omega
  have C2 : RTk B n (tn B n p) g2 := C1.keep f2' (fun a b y z => by unfold WT at y; omega)
  have T2 : TR B n g2 := T.rd (wide _ F2)
  have R1 := R.t f1
  have hun : S.d.un = 0 := (I.2.2.2.2.2.2.2.2 ht).2
  have Y2 : Ym 0 [] [] g2 := by
    obtain ⟨r_C, r_M, r_X, r_ho, r_st, r_di, r_wi, r_dm, r_dx, r_om, r_ox, r_sl, r_dr, r_w, r_W, r_D, r_np, r_t, r_un, r_n0, r_n1, r_nm⟩ := R1
    refine ⟨?_, ?_, fun i hi => absurd hi (Nat.not_lt_zero i), v21, trivial, v22⟩
    · rw [f2'.1 _ _ (by omega), r_un, hun]
    · rw [f2'.1 _ _ (by omega), r_n0 ht]; rfl
  have K0 : Yok (0, tn B n p, 0, [], []) := ⟨Or.inl rfl, Nat.zero_le _, Nat.zero_le _, (fun c hc => by cases hc), fun _ => ⟨Nat.le_refl _, Nat.le_refl _⟩, fun z => by cases z⟩
  have go : ∀ R2, Rch B n (0, tn B n p, 0, [], []) R2 → ∃ v g F, (∀ k, fX9_readPass_21 101 k FU g2 0 = fX9_readPass_21 101 k (F + 1) g v) ∧ Fr (fun a b => Wps a b ∨ a = 101 ∧ b = 47) h g ∧ Fr Wps g2 g ∧ YRq B n R2 v g ∧ (∀ M2, R2 = .inr M2 → Yok M2) := by
    rintro R2 ⟨j, hj⟩
    obtain ⟨v, g, b1, b2, b3, b4, b5⟩ := r_runY X j _ R2 g2 hj T2 ⟨C2, Y2⟩ K0
    have hn := X.1
    obtain ⟨F, hF⟩ := FU_ge (n := j) (by omega)
    refine ⟨v, g, F, fun k => ?_, F2.tr (b2.mono fun a b z => Or.inl z), b2, b3, b4⟩
    rw [hF, show F + (j + 1) = (F + 1) + j by omega]
    exact b1 k (F + 1)
  have bad : ∀ e, Rch B n (0, tn B n p, 0, [], []) (.inl e) → clL B n (paL B n S p) = .inl e → ∃ g, ((fX9_readPass_21 101 (fun h6 => fX9_readPass_70 101 h6) FU g2 0).bind fun h11 => fX9_readLine_187 101 h11) = some g ∧ Fr Wrd h g ∧ RLq B n (clL B n (paL B n S p)) g := by
    intro e h1 h2
    obtain ⟨v, g, F, b1, b2, b3, b4, b5⟩ := go _ h1
    have b4 : RFl e.1 e.2 g := b4
    rw [b1, fX9_readPass_21, if_neg b4.f.2]
    unfold fX9_readPass_70
    rw [if_neg b4.f.2, Option.bind_some]
    unfold fX9_readLine_187 fX9_readLine_208
    rw [if_neg b4.f.2, if_neg b4.f.2, h2]
    exact ⟨g, rfl, wide _ b2, Or.inl ⟨e, rfl, b4⟩⟩
  have est : stP B n S.t p = tk B n (tn B n p) := by unfold stP; rw [ht]; rfl
  by_cases c3 : tc B n (tn B n p) = 3
  · exact bad _ (Rch.bad c3) (by unfold paL clL; rw [est, tk3 c3]; rfl)
  · have epa : paL B n S p = thn (exP B n 200 0 0 (tn B n p, 0, [])) (paE S) := by unfold paL; rw [est, tkn c3]; rfl
    have sy := sy_main (B := B) (n := n) 200 0 0 (tn B n p, 0, []) (0, tn B n p, 0, [], []) (by decide) (by decide) (by decide) ⟨rfl, rfl, c3, fun _ => rfl, Or.inr ⟨rfl, fun z => by omega⟩, rfl, Or.inl rfl, Nat.zero_le _⟩
    cases h4 : exP B n 200 0 0 (tn B n p, 0, []) with
    | inl e =>
      rw [h4] at sy
      exact bad e sy (by rw [epa, h4]; rfl)
    | inr s =>
      rw [h4] at sy
      obtain ⟨s3, out, pend, e, s4, s5, s6, s7, s8⟩ := sy
      have s6 : s.2.2 = e := s6
      have s7 : out ++ pend = e := s7
      have no0 : ¬ 0 ∈ pend ++ [] := fun z => by
        rw [List.append_nil] at z
        exact (s5 0 z).1 rfl
      have ecl : clL B n (paL B n S p) = clE B n (s.1, sPa S s.2.1 s.2.2) := by rw [epa, h4]; rfl
      by_cases c59 : tc B n s.1 = 59
      · obtain ⟨v, g, F, b1, b2, b3, b4, b5⟩ := go _ s4
        obtain ⟨e2, C3, Y3⟩ := b4
        have K3 := b5 _ rfl
        obtain ⟨k1, k2⟩ := K3.b
        obtain ⟨_, k3, _, k4, _⟩ := K3
        have k1 : (pend ++ []).length ≤ 47 := k1
        have k2 : out.length ≤ 367 := k2
        have e2 : v = 2 := e2
        have Y3 : Ym s.2.1 out (pend ++ []) g := Y3
        have k4 : okS (pend ++ []) := k4
        rw [b1, fX9_readPass_21, if_pos C3.f, if_pos e2, r_open Y3 k4 (by omega), Option.bind_some, decide_eq_false no0, if_pos b01f, if_pos (show g.1 101 6 = (59 : Int32) from (so_eq2 C3 (c := 59) (by decide) (by decide)).mpr c59)]
        unfold fX9_readPass_70
        obtain ⟨g3, d1, d2, d3⟩ := r_settle (r := 0) (by decide) Y3 k4 (by omega) (by omega)
        have d1' : fX9_settle 101 g (0 : Int32) = some g3 := d1
        rw [if_pos C3.f, d1', Option.bind_some, Option.bind_some]
        rw [List.append_nil, setl_end (fun c hc => (s5 c hc).1)] at d3
        have d3 : Ym s.2.1 (out ++ pend) [] g3 := d3
        rw [s7, ← s6] at d3
        have F3 : Fr (fun a b => Wps a b ∨ a = 101 ∧ b = 47) h g3 := b2.tr (d2.mono fun a b z => Or.inl (Or.inr z))
        have P3 : PRt (sPa S s.2.1 s.2.2) g3 := R.pa F3 d3 (by rw [d2.1 _ _ (by unfold Wym; omega), b3.1 _ _ (by unfold Wps WT Wym; omega)]; exact v47)
        have C3' : RTk B n s.1 g3 := C3.y d2
        obtain ⟨g4, m1, m2, m3⟩ := r_cl (r := .inr (s.1, sPa S s.2.1 s.2.2)) X (T.rd (wide _ F3)) (Or.inr ⟨s.1, _, by rw [tkn s3]; rfl, C3', P3⟩)
        rw [m1, ecl]
        exact ⟨g4, rfl, (wide _ F3).tr m2.rd, m3⟩
      · have nd : ¬ doneM B n (2, s.1, s.2.1, out, pend ++ []) := fun z => c59 z.2.2
        have st : stepM B n (2, s.1, s.2.1, out, pend ++ []) = .inl (2, tp B n s.1) := by
          unfold stepM
          rw [if_pos rfl]
          exact stp_bad s8 rfl s3 (fun z => no0 z.2)
        refine bad _ (s4.tr (Rch.no nd st)) ?_
        rw [ecl]
        unfold clE takeP
        rw [if_neg c59]; rfl
