/-! what a text has told so far: hall, names, wishes that are told, whether a rule is -/
abbrev TD : Type := HD × (Nat → Nat → List Nat) × (Nat → Nat → Bool) × Bool
def TD.d (S : TD) : HD := S.1
def TD.N (S : TD) : Nat → Nat → List Nat := S.2.1
def TD.w (S : TD) : Nat → Nat → Bool := S.2.2.1
def TD.t (S : TD) : Bool := S.2.2.2
def cnt (d : HD) (k : Nat) : Nat := if k = 0 then d.C else if k = 1 then d.M else d.X
def PIt (S : TD) : Prop := HDw S.d ∧ (∀ k i, k < 3 → i < cnt S.d k → lett (S.N k i) ∧ (S.N k i).length ≤ 8) ∧ (∀ k i j, k < 3 → i < cnt S.d k → j < cnt S.d k → S.N k i = S.N k j → i = j) ∧ (∀ m x, S.w m x = true → m < S.d.M ∧ x < S.d.X) ∧ (∀ m x, S.w m x = false → S.d.wi m x = 0) ∧ S.d.W ≤ 24 ∧ WFR S.d.ru ∧ S.d.un ≤ 40 ∧ (S.t = false → S.d.ru = rdef ∧ S.d.un = 0)
def nN (N : Nat → Nat → List Nat) (k i : Nat) (w : List Nat) : Nat → Nat → List Nat := fun a b => if a = k ∧ b = i then w else N a b
def ud2 {α : Type} (f : Nat → Nat → α) (m x : Nat) (v : α) : Nat → Nat → α := fun a b => if a = m ∧ b = x then v else f a b
theorem ud2_s {α : Type} (f : Nat → Nat → α) (m x : Nat) (v : α) : ud2 f m x v m x = v := if_pos ⟨rfl, rfl⟩
theorem ud2_n {α : Type} {f : Nat → Nat → α} {m x a b : Nat} {v : α} (h : ¬ (a = m ∧ b = x)) : ud2 f m x v a b = f a b := if_neg h
def dCh (d : HD) (x : Nat) (b : Bool) : HD := (d.C + 1, d.M, d.X, d.D, ud d.ho d.C x, d.st, d.di, ud d.sl d.C b, d.dr, d.wi, d.W, d.dm, d.dx, d.om, d.ox, d.np, d.un, d.ru)
def dMa (d : HD) (x : Nat) (b : Bool) : HD := (d.C, d.M + 1, d.X, d.D, d.ho, ud d.st d.M x, d.di, d.sl, ud d.dr d.M b, d.wi, d.W, d.dm, d.dx, d.om, d.ox, d.np, d.un, d.ru)
def dMt (d : HD) (x : Nat) : HD := (d.C, d.M, d.X + 1, d.D, d.ho, d.st, ud d.di d.X x, d.sl, d.dr, d.wi, d.W, d.dm, d.dx, d.om, d.ox, d.np, d.un, d.ru)
def dWi (d : HD) (m x : Nat) (v : Int) : HD := (d.C, d.M, d.X, d.D, d.ho, d.st, d.di, d.sl, d.dr, ud2 d.wi m x v, d.W + 1, d.dm, d.dx, d.om, d.ox, d.np, d.un, d.ru)
def dDe (d : HD) (m x o z : Nat) : HD := (d.C, d.M, d.X, d.D + 1, d.ho, d.st, d.di, d.sl, d.dr, d.wi, d.W, ud d.dm d.D m, ud d.dx d.D x, ud d.om d.D o, ud d.ox d.D z, d.np, d.un, d.ru)
def sCh (S : TD) (w : List Nat) (x : Nat) (b : Bool) : TD := (dCh S.d x b, nN S.N 0 S.d.C w, S.w, S.t)
def sMa (S : TD) (w : List Nat) (x : Nat) (b : Bool) : TD := (dMa S.d x b, nN S.N 1 S.d.M w, S.w, S.t)
def sMt (S : TD) (w : List Nat) (x : Nat) : TD := (dMt S.d x, nN S.N 2 S.d.X w, S.w, S.t)
def sWi (S : TD) (m x : Nat) (v : Int) : TD := (dWi S.d m x v, S.N, ud2 S.w m x true, S.t)
def sDe (S : TD) (m x o z : Nat) : TD := (dDe S.d m x o z, S.N, S.w, S.t)
def dNp (d : HD) (x : Nat) : HD := (d.C, d.M, d.X, d.D, d.ho, d.st, d.di, d.sl, d.dr, d.wi, d.W, d.dm, d.dx, d.om, d.ox, x, d.un, d.ru)
def sNp (S : TD) (x : Nat) : TD := (dNp S.d x, S.N, S.w, S.t)
/-! the lines, pure -/
def chL (B : Nat → Nat) (n : Nat) (S : TD) (p : Nat) : Sum (Nat × Nat) (Nat × TD) := thn (stP B n (decide (6 ≤ S.d.C)) p) fun p1 => thn (newP B n (S.N 0) S.d.C p1) fun wp => thn (takeP B n 129 wp.2) fun p3 => thn (nbP B n 1 2 p3) fun xp => thn (ifP B n 130 xp.2) fun bp => .inr (bp.2, sCh S wp.1 xp.1 bp.1)
def maL (B : Nat → Nat) (n : Nat) (S : TD) (p : Nat) : Sum (Nat × Nat) (Nat × TD) := thn (stP B n (decide (6 ≤ S.d.M)) p) fun p1 => thn (newP B n (S.N 1) S.d.M p1) fun wp => thn (takeP B n 132 wp.2) fun p3 => thn (nbP B n 1 30 p3) fun xp => thn (ifP B n 133 xp.2) fun bp => .inr (bp.2, sMa S wp.1 xp.1 bp.1)
def mtL (B : Nat → Nat) (n : Nat) (S : TD) (p : Nat) : Sum (Nat × Nat) (Nat × TD) := thn (stP B n (decide (4 ≤ S.d.X)) p) fun p1 => thn (newP B n (S.N 2) S.d.X p1) fun wp => thn (takeP B n 135 wp.2) fun p3 => thn (nbP B n 1 999 p3) fun xp => .inr (xp.2, sMt S wp.1 xp.1)
def wiL (B : Nat → Nat) (n : Nat) (S : TD) (p : Nat) : Sum (Nat × Nat) (Nat × TD) := thn (stP B n (decide (24 ≤ S.d.W)) p) fun p1 => thn (odP B n (S.N 1) S.d.M none p1) fun ip => thn (tdP B n (S.N 2) S.d.X ip.2) fun xp => thn (if S.w ip.1 xp.1 = true then .inl (3, tp B n xp.2) else adv B n xp.2) fun p3 => thn (woP B n p3) fun vp => .inr (vp.2, sWi S ip.1 xp.1 vp.1)
def deL (B : Nat → Nat) (n : Nat) (S : TD) (p : Nat) : Sum (Nat × Nat) (Nat × TD) := thn (stP B n (decide (4 ≤ S.d.D)) p) fun p1 => thn (odP B n (S.N 1) S.d.M none p1) fun ip => thn (odP B n (S.N 2) S.d.X none ip.2) fun xp => thn (takeP B n 138 xp.2) fun p3 => thn (odP B n (S.N 1) S.d.M (some ip.1) p3) fun op => thn (odP B n (S.N 2) S.d.X (some xp.1) op.2) fun zp => .inr (zp.2, sDe S ip.1 xp.1 op.1 zp.1)
def naL (B : Nat → Nat) (n : Nat) (S : TD) (p : Nat) : Sum (Nat × Nat) (Nat × TD) := thn (stP B n (decide (S.d.np ≠ 0)) p) fun p1 => thn (nbP B n 1 99 p1) fun xp => .inr (xp.2, sNp S xp.1)
/-! the developers' spare hall -/
def PCt (q : Nat) (S : TD) (h : HI) : Prop := CH q S.d h ∧ ((∀ i, i < S.d.C → h.2 (q + 2) i = lN (c5 (S.N 0 i))) ∧ (∀ i, i < S.d.M → h.2 (q + 4) i = lN (c5 (S.N 1 i))) ∧ ∀ i, i < S.d.X → h.2 (q + 6) i = lN (c5 (S.N 2 i))) ∧ (∀ x, x < S.d.X → h.1 (q + 13) x = nI (bs (fun m => S.w m x) 6)) ∧ h.1 (q + 18) 2 = nI S.d.ru.length ∧ (∀ i, i < S.d.ru.length → h.1 (q + 19) i = nI (S.d.ru.getD i 0)) ∧ h.1 (q + 18) 4 = b01 S.t
def Whs (q a b : Nat) : Prop := q ≤ a ∧ a ≤ q + 20
theorem PCt.keep {q : Nat} {S : TD} {h g : HI} {W : Nat → Nat → Prop} (R : PCt q S h) (F : Fr W h g) (hd : ∀ a b, q ≤ a → a ≤ q + 19 → ¬ W a b) : PCt q S g := by
  obtain ⟨r1, ⟨r2, r3, r4⟩, r5, r6, r7, r8⟩ := R
  refine ⟨r1.keep F hd, ⟨fun i hi => ?_, fun i hi => ?_, fun i hi => ?_⟩, fun x hx => ?_, ?_, fun i hi => ?_, ?_⟩
  · rw [F.2 _ _ (hd _ _ (by omega) (by omega))]; exact r2 i hi
  · rw [F.2 _ _ (hd _ _ (by omega) (by omega))]; exact r3 i hi
  · rw [F.2 _ _ (hd _ _ (by omega) (by omega))]; exact r4 i hi
  · rw [F.1 _ _ (hd _ _ (by omega) (by omega))]; exact r5 x hx
  · rw [F.1 _ _ (hd _ _ (by omega) (by omega))]; exact r6
  · rw [F.1 _ _ (hd _ _ (by omega) (by omega))]; exact r7 i hi
  · rw [F.1 _ _ (hd _ _ (by omega) (by omega))]; exact r8
theorem PCt.n {q : Nat} {S : TD} {h g : HI} (R : PCt q S h) (hq : q + 20 < 53) (F : Fr WN h g) : PCt q S g := R.keep F (fun a b p r s => by unfold WN at s; omega)
theorem PCt.nm0 {q : Nat} {S : TD} {h : HI} (I : PIt S) (R : PCt q S h) : NmC (q + 1) 6 S.d.C (S.N 0) h := ⟨I.1.C6, by decide, R.1.C, R.2.1.1, fun i hi => I.2.1 0 i (by decide) hi⟩
theorem PCt.nm1 {q : Nat} {S : TD} {h : HI} (I : PIt S) (R : PCt q S h) : NmC (q + 3) 6 S.d.M (S.N 1) h := ⟨I.1.M6, by decide, R.1.M, R.2.1.2.1, fun i hi => I.2.1 1 i (by decide) hi⟩
theorem PCt.nm2 {q : Nat} {S : TD} {h : HI} (I : PIt S) (R : PCt q S h) : NmC (q + 5) 4 S.d.X (S.N 2) h := ⟨I.1.X4, by decide, R.1.X, R.2.1.2.2, fun i hi => I.2.1 2 i (by decide) hi⟩
theorem wo_cong {d d2 : HD} {x : Nat} : ∀ n, (∀ m, m < n → d2.wi m x = d.wi m x) → wo d2 x n = wo d x n
  | 0, _ => rfl
  | n + 1, h => by rw [wo, wo, wo_cong n (fun m hm => h m (by omega)), h n (by omega)]
theorem wo_0 {d : HD} {x : Nat} : ∀ n, (∀ m, m < n → d.wi m x = 0) → wo d x n = 0
  | 0, _ => rfl
  | n + 1, h => by rw [wo, wo_0 n (fun m hm => h m (by omega)), h n (by omega)]; rfl
theorem wo_put {d d2 : HD} {m x : Nat} {v : Int} (h0 : d.wi m x = 0) (h1 : d2.wi m x = v) (h2 : ∀ a, a ≠ m → d2.wi a x = d.wi a x) : ∀ n, m < n → wo d2 x n = wo d x n + v
  | 0, h => absurd h (Nat.not_lt_zero m)
  | n + 1, h => by
    rw [wo, wo]
    by_cases e : m = n
    · subst e
      rw [wo_cong m (fun a ha => h2 a (by omega)), h1, h0]; omega
    · rw [wo_put h0 h1 h2 n (by omega), h2 n (fun z => e z.symm)]; omega
theorem bs_f0 {P : Nat → Bool} {n : Nat} (h : ∀ i, i < n → P i = false) : bs P n = 0 := by
  rw [bs_cong (Q := fun _ => false) h]
  exact bs0 (ct_f n)
theorem bs_sk {P : Nat → Bool} {n : Nat} (h : P n = false) : bs P (n + 1) = bs P n := by rw [bs, h]; rfl
theorem bs_udl {f : Nat → Bool} {n : Nat} {b : Bool} : bs (ud f n b) n = bs f n := bs_cong fun i hi => ud_n (by omega)
theorem c_add {q N m : Nat} {h : HI} {v : Int64} (e : h.1 q 1 = nI m) (hm : m < N) (hN : N ≤ 6) : fX2_add q N h v = some (uI (uL h (q + 1) m v) q 1 (nI (m + 1))) := by
  unfold fX2_add fX2_isFull
  rw [e, if_pos (nI_lt hm (by omega)), Option.bind_some, if_pos rfl, e]
  simp (disch := omega) only [gB, nI_clamp, nI_1]
theorem c_full {q N m : Nat} {h : HI} (e : h.1 q 1 = nI m) (hm : m ≤ N) (hN : N ≤ 6) : fX2_isFull q N h = some (b01 (decide (N ≤ m)), h) := by
  unfold fX2_isFull
  rw [e]
  by_cases c : m < N
  · rw [if_pos (nI_lt c (by omega)), decide_eq_false (by omega)]; rfl
  · rw [if_neg (nI_nlt (by omega) (by omega)), decide_eq_true (by omega)]; rfl

theorem c_addCh {q : Nat} {S : TD} {h : HI} {w : List Nat} {x : Nat} {b : Bool} (hq : q + 20 < 53) (R : PCt q S h) (hC : S.d.C < 6) : ∃ g, fX1_addChair q h (lN (c5 w)) (nI x) (b01 b) = some g ∧ Fr (Whs q) h g ∧ PCt q (sCh S w x b) g := by
  obtain ⟨r, ⟨r2, r3, r4⟩, r5, r6, r7, r8⟩ := R
  unfold fX1_addChair fX1_addChair_47
  rw [c_full r.C (by omega) (by decide), Option.bind_some, decide_eq_false (by omega), if_pos b01f, r.C]
  simp (disch := omega) only [gB, nI_clamp]
  have key : ∀ g1 : HI, Fr (fun a b => a = q + 7 ∧ b = S.d.C ∨ a = q ∧ b = 4) h g1 → g1.1 (q + 7) S.d.C = nI x → g1.1 q 4 = nI (bs (ud S.d.sl S.d.C b) (S.d.C + 1)) → ∃ g, ((fX2_add (q + 1) 6 g1 (lN (c5 w))).bind fun h2 => some h2) = some g ∧ Fr (Whs q) h g ∧ PCt q (sCh S w x b) g := by
    intro g1 F1 v7 v4
    rw [c_add ((F1.1 _ _ (by omega)).trans r.C) hC (by decide), Option.bind_some]
    have F2 : Fr (fun a b => a = q + 7 ∧ b = S.d.C ∨ a = q ∧ b = 4 ∨ a = q + 2 ∧ b = S.d.C ∨ a = q + 1 ∧ b = 1) h (uI (uL g1 (q + 1 + 1) S.d.C (lN (c5 w))) (q + 1) 1 (nI (S.d.C + 1))) := ((F1.mono fun a b z => by omega).tr (Fr.uL (by omega))).tr (Fr.uI (by omega))
    refine ⟨_, rfl, F2.mono fun a b z => by unfold Whs; omega, ?_⟩
    have e := F2.1
    refine ⟨⟨uI_s _ _ _ _, (e _ _ (by omega)).trans r.M, (e _ _ (by omega)).trans r.X, fun i hi => ?_, fun i hi => (e _ _ (by omega)).trans (r.st i hi), fun i hi => (e _ _ (by omega)).trans (r.di i hi), fun y hy => by
      show _ = Int32.ofInt (wo (dCh S.d x b) y S.d.M)
      rw [e _ _ (by omega), r.wo y hy, wo_cong (d := S.d) (d2 := dCh S.d x b) _ (fun m _ => rfl)], fun i hi => (e _ _ (by omega)).trans (r.li i hi), fun i hi => (e _ _ (by omega)).trans (r.dl i hi), fun i hi => (e _ _ (by omega)).trans (r.dm i hi), fun i hi => (e _ _ (by omega)).trans (r.dx i hi), fun i hi => (e _ _ (by omega)).trans (r.om i hi), fun i hi => (e _ _ (by omega)).trans (r.ox i hi), ?_, (e _ _ (by omega)).trans r.dr, (e _ _ (by omega)).trans r.W, (e _ _ (by omega)).trans r.D, (e _ _ (by omega)).trans r.np, (e _ _ (by omega)).trans r.un⟩, ⟨fun i hi => ?_, fun i hi => (F2.2 _ _ (by omega)).trans (r3 i hi), fun i hi => (F2.2 _ _ (by omega)).trans (r4 i hi)⟩, fun y hy => (e _ _ (by omega)).trans (r5 y hy), (e _ _ (by omega)).trans r6, fun i hi => (e _ _ (by omega)).trans (r7 i hi), (e _ _ (by omega)).trans r8⟩
    · have hi2 : i < S.d.C + 1 := hi
      show _ = nI (ud S.d.ho S.d.C x i)
      by_cases c : i = S.d.C
      · rw [c, ud_s, uI_n (by omega)]; exact v7
      · rw [ud_n c, e _ _ (by omega)]; exact r.ho i (by omega)
    · rw [uI_n (by omega)]; exact v4
    · have hi2 : i < S.d.C + 1 := hi
      show (uL g1 (q + 1 + 1) S.d.C (lN (c5 w))).2 (q + 2) i = lN (c5 (nN S.N 0 S.d.C w 0 i))
      unfold nN
      by_cases c : i = S.d.C
      · rw [c, if_pos ⟨rfl, rfl⟩, uL_s]
      · rw [if_neg (by omega), uL_n (by omega), F1.2 _ _ (by omega)]; exact r2 i (by omega)
  cases b with
  | false =>
    rw [if_pos b01f]
    refine key _ (Fr.uI (by omega)) (uI_s _ _ _ _) ?_
    rw [uI_n (by omega), r.sl, bs_sk (ud_s _ _ _), bs_udl]
  | true =>
    rw [if_neg b01t]
    refine key _ ((Fr.uI (by omega)).tr (Fr.uI (by omega))) (by rw [uI_n (by omega), uI_s]) ?_
    rw [uI_s, r.sl, ← bs_udl (b := true), bs_put (by omega) (ud_s _ _ _)]
theorem c_addMa {q : Nat} {S : TD} {h : HI} {w : List Nat} {x : Nat} {b : Bool} (hq : q + 20 < 53) (I : PIt S) (R : PCt q S h) (hM : S.d.M < 6) : ∃ g, fX1_addMan q h (lN (c5 w)) (nI x) (b01 b) = some g ∧ Fr (Whs q) h g ∧ PCt q (sMa S w x b) g := by
  obtain ⟨r, ⟨r2, r3, r4⟩, r5, r6, r7, r8⟩ := R
  have hw0 : ∀ y, S.d.wi S.d.M y = 0 := fun y => I.2.2.2.2.1 _ _ (by
    cases c : S.w S.d.M y with
    | false => rfl
    | true => have := (I.2.2.2.1 _ _ c).1; omega)
  unfold fX1_addMan fX1_addMan_47
  rw [c_full r.M (by omega) (by decide), Option.bind_some, decide_eq_false (by omega), if_pos b01f, r.M]
  simp (disch := omega) only [gB, nI_clamp]
  have key : ∀ g1 : HI, Fr (fun a b => a = q + 8 ∧ b = S.d.M ∨ a = q ∧ b = 6) h g1 → g1.1 (q + 8) S.d.M = nI x → g1.1 q 6 = nI (bs (ud S.d.dr S.d.M b) (S.d.M + 1)) → ∃ g, ((fX2_add (q + 3) 6 g1 (lN (c5 w))).bind fun h2 => some h2) = some g ∧ Fr (Whs q) h g ∧ PCt q (sMa S w x b) g := by
    intro g1 F1 v7 v4
    rw [c_add ((F1.1 _ _ (by omega)).trans r.M) hM (by decide), Option.bind_some]
    have F2 : Fr (fun a b => a = q + 8 ∧ b = S.d.M ∨ a = q ∧ b = 6 ∨ a = q + 4 ∧ b = S.d.M ∨ a = q + 3 ∧ b = 1) h (uI (uL g1 (q + 3 + 1) S.d.M (lN (c5 w))) (q + 3) 1 (nI (S.d.M + 1))) := ((F1.mono fun a b z => by omega).tr (Fr.uL (by omega))).tr (Fr.uI (by omega))
    refine ⟨_, rfl, F2.mono fun a b z => by unfold Whs; omega, ?_⟩
    have e := F2.1
    refine ⟨⟨(e _ _ (by omega)).trans r.C, uI_s _ _ _ _, (e _ _ (by omega)).trans r.X, fun i hi => (e _ _ (by omega)).trans (r.ho i hi), fun i hi => ?_, fun i hi => (e _ _ (by omega)).trans (r.di i hi), fun y hy => ?_, fun y hy => ?_, fun y hy => ?_, fun i hi => (e _ _ (by omega)).trans (r.dm i hi), fun i hi => (e _ _ (by omega)).trans (r.dx i hi), fun i hi => (e _ _ (by omega)).trans (r.om i hi), fun i hi => (e _ _ (by omega)).trans (r.ox i hi), (e _ _ (by omega)).trans r.sl, ?_, (e _ _ (by omega)).trans r.W, (e _ _ (by omega)).trans r.D, (e _ _ (by omega)).trans r.np, (e _ _ (by omega)).trans r.un⟩, ⟨fun i hi => (F2.2 _ _ (by omega)).trans (r2 i hi), fun i hi => ?_, fun i hi => (F2.2 _ _ (by omega)).trans (r4 i hi)⟩, fun y hy => (e _ _ (by omega)).trans (r5 y hy), (e _ _ (by omega)).trans r6, fun i hi => (e _ _ (by omega)).trans (r7 i hi), (e _ _ (by omega)).trans r8⟩
    · have hi2 : i < S.d.M + 1 := hi
      show _ = nI (ud S.d.st S.d.M x i)
      by_cases c : i = S.d.M
      · rw [c, ud_s, uI_n (by omega)]; exact v7
      · rw [ud_n c, e _ _ (by omega)]; exact r.st i (by omega)
    · show _ = Int32.ofInt (wo (dMa S.d x b) y (S.d.M + 1))
      rw [e _ _ (by omega), r.wo y hy, wo, wo_cong (d := S.d) (d2 := dMa S.d x b) _ (fun m _ => rfl), show (dMa S.d x b).wi S.d.M y = 0 from hw0 y, Int.add_zero]
    · show _ = nI (bs (fun m => decide (0 < S.d.wi m y)) (S.d.M + 1))
      rw [e _ _ (by omega), r.li y hy, bs_sk (by rw [hw0 y]; rfl)]
    · show _ = nI (bs (fun m => decide (S.d.wi m y < 0)) (S.d.M + 1))
      rw [e _ _ (by omega), r.dl y hy, bs_sk (by rw [hw0 y]; rfl)]
    · rw [uI_n (by omega)]; exact v4
    · have hi2 : i < S.d.M + 1 := hi
      show (uL g1 (q + 3 + 1) S.d.M (lN (c5 w))).2 (q + 4) i = lN (c5 (nN S.N 1 S.d.M w 1 i))
      unfold nN
      by_cases c : i = S.d.M
      · rw [c, if_pos ⟨rfl, rfl⟩, uL_s]
      · rw [if_neg (by omega), uL_n (by omega), F1.2 _ _ (by omega)]; exact r3 i (by omega)
  cases b with
  | false =>
    rw [if_pos b01f]
    refine key _ (Fr.uI (by omega)) (uI_s _ _ _ _) ?_
    rw [uI_n (by omega), r.dr, bs_sk (ud_s _ _ _), bs_udl]
  | true =>
    rw [if_neg b01t]
    refine key _ ((Fr.uI (by omega)).tr (Fr.uI (by omega))) (by rw [uI_n (by omega), uI_s]) ?_
    rw [uI_s, r.dr, ← bs_udl (b := true), bs_put (by omega) (ud_s _ _ _)]
theorem c_addMt {q : Nat} {S : TD} {h : HI} {w : List Nat} {x : Nat} (hq : q + 20 < 53) (I : PIt S) (R : PCt q S h) (hX : S.d.X < 4) : ∃ g, fX1_addMatter q h (lN (c5 w)) (nI x) = some g ∧ Fr (Whs q) h g ∧ PCt q (sMt S w x) g := by
  obtain ⟨r, ⟨r2, r3, r4⟩, r5, r6, r7, r8⟩ := R
  have hwf : ∀ m, S.w m S.d.X = false := fun m => by
    cases c : S.w m S.d.X with
    | false => rfl
    | true => have := (I.2.2.2.1 _ _ c).2; omega
  have hw0 : ∀ m, S.d.wi m S.d.X = 0 := fun m => I.2.2.2.2.1 _ _ (hwf m)
  unfold fX1_addMatter
  rw [c_full r.X (by omega) (by decide), Option.bind_some, decide_eq_false (by omega), if_pos b01f, r.X]
  simp (disch := omega) only [gB, nI_clamp]
  have F1 : Fr (fun a b => (a = q + 9 ∨ a = q + 10 ∨ a = q + 11 ∨ a = q + 12 ∨ a = q + 13) ∧ b = S.d.X) h (uI (uI (uI (uI (uI h (q + 9) S.d.X (nI x)) (q + 10) S.d.X 0) (q + 11) S.d.X 0) (q + 12) S.d.X 0) (q + 13) S.d.X 0) := ((((Fr.uI (by omega)).tr (Fr.uI (by omega))).tr (Fr.uI (by omega))).tr (Fr.uI (by omega))).tr (Fr.uI (by omega))
  have v9 : (uI (uI (uI (uI (uI h (q + 9) S.d.X (nI x)) (q + 10) S.d.X 0) (q + 11) S.d.X 0) (q + 12) S.d.X 0) (q + 13) S.d.X 0).1 (q + 9) S.d.X = nI x := by rw [uI_n (by omega), uI_n (by omega), uI_n (by omega), uI_n (by omega), uI_s]
  have v10 : (uI (uI (uI (uI (uI h (q + 9) S.d.X (nI x)) (q + 10) S.d.X 0) (q + 11) S.d.X 0) (q + 12) S.d.X 0) (q + 13) S.d.X 0).1 (q + 10) S.d.X = 0 := by rw [uI_n (by omega), uI_n (by omega), uI_n (by omega), uI_s]
  have v11 : (uI (uI (uI (uI (uI h (q + 9) S.d.X (nI x)) (q + 10) S.d.X 0) (q + 11) S.d.X 0) (q + 12) S.d.X 0) (q + 13) S.d.X 0).1 (q + 11) S.d.X = 0 := by rw [uI_n (by omega), uI_n (by omega), uI_s]
  have v12 : (uI (uI (uI (uI (uI h (q + 9) S.d.X (nI x)) (q + 10) S.d.X 0) (q + 11) S.d.X 0) (q + 12) S.d.X 0) (q + 13) S.d.X 0).1 (q + 12) S.d.X = 0 := by rw [uI_n (by omega), uI_s]
  have v13 : (uI (uI (uI (uI (uI h (q + 9) S.d.X (nI x)) (q + 10) S.d.X 0) (q + 11) S.d.X 0) (q + 12) S.d.X 0) (q + 13) S.d.X 0).1 (q + 13) S.d.X = 0 := uI_s _ _ _ _
  generalize uI (uI (uI (uI (uI h (q + 9) S.d.X (nI x)) (q + 10) S.d.X 0) (q + 11) S.d.X 0) (q + 12) S.d.X 0) (q + 13) S.d.X 0 = g1 at F1 v9 v10 v11 v12 v13
  rw [c_add ((F1.1 _ _ (by omega)).trans r.X) hX (by decide), Option.bind_some]
  have F2 : Fr (fun a b => (a = q + 9 ∨ a = q + 10 ∨ a = q + 11 ∨ a = q + 12 ∨ a = q + 13) ∧ b = S.d.X ∨ a = q + 6 ∧ b = S.d.X ∨ a = q + 5 ∧ b = 1) h (uI (uL g1 (q + 5 + 1) S.d.X (lN (c5 w))) (q + 5) 1 (nI (S.d.X + 1))) := ((F1.mono fun a b z => by omega).tr (Fr.uL (by omega))).tr (Fr.uI (by omega))
  refine ⟨_, rfl, F2.mono fun a b z => by unfold Whs; omega, ?_⟩
  have e := F2.1
  refine ⟨⟨(e _ _ (by omega)).trans r.C, (e _ _ (by omega)).trans r.M, uI_s _ _ _ _, fun i hi => (e _ _ (by omega)).trans (r.ho i hi), fun i hi => (e _ _ (by omega)).trans (r.st i hi), fun i hi => ?_, fun y hy => ?_, fun y hy => ?_, fun y hy => ?_, fun i hi => (e _ _ (by omega)).trans (r.dm i hi), fun i hi => (e _ _ (by omega)).trans (r.dx i hi), fun i hi => (e _ _ (by omega)).trans (r.om i hi), fun i hi => (e _ _ (by omega)).trans (r.ox i hi), (e _ _ (by omega)).trans r.sl, (e _ _ (by omega)).trans r.dr, (e _ _ (by omega)).trans r.W, (e _ _ (by omega)).trans r.D, (e _ _ (by omega)).trans r.np, (e _ _ (by omega)).trans r.un⟩, ⟨fun i hi => (F2.2 _ _ (by omega)).trans (r2 i hi), fun i hi => (F2.2 _ _ (by omega)).trans (r3 i hi), fun i hi => ?_⟩, fun y hy => ?_, (e _ _ (by omega)).trans r6, fun i hi => (e _ _ (by omega)).trans (r7 i hi), (e _ _ (by omega)).trans r8⟩
  · have hi2 : i < S.d.X + 1 := hi
    show _ = nI (ud S.d.di S.d.X x i)
    by_cases c : i = S.d.X
    · rw [c, ud_s, uI_n (by omega)]; exact v9
    · rw [ud_n c, e _ _ (by omega)]; exact r.di i (by omega)
  · have hy2 : y < S.d.X + 1 := hy
    show _ = Int32.ofInt (wo (dMt S.d x) y S.d.M)
    rw [wo_cong (d := S.d) (d2 := dMt S.d x) _ (fun m _ => rfl)]
    by_cases c : y = S.d.X
    · rw [c, uI_n (by omega), show (uL g1 (q + 5 + 1) S.d.X (lN (c5 w))).1 (q + 10) S.d.X = 0 from v10, wo_0 _ (fun m _ => hw0 m)]; rfl
    · rw [e _ _ (by omega)]; exact r.wo y (by omega)
  · have hy2 : y < S.d.X + 1 := hy
    show _ = nI (bs (fun m => decide (0 < S.d.wi m y)) S.d.M)
    by_cases c : y = S.d.X
    · rw [c, uI_n (by omega), show (uL g1 (q + 5 + 1) S.d.X (lN (c5 w))).1 (q + 11) S.d.X = 0 from v11, bs_f0 (fun m _ => by rw [hw0 m]; rfl)]; rfl
    · rw [e _ _ (by omega)]; exact r.li y (by omega)
  · have hy2 : y < S.d.X + 1 := hy
    show _ = nI (bs (fun m => decide (S.d.wi m y < 0)) S.d.M)
    by_cases c : y = S.d.X
    · rw [c, uI_n (by omega), show (uL g1 (q + 5 + 1) S.d.X (lN (c5 w))).1 (q + 12) S.d.X = 0 from v12, bs_f0 (fun m _ => by rw [hw0 m]; rfl)]; rfl
    · rw [e _ _ (by omega)]; exact r.dl y (by omega)
  · have hi2 : i < S.d.X + 1 := hi
    show (uL g1 (q + 5 + 1) S.d.X (lN (c5 w))).2 (q + 6) i = lN (c5 (nN S.N 2 S.d.X w 2 i))
    unfold nN
    by_cases c : i = S.d.X
    · rw [c, if_pos ⟨rfl, rfl⟩, uL_s]
    · rw [if_neg (by omega), uL_n (by omega), F1.2 _ _ (by omega)]; exact r4 i (by omega)
  · have hy2 : y < S.d.X + 1 := hy
    show _ = nI (bs (fun m => S.w m y) 6)
    by_cases c : y = S.d.X
    · rw [c, uI_n (by omega), show (uL g1 (q + 5 + 1) S.d.X (lN (c5 w))).1 (q + 13) S.d.X = 0 from v13, bs_f0 (fun m _ => hwf m)]; rfl
    · rw [e _ _ (by omega)]; exact r5 y (by omega)
theorem c_addDe {q : Nat} {S : TD} {h : HI} {m x o z : Nat} (hq : q + 20 < 53) (I : PIt S) (R : PCt q S h) (hD : S.d.D < 4) (h1 : m < S.d.M) (h2 : x < S.d.X) (h3 : o < S.d.M) (h4 : z < S.d.X) : ∃ g, fX1_addDeal q h (nI m) (nI x) (nI o) (nI z) = some g ∧ Fr (Whs q) h g ∧ PCt q (sDe S m x o z) g := by
  obtain ⟨r, ⟨r2, r3, r4⟩, r5, r6, r7, r8⟩ := R
  have hM := I.1.M6
  have hX := I.1.X4
  unfold fX1_addDeal
  rw [r.D, if_neg (show ¬ (4 : Int32) ≤ nI S.d.D from nI_ge (b := 4) hD (by decide)), has1 r.M h1 (by omega), Option.bind_some, if_neg ne10, has1 r.X h2 (by omega), Option.bind_some, if_neg ne10, has1 r.M h3 (by omega), Option.bind_some, if_neg ne10, has1 r.X h4 (by omega), Option.bind_some, if_neg ne10, r.D]
  simp (disch := omega) only [gB, nI_clamp, nI_1]
  have F2 : Fr (fun a b => (a = q + 14 ∨ a = q + 15 ∨ a = q + 16 ∨ a = q + 17) ∧ b = S.d.D ∨ a = q ∧ b = 17) h (uI (uI (uI (uI (uI h (q + 14) S.d.D (nI m)) (q + 15) S.d.D (nI x)) (q + 16) S.d.D (nI o)) (q + 17) S.d.D (nI z)) q 17 (nI (S.d.D + 1))) := ((((Fr.uI (by omega)).tr (Fr.uI (by omega))).tr (Fr.uI (by omega))).tr (Fr.uI (by omega))).tr (Fr.uI (by omega))
  refine ⟨_, rfl, F2.mono fun a b z => by unfold Whs; omega, ?_⟩
  have e := F2.1
  refine ⟨⟨(e _ _ (by omega)).trans r.C, (e _ _ (by omega)).trans r.M, (e _ _ (by omega)).trans r.X, fun i hi => (e _ _ (by omega)).trans (r.ho i hi), fun i hi => (e _ _ (by omega)).trans (r.st i hi), fun i hi => (e _ _ (by omega)).trans (r.di i hi), fun y hy => by
      show _ = Int32.ofInt (wo (dDe S.d m x o z) y S.d.M)
      rw [e _ _ (by omega), r.wo y hy, wo_cong (d := S.d) (d2 := dDe S.d m x o z) _ (fun m _ => rfl)], fun i hi => (e _ _ (by omega)).trans (r.li i hi), fun i hi => (e _ _ (by omega)).trans (r.dl i hi), fun i hi => ?_, fun i hi => ?_, fun i hi => ?_, fun i hi => ?_, (e _ _ (by omega)).trans r.sl, (e _ _ (by omega)).trans r.dr, (e _ _ (by omega)).trans r.W, uI_s _ _ _ _, (e _ _ (by omega)).trans r.np, (e _ _ (by omega)).trans r.un⟩, ⟨fun i hi => (F2.2 _ _ (by omega)).trans (r2 i hi), fun i hi => (F2.2 _ _ (by omega)).trans (r3 i hi), fun i hi => (F2.2 _ _ (by omega)).trans (r4 i hi)⟩, fun y hy => (e _ _ (by omega)).trans (r5 y hy), (e _ _ (by omega)).trans r6, fun i hi => (e _ _ (by omega)).trans (r7 i hi), (e _ _ (by omega)).trans r8⟩
  · have hi2 : i < S.d.D + 1 := hi
    show _ = nI (ud S.d.dm S.d.D m i)
    by_cases c : i = S.d.D
    · rw [c, ud_s, uI_n (by omega), uI_n (by omega), uI_n (by omega), uI_n (by omega), uI_s]
    · rw [ud_n c, e _ _ (by omega)]; exact r.dm i (by omega)
  · have hi2 : i < S.d.D + 1 := hi
    show _ = nI (ud S.d.dx S.d.D x i)
    by_cases c : i = S.d.D
    · rw [c, ud_s, uI_n (by omega), uI_n (by omega), uI_n (by omega), uI_s]
    · rw [ud_n c, e _ _ (by omega)]; exact r.dx i (by omega)
  · have hi2 : i < S.d.D + 1 := hi
    show _ = nI (ud S.d.om S.d.D o i)
    by_cases c : i = S.d.D
    · rw [c, ud_s, uI_n (by omega), uI_n (by omega), uI_s]
    · rw [ud_n c, e _ _ (by omega)]; exact r.om i (by omega)
  · have hi2 : i < S.d.D + 1 := hi
    show _ = nI (ud S.d.ox S.d.D z i)
    by_cases c : i = S.d.D
    · rw [c, ud_s, uI_n (by omega), uI_s]
    · rw [ud_n c, e _ _ (by omega)]; exact r.ox i (by omega)
theorem c_addNp {q : Nat} {S : TD} {h : HI} {x : Nat} (hq : q + 20 < 53) (R : PCt q S h) : Fr (Whs q) h (uI h q 18 (nI x)) ∧ PCt q (sNp S x) (uI h q 18 (nI x)) := by
  obtain ⟨r, ⟨r2, r3, r4⟩, r5, r6, r7, r8⟩ := R
  have F2 : Fr (fun a b => a = q ∧ b = 18) h (uI h q 18 (nI x)) := Fr.uI (by omega)
  refine ⟨F2.mono fun a b z => by unfold Whs; omega, ?_⟩
  have e := F2.1
  exact ⟨⟨(e _ _ (by omega)).trans r.C, (e _ _ (by omega)).trans r.M, (e _ _ (by omega)).trans r.X, fun i hi => (e _ _ (by omega)).trans (r.ho i hi), fun i hi => (e _ _ (by omega)).trans (r.st i hi), fun i hi => (e _ _ (by omega)).trans (r.di i hi), fun y hy => by
      show _ = Int32.ofInt (wo (dNp S.d x) y S.d.M)
      rw [e _ _ (by omega), r.wo y hy, wo_cong (d := S.d) (d2 := dNp S.d x) _ (fun m _ => rfl)], fun i hi => (e _ _ (by omega)).trans (r.li i hi), fun i hi => (e _ _ (by omega)).trans (r.dl i hi), fun i hi => (e _ _ (by omega)).trans (r.dm i hi), fun i hi => (e _ _ (by omega)).trans (r.dx i hi), fun i hi => (e _ _ (by omega)).trans (r.om i hi), fun i hi => (e _ _ (by omega)).trans (r.ox i hi), (e _ _ (by omega)).trans r.sl, (e _ _ (by omega)).trans r.dr, (e _ _ (by omega)).trans r.W, (e _ _ (by omega)).trans r.D, uI_s _ _ _ _, (e _ _ (by omega)).trans r.un⟩, ⟨r2, r3, r4⟩, fun y hy => (e _ _ (by omega)).trans (r5 y hy), (e _ _ (by omega)).trans r6, fun i hi => (e _ _ (by omega)).trans (r7 i hi), (e _ _ (by omega)).trans r8⟩
theorem bs_pt {P Q : Nat → Bool} {n m : Nat} (hm : m < n) (hn : n ≤ 31) (h1 : Q m = true) (h2 : ∀ i, i ≠ m → Q i = P i) : nI (bs P n) ||| ((1 : Int32) <<< (nI m &&& 31)) = nI (bs Q n) := by
  rw [one_shl (by omega), bs_one P hm, bs_cong (Q := Q)]
  intro i _
  by_cases c : i = m
  · rw [c, h1, decide_eq_true rfl]; rfl
  · rw [decide_eq_false c, h2 i c]; rfl
theorem c_addWi {q : Nat} {S : TD} {h : HI} {m x : Nat} {v : Int} (hq : q + 20 < 53) (I : PIt S) (R : PCt q S h) (h1 : m < S.d.M) (h2 : x < S.d.X) (hv1 : -99 ≤ v) (hv2 : v ≤ 99) (hw : S.w m x = false) : ∃ g, fX1_addWish q h (nI m) (nI x) (Int32.ofInt v) = some g ∧ Fr (Whs q) h g ∧ PCt q (sWi S m x v) g := by
  obtain ⟨r, ⟨r2, r3, r4⟩, r5, r6, r7, r8⟩ := R
  have hM := I.1.M6
  have hX := I.1.X4
  have hW := I.2.2.2.2.2.1
  have h0 : S.d.wi m x = 0 := I.2.2.2.2.1 _ _ hw
  unfold fX1_addWish fX1_addWish_71
  rw [has1 r.M h1 (by omega), Option.bind_some, if_neg ne10, has1 r.X h2 (by omega), Option.bind_some, if_neg ne10]
  simp (disch := omega) only [gB, nI_clamp]
  have e13 : h.1 (q + 13) x ||| ((1 : Int32) <<< (nI m &&& 31)) = nI (bs (fun a => ud2 S.w m x true a x) 6) := by
    rw [r5 x h2]
    exact bs_pt (by omega) (by decide) (ud2_s _ _ _ _) (fun i hi => ud2_n (by omega))
  have e10 : h.1 (q + 10) x + Int32.ofInt v = Int32.ofInt (wo (dWi S.d m x v) x S.d.M) := by
    rw [r.wo x h2, ← Int32.ofInt_add, wo_put (d := S.d) (d2 := dWi S.d m x v) (m := m) (v := v) h0 (ud2_s _ _ _ _) (fun a ha => ud2_n (by omega)) S.d.M h1]
  rw [r.W, nI_1, e13, e10]
  have key : ∀ g : HI, Fr (fun a b => a = q ∧ b = 12 ∨ (a = q + 13 ∨ a = q + 10 ∨ a = q + 11 ∨ a = q + 12) ∧ b = x) h g → g.1 q 12 = nI (S.d.W + 1) → g.1 (q + 13) x = nI (bs (fun a => ud2 S.w m x true a x) 6) → g.1 (q + 10) x = Int32.ofInt (wo (dWi S.d m x v) x S.d.M) → g.1 (q + 11) x = nI (bs (fun a => decide (0 < ud2 S.d.wi m x v a x)) S.d.M) → g.1 (q + 12) x = nI (bs (fun a => decide (ud2 S.d.wi m x v a x < 0)) S.d.M) → ∃ g2, (some g : Option HI) = some g2 ∧ Fr (Whs q) h g2 ∧ PCt q (sWi S m x v) g2 := by
    intro g F2 v12 v13 v10 v11 vd
    refine ⟨g, rfl, F2.mono fun a b z => by unfold Whs; omega, ?_⟩
    have e := F2.1
    refine ⟨⟨(e _ _ (by omega)).trans r.C, (e _ _ (by omega)).trans r.M, (e _ _ (by omega)).trans r.X, fun i hi => (e _ _ (by omega)).trans (r.ho i hi), fun i hi => (e _ _ (by omega)).trans (r.st i hi), fun i hi => (e _ _ (by omega)).trans (r.di i hi), fun y hy => ?_, fun y hy => ?_, fun y hy => ?_, fun i hi => (e _ _ (by omega)).trans (r.dm i hi), fun i hi => (e _ _ (by omega)).trans (r.dx i hi), fun i hi => (e _ _ (by omega)).trans (r.om i hi), fun i hi => (e _ _ (by omega)).trans (r.ox i hi), (e _ _ (by omega)).trans r.sl, (e _ _ (by omega)).trans r.dr, v12, (e _ _ (by omega)).trans r.D, (e _ _ (by omega)).trans r.np, (e _ _ (by omega)).trans r.un⟩, ⟨fun i hi => (F2.2 _ _ (by omega)).trans (r2 i hi), fun i hi => (F2.2 _ _ (by omega)).trans (r3 i hi), fun i hi => (F2.2 _ _ (by omega)).trans (r4 i hi)⟩, fun y hy => ?_, (e _ _ (by omega)).trans r6, fun i hi => (e _ _ (by omega)).trans (r7 i hi), (e _ _ (by omega)).trans r8⟩
    · by_cases c : y = x
      · rw [c]; exact v10
      · show _ = Int32.ofInt (wo (dWi S.d m x v) y S.d.M)
        rw [e _ _ (by omega), r.wo y hy, wo_cong (d := S.d) (d2 := dWi S.d m x v) _ (fun a _ => ud2_n (by omega))]
    · by_cases c : y = x
      · rw [c]; exact v11
      · show _ = nI (bs (fun a => decide (0 < ud2 S.d.wi m x v a y)) S.d.M)
        rw [e _ _ (by omega), r.li y hy, bs_cong (P := fun a => decide (0 < S.d.wi a y)) (Q := fun a => decide (0 < ud2 S.d.wi m x v a y)) (fun a _ => by rw [ud2_n (by omega)])]
    · by_cases c : y = x
      · rw [c]; exact vd
      · show _ = nI (bs (fun a => decide (ud2 S.d.wi m x v a y < 0)) S.d.M)
        rw [e _ _ (by omega), r.dl y hy, bs_cong (P := fun a => decide (S.d.wi a y < 0)) (Q := fun a => decide (ud2 S.d.wi m x v a y < 0)) (fun a _ => by rw [ud2_n (by omega)])]
    · by_cases c : y = x
      · rw [c]; exact v13
      · show _ = nI (bs (fun a => ud2 S.w m x true a y) 6)
        rw [e _ _ (by omega), r5 y hy, bs_cong (P := fun a => S.w a y) (Q := fun a => ud2 S.w m x true a y) (fun a _ => by rw [ud2_n (by omega)])]
  have pz := ofI_pos hv1 hv2
  have li0 : ¬ 0 < v → h.1 (q + 11) x = nI (bs (fun a => decide (0 < ud2 S.d.wi m x v a x)) S.d.M) := fun c => by
    rw [r.li x h2, bs_cong (P := fun a => decide (0 < S.d.wi a x)) (Q := fun a => decide (0 < ud2 S.d.wi m x v a x)) (fun a _ => ?_)]
    by_cases c2 : a = m
    · rw [c2, ud2_s, h0, decide_eq_false c]; rfl
    · rw [ud2_n (by omega)]
  have dl0 : ¬ v < 0 → h.1 (q + 12) x = nI (bs (fun a => decide (ud2 S.d.wi m x v a x < 0)) S.d.M) := fun c => by
    rw [r.dl x h2, bs_cong (P := fun a => decide (S.d.wi a x < 0)) (Q := fun a => decide (ud2 S.d.wi m x v a x < 0)) (fun a _ => ?_)]
    by_cases c2 : a = m
    · rw [c2, ud2_s, h0, decide_eq_false c]; rfl
    · rw [ud2_n (by omega)]
  have li1 : 0 < v → h.1 (q + 11) x ||| ((1 : Int32) <<< (nI m &&& 31)) = nI (bs (fun a => decide (0 < ud2 S.d.wi m x v a x)) S.d.M) := fun c => by
    rw [r.li x h2]
    exact bs_pt h1 (by omega) (by rw [ud2_s]; exact decide_eq_true c) (fun i hi => by rw [ud2_n (by omega)])
  have dl1 : v < 0 → h.1 (q + 12) x ||| ((1 : Int32) <<< (nI m &&& 31)) = nI (bs (fun a => decide (ud2 S.d.wi m x v a x < 0)) S.d.M) := fun c => by
    rw [r.dl x h2]
    exact bs_pt h1 (by omega) (by rw [ud2_s]; exact decide_eq_true c) (fun i hi => by rw [ud2_n (by omega)])
  by_cases c : 0 < v
  · rw [if_neg (fun z => pz.1.mp z c), if_pos (pz.2.mpr (by omega))]
    refine key _ ((((Fr.uI (by omega)).tr (Fr.uI (by omega))).tr (Fr.uI (by omega))).tr (Fr.uI (by omega))) ?_ ?_ ?_ ?_ ?_
    · rw [uI_n (by omega), uI_n (by omega), uI_n (by omega), uI_s]
    · rw [uI_n (by omega), uI_n (by omega), uI_s]
    · rw [uI_n (by omega), uI_s]
    · rw [uI_s]; exact li1 c
    · rw [uI_n (by omega), uI_n (by omega), uI_n (by omega), uI_n (by omega)]; exact dl0 (by omega)
  · rw [if_pos (pz.1.mpr c)]
    by_cases c2 : v < 0
    · rw [if_neg (fun z => pz.2.mp z c2)]
      refine key _ ((((Fr.uI (by omega)).tr (Fr.uI (by omega))).tr (Fr.uI (by omega))).tr (Fr.uI (by omega))) ?_ ?_ ?_ ?_ ?_
      · rw [uI_n (by omega), uI_n (by omega), uI_n (by omega), uI_s]
      · rw [uI_n (by omega), uI_n (by omega), uI_s]
      · rw [uI_n (by omega), uI_s]
      · rw [uI_n (by omega), uI_n (by omega), uI_n (by omega), uI_n (by omega)]; exact li0 c
      · rw [uI_s, uI_n (by omega), uI_n (by omega), uI_n (by omega)]; exact dl1 c2
    · rw [if_pos (pz.2.mpr c2)]
      refine key _ (((Fr.uI (by omega)).tr (Fr.uI (by omega))).tr (Fr.uI (by omega))) ?_ ?_ ?_ ?_ ?_
      · rw [uI_n (by omega), uI_n (by omega), uI_s]
      · rw [uI_n (by omega), uI_s]
      · rw [uI_s]
      · rw [uI_n (by omega), uI_n (by omega), uI_n (by omega)]; exact li0 c
      · rw [uI_n (by omega), uI_n (by omega), uI_n (by omega)]; exact dl0 c2
