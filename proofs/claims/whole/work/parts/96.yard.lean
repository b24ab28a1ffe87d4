/-! e by a pile of waiting signs (the reference's way), pure; it comes to the same -/
abbrev YMs : Type := Nat × Nat × Nat × List Nat × List Nat
def rk (c : Nat) : Nat := if c = 10141 then 20 else if c = 10142 then 21 else if c = 10143 then 22 else if c = 10060 ∨ c = 10061 ∨ c = 10062 then 23 else if c = 10043 ∨ c = 10045 then 26 else if c = 10042 then 28 else 0
def isOp (c : Nat) : Bool := decide (c = 141) || (decide (c = 142) || (decide (c = 60) || (decide (c = 61) || (decide (c = 62) || (decide (c = 43) || (decide (c = 45) || decide (c = 42)))))))
def deepC : List Nat → Nat
  | [] => 0
  | c :: l => deepC l + (if c = 0 ∨ c = 10143 then 1 else 0)
def binC : List Nat → Nat
  | [] => 0
  | c :: l => binC l + (if c = 0 ∨ c = 10143 then 0 else 1)
def setl (r : Nat) : List Nat → List Nat → List Nat × List Nat
  | out, [] => (out, [])
  | out, c :: st => if c ≠ 0 ∧ r ≤ rk c then setl r (out ++ [c]) st else (out, c :: st)
def top23 (l : List Nat) : Bool := match l with
  | [] => false
  | c :: _ => decide (rk c = 23)
def errP (B : Nat → Nat) (n p : Nat) : Nat × Nat := if tc B n p = 3 then (1, tp B n p) else (2, tp B n p)
def opd (B : Nat → Nat) (n : Nat) (M : YMs) : Sum (Nat × Nat) YMs := if M.1 = 0 ∧ tc B n M.2.1 = 143 then (if deepC M.2.2.2.2 < 7 then .inr (0, tn B n M.2.1, M.2.2.1, M.2.2.2.1, 10143 :: M.2.2.2.2) else .inl (errP B n M.2.1)) else if tc B n M.2.1 = 40 then (if M.2.2.1 = 40 ∨ 7 ≤ deepC M.2.2.2.2 then .inl (errP B n M.2.1) else .inr (0, tn B n M.2.1, M.2.2.1 + 1, M.2.2.2.1, 0 :: M.2.2.2.2)) else if tc B n M.2.1 = 2 ∨ 144 ≤ tc B n M.2.1 ∧ tc B n M.2.1 ≤ 148 then (if M.2.2.1 = 40 then .inl (errP B n M.2.1) else .inr (2, tn B n M.2.1, M.2.2.1 + 1, M.2.2.2.1 ++ [unC B n M.2.1], M.2.2.2.2)) else .inl (errP B n M.2.1)
def sgn (B : Nat → Nat) (n : Nat) (M : YMs) : Sum (Nat × Nat) YMs := if tc B n M.2.1 = 41 ∧ 0 ∈ M.2.2.2.2 then .inr (2, tn B n M.2.1, M.2.2.1, (setl 0 M.2.2.2.1 M.2.2.2.2).1, (setl 0 M.2.2.2.1 M.2.2.2.2).2.tail) else if isOp (tc B n M.2.1) = true then (if rk (10000 + tc B n M.2.1) = 23 then (if top23 (setl 26 M.2.2.2.1 M.2.2.2.2).2 = true then .inl (errP B n M.2.1) else .inr (1, tn B n M.2.1, M.2.2.1, (setl 26 M.2.2.2.1 M.2.2.2.2).1, (10000 + tc B n M.2.1) :: (setl 26 M.2.2.2.1 M.2.2.2.2).2)) else .inr (if tc B n M.2.1 = 141 ∨ tc B n M.2.1 = 142 then 0 else 1, tn B n M.2.1, M.2.2.1, (setl (rk (10000 + tc B n M.2.1)) M.2.2.2.1 M.2.2.2.2).1, (10000 + tc B n M.2.1) :: (setl (rk (10000 + tc B n M.2.1)) M.2.2.2.1 M.2.2.2.2).2)) else .inl (errP B n M.2.1)
def stepM (B : Nat → Nat) (n : Nat) (M : YMs) : Sum (Nat × Nat) YMs := if M.1 = 2 then sgn B n M else opd B n M
def doneM (B : Nat → Nat) (n : Nat) (M : YMs) : Prop := M.1 = 2 ∧ ¬ 0 ∈ M.2.2.2.2 ∧ tc B n M.2.1 = 59
def RchN (B : Nat → Nat) (n : Nat) : Nat → YMs → Sum (Nat × Nat) YMs → Prop
  | 0, M, R => R = .inr M
  | j + 1, M, R => ¬ doneM B n M ∧ ((∃ e, stepM B n M = .inl e ∧ R = .inl e ∧ j = 0) ∨ ∃ M2, stepM B n M = .inr M2 ∧ RchN B n j M2 R)
def Rch (B : Nat → Nat) (n : Nat) (M : YMs) (R : Sum (Nat × Nat) YMs) : Prop := ∃ j, RchN B n j M R
theorem RchN_tr {B : Nat → Nat} {n : Nat} {R : Sum (Nat × Nat) YMs} : ∀ {j i : Nat} {M M2 : YMs}, RchN B n j M (.inr M2) → RchN B n i M2 R → RchN B n (j + i) M R
  | 0, i, M, M2, h1, h2 => by cases h1; rw [Nat.zero_add]; exact h2
  | j + 1, i, M, M2, h1, h2 => by
    obtain ⟨a, b⟩ := h1
    rw [show j + 1 + i = (j + i) + 1 by omega]
    rcases b with ⟨e, _, b2, _⟩ | ⟨M3, b1, b2⟩
    · cases b2
    · exact ⟨a, Or.inr ⟨M3, b1, RchN_tr b2 h2⟩⟩
theorem Rch.tr {B : Nat → Nat} {n : Nat} {R : Sum (Nat × Nat) YMs} {M M2 : YMs} (h1 : Rch B n M (.inr M2)) (h2 : Rch B n M2 R) : Rch B n M R := by
  obtain ⟨j, a⟩ := h1
  obtain ⟨i, b⟩ := h2
  exact ⟨j + i, RchN_tr a b⟩
theorem Rch.rf {B : Nat → Nat} {n : Nat} {M : YMs} : Rch B n M (.inr M) := ⟨0, rfl⟩
theorem Rch.one {B : Nat → Nat} {n : Nat} {M : YMs} (h : ¬ doneM B n M) : Rch B n M (stepM B n M) := by
  cases e : stepM B n M with
  | inl a => exact ⟨1, h, Or.inl ⟨a, e, rfl, rfl⟩⟩
  | inr M2 => exact ⟨1, h, Or.inr ⟨M2, e, rfl⟩⟩
theorem Rch.go {B : Nat → Nat} {n : Nat} {M M2 : YMs} {R : Sum (Nat × Nat) YMs} (h : ¬ doneM B n M) (e : stepM B n M = .inr M2) (h2 : Rch B n M2 R) : Rch B n M R := by
  have := Rch.one h
  rw [e] at this
  exact this.tr h2
theorem Rch.no {B : Nat → Nat} {n : Nat} {M : YMs} {e : Nat × Nat} (h : ¬ doneM B n M) (z : stepM B n M = .inl e) : Rch B n M (.inl e) := by
  have := Rch.one h
  rw [z] at this
  exact this
/-- where no token stands, the next step says so -/
theorem Rch.bad {B : Nat → Nat} {n : Nat} {M : YMs} (h : tc B n M.2.1 = 3) : Rch B n M (.inl (1, tp B n M.2.1)) := by
  refine Rch.no (fun z => by have := z.2.2; omega) ?_
  have he : errP B n M.2.1 = (1, tp B n M.2.1) := by unfold errP; rw [if_pos h]
  unfold stepM
  split
  · unfold sgn
    rw [h, if_neg (by omega), if_neg (by decide), he]
  · unfold opd
    rw [h, if_neg (by omega), if_neg (by decide), if_neg (by decide), he]
theorem adv_c {B : Nat → Nat} {n p : Nat} : (∃ e, adv B n p = .inl e ∧ tc B n (tn B n p) = 3 ∧ e = (1, tp B n (tn B n p))) ∨ adv B n p = .inr (tn B n p) ∧ tc B n (tn B n p) ≠ 3 := by
  unfold adv tk
  by_cases c : tc B n (tn B n p) = 3
  · rw [if_pos c]; exact Or.inl ⟨_, rfl, c, rfl⟩
  · rw [if_neg c]; exact Or.inr ⟨rfl, c⟩
theorem setl_pop {r : Nat} {st : List Nat} (hs : st = [] ∨ (∃ c l, st = c :: l ∧ (c = 0 ∨ rk c < r))) : ∀ (pend out : List Nat), (∀ c, c ∈ pend → c ≠ 0 ∧ r ≤ rk c) → setl r out (pend ++ st) = (out ++ pend, st)
  | [], out, _ => by
    rw [List.nil_append, List.append_nil]
    rcases hs with z | ⟨c, l, z, hc⟩
    · rw [z]; rfl
    · rw [z, setl, if_neg (by omega)]
  | c :: pend, out, h => by
    rw [List.cons_append, setl, if_pos (h c List.mem_cons_self), setl_pop hs pend (out ++ [c]) (fun x hx => h x (List.mem_cons_of_mem _ hx)), List.append_assoc]; rfl
def lo (lv : Nat) : Nat := if lv = 0 then 20 else if lv = 1 then 21 else if lv = 2 then 22 else if lv = 3 then 26 else if lv = 4 then 28 else 29
def hi (lv : Nat) : Nat := if lv = 2 then 23 else lo lv
def Top (lv : Nat) (st : List Nat) : Prop := st = [] ∨ ∃ c l, st = c :: l ∧ (c = 0 ∨ rk c < hi lv)
def RelIn (pend : List Nat) : Prop := ∃ a r b, pend = a ++ r :: b ∧ (∀ x, x ∈ a → x ≠ 0 ∧ 26 ≤ rk x) ∧ rk r = 23
def StY (lv : Nat) (pend : List Nat) (c : Nat) : Prop := ∀ v, lv ≤ v → v < 5 → joint v c = true → v = 2 ∧ RelIn pend
theorem lo_mono : ∀ lv, lv < 5 → lo lv ≤ lo (lv + 1) ∧ hi lv ≤ hi (lv + 1) ∧ lo lv ≤ hi lv := by decide
theorem joint_v {v c : Nat} (hv : v < 5) (h : joint v c = true) : isOp c = true ∧ (v = 0 ∧ c = 141 ∨ v = 1 ∧ c = 142 ∨ v = 2 ∧ (c = 60 ∨ c = 61 ∨ c = 62) ∨ v = 3 ∧ (c = 43 ∨ c = 45) ∨ v = 4 ∧ c = 42) := by
  have key : v = 0 ∧ c = 141 ∨ v = 1 ∧ c = 142 ∨ v = 2 ∧ (c = 60 ∨ c = 61 ∨ c = 62) ∨ v = 3 ∧ (c = 43 ∨ c = 45) ∨ v = 4 ∧ c = 42 := by
    unfold joint at h
    split at h
    · have := of_decide_eq_true h; omega
    · split at h
      · have := of_decide_eq_true h; omega
      · split at h
        · simp only [Bool.or_eq_true, decide_eq_true_eq] at h; omega
        · split at h
          · simp only [Bool.or_eq_true, decide_eq_true_eq] at h; omega
          · have := of_decide_eq_true h; omega
  refine ⟨?_, key⟩
  unfold isOp
  simp only [Bool.or_eq_true, decide_eq_true_eq]
  omega
theorem isOp_j {c : Nat} (h : isOp c = true) : ∃ v, v < 5 ∧ joint v c = true := by
  unfold isOp at h
  simp only [Bool.or_eq_true, decide_eq_true_eq] at h
  rcases h with z | z | z | z | z | z | z | z <;> subst z
  · exact ⟨0, by decide, by decide⟩
  · exact ⟨1, by decide, by decide⟩
  · exact ⟨2, by decide, by decide⟩
  · exact ⟨2, by decide, by decide⟩
  · exact ⟨2, by decide, by decide⟩
  · exact ⟨3, by decide, by decide⟩
  · exact ⟨3, by decide, by decide⟩
  · exact ⟨4, by decide, by decide⟩
theorem rk_j {v c : Nat} (hv : v < 5) (h : joint v c = true) : rk (10000 + c) = (if v = 2 then 23 else lo v) ∧ rk (10000 + c) < hi (v + 1) ∧ lo v ≤ rk (10000 + c) ∧ (10000 + c ≠ 0 ∧ 10000 + c ≠ 10143) := by
  rcases (joint_v hv h).2 with ⟨a, b⟩ | ⟨a, b⟩ | ⟨a, b | b | b⟩ | ⟨a, b | b⟩ | ⟨a, b⟩ <;> subst a <;> subst b <;> decide
theorem RelIn.ap {a b : List Nat} (h : RelIn a) : RelIn (a ++ b) := by
  obtain ⟨x, r, y, h1, h2, h3⟩ := h
  exact ⟨x, r, y ++ b, by rw [h1, List.append_assoc]; rfl, h2, h3⟩
theorem StY.ap {lv c : Nat} {a b : List Nat} (h : StY lv a c) : StY lv (a ++ b) c := fun v h1 h2 h3 => ⟨(h v h1 h2 h3).1, (h v h1 h2 h3).2.ap⟩
theorem deepC_n {c : Nat} {l : List Nat} (h : c ≠ 0 ∧ c ≠ 10143) : deepC (c :: l) = deepC l := by rw [deepC, if_neg (by omega)]; rfl
theorem setl_rel {out st : List Nat} : ∀ {a : List Nat} {r : Nat} {b : List Nat}, (∀ x, x ∈ a → x ≠ 0 ∧ 26 ≤ rk x) → rk r = 23 → top23 (setl 26 out (a ++ r :: b ++ st)).2 = true := by
  intro a r b h1 h2
  rw [List.append_assoc, List.cons_append, setl_pop (Or.inr ⟨r, b ++ st, rfl, Or.inr (by omega)⟩) a out h1]
  exact decide_eq_true h2
/-- what stands behind a whole part is a fault, unless the part can end there -/
theorem stp_bad {B : Nat → Nat} {n p u lv : Nat} {out pend st : List Nat} (h : StY lv pend (tc B n p)) (h0 : lv = 0) (h3 : tc B n p ≠ 3) (hn : ¬ (tc B n p = 41 ∧ 0 ∈ pend ++ st)) : sgn B n (2, p, u, out, pend ++ st) = .inl (2, tp B n p) := by
  have he : errP B n p = (2, tp B n p) := by unfold errP; rw [if_neg h3]
  unfold sgn
  rw [if_neg hn]
  by_cases c : isOp (tc B n p) = true
  · obtain ⟨v, hv, hj⟩ := isOp_j c
    obtain ⟨e2, a, r, b, e3, e4, e5⟩ := h v (by omega) hv hj
    have hr := (rk_j hv hj).1
    rw [if_pos e2] at hr
    rw [if_pos c, if_pos hr]
    show (if top23 (setl 26 out (pend ++ st)).2 = true then _ else _) = _
    rw [e3, setl_rel e4 e5, if_pos rfl, he]
  · rw [if_neg c, he]
def SYo (B : Nat → Nat) (n lv : Nat) (s : EXs) (M : YMs) (r : Sum (Nat × Nat) EXs) : Prop := match r with
  | .inl e => Rch B n M (.inl e)
  | .inr s2 => tc B n s2.1 ≠ 3 ∧ ∃ out pend e, Rch B n M (.inr (2, s2.1, s2.2.1, out, pend ++ M.2.2.2.2)) ∧ (∀ c, c ∈ pend → c ≠ 0 ∧ lo lv ≤ rk c) ∧ s2.2.2 = s.2.2 ++ e ∧ out ++ pend = M.2.2.2.1 ++ e ∧ StY lv pend (tc B n s2.1)
def SYp (B : Nat → Nat) (n lv dp : Nat) (s : EXs) (M : YMs) : Prop := M.2.1 = s.1 ∧ M.2.2.1 = s.2.1 ∧ tc B n s.1 ≠ 3 ∧ (lv ≤ 2 → M.1 = 0) ∧ (M.1 = 1 ∨ M.1 = 0 ∧ (3 ≤ lv → tc B n s.1 ≠ 143)) ∧ deepC M.2.2.2.2 = dp ∧ Top lv M.2.2.2.2 ∧ s.2.1 ≤ 40
theorem SYp.nd {B : Nat → Nat} {n lv dp : Nat} {s : EXs} {M : YMs} (h : SYp B n lv dp s M) : ¬ doneM B n M ∧ stepM B n M = opd B n M := by
  have h5 := h.2.2.2.2.1
  refine ⟨fun z => by have := z.1; omega, ?_⟩
  unfold stepM
  rw [if_neg (by omega)]
theorem sy_loop {B : Nat → Nat} {n lv dp : Nat} {eq : EXs → Sum (Nat × Nat) EXs} (hlv : lv < 5) (hd : dp ≤ 7) (hok : ∀ s s2, s.2.1 ≤ 40 → eq s = .inr s2 → OKx dp s s2) (hsy : ∀ s M, SYp B n (lv + 1) dp s M → SYo B n (lv + 1) s M (eq s)) (st : List Nat) (hst : deepC st = dp) (htop : Top lv st) : ∀ (c : Nat) (s : EXs) (out pend : List Nat), 41 ≤ s.2.1 + c → s.2.1 ≤ 40 → tc B n s.1 ≠ 3 → (∀ x, x ∈ pend → x ≠ 0 ∧ lo lv ≤ rk x) → (lv = 2 → ∀ x, x ∈ pend → 26 ≤ rk x) → StY (lv + 1) pend (tc B n s.1) → match loopP B n eq lv c s with
    | .inl e => Rch B n (2, s.1, s.2.1, out, pend ++ st) (.inl e)
    | .inr s2 => tc B n s2.1 ≠ 3 ∧ ∃ out2 pend2 e, Rch B n (2, s.1, s.2.1, out, pend ++ st) (.inr (2, s2.1, s2.2.1, out2, pend2 ++ st)) ∧ (∀ x, x ∈ pend2 → x ≠ 0 ∧ lo lv ≤ rk x) ∧ s2.2.2 = s.2.2 ++ e ∧ out2 ++ pend2 = out ++ pend ++ e ∧ StY lv pend2 (tc B n s2.1)
  | 0, s, out, pend, hc, hu, h3, hp, hp2, hs => by omega
  | c + 1, s, out, pend, hc, hu, h3, hp, hp2, hs => by
    rw [loopP]
    cases hj : joint lv (tc B n s.1) with
    | false =>
      rw [if_neg (by decide)]
      refine ⟨h3, out, pend, [], Rch.rf, hp, by rw [List.append_nil], by rw [List.append_nil], fun v h1 h2 h4 => ?_⟩
      by_cases z : v = lv
      · rw [z, hj] at h4; cases h4
      · exact hs v (by omega) h2 h4
    | true =>
      rw [if_pos rfl]
      have jv := joint_v hlv hj
      have rj := rk_j hlv hj
      have hnd : ¬ doneM B n (2, s.1, s.2.1, out, pend ++ st) := fun z => by
        have z3 : tc B n s.1 = 59 := z.2.2
        rcases jv.2 with ⟨a, b⟩ | ⟨a, b⟩ | ⟨a, b⟩ | ⟨a, b⟩ | ⟨a, b⟩ <;> omega
      have hn41 : ¬ (tc B n s.1 = 41 ∧ 0 ∈ pend ++ st) := fun z => by
        have z3 := z.1
        rcases jv.2 with ⟨a, b⟩ | ⟨a, b⟩ | ⟨a, b⟩ | ⟨a, b⟩ | ⟨a, b⟩ <;> omega
      have lm := lo_mono lv hlv
      obtain ⟨now, hstep, hnow⟩ : ∃ now, stepM B n (2, s.1, s.2.1, out, pend ++ st) = .inr (now, tn B n s.1, s.2.1, out ++ pend, (10000 + tc B n s.1) :: st) ∧ (now = 1 ∨ now = 0) ∧ (lv + 1 ≤ 2 → now = 0) ∧ (now = 0 → lv + 1 ≤ 2) := by
        unfold stepM
        rw [if_pos rfl]
        unfold sgn
        rw [if_neg hn41, if_pos jv.1]
        by_cases c2 : lv = 2
        · have hr := rj.1
          rw [if_pos c2] at hr
          have hs1 : setl 26 out (pend ++ st) = (out ++ pend, st) := setl_pop (by
            rcases htop with z | ⟨x, l, z, hx⟩
            · exact Or.inl z
            · refine Or.inr ⟨x, l, z, hx.imp id fun y => ?_⟩
              rw [c2] at y
              have : hi 2 = 23 := rfl
              omega) pend out (fun x hx => ⟨(hp x hx).1, hp2 c2 x hx⟩)
          have ht : top23 st = false := by
            rcases htop with z | ⟨x, l, z, hx⟩
            · rw [z]; rfl
            · rw [z]
              refine decide_eq_false fun y => ?_
              rcases hx with hx | hx
              · rw [hx] at y; exact absurd y (by decide)
              · rw [c2] at hx
                have : hi 2 = 23 := rfl
                omega
          refine ⟨1, ?_, Or.inl rfl, fun z => by omega, fun z => by omega⟩
          rw [if_pos hr]
          show (if top23 (setl 26 out (pend ++ st)).2 = true then _ else Sum.inr (1, tn B n s.1, s.2.1, (setl 26 out (pend ++ st)).1, (10000 + tc B n s.1) :: (setl 26 out (pend ++ st)).2)) = _
          rw [hs1, ht, if_neg (by decide)]
        · have hr := rj.1
          rw [if_neg c2] at hr
          have hs1 : setl (rk (10000 + tc B n s.1)) out (pend ++ st) = (out ++ pend, st) := setl_pop (by
            rcases htop with z | ⟨x, l, z, hx⟩
            · exact Or.inl z
            · refine Or.inr ⟨x, l, z, hx.imp id fun y => ?_⟩
              unfold hi at y
              rw [if_neg c2] at y
              omega) pend out (fun x hx => ⟨(hp x hx).1, by have := (hp x hx).2; omega⟩)
          refine ⟨if tc B n s.1 = 141 ∨ tc B n s.1 = 142 then 0 else 1, ?_, ?_, fun z => ?_, fun z => ?_⟩
          · have hl23 : ¬ rk (10000 + tc B n s.1) = 23 := by
              rw [hr]
              rcases jv.2 with ⟨a, b⟩ | ⟨a, b⟩ | ⟨a, b⟩ | ⟨a, b⟩ | ⟨a, b⟩
              · rw [a]; decide
              · rw [a]; decide
              · exact absurd a c2
              · rw [a]; decide
              · rw [a]; decide
            rw [if_neg hl23]
            show Sum.inr (_, tn B n s.1, s.2.1, (setl (rk (10000 + tc B n s.1)) out (pend ++ st)).1, (10000 + tc B n s.1) :: (setl (rk (10000 + tc B n s.1)) out (pend ++ st)).2) = _
            rw [hs1]
          · split
            · exact Or.inr rfl
            · exact Or.inl rfl
          · rw [if_pos]
            rcases jv.2 with ⟨a, b⟩ | ⟨a, b⟩ | ⟨a, b⟩ | ⟨a, b⟩ | ⟨a, b⟩ <;> omega
          · split at z
            · rcases jv.2 with ⟨a, b⟩ | ⟨a, b⟩ | ⟨a, b⟩ | ⟨a, b⟩ | ⟨a, b⟩ <;> omega
            · omega
      rcases adv_c (B := B) (n := n) (p := s.1) with ⟨e, a1, a2, a3⟩ | ⟨a1, a2⟩
      · rw [a1, thn_l]
        show Rch B n (2, s.1, s.2.1, out, pend ++ st) (.inl e)
        rw [a3]
        exact Rch.go hnd hstep (Rch.bad (M := (now, tn B n s.1, s.2.1, out ++ pend, (10000 + tc B n s.1) :: st)) a2)
      · rw [a1, thn_in]
        have hM : SYp B n (lv + 1) dp (tn B n s.1, s.2.1, s.2.2) (now, tn B n s.1, s.2.1, out ++ pend, (10000 + tc B n s.1) :: st) := by
          refine ⟨rfl, rfl, a2, hnow.2.1, ?_, ?_, Or.inr ⟨_, st, rfl, Or.inr rj.2.1⟩, hu⟩
          · rcases hnow.1 with z | z
            · exact Or.inl z
            · exact Or.inr ⟨z, fun y => by have := hnow.2.2 z; omega⟩
          · show deepC ((10000 + tc B n s.1) :: st) = dp
            rw [deepC_n rj.2.2.2]; exact hst
        have hr := hsy _ _ hM
        cases h2 : eq (tn B n s.1, s.2.1, s.2.2) with
        | inl e =>
          rw [h2] at hr
          rw [thn_l]
          exact Rch.go hnd hstep hr
        | inr s2 =>
          rw [h2] at hr
          obtain ⟨b1, out2, pend2, e2, b2, b3, b4, b5, b6⟩ := hr
          have ok := hok (tn B n s.1, s.2.1, s.2.2) s2 hu h2
          have ou : s.2.1 < s2.2.1 := ok.2.1
          have ou2 := ok.2.2.1
          rw [thn_in]
          have b4' : s2.2.2 = s.2.2 ++ e2 := b4
          have b5' : out2 ++ pend2 = out ++ pend ++ e2 := b5
          have go1 : Rch B n (2, s.1, s.2.1, out, pend ++ st) (.inr (2, s2.1, s2.2.1, out2, (pend2 ++ [10000 + tc B n s.1]) ++ st)) := by
            have : Rch B n (2, s.1, s.2.1, out, pend ++ st) (.inr (2, s2.1, s2.2.1, out2, pend2 ++ (10000 + tc B n s.1) :: st)) := Rch.go hnd hstep b2
            rw [List.append_assoc]; exact this
          have hp3 : ∀ x, x ∈ pend2 ++ [10000 + tc B n s.1] → x ≠ 0 ∧ lo lv ≤ rk x := fun x hx => by
            rcases List.mem_append.mp hx with z | z
            · exact ⟨(b3 x z).1, by have := (b3 x z).2; omega⟩
            · rw [List.mem_singleton] at z
              rw [z]
              exact ⟨rj.2.2.2.1, rj.2.2.1⟩
          by_cases c2 : lv = 2
          · rw [if_pos c2]
            refine ⟨b1, out2, pend2 ++ [10000 + tc B n s.1], e2 ++ [10000 + tc B n s.1], go1, hp3, ?_, ?_, ?_⟩
            · show s2.2.2 ++ [10000 + tc B n s.1] = _
              rw [b4', List.append_assoc]
            · rw [← List.append_assoc, b5', List.append_assoc]
            · intro v h1 h4 h5
              by_cases z : v = 2
              · refine ⟨z, pend2, 10000 + tc B n s.1, [], rfl, fun x hx => ⟨(b3 x hx).1, ?_⟩, ?_⟩
                · have := (b3 x hx).2
                  rw [c2] at this
                  have e26 : lo (2 + 1) = 26 := rfl
                  omega
                · have hr := rj.1
                  rw [if_pos c2] at hr
                  exact hr
              · have := (b6 v (by omega) h4 h5).1
                omega
          · rw [if_neg c2]
            have rcv := sy_loop hlv hd hok hsy st hst htop c (s2.1, s2.2.1, s2.2.2 ++ [10000 + tc B n s.1]) out2 (pend2 ++ [10000 + tc B n s.1]) (by show 41 ≤ s2.2.1 + c; omega) ou2 b1 hp3 (fun z => absurd z c2) b6.ap
            cases h9 : loopP B n eq lv c (s2.1, s2.2.1, s2.2.2 ++ [10000 + tc B n s.1]) with
            | inl e => rw [h9] at rcv; exact go1.tr rcv
            | inr s9 =>
              rw [h9] at rcv
              obtain ⟨d1, out9, pend9, e9, d2, d3, d4, d5, d6⟩ := rcv
              refine ⟨d1, out9, pend9, e2 ++ [10000 + tc B n s.1] ++ e9, go1.tr d2, d3, ?_, ?_, d6⟩
              · have d4' : s9.2.2 = s2.2.2 ++ [10000 + tc B n s.1] ++ e9 := d4
                rw [d4', b4']
                simp only [List.append_assoc]
              · rw [d5, ← List.append_assoc out2, b5']
                simp only [List.append_assoc]
theorem sy_main {B : Nat → Nat} {n : Nat} : ∀ (f lv dp : Nat) (s : EXs) (M : YMs), 7 * (8 - dp) + (6 - lv) ≤ f → dp ≤ 7 → lv ≤ 5 → SYp B n lv dp s M → SYo B n lv s M (exP B n f lv dp s)
  | 0, lv, dp, s, M, hb, hd, hl, P => by omega
  | f + 1, lv, dp, s, M, hb, hd, hl, P => by
    obtain ⟨nd, est⟩ := P.nd
    obtain ⟨now, p, u, out, st⟩ := M
    obtain ⟨q1, q2, h3, h4, h5, h6, h7, h8⟩ := P
    have q1' : p = s.1 := q1
    have q2' : u = s.2.1 := q2
    have h4' : lv ≤ 2 → now = 0 := h4
    have h5' : now = 1 ∨ now = 0 ∧ (3 ≤ lv → tc B n s.1 ≠ 143) := h5
    have h6' : deepC st = dp := h6
    have h7' : Top lv st := h7
    subst q1' q2'
    have he : errP B n s.1 = (2, tp B n s.1) := by unfold errP; rw [if_neg h3]
    rw [exP]
    by_cases c5 : lv < 5
    · rw [if_pos c5]
      by_cases cn : lv = 2 ∧ tc B n s.1 = 143
      · have n0 := h4' (by omega)
        rw [if_pos cn]
        by_cases c6 : dp ≤ 6
        · have hstep : stepM B n (now, s.1, s.2.1, out, st) = .inr (0, tn B n s.1, s.2.1, out, 10143 :: st) := by
            rw [est]
            unfold opd
            rw [if_pos ⟨n0, cn.2⟩, if_pos (show deepC st < 7 by omega)]
          rw [if_pos c6]
          rcases adv_c (B := B) (n := n) (p := s.1) with ⟨e, a1, a2, a3⟩ | ⟨a1, a2⟩
          · rw [a1, thn_l]
            show Rch B n _ (.inl e)
            rw [a3]
            exact Rch.go nd hstep (Rch.bad (M := (0, tn B n s.1, s.2.1, out, 10143 :: st)) a2)
          · rw [a1, thn_in]
            have hr := sy_main f 2 (dp + 1) (tn B n s.1, s.2.1, s.2.2) (0, tn B n s.1, s.2.1, out, 10143 :: st) (by omega) (by omega) (by omega) ⟨rfl, rfl, a2, fun _ => rfl, Or.inr ⟨rfl, fun z => by omega⟩, by show deepC (10143 :: st) = dp + 1; rw [deepC, if_pos (Or.inr rfl), h6'], Or.inr ⟨10143, st, rfl, Or.inr (by decide)⟩, h8⟩
            cases h2 : exP B n f 2 (dp + 1) (tn B n s.1, s.2.1, s.2.2) with
            | inl e => rw [h2] at hr; exact Rch.go nd hstep hr
            | inr s2 =>
              rw [h2] at hr
              obtain ⟨b1, out2, pend2, e2, b2, b3, b4, b5, b6⟩ := hr
              have b4' : s2.2.2 = s.2.2 ++ e2 := b4
              have b5' : out2 ++ pend2 = out ++ e2 := b5
              rw [thn_in]
              refine ⟨b1, out2, pend2 ++ [10143], e2 ++ [10143], ?_, fun x hx => ?_, ?_, ?_, ?_⟩
              · have : Rch B n (now, s.1, s.2.1, out, st) (.inr (2, s2.1, s2.2.1, out2, pend2 ++ 10143 :: st)) := Rch.go nd hstep b2
                show Rch B n (now, s.1, s.2.1, out, st) (.inr (2, s2.1, s2.2.1, out2, (pend2 ++ [10143]) ++ st))
                rw [List.append_assoc]; exact this
              · rcases List.mem_append.mp hx with z | z
                · have := b3 x z
                  rw [cn.1]; exact this
                · rw [List.mem_singleton] at z
                  rw [z, cn.1]; decide
              · show s2.2.2 ++ [10143] = _
                rw [b4', List.append_assoc]
              · show out2 ++ (pend2 ++ [10143]) = out ++ (e2 ++ [10143])
                rw [← List.append_assoc, b5', List.append_assoc]
              · rw [cn.1]; exact b6.ap
        · rw [if_neg c6]
          refine Rch.no nd ?_
          rw [est]
          unfold opd
          rw [if_pos ⟨n0, cn.2⟩, if_neg (show ¬ deepC st < 7 by omega), he]
      · rw [if_neg cn]
        have lm := lo_mono lv c5
        have P2 : SYp B n (lv + 1) dp s (now, s.1, s.2.1, out, st) := by
          refine ⟨rfl, rfl, h3, fun z => h4' (by omega), ?_, h6', ?_, h8⟩
          · rcases h5' with z | z
            · exact Or.inl z
            · refine Or.inr ⟨z.1, fun y => ?_⟩
              by_cases w : lv = 2
              · exact fun v => cn ⟨w, v⟩
              · exact z.2 (by omega)
          · rcases h7' with z | ⟨x, l, z, hx⟩
            · exact Or.inl z
            · exact Or.inr ⟨x, l, z, hx.imp id fun y => by omega⟩
        have hr := sy_main f (lv + 1) dp s (now, s.1, s.2.1, out, st) (by omega) hd (by omega) P2
        cases h2 : exP B n f (lv + 1) dp s with
        | inl e => rw [h2] at hr; exact hr
        | inr s1 =>
          rw [h2] at hr
          obtain ⟨b1, out1, pend1, e1, b2, b3, b4, b5, b6⟩ := hr
          have ok := exP_ok f (lv + 1) dp s s1 hd h8 h2
          have b5' : out1 ++ pend1 = out ++ e1 := b5
          rw [thn_in]
          have lp := sy_loop (B := B) (n := n) c5 hd (fun a b ha hab => exP_ok f (lv + 1) dp a b hd ha hab) (fun a b hab => sy_main f (lv + 1) dp a b (by omega) hd (by omega) hab) st h6' h7' 41 s1 out1 pend1 (by have := ok.2.1; omega) ok.2.2.1 b1 (fun x hx => ⟨(b3 x hx).1, by have := (b3 x hx).2; omega⟩) (fun z x hx => by have := (b3 x hx).2; rw [z] at this; exact this) b6
          cases h9 : loopP B n (exP B n f (lv + 1) dp) lv 41 s1 with
          | inl e => rw [h9] at lp; exact Rch.tr b2 lp
          | inr s9 =>
            rw [h9] at lp
            obtain ⟨d1, out9, pend9, e9, d2, d3, d4, d5, d6⟩ := lp
            refine ⟨d1, out9, pend9, e1 ++ e9, Rch.tr b2 d2, d3, ?_, ?_, d6⟩
            · rw [d4, b4, List.append_assoc]
            · show out9 ++ pend9 = out ++ (e1 ++ e9)
              rw [d5, b5', List.append_assoc]
    · rw [if_neg c5]
      have e5 : lv = 5 := by omega
      subst e5
      have nn : ¬ (now = 0 ∧ tc B n s.1 = 143) := fun z => by
        rcases h5' with y | y
        · omega
        · exact y.2 (by decide) z.2
      by_cases c : unOK B n dp s
      · rw [unitP_y c]
        have hc := c.1
        by_cases c40 : tc B n s.1 = 40
        · have hd6 : dp ≤ 6 := by obtain ⟨_, z | z | z⟩ := c <;> omega
          have hstep : stepM B n (now, s.1, s.2.1, out, st) = .inr (0, tn B n s.1, s.2.1 + 1, out, 0 :: st) := by
            rw [est]
            unfold opd
            rw [if_neg nn, if_pos c40, if_neg (show ¬ (s.2.1 = 40 ∨ 7 ≤ deepC st) by omega)]
          rw [if_pos c40]
          rcases adv_c (B := B) (n := n) (p := s.1) with ⟨e, a1, a2, a3⟩ | ⟨a1, a2⟩
          · rw [a1, thn_l]
            show Rch B n _ (.inl e)
            rw [a3]
            exact Rch.go nd hstep (Rch.bad (M := (0, tn B n s.1, s.2.1 + 1, out, 0 :: st)) a2)
          · rw [a1, thn_in]
            have hr := sy_main f 0 (dp + 1) (tn B n s.1, s.2.1 + 1, s.2.2) (0, tn B n s.1, s.2.1 + 1, out, 0 :: st) (by omega) (by omega) (by omega) ⟨rfl, rfl, a2, fun _ => rfl, Or.inr ⟨rfl, fun z => by omega⟩, by show deepC (0 :: st) = dp + 1; rw [deepC, if_pos (Or.inl rfl), h6'], Or.inr ⟨0, st, rfl, Or.inl rfl⟩, by show s.2.1 + 1 ≤ 40; omega⟩
            cases h2 : exP B n f 0 (dp + 1) (tn B n s.1, s.2.1 + 1, s.2.2) with
            | inl e => rw [h2] at hr; exact Rch.go nd hstep hr
            | inr s2 =>
              rw [h2] at hr
              obtain ⟨b1, out2, pend2, e2, b2, b3, b4, b5, b6⟩ := hr
              have b4' : s2.2.2 = s.2.2 ++ e2 := b4
              have b5' : out2 ++ pend2 = out ++ e2 := b5
              have b2' : Rch B n (now, s.1, s.2.1, out, st) (.inr (2, s2.1, s2.2.1, out2, pend2 ++ 0 :: st)) := Rch.go nd hstep b2
              have h0 : 0 ∈ pend2 ++ 0 :: st := List.mem_append.mpr (Or.inr List.mem_cons_self)
              have nd2 : ¬ doneM B n (2, s2.1, s2.2.1, out2, pend2 ++ 0 :: st) := fun z => z.2.1 h0
              rw [thn_in]
              unfold clP
              by_cases c41 : tc B n s2.1 = 41
              · rw [if_pos c41]
                have hs1 : setl 0 out2 (pend2 ++ 0 :: st) = (out2 ++ pend2, 0 :: st) := setl_pop (Or.inr ⟨0, st, rfl, Or.inl rfl⟩) pend2 out2 (fun x hx => ⟨(b3 x hx).1, Nat.zero_le _⟩)
                have hst2 : stepM B n (2, s2.1, s2.2.1, out2, pend2 ++ 0 :: st) = .inr (2, tn B n s2.1, s2.2.1, out2 ++ pend2, st) := by
                  unfold stepM
                  rw [if_pos rfl]
                  unfold sgn
                  rw [if_pos ⟨c41, h0⟩]
                  show Sum.inr (2, tn B n s2.1, s2.2.1, (setl 0 out2 (pend2 ++ 0 :: st)).1, (setl 0 out2 (pend2 ++ 0 :: st)).2.tail) = _
                  rw [hs1]; rfl
                rcases adv_c (B := B) (n := n) (p := s2.1) with ⟨e, a1, a2, a3⟩ | ⟨a1, a2⟩
                · rw [a1, thn_l]
                  show Rch B n _ (.inl e)
                  rw [a3]
                  exact b2'.tr (Rch.go nd2 hst2 (Rch.bad (M := (2, tn B n s2.1, s2.2.1, out2 ++ pend2, st)) a2))
                · rw [a1, thn_in]
                  refine ⟨a2, out2 ++ pend2, [], e2, b2'.tr (Rch.go nd2 hst2 Rch.rf), (fun x hx => by cases hx), b4', (by rw [List.append_nil]; exact b5'), fun v h1 h2 => by omega⟩
              · rw [if_neg c41]
                refine b2'.tr (Rch.no nd2 ?_)
                unfold stepM
                rw [if_pos rfl]
                exact stp_bad b6 rfl b1 (fun z => c41 z.1)
        · rw [if_neg c40]
          have hun : tc B n s.1 = 2 ∨ 144 ≤ tc B n s.1 ∧ tc B n s.1 ≤ 148 := by
            rcases c.2 with z | z | z
            · exact Or.inl z
            · exact absurd z.1 c40
            · exact Or.inr z
          have hstep : stepM B n (now, s.1, s.2.1, out, st) = .inr (2, tn B n s.1, s.2.1 + 1, out ++ [unC B n s.1], st) := by
            rw [est]
            unfold opd
            rw [if_neg nn, if_neg c40, if_pos hun, if_neg (show ¬ s.2.1 = 40 by omega)]
          rcases adv_c (B := B) (n := n) (p := s.1) with ⟨e, a1, a2, a3⟩ | ⟨a1, a2⟩
          · rw [a1, thn_l]
            show Rch B n _ (.inl e)
            rw [a3]
            exact Rch.go nd hstep (Rch.bad (M := (2, tn B n s.1, s.2.1 + 1, out ++ [unC B n s.1], st)) a2)
          · rw [a1, thn_in]
            exact ⟨a2, out ++ [unC B n s.1], [], [unC B n s.1], Rch.go nd hstep Rch.rf, (fun x hx => by cases hx), rfl, (by rw [List.append_nil]), fun v h1 h2 => by omega⟩
      · rw [unitP_n c]
        refine Rch.no nd ?_
        rw [est]
        unfold opd
        rw [if_neg nn]
        by_cases c40 : tc B n s.1 = 40
        · rw [if_pos c40, if_pos, he]
          show s.2.1 = 40 ∨ 7 ≤ deepC st
          by_cases z : s.2.1 < 40
          · by_cases z2 : dp ≤ 6
            · exact absurd ⟨z, Or.inr (Or.inl ⟨c40, z2⟩)⟩ c
            · omega
          · omega
        · rw [if_neg c40]
          by_cases hun : tc B n s.1 = 2 ∨ 144 ≤ tc B n s.1 ∧ tc B n s.1 ≤ 148
          · rw [if_pos hun, if_pos, he]
            show s.2.1 = 40
            by_cases z : s.2.1 < 40
            · exact absurd ⟨z, by rcases hun with y | y; exact Or.inl y; exact Or.inr (Or.inr y)⟩ c
            · omega
          · rw [if_neg hun, he]
