/-! what each line keeps; a line of any kind; a whole text -/
theorem newP_in {B : Nat → Nat} {n m p : Nat} {f : Nat → List Nat} {a : List Nat × Nat} (h : newP B n f m p = .inr a) : (lett a.1 ∧ a.1.length ≤ 8) ∧ (∀ i, i < m → f i ≠ a.1) ∧ p ≤ a.2 := by
  unfold newP at h
  split at h
  · rename_i c
    have tw := tw_ok (Or.inl c)
    cases z : fiP B n f m p with
    | some i => rw [z] at h; cases h
    | none =>
      rw [z] at h
      obtain ⟨q, h1, h2⟩ := thn_inv h
      cases h2
      refine ⟨⟨tw.1, tw.2.1⟩, fun i hi y => ?_, adv_ge h1⟩
      have := fnd_none z i (Nat.zero_le _) (by omega)
      exact absurd y (of_decide_eq_false this)
  · cases h
theorem takeP_in {B : Nat → Nat} {n c p q : Nat} (h : takeP B n c p = .inr q) : p ≤ q ∧ tc B n p = c ∧ q = tn B n p ∧ tc B n q ≠ 3 := by
  unfold takeP at h
  split at h
  · rename_i z
    exact ⟨adv_ge h, z, (adv_in h).1, (adv_in h).2⟩
  · cases h
theorem nbP_in {B : Nat → Nat} {n a b p : Nat} {x : Nat × Nat} (h : nbP B n a b p = .inr x) : a ≤ x.1 ∧ x.1 ≤ b ∧ p ≤ x.2 := by
  unfold nbP at h
  split at h
  · split at h
    · rename_i z
      obtain ⟨q, h1, h2⟩ := thn_inv h
      cases h2
      exact ⟨z.1, z.2, adv_ge h1⟩
    · cases h
  · cases h
theorem ifP_in {B : Nat → Nat} {n c p : Nat} {x : Bool × Nat} (h : ifP B n c p = .inr x) : p ≤ x.2 := by
  unfold ifP at h
  split at h
  · obtain ⟨q, h1, h2⟩ := thn_inv h
    cases h2
    exact adv_ge h1
  · cases h; exact Nat.le_refl _
theorem odP_in {B : Nat → Nat} {n m p : Nat} {f : Nat → List Nat} {bt : Option Nat} {a : Nat × Nat} (h : odP B n f m bt p = .inr a) : a.1 < m ∧ p ≤ a.2 := by
  unfold odP at h
  obtain ⟨i, h1, h2⟩ := thn_inv h
  have t := tdP_in h1
  split at h2
  · cases h2
  · obtain ⟨q, h3, h4⟩ := thn_inv h2
    cases h4
    have := adv_ge h3
    exact ⟨t.1, by have := t.2; simp only at *; omega⟩
theorem woP_ge {B : Nat → Nat} {n p : Nat} {a : Int × Nat} (h : woP B n p = .inr a) : p ≤ a.2 := by
  unfold woP at h
  split at h
  · obtain ⟨q, h1, h2⟩ := thn_inv h
    have := adv_ge h1
    have := adv_ge (wrP_in h2).2
    omega
  · exact adv_ge (wrP_in h).2
theorem nn_ok {d d2 : HD} {N : Nat → Nat → List Nat} {k0 : Nat} {w : List Nat} (hc : ∀ k, k < 3 → cnt d2 k = if k = k0 then cnt d k + 1 else cnt d k) (h2 : ∀ k i, k < 3 → i < cnt d k → lett (N k i) ∧ (N k i).length ≤ 8) (h3 : ∀ k i j, k < 3 → i < cnt d k → j < cnt d k → N k i = N k j → i = j) (hw : lett w ∧ w.length ≤ 8) (hf : ∀ i, i < cnt d k0 → N k0 i ≠ w) : (∀ k i, k < 3 → i < cnt d2 k → lett (nN N k0 (cnt d k0) w k i) ∧ (nN N k0 (cnt d k0) w k i).length ≤ 8) ∧ ∀ k i j, k < 3 → i < cnt d2 k → j < cnt d2 k → nN N k0 (cnt d k0) w k i = nN N k0 (cnt d k0) w k j → i = j := by
  have hs : ∀ k i, k < 3 → i < cnt d2 k → (k = k0 ∧ i = cnt d k0) ∨ ¬ (k = k0 ∧ i = cnt d k0) ∧ i < cnt d k := fun k i hk hi => by
    rw [hc k hk] at hi
    by_cases c : k = k0
    · subst c
      rw [if_pos rfl] at hi
      by_cases c2 : i = cnt d k
      · exact Or.inl ⟨rfl, c2⟩
      · exact Or.inr ⟨fun z => c2 z.2, by omega⟩
    · rw [if_neg c] at hi
      exact Or.inr ⟨fun z => c z.1, hi⟩
  unfold nN
  refine ⟨fun k i hk hi => ?_, fun k i j hk hi hj => ?_⟩
  · rcases hs k i hk hi with c | ⟨c, c2⟩
    · rw [if_pos c]; exact hw
    · rw [if_neg c]; exact h2 k i hk c2
  · rcases hs k i hk hi with c | ⟨c, c2⟩ <;> rcases hs k j hk hj with c3 | ⟨c3, c4⟩
    · intro _; rw [c.2, c3.2]
    · rw [if_pos c, if_neg c3]
      intro z
      rw [c.1] at c4 z
      exact absurd z.symm (hf j c4)
    · rw [if_neg c, if_pos c3]
      intro z
      rw [c3.1] at c2 z
      exact absurd z (hf i c2)
    · rw [if_neg c, if_neg c3]
      exact h3 k i j hk c2 c4
theorem chL_in {B : Nat → Nat} {n p : Nat} {S : TD} {a : Nat × TD} (I : PIt S) (h : chL B n S p = .inr a) : PIt a.2 ∧ p ≤ a.1 := by
  obtain ⟨i1, i2, i3, i4, i5, i6, i7, i8, i9⟩ := I
  unfold chL at h
  obtain ⟨p1, s1, h⟩ := thn_inv h
  obtain ⟨wp, s2, h⟩ := thn_inv h
  obtain ⟨p3, s3, h⟩ := thn_inv h
  obtain ⟨xp, s4, h⟩ := thn_inv h
  obtain ⟨bp, s5, h⟩ := thn_inv h
  cases h
  have t1 := of_decide_eq_false (stP_in s1).1
  have t1' := adv_ge (stP_in s1).2
  have t2 := newP_in s2
  have t3 := (takeP_in s3).1
  have t4 := nbP_in s4
  have t5 := ifP_in s5
  refine ⟨⟨⟨by show S.d.C + 1 ≤ 6; omega, i1.M6, i1.X4, i1.D4, fun i hi => ?_, i1.st, i1.di, i1.wi, i1.dl, i1.np⟩, ?_, ?_, i4, i5, i6, i7, i8, i9⟩, by show p ≤ bp.2; have := t2.2.2; omega⟩
  · have hi2 : i < S.d.C + 1 := hi
    show 1 ≤ ud S.d.ho S.d.C xp.1 i ∧ ud S.d.ho S.d.C xp.1 i ≤ 2
    by_cases c : i = S.d.C
    · rw [c, ud_s]; exact ⟨t4.1, t4.2.1⟩
    · rw [ud_n c]; exact i1.ho i (by omega)
  · exact (nn_ok (d := S.d) (d2 := dCh S.d xp.1 bp.1) (k0 := 0) (fun k hk => by rcases (show k = 0 ∨ k = 1 ∨ k = 2 by omega) with z | z | z <;> subst z <;> rfl) i2 i3 t2.1 t2.2.1).1
  · exact (nn_ok (d := S.d) (d2 := dCh S.d xp.1 bp.1) (k0 := 0) (fun k hk => by rcases (show k = 0 ∨ k = 1 ∨ k = 2 by omega) with z | z | z <;> subst z <;> rfl) i2 i3 t2.1 t2.2.1).2
theorem maL_in {B : Nat → Nat} {n p : Nat} {S : TD} {a : Nat × TD} (I : PIt S) (h : maL B n S p = .inr a) : PIt a.2 ∧ p ≤ a.1 := by
  obtain ⟨i1, i2, i3, i4, i5, i6, i7, i8, i9⟩ := I
  unfold maL at h
  obtain ⟨p1, s1, h⟩ := thn_inv h
  obtain ⟨wp, s2, h⟩ := thn_inv h
  obtain ⟨p3, s3, h⟩ := thn_inv h
  obtain ⟨xp, s4, h⟩ := thn_inv h
  obtain ⟨bp, s5, h⟩ := thn_inv h
  cases h
  have t1 := of_decide_eq_false (stP_in s1).1
  have t1' := adv_ge (stP_in s1).2
  have t2 := newP_in s2
  have t3 := (takeP_in s3).1
  have t4 := nbP_in s4
  have t5 := ifP_in s5
  refine ⟨⟨⟨i1.C6, by show S.d.M + 1 ≤ 6; omega, i1.X4, i1.D4, i1.ho, fun i hi => ?_, i1.di, i1.wi, fun i hi => ?_, i1.np⟩, ?_, ?_, fun m x z => ?_, i5, i6, i7, i8, i9⟩, by show p ≤ bp.2; have := t2.2.2; omega⟩
  · have hi2 : i < S.d.M + 1 := hi
    show 1 ≤ ud S.d.st S.d.M xp.1 i ∧ ud S.d.st S.d.M xp.1 i ≤ 30
    by_cases c : i = S.d.M
    · rw [c, ud_s]; exact ⟨t4.1, t4.2.1⟩
    · rw [ud_n c]; exact i1.st i (by omega)
  · have := i1.dl i hi
    show S.d.dm i < S.d.M + 1 ∧ S.d.dx i < S.d.X ∧ S.d.om i < S.d.M + 1 ∧ S.d.ox i < S.d.X
    omega
  · exact (nn_ok (d := S.d) (d2 := dMa S.d xp.1 bp.1) (k0 := 1) (fun k hk => by rcases (show k = 0 ∨ k = 1 ∨ k = 2 by omega) with z | z | z <;> subst z <;> rfl) i2 i3 t2.1 t2.2.1).1
  · exact (nn_ok (d := S.d) (d2 := dMa S.d xp.1 bp.1) (k0 := 1) (fun k hk => by rcases (show k = 0 ∨ k = 1 ∨ k = 2 by omega) with z | z | z <;> subst z <;> rfl) i2 i3 t2.1 t2.2.1).2
  · have := i4 m x z
    show m < S.d.M + 1 ∧ x < S.d.X
    omega
theorem mtL_in {B : Nat → Nat} {n p : Nat} {S : TD} {a : Nat × TD} (I : PIt S) (h : mtL B n S p = .inr a) : PIt a.2 ∧ p ≤ a.1 := by
  obtain ⟨i1, i2, i3, i4, i5, i6, i7, i8, i9⟩ := I
  unfold mtL at h
  obtain ⟨p1, s1, h⟩ := thn_inv h
  obtain ⟨wp, s2, h⟩ := thn_inv h
  obtain ⟨p3, s3, h⟩ := thn_inv h
  obtain ⟨xp, s4, h⟩ := thn_inv h
  cases h
  have t1 := of_decide_eq_false (stP_in s1).1
  have t1' := adv_ge (stP_in s1).2
  have t2 := newP_in s2
  have t3 := (takeP_in s3).1
  have t4 := nbP_in s4
  refine ⟨⟨⟨i1.C6, i1.M6, by show S.d.X + 1 ≤ 4; omega, i1.D4, i1.ho, i1.st, fun i hi => ?_, i1.wi, fun i hi => ?_, i1.np⟩, ?_, ?_, fun m x z => ?_, i5, i6, i7, i8, i9⟩, by show p ≤ xp.2; have := t2.2.2; omega⟩
  · have hi2 : i < S.d.X + 1 := hi
    show 1 ≤ ud S.d.di S.d.X xp.1 i ∧ ud S.d.di S.d.X xp.1 i ≤ 999
    by_cases c : i = S.d.X
    · rw [c, ud_s]; exact ⟨t4.1, t4.2.1⟩
    · rw [ud_n c]; exact i1.di i (by omega)
  · have := i1.dl i hi
    show S.d.dm i < S.d.M ∧ S.d.dx i < S.d.X + 1 ∧ S.d.om i < S.d.M ∧ S.d.ox i < S.d.X + 1
    omega
  · exact (nn_ok (d := S.d) (d2 := dMt S.d xp.1) (k0 := 2) (fun k hk => by rcases (show k = 0 ∨ k = 1 ∨ k = 2 by omega) with z | z | z <;> subst z <;> rfl) i2 i3 t2.1 t2.2.1).1
  · exact (nn_ok (d := S.d) (d2 := dMt S.d xp.1) (k0 := 2) (fun k hk => by rcases (show k = 0 ∨ k = 1 ∨ k = 2 by omega) with z | z | z <;> subst z <;> rfl) i2 i3 t2.1 t2.2.1).2
  · have := i4 m x z
    show m < S.d.M ∧ x < S.d.X + 1
    omega
theorem wiL_in {B : Nat → Nat} {n p : Nat} {S : TD} {a : Nat × TD} (I : PIt S) (h : wiL B n S p = .inr a) : PIt a.2 ∧ p ≤ a.1 := by
  obtain ⟨i1, i2, i3, i4, i5, i6, i7, i8, i9⟩ := I
  unfold wiL at h
  obtain ⟨p1, s1, h⟩ := thn_inv h
  obtain ⟨ip, s2, h⟩ := thn_inv h
  obtain ⟨xp, s3, h⟩ := thn_inv h
  obtain ⟨p3, s4, h⟩ := thn_inv h
  obtain ⟨vp, s5, h⟩ := thn_inv h
  cases h
  have t1 := of_decide_eq_false (stP_in s1).1
  have t1' := adv_ge (stP_in s1).2
  have t2 := odP_in s2
  have t3 := tdP_in s3
  have t4 : xp.2 ≤ p3 := by
    split at s4
    · cases s4
    · exact adv_ge s4
  have t5 := woP_in s5
  have t6 := woP_ge s5
  refine ⟨⟨⟨i1.C6, i1.M6, i1.X4, i1.D4, i1.ho, i1.st, i1.di, fun m x => ?_, i1.dl, i1.np⟩, i2, i3, fun m x z => ?_, fun m x z => ?_, by show S.d.W + 1 ≤ 24; omega, i7, i8, i9⟩, by show p ≤ vp.2; have := t2.2; have := t3.2; omega⟩
  · show -99 ≤ ud2 S.d.wi ip.1 xp.1 vp.1 m x ∧ ud2 S.d.wi ip.1 xp.1 vp.1 m x ≤ 99
    unfold ud2
    split
    · exact t5
    · exact i1.wi m x
  · have z : ud2 S.w ip.1 xp.1 true m x = true := z
    show m < S.d.M ∧ x < S.d.X
    unfold ud2 at z
    split at z
    · rename_i c; rw [c.1, c.2]; exact ⟨t2.1, t3.1⟩
    · exact i4 m x z
  · have z : ud2 S.w ip.1 xp.1 true m x = false := z
    show ud2 S.d.wi ip.1 xp.1 vp.1 m x = 0
    unfold ud2 at z ⊢
    split at z
    · cases z
    · rename_i c; rw [if_neg c]; exact i5 m x z
theorem deL_in {B : Nat → Nat} {n p : Nat} {S : TD} {a : Nat × TD} (I : PIt S) (h : deL B n S p = .inr a) : PIt a.2 ∧ p ≤ a.1 := by
  obtain ⟨i1, i2, i3, i4, i5, i6, i7, i8, i9⟩ := I
  unfold deL at h
  obtain ⟨p1, s1, h⟩ := thn_inv h
  obtain ⟨ip, s2, h⟩ := thn_inv h
  obtain ⟨xp, s3, h⟩ := thn_inv h
  obtain ⟨p3, s4, h⟩ := thn_inv h
  obtain ⟨op, s5, h⟩ := thn_inv h
  obtain ⟨zp, s6, h⟩ := thn_inv h
  cases h
  have t1 := of_decide_eq_false (stP_in s1).1
  have t1' := adv_ge (stP_in s1).2
  have t2 := odP_in s2
  have t3 := odP_in s3
  have t4 := (takeP_in s4).1
  have t5 := odP_in s5
  have t6 := odP_in s6
  refine ⟨⟨⟨i1.C6, i1.M6, i1.X4, by show S.d.D + 1 ≤ 4; omega, i1.ho, i1.st, i1.di, i1.wi, fun i hi => ?_, i1.np⟩, i2, i3, i4, i5, i6, i7, i8, i9⟩, by show p ≤ zp.2; omega⟩
  have hi2 : i < S.d.D + 1 := hi
  show ud S.d.dm S.d.D ip.1 i < S.d.M ∧ ud S.d.dx S.d.D xp.1 i < S.d.X ∧ ud S.d.om S.d.D op.1 i < S.d.M ∧ ud S.d.ox S.d.D zp.1 i < S.d.X
  by_cases c : i = S.d.D
  · rw [c, ud_s, ud_s, ud_s, ud_s]; exact ⟨t2.1, t3.1, t5.1, t6.1⟩
  · rw [ud_n c, ud_n c, ud_n c, ud_n c]; exact i1.dl i (by omega)
theorem naL_in {B : Nat → Nat} {n p : Nat} {S : TD} {a : Nat × TD} (I : PIt S) (h : naL B n S p = .inr a) : PIt a.2 ∧ p ≤ a.1 := by
  obtain ⟨i1, i2, i3, i4, i5, i6, i7, i8, i9⟩ := I
  unfold naL at h
  obtain ⟨p1, s1, h⟩ := thn_inv h
  obtain ⟨xp, s2, h⟩ := thn_inv h
  cases h
  have t1' := adv_ge (stP_in s1).2
  have t2 := nbP_in s2
  exact ⟨⟨⟨i1.C6, i1.M6, i1.X4, i1.D4, i1.ho, i1.st, i1.di, i1.wi, i1.dl, t2.2.1⟩, i2, i3, i4, i5, i6, i7, i8, i9⟩, by show p ≤ xp.2; omega⟩
theorem paL_in {B : Nat → Nat} {n p : Nat} {S : TD} {a : Nat × TD} (I : PIt S) (h : paL B n S p = .inr a) : PIt a.2 ∧ p ≤ a.1 := by
  obtain ⟨i1, i2, i3, i4, i5, i6, i7, i8, i9⟩ := I
  unfold paL paX paE at h
  obtain ⟨p1, s1, h⟩ := thn_inv h
  obtain ⟨s, s2, h⟩ := thn_inv h
  cases h
  have t1' := adv_ge (stP_in s1).2
  obtain ⟨o1, o2, o3, e, o4, o5, o6, o7⟩ := exP_ok 200 0 0 (p1, 0, []) s (by decide) (Nat.zero_le _) s2
  have o4 : s.2.2 = e := o4
  have o5 : e.length + 1 + 0 ≤ 9 * (s.2.1 - 0) := o5
  have o1 : p1 ≤ s.1 := o1
  refine ⟨⟨⟨i1.C6, i1.M6, i1.X4, i1.D4, i1.ho, i1.st, i1.di, i1.wi, i1.dl, i1.np⟩, i2, i3, i4, i5, i6, ?_, o3, fun z => by cases z⟩, by show p ≤ s.1; omega⟩
  show WFR s.2.2
  rw [o4]
  refine ⟨by omega, ?_, fun i hi => ?_⟩
  · have := o6 0 [] (by show 0 + (s.2.1 - 0) ≤ 42; omega)
    rw [List.append_nil] at this
    exact this
  · rw [List.getD_eq_getElem?_getD, List.getElem?_eq_getElem hi]
    exact o7 _ (List.getElem_mem hi)
noncomputable def liL (B : Nat → Nat) (n : Nat) (S : TD) (p : Nat) : Sum (Nat × Nat) (Nat × TD) := if tc B n p = 128 then chL B n S p else if tc B n p = 131 then maL B n S p else if tc B n p = 134 then mtL B n S p else if tc B n p = 136 then wiL B n S p else if tc B n p = 137 then deL B n S p else if tc B n p = 139 then naL B n S p else if tc B n p = 140 then paL B n S p else .inl (2, tp B n p)
theorem liL_in {B : Nat → Nat} {n p : Nat} {S : TD} {a : Nat × TD} (I : PIt S) (h : liL B n S p = .inr a) : PIt a.2 ∧ p ≤ a.1 := by
  unfold liL at h
  split at h
  · exact chL_in I h
  · split at h
    · exact maL_in I h
    · split at h
      · exact mtL_in I h
      · split at h
        · exact wiL_in I h
        · split at h
          · exact deL_in I h
          · split at h
            · exact naL_in I h
            · split at h
              · exact paL_in I h
              · cases h
theorem clL_in {B : Nat → Nat} {n p : Nat} {S : TD} {a : Nat × TD} (I : PIt S) (h : clL B n (liL B n S p) = .inr a) : PIt a.2 ∧ p < a.1 ∧ tc B n a.1 ≠ 3 := by
  obtain ⟨b, h1, h2⟩ := thn_inv h
  have := liL_in I h1
  unfold clE at h2
  obtain ⟨q, h3, h4⟩ := thn_inv h2
  cases h4
  have t := takeP_in h3
  refine ⟨this.1, ?_, t.2.2.2⟩
  have l := tn_gt (show tc B n b.1 ≠ 0 by omega)
  have := t.2.2.1
  show p < q
  omega
