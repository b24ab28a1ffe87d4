/-! the steps of which a line is made, in the reference -/
def RFl (k q : Nat) (h : HI) : Prop := h.1 101 2 = nI k ∧ h.1 101 3 = nI q ∧ 1 ≤ k ∧ k ≤ 5
def RQ (B : Nat → Nat) (n : Nat) (r : Sum (Nat × Nat) Nat) (h : HI) : Prop := (∃ e, r = .inl e ∧ RFl e.1 e.2 h) ∨ ∃ p, r = tk B n p ∧ RTk B n p h
def RV {α : Type} (B : Nat → Nat) (n : Nat) (R : α → Int32 → Prop) (r : Sum (Nat × Nat) (α × Nat)) (v : Int32) (h : HI) : Prop := (∃ e, r = .inl e ∧ RFl e.1 e.2 h) ∨ ∃ a p, r = thn (tk B n p) (fun q => .inr (a, q)) ∧ R a v ∧ RTk B n p h
theorem RFl.f {k q : Nat} {h : HI} (C : RFl k q h) : ¬ h.1 101 2 ≤ 0 ∧ ¬ h.1 101 2 = 0 := by
  have h1 := C.2.2.1
  have h2 := C.2.2.2
  rw [C.1]
  exact ⟨nI_nle (by omega) (by omega), nI_ne0 (by omega) (by omega)⟩
theorem RTk.f {B : Nat → Nat} {n p : Nat} {h : HI} (C : RTk B n p h) : h.1 101 2 = 0 := C.2.2.2.2.2.2.1
theorem RTk.le {B : Nat → Nat} {n p : Nat} {h : HI} (C : RTk B n p h) : h.1 101 2 ≤ 0 := by rw [C.f]; decide
theorem tk3 {B : Nat → Nat} {n p : Nat} (h : tc B n p = 3) : tk B n p = .inl (1, tp B n p) := by unfold tk; rw [if_pos h]
theorem tkn {B : Nat → Nat} {n p : Nat} (h : tc B n p ≠ 3) : tk B n p = .inr p := by unfold tk; rw [if_neg h]
theorem rt_token {B : Nat → Nat} {n p : Nat} {h : HI} (X : TX B n) (T : TR B n h) (C : RTk B n p h) (h3 : tc B n p ≠ 3) : ∃ g, fX9_token 101 h = some g ∧ Fr WT h g ∧ RTk B n (tn B n p) g := r_tok0 X T (tn_le C.1) (C.2.1 h3) C.2.2.2.2.2.2.1 C.2.2.2.2.2.2.2
theorem so_eq {B : Nat → Nat} {n p : Nat} {h : HI} (C : RTk B n p h) {c : Nat} (hc : c < 128) : h.1 101 6 = nI c ↔ srt (tc B n p) = c := by
  have := srt_lt (c := tc B n p)
  rw [C.2.2.1]
  exact nI_eq (by omega) (by omega)
theorem srt_2 {c v : Nat} (hv : v ≠ 1) (hv2 : v < 128) : srt c = v ↔ c = v := by unfold srt; split <;> omega
theorem so_eq2 {B : Nat → Nat} {n p : Nat} {h : HI} (C : RTk B n p h) {c : Nat} (hc : c < 128) (h1 : c ≠ 1) : h.1 101 6 = nI c ↔ tc B n p = c := (so_eq C hc).trans (srt_2 h1 hc)
theorem rt_wrongAt {B : Nat → Nat} {n p : Nat} {h : HI} (C : RTk B n p h) {k z : Nat} (hz : z < 2 ^ 31) (h1 : 1 ≤ k) (h5 : k ≤ 5) (hn : tp B n p < 2 ^ 31) : ∃ g, fX9_wrongAt 101 h (nI k) (nI z) = some g ∧ Fr WT h g ∧ RFl (if tc B n p = 3 ∧ z = tp B n p then 1 else k) z g := by
  unfold fX9_wrongAt fX9_wrongAt_29 fX9_wrongAt_30
  rw [if_pos C.le, C.2.2.2.1]
  have fin : ∀ v : Nat, 1 ≤ v → v ≤ 5 → ∃ g, (some (uI (uI h 101 2 (nI v)) 101 3 (nI z)) : Option HI) = some g ∧ Fr WT h g ∧ RFl v z g := fun v h1 h5 => ⟨_, rfl, (Fr.uI (by unfold WT; omega)).tr (Fr.uI (by unfold WT; omega)), by rw [uI_n (by omega), uI_s], uI_s _ _ _ _, h1, h5⟩
  by_cases c : tc B n p = 3
  · rw [if_pos (show h.1 101 6 = (3 : Int32) from (so_eq2 C (c := 3) (by decide) (by decide)).mpr c)]
    by_cases c2 : z = tp B n p
    · rw [if_pos (congrArg nI c2), if_pos ⟨c, c2⟩]
      exact fin 1 (by decide) (by decide)
    · rw [if_neg (fun y => c2 ((nI_eq hz hn).mp y)), if_neg (fun y => c2 y.2)]
      exact fin k h1 h5
  · rw [if_neg (show ¬ h.1 101 6 = (3 : Int32) from fun y => c ((so_eq2 C (c := 3) (by decide) (by decide)).mp y)), if_neg (fun y => c y.1)]
    exact fin k h1 h5
theorem rt_wrong {B : Nat → Nat} {n p : Nat} {h : HI} (X : TX B n) (C : RTk B n p h) {k : Nat} (h1 : 1 ≤ k) (h5 : k ≤ 5) : ∃ g e, fX9_wrong 101 h (nI k) = some g ∧ Fr WT h g ∧ RFl e.1 e.2 g ∧ ∀ {α : Type} (f : Nat → Sum (Nat × Nat) α), (tc B n p ≠ 3 → f p = .inl (k, tp B n p)) → thn (tk B n p) f = .inl e := by
  have hn := X.1
  have h2 := tp_le (B := B) C.1
  obtain ⟨g, a1, a2, a3⟩ := rt_wrongAt C (k := k) (z := tp B n p) (by omega) h1 h5 (by omega)
  unfold fX9_wrong
  rw [C.2.2.2.1, a1, Option.bind_some]
  by_cases c : tc B n p = 3
  · rw [if_pos ⟨c, rfl⟩] at a3
    exact ⟨g, (1, tp B n p), rfl, a2, a3, fun f hf => by rw [tk3 c]; rfl⟩
  · rw [if_neg (fun y => c y.1)] at a3
    exact ⟨g, (k, tp B n p), rfl, a2, a3, fun f hf => by rw [tkn c]; exact hf c⟩
theorem r_isW {B : Nat → Nat} {n p i : Nat} {h : HI} (C : RTk B n p h) (hi : i < 21) : fX9_isWord 101 h (lN (c8 (K i))) = some (b01 (decide (tc B n p = 128 + i)), h) := by
  unfold fX9_isWord
  by_cases c : srt (tc B n p) = 1
  · have c1 : tc B n p = 1 ∨ 128 ≤ tc B n p := by unfold srt at c; split at c <;> omega
    have hw := tw_ok c1
    rw [if_pos (show h.1 101 6 = (1 : Int32) from (so_eq C (c := 1) (by decide)).mpr c), C.2.2.2.2.2.1 c1]
    have e : lg_cmp (lN (c8 (tw B n p))) (lN (c8 (K i))) = 0 ↔ tc B n p = 128 + i := by
      rw [cmpE, c8_w hw.1 (K_lett hi) hw.2.1 (K_ok i hi).1, hw.2.2, kwc_i hi]
      exact ⟨fun z => z.symm, fun z => z.symm⟩
    by_cases q : tc B n p = 128 + i
    · rw [if_pos (e.mpr q), decide_eq_true q]; rfl
    · rw [if_neg (fun z => q (e.mp z)), decide_eq_false q]; rfl
  · rw [if_neg (show ¬ h.1 101 6 = (1 : Int32) from fun z => c ((so_eq C (c := 1) (by decide)).mp z)), decide_eq_false]
    · rfl
    · intro z; rw [z] at c; unfold srt at c; rw [if_pos (by omega)] at c; exact c rfl
theorem r_cw {B : Nat → Nat} {n p i : Nat} {h : HI} (C : RTk B n p h) (c1 : tc B n p = 1 ∨ 128 ≤ tc B n p) (hi : i < 21) : lg_cmp (h.2 101 9) (lN (c8 (K i))) = 0 ↔ tc B n p = 128 + i := by
  have hw := tw_ok c1
  rw [C.2.2.2.2.2.1 c1, cmpE, c8_w hw.1 (K_lett hi) hw.2.1 (K_ok i hi).1, hw.2.2, kwc_i hi]
  exact ⟨fun z => z.symm, fun z => z.symm⟩
theorem kk : (426952976754 : Int64) = lN (c8 (K 0)) ∧ (448545973363 : Int64) = lN (c8 (K 1)) ∧ (495874699116 : Int64) = lN (c8 (K 2)) ∧ (7168366 : Int64) = lN (c8 (K 3)) ∧ (126943973305959 : Int64) = lN (c8 (K 4)) ∧ (1685024626 : Int64) = lN (c8 (K 5)) ∧ (120265333040498 : Int64) = lN (c8 (K 6)) ∧ (1684628851 : Int64) = lN (c8 (K 7)) ∧ (2003399528 : Int64) = lN (c8 (K 8)) ∧ (1684365676 : Int64) = lN (c8 (K 9)) ∧ (6713202 : Int64) = lN (c8 (K 10)) := by decide +kernel
theorem kk2 : (7233904 : Int64) = lN (c8 (K 11)) ∧ (1885434739 : Int64) = lN (c8 (K 12)) ∧ (28530 : Int64) = lN (c8 (K 13)) ∧ (6385252 : Int64) = lN (c8 (K 14)) ∧ (7237492 : Int64) = lN (c8 (K 15)) ∧ (7955827 : Int64) = lN (c8 (K 16)) ∧ (28271 : Int64) = lN (c8 (K 17)) ∧ (1936290931 : Int64) = lN (c8 (K 18)) ∧ (126943688025203 : Int64) = lN (c8 (K 19)) ∧ (1751478885 : Int64) = lN (c8 (K 20)) := by decide +kernel
theorem r_isN {B : Nat → Nat} {n p : Nat} {h : HI} (C : RTk B n p h) : fX9_isName 101 h = some (b01 (decide (tc B n p = 1)), h) := by
  have hlt := tc_lt B n p
  obtain ⟨k0, k1, k2, k3, k4, k5, k6, k7, k8, k9, k10⟩ := kk
  obtain ⟨k11, k12, k13, k14, k15, k16, k17, k18, k19, k20⟩ := kk2
  unfold fX9_isName
  by_cases c : srt (tc B n p) = 1
  · have c1 : tc B n p = 1 ∨ 128 ≤ tc B n p := by unfold srt at c; split at c <;> omega
    have w : ∀ i, i < 21 → (lg_cmp (h.2 101 9) (lN (c8 (K i))) = 0 ↔ tc B n p = 128 + i) := fun i hi => r_cw C c1 hi
    rw [if_pos (show h.1 101 6 = (1 : Int32) from (so_eq C (c := 1) (by decide)).mpr c)]
    unfold fX9_isName_131 fX9_isName_136 fX9_isName_247 fX9_isName_252
    rw [k0, k1, k2, k3, k4, k5, k6, k7, k8, k9, k10, k11, k12, k13, k14, k15, k16, k17, k18, k19, k20]
    rcases c1 with e | e
    · rw [decide_eq_true e]
      have ne : ∀ i, i < 21 → ¬ lg_cmp (h.2 101 9) (lN (c8 (K i))) = 0 := fun i hi z => by have := (w i hi).mp z; omega
      rw [if_neg (ne 0 (by decide)), if_neg (ne 1 (by decide)), if_neg (ne 2 (by decide)), if_neg (ne 3 (by decide)), if_neg (ne 4 (by decide)), if_neg (ne 5 (by decide)), if_neg (ne 6 (by decide)), if_neg (ne 7 (by decide)), if_neg (ne 8 (by decide)), if_neg (ne 9 (by decide)), if_neg (ne 10 (by decide)), if_neg (ne 11 (by decide)), if_neg (ne 12 (by decide)), if_neg (ne 16 (by decide)), if_neg (ne 17 (by decide)), if_neg (ne 18 (by decide)), if_neg (ne 19 (by decide)), if_neg (ne 20 (by decide)), if_neg (ne 14 (by decide)), if_neg (ne 13 (by decide)), if_neg (ne 15 (by decide)), if_pos rfl, if_pos rfl]; rfl
    · rw [decide_eq_false (by omega)]
      obtain ⟨i, hi, ei⟩ : ∃ i, i < 21 ∧ tc B n p = 128 + i := ⟨tc B n p - 128, by omega, by omega⟩
      have we : ∀ j, j < 21 → (lg_cmp (h.2 101 9) (lN (c8 (K j))) = 0 ↔ i = j) := fun j hj => (w j hj).trans (by omega)
      have z10 : ¬ ((1 : Int32) = 0) := by decide
      simp only [we, hi, Nat.reduceLT, z10, if_false, if_true, ite_self]
      rcases (show i = 0 ∨ i = 1 ∨ i = 2 ∨ i = 3 ∨ i = 4 ∨ i = 5 ∨ i = 6 ∨ i = 7 ∨ i = 8 ∨ i = 9 ∨ i = 10 ∨ i = 11 ∨ i = 12 ∨ i = 13 ∨ i = 14 ∨ i = 15 ∨ i = 16 ∨ i = 17 ∨ i = 18 ∨ i = 19 ∨ i = 20 by omega) with z | z | z | z | z | z | z | z | z | z | z | z | z | z | z | z | z | z | z | z | z <;> subst z <;> rfl
  · rw [if_neg (show ¬ h.1 101 6 = (1 : Int32) from fun z => c ((so_eq C (c := 1) (by decide)).mp z)), decide_eq_false]
    · rfl
    · intro z; rw [z] at c; exact c rfl
theorem rf_want {k q : Nat} {h : HI} (C : RFl k q h) (w : Int64) : fX9_want 101 h w = some h := by unfold fX9_want; rw [if_neg C.f.1]
theorem rf_nb {k q : Nat} {h : HI} (C : RFl k q h) (a b : Int32) : fX9_toldNumber 101 h a b = some (0, h) := by unfold fX9_toldNumber; rw [if_neg C.f.1]
theorem rf_signed {k q : Nat} {h : HI} (C : RFl k q h) (a b : Int32) : fX9_signed 101 h a b = some (0, h) := by unfold fX9_signed; rw [if_neg C.f.1]
theorem rf_old {k q : Nat} {h : HI} (C : RFl k q h) (a b : Int32) : fX9_old 101 h a b = some (0, h) := by unfold fX9_old; rw [if_neg C.f.1]
theorem rf_wrong {k q : Nat} {h : HI} (C : RFl k q h) (a : Int32) : fX9_wrong 101 h a = some h := by unfold fX9_wrong fX9_wrongAt; rw [if_neg C.f.1, Option.bind_some]
theorem thn_in {α β : Type} (a : α) (f : α → Sum (Nat × Nat) β) : thn (.inr a) f = f a := rfl
theorem thn_l {α β : Type} (e : Nat × Nat) (f : α → Sum (Nat × Nat) β) : thn (.inl e) f = .inl e := rfl
theorem r_want {B : Nat → Nat} {n i : Nat} {h : HI} {r : Sum (Nat × Nat) Nat} (X : TX B n) (T : TR B n h) (C : RQ B n r h) (hi : i < 21) : ∃ g, fX9_want 101 h (lN (c8 (K i))) = some g ∧ Fr WT h g ∧ RQ B n (thn r (takeP B n (128 + i))) g := by
  rcases C with ⟨e, rfl, C⟩ | ⟨p, rfl, C⟩
  · exact ⟨h, rf_want C _, Fr.rf, Or.inl ⟨e, rfl, C⟩⟩
  · unfold fX9_want
    rw [if_pos C.le, r_isW C hi, Option.bind_some]
    by_cases q : tc B n p = 128 + i
    · obtain ⟨g, a1, a2, a3⟩ := rt_token X T C (by omega)
      rw [decide_eq_true q, if_neg b01t, a1, Option.bind_some, tkn (by omega), thn_in]
      refine ⟨g, rfl, a2, Or.inr ⟨tn B n p, ?_, a3⟩⟩
      unfold takeP; rw [if_pos q]; rfl
    · obtain ⟨g, e, a1, a2, a3, a4⟩ := rt_wrong X C (k := 2) (by decide) (by decide)
      rw [decide_eq_false q, if_pos b01f, show (2 : Int32) = nI 2 from rfl, a1, Option.bind_some]
      exact ⟨g, rfl, a2, Or.inl ⟨e, a4 _ (fun _ => by unfold takeP; rw [if_neg q]), a3⟩⟩
theorem r_nb {B : Nat → Nat} {n a b : Nat} {h : HI} {r : Sum (Nat × Nat) Nat} (X : TX B n) (T : TR B n h) (C : RQ B n r h) (hb : b < 10000) (hab : a ≤ b) : ∃ v g, fX9_toldNumber 101 h (nI a) (nI b) = some (v, g) ∧ Fr WT h g ∧ RV B n (fun x v => v = nI x) (thn r (nbP B n a b)) v g := by
  rcases C with ⟨e, rfl, C⟩ | ⟨p, rfl, C⟩
  · exact ⟨0, h, rf_nb C _ _, Fr.rf, Or.inl ⟨e, rfl, C⟩⟩
  · unfold fX9_toldNumber fX9_toldNumber_41 fX9_toldNumber_46
    rw [if_pos C.le]
    have bad : ∀ k, 1 ≤ k → k ≤ 5 → (tc B n p ≠ 3 → nbP B n a b p = .inl (k, tp B n p)) → ∃ v g, ((fX9_wrong 101 h (nI k)).bind fun h1 => (if (h1.1 101 2) = 0 then ((fX9_token 101 h1).bind fun h2 => some ((h1.1 101 8), h2)) else some ((h1.1 101 8), h1))) = some (v, g) ∧ Fr WT h g ∧ RV B n (fun x v => v = nI x) (thn (tk B n p) (nbP B n a b)) v g := by
      intro k h1 h5 hk
      obtain ⟨g, e, a1, a2, a3, a4⟩ := rt_wrong X C h1 h5
      rw [a1, Option.bind_some, if_neg a3.f.2]
      exact ⟨_, g, rfl, a2, Or.inl ⟨e, a4 _ hk, a3⟩⟩
    by_cases q : tc B n p = 2
    · rw [if_pos (show h.1 101 6 = (2 : Int32) from (so_eq2 C (c := 2) (by decide) (by decide)).mpr q), C.2.2.2.2.1 q]
      have hv := tv_lt q
      by_cases c1 : tv B n p < a
      · rw [if_pos (nI_lt c1 (by omega))]
        exact bad 4 (by decide) (by decide) (fun _ => by unfold nbP; rw [if_pos q, if_neg (by omega)])
      · rw [if_neg (nI_nlt (by omega) (by omega))]
        by_cases c2 : tv B n p ≤ b
        · obtain ⟨g, a1, a2, a3⟩ := rt_token X T C (by omega)
          rw [if_pos (nI_le c2 (by omega)), if_pos C.f, a1, Option.bind_some, tkn (by omega), thn_in]
          refine ⟨_, g, rfl, a2, Or.inr ⟨tv B n p, tn B n p, ?_, rfl, a3⟩⟩
          unfold nbP; rw [if_pos q, if_pos ⟨by omega, c2⟩]; rfl
        · rw [if_neg (nI_ge (by omega) (by omega))]
          exact bad 4 (by decide) (by decide) (fun _ => by unfold nbP; rw [if_pos q, if_neg (fun z => c2 z.2)])
    · rw [if_neg (show ¬ h.1 101 6 = (2 : Int32) from fun z => q ((so_eq2 C (c := 2) (by decide) (by decide)).mp z))]
      exact bad 2 (by decide) (by decide) (fun _ => by unfold nbP; rw [if_neg q])
theorem r_sg39 {B : Nat → Nat} {n z p : Nat} {h : HI} (X : TX B n) (T : TR B n h) (C : RTk B n p h) (hz : z ≤ n) (s : Bool) : ∃ v g, fX9_signed_39 101 h (-99) 99 (nI z) (b01 s) = some (v, g) ∧ Fr WT h g ∧ RV B n (fun x v => v = Int32.ofInt x) (thn (tk B n p) (wrP B n z s)) v g := by
  have hn := X.1
  have h2 := tp_le (B := B) C.1
  unfold fX9_signed_39 fX9_signed_52 fX9_signed_69 fX9_signed_90 fX9_signed_96
  by_cases q : tc B n p = 2
  · have hv := tv_lt q
    have es : (if b01 s = 0 then (h.1 101 8) else -(h.1 101 8)) = Int32.ofInt (if s then -(tv B n p : Int) else (tv B n p : Int)) := by
      rw [C.2.2.2.2.1 q]
      cases s with
      | false => rw [if_pos b01f]; rfl
      | true => rw [if_neg b01t]; exact ofI_neg _
    have e0 : ∀ (f : Int32 → Option (Int32 × HI)), (if b01 s = 0 then f (h.1 101 8) else f (-(h.1 101 8))) = f (Int32.ofInt (if s then -(tv B n p : Int) else (tv B n p : Int))) := fun f => by rw [← es]; split <;> rfl
    rw [if_pos (show h.1 101 6 = (2 : Int32) from (so_eq2 C (c := 2) (by decide) (by decide)).mpr q), e0 (fun s0 => (if (h.1 101 2) = 0 then (if s0 < -99 then ((fX9_wrongAt 101 h 4 (nI z)).bind fun h2 => (if (h2.1 101 2) = 0 then ((fX9_token 101 h2).bind fun h1 => some (s0, h1)) else some (s0, h2))) else (if s0 ≤ 99 then (if (h.1 101 2) = 0 then ((fX9_token 101 h).bind fun h1 => some (s0, h1)) else some (s0, h)) else ((fX9_wrongAt 101 h 4 (nI z)).bind fun h2 => (if (h2.1 101 2) = 0 then ((fX9_token 101 h2).bind fun h1 => some (s0, h1)) else some (s0, h2))))) else (if (h.1 101 2) = 0 then ((fX9_token 101 h).bind fun h1 => some (s0, h1)) else some (s0, h)))), if_pos C.f]
    have l1 : Int32.ofInt (if s then -(tv B n p : Int) else (tv B n p : Int)) < -99 ↔ (if s then -(tv B n p : Int) else (tv B n p : Int)) < -99 := by
      rw [show (-99 : Int32) = Int32.ofInt (-99) from rfl, Int32.lt_iff_toInt_lt, Int32.toInt_ofInt_of_le (by split <;> omega) (by split <;> omega), Int32.toInt_ofInt_of_le (by omega) (by omega)]
    have l2 : Int32.ofInt (if s then -(tv B n p : Int) else (tv B n p : Int)) ≤ 99 ↔ (if s then -(tv B n p : Int) else (tv B n p : Int)) ≤ 99 := by
      rw [show (99 : Int32) = Int32.ofInt 99 from rfl, Int32.le_iff_toInt_le, Int32.toInt_ofInt_of_le (by split <;> omega) (by split <;> omega), Int32.toInt_ofInt_of_le (by omega) (by omega)]
    rw [tkn (by omega), thn_in]
    by_cases c2 : tv B n p ≤ 99
    · obtain ⟨g, a1, a2, a3⟩ := rt_token X T C (by omega)
      rw [if_neg (fun y => by have := l1.mp y; split at this <;> omega), if_pos (l2.mpr (by split <;> omega)), if_pos C.f, a1, Option.bind_some]
      refine ⟨_, g, rfl, a2, Or.inr ⟨_, tn B n p, ?_, rfl, a3⟩⟩
      unfold wrP; rw [if_pos q, if_pos c2]; rfl
    · obtain ⟨g, a1, a2, a3⟩ := rt_wrongAt C (k := 4) (z := z) (by omega) (by decide) (by decide) (by omega)
      have a1' : fX9_wrongAt 101 h 4 (nI z) = some g := a1
      rw [if_neg (show ¬ (tc B n p = 3 ∧ z = tp B n p) by omega)] at a3
      have fin : ∃ v g, (some (Int32.ofInt (if s then -(tv B n p : Int) else (tv B n p : Int)), g) : Option (Int32 × HI)) = some (v, g) ∧ Fr WT h g ∧ RV B n (fun x v => v = Int32.ofInt x) (wrP B n z s p) v g := ⟨_, g, rfl, a2, Or.inl ⟨(4, z), by unfold wrP; rw [if_pos q, if_neg c2], a3⟩⟩
      rw [a1', Option.bind_some, if_neg a3.f.2]
      cases s with
      | false =>
        rw [if_neg (fun y => by have := l1.mp y; simp at this; omega), if_neg (fun y => by have := l2.mp y; simp at this; omega)]
        exact ⟨_, g, rfl, a2, Or.inl ⟨(4, z), by unfold wrP; rw [if_pos q, if_neg c2], a3⟩⟩
      | true =>
        rw [if_pos (l1.mpr (by simp; omega))]
        exact ⟨_, g, rfl, a2, Or.inl ⟨(4, z), by unfold wrP; rw [if_pos q, if_neg c2], a3⟩⟩
  · obtain ⟨g, e, a1, a2, a3, a4⟩ := rt_wrong X C (k := 2) (by decide) (by decide)
    rw [if_neg (show ¬ h.1 101 6 = (2 : Int32) from fun z => q ((so_eq2 C (c := 2) (by decide) (by decide)).mp z)), show (2 : Int32) = nI 2 from rfl, a1, Option.bind_some, if_neg a3.f.2, if_neg a3.f.2, if_neg a3.f.2, if_neg a3.f.2]
    have hr : RV B n (fun x v => v = Int32.ofInt x) (thn (tk B n p) (wrP B n z s)) = fun v h => RV B n (fun x v => v = Int32.ofInt x) (thn (tk B n p) (wrP B n z s)) v h := rfl
    split
    · exact ⟨_, g, rfl, a2, Or.inl ⟨e, a4 _ (fun _ => by unfold wrP; rw [if_neg q]), a3⟩⟩
    · exact ⟨_, g, rfl, a2, Or.inl ⟨e, a4 _ (fun _ => by unfold wrP; rw [if_neg q]), a3⟩⟩
theorem r_sgn {B : Nat → Nat} {n : Nat} {h : HI} {r : Sum (Nat × Nat) Nat} (X : TX B n) (T : TR B n h) (C : RQ B n r h) : ∃ v g, fX9_signed 101 h (-99) 99 = some (v, g) ∧ Fr WT h g ∧ RV B n (fun x v => v = Int32.ofInt x) (thn r (woP B n)) v g := by
  rcases C with ⟨e, rfl, C⟩ | ⟨p, rfl, C⟩
  · exact ⟨0, h, rf_signed C _ _, Fr.rf, Or.inl ⟨e, rfl, C⟩⟩
  · unfold fX9_signed fX9_signed_28
    rw [if_pos C.le, if_neg (show ¬ (1 : Int32) = 0 by decide), if_pos (show (0 : Int32) = 0 from rfl), C.2.2.2.1]
    by_cases q : tc B n p = 45
    · obtain ⟨g, a1, a2, a3⟩ := rt_token X T C (by omega)
      rw [if_pos (show h.1 101 6 = (45 : Int32) from (so_eq2 C (c := 45) (by decide) (by decide)).mpr q), a1, Option.bind_some, tkn (by omega), thn_in]
      obtain ⟨v, g2, b1, b2, b3⟩ := r_sg39 X (T.t a2) a3 (tp_le C.1) true
      refine ⟨v, g2, b1, a2.tr b2, ?_⟩
      unfold woP; rw [if_pos q]; exact b3
    · rw [if_neg (show ¬ h.1 101 6 = (45 : Int32) from fun z => q ((so_eq2 C (c := 45) (by decide) (by decide)).mp z))]
      obtain ⟨v, g2, b1, b2, b3⟩ := r_sg39 X T C (tp_le C.1) false
      refine ⟨v, g2, b1, b2, ?_⟩
      by_cases c3 : tc B n p = 3
      · rw [tk3 c3] at b3 ⊢; exact b3
      · rw [tkn c3] at b3 ⊢
        rw [thn_in] at b3 ⊢
        unfold woP; rw [if_neg q]; exact b3
/-! names -/
def fnl (P : Nat → Bool) : Nat → Option Nat
  | 0 => none
  | k + 1 => if P k then some k else fnl P k
theorem fnl_fnd {P : Nat → Bool} : ∀ {m : Nat}, (∀ i j, i < m → j < m → P i = true → P j = true → i = j) → fnl P m = fnd P 0 m
  | 0, _ => rfl
  | m + 1, h => by
    have ih := fnl_fnd (P := P) (m := m) (fun i j hi hj => h i j (by omega) (by omega))
    rw [fnl]
    cases q : P m with
    | true =>
      rw [if_pos rfl]
      cases z : fnd P 0 (m + 1) with
      | none => have := fnd_none z m (by omega) (by omega); rw [q] at this; cases this
      | some i =>
        have hi := fnd_in z
        rw [h m i (by omega) (by omega) q hi.2.2]
    | false =>
      rw [if_neg (by decide), ih]
      cases z : fnd P 0 (m + 1) with
      | none =>
        cases y : fnd P 0 m with
        | none => rfl
        | some i =>
          have hi := fnd_in y
          have := fnd_none z i (by omega) (by omega)
          rw [hi.2.2] at this; cases this
      | some i =>
        have hi := fnd_in z
        have him : i < m := by
          rcases (show i < m ∨ i = m by omega) with e | e
          · exact e
          · rw [e, q] at hi; cases hi.2.2
        cases y : fnd P 0 m with
        | none => have := fnd_none y i (by omega) (by omega); rw [hi.2.2] at this; cases this
        | some j =>
          have hj := fnd_in y
          rw [h i j (by omega) (by omega) hi.2.2 hj.2.2]
def NmR (k m : Nat) (f : Nat → List Nat) (h : HI) : Prop := k < 3 ∧ m ≤ 6 ∧ h.1 111 k = nI m ∧ (∀ i, i < m → h.2 110 (10 * k + i) = lN (c8 (f i))) ∧ (∀ i, i < m → lett (f i) ∧ (f i).length ≤ 8) ∧ ∀ i j, i < m → j < m → f i = f j → i = j
theorem NmR.keep {k m : Nat} {f : Nat → List Nat} {h g : HI} {W : Nat → Nat → Prop} (T : NmR k m f h) (F : Fr W h g) (hd : ∀ a b, a = 110 ∨ a = 111 → ¬ W a b) : NmR k m f g := ⟨T.1, T.2.1, (F.1 _ _ (hd _ _ (by omega))).trans T.2.2.1, fun i hi => (F.2 _ _ (hd _ _ (by omega))).trans (T.2.2.2.1 i hi), T.2.2.2.2⟩
theorem r_find0 {k m : Nat} {f : Nat → List Nat} {h : HI} (T : NmR k m f h) : fX9_find 101 h (nI k) = some (ofO (fnl (fun i => decide (h.2 110 (10 * k + i) = h.2 101 9)) m), h) := by
  obtain ⟨t1, t2, t3, t4, t5, t6⟩ := T
  unfold fX9_find
  obtain ⟨F, hL⟩ := lpd (fun n (p : Int32 × Int32) => fX9_find_4 101 (fun h2 v2 => some (v2, h2)) n h (nI k) p.1 p.2) (fun j => (ofO (fnl (fun i => decide (h.2 110 (10 * k + i) = h.2 101 9)) j), nI j)) m (by omega) (by
    intro j hj n
    show fX9_find_4 101 _ (n + 1) h (nI k) (ofO (fnl _ j)) (nI j) = fX9_find_4 101 _ n h (nI k) (ofO (fnl _ (j + 1))) (nI (j + 1))
    rw [fX9_find_4, show (10 : Int32) = nI 10 from rfl, nI_mu, nI_add]
    unfold fX9_find_38
    simp (disch := omega) only [gB, nI_clamp, Nat.reduceAdd, nI_1]
    rw [t3, if_neg (nI_ge hj (by omega)), fnl]
    by_cases c : h.2 110 (10 * k + j) = h.2 101 9
    · rw [if_pos ((cmpE _ _).mpr c), if_pos (decide_eq_true c)]; rfl
    · rw [if_neg (fun z => c ((cmpE _ _).mp z)), if_neg (by rw [decide_eq_false c]; decide)])
  simp only at hL
  change fX9_find_4 101 _ FU h (nI k) (-1) 0 = _ at hL
  rw [hL, fX9_find_4]
  simp (disch := omega) only [gB, nI_clamp, Nat.reduceAdd]
  rw [t3, if_pos (nI_le (Nat.le_refl _) (by omega))]
theorem r_find {B : Nat → Nat} {n p k m : Nat} {f : Nat → List Nat} {h : HI} (T : NmR k m f h) (C : RTk B n p h) (e : tc B n p = 1) : fX9_find 101 h (nI k) = some (ofO (fiP B n f m p), h) := by
  have hw := tw_ok (Or.inl e)
  obtain ⟨t1, t2, t3, t4, t5, t6⟩ := T
  rw [r_find0 ⟨t1, t2, t3, t4, t5, t6⟩, C.2.2.2.2.2.1 (Or.inl e)]
  have ec : ∀ i, i < m → (decide (h.2 110 (10 * k + i) = lN (c8 (tw B n p)))) = decide (f i = tw B n p) := fun i hi => decide_eq_decide.mpr (by
    rw [t4 i hi]
    exact c8_w (t5 i hi).1 hw.1 (t5 i hi).2 hw.2.1)
  rw [fnl_fnd (fun i j hi hj a b => by
    simp only [decide_eq_true_eq] at a b
    have a2 := (decide_eq_decide.mp (ec i hi)).mp a
    have b2 := (decide_eq_decide.mp (ec j hj)).mp b
    exact t6 i j hi hj (a2.trans b2.symm))]
  unfold fiP
  rw [fnd_cong (P := fun i => decide (h.2 110 (10 * k + i) = lN (c8 (tw B n p)))) (Q := fun i => decide (f i = tw B n p)) (fun i _ hi => ec i (by omega))]
def odP (B : Nat → Nat) (n : Nat) (f : Nat → List Nat) (m : Nat) (bt : Option Nat) (p : Nat) : Sum (Nat × Nat) (Nat × Nat) := thn (tdP B n f m p) (fun ip => if bt = some ip.1 then .inl (3, tp B n p) else thn (adv B n ip.2) (fun q => .inr (ip.1, q)))
theorem ofO_eq {i : Nat} {b : Option Nat} (hi : i < 100) (hb : ∀ j, b = some j → j < 100) : nI i = ofO b ↔ b = some i := by
  cases b with
  | none => exact ⟨fun z => absurd z.symm (nI_ne_m1 (by omega)), fun z => by cases z⟩
  | some j =>
    have := hb j rfl
    show nI i = nI j ↔ _
    rw [nI_eq (by omega) (by omega)]
    exact ⟨fun z => by rw [z], fun z => by cases z; rfl⟩
theorem r_old {B : Nat → Nat} {n k m : Nat} {f : Nat → List Nat} {bt : Option Nat} {h : HI} {r : Sum (Nat × Nat) Nat} (X : TX B n) (T : TR B n h) (M : NmR k m f h) (hb : ∀ j, bt = some j → j < 100) (C : RQ B n r h) : ∃ v g, fX9_old 101 h (nI k) (ofO bt) = some (v, g) ∧ Fr WT h g ∧ RV B n (fun i v => v = nI i ∧ i < m) (thn r (odP B n f m bt)) v g := by
  rcases C with ⟨e, rfl, C⟩ | ⟨p, rfl, C⟩
  · exact ⟨0, h, rf_old C _ _, Fr.rf, Or.inl ⟨e, rfl, C⟩⟩
  · have hm := M.2.1
    unfold fX9_old fX9_old_52
    rw [if_pos C.le]
    have bad : ∀ k (v : Int32), 1 ≤ k → k ≤ 5 → (tc B n p ≠ 3 → odP B n f m bt p = .inl (k, tp B n p)) → ∃ v2 g, ((fX9_wrong 101 h (nI k)).bind fun h1 => (if (h1.1 101 2) = 0 then ((fX9_token 101 h1).bind fun h2 => some (v, h2)) else some (v, h1))) = some (v2, g) ∧ Fr WT h g ∧ RV B n (fun i v => v = nI i ∧ i < m) (thn (tk B n p) (odP B n f m bt)) v2 g := by
      intro k v h1 h5 hk
      obtain ⟨g, e, a1, a2, a3, a4⟩ := rt_wrong X C h1 h5
      rw [a1, Option.bind_some, if_neg a3.f.2]
      exact ⟨_, g, rfl, a2, Or.inl ⟨e, a4 _ hk, a3⟩⟩
    by_cases q : tc B n p = 1
    · rw [r_find M C q, Option.bind_some, r_isN C, Option.bind_some, decide_eq_true q, if_neg b01t]
      cases z : fiP B n f m p with
      | none =>
        rw [show ofO none = -1 from rfl, if_neg (show ¬ (0 : Int32) ≤ -1 by decide)]
        exact bad 5 _ (by decide) (by decide) (fun _ => by unfold odP tdP; rw [if_pos q, z]; rfl)
      | some i =>
        have hi := fnd_in z
        rw [show ofO (some i) = nI i from rfl, if_pos (nI_pos' (by omega))]
        by_cases c : bt = some i
        · rw [if_pos ((ofO_eq (by omega) hb).mpr c)]
          exact bad 3 _ (by decide) (by decide) (fun _ => by unfold odP tdP; rw [if_pos q, z]; exact if_pos c)
        · obtain ⟨g, a1, a2, a3⟩ := rt_token X T C (by omega)
          rw [if_neg (fun y => c ((ofO_eq (by omega) hb).mp y)), if_pos C.f, a1, Option.bind_some, tkn (by omega), thn_in]
          refine ⟨_, g, rfl, a2, Or.inr ⟨i, tn B n p, ?_, ⟨rfl, by omega⟩, a3⟩⟩
          unfold odP tdP; rw [if_pos q, z]; exact if_neg c
    · rw [r_find0 M, Option.bind_some, r_isN C, Option.bind_some, decide_eq_false q, if_pos b01f]
      exact bad 2 _ (by decide) (by decide) (fun _ => by unfold odP tdP; rw [if_neg q]; rfl)
