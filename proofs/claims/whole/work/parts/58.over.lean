/-! the end of a minute, as both sides do it -/
def itr (f : Nat → SD → SD) : Nat → SD → SD
  | 0, s => s
  | n + 1, s => f n (itr f n s)
def dieP (d : HD) (x : Nat) (s : SD) : SD := if s.ss x < 2 ∧ d.di x = s.mi then s.w_ss (ud s.ss x 3) else s
def tireP (d : HD) (m : Nat) (s : SD) : SD := if s.wh m = -1 then (if s.ti m < d.st m then s.w_ti (ud s.ti m (s.ti m + 1)) else s) else if s.wh m < 0 then s else (s.w_ti (ud s.ti m (s.ti m - 2))).w_sf (ud s.sf m (s.sf m + 1))
def onP (d : HD) (s : SD) (c : Int32) : Nat := bs (fun m => decide (s.wh m = c)) d.M
def roomP (d : HD) (s : SD) (c : Nat) : Bool := !s.br c && decide (pc6 (onP d s (nI c)) < d.ho c)
def fnd (P : Nat → Bool) : Nat → Nat → Option Nat
  | _, 0 => none
  | i, f + 1 => if P i then some i else fnd P (i + 1) f
def sinkP (d : HD) (m : Nat) (s : SD) : SD := if s.wh m = -1 ∧ d.st m ≤ s.ti m then (match fnd (roomP d s) 0 d.C with
  | none => s
  | some c => ((s.w_wh (ud s.wh m (nI c))).w_sf (ud s.sf m 0)).w_sk (s.sk + 1)) else s
def keepP (s : SD) : SD := (s.w_sr (ud s.sr (s.mi - 1) s.wh)).w_kn s.mi
def overP (d : HD) (s : SD) : SD := keepP (itr (sinkP d) d.M (itr (tireP d) d.M (itr (dieP d) d.X (s.w_mi (s.mi + 1)))))
theorem fnd_in {P : Nat → Bool} : ∀ {f i c : Nat}, fnd P i f = some c → i ≤ c ∧ c < i + f ∧ P c = true
  | 0, i, c, h => by cases h
  | f + 1, i, c, h => by
    rw [fnd] at h
    by_cases q : P i = true
    · rw [if_pos q] at h
      cases h
      exact ⟨Nat.le_refl _, by omega, q⟩
    · rw [if_neg q] at h
      have := fnd_in h
      exact ⟨by omega, by omega, this.2.2⟩
theorem itr_v {d : HD} {f : Nat → SD → SD} : ∀ {n : Nat} {s : SD}, SDv d s → (∀ j s, j < n → SDv d s → SDv d (f j s)) → SDv d (itr f n s)
  | 0, s, v, _ => v
  | n + 1, s, v, h => h n _ (by omega) (itr_v v (fun j s hj => h j s (by omega)))
theorem ct_mono {P Q : Nat → Bool} : ∀ {n : Nat}, (∀ i, i < n → P i = true → Q i = true) → ct P n ≤ ct Q n
  | 0, _ => Nat.le_refl _
  | n + 1, h => by
    have ih := ct_mono (P := P) (Q := Q) (n := n) (fun i hi => h i (by omega))
    rw [ct, ct]
    by_cases p : P n = true
    · rw [if_pos p, if_pos (h n (by omega) p)]; omega
    · rw [if_neg p]; split <;> omega
theorem dieP_v {d : HD} {s : SD} {x : Nat} (v : SDv d s) : SDv d (dieP d x s) := by
  unfold dieP
  split
  · refine ⟨v.wh, v.ti, v.sf, fun y hy => ?_, v.de, fun i hi he => ?_, Nat.le_trans v.vo (ct_mono fun y _ hy => ?_), v.fa, v.ds, v.sr⟩
    · show ud s.ss x 3 y ≤ 3
      unfold ud; split
      · omega
      · exact v.ss y hy
    · show 2 ≤ ud s.ss x 3 (d.dx i)
      unfold ud; split
      · omega
      · exact v.dd i hi he
    · show decide (2 ≤ ud s.ss x 3 y) = true
      unfold ud; split
      · rfl
      · exact hy
  · exact v
theorem tireP_v {d : HD} {s : SD} {m : Nat} (v : SDv d s) : SDv d (tireP d m s) := by
  unfold tireP
  split
  · split
    · next h1 h2 =>
      refine ⟨v.wh, fun i hi => ?_, v.sf, v.ss, v.de, v.dd, v.vo, v.fa, v.ds, v.sr⟩
      show ud s.ti m _ i ≤ _
      unfold ud; split
      · next e => subst e; omega
      · exact v.ti i hi
    · exact v
  · split
    · exact v
    · next h1 h2 =>
      refine ⟨v.wh, fun i hi => ?_, fun i hi hw => ?_, v.ss, v.de, v.dd, v.vo, v.fa, v.ds, v.sr⟩
      · show ud s.ti m _ i ≤ _
        unfold ud; split
        · next e => subst e; have := v.ti i hi; omega
        · exact v.ti i hi
      · show ud s.sf m _ i = 0
        unfold ud; split
        · next e => subst e; exact absurd hw h2
        · exact v.sf i hi hw
theorem seat_v {d : HD} {s : SD} {m : Nat} {p : Int32} (v : SDv d s) (hp : p = -1 ∨ ∃ c, c < d.C ∧ p = nI c) : SDv d ((s.w_wh (ud s.wh m p)).w_sf (ud s.sf m 0)) := by
  refine ⟨fun i hi => ?_, v.ti, fun i hi hw => ?_, v.ss, v.de, v.dd, v.vo, v.fa, v.ds, v.sr⟩
  · show ud s.wh m p i = -2 ∨ ud s.wh m p i = -1 ∨ ∃ c, c < d.C ∧ ud s.wh m p i = nI c
    unfold ud; split
    · exact Or.inr hp
    · exact v.wh i hi
  · show ud s.sf m 0 i = 0
    have hw2 : ud s.wh m p i < 0 := hw
    unfold ud at hw2 ⊢; split
    · rfl
    · next e => rw [if_neg e] at hw2; exact v.sf i hi hw2
theorem sk_v {d : HD} {s : SD} {n : Int32} (v : SDv d s) : SDv d (s.w_sk n) := ⟨v.wh, v.ti, v.sf, v.ss, v.de, v.dd, v.vo, v.fa, v.ds, v.sr⟩
theorem sinkP_v {d : HD} {s : SD} {m : Nat} (v : SDv d s) : SDv d (sinkP d m s) := by
  unfold sinkP
  split
  · split
    · exact v
    · next c hc =>
      have := fnd_in hc
      exact sk_v (seat_v v (Or.inr ⟨c, by omega, rfl⟩))
  · exact v
theorem itr_mi {f : Nat → SD → SD} (h : ∀ j s, (f j s).mi = s.mi) : ∀ (n : Nat) (s : SD), (itr f n s).mi = s.mi
  | 0, s => rfl
  | n + 1, s => (h n _).trans (itr_mi h n s)
theorem dieP_mi (d : HD) (x : Nat) (s : SD) : (dieP d x s).mi = s.mi := by unfold dieP; split <;> rfl
theorem tireP_mi (d : HD) (x : Nat) (s : SD) : (tireP d x s).mi = s.mi := by unfold tireP; split; split <;> rfl; split <;> rfl
theorem sinkP_mi (d : HD) (x : Nat) (s : SD) : (sinkP d x s).mi = s.mi := by unfold sinkP; split; split <;> rfl; rfl
theorem dieP_kn (d : HD) (x : Nat) (s : SD) : (dieP d x s).kn = s.kn := by unfold dieP; split <;> rfl
theorem tireP_kn (d : HD) (x : Nat) (s : SD) : (tireP d x s).kn = s.kn := by unfold tireP; split; split <;> rfl; split <;> rfl
theorem sinkP_kn (d : HD) (x : Nat) (s : SD) : (sinkP d x s).kn = s.kn := by unfold sinkP; split; split <;> rfl; rfl
theorem itr_kn {f : Nat → SD → SD} (h : ∀ j s, (f j s).kn = s.kn) : ∀ (n : Nat) (s : SD), (itr f n s).kn = s.kn
  | 0, s => rfl
  | n + 1, s => (h n _).trans (itr_kn h n s)
theorem keepP_v {d : HD} {s : SD} (v : SDv d s) (hk : s.mi = s.kn + 1) : SDv d (keepP s) := by
  refine ⟨v.wh, v.ti, v.sf, v.ss, v.de, v.dd, v.vo, v.fa, v.ds, fun k hk1 hk2 i hi => ?_⟩
  have hk3 : k < s.mi := hk1
  show ud s.sr (s.mi - 1) s.wh k i = -2 ∨ ud s.sr (s.mi - 1) s.wh k i = -1 ∨ ∃ c, c < d.C ∧ ud s.sr (s.mi - 1) s.wh k i = nI c
  unfold ud; split
  · exact v.wh i hi
  · exact v.sr k (by omega) hk2 i hi
theorem keepP_mi (s : SD) : (keepP s).mi = s.mi := rfl
theorem keepP_kn (s : SD) : (keepP s).kn = s.mi := rfl
theorem w_mi_mi (s : SD) (n : Nat) : (s.w_mi n).mi = n := rfl
theorem w_mi_kn (s : SD) (n : Nat) : (s.w_mi n).kn = s.kn := rfl
theorem overP_mi (d : HD) (s : SD) : (overP d s).mi = s.mi + 1 := by
  unfold overP
  rw [keepP_mi, itr_mi (sinkP_mi d), itr_mi (tireP_mi d), itr_mi (dieP_mi d), w_mi_mi]
theorem mi_v {d : HD} {s : SD} {n : Nat} (v : SDv d s) : SDv d (s.w_mi n) := ⟨v.wh, v.ti, v.sf, v.ss, v.de, v.dd, v.vo, v.fa, v.ds, v.sr⟩
theorem ct_cong {P Q : Nat → Bool} : ∀ {n : Nat}, (∀ i, i < n → P i = Q i) → ct P n = ct Q n
  | 0, _ => rfl
  | n + 1, h => by rw [ct, ct, ct_cong (fun i hi => h i (by omega)), h n (by omega)]
theorem ct_cut {P : Nat → Bool} {n : Nat} : ∀ k, n ≤ k → ct (fun i => decide (i < n) && P i) k = ct P n := by
  intro k
  induction k with
  | zero => intro h; rw [show n = 0 by omega]; rfl
  | succ k ih =>
    intro h
    by_cases q : n = k + 1
    · rw [q]
      exact ct_cong fun i hi => by rw [decide_eq_true hi, Bool.true_and]
    · rw [ct, ih (by omega), decide_eq_false (show ¬ k < n by omega), Bool.false_and]; rfl
theorem pc6_bs (P : Nat → Bool) {n : Nat} (hn : n ≤ 6) : pc6 (bs P n) = ct P n := by
  unfold pc6
  rw [show (fun i => (bs P n).testBit i) = fun i => decide (i < n) && P i from funext fun i => bs_bit P n i]
  exact ct_cut 6 hn
theorem oc_of {d : HD} {s s2 : SD} (h : Oc d s) (hw : s2.wh = s.wh) (hb : s2.br = s.br) : Oc d s2 := by
  unfold Oc
  rw [hw, hb]
  exact h
theorem ct_put {P Q : Nat → Bool} {m : Nat} (h : ∀ i, i ≠ m → Q i = true → P i = true) : ∀ n, ct Q n ≤ ct P n + 1
  | 0 => Nat.zero_le _
  | n + 1 => by
    rw [ct, ct]
    by_cases e : n = m
    · have := ct_mono (P := Q) (Q := P) (n := n) (fun i hi hq => h i (by omega) hq)
      split <;> split <;> omega
    · have ih := ct_put h n
      by_cases q : Q n = true
      · rw [if_pos q, if_pos (h n e q)]; omega
      · rw [if_neg q]; split <;> omega
theorem nI_ne_m1 {c : Nat} (h : c < 2 ^ 31) : ¬ (-1 : Int32) = nI c := fun e => nI_pos (n := c) h (by rw [← e]; decide)
theorem oc_seat {d : HD} {s : SD} {m : Nat} {p : Int32} {f : Nat → Int32} (w : HDw d) (h : Oc d s) (hp : p = -1 ∨ ∃ c, c < d.C ∧ p = nI c ∧ roomP d s c = true) : Oc d ((s.w_wh (ud s.wh m p)).w_sf f) := by
  have hC := w.C6
  intro c hc
  show ct (fun i => decide (ud s.wh m p i = nI c)) d.M ≤ if s.br c then 0 else d.ho c
  have h0 := h c hc
  have gen : (¬ p = nI c) → ct (fun i => decide (ud s.wh m p i = nI c)) d.M ≤ ct (fun m => decide (s.wh m = nI c)) d.M := fun hn => ct_mono fun i _ hq => by
    by_cases e : i = m
    · have := of_decide_eq_true hq
      rw [e, ud_s] at this
      exact absurd this hn
    · rw [ud_n e] at hq; exact hq
  rcases hp with e | ⟨c2, hc2, e, hr⟩
  · exact Nat.le_trans (gen (by rw [e]; exact nI_ne_m1 (by omega))) h0
  · by_cases q : c = c2
    · rw [q] at h0 ⊢
      unfold roomP at hr
      rw [Bool.and_eq_true, decide_eq_true_eq] at hr
      have hb : s.br c2 = false := by cases z : s.br c2 <;> rw [z] at hr <;> simp_all
      rw [hb, if_neg (by decide)]
      have h1 := hr.2
      unfold onP at h1
      rw [pc6_bs _ w.M6] at h1
      have h2 := ct_put (P := fun m => decide (s.wh m = nI c2)) (Q := fun i => decide (ud s.wh m p i = nI c2)) (m := m) (fun i hi hq => by rw [ud_n hi] at hq; exact hq) d.M
      omega
    · exact Nat.le_trans (gen (by rw [e]; exact fun z => q ((nI_eq (by omega) (by omega)).mp z).symm)) h0
theorem itr_oc {d : HD} {f : Nat → SD → SD} : ∀ {n : Nat} {s : SD}, Oc d s → (∀ j s, j < n → Oc d s → Oc d (f j s)) → Oc d (itr f n s)
  | 0, s, v, _ => v
  | n + 1, s, v, h => h n _ (by omega) (itr_oc v (fun j s hj => h j s (by omega)))
theorem dieP_oc {d : HD} {x : Nat} {s : SD} (h : Oc d s) : Oc d (dieP d x s) := by
  unfold dieP
  split
  · exact oc_of h rfl rfl
  · exact h
theorem tireP_oc {d : HD} {x : Nat} {s : SD} (h : Oc d s) : Oc d (tireP d x s) := by
  unfold tireP
  split
  · split
    · exact oc_of h rfl rfl
    · exact h
  · split
    · exact h
    · exact oc_of h rfl rfl
theorem sinkP_oc {d : HD} {m : Nat} {s : SD} (w : HDw d) (h : Oc d s) : Oc d (sinkP d m s) := by
  unfold sinkP
  split
  · split
    · exact h
    · next c hc =>
      have := fnd_in hc
      exact oc_of (oc_seat (m := m) (f := ud s.sf m 0) w h (Or.inr ⟨c, by omega, rfl, this.2.2⟩)) rfl rfl
  · exact h
theorem overP_w {d : HD} {s : SD} (wd : HDw d) (w : SDw d s) (hm : s.mi + 1 ≤ 10000) : SDw d (overP d s) := by
  refine ⟨?_, by rw [overP_mi]; exact hm, by unfold overP; rw [keepP_kn, keepP_mi], ?_⟩
  · unfold overP
    refine keepP_v (itr_v (itr_v (itr_v ?_ fun j s _ => dieP_v) fun j s _ => tireP_v) fun j s _ => sinkP_v) ?_
    · exact mi_v w.v
    · rw [itr_mi (sinkP_mi d), itr_mi (tireP_mi d), itr_mi (dieP_mi d), itr_kn (sinkP_kn d), itr_kn (tireP_kn d), itr_kn (dieP_kn d), w_mi_mi, w_mi_kn, w.kn]
  · unfold overP
    exact oc_of (itr_oc (itr_oc (itr_oc (s := s.w_mi (s.mi + 1)) (oc_of w.oc rfl rfl) fun j s _ => dieP_oc) fun j s _ => tireP_oc) fun j s _ => sinkP_oc wd) rfl rfl
