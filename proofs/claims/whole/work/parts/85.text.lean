/-! the text, and the tokens that stand in it -/
def isl (c : Nat) : Bool := decide (97 ≤ c) && decide (c ≤ 122)
def isd (c : Nat) : Bool := decide (48 ≤ c) && decide (c ≤ 57)
def iss (c : Nat) : Bool := decide (c = 32) || decide (c = 10)
def isg (c : Nat) : Bool := decide (c = 59) || (decide (c = 40) || (decide (c = 41) || (decide (c = 60) || (decide (c = 62) || (decide (c = 61) || (decide (c = 43) || (decide (c = 45) || decide (c = 42))))))))
def inT (f : Nat → Bool) (B : Nat → Nat) (n k : Nat) : Bool := decide (k < n) && f (B k)
def rn (P : Nat → Bool) : Nat → Nat → Nat
  | 0, p => p
  | f + 1, p => if P p then rn P f (p + 1) else p
theorem rn_ge (P : Nat → Bool) : ∀ f p, p ≤ rn P f p
  | 0, p => Nat.le_refl p
  | f + 1, p => by
    rw [rn]
    split
    · have := rn_ge P f (p + 1); omega
    · exact Nat.le_refl p
theorem rn_in {P : Nat → Bool} : ∀ f p k, p ≤ k → k < rn P f p → P k = true
  | 0, p, k, h1, h2 => by rw [rn] at h2; omega
  | f + 1, p, k, h1, h2 => by
    rw [rn] at h2
    split at h2
    · rename_i c
      by_cases e : k = p
      · rw [e]; exact c
      · exact rn_in f (p + 1) k (by omega) h2
    · omega
theorem rn_end {P : Nat → Bool} {n : Nat} (h : ∀ k, n ≤ k → P k = false) : ∀ f p, n ≤ f + p → P (rn P f p) = false
  | 0, p, hp => by rw [rn]; exact h p (by omega)
  | f + 1, p, hp => by
    rw [rn]
    split
    · exact rn_end h f (p + 1) (by omega)
    · rename_i c
      cases q : P p with
      | false => rfl
      | true => exact absurd q c
theorem rn_le {P : Nat → Bool} {n : Nat} (h : ∀ k, n ≤ k → P k = false) : ∀ f p, p ≤ n → rn P f p ≤ n
  | 0, p, hp => hp
  | f + 1, p, hp => by
    rw [rn]
    split
    · rename_i c
      refine rn_le h f (p + 1) ?_
      rcases Nat.lt_or_ge p n with e | e
      · omega
      · rw [h p e] at c; cases c
    · exact hp
def run (f : Nat → Bool) (B : Nat → Nat) (n p : Nat) : Nat := rn (inT f B n) n p
theorem inT_out {f : Nat → Bool} {B : Nat → Nat} {n k : Nat} (h : n ≤ k) : inT f B n k = false := by unfold inT; rw [decide_eq_false (by omega)]; rfl
theorem run_ge (f : Nat → Bool) (B : Nat → Nat) (n p : Nat) : p ≤ run f B n p := rn_ge _ _ _
theorem run_le {f : Nat → Bool} {B : Nat → Nat} {n p : Nat} (h : p ≤ n) : run f B n p ≤ n := rn_le (fun _ hk => inT_out hk) _ _ h
theorem run_in {f : Nat → Bool} {B : Nat → Nat} {n p k : Nat} (h1 : p ≤ k) (h2 : k < run f B n p) : k < n ∧ f (B k) = true := by
  have := rn_in _ _ _ h1 h2
  unfold inT at this
  rw [Bool.and_eq_true, decide_eq_true_eq] at this
  exact this
theorem run_end {f : Nat → Bool} {B : Nat → Nat} {n p : Nat} (h : run f B n p < n) : f (B (run f B n p)) = false := by
  have : inT f B n (run f B n p) = false := rn_end (n := n) (fun _ hk => inT_out hk) _ _ (by omega)
  unfold inT at this
  rw [decide_eq_true h, Bool.true_and] at this
  exact this
theorem run_gt {f : Nat → Bool} {B : Nat → Nat} {n p : Nat} (h1 : p < n) (h2 : f (B p) = true) : p < run f B n p := by
  have h := run_ge f B n p
  rcases Nat.lt_or_ge p (run f B n p) with e | e
  · exact e
  · have e2 : run f B n p = p := by omega
    have := run_end (f := f) (B := B) (n := n) (p := p) (by omega)
    rw [e2, h2] at this
    cases this
/-- letters, the last one first -/
def wl (B : Nat → Nat) (a : Nat) : Nat → List Nat
  | 0 => []
  | j + 1 => B (a + j) :: wl B a j
def c5 : List Nat → Nat
  | [] => 0
  | x :: r => c5 r * 32 + (x - 96)
def c8 : List Nat → Nat
  | [] => 0
  | x :: r => c8 r * 256 + x
def num (B : Nat → Nat) (a : Nat) : Nat → Nat
  | 0 => 0
  | j + 1 => num B a j * 10 + (B (a + j) - 48)
def lett (l : List Nat) : Prop := ∀ x, x ∈ l → isl x = true
theorem isl_i {c : Nat} : isl c = true ↔ 97 ≤ c ∧ c ≤ 122 := by unfold isl; rw [Bool.and_eq_true, decide_eq_true_eq, decide_eq_true_eq]
theorem isd_i {c : Nat} : isd c = true ↔ 48 ≤ c ∧ c ≤ 57 := by unfold isd; rw [Bool.and_eq_true, decide_eq_true_eq, decide_eq_true_eq]
theorem c5_inj : ∀ {l m : List Nat}, lett l → lett m → c5 l = c5 m → l = m
  | [], [], _, _, _ => rfl
  | [], y :: m, _, h2, e => by
    have := isl_i.mp (h2 y List.mem_cons_self)
    rw [c5, c5] at e; omega
  | x :: l, [], h1, _, e => by
    have := isl_i.mp (h1 x List.mem_cons_self)
    rw [c5, c5] at e; omega
  | x :: l, y :: m, h1, h2, e => by
    have hx := isl_i.mp (h1 x List.mem_cons_self)
    have hy := isl_i.mp (h2 y List.mem_cons_self)
    rw [c5, c5] at e
    have e1 : c5 l = c5 m := by omega
    have e2 : x = y := by omega
    rw [e2, c5_inj (fun z hz => h1 z (List.mem_cons_of_mem _ hz)) (fun z hz => h2 z (List.mem_cons_of_mem _ hz)) e1]
theorem c8_inj : ∀ {l m : List Nat}, lett l → lett m → c8 l = c8 m → l = m
  | [], [], _, _, _ => rfl
  | [], y :: m, _, h2, e => by
    have := isl_i.mp (h2 y List.mem_cons_self)
    rw [c8, c8] at e; omega
  | x :: l, [], h1, _, e => by
    have := isl_i.mp (h1 x List.mem_cons_self)
    rw [c8, c8] at e; omega
  | x :: l, y :: m, h1, h2, e => by
    have hx := isl_i.mp (h1 x List.mem_cons_self)
    have hy := isl_i.mp (h2 y List.mem_cons_self)
    rw [c8, c8] at e
    have e1 : c8 l = c8 m := by omega
    have e2 : x = y := by omega
    rw [e2, c8_inj (fun z hz => h1 z (List.mem_cons_of_mem _ hz)) (fun z hz => h2 z (List.mem_cons_of_mem _ hz)) e1]
theorem c5_lt : ∀ {l : List Nat}, lett l → c5 l < 32 ^ l.length
  | [], _ => by rw [c5]; decide
  | x :: l, h => by
    have hx := isl_i.mp (h x List.mem_cons_self)
    have := c5_lt (l := l) (fun z hz => h z (List.mem_cons_of_mem _ hz))
    rw [c5, List.length_cons, Nat.pow_succ]; omega
theorem c8_lt : ∀ {l : List Nat}, lett l → c8 l < 256 ^ l.length
  | [], _ => by rw [c8]; decide
  | x :: l, h => by
    have hx := isl_i.mp (h x List.mem_cons_self)
    have := c8_lt (l := l) (fun z hz => h z (List.mem_cons_of_mem _ hz))
    rw [c8, List.length_cons, Nat.pow_succ]; omega
theorem wl_len (B : Nat → Nat) (a : Nat) : ∀ j, (wl B a j).length = j
  | 0 => rfl
  | j + 1 => by rw [wl, List.length_cons, wl_len B a j]
theorem wl_lett {B : Nat → Nat} {a : Nat} : ∀ {j}, (∀ k, a ≤ k → k < a + j → isl (B k) = true) → lett (wl B a j)
  | 0, _ => fun x hx => by cases hx
  | j + 1, h => fun x hx => by
    rcases List.mem_cons.mp hx with e | e
    · rw [e]; exact h (a + j) (by omega) (by omega)
    · exact wl_lett (fun k h1 h2 => h k h1 (by omega)) x e
/-- the words that stand for themselves, the last letter first -/
def KL : List (List Nat) := [[114, 105, 97, 104, 99], [115, 100, 108, 111, 104], [108, 111, 111, 116, 115], [110, 97, 109], [103, 110, 111, 114, 116, 115], [114, 111, 111, 100], [114, 101, 116, 116, 97, 109], [115, 101, 105, 100], [104, 115, 105, 119], [108, 97, 101, 100], [114, 111, 102], [112, 97, 110], [115, 115, 97, 112], [114, 111], [100, 110, 97], [116, 111, 110], [115, 101, 121], [111, 110], [115, 116, 105, 115], [115, 100, 110, 97, 116, 115], [101, 114, 101, 104]]
def K (i : Nat) : List Nat := KL.getD i []
theorem K_ok : ∀ i, i < 21 → (K i).length ≤ 8 ∧ ∀ j, j < 21 → K i = K j → i = j := by decide +kernel
theorem K_all : ∀ i, i < 21 → (K i).all isl = true := by decide +kernel
theorem K_lett {i : Nat} (h : i < 21) : lett (K i) := fun x hx => List.all_eq_true.mp (K_all i h) x hx
def kwc (l : List Nat) : Nat := match fnd (fun i => decide (K i = l)) 0 21 with
  | some i => 128 + i
  | none => 1
theorem fnd_none {P : Nat → Bool} : ∀ {f i : Nat}, fnd P i f = none → ∀ c, i ≤ c → c < i + f → P c = false
  | 0, i, _, c, h1, h2 => by omega
  | f + 1, i, h, c, h1, h2 => by
    rw [fnd] at h
    split at h
    · cases h
    · rename_i q
      by_cases e : c = i
      · rw [e]
        cases z : P i with
        | false => rfl
        | true => exact absurd z q
      · exact fnd_none h c (by omega) (by omega)
theorem fnd_cong {P Q : Nat → Bool} : ∀ {f i : Nat}, (∀ c, i ≤ c → c < i + f → P c = Q c) → fnd P i f = fnd Q i f
  | 0, i, _ => rfl
  | f + 1, i, h => by rw [fnd, fnd, h i (by omega) (by omega), fnd_cong (f := f) (i := i + 1) (fun c h1 h2 => h c (by omega) (by omega))]
theorem kwc_i {l : List Nat} {i : Nat} (hi : i < 21) : kwc l = 128 + i ↔ K i = l := by
  unfold kwc
  cases q : fnd (fun i => decide (K i = l)) 0 21 with
  | none =>
    have := fnd_none q i (by omega) (by omega)
    simp only [decide_eq_false_iff_not] at this
    exact ⟨fun e => by simp only at e; omega, fun e => absurd e this⟩
  | some j =>
    have h := fnd_in q
    simp only [decide_eq_true_eq] at h
    constructor
    · intro e
      simp only at e
      have : i = j := by omega
      rw [this]; exact h.2.2
    · intro e
      have := (K_ok i hi).2 j (by omega) (e.trans h.2.2.symm)
      simp only
      rw [this]
theorem kwc_c (l : List Nat) : kwc l = 1 ∨ ∃ i, i < 21 ∧ kwc l = 128 + i := by
  unfold kwc
  cases q : fnd (fun i => decide (K i = l)) 0 21 with
  | none => exact Or.inl rfl
  | some j => exact Or.inr ⟨j, by have := fnd_in q; omega, rfl⟩
/-! what stands from place p on -/
def tp (B : Nat → Nat) (n p : Nat) : Nat := run iss B n p
def wle (B : Nat → Nat) (n a : Nat) : Nat := run isl B n a
def nue (B : Nat → Nat) (n a : Nat) : Nat := run isd B n a
def tc (B : Nat → Nat) (n p : Nat) : Nat := if n ≤ tp B n p then 0 else if isl (B (tp B n p)) = true then (if wle B n (tp B n p) - tp B n p ≤ 8 then kwc (wl B (tp B n p) (wle B n (tp B n p) - tp B n p)) else 3) else if isd (B (tp B n p)) = true then (if nue B n (tp B n p) - tp B n p ≤ 4 ∧ inT isl B n (nue B n (tp B n p)) = false then 2 else 3) else if isg (B (tp B n p)) = true then B (tp B n p) else 3
def tn (B : Nat → Nat) (n p : Nat) : Nat := if n ≤ tp B n p then tp B n p else if isl (B (tp B n p)) = true then wle B n (tp B n p) else if isd (B (tp B n p)) = true then nue B n (tp B n p) else tp B n p + 1
def tv (B : Nat → Nat) (n p : Nat) : Nat := num B (tp B n p) (nue B n (tp B n p) - tp B n p)
def tw (B : Nat → Nat) (n p : Nat) : List Nat := wl B (tp B n p) (wle B n (tp B n p) - tp B n p)
theorem tp_le {B : Nat → Nat} {n p : Nat} (h : p ≤ n) : tp B n p ≤ n := run_le h
theorem tn_le {B : Nat → Nat} {n p : Nat} (h : p ≤ n) : tn B n p ≤ n := by
  have := tp_le (B := B) h
  unfold tn
  split
  · exact this
  · split
    · exact run_le this
    · split
      · exact run_le this
      · omega
theorem tn_gt {B : Nat → Nat} {n p : Nat} (h : tc B n p ≠ 0) : p < tn B n p := by
  have h1 : p ≤ tp B n p := run_ge _ _ _ _
  unfold tc at h
  unfold tn
  by_cases c : n ≤ tp B n p
  · rw [if_pos c] at h; exact absurd rfl h
  · rw [if_neg c]
    split
    · rename_i q
      have : tp B n p < wle B n (tp B n p) := run_gt (by omega) q
      omega
    · split
      · rename_i q
        have : tp B n p < nue B n (tp B n p) := run_gt (by omega) q
        omega
      · omega
theorem isg_c {c : Nat} (h : isg c = true) : c = 59 ∨ c = 40 ∨ c = 41 ∨ c = 60 ∨ c = 62 ∨ c = 61 ∨ c = 43 ∨ c = 45 ∨ c = 42 := by
  unfold isg at h
  simp only [Bool.or_eq_true, decide_eq_true_eq] at h
  exact h
theorem tc_lt (B : Nat → Nat) (n p : Nat) : tc B n p < 149 := by
  unfold tc
  split
  · omega
  · split
    · split
      · rcases kwc_c (wl B (tp B n p) (wle B n (tp B n p) - tp B n p)) with e | ⟨i, hi, e⟩ <;> omega
      · omega
    · split
      · split <;> omega
      · split
        · rename_i q
          rcases isg_c q with e | e | e | e | e | e | e | e | e <;> omega
        · omega
theorem num_lt {B : Nat → Nat} {a : Nat} : ∀ {j}, (∀ k, a ≤ k → k < a + j → isd (B k) = true) → num B a j < 10 ^ j
  | 0, _ => by rw [num]; decide
  | j + 1, h => by
    have h1 := isd_i.mp (h (a + j) (by omega) (by omega))
    have := num_lt (B := B) (a := a) (j := j) (fun k h1 h2 => h k h1 (by omega))
    rw [num, Nat.pow_succ]; omega
/-- a number that stands is below 10000 -/
theorem tv_lt {B : Nat → Nat} {n p : Nat} (h : tc B n p = 2) : tv B n p < 10000 := by
  unfold tc at h
  by_cases c : n ≤ tp B n p
  · rw [if_pos c] at h; cases h
  · rw [if_neg c] at h
    split at h
    · split at h
      · rcases kwc_c (wl B (tp B n p) (wle B n (tp B n p) - tp B n p)) with e | ⟨i, hi, e⟩ <;> omega
      · cases h
    · split at h
      · rename_i q
        split at h
        · rename_i q2
          have h1 : num B (tp B n p) (nue B n (tp B n p) - tp B n p) < 10 ^ (nue B n (tp B n p) - tp B n p) := num_lt fun k h1 h2 => (run_in (n := n) h1 (by have := run_ge isd B n (tp B n p); unfold nue at h2; omega)).2
          have h2 : 10 ^ (nue B n (tp B n p) - tp B n p) ≤ 10 ^ 4 := Nat.pow_le_pow_right (by decide) q2.1
          unfold tv
          omega
        · cases h
      · split at h
        · rename_i q
          rcases isg_c q with e | e | e | e | e | e | e | e | e <;> omega
        · cases h
/-- a word that stands -/
theorem tw_ok {B : Nat → Nat} {n p : Nat} (h : tc B n p = 1 ∨ 128 ≤ tc B n p) : lett (tw B n p) ∧ (tw B n p).length ≤ 8 ∧ tc B n p = kwc (tw B n p) := by
  unfold tc at h ⊢
  by_cases c : n ≤ tp B n p
  · rw [if_pos c] at h; omega
  · rw [if_neg c] at h ⊢
    by_cases q : isl (B (tp B n p)) = true
    · rw [if_pos q] at h ⊢
      by_cases q2 : wle B n (tp B n p) - tp B n p ≤ 8
      · rw [if_pos q2]
        have hw := run_ge isl B n (tp B n p)
        exact ⟨wl_lett fun k h1 h2 => (run_in (n := n) h1 (by unfold wle at h2; omega)).2, by unfold tw; rw [wl_len]; exact q2, rfl⟩
      · rw [if_neg q2] at h; omega
    · rw [if_neg q] at h
      split at h
      · split at h <;> omega
      · split at h
        · rename_i q
          rcases isg_c q with e | e | e | e | e | e | e | e | e <;> omega
        · omega
