
theorem upd_pI {σ : Hp} {a k : Nat} {v : Int32} : gI (pI σ a k v) a = upd (gI σ a) k v := by
  funext j
  rw [gI_pI]
  by_cases h : j = k
  · subst h; simp [upd]
  · rw [if_neg (fun q => h q.2)]; simp [upd, h]
theorem upd_pL {σ : Hp} {a k : Nat} {v : Int64} : gL (pL σ a k v) a = vp_updL (gL σ a) k v := by
  funext j
  rw [gL_pL]
  by_cases h : j = k
  · subst h; simp [vp_updL]
  · rw [if_neg (fun q => h q.2)]; simp [vp_updL, h]
theorem sh_eq {sh : Sh} {a K : Nat} (hk : kd sh a = K) : sh.getD a (99, 0) = (K, ln sh a) := by rw [← hk]; rfl
theorem cel_obj {z : Z5} {sh : Sh} {adr : Nat → Nat} {σ : Hp} {a ci : Nat} (hk : kd sh a = ci) (h : ci < 10) : cel z adr σ (sh.getD a (99, 0)) a = .inr (ci, flds ci adr σ a) := by rw [sh_eq hk]; unfold cel; rw [if_pos h]
theorem cel_10 {z : Z5} {sh : Sh} {adr : Nat → Nat} {σ : Hp} {a : Nat} (hk : kd sh a = 10) : cel z adr σ (sh.getD a (99, 0)) a = .inl (z.1, ln sh a, .inl (gI σ a)) := by rw [sh_eq hk]; rfl
theorem cel_11 {z : Z5} {sh : Sh} {adr : Nat → Nat} {σ : Hp} {a : Nat} (hk : kd sh a = 11) : cel z adr σ (sh.getD a (99, 0)) a = .inl (z.2.1, ln sh a, .inl (gI σ a)) := by rw [sh_eq hk]; rfl
theorem cel_12 {z : Z5} {sh : Sh} {adr : Nat → Nat} {σ : Hp} {a : Nat} (hk : kd sh a = 12) : cel z adr σ (sh.getD a (99, 0)) a = .inl (z.2.2.1, ln sh a, .inr (.inl (gL σ a))) := by rw [sh_eq hk]; rfl
theorem cel_13 {z : Z5} {sh : Sh} {adr : Nat → Nat} {σ : Hp} {a : Nat} (hk : kd sh a = 13) : cel z adr σ (sh.getD a (99, 0)) a = .inl (z.2.2.2.1, ln sh a, .inl (gI σ a)) := by rw [sh_eq hk]; rfl
theorem cel_14 {z : Z5} {sh : Sh} {adr : Nat → Nat} {σ : Hp} {a : Nat} (hk : kd sh a = 14) : cel z adr σ (sh.getD a (99, 0)) a = .inl (z.2.2.2.2, ln sh a, .inr (.inr (.inr (.inr (fun j => (gR σ a j).map adr))))) := by rw [sh_eq hk]; rfl
theorem flds_len {c : Nat} {adr : Nat → Nat} {σ : Hp} {o : Nat} : (flds c adr σ o).length = nF c := by simp [flds]
theorem flds_at {c : Nat} {adr : Nat → Nat} {σ : Hp} {o k : Nat} (h : k < nF c) : (flds c adr σ o)[k]? = some (fv adr σ (tyF c k) o k) := by simp [flds, h]
theorem flds_put {c : Nat} {adr : Nat → Nat} {σ τ : Hp} {o k : Nat} {v : Value} (hv : fv adr τ (tyF c k) o k = v) (hn : ∀ j, j ≠ k → fv adr τ (tyF c j) o j = fv adr σ (tyF c j) o j) : flds c adr τ o = (flds c adr σ o).set k v := by
  apply List.ext_getElem?
  intro i
  rcases Nat.lt_or_ge i (nF c) with hi | hi
  · rw [flds_at hi, List.getElem?_set]
    by_cases h : k = i
    · subst h
      rw [if_pos rfl, if_pos (by rw [flds_len]; exact hi), hv]
    · rw [if_neg h, flds_at hi, hn i (fun q => h q.symm)]
  · rw [List.getElem?_eq_none (by rw [flds_len]; exact hi), List.getElem?_eq_none (by rw [List.length_set, flds_len]; exact hi)]
theorem fv_pI {adr : Nat → Nat} {σ : Hp} {ty : FieldType} {o k j : Nat} {v : Int32} (h : j ≠ k) : fv adr (pI σ o k v) ty o j = fv adr σ ty o j := by
  unfold fv; cases ty <;> simp [gI_pI, gL_pI, gR_pI, h]
theorem fv_pL {adr : Nat → Nat} {σ : Hp} {ty : FieldType} {o k j : Nat} {v : Int64} (h : j ≠ k) : fv adr (pL σ o k v) ty o j = fv adr σ ty o j := by
  unfold fv; cases ty <;> simp [gI_pL, gL_pL, gR_pL, h]
theorem fv_pR {adr : Nat → Nat} {σ : Hp} {ty : FieldType} {o k j : Nat} {v : Option Nat} (h : j ≠ k) : fv adr (pR σ o k v) ty o j = fv adr σ ty o j := by
  unfold fv; cases ty <;> simp [gI_pR, gL_pR, gR_pR, h]
theorem flds_pI {c : Nat} {adr : Nat → Nat} {σ : Hp} {o k : Nat} {v : Int32} (_ : k < nF c) (ht : tyF c k = .int) : flds c adr (pI σ o k v) o = (flds c adr σ o).set k (.int v) := flds_put (by rw [ht]; simp [fv, gI_pI]) (fun _ h => fv_pI h)
theorem flds_pZ {c : Nat} {adr : Nat → Nat} {σ : Hp} {o k : Nat} {v : Int32} (_ : k < nF c) (ht : tyF c k = .boolean) : flds c adr (pI σ o k v) o = (flds c adr σ o).set k (.int v) := flds_put (by rw [ht]; simp [fv, gI_pI]) (fun _ h => fv_pI h)
theorem flds_pL {c : Nat} {adr : Nat → Nat} {σ : Hp} {o k : Nat} {v : Int64} (_ : k < nF c) (ht : tyF c k = .long) : flds c adr (pL σ o k v) o = (flds c adr σ o).set k (.long v) := flds_put (by rw [ht]; simp [fv, gL_pL]) (fun _ h => fv_pL h)
theorem flds_pR {c : Nat} {adr : Nat → Nat} {σ : Hp} {o k a : Nat} {nm : String} (_ : k < nF c) (ht : tyF c k = .object nm) : flds c adr (pR σ o k (some a)) o = (flds c adr σ o).set k (.ref (adr a)) := flds_put (by rw [ht]; simp [fv, gR_pR, va_rf]) (fun _ h => fv_pR h)
/-- the places of a frame: what is listed is held; .retAddr 0 says nothing -/
def enumL (adr : Nat → Nat) (ls : List Value) : List (Nat × Value) := (List.range ls.length).filterMap (fun i => match ls[i]? with
  | some v => if v = .retAddr 0 then none else some (i, tr adr v)
  | none => none)
theorem mem_enumL {adr : Nat → Nat} {ls : List Value} {i : Nat} {w : Value} : (i, w) ∈ enumL adr ls ↔ ∃ v, ls[i]? = some v ∧ v ≠ .retAddr 0 ∧ w = tr adr v := by
  unfold enumL
  rw [List.mem_filterMap]
  constructor
  · rintro ⟨j, -, hj⟩
    cases hv : ls[j]? with
    | none => rw [hv] at hj; cases hj
    | some v =>
      rw [hv] at hj
      by_cases h : v = .retAddr 0
      · simp [h] at hj
      · simp [h] at hj
        obtain ⟨rfl, rfl⟩ := hj
        exact ⟨v, hv, h, rfl⟩
  · rintro ⟨v, hv, h, rfl⟩
    refine ⟨i, List.mem_range.mpr (List.getElem?_eq_some_iff.mp hv).1, ?_⟩
    rw [hv]
    simp [h]
theorem LH_at {adr : Nat → Nat} {ls : List Value} {la : Array Slot} {n i : Nat} {v : Value} (h : lv_has la n (enumL adr ls)) (hv : ls[i]? = some v) (hn : v ≠ .retAddr 0) : la[i]? = some (.val (tr adr v)) := h.2.2 (i, tr adr v) (mem_enumL.mpr ⟨v, hv, hn, rfl⟩)
def catB (ls : List Value) (i : Nat) : Bool := i == 0 || (match ls[i - 1]? with
  | some w => w.category == 1
  | none => true)
theorem LH_set1 {adr : Nat → Nat} {ls ls' : List Value} {la : Array Slot} {n i : Nat} {v w : Value} (hw : tr adr v = w) (hp : catB ls i = true) (hs : ls.set i v = ls') (h : lv_has la n ((i, w) :: (enumL adr ls).filter (fun q => !(q.1 == i) && !(q.1 + 1 == i && q.2.category == 2)))) : lv_has la n (enumL adr ls') := by
  refine ⟨h.1, h.2.1, fun q hq => ?_⟩
  obtain ⟨j, u⟩ := q
  subst hs
  obtain ⟨x, h1, h2, rfl⟩ := mem_enumL.mp hq
  rw [List.getElem?_set] at h1
  by_cases hj : i = j
  · subst hj
    rw [if_pos rfl] at h1
    by_cases hl : i < ls.length
    · rw [if_pos hl] at h1
      cases h1
      rw [hw]
      exact h.2.2 _ List.mem_cons_self
    · rw [if_neg hl] at h1
      cases h1
  · rw [if_neg hj] at h1
    refine h.2.2 _ (List.mem_cons_of_mem _ (List.mem_filter.mpr ⟨mem_enumL.mpr ⟨x, h1, h2, rfl⟩, ?_⟩))
    have hji : (j == i) = false := by simp; exact fun q => hj q.symm
    simp only [hji, Bool.not_false, Bool.true_and, Bool.not_eq_true', Bool.and_eq_false_iff]
    by_cases hq2 : j + 1 = i
    · right
      subst hq2
      unfold catB at hp
      simp [h1] at hp
      simp [tr_cat, hp]
    · left
      simp [hq2]
theorem LH_set2 {adr : Nat → Nat} {ls ls' : List Value} {la : Array Slot} {n i : Nat} {v w : Value} (hw : tr adr v = w) (hp : catB ls i = true) (hs : (ls.set i v).set (i + 1) (.retAddr 0) = ls') (h : lv_has la n ((i, w) :: (enumL adr ls).filter (fun q => !(q.1 == i) && (!(q.1 == i + 1) && !(q.1 + 1 == i && q.2.category == 2))))) : lv_has la n (enumL adr ls') := by
  refine ⟨h.1, h.2.1, fun q hq => ?_⟩
  obtain ⟨j, u⟩ := q
  subst hs
  obtain ⟨x, h1, h2, rfl⟩ := mem_enumL.mp hq
  rw [List.getElem?_set] at h1
  by_cases hj2 : i + 1 = j
  · rw [if_pos hj2] at h1
    split at h1
    · cases h1
      exact absurd rfl h2
    · cases h1
  rw [if_neg hj2, List.getElem?_set] at h1
  by_cases hj : i = j
  · subst hj
    rw [if_pos rfl] at h1
    by_cases hl : i < ls.length
    · rw [if_pos hl] at h1
      cases h1
      rw [hw]
      exact h.2.2 _ List.mem_cons_self
    · rw [if_neg hl] at h1
      cases h1
  · rw [if_neg hj] at h1
    refine h.2.2 _ (List.mem_cons_of_mem _ (List.mem_filter.mpr ⟨mem_enumL.mpr ⟨x, h1, h2, rfl⟩, ?_⟩))
    have hji : (j == i) = false := by simp; exact fun q => hj q.symm
    have hji2 : (j == i + 1) = false := by simp; exact fun q => hj2 q.symm
    simp only [hji, hji2, Bool.not_false, Bool.true_and, Bool.not_eq_true', Bool.and_eq_false_iff]
    by_cases hq2 : j + 1 = i
    · right
      subst hq2
      unfold catB at hp
      simp [h1] at hp
      simp [tr_cat, hp]
    · left
      simp [hq2]
/-- fewer places are told -/
def subL : List Value → List Value → Prop
  | [], _ => True
  | a :: t, [] => a = .retAddr 0 ∧ subL t []
  | a :: t, b :: u => (a = .retAddr 0 ∨ a = b) ∧ subL t u
theorem subL_at : ∀ {ls' ls : List Value}, subL ls' ls → ∀ {i : Nat} {v : Value}, ls'[i]? = some v → v ≠ .retAddr 0 → ls[i]? = some v
  | [], _, _, i, v, h, _ => by simp at h
  | a :: t, [], hs, i, v, h, hn => by
    cases i with
    | zero => simp at h; exact absurd (h.symm.trans hs.1) hn
    | succ i => simp at h; have := subL_at hs.2 h hn; simp at this
  | a :: t, b :: u, hs, i, v, h, hn => by
    cases i with
    | zero =>
      simp at h
      rcases hs.1 with q | q
      · exact absurd (h.symm.trans q) hn
      · simp [← q, h]
    | succ i => simp at h ⊢; exact subL_at hs.2 h hn
theorem LH_sub {adr : Nat → Nat} {ls' ls : List Value} {la : Array Slot} {n : Nat} (hs : subL ls' ls) (h : lv_has la n (enumL adr ls)) : lv_has la n (enumL adr ls') := by
  refine ⟨h.1, h.2.1, fun q hq => ?_⟩
  obtain ⟨j, u⟩ := q
  obtain ⟨x, h1, h2, rfl⟩ := mem_enumL.mp hq
  exact h.2.2 _ (mem_enumL.mpr ⟨x, subL_at hs h1 h2, h2, rfl⟩)
/-! the judgement -/
abbrev CT : Type := Program × Launch × Env × Room × State × MethodId × Array Value × List Frame × Method × Code × (State → Prop) × va_G × Z5 × (Nat → Prop)
abbrev YT : Type := Sh × (Nat → Nat) × Nat × Nat
def lX (X : CT) : Launch := X.2.1
/-- what is known in a frame: the machine, the bytes, the words, the kinds, the room -/
def CX (X : CT) (own : String) (cc : ByteArray) (nL d : Nat) : Prop := match X with
  | (p, _, _, R, s, m, args, _, meth, c, _, D, z, A) => p.tables.exec = Jvm.exec ∧ c.code = cc ∧ c.maxLocals = nL ∧ s.vm.findClass own = some m.cls ∧ (∀ w ∈ wT, w.before args s = true) ∧ va_K D vwCl (TY z) s ∧ (∀ q, s.heap.size ≤ q → A q) ∧ (d ≤ R.frames ∧ d * 64 ≤ R.locals) ∧ meth.locks = false
def WW (X : CT) (Y : YT) (pc : Nat) (ls st : List Value) (σ : Hp) : Prop := match X, Y with
  | (p, l, e, R, s, m, args, below, meth, c, Q, D, z, A), (sh, adr, cells, slots) => ∀ (H : Heap) (locs : List Loc) (la : Array Slot), va_P D vwCl (WS z sh adr σ) H → va_D A (WS z sh adr σ) → va_S A s.heap H locs → lv_has la c.maxLocals (enumL adr ls) → W p l e R s m args below meth c H locs cells slots Q (F0 m pc la (st.map (tr adr)))
/-! what lies outside and never changes: the static row WITHOUT, two texts, two statics of the library. Their addresses stand at 900000 and on. -/
def WO : List Int64 := [0x5555555555555555, 0x3333333333333333, 0x0F0F0F0F0F0F0F0F, 0x00FF00FF00FF00FF, 0x0000FFFF0000FFFF, 0x00000000FFFFFFFF]
def LJ : List Nat := [104, 9]
def BJ : List (List Int32) := [[99, 104, 97, 105, 114, 32, 104, 111, 108, 100, 115, 32, 115, 116, 111, 111, 108, 32, 109, 97, 110, 32, 115, 116, 114, 111, 110, 103, 32, 100, 111, 111, 114, 32, 109, 97, 116, 116, 101, 114, 32, 100, 105, 101, 115, 32, 119, 105, 115, 104, 32, 100, 101, 97, 108, 32, 102, 111, 114, 32, 110, 97, 112, 32, 112, 97, 115, 115, 32, 111, 114, 32, 97, 110, 100, 32, 110, 111, 116, 32, 121, 101, 115, 32, 110, 111, 32, 115, 105, 116, 115, 32, 115, 116, 97, 110, 100, 115, 32, 104, 101, 114, 101, 32], [59, 45, 40, 41, 60, 62, 61, 43, 42]]
def SZ (adr : Nat → Nat) (A : Nat → Prop) (U : State) (H : Heap) : Prop :=
  va_Z "NineChairs$Planner" "WITHOUT" "[J" (.ref (adr 900000)) A U H ∧ va_T .long (adr 900000) 6 (fun j => .long (WO.getD j 0)) A U H ∧ vk_S 2 LJ BJ (fun i => adr (900001 + i)) (fun i => adr (900003 + i)) A U H ∧ vk_R "NineChairs$Reader" 32 "chair holds stool man strong door matter dies wish deal for nap pass or and not yes no sits stands here " (adr 900001) U ∧ vk_R "NineChairs$Reader" 93 ";-()<>=+*" (adr 900002) U ∧ va_Z "java/lang/String" "COMPACT_STRINGS" "Z" (.int 1) A U H ∧ (va_Z "jdk/internal/util/Preconditions" "SIOOBE_FORMATTER" "Ljava/util/function/BiFunction;" .null A U H ∨ va_Z "jdk/internal/util/Preconditions" "SIOOBE_FORMATTER" "Ljava/util/function/BiFunction;" (.ref (adr 900005)) A U H)
theorem SZ.call {adr : Nat → Nat} {A B : Nat → Prop} {s U : State} {H0 H : Heap} {locs : List Loc} (h : SZ adr A s H0) (hS : va_S A H0 H locs) (hB : ∀ q, B q → A q) (hU : U.heap = H) (hW : s.WarmedH U.vm) : SZ adr B U U.heap := by
  obtain ⟨h1, h2, h3, h4, h5, h6, h7⟩ := h
  rw [hU]
  have hq : ∀ a : Nat, a < H0.size → ¬ A a → H[a]? = H0[a]? := hS.2.1
  exact ⟨((h1.kept hq).moved hW.alike).narrow hB, ((h2.kept hq).moved hW.alike).narrow hB, ((h3.kept hq).moved hW.alike).narrow hB, h4.warm hW, h5.warm hW, ((h6.kept hq).moved hW.alike).narrow hB, h7.elim (fun q => Or.inl (((q.kept hq).moved hW.alike).narrow hB)) (fun q => Or.inr (((q.kept hq).moved hW.alike).narrow hB))⟩
theorem SZ.blind {adr : Nat → Nat} {A : Nat → Prop} {U V : State} (h : SZ adr A U U.heap) (hv : V.vm = U.vm) (hh : V.heap = U.heap) : SZ adr A V V.heap := by
  obtain ⟨h1, h2, h3, h4, h5, h6, h7⟩ := h
  have hal : U.vm.Alike V.vm := by rw [hv]; exact Vm.Alike.refl U.vm
  rw [hh]
  exact ⟨h1.moved hal, h2.moved hal, h3.moved hal, h4.same hv, h5.same hv, h6.moved hal, h7.elim (fun q => Or.inl (q.moved hal)) (fun q => Or.inr (q.moved hal))⟩
def SZX (X : CT) (adr : Nat → Nat) : Prop := match X with
  | (_, _, _, _, s, _, _, _, _, _, _, _, _, A) => SZ adr A s s.heap
