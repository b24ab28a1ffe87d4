/-! THE CLEAN HEAP: cells are numbered from 0 on (adr: where they lie), ints, longs and references by cell and place. -/
abbrev Hp : Type := (Nat → Nat → Int32) × (Nat → Nat → Int64) × (Nat → Nat → Option Nat)
def gI (σ : Hp) (o k : Nat) : Int32 := σ.1 o k
def gL (σ : Hp) (o k : Nat) : Int64 := σ.2.1 o k
def gR (σ : Hp) (o k : Nat) : Option Nat := σ.2.2 o k
def pI (σ : Hp) (o k : Nat) (v : Int32) : Hp := (fun a b => if a = o ∧ b = k then v else σ.1 a b, σ.2.1, σ.2.2)
def pL (σ : Hp) (o k : Nat) (v : Int64) : Hp := (σ.1, fun a b => if a = o ∧ b = k then v else σ.2.1 a b, σ.2.2)
def pR (σ : Hp) (o k : Nat) (v : Option Nat) : Hp := (σ.1, σ.2.1, fun a b => if a = o ∧ b = k then v else σ.2.2 a b)
theorem gI_pI (σ : Hp) (o k : Nat) (v : Int32) (a b : Nat) : gI (pI σ o k v) a b = if a = o ∧ b = k then v else gI σ a b := rfl
theorem gL_pI (σ : Hp) (o k : Nat) (v : Int32) (a b : Nat) : gL (pI σ o k v) a b = gL σ a b := rfl
theorem gR_pI (σ : Hp) (o k : Nat) (v : Int32) (a b : Nat) : gR (pI σ o k v) a b = gR σ a b := rfl
theorem gL_pL (σ : Hp) (o k : Nat) (v : Int64) (a b : Nat) : gL (pL σ o k v) a b = if a = o ∧ b = k then v else gL σ a b := rfl
theorem gI_pL (σ : Hp) (o k : Nat) (v : Int64) (a b : Nat) : gI (pL σ o k v) a b = gI σ a b := rfl
theorem gR_pL (σ : Hp) (o k : Nat) (v : Int64) (a b : Nat) : gR (pL σ o k v) a b = gR σ a b := rfl
theorem gR_pR (σ : Hp) (o k : Nat) (v : Option Nat) (a b : Nat) : gR (pR σ o k v) a b = if a = o ∧ b = k then v else gR σ a b := rfl
theorem gI_pR (σ : Hp) (o k : Nat) (v : Option Nat) (a b : Nat) : gI (pR σ o k v) a b = gI σ a b := rfl
theorem gL_pR (σ : Hp) (o k : Nat) (v : Option Nat) (a b : Nat) : gL (pR σ o k v) a b = gL σ a b := rfl
/-! THE SHAPE: a cell's kind (0 .. 9: an object of vwCl's number; 10 bytes, 11 ints, 12 longs, 13 booleans, 14 Sittings) and length -/
abbrev Sh : Type := List (Nat × Nat)
def kd (sh : Sh) (o : Nat) : Nat := (sh.getD o (99, 0)).1
def ln (sh : Sh) (o : Nat) : Nat := (sh.getD o (99, 0)).2
def RF (c : Nat) : String := match c with
  | 0 => RX0 | 1 => RX1 | 2 => RX2 | 3 => RX3 | 4 => RX4 | 5 => RX5 | 6 => RX6 | 7 => RX7 | 8 => RX8 | _ => RX9
def TF (c : Nat) : u_T := match c with
  | 0 => TX0 | 1 => TX1 | 2 => TX2 | 3 => TX3 | 4 => TX4 | 5 => TX5 | 6 => TX6 | 7 => TX7 | 8 => TX8 | _ => TX9
def tyF (c : Nat) : Nat → FieldType := match c with
  | 0 => tyX0 | 1 => tyX1 | 2 => tyX2 | 3 => tyX3 | 4 => tyX4 | 5 => tyX5 | 6 => tyX6 | 7 => tyX7 | 8 => tyX8 | _ => tyX9
def nF (c : Nat) : Nat := match c with
  | 0 => 7 | 1 => 20 | 2 => 2 | 3 => 16 | 4 => 10 | 5 => 5 | 6 => 14 | 7 => 2 | 8 => 9 | _ => 88
theorem vwCl_at : ∀ c, c < 10 → vwCl[c]? = some (RF c, TF c, nF c) := by
  intro c h
  rcases (show c = 0 ∨ c = 1 ∨ c = 2 ∨ c = 3 ∨ c = 4 ∨ c = 5 ∨ c = 6 ∨ c = 7 ∨ c = 8 ∨ c = 9 by omega) with rfl | rfl | rfl | rfl | rfl | rfl | rfl | rfl | rfl | rfl <;> rfl
theorem tyF_ok : ∀ c, c < 10 → ∀ k, k < nF c → parseFieldDescriptor (TF c k).2.2.1 = some (tyF c k) := by
  intro c h
  rcases (show c = 0 ∨ c = 1 ∨ c = 2 ∨ c = 3 ∨ c = 4 ∨ c = 5 ∨ c = 6 ∨ c = 7 ∨ c = 8 ∨ c = 9 by omega) with rfl | rfl | rfl | rfl | rfl | rfl | rfl | rfl | rfl | rfl
  · exact tyX0_ok
  · exact tyX1_ok
  · exact tyX2_ok
  · exact tyX3_ok
  · exact tyX4_ok
  · exact tyX5_ok
  · exact tyX6_ok
  · exact tyX7_ok
  · exact tyX8_ok
  · exact tyX9_ok
theorem nmF : ∀ c, c < 10 → ∀ a, a < nF c → ∀ b, b < nF c → a ≠ b → (TF c a).2.1 ≠ (TF c b).2.1 := by
  intro c h
  rcases (show c = 0 ∨ c = 1 ∨ c = 2 ∨ c = 3 ∨ c = 4 ∨ c = 5 ∨ c = 6 ∨ c = 7 ∨ c = 8 ∨ c = 9 by omega) with rfl | rfl | rfl | rfl | rfl | rfl | rfl | rfl | rfl | rfl
  · exact nmX0
  · exact nmX1
  · exact nmX2
  · exact nmX3
  · exact nmX4
  · exact nmX5
  · exact nmX6
  · exact nmX7
  · exact nmX8
  · exact nmX9
/-- the words that every method is given -/
def wT : List Cond := lw_tbl.filter goodWord
theorem wT_in {w : Cond} (h : w ∈ lw_tbl) (g : goodWord w = true) : w ∈ wT := List.mem_filter.mpr ⟨h, g⟩
theorem wT_good : GoodIn wT wT := fun w h => ⟨h, good_of_word (List.mem_filter.mp h).2⟩
theorem wT_u0 : ∀ w ∈ u_ws RX0 TX0 7, w ∈ wT := by decide +kernel
theorem wT_u1 : ∀ w ∈ u_ws RX1 TX1 20, w ∈ wT := by decide +kernel
theorem wT_u2 : ∀ w ∈ u_ws RX2 TX2 2, w ∈ wT := by decide +kernel
theorem wT_u3 : ∀ w ∈ u_ws RX3 TX3 16, w ∈ wT := by decide +kernel
theorem wT_u4 : ∀ w ∈ u_ws RX4 TX4 10, w ∈ wT := by decide +kernel
theorem wT_u5 : ∀ w ∈ u_ws RX5 TX5 5, w ∈ wT := by decide +kernel
theorem wT_u6 : ∀ w ∈ u_ws RX6 TX6 14, w ∈ wT := by decide +kernel
theorem wT_u7 : ∀ w ∈ u_ws RX7 TX7 2, w ∈ wT := by decide +kernel
theorem wT_u8 : ∀ w ∈ u_ws RX8 TX8 9, w ∈ wT := by decide +kernel
theorem wT_u9 : ∀ w ∈ u_ws RX9 TX9 88, w ∈ wT := by decide +kernel
theorem wT_u : ∀ c, c < 10 → ∀ w ∈ u_ws (RF c) (TF c) (nF c), w ∈ wT := by
  intro c h
  rcases (show c = 0 ∨ c = 1 ∨ c = 2 ∨ c = 3 ∨ c = 4 ∨ c = 5 ∨ c = 6 ∨ c = 7 ∨ c = 8 ∨ c = 9 by omega) with rfl | rfl | rfl | rfl | rfl | rfl | rfl | rfl | rfl | rfl
  · exact wT_u0
  · exact wT_u1
  · exact wT_u2
  · exact wT_u3
  · exact wT_u4
  · exact wT_u5
  · exact wT_u6
  · exact wT_u7
  · exact wT_u8
  · exact wT_u9
/-- the array kinds' own numbers in the machine: bytes, ints, longs, booleans, Sittings -/
abbrev Z5 : Type := ClassId × ClassId × ClassId × ClassId × ClassId
def TY (z : Z5) : List (ClassId × FieldType) := [(z.1, .byte), (z.2.1, .int), (z.2.2.1, .long), (z.2.2.2.1, .boolean), (z.2.2.2.2, .object RX6)]
/-- a value of the clean machine, as the machine has it -/
def tr (adr : Nat → Nat) (v : Value) : Value := match v with
  | .ref i => .ref (adr i)
  | w => w
def trp (adr : Nat → Nat) (q : Nat × Value) : Nat × Value := (q.1, tr adr q.2)
theorem tr_cat (adr : Nat → Nat) (v : Value) : (tr adr v).category = v.category := by cases v <;> rfl
def fv (adr : Nat → Nat) (σ : Hp) (ty : FieldType) (o k : Nat) : Value := match ty with
  | .int => .int (gI σ o k)
  | .boolean => .int (gI σ o k)
  | .long => .long (gL σ o k)
  | _ => va_rf ((gR σ o k).map adr)
def flds (c : Nat) (adr : Nat → Nat) (σ : Hp) (o : Nat) : List Value := (List.range (nF c)).map (fun k => fv adr σ (tyF c k) o k)
def cel (z : Z5) (adr : Nat → Nat) (σ : Hp) (q : Nat × Nat) (o : Nat) : va_E :=
  if q.1 < 10 then .inr (q.1, flds q.1 adr σ o) else if q.1 = 10 then .inl (z.1, q.2, .inl (gI σ o)) else if q.1 = 11 then .inl (z.2.1, q.2, .inl (gI σ o)) else if q.1 = 12 then .inl (z.2.2.1, q.2, .inr (.inl (gL σ o))) else if q.1 = 13 then .inl (z.2.2.2.1, q.2, .inl (gI σ o)) else .inl (z.2.2.2.2, q.2, .inr (.inr (.inr (.inr (fun k => (gR σ o k).map adr)))))
def WS (z : Z5) (sh : Sh) (adr : Nat → Nat) (σ : Hp) : va_W := (List.range sh.length).map (fun o => (adr o, cel z adr σ (sh.getD o (99, 0)) o))
theorem kd_lt {sh : Sh} {o K : Nat} (h : kd sh o = K) (hK : K < 15) : o < sh.length := by
  rcases Nat.lt_or_ge o sh.length with q | q
  · exact q
  · exfalso
    unfold kd at h
    rw [List.getD_eq_getElem?_getD, List.getElem?_eq_none q] at h
    simp at h
    omega
theorem WS_at {z : Z5} {sh : Sh} {adr : Nat → Nat} {σ : Hp} {o : Nat} (h : o < sh.length) : (WS z sh adr σ)[o]? = some (adr o, cel z adr σ (sh.getD o (99, 0)) o) := by
  simp [WS, h]
theorem WS_len {z : Z5} {sh : Sh} {adr : Nat → Nat} {σ : Hp} : (WS z sh adr σ).length = sh.length := by simp [WS]
/-- a world where one cell was set is that of the heap where it was put -/
theorem WS_set {z : Z5} {sh : Sh} {adr : Nat → Nat} {σ τ : Hp} {o : Nat} {e : va_E} (he : cel z adr τ (sh.getD o (99, 0)) o = e) (hn : ∀ a, a ≠ o → cel z adr τ (sh.getD a (99, 0)) a = cel z adr σ (sh.getD a (99, 0)) a) : (WS z sh adr σ).set o (adr o, e) = WS z sh adr τ := by
  apply List.ext_getElem?
  intro i
  rcases Nat.lt_or_ge i sh.length with hi | hi
  · rw [WS_at hi]
    rw [List.getElem?_set]
    by_cases h : o = i
    · subst h
      rw [if_pos rfl, if_pos (by rw [WS_len]; exact hi), he]
    · rw [if_neg h, WS_at hi, hn i (fun q => h q.symm)]
  · rw [List.getElem?_eq_none (by rw [List.length_set, WS_len]; exact hi), List.getElem?_eq_none (by rw [WS_len]; exact hi)]
theorem cel_pI {z : Z5} {adr : Nat → Nat} {σ : Hp} {q : Nat × Nat} {o a k : Nat} {v : Int32} (h : a ≠ o) : cel z adr (pI σ o k v) q a = cel z adr σ q a := by
  have h1 : ∀ b, gI (pI σ o k v) a b = gI σ a b := fun b => by rw [gI_pI, if_neg (fun q => h q.1)]
  have h2 : gI (pI σ o k v) a = gI σ a := funext h1
  have h3 : ∀ ty b, fv adr (pI σ o k v) ty a b = fv adr σ ty a b := fun ty b => by unfold fv; cases ty <;> simp [h1, gL_pI, gR_pI]
  unfold cel
  rw [h2]
  simp only [flds, h3, gR_pI]
  rfl
theorem cel_pL {z : Z5} {adr : Nat → Nat} {σ : Hp} {q : Nat × Nat} {o a k : Nat} {v : Int64} (h : a ≠ o) : cel z adr (pL σ o k v) q a = cel z adr σ q a := by
  have h1 : ∀ b, gL (pL σ o k v) a b = gL σ a b := fun b => by rw [gL_pL, if_neg (fun q => h q.1)]
  have h2 : gL (pL σ o k v) a = gL σ a := funext h1
  have h3 : ∀ ty b, fv adr (pL σ o k v) ty a b = fv adr σ ty a b := fun ty b => by unfold fv; cases ty <;> simp [h1, gI_pL, gR_pL]
  unfold cel
  rw [h2]
  simp only [flds, h3, gR_pL]
  rfl
theorem cel_pR {z : Z5} {adr : Nat → Nat} {σ : Hp} {q : Nat × Nat} {o a k : Nat} {v : Option Nat} (h : a ≠ o) : cel z adr (pR σ o k v) q a = cel z adr σ q a := by
  have h1 : ∀ b, gR (pR σ o k v) a b = gR σ a b := fun b => by rw [gR_pR, if_neg (fun q => h q.1)]
  have h3 : ∀ ty b, fv adr (pR σ o k v) ty a b = fv adr σ ty a b := fun ty b => by unfold fv; cases ty <;> simp [h1, gI_pR, gL_pR]
  unfold cel
  simp only [flds, h3, h1]
  rfl
/-- a field's link, by the number of its kind and its place -/
def FLD (own : String) (idx c k : Nat) : Prop := c < 10 ∧ k < nF c ∧ (TF c k).1 = RF c ∧ Cond.fieldLink own idx (RF c) (TF c k).2.1 (TF c k).2.2.1 ∈ wT
/-- the words of a call of a method of an object -/
def CW (own : String) (idx : Nat) (y : MethodName) (cc : ByteArray) (nL : Nat) (ret : Option FieldType) (n : Nat) : Prop := Cond.methodLink own idx y ∈ wT ∧ Cond.instanceMethod y ∈ wT ∧ Cond.selects y.cls y y ∈ wT ∧ Cond.initialized y.cls ∈ wT ∧ Cond.code y cc nL ret ∈ wT ∧ y.cls ≠ "java/lang/invoke/MethodHandle" ∧ y.cls ≠ "java/lang/invoke/VarHandle" ∧ (parseMethodDescriptor y.desc).map (fun d => d.parameters.length) = some n
/-- the words of a call of a static method -/
def SW (own : String) (idx : Nat) (y : MethodName) (cc : ByteArray) (nL : Nat) (ret : Option FieldType) (n : Nat) : Prop := Cond.methodLink own idx y ∈ wT ∧ Cond.static y ∈ wT ∧ Cond.initialized y.cls ∈ wT ∧ Cond.code y cc nL ret ∈ wT ∧ y.cls ≠ "java/lang/invoke/MethodHandle" ∧ y.cls ≠ "java/lang/invoke/VarHandle" ∧ (parseMethodDescriptor y.desc).map (fun d => d.parameters.length) = some n
