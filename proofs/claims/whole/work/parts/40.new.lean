/-! MAKING: constructors. References are a list (lk l); a new cell is the next number, its ints and longs 0 (zc). -/
def zc (h : HI) (n : Nat) : HI := (fun a b => if a = n then 0 else h.1 a b, fun a b => if a = n then 0 else h.2 a b)
def lk : List (Nat × Nat × Nat) → Nat → Nat → Option Nat
  | [], _, _ => none
  | q :: t, a, b => if a = q.1 ∧ b = q.2.1 then some q.2.2 else lk t a b
theorem ur_lk (l : List (Nat × Nat × Nat)) (o k v : Nat) : ur (lk l) o k (some v) = lk ((o, k, v) :: l) := by funext a b; rfl
theorem lk_lt {n : Nat} : ∀ {l : List (Nat × Nat × Nat)}, l.all (fun q => decide (q.2.2 < n)) = true → ∀ {a b i : Nat}, lk l a b = some i → i < n
  | [], _, a, b, i, h => by cases h
  | q :: t, hl, a, b, i, h => by
    simp only [List.all_cons, Bool.and_eq_true, decide_eq_true_eq] at hl
    rw [lk] at h
    split at h
    · cases h; exact hl.1
    · exact lk_lt hl.2 h
theorem lk_no {n : Nat} : ∀ {l : List (Nat × Nat × Nat)}, l.all (fun q => decide (q.1 ≠ n)) = true → ∀ b : Nat, lk l n b = none
  | [], _, b => rfl
  | q :: t, hl, b => by
    simp only [List.all_cons, Bool.and_eq_true, decide_eq_true_eq] at hl
    rw [lk, if_neg (fun w => hl.1 w.1.symm)]
    exact lk_no hl.2 b
def AG (adr adr' : Nat → Nat) (L : Nat) : Prop := (∀ i, i < L → adr' i = adr i) ∧ ∀ i, 900000 ≤ i → adr' i = adr i
theorem AG.rf {adr : Nat → Nat} {L : Nat} : AG adr adr L := ⟨fun _ _ => rfl, fun _ _ => rfl⟩
theorem AG.tr {a b c : Nat → Nat} {L M : Nat} (h : AG a b L) (h2 : AG b c M) (hL : L ≤ M) : AG a c L := ⟨fun i hi => (h2.1 i (Nat.lt_of_lt_of_le hi hL)).trans (h.1 i hi), fun i hi => (h2.2 i hi).trans (h.2 i hi)⟩
theorem SZX.ag {X : CT} {adr adr' : Nat → Nat} {L : Nat} (h : SZX X adr) (ha : AG adr adr' L) : SZX X adr' := by
  obtain ⟨p, l, e, R, s, m, args, below, meth, c, Q, D, z, A⟩ := X
  have e1 : ∀ i, adr' (900000 + i) = adr (900000 + i) := fun i => ha.2 _ (Nat.le_add_right _ _)
  have h0 : adr' 900000 = adr 900000 := e1 0
  have h1 : adr' 900001 = adr 900001 := e1 1
  have h2 : adr' 900002 = adr 900002 := e1 2
  have h5 : adr' 900005 = adr 900005 := e1 5
  have h3 : (fun i => adr' (900001 + i)) = fun i => adr (900001 + i) := funext fun i => ha.2 _ (by omega)
  have h4 : (fun i => adr' (900003 + i)) = fun i => adr (900003 + i) := funext fun i => ha.2 _ (by omega)
  have hs : SZ adr A s s.heap := h
  show SZ adr' A s s.heap
  unfold SZ at hs ⊢
  rw [h0, h1, h2, h3, h4, h5]
  exact hs
/-- a value that a longer list of addresses leaves as it is -/
def okV (L : Nat) (v : Value) : Bool := match v with
  | .ref i => decide (i < L) || decide (900000 ≤ i)
  | _ => true
theorem tr_ag {adr adr' : Nat → Nat} {L : Nat} (ha : AG adr adr' L) {v : Value} (h : okV L v = true) : tr adr' v = tr adr v := by
  cases v <;> first | rfl | skip
  rename_i i
  simp only [okV, Bool.or_eq_true, decide_eq_true_eq] at h
  show Value.ref _ = Value.ref _
  rcases h with h | h
  · rw [ha.1 i h]
  · rw [ha.2 i h]
theorem trs_ag {adr adr' : Nat → Nat} {L : Nat} (ha : AG adr adr' L) {st : List Value} (h : st.all (okV L) = true) : st.map (tr adr') = st.map (tr adr) := List.map_congr_left fun v hv => tr_ag ha (List.all_eq_true.mp h v hv)
theorem enum_ag {adr adr' : Nat → Nat} {L : Nat} (ha : AG adr adr' L) {ls : List Value} (h : ls.all (okV L) = true) {la : Array Slot} {n : Nat} (hl : lv_has la n (enumL adr ls)) : lv_has la n (enumL adr' ls) := by
  refine ⟨hl.1, hl.2.1, fun q hq => ?_⟩
  obtain ⟨j, u⟩ := q
  obtain ⟨x, h1, h2, rfl⟩ := mem_enumL.mp hq
  rw [tr_ag ha (List.all_eq_true.mp h x (List.mem_of_getElem? h1))]
  exact hl.2.2 _ (mem_enumL.mpr ⟨x, h1, h2, rfl⟩)
theorem WS_push {z : Z5} {sh : Sh} {adr adr' : Nat → Nat} {h : HI} {l : List (Nat × Nat × Nat)} {n kind len : Nat} (hL : sh.length = n) (ha : AG adr adr' n) (hl : l.all (fun q => decide (q.2.2 < n)) = true) : WS z (sh ++ [(kind, len)]) adr' (mk (zc h n) (lk l)) = WS z sh adr (mk h (lk l)) ++ [(adr' n, cel z adr' (mk (zc h n) (lk l)) (kind, len) n)] := by
  unfold WS
  rw [List.length_append, List.length_singleton, List.range_succ, List.map_append, hL]
  congr 1
  · apply List.map_congr_left
    intro o ho
    have ho := List.mem_range.mp ho
    have e0 : (sh ++ [(kind, len)]).getD o (99, 0) = sh.getD o (99, 0) := by
      rw [List.getD_eq_getElem?_getD, List.getD_eq_getElem?_getD, List.getElem?_append_left (by omega)]
    rw [e0, ha.1 o ho]
    have e1 : gI (mk (zc h n) (lk l)) o = gI (mk h (lk l)) o := by
      funext k
      show (if o = n then _ else _) = _
      rw [if_neg (by omega)]
      rfl
    have e2 : gL (mk (zc h n) (lk l)) o = gL (mk h (lk l)) o := by
      funext k
      show (if o = n then _ else _) = _
      rw [if_neg (by omega)]
      rfl
    have e3 : ∀ k, (gR (mk (zc h n) (lk l)) o k).map adr' = (gR (mk h (lk l)) o k).map adr := by
      intro k
      show (lk l o k).map adr' = (lk l o k).map adr
      cases hq : lk l o k with
      | none => rfl
      | some i => show some _ = some _; rw [ha.1 i (lk_lt hl hq)]
    have e4 : ∀ c, flds c adr' (mk (zc h n) (lk l)) o = flds c adr (mk h (lk l)) o := by
      intro c
      unfold flds
      apply List.map_congr_left
      intro k _
      have f1 := congrFun e1 k
      have f2 := congrFun e2 k
      have f3 := e3 k
      unfold fv
      split <;> first | rw [f1] | rw [f2] | rw [f3]
    unfold cel
    rw [e1, e2, e4]
    simp only [e3]
  · simp only [List.map_cons, List.map_nil, List.getD_eq_getElem?_getD]
    rw [List.getElem?_append_right (by omega)]
    simp [hL]
/-- the nest's own links, and rows of Sittings -/
def NW (U : State) : Prop := va_Nw (.methodLinkNest "NineChairs" 9 yX7_init "NineChairs") U ∧ va_Nw (.methodLinkNest "NineChairs" 28 yX0_init "NineChairs") U ∧ va_Nw (.methodLinkNest "NineChairs" 35 yX1_init "NineChairs") U ∧ va_AO RX6 U
theorem NW.warm {s U : State} (h : NW s) (hW : s.WarmedH U.vm) : NW U := ⟨h.1.warmM hW, h.2.1.warmM hW, h.2.2.1.warmM hW, va_AO.moved hW.alike h.2.2.2⟩
theorem NW.same {U V : State} (h : NW U) (hv : U.vm = V.vm) : NW V := ⟨h.1.same rfl hv, h.2.1.same rfl hv, h.2.2.1.same rfl hv, va_AO.moved (by rw [hv]; exact Vm.Alike.refl V.vm) h.2.2.2⟩
def NWX (X : CT) : Prop := NW X.2.2.2.2.1
def PCA (D : va_G) (z : Z5) (as : List Value) (sh : Sh) (adr : Nat → Nat) (σ : Hp) (sz : Nat) : Array Value → State → Prop := fun a U => PC D z as sh adr σ sz a U ∧ NW U
def QA (D : va_G) (z : Z5) (A : Nat → Prop) (sh' : Sh) (adr : Nat → Nat) (L : Nat) (post : Hp → Prop) : Array Value → State → Outcome → State → Prop := fun _ st oc t => (∃ (adr' : Nat → Nat) (τ : Hp), oc = .returned none ∧ post τ ∧ AG adr adr' L ∧ va_P D vwCl (WS z sh' adr' τ) t.heap ∧ va_D A (WS z sh' adr' τ)) ∧ va_F A st t
/-- A CONSTRUCTOR'S CONTRACT: the shape grows from sh to sh', mc cells of ms slots come -/
def CA (l : Launch) (y : MethodName) (cc : ByteArray) (nL d : Nat) (as : List Value) (sh : Sh) (σ : Hp) (mc ms : Nat) (sh' : Sh) (post : Hp → Prop) : Prop :=
  ∀ (adr : Nat → Nat) (D : va_G) (z : Z5) (sz : Nat), Met l y (.code y cc nL none :: wT) (rmD d mc ms) (PCA D z as sh adr σ sz) (QA D z (va_A (WS z sh adr σ) sz) sh' adr sh.length post) mc ms (va_A (WS z sh adr σ) sz)
def RXA (X : CT) (sh' : Sh) (adr : Nat → Nat) (L mc ms : Nat) (post : Hp → Prop) : Prop := match X with
  | (_, _, _, R, s, _, args, below, meth, _, Q, D, z, A) => Q = MQ below (QA D z A sh' adr L post) args s mc ms A ∧ meth.sig.returnType = none ∧ meth.name = "<init>" ∧ R.cells = mc ∧ R.slots = ms
theorem PCA_blind {D : va_G} {z : Z5} {as : List Value} {sh : Sh} {adr : Nat → Nat} {σ : Hp} {sz : Nat} : FrameBlind (PCA D z as sh adr σ sz) := fun a U g mk q => ⟨PC_blind a U g mk q.1, q.2.same rfl⟩
theorem ww_runA {p : Program} {l : Launch} {e : Env} {R : Room} {s : State} {m : MethodId} {args : Array Value} {below : List Frame} {meth : Method} {c : Code} {H : Heap} {locs : List Loc} {cells slots mc ms : Nat} {Q : State → Prop} {pc : Nat} {la : Array Slot} {rest st0 : List Value} {a : Array Value} {A0 A1 : Nat → Prop} {H0 : Heap} {D : va_G} {z : Z5} {sh' : Sh} {adr : Nat → Nat} {L : Nat} {post : Hp → Prop} (hr : va_Run p l e R s m args below meth c H locs cells slots mc ms (F0 m pc la st0) rest (QA D z A1 sh' adr L post a) A1) (hS : va_S A0 H0 H locs) (hA : ∀ q, A1 q → A0 q)
    (kk : ∀ (adr' : Nat → Nat) (τ : Hp) (H1 : Heap) (locs1 : List Loc), post τ → AG adr adr' L → va_P D vwCl (WS z sh' adr' τ) H1 → va_D A1 (WS z sh' adr' τ) → va_S A0 H0 H1 locs1 → W p l e R s m args below meth c H1 locs1 (cells + mc) (slots + ms) Q (F0 m (pc + 3) la rest)) : W p l e R s m args below meth c H locs cells slots Q (F0 m pc la st0) := by
  intro T hT X
  obtain ⟨v, st₀, t, T', Lo, h0, X', hL, e1, e2, ⟨⟨adr', u, hv, hp, hag, hP, hD⟩, hz, hk⟩, st⟩ := hr T hT X
  cases hv
  rw [h0] at hz hk
  obtain ⟨t2, a1, b1⟩ := kk adr' u T'.heap (locs ++ Lo) hp hag (by rw [e1]; exact hP) hD
    ⟨Nat.le_trans hS.1 (by rw [e1]; exact hz), fun q h1 h2 => by rw [e1, hk q (Nat.lt_of_lt_of_le h1 hS.1) (fun z => h2 (hA q z))]; exact hS.2.1 q h1 h2, fun q hq => by
      rcases List.mem_append.mp hq with h | h
      · exact hS.2.2 q h
      · exact hA _ (hL q h)⟩ T' rfl X'
  exact ⟨t2, st t2 a1, b1⟩
/-- the words of a call of a constructor -/
def IW (own : String) (idx : Nat) (y : MethodName) (cc : ByteArray) (nL n : Nat) : Prop := Cond.methodLink own idx y ∈ wT ∧ Cond.instanceMethod y ∈ wT ∧ Cond.initialized y.cls ∈ wT ∧ Cond.code y cc nL none ∈ wT ∧ y.cls ≠ "java/lang/invoke/MethodHandle" ∧ y.cls ≠ "java/lang/invoke/VarHandle" ∧ (parseMethodDescriptor y.desc).map (fun d => d.parameters.length) = some n ∧ y.name = "<init>"
/-- the same through the nest -/
def IN (y : MethodName) (cc : ByteArray) (nL n : Nat) : Prop := Cond.instanceMethod y ∈ wT ∧ Cond.initialized y.cls ∈ wT ∧ Cond.code y cc nL none ∈ wT ∧ y.cls ≠ "java/lang/invoke/MethodHandle" ∧ y.cls ≠ "java/lang/invoke/VarHandle" ∧ (parseMethodDescriptor y.desc).map (fun d => d.parameters.length) = some n ∧ y.name = "<init>"
theorem ww_callI {X : CT} {sh : Sh} {adr : Nat → Nat} {cells slots : Nat} {own : String} {cc : ByteArray} {nL d pc : Nat} {ls st st0 : List Value} {σ : Hp} {idx o n : Nat} {y : MethodName} {cc' : ByteArray} {nL' d' mc ms : Nat} {as : List Value} {sh' : Sh} {post : Hp → Prop} (C : CX X own cc nL d) (hZ : SZX X adr) (hN : NWX X) (hd : decode cc pc = .ok (.invokespecial idx, 3)) (hw : IW own idx y cc' nL' n) (hc : CA (lX X) y cc' nL' d' (.ref o :: as) sh σ mc ms sh' post) (hr : d' + 1 ≤ d ∧ nL' + 19 ≤ 64) (hs : as.reverse ++ .ref o :: st = st0) (hn : as.length = n) (h8 : (st.map fun v => v.category).sum ≤ 8) (hcs : cells + mc ≤ (rX X).cells ∧ slots + ms ≤ (rX X).slots) (hls : ls.all (okV sh.length) = true) (hst : st.all (okV sh.length) = true)
    (k : ∀ (adr' : Nat → Nat) (τ : Hp), post τ → AG adr adr' sh.length → SZX X adr' → WW X (sh', adr', cells + mc, slots + ms) (pc + 3) ls st τ) : WW X (sh, adr, cells, slots) pc ls st0 σ := by
  have hZ0 := hZ
  obtain ⟨p, l, e, R, s, m, args, below, meth, c, Q, D, z, A⟩ := X
  obtain ⟨hx, hb, hml, hown, hts, hK, hA, hR, hlk⟩ := C
  obtain ⟨w1, w2, w4, w5, w6, w7, w8, w9⟩ := hw
  intro H locs la hP hD hS hl
  subst hs
  have hA1 : ∀ q, va_A (WS z sh adr σ) H.size q → A q := fun q h => by
    rcases h with ⟨k, e, h⟩ | h
    · exact hD.2 k _ h
    · exact hA q (Nat.le_trans hS.1 h)
  refine ww_runA (va_runI (As := as.map (tr adr)) (b := adr o) (rest := st.map (tr adr)) (n := n) (bytes := cc') (maxL := nL') ⟨hx, hb, rfl, hown, hts⟩ (hc adr D z H.size) ⟨callB_of n hts (wT_code w5) rfl rfl rfl (hts _ w4) (hts _ w1) ⟨w6, w7, w8⟩ ⟨by have := hr.1; have := hR.1; exact Nat.le_trans ‹d' + 1 ≤ d› this, ?_⟩, w9, hts _ w2⟩ ⟨PCA_blind, fun U hU hW => ⟨⟨rfl, by rw [hU], by rw [hU]; exact hP, va_K.moved hW.alike hK, hD.weaken (fun _ _ _ _ => trivial), SZ.call hZ hS hA1 hU hW⟩, NW.warm hN hW⟩⟩ rfl (by rw [List.length_map]; exact hn) hl.1 (by simp [tr]) (lv_room (by rw [List.map_map]; simpa [Function.comp_def, tr_cat] using h8)) hd ⟨hcs.1, hcs.2⟩) hS hA1 (fun adr' τ H1 locs1 hp hag hP1 hD1 hS1 => ?_)
  · have h1 := hR.2
    have h2 := hr.1
    have h3 := hr.2
    show 8 + (nL' + 11) + d' * 64 ≤ R.locals
    have h4 : (d' + 1) * 64 ≤ d * 64 := Nat.mul_le_mul_right 64 h2
    omega
  · have hk2 := k adr' τ hp hag (hZ0.ag hag) H1 locs1 la hP1 (hD1.weaken (fun _ _ _ h => hA1 _ h)) hS1 (enum_ag hag hls hl)
    rw [trs_ag hag hst] at hk2
    exact hk2
theorem ww_callIN {X : CT} {sh : Sh} {adr : Nat → Nat} {cells slots : Nat} {own host : String} {cc : ByteArray} {nL d pc : Nat} {ls st st0 : List Value} {σ : Hp} {idx o n : Nat} {y : MethodName} {cc' : ByteArray} {nL' d' mc ms : Nat} {as : List Value} {sh' : Sh} {post : Hp → Prop} (C : CX X own cc nL d) (hZ : SZX X adr) (hN : NWX X) (hd : decode cc pc = .ok (.invokespecial idx, 3)) (hw : IN y cc' nL' n) (hnw : va_Nw (.methodLinkNest own idx y host) X.2.2.2.2.1) (hc : CA (lX X) y cc' nL' d' (.ref o :: as) sh σ mc ms sh' post) (hr : d' + 1 ≤ d ∧ nL' + 19 ≤ 64) (hs : as.reverse ++ .ref o :: st = st0) (hn : as.length = n) (h8 : (st.map fun v => v.category).sum ≤ 8) (hcs : cells + mc ≤ (rX X).cells ∧ slots + ms ≤ (rX X).slots) (hls : ls.all (okV sh.length) = true) (hst : st.all (okV sh.length) = true)
    (k : ∀ (adr' : Nat → Nat) (τ : Hp), post τ → AG adr adr' sh.length → SZX X adr' → WW X (sh', adr', cells + mc, slots + ms) (pc + 3) ls st τ) : WW X (sh, adr, cells, slots) pc ls st0 σ := by
  have hZ0 := hZ
  obtain ⟨p, l, e, R, s, m, args, below, meth, c, Q, D, z, A⟩ := X
  obtain ⟨hx, hb, hml, hown, hts, hK, hA, hR, hlk⟩ := C
  obtain ⟨w2, w4, w5, w6, w7, w8, w9⟩ := hw
  intro H locs la hP hD hS hl
  subst hs
  have hA1 : ∀ q, va_A (WS z sh adr σ) H.size q → A q := fun q h => by
    rcases h with ⟨k, e, h⟩ | h
    · exact hD.2 k _ h
    · exact hA q (Nat.le_trans hS.1 h)
  refine ww_runA (va_runIN (As := as.map (tr adr)) (b := adr o) (rest := st.map (tr adr)) (n := n) (bytes := cc') (maxL := nL') ⟨hx, hb, rfl, hown, hts⟩ (hc adr D z H.size) ⟨va_cnB n hts (wT_code w5) rfl rfl rfl hnw (hts _ w4) ⟨w6, w7, w8⟩ ⟨by have := hr.1; have := hR.1; exact Nat.le_trans ‹d' + 1 ≤ d› this, ?_⟩, w9, hts _ w2⟩ ⟨PCA_blind, fun U hU hW => ⟨⟨rfl, by rw [hU], by rw [hU]; exact hP, va_K.moved hW.alike hK, hD.weaken (fun _ _ _ _ => trivial), SZ.call hZ hS hA1 hU hW⟩, NW.warm hN hW⟩⟩ rfl (by rw [List.length_map]; exact hn) hl.1 (by simp [tr]) (lv_room (by rw [List.map_map]; simpa [Function.comp_def, tr_cat] using h8)) hd ⟨hcs.1, hcs.2⟩) hS hA1 (fun adr' τ H1 locs1 hp hag hP1 hD1 hS1 => ?_)
  · have h1 := hR.2
    have h2 := hr.1
    have h3 := hr.2
    show 8 + (nL' + 11) + d' * 64 ≤ R.locals
    have h4 : (d' + 1) * 64 ≤ d * 64 := Nat.mul_le_mul_right 64 h2
    omega
  · have hk2 := k adr' τ hp hag (hZ0.ag hag) H1 locs1 la hP1 (hD1.weaken (fun _ _ _ h => hA1 _ h)) hS1 (enum_ag hag hls hl)
    rw [trs_ag hag hst] at hk2
    exact hk2
theorem CA.of {l : Launch} {y : MethodName} {cc : ByteArray} {nL d : Nat} {as : List Value} {sh sh' : Sh} {σ : Hp} {mc ms : Nat} {post : Hp → Prop} (hy : plainName y.cls = true) (hnm : y.name = "<init>") (hn : (as.map fun v => v.category).sum ≤ nL) (n : Nat) (ls : List Value) (hls : argL as ++ List.replicate n (.retAddr 0) = ls)
    (body : ∀ (X : CT) (adr : Nat → Nat), lX X = l → CX X y.cls cc nL d → RXA X sh' adr sh.length mc ms post → SZX X adr → NWX X → WW X (sh, adr, 0, 0) 0 ls [] σ) : CA l y cc nL d as sh σ mc ms sh' post := by
  intro adr D z sz
  refine Met.ofW (cc := cc) (maxL := nL) (ret := none) hy rfl ?_
  intro p e s m args below meth c s₁ B hml hv
  obtain ⟨⟨rfl, hsz, hP, hK, hD0, hZ0⟩, hN0⟩ := hv
  subst hsz
  have hts := atoms_spec (ws := Cond.code y cc nL none :: wT) B.pre
  have hown : s.vm.findClass y.cls = some m.cls := findClass_of_methodNamed B.named
  have hin : meth.name = "<init>" := (name_of_methodNamed B.named B.method).1.trans hnm
  have hlen : (lg_sl (as.map (tr adr))).length ≤ nL := by
    have h1 : ∀ vs : List Value, (lg_sl vs).length = (vs.map fun v => v.category).sum := by
      intro vs
      induction vs with
      | nil => rfl
      | cons v vs ih =>
        have h2 : lg_sl (v :: vs) = (if v.category = 2 then [Slot.val v, .second] else [.val v]) ++ lg_sl vs := rfl
        rw [h2, List.length_append, ih, List.map_cons, List.sum_cons]
        rcases lv_cat v with q | q <;> simp [q]
    rw [h1, List.map_map]
    simpa [Function.comp_def, tr_cat] using hn
  have hl := lv_entry (as.map (tr adr)) (n := nL) hlen
  rw [lg_entry_eq]
  have hb := body (p, l, e, (headSpec (Cond.code y cc nL none :: wT) (rmD d mc ms)).room, s, m, (as.map (tr adr)).toArray, below, meth, c, _, D, z, va_A (WS z sh adr σ) s.heap.size) adr rfl ⟨B.exec, B.bytes, hml, hown, fun w h => hts w (List.mem_cons_of_mem _ h), hK, fun q h => Or.inr h, ⟨Nat.le_refl _, Nat.le_refl _⟩, B.notSynchronized⟩ ⟨rfl, B.returns, hin, rfl, rfl⟩ hZ0 hN0 s.heap [] ((lg_sl (as.map (tr adr)) ++ List.replicate (nL - (lg_sl (as.map (tr adr))).length) Slot.unset).toArray) hP hD0.self va_S.rf ?_
  · exact hb
  · rw [hml]
    refine ⟨hl.1, hl.2.1, fun q hq => ?_⟩
    obtain ⟨j, u⟩ := q
    obtain ⟨x, h1, h2, rfl⟩ := mem_enumL.mp hq
    subst hls
    have := argL_in adr as 0 j x n h1 h2
    rw [Nat.zero_add] at this
    exact hl.2.2 _ this
theorem ww_vretA {X : CT} {sh' : Sh} {adr0 adr : Nat → Nat} {L mc ms : Nat} {own : String} {cc : ByteArray} {nL d pc : Nat} {ls : List Value} {σ : Hp} {post : Hp → Prop} (C : CX X own cc nL d) (E : RXA X sh' adr0 L mc ms post) (hag : AG adr0 adr L) (hd : decode cc pc = .ok (.return_, 1)) (hp : post σ) : WW X (sh', adr, mc, ms) pc ls [] σ := by
  obtain ⟨p, l, e, R, s, m, args, below, meth, c, Q, D, z, A⟩ := X
  obtain ⟨hx, hb, hml, hown, hts, hK, hA, hR, hlk⟩ := C
  obtain ⟨rfl, hr, -⟩ := E
  intro H locs la hP hD hS hl
  exact W.vret hx hb hr (fun t ht hW => ⟨⟨adr, σ, rfl, hp, hag, by rw [ht]; exact hP, hD⟩, hS.F ht⟩) hS.2.2 hd hlk
def OW (own : String) (idx : Nat) : Prop := Cond.methodLink own idx objectInit ∈ wT ∧ Cond.instanceMethod objectInit ∈ wT ∧ Cond.code objectInit ⟨#[0xb1]⟩ 1 none ∈ wT
theorem ww_objInit {X : CT} {sh : Sh} {adr : Nat → Nat} {cells slots : Nat} {own : String} {cc : ByteArray} {nL d pc : Nat} {ls st : List Value} {σ : Hp} {idx o : Nat} (C : CX X own cc nL d) (hd : decode cc pc = .ok (.invokespecial idx, 3)) (hw : OW own idx) (h1 : 1 ≤ d) (h8 : (st.map fun v => v.category).sum ≤ 8) (k : WW X (sh, adr, cells, slots) (pc + 3) ls st σ) : WW X (sh, adr, cells, slots) pc ls (.ref o :: st) σ := by
  obtain ⟨p, l, e, R, s, m, args, below, meth, c, Q, D, z, A⟩ := X
  obtain ⟨hx, hb, hml, hown, hts, hK, hA, hR, hlk⟩ := C
  obtain ⟨w1, w2, w3⟩ := hw
  intro H locs la hP hD hS hl
  refine W.objInit (rest := st.map (tr adr)) hx hb hown (hts _ w1) (hts _ w2) (hts _ w3) rfl hl.1 rfl hd (Nat.le_trans h1 hR.1) ?_ (k H locs la hP hD hS hl)
  have h2 := hR.2
  have h3 : ((st.map (tr adr)).map fun v => v.category).sum ≤ 8 := by rw [List.map_map]; simpa [Function.comp_def, tr_cat] using h8
  show 2 * 0 + _ + 12 ≤ _
  omega
def NCW (own : String) (idx ci : Nat) : Prop := Cond.classLink own idx (RF ci) ∈ wT ∧ Cond.instantiable (RF ci) (nF ci) ∈ wT ∧ Cond.initialized (RF ci) ∈ wT
theorem tyF_kinds : ∀ ci, ci < 10 → ∀ j, j < nF ci → (tyF ci j = .int ∨ tyF ci j = .boolean ∨ tyF ci j = .long ∨ (∃ nm, tyF ci j = .object nm) ∨ ∃ nm, tyF ci j = .array nm) := by
  have h : ∀ ci, ci < 10 → ∀ j, j < nF ci → (match tyF ci j with
      | .int => true | .boolean => true | .long => true | .object _ => true | .array _ => true | _ => false) = true := by decide +kernel
  intro ci hc j hj
  have h1 := h ci hc j hj
  cases hq : tyF ci j <;> rw [hq] at h1 <;> first | (cases h1; done) | (simp; done)
theorem ag_new {adr : Nat → Nat} {n q : Nat} (hn : n < 900000) : AG adr (fun i => if i = n then q else adr i) n := ⟨fun i hi => if_neg (by omega), fun i hi => if_neg (by omega)⟩
theorem ww_new {X : CT} {sh : Sh} {adr : Nat → Nat} {cells slots : Nat} {own : String} {cc : ByteArray} {nL d pc : Nat} {ls st : List Value} {h : HI} {l : List (Nat × Nat × Nat)} {idx ci : Nat} (C : CX X own cc nL d) (hZ : SZX X adr) (hd : decode cc pc = .ok (.new idx, 3)) (hw : NCW own idx ci) (hci : ci < 10) (n : Nat) (hL : sh.length = n) (hn : n < 900000) (hl1 : l.all (fun q => decide (q.2.2 < n)) = true) (hl2 : l.all (fun q => decide (q.1 ≠ n)) = true) (hcs : cells + 1 ≤ (rX X).cells ∧ slots + nF ci ≤ (rX X).slots) (hls : ls.all (okV n) = true) (hst : st.all (okV n) = true) (sh' : Sh) (hsh : sh ++ [(ci, 0)] = sh')
    (k : ∀ adr' : Nat → Nat, AG adr adr' n → SZX X adr' → WW X (sh', adr', cells + 1, slots + nF ci) (pc + 3) ls (.ref n :: st) (mk (zc h n) (lk l))) : WW X (sh, adr, cells, slots) pc ls st (mk h (lk l)) := by
  have hZ0 := hZ
  obtain ⟨p, l', e, R, s, m, args, below, meth, c, Q, D, z, A⟩ := X
  obtain ⟨hx, hb, hml, hown, hts, hK, hA, hR, hlk⟩ := C
  obtain ⟨w1, w2, w3⟩ := hw
  subst hsh
  intro H locs la hP hD hS hl
  have hfs : ∀ adr' j, j < nF ci → defaultValue (tyF ci j) = vp_V (flds ci adr' (mk (zc h n) (lk l)) n) j := by
    intro adr' j hj
    unfold vp_V
    rw [List.getD_eq_getElem?_getD, flds_at hj]
    have z1 : gI (mk (zc h n) (lk l)) n j = 0 := if_pos rfl
    have z2 : gL (mk (zc h n) (lk l)) n j = 0 := if_pos rfl
    have z3 : gR (mk (zc h n) (lk l)) n j = none := lk_no hl2 j
    have ht : tyF ci j = .int ∨ tyF ci j = .boolean ∨ tyF ci j = .long ∨ (∃ nm, tyF ci j = .object nm) ∨ ∃ nm, tyF ci j = .array nm := tyF_kinds ci hci j hj
    show defaultValue (tyF ci j) = fv adr' (mk (zc h n) (lk l)) (tyF ci j) n j
    rcases ht with q | q | q | ⟨nm, q⟩ | ⟨nm, q⟩ <;> rw [q] <;> simp only [fv, z1, z2, z3] <;> rfl
  refine va_new (ty := tyF ci) (fs := flds ci adr (mk (zc h n) (lk l)) n) hx hb hts (wT_u ci hci) (tyF_ok ci hci) hown (hts _ w1) (hts _ w2) (hts _ w3) hK hP hD hS hA (vwCl_at ci hci) (hfs adr) hcs.1 hcs.2 hd (fun q H1 hP1 hD1 hS1 => ?_)
  have hag : AG adr (fun i => if i = n then q else adr i) n := ag_new hn
  have e5 : flds ci adr (mk (zc h n) (lk l)) n = flds ci (fun i => if i = n then q else adr i) (mk (zc h n) (lk l)) n := by
    unfold flds
    apply List.map_congr_left
    intro j _
    have z3 : gR (mk (zc h n) (lk l)) n j = none := lk_no hl2 j
    unfold fv
    split <;> first | rfl | rw [z3]; rfl
  have e6 : WS z (sh ++ [(ci, 0)]) (fun i => if i = n then q else adr i) (mk (zc h n) (lk l)) = WS z sh adr (mk h (lk l)) ++ [(q, .inr (ci, flds ci adr (mk (zc h n) (lk l)) n))] := by
    rw [WS_push hL hag hl1, e5]
    congr 1
    unfold cel
    rw [if_pos hci]
    show [(if n = n then q else adr n, _)] = _
    rw [if_pos rfl]
  rw [← e6] at hP1 hD1
  have hk2 := k _ hag (hZ0.ag hag) H1 locs la hP1 hD1 hS1 (enum_ag hag hls hl)
  have e7 : (.ref n :: st).map (tr (fun i => if i = n then q else adr i)) = .ref q :: st.map (tr adr) := by
    rw [List.map_cons, trs_ag hag hst]
    show Value.ref (if n = n then q else adr n) :: _ = _
    rw [if_pos rfl]
  rw [e7] at hk2
  exact hk2
