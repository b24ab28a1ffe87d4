/-! CALLS AND CONTRACTS of the clean machine -/
def rmD (d mc ms : Nat) : Room := { frames := d, cells := mc, slots := ms, locals := d * 64 }
def PC (D : va_G) (z : Z5) (as : List Value) (sh : Sh) (adr : Nat → Nat) (σ : Hp) (sz : Nat) : Array Value → State → Prop := va_Pc (as.map (tr adr)) (fun U => U.heap.size = sz ∧ va_P D vwCl (WS z sh adr σ) U.heap ∧ va_K D vwCl (TY z) U ∧ va_D (fun _ => True) (WS z sh adr σ) ∧ SZ adr (va_A (WS z sh adr σ) sz) U U.heap)
def QC (D : va_G) (z : Z5) (A : Nat → Prop) (sh : Sh) (adr : Nat → Nat) (post : Option Value → Hp → Prop) : Array Value → State → Outcome → State → Prop := fun _ st oc t => (∃ (v : Option Value) (τ : Hp), oc = .returned (v.map (tr adr)) ∧ post v τ ∧ va_P D vwCl (WS z sh adr τ) t.heap ∧ va_D A (WS z sh adr τ)) ∧ va_F A st t
/-- A METHOD'S CONTRACT: from the clean heap σ with these arguments it returns, and 'post answer heap' holds; it makes no cell -/
def CC (l : Launch) (y : MethodName) (cc : ByteArray) (nL : Nat) (ret : Option FieldType) (d : Nat) (as : List Value) (sh : Sh) (adr : Nat → Nat) (σ : Hp) (post : Option Value → Hp → Prop) : Prop :=
  ∀ (D : va_G) (z : Z5) (sz : Nat), Met l y (.code y cc nL ret :: wT) (rmD d 0 0) (PC D z as sh adr σ sz) (QC D z (va_A (WS z sh adr σ) sz) sh adr post) 0 0 (va_A (WS z sh adr σ) sz)
/-- the frame's end is this contract's -/
def RX (X : CT) (ret : Option FieldType) (sh : Sh) (adr : Nat → Nat) (post : Option Value → Hp → Prop) : Prop := match X with
  | (_, _, _, _, s, _, args, below, meth, _, Q, D, z, A) => Q = MQ below (QC D z A sh adr post) args s 0 0 A ∧ meth.sig.returnType = ret
theorem PC_blind {D : va_G} {z : Z5} {as : List Value} {sh : Sh} {adr : Nat → Nat} {σ : Hp} {sz : Nat} : FrameBlind (PC D z as sh adr σ sz) := fun a U g mk q => by
  obtain ⟨q0, q1, qP, qK, qD, qZ⟩ := q
  exact ⟨q0, q1, qP, va_K.moved (u := U) (U := U.calling g mk a) (Vm.Alike.refl U.vm) qK, qD, qZ.blind rfl rfl⟩
theorem ww_run {p : Program} {l : Launch} {e : Env} {R : Room} {s : State} {m : MethodId} {args : Array Value} {below : List Frame} {meth : Method} {c : Code} {H : Heap} {locs : List Loc} {cells slots : Nat} {Q : State → Prop} {pc : Nat} {la : Array Slot} {rest st0 : List Value} {a : Array Value} {A0 A1 : Nat → Prop} {H0 : Heap} {D : va_G} {z : Z5} {sh : Sh} {adr : Nat → Nat} {post : Option Value → Hp → Prop} (hr : va_Run p l e R s m args below meth c H locs cells slots 0 0 (F0 m pc la st0) rest (QC D z A1 sh adr post a) A1) (hS : va_S A0 H0 H locs) (hA : ∀ q, A1 q → A0 q)
    (kk : ∀ (v : Option Value) (τ : Hp) (H1 : Heap) (locs1 : List Loc), post v τ → va_P D vwCl (WS z sh adr τ) H1 → va_D A1 (WS z sh adr τ) → va_S A0 H0 H1 locs1 → W p l e R s m args below meth c H1 locs1 cells slots Q (F0 m (pc + 3) la ((v.map (tr adr)).toList ++ rest))) : W p l e R s m args below meth c H locs cells slots Q (F0 m pc la st0) := by
  intro T hT X
  obtain ⟨v, st₀, t, T', L, h0, X', hL, e1, e2, ⟨⟨r, u, hv, hp, hP, hD⟩, hz, hk⟩, st⟩ := hr T hT X
  cases hv
  rw [h0] at hz hk
  obtain ⟨t2, a1, b1⟩ := kk r u T'.heap (locs ++ L) hp (by rw [e1]; exact hP) hD
    ⟨Nat.le_trans hS.1 (by rw [e1]; exact hz), fun q h1 h2 => by rw [e1, hk q (Nat.lt_of_lt_of_le h1 hS.1) (fun z => h2 (hA q z))]; exact hS.2.1 q h1 h2, fun q hq => by
      rcases List.mem_append.mp hq with h | h
      · exact hS.2.2 q h
      · exact hA _ (hL q h)⟩ T' rfl X'
  exact ⟨t2, st t2 a1, b1⟩
def rX (X : CT) : Room := X.2.2.2.1
theorem wT_code {y : MethodName} {cc : ByteArray} {nL : Nat} {ret : Option FieldType} (h : Cond.code y cc nL ret ∈ wT) : GoodIn wT (Cond.code y cc nL ret :: wT) := fun w hw => by
  rcases List.mem_cons.mp hw with rfl | h2
  · exact wT_good _ h
  · exact wT_good _ h2
theorem ww_callV {X : CT} {sh : Sh} {adr : Nat → Nat} {cells slots : Nat} {own : String} {cc : ByteArray} {nL d pc : Nat} {ls st st0 : List Value} {σ : Hp} {idx o ci n : Nat} {y : MethodName} {cc' : ByteArray} {nL' d' : Nat} {ret : Option FieldType} {as : List Value} {post : Option Value → Hp → Prop} (C : CX X own cc nL d) (hZ : SZX X adr) (hd : decode cc pc = .ok (.invokevirtual idx, 3)) (hw : CW own idx y cc' nL' ret n) (hc : CC (lX X) y cc' nL' ret d' (.ref o :: as) sh adr σ post) (hk : kd sh o = ci) (hci : ci < 10 ∧ RF ci = y.cls) (hr : d' + 1 ≤ d ∧ nL' + 19 ≤ 64) (hs : as.reverse ++ .ref o :: st = st0) (hn : as.length = n) (h8 : (st.map fun v => v.category).sum ≤ 8) (hcs : cells ≤ (rX X).cells ∧ slots ≤ (rX X).slots)
    (k : ∀ (v : Option Value) (τ : Hp), post v τ → WW X (sh, adr, cells, slots) (pc + 3) ls (v.toList ++ st) τ) : WW X (sh, adr, cells, slots) pc ls st0 σ := by
  obtain ⟨p, l, e, R, s, m, args, below, meth, c, Q, D, z, A⟩ := X
  obtain ⟨hx, hb, hml, hown, hts, hK, hA, hR, hlk⟩ := C
  obtain ⟨w1, w2, w3, w4, w5, w6, w7, w8⟩ := hw
  intro H locs la hP hD hS hl
  subst hs
  have hA1 : ∀ q, va_A (WS z sh adr σ) H.size q → A q := fun q h => by
    rcases h with ⟨k, e, h⟩ | h
    · exact hD.2 k _ h
    · exact hA q (Nat.le_trans hS.1 h)
  have he : (WS z sh adr σ)[o]? = some (adr o, .inr (ci, flds ci adr σ o)) := by rw [WS_at (kd_lt hk (by omega)), cel_obj hk hci.1]
  have hGV : GoodIn wT (wsV own idx y.cls y (Cond.code y cc' nL' ret :: wT)) := fun w hw => by
    unfold wsV at hw
    rcases List.mem_append.mp hw with h | h
    · simp only [List.mem_cons, List.not_mem_nil, or_false] at h
      rcases h with rfl | rfl | rfl | rfl
      · exact wT_good _ w1
      · exact wT_good _ w2
      · exact wT_good _ w3
      · exact wT_good _ w4
    · exact wT_code w5 w h
  refine ww_run (va_runV (As := as.map (tr adr)) (b := adr o) (C := y.cls) (rest := st.map (tr adr)) (n := n) (bytes := cc') (maxL := nL') (ret := ret) ⟨hx, hb, rfl, hown, hts⟩ (hc D z H.size) (cwV n hts hGV rfl rfl rfl ⟨rfl, w6, w7, w8⟩ ⟨by have := hr.1; have := hR.1; exact Nat.le_trans ‹d' + 1 ≤ d› this, ?_⟩) ⟨PC_blind, ?_, fun U hU hW => ⟨rfl, by rw [hU], by rw [hU]; exact hP, va_K.moved hW.alike hK, hD.weaken (fun _ _ _ _ => trivial), hZ.call hS hA1 hU hW⟩⟩ rfl (by rw [List.length_map]; exact hn) hl.1 (by simp [tr]) (lv_room (by rw [List.map_map]; simpa [Function.comp_def, tr_cat] using h8)) hd ⟨hcs.1, hcs.2⟩) hS hA1 (fun v τ H1 locs1 hp hP1 hD1 hS1 => ?_)
  · have h1 := hR.2
    have h2 := hr.1
    have h3 := hr.2
    show 8 + (nL' + 11) + d' * 64 ≤ R.locals
    have h4 : (d' + 1) * 64 ≤ d * 64 := Nat.mul_le_mul_right 64 h2
    omega
  · have hv := va_recv hK hP (vwCl_at ci hci.1) he
    rw [hci.2] at hv
    exact hv
  · have hk2 := k v τ hp H1 locs1 la hP1 (hD1.weaken (fun _ _ _ h => hA1 _ h)) hS1 hl
    cases v with
    | none => exact hk2
    | some w => exact hk2
theorem ww_callS {X : CT} {sh : Sh} {adr : Nat → Nat} {cells slots : Nat} {own : String} {cc : ByteArray} {nL d pc : Nat} {ls st st0 : List Value} {σ : Hp} {idx n : Nat} {y : MethodName} {cc' : ByteArray} {nL' d' : Nat} {ret : Option FieldType} {as : List Value} {post : Option Value → Hp → Prop} (C : CX X own cc nL d) (hZ : SZX X adr) (hd : decode cc pc = .ok (.invokestatic idx, 3)) (hw : SW own idx y cc' nL' ret n) (hc : CC (lX X) y cc' nL' ret d' as sh adr σ post) (hr : d' + 1 ≤ d ∧ nL' + 19 ≤ 64) (hs : as.reverse ++ st = st0) (hn : as.length = n) (h8 : (st.map fun v => v.category).sum ≤ 8) (hcs : cells ≤ (rX X).cells ∧ slots ≤ (rX X).slots)
    (k : ∀ (v : Option Value) (τ : Hp), post v τ → WW X (sh, adr, cells, slots) (pc + 3) ls (v.toList ++ st) τ) : WW X (sh, adr, cells, slots) pc ls st0 σ := by
  obtain ⟨p, l, e, R, s, m, args, below, meth, c, Q, D, z, A⟩ := X
  obtain ⟨hx, hb, hml, hown, hts, hK, hA, hR, hlk⟩ := C
  obtain ⟨w1, w2, w4, w5, w6, w7, w8⟩ := hw
  intro H locs la hP hD hS hl
  subst hs
  have hA1 : ∀ q, va_A (WS z sh adr σ) H.size q → A q := fun q h => by
    rcases h with ⟨k, e, h⟩ | h
    · exact hD.2 k _ h
    · exact hA q (Nat.le_trans hS.1 h)
  refine ww_run (va_runS (As := as.map (tr adr)) (rest := st.map (tr adr)) (n := n) (bytes := cc') (maxL := nL') (ret := ret) ⟨hx, hb, rfl, hown, hts⟩ (hc D z H.size) ⟨callB_of n hts (wT_code w5) rfl rfl rfl (hts _ w4) (hts _ w1) ⟨w6, w7, w8⟩ ⟨by have := hr.1; have := hR.1; exact Nat.le_trans ‹d' + 1 ≤ d› this, ?_⟩, hts _ w2⟩ ⟨PC_blind, fun U hU hW => ⟨rfl, by rw [hU], by rw [hU]; exact hP, va_K.moved hW.alike hK, hD.weaken (fun _ _ _ _ => trivial), hZ.call hS hA1 hU hW⟩⟩ rfl (by rw [List.length_map]; exact hn) hl.1 (by simp) (lv_room (by rw [List.map_map]; simpa [Function.comp_def, tr_cat] using h8)) hd ⟨hcs.1, hcs.2⟩) hS hA1 (fun v τ H1 locs1 hp hP1 hD1 hS1 => ?_)
  · have h1 := hR.2
    have h2 := hr.1
    have h3 := hr.2
    show 8 + (nL' + 11) + d' * 64 ≤ R.locals
    have h4 : (d' + 1) * 64 ≤ d * 64 := Nat.mul_le_mul_right 64 h2
    omega
  · have hk2 := k v τ hp H1 locs1 la hP1 (hD1.weaken (fun _ _ _ h => hA1 _ h)) hS1 hl
    cases v with
    | none => exact hk2
    | some w => exact hk2
/-! the ends -/
theorem ww_iret {X : CT} {sh : Sh} {adr : Nat → Nat} {own : String} {cc : ByteArray} {nL d pc : Nat} {ls : List Value} {σ : Hp} {v : Int32} {post : Option Value → Hp → Prop} (C : CX X own cc nL d) (E : RX X (some .int) sh adr post) (hd : decode cc pc = .ok (.ireturn, 1)) (hp : post (some (.int v)) σ) : WW X (sh, adr, 0, 0) pc ls [.int v] σ := by
  obtain ⟨p, l, e, R, s, m, args, below, meth, c, Q, D, z, A⟩ := X
  obtain ⟨hx, hb, hml, hown, hts, hK, hA, hR, hlk⟩ := C
  obtain ⟨rfl, hr⟩ := E
  intro H locs la hP hD hS hl
  exact W.iret (v := v) hx hb hr (fun t ht hW => ⟨⟨some (.int v), σ, rfl, hp, by rw [ht]; exact hP, hD⟩, hS.F ht⟩) hS.2.2 hd hlk
theorem ww_zret {X : CT} {sh : Sh} {adr : Nat → Nat} {own : String} {cc : ByteArray} {nL d pc : Nat} {ls : List Value} {σ : Hp} {v : Int32} {post : Option Value → Hp → Prop} (C : CX X own cc nL d) (E : RX X (some .boolean) sh adr post) (hd : decode cc pc = .ok (.ireturn, 1)) (hz : v = 0 ∨ v = 1) (hp : post (some (.int v)) σ) : WW X (sh, adr, 0, 0) pc ls [.int v] σ := by
  obtain ⟨p, l, e, R, s, m, args, below, meth, c, Q, D, z, A⟩ := X
  obtain ⟨hx, hb, hml, hown, hts, hK, hA, hR, hlk⟩ := C
  obtain ⟨rfl, hr⟩ := E
  intro H locs la hP hD hS hl
  exact W.zret (v := v) hx hb hr (by rcases hz with rfl | rfl <;> rfl) (fun t ht hW => ⟨⟨some (.int v), σ, rfl, hp, by rw [ht]; exact hP, hD⟩, hS.F ht⟩) hS.2.2 hd hlk
theorem ww_lret {X : CT} {sh : Sh} {adr : Nat → Nat} {own : String} {cc : ByteArray} {nL d pc : Nat} {ls : List Value} {σ : Hp} {v : Int64} {post : Option Value → Hp → Prop} (C : CX X own cc nL d) (E : RX X (some .long) sh adr post) (hd : decode cc pc = .ok (.lreturn, 1)) (hp : post (some (.long v)) σ) : WW X (sh, adr, 0, 0) pc ls [.long v] σ := by
  obtain ⟨p, l, e, R, s, m, args, below, meth, c, Q, D, z, A⟩ := X
  obtain ⟨hx, hb, hml, hown, hts, hK, hA, hR, hlk⟩ := C
  obtain ⟨rfl, hr⟩ := E
  intro H locs la hP hD hS hl
  exact W.lret (v := v) hx hb hr (fun t ht hW => ⟨⟨some (.long v), σ, rfl, hp, by rw [ht]; exact hP, hD⟩, hS.F ht⟩) hS.2.2 hd hlk
theorem ww_vret {X : CT} {sh : Sh} {adr : Nat → Nat} {own : String} {cc : ByteArray} {nL d pc : Nat} {ls : List Value} {σ : Hp} {post : Option Value → Hp → Prop} (C : CX X own cc nL d) (E : RX X none sh adr post) (hd : decode cc pc = .ok (.return_, 1)) (hp : post none σ) : WW X (sh, adr, 0, 0) pc ls [] σ := by
  obtain ⟨p, l, e, R, s, m, args, below, meth, c, Q, D, z, A⟩ := X
  obtain ⟨hx, hb, hml, hown, hts, hK, hA, hR, hlk⟩ := C
  obtain ⟨rfl, hr⟩ := E
  intro H locs la hP hD hS hl
  exact W.vret hx hb hr (fun t ht hW => ⟨⟨none, σ, rfl, hp, by rw [ht]; exact hP, hD⟩, hS.F ht⟩) hS.2.2 hd hlk
/-! the entry -/
def argL : List Value → List Value
  | [] => []
  | v :: vs => if v.category = 2 then v :: .retAddr 0 :: argL vs else v :: argL vs
theorem argL_in (adr : Nat → Nat) : ∀ (as : List Value) (i0 j : Nat) (v : Value) (n : Nat), (argL as ++ List.replicate n (.retAddr 0))[j]? = some v → v ≠ .retAddr 0 → (i0 + j, tr adr v) ∈ lv_args i0 (as.map (tr adr))
  | [], i0, j, v, n, h, hn => by
    simp only [argL, List.nil_append, List.getElem?_replicate] at h
    split at h
    · exact absurd (Option.some.inj h).symm hn
    · cases h
  | a :: as, i0, j, v, n, h, hn => by
    simp only [argL] at h
    simp only [List.map_cons, lv_args, tr_cat]
    by_cases hc : a.category = 2
    · rw [if_pos hc] at h
      rw [if_pos hc]
      match j, h with
      | 0, h => simp at h; subst h; exact List.mem_cons_self
      | 1, h => simp at h; exact absurd h.symm hn
      | j + 2, h =>
        have := argL_in adr as (i0 + 2) j v n (by simpa using h) hn
        rw [show i0 + (j + 2) = i0 + 2 + j by omega]
        exact List.mem_cons_of_mem _ this
    · rw [if_neg hc] at h
      rw [if_neg hc]
      match j, h with
      | 0, h => simp at h; subst h; exact List.mem_cons_self
      | j + 1, h =>
        have := argL_in adr as (i0 + 1) j v n (by simpa using h) hn
        rw [show i0 + (j + 1) = i0 + 1 + j by omega]
        exact List.mem_cons_of_mem _ this
/-- A CONTRACT OUT OF THE WALK of the method's body -/
theorem CC.of {l : Launch} {y : MethodName} {cc : ByteArray} {nL : Nat} {ret : Option FieldType} {d : Nat} {as : List Value} {sh : Sh} {adr : Nat → Nat} {σ : Hp} {post : Option Value → Hp → Prop} (hy : plainName y.cls = true) (hn : (as.map fun v => v.category).sum ≤ nL) (n : Nat) (ls : List Value) (hls : argL as ++ List.replicate n (.retAddr 0) = ls)
    (body : ∀ X : CT, lX X = l → CX X y.cls cc nL d → RX X ret sh adr post → SZX X adr → WW X (sh, adr, 0, 0) 0 ls [] σ) : CC l y cc nL ret d as sh adr σ post := by
  intro D z sz
  refine Met.ofW (cc := cc) (maxL := nL) (ret := ret) hy rfl ?_
  intro p e s m args below meth c s₁ B hml hv
  obtain ⟨rfl, hsz, hP, hK, hD0, hZ0⟩ := hv
  subst hsz
  have hts := atoms_spec (ws := Cond.code y cc nL ret :: wT) B.pre
  have hown : s.vm.findClass y.cls = some m.cls := findClass_of_methodNamed B.named
  have hlen : (lg_sl (as.map (tr adr))).length ≤ nL := by
    have h1 : ∀ vs : List Value, (lg_sl vs).length = (vs.map fun v => v.category).sum := by
      intro vs
      induction vs with
      | nil => rfl
      | cons v vs ih =>
        have h2 : lg_sl (v :: vs) = (if v.category = 2 then [Slot.val v, .second] else [.val v]) ++ lg_sl vs := rfl
        rw [h2, List.length_append, ih, List.map_cons, List.sum_cons]
        rcases lv_cat v with q | q <;> simp [q]
    rw [h1, List.map_map]
    simpa [Function.comp_def, tr_cat] using hn
  have hl := lv_entry (as.map (tr adr)) (n := nL) hlen
  rw [lg_entry_eq]
  have hb := body (p, l, e, (headSpec (Cond.code y cc nL ret :: wT) (rmD d 0 0)).room, s, m, (as.map (tr adr)).toArray, below, meth, c, _, D, z, va_A (WS z sh adr σ) s.heap.size) rfl ⟨B.exec, B.bytes, hml, hown, fun w h => hts w (List.mem_cons_of_mem _ h), hK, fun q h => Or.inr h, ⟨Nat.le_refl _, Nat.le_refl _⟩, B.notSynchronized⟩ ⟨rfl, B.returns⟩ hZ0 s.heap [] ((lg_sl (as.map (tr adr)) ++ List.replicate (nL - (lg_sl (as.map (tr adr))).length) Slot.unset).toArray) hP hD0.self va_S.rf ?_
  · exact hb
  · rw [hml]
    refine ⟨hl.1, hl.2.1, fun q hq => ?_⟩
    obtain ⟨j, u⟩ := q
    obtain ⟨x, h1, h2, rfl⟩ := mem_enumL.mp hq
    subst hls
    have := argL_in adr as 0 j x n h1 h2
    rw [Nat.zero_add] at this
    exact hl.2.2 _ this
/-- more is promised than wanted -/
theorem CC.post {l : Launch} {y : MethodName} {cc : ByteArray} {nL : Nat} {ret : Option FieldType} {d : Nat} {as : List Value} {sh : Sh} {adr : Nat → Nat} {σ : Hp} {post post2 : Option Value → Hp → Prop} (h : CC l y cc nL ret d as sh adr σ post) (hp : ∀ v τ, post v τ → post2 v τ) : CC l y cc nL ret d as sh adr σ post2 := by
  intro D z sz
  have h1 := h D z sz
  intro p e ha hc hk s m args below hf hap hpre hcall
  obtain ⟨k, o, a1, a2, a3, ⟨⟨⟨v, τ, b1, b2, b3⟩, b4⟩, b5⟩⟩ := h1 p e ha hc hk s m args below hf hap hpre hcall
  exact ⟨k, o, a1, a2, a3, ⟨⟨⟨v, τ, b1, hp v τ b2, b3⟩, b4⟩, b5⟩⟩
