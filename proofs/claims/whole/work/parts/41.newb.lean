theorem ww_newaB {X : CT} {sh : Sh} {adr : Nat → Nat} {cells slots : Nat} {own : String} {cc : ByteArray} {nL d pc : Nat} {ls st : List Value} {h : HI} {l : List (Nat × Nat × Nat)} {x : Int32} (C : CX X own cc nL d) (hZ : SZX X adr) (hd : decode cc pc = .ok (.newarray .byte, 2)) (hw : Cond.arrayClass .byte ∈ wT) (N : Nat) (hx0 : ¬ x < 0) (hxN : x.toNatClampNeg = N) (hN : N ≤ 1000000) (n : Nat) (hL : sh.length = n) (hn : n < 900000) (hl1 : l.all (fun q => decide (q.2.2 < n)) = true) (hcs : cells + 1 ≤ (rX X).cells ∧ slots + N ≤ (rX X).slots) (hls : ls.all (okV n) = true) (hst : st.all (okV n) = true) (sh' : Sh) (hsh : sh ++ [(10, N)] = sh')
    (k : ∀ adr' : Nat → Nat, AG adr adr' n → SZX X adr' → WW X (sh', adr', cells + 1, slots + N) (pc + 2) ls (.ref n :: st) (mk (zc h n) (lk l))) : WW X (sh, adr, cells, slots) pc ls (.int x :: st) (mk h (lk l)) := by
  have hZ0 := hZ
  obtain ⟨p, l', e, R, s, m, args, below, meth, c, Q, D, z, A⟩ := X
  obtain ⟨hx, hb, hml, hown, hts, hK, hA, hR, hlk⟩ := C
  subst hsh
  intro H locs la hP hD hS hl
  refine va_newa (atype := .byte) (ty := .byte) (a0 := (N, .inl (fun _ => 0))) (N' := N) hx hb (hts _ hw) rfl hK hP hD hS hA (fun cA => rfl) hx0 hxN (by simp only [componentBytes]; omega) hcs.1 hcs.2 hd (fun q cA H1 hK1 hP1 hD1 hS1 => ?_)
  have hcA : cA = z.1 := by
    have h1 : s.vm.findClass ("[" ++ FieldType.toString .byte) = some cA := (hK1.2 5 (cA, .byte) rfl).2
    have h2 : s.vm.findClass ("[" ++ FieldType.toString .byte) = some (z.1) := (hK.2 0 _ rfl).2
    exact Option.some.inj (h1.symm.trans h2)
  subst hcA
  have hag : AG adr (fun i => if i = n then q else adr i) n := ag_new hn
  have e6 : WS z (sh ++ [(10, N)]) (fun i => if i = n then q else adr i) (mk (zc h n) (lk l)) = WS z sh adr (mk h (lk l)) ++ [(q, .inl (z.1, N, .inl (fun _ => 0)))] := by
    rw [WS_push hL hag hl1]
    congr 1
    have z1 : gI (mk (zc h n) (lk l)) n = fun _ => 0 := funext fun j => if_pos rfl
    have z2 : gL (mk (zc h n) (lk l)) n = fun _ => 0 := funext fun j => if_pos rfl
    show [(if n = n then q else adr n, _)] = _
    rw [if_pos rfl]
    show [(q, (.inl (z.1, N, .inl (gI (mk (zc h n) (lk l)) n)) : va_E))] = _
    rw [z1]
  rw [← e6] at hP1 hD1
  have hk2 := k _ hag (hZ0.ag hag) H1 locs la hP1 hD1 hS1 (enum_ag hag hls hl)
  have e7 : (.ref n :: st).map (tr (fun i => if i = n then q else adr i)) = .ref q :: st.map (tr adr) := by
    rw [List.map_cons, trs_ag hag hst]
    show Value.ref (if n = n then q else adr n) :: _ = _
    rw [if_pos rfl]
  rw [e7] at hk2
  exact hk2
theorem ww_newaI {X : CT} {sh : Sh} {adr : Nat → Nat} {cells slots : Nat} {own : String} {cc : ByteArray} {nL d pc : Nat} {ls st : List Value} {h : HI} {l : List (Nat × Nat × Nat)} {x : Int32} (C : CX X own cc nL d) (hZ : SZX X adr) (hd : decode cc pc = .ok (.newarray .int, 2)) (hw : Cond.arrayClass .int ∈ wT) (N : Nat) (hx0 : ¬ x < 0) (hxN : x.toNatClampNeg = N) (hN : N ≤ 1000000) (n : Nat) (hL : sh.length = n) (hn : n < 900000) (hl1 : l.all (fun q => decide (q.2.2 < n)) = true) (hcs : cells + 1 ≤ (rX X).cells ∧ slots + N ≤ (rX X).slots) (hls : ls.all (okV n) = true) (hst : st.all (okV n) = true) (sh' : Sh) (hsh : sh ++ [(11, N)] = sh')
    (k : ∀ adr' : Nat → Nat, AG adr adr' n → SZX X adr' → WW X (sh', adr', cells + 1, slots + N) (pc + 2) ls (.ref n :: st) (mk (zc h n) (lk l))) : WW X (sh, adr, cells, slots) pc ls (.int x :: st) (mk h (lk l)) := by
  have hZ0 := hZ
  obtain ⟨p, l', e, R, s, m, args, below, meth, c, Q, D, z, A⟩ := X
  obtain ⟨hx, hb, hml, hown, hts, hK, hA, hR, hlk⟩ := C
  subst hsh
  intro H locs la hP hD hS hl
  refine va_newa (atype := .int) (ty := .int) (a0 := (N, .inl (fun _ => 0))) (N' := N) hx hb (hts _ hw) rfl hK hP hD hS hA (fun cA => rfl) hx0 hxN (by simp only [componentBytes]; omega) hcs.1 hcs.2 hd (fun q cA H1 hK1 hP1 hD1 hS1 => ?_)
  have hcA : cA = z.2.1 := by
    have h1 : s.vm.findClass ("[" ++ FieldType.toString .int) = some cA := (hK1.2 5 (cA, .int) rfl).2
    have h2 : s.vm.findClass ("[" ++ FieldType.toString .int) = some (z.2.1) := (hK.2 1 _ rfl).2
    exact Option.some.inj (h1.symm.trans h2)
  subst hcA
  have hag : AG adr (fun i => if i = n then q else adr i) n := ag_new hn
  have e6 : WS z (sh ++ [(11, N)]) (fun i => if i = n then q else adr i) (mk (zc h n) (lk l)) = WS z sh adr (mk h (lk l)) ++ [(q, .inl (z.2.1, N, .inl (fun _ => 0)))] := by
    rw [WS_push hL hag hl1]
    congr 1
    have z1 : gI (mk (zc h n) (lk l)) n = fun _ => 0 := funext fun j => if_pos rfl
    have z2 : gL (mk (zc h n) (lk l)) n = fun _ => 0 := funext fun j => if_pos rfl
    show [(if n = n then q else adr n, _)] = _
    rw [if_pos rfl]
    show [(q, (.inl (z.2.1, N, .inl (gI (mk (zc h n) (lk l)) n)) : va_E))] = _
    rw [z1]
  rw [← e6] at hP1 hD1
  have hk2 := k _ hag (hZ0.ag hag) H1 locs la hP1 hD1 hS1 (enum_ag hag hls hl)
  have e7 : (.ref n :: st).map (tr (fun i => if i = n then q else adr i)) = .ref q :: st.map (tr adr) := by
    rw [List.map_cons, trs_ag hag hst]
    show Value.ref (if n = n then q else adr n) :: _ = _
    rw [if_pos rfl]
  rw [e7] at hk2
  exact hk2
theorem ww_newaJ {X : CT} {sh : Sh} {adr : Nat → Nat} {cells slots : Nat} {own : String} {cc : ByteArray} {nL d pc : Nat} {ls st : List Value} {h : HI} {l : List (Nat × Nat × Nat)} {x : Int32} (C : CX X own cc nL d) (hZ : SZX X adr) (hd : decode cc pc = .ok (.newarray .long, 2)) (hw : Cond.arrayClass .long ∈ wT) (N : Nat) (hx0 : ¬ x < 0) (hxN : x.toNatClampNeg = N) (hN : N ≤ 1000000) (n : Nat) (hL : sh.length = n) (hn : n < 900000) (hl1 : l.all (fun q => decide (q.2.2 < n)) = true) (hcs : cells + 1 ≤ (rX X).cells ∧ slots + N ≤ (rX X).slots) (hls : ls.all (okV n) = true) (hst : st.all (okV n) = true) (sh' : Sh) (hsh : sh ++ [(12, N)] = sh')
    (k : ∀ adr' : Nat → Nat, AG adr adr' n → SZX X adr' → WW X (sh', adr', cells + 1, slots + N) (pc + 2) ls (.ref n :: st) (mk (zc h n) (lk l))) : WW X (sh, adr, cells, slots) pc ls (.int x :: st) (mk h (lk l)) := by
  have hZ0 := hZ
  obtain ⟨p, l', e, R, s, m, args, below, meth, c, Q, D, z, A⟩ := X
  obtain ⟨hx, hb, hml, hown, hts, hK, hA, hR, hlk⟩ := C
  subst hsh
  intro H locs la hP hD hS hl
  refine va_newa (atype := .long) (ty := .long) (a0 := (N, .inr (.inl (fun _ => 0)))) (N' := N) hx hb (hts _ hw) rfl hK hP hD hS hA (fun cA => rfl) hx0 hxN (by simp only [componentBytes]; omega) hcs.1 hcs.2 hd (fun q cA H1 hK1 hP1 hD1 hS1 => ?_)
  have hcA : cA = z.2.2.1 := by
    have h1 : s.vm.findClass ("[" ++ FieldType.toString .long) = some cA := (hK1.2 5 (cA, .long) rfl).2
    have h2 : s.vm.findClass ("[" ++ FieldType.toString .long) = some (z.2.2.1) := (hK.2 2 _ rfl).2
    exact Option.some.inj (h1.symm.trans h2)
  subst hcA
  have hag : AG adr (fun i => if i = n then q else adr i) n := ag_new hn
  have e6 : WS z (sh ++ [(12, N)]) (fun i => if i = n then q else adr i) (mk (zc h n) (lk l)) = WS z sh adr (mk h (lk l)) ++ [(q, .inl (z.2.2.1, N, .inr (.inl (fun _ => 0))))] := by
    rw [WS_push hL hag hl1]
    congr 1
    have z1 : gI (mk (zc h n) (lk l)) n = fun _ => 0 := funext fun j => if_pos rfl
    have z2 : gL (mk (zc h n) (lk l)) n = fun _ => 0 := funext fun j => if_pos rfl
    show [(if n = n then q else adr n, _)] = _
    rw [if_pos rfl]
    show [(q, (.inl (z.2.2.1, N, .inr (.inl (gL (mk (zc h n) (lk l)) n))) : va_E))] = _
    rw [z2]
  rw [← e6] at hP1 hD1
  have hk2 := k _ hag (hZ0.ag hag) H1 locs la hP1 hD1 hS1 (enum_ag hag hls hl)
  have e7 : (.ref n :: st).map (tr (fun i => if i = n then q else adr i)) = .ref q :: st.map (tr adr) := by
    rw [List.map_cons, trs_ag hag hst]
    show Value.ref (if n = n then q else adr n) :: _ = _
    rw [if_pos rfl]
  rw [e7] at hk2
  exact hk2
theorem ww_newaZ {X : CT} {sh : Sh} {adr : Nat → Nat} {cells slots : Nat} {own : String} {cc : ByteArray} {nL d pc : Nat} {ls st : List Value} {h : HI} {l : List (Nat × Nat × Nat)} {x : Int32} (C : CX X own cc nL d) (hZ : SZX X adr) (hd : decode cc pc = .ok (.newarray .boolean, 2)) (hw : Cond.arrayClass .boolean ∈ wT) (N : Nat) (hx0 : ¬ x < 0) (hxN : x.toNatClampNeg = N) (hN : N ≤ 1000000) (n : Nat) (hL : sh.length = n) (hn : n < 900000) (hl1 : l.all (fun q => decide (q.2.2 < n)) = true) (hcs : cells + 1 ≤ (rX X).cells ∧ slots + N ≤ (rX X).slots) (hls : ls.all (okV n) = true) (hst : st.all (okV n) = true) (sh' : Sh) (hsh : sh ++ [(13, N)] = sh')
    (k : ∀ adr' : Nat → Nat, AG adr adr' n → SZX X adr' → WW X (sh', adr', cells + 1, slots + N) (pc + 2) ls (.ref n :: st) (mk (zc h n) (lk l))) : WW X (sh, adr, cells, slots) pc ls (.int x :: st) (mk h (lk l)) := by
  have hZ0 := hZ
  obtain ⟨p, l', e, R, s, m, args, below, meth, c, Q, D, z, A⟩ := X
  obtain ⟨hx, hb, hml, hown, hts, hK, hA, hR, hlk⟩ := C
  subst hsh
  intro H locs la hP hD hS hl
  refine va_newa (atype := .boolean) (ty := .boolean) (a0 := (N, .inl (fun _ => 0))) (N' := N) hx hb (hts _ hw) rfl hK hP hD hS hA (fun cA => rfl) hx0 hxN (by simp only [componentBytes]; omega) hcs.1 hcs.2 hd (fun q cA H1 hK1 hP1 hD1 hS1 => ?_)
  have hcA : cA = z.2.2.2.1 := by
    have h1 : s.vm.findClass ("[" ++ FieldType.toString .boolean) = some cA := (hK1.2 5 (cA, .boolean) rfl).2
    have h2 : s.vm.findClass ("[" ++ FieldType.toString .boolean) = some (z.2.2.2.1) := (hK.2 3 _ rfl).2
    exact Option.some.inj (h1.symm.trans h2)
  subst hcA
  have hag : AG adr (fun i => if i = n then q else adr i) n := ag_new hn
  have e6 : WS z (sh ++ [(13, N)]) (fun i => if i = n then q else adr i) (mk (zc h n) (lk l)) = WS z sh adr (mk h (lk l)) ++ [(q, .inl (z.2.2.2.1, N, .inl (fun _ => 0)))] := by
    rw [WS_push hL hag hl1]
    congr 1
    have z1 : gI (mk (zc h n) (lk l)) n = fun _ => 0 := funext fun j => if_pos rfl
    have z2 : gL (mk (zc h n) (lk l)) n = fun _ => 0 := funext fun j => if_pos rfl
    show [(if n = n then q else adr n, _)] = _
    rw [if_pos rfl]
    show [(q, (.inl (z.2.2.2.1, N, .inl (gI (mk (zc h n) (lk l)) n)) : va_E))] = _
    rw [z1]
  rw [← e6] at hP1 hD1
  have hk2 := k _ hag (hZ0.ag hag) H1 locs la hP1 hD1 hS1 (enum_ag hag hls hl)
  have e7 : (.ref n :: st).map (tr (fun i => if i = n then q else adr i)) = .ref q :: st.map (tr adr) := by
    rw [List.map_cons, trs_ag hag hst]
    show Value.ref (if n = n then q else adr n) :: _ = _
    rw [if_pos rfl]
  rw [e7] at hk2
  exact hk2
theorem ww_newq {X : CT} {sh : Sh} {adr : Nat → Nat} {cells slots : Nat} {own : String} {cc : ByteArray} {nL d pc : Nat} {ls st : List Value} {h : HI} {l : List (Nat × Nat × Nat)} {x : Int32} {idx : Nat} (C : CX X own cc nL d) (hZ : SZX X adr) (hNW : NWX X) (hd : decode cc pc = .ok (.anewarray idx, 3)) (hw : Cond.classLink own idx RX6 ∈ wT) (N : Nat) (hx0 : ¬ x < 0) (hxN : x.toNatClampNeg = N) (hN : N ≤ 1000000) (n : Nat) (hL : sh.length = n) (hn : n < 900000) (hl1 : l.all (fun q => decide (q.2.2 < n)) = true) (hl2 : l.all (fun q => decide (q.1 ≠ n)) = true) (hcs : cells + 1 ≤ (rX X).cells ∧ slots + N ≤ (rX X).slots) (hls : ls.all (okV n) = true) (hst : st.all (okV n) = true) (sh' : Sh) (hsh : sh ++ [(14, N)] = sh')
    (k : ∀ adr' : Nat → Nat, AG adr adr' n → SZX X adr' → WW X (sh', adr', cells + 1, slots + N) (pc + 3) ls (.ref n :: st) (mk (zc h n) (lk l))) : WW X (sh, adr, cells, slots) pc ls (.int x :: st) (mk h (lk l)) := by
  have hZ0 := hZ
  obtain ⟨p, l', e, R, s, m, args, below, meth, c, Q, D, z, A⟩ := X
  obtain ⟨hx, hb, hml, hown, hts, hK, hA, hR, hlk⟩ := C
  subst hsh
  intro H locs la hP hD hS hl
  refine va_newq (C := RX6) (N' := N) hx hb hown (hts _ hw) hNW.2.2.2 hK hP hD hS hA hx0 hxN (by omega) hcs.1 hcs.2 hd (fun q cA H1 hK1 hP1 hD1 hS1 => ?_)
  have hcA : cA = z.2.2.2.2 := by
    obtain ⟨_, _, -, -, -, h1⟩ := (hK1.2 5 (cA, .object RX6) rfl).2
    obtain ⟨_, _, -, -, -, h2⟩ := (hK.2 4 _ rfl).2
    exact Option.some.inj (h1.symm.trans h2)
  subst hcA
  have hag : AG adr (fun i => if i = n then q else adr i) n := ag_new hn
  have e6 : WS z (sh ++ [(14, N)]) (fun i => if i = n then q else adr i) (mk (zc h n) (lk l)) = WS z sh adr (mk h (lk l)) ++ [(q, .inl (z.2.2.2.2, N, .inr (.inr (.inr (.inr (fun _ => none))))))] := by
    rw [WS_push hL hag hl1]
    congr 1
    have z3 : ∀ j, gR (mk (zc h n) (lk l)) n j = none := fun j => lk_no hl2 j
    show [(if n = n then q else adr n, _)] = _
    rw [if_pos rfl]
    show [(q, (.inl (z.2.2.2.2, N, .inr (.inr (.inr (.inr (fun j => (gR (mk (zc h n) (lk l)) n j).map (fun i => if i = n then q else adr i)))))) : va_E))] = _
    simp only [z3, Option.map_none]
  rw [← e6] at hP1 hD1
  have hk2 := k _ hag (hZ0.ag hag) H1 locs la hP1 hD1 hS1 (enum_ag hag hls hl)
  have e7 : (.ref n :: st).map (tr (fun i => if i = n then q else adr i)) = .ref q :: st.map (tr adr) := by
    rw [List.map_cons, trs_ag hag hst]
    show Value.ref (if n = n then q else adr n) :: _ = _
    rw [if_pos rfl]
  rw [e7] at hk2
  exact hk2
theorem flds_pRa {c : Nat} {adr : Nat → Nat} {σ : Hp} {o k a : Nat} {nm : FieldType} (_ : k < nF c) (ht : tyF c k = .array nm) : flds c adr (pR σ o k (some a)) o = (flds c adr σ o).set k (.ref (adr a)) := flds_put (by rw [ht]; simp [fv, gR_pR, va_rf]) (fun _ h => fv_pR h)
theorem wk_putFA {X : CT} {sh sh' : Sh} {adr adr0 : Nat → Nat} {cells slots L mc ms : Nat} {post : Hp → Prop} {own : String} {cc : ByteArray} {nL d pc : Nat} {ls st : List Value} {h : HI} {l : List (Nat × Nat × Nat)} {idx o ci kk v : Nat} {nm : String} (C : CX X own cc nL d) (E : RXA X sh' adr0 L mc ms post) (hd : decode cc pc = .ok (.putfield idx, 3)) (hf : FLD own idx ci kk) (hk : kd sh o = ci) (ht : tyF ci kk = .object nm) (hn : (TF ci kk).2.2.2 = true) (hdc : (TF ci kk).1 = own) (k : WW X (sh, adr, cells, slots) (pc + 3) ls st (mk h (lk ((o, kk, v) :: l)))) : WW X (sh, adr, cells, slots) pc ls (.ref v :: .ref o :: st) (mk h (lk l)) := by
  obtain ⟨p, l', e, R, s, m, args, below, meth, c, Q, D, z, A⟩ := X
  obtain ⟨hx, hb, hml, hown, hts, hK, hA, hR, hlk⟩ := C
  obtain ⟨-, -, hin, -⟩ := E
  intro H locs la hP hD hS hl
  obtain ⟨h1, h2, h3, h4⟩ := hf
  have ho := kd_lt hk (by omega)
  have he : (WS z sh adr (mk h (lk l)))[o]? = some (adr o, .inr (ci, flds ci adr (mk h (lk l)) o)) := by rw [WS_at ho, cel_obj hk h1]
  refine va_putF (D := D) (v := .ref (adr v)) (ty := .object nm) hx hb hts (wT_u ci h1) (tyF ci) (tyF_ok ci h1) (nmF ci h1) hown hK hP hD hS o he (vwCl_at ci h1) kk h2 (hts _ h4) (fun _ q => by rw [← h3]; exact q) hn hin hdc (by rw [tyF_ok ci h1 kk h2, ht]) rfl rfl (by rw [flds_len]; exact h2) hd (fun H1 locs1 hP1 hD1 hS1 => ?_)
  rw [WS_set (τ := pR (mk h (lk l)) o kk (some v)) (by rw [cel_obj hk h1, flds_pR h2 ht]) (fun a ha => cel_pR ha)] at hP1 hD1
  exact k H1 locs1 la hP1 hD1 hS1 hl
theorem wk_putFR {X : CT} {sh sh' : Sh} {adr adr0 : Nat → Nat} {cells slots L mc ms : Nat} {post : Hp → Prop} {own : String} {cc : ByteArray} {nL d pc : Nat} {ls st : List Value} {h : HI} {l : List (Nat × Nat × Nat)} {idx o ci kk v : Nat} {nm : FieldType} (C : CX X own cc nL d) (E : RXA X sh' adr0 L mc ms post) (hd : decode cc pc = .ok (.putfield idx, 3)) (hf : FLD own idx ci kk) (hk : kd sh o = ci) (ht : tyF ci kk = .array nm) (hn : (TF ci kk).2.2.2 = true) (hdc : (TF ci kk).1 = own) (k : WW X (sh, adr, cells, slots) (pc + 3) ls st (mk h (lk ((o, kk, v) :: l)))) : WW X (sh, adr, cells, slots) pc ls (.ref v :: .ref o :: st) (mk h (lk l)) := by
  obtain ⟨p, l', e, R, s, m, args, below, meth, c, Q, D, z, A⟩ := X
  obtain ⟨hx, hb, hml, hown, hts, hK, hA, hR, hlk⟩ := C
  obtain ⟨-, -, hin, -⟩ := E
  intro H locs la hP hD hS hl
  obtain ⟨h1, h2, h3, h4⟩ := hf
  have ho := kd_lt hk (by omega)
  have he : (WS z sh adr (mk h (lk l)))[o]? = some (adr o, .inr (ci, flds ci adr (mk h (lk l)) o)) := by rw [WS_at ho, cel_obj hk h1]
  refine va_putF (D := D) (v := .ref (adr v)) (ty := .array nm) hx hb hts (wT_u ci h1) (tyF ci) (tyF_ok ci h1) (nmF ci h1) hown hK hP hD hS o he (vwCl_at ci h1) kk h2 (hts _ h4) (fun _ q => by rw [← h3]; exact q) hn hin hdc (by rw [tyF_ok ci h1 kk h2, ht]) rfl rfl (by rw [flds_len]; exact h2) hd (fun H1 locs1 hP1 hD1 hS1 => ?_)
  rw [WS_set (τ := pR (mk h (lk l)) o kk (some v)) (by rw [cel_obj hk h1, flds_pRa h2 ht]) (fun a ha => cel_pR ha)] at hP1 hD1
  exact k H1 locs1 la hP1 hD1 hS1 hl
theorem wk_putL {X : CT} {sh : Sh} {adr : Nat → Nat} {cells slots : Nat} {own : String} {cc : ByteArray} {nL d pc : Nat} {ls st : List Value} {h : HI} {l : List (Nat × Nat × Nat)} {idx o ci kk : Nat} {nm : String} {v : Nat} (C : CX X own cc nL d) (hd : decode cc pc = .ok (.putfield idx, 3)) (hf : FLD own idx ci kk) (hk : kd sh o = ci) (ht : tyF ci kk = .object nm) (hn : (TF ci kk).2.2.2 = false) (k : WW X (sh, adr, cells, slots) (pc + 3) ls st (mk h (lk ((o, kk, v) :: l)))) : WW X (sh, adr, cells, slots) pc ls (.ref v :: .ref o :: st) (mk h (lk l)) := ww_putA C hd hf hk ht hn k
theorem wk_aastore {X : CT} {sh : Sh} {adr : Nat → Nat} {cells slots : Nat} {own : String} {cc : ByteArray} {nL d pc : Nat} {ls st : List Value} {h : HI} {l : List (Nat × Nat × Nat)} {a v : Nat} {i : Int32} (C : CX X own cc nL d) (hd : decode cc pc = .ok (.aastore, 1)) (hk : kd sh a = 14) (hkv : kd sh v = 6) (n : Nat) (hin : inB i n) (hln : ln sh a = n) (j : Nat) (hj : i.toNatClampNeg = j) (k : WW X (sh, adr, cells, slots) (pc + 1) ls st (mk h (lk ((a, j, v) :: l)))) : WW X (sh, adr, cells, slots) pc ls (.ref v :: .int i :: .ref a :: st) (mk h (lk l)) := by
  obtain ⟨p, l', e, R, s, m, args, below, meth, c, Q, D, z, A⟩ := X
  obtain ⟨hx, hb, hml, hown, hts, hK, hA, hR, hlk⟩ := C
  subst hj
  intro H locs la hP hD hS hl
  have he : (WS z sh adr (mk h (lk l)))[a]? = some (adr a, .inl (z.2.2.2.2, ln sh a, .inr (.inr (.inr (.inr (fun j => (gR (mk h (lk l)) a j).map adr)))))) := by rw [WS_at (kd_lt hk (by omega)), cel_14 hk]
  have hev : (WS z sh adr (mk h (lk l)))[v]? = some (adr v, .inr (6, flds 6 adr (mk h (lk l)) v)) := by rw [WS_at (kd_lt hkv (by omega)), cel_obj hkv (by omega)]
  refine va_astq (r := (RF 6, TF 6, nF 6)) hx hb hK hP hD hS a 4 v 6 he rfl hev (vwCl_at 6 (by omega)) (vp_of hin hln) hd (fun H1 locs1 hP1 hD1 hS1 => ?_)
  rw [WS_set (τ := pR (mk h (lk l)) a i.toNatClampNeg (some v)) (by
    rw [cel_14 hk]
    have hq : (fun j => (gR (pR (mk h (lk l)) a i.toNatClampNeg (some v)) a j).map adr) = va_up (fun j => (gR (mk h (lk l)) a j).map adr) i.toNatClampNeg (some (adr v)) := by
      funext j
      rw [gR_pR]
      unfold va_up
      by_cases hj : j = i.toNatClampNeg
      · rw [if_pos ⟨rfl, hj⟩, if_pos hj]; rfl
      · rw [if_neg (fun w => hj w.2), if_neg hj]
    rw [hq]) (fun b hb => cel_pR hb)] at hP1 hD1
  exact k H1 locs1 la hP1 hD1 hS1 hl
