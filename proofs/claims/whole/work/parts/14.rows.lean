theorem ww_iconst {X : CT} {Y : YT} {own : String} {cc : ByteArray} {nL d pc : Nat} {ls st : List Value} {σ : Hp} {n : Int} {v : Int32} (C : CX X own cc nL d) (hd : decode cc pc = .ok (.iconst n, 1)) (hv : Int32.ofInt n = v) (k : WW X Y (pc + 1) ls (.int v :: st) σ) : WW X Y pc ls (st) σ := by
  obtain ⟨p, l, e, R, s, m, args, below, meth, c, Q, D, z, A⟩ := X
  obtain ⟨sh, adr, cells, slots⟩ := Y
  obtain ⟨hx, hb, hml, hown, hts, hK, hA, hR, hlk⟩ := C
  intro H locs la hP hD hS hl
  exact lv_iconst hx hb hd hv (k H locs la hP hD hS hl)
theorem ww_bipush {X : CT} {Y : YT} {own : String} {cc : ByteArray} {nL d pc : Nat} {ls st : List Value} {σ : Hp} {n : Int} {v : Int32} (C : CX X own cc nL d) (hd : decode cc pc = .ok (.bipush n, 2)) (hv : (Int8.ofInt n).toInt32 = v) (k : WW X Y (pc + 2) ls (.int v :: st) σ) : WW X Y pc ls (st) σ := by
  obtain ⟨p, l, e, R, s, m, args, below, meth, c, Q, D, z, A⟩ := X
  obtain ⟨sh, adr, cells, slots⟩ := Y
  obtain ⟨hx, hb, hml, hown, hts, hK, hA, hR, hlk⟩ := C
  intro H locs la hP hD hS hl
  exact lv_bipush hx hb hd hv (k H locs la hP hD hS hl)
theorem ww_sipush {X : CT} {Y : YT} {own : String} {cc : ByteArray} {nL d pc : Nat} {ls st : List Value} {σ : Hp} {n : Int} {v : Int32} (C : CX X own cc nL d) (hd : decode cc pc = .ok (.sipush n, 3)) (hv : (Int16.ofInt n).toInt32 = v) (k : WW X Y (pc + 3) ls (.int v :: st) σ) : WW X Y pc ls (st) σ := by
  obtain ⟨p, l, e, R, s, m, args, below, meth, c, Q, D, z, A⟩ := X
  obtain ⟨sh, adr, cells, slots⟩ := Y
  obtain ⟨hx, hb, hml, hown, hts, hK, hA, hR, hlk⟩ := C
  intro H locs la hP hD hS hl
  exact lv_sipush hx hb hd hv (k H locs la hP hD hS hl)
theorem ww_lconst {X : CT} {Y : YT} {own : String} {cc : ByteArray} {nL d pc : Nat} {ls st : List Value} {σ : Hp} {n : Fin 2} {v : Int64} (C : CX X own cc nL d) (hd : decode cc pc = .ok (.lconst n, 1)) (hv : Int64.ofNat (n : Nat) = v) (k : WW X Y (pc + 1) ls (.long v :: st) σ) : WW X Y pc ls (st) σ := by
  obtain ⟨p, l, e, R, s, m, args, below, meth, c, Q, D, z, A⟩ := X
  obtain ⟨sh, adr, cells, slots⟩ := Y
  obtain ⟨hx, hb, hml, hown, hts, hK, hA, hR, hlk⟩ := C
  intro H locs la hP hD hS hl
  exact lv_lconst hx hb hd hv (k H locs la hP hD hS hl)
theorem ww_ldc {X : CT} {Y : YT} {own : String} {cc : ByteArray} {nL d pc : Nat} {ls st : List Value} {σ : Hp} {idx : Nat} {v : Int32} (C : CX X own cc nL d) (hd : decode cc pc = .ok (.ldc idx, 2)) (hw : Cond.constant own idx v ∈ wT) (k : WW X Y (pc + 2) ls (.int v :: st) σ) : WW X Y pc ls (st) σ := by
  obtain ⟨p, l, e, R, s, m, args, below, meth, c, Q, D, z, A⟩ := X
  obtain ⟨sh, adr, cells, slots⟩ := Y
  obtain ⟨hx, hb, hml, hown, hts, hK, hA, hR, hlk⟩ := C
  intro H locs la hP hD hS hl
  exact lv_ldc hx hb hown (hts _ hw) hd (k H locs la hP hD hS hl)
theorem ww_ldcw {X : CT} {Y : YT} {own : String} {cc : ByteArray} {nL d pc : Nat} {ls st : List Value} {σ : Hp} {idx : Nat} {v : Int32} (C : CX X own cc nL d) (hd : decode cc pc = .ok (.ldc_w idx, 3)) (hw : Cond.constant own idx v ∈ wT) (k : WW X Y (pc + 3) ls (.int v :: st) σ) : WW X Y pc ls (st) σ := by
  obtain ⟨p, l, e, R, s, m, args, below, meth, c, Q, D, z, A⟩ := X
  obtain ⟨sh, adr, cells, slots⟩ := Y
  obtain ⟨hx, hb, hml, hown, hts, hK, hA, hR, hlk⟩ := C
  intro H locs la hP hD hS hl
  exact lv_ldcw hx hb hown (hts _ hw) hd (k H locs la hP hD hS hl)
theorem ww_ldc2 {X : CT} {Y : YT} {own : String} {cc : ByteArray} {nL d pc : Nat} {ls st : List Value} {σ : Hp} {idx : Nat} {v : Int64} (C : CX X own cc nL d) (hd : decode cc pc = .ok (.ldc2_w idx, 3)) (hw : Cond.constantLong own idx v ∈ wT) (k : WW X Y (pc + 3) ls (.long v :: st) σ) : WW X Y pc ls (st) σ := by
  obtain ⟨p, l, e, R, s, m, args, below, meth, c, Q, D, z, A⟩ := X
  obtain ⟨sh, adr, cells, slots⟩ := Y
  obtain ⟨hx, hb, hml, hown, hts, hK, hA, hR, hlk⟩ := C
  intro H locs la hP hD hS hl
  exact lv_ldc2 hx hb hown (hts _ hw) hd (k H locs la hP hD hS hl)
theorem ww_iload_n {X : CT} {Y : YT} {own : String} {cc : ByteArray} {nL d pc : Nat} {ls st : List Value} {σ : Hp} {q : Fin 4} {x : Int32} (C : CX X own cc nL d) (hd : decode cc pc = .ok (.iload_n q, 1)) (i : Nat) (hi : (q : Nat) = i) (hv : ls[i]? = some (.int x)) (k : WW X Y (pc + 1) ls (.int x :: st) σ) : WW X Y pc ls (st) σ := by
  obtain ⟨p, l, e, R, s, m, args, below, meth, c, Q, D, z, A⟩ := X
  obtain ⟨sh, adr, cells, slots⟩ := Y
  obtain ⟨hx, hb, hml, hown, hts, hK, hA, hR, hlk⟩ := C
  intro H locs la hP hD hS hl
  exact lv_iload_n hx hb hd hi (LH_at hl hv (by intro h; cases h)) (k H locs la hP hD hS hl)
theorem ww_iload {X : CT} {Y : YT} {own : String} {cc : ByteArray} {nL d pc : Nat} {ls st : List Value} {σ : Hp} {i : Nat} {x : Int32} (C : CX X own cc nL d) (hd : decode cc pc = .ok (.iload i, 2)) (hv : ls[i]? = some (.int x)) (k : WW X Y (pc + 2) ls (.int x :: st) σ) : WW X Y pc ls (st) σ := by
  obtain ⟨p, l, e, R, s, m, args, below, meth, c, Q, D, z, A⟩ := X
  obtain ⟨sh, adr, cells, slots⟩ := Y
  obtain ⟨hx, hb, hml, hown, hts, hK, hA, hR, hlk⟩ := C
  intro H locs la hP hD hS hl
  exact lv_iload hx hb hd (LH_at hl hv (by intro h; cases h)) (k H locs la hP hD hS hl)
theorem ww_istore_n {X : CT} {Y : YT} {own : String} {cc : ByteArray} {nL d pc : Nat} {ls st : List Value} {σ : Hp} {q : Fin 4} {x : Int32} (C : CX X own cc nL d) (hd : decode cc pc = .ok (.istore_n q, 1)) (i : Nat) (hi : (q : Nat) = i) (hn : i < nL) (hp : catB ls i = true) (ls' : List Value) (hs : (ls.set i (.int x)) = ls') (k : WW X Y (pc + 1) ls' st σ) : WW X Y pc ls (.int x :: st) σ := by
  obtain ⟨p, l, e, R, s, m, args, below, meth, c, Q, D, z, A⟩ := X
  obtain ⟨sh, adr, cells, slots⟩ := Y
  obtain ⟨hx, hb, hml, hown, hts, hK, hA, hR, hlk⟩ := C
  intro H locs la hP hD hS hl
  exact lv_istore_n hx hb hd hi hl (by rw [hml]; exact hn) rfl (fun la2 hl2 => k H locs la2 hP hD hS (LH_set1 rfl hp hs hl2))
theorem ww_istore {X : CT} {Y : YT} {own : String} {cc : ByteArray} {nL d pc : Nat} {ls st : List Value} {σ : Hp} {i : Nat} {x : Int32} (C : CX X own cc nL d) (hd : decode cc pc = .ok (.istore i, 2)) (hn : i < nL) (hp : catB ls i = true) (ls' : List Value) (hs : (ls.set i (.int x)) = ls') (k : WW X Y (pc + 2) ls' st σ) : WW X Y pc ls (.int x :: st) σ := by
  obtain ⟨p, l, e, R, s, m, args, below, meth, c, Q, D, z, A⟩ := X
  obtain ⟨sh, adr, cells, slots⟩ := Y
  obtain ⟨hx, hb, hml, hown, hts, hK, hA, hR, hlk⟩ := C
  intro H locs la hP hD hS hl
  exact lv_istore hx hb hd hl (by rw [hml]; exact hn) rfl (fun la2 hl2 => k H locs la2 hP hD hS (LH_set1 rfl hp hs hl2))
theorem ww_lload_n {X : CT} {Y : YT} {own : String} {cc : ByteArray} {nL d pc : Nat} {ls st : List Value} {σ : Hp} {q : Fin 4} {x : Int64} (C : CX X own cc nL d) (hd : decode cc pc = .ok (.lload_n q, 1)) (i : Nat) (hi : (q : Nat) = i) (hv : ls[i]? = some (.long x)) (k : WW X Y (pc + 1) ls (.long x :: st) σ) : WW X Y pc ls (st) σ := by
  obtain ⟨p, l, e, R, s, m, args, below, meth, c, Q, D, z, A⟩ := X
  obtain ⟨sh, adr, cells, slots⟩ := Y
  obtain ⟨hx, hb, hml, hown, hts, hK, hA, hR, hlk⟩ := C
  intro H locs la hP hD hS hl
  exact lv_lload_n hx hb hd hi (LH_at hl hv (by intro h; cases h)) (k H locs la hP hD hS hl)
theorem ww_lload {X : CT} {Y : YT} {own : String} {cc : ByteArray} {nL d pc : Nat} {ls st : List Value} {σ : Hp} {i : Nat} {x : Int64} (C : CX X own cc nL d) (hd : decode cc pc = .ok (.lload i, 2)) (hv : ls[i]? = some (.long x)) (k : WW X Y (pc + 2) ls (.long x :: st) σ) : WW X Y pc ls (st) σ := by
  obtain ⟨p, l, e, R, s, m, args, below, meth, c, Q, D, z, A⟩ := X
  obtain ⟨sh, adr, cells, slots⟩ := Y
  obtain ⟨hx, hb, hml, hown, hts, hK, hA, hR, hlk⟩ := C
  intro H locs la hP hD hS hl
  exact lv_lload hx hb hd (LH_at hl hv (by intro h; cases h)) (k H locs la hP hD hS hl)
theorem ww_lstore_n {X : CT} {Y : YT} {own : String} {cc : ByteArray} {nL d pc : Nat} {ls st : List Value} {σ : Hp} {q : Fin 4} {x : Int64} (C : CX X own cc nL d) (hd : decode cc pc = .ok (.lstore_n q, 1)) (i : Nat) (hi : (q : Nat) = i) (hn : i + 1 < nL) (hp : catB ls i = true) (ls' : List Value) (hs : ((ls.set i (.long x)).set (i + 1) (.retAddr 0)) = ls') (k : WW X Y (pc + 1) ls' st σ) : WW X Y pc ls (.long x :: st) σ := by
  obtain ⟨p, l, e, R, s, m, args, below, meth, c, Q, D, z, A⟩ := X
  obtain ⟨sh, adr, cells, slots⟩ := Y
  obtain ⟨hx, hb, hml, hown, hts, hK, hA, hR, hlk⟩ := C
  intro H locs la hP hD hS hl
  exact lv_lstore_n hx hb hd hi hl (by rw [hml]; exact hn) rfl (fun la2 hl2 => k H locs la2 hP hD hS (LH_set2 rfl hp hs hl2))
theorem ww_lstore {X : CT} {Y : YT} {own : String} {cc : ByteArray} {nL d pc : Nat} {ls st : List Value} {σ : Hp} {i : Nat} {x : Int64} (C : CX X own cc nL d) (hd : decode cc pc = .ok (.lstore i, 2)) (hn : i + 1 < nL) (hp : catB ls i = true) (ls' : List Value) (hs : ((ls.set i (.long x)).set (i + 1) (.retAddr 0)) = ls') (k : WW X Y (pc + 2) ls' st σ) : WW X Y pc ls (.long x :: st) σ := by
  obtain ⟨p, l, e, R, s, m, args, below, meth, c, Q, D, z, A⟩ := X
  obtain ⟨sh, adr, cells, slots⟩ := Y
  obtain ⟨hx, hb, hml, hown, hts, hK, hA, hR, hlk⟩ := C
  intro H locs la hP hD hS hl
  exact lv_lstore hx hb hd hl (by rw [hml]; exact hn) rfl (fun la2 hl2 => k H locs la2 hP hD hS (LH_set2 rfl hp hs hl2))
theorem ww_aload_n {X : CT} {Y : YT} {own : String} {cc : ByteArray} {nL d pc : Nat} {ls st : List Value} {σ : Hp} {q : Fin 4} {x : Nat} (C : CX X own cc nL d) (hd : decode cc pc = .ok (.aload_n q, 1)) (i : Nat) (hi : (q : Nat) = i) (hv : ls[i]? = some (.ref x)) (k : WW X Y (pc + 1) ls (.ref x :: st) σ) : WW X Y pc ls (st) σ := by
  obtain ⟨p, l, e, R, s, m, args, below, meth, c, Q, D, z, A⟩ := X
  obtain ⟨sh, adr, cells, slots⟩ := Y
  obtain ⟨hx, hb, hml, hown, hts, hK, hA, hR, hlk⟩ := C
  intro H locs la hP hD hS hl
  exact lv_aload_n hx hb hd hi (LH_at hl hv (by intro h; cases h)) (k H locs la hP hD hS hl)
theorem ww_aload {X : CT} {Y : YT} {own : String} {cc : ByteArray} {nL d pc : Nat} {ls st : List Value} {σ : Hp} {i : Nat} {x : Nat} (C : CX X own cc nL d) (hd : decode cc pc = .ok (.aload i, 2)) (hv : ls[i]? = some (.ref x)) (k : WW X Y (pc + 2) ls (.ref x :: st) σ) : WW X Y pc ls (st) σ := by
  obtain ⟨p, l, e, R, s, m, args, below, meth, c, Q, D, z, A⟩ := X
  obtain ⟨sh, adr, cells, slots⟩ := Y
  obtain ⟨hx, hb, hml, hown, hts, hK, hA, hR, hlk⟩ := C
  intro H locs la hP hD hS hl
  exact lv_aload hx hb hd (LH_at hl hv (by intro h; cases h)) (k H locs la hP hD hS hl)
theorem ww_astore_n {X : CT} {Y : YT} {own : String} {cc : ByteArray} {nL d pc : Nat} {ls st : List Value} {σ : Hp} {q : Fin 4} {x : Nat} (C : CX X own cc nL d) (hd : decode cc pc = .ok (.astore_n q, 1)) (i : Nat) (hi : (q : Nat) = i) (hn : i < nL) (hp : catB ls i = true) (ls' : List Value) (hs : (ls.set i (.ref x)) = ls') (k : WW X Y (pc + 1) ls' st σ) : WW X Y pc ls (.ref x :: st) σ := by
  obtain ⟨p, l, e, R, s, m, args, below, meth, c, Q, D, z, A⟩ := X
  obtain ⟨sh, adr, cells, slots⟩ := Y
  obtain ⟨hx, hb, hml, hown, hts, hK, hA, hR, hlk⟩ := C
  intro H locs la hP hD hS hl
  exact lv_astore_n hx hb hd hi hl (by rw [hml]; exact hn) rfl (fun la2 hl2 => k H locs la2 hP hD hS (LH_set1 rfl hp hs hl2))
theorem ww_astore {X : CT} {Y : YT} {own : String} {cc : ByteArray} {nL d pc : Nat} {ls st : List Value} {σ : Hp} {i : Nat} {x : Nat} (C : CX X own cc nL d) (hd : decode cc pc = .ok (.astore i, 2)) (hn : i < nL) (hp : catB ls i = true) (ls' : List Value) (hs : (ls.set i (.ref x)) = ls') (k : WW X Y (pc + 2) ls' st σ) : WW X Y pc ls (.ref x :: st) σ := by
  obtain ⟨p, l, e, R, s, m, args, below, meth, c, Q, D, z, A⟩ := X
  obtain ⟨sh, adr, cells, slots⟩ := Y
  obtain ⟨hx, hb, hml, hown, hts, hK, hA, hR, hlk⟩ := C
  intro H locs la hP hD hS hl
  exact lv_astore hx hb hd hl (by rw [hml]; exact hn) rfl (fun la2 hl2 => k H locs la2 hP hD hS (LH_set1 rfl hp hs hl2))
theorem ww_iinc {X : CT} {Y : YT} {own : String} {cc : ByteArray} {nL d pc : Nat} {ls st : List Value} {σ : Hp} {i : Nat} {n : Int} {x v : Int32} (C : CX X own cc nL d) (hd : decode cc pc = .ok (.iinc i n, 3)) (hv : ls[i]? = some (.int x)) (hx2 : x + Int32.ofInt n = v) (hn : i < nL) (hp : catB ls i = true) (ls' : List Value) (hs : ls.set i (.int v) = ls') (k : WW X Y (pc + 3) ls' st σ) : WW X Y pc ls st σ := by
  obtain ⟨p, l, e, R, s, m, args, below, meth, c, Q, D, z, A⟩ := X
  obtain ⟨sh, adr, cells, slots⟩ := Y
  obtain ⟨hx, hb, hml, hown, hts, hK, hA, hR, hlk⟩ := C
  intro H locs la hP hD hS hl
  obtain ⟨j, hj⟩ := List.getElem?_of_mem (mem_enumL.mpr ⟨_, hv, (by intro h; cases h), rfl⟩ : ((i, tr adr (.int x)) : Nat × Value) ∈ enumL adr ls)
  exact lv_iinc hx hb hd hl hj hx2 (by rw [hml]; exact hn) rfl (fun la2 hl2 => k H locs la2 hP hD hS (LH_set1 rfl hp hs hl2))
theorem ww_iadd {X : CT} {Y : YT} {own : String} {cc : ByteArray} {nL d pc : Nat} {ls st : List Value} {σ : Hp} {x y : Int32} (C : CX X own cc nL d) (hd : decode cc pc = .ok (.iadd, 1)) (k : WW X Y (pc + 1) ls (.int (x + y) :: st) σ) : WW X Y pc ls (.int y :: .int x :: st) σ := by
  obtain ⟨p, l, e, R, s, m, args, below, meth, c, Q, D, z, A⟩ := X
  obtain ⟨sh, adr, cells, slots⟩ := Y
  obtain ⟨hx, hb, hml, hown, hts, hK, hA, hR, hlk⟩ := C
  intro H locs la hP hD hS hl
  exact lv_iadd hx hb hd (k H locs la hP hD hS hl)
theorem ww_isub {X : CT} {Y : YT} {own : String} {cc : ByteArray} {nL d pc : Nat} {ls st : List Value} {σ : Hp} {x y : Int32} (C : CX X own cc nL d) (hd : decode cc pc = .ok (.isub, 1)) (k : WW X Y (pc + 1) ls (.int (x - y) :: st) σ) : WW X Y pc ls (.int y :: .int x :: st) σ := by
  obtain ⟨p, l, e, R, s, m, args, below, meth, c, Q, D, z, A⟩ := X
  obtain ⟨sh, adr, cells, slots⟩ := Y
  obtain ⟨hx, hb, hml, hown, hts, hK, hA, hR, hlk⟩ := C
  intro H locs la hP hD hS hl
  exact lv_isub hx hb hd (k H locs la hP hD hS hl)
theorem ww_imul {X : CT} {Y : YT} {own : String} {cc : ByteArray} {nL d pc : Nat} {ls st : List Value} {σ : Hp} {x y : Int32} (C : CX X own cc nL d) (hd : decode cc pc = .ok (.imul, 1)) (k : WW X Y (pc + 1) ls (.int (x * y) :: st) σ) : WW X Y pc ls (.int y :: .int x :: st) σ := by
  obtain ⟨p, l, e, R, s, m, args, below, meth, c, Q, D, z, A⟩ := X
  obtain ⟨sh, adr, cells, slots⟩ := Y
  obtain ⟨hx, hb, hml, hown, hts, hK, hA, hR, hlk⟩ := C
  intro H locs la hP hD hS hl
  exact lv_imul hx hb hd (k H locs la hP hD hS hl)
theorem ww_iand {X : CT} {Y : YT} {own : String} {cc : ByteArray} {nL d pc : Nat} {ls st : List Value} {σ : Hp} {x y : Int32} (C : CX X own cc nL d) (hd : decode cc pc = .ok (.iand, 1)) (k : WW X Y (pc + 1) ls (.int (x &&& y) :: st) σ) : WW X Y pc ls (.int y :: .int x :: st) σ := by
  obtain ⟨p, l, e, R, s, m, args, below, meth, c, Q, D, z, A⟩ := X
  obtain ⟨sh, adr, cells, slots⟩ := Y
  obtain ⟨hx, hb, hml, hown, hts, hK, hA, hR, hlk⟩ := C
  intro H locs la hP hD hS hl
  exact lv_iand hx hb hd (k H locs la hP hD hS hl)
theorem ww_ior {X : CT} {Y : YT} {own : String} {cc : ByteArray} {nL d pc : Nat} {ls st : List Value} {σ : Hp} {x y : Int32} (C : CX X own cc nL d) (hd : decode cc pc = .ok (.ior, 1)) (k : WW X Y (pc + 1) ls (.int (x ||| y) :: st) σ) : WW X Y pc ls (.int y :: .int x :: st) σ := by
  obtain ⟨p, l, e, R, s, m, args, below, meth, c, Q, D, z, A⟩ := X
  obtain ⟨sh, adr, cells, slots⟩ := Y
  obtain ⟨hx, hb, hml, hown, hts, hK, hA, hR, hlk⟩ := C
  intro H locs la hP hD hS hl
  exact lv_ior hx hb hd (k H locs la hP hD hS hl)
theorem ww_ixor {X : CT} {Y : YT} {own : String} {cc : ByteArray} {nL d pc : Nat} {ls st : List Value} {σ : Hp} {x y : Int32} (C : CX X own cc nL d) (hd : decode cc pc = .ok (.ixor, 1)) (k : WW X Y (pc + 1) ls (.int (x ^^^ y) :: st) σ) : WW X Y pc ls (.int y :: .int x :: st) σ := by
  obtain ⟨p, l, e, R, s, m, args, below, meth, c, Q, D, z, A⟩ := X
  obtain ⟨sh, adr, cells, slots⟩ := Y
  obtain ⟨hx, hb, hml, hown, hts, hK, hA, hR, hlk⟩ := C
  intro H locs la hP hD hS hl
  exact lv_ixor hx hb hd (k H locs la hP hD hS hl)
theorem ww_ishl {X : CT} {Y : YT} {own : String} {cc : ByteArray} {nL d pc : Nat} {ls st : List Value} {σ : Hp} {x y : Int32} (C : CX X own cc nL d) (hd : decode cc pc = .ok (.ishl, 1)) (k : WW X Y (pc + 1) ls (.int (x <<< (y &&& 31)) :: st) σ) : WW X Y pc ls (.int y :: .int x :: st) σ := by
  obtain ⟨p, l, e, R, s, m, args, below, meth, c, Q, D, z, A⟩ := X
  obtain ⟨sh, adr, cells, slots⟩ := Y
  obtain ⟨hx, hb, hml, hown, hts, hK, hA, hR, hlk⟩ := C
  intro H locs la hP hD hS hl
  exact lv_ishl hx hb hd (k H locs la hP hD hS hl)
theorem ww_ishr {X : CT} {Y : YT} {own : String} {cc : ByteArray} {nL d pc : Nat} {ls st : List Value} {σ : Hp} {x y : Int32} (C : CX X own cc nL d) (hd : decode cc pc = .ok (.ishr, 1)) (k : WW X Y (pc + 1) ls (.int (x >>> (y &&& 31)) :: st) σ) : WW X Y pc ls (.int y :: .int x :: st) σ := by
  obtain ⟨p, l, e, R, s, m, args, below, meth, c, Q, D, z, A⟩ := X
  obtain ⟨sh, adr, cells, slots⟩ := Y
  obtain ⟨hx, hb, hml, hown, hts, hK, hA, hR, hlk⟩ := C
  intro H locs la hP hD hS hl
  exact lv_ishr hx hb hd (k H locs la hP hD hS hl)
theorem ww_iushr {X : CT} {Y : YT} {own : String} {cc : ByteArray} {nL d pc : Nat} {ls st : List Value} {σ : Hp} {x y : Int32} (C : CX X own cc nL d) (hd : decode cc pc = .ok (.iushr, 1)) (k : WW X Y (pc + 1) ls (.int ((x.toUInt32 >>> (y.toUInt32 &&& Int32.toUInt32 31)).toInt32) :: st) σ) : WW X Y pc ls (.int y :: .int x :: st) σ := by
  obtain ⟨p, l, e, R, s, m, args, below, meth, c, Q, D, z, A⟩ := X
  obtain ⟨sh, adr, cells, slots⟩ := Y
  obtain ⟨hx, hb, hml, hown, hts, hK, hA, hR, hlk⟩ := C
  intro H locs la hP hD hS hl
  exact lv_iushr hx hb hd rfl (k H locs la hP hD hS hl)
theorem ww_ineg {X : CT} {Y : YT} {own : String} {cc : ByteArray} {nL d pc : Nat} {ls st : List Value} {σ : Hp} {x : Int32} (C : CX X own cc nL d) (hd : decode cc pc = .ok (.ineg, 1)) (k : WW X Y (pc + 1) ls (.int (-x) :: st) σ) : WW X Y pc ls (.int x :: st) σ := by
  obtain ⟨p, l, e, R, s, m, args, below, meth, c, Q, D, z, A⟩ := X
  obtain ⟨sh, adr, cells, slots⟩ := Y
  obtain ⟨hx, hb, hml, hown, hts, hK, hA, hR, hlk⟩ := C
  intro H locs la hP hD hS hl
  exact lv_ineg hx hb hd (k H locs la hP hD hS hl)
theorem ww_land {X : CT} {Y : YT} {own : String} {cc : ByteArray} {nL d pc : Nat} {ls st : List Value} {σ : Hp} {x y : Int64} (C : CX X own cc nL d) (hd : decode cc pc = .ok (.land, 1)) (k : WW X Y (pc + 1) ls (.long (x &&& y) :: st) σ) : WW X Y pc ls (.long y :: .long x :: st) σ := by
  obtain ⟨p, l, e, R, s, m, args, below, meth, c, Q, D, z, A⟩ := X
  obtain ⟨sh, adr, cells, slots⟩ := Y
  obtain ⟨hx, hb, hml, hown, hts, hK, hA, hR, hlk⟩ := C
  intro H locs la hP hD hS hl
  exact lv_land hx hb hd (k H locs la hP hD hS hl)
theorem ww_lor {X : CT} {Y : YT} {own : String} {cc : ByteArray} {nL d pc : Nat} {ls st : List Value} {σ : Hp} {x y : Int64} (C : CX X own cc nL d) (hd : decode cc pc = .ok (.lor, 1)) (k : WW X Y (pc + 1) ls (.long (x ||| y) :: st) σ) : WW X Y pc ls (.long y :: .long x :: st) σ := by
  obtain ⟨p, l, e, R, s, m, args, below, meth, c, Q, D, z, A⟩ := X
  obtain ⟨sh, adr, cells, slots⟩ := Y
  obtain ⟨hx, hb, hml, hown, hts, hK, hA, hR, hlk⟩ := C
  intro H locs la hP hD hS hl
  exact lv_lor hx hb hd (k H locs la hP hD hS hl)
theorem ww_lxor {X : CT} {Y : YT} {own : String} {cc : ByteArray} {nL d pc : Nat} {ls st : List Value} {σ : Hp} {x y : Int64} (C : CX X own cc nL d) (hd : decode cc pc = .ok (.lxor, 1)) (k : WW X Y (pc + 1) ls (.long (x ^^^ y) :: st) σ) : WW X Y pc ls (.long y :: .long x :: st) σ := by
  obtain ⟨p, l, e, R, s, m, args, below, meth, c, Q, D, z, A⟩ := X
  obtain ⟨sh, adr, cells, slots⟩ := Y
  obtain ⟨hx, hb, hml, hown, hts, hK, hA, hR, hlk⟩ := C
  intro H locs la hP hD hS hl
  exact lv_lxor hx hb hd (k H locs la hP hD hS hl)
theorem ww_ladd {X : CT} {Y : YT} {own : String} {cc : ByteArray} {nL d pc : Nat} {ls st : List Value} {σ : Hp} {x y : Int64} (C : CX X own cc nL d) (hd : decode cc pc = .ok (.ladd, 1)) (k : WW X Y (pc + 1) ls (.long (x + y) :: st) σ) : WW X Y pc ls (.long y :: .long x :: st) σ := by
  obtain ⟨p, l, e, R, s, m, args, below, meth, c, Q, D, z, A⟩ := X
  obtain ⟨sh, adr, cells, slots⟩ := Y
  obtain ⟨hx, hb, hml, hown, hts, hK, hA, hR, hlk⟩ := C
  intro H locs la hP hD hS hl
  exact lv_ladd hx hb hd (k H locs la hP hD hS hl)
theorem ww_lshl {X : CT} {Y : YT} {own : String} {cc : ByteArray} {nL d pc : Nat} {ls st : List Value} {σ : Hp} {x : Int64} {y : Int32} (C : CX X own cc nL d) (hd : decode cc pc = .ok (.lshl, 1)) (k : WW X Y (pc + 1) ls (.long (x <<< (y.toInt64 &&& 63)) :: st) σ) : WW X Y pc ls (.int y :: .long x :: st) σ := by
  obtain ⟨p, l, e, R, s, m, args, below, meth, c, Q, D, z, A⟩ := X
  obtain ⟨sh, adr, cells, slots⟩ := Y
  obtain ⟨hx, hb, hml, hown, hts, hK, hA, hR, hlk⟩ := C
  intro H locs la hP hD hS hl
  exact lv_lshl hx hb hd rfl (k H locs la hP hD hS hl)
theorem ww_lushr {X : CT} {Y : YT} {own : String} {cc : ByteArray} {nL d pc : Nat} {ls st : List Value} {σ : Hp} {x : Int64} {y : Int32} (C : CX X own cc nL d) (hd : decode cc pc = .ok (.lushr, 1)) (k : WW X Y (pc + 1) ls (.long ((x.toUInt64 >>> (y.toInt64.toUInt64 &&& Int64.toUInt64 63)).toInt64) :: st) σ) : WW X Y pc ls (.int y :: .long x :: st) σ := by
  obtain ⟨p, l, e, R, s, m, args, below, meth, c, Q, D, z, A⟩ := X
  obtain ⟨sh, adr, cells, slots⟩ := Y
  obtain ⟨hx, hb, hml, hown, hts, hK, hA, hR, hlk⟩ := C
  intro H locs la hP hD hS hl
  exact lv_lushr hx hb hd rfl (k H locs la hP hD hS hl)
theorem ww_lcmp {X : CT} {Y : YT} {own : String} {cc : ByteArray} {nL d pc : Nat} {ls st : List Value} {σ : Hp} {x y : Int64} (C : CX X own cc nL d) (hd : decode cc pc = .ok (.lcmp, 1)) (k : WW X Y (pc + 1) ls (.int (lg_cmp x y) :: st) σ) : WW X Y pc ls (.long y :: .long x :: st) σ := by
  obtain ⟨p, l, e, R, s, m, args, below, meth, c, Q, D, z, A⟩ := X
  obtain ⟨sh, adr, cells, slots⟩ := Y
  obtain ⟨hx, hb, hml, hown, hts, hK, hA, hR, hlk⟩ := C
  intro H locs la hP hD hS hl
  exact W.lcmp hx hb hd (k H locs la hP hD hS hl)
theorem ww_i2l {X : CT} {Y : YT} {own : String} {cc : ByteArray} {nL d pc : Nat} {ls st : List Value} {σ : Hp} {x : Int32} (C : CX X own cc nL d) (hd : decode cc pc = .ok (.i2l, 1)) (k : WW X Y (pc + 1) ls (.long x.toInt64 :: st) σ) : WW X Y pc ls (.int x :: st) σ := by
  obtain ⟨p, l, e, R, s, m, args, below, meth, c, Q, D, z, A⟩ := X
  obtain ⟨sh, adr, cells, slots⟩ := Y
  obtain ⟨hx, hb, hml, hown, hts, hK, hA, hR, hlk⟩ := C
  intro H locs la hP hD hS hl
  exact lv_i2l hx hb hd rfl (k H locs la hP hD hS hl)
theorem ww_l2i {X : CT} {Y : YT} {own : String} {cc : ByteArray} {nL d pc : Nat} {ls st : List Value} {σ : Hp} {x : Int64} (C : CX X own cc nL d) (hd : decode cc pc = .ok (.l2i, 1)) (k : WW X Y (pc + 1) ls (.int x.toInt32 :: st) σ) : WW X Y pc ls (.long x :: st) σ := by
  obtain ⟨p, l, e, R, s, m, args, below, meth, c, Q, D, z, A⟩ := X
  obtain ⟨sh, adr, cells, slots⟩ := Y
  obtain ⟨hx, hb, hml, hown, hts, hK, hA, hR, hlk⟩ := C
  intro H locs la hP hD hS hl
  exact lv_l2i hx hb hd rfl (k H locs la hP hD hS hl)
theorem ww_i2b {X : CT} {Y : YT} {own : String} {cc : ByteArray} {nL d pc : Nat} {ls st : List Value} {σ : Hp} {x : Int32} (C : CX X own cc nL d) (hd : decode cc pc = .ok (.i2b, 1)) (k : WW X Y (pc + 1) ls (.int x.toInt8.toInt32 :: st) σ) : WW X Y pc ls (.int x :: st) σ := by
  obtain ⟨p, l, e, R, s, m, args, below, meth, c, Q, D, z, A⟩ := X
  obtain ⟨sh, adr, cells, slots⟩ := Y
  obtain ⟨hx, hb, hml, hown, hts, hK, hA, hR, hlk⟩ := C
  intro H locs la hP hD hS hl
  exact lv_i2b hx hb hd rfl (k H locs la hP hD hS hl)
theorem ww_i2c {X : CT} {Y : YT} {own : String} {cc : ByteArray} {nL d pc : Nat} {ls st : List Value} {σ : Hp} {x : Int32} (C : CX X own cc nL d) (hd : decode cc pc = .ok (.i2c, 1)) (k : WW X Y (pc + 1) ls (.int (x.toUInt32 % 65536).toInt32 :: st) σ) : WW X Y pc ls (.int x :: st) σ := by
  obtain ⟨p, l, e, R, s, m, args, below, meth, c, Q, D, z, A⟩ := X
  obtain ⟨sh, adr, cells, slots⟩ := Y
  obtain ⟨hx, hb, hml, hown, hts, hK, hA, hR, hlk⟩ := C
  intro H locs la hP hD hS hl
  exact lv_i2c hx hb hd rfl (k H locs la hP hD hS hl)
theorem ww_dup {X : CT} {Y : YT} {own : String} {cc : ByteArray} {nL d pc : Nat} {ls st : List Value} {σ : Hp} {v : Value} (C : CX X own cc nL d) (hd : decode cc pc = .ok (.dup, 1)) (hc : v.category = 1) (k : WW X Y (pc + 1) ls (v :: v :: st) σ) : WW X Y pc ls (v :: st) σ := by
  obtain ⟨p, l, e, R, s, m, args, below, meth, c, Q, D, z, A⟩ := X
  obtain ⟨sh, adr, cells, slots⟩ := Y
  obtain ⟨hx, hb, hml, hown, hts, hK, hA, hR, hlk⟩ := C
  intro H locs la hP hD hS hl
  exact lv_dup hx hb hd (by rw [tr_cat]; exact hc) (k H locs la hP hD hS hl)
theorem ww_dup2 {X : CT} {Y : YT} {own : String} {cc : ByteArray} {nL d pc : Nat} {ls st : List Value} {σ : Hp} {v w : Value} (C : CX X own cc nL d) (hd : decode cc pc = .ok (.dup2, 1)) (hc : v.category = 1) (hc2 : w.category = 1) (k : WW X Y (pc + 1) ls (v :: w :: v :: w :: st) σ) : WW X Y pc ls (v :: w :: st) σ := by
  obtain ⟨p, l, e, R, s, m, args, below, meth, c, Q, D, z, A⟩ := X
  obtain ⟨sh, adr, cells, slots⟩ := Y
  obtain ⟨hx, hb, hml, hown, hts, hK, hA, hR, hlk⟩ := C
  intro H locs la hP hD hS hl
  exact lv_dup2_11 hx hb hd (by rw [tr_cat]; exact hc) (by rw [tr_cat]; exact hc2) (k H locs la hP hD hS hl)
theorem ww_pop {X : CT} {Y : YT} {own : String} {cc : ByteArray} {nL d pc : Nat} {ls st : List Value} {σ : Hp} {v : Value} (C : CX X own cc nL d) (hd : decode cc pc = .ok (.pop, 1)) (hc : v.category = 1) (k : WW X Y (pc + 1) ls (st) σ) : WW X Y pc ls (v :: st) σ := by
  obtain ⟨p, l, e, R, s, m, args, below, meth, c, Q, D, z, A⟩ := X
  obtain ⟨sh, adr, cells, slots⟩ := Y
  obtain ⟨hx, hb, hml, hown, hts, hK, hA, hR, hlk⟩ := C
  intro H locs la hP hD hS hl
  exact lv_pop hx hb hd (by rw [tr_cat]; exact hc) (k H locs la hP hD hS hl)
theorem ww_if_eq {X : CT} {Y : YT} {own : String} {cc : ByteArray} {nL d pc : Nat} {ls st : List Value} {σ : Hp} {x : Int32} {off : Int} (C : CX X own cc nL d) (hd : decode cc pc = .ok (.ifCond .eq off, 3)) (tgt : Nat) (ht : (pc : Int) + off = (tgt : Int)) (kt : x = 0 → WW X Y tgt ls st σ) (kf : ¬ x = 0 → WW X Y (pc + 3) ls st σ) : WW X Y pc ls (.int x :: st) σ := by
  obtain ⟨p, l, e, R, s, m, args, below, meth, c, Q, D, z, A⟩ := X
  obtain ⟨sh, adr, cells, slots⟩ := Y
  obtain ⟨hx, hb, hml, hown, hts, hK, hA, hR, hlk⟩ := C
  intro H locs la hP hD hS hl
  exact lv_if_eq hx hb hd ht (fun h => kt h H locs la hP hD hS hl) (fun h => kf h H locs la hP hD hS hl)
theorem ww_icmp_eq {X : CT} {Y : YT} {own : String} {cc : ByteArray} {nL d pc : Nat} {ls st : List Value} {σ : Hp} {x y : Int32} {off : Int} (C : CX X own cc nL d) (hd : decode cc pc = .ok (.if_icmp .eq off, 3)) (tgt : Nat) (ht : (pc : Int) + off = (tgt : Int)) (kt : x = y → WW X Y tgt ls st σ) (kf : ¬ x = y → WW X Y (pc + 3) ls st σ) : WW X Y pc ls (.int y :: .int x :: st) σ := by
  obtain ⟨p, l, e, R, s, m, args, below, meth, c, Q, D, z, A⟩ := X
  obtain ⟨sh, adr, cells, slots⟩ := Y
  obtain ⟨hx, hb, hml, hown, hts, hK, hA, hR, hlk⟩ := C
  intro H locs la hP hD hS hl
  exact lv_icmp_eq hx hb hd ht (fun h => kt h H locs la hP hD hS hl) (fun h => kf h H locs la hP hD hS hl)
theorem ww_if_ne {X : CT} {Y : YT} {own : String} {cc : ByteArray} {nL d pc : Nat} {ls st : List Value} {σ : Hp} {x : Int32} {off : Int} (C : CX X own cc nL d) (hd : decode cc pc = .ok (.ifCond .ne off, 3)) (tgt : Nat) (ht : (pc : Int) + off = (tgt : Int)) (kt : ¬ x = 0 → WW X Y tgt ls st σ) (kf : x = 0 → WW X Y (pc + 3) ls st σ) : WW X Y pc ls (.int x :: st) σ := by
  obtain ⟨p, l, e, R, s, m, args, below, meth, c, Q, D, z, A⟩ := X
  obtain ⟨sh, adr, cells, slots⟩ := Y
  obtain ⟨hx, hb, hml, hown, hts, hK, hA, hR, hlk⟩ := C
  intro H locs la hP hD hS hl
  exact lv_if_ne hx hb hd ht (fun h => kt h H locs la hP hD hS hl) (fun h => kf h H locs la hP hD hS hl)
theorem ww_icmp_ne {X : CT} {Y : YT} {own : String} {cc : ByteArray} {nL d pc : Nat} {ls st : List Value} {σ : Hp} {x y : Int32} {off : Int} (C : CX X own cc nL d) (hd : decode cc pc = .ok (.if_icmp .ne off, 3)) (tgt : Nat) (ht : (pc : Int) + off = (tgt : Int)) (kt : ¬ x = y → WW X Y tgt ls st σ) (kf : x = y → WW X Y (pc + 3) ls st σ) : WW X Y pc ls (.int y :: .int x :: st) σ := by
  obtain ⟨p, l, e, R, s, m, args, below, meth, c, Q, D, z, A⟩ := X
  obtain ⟨sh, adr, cells, slots⟩ := Y
  obtain ⟨hx, hb, hml, hown, hts, hK, hA, hR, hlk⟩ := C
  intro H locs la hP hD hS hl
  exact lv_icmp_ne hx hb hd ht (fun h => kt h H locs la hP hD hS hl) (fun h => kf h H locs la hP hD hS hl)
theorem ww_if_lt {X : CT} {Y : YT} {own : String} {cc : ByteArray} {nL d pc : Nat} {ls st : List Value} {σ : Hp} {x : Int32} {off : Int} (C : CX X own cc nL d) (hd : decode cc pc = .ok (.ifCond .lt off, 3)) (tgt : Nat) (ht : (pc : Int) + off = (tgt : Int)) (kt : x < 0 → WW X Y tgt ls st σ) (kf : ¬ x < 0 → WW X Y (pc + 3) ls st σ) : WW X Y pc ls (.int x :: st) σ := by
  obtain ⟨p, l, e, R, s, m, args, below, meth, c, Q, D, z, A⟩ := X
  obtain ⟨sh, adr, cells, slots⟩ := Y
  obtain ⟨hx, hb, hml, hown, hts, hK, hA, hR, hlk⟩ := C
  intro H locs la hP hD hS hl
  exact lv_if_lt hx hb hd ht (fun h => kt h H locs la hP hD hS hl) (fun h => kf h H locs la hP hD hS hl)
theorem ww_icmp_lt {X : CT} {Y : YT} {own : String} {cc : ByteArray} {nL d pc : Nat} {ls st : List Value} {σ : Hp} {x y : Int32} {off : Int} (C : CX X own cc nL d) (hd : decode cc pc = .ok (.if_icmp .lt off, 3)) (tgt : Nat) (ht : (pc : Int) + off = (tgt : Int)) (kt : x < y → WW X Y tgt ls st σ) (kf : ¬ x < y → WW X Y (pc + 3) ls st σ) : WW X Y pc ls (.int y :: .int x :: st) σ := by
  obtain ⟨p, l, e, R, s, m, args, below, meth, c, Q, D, z, A⟩ := X
  obtain ⟨sh, adr, cells, slots⟩ := Y
  obtain ⟨hx, hb, hml, hown, hts, hK, hA, hR, hlk⟩ := C
  intro H locs la hP hD hS hl
  exact lv_icmp_lt hx hb hd ht (fun h => kt h H locs la hP hD hS hl) (fun h => kf h H locs la hP hD hS hl)
theorem ww_if_ge {X : CT} {Y : YT} {own : String} {cc : ByteArray} {nL d pc : Nat} {ls st : List Value} {σ : Hp} {x : Int32} {off : Int} (C : CX X own cc nL d) (hd : decode cc pc = .ok (.ifCond .ge off, 3)) (tgt : Nat) (ht : (pc : Int) + off = (tgt : Int)) (kt : 0 ≤ x → WW X Y tgt ls st σ) (kf : ¬ 0 ≤ x → WW X Y (pc + 3) ls st σ) : WW X Y pc ls (.int x :: st) σ := by
  obtain ⟨p, l, e, R, s, m, args, below, meth, c, Q, D, z, A⟩ := X
  obtain ⟨sh, adr, cells, slots⟩ := Y
  obtain ⟨hx, hb, hml, hown, hts, hK, hA, hR, hlk⟩ := C
  intro H locs la hP hD hS hl
  exact lv_if_ge hx hb hd ht (fun h => kt h H locs la hP hD hS hl) (fun h => kf h H locs la hP hD hS hl)
theorem ww_icmp_ge {X : CT} {Y : YT} {own : String} {cc : ByteArray} {nL d pc : Nat} {ls st : List Value} {σ : Hp} {x y : Int32} {off : Int} (C : CX X own cc nL d) (hd : decode cc pc = .ok (.if_icmp .ge off, 3)) (tgt : Nat) (ht : (pc : Int) + off = (tgt : Int)) (kt : y ≤ x → WW X Y tgt ls st σ) (kf : ¬ y ≤ x → WW X Y (pc + 3) ls st σ) : WW X Y pc ls (.int y :: .int x :: st) σ := by
  obtain ⟨p, l, e, R, s, m, args, below, meth, c, Q, D, z, A⟩ := X
  obtain ⟨sh, adr, cells, slots⟩ := Y
  obtain ⟨hx, hb, hml, hown, hts, hK, hA, hR, hlk⟩ := C
  intro H locs la hP hD hS hl
  exact lv_icmp_ge hx hb hd ht (fun h => kt h H locs la hP hD hS hl) (fun h => kf h H locs la hP hD hS hl)
theorem ww_if_gt {X : CT} {Y : YT} {own : String} {cc : ByteArray} {nL d pc : Nat} {ls st : List Value} {σ : Hp} {x : Int32} {off : Int} (C : CX X own cc nL d) (hd : decode cc pc = .ok (.ifCond .gt off, 3)) (tgt : Nat) (ht : (pc : Int) + off = (tgt : Int)) (kt : 0 < x → WW X Y tgt ls st σ) (kf : ¬ 0 < x → WW X Y (pc + 3) ls st σ) : WW X Y pc ls (.int x :: st) σ := by
  obtain ⟨p, l, e, R, s, m, args, below, meth, c, Q, D, z, A⟩ := X
  obtain ⟨sh, adr, cells, slots⟩ := Y
  obtain ⟨hx, hb, hml, hown, hts, hK, hA, hR, hlk⟩ := C
  intro H locs la hP hD hS hl
  exact lv_if_gt hx hb hd ht (fun h => kt h H locs la hP hD hS hl) (fun h => kf h H locs la hP hD hS hl)
theorem ww_icmp_gt {X : CT} {Y : YT} {own : String} {cc : ByteArray} {nL d pc : Nat} {ls st : List Value} {σ : Hp} {x y : Int32} {off : Int} (C : CX X own cc nL d) (hd : decode cc pc = .ok (.if_icmp .gt off, 3)) (tgt : Nat) (ht : (pc : Int) + off = (tgt : Int)) (kt : y < x → WW X Y tgt ls st σ) (kf : ¬ y < x → WW X Y (pc + 3) ls st σ) : WW X Y pc ls (.int y :: .int x :: st) σ := by
  obtain ⟨p, l, e, R, s, m, args, below, meth, c, Q, D, z, A⟩ := X
  obtain ⟨sh, adr, cells, slots⟩ := Y
  obtain ⟨hx, hb, hml, hown, hts, hK, hA, hR, hlk⟩ := C
  intro H locs la hP hD hS hl
  exact lv_icmp_gt hx hb hd ht (fun h => kt h H locs la hP hD hS hl) (fun h => kf h H locs la hP hD hS hl)
theorem ww_if_le {X : CT} {Y : YT} {own : String} {cc : ByteArray} {nL d pc : Nat} {ls st : List Value} {σ : Hp} {x : Int32} {off : Int} (C : CX X own cc nL d) (hd : decode cc pc = .ok (.ifCond .le off, 3)) (tgt : Nat) (ht : (pc : Int) + off = (tgt : Int)) (kt : x ≤ 0 → WW X Y tgt ls st σ) (kf : ¬ x ≤ 0 → WW X Y (pc + 3) ls st σ) : WW X Y pc ls (.int x :: st) σ := by
  obtain ⟨p, l, e, R, s, m, args, below, meth, c, Q, D, z, A⟩ := X
  obtain ⟨sh, adr, cells, slots⟩ := Y
  obtain ⟨hx, hb, hml, hown, hts, hK, hA, hR, hlk⟩ := C
  intro H locs la hP hD hS hl
  exact lv_if_le hx hb hd ht (fun h => kt h H locs la hP hD hS hl) (fun h => kf h H locs la hP hD hS hl)
theorem ww_icmp_le {X : CT} {Y : YT} {own : String} {cc : ByteArray} {nL d pc : Nat} {ls st : List Value} {σ : Hp} {x y : Int32} {off : Int} (C : CX X own cc nL d) (hd : decode cc pc = .ok (.if_icmp .le off, 3)) (tgt : Nat) (ht : (pc : Int) + off = (tgt : Int)) (kt : x ≤ y → WW X Y tgt ls st σ) (kf : ¬ x ≤ y → WW X Y (pc + 3) ls st σ) : WW X Y pc ls (.int y :: .int x :: st) σ := by
  obtain ⟨p, l, e, R, s, m, args, below, meth, c, Q, D, z, A⟩ := X
  obtain ⟨sh, adr, cells, slots⟩ := Y
  obtain ⟨hx, hb, hml, hown, hts, hK, hA, hR, hlk⟩ := C
  intro H locs la hP hD hS hl
  exact lv_icmp_le hx hb hd ht (fun h => kt h H locs la hP hD hS hl) (fun h => kf h H locs la hP hD hS hl)
theorem ww_goto {X : CT} {Y : YT} {own : String} {cc : ByteArray} {nL d pc : Nat} {ls st : List Value} {σ : Hp} {off : Int} (C : CX X own cc nL d) (hd : decode cc pc = .ok (.goto off, 3)) (tgt : Nat) (ht : (pc : Int) + off = (tgt : Int)) (k : WW X Y tgt ls st σ) : WW X Y pc ls st σ := by
  obtain ⟨p, l, e, R, s, m, args, below, meth, c, Q, D, z, A⟩ := X
  obtain ⟨sh, adr, cells, slots⟩ := Y
  obtain ⟨hx, hb, hml, hown, hts, hK, hA, hR, hlk⟩ := C
  intro H locs la hP hD hS hl
  exact lv_goto hx hb hd ht (k H locs la hP hD hS hl)
theorem ww_tableIn {X : CT} {Y : YT} {own : String} {cc : ByteArray} {nL d pc : Nat} {ls st : List Value} {σ : Hp} {dflt lo hi : Int} {offs : Array Int} {len : Nat} {x : Int32} {off : Int} (C : CX X own cc nL d) (hd : decode cc pc = .ok (.tableswitch dflt lo hi offs, len)) (h1 : ¬ x.toInt < lo) (h2 : ¬ hi < x.toInt) (ho : offs[(x.toInt - lo).toNat]? = some off) (tgt : Nat) (ht : (pc : Int) + off = (tgt : Int)) (k : WW X Y tgt ls st σ) : WW X Y pc ls (.int x :: st) σ := by
  obtain ⟨p, l, e, R, s, m, args, below, meth, c, Q, D, z, A⟩ := X
  obtain ⟨sh, adr, cells, slots⟩ := Y
  obtain ⟨hx, hb, hml, hown, hts, hK, hA, hR, hlk⟩ := C
  intro H locs la hP hD hS hl
  exact lv_tableIn hx hb hd h1 h2 ho ht (k H locs la hP hD hS hl)
theorem ww_tableOut {X : CT} {Y : YT} {own : String} {cc : ByteArray} {nL d pc : Nat} {ls st : List Value} {σ : Hp} {dflt lo hi : Int} {offs : Array Int} {len : Nat} {x : Int32} (C : CX X own cc nL d) (hd : decode cc pc = .ok (.tableswitch dflt lo hi offs, len)) (h : x.toInt < lo ∨ hi < x.toInt) (tgt : Nat) (ht : (pc : Int) + dflt = (tgt : Int)) (k : WW X Y tgt ls st σ) : WW X Y pc ls (.int x :: st) σ := by
  obtain ⟨p, l, e, R, s, m, args, below, meth, c, Q, D, z, A⟩ := X
  obtain ⟨sh, adr, cells, slots⟩ := Y
  obtain ⟨hx, hb, hml, hown, hts, hK, hA, hR, hlk⟩ := C
  intro H locs la hP hD hS hl
  exact lv_tableOut hx hb hd h ht (k H locs la hP hD hS hl)
theorem ww_lookup {X : CT} {Y : YT} {own : String} {cc : ByteArray} {nL d pc : Nat} {ls st : List Value} {σ : Hp} {dflt : Int} {ps : Array (Int × Int)} {len : Nat} {x : Int32} {off : Int} (C : CX X own cc nL d) (hd : decode cc pc = .ok (.lookupswitch dflt ps, len)) (hp : (ps.toList.zip (ps.toList.drop 1)).all (fun (a, next) => a.1 < next.1) = true) (ho : Op.lookupswitch.offset ps.toList dflt x.toInt = off) (tgt : Nat) (ht : (pc : Int) + off = (tgt : Int)) (k : WW X Y tgt ls st σ) : WW X Y pc ls (.int x :: st) σ := by
  obtain ⟨p, l, e, R, s, m, args, below, meth, c, Q, D, z, A⟩ := X
  obtain ⟨sh, adr, cells, slots⟩ := Y
  obtain ⟨hx, hb, hml, hown, hts, hK, hA, hR, hlk⟩ := C
  intro H locs la hP hD hS hl
  exact lv_lookup hx hb hd hp ho ht (k H locs la hP hD hS hl)
theorem ww_drop {X : CT} {Y : YT} {pc : Nat} {ls st : List Value} {σ : Hp} (ls' : List Value) (h : subL ls' ls) (k : WW X Y pc ls' st σ) : WW X Y pc ls st σ := by
  obtain ⟨p, l, e, R, s, m, args, below, meth, c, Q, D, z, A⟩ := X
  obtain ⟨sh, adr, cells, slots⟩ := Y
  intro H locs la hP hD hS hl
  exact k H locs la hP hD hS (LH_sub h hl)
theorem ww_getI {X : CT} {sh : Sh} {adr : Nat → Nat} {cells slots : Nat} {own : String} {cc : ByteArray} {nL d pc : Nat} {ls st : List Value} {σ : Hp} {idx o ci kk : Nat} (C : CX X own cc nL d) (hd : decode cc pc = .ok (.getfield idx, 3)) (hf : FLD own idx ci kk) (hk : kd sh o = ci) (ht : tyF ci kk = .int) (k : WW X (sh, adr, cells, slots) (pc + 3) ls (.int (gI σ o kk) :: st) σ) : WW X (sh, adr, cells, slots) pc ls (.ref o :: st) σ := by
  obtain ⟨p, l, e, R, s, m, args, below, meth, c, Q, D, z, A⟩ := X
  obtain ⟨hx, hb, hml, hown, hts, hK, hA, hR, hlk⟩ := C
  intro H locs la hP hD hS hl
  obtain ⟨h1, h2, h3, h4⟩ := hf
  have ho := kd_lt hk (by omega)
  have he : (WS z sh adr σ)[o]? = some (adr o, .inr (ci, flds ci adr σ o)) := by rw [WS_at ho, cel_obj hk h1]
  exact va_get hx hb hts (wT_u ci h1) hown hK hP o he (vwCl_at ci h1) kk h2 (hts _ h4) (fun _ q => by rw [← h3]; exact q) (v := tr adr (.int (gI σ o kk))) (by rw [flds_at h2, ht]; rfl) hd (k H locs la hP hD hS hl)
theorem ww_getZ {X : CT} {sh : Sh} {adr : Nat → Nat} {cells slots : Nat} {own : String} {cc : ByteArray} {nL d pc : Nat} {ls st : List Value} {σ : Hp} {idx o ci kk : Nat} (C : CX X own cc nL d) (hd : decode cc pc = .ok (.getfield idx, 3)) (hf : FLD own idx ci kk) (hk : kd sh o = ci) (ht : tyF ci kk = .boolean) (k : WW X (sh, adr, cells, slots) (pc + 3) ls (.int (gI σ o kk) :: st) σ) : WW X (sh, adr, cells, slots) pc ls (.ref o :: st) σ := by
  obtain ⟨p, l, e, R, s, m, args, below, meth, c, Q, D, z, A⟩ := X
  obtain ⟨hx, hb, hml, hown, hts, hK, hA, hR, hlk⟩ := C
  intro H locs la hP hD hS hl
  obtain ⟨h1, h2, h3, h4⟩ := hf
  have ho := kd_lt hk (by omega)
  have he : (WS z sh adr σ)[o]? = some (adr o, .inr (ci, flds ci adr σ o)) := by rw [WS_at ho, cel_obj hk h1]
  exact va_get hx hb hts (wT_u ci h1) hown hK hP o he (vwCl_at ci h1) kk h2 (hts _ h4) (fun _ q => by rw [← h3]; exact q) (v := tr adr (.int (gI σ o kk))) (by rw [flds_at h2, ht]; rfl) hd (k H locs la hP hD hS hl)
theorem ww_getJ {X : CT} {sh : Sh} {adr : Nat → Nat} {cells slots : Nat} {own : String} {cc : ByteArray} {nL d pc : Nat} {ls st : List Value} {σ : Hp} {idx o ci kk : Nat} (C : CX X own cc nL d) (hd : decode cc pc = .ok (.getfield idx, 3)) (hf : FLD own idx ci kk) (hk : kd sh o = ci) (ht : tyF ci kk = .long) (k : WW X (sh, adr, cells, slots) (pc + 3) ls (.long (gL σ o kk) :: st) σ) : WW X (sh, adr, cells, slots) pc ls (.ref o :: st) σ := by
  obtain ⟨p, l, e, R, s, m, args, below, meth, c, Q, D, z, A⟩ := X
  obtain ⟨hx, hb, hml, hown, hts, hK, hA, hR, hlk⟩ := C
  intro H locs la hP hD hS hl
  obtain ⟨h1, h2, h3, h4⟩ := hf
  have ho := kd_lt hk (by omega)
  have he : (WS z sh adr σ)[o]? = some (adr o, .inr (ci, flds ci adr σ o)) := by rw [WS_at ho, cel_obj hk h1]
  exact va_get hx hb hts (wT_u ci h1) hown hK hP o he (vwCl_at ci h1) kk h2 (hts _ h4) (fun _ q => by rw [← h3]; exact q) (v := tr adr (.long (gL σ o kk))) (by rw [flds_at h2, ht]; rfl) hd (k H locs la hP hD hS hl)
theorem ww_getA {X : CT} {sh : Sh} {adr : Nat → Nat} {cells slots : Nat} {own : String} {cc : ByteArray} {nL d pc : Nat} {ls st : List Value} {σ : Hp} {idx o ci kk : Nat} {nm : String} {a : Nat} (C : CX X own cc nL d) (hd : decode cc pc = .ok (.getfield idx, 3)) (hf : FLD own idx ci kk) (hk : kd sh o = ci) (ht : tyF ci kk = .object nm) (hg : gR σ o kk = some a) (k : WW X (sh, adr, cells, slots) (pc + 3) ls (.ref a :: st) σ) : WW X (sh, adr, cells, slots) pc ls (.ref o :: st) σ := by
  obtain ⟨p, l, e, R, s, m, args, below, meth, c, Q, D, z, A⟩ := X
  obtain ⟨hx, hb, hml, hown, hts, hK, hA, hR, hlk⟩ := C
  intro H locs la hP hD hS hl
  obtain ⟨h1, h2, h3, h4⟩ := hf
  have ho := kd_lt hk (by omega)
  have he : (WS z sh adr σ)[o]? = some (adr o, .inr (ci, flds ci adr σ o)) := by rw [WS_at ho, cel_obj hk h1]
  exact va_get hx hb hts (wT_u ci h1) hown hK hP o he (vwCl_at ci h1) kk h2 (hts _ h4) (fun _ q => by rw [← h3]; exact q) (v := tr adr (.ref a)) (by rw [flds_at h2, ht]; simp only [fv]; rw [hg]; rfl) hd (k H locs la hP hD hS hl)
theorem ww_getR {X : CT} {sh : Sh} {adr : Nat → Nat} {cells slots : Nat} {own : String} {cc : ByteArray} {nL d pc : Nat} {ls st : List Value} {σ : Hp} {idx o ci kk : Nat} {nm : FieldType} {a : Nat} (C : CX X own cc nL d) (hd : decode cc pc = .ok (.getfield idx, 3)) (hf : FLD own idx ci kk) (hk : kd sh o = ci) (ht : tyF ci kk = .array nm) (hg : gR σ o kk = some a) (k : WW X (sh, adr, cells, slots) (pc + 3) ls (.ref a :: st) σ) : WW X (sh, adr, cells, slots) pc ls (.ref o :: st) σ := by
  obtain ⟨p, l, e, R, s, m, args, below, meth, c, Q, D, z, A⟩ := X
  obtain ⟨hx, hb, hml, hown, hts, hK, hA, hR, hlk⟩ := C
  intro H locs la hP hD hS hl
  obtain ⟨h1, h2, h3, h4⟩ := hf
  have ho := kd_lt hk (by omega)
  have he : (WS z sh adr σ)[o]? = some (adr o, .inr (ci, flds ci adr σ o)) := by rw [WS_at ho, cel_obj hk h1]
  exact va_get hx hb hts (wT_u ci h1) hown hK hP o he (vwCl_at ci h1) kk h2 (hts _ h4) (fun _ q => by rw [← h3]; exact q) (v := tr adr (.ref a)) (by rw [flds_at h2, ht]; simp only [fv]; rw [hg]; rfl) hd (k H locs la hP hD hS hl)
theorem ww_putI {X : CT} {sh : Sh} {adr : Nat → Nat} {cells slots : Nat} {own : String} {cc : ByteArray} {nL d pc : Nat} {ls st : List Value} {σ : Hp} {idx o ci kk : Nat} {v : Int32} (C : CX X own cc nL d) (hd : decode cc pc = .ok (.putfield idx, 3)) (hf : FLD own idx ci kk) (hk : kd sh o = ci) (ht : tyF ci kk = .int) (hn : (TF ci kk).2.2.2 = false) (k : WW X (sh, adr, cells, slots) (pc + 3) ls st (pI σ o kk v)) : WW X (sh, adr, cells, slots) pc ls (.int v :: .ref o :: st) σ := by
  obtain ⟨p, l, e, R, s, m, args, below, meth, c, Q, D, z, A⟩ := X
  obtain ⟨hx, hb, hml, hown, hts, hK, hA, hR, hlk⟩ := C
  intro H locs la hP hD hS hl
  obtain ⟨h1, h2, h3, h4⟩ := hf
  have ho := kd_lt hk (by omega)
  have he : (WS z sh adr σ)[o]? = some (adr o, .inr (ci, flds ci adr σ o)) := by rw [WS_at ho, cel_obj hk h1]
  refine va_put (D := D) (v := tr adr (.int v)) (ty := .int) hx hb hts (wT_u ci h1) (tyF ci) (tyF_ok ci h1) (nmF ci h1) hown hK hP hD hS o he (vwCl_at ci h1) kk h2 (hts _ h4) (fun _ q => by rw [← h3]; exact q) hn (by rw [tyF_ok ci h1 kk h2, ht]) rfl rfl (by rw [flds_len]; exact h2) hd (fun H1 locs1 hP1 hD1 hS1 => ?_)
  rw [WS_set (τ := pI σ o kk v) (by rw [cel_obj hk h1, flds_pI h2 ht]; rfl) (fun a ha => cel_pI ha)] at hP1 hD1
  exact k H1 locs1 la hP1 hD1 hS1 hl
theorem ww_putZ {X : CT} {sh : Sh} {adr : Nat → Nat} {cells slots : Nat} {own : String} {cc : ByteArray} {nL d pc : Nat} {ls st : List Value} {σ : Hp} {idx o ci kk : Nat} {v : Int32} (C : CX X own cc nL d) (hd : decode cc pc = .ok (.putfield idx, 3)) (hf : FLD own idx ci kk) (hk : kd sh o = ci) (ht : tyF ci kk = .boolean) (hn : (TF ci kk).2.2.2 = false) (hz : v = 0 ∨ v = 1) (k : WW X (sh, adr, cells, slots) (pc + 3) ls st (pI σ o kk v)) : WW X (sh, adr, cells, slots) pc ls (.int v :: .ref o :: st) σ := by
  obtain ⟨p, l, e, R, s, m, args, below, meth, c, Q, D, z, A⟩ := X
  obtain ⟨hx, hb, hml, hown, hts, hK, hA, hR, hlk⟩ := C
  intro H locs la hP hD hS hl
  obtain ⟨h1, h2, h3, h4⟩ := hf
  have ho := kd_lt hk (by omega)
  have he : (WS z sh adr σ)[o]? = some (adr o, .inr (ci, flds ci adr σ o)) := by rw [WS_at ho, cel_obj hk h1]
  refine va_put (D := D) (v := tr adr (.int v)) (ty := .boolean) hx hb hts (wT_u ci h1) (tyF ci) (tyF_ok ci h1) (nmF ci h1) hown hK hP hD hS o he (vwCl_at ci h1) kk h2 (hts _ h4) (fun _ q => by rw [← h3]; exact q) hn (by rw [tyF_ok ci h1 kk h2, ht]) (by rcases hz with rfl | rfl <;> rfl) (by rcases hz with rfl | rfl <;> rfl) (by rw [flds_len]; exact h2) hd (fun H1 locs1 hP1 hD1 hS1 => ?_)
  rw [WS_set (τ := pI σ o kk v) (by rw [cel_obj hk h1, flds_pZ h2 ht]; rfl) (fun a ha => cel_pI ha)] at hP1 hD1
  exact k H1 locs1 la hP1 hD1 hS1 hl
theorem ww_putJ {X : CT} {sh : Sh} {adr : Nat → Nat} {cells slots : Nat} {own : String} {cc : ByteArray} {nL d pc : Nat} {ls st : List Value} {σ : Hp} {idx o ci kk : Nat} {v : Int64} (C : CX X own cc nL d) (hd : decode cc pc = .ok (.putfield idx, 3)) (hf : FLD own idx ci kk) (hk : kd sh o = ci) (ht : tyF ci kk = .long) (hn : (TF ci kk).2.2.2 = false) (k : WW X (sh, adr, cells, slots) (pc + 3) ls st (pL σ o kk v)) : WW X (sh, adr, cells, slots) pc ls (.long v :: .ref o :: st) σ := by
  obtain ⟨p, l, e, R, s, m, args, below, meth, c, Q, D, z, A⟩ := X
  obtain ⟨hx, hb, hml, hown, hts, hK, hA, hR, hlk⟩ := C
  intro H locs la hP hD hS hl
  obtain ⟨h1, h2, h3, h4⟩ := hf
  have ho := kd_lt hk (by omega)
  have he : (WS z sh adr σ)[o]? = some (adr o, .inr (ci, flds ci adr σ o)) := by rw [WS_at ho, cel_obj hk h1]
  refine va_put (D := D) (v := tr adr (.long v)) (ty := .long) hx hb hts (wT_u ci h1) (tyF ci) (tyF_ok ci h1) (nmF ci h1) hown hK hP hD hS o he (vwCl_at ci h1) kk h2 (hts _ h4) (fun _ q => by rw [← h3]; exact q) hn (by rw [tyF_ok ci h1 kk h2, ht]) rfl rfl (by rw [flds_len]; exact h2) hd (fun H1 locs1 hP1 hD1 hS1 => ?_)
  rw [WS_set (τ := pL σ o kk v) (by rw [cel_obj hk h1, flds_pL h2 ht]; rfl) (fun a ha => cel_pL ha)] at hP1 hD1
  exact k H1 locs1 la hP1 hD1 hS1 hl
theorem ww_putA {X : CT} {sh : Sh} {adr : Nat → Nat} {cells slots : Nat} {own : String} {cc : ByteArray} {nL d pc : Nat} {ls st : List Value} {σ : Hp} {idx o ci kk : Nat} {nm : String} {v : Nat} (C : CX X own cc nL d) (hd : decode cc pc = .ok (.putfield idx, 3)) (hf : FLD own idx ci kk) (hk : kd sh o = ci) (ht : tyF ci kk = .object nm) (hn : (TF ci kk).2.2.2 = false) (k : WW X (sh, adr, cells, slots) (pc + 3) ls st (pR σ o kk (some v))) : WW X (sh, adr, cells, slots) pc ls (.ref v :: .ref o :: st) σ := by
  obtain ⟨p, l, e, R, s, m, args, below, meth, c, Q, D, z, A⟩ := X
  obtain ⟨hx, hb, hml, hown, hts, hK, hA, hR, hlk⟩ := C
  intro H locs la hP hD hS hl
  obtain ⟨h1, h2, h3, h4⟩ := hf
  have ho := kd_lt hk (by omega)
  have he : (WS z sh adr σ)[o]? = some (adr o, .inr (ci, flds ci adr σ o)) := by rw [WS_at ho, cel_obj hk h1]
  refine va_put (D := D) (v := tr adr (.ref v)) (ty := .object nm) hx hb hts (wT_u ci h1) (tyF ci) (tyF_ok ci h1) (nmF ci h1) hown hK hP hD hS o he (vwCl_at ci h1) kk h2 (hts _ h4) (fun _ q => by rw [← h3]; exact q) hn (by rw [tyF_ok ci h1 kk h2, ht]) rfl rfl (by rw [flds_len]; exact h2) hd (fun H1 locs1 hP1 hD1 hS1 => ?_)
  rw [WS_set (τ := pR σ o kk (some v)) (by rw [cel_obj hk h1, flds_pR h2 ht]; rfl) (fun a ha => cel_pR ha)] at hP1 hD1
  exact k H1 locs1 la hP1 hD1 hS1 hl
theorem ww_iaload {X : CT} {sh : Sh} {adr : Nat → Nat} {cells slots : Nat} {own : String} {cc : ByteArray} {nL d pc : Nat} {ls st : List Value} {σ : Hp} {a : Nat} {i : Int32} (C : CX X own cc nL d) (hd : decode cc pc = .ok (.iaload, 1)) (hk : kd sh a = 11) (hin : vp_in i (ln sh a)) (k : WW X (sh, adr, cells, slots) (pc + 1) ls (.int (gI σ a i.toNatClampNeg) :: st) σ) : WW X (sh, adr, cells, slots) pc ls (.int i :: .ref a :: st) σ := by
  obtain ⟨p, l, e, R, s, m, args, below, meth, c, Q, D, z, A⟩ := X
  obtain ⟨hx, hb, hml, hown, hts, hK, hA, hR, hlk⟩ := C
  intro H locs la hP hD hS hl
  have he : (WS z sh adr σ)[a]? = some (adr a, .inl (z.2.1, ln sh a, .inl (gI σ a))) := by rw [WS_at (kd_lt hk (by omega)), cel_11 hk]
  exact va_iald hx hb hK hP a 1 he rfl hin hd (k H locs la hP hD hS hl)
theorem ww_baload {X : CT} {sh : Sh} {adr : Nat → Nat} {cells slots : Nat} {own : String} {cc : ByteArray} {nL d pc : Nat} {ls st : List Value} {σ : Hp} {a : Nat} {i : Int32} (C : CX X own cc nL d) (hd : decode cc pc = .ok (.baload, 1)) (hk : kd sh a = 10) (hin : vp_in i (ln sh a)) (k : WW X (sh, adr, cells, slots) (pc + 1) ls (.int (gI σ a i.toNatClampNeg) :: st) σ) : WW X (sh, adr, cells, slots) pc ls (.int i :: .ref a :: st) σ := by
  obtain ⟨p, l, e, R, s, m, args, below, meth, c, Q, D, z, A⟩ := X
  obtain ⟨hx, hb, hml, hown, hts, hK, hA, hR, hlk⟩ := C
  intro H locs la hP hD hS hl
  have he : (WS z sh adr σ)[a]? = some (adr a, .inl (z.1, ln sh a, .inl (gI σ a))) := by rw [WS_at (kd_lt hk (by omega)), cel_10 hk]
  exact va_bald hx hb hK hP a 0 he rfl hin hd (k H locs la hP hD hS hl)
theorem ww_zaload {X : CT} {sh : Sh} {adr : Nat → Nat} {cells slots : Nat} {own : String} {cc : ByteArray} {nL d pc : Nat} {ls st : List Value} {σ : Hp} {a : Nat} {i : Int32} (C : CX X own cc nL d) (hd : decode cc pc = .ok (.baload, 1)) (hk : kd sh a = 13) (hin : vp_in i (ln sh a)) (k : WW X (sh, adr, cells, slots) (pc + 1) ls (.int (gI σ a i.toNatClampNeg) :: st) σ) : WW X (sh, adr, cells, slots) pc ls (.int i :: .ref a :: st) σ := by
  obtain ⟨p, l, e, R, s, m, args, below, meth, c, Q, D, z, A⟩ := X
  obtain ⟨hx, hb, hml, hown, hts, hK, hA, hR, hlk⟩ := C
  intro H locs la hP hD hS hl
  have he : (WS z sh adr σ)[a]? = some (adr a, .inl (z.2.2.2.1, ln sh a, .inl (gI σ a))) := by rw [WS_at (kd_lt hk (by omega)), cel_13 hk]
  exact va_zald hx hb hK hP a 3 he rfl hin hd (k H locs la hP hD hS hl)
theorem ww_laload {X : CT} {sh : Sh} {adr : Nat → Nat} {cells slots : Nat} {own : String} {cc : ByteArray} {nL d pc : Nat} {ls st : List Value} {σ : Hp} {a : Nat} {i : Int32} (C : CX X own cc nL d) (hd : decode cc pc = .ok (.laload, 1)) (hk : kd sh a = 12) (hin : vp_in i (ln sh a)) (k : WW X (sh, adr, cells, slots) (pc + 1) ls (.long (gL σ a i.toNatClampNeg) :: st) σ) : WW X (sh, adr, cells, slots) pc ls (.int i :: .ref a :: st) σ := by
  obtain ⟨p, l, e, R, s, m, args, below, meth, c, Q, D, z, A⟩ := X
  obtain ⟨hx, hb, hml, hown, hts, hK, hA, hR, hlk⟩ := C
  intro H locs la hP hD hS hl
  have he : (WS z sh adr σ)[a]? = some (adr a, .inl (z.2.2.1, ln sh a, .inr (.inl (gL σ a)))) := by rw [WS_at (kd_lt hk (by omega)), cel_12 hk]
  exact va_lald hx hb hK hP a 2 he rfl hin hd (k H locs la hP hD hS hl)
theorem ww_iastore {X : CT} {sh : Sh} {adr : Nat → Nat} {cells slots : Nat} {own : String} {cc : ByteArray} {nL d pc : Nat} {ls st : List Value} {σ : Hp} {a : Nat} {i : Int32} {v : Int32} (C : CX X own cc nL d) (hd : decode cc pc = .ok (.iastore, 1)) (hk : kd sh a = 11) (hin : vp_in i (ln sh a)) (k : WW X (sh, adr, cells, slots) (pc + 1) ls st (pI σ a i.toNatClampNeg v)) : WW X (sh, adr, cells, slots) pc ls (.int v :: .int i :: .ref a :: st) σ := by
  obtain ⟨p, l, e, R, s, m, args, below, meth, c, Q, D, z, A⟩ := X
  obtain ⟨hx, hb, hml, hown, hts, hK, hA, hR, hlk⟩ := C
  intro H locs la hP hD hS hl
  have he : (WS z sh adr σ)[a]? = some (adr a, .inl (z.2.1, ln sh a, .inl (gI σ a))) := by rw [WS_at (kd_lt hk (by omega)), cel_11 hk]
  refine va_iast hx hb hK hP hD hS a 1 he rfl hin hd (fun H1 locs1 hP1 hD1 hS1 => ?_)
  rw [WS_set (τ := pI σ a i.toNatClampNeg v) (by rw [cel_11 hk, upd_pI]) (fun b hb => cel_pI hb)] at hP1 hD1
  exact k H1 locs1 la hP1 hD1 hS1 hl
theorem ww_bastore {X : CT} {sh : Sh} {adr : Nat → Nat} {cells slots : Nat} {own : String} {cc : ByteArray} {nL d pc : Nat} {ls st : List Value} {σ : Hp} {a : Nat} {i : Int32} {v : Int32} (C : CX X own cc nL d) (hd : decode cc pc = .ok (.bastore, 1)) (hk : kd sh a = 10) (hin : vp_in i (ln sh a)) (k : WW X (sh, adr, cells, slots) (pc + 1) ls st (pI σ a i.toNatClampNeg (vp_nar .byte v))) : WW X (sh, adr, cells, slots) pc ls (.int v :: .int i :: .ref a :: st) σ := by
  obtain ⟨p, l, e, R, s, m, args, below, meth, c, Q, D, z, A⟩ := X
  obtain ⟨hx, hb, hml, hown, hts, hK, hA, hR, hlk⟩ := C
  intro H locs la hP hD hS hl
  have he : (WS z sh adr σ)[a]? = some (adr a, .inl (z.1, ln sh a, .inl (gI σ a))) := by rw [WS_at (kd_lt hk (by omega)), cel_10 hk]
  refine va_bast hx hb hK hP hD hS a 0 he rfl hin hd (fun H1 locs1 hP1 hD1 hS1 => ?_)
  rw [WS_set (τ := pI σ a i.toNatClampNeg (vp_nar .byte v)) (by rw [cel_10 hk, upd_pI]) (fun b hb => cel_pI hb)] at hP1 hD1
  exact k H1 locs1 la hP1 hD1 hS1 hl
theorem ww_zastore {X : CT} {sh : Sh} {adr : Nat → Nat} {cells slots : Nat} {own : String} {cc : ByteArray} {nL d pc : Nat} {ls st : List Value} {σ : Hp} {a : Nat} {i : Int32} {v : Int32} (C : CX X own cc nL d) (hd : decode cc pc = .ok (.bastore, 1)) (hk : kd sh a = 13) (hin : vp_in i (ln sh a)) (k : WW X (sh, adr, cells, slots) (pc + 1) ls st (pI σ a i.toNatClampNeg (vp_nar .boolean v))) : WW X (sh, adr, cells, slots) pc ls (.int v :: .int i :: .ref a :: st) σ := by
  obtain ⟨p, l, e, R, s, m, args, below, meth, c, Q, D, z, A⟩ := X
  obtain ⟨hx, hb, hml, hown, hts, hK, hA, hR, hlk⟩ := C
  intro H locs la hP hD hS hl
  have he : (WS z sh adr σ)[a]? = some (adr a, .inl (z.2.2.2.1, ln sh a, .inl (gI σ a))) := by rw [WS_at (kd_lt hk (by omega)), cel_13 hk]
  refine va_zast hx hb hK hP hD hS a 3 he rfl hin hd (fun H1 locs1 hP1 hD1 hS1 => ?_)
  rw [WS_set (τ := pI σ a i.toNatClampNeg (vp_nar .boolean v)) (by rw [cel_13 hk, upd_pI]) (fun b hb => cel_pI hb)] at hP1 hD1
  exact k H1 locs1 la hP1 hD1 hS1 hl
theorem ww_lastore {X : CT} {sh : Sh} {adr : Nat → Nat} {cells slots : Nat} {own : String} {cc : ByteArray} {nL d pc : Nat} {ls st : List Value} {σ : Hp} {a : Nat} {i : Int32} {v : Int64} (C : CX X own cc nL d) (hd : decode cc pc = .ok (.lastore, 1)) (hk : kd sh a = 12) (hin : vp_in i (ln sh a)) (k : WW X (sh, adr, cells, slots) (pc + 1) ls st (pL σ a i.toNatClampNeg v)) : WW X (sh, adr, cells, slots) pc ls (.long v :: .int i :: .ref a :: st) σ := by
  obtain ⟨p, l, e, R, s, m, args, below, meth, c, Q, D, z, A⟩ := X
  obtain ⟨hx, hb, hml, hown, hts, hK, hA, hR, hlk⟩ := C
  intro H locs la hP hD hS hl
  have he : (WS z sh adr σ)[a]? = some (adr a, .inl (z.2.2.1, ln sh a, .inr (.inl (gL σ a)))) := by rw [WS_at (kd_lt hk (by omega)), cel_12 hk]
  refine va_last hx hb hK hP hD hS a 2 he rfl hin hd (fun H1 locs1 hP1 hD1 hS1 => ?_)
  rw [WS_set (τ := pL σ a i.toNatClampNeg v) (by rw [cel_12 hk, upd_pL]) (fun b hb => cel_pL hb)] at hP1 hD1
  exact k H1 locs1 la hP1 hD1 hS1 hl
theorem ww_alenI {X : CT} {sh : Sh} {adr : Nat → Nat} {cells slots : Nat} {own : String} {cc : ByteArray} {nL d pc : Nat} {ls st : List Value} {σ : Hp} {a : Nat} (C : CX X own cc nL d) (hd : decode cc pc = .ok (.arraylength, 1)) (hk : kd sh a = 11) (k : WW X (sh, adr, cells, slots) (pc + 1) ls (.int (nI (ln sh a)) :: st) σ) : WW X (sh, adr, cells, slots) pc ls (.ref a :: st) σ := by
  obtain ⟨p, l, e, R, s, m, args, below, meth, c, Q, D, z, A⟩ := X
  obtain ⟨hx, hb, hml, hown, hts, hK, hA, hR, hlk⟩ := C
  intro H locs la hP hD hS hl
  have he : (WS z sh adr σ)[a]? = some (adr a, .inl (z.2.1, ln sh a, .inl (gI σ a))) := by rw [WS_at (kd_lt hk (by omega)), cel_11 hk]
  exact va_alen hx hb hK hP a 1 he rfl rfl hd (k H locs la hP hD hS hl)
theorem ww_alenJ {X : CT} {sh : Sh} {adr : Nat → Nat} {cells slots : Nat} {own : String} {cc : ByteArray} {nL d pc : Nat} {ls st : List Value} {σ : Hp} {a : Nat} (C : CX X own cc nL d) (hd : decode cc pc = .ok (.arraylength, 1)) (hk : kd sh a = 12) (k : WW X (sh, adr, cells, slots) (pc + 1) ls (.int (nI (ln sh a)) :: st) σ) : WW X (sh, adr, cells, slots) pc ls (.ref a :: st) σ := by
  obtain ⟨p, l, e, R, s, m, args, below, meth, c, Q, D, z, A⟩ := X
  obtain ⟨hx, hb, hml, hown, hts, hK, hA, hR, hlk⟩ := C
  intro H locs la hP hD hS hl
  have he : (WS z sh adr σ)[a]? = some (adr a, .inl (z.2.2.1, ln sh a, .inr (.inl (gL σ a)))) := by rw [WS_at (kd_lt hk (by omega)), cel_12 hk]
  exact va_alen hx hb hK hP a 2 he rfl rfl hd (k H locs la hP hD hS hl)
theorem ww_aaload {X : CT} {sh : Sh} {adr : Nat → Nat} {cells slots : Nat} {own : String} {cc : ByteArray} {nL d pc : Nat} {ls st : List Value} {σ : Hp} {a b : Nat} {i : Int32} (C : CX X own cc nL d) (hd : decode cc pc = .ok (.aaload, 1)) (hk : kd sh a = 14) (hin : vp_in i (ln sh a)) (hg : gR σ a i.toNatClampNeg = some b) (k : WW X (sh, adr, cells, slots) (pc + 1) ls (.ref b :: st) σ) : WW X (sh, adr, cells, slots) pc ls (.int i :: .ref a :: st) σ := by
  obtain ⟨p, l, e, R, s, m, args, below, meth, c, Q, D, z, A⟩ := X
  obtain ⟨hx, hb, hml, hown, hts, hK, hA, hR, hlk⟩ := C
  intro H locs la hP hD hS hl
  have he : (WS z sh adr σ)[a]? = some (adr a, .inl (z.2.2.2.2, ln sh a, .inr (.inr (.inr (.inr (fun j => (gR σ a j).map adr)))))) := by rw [WS_at (kd_lt hk (by omega)), cel_14 hk]
  refine va_aldq hx hb hK hP a 4 he rfl hin hd ?_
  rw [hg]
  exact k H locs la hP hD hS hl
