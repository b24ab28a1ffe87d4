/-! THE CLAIM OUT OF ONE WALK OF THE LAW'S BODY. Your part is whole_start (and what it stands on); all else here is the same for every law, but numbers. -/
def R_law : String := "NineChairsLaw"
def lw_P (b : Addr) (xs : List Int32) (args : Array Value) (s : State) : Prop := args = #[.ref b] ∧ s.IntsAt b xs ∧ xs.length ≤ 3072 ∧ (Jvm.Cond.and given_1 narrow_1).before args s = true
def lw_Q (_ : Array Value) (s : State) (o : Outcome) (t : State) : Prop := o = .returned (some (.int 1)) ∧ Framed s o t [] 600000 7302250
def lw_Z (below : List Frame) (a : Array Value) (s : State) : State → Prop := fun t => ∃ o, t.status = .running ∧ Ended t below o ∧ lw_Q a s o t
/-- the law's own end, with 1 on the stack, nothing written that was there before, its room as the claim has it -/
theorem lw_ret {p : Program} {l : Launch} {e : Env} {s : State} {m : MethodId} {below : List Frame} {meth : Method} {c : Code} {b : Nat} (hx : p.tables.exec = Jvm.exec) (hb : c.code = code) (hr : meth.sig.returnType = ret) (hlocks : meth.locks = false) {pc : Nat} {H : Heap} {ls : Array Slot} (hdg : decode code pc = .ok (.ireturn, 1)) : W p l e room_1 s m #[Value.ref b] below meth c H [] 600000 7302250 (lw_Z below #[Value.ref b] s) (F0 m pc ls [.int 1]) := by
  intro T hT X
  obtain ⟨fs, hret, hrun, hended, hW, hframe⟩ := X.leave (v := some (.int 1)) (hlocks := hlocks) (fun h => by rw [hr] at h; cases h)
  have hmeth' : T.vm.method? m = some meth := X.method'
  refine ⟨T.setFrames fs, ?_, .returned (some (.int 1)), hrun, hended, rfl, ⟨_, rfl⟩, hW, hframe⟩
  jvm_step X.here [X.here.top, hx, hb, hdg, hmeth', hr, ret, narrow_b1]
  (try refine ⟨rfl, ?_⟩); (try refine ⟨rfl, ?_⟩)
  first | (intro acts; rw [hret _ acts rfl rfl rfl]) | rw [hret _ _ rfl rfl rfl]
  exact Steps.refl _
/-- what holds at the law's entry: the machine, the code, the tables' words (any of lw_tbl by 'hts w (by decide +kernel)'), the script of L ints xs at the cell b, what the Statement gives of the start (any of its parts by flat_of_before) -/
def lw_At (p : Program) (s : State) (m : MethodId) (meth : Method) (c : Code) (b L : Nat) (xs : Nat → Int32) : Prop :=
  p.tables.exec = Jvm.exec ∧ c.code = code ∧ meth.sig.returnType = ret ∧ c.maxLocals = 4 ∧ s.vm.findClass R_law = some m.cls ∧ (∀ w ∈ lw_tbl, w.before #[Value.ref b] s = true) ∧ va_X b L xs s s.heap ∧ b < s.heap.size ∧ meth.locks = false ∧ (Jvm.Cond.and given_1 narrow_1).before #[Value.ref b] s = true
theorem MS.keep {sh : Sh} {r : Nat → Nat → Option Nat} {o k m : Nat} {v : Option Nat} (hk : kd sh o ≠ 9) (h : MS sh r m) : MS sh (ur r o k v) m := by
  have h1 := h.1
  have e : ∀ b, ur r o k v m b = r m b := fun b => ur_k (sh := sh) (by rw [h1]; exact fun q => hk q.symm)
  unfold MS at h ⊢
  simp only [e]
  exact h
/-- the references at the law's loop: which hall is told, which is spare, which the sitting now and the boxes hold -/
def RI (r : Nat → Nat → Option Nat) (hh hs nh : Nat) (bh : Nat → Nat) : Prop := (∃ rh ph, KS SHF r hh hs rh ph nh 0) ∧ MS SHF r 101 ∧ ∀ i, i < 3 → r (0 + 3) i = some (0 + 74 + 9 * i) ∧ SS SHF r (bh i) (0 + 74 + 9 * i)
theorem kd3 : kd SHF (0 + 3) = 14 := by decide +kernel
theorem RI.pl {r : Nat → Nat → Option Nat} {hh hs nh : Nat} {bh : Nat → Nat} (h : RI r hh hs nh bh) : RI (ur r (0 + 65) 8 (some nh)) hh hs nh bh := by
  obtain ⟨⟨rh, ph, hS⟩, hM, hB⟩ := h
  have k3 : kd SHF (0 + 65) = 3 := (tX8_planner hS).2.1
  refine ⟨⟨rh, nh, hS.pl⟩, hM.keep (by rw [k3]; decide), fun i hi => ⟨?_, (hB i hi).2.keep (by omega) (by rw [k3]; decide)⟩⟩
  rw [ur_ne (by omega)]
  exact (hB i hi).1
theorem RI.rd {r : Nat → Nat → Option Nat} {hh hs nh : Nat} {bh : Nat → Nat} (h : RI r hh hs nh bh) : RI (ur r (0 + 53) 2 (some hs)) hh hs nh bh := by
  obtain ⟨⟨rh, ph, hS⟩, hM, hB⟩ := h
  have k3 : kd SHF (0 + 53) = 4 := (tX8_reader hS).2.1
  refine ⟨⟨hs, ph, hS.rd (tX8_spare hS).2⟩, hM.keep (by rw [k3]; decide), fun i hi => ⟨?_, (hB i hi).2.keep (by omega) (by rw [k3]; decide)⟩⟩
  rw [ur_ne (by omega)]
  exact (hB i hi).1
theorem RI.nw {r : Nat → Nat → Option Nat} {hh hs nh x : Nat} {bh : Nat → Nat} (h : RI r hh hs nh bh) (hx : HS SHF r x) : RI (ur r (0 + 56) 0 (some x)) hh hs x bh := by
  obtain ⟨⟨rh, ph, hS⟩, hM, hB⟩ := h
  have k3 : kd SHF (0 + 56) = 6 := (tX8_now hS).2.1
  refine ⟨⟨rh, ph, hS.nw hx⟩, hM.keep (by rw [k3]; decide), fun i hi => ⟨?_, (hB i hi).2.keep (by omega) (by rw [k3]; decide)⟩⟩
  rw [ur_ne (by omega)]
  exact (hB i hi).1
theorem RI.told {r : Nat → Nat → Option Nat} {hh hs nh x : Nat} {bh : Nat → Nat} (h : RI r hh hs nh bh) (hx : HS SHF r x) : RI (ur r 0 7 (some x)) x hs nh bh := by
  obtain ⟨⟨rh, ph, hS⟩, hM, hB⟩ := h
  have k3 : kd SHF 0 = 8 := hS.1
  refine ⟨⟨rh, ph, hS.told hx⟩, hM.keep (by rw [k3]; decide), fun i hi => ⟨?_, (hB i hi).2.keep (by omega) (by rw [k3]; decide)⟩⟩
  rw [ur_ne (by omega)]
  exact (hB i hi).1
theorem RI.spare {r : Nat → Nat → Option Nat} {hh hs nh x : Nat} {bh : Nat → Nat} (h : RI r hh hs nh bh) (hx : HS SHF r x) : RI (ur r 0 8 (some x)) hh x nh bh := by
  obtain ⟨⟨rh, ph, hS⟩, hM, hB⟩ := h
  have k3 : kd SHF 0 = 8 := hS.1
  refine ⟨⟨rh, ph, hS.spare hx⟩, hM.keep (by rw [k3]; decide), fun i hi => ⟨?_, (hB i hi).2.keep (by omega) (by rw [k3]; decide)⟩⟩
  rw [ur_ne (by omega)]
  exact (hB i hi).1
theorem RI.swap {r : Nat → Nat → Option Nat} {hh hs nh : Nat} {bh : Nat → Nat} (h : RI r hh hs nh bh) : RI (ur (ur (ur (ur r (0 + 53) 2 (some hs)) 0 7 (some hs)) 0 8 (some hh)) (0 + 56) 0 (some hs)) hs hh hs bh := by
  have h1 := h.rd
  obtain ⟨⟨rh, ph, hS⟩, -, -⟩ := id h1
  have hk : kd SHF 0 = 8 := hS.1
  have t1 := (tX8_told hS).2
  have s1 := (tX8_spare hS).2
  have h2 := h1.told s1
  have t2 := t1.keep (o := 0) (k := 7) (v := some hs) (by rw [hk]; decide)
  have s2 := s1.keep (o := 0) (k := 7) (v := some hs) (by rw [hk]; decide)
  have h3 := h2.spare t2
  have s3 := s2.keep (o := 0) (k := 8) (v := some hh) (by rw [hk]; decide)
  exact h3.nw s3
theorem RI.box {r : Nat → Nat → Option Nat} {hh hs nh n : Nat} {bh : Nat → Nat} (h : RI r hh hs nh bh) (hn : n < 3) : RI (ur r (0 + 74 + 9 * n) 0 (some nh)) hh hs nh (fun i => if i = n then nh else bh i) := by
  obtain ⟨⟨rh, ph, hS⟩, hM, hB⟩ := h
  have k3 : kd SHF (0 + 74 + 9 * n) = 6 := (hB n hn).2.1
  refine ⟨⟨rh, ph, hS.box k3 (by omega)⟩, hM.keep (by rw [k3]; decide), fun i hi => ⟨?_, ?_⟩⟩
  · rw [ur_ne (by omega)]
    exact (hB i hi).1
  · by_cases e : i = n
    · subst e
      show SS SHF _ (if i = i then nh else bh i) _
      rw [if_pos rfl]
      exact (hB i hi).2.put (tX6_hall (tX8_now hS).2).2
    · show SS SHF _ (if i = n then nh else bh i) _
      rw [if_neg e]
      exact (hB i hi).2.keep (by omega) (by rw [k3]; decide)
theorem RI.now {r : Nat → Nat → Option Nat} {hh hs nh n : Nat} {bh : Nat → Nat} (h : RI r hh hs nh bh) (hn : n < 3) : RI (ur r (0 + 56) 0 (some (bh n))) hh hs (bh n) bh := h.nw (tX6_hall (h.2.2 n hn).2).2
theorem nB3 {a : Int32} (h : a < 0 ∨ ¬ a < 3) : ¬ inB a 3 := by
  intro q
  rcases h with h | h
  · exact q.1 h
  · obtain ⟨j, hj, e⟩ := nI_of q.1
    have h2 := q.2
    rw [e, nI_clamp hj] at h2
    exact h (by rw [e]; show nI j < nI 3; exact nI_lt h2 (by decide))
/-! the law's own frame -/
def LX (X : CT) (adr : Nat → Nat) (b L : Nat) (xs : Nat → Int32) : Prop := match X with
  | (_, _, _, _, s, _, _, _, _, _, _, _, _, A) => adr 900010 = b ∧ va_X b L xs s s.heap ∧ b < s.heap.size ∧ ¬ A b
def LQ (X : CT) (b : Nat) : Prop := match X with
  | (_, _, _, R, s, _, args, below, meth, _, Q, _, _, A) => args = #[Value.ref b] ∧ R = room_1 ∧ Q = lw_Z below #[Value.ref b] s ∧ A = (fun q => s.heap.size ≤ q) ∧ meth.sig.returnType = ret
theorem LQ.le {X : CT} {b c s : Nat} (h : LQ X b) (h1 : c ≤ 600000) (h2 : s ≤ 7302250) : c ≤ (rX X).cells ∧ s ≤ (rX X).slots := by
  obtain ⟨p, l, e, R, s, m, args, below, meth, c, Q, D, z, A⟩ := X
  obtain ⟨-, rfl, -⟩ := h
  exact ⟨h1, h2⟩
theorem LQ.cs {X : CT} {b : Nat} (h : LQ X b) : 155 ≤ (rX X).cells ∧ 553683 ≤ (rX X).slots := h.le (by decide) (by decide)
theorem ww_slen {X : CT} {sh : Sh} {adr : Nat → Nat} {cells slots : Nat} {own : String} {cc : ByteArray} {nL d pc : Nat} {ls st : List Value} {σ : Hp} {b L : Nat} {xs : Nat → Int32} (C : CX X own cc nL d) (hX : LX X adr b L xs) (hd : decode cc pc = .ok (.arraylength, 1)) (k : WW X (sh, adr, cells, slots) (pc + 1) ls (.int (nI L) :: st) σ) : WW X (sh, adr, cells, slots) pc ls (.ref 900010 :: st) σ := by
  obtain ⟨p, l, e, R, s, m, args, below, meth, c, Q, D, z, A⟩ := X
  obtain ⟨hx, hb, hml, hown, hts, hK, hA, hR, hlk⟩ := C
  obtain ⟨h1, h2, h3, h4⟩ := hX
  intro H locs la hP hD hS hl
  show W _ _ _ _ _ _ _ _ _ _ _ _ _ _ _ (F0 m pc la (.ref (adr 900010) :: st.map (tr adr)))
  rw [h1]
  exact va_slen hx hb h2 h3 h4 hS hd (k H locs la hP hD hS hl)
theorem ww_sld {X : CT} {sh : Sh} {adr : Nat → Nat} {cells slots : Nat} {own : String} {cc : ByteArray} {nL d pc : Nat} {ls st : List Value} {σ : Hp} {b L : Nat} {xs : Nat → Int32} {i : Int32} (C : CX X own cc nL d) (hX : LX X adr b L xs) (hd : decode cc pc = .ok (.iaload, 1)) (hin : vp_in i L) (n : Nat) (hn : i.toNatClampNeg = n) (k : WW X (sh, adr, cells, slots) (pc + 1) ls (.int (xs n) :: st) σ) : WW X (sh, adr, cells, slots) pc ls (.int i :: .ref 900010 :: st) σ := by
  obtain ⟨p, l, e, R, s, m, args, below, meth, c, Q, D, z, A⟩ := X
  obtain ⟨hx, hb, hml, hown, hts, hK, hA, hR, hlk⟩ := C
  obtain ⟨h1, h2, h3, h4⟩ := hX
  subst hn
  intro H locs la hP hD hS hl
  show W _ _ _ _ _ _ _ _ _ _ _ _ _ _ _ (F0 m pc la (.int i :: .ref (adr 900010) :: st.map (tr adr)))
  rw [h1]
  exact va_sld hx hb h2 h3 h4 hS hin hd (k H locs la hP hD hS hl)
theorem ww_lawret {X : CT} {sh : Sh} {adr : Nat → Nat} {cells slots b : Nat} {own : String} {nL d pc : Nat} {ls : List Value} {σ : Hp} (C : CX X own code nL d) (hQ : LQ X b) (hc : cells ≤ 600000) (hs : slots ≤ 7302250) (hd : decode code pc = .ok (.ireturn, 1)) : WW X (sh, adr, cells, slots) pc ls [.int 1] σ := by
  obtain ⟨p, l, e, R, s, m, args, below, meth, c, Q, D, z, A⟩ := X
  obtain ⟨hx, hb, hml, hown, hts, hK, hA, hR, hlk⟩ := C
  obtain ⟨rfl, rfl, rfl, rfl, hr⟩ := hQ
  intro H locs la hP hD hS hl
  refine va_forget (fun q hq => hS.2.2 q hq) ?_
  refine W.widen (k := 600000) (n := 7302250) hc hs ?_
  exact lw_ret hx hb hr hlk hd
theorem sx_n {i L : Nat} {x3 : Int32} (hi : i + 6 ≤ L) (hL : L ≤ 3072) (e3 : x3 = nI i) (c : Nat) (hc : c < 6) : (x3 + nI c).toNatClampNeg = i + c := by
  rw [e3, nI_add]
  exact nI_clamp (by omega)
theorem sx_in {i L : Nat} {x3 : Int32} (hi : i + 6 ≤ L) (hL : L ≤ 3072) (e3 : x3 = nI i) (c : Nat) (hc : c < 6) : vp_in (x3 + nI c) L := by
  rw [e3, nI_add]
  exact vp_in_nI (by omega) (by omega)
