theorem iw_L_9 : IW RL 9 yX8_init cX8_init 2 0 := ⟨(tbw 22 (by decide +kernel) rfl), (tbw 23 (by decide +kernel) rfl), (tbw 1 (by decide +kernel) rfl), (tbw 24 (by decide +kernel) rfl), by decide +kernel, by decide +kernel, by decide +kernel, rfl⟩
theorem iw_L_12 : IW RL 12 yX9_init cX9_init 1 0 := ⟨(tbw 1167 (by decide +kernel) rfl), (tbw 1168 (by decide +kernel) rfl), (tbw 16 (by decide +kernel) rfl), (tbw 1169 (by decide +kernel) rfl), by decide +kernel, by decide +kernel, by decide +kernel, rfl⟩
theorem nw_L_7 : NCW RL 7 8 := ⟨(tbw 20 (by decide +kernel) rfl), (tbw 21 (by decide +kernel) rfl), (tbw 1 (by decide +kernel) rfl)⟩
theorem nw_L_10 : NCW RL 10 9 := ⟨(tbw 1165 (by decide +kernel) rfl), (tbw 1166 (by decide +kernel) rfl), (tbw 16 (by decide +kernel) rfl)⟩
theorem lw_inst : ∀ c, c < 10 → Cond.instantiable (RF c) (nF c) ∈ tables_1 := by decide +kernel
theorem RI0 : RI (lk (LR.drop 0)) 11 32 11 (fun _ => 11) := by
  refine ⟨⟨32, 11, by decide +kernel, by decide +kernel, ⟨by decide +kernel, by unfold TS; decide +kernel⟩, ⟨by decide +kernel, by decide +kernel, fun q hq => (by cases hq), ⟨by decide +kernel, by unfold NS; decide +kernel⟩, ⟨by decide +kernel, by unfold TS; decide +kernel⟩, ⟨by decide +kernel, by unfold HS NS US; decide +kernel⟩⟩, ⟨by decide +kernel, by decide +kernel, by decide +kernel, by decide +kernel, by unfold HS NS US; decide +kernel⟩, ⟨by decide +kernel, by decide +kernel, by decide +kernel, by decide +kernel, by unfold HS NS US; decide +kernel⟩, ⟨by decide +kernel, by unfold BS; decide +kernel⟩, ⟨by decide +kernel, by unfold HS NS US; decide +kernel⟩, by decide +kernel, by unfold HS NS US; decide +kernel⟩, ⟨by decide +kernel, by decide +kernel⟩, fun i hi => ?_⟩
  rcases (show i = 0 ∨ i = 1 ∨ i = 2 by omega) with rfl | rfl | rfl
  · exact ⟨by decide +kernel, by decide +kernel, by decide +kernel, by decide +kernel, by unfold HS NS US; decide +kernel⟩
  · exact ⟨by decide +kernel, by decide +kernel, by decide +kernel, by decide +kernel, by unfold HS NS US; decide +kernel⟩
  · exact ⟨by decide +kernel, by decide +kernel, by decide +kernel, by decide +kernel, by unfold HS NS US; decide +kernel⟩
def h00 : HI := (fun _ _ => 0, fun _ _ => 0)
theorem LX.ag {X : CT} {adr adr' : Nat → Nat} {b L M : Nat} {xs : Nat → Int32} (h : LX X adr b L xs) (ha : AG adr adr' M) : LX X adr' b L xs := by
  obtain ⟨p, l, e, R, s, m, args, below, meth, c, Q, D, z, A⟩ := X
  exact ⟨(ha.2 900010 (by decide)).trans h.1, h.2⟩
set_option maxRecDepth 100000 in
set_option maxHeartbeats 4000000 in
/-- THE LAW OUT OF THE PURE PART: an invariant that holds behind the two constructors, and is kept by every call -/
theorem whole_of (Inv : Nat → HI → Nat → Nat → (Nat → Nat) → Prop) (hstep : ∀ (t : Nat), t < 512 → ∀ (op : Nat) (a1 a2 a3 a4 a5 : Int32) (h : HI) (hh hs : Nat) (bh : Nat → Nat), Inv t h hh hs bh → StepOK (Inv (t + 1)) op a1 a2 a3 a4 a5 h hh hs bh) (hinit : ∃ p1 p2 : HI, gX8_0 (zc h00 0) = some p1 ∧ gX9_101 (zc p1 101) = some p2 ∧ Inv 0 p2 11 32 (fun _ => 11)) {p : Program} {e : Env} {s : State} {m : MethodId} {below : List Frame} {meth : Method} {c : Code} (l : Launch) {b L : Nat} {xs : Nat → Int32} (hL : L ≤ 3072) (C0 : lw_At p s m meth c b L xs) : W p l e room_1 s m #[Value.ref b] below meth c s.heap [] 0 0 (lw_Z below #[Value.ref b] s) (entryFrame m ([Value.ref b] : List Value).toArray 4) := by
  obtain ⟨hx, hb, hr, hml, hown, hts, hX, hbl, hlocks, hgv⟩ := C0
  obtain ⟨adr, hadr, hSZ⟩ := lw_SZ hts hgv
  have hKn : ∀ k : Nat, ∃ q : ClassId × (Nat → Nat), k < 10 → u_Kn s (RF k) (TF k) (nF k) q.1 q.2 := by
    intro k
    by_cases hk : k < 10
    · obtain ⟨cC, iS, h⟩ := u_known (C := RF k) (T := TF k) (N := nF k) (n := nF k) hts (fun w hw => (List.mem_filter.mp (wT_u k hk w hw)).1) (hts _ (List.mem_append_right _ (lw_inst k hk)))
      exact ⟨(cC, iS), fun _ => h⟩
    · exact ⟨((0 : Nat), fun _ => 0), fun h => absurd h hk⟩
  obtain ⟨D0, hD0⟩ := Classical.axiomOfChoice hKn
  obtain ⟨zB, hzB⟩ := lw_arr (s := s) (ty := .byte) (by intro C h; cases h) (hts _ (List.mem_append_right _ (List.mem_of_getElem? (i := 44) (by decide +kernel))))
  obtain ⟨zI, hzI⟩ := lw_arr (s := s) (ty := .int) (by intro C h; cases h) (hts _ (List.mem_append_right _ (List.mem_of_getElem? (i := 78) (by decide +kernel))))
  obtain ⟨zJ, hzJ⟩ := lw_arr (s := s) (ty := .long) (by intro C h; cases h) (hts _ (List.mem_append_right _ (List.mem_of_getElem? (i := 105) (by decide +kernel))))
  obtain ⟨zZ, hzZ⟩ := lw_arr (s := s) (ty := .boolean) (by intro C h; cases h) (hts _ (List.mem_append_right _ (List.mem_of_getElem? (i := 77) (by decide +kernel))))
  obtain ⟨zS, hzS⟩ := lw_arrq (s := s) (C := RX6) (hts _ (List.mem_append_right _ (List.mem_of_getElem? (i := 46) (by decide +kernel))))
  obtain ⟨D, hDe⟩ : ∃ D : va_G, D = (fun k => (D0 k).1, fun k => (D0 k).2) := ⟨_, rfl⟩
  obtain ⟨z, hze⟩ : ∃ z : Z5, z = (zB, zI, zJ, zZ, zS) := ⟨_, rfl⟩
  have hK : va_K D vwCl (TY z) s := by
    refine ⟨fun k q hq => ?_, fun k q hq => ?_⟩
    · have hk : k < 10 := (List.getElem?_eq_some_iff.mp hq).1
      rw [vwCl_at k hk] at hq
      cases hq
      rw [hDe]
      exact hD0 k hk
    · have hk : k < 5 := (List.getElem?_eq_some_iff.mp hq).1
      rw [hze] at hq
      rcases (show k = 0 ∨ k = 1 ∨ k = 2 ∨ k = 3 ∨ k = 4 by omega) with rfl | rfl | rfl | rfl | rfl <;> cases hq
      · exact hzB
      · exact hzI
      · exact hzJ
      · exact hzZ
      · exact hzS
  obtain ⟨X, hXe⟩ : ∃ X : CT, X = (p, l, e, room_1, s, m, #[Value.ref b], below, meth, c, lw_Z below #[Value.ref b] s, D, z, fun q => s.heap.size ≤ q) := ⟨_, rfl⟩
  have C : CX X RL cL_law 4 1000 := by
    rw [hXe]
    exact ⟨hx, hb, hml, hown, fun w h => hts w (List.mem_filter.mp h).1, hK, fun _ h => h, ⟨by decide, by decide⟩, hlocks⟩
  have hZ : SZX X adr := by rw [hXe]; exact hSZ
  have hN : NWX X := by
    rw [hXe]
    exact ⟨va_Nw.of rfl (hts _ (List.mem_append_right _ (List.mem_of_getElem? (i := 30) (by decide +kernel)))), va_Nw.of rfl (hts _ (List.mem_append_right _ (List.mem_of_getElem? (i := 49) (by decide +kernel)))), va_Nw.of rfl (hts _ (List.mem_append_right _ (List.mem_of_getElem? (i := 81) (by decide +kernel)))), va_AO.of (hts _ (List.mem_append_right _ (List.mem_of_getElem? (i := 46) (by decide +kernel))))⟩
  have hQ : LQ X b := by rw [hXe]; exact ⟨rfl, rfl, rfl, rfl, hr⟩
  have hLX : LX X adr b L xs := by rw [hXe]; exact ⟨hadr, hX, hbl, Nat.not_le.mpr hbl⟩
  obtain ⟨p1, p2, hi1, hi2, hI⟩ := hinit
  have key : WW X ((SHF.take 0), adr, 0, 0) 0 [.ref 900010, .retAddr 0, .retAddr 0, .retAddr 0] [] (mk h00 (lk (LR.drop 160))) := by
    refine ww_new C hZ dL_law_0 nw_L_7 (by decide) 0 (by decide +kernel) (by decide) (by decide +kernel) (by decide +kernel) (hQ.le (by decide) (by decide)) rfl rfl (SHF.take 1) (by decide +kernel) (fun adr1 ha hZ => ?_)
    have hLX := hLX.ag ha
    change WW X ((SHF.take 1), adr1, 1, 9) 3 [.ref 900010, .retAddr 0, .retAddr 0, .retAddr 0] [.ref 0] (mk (zc h00 0) (lk (LR.drop 160)))
    refine ww_dup C dL_law_3 rfl ?_
    refine ww_callI C hZ hN dL_law_4 iw_L_9 (caX8_0 hi1) (by decide) rfl rfl (Nat.le_of_ble_eq_true rfl) (hQ.le (by decide) (by decide)) rfl rfl (fun adr2 τ hp ha hZ => ?_)
    subst hp
    have hLX := hLX.ag ha
    change WW X ((SHF.take 101), adr2, 101, 8670) 7 [.ref 900010, .retAddr 0, .retAddr 0, .retAddr 0] [.ref 0] (mk p1 (lk (LR.drop 53)))
    refine ww_astore_n C dL_law_7 1 rfl (by decide) rfl [.ref 900010, .ref 0, .retAddr 0, .retAddr 0] rfl ?_
    refine ww_new C hZ dL_law_8 nw_L_10 (by decide) 101 (by decide +kernel) (by decide) (by decide +kernel) (by decide +kernel) (hQ.le (by decide) (by decide)) rfl rfl (SHF.take 102) (by decide +kernel) (fun adr3 ha hZ => ?_)
    have hLX := hLX.ag ha
    change WW X ((SHF.take 102), adr3, 102, 8758) 11 [.ref 900010, .ref 0, .retAddr 0, .retAddr 0] [.ref 101] (mk (zc p1 101) (lk (LR.drop 53)))
    refine ww_dup C dL_law_11 rfl ?_
    refine ww_callI C hZ hN dL_law_12 iw_L_12 (caX9_101 hi2) (by decide) rfl rfl (Nat.le_of_ble_eq_true rfl) (hQ.le (by decide) (by decide)) rfl rfl (fun adr4 τ hp ha hZ => ?_)
    subst hp
    have hLX := hLX.ag ha
    change WW X ((SHF.take 155), adr4, 155, 553683) 15 [.ref 900010, .ref 0, .retAddr 0, .retAddr 0] [.ref 101] (mk p2 (lk (LR.drop 0)))
    refine ww_astore_n C dL_law_15 2 rfl (by decide) rfl [.ref 900010, .ref 0, .ref 101, .retAddr 0] rfl ?_
    refine ww_iconst (v := (0 : Int32)) C dL_law_16 (by decide) ?_
    refine ww_istore_n C dL_law_17 3 rfl (by decide) rfl [.ref 900010, .ref 0, .ref 101, .int (0 : Int32)] rfl ?_
    rw [show SHF.take 155 = SHF from by decide +kernel]
    exact law_loop C hZ hLX hQ hL hstep (L + 1) 0 0 0 rfl rfl (by omega) (by omega) p2 _ 11 32 (fun _ => 11) RI0 hI
  have hl := lv_entry ([.ref b]) (n := 4) (Nat.le_of_ble_eq_true rfl)
  rw [lg_entry_eq]
  rw [hXe] at key
  refine key s.heap [] _ ?_ ?_ va_S.rf ?_
  · intro k q hq
    have h0 : WS z (SHF.take 0) adr (mk h00 (lk (LR.drop 160))) = [] := rfl
    rw [h0] at hq
    simp at hq
  · have h0 : WS z (SHF.take 0) adr (mk h00 (lk (LR.drop 160))) = [] := rfl
    rw [h0]
    exact ⟨fun i j p q h => by simp at h, fun k q h => by simp at h⟩
  · rw [hml]
    refine ⟨hl.1, hl.2.1, fun q hq => ?_⟩
    obtain ⟨j, u⟩ := q
    obtain ⟨x, g1, g2, rfl⟩ := mem_enumL.mp hq
    have hj : j < 4 := (List.getElem?_eq_some_iff.mp g1).1
    rcases (show j = 0 ∨ j = 1 ∨ j = 2 ∨ j = 3 by omega) with rfl | rfl | rfl | rfl
    · cases g1
      refine hl.2.2 _ ?_
      show (0, Value.ref (adr 900010)) ∈ _
      rw [hadr]
      exact List.mem_cons_self
    · cases g1; exact absurd rfl g2
    · cases g1; exact absurd rfl g2
    · cases g1; exact absurd rfl g2
