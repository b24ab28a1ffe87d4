/-- WHAT IS LEFT: for each call, class and reference answer alike, and the invariant holds again -/
def StepOK (Inv : HI → Nat → Nat → (Nat → Nat) → Prop) (op : Nat) (a1 a2 a3 a4 a5 : Int32) (h : HI) (hh hs : Nat) (bh : Nat → Nat) : Prop := match op with
  | 0 => ∃ (w : Int32) (h1 h2 : HI), fX8_feed 0 h a1 a2 a3 a4 a5 = some (w, h1) ∧ fX9_feed 101 h1 a1 a2 a3 a4 a5 = some (w, h2) ∧ Inv h2 hh hs bh
  | 1 => ∃ (w : Int32) (h1 h2 : HI), fX8_end 0 h a1 = some (w, h1) ∧ fX9_end 101 h1 a1 = some (w, h2) ∧ Inv h2 hh hs bh
  | 2 => ∃ (w : Int32) (h1 h2 : HI), fX8_hall 0 hh hs h = some (w, h1) ∧ fX9_hall 101 h1 = some (w, h2) ∧ ∃ q : Int32 × HI, fX4_read (0 + 53) (0 + 1) hs h = some q ∧ ((q.1 = 0 ∧ Inv h2 hh hs bh) ∨ (¬ q.1 = 0 ∧ Inv h2 hs hh bh))
  | 3 => ∃ (w : Int32) (h1 h2 : HI), fX8_fault 0 h a1 = some (w, h1) ∧ fX9_fault 101 h1 a1 = some (w, h2) ∧ Inv h2 hh hs bh
  | 4 => ∃ (w : Int32) (h1 h2 : HI), fX8_rise 0 hh h a1 = some (w, h1) ∧ fX9_rise 101 h1 a1 = some (w, h2) ∧ Inv h2 hh hs bh
  | 5 => ∃ (w : Int32) (h1 h2 : HI), fX8_sit 0 hh h a1 a2 = some (w, h1) ∧ fX9_sit 101 h1 a1 a2 = some (w, h2) ∧ Inv h2 hh hs bh
  | 6 => ∃ (w : Int32) (h1 h2 : HI), fX8_speak 0 hh h a1 a2 = some (w, h1) ∧ fX9_speak 101 h1 a1 a2 = some (w, h2) ∧ Inv h2 hh hs bh
  | 7 => ∃ (w : Int32) (h1 h2 : HI), fX8_vote 0 hh h a1 = some (w, h1) ∧ fX9_vote 101 h1 a1 = some (w, h2) ∧ Inv h2 hh hs bh
  | 8 => ∃ (w : Int32) (h1 h2 : HI), fX8_enter 0 hh h a1 = some (w, h1) ∧ fX9_enter 101 h1 a1 = some (w, h2) ∧ Inv h2 hh hs bh
  | 9 => ∃ (w : Int32) (h1 h2 : HI), fX8_stay 0 hh h a1 = some (w, h1) ∧ fX9_stay 101 h1 a1 = some (w, h2) ∧ Inv h2 hh hs bh
  | 10 => ∃ (w : Int32) (h1 h2 : HI), fX8_crack 0 hh h a1 (if a2 = 0 then (0 : Int32) else (1 : Int32)) = some (w, h1) ∧ fX9_crack 101 h1 a1 (if a2 = 0 then (0 : Int32) else (1 : Int32)) = some (w, h2) ∧ Inv h2 hh hs bh
  | 11 => ∃ (w : Int32) (h1 h2 : HI), fX8_found 0 hh h a1 = some (w, h1) ∧ fX9_found 101 h1 a1 = some (w, h2) ∧ Inv h2 hh hs bh
  | 12 => ∃ (w : Int32) (h1 h2 : HI), fX8_man 0 hh hh h a1 a2 = some (w, h1) ∧ fX9_man 101 h1 a1 a2 = some (w, h2) ∧ Inv h2 hh hs bh
  | 13 => ∃ (w : Int32) (h1 h2 : HI), fX8_chair 0 hh hh h a1 a2 = some (w, h1) ∧ fX9_chair 101 h1 a1 a2 = some (w, h2) ∧ Inv h2 hh hs bh
  | 14 => ∃ (w : Int32) (h1 h2 : HI), fX8_matter 0 hh hh h a1 a2 = some (w, h1) ∧ fX9_matter 101 h1 a1 a2 = some (w, h2) ∧ Inv h2 hh hs bh
  | 15 => ∃ (w : Int32) (h1 h2 : HI), fX8_deal 0 hh h a1 = some (w, h1) ∧ fX9_deal 101 h1 a1 = some (w, h2) ∧ Inv h2 hh hs bh
  | 16 => ∃ (w : Int32) (h1 h2 : HI), fX8_voted 0 h a1 a2 = some (w, h1) ∧ fX9_voted 101 h1 a1 a2 = some (w, h2) ∧ Inv h2 hh hs bh
  | 17 => ∃ (w : Int32) (h1 h2 : HI), fX8_sat 0 hh h a1 a2 = some (w, h1) ∧ fX9_sat 101 h1 a1 a2 = some (w, h2) ∧ Inv h2 hh hs bh
  | 18 => ∃ (w : Int32) (h1 h2 : HI), fX8_best 0 hh h a1 a2 = some (w, h1) ∧ fX9_best 101 h1 a1 a2 = some (w, h2) ∧ Inv h2 hh hs bh
  | 19 => ∃ (w : Int32) (h1 h2 : HI), fX8_fewest 0 hh h a1 = some (w, h1) ∧ fX9_fewest 101 h1 a1 = some (w, h2) ∧ Inv h2 hh hs bh
  | 20 => ∃ (w : Int32) (h1 h2 : HI), fX8_lets 0 hh h a1 a2 = some (w, h1) ∧ fX9_lets 101 h1 a1 a2 = some (w, h2) ∧ Inv h2 hh hs bh
  | 21 => ∃ (w : Int32) (h1 h2 : HI), fX8_floor 0 hh h a1 = some (w, h1) ∧ fX9_floor 101 h1 a1 = some (w, h2) ∧ Inv h2 hh hs bh
  | 22 => ∃ (w : Int32) (h1 h2 : HI), fX8_could 0 hh hh h a1 a2 a3 a4 = some (w, h1) ∧ fX9_could 101 h1 a1 a2 a3 a4 = some (w, h2) ∧ Inv h2 hh hs bh
  | 23 => ∃ (w : Int32) (h1 h2 : HI), fX8_entry 0 hh h a1 a2 a3 = some (w, h1) ∧ fX9_entry 101 h1 a1 a2 a3 = some (w, h2) ∧ Inv h2 hh hs bh
  | 24 => ∃ (w : Int32) (h1 h2 : HI), fX8_untell 0 h a1 = some (w, h1) ∧ fX9_untell 101 h1 a1 = some (w, h2) ∧ Inv h2 hh hs bh
  | 25 => ∃ (w : Int32) (h1 h2 : HI), fX8_later 0 h a1 = some (w, h1) ∧ fX9_later 101 h1 a1 = some (w, h2) ∧ Inv h2 hh hs bh
  | 26 => ∃ (w : Int32) (h1 h2 : HI), fX8_judge 0 h a1 a2 = some (w, h1) ∧ fX9_judge 101 h1 a1 a2 = some (w, h2) ∧ Inv h2 hh hs bh
  | 27 => ∃ (w : Int32) (h1 h2 : HI), fX8_image 0 hh h a1 = some (w, h1) ∧ fX9_image 101 h1 a1 = some (w, h2) ∧ ((¬ inB a1 3 ∧ Inv h2 hh hs bh) ∨ (inB a1 3 ∧ Inv h2 hh hs (fun i => if i = a1.toNatClampNeg then hh else bh i)))
  | 28 => ∃ (w : Int32) (h1 h2 : HI), fX8_back 0 (bh (a1.toNatClampNeg)) h a1 = some (w, h1) ∧ fX9_back 101 h1 a1 = some (w, h2) ∧ (Inv h2 hh hs bh ∧ (inB a1 3 → ¬ (h.1 (0 + 4) (a1.toNatClampNeg)) = 0 → bh (a1.toNatClampNeg) = hh))
  | 29 => ∃ (w : Int32) (h1 h2 : HI), fX8_about 0 hh hh h a1 = some (w, h1) ∧ fX9_about 101 h1 a1 = some (w, h2) ∧ Inv h2 hh hs bh
  | _ => Inv h hh hs bh
set_option maxRecDepth 100000 in
set_option maxHeartbeats 4000000 in
theorem lc_0 {X : CT} {adr : Nat → Nat} {b L i : Nat} {xs : Nat → Int32} {x3 : Int32} {h : HI} {r : Nat → Nat → Option Nat} {hh hs : Nat} {bh : Nat → Nat} {Inv : HI → Nat → Nat → (Nat → Nat) → Prop} (C : CX X RL cL_law 4 1000) (hZ : SZX X adr) (hX : LX X adr b L xs) (hQ : LQ X b) (hL : L ≤ 3072) (hi : i + 6 ≤ L) (e3 : x3 = nI i) (hR : RI r hh hs hh bh) (hP : StepOK Inv 0 (xs (i + 1)) (xs (i + 2)) (xs (i + 3)) (xs (i + 4)) (xs (i + 5)) h hh hs bh) (k : ∀ (h2 : HI) (r2 : Nat → Nat → Option Nat) (hh2 hs2 : Nat) (bh2 : Nat → Nat), RI r2 hh2 hs2 hh2 bh2 → Inv h2 hh2 hs2 bh2 → WW X (SHF, adr, 155, 553683) 1064 [.ref 900010, .ref 0, .ref 101, .int x3] [] (mk h2 r2)) : WW X (SHF, adr, 155, 553683) 168 [.ref 900010, .ref 0, .ref 101, .int x3] [] (mk h r) := by
  obtain ⟨w, h1, h2, hc1, hc2, hI⟩ := hP
  obtain ⟨⟨rh, ph, hS⟩, hM, hB⟩ := hR
  refine ww_aload_n C dL_law_168 1 rfl rfl ?_
  refine ww_aload_n C dL_law_169 0 rfl rfl ?_
  refine ww_iload_n C dL_law_170 3 rfl rfl ?_
  refine ww_iconst (v := (1 : Int32)) C dL_law_171 (by decide) ?_
  refine ww_iadd C dL_law_172 ?_
  refine ww_sld C hX dL_law_173 (sx_in hi hL e3 1 (by decide)) (i + 1) (sx_n hi hL e3 1 (by decide)) ?_
  refine ww_aload_n C dL_law_174 0 rfl rfl ?_
  refine ww_iload_n C dL_law_175 3 rfl rfl ?_
  refine ww_iconst (v := (2 : Int32)) C dL_law_176 (by decide) ?_
  refine ww_iadd C dL_law_177 ?_
  refine ww_sld C hX dL_law_178 (sx_in hi hL e3 2 (by decide)) (i + 2) (sx_n hi hL e3 2 (by decide)) ?_
  refine ww_aload_n C dL_law_179 0 rfl rfl ?_
  refine ww_iload_n C dL_law_180 3 rfl rfl ?_
  refine ww_iconst (v := (3 : Int32)) C dL_law_181 (by decide) ?_
  refine ww_iadd C dL_law_182 ?_
  refine ww_sld C hX dL_law_183 (sx_in hi hL e3 3 (by decide)) (i + 3) (sx_n hi hL e3 3 (by decide)) ?_
  refine ww_aload_n C dL_law_184 0 rfl rfl ?_
  refine ww_iload_n C dL_law_185 3 rfl rfl ?_
  refine ww_iconst (v := (4 : Int32)) C dL_law_186 (by decide) ?_
  refine ww_iadd C dL_law_187 ?_
  refine ww_sld C hX dL_law_188 (sx_in hi hL e3 4 (by decide)) (i + 4) (sx_n hi hL e3 4 (by decide)) ?_
  refine ww_aload_n C dL_law_189 0 rfl rfl ?_
  refine ww_iload_n C dL_law_190 3 rfl rfl ?_
  refine ww_iconst (v := (5 : Int32)) C dL_law_191 (by decide) ?_
  refine ww_iadd C dL_law_192 ?_
  refine ww_sld C hX dL_law_193 (sx_in hi hL e3 5 (by decide)) (i + 5) (sx_n hi hL e3 5 (by decide)) ?_
  refine ww_callV C hZ dL_law_194 cw_L_13 (ccX8_feed hS hc1) hS.1 ⟨by decide, rfl⟩ (by decide) rfl rfl (Nat.le_of_ble_eq_true rfl) (LQ.cs hQ) (fun v τ hp => ?_)
  obtain ⟨rfl, rfl⟩ := hp
  change WW X _ 197 [.ref 900010, .ref 0, .ref 101, .int x3] [.int w] _
  refine ww_aload_n C dL_law_197 2 rfl rfl ?_
  refine ww_aload_n C dL_law_198 0 rfl rfl ?_
  refine ww_iload_n C dL_law_199 3 rfl rfl ?_
  refine ww_iconst (v := (1 : Int32)) C dL_law_200 (by decide) ?_
  refine ww_iadd C dL_law_201 ?_
  refine ww_sld C hX dL_law_202 (sx_in hi hL e3 1 (by decide)) (i + 1) (sx_n hi hL e3 1 (by decide)) ?_
  refine ww_aload_n C dL_law_203 0 rfl rfl ?_
  refine ww_iload_n C dL_law_204 3 rfl rfl ?_
  refine ww_iconst (v := (2 : Int32)) C dL_law_205 (by decide) ?_
  refine ww_iadd C dL_law_206 ?_
  refine ww_sld C hX dL_law_207 (sx_in hi hL e3 2 (by decide)) (i + 2) (sx_n hi hL e3 2 (by decide)) ?_
  refine ww_aload_n C dL_law_208 0 rfl rfl ?_
  refine ww_iload_n C dL_law_209 3 rfl rfl ?_
  refine ww_iconst (v := (3 : Int32)) C dL_law_210 (by decide) ?_
  refine ww_iadd C dL_law_211 ?_
  refine ww_sld C hX dL_law_212 (sx_in hi hL e3 3 (by decide)) (i + 3) (sx_n hi hL e3 3 (by decide)) ?_
  refine ww_aload_n C dL_law_213 0 rfl rfl ?_
  refine ww_iload_n C dL_law_214 3 rfl rfl ?_
  refine ww_iconst (v := (4 : Int32)) C dL_law_215 (by decide) ?_
  refine ww_iadd C dL_law_216 ?_
  refine ww_sld C hX dL_law_217 (sx_in hi hL e3 4 (by decide)) (i + 4) (sx_n hi hL e3 4 (by decide)) ?_
  refine ww_aload_n C dL_law_218 0 rfl rfl ?_
  refine ww_iload_n C dL_law_219 3 rfl rfl ?_
  refine ww_iconst (v := (5 : Int32)) C dL_law_220 (by decide) ?_
  refine ww_iadd C dL_law_221 ?_
  refine ww_sld C hX dL_law_222 (sx_in hi hL e3 5 (by decide)) (i + 5) (sx_n hi hL e3 5 (by decide)) ?_
  refine ww_callV C hZ dL_law_223 cw_L_17 (ccX9_feed hM hc2) hM.1 ⟨by decide, rfl⟩ (by decide) rfl rfl (Nat.le_of_ble_eq_true rfl) (LQ.cs hQ) (fun v τ hp => ?_)
  obtain ⟨rfl, rfl⟩ := hp
  change WW X _ 226 [.ref 900010, .ref 0, .ref 101, .int x3] [.int w, .int w] _
  refine ww_icmp_eq C dL_law_226 1064 rfl (fun _ => ?_) (fun hc => absurd rfl hc)
  exact k _ _ _ _ _ ⟨⟨rh, ph, hS⟩, hM, hB⟩ hI
set_option maxRecDepth 100000 in
set_option maxHeartbeats 4000000 in
theorem lc_1 {X : CT} {adr : Nat → Nat} {b L i : Nat} {xs : Nat → Int32} {x3 : Int32} {h : HI} {r : Nat → Nat → Option Nat} {hh hs : Nat} {bh : Nat → Nat} {Inv : HI → Nat → Nat → (Nat → Nat) → Prop} (C : CX X RL cL_law 4 1000) (hZ : SZX X adr) (hX : LX X adr b L xs) (hQ : LQ X b) (hL : L ≤ 3072) (hi : i + 6 ≤ L) (e3 : x3 = nI i) (hR : RI r hh hs hh bh) (hP : StepOK Inv 1 (xs (i + 1)) (xs (i + 2)) (xs (i + 3)) (xs (i + 4)) (xs (i + 5)) h hh hs bh) (k : ∀ (h2 : HI) (r2 : Nat → Nat → Option Nat) (hh2 hs2 : Nat) (bh2 : Nat → Nat), RI r2 hh2 hs2 hh2 bh2 → Inv h2 hh2 hs2 bh2 → WW X (SHF, adr, 155, 553683) 1064 [.ref 900010, .ref 0, .ref 101, .int x3] [] (mk h2 r2)) : WW X (SHF, adr, 155, 553683) 231 [.ref 900010, .ref 0, .ref 101, .int x3] [] (mk h r) := by
  obtain ⟨w, h1, h2, hc1, hc2, hI⟩ := hP
  obtain ⟨⟨rh, ph, hS⟩, hM, hB⟩ := hR
  refine ww_aload_n C dL_law_231 1 rfl rfl ?_
  refine ww_aload_n C dL_law_232 0 rfl rfl ?_
  refine ww_iload_n C dL_law_233 3 rfl rfl ?_
  refine ww_iconst (v := (1 : Int32)) C dL_law_234 (by decide) ?_
  refine ww_iadd C dL_law_235 ?_
  refine ww_sld C hX dL_law_236 (sx_in hi hL e3 1 (by decide)) (i + 1) (sx_n hi hL e3 1 (by decide)) ?_
  refine ww_callV C hZ dL_law_237 cw_L_18 (ccX8_end hS hc1) hS.1 ⟨by decide, rfl⟩ (by decide) rfl rfl (Nat.le_of_ble_eq_true rfl) (LQ.cs hQ) (fun v τ hp => ?_)
  obtain ⟨rfl, rfl⟩ := hp
  change WW X _ 240 [.ref 900010, .ref 0, .ref 101, .int x3] [.int w] _
  refine ww_aload_n C dL_law_240 2 rfl rfl ?_
  refine ww_aload_n C dL_law_241 0 rfl rfl ?_
  refine ww_iload_n C dL_law_242 3 rfl rfl ?_
  refine ww_iconst (v := (1 : Int32)) C dL_law_243 (by decide) ?_
  refine ww_iadd C dL_law_244 ?_
  refine ww_sld C hX dL_law_245 (sx_in hi hL e3 1 (by decide)) (i + 1) (sx_n hi hL e3 1 (by decide)) ?_
  refine ww_callV C hZ dL_law_246 cw_L_22 (ccX9_end hM hc2) hM.1 ⟨by decide, rfl⟩ (by decide) rfl rfl (Nat.le_of_ble_eq_true rfl) (LQ.cs hQ) (fun v τ hp => ?_)
  obtain ⟨rfl, rfl⟩ := hp
  change WW X _ 249 [.ref 900010, .ref 0, .ref 101, .int x3] [.int w, .int w] _
  refine ww_icmp_eq C dL_law_249 1064 rfl (fun _ => ?_) (fun hc => absurd rfl hc)
  exact k _ _ _ _ _ ⟨⟨rh, ph, hS⟩, hM, hB⟩ hI
set_option maxRecDepth 100000 in
set_option maxHeartbeats 4000000 in
theorem lc_2 {X : CT} {adr : Nat → Nat} {b L i : Nat} {xs : Nat → Int32} {x3 : Int32} {h : HI} {r : Nat → Nat → Option Nat} {hh hs : Nat} {bh : Nat → Nat} {Inv : HI → Nat → Nat → (Nat → Nat) → Prop} (C : CX X RL cL_law 4 1000) (hZ : SZX X adr) (hX : LX X adr b L xs) (hQ : LQ X b) (hL : L ≤ 3072) (hi : i + 6 ≤ L) (e3 : x3 = nI i) (hR : RI r hh hs hh bh) (hP : StepOK Inv 2 (xs (i + 1)) (xs (i + 2)) (xs (i + 3)) (xs (i + 4)) (xs (i + 5)) h hh hs bh) (k : ∀ (h2 : HI) (r2 : Nat → Nat → Option Nat) (hh2 hs2 : Nat) (bh2 : Nat → Nat), RI r2 hh2 hs2 hh2 bh2 → Inv h2 hh2 hs2 bh2 → WW X (SHF, adr, 155, 553683) 1064 [.ref 900010, .ref 0, .ref 101, .int x3] [] (mk h2 r2)) : WW X (SHF, adr, 155, 553683) 254 [.ref 900010, .ref 0, .ref 101, .int x3] [] (mk h r) := by
  obtain ⟨w, h1, h2, hc1, hc2, hI⟩ := hP
  obtain ⟨⟨rh, ph, hS⟩, hM, hB⟩ := hR
  refine ww_aload_n C dL_law_254 1 rfl rfl ?_
  refine ww_callV C hZ dL_law_255 cw_L_23 (ccX8_hall hS hc1) hS.1 ⟨by decide, rfl⟩ (by decide) rfl rfl (Nat.le_of_ble_eq_true rfl) (LQ.cs hQ) (fun v τ hp => ?_)
  obtain ⟨rfl, r9, rfl, hr9⟩ := hp
  obtain ⟨q, hq, hI⟩ := hI
  have hR2 : ∃ hh2 hs2, RI r9 hh2 hs2 hh2 bh ∧ Inv h2 hh2 hs2 bh := by
    rcases hr9 with ⟨e, q9, hq9, e9⟩ | ⟨e, q9, hq9, e9⟩
    · have e2 : q9 = q := Option.some.inj (hq9.symm.trans hq)
      subst e2
      rcases hI with ⟨_, hI⟩ | ⟨g, _⟩
      · exact ⟨hh, hs, by rw [e]; exact RI.rd ⟨⟨rh, ph, hS⟩, hM, hB⟩, hI⟩
      · exact absurd e9 g
    · have e2 : q9 = q := Option.some.inj (hq9.symm.trans hq)
      subst e2
      rcases hI with ⟨g, _⟩ | ⟨_, hI⟩
      · exact absurd g e9
      · exact ⟨hs, hh, by rw [e]; exact RI.swap ⟨⟨rh, ph, hS⟩, hM, hB⟩, hI⟩
  obtain ⟨hh2, hs2, hR2, hI⟩ := hR2
  obtain ⟨⟨rh, ph, hS⟩, hM, hB⟩ := id hR2
  change WW X _ 258 [.ref 900010, .ref 0, .ref 101, .int x3] [.int w] _
  refine ww_aload_n C dL_law_258 2 rfl rfl ?_
  refine ww_callV C hZ dL_law_259 cw_L_27 (ccX9_hall hM hc2) hM.1 ⟨by decide, rfl⟩ (by decide) rfl rfl (Nat.le_of_ble_eq_true rfl) (LQ.cs hQ) (fun v τ hp => ?_)
  obtain ⟨rfl, rfl⟩ := hp
  change WW X _ 262 [.ref 900010, .ref 0, .ref 101, .int x3] [.int w, .int w] _
  refine ww_icmp_eq C dL_law_262 1064 rfl (fun _ => ?_) (fun hc => absurd rfl hc)
  exact k _ _ _ _ _ hR2 hI
set_option maxRecDepth 100000 in
set_option maxHeartbeats 4000000 in
theorem lc_3 {X : CT} {adr : Nat → Nat} {b L i : Nat} {xs : Nat → Int32} {x3 : Int32} {h : HI} {r : Nat → Nat → Option Nat} {hh hs : Nat} {bh : Nat → Nat} {Inv : HI → Nat → Nat → (Nat → Nat) → Prop} (C : CX X RL cL_law 4 1000) (hZ : SZX X adr) (hX : LX X adr b L xs) (hQ : LQ X b) (hL : L ≤ 3072) (hi : i + 6 ≤ L) (e3 : x3 = nI i) (hR : RI r hh hs hh bh) (hP : StepOK Inv 3 (xs (i + 1)) (xs (i + 2)) (xs (i + 3)) (xs (i + 4)) (xs (i + 5)) h hh hs bh) (k : ∀ (h2 : HI) (r2 : Nat → Nat → Option Nat) (hh2 hs2 : Nat) (bh2 : Nat → Nat), RI r2 hh2 hs2 hh2 bh2 → Inv h2 hh2 hs2 bh2 → WW X (SHF, adr, 155, 553683) 1064 [.ref 900010, .ref 0, .ref 101, .int x3] [] (mk h2 r2)) : WW X (SHF, adr, 155, 553683) 267 [.ref 900010, .ref 0, .ref 101, .int x3] [] (mk h r) := by
  obtain ⟨w, h1, h2, hc1, hc2, hI⟩ := hP
  obtain ⟨⟨rh, ph, hS⟩, hM, hB⟩ := hR
  refine ww_aload_n C dL_law_267 1 rfl rfl ?_
  refine ww_aload_n C dL_law_268 0 rfl rfl ?_
  refine ww_iload_n C dL_law_269 3 rfl rfl ?_
  refine ww_iconst (v := (1 : Int32)) C dL_law_270 (by decide) ?_
  refine ww_iadd C dL_law_271 ?_
  refine ww_sld C hX dL_law_272 (sx_in hi hL e3 1 (by decide)) (i + 1) (sx_n hi hL e3 1 (by decide)) ?_
  refine ww_callV C hZ dL_law_273 cw_L_28 (ccX8_fault hS hc1) hS.1 ⟨by decide, rfl⟩ (by decide) rfl rfl (Nat.le_of_ble_eq_true rfl) (LQ.cs hQ) (fun v τ hp => ?_)
  obtain ⟨rfl, rfl⟩ := hp
  change WW X _ 276 [.ref 900010, .ref 0, .ref 101, .int x3] [.int w] _
  refine ww_aload_n C dL_law_276 2 rfl rfl ?_
  refine ww_aload_n C dL_law_277 0 rfl rfl ?_
  refine ww_iload_n C dL_law_278 3 rfl rfl ?_
  refine ww_iconst (v := (1 : Int32)) C dL_law_279 (by decide) ?_
  refine ww_iadd C dL_law_280 ?_
  refine ww_sld C hX dL_law_281 (sx_in hi hL e3 1 (by decide)) (i + 1) (sx_n hi hL e3 1 (by decide)) ?_
  refine ww_callV C hZ dL_law_282 cw_L_31 (ccX9_fault hM hc2) hM.1 ⟨by decide, rfl⟩ (by decide) rfl rfl (Nat.le_of_ble_eq_true rfl) (LQ.cs hQ) (fun v τ hp => ?_)
  obtain ⟨rfl, rfl⟩ := hp
  change WW X _ 285 [.ref 900010, .ref 0, .ref 101, .int x3] [.int w, .int w] _
  refine ww_icmp_eq C dL_law_285 1064 rfl (fun _ => ?_) (fun hc => absurd rfl hc)
  exact k _ _ _ _ _ ⟨⟨rh, ph, hS⟩, hM, hB⟩ hI
set_option maxRecDepth 100000 in
set_option maxHeartbeats 4000000 in
theorem lc_4 {X : CT} {adr : Nat → Nat} {b L i : Nat} {xs : Nat → Int32} {x3 : Int32} {h : HI} {r : Nat → Nat → Option Nat} {hh hs : Nat} {bh : Nat → Nat} {Inv : HI → Nat → Nat → (Nat → Nat) → Prop} (C : CX X RL cL_law 4 1000) (hZ : SZX X adr) (hX : LX X adr b L xs) (hQ : LQ X b) (hL : L ≤ 3072) (hi : i + 6 ≤ L) (e3 : x3 = nI i) (hR : RI r hh hs hh bh) (hP : StepOK Inv 4 (xs (i + 1)) (xs (i + 2)) (xs (i + 3)) (xs (i + 4)) (xs (i + 5)) h hh hs bh) (k : ∀ (h2 : HI) (r2 : Nat → Nat → Option Nat) (hh2 hs2 : Nat) (bh2 : Nat → Nat), RI r2 hh2 hs2 hh2 bh2 → Inv h2 hh2 hs2 bh2 → WW X (SHF, adr, 155, 553683) 1064 [.ref 900010, .ref 0, .ref 101, .int x3] [] (mk h2 r2)) : WW X (SHF, adr, 155, 553683) 290 [.ref 900010, .ref 0, .ref 101, .int x3] [] (mk h r) := by
  obtain ⟨w, h1, h2, hc1, hc2, hI⟩ := hP
  obtain ⟨⟨rh, ph, hS⟩, hM, hB⟩ := hR
  refine ww_aload_n C dL_law_290 1 rfl rfl ?_
  refine ww_aload_n C dL_law_291 0 rfl rfl ?_
  refine ww_iload_n C dL_law_292 3 rfl rfl ?_
  refine ww_iconst (v := (1 : Int32)) C dL_law_293 (by decide) ?_
  refine ww_iadd C dL_law_294 ?_
  refine ww_sld C hX dL_law_295 (sx_in hi hL e3 1 (by decide)) (i + 1) (sx_n hi hL e3 1 (by decide)) ?_
  refine ww_callV C hZ dL_law_296 cw_L_32 (ccX8_rise hS hc1) hS.1 ⟨by decide, rfl⟩ (by decide) rfl rfl (Nat.le_of_ble_eq_true rfl) (LQ.cs hQ) (fun v τ hp => ?_)
  obtain ⟨rfl, rfl⟩ := hp
  change WW X _ 299 [.ref 900010, .ref 0, .ref 101, .int x3] [.int w] _
  refine ww_aload_n C dL_law_299 2 rfl rfl ?_
  refine ww_aload_n C dL_law_300 0 rfl rfl ?_
  refine ww_iload_n C dL_law_301 3 rfl rfl ?_
  refine ww_iconst (v := (1 : Int32)) C dL_law_302 (by decide) ?_
  refine ww_iadd C dL_law_303 ?_
  refine ww_sld C hX dL_law_304 (sx_in hi hL e3 1 (by decide)) (i + 1) (sx_n hi hL e3 1 (by decide)) ?_
  refine ww_callV C hZ dL_law_305 cw_L_35 (ccX9_rise hM hc2) hM.1 ⟨by decide, rfl⟩ (by decide) rfl rfl (Nat.le_of_ble_eq_true rfl) (LQ.cs hQ) (fun v τ hp => ?_)
  obtain ⟨rfl, rfl⟩ := hp
  change WW X _ 308 [.ref 900010, .ref 0, .ref 101, .int x3] [.int w, .int w] _
  refine ww_icmp_eq C dL_law_308 1064 rfl (fun _ => ?_) (fun hc => absurd rfl hc)
  exact k _ _ _ _ _ ⟨⟨rh, ph, hS⟩, hM, hB⟩ hI
set_option maxRecDepth 100000 in
set_option maxHeartbeats 4000000 in
theorem lc_5 {X : CT} {adr : Nat → Nat} {b L i : Nat} {xs : Nat → Int32} {x3 : Int32} {h : HI} {r : Nat → Nat → Option Nat} {hh hs : Nat} {bh : Nat → Nat} {Inv : HI → Nat → Nat → (Nat → Nat) → Prop} (C : CX X RL cL_law 4 1000) (hZ : SZX X adr) (hX : LX X adr b L xs) (hQ : LQ X b) (hL : L ≤ 3072) (hi : i + 6 ≤ L) (e3 : x3 = nI i) (hR : RI r hh hs hh bh) (hP : StepOK Inv 5 (xs (i + 1)) (xs (i + 2)) (xs (i + 3)) (xs (i + 4)) (xs (i + 5)) h hh hs bh) (k : ∀ (h2 : HI) (r2 : Nat → Nat → Option Nat) (hh2 hs2 : Nat) (bh2 : Nat → Nat), RI r2 hh2 hs2 hh2 bh2 → Inv h2 hh2 hs2 bh2 → WW X (SHF, adr, 155, 553683) 1064 [.ref 900010, .ref 0, .ref 101, .int x3] [] (mk h2 r2)) : WW X (SHF, adr, 155, 553683) 313 [.ref 900010, .ref 0, .ref 101, .int x3] [] (mk h r) := by
  obtain ⟨w, h1, h2, hc1, hc2, hI⟩ := hP
  obtain ⟨⟨rh, ph, hS⟩, hM, hB⟩ := hR
  refine ww_aload_n C dL_law_313 1 rfl rfl ?_
  refine ww_aload_n C dL_law_314 0 rfl rfl ?_
  refine ww_iload_n C dL_law_315 3 rfl rfl ?_
  refine ww_iconst (v := (1 : Int32)) C dL_law_316 (by decide) ?_
  refine ww_iadd C dL_law_317 ?_
  refine ww_sld C hX dL_law_318 (sx_in hi hL e3 1 (by decide)) (i + 1) (sx_n hi hL e3 1 (by decide)) ?_
  refine ww_aload_n C dL_law_319 0 rfl rfl ?_
  refine ww_iload_n C dL_law_320 3 rfl rfl ?_
  refine ww_iconst (v := (2 : Int32)) C dL_law_321 (by decide) ?_
  refine ww_iadd C dL_law_322 ?_
  refine ww_sld C hX dL_law_323 (sx_in hi hL e3 2 (by decide)) (i + 2) (sx_n hi hL e3 2 (by decide)) ?_
  refine ww_callV C hZ dL_law_324 cw_L_36 (ccX8_sit hS hc1) hS.1 ⟨by decide, rfl⟩ (by decide) rfl rfl (Nat.le_of_ble_eq_true rfl) (LQ.cs hQ) (fun v τ hp => ?_)
  obtain ⟨rfl, rfl⟩ := hp
  change WW X _ 327 [.ref 900010, .ref 0, .ref 101, .int x3] [.int w] _
  refine ww_aload_n C dL_law_327 2 rfl rfl ?_
  refine ww_aload_n C dL_law_328 0 rfl rfl ?_
  refine ww_iload_n C dL_law_329 3 rfl rfl ?_
  refine ww_iconst (v := (1 : Int32)) C dL_law_330 (by decide) ?_
  refine ww_iadd C dL_law_331 ?_
  refine ww_sld C hX dL_law_332 (sx_in hi hL e3 1 (by decide)) (i + 1) (sx_n hi hL e3 1 (by decide)) ?_
  refine ww_aload_n C dL_law_333 0 rfl rfl ?_
  refine ww_iload_n C dL_law_334 3 rfl rfl ?_
  refine ww_iconst (v := (2 : Int32)) C dL_law_335 (by decide) ?_
  refine ww_iadd C dL_law_336 ?_
  refine ww_sld C hX dL_law_337 (sx_in hi hL e3 2 (by decide)) (i + 2) (sx_n hi hL e3 2 (by decide)) ?_
  refine ww_callV C hZ dL_law_338 cw_L_40 (ccX9_sit hM hc2) hM.1 ⟨by decide, rfl⟩ (by decide) rfl rfl (Nat.le_of_ble_eq_true rfl) (LQ.cs hQ) (fun v τ hp => ?_)
  obtain ⟨rfl, rfl⟩ := hp
  change WW X _ 341 [.ref 900010, .ref 0, .ref 101, .int x3] [.int w, .int w] _
  refine ww_icmp_eq C dL_law_341 1064 rfl (fun _ => ?_) (fun hc => absurd rfl hc)
  exact k _ _ _ _ _ ⟨⟨rh, ph, hS⟩, hM, hB⟩ hI
set_option maxRecDepth 100000 in
set_option maxHeartbeats 4000000 in
theorem lc_6 {X : CT} {adr : Nat → Nat} {b L i : Nat} {xs : Nat → Int32} {x3 : Int32} {h : HI} {r : Nat → Nat → Option Nat} {hh hs : Nat} {bh : Nat → Nat} {Inv : HI → Nat → Nat → (Nat → Nat) → Prop} (C : CX X RL cL_law 4 1000) (hZ : SZX X adr) (hX : LX X adr b L xs) (hQ : LQ X b) (hL : L ≤ 3072) (hi : i + 6 ≤ L) (e3 : x3 = nI i) (hR : RI r hh hs hh bh) (hP : StepOK Inv 6 (xs (i + 1)) (xs (i + 2)) (xs (i + 3)) (xs (i + 4)) (xs (i + 5)) h hh hs bh) (k : ∀ (h2 : HI) (r2 : Nat → Nat → Option Nat) (hh2 hs2 : Nat) (bh2 : Nat → Nat), RI r2 hh2 hs2 hh2 bh2 → Inv h2 hh2 hs2 bh2 → WW X (SHF, adr, 155, 553683) 1064 [.ref 900010, .ref 0, .ref 101, .int x3] [] (mk h2 r2)) : WW X (SHF, adr, 155, 553683) 346 [.ref 900010, .ref 0, .ref 101, .int x3] [] (mk h r) := by
  obtain ⟨w, h1, h2, hc1, hc2, hI⟩ := hP
  obtain ⟨⟨rh, ph, hS⟩, hM, hB⟩ := hR
  refine ww_aload_n C dL_law_346 1 rfl rfl ?_
  refine ww_aload_n C dL_law_347 0 rfl rfl ?_
  refine ww_iload_n C dL_law_348 3 rfl rfl ?_
  refine ww_iconst (v := (1 : Int32)) C dL_law_349 (by decide) ?_
  refine ww_iadd C dL_law_350 ?_
  refine ww_sld C hX dL_law_351 (sx_in hi hL e3 1 (by decide)) (i + 1) (sx_n hi hL e3 1 (by decide)) ?_
  refine ww_aload_n C dL_law_352 0 rfl rfl ?_
  refine ww_iload_n C dL_law_353 3 rfl rfl ?_
  refine ww_iconst (v := (2 : Int32)) C dL_law_354 (by decide) ?_
  refine ww_iadd C dL_law_355 ?_
  refine ww_sld C hX dL_law_356 (sx_in hi hL e3 2 (by decide)) (i + 2) (sx_n hi hL e3 2 (by decide)) ?_
  refine ww_callV C hZ dL_law_357 cw_L_41 (ccX8_speak hS hc1) hS.1 ⟨by decide, rfl⟩ (by decide) rfl rfl (Nat.le_of_ble_eq_true rfl) (LQ.cs hQ) (fun v τ hp => ?_)
  obtain ⟨rfl, rfl⟩ := hp
  change WW X _ 360 [.ref 900010, .ref 0, .ref 101, .int x3] [.int w] _
  refine ww_aload_n C dL_law_360 2 rfl rfl ?_
  refine ww_aload_n C dL_law_361 0 rfl rfl ?_
  refine ww_iload_n C dL_law_362 3 rfl rfl ?_
  refine ww_iconst (v := (1 : Int32)) C dL_law_363 (by decide) ?_
  refine ww_iadd C dL_law_364 ?_
  refine ww_sld C hX dL_law_365 (sx_in hi hL e3 1 (by decide)) (i + 1) (sx_n hi hL e3 1 (by decide)) ?_
  refine ww_aload_n C dL_law_366 0 rfl rfl ?_
  refine ww_iload_n C dL_law_367 3 rfl rfl ?_
  refine ww_iconst (v := (2 : Int32)) C dL_law_368 (by decide) ?_
  refine ww_iadd C dL_law_369 ?_
  refine ww_sld C hX dL_law_370 (sx_in hi hL e3 2 (by decide)) (i + 2) (sx_n hi hL e3 2 (by decide)) ?_
  refine ww_callV C hZ dL_law_371 cw_L_44 (ccX9_speak hM hc2) hM.1 ⟨by decide, rfl⟩ (by decide) rfl rfl (Nat.le_of_ble_eq_true rfl) (LQ.cs hQ) (fun v τ hp => ?_)
  obtain ⟨rfl, rfl⟩ := hp
  change WW X _ 374 [.ref 900010, .ref 0, .ref 101, .int x3] [.int w, .int w] _
  refine ww_icmp_eq C dL_law_374 1064 rfl (fun _ => ?_) (fun hc => absurd rfl hc)
  exact k _ _ _ _ _ ⟨⟨rh, ph, hS⟩, hM, hB⟩ hI
set_option maxRecDepth 100000 in
set_option maxHeartbeats 4000000 in
theorem lc_7 {X : CT} {adr : Nat → Nat} {b L i : Nat} {xs : Nat → Int32} {x3 : Int32} {h : HI} {r : Nat → Nat → Option Nat} {hh hs : Nat} {bh : Nat → Nat} {Inv : HI → Nat → Nat → (Nat → Nat) → Prop} (C : CX X RL cL_law 4 1000) (hZ : SZX X adr) (hX : LX X adr b L xs) (hQ : LQ X b) (hL : L ≤ 3072) (hi : i + 6 ≤ L) (e3 : x3 = nI i) (hR : RI r hh hs hh bh) (hP : StepOK Inv 7 (xs (i + 1)) (xs (i + 2)) (xs (i + 3)) (xs (i + 4)) (xs (i + 5)) h hh hs bh) (k : ∀ (h2 : HI) (r2 : Nat → Nat → Option Nat) (hh2 hs2 : Nat) (bh2 : Nat → Nat), RI r2 hh2 hs2 hh2 bh2 → Inv h2 hh2 hs2 bh2 → WW X (SHF, adr, 155, 553683) 1064 [.ref 900010, .ref 0, .ref 101, .int x3] [] (mk h2 r2)) : WW X (SHF, adr, 155, 553683) 379 [.ref 900010, .ref 0, .ref 101, .int x3] [] (mk h r) := by
  obtain ⟨w, h1, h2, hc1, hc2, hI⟩ := hP
  obtain ⟨⟨rh, ph, hS⟩, hM, hB⟩ := hR
  refine ww_aload_n C dL_law_379 1 rfl rfl ?_
  refine ww_aload_n C dL_law_380 0 rfl rfl ?_
  refine ww_iload_n C dL_law_381 3 rfl rfl ?_
  refine ww_iconst (v := (1 : Int32)) C dL_law_382 (by decide) ?_
  refine ww_iadd C dL_law_383 ?_
  refine ww_sld C hX dL_law_384 (sx_in hi hL e3 1 (by decide)) (i + 1) (sx_n hi hL e3 1 (by decide)) ?_
  refine ww_callV C hZ dL_law_385 cw_L_45 (ccX8_vote hS hc1) hS.1 ⟨by decide, rfl⟩ (by decide) rfl rfl (Nat.le_of_ble_eq_true rfl) (LQ.cs hQ) (fun v τ hp => ?_)
  obtain ⟨rfl, rfl⟩ := hp
  change WW X _ 388 [.ref 900010, .ref 0, .ref 101, .int x3] [.int w] _
  refine ww_aload_n C dL_law_388 2 rfl rfl ?_
  refine ww_aload_n C dL_law_389 0 rfl rfl ?_
  refine ww_iload_n C dL_law_390 3 rfl rfl ?_
  refine ww_iconst (v := (1 : Int32)) C dL_law_391 (by decide) ?_
  refine ww_iadd C dL_law_392 ?_
  refine ww_sld C hX dL_law_393 (sx_in hi hL e3 1 (by decide)) (i + 1) (sx_n hi hL e3 1 (by decide)) ?_
  refine ww_callV C hZ dL_law_394 cw_L_48 (ccX9_vote hM hc2) hM.1 ⟨by decide, rfl⟩ (by decide) rfl rfl (Nat.le_of_ble_eq_true rfl) (LQ.cs hQ) (fun v τ hp => ?_)
  obtain ⟨rfl, rfl⟩ := hp
  change WW X _ 397 [.ref 900010, .ref 0, .ref 101, .int x3] [.int w, .int w] _
  refine ww_icmp_eq C dL_law_397 1064 rfl (fun _ => ?_) (fun hc => absurd rfl hc)
  exact k _ _ _ _ _ ⟨⟨rh, ph, hS⟩, hM, hB⟩ hI
set_option maxRecDepth 100000 in
set_option maxHeartbeats 4000000 in
theorem lc_8 {X : CT} {adr : Nat → Nat} {b L i : Nat} {xs : Nat → Int32} {x3 : Int32} {h : HI} {r : Nat → Nat → Option Nat} {hh hs : Nat} {bh : Nat → Nat} {Inv : HI → Nat → Nat → (Nat → Nat) → Prop} (C : CX X RL cL_law 4 1000) (hZ : SZX X adr) (hX : LX X adr b L xs) (hQ : LQ X b) (hL : L ≤ 3072) (hi : i + 6 ≤ L) (e3 : x3 = nI i) (hR : RI r hh hs hh bh) (hP : StepOK Inv 8 (xs (i + 1)) (xs (i + 2)) (xs (i + 3)) (xs (i + 4)) (xs (i + 5)) h hh hs bh) (k : ∀ (h2 : HI) (r2 : Nat → Nat → Option Nat) (hh2 hs2 : Nat) (bh2 : Nat → Nat), RI r2 hh2 hs2 hh2 bh2 → Inv h2 hh2 hs2 bh2 → WW X (SHF, adr, 155, 553683) 1064 [.ref 900010, .ref 0, .ref 101, .int x3] [] (mk h2 r2)) : WW X (SHF, adr, 155, 553683) 402 [.ref 900010, .ref 0, .ref 101, .int x3] [] (mk h r) := by
  obtain ⟨w, h1, h2, hc1, hc2, hI⟩ := hP
  obtain ⟨⟨rh, ph, hS⟩, hM, hB⟩ := hR
  refine ww_aload_n C dL_law_402 1 rfl rfl ?_
  refine ww_aload_n C dL_law_403 0 rfl rfl ?_
  refine ww_iload_n C dL_law_404 3 rfl rfl ?_
  refine ww_iconst (v := (1 : Int32)) C dL_law_405 (by decide) ?_
  refine ww_iadd C dL_law_406 ?_
  refine ww_sld C hX dL_law_407 (sx_in hi hL e3 1 (by decide)) (i + 1) (sx_n hi hL e3 1 (by decide)) ?_
  refine ww_callV C hZ dL_law_408 cw_L_49 (ccX8_enter hS hc1) hS.1 ⟨by decide, rfl⟩ (by decide) rfl rfl (Nat.le_of_ble_eq_true rfl) (LQ.cs hQ) (fun v τ hp => ?_)
  obtain ⟨rfl, rfl⟩ := hp
  change WW X _ 411 [.ref 900010, .ref 0, .ref 101, .int x3] [.int w] _
  refine ww_aload_n C dL_law_411 2 rfl rfl ?_
  refine ww_aload_n C dL_law_412 0 rfl rfl ?_
  refine ww_iload_n C dL_law_413 3 rfl rfl ?_
  refine ww_iconst (v := (1 : Int32)) C dL_law_414 (by decide) ?_
  refine ww_iadd C dL_law_415 ?_
  refine ww_sld C hX dL_law_416 (sx_in hi hL e3 1 (by decide)) (i + 1) (sx_n hi hL e3 1 (by decide)) ?_
  refine ww_callV C hZ dL_law_417 cw_L_52 (ccX9_enter hM hc2) hM.1 ⟨by decide, rfl⟩ (by decide) rfl rfl (Nat.le_of_ble_eq_true rfl) (LQ.cs hQ) (fun v τ hp => ?_)
  obtain ⟨rfl, rfl⟩ := hp
  change WW X _ 420 [.ref 900010, .ref 0, .ref 101, .int x3] [.int w, .int w] _
  refine ww_icmp_eq C dL_law_420 1064 rfl (fun _ => ?_) (fun hc => absurd rfl hc)
  exact k _ _ _ _ _ ⟨⟨rh, ph, hS⟩, hM, hB⟩ hI
set_option maxRecDepth 100000 in
set_option maxHeartbeats 4000000 in
theorem lc_9 {X : CT} {adr : Nat → Nat} {b L i : Nat} {xs : Nat → Int32} {x3 : Int32} {h : HI} {r : Nat → Nat → Option Nat} {hh hs : Nat} {bh : Nat → Nat} {Inv : HI → Nat → Nat → (Nat → Nat) → Prop} (C : CX X RL cL_law 4 1000) (hZ : SZX X adr) (hX : LX X adr b L xs) (hQ : LQ X b) (hL : L ≤ 3072) (hi : i + 6 ≤ L) (e3 : x3 = nI i) (hR : RI r hh hs hh bh) (hP : StepOK Inv 9 (xs (i + 1)) (xs (i + 2)) (xs (i + 3)) (xs (i + 4)) (xs (i + 5)) h hh hs bh) (k : ∀ (h2 : HI) (r2 : Nat → Nat → Option Nat) (hh2 hs2 : Nat) (bh2 : Nat → Nat), RI r2 hh2 hs2 hh2 bh2 → Inv h2 hh2 hs2 bh2 → WW X (SHF, adr, 155, 553683) 1064 [.ref 900010, .ref 0, .ref 101, .int x3] [] (mk h2 r2)) : WW X (SHF, adr, 155, 553683) 425 [.ref 900010, .ref 0, .ref 101, .int x3] [] (mk h r) := by
  obtain ⟨w, h1, h2, hc1, hc2, hI⟩ := hP
  obtain ⟨⟨rh, ph, hS⟩, hM, hB⟩ := hR
  refine ww_aload_n C dL_law_425 1 rfl rfl ?_
  refine ww_aload_n C dL_law_426 0 rfl rfl ?_
  refine ww_iload_n C dL_law_427 3 rfl rfl ?_
  refine ww_iconst (v := (1 : Int32)) C dL_law_428 (by decide) ?_
  refine ww_iadd C dL_law_429 ?_
  refine ww_sld C hX dL_law_430 (sx_in hi hL e3 1 (by decide)) (i + 1) (sx_n hi hL e3 1 (by decide)) ?_
  refine ww_callV C hZ dL_law_431 cw_L_53 (ccX8_stay hS hc1) hS.1 ⟨by decide, rfl⟩ (by decide) rfl rfl (Nat.le_of_ble_eq_true rfl) (LQ.cs hQ) (fun v τ hp => ?_)
  obtain ⟨rfl, rfl⟩ := hp
  change WW X _ 434 [.ref 900010, .ref 0, .ref 101, .int x3] [.int w] _
  refine ww_aload_n C dL_law_434 2 rfl rfl ?_
  refine ww_aload_n C dL_law_435 0 rfl rfl ?_
  refine ww_iload_n C dL_law_436 3 rfl rfl ?_
  refine ww_iconst (v := (1 : Int32)) C dL_law_437 (by decide) ?_
  refine ww_iadd C dL_law_438 ?_
  refine ww_sld C hX dL_law_439 (sx_in hi hL e3 1 (by decide)) (i + 1) (sx_n hi hL e3 1 (by decide)) ?_
  refine ww_callV C hZ dL_law_440 cw_L_56 (ccX9_stay hM hc2) hM.1 ⟨by decide, rfl⟩ (by decide) rfl rfl (Nat.le_of_ble_eq_true rfl) (LQ.cs hQ) (fun v τ hp => ?_)
  obtain ⟨rfl, rfl⟩ := hp
  change WW X _ 443 [.ref 900010, .ref 0, .ref 101, .int x3] [.int w, .int w] _
  refine ww_icmp_eq C dL_law_443 1064 rfl (fun _ => ?_) (fun hc => absurd rfl hc)
  exact k _ _ _ _ _ ⟨⟨rh, ph, hS⟩, hM, hB⟩ hI
set_option maxRecDepth 100000 in
set_option maxHeartbeats 4000000 in
theorem lc_10 {X : CT} {adr : Nat → Nat} {b L i : Nat} {xs : Nat → Int32} {x3 : Int32} {h : HI} {r : Nat → Nat → Option Nat} {hh hs : Nat} {bh : Nat → Nat} {Inv : HI → Nat → Nat → (Nat → Nat) → Prop} (C : CX X RL cL_law 4 1000) (hZ : SZX X adr) (hX : LX X adr b L xs) (hQ : LQ X b) (hL : L ≤ 3072) (hi : i + 6 ≤ L) (e3 : x3 = nI i) (hR : RI r hh hs hh bh) (hP : StepOK Inv 10 (xs (i + 1)) (xs (i + 2)) (xs (i + 3)) (xs (i + 4)) (xs (i + 5)) h hh hs bh) (k : ∀ (h2 : HI) (r2 : Nat → Nat → Option Nat) (hh2 hs2 : Nat) (bh2 : Nat → Nat), RI r2 hh2 hs2 hh2 bh2 → Inv h2 hh2 hs2 bh2 → WW X (SHF, adr, 155, 553683) 1064 [.ref 900010, .ref 0, .ref 101, .int x3] [] (mk h2 r2)) : WW X (SHF, adr, 155, 553683) 448 [.ref 900010, .ref 0, .ref 101, .int x3] [] (mk h r) := by
  obtain ⟨w, h1, h2, hc1, hc2, hI⟩ := hP
  obtain ⟨⟨rh, ph, hS⟩, hM, hB⟩ := hR
  refine ww_aload_n C dL_law_448 1 rfl rfl ?_
  refine ww_aload_n C dL_law_449 0 rfl rfl ?_
  refine ww_iload_n C dL_law_450 3 rfl rfl ?_
  refine ww_iconst (v := (1 : Int32)) C dL_law_451 (by decide) ?_
  refine ww_iadd C dL_law_452 ?_
  refine ww_sld C hX dL_law_453 (sx_in hi hL e3 1 (by decide)) (i + 1) (sx_n hi hL e3 1 (by decide)) ?_
  refine ww_aload_n C dL_law_454 0 rfl rfl ?_
  refine ww_iload_n C dL_law_455 3 rfl rfl ?_
  refine ww_iconst (v := (2 : Int32)) C dL_law_456 (by decide) ?_
  refine ww_iadd C dL_law_457 ?_
  refine ww_sld C hX dL_law_458 (sx_in hi hL e3 2 (by decide)) (i + 2) (sx_n hi hL e3 2 (by decide)) ?_
  refine ww_if_eq C dL_law_459 466 rfl (fun hc => ?_) (fun hc => ?_)
  · rw [if_pos hc] at hc1 hc2
    refine ww_iconst (v := (0 : Int32)) C dL_law_466 (by decide) ?_
    refine ww_callV C hZ dL_law_467 cw_L_57 (ccX8_crack hS hc1) hS.1 ⟨by decide, rfl⟩ (by decide) rfl rfl (Nat.le_of_ble_eq_true rfl) (LQ.cs hQ) (fun v τ hp => ?_)
    obtain ⟨rfl, rfl⟩ := hp
    change WW X _ 470 [.ref 900010, .ref 0, .ref 101, .int x3] [.int w] _
    refine ww_aload_n C dL_law_470 2 rfl rfl ?_
    refine ww_aload_n C dL_law_471 0 rfl rfl ?_
    refine ww_iload_n C dL_law_472 3 rfl rfl ?_
    refine ww_iconst (v := (1 : Int32)) C dL_law_473 (by decide) ?_
    refine ww_iadd C dL_law_474 ?_
    refine ww_sld C hX dL_law_475 (sx_in hi hL e3 1 (by decide)) (i + 1) (sx_n hi hL e3 1 (by decide)) ?_
    refine ww_aload_n C dL_law_476 0 rfl rfl ?_
    refine ww_iload_n C dL_law_477 3 rfl rfl ?_
    refine ww_iconst (v := (2 : Int32)) C dL_law_478 (by decide) ?_
    refine ww_iadd C dL_law_479 ?_
    refine ww_sld C hX dL_law_480 (sx_in hi hL e3 2 (by decide)) (i + 2) (sx_n hi hL e3 2 (by decide)) ?_
    refine ww_if_eq C dL_law_481 488 rfl (fun _ => ?_) (fun hn => absurd hc hn)
    refine ww_iconst (v := (0 : Int32)) C dL_law_488 (by decide) ?_
    refine ww_callV C hZ dL_law_489 cw_L_61 (ccX9_crack hM hc2) hM.1 ⟨by decide, rfl⟩ (by decide) rfl rfl (Nat.le_of_ble_eq_true rfl) (LQ.cs hQ) (fun v τ hp => ?_)
    obtain ⟨rfl, rfl⟩ := hp
    change WW X _ 492 [.ref 900010, .ref 0, .ref 101, .int x3] [.int w, .int w] _
    refine ww_icmp_eq C dL_law_492 1064 rfl (fun _ => ?_) (fun hc => absurd rfl hc)
    exact k _ _ _ _ _ ⟨⟨rh, ph, hS⟩, hM, hB⟩ hI
  · rw [if_neg hc] at hc1 hc2
    refine ww_iconst (v := (1 : Int32)) C dL_law_462 (by decide) ?_
    refine ww_goto C dL_law_463 467 rfl ?_
    refine ww_callV C hZ dL_law_467 cw_L_57 (ccX8_crack hS hc1) hS.1 ⟨by decide, rfl⟩ (by decide) rfl rfl (Nat.le_of_ble_eq_true rfl) (LQ.cs hQ) (fun v τ hp => ?_)
    obtain ⟨rfl, rfl⟩ := hp
    change WW X _ 470 [.ref 900010, .ref 0, .ref 101, .int x3] [.int w] _
    refine ww_aload_n C dL_law_470 2 rfl rfl ?_
    refine ww_aload_n C dL_law_471 0 rfl rfl ?_
    refine ww_iload_n C dL_law_472 3 rfl rfl ?_
    refine ww_iconst (v := (1 : Int32)) C dL_law_473 (by decide) ?_
    refine ww_iadd C dL_law_474 ?_
    refine ww_sld C hX dL_law_475 (sx_in hi hL e3 1 (by decide)) (i + 1) (sx_n hi hL e3 1 (by decide)) ?_
    refine ww_aload_n C dL_law_476 0 rfl rfl ?_
    refine ww_iload_n C dL_law_477 3 rfl rfl ?_
    refine ww_iconst (v := (2 : Int32)) C dL_law_478 (by decide) ?_
    refine ww_iadd C dL_law_479 ?_
    refine ww_sld C hX dL_law_480 (sx_in hi hL e3 2 (by decide)) (i + 2) (sx_n hi hL e3 2 (by decide)) ?_
    refine ww_if_eq C dL_law_481 488 rfl (fun hn => absurd hn hc) (fun _ => ?_)
    refine ww_iconst (v := (1 : Int32)) C dL_law_484 (by decide) ?_
    refine ww_goto C dL_law_485 489 rfl ?_
    refine ww_callV C hZ dL_law_489 cw_L_61 (ccX9_crack hM hc2) hM.1 ⟨by decide, rfl⟩ (by decide) rfl rfl (Nat.le_of_ble_eq_true rfl) (LQ.cs hQ) (fun v τ hp => ?_)
    obtain ⟨rfl, rfl⟩ := hp
    change WW X _ 492 [.ref 900010, .ref 0, .ref 101, .int x3] [.int w, .int w] _
    refine ww_icmp_eq C dL_law_492 1064 rfl (fun _ => ?_) (fun hc => absurd rfl hc)
    exact k _ _ _ _ _ ⟨⟨rh, ph, hS⟩, hM, hB⟩ hI
set_option maxRecDepth 100000 in
set_option maxHeartbeats 4000000 in
theorem lc_11 {X : CT} {adr : Nat → Nat} {b L i : Nat} {xs : Nat → Int32} {x3 : Int32} {h : HI} {r : Nat → Nat → Option Nat} {hh hs : Nat} {bh : Nat → Nat} {Inv : HI → Nat → Nat → (Nat → Nat) → Prop} (C : CX X RL cL_law 4 1000) (hZ : SZX X adr) (hX : LX X adr b L xs) (hQ : LQ X b) (hL : L ≤ 3072) (hi : i + 6 ≤ L) (e3 : x3 = nI i) (hR : RI r hh hs hh bh) (hP : StepOK Inv 11 (xs (i + 1)) (xs (i + 2)) (xs (i + 3)) (xs (i + 4)) (xs (i + 5)) h hh hs bh) (k : ∀ (h2 : HI) (r2 : Nat → Nat → Option Nat) (hh2 hs2 : Nat) (bh2 : Nat → Nat), RI r2 hh2 hs2 hh2 bh2 → Inv h2 hh2 hs2 bh2 → WW X (SHF, adr, 155, 553683) 1064 [.ref 900010, .ref 0, .ref 101, .int x3] [] (mk h2 r2)) : WW X (SHF, adr, 155, 553683) 497 [.ref 900010, .ref 0, .ref 101, .int x3] [] (mk h r) := by
  obtain ⟨w, h1, h2, hc1, hc2, hI⟩ := hP
  obtain ⟨⟨rh, ph, hS⟩, hM, hB⟩ := hR
  refine ww_aload_n C dL_law_497 1 rfl rfl ?_
  refine ww_aload_n C dL_law_498 0 rfl rfl ?_
  refine ww_iload_n C dL_law_499 3 rfl rfl ?_
  refine ww_iconst (v := (1 : Int32)) C dL_law_500 (by decide) ?_
  refine ww_iadd C dL_law_501 ?_
  refine ww_sld C hX dL_law_502 (sx_in hi hL e3 1 (by decide)) (i + 1) (sx_n hi hL e3 1 (by decide)) ?_
  refine ww_callV C hZ dL_law_503 cw_L_62 (ccX8_found hS hc1) hS.1 ⟨by decide, rfl⟩ (by decide) rfl rfl (Nat.le_of_ble_eq_true rfl) (LQ.cs hQ) (fun v τ hp => ?_)
  obtain ⟨rfl, rfl⟩ := hp
  change WW X _ 506 [.ref 900010, .ref 0, .ref 101, .int x3] [.int w] _
  refine ww_aload_n C dL_law_506 2 rfl rfl ?_
  refine ww_aload_n C dL_law_507 0 rfl rfl ?_
  refine ww_iload_n C dL_law_508 3 rfl rfl ?_
  refine ww_iconst (v := (1 : Int32)) C dL_law_509 (by decide) ?_
  refine ww_iadd C dL_law_510 ?_
  refine ww_sld C hX dL_law_511 (sx_in hi hL e3 1 (by decide)) (i + 1) (sx_n hi hL e3 1 (by decide)) ?_
  refine ww_callV C hZ dL_law_512 cw_L_66 (ccX9_found hM hc2) hM.1 ⟨by decide, rfl⟩ (by decide) rfl rfl (Nat.le_of_ble_eq_true rfl) (LQ.cs hQ) (fun v τ hp => ?_)
  obtain ⟨rfl, rfl⟩ := hp
  change WW X _ 515 [.ref 900010, .ref 0, .ref 101, .int x3] [.int w, .int w] _
  refine ww_icmp_eq C dL_law_515 1064 rfl (fun _ => ?_) (fun hc => absurd rfl hc)
  exact k _ _ _ _ _ ⟨⟨rh, ph, hS⟩, hM, hB⟩ hI
set_option maxRecDepth 100000 in
set_option maxHeartbeats 4000000 in
theorem lc_12 {X : CT} {adr : Nat → Nat} {b L i : Nat} {xs : Nat → Int32} {x3 : Int32} {h : HI} {r : Nat → Nat → Option Nat} {hh hs : Nat} {bh : Nat → Nat} {Inv : HI → Nat → Nat → (Nat → Nat) → Prop} (C : CX X RL cL_law 4 1000) (hZ : SZX X adr) (hX : LX X adr b L xs) (hQ : LQ X b) (hL : L ≤ 3072) (hi : i + 6 ≤ L) (e3 : x3 = nI i) (hR : RI r hh hs hh bh) (hP : StepOK Inv 12 (xs (i + 1)) (xs (i + 2)) (xs (i + 3)) (xs (i + 4)) (xs (i + 5)) h hh hs bh) (k : ∀ (h2 : HI) (r2 : Nat → Nat → Option Nat) (hh2 hs2 : Nat) (bh2 : Nat → Nat), RI r2 hh2 hs2 hh2 bh2 → Inv h2 hh2 hs2 bh2 → WW X (SHF, adr, 155, 553683) 1064 [.ref 900010, .ref 0, .ref 101, .int x3] [] (mk h2 r2)) : WW X (SHF, adr, 155, 553683) 520 [.ref 900010, .ref 0, .ref 101, .int x3] [] (mk h r) := by
  obtain ⟨w, h1, h2, hc1, hc2, hI⟩ := hP
  obtain ⟨⟨rh, ph, hS⟩, hM, hB⟩ := hR
  refine ww_aload_n C dL_law_520 1 rfl rfl ?_
  refine ww_aload_n C dL_law_521 0 rfl rfl ?_
  refine ww_iload_n C dL_law_522 3 rfl rfl ?_
  refine ww_iconst (v := (1 : Int32)) C dL_law_523 (by decide) ?_
  refine ww_iadd C dL_law_524 ?_
  refine ww_sld C hX dL_law_525 (sx_in hi hL e3 1 (by decide)) (i + 1) (sx_n hi hL e3 1 (by decide)) ?_
  refine ww_aload_n C dL_law_526 0 rfl rfl ?_
  refine ww_iload_n C dL_law_527 3 rfl rfl ?_
  refine ww_iconst (v := (2 : Int32)) C dL_law_528 (by decide) ?_
  refine ww_iadd C dL_law_529 ?_
  refine ww_sld C hX dL_law_530 (sx_in hi hL e3 2 (by decide)) (i + 2) (sx_n hi hL e3 2 (by decide)) ?_
  refine ww_callV C hZ dL_law_531 cw_L_67 (ccX8_man hS hc1) hS.1 ⟨by decide, rfl⟩ (by decide) rfl rfl (Nat.le_of_ble_eq_true rfl) (LQ.cs hQ) (fun v τ hp => ?_)
  obtain ⟨rfl, rfl⟩ := hp
  change WW X _ 534 [.ref 900010, .ref 0, .ref 101, .int x3] [.int w] _
  refine ww_aload_n C dL_law_534 2 rfl rfl ?_
  refine ww_aload_n C dL_law_535 0 rfl rfl ?_
  refine ww_iload_n C dL_law_536 3 rfl rfl ?_
  refine ww_iconst (v := (1 : Int32)) C dL_law_537 (by decide) ?_
  refine ww_iadd C dL_law_538 ?_
  refine ww_sld C hX dL_law_539 (sx_in hi hL e3 1 (by decide)) (i + 1) (sx_n hi hL e3 1 (by decide)) ?_
  refine ww_aload_n C dL_law_540 0 rfl rfl ?_
  refine ww_iload_n C dL_law_541 3 rfl rfl ?_
  refine ww_iconst (v := (2 : Int32)) C dL_law_542 (by decide) ?_
  refine ww_iadd C dL_law_543 ?_
  refine ww_sld C hX dL_law_544 (sx_in hi hL e3 2 (by decide)) (i + 2) (sx_n hi hL e3 2 (by decide)) ?_
  refine ww_callV C hZ dL_law_545 cw_L_70 (ccX9_man hM hc2) hM.1 ⟨by decide, rfl⟩ (by decide) rfl rfl (Nat.le_of_ble_eq_true rfl) (LQ.cs hQ) (fun v τ hp => ?_)
  obtain ⟨rfl, rfl⟩ := hp
  change WW X _ 548 [.ref 900010, .ref 0, .ref 101, .int x3] [.int w, .int w] _
  refine ww_icmp_eq C dL_law_548 1064 rfl (fun _ => ?_) (fun hc => absurd rfl hc)
  exact k _ _ _ _ _ ⟨⟨rh, ph, hS⟩, hM, hB⟩ hI
set_option maxRecDepth 100000 in
set_option maxHeartbeats 4000000 in
theorem lc_13 {X : CT} {adr : Nat → Nat} {b L i : Nat} {xs : Nat → Int32} {x3 : Int32} {h : HI} {r : Nat → Nat → Option Nat} {hh hs : Nat} {bh : Nat → Nat} {Inv : HI → Nat → Nat → (Nat → Nat) → Prop} (C : CX X RL cL_law 4 1000) (hZ : SZX X adr) (hX : LX X adr b L xs) (hQ : LQ X b) (hL : L ≤ 3072) (hi : i + 6 ≤ L) (e3 : x3 = nI i) (hR : RI r hh hs hh bh) (hP : StepOK Inv 13 (xs (i + 1)) (xs (i + 2)) (xs (i + 3)) (xs (i + 4)) (xs (i + 5)) h hh hs bh) (k : ∀ (h2 : HI) (r2 : Nat → Nat → Option Nat) (hh2 hs2 : Nat) (bh2 : Nat → Nat), RI r2 hh2 hs2 hh2 bh2 → Inv h2 hh2 hs2 bh2 → WW X (SHF, adr, 155, 553683) 1064 [.ref 900010, .ref 0, .ref 101, .int x3] [] (mk h2 r2)) : WW X (SHF, adr, 155, 553683) 553 [.ref 900010, .ref 0, .ref 101, .int x3] [] (mk h r) := by
  obtain ⟨w, h1, h2, hc1, hc2, hI⟩ := hP
  obtain ⟨⟨rh, ph, hS⟩, hM, hB⟩ := hR
  refine ww_aload_n C dL_law_553 1 rfl rfl ?_
  refine ww_aload_n C dL_law_554 0 rfl rfl ?_
  refine ww_iload_n C dL_law_555 3 rfl rfl ?_
  refine ww_iconst (v := (1 : Int32)) C dL_law_556 (by decide) ?_
  refine ww_iadd C dL_law_557 ?_
  refine ww_sld C hX dL_law_558 (sx_in hi hL e3 1 (by decide)) (i + 1) (sx_n hi hL e3 1 (by decide)) ?_
  refine ww_aload_n C dL_law_559 0 rfl rfl ?_
  refine ww_iload_n C dL_law_560 3 rfl rfl ?_
  refine ww_iconst (v := (2 : Int32)) C dL_law_561 (by decide) ?_
  refine ww_iadd C dL_law_562 ?_
  refine ww_sld C hX dL_law_563 (sx_in hi hL e3 2 (by decide)) (i + 2) (sx_n hi hL e3 2 (by decide)) ?_
  refine ww_callV C hZ dL_law_564 cw_L_71 (ccX8_chair hS hc1) hS.1 ⟨by decide, rfl⟩ (by decide) rfl rfl (Nat.le_of_ble_eq_true rfl) (LQ.cs hQ) (fun v τ hp => ?_)
  obtain ⟨rfl, rfl⟩ := hp
  change WW X _ 567 [.ref 900010, .ref 0, .ref 101, .int x3] [.int w] _
  refine ww_aload_n C dL_law_567 2 rfl rfl ?_
  refine ww_aload_n C dL_law_568 0 rfl rfl ?_
  refine ww_iload_n C dL_law_569 3 rfl rfl ?_
  refine ww_iconst (v := (1 : Int32)) C dL_law_570 (by decide) ?_
  refine ww_iadd C dL_law_571 ?_
  refine ww_sld C hX dL_law_572 (sx_in hi hL e3 1 (by decide)) (i + 1) (sx_n hi hL e3 1 (by decide)) ?_
  refine ww_aload_n C dL_law_573 0 rfl rfl ?_
  refine ww_iload_n C dL_law_574 3 rfl rfl ?_
  refine ww_iconst (v := (2 : Int32)) C dL_law_575 (by decide) ?_
  refine ww_iadd C dL_law_576 ?_
  refine ww_sld C hX dL_law_577 (sx_in hi hL e3 2 (by decide)) (i + 2) (sx_n hi hL e3 2 (by decide)) ?_
  refine ww_callV C hZ dL_law_578 cw_L_74 (ccX9_chair hM hc2) hM.1 ⟨by decide, rfl⟩ (by decide) rfl rfl (Nat.le_of_ble_eq_true rfl) (LQ.cs hQ) (fun v τ hp => ?_)
  obtain ⟨rfl, rfl⟩ := hp
  change WW X _ 581 [.ref 900010, .ref 0, .ref 101, .int x3] [.int w, .int w] _
  refine ww_icmp_eq C dL_law_581 1064 rfl (fun _ => ?_) (fun hc => absurd rfl hc)
  exact k _ _ _ _ _ ⟨⟨rh, ph, hS⟩, hM, hB⟩ hI
set_option maxRecDepth 100000 in
set_option maxHeartbeats 4000000 in
theorem lc_14 {X : CT} {adr : Nat → Nat} {b L i : Nat} {xs : Nat → Int32} {x3 : Int32} {h : HI} {r : Nat → Nat → Option Nat} {hh hs : Nat} {bh : Nat → Nat} {Inv : HI → Nat → Nat → (Nat → Nat) → Prop} (C : CX X RL cL_law 4 1000) (hZ : SZX X adr) (hX : LX X adr b L xs) (hQ : LQ X b) (hL : L ≤ 3072) (hi : i + 6 ≤ L) (e3 : x3 = nI i) (hR : RI r hh hs hh bh) (hP : StepOK Inv 14 (xs (i + 1)) (xs (i + 2)) (xs (i + 3)) (xs (i + 4)) (xs (i + 5)) h hh hs bh) (k : ∀ (h2 : HI) (r2 : Nat → Nat → Option Nat) (hh2 hs2 : Nat) (bh2 : Nat → Nat), RI r2 hh2 hs2 hh2 bh2 → Inv h2 hh2 hs2 bh2 → WW X (SHF, adr, 155, 553683) 1064 [.ref 900010, .ref 0, .ref 101, .int x3] [] (mk h2 r2)) : WW X (SHF, adr, 155, 553683) 586 [.ref 900010, .ref 0, .ref 101, .int x3] [] (mk h r) := by
  obtain ⟨w, h1, h2, hc1, hc2, hI⟩ := hP
  obtain ⟨⟨rh, ph, hS⟩, hM, hB⟩ := hR
  refine ww_aload_n C dL_law_586 1 rfl rfl ?_
  refine ww_aload_n C dL_law_587 0 rfl rfl ?_
  refine ww_iload_n C dL_law_588 3 rfl rfl ?_
  refine ww_iconst (v := (1 : Int32)) C dL_law_589 (by decide) ?_
  refine ww_iadd C dL_law_590 ?_
  refine ww_sld C hX dL_law_591 (sx_in hi hL e3 1 (by decide)) (i + 1) (sx_n hi hL e3 1 (by decide)) ?_
  refine ww_aload_n C dL_law_592 0 rfl rfl ?_
  refine ww_iload_n C dL_law_593 3 rfl rfl ?_
  refine ww_iconst (v := (2 : Int32)) C dL_law_594 (by decide) ?_
  refine ww_iadd C dL_law_595 ?_
  refine ww_sld C hX dL_law_596 (sx_in hi hL e3 2 (by decide)) (i + 2) (sx_n hi hL e3 2 (by decide)) ?_
  refine ww_callV C hZ dL_law_597 cw_L_75 (ccX8_matter hS hc1) hS.1 ⟨by decide, rfl⟩ (by decide) rfl rfl (Nat.le_of_ble_eq_true rfl) (LQ.cs hQ) (fun v τ hp => ?_)
  obtain ⟨rfl, rfl⟩ := hp
  change WW X _ 600 [.ref 900010, .ref 0, .ref 101, .int x3] [.int w] _
  refine ww_aload_n C dL_law_600 2 rfl rfl ?_
  refine ww_aload_n C dL_law_601 0 rfl rfl ?_
  refine ww_iload_n C dL_law_602 3 rfl rfl ?_
  refine ww_iconst (v := (1 : Int32)) C dL_law_603 (by decide) ?_
  refine ww_iadd C dL_law_604 ?_
  refine ww_sld C hX dL_law_605 (sx_in hi hL e3 1 (by decide)) (i + 1) (sx_n hi hL e3 1 (by decide)) ?_
  refine ww_aload_n C dL_law_606 0 rfl rfl ?_
  refine ww_iload_n C dL_law_607 3 rfl rfl ?_
  refine ww_iconst (v := (2 : Int32)) C dL_law_608 (by decide) ?_
  refine ww_iadd C dL_law_609 ?_
  refine ww_sld C hX dL_law_610 (sx_in hi hL e3 2 (by decide)) (i + 2) (sx_n hi hL e3 2 (by decide)) ?_
  refine ww_callV C hZ dL_law_611 cw_L_78 (ccX9_matter hM hc2) hM.1 ⟨by decide, rfl⟩ (by decide) rfl rfl (Nat.le_of_ble_eq_true rfl) (LQ.cs hQ) (fun v τ hp => ?_)
  obtain ⟨rfl, rfl⟩ := hp
  change WW X _ 614 [.ref 900010, .ref 0, .ref 101, .int x3] [.int w, .int w] _
  refine ww_icmp_eq C dL_law_614 1064 rfl (fun _ => ?_) (fun hc => absurd rfl hc)
  exact k _ _ _ _ _ ⟨⟨rh, ph, hS⟩, hM, hB⟩ hI
set_option maxRecDepth 100000 in
set_option maxHeartbeats 4000000 in
theorem lc_15 {X : CT} {adr : Nat → Nat} {b L i : Nat} {xs : Nat → Int32} {x3 : Int32} {h : HI} {r : Nat → Nat → Option Nat} {hh hs : Nat} {bh : Nat → Nat} {Inv : HI → Nat → Nat → (Nat → Nat) → Prop} (C : CX X RL cL_law 4 1000) (hZ : SZX X adr) (hX : LX X adr b L xs) (hQ : LQ X b) (hL : L ≤ 3072) (hi : i + 6 ≤ L) (e3 : x3 = nI i) (hR : RI r hh hs hh bh) (hP : StepOK Inv 15 (xs (i + 1)) (xs (i + 2)) (xs (i + 3)) (xs (i + 4)) (xs (i + 5)) h hh hs bh) (k : ∀ (h2 : HI) (r2 : Nat → Nat → Option Nat) (hh2 hs2 : Nat) (bh2 : Nat → Nat), RI r2 hh2 hs2 hh2 bh2 → Inv h2 hh2 hs2 bh2 → WW X (SHF, adr, 155, 553683) 1064 [.ref 900010, .ref 0, .ref 101, .int x3] [] (mk h2 r2)) : WW X (SHF, adr, 155, 553683) 619 [.ref 900010, .ref 0, .ref 101, .int x3] [] (mk h r) := by
  obtain ⟨w, h1, h2, hc1, hc2, hI⟩ := hP
  obtain ⟨⟨rh, ph, hS⟩, hM, hB⟩ := hR
  refine ww_aload_n C dL_law_619 1 rfl rfl ?_
  refine ww_aload_n C dL_law_620 0 rfl rfl ?_
  refine ww_iload_n C dL_law_621 3 rfl rfl ?_
  refine ww_iconst (v := (1 : Int32)) C dL_law_622 (by decide) ?_
  refine ww_iadd C dL_law_623 ?_
  refine ww_sld C hX dL_law_624 (sx_in hi hL e3 1 (by decide)) (i + 1) (sx_n hi hL e3 1 (by decide)) ?_
  refine ww_callV C hZ dL_law_625 cw_L_79 (ccX8_deal hS hc1) hS.1 ⟨by decide, rfl⟩ (by decide) rfl rfl (Nat.le_of_ble_eq_true rfl) (LQ.cs hQ) (fun v τ hp => ?_)
  obtain ⟨rfl, rfl⟩ := hp
  change WW X _ 628 [.ref 900010, .ref 0, .ref 101, .int x3] [.int w] _
  refine ww_aload_n C dL_law_628 2 rfl rfl ?_
  refine ww_aload_n C dL_law_629 0 rfl rfl ?_
  refine ww_iload_n C dL_law_630 3 rfl rfl ?_
  refine ww_iconst (v := (1 : Int32)) C dL_law_631 (by decide) ?_
  refine ww_iadd C dL_law_632 ?_
  refine ww_sld C hX dL_law_633 (sx_in hi hL e3 1 (by decide)) (i + 1) (sx_n hi hL e3 1 (by decide)) ?_
  refine ww_callV C hZ dL_law_634 cw_L_82 (ccX9_deal hM hc2) hM.1 ⟨by decide, rfl⟩ (by decide) rfl rfl (Nat.le_of_ble_eq_true rfl) (LQ.cs hQ) (fun v τ hp => ?_)
  obtain ⟨rfl, rfl⟩ := hp
  change WW X _ 637 [.ref 900010, .ref 0, .ref 101, .int x3] [.int w, .int w] _
  refine ww_icmp_eq C dL_law_637 1064 rfl (fun _ => ?_) (fun hc => absurd rfl hc)
  exact k _ _ _ _ _ ⟨⟨rh, ph, hS⟩, hM, hB⟩ hI
set_option maxRecDepth 100000 in
set_option maxHeartbeats 4000000 in
theorem lc_16 {X : CT} {adr : Nat → Nat} {b L i : Nat} {xs : Nat → Int32} {x3 : Int32} {h : HI} {r : Nat → Nat → Option Nat} {hh hs : Nat} {bh : Nat → Nat} {Inv : HI → Nat → Nat → (Nat → Nat) → Prop} (C : CX X RL cL_law 4 1000) (hZ : SZX X adr) (hX : LX X adr b L xs) (hQ : LQ X b) (hL : L ≤ 3072) (hi : i + 6 ≤ L) (e3 : x3 = nI i) (hR : RI r hh hs hh bh) (hP : StepOK Inv 16 (xs (i + 1)) (xs (i + 2)) (xs (i + 3)) (xs (i + 4)) (xs (i + 5)) h hh hs bh) (k : ∀ (h2 : HI) (r2 : Nat → Nat → Option Nat) (hh2 hs2 : Nat) (bh2 : Nat → Nat), RI r2 hh2 hs2 hh2 bh2 → Inv h2 hh2 hs2 bh2 → WW X (SHF, adr, 155, 553683) 1064 [.ref 900010, .ref 0, .ref 101, .int x3] [] (mk h2 r2)) : WW X (SHF, adr, 155, 553683) 642 [.ref 900010, .ref 0, .ref 101, .int x3] [] (mk h r) := by
  obtain ⟨w, h1, h2, hc1, hc2, hI⟩ := hP
  obtain ⟨⟨rh, ph, hS⟩, hM, hB⟩ := hR
  refine ww_aload_n C dL_law_642 1 rfl rfl ?_
  refine ww_aload_n C dL_law_643 0 rfl rfl ?_
  refine ww_iload_n C dL_law_644 3 rfl rfl ?_
  refine ww_iconst (v := (1 : Int32)) C dL_law_645 (by decide) ?_
  refine ww_iadd C dL_law_646 ?_
  refine ww_sld C hX dL_law_647 (sx_in hi hL e3 1 (by decide)) (i + 1) (sx_n hi hL e3 1 (by decide)) ?_
  refine ww_aload_n C dL_law_648 0 rfl rfl ?_
  refine ww_iload_n C dL_law_649 3 rfl rfl ?_
  refine ww_iconst (v := (2 : Int32)) C dL_law_650 (by decide) ?_
  refine ww_iadd C dL_law_651 ?_
  refine ww_sld C hX dL_law_652 (sx_in hi hL e3 2 (by decide)) (i + 2) (sx_n hi hL e3 2 (by decide)) ?_
  refine ww_callV C hZ dL_law_653 cw_L_83 (ccX8_voted hS hc1) hS.1 ⟨by decide, rfl⟩ (by decide) rfl rfl (Nat.le_of_ble_eq_true rfl) (LQ.cs hQ) (fun v τ hp => ?_)
  obtain ⟨rfl, rfl⟩ := hp
  change WW X _ 656 [.ref 900010, .ref 0, .ref 101, .int x3] [.int w] _
  refine ww_aload_n C dL_law_656 2 rfl rfl ?_
  refine ww_aload_n C dL_law_657 0 rfl rfl ?_
  refine ww_iload_n C dL_law_658 3 rfl rfl ?_
  refine ww_iconst (v := (1 : Int32)) C dL_law_659 (by decide) ?_
  refine ww_iadd C dL_law_660 ?_
  refine ww_sld C hX dL_law_661 (sx_in hi hL e3 1 (by decide)) (i + 1) (sx_n hi hL e3 1 (by decide)) ?_
  refine ww_aload_n C dL_law_662 0 rfl rfl ?_
  refine ww_iload_n C dL_law_663 3 rfl rfl ?_
  refine ww_iconst (v := (2 : Int32)) C dL_law_664 (by decide) ?_
  refine ww_iadd C dL_law_665 ?_
  refine ww_sld C hX dL_law_666 (sx_in hi hL e3 2 (by decide)) (i + 2) (sx_n hi hL e3 2 (by decide)) ?_
  refine ww_callV C hZ dL_law_667 cw_L_86 (ccX9_voted hM hc2) hM.1 ⟨by decide, rfl⟩ (by decide) rfl rfl (Nat.le_of_ble_eq_true rfl) (LQ.cs hQ) (fun v τ hp => ?_)
  obtain ⟨rfl, rfl⟩ := hp
  change WW X _ 670 [.ref 900010, .ref 0, .ref 101, .int x3] [.int w, .int w] _
  refine ww_icmp_eq C dL_law_670 1064 rfl (fun _ => ?_) (fun hc => absurd rfl hc)
  exact k _ _ _ _ _ ⟨⟨rh, ph, hS⟩, hM, hB⟩ hI
set_option maxRecDepth 100000 in
set_option maxHeartbeats 4000000 in
theorem lc_17 {X : CT} {adr : Nat → Nat} {b L i : Nat} {xs : Nat → Int32} {x3 : Int32} {h : HI} {r : Nat → Nat → Option Nat} {hh hs : Nat} {bh : Nat → Nat} {Inv : HI → Nat → Nat → (Nat → Nat) → Prop} (C : CX X RL cL_law 4 1000) (hZ : SZX X adr) (hX : LX X adr b L xs) (hQ : LQ X b) (hL : L ≤ 3072) (hi : i + 6 ≤ L) (e3 : x3 = nI i) (hR : RI r hh hs hh bh) (hP : StepOK Inv 17 (xs (i + 1)) (xs (i + 2)) (xs (i + 3)) (xs (i + 4)) (xs (i + 5)) h hh hs bh) (k : ∀ (h2 : HI) (r2 : Nat → Nat → Option Nat) (hh2 hs2 : Nat) (bh2 : Nat → Nat), RI r2 hh2 hs2 hh2 bh2 → Inv h2 hh2 hs2 bh2 → WW X (SHF, adr, 155, 553683) 1064 [.ref 900010, .ref 0, .ref 101, .int x3] [] (mk h2 r2)) : WW X (SHF, adr, 155, 553683) 675 [.ref 900010, .ref 0, .ref 101, .int x3] [] (mk h r) := by
  obtain ⟨w, h1, h2, hc1, hc2, hI⟩ := hP
  obtain ⟨⟨rh, ph, hS⟩, hM, hB⟩ := hR
  refine ww_aload_n C dL_law_675 1 rfl rfl ?_
  refine ww_aload_n C dL_law_676 0 rfl rfl ?_
  refine ww_iload_n C dL_law_677 3 rfl rfl ?_
  refine ww_iconst (v := (1 : Int32)) C dL_law_678 (by decide) ?_
  refine ww_iadd C dL_law_679 ?_
  refine ww_sld C hX dL_law_680 (sx_in hi hL e3 1 (by decide)) (i + 1) (sx_n hi hL e3 1 (by decide)) ?_
  refine ww_aload_n C dL_law_681 0 rfl rfl ?_
  refine ww_iload_n C dL_law_682 3 rfl rfl ?_
  refine ww_iconst (v := (2 : Int32)) C dL_law_683 (by decide) ?_
  refine ww_iadd C dL_law_684 ?_
  refine ww_sld C hX dL_law_685 (sx_in hi hL e3 2 (by decide)) (i + 2) (sx_n hi hL e3 2 (by decide)) ?_
  refine ww_callV C hZ dL_law_686 cw_L_87 (ccX8_sat hS hc1) hS.1 ⟨by decide, rfl⟩ (by decide) rfl rfl (Nat.le_of_ble_eq_true rfl) (LQ.cs hQ) (fun v τ hp => ?_)
  obtain ⟨rfl, rfl⟩ := hp
  change WW X _ 689 [.ref 900010, .ref 0, .ref 101, .int x3] [.int w] _
  refine ww_aload_n C dL_law_689 2 rfl rfl ?_
  refine ww_aload_n C dL_law_690 0 rfl rfl ?_
  refine ww_iload_n C dL_law_691 3 rfl rfl ?_
  refine ww_iconst (v := (1 : Int32)) C dL_law_692 (by decide) ?_
  refine ww_iadd C dL_law_693 ?_
  refine ww_sld C hX dL_law_694 (sx_in hi hL e3 1 (by decide)) (i + 1) (sx_n hi hL e3 1 (by decide)) ?_
  refine ww_aload_n C dL_law_695 0 rfl rfl ?_
  refine ww_iload_n C dL_law_696 3 rfl rfl ?_
  refine ww_iconst (v := (2 : Int32)) C dL_law_697 (by decide) ?_
  refine ww_iadd C dL_law_698 ?_
  refine ww_sld C hX dL_law_699 (sx_in hi hL e3 2 (by decide)) (i + 2) (sx_n hi hL e3 2 (by decide)) ?_
  refine ww_callV C hZ dL_law_700 cw_L_90 (ccX9_sat hM hc2) hM.1 ⟨by decide, rfl⟩ (by decide) rfl rfl (Nat.le_of_ble_eq_true rfl) (LQ.cs hQ) (fun v τ hp => ?_)
  obtain ⟨rfl, rfl⟩ := hp
  change WW X _ 703 [.ref 900010, .ref 0, .ref 101, .int x3] [.int w, .int w] _
  refine ww_icmp_eq C dL_law_703 1064 rfl (fun _ => ?_) (fun hc => absurd rfl hc)
  exact k _ _ _ _ _ ⟨⟨rh, ph, hS⟩, hM, hB⟩ hI
set_option maxRecDepth 100000 in
set_option maxHeartbeats 4000000 in
theorem lc_18 {X : CT} {adr : Nat → Nat} {b L i : Nat} {xs : Nat → Int32} {x3 : Int32} {h : HI} {r : Nat → Nat → Option Nat} {hh hs : Nat} {bh : Nat → Nat} {Inv : HI → Nat → Nat → (Nat → Nat) → Prop} (C : CX X RL cL_law 4 1000) (hZ : SZX X adr) (hX : LX X adr b L xs) (hQ : LQ X b) (hL : L ≤ 3072) (hi : i + 6 ≤ L) (e3 : x3 = nI i) (hR : RI r hh hs hh bh) (hP : StepOK Inv 18 (xs (i + 1)) (xs (i + 2)) (xs (i + 3)) (xs (i + 4)) (xs (i + 5)) h hh hs bh) (k : ∀ (h2 : HI) (r2 : Nat → Nat → Option Nat) (hh2 hs2 : Nat) (bh2 : Nat → Nat), RI r2 hh2 hs2 hh2 bh2 → Inv h2 hh2 hs2 bh2 → WW X (SHF, adr, 155, 553683) 1064 [.ref 900010, .ref 0, .ref 101, .int x3] [] (mk h2 r2)) : WW X (SHF, adr, 155, 553683) 708 [.ref 900010, .ref 0, .ref 101, .int x3] [] (mk h r) := by
  obtain ⟨w, h1, h2, hc1, hc2, hI⟩ := hP
  obtain ⟨⟨rh, ph, hS⟩, hM, hB⟩ := hR
  refine ww_aload_n C dL_law_708 1 rfl rfl ?_
  refine ww_aload_n C dL_law_709 0 rfl rfl ?_
  refine ww_iload_n C dL_law_710 3 rfl rfl ?_
  refine ww_iconst (v := (1 : Int32)) C dL_law_711 (by decide) ?_
  refine ww_iadd C dL_law_712 ?_
  refine ww_sld C hX dL_law_713 (sx_in hi hL e3 1 (by decide)) (i + 1) (sx_n hi hL e3 1 (by decide)) ?_
  refine ww_aload_n C dL_law_714 0 rfl rfl ?_
  refine ww_iload_n C dL_law_715 3 rfl rfl ?_
  refine ww_iconst (v := (2 : Int32)) C dL_law_716 (by decide) ?_
  refine ww_iadd C dL_law_717 ?_
  refine ww_sld C hX dL_law_718 (sx_in hi hL e3 2 (by decide)) (i + 2) (sx_n hi hL e3 2 (by decide)) ?_
  refine ww_callV C hZ dL_law_719 cw_L_91 (ccX8_best hS hc1) hS.1 ⟨by decide, rfl⟩ (by decide) rfl rfl (Nat.le_of_ble_eq_true rfl) (LQ.cs hQ) (fun v τ hp => ?_)
  obtain ⟨rfl, r9, rfl, hr9⟩ := hp
  have hR2 : RI r9 hh hs hh bh := by
    rcases hr9 with e | e
    · rw [e]; exact ⟨⟨rh, ph, hS⟩, hM, hB⟩
    · rw [e]; exact RI.pl ⟨⟨rh, ph, hS⟩, hM, hB⟩
  obtain ⟨⟨rh, ph, hS⟩, hM, hB⟩ := id hR2
  change WW X _ 722 [.ref 900010, .ref 0, .ref 101, .int x3] [.int w] _
  refine ww_aload_n C dL_law_722 2 rfl rfl ?_
  refine ww_aload_n C dL_law_723 0 rfl rfl ?_
  refine ww_iload_n C dL_law_724 3 rfl rfl ?_
  refine ww_iconst (v := (1 : Int32)) C dL_law_725 (by decide) ?_
  refine ww_iadd C dL_law_726 ?_
  refine ww_sld C hX dL_law_727 (sx_in hi hL e3 1 (by decide)) (i + 1) (sx_n hi hL e3 1 (by decide)) ?_
  refine ww_aload_n C dL_law_728 0 rfl rfl ?_
  refine ww_iload_n C dL_law_729 3 rfl rfl ?_
  refine ww_iconst (v := (2 : Int32)) C dL_law_730 (by decide) ?_
  refine ww_iadd C dL_law_731 ?_
  refine ww_sld C hX dL_law_732 (sx_in hi hL e3 2 (by decide)) (i + 2) (sx_n hi hL e3 2 (by decide)) ?_
  refine ww_callV C hZ dL_law_733 cw_L_94 (ccX9_best hM hc2) hM.1 ⟨by decide, rfl⟩ (by decide) rfl rfl (Nat.le_of_ble_eq_true rfl) (LQ.cs hQ) (fun v τ hp => ?_)
  obtain ⟨rfl, rfl⟩ := hp
  change WW X _ 736 [.ref 900010, .ref 0, .ref 101, .int x3] [.int w, .int w] _
  refine ww_icmp_eq C dL_law_736 1064 rfl (fun _ => ?_) (fun hc => absurd rfl hc)
  exact k _ _ _ _ _ hR2 hI
set_option maxRecDepth 100000 in
set_option maxHeartbeats 4000000 in
theorem lc_19 {X : CT} {adr : Nat → Nat} {b L i : Nat} {xs : Nat → Int32} {x3 : Int32} {h : HI} {r : Nat → Nat → Option Nat} {hh hs : Nat} {bh : Nat → Nat} {Inv : HI → Nat → Nat → (Nat → Nat) → Prop} (C : CX X RL cL_law 4 1000) (hZ : SZX X adr) (hX : LX X adr b L xs) (hQ : LQ X b) (hL : L ≤ 3072) (hi : i + 6 ≤ L) (e3 : x3 = nI i) (hR : RI r hh hs hh bh) (hP : StepOK Inv 19 (xs (i + 1)) (xs (i + 2)) (xs (i + 3)) (xs (i + 4)) (xs (i + 5)) h hh hs bh) (k : ∀ (h2 : HI) (r2 : Nat → Nat → Option Nat) (hh2 hs2 : Nat) (bh2 : Nat → Nat), RI r2 hh2 hs2 hh2 bh2 → Inv h2 hh2 hs2 bh2 → WW X (SHF, adr, 155, 553683) 1064 [.ref 900010, .ref 0, .ref 101, .int x3] [] (mk h2 r2)) : WW X (SHF, adr, 155, 553683) 741 [.ref 900010, .ref 0, .ref 101, .int x3] [] (mk h r) := by
  obtain ⟨w, h1, h2, hc1, hc2, hI⟩ := hP
  obtain ⟨⟨rh, ph, hS⟩, hM, hB⟩ := hR
  refine ww_aload_n C dL_law_741 1 rfl rfl ?_
  refine ww_aload_n C dL_law_742 0 rfl rfl ?_
  refine ww_iload_n C dL_law_743 3 rfl rfl ?_
  refine ww_iconst (v := (1 : Int32)) C dL_law_744 (by decide) ?_
  refine ww_iadd C dL_law_745 ?_
  refine ww_sld C hX dL_law_746 (sx_in hi hL e3 1 (by decide)) (i + 1) (sx_n hi hL e3 1 (by decide)) ?_
  refine ww_callV C hZ dL_law_747 cw_L_95 (ccX8_fewest hS hc1) hS.1 ⟨by decide, rfl⟩ (by decide) rfl rfl (Nat.le_of_ble_eq_true rfl) (LQ.cs hQ) (fun v τ hp => ?_)
  obtain ⟨rfl, r9, rfl, hr9⟩ := hp
  have hR2 : RI r9 hh hs hh bh := by
    rcases hr9 with e | e
    · rw [e]; exact ⟨⟨rh, ph, hS⟩, hM, hB⟩
    · rw [e]; exact RI.pl ⟨⟨rh, ph, hS⟩, hM, hB⟩
  obtain ⟨⟨rh, ph, hS⟩, hM, hB⟩ := id hR2
  change WW X _ 750 [.ref 900010, .ref 0, .ref 101, .int x3] [.int w] _
  refine ww_aload_n C dL_law_750 2 rfl rfl ?_
  refine ww_aload_n C dL_law_751 0 rfl rfl ?_
  refine ww_iload_n C dL_law_752 3 rfl rfl ?_
  refine ww_iconst (v := (1 : Int32)) C dL_law_753 (by decide) ?_
  refine ww_iadd C dL_law_754 ?_
  refine ww_sld C hX dL_law_755 (sx_in hi hL e3 1 (by decide)) (i + 1) (sx_n hi hL e3 1 (by decide)) ?_
  refine ww_callV C hZ dL_law_756 cw_L_98 (ccX9_fewest hM hc2) hM.1 ⟨by decide, rfl⟩ (by decide) rfl rfl (Nat.le_of_ble_eq_true rfl) (LQ.cs hQ) (fun v τ hp => ?_)
  obtain ⟨rfl, rfl⟩ := hp
  change WW X _ 759 [.ref 900010, .ref 0, .ref 101, .int x3] [.int w, .int w] _
  refine ww_icmp_eq C dL_law_759 1064 rfl (fun _ => ?_) (fun hc => absurd rfl hc)
  exact k _ _ _ _ _ hR2 hI
set_option maxRecDepth 100000 in
set_option maxHeartbeats 4000000 in
theorem lc_20 {X : CT} {adr : Nat → Nat} {b L i : Nat} {xs : Nat → Int32} {x3 : Int32} {h : HI} {r : Nat → Nat → Option Nat} {hh hs : Nat} {bh : Nat → Nat} {Inv : HI → Nat → Nat → (Nat → Nat) → Prop} (C : CX X RL cL_law 4 1000) (hZ : SZX X adr) (hX : LX X adr b L xs) (hQ : LQ X b) (hL : L ≤ 3072) (hi : i + 6 ≤ L) (e3 : x3 = nI i) (hR : RI r hh hs hh bh) (hP : StepOK Inv 20 (xs (i + 1)) (xs (i + 2)) (xs (i + 3)) (xs (i + 4)) (xs (i + 5)) h hh hs bh) (k : ∀ (h2 : HI) (r2 : Nat → Nat → Option Nat) (hh2 hs2 : Nat) (bh2 : Nat → Nat), RI r2 hh2 hs2 hh2 bh2 → Inv h2 hh2 hs2 bh2 → WW X (SHF, adr, 155, 553683) 1064 [.ref 900010, .ref 0, .ref 101, .int x3] [] (mk h2 r2)) : WW X (SHF, adr, 155, 553683) 764 [.ref 900010, .ref 0, .ref 101, .int x3] [] (mk h r) := by
  obtain ⟨w, h1, h2, hc1, hc2, hI⟩ := hP
  obtain ⟨⟨rh, ph, hS⟩, hM, hB⟩ := hR
  refine ww_aload_n C dL_law_764 1 rfl rfl ?_
  refine ww_aload_n C dL_law_765 0 rfl rfl ?_
  refine ww_iload_n C dL_law_766 3 rfl rfl ?_
  refine ww_iconst (v := (1 : Int32)) C dL_law_767 (by decide) ?_
  refine ww_iadd C dL_law_768 ?_
  refine ww_sld C hX dL_law_769 (sx_in hi hL e3 1 (by decide)) (i + 1) (sx_n hi hL e3 1 (by decide)) ?_
  refine ww_aload_n C dL_law_770 0 rfl rfl ?_
  refine ww_iload_n C dL_law_771 3 rfl rfl ?_
  refine ww_iconst (v := (2 : Int32)) C dL_law_772 (by decide) ?_
  refine ww_iadd C dL_law_773 ?_
  refine ww_sld C hX dL_law_774 (sx_in hi hL e3 2 (by decide)) (i + 2) (sx_n hi hL e3 2 (by decide)) ?_
  refine ww_callV C hZ dL_law_775 cw_L_99 (ccX8_lets hS hc1) hS.1 ⟨by decide, rfl⟩ (by decide) rfl rfl (Nat.le_of_ble_eq_true rfl) (LQ.cs hQ) (fun v τ hp => ?_)
  obtain ⟨rfl, r9, rfl, hr9⟩ := hp
  have hR2 : RI r9 hh hs hh bh := by
    rcases hr9 with e | e
    · rw [e]; exact ⟨⟨rh, ph, hS⟩, hM, hB⟩
    · rw [e]; exact RI.pl ⟨⟨rh, ph, hS⟩, hM, hB⟩
  obtain ⟨⟨rh, ph, hS⟩, hM, hB⟩ := id hR2
  change WW X _ 778 [.ref 900010, .ref 0, .ref 101, .int x3] [.int w] _
  refine ww_aload_n C dL_law_778 2 rfl rfl ?_
  refine ww_aload_n C dL_law_779 0 rfl rfl ?_
  refine ww_iload_n C dL_law_780 3 rfl rfl ?_
  refine ww_iconst (v := (1 : Int32)) C dL_law_781 (by decide) ?_
  refine ww_iadd C dL_law_782 ?_
  refine ww_sld C hX dL_law_783 (sx_in hi hL e3 1 (by decide)) (i + 1) (sx_n hi hL e3 1 (by decide)) ?_
  refine ww_aload_n C dL_law_784 0 rfl rfl ?_
  refine ww_iload_n C dL_law_785 3 rfl rfl ?_
  refine ww_iconst (v := (2 : Int32)) C dL_law_786 (by decide) ?_
  refine ww_iadd C dL_law_787 ?_
  refine ww_sld C hX dL_law_788 (sx_in hi hL e3 2 (by decide)) (i + 2) (sx_n hi hL e3 2 (by decide)) ?_
  refine ww_callV C hZ dL_law_789 cw_L_102 (ccX9_lets hM hc2) hM.1 ⟨by decide, rfl⟩ (by decide) rfl rfl (Nat.le_of_ble_eq_true rfl) (LQ.cs hQ) (fun v τ hp => ?_)
  obtain ⟨rfl, rfl⟩ := hp
  change WW X _ 792 [.ref 900010, .ref 0, .ref 101, .int x3] [.int w, .int w] _
  refine ww_icmp_eq C dL_law_792 1064 rfl (fun _ => ?_) (fun hc => absurd rfl hc)
  exact k _ _ _ _ _ hR2 hI
set_option maxRecDepth 100000 in
set_option maxHeartbeats 4000000 in
theorem lc_21 {X : CT} {adr : Nat → Nat} {b L i : Nat} {xs : Nat → Int32} {x3 : Int32} {h : HI} {r : Nat → Nat → Option Nat} {hh hs : Nat} {bh : Nat → Nat} {Inv : HI → Nat → Nat → (Nat → Nat) → Prop} (C : CX X RL cL_law 4 1000) (hZ : SZX X adr) (hX : LX X adr b L xs) (hQ : LQ X b) (hL : L ≤ 3072) (hi : i + 6 ≤ L) (e3 : x3 = nI i) (hR : RI r hh hs hh bh) (hP : StepOK Inv 21 (xs (i + 1)) (xs (i + 2)) (xs (i + 3)) (xs (i + 4)) (xs (i + 5)) h hh hs bh) (k : ∀ (h2 : HI) (r2 : Nat → Nat → Option Nat) (hh2 hs2 : Nat) (bh2 : Nat → Nat), RI r2 hh2 hs2 hh2 bh2 → Inv h2 hh2 hs2 bh2 → WW X (SHF, adr, 155, 553683) 1064 [.ref 900010, .ref 0, .ref 101, .int x3] [] (mk h2 r2)) : WW X (SHF, adr, 155, 553683) 797 [.ref 900010, .ref 0, .ref 101, .int x3] [] (mk h r) := by
  obtain ⟨w, h1, h2, hc1, hc2, hI⟩ := hP
  obtain ⟨⟨rh, ph, hS⟩, hM, hB⟩ := hR
  refine ww_aload_n C dL_law_797 1 rfl rfl ?_
  refine ww_aload_n C dL_law_798 0 rfl rfl ?_
  refine ww_iload_n C dL_law_799 3 rfl rfl ?_
  refine ww_iconst (v := (1 : Int32)) C dL_law_800 (by decide) ?_
  refine ww_iadd C dL_law_801 ?_
  refine ww_sld C hX dL_law_802 (sx_in hi hL e3 1 (by decide)) (i + 1) (sx_n hi hL e3 1 (by decide)) ?_
  refine ww_callV C hZ dL_law_803 cw_L_103 (ccX8_floor hS hc1) hS.1 ⟨by decide, rfl⟩ (by decide) rfl rfl (Nat.le_of_ble_eq_true rfl) (LQ.cs hQ) (fun v τ hp => ?_)
  obtain ⟨rfl, rfl⟩ := hp
  change WW X _ 806 [.ref 900010, .ref 0, .ref 101, .int x3] [.int w] _
  refine ww_aload_n C dL_law_806 2 rfl rfl ?_
  refine ww_aload_n C dL_law_807 0 rfl rfl ?_
  refine ww_iload_n C dL_law_808 3 rfl rfl ?_
  refine ww_iconst (v := (1 : Int32)) C dL_law_809 (by decide) ?_
  refine ww_iadd C dL_law_810 ?_
  refine ww_sld C hX dL_law_811 (sx_in hi hL e3 1 (by decide)) (i + 1) (sx_n hi hL e3 1 (by decide)) ?_
  refine ww_callV C hZ dL_law_812 cw_L_106 (ccX9_floor hM hc2) hM.1 ⟨by decide, rfl⟩ (by decide) rfl rfl (Nat.le_of_ble_eq_true rfl) (LQ.cs hQ) (fun v τ hp => ?_)
  obtain ⟨rfl, rfl⟩ := hp
  change WW X _ 815 [.ref 900010, .ref 0, .ref 101, .int x3] [.int w, .int w] _
  refine ww_icmp_eq C dL_law_815 1064 rfl (fun _ => ?_) (fun hc => absurd rfl hc)
  exact k _ _ _ _ _ ⟨⟨rh, ph, hS⟩, hM, hB⟩ hI
set_option maxRecDepth 100000 in
set_option maxHeartbeats 4000000 in
theorem lc_22 {X : CT} {adr : Nat → Nat} {b L i : Nat} {xs : Nat → Int32} {x3 : Int32} {h : HI} {r : Nat → Nat → Option Nat} {hh hs : Nat} {bh : Nat → Nat} {Inv : HI → Nat → Nat → (Nat → Nat) → Prop} (C : CX X RL cL_law 4 1000) (hZ : SZX X adr) (hX : LX X adr b L xs) (hQ : LQ X b) (hL : L ≤ 3072) (hi : i + 6 ≤ L) (e3 : x3 = nI i) (hR : RI r hh hs hh bh) (hP : StepOK Inv 22 (xs (i + 1)) (xs (i + 2)) (xs (i + 3)) (xs (i + 4)) (xs (i + 5)) h hh hs bh) (k : ∀ (h2 : HI) (r2 : Nat → Nat → Option Nat) (hh2 hs2 : Nat) (bh2 : Nat → Nat), RI r2 hh2 hs2 hh2 bh2 → Inv h2 hh2 hs2 bh2 → WW X (SHF, adr, 155, 553683) 1064 [.ref 900010, .ref 0, .ref 101, .int x3] [] (mk h2 r2)) : WW X (SHF, adr, 155, 553683) 820 [.ref 900010, .ref 0, .ref 101, .int x3] [] (mk h r) := by
  obtain ⟨w, h1, h2, hc1, hc2, hI⟩ := hP
  obtain ⟨⟨rh, ph, hS⟩, hM, hB⟩ := hR
  refine ww_aload_n C dL_law_820 1 rfl rfl ?_
  refine ww_aload_n C dL_law_821 0 rfl rfl ?_
  refine ww_iload_n C dL_law_822 3 rfl rfl ?_
  refine ww_iconst (v := (1 : Int32)) C dL_law_823 (by decide) ?_
  refine ww_iadd C dL_law_824 ?_
  refine ww_sld C hX dL_law_825 (sx_in hi hL e3 1 (by decide)) (i + 1) (sx_n hi hL e3 1 (by decide)) ?_
  refine ww_aload_n C dL_law_826 0 rfl rfl ?_
  refine ww_iload_n C dL_law_827 3 rfl rfl ?_
  refine ww_iconst (v := (2 : Int32)) C dL_law_828 (by decide) ?_
  refine ww_iadd C dL_law_829 ?_
  refine ww_sld C hX dL_law_830 (sx_in hi hL e3 2 (by decide)) (i + 2) (sx_n hi hL e3 2 (by decide)) ?_
  refine ww_aload_n C dL_law_831 0 rfl rfl ?_
  refine ww_iload_n C dL_law_832 3 rfl rfl ?_
  refine ww_iconst (v := (3 : Int32)) C dL_law_833 (by decide) ?_
  refine ww_iadd C dL_law_834 ?_
  refine ww_sld C hX dL_law_835 (sx_in hi hL e3 3 (by decide)) (i + 3) (sx_n hi hL e3 3 (by decide)) ?_
  refine ww_aload_n C dL_law_836 0 rfl rfl ?_
  refine ww_iload_n C dL_law_837 3 rfl rfl ?_
  refine ww_iconst (v := (4 : Int32)) C dL_law_838 (by decide) ?_
  refine ww_iadd C dL_law_839 ?_
  refine ww_sld C hX dL_law_840 (sx_in hi hL e3 4 (by decide)) (i + 4) (sx_n hi hL e3 4 (by decide)) ?_
  refine ww_callV C hZ dL_law_841 cw_L_107 (ccX8_could hS hc1) hS.1 ⟨by decide, rfl⟩ (by decide) rfl rfl (Nat.le_of_ble_eq_true rfl) (LQ.cs hQ) (fun v τ hp => ?_)
  obtain ⟨rfl, rfl⟩ := hp
  change WW X _ 844 [.ref 900010, .ref 0, .ref 101, .int x3] [.int w] _
  refine ww_aload_n C dL_law_844 2 rfl rfl ?_
  refine ww_aload_n C dL_law_845 0 rfl rfl ?_
  refine ww_iload_n C dL_law_846 3 rfl rfl ?_
  refine ww_iconst (v := (1 : Int32)) C dL_law_847 (by decide) ?_
  refine ww_iadd C dL_law_848 ?_
  refine ww_sld C hX dL_law_849 (sx_in hi hL e3 1 (by decide)) (i + 1) (sx_n hi hL e3 1 (by decide)) ?_
  refine ww_aload_n C dL_law_850 0 rfl rfl ?_
  refine ww_iload_n C dL_law_851 3 rfl rfl ?_
  refine ww_iconst (v := (2 : Int32)) C dL_law_852 (by decide) ?_
  refine ww_iadd C dL_law_853 ?_
  refine ww_sld C hX dL_law_854 (sx_in hi hL e3 2 (by decide)) (i + 2) (sx_n hi hL e3 2 (by decide)) ?_
  refine ww_aload_n C dL_law_855 0 rfl rfl ?_
  refine ww_iload_n C dL_law_856 3 rfl rfl ?_
  refine ww_iconst (v := (3 : Int32)) C dL_law_857 (by decide) ?_
  refine ww_iadd C dL_law_858 ?_
  refine ww_sld C hX dL_law_859 (sx_in hi hL e3 3 (by decide)) (i + 3) (sx_n hi hL e3 3 (by decide)) ?_
  refine ww_aload_n C dL_law_860 0 rfl rfl ?_
  refine ww_iload_n C dL_law_861 3 rfl rfl ?_
  refine ww_iconst (v := (4 : Int32)) C dL_law_862 (by decide) ?_
  refine ww_iadd C dL_law_863 ?_
  refine ww_sld C hX dL_law_864 (sx_in hi hL e3 4 (by decide)) (i + 4) (sx_n hi hL e3 4 (by decide)) ?_
  refine ww_callV C hZ dL_law_865 cw_L_111 (ccX9_could hM hc2) hM.1 ⟨by decide, rfl⟩ (by decide) rfl rfl (Nat.le_of_ble_eq_true rfl) (LQ.cs hQ) (fun v τ hp => ?_)
  obtain ⟨rfl, rfl⟩ := hp
  change WW X _ 868 [.ref 900010, .ref 0, .ref 101, .int x3] [.int w, .int w] _
  refine ww_icmp_eq C dL_law_868 1064 rfl (fun _ => ?_) (fun hc => absurd rfl hc)
  exact k _ _ _ _ _ ⟨⟨rh, ph, hS⟩, hM, hB⟩ hI
set_option maxRecDepth 100000 in
set_option maxHeartbeats 4000000 in
theorem lc_23 {X : CT} {adr : Nat → Nat} {b L i : Nat} {xs : Nat → Int32} {x3 : Int32} {h : HI} {r : Nat → Nat → Option Nat} {hh hs : Nat} {bh : Nat → Nat} {Inv : HI → Nat → Nat → (Nat → Nat) → Prop} (C : CX X RL cL_law 4 1000) (hZ : SZX X adr) (hX : LX X adr b L xs) (hQ : LQ X b) (hL : L ≤ 3072) (hi : i + 6 ≤ L) (e3 : x3 = nI i) (hR : RI r hh hs hh bh) (hP : StepOK Inv 23 (xs (i + 1)) (xs (i + 2)) (xs (i + 3)) (xs (i + 4)) (xs (i + 5)) h hh hs bh) (k : ∀ (h2 : HI) (r2 : Nat → Nat → Option Nat) (hh2 hs2 : Nat) (bh2 : Nat → Nat), RI r2 hh2 hs2 hh2 bh2 → Inv h2 hh2 hs2 bh2 → WW X (SHF, adr, 155, 553683) 1064 [.ref 900010, .ref 0, .ref 101, .int x3] [] (mk h2 r2)) : WW X (SHF, adr, 155, 553683) 873 [.ref 900010, .ref 0, .ref 101, .int x3] [] (mk h r) := by
  obtain ⟨w, h1, h2, hc1, hc2, hI⟩ := hP
  obtain ⟨⟨rh, ph, hS⟩, hM, hB⟩ := hR
  refine ww_aload_n C dL_law_873 1 rfl rfl ?_
  refine ww_aload_n C dL_law_874 0 rfl rfl ?_
  refine ww_iload_n C dL_law_875 3 rfl rfl ?_
  refine ww_iconst (v := (1 : Int32)) C dL_law_876 (by decide) ?_
  refine ww_iadd C dL_law_877 ?_
  refine ww_sld C hX dL_law_878 (sx_in hi hL e3 1 (by decide)) (i + 1) (sx_n hi hL e3 1 (by decide)) ?_
  refine ww_aload_n C dL_law_879 0 rfl rfl ?_
  refine ww_iload_n C dL_law_880 3 rfl rfl ?_
  refine ww_iconst (v := (2 : Int32)) C dL_law_881 (by decide) ?_
  refine ww_iadd C dL_law_882 ?_
  refine ww_sld C hX dL_law_883 (sx_in hi hL e3 2 (by decide)) (i + 2) (sx_n hi hL e3 2 (by decide)) ?_
  refine ww_aload_n C dL_law_884 0 rfl rfl ?_
  refine ww_iload_n C dL_law_885 3 rfl rfl ?_
  refine ww_iconst (v := (3 : Int32)) C dL_law_886 (by decide) ?_
  refine ww_iadd C dL_law_887 ?_
  refine ww_sld C hX dL_law_888 (sx_in hi hL e3 3 (by decide)) (i + 3) (sx_n hi hL e3 3 (by decide)) ?_
  refine ww_callV C hZ dL_law_889 cw_L_112 (ccX8_entry hS hc1) hS.1 ⟨by decide, rfl⟩ (by decide) rfl rfl (Nat.le_of_ble_eq_true rfl) (LQ.cs hQ) (fun v τ hp => ?_)
  obtain ⟨rfl, rfl⟩ := hp
  change WW X _ 892 [.ref 900010, .ref 0, .ref 101, .int x3] [.int w] _
  refine ww_aload_n C dL_law_892 2 rfl rfl ?_
  refine ww_aload_n C dL_law_893 0 rfl rfl ?_
  refine ww_iload_n C dL_law_894 3 rfl rfl ?_
  refine ww_iconst (v := (1 : Int32)) C dL_law_895 (by decide) ?_
  refine ww_iadd C dL_law_896 ?_
  refine ww_sld C hX dL_law_897 (sx_in hi hL e3 1 (by decide)) (i + 1) (sx_n hi hL e3 1 (by decide)) ?_
  refine ww_aload_n C dL_law_898 0 rfl rfl ?_
  refine ww_iload_n C dL_law_899 3 rfl rfl ?_
  refine ww_iconst (v := (2 : Int32)) C dL_law_900 (by decide) ?_
  refine ww_iadd C dL_law_901 ?_
  refine ww_sld C hX dL_law_902 (sx_in hi hL e3 2 (by decide)) (i + 2) (sx_n hi hL e3 2 (by decide)) ?_
  refine ww_aload_n C dL_law_903 0 rfl rfl ?_
  refine ww_iload_n C dL_law_904 3 rfl rfl ?_
  refine ww_iconst (v := (3 : Int32)) C dL_law_905 (by decide) ?_
  refine ww_iadd C dL_law_906 ?_
  refine ww_sld C hX dL_law_907 (sx_in hi hL e3 3 (by decide)) (i + 3) (sx_n hi hL e3 3 (by decide)) ?_
  refine ww_callV C hZ dL_law_908 cw_L_116 (ccX9_entry hM hc2) hM.1 ⟨by decide, rfl⟩ (by decide) rfl rfl (Nat.le_of_ble_eq_true rfl) (LQ.cs hQ) (fun v τ hp => ?_)
  obtain ⟨rfl, rfl⟩ := hp
  change WW X _ 911 [.ref 900010, .ref 0, .ref 101, .int x3] [.int w, .int w] _
  refine ww_icmp_eq C dL_law_911 1064 rfl (fun _ => ?_) (fun hc => absurd rfl hc)
  exact k _ _ _ _ _ ⟨⟨rh, ph, hS⟩, hM, hB⟩ hI
set_option maxRecDepth 100000 in
set_option maxHeartbeats 4000000 in
theorem lc_24 {X : CT} {adr : Nat → Nat} {b L i : Nat} {xs : Nat → Int32} {x3 : Int32} {h : HI} {r : Nat → Nat → Option Nat} {hh hs : Nat} {bh : Nat → Nat} {Inv : HI → Nat → Nat → (Nat → Nat) → Prop} (C : CX X RL cL_law 4 1000) (hZ : SZX X adr) (hX : LX X adr b L xs) (hQ : LQ X b) (hL : L ≤ 3072) (hi : i + 6 ≤ L) (e3 : x3 = nI i) (hR : RI r hh hs hh bh) (hP : StepOK Inv 24 (xs (i + 1)) (xs (i + 2)) (xs (i + 3)) (xs (i + 4)) (xs (i + 5)) h hh hs bh) (k : ∀ (h2 : HI) (r2 : Nat → Nat → Option Nat) (hh2 hs2 : Nat) (bh2 : Nat → Nat), RI r2 hh2 hs2 hh2 bh2 → Inv h2 hh2 hs2 bh2 → WW X (SHF, adr, 155, 553683) 1064 [.ref 900010, .ref 0, .ref 101, .int x3] [] (mk h2 r2)) : WW X (SHF, adr, 155, 553683) 916 [.ref 900010, .ref 0, .ref 101, .int x3] [] (mk h r) := by
  obtain ⟨w, h1, h2, hc1, hc2, hI⟩ := hP
  obtain ⟨⟨rh, ph, hS⟩, hM, hB⟩ := hR
  refine ww_aload_n C dL_law_916 1 rfl rfl ?_
  refine ww_aload_n C dL_law_917 0 rfl rfl ?_
  refine ww_iload_n C dL_law_918 3 rfl rfl ?_
  refine ww_iconst (v := (1 : Int32)) C dL_law_919 (by decide) ?_
  refine ww_iadd C dL_law_920 ?_
  refine ww_sld C hX dL_law_921 (sx_in hi hL e3 1 (by decide)) (i + 1) (sx_n hi hL e3 1 (by decide)) ?_
  refine ww_callV C hZ dL_law_922 cw_L_117 (ccX8_untell hS hc1) hS.1 ⟨by decide, rfl⟩ (by decide) rfl rfl (Nat.le_of_ble_eq_true rfl) (LQ.cs hQ) (fun v τ hp => ?_)
  obtain ⟨rfl, rfl⟩ := hp
  change WW X _ 925 [.ref 900010, .ref 0, .ref 101, .int x3] [.int w] _
  refine ww_aload_n C dL_law_925 2 rfl rfl ?_
  refine ww_aload_n C dL_law_926 0 rfl rfl ?_
  refine ww_iload_n C dL_law_927 3 rfl rfl ?_
  refine ww_iconst (v := (1 : Int32)) C dL_law_928 (by decide) ?_
  refine ww_iadd C dL_law_929 ?_
  refine ww_sld C hX dL_law_930 (sx_in hi hL e3 1 (by decide)) (i + 1) (sx_n hi hL e3 1 (by decide)) ?_
  refine ww_callV C hZ dL_law_931 cw_L_120 (ccX9_untell hM hc2) hM.1 ⟨by decide, rfl⟩ (by decide) rfl rfl (Nat.le_of_ble_eq_true rfl) (LQ.cs hQ) (fun v τ hp => ?_)
  obtain ⟨rfl, rfl⟩ := hp
  change WW X _ 934 [.ref 900010, .ref 0, .ref 101, .int x3] [.int w, .int w] _
  refine ww_icmp_eq C dL_law_934 1064 rfl (fun _ => ?_) (fun hc => absurd rfl hc)
  exact k _ _ _ _ _ ⟨⟨rh, ph, hS⟩, hM, hB⟩ hI
set_option maxRecDepth 100000 in
set_option maxHeartbeats 4000000 in
theorem lc_25 {X : CT} {adr : Nat → Nat} {b L i : Nat} {xs : Nat → Int32} {x3 : Int32} {h : HI} {r : Nat → Nat → Option Nat} {hh hs : Nat} {bh : Nat → Nat} {Inv : HI → Nat → Nat → (Nat → Nat) → Prop} (C : CX X RL cL_law 4 1000) (hZ : SZX X adr) (hX : LX X adr b L xs) (hQ : LQ X b) (hL : L ≤ 3072) (hi : i + 6 ≤ L) (e3 : x3 = nI i) (hR : RI r hh hs hh bh) (hP : StepOK Inv 25 (xs (i + 1)) (xs (i + 2)) (xs (i + 3)) (xs (i + 4)) (xs (i + 5)) h hh hs bh) (k : ∀ (h2 : HI) (r2 : Nat → Nat → Option Nat) (hh2 hs2 : Nat) (bh2 : Nat → Nat), RI r2 hh2 hs2 hh2 bh2 → Inv h2 hh2 hs2 bh2 → WW X (SHF, adr, 155, 553683) 1064 [.ref 900010, .ref 0, .ref 101, .int x3] [] (mk h2 r2)) : WW X (SHF, adr, 155, 553683) 939 [.ref 900010, .ref 0, .ref 101, .int x3] [] (mk h r) := by
  obtain ⟨w, h1, h2, hc1, hc2, hI⟩ := hP
  obtain ⟨⟨rh, ph, hS⟩, hM, hB⟩ := hR
  refine ww_aload_n C dL_law_939 1 rfl rfl ?_
  refine ww_aload_n C dL_law_940 0 rfl rfl ?_
  refine ww_iload_n C dL_law_941 3 rfl rfl ?_
  refine ww_iconst (v := (1 : Int32)) C dL_law_942 (by decide) ?_
  refine ww_iadd C dL_law_943 ?_
  refine ww_sld C hX dL_law_944 (sx_in hi hL e3 1 (by decide)) (i + 1) (sx_n hi hL e3 1 (by decide)) ?_
  refine ww_callV C hZ dL_law_945 cw_L_121 (ccX8_later hS hc1) hS.1 ⟨by decide, rfl⟩ (by decide) rfl rfl (Nat.le_of_ble_eq_true rfl) (LQ.cs hQ) (fun v τ hp => ?_)
  obtain ⟨rfl, rfl⟩ := hp
  change WW X _ 948 [.ref 900010, .ref 0, .ref 101, .int x3] [.int w] _
  refine ww_aload_n C dL_law_948 2 rfl rfl ?_
  refine ww_aload_n C dL_law_949 0 rfl rfl ?_
  refine ww_iload_n C dL_law_950 3 rfl rfl ?_
  refine ww_iconst (v := (1 : Int32)) C dL_law_951 (by decide) ?_
  refine ww_iadd C dL_law_952 ?_
  refine ww_sld C hX dL_law_953 (sx_in hi hL e3 1 (by decide)) (i + 1) (sx_n hi hL e3 1 (by decide)) ?_
  refine ww_callV C hZ dL_law_954 cw_L_124 (ccX9_later hM hc2) hM.1 ⟨by decide, rfl⟩ (by decide) rfl rfl (Nat.le_of_ble_eq_true rfl) (LQ.cs hQ) (fun v τ hp => ?_)
  obtain ⟨rfl, rfl⟩ := hp
  change WW X _ 957 [.ref 900010, .ref 0, .ref 101, .int x3] [.int w, .int w] _
  refine ww_icmp_eq C dL_law_957 1064 rfl (fun _ => ?_) (fun hc => absurd rfl hc)
  exact k _ _ _ _ _ ⟨⟨rh, ph, hS⟩, hM, hB⟩ hI
set_option maxRecDepth 100000 in
set_option maxHeartbeats 4000000 in
theorem lc_26 {X : CT} {adr : Nat → Nat} {b L i : Nat} {xs : Nat → Int32} {x3 : Int32} {h : HI} {r : Nat → Nat → Option Nat} {hh hs : Nat} {bh : Nat → Nat} {Inv : HI → Nat → Nat → (Nat → Nat) → Prop} (C : CX X RL cL_law 4 1000) (hZ : SZX X adr) (hX : LX X adr b L xs) (hQ : LQ X b) (hL : L ≤ 3072) (hi : i + 6 ≤ L) (e3 : x3 = nI i) (hR : RI r hh hs hh bh) (hP : StepOK Inv 26 (xs (i + 1)) (xs (i + 2)) (xs (i + 3)) (xs (i + 4)) (xs (i + 5)) h hh hs bh) (k : ∀ (h2 : HI) (r2 : Nat → Nat → Option Nat) (hh2 hs2 : Nat) (bh2 : Nat → Nat), RI r2 hh2 hs2 hh2 bh2 → Inv h2 hh2 hs2 bh2 → WW X (SHF, adr, 155, 553683) 1064 [.ref 900010, .ref 0, .ref 101, .int x3] [] (mk h2 r2)) : WW X (SHF, adr, 155, 553683) 962 [.ref 900010, .ref 0, .ref 101, .int x3] [] (mk h r) := by
  obtain ⟨w, h1, h2, hc1, hc2, hI⟩ := hP
  obtain ⟨⟨rh, ph, hS⟩, hM, hB⟩ := hR
  refine ww_aload_n C dL_law_962 1 rfl rfl ?_
  refine ww_aload_n C dL_law_963 0 rfl rfl ?_
  refine ww_iload_n C dL_law_964 3 rfl rfl ?_
  refine ww_iconst (v := (1 : Int32)) C dL_law_965 (by decide) ?_
  refine ww_iadd C dL_law_966 ?_
  refine ww_sld C hX dL_law_967 (sx_in hi hL e3 1 (by decide)) (i + 1) (sx_n hi hL e3 1 (by decide)) ?_
  refine ww_aload_n C dL_law_968 0 rfl rfl ?_
  refine ww_iload_n C dL_law_969 3 rfl rfl ?_
  refine ww_iconst (v := (2 : Int32)) C dL_law_970 (by decide) ?_
  refine ww_iadd C dL_law_971 ?_
  refine ww_sld C hX dL_law_972 (sx_in hi hL e3 2 (by decide)) (i + 2) (sx_n hi hL e3 2 (by decide)) ?_
  refine ww_callV C hZ dL_law_973 cw_L_125 (ccX8_judge hS hc1) hS.1 ⟨by decide, rfl⟩ (by decide) rfl rfl (Nat.le_of_ble_eq_true rfl) (LQ.cs hQ) (fun v τ hp => ?_)
  obtain ⟨rfl, rfl⟩ := hp
  change WW X _ 976 [.ref 900010, .ref 0, .ref 101, .int x3] [.int w] _
  refine ww_aload_n C dL_law_976 2 rfl rfl ?_
  refine ww_aload_n C dL_law_977 0 rfl rfl ?_
  refine ww_iload_n C dL_law_978 3 rfl rfl ?_
  refine ww_iconst (v := (1 : Int32)) C dL_law_979 (by decide) ?_
  refine ww_iadd C dL_law_980 ?_
  refine ww_sld C hX dL_law_981 (sx_in hi hL e3 1 (by decide)) (i + 1) (sx_n hi hL e3 1 (by decide)) ?_
  refine ww_aload_n C dL_law_982 0 rfl rfl ?_
  refine ww_iload_n C dL_law_983 3 rfl rfl ?_
  refine ww_iconst (v := (2 : Int32)) C dL_law_984 (by decide) ?_
  refine ww_iadd C dL_law_985 ?_
  refine ww_sld C hX dL_law_986 (sx_in hi hL e3 2 (by decide)) (i + 2) (sx_n hi hL e3 2 (by decide)) ?_
  refine ww_callV C hZ dL_law_987 cw_L_128 (ccX9_judge hM hc2) hM.1 ⟨by decide, rfl⟩ (by decide) rfl rfl (Nat.le_of_ble_eq_true rfl) (LQ.cs hQ) (fun v τ hp => ?_)
  obtain ⟨rfl, rfl⟩ := hp
  change WW X _ 990 [.ref 900010, .ref 0, .ref 101, .int x3] [.int w, .int w] _
  refine ww_icmp_eq C dL_law_990 1064 rfl (fun _ => ?_) (fun hc => absurd rfl hc)
  exact k _ _ _ _ _ ⟨⟨rh, ph, hS⟩, hM, hB⟩ hI
set_option maxRecDepth 100000 in
set_option maxHeartbeats 4000000 in
theorem lc_27 {X : CT} {adr : Nat → Nat} {b L i : Nat} {xs : Nat → Int32} {x3 : Int32} {h : HI} {r : Nat → Nat → Option Nat} {hh hs : Nat} {bh : Nat → Nat} {Inv : HI → Nat → Nat → (Nat → Nat) → Prop} (C : CX X RL cL_law 4 1000) (hZ : SZX X adr) (hX : LX X adr b L xs) (hQ : LQ X b) (hL : L ≤ 3072) (hi : i + 6 ≤ L) (e3 : x3 = nI i) (hR : RI r hh hs hh bh) (hP : StepOK Inv 27 (xs (i + 1)) (xs (i + 2)) (xs (i + 3)) (xs (i + 4)) (xs (i + 5)) h hh hs bh) (k : ∀ (h2 : HI) (r2 : Nat → Nat → Option Nat) (hh2 hs2 : Nat) (bh2 : Nat → Nat), RI r2 hh2 hs2 hh2 bh2 → Inv h2 hh2 hs2 bh2 → WW X (SHF, adr, 155, 553683) 1064 [.ref 900010, .ref 0, .ref 101, .int x3] [] (mk h2 r2)) : WW X (SHF, adr, 155, 553683) 995 [.ref 900010, .ref 0, .ref 101, .int x3] [] (mk h r) := by
  obtain ⟨w, h1, h2, hc1, hc2, hI⟩ := hP
  obtain ⟨⟨rh, ph, hS⟩, hM, hB⟩ := hR
  refine ww_aload_n C dL_law_995 1 rfl rfl ?_
  refine ww_aload_n C dL_law_996 0 rfl rfl ?_
  refine ww_iload_n C dL_law_997 3 rfl rfl ?_
  refine ww_iconst (v := (1 : Int32)) C dL_law_998 (by decide) ?_
  refine ww_iadd C dL_law_999 ?_
  refine ww_sld C hX dL_law_1000 (sx_in hi hL e3 1 (by decide)) (i + 1) (sx_n hi hL e3 1 (by decide)) ?_
  refine ww_callV C hZ dL_law_1001 cw_L_129 (ccX8_image (bh := bh ((xs (i + 1)).toNatClampNeg)) hS (fun j hj e => by subst e; exact hB _ hj) hc1) hS.1 ⟨by decide, rfl⟩ (by decide) rfl rfl (Nat.le_of_ble_eq_true rfl) (LQ.cs hQ) (fun v τ hp => ?_)
  obtain ⟨rfl, r9, rfl, hr9⟩ := hp
  have hR2 : ∃ bh2, RI r9 hh hs hh bh2 ∧ Inv h2 hh hs bh2 := by
    rcases hr9 with ⟨e, g⟩ | ⟨e, g⟩
    · rcases hI with ⟨_, hI⟩ | ⟨g2, _⟩
      · exact ⟨bh, by rw [e]; exact ⟨⟨rh, ph, hS⟩, hM, hB⟩, hI⟩
      · exact absurd g2 (nB3 g)
    · rcases hI with ⟨g2, _⟩ | ⟨_, hI⟩
      · exact absurd g g2
      · exact ⟨_, by rw [e]; exact RI.box ⟨⟨rh, ph, hS⟩, hM, hB⟩ g.2, hI⟩
  obtain ⟨bh2, hR2, hI⟩ := hR2
  obtain ⟨⟨rh, ph, hS⟩, hM, hB⟩ := id hR2
  change WW X _ 1004 [.ref 900010, .ref 0, .ref 101, .int x3] [.int w] _
  refine ww_aload_n C dL_law_1004 2 rfl rfl ?_
  refine ww_aload_n C dL_law_1005 0 rfl rfl ?_
  refine ww_iload_n C dL_law_1006 3 rfl rfl ?_
  refine ww_iconst (v := (1 : Int32)) C dL_law_1007 (by decide) ?_
  refine ww_iadd C dL_law_1008 ?_
  refine ww_sld C hX dL_law_1009 (sx_in hi hL e3 1 (by decide)) (i + 1) (sx_n hi hL e3 1 (by decide)) ?_
  refine ww_callV C hZ dL_law_1010 cw_L_132 (ccX9_image hM hc2) hM.1 ⟨by decide, rfl⟩ (by decide) rfl rfl (Nat.le_of_ble_eq_true rfl) (LQ.cs hQ) (fun v τ hp => ?_)
  obtain ⟨rfl, rfl⟩ := hp
  change WW X _ 1013 [.ref 900010, .ref 0, .ref 101, .int x3] [.int w, .int w] _
  refine ww_icmp_eq C dL_law_1013 1064 rfl (fun _ => ?_) (fun hc => absurd rfl hc)
  exact k _ _ _ _ _ hR2 hI
set_option maxRecDepth 100000 in
set_option maxHeartbeats 4000000 in
theorem lc_28 {X : CT} {adr : Nat → Nat} {b L i : Nat} {xs : Nat → Int32} {x3 : Int32} {h : HI} {r : Nat → Nat → Option Nat} {hh hs : Nat} {bh : Nat → Nat} {Inv : HI → Nat → Nat → (Nat → Nat) → Prop} (C : CX X RL cL_law 4 1000) (hZ : SZX X adr) (hX : LX X adr b L xs) (hQ : LQ X b) (hL : L ≤ 3072) (hi : i + 6 ≤ L) (e3 : x3 = nI i) (hR : RI r hh hs hh bh) (hP : StepOK Inv 28 (xs (i + 1)) (xs (i + 2)) (xs (i + 3)) (xs (i + 4)) (xs (i + 5)) h hh hs bh) (k : ∀ (h2 : HI) (r2 : Nat → Nat → Option Nat) (hh2 hs2 : Nat) (bh2 : Nat → Nat), RI r2 hh2 hs2 hh2 bh2 → Inv h2 hh2 hs2 bh2 → WW X (SHF, adr, 155, 553683) 1064 [.ref 900010, .ref 0, .ref 101, .int x3] [] (mk h2 r2)) : WW X (SHF, adr, 155, 553683) 1018 [.ref 900010, .ref 0, .ref 101, .int x3] [] (mk h r) := by
  obtain ⟨w, h1, h2, hc1, hc2, hI⟩ := hP
  obtain ⟨⟨rh, ph, hS⟩, hM, hB⟩ := hR
  refine ww_aload_n C dL_law_1018 1 rfl rfl ?_
  refine ww_aload_n C dL_law_1019 0 rfl rfl ?_
  refine ww_iload_n C dL_law_1020 3 rfl rfl ?_
  refine ww_iconst (v := (1 : Int32)) C dL_law_1021 (by decide) ?_
  refine ww_iadd C dL_law_1022 ?_
  refine ww_sld C hX dL_law_1023 (sx_in hi hL e3 1 (by decide)) (i + 1) (sx_n hi hL e3 1 (by decide)) ?_
  refine ww_callV C hZ dL_law_1024 cw_L_133 (ccX8_back (bh := bh ((xs (i + 1)).toNatClampNeg)) hS (fun j hj e => by subst e; exact hB _ hj) hc1) hS.1 ⟨by decide, rfl⟩ (by decide) rfl rfl (Nat.le_of_ble_eq_true rfl) (LQ.cs hQ) (fun v τ hp => ?_)
  obtain ⟨rfl, r9, rfl, hr9⟩ := hp
  have hR2 : RI r9 hh hs hh bh := by
    rcases hr9 with e | ⟨e, g, g2⟩
    · rw [e]; exact ⟨⟨rh, ph, hS⟩, hM, hB⟩
    · have e2 := hI.2 g g2
      have e3 := RI.now ⟨⟨rh, ph, hS⟩, hM, hB⟩ g.2
      rw [e, ← e2]
      rw [e2] at e3 ⊢
      exact e3
  obtain ⟨⟨rh, ph, hS⟩, hM, hB⟩ := id hR2
  change WW X _ 1027 [.ref 900010, .ref 0, .ref 101, .int x3] [.int w] _
  refine ww_aload_n C dL_law_1027 2 rfl rfl ?_
  refine ww_aload_n C dL_law_1028 0 rfl rfl ?_
  refine ww_iload_n C dL_law_1029 3 rfl rfl ?_
  refine ww_iconst (v := (1 : Int32)) C dL_law_1030 (by decide) ?_
  refine ww_iadd C dL_law_1031 ?_
  refine ww_sld C hX dL_law_1032 (sx_in hi hL e3 1 (by decide)) (i + 1) (sx_n hi hL e3 1 (by decide)) ?_
  refine ww_callV C hZ dL_law_1033 cw_L_136 (ccX9_back hM hc2) hM.1 ⟨by decide, rfl⟩ (by decide) rfl rfl (Nat.le_of_ble_eq_true rfl) (LQ.cs hQ) (fun v τ hp => ?_)
  obtain ⟨rfl, rfl⟩ := hp
  change WW X _ 1036 [.ref 900010, .ref 0, .ref 101, .int x3] [.int w, .int w] _
  refine ww_icmp_eq C dL_law_1036 1064 rfl (fun _ => ?_) (fun hc => absurd rfl hc)
  exact k _ _ _ _ _ hR2 hI.1
set_option maxRecDepth 100000 in
set_option maxHeartbeats 4000000 in
theorem lc_29 {X : CT} {adr : Nat → Nat} {b L i : Nat} {xs : Nat → Int32} {x3 : Int32} {h : HI} {r : Nat → Nat → Option Nat} {hh hs : Nat} {bh : Nat → Nat} {Inv : HI → Nat → Nat → (Nat → Nat) → Prop} (C : CX X RL cL_law 4 1000) (hZ : SZX X adr) (hX : LX X adr b L xs) (hQ : LQ X b) (hL : L ≤ 3072) (hi : i + 6 ≤ L) (e3 : x3 = nI i) (hR : RI r hh hs hh bh) (hP : StepOK Inv 29 (xs (i + 1)) (xs (i + 2)) (xs (i + 3)) (xs (i + 4)) (xs (i + 5)) h hh hs bh) (k : ∀ (h2 : HI) (r2 : Nat → Nat → Option Nat) (hh2 hs2 : Nat) (bh2 : Nat → Nat), RI r2 hh2 hs2 hh2 bh2 → Inv h2 hh2 hs2 bh2 → WW X (SHF, adr, 155, 553683) 1064 [.ref 900010, .ref 0, .ref 101, .int x3] [] (mk h2 r2)) : WW X (SHF, adr, 155, 553683) 1041 [.ref 900010, .ref 0, .ref 101, .int x3] [] (mk h r) := by
  obtain ⟨w, h1, h2, hc1, hc2, hI⟩ := hP
  obtain ⟨⟨rh, ph, hS⟩, hM, hB⟩ := hR
  refine ww_aload_n C dL_law_1041 1 rfl rfl ?_
  refine ww_aload_n C dL_law_1042 0 rfl rfl ?_
  refine ww_iload_n C dL_law_1043 3 rfl rfl ?_
  refine ww_iconst (v := (1 : Int32)) C dL_law_1044 (by decide) ?_
  refine ww_iadd C dL_law_1045 ?_
  refine ww_sld C hX dL_law_1046 (sx_in hi hL e3 1 (by decide)) (i + 1) (sx_n hi hL e3 1 (by decide)) ?_
  refine ww_callV C hZ dL_law_1047 cw_L_137 (ccX8_about hS hc1) hS.1 ⟨by decide, rfl⟩ (by decide) rfl rfl (Nat.le_of_ble_eq_true rfl) (LQ.cs hQ) (fun v τ hp => ?_)
  obtain ⟨rfl, rfl⟩ := hp
  change WW X _ 1050 [.ref 900010, .ref 0, .ref 101, .int x3] [.int w] _
  refine ww_aload_n C dL_law_1050 2 rfl rfl ?_
  refine ww_aload_n C dL_law_1051 0 rfl rfl ?_
  refine ww_iload_n C dL_law_1052 3 rfl rfl ?_
  refine ww_iconst (v := (1 : Int32)) C dL_law_1053 (by decide) ?_
  refine ww_iadd C dL_law_1054 ?_
  refine ww_sld C hX dL_law_1055 (sx_in hi hL e3 1 (by decide)) (i + 1) (sx_n hi hL e3 1 (by decide)) ?_
  refine ww_callV C hZ dL_law_1056 cw_L_140 (ccX9_about hM hc2) hM.1 ⟨by decide, rfl⟩ (by decide) rfl rfl (Nat.le_of_ble_eq_true rfl) (LQ.cs hQ) (fun v τ hp => ?_)
  obtain ⟨rfl, rfl⟩ := hp
  change WW X _ 1059 [.ref 900010, .ref 0, .ref 101, .int x3] [.int w, .int w] _
  refine ww_icmp_eq C dL_law_1059 1064 rfl (fun _ => ?_) (fun hc => absurd rfl hc)
  exact k _ _ _ _ _ ⟨⟨rh, ph, hS⟩, hM, hB⟩ hI
