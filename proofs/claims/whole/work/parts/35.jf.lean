def fJ0_coder_7d493 (i : Nat) (h : HI) : Option (Int32 × HI) := (if (1 : Int32) = 0 then (if narrow .byte (.int (1 : Int32)) = .int (1 : Int32) then some ((1 : Int32), h) else none) else (if narrow .byte (.int (0 : Int32)) = .int (0 : Int32) then some ((0 : Int32), h) else none))
set_option maxRecDepth 100000 in
set_option maxHeartbeats 4000000 in
theorem ccJ0_coder_7d493 {l : Launch} {sh : Sh} {adr : Nat → Nat} {r : Nat → Nat → Option Nat} {i : Nat} (hi : i < 2) {h : HI}  {p : Int32 × HI} (H : fJ0_coder_7d493 i h = some p) : CC l yJ0_coder_7d493 cJ0_coder_7d493 1 (some .byte) 0 [.ref (900001 + i)] sh adr (mk h r) (fun v τ => v = some (.int p.1) ∧ τ = mk p.2 r) := by
  refine CC.of (by decide) (Nat.le_of_ble_eq_true rfl) 0 [.ref (900001 + i)] rfl (fun X _ C E hZ => ?_)
  rw [fJ0_coder_7d493] at H
  refine ww_getsC C hZ dJ0_coder_7d493_0 ?_
  refine ww_if_eq C dJ0_coder_7d493_3 13 rfl (fun hc => ?_) (fun hc => ?_)
  · rw [if_pos hc] at H
    refine ww_iconst (v := (1 : Int32)) C dJ0_coder_7d493_13 (by decide) ?_
    obtain ⟨hg, H⟩ := gd_of H
    cases H
    exact ww_nret C E dJ0_coder_7d493_14 hg ⟨rfl, rfl⟩
  · rw [if_neg hc] at H
    refine ww_aload_n C dJ0_coder_7d493_6 0 rfl rfl ?_
    refine ww_strC C hZ dJ0_coder_7d493_7 hi ?_
    refine ww_goto C dJ0_coder_7d493_10 14 rfl ?_
    obtain ⟨hg, H⟩ := gd_of H
    cases H
    exact ww_nret C E dJ0_coder_7d493_14 hg ⟨rfl, rfl⟩
def fJ0_isLatin1_aae02 (i : Nat) (h : HI) : Option (Int32 × HI) := (if (1 : Int32) = 0 then some ((0 : Int32), h) else (if (0 : Int32) = 0 then some ((1 : Int32), h) else some ((0 : Int32), h)))
set_option maxRecDepth 100000 in
set_option maxHeartbeats 4000000 in
theorem ccJ0_isLatin1_aae02 {l : Launch} {sh : Sh} {adr : Nat → Nat} {r : Nat → Nat → Option Nat} {i : Nat} (hi : i < 2) {h : HI}  {p : Int32 × HI} (H : fJ0_isLatin1_aae02 i h = some p) : CC l yJ0_isLatin1_aae02 cJ0_isLatin1_aae02 1 (some .boolean) 0 [.ref (900001 + i)] sh adr (mk h r) (fun v τ => v = some (.int p.1) ∧ τ = mk p.2 r) := by
  refine CC.of (by decide) (Nat.le_of_ble_eq_true rfl) 0 [.ref (900001 + i)] rfl (fun X _ C E hZ => ?_)
  rw [fJ0_isLatin1_aae02] at H
  refine ww_getsC C hZ dJ0_isLatin1_aae02_0 ?_
  refine ww_if_eq C dJ0_isLatin1_aae02_3 17 rfl (fun hc => ?_) (fun hc => ?_)
  · rw [if_pos hc] at H
    refine ww_iconst (v := (0 : Int32)) C dJ0_isLatin1_aae02_17 (by decide) ?_
    cases H
    exact ww_zret C E dJ0_isLatin1_aae02_18 (Or.inl rfl) ⟨rfl, rfl⟩
  · rw [if_neg hc] at H
    refine ww_aload_n C dJ0_isLatin1_aae02_6 0 rfl rfl ?_
    refine ww_strC C hZ dJ0_isLatin1_aae02_7 hi ?_
    refine ww_if_ne C dJ0_isLatin1_aae02_10 17 rfl (fun hc => ?_) (fun hc => ?_)
    · rw [if_neg hc] at H
      refine ww_iconst (v := (0 : Int32)) C dJ0_isLatin1_aae02_17 (by decide) ?_
      cases H
      exact ww_zret C E dJ0_isLatin1_aae02_18 (Or.inl rfl) ⟨rfl, rfl⟩
    · rw [if_pos hc] at H
      refine ww_iconst (v := (1 : Int32)) C dJ0_isLatin1_aae02_13 (by decide) ?_
      refine ww_goto C dJ0_isLatin1_aae02_14 18 rfl ?_
      cases H
      exact ww_zret C E dJ0_isLatin1_aae02_18 (Or.inr rfl) ⟨rfl, rfl⟩
def fJ0_length_8abf5 (i : Nat) (h : HI) : Option (Int32 × HI) := ((fJ0_coder_7d493 i h).bind fun p1 => some (((nI (LJ.getD i 0)) >>> (p1.1 &&& 31)), p1.2))
set_option maxRecDepth 100000 in
set_option maxHeartbeats 4000000 in
theorem ccJ0_length_8abf5 {l : Launch} {sh : Sh} {adr : Nat → Nat} {r : Nat → Nat → Option Nat} {i : Nat} (hi : i < 2) {h : HI}  {p : Int32 × HI} (H : fJ0_length_8abf5 i h = some p) : CC l yJ0_length_8abf5 cJ0_length_8abf5 1 (some .int) 1 [.ref (900001 + i)] sh adr (mk h r) (fun v τ => v = some (.int p.1) ∧ τ = mk p.2 r) := by
  refine CC.of (by decide) (Nat.le_of_ble_eq_true rfl) 0 [.ref (900001 + i)] rfl (fun X _ C E hZ => ?_)
  rw [fJ0_length_8abf5] at H
  refine ww_aload_n C dJ0_length_8abf5_0 0 rfl rfl ?_
  refine ww_strV C hZ dJ0_length_8abf5_1 hi ?_
  refine ww_blen C hZ dJ0_length_8abf5_4 hi ?_
  refine ww_aload_n C dJ0_length_8abf5_5 0 rfl rfl ?_
  obtain ⟨p1, hc1, H⟩ := bd_of H
  refine ww_callVS C hZ dJ0_length_8abf5_6 cw_J0_335 (ccJ0_coder_7d493 hi hc1) hi rfl (by decide) rfl rfl (Nat.le_of_ble_eq_true rfl) ⟨Nat.zero_le _, Nat.zero_le _⟩ (fun v τ hp => ?_)
  obtain ⟨rfl, rfl⟩ := hp
  change WW X _ 9 [.ref (900001 + i)] [.int p1.1, .int (nI (LJ.getD i 0))] _
  refine ww_ishr C dJ0_length_8abf5_9 ?_
  cases H
  exact ww_iret C E dJ0_length_8abf5_10 ⟨rfl, rfl⟩
def fJ3_checkIndex_8e157_9 (h : HI) (v0 : Int32) (v1 : Int32) : Option (Int32 × HI) := none
set_option maxRecDepth 100000 in
set_option maxHeartbeats 4000000 in
theorem cJ3_checkIndex_8e157_9 {X : CT} {sh : Sh} {adr : Nat → Nat} {r : Nat → Nat → Option Nat} {p : Int32 × HI} (C : CX X yJ3_checkIndex_8e157.cls cJ3_checkIndex_8e157 3 0) (hZ : SZX X adr) (E : RX X (some .int) sh adr (fun v τ => v = some (.int p.1) ∧ τ = mk p.2 r)) {h : HI} {v0 : Int32} {v1 : Int32} (H : fJ3_checkIndex_8e157_9 h v0 v1 = some p) : WW X (sh, adr, 0, 0) 9 [.int v0, .int v1, .ref 900005] [] (mk h r) := by
  rw [fJ3_checkIndex_8e157_9] at H
  refine ww_aload_n C dJ3_checkIndex_8e157_9 2 rfl rfl ?_
  refine ww_iload_n C dJ3_checkIndex_8e157_10 0 rfl rfl ?_
  refine ww_iload_n C dJ3_checkIndex_8e157_11 1 rfl rfl ?_
  cases H
def fJ3_checkIndex_8e157 (h : HI) (a0 : Int32) (a1 : Int32) : Option (Int32 × HI) := (if a0 < 0 then fJ3_checkIndex_8e157_9 h a0 a1 else (if a0 < a1 then some (a0, h) else fJ3_checkIndex_8e157_9 h a0 a1))
set_option maxRecDepth 100000 in
set_option maxHeartbeats 4000000 in
theorem ccJ3_checkIndex_8e157 {l : Launch} {sh : Sh} {adr : Nat → Nat} {r : Nat → Nat → Option Nat} {h : HI} {a0 : Int32} {a1 : Int32} {p : Int32 × HI} (H : fJ3_checkIndex_8e157 h a0 a1 = some p) : CC l yJ3_checkIndex_8e157 cJ3_checkIndex_8e157 3 (some .int) 0 [.int a0, .int a1, .ref 900005] sh adr (mk h r) (fun v τ => v = some (.int p.1) ∧ τ = mk p.2 r) := by
  refine CC.of (by decide) (Nat.le_of_ble_eq_true rfl) 0 [.int a0, .int a1, .ref 900005] rfl (fun X _ C E hZ => ?_)
  rw [fJ3_checkIndex_8e157] at H
  refine ww_iload_n C dJ3_checkIndex_8e157_0 0 rfl rfl ?_
  refine ww_if_lt C dJ3_checkIndex_8e157_1 9 rfl (fun hc => ?_) (fun hc => ?_)
  · rw [if_pos hc] at H
    exact cJ3_checkIndex_8e157_9 C hZ E H
  · rw [if_neg hc] at H
    refine ww_iload_n C dJ3_checkIndex_8e157_4 0 rfl rfl ?_
    refine ww_iload_n C dJ3_checkIndex_8e157_5 1 rfl rfl ?_
    refine ww_icmp_lt C dJ3_checkIndex_8e157_6 16 rfl (fun hc => ?_) (fun hc => ?_)
    · rw [if_pos hc] at H
      refine ww_iload_n C dJ3_checkIndex_8e157_16 0 rfl rfl ?_
      cases H
      exact ww_iret C E dJ3_checkIndex_8e157_17 ⟨rfl, rfl⟩
    · rw [if_neg hc] at H
      exact cJ3_checkIndex_8e157_9 C hZ E H
set_option maxRecDepth 100000 in
set_option maxHeartbeats 4000000 in
theorem cJ3n_9 {X : CT} {sh : Sh} {adr : Nat → Nat} {r : Nat → Nat → Option Nat} {p : Int32 × HI} (C : CX X yJ3_checkIndex_8e157.cls cJ3_checkIndex_8e157 3 0) (hZ : SZX X adr) (E : RX X (some .int) sh adr (fun v τ => v = some (.int p.1) ∧ τ = mk p.2 r)) {h : HI} {v0 : Int32} {v1 : Int32} (H : fJ3_checkIndex_8e157_9 h v0 v1 = some p) : WW X (sh, adr, 0, 0) 9 [.int v0, .int v1, .null] [] (mk h r) := by
  rw [fJ3_checkIndex_8e157_9] at H
  cases H
set_option maxRecDepth 100000 in
set_option maxHeartbeats 4000000 in
theorem ccJ3n {l : Launch} {sh : Sh} {adr : Nat → Nat} {r : Nat → Nat → Option Nat} {h : HI} {a0 : Int32} {a1 : Int32} {p : Int32 × HI} (H : fJ3_checkIndex_8e157 h a0 a1 = some p) : CC l yJ3_checkIndex_8e157 cJ3_checkIndex_8e157 3 (some .int) 0 [.int a0, .int a1, .null] sh adr (mk h r) (fun v τ => v = some (.int p.1) ∧ τ = mk p.2 r) := by
  refine CC.of (by decide) (Nat.le_of_ble_eq_true rfl) 0 [.int a0, .int a1, .null] rfl (fun X _ C E hZ => ?_)
  rw [fJ3_checkIndex_8e157] at H
  refine ww_iload_n C dJ3_checkIndex_8e157_0 0 rfl rfl ?_
  refine ww_if_lt C dJ3_checkIndex_8e157_1 9 rfl (fun hc => ?_) (fun hc => ?_)
  · rw [if_pos hc] at H
    exact cJ3n_9 C hZ E H
  · rw [if_neg hc] at H
    refine ww_iload_n C dJ3_checkIndex_8e157_4 0 rfl rfl ?_
    refine ww_iload_n C dJ3_checkIndex_8e157_5 1 rfl rfl ?_
    refine ww_icmp_lt C dJ3_checkIndex_8e157_6 16 rfl (fun hc => ?_) (fun hc => ?_)
    · rw [if_pos hc] at H
      refine ww_iload_n C dJ3_checkIndex_8e157_16 0 rfl rfl ?_
      cases H
      exact ww_iret C E dJ3_checkIndex_8e157_17 ⟨rfl, rfl⟩
    · rw [if_neg hc] at H
      exact cJ3n_9 C hZ E H
def fJ0_checkIndex_df160 (h : HI) (a0 : Int32) (a1 : Int32) : Option (HI) := ((fJ3_checkIndex_8e157 h a0 a1).bind fun p1 => some p1.2)
set_option maxRecDepth 100000 in
set_option maxHeartbeats 4000000 in
theorem ccJ0_checkIndex_df160 {l : Launch} {sh : Sh} {adr : Nat → Nat} {r : Nat → Nat → Option Nat} {h : HI} {a0 : Int32} {a1 : Int32} {p : HI} (H : fJ0_checkIndex_df160 h a0 a1 = some p) : CC l yJ0_checkIndex_df160 cJ0_checkIndex_df160 2 none 1 [.int a0, .int a1] sh adr (mk h r) (fun v τ => v = none ∧ τ = mk p r) := by
  refine CC.of (by decide) (Nat.le_of_ble_eq_true rfl) 0 [.int a0, .int a1] rfl (fun X _ C E hZ => ?_)
  rw [fJ0_checkIndex_df160] at H
  refine ww_iload_n C dJ0_checkIndex_df160_0 0 rfl rfl ?_
  refine ww_iload_n C dJ0_checkIndex_df160_1 1 rfl rfl ?_
  refine ww_getsF C hZ dJ0_checkIndex_df160_2 ?_ ?_
  · obtain ⟨p1, hc1, H⟩ := bd_of H
    refine ww_callS C hZ dJ0_checkIndex_df160_5 sw_J0_1059 (ccJ3n hc1) (by decide) rfl rfl (Nat.le_of_ble_eq_true rfl) ⟨Nat.zero_le _, Nat.zero_le _⟩ (fun v τ hp => ?_)
    obtain ⟨rfl, rfl⟩ := hp
    change WW X _ 8 [.int a0, .int a1] [.int p1.1] _
    refine ww_pop C dJ0_checkIndex_df160_8 rfl ?_
    cases H
    exact ww_vret C E dJ0_checkIndex_df160_9 ⟨rfl, rfl⟩
  · obtain ⟨p1, hc1, H⟩ := bd_of H
    refine ww_callS C hZ dJ0_checkIndex_df160_5 sw_J0_1059 (ccJ3_checkIndex_8e157 hc1) (by decide) rfl rfl (Nat.le_of_ble_eq_true rfl) ⟨Nat.zero_le _, Nat.zero_le _⟩ (fun v τ hp => ?_)
    obtain ⟨rfl, rfl⟩ := hp
    change WW X _ 8 [.int a0, .int a1] [.int p1.1] _
    refine ww_pop C dJ0_checkIndex_df160_8 rfl ?_
    cases H
    exact ww_vret C E dJ0_checkIndex_df160_9 ⟨rfl, rfl⟩
def fJ1_charAt_3b067 (a0 : Nat) (h : HI) (a1 : Int32) : Option (Int32 × HI) := ((fJ0_checkIndex_df160 h a1 (nI (LJ.getD a0 0))).bind fun h1 => (if inB a1 (LJ.getD a0 0) then (if narrow .char (.int (((((BJ.getD a0 []).getD (a1.toNatClampNeg) 0) &&& (255 : Int32)).toUInt32 % 65536).toInt32)) = .int (((((BJ.getD a0 []).getD (a1.toNatClampNeg) 0) &&& (255 : Int32)).toUInt32 % 65536).toInt32) then some (((((BJ.getD a0 []).getD (a1.toNatClampNeg) 0) &&& (255 : Int32)).toUInt32 % 65536).toInt32, h1) else none) else none))
set_option maxRecDepth 100000 in
set_option maxHeartbeats 4000000 in
theorem ccJ1_charAt_3b067 {l : Launch} {sh : Sh} {adr : Nat → Nat} {r : Nat → Nat → Option Nat} {a0 : Nat} (hA0 : a0 < 2) {h : HI} {a1 : Int32} {p : Int32 × HI} (H : fJ1_charAt_3b067 a0 h a1 = some p) : CC l yJ1_charAt_3b067 cJ1_charAt_3b067 2 (some .char) 2 [.ref (900003 + a0), .int a1] sh adr (mk h r) (fun v τ => v = some (.int p.1) ∧ τ = mk p.2 r) := by
  refine CC.of (by decide) (Nat.le_of_ble_eq_true rfl) 0 [.ref (900003 + a0), .int a1] rfl (fun X _ C E hZ => ?_)
  rw [fJ1_charAt_3b067] at H
  refine ww_iload_n C dJ1_charAt_3b067_0 1 rfl rfl ?_
  refine ww_aload_n C dJ1_charAt_3b067_1 0 rfl rfl ?_
  refine ww_blen C hZ dJ1_charAt_3b067_2 hA0 ?_
  obtain ⟨h1, hc1, H⟩ := bd_of H
  refine ww_callS C hZ dJ1_charAt_3b067_3 sw_J1_9 (ccJ0_checkIndex_df160 hc1) (by decide) rfl rfl (Nat.le_of_ble_eq_true rfl) ⟨Nat.zero_le _, Nat.zero_le _⟩ (fun v τ hp => ?_)
  obtain ⟨rfl, rfl⟩ := hp
  change WW X _ 6 [.ref (900003 + a0), .int a1] [] _
  refine ww_aload_n C dJ1_charAt_3b067_6 0 rfl rfl ?_
  refine ww_iload_n C dJ1_charAt_3b067_7 1 rfl rfl ?_
  obtain ⟨hg, H⟩ := gd_of H
  refine ww_bbld C hZ dJ1_charAt_3b067_8 hA0 (vp_of hg rfl) (a1.toNatClampNeg) rfl ?_
  refine ww_sipush (v := (255 : Int32)) C dJ1_charAt_3b067_9 (by decide) ?_
  refine ww_iand C dJ1_charAt_3b067_12 ?_
  refine ww_i2c C dJ1_charAt_3b067_13 ?_
  obtain ⟨hg, H⟩ := gd_of H
  cases H
  exact ww_nret C E dJ1_charAt_3b067_14 hg ⟨rfl, rfl⟩
def fJ0_charAt_5068e (i : Nat) (h : HI) (a1 : Int32) : Option (Int32 × HI) := ((fJ0_isLatin1_aae02 i h).bind fun p1 => (if p1.1 = 0 then none else ((fJ1_charAt_3b067 i p1.2 a1).bind fun p2 => (if narrow .char (.int p2.1) = .int p2.1 then some (p2.1, p2.2) else none))))
set_option maxRecDepth 100000 in
set_option maxHeartbeats 4000000 in
theorem ccJ0_charAt_5068e {l : Launch} {sh : Sh} {adr : Nat → Nat} {r : Nat → Nat → Option Nat} {i : Nat} (hi : i < 2) {h : HI} {a1 : Int32} {p : Int32 × HI} (H : fJ0_charAt_5068e i h a1 = some p) : CC l yJ0_charAt_5068e cJ0_charAt_5068e 2 (some .char) 3 [.ref (900001 + i), .int a1] sh adr (mk h r) (fun v τ => v = some (.int p.1) ∧ τ = mk p.2 r) := by
  refine CC.of (by decide) (Nat.le_of_ble_eq_true rfl) 0 [.ref (900001 + i), .int a1] rfl (fun X _ C E hZ => ?_)
  rw [fJ0_charAt_5068e] at H
  refine ww_aload_n C dJ0_charAt_5068e_0 0 rfl rfl ?_
  obtain ⟨p1, hc1, H⟩ := bd_of H
  refine ww_callVS C hZ dJ0_charAt_5068e_1 cw_J0_492 (ccJ0_isLatin1_aae02 hi hc1) hi rfl (by decide) rfl rfl (Nat.le_of_ble_eq_true rfl) ⟨Nat.zero_le _, Nat.zero_le _⟩ (fun v τ hp => ?_)
  obtain ⟨rfl, rfl⟩ := hp
  change WW X _ 4 [.ref (900001 + i), .int a1] [.int p1.1] _
  refine ww_if_eq C dJ0_charAt_5068e_4 16 rfl (fun hc => ?_) (fun hc => ?_)
  · rw [if_pos hc] at H
    refine ww_aload_n C dJ0_charAt_5068e_16 0 rfl rfl ?_
    refine ww_strV C hZ dJ0_charAt_5068e_17 hi ?_
    refine ww_iload_n C dJ0_charAt_5068e_20 1 rfl rfl ?_
    cases H
  · rw [if_neg hc] at H
    refine ww_aload_n C dJ0_charAt_5068e_7 0 rfl rfl ?_
    refine ww_strV C hZ dJ0_charAt_5068e_8 hi ?_
    refine ww_iload_n C dJ0_charAt_5068e_11 1 rfl rfl ?_
    obtain ⟨p2, hc1, H⟩ := bd_of H
    refine ww_callS C hZ dJ0_charAt_5068e_12 sw_J0_495 (ccJ1_charAt_3b067 hi hc1) (by decide) rfl rfl (Nat.le_of_ble_eq_true rfl) ⟨Nat.zero_le _, Nat.zero_le _⟩ (fun v τ hp => ?_)
    obtain ⟨rfl, rfl⟩ := hp
    change WW X _ 15 [.ref (900001 + i), .int a1] [.int p2.1] _
    obtain ⟨hg, H⟩ := gd_of H
    cases H
    exact ww_nret C E dJ0_charAt_5068e_15 hg ⟨rfl, rfl⟩
def fJ1_canEncode_9a6ad (h : HI) (a0 : Int32) : Option (Int32 × HI) := (if a0 < 0 then some ((0 : Int32), h) else (if (255 : Int32) < a0 then some ((0 : Int32), h) else some ((1 : Int32), h)))
set_option maxRecDepth 100000 in
set_option maxHeartbeats 4000000 in
theorem ccJ1_canEncode_9a6ad {l : Launch} {sh : Sh} {adr : Nat → Nat} {r : Nat → Nat → Option Nat} {h : HI} {a0 : Int32} {p : Int32 × HI} (H : fJ1_canEncode_9a6ad h a0 = some p) : CC l yJ1_canEncode_9a6ad cJ1_canEncode_9a6ad 1 (some .boolean) 0 [.int a0] sh adr (mk h r) (fun v τ => v = some (.int p.1) ∧ τ = mk p.2 r) := by
  refine CC.of (by decide) (Nat.le_of_ble_eq_true rfl) 0 [.int a0] rfl (fun X _ C E hZ => ?_)
  rw [fJ1_canEncode_9a6ad] at H
  refine ww_iload_n C dJ1_canEncode_9a6ad_0 0 rfl rfl ?_
  refine ww_if_lt C dJ1_canEncode_9a6ad_1 15 rfl (fun hc => ?_) (fun hc => ?_)
  · rw [if_pos hc] at H
    refine ww_iconst (v := (0 : Int32)) C dJ1_canEncode_9a6ad_15 (by decide) ?_
    cases H
    exact ww_zret C E dJ1_canEncode_9a6ad_16 (Or.inl rfl) ⟨rfl, rfl⟩
  · rw [if_neg hc] at H
    refine ww_iload_n C dJ1_canEncode_9a6ad_4 0 rfl rfl ?_
    refine ww_sipush (v := (255 : Int32)) C dJ1_canEncode_9a6ad_5 (by decide) ?_
    refine ww_icmp_gt C dJ1_canEncode_9a6ad_8 15 rfl (fun hc => ?_) (fun hc => ?_)
    · rw [if_pos hc] at H
      refine ww_iconst (v := (0 : Int32)) C dJ1_canEncode_9a6ad_15 (by decide) ?_
      cases H
      exact ww_zret C E dJ1_canEncode_9a6ad_16 (Or.inl rfl) ⟨rfl, rfl⟩
    · rw [if_neg hc] at H
      refine ww_iconst (v := (1 : Int32)) C dJ1_canEncode_9a6ad_11 (by decide) ?_
      refine ww_goto C dJ1_canEncode_9a6ad_12 16 rfl ?_
      cases H
      exact ww_zret C E dJ1_canEncode_9a6ad_16 (Or.inr rfl) ⟨rfl, rfl⟩
def fJ1_indexOfChar_4cfef_7 (a0 : Nat) (k : HI → Option (Int32 × HI)) : Nat → HI → Int32 → Int32 → Int32 → Option (Int32 × HI)
  | 0, _, _, _, _ => none
  | n + 1, h, v3, v4, v5 => (if v3 ≤ v5 then k h else (if inB v5 (LJ.getD a0 0) then (if ((BJ.getD a0 []).getD (v5.toNatClampNeg) 0) = v4 then some (v5, h) else fJ1_indexOfChar_4cfef_7 a0 k n h v3 v4 (v5 + (1 : Int32))) else none))
set_option maxRecDepth 100000 in
set_option maxHeartbeats 4000000 in
theorem cJ1_indexOfChar_4cfef_7 {X : CT} {sh : Sh} {adr : Nat → Nat} {r : Nat → Nat → Option Nat} {a0 : Nat} {p : Int32 × HI} (hA0 : a0 < 2) (C : CX X yJ1_indexOfChar_4cfef.cls cJ1_indexOfChar_4cfef 6 0) (hZ : SZX X adr) (E : RX X (some .int) sh adr (fun v τ => v = some (.int p.1) ∧ τ = mk p.2 r)) {k : HI → Option (Int32 × HI)} (hk : ∀ (h : HI), k h = some p → WW X (sh, adr, 0, 0) 31 [.ref (900003 + a0), .retAddr 0, .retAddr 0, .retAddr 0, .retAddr 0, .retAddr 0] [] (mk h r)) : ∀ (n : Nat) (h : HI) (v3 : Int32) (v4 : Int32) (v5 : Int32), fJ1_indexOfChar_4cfef_7 a0 k n h v3 v4 v5 = some p → WW X (sh, adr, 0, 0) 7 [.ref (900003 + a0), .retAddr 0, .retAddr 0, .int v3, .int v4, .int v5] [] (mk h r) := by
  intro n
  induction n with
  | zero =>
    intro h v3 v4 v5 H
    rw [fJ1_indexOfChar_4cfef_7] at H
    cases H
  | succ n ih =>
    intro h v3 v4 v5 H
    rw [fJ1_indexOfChar_4cfef_7] at H
    refine ww_iload C dJ1_indexOfChar_4cfef_7 rfl ?_
    refine ww_iload_n C dJ1_indexOfChar_4cfef_9 3 rfl rfl ?_
    refine ww_icmp_ge C dJ1_indexOfChar_4cfef_10 31 rfl (fun hc => ?_) (fun hc => ?_)
    · rw [if_pos hc] at H
      exact ww_drop [.ref (900003 + a0), .retAddr 0, .retAddr 0, .retAddr 0, .retAddr 0, .retAddr 0] (sl_e (sl_e (sl_e (sl_d (sl_d (sl_d sl_n)))))) (hk h H)
    · rw [if_neg hc] at H
      refine ww_aload_n C dJ1_indexOfChar_4cfef_13 0 rfl rfl ?_
      refine ww_iload C dJ1_indexOfChar_4cfef_14 rfl ?_
      obtain ⟨hg, H⟩ := gd_of H
      refine ww_bbld C hZ dJ1_indexOfChar_4cfef_16 hA0 (vp_of hg rfl) (v5.toNatClampNeg) rfl ?_
      refine ww_iload C dJ1_indexOfChar_4cfef_17 rfl ?_
      refine ww_icmp_ne C dJ1_indexOfChar_4cfef_19 25 rfl (fun hc => ?_) (fun hc => ?_)
      · rw [if_neg hc] at H
        refine ww_iinc (v := (v5 + (1 : Int32))) C dJ1_indexOfChar_4cfef_25 rfl rfl (by decide) rfl [.ref (900003 + a0), .retAddr 0, .retAddr 0, .int v3, .int v4, .int (v5 + (1 : Int32))] rfl ?_
        refine ww_goto C dJ1_indexOfChar_4cfef_28 7 rfl ?_
        exact ih h v3 v4 (v5 + (1 : Int32)) H
      · rw [if_pos hc] at H
        refine ww_iload C dJ1_indexOfChar_4cfef_22 rfl ?_
        cases H
        exact ww_iret C E dJ1_indexOfChar_4cfef_24 ⟨rfl, rfl⟩
def fJ1_indexOfChar_4cfef (a0 : Nat) (h : HI) (a1 : Int32) (a2 : Int32) (a3 : Int32) : Option (Int32 × HI) := fJ1_indexOfChar_4cfef_7 a0 (fun h2 => some ((-1 : Int32), h2)) FU h a3 a1.toInt8.toInt32 a2
set_option maxRecDepth 100000 in
set_option maxHeartbeats 4000000 in
theorem ccJ1_indexOfChar_4cfef {l : Launch} {sh : Sh} {adr : Nat → Nat} {r : Nat → Nat → Option Nat} {a0 : Nat} (hA0 : a0 < 2) {h : HI} {a1 : Int32} {a2 : Int32} {a3 : Int32} {p : Int32 × HI} (H : fJ1_indexOfChar_4cfef a0 h a1 a2 a3 = some p) : CC l yJ1_indexOfChar_4cfef cJ1_indexOfChar_4cfef 6 (some .int) 0 [.ref (900003 + a0), .int a1, .int a2, .int a3] sh adr (mk h r) (fun v τ => v = some (.int p.1) ∧ τ = mk p.2 r) := by
  refine CC.of (by decide) (Nat.le_of_ble_eq_true rfl) 2 [.ref (900003 + a0), .int a1, .int a2, .int a3, .retAddr 0, .retAddr 0] rfl (fun X _ C E hZ => ?_)
  rw [fJ1_indexOfChar_4cfef] at H
  refine ww_iload_n C dJ1_indexOfChar_4cfef_0 1 rfl rfl ?_
  refine ww_i2b C dJ1_indexOfChar_4cfef_1 ?_
  refine ww_istore C dJ1_indexOfChar_4cfef_2 (by decide) rfl [.ref (900003 + a0), .int a1, .int a2, .int a3, .int a1.toInt8.toInt32, .retAddr 0] rfl ?_
  refine ww_iload_n C dJ1_indexOfChar_4cfef_4 2 rfl rfl ?_
  refine ww_istore C dJ1_indexOfChar_4cfef_5 (by decide) rfl [.ref (900003 + a0), .int a1, .int a2, .int a3, .int a1.toInt8.toInt32, .int a2] rfl ?_
  refine ww_drop [.ref (900003 + a0), .retAddr 0, .retAddr 0, .int a3, .int a1.toInt8.toInt32, .int a2] (sl_e (sl_d (sl_d (sl_e (sl_e (sl_e sl_n)))))) (cJ1_indexOfChar_4cfef_7 hA0 C hZ E (fun h2 H => ?_) FU h a3 a1.toInt8.toInt32 a2 H)
  refine ww_iconst (v := (-1 : Int32)) C dJ1_indexOfChar_4cfef_31 (by decide) ?_
  cases H
  exact ww_iret C E dJ1_indexOfChar_4cfef_32 ⟨rfl, rfl⟩
def fJ1_indexOf_4cfef (a0 : Nat) (h : HI) (a1 : Int32) (a2 : Int32) (a3 : Int32) : Option (Int32 × HI) := ((fJ1_canEncode_9a6ad h a1).bind fun p1 => (if p1.1 = 0 then some ((-1 : Int32), p1.2) else (if (if a2 < (0 : Int32) then (0 : Int32) else a2) < (if (nI (LJ.getD a0 0)) < a3 then (nI (LJ.getD a0 0)) else a3) then ((fJ1_indexOfChar_4cfef a0 p1.2 a1 (if a2 < (0 : Int32) then (0 : Int32) else a2) (if (nI (LJ.getD a0 0)) < a3 then (nI (LJ.getD a0 0)) else a3)).bind fun p2 => some (p2.1, p2.2)) else some ((-1 : Int32), p1.2))))
set_option maxRecDepth 100000 in
set_option maxHeartbeats 4000000 in
theorem ccJ1_indexOf_4cfef {l : Launch} {sh : Sh} {adr : Nat → Nat} {r : Nat → Nat → Option Nat} {a0 : Nat} (hA0 : a0 < 2) {h : HI} {a1 : Int32} {a2 : Int32} {a3 : Int32} {p : Int32 × HI} (H : fJ1_indexOf_4cfef a0 h a1 a2 a3 = some p) : CC l yJ1_indexOf_4cfef cJ1_indexOf_4cfef 4 (some .int) 1 [.ref (900003 + a0), .int a1, .int a2, .int a3] sh adr (mk h r) (fun v τ => v = some (.int p.1) ∧ τ = mk p.2 r) := by
  refine CC.of (by decide) (Nat.le_of_ble_eq_true rfl) 0 [.ref (900003 + a0), .int a1, .int a2, .int a3] rfl (fun X _ C E hZ => ?_)
  rw [fJ1_indexOf_4cfef] at H
  refine ww_iload_n C dJ1_indexOf_4cfef_0 1 rfl rfl ?_
  obtain ⟨p1, hc1, H⟩ := bd_of H
  refine ww_callS C hZ dJ1_indexOf_4cfef_1 sw_J1_88 (ccJ1_canEncode_9a6ad hc1) (by decide) rfl rfl (Nat.le_of_ble_eq_true rfl) ⟨Nat.zero_le _, Nat.zero_le _⟩ (fun v τ hp => ?_)
  obtain ⟨rfl, rfl⟩ := hp
  change WW X _ 4 [.ref (900003 + a0), .int a1, .int a2, .int a3] [.int p1.1] _
  refine ww_if_ne C dJ1_indexOf_4cfef_4 9 rfl (fun hc => ?_) (fun hc => ?_)
  · rw [if_neg hc] at H
    refine ww_iload_n C dJ1_indexOf_4cfef_9 2 rfl rfl ?_
    refine ww_iconst (v := (0 : Int32)) C dJ1_indexOf_4cfef_10 (by decide) ?_
    refine ww_max C dJ1_indexOf_4cfef_11 mw_J1_92 (by decide) (Nat.le_of_ble_eq_true rfl) ⟨Nat.zero_le _, Nat.zero_le _⟩ ?_
    refine ww_istore_n C dJ1_indexOf_4cfef_14 2 rfl (by decide) rfl [.ref (900003 + a0), .int a1, .int (if a2 < (0 : Int32) then (0 : Int32) else a2), .int a3] rfl ?_
    refine ww_iload_n C dJ1_indexOf_4cfef_15 3 rfl rfl ?_
    refine ww_aload_n C dJ1_indexOf_4cfef_16 0 rfl rfl ?_
    refine ww_blen C hZ dJ1_indexOf_4cfef_17 hA0 ?_
    refine ww_min C dJ1_indexOf_4cfef_18 mw_J1_38 (by decide) (Nat.le_of_ble_eq_true rfl) ⟨Nat.zero_le _, Nat.zero_le _⟩ ?_
    refine ww_istore_n C dJ1_indexOf_4cfef_21 3 rfl (by decide) rfl [.ref (900003 + a0), .int a1, .int (if a2 < (0 : Int32) then (0 : Int32) else a2), .int (if (nI (LJ.getD a0 0)) < a3 then (nI (LJ.getD a0 0)) else a3)] rfl ?_
    refine ww_iload_n C dJ1_indexOf_4cfef_22 2 rfl rfl ?_
    refine ww_iload_n C dJ1_indexOf_4cfef_23 3 rfl rfl ?_
    refine ww_icmp_lt C dJ1_indexOf_4cfef_24 29 rfl (fun hc => ?_) (fun hc => ?_)
    · rw [if_pos hc] at H
      refine ww_aload_n C dJ1_indexOf_4cfef_29 0 rfl rfl ?_
      refine ww_iload_n C dJ1_indexOf_4cfef_30 1 rfl rfl ?_
      refine ww_iload_n C dJ1_indexOf_4cfef_31 2 rfl rfl ?_
      refine ww_iload_n C dJ1_indexOf_4cfef_32 3 rfl rfl ?_
      obtain ⟨p2, hc1, H⟩ := bd_of H
      refine ww_callS C hZ dJ1_indexOf_4cfef_33 sw_J1_95 (ccJ1_indexOfChar_4cfef hA0 hc1) (by decide) rfl rfl (Nat.le_of_ble_eq_true rfl) ⟨Nat.zero_le _, Nat.zero_le _⟩ (fun v τ hp => ?_)
      obtain ⟨rfl, rfl⟩ := hp
      change WW X _ 36 [.ref (900003 + a0), .int a1, .int (if a2 < (0 : Int32) then (0 : Int32) else a2), .int (if (nI (LJ.getD a0 0)) < a3 then (nI (LJ.getD a0 0)) else a3)] [.int p2.1] _
      cases H
      exact ww_iret C E dJ1_indexOf_4cfef_36 ⟨rfl, rfl⟩
    · rw [if_neg hc] at H
      refine ww_iconst (v := (-1 : Int32)) C dJ1_indexOf_4cfef_27 (by decide) ?_
      cases H
      exact ww_iret C E dJ1_indexOf_4cfef_28 ⟨rfl, rfl⟩
  · rw [if_pos hc] at H
    refine ww_iconst (v := (-1 : Int32)) C dJ1_indexOf_4cfef_7 (by decide) ?_
    cases H
    exact ww_iret C E dJ1_indexOf_4cfef_8 ⟨rfl, rfl⟩
def fJ0_indexOf_7cf53 (i : Nat) (h : HI) (a1 : Int32) (a2 : Int32) : Option (Int32 × HI) := ((fJ0_isLatin1_aae02 i h).bind fun p1 => (if p1.1 = 0 then ((fJ0_length_8abf5 i p1.2).bind fun p2 => none) else ((fJ0_length_8abf5 i p1.2).bind fun p3 => ((fJ1_indexOf_4cfef i p3.2 a1 a2 p3.1).bind fun p4 => some (p4.1, p4.2)))))
set_option maxRecDepth 100000 in
set_option maxHeartbeats 4000000 in
theorem ccJ0_indexOf_7cf53 {l : Launch} {sh : Sh} {adr : Nat → Nat} {r : Nat → Nat → Option Nat} {i : Nat} (hi : i < 2) {h : HI} {a1 : Int32} {a2 : Int32} {p : Int32 × HI} (H : fJ0_indexOf_7cf53 i h a1 a2 = some p) : CC l yJ0_indexOf_7cf53 cJ0_indexOf_7cf53 3 (some .int) 2 [.ref (900001 + i), .int a1, .int a2] sh adr (mk h r) (fun v τ => v = some (.int p.1) ∧ τ = mk p.2 r) := by
  refine CC.of (by decide) (Nat.le_of_ble_eq_true rfl) 0 [.ref (900001 + i), .int a1, .int a2] rfl (fun X _ C E hZ => ?_)
  rw [fJ0_indexOf_7cf53] at H
  refine ww_aload_n C dJ0_indexOf_7cf53_0 0 rfl rfl ?_
  obtain ⟨p1, hc1, H⟩ := bd_of H
  refine ww_callVS C hZ dJ0_indexOf_7cf53_1 cw_J0_492 (ccJ0_isLatin1_aae02 hi hc1) hi rfl (by decide) rfl rfl (Nat.le_of_ble_eq_true rfl) ⟨Nat.zero_le _, Nat.zero_le _⟩ (fun v τ hp => ?_)
  obtain ⟨rfl, rfl⟩ := hp
  change WW X _ 4 [.ref (900001 + i), .int a1, .int a2] [.int p1.1] _
  refine ww_if_eq C dJ0_indexOf_7cf53_4 23 rfl (fun hc => ?_) (fun hc => ?_)
  · rw [if_pos hc] at H
    refine ww_aload_n C dJ0_indexOf_7cf53_23 0 rfl rfl ?_
    refine ww_strV C hZ dJ0_indexOf_7cf53_24 hi ?_
    refine ww_iload_n C dJ0_indexOf_7cf53_27 1 rfl rfl ?_
    refine ww_iload_n C dJ0_indexOf_7cf53_28 2 rfl rfl ?_
    refine ww_aload_n C dJ0_indexOf_7cf53_29 0 rfl rfl ?_
    obtain ⟨p2, hc1, H⟩ := bd_of H
    refine ww_callVS C hZ dJ0_indexOf_7cf53_30 cw_J0_505 (ccJ0_length_8abf5 hi hc1) hi rfl (by decide) rfl rfl (Nat.le_of_ble_eq_true rfl) ⟨Nat.zero_le _, Nat.zero_le _⟩ (fun v τ hp => ?_)
    obtain ⟨rfl, rfl⟩ := hp
    change WW X _ 33 [.ref (900001 + i), .int a1, .int a2] [.int p2.1, .int a2, .int a1, .ref (900003 + i)] _
    cases H
  · rw [if_neg hc] at H
    refine ww_aload_n C dJ0_indexOf_7cf53_7 0 rfl rfl ?_
    refine ww_strV C hZ dJ0_indexOf_7cf53_8 hi ?_
    refine ww_iload_n C dJ0_indexOf_7cf53_11 1 rfl rfl ?_
    refine ww_iload_n C dJ0_indexOf_7cf53_12 2 rfl rfl ?_
    refine ww_aload_n C dJ0_indexOf_7cf53_13 0 rfl rfl ?_
    obtain ⟨p3, hc1, H⟩ := bd_of H
    refine ww_callVS C hZ dJ0_indexOf_7cf53_14 cw_J0_505 (ccJ0_length_8abf5 hi hc1) hi rfl (by decide) rfl rfl (Nat.le_of_ble_eq_true rfl) ⟨Nat.zero_le _, Nat.zero_le _⟩ (fun v τ hp => ?_)
    obtain ⟨rfl, rfl⟩ := hp
    change WW X _ 17 [.ref (900001 + i), .int a1, .int a2] [.int p3.1, .int a2, .int a1, .ref (900003 + i)] _
    obtain ⟨p4, hc1, H⟩ := bd_of H
    refine ww_callS C hZ dJ0_indexOf_7cf53_17 sw_J0_637 (ccJ1_indexOf_4cfef hi hc1) (by decide) rfl rfl (Nat.le_of_ble_eq_true rfl) ⟨Nat.zero_le _, Nat.zero_le _⟩ (fun v τ hp => ?_)
    obtain ⟨rfl, rfl⟩ := hp
    change WW X _ 20 [.ref (900001 + i), .int a1, .int a2] [.int p4.1] _
    refine ww_goto C dJ0_indexOf_7cf53_20 36 rfl ?_
    cases H
    exact ww_iret C E dJ0_indexOf_7cf53_36 ⟨rfl, rfl⟩
def fJ0_indexOf_0f7a4 (i : Nat) (h : HI) (a1 : Int32) : Option (Int32 × HI) := ((fJ0_indexOf_7cf53 i h a1 (0 : Int32)).bind fun p1 => some (p1.1, p1.2))
set_option maxRecDepth 100000 in
set_option maxHeartbeats 4000000 in
theorem ccJ0_indexOf_0f7a4 {l : Launch} {sh : Sh} {adr : Nat → Nat} {r : Nat → Nat → Option Nat} {i : Nat} (hi : i < 2) {h : HI} {a1 : Int32} {p : Int32 × HI} (H : fJ0_indexOf_0f7a4 i h a1 = some p) : CC l yJ0_indexOf_0f7a4 cJ0_indexOf_0f7a4 2 (some .int) 3 [.ref (900001 + i), .int a1] sh adr (mk h r) (fun v τ => v = some (.int p.1) ∧ τ = mk p.2 r) := by
  refine CC.of (by decide) (Nat.le_of_ble_eq_true rfl) 0 [.ref (900001 + i), .int a1] rfl (fun X _ C E hZ => ?_)
  rw [fJ0_indexOf_0f7a4] at H
  refine ww_aload_n C dJ0_indexOf_0f7a4_0 0 rfl rfl ?_
  refine ww_iload_n C dJ0_indexOf_0f7a4_1 1 rfl rfl ?_
  refine ww_iconst (v := (0 : Int32)) C dJ0_indexOf_0f7a4_2 (by decide) ?_
  obtain ⟨p1, hc1, H⟩ := bd_of H
  refine ww_callVS C hZ dJ0_indexOf_0f7a4_3 cw_J0_633 (ccJ0_indexOf_7cf53 hi hc1) hi rfl (by decide) rfl rfl (Nat.le_of_ble_eq_true rfl) ⟨Nat.zero_le _, Nat.zero_le _⟩ (fun v τ hp => ?_)
  obtain ⟨rfl, rfl⟩ := hp
  change WW X _ 6 [.ref (900001 + i), .int a1] [.int p1.1] _
  cases H
  exact ww_iret C E dJ0_indexOf_0f7a4_6 ⟨rfl, rfl⟩
def fX3_speakStep_104 (o : Nat) (k : HI → Option (HI)) (kb : HI → Int32 → Int64 → Int32 → Int32 → Int32 → Option (HI)) (h : HI) (v1 : Int32) (v2 : Int64) (v4 : Int32) (v6 : Int32) (v7 : Int32) : Option (HI) := kb h v1 v2 v4 v6 (v7 + (1 : Int32))
set_option maxRecDepth 100000 in
set_option maxHeartbeats 4000000 in
theorem cX3_speakStep_104 {X : CT} {sh : Sh} {adr : Nat → Nat} {r : Nat → Nat → Option Nat} {o : Nat} {hh : Nat} {p : HI} (hS : PS sh r hh o) (C : CX X yX3_speakStep.cls cX3_speakStep 9 1) (hZ : SZX X adr) (E : RX X none sh adr (fun v τ => v = none ∧ τ = mk p r)) {k : HI → Option (HI)} {kb : HI → Int32 → Int64 → Int32 → Int32 → Int32 → Option (HI)} (hk : ∀ (h : HI), k h = some p → WW X (sh, adr, 0, 0) 110 [.ref o, .retAddr 0, .retAddr 0, .retAddr 0, .retAddr 0, .retAddr 0, .retAddr 0, .retAddr 0, .retAddr 0] [] (mk h r)) (hb : ∀ (h : HI) (v1 : Int32) (v2 : Int64) (v4 : Int32) (v6 : Int32) (v7 : Int32), kb h v1 v2 v4 v6 v7 = some p → WW X (sh, adr, 0, 0) 48 [.ref o, .int v1, .long v2, .retAddr 0, .int v4, .retAddr 0, .int v6, .int v7, .retAddr 0] [] (mk h r)) {h : HI} {v1 : Int32} {v2 : Int64} {v4 : Int32} {v6 : Int32} {v7 : Int32} (H : fX3_speakStep_104 o k kb h v1 v2 v4 v6 v7 = some p) : WW X (sh, adr, 0, 0) 104 [.ref o, .int v1, .long v2, .retAddr 0, .int v4, .retAddr 0, .int v6, .int v7, .retAddr 0] [] (mk h r) := by
  rw [fX3_speakStep_104] at H
  refine ww_iinc (v := (v7 + (1 : Int32))) C dX3_speakStep_104 rfl rfl (by decide) rfl [.ref o, .int v1, .long v2, .retAddr 0, .int v4, .retAddr 0, .int v6, .int (v7 + (1 : Int32)), .retAddr 0] rfl ?_
  refine ww_goto C dX3_speakStep_107 48 rfl ?_
  exact hb h v1 v2 v4 v6 (v7 + (1 : Int32)) H
def fX3_speakStep_48 (o : Nat) (k : HI → Option (HI)) : Nat → HI → Int32 → Int64 → Int32 → Int32 → Int32 → Option (HI)
  | 0, _, _, _, _, _, _ => none
  | n + 1, h, v1, v2, v4, v6, v7 => (if (6 : Int32) ≤ v7 then k h else (if inB ((v7 * (4 : Int32)) + v4) 24 then (if (v6 ||| (h.1 (o + 7) (((v7 * (4 : Int32)) + v4).toNatClampNeg))) = v1 then fX3_speakStep_104 o (k) (fX3_speakStep_48 o k n) h v1 v2 v4 v6 v7 else (if (((h.1 o 11) >>> (v7 &&& 31)) &&& (1 : Int32)) = 0 then fX3_speakStep_104 o (k) (fX3_speakStep_48 o k n) h v1 v2 v4 v6 v7 else (if inB v7 6 then ((fX3_add o h (v6 ||| (h.1 (o + 7) (((v7 * (4 : Int32)) + v4).toNatClampNeg))) (v2 &&& (WO.getD (v7.toNatClampNeg) 0))).bind fun h1 => fX3_speakStep_104 o (k) (fX3_speakStep_48 o k n) h1 v1 v2 v4 v6 v7) else none))) else none))
set_option maxRecDepth 100000 in
set_option maxHeartbeats 4000000 in
theorem cX3_speakStep_48 {X : CT} {sh : Sh} {adr : Nat → Nat} {r : Nat → Nat → Option Nat} {o : Nat} {hh : Nat} {p : HI} (hS : PS sh r hh o) (C : CX X yX3_speakStep.cls cX3_speakStep 9 1) (hZ : SZX X adr) (E : RX X none sh adr (fun v τ => v = none ∧ τ = mk p r)) {k : HI → Option (HI)} (hk : ∀ (h : HI), k h = some p → WW X (sh, adr, 0, 0) 110 [.ref o, .retAddr 0, .retAddr 0, .retAddr 0, .retAddr 0, .retAddr 0, .retAddr 0, .retAddr 0, .retAddr 0] [] (mk h r)) : ∀ (n : Nat) (h : HI) (v1 : Int32) (v2 : Int64) (v4 : Int32) (v6 : Int32) (v7 : Int32), fX3_speakStep_48 o k n h v1 v2 v4 v6 v7 = some p → WW X (sh, adr, 0, 0) 48 [.ref o, .int v1, .long v2, .retAddr 0, .int v4, .retAddr 0, .int v6, .int v7, .retAddr 0] [] (mk h r) := by
  intro n
  induction n with
  | zero =>
    intro h v1 v2 v4 v6 v7 H
    rw [fX3_speakStep_48] at H
    cases H
  | succ n ih =>
    intro h v1 v2 v4 v6 v7 H
    rw [fX3_speakStep_48] at H
    refine ww_iload C dX3_speakStep_48 rfl ?_
    refine ww_bipush (v := (6 : Int32)) C dX3_speakStep_50 (by decide) ?_
    refine ww_icmp_ge C dX3_speakStep_52 110 rfl (fun hc => ?_) (fun hc => ?_)
    · rw [if_pos hc] at H
      exact ww_drop [.ref o, .retAddr 0, .retAddr 0, .retAddr 0, .retAddr 0, .retAddr 0, .retAddr 0, .retAddr 0, .retAddr 0] (sl_e (sl_d (sl_d (sl_e (sl_d (sl_e (sl_d (sl_d (sl_e sl_n))))))))) (hk h H)
    · rw [if_neg hc] at H
      refine ww_iload C dX3_speakStep_55 rfl ?_
      refine ww_aload_n C dX3_speakStep_57 0 rfl rfl ?_
      refine wk_getR C dX3_speakStep_58 fl_X3_32 hS.1 rfl (tX3_linksBy hS).1 ?_
      refine ww_iload C dX3_speakStep_61 rfl ?_
      refine ww_iconst (v := (4 : Int32)) C dX3_speakStep_63 (by decide) ?_
      refine ww_imul C dX3_speakStep_64 ?_
      refine ww_iload C dX3_speakStep_65 rfl ?_
      refine ww_iadd C dX3_speakStep_67 ?_
      obtain ⟨hg, H⟩ := gd_of H
      refine wk_iaload C dX3_speakStep_68 (tX3_linksBy hS).2.1 (vp_of hg (tX3_linksBy hS).2.2) (((v7 * (4 : Int32)) + v4).toNatClampNeg) rfl ?_
      refine ww_ior C dX3_speakStep_69 ?_
      refine ww_istore C dX3_speakStep_70 (by decide) rfl [.ref o, .int v1, .long v2, .retAddr 0, .int v4, .retAddr 0, .int v6, .int v7, .int (v6 ||| (h.1 (o + 7) (((v7 * (4 : Int32)) + v4).toNatClampNeg)))] rfl ?_
      refine ww_iload C dX3_speakStep_72 rfl ?_
      refine ww_iload_n C dX3_speakStep_74 1 rfl rfl ?_
      refine ww_icmp_eq C dX3_speakStep_75 104 rfl (fun hc => ?_) (fun hc => ?_)
      · rw [if_pos hc] at H
        exact ww_drop [.ref o, .int v1, .long v2, .retAddr 0, .int v4, .retAddr 0, .int v6, .int v7, .retAddr 0] (sl_e (sl_e (sl_e (sl_e (sl_e (sl_e (sl_e (sl_e (sl_d sl_n))))))))) (cX3_speakStep_104 hS C hZ E hk ih H)
      · rw [if_neg hc] at H
        refine ww_aload_n C dX3_speakStep_78 0 rfl rfl ?_
        refine wk_getI C dX3_speakStep_79 fl_X3_45 hS.1 rfl ?_
        refine ww_iload C dX3_speakStep_82 rfl ?_
        refine ww_ishr C dX3_speakStep_84 ?_
        refine ww_iconst (v := (1 : Int32)) C dX3_speakStep_85 (by decide) ?_
        refine ww_iand C dX3_speakStep_86 ?_
        refine ww_if_eq C dX3_speakStep_87 104 rfl (fun hc => ?_) (fun hc => ?_)
        · rw [if_pos hc] at H
          exact ww_drop [.ref o, .int v1, .long v2, .retAddr 0, .int v4, .retAddr 0, .int v6, .int v7, .retAddr 0] (sl_e (sl_e (sl_e (sl_e (sl_e (sl_e (sl_e (sl_e (sl_d sl_n))))))))) (cX3_speakStep_104 hS C hZ E hk ih H)
        · rw [if_neg hc] at H
          refine ww_aload_n C dX3_speakStep_90 0 rfl rfl ?_
          refine ww_iload C dX3_speakStep_91 rfl ?_
          refine ww_lload_n C dX3_speakStep_93 2 rfl rfl ?_
          refine ww_getsW C hZ dX3_speakStep_94 ?_
          refine ww_iload C dX3_speakStep_97 rfl ?_
          obtain ⟨hg, H⟩ := gd_of H
          refine ww_lalW C hZ dX3_speakStep_99 (vp_of hg rfl) (v7.toNatClampNeg) rfl ?_
          refine ww_land C dX3_speakStep_100 ?_
          obtain ⟨h1, hc1, H⟩ := bd_of H
          refine ww_callV C hZ dX3_speakStep_101 cw_X3_181 (ccX3_add hS hc1) hS.1 ⟨by decide, rfl⟩ (by decide) rfl rfl (Nat.le_of_ble_eq_true rfl) ⟨Nat.zero_le _, Nat.zero_le _⟩ (fun v τ hp => ?_)
          obtain ⟨rfl, rfl⟩ := hp
          change WW X _ 104 [.ref o, .int v1, .long v2, .retAddr 0, .int v4, .retAddr 0, .int v6, .int v7, .int (v6 ||| (h.1 (o + 7) (((v7 * (4 : Int32)) + v4).toNatClampNeg)))] [] _
          exact ww_drop [.ref o, .int v1, .long v2, .retAddr 0, .int v4, .retAddr 0, .int v6, .int v7, .retAddr 0] (sl_e (sl_e (sl_e (sl_e (sl_e (sl_e (sl_e (sl_e (sl_d sl_n))))))))) (cX3_speakStep_104 hS C hZ E hk ih H)
def fX3_speakStep_43 (o : Nat) (h : HI) (v1 : Int32) (v2 : Int64) (v4 : Int32) (s0 : Int32) : Option (HI) := fX3_speakStep_48 o (fun h3 => some h3) FU h v1 v2 v4 s0 (0 : Int32)
set_option maxRecDepth 100000 in
set_option maxHeartbeats 4000000 in
theorem cX3_speakStep_43 {X : CT} {sh : Sh} {adr : Nat → Nat} {r : Nat → Nat → Option Nat} {o : Nat} {hh : Nat} {p : HI} (hS : PS sh r hh o) (C : CX X yX3_speakStep.cls cX3_speakStep 9 1) (hZ : SZX X adr) (E : RX X none sh adr (fun v τ => v = none ∧ τ = mk p r)) {h : HI} {v1 : Int32} {v2 : Int64} {v4 : Int32} {s0 : Int32} (H : fX3_speakStep_43 o h v1 v2 v4 s0 = some p) : WW X (sh, adr, 0, 0) 43 [.ref o, .int v1, .long v2, .retAddr 0, .int v4, .retAddr 0, .retAddr 0, .retAddr 0, .retAddr 0] [.int s0] (mk h r) := by
  rw [fX3_speakStep_43] at H
  refine ww_istore C dX3_speakStep_43 (by decide) rfl [.ref o, .int v1, .long v2, .retAddr 0, .int v4, .retAddr 0, .int s0, .retAddr 0, .retAddr 0] rfl ?_
  refine ww_iconst (v := (0 : Int32)) C dX3_speakStep_45 (by decide) ?_
  refine ww_istore C dX3_speakStep_46 (by decide) rfl [.ref o, .int v1, .long v2, .retAddr 0, .int v4, .retAddr 0, .int s0, .int (0 : Int32), .retAddr 0] rfl ?_
  refine cX3_speakStep_48 hS C hZ E (fun h3 H => ?_) FU h v1 v2 v4 s0 (0 : Int32) H
  cases H
  exact ww_vret C E dX3_speakStep_110 ⟨rfl, rfl⟩
def fX3_speakStep_26 (o : Nat) (h : HI) (v1 : Int32) (v2 : Int64) (v4 : Int32) (v5 : Int32) : Option (HI) := (if v5 < 0 then fX3_speakStep_43 o h v1 v2 v4 v1 else ((fX3_spokenBit o h v5).bind fun p4 => fX3_speakStep_43 o p4.2 v1 v2 v4 (v1 ||| p4.1)))
set_option maxRecDepth 100000 in
set_option maxHeartbeats 4000000 in
theorem cX3_speakStep_26 {X : CT} {sh : Sh} {adr : Nat → Nat} {r : Nat → Nat → Option Nat} {o : Nat} {hh : Nat} {p : HI} (hS : PS sh r hh o) (C : CX X yX3_speakStep.cls cX3_speakStep 9 1) (hZ : SZX X adr) (E : RX X none sh adr (fun v τ => v = none ∧ τ = mk p r)) {h : HI} {v1 : Int32} {v2 : Int64} {v4 : Int32} {v5 : Int32} (H : fX3_speakStep_26 o h v1 v2 v4 v5 = some p) : WW X (sh, adr, 0, 0) 26 [.ref o, .int v1, .long v2, .retAddr 0, .int v4, .int v5, .retAddr 0, .retAddr 0, .retAddr 0] [] (mk h r) := by
  rw [fX3_speakStep_26] at H
  refine ww_iload C dX3_speakStep_26 rfl ?_
  refine ww_if_lt C dX3_speakStep_28 42 rfl (fun hc => ?_) (fun hc => ?_)
  · rw [if_pos hc] at H
    refine ww_iload_n C dX3_speakStep_42 1 rfl rfl ?_
    exact ww_drop [.ref o, .int v1, .long v2, .retAddr 0, .int v4, .retAddr 0, .retAddr 0, .retAddr 0, .retAddr 0] (sl_e (sl_e (sl_e (sl_e (sl_e (sl_d (sl_e (sl_e (sl_e sl_n))))))))) (cX3_speakStep_43 hS C hZ E H)
  · rw [if_neg hc] at H
    refine ww_iload_n C dX3_speakStep_31 1 rfl rfl ?_
    refine ww_aload_n C dX3_speakStep_32 0 rfl rfl ?_
    refine ww_iload C dX3_speakStep_33 rfl ?_
    obtain ⟨p4, hc1, H⟩ := bd_of H
    refine ww_callV C hZ dX3_speakStep_35 cw_X3_171 (ccX3_spokenBit hS hc1) hS.1 ⟨by decide, rfl⟩ (by decide) rfl rfl (Nat.le_of_ble_eq_true rfl) ⟨Nat.zero_le _, Nat.zero_le _⟩ (fun v τ hp => ?_)
    obtain ⟨rfl, rfl⟩ := hp
    change WW X _ 38 [.ref o, .int v1, .long v2, .retAddr 0, .int v4, .int v5, .retAddr 0, .retAddr 0, .retAddr 0] [.int p4.1, .int v1] _
    refine ww_ior C dX3_speakStep_38 ?_
    refine ww_goto C dX3_speakStep_39 43 rfl ?_
    exact ww_drop [.ref o, .int v1, .long v2, .retAddr 0, .int v4, .retAddr 0, .retAddr 0, .retAddr 0, .retAddr 0] (sl_e (sl_e (sl_e (sl_e (sl_e (sl_d (sl_e (sl_e (sl_e sl_n))))))))) (cX3_speakStep_43 hS C hZ E H)
def fX3_speakStep (o : Nat) (h : HI) (a1 : Int32) (a2 : Int64) (a4 : Int32) : Option (HI) := (if inB a4 4 then (if (h.1 (o + 5) (a4.toNatClampNeg)) < 0 then fX3_speakStep_26 o h a1 a2 a4 (h.1 (o + 5) (a4.toNatClampNeg)) else ((fX3_passedBit o h (h.1 (o + 5) (a4.toNatClampNeg))).bind fun p5 => (if (a1 &&& p5.1) = 0 then fX3_speakStep_26 o p5.2 a1 a2 a4 (h.1 (o + 5) (a4.toNatClampNeg)) else some p5.2))) else none)
set_option maxRecDepth 100000 in
set_option maxHeartbeats 4000000 in
theorem ccX3_speakStep {l : Launch} {sh : Sh} {adr : Nat → Nat} {r : Nat → Nat → Option Nat} {o : Nat} {hh : Nat} (hS : PS sh r hh o) {h : HI} {a1 : Int32} {a2 : Int64} {a4 : Int32} {p : HI} (H : fX3_speakStep o h a1 a2 a4 = some p) : CC l yX3_speakStep cX3_speakStep 9 none 1 [.ref o, .int a1, .long a2, .int a4] sh adr (mk h r) (fun v τ => v = none ∧ τ = mk p r) := by
  refine CC.of (by decide) (Nat.le_of_ble_eq_true rfl) 4 [.ref o, .int a1, .long a2, .retAddr 0, .int a4, .retAddr 0, .retAddr 0, .retAddr 0, .retAddr 0] rfl (fun X _ C E hZ => ?_)
  rw [fX3_speakStep] at H
  refine ww_aload_n C dX3_speakStep_0 0 rfl rfl ?_
  refine wk_getR C dX3_speakStep_1 fl_X3_26 hS.1 rfl (tX3_goalOf hS).1 ?_
  refine ww_iload C dX3_speakStep_4 rfl ?_
  obtain ⟨hg, H⟩ := gd_of H
  refine wk_iaload C dX3_speakStep_6 (tX3_goalOf hS).2.1 (vp_of hg (tX3_goalOf hS).2.2) (a4.toNatClampNeg) rfl ?_
  refine ww_istore C dX3_speakStep_7 (by decide) rfl [.ref o, .int a1, .long a2, .retAddr 0, .int a4, .int (h.1 (o + 5) (a4.toNatClampNeg)), .retAddr 0, .retAddr 0, .retAddr 0] rfl ?_
  refine ww_iload C dX3_speakStep_9 rfl ?_
  refine ww_if_lt C dX3_speakStep_11 26 rfl (fun hc => ?_) (fun hc => ?_)
  · rw [if_pos hc] at H
    exact cX3_speakStep_26 hS C hZ E H
  · rw [if_neg hc] at H
    refine ww_iload_n C dX3_speakStep_14 1 rfl rfl ?_
    refine ww_aload_n C dX3_speakStep_15 0 rfl rfl ?_
    refine ww_iload C dX3_speakStep_16 rfl ?_
    obtain ⟨p5, hc1, H⟩ := bd_of H
    refine ww_callV C hZ dX3_speakStep_18 cw_X3_195 (ccX3_passedBit hS hc1) hS.1 ⟨by decide, rfl⟩ (by decide) rfl rfl (Nat.le_of_ble_eq_true rfl) ⟨Nat.zero_le _, Nat.zero_le _⟩ (fun v τ hp => ?_)
    obtain ⟨rfl, rfl⟩ := hp
    change WW X _ 21 [.ref o, .int a1, .long a2, .retAddr 0, .int a4, .int (h.1 (o + 5) (a4.toNatClampNeg)), .retAddr 0, .retAddr 0, .retAddr 0] [.int p5.1, .int a1] _
    refine ww_iand C dX3_speakStep_21 ?_
    refine ww_if_eq C dX3_speakStep_22 26 rfl (fun hc => ?_) (fun hc => ?_)
    · rw [if_pos hc] at H
      exact cX3_speakStep_26 hS C hZ E H
    · rw [if_neg hc] at H
      cases H
      exact ww_vret C E dX3_speakStep_25 ⟨rfl, rfl⟩
def fX3_step_64 (o : Nat) (hh : Nat) (k : HI → Int32 → Int32 → Int64 → Int64 → Option (HI)) (kb : HI → Int32 → Int32 → Int64 → Int64 → Int32 → Option (HI)) (h : HI) (v1 : Int32) (v2 : Int32) (v3 : Int64) (v5 : Int64) (v7 : Int32) : Option (HI) := kb h v1 v2 v3 v5 (v7 + (1 : Int32))
set_option maxRecDepth 100000 in
set_option maxHeartbeats 4000000 in
theorem cX3_step_64 {X : CT} {sh : Sh} {adr : Nat → Nat} {r : Nat → Nat → Option Nat} {o : Nat} {hh : Nat} {p : HI} (hS : PS sh r hh o) (C : CX X yX3_step.cls cX3_step 10 3) (hZ : SZX X adr) (E : RX X none sh adr (fun v τ => v = none ∧ τ = mk p r)) {k : HI → Int32 → Int32 → Int64 → Int64 → Option (HI)} {kb : HI → Int32 → Int32 → Int64 → Int64 → Int32 → Option (HI)} (hk : ∀ (h : HI) (v1 : Int32) (v2 : Int32) (v3 : Int64) (v5 : Int64), k h v1 v2 v3 v5 = some p → WW X (sh, adr, 0, 0) 70 [.ref o, .int v1, .int v2, .long v3, .retAddr 0, .long v5, .retAddr 0, .retAddr 0, .retAddr 0, .retAddr 0] [] (mk h r)) (hb : ∀ (h : HI) (v1 : Int32) (v2 : Int32) (v3 : Int64) (v5 : Int64) (v7 : Int32), kb h v1 v2 v3 v5 v7 = some p → WW X (sh, adr, 0, 0) 13 [.ref o, .int v1, .int v2, .long v3, .retAddr 0, .long v5, .retAddr 0, .int v7, .retAddr 0, .retAddr 0] [] (mk h r)) {h : HI} {v1 : Int32} {v2 : Int32} {v3 : Int64} {v5 : Int64} {v7 : Int32} (H : fX3_step_64 o hh k kb h v1 v2 v3 v5 v7 = some p) : WW X (sh, adr, 0, 0) 64 [.ref o, .int v1, .int v2, .long v3, .retAddr 0, .long v5, .retAddr 0, .int v7, .retAddr 0, .retAddr 0] [] (mk h r) := by
  rw [fX3_step_64] at H
  refine ww_iinc (v := (v7 + (1 : Int32))) C dX3_step_64 rfl rfl (by decide) rfl [.ref o, .int v1, .int v2, .long v3, .retAddr 0, .long v5, .retAddr 0, .int (v7 + (1 : Int32)), .retAddr 0, .retAddr 0] rfl ?_
  refine ww_goto C dX3_step_67 13 rfl ?_
  exact hb h v1 v2 v3 v5 (v7 + (1 : Int32)) H
def fX3_step_13 (o : Nat) (hh : Nat) (k : HI → Int32 → Int32 → Int64 → Int64 → Option (HI)) : Nat → HI → Int32 → Int32 → Int64 → Int64 → Int32 → Option (HI)
  | 0, _, _, _, _, _, _ => none
  | n + 1, h, v1, v2, v3, v5, v7 => (if (6 : Int32) ≤ v7 then k h v1 v2 v3 v5 else (if (((h.1 o 11) >>> (v7 &&& 31)) &&& (1 : Int32)) = 0 then fX3_step_64 o hh (k) (fX3_step_13 o hh k n) h v1 v2 v3 v5 v7 else (if inB v7 6 then fX3_step_64 o hh (k) (fX3_step_13 o hh k n) h v1 v2 v3 (v5 ||| (((v3 &&& (WO.getD (v7.toNatClampNeg) 0)) <<< (((1 : Int32) <<< (v7 &&& 31)).toInt64 &&& 63)) ||| (((v3 ^^^ (v3 &&& (WO.getD (v7.toNatClampNeg) 0))).toUInt64 >>> (((1 : Int32) <<< (v7 &&& 31)).toInt64.toUInt64 &&& Int64.toUInt64 63)).toInt64))) v7 else none)))
set_option maxRecDepth 100000 in
set_option maxHeartbeats 4000000 in
theorem cX3_step_13 {X : CT} {sh : Sh} {adr : Nat → Nat} {r : Nat → Nat → Option Nat} {o : Nat} {hh : Nat} {p : HI} (hS : PS sh r hh o) (C : CX X yX3_step.cls cX3_step 10 3) (hZ : SZX X adr) (E : RX X none sh adr (fun v τ => v = none ∧ τ = mk p r)) {k : HI → Int32 → Int32 → Int64 → Int64 → Option (HI)} (hk : ∀ (h : HI) (v1 : Int32) (v2 : Int32) (v3 : Int64) (v5 : Int64), k h v1 v2 v3 v5 = some p → WW X (sh, adr, 0, 0) 70 [.ref o, .int v1, .int v2, .long v3, .retAddr 0, .long v5, .retAddr 0, .retAddr 0, .retAddr 0, .retAddr 0] [] (mk h r)) : ∀ (n : Nat) (h : HI) (v1 : Int32) (v2 : Int32) (v3 : Int64) (v5 : Int64) (v7 : Int32), fX3_step_13 o hh k n h v1 v2 v3 v5 v7 = some p → WW X (sh, adr, 0, 0) 13 [.ref o, .int v1, .int v2, .long v3, .retAddr 0, .long v5, .retAddr 0, .int v7, .retAddr 0, .retAddr 0] [] (mk h r) := by
  intro n
  induction n with
  | zero =>
    intro h v1 v2 v3 v5 v7 H
    rw [fX3_step_13] at H
    cases H
  | succ n ih =>
    intro h v1 v2 v3 v5 v7 H
    rw [fX3_step_13] at H
    refine ww_iload C dX3_step_13 rfl ?_
    refine ww_bipush (v := (6 : Int32)) C dX3_step_15 (by decide) ?_
    refine ww_icmp_ge C dX3_step_17 70 rfl (fun hc => ?_) (fun hc => ?_)
    · rw [if_pos hc] at H
      exact ww_drop [.ref o, .int v1, .int v2, .long v3, .retAddr 0, .long v5, .retAddr 0, .retAddr 0, .retAddr 0, .retAddr 0] (sl_e (sl_e (sl_e (sl_e (sl_e (sl_e (sl_e (sl_d (sl_e (sl_e sl_n)))))))))) (hk h v1 v2 v3 v5 H)
    · rw [if_neg hc] at H
      refine ww_aload_n C dX3_step_20 0 rfl rfl ?_
      refine wk_getI C dX3_step_21 fl_X3_45 hS.1 rfl ?_
      refine ww_iload C dX3_step_24 rfl ?_
      refine ww_ishr C dX3_step_26 ?_
      refine ww_iconst (v := (1 : Int32)) C dX3_step_27 (by decide) ?_
      refine ww_iand C dX3_step_28 ?_
      refine ww_if_eq C dX3_step_29 64 rfl (fun hc => ?_) (fun hc => ?_)
      · rw [if_pos hc] at H
        exact cX3_step_64 hS C hZ E hk ih H
      · rw [if_neg hc] at H
        refine ww_lload_n C dX3_step_32 3 rfl rfl ?_
        refine ww_getsW C hZ dX3_step_33 ?_
        refine ww_iload C dX3_step_36 rfl ?_
        obtain ⟨hg, H⟩ := gd_of H
        refine ww_lalW C hZ dX3_step_38 (vp_of hg rfl) (v7.toNatClampNeg) rfl ?_
        refine ww_land C dX3_step_39 ?_
        refine ww_lstore C dX3_step_40 (by decide) rfl [.ref o, .int v1, .int v2, .long v3, .retAddr 0, .long v5, .retAddr 0, .int v7, .long (v3 &&& (WO.getD (v7.toNatClampNeg) 0)), .retAddr 0] rfl ?_
        refine ww_lload C dX3_step_42 rfl ?_
        refine ww_lload C dX3_step_44 rfl ?_
        refine ww_iconst (v := (1 : Int32)) C dX3_step_46 (by decide) ?_
        refine ww_iload C dX3_step_47 rfl ?_
        refine ww_ishl C dX3_step_49 ?_
        refine ww_lshl C dX3_step_50 ?_
        refine ww_lload_n C dX3_step_51 3 rfl rfl ?_
        refine ww_lload C dX3_step_52 rfl ?_
        refine ww_lxor C dX3_step_54 ?_
        refine ww_iconst (v := (1 : Int32)) C dX3_step_55 (by decide) ?_
        refine ww_iload C dX3_step_56 rfl ?_
        refine ww_ishl C dX3_step_58 ?_
        refine ww_lushr C dX3_step_59 ?_
        refine ww_lor C dX3_step_60 ?_
        refine ww_lor C dX3_step_61 ?_
        refine ww_lstore C dX3_step_62 (by decide) rfl [.ref o, .int v1, .int v2, .long v3, .retAddr 0, .long (v5 ||| (((v3 &&& (WO.getD (v7.toNatClampNeg) 0)) <<< (((1 : Int32) <<< (v7 &&& 31)).toInt64 &&& 63)) ||| (((v3 ^^^ (v3 &&& (WO.getD (v7.toNatClampNeg) 0))).toUInt64 >>> (((1 : Int32) <<< (v7 &&& 31)).toInt64.toUInt64 &&& Int64.toUInt64 63)).toInt64))), .retAddr 0, .int v7, .long (v3 &&& (WO.getD (v7.toNatClampNeg) 0)), .retAddr 0] rfl ?_
        exact ww_drop [.ref o, .int v1, .int v2, .long v3, .retAddr 0, .long (v5 ||| (((v3 &&& (WO.getD (v7.toNatClampNeg) 0)) <<< (((1 : Int32) <<< (v7 &&& 31)).toInt64 &&& 63)) ||| (((v3 ^^^ (v3 &&& (WO.getD (v7.toNatClampNeg) 0))).toUInt64 >>> (((1 : Int32) <<< (v7 &&& 31)).toInt64.toUInt64 &&& Int64.toUInt64 63)).toInt64))), .retAddr 0, .int v7, .retAddr 0, .retAddr 0] (sl_e (sl_e (sl_e (sl_e (sl_e (sl_e (sl_e (sl_e (sl_d (sl_e sl_n)))))))))) (cX3_step_64 hS C hZ E hk ih H)
def fX3_step_128 (o : Nat) (hh : Nat) (k : HI → Option (HI)) (kb : HI → Int32 → Int32 → Int64 → Int32 → Option (HI)) (h : HI) (v1 : Int32) (v2 : Int32) (v3 : Int64) (v7 : Int32) : Option (HI) := kb h v1 v2 v3 (v7 + (1 : Int32))
set_option maxRecDepth 100000 in
set_option maxHeartbeats 4000000 in
theorem cX3_step_128 {X : CT} {sh : Sh} {adr : Nat → Nat} {r : Nat → Nat → Option Nat} {o : Nat} {hh : Nat} {p : HI} (hS : PS sh r hh o) (C : CX X yX3_step.cls cX3_step 10 3) (hZ : SZX X adr) (E : RX X none sh adr (fun v τ => v = none ∧ τ = mk p r)) {k : HI → Option (HI)} {kb : HI → Int32 → Int32 → Int64 → Int32 → Option (HI)} (hk : ∀ (h : HI), k h = some p → WW X (sh, adr, 0, 0) 134 [.ref o, .retAddr 0, .retAddr 0, .retAddr 0, .retAddr 0, .retAddr 0, .retAddr 0, .retAddr 0, .retAddr 0, .retAddr 0] [] (mk h r)) (hb : ∀ (h : HI) (v1 : Int32) (v2 : Int32) (v3 : Int64) (v7 : Int32), kb h v1 v2 v3 v7 = some p → WW X (sh, adr, 0, 0) 85 [.ref o, .int v1, .int v2, .long v3, .retAddr 0, .retAddr 0, .retAddr 0, .int v7, .retAddr 0, .retAddr 0] [] (mk h r)) {h : HI} {v1 : Int32} {v2 : Int32} {v3 : Int64} {v7 : Int32} (H : fX3_step_128 o hh k kb h v1 v2 v3 v7 = some p) : WW X (sh, adr, 0, 0) 128 [.ref o, .int v1, .int v2, .long v3, .retAddr 0, .retAddr 0, .retAddr 0, .int v7, .retAddr 0, .retAddr 0] [] (mk h r) := by
  rw [fX3_step_128] at H
  refine ww_iinc (v := (v7 + (1 : Int32))) C dX3_step_128 rfl rfl (by decide) rfl [.ref o, .int v1, .int v2, .long v3, .retAddr 0, .retAddr 0, .retAddr 0, .int (v7 + (1 : Int32)), .retAddr 0, .retAddr 0] rfl ?_
  refine ww_goto C dX3_step_131 85 rfl ?_
  exact hb h v1 v2 v3 (v7 + (1 : Int32)) H
def fX3_step_85 (o : Nat) (hh : Nat) (k : HI → Option (HI)) : Nat → HI → Int32 → Int32 → Int64 → Int32 → Option (HI)
  | 0, _, _, _, _, _ => none
  | n + 1, h, v1, v2, v3, v7 => (if (h.1 (hh + 5) 1) ≤ v7 then k h else (if inB v7 4 then (if (h.1 (o + 8) (v7.toNatClampNeg)) ≤ v2 then fX3_step_128 o hh (k) (fX3_step_85 o hh k n) h v1 v2 v3 v7 else ((fX3_speakStep o h v1 v3 v7).bind fun h4 => ((fX3_voteStep o hh h4 v1 v3 v7 v2).bind fun h5 => fX3_step_128 o hh (k) (fX3_step_85 o hh k n) h5 v1 v2 v3 v7))) else none))
set_option maxRecDepth 100000 in
set_option maxHeartbeats 4000000 in
theorem cX3_step_85 {X : CT} {sh : Sh} {adr : Nat → Nat} {r : Nat → Nat → Option Nat} {o : Nat} {hh : Nat} {p : HI} (hS : PS sh r hh o) (C : CX X yX3_step.cls cX3_step 10 3) (hZ : SZX X adr) (E : RX X none sh adr (fun v τ => v = none ∧ τ = mk p r)) {k : HI → Option (HI)} (hk : ∀ (h : HI), k h = some p → WW X (sh, adr, 0, 0) 134 [.ref o, .retAddr 0, .retAddr 0, .retAddr 0, .retAddr 0, .retAddr 0, .retAddr 0, .retAddr 0, .retAddr 0, .retAddr 0] [] (mk h r)) : ∀ (n : Nat) (h : HI) (v1 : Int32) (v2 : Int32) (v3 : Int64) (v7 : Int32), fX3_step_85 o hh k n h v1 v2 v3 v7 = some p → WW X (sh, adr, 0, 0) 85 [.ref o, .int v1, .int v2, .long v3, .retAddr 0, .retAddr 0, .retAddr 0, .int v7, .retAddr 0, .retAddr 0] [] (mk h r) := by
  intro n
  induction n with
  | zero =>
    intro h v1 v2 v3 v7 H
    rw [fX3_step_85] at H
    cases H
  | succ n ih =>
    intro h v1 v2 v3 v7 H
    rw [fX3_step_85] at H
    refine ww_iload C dX3_step_85 rfl ?_
    refine ww_aload_n C dX3_step_87 0 rfl rfl ?_
    refine wk_getA C dX3_step_88 fl_X3_38 hS.1 rfl (tX3_hall hS).1 ?_
    refine wk_getA C dX3_step_91 fl_X3_93 (tX3_hall hS).2.1 rfl (tX1_matters (tX3_hall hS).2).1 ?_
    refine wk_getI C dX3_step_94 fl_X3_99 (tX1_matters (tX3_hall hS).2).2.1 rfl ?_
    refine ww_icmp_ge C dX3_step_97 134 rfl (fun hc => ?_) (fun hc => ?_)
    · rw [if_pos hc] at H
      exact ww_drop [.ref o, .retAddr 0, .retAddr 0, .retAddr 0, .retAddr 0, .retAddr 0, .retAddr 0, .retAddr 0, .retAddr 0, .retAddr 0] (sl_e (sl_d (sl_d (sl_d (sl_e (sl_e (sl_e (sl_d (sl_e (sl_e sl_n)))))))))) (hk h H)
    · rw [if_neg hc] at H
      refine ww_iload_n C dX3_step_100 2 rfl rfl ?_
      refine ww_aload_n C dX3_step_101 0 rfl rfl ?_
      refine wk_getR C dX3_step_102 fl_X3_35 hS.1 rfl (tX3_lasts hS).1 ?_
      refine ww_iload C dX3_step_105 rfl ?_
      obtain ⟨hg, H⟩ := gd_of H
      refine wk_iaload C dX3_step_107 (tX3_lasts hS).2.1 (vp_of hg (tX3_lasts hS).2.2) (v7.toNatClampNeg) rfl ?_
      refine ww_icmp_ge C dX3_step_108 128 rfl (fun hc => ?_) (fun hc => ?_)
      · rw [if_pos hc] at H
        exact cX3_step_128 hS C hZ E hk ih H
      · rw [if_neg hc] at H
        refine ww_aload_n C dX3_step_111 0 rfl rfl ?_
        refine ww_iload_n C dX3_step_112 1 rfl rfl ?_
        refine ww_lload_n C dX3_step_113 3 rfl rfl ?_
        refine ww_iload C dX3_step_114 rfl ?_
        obtain ⟨h4, hc1, H⟩ := bd_of H
        refine ww_callV C hZ dX3_step_116 cw_X3_185 (ccX3_speakStep hS hc1) hS.1 ⟨by decide, rfl⟩ (by decide) rfl rfl (Nat.le_of_ble_eq_true rfl) ⟨Nat.zero_le _, Nat.zero_le _⟩ (fun v τ hp => ?_)
        obtain ⟨rfl, rfl⟩ := hp
        change WW X _ 119 [.ref o, .int v1, .int v2, .long v3, .retAddr 0, .retAddr 0, .retAddr 0, .int v7, .retAddr 0, .retAddr 0] [] _
        refine ww_aload_n C dX3_step_119 0 rfl rfl ?_
        refine ww_iload_n C dX3_step_120 1 rfl rfl ?_
        refine ww_lload_n C dX3_step_121 3 rfl rfl ?_
        refine ww_iload C dX3_step_122 rfl ?_
        refine ww_iload_n C dX3_step_124 2 rfl rfl ?_
        obtain ⟨h5, hc1, H⟩ := bd_of H
        refine ww_callV C hZ dX3_step_125 cw_X3_189 (ccX3_voteStep hS hc1) hS.1 ⟨by decide, rfl⟩ (by decide) rfl rfl (Nat.le_of_ble_eq_true rfl) ⟨Nat.zero_le _, Nat.zero_le _⟩ (fun v τ hp => ?_)
        obtain ⟨rfl, rfl⟩ := hp
        change WW X _ 128 [.ref o, .int v1, .int v2, .long v3, .retAddr 0, .retAddr 0, .retAddr 0, .int v7, .retAddr 0, .retAddr 0] [] _
        exact cX3_step_128 hS C hZ E hk ih H
def fX3_step (o : Nat) (hh : Nat) (h : HI) (a1 : Int32) (a2 : Int32) : Option (HI) := (if inB a1 4096 then fX3_step_13 o hh (fun h2 v1 v2 v3 v5 => ((fX3_add o h2 v1 (v5 &&& (h2.2 o 12))).bind fun h3 => fX3_step_85 o hh (fun h7 => some h7) FU h3 v1 v2 v3 (0 : Int32))) FU h a1 a2 (h.2 (o + 1) (a1.toNatClampNeg)) (h.2 (o + 1) (a1.toNatClampNeg)) (0 : Int32) else none)
set_option maxRecDepth 100000 in
set_option maxHeartbeats 4000000 in
theorem ccX3_step {l : Launch} {sh : Sh} {adr : Nat → Nat} {r : Nat → Nat → Option Nat} {o : Nat} {hh : Nat} (hS : PS sh r hh o) {h : HI} {a1 : Int32} {a2 : Int32} {p : HI} (H : fX3_step o hh h a1 a2 = some p) : CC l yX3_step cX3_step 10 none 3 [.ref o, .int a1, .int a2] sh adr (mk h r) (fun v τ => v = none ∧ τ = mk p r) := by
  refine CC.of (by decide) (Nat.le_of_ble_eq_true rfl) 7 [.ref o, .int a1, .int a2, .retAddr 0, .retAddr 0, .retAddr 0, .retAddr 0, .retAddr 0, .retAddr 0, .retAddr 0] rfl (fun X _ C E hZ => ?_)
  rw [fX3_step] at H
  refine ww_aload_n C dX3_step_0 0 rfl rfl ?_
  refine wk_getR C dX3_step_1 fl_X3_11 hS.1 rfl (tX3_reach hS).1 ?_
  refine ww_iload_n C dX3_step_4 1 rfl rfl ?_
  obtain ⟨hg, H⟩ := gd_of H
  refine wk_laload C dX3_step_5 (tX3_reach hS).2.1 (vp_of hg (tX3_reach hS).2.2) (a1.toNatClampNeg) rfl ?_
  refine ww_lstore_n C dX3_step_6 3 rfl (by decide) rfl [.ref o, .int a1, .int a2, .long (h.2 (o + 1) (a1.toNatClampNeg)), .retAddr 0, .retAddr 0, .retAddr 0, .retAddr 0, .retAddr 0, .retAddr 0] rfl ?_
  refine ww_lload_n C dX3_step_7 3 rfl rfl ?_
  refine ww_lstore C dX3_step_8 (by decide) rfl [.ref o, .int a1, .int a2, .long (h.2 (o + 1) (a1.toNatClampNeg)), .retAddr 0, .long (h.2 (o + 1) (a1.toNatClampNeg)), .retAddr 0, .retAddr 0, .retAddr 0, .retAddr 0] rfl ?_
  refine ww_iconst (v := (0 : Int32)) C dX3_step_10 (by decide) ?_
  refine ww_istore C dX3_step_11 (by decide) rfl [.ref o, .int a1, .int a2, .long (h.2 (o + 1) (a1.toNatClampNeg)), .retAddr 0, .long (h.2 (o + 1) (a1.toNatClampNeg)), .retAddr 0, .int (0 : Int32), .retAddr 0, .retAddr 0] rfl ?_
  refine cX3_step_13 hS C hZ E (fun h2 v1 v2 v3 v5 H => ?_) FU h a1 a2 (h.2 (o + 1) (a1.toNatClampNeg)) (h.2 (o + 1) (a1.toNatClampNeg)) (0 : Int32) H
  refine ww_aload_n C dX3_step_70 0 rfl rfl ?_
  refine ww_iload_n C dX3_step_71 1 rfl rfl ?_
  refine ww_lload C dX3_step_72 rfl ?_
  refine ww_aload_n C dX3_step_74 0 rfl rfl ?_
  refine wk_getJ C dX3_step_75 fl_X3_81 hS.1 rfl ?_
  refine ww_land C dX3_step_78 ?_
  obtain ⟨h3, hc1, H⟩ := bd_of H
  refine ww_callV C hZ dX3_step_79 cw_X3_181 (ccX3_add hS hc1) hS.1 ⟨by decide, rfl⟩ (by decide) rfl rfl (Nat.le_of_ble_eq_true rfl) ⟨Nat.zero_le _, Nat.zero_le _⟩ (fun v τ hp => ?_)
  obtain ⟨rfl, rfl⟩ := hp
  change WW X _ 82 [.ref o, .int v1, .int v2, .long v3, .retAddr 0, .long v5, .retAddr 0, .retAddr 0, .retAddr 0, .retAddr 0] [] _
  refine ww_iconst (v := (0 : Int32)) C dX3_step_82 (by decide) ?_
  refine ww_istore C dX3_step_83 (by decide) rfl [.ref o, .int v1, .int v2, .long v3, .retAddr 0, .long v5, .retAddr 0, .int (0 : Int32), .retAddr 0, .retAddr 0] rfl ?_
  refine ww_drop [.ref o, .int v1, .int v2, .long v3, .retAddr 0, .retAddr 0, .retAddr 0, .int (0 : Int32), .retAddr 0, .retAddr 0] (sl_e (sl_e (sl_e (sl_e (sl_e (sl_d (sl_e (sl_e (sl_e (sl_e sl_n)))))))))) (cX3_step_85 hS C hZ E (fun h7 H => ?_) FU h3 v1 v2 v3 (0 : Int32) H)
  cases H
  exact ww_vret C E dX3_step_134 ⟨rfl, rfl⟩
