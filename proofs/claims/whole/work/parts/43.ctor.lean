def SHF : List (Nat × Nat) := [(8, 0), (7, 0), (10, 1700), (14, 3), (13, 3), (0, 0), (11, 40), (11, 40), (11, 40), (11, 40), (11, 40), (1, 0), (2, 0), (12, 6), (2, 0), (12, 6), (2, 0), (12, 4), (11, 6), (11, 6), (11, 4), (11, 4), (11, 4), (11, 4), (11, 4), (11, 4), (11, 4), (11, 4), (11, 4), (5, 0), (11, 400), (11, 42), (1, 0), (2, 0), (12, 6), (2, 0), (12, 6), (2, 0), (12, 4), (11, 6), (11, 6), (11, 4), (11, 4), (11, 4), (11, 4), (11, 4), (11, 4), (11, 4), (11, 4), (11, 4), (5, 0), (11, 400), (11, 42), (4, 0), (2, 0), (12, 21), (6, 0), (11, 6), (11, 6), (11, 6), (11, 6), (11, 4), (11, 4), (11, 24), (12, 200), (3, 0), (12, 4096), (12, 64), (13, 343), (11, 4), (11, 4), (11, 4), (11, 24), (11, 4), (6, 0), (11, 6), (11, 6), (11, 6), (11, 6), (11, 4), (11, 4), (11, 24), (12, 200), (6, 0), (11, 6), (11, 6), (11, 6), (11, 6), (11, 4), (11, 4), (11, 24), (12, 200), (6, 0), (11, 6), (11, 6), (11, 6), (11, 6), (11, 4), (11, 4), (11, 24), (12, 200), (9, 0), (11, 1700), (11, 640), (11, 640), (11, 640), (11, 640), (11, 300), (11, 50), (11, 6), (12, 30), (11, 3), (11, 3), (11, 6), (11, 6), (11, 4), (11, 24), (11, 16), (11, 6), (11, 6), (11, 4), (11, 24), (11, 16), (13, 6), (13, 6), (13, 24), (13, 6), (13, 6), (11, 6), (11, 6), (11, 6), (11, 6), (11, 4), (11, 4), (13, 6), (13, 6), (11, 600), (11, 1206), (11, 262144), (11, 262144), (13, 4096), (13, 4096), (11, 3), (11, 40), (11, 40), (11, 40), (11, 40), (11, 40), (13, 3), (11, 90), (11, 36), (11, 24), (11, 1800), (11, 3618), (11, 9)]
/-- the references put, the latest first -/
def LR : List (Nat × Nat × Nat) := [(101, 87, 154), (101, 86, 153), (101, 85, 152), (101, 84, 151), (101, 83, 150), (101, 82, 149), (101, 81, 148), (101, 78, 147), (101, 77, 146), (101, 76, 145), (101, 75, 144), (101, 74, 143), (101, 73, 142), (101, 72, 141), (101, 71, 140), (101, 63, 139), (101, 62, 138), (101, 61, 137), (101, 60, 136), (101, 56, 135), (101, 55, 134), (101, 54, 133), (101, 53, 132), (101, 52, 131), (101, 51, 130), (101, 50, 129), (101, 49, 128), (101, 40, 127), (101, 39, 126), (101, 38, 125), (101, 37, 124), (101, 36, 123), (101, 35, 122), (101, 34, 121), (101, 33, 120), (101, 32, 119), (101, 31, 118), (101, 30, 117), (101, 29, 116), (101, 28, 115), (101, 27, 114), (101, 26, 113), (101, 25, 112), (101, 24, 111), (101, 23, 110), (101, 16, 109), (101, 15, 108), (101, 14, 107), (101, 13, 106), (101, 12, 105), (101, 11, 104), (101, 10, 103), (101, 0, 102), (3, 2, 92), (92, 0, 11), (92, 13, 100), (92, 12, 99), (92, 11, 98), (92, 10, 97), (92, 9, 96), (92, 8, 95), (92, 7, 94), (92, 6, 93), (3, 1, 83), (83, 0, 11), (83, 13, 91), (83, 12, 90), (83, 11, 89), (83, 10, 88), (83, 9, 87), (83, 8, 86), (83, 7, 85), (83, 6, 84), (3, 0, 74), (74, 0, 11), (74, 13, 82), (74, 12, 81), (74, 11, 80), (74, 10, 79), (74, 9, 78), (74, 8, 77), (74, 7, 76), (74, 6, 75), (0, 5, 65), (65, 8, 11), (65, 7, 73), (65, 6, 72), (65, 5, 71), (65, 4, 70), (65, 3, 69), (65, 2, 68), (65, 1, 67), (65, 0, 66), (0, 2, 56), (56, 0, 11), (56, 13, 64), (56, 12, 63), (56, 11, 62), (56, 10, 61), (56, 9, 60), (56, 8, 59), (56, 7, 58), (56, 6, 57), (0, 1, 53), (53, 2, 32), (53, 0, 1), (53, 1, 54), (54, 0, 55), (0, 8, 32), (32, 19, 50), (50, 1, 52), (50, 0, 51), (32, 16, 49), (32, 15, 48), (32, 14, 47), (32, 13, 46), (32, 11, 45), (32, 10, 44), (32, 9, 43), (32, 8, 42), (32, 7, 41), (32, 5, 40), (32, 3, 39), (32, 2, 37), (37, 0, 38), (32, 1, 35), (35, 0, 36), (32, 0, 33), (33, 0, 34), (0, 7, 11), (11, 19, 29), (29, 1, 31), (29, 0, 30), (11, 16, 28), (11, 15, 27), (11, 14, 26), (11, 13, 25), (11, 11, 24), (11, 10, 23), (11, 9, 22), (11, 8, 21), (11, 7, 20), (11, 5, 19), (11, 3, 18), (11, 2, 16), (16, 0, 17), (11, 1, 14), (14, 0, 15), (11, 0, 12), (12, 0, 13), (0, 6, 5), (5, 4, 10), (5, 3, 9), (5, 2, 8), (5, 1, 7), (5, 0, 6), (0, 4, 4), (0, 3, 3), (0, 0, 1), (1, 0, 2)]
theorem ow_obj : Cond.code objectInit ⟨#[0xb1]⟩ 1 none ∈ wT := tbw 27 (by decide +kernel) rfl
theorem ow_X8 : OW RX8 1 := ⟨(tbw 25 (by decide +kernel) rfl), (tbw 26 (by decide +kernel) rfl), ow_obj⟩
theorem nw_X8_7 : NCW RX8 7 7 := ⟨(tbw 28 (by decide +kernel) rfl), (tbw 29 (by decide +kernel) rfl), (tbw 2 (by decide +kernel) rfl)⟩
theorem ow_X7 : OW RX7 3 := ⟨(tbw 33 (by decide +kernel) rfl), (tbw 26 (by decide +kernel) rfl), ow_obj⟩
theorem aw_B : Cond.arrayClass .byte ∈ wT := (tbw 44 (by decide +kernel) rfl)
theorem in_X7 : IN yX7_init cX7_init 1 0 := ⟨(tbw 31 (by decide +kernel) rfl), (tbw 2 (by decide +kernel) rfl), (tbw 32 (by decide +kernel) rfl), by decide +kernel, by decide +kernel, by decide +kernel, rfl⟩
theorem qw_X8_16 : Cond.classLink RX8 16 RX6 ∈ wT := (tbw 45 (by decide +kernel) rfl)
theorem aw_Z : Cond.arrayClass .boolean ∈ wT := (tbw 77 (by decide +kernel) rfl)
theorem nw_X8_26 : NCW RX8 26 0 := ⟨(tbw 47 (by decide +kernel) rfl), (tbw 48 (by decide +kernel) rfl), (tbw 3 (by decide +kernel) rfl)⟩
theorem ow_X0 : OW RX0 3 := ⟨(tbw 52 (by decide +kernel) rfl), (tbw 26 (by decide +kernel) rfl), ow_obj⟩
theorem aw_I : Cond.arrayClass .int ∈ wT := (tbw 78 (by decide +kernel) rfl)
theorem in_X0 : IN yX0_init cX0_init 1 0 := ⟨(tbw 50 (by decide +kernel) rfl), (tbw 3 (by decide +kernel) rfl), (tbw 51 (by decide +kernel) rfl), by decide +kernel, by decide +kernel, by decide +kernel, rfl⟩
theorem nw_X8_33 : NCW RX8 33 1 := ⟨(tbw 79 (by decide +kernel) rfl), (tbw 80 (by decide +kernel) rfl), (tbw 4 (by decide +kernel) rfl)⟩
theorem ow_X1 : OW RX1 3 := ⟨(tbw 84 (by decide +kernel) rfl), (tbw 26 (by decide +kernel) rfl), ow_obj⟩
theorem nw_X1_9 : NCW RX1 9 2 := ⟨(tbw 85 (by decide +kernel) rfl), (tbw 86 (by decide +kernel) rfl), (tbw 5 (by decide +kernel) rfl)⟩
theorem ow_X2 : OW RX2 3 := ⟨(tbw 90 (by decide +kernel) rfl), (tbw 26 (by decide +kernel) rfl), ow_obj⟩
theorem aw_J : Cond.arrayClass .long ∈ wT := (tbw 105 (by decide +kernel) rfl)
theorem iw_X1_11 : IW RX1 11 yX2_init cX2_init 2 1 := ⟨(tbw 87 (by decide +kernel) rfl), (tbw 88 (by decide +kernel) rfl), (tbw 5 (by decide +kernel) rfl), (tbw 89 (by decide +kernel) rfl), by decide +kernel, by decide +kernel, by decide +kernel, rfl⟩
theorem nw_X1_60 : NCW RX1 60 5 := ⟨(tbw 106 (by decide +kernel) rfl), (tbw 107 (by decide +kernel) rfl), (tbw 7 (by decide +kernel) rfl)⟩
theorem ow_X5 : OW RX5 3 := ⟨(tbw 111 (by decide +kernel) rfl), (tbw 26 (by decide +kernel) rfl), ow_obj⟩
theorem iw_X1_62 : IW RX1 62 yX5_init cX5_init 1 0 := ⟨(tbw 108 (by decide +kernel) rfl), (tbw 109 (by decide +kernel) rfl), (tbw 7 (by decide +kernel) rfl), (tbw 110 (by decide +kernel) rfl), by decide +kernel, by decide +kernel, by decide +kernel, rfl⟩
theorem in_X1 : IN yX1_init cX1_init 1 0 := ⟨(tbw 82 (by decide +kernel) rfl), (tbw 4 (by decide +kernel) rfl), (tbw 83 (by decide +kernel) rfl), by decide +kernel, by decide +kernel, by decide +kernel, rfl⟩
theorem nw_X8_43 : NCW RX8 43 4 := ⟨(tbw 238 (by decide +kernel) rfl), (tbw 239 (by decide +kernel) rfl), (tbw 8 (by decide +kernel) rfl)⟩
theorem ow_X4 : OW RX4 3 := ⟨(tbw 243 (by decide +kernel) rfl), (tbw 26 (by decide +kernel) rfl), ow_obj⟩
theorem nw_X4_9 : NCW RX4 9 2 := ⟨(tbw 244 (by decide +kernel) rfl), (tbw 86 (by decide +kernel) rfl), (tbw 5 (by decide +kernel) rfl)⟩
theorem iw_X4_13 : IW RX4 13 yX2_init cX2_init 2 1 := ⟨(tbw 245 (by decide +kernel) rfl), (tbw 88 (by decide +kernel) rfl), (tbw 5 (by decide +kernel) rfl), (tbw 89 (by decide +kernel) rfl), by decide +kernel, by decide +kernel, by decide +kernel, rfl⟩
theorem iw_X8_45 : IW RX8 45 yX4_init cX4_init 7 2 := ⟨(tbw 240 (by decide +kernel) rfl), (tbw 241 (by decide +kernel) rfl), (tbw 8 (by decide +kernel) rfl), (tbw 242 (by decide +kernel) rfl), by decide +kernel, by decide +kernel, by decide +kernel, rfl⟩
theorem nw_X8_16 : NCW RX8 16 6 := ⟨(tbw 45 (by decide +kernel) rfl), (tbw 339 (by decide +kernel) rfl), (tbw 13 (by decide +kernel) rfl)⟩
theorem ow_X6 : OW RX6 3 := ⟨(tbw 343 (by decide +kernel) rfl), (tbw 26 (by decide +kernel) rfl), ow_obj⟩
theorem iw_X8_52 : IW RX8 52 yX6_init cX6_init 2 1 := ⟨(tbw 340 (by decide +kernel) rfl), (tbw 341 (by decide +kernel) rfl), (tbw 13 (by decide +kernel) rfl), (tbw 342 (by decide +kernel) rfl), by decide +kernel, by decide +kernel, by decide +kernel, rfl⟩
theorem nw_X8_59 : NCW RX8 59 3 := ⟨(tbw 407 (by decide +kernel) rfl), (tbw 408 (by decide +kernel) rfl), (tbw 15 (by decide +kernel) rfl)⟩
theorem ow_X3 : OW RX3 3 := ⟨(tbw 412 (by decide +kernel) rfl), (tbw 26 (by decide +kernel) rfl), ow_obj⟩
theorem iw_X8_61 : IW RX8 61 yX3_init cX3_init 2 1 := ⟨(tbw 409 (by decide +kernel) rfl), (tbw 410 (by decide +kernel) rfl), (tbw 15 (by decide +kernel) rfl), (tbw 411 (by decide +kernel) rfl), by decide +kernel, by decide +kernel, by decide +kernel, rfl⟩
theorem ow_X9 : OW RX9 1 := ⟨(tbw 1170 (by decide +kernel) rfl), (tbw 26 (by decide +kernel) rfl), ow_obj⟩

def gX7_1 (h : HI) : Option HI := some (zc h 2)
set_option maxRecDepth 100000 in
set_option maxHeartbeats 4000000 in
theorem caX7_1 {l : Launch} {h p : HI} (H : gX7_1 h = some p) : CA l yX7_init cX7_init 1 1 [.ref 1] (SHF.take 2) (mk h (lk (LR.drop 160))) 1 1700 (SHF.take 3) (fun τ => τ = mk p (lk (LR.drop 159))) := by
  refine CA.of (by decide) rfl (Nat.le_of_ble_eq_true rfl) 0 [.ref 1] rfl (fun X adr _ C E hZ hN => ?_)
  rw [gX7_1] at H
  have hag : AG adr adr (SHF.take 2).length := AG.rf
  refine ww_aload_n C dX7_init_0 0 rfl rfl ?_
  refine ww_objInit C dX7_init_1 ow_X7 (by decide) (Nat.le_of_ble_eq_true rfl) ?_
  refine ww_aload_n C dX7_init_4 0 rfl rfl ?_
  refine ww_sipush (v := (1700 : Int32)) C dX7_init_5 (by decide) ?_
  refine ww_newaB C hZ dX7_init_8 aw_B 1700 (by decide) (by decide) (by decide) 2 (by decide +kernel) (by decide) (by decide +kernel) (RXA.le E (by decide) (by decide)) rfl rfl (SHF.take 3) (by decide +kernel) (fun adr1 ha hZ => ?_)
  have hag := hag.tr ha (by decide)
  change WW X ((SHF.take 3), adr1, 1, 1700) 10 [.ref 1] [.ref 2, .ref 1] (mk (zc h 2) (lk (LR.drop 160)))
  refine wk_putFR C E dX7_init_10 fl_X7_9 (by decide +kernel : kd (SHF.take 3) 1 = 7) rfl rfl rfl ?_
  change WW X ((SHF.take 3), adr1, 1, 1700) 13 [.ref 1] [] (mk (zc h 2) (lk (LR.drop 159)))
  cases H
  exact ww_vretA C E hag dX7_init_13 rfl
def gX0_5 (h : HI) : Option HI := some (zc (zc (zc (zc (zc h 6) 7) 8) 9) 10)
set_option maxRecDepth 100000 in
set_option maxHeartbeats 4000000 in
theorem caX0_5 {l : Launch} {h p : HI} (H : gX0_5 h = some p) : CA l yX0_init cX0_init 1 1 [.ref 5] (SHF.take 6) (mk h (lk (LR.drop 156))) 5 200 (SHF.take 11) (fun τ => τ = mk p (lk (LR.drop 151))) := by
  refine CA.of (by decide) rfl (Nat.le_of_ble_eq_true rfl) 0 [.ref 5] rfl (fun X adr _ C E hZ hN => ?_)
  rw [gX0_5] at H
  have hag : AG adr adr (SHF.take 6).length := AG.rf
  refine ww_aload_n C dX0_init_0 0 rfl rfl ?_
  refine ww_objInit C dX0_init_1 ow_X0 (by decide) (Nat.le_of_ble_eq_true rfl) ?_
  refine ww_aload_n C dX0_init_4 0 rfl rfl ?_
  refine ww_bipush (v := (40 : Int32)) C dX0_init_5 (by decide) ?_
  refine ww_newaI C hZ dX0_init_7 aw_I 40 (by decide) (by decide) (by decide) 6 (by decide +kernel) (by decide) (by decide +kernel) (RXA.le E (by decide) (by decide)) rfl rfl (SHF.take 7) (by decide +kernel) (fun adr1 ha hZ => ?_)
  have hag := hag.tr ha (by decide)
  change WW X ((SHF.take 7), adr1, 1, 40) 9 [.ref 5] [.ref 6, .ref 5] (mk (zc h 6) (lk (LR.drop 156)))
  refine wk_putFR C E dX0_init_9 fl_X0_11 (by decide +kernel : kd (SHF.take 7) 5 = 0) rfl rfl rfl ?_
  change WW X ((SHF.take 7), adr1, 1, 40) 12 [.ref 5] [] (mk (zc h 6) (lk (LR.drop 155)))
  refine ww_aload_n C dX0_init_12 0 rfl rfl ?_
  refine ww_bipush (v := (40 : Int32)) C dX0_init_13 (by decide) ?_
  refine ww_newaI C hZ dX0_init_15 aw_I 40 (by decide) (by decide) (by decide) 7 (by decide +kernel) (by decide) (by decide +kernel) (RXA.le E (by decide) (by decide)) rfl rfl (SHF.take 8) (by decide +kernel) (fun adr2 ha hZ => ?_)
  have hag := hag.tr ha (by decide)
  change WW X ((SHF.take 8), adr2, 2, 80) 17 [.ref 5] [.ref 7, .ref 5] (mk (zc (zc h 6) 7) (lk (LR.drop 155)))
  refine wk_putFR C E dX0_init_17 fl_X0_15 (by decide +kernel : kd (SHF.take 8) 5 = 0) rfl rfl rfl ?_
  change WW X ((SHF.take 8), adr2, 2, 80) 20 [.ref 5] [] (mk (zc (zc h 6) 7) (lk (LR.drop 154)))
  refine ww_aload_n C dX0_init_20 0 rfl rfl ?_
  refine ww_bipush (v := (40 : Int32)) C dX0_init_21 (by decide) ?_
  refine ww_newaI C hZ dX0_init_23 aw_I 40 (by decide) (by decide) (by decide) 8 (by decide +kernel) (by decide) (by decide +kernel) (RXA.le E (by decide) (by decide)) rfl rfl (SHF.take 9) (by decide +kernel) (fun adr3 ha hZ => ?_)
  have hag := hag.tr ha (by decide)
  change WW X ((SHF.take 9), adr3, 3, 120) 25 [.ref 5] [.ref 8, .ref 5] (mk (zc (zc (zc h 6) 7) 8) (lk (LR.drop 154)))
  refine wk_putFR C E dX0_init_25 fl_X0_18 (by decide +kernel : kd (SHF.take 9) 5 = 0) rfl rfl rfl ?_
  change WW X ((SHF.take 9), adr3, 3, 120) 28 [.ref 5] [] (mk (zc (zc (zc h 6) 7) 8) (lk (LR.drop 153)))
  refine ww_aload_n C dX0_init_28 0 rfl rfl ?_
  refine ww_bipush (v := (40 : Int32)) C dX0_init_29 (by decide) ?_
  refine ww_newaI C hZ dX0_init_31 aw_I 40 (by decide) (by decide) (by decide) 9 (by decide +kernel) (by decide) (by decide +kernel) (RXA.le E (by decide) (by decide)) rfl rfl (SHF.take 10) (by decide +kernel) (fun adr4 ha hZ => ?_)
  have hag := hag.tr ha (by decide)
  change WW X ((SHF.take 10), adr4, 4, 160) 33 [.ref 5] [.ref 9, .ref 5] (mk (zc (zc (zc (zc h 6) 7) 8) 9) (lk (LR.drop 153)))
  refine wk_putFR C E dX0_init_33 fl_X0_21 (by decide +kernel : kd (SHF.take 10) 5 = 0) rfl rfl rfl ?_
  change WW X ((SHF.take 10), adr4, 4, 160) 36 [.ref 5] [] (mk (zc (zc (zc (zc h 6) 7) 8) 9) (lk (LR.drop 152)))
  refine ww_aload_n C dX0_init_36 0 rfl rfl ?_
  refine ww_bipush (v := (40 : Int32)) C dX0_init_37 (by decide) ?_
  refine ww_newaI C hZ dX0_init_39 aw_I 40 (by decide) (by decide) (by decide) 10 (by decide +kernel) (by decide) (by decide +kernel) (RXA.le E (by decide) (by decide)) rfl rfl (SHF.take 11) (by decide +kernel) (fun adr5 ha hZ => ?_)
  have hag := hag.tr ha (by decide)
  change WW X ((SHF.take 11), adr5, 5, 200) 41 [.ref 5] [.ref 10, .ref 5] (mk (zc (zc (zc (zc (zc h 6) 7) 8) 9) 10) (lk (LR.drop 152)))
  refine wk_putFR C E dX0_init_41 fl_X0_24 (by decide +kernel : kd (SHF.take 11) 5 = 0) rfl rfl rfl ?_
  change WW X ((SHF.take 11), adr5, 5, 200) 44 [.ref 5] [] (mk (zc (zc (zc (zc (zc h 6) 7) 8) 9) 10) (lk (LR.drop 151)))
  cases H
  exact ww_vretA C E hag dX0_init_44 rfl
def gX2_12 (h : HI) : Option HI := some (zc h 13)
set_option maxRecDepth 100000 in
set_option maxHeartbeats 4000000 in
theorem caX2_12 {l : Launch} {h p : HI} (H : gX2_12 h = some p) : CA l yX2_init cX2_init 2 1 [.ref 12, .int (6 : Int32)] (SHF.take 13) (mk h (lk (LR.drop 150))) 1 6 (SHF.take 14) (fun τ => τ = mk p (lk (LR.drop 149))) := by
  refine CA.of (by decide) rfl (Nat.le_of_ble_eq_true rfl) 0 [.ref 12, .int (6 : Int32)] rfl (fun X adr _ C E hZ hN => ?_)
  rw [gX2_12] at H
  have hag : AG adr adr (SHF.take 13).length := AG.rf
  refine ww_aload_n C dX2_init_0 0 rfl rfl ?_
  refine ww_objInit C dX2_init_1 ow_X2 (by decide) (Nat.le_of_ble_eq_true rfl) ?_
  refine ww_aload_n C dX2_init_4 0 rfl rfl ?_
  refine ww_iload_n C dX2_init_5 1 rfl rfl ?_
  refine ww_iconst (v := (0 : Int32)) C dX2_init_6 (by decide) ?_
  refine ww_max C dX2_init_7 mw_X2_9 (by decide) (Nat.le_of_ble_eq_true rfl) (RXA.le E (by decide) (by decide)) ?_
  refine ww_as (v := (6 : Int32)) (by decide) ?_
  refine ww_newaJ C hZ dX2_init_10 aw_J 6 (by decide) (by decide) (by decide) 13 (by decide +kernel) (by decide) (by decide +kernel) (RXA.le E (by decide) (by decide)) rfl rfl (SHF.take 14) (by decide +kernel) (fun adr1 ha hZ => ?_)
  have hag := hag.tr ha (by decide)
  change WW X ((SHF.take 14), adr1, 1, 6) 12 [.ref 12, .int (6 : Int32)] [.ref 13, .ref 12] (mk (zc h 13) (lk (LR.drop 150)))
  refine wk_putFR C E dX2_init_12 fl_X2_15 (by decide +kernel : kd (SHF.take 14) 12 = 2) rfl rfl rfl ?_
  change WW X ((SHF.take 14), adr1, 1, 6) 15 [.ref 12, .int (6 : Int32)] [] (mk (zc h 13) (lk (LR.drop 149)))
  cases H
  exact ww_vretA C E hag dX2_init_15 rfl
def gX2_14 (h : HI) : Option HI := some (zc h 15)
set_option maxRecDepth 100000 in
set_option maxHeartbeats 4000000 in
theorem caX2_14 {l : Launch} {h p : HI} (H : gX2_14 h = some p) : CA l yX2_init cX2_init 2 1 [.ref 14, .int (6 : Int32)] (SHF.take 15) (mk h (lk (LR.drop 148))) 1 6 (SHF.take 16) (fun τ => τ = mk p (lk (LR.drop 147))) := by
  refine CA.of (by decide) rfl (Nat.le_of_ble_eq_true rfl) 0 [.ref 14, .int (6 : Int32)] rfl (fun X adr _ C E hZ hN => ?_)
  rw [gX2_14] at H
  have hag : AG adr adr (SHF.take 15).length := AG.rf
  refine ww_aload_n C dX2_init_0 0 rfl rfl ?_
  refine ww_objInit C dX2_init_1 ow_X2 (by decide) (Nat.le_of_ble_eq_true rfl) ?_
  refine ww_aload_n C dX2_init_4 0 rfl rfl ?_
  refine ww_iload_n C dX2_init_5 1 rfl rfl ?_
  refine ww_iconst (v := (0 : Int32)) C dX2_init_6 (by decide) ?_
  refine ww_max C dX2_init_7 mw_X2_9 (by decide) (Nat.le_of_ble_eq_true rfl) (RXA.le E (by decide) (by decide)) ?_
  refine ww_as (v := (6 : Int32)) (by decide) ?_
  refine ww_newaJ C hZ dX2_init_10 aw_J 6 (by decide) (by decide) (by decide) 15 (by decide +kernel) (by decide) (by decide +kernel) (RXA.le E (by decide) (by decide)) rfl rfl (SHF.take 16) (by decide +kernel) (fun adr1 ha hZ => ?_)
  have hag := hag.tr ha (by decide)
  change WW X ((SHF.take 16), adr1, 1, 6) 12 [.ref 14, .int (6 : Int32)] [.ref 15, .ref 14] (mk (zc h 15) (lk (LR.drop 148)))
  refine wk_putFR C E dX2_init_12 fl_X2_15 (by decide +kernel : kd (SHF.take 16) 14 = 2) rfl rfl rfl ?_
  change WW X ((SHF.take 16), adr1, 1, 6) 15 [.ref 14, .int (6 : Int32)] [] (mk (zc h 15) (lk (LR.drop 147)))
  cases H
  exact ww_vretA C E hag dX2_init_15 rfl
def gX2_16 (h : HI) : Option HI := some (zc h 17)
set_option maxRecDepth 100000 in
set_option maxHeartbeats 4000000 in
theorem caX2_16 {l : Launch} {h p : HI} (H : gX2_16 h = some p) : CA l yX2_init cX2_init 2 1 [.ref 16, .int (4 : Int32)] (SHF.take 17) (mk h (lk (LR.drop 146))) 1 4 (SHF.take 18) (fun τ => τ = mk p (lk (LR.drop 145))) := by
  refine CA.of (by decide) rfl (Nat.le_of_ble_eq_true rfl) 0 [.ref 16, .int (4 : Int32)] rfl (fun X adr _ C E hZ hN => ?_)
  rw [gX2_16] at H
  have hag : AG adr adr (SHF.take 17).length := AG.rf
  refine ww_aload_n C dX2_init_0 0 rfl rfl ?_
  refine ww_objInit C dX2_init_1 ow_X2 (by decide) (Nat.le_of_ble_eq_true rfl) ?_
  refine ww_aload_n C dX2_init_4 0 rfl rfl ?_
  refine ww_iload_n C dX2_init_5 1 rfl rfl ?_
  refine ww_iconst (v := (0 : Int32)) C dX2_init_6 (by decide) ?_
  refine ww_max C dX2_init_7 mw_X2_9 (by decide) (Nat.le_of_ble_eq_true rfl) (RXA.le E (by decide) (by decide)) ?_
  refine ww_as (v := (4 : Int32)) (by decide) ?_
  refine ww_newaJ C hZ dX2_init_10 aw_J 4 (by decide) (by decide) (by decide) 17 (by decide +kernel) (by decide) (by decide +kernel) (RXA.le E (by decide) (by decide)) rfl rfl (SHF.take 18) (by decide +kernel) (fun adr1 ha hZ => ?_)
  have hag := hag.tr ha (by decide)
  change WW X ((SHF.take 18), adr1, 1, 4) 12 [.ref 16, .int (4 : Int32)] [.ref 17, .ref 16] (mk (zc h 17) (lk (LR.drop 146)))
  refine wk_putFR C E dX2_init_12 fl_X2_15 (by decide +kernel : kd (SHF.take 18) 16 = 2) rfl rfl rfl ?_
  change WW X ((SHF.take 18), adr1, 1, 4) 15 [.ref 16, .int (4 : Int32)] [] (mk (zc h 17) (lk (LR.drop 145)))
  cases H
  exact ww_vretA C E hag dX2_init_15 rfl
def gX5_29 (h : HI) : Option HI := (fX5_clear 29 (zc (zc h 30) 31)).bind fun h3 => some h3
set_option maxRecDepth 100000 in
set_option maxHeartbeats 4000000 in
theorem caX5_29 {l : Launch} {h p : HI} (H : gX5_29 h = some p) : CA l yX5_init cX5_init 1 1 [.ref 29] (SHF.take 30) (mk h (lk (LR.drop 133))) 2 442 (SHF.take 32) (fun τ => τ = mk p (lk (LR.drop 131))) := by
  refine CA.of (by decide) rfl (Nat.le_of_ble_eq_true rfl) 0 [.ref 29] rfl (fun X adr _ C E hZ hN => ?_)
  rw [gX5_29] at H
  have hag : AG adr adr (SHF.take 30).length := AG.rf
  refine ww_aload_n C dX5_init_0 0 rfl rfl ?_
  refine ww_objInit C dX5_init_1 ow_X5 (by decide) (Nat.le_of_ble_eq_true rfl) ?_
  refine ww_aload_n C dX5_init_4 0 rfl rfl ?_
  refine ww_sipush (v := (400 : Int32)) C dX5_init_5 (by decide) ?_
  refine ww_newaI C hZ dX5_init_8 aw_I 400 (by decide) (by decide) (by decide) 30 (by decide +kernel) (by decide) (by decide +kernel) (RXA.le E (by decide) (by decide)) rfl rfl (SHF.take 31) (by decide +kernel) (fun adr1 ha hZ => ?_)
  have hag := hag.tr ha (by decide)
  change WW X ((SHF.take 31), adr1, 1, 400) 10 [.ref 29] [.ref 30, .ref 29] (mk (zc h 30) (lk (LR.drop 133)))
  refine wk_putFR C E dX5_init_10 fl_X5_11 (by decide +kernel : kd (SHF.take 31) 29 = 5) rfl rfl rfl ?_
  change WW X ((SHF.take 31), adr1, 1, 400) 13 [.ref 29] [] (mk (zc h 30) (lk (LR.drop 132)))
  refine ww_aload_n C dX5_init_13 0 rfl rfl ?_
  refine ww_bipush (v := (42 : Int32)) C dX5_init_14 (by decide) ?_
  refine ww_newaI C hZ dX5_init_16 aw_I 42 (by decide) (by decide) (by decide) 31 (by decide +kernel) (by decide) (by decide +kernel) (RXA.le E (by decide) (by decide)) rfl rfl (SHF.take 32) (by decide +kernel) (fun adr2 ha hZ => ?_)
  have hag := hag.tr ha (by decide)
  change WW X ((SHF.take 32), adr2, 2, 442) 18 [.ref 29] [.ref 31, .ref 29] (mk (zc (zc h 30) 31) (lk (LR.drop 132)))
  refine wk_putFR C E dX5_init_18 fl_X5_15 (by decide +kernel : kd (SHF.take 32) 29 = 5) rfl rfl rfl ?_
  change WW X ((SHF.take 32), adr2, 2, 442) 21 [.ref 29] [] (mk (zc (zc h 30) 31) (lk (LR.drop 131)))
  refine ww_aload_n C dX5_init_21 0 rfl rfl ?_
  obtain ⟨h3, hc1, H⟩ := bd_of H
  refine ww_callV C hZ dX5_init_22 cw_X5_18 (ccX5_clear (by unfold US; decide +kernel : US (SHF.take 32) (lk (LR.drop 131)) 29) hc1) (by decide +kernel : kd (SHF.take 32) 29 = 5) ⟨by decide, rfl⟩ (by decide) rfl rfl (Nat.le_of_ble_eq_true rfl) (RXA.le E (by decide) (by decide)) (fun v τ hp => ?_)
  obtain ⟨rfl, rfl⟩ := hp
  change WW X ((SHF.take 32), adr2, 2, 442) 25 [.ref 29] [] (mk h3 (lk (LR.drop 131)))
  cases H
  exact ww_vretA C E hag dX5_init_25 rfl
def gX1_11 (h : HI) : Option HI := (gX2_12 (zc h 12)).bind fun h2 => (gX2_14 (zc h2 14)).bind fun h4 => (gX2_16 (zc h4 16)).bind fun h6 => (gX5_29 (zc (zc (zc (zc (zc (zc (zc (zc (zc (zc (zc (zc h6 18) 19) 20) 21) 22) 23) 24) 25) 26) 27) 28) 29)).bind fun h19 => some h19
set_option maxRecDepth 100000 in
set_option maxHeartbeats 4000000 in
theorem caX1_11 {l : Launch} {h p : HI} (H : gX1_11 h = some p) : CA l yX1_init cX1_init 1 2 [.ref 11] (SHF.take 12) (mk h (lk (LR.drop 150))) 20 517 (SHF.take 32) (fun τ => τ = mk p (lk (LR.drop 130))) := by
  refine CA.of (by decide) rfl (Nat.le_of_ble_eq_true rfl) 0 [.ref 11] rfl (fun X adr _ C E hZ hN => ?_)
  rw [gX1_11] at H
  have hag : AG adr adr (SHF.take 12).length := AG.rf
  refine ww_aload_n C dX1_init_0 0 rfl rfl ?_
  refine ww_objInit C dX1_init_1 ow_X1 (by decide) (Nat.le_of_ble_eq_true rfl) ?_
  refine ww_aload_n C dX1_init_4 0 rfl rfl ?_
  refine ww_new C hZ dX1_init_5 nw_X1_9 (by decide) 12 (by decide +kernel) (by decide) (by decide +kernel) (by decide +kernel) (RXA.le E (by decide) (by decide)) rfl rfl (SHF.take 13) (by decide +kernel) (fun adr1 ha hZ => ?_)
  have hag := hag.tr ha (by decide)
  change WW X ((SHF.take 13), adr1, 1, 2) 8 [.ref 11] [.ref 12, .ref 11] (mk (zc h 12) (lk (LR.drop 150)))
  refine ww_dup C dX1_init_8 rfl ?_
  refine ww_bipush (v := (6 : Int32)) C dX1_init_9 (by decide) ?_
  obtain ⟨h2, hc1, H⟩ := bd_of H
  refine ww_callI C hZ hN dX1_init_11 iw_X1_11 (caX2_12 hc1) (by decide) rfl rfl (Nat.le_of_ble_eq_true rfl) (RXA.le E (by decide) (by decide)) rfl rfl (fun adr2 τ hp ha hZ => ?_)
  subst hp
  have hag := hag.tr ha (by decide)
  change WW X ((SHF.take 14), adr2, 2, 8) 14 [.ref 11] [.ref 12, .ref 11] (mk h2 (lk (LR.drop 149)))
  refine wk_putFA C E dX1_init_14 fl_X1_14 (by decide +kernel : kd (SHF.take 14) 11 = 1) rfl rfl rfl ?_
  change WW X ((SHF.take 14), adr2, 2, 8) 17 [.ref 11] [] (mk h2 (lk (LR.drop 148)))
  refine ww_aload_n C dX1_init_17 0 rfl rfl ?_
  refine ww_new C hZ dX1_init_18 nw_X1_9 (by decide) 14 (by decide +kernel) (by decide) (by decide +kernel) (by decide +kernel) (RXA.le E (by decide) (by decide)) rfl rfl (SHF.take 15) (by decide +kernel) (fun adr3 ha hZ => ?_)
  have hag := hag.tr ha (by decide)
  change WW X ((SHF.take 15), adr3, 3, 10) 21 [.ref 11] [.ref 14, .ref 11] (mk (zc h2 14) (lk (LR.drop 148)))
  refine ww_dup C dX1_init_21 rfl ?_
  refine ww_bipush (v := (6 : Int32)) C dX1_init_22 (by decide) ?_
  obtain ⟨h4, hc1, H⟩ := bd_of H
  refine ww_callI C hZ hN dX1_init_24 iw_X1_11 (caX2_14 hc1) (by decide) rfl rfl (Nat.le_of_ble_eq_true rfl) (RXA.le E (by decide) (by decide)) rfl rfl (fun adr4 τ hp ha hZ => ?_)
  subst hp
  have hag := hag.tr ha (by decide)
  change WW X ((SHF.take 16), adr4, 4, 16) 27 [.ref 11] [.ref 14, .ref 11] (mk h4 (lk (LR.drop 147)))
  refine wk_putFA C E dX1_init_27 fl_X1_20 (by decide +kernel : kd (SHF.take 16) 11 = 1) rfl rfl rfl ?_
  change WW X ((SHF.take 16), adr4, 4, 16) 30 [.ref 11] [] (mk h4 (lk (LR.drop 146)))
  refine ww_aload_n C dX1_init_30 0 rfl rfl ?_
  refine ww_new C hZ dX1_init_31 nw_X1_9 (by decide) 16 (by decide +kernel) (by decide) (by decide +kernel) (by decide +kernel) (RXA.le E (by decide) (by decide)) rfl rfl (SHF.take 17) (by decide +kernel) (fun adr5 ha hZ => ?_)
  have hag := hag.tr ha (by decide)
  change WW X ((SHF.take 17), adr5, 5, 18) 34 [.ref 11] [.ref 16, .ref 11] (mk (zc h4 16) (lk (LR.drop 146)))
  refine ww_dup C dX1_init_34 rfl ?_
  refine ww_iconst (v := (4 : Int32)) C dX1_init_35 (by decide) ?_
  obtain ⟨h6, hc1, H⟩ := bd_of H
  refine ww_callI C hZ hN dX1_init_36 iw_X1_11 (caX2_16 hc1) (by decide) rfl rfl (Nat.le_of_ble_eq_true rfl) (RXA.le E (by decide) (by decide)) rfl rfl (fun adr6 τ hp ha hZ => ?_)
  subst hp
  have hag := hag.tr ha (by decide)
  change WW X ((SHF.take 18), adr6, 6, 22) 39 [.ref 11] [.ref 16, .ref 11] (mk h6 (lk (LR.drop 145)))
  refine wk_putFA C E dX1_init_39 fl_X1_23 (by decide +kernel : kd (SHF.take 18) 11 = 1) rfl rfl rfl ?_
  change WW X ((SHF.take 18), adr6, 6, 22) 42 [.ref 11] [] (mk h6 (lk (LR.drop 144)))
  refine ww_aload_n C dX1_init_42 0 rfl rfl ?_
  refine ww_bipush (v := (6 : Int32)) C dX1_init_43 (by decide) ?_
  refine ww_newaI C hZ dX1_init_45 aw_I 6 (by decide) (by decide) (by decide) 18 (by decide +kernel) (by decide) (by decide +kernel) (RXA.le E (by decide) (by decide)) rfl rfl (SHF.take 19) (by decide +kernel) (fun adr7 ha hZ => ?_)
  have hag := hag.tr ha (by decide)
  change WW X ((SHF.take 19), adr7, 7, 28) 47 [.ref 11] [.ref 18, .ref 11] (mk (zc h6 18) (lk (LR.drop 144)))
  refine wk_putFR C E dX1_init_47 fl_X1_26 (by decide +kernel : kd (SHF.take 19) 11 = 1) rfl rfl rfl ?_
  change WW X ((SHF.take 19), adr7, 7, 28) 50 [.ref 11] [] (mk (zc h6 18) (lk (LR.drop 143)))
  refine ww_aload_n C dX1_init_50 0 rfl rfl ?_
  refine ww_bipush (v := (6 : Int32)) C dX1_init_51 (by decide) ?_
  refine ww_newaI C hZ dX1_init_53 aw_I 6 (by decide) (by decide) (by decide) 19 (by decide +kernel) (by decide) (by decide +kernel) (RXA.le E (by decide) (by decide)) rfl rfl (SHF.take 20) (by decide +kernel) (fun adr8 ha hZ => ?_)
  have hag := hag.tr ha (by decide)
  change WW X ((SHF.take 20), adr8, 8, 34) 55 [.ref 11] [.ref 19, .ref 11] (mk (zc (zc h6 18) 19) (lk (LR.drop 143)))
  refine wk_putFR C E dX1_init_55 fl_X1_30 (by decide +kernel : kd (SHF.take 20) 11 = 1) rfl rfl rfl ?_
  change WW X ((SHF.take 20), adr8, 8, 34) 58 [.ref 11] [] (mk (zc (zc h6 18) 19) (lk (LR.drop 142)))
  refine ww_aload_n C dX1_init_58 0 rfl rfl ?_
  refine ww_iconst (v := (4 : Int32)) C dX1_init_59 (by decide) ?_
  refine ww_newaI C hZ dX1_init_60 aw_I 4 (by decide) (by decide) (by decide) 20 (by decide +kernel) (by decide) (by decide +kernel) (RXA.le E (by decide) (by decide)) rfl rfl (SHF.take 21) (by decide +kernel) (fun adr9 ha hZ => ?_)
  have hag := hag.tr ha (by decide)
  change WW X ((SHF.take 21), adr9, 9, 38) 62 [.ref 11] [.ref 20, .ref 11] (mk (zc (zc (zc h6 18) 19) 20) (lk (LR.drop 142)))
  refine wk_putFR C E dX1_init_62 fl_X1_33 (by decide +kernel : kd (SHF.take 21) 11 = 1) rfl rfl rfl ?_
  change WW X ((SHF.take 21), adr9, 9, 38) 65 [.ref 11] [] (mk (zc (zc (zc h6 18) 19) 20) (lk (LR.drop 141)))
  refine ww_aload_n C dX1_init_65 0 rfl rfl ?_
  refine ww_iconst (v := (4 : Int32)) C dX1_init_66 (by decide) ?_
  refine ww_newaI C hZ dX1_init_67 aw_I 4 (by decide) (by decide) (by decide) 21 (by decide +kernel) (by decide) (by decide +kernel) (RXA.le E (by decide) (by decide)) rfl rfl (SHF.take 22) (by decide +kernel) (fun adr10 ha hZ => ?_)
  have hag := hag.tr ha (by decide)
  change WW X ((SHF.take 22), adr10, 10, 42) 69 [.ref 11] [.ref 21, .ref 11] (mk (zc (zc (zc (zc h6 18) 19) 20) 21) (lk (LR.drop 141)))
  refine wk_putFR C E dX1_init_69 fl_X1_36 (by decide +kernel : kd (SHF.take 22) 11 = 1) rfl rfl rfl ?_
  change WW X ((SHF.take 22), adr10, 10, 42) 72 [.ref 11] [] (mk (zc (zc (zc (zc h6 18) 19) 20) 21) (lk (LR.drop 140)))
  refine ww_aload_n C dX1_init_72 0 rfl rfl ?_
  refine ww_iconst (v := (4 : Int32)) C dX1_init_73 (by decide) ?_
  refine ww_newaI C hZ dX1_init_74 aw_I 4 (by decide) (by decide) (by decide) 22 (by decide +kernel) (by decide) (by decide +kernel) (RXA.le E (by decide) (by decide)) rfl rfl (SHF.take 23) (by decide +kernel) (fun adr11 ha hZ => ?_)
  have hag := hag.tr ha (by decide)
  change WW X ((SHF.take 23), adr11, 11, 46) 76 [.ref 11] [.ref 22, .ref 11] (mk (zc (zc (zc (zc (zc h6 18) 19) 20) 21) 22) (lk (LR.drop 140)))
  refine wk_putFR C E dX1_init_76 fl_X1_39 (by decide +kernel : kd (SHF.take 23) 11 = 1) rfl rfl rfl ?_
  change WW X ((SHF.take 23), adr11, 11, 46) 79 [.ref 11] [] (mk (zc (zc (zc (zc (zc h6 18) 19) 20) 21) 22) (lk (LR.drop 139)))
  refine ww_aload_n C dX1_init_79 0 rfl rfl ?_
  refine ww_iconst (v := (4 : Int32)) C dX1_init_80 (by decide) ?_
  refine ww_newaI C hZ dX1_init_81 aw_I 4 (by decide) (by decide) (by decide) 23 (by decide +kernel) (by decide) (by decide +kernel) (RXA.le E (by decide) (by decide)) rfl rfl (SHF.take 24) (by decide +kernel) (fun adr12 ha hZ => ?_)
  have hag := hag.tr ha (by decide)
  change WW X ((SHF.take 24), adr12, 12, 50) 83 [.ref 11] [.ref 23, .ref 11] (mk (zc (zc (zc (zc (zc (zc h6 18) 19) 20) 21) 22) 23) (lk (LR.drop 139)))
  refine wk_putFR C E dX1_init_83 fl_X1_42 (by decide +kernel : kd (SHF.take 24) 11 = 1) rfl rfl rfl ?_
  change WW X ((SHF.take 24), adr12, 12, 50) 86 [.ref 11] [] (mk (zc (zc (zc (zc (zc (zc h6 18) 19) 20) 21) 22) 23) (lk (LR.drop 138)))
  refine ww_aload_n C dX1_init_86 0 rfl rfl ?_
  refine ww_iconst (v := (4 : Int32)) C dX1_init_87 (by decide) ?_
  refine ww_newaI C hZ dX1_init_88 aw_I 4 (by decide) (by decide) (by decide) 24 (by decide +kernel) (by decide) (by decide +kernel) (RXA.le E (by decide) (by decide)) rfl rfl (SHF.take 25) (by decide +kernel) (fun adr13 ha hZ => ?_)
  have hag := hag.tr ha (by decide)
  change WW X ((SHF.take 25), adr13, 13, 54) 90 [.ref 11] [.ref 24, .ref 11] (mk (zc (zc (zc (zc (zc (zc (zc h6 18) 19) 20) 21) 22) 23) 24) (lk (LR.drop 138)))
  refine wk_putFR C E dX1_init_90 fl_X1_45 (by decide +kernel : kd (SHF.take 25) 11 = 1) rfl rfl rfl ?_
  change WW X ((SHF.take 25), adr13, 13, 54) 93 [.ref 11] [] (mk (zc (zc (zc (zc (zc (zc (zc h6 18) 19) 20) 21) 22) 23) 24) (lk (LR.drop 137)))
  refine ww_aload_n C dX1_init_93 0 rfl rfl ?_
  refine ww_iconst (v := (4 : Int32)) C dX1_init_94 (by decide) ?_
  refine ww_newaI C hZ dX1_init_95 aw_I 4 (by decide) (by decide) (by decide) 25 (by decide +kernel) (by decide) (by decide +kernel) (RXA.le E (by decide) (by decide)) rfl rfl (SHF.take 26) (by decide +kernel) (fun adr14 ha hZ => ?_)
  have hag := hag.tr ha (by decide)
  change WW X ((SHF.take 26), adr14, 14, 58) 97 [.ref 11] [.ref 25, .ref 11] (mk (zc (zc (zc (zc (zc (zc (zc (zc h6 18) 19) 20) 21) 22) 23) 24) 25) (lk (LR.drop 137)))
  refine wk_putFR C E dX1_init_97 fl_X1_48 (by decide +kernel : kd (SHF.take 26) 11 = 1) rfl rfl rfl ?_
  change WW X ((SHF.take 26), adr14, 14, 58) 100 [.ref 11] [] (mk (zc (zc (zc (zc (zc (zc (zc (zc h6 18) 19) 20) 21) 22) 23) 24) 25) (lk (LR.drop 136)))
  refine ww_aload_n C dX1_init_100 0 rfl rfl ?_
  refine ww_iconst (v := (4 : Int32)) C dX1_init_101 (by decide) ?_
  refine ww_newaI C hZ dX1_init_102 aw_I 4 (by decide) (by decide) (by decide) 26 (by decide +kernel) (by decide) (by decide +kernel) (RXA.le E (by decide) (by decide)) rfl rfl (SHF.take 27) (by decide +kernel) (fun adr15 ha hZ => ?_)
  have hag := hag.tr ha (by decide)
  change WW X ((SHF.take 27), adr15, 15, 62) 104 [.ref 11] [.ref 26, .ref 11] (mk (zc (zc (zc (zc (zc (zc (zc (zc (zc h6 18) 19) 20) 21) 22) 23) 24) 25) 26) (lk (LR.drop 136)))
  refine wk_putFR C E dX1_init_104 fl_X1_51 (by decide +kernel : kd (SHF.take 27) 11 = 1) rfl rfl rfl ?_
  change WW X ((SHF.take 27), adr15, 15, 62) 107 [.ref 11] [] (mk (zc (zc (zc (zc (zc (zc (zc (zc (zc h6 18) 19) 20) 21) 22) 23) 24) 25) 26) (lk (LR.drop 135)))
  refine ww_aload_n C dX1_init_107 0 rfl rfl ?_
  refine ww_iconst (v := (4 : Int32)) C dX1_init_108 (by decide) ?_
  refine ww_newaI C hZ dX1_init_109 aw_I 4 (by decide) (by decide) (by decide) 27 (by decide +kernel) (by decide) (by decide +kernel) (RXA.le E (by decide) (by decide)) rfl rfl (SHF.take 28) (by decide +kernel) (fun adr16 ha hZ => ?_)
  have hag := hag.tr ha (by decide)
  change WW X ((SHF.take 28), adr16, 16, 66) 111 [.ref 11] [.ref 27, .ref 11] (mk (zc (zc (zc (zc (zc (zc (zc (zc (zc (zc h6 18) 19) 20) 21) 22) 23) 24) 25) 26) 27) (lk (LR.drop 135)))
  refine wk_putFR C E dX1_init_111 fl_X1_54 (by decide +kernel : kd (SHF.take 28) 11 = 1) rfl rfl rfl ?_
  change WW X ((SHF.take 28), adr16, 16, 66) 114 [.ref 11] [] (mk (zc (zc (zc (zc (zc (zc (zc (zc (zc (zc h6 18) 19) 20) 21) 22) 23) 24) 25) 26) 27) (lk (LR.drop 134)))
  refine ww_aload_n C dX1_init_114 0 rfl rfl ?_
  refine ww_iconst (v := (4 : Int32)) C dX1_init_115 (by decide) ?_
  refine ww_newaI C hZ dX1_init_116 aw_I 4 (by decide) (by decide) (by decide) 28 (by decide +kernel) (by decide) (by decide +kernel) (RXA.le E (by decide) (by decide)) rfl rfl (SHF.take 29) (by decide +kernel) (fun adr17 ha hZ => ?_)
  have hag := hag.tr ha (by decide)
  change WW X ((SHF.take 29), adr17, 17, 70) 118 [.ref 11] [.ref 28, .ref 11] (mk (zc (zc (zc (zc (zc (zc (zc (zc (zc (zc (zc h6 18) 19) 20) 21) 22) 23) 24) 25) 26) 27) 28) (lk (LR.drop 134)))
  refine wk_putFR C E dX1_init_118 fl_X1_57 (by decide +kernel : kd (SHF.take 29) 11 = 1) rfl rfl rfl ?_
  change WW X ((SHF.take 29), adr17, 17, 70) 121 [.ref 11] [] (mk (zc (zc (zc (zc (zc (zc (zc (zc (zc (zc (zc h6 18) 19) 20) 21) 22) 23) 24) 25) 26) 27) 28) (lk (LR.drop 133)))
  refine ww_aload_n C dX1_init_121 0 rfl rfl ?_
  refine ww_new C hZ dX1_init_122 nw_X1_60 (by decide) 29 (by decide +kernel) (by decide) (by decide +kernel) (by decide +kernel) (RXA.le E (by decide) (by decide)) rfl rfl (SHF.take 30) (by decide +kernel) (fun adr18 ha hZ => ?_)
  have hag := hag.tr ha (by decide)
  change WW X ((SHF.take 30), adr18, 18, 75) 125 [.ref 11] [.ref 29, .ref 11] (mk (zc (zc (zc (zc (zc (zc (zc (zc (zc (zc (zc (zc h6 18) 19) 20) 21) 22) 23) 24) 25) 26) 27) 28) 29) (lk (LR.drop 133)))
  refine ww_dup C dX1_init_125 rfl ?_
  obtain ⟨h19, hc1, H⟩ := bd_of H
  refine ww_callI C hZ hN dX1_init_126 iw_X1_62 (caX5_29 hc1) (by decide) rfl rfl (Nat.le_of_ble_eq_true rfl) (RXA.le E (by decide) (by decide)) rfl rfl (fun adr19 τ hp ha hZ => ?_)
  subst hp
  have hag := hag.tr ha (by decide)
  change WW X ((SHF.take 32), adr19, 20, 517) 129 [.ref 11] [.ref 29, .ref 11] (mk h19 (lk (LR.drop 131)))
  refine wk_putFA C E dX1_init_129 fl_X1_63 (by decide +kernel : kd (SHF.take 32) 11 = 1) rfl rfl rfl ?_
  change WW X ((SHF.take 32), adr19, 20, 517) 132 [.ref 11] [] (mk h19 (lk (LR.drop 130)))
  cases H
  exact ww_vretA C E hag dX1_init_132 rfl
def gX2_33 (h : HI) : Option HI := some (zc h 34)
set_option maxRecDepth 100000 in
set_option maxHeartbeats 4000000 in
theorem caX2_33 {l : Launch} {h p : HI} (H : gX2_33 h = some p) : CA l yX2_init cX2_init 2 1 [.ref 33, .int (6 : Int32)] (SHF.take 34) (mk h (lk (LR.drop 129))) 1 6 (SHF.take 35) (fun τ => τ = mk p (lk (LR.drop 128))) := by
  refine CA.of (by decide) rfl (Nat.le_of_ble_eq_true rfl) 0 [.ref 33, .int (6 : Int32)] rfl (fun X adr _ C E hZ hN => ?_)
  rw [gX2_33] at H
  have hag : AG adr adr (SHF.take 34).length := AG.rf
  refine ww_aload_n C dX2_init_0 0 rfl rfl ?_
  refine ww_objInit C dX2_init_1 ow_X2 (by decide) (Nat.le_of_ble_eq_true rfl) ?_
  refine ww_aload_n C dX2_init_4 0 rfl rfl ?_
  refine ww_iload_n C dX2_init_5 1 rfl rfl ?_
  refine ww_iconst (v := (0 : Int32)) C dX2_init_6 (by decide) ?_
  refine ww_max C dX2_init_7 mw_X2_9 (by decide) (Nat.le_of_ble_eq_true rfl) (RXA.le E (by decide) (by decide)) ?_
  refine ww_as (v := (6 : Int32)) (by decide) ?_
  refine ww_newaJ C hZ dX2_init_10 aw_J 6 (by decide) (by decide) (by decide) 34 (by decide +kernel) (by decide) (by decide +kernel) (RXA.le E (by decide) (by decide)) rfl rfl (SHF.take 35) (by decide +kernel) (fun adr1 ha hZ => ?_)
  have hag := hag.tr ha (by decide)
  change WW X ((SHF.take 35), adr1, 1, 6) 12 [.ref 33, .int (6 : Int32)] [.ref 34, .ref 33] (mk (zc h 34) (lk (LR.drop 129)))
  refine wk_putFR C E dX2_init_12 fl_X2_15 (by decide +kernel : kd (SHF.take 35) 33 = 2) rfl rfl rfl ?_
  change WW X ((SHF.take 35), adr1, 1, 6) 15 [.ref 33, .int (6 : Int32)] [] (mk (zc h 34) (lk (LR.drop 128)))
  cases H
  exact ww_vretA C E hag dX2_init_15 rfl
def gX2_35 (h : HI) : Option HI := some (zc h 36)
set_option maxRecDepth 100000 in
set_option maxHeartbeats 4000000 in
theorem caX2_35 {l : Launch} {h p : HI} (H : gX2_35 h = some p) : CA l yX2_init cX2_init 2 1 [.ref 35, .int (6 : Int32)] (SHF.take 36) (mk h (lk (LR.drop 127))) 1 6 (SHF.take 37) (fun τ => τ = mk p (lk (LR.drop 126))) := by
  refine CA.of (by decide) rfl (Nat.le_of_ble_eq_true rfl) 0 [.ref 35, .int (6 : Int32)] rfl (fun X adr _ C E hZ hN => ?_)
  rw [gX2_35] at H
  have hag : AG adr adr (SHF.take 36).length := AG.rf
  refine ww_aload_n C dX2_init_0 0 rfl rfl ?_
  refine ww_objInit C dX2_init_1 ow_X2 (by decide) (Nat.le_of_ble_eq_true rfl) ?_
  refine ww_aload_n C dX2_init_4 0 rfl rfl ?_
  refine ww_iload_n C dX2_init_5 1 rfl rfl ?_
  refine ww_iconst (v := (0 : Int32)) C dX2_init_6 (by decide) ?_
  refine ww_max C dX2_init_7 mw_X2_9 (by decide) (Nat.le_of_ble_eq_true rfl) (RXA.le E (by decide) (by decide)) ?_
  refine ww_as (v := (6 : Int32)) (by decide) ?_
  refine ww_newaJ C hZ dX2_init_10 aw_J 6 (by decide) (by decide) (by decide) 36 (by decide +kernel) (by decide) (by decide +kernel) (RXA.le E (by decide) (by decide)) rfl rfl (SHF.take 37) (by decide +kernel) (fun adr1 ha hZ => ?_)
  have hag := hag.tr ha (by decide)
  change WW X ((SHF.take 37), adr1, 1, 6) 12 [.ref 35, .int (6 : Int32)] [.ref 36, .ref 35] (mk (zc h 36) (lk (LR.drop 127)))
  refine wk_putFR C E dX2_init_12 fl_X2_15 (by decide +kernel : kd (SHF.take 37) 35 = 2) rfl rfl rfl ?_
  change WW X ((SHF.take 37), adr1, 1, 6) 15 [.ref 35, .int (6 : Int32)] [] (mk (zc h 36) (lk (LR.drop 126)))
  cases H
  exact ww_vretA C E hag dX2_init_15 rfl
def gX2_37 (h : HI) : Option HI := some (zc h 38)
set_option maxRecDepth 100000 in
set_option maxHeartbeats 4000000 in
theorem caX2_37 {l : Launch} {h p : HI} (H : gX2_37 h = some p) : CA l yX2_init cX2_init 2 1 [.ref 37, .int (4 : Int32)] (SHF.take 38) (mk h (lk (LR.drop 125))) 1 4 (SHF.take 39) (fun τ => τ = mk p (lk (LR.drop 124))) := by
  refine CA.of (by decide) rfl (Nat.le_of_ble_eq_true rfl) 0 [.ref 37, .int (4 : Int32)] rfl (fun X adr _ C E hZ hN => ?_)
  rw [gX2_37] at H
  have hag : AG adr adr (SHF.take 38).length := AG.rf
  refine ww_aload_n C dX2_init_0 0 rfl rfl ?_
  refine ww_objInit C dX2_init_1 ow_X2 (by decide) (Nat.le_of_ble_eq_true rfl) ?_
  refine ww_aload_n C dX2_init_4 0 rfl rfl ?_
  refine ww_iload_n C dX2_init_5 1 rfl rfl ?_
  refine ww_iconst (v := (0 : Int32)) C dX2_init_6 (by decide) ?_
  refine ww_max C dX2_init_7 mw_X2_9 (by decide) (Nat.le_of_ble_eq_true rfl) (RXA.le E (by decide) (by decide)) ?_
  refine ww_as (v := (4 : Int32)) (by decide) ?_
  refine ww_newaJ C hZ dX2_init_10 aw_J 4 (by decide) (by decide) (by decide) 38 (by decide +kernel) (by decide) (by decide +kernel) (RXA.le E (by decide) (by decide)) rfl rfl (SHF.take 39) (by decide +kernel) (fun adr1 ha hZ => ?_)
  have hag := hag.tr ha (by decide)
  change WW X ((SHF.take 39), adr1, 1, 4) 12 [.ref 37, .int (4 : Int32)] [.ref 38, .ref 37] (mk (zc h 38) (lk (LR.drop 125)))
  refine wk_putFR C E dX2_init_12 fl_X2_15 (by decide +kernel : kd (SHF.take 39) 37 = 2) rfl rfl rfl ?_
  change WW X ((SHF.take 39), adr1, 1, 4) 15 [.ref 37, .int (4 : Int32)] [] (mk (zc h 38) (lk (LR.drop 124)))
  cases H
  exact ww_vretA C E hag dX2_init_15 rfl
def gX5_50 (h : HI) : Option HI := (fX5_clear 50 (zc (zc h 51) 52)).bind fun h3 => some h3
set_option maxRecDepth 100000 in
set_option maxHeartbeats 4000000 in
theorem caX5_50 {l : Launch} {h p : HI} (H : gX5_50 h = some p) : CA l yX5_init cX5_init 1 1 [.ref 50] (SHF.take 51) (mk h (lk (LR.drop 112))) 2 442 (SHF.take 53) (fun τ => τ = mk p (lk (LR.drop 110))) := by
  refine CA.of (by decide) rfl (Nat.le_of_ble_eq_true rfl) 0 [.ref 50] rfl (fun X adr _ C E hZ hN => ?_)
  rw [gX5_50] at H
  have hag : AG adr adr (SHF.take 51).length := AG.rf
  refine ww_aload_n C dX5_init_0 0 rfl rfl ?_
  refine ww_objInit C dX5_init_1 ow_X5 (by decide) (Nat.le_of_ble_eq_true rfl) ?_
  refine ww_aload_n C dX5_init_4 0 rfl rfl ?_
  refine ww_sipush (v := (400 : Int32)) C dX5_init_5 (by decide) ?_
  refine ww_newaI C hZ dX5_init_8 aw_I 400 (by decide) (by decide) (by decide) 51 (by decide +kernel) (by decide) (by decide +kernel) (RXA.le E (by decide) (by decide)) rfl rfl (SHF.take 52) (by decide +kernel) (fun adr1 ha hZ => ?_)
  have hag := hag.tr ha (by decide)
  change WW X ((SHF.take 52), adr1, 1, 400) 10 [.ref 50] [.ref 51, .ref 50] (mk (zc h 51) (lk (LR.drop 112)))
  refine wk_putFR C E dX5_init_10 fl_X5_11 (by decide +kernel : kd (SHF.take 52) 50 = 5) rfl rfl rfl ?_
  change WW X ((SHF.take 52), adr1, 1, 400) 13 [.ref 50] [] (mk (zc h 51) (lk (LR.drop 111)))
  refine ww_aload_n C dX5_init_13 0 rfl rfl ?_
  refine ww_bipush (v := (42 : Int32)) C dX5_init_14 (by decide) ?_
  refine ww_newaI C hZ dX5_init_16 aw_I 42 (by decide) (by decide) (by decide) 52 (by decide +kernel) (by decide) (by decide +kernel) (RXA.le E (by decide) (by decide)) rfl rfl (SHF.take 53) (by decide +kernel) (fun adr2 ha hZ => ?_)
  have hag := hag.tr ha (by decide)
  change WW X ((SHF.take 53), adr2, 2, 442) 18 [.ref 50] [.ref 52, .ref 50] (mk (zc (zc h 51) 52) (lk (LR.drop 111)))
  refine wk_putFR C E dX5_init_18 fl_X5_15 (by decide +kernel : kd (SHF.take 53) 50 = 5) rfl rfl rfl ?_
  change WW X ((SHF.take 53), adr2, 2, 442) 21 [.ref 50] [] (mk (zc (zc h 51) 52) (lk (LR.drop 110)))
  refine ww_aload_n C dX5_init_21 0 rfl rfl ?_
  obtain ⟨h3, hc1, H⟩ := bd_of H
  refine ww_callV C hZ dX5_init_22 cw_X5_18 (ccX5_clear (by unfold US; decide +kernel : US (SHF.take 53) (lk (LR.drop 110)) 50) hc1) (by decide +kernel : kd (SHF.take 53) 50 = 5) ⟨by decide, rfl⟩ (by decide) rfl rfl (Nat.le_of_ble_eq_true rfl) (RXA.le E (by decide) (by decide)) (fun v τ hp => ?_)
  obtain ⟨rfl, rfl⟩ := hp
  change WW X ((SHF.take 53), adr2, 2, 442) 25 [.ref 50] [] (mk h3 (lk (LR.drop 110)))
  cases H
  exact ww_vretA C E hag dX5_init_25 rfl
def gX1_32 (h : HI) : Option HI := (gX2_33 (zc h 33)).bind fun h2 => (gX2_35 (zc h2 35)).bind fun h4 => (gX2_37 (zc h4 37)).bind fun h6 => (gX5_50 (zc (zc (zc (zc (zc (zc (zc (zc (zc (zc (zc (zc h6 39) 40) 41) 42) 43) 44) 45) 46) 47) 48) 49) 50)).bind fun h19 => some h19
set_option maxRecDepth 100000 in
set_option maxHeartbeats 4000000 in
theorem caX1_32 {l : Launch} {h p : HI} (H : gX1_32 h = some p) : CA l yX1_init cX1_init 1 2 [.ref 32] (SHF.take 33) (mk h (lk (LR.drop 129))) 20 517 (SHF.take 53) (fun τ => τ = mk p (lk (LR.drop 109))) := by
  refine CA.of (by decide) rfl (Nat.le_of_ble_eq_true rfl) 0 [.ref 32] rfl (fun X adr _ C E hZ hN => ?_)
  rw [gX1_32] at H
  have hag : AG adr adr (SHF.take 33).length := AG.rf
  refine ww_aload_n C dX1_init_0 0 rfl rfl ?_
  refine ww_objInit C dX1_init_1 ow_X1 (by decide) (Nat.le_of_ble_eq_true rfl) ?_
  refine ww_aload_n C dX1_init_4 0 rfl rfl ?_
  refine ww_new C hZ dX1_init_5 nw_X1_9 (by decide) 33 (by decide +kernel) (by decide) (by decide +kernel) (by decide +kernel) (RXA.le E (by decide) (by decide)) rfl rfl (SHF.take 34) (by decide +kernel) (fun adr1 ha hZ => ?_)
  have hag := hag.tr ha (by decide)
  change WW X ((SHF.take 34), adr1, 1, 2) 8 [.ref 32] [.ref 33, .ref 32] (mk (zc h 33) (lk (LR.drop 129)))
  refine ww_dup C dX1_init_8 rfl ?_
  refine ww_bipush (v := (6 : Int32)) C dX1_init_9 (by decide) ?_
  obtain ⟨h2, hc1, H⟩ := bd_of H
  refine ww_callI C hZ hN dX1_init_11 iw_X1_11 (caX2_33 hc1) (by decide) rfl rfl (Nat.le_of_ble_eq_true rfl) (RXA.le E (by decide) (by decide)) rfl rfl (fun adr2 τ hp ha hZ => ?_)
  subst hp
  have hag := hag.tr ha (by decide)
  change WW X ((SHF.take 35), adr2, 2, 8) 14 [.ref 32] [.ref 33, .ref 32] (mk h2 (lk (LR.drop 128)))
  refine wk_putFA C E dX1_init_14 fl_X1_14 (by decide +kernel : kd (SHF.take 35) 32 = 1) rfl rfl rfl ?_
  change WW X ((SHF.take 35), adr2, 2, 8) 17 [.ref 32] [] (mk h2 (lk (LR.drop 127)))
  refine ww_aload_n C dX1_init_17 0 rfl rfl ?_
  refine ww_new C hZ dX1_init_18 nw_X1_9 (by decide) 35 (by decide +kernel) (by decide) (by decide +kernel) (by decide +kernel) (RXA.le E (by decide) (by decide)) rfl rfl (SHF.take 36) (by decide +kernel) (fun adr3 ha hZ => ?_)
  have hag := hag.tr ha (by decide)
  change WW X ((SHF.take 36), adr3, 3, 10) 21 [.ref 32] [.ref 35, .ref 32] (mk (zc h2 35) (lk (LR.drop 127)))
  refine ww_dup C dX1_init_21 rfl ?_
  refine ww_bipush (v := (6 : Int32)) C dX1_init_22 (by decide) ?_
  obtain ⟨h4, hc1, H⟩ := bd_of H
  refine ww_callI C hZ hN dX1_init_24 iw_X1_11 (caX2_35 hc1) (by decide) rfl rfl (Nat.le_of_ble_eq_true rfl) (RXA.le E (by decide) (by decide)) rfl rfl (fun adr4 τ hp ha hZ => ?_)
  subst hp
  have hag := hag.tr ha (by decide)
  change WW X ((SHF.take 37), adr4, 4, 16) 27 [.ref 32] [.ref 35, .ref 32] (mk h4 (lk (LR.drop 126)))
  refine wk_putFA C E dX1_init_27 fl_X1_20 (by decide +kernel : kd (SHF.take 37) 32 = 1) rfl rfl rfl ?_
  change WW X ((SHF.take 37), adr4, 4, 16) 30 [.ref 32] [] (mk h4 (lk (LR.drop 125)))
  refine ww_aload_n C dX1_init_30 0 rfl rfl ?_
  refine ww_new C hZ dX1_init_31 nw_X1_9 (by decide) 37 (by decide +kernel) (by decide) (by decide +kernel) (by decide +kernel) (RXA.le E (by decide) (by decide)) rfl rfl (SHF.take 38) (by decide +kernel) (fun adr5 ha hZ => ?_)
  have hag := hag.tr ha (by decide)
  change WW X ((SHF.take 38), adr5, 5, 18) 34 [.ref 32] [.ref 37, .ref 32] (mk (zc h4 37) (lk (LR.drop 125)))
  refine ww_dup C dX1_init_34 rfl ?_
  refine ww_iconst (v := (4 : Int32)) C dX1_init_35 (by decide) ?_
  obtain ⟨h6, hc1, H⟩ := bd_of H
  refine ww_callI C hZ hN dX1_init_36 iw_X1_11 (caX2_37 hc1) (by decide) rfl rfl (Nat.le_of_ble_eq_true rfl) (RXA.le E (by decide) (by decide)) rfl rfl (fun adr6 τ hp ha hZ => ?_)
  subst hp
  have hag := hag.tr ha (by decide)
  change WW X ((SHF.take 39), adr6, 6, 22) 39 [.ref 32] [.ref 37, .ref 32] (mk h6 (lk (LR.drop 124)))
  refine wk_putFA C E dX1_init_39 fl_X1_23 (by decide +kernel : kd (SHF.take 39) 32 = 1) rfl rfl rfl ?_
  change WW X ((SHF.take 39), adr6, 6, 22) 42 [.ref 32] [] (mk h6 (lk (LR.drop 123)))
  refine ww_aload_n C dX1_init_42 0 rfl rfl ?_
  refine ww_bipush (v := (6 : Int32)) C dX1_init_43 (by decide) ?_
  refine ww_newaI C hZ dX1_init_45 aw_I 6 (by decide) (by decide) (by decide) 39 (by decide +kernel) (by decide) (by decide +kernel) (RXA.le E (by decide) (by decide)) rfl rfl (SHF.take 40) (by decide +kernel) (fun adr7 ha hZ => ?_)
  have hag := hag.tr ha (by decide)
  change WW X ((SHF.take 40), adr7, 7, 28) 47 [.ref 32] [.ref 39, .ref 32] (mk (zc h6 39) (lk (LR.drop 123)))
  refine wk_putFR C E dX1_init_47 fl_X1_26 (by decide +kernel : kd (SHF.take 40) 32 = 1) rfl rfl rfl ?_
  change WW X ((SHF.take 40), adr7, 7, 28) 50 [.ref 32] [] (mk (zc h6 39) (lk (LR.drop 122)))
  refine ww_aload_n C dX1_init_50 0 rfl rfl ?_
  refine ww_bipush (v := (6 : Int32)) C dX1_init_51 (by decide) ?_
  refine ww_newaI C hZ dX1_init_53 aw_I 6 (by decide) (by decide) (by decide) 40 (by decide +kernel) (by decide) (by decide +kernel) (RXA.le E (by decide) (by decide)) rfl rfl (SHF.take 41) (by decide +kernel) (fun adr8 ha hZ => ?_)
  have hag := hag.tr ha (by decide)
  change WW X ((SHF.take 41), adr8, 8, 34) 55 [.ref 32] [.ref 40, .ref 32] (mk (zc (zc h6 39) 40) (lk (LR.drop 122)))
  refine wk_putFR C E dX1_init_55 fl_X1_30 (by decide +kernel : kd (SHF.take 41) 32 = 1) rfl rfl rfl ?_
  change WW X ((SHF.take 41), adr8, 8, 34) 58 [.ref 32] [] (mk (zc (zc h6 39) 40) (lk (LR.drop 121)))
  refine ww_aload_n C dX1_init_58 0 rfl rfl ?_
  refine ww_iconst (v := (4 : Int32)) C dX1_init_59 (by decide) ?_
  refine ww_newaI C hZ dX1_init_60 aw_I 4 (by decide) (by decide) (by decide) 41 (by decide +kernel) (by decide) (by decide +kernel) (RXA.le E (by decide) (by decide)) rfl rfl (SHF.take 42) (by decide +kernel) (fun adr9 ha hZ => ?_)
  have hag := hag.tr ha (by decide)
  change WW X ((SHF.take 42), adr9, 9, 38) 62 [.ref 32] [.ref 41, .ref 32] (mk (zc (zc (zc h6 39) 40) 41) (lk (LR.drop 121)))
  refine wk_putFR C E dX1_init_62 fl_X1_33 (by decide +kernel : kd (SHF.take 42) 32 = 1) rfl rfl rfl ?_
  change WW X ((SHF.take 42), adr9, 9, 38) 65 [.ref 32] [] (mk (zc (zc (zc h6 39) 40) 41) (lk (LR.drop 120)))
  refine ww_aload_n C dX1_init_65 0 rfl rfl ?_
  refine ww_iconst (v := (4 : Int32)) C dX1_init_66 (by decide) ?_
  refine ww_newaI C hZ dX1_init_67 aw_I 4 (by decide) (by decide) (by decide) 42 (by decide +kernel) (by decide) (by decide +kernel) (RXA.le E (by decide) (by decide)) rfl rfl (SHF.take 43) (by decide +kernel) (fun adr10 ha hZ => ?_)
  have hag := hag.tr ha (by decide)
  change WW X ((SHF.take 43), adr10, 10, 42) 69 [.ref 32] [.ref 42, .ref 32] (mk (zc (zc (zc (zc h6 39) 40) 41) 42) (lk (LR.drop 120)))
  refine wk_putFR C E dX1_init_69 fl_X1_36 (by decide +kernel : kd (SHF.take 43) 32 = 1) rfl rfl rfl ?_
  change WW X ((SHF.take 43), adr10, 10, 42) 72 [.ref 32] [] (mk (zc (zc (zc (zc h6 39) 40) 41) 42) (lk (LR.drop 119)))
  refine ww_aload_n C dX1_init_72 0 rfl rfl ?_
  refine ww_iconst (v := (4 : Int32)) C dX1_init_73 (by decide) ?_
  refine ww_newaI C hZ dX1_init_74 aw_I 4 (by decide) (by decide) (by decide) 43 (by decide +kernel) (by decide) (by decide +kernel) (RXA.le E (by decide) (by decide)) rfl rfl (SHF.take 44) (by decide +kernel) (fun adr11 ha hZ => ?_)
  have hag := hag.tr ha (by decide)
  change WW X ((SHF.take 44), adr11, 11, 46) 76 [.ref 32] [.ref 43, .ref 32] (mk (zc (zc (zc (zc (zc h6 39) 40) 41) 42) 43) (lk (LR.drop 119)))
  refine wk_putFR C E dX1_init_76 fl_X1_39 (by decide +kernel : kd (SHF.take 44) 32 = 1) rfl rfl rfl ?_
  change WW X ((SHF.take 44), adr11, 11, 46) 79 [.ref 32] [] (mk (zc (zc (zc (zc (zc h6 39) 40) 41) 42) 43) (lk (LR.drop 118)))
  refine ww_aload_n C dX1_init_79 0 rfl rfl ?_
  refine ww_iconst (v := (4 : Int32)) C dX1_init_80 (by decide) ?_
  refine ww_newaI C hZ dX1_init_81 aw_I 4 (by decide) (by decide) (by decide) 44 (by decide +kernel) (by decide) (by decide +kernel) (RXA.le E (by decide) (by decide)) rfl rfl (SHF.take 45) (by decide +kernel) (fun adr12 ha hZ => ?_)
  have hag := hag.tr ha (by decide)
  change WW X ((SHF.take 45), adr12, 12, 50) 83 [.ref 32] [.ref 44, .ref 32] (mk (zc (zc (zc (zc (zc (zc h6 39) 40) 41) 42) 43) 44) (lk (LR.drop 118)))
  refine wk_putFR C E dX1_init_83 fl_X1_42 (by decide +kernel : kd (SHF.take 45) 32 = 1) rfl rfl rfl ?_
  change WW X ((SHF.take 45), adr12, 12, 50) 86 [.ref 32] [] (mk (zc (zc (zc (zc (zc (zc h6 39) 40) 41) 42) 43) 44) (lk (LR.drop 117)))
  refine ww_aload_n C dX1_init_86 0 rfl rfl ?_
  refine ww_iconst (v := (4 : Int32)) C dX1_init_87 (by decide) ?_
  refine ww_newaI C hZ dX1_init_88 aw_I 4 (by decide) (by decide) (by decide) 45 (by decide +kernel) (by decide) (by decide +kernel) (RXA.le E (by decide) (by decide)) rfl rfl (SHF.take 46) (by decide +kernel) (fun adr13 ha hZ => ?_)
  have hag := hag.tr ha (by decide)
  change WW X ((SHF.take 46), adr13, 13, 54) 90 [.ref 32] [.ref 45, .ref 32] (mk (zc (zc (zc (zc (zc (zc (zc h6 39) 40) 41) 42) 43) 44) 45) (lk (LR.drop 117)))
  refine wk_putFR C E dX1_init_90 fl_X1_45 (by decide +kernel : kd (SHF.take 46) 32 = 1) rfl rfl rfl ?_
  change WW X ((SHF.take 46), adr13, 13, 54) 93 [.ref 32] [] (mk (zc (zc (zc (zc (zc (zc (zc h6 39) 40) 41) 42) 43) 44) 45) (lk (LR.drop 116)))
  refine ww_aload_n C dX1_init_93 0 rfl rfl ?_
  refine ww_iconst (v := (4 : Int32)) C dX1_init_94 (by decide) ?_
  refine ww_newaI C hZ dX1_init_95 aw_I 4 (by decide) (by decide) (by decide) 46 (by decide +kernel) (by decide) (by decide +kernel) (RXA.le E (by decide) (by decide)) rfl rfl (SHF.take 47) (by decide +kernel) (fun adr14 ha hZ => ?_)
  have hag := hag.tr ha (by decide)
  change WW X ((SHF.take 47), adr14, 14, 58) 97 [.ref 32] [.ref 46, .ref 32] (mk (zc (zc (zc (zc (zc (zc (zc (zc h6 39) 40) 41) 42) 43) 44) 45) 46) (lk (LR.drop 116)))
  refine wk_putFR C E dX1_init_97 fl_X1_48 (by decide +kernel : kd (SHF.take 47) 32 = 1) rfl rfl rfl ?_
  change WW X ((SHF.take 47), adr14, 14, 58) 100 [.ref 32] [] (mk (zc (zc (zc (zc (zc (zc (zc (zc h6 39) 40) 41) 42) 43) 44) 45) 46) (lk (LR.drop 115)))
  refine ww_aload_n C dX1_init_100 0 rfl rfl ?_
  refine ww_iconst (v := (4 : Int32)) C dX1_init_101 (by decide) ?_
  refine ww_newaI C hZ dX1_init_102 aw_I 4 (by decide) (by decide) (by decide) 47 (by decide +kernel) (by decide) (by decide +kernel) (RXA.le E (by decide) (by decide)) rfl rfl (SHF.take 48) (by decide +kernel) (fun adr15 ha hZ => ?_)
  have hag := hag.tr ha (by decide)
  change WW X ((SHF.take 48), adr15, 15, 62) 104 [.ref 32] [.ref 47, .ref 32] (mk (zc (zc (zc (zc (zc (zc (zc (zc (zc h6 39) 40) 41) 42) 43) 44) 45) 46) 47) (lk (LR.drop 115)))
  refine wk_putFR C E dX1_init_104 fl_X1_51 (by decide +kernel : kd (SHF.take 48) 32 = 1) rfl rfl rfl ?_
  change WW X ((SHF.take 48), adr15, 15, 62) 107 [.ref 32] [] (mk (zc (zc (zc (zc (zc (zc (zc (zc (zc h6 39) 40) 41) 42) 43) 44) 45) 46) 47) (lk (LR.drop 114)))
  refine ww_aload_n C dX1_init_107 0 rfl rfl ?_
  refine ww_iconst (v := (4 : Int32)) C dX1_init_108 (by decide) ?_
  refine ww_newaI C hZ dX1_init_109 aw_I 4 (by decide) (by decide) (by decide) 48 (by decide +kernel) (by decide) (by decide +kernel) (RXA.le E (by decide) (by decide)) rfl rfl (SHF.take 49) (by decide +kernel) (fun adr16 ha hZ => ?_)
  have hag := hag.tr ha (by decide)
  change WW X ((SHF.take 49), adr16, 16, 66) 111 [.ref 32] [.ref 48, .ref 32] (mk (zc (zc (zc (zc (zc (zc (zc (zc (zc (zc h6 39) 40) 41) 42) 43) 44) 45) 46) 47) 48) (lk (LR.drop 114)))
  refine wk_putFR C E dX1_init_111 fl_X1_54 (by decide +kernel : kd (SHF.take 49) 32 = 1) rfl rfl rfl ?_
  change WW X ((SHF.take 49), adr16, 16, 66) 114 [.ref 32] [] (mk (zc (zc (zc (zc (zc (zc (zc (zc (zc (zc h6 39) 40) 41) 42) 43) 44) 45) 46) 47) 48) (lk (LR.drop 113)))
  refine ww_aload_n C dX1_init_114 0 rfl rfl ?_
  refine ww_iconst (v := (4 : Int32)) C dX1_init_115 (by decide) ?_
  refine ww_newaI C hZ dX1_init_116 aw_I 4 (by decide) (by decide) (by decide) 49 (by decide +kernel) (by decide) (by decide +kernel) (RXA.le E (by decide) (by decide)) rfl rfl (SHF.take 50) (by decide +kernel) (fun adr17 ha hZ => ?_)
  have hag := hag.tr ha (by decide)
  change WW X ((SHF.take 50), adr17, 17, 70) 118 [.ref 32] [.ref 49, .ref 32] (mk (zc (zc (zc (zc (zc (zc (zc (zc (zc (zc (zc h6 39) 40) 41) 42) 43) 44) 45) 46) 47) 48) 49) (lk (LR.drop 113)))
  refine wk_putFR C E dX1_init_118 fl_X1_57 (by decide +kernel : kd (SHF.take 50) 32 = 1) rfl rfl rfl ?_
  change WW X ((SHF.take 50), adr17, 17, 70) 121 [.ref 32] [] (mk (zc (zc (zc (zc (zc (zc (zc (zc (zc (zc (zc h6 39) 40) 41) 42) 43) 44) 45) 46) 47) 48) 49) (lk (LR.drop 112)))
  refine ww_aload_n C dX1_init_121 0 rfl rfl ?_
  refine ww_new C hZ dX1_init_122 nw_X1_60 (by decide) 50 (by decide +kernel) (by decide) (by decide +kernel) (by decide +kernel) (RXA.le E (by decide) (by decide)) rfl rfl (SHF.take 51) (by decide +kernel) (fun adr18 ha hZ => ?_)
  have hag := hag.tr ha (by decide)
  change WW X ((SHF.take 51), adr18, 18, 75) 125 [.ref 32] [.ref 50, .ref 32] (mk (zc (zc (zc (zc (zc (zc (zc (zc (zc (zc (zc (zc h6 39) 40) 41) 42) 43) 44) 45) 46) 47) 48) 49) 50) (lk (LR.drop 112)))
  refine ww_dup C dX1_init_125 rfl ?_
  obtain ⟨h19, hc1, H⟩ := bd_of H
  refine ww_callI C hZ hN dX1_init_126 iw_X1_62 (caX5_50 hc1) (by decide) rfl rfl (Nat.le_of_ble_eq_true rfl) (RXA.le E (by decide) (by decide)) rfl rfl (fun adr19 τ hp ha hZ => ?_)
  subst hp
  have hag := hag.tr ha (by decide)
  change WW X ((SHF.take 53), adr19, 20, 517) 129 [.ref 32] [.ref 50, .ref 32] (mk h19 (lk (LR.drop 110)))
  refine wk_putFA C E dX1_init_129 fl_X1_63 (by decide +kernel : kd (SHF.take 53) 32 = 1) rfl rfl rfl ?_
  change WW X ((SHF.take 53), adr19, 20, 517) 132 [.ref 32] [] (mk h19 (lk (LR.drop 109)))
  cases H
  exact ww_vretA C E hag dX1_init_132 rfl
def gX2_54 (h : HI) : Option HI := some (zc h 55)
set_option maxRecDepth 100000 in
set_option maxHeartbeats 4000000 in
theorem caX2_54 {l : Launch} {h p : HI} (H : gX2_54 h = some p) : CA l yX2_init cX2_init 2 1 [.ref 54, .int (21 : Int32)] (SHF.take 55) (mk h (lk (LR.drop 108))) 1 21 (SHF.take 56) (fun τ => τ = mk p (lk (LR.drop 107))) := by
  refine CA.of (by decide) rfl (Nat.le_of_ble_eq_true rfl) 0 [.ref 54, .int (21 : Int32)] rfl (fun X adr _ C E hZ hN => ?_)
  rw [gX2_54] at H
  have hag : AG adr adr (SHF.take 55).length := AG.rf
  refine ww_aload_n C dX2_init_0 0 rfl rfl ?_
  refine ww_objInit C dX2_init_1 ow_X2 (by decide) (Nat.le_of_ble_eq_true rfl) ?_
  refine ww_aload_n C dX2_init_4 0 rfl rfl ?_
  refine ww_iload_n C dX2_init_5 1 rfl rfl ?_
  refine ww_iconst (v := (0 : Int32)) C dX2_init_6 (by decide) ?_
  refine ww_max C dX2_init_7 mw_X2_9 (by decide) (Nat.le_of_ble_eq_true rfl) (RXA.le E (by decide) (by decide)) ?_
  refine ww_as (v := (21 : Int32)) (by decide) ?_
  refine ww_newaJ C hZ dX2_init_10 aw_J 21 (by decide) (by decide) (by decide) 55 (by decide +kernel) (by decide) (by decide +kernel) (RXA.le E (by decide) (by decide)) rfl rfl (SHF.take 56) (by decide +kernel) (fun adr1 ha hZ => ?_)
  have hag := hag.tr ha (by decide)
  change WW X ((SHF.take 56), adr1, 1, 21) 12 [.ref 54, .int (21 : Int32)] [.ref 55, .ref 54] (mk (zc h 55) (lk (LR.drop 108)))
  refine wk_putFR C E dX2_init_12 fl_X2_15 (by decide +kernel : kd (SHF.take 56) 54 = 2) rfl rfl rfl ?_
  change WW X ((SHF.take 56), adr1, 1, 21) 15 [.ref 54, .int (21 : Int32)] [] (mk (zc h 55) (lk (LR.drop 107)))
  cases H
  exact ww_vretA C E hag dX2_init_15 rfl
def gX4_53 (h : HI) : Option HI := (gX2_54 (zc h 54)).bind fun h2 => fX4_ctail 53 (uI h2 53 9 (-1 : Int32))
set_option maxRecDepth 100000 in
set_option maxHeartbeats 4000000 in
theorem caX4_53 {l : Launch} {h p : HI} (H : gX4_53 h = some p) : CA l yX4_init cX4_init 7 12 [.ref 53, .ref 1, .ref 32] (SHF.take 54) (mk h (lk (LR.drop 108))) 2 23 (SHF.take 56) (fun τ => τ = mk p (lk (LR.drop 104))) := by
  refine CA.of (by decide) rfl (Nat.le_of_ble_eq_true rfl) 4 [.ref 53, .ref 1, .ref 32, .retAddr 0, .retAddr 0, .retAddr 0, .retAddr 0] rfl (fun X adr _ C E hZ hN => ?_)
  rw [gX4_53] at H
  have hag : AG adr adr (SHF.take 54).length := AG.rf
  refine ww_aload_n C dX4_init_0 0 rfl rfl ?_
  refine ww_objInit C dX4_init_1 ow_X4 (by decide) (Nat.le_of_ble_eq_true rfl) ?_
  refine ww_aload_n C dX4_init_4 0 rfl rfl ?_
  refine ww_new C hZ dX4_init_5 nw_X4_9 (by decide) 54 (by decide +kernel) (by decide) (by decide +kernel) (by decide +kernel) (RXA.le E (by decide) (by decide)) rfl rfl (SHF.take 55) (by decide +kernel) (fun adr1 ha hZ => ?_)
  have hag := hag.tr ha (by decide)
  change WW X ((SHF.take 55), adr1, 1, 2) 8 [.ref 53, .ref 1, .ref 32, .retAddr 0, .retAddr 0, .retAddr 0, .retAddr 0] [.ref 54, .ref 53] (mk (zc h 54) (lk (LR.drop 108)))
  refine ww_dup C dX4_init_8 rfl ?_
  refine ww_bipush (v := (21 : Int32)) C dX4_init_9 (by decide) ?_
  obtain ⟨h2, hc1, H⟩ := bd_of H
  refine ww_callI C hZ hN dX4_init_11 iw_X4_13 (caX2_54 hc1) (by decide) rfl rfl (Nat.le_of_ble_eq_true rfl) (RXA.le E (by decide) (by decide)) rfl rfl (fun adr2 τ hp ha hZ => ?_)
  subst hp
  have hag := hag.tr ha (by decide)
  change WW X ((SHF.take 56), adr2, 2, 23) 14 [.ref 53, .ref 1, .ref 32, .retAddr 0, .retAddr 0, .retAddr 0, .retAddr 0] [.ref 54, .ref 53] (mk h2 (lk (LR.drop 107)))
  refine wk_putFA C E dX4_init_14 fl_X4_16 (by decide +kernel : kd (SHF.take 56) 53 = 4) rfl rfl rfl ?_
  change WW X ((SHF.take 56), adr2, 2, 23) 17 [.ref 53, .ref 1, .ref 32, .retAddr 0, .retAddr 0, .retAddr 0, .retAddr 0] [] (mk h2 (lk (LR.drop 106)))
  refine ww_aload_n C dX4_init_17 0 rfl rfl ?_
  refine ww_iconst (v := (-1 : Int32)) C dX4_init_18 (by decide) ?_
  refine wk_putI C dX4_init_19 fl_X4_20 (by decide +kernel : kd (SHF.take 56) 53 = 4) rfl rfl ?_
  refine ww_aload_n C dX4_init_22 0 rfl rfl ?_
  refine ww_aload_n C dX4_init_23 1 rfl rfl ?_
  refine wk_putFA C E dX4_init_24 fl_X4_24 (by decide +kernel : kd (SHF.take 56) 53 = 4) rfl rfl rfl ?_
  change WW X ((SHF.take 56), adr2, 2, 23) 27 [.ref 53, .ref 1, .ref 32, .retAddr 0, .retAddr 0, .retAddr 0, .retAddr 0] [] (mk (uI h2 53 9 (-1 : Int32)) (lk (LR.drop 105)))
  refine ww_aload_n C dX4_init_27 0 rfl rfl ?_
  refine ww_aload_n C dX4_init_28 2 rfl rfl ?_
  refine wk_putL C dX4_init_29 fl_X4_28 (by decide +kernel : kd (SHF.take 56) 53 = 4) rfl rfl ?_
  change WW X ((SHF.take 56), adr2, 2, 23) 32 [.ref 53, .ref 1, .ref 32, .retAddr 0, .retAddr 0, .retAddr 0, .retAddr 0] [] (mk (uI h2 53 9 (-1 : Int32)) (lk (LR.drop 104)))
  refine ww_drop [.ref 53, .retAddr 0, .retAddr 0, .retAddr 0, .retAddr 0, .retAddr 0, .retAddr 0] (sl_e (sl_d (sl_d (sl_e (sl_e (sl_e (sl_e sl_n))))))) ?_
  exact cX4_ctail (tt := 1) (hh := 32) ⟨by decide +kernel, fun q hq => (by cases hq), ⟨by decide +kernel, by unfold NS; decide +kernel⟩, ⟨by decide +kernel, by unfold TS; decide +kernel⟩, ⟨by decide +kernel, by unfold HS NS US; decide +kernel⟩⟩ C hZ E hag H
def gX6_56 (h : HI) : Option HI := (fX6_begin 56 11 (zc (zc (zc (zc (zc (zc (zc (zc h 57) 58) 59) 60) 61) 62) 63) 64)).bind fun h9 => some h9
set_option maxRecDepth 100000 in
set_option maxHeartbeats 4000000 in
theorem caX6_56 {l : Launch} {h p : HI} (H : gX6_56 h = some p) : CA l yX6_init cX6_init 2 2 [.ref 56, .ref 11] (SHF.take 57) (mk h (lk (LR.drop 103))) 8 256 (SHF.take 65) (fun τ => τ = mk p (lk (LR.drop 94))) := by
  refine CA.of (by decide) rfl (Nat.le_of_ble_eq_true rfl) 0 [.ref 56, .ref 11] rfl (fun X adr _ C E hZ hN => ?_)
  rw [gX6_56] at H
  have hag : AG adr adr (SHF.take 57).length := AG.rf
  refine ww_aload_n C dX6_init_0 0 rfl rfl ?_
  refine ww_objInit C dX6_init_1 ow_X6 (by decide) (Nat.le_of_ble_eq_true rfl) ?_
  refine ww_aload_n C dX6_init_4 0 rfl rfl ?_
  refine ww_bipush (v := (6 : Int32)) C dX6_init_5 (by decide) ?_
  refine ww_newaI C hZ dX6_init_7 aw_I 6 (by decide) (by decide) (by decide) 57 (by decide +kernel) (by decide) (by decide +kernel) (RXA.le E (by decide) (by decide)) rfl rfl (SHF.take 58) (by decide +kernel) (fun adr1 ha hZ => ?_)
  have hag := hag.tr ha (by decide)
  change WW X ((SHF.take 58), adr1, 1, 6) 9 [.ref 56, .ref 11] [.ref 57, .ref 56] (mk (zc h 57) (lk (LR.drop 103)))
  refine wk_putFR C E dX6_init_9 fl_X6_9 (by decide +kernel : kd (SHF.take 58) 56 = 6) rfl rfl rfl ?_
  change WW X ((SHF.take 58), adr1, 1, 6) 12 [.ref 56, .ref 11] [] (mk (zc h 57) (lk (LR.drop 102)))
  refine ww_aload_n C dX6_init_12 0 rfl rfl ?_
  refine ww_bipush (v := (6 : Int32)) C dX6_init_13 (by decide) ?_
  refine ww_newaI C hZ dX6_init_15 aw_I 6 (by decide) (by decide) (by decide) 58 (by decide +kernel) (by decide) (by decide +kernel) (RXA.le E (by decide) (by decide)) rfl rfl (SHF.take 59) (by decide +kernel) (fun adr2 ha hZ => ?_)
  have hag := hag.tr ha (by decide)
  change WW X ((SHF.take 59), adr2, 2, 12) 17 [.ref 56, .ref 11] [.ref 58, .ref 56] (mk (zc (zc h 57) 58) (lk (LR.drop 102)))
  refine wk_putFR C E dX6_init_17 fl_X6_15 (by decide +kernel : kd (SHF.take 59) 56 = 6) rfl rfl rfl ?_
  change WW X ((SHF.take 59), adr2, 2, 12) 20 [.ref 56, .ref 11] [] (mk (zc (zc h 57) 58) (lk (LR.drop 101)))
  refine ww_aload_n C dX6_init_20 0 rfl rfl ?_
  refine ww_bipush (v := (6 : Int32)) C dX6_init_21 (by decide) ?_
  refine ww_newaI C hZ dX6_init_23 aw_I 6 (by decide) (by decide) (by decide) 59 (by decide +kernel) (by decide) (by decide +kernel) (RXA.le E (by decide) (by decide)) rfl rfl (SHF.take 60) (by decide +kernel) (fun adr3 ha hZ => ?_)
  have hag := hag.tr ha (by decide)
  change WW X ((SHF.take 60), adr3, 3, 18) 25 [.ref 56, .ref 11] [.ref 59, .ref 56] (mk (zc (zc (zc h 57) 58) 59) (lk (LR.drop 101)))
  refine wk_putFR C E dX6_init_25 fl_X6_18 (by decide +kernel : kd (SHF.take 60) 56 = 6) rfl rfl rfl ?_
  change WW X ((SHF.take 60), adr3, 3, 18) 28 [.ref 56, .ref 11] [] (mk (zc (zc (zc h 57) 58) 59) (lk (LR.drop 100)))
  refine ww_aload_n C dX6_init_28 0 rfl rfl ?_
  refine ww_bipush (v := (6 : Int32)) C dX6_init_29 (by decide) ?_
  refine ww_newaI C hZ dX6_init_31 aw_I 6 (by decide) (by decide) (by decide) 60 (by decide +kernel) (by decide) (by decide +kernel) (RXA.le E (by decide) (by decide)) rfl rfl (SHF.take 61) (by decide +kernel) (fun adr4 ha hZ => ?_)
  have hag := hag.tr ha (by decide)
  change WW X ((SHF.take 61), adr4, 4, 24) 33 [.ref 56, .ref 11] [.ref 60, .ref 56] (mk (zc (zc (zc (zc h 57) 58) 59) 60) (lk (LR.drop 100)))
  refine wk_putFR C E dX6_init_33 fl_X6_21 (by decide +kernel : kd (SHF.take 61) 56 = 6) rfl rfl rfl ?_
  change WW X ((SHF.take 61), adr4, 4, 24) 36 [.ref 56, .ref 11] [] (mk (zc (zc (zc (zc h 57) 58) 59) 60) (lk (LR.drop 99)))
  refine ww_aload_n C dX6_init_36 0 rfl rfl ?_
  refine ww_iconst (v := (4 : Int32)) C dX6_init_37 (by decide) ?_
  refine ww_newaI C hZ dX6_init_38 aw_I 4 (by decide) (by decide) (by decide) 61 (by decide +kernel) (by decide) (by decide +kernel) (RXA.le E (by decide) (by decide)) rfl rfl (SHF.take 62) (by decide +kernel) (fun adr5 ha hZ => ?_)
  have hag := hag.tr ha (by decide)
  change WW X ((SHF.take 62), adr5, 5, 28) 40 [.ref 56, .ref 11] [.ref 61, .ref 56] (mk (zc (zc (zc (zc (zc h 57) 58) 59) 60) 61) (lk (LR.drop 99)))
  refine wk_putFR C E dX6_init_40 fl_X6_24 (by decide +kernel : kd (SHF.take 62) 56 = 6) rfl rfl rfl ?_
  change WW X ((SHF.take 62), adr5, 5, 28) 43 [.ref 56, .ref 11] [] (mk (zc (zc (zc (zc (zc h 57) 58) 59) 60) 61) (lk (LR.drop 98)))
  refine ww_aload_n C dX6_init_43 0 rfl rfl ?_
  refine ww_iconst (v := (4 : Int32)) C dX6_init_44 (by decide) ?_
  refine ww_newaI C hZ dX6_init_45 aw_I 4 (by decide) (by decide) (by decide) 62 (by decide +kernel) (by decide) (by decide +kernel) (RXA.le E (by decide) (by decide)) rfl rfl (SHF.take 63) (by decide +kernel) (fun adr6 ha hZ => ?_)
  have hag := hag.tr ha (by decide)
  change WW X ((SHF.take 63), adr6, 6, 32) 47 [.ref 56, .ref 11] [.ref 62, .ref 56] (mk (zc (zc (zc (zc (zc (zc h 57) 58) 59) 60) 61) 62) (lk (LR.drop 98)))
  refine wk_putFR C E dX6_init_47 fl_X6_27 (by decide +kernel : kd (SHF.take 63) 56 = 6) rfl rfl rfl ?_
  change WW X ((SHF.take 63), adr6, 6, 32) 50 [.ref 56, .ref 11] [] (mk (zc (zc (zc (zc (zc (zc h 57) 58) 59) 60) 61) 62) (lk (LR.drop 97)))
  refine ww_aload_n C dX6_init_50 0 rfl rfl ?_
  refine ww_bipush (v := (24 : Int32)) C dX6_init_51 (by decide) ?_
  refine ww_newaI C hZ dX6_init_53 aw_I 24 (by decide) (by decide) (by decide) 63 (by decide +kernel) (by decide) (by decide +kernel) (RXA.le E (by decide) (by decide)) rfl rfl (SHF.take 64) (by decide +kernel) (fun adr7 ha hZ => ?_)
  have hag := hag.tr ha (by decide)
  change WW X ((SHF.take 64), adr7, 7, 56) 55 [.ref 56, .ref 11] [.ref 63, .ref 56] (mk (zc (zc (zc (zc (zc (zc (zc h 57) 58) 59) 60) 61) 62) 63) (lk (LR.drop 97)))
  refine wk_putFR C E dX6_init_55 fl_X6_30 (by decide +kernel : kd (SHF.take 64) 56 = 6) rfl rfl rfl ?_
  change WW X ((SHF.take 64), adr7, 7, 56) 58 [.ref 56, .ref 11] [] (mk (zc (zc (zc (zc (zc (zc (zc h 57) 58) 59) 60) 61) 62) 63) (lk (LR.drop 96)))
  refine ww_aload_n C dX6_init_58 0 rfl rfl ?_
  refine ww_sipush (v := (200 : Int32)) C dX6_init_59 (by decide) ?_
  refine ww_newaJ C hZ dX6_init_62 aw_J 200 (by decide) (by decide) (by decide) 64 (by decide +kernel) (by decide) (by decide +kernel) (RXA.le E (by decide) (by decide)) rfl rfl (SHF.take 65) (by decide +kernel) (fun adr8 ha hZ => ?_)
  have hag := hag.tr ha (by decide)
  change WW X ((SHF.take 65), adr8, 8, 256) 64 [.ref 56, .ref 11] [.ref 64, .ref 56] (mk (zc (zc (zc (zc (zc (zc (zc (zc h 57) 58) 59) 60) 61) 62) 63) 64) (lk (LR.drop 96)))
  refine wk_putFR C E dX6_init_64 fl_X6_33 (by decide +kernel : kd (SHF.take 65) 56 = 6) rfl rfl rfl ?_
  change WW X ((SHF.take 65), adr8, 8, 256) 67 [.ref 56, .ref 11] [] (mk (zc (zc (zc (zc (zc (zc (zc (zc h 57) 58) 59) 60) 61) 62) 63) 64) (lk (LR.drop 95)))
  refine ww_aload_n C dX6_init_67 0 rfl rfl ?_
  refine ww_aload_n C dX6_init_68 1 rfl rfl ?_
  obtain ⟨h9, hc1, H⟩ := bd_of H
  refine ww_callV C hZ dX6_init_69 cw_X6_37 (ccX6_begin0 (by unfold SS0; decide +kernel : SS0 (SHF.take 65) (lk (LR.drop 95)) 56) (by unfold HS NS US; decide +kernel : HS (SHF.take 65) (lk (LR.drop 95)) 11) hc1) (by decide +kernel : kd (SHF.take 65) 56 = 6) ⟨by decide, rfl⟩ (by decide) rfl rfl (Nat.le_of_ble_eq_true rfl) (RXA.le E (by decide) (by decide)) (fun v τ hp => ?_)
  obtain ⟨rfl, rfl⟩ := hp
  rw [ur_lk]
  change WW X ((SHF.take 65), adr8, 8, 256) 72 [.ref 56, .ref 11] [] (mk h9 (lk (LR.drop 94)))
  cases H
  exact ww_vretA C E hag dX6_init_72 rfl
def gX3_65 (h : HI) : Option HI := some (zc (zc (zc (zc (zc (zc (zc (zc h 66) 67) 68) 69) 70) 71) 72) 73)
set_option maxRecDepth 100000 in
set_option maxHeartbeats 4000000 in
theorem caX3_65 {l : Launch} {h p : HI} (H : gX3_65 h = some p) : CA l yX3_init cX3_init 2 1 [.ref 65, .ref 11] (SHF.take 66) (mk h (lk (LR.drop 93))) 8 4543 (SHF.take 74) (fun τ => τ = mk p (lk (LR.drop 84))) := by
  refine CA.of (by decide) rfl (Nat.le_of_ble_eq_true rfl) 0 [.ref 65, .ref 11] rfl (fun X adr _ C E hZ hN => ?_)
  rw [gX3_65] at H
  have hag : AG adr adr (SHF.take 66).length := AG.rf
  refine ww_aload_n C dX3_init_0 0 rfl rfl ?_
  refine ww_objInit C dX3_init_1 ow_X3 (by decide) (Nat.le_of_ble_eq_true rfl) ?_
  refine ww_aload_n C dX3_init_4 0 rfl rfl ?_
  refine ww_sipush (v := (4096 : Int32)) C dX3_init_5 (by decide) ?_
  refine ww_newaJ C hZ dX3_init_8 aw_J 4096 (by decide) (by decide) (by decide) 66 (by decide +kernel) (by decide) (by decide +kernel) (RXA.le E (by decide) (by decide)) rfl rfl (SHF.take 67) (by decide +kernel) (fun adr1 ha hZ => ?_)
  have hag := hag.tr ha (by decide)
  change WW X ((SHF.take 67), adr1, 1, 4096) 10 [.ref 65, .ref 11] [.ref 66, .ref 65] (mk (zc h 66) (lk (LR.drop 93)))
  refine wk_putFR C E dX3_init_10 fl_X3_11 (by decide +kernel : kd (SHF.take 67) 65 = 3) rfl rfl rfl ?_
  change WW X ((SHF.take 67), adr1, 1, 4096) 13 [.ref 65, .ref 11] [] (mk (zc h 66) (lk (LR.drop 92)))
  refine ww_aload_n C dX3_init_13 0 rfl rfl ?_
  refine ww_bipush (v := (64 : Int32)) C dX3_init_14 (by decide) ?_
  refine ww_newaJ C hZ dX3_init_16 aw_J 64 (by decide) (by decide) (by decide) 67 (by decide +kernel) (by decide) (by decide +kernel) (RXA.le E (by decide) (by decide)) rfl rfl (SHF.take 68) (by decide +kernel) (fun adr2 ha hZ => ?_)
  have hag := hag.tr ha (by decide)
  change WW X ((SHF.take 68), adr2, 2, 4160) 18 [.ref 65, .ref 11] [.ref 67, .ref 65] (mk (zc (zc h 66) 67) (lk (LR.drop 92)))
  refine wk_putFR C E dX3_init_18 fl_X3_15 (by decide +kernel : kd (SHF.take 68) 65 = 3) rfl rfl rfl ?_
  change WW X ((SHF.take 68), adr2, 2, 4160) 21 [.ref 65, .ref 11] [] (mk (zc (zc h 66) 67) (lk (LR.drop 91)))
  refine ww_aload_n C dX3_init_21 0 rfl rfl ?_
  refine ww_sipush (v := (343 : Int32)) C dX3_init_22 (by decide) ?_
  refine ww_newaZ C hZ dX3_init_25 aw_Z 343 (by decide) (by decide) (by decide) 68 (by decide +kernel) (by decide) (by decide +kernel) (RXA.le E (by decide) (by decide)) rfl rfl (SHF.take 69) (by decide +kernel) (fun adr3 ha hZ => ?_)
  have hag := hag.tr ha (by decide)
  change WW X ((SHF.take 69), adr3, 3, 4503) 27 [.ref 65, .ref 11] [.ref 68, .ref 65] (mk (zc (zc (zc h 66) 67) 68) (lk (LR.drop 91)))
  refine wk_putFR C E dX3_init_27 fl_X3_18 (by decide +kernel : kd (SHF.take 69) 65 = 3) rfl rfl rfl ?_
  change WW X ((SHF.take 69), adr3, 3, 4503) 30 [.ref 65, .ref 11] [] (mk (zc (zc (zc h 66) 67) 68) (lk (LR.drop 90)))
  refine ww_aload_n C dX3_init_30 0 rfl rfl ?_
  refine ww_iconst (v := (4 : Int32)) C dX3_init_31 (by decide) ?_
  refine ww_newaI C hZ dX3_init_32 aw_I 4 (by decide) (by decide) (by decide) 69 (by decide +kernel) (by decide) (by decide +kernel) (RXA.le E (by decide) (by decide)) rfl rfl (SHF.take 70) (by decide +kernel) (fun adr4 ha hZ => ?_)
  have hag := hag.tr ha (by decide)
  change WW X ((SHF.take 70), adr4, 4, 4507) 34 [.ref 65, .ref 11] [.ref 69, .ref 65] (mk (zc (zc (zc (zc h 66) 67) 68) 69) (lk (LR.drop 90)))
  refine wk_putFR C E dX3_init_34 fl_X3_22 (by decide +kernel : kd (SHF.take 70) 65 = 3) rfl rfl rfl ?_
  change WW X ((SHF.take 70), adr4, 4, 4507) 37 [.ref 65, .ref 11] [] (mk (zc (zc (zc (zc h 66) 67) 68) 69) (lk (LR.drop 89)))
  refine ww_aload_n C dX3_init_37 0 rfl rfl ?_
  refine ww_iconst (v := (4 : Int32)) C dX3_init_38 (by decide) ?_
  refine ww_newaI C hZ dX3_init_39 aw_I 4 (by decide) (by decide) (by decide) 70 (by decide +kernel) (by decide) (by decide +kernel) (RXA.le E (by decide) (by decide)) rfl rfl (SHF.take 71) (by decide +kernel) (fun adr5 ha hZ => ?_)
  have hag := hag.tr ha (by decide)
  change WW X ((SHF.take 71), adr5, 5, 4511) 41 [.ref 65, .ref 11] [.ref 70, .ref 65] (mk (zc (zc (zc (zc (zc h 66) 67) 68) 69) 70) (lk (LR.drop 89)))
  refine wk_putFR C E dX3_init_41 fl_X3_26 (by decide +kernel : kd (SHF.take 71) 65 = 3) rfl rfl rfl ?_
  change WW X ((SHF.take 71), adr5, 5, 4511) 44 [.ref 65, .ref 11] [] (mk (zc (zc (zc (zc (zc h 66) 67) 68) 69) 70) (lk (LR.drop 88)))
  refine ww_aload_n C dX3_init_44 0 rfl rfl ?_
  refine ww_iconst (v := (4 : Int32)) C dX3_init_45 (by decide) ?_
  refine ww_newaI C hZ dX3_init_46 aw_I 4 (by decide) (by decide) (by decide) 71 (by decide +kernel) (by decide) (by decide +kernel) (RXA.le E (by decide) (by decide)) rfl rfl (SHF.take 72) (by decide +kernel) (fun adr6 ha hZ => ?_)
  have hag := hag.tr ha (by decide)
  change WW X ((SHF.take 72), adr6, 6, 4515) 48 [.ref 65, .ref 11] [.ref 71, .ref 65] (mk (zc (zc (zc (zc (zc (zc h 66) 67) 68) 69) 70) 71) (lk (LR.drop 88)))
  refine wk_putFR C E dX3_init_48 fl_X3_29 (by decide +kernel : kd (SHF.take 72) 65 = 3) rfl rfl rfl ?_
  change WW X ((SHF.take 72), adr6, 6, 4515) 51 [.ref 65, .ref 11] [] (mk (zc (zc (zc (zc (zc (zc h 66) 67) 68) 69) 70) 71) (lk (LR.drop 87)))
  refine ww_aload_n C dX3_init_51 0 rfl rfl ?_
  refine ww_bipush (v := (24 : Int32)) C dX3_init_52 (by decide) ?_
  refine ww_newaI C hZ dX3_init_54 aw_I 24 (by decide) (by decide) (by decide) 72 (by decide +kernel) (by decide) (by decide +kernel) (RXA.le E (by decide) (by decide)) rfl rfl (SHF.take 73) (by decide +kernel) (fun adr7 ha hZ => ?_)
  have hag := hag.tr ha (by decide)
  change WW X ((SHF.take 73), adr7, 7, 4539) 56 [.ref 65, .ref 11] [.ref 72, .ref 65] (mk (zc (zc (zc (zc (zc (zc (zc h 66) 67) 68) 69) 70) 71) 72) (lk (LR.drop 87)))
  refine wk_putFR C E dX3_init_56 fl_X3_32 (by decide +kernel : kd (SHF.take 73) 65 = 3) rfl rfl rfl ?_
  change WW X ((SHF.take 73), adr7, 7, 4539) 59 [.ref 65, .ref 11] [] (mk (zc (zc (zc (zc (zc (zc (zc h 66) 67) 68) 69) 70) 71) 72) (lk (LR.drop 86)))
  refine ww_aload_n C dX3_init_59 0 rfl rfl ?_
  refine ww_iconst (v := (4 : Int32)) C dX3_init_60 (by decide) ?_
  refine ww_newaI C hZ dX3_init_61 aw_I 4 (by decide) (by decide) (by decide) 73 (by decide +kernel) (by decide) (by decide +kernel) (RXA.le E (by decide) (by decide)) rfl rfl (SHF.take 74) (by decide +kernel) (fun adr8 ha hZ => ?_)
  have hag := hag.tr ha (by decide)
  change WW X ((SHF.take 74), adr8, 8, 4543) 63 [.ref 65, .ref 11] [.ref 73, .ref 65] (mk (zc (zc (zc (zc (zc (zc (zc (zc h 66) 67) 68) 69) 70) 71) 72) 73) (lk (LR.drop 86)))
  refine wk_putFR C E dX3_init_63 fl_X3_35 (by decide +kernel : kd (SHF.take 74) 65 = 3) rfl rfl rfl ?_
  change WW X ((SHF.take 74), adr8, 8, 4543) 66 [.ref 65, .ref 11] [] (mk (zc (zc (zc (zc (zc (zc (zc (zc h 66) 67) 68) 69) 70) 71) 72) 73) (lk (LR.drop 85)))
  refine ww_aload_n C dX3_init_66 0 rfl rfl ?_
  refine ww_aload_n C dX3_init_67 1 rfl rfl ?_
  refine wk_putL C dX3_init_68 fl_X3_38 (by decide +kernel : kd (SHF.take 74) 65 = 3) rfl rfl ?_
  change WW X ((SHF.take 74), adr8, 8, 4543) 71 [.ref 65, .ref 11] [] (mk (zc (zc (zc (zc (zc (zc (zc (zc h 66) 67) 68) 69) 70) 71) 72) 73) (lk (LR.drop 84)))
  cases H
  exact ww_vretA C E hag dX3_init_71 rfl
def gX6_74 (h : HI) : Option HI := (fX6_begin 74 11 (zc (zc (zc (zc (zc (zc (zc (zc h 75) 76) 77) 78) 79) 80) 81) 82)).bind fun h9 => some h9
set_option maxRecDepth 100000 in
set_option maxHeartbeats 4000000 in
theorem caX6_74 {l : Launch} {h p : HI} (H : gX6_74 h = some p) : CA l yX6_init cX6_init 2 2 [.ref 74, .ref 11] (SHF.take 75) (mk h (lk (LR.drop 83))) 8 256 (SHF.take 83) (fun τ => τ = mk p (lk (LR.drop 74))) := by
  refine CA.of (by decide) rfl (Nat.le_of_ble_eq_true rfl) 0 [.ref 74, .ref 11] rfl (fun X adr _ C E hZ hN => ?_)
  rw [gX6_74] at H
  have hag : AG adr adr (SHF.take 75).length := AG.rf
  refine ww_aload_n C dX6_init_0 0 rfl rfl ?_
  refine ww_objInit C dX6_init_1 ow_X6 (by decide) (Nat.le_of_ble_eq_true rfl) ?_
  refine ww_aload_n C dX6_init_4 0 rfl rfl ?_
  refine ww_bipush (v := (6 : Int32)) C dX6_init_5 (by decide) ?_
  refine ww_newaI C hZ dX6_init_7 aw_I 6 (by decide) (by decide) (by decide) 75 (by decide +kernel) (by decide) (by decide +kernel) (RXA.le E (by decide) (by decide)) rfl rfl (SHF.take 76) (by decide +kernel) (fun adr1 ha hZ => ?_)
  have hag := hag.tr ha (by decide)
  change WW X ((SHF.take 76), adr1, 1, 6) 9 [.ref 74, .ref 11] [.ref 75, .ref 74] (mk (zc h 75) (lk (LR.drop 83)))
  refine wk_putFR C E dX6_init_9 fl_X6_9 (by decide +kernel : kd (SHF.take 76) 74 = 6) rfl rfl rfl ?_
  change WW X ((SHF.take 76), adr1, 1, 6) 12 [.ref 74, .ref 11] [] (mk (zc h 75) (lk (LR.drop 82)))
  refine ww_aload_n C dX6_init_12 0 rfl rfl ?_
  refine ww_bipush (v := (6 : Int32)) C dX6_init_13 (by decide) ?_
  refine ww_newaI C hZ dX6_init_15 aw_I 6 (by decide) (by decide) (by decide) 76 (by decide +kernel) (by decide) (by decide +kernel) (RXA.le E (by decide) (by decide)) rfl rfl (SHF.take 77) (by decide +kernel) (fun adr2 ha hZ => ?_)
  have hag := hag.tr ha (by decide)
  change WW X ((SHF.take 77), adr2, 2, 12) 17 [.ref 74, .ref 11] [.ref 76, .ref 74] (mk (zc (zc h 75) 76) (lk (LR.drop 82)))
  refine wk_putFR C E dX6_init_17 fl_X6_15 (by decide +kernel : kd (SHF.take 77) 74 = 6) rfl rfl rfl ?_
  change WW X ((SHF.take 77), adr2, 2, 12) 20 [.ref 74, .ref 11] [] (mk (zc (zc h 75) 76) (lk (LR.drop 81)))
  refine ww_aload_n C dX6_init_20 0 rfl rfl ?_
  refine ww_bipush (v := (6 : Int32)) C dX6_init_21 (by decide) ?_
  refine ww_newaI C hZ dX6_init_23 aw_I 6 (by decide) (by decide) (by decide) 77 (by decide +kernel) (by decide) (by decide +kernel) (RXA.le E (by decide) (by decide)) rfl rfl (SHF.take 78) (by decide +kernel) (fun adr3 ha hZ => ?_)
  have hag := hag.tr ha (by decide)
  change WW X ((SHF.take 78), adr3, 3, 18) 25 [.ref 74, .ref 11] [.ref 77, .ref 74] (mk (zc (zc (zc h 75) 76) 77) (lk (LR.drop 81)))
  refine wk_putFR C E dX6_init_25 fl_X6_18 (by decide +kernel : kd (SHF.take 78) 74 = 6) rfl rfl rfl ?_
  change WW X ((SHF.take 78), adr3, 3, 18) 28 [.ref 74, .ref 11] [] (mk (zc (zc (zc h 75) 76) 77) (lk (LR.drop 80)))
  refine ww_aload_n C dX6_init_28 0 rfl rfl ?_
  refine ww_bipush (v := (6 : Int32)) C dX6_init_29 (by decide) ?_
  refine ww_newaI C hZ dX6_init_31 aw_I 6 (by decide) (by decide) (by decide) 78 (by decide +kernel) (by decide) (by decide +kernel) (RXA.le E (by decide) (by decide)) rfl rfl (SHF.take 79) (by decide +kernel) (fun adr4 ha hZ => ?_)
  have hag := hag.tr ha (by decide)
  change WW X ((SHF.take 79), adr4, 4, 24) 33 [.ref 74, .ref 11] [.ref 78, .ref 74] (mk (zc (zc (zc (zc h 75) 76) 77) 78) (lk (LR.drop 80)))
  refine wk_putFR C E dX6_init_33 fl_X6_21 (by decide +kernel : kd (SHF.take 79) 74 = 6) rfl rfl rfl ?_
  change WW X ((SHF.take 79), adr4, 4, 24) 36 [.ref 74, .ref 11] [] (mk (zc (zc (zc (zc h 75) 76) 77) 78) (lk (LR.drop 79)))
  refine ww_aload_n C dX6_init_36 0 rfl rfl ?_
  refine ww_iconst (v := (4 : Int32)) C dX6_init_37 (by decide) ?_
  refine ww_newaI C hZ dX6_init_38 aw_I 4 (by decide) (by decide) (by decide) 79 (by decide +kernel) (by decide) (by decide +kernel) (RXA.le E (by decide) (by decide)) rfl rfl (SHF.take 80) (by decide +kernel) (fun adr5 ha hZ => ?_)
  have hag := hag.tr ha (by decide)
  change WW X ((SHF.take 80), adr5, 5, 28) 40 [.ref 74, .ref 11] [.ref 79, .ref 74] (mk (zc (zc (zc (zc (zc h 75) 76) 77) 78) 79) (lk (LR.drop 79)))
  refine wk_putFR C E dX6_init_40 fl_X6_24 (by decide +kernel : kd (SHF.take 80) 74 = 6) rfl rfl rfl ?_
  change WW X ((SHF.take 80), adr5, 5, 28) 43 [.ref 74, .ref 11] [] (mk (zc (zc (zc (zc (zc h 75) 76) 77) 78) 79) (lk (LR.drop 78)))
  refine ww_aload_n C dX6_init_43 0 rfl rfl ?_
  refine ww_iconst (v := (4 : Int32)) C dX6_init_44 (by decide) ?_
  refine ww_newaI C hZ dX6_init_45 aw_I 4 (by decide) (by decide) (by decide) 80 (by decide +kernel) (by decide) (by decide +kernel) (RXA.le E (by decide) (by decide)) rfl rfl (SHF.take 81) (by decide +kernel) (fun adr6 ha hZ => ?_)
  have hag := hag.tr ha (by decide)
  change WW X ((SHF.take 81), adr6, 6, 32) 47 [.ref 74, .ref 11] [.ref 80, .ref 74] (mk (zc (zc (zc (zc (zc (zc h 75) 76) 77) 78) 79) 80) (lk (LR.drop 78)))
  refine wk_putFR C E dX6_init_47 fl_X6_27 (by decide +kernel : kd (SHF.take 81) 74 = 6) rfl rfl rfl ?_
  change WW X ((SHF.take 81), adr6, 6, 32) 50 [.ref 74, .ref 11] [] (mk (zc (zc (zc (zc (zc (zc h 75) 76) 77) 78) 79) 80) (lk (LR.drop 77)))
  refine ww_aload_n C dX6_init_50 0 rfl rfl ?_
  refine ww_bipush (v := (24 : Int32)) C dX6_init_51 (by decide) ?_
  refine ww_newaI C hZ dX6_init_53 aw_I 24 (by decide) (by decide) (by decide) 81 (by decide +kernel) (by decide) (by decide +kernel) (RXA.le E (by decide) (by decide)) rfl rfl (SHF.take 82) (by decide +kernel) (fun adr7 ha hZ => ?_)
  have hag := hag.tr ha (by decide)
  change WW X ((SHF.take 82), adr7, 7, 56) 55 [.ref 74, .ref 11] [.ref 81, .ref 74] (mk (zc (zc (zc (zc (zc (zc (zc h 75) 76) 77) 78) 79) 80) 81) (lk (LR.drop 77)))
  refine wk_putFR C E dX6_init_55 fl_X6_30 (by decide +kernel : kd (SHF.take 82) 74 = 6) rfl rfl rfl ?_
  change WW X ((SHF.take 82), adr7, 7, 56) 58 [.ref 74, .ref 11] [] (mk (zc (zc (zc (zc (zc (zc (zc h 75) 76) 77) 78) 79) 80) 81) (lk (LR.drop 76)))
  refine ww_aload_n C dX6_init_58 0 rfl rfl ?_
  refine ww_sipush (v := (200 : Int32)) C dX6_init_59 (by decide) ?_
  refine ww_newaJ C hZ dX6_init_62 aw_J 200 (by decide) (by decide) (by decide) 82 (by decide +kernel) (by decide) (by decide +kernel) (RXA.le E (by decide) (by decide)) rfl rfl (SHF.take 83) (by decide +kernel) (fun adr8 ha hZ => ?_)
  have hag := hag.tr ha (by decide)
  change WW X ((SHF.take 83), adr8, 8, 256) 64 [.ref 74, .ref 11] [.ref 82, .ref 74] (mk (zc (zc (zc (zc (zc (zc (zc (zc h 75) 76) 77) 78) 79) 80) 81) 82) (lk (LR.drop 76)))
  refine wk_putFR C E dX6_init_64 fl_X6_33 (by decide +kernel : kd (SHF.take 83) 74 = 6) rfl rfl rfl ?_
  change WW X ((SHF.take 83), adr8, 8, 256) 67 [.ref 74, .ref 11] [] (mk (zc (zc (zc (zc (zc (zc (zc (zc h 75) 76) 77) 78) 79) 80) 81) 82) (lk (LR.drop 75)))
  refine ww_aload_n C dX6_init_67 0 rfl rfl ?_
  refine ww_aload_n C dX6_init_68 1 rfl rfl ?_
  obtain ⟨h9, hc1, H⟩ := bd_of H
  refine ww_callV C hZ dX6_init_69 cw_X6_37 (ccX6_begin0 (by unfold SS0; decide +kernel : SS0 (SHF.take 83) (lk (LR.drop 75)) 74) (by unfold HS NS US; decide +kernel : HS (SHF.take 83) (lk (LR.drop 75)) 11) hc1) (by decide +kernel : kd (SHF.take 83) 74 = 6) ⟨by decide, rfl⟩ (by decide) rfl rfl (Nat.le_of_ble_eq_true rfl) (RXA.le E (by decide) (by decide)) (fun v τ hp => ?_)
  obtain ⟨rfl, rfl⟩ := hp
  rw [ur_lk]
  change WW X ((SHF.take 83), adr8, 8, 256) 72 [.ref 74, .ref 11] [] (mk h9 (lk (LR.drop 74)))
  cases H
  exact ww_vretA C E hag dX6_init_72 rfl
def gX6_83 (h : HI) : Option HI := (fX6_begin 83 11 (zc (zc (zc (zc (zc (zc (zc (zc h 84) 85) 86) 87) 88) 89) 90) 91)).bind fun h9 => some h9
set_option maxRecDepth 100000 in
set_option maxHeartbeats 4000000 in
theorem caX6_83 {l : Launch} {h p : HI} (H : gX6_83 h = some p) : CA l yX6_init cX6_init 2 2 [.ref 83, .ref 11] (SHF.take 84) (mk h (lk (LR.drop 73))) 8 256 (SHF.take 92) (fun τ => τ = mk p (lk (LR.drop 64))) := by
  refine CA.of (by decide) rfl (Nat.le_of_ble_eq_true rfl) 0 [.ref 83, .ref 11] rfl (fun X adr _ C E hZ hN => ?_)
  rw [gX6_83] at H
  have hag : AG adr adr (SHF.take 84).length := AG.rf
  refine ww_aload_n C dX6_init_0 0 rfl rfl ?_
  refine ww_objInit C dX6_init_1 ow_X6 (by decide) (Nat.le_of_ble_eq_true rfl) ?_
  refine ww_aload_n C dX6_init_4 0 rfl rfl ?_
  refine ww_bipush (v := (6 : Int32)) C dX6_init_5 (by decide) ?_
  refine ww_newaI C hZ dX6_init_7 aw_I 6 (by decide) (by decide) (by decide) 84 (by decide +kernel) (by decide) (by decide +kernel) (RXA.le E (by decide) (by decide)) rfl rfl (SHF.take 85) (by decide +kernel) (fun adr1 ha hZ => ?_)
  have hag := hag.tr ha (by decide)
  change WW X ((SHF.take 85), adr1, 1, 6) 9 [.ref 83, .ref 11] [.ref 84, .ref 83] (mk (zc h 84) (lk (LR.drop 73)))
  refine wk_putFR C E dX6_init_9 fl_X6_9 (by decide +kernel : kd (SHF.take 85) 83 = 6) rfl rfl rfl ?_
  change WW X ((SHF.take 85), adr1, 1, 6) 12 [.ref 83, .ref 11] [] (mk (zc h 84) (lk (LR.drop 72)))
  refine ww_aload_n C dX6_init_12 0 rfl rfl ?_
  refine ww_bipush (v := (6 : Int32)) C dX6_init_13 (by decide) ?_
  refine ww_newaI C hZ dX6_init_15 aw_I 6 (by decide) (by decide) (by decide) 85 (by decide +kernel) (by decide) (by decide +kernel) (RXA.le E (by decide) (by decide)) rfl rfl (SHF.take 86) (by decide +kernel) (fun adr2 ha hZ => ?_)
  have hag := hag.tr ha (by decide)
  change WW X ((SHF.take 86), adr2, 2, 12) 17 [.ref 83, .ref 11] [.ref 85, .ref 83] (mk (zc (zc h 84) 85) (lk (LR.drop 72)))
  refine wk_putFR C E dX6_init_17 fl_X6_15 (by decide +kernel : kd (SHF.take 86) 83 = 6) rfl rfl rfl ?_
  change WW X ((SHF.take 86), adr2, 2, 12) 20 [.ref 83, .ref 11] [] (mk (zc (zc h 84) 85) (lk (LR.drop 71)))
  refine ww_aload_n C dX6_init_20 0 rfl rfl ?_
  refine ww_bipush (v := (6 : Int32)) C dX6_init_21 (by decide) ?_
  refine ww_newaI C hZ dX6_init_23 aw_I 6 (by decide) (by decide) (by decide) 86 (by decide +kernel) (by decide) (by decide +kernel) (RXA.le E (by decide) (by decide)) rfl rfl (SHF.take 87) (by decide +kernel) (fun adr3 ha hZ => ?_)
  have hag := hag.tr ha (by decide)
  change WW X ((SHF.take 87), adr3, 3, 18) 25 [.ref 83, .ref 11] [.ref 86, .ref 83] (mk (zc (zc (zc h 84) 85) 86) (lk (LR.drop 71)))
  refine wk_putFR C E dX6_init_25 fl_X6_18 (by decide +kernel : kd (SHF.take 87) 83 = 6) rfl rfl rfl ?_
  change WW X ((SHF.take 87), adr3, 3, 18) 28 [.ref 83, .ref 11] [] (mk (zc (zc (zc h 84) 85) 86) (lk (LR.drop 70)))
  refine ww_aload_n C dX6_init_28 0 rfl rfl ?_
  refine ww_bipush (v := (6 : Int32)) C dX6_init_29 (by decide) ?_
  refine ww_newaI C hZ dX6_init_31 aw_I 6 (by decide) (by decide) (by decide) 87 (by decide +kernel) (by decide) (by decide +kernel) (RXA.le E (by decide) (by decide)) rfl rfl (SHF.take 88) (by decide +kernel) (fun adr4 ha hZ => ?_)
  have hag := hag.tr ha (by decide)
  change WW X ((SHF.take 88), adr4, 4, 24) 33 [.ref 83, .ref 11] [.ref 87, .ref 83] (mk (zc (zc (zc (zc h 84) 85) 86) 87) (lk (LR.drop 70)))
  refine wk_putFR C E dX6_init_33 fl_X6_21 (by decide +kernel : kd (SHF.take 88) 83 = 6) rfl rfl rfl ?_
  change WW X ((SHF.take 88), adr4, 4, 24) 36 [.ref 83, .ref 11] [] (mk (zc (zc (zc (zc h 84) 85) 86) 87) (lk (LR.drop 69)))
  refine ww_aload_n C dX6_init_36 0 rfl rfl ?_
  refine ww_iconst (v := (4 : Int32)) C dX6_init_37 (by decide) ?_
  refine ww_newaI C hZ dX6_init_38 aw_I 4 (by decide) (by decide) (by decide) 88 (by decide +kernel) (by decide) (by decide +kernel) (RXA.le E (by decide) (by decide)) rfl rfl (SHF.take 89) (by decide +kernel) (fun adr5 ha hZ => ?_)
  have hag := hag.tr ha (by decide)
  change WW X ((SHF.take 89), adr5, 5, 28) 40 [.ref 83, .ref 11] [.ref 88, .ref 83] (mk (zc (zc (zc (zc (zc h 84) 85) 86) 87) 88) (lk (LR.drop 69)))
  refine wk_putFR C E dX6_init_40 fl_X6_24 (by decide +kernel : kd (SHF.take 89) 83 = 6) rfl rfl rfl ?_
  change WW X ((SHF.take 89), adr5, 5, 28) 43 [.ref 83, .ref 11] [] (mk (zc (zc (zc (zc (zc h 84) 85) 86) 87) 88) (lk (LR.drop 68)))
  refine ww_aload_n C dX6_init_43 0 rfl rfl ?_
  refine ww_iconst (v := (4 : Int32)) C dX6_init_44 (by decide) ?_
  refine ww_newaI C hZ dX6_init_45 aw_I 4 (by decide) (by decide) (by decide) 89 (by decide +kernel) (by decide) (by decide +kernel) (RXA.le E (by decide) (by decide)) rfl rfl (SHF.take 90) (by decide +kernel) (fun adr6 ha hZ => ?_)
  have hag := hag.tr ha (by decide)
  change WW X ((SHF.take 90), adr6, 6, 32) 47 [.ref 83, .ref 11] [.ref 89, .ref 83] (mk (zc (zc (zc (zc (zc (zc h 84) 85) 86) 87) 88) 89) (lk (LR.drop 68)))
  refine wk_putFR C E dX6_init_47 fl_X6_27 (by decide +kernel : kd (SHF.take 90) 83 = 6) rfl rfl rfl ?_
  change WW X ((SHF.take 90), adr6, 6, 32) 50 [.ref 83, .ref 11] [] (mk (zc (zc (zc (zc (zc (zc h 84) 85) 86) 87) 88) 89) (lk (LR.drop 67)))
  refine ww_aload_n C dX6_init_50 0 rfl rfl ?_
  refine ww_bipush (v := (24 : Int32)) C dX6_init_51 (by decide) ?_
  refine ww_newaI C hZ dX6_init_53 aw_I 24 (by decide) (by decide) (by decide) 90 (by decide +kernel) (by decide) (by decide +kernel) (RXA.le E (by decide) (by decide)) rfl rfl (SHF.take 91) (by decide +kernel) (fun adr7 ha hZ => ?_)
  have hag := hag.tr ha (by decide)
  change WW X ((SHF.take 91), adr7, 7, 56) 55 [.ref 83, .ref 11] [.ref 90, .ref 83] (mk (zc (zc (zc (zc (zc (zc (zc h 84) 85) 86) 87) 88) 89) 90) (lk (LR.drop 67)))
  refine wk_putFR C E dX6_init_55 fl_X6_30 (by decide +kernel : kd (SHF.take 91) 83 = 6) rfl rfl rfl ?_
  change WW X ((SHF.take 91), adr7, 7, 56) 58 [.ref 83, .ref 11] [] (mk (zc (zc (zc (zc (zc (zc (zc h 84) 85) 86) 87) 88) 89) 90) (lk (LR.drop 66)))
  refine ww_aload_n C dX6_init_58 0 rfl rfl ?_
  refine ww_sipush (v := (200 : Int32)) C dX6_init_59 (by decide) ?_
  refine ww_newaJ C hZ dX6_init_62 aw_J 200 (by decide) (by decide) (by decide) 91 (by decide +kernel) (by decide) (by decide +kernel) (RXA.le E (by decide) (by decide)) rfl rfl (SHF.take 92) (by decide +kernel) (fun adr8 ha hZ => ?_)
  have hag := hag.tr ha (by decide)
  change WW X ((SHF.take 92), adr8, 8, 256) 64 [.ref 83, .ref 11] [.ref 91, .ref 83] (mk (zc (zc (zc (zc (zc (zc (zc (zc h 84) 85) 86) 87) 88) 89) 90) 91) (lk (LR.drop 66)))
  refine wk_putFR C E dX6_init_64 fl_X6_33 (by decide +kernel : kd (SHF.take 92) 83 = 6) rfl rfl rfl ?_
  change WW X ((SHF.take 92), adr8, 8, 256) 67 [.ref 83, .ref 11] [] (mk (zc (zc (zc (zc (zc (zc (zc (zc h 84) 85) 86) 87) 88) 89) 90) 91) (lk (LR.drop 65)))
  refine ww_aload_n C dX6_init_67 0 rfl rfl ?_
  refine ww_aload_n C dX6_init_68 1 rfl rfl ?_
  obtain ⟨h9, hc1, H⟩ := bd_of H
  refine ww_callV C hZ dX6_init_69 cw_X6_37 (ccX6_begin0 (by unfold SS0; decide +kernel : SS0 (SHF.take 92) (lk (LR.drop 65)) 83) (by unfold HS NS US; decide +kernel : HS (SHF.take 92) (lk (LR.drop 65)) 11) hc1) (by decide +kernel : kd (SHF.take 92) 83 = 6) ⟨by decide, rfl⟩ (by decide) rfl rfl (Nat.le_of_ble_eq_true rfl) (RXA.le E (by decide) (by decide)) (fun v τ hp => ?_)
  obtain ⟨rfl, rfl⟩ := hp
  rw [ur_lk]
  change WW X ((SHF.take 92), adr8, 8, 256) 72 [.ref 83, .ref 11] [] (mk h9 (lk (LR.drop 64)))
  cases H
  exact ww_vretA C E hag dX6_init_72 rfl
def gX6_92 (h : HI) : Option HI := (fX6_begin 92 11 (zc (zc (zc (zc (zc (zc (zc (zc h 93) 94) 95) 96) 97) 98) 99) 100)).bind fun h9 => some h9
set_option maxRecDepth 100000 in
set_option maxHeartbeats 4000000 in
theorem caX6_92 {l : Launch} {h p : HI} (H : gX6_92 h = some p) : CA l yX6_init cX6_init 2 2 [.ref 92, .ref 11] (SHF.take 93) (mk h (lk (LR.drop 63))) 8 256 (SHF.take 101) (fun τ => τ = mk p (lk (LR.drop 54))) := by
  refine CA.of (by decide) rfl (Nat.le_of_ble_eq_true rfl) 0 [.ref 92, .ref 11] rfl (fun X adr _ C E hZ hN => ?_)
  rw [gX6_92] at H
  have hag : AG adr adr (SHF.take 93).length := AG.rf
  refine ww_aload_n C dX6_init_0 0 rfl rfl ?_
  refine ww_objInit C dX6_init_1 ow_X6 (by decide) (Nat.le_of_ble_eq_true rfl) ?_
  refine ww_aload_n C dX6_init_4 0 rfl rfl ?_
  refine ww_bipush (v := (6 : Int32)) C dX6_init_5 (by decide) ?_
  refine ww_newaI C hZ dX6_init_7 aw_I 6 (by decide) (by decide) (by decide) 93 (by decide +kernel) (by decide) (by decide +kernel) (RXA.le E (by decide) (by decide)) rfl rfl (SHF.take 94) (by decide +kernel) (fun adr1 ha hZ => ?_)
  have hag := hag.tr ha (by decide)
  change WW X ((SHF.take 94), adr1, 1, 6) 9 [.ref 92, .ref 11] [.ref 93, .ref 92] (mk (zc h 93) (lk (LR.drop 63)))
  refine wk_putFR C E dX6_init_9 fl_X6_9 (by decide +kernel : kd (SHF.take 94) 92 = 6) rfl rfl rfl ?_
  change WW X ((SHF.take 94), adr1, 1, 6) 12 [.ref 92, .ref 11] [] (mk (zc h 93) (lk (LR.drop 62)))
  refine ww_aload_n C dX6_init_12 0 rfl rfl ?_
  refine ww_bipush (v := (6 : Int32)) C dX6_init_13 (by decide) ?_
  refine ww_newaI C hZ dX6_init_15 aw_I 6 (by decide) (by decide) (by decide) 94 (by decide +kernel) (by decide) (by decide +kernel) (RXA.le E (by decide) (by decide)) rfl rfl (SHF.take 95) (by decide +kernel) (fun adr2 ha hZ => ?_)
  have hag := hag.tr ha (by decide)
  change WW X ((SHF.take 95), adr2, 2, 12) 17 [.ref 92, .ref 11] [.ref 94, .ref 92] (mk (zc (zc h 93) 94) (lk (LR.drop 62)))
  refine wk_putFR C E dX6_init_17 fl_X6_15 (by decide +kernel : kd (SHF.take 95) 92 = 6) rfl rfl rfl ?_
  change WW X ((SHF.take 95), adr2, 2, 12) 20 [.ref 92, .ref 11] [] (mk (zc (zc h 93) 94) (lk (LR.drop 61)))
  refine ww_aload_n C dX6_init_20 0 rfl rfl ?_
  refine ww_bipush (v := (6 : Int32)) C dX6_init_21 (by decide) ?_
  refine ww_newaI C hZ dX6_init_23 aw_I 6 (by decide) (by decide) (by decide) 95 (by decide +kernel) (by decide) (by decide +kernel) (RXA.le E (by decide) (by decide)) rfl rfl (SHF.take 96) (by decide +kernel) (fun adr3 ha hZ => ?_)
  have hag := hag.tr ha (by decide)
  change WW X ((SHF.take 96), adr3, 3, 18) 25 [.ref 92, .ref 11] [.ref 95, .ref 92] (mk (zc (zc (zc h 93) 94) 95) (lk (LR.drop 61)))
  refine wk_putFR C E dX6_init_25 fl_X6_18 (by decide +kernel : kd (SHF.take 96) 92 = 6) rfl rfl rfl ?_
  change WW X ((SHF.take 96), adr3, 3, 18) 28 [.ref 92, .ref 11] [] (mk (zc (zc (zc h 93) 94) 95) (lk (LR.drop 60)))
  refine ww_aload_n C dX6_init_28 0 rfl rfl ?_
  refine ww_bipush (v := (6 : Int32)) C dX6_init_29 (by decide) ?_
  refine ww_newaI C hZ dX6_init_31 aw_I 6 (by decide) (by decide) (by decide) 96 (by decide +kernel) (by decide) (by decide +kernel) (RXA.le E (by decide) (by decide)) rfl rfl (SHF.take 97) (by decide +kernel) (fun adr4 ha hZ => ?_)
  have hag := hag.tr ha (by decide)
  change WW X ((SHF.take 97), adr4, 4, 24) 33 [.ref 92, .ref 11] [.ref 96, .ref 92] (mk (zc (zc (zc (zc h 93) 94) 95) 96) (lk (LR.drop 60)))
  refine wk_putFR C E dX6_init_33 fl_X6_21 (by decide +kernel : kd (SHF.take 97) 92 = 6) rfl rfl rfl ?_
  change WW X ((SHF.take 97), adr4, 4, 24) 36 [.ref 92, .ref 11] [] (mk (zc (zc (zc (zc h 93) 94) 95) 96) (lk (LR.drop 59)))
  refine ww_aload_n C dX6_init_36 0 rfl rfl ?_
  refine ww_iconst (v := (4 : Int32)) C dX6_init_37 (by decide) ?_
  refine ww_newaI C hZ dX6_init_38 aw_I 4 (by decide) (by decide) (by decide) 97 (by decide +kernel) (by decide) (by decide +kernel) (RXA.le E (by decide) (by decide)) rfl rfl (SHF.take 98) (by decide +kernel) (fun adr5 ha hZ => ?_)
  have hag := hag.tr ha (by decide)
  change WW X ((SHF.take 98), adr5, 5, 28) 40 [.ref 92, .ref 11] [.ref 97, .ref 92] (mk (zc (zc (zc (zc (zc h 93) 94) 95) 96) 97) (lk (LR.drop 59)))
  refine wk_putFR C E dX6_init_40 fl_X6_24 (by decide +kernel : kd (SHF.take 98) 92 = 6) rfl rfl rfl ?_
  change WW X ((SHF.take 98), adr5, 5, 28) 43 [.ref 92, .ref 11] [] (mk (zc (zc (zc (zc (zc h 93) 94) 95) 96) 97) (lk (LR.drop 58)))
  refine ww_aload_n C dX6_init_43 0 rfl rfl ?_
  refine ww_iconst (v := (4 : Int32)) C dX6_init_44 (by decide) ?_
  refine ww_newaI C hZ dX6_init_45 aw_I 4 (by decide) (by decide) (by decide) 98 (by decide +kernel) (by decide) (by decide +kernel) (RXA.le E (by decide) (by decide)) rfl rfl (SHF.take 99) (by decide +kernel) (fun adr6 ha hZ => ?_)
  have hag := hag.tr ha (by decide)
  change WW X ((SHF.take 99), adr6, 6, 32) 47 [.ref 92, .ref 11] [.ref 98, .ref 92] (mk (zc (zc (zc (zc (zc (zc h 93) 94) 95) 96) 97) 98) (lk (LR.drop 58)))
  refine wk_putFR C E dX6_init_47 fl_X6_27 (by decide +kernel : kd (SHF.take 99) 92 = 6) rfl rfl rfl ?_
  change WW X ((SHF.take 99), adr6, 6, 32) 50 [.ref 92, .ref 11] [] (mk (zc (zc (zc (zc (zc (zc h 93) 94) 95) 96) 97) 98) (lk (LR.drop 57)))
  refine ww_aload_n C dX6_init_50 0 rfl rfl ?_
  refine ww_bipush (v := (24 : Int32)) C dX6_init_51 (by decide) ?_
  refine ww_newaI C hZ dX6_init_53 aw_I 24 (by decide) (by decide) (by decide) 99 (by decide +kernel) (by decide) (by decide +kernel) (RXA.le E (by decide) (by decide)) rfl rfl (SHF.take 100) (by decide +kernel) (fun adr7 ha hZ => ?_)
  have hag := hag.tr ha (by decide)
  change WW X ((SHF.take 100), adr7, 7, 56) 55 [.ref 92, .ref 11] [.ref 99, .ref 92] (mk (zc (zc (zc (zc (zc (zc (zc h 93) 94) 95) 96) 97) 98) 99) (lk (LR.drop 57)))
  refine wk_putFR C E dX6_init_55 fl_X6_30 (by decide +kernel : kd (SHF.take 100) 92 = 6) rfl rfl rfl ?_
  change WW X ((SHF.take 100), adr7, 7, 56) 58 [.ref 92, .ref 11] [] (mk (zc (zc (zc (zc (zc (zc (zc h 93) 94) 95) 96) 97) 98) 99) (lk (LR.drop 56)))
  refine ww_aload_n C dX6_init_58 0 rfl rfl ?_
  refine ww_sipush (v := (200 : Int32)) C dX6_init_59 (by decide) ?_
  refine ww_newaJ C hZ dX6_init_62 aw_J 200 (by decide) (by decide) (by decide) 100 (by decide +kernel) (by decide) (by decide +kernel) (RXA.le E (by decide) (by decide)) rfl rfl (SHF.take 101) (by decide +kernel) (fun adr8 ha hZ => ?_)
  have hag := hag.tr ha (by decide)
  change WW X ((SHF.take 101), adr8, 8, 256) 64 [.ref 92, .ref 11] [.ref 100, .ref 92] (mk (zc (zc (zc (zc (zc (zc (zc (zc h 93) 94) 95) 96) 97) 98) 99) 100) (lk (LR.drop 56)))
  refine wk_putFR C E dX6_init_64 fl_X6_33 (by decide +kernel : kd (SHF.take 101) 92 = 6) rfl rfl rfl ?_
  change WW X ((SHF.take 101), adr8, 8, 256) 67 [.ref 92, .ref 11] [] (mk (zc (zc (zc (zc (zc (zc (zc (zc h 93) 94) 95) 96) 97) 98) 99) 100) (lk (LR.drop 55)))
  refine ww_aload_n C dX6_init_67 0 rfl rfl ?_
  refine ww_aload_n C dX6_init_68 1 rfl rfl ?_
  obtain ⟨h9, hc1, H⟩ := bd_of H
  refine ww_callV C hZ dX6_init_69 cw_X6_37 (ccX6_begin0 (by unfold SS0; decide +kernel : SS0 (SHF.take 101) (lk (LR.drop 55)) 92) (by unfold HS NS US; decide +kernel : HS (SHF.take 101) (lk (LR.drop 55)) 11) hc1) (by decide +kernel : kd (SHF.take 101) 92 = 6) ⟨by decide, rfl⟩ (by decide) rfl rfl (Nat.le_of_ble_eq_true rfl) (RXA.le E (by decide) (by decide)) (fun v τ hp => ?_)
  obtain ⟨rfl, rfl⟩ := hp
  rw [ur_lk]
  change WW X ((SHF.take 101), adr8, 8, 256) 72 [.ref 92, .ref 11] [] (mk h9 (lk (LR.drop 54)))
  cases H
  exact ww_vretA C E hag dX6_init_72 rfl
def gX8_0 (h : HI) : Option HI := (gX7_1 (zc h 1)).bind fun h2 => (gX0_5 (zc (zc (zc h2 3) 4) 5)).bind fun h6 => (gX1_11 (zc h6 11)).bind fun h8 => (gX1_32 (zc h8 32)).bind fun h10 => (gX4_53 (zc h10 53)).bind fun h12 => (gX6_56 (zc h12 56)).bind fun h14 => (gX3_65 (zc h14 65)).bind fun h16 => (gX6_74 (zc h16 74)).bind fun h18 => (gX6_83 (zc h18 83)).bind fun h20 => (gX6_92 (zc h20 92)).bind fun h22 => some h22
set_option maxRecDepth 100000 in
set_option maxHeartbeats 4000000 in
theorem caX8_0 {l : Launch} {h p : HI} (H : gX8_0 h = some p) : CA l yX8_init cX8_init 2 13 [.ref 0] (SHF.take 1) (mk h (lk (LR.drop 160))) 100 8661 (SHF.take 101) (fun τ => τ = mk p (lk (LR.drop 53))) := by
  refine CA.of (by decide) rfl (Nat.le_of_ble_eq_true rfl) 1 [.ref 0, .retAddr 0] rfl (fun X adr _ C E hZ hN => ?_)
  rw [gX8_0] at H
  have hag : AG adr adr (SHF.take 1).length := AG.rf
  refine ww_aload_n C dX8_init_0 0 rfl rfl ?_
  refine ww_objInit C dX8_init_1 ow_X8 (by decide) (Nat.le_of_ble_eq_true rfl) ?_
  refine ww_aload_n C dX8_init_4 0 rfl rfl ?_
  refine ww_new C hZ dX8_init_5 nw_X8_7 (by decide) 1 (by decide +kernel) (by decide) (by decide +kernel) (by decide +kernel) (RXA.le E (by decide) (by decide)) rfl rfl (SHF.take 2) (by decide +kernel) (fun adr1 ha hZ => ?_)
  have hag := hag.tr ha (by decide)
  change WW X ((SHF.take 2), adr1, 1, 2) 8 [.ref 0, .retAddr 0] [.ref 1, .ref 0] (mk (zc h 1) (lk (LR.drop 160)))
  refine ww_dup C dX8_init_8 rfl ?_
  obtain ⟨h2, hc1, H⟩ := bd_of H
  refine ww_callIN C hZ hN dX8_init_9 in_X7 hN.1 (caX7_1 hc1) (by decide) rfl rfl (Nat.le_of_ble_eq_true rfl) (RXA.le E (by decide) (by decide)) rfl rfl (fun adr2 τ hp ha hZ => ?_)
  subst hp
  have hag := hag.tr ha (by decide)
  change WW X ((SHF.take 3), adr2, 2, 1702) 12 [.ref 0, .retAddr 0] [.ref 1, .ref 0] (mk h2 (lk (LR.drop 159)))
  refine wk_putFA C E dX8_init_12 fl_X8_10 (by decide +kernel : kd (SHF.take 3) 0 = 8) rfl rfl rfl ?_
  change WW X ((SHF.take 3), adr2, 2, 1702) 15 [.ref 0, .retAddr 0] [] (mk h2 (lk (LR.drop 158)))
  refine ww_aload_n C dX8_init_15 0 rfl rfl ?_
  refine ww_iconst (v := (3 : Int32)) C dX8_init_16 (by decide) ?_
  refine ww_newq C hZ hN dX8_init_17 qw_X8_16 3 (by decide) (by decide) (by decide) 3 (by decide +kernel) (by decide) (by decide +kernel) (by decide +kernel) (RXA.le E (by decide) (by decide)) rfl rfl (SHF.take 4) (by decide +kernel) (fun adr3 ha hZ => ?_)
  have hag := hag.tr ha (by decide)
  change WW X ((SHF.take 4), adr3, 3, 1705) 20 [.ref 0, .retAddr 0] [.ref 3, .ref 0] (mk (zc h2 3) (lk (LR.drop 158)))
  refine wk_putFR C E dX8_init_20 fl_X8_18 (by decide +kernel : kd (SHF.take 4) 0 = 8) rfl rfl rfl ?_
  change WW X ((SHF.take 4), adr3, 3, 1705) 23 [.ref 0, .retAddr 0] [] (mk (zc h2 3) (lk (LR.drop 157)))
  refine ww_aload_n C dX8_init_23 0 rfl rfl ?_
  refine ww_iconst (v := (3 : Int32)) C dX8_init_24 (by decide) ?_
  refine ww_newaZ C hZ dX8_init_25 aw_Z 3 (by decide) (by decide) (by decide) 4 (by decide +kernel) (by decide) (by decide +kernel) (RXA.le E (by decide) (by decide)) rfl rfl (SHF.take 5) (by decide +kernel) (fun adr4 ha hZ => ?_)
  have hag := hag.tr ha (by decide)
  change WW X ((SHF.take 5), adr4, 4, 1708) 27 [.ref 0, .retAddr 0] [.ref 4, .ref 0] (mk (zc (zc h2 3) 4) (lk (LR.drop 157)))
  refine wk_putFR C E dX8_init_27 fl_X8_22 (by decide +kernel : kd (SHF.take 5) 0 = 8) rfl rfl rfl ?_
  change WW X ((SHF.take 5), adr4, 4, 1708) 30 [.ref 0, .retAddr 0] [] (mk (zc (zc h2 3) 4) (lk (LR.drop 156)))
  refine ww_aload_n C dX8_init_30 0 rfl rfl ?_
  refine ww_new C hZ dX8_init_31 nw_X8_26 (by decide) 5 (by decide +kernel) (by decide) (by decide +kernel) (by decide +kernel) (RXA.le E (by decide) (by decide)) rfl rfl (SHF.take 6) (by decide +kernel) (fun adr5 ha hZ => ?_)
  have hag := hag.tr ha (by decide)
  change WW X ((SHF.take 6), adr5, 5, 1715) 34 [.ref 0, .retAddr 0] [.ref 5, .ref 0] (mk (zc (zc (zc h2 3) 4) 5) (lk (LR.drop 156)))
  refine ww_dup C dX8_init_34 rfl ?_
  obtain ⟨h6, hc1, H⟩ := bd_of H
  refine ww_callIN C hZ hN dX8_init_35 in_X0 hN.2.1 (caX0_5 hc1) (by decide) rfl rfl (Nat.le_of_ble_eq_true rfl) (RXA.le E (by decide) (by decide)) rfl rfl (fun adr6 τ hp ha hZ => ?_)
  subst hp
  have hag := hag.tr ha (by decide)
  change WW X ((SHF.take 11), adr6, 10, 1915) 38 [.ref 0, .retAddr 0] [.ref 5, .ref 0] (mk h6 (lk (LR.drop 151)))
  refine wk_putFA C E dX8_init_38 fl_X8_29 (by decide +kernel : kd (SHF.take 11) 0 = 8) rfl rfl rfl ?_
  change WW X ((SHF.take 11), adr6, 10, 1915) 41 [.ref 0, .retAddr 0] [] (mk h6 (lk (LR.drop 150)))
  refine ww_aload_n C dX8_init_41 0 rfl rfl ?_
  refine ww_new C hZ dX8_init_42 nw_X8_33 (by decide) 11 (by decide +kernel) (by decide) (by decide +kernel) (by decide +kernel) (RXA.le E (by decide) (by decide)) rfl rfl (SHF.take 12) (by decide +kernel) (fun adr7 ha hZ => ?_)
  have hag := hag.tr ha (by decide)
  change WW X ((SHF.take 12), adr7, 11, 1935) 45 [.ref 0, .retAddr 0] [.ref 11, .ref 0] (mk (zc h6 11) (lk (LR.drop 150)))
  refine ww_dup C dX8_init_45 rfl ?_
  obtain ⟨h8, hc1, H⟩ := bd_of H
  refine ww_callIN C hZ hN dX8_init_46 in_X1 hN.2.2.1 (caX1_11 hc1) (by decide) rfl rfl (Nat.le_of_ble_eq_true rfl) (RXA.le E (by decide) (by decide)) rfl rfl (fun adr8 τ hp ha hZ => ?_)
  subst hp
  have hag := hag.tr ha (by decide)
  change WW X ((SHF.take 32), adr8, 31, 2452) 49 [.ref 0, .retAddr 0] [.ref 11, .ref 0] (mk h8 (lk (LR.drop 130)))
  refine wk_putL C dX8_init_49 fl_X8_36 (by decide +kernel : kd (SHF.take 32) 0 = 8) rfl rfl ?_
  change WW X ((SHF.take 32), adr8, 31, 2452) 52 [.ref 0, .retAddr 0] [] (mk h8 (lk (LR.drop 129)))
  refine ww_aload_n C dX8_init_52 0 rfl rfl ?_
  refine ww_new C hZ dX8_init_53 nw_X8_33 (by decide) 32 (by decide +kernel) (by decide) (by decide +kernel) (by decide +kernel) (RXA.le E (by decide) (by decide)) rfl rfl (SHF.take 33) (by decide +kernel) (fun adr9 ha hZ => ?_)
  have hag := hag.tr ha (by decide)
  change WW X ((SHF.take 33), adr9, 32, 2472) 56 [.ref 0, .retAddr 0] [.ref 32, .ref 0] (mk (zc h8 32) (lk (LR.drop 129)))
  refine ww_dup C dX8_init_56 rfl ?_
  obtain ⟨h10, hc1, H⟩ := bd_of H
  refine ww_callIN C hZ hN dX8_init_57 in_X1 hN.2.2.1 (caX1_32 hc1) (by decide) rfl rfl (Nat.le_of_ble_eq_true rfl) (RXA.le E (by decide) (by decide)) rfl rfl (fun adr10 τ hp ha hZ => ?_)
  subst hp
  have hag := hag.tr ha (by decide)
  change WW X ((SHF.take 53), adr10, 52, 2989) 60 [.ref 0, .retAddr 0] [.ref 32, .ref 0] (mk h10 (lk (LR.drop 109)))
  refine wk_putL C dX8_init_60 fl_X8_40 (by decide +kernel : kd (SHF.take 53) 0 = 8) rfl rfl ?_
  change WW X ((SHF.take 53), adr10, 52, 2989) 63 [.ref 0, .retAddr 0] [] (mk h10 (lk (LR.drop 108)))
  refine ww_aload_n C dX8_init_63 0 rfl rfl ?_
  refine ww_new C hZ dX8_init_64 nw_X8_43 (by decide) 53 (by decide +kernel) (by decide) (by decide +kernel) (by decide +kernel) (RXA.le E (by decide) (by decide)) rfl rfl (SHF.take 54) (by decide +kernel) (fun adr11 ha hZ => ?_)
  have hag := hag.tr ha (by decide)
  change WW X ((SHF.take 54), adr11, 53, 2999) 67 [.ref 0, .retAddr 0] [.ref 53, .ref 0] (mk (zc h10 53) (lk (LR.drop 108)))
  refine ww_dup C dX8_init_67 rfl ?_
  refine ww_aload_n C dX8_init_68 0 rfl rfl ?_
  refine wk_getA (a := 1) C dX8_init_69 fl_X8_10 (by decide +kernel : kd (SHF.take 54) 0 = 8) rfl (by decide +kernel) ?_
  refine ww_aload_n C dX8_init_72 0 rfl rfl ?_
  refine wk_getA (a := 32) C dX8_init_73 fl_X8_40 (by decide +kernel : kd (SHF.take 54) 0 = 8) rfl (by decide +kernel) ?_
  obtain ⟨h12, hc1, H⟩ := bd_of H
  refine ww_callI C hZ hN dX8_init_76 iw_X8_45 (caX4_53 hc1) (by decide) rfl rfl (Nat.le_of_ble_eq_true rfl) (RXA.le E (by decide) (by decide)) rfl rfl (fun adr12 τ hp ha hZ => ?_)
  subst hp
  have hag := hag.tr ha (by decide)
  change WW X ((SHF.take 56), adr12, 55, 3022) 79 [.ref 0, .retAddr 0] [.ref 53, .ref 0] (mk h12 (lk (LR.drop 104)))
  refine wk_putFA C E dX8_init_79 fl_X8_48 (by decide +kernel : kd (SHF.take 56) 0 = 8) rfl rfl rfl ?_
  change WW X ((SHF.take 56), adr12, 55, 3022) 82 [.ref 0, .retAddr 0] [] (mk h12 (lk (LR.drop 103)))
  refine ww_aload_n C dX8_init_82 0 rfl rfl ?_
  refine ww_new C hZ dX8_init_83 nw_X8_16 (by decide) 56 (by decide +kernel) (by decide) (by decide +kernel) (by decide +kernel) (RXA.le E (by decide) (by decide)) rfl rfl (SHF.take 57) (by decide +kernel) (fun adr13 ha hZ => ?_)
  have hag := hag.tr ha (by decide)
  change WW X ((SHF.take 57), adr13, 56, 3036) 86 [.ref 0, .retAddr 0] [.ref 56, .ref 0] (mk (zc h12 56) (lk (LR.drop 103)))
  refine ww_dup C dX8_init_86 rfl ?_
  refine ww_aload_n C dX8_init_87 0 rfl rfl ?_
  refine wk_getA (a := 11) C dX8_init_88 fl_X8_36 (by decide +kernel : kd (SHF.take 57) 0 = 8) rfl (by decide +kernel) ?_
  obtain ⟨h14, hc1, H⟩ := bd_of H
  refine ww_callI C hZ hN dX8_init_91 iw_X8_52 (caX6_56 hc1) (by decide) rfl rfl (Nat.le_of_ble_eq_true rfl) (RXA.le E (by decide) (by decide)) rfl rfl (fun adr14 τ hp ha hZ => ?_)
  subst hp
  have hag := hag.tr ha (by decide)
  change WW X ((SHF.take 65), adr14, 64, 3292) 94 [.ref 0, .retAddr 0] [.ref 56, .ref 0] (mk h14 (lk (LR.drop 94)))
  refine wk_putFA C E dX8_init_94 fl_X8_55 (by decide +kernel : kd (SHF.take 65) 0 = 8) rfl rfl rfl ?_
  change WW X ((SHF.take 65), adr14, 64, 3292) 97 [.ref 0, .retAddr 0] [] (mk h14 (lk (LR.drop 93)))
  refine ww_aload_n C dX8_init_97 0 rfl rfl ?_
  refine ww_new C hZ dX8_init_98 nw_X8_59 (by decide) 65 (by decide +kernel) (by decide) (by decide +kernel) (by decide +kernel) (RXA.le E (by decide) (by decide)) rfl rfl (SHF.take 66) (by decide +kernel) (fun adr15 ha hZ => ?_)
  have hag := hag.tr ha (by decide)
  change WW X ((SHF.take 66), adr15, 65, 3308) 101 [.ref 0, .retAddr 0] [.ref 65, .ref 0] (mk (zc h14 65) (lk (LR.drop 93)))
  refine ww_dup C dX8_init_101 rfl ?_
  refine ww_aload_n C dX8_init_102 0 rfl rfl ?_
  refine wk_getA (a := 11) C dX8_init_103 fl_X8_36 (by decide +kernel : kd (SHF.take 66) 0 = 8) rfl (by decide +kernel) ?_
  obtain ⟨h16, hc1, H⟩ := bd_of H
  refine ww_callI C hZ hN dX8_init_106 iw_X8_61 (caX3_65 hc1) (by decide) rfl rfl (Nat.le_of_ble_eq_true rfl) (RXA.le E (by decide) (by decide)) rfl rfl (fun adr16 τ hp ha hZ => ?_)
  subst hp
  have hag := hag.tr ha (by decide)
  change WW X ((SHF.take 74), adr16, 73, 7851) 109 [.ref 0, .retAddr 0] [.ref 65, .ref 0] (mk h16 (lk (LR.drop 84)))
  refine wk_putFA C E dX8_init_109 fl_X8_62 (by decide +kernel : kd (SHF.take 74) 0 = 8) rfl rfl rfl ?_
  change WW X ((SHF.take 74), adr16, 73, 7851) 112 [.ref 0, .retAddr 0] [] (mk h16 (lk (LR.drop 83)))
  refine ww_iconst (v := (0 : Int32)) C dX8_init_112 (by decide) ?_
  refine ww_istore_n C dX8_init_113 1 rfl (by decide) rfl [.ref 0, .int (0 : Int32)] rfl ?_
  refine ww_iload_n C dX8_init_114 1 rfl rfl ?_
  refine ww_iconst (v := (3 : Int32)) C dX8_init_115 (by decide) ?_
  refine ww_icmp_ge C dX8_init_116 142 rfl (fun hc => absurd hc (by decide)) (fun _ => ?_)
  refine ww_aload_n C dX8_init_119 0 rfl rfl ?_
  refine wk_getR (a := 3) C dX8_init_120 fl_X8_18 (by decide +kernel : kd (SHF.take 74) 0 = 8) rfl (by decide +kernel) ?_
  refine ww_iload_n C dX8_init_123 1 rfl rfl ?_
  refine ww_new C hZ dX8_init_124 nw_X8_16 (by decide) 74 (by decide +kernel) (by decide) (by decide +kernel) (by decide +kernel) (RXA.le E (by decide) (by decide)) rfl rfl (SHF.take 75) (by decide +kernel) (fun adr17 ha hZ => ?_)
  have hag := hag.tr ha (by decide)
  change WW X ((SHF.take 75), adr17, 74, 7865) 127 [.ref 0, .int (0 : Int32)] [.ref 74, .int (0 : Int32), .ref 3] (mk (zc h16 74) (lk (LR.drop 83)))
  refine ww_dup C dX8_init_127 rfl ?_
  refine ww_aload_n C dX8_init_128 0 rfl rfl ?_
  refine wk_getA (a := 11) C dX8_init_129 fl_X8_36 (by decide +kernel : kd (SHF.take 75) 0 = 8) rfl (by decide +kernel) ?_
  obtain ⟨h18, hc1, H⟩ := bd_of H
  refine ww_callI C hZ hN dX8_init_132 iw_X8_52 (caX6_74 hc1) (by decide) rfl rfl (Nat.le_of_ble_eq_true rfl) (RXA.le E (by decide) (by decide)) rfl rfl (fun adr18 τ hp ha hZ => ?_)
  subst hp
  have hag := hag.tr ha (by decide)
  change WW X ((SHF.take 83), adr18, 82, 8121) 135 [.ref 0, .int (0 : Int32)] [.ref 74, .int (0 : Int32), .ref 3] (mk h18 (lk (LR.drop 74)))
  refine wk_aastore C dX8_init_135 (by decide +kernel) (by decide +kernel) 3 (by decide) (by decide +kernel) 0 (by decide) ?_
  change WW X ((SHF.take 83), adr18, 82, 8121) 136 [.ref 0, .int (0 : Int32)] [] (mk h18 (lk (LR.drop 73)))
  refine ww_iinc (v := (1 : Int32)) C dX8_init_136 rfl (by decide) (by decide) rfl [.ref 0, .int (1 : Int32)] rfl ?_
  refine ww_goto C dX8_init_139 114 rfl ?_
  refine ww_iload_n C dX8_init_114 1 rfl rfl ?_
  refine ww_iconst (v := (3 : Int32)) C dX8_init_115 (by decide) ?_
  refine ww_icmp_ge C dX8_init_116 142 rfl (fun hc => absurd hc (by decide)) (fun _ => ?_)
  refine ww_aload_n C dX8_init_119 0 rfl rfl ?_
  refine wk_getR (a := 3) C dX8_init_120 fl_X8_18 (by decide +kernel : kd (SHF.take 83) 0 = 8) rfl (by decide +kernel) ?_
  refine ww_iload_n C dX8_init_123 1 rfl rfl ?_
  refine ww_new C hZ dX8_init_124 nw_X8_16 (by decide) 83 (by decide +kernel) (by decide) (by decide +kernel) (by decide +kernel) (RXA.le E (by decide) (by decide)) rfl rfl (SHF.take 84) (by decide +kernel) (fun adr19 ha hZ => ?_)
  have hag := hag.tr ha (by decide)
  change WW X ((SHF.take 84), adr19, 83, 8135) 127 [.ref 0, .int (1 : Int32)] [.ref 83, .int (1 : Int32), .ref 3] (mk (zc h18 83) (lk (LR.drop 73)))
  refine ww_dup C dX8_init_127 rfl ?_
  refine ww_aload_n C dX8_init_128 0 rfl rfl ?_
  refine wk_getA (a := 11) C dX8_init_129 fl_X8_36 (by decide +kernel : kd (SHF.take 84) 0 = 8) rfl (by decide +kernel) ?_
  obtain ⟨h20, hc1, H⟩ := bd_of H
  refine ww_callI C hZ hN dX8_init_132 iw_X8_52 (caX6_83 hc1) (by decide) rfl rfl (Nat.le_of_ble_eq_true rfl) (RXA.le E (by decide) (by decide)) rfl rfl (fun adr20 τ hp ha hZ => ?_)
  subst hp
  have hag := hag.tr ha (by decide)
  change WW X ((SHF.take 92), adr20, 91, 8391) 135 [.ref 0, .int (1 : Int32)] [.ref 83, .int (1 : Int32), .ref 3] (mk h20 (lk (LR.drop 64)))
  refine wk_aastore C dX8_init_135 (by decide +kernel) (by decide +kernel) 3 (by decide) (by decide +kernel) 1 (by decide) ?_
  change WW X ((SHF.take 92), adr20, 91, 8391) 136 [.ref 0, .int (1 : Int32)] [] (mk h20 (lk (LR.drop 63)))
  refine ww_iinc (v := (2 : Int32)) C dX8_init_136 rfl (by decide) (by decide) rfl [.ref 0, .int (2 : Int32)] rfl ?_
  refine ww_goto C dX8_init_139 114 rfl ?_
  refine ww_iload_n C dX8_init_114 1 rfl rfl ?_
  refine ww_iconst (v := (3 : Int32)) C dX8_init_115 (by decide) ?_
  refine ww_icmp_ge C dX8_init_116 142 rfl (fun hc => absurd hc (by decide)) (fun _ => ?_)
  refine ww_aload_n C dX8_init_119 0 rfl rfl ?_
  refine wk_getR (a := 3) C dX8_init_120 fl_X8_18 (by decide +kernel : kd (SHF.take 92) 0 = 8) rfl (by decide +kernel) ?_
  refine ww_iload_n C dX8_init_123 1 rfl rfl ?_
  refine ww_new C hZ dX8_init_124 nw_X8_16 (by decide) 92 (by decide +kernel) (by decide) (by decide +kernel) (by decide +kernel) (RXA.le E (by decide) (by decide)) rfl rfl (SHF.take 93) (by decide +kernel) (fun adr21 ha hZ => ?_)
  have hag := hag.tr ha (by decide)
  change WW X ((SHF.take 93), adr21, 92, 8405) 127 [.ref 0, .int (2 : Int32)] [.ref 92, .int (2 : Int32), .ref 3] (mk (zc h20 92) (lk (LR.drop 63)))
  refine ww_dup C dX8_init_127 rfl ?_
  refine ww_aload_n C dX8_init_128 0 rfl rfl ?_
  refine wk_getA (a := 11) C dX8_init_129 fl_X8_36 (by decide +kernel : kd (SHF.take 93) 0 = 8) rfl (by decide +kernel) ?_
  obtain ⟨h22, hc1, H⟩ := bd_of H
  refine ww_callI C hZ hN dX8_init_132 iw_X8_52 (caX6_92 hc1) (by decide) rfl rfl (Nat.le_of_ble_eq_true rfl) (RXA.le E (by decide) (by decide)) rfl rfl (fun adr22 τ hp ha hZ => ?_)
  subst hp
  have hag := hag.tr ha (by decide)
  change WW X ((SHF.take 101), adr22, 100, 8661) 135 [.ref 0, .int (2 : Int32)] [.ref 92, .int (2 : Int32), .ref 3] (mk h22 (lk (LR.drop 54)))
  refine wk_aastore C dX8_init_135 (by decide +kernel) (by decide +kernel) 3 (by decide) (by decide +kernel) 2 (by decide) ?_
  change WW X ((SHF.take 101), adr22, 100, 8661) 136 [.ref 0, .int (2 : Int32)] [] (mk h22 (lk (LR.drop 53)))
  refine ww_iinc (v := (3 : Int32)) C dX8_init_136 rfl (by decide) (by decide) rfl [.ref 0, .int (3 : Int32)] rfl ?_
  refine ww_goto C dX8_init_139 114 rfl ?_
  refine ww_iload_n C dX8_init_114 1 rfl rfl ?_
  refine ww_iconst (v := (3 : Int32)) C dX8_init_115 (by decide) ?_
  refine ww_icmp_ge C dX8_init_116 142 rfl (fun _ => ?_) (fun hc => absurd (by decide) hc)
  cases H
  exact ww_vretA C E hag dX8_init_142 rfl
def gX9_101 (h : HI) : Option HI := some (zc (zc (zc (zc (zc (zc (zc (zc (zc (zc (zc (zc (zc (zc (zc (zc (zc (zc (zc (zc (zc (zc (zc (zc (zc (zc (zc (zc (zc (zc (zc (zc (zc (zc (zc (zc (zc (zc (zc (zc (zc (zc (zc (zc (zc (zc (zc (zc (zc (zc (zc (zc (uI (zc h 102) 101 3 (-1 : Int32)) 103) 104) 105) 106) 107) 108) 109) 110) 111) 112) 113) 114) 115) 116) 117) 118) 119) 120) 121) 122) 123) 124) 125) 126) 127) 128) 129) 130) 131) 132) 133) 134) 135) 136) 137) 138) 139) 140) 141) 142) 143) 144) 145) 146) 147) 148) 149) 150) 151) 152) 153) 154)
set_option maxRecDepth 100000 in
set_option maxHeartbeats 4000000 in
theorem caX9_101 {l : Launch} {h p : HI} (H : gX9_101 h = some p) : CA l yX9_init cX9_init 1 1 [.ref 101] (SHF.take 102) (mk h (lk (LR.drop 53))) 53 544925 (SHF.take 155) (fun τ => τ = mk p (lk (LR.drop 0))) := by
  refine CA.of (by decide) rfl (Nat.le_of_ble_eq_true rfl) 0 [.ref 101] rfl (fun X adr _ C E hZ hN => ?_)
  rw [gX9_101] at H
  have hag : AG adr adr (SHF.take 102).length := AG.rf
  refine ww_aload_n C dX9_init_0 0 rfl rfl ?_
  refine ww_objInit C dX9_init_1 ow_X9 (by decide) (Nat.le_of_ble_eq_true rfl) ?_
  refine ww_aload_n C dX9_init_4 0 rfl rfl ?_
  refine ww_sipush (v := (1700 : Int32)) C dX9_init_5 (by decide) ?_
  refine ww_newaI C hZ dX9_init_8 aw_I 1700 (by decide) (by decide) (by decide) 102 (by decide +kernel) (by decide) (by decide +kernel) (RXA.le E (by decide) (by decide)) rfl rfl (SHF.take 103) (by decide +kernel) (fun adr1 ha hZ => ?_)
  have hag := hag.tr ha (by decide)
  change WW X ((SHF.take 103), adr1, 1, 1700) 10 [.ref 101] [.ref 102, .ref 101] (mk (zc h 102) (lk (LR.drop 53)))
  refine wk_putFR C E dX9_init_10 fl_X9_7 (by decide +kernel : kd (SHF.take 103) 101 = 9) rfl rfl rfl ?_
  change WW X ((SHF.take 103), adr1, 1, 1700) 13 [.ref 101] [] (mk (zc h 102) (lk (LR.drop 52)))
  refine ww_aload_n C dX9_init_13 0 rfl rfl ?_
  refine ww_iconst (v := (-1 : Int32)) C dX9_init_14 (by decide) ?_
  refine wk_putI C dX9_init_15 fl_X9_13 (by decide +kernel : kd (SHF.take 103) 101 = 9) rfl rfl ?_
  refine ww_aload_n C dX9_init_18 0 rfl rfl ?_
  refine ww_sipush (v := (640 : Int32)) C dX9_init_19 (by decide) ?_
  refine ww_newaI C hZ dX9_init_22 aw_I 640 (by decide) (by decide) (by decide) 103 (by decide +kernel) (by decide) (by decide +kernel) (RXA.le E (by decide) (by decide)) rfl rfl (SHF.take 104) (by decide +kernel) (fun adr2 ha hZ => ?_)
  have hag := hag.tr ha (by decide)
  change WW X ((SHF.take 104), adr2, 2, 2340) 24 [.ref 101] [.ref 103, .ref 101] (mk (zc (uI (zc h 102) 101 3 (-1 : Int32)) 103) (lk (LR.drop 52)))
  refine wk_putFR C E dX9_init_24 fl_X9_17 (by decide +kernel : kd (SHF.take 104) 101 = 9) rfl rfl rfl ?_
  change WW X ((SHF.take 104), adr2, 2, 2340) 27 [.ref 101] [] (mk (zc (uI (zc h 102) 101 3 (-1 : Int32)) 103) (lk (LR.drop 51)))
  refine ww_aload_n C dX9_init_27 0 rfl rfl ?_
  refine ww_sipush (v := (640 : Int32)) C dX9_init_28 (by decide) ?_
  refine ww_newaI C hZ dX9_init_31 aw_I 640 (by decide) (by decide) (by decide) 104 (by decide +kernel) (by decide) (by decide +kernel) (RXA.le E (by decide) (by decide)) rfl rfl (SHF.take 105) (by decide +kernel) (fun adr3 ha hZ => ?_)
  have hag := hag.tr ha (by decide)
  change WW X ((SHF.take 105), adr3, 3, 2980) 33 [.ref 101] [.ref 104, .ref 101] (mk (zc (zc (uI (zc h 102) 101 3 (-1 : Int32)) 103) 104) (lk (LR.drop 51)))
  refine wk_putFR C E dX9_init_33 fl_X9_20 (by decide +kernel : kd (SHF.take 105) 101 = 9) rfl rfl rfl ?_
  change WW X ((SHF.take 105), adr3, 3, 2980) 36 [.ref 101] [] (mk (zc (zc (uI (zc h 102) 101 3 (-1 : Int32)) 103) 104) (lk (LR.drop 50)))
  refine ww_aload_n C dX9_init_36 0 rfl rfl ?_
  refine ww_sipush (v := (640 : Int32)) C dX9_init_37 (by decide) ?_
  refine ww_newaI C hZ dX9_init_40 aw_I 640 (by decide) (by decide) (by decide) 105 (by decide +kernel) (by decide) (by decide +kernel) (RXA.le E (by decide) (by decide)) rfl rfl (SHF.take 106) (by decide +kernel) (fun adr4 ha hZ => ?_)
  have hag := hag.tr ha (by decide)
  change WW X ((SHF.take 106), adr4, 4, 3620) 42 [.ref 101] [.ref 105, .ref 101] (mk (zc (zc (zc (uI (zc h 102) 101 3 (-1 : Int32)) 103) 104) 105) (lk (LR.drop 50)))
  refine wk_putFR C E dX9_init_42 fl_X9_23 (by decide +kernel : kd (SHF.take 106) 101 = 9) rfl rfl rfl ?_
  change WW X ((SHF.take 106), adr4, 4, 3620) 45 [.ref 101] [] (mk (zc (zc (zc (uI (zc h 102) 101 3 (-1 : Int32)) 103) 104) 105) (lk (LR.drop 49)))
  refine ww_aload_n C dX9_init_45 0 rfl rfl ?_
  refine ww_sipush (v := (640 : Int32)) C dX9_init_46 (by decide) ?_
  refine ww_newaI C hZ dX9_init_49 aw_I 640 (by decide) (by decide) (by decide) 106 (by decide +kernel) (by decide) (by decide +kernel) (RXA.le E (by decide) (by decide)) rfl rfl (SHF.take 107) (by decide +kernel) (fun adr5 ha hZ => ?_)
  have hag := hag.tr ha (by decide)
  change WW X ((SHF.take 107), adr5, 5, 4260) 51 [.ref 101] [.ref 106, .ref 101] (mk (zc (zc (zc (zc (uI (zc h 102) 101 3 (-1 : Int32)) 103) 104) 105) 106) (lk (LR.drop 49)))
  refine wk_putFR C E dX9_init_51 fl_X9_26 (by decide +kernel : kd (SHF.take 107) 101 = 9) rfl rfl rfl ?_
  change WW X ((SHF.take 107), adr5, 5, 4260) 54 [.ref 101] [] (mk (zc (zc (zc (zc (uI (zc h 102) 101 3 (-1 : Int32)) 103) 104) 105) 106) (lk (LR.drop 48)))
  refine ww_aload_n C dX9_init_54 0 rfl rfl ?_
  refine ww_sipush (v := (300 : Int32)) C dX9_init_55 (by decide) ?_
  refine ww_newaI C hZ dX9_init_58 aw_I 300 (by decide) (by decide) (by decide) 107 (by decide +kernel) (by decide) (by decide +kernel) (RXA.le E (by decide) (by decide)) rfl rfl (SHF.take 108) (by decide +kernel) (fun adr6 ha hZ => ?_)
  have hag := hag.tr ha (by decide)
  change WW X ((SHF.take 108), adr6, 6, 4560) 60 [.ref 101] [.ref 107, .ref 101] (mk (zc (zc (zc (zc (zc (uI (zc h 102) 101 3 (-1 : Int32)) 103) 104) 105) 106) 107) (lk (LR.drop 48)))
  refine wk_putFR C E dX9_init_60 fl_X9_29 (by decide +kernel : kd (SHF.take 108) 101 = 9) rfl rfl rfl ?_
  change WW X ((SHF.take 108), adr6, 6, 4560) 63 [.ref 101] [] (mk (zc (zc (zc (zc (zc (uI (zc h 102) 101 3 (-1 : Int32)) 103) 104) 105) 106) 107) (lk (LR.drop 47)))
  refine ww_aload_n C dX9_init_63 0 rfl rfl ?_
  refine ww_bipush (v := (50 : Int32)) C dX9_init_64 (by decide) ?_
  refine ww_newaI C hZ dX9_init_66 aw_I 50 (by decide) (by decide) (by decide) 108 (by decide +kernel) (by decide) (by decide +kernel) (RXA.le E (by decide) (by decide)) rfl rfl (SHF.take 109) (by decide +kernel) (fun adr7 ha hZ => ?_)
  have hag := hag.tr ha (by decide)
  change WW X ((SHF.take 109), adr7, 7, 4610) 68 [.ref 101] [.ref 108, .ref 101] (mk (zc (zc (zc (zc (zc (zc (uI (zc h 102) 101 3 (-1 : Int32)) 103) 104) 105) 106) 107) 108) (lk (LR.drop 47)))
  refine wk_putFR C E dX9_init_68 fl_X9_32 (by decide +kernel : kd (SHF.take 109) 101 = 9) rfl rfl rfl ?_
  change WW X ((SHF.take 109), adr7, 7, 4610) 71 [.ref 101] [] (mk (zc (zc (zc (zc (zc (zc (uI (zc h 102) 101 3 (-1 : Int32)) 103) 104) 105) 106) 107) 108) (lk (LR.drop 46)))
  refine ww_aload_n C dX9_init_71 0 rfl rfl ?_
  refine ww_bipush (v := (6 : Int32)) C dX9_init_72 (by decide) ?_
  refine ww_newaI C hZ dX9_init_74 aw_I 6 (by decide) (by decide) (by decide) 109 (by decide +kernel) (by decide) (by decide +kernel) (RXA.le E (by decide) (by decide)) rfl rfl (SHF.take 110) (by decide +kernel) (fun adr8 ha hZ => ?_)
  have hag := hag.tr ha (by decide)
  change WW X ((SHF.take 110), adr8, 8, 4616) 76 [.ref 101] [.ref 109, .ref 101] (mk (zc (zc (zc (zc (zc (zc (zc (uI (zc h 102) 101 3 (-1 : Int32)) 103) 104) 105) 106) 107) 108) 109) (lk (LR.drop 46)))
  refine wk_putFR C E dX9_init_76 fl_X9_35 (by decide +kernel : kd (SHF.take 110) 101 = 9) rfl rfl rfl ?_
  change WW X ((SHF.take 110), adr8, 8, 4616) 79 [.ref 101] [] (mk (zc (zc (zc (zc (zc (zc (zc (uI (zc h 102) 101 3 (-1 : Int32)) 103) 104) 105) 106) 107) 108) 109) (lk (LR.drop 45)))
  refine ww_aload_n C dX9_init_79 0 rfl rfl ?_
  refine ww_bipush (v := (30 : Int32)) C dX9_init_80 (by decide) ?_
  refine ww_newaJ C hZ dX9_init_82 aw_J 30 (by decide) (by decide) (by decide) 110 (by decide +kernel) (by decide) (by decide +kernel) (RXA.le E (by decide) (by decide)) rfl rfl (SHF.take 111) (by decide +kernel) (fun adr9 ha hZ => ?_)
  have hag := hag.tr ha (by decide)
  change WW X ((SHF.take 111), adr9, 9, 4646) 84 [.ref 101] [.ref 110, .ref 101] (mk (zc (zc (zc (zc (zc (zc (zc (zc (uI (zc h 102) 101 3 (-1 : Int32)) 103) 104) 105) 106) 107) 108) 109) 110) (lk (LR.drop 45)))
  refine wk_putFR C E dX9_init_84 fl_X9_38 (by decide +kernel : kd (SHF.take 111) 101 = 9) rfl rfl rfl ?_
  change WW X ((SHF.take 111), adr9, 9, 4646) 87 [.ref 101] [] (mk (zc (zc (zc (zc (zc (zc (zc (zc (uI (zc h 102) 101 3 (-1 : Int32)) 103) 104) 105) 106) 107) 108) 109) 110) (lk (LR.drop 44)))
  refine ww_aload_n C dX9_init_87 0 rfl rfl ?_
  refine ww_iconst (v := (3 : Int32)) C dX9_init_88 (by decide) ?_
  refine ww_newaI C hZ dX9_init_89 aw_I 3 (by decide) (by decide) (by decide) 111 (by decide +kernel) (by decide) (by decide +kernel) (RXA.le E (by decide) (by decide)) rfl rfl (SHF.take 112) (by decide +kernel) (fun adr10 ha hZ => ?_)
  have hag := hag.tr ha (by decide)
  change WW X ((SHF.take 112), adr10, 10, 4649) 91 [.ref 101] [.ref 111, .ref 101] (mk (zc (zc (zc (zc (zc (zc (zc (zc (zc (uI (zc h 102) 101 3 (-1 : Int32)) 103) 104) 105) 106) 107) 108) 109) 110) 111) (lk (LR.drop 44)))
  refine wk_putFR C E dX9_init_91 fl_X9_42 (by decide +kernel : kd (SHF.take 112) 101 = 9) rfl rfl rfl ?_
  change WW X ((SHF.take 112), adr10, 10, 4649) 94 [.ref 101] [] (mk (zc (zc (zc (zc (zc (zc (zc (zc (zc (uI (zc h 102) 101 3 (-1 : Int32)) 103) 104) 105) 106) 107) 108) 109) 110) 111) (lk (LR.drop 43)))
  refine ww_aload_n C dX9_init_94 0 rfl rfl ?_
  refine ww_iconst (v := (3 : Int32)) C dX9_init_95 (by decide) ?_
  refine ww_newaI C hZ dX9_init_96 aw_I 3 (by decide) (by decide) (by decide) 112 (by decide +kernel) (by decide) (by decide +kernel) (RXA.le E (by decide) (by decide)) rfl rfl (SHF.take 113) (by decide +kernel) (fun adr11 ha hZ => ?_)
  have hag := hag.tr ha (by decide)
  change WW X ((SHF.take 113), adr11, 11, 4652) 98 [.ref 101] [.ref 112, .ref 101] (mk (zc (zc (zc (zc (zc (zc (zc (zc (zc (zc (uI (zc h 102) 101 3 (-1 : Int32)) 103) 104) 105) 106) 107) 108) 109) 110) 111) 112) (lk (LR.drop 43)))
  refine wk_putFR C E dX9_init_98 fl_X9_45 (by decide +kernel : kd (SHF.take 113) 101 = 9) rfl rfl rfl ?_
  change WW X ((SHF.take 113), adr11, 11, 4652) 101 [.ref 101] [] (mk (zc (zc (zc (zc (zc (zc (zc (zc (zc (zc (uI (zc h 102) 101 3 (-1 : Int32)) 103) 104) 105) 106) 107) 108) 109) 110) 111) 112) (lk (LR.drop 42)))
  refine ww_aload_n C dX9_init_101 0 rfl rfl ?_
  refine ww_bipush (v := (6 : Int32)) C dX9_init_102 (by decide) ?_
  refine ww_newaI C hZ dX9_init_104 aw_I 6 (by decide) (by decide) (by decide) 113 (by decide +kernel) (by decide) (by decide +kernel) (RXA.le E (by decide) (by decide)) rfl rfl (SHF.take 114) (by decide +kernel) (fun adr12 ha hZ => ?_)
  have hag := hag.tr ha (by decide)
  change WW X ((SHF.take 114), adr12, 12, 4658) 106 [.ref 101] [.ref 113, .ref 101] (mk (zc (zc (zc (zc (zc (zc (zc (zc (zc (zc (zc (uI (zc h 102) 101 3 (-1 : Int32)) 103) 104) 105) 106) 107) 108) 109) 110) 111) 112) 113) (lk (LR.drop 42)))
  refine wk_putFR C E dX9_init_106 fl_X9_48 (by decide +kernel : kd (SHF.take 114) 101 = 9) rfl rfl rfl ?_
  change WW X ((SHF.take 114), adr12, 12, 4658) 109 [.ref 101] [] (mk (zc (zc (zc (zc (zc (zc (zc (zc (zc (zc (zc (uI (zc h 102) 101 3 (-1 : Int32)) 103) 104) 105) 106) 107) 108) 109) 110) 111) 112) 113) (lk (LR.drop 41)))
  refine ww_aload_n C dX9_init_109 0 rfl rfl ?_
  refine ww_bipush (v := (6 : Int32)) C dX9_init_110 (by decide) ?_
  refine ww_newaI C hZ dX9_init_112 aw_I 6 (by decide) (by decide) (by decide) 114 (by decide +kernel) (by decide) (by decide +kernel) (RXA.le E (by decide) (by decide)) rfl rfl (SHF.take 115) (by decide +kernel) (fun adr13 ha hZ => ?_)
  have hag := hag.tr ha (by decide)
  change WW X ((SHF.take 115), adr13, 13, 4664) 114 [.ref 101] [.ref 114, .ref 101] (mk (zc (zc (zc (zc (zc (zc (zc (zc (zc (zc (zc (zc (uI (zc h 102) 101 3 (-1 : Int32)) 103) 104) 105) 106) 107) 108) 109) 110) 111) 112) 113) 114) (lk (LR.drop 41)))
  refine wk_putFR C E dX9_init_114 fl_X9_51 (by decide +kernel : kd (SHF.take 115) 101 = 9) rfl rfl rfl ?_
  change WW X ((SHF.take 115), adr13, 13, 4664) 117 [.ref 101] [] (mk (zc (zc (zc (zc (zc (zc (zc (zc (zc (zc (zc (zc (uI (zc h 102) 101 3 (-1 : Int32)) 103) 104) 105) 106) 107) 108) 109) 110) 111) 112) 113) 114) (lk (LR.drop 40)))
  refine ww_aload_n C dX9_init_117 0 rfl rfl ?_
  refine ww_iconst (v := (4 : Int32)) C dX9_init_118 (by decide) ?_
  refine ww_newaI C hZ dX9_init_119 aw_I 4 (by decide) (by decide) (by decide) 115 (by decide +kernel) (by decide) (by decide +kernel) (RXA.le E (by decide) (by decide)) rfl rfl (SHF.take 116) (by decide +kernel) (fun adr14 ha hZ => ?_)
  have hag := hag.tr ha (by decide)
  change WW X ((SHF.take 116), adr14, 14, 4668) 121 [.ref 101] [.ref 115, .ref 101] (mk (zc (zc (zc (zc (zc (zc (zc (zc (zc (zc (zc (zc (zc (uI (zc h 102) 101 3 (-1 : Int32)) 103) 104) 105) 106) 107) 108) 109) 110) 111) 112) 113) 114) 115) (lk (LR.drop 40)))
  refine wk_putFR C E dX9_init_121 fl_X9_54 (by decide +kernel : kd (SHF.take 116) 101 = 9) rfl rfl rfl ?_
  change WW X ((SHF.take 116), adr14, 14, 4668) 124 [.ref 101] [] (mk (zc (zc (zc (zc (zc (zc (zc (zc (zc (zc (zc (zc (zc (uI (zc h 102) 101 3 (-1 : Int32)) 103) 104) 105) 106) 107) 108) 109) 110) 111) 112) 113) 114) 115) (lk (LR.drop 39)))
  refine ww_aload_n C dX9_init_124 0 rfl rfl ?_
  refine ww_bipush (v := (24 : Int32)) C dX9_init_125 (by decide) ?_
  refine ww_newaI C hZ dX9_init_127 aw_I 24 (by decide) (by decide) (by decide) 116 (by decide +kernel) (by decide) (by decide +kernel) (RXA.le E (by decide) (by decide)) rfl rfl (SHF.take 117) (by decide +kernel) (fun adr15 ha hZ => ?_)
  have hag := hag.tr ha (by decide)
  change WW X ((SHF.take 117), adr15, 15, 4692) 129 [.ref 101] [.ref 116, .ref 101] (mk (zc (zc (zc (zc (zc (zc (zc (zc (zc (zc (zc (zc (zc (zc (uI (zc h 102) 101 3 (-1 : Int32)) 103) 104) 105) 106) 107) 108) 109) 110) 111) 112) 113) 114) 115) 116) (lk (LR.drop 39)))
  refine wk_putFR C E dX9_init_129 fl_X9_57 (by decide +kernel : kd (SHF.take 117) 101 = 9) rfl rfl rfl ?_
  change WW X ((SHF.take 117), adr15, 15, 4692) 132 [.ref 101] [] (mk (zc (zc (zc (zc (zc (zc (zc (zc (zc (zc (zc (zc (zc (zc (uI (zc h 102) 101 3 (-1 : Int32)) 103) 104) 105) 106) 107) 108) 109) 110) 111) 112) 113) 114) 115) 116) (lk (LR.drop 38)))
  refine ww_aload_n C dX9_init_132 0 rfl rfl ?_
  refine ww_bipush (v := (16 : Int32)) C dX9_init_133 (by decide) ?_
  refine ww_newaI C hZ dX9_init_135 aw_I 16 (by decide) (by decide) (by decide) 117 (by decide +kernel) (by decide) (by decide +kernel) (RXA.le E (by decide) (by decide)) rfl rfl (SHF.take 118) (by decide +kernel) (fun adr16 ha hZ => ?_)
  have hag := hag.tr ha (by decide)
  change WW X ((SHF.take 118), adr16, 16, 4708) 137 [.ref 101] [.ref 117, .ref 101] (mk (zc (zc (zc (zc (zc (zc (zc (zc (zc (zc (zc (zc (zc (zc (zc (uI (zc h 102) 101 3 (-1 : Int32)) 103) 104) 105) 106) 107) 108) 109) 110) 111) 112) 113) 114) 115) 116) 117) (lk (LR.drop 38)))
  refine wk_putFR C E dX9_init_137 fl_X9_60 (by decide +kernel : kd (SHF.take 118) 101 = 9) rfl rfl rfl ?_
  change WW X ((SHF.take 118), adr16, 16, 4708) 140 [.ref 101] [] (mk (zc (zc (zc (zc (zc (zc (zc (zc (zc (zc (zc (zc (zc (zc (zc (uI (zc h 102) 101 3 (-1 : Int32)) 103) 104) 105) 106) 107) 108) 109) 110) 111) 112) 113) 114) 115) 116) 117) (lk (LR.drop 37)))
  refine ww_aload_n C dX9_init_140 0 rfl rfl ?_
  refine ww_bipush (v := (6 : Int32)) C dX9_init_141 (by decide) ?_
  refine ww_newaI C hZ dX9_init_143 aw_I 6 (by decide) (by decide) (by decide) 118 (by decide +kernel) (by decide) (by decide +kernel) (RXA.le E (by decide) (by decide)) rfl rfl (SHF.take 119) (by decide +kernel) (fun adr17 ha hZ => ?_)
  have hag := hag.tr ha (by decide)
  change WW X ((SHF.take 119), adr17, 17, 4714) 145 [.ref 101] [.ref 118, .ref 101] (mk (zc (zc (zc (zc (zc (zc (zc (zc (zc (zc (zc (zc (zc (zc (zc (zc (uI (zc h 102) 101 3 (-1 : Int32)) 103) 104) 105) 106) 107) 108) 109) 110) 111) 112) 113) 114) 115) 116) 117) 118) (lk (LR.drop 37)))
  refine wk_putFR C E dX9_init_145 fl_X9_63 (by decide +kernel : kd (SHF.take 119) 101 = 9) rfl rfl rfl ?_
  change WW X ((SHF.take 119), adr17, 17, 4714) 148 [.ref 101] [] (mk (zc (zc (zc (zc (zc (zc (zc (zc (zc (zc (zc (zc (zc (zc (zc (zc (uI (zc h 102) 101 3 (-1 : Int32)) 103) 104) 105) 106) 107) 108) 109) 110) 111) 112) 113) 114) 115) 116) 117) 118) (lk (LR.drop 36)))
  refine ww_aload_n C dX9_init_148 0 rfl rfl ?_
  refine ww_bipush (v := (6 : Int32)) C dX9_init_149 (by decide) ?_
  refine ww_newaI C hZ dX9_init_151 aw_I 6 (by decide) (by decide) (by decide) 119 (by decide +kernel) (by decide) (by decide +kernel) (RXA.le E (by decide) (by decide)) rfl rfl (SHF.take 120) (by decide +kernel) (fun adr18 ha hZ => ?_)
  have hag := hag.tr ha (by decide)
  change WW X ((SHF.take 120), adr18, 18, 4720) 153 [.ref 101] [.ref 119, .ref 101] (mk (zc (zc (zc (zc (zc (zc (zc (zc (zc (zc (zc (zc (zc (zc (zc (zc (zc (uI (zc h 102) 101 3 (-1 : Int32)) 103) 104) 105) 106) 107) 108) 109) 110) 111) 112) 113) 114) 115) 116) 117) 118) 119) (lk (LR.drop 36)))
  refine wk_putFR C E dX9_init_153 fl_X9_66 (by decide +kernel : kd (SHF.take 120) 101 = 9) rfl rfl rfl ?_
  change WW X ((SHF.take 120), adr18, 18, 4720) 156 [.ref 101] [] (mk (zc (zc (zc (zc (zc (zc (zc (zc (zc (zc (zc (zc (zc (zc (zc (zc (zc (uI (zc h 102) 101 3 (-1 : Int32)) 103) 104) 105) 106) 107) 108) 109) 110) 111) 112) 113) 114) 115) 116) 117) 118) 119) (lk (LR.drop 35)))
  refine ww_aload_n C dX9_init_156 0 rfl rfl ?_
  refine ww_iconst (v := (4 : Int32)) C dX9_init_157 (by decide) ?_
  refine ww_newaI C hZ dX9_init_158 aw_I 4 (by decide) (by decide) (by decide) 120 (by decide +kernel) (by decide) (by decide +kernel) (RXA.le E (by decide) (by decide)) rfl rfl (SHF.take 121) (by decide +kernel) (fun adr19 ha hZ => ?_)
  have hag := hag.tr ha (by decide)
  change WW X ((SHF.take 121), adr19, 19, 4724) 160 [.ref 101] [.ref 120, .ref 101] (mk (zc (zc (zc (zc (zc (zc (zc (zc (zc (zc (zc (zc (zc (zc (zc (zc (zc (zc (uI (zc h 102) 101 3 (-1 : Int32)) 103) 104) 105) 106) 107) 108) 109) 110) 111) 112) 113) 114) 115) 116) 117) 118) 119) 120) (lk (LR.drop 35)))
  refine wk_putFR C E dX9_init_160 fl_X9_69 (by decide +kernel : kd (SHF.take 121) 101 = 9) rfl rfl rfl ?_
  change WW X ((SHF.take 121), adr19, 19, 4724) 163 [.ref 101] [] (mk (zc (zc (zc (zc (zc (zc (zc (zc (zc (zc (zc (zc (zc (zc (zc (zc (zc (zc (uI (zc h 102) 101 3 (-1 : Int32)) 103) 104) 105) 106) 107) 108) 109) 110) 111) 112) 113) 114) 115) 116) 117) 118) 119) 120) (lk (LR.drop 34)))
  refine ww_aload_n C dX9_init_163 0 rfl rfl ?_
  refine ww_bipush (v := (24 : Int32)) C dX9_init_164 (by decide) ?_
  refine ww_newaI C hZ dX9_init_166 aw_I 24 (by decide) (by decide) (by decide) 121 (by decide +kernel) (by decide) (by decide +kernel) (RXA.le E (by decide) (by decide)) rfl rfl (SHF.take 122) (by decide +kernel) (fun adr20 ha hZ => ?_)
  have hag := hag.tr ha (by decide)
  change WW X ((SHF.take 122), adr20, 20, 4748) 168 [.ref 101] [.ref 121, .ref 101] (mk (zc (zc (zc (zc (zc (zc (zc (zc (zc (zc (zc (zc (zc (zc (zc (zc (zc (zc (zc (uI (zc h 102) 101 3 (-1 : Int32)) 103) 104) 105) 106) 107) 108) 109) 110) 111) 112) 113) 114) 115) 116) 117) 118) 119) 120) 121) (lk (LR.drop 34)))
  refine wk_putFR C E dX9_init_168 fl_X9_72 (by decide +kernel : kd (SHF.take 122) 101 = 9) rfl rfl rfl ?_
  change WW X ((SHF.take 122), adr20, 20, 4748) 171 [.ref 101] [] (mk (zc (zc (zc (zc (zc (zc (zc (zc (zc (zc (zc (zc (zc (zc (zc (zc (zc (zc (zc (uI (zc h 102) 101 3 (-1 : Int32)) 103) 104) 105) 106) 107) 108) 109) 110) 111) 112) 113) 114) 115) 116) 117) 118) 119) 120) 121) (lk (LR.drop 33)))
  refine ww_aload_n C dX9_init_171 0 rfl rfl ?_
  refine ww_bipush (v := (16 : Int32)) C dX9_init_172 (by decide) ?_
  refine ww_newaI C hZ dX9_init_174 aw_I 16 (by decide) (by decide) (by decide) 122 (by decide +kernel) (by decide) (by decide +kernel) (RXA.le E (by decide) (by decide)) rfl rfl (SHF.take 123) (by decide +kernel) (fun adr21 ha hZ => ?_)
  have hag := hag.tr ha (by decide)
  change WW X ((SHF.take 123), adr21, 21, 4764) 176 [.ref 101] [.ref 122, .ref 101] (mk (zc (zc (zc (zc (zc (zc (zc (zc (zc (zc (zc (zc (zc (zc (zc (zc (zc (zc (zc (zc (uI (zc h 102) 101 3 (-1 : Int32)) 103) 104) 105) 106) 107) 108) 109) 110) 111) 112) 113) 114) 115) 116) 117) 118) 119) 120) 121) 122) (lk (LR.drop 33)))
  refine wk_putFR C E dX9_init_176 fl_X9_75 (by decide +kernel : kd (SHF.take 123) 101 = 9) rfl rfl rfl ?_
  change WW X ((SHF.take 123), adr21, 21, 4764) 179 [.ref 101] [] (mk (zc (zc (zc (zc (zc (zc (zc (zc (zc (zc (zc (zc (zc (zc (zc (zc (zc (zc (zc (zc (uI (zc h 102) 101 3 (-1 : Int32)) 103) 104) 105) 106) 107) 108) 109) 110) 111) 112) 113) 114) 115) 116) 117) 118) 119) 120) 121) 122) (lk (LR.drop 32)))
  refine ww_aload_n C dX9_init_179 0 rfl rfl ?_
  refine ww_bipush (v := (6 : Int32)) C dX9_init_180 (by decide) ?_
  refine ww_newaZ C hZ dX9_init_182 aw_Z 6 (by decide) (by decide) (by decide) 123 (by decide +kernel) (by decide) (by decide +kernel) (RXA.le E (by decide) (by decide)) rfl rfl (SHF.take 124) (by decide +kernel) (fun adr22 ha hZ => ?_)
  have hag := hag.tr ha (by decide)
  change WW X ((SHF.take 124), adr22, 22, 4770) 184 [.ref 101] [.ref 123, .ref 101] (mk (zc (zc (zc (zc (zc (zc (zc (zc (zc (zc (zc (zc (zc (zc (zc (zc (zc (zc (zc (zc (zc (uI (zc h 102) 101 3 (-1 : Int32)) 103) 104) 105) 106) 107) 108) 109) 110) 111) 112) 113) 114) 115) 116) 117) 118) 119) 120) 121) 122) 123) (lk (LR.drop 32)))
  refine wk_putFR C E dX9_init_184 fl_X9_78 (by decide +kernel : kd (SHF.take 124) 101 = 9) rfl rfl rfl ?_
  change WW X ((SHF.take 124), adr22, 22, 4770) 187 [.ref 101] [] (mk (zc (zc (zc (zc (zc (zc (zc (zc (zc (zc (zc (zc (zc (zc (zc (zc (zc (zc (zc (zc (zc (uI (zc h 102) 101 3 (-1 : Int32)) 103) 104) 105) 106) 107) 108) 109) 110) 111) 112) 113) 114) 115) 116) 117) 118) 119) 120) 121) 122) 123) (lk (LR.drop 31)))
  refine ww_aload_n C dX9_init_187 0 rfl rfl ?_
  refine ww_bipush (v := (6 : Int32)) C dX9_init_188 (by decide) ?_
  refine ww_newaZ C hZ dX9_init_190 aw_Z 6 (by decide) (by decide) (by decide) 124 (by decide +kernel) (by decide) (by decide +kernel) (RXA.le E (by decide) (by decide)) rfl rfl (SHF.take 125) (by decide +kernel) (fun adr23 ha hZ => ?_)
  have hag := hag.tr ha (by decide)
  change WW X ((SHF.take 125), adr23, 23, 4776) 192 [.ref 101] [.ref 124, .ref 101] (mk (zc (zc (zc (zc (zc (zc (zc (zc (zc (zc (zc (zc (zc (zc (zc (zc (zc (zc (zc (zc (zc (zc (uI (zc h 102) 101 3 (-1 : Int32)) 103) 104) 105) 106) 107) 108) 109) 110) 111) 112) 113) 114) 115) 116) 117) 118) 119) 120) 121) 122) 123) 124) (lk (LR.drop 31)))
  refine wk_putFR C E dX9_init_192 fl_X9_82 (by decide +kernel : kd (SHF.take 125) 101 = 9) rfl rfl rfl ?_
  change WW X ((SHF.take 125), adr23, 23, 4776) 195 [.ref 101] [] (mk (zc (zc (zc (zc (zc (zc (zc (zc (zc (zc (zc (zc (zc (zc (zc (zc (zc (zc (zc (zc (zc (zc (uI (zc h 102) 101 3 (-1 : Int32)) 103) 104) 105) 106) 107) 108) 109) 110) 111) 112) 113) 114) 115) 116) 117) 118) 119) 120) 121) 122) 123) 124) (lk (LR.drop 30)))
  refine ww_aload_n C dX9_init_195 0 rfl rfl ?_
  refine ww_bipush (v := (24 : Int32)) C dX9_init_196 (by decide) ?_
  refine ww_newaZ C hZ dX9_init_198 aw_Z 24 (by decide) (by decide) (by decide) 125 (by decide +kernel) (by decide) (by decide +kernel) (RXA.le E (by decide) (by decide)) rfl rfl (SHF.take 126) (by decide +kernel) (fun adr24 ha hZ => ?_)
  have hag := hag.tr ha (by decide)
  change WW X ((SHF.take 126), adr24, 24, 4800) 200 [.ref 101] [.ref 125, .ref 101] (mk (zc (zc (zc (zc (zc (zc (zc (zc (zc (zc (zc (zc (zc (zc (zc (zc (zc (zc (zc (zc (zc (zc (zc (uI (zc h 102) 101 3 (-1 : Int32)) 103) 104) 105) 106) 107) 108) 109) 110) 111) 112) 113) 114) 115) 116) 117) 118) 119) 120) 121) 122) 123) 124) 125) (lk (LR.drop 30)))
  refine wk_putFR C E dX9_init_200 fl_X9_85 (by decide +kernel : kd (SHF.take 126) 101 = 9) rfl rfl rfl ?_
  change WW X ((SHF.take 126), adr24, 24, 4800) 203 [.ref 101] [] (mk (zc (zc (zc (zc (zc (zc (zc (zc (zc (zc (zc (zc (zc (zc (zc (zc (zc (zc (zc (zc (zc (zc (zc (uI (zc h 102) 101 3 (-1 : Int32)) 103) 104) 105) 106) 107) 108) 109) 110) 111) 112) 113) 114) 115) 116) 117) 118) 119) 120) 121) 122) 123) 124) 125) (lk (LR.drop 29)))
  refine ww_aload_n C dX9_init_203 0 rfl rfl ?_
  refine ww_bipush (v := (6 : Int32)) C dX9_init_204 (by decide) ?_
  refine ww_newaZ C hZ dX9_init_206 aw_Z 6 (by decide) (by decide) (by decide) 126 (by decide +kernel) (by decide) (by decide +kernel) (RXA.le E (by decide) (by decide)) rfl rfl (SHF.take 127) (by decide +kernel) (fun adr25 ha hZ => ?_)
  have hag := hag.tr ha (by decide)
  change WW X ((SHF.take 127), adr25, 25, 4806) 208 [.ref 101] [.ref 126, .ref 101] (mk (zc (zc (zc (zc (zc (zc (zc (zc (zc (zc (zc (zc (zc (zc (zc (zc (zc (zc (zc (zc (zc (zc (zc (zc (uI (zc h 102) 101 3 (-1 : Int32)) 103) 104) 105) 106) 107) 108) 109) 110) 111) 112) 113) 114) 115) 116) 117) 118) 119) 120) 121) 122) 123) 124) 125) 126) (lk (LR.drop 29)))
  refine wk_putFR C E dX9_init_208 fl_X9_88 (by decide +kernel : kd (SHF.take 127) 101 = 9) rfl rfl rfl ?_
  change WW X ((SHF.take 127), adr25, 25, 4806) 211 [.ref 101] [] (mk (zc (zc (zc (zc (zc (zc (zc (zc (zc (zc (zc (zc (zc (zc (zc (zc (zc (zc (zc (zc (zc (zc (zc (zc (uI (zc h 102) 101 3 (-1 : Int32)) 103) 104) 105) 106) 107) 108) 109) 110) 111) 112) 113) 114) 115) 116) 117) 118) 119) 120) 121) 122) 123) 124) 125) 126) (lk (LR.drop 28)))
  refine ww_aload_n C dX9_init_211 0 rfl rfl ?_
  refine ww_bipush (v := (6 : Int32)) C dX9_init_212 (by decide) ?_
  refine ww_newaZ C hZ dX9_init_214 aw_Z 6 (by decide) (by decide) (by decide) 127 (by decide +kernel) (by decide) (by decide +kernel) (RXA.le E (by decide) (by decide)) rfl rfl (SHF.take 128) (by decide +kernel) (fun adr26 ha hZ => ?_)
  have hag := hag.tr ha (by decide)
  change WW X ((SHF.take 128), adr26, 26, 4812) 216 [.ref 101] [.ref 127, .ref 101] (mk (zc (zc (zc (zc (zc (zc (zc (zc (zc (zc (zc (zc (zc (zc (zc (zc (zc (zc (zc (zc (zc (zc (zc (zc (zc (uI (zc h 102) 101 3 (-1 : Int32)) 103) 104) 105) 106) 107) 108) 109) 110) 111) 112) 113) 114) 115) 116) 117) 118) 119) 120) 121) 122) 123) 124) 125) 126) 127) (lk (LR.drop 28)))
  refine wk_putFR C E dX9_init_216 fl_X9_91 (by decide +kernel : kd (SHF.take 128) 101 = 9) rfl rfl rfl ?_
  change WW X ((SHF.take 128), adr26, 26, 4812) 219 [.ref 101] [] (mk (zc (zc (zc (zc (zc (zc (zc (zc (zc (zc (zc (zc (zc (zc (zc (zc (zc (zc (zc (zc (zc (zc (zc (zc (zc (uI (zc h 102) 101 3 (-1 : Int32)) 103) 104) 105) 106) 107) 108) 109) 110) 111) 112) 113) 114) 115) 116) 117) 118) 119) 120) 121) 122) 123) 124) 125) 126) 127) (lk (LR.drop 27)))
  refine ww_aload_n C dX9_init_219 0 rfl rfl ?_
  refine ww_bipush (v := (6 : Int32)) C dX9_init_220 (by decide) ?_
  refine ww_newaI C hZ dX9_init_222 aw_I 6 (by decide) (by decide) (by decide) 128 (by decide +kernel) (by decide) (by decide +kernel) (RXA.le E (by decide) (by decide)) rfl rfl (SHF.take 129) (by decide +kernel) (fun adr27 ha hZ => ?_)
  have hag := hag.tr ha (by decide)
  change WW X ((SHF.take 129), adr27, 27, 4818) 224 [.ref 101] [.ref 128, .ref 101] (mk (zc (zc (zc (zc (zc (zc (zc (zc (zc (zc (zc (zc (zc (zc (zc (zc (zc (zc (zc (zc (zc (zc (zc (zc (zc (zc (uI (zc h 102) 101 3 (-1 : Int32)) 103) 104) 105) 106) 107) 108) 109) 110) 111) 112) 113) 114) 115) 116) 117) 118) 119) 120) 121) 122) 123) 124) 125) 126) 127) 128) (lk (LR.drop 27)))
  refine wk_putFR C E dX9_init_224 fl_X9_94 (by decide +kernel : kd (SHF.take 129) 101 = 9) rfl rfl rfl ?_
  change WW X ((SHF.take 129), adr27, 27, 4818) 227 [.ref 101] [] (mk (zc (zc (zc (zc (zc (zc (zc (zc (zc (zc (zc (zc (zc (zc (zc (zc (zc (zc (zc (zc (zc (zc (zc (zc (zc (zc (uI (zc h 102) 101 3 (-1 : Int32)) 103) 104) 105) 106) 107) 108) 109) 110) 111) 112) 113) 114) 115) 116) 117) 118) 119) 120) 121) 122) 123) 124) 125) 126) 127) 128) (lk (LR.drop 26)))
  refine ww_aload_n C dX9_init_227 0 rfl rfl ?_
  refine ww_bipush (v := (6 : Int32)) C dX9_init_228 (by decide) ?_
  refine ww_newaI C hZ dX9_init_230 aw_I 6 (by decide) (by decide) (by decide) 129 (by decide +kernel) (by decide) (by decide +kernel) (RXA.le E (by decide) (by decide)) rfl rfl (SHF.take 130) (by decide +kernel) (fun adr28 ha hZ => ?_)
  have hag := hag.tr ha (by decide)
  change WW X ((SHF.take 130), adr28, 28, 4824) 232 [.ref 101] [.ref 129, .ref 101] (mk (zc (zc (zc (zc (zc (zc (zc (zc (zc (zc (zc (zc (zc (zc (zc (zc (zc (zc (zc (zc (zc (zc (zc (zc (zc (zc (zc (uI (zc h 102) 101 3 (-1 : Int32)) 103) 104) 105) 106) 107) 108) 109) 110) 111) 112) 113) 114) 115) 116) 117) 118) 119) 120) 121) 122) 123) 124) 125) 126) 127) 128) 129) (lk (LR.drop 26)))
  refine wk_putFR C E dX9_init_232 fl_X9_97 (by decide +kernel : kd (SHF.take 130) 101 = 9) rfl rfl rfl ?_
  change WW X ((SHF.take 130), adr28, 28, 4824) 235 [.ref 101] [] (mk (zc (zc (zc (zc (zc (zc (zc (zc (zc (zc (zc (zc (zc (zc (zc (zc (zc (zc (zc (zc (zc (zc (zc (zc (zc (zc (zc (uI (zc h 102) 101 3 (-1 : Int32)) 103) 104) 105) 106) 107) 108) 109) 110) 111) 112) 113) 114) 115) 116) 117) 118) 119) 120) 121) 122) 123) 124) 125) 126) 127) 128) 129) (lk (LR.drop 25)))
  refine ww_aload_n C dX9_init_235 0 rfl rfl ?_
  refine ww_bipush (v := (6 : Int32)) C dX9_init_236 (by decide) ?_
  refine ww_newaI C hZ dX9_init_238 aw_I 6 (by decide) (by decide) (by decide) 130 (by decide +kernel) (by decide) (by decide +kernel) (RXA.le E (by decide) (by decide)) rfl rfl (SHF.take 131) (by decide +kernel) (fun adr29 ha hZ => ?_)
  have hag := hag.tr ha (by decide)
  change WW X ((SHF.take 131), adr29, 29, 4830) 240 [.ref 101] [.ref 130, .ref 101] (mk (zc (zc (zc (zc (zc (zc (zc (zc (zc (zc (zc (zc (zc (zc (zc (zc (zc (zc (zc (zc (zc (zc (zc (zc (zc (zc (zc (zc (uI (zc h 102) 101 3 (-1 : Int32)) 103) 104) 105) 106) 107) 108) 109) 110) 111) 112) 113) 114) 115) 116) 117) 118) 119) 120) 121) 122) 123) 124) 125) 126) 127) 128) 129) 130) (lk (LR.drop 25)))
  refine wk_putFR C E dX9_init_240 fl_X9_100 (by decide +kernel : kd (SHF.take 131) 101 = 9) rfl rfl rfl ?_
  change WW X ((SHF.take 131), adr29, 29, 4830) 243 [.ref 101] [] (mk (zc (zc (zc (zc (zc (zc (zc (zc (zc (zc (zc (zc (zc (zc (zc (zc (zc (zc (zc (zc (zc (zc (zc (zc (zc (zc (zc (zc (uI (zc h 102) 101 3 (-1 : Int32)) 103) 104) 105) 106) 107) 108) 109) 110) 111) 112) 113) 114) 115) 116) 117) 118) 119) 120) 121) 122) 123) 124) 125) 126) 127) 128) 129) 130) (lk (LR.drop 24)))
  refine ww_aload_n C dX9_init_243 0 rfl rfl ?_
  refine ww_bipush (v := (6 : Int32)) C dX9_init_244 (by decide) ?_
  refine ww_newaI C hZ dX9_init_246 aw_I 6 (by decide) (by decide) (by decide) 131 (by decide +kernel) (by decide) (by decide +kernel) (RXA.le E (by decide) (by decide)) rfl rfl (SHF.take 132) (by decide +kernel) (fun adr30 ha hZ => ?_)
  have hag := hag.tr ha (by decide)
  change WW X ((SHF.take 132), adr30, 30, 4836) 248 [.ref 101] [.ref 131, .ref 101] (mk (zc (zc (zc (zc (zc (zc (zc (zc (zc (zc (zc (zc (zc (zc (zc (zc (zc (zc (zc (zc (zc (zc (zc (zc (zc (zc (zc (zc (zc (uI (zc h 102) 101 3 (-1 : Int32)) 103) 104) 105) 106) 107) 108) 109) 110) 111) 112) 113) 114) 115) 116) 117) 118) 119) 120) 121) 122) 123) 124) 125) 126) 127) 128) 129) 130) 131) (lk (LR.drop 24)))
  refine wk_putFR C E dX9_init_248 fl_X9_103 (by decide +kernel : kd (SHF.take 132) 101 = 9) rfl rfl rfl ?_
  change WW X ((SHF.take 132), adr30, 30, 4836) 251 [.ref 101] [] (mk (zc (zc (zc (zc (zc (zc (zc (zc (zc (zc (zc (zc (zc (zc (zc (zc (zc (zc (zc (zc (zc (zc (zc (zc (zc (zc (zc (zc (zc (uI (zc h 102) 101 3 (-1 : Int32)) 103) 104) 105) 106) 107) 108) 109) 110) 111) 112) 113) 114) 115) 116) 117) 118) 119) 120) 121) 122) 123) 124) 125) 126) 127) 128) 129) 130) 131) (lk (LR.drop 23)))
  refine ww_aload_n C dX9_init_251 0 rfl rfl ?_
  refine ww_iconst (v := (4 : Int32)) C dX9_init_252 (by decide) ?_
  refine ww_newaI C hZ dX9_init_253 aw_I 4 (by decide) (by decide) (by decide) 132 (by decide +kernel) (by decide) (by decide +kernel) (RXA.le E (by decide) (by decide)) rfl rfl (SHF.take 133) (by decide +kernel) (fun adr31 ha hZ => ?_)
  have hag := hag.tr ha (by decide)
  change WW X ((SHF.take 133), adr31, 31, 4840) 255 [.ref 101] [.ref 132, .ref 101] (mk (zc (zc (zc (zc (zc (zc (zc (zc (zc (zc (zc (zc (zc (zc (zc (zc (zc (zc (zc (zc (zc (zc (zc (zc (zc (zc (zc (zc (zc (zc (uI (zc h 102) 101 3 (-1 : Int32)) 103) 104) 105) 106) 107) 108) 109) 110) 111) 112) 113) 114) 115) 116) 117) 118) 119) 120) 121) 122) 123) 124) 125) 126) 127) 128) 129) 130) 131) 132) (lk (LR.drop 23)))
  refine wk_putFR C E dX9_init_255 fl_X9_106 (by decide +kernel : kd (SHF.take 133) 101 = 9) rfl rfl rfl ?_
  change WW X ((SHF.take 133), adr31, 31, 4840) 258 [.ref 101] [] (mk (zc (zc (zc (zc (zc (zc (zc (zc (zc (zc (zc (zc (zc (zc (zc (zc (zc (zc (zc (zc (zc (zc (zc (zc (zc (zc (zc (zc (zc (zc (uI (zc h 102) 101 3 (-1 : Int32)) 103) 104) 105) 106) 107) 108) 109) 110) 111) 112) 113) 114) 115) 116) 117) 118) 119) 120) 121) 122) 123) 124) 125) 126) 127) 128) 129) 130) 131) 132) (lk (LR.drop 22)))
  refine ww_aload_n C dX9_init_258 0 rfl rfl ?_
  refine ww_iconst (v := (4 : Int32)) C dX9_init_259 (by decide) ?_
  refine ww_newaI C hZ dX9_init_260 aw_I 4 (by decide) (by decide) (by decide) 133 (by decide +kernel) (by decide) (by decide +kernel) (RXA.le E (by decide) (by decide)) rfl rfl (SHF.take 134) (by decide +kernel) (fun adr32 ha hZ => ?_)
  have hag := hag.tr ha (by decide)
  change WW X ((SHF.take 134), adr32, 32, 4844) 262 [.ref 101] [.ref 133, .ref 101] (mk (zc (zc (zc (zc (zc (zc (zc (zc (zc (zc (zc (zc (zc (zc (zc (zc (zc (zc (zc (zc (zc (zc (zc (zc (zc (zc (zc (zc (zc (zc (zc (uI (zc h 102) 101 3 (-1 : Int32)) 103) 104) 105) 106) 107) 108) 109) 110) 111) 112) 113) 114) 115) 116) 117) 118) 119) 120) 121) 122) 123) 124) 125) 126) 127) 128) 129) 130) 131) 132) 133) (lk (LR.drop 22)))
  refine wk_putFR C E dX9_init_262 fl_X9_109 (by decide +kernel : kd (SHF.take 134) 101 = 9) rfl rfl rfl ?_
  change WW X ((SHF.take 134), adr32, 32, 4844) 265 [.ref 101] [] (mk (zc (zc (zc (zc (zc (zc (zc (zc (zc (zc (zc (zc (zc (zc (zc (zc (zc (zc (zc (zc (zc (zc (zc (zc (zc (zc (zc (zc (zc (zc (zc (uI (zc h 102) 101 3 (-1 : Int32)) 103) 104) 105) 106) 107) 108) 109) 110) 111) 112) 113) 114) 115) 116) 117) 118) 119) 120) 121) 122) 123) 124) 125) 126) 127) 128) 129) 130) 131) 132) 133) (lk (LR.drop 21)))
  refine ww_aload_n C dX9_init_265 0 rfl rfl ?_
  refine ww_bipush (v := (6 : Int32)) C dX9_init_266 (by decide) ?_
  refine ww_newaZ C hZ dX9_init_268 aw_Z 6 (by decide) (by decide) (by decide) 134 (by decide +kernel) (by decide) (by decide +kernel) (RXA.le E (by decide) (by decide)) rfl rfl (SHF.take 135) (by decide +kernel) (fun adr33 ha hZ => ?_)
  have hag := hag.tr ha (by decide)
  change WW X ((SHF.take 135), adr33, 33, 4850) 270 [.ref 101] [.ref 134, .ref 101] (mk (zc (zc (zc (zc (zc (zc (zc (zc (zc (zc (zc (zc (zc (zc (zc (zc (zc (zc (zc (zc (zc (zc (zc (zc (zc (zc (zc (zc (zc (zc (zc (zc (uI (zc h 102) 101 3 (-1 : Int32)) 103) 104) 105) 106) 107) 108) 109) 110) 111) 112) 113) 114) 115) 116) 117) 118) 119) 120) 121) 122) 123) 124) 125) 126) 127) 128) 129) 130) 131) 132) 133) 134) (lk (LR.drop 21)))
  refine wk_putFR C E dX9_init_270 fl_X9_112 (by decide +kernel : kd (SHF.take 135) 101 = 9) rfl rfl rfl ?_
  change WW X ((SHF.take 135), adr33, 33, 4850) 273 [.ref 101] [] (mk (zc (zc (zc (zc (zc (zc (zc (zc (zc (zc (zc (zc (zc (zc (zc (zc (zc (zc (zc (zc (zc (zc (zc (zc (zc (zc (zc (zc (zc (zc (zc (zc (uI (zc h 102) 101 3 (-1 : Int32)) 103) 104) 105) 106) 107) 108) 109) 110) 111) 112) 113) 114) 115) 116) 117) 118) 119) 120) 121) 122) 123) 124) 125) 126) 127) 128) 129) 130) 131) 132) 133) 134) (lk (LR.drop 20)))
  refine ww_aload_n C dX9_init_273 0 rfl rfl ?_
  refine ww_bipush (v := (6 : Int32)) C dX9_init_274 (by decide) ?_
  refine ww_newaZ C hZ dX9_init_276 aw_Z 6 (by decide) (by decide) (by decide) 135 (by decide +kernel) (by decide) (by decide +kernel) (RXA.le E (by decide) (by decide)) rfl rfl (SHF.take 136) (by decide +kernel) (fun adr34 ha hZ => ?_)
  have hag := hag.tr ha (by decide)
  change WW X ((SHF.take 136), adr34, 34, 4856) 278 [.ref 101] [.ref 135, .ref 101] (mk (zc (zc (zc (zc (zc (zc (zc (zc (zc (zc (zc (zc (zc (zc (zc (zc (zc (zc (zc (zc (zc (zc (zc (zc (zc (zc (zc (zc (zc (zc (zc (zc (zc (uI (zc h 102) 101 3 (-1 : Int32)) 103) 104) 105) 106) 107) 108) 109) 110) 111) 112) 113) 114) 115) 116) 117) 118) 119) 120) 121) 122) 123) 124) 125) 126) 127) 128) 129) 130) 131) 132) 133) 134) 135) (lk (LR.drop 20)))
  refine wk_putFR C E dX9_init_278 fl_X9_115 (by decide +kernel : kd (SHF.take 136) 101 = 9) rfl rfl rfl ?_
  change WW X ((SHF.take 136), adr34, 34, 4856) 281 [.ref 101] [] (mk (zc (zc (zc (zc (zc (zc (zc (zc (zc (zc (zc (zc (zc (zc (zc (zc (zc (zc (zc (zc (zc (zc (zc (zc (zc (zc (zc (zc (zc (zc (zc (zc (zc (uI (zc h 102) 101 3 (-1 : Int32)) 103) 104) 105) 106) 107) 108) 109) 110) 111) 112) 113) 114) 115) 116) 117) 118) 119) 120) 121) 122) 123) 124) 125) 126) 127) 128) 129) 130) 131) 132) 133) 134) 135) (lk (LR.drop 19)))
  refine ww_aload_n C dX9_init_281 0 rfl rfl ?_
  refine ww_sipush (v := (600 : Int32)) C dX9_init_282 (by decide) ?_
  refine ww_newaI C hZ dX9_init_285 aw_I 600 (by decide) (by decide) (by decide) 136 (by decide +kernel) (by decide) (by decide +kernel) (RXA.le E (by decide) (by decide)) rfl rfl (SHF.take 137) (by decide +kernel) (fun adr35 ha hZ => ?_)
  have hag := hag.tr ha (by decide)
  change WW X ((SHF.take 137), adr35, 35, 5456) 287 [.ref 101] [.ref 136, .ref 101] (mk (zc (zc (zc (zc (zc (zc (zc (zc (zc (zc (zc (zc (zc (zc (zc (zc (zc (zc (zc (zc (zc (zc (zc (zc (zc (zc (zc (zc (zc (zc (zc (zc (zc (zc (uI (zc h 102) 101 3 (-1 : Int32)) 103) 104) 105) 106) 107) 108) 109) 110) 111) 112) 113) 114) 115) 116) 117) 118) 119) 120) 121) 122) 123) 124) 125) 126) 127) 128) 129) 130) 131) 132) 133) 134) 135) 136) (lk (LR.drop 19)))
  refine wk_putFR C E dX9_init_287 fl_X9_118 (by decide +kernel : kd (SHF.take 137) 101 = 9) rfl rfl rfl ?_
  change WW X ((SHF.take 137), adr35, 35, 5456) 290 [.ref 101] [] (mk (zc (zc (zc (zc (zc (zc (zc (zc (zc (zc (zc (zc (zc (zc (zc (zc (zc (zc (zc (zc (zc (zc (zc (zc (zc (zc (zc (zc (zc (zc (zc (zc (zc (zc (uI (zc h 102) 101 3 (-1 : Int32)) 103) 104) 105) 106) 107) 108) 109) 110) 111) 112) 113) 114) 115) 116) 117) 118) 119) 120) 121) 122) 123) 124) 125) 126) 127) 128) 129) 130) 131) 132) 133) 134) 135) 136) (lk (LR.drop 18)))
  refine ww_aload_n C dX9_init_290 0 rfl rfl ?_
  refine ww_sipush (v := (1206 : Int32)) C dX9_init_291 (by decide) ?_
  refine ww_newaI C hZ dX9_init_294 aw_I 1206 (by decide) (by decide) (by decide) 137 (by decide +kernel) (by decide) (by decide +kernel) (RXA.le E (by decide) (by decide)) rfl rfl (SHF.take 138) (by decide +kernel) (fun adr36 ha hZ => ?_)
  have hag := hag.tr ha (by decide)
  change WW X ((SHF.take 138), adr36, 36, 6662) 296 [.ref 101] [.ref 137, .ref 101] (mk (zc (zc (zc (zc (zc (zc (zc (zc (zc (zc (zc (zc (zc (zc (zc (zc (zc (zc (zc (zc (zc (zc (zc (zc (zc (zc (zc (zc (zc (zc (zc (zc (zc (zc (zc (uI (zc h 102) 101 3 (-1 : Int32)) 103) 104) 105) 106) 107) 108) 109) 110) 111) 112) 113) 114) 115) 116) 117) 118) 119) 120) 121) 122) 123) 124) 125) 126) 127) 128) 129) 130) 131) 132) 133) 134) 135) 136) 137) (lk (LR.drop 18)))
  refine wk_putFR C E dX9_init_296 fl_X9_121 (by decide +kernel : kd (SHF.take 138) 101 = 9) rfl rfl rfl ?_
  change WW X ((SHF.take 138), adr36, 36, 6662) 299 [.ref 101] [] (mk (zc (zc (zc (zc (zc (zc (zc (zc (zc (zc (zc (zc (zc (zc (zc (zc (zc (zc (zc (zc (zc (zc (zc (zc (zc (zc (zc (zc (zc (zc (zc (zc (zc (zc (zc (uI (zc h 102) 101 3 (-1 : Int32)) 103) 104) 105) 106) 107) 108) 109) 110) 111) 112) 113) 114) 115) 116) 117) 118) 119) 120) 121) 122) 123) 124) 125) 126) 127) 128) 129) 130) 131) 132) 133) 134) 135) 136) 137) (lk (LR.drop 17)))
  refine ww_aload_n C dX9_init_299 0 rfl rfl ?_
  refine ww_ldc (v := (262144 : Int32)) C dX9_init_300 kc_X9_124 ?_
  refine ww_newaI C hZ dX9_init_302 aw_I 262144 (by decide) (by decide) (by decide) 138 (by decide +kernel) (by decide) (by decide +kernel) (RXA.le E (by decide) (by decide)) rfl rfl (SHF.take 139) (by decide +kernel) (fun adr37 ha hZ => ?_)
  have hag := hag.tr ha (by decide)
  change WW X ((SHF.take 139), adr37, 37, 268806) 304 [.ref 101] [.ref 138, .ref 101] (mk (zc (zc (zc (zc (zc (zc (zc (zc (zc (zc (zc (zc (zc (zc (zc (zc (zc (zc (zc (zc (zc (zc (zc (zc (zc (zc (zc (zc (zc (zc (zc (zc (zc (zc (zc (zc (uI (zc h 102) 101 3 (-1 : Int32)) 103) 104) 105) 106) 107) 108) 109) 110) 111) 112) 113) 114) 115) 116) 117) 118) 119) 120) 121) 122) 123) 124) 125) 126) 127) 128) 129) 130) 131) 132) 133) 134) 135) 136) 137) 138) (lk (LR.drop 17)))
  refine wk_putFR C E dX9_init_304 fl_X9_125 (by decide +kernel : kd (SHF.take 139) 101 = 9) rfl rfl rfl ?_
  change WW X ((SHF.take 139), adr37, 37, 268806) 307 [.ref 101] [] (mk (zc (zc (zc (zc (zc (zc (zc (zc (zc (zc (zc (zc (zc (zc (zc (zc (zc (zc (zc (zc (zc (zc (zc (zc (zc (zc (zc (zc (zc (zc (zc (zc (zc (zc (zc (zc (uI (zc h 102) 101 3 (-1 : Int32)) 103) 104) 105) 106) 107) 108) 109) 110) 111) 112) 113) 114) 115) 116) 117) 118) 119) 120) 121) 122) 123) 124) 125) 126) 127) 128) 129) 130) 131) 132) 133) 134) 135) 136) 137) 138) (lk (LR.drop 16)))
  refine ww_aload_n C dX9_init_307 0 rfl rfl ?_
  refine ww_ldc (v := (262144 : Int32)) C dX9_init_308 kc_X9_124 ?_
  refine ww_newaI C hZ dX9_init_310 aw_I 262144 (by decide) (by decide) (by decide) 139 (by decide +kernel) (by decide) (by decide +kernel) (RXA.le E (by decide) (by decide)) rfl rfl (SHF.take 140) (by decide +kernel) (fun adr38 ha hZ => ?_)
  have hag := hag.tr ha (by decide)
  change WW X ((SHF.take 140), adr38, 38, 530950) 312 [.ref 101] [.ref 139, .ref 101] (mk (zc (zc (zc (zc (zc (zc (zc (zc (zc (zc (zc (zc (zc (zc (zc (zc (zc (zc (zc (zc (zc (zc (zc (zc (zc (zc (zc (zc (zc (zc (zc (zc (zc (zc (zc (zc (zc (uI (zc h 102) 101 3 (-1 : Int32)) 103) 104) 105) 106) 107) 108) 109) 110) 111) 112) 113) 114) 115) 116) 117) 118) 119) 120) 121) 122) 123) 124) 125) 126) 127) 128) 129) 130) 131) 132) 133) 134) 135) 136) 137) 138) 139) (lk (LR.drop 16)))
  refine wk_putFR C E dX9_init_312 fl_X9_128 (by decide +kernel : kd (SHF.take 140) 101 = 9) rfl rfl rfl ?_
  change WW X ((SHF.take 140), adr38, 38, 530950) 315 [.ref 101] [] (mk (zc (zc (zc (zc (zc (zc (zc (zc (zc (zc (zc (zc (zc (zc (zc (zc (zc (zc (zc (zc (zc (zc (zc (zc (zc (zc (zc (zc (zc (zc (zc (zc (zc (zc (zc (zc (zc (uI (zc h 102) 101 3 (-1 : Int32)) 103) 104) 105) 106) 107) 108) 109) 110) 111) 112) 113) 114) 115) 116) 117) 118) 119) 120) 121) 122) 123) 124) 125) 126) 127) 128) 129) 130) 131) 132) 133) 134) 135) 136) 137) 138) 139) (lk (LR.drop 15)))
  refine ww_aload_n C dX9_init_315 0 rfl rfl ?_
  refine ww_sipush (v := (4096 : Int32)) C dX9_init_316 (by decide) ?_
  refine ww_newaZ C hZ dX9_init_319 aw_Z 4096 (by decide) (by decide) (by decide) 140 (by decide +kernel) (by decide) (by decide +kernel) (RXA.le E (by decide) (by decide)) rfl rfl (SHF.take 141) (by decide +kernel) (fun adr39 ha hZ => ?_)
  have hag := hag.tr ha (by decide)
  change WW X ((SHF.take 141), adr39, 39, 535046) 321 [.ref 101] [.ref 140, .ref 101] (mk (zc (zc (zc (zc (zc (zc (zc (zc (zc (zc (zc (zc (zc (zc (zc (zc (zc (zc (zc (zc (zc (zc (zc (zc (zc (zc (zc (zc (zc (zc (zc (zc (zc (zc (zc (zc (zc (zc (uI (zc h 102) 101 3 (-1 : Int32)) 103) 104) 105) 106) 107) 108) 109) 110) 111) 112) 113) 114) 115) 116) 117) 118) 119) 120) 121) 122) 123) 124) 125) 126) 127) 128) 129) 130) 131) 132) 133) 134) 135) 136) 137) 138) 139) 140) (lk (LR.drop 15)))
  refine wk_putFR C E dX9_init_321 fl_X9_131 (by decide +kernel : kd (SHF.take 141) 101 = 9) rfl rfl rfl ?_
  change WW X ((SHF.take 141), adr39, 39, 535046) 324 [.ref 101] [] (mk (zc (zc (zc (zc (zc (zc (zc (zc (zc (zc (zc (zc (zc (zc (zc (zc (zc (zc (zc (zc (zc (zc (zc (zc (zc (zc (zc (zc (zc (zc (zc (zc (zc (zc (zc (zc (zc (zc (uI (zc h 102) 101 3 (-1 : Int32)) 103) 104) 105) 106) 107) 108) 109) 110) 111) 112) 113) 114) 115) 116) 117) 118) 119) 120) 121) 122) 123) 124) 125) 126) 127) 128) 129) 130) 131) 132) 133) 134) 135) 136) 137) 138) 139) 140) (lk (LR.drop 14)))
  refine ww_aload_n C dX9_init_324 0 rfl rfl ?_
  refine ww_sipush (v := (4096 : Int32)) C dX9_init_325 (by decide) ?_
  refine ww_newaZ C hZ dX9_init_328 aw_Z 4096 (by decide) (by decide) (by decide) 141 (by decide +kernel) (by decide) (by decide +kernel) (RXA.le E (by decide) (by decide)) rfl rfl (SHF.take 142) (by decide +kernel) (fun adr40 ha hZ => ?_)
  have hag := hag.tr ha (by decide)
  change WW X ((SHF.take 142), adr40, 40, 539142) 330 [.ref 101] [.ref 141, .ref 101] (mk (zc (zc (zc (zc (zc (zc (zc (zc (zc (zc (zc (zc (zc (zc (zc (zc (zc (zc (zc (zc (zc (zc (zc (zc (zc (zc (zc (zc (zc (zc (zc (zc (zc (zc (zc (zc (zc (zc (zc (uI (zc h 102) 101 3 (-1 : Int32)) 103) 104) 105) 106) 107) 108) 109) 110) 111) 112) 113) 114) 115) 116) 117) 118) 119) 120) 121) 122) 123) 124) 125) 126) 127) 128) 129) 130) 131) 132) 133) 134) 135) 136) 137) 138) 139) 140) 141) (lk (LR.drop 14)))
  refine wk_putFR C E dX9_init_330 fl_X9_134 (by decide +kernel : kd (SHF.take 142) 101 = 9) rfl rfl rfl ?_
  change WW X ((SHF.take 142), adr40, 40, 539142) 333 [.ref 101] [] (mk (zc (zc (zc (zc (zc (zc (zc (zc (zc (zc (zc (zc (zc (zc (zc (zc (zc (zc (zc (zc (zc (zc (zc (zc (zc (zc (zc (zc (zc (zc (zc (zc (zc (zc (zc (zc (zc (zc (zc (uI (zc h 102) 101 3 (-1 : Int32)) 103) 104) 105) 106) 107) 108) 109) 110) 111) 112) 113) 114) 115) 116) 117) 118) 119) 120) 121) 122) 123) 124) 125) 126) 127) 128) 129) 130) 131) 132) 133) 134) 135) 136) 137) 138) 139) 140) 141) (lk (LR.drop 13)))
  refine ww_aload_n C dX9_init_333 0 rfl rfl ?_
  refine ww_iconst (v := (3 : Int32)) C dX9_init_334 (by decide) ?_
  refine ww_newaI C hZ dX9_init_335 aw_I 3 (by decide) (by decide) (by decide) 142 (by decide +kernel) (by decide) (by decide +kernel) (RXA.le E (by decide) (by decide)) rfl rfl (SHF.take 143) (by decide +kernel) (fun adr41 ha hZ => ?_)
  have hag := hag.tr ha (by decide)
  change WW X ((SHF.take 143), adr41, 41, 539145) 337 [.ref 101] [.ref 142, .ref 101] (mk (zc (zc (zc (zc (zc (zc (zc (zc (zc (zc (zc (zc (zc (zc (zc (zc (zc (zc (zc (zc (zc (zc (zc (zc (zc (zc (zc (zc (zc (zc (zc (zc (zc (zc (zc (zc (zc (zc (zc (zc (uI (zc h 102) 101 3 (-1 : Int32)) 103) 104) 105) 106) 107) 108) 109) 110) 111) 112) 113) 114) 115) 116) 117) 118) 119) 120) 121) 122) 123) 124) 125) 126) 127) 128) 129) 130) 131) 132) 133) 134) 135) 136) 137) 138) 139) 140) 141) 142) (lk (LR.drop 13)))
  refine wk_putFR C E dX9_init_337 fl_X9_137 (by decide +kernel : kd (SHF.take 143) 101 = 9) rfl rfl rfl ?_
  change WW X ((SHF.take 143), adr41, 41, 539145) 340 [.ref 101] [] (mk (zc (zc (zc (zc (zc (zc (zc (zc (zc (zc (zc (zc (zc (zc (zc (zc (zc (zc (zc (zc (zc (zc (zc (zc (zc (zc (zc (zc (zc (zc (zc (zc (zc (zc (zc (zc (zc (zc (zc (zc (uI (zc h 102) 101 3 (-1 : Int32)) 103) 104) 105) 106) 107) 108) 109) 110) 111) 112) 113) 114) 115) 116) 117) 118) 119) 120) 121) 122) 123) 124) 125) 126) 127) 128) 129) 130) 131) 132) 133) 134) 135) 136) 137) 138) 139) 140) 141) 142) (lk (LR.drop 12)))
  refine ww_aload_n C dX9_init_340 0 rfl rfl ?_
  refine ww_bipush (v := (40 : Int32)) C dX9_init_341 (by decide) ?_
  refine ww_newaI C hZ dX9_init_343 aw_I 40 (by decide) (by decide) (by decide) 143 (by decide +kernel) (by decide) (by decide +kernel) (RXA.le E (by decide) (by decide)) rfl rfl (SHF.take 144) (by decide +kernel) (fun adr42 ha hZ => ?_)
  have hag := hag.tr ha (by decide)
  change WW X ((SHF.take 144), adr42, 42, 539185) 345 [.ref 101] [.ref 143, .ref 101] (mk (zc (zc (zc (zc (zc (zc (zc (zc (zc (zc (zc (zc (zc (zc (zc (zc (zc (zc (zc (zc (zc (zc (zc (zc (zc (zc (zc (zc (zc (zc (zc (zc (zc (zc (zc (zc (zc (zc (zc (zc (zc (uI (zc h 102) 101 3 (-1 : Int32)) 103) 104) 105) 106) 107) 108) 109) 110) 111) 112) 113) 114) 115) 116) 117) 118) 119) 120) 121) 122) 123) 124) 125) 126) 127) 128) 129) 130) 131) 132) 133) 134) 135) 136) 137) 138) 139) 140) 141) 142) 143) (lk (LR.drop 12)))
  refine wk_putFR C E dX9_init_345 fl_X9_140 (by decide +kernel : kd (SHF.take 144) 101 = 9) rfl rfl rfl ?_
  change WW X ((SHF.take 144), adr42, 42, 539185) 348 [.ref 101] [] (mk (zc (zc (zc (zc (zc (zc (zc (zc (zc (zc (zc (zc (zc (zc (zc (zc (zc (zc (zc (zc (zc (zc (zc (zc (zc (zc (zc (zc (zc (zc (zc (zc (zc (zc (zc (zc (zc (zc (zc (zc (zc (uI (zc h 102) 101 3 (-1 : Int32)) 103) 104) 105) 106) 107) 108) 109) 110) 111) 112) 113) 114) 115) 116) 117) 118) 119) 120) 121) 122) 123) 124) 125) 126) 127) 128) 129) 130) 131) 132) 133) 134) 135) 136) 137) 138) 139) 140) 141) 142) 143) (lk (LR.drop 11)))
  refine ww_aload_n C dX9_init_348 0 rfl rfl ?_
  refine ww_bipush (v := (40 : Int32)) C dX9_init_349 (by decide) ?_
  refine ww_newaI C hZ dX9_init_351 aw_I 40 (by decide) (by decide) (by decide) 144 (by decide +kernel) (by decide) (by decide +kernel) (RXA.le E (by decide) (by decide)) rfl rfl (SHF.take 145) (by decide +kernel) (fun adr43 ha hZ => ?_)
  have hag := hag.tr ha (by decide)
  change WW X ((SHF.take 145), adr43, 43, 539225) 353 [.ref 101] [.ref 144, .ref 101] (mk (zc (zc (zc (zc (zc (zc (zc (zc (zc (zc (zc (zc (zc (zc (zc (zc (zc (zc (zc (zc (zc (zc (zc (zc (zc (zc (zc (zc (zc (zc (zc (zc (zc (zc (zc (zc (zc (zc (zc (zc (zc (zc (uI (zc h 102) 101 3 (-1 : Int32)) 103) 104) 105) 106) 107) 108) 109) 110) 111) 112) 113) 114) 115) 116) 117) 118) 119) 120) 121) 122) 123) 124) 125) 126) 127) 128) 129) 130) 131) 132) 133) 134) 135) 136) 137) 138) 139) 140) 141) 142) 143) 144) (lk (LR.drop 11)))
  refine wk_putFR C E dX9_init_353 fl_X9_143 (by decide +kernel : kd (SHF.take 145) 101 = 9) rfl rfl rfl ?_
  change WW X ((SHF.take 145), adr43, 43, 539225) 356 [.ref 101] [] (mk (zc (zc (zc (zc (zc (zc (zc (zc (zc (zc (zc (zc (zc (zc (zc (zc (zc (zc (zc (zc (zc (zc (zc (zc (zc (zc (zc (zc (zc (zc (zc (zc (zc (zc (zc (zc (zc (zc (zc (zc (zc (zc (uI (zc h 102) 101 3 (-1 : Int32)) 103) 104) 105) 106) 107) 108) 109) 110) 111) 112) 113) 114) 115) 116) 117) 118) 119) 120) 121) 122) 123) 124) 125) 126) 127) 128) 129) 130) 131) 132) 133) 134) 135) 136) 137) 138) 139) 140) 141) 142) 143) 144) (lk (LR.drop 10)))
  refine ww_aload_n C dX9_init_356 0 rfl rfl ?_
  refine ww_bipush (v := (40 : Int32)) C dX9_init_357 (by decide) ?_
  refine ww_newaI C hZ dX9_init_359 aw_I 40 (by decide) (by decide) (by decide) 145 (by decide +kernel) (by decide) (by decide +kernel) (RXA.le E (by decide) (by decide)) rfl rfl (SHF.take 146) (by decide +kernel) (fun adr44 ha hZ => ?_)
  have hag := hag.tr ha (by decide)
  change WW X ((SHF.take 146), adr44, 44, 539265) 361 [.ref 101] [.ref 145, .ref 101] (mk (zc (zc (zc (zc (zc (zc (zc (zc (zc (zc (zc (zc (zc (zc (zc (zc (zc (zc (zc (zc (zc (zc (zc (zc (zc (zc (zc (zc (zc (zc (zc (zc (zc (zc (zc (zc (zc (zc (zc (zc (zc (zc (zc (uI (zc h 102) 101 3 (-1 : Int32)) 103) 104) 105) 106) 107) 108) 109) 110) 111) 112) 113) 114) 115) 116) 117) 118) 119) 120) 121) 122) 123) 124) 125) 126) 127) 128) 129) 130) 131) 132) 133) 134) 135) 136) 137) 138) 139) 140) 141) 142) 143) 144) 145) (lk (LR.drop 10)))
  refine wk_putFR C E dX9_init_361 fl_X9_146 (by decide +kernel : kd (SHF.take 146) 101 = 9) rfl rfl rfl ?_
  change WW X ((SHF.take 146), adr44, 44, 539265) 364 [.ref 101] [] (mk (zc (zc (zc (zc (zc (zc (zc (zc (zc (zc (zc (zc (zc (zc (zc (zc (zc (zc (zc (zc (zc (zc (zc (zc (zc (zc (zc (zc (zc (zc (zc (zc (zc (zc (zc (zc (zc (zc (zc (zc (zc (zc (zc (uI (zc h 102) 101 3 (-1 : Int32)) 103) 104) 105) 106) 107) 108) 109) 110) 111) 112) 113) 114) 115) 116) 117) 118) 119) 120) 121) 122) 123) 124) 125) 126) 127) 128) 129) 130) 131) 132) 133) 134) 135) 136) 137) 138) 139) 140) 141) 142) 143) 144) 145) (lk (LR.drop 9)))
  refine ww_aload_n C dX9_init_364 0 rfl rfl ?_
  refine ww_bipush (v := (40 : Int32)) C dX9_init_365 (by decide) ?_
  refine ww_newaI C hZ dX9_init_367 aw_I 40 (by decide) (by decide) (by decide) 146 (by decide +kernel) (by decide) (by decide +kernel) (RXA.le E (by decide) (by decide)) rfl rfl (SHF.take 147) (by decide +kernel) (fun adr45 ha hZ => ?_)
  have hag := hag.tr ha (by decide)
  change WW X ((SHF.take 147), adr45, 45, 539305) 369 [.ref 101] [.ref 146, .ref 101] (mk (zc (zc (zc (zc (zc (zc (zc (zc (zc (zc (zc (zc (zc (zc (zc (zc (zc (zc (zc (zc (zc (zc (zc (zc (zc (zc (zc (zc (zc (zc (zc (zc (zc (zc (zc (zc (zc (zc (zc (zc (zc (zc (zc (zc (uI (zc h 102) 101 3 (-1 : Int32)) 103) 104) 105) 106) 107) 108) 109) 110) 111) 112) 113) 114) 115) 116) 117) 118) 119) 120) 121) 122) 123) 124) 125) 126) 127) 128) 129) 130) 131) 132) 133) 134) 135) 136) 137) 138) 139) 140) 141) 142) 143) 144) 145) 146) (lk (LR.drop 9)))
  refine wk_putFR C E dX9_init_369 fl_X9_149 (by decide +kernel : kd (SHF.take 147) 101 = 9) rfl rfl rfl ?_
  change WW X ((SHF.take 147), adr45, 45, 539305) 372 [.ref 101] [] (mk (zc (zc (zc (zc (zc (zc (zc (zc (zc (zc (zc (zc (zc (zc (zc (zc (zc (zc (zc (zc (zc (zc (zc (zc (zc (zc (zc (zc (zc (zc (zc (zc (zc (zc (zc (zc (zc (zc (zc (zc (zc (zc (zc (zc (uI (zc h 102) 101 3 (-1 : Int32)) 103) 104) 105) 106) 107) 108) 109) 110) 111) 112) 113) 114) 115) 116) 117) 118) 119) 120) 121) 122) 123) 124) 125) 126) 127) 128) 129) 130) 131) 132) 133) 134) 135) 136) 137) 138) 139) 140) 141) 142) 143) 144) 145) 146) (lk (LR.drop 8)))
  refine ww_aload_n C dX9_init_372 0 rfl rfl ?_
  refine ww_bipush (v := (40 : Int32)) C dX9_init_373 (by decide) ?_
  refine ww_newaI C hZ dX9_init_375 aw_I 40 (by decide) (by decide) (by decide) 147 (by decide +kernel) (by decide) (by decide +kernel) (RXA.le E (by decide) (by decide)) rfl rfl (SHF.take 148) (by decide +kernel) (fun adr46 ha hZ => ?_)
  have hag := hag.tr ha (by decide)
  change WW X ((SHF.take 148), adr46, 46, 539345) 377 [.ref 101] [.ref 147, .ref 101] (mk (zc (zc (zc (zc (zc (zc (zc (zc (zc (zc (zc (zc (zc (zc (zc (zc (zc (zc (zc (zc (zc (zc (zc (zc (zc (zc (zc (zc (zc (zc (zc (zc (zc (zc (zc (zc (zc (zc (zc (zc (zc (zc (zc (zc (zc (uI (zc h 102) 101 3 (-1 : Int32)) 103) 104) 105) 106) 107) 108) 109) 110) 111) 112) 113) 114) 115) 116) 117) 118) 119) 120) 121) 122) 123) 124) 125) 126) 127) 128) 129) 130) 131) 132) 133) 134) 135) 136) 137) 138) 139) 140) 141) 142) 143) 144) 145) 146) 147) (lk (LR.drop 8)))
  refine wk_putFR C E dX9_init_377 fl_X9_152 (by decide +kernel : kd (SHF.take 148) 101 = 9) rfl rfl rfl ?_
  change WW X ((SHF.take 148), adr46, 46, 539345) 380 [.ref 101] [] (mk (zc (zc (zc (zc (zc (zc (zc (zc (zc (zc (zc (zc (zc (zc (zc (zc (zc (zc (zc (zc (zc (zc (zc (zc (zc (zc (zc (zc (zc (zc (zc (zc (zc (zc (zc (zc (zc (zc (zc (zc (zc (zc (zc (zc (zc (uI (zc h 102) 101 3 (-1 : Int32)) 103) 104) 105) 106) 107) 108) 109) 110) 111) 112) 113) 114) 115) 116) 117) 118) 119) 120) 121) 122) 123) 124) 125) 126) 127) 128) 129) 130) 131) 132) 133) 134) 135) 136) 137) 138) 139) 140) 141) 142) 143) 144) 145) 146) 147) (lk (LR.drop 7)))
  refine ww_aload_n C dX9_init_380 0 rfl rfl ?_
  refine ww_iconst (v := (3 : Int32)) C dX9_init_381 (by decide) ?_
  refine ww_newaZ C hZ dX9_init_382 aw_Z 3 (by decide) (by decide) (by decide) 148 (by decide +kernel) (by decide) (by decide +kernel) (RXA.le E (by decide) (by decide)) rfl rfl (SHF.take 149) (by decide +kernel) (fun adr47 ha hZ => ?_)
  have hag := hag.tr ha (by decide)
  change WW X ((SHF.take 149), adr47, 47, 539348) 384 [.ref 101] [.ref 148, .ref 101] (mk (zc (zc (zc (zc (zc (zc (zc (zc (zc (zc (zc (zc (zc (zc (zc (zc (zc (zc (zc (zc (zc (zc (zc (zc (zc (zc (zc (zc (zc (zc (zc (zc (zc (zc (zc (zc (zc (zc (zc (zc (zc (zc (zc (zc (zc (zc (uI (zc h 102) 101 3 (-1 : Int32)) 103) 104) 105) 106) 107) 108) 109) 110) 111) 112) 113) 114) 115) 116) 117) 118) 119) 120) 121) 122) 123) 124) 125) 126) 127) 128) 129) 130) 131) 132) 133) 134) 135) 136) 137) 138) 139) 140) 141) 142) 143) 144) 145) 146) 147) 148) (lk (LR.drop 7)))
  refine wk_putFR C E dX9_init_384 fl_X9_155 (by decide +kernel : kd (SHF.take 149) 101 = 9) rfl rfl rfl ?_
  change WW X ((SHF.take 149), adr47, 47, 539348) 387 [.ref 101] [] (mk (zc (zc (zc (zc (zc (zc (zc (zc (zc (zc (zc (zc (zc (zc (zc (zc (zc (zc (zc (zc (zc (zc (zc (zc (zc (zc (zc (zc (zc (zc (zc (zc (zc (zc (zc (zc (zc (zc (zc (zc (zc (zc (zc (zc (zc (zc (uI (zc h 102) 101 3 (-1 : Int32)) 103) 104) 105) 106) 107) 108) 109) 110) 111) 112) 113) 114) 115) 116) 117) 118) 119) 120) 121) 122) 123) 124) 125) 126) 127) 128) 129) 130) 131) 132) 133) 134) 135) 136) 137) 138) 139) 140) 141) 142) 143) 144) 145) 146) 147) 148) (lk (LR.drop 6)))
  refine ww_aload_n C dX9_init_387 0 rfl rfl ?_
  refine ww_bipush (v := (90 : Int32)) C dX9_init_388 (by decide) ?_
  refine ww_newaI C hZ dX9_init_390 aw_I 90 (by decide) (by decide) (by decide) 149 (by decide +kernel) (by decide) (by decide +kernel) (RXA.le E (by decide) (by decide)) rfl rfl (SHF.take 150) (by decide +kernel) (fun adr48 ha hZ => ?_)
  have hag := hag.tr ha (by decide)
  change WW X ((SHF.take 150), adr48, 48, 539438) 392 [.ref 101] [.ref 149, .ref 101] (mk (zc (zc (zc (zc (zc (zc (zc (zc (zc (zc (zc (zc (zc (zc (zc (zc (zc (zc (zc (zc (zc (zc (zc (zc (zc (zc (zc (zc (zc (zc (zc (zc (zc (zc (zc (zc (zc (zc (zc (zc (zc (zc (zc (zc (zc (zc (zc (uI (zc h 102) 101 3 (-1 : Int32)) 103) 104) 105) 106) 107) 108) 109) 110) 111) 112) 113) 114) 115) 116) 117) 118) 119) 120) 121) 122) 123) 124) 125) 126) 127) 128) 129) 130) 131) 132) 133) 134) 135) 136) 137) 138) 139) 140) 141) 142) 143) 144) 145) 146) 147) 148) 149) (lk (LR.drop 6)))
  refine wk_putFR C E dX9_init_392 fl_X9_158 (by decide +kernel : kd (SHF.take 150) 101 = 9) rfl rfl rfl ?_
  change WW X ((SHF.take 150), adr48, 48, 539438) 395 [.ref 101] [] (mk (zc (zc (zc (zc (zc (zc (zc (zc (zc (zc (zc (zc (zc (zc (zc (zc (zc (zc (zc (zc (zc (zc (zc (zc (zc (zc (zc (zc (zc (zc (zc (zc (zc (zc (zc (zc (zc (zc (zc (zc (zc (zc (zc (zc (zc (zc (zc (uI (zc h 102) 101 3 (-1 : Int32)) 103) 104) 105) 106) 107) 108) 109) 110) 111) 112) 113) 114) 115) 116) 117) 118) 119) 120) 121) 122) 123) 124) 125) 126) 127) 128) 129) 130) 131) 132) 133) 134) 135) 136) 137) 138) 139) 140) 141) 142) 143) 144) 145) 146) 147) 148) 149) (lk (LR.drop 5)))
  refine ww_aload_n C dX9_init_395 0 rfl rfl ?_
  refine ww_bipush (v := (36 : Int32)) C dX9_init_396 (by decide) ?_
  refine ww_newaI C hZ dX9_init_398 aw_I 36 (by decide) (by decide) (by decide) 150 (by decide +kernel) (by decide) (by decide +kernel) (RXA.le E (by decide) (by decide)) rfl rfl (SHF.take 151) (by decide +kernel) (fun adr49 ha hZ => ?_)
  have hag := hag.tr ha (by decide)
  change WW X ((SHF.take 151), adr49, 49, 539474) 400 [.ref 101] [.ref 150, .ref 101] (mk (zc (zc (zc (zc (zc (zc (zc (zc (zc (zc (zc (zc (zc (zc (zc (zc (zc (zc (zc (zc (zc (zc (zc (zc (zc (zc (zc (zc (zc (zc (zc (zc (zc (zc (zc (zc (zc (zc (zc (zc (zc (zc (zc (zc (zc (zc (zc (zc (uI (zc h 102) 101 3 (-1 : Int32)) 103) 104) 105) 106) 107) 108) 109) 110) 111) 112) 113) 114) 115) 116) 117) 118) 119) 120) 121) 122) 123) 124) 125) 126) 127) 128) 129) 130) 131) 132) 133) 134) 135) 136) 137) 138) 139) 140) 141) 142) 143) 144) 145) 146) 147) 148) 149) 150) (lk (LR.drop 5)))
  refine wk_putFR C E dX9_init_400 fl_X9_161 (by decide +kernel : kd (SHF.take 151) 101 = 9) rfl rfl rfl ?_
  change WW X ((SHF.take 151), adr49, 49, 539474) 403 [.ref 101] [] (mk (zc (zc (zc (zc (zc (zc (zc (zc (zc (zc (zc (zc (zc (zc (zc (zc (zc (zc (zc (zc (zc (zc (zc (zc (zc (zc (zc (zc (zc (zc (zc (zc (zc (zc (zc (zc (zc (zc (zc (zc (zc (zc (zc (zc (zc (zc (zc (zc (uI (zc h 102) 101 3 (-1 : Int32)) 103) 104) 105) 106) 107) 108) 109) 110) 111) 112) 113) 114) 115) 116) 117) 118) 119) 120) 121) 122) 123) 124) 125) 126) 127) 128) 129) 130) 131) 132) 133) 134) 135) 136) 137) 138) 139) 140) 141) 142) 143) 144) 145) 146) 147) 148) 149) 150) (lk (LR.drop 4)))
  refine ww_aload_n C dX9_init_403 0 rfl rfl ?_
  refine ww_bipush (v := (24 : Int32)) C dX9_init_404 (by decide) ?_
  refine ww_newaI C hZ dX9_init_406 aw_I 24 (by decide) (by decide) (by decide) 151 (by decide +kernel) (by decide) (by decide +kernel) (RXA.le E (by decide) (by decide)) rfl rfl (SHF.take 152) (by decide +kernel) (fun adr50 ha hZ => ?_)
  have hag := hag.tr ha (by decide)
  change WW X ((SHF.take 152), adr50, 50, 539498) 408 [.ref 101] [.ref 151, .ref 101] (mk (zc (zc (zc (zc (zc (zc (zc (zc (zc (zc (zc (zc (zc (zc (zc (zc (zc (zc (zc (zc (zc (zc (zc (zc (zc (zc (zc (zc (zc (zc (zc (zc (zc (zc (zc (zc (zc (zc (zc (zc (zc (zc (zc (zc (zc (zc (zc (zc (zc (uI (zc h 102) 101 3 (-1 : Int32)) 103) 104) 105) 106) 107) 108) 109) 110) 111) 112) 113) 114) 115) 116) 117) 118) 119) 120) 121) 122) 123) 124) 125) 126) 127) 128) 129) 130) 131) 132) 133) 134) 135) 136) 137) 138) 139) 140) 141) 142) 143) 144) 145) 146) 147) 148) 149) 150) 151) (lk (LR.drop 4)))
  refine wk_putFR C E dX9_init_408 fl_X9_164 (by decide +kernel : kd (SHF.take 152) 101 = 9) rfl rfl rfl ?_
  change WW X ((SHF.take 152), adr50, 50, 539498) 411 [.ref 101] [] (mk (zc (zc (zc (zc (zc (zc (zc (zc (zc (zc (zc (zc (zc (zc (zc (zc (zc (zc (zc (zc (zc (zc (zc (zc (zc (zc (zc (zc (zc (zc (zc (zc (zc (zc (zc (zc (zc (zc (zc (zc (zc (zc (zc (zc (zc (zc (zc (zc (zc (uI (zc h 102) 101 3 (-1 : Int32)) 103) 104) 105) 106) 107) 108) 109) 110) 111) 112) 113) 114) 115) 116) 117) 118) 119) 120) 121) 122) 123) 124) 125) 126) 127) 128) 129) 130) 131) 132) 133) 134) 135) 136) 137) 138) 139) 140) 141) 142) 143) 144) 145) 146) 147) 148) 149) 150) 151) (lk (LR.drop 3)))
  refine ww_aload_n C dX9_init_411 0 rfl rfl ?_
  refine ww_sipush (v := (1800 : Int32)) C dX9_init_412 (by decide) ?_
  refine ww_newaI C hZ dX9_init_415 aw_I 1800 (by decide) (by decide) (by decide) 152 (by decide +kernel) (by decide) (by decide +kernel) (RXA.le E (by decide) (by decide)) rfl rfl (SHF.take 153) (by decide +kernel) (fun adr51 ha hZ => ?_)
  have hag := hag.tr ha (by decide)
  change WW X ((SHF.take 153), adr51, 51, 541298) 417 [.ref 101] [.ref 152, .ref 101] (mk (zc (zc (zc (zc (zc (zc (zc (zc (zc (zc (zc (zc (zc (zc (zc (zc (zc (zc (zc (zc (zc (zc (zc (zc (zc (zc (zc (zc (zc (zc (zc (zc (zc (zc (zc (zc (zc (zc (zc (zc (zc (zc (zc (zc (zc (zc (zc (zc (zc (zc (uI (zc h 102) 101 3 (-1 : Int32)) 103) 104) 105) 106) 107) 108) 109) 110) 111) 112) 113) 114) 115) 116) 117) 118) 119) 120) 121) 122) 123) 124) 125) 126) 127) 128) 129) 130) 131) 132) 133) 134) 135) 136) 137) 138) 139) 140) 141) 142) 143) 144) 145) 146) 147) 148) 149) 150) 151) 152) (lk (LR.drop 3)))
  refine wk_putFR C E dX9_init_417 fl_X9_167 (by decide +kernel : kd (SHF.take 153) 101 = 9) rfl rfl rfl ?_
  change WW X ((SHF.take 153), adr51, 51, 541298) 420 [.ref 101] [] (mk (zc (zc (zc (zc (zc (zc (zc (zc (zc (zc (zc (zc (zc (zc (zc (zc (zc (zc (zc (zc (zc (zc (zc (zc (zc (zc (zc (zc (zc (zc (zc (zc (zc (zc (zc (zc (zc (zc (zc (zc (zc (zc (zc (zc (zc (zc (zc (zc (zc (zc (uI (zc h 102) 101 3 (-1 : Int32)) 103) 104) 105) 106) 107) 108) 109) 110) 111) 112) 113) 114) 115) 116) 117) 118) 119) 120) 121) 122) 123) 124) 125) 126) 127) 128) 129) 130) 131) 132) 133) 134) 135) 136) 137) 138) 139) 140) 141) 142) 143) 144) 145) 146) 147) 148) 149) 150) 151) 152) (lk (LR.drop 2)))
  refine ww_aload_n C dX9_init_420 0 rfl rfl ?_
  refine ww_sipush (v := (3618 : Int32)) C dX9_init_421 (by decide) ?_
  refine ww_newaI C hZ dX9_init_424 aw_I 3618 (by decide) (by decide) (by decide) 153 (by decide +kernel) (by decide) (by decide +kernel) (RXA.le E (by decide) (by decide)) rfl rfl (SHF.take 154) (by decide +kernel) (fun adr52 ha hZ => ?_)
  have hag := hag.tr ha (by decide)
  change WW X ((SHF.take 154), adr52, 52, 544916) 426 [.ref 101] [.ref 153, .ref 101] (mk (zc (zc (zc (zc (zc (zc (zc (zc (zc (zc (zc (zc (zc (zc (zc (zc (zc (zc (zc (zc (zc (zc (zc (zc (zc (zc (zc (zc (zc (zc (zc (zc (zc (zc (zc (zc (zc (zc (zc (zc (zc (zc (zc (zc (zc (zc (zc (zc (zc (zc (zc (uI (zc h 102) 101 3 (-1 : Int32)) 103) 104) 105) 106) 107) 108) 109) 110) 111) 112) 113) 114) 115) 116) 117) 118) 119) 120) 121) 122) 123) 124) 125) 126) 127) 128) 129) 130) 131) 132) 133) 134) 135) 136) 137) 138) 139) 140) 141) 142) 143) 144) 145) 146) 147) 148) 149) 150) 151) 152) 153) (lk (LR.drop 2)))
  refine wk_putFR C E dX9_init_426 fl_X9_170 (by decide +kernel : kd (SHF.take 154) 101 = 9) rfl rfl rfl ?_
  change WW X ((SHF.take 154), adr52, 52, 544916) 429 [.ref 101] [] (mk (zc (zc (zc (zc (zc (zc (zc (zc (zc (zc (zc (zc (zc (zc (zc (zc (zc (zc (zc (zc (zc (zc (zc (zc (zc (zc (zc (zc (zc (zc (zc (zc (zc (zc (zc (zc (zc (zc (zc (zc (zc (zc (zc (zc (zc (zc (zc (zc (zc (zc (zc (uI (zc h 102) 101 3 (-1 : Int32)) 103) 104) 105) 106) 107) 108) 109) 110) 111) 112) 113) 114) 115) 116) 117) 118) 119) 120) 121) 122) 123) 124) 125) 126) 127) 128) 129) 130) 131) 132) 133) 134) 135) 136) 137) 138) 139) 140) 141) 142) 143) 144) 145) 146) 147) 148) 149) 150) 151) 152) 153) (lk (LR.drop 1)))
  refine ww_aload_n C dX9_init_429 0 rfl rfl ?_
  refine ww_bipush (v := (9 : Int32)) C dX9_init_430 (by decide) ?_
  refine ww_newaI C hZ dX9_init_432 aw_I 9 (by decide) (by decide) (by decide) 154 (by decide +kernel) (by decide) (by decide +kernel) (RXA.le E (by decide) (by decide)) rfl rfl (SHF.take 155) (by decide +kernel) (fun adr53 ha hZ => ?_)
  have hag := hag.tr ha (by decide)
  change WW X ((SHF.take 155), adr53, 53, 544925) 434 [.ref 101] [.ref 154, .ref 101] (mk (zc (zc (zc (zc (zc (zc (zc (zc (zc (zc (zc (zc (zc (zc (zc (zc (zc (zc (zc (zc (zc (zc (zc (zc (zc (zc (zc (zc (zc (zc (zc (zc (zc (zc (zc (zc (zc (zc (zc (zc (zc (zc (zc (zc (zc (zc (zc (zc (zc (zc (zc (zc (uI (zc h 102) 101 3 (-1 : Int32)) 103) 104) 105) 106) 107) 108) 109) 110) 111) 112) 113) 114) 115) 116) 117) 118) 119) 120) 121) 122) 123) 124) 125) 126) 127) 128) 129) 130) 131) 132) 133) 134) 135) 136) 137) 138) 139) 140) 141) 142) 143) 144) 145) 146) 147) 148) 149) 150) 151) 152) 153) 154) (lk (LR.drop 1)))
  refine wk_putFR C E dX9_init_434 fl_X9_173 (by decide +kernel : kd (SHF.take 155) 101 = 9) rfl rfl rfl ?_
  change WW X ((SHF.take 155), adr53, 53, 544925) 437 [.ref 101] [] (mk (zc (zc (zc (zc (zc (zc (zc (zc (zc (zc (zc (zc (zc (zc (zc (zc (zc (zc (zc (zc (zc (zc (zc (zc (zc (zc (zc (zc (zc (zc (zc (zc (zc (zc (zc (zc (zc (zc (zc (zc (zc (zc (zc (zc (zc (zc (zc (zc (zc (zc (zc (zc (uI (zc h 102) 101 3 (-1 : Int32)) 103) 104) 105) 106) 107) 108) 109) 110) 111) 112) 113) 114) 115) 116) 117) 118) 119) 120) 121) 122) 123) 124) 125) 126) 127) 128) 129) 130) 131) 132) 133) 134) 135) 136) 137) 138) 139) 140) 141) 142) 143) 144) 145) 146) 147) 148) 149) 150) 151) 152) 153) 154) (lk (LR.drop 0)))
  cases H
  exact ww_vretA C E hag dX9_init_437 rfl
