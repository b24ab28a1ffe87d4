/-! a hall that is told: the reference copies its rows; the call hall() -/
theorem r_h15 {h : HI} : ∃ g, (∀ k, fX9_hall_15 101 k FU h 0 = k g) ∧ Fr (fun a _ => a = 112) h g ∧ ∀ i, i < 3 → g.1 112 i = h.1 111 i := by
  have L := lpS (f := fun k => fX9_hall_15 101 k) (st := fun i g => (uI g 112 i (g.1 111 i))) (Q := fun _ => True) (N := 3) (h := h) (fun k F h _ => by
    show fX9_hall_15 101 k (F + 1) h (nI 3) = k h
    rw [fX9_hall_15, if_pos (by decide)]) (fun k F h i hi _ => by
    show fX9_hall_15 101 k (F + 1) h (nI i) = _
    rw [fX9_hall_15, if_neg (show ¬ (3 : Int32) ≤ nI i from nI_ge (show i < 3 from hi) (by decide))]
    simp (disch := omega) only [gB, nI_clamp, nI_1]) (fun _ _ _ _ => trivial) trivial (by decide)
  have F : ∀ m, m ≤ 3 → Fr (fun a _ => a = 112) h (itS (fun i g => (uI g 112 i (g.1 111 i))) m h) := itF (W := fun a _ => a = 112) (N := 3) (fun i g _ => Fr.uI (by decide)) h
  refine ⟨_, L.2, F 3 (Nat.le_refl _), fun i hi => ?_⟩
  · refine (itV (a := 112) (N := 3) (v := fun i g => (g.1 111 i)) (fun i g _ => by rw [uI_s]) (fun i j g hj _ => by rw [uI_n (by omega)]) h 3 (Nat.le_refl _) i hi).trans ?_
    show ((itS (fun i g => (uI g 112 i (g.1 111 i))) i h).1 111 i) = _
    rw [(F i (by omega)).1 _ _ (by omega)]
theorem r_h102 {h : HI} : ∃ g, (∀ k, fX9_hall_102 101 k FU h 0 = k g) ∧ Fr (fun a _ => a = 120) h g ∧ ∀ i, i < 4 → g.1 120 i = h.1 115 i := by
  have L := lpS (f := fun k => fX9_hall_102 101 k) (st := fun i g => (uI g 120 i (g.1 115 i))) (Q := fun _ => True) (N := 4) (h := h) (fun k F h _ => by
    show fX9_hall_102 101 k (F + 1) h (nI 4) = k h
    rw [fX9_hall_102, if_pos (by decide)]) (fun k F h i hi _ => by
    show fX9_hall_102 101 k (F + 1) h (nI i) = _
    rw [fX9_hall_102, if_neg (show ¬ (4 : Int32) ≤ nI i from nI_ge (show i < 4 from hi) (by decide))]
    simp (disch := omega) only [gB, nI_clamp, nI_1]) (fun _ _ _ _ => trivial) trivial (by decide)
  have F : ∀ m, m ≤ 4 → Fr (fun a _ => a = 120) h (itS (fun i g => (uI g 120 i (g.1 115 i))) m h) := itF (W := fun a _ => a = 120) (N := 4) (fun i g _ => Fr.uI (by decide)) h
  refine ⟨_, L.2, F 4 (Nat.le_refl _), fun i hi => ?_⟩
  · refine (itV (a := 120) (N := 4) (v := fun i g => (g.1 115 i)) (fun i g _ => by rw [uI_s]) (fun i j g hj _ => by rw [uI_n (by omega)]) h 4 (Nat.le_refl _) i hi).trans ?_
    show ((itS (fun i g => (uI g 120 i (g.1 115 i))) i h).1 115 i) = _
    rw [(F i (by omega)).1 _ _ (by omega)]
theorem r_h127 {h : HI} : ∃ g, (∀ k, fX9_hall_127 101 k FU h 0 = k g) ∧ Fr (fun a _ => a = 121) h g ∧ ∀ i, i < 24 → g.1 121 i = h.1 116 i := by
  have L := lpS (f := fun k => fX9_hall_127 101 k) (st := fun i g => (uI g 121 i (g.1 116 i))) (Q := fun _ => True) (N := 24) (h := h) (fun k F h _ => by
    show fX9_hall_127 101 k (F + 1) h (nI 24) = k h
    rw [fX9_hall_127, if_pos (by decide)]) (fun k F h i hi _ => by
    show fX9_hall_127 101 k (F + 1) h (nI i) = _
    rw [fX9_hall_127, if_neg (show ¬ (24 : Int32) ≤ nI i from nI_ge (show i < 24 from hi) (by decide))]
    simp (disch := omega) only [gB, nI_clamp, nI_1]) (fun _ _ _ _ => trivial) trivial (by decide)
  have F : ∀ m, m ≤ 24 → Fr (fun a _ => a = 121) h (itS (fun i g => (uI g 121 i (g.1 116 i))) m h) := itF (W := fun a _ => a = 121) (N := 24) (fun i g _ => Fr.uI (by decide)) h
  refine ⟨_, L.2, F 24 (Nat.le_refl _), fun i hi => ?_⟩
  · refine (itV (a := 121) (N := 24) (v := fun i g => (g.1 116 i)) (fun i g _ => by rw [uI_s]) (fun i j g hj _ => by rw [uI_n (by omega)]) h 24 (Nat.le_refl _) i hi).trans ?_
    show ((itS (fun i g => (uI g 121 i (g.1 116 i))) i h).1 116 i) = _
    rw [(F i (by omega)).1 _ _ (by omega)]
theorem r_h153 {h : HI} : ∃ g, (∀ k, fX9_hall_153 101 k FU h 0 = k g) ∧ Fr (fun a _ => a = 122) h g ∧ ∀ i, i < 16 → g.1 122 i = h.1 117 i := by
  have L := lpS (f := fun k => fX9_hall_153 101 k) (st := fun i g => (uI g 122 i (g.1 117 i))) (Q := fun _ => True) (N := 16) (h := h) (fun k F h _ => by
    show fX9_hall_153 101 k (F + 1) h (nI 16) = k h
    rw [fX9_hall_153, if_pos (by decide)]) (fun k F h i hi _ => by
    show fX9_hall_153 101 k (F + 1) h (nI i) = _
    rw [fX9_hall_153, if_neg (show ¬ (16 : Int32) ≤ nI i from nI_ge (show i < 16 from hi) (by decide))]
    simp (disch := omega) only [gB, nI_clamp, nI_1]) (fun _ _ _ _ => trivial) trivial (by decide)
  have F : ∀ m, m ≤ 16 → Fr (fun a _ => a = 122) h (itS (fun i g => (uI g 122 i (g.1 117 i))) m h) := itF (W := fun a _ => a = 122) (N := 16) (fun i g _ => Fr.uI (by decide)) h
  refine ⟨_, L.2, F 16 (Nat.le_refl _), fun i hi => ?_⟩
  · refine (itV (a := 122) (N := 16) (v := fun i g => (g.1 117 i)) (fun i g _ => by rw [uI_s]) (fun i j g hj _ => by rw [uI_n (by omega)]) h 16 (Nat.le_refl _) i hi).trans ?_
    show ((itS (fun i g => (uI g 122 i (g.1 117 i))) i h).1 117 i) = _
    rw [(F i (by omega)).1 _ _ (by omega)]
theorem r_h40 {h : HI} : ∃ g, (∀ k, fX9_hall_40 101 k FU h 0 = k g) ∧ Fr (fun a _ => a = 118 ∨ a = 119 ∨ a = 126 ∨ a = 127) h g ∧ ∀ i, i < 6 → g.1 118 i = h.1 113 i ∧ g.1 119 i = h.1 114 i ∧ g.1 126 i = vp_nar .boolean (h.1 123 i) ∧ g.1 127 i = vp_nar .boolean (h.1 124 i) := by
  have L := lpS (f := fun k => fX9_hall_40 101 k) (st := fun i g => (uI (uI (uI (uI g 118 i (g.1 113 i)) 119 i (g.1 114 i)) 126 i (vp_nar .boolean (g.1 123 i))) 127 i (vp_nar .boolean (g.1 124 i)))) (Q := fun _ => True) (N := 6) (h := h) (fun k F h _ => by
    show fX9_hall_40 101 k (F + 1) h (nI 6) = k h
    rw [fX9_hall_40, if_pos (by decide)]) (fun k F h i hi _ => by
    show fX9_hall_40 101 k (F + 1) h (nI i) = _
    rw [fX9_hall_40, if_neg (show ¬ (6 : Int32) ≤ nI i from nI_ge (show i < 6 from hi) (by decide))]
    simp (disch := omega) only [gB, nI_clamp, nI_1]) (fun _ _ _ _ => trivial) trivial (by decide)
  have F : ∀ m, m ≤ 6 → Fr (fun a _ => a = 118 ∨ a = 119 ∨ a = 126 ∨ a = 127) h (itS (fun i g => (uI (uI (uI (uI g 118 i (g.1 113 i)) 119 i (g.1 114 i)) 126 i (vp_nar .boolean (g.1 123 i))) 127 i (vp_nar .boolean (g.1 124 i)))) m h) := itF (W := fun a _ => a = 118 ∨ a = 119 ∨ a = 126 ∨ a = 127) (N := 6) (fun i g _ => (((Fr.uI (by decide)).tr (Fr.uI (by decide))).tr (Fr.uI (by decide))).tr (Fr.uI (by decide))) h
  refine ⟨_, L.2, F 6 (Nat.le_refl _), fun i hi => ⟨?_, ?_, ?_, ?_⟩⟩
  · refine (itV (a := 118) (N := 6) (v := fun i g => (g.1 113 i)) (fun i g _ => by rw [uI_n (by omega), uI_n (by omega), uI_n (by omega), uI_s]) (fun i j g hj _ => by rw [uI_n (by omega), uI_n (by omega), uI_n (by omega), uI_n (by omega)]) h 6 (Nat.le_refl _) i hi).trans ?_
    show ((itS (fun i g => (uI (uI (uI (uI g 118 i (g.1 113 i)) 119 i (g.1 114 i)) 126 i (vp_nar .boolean (g.1 123 i))) 127 i (vp_nar .boolean (g.1 124 i)))) i h).1 113 i) = _
    rw [(F i (by omega)).1 _ _ (by omega)]
  · refine (itV (a := 119) (N := 6) (v := fun i g => (g.1 114 i)) (fun i g _ => by rw [uI_n (by omega), uI_n (by omega), uI_s]) (fun i j g hj _ => by rw [uI_n (by omega), uI_n (by omega), uI_n (by omega), uI_n (by omega)]) h 6 (Nat.le_refl _) i hi).trans ?_
    show ((itS (fun i g => (uI (uI (uI (uI g 118 i (g.1 113 i)) 119 i (g.1 114 i)) 126 i (vp_nar .boolean (g.1 123 i))) 127 i (vp_nar .boolean (g.1 124 i)))) i h).1 114 i) = _
    rw [(F i (by omega)).1 _ _ (by omega)]
  · refine (itV (a := 126) (N := 6) (v := fun i g => (vp_nar .boolean (g.1 123 i))) (fun i g _ => by rw [uI_n (by omega), uI_s]) (fun i j g hj _ => by rw [uI_n (by omega), uI_n (by omega), uI_n (by omega), uI_n (by omega)]) h 6 (Nat.le_refl _) i hi).trans ?_
    show (vp_nar .boolean ((itS (fun i g => (uI (uI (uI (uI g 118 i (g.1 113 i)) 119 i (g.1 114 i)) 126 i (vp_nar .boolean (g.1 123 i))) 127 i (vp_nar .boolean (g.1 124 i)))) i h).1 123 i)) = _
    rw [(F i (by omega)).1 _ _ (by omega)]
  · refine (itV (a := 127) (N := 6) (v := fun i g => (vp_nar .boolean (g.1 124 i))) (fun i g _ => by rw [uI_s]) (fun i j g hj _ => by rw [uI_n (by omega), uI_n (by omega), uI_n (by omega), uI_n (by omega)]) h 6 (Nat.le_refl _) i hi).trans ?_
    show (vp_nar .boolean ((itS (fun i g => (uI (uI (uI (uI g 118 i (g.1 113 i)) 119 i (g.1 114 i)) 126 i (vp_nar .boolean (g.1 123 i))) 127 i (vp_nar .boolean (g.1 124 i)))) i h).1 124 i)) = _
    rw [(F i (by omega)).1 _ _ (by omega)]
theorem r_h179 {h : HI} {c : Nat} (hc : c ≤ 640) (e : h.1 101 17 = nI c) : ∃ g, (∀ k, fX9_hall_179 101 k FU h 0 = k g) ∧ Fr (fun a _ => a = 105 ∨ a = 106) h g ∧ ∀ i, i < c → g.1 105 i = h.1 103 i ∧ g.1 106 i = h.1 104 i := by
  have L := lpS (f := fun k => fX9_hall_179 101 k) (st := fun i g => uI (uI g 105 i (g.1 103 i)) 106 i (g.1 104 i)) (Q := fun g => g.1 101 17 = nI c) (N := c) (h := h) (fun k F h Q => by
    have Q : h.1 101 17 = nI c := Q
    show fX9_hall_179 101 k (F + 1) h (nI c) = k h
    rw [fX9_hall_179, Q, if_pos (nI_le (Nat.le_refl _) (by omega))]) (fun k F h i hi Q => by
    have Q : h.1 101 17 = nI c := Q
    show fX9_hall_179 101 k (F + 1) h (nI i) = _
    rw [fX9_hall_179, Q, if_neg (nI_ge hi (by omega))]
    simp (disch := omega) only [gB, nI_clamp, nI_1]) (fun i g hi Q => by
    show (uI (uI g 105 i (g.1 103 i)) 106 i (g.1 104 i)).1 101 17 = _
    rw [uI_n (by omega), uI_n (by omega)]; exact Q) e (by omega)
  have F : ∀ m, m ≤ c → Fr (fun a _ => a = 105 ∨ a = 106) h (itS (fun i g => uI (uI g 105 i (g.1 103 i)) 106 i (g.1 104 i)) m h) := itF (W := fun a _ => a = 105 ∨ a = 106) (N := c) (fun i g _ => (Fr.uI (by decide)).tr (Fr.uI (by decide))) h
  refine ⟨_, L.2, F c (Nat.le_refl _), fun i hi => ⟨?_, ?_⟩⟩
  · refine (itV (a := 105) (N := c) (v := fun i g => g.1 103 i) (fun i g _ => by rw [uI_n (by omega), uI_s]) (fun i j g hj _ => by rw [uI_n (by omega), uI_n (by omega)]) h c (Nat.le_refl _) i hi).trans ?_
    show (itS (fun i g => uI (uI g 105 i (g.1 103 i)) 106 i (g.1 104 i)) i h).1 103 i = _
    rw [(F i (by omega)).1 _ _ (by omega)]
  · refine (itV (a := 106) (N := c) (v := fun i g => g.1 104 i) (fun i g _ => by rw [uI_s]) (fun i j g hj _ => by rw [uI_n (by omega), uI_n (by omega)]) h c (Nat.le_refl _) i hi).trans ?_
    show (itS (fun i g => uI (uI g 105 i (g.1 103 i)) 106 i (g.1 104 i)) i h).1 104 i = _
    rw [(F i (by omega)).1 _ _ (by omega)]
theorem r_h276 {h : HI} : ∃ g, (∀ k, fX9_hall_276 101 k FU h 0 = k g) ∧ Fr (fun a _ => a = 148) h g ∧ ∀ i, i < 3 → g.1 148 i = 0 := by
  have L := lpS (f := fun k => fX9_hall_276 101 k) (st := fun i g => uI g 148 i 0) (Q := fun _ => True) (N := 3) (h := h) (fun k F h _ => by
    show fX9_hall_276 101 k (F + 1) h (nI 3) = k h
    rw [fX9_hall_276, if_pos (by decide)]) (fun k F h i hi _ => by
    show fX9_hall_276 101 k (F + 1) h (nI i) = _
    rw [fX9_hall_276, if_neg (show ¬ (3 : Int32) ≤ nI i from nI_ge (show i < 3 from hi) (by decide))]
    simp (disch := omega) only [gB, nI_clamp, nI_1]) (fun _ _ _ _ => trivial) trivial (by decide)
  refine ⟨_, L.2, itF (W := fun a _ => a = 148) (N := 3) (fun i g _ => Fr.uI rfl) h 3 (Nat.le_refl _), fun i hi => ?_⟩
  exact itV (a := 148) (N := 3) (v := fun i _ => 0) (fun i g _ => by rw [uI_s]) (fun i j g hj _ => by rw [uI_n (by omega)]) h 3 (Nat.le_refl _) i hi
theorem c_h64 {hh hs : Nat} {h : HI} : ∃ g, (∀ k, fX8_hall_64 0 hh hs k FU h 0 = k g) ∧ Fr (fun a _ => a = 4) h g ∧ ∀ i, i < 3 → g.1 4 i = 0 := by
  have L := lpS (f := fun k => fX8_hall_64 0 hh hs k) (st := fun i g => uI g 4 i 0) (Q := fun _ => True) (N := 3) (h := h) (fun k F h _ => by
    show fX8_hall_64 0 hh hs k (F + 1) h (nI 3) = k h
    rw [fX8_hall_64, if_pos (by decide)]) (fun k F h i hi _ => by
    show fX8_hall_64 0 hh hs k (F + 1) h (nI i) = _
    rw [fX8_hall_64, if_neg (show ¬ (3 : Int32) ≤ nI i from nI_ge (show i < 3 from hi) (by decide))]
    simp (disch := omega) only [gB, nI_clamp, nI_1]) (fun _ _ _ _ => trivial) trivial (by decide)
  refine ⟨_, L.2, itF (W := fun a _ => a = 4) (N := 3) (fun i g _ => Fr.uI rfl) h 3 (Nat.le_refl _), fun i hi => ?_⟩
  exact itV (a := 4) (N := 3) (v := fun i _ => 0) (fun i g _ => by rw [uI_s]) (fun i j g hj _ => by rw [uI_n (by omega)]) h 3 (Nat.le_refl _) i hi
