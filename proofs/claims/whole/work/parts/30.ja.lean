def NST : List (Nat × Nat × Nat × Nat) := []
/-- an object of kind 2: where what it holds lies -/
def NS (sh : Sh) (r : Nat → Nat → Option Nat) (N : Nat) (o : Nat) : Prop := kd sh o = 2 ∧ (∀ q ∈ NST, r o q.1 = some (o + q.2.1) ∧ kd sh (o + q.2.1) = q.2.2.1 ∧ ln sh (o + q.2.1) = q.2.2.2) ∧ (r o 0 = some (o + 1) ∧ kd sh (o + 1) = 12 ∧ ln sh (o + 1) = N)
theorem tX2_names {sh : Sh} {r : Nat → Nat → Option Nat} {N : Nat} {o : Nat} (h : NS sh r N o) : r o 0 = some (o + 1) ∧ kd sh (o + 1) = 12 ∧ ln sh (o + 1) = N := h.2.2
def UST : List (Nat × Nat × Nat × Nat) := [(0, 1, 11, 400), (1, 2, 11, 42)]
/-- an object of kind 5: where what it holds lies -/
def US (sh : Sh) (r : Nat → Nat → Option Nat) (o : Nat) : Prop := kd sh o = 5 ∧ (∀ q ∈ UST, r o q.1 = some (o + q.2.1) ∧ kd sh (o + q.2.1) = q.2.2.1 ∧ ln sh (o + q.2.1) = q.2.2.2)
theorem tX5_steps {sh : Sh} {r : Nat → Nat → Option Nat} {o : Nat} (h : US sh r o) : r o 0 = some (o + 1) ∧ kd sh (o + 1) = 11 ∧ ln sh (o + 1) = 400 := h.2 (0, 1, 11, 400) (by decide)
theorem tX5_stack {sh : Sh} {r : Nat → Nat → Option Nat} {o : Nat} (h : US sh r o) : r o 1 = some (o + 2) ∧ kd sh (o + 2) = 11 ∧ ln sh (o + 2) = 42 := h.2 (1, 2, 11, 42) (by decide)
def TST : List (Nat × Nat × Nat × Nat) := [(0, 1, 10, 1700)]
/-- an object of kind 7: where what it holds lies -/
def TS (sh : Sh) (r : Nat → Nat → Option Nat) (o : Nat) : Prop := kd sh o = 7 ∧ (∀ q ∈ TST, r o q.1 = some (o + q.2.1) ∧ kd sh (o + q.2.1) = q.2.2.1 ∧ ln sh (o + q.2.1) = q.2.2.2)
theorem tX7_bytes {sh : Sh} {r : Nat → Nat → Option Nat} {o : Nat} (h : TS sh r o) : r o 0 = some (o + 1) ∧ kd sh (o + 1) = 10 ∧ ln sh (o + 1) = 1700 := h.2 (0, 1, 10, 1700) (by decide)
def BST : List (Nat × Nat × Nat × Nat) := [(0, 1, 11, 40), (1, 2, 11, 40), (2, 3, 11, 40), (3, 4, 11, 40), (4, 5, 11, 40)]
/-- an object of kind 0: where what it holds lies -/
def BS (sh : Sh) (r : Nat → Nat → Option Nat) (o : Nat) : Prop := kd sh o = 0 ∧ (∀ q ∈ BST, r o q.1 = some (o + q.2.1) ∧ kd sh (o + q.2.1) = q.2.2.1 ∧ ln sh (o + q.2.1) = q.2.2.2)
theorem tX0_votes {sh : Sh} {r : Nat → Nat → Option Nat} {o : Nat} (h : BS sh r o) : r o 0 = some (o + 1) ∧ kd sh (o + 1) = 11 ∧ ln sh (o + 1) = 40 := h.2 (0, 1, 11, 40) (by decide)
theorem tX0_men {sh : Sh} {r : Nat → Nat → Option Nat} {o : Nat} (h : BS sh r o) : r o 1 = some (o + 2) ∧ kd sh (o + 2) = 11 ∧ ln sh (o + 2) = 40 := h.2 (1, 2, 11, 40) (by decide)
theorem tX0_words {sh : Sh} {r : Nat → Nat → Option Nat} {o : Nat} (h : BS sh r o) : r o 2 = some (o + 3) ∧ kd sh (o + 3) = 11 ∧ ln sh (o + 3) = 40 := h.2 (2, 3, 11, 40) (by decide)
theorem tX0_toldAt {sh : Sh} {r : Nat → Nat → Option Nat} {o : Nat} (h : BS sh r o) : r o 3 = some (o + 4) ∧ kd sh (o + 4) = 11 ∧ ln sh (o + 4) = 40 := h.2 (3, 4, 11, 40) (by decide)
theorem tX0_untoldAt {sh : Sh} {r : Nat → Nat → Option Nat} {o : Nat} (h : BS sh r o) : r o 4 = some (o + 5) ∧ kd sh (o + 5) = 11 ∧ ln sh (o + 5) = 40 := h.2 (4, 5, 11, 40) (by decide)
def HST : List (Nat × Nat × Nat × Nat) := [(3, 7, 11, 6), (5, 8, 11, 6), (7, 9, 11, 4), (8, 10, 11, 4), (9, 11, 11, 4), (10, 12, 11, 4), (11, 13, 11, 4), (13, 14, 11, 4), (14, 15, 11, 4), (15, 16, 11, 4), (16, 17, 11, 4)]
/-- an object of kind 1: where what it holds lies -/
def HS (sh : Sh) (r : Nat → Nat → Option Nat) (o : Nat) : Prop := kd sh o = 1 ∧ (∀ q ∈ HST, r o q.1 = some (o + q.2.1) ∧ kd sh (o + q.2.1) = q.2.2.1 ∧ ln sh (o + q.2.1) = q.2.2.2) ∧ (r o 0 = some (o + 1) ∧ NS sh r 6 (o + 1)) ∧ (r o 1 = some (o + 3) ∧ NS sh r 6 (o + 3)) ∧ (r o 2 = some (o + 5) ∧ NS sh r 4 (o + 5)) ∧ (r o 19 = some (o + 18) ∧ US sh r (o + 18))
theorem tX1_holds {sh : Sh} {r : Nat → Nat → Option Nat} {o : Nat} (h : HS sh r o) : r o 3 = some (o + 7) ∧ kd sh (o + 7) = 11 ∧ ln sh (o + 7) = 6 := h.2.1 (3, 7, 11, 6) (by decide)
theorem tX1_strong {sh : Sh} {r : Nat → Nat → Option Nat} {o : Nat} (h : HS sh r o) : r o 5 = some (o + 8) ∧ kd sh (o + 8) = 11 ∧ ln sh (o + 8) = 6 := h.2.1 (5, 8, 11, 6) (by decide)
theorem tX1_dies {sh : Sh} {r : Nat → Nat → Option Nat} {o : Nat} (h : HS sh r o) : r o 7 = some (o + 9) ∧ kd sh (o + 9) = 11 ∧ ln sh (o + 9) = 4 := h.2.1 (7, 9, 11, 4) (by decide)
theorem tX1_worth {sh : Sh} {r : Nat → Nat → Option Nat} {o : Nat} (h : HS sh r o) : r o 8 = some (o + 10) ∧ kd sh (o + 10) = 11 ∧ ln sh (o + 10) = 4 := h.2.1 (8, 10, 11, 4) (by decide)
theorem tX1_likes {sh : Sh} {r : Nat → Nat → Option Nat} {o : Nat} (h : HS sh r o) : r o 9 = some (o + 11) ∧ kd sh (o + 11) = 11 ∧ ln sh (o + 11) = 4 := h.2.1 (9, 11, 11, 4) (by decide)
theorem tX1_dislikes {sh : Sh} {r : Nat → Nat → Option Nat} {o : Nat} (h : HS sh r o) : r o 10 = some (o + 12) ∧ kd sh (o + 12) = 11 ∧ ln sh (o + 12) = 4 := h.2.1 (10, 12, 11, 4) (by decide)
theorem tX1_wished {sh : Sh} {r : Nat → Nat → Option Nat} {o : Nat} (h : HS sh r o) : r o 11 = some (o + 13) ∧ kd sh (o + 13) = 11 ∧ ln sh (o + 13) = 4 := h.2.1 (11, 13, 11, 4) (by decide)
theorem tX1_dealMan {sh : Sh} {r : Nat → Nat → Option Nat} {o : Nat} (h : HS sh r o) : r o 13 = some (o + 14) ∧ kd sh (o + 14) = 11 ∧ ln sh (o + 14) = 4 := h.2.1 (13, 14, 11, 4) (by decide)
theorem tX1_dealMatter {sh : Sh} {r : Nat → Nat → Option Nat} {o : Nat} (h : HS sh r o) : r o 14 = some (o + 15) ∧ kd sh (o + 15) = 11 ∧ ln sh (o + 15) = 4 := h.2.1 (14, 15, 11, 4) (by decide)
theorem tX1_otherMan {sh : Sh} {r : Nat → Nat → Option Nat} {o : Nat} (h : HS sh r o) : r o 15 = some (o + 16) ∧ kd sh (o + 16) = 11 ∧ ln sh (o + 16) = 4 := h.2.1 (15, 16, 11, 4) (by decide)
theorem tX1_otherMatter {sh : Sh} {r : Nat → Nat → Option Nat} {o : Nat} (h : HS sh r o) : r o 16 = some (o + 17) ∧ kd sh (o + 17) = 11 ∧ ln sh (o + 17) = 4 := h.2.1 (16, 17, 11, 4) (by decide)
theorem tX1_chairs {sh : Sh} {r : Nat → Nat → Option Nat} {o : Nat} (h : HS sh r o) : r o 0 = some (o + 1) ∧ NS sh r 6 (o + 1) := h.2.2.1
theorem tX1_men {sh : Sh} {r : Nat → Nat → Option Nat} {o : Nat} (h : HS sh r o) : r o 1 = some (o + 3) ∧ NS sh r 6 (o + 3) := h.2.2.2.1
theorem tX1_matters {sh : Sh} {r : Nat → Nat → Option Nat} {o : Nat} (h : HS sh r o) : r o 2 = some (o + 5) ∧ NS sh r 4 (o + 5) := h.2.2.2.2.1
theorem tX1_rule {sh : Sh} {r : Nat → Nat → Option Nat} {o : Nat} (h : HS sh r o) : r o 19 = some (o + 18) ∧ US sh r (o + 18) := h.2.2.2.2.2
def SST : List (Nat × Nat × Nat × Nat) := [(6, 1, 11, 6), (7, 2, 11, 6), (8, 3, 11, 6), (9, 4, 11, 6), (10, 5, 11, 4), (11, 6, 11, 4), (12, 7, 11, 24), (13, 8, 12, 200)]
/-- an object of kind 6: where what it holds lies -/
def SS (sh : Sh) (r : Nat → Nat → Option Nat) (hh : Nat) (o : Nat) : Prop := kd sh o = 6 ∧ (∀ q ∈ SST, r o q.1 = some (o + q.2.1) ∧ kd sh (o + q.2.1) = q.2.2.1 ∧ ln sh (o + q.2.1) = q.2.2.2) ∧ (r o 0 = some hh ∧ HS sh r hh)
theorem tX6_where {sh : Sh} {r : Nat → Nat → Option Nat} {hh : Nat} {o : Nat} (h : SS sh r hh o) : r o 6 = some (o + 1) ∧ kd sh (o + 1) = 11 ∧ ln sh (o + 1) = 6 := h.2.1 (6, 1, 11, 6) (by decide)
theorem tX6_tired {sh : Sh} {r : Nat → Nat → Option Nat} {hh : Nat} {o : Nat} (h : SS sh r hh o) : r o 7 = some (o + 2) ∧ kd sh (o + 2) = 11 ∧ ln sh (o + 2) = 6 := h.2.1 (7, 2, 11, 6) (by decide)
theorem tX6_satFor {sh : Sh} {r : Nat → Nat → Option Nat} {hh : Nat} {o : Nat} (h : SS sh r hh o) : r o 8 = some (o + 3) ∧ kd sh (o + 3) = 11 ∧ ln sh (o + 3) = 6 := h.2.1 (8, 3, 11, 6) (by decide)
theorem tX6_spoken {sh : Sh} {r : Nat → Nat → Option Nat} {hh : Nat} {o : Nat} (h : SS sh r hh o) : r o 9 = some (o + 4) ∧ kd sh (o + 4) = 11 ∧ ln sh (o + 4) = 6 := h.2.1 (9, 4, 11, 6) (by decide)
theorem tX6_status {sh : Sh} {r : Nat → Nat → Option Nat} {hh : Nat} {o : Nat} (h : SS sh r hh o) : r o 10 = some (o + 5) ∧ kd sh (o + 5) = 11 ∧ ln sh (o + 5) = 4 := h.2.1 (10, 5, 11, 4) (by decide)
theorem tX6_dealEnd {sh : Sh} {r : Nat → Nat → Option Nat} {hh : Nat} {o : Nat} (h : SS sh r hh o) : r o 11 = some (o + 6) ∧ kd sh (o + 6) = 11 ∧ ln sh (o + 6) = 4 := h.2.1 (11, 6, 11, 4) (by decide)
theorem tX6_voteFacts {sh : Sh} {r : Nat → Nat → Option Nat} {hh : Nat} {o : Nat} (h : SS sh r hh o) : r o 12 = some (o + 7) ∧ kd sh (o + 7) = 11 ∧ ln sh (o + 7) = 24 := h.2.1 (12, 7, 11, 24) (by decide)
theorem tX6_seatRows {sh : Sh} {r : Nat → Nat → Option Nat} {hh : Nat} {o : Nat} (h : SS sh r hh o) : r o 13 = some (o + 8) ∧ kd sh (o + 8) = 12 ∧ ln sh (o + 8) = 200 := h.2.1 (13, 8, 12, 200) (by decide)
theorem tX6_hall {sh : Sh} {r : Nat → Nat → Option Nat} {hh : Nat} {o : Nat} (h : SS sh r hh o) : r o 0 = some hh ∧ HS sh r hh := h.2.2
def PST : List (Nat × Nat × Nat × Nat) := [(0, 1, 12, 4096), (1, 2, 12, 64), (2, 3, 13, 343), (3, 4, 11, 4), (4, 5, 11, 4), (5, 6, 11, 4), (6, 7, 11, 24), (7, 8, 11, 4)]
/-- an object of kind 3: where what it holds lies -/
def PS (sh : Sh) (r : Nat → Nat → Option Nat) (hh : Nat) (o : Nat) : Prop := kd sh o = 3 ∧ (∀ q ∈ PST, r o q.1 = some (o + q.2.1) ∧ kd sh (o + q.2.1) = q.2.2.1 ∧ ln sh (o + q.2.1) = q.2.2.2) ∧ (r o 8 = some hh ∧ HS sh r hh)
theorem tX3_reach {sh : Sh} {r : Nat → Nat → Option Nat} {hh : Nat} {o : Nat} (h : PS sh r hh o) : r o 0 = some (o + 1) ∧ kd sh (o + 1) = 12 ∧ ln sh (o + 1) = 4096 := h.2.1 (0, 1, 12, 4096) (by decide)
theorem tX3_passing {sh : Sh} {r : Nat → Nat → Option Nat} {hh : Nat} {o : Nat} (h : PS sh r hh o) : r o 1 = some (o + 2) ∧ kd sh (o + 2) = 12 ∧ ln sh (o + 2) = 64 := h.2.1 (1, 2, 12, 64) (by decide)
theorem tX3_verdicts {sh : Sh} {r : Nat → Nat → Option Nat} {hh : Nat} {o : Nat} (h : PS sh r hh o) : r o 2 = some (o + 3) ∧ kd sh (o + 3) = 13 ∧ ln sh (o + 3) = 343 := h.2.1 (2, 3, 13, 343) (by decide)
theorem tX3_goals {sh : Sh} {r : Nat → Nat → Option Nat} {hh : Nat} {o : Nat} (h : PS sh r hh o) : r o 3 = some (o + 4) ∧ kd sh (o + 4) = 11 ∧ ln sh (o + 4) = 4 := h.2.1 (3, 4, 11, 4) (by decide)
theorem tX3_goalOf {sh : Sh} {r : Nat → Nat → Option Nat} {hh : Nat} {o : Nat} (h : PS sh r hh o) : r o 4 = some (o + 5) ∧ kd sh (o + 5) = 11 ∧ ln sh (o + 5) = 4 := h.2.1 (4, 5, 11, 4) (by decide)
theorem tX3_links {sh : Sh} {r : Nat → Nat → Option Nat} {hh : Nat} {o : Nat} (h : PS sh r hh o) : r o 5 = some (o + 6) ∧ kd sh (o + 6) = 11 ∧ ln sh (o + 6) = 4 := h.2.1 (5, 6, 11, 4) (by decide)
theorem tX3_linksBy {sh : Sh} {r : Nat → Nat → Option Nat} {hh : Nat} {o : Nat} (h : PS sh r hh o) : r o 6 = some (o + 7) ∧ kd sh (o + 7) = 11 ∧ ln sh (o + 7) = 24 := h.2.1 (6, 7, 11, 24) (by decide)
theorem tX3_lasts {sh : Sh} {r : Nat → Nat → Option Nat} {hh : Nat} {o : Nat} (h : PS sh r hh o) : r o 7 = some (o + 8) ∧ kd sh (o + 8) = 11 ∧ ln sh (o + 8) = 4 := h.2.1 (7, 8, 11, 4) (by decide)
theorem tX3_hall {sh : Sh} {r : Nat → Nat → Option Nat} {hh : Nat} {o : Nat} (h : PS sh r hh o) : r o 8 = some hh ∧ HS sh r hh := h.2.2
def EST : List (Nat × Nat × Nat × Nat) := []
/-- an object of kind 4: where what it holds lies -/
def ES (sh : Sh) (r : Nat → Nat → Option Nat) (tt : Nat) (hh : Nat) (o : Nat) : Prop := kd sh o = 4 ∧ (∀ q ∈ EST, r o q.1 = some (o + q.2.1) ∧ kd sh (o + q.2.1) = q.2.2.1 ∧ ln sh (o + q.2.1) = q.2.2.2) ∧ (r o 1 = some (o + 1) ∧ NS sh r 21 (o + 1)) ∧ (r o 0 = some tt ∧ TS sh r tt) ∧ (r o 2 = some hh ∧ HS sh r hh)
theorem tX4_words {sh : Sh} {r : Nat → Nat → Option Nat} {tt : Nat} {hh : Nat} {o : Nat} (h : ES sh r tt hh o) : r o 1 = some (o + 1) ∧ NS sh r 21 (o + 1) := h.2.2.1
theorem tX4_tape {sh : Sh} {r : Nat → Nat → Option Nat} {tt : Nat} {hh : Nat} {o : Nat} (h : ES sh r tt hh o) : r o 0 = some tt ∧ TS sh r tt := h.2.2.2.1
theorem tX4_hall {sh : Sh} {r : Nat → Nat → Option Nat} {tt : Nat} {hh : Nat} {o : Nat} (h : ES sh r tt hh o) : r o 2 = some hh ∧ HS sh r hh := h.2.2.2.2
def KST : List (Nat × Nat × Nat × Nat) := [(3, 3, 14, 3), (4, 4, 13, 3)]
/-- an object of kind 8: where what it holds lies -/
def KS (sh : Sh) (r : Nat → Nat → Option Nat) (hh : Nat) (hs : Nat) (rh : Nat) (ph : Nat) (nh : Nat) (o : Nat) : Prop := kd sh o = 8 ∧ (∀ q ∈ KST, r o q.1 = some (o + q.2.1) ∧ kd sh (o + q.2.1) = q.2.2.1 ∧ ln sh (o + q.2.1) = q.2.2.2) ∧ (r o 0 = some (o + 1) ∧ TS sh r (o + 1)) ∧ (r o 1 = some (o + 53) ∧ ES sh r (o + 1) rh (o + 53)) ∧ (r o 2 = some (o + 56) ∧ SS sh r nh (o + 56)) ∧ (r o 5 = some (o + 65) ∧ PS sh r ph (o + 65)) ∧ (r o 6 = some (o + 5) ∧ BS sh r (o + 5)) ∧ (r o 7 = some hh ∧ HS sh r hh) ∧ (r o 8 = some hs ∧ HS sh r hs)
theorem tX8_boxes {sh : Sh} {r : Nat → Nat → Option Nat} {hh : Nat} {hs : Nat} {rh : Nat} {ph : Nat} {nh : Nat} {o : Nat} (h : KS sh r hh hs rh ph nh o) : r o 3 = some (o + 3) ∧ kd sh (o + 3) = 14 ∧ ln sh (o + 3) = 3 := h.2.1 (3, 3, 14, 3) (by decide)
theorem tX8_filled {sh : Sh} {r : Nat → Nat → Option Nat} {hh : Nat} {hs : Nat} {rh : Nat} {ph : Nat} {nh : Nat} {o : Nat} (h : KS sh r hh hs rh ph nh o) : r o 4 = some (o + 4) ∧ kd sh (o + 4) = 13 ∧ ln sh (o + 4) = 3 := h.2.1 (4, 4, 13, 3) (by decide)
theorem tX8_tape {sh : Sh} {r : Nat → Nat → Option Nat} {hh : Nat} {hs : Nat} {rh : Nat} {ph : Nat} {nh : Nat} {o : Nat} (h : KS sh r hh hs rh ph nh o) : r o 0 = some (o + 1) ∧ TS sh r (o + 1) := h.2.2.1
theorem tX8_reader {sh : Sh} {r : Nat → Nat → Option Nat} {hh : Nat} {hs : Nat} {rh : Nat} {ph : Nat} {nh : Nat} {o : Nat} (h : KS sh r hh hs rh ph nh o) : r o 1 = some (o + 53) ∧ ES sh r (o + 1) rh (o + 53) := h.2.2.2.1
theorem tX8_now {sh : Sh} {r : Nat → Nat → Option Nat} {hh : Nat} {hs : Nat} {rh : Nat} {ph : Nat} {nh : Nat} {o : Nat} (h : KS sh r hh hs rh ph nh o) : r o 2 = some (o + 56) ∧ SS sh r nh (o + 56) := h.2.2.2.2.1
theorem tX8_planner {sh : Sh} {r : Nat → Nat → Option Nat} {hh : Nat} {hs : Nat} {rh : Nat} {ph : Nat} {nh : Nat} {o : Nat} (h : KS sh r hh hs rh ph nh o) : r o 5 = some (o + 65) ∧ PS sh r ph (o + 65) := h.2.2.2.2.2.1
theorem tX8_book {sh : Sh} {r : Nat → Nat → Option Nat} {hh : Nat} {hs : Nat} {rh : Nat} {ph : Nat} {nh : Nat} {o : Nat} (h : KS sh r hh hs rh ph nh o) : r o 6 = some (o + 5) ∧ BS sh r (o + 5) := h.2.2.2.2.2.2.1
theorem tX8_told {sh : Sh} {r : Nat → Nat → Option Nat} {hh : Nat} {hs : Nat} {rh : Nat} {ph : Nat} {nh : Nat} {o : Nat} (h : KS sh r hh hs rh ph nh o) : r o 7 = some hh ∧ HS sh r hh := h.2.2.2.2.2.2.2.1
theorem tX8_spare {sh : Sh} {r : Nat → Nat → Option Nat} {hh : Nat} {hs : Nat} {rh : Nat} {ph : Nat} {nh : Nat} {o : Nat} (h : KS sh r hh hs rh ph nh o) : r o 8 = some hs ∧ HS sh r hs := h.2.2.2.2.2.2.2.2
theorem ur_k {sh : Sh} {r : Nat → Nat → Option Nat} {o k a b : Nat} {v : Option Nat} (h : kd sh a ≠ kd sh o) : ur r o k v a b = r a b := ur_ne (fun q => h (by rw [q.1]))
theorem NS.keep {sh : Sh} {r : Nat → Nat → Option Nat} {o k N a : Nat} {v : Option Nat} (hk : kd sh o ≠ 2) (h : NS sh r N a) : NS sh (ur r o k v) N a := by
  have h1 := h.1
  have e : ∀ b, ur r o k v a b = r a b := fun b => ur_k (sh := sh) (by rw [h1]; exact fun q => hk q.symm)
  unfold NS at h ⊢
  simp only [e]
  exact h
theorem US.keep {sh : Sh} {r : Nat → Nat → Option Nat} {o k a : Nat} {v : Option Nat} (hk : kd sh o ≠ 5) (h : US sh r a) : US sh (ur r o k v) a := by
  have h1 := h.1
  have e : ∀ b, ur r o k v a b = r a b := fun b => ur_k (sh := sh) (by rw [h1]; exact fun q => hk q.symm)
  unfold US at h ⊢
  simp only [e]
  exact h
theorem TS.keep {sh : Sh} {r : Nat → Nat → Option Nat} {o k a : Nat} {v : Option Nat} (hk : kd sh o ≠ 7) (h : TS sh r a) : TS sh (ur r o k v) a := by
  have h1 := h.1
  have e : ∀ b, ur r o k v a b = r a b := fun b => ur_k (sh := sh) (by rw [h1]; exact fun q => hk q.symm)
  unfold TS at h ⊢
  simp only [e]
  exact h
theorem BS.keep {sh : Sh} {r : Nat → Nat → Option Nat} {o k a : Nat} {v : Option Nat} (hk : kd sh o ≠ 0) (h : BS sh r a) : BS sh (ur r o k v) a := by
  have h1 := h.1
  have e : ∀ b, ur r o k v a b = r a b := fun b => ur_k (sh := sh) (by rw [h1]; exact fun q => hk q.symm)
  unfold BS at h ⊢
  simp only [e]
  exact h
theorem HS.keep {sh : Sh} {r : Nat → Nat → Option Nat} {o k a : Nat} {v : Option Nat} (hk : kd sh o ≠ 1 ∧ kd sh o ≠ 2 ∧ kd sh o ≠ 5) (h : HS sh r a) : HS sh (ur r o k v) a := by
  have h1 := h.1
  have e : ∀ b, ur r o k v a b = r a b := fun b => ur_k (sh := sh) (by rw [h1]; exact fun q => hk.1 q.symm)
  unfold HS at h ⊢
  simp only [e]
  obtain ⟨h1, h2, ⟨a1, a2⟩, ⟨b1, b2⟩, ⟨c1, c2⟩, d1, d2⟩ := h
  exact ⟨h1, h2, ⟨a1, a2.keep hk.2.1⟩, ⟨b1, b2.keep hk.2.1⟩, ⟨c1, c2.keep hk.2.1⟩, d1, d2.keep hk.2.2⟩
theorem SS.keep {sh : Sh} {r : Nat → Nat → Option Nat} {o k a hh : Nat} {v : Option Nat} (hne : a ≠ o) (hk : kd sh o ≠ 1 ∧ kd sh o ≠ 2 ∧ kd sh o ≠ 5) (h : SS sh r hh a) : SS sh (ur r o k v) hh a := by
  have e : ∀ b, ur r o k v a b = r a b := fun b => ur_ne (fun q => hne q.1)
  unfold SS at h ⊢
  simp only [e]
  obtain ⟨h1, h2, h3, h4⟩ := h
  exact ⟨h1, h2, h3, h4.keep hk⟩
theorem PS.keep {sh : Sh} {r : Nat → Nat → Option Nat} {o k a hh : Nat} {v : Option Nat} (hne : a ≠ o) (hk : kd sh o ≠ 1 ∧ kd sh o ≠ 2 ∧ kd sh o ≠ 5) (h : PS sh r hh a) : PS sh (ur r o k v) hh a := by
  have e : ∀ b, ur r o k v a b = r a b := fun b => ur_ne (fun q => hne q.1)
  unfold PS at h ⊢
  simp only [e]
  obtain ⟨h1, h2, h3, h4⟩ := h
  exact ⟨h1, h2, h3, h4.keep hk⟩
theorem ES.keep {sh : Sh} {r : Nat → Nat → Option Nat} {o k a tt hh : Nat} {v : Option Nat} (hne : a ≠ o) (hk : kd sh o ≠ 1 ∧ kd sh o ≠ 2 ∧ kd sh o ≠ 5) (hk7 : kd sh o ≠ 7) (h : ES sh r tt hh a) : ES sh (ur r o k v) tt hh a := by
  have e : ∀ b, ur r o k v a b = r a b := fun b => ur_ne (fun q => hne q.1)
  unfold ES at h ⊢
  simp only [e]
  obtain ⟨h1, h2, ⟨a1, a2⟩, ⟨b1, b2⟩, c1, c2⟩ := h
  exact ⟨h1, h2, ⟨a1, a2.keep hk.2.1⟩, ⟨b1, b2.keep hk7⟩, c1, c2.keep hk⟩
theorem SS.put {sh : Sh} {r : Nat → Nat → Option Nat} {o hh x : Nat} (h : SS sh r hh o) (hx : HS sh r x) : SS sh (ur r o 0 (some x)) x o := by
  obtain ⟨h1, h2, h3, h4⟩ := h
  have h0 : ∀ q ∈ SST, q.1 ≠ 0 := by decide
  refine ⟨h1, fun q hq => ?_, ur_at r o 0 (some x), hx.keep (by rw [h1]; decide)⟩
  rw [ur_ne (fun w => h0 q hq w.2)]
  exact h2 q hq
theorem PS.put {sh : Sh} {r : Nat → Nat → Option Nat} {o hh x : Nat} (h : PS sh r hh o) (hx : HS sh r x) : PS sh (ur r o 8 (some x)) x o := by
  obtain ⟨h1, h2, h3, h4⟩ := h
  have h0 : ∀ q ∈ PST, q.1 ≠ 8 := by decide
  refine ⟨h1, fun q hq => ?_, ur_at r o 8 (some x), hx.keep (by rw [h1]; decide)⟩
  rw [ur_ne (fun w => h0 q hq w.2)]
  exact h2 q hq
theorem ES.put {sh : Sh} {r : Nat → Nat → Option Nat} {o tt hh x : Nat} (h : ES sh r tt hh o) (hx : HS sh r x) : ES sh (ur r o 2 (some x)) tt x o := by
  obtain ⟨h1, h2, ⟨a1, a2⟩, ⟨b1, b2⟩, c1, c2⟩ := h
  refine ⟨h1, fun q hq => (by cases hq), ⟨?_, a2.keep (by rw [h1]; decide)⟩, ⟨?_, b2.keep (by rw [h1]; decide)⟩, ur_at r o 2 (some x), hx.keep (by rw [h1]; decide)⟩
  · rw [ur_ne (fun w => absurd w.2 (by decide))]; exact a1
  · rw [ur_ne (fun w => absurd w.2 (by decide))]; exact b1
theorem KS.pl {sh : Sh} {r : Nat → Nat → Option Nat} {o hh hs rh ph nh : Nat} (h : KS sh r hh hs rh ph nh o) : KS sh (ur r (o + 65) 8 (some nh)) hh hs rh nh nh o := by
  obtain ⟨h1, h2, ⟨a1, a2⟩, ⟨b1, b2⟩, ⟨c1, c2⟩, ⟨d1, d2⟩, ⟨e1, e2⟩, ⟨f1, f2⟩, g1, g2⟩ := h
  have e : ∀ b, ur r (o + 65) 8 (some nh) o b = r o b := fun b => ur_ne (fun q => by have := q.1; omega)
  have k3 := d2.1
  have k : kd sh (o + 65) ≠ 1 ∧ kd sh (o + 65) ≠ 2 ∧ kd sh (o + 65) ≠ 5 := by rw [k3]; decide
  unfold KS
  simp only [e]
  exact ⟨h1, h2, ⟨a1, a2.keep (by rw [k3]; decide)⟩, ⟨b1, b2.keep (by omega) k (by rw [k3]; decide)⟩, ⟨c1, c2.keep (by omega) k⟩, ⟨d1, d2.put (tX6_hall c2).2⟩, ⟨e1, e2.keep (by rw [k3]; decide)⟩, ⟨f1, f2.keep k⟩, g1, g2.keep k⟩
theorem KS.rd {sh : Sh} {r : Nat → Nat → Option Nat} {o hh hs rh ph nh x : Nat} (h : KS sh r hh hs rh ph nh o) (hx : HS sh r x) : KS sh (ur r (o + 53) 2 (some x)) hh hs x ph nh o := by
  obtain ⟨h1, h2, ⟨a1, a2⟩, ⟨b1, b2⟩, ⟨c1, c2⟩, ⟨d1, d2⟩, ⟨e1, e2⟩, ⟨f1, f2⟩, g1, g2⟩ := h
  have e : ∀ b, ur r (o + 53) 2 (some x) o b = r o b := fun b => ur_ne (fun q => by have := q.1; omega)
  have k3 := b2.1
  have k : kd sh (o + 53) ≠ 1 ∧ kd sh (o + 53) ≠ 2 ∧ kd sh (o + 53) ≠ 5 := by rw [k3]; decide
  unfold KS
  simp only [e]
  exact ⟨h1, h2, ⟨a1, a2.keep (by rw [k3]; decide)⟩, ⟨b1, b2.put hx⟩, ⟨c1, c2.keep (by omega) k⟩, ⟨d1, d2.keep (by omega) k⟩, ⟨e1, e2.keep (by rw [k3]; decide)⟩, ⟨f1, f2.keep k⟩, g1, g2.keep k⟩
theorem KS.nw {sh : Sh} {r : Nat → Nat → Option Nat} {o hh hs rh ph nh x : Nat} (h : KS sh r hh hs rh ph nh o) (hx : HS sh r x) : KS sh (ur r (o + 56) 0 (some x)) hh hs rh ph x o := by
  obtain ⟨h1, h2, ⟨a1, a2⟩, ⟨b1, b2⟩, ⟨c1, c2⟩, ⟨d1, d2⟩, ⟨e1, e2⟩, ⟨f1, f2⟩, g1, g2⟩ := h
  have e : ∀ b, ur r (o + 56) 0 (some x) o b = r o b := fun b => ur_ne (fun q => by have := q.1; omega)
  have k3 := c2.1
  have k : kd sh (o + 56) ≠ 1 ∧ kd sh (o + 56) ≠ 2 ∧ kd sh (o + 56) ≠ 5 := by rw [k3]; decide
  unfold KS
  simp only [e]
  exact ⟨h1, h2, ⟨a1, a2.keep (by rw [k3]; decide)⟩, ⟨b1, b2.keep (by omega) k (by rw [k3]; decide)⟩, ⟨c1, c2.put hx⟩, ⟨d1, d2.keep (by omega) k⟩, ⟨e1, e2.keep (by rw [k3]; decide)⟩, ⟨f1, f2.keep k⟩, g1, g2.keep k⟩
theorem KS.box {sh : Sh} {r : Nat → Nat → Option Nat} {o hh hs rh ph nh b k : Nat} {v : Option Nat} (h : KS sh r hh hs rh ph nh o) (k3 : kd sh b = 6) (hb : b ≠ o + 56) : KS sh (ur r b k v) hh hs rh ph nh o := by
  obtain ⟨h1, h2, ⟨a1, a2⟩, ⟨b1, b2⟩, ⟨c1, c2⟩, ⟨d1, d2⟩, ⟨e1, e2⟩, ⟨f1, f2⟩, g1, g2⟩ := h
  have e : ∀ x, ur r b k v o x = r o x := fun x => ur_k (sh := sh) (by rw [h1, k3]; decide)
  have kk : kd sh b ≠ 1 ∧ kd sh b ≠ 2 ∧ kd sh b ≠ 5 := by rw [k3]; decide
  have n1 : o + 53 ≠ b := fun q => by have z := b2.1; rw [q, k3] at z; exact absurd z (by decide)
  have n2 : o + 65 ≠ b := fun q => by have z := d2.1; rw [q, k3] at z; exact absurd z (by decide)
  unfold KS
  simp only [e]
  exact ⟨h1, h2, ⟨a1, a2.keep (by rw [k3]; decide)⟩, ⟨b1, b2.keep n1 kk (by rw [k3]; decide)⟩, ⟨c1, c2.keep (fun q => hb q.symm) kk⟩, ⟨d1, d2.keep n2 kk⟩, ⟨e1, e2.keep (by rw [k3]; decide)⟩, ⟨f1, f2.keep kk⟩, g1, g2.keep kk⟩
theorem KS.told {sh : Sh} {r : Nat → Nat → Option Nat} {o hh hs rh ph nh x : Nat} (h : KS sh r hh hs rh ph nh o) (hx : HS sh r x) : KS sh (ur r o 7 (some x)) x hs rh ph nh o := by
  obtain ⟨h1, h2, ⟨a1, a2⟩, ⟨b1, b2⟩, ⟨c1, c2⟩, ⟨d1, d2⟩, ⟨e1, e2⟩, ⟨f1, f2⟩, g1, g2⟩ := h
  have kk : kd sh o ≠ 1 ∧ kd sh o ≠ 2 ∧ kd sh o ≠ 5 := by rw [h1]; decide
  have e : ∀ b, b ≠ 7 → ur r o 7 (some x) o b = r o b := fun b hb => ur_ne (fun q => hb q.2)
  have h0 : ∀ q ∈ KST, q.1 ≠ 7 := by decide
  refine ⟨h1, fun q hq => ?_, ⟨?_, a2.keep (by rw [h1]; decide)⟩, ⟨?_, b2.keep (by omega) kk (by rw [h1]; decide)⟩, ⟨?_, c2.keep (by omega) kk⟩, ⟨?_, d2.keep (by omega) kk⟩, ⟨?_, e2.keep (by rw [h1]; decide)⟩, ⟨ur_at r o 7 (some x), hx.keep kk⟩, ?_, g2.keep kk⟩
  · rw [e _ (h0 q hq)]; exact h2 q hq
  · rw [e _ (by decide)]; exact a1
  · rw [e _ (by decide)]; exact b1
  · rw [e _ (by decide)]; exact c1
  · rw [e _ (by decide)]; exact d1
  · rw [e _ (by decide)]; exact e1
  · rw [e _ (by decide)]; exact g1
theorem KS.spare {sh : Sh} {r : Nat → Nat → Option Nat} {o hh hs rh ph nh x : Nat} (h : KS sh r hh hs rh ph nh o) (hx : HS sh r x) : KS sh (ur r o 8 (some x)) hh x rh ph nh o := by
  obtain ⟨h1, h2, ⟨a1, a2⟩, ⟨b1, b2⟩, ⟨c1, c2⟩, ⟨d1, d2⟩, ⟨e1, e2⟩, ⟨f1, f2⟩, g1, g2⟩ := h
  have kk : kd sh o ≠ 1 ∧ kd sh o ≠ 2 ∧ kd sh o ≠ 5 := by rw [h1]; decide
  have e : ∀ b, b ≠ 8 → ur r o 8 (some x) o b = r o b := fun b hb => ur_ne (fun q => hb q.2)
  have h0 : ∀ q ∈ KST, q.1 ≠ 8 := by decide
  refine ⟨h1, fun q hq => ?_, ⟨?_, a2.keep (by rw [h1]; decide)⟩, ⟨?_, b2.keep (by omega) kk (by rw [h1]; decide)⟩, ⟨?_, c2.keep (by omega) kk⟩, ⟨?_, d2.keep (by omega) kk⟩, ⟨?_, e2.keep (by rw [h1]; decide)⟩, ⟨?_, f2.keep kk⟩, ur_at r o 8 (some x), hx.keep kk⟩
  · rw [e _ (h0 q hq)]; exact h2 q hq
  · rw [e _ (by decide)]; exact a1
  · rw [e _ (by decide)]; exact b1
  · rw [e _ (by decide)]; exact c1
  · rw [e _ (by decide)]; exact d1
  · rw [e _ (by decide)]; exact e1
  · rw [e _ (by decide)]; exact f1
def fJ6_bitCount_0f7a4 (h : HI) (a0 : Int32) : Option (Int32 × HI) := some (((((((((a0 - (((a0.toUInt32 >>> ((1 : Int32).toUInt32 &&& Int32.toUInt32 31)).toInt32) &&& (1431655765 : Int32))) &&& (858993459 : Int32)) + ((((a0 - (((a0.toUInt32 >>> ((1 : Int32).toUInt32 &&& Int32.toUInt32 31)).toInt32) &&& (1431655765 : Int32))).toUInt32 >>> ((2 : Int32).toUInt32 &&& Int32.toUInt32 31)).toInt32) &&& (858993459 : Int32))) + (((((a0 - (((a0.toUInt32 >>> ((1 : Int32).toUInt32 &&& Int32.toUInt32 31)).toInt32) &&& (1431655765 : Int32))) &&& (858993459 : Int32)) + ((((a0 - (((a0.toUInt32 >>> ((1 : Int32).toUInt32 &&& Int32.toUInt32 31)).toInt32) &&& (1431655765 : Int32))).toUInt32 >>> ((2 : Int32).toUInt32 &&& Int32.toUInt32 31)).toInt32) &&& (858993459 : Int32))).toUInt32 >>> ((4 : Int32).toUInt32 &&& Int32.toUInt32 31)).toInt32)) &&& (252645135 : Int32)) + (((((((a0 - (((a0.toUInt32 >>> ((1 : Int32).toUInt32 &&& Int32.toUInt32 31)).toInt32) &&& (1431655765 : Int32))) &&& (858993459 : Int32)) + ((((a0 - (((a0.toUInt32 >>> ((1 : Int32).toUInt32 &&& Int32.toUInt32 31)).toInt32) &&& (1431655765 : Int32))).toUInt32 >>> ((2 : Int32).toUInt32 &&& Int32.toUInt32 31)).toInt32) &&& (858993459 : Int32))) + (((((a0 - (((a0.toUInt32 >>> ((1 : Int32).toUInt32 &&& Int32.toUInt32 31)).toInt32) &&& (1431655765 : Int32))) &&& (858993459 : Int32)) + ((((a0 - (((a0.toUInt32 >>> ((1 : Int32).toUInt32 &&& Int32.toUInt32 31)).toInt32) &&& (1431655765 : Int32))).toUInt32 >>> ((2 : Int32).toUInt32 &&& Int32.toUInt32 31)).toInt32) &&& (858993459 : Int32))).toUInt32 >>> ((4 : Int32).toUInt32 &&& Int32.toUInt32 31)).toInt32)) &&& (252645135 : Int32)).toUInt32 >>> ((8 : Int32).toUInt32 &&& Int32.toUInt32 31)).toInt32)) + ((((((((a0 - (((a0.toUInt32 >>> ((1 : Int32).toUInt32 &&& Int32.toUInt32 31)).toInt32) &&& (1431655765 : Int32))) &&& (858993459 : Int32)) + ((((a0 - (((a0.toUInt32 >>> ((1 : Int32).toUInt32 &&& Int32.toUInt32 31)).toInt32) &&& (1431655765 : Int32))).toUInt32 >>> ((2 : Int32).toUInt32 &&& Int32.toUInt32 31)).toInt32) &&& (858993459 : Int32))) + (((((a0 - (((a0.toUInt32 >>> ((1 : Int32).toUInt32 &&& Int32.toUInt32 31)).toInt32) &&& (1431655765 : Int32))) &&& (858993459 : Int32)) + ((((a0 - (((a0.toUInt32 >>> ((1 : Int32).toUInt32 &&& Int32.toUInt32 31)).toInt32) &&& (1431655765 : Int32))).toUInt32 >>> ((2 : Int32).toUInt32 &&& Int32.toUInt32 31)).toInt32) &&& (858993459 : Int32))).toUInt32 >>> ((4 : Int32).toUInt32 &&& Int32.toUInt32 31)).toInt32)) &&& (252645135 : Int32)) + (((((((a0 - (((a0.toUInt32 >>> ((1 : Int32).toUInt32 &&& Int32.toUInt32 31)).toInt32) &&& (1431655765 : Int32))) &&& (858993459 : Int32)) + ((((a0 - (((a0.toUInt32 >>> ((1 : Int32).toUInt32 &&& Int32.toUInt32 31)).toInt32) &&& (1431655765 : Int32))).toUInt32 >>> ((2 : Int32).toUInt32 &&& Int32.toUInt32 31)).toInt32) &&& (858993459 : Int32))) + (((((a0 - (((a0.toUInt32 >>> ((1 : Int32).toUInt32 &&& Int32.toUInt32 31)).toInt32) &&& (1431655765 : Int32))) &&& (858993459 : Int32)) + ((((a0 - (((a0.toUInt32 >>> ((1 : Int32).toUInt32 &&& Int32.toUInt32 31)).toInt32) &&& (1431655765 : Int32))).toUInt32 >>> ((2 : Int32).toUInt32 &&& Int32.toUInt32 31)).toInt32) &&& (858993459 : Int32))).toUInt32 >>> ((4 : Int32).toUInt32 &&& Int32.toUInt32 31)).toInt32)) &&& (252645135 : Int32)).toUInt32 >>> ((8 : Int32).toUInt32 &&& Int32.toUInt32 31)).toInt32)).toUInt32 >>> ((16 : Int32).toUInt32 &&& Int32.toUInt32 31)).toInt32)) &&& (63 : Int32)), h)
set_option maxRecDepth 100000 in
set_option maxHeartbeats 4000000 in
theorem ccJ6_bitCount_0f7a4 {l : Launch} {sh : Sh} {adr : Nat → Nat} {r : Nat → Nat → Option Nat} {h : HI} {a0 : Int32} {p : Int32 × HI} (H : fJ6_bitCount_0f7a4 h a0 = some p) : CC l yJ6_bitCount_0f7a4 cJ6_bitCount_0f7a4 1 (some .int) 0 [.int a0] sh adr (mk h r) (fun v τ => v = some (.int p.1) ∧ τ = mk p.2 r) := by
  refine CC.of (by decide) (Nat.le_of_ble_eq_true rfl) 0 [.int a0] rfl (fun X _ C E hZ => ?_)
  rw [fJ6_bitCount_0f7a4] at H
  refine ww_iload_n C dJ6_bitCount_0f7a4_0 0 rfl rfl ?_
  refine ww_iload_n C dJ6_bitCount_0f7a4_1 0 rfl rfl ?_
  refine ww_iconst (v := (1 : Int32)) C dJ6_bitCount_0f7a4_2 (by decide) ?_
  refine ww_iushr C dJ6_bitCount_0f7a4_3 ?_
  refine ww_ldcw (v := (1431655765 : Int32)) C dJ6_bitCount_0f7a4_4 kc_J6_265 ?_
  refine ww_iand C dJ6_bitCount_0f7a4_7 ?_
  refine ww_isub C dJ6_bitCount_0f7a4_8 ?_
  refine ww_istore_n C dJ6_bitCount_0f7a4_9 0 rfl (by decide) rfl [.int (a0 - (((a0.toUInt32 >>> ((1 : Int32).toUInt32 &&& Int32.toUInt32 31)).toInt32) &&& (1431655765 : Int32)))] rfl ?_
  refine ww_iload_n C dJ6_bitCount_0f7a4_10 0 rfl rfl ?_
  refine ww_ldcw (v := (858993459 : Int32)) C dJ6_bitCount_0f7a4_11 kc_J6_266 ?_
  refine ww_iand C dJ6_bitCount_0f7a4_14 ?_
  refine ww_iload_n C dJ6_bitCount_0f7a4_15 0 rfl rfl ?_
  refine ww_iconst (v := (2 : Int32)) C dJ6_bitCount_0f7a4_16 (by decide) ?_
  refine ww_iushr C dJ6_bitCount_0f7a4_17 ?_
  refine ww_ldcw (v := (858993459 : Int32)) C dJ6_bitCount_0f7a4_18 kc_J6_266 ?_
  refine ww_iand C dJ6_bitCount_0f7a4_21 ?_
  refine ww_iadd C dJ6_bitCount_0f7a4_22 ?_
  refine ww_istore_n C dJ6_bitCount_0f7a4_23 0 rfl (by decide) rfl [.int (((a0 - (((a0.toUInt32 >>> ((1 : Int32).toUInt32 &&& Int32.toUInt32 31)).toInt32) &&& (1431655765 : Int32))) &&& (858993459 : Int32)) + ((((a0 - (((a0.toUInt32 >>> ((1 : Int32).toUInt32 &&& Int32.toUInt32 31)).toInt32) &&& (1431655765 : Int32))).toUInt32 >>> ((2 : Int32).toUInt32 &&& Int32.toUInt32 31)).toInt32) &&& (858993459 : Int32)))] rfl ?_
  refine ww_iload_n C dJ6_bitCount_0f7a4_24 0 rfl rfl ?_
  refine ww_iload_n C dJ6_bitCount_0f7a4_25 0 rfl rfl ?_
  refine ww_iconst (v := (4 : Int32)) C dJ6_bitCount_0f7a4_26 (by decide) ?_
  refine ww_iushr C dJ6_bitCount_0f7a4_27 ?_
  refine ww_iadd C dJ6_bitCount_0f7a4_28 ?_
  refine ww_ldcw (v := (252645135 : Int32)) C dJ6_bitCount_0f7a4_29 kc_J6_267 ?_
  refine ww_iand C dJ6_bitCount_0f7a4_32 ?_
  refine ww_istore_n C dJ6_bitCount_0f7a4_33 0 rfl (by decide) rfl [.int (((((a0 - (((a0.toUInt32 >>> ((1 : Int32).toUInt32 &&& Int32.toUInt32 31)).toInt32) &&& (1431655765 : Int32))) &&& (858993459 : Int32)) + ((((a0 - (((a0.toUInt32 >>> ((1 : Int32).toUInt32 &&& Int32.toUInt32 31)).toInt32) &&& (1431655765 : Int32))).toUInt32 >>> ((2 : Int32).toUInt32 &&& Int32.toUInt32 31)).toInt32) &&& (858993459 : Int32))) + (((((a0 - (((a0.toUInt32 >>> ((1 : Int32).toUInt32 &&& Int32.toUInt32 31)).toInt32) &&& (1431655765 : Int32))) &&& (858993459 : Int32)) + ((((a0 - (((a0.toUInt32 >>> ((1 : Int32).toUInt32 &&& Int32.toUInt32 31)).toInt32) &&& (1431655765 : Int32))).toUInt32 >>> ((2 : Int32).toUInt32 &&& Int32.toUInt32 31)).toInt32) &&& (858993459 : Int32))).toUInt32 >>> ((4 : Int32).toUInt32 &&& Int32.toUInt32 31)).toInt32)) &&& (252645135 : Int32))] rfl ?_
  refine ww_iload_n C dJ6_bitCount_0f7a4_34 0 rfl rfl ?_
  refine ww_iload_n C dJ6_bitCount_0f7a4_35 0 rfl rfl ?_
  refine ww_bipush (v := (8 : Int32)) C dJ6_bitCount_0f7a4_36 (by decide) ?_
  refine ww_iushr C dJ6_bitCount_0f7a4_38 ?_
  refine ww_iadd C dJ6_bitCount_0f7a4_39 ?_
  refine ww_istore_n C dJ6_bitCount_0f7a4_40 0 rfl (by decide) rfl [.int ((((((a0 - (((a0.toUInt32 >>> ((1 : Int32).toUInt32 &&& Int32.toUInt32 31)).toInt32) &&& (1431655765 : Int32))) &&& (858993459 : Int32)) + ((((a0 - (((a0.toUInt32 >>> ((1 : Int32).toUInt32 &&& Int32.toUInt32 31)).toInt32) &&& (1431655765 : Int32))).toUInt32 >>> ((2 : Int32).toUInt32 &&& Int32.toUInt32 31)).toInt32) &&& (858993459 : Int32))) + (((((a0 - (((a0.toUInt32 >>> ((1 : Int32).toUInt32 &&& Int32.toUInt32 31)).toInt32) &&& (1431655765 : Int32))) &&& (858993459 : Int32)) + ((((a0 - (((a0.toUInt32 >>> ((1 : Int32).toUInt32 &&& Int32.toUInt32 31)).toInt32) &&& (1431655765 : Int32))).toUInt32 >>> ((2 : Int32).toUInt32 &&& Int32.toUInt32 31)).toInt32) &&& (858993459 : Int32))).toUInt32 >>> ((4 : Int32).toUInt32 &&& Int32.toUInt32 31)).toInt32)) &&& (252645135 : Int32)) + (((((((a0 - (((a0.toUInt32 >>> ((1 : Int32).toUInt32 &&& Int32.toUInt32 31)).toInt32) &&& (1431655765 : Int32))) &&& (858993459 : Int32)) + ((((a0 - (((a0.toUInt32 >>> ((1 : Int32).toUInt32 &&& Int32.toUInt32 31)).toInt32) &&& (1431655765 : Int32))).toUInt32 >>> ((2 : Int32).toUInt32 &&& Int32.toUInt32 31)).toInt32) &&& (858993459 : Int32))) + (((((a0 - (((a0.toUInt32 >>> ((1 : Int32).toUInt32 &&& Int32.toUInt32 31)).toInt32) &&& (1431655765 : Int32))) &&& (858993459 : Int32)) + ((((a0 - (((a0.toUInt32 >>> ((1 : Int32).toUInt32 &&& Int32.toUInt32 31)).toInt32) &&& (1431655765 : Int32))).toUInt32 >>> ((2 : Int32).toUInt32 &&& Int32.toUInt32 31)).toInt32) &&& (858993459 : Int32))).toUInt32 >>> ((4 : Int32).toUInt32 &&& Int32.toUInt32 31)).toInt32)) &&& (252645135 : Int32)).toUInt32 >>> ((8 : Int32).toUInt32 &&& Int32.toUInt32 31)).toInt32))] rfl ?_
  refine ww_iload_n C dJ6_bitCount_0f7a4_41 0 rfl rfl ?_
  refine ww_iload_n C dJ6_bitCount_0f7a4_42 0 rfl rfl ?_
  refine ww_bipush (v := (16 : Int32)) C dJ6_bitCount_0f7a4_43 (by decide) ?_
  refine ww_iushr C dJ6_bitCount_0f7a4_45 ?_
  refine ww_iadd C dJ6_bitCount_0f7a4_46 ?_
  refine ww_istore_n C dJ6_bitCount_0f7a4_47 0 rfl (by decide) rfl [.int (((((((a0 - (((a0.toUInt32 >>> ((1 : Int32).toUInt32 &&& Int32.toUInt32 31)).toInt32) &&& (1431655765 : Int32))) &&& (858993459 : Int32)) + ((((a0 - (((a0.toUInt32 >>> ((1 : Int32).toUInt32 &&& Int32.toUInt32 31)).toInt32) &&& (1431655765 : Int32))).toUInt32 >>> ((2 : Int32).toUInt32 &&& Int32.toUInt32 31)).toInt32) &&& (858993459 : Int32))) + (((((a0 - (((a0.toUInt32 >>> ((1 : Int32).toUInt32 &&& Int32.toUInt32 31)).toInt32) &&& (1431655765 : Int32))) &&& (858993459 : Int32)) + ((((a0 - (((a0.toUInt32 >>> ((1 : Int32).toUInt32 &&& Int32.toUInt32 31)).toInt32) &&& (1431655765 : Int32))).toUInt32 >>> ((2 : Int32).toUInt32 &&& Int32.toUInt32 31)).toInt32) &&& (858993459 : Int32))).toUInt32 >>> ((4 : Int32).toUInt32 &&& Int32.toUInt32 31)).toInt32)) &&& (252645135 : Int32)) + (((((((a0 - (((a0.toUInt32 >>> ((1 : Int32).toUInt32 &&& Int32.toUInt32 31)).toInt32) &&& (1431655765 : Int32))) &&& (858993459 : Int32)) + ((((a0 - (((a0.toUInt32 >>> ((1 : Int32).toUInt32 &&& Int32.toUInt32 31)).toInt32) &&& (1431655765 : Int32))).toUInt32 >>> ((2 : Int32).toUInt32 &&& Int32.toUInt32 31)).toInt32) &&& (858993459 : Int32))) + (((((a0 - (((a0.toUInt32 >>> ((1 : Int32).toUInt32 &&& Int32.toUInt32 31)).toInt32) &&& (1431655765 : Int32))) &&& (858993459 : Int32)) + ((((a0 - (((a0.toUInt32 >>> ((1 : Int32).toUInt32 &&& Int32.toUInt32 31)).toInt32) &&& (1431655765 : Int32))).toUInt32 >>> ((2 : Int32).toUInt32 &&& Int32.toUInt32 31)).toInt32) &&& (858993459 : Int32))).toUInt32 >>> ((4 : Int32).toUInt32 &&& Int32.toUInt32 31)).toInt32)) &&& (252645135 : Int32)).toUInt32 >>> ((8 : Int32).toUInt32 &&& Int32.toUInt32 31)).toInt32)) + ((((((((a0 - (((a0.toUInt32 >>> ((1 : Int32).toUInt32 &&& Int32.toUInt32 31)).toInt32) &&& (1431655765 : Int32))) &&& (858993459 : Int32)) + ((((a0 - (((a0.toUInt32 >>> ((1 : Int32).toUInt32 &&& Int32.toUInt32 31)).toInt32) &&& (1431655765 : Int32))).toUInt32 >>> ((2 : Int32).toUInt32 &&& Int32.toUInt32 31)).toInt32) &&& (858993459 : Int32))) + (((((a0 - (((a0.toUInt32 >>> ((1 : Int32).toUInt32 &&& Int32.toUInt32 31)).toInt32) &&& (1431655765 : Int32))) &&& (858993459 : Int32)) + ((((a0 - (((a0.toUInt32 >>> ((1 : Int32).toUInt32 &&& Int32.toUInt32 31)).toInt32) &&& (1431655765 : Int32))).toUInt32 >>> ((2 : Int32).toUInt32 &&& Int32.toUInt32 31)).toInt32) &&& (858993459 : Int32))).toUInt32 >>> ((4 : Int32).toUInt32 &&& Int32.toUInt32 31)).toInt32)) &&& (252645135 : Int32)) + (((((((a0 - (((a0.toUInt32 >>> ((1 : Int32).toUInt32 &&& Int32.toUInt32 31)).toInt32) &&& (1431655765 : Int32))) &&& (858993459 : Int32)) + ((((a0 - (((a0.toUInt32 >>> ((1 : Int32).toUInt32 &&& Int32.toUInt32 31)).toInt32) &&& (1431655765 : Int32))).toUInt32 >>> ((2 : Int32).toUInt32 &&& Int32.toUInt32 31)).toInt32) &&& (858993459 : Int32))) + (((((a0 - (((a0.toUInt32 >>> ((1 : Int32).toUInt32 &&& Int32.toUInt32 31)).toInt32) &&& (1431655765 : Int32))) &&& (858993459 : Int32)) + ((((a0 - (((a0.toUInt32 >>> ((1 : Int32).toUInt32 &&& Int32.toUInt32 31)).toInt32) &&& (1431655765 : Int32))).toUInt32 >>> ((2 : Int32).toUInt32 &&& Int32.toUInt32 31)).toInt32) &&& (858993459 : Int32))).toUInt32 >>> ((4 : Int32).toUInt32 &&& Int32.toUInt32 31)).toInt32)) &&& (252645135 : Int32)).toUInt32 >>> ((8 : Int32).toUInt32 &&& Int32.toUInt32 31)).toInt32)).toUInt32 >>> ((16 : Int32).toUInt32 &&& Int32.toUInt32 31)).toInt32))] rfl ?_
  refine ww_iload_n C dJ6_bitCount_0f7a4_48 0 rfl rfl ?_
  refine ww_bipush (v := (63 : Int32)) C dJ6_bitCount_0f7a4_49 (by decide) ?_
  refine ww_iand C dJ6_bitCount_0f7a4_51 ?_
  cases H
  exact ww_iret C E dJ6_bitCount_0f7a4_52 ⟨rfl, rfl⟩
def fJ7_fill_53178_5 (a0 : Nat) (a0N : Nat) (k : HI → Option (HI)) : Nat → HI → Int32 → Int32 → Int32 → Option (HI)
  | 0, _, _, _, _ => none
  | n + 1, h, v1, v2, v3 => (if v3 ≤ v2 then k h else (if inB v2 a0N then fJ7_fill_53178_5 a0 a0N k n (uI h a0 (v2.toNatClampNeg) v1) v1 (v2 + (1 : Int32)) v3 else none))
set_option maxRecDepth 100000 in
set_option maxHeartbeats 4000000 in
theorem cJ7_fill_53178_5 {X : CT} {sh : Sh} {adr : Nat → Nat} {r : Nat → Nat → Option Nat} {a0 : Nat} {a0N : Nat} {p : HI} (hA0 : kd sh a0 = 11 ∧ ln sh a0 = a0N) (C : CX X yJ7_fill_53178.cls cJ7_fill_53178 4 0) (hZ : SZX X adr) (E : RX X none sh adr (fun v τ => v = none ∧ τ = mk p r)) {k : HI → Option (HI)} (hk : ∀ (h : HI), k h = some p → WW X (sh, adr, 0, 0) 20 [.retAddr 0, .retAddr 0, .retAddr 0, .retAddr 0] [] (mk h r)) : ∀ (n : Nat) (h : HI) (v1 : Int32) (v2 : Int32) (v3 : Int32), fJ7_fill_53178_5 a0 a0N k n h v1 v2 v3 = some p → WW X (sh, adr, 0, 0) 5 [.ref a0, .int v1, .int v2, .int v3] [] (mk h r) := by
  intro n
  induction n with
  | zero =>
    intro h v1 v2 v3 H
    rw [fJ7_fill_53178_5] at H
    cases H
  | succ n ih =>
    intro h v1 v2 v3 H
    rw [fJ7_fill_53178_5] at H
    refine ww_iload_n C dJ7_fill_53178_5 2 rfl rfl ?_
    refine ww_iload_n C dJ7_fill_53178_6 3 rfl rfl ?_
    refine ww_icmp_ge C dJ7_fill_53178_7 20 rfl (fun hc => ?_) (fun hc => ?_)
    · rw [if_pos hc] at H
      exact ww_drop [.retAddr 0, .retAddr 0, .retAddr 0, .retAddr 0] (sl_d (sl_d (sl_d (sl_d sl_n)))) (hk h H)
    · rw [if_neg hc] at H
      refine ww_aload_n C dJ7_fill_53178_10 0 rfl rfl ?_
      refine ww_iload_n C dJ7_fill_53178_11 2 rfl rfl ?_
      refine ww_iload_n C dJ7_fill_53178_12 1 rfl rfl ?_
      obtain ⟨hg, H⟩ := gd_of H
      refine wk_iastore C dJ7_fill_53178_13 hA0.1 (vp_of hg hA0.2) (v2.toNatClampNeg) rfl ?_
      refine ww_iinc (v := (v2 + (1 : Int32))) C dJ7_fill_53178_14 rfl rfl (by decide) rfl [.ref a0, .int v1, .int (v2 + (1 : Int32)), .int v3] rfl ?_
      refine ww_goto C dJ7_fill_53178_17 5 rfl ?_
      exact ih (uI h a0 (v2.toNatClampNeg) v1) v1 (v2 + (1 : Int32)) v3 H
def fJ7_fill_53178 (a0 : Nat) (a0N : Nat) (h : HI) (a1 : Int32) : Option (HI) := fJ7_fill_53178_5 a0 a0N (fun h2 => some h2) FU h a1 (0 : Int32) (nI a0N)
set_option maxRecDepth 100000 in
set_option maxHeartbeats 4000000 in
theorem ccJ7_fill_53178 {l : Launch} {sh : Sh} {adr : Nat → Nat} {r : Nat → Nat → Option Nat} {a0 : Nat} {a0N : Nat} (hA0 : kd sh a0 = 11 ∧ ln sh a0 = a0N) {h : HI} {a1 : Int32} {p : HI} (H : fJ7_fill_53178 a0 a0N h a1 = some p) : CC l yJ7_fill_53178 cJ7_fill_53178 4 none 0 [.ref a0, .int a1] sh adr (mk h r) (fun v τ => v = none ∧ τ = mk p r) := by
  refine CC.of (by decide) (Nat.le_of_ble_eq_true rfl) 2 [.ref a0, .int a1, .retAddr 0, .retAddr 0] rfl (fun X _ C E hZ => ?_)
  rw [fJ7_fill_53178] at H
  refine ww_iconst (v := (0 : Int32)) C dJ7_fill_53178_0 (by decide) ?_
  refine ww_istore_n C dJ7_fill_53178_1 2 rfl (by decide) rfl [.ref a0, .int a1, .int (0 : Int32), .retAddr 0] rfl ?_
  refine ww_aload_n C dJ7_fill_53178_2 0 rfl rfl ?_
  refine wk_alenI C dJ7_fill_53178_3 hA0.1 hA0.2 ?_
  refine ww_istore_n C dJ7_fill_53178_4 3 rfl (by decide) rfl [.ref a0, .int a1, .int (0 : Int32), .int (nI a0N)] rfl ?_
  refine cJ7_fill_53178_5 hA0 C hZ E (fun h2 H => ?_) FU h a1 (0 : Int32) (nI a0N) H
  cases H
  exact ww_vret C E dJ7_fill_53178_20 ⟨rfl, rfl⟩
def fX5_clear (o : Nat) (h : HI) : Option (HI) := some (uI (uI (uI (uI (uI (uI h o 4 (0 : Int32)) o 3 (0 : Int32)) (o + 1) 0 (10144 : Int32)) (o + 1) 1 (10145 : Int32)) (o + 1) 2 (10062 : Int32)) o 2 (3 : Int32))
set_option maxRecDepth 100000 in
set_option maxHeartbeats 4000000 in
theorem ccX5_clear {l : Launch} {sh : Sh} {adr : Nat → Nat} {r : Nat → Nat → Option Nat} {o : Nat} (hS : US sh r o) {h : HI}  {p : HI} (H : fX5_clear o h = some p) : CC l yX5_clear cX5_clear 1 none 0 [.ref o] sh adr (mk h r) (fun v τ => v = none ∧ τ = mk p r) := by
  refine CC.of (by decide) (Nat.le_of_ble_eq_true rfl) 0 [.ref o] rfl (fun X _ C E hZ => ?_)
  rw [fX5_clear] at H
  refine ww_aload_n C dX5_clear_0 0 rfl rfl ?_
  refine ww_iconst (v := (0 : Int32)) C dX5_clear_1 (by decide) ?_
  refine wk_putZ C dX5_clear_2 fl_X5_21 hS.1 rfl rfl (Or.inl rfl) ?_
  refine ww_aload_n C dX5_clear_5 0 rfl rfl ?_
  refine ww_iconst (v := (0 : Int32)) C dX5_clear_6 (by decide) ?_
  refine wk_putI C dX5_clear_7 fl_X5_25 hS.1 rfl rfl ?_
  refine ww_aload_n C dX5_clear_10 0 rfl rfl ?_
  refine wk_getR C dX5_clear_11 fl_X5_11 hS.1 rfl (tX5_steps hS).1 ?_
  refine ww_iconst (v := (0 : Int32)) C dX5_clear_14 (by decide) ?_
  refine ww_sipush (v := (10144 : Int32)) C dX5_clear_15 (by decide) ?_
  refine wk_iastore C dX5_clear_18 (tX5_steps hS).2.1 (vp_of (by decide : inB (0 : Int32) 400) (tX5_steps hS).2.2) 0 rfl ?_
  refine ww_aload_n C dX5_clear_19 0 rfl rfl ?_
  refine wk_getR C dX5_clear_20 fl_X5_11 hS.1 rfl (tX5_steps hS).1 ?_
  refine ww_iconst (v := (1 : Int32)) C dX5_clear_23 (by decide) ?_
  refine ww_sipush (v := (10145 : Int32)) C dX5_clear_24 (by decide) ?_
  refine wk_iastore C dX5_clear_27 (tX5_steps hS).2.1 (vp_of (by decide : inB (1 : Int32) 400) (tX5_steps hS).2.2) 1 rfl ?_
  refine ww_aload_n C dX5_clear_28 0 rfl rfl ?_
  refine wk_getR C dX5_clear_29 fl_X5_11 hS.1 rfl (tX5_steps hS).1 ?_
  refine ww_iconst (v := (2 : Int32)) C dX5_clear_32 (by decide) ?_
  refine ww_sipush (v := (10062 : Int32)) C dX5_clear_33 (by decide) ?_
  refine wk_iastore C dX5_clear_36 (tX5_steps hS).2.1 (vp_of (by decide : inB (2 : Int32) 400) (tX5_steps hS).2.2) 2 rfl ?_
  refine ww_aload_n C dX5_clear_37 0 rfl rfl ?_
  refine ww_iconst (v := (3 : Int32)) C dX5_clear_38 (by decide) ?_
  refine wk_putI C dX5_clear_39 fl_X5_31 hS.1 rfl rfl ?_
  cases H
  exact ww_vret C E dX5_clear_42 ⟨rfl, rfl⟩
def fX1_clear (o : Nat) (h : HI) : Option (HI) := ((fX5_clear (o + 18) (uI (uI (uI (uI (uI (uI (uI (uI h (o + 1) 1 (0 : Int32)) (o + 3) 1 (0 : Int32)) (o + 5) 1 (0 : Int32)) o 4 (0 : Int32)) o 6 (0 : Int32)) o 12 (0 : Int32)) o 17 (0 : Int32)) o 18 (0 : Int32))).bind fun h1 => some h1)
set_option maxRecDepth 100000 in
set_option maxHeartbeats 4000000 in
theorem ccX1_clear {l : Launch} {sh : Sh} {adr : Nat → Nat} {r : Nat → Nat → Option Nat} {o : Nat} (hS : HS sh r o) {h : HI}  {p : HI} (H : fX1_clear o h = some p) : CC l yX1_clear cX1_clear 1 none 1 [.ref o] sh adr (mk h r) (fun v τ => v = none ∧ τ = mk p r) := by
  refine CC.of (by decide) (Nat.le_of_ble_eq_true rfl) 0 [.ref o] rfl (fun X _ C E hZ => ?_)
  rw [fX1_clear] at H
  refine ww_aload_n C dX1_clear_0 0 rfl rfl ?_
  refine wk_getA C dX1_clear_1 fl_X1_14 hS.1 rfl (tX1_chairs hS).1 ?_
  refine ww_iconst (v := (0 : Int32)) C dX1_clear_4 (by decide) ?_
  refine wk_putI C dX1_clear_5 fl_X1_67 (tX1_chairs hS).2.1 rfl rfl ?_
  refine ww_aload_n C dX1_clear_8 0 rfl rfl ?_
  refine wk_getA C dX1_clear_9 fl_X1_20 hS.1 rfl (tX1_men hS).1 ?_
  refine ww_iconst (v := (0 : Int32)) C dX1_clear_12 (by decide) ?_
  refine wk_putI C dX1_clear_13 fl_X1_67 (tX1_men hS).2.1 rfl rfl ?_
  refine ww_aload_n C dX1_clear_16 0 rfl rfl ?_
  refine wk_getA C dX1_clear_17 fl_X1_23 hS.1 rfl (tX1_matters hS).1 ?_
  refine ww_iconst (v := (0 : Int32)) C dX1_clear_20 (by decide) ?_
  refine wk_putI C dX1_clear_21 fl_X1_67 (tX1_matters hS).2.1 rfl rfl ?_
  refine ww_aload_n C dX1_clear_24 0 rfl rfl ?_
  refine ww_iconst (v := (0 : Int32)) C dX1_clear_25 (by decide) ?_
  refine wk_putI C dX1_clear_26 fl_X1_71 hS.1 rfl rfl ?_
  refine ww_aload_n C dX1_clear_29 0 rfl rfl ?_
  refine ww_iconst (v := (0 : Int32)) C dX1_clear_30 (by decide) ?_
  refine wk_putI C dX1_clear_31 fl_X1_74 hS.1 rfl rfl ?_
  refine ww_aload_n C dX1_clear_34 0 rfl rfl ?_
  refine ww_iconst (v := (0 : Int32)) C dX1_clear_35 (by decide) ?_
  refine wk_putI C dX1_clear_36 fl_X1_77 hS.1 rfl rfl ?_
  refine ww_aload_n C dX1_clear_39 0 rfl rfl ?_
  refine ww_iconst (v := (0 : Int32)) C dX1_clear_40 (by decide) ?_
  refine wk_putI C dX1_clear_41 fl_X1_80 hS.1 rfl rfl ?_
  refine ww_aload_n C dX1_clear_44 0 rfl rfl ?_
  refine ww_iconst (v := (0 : Int32)) C dX1_clear_45 (by decide) ?_
  refine wk_putI C dX1_clear_46 fl_X1_83 hS.1 rfl rfl ?_
  refine ww_aload_n C dX1_clear_49 0 rfl rfl ?_
  refine wk_getA C dX1_clear_50 fl_X1_63 hS.1 rfl (tX1_rule hS).1 ?_
  obtain ⟨h1, hc1, H⟩ := bd_of H
  refine ww_callV C hZ dX1_clear_53 cw_X1_86 (ccX5_clear (tX1_rule hS).2 hc1) (tX1_rule hS).2.1 ⟨by decide, rfl⟩ (by decide) rfl rfl (Nat.le_of_ble_eq_true rfl) ⟨Nat.zero_le _, Nat.zero_le _⟩ (fun v τ hp => ?_)
  obtain ⟨rfl, rfl⟩ := hp
  change WW X _ 56 [.ref o] [] _
  cases H
  exact ww_vret C E dX1_clear_56 ⟨rfl, rfl⟩
def fX2_isFull (o : Nat) (N : Nat) (h : HI) : Option (Int32 × HI) := (if (h.1 o 1) < (nI N) then some ((0 : Int32), h) else some ((1 : Int32), h))
set_option maxRecDepth 100000 in
set_option maxHeartbeats 4000000 in
theorem ccX2_isFull {l : Launch} {sh : Sh} {adr : Nat → Nat} {r : Nat → Nat → Option Nat} {o : Nat} {N : Nat} (hS : NS sh r N o) {h : HI}  {p : Int32 × HI} (H : fX2_isFull o N h = some p) : CC l yX2_isFull cX2_isFull 1 (some .boolean) 0 [.ref o] sh adr (mk h r) (fun v τ => v = some (.int p.1) ∧ τ = mk p.2 r) := by
  refine CC.of (by decide) (Nat.le_of_ble_eq_true rfl) 0 [.ref o] rfl (fun X _ C E hZ => ?_)
  rw [fX2_isFull] at H
  refine ww_aload_n C dX2_isFull_0 0 rfl rfl ?_
  refine wk_getI C dX2_isFull_1 fl_X2_21 hS.1 rfl ?_
  refine ww_aload_n C dX2_isFull_4 0 rfl rfl ?_
  refine wk_getR C dX2_isFull_5 fl_X2_15 hS.1 rfl (tX2_names hS).1 ?_
  refine wk_alenJ C dX2_isFull_8 (tX2_names hS).2.1 (tX2_names hS).2.2 ?_
  refine ww_icmp_lt C dX2_isFull_9 16 rfl (fun hc => ?_) (fun hc => ?_)
  · rw [if_pos hc] at H
    refine ww_iconst (v := (0 : Int32)) C dX2_isFull_16 (by decide) ?_
    cases H
    exact ww_zret C E dX2_isFull_17 (Or.inl rfl) ⟨rfl, rfl⟩
  · rw [if_neg hc] at H
    refine ww_iconst (v := (1 : Int32)) C dX2_isFull_12 (by decide) ?_
    refine ww_goto C dX2_isFull_13 17 rfl ?_
    cases H
    exact ww_zret C E dX2_isFull_17 (Or.inr rfl) ⟨rfl, rfl⟩
def fX2_add (o : Nat) (N : Nat) (h : HI) (a1 : Int64) : Option (HI) := ((fX2_isFull o N h).bind fun p1 => (if p1.1 = 0 then (if inB (p1.2.1 o 1) N then some (uI (uL p1.2 (o + 1) ((p1.2.1 o 1).toNatClampNeg) a1) o 1 ((p1.2.1 o 1) + (1 : Int32))) else none) else some p1.2))
set_option maxRecDepth 100000 in
set_option maxHeartbeats 4000000 in
theorem ccX2_add {l : Launch} {sh : Sh} {adr : Nat → Nat} {r : Nat → Nat → Option Nat} {o : Nat} {N : Nat} (hS : NS sh r N o) {h : HI} {a1 : Int64} {p : HI} (H : fX2_add o N h a1 = some p) : CC l yX2_add cX2_add 3 none 1 [.ref o, .long a1] sh adr (mk h r) (fun v τ => v = none ∧ τ = mk p r) := by
  refine CC.of (by decide) (Nat.le_of_ble_eq_true rfl) 0 [.ref o, .long a1, .retAddr 0] rfl (fun X _ C E hZ => ?_)
  rw [fX2_add] at H
  refine ww_aload_n C dX2_add_0 0 rfl rfl ?_
  obtain ⟨p1, hc1, H⟩ := bd_of H
  refine ww_callV C hZ dX2_add_1 cw_X2_25 (ccX2_isFull hS hc1) hS.1 ⟨by decide, rfl⟩ (by decide) rfl rfl (Nat.le_of_ble_eq_true rfl) ⟨Nat.zero_le _, Nat.zero_le _⟩ (fun v τ hp => ?_)
  obtain ⟨rfl, rfl⟩ := hp
  change WW X _ 4 [.ref o, .long a1, .retAddr 0] [.int p1.1] _
  refine ww_if_ne C dX2_add_4 27 rfl (fun hc => ?_) (fun hc => ?_)
  · rw [if_neg hc] at H
    cases H
    exact ww_vret C E dX2_add_27 ⟨rfl, rfl⟩
  · rw [if_pos hc] at H
    refine ww_aload_n C dX2_add_7 0 rfl rfl ?_
    refine wk_getR C dX2_add_8 fl_X2_15 hS.1 rfl (tX2_names hS).1 ?_
    refine ww_aload_n C dX2_add_11 0 rfl rfl ?_
    refine wk_getI C dX2_add_12 fl_X2_21 hS.1 rfl ?_
    refine ww_lload_n C dX2_add_15 1 rfl rfl ?_
    obtain ⟨hg, H⟩ := gd_of H
    refine wk_lastore C dX2_add_16 (tX2_names hS).2.1 (vp_of hg (tX2_names hS).2.2) ((p1.2.1 o 1).toNatClampNeg) rfl ?_
    refine ww_aload_n C dX2_add_17 0 rfl rfl ?_
    refine ww_dup C dX2_add_18 rfl ?_
    refine wk_getI C dX2_add_19 fl_X2_21 hS.1 rfl ?_
    refine ww_as (v := (p1.2.1 o 1)) (by rw [uL_1]) ?_
    refine ww_iconst (v := (1 : Int32)) C dX2_add_22 (by decide) ?_
    refine ww_iadd C dX2_add_23 ?_
    refine wk_putI C dX2_add_24 fl_X2_21 hS.1 rfl rfl ?_
    cases H
    exact ww_vret C E dX2_add_27 ⟨rfl, rfl⟩
def fX1_addChair_47 (o : Nat) (h : HI) (v1 : Int64) : Option (HI) := ((fX2_add (o + 1) 6 h v1).bind fun h2 => some h2)
set_option maxRecDepth 100000 in
set_option maxHeartbeats 4000000 in
theorem cX1_addChair_47 {X : CT} {sh : Sh} {adr : Nat → Nat} {r : Nat → Nat → Option Nat} {o : Nat} {p : HI} (hS : HS sh r o) (C : CX X yX1_addChair.cls cX1_addChair 5 2) (hZ : SZX X adr) (E : RX X none sh adr (fun v τ => v = none ∧ τ = mk p r)) {h : HI} {v1 : Int64} (H : fX1_addChair_47 o h v1 = some p) : WW X (sh, adr, 0, 0) 47 [.ref o, .long v1, .retAddr 0, .retAddr 0, .retAddr 0] [] (mk h r) := by
  rw [fX1_addChair_47] at H
  refine ww_aload_n C dX1_addChair_47 0 rfl rfl ?_
  refine wk_getA C dX1_addChair_48 fl_X1_14 hS.1 rfl (tX1_chairs hS).1 ?_
  refine ww_lload_n C dX1_addChair_51 1 rfl rfl ?_
  obtain ⟨h2, hc1, H⟩ := bd_of H
  refine ww_callV C hZ dX1_addChair_52 cw_X1_93 (ccX2_add (tX1_chairs hS).2 hc1) (tX1_chairs hS).2.1 ⟨by decide, rfl⟩ (by decide) rfl rfl (Nat.le_of_ble_eq_true rfl) ⟨Nat.zero_le _, Nat.zero_le _⟩ (fun v τ hp => ?_)
  obtain ⟨rfl, rfl⟩ := hp
  change WW X _ 55 [.ref o, .long v1, .retAddr 0, .retAddr 0, .retAddr 0] [] _
  cases H
  exact ww_vret C E dX1_addChair_55 ⟨rfl, rfl⟩
def fX1_addChair (o : Nat) (h : HI) (a1 : Int64) (a3 : Int32) (a4 : Int32) : Option (HI) := ((fX2_isFull (o + 1) 6 h).bind fun p1 => (if p1.1 = 0 then (if inB (p1.2.1 (o + 1) 1) 6 then (if a4 = 0 then fX1_addChair_47 o (uI p1.2 (o + 7) ((p1.2.1 (o + 1) 1).toNatClampNeg) a3) a1 else fX1_addChair_47 o (uI (uI p1.2 (o + 7) ((p1.2.1 (o + 1) 1).toNatClampNeg) a3) o 4 ((p1.2.1 o 4) ||| ((1 : Int32) <<< ((p1.2.1 (o + 1) 1) &&& 31)))) a1) else none) else some p1.2))
set_option maxRecDepth 100000 in
set_option maxHeartbeats 4000000 in
theorem ccX1_addChair {l : Launch} {sh : Sh} {adr : Nat → Nat} {r : Nat → Nat → Option Nat} {o : Nat} (hS : HS sh r o) {h : HI} {a1 : Int64} {a3 : Int32} {a4 : Int32} {p : HI} (H : fX1_addChair o h a1 a3 a4 = some p) : CC l yX1_addChair cX1_addChair 5 none 2 [.ref o, .long a1, .int a3, .int a4] sh adr (mk h r) (fun v τ => v = none ∧ τ = mk p r) := by
  refine CC.of (by decide) (Nat.le_of_ble_eq_true rfl) 0 [.ref o, .long a1, .retAddr 0, .int a3, .int a4] rfl (fun X _ C E hZ => ?_)
  rw [fX1_addChair] at H
  refine ww_aload_n C dX1_addChair_0 0 rfl rfl ?_
  refine wk_getA C dX1_addChair_1 fl_X1_14 hS.1 rfl (tX1_chairs hS).1 ?_
  obtain ⟨p1, hc1, H⟩ := bd_of H
  refine ww_callV C hZ dX1_addChair_4 cw_X1_89 (ccX2_isFull (tX1_chairs hS).2 hc1) (tX1_chairs hS).2.1 ⟨by decide, rfl⟩ (by decide) rfl rfl (Nat.le_of_ble_eq_true rfl) ⟨Nat.zero_le _, Nat.zero_le _⟩ (fun v τ hp => ?_)
  obtain ⟨rfl, rfl⟩ := hp
  change WW X _ 7 [.ref o, .long a1, .retAddr 0, .int a3, .int a4] [.int p1.1] _
  refine ww_if_eq C dX1_addChair_7 11 rfl (fun hc => ?_) (fun hc => ?_)
  · rw [if_pos hc] at H
    refine ww_aload_n C dX1_addChair_11 0 rfl rfl ?_
    refine wk_getR C dX1_addChair_12 fl_X1_26 hS.1 rfl (tX1_holds hS).1 ?_
    refine ww_aload_n C dX1_addChair_15 0 rfl rfl ?_
    refine wk_getA C dX1_addChair_16 fl_X1_14 hS.1 rfl (tX1_chairs hS).1 ?_
    refine wk_getI C dX1_addChair_19 fl_X1_67 (tX1_chairs hS).2.1 rfl ?_
    refine ww_iload_n C dX1_addChair_22 3 rfl rfl ?_
    obtain ⟨hg, H⟩ := gd_of H
    refine wk_iastore C dX1_addChair_23 (tX1_holds hS).2.1 (vp_of hg (tX1_holds hS).2.2) ((p1.2.1 (o + 1) 1).toNatClampNeg) rfl ?_
    refine ww_iload C dX1_addChair_24 rfl ?_
    refine ww_if_eq C dX1_addChair_26 47 rfl (fun hc => ?_) (fun hc => ?_)
    · rw [if_pos hc] at H
      exact ww_drop [.ref o, .long a1, .retAddr 0, .retAddr 0, .retAddr 0] (sl_e (sl_e (sl_e (sl_d (sl_d sl_n))))) (cX1_addChair_47 hS C hZ E H)
    · rw [if_neg hc] at H
      refine ww_aload_n C dX1_addChair_29 0 rfl rfl ?_
      refine ww_dup C dX1_addChair_30 rfl ?_
      refine wk_getI C dX1_addChair_31 fl_X1_71 hS.1 rfl ?_
      refine ww_as (v := (p1.2.1 o 4)) (by rw [uI_n (by omega)]) ?_
      refine ww_iconst (v := (1 : Int32)) C dX1_addChair_34 (by decide) ?_
      refine ww_aload_n C dX1_addChair_35 0 rfl rfl ?_
      refine wk_getA C dX1_addChair_36 fl_X1_14 hS.1 rfl (tX1_chairs hS).1 ?_
      refine wk_getI C dX1_addChair_39 fl_X1_67 (tX1_chairs hS).2.1 rfl ?_
      refine ww_as (v := (p1.2.1 (o + 1) 1)) (by rw [uI_n (by omega)]) ?_
      refine ww_ishl C dX1_addChair_42 ?_
      refine ww_ior C dX1_addChair_43 ?_
      refine wk_putI C dX1_addChair_44 fl_X1_71 hS.1 rfl rfl ?_
      exact ww_drop [.ref o, .long a1, .retAddr 0, .retAddr 0, .retAddr 0] (sl_e (sl_e (sl_e (sl_d (sl_d sl_n))))) (cX1_addChair_47 hS C hZ E H)
  · rw [if_neg hc] at H
    cases H
    exact ww_vret C E dX1_addChair_10 ⟨rfl, rfl⟩
def fX1_addMan_47 (o : Nat) (h : HI) (v1 : Int64) : Option (HI) := ((fX2_add (o + 3) 6 h v1).bind fun h2 => some h2)
set_option maxRecDepth 100000 in
set_option maxHeartbeats 4000000 in
theorem cX1_addMan_47 {X : CT} {sh : Sh} {adr : Nat → Nat} {r : Nat → Nat → Option Nat} {o : Nat} {p : HI} (hS : HS sh r o) (C : CX X yX1_addMan.cls cX1_addMan 5 2) (hZ : SZX X adr) (E : RX X none sh adr (fun v τ => v = none ∧ τ = mk p r)) {h : HI} {v1 : Int64} (H : fX1_addMan_47 o h v1 = some p) : WW X (sh, adr, 0, 0) 47 [.ref o, .long v1, .retAddr 0, .retAddr 0, .retAddr 0] [] (mk h r) := by
  rw [fX1_addMan_47] at H
  refine ww_aload_n C dX1_addMan_47 0 rfl rfl ?_
  refine wk_getA C dX1_addMan_48 fl_X1_20 hS.1 rfl (tX1_men hS).1 ?_
  refine ww_lload_n C dX1_addMan_51 1 rfl rfl ?_
  obtain ⟨h2, hc1, H⟩ := bd_of H
  refine ww_callV C hZ dX1_addMan_52 cw_X1_93 (ccX2_add (tX1_men hS).2 hc1) (tX1_men hS).2.1 ⟨by decide, rfl⟩ (by decide) rfl rfl (Nat.le_of_ble_eq_true rfl) ⟨Nat.zero_le _, Nat.zero_le _⟩ (fun v τ hp => ?_)
  obtain ⟨rfl, rfl⟩ := hp
  change WW X _ 55 [.ref o, .long v1, .retAddr 0, .retAddr 0, .retAddr 0] [] _
  cases H
  exact ww_vret C E dX1_addMan_55 ⟨rfl, rfl⟩
def fX1_addMan (o : Nat) (h : HI) (a1 : Int64) (a3 : Int32) (a4 : Int32) : Option (HI) := ((fX2_isFull (o + 3) 6 h).bind fun p1 => (if p1.1 = 0 then (if inB (p1.2.1 (o + 3) 1) 6 then (if a4 = 0 then fX1_addMan_47 o (uI p1.2 (o + 8) ((p1.2.1 (o + 3) 1).toNatClampNeg) a3) a1 else fX1_addMan_47 o (uI (uI p1.2 (o + 8) ((p1.2.1 (o + 3) 1).toNatClampNeg) a3) o 6 ((p1.2.1 o 6) ||| ((1 : Int32) <<< ((p1.2.1 (o + 3) 1) &&& 31)))) a1) else none) else some p1.2))
set_option maxRecDepth 100000 in
set_option maxHeartbeats 4000000 in
theorem ccX1_addMan {l : Launch} {sh : Sh} {adr : Nat → Nat} {r : Nat → Nat → Option Nat} {o : Nat} (hS : HS sh r o) {h : HI} {a1 : Int64} {a3 : Int32} {a4 : Int32} {p : HI} (H : fX1_addMan o h a1 a3 a4 = some p) : CC l yX1_addMan cX1_addMan 5 none 2 [.ref o, .long a1, .int a3, .int a4] sh adr (mk h r) (fun v τ => v = none ∧ τ = mk p r) := by
  refine CC.of (by decide) (Nat.le_of_ble_eq_true rfl) 0 [.ref o, .long a1, .retAddr 0, .int a3, .int a4] rfl (fun X _ C E hZ => ?_)
  rw [fX1_addMan] at H
  refine ww_aload_n C dX1_addMan_0 0 rfl rfl ?_
  refine wk_getA C dX1_addMan_1 fl_X1_20 hS.1 rfl (tX1_men hS).1 ?_
  obtain ⟨p1, hc1, H⟩ := bd_of H
  refine ww_callV C hZ dX1_addMan_4 cw_X1_89 (ccX2_isFull (tX1_men hS).2 hc1) (tX1_men hS).2.1 ⟨by decide, rfl⟩ (by decide) rfl rfl (Nat.le_of_ble_eq_true rfl) ⟨Nat.zero_le _, Nat.zero_le _⟩ (fun v τ hp => ?_)
  obtain ⟨rfl, rfl⟩ := hp
  change WW X _ 7 [.ref o, .long a1, .retAddr 0, .int a3, .int a4] [.int p1.1] _
  refine ww_if_eq C dX1_addMan_7 11 rfl (fun hc => ?_) (fun hc => ?_)
  · rw [if_pos hc] at H
    refine ww_aload_n C dX1_addMan_11 0 rfl rfl ?_
    refine wk_getR C dX1_addMan_12 fl_X1_30 hS.1 rfl (tX1_strong hS).1 ?_
    refine ww_aload_n C dX1_addMan_15 0 rfl rfl ?_
    refine wk_getA C dX1_addMan_16 fl_X1_20 hS.1 rfl (tX1_men hS).1 ?_
    refine wk_getI C dX1_addMan_19 fl_X1_67 (tX1_men hS).2.1 rfl ?_
    refine ww_iload_n C dX1_addMan_22 3 rfl rfl ?_
    obtain ⟨hg, H⟩ := gd_of H
    refine wk_iastore C dX1_addMan_23 (tX1_strong hS).2.1 (vp_of hg (tX1_strong hS).2.2) ((p1.2.1 (o + 3) 1).toNatClampNeg) rfl ?_
    refine ww_iload C dX1_addMan_24 rfl ?_
    refine ww_if_eq C dX1_addMan_26 47 rfl (fun hc => ?_) (fun hc => ?_)
    · rw [if_pos hc] at H
      exact ww_drop [.ref o, .long a1, .retAddr 0, .retAddr 0, .retAddr 0] (sl_e (sl_e (sl_e (sl_d (sl_d sl_n))))) (cX1_addMan_47 hS C hZ E H)
    · rw [if_neg hc] at H
      refine ww_aload_n C dX1_addMan_29 0 rfl rfl ?_
      refine ww_dup C dX1_addMan_30 rfl ?_
      refine wk_getI C dX1_addMan_31 fl_X1_74 hS.1 rfl ?_
      refine ww_as (v := (p1.2.1 o 6)) (by rw [uI_n (by omega)]) ?_
      refine ww_iconst (v := (1 : Int32)) C dX1_addMan_34 (by decide) ?_
      refine ww_aload_n C dX1_addMan_35 0 rfl rfl ?_
      refine wk_getA C dX1_addMan_36 fl_X1_20 hS.1 rfl (tX1_men hS).1 ?_
      refine wk_getI C dX1_addMan_39 fl_X1_67 (tX1_men hS).2.1 rfl ?_
      refine ww_as (v := (p1.2.1 (o + 3) 1)) (by rw [uI_n (by omega)]) ?_
      refine ww_ishl C dX1_addMan_42 ?_
      refine ww_ior C dX1_addMan_43 ?_
      refine wk_putI C dX1_addMan_44 fl_X1_74 hS.1 rfl rfl ?_
      exact ww_drop [.ref o, .long a1, .retAddr 0, .retAddr 0, .retAddr 0] (sl_e (sl_e (sl_e (sl_d (sl_d sl_n))))) (cX1_addMan_47 hS C hZ E H)
  · rw [if_neg hc] at H
    cases H
    exact ww_vret C E dX1_addMan_10 ⟨rfl, rfl⟩
def fX1_addMatter (o : Nat) (h : HI) (a1 : Int64) (a3 : Int32) : Option (HI) := ((fX2_isFull (o + 5) 4 h).bind fun p1 => (if p1.1 = 0 then (if inB (p1.2.1 (o + 5) 1) 4 then (if inB (p1.2.1 (o + 5) 1) 4 then (if inB (p1.2.1 (o + 5) 1) 4 then (if inB (p1.2.1 (o + 5) 1) 4 then (if inB (p1.2.1 (o + 5) 1) 4 then ((fX2_add (o + 5) 4 (uI (uI (uI (uI (uI p1.2 (o + 9) ((p1.2.1 (o + 5) 1).toNatClampNeg) a3) (o + 10) ((p1.2.1 (o + 5) 1).toNatClampNeg) (0 : Int32)) (o + 11) ((p1.2.1 (o + 5) 1).toNatClampNeg) (0 : Int32)) (o + 12) ((p1.2.1 (o + 5) 1).toNatClampNeg) (0 : Int32)) (o + 13) ((p1.2.1 (o + 5) 1).toNatClampNeg) (0 : Int32)) a1).bind fun h2 => some h2) else none) else none) else none) else none) else none) else some p1.2))
set_option maxRecDepth 100000 in
set_option maxHeartbeats 4000000 in
theorem ccX1_addMatter {l : Launch} {sh : Sh} {adr : Nat → Nat} {r : Nat → Nat → Option Nat} {o : Nat} (hS : HS sh r o) {h : HI} {a1 : Int64} {a3 : Int32} {p : HI} (H : fX1_addMatter o h a1 a3 = some p) : CC l yX1_addMatter cX1_addMatter 5 none 2 [.ref o, .long a1, .int a3] sh adr (mk h r) (fun v τ => v = none ∧ τ = mk p r) := by
  refine CC.of (by decide) (Nat.le_of_ble_eq_true rfl) 1 [.ref o, .long a1, .retAddr 0, .int a3, .retAddr 0] rfl (fun X _ C E hZ => ?_)
  rw [fX1_addMatter] at H
  refine ww_aload_n C dX1_addMatter_0 0 rfl rfl ?_
  refine wk_getA C dX1_addMatter_1 fl_X1_23 hS.1 rfl (tX1_matters hS).1 ?_
  obtain ⟨p1, hc1, H⟩ := bd_of H
  refine ww_callV C hZ dX1_addMatter_4 cw_X1_89 (ccX2_isFull (tX1_matters hS).2 hc1) (tX1_matters hS).2.1 ⟨by decide, rfl⟩ (by decide) rfl rfl (Nat.le_of_ble_eq_true rfl) ⟨Nat.zero_le _, Nat.zero_le _⟩ (fun v τ hp => ?_)
  obtain ⟨rfl, rfl⟩ := hp
  change WW X _ 7 [.ref o, .long a1, .retAddr 0, .int a3, .retAddr 0] [.int p1.1] _
  refine ww_if_eq C dX1_addMatter_7 11 rfl (fun hc => ?_) (fun hc => ?_)
  · rw [if_pos hc] at H
    refine ww_aload_n C dX1_addMatter_11 0 rfl rfl ?_
    refine wk_getA C dX1_addMatter_12 fl_X1_23 hS.1 rfl (tX1_matters hS).1 ?_
    refine wk_getI C dX1_addMatter_15 fl_X1_67 (tX1_matters hS).2.1 rfl ?_
    refine ww_istore C dX1_addMatter_18 (by decide) rfl [.ref o, .long a1, .retAddr 0, .int a3, .int (p1.2.1 (o + 5) 1)] rfl ?_
    refine ww_aload_n C dX1_addMatter_20 0 rfl rfl ?_
    refine wk_getR C dX1_addMatter_21 fl_X1_33 hS.1 rfl (tX1_dies hS).1 ?_
    refine ww_iload C dX1_addMatter_24 rfl ?_
    refine ww_iload_n C dX1_addMatter_26 3 rfl rfl ?_
    obtain ⟨hg, H⟩ := gd_of H
    refine wk_iastore C dX1_addMatter_27 (tX1_dies hS).2.1 (vp_of hg (tX1_dies hS).2.2) ((p1.2.1 (o + 5) 1).toNatClampNeg) rfl ?_
    refine ww_aload_n C dX1_addMatter_28 0 rfl rfl ?_
    refine wk_getR C dX1_addMatter_29 fl_X1_36 hS.1 rfl (tX1_worth hS).1 ?_
    refine ww_iload C dX1_addMatter_32 rfl ?_
    refine ww_iconst (v := (0 : Int32)) C dX1_addMatter_34 (by decide) ?_
    obtain ⟨hg, H⟩ := gd_of H
    refine wk_iastore C dX1_addMatter_35 (tX1_worth hS).2.1 (vp_of hg (tX1_worth hS).2.2) ((p1.2.1 (o + 5) 1).toNatClampNeg) rfl ?_
    refine ww_aload_n C dX1_addMatter_36 0 rfl rfl ?_
    refine wk_getR C dX1_addMatter_37 fl_X1_39 hS.1 rfl (tX1_likes hS).1 ?_
    refine ww_iload C dX1_addMatter_40 rfl ?_
    refine ww_iconst (v := (0 : Int32)) C dX1_addMatter_42 (by decide) ?_
    obtain ⟨hg, H⟩ := gd_of H
    refine wk_iastore C dX1_addMatter_43 (tX1_likes hS).2.1 (vp_of hg (tX1_likes hS).2.2) ((p1.2.1 (o + 5) 1).toNatClampNeg) rfl ?_
    refine ww_aload_n C dX1_addMatter_44 0 rfl rfl ?_
    refine wk_getR C dX1_addMatter_45 fl_X1_42 hS.1 rfl (tX1_dislikes hS).1 ?_
    refine ww_iload C dX1_addMatter_48 rfl ?_
    refine ww_iconst (v := (0 : Int32)) C dX1_addMatter_50 (by decide) ?_
    obtain ⟨hg, H⟩ := gd_of H
    refine wk_iastore C dX1_addMatter_51 (tX1_dislikes hS).2.1 (vp_of hg (tX1_dislikes hS).2.2) ((p1.2.1 (o + 5) 1).toNatClampNeg) rfl ?_
    refine ww_aload_n C dX1_addMatter_52 0 rfl rfl ?_
    refine wk_getR C dX1_addMatter_53 fl_X1_45 hS.1 rfl (tX1_wished hS).1 ?_
    refine ww_iload C dX1_addMatter_56 rfl ?_
    refine ww_iconst (v := (0 : Int32)) C dX1_addMatter_58 (by decide) ?_
    obtain ⟨hg, H⟩ := gd_of H
    refine wk_iastore C dX1_addMatter_59 (tX1_wished hS).2.1 (vp_of hg (tX1_wished hS).2.2) ((p1.2.1 (o + 5) 1).toNatClampNeg) rfl ?_
    refine ww_aload_n C dX1_addMatter_60 0 rfl rfl ?_
    refine wk_getA C dX1_addMatter_61 fl_X1_23 hS.1 rfl (tX1_matters hS).1 ?_
    refine ww_lload_n C dX1_addMatter_64 1 rfl rfl ?_
    obtain ⟨h2, hc1, H⟩ := bd_of H
    refine ww_callV C hZ dX1_addMatter_65 cw_X1_93 (ccX2_add (tX1_matters hS).2 hc1) (tX1_matters hS).2.1 ⟨by decide, rfl⟩ (by decide) rfl rfl (Nat.le_of_ble_eq_true rfl) ⟨Nat.zero_le _, Nat.zero_le _⟩ (fun v τ hp => ?_)
    obtain ⟨rfl, rfl⟩ := hp
    change WW X _ 68 [.ref o, .long a1, .retAddr 0, .int a3, .int (p1.2.1 (o + 5) 1)] [] _
    cases H
    exact ww_vret C E dX1_addMatter_68 ⟨rfl, rfl⟩
  · rw [if_neg hc] at H
    cases H
    exact ww_vret C E dX1_addMatter_10 ⟨rfl, rfl⟩
def fX2_has (o : Nat) (h : HI) (a1 : Int32) : Option (Int32 × HI) := (if a1 < 0 then some ((0 : Int32), h) else (if (h.1 o 1) ≤ a1 then some ((0 : Int32), h) else some ((1 : Int32), h)))
set_option maxRecDepth 100000 in
set_option maxHeartbeats 4000000 in
theorem ccX2_has {l : Launch} {sh : Sh} {adr : Nat → Nat} {r : Nat → Nat → Option Nat} {o : Nat} {N : Nat} (hS : NS sh r N o) {h : HI} {a1 : Int32} {p : Int32 × HI} (H : fX2_has o h a1 = some p) : CC l yX2_has cX2_has 2 (some .boolean) 0 [.ref o, .int a1] sh adr (mk h r) (fun v τ => v = some (.int p.1) ∧ τ = mk p.2 r) := by
  refine CC.of (by decide) (Nat.le_of_ble_eq_true rfl) 0 [.ref o, .int a1] rfl (fun X _ C E hZ => ?_)
  rw [fX2_has] at H
  refine ww_iload_n C dX2_has_0 1 rfl rfl ?_
  refine ww_if_lt C dX2_has_1 16 rfl (fun hc => ?_) (fun hc => ?_)
  · rw [if_pos hc] at H
    refine ww_iconst (v := (0 : Int32)) C dX2_has_16 (by decide) ?_
    cases H
    exact ww_zret C E dX2_has_17 (Or.inl rfl) ⟨rfl, rfl⟩
  · rw [if_neg hc] at H
    refine ww_iload_n C dX2_has_4 1 rfl rfl ?_
    refine ww_aload_n C dX2_has_5 0 rfl rfl ?_
    refine wk_getI C dX2_has_6 fl_X2_21 hS.1 rfl ?_
    refine ww_icmp_ge C dX2_has_9 16 rfl (fun hc => ?_) (fun hc => ?_)
    · rw [if_pos hc] at H
      refine ww_iconst (v := (0 : Int32)) C dX2_has_16 (by decide) ?_
      cases H
      exact ww_zret C E dX2_has_17 (Or.inl rfl) ⟨rfl, rfl⟩
    · rw [if_neg hc] at H
      refine ww_iconst (v := (1 : Int32)) C dX2_has_12 (by decide) ?_
      refine ww_goto C dX2_has_13 17 rfl ?_
      cases H
      exact ww_zret C E dX2_has_17 (Or.inr rfl) ⟨rfl, rfl⟩
def fX1_isWished (o : Nat) (h : HI) (a1 : Int32) (a2 : Int32) : Option (Int32 × HI) := ((fX2_has (o + 5) h a2).bind fun p1 => (if p1.1 = 0 then some ((0 : Int32), p1.2) else (if inB a2 4 then (if (((p1.2.1 (o + 13) (a2.toNatClampNeg)) >>> (a1 &&& 31)) &&& (1 : Int32)) = 0 then some ((0 : Int32), p1.2) else some ((1 : Int32), p1.2)) else none)))
set_option maxRecDepth 100000 in
set_option maxHeartbeats 4000000 in
theorem ccX1_isWished {l : Launch} {sh : Sh} {adr : Nat → Nat} {r : Nat → Nat → Option Nat} {o : Nat} (hS : HS sh r o) {h : HI} {a1 : Int32} {a2 : Int32} {p : Int32 × HI} (H : fX1_isWished o h a1 a2 = some p) : CC l yX1_isWished cX1_isWished 3 (some .boolean) 1 [.ref o, .int a1, .int a2] sh adr (mk h r) (fun v τ => v = some (.int p.1) ∧ τ = mk p.2 r) := by
  refine CC.of (by decide) (Nat.le_of_ble_eq_true rfl) 0 [.ref o, .int a1, .int a2] rfl (fun X _ C E hZ => ?_)
  rw [fX1_isWished] at H
  refine ww_aload_n C dX1_isWished_0 0 rfl rfl ?_
  refine wk_getA C dX1_isWished_1 fl_X1_23 hS.1 rfl (tX1_matters hS).1 ?_
  refine ww_iload_n C dX1_isWished_4 2 rfl rfl ?_
  obtain ⟨p1, hc1, H⟩ := bd_of H
  refine ww_callV C hZ dX1_isWished_5 cw_X1_97 (ccX2_has (tX1_matters hS).2 hc1) (tX1_matters hS).2.1 ⟨by decide, rfl⟩ (by decide) rfl rfl (Nat.le_of_ble_eq_true rfl) ⟨Nat.zero_le _, Nat.zero_le _⟩ (fun v τ hp => ?_)
  obtain ⟨rfl, rfl⟩ := hp
  change WW X _ 8 [.ref o, .int a1, .int a2] [.int p1.1] _
  refine ww_if_eq C dX1_isWished_8 28 rfl (fun hc => ?_) (fun hc => ?_)
  · rw [if_pos hc] at H
    refine ww_iconst (v := (0 : Int32)) C dX1_isWished_28 (by decide) ?_
    cases H
    exact ww_zret C E dX1_isWished_29 (Or.inl rfl) ⟨rfl, rfl⟩
  · rw [if_neg hc] at H
    refine ww_aload_n C dX1_isWished_11 0 rfl rfl ?_
    refine wk_getR C dX1_isWished_12 fl_X1_45 hS.1 rfl (tX1_wished hS).1 ?_
    refine ww_iload_n C dX1_isWished_15 2 rfl rfl ?_
    obtain ⟨hg, H⟩ := gd_of H
    refine wk_iaload C dX1_isWished_16 (tX1_wished hS).2.1 (vp_of hg (tX1_wished hS).2.2) (a2.toNatClampNeg) rfl ?_
    refine ww_iload_n C dX1_isWished_17 1 rfl rfl ?_
    refine ww_ishr C dX1_isWished_18 ?_
    refine ww_iconst (v := (1 : Int32)) C dX1_isWished_19 (by decide) ?_
    refine ww_iand C dX1_isWished_20 ?_
    refine ww_if_eq C dX1_isWished_21 28 rfl (fun hc => ?_) (fun hc => ?_)
    · rw [if_pos hc] at H
      refine ww_iconst (v := (0 : Int32)) C dX1_isWished_28 (by decide) ?_
      cases H
      exact ww_zret C E dX1_isWished_29 (Or.inl rfl) ⟨rfl, rfl⟩
    · rw [if_neg hc] at H
      refine ww_iconst (v := (1 : Int32)) C dX1_isWished_24 (by decide) ?_
      refine ww_goto C dX1_isWished_25 29 rfl ?_
      cases H
      exact ww_zret C E dX1_isWished_29 (Or.inr rfl) ⟨rfl, rfl⟩
def fX1_addWish_71 (o : Nat) (h : HI) (v1 : Int32) (v2 : Int32) (v3 : Int32) : Option (HI) := (if 0 ≤ v3 then some h else (if inB v2 4 then (if inB v2 4 then some (uI h (o + 12) (v2.toNatClampNeg) ((h.1 (o + 12) (v2.toNatClampNeg)) ||| ((1 : Int32) <<< (v1 &&& 31)))) else none) else none))
set_option maxRecDepth 100000 in
set_option maxHeartbeats 4000000 in
theorem cX1_addWish_71 {X : CT} {sh : Sh} {adr : Nat → Nat} {r : Nat → Nat → Option Nat} {o : Nat} {p : HI} (hS : HS sh r o) (C : CX X yX1_addWish.cls cX1_addWish 4 1) (hZ : SZX X adr) (E : RX X none sh adr (fun v τ => v = none ∧ τ = mk p r)) {h : HI} {v1 : Int32} {v2 : Int32} {v3 : Int32} (H : fX1_addWish_71 o h v1 v2 v3 = some p) : WW X (sh, adr, 0, 0) 71 [.ref o, .int v1, .int v2, .int v3] [] (mk h r) := by
  rw [fX1_addWish_71] at H
  refine ww_iload_n C dX1_addWish_71 3 rfl rfl ?_
  refine ww_if_ge C dX1_addWish_72 87 rfl (fun hc => ?_) (fun hc => ?_)
  · rw [if_pos hc] at H
    cases H
    exact ww_vret C E dX1_addWish_87 ⟨rfl, rfl⟩
  · rw [if_neg hc] at H
    refine ww_aload_n C dX1_addWish_75 0 rfl rfl ?_
    refine wk_getR C dX1_addWish_76 fl_X1_42 hS.1 rfl (tX1_dislikes hS).1 ?_
    refine ww_iload_n C dX1_addWish_79 2 rfl rfl ?_
    refine ww_dup2 C dX1_addWish_80 rfl rfl ?_
    obtain ⟨hg, H⟩ := gd_of H
    refine wk_iaload C dX1_addWish_81 (tX1_dislikes hS).2.1 (vp_of hg (tX1_dislikes hS).2.2) (v2.toNatClampNeg) rfl ?_
    refine ww_iconst (v := (1 : Int32)) C dX1_addWish_82 (by decide) ?_
    refine ww_iload_n C dX1_addWish_83 1 rfl rfl ?_
    refine ww_ishl C dX1_addWish_84 ?_
    refine ww_ior C dX1_addWish_85 ?_
    obtain ⟨hg, H⟩ := gd_of H
    refine wk_iastore C dX1_addWish_86 (tX1_dislikes hS).2.1 (vp_of hg (tX1_dislikes hS).2.2) (v2.toNatClampNeg) rfl ?_
    cases H
    exact ww_vret C E dX1_addWish_87 ⟨rfl, rfl⟩
def fX1_addWish (o : Nat) (h : HI) (a1 : Int32) (a2 : Int32) (a3 : Int32) : Option (HI) := ((fX2_has (o + 3) h a1).bind fun p1 => (if p1.1 = 0 then some p1.2 else ((fX2_has (o + 5) p1.2 a2).bind fun p2 => (if p2.1 = 0 then some p2.2 else (if inB a2 4 then (if inB a2 4 then (if inB a2 4 then (if inB a2 4 then (if a3 ≤ 0 then fX1_addWish_71 o (uI (uI (uI p2.2 o 12 ((p2.2.1 o 12) + (1 : Int32))) (o + 13) (a2.toNatClampNeg) ((p2.2.1 (o + 13) (a2.toNatClampNeg)) ||| ((1 : Int32) <<< (a1 &&& 31)))) (o + 10) (a2.toNatClampNeg) ((p2.2.1 (o + 10) (a2.toNatClampNeg)) + a3)) a1 a2 a3 else (if inB a2 4 then (if inB a2 4 then fX1_addWish_71 o (uI (uI (uI (uI p2.2 o 12 ((p2.2.1 o 12) + (1 : Int32))) (o + 13) (a2.toNatClampNeg) ((p2.2.1 (o + 13) (a2.toNatClampNeg)) ||| ((1 : Int32) <<< (a1 &&& 31)))) (o + 10) (a2.toNatClampNeg) ((p2.2.1 (o + 10) (a2.toNatClampNeg)) + a3)) (o + 11) (a2.toNatClampNeg) ((p2.2.1 (o + 11) (a2.toNatClampNeg)) ||| ((1 : Int32) <<< (a1 &&& 31)))) a1 a2 a3 else none) else none)) else none) else none) else none) else none)))))
set_option maxRecDepth 100000 in
set_option maxHeartbeats 4000000 in
theorem ccX1_addWish {l : Launch} {sh : Sh} {adr : Nat → Nat} {r : Nat → Nat → Option Nat} {o : Nat} (hS : HS sh r o) {h : HI} {a1 : Int32} {a2 : Int32} {a3 : Int32} {p : HI} (H : fX1_addWish o h a1 a2 a3 = some p) : CC l yX1_addWish cX1_addWish 4 none 1 [.ref o, .int a1, .int a2, .int a3] sh adr (mk h r) (fun v τ => v = none ∧ τ = mk p r) := by
  refine CC.of (by decide) (Nat.le_of_ble_eq_true rfl) 0 [.ref o, .int a1, .int a2, .int a3] rfl (fun X _ C E hZ => ?_)
  rw [fX1_addWish] at H
  refine ww_aload_n C dX1_addWish_0 0 rfl rfl ?_
  refine wk_getA C dX1_addWish_1 fl_X1_20 hS.1 rfl (tX1_men hS).1 ?_
  refine ww_iload_n C dX1_addWish_4 1 rfl rfl ?_
  obtain ⟨p1, hc1, H⟩ := bd_of H
  refine ww_callV C hZ dX1_addWish_5 cw_X1_97 (ccX2_has (tX1_men hS).2 hc1) (tX1_men hS).2.1 ⟨by decide, rfl⟩ (by decide) rfl rfl (Nat.le_of_ble_eq_true rfl) ⟨Nat.zero_le _, Nat.zero_le _⟩ (fun v τ hp => ?_)
  obtain ⟨rfl, rfl⟩ := hp
  change WW X _ 8 [.ref o, .int a1, .int a2, .int a3] [.int p1.1] _
  refine ww_if_eq C dX1_addWish_8 22 rfl (fun hc => ?_) (fun hc => ?_)
  · rw [if_pos hc] at H
    cases H
    exact ww_vret C E dX1_addWish_22 ⟨rfl, rfl⟩
  · rw [if_neg hc] at H
    refine ww_aload_n C dX1_addWish_11 0 rfl rfl ?_
    refine wk_getA C dX1_addWish_12 fl_X1_23 hS.1 rfl (tX1_matters hS).1 ?_
    refine ww_iload_n C dX1_addWish_15 2 rfl rfl ?_
    obtain ⟨p2, hc1, H⟩ := bd_of H
    refine ww_callV C hZ dX1_addWish_16 cw_X1_97 (ccX2_has (tX1_matters hS).2 hc1) (tX1_matters hS).2.1 ⟨by decide, rfl⟩ (by decide) rfl rfl (Nat.le_of_ble_eq_true rfl) ⟨Nat.zero_le _, Nat.zero_le _⟩ (fun v τ hp => ?_)
    obtain ⟨rfl, rfl⟩ := hp
    change WW X _ 19 [.ref o, .int a1, .int a2, .int a3] [.int p2.1] _
    refine ww_if_ne C dX1_addWish_19 23 rfl (fun hc => ?_) (fun hc => ?_)
    · rw [if_neg hc] at H
      refine ww_aload_n C dX1_addWish_23 0 rfl rfl ?_
      refine ww_dup C dX1_addWish_24 rfl ?_
      refine wk_getI C dX1_addWish_25 fl_X1_77 hS.1 rfl ?_
      refine ww_iconst (v := (1 : Int32)) C dX1_addWish_28 (by decide) ?_
      refine ww_iadd C dX1_addWish_29 ?_
      refine wk_putI C dX1_addWish_30 fl_X1_77 hS.1 rfl rfl ?_
      refine ww_aload_n C dX1_addWish_33 0 rfl rfl ?_
      refine wk_getR C dX1_addWish_34 fl_X1_45 hS.1 rfl (tX1_wished hS).1 ?_
      refine ww_iload_n C dX1_addWish_37 2 rfl rfl ?_
      refine ww_dup2 C dX1_addWish_38 rfl rfl ?_
      obtain ⟨hg, H⟩ := gd_of H
      refine wk_iaload C dX1_addWish_39 (tX1_wished hS).2.1 (vp_of hg (tX1_wished hS).2.2) (a2.toNatClampNeg) rfl ?_
      refine ww_as (v := (p2.2.1 (o + 13) (a2.toNatClampNeg))) (by rw [uI_n (by omega)]) ?_
      refine ww_iconst (v := (1 : Int32)) C dX1_addWish_40 (by decide) ?_
      refine ww_iload_n C dX1_addWish_41 1 rfl rfl ?_
      refine ww_ishl C dX1_addWish_42 ?_
      refine ww_ior C dX1_addWish_43 ?_
      obtain ⟨hg, H⟩ := gd_of H
      refine wk_iastore C dX1_addWish_44 (tX1_wished hS).2.1 (vp_of hg (tX1_wished hS).2.2) (a2.toNatClampNeg) rfl ?_
      refine ww_aload_n C dX1_addWish_45 0 rfl rfl ?_
      refine wk_getR C dX1_addWish_46 fl_X1_36 hS.1 rfl (tX1_worth hS).1 ?_
      refine ww_iload_n C dX1_addWish_49 2 rfl rfl ?_
      refine ww_dup2 C dX1_addWish_50 rfl rfl ?_
      obtain ⟨hg, H⟩ := gd_of H
      refine wk_iaload C dX1_addWish_51 (tX1_worth hS).2.1 (vp_of hg (tX1_worth hS).2.2) (a2.toNatClampNeg) rfl ?_
      refine ww_as (v := (p2.2.1 (o + 10) (a2.toNatClampNeg))) (by rw [uI_n (by omega), uI_n (by omega)]) ?_
      refine ww_iload_n C dX1_addWish_52 3 rfl rfl ?_
      refine ww_iadd C dX1_addWish_53 ?_
      obtain ⟨hg, H⟩ := gd_of H
      refine wk_iastore C dX1_addWish_54 (tX1_worth hS).2.1 (vp_of hg (tX1_worth hS).2.2) (a2.toNatClampNeg) rfl ?_
      refine ww_iload_n C dX1_addWish_55 3 rfl rfl ?_
      refine ww_if_le C dX1_addWish_56 71 rfl (fun hc => ?_) (fun hc => ?_)
      · rw [if_pos hc] at H
        exact cX1_addWish_71 hS C hZ E H
      · rw [if_neg hc] at H
        refine ww_aload_n C dX1_addWish_59 0 rfl rfl ?_
        refine wk_getR C dX1_addWish_60 fl_X1_39 hS.1 rfl (tX1_likes hS).1 ?_
        refine ww_iload_n C dX1_addWish_63 2 rfl rfl ?_
        refine ww_dup2 C dX1_addWish_64 rfl rfl ?_
        obtain ⟨hg, H⟩ := gd_of H
        refine wk_iaload C dX1_addWish_65 (tX1_likes hS).2.1 (vp_of hg (tX1_likes hS).2.2) (a2.toNatClampNeg) rfl ?_
        refine ww_as (v := (p2.2.1 (o + 11) (a2.toNatClampNeg))) (by rw [uI_n (by omega), uI_n (by omega), uI_n (by omega)]) ?_
        refine ww_iconst (v := (1 : Int32)) C dX1_addWish_66 (by decide) ?_
        refine ww_iload_n C dX1_addWish_67 1 rfl rfl ?_
        refine ww_ishl C dX1_addWish_68 ?_
        refine ww_ior C dX1_addWish_69 ?_
        obtain ⟨hg, H⟩ := gd_of H
        refine wk_iastore C dX1_addWish_70 (tX1_likes hS).2.1 (vp_of hg (tX1_likes hS).2.2) (a2.toNatClampNeg) rfl ?_
        exact cX1_addWish_71 hS C hZ E H
    · rw [if_pos hc] at H
      cases H
      exact ww_vret C E dX1_addWish_22 ⟨rfl, rfl⟩
def fX1_addDeal (o : Nat) (h : HI) (a1 : Int32) (a2 : Int32) (a3 : Int32) (a4 : Int32) : Option (HI) := (if (4 : Int32) ≤ (h.1 o 17) then some h else ((fX2_has (o + 3) h a1).bind fun p1 => (if p1.1 = 0 then some p1.2 else ((fX2_has (o + 5) p1.2 a2).bind fun p2 => (if p2.1 = 0 then some p2.2 else ((fX2_has (o + 3) p2.2 a3).bind fun p3 => (if p3.1 = 0 then some p3.2 else ((fX2_has (o + 5) p3.2 a4).bind fun p4 => (if p4.1 = 0 then some p4.2 else (if inB (p4.2.1 o 17) 4 then (if inB (p4.2.1 o 17) 4 then (if inB (p4.2.1 o 17) 4 then (if inB (p4.2.1 o 17) 4 then some (uI (uI (uI (uI (uI p4.2 (o + 14) ((p4.2.1 o 17).toNatClampNeg) a1) (o + 15) ((p4.2.1 o 17).toNatClampNeg) a2) (o + 16) ((p4.2.1 o 17).toNatClampNeg) a3) (o + 17) ((p4.2.1 o 17).toNatClampNeg) a4) o 17 ((p4.2.1 o 17) + (1 : Int32))) else none) else none) else none) else none))))))))))
set_option maxRecDepth 100000 in
set_option maxHeartbeats 4000000 in
theorem ccX1_addDeal {l : Launch} {sh : Sh} {adr : Nat → Nat} {r : Nat → Nat → Option Nat} {o : Nat} (hS : HS sh r o) {h : HI} {a1 : Int32} {a2 : Int32} {a3 : Int32} {a4 : Int32} {p : HI} (H : fX1_addDeal o h a1 a2 a3 a4 = some p) : CC l yX1_addDeal cX1_addDeal 5 none 1 [.ref o, .int a1, .int a2, .int a3, .int a4] sh adr (mk h r) (fun v τ => v = none ∧ τ = mk p r) := by
  refine CC.of (by decide) (Nat.le_of_ble_eq_true rfl) 0 [.ref o, .int a1, .int a2, .int a3, .int a4] rfl (fun X _ C E hZ => ?_)
  rw [fX1_addDeal] at H
  refine ww_aload_n C dX1_addDeal_0 0 rfl rfl ?_
  refine wk_getI C dX1_addDeal_1 fl_X1_80 hS.1 rfl ?_
  refine ww_iconst (v := (4 : Int32)) C dX1_addDeal_4 (by decide) ?_
  refine ww_icmp_ge C dX1_addDeal_5 53 rfl (fun hc => ?_) (fun hc => ?_)
  · rw [if_pos hc] at H
    cases H
    exact ww_vret C E dX1_addDeal_53 ⟨rfl, rfl⟩
  · rw [if_neg hc] at H
    refine ww_aload_n C dX1_addDeal_8 0 rfl rfl ?_
    refine wk_getA C dX1_addDeal_9 fl_X1_20 hS.1 rfl (tX1_men hS).1 ?_
    refine ww_iload_n C dX1_addDeal_12 1 rfl rfl ?_
    obtain ⟨p1, hc1, H⟩ := bd_of H
    refine ww_callV C hZ dX1_addDeal_13 cw_X1_97 (ccX2_has (tX1_men hS).2 hc1) (tX1_men hS).2.1 ⟨by decide, rfl⟩ (by decide) rfl rfl (Nat.le_of_ble_eq_true rfl) ⟨Nat.zero_le _, Nat.zero_le _⟩ (fun v τ hp => ?_)
    obtain ⟨rfl, rfl⟩ := hp
    change WW X _ 16 [.ref o, .int a1, .int a2, .int a3, .int a4] [.int p1.1] _
    refine ww_if_eq C dX1_addDeal_16 53 rfl (fun hc => ?_) (fun hc => ?_)
    · rw [if_pos hc] at H
      cases H
      exact ww_vret C E dX1_addDeal_53 ⟨rfl, rfl⟩
    · rw [if_neg hc] at H
      refine ww_aload_n C dX1_addDeal_19 0 rfl rfl ?_
      refine wk_getA C dX1_addDeal_20 fl_X1_23 hS.1 rfl (tX1_matters hS).1 ?_
      refine ww_iload_n C dX1_addDeal_23 2 rfl rfl ?_
      obtain ⟨p2, hc1, H⟩ := bd_of H
      refine ww_callV C hZ dX1_addDeal_24 cw_X1_97 (ccX2_has (tX1_matters hS).2 hc1) (tX1_matters hS).2.1 ⟨by decide, rfl⟩ (by decide) rfl rfl (Nat.le_of_ble_eq_true rfl) ⟨Nat.zero_le _, Nat.zero_le _⟩ (fun v τ hp => ?_)
      obtain ⟨rfl, rfl⟩ := hp
      change WW X _ 27 [.ref o, .int a1, .int a2, .int a3, .int a4] [.int p2.1] _
      refine ww_if_eq C dX1_addDeal_27 53 rfl (fun hc => ?_) (fun hc => ?_)
      · rw [if_pos hc] at H
        cases H
        exact ww_vret C E dX1_addDeal_53 ⟨rfl, rfl⟩
      · rw [if_neg hc] at H
        refine ww_aload_n C dX1_addDeal_30 0 rfl rfl ?_
        refine wk_getA C dX1_addDeal_31 fl_X1_20 hS.1 rfl (tX1_men hS).1 ?_
        refine ww_iload_n C dX1_addDeal_34 3 rfl rfl ?_
        obtain ⟨p3, hc1, H⟩ := bd_of H
        refine ww_callV C hZ dX1_addDeal_35 cw_X1_97 (ccX2_has (tX1_men hS).2 hc1) (tX1_men hS).2.1 ⟨by decide, rfl⟩ (by decide) rfl rfl (Nat.le_of_ble_eq_true rfl) ⟨Nat.zero_le _, Nat.zero_le _⟩ (fun v τ hp => ?_)
        obtain ⟨rfl, rfl⟩ := hp
        change WW X _ 38 [.ref o, .int a1, .int a2, .int a3, .int a4] [.int p3.1] _
        refine ww_if_eq C dX1_addDeal_38 53 rfl (fun hc => ?_) (fun hc => ?_)
        · rw [if_pos hc] at H
          cases H
          exact ww_vret C E dX1_addDeal_53 ⟨rfl, rfl⟩
        · rw [if_neg hc] at H
          refine ww_aload_n C dX1_addDeal_41 0 rfl rfl ?_
          refine wk_getA C dX1_addDeal_42 fl_X1_23 hS.1 rfl (tX1_matters hS).1 ?_
          refine ww_iload C dX1_addDeal_45 rfl ?_
          obtain ⟨p4, hc1, H⟩ := bd_of H
          refine ww_callV C hZ dX1_addDeal_47 cw_X1_97 (ccX2_has (tX1_matters hS).2 hc1) (tX1_matters hS).2.1 ⟨by decide, rfl⟩ (by decide) rfl rfl (Nat.le_of_ble_eq_true rfl) ⟨Nat.zero_le _, Nat.zero_le _⟩ (fun v τ hp => ?_)
          obtain ⟨rfl, rfl⟩ := hp
          change WW X _ 50 [.ref o, .int a1, .int a2, .int a3, .int a4] [.int p4.1] _
          refine ww_if_ne C dX1_addDeal_50 54 rfl (fun hc => ?_) (fun hc => ?_)
          · rw [if_neg hc] at H
            refine ww_aload_n C dX1_addDeal_54 0 rfl rfl ?_
            refine wk_getR C dX1_addDeal_55 fl_X1_48 hS.1 rfl (tX1_dealMan hS).1 ?_
            refine ww_aload_n C dX1_addDeal_58 0 rfl rfl ?_
            refine wk_getI C dX1_addDeal_59 fl_X1_80 hS.1 rfl ?_
            refine ww_iload_n C dX1_addDeal_62 1 rfl rfl ?_
            obtain ⟨hg, H⟩ := gd_of H
            refine wk_iastore C dX1_addDeal_63 (tX1_dealMan hS).2.1 (vp_of hg (tX1_dealMan hS).2.2) ((p4.2.1 o 17).toNatClampNeg) rfl ?_
            refine ww_aload_n C dX1_addDeal_64 0 rfl rfl ?_
            refine wk_getR C dX1_addDeal_65 fl_X1_51 hS.1 rfl (tX1_dealMatter hS).1 ?_
            refine ww_aload_n C dX1_addDeal_68 0 rfl rfl ?_
            refine wk_getI C dX1_addDeal_69 fl_X1_80 hS.1 rfl ?_
            refine ww_as (v := (p4.2.1 o 17)) (by rw [uI_n (by omega)]) ?_
            refine ww_iload_n C dX1_addDeal_72 2 rfl rfl ?_
            obtain ⟨hg, H⟩ := gd_of H
            refine wk_iastore C dX1_addDeal_73 (tX1_dealMatter hS).2.1 (vp_of hg (tX1_dealMatter hS).2.2) ((p4.2.1 o 17).toNatClampNeg) rfl ?_
            refine ww_aload_n C dX1_addDeal_74 0 rfl rfl ?_
            refine wk_getR C dX1_addDeal_75 fl_X1_54 hS.1 rfl (tX1_otherMan hS).1 ?_
            refine ww_aload_n C dX1_addDeal_78 0 rfl rfl ?_
            refine wk_getI C dX1_addDeal_79 fl_X1_80 hS.1 rfl ?_
            refine ww_as (v := (p4.2.1 o 17)) (by rw [uI_n (by omega), uI_n (by omega)]) ?_
            refine ww_iload_n C dX1_addDeal_82 3 rfl rfl ?_
            obtain ⟨hg, H⟩ := gd_of H
            refine wk_iastore C dX1_addDeal_83 (tX1_otherMan hS).2.1 (vp_of hg (tX1_otherMan hS).2.2) ((p4.2.1 o 17).toNatClampNeg) rfl ?_
            refine ww_aload_n C dX1_addDeal_84 0 rfl rfl ?_
            refine wk_getR C dX1_addDeal_85 fl_X1_57 hS.1 rfl (tX1_otherMatter hS).1 ?_
            refine ww_aload_n C dX1_addDeal_88 0 rfl rfl ?_
            refine wk_getI C dX1_addDeal_89 fl_X1_80 hS.1 rfl ?_
            refine ww_as (v := (p4.2.1 o 17)) (by rw [uI_n (by omega), uI_n (by omega), uI_n (by omega)]) ?_
            refine ww_iload C dX1_addDeal_92 rfl ?_
            obtain ⟨hg, H⟩ := gd_of H
            refine wk_iastore C dX1_addDeal_94 (tX1_otherMatter hS).2.1 (vp_of hg (tX1_otherMatter hS).2.2) ((p4.2.1 o 17).toNatClampNeg) rfl ?_
            refine ww_aload_n C dX1_addDeal_95 0 rfl rfl ?_
            refine ww_dup C dX1_addDeal_96 rfl ?_
            refine wk_getI C dX1_addDeal_97 fl_X1_80 hS.1 rfl ?_
            refine ww_as (v := (p4.2.1 o 17)) (by rw [uI_n (by omega), uI_n (by omega), uI_n (by omega), uI_n (by omega)]) ?_
            refine ww_iconst (v := (1 : Int32)) C dX1_addDeal_100 (by decide) ?_
            refine ww_iadd C dX1_addDeal_101 ?_
            refine wk_putI C dX1_addDeal_102 fl_X1_80 hS.1 rfl rfl ?_
            cases H
            exact ww_vret C E dX1_addDeal_105 ⟨rfl, rfl⟩
          · rw [if_pos hc] at H
            cases H
            exact ww_vret C E dX1_addDeal_53 ⟨rfl, rfl⟩
def fX1_isStool (o : Nat) (h : HI) (a1 : Int32) : Option (Int32 × HI) := ((fX2_has (o + 1) h a1).bind fun p1 => (if p1.1 = 0 then some ((0 : Int32), p1.2) else (if (((p1.2.1 o 4) >>> (a1 &&& 31)) &&& (1 : Int32)) = 0 then some ((0 : Int32), p1.2) else some ((1 : Int32), p1.2))))
set_option maxRecDepth 100000 in
set_option maxHeartbeats 4000000 in
theorem ccX1_isStool {l : Launch} {sh : Sh} {adr : Nat → Nat} {r : Nat → Nat → Option Nat} {o : Nat} (hS : HS sh r o) {h : HI} {a1 : Int32} {p : Int32 × HI} (H : fX1_isStool o h a1 = some p) : CC l yX1_isStool cX1_isStool 2 (some .boolean) 1 [.ref o, .int a1] sh adr (mk h r) (fun v τ => v = some (.int p.1) ∧ τ = mk p.2 r) := by
  refine CC.of (by decide) (Nat.le_of_ble_eq_true rfl) 0 [.ref o, .int a1] rfl (fun X _ C E hZ => ?_)
  rw [fX1_isStool] at H
  refine ww_aload_n C dX1_isStool_0 0 rfl rfl ?_
  refine wk_getA C dX1_isStool_1 fl_X1_14 hS.1 rfl (tX1_chairs hS).1 ?_
  refine ww_iload_n C dX1_isStool_4 1 rfl rfl ?_
  obtain ⟨p1, hc1, H⟩ := bd_of H
  refine ww_callV C hZ dX1_isStool_5 cw_X1_97 (ccX2_has (tX1_chairs hS).2 hc1) (tX1_chairs hS).2.1 ⟨by decide, rfl⟩ (by decide) rfl rfl (Nat.le_of_ble_eq_true rfl) ⟨Nat.zero_le _, Nat.zero_le _⟩ (fun v τ hp => ?_)
  obtain ⟨rfl, rfl⟩ := hp
  change WW X _ 8 [.ref o, .int a1] [.int p1.1] _
  refine ww_if_eq C dX1_isStool_8 26 rfl (fun hc => ?_) (fun hc => ?_)
  · rw [if_pos hc] at H
    refine ww_iconst (v := (0 : Int32)) C dX1_isStool_26 (by decide) ?_
    cases H
    exact ww_zret C E dX1_isStool_27 (Or.inl rfl) ⟨rfl, rfl⟩
  · rw [if_neg hc] at H
    refine ww_aload_n C dX1_isStool_11 0 rfl rfl ?_
    refine wk_getI C dX1_isStool_12 fl_X1_71 hS.1 rfl ?_
    refine ww_iload_n C dX1_isStool_15 1 rfl rfl ?_
    refine ww_ishr C dX1_isStool_16 ?_
    refine ww_iconst (v := (1 : Int32)) C dX1_isStool_17 (by decide) ?_
    refine ww_iand C dX1_isStool_18 ?_
    refine ww_if_eq C dX1_isStool_19 26 rfl (fun hc => ?_) (fun hc => ?_)
    · rw [if_pos hc] at H
      refine ww_iconst (v := (0 : Int32)) C dX1_isStool_26 (by decide) ?_
      cases H
      exact ww_zret C E dX1_isStool_27 (Or.inl rfl) ⟨rfl, rfl⟩
    · rw [if_neg hc] at H
      refine ww_iconst (v := (1 : Int32)) C dX1_isStool_22 (by decide) ?_
      refine ww_goto C dX1_isStool_23 27 rfl ?_
      cases H
      exact ww_zret C E dX1_isStool_27 (Or.inr rfl) ⟨rfl, rfl⟩
def fX1_boundMen_52 (o : Nat) (k : HI → Int32 → Option (Int32 × HI)) (kb : HI → Int32 → Int32 → Int32 → Int32 → Option (Int32 × HI)) (h : HI) (v1 : Int32) (v2 : Int32) (v3 : Int32) (v4 : Int32) : Option (Int32 × HI) := kb h v1 v2 v3 (v4 + (1 : Int32))
set_option maxRecDepth 100000 in
set_option maxHeartbeats 4000000 in
theorem cX1_boundMen_52 {X : CT} {sh : Sh} {adr : Nat → Nat} {r : Nat → Nat → Option Nat} {o : Nat} {p : Int32 × HI} (hS : HS sh r o) (C : CX X yX1_boundMen.cls cX1_boundMen 5 0) (hZ : SZX X adr) (E : RX X (some .int) sh adr (fun v τ => v = some (.int p.1) ∧ τ = mk p.2 r)) {k : HI → Int32 → Option (Int32 × HI)} {kb : HI → Int32 → Int32 → Int32 → Int32 → Option (Int32 × HI)} (hk : ∀ (h : HI) (v3 : Int32), k h v3 = some p → WW X (sh, adr, 0, 0) 58 [.ref o, .retAddr 0, .retAddr 0, .int v3, .retAddr 0] [] (mk h r)) (hb : ∀ (h : HI) (v1 : Int32) (v2 : Int32) (v3 : Int32) (v4 : Int32), kb h v1 v2 v3 v4 = some p → WW X (sh, adr, 0, 0) 5 [.ref o, .int v1, .int v2, .int v3, .int v4] [] (mk h r)) {h : HI} {v1 : Int32} {v2 : Int32} {v3 : Int32} {v4 : Int32} (H : fX1_boundMen_52 o k kb h v1 v2 v3 v4 = some p) : WW X (sh, adr, 0, 0) 52 [.ref o, .int v1, .int v2, .int v3, .int v4] [] (mk h r) := by
  rw [fX1_boundMen_52] at H
  refine ww_iinc (v := (v4 + (1 : Int32))) C dX1_boundMen_52 rfl rfl (by decide) rfl [.ref o, .int v1, .int v2, .int v3, .int (v4 + (1 : Int32))] rfl ?_
  refine ww_goto C dX1_boundMen_55 5 rfl ?_
  exact hb h v1 v2 v3 (v4 + (1 : Int32)) H
def fX1_boundMen_5 (o : Nat) (k : HI → Int32 → Option (Int32 × HI)) : Nat → HI → Int32 → Int32 → Int32 → Int32 → Option (Int32 × HI)
  | 0, _, _, _, _, _ => none
  | n + 1, h, v1, v2, v3, v4 => (if (h.1 o 17) ≤ v4 then k h v3 else (if (4 : Int32) ≤ v4 then k h v3 else (if inB v4 4 then (if (h.1 (o + 15) (v4.toNatClampNeg)) = v1 then (if ((v2 >>> (v4 &&& 31)) &&& (1 : Int32)) = 0 then fX1_boundMen_52 o (k) (fX1_boundMen_5 o k n) h v1 v2 v3 v4 else (if inB v4 4 then fX1_boundMen_52 o (k) (fX1_boundMen_5 o k n) h v1 v2 (v3 ||| ((1 : Int32) <<< ((h.1 (o + 14) (v4.toNatClampNeg)) &&& 31))) v4 else none)) else fX1_boundMen_52 o (k) (fX1_boundMen_5 o k n) h v1 v2 v3 v4) else none)))
set_option maxRecDepth 100000 in
set_option maxHeartbeats 4000000 in
theorem cX1_boundMen_5 {X : CT} {sh : Sh} {adr : Nat → Nat} {r : Nat → Nat → Option Nat} {o : Nat} {p : Int32 × HI} (hS : HS sh r o) (C : CX X yX1_boundMen.cls cX1_boundMen 5 0) (hZ : SZX X adr) (E : RX X (some .int) sh adr (fun v τ => v = some (.int p.1) ∧ τ = mk p.2 r)) {k : HI → Int32 → Option (Int32 × HI)} (hk : ∀ (h : HI) (v3 : Int32), k h v3 = some p → WW X (sh, adr, 0, 0) 58 [.ref o, .retAddr 0, .retAddr 0, .int v3, .retAddr 0] [] (mk h r)) : ∀ (n : Nat) (h : HI) (v1 : Int32) (v2 : Int32) (v3 : Int32) (v4 : Int32), fX1_boundMen_5 o k n h v1 v2 v3 v4 = some p → WW X (sh, adr, 0, 0) 5 [.ref o, .int v1, .int v2, .int v3, .int v4] [] (mk h r) := by
  intro n
  induction n with
  | zero =>
    intro h v1 v2 v3 v4 H
    rw [fX1_boundMen_5] at H
    cases H
  | succ n ih =>
    intro h v1 v2 v3 v4 H
    rw [fX1_boundMen_5] at H
    refine ww_iload C dX1_boundMen_5 rfl ?_
    refine ww_aload_n C dX1_boundMen_7 0 rfl rfl ?_
    refine wk_getI C dX1_boundMen_8 fl_X1_80 hS.1 rfl ?_
    refine ww_icmp_ge C dX1_boundMen_11 58 rfl (fun hc => ?_) (fun hc => ?_)
    · rw [if_pos hc] at H
      exact ww_drop [.ref o, .retAddr 0, .retAddr 0, .int v3, .retAddr 0] (sl_e (sl_d (sl_d (sl_e (sl_d sl_n))))) (hk h v3 H)
    · rw [if_neg hc] at H
      refine ww_iload C dX1_boundMen_14 rfl ?_
      refine ww_iconst (v := (4 : Int32)) C dX1_boundMen_16 (by decide) ?_
      refine ww_icmp_ge C dX1_boundMen_17 58 rfl (fun hc => ?_) (fun hc => ?_)
      · rw [if_pos hc] at H
        exact ww_drop [.ref o, .retAddr 0, .retAddr 0, .int v3, .retAddr 0] (sl_e (sl_d (sl_d (sl_e (sl_d sl_n))))) (hk h v3 H)
      · rw [if_neg hc] at H
        refine ww_aload_n C dX1_boundMen_20 0 rfl rfl ?_
        refine wk_getR C dX1_boundMen_21 fl_X1_51 hS.1 rfl (tX1_dealMatter hS).1 ?_
        refine ww_iload C dX1_boundMen_24 rfl ?_
        obtain ⟨hg, H⟩ := gd_of H
        refine wk_iaload C dX1_boundMen_26 (tX1_dealMatter hS).2.1 (vp_of hg (tX1_dealMatter hS).2.2) (v4.toNatClampNeg) rfl ?_
        refine ww_iload_n C dX1_boundMen_27 1 rfl rfl ?_
        refine ww_icmp_ne C dX1_boundMen_28 52 rfl (fun hc => ?_) (fun hc => ?_)
        · rw [if_neg hc] at H
          exact cX1_boundMen_52 hS C hZ E hk ih H
        · rw [if_pos hc] at H
          refine ww_iload_n C dX1_boundMen_31 2 rfl rfl ?_
          refine ww_iload C dX1_boundMen_32 rfl ?_
          refine ww_ishr C dX1_boundMen_34 ?_
          refine ww_iconst (v := (1 : Int32)) C dX1_boundMen_35 (by decide) ?_
          refine ww_iand C dX1_boundMen_36 ?_
          refine ww_if_eq C dX1_boundMen_37 52 rfl (fun hc => ?_) (fun hc => ?_)
          · rw [if_pos hc] at H
            exact cX1_boundMen_52 hS C hZ E hk ih H
          · rw [if_neg hc] at H
            refine ww_iload_n C dX1_boundMen_40 3 rfl rfl ?_
            refine ww_iconst (v := (1 : Int32)) C dX1_boundMen_41 (by decide) ?_
            refine ww_aload_n C dX1_boundMen_42 0 rfl rfl ?_
            refine wk_getR C dX1_boundMen_43 fl_X1_48 hS.1 rfl (tX1_dealMan hS).1 ?_
            refine ww_iload C dX1_boundMen_46 rfl ?_
            obtain ⟨hg, H⟩ := gd_of H
            refine wk_iaload C dX1_boundMen_48 (tX1_dealMan hS).2.1 (vp_of hg (tX1_dealMan hS).2.2) (v4.toNatClampNeg) rfl ?_
            refine ww_ishl C dX1_boundMen_49 ?_
            refine ww_ior C dX1_boundMen_50 ?_
            refine ww_istore_n C dX1_boundMen_51 3 rfl (by decide) rfl [.ref o, .int v1, .int v2, .int (v3 ||| ((1 : Int32) <<< ((h.1 (o + 14) (v4.toNatClampNeg)) &&& 31))), .int v4] rfl ?_
            exact cX1_boundMen_52 hS C hZ E hk ih H
def fX1_boundMen (o : Nat) (h : HI) (a1 : Int32) (a2 : Int32) : Option (Int32 × HI) := fX1_boundMen_5 o (fun h2 v3 => some (v3, h2)) FU h a1 a2 (0 : Int32) (0 : Int32)
set_option maxRecDepth 100000 in
set_option maxHeartbeats 4000000 in
theorem ccX1_boundMen {l : Launch} {sh : Sh} {adr : Nat → Nat} {r : Nat → Nat → Option Nat} {o : Nat} (hS : HS sh r o) {h : HI} {a1 : Int32} {a2 : Int32} {p : Int32 × HI} (H : fX1_boundMen o h a1 a2 = some p) : CC l yX1_boundMen cX1_boundMen 5 (some .int) 0 [.ref o, .int a1, .int a2] sh adr (mk h r) (fun v τ => v = some (.int p.1) ∧ τ = mk p.2 r) := by
  refine CC.of (by decide) (Nat.le_of_ble_eq_true rfl) 2 [.ref o, .int a1, .int a2, .retAddr 0, .retAddr 0] rfl (fun X _ C E hZ => ?_)
  rw [fX1_boundMen] at H
  refine ww_iconst (v := (0 : Int32)) C dX1_boundMen_0 (by decide) ?_
  refine ww_istore_n C dX1_boundMen_1 3 rfl (by decide) rfl [.ref o, .int a1, .int a2, .int (0 : Int32), .retAddr 0] rfl ?_
  refine ww_iconst (v := (0 : Int32)) C dX1_boundMen_2 (by decide) ?_
  refine ww_istore C dX1_boundMen_3 (by decide) rfl [.ref o, .int a1, .int a2, .int (0 : Int32), .int (0 : Int32)] rfl ?_
  refine cX1_boundMen_5 hS C hZ E (fun h2 v3 H => ?_) FU h a1 a2 (0 : Int32) (0 : Int32) H
  refine ww_iload_n C dX1_boundMen_58 3 rfl rfl ?_
  cases H
  exact ww_iret C E dX1_boundMen_59 ⟨rfl, rfl⟩
def fX2_find_2 (o : Nat) (N : Nat) (k : HI → Option (Int32 × HI)) : Nat → HI → Int64 → Int32 → Option (Int32 × HI)
  | 0, _, _, _ => none
  | n + 1, h, v1, v3 => (if (h.1 o 1) ≤ v3 then k h else (if (nI N) ≤ v3 then k h else (if inB v3 N then (if (lg_cmp (h.2 (o + 1) (v3.toNatClampNeg)) v1) = 0 then some (v3, h) else fX2_find_2 o N k n h v1 (v3 + (1 : Int32))) else none)))
set_option maxRecDepth 100000 in
set_option maxHeartbeats 4000000 in
theorem cX2_find_2 {X : CT} {sh : Sh} {adr : Nat → Nat} {r : Nat → Nat → Option Nat} {o : Nat} {N : Nat} {p : Int32 × HI} (hS : NS sh r N o) (C : CX X yX2_find.cls cX2_find 4 0) (hZ : SZX X adr) (E : RX X (some .int) sh adr (fun v τ => v = some (.int p.1) ∧ τ = mk p.2 r)) {k : HI → Option (Int32 × HI)} (hk : ∀ (h : HI), k h = some p → WW X (sh, adr, 0, 0) 38 [.ref o, .retAddr 0, .retAddr 0, .retAddr 0] [] (mk h r)) : ∀ (n : Nat) (h : HI) (v1 : Int64) (v3 : Int32), fX2_find_2 o N k n h v1 v3 = some p → WW X (sh, adr, 0, 0) 2 [.ref o, .long v1, .retAddr 0, .int v3] [] (mk h r) := by
  intro n
  induction n with
  | zero =>
    intro h v1 v3 H
    rw [fX2_find_2] at H
    cases H
  | succ n ih =>
    intro h v1 v3 H
    rw [fX2_find_2] at H
    refine ww_iload_n C dX2_find_2 3 rfl rfl ?_
    refine ww_aload_n C dX2_find_3 0 rfl rfl ?_
    refine wk_getI C dX2_find_4 fl_X2_21 hS.1 rfl ?_
    refine ww_icmp_ge C dX2_find_7 38 rfl (fun hc => ?_) (fun hc => ?_)
    · rw [if_pos hc] at H
      exact ww_drop [.ref o, .retAddr 0, .retAddr 0, .retAddr 0] (sl_e (sl_d (sl_e (sl_d sl_n)))) (hk h H)
    · rw [if_neg hc] at H
      refine ww_iload_n C dX2_find_10 3 rfl rfl ?_
      refine ww_aload_n C dX2_find_11 0 rfl rfl ?_
      refine wk_getR C dX2_find_12 fl_X2_15 hS.1 rfl (tX2_names hS).1 ?_
      refine wk_alenJ C dX2_find_15 (tX2_names hS).2.1 (tX2_names hS).2.2 ?_
      refine ww_icmp_ge C dX2_find_16 38 rfl (fun hc => ?_) (fun hc => ?_)
      · rw [if_pos hc] at H
        exact ww_drop [.ref o, .retAddr 0, .retAddr 0, .retAddr 0] (sl_e (sl_d (sl_e (sl_d sl_n)))) (hk h H)
      · rw [if_neg hc] at H
        refine ww_aload_n C dX2_find_19 0 rfl rfl ?_
        refine wk_getR C dX2_find_20 fl_X2_15 hS.1 rfl (tX2_names hS).1 ?_
        refine ww_iload_n C dX2_find_23 3 rfl rfl ?_
        obtain ⟨hg, H⟩ := gd_of H
        refine wk_laload C dX2_find_24 (tX2_names hS).2.1 (vp_of hg (tX2_names hS).2.2) (v3.toNatClampNeg) rfl ?_
        refine ww_lload_n C dX2_find_25 1 rfl rfl ?_
        refine ww_lcmp C dX2_find_26 ?_
        refine ww_if_ne C dX2_find_27 32 rfl (fun hc => ?_) (fun hc => ?_)
        · rw [if_neg hc] at H
          refine ww_iinc (v := (v3 + (1 : Int32))) C dX2_find_32 rfl rfl (by decide) rfl [.ref o, .long v1, .retAddr 0, .int (v3 + (1 : Int32))] rfl ?_
          refine ww_goto C dX2_find_35 2 rfl ?_
          exact ih h v1 (v3 + (1 : Int32)) H
        · rw [if_pos hc] at H
          refine ww_iload_n C dX2_find_30 3 rfl rfl ?_
          cases H
          exact ww_iret C E dX2_find_31 ⟨rfl, rfl⟩
def fX2_find (o : Nat) (N : Nat) (h : HI) (a1 : Int64) : Option (Int32 × HI) := fX2_find_2 o N (fun h2 => some ((-1 : Int32), h2)) FU h a1 (0 : Int32)
set_option maxRecDepth 100000 in
set_option maxHeartbeats 4000000 in
theorem ccX2_find {l : Launch} {sh : Sh} {adr : Nat → Nat} {r : Nat → Nat → Option Nat} {o : Nat} {N : Nat} (hS : NS sh r N o) {h : HI} {a1 : Int64} {p : Int32 × HI} (H : fX2_find o N h a1 = some p) : CC l yX2_find cX2_find 4 (some .int) 0 [.ref o, .long a1] sh adr (mk h r) (fun v τ => v = some (.int p.1) ∧ τ = mk p.2 r) := by
  refine CC.of (by decide) (Nat.le_of_ble_eq_true rfl) 1 [.ref o, .long a1, .retAddr 0, .retAddr 0] rfl (fun X _ C E hZ => ?_)
  rw [fX2_find] at H
  refine ww_iconst (v := (0 : Int32)) C dX2_find_0 (by decide) ?_
  refine ww_istore_n C dX2_find_1 3 rfl (by decide) rfl [.ref o, .long a1, .retAddr 0, .int (0 : Int32)] rfl ?_
  refine cX2_find_2 hS C hZ E (fun h2 H => ?_) FU h a1 (0 : Int32) H
  refine ww_iconst (v := (-1 : Int32)) C dX2_find_38 (by decide) ?_
  cases H
  exact ww_iret C E dX2_find_39 ⟨rfl, rfl⟩
def fX5_begin (o : Nat) (h : HI) : Option (HI) := some (uI (uI (uI h o 4 (1 : Int32)) o 3 (0 : Int32)) o 2 (0 : Int32))
set_option maxRecDepth 100000 in
set_option maxHeartbeats 4000000 in
theorem ccX5_begin {l : Launch} {sh : Sh} {adr : Nat → Nat} {r : Nat → Nat → Option Nat} {o : Nat} (hS : US sh r o) {h : HI}  {p : HI} (H : fX5_begin o h = some p) : CC l yX5_begin cX5_begin 1 none 0 [.ref o] sh adr (mk h r) (fun v τ => v = none ∧ τ = mk p r) := by
  refine CC.of (by decide) (Nat.le_of_ble_eq_true rfl) 0 [.ref o] rfl (fun X _ C E hZ => ?_)
  rw [fX5_begin] at H
  refine ww_aload_n C dX5_begin_0 0 rfl rfl ?_
  refine ww_iconst (v := (1 : Int32)) C dX5_begin_1 (by decide) ?_
  refine wk_putZ C dX5_begin_2 fl_X5_21 hS.1 rfl rfl (Or.inr rfl) ?_
  refine ww_aload_n C dX5_begin_5 0 rfl rfl ?_
  refine ww_iconst (v := (0 : Int32)) C dX5_begin_6 (by decide) ?_
  refine wk_putI C dX5_begin_7 fl_X5_25 hS.1 rfl rfl ?_
  refine ww_aload_n C dX5_begin_10 0 rfl rfl ?_
  refine ww_iconst (v := (0 : Int32)) C dX5_begin_11 (by decide) ?_
  refine wk_putI C dX5_begin_12 fl_X5_31 hS.1 rfl rfl ?_
  cases H
  exact ww_vret C E dX5_begin_15 ⟨rfl, rfl⟩
def fX5_addNumber (o : Nat) (h : HI) (a1 : Int32) : Option (HI) := (if (400 : Int32) ≤ (h.1 o 2) then some h else (if inB (h.1 o 2) 400 then some (uI (uI h (o + 1) ((h.1 o 2).toNatClampNeg) a1) o 2 ((h.1 o 2) + (1 : Int32))) else none))
set_option maxRecDepth 100000 in
set_option maxHeartbeats 4000000 in
theorem ccX5_addNumber {l : Launch} {sh : Sh} {adr : Nat → Nat} {r : Nat → Nat → Option Nat} {o : Nat} (hS : US sh r o) {h : HI} {a1 : Int32} {p : HI} (H : fX5_addNumber o h a1 = some p) : CC l yX5_addNumber cX5_addNumber 2 none 0 [.ref o, .int a1] sh adr (mk h r) (fun v τ => v = none ∧ τ = mk p r) := by
  refine CC.of (by decide) (Nat.le_of_ble_eq_true rfl) 0 [.ref o, .int a1] rfl (fun X _ C E hZ => ?_)
  rw [fX5_addNumber] at H
  refine ww_aload_n C dX5_addNumber_0 0 rfl rfl ?_
  refine wk_getI C dX5_addNumber_1 fl_X5_31 hS.1 rfl ?_
  refine ww_sipush (v := (400 : Int32)) C dX5_addNumber_4 (by decide) ?_
  refine ww_icmp_ge C dX5_addNumber_7 30 rfl (fun hc => ?_) (fun hc => ?_)
  · rw [if_pos hc] at H
    cases H
    exact ww_vret C E dX5_addNumber_30 ⟨rfl, rfl⟩
  · rw [if_neg hc] at H
    refine ww_aload_n C dX5_addNumber_10 0 rfl rfl ?_
    refine wk_getR C dX5_addNumber_11 fl_X5_11 hS.1 rfl (tX5_steps hS).1 ?_
    refine ww_aload_n C dX5_addNumber_14 0 rfl rfl ?_
    refine wk_getI C dX5_addNumber_15 fl_X5_31 hS.1 rfl ?_
    refine ww_iload_n C dX5_addNumber_18 1 rfl rfl ?_
    obtain ⟨hg, H⟩ := gd_of H
    refine wk_iastore C dX5_addNumber_19 (tX5_steps hS).2.1 (vp_of hg (tX5_steps hS).2.2) ((h.1 o 2).toNatClampNeg) rfl ?_
    refine ww_aload_n C dX5_addNumber_20 0 rfl rfl ?_
    refine ww_dup C dX5_addNumber_21 rfl ?_
    refine wk_getI C dX5_addNumber_22 fl_X5_31 hS.1 rfl ?_
    refine ww_as (v := (h.1 o 2)) (by rw [uI_n (by omega)]) ?_
    refine ww_iconst (v := (1 : Int32)) C dX5_addNumber_25 (by decide) ?_
    refine ww_iadd C dX5_addNumber_26 ?_
    refine wk_putI C dX5_addNumber_27 fl_X5_31 hS.1 rfl rfl ?_
    cases H
    exact ww_vret C E dX5_addNumber_30 ⟨rfl, rfl⟩
def fX5_addToken (o : Nat) (h : HI) (a1 : Int32) : Option (HI) := ((fX5_addNumber o h ((10000 : Int32) + a1)).bind fun h1 => some h1)
set_option maxRecDepth 100000 in
set_option maxHeartbeats 4000000 in
theorem ccX5_addToken {l : Launch} {sh : Sh} {adr : Nat → Nat} {r : Nat → Nat → Option Nat} {o : Nat} (hS : US sh r o) {h : HI} {a1 : Int32} {p : HI} (H : fX5_addToken o h a1 = some p) : CC l yX5_addToken cX5_addToken 2 none 1 [.ref o, .int a1] sh adr (mk h r) (fun v τ => v = none ∧ τ = mk p r) := by
  refine CC.of (by decide) (Nat.le_of_ble_eq_true rfl) 0 [.ref o, .int a1] rfl (fun X _ C E hZ => ?_)
  rw [fX5_addToken] at H
  refine ww_aload_n C dX5_addToken_0 0 rfl rfl ?_
  refine ww_sipush (v := (10000 : Int32)) C dX5_addToken_1 (by decide) ?_
  refine ww_iload_n C dX5_addToken_4 1 rfl rfl ?_
  refine ww_iadd C dX5_addToken_5 ?_
  obtain ⟨h1, hc1, H⟩ := bd_of H
  refine ww_callV C hZ dX5_addToken_6 cw_X5_34 (ccX5_addNumber hS hc1) hS.1 ⟨by decide, rfl⟩ (by decide) rfl rfl (Nat.le_of_ble_eq_true rfl) ⟨Nat.zero_le _, Nat.zero_le _⟩ (fun v τ hp => ?_)
  obtain ⟨rfl, rfl⟩ := hp
  change WW X _ 9 [.ref o, .int a1] [] _
  cases H
  exact ww_vret C E dX5_addToken_9 ⟨rfl, rfl⟩
def fX5_isOperand (h : HI) (a0 : Int32) : Option (Int32 × HI) := (if a0 < (10000 : Int32) then some ((1 : Int32), h) else (if a0 < (10144 : Int32) then some ((0 : Int32), h) else (if (10148 : Int32) < a0 then some ((0 : Int32), h) else some ((1 : Int32), h))))
set_option maxRecDepth 100000 in
set_option maxHeartbeats 4000000 in
theorem ccX5_isOperand {l : Launch} {sh : Sh} {adr : Nat → Nat} {r : Nat → Nat → Option Nat} {h : HI} {a0 : Int32} {p : Int32 × HI} (H : fX5_isOperand h a0 = some p) : CC l yX5_isOperand cX5_isOperand 1 (some .boolean) 0 [.int a0] sh adr (mk h r) (fun v τ => v = some (.int p.1) ∧ τ = mk p.2 r) := by
  refine CC.of (by decide) (Nat.le_of_ble_eq_true rfl) 0 [.int a0] rfl (fun X _ C E hZ => ?_)
  rw [fX5_isOperand] at H
  refine ww_iload_n C dX5_isOperand_0 0 rfl rfl ?_
  refine ww_sipush (v := (10000 : Int32)) C dX5_isOperand_1 (by decide) ?_
  refine ww_icmp_lt C dX5_isOperand_4 21 rfl (fun hc => ?_) (fun hc => ?_)
  · rw [if_pos hc] at H
    refine ww_iconst (v := (1 : Int32)) C dX5_isOperand_21 (by decide) ?_
    refine ww_goto C dX5_isOperand_22 26 rfl ?_
    cases H
    exact ww_zret C E dX5_isOperand_26 (Or.inr rfl) ⟨rfl, rfl⟩
  · rw [if_neg hc] at H
    refine ww_iload_n C dX5_isOperand_7 0 rfl rfl ?_
    refine ww_sipush (v := (10144 : Int32)) C dX5_isOperand_8 (by decide) ?_
    refine ww_icmp_lt C dX5_isOperand_11 25 rfl (fun hc => ?_) (fun hc => ?_)
    · rw [if_pos hc] at H
      refine ww_iconst (v := (0 : Int32)) C dX5_isOperand_25 (by decide) ?_
      cases H
      exact ww_zret C E dX5_isOperand_26 (Or.inl rfl) ⟨rfl, rfl⟩
    · rw [if_neg hc] at H
      refine ww_iload_n C dX5_isOperand_14 0 rfl rfl ?_
      refine ww_sipush (v := (10148 : Int32)) C dX5_isOperand_15 (by decide) ?_
      refine ww_icmp_gt C dX5_isOperand_18 25 rfl (fun hc => ?_) (fun hc => ?_)
      · rw [if_pos hc] at H
        refine ww_iconst (v := (0 : Int32)) C dX5_isOperand_25 (by decide) ?_
        cases H
        exact ww_zret C E dX5_isOperand_26 (Or.inl rfl) ⟨rfl, rfl⟩
      · rw [if_neg hc] at H
        refine ww_iconst (v := (1 : Int32)) C dX5_isOperand_21 (by decide) ?_
        refine ww_goto C dX5_isOperand_22 26 rfl ?_
        cases H
        exact ww_zret C E dX5_isOperand_26 (Or.inr rfl) ⟨rfl, rfl⟩
def fX5_join (h : HI) (a0 : Int32) (a1 : Int32) (a2 : Int32) : Option (Int32 × HI) := (if a0 = (43 : Int32) then some ((a1 + a2), h) else (if a0 = (45 : Int32) then some ((a1 - a2), h) else (if a0 = (60 : Int32) then (if a2 ≤ a1 then some ((0 : Int32), h) else some ((1 : Int32), h)) else (if a0 = (61 : Int32) then (if a1 = a2 then some ((1 : Int32), h) else some ((0 : Int32), h)) else (if a0 = (62 : Int32) then (if a1 ≤ a2 then some ((0 : Int32), h) else some ((1 : Int32), h)) else (if a0 = (141 : Int32) then (if a1 = 0 then (if a2 = 0 then some ((0 : Int32), h) else some ((1 : Int32), h)) else some ((1 : Int32), h)) else (if a0 = (142 : Int32) then (if a1 = 0 then some ((0 : Int32), h) else (if a2 = 0 then some ((0 : Int32), h) else some ((1 : Int32), h))) else some ((a1 * a2), h))))))))
set_option maxRecDepth 100000 in
set_option maxHeartbeats 4000000 in
theorem ccX5_join {l : Launch} {sh : Sh} {adr : Nat → Nat} {r : Nat → Nat → Option Nat} {h : HI} {a0 : Int32} {a1 : Int32} {a2 : Int32} {p : Int32 × HI} (H : fX5_join h a0 a1 a2 = some p) : CC l yX5_join cX5_join 3 (some .int) 0 [.int a0, .int a1, .int a2] sh adr (mk h r) (fun v τ => v = some (.int p.1) ∧ τ = mk p.2 r) := by
  refine CC.of (by decide) (Nat.le_of_ble_eq_true rfl) 0 [.int a0, .int a1, .int a2] rfl (fun X _ C E hZ => ?_)
  rw [fX5_join] at H
  refine ww_iload_n C dX5_join_0 0 rfl rfl ?_
  by_cases hc0 : a0 = (43 : Int32)
  · rw [if_pos hc0] at H
    refine ww_lookup (off := 128) C dX5_join_1 (by decide) (by rw [hc0]; rfl) 129 rfl ?_
    refine ww_iload_n C dX5_join_129 1 rfl rfl ?_
    refine ww_iload_n C dX5_join_130 2 rfl rfl ?_
    refine ww_iadd C dX5_join_131 ?_
    cases H
    exact ww_iret C E dX5_join_132 ⟨rfl, rfl⟩
  · rw [if_neg hc0] at H
    by_cases hc1 : a0 = (45 : Int32)
    · rw [if_pos hc1] at H
      refine ww_lookup (off := 132) C dX5_join_1 (by decide) (by rw [hc1]; rfl) 133 rfl ?_
      refine ww_iload_n C dX5_join_133 1 rfl rfl ?_
      refine ww_iload_n C dX5_join_134 2 rfl rfl ?_
      refine ww_isub C dX5_join_135 ?_
      cases H
      exact ww_iret C E dX5_join_136 ⟨rfl, rfl⟩
    · rw [if_neg hc1] at H
      by_cases hc2 : a0 = (60 : Int32)
      · rw [if_pos hc2] at H
        refine ww_lookup (off := 95) C dX5_join_1 (by decide) (by rw [hc2]; rfl) 96 rfl ?_
        refine ww_iload_n C dX5_join_96 1 rfl rfl ?_
        refine ww_iload_n C dX5_join_97 2 rfl rfl ?_
        refine ww_icmp_ge C dX5_join_98 105 rfl (fun hc => ?_) (fun hc => ?_)
        · rw [if_pos hc] at H
          refine ww_iconst (v := (0 : Int32)) C dX5_join_105 (by decide) ?_
          cases H
          exact ww_iret C E dX5_join_106 ⟨rfl, rfl⟩
        · rw [if_neg hc] at H
          refine ww_iconst (v := (1 : Int32)) C dX5_join_101 (by decide) ?_
          refine ww_goto C dX5_join_102 106 rfl ?_
          cases H
          exact ww_iret C E dX5_join_106 ⟨rfl, rfl⟩
      · rw [if_neg hc2] at H
        by_cases hc3 : a0 = (61 : Int32)
        · rw [if_pos hc3] at H
          refine ww_lookup (off := 117) C dX5_join_1 (by decide) (by rw [hc3]; rfl) 118 rfl ?_
          refine ww_iload_n C dX5_join_118 1 rfl rfl ?_
          refine ww_iload_n C dX5_join_119 2 rfl rfl ?_
          refine ww_icmp_ne C dX5_join_120 127 rfl (fun hc => ?_) (fun hc => ?_)
          · rw [if_neg hc] at H
            refine ww_iconst (v := (0 : Int32)) C dX5_join_127 (by decide) ?_
            cases H
            exact ww_iret C E dX5_join_128 ⟨rfl, rfl⟩
          · rw [if_pos hc] at H
            refine ww_iconst (v := (1 : Int32)) C dX5_join_123 (by decide) ?_
            refine ww_goto C dX5_join_124 128 rfl ?_
            cases H
            exact ww_iret C E dX5_join_128 ⟨rfl, rfl⟩
        · rw [if_neg hc3] at H
          by_cases hc4 : a0 = (62 : Int32)
          · rw [if_pos hc4] at H
            refine ww_lookup (off := 106) C dX5_join_1 (by decide) (by rw [hc4]; rfl) 107 rfl ?_
            refine ww_iload_n C dX5_join_107 1 rfl rfl ?_
            refine ww_iload_n C dX5_join_108 2 rfl rfl ?_
            refine ww_icmp_le C dX5_join_109 116 rfl (fun hc => ?_) (fun hc => ?_)
            · rw [if_pos hc] at H
              refine ww_iconst (v := (0 : Int32)) C dX5_join_116 (by decide) ?_
              cases H
              exact ww_iret C E dX5_join_117 ⟨rfl, rfl⟩
            · rw [if_neg hc] at H
              refine ww_iconst (v := (1 : Int32)) C dX5_join_112 (by decide) ?_
              refine ww_goto C dX5_join_113 117 rfl ?_
              cases H
              exact ww_iret C E dX5_join_117 ⟨rfl, rfl⟩
          · rw [if_neg hc4] at H
            by_cases hc5 : a0 = (141 : Int32)
            · rw [if_pos hc5] at H
              refine ww_lookup (off := 67) C dX5_join_1 (by decide) (by rw [hc5]; rfl) 68 rfl ?_
              refine ww_iload_n C dX5_join_68 1 rfl rfl ?_
              refine ww_if_ne C dX5_join_69 76 rfl (fun hc => ?_) (fun hc => ?_)
              · rw [if_neg hc] at H
                refine ww_iconst (v := (1 : Int32)) C dX5_join_76 (by decide) ?_
                refine ww_goto C dX5_join_77 81 rfl ?_
                cases H
                exact ww_iret C E dX5_join_81 ⟨rfl, rfl⟩
              · rw [if_pos hc] at H
                refine ww_iload_n C dX5_join_72 2 rfl rfl ?_
                refine ww_if_eq C dX5_join_73 80 rfl (fun hc => ?_) (fun hc => ?_)
                · rw [if_pos hc] at H
                  refine ww_iconst (v := (0 : Int32)) C dX5_join_80 (by decide) ?_
                  cases H
                  exact ww_iret C E dX5_join_81 ⟨rfl, rfl⟩
                · rw [if_neg hc] at H
                  refine ww_iconst (v := (1 : Int32)) C dX5_join_76 (by decide) ?_
                  refine ww_goto C dX5_join_77 81 rfl ?_
                  cases H
                  exact ww_iret C E dX5_join_81 ⟨rfl, rfl⟩
            · rw [if_neg hc5] at H
              by_cases hc6 : a0 = (142 : Int32)
              · rw [if_pos hc6] at H
                refine ww_lookup (off := 81) C dX5_join_1 (by decide) (by rw [hc6]; rfl) 82 rfl ?_
                refine ww_iload_n C dX5_join_82 1 rfl rfl ?_
                refine ww_if_eq C dX5_join_83 94 rfl (fun hc => ?_) (fun hc => ?_)
                · rw [if_pos hc] at H
                  refine ww_iconst (v := (0 : Int32)) C dX5_join_94 (by decide) ?_
                  cases H
                  exact ww_iret C E dX5_join_95 ⟨rfl, rfl⟩
                · rw [if_neg hc] at H
                  refine ww_iload_n C dX5_join_86 2 rfl rfl ?_
                  refine ww_if_eq C dX5_join_87 94 rfl (fun hc => ?_) (fun hc => ?_)
                  · rw [if_pos hc] at H
                    refine ww_iconst (v := (0 : Int32)) C dX5_join_94 (by decide) ?_
                    cases H
                    exact ww_iret C E dX5_join_95 ⟨rfl, rfl⟩
                  · rw [if_neg hc] at H
                    refine ww_iconst (v := (1 : Int32)) C dX5_join_90 (by decide) ?_
                    refine ww_goto C dX5_join_91 95 rfl ?_
                    cases H
                    exact ww_iret C E dX5_join_95 ⟨rfl, rfl⟩
              · rw [if_neg hc6] at H
                refine ww_lookup (off := 136) C dX5_join_1 (by decide) (by show Op.lookupswitch.offset [(43, 128), (45, 132), (60, 95), (61, 117), (62, 106), (141, 67), (142, 81)] 136 _ = _; rw [lv_osw (k := (43 : Int32)) hc0 (by decide), lv_osw (k := (45 : Int32)) hc1 (by decide), lv_osw (k := (60 : Int32)) hc2 (by decide), lv_osw (k := (61 : Int32)) hc3 (by decide), lv_osw (k := (62 : Int32)) hc4 (by decide), lv_osw (k := (141 : Int32)) hc5 (by decide), lv_osw (k := (142 : Int32)) hc6 (by decide)]; rfl) 137 rfl ?_
                refine ww_iload_n C dX5_join_137 1 rfl rfl ?_
                refine ww_iload_n C dX5_join_138 2 rfl rfl ?_
                refine ww_imul C dX5_join_139 ?_
                cases H
                exact ww_iret C E dX5_join_140 ⟨rfl, rfl⟩
def fX5_operand (h : HI) (a0 : Int32) (a1 : Int32) (a2 : Int32) (a3 : Int32) (a4 : Int32) : Option (Int32 × HI) := (if (a0 - (10000 : Int32)) = (144 : Int32) then some (a1, h) else (if (a0 - (10000 : Int32)) = (145 : Int32) then some (a2, h) else (if (a0 - (10000 : Int32)) = (146 : Int32) then some (a3, h) else (if (a0 - (10000 : Int32)) = (147 : Int32) then some (a4, h) else (if (a0 - (10000 : Int32)) = (148 : Int32) then some ((a3 + a4), h) else some (a0, h))))))
set_option maxRecDepth 100000 in
set_option maxHeartbeats 4000000 in
theorem ccX5_operand {l : Launch} {sh : Sh} {adr : Nat → Nat} {r : Nat → Nat → Option Nat} {h : HI} {a0 : Int32} {a1 : Int32} {a2 : Int32} {a3 : Int32} {a4 : Int32} {p : Int32 × HI} (H : fX5_operand h a0 a1 a2 a3 a4 = some p) : CC l yX5_operand cX5_operand 5 (some .int) 0 [.int a0, .int a1, .int a2, .int a3, .int a4] sh adr (mk h r) (fun v τ => v = some (.int p.1) ∧ τ = mk p.2 r) := by
  refine CC.of (by decide) (Nat.le_of_ble_eq_true rfl) 0 [.int a0, .int a1, .int a2, .int a3, .int a4] rfl (fun X _ C E hZ => ?_)
  rw [fX5_operand] at H
  refine ww_iload_n C dX5_operand_0 0 rfl rfl ?_
  refine ww_sipush (v := (10000 : Int32)) C dX5_operand_1 (by decide) ?_
  refine ww_isub C dX5_operand_4 ?_
  by_cases hc0 : (a0 - (10000 : Int32)) = (144 : Int32)
  · rw [if_pos hc0] at H
    refine ww_tableIn (off := 35) C dX5_operand_5 (by rw [hc0]; decide) (by rw [hc0]; decide) (by rw [hc0]; rfl) 40 rfl ?_
    refine ww_iload_n C dX5_operand_40 1 rfl rfl ?_
    cases H
    exact ww_iret C E dX5_operand_41 ⟨rfl, rfl⟩
  · rw [if_neg hc0] at H
    by_cases hc1 : (a0 - (10000 : Int32)) = (145 : Int32)
    · rw [if_pos hc1] at H
      refine ww_tableIn (off := 37) C dX5_operand_5 (by rw [hc1]; decide) (by rw [hc1]; decide) (by rw [hc1]; rfl) 42 rfl ?_
      refine ww_iload_n C dX5_operand_42 2 rfl rfl ?_
      cases H
      exact ww_iret C E dX5_operand_43 ⟨rfl, rfl⟩
    · rw [if_neg hc1] at H
      by_cases hc2 : (a0 - (10000 : Int32)) = (146 : Int32)
      · rw [if_pos hc2] at H
        refine ww_tableIn (off := 39) C dX5_operand_5 (by rw [hc2]; decide) (by rw [hc2]; decide) (by rw [hc2]; rfl) 44 rfl ?_
        refine ww_iload_n C dX5_operand_44 3 rfl rfl ?_
        cases H
        exact ww_iret C E dX5_operand_45 ⟨rfl, rfl⟩
      · rw [if_neg hc2] at H
        by_cases hc3 : (a0 - (10000 : Int32)) = (147 : Int32)
        · rw [if_pos hc3] at H
          refine ww_tableIn (off := 41) C dX5_operand_5 (by rw [hc3]; decide) (by rw [hc3]; decide) (by rw [hc3]; rfl) 46 rfl ?_
          refine ww_iload C dX5_operand_46 rfl ?_
          cases H
          exact ww_iret C E dX5_operand_48 ⟨rfl, rfl⟩
        · rw [if_neg hc3] at H
          by_cases hc4 : (a0 - (10000 : Int32)) = (148 : Int32)
          · rw [if_pos hc4] at H
            refine ww_tableIn (off := 44) C dX5_operand_5 (by rw [hc4]; decide) (by rw [hc4]; decide) (by rw [hc4]; rfl) 49 rfl ?_
            refine ww_iload_n C dX5_operand_49 3 rfl rfl ?_
            refine ww_iload C dX5_operand_50 rfl ?_
            refine ww_iadd C dX5_operand_52 ?_
            cases H
            exact ww_iret C E dX5_operand_53 ⟨rfl, rfl⟩
          · rw [if_neg hc4] at H
            refine ww_tableOut C dX5_operand_5 (by have q0 := lv_neT (k := (144 : Int32)) (a := 144) hc0 (by decide); have q1 := lv_neT (k := (145 : Int32)) (a := 145) hc1 (by decide); have q2 := lv_neT (k := (146 : Int32)) (a := 146) hc2 (by decide); have q3 := lv_neT (k := (147 : Int32)) (a := 147) hc3 (by decide); have q4 := lv_neT (k := (148 : Int32)) (a := 148) hc4 (by decide); omega) 54 rfl ?_
            refine ww_iload_n C dX5_operand_54 0 rfl rfl ?_
            cases H
            exact ww_iret C E dX5_operand_55 ⟨rfl, rfl⟩
def fX5_passes_159 (o : Nat) (k : HI → Int32 → Option (Int32 × HI)) (kb : HI → Int32 → Int32 → Int32 → Int32 → Int32 → Int32 → Option (Int32 × HI)) (h : HI) (v1 : Int32) (v2 : Int32) (v3 : Int32) (v4 : Int32) (v5 : Int32) (v6 : Int32) : Option (Int32 × HI) := kb h v1 v2 v3 v4 v5 (v6 + (1 : Int32))
set_option maxRecDepth 100000 in
set_option maxHeartbeats 4000000 in
theorem cX5_passes_159 {X : CT} {sh : Sh} {adr : Nat → Nat} {r : Nat → Nat → Option Nat} {o : Nat} {p : Int32 × HI} (hS : US sh r o) (C : CX X yX5_passes.cls cX5_passes 8 1) (hZ : SZX X adr) (E : RX X (some .boolean) sh adr (fun v τ => v = some (.int p.1) ∧ τ = mk p.2 r)) {k : HI → Int32 → Option (Int32 × HI)} {kb : HI → Int32 → Int32 → Int32 → Int32 → Int32 → Int32 → Option (Int32 × HI)} (hk : ∀ (h : HI) (v5 : Int32), k h v5 = some p → WW X (sh, adr, 0, 0) 165 [.ref o, .retAddr 0, .retAddr 0, .retAddr 0, .retAddr 0, .int v5, .retAddr 0, .retAddr 0] [] (mk h r)) (hb : ∀ (h : HI) (v1 : Int32) (v2 : Int32) (v3 : Int32) (v4 : Int32) (v5 : Int32) (v6 : Int32), kb h v1 v2 v3 v4 v5 v6 = some p → WW X (sh, adr, 0, 0) 6 [.ref o, .int v1, .int v2, .int v3, .int v4, .int v5, .int v6, .retAddr 0] [] (mk h r)) {h : HI} {v1 : Int32} {v2 : Int32} {v3 : Int32} {v4 : Int32} {v5 : Int32} {v6 : Int32} (H : fX5_passes_159 o k kb h v1 v2 v3 v4 v5 v6 = some p) : WW X (sh, adr, 0, 0) 159 [.ref o, .int v1, .int v2, .int v3, .int v4, .int v5, .int v6, .retAddr 0] [] (mk h r) := by
  rw [fX5_passes_159] at H
  refine ww_iinc (v := (v6 + (1 : Int32))) C dX5_passes_159 rfl rfl (by decide) rfl [.ref o, .int v1, .int v2, .int v3, .int v4, .int v5, .int (v6 + (1 : Int32)), .retAddr 0] rfl ?_
  refine ww_goto C dX5_passes_162 6 rfl ?_
  exact hb h v1 v2 v3 v4 v5 (v6 + (1 : Int32)) H
def fX5_passes_71 (o : Nat) (k : HI → Int32 → Option (Int32 × HI)) (kb : HI → Int32 → Int32 → Int32 → Int32 → Int32 → Int32 → Option (Int32 × HI)) (h : HI) (v1 : Int32) (v2 : Int32) (v3 : Int32) (v4 : Int32) (v5 : Int32) (v6 : Int32) (s0 : Int32) (s1 : Int32) : Option (Int32 × HI) := (if inB s1 42 then fX5_passes_159 o k kb (uI h (o + 2) (s1.toNatClampNeg) s0) v1 v2 v3 v4 v5 v6 else none)
set_option maxRecDepth 100000 in
set_option maxHeartbeats 4000000 in
theorem cX5_passes_71 {X : CT} {sh : Sh} {adr : Nat → Nat} {r : Nat → Nat → Option Nat} {o : Nat} {p : Int32 × HI} (hS : US sh r o) (C : CX X yX5_passes.cls cX5_passes 8 1) (hZ : SZX X adr) (E : RX X (some .boolean) sh adr (fun v τ => v = some (.int p.1) ∧ τ = mk p.2 r)) {k : HI → Int32 → Option (Int32 × HI)} {kb : HI → Int32 → Int32 → Int32 → Int32 → Int32 → Int32 → Option (Int32 × HI)} (hk : ∀ (h : HI) (v5 : Int32), k h v5 = some p → WW X (sh, adr, 0, 0) 165 [.ref o, .retAddr 0, .retAddr 0, .retAddr 0, .retAddr 0, .int v5, .retAddr 0, .retAddr 0] [] (mk h r)) (hb : ∀ (h : HI) (v1 : Int32) (v2 : Int32) (v3 : Int32) (v4 : Int32) (v5 : Int32) (v6 : Int32), kb h v1 v2 v3 v4 v5 v6 = some p → WW X (sh, adr, 0, 0) 6 [.ref o, .int v1, .int v2, .int v3, .int v4, .int v5, .int v6, .retAddr 0] [] (mk h r)) {h : HI} {v1 : Int32} {v2 : Int32} {v3 : Int32} {v4 : Int32} {v5 : Int32} {v6 : Int32} {s0 : Int32} {s1 : Int32} (H : fX5_passes_71 o k kb h v1 v2 v3 v4 v5 v6 s0 s1 = some p) : WW X (sh, adr, 0, 0) 71 [.ref o, .int v1, .int v2, .int v3, .int v4, .int v5, .int v6, .retAddr 0] [.int s0, .int s1, .ref (o + 2)] (mk h r) := by
  rw [fX5_passes_71] at H
  obtain ⟨hg, H⟩ := gd_of H
  refine wk_iastore C dX5_passes_71 (tX5_stack hS).2.1 (vp_of hg (tX5_stack hS).2.2) (s1.toNatClampNeg) rfl ?_
  refine ww_goto C dX5_passes_72 159 rfl ?_
  exact cX5_passes_159 hS C hZ E hk hb H
def fX5_passes_6 (o : Nat) (k : HI → Int32 → Option (Int32 × HI)) : Nat → HI → Int32 → Int32 → Int32 → Int32 → Int32 → Int32 → Option (Int32 × HI)
  | 0, _, _, _, _, _, _, _ => none
  | n + 1, h, v1, v2, v3, v4, v5, v6 => (if (h.1 o 2) ≤ v6 then k h v5 else (if (400 : Int32) ≤ v6 then k h v5 else (if inB v6 400 then (if (h.1 (o + 1) (v6.toNatClampNeg)) = (10143 : Int32) then (if v5 < (1 : Int32) then fX5_passes_159 o (k) (fX5_passes_6 o k n) h v1 v2 v3 v4 v5 v6 else (if inB (v5 - (1 : Int32)) 42 then (if (h.1 (o + 2) ((v5 - (1 : Int32)).toNatClampNeg)) = 0 then fX5_passes_71 o (k) (fX5_passes_6 o k n) h v1 v2 v3 v4 v5 v6 (1 : Int32) (v5 - (1 : Int32)) else fX5_passes_71 o (k) (fX5_passes_6 o k n) h v1 v2 v3 v4 v5 v6 (0 : Int32) (v5 - (1 : Int32))) else none)) else ((fX5_isOperand h (h.1 (o + 1) (v6.toNatClampNeg))).bind fun p1 => (if p1.1 = 0 then (if v5 < (2 : Int32) then fX5_passes_159 o (k) (fX5_passes_6 o k n) p1.2 v1 v2 v3 v4 v5 v6 else (if inB ((v5 + (-1 : Int32)) - (1 : Int32)) 42 then (if inB (v5 + (-1 : Int32)) 42 then ((fX5_join p1.2 ((h.1 (o + 1) (v6.toNatClampNeg)) - (10000 : Int32)) (p1.2.1 (o + 2) (((v5 + (-1 : Int32)) - (1 : Int32)).toNatClampNeg)) (p1.2.1 (o + 2) ((v5 + (-1 : Int32)).toNatClampNeg))).bind fun p2 => (if inB ((v5 + (-1 : Int32)) - (1 : Int32)) 42 then fX5_passes_159 o (k) (fX5_passes_6 o k n) (uI p2.2 (o + 2) (((v5 + (-1 : Int32)) - (1 : Int32)).toNatClampNeg) p2.1) v1 v2 v3 v4 (v5 + (-1 : Int32)) v6 else none)) else none) else none)) else (if (nI 42) ≤ v5 then fX5_passes_159 o (k) (fX5_passes_6 o k n) p1.2 v1 v2 v3 v4 v5 v6 else ((fX5_operand p1.2 (h.1 (o + 1) (v6.toNatClampNeg)) v1 v2 v3 v4).bind fun p3 => (if inB v5 42 then fX5_passes_159 o (k) (fX5_passes_6 o k n) (uI p3.2 (o + 2) (v5.toNatClampNeg) p3.1) v1 v2 v3 v4 (v5 + (1 : Int32)) v6 else none)))))) else none)))
set_option maxRecDepth 100000 in
set_option maxHeartbeats 4000000 in
theorem cX5_passes_6 {X : CT} {sh : Sh} {adr : Nat → Nat} {r : Nat → Nat → Option Nat} {o : Nat} {p : Int32 × HI} (hS : US sh r o) (C : CX X yX5_passes.cls cX5_passes 8 1) (hZ : SZX X adr) (E : RX X (some .boolean) sh adr (fun v τ => v = some (.int p.1) ∧ τ = mk p.2 r)) {k : HI → Int32 → Option (Int32 × HI)} (hk : ∀ (h : HI) (v5 : Int32), k h v5 = some p → WW X (sh, adr, 0, 0) 165 [.ref o, .retAddr 0, .retAddr 0, .retAddr 0, .retAddr 0, .int v5, .retAddr 0, .retAddr 0] [] (mk h r)) : ∀ (n : Nat) (h : HI) (v1 : Int32) (v2 : Int32) (v3 : Int32) (v4 : Int32) (v5 : Int32) (v6 : Int32), fX5_passes_6 o k n h v1 v2 v3 v4 v5 v6 = some p → WW X (sh, adr, 0, 0) 6 [.ref o, .int v1, .int v2, .int v3, .int v4, .int v5, .int v6, .retAddr 0] [] (mk h r) := by
  intro n
  induction n with
  | zero =>
    intro h v1 v2 v3 v4 v5 v6 H
    rw [fX5_passes_6] at H
    cases H
  | succ n ih =>
    intro h v1 v2 v3 v4 v5 v6 H
    rw [fX5_passes_6] at H
    refine ww_iload C dX5_passes_6 rfl ?_
    refine ww_aload_n C dX5_passes_8 0 rfl rfl ?_
    refine wk_getI C dX5_passes_9 fl_X5_31 hS.1 rfl ?_
    refine ww_icmp_ge C dX5_passes_12 165 rfl (fun hc => ?_) (fun hc => ?_)
    · rw [if_pos hc] at H
      exact ww_drop [.ref o, .retAddr 0, .retAddr 0, .retAddr 0, .retAddr 0, .int v5, .retAddr 0, .retAddr 0] (sl_e (sl_d (sl_d (sl_d (sl_d (sl_e (sl_d (sl_e sl_n)))))))) (hk h v5 H)
    · rw [if_neg hc] at H
      refine ww_iload C dX5_passes_15 rfl ?_
      refine ww_sipush (v := (400 : Int32)) C dX5_passes_17 (by decide) ?_
      refine ww_icmp_ge C dX5_passes_20 165 rfl (fun hc => ?_) (fun hc => ?_)
      · rw [if_pos hc] at H
        exact ww_drop [.ref o, .retAddr 0, .retAddr 0, .retAddr 0, .retAddr 0, .int v5, .retAddr 0, .retAddr 0] (sl_e (sl_d (sl_d (sl_d (sl_d (sl_e (sl_d (sl_e sl_n)))))))) (hk h v5 H)
      · rw [if_neg hc] at H
        refine ww_aload_n C dX5_passes_23 0 rfl rfl ?_
        refine wk_getR C dX5_passes_24 fl_X5_11 hS.1 rfl (tX5_steps hS).1 ?_
        refine ww_iload C dX5_passes_27 rfl ?_
        obtain ⟨hg, H⟩ := gd_of H
        refine wk_iaload C dX5_passes_29 (tX5_steps hS).2.1 (vp_of hg (tX5_steps hS).2.2) (v6.toNatClampNeg) rfl ?_
        refine ww_istore C dX5_passes_30 (by decide) rfl [.ref o, .int v1, .int v2, .int v3, .int v4, .int v5, .int v6, .int (h.1 (o + 1) (v6.toNatClampNeg))] rfl ?_
        refine ww_iload C dX5_passes_32 rfl ?_
        refine ww_sipush (v := (10143 : Int32)) C dX5_passes_34 (by decide) ?_
        refine ww_icmp_ne C dX5_passes_37 75 rfl (fun hc => ?_) (fun hc => ?_)
        · rw [if_neg hc] at H
          refine ww_iload C dX5_passes_75 rfl ?_
          obtain ⟨p1, hc1, H⟩ := bd_of H
          refine ww_callS C hZ dX5_passes_77 sw_X5_38 (ccX5_isOperand hc1) (by decide) rfl rfl (Nat.le_of_ble_eq_true rfl) ⟨Nat.zero_le _, Nat.zero_le _⟩ (fun v τ hp => ?_)
          obtain ⟨rfl, rfl⟩ := hp
          change WW X _ 80 [.ref o, .int v1, .int v2, .int v3, .int v4, .int v5, .int v6, .int (h.1 (o + 1) (v6.toNatClampNeg))] [.int p1.1] _
          refine ww_if_eq C dX5_passes_80 116 rfl (fun hc => ?_) (fun hc => ?_)
          · rw [if_pos hc] at H
            refine ww_iload C dX5_passes_116 rfl ?_
            refine ww_iconst (v := (2 : Int32)) C dX5_passes_118 (by decide) ?_
            refine ww_icmp_lt C dX5_passes_119 159 rfl (fun hc => ?_) (fun hc => ?_)
            · rw [if_pos hc] at H
              exact ww_drop [.ref o, .int v1, .int v2, .int v3, .int v4, .int v5, .int v6, .retAddr 0] (sl_e (sl_e (sl_e (sl_e (sl_e (sl_e (sl_e (sl_d sl_n)))))))) (cX5_passes_159 hS C hZ E hk ih H)
            · rw [if_neg hc] at H
              refine ww_iinc (v := (v5 + (-1 : Int32))) C dX5_passes_122 rfl rfl (by decide) rfl [.ref o, .int v1, .int v2, .int v3, .int v4, .int (v5 + (-1 : Int32)), .int v6, .int (h.1 (o + 1) (v6.toNatClampNeg))] rfl ?_
              refine ww_aload_n C dX5_passes_125 0 rfl rfl ?_
              refine wk_getR C dX5_passes_126 fl_X5_15 hS.1 rfl (tX5_stack hS).1 ?_
              refine ww_iload C dX5_passes_129 rfl ?_
              refine ww_iconst (v := (1 : Int32)) C dX5_passes_131 (by decide) ?_
              refine ww_isub C dX5_passes_132 ?_
              refine ww_iload C dX5_passes_133 rfl ?_
              refine ww_sipush (v := (10000 : Int32)) C dX5_passes_135 (by decide) ?_
              refine ww_isub C dX5_passes_138 ?_
              refine ww_aload_n C dX5_passes_139 0 rfl rfl ?_
              refine wk_getR C dX5_passes_140 fl_X5_15 hS.1 rfl (tX5_stack hS).1 ?_
              refine ww_iload C dX5_passes_143 rfl ?_
              refine ww_iconst (v := (1 : Int32)) C dX5_passes_145 (by decide) ?_
              refine ww_isub C dX5_passes_146 ?_
              obtain ⟨hg, H⟩ := gd_of H
              refine wk_iaload C dX5_passes_147 (tX5_stack hS).2.1 (vp_of hg (tX5_stack hS).2.2) (((v5 + (-1 : Int32)) - (1 : Int32)).toNatClampNeg) rfl ?_
              refine ww_aload_n C dX5_passes_148 0 rfl rfl ?_
              refine wk_getR C dX5_passes_149 fl_X5_15 hS.1 rfl (tX5_stack hS).1 ?_
              refine ww_iload C dX5_passes_152 rfl ?_
              obtain ⟨hg, H⟩ := gd_of H
              refine wk_iaload C dX5_passes_154 (tX5_stack hS).2.1 (vp_of hg (tX5_stack hS).2.2) ((v5 + (-1 : Int32)).toNatClampNeg) rfl ?_
              obtain ⟨p2, hc1, H⟩ := bd_of H
              refine ww_callS C hZ dX5_passes_155 sw_X5_46 (ccX5_join hc1) (by decide) rfl rfl (Nat.le_of_ble_eq_true rfl) ⟨Nat.zero_le _, Nat.zero_le _⟩ (fun v τ hp => ?_)
              obtain ⟨rfl, rfl⟩ := hp
              change WW X _ 158 [.ref o, .int v1, .int v2, .int v3, .int v4, .int (v5 + (-1 : Int32)), .int v6, .int (h.1 (o + 1) (v6.toNatClampNeg))] [.int p2.1, .int ((v5 + (-1 : Int32)) - (1 : Int32)), .ref (o + 2)] _
              obtain ⟨hg, H⟩ := gd_of H
              refine wk_iastore C dX5_passes_158 (tX5_stack hS).2.1 (vp_of hg (tX5_stack hS).2.2) (((v5 + (-1 : Int32)) - (1 : Int32)).toNatClampNeg) rfl ?_
              exact ww_drop [.ref o, .int v1, .int v2, .int v3, .int v4, .int (v5 + (-1 : Int32)), .int v6, .retAddr 0] (sl_e (sl_e (sl_e (sl_e (sl_e (sl_e (sl_e (sl_d sl_n)))))))) (cX5_passes_159 hS C hZ E hk ih H)
          · rw [if_neg hc] at H
            refine ww_iload C dX5_passes_83 rfl ?_
            refine ww_aload_n C dX5_passes_85 0 rfl rfl ?_
            refine wk_getR C dX5_passes_86 fl_X5_15 hS.1 rfl (tX5_stack hS).1 ?_
            refine wk_alenI C dX5_passes_89 (tX5_stack hS).2.1 (tX5_stack hS).2.2 ?_
            refine ww_icmp_ge C dX5_passes_90 159 rfl (fun hc => ?_) (fun hc => ?_)
            · rw [if_pos hc] at H
              exact ww_drop [.ref o, .int v1, .int v2, .int v3, .int v4, .int v5, .int v6, .retAddr 0] (sl_e (sl_e (sl_e (sl_e (sl_e (sl_e (sl_e (sl_d sl_n)))))))) (cX5_passes_159 hS C hZ E hk ih H)
            · rw [if_neg hc] at H
              refine ww_aload_n C dX5_passes_93 0 rfl rfl ?_
              refine wk_getR C dX5_passes_94 fl_X5_15 hS.1 rfl (tX5_stack hS).1 ?_
              refine ww_iload C dX5_passes_97 rfl ?_
              refine ww_iload C dX5_passes_99 rfl ?_
              refine ww_iload_n C dX5_passes_101 1 rfl rfl ?_
              refine ww_iload_n C dX5_passes_102 2 rfl rfl ?_
              refine ww_iload_n C dX5_passes_103 3 rfl rfl ?_
              refine ww_iload C dX5_passes_104 rfl ?_
              obtain ⟨p3, hc1, H⟩ := bd_of H
              refine ww_callS C hZ dX5_passes_106 sw_X5_42 (ccX5_operand hc1) (by decide) rfl rfl (Nat.le_of_ble_eq_true rfl) ⟨Nat.zero_le _, Nat.zero_le _⟩ (fun v τ hp => ?_)
              obtain ⟨rfl, rfl⟩ := hp
              change WW X _ 109 [.ref o, .int v1, .int v2, .int v3, .int v4, .int v5, .int v6, .int (h.1 (o + 1) (v6.toNatClampNeg))] [.int p3.1, .int v5, .ref (o + 2)] _
              obtain ⟨hg, H⟩ := gd_of H
              refine wk_iastore C dX5_passes_109 (tX5_stack hS).2.1 (vp_of hg (tX5_stack hS).2.2) (v5.toNatClampNeg) rfl ?_
              refine ww_iinc (v := (v5 + (1 : Int32))) C dX5_passes_110 rfl rfl (by decide) rfl [.ref o, .int v1, .int v2, .int v3, .int v4, .int (v5 + (1 : Int32)), .int v6, .int (h.1 (o + 1) (v6.toNatClampNeg))] rfl ?_
              refine ww_goto C dX5_passes_113 159 rfl ?_
              exact ww_drop [.ref o, .int v1, .int v2, .int v3, .int v4, .int (v5 + (1 : Int32)), .int v6, .retAddr 0] (sl_e (sl_e (sl_e (sl_e (sl_e (sl_e (sl_e (sl_d sl_n)))))))) (cX5_passes_159 hS C hZ E hk ih H)
        · rw [if_pos hc] at H
          refine ww_iload C dX5_passes_40 rfl ?_
          refine ww_iconst (v := (1 : Int32)) C dX5_passes_42 (by decide) ?_
          refine ww_icmp_lt C dX5_passes_43 159 rfl (fun hc => ?_) (fun hc => ?_)
          · rw [if_pos hc] at H
            exact ww_drop [.ref o, .int v1, .int v2, .int v3, .int v4, .int v5, .int v6, .retAddr 0] (sl_e (sl_e (sl_e (sl_e (sl_e (sl_e (sl_e (sl_d sl_n)))))))) (cX5_passes_159 hS C hZ E hk ih H)
          · rw [if_neg hc] at H
            refine ww_aload_n C dX5_passes_46 0 rfl rfl ?_
            refine wk_getR C dX5_passes_47 fl_X5_15 hS.1 rfl (tX5_stack hS).1 ?_
            refine ww_iload C dX5_passes_50 rfl ?_
            refine ww_iconst (v := (1 : Int32)) C dX5_passes_52 (by decide) ?_
            refine ww_isub C dX5_passes_53 ?_
            refine ww_aload_n C dX5_passes_54 0 rfl rfl ?_
            refine wk_getR C dX5_passes_55 fl_X5_15 hS.1 rfl (tX5_stack hS).1 ?_
            refine ww_iload C dX5_passes_58 rfl ?_
            refine ww_iconst (v := (1 : Int32)) C dX5_passes_60 (by decide) ?_
            refine ww_isub C dX5_passes_61 ?_
            obtain ⟨hg, H⟩ := gd_of H
            refine wk_iaload C dX5_passes_62 (tX5_stack hS).2.1 (vp_of hg (tX5_stack hS).2.2) ((v5 - (1 : Int32)).toNatClampNeg) rfl ?_
            refine ww_if_ne C dX5_passes_63 70 rfl (fun hc => ?_) (fun hc => ?_)
            · rw [if_neg hc] at H
              refine ww_iconst (v := (0 : Int32)) C dX5_passes_70 (by decide) ?_
              exact ww_drop [.ref o, .int v1, .int v2, .int v3, .int v4, .int v5, .int v6, .retAddr 0] (sl_e (sl_e (sl_e (sl_e (sl_e (sl_e (sl_e (sl_d sl_n)))))))) (cX5_passes_71 hS C hZ E hk ih H)
            · rw [if_pos hc] at H
              refine ww_iconst (v := (1 : Int32)) C dX5_passes_66 (by decide) ?_
              refine ww_goto C dX5_passes_67 71 rfl ?_
              exact ww_drop [.ref o, .int v1, .int v2, .int v3, .int v4, .int v5, .int v6, .retAddr 0] (sl_e (sl_e (sl_e (sl_e (sl_e (sl_e (sl_e (sl_d sl_n)))))))) (cX5_passes_71 hS C hZ E hk ih H)
def fX5_passes_165 (o : Nat) (h : HI) (v5 : Int32) : Option (Int32 × HI) := (if v5 < (1 : Int32) then some ((0 : Int32), h) else (if inB (v5 - (1 : Int32)) 42 then (if (h.1 (o + 2) ((v5 - (1 : Int32)).toNatClampNeg)) = 0 then some ((0 : Int32), h) else some ((1 : Int32), h)) else none))
set_option maxRecDepth 100000 in
set_option maxHeartbeats 4000000 in
theorem cX5_passes_165 {X : CT} {sh : Sh} {adr : Nat → Nat} {r : Nat → Nat → Option Nat} {o : Nat} {p : Int32 × HI} (hS : US sh r o) (C : CX X yX5_passes.cls cX5_passes 8 1) (hZ : SZX X adr) (E : RX X (some .boolean) sh adr (fun v τ => v = some (.int p.1) ∧ τ = mk p.2 r)) {h : HI} {v5 : Int32} (H : fX5_passes_165 o h v5 = some p) : WW X (sh, adr, 0, 0) 165 [.ref o, .retAddr 0, .retAddr 0, .retAddr 0, .retAddr 0, .int v5, .retAddr 0, .retAddr 0] [] (mk h r) := by
  rw [fX5_passes_165] at H
  refine ww_iload C dX5_passes_165 rfl ?_
  refine ww_iconst (v := (1 : Int32)) C dX5_passes_167 (by decide) ?_
  refine ww_icmp_lt C dX5_passes_168 187 rfl (fun hc => ?_) (fun hc => ?_)
  · rw [if_pos hc] at H
    refine ww_iconst (v := (0 : Int32)) C dX5_passes_187 (by decide) ?_
    cases H
    exact ww_zret C E dX5_passes_188 (Or.inl rfl) ⟨rfl, rfl⟩
  · rw [if_neg hc] at H
    refine ww_aload_n C dX5_passes_171 0 rfl rfl ?_
    refine wk_getR C dX5_passes_172 fl_X5_15 hS.1 rfl (tX5_stack hS).1 ?_
    refine ww_iload C dX5_passes_175 rfl ?_
    refine ww_iconst (v := (1 : Int32)) C dX5_passes_177 (by decide) ?_
    refine ww_isub C dX5_passes_178 ?_
    obtain ⟨hg, H⟩ := gd_of H
    refine wk_iaload C dX5_passes_179 (tX5_stack hS).2.1 (vp_of hg (tX5_stack hS).2.2) ((v5 - (1 : Int32)).toNatClampNeg) rfl ?_
    refine ww_if_eq C dX5_passes_180 187 rfl (fun hc => ?_) (fun hc => ?_)
    · rw [if_pos hc] at H
      refine ww_iconst (v := (0 : Int32)) C dX5_passes_187 (by decide) ?_
      cases H
      exact ww_zret C E dX5_passes_188 (Or.inl rfl) ⟨rfl, rfl⟩
    · rw [if_neg hc] at H
      refine ww_iconst (v := (1 : Int32)) C dX5_passes_183 (by decide) ?_
      refine ww_goto C dX5_passes_184 188 rfl ?_
      cases H
      exact ww_zret C E dX5_passes_188 (Or.inr rfl) ⟨rfl, rfl⟩
def fX5_passes (o : Nat) (h : HI) (a1 : Int32) (a2 : Int32) (a3 : Int32) (a4 : Int32) : Option (Int32 × HI) := fX5_passes_6 o (fun h5 v5 => fX5_passes_165 o h5 v5) FU h a1 a2 a3 a4 (0 : Int32) (0 : Int32)
set_option maxRecDepth 100000 in
set_option maxHeartbeats 4000000 in
theorem ccX5_passes {l : Launch} {sh : Sh} {adr : Nat → Nat} {r : Nat → Nat → Option Nat} {o : Nat} (hS : US sh r o) {h : HI} {a1 : Int32} {a2 : Int32} {a3 : Int32} {a4 : Int32} {p : Int32 × HI} (H : fX5_passes o h a1 a2 a3 a4 = some p) : CC l yX5_passes cX5_passes 8 (some .boolean) 1 [.ref o, .int a1, .int a2, .int a3, .int a4] sh adr (mk h r) (fun v τ => v = some (.int p.1) ∧ τ = mk p.2 r) := by
  refine CC.of (by decide) (Nat.le_of_ble_eq_true rfl) 3 [.ref o, .int a1, .int a2, .int a3, .int a4, .retAddr 0, .retAddr 0, .retAddr 0] rfl (fun X _ C E hZ => ?_)
  rw [fX5_passes] at H
  refine ww_iconst (v := (0 : Int32)) C dX5_passes_0 (by decide) ?_
  refine ww_istore C dX5_passes_1 (by decide) rfl [.ref o, .int a1, .int a2, .int a3, .int a4, .int (0 : Int32), .retAddr 0, .retAddr 0] rfl ?_
  refine ww_iconst (v := (0 : Int32)) C dX5_passes_3 (by decide) ?_
  refine ww_istore C dX5_passes_4 (by decide) rfl [.ref o, .int a1, .int a2, .int a3, .int a4, .int (0 : Int32), .int (0 : Int32), .retAddr 0] rfl ?_
  refine cX5_passes_6 hS C hZ E (fun h5 v5 H => ?_) FU h a1 a2 a3 a4 (0 : Int32) (0 : Int32) H
  exact cX5_passes_165 hS C hZ E H
def fX7_hasRoomForFive (o : Nat) (h : HI) : Option (Int32 × HI) := (if (1700 : Int32) < ((h.1 o 1) + (20 : Int32)) then some ((0 : Int32), h) else some ((1 : Int32), h))
set_option maxRecDepth 100000 in
set_option maxHeartbeats 4000000 in
theorem ccX7_hasRoomForFive {l : Launch} {sh : Sh} {adr : Nat → Nat} {r : Nat → Nat → Option Nat} {o : Nat} (hS : TS sh r o) {h : HI}  {p : Int32 × HI} (H : fX7_hasRoomForFive o h = some p) : CC l yX7_hasRoomForFive cX7_hasRoomForFive 1 (some .boolean) 0 [.ref o] sh adr (mk h r) (fun v τ => v = some (.int p.1) ∧ τ = mk p.2 r) := by
  refine CC.of (by decide) (Nat.le_of_ble_eq_true rfl) 0 [.ref o] rfl (fun X _ C E hZ => ?_)
  rw [fX7_hasRoomForFive] at H
  refine ww_aload_n C dX7_hasRoomForFive_0 0 rfl rfl ?_
  refine wk_getI C dX7_hasRoomForFive_1 fl_X7_15 hS.1 rfl ?_
  refine ww_bipush (v := (20 : Int32)) C dX7_hasRoomForFive_4 (by decide) ?_
  refine ww_iadd C dX7_hasRoomForFive_6 ?_
  refine ww_sipush (v := (1700 : Int32)) C dX7_hasRoomForFive_7 (by decide) ?_
  refine ww_icmp_gt C dX7_hasRoomForFive_10 17 rfl (fun hc => ?_) (fun hc => ?_)
  · rw [if_pos hc] at H
    refine ww_iconst (v := (0 : Int32)) C dX7_hasRoomForFive_17 (by decide) ?_
    cases H
    exact ww_zret C E dX7_hasRoomForFive_18 (Or.inl rfl) ⟨rfl, rfl⟩
  · rw [if_neg hc] at H
    refine ww_iconst (v := (1 : Int32)) C dX7_hasRoomForFive_13 (by decide) ?_
    refine ww_goto C dX7_hasRoomForFive_14 18 rfl ?_
    cases H
    exact ww_zret C E dX7_hasRoomForFive_18 (Or.inr rfl) ⟨rfl, rfl⟩
def fX7_put_40 (o : Nat) (k : HI → Option (HI)) (kb : HI → Int32 → Int32 → Option (HI)) (h : HI) (v1 : Int32) (v2 : Int32) : Option (HI) := kb h v1 (v2 + (-8 : Int32))
set_option maxRecDepth 100000 in
set_option maxHeartbeats 4000000 in
theorem cX7_put_40 {X : CT} {sh : Sh} {adr : Nat → Nat} {r : Nat → Nat → Option Nat} {o : Nat} {p : HI} (hS : TS sh r o) (C : CX X yX7_put.cls cX7_put 3 0) (hZ : SZX X adr) (E : RX X none sh adr (fun v τ => v = none ∧ τ = mk p r)) {k : HI → Option (HI)} {kb : HI → Int32 → Int32 → Option (HI)} (hk : ∀ (h : HI), k h = some p → WW X (sh, adr, 0, 0) 46 [.ref o, .retAddr 0, .retAddr 0] [] (mk h r)) (hb : ∀ (h : HI) (v1 : Int32) (v2 : Int32), kb h v1 v2 = some p → WW X (sh, adr, 0, 0) 3 [.ref o, .int v1, .int v2] [] (mk h r)) {h : HI} {v1 : Int32} {v2 : Int32} (H : fX7_put_40 o k kb h v1 v2 = some p) : WW X (sh, adr, 0, 0) 40 [.ref o, .int v1, .int v2] [] (mk h r) := by
  rw [fX7_put_40] at H
  refine ww_iinc (v := (v2 + (-8 : Int32))) C dX7_put_40 rfl rfl (by decide) rfl [.ref o, .int v1, .int (v2 + (-8 : Int32))] rfl ?_
  refine ww_goto C dX7_put_43 3 rfl ?_
  exact hb h v1 (v2 + (-8 : Int32)) H
def fX7_put_3 (o : Nat) (k : HI → Option (HI)) : Nat → HI → Int32 → Int32 → Option (HI)
  | 0, _, _, _ => none
  | n + 1, h, v1, v2 => (if v2 < 0 then k h else (if (1700 : Int32) ≤ (h.1 o 1) then fX7_put_40 o (k) (fX7_put_3 o k n) h v1 v2 else (if inB (h.1 o 1) 1700 then fX7_put_40 o (k) (fX7_put_3 o k n) (uI (uI h (o + 1) ((h.1 o 1).toNatClampNeg) (vp_nar .byte ((v1 >>> (v2 &&& 31)).toInt8.toInt32))) o 1 ((h.1 o 1) + (1 : Int32))) v1 v2 else none)))
set_option maxRecDepth 100000 in
set_option maxHeartbeats 4000000 in
theorem cX7_put_3 {X : CT} {sh : Sh} {adr : Nat → Nat} {r : Nat → Nat → Option Nat} {o : Nat} {p : HI} (hS : TS sh r o) (C : CX X yX7_put.cls cX7_put 3 0) (hZ : SZX X adr) (E : RX X none sh adr (fun v τ => v = none ∧ τ = mk p r)) {k : HI → Option (HI)} (hk : ∀ (h : HI), k h = some p → WW X (sh, adr, 0, 0) 46 [.ref o, .retAddr 0, .retAddr 0] [] (mk h r)) : ∀ (n : Nat) (h : HI) (v1 : Int32) (v2 : Int32), fX7_put_3 o k n h v1 v2 = some p → WW X (sh, adr, 0, 0) 3 [.ref o, .int v1, .int v2] [] (mk h r) := by
  intro n
  induction n with
  | zero =>
    intro h v1 v2 H
    rw [fX7_put_3] at H
    cases H
  | succ n ih =>
    intro h v1 v2 H
    rw [fX7_put_3] at H
    refine ww_iload_n C dX7_put_3 2 rfl rfl ?_
    refine ww_if_lt C dX7_put_4 46 rfl (fun hc => ?_) (fun hc => ?_)
    · rw [if_pos hc] at H
      exact ww_drop [.ref o, .retAddr 0, .retAddr 0] (sl_e (sl_d (sl_d sl_n))) (hk h H)
    · rw [if_neg hc] at H
      refine ww_aload_n C dX7_put_7 0 rfl rfl ?_
      refine wk_getI C dX7_put_8 fl_X7_15 hS.1 rfl ?_
      refine ww_sipush (v := (1700 : Int32)) C dX7_put_11 (by decide) ?_
      refine ww_icmp_ge C dX7_put_14 40 rfl (fun hc => ?_) (fun hc => ?_)
      · rw [if_pos hc] at H
        exact cX7_put_40 hS C hZ E hk ih H
      · rw [if_neg hc] at H
        refine ww_aload_n C dX7_put_17 0 rfl rfl ?_
        refine wk_getR C dX7_put_18 fl_X7_9 hS.1 rfl (tX7_bytes hS).1 ?_
        refine ww_aload_n C dX7_put_21 0 rfl rfl ?_
        refine wk_getI C dX7_put_22 fl_X7_15 hS.1 rfl ?_
        refine ww_iload_n C dX7_put_25 1 rfl rfl ?_
        refine ww_iload_n C dX7_put_26 2 rfl rfl ?_
        refine ww_ishr C dX7_put_27 ?_
        refine ww_i2b C dX7_put_28 ?_
        obtain ⟨hg, H⟩ := gd_of H
        refine wk_bastore C dX7_put_29 (tX7_bytes hS).2.1 (vp_of hg (tX7_bytes hS).2.2) ((h.1 o 1).toNatClampNeg) rfl (vp_nar .byte ((v1 >>> (v2 &&& 31)).toInt8.toInt32)) rfl ?_
        refine ww_aload_n C dX7_put_30 0 rfl rfl ?_
        refine ww_dup C dX7_put_31 rfl ?_
        refine wk_getI C dX7_put_32 fl_X7_15 hS.1 rfl ?_
        refine ww_as (v := (h.1 o 1)) (by rw [uI_n (by omega)]) ?_
        refine ww_iconst (v := (1 : Int32)) C dX7_put_35 (by decide) ?_
        refine ww_iadd C dX7_put_36 ?_
        refine wk_putI C dX7_put_37 fl_X7_15 hS.1 rfl rfl ?_
        exact cX7_put_40 hS C hZ E hk ih H
def fX7_put (o : Nat) (h : HI) (a1 : Int32) : Option (HI) := fX7_put_3 o (fun h2 => some h2) FU h a1 (24 : Int32)
set_option maxRecDepth 100000 in
set_option maxHeartbeats 4000000 in
theorem ccX7_put {l : Launch} {sh : Sh} {adr : Nat → Nat} {r : Nat → Nat → Option Nat} {o : Nat} (hS : TS sh r o) {h : HI} {a1 : Int32} {p : HI} (H : fX7_put o h a1 = some p) : CC l yX7_put cX7_put 3 none 0 [.ref o, .int a1] sh adr (mk h r) (fun v τ => v = none ∧ τ = mk p r) := by
  refine CC.of (by decide) (Nat.le_of_ble_eq_true rfl) 1 [.ref o, .int a1, .retAddr 0] rfl (fun X _ C E hZ => ?_)
  rw [fX7_put] at H
  refine ww_bipush (v := (24 : Int32)) C dX7_put_0 (by decide) ?_
  refine ww_istore_n C dX7_put_2 2 rfl (by decide) rfl [.ref o, .int a1, .int (24 : Int32)] rfl ?_
  refine cX7_put_3 hS C hZ E (fun h2 H => ?_) FU h a1 (24 : Int32) H
  cases H
  exact ww_vret C E dX7_put_46 ⟨rfl, rfl⟩
