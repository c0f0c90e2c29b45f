section
/-! cells that never change their kind, length and references -/
def tO : List (Nat × Nat) := [(0, 12), (2, 1), (3, 1), (4, 10), (14, 6), (15, 9), (21, 11), (29, 13)]
def tA : List (Nat × Nat × Nat) := [(1, 20, 800), (5, 21, 640), (6, 21, 640), (7, 21, 640), (8, 21, 640), (9, 21, 640), (10, 21, 640), (11, 21, 640), (12, 21, 640), (13, 21, 640), (16, 21, 801), (17, 21, 801), (18, 23, 801), (19, 23, 33), (20, 23, 16), (22, 21, 640), (23, 21, 640), (24, 21, 640), (25, 21, 640), (26, 21, 640), (27, 21, 640), (28, 21, 12800)]
def tB : List (Nat × Nat × Nat) := [(30, 21, 800), (31, 21, 802), (32, 21, 802), (33, 23, 802), (34, 21, 4), (35, 21, 4), (36, 21, 4), (37, 23, 64), (38, 21, 64), (39, 21, 64), (40, 22, 64), (41, 21, 16), (42, 23, 24), (43, 23, 24), (44, 21, 4), (45, 21, 1640), (46, 21, 1640), (47, 21, 1640), (48, 21, 4), (49, 21, 3240), (50, 23, 3240), (51, 21, 3240), (52, 21, 900), (53, 21, 900), (54, 21, 4), (55, 21, 4), (56, 21, 4), (57, 21, 4), (58, 21, 160), (59, 21, 160), (60, 21, 160), (61, 22, 160), (62, 21, 160), (63, 21, 160), (64, 21, 160), (65, 21, 160), (66, 21, 160), (67, 21, 160), (68, 21, 160), (69, 21, 160), (70, 21, 160), (71, 21, 160), (72, 23, 160), (73, 21, 100), (74, 21, 100), (75, 21, 100), (76, 21, 17), (77, 21, 17), (78, 21, 17), (79, 21, 4), (80, 21, 2800), (81, 21, 2800), (82, 21, 2800), (83, 21, 2800), (84, 21, 2800), (85, 21, 2800), (86, 21, 2800), (87, 21, 2800), (88, 21, 2800), (89, 21, 2800), (90, 21, 160), (91, 21, 4), (92, 21, 4), (93, 21, 5600), (94, 21, 4), (95, 21, 700), (96, 21, 700), (97, 21, 700), (98, 21, 700), (99, 21, 16800), (100, 21, 16), (101, 21, 1640), (102, 21, 8), (103, 22, 32), (104, 22, 32), (105, 21, 32), (106, 21, 32), (107, 23, 512), (108, 23, 192), (109, 21, 32), (110, 21, 8), (111, 21, 8), (112, 23, 32), (113, 21, 8), (114, 21, 8), (115, 21, 8), (116, 21, 8), (117, 21, 1600), (118, 23, 3240), (119, 23, 16), (120, 23, 6), (121, 21, 40), (122, 21, 4), (123, 21, 4), (124, 21, 192), (125, 21, 192), (126, 21, 192), (127, 21, 192), (128, 21, 192), (129, 21, 6144), (130, 21, 6144), (131, 21, 48)]
def tR : List (Nat × Nat × Nat) := [(0, 0, 1), (0, 2, 2), (0, 3, 3), (0, 4, 14), (0, 5, 21), (4, 0, 5), (4, 1, 6), (4, 2, 7), (4, 3, 8), (4, 4, 9), (4, 5, 10), (4, 6, 11), (4, 7, 12), (4, 8, 13), (14, 0, 15), (14, 1, 4), (14, 2, 20), (15, 0, 1), (15, 4, 16), (15, 5, 17), (15, 6, 18), (15, 1, 19), (21, 0, 4), (21, 1, 22), (21, 2, 23), (21, 3, 24), (21, 4, 25), (21, 5, 26), (21, 6, 27), (21, 7, 28)]
def tS : List (Nat × Nat × Nat) := [(29, 0, 30), (29, 2, 31), (29, 3, 32), (29, 4, 33), (29, 8, 34), (29, 9, 35), (29, 10, 36), (29, 11, 37), (29, 12, 38), (29, 13, 39), (29, 14, 40), (29, 15, 41), (29, 16, 42), (29, 17, 43), (29, 20, 44), (29, 21, 45), (29, 22, 46), (29, 23, 47), (29, 24, 48), (29, 25, 49), (29, 26, 50), (29, 27, 51), (29, 28, 52), (29, 30, 53), (29, 34, 54), (29, 35, 55), (29, 36, 56), (29, 37, 57), (29, 38, 58), (29, 39, 59), (29, 40, 60), (29, 41, 61), (29, 42, 62), (29, 43, 63), (29, 44, 64), (29, 45, 65), (29, 46, 66), (29, 47, 67), (29, 48, 68), (29, 49, 69), (29, 50, 70), (29, 51, 71), (29, 52, 72), (29, 54, 73), (29, 55, 74), (29, 56, 75), (29, 57, 76), (29, 58, 77), (29, 59, 78), (29, 61, 79), (29, 62, 80), (29, 63, 81), (29, 64, 82), (29, 65, 83), (29, 66, 84), (29, 67, 85), (29, 68, 86), (29, 69, 87), (29, 70, 88), (29, 71, 89), (29, 72, 90), (29, 73, 91), (29, 74, 92), (29, 75, 93), (29, 76, 94), (29, 77, 95), (29, 78, 96), (29, 79, 97), (29, 80, 98), (29, 81, 99), (29, 82, 100), (29, 90, 101), (29, 92, 102), (29, 93, 103), (29, 94, 104), (29, 95, 105), (29, 96, 106), (29, 97, 107), (29, 98, 108), (29, 99, 109), (29, 100, 110), (29, 101, 111), (29, 102, 112), (29, 103, 113), (29, 104, 114), (29, 105, 115), (29, 106, 116), (29, 107, 117), (29, 108, 118), (29, 109, 119), (29, 110, 120), (29, 112, 121), (29, 114, 122), (29, 115, 123), (29, 116, 124), (29, 117, 125), (29, 118, 126), (29, 119, 127), (29, 120, 128), (29, 121, 129), (29, 122, 130), (29, 125, 131)]
def Fix (M : Mem) : Prop := 132 ≤ mN M ∧ (∀ e ∈ tO, ok M e.1 e.2) ∧ (∀ e ∈ tA ++ tB, ok M e.1 e.2.1 ∧ mL M e.1 = e.2.2) ∧ (∀ e ∈ tR ++ tS, mR M e.1 e.2.1 = some e.2.2) ∧ mAJ M 19 = keysF
theorem tO_lt : ∀ e ∈ tO, e.1 < 132 := by decide
theorem tAB_lt : ∀ e ∈ tA ++ tB, e.1 < 132 := by decide +kernel
theorem tRS_lt : ∀ e ∈ tR ++ tS, e.1 < 132 := by decide +kernel
theorem Fix.i {M : Mem} {a k : Nat} {v : Int32} (h : Fix M) : Fix (wI M a k v) := h
theorem Fix.j {M : Mem} {a k : Nat} {v : Int64} (h : Fix M) : Fix (wJ M a k v) := h
theorem Fix.ai {M : Mem} {a k : Nat} {v : Int32} (h : Fix M) : Fix (wAI M a k v) := h
theorem Fix.ar {M : Mem} {a k : Nat} {v : Option Nat} (h : Fix M) : Fix (wAR M a k v) := h
theorem Fix.aj {M : Mem} {a k : Nat} {v : Int64} (h : Fix M) (ha : a ≠ 19) : Fix (wAJ M a k v) := ⟨h.1, h.2.1, h.2.2.1, h.2.2.2.1, (up2_row (fun z => ha z.symm)).trans h.2.2.2.2⟩
theorem Fix.r {M : Mem} {a k : Nat} {v : Option Nat} (h : Fix M) (ha : (tR ++ tS).all (fun e => !(e.1 == a && e.2.1 == k)) = true) : Fix (wR M a k v) := ⟨h.1, h.2.1, h.2.2.1, fun e he => by
    have := List.all_eq_true.mp ha e he
    simp at this
    exact (up2_ne (fun z => by rcases this with q | q; exact q z.1; exact q z.2)).trans (h.2.2.2.1 e he), h.2.2.2.2⟩
theorem Fix.rd {M : Mem} {a k : Nat} {v : Option Nat} (h : Fix M) (ha : 132 ≤ a) : Fix (wR M a k v) := ⟨h.1, h.2.1, h.2.2.1, fun e he => by
    have := tRS_lt e he
    exact (up2_ne (fun z => by omega)).trans (h.2.2.2.1 e he), h.2.2.2.2⟩
theorem Fix.of_fr {M M' : Mem} {S : Nat → Prop} (h : Fix M) (hE : mE M M') (hR : ∀ e ∈ tR ++ tS, mR M' e.1 e.2.1 = mR M e.1 e.2.1) (hJ : mAJ M' 19 = mAJ M 19) : Fix M' :=
  ⟨Nat.le_trans h.1 hE.1, fun e he => ok_E (h.2.1 e he) hE, fun e he => ⟨ok_E (h.2.2.1 e he).1 hE, ((hE.2.2 e.1 (h.2.2.1 e he).1.1).2).trans (h.2.2.1 e he).2⟩, fun e he => (hR e he).trans (h.2.2.2.1 e he), hJ.trans h.2.2.2.2⟩
theorem Fix.o {M : Mem} {c n : Nat} (h : Fix M) : Fix (nwO M c n) := h.of_fr (S := fun _ => True) mE_nwO (fun e he => by
  have h1 := tRS_lt e he
  have h2 := h.1
  exact congrFun (va_up_ne _ _ (by omega)) _) rfl
theorem Fix.a {M : Mem} {c n : Nat} (h : Fix M) : Fix (nwA M c n) := h.of_fr (S := fun _ => True) mE_nwA (fun e he => rfl) (by
  have h2 := h.1
  exact va_up_ne _ _ (by omega))
theorem ok0 {M : Mem} (h : Fix M) : ok M 0 12 := h.2.1 (0, 12) (by decide)
theorem ok2 {M : Mem} (h : Fix M) : ok M 2 1 := h.2.1 (2, 1) (by decide)
theorem ok3 {M : Mem} (h : Fix M) : ok M 3 1 := h.2.1 (3, 1) (by decide)
theorem ok4 {M : Mem} (h : Fix M) : ok M 4 10 := h.2.1 (4, 10) (by decide)
theorem ok14 {M : Mem} (h : Fix M) : ok M 14 6 := h.2.1 (14, 6) (by decide)
theorem ok15 {M : Mem} (h : Fix M) : ok M 15 9 := h.2.1 (15, 9) (by decide)
theorem ok21 {M : Mem} (h : Fix M) : ok M 21 11 := h.2.1 (21, 11) (by decide)
theorem ok29 {M : Mem} (h : Fix M) : ok M 29 13 := h.2.1 (29, 13) (by decide)
theorem ok1 {M : Mem} (h : Fix M) : ok M 1 20 := (h.2.2.1 (1, 20, 800) (List.mem_append_left _ (List.mem_of_getElem? (i := 0) rfl))).1
theorem ln1 {M : Mem} (h : Fix M) : mL M 1 = 800 := (h.2.2.1 (1, 20, 800) (List.mem_append_left _ (List.mem_of_getElem? (i := 0) rfl))).2
theorem ok5 {M : Mem} (h : Fix M) : ok M 5 21 := (h.2.2.1 (5, 21, 640) (List.mem_append_left _ (List.mem_of_getElem? (i := 1) rfl))).1
theorem ln5 {M : Mem} (h : Fix M) : mL M 5 = 640 := (h.2.2.1 (5, 21, 640) (List.mem_append_left _ (List.mem_of_getElem? (i := 1) rfl))).2
theorem ok6 {M : Mem} (h : Fix M) : ok M 6 21 := (h.2.2.1 (6, 21, 640) (List.mem_append_left _ (List.mem_of_getElem? (i := 2) rfl))).1
theorem ln6 {M : Mem} (h : Fix M) : mL M 6 = 640 := (h.2.2.1 (6, 21, 640) (List.mem_append_left _ (List.mem_of_getElem? (i := 2) rfl))).2
theorem ok7 {M : Mem} (h : Fix M) : ok M 7 21 := (h.2.2.1 (7, 21, 640) (List.mem_append_left _ (List.mem_of_getElem? (i := 3) rfl))).1
theorem ln7 {M : Mem} (h : Fix M) : mL M 7 = 640 := (h.2.2.1 (7, 21, 640) (List.mem_append_left _ (List.mem_of_getElem? (i := 3) rfl))).2
theorem ok8 {M : Mem} (h : Fix M) : ok M 8 21 := (h.2.2.1 (8, 21, 640) (List.mem_append_left _ (List.mem_of_getElem? (i := 4) rfl))).1
theorem ln8 {M : Mem} (h : Fix M) : mL M 8 = 640 := (h.2.2.1 (8, 21, 640) (List.mem_append_left _ (List.mem_of_getElem? (i := 4) rfl))).2
theorem ok9 {M : Mem} (h : Fix M) : ok M 9 21 := (h.2.2.1 (9, 21, 640) (List.mem_append_left _ (List.mem_of_getElem? (i := 5) rfl))).1
theorem ln9 {M : Mem} (h : Fix M) : mL M 9 = 640 := (h.2.2.1 (9, 21, 640) (List.mem_append_left _ (List.mem_of_getElem? (i := 5) rfl))).2
theorem ok10 {M : Mem} (h : Fix M) : ok M 10 21 := (h.2.2.1 (10, 21, 640) (List.mem_append_left _ (List.mem_of_getElem? (i := 6) rfl))).1
theorem ln10 {M : Mem} (h : Fix M) : mL M 10 = 640 := (h.2.2.1 (10, 21, 640) (List.mem_append_left _ (List.mem_of_getElem? (i := 6) rfl))).2
theorem ok11 {M : Mem} (h : Fix M) : ok M 11 21 := (h.2.2.1 (11, 21, 640) (List.mem_append_left _ (List.mem_of_getElem? (i := 7) rfl))).1
theorem ln11 {M : Mem} (h : Fix M) : mL M 11 = 640 := (h.2.2.1 (11, 21, 640) (List.mem_append_left _ (List.mem_of_getElem? (i := 7) rfl))).2
theorem ok12 {M : Mem} (h : Fix M) : ok M 12 21 := (h.2.2.1 (12, 21, 640) (List.mem_append_left _ (List.mem_of_getElem? (i := 8) rfl))).1
theorem ln12 {M : Mem} (h : Fix M) : mL M 12 = 640 := (h.2.2.1 (12, 21, 640) (List.mem_append_left _ (List.mem_of_getElem? (i := 8) rfl))).2
theorem ok13 {M : Mem} (h : Fix M) : ok M 13 21 := (h.2.2.1 (13, 21, 640) (List.mem_append_left _ (List.mem_of_getElem? (i := 9) rfl))).1
theorem ln13 {M : Mem} (h : Fix M) : mL M 13 = 640 := (h.2.2.1 (13, 21, 640) (List.mem_append_left _ (List.mem_of_getElem? (i := 9) rfl))).2
theorem ok16 {M : Mem} (h : Fix M) : ok M 16 21 := (h.2.2.1 (16, 21, 801) (List.mem_append_left _ (List.mem_of_getElem? (i := 10) rfl))).1
theorem ln16 {M : Mem} (h : Fix M) : mL M 16 = 801 := (h.2.2.1 (16, 21, 801) (List.mem_append_left _ (List.mem_of_getElem? (i := 10) rfl))).2
theorem ok17 {M : Mem} (h : Fix M) : ok M 17 21 := (h.2.2.1 (17, 21, 801) (List.mem_append_left _ (List.mem_of_getElem? (i := 11) rfl))).1
theorem ln17 {M : Mem} (h : Fix M) : mL M 17 = 801 := (h.2.2.1 (17, 21, 801) (List.mem_append_left _ (List.mem_of_getElem? (i := 11) rfl))).2
theorem ok18 {M : Mem} (h : Fix M) : ok M 18 23 := (h.2.2.1 (18, 23, 801) (List.mem_append_left _ (List.mem_of_getElem? (i := 12) rfl))).1
theorem ln18 {M : Mem} (h : Fix M) : mL M 18 = 801 := (h.2.2.1 (18, 23, 801) (List.mem_append_left _ (List.mem_of_getElem? (i := 12) rfl))).2
theorem ok19 {M : Mem} (h : Fix M) : ok M 19 23 := (h.2.2.1 (19, 23, 33) (List.mem_append_left _ (List.mem_of_getElem? (i := 13) rfl))).1
theorem ln19 {M : Mem} (h : Fix M) : mL M 19 = 33 := (h.2.2.1 (19, 23, 33) (List.mem_append_left _ (List.mem_of_getElem? (i := 13) rfl))).2
theorem ok20 {M : Mem} (h : Fix M) : ok M 20 23 := (h.2.2.1 (20, 23, 16) (List.mem_append_left _ (List.mem_of_getElem? (i := 14) rfl))).1
theorem ln20 {M : Mem} (h : Fix M) : mL M 20 = 16 := (h.2.2.1 (20, 23, 16) (List.mem_append_left _ (List.mem_of_getElem? (i := 14) rfl))).2
theorem ok22 {M : Mem} (h : Fix M) : ok M 22 21 := (h.2.2.1 (22, 21, 640) (List.mem_append_left _ (List.mem_of_getElem? (i := 15) rfl))).1
theorem ln22 {M : Mem} (h : Fix M) : mL M 22 = 640 := (h.2.2.1 (22, 21, 640) (List.mem_append_left _ (List.mem_of_getElem? (i := 15) rfl))).2
theorem ok23 {M : Mem} (h : Fix M) : ok M 23 21 := (h.2.2.1 (23, 21, 640) (List.mem_append_left _ (List.mem_of_getElem? (i := 16) rfl))).1
theorem ln23 {M : Mem} (h : Fix M) : mL M 23 = 640 := (h.2.2.1 (23, 21, 640) (List.mem_append_left _ (List.mem_of_getElem? (i := 16) rfl))).2
theorem ok24 {M : Mem} (h : Fix M) : ok M 24 21 := (h.2.2.1 (24, 21, 640) (List.mem_append_left _ (List.mem_of_getElem? (i := 17) rfl))).1
theorem ln24 {M : Mem} (h : Fix M) : mL M 24 = 640 := (h.2.2.1 (24, 21, 640) (List.mem_append_left _ (List.mem_of_getElem? (i := 17) rfl))).2
theorem ok25 {M : Mem} (h : Fix M) : ok M 25 21 := (h.2.2.1 (25, 21, 640) (List.mem_append_left _ (List.mem_of_getElem? (i := 18) rfl))).1
theorem ln25 {M : Mem} (h : Fix M) : mL M 25 = 640 := (h.2.2.1 (25, 21, 640) (List.mem_append_left _ (List.mem_of_getElem? (i := 18) rfl))).2
theorem ok26 {M : Mem} (h : Fix M) : ok M 26 21 := (h.2.2.1 (26, 21, 640) (List.mem_append_left _ (List.mem_of_getElem? (i := 19) rfl))).1
theorem ln26 {M : Mem} (h : Fix M) : mL M 26 = 640 := (h.2.2.1 (26, 21, 640) (List.mem_append_left _ (List.mem_of_getElem? (i := 19) rfl))).2
theorem ok27 {M : Mem} (h : Fix M) : ok M 27 21 := (h.2.2.1 (27, 21, 640) (List.mem_append_left _ (List.mem_of_getElem? (i := 20) rfl))).1
theorem ln27 {M : Mem} (h : Fix M) : mL M 27 = 640 := (h.2.2.1 (27, 21, 640) (List.mem_append_left _ (List.mem_of_getElem? (i := 20) rfl))).2
theorem ok28 {M : Mem} (h : Fix M) : ok M 28 21 := (h.2.2.1 (28, 21, 12800) (List.mem_append_left _ (List.mem_of_getElem? (i := 21) rfl))).1
theorem ln28 {M : Mem} (h : Fix M) : mL M 28 = 12800 := (h.2.2.1 (28, 21, 12800) (List.mem_append_left _ (List.mem_of_getElem? (i := 21) rfl))).2
theorem ok30 {M : Mem} (h : Fix M) : ok M 30 21 := (h.2.2.1 (30, 21, 800) (List.mem_append_right _ (List.mem_of_getElem? (i := 0) rfl))).1
theorem ln30 {M : Mem} (h : Fix M) : mL M 30 = 800 := (h.2.2.1 (30, 21, 800) (List.mem_append_right _ (List.mem_of_getElem? (i := 0) rfl))).2
theorem ok31 {M : Mem} (h : Fix M) : ok M 31 21 := (h.2.2.1 (31, 21, 802) (List.mem_append_right _ (List.mem_of_getElem? (i := 1) rfl))).1
theorem ln31 {M : Mem} (h : Fix M) : mL M 31 = 802 := (h.2.2.1 (31, 21, 802) (List.mem_append_right _ (List.mem_of_getElem? (i := 1) rfl))).2
theorem ok32 {M : Mem} (h : Fix M) : ok M 32 21 := (h.2.2.1 (32, 21, 802) (List.mem_append_right _ (List.mem_of_getElem? (i := 2) rfl))).1
theorem ln32 {M : Mem} (h : Fix M) : mL M 32 = 802 := (h.2.2.1 (32, 21, 802) (List.mem_append_right _ (List.mem_of_getElem? (i := 2) rfl))).2
theorem ok33 {M : Mem} (h : Fix M) : ok M 33 23 := (h.2.2.1 (33, 23, 802) (List.mem_append_right _ (List.mem_of_getElem? (i := 3) rfl))).1
theorem ln33 {M : Mem} (h : Fix M) : mL M 33 = 802 := (h.2.2.1 (33, 23, 802) (List.mem_append_right _ (List.mem_of_getElem? (i := 3) rfl))).2
theorem ok34 {M : Mem} (h : Fix M) : ok M 34 21 := (h.2.2.1 (34, 21, 4) (List.mem_append_right _ (List.mem_of_getElem? (i := 4) rfl))).1
theorem ln34 {M : Mem} (h : Fix M) : mL M 34 = 4 := (h.2.2.1 (34, 21, 4) (List.mem_append_right _ (List.mem_of_getElem? (i := 4) rfl))).2
theorem ok35 {M : Mem} (h : Fix M) : ok M 35 21 := (h.2.2.1 (35, 21, 4) (List.mem_append_right _ (List.mem_of_getElem? (i := 5) rfl))).1
theorem ln35 {M : Mem} (h : Fix M) : mL M 35 = 4 := (h.2.2.1 (35, 21, 4) (List.mem_append_right _ (List.mem_of_getElem? (i := 5) rfl))).2
theorem ok36 {M : Mem} (h : Fix M) : ok M 36 21 := (h.2.2.1 (36, 21, 4) (List.mem_append_right _ (List.mem_of_getElem? (i := 6) rfl))).1
theorem ln36 {M : Mem} (h : Fix M) : mL M 36 = 4 := (h.2.2.1 (36, 21, 4) (List.mem_append_right _ (List.mem_of_getElem? (i := 6) rfl))).2
theorem ok37 {M : Mem} (h : Fix M) : ok M 37 23 := (h.2.2.1 (37, 23, 64) (List.mem_append_right _ (List.mem_of_getElem? (i := 7) rfl))).1
theorem ln37 {M : Mem} (h : Fix M) : mL M 37 = 64 := (h.2.2.1 (37, 23, 64) (List.mem_append_right _ (List.mem_of_getElem? (i := 7) rfl))).2
theorem ok38 {M : Mem} (h : Fix M) : ok M 38 21 := (h.2.2.1 (38, 21, 64) (List.mem_append_right _ (List.mem_of_getElem? (i := 8) rfl))).1
theorem ln38 {M : Mem} (h : Fix M) : mL M 38 = 64 := (h.2.2.1 (38, 21, 64) (List.mem_append_right _ (List.mem_of_getElem? (i := 8) rfl))).2
theorem ok39 {M : Mem} (h : Fix M) : ok M 39 21 := (h.2.2.1 (39, 21, 64) (List.mem_append_right _ (List.mem_of_getElem? (i := 9) rfl))).1
theorem ln39 {M : Mem} (h : Fix M) : mL M 39 = 64 := (h.2.2.1 (39, 21, 64) (List.mem_append_right _ (List.mem_of_getElem? (i := 9) rfl))).2
theorem ok40 {M : Mem} (h : Fix M) : ok M 40 22 := (h.2.2.1 (40, 22, 64) (List.mem_append_right _ (List.mem_of_getElem? (i := 10) rfl))).1
theorem ln40 {M : Mem} (h : Fix M) : mL M 40 = 64 := (h.2.2.1 (40, 22, 64) (List.mem_append_right _ (List.mem_of_getElem? (i := 10) rfl))).2
theorem ok41 {M : Mem} (h : Fix M) : ok M 41 21 := (h.2.2.1 (41, 21, 16) (List.mem_append_right _ (List.mem_of_getElem? (i := 11) rfl))).1
theorem ln41 {M : Mem} (h : Fix M) : mL M 41 = 16 := (h.2.2.1 (41, 21, 16) (List.mem_append_right _ (List.mem_of_getElem? (i := 11) rfl))).2
theorem ok42 {M : Mem} (h : Fix M) : ok M 42 23 := (h.2.2.1 (42, 23, 24) (List.mem_append_right _ (List.mem_of_getElem? (i := 12) rfl))).1
theorem ln42 {M : Mem} (h : Fix M) : mL M 42 = 24 := (h.2.2.1 (42, 23, 24) (List.mem_append_right _ (List.mem_of_getElem? (i := 12) rfl))).2
theorem ok43 {M : Mem} (h : Fix M) : ok M 43 23 := (h.2.2.1 (43, 23, 24) (List.mem_append_right _ (List.mem_of_getElem? (i := 13) rfl))).1
theorem ln43 {M : Mem} (h : Fix M) : mL M 43 = 24 := (h.2.2.1 (43, 23, 24) (List.mem_append_right _ (List.mem_of_getElem? (i := 13) rfl))).2
theorem ok44 {M : Mem} (h : Fix M) : ok M 44 21 := (h.2.2.1 (44, 21, 4) (List.mem_append_right _ (List.mem_of_getElem? (i := 14) rfl))).1
theorem ln44 {M : Mem} (h : Fix M) : mL M 44 = 4 := (h.2.2.1 (44, 21, 4) (List.mem_append_right _ (List.mem_of_getElem? (i := 14) rfl))).2
theorem ok45 {M : Mem} (h : Fix M) : ok M 45 21 := (h.2.2.1 (45, 21, 1640) (List.mem_append_right _ (List.mem_of_getElem? (i := 15) rfl))).1
theorem ln45 {M : Mem} (h : Fix M) : mL M 45 = 1640 := (h.2.2.1 (45, 21, 1640) (List.mem_append_right _ (List.mem_of_getElem? (i := 15) rfl))).2
theorem ok46 {M : Mem} (h : Fix M) : ok M 46 21 := (h.2.2.1 (46, 21, 1640) (List.mem_append_right _ (List.mem_of_getElem? (i := 16) rfl))).1
theorem ln46 {M : Mem} (h : Fix M) : mL M 46 = 1640 := (h.2.2.1 (46, 21, 1640) (List.mem_append_right _ (List.mem_of_getElem? (i := 16) rfl))).2
theorem ok47 {M : Mem} (h : Fix M) : ok M 47 21 := (h.2.2.1 (47, 21, 1640) (List.mem_append_right _ (List.mem_of_getElem? (i := 17) rfl))).1
theorem ln47 {M : Mem} (h : Fix M) : mL M 47 = 1640 := (h.2.2.1 (47, 21, 1640) (List.mem_append_right _ (List.mem_of_getElem? (i := 17) rfl))).2
theorem ok48 {M : Mem} (h : Fix M) : ok M 48 21 := (h.2.2.1 (48, 21, 4) (List.mem_append_right _ (List.mem_of_getElem? (i := 18) rfl))).1
theorem ln48 {M : Mem} (h : Fix M) : mL M 48 = 4 := (h.2.2.1 (48, 21, 4) (List.mem_append_right _ (List.mem_of_getElem? (i := 18) rfl))).2
theorem ok49 {M : Mem} (h : Fix M) : ok M 49 21 := (h.2.2.1 (49, 21, 3240) (List.mem_append_right _ (List.mem_of_getElem? (i := 19) rfl))).1
theorem ln49 {M : Mem} (h : Fix M) : mL M 49 = 3240 := (h.2.2.1 (49, 21, 3240) (List.mem_append_right _ (List.mem_of_getElem? (i := 19) rfl))).2
theorem ok50 {M : Mem} (h : Fix M) : ok M 50 23 := (h.2.2.1 (50, 23, 3240) (List.mem_append_right _ (List.mem_of_getElem? (i := 20) rfl))).1
theorem ln50 {M : Mem} (h : Fix M) : mL M 50 = 3240 := (h.2.2.1 (50, 23, 3240) (List.mem_append_right _ (List.mem_of_getElem? (i := 20) rfl))).2
theorem ok51 {M : Mem} (h : Fix M) : ok M 51 21 := (h.2.2.1 (51, 21, 3240) (List.mem_append_right _ (List.mem_of_getElem? (i := 21) rfl))).1
theorem ln51 {M : Mem} (h : Fix M) : mL M 51 = 3240 := (h.2.2.1 (51, 21, 3240) (List.mem_append_right _ (List.mem_of_getElem? (i := 21) rfl))).2
theorem ok52 {M : Mem} (h : Fix M) : ok M 52 21 := (h.2.2.1 (52, 21, 900) (List.mem_append_right _ (List.mem_of_getElem? (i := 22) rfl))).1
theorem ln52 {M : Mem} (h : Fix M) : mL M 52 = 900 := (h.2.2.1 (52, 21, 900) (List.mem_append_right _ (List.mem_of_getElem? (i := 22) rfl))).2
theorem ok53 {M : Mem} (h : Fix M) : ok M 53 21 := (h.2.2.1 (53, 21, 900) (List.mem_append_right _ (List.mem_of_getElem? (i := 23) rfl))).1
theorem ln53 {M : Mem} (h : Fix M) : mL M 53 = 900 := (h.2.2.1 (53, 21, 900) (List.mem_append_right _ (List.mem_of_getElem? (i := 23) rfl))).2
theorem ok54 {M : Mem} (h : Fix M) : ok M 54 21 := (h.2.2.1 (54, 21, 4) (List.mem_append_right _ (List.mem_of_getElem? (i := 24) rfl))).1
theorem ln54 {M : Mem} (h : Fix M) : mL M 54 = 4 := (h.2.2.1 (54, 21, 4) (List.mem_append_right _ (List.mem_of_getElem? (i := 24) rfl))).2
theorem ok55 {M : Mem} (h : Fix M) : ok M 55 21 := (h.2.2.1 (55, 21, 4) (List.mem_append_right _ (List.mem_of_getElem? (i := 25) rfl))).1
theorem ln55 {M : Mem} (h : Fix M) : mL M 55 = 4 := (h.2.2.1 (55, 21, 4) (List.mem_append_right _ (List.mem_of_getElem? (i := 25) rfl))).2
theorem ok56 {M : Mem} (h : Fix M) : ok M 56 21 := (h.2.2.1 (56, 21, 4) (List.mem_append_right _ (List.mem_of_getElem? (i := 26) rfl))).1
theorem ln56 {M : Mem} (h : Fix M) : mL M 56 = 4 := (h.2.2.1 (56, 21, 4) (List.mem_append_right _ (List.mem_of_getElem? (i := 26) rfl))).2
theorem ok57 {M : Mem} (h : Fix M) : ok M 57 21 := (h.2.2.1 (57, 21, 4) (List.mem_append_right _ (List.mem_of_getElem? (i := 27) rfl))).1
theorem ln57 {M : Mem} (h : Fix M) : mL M 57 = 4 := (h.2.2.1 (57, 21, 4) (List.mem_append_right _ (List.mem_of_getElem? (i := 27) rfl))).2
theorem ok58 {M : Mem} (h : Fix M) : ok M 58 21 := (h.2.2.1 (58, 21, 160) (List.mem_append_right _ (List.mem_of_getElem? (i := 28) rfl))).1
theorem ln58 {M : Mem} (h : Fix M) : mL M 58 = 160 := (h.2.2.1 (58, 21, 160) (List.mem_append_right _ (List.mem_of_getElem? (i := 28) rfl))).2
theorem ok59 {M : Mem} (h : Fix M) : ok M 59 21 := (h.2.2.1 (59, 21, 160) (List.mem_append_right _ (List.mem_of_getElem? (i := 29) rfl))).1
theorem ln59 {M : Mem} (h : Fix M) : mL M 59 = 160 := (h.2.2.1 (59, 21, 160) (List.mem_append_right _ (List.mem_of_getElem? (i := 29) rfl))).2
theorem ok60 {M : Mem} (h : Fix M) : ok M 60 21 := (h.2.2.1 (60, 21, 160) (List.mem_append_right _ (List.mem_of_getElem? (i := 30) rfl))).1
theorem ln60 {M : Mem} (h : Fix M) : mL M 60 = 160 := (h.2.2.1 (60, 21, 160) (List.mem_append_right _ (List.mem_of_getElem? (i := 30) rfl))).2
theorem ok61 {M : Mem} (h : Fix M) : ok M 61 22 := (h.2.2.1 (61, 22, 160) (List.mem_append_right _ (List.mem_of_getElem? (i := 31) rfl))).1
theorem ln61 {M : Mem} (h : Fix M) : mL M 61 = 160 := (h.2.2.1 (61, 22, 160) (List.mem_append_right _ (List.mem_of_getElem? (i := 31) rfl))).2
theorem ok62 {M : Mem} (h : Fix M) : ok M 62 21 := (h.2.2.1 (62, 21, 160) (List.mem_append_right _ (List.mem_of_getElem? (i := 32) rfl))).1
theorem ln62 {M : Mem} (h : Fix M) : mL M 62 = 160 := (h.2.2.1 (62, 21, 160) (List.mem_append_right _ (List.mem_of_getElem? (i := 32) rfl))).2
theorem ok63 {M : Mem} (h : Fix M) : ok M 63 21 := (h.2.2.1 (63, 21, 160) (List.mem_append_right _ (List.mem_of_getElem? (i := 33) rfl))).1
theorem ln63 {M : Mem} (h : Fix M) : mL M 63 = 160 := (h.2.2.1 (63, 21, 160) (List.mem_append_right _ (List.mem_of_getElem? (i := 33) rfl))).2
theorem ok64 {M : Mem} (h : Fix M) : ok M 64 21 := (h.2.2.1 (64, 21, 160) (List.mem_append_right _ (List.mem_of_getElem? (i := 34) rfl))).1
theorem ln64 {M : Mem} (h : Fix M) : mL M 64 = 160 := (h.2.2.1 (64, 21, 160) (List.mem_append_right _ (List.mem_of_getElem? (i := 34) rfl))).2
theorem ok65 {M : Mem} (h : Fix M) : ok M 65 21 := (h.2.2.1 (65, 21, 160) (List.mem_append_right _ (List.mem_of_getElem? (i := 35) rfl))).1
theorem ln65 {M : Mem} (h : Fix M) : mL M 65 = 160 := (h.2.2.1 (65, 21, 160) (List.mem_append_right _ (List.mem_of_getElem? (i := 35) rfl))).2
theorem ok66 {M : Mem} (h : Fix M) : ok M 66 21 := (h.2.2.1 (66, 21, 160) (List.mem_append_right _ (List.mem_of_getElem? (i := 36) rfl))).1
theorem ln66 {M : Mem} (h : Fix M) : mL M 66 = 160 := (h.2.2.1 (66, 21, 160) (List.mem_append_right _ (List.mem_of_getElem? (i := 36) rfl))).2
theorem ok67 {M : Mem} (h : Fix M) : ok M 67 21 := (h.2.2.1 (67, 21, 160) (List.mem_append_right _ (List.mem_of_getElem? (i := 37) rfl))).1
theorem ln67 {M : Mem} (h : Fix M) : mL M 67 = 160 := (h.2.2.1 (67, 21, 160) (List.mem_append_right _ (List.mem_of_getElem? (i := 37) rfl))).2
theorem ok68 {M : Mem} (h : Fix M) : ok M 68 21 := (h.2.2.1 (68, 21, 160) (List.mem_append_right _ (List.mem_of_getElem? (i := 38) rfl))).1
theorem ln68 {M : Mem} (h : Fix M) : mL M 68 = 160 := (h.2.2.1 (68, 21, 160) (List.mem_append_right _ (List.mem_of_getElem? (i := 38) rfl))).2
theorem ok69 {M : Mem} (h : Fix M) : ok M 69 21 := (h.2.2.1 (69, 21, 160) (List.mem_append_right _ (List.mem_of_getElem? (i := 39) rfl))).1
theorem ln69 {M : Mem} (h : Fix M) : mL M 69 = 160 := (h.2.2.1 (69, 21, 160) (List.mem_append_right _ (List.mem_of_getElem? (i := 39) rfl))).2
theorem ok70 {M : Mem} (h : Fix M) : ok M 70 21 := (h.2.2.1 (70, 21, 160) (List.mem_append_right _ (List.mem_of_getElem? (i := 40) rfl))).1
theorem ln70 {M : Mem} (h : Fix M) : mL M 70 = 160 := (h.2.2.1 (70, 21, 160) (List.mem_append_right _ (List.mem_of_getElem? (i := 40) rfl))).2
theorem ok71 {M : Mem} (h : Fix M) : ok M 71 21 := (h.2.2.1 (71, 21, 160) (List.mem_append_right _ (List.mem_of_getElem? (i := 41) rfl))).1
theorem ln71 {M : Mem} (h : Fix M) : mL M 71 = 160 := (h.2.2.1 (71, 21, 160) (List.mem_append_right _ (List.mem_of_getElem? (i := 41) rfl))).2
theorem ok72 {M : Mem} (h : Fix M) : ok M 72 23 := (h.2.2.1 (72, 23, 160) (List.mem_append_right _ (List.mem_of_getElem? (i := 42) rfl))).1
theorem ln72 {M : Mem} (h : Fix M) : mL M 72 = 160 := (h.2.2.1 (72, 23, 160) (List.mem_append_right _ (List.mem_of_getElem? (i := 42) rfl))).2
theorem ok73 {M : Mem} (h : Fix M) : ok M 73 21 := (h.2.2.1 (73, 21, 100) (List.mem_append_right _ (List.mem_of_getElem? (i := 43) rfl))).1
theorem ln73 {M : Mem} (h : Fix M) : mL M 73 = 100 := (h.2.2.1 (73, 21, 100) (List.mem_append_right _ (List.mem_of_getElem? (i := 43) rfl))).2
theorem ok74 {M : Mem} (h : Fix M) : ok M 74 21 := (h.2.2.1 (74, 21, 100) (List.mem_append_right _ (List.mem_of_getElem? (i := 44) rfl))).1
theorem ln74 {M : Mem} (h : Fix M) : mL M 74 = 100 := (h.2.2.1 (74, 21, 100) (List.mem_append_right _ (List.mem_of_getElem? (i := 44) rfl))).2
theorem ok75 {M : Mem} (h : Fix M) : ok M 75 21 := (h.2.2.1 (75, 21, 100) (List.mem_append_right _ (List.mem_of_getElem? (i := 45) rfl))).1
theorem ln75 {M : Mem} (h : Fix M) : mL M 75 = 100 := (h.2.2.1 (75, 21, 100) (List.mem_append_right _ (List.mem_of_getElem? (i := 45) rfl))).2
theorem ok76 {M : Mem} (h : Fix M) : ok M 76 21 := (h.2.2.1 (76, 21, 17) (List.mem_append_right _ (List.mem_of_getElem? (i := 46) rfl))).1
theorem ln76 {M : Mem} (h : Fix M) : mL M 76 = 17 := (h.2.2.1 (76, 21, 17) (List.mem_append_right _ (List.mem_of_getElem? (i := 46) rfl))).2
theorem ok77 {M : Mem} (h : Fix M) : ok M 77 21 := (h.2.2.1 (77, 21, 17) (List.mem_append_right _ (List.mem_of_getElem? (i := 47) rfl))).1
theorem ln77 {M : Mem} (h : Fix M) : mL M 77 = 17 := (h.2.2.1 (77, 21, 17) (List.mem_append_right _ (List.mem_of_getElem? (i := 47) rfl))).2
theorem ok78 {M : Mem} (h : Fix M) : ok M 78 21 := (h.2.2.1 (78, 21, 17) (List.mem_append_right _ (List.mem_of_getElem? (i := 48) rfl))).1
theorem ln78 {M : Mem} (h : Fix M) : mL M 78 = 17 := (h.2.2.1 (78, 21, 17) (List.mem_append_right _ (List.mem_of_getElem? (i := 48) rfl))).2
theorem ok79 {M : Mem} (h : Fix M) : ok M 79 21 := (h.2.2.1 (79, 21, 4) (List.mem_append_right _ (List.mem_of_getElem? (i := 49) rfl))).1
theorem ln79 {M : Mem} (h : Fix M) : mL M 79 = 4 := (h.2.2.1 (79, 21, 4) (List.mem_append_right _ (List.mem_of_getElem? (i := 49) rfl))).2
theorem ok80 {M : Mem} (h : Fix M) : ok M 80 21 := (h.2.2.1 (80, 21, 2800) (List.mem_append_right _ (List.mem_of_getElem? (i := 50) rfl))).1
theorem ln80 {M : Mem} (h : Fix M) : mL M 80 = 2800 := (h.2.2.1 (80, 21, 2800) (List.mem_append_right _ (List.mem_of_getElem? (i := 50) rfl))).2
theorem ok81 {M : Mem} (h : Fix M) : ok M 81 21 := (h.2.2.1 (81, 21, 2800) (List.mem_append_right _ (List.mem_of_getElem? (i := 51) rfl))).1
theorem ln81 {M : Mem} (h : Fix M) : mL M 81 = 2800 := (h.2.2.1 (81, 21, 2800) (List.mem_append_right _ (List.mem_of_getElem? (i := 51) rfl))).2
theorem ok82 {M : Mem} (h : Fix M) : ok M 82 21 := (h.2.2.1 (82, 21, 2800) (List.mem_append_right _ (List.mem_of_getElem? (i := 52) rfl))).1
theorem ln82 {M : Mem} (h : Fix M) : mL M 82 = 2800 := (h.2.2.1 (82, 21, 2800) (List.mem_append_right _ (List.mem_of_getElem? (i := 52) rfl))).2
theorem ok83 {M : Mem} (h : Fix M) : ok M 83 21 := (h.2.2.1 (83, 21, 2800) (List.mem_append_right _ (List.mem_of_getElem? (i := 53) rfl))).1
theorem ln83 {M : Mem} (h : Fix M) : mL M 83 = 2800 := (h.2.2.1 (83, 21, 2800) (List.mem_append_right _ (List.mem_of_getElem? (i := 53) rfl))).2
theorem ok84 {M : Mem} (h : Fix M) : ok M 84 21 := (h.2.2.1 (84, 21, 2800) (List.mem_append_right _ (List.mem_of_getElem? (i := 54) rfl))).1
theorem ln84 {M : Mem} (h : Fix M) : mL M 84 = 2800 := (h.2.2.1 (84, 21, 2800) (List.mem_append_right _ (List.mem_of_getElem? (i := 54) rfl))).2
theorem ok85 {M : Mem} (h : Fix M) : ok M 85 21 := (h.2.2.1 (85, 21, 2800) (List.mem_append_right _ (List.mem_of_getElem? (i := 55) rfl))).1
theorem ln85 {M : Mem} (h : Fix M) : mL M 85 = 2800 := (h.2.2.1 (85, 21, 2800) (List.mem_append_right _ (List.mem_of_getElem? (i := 55) rfl))).2
theorem ok86 {M : Mem} (h : Fix M) : ok M 86 21 := (h.2.2.1 (86, 21, 2800) (List.mem_append_right _ (List.mem_of_getElem? (i := 56) rfl))).1
theorem ln86 {M : Mem} (h : Fix M) : mL M 86 = 2800 := (h.2.2.1 (86, 21, 2800) (List.mem_append_right _ (List.mem_of_getElem? (i := 56) rfl))).2
theorem ok87 {M : Mem} (h : Fix M) : ok M 87 21 := (h.2.2.1 (87, 21, 2800) (List.mem_append_right _ (List.mem_of_getElem? (i := 57) rfl))).1
theorem ln87 {M : Mem} (h : Fix M) : mL M 87 = 2800 := (h.2.2.1 (87, 21, 2800) (List.mem_append_right _ (List.mem_of_getElem? (i := 57) rfl))).2
theorem ok88 {M : Mem} (h : Fix M) : ok M 88 21 := (h.2.2.1 (88, 21, 2800) (List.mem_append_right _ (List.mem_of_getElem? (i := 58) rfl))).1
theorem ln88 {M : Mem} (h : Fix M) : mL M 88 = 2800 := (h.2.2.1 (88, 21, 2800) (List.mem_append_right _ (List.mem_of_getElem? (i := 58) rfl))).2
theorem ok89 {M : Mem} (h : Fix M) : ok M 89 21 := (h.2.2.1 (89, 21, 2800) (List.mem_append_right _ (List.mem_of_getElem? (i := 59) rfl))).1
theorem ln89 {M : Mem} (h : Fix M) : mL M 89 = 2800 := (h.2.2.1 (89, 21, 2800) (List.mem_append_right _ (List.mem_of_getElem? (i := 59) rfl))).2
theorem ok90 {M : Mem} (h : Fix M) : ok M 90 21 := (h.2.2.1 (90, 21, 160) (List.mem_append_right _ (List.mem_of_getElem? (i := 60) rfl))).1
theorem ln90 {M : Mem} (h : Fix M) : mL M 90 = 160 := (h.2.2.1 (90, 21, 160) (List.mem_append_right _ (List.mem_of_getElem? (i := 60) rfl))).2
theorem ok91 {M : Mem} (h : Fix M) : ok M 91 21 := (h.2.2.1 (91, 21, 4) (List.mem_append_right _ (List.mem_of_getElem? (i := 61) rfl))).1
theorem ln91 {M : Mem} (h : Fix M) : mL M 91 = 4 := (h.2.2.1 (91, 21, 4) (List.mem_append_right _ (List.mem_of_getElem? (i := 61) rfl))).2
theorem ok92 {M : Mem} (h : Fix M) : ok M 92 21 := (h.2.2.1 (92, 21, 4) (List.mem_append_right _ (List.mem_of_getElem? (i := 62) rfl))).1
theorem ln92 {M : Mem} (h : Fix M) : mL M 92 = 4 := (h.2.2.1 (92, 21, 4) (List.mem_append_right _ (List.mem_of_getElem? (i := 62) rfl))).2
theorem ok93 {M : Mem} (h : Fix M) : ok M 93 21 := (h.2.2.1 (93, 21, 5600) (List.mem_append_right _ (List.mem_of_getElem? (i := 63) rfl))).1
theorem ln93 {M : Mem} (h : Fix M) : mL M 93 = 5600 := (h.2.2.1 (93, 21, 5600) (List.mem_append_right _ (List.mem_of_getElem? (i := 63) rfl))).2
theorem ok94 {M : Mem} (h : Fix M) : ok M 94 21 := (h.2.2.1 (94, 21, 4) (List.mem_append_right _ (List.mem_of_getElem? (i := 64) rfl))).1
theorem ln94 {M : Mem} (h : Fix M) : mL M 94 = 4 := (h.2.2.1 (94, 21, 4) (List.mem_append_right _ (List.mem_of_getElem? (i := 64) rfl))).2
theorem ok95 {M : Mem} (h : Fix M) : ok M 95 21 := (h.2.2.1 (95, 21, 700) (List.mem_append_right _ (List.mem_of_getElem? (i := 65) rfl))).1
theorem ln95 {M : Mem} (h : Fix M) : mL M 95 = 700 := (h.2.2.1 (95, 21, 700) (List.mem_append_right _ (List.mem_of_getElem? (i := 65) rfl))).2
theorem ok96 {M : Mem} (h : Fix M) : ok M 96 21 := (h.2.2.1 (96, 21, 700) (List.mem_append_right _ (List.mem_of_getElem? (i := 66) rfl))).1
theorem ln96 {M : Mem} (h : Fix M) : mL M 96 = 700 := (h.2.2.1 (96, 21, 700) (List.mem_append_right _ (List.mem_of_getElem? (i := 66) rfl))).2
theorem ok97 {M : Mem} (h : Fix M) : ok M 97 21 := (h.2.2.1 (97, 21, 700) (List.mem_append_right _ (List.mem_of_getElem? (i := 67) rfl))).1
theorem ln97 {M : Mem} (h : Fix M) : mL M 97 = 700 := (h.2.2.1 (97, 21, 700) (List.mem_append_right _ (List.mem_of_getElem? (i := 67) rfl))).2
theorem ok98 {M : Mem} (h : Fix M) : ok M 98 21 := (h.2.2.1 (98, 21, 700) (List.mem_append_right _ (List.mem_of_getElem? (i := 68) rfl))).1
theorem ln98 {M : Mem} (h : Fix M) : mL M 98 = 700 := (h.2.2.1 (98, 21, 700) (List.mem_append_right _ (List.mem_of_getElem? (i := 68) rfl))).2
theorem ok99 {M : Mem} (h : Fix M) : ok M 99 21 := (h.2.2.1 (99, 21, 16800) (List.mem_append_right _ (List.mem_of_getElem? (i := 69) rfl))).1
theorem ln99 {M : Mem} (h : Fix M) : mL M 99 = 16800 := (h.2.2.1 (99, 21, 16800) (List.mem_append_right _ (List.mem_of_getElem? (i := 69) rfl))).2
theorem ok100 {M : Mem} (h : Fix M) : ok M 100 21 := (h.2.2.1 (100, 21, 16) (List.mem_append_right _ (List.mem_of_getElem? (i := 70) rfl))).1
theorem ln100 {M : Mem} (h : Fix M) : mL M 100 = 16 := (h.2.2.1 (100, 21, 16) (List.mem_append_right _ (List.mem_of_getElem? (i := 70) rfl))).2
theorem ok101 {M : Mem} (h : Fix M) : ok M 101 21 := (h.2.2.1 (101, 21, 1640) (List.mem_append_right _ (List.mem_of_getElem? (i := 71) rfl))).1
theorem ln101 {M : Mem} (h : Fix M) : mL M 101 = 1640 := (h.2.2.1 (101, 21, 1640) (List.mem_append_right _ (List.mem_of_getElem? (i := 71) rfl))).2
theorem ok102 {M : Mem} (h : Fix M) : ok M 102 21 := (h.2.2.1 (102, 21, 8) (List.mem_append_right _ (List.mem_of_getElem? (i := 72) rfl))).1
theorem ln102 {M : Mem} (h : Fix M) : mL M 102 = 8 := (h.2.2.1 (102, 21, 8) (List.mem_append_right _ (List.mem_of_getElem? (i := 72) rfl))).2
theorem ok103 {M : Mem} (h : Fix M) : ok M 103 22 := (h.2.2.1 (103, 22, 32) (List.mem_append_right _ (List.mem_of_getElem? (i := 73) rfl))).1
theorem ln103 {M : Mem} (h : Fix M) : mL M 103 = 32 := (h.2.2.1 (103, 22, 32) (List.mem_append_right _ (List.mem_of_getElem? (i := 73) rfl))).2
theorem ok104 {M : Mem} (h : Fix M) : ok M 104 22 := (h.2.2.1 (104, 22, 32) (List.mem_append_right _ (List.mem_of_getElem? (i := 74) rfl))).1
theorem ln104 {M : Mem} (h : Fix M) : mL M 104 = 32 := (h.2.2.1 (104, 22, 32) (List.mem_append_right _ (List.mem_of_getElem? (i := 74) rfl))).2
theorem ok105 {M : Mem} (h : Fix M) : ok M 105 21 := (h.2.2.1 (105, 21, 32) (List.mem_append_right _ (List.mem_of_getElem? (i := 75) rfl))).1
theorem ln105 {M : Mem} (h : Fix M) : mL M 105 = 32 := (h.2.2.1 (105, 21, 32) (List.mem_append_right _ (List.mem_of_getElem? (i := 75) rfl))).2
theorem ok106 {M : Mem} (h : Fix M) : ok M 106 21 := (h.2.2.1 (106, 21, 32) (List.mem_append_right _ (List.mem_of_getElem? (i := 76) rfl))).1
theorem ln106 {M : Mem} (h : Fix M) : mL M 106 = 32 := (h.2.2.1 (106, 21, 32) (List.mem_append_right _ (List.mem_of_getElem? (i := 76) rfl))).2
theorem ok107 {M : Mem} (h : Fix M) : ok M 107 23 := (h.2.2.1 (107, 23, 512) (List.mem_append_right _ (List.mem_of_getElem? (i := 77) rfl))).1
theorem ln107 {M : Mem} (h : Fix M) : mL M 107 = 512 := (h.2.2.1 (107, 23, 512) (List.mem_append_right _ (List.mem_of_getElem? (i := 77) rfl))).2
theorem ok108 {M : Mem} (h : Fix M) : ok M 108 23 := (h.2.2.1 (108, 23, 192) (List.mem_append_right _ (List.mem_of_getElem? (i := 78) rfl))).1
theorem ln108 {M : Mem} (h : Fix M) : mL M 108 = 192 := (h.2.2.1 (108, 23, 192) (List.mem_append_right _ (List.mem_of_getElem? (i := 78) rfl))).2
theorem ok109 {M : Mem} (h : Fix M) : ok M 109 21 := (h.2.2.1 (109, 21, 32) (List.mem_append_right _ (List.mem_of_getElem? (i := 79) rfl))).1
theorem ln109 {M : Mem} (h : Fix M) : mL M 109 = 32 := (h.2.2.1 (109, 21, 32) (List.mem_append_right _ (List.mem_of_getElem? (i := 79) rfl))).2
theorem ok110 {M : Mem} (h : Fix M) : ok M 110 21 := (h.2.2.1 (110, 21, 8) (List.mem_append_right _ (List.mem_of_getElem? (i := 80) rfl))).1
theorem ln110 {M : Mem} (h : Fix M) : mL M 110 = 8 := (h.2.2.1 (110, 21, 8) (List.mem_append_right _ (List.mem_of_getElem? (i := 80) rfl))).2
theorem ok111 {M : Mem} (h : Fix M) : ok M 111 21 := (h.2.2.1 (111, 21, 8) (List.mem_append_right _ (List.mem_of_getElem? (i := 81) rfl))).1
theorem ln111 {M : Mem} (h : Fix M) : mL M 111 = 8 := (h.2.2.1 (111, 21, 8) (List.mem_append_right _ (List.mem_of_getElem? (i := 81) rfl))).2
theorem ok112 {M : Mem} (h : Fix M) : ok M 112 23 := (h.2.2.1 (112, 23, 32) (List.mem_append_right _ (List.mem_of_getElem? (i := 82) rfl))).1
theorem ln112 {M : Mem} (h : Fix M) : mL M 112 = 32 := (h.2.2.1 (112, 23, 32) (List.mem_append_right _ (List.mem_of_getElem? (i := 82) rfl))).2
theorem ok113 {M : Mem} (h : Fix M) : ok M 113 21 := (h.2.2.1 (113, 21, 8) (List.mem_append_right _ (List.mem_of_getElem? (i := 83) rfl))).1
theorem ln113 {M : Mem} (h : Fix M) : mL M 113 = 8 := (h.2.2.1 (113, 21, 8) (List.mem_append_right _ (List.mem_of_getElem? (i := 83) rfl))).2
theorem ok114 {M : Mem} (h : Fix M) : ok M 114 21 := (h.2.2.1 (114, 21, 8) (List.mem_append_right _ (List.mem_of_getElem? (i := 84) rfl))).1
theorem ln114 {M : Mem} (h : Fix M) : mL M 114 = 8 := (h.2.2.1 (114, 21, 8) (List.mem_append_right _ (List.mem_of_getElem? (i := 84) rfl))).2
theorem ok115 {M : Mem} (h : Fix M) : ok M 115 21 := (h.2.2.1 (115, 21, 8) (List.mem_append_right _ (List.mem_of_getElem? (i := 85) rfl))).1
theorem ln115 {M : Mem} (h : Fix M) : mL M 115 = 8 := (h.2.2.1 (115, 21, 8) (List.mem_append_right _ (List.mem_of_getElem? (i := 85) rfl))).2
theorem ok116 {M : Mem} (h : Fix M) : ok M 116 21 := (h.2.2.1 (116, 21, 8) (List.mem_append_right _ (List.mem_of_getElem? (i := 86) rfl))).1
theorem ln116 {M : Mem} (h : Fix M) : mL M 116 = 8 := (h.2.2.1 (116, 21, 8) (List.mem_append_right _ (List.mem_of_getElem? (i := 86) rfl))).2
theorem ok117 {M : Mem} (h : Fix M) : ok M 117 21 := (h.2.2.1 (117, 21, 1600) (List.mem_append_right _ (List.mem_of_getElem? (i := 87) rfl))).1
theorem ln117 {M : Mem} (h : Fix M) : mL M 117 = 1600 := (h.2.2.1 (117, 21, 1600) (List.mem_append_right _ (List.mem_of_getElem? (i := 87) rfl))).2
theorem ok118 {M : Mem} (h : Fix M) : ok M 118 23 := (h.2.2.1 (118, 23, 3240) (List.mem_append_right _ (List.mem_of_getElem? (i := 88) rfl))).1
theorem ln118 {M : Mem} (h : Fix M) : mL M 118 = 3240 := (h.2.2.1 (118, 23, 3240) (List.mem_append_right _ (List.mem_of_getElem? (i := 88) rfl))).2
theorem ok119 {M : Mem} (h : Fix M) : ok M 119 23 := (h.2.2.1 (119, 23, 16) (List.mem_append_right _ (List.mem_of_getElem? (i := 89) rfl))).1
theorem ln119 {M : Mem} (h : Fix M) : mL M 119 = 16 := (h.2.2.1 (119, 23, 16) (List.mem_append_right _ (List.mem_of_getElem? (i := 89) rfl))).2
theorem ok120 {M : Mem} (h : Fix M) : ok M 120 23 := (h.2.2.1 (120, 23, 6) (List.mem_append_right _ (List.mem_of_getElem? (i := 90) rfl))).1
theorem ln120 {M : Mem} (h : Fix M) : mL M 120 = 6 := (h.2.2.1 (120, 23, 6) (List.mem_append_right _ (List.mem_of_getElem? (i := 90) rfl))).2
theorem ok121 {M : Mem} (h : Fix M) : ok M 121 21 := (h.2.2.1 (121, 21, 40) (List.mem_append_right _ (List.mem_of_getElem? (i := 91) rfl))).1
theorem ln121 {M : Mem} (h : Fix M) : mL M 121 = 40 := (h.2.2.1 (121, 21, 40) (List.mem_append_right _ (List.mem_of_getElem? (i := 91) rfl))).2
theorem ok122 {M : Mem} (h : Fix M) : ok M 122 21 := (h.2.2.1 (122, 21, 4) (List.mem_append_right _ (List.mem_of_getElem? (i := 92) rfl))).1
theorem ln122 {M : Mem} (h : Fix M) : mL M 122 = 4 := (h.2.2.1 (122, 21, 4) (List.mem_append_right _ (List.mem_of_getElem? (i := 92) rfl))).2
theorem ok123 {M : Mem} (h : Fix M) : ok M 123 21 := (h.2.2.1 (123, 21, 4) (List.mem_append_right _ (List.mem_of_getElem? (i := 93) rfl))).1
theorem ln123 {M : Mem} (h : Fix M) : mL M 123 = 4 := (h.2.2.1 (123, 21, 4) (List.mem_append_right _ (List.mem_of_getElem? (i := 93) rfl))).2
theorem ok124 {M : Mem} (h : Fix M) : ok M 124 21 := (h.2.2.1 (124, 21, 192) (List.mem_append_right _ (List.mem_of_getElem? (i := 94) rfl))).1
theorem ln124 {M : Mem} (h : Fix M) : mL M 124 = 192 := (h.2.2.1 (124, 21, 192) (List.mem_append_right _ (List.mem_of_getElem? (i := 94) rfl))).2
theorem ok125 {M : Mem} (h : Fix M) : ok M 125 21 := (h.2.2.1 (125, 21, 192) (List.mem_append_right _ (List.mem_of_getElem? (i := 95) rfl))).1
theorem ln125 {M : Mem} (h : Fix M) : mL M 125 = 192 := (h.2.2.1 (125, 21, 192) (List.mem_append_right _ (List.mem_of_getElem? (i := 95) rfl))).2
theorem ok126 {M : Mem} (h : Fix M) : ok M 126 21 := (h.2.2.1 (126, 21, 192) (List.mem_append_right _ (List.mem_of_getElem? (i := 96) rfl))).1
theorem ln126 {M : Mem} (h : Fix M) : mL M 126 = 192 := (h.2.2.1 (126, 21, 192) (List.mem_append_right _ (List.mem_of_getElem? (i := 96) rfl))).2
theorem ok127 {M : Mem} (h : Fix M) : ok M 127 21 := (h.2.2.1 (127, 21, 192) (List.mem_append_right _ (List.mem_of_getElem? (i := 97) rfl))).1
theorem ln127 {M : Mem} (h : Fix M) : mL M 127 = 192 := (h.2.2.1 (127, 21, 192) (List.mem_append_right _ (List.mem_of_getElem? (i := 97) rfl))).2
theorem ok128 {M : Mem} (h : Fix M) : ok M 128 21 := (h.2.2.1 (128, 21, 192) (List.mem_append_right _ (List.mem_of_getElem? (i := 98) rfl))).1
theorem ln128 {M : Mem} (h : Fix M) : mL M 128 = 192 := (h.2.2.1 (128, 21, 192) (List.mem_append_right _ (List.mem_of_getElem? (i := 98) rfl))).2
theorem ok129 {M : Mem} (h : Fix M) : ok M 129 21 := (h.2.2.1 (129, 21, 6144) (List.mem_append_right _ (List.mem_of_getElem? (i := 99) rfl))).1
theorem ln129 {M : Mem} (h : Fix M) : mL M 129 = 6144 := (h.2.2.1 (129, 21, 6144) (List.mem_append_right _ (List.mem_of_getElem? (i := 99) rfl))).2
theorem ok130 {M : Mem} (h : Fix M) : ok M 130 21 := (h.2.2.1 (130, 21, 6144) (List.mem_append_right _ (List.mem_of_getElem? (i := 100) rfl))).1
theorem ln130 {M : Mem} (h : Fix M) : mL M 130 = 6144 := (h.2.2.1 (130, 21, 6144) (List.mem_append_right _ (List.mem_of_getElem? (i := 100) rfl))).2
theorem ok131 {M : Mem} (h : Fix M) : ok M 131 21 := (h.2.2.1 (131, 21, 48) (List.mem_append_right _ (List.mem_of_getElem? (i := 101) rfl))).1
theorem ln131 {M : Mem} (h : Fix M) : mL M 131 = 48 := (h.2.2.1 (131, 21, 48) (List.mem_append_right _ (List.mem_of_getElem? (i := 101) rfl))).2
theorem rf0_0 {M : Mem} (h : Fix M) : mR M 0 0 = some 1 := h.2.2.2.1 (0, 0, 1) (List.mem_append_left _ (List.mem_of_getElem? (i := 0) rfl))
theorem rf0_2 {M : Mem} (h : Fix M) : mR M 0 2 = some 2 := h.2.2.2.1 (0, 2, 2) (List.mem_append_left _ (List.mem_of_getElem? (i := 1) rfl))
theorem rf0_3 {M : Mem} (h : Fix M) : mR M 0 3 = some 3 := h.2.2.2.1 (0, 3, 3) (List.mem_append_left _ (List.mem_of_getElem? (i := 2) rfl))
theorem rf0_4 {M : Mem} (h : Fix M) : mR M 0 4 = some 14 := h.2.2.2.1 (0, 4, 14) (List.mem_append_left _ (List.mem_of_getElem? (i := 3) rfl))
theorem rf0_5 {M : Mem} (h : Fix M) : mR M 0 5 = some 21 := h.2.2.2.1 (0, 5, 21) (List.mem_append_left _ (List.mem_of_getElem? (i := 4) rfl))
theorem rf4_0 {M : Mem} (h : Fix M) : mR M 4 0 = some 5 := h.2.2.2.1 (4, 0, 5) (List.mem_append_left _ (List.mem_of_getElem? (i := 5) rfl))
theorem rf4_1 {M : Mem} (h : Fix M) : mR M 4 1 = some 6 := h.2.2.2.1 (4, 1, 6) (List.mem_append_left _ (List.mem_of_getElem? (i := 6) rfl))
theorem rf4_2 {M : Mem} (h : Fix M) : mR M 4 2 = some 7 := h.2.2.2.1 (4, 2, 7) (List.mem_append_left _ (List.mem_of_getElem? (i := 7) rfl))
theorem rf4_3 {M : Mem} (h : Fix M) : mR M 4 3 = some 8 := h.2.2.2.1 (4, 3, 8) (List.mem_append_left _ (List.mem_of_getElem? (i := 8) rfl))
theorem rf4_4 {M : Mem} (h : Fix M) : mR M 4 4 = some 9 := h.2.2.2.1 (4, 4, 9) (List.mem_append_left _ (List.mem_of_getElem? (i := 9) rfl))
theorem rf4_5 {M : Mem} (h : Fix M) : mR M 4 5 = some 10 := h.2.2.2.1 (4, 5, 10) (List.mem_append_left _ (List.mem_of_getElem? (i := 10) rfl))
theorem rf4_6 {M : Mem} (h : Fix M) : mR M 4 6 = some 11 := h.2.2.2.1 (4, 6, 11) (List.mem_append_left _ (List.mem_of_getElem? (i := 11) rfl))
theorem rf4_7 {M : Mem} (h : Fix M) : mR M 4 7 = some 12 := h.2.2.2.1 (4, 7, 12) (List.mem_append_left _ (List.mem_of_getElem? (i := 12) rfl))
theorem rf4_8 {M : Mem} (h : Fix M) : mR M 4 8 = some 13 := h.2.2.2.1 (4, 8, 13) (List.mem_append_left _ (List.mem_of_getElem? (i := 13) rfl))
theorem rf14_0 {M : Mem} (h : Fix M) : mR M 14 0 = some 15 := h.2.2.2.1 (14, 0, 15) (List.mem_append_left _ (List.mem_of_getElem? (i := 14) rfl))
theorem rf14_1 {M : Mem} (h : Fix M) : mR M 14 1 = some 4 := h.2.2.2.1 (14, 1, 4) (List.mem_append_left _ (List.mem_of_getElem? (i := 15) rfl))
theorem rf14_2 {M : Mem} (h : Fix M) : mR M 14 2 = some 20 := h.2.2.2.1 (14, 2, 20) (List.mem_append_left _ (List.mem_of_getElem? (i := 16) rfl))
theorem rf15_0 {M : Mem} (h : Fix M) : mR M 15 0 = some 1 := h.2.2.2.1 (15, 0, 1) (List.mem_append_left _ (List.mem_of_getElem? (i := 17) rfl))
theorem rf15_4 {M : Mem} (h : Fix M) : mR M 15 4 = some 16 := h.2.2.2.1 (15, 4, 16) (List.mem_append_left _ (List.mem_of_getElem? (i := 18) rfl))
theorem rf15_5 {M : Mem} (h : Fix M) : mR M 15 5 = some 17 := h.2.2.2.1 (15, 5, 17) (List.mem_append_left _ (List.mem_of_getElem? (i := 19) rfl))
theorem rf15_6 {M : Mem} (h : Fix M) : mR M 15 6 = some 18 := h.2.2.2.1 (15, 6, 18) (List.mem_append_left _ (List.mem_of_getElem? (i := 20) rfl))
theorem rf15_1 {M : Mem} (h : Fix M) : mR M 15 1 = some 19 := h.2.2.2.1 (15, 1, 19) (List.mem_append_left _ (List.mem_of_getElem? (i := 21) rfl))
theorem rf21_0 {M : Mem} (h : Fix M) : mR M 21 0 = some 4 := h.2.2.2.1 (21, 0, 4) (List.mem_append_left _ (List.mem_of_getElem? (i := 22) rfl))
theorem rf21_1 {M : Mem} (h : Fix M) : mR M 21 1 = some 22 := h.2.2.2.1 (21, 1, 22) (List.mem_append_left _ (List.mem_of_getElem? (i := 23) rfl))
theorem rf21_2 {M : Mem} (h : Fix M) : mR M 21 2 = some 23 := h.2.2.2.1 (21, 2, 23) (List.mem_append_left _ (List.mem_of_getElem? (i := 24) rfl))
theorem rf21_3 {M : Mem} (h : Fix M) : mR M 21 3 = some 24 := h.2.2.2.1 (21, 3, 24) (List.mem_append_left _ (List.mem_of_getElem? (i := 25) rfl))
theorem rf21_4 {M : Mem} (h : Fix M) : mR M 21 4 = some 25 := h.2.2.2.1 (21, 4, 25) (List.mem_append_left _ (List.mem_of_getElem? (i := 26) rfl))
theorem rf21_5 {M : Mem} (h : Fix M) : mR M 21 5 = some 26 := h.2.2.2.1 (21, 5, 26) (List.mem_append_left _ (List.mem_of_getElem? (i := 27) rfl))
theorem rf21_6 {M : Mem} (h : Fix M) : mR M 21 6 = some 27 := h.2.2.2.1 (21, 6, 27) (List.mem_append_left _ (List.mem_of_getElem? (i := 28) rfl))
theorem rf21_7 {M : Mem} (h : Fix M) : mR M 21 7 = some 28 := h.2.2.2.1 (21, 7, 28) (List.mem_append_left _ (List.mem_of_getElem? (i := 29) rfl))
theorem rf29_0 {M : Mem} (h : Fix M) : mR M 29 0 = some 30 := h.2.2.2.1 (29, 0, 30) (List.mem_append_right _ (List.mem_of_getElem? (i := 0) rfl))
theorem rf29_2 {M : Mem} (h : Fix M) : mR M 29 2 = some 31 := h.2.2.2.1 (29, 2, 31) (List.mem_append_right _ (List.mem_of_getElem? (i := 1) rfl))
theorem rf29_3 {M : Mem} (h : Fix M) : mR M 29 3 = some 32 := h.2.2.2.1 (29, 3, 32) (List.mem_append_right _ (List.mem_of_getElem? (i := 2) rfl))
theorem rf29_4 {M : Mem} (h : Fix M) : mR M 29 4 = some 33 := h.2.2.2.1 (29, 4, 33) (List.mem_append_right _ (List.mem_of_getElem? (i := 3) rfl))
theorem rf29_8 {M : Mem} (h : Fix M) : mR M 29 8 = some 34 := h.2.2.2.1 (29, 8, 34) (List.mem_append_right _ (List.mem_of_getElem? (i := 4) rfl))
theorem rf29_9 {M : Mem} (h : Fix M) : mR M 29 9 = some 35 := h.2.2.2.1 (29, 9, 35) (List.mem_append_right _ (List.mem_of_getElem? (i := 5) rfl))
theorem rf29_10 {M : Mem} (h : Fix M) : mR M 29 10 = some 36 := h.2.2.2.1 (29, 10, 36) (List.mem_append_right _ (List.mem_of_getElem? (i := 6) rfl))
theorem rf29_11 {M : Mem} (h : Fix M) : mR M 29 11 = some 37 := h.2.2.2.1 (29, 11, 37) (List.mem_append_right _ (List.mem_of_getElem? (i := 7) rfl))
theorem rf29_12 {M : Mem} (h : Fix M) : mR M 29 12 = some 38 := h.2.2.2.1 (29, 12, 38) (List.mem_append_right _ (List.mem_of_getElem? (i := 8) rfl))
theorem rf29_13 {M : Mem} (h : Fix M) : mR M 29 13 = some 39 := h.2.2.2.1 (29, 13, 39) (List.mem_append_right _ (List.mem_of_getElem? (i := 9) rfl))
theorem rf29_14 {M : Mem} (h : Fix M) : mR M 29 14 = some 40 := h.2.2.2.1 (29, 14, 40) (List.mem_append_right _ (List.mem_of_getElem? (i := 10) rfl))
theorem rf29_15 {M : Mem} (h : Fix M) : mR M 29 15 = some 41 := h.2.2.2.1 (29, 15, 41) (List.mem_append_right _ (List.mem_of_getElem? (i := 11) rfl))
theorem rf29_16 {M : Mem} (h : Fix M) : mR M 29 16 = some 42 := h.2.2.2.1 (29, 16, 42) (List.mem_append_right _ (List.mem_of_getElem? (i := 12) rfl))
theorem rf29_17 {M : Mem} (h : Fix M) : mR M 29 17 = some 43 := h.2.2.2.1 (29, 17, 43) (List.mem_append_right _ (List.mem_of_getElem? (i := 13) rfl))
theorem rf29_20 {M : Mem} (h : Fix M) : mR M 29 20 = some 44 := h.2.2.2.1 (29, 20, 44) (List.mem_append_right _ (List.mem_of_getElem? (i := 14) rfl))
theorem rf29_21 {M : Mem} (h : Fix M) : mR M 29 21 = some 45 := h.2.2.2.1 (29, 21, 45) (List.mem_append_right _ (List.mem_of_getElem? (i := 15) rfl))
theorem rf29_22 {M : Mem} (h : Fix M) : mR M 29 22 = some 46 := h.2.2.2.1 (29, 22, 46) (List.mem_append_right _ (List.mem_of_getElem? (i := 16) rfl))
theorem rf29_23 {M : Mem} (h : Fix M) : mR M 29 23 = some 47 := h.2.2.2.1 (29, 23, 47) (List.mem_append_right _ (List.mem_of_getElem? (i := 17) rfl))
theorem rf29_24 {M : Mem} (h : Fix M) : mR M 29 24 = some 48 := h.2.2.2.1 (29, 24, 48) (List.mem_append_right _ (List.mem_of_getElem? (i := 18) rfl))
theorem rf29_25 {M : Mem} (h : Fix M) : mR M 29 25 = some 49 := h.2.2.2.1 (29, 25, 49) (List.mem_append_right _ (List.mem_of_getElem? (i := 19) rfl))
theorem rf29_26 {M : Mem} (h : Fix M) : mR M 29 26 = some 50 := h.2.2.2.1 (29, 26, 50) (List.mem_append_right _ (List.mem_of_getElem? (i := 20) rfl))
theorem rf29_27 {M : Mem} (h : Fix M) : mR M 29 27 = some 51 := h.2.2.2.1 (29, 27, 51) (List.mem_append_right _ (List.mem_of_getElem? (i := 21) rfl))
theorem rf29_28 {M : Mem} (h : Fix M) : mR M 29 28 = some 52 := h.2.2.2.1 (29, 28, 52) (List.mem_append_right _ (List.mem_of_getElem? (i := 22) rfl))
theorem rf29_30 {M : Mem} (h : Fix M) : mR M 29 30 = some 53 := h.2.2.2.1 (29, 30, 53) (List.mem_append_right _ (List.mem_of_getElem? (i := 23) rfl))
theorem rf29_34 {M : Mem} (h : Fix M) : mR M 29 34 = some 54 := h.2.2.2.1 (29, 34, 54) (List.mem_append_right _ (List.mem_of_getElem? (i := 24) rfl))
theorem rf29_35 {M : Mem} (h : Fix M) : mR M 29 35 = some 55 := h.2.2.2.1 (29, 35, 55) (List.mem_append_right _ (List.mem_of_getElem? (i := 25) rfl))
theorem rf29_36 {M : Mem} (h : Fix M) : mR M 29 36 = some 56 := h.2.2.2.1 (29, 36, 56) (List.mem_append_right _ (List.mem_of_getElem? (i := 26) rfl))
theorem rf29_37 {M : Mem} (h : Fix M) : mR M 29 37 = some 57 := h.2.2.2.1 (29, 37, 57) (List.mem_append_right _ (List.mem_of_getElem? (i := 27) rfl))
theorem rf29_38 {M : Mem} (h : Fix M) : mR M 29 38 = some 58 := h.2.2.2.1 (29, 38, 58) (List.mem_append_right _ (List.mem_of_getElem? (i := 28) rfl))
theorem rf29_39 {M : Mem} (h : Fix M) : mR M 29 39 = some 59 := h.2.2.2.1 (29, 39, 59) (List.mem_append_right _ (List.mem_of_getElem? (i := 29) rfl))
theorem rf29_40 {M : Mem} (h : Fix M) : mR M 29 40 = some 60 := h.2.2.2.1 (29, 40, 60) (List.mem_append_right _ (List.mem_of_getElem? (i := 30) rfl))
theorem rf29_41 {M : Mem} (h : Fix M) : mR M 29 41 = some 61 := h.2.2.2.1 (29, 41, 61) (List.mem_append_right _ (List.mem_of_getElem? (i := 31) rfl))
theorem rf29_42 {M : Mem} (h : Fix M) : mR M 29 42 = some 62 := h.2.2.2.1 (29, 42, 62) (List.mem_append_right _ (List.mem_of_getElem? (i := 32) rfl))
theorem rf29_43 {M : Mem} (h : Fix M) : mR M 29 43 = some 63 := h.2.2.2.1 (29, 43, 63) (List.mem_append_right _ (List.mem_of_getElem? (i := 33) rfl))
theorem rf29_44 {M : Mem} (h : Fix M) : mR M 29 44 = some 64 := h.2.2.2.1 (29, 44, 64) (List.mem_append_right _ (List.mem_of_getElem? (i := 34) rfl))
theorem rf29_45 {M : Mem} (h : Fix M) : mR M 29 45 = some 65 := h.2.2.2.1 (29, 45, 65) (List.mem_append_right _ (List.mem_of_getElem? (i := 35) rfl))
theorem rf29_46 {M : Mem} (h : Fix M) : mR M 29 46 = some 66 := h.2.2.2.1 (29, 46, 66) (List.mem_append_right _ (List.mem_of_getElem? (i := 36) rfl))
theorem rf29_47 {M : Mem} (h : Fix M) : mR M 29 47 = some 67 := h.2.2.2.1 (29, 47, 67) (List.mem_append_right _ (List.mem_of_getElem? (i := 37) rfl))
theorem rf29_48 {M : Mem} (h : Fix M) : mR M 29 48 = some 68 := h.2.2.2.1 (29, 48, 68) (List.mem_append_right _ (List.mem_of_getElem? (i := 38) rfl))
theorem rf29_49 {M : Mem} (h : Fix M) : mR M 29 49 = some 69 := h.2.2.2.1 (29, 49, 69) (List.mem_append_right _ (List.mem_of_getElem? (i := 39) rfl))
theorem rf29_50 {M : Mem} (h : Fix M) : mR M 29 50 = some 70 := h.2.2.2.1 (29, 50, 70) (List.mem_append_right _ (List.mem_of_getElem? (i := 40) rfl))
theorem rf29_51 {M : Mem} (h : Fix M) : mR M 29 51 = some 71 := h.2.2.2.1 (29, 51, 71) (List.mem_append_right _ (List.mem_of_getElem? (i := 41) rfl))
theorem rf29_52 {M : Mem} (h : Fix M) : mR M 29 52 = some 72 := h.2.2.2.1 (29, 52, 72) (List.mem_append_right _ (List.mem_of_getElem? (i := 42) rfl))
theorem rf29_54 {M : Mem} (h : Fix M) : mR M 29 54 = some 73 := h.2.2.2.1 (29, 54, 73) (List.mem_append_right _ (List.mem_of_getElem? (i := 43) rfl))
theorem rf29_55 {M : Mem} (h : Fix M) : mR M 29 55 = some 74 := h.2.2.2.1 (29, 55, 74) (List.mem_append_right _ (List.mem_of_getElem? (i := 44) rfl))
theorem rf29_56 {M : Mem} (h : Fix M) : mR M 29 56 = some 75 := h.2.2.2.1 (29, 56, 75) (List.mem_append_right _ (List.mem_of_getElem? (i := 45) rfl))
theorem rf29_57 {M : Mem} (h : Fix M) : mR M 29 57 = some 76 := h.2.2.2.1 (29, 57, 76) (List.mem_append_right _ (List.mem_of_getElem? (i := 46) rfl))
theorem rf29_58 {M : Mem} (h : Fix M) : mR M 29 58 = some 77 := h.2.2.2.1 (29, 58, 77) (List.mem_append_right _ (List.mem_of_getElem? (i := 47) rfl))
theorem rf29_59 {M : Mem} (h : Fix M) : mR M 29 59 = some 78 := h.2.2.2.1 (29, 59, 78) (List.mem_append_right _ (List.mem_of_getElem? (i := 48) rfl))
theorem rf29_61 {M : Mem} (h : Fix M) : mR M 29 61 = some 79 := h.2.2.2.1 (29, 61, 79) (List.mem_append_right _ (List.mem_of_getElem? (i := 49) rfl))
theorem rf29_62 {M : Mem} (h : Fix M) : mR M 29 62 = some 80 := h.2.2.2.1 (29, 62, 80) (List.mem_append_right _ (List.mem_of_getElem? (i := 50) rfl))
theorem rf29_63 {M : Mem} (h : Fix M) : mR M 29 63 = some 81 := h.2.2.2.1 (29, 63, 81) (List.mem_append_right _ (List.mem_of_getElem? (i := 51) rfl))
theorem rf29_64 {M : Mem} (h : Fix M) : mR M 29 64 = some 82 := h.2.2.2.1 (29, 64, 82) (List.mem_append_right _ (List.mem_of_getElem? (i := 52) rfl))
theorem rf29_65 {M : Mem} (h : Fix M) : mR M 29 65 = some 83 := h.2.2.2.1 (29, 65, 83) (List.mem_append_right _ (List.mem_of_getElem? (i := 53) rfl))
theorem rf29_66 {M : Mem} (h : Fix M) : mR M 29 66 = some 84 := h.2.2.2.1 (29, 66, 84) (List.mem_append_right _ (List.mem_of_getElem? (i := 54) rfl))
theorem rf29_67 {M : Mem} (h : Fix M) : mR M 29 67 = some 85 := h.2.2.2.1 (29, 67, 85) (List.mem_append_right _ (List.mem_of_getElem? (i := 55) rfl))
theorem rf29_68 {M : Mem} (h : Fix M) : mR M 29 68 = some 86 := h.2.2.2.1 (29, 68, 86) (List.mem_append_right _ (List.mem_of_getElem? (i := 56) rfl))
theorem rf29_69 {M : Mem} (h : Fix M) : mR M 29 69 = some 87 := h.2.2.2.1 (29, 69, 87) (List.mem_append_right _ (List.mem_of_getElem? (i := 57) rfl))
theorem rf29_70 {M : Mem} (h : Fix M) : mR M 29 70 = some 88 := h.2.2.2.1 (29, 70, 88) (List.mem_append_right _ (List.mem_of_getElem? (i := 58) rfl))
theorem rf29_71 {M : Mem} (h : Fix M) : mR M 29 71 = some 89 := h.2.2.2.1 (29, 71, 89) (List.mem_append_right _ (List.mem_of_getElem? (i := 59) rfl))
theorem rf29_72 {M : Mem} (h : Fix M) : mR M 29 72 = some 90 := h.2.2.2.1 (29, 72, 90) (List.mem_append_right _ (List.mem_of_getElem? (i := 60) rfl))
theorem rf29_73 {M : Mem} (h : Fix M) : mR M 29 73 = some 91 := h.2.2.2.1 (29, 73, 91) (List.mem_append_right _ (List.mem_of_getElem? (i := 61) rfl))
theorem rf29_74 {M : Mem} (h : Fix M) : mR M 29 74 = some 92 := h.2.2.2.1 (29, 74, 92) (List.mem_append_right _ (List.mem_of_getElem? (i := 62) rfl))
theorem rf29_75 {M : Mem} (h : Fix M) : mR M 29 75 = some 93 := h.2.2.2.1 (29, 75, 93) (List.mem_append_right _ (List.mem_of_getElem? (i := 63) rfl))
theorem rf29_76 {M : Mem} (h : Fix M) : mR M 29 76 = some 94 := h.2.2.2.1 (29, 76, 94) (List.mem_append_right _ (List.mem_of_getElem? (i := 64) rfl))
theorem rf29_77 {M : Mem} (h : Fix M) : mR M 29 77 = some 95 := h.2.2.2.1 (29, 77, 95) (List.mem_append_right _ (List.mem_of_getElem? (i := 65) rfl))
theorem rf29_78 {M : Mem} (h : Fix M) : mR M 29 78 = some 96 := h.2.2.2.1 (29, 78, 96) (List.mem_append_right _ (List.mem_of_getElem? (i := 66) rfl))
theorem rf29_79 {M : Mem} (h : Fix M) : mR M 29 79 = some 97 := h.2.2.2.1 (29, 79, 97) (List.mem_append_right _ (List.mem_of_getElem? (i := 67) rfl))
theorem rf29_80 {M : Mem} (h : Fix M) : mR M 29 80 = some 98 := h.2.2.2.1 (29, 80, 98) (List.mem_append_right _ (List.mem_of_getElem? (i := 68) rfl))
theorem rf29_81 {M : Mem} (h : Fix M) : mR M 29 81 = some 99 := h.2.2.2.1 (29, 81, 99) (List.mem_append_right _ (List.mem_of_getElem? (i := 69) rfl))
theorem rf29_82 {M : Mem} (h : Fix M) : mR M 29 82 = some 100 := h.2.2.2.1 (29, 82, 100) (List.mem_append_right _ (List.mem_of_getElem? (i := 70) rfl))
theorem rf29_90 {M : Mem} (h : Fix M) : mR M 29 90 = some 101 := h.2.2.2.1 (29, 90, 101) (List.mem_append_right _ (List.mem_of_getElem? (i := 71) rfl))
theorem rf29_92 {M : Mem} (h : Fix M) : mR M 29 92 = some 102 := h.2.2.2.1 (29, 92, 102) (List.mem_append_right _ (List.mem_of_getElem? (i := 72) rfl))
theorem rf29_93 {M : Mem} (h : Fix M) : mR M 29 93 = some 103 := h.2.2.2.1 (29, 93, 103) (List.mem_append_right _ (List.mem_of_getElem? (i := 73) rfl))
theorem rf29_94 {M : Mem} (h : Fix M) : mR M 29 94 = some 104 := h.2.2.2.1 (29, 94, 104) (List.mem_append_right _ (List.mem_of_getElem? (i := 74) rfl))
theorem rf29_95 {M : Mem} (h : Fix M) : mR M 29 95 = some 105 := h.2.2.2.1 (29, 95, 105) (List.mem_append_right _ (List.mem_of_getElem? (i := 75) rfl))
theorem rf29_96 {M : Mem} (h : Fix M) : mR M 29 96 = some 106 := h.2.2.2.1 (29, 96, 106) (List.mem_append_right _ (List.mem_of_getElem? (i := 76) rfl))
theorem rf29_97 {M : Mem} (h : Fix M) : mR M 29 97 = some 107 := h.2.2.2.1 (29, 97, 107) (List.mem_append_right _ (List.mem_of_getElem? (i := 77) rfl))
theorem rf29_98 {M : Mem} (h : Fix M) : mR M 29 98 = some 108 := h.2.2.2.1 (29, 98, 108) (List.mem_append_right _ (List.mem_of_getElem? (i := 78) rfl))
theorem rf29_99 {M : Mem} (h : Fix M) : mR M 29 99 = some 109 := h.2.2.2.1 (29, 99, 109) (List.mem_append_right _ (List.mem_of_getElem? (i := 79) rfl))
theorem rf29_100 {M : Mem} (h : Fix M) : mR M 29 100 = some 110 := h.2.2.2.1 (29, 100, 110) (List.mem_append_right _ (List.mem_of_getElem? (i := 80) rfl))
theorem rf29_101 {M : Mem} (h : Fix M) : mR M 29 101 = some 111 := h.2.2.2.1 (29, 101, 111) (List.mem_append_right _ (List.mem_of_getElem? (i := 81) rfl))
theorem rf29_102 {M : Mem} (h : Fix M) : mR M 29 102 = some 112 := h.2.2.2.1 (29, 102, 112) (List.mem_append_right _ (List.mem_of_getElem? (i := 82) rfl))
theorem rf29_103 {M : Mem} (h : Fix M) : mR M 29 103 = some 113 := h.2.2.2.1 (29, 103, 113) (List.mem_append_right _ (List.mem_of_getElem? (i := 83) rfl))
theorem rf29_104 {M : Mem} (h : Fix M) : mR M 29 104 = some 114 := h.2.2.2.1 (29, 104, 114) (List.mem_append_right _ (List.mem_of_getElem? (i := 84) rfl))
theorem rf29_105 {M : Mem} (h : Fix M) : mR M 29 105 = some 115 := h.2.2.2.1 (29, 105, 115) (List.mem_append_right _ (List.mem_of_getElem? (i := 85) rfl))
theorem rf29_106 {M : Mem} (h : Fix M) : mR M 29 106 = some 116 := h.2.2.2.1 (29, 106, 116) (List.mem_append_right _ (List.mem_of_getElem? (i := 86) rfl))
theorem rf29_107 {M : Mem} (h : Fix M) : mR M 29 107 = some 117 := h.2.2.2.1 (29, 107, 117) (List.mem_append_right _ (List.mem_of_getElem? (i := 87) rfl))
theorem rf29_108 {M : Mem} (h : Fix M) : mR M 29 108 = some 118 := h.2.2.2.1 (29, 108, 118) (List.mem_append_right _ (List.mem_of_getElem? (i := 88) rfl))
theorem rf29_109 {M : Mem} (h : Fix M) : mR M 29 109 = some 119 := h.2.2.2.1 (29, 109, 119) (List.mem_append_right _ (List.mem_of_getElem? (i := 89) rfl))
theorem rf29_110 {M : Mem} (h : Fix M) : mR M 29 110 = some 120 := h.2.2.2.1 (29, 110, 120) (List.mem_append_right _ (List.mem_of_getElem? (i := 90) rfl))
theorem rf29_112 {M : Mem} (h : Fix M) : mR M 29 112 = some 121 := h.2.2.2.1 (29, 112, 121) (List.mem_append_right _ (List.mem_of_getElem? (i := 91) rfl))
theorem rf29_114 {M : Mem} (h : Fix M) : mR M 29 114 = some 122 := h.2.2.2.1 (29, 114, 122) (List.mem_append_right _ (List.mem_of_getElem? (i := 92) rfl))
theorem rf29_115 {M : Mem} (h : Fix M) : mR M 29 115 = some 123 := h.2.2.2.1 (29, 115, 123) (List.mem_append_right _ (List.mem_of_getElem? (i := 93) rfl))
theorem rf29_116 {M : Mem} (h : Fix M) : mR M 29 116 = some 124 := h.2.2.2.1 (29, 116, 124) (List.mem_append_right _ (List.mem_of_getElem? (i := 94) rfl))
theorem rf29_117 {M : Mem} (h : Fix M) : mR M 29 117 = some 125 := h.2.2.2.1 (29, 117, 125) (List.mem_append_right _ (List.mem_of_getElem? (i := 95) rfl))
theorem rf29_118 {M : Mem} (h : Fix M) : mR M 29 118 = some 126 := h.2.2.2.1 (29, 118, 126) (List.mem_append_right _ (List.mem_of_getElem? (i := 96) rfl))
theorem rf29_119 {M : Mem} (h : Fix M) : mR M 29 119 = some 127 := h.2.2.2.1 (29, 119, 127) (List.mem_append_right _ (List.mem_of_getElem? (i := 97) rfl))
theorem rf29_120 {M : Mem} (h : Fix M) : mR M 29 120 = some 128 := h.2.2.2.1 (29, 120, 128) (List.mem_append_right _ (List.mem_of_getElem? (i := 98) rfl))
theorem rf29_121 {M : Mem} (h : Fix M) : mR M 29 121 = some 129 := h.2.2.2.1 (29, 121, 129) (List.mem_append_right _ (List.mem_of_getElem? (i := 99) rfl))
theorem rf29_122 {M : Mem} (h : Fix M) : mR M 29 122 = some 130 := h.2.2.2.1 (29, 122, 130) (List.mem_append_right _ (List.mem_of_getElem? (i := 100) rfl))
theorem rf29_125 {M : Mem} (h : Fix M) : mR M 29 125 = some 131 := h.2.2.2.1 (29, 125, 131) (List.mem_append_right _ (List.mem_of_getElem? (i := 101) rfl))
/-! the start: both constructors from nothing -/
theorem lModel_len : lModel.length = 102 := rfl
theorem tS_eq : tS = (List.range 102).map (fun j => (29, (lModel.getD j (0, 0, 0)).1, 30 + j)) := by decide +kernel
theorem tB_eq : tB = (List.range 102).map (fun j => (30 + j, (lModel.getD j (0, 0, 0)).2.1, (lModel.getD j (0, 0, 0)).2.2)) := by decide +kernel
end
section
/-! the start: both constructors from nothing; what is read behind one's own write -/
def mH0 : Mem := nwO mG0 13 126
set_option maxRecDepth 8000 in
theorem start_O : ∀ e ∈ tO, e.1 < mN mH0 ∧ mK mH0 e.1 = e.2 := by decide +kernel
set_option maxRecDepth 8000 in
theorem start_A : ∀ e ∈ tA, (e.1 < mN mH0 ∧ mK mH0 e.1 = e.2.1) ∧ mL mH0 e.1 = e.2.2 := by decide +kernel
set_option maxRecDepth 8000 in
theorem start_R : ∀ e ∈ tR, e.1 < 29 ∧ mR mH0 e.1 e.2.1 = some e.2.2 := by decide +kernel
def Start (M : Mem) : Prop := Fix M ∧ mN M = 132 ∧ mS M ≤ 150000 ∧ (∀ a, a < 29 → sameRow mH0 M a) ∧ mI M 29 = (fun j => if j = 124 then (-1 : Int32) else if j = 123 then (-1 : Int32) else 0) ∧ mJ M 29 = (fun _ => 0) ∧ (∀ a, 30 ≤ a → a < 132 → mAI M a = (fun _ => 0) ∧ mAJ M a = (fun _ => 0))
theorem tB_at {e : Nat × Nat × Nat} (h : e ∈ tB) : ∃ (j : Nat) (q : Nat × Nat × Nat), lModel[j]? = some q ∧ e = (30 + j, q.2) := by
  rw [tB_eq] at h
  obtain ⟨j, hj, rfl⟩ := List.mem_map.mp h
  have hj : j < lModel.length := List.mem_range.mp hj
  exact ⟨j, lModel[j], List.getElem?_eq_getElem hj, by rw [List.getD_eq_getElem?_getD, List.getElem?_eq_getElem hj]; rfl⟩
theorem tS_at {e : Nat × Nat × Nat} (h : e ∈ tS) : ∃ (j : Nat) (q : Nat × Nat × Nat), lModel[j]? = some q ∧ e = (29, q.1, 30 + j) := by
  rw [tS_eq] at h
  obtain ⟨j, hj, rfl⟩ := List.mem_map.mp h
  have hj : j < lModel.length := List.mem_range.mp hj
  exact ⟨j, lModel[j], List.getElem?_eq_getElem hj, by rw [List.getD_eq_getElem?_getD, List.getElem?_eq_getElem hj]; rfl⟩
theorem n_H0 : mN mH0 = 30 := rfl
theorem s_H0 : mS mH0 ≤ 50000 := by decide +kernel
theorem n_G0 : mN mG0 = 29 := rfl
set_option maxRecDepth 20000 in
theorem k_H0 : mAJ mH0 19 = keysF := rfl
theorem o_H0 : ok mH0 29 13 := ⟨by decide, rfl⟩
theorem start_of {M : Mem} (h1 : rws M 29 30 lModel) (h2 : mN M = 132) (h3 : mS M = mS mH0 + 96943) (h4 : fr (fun c => c = 29) mH0 M) (h5 : mI M 29 = (fun j => if j = 124 then (-1 : Int32) else ((fun j => if j = 123 then (-1 : Int32) else (mI mH0 29) j)) j)) (h6 : mJ M 29 = mJ mH0 29) : Start M := by
  have hs : ∀ a, a < 29 → sameRow mH0 M a := fun a ha => h4.2 a (by rw [n_H0]; omega) (by intro z; have z : a = 29 := z; omega)
  refine ⟨⟨by omega, fun e he => ok_E (start_O e he) h4.1, fun e he => ?_, fun e he => ?_, (hs 19 (by decide)).2.2.2.2.1.trans k_H0⟩, h2, by have := s_H0; omega, hs, h5, h6, fun a h30 h132 => ?_⟩
  · rcases List.mem_append.mp he with he | he
    · have h := start_A e he
      exact ⟨ok_E h.1 h4.1, ((h4.1.2.2 e.1 h.1.1).2).trans h.2⟩
    · obtain ⟨j, q, hq, rfl⟩ := tB_at he
      obtain ⟨-, a2, a3, -⟩ := h1 j q hq
      exact ⟨a2, a3⟩
  · rcases List.mem_append.mp he with he | he
    · have h := start_R e he
      rw [(hs e.1 h.1).2.2.1]
      exact h.2
    · obtain ⟨j, q, hq, rfl⟩ := tS_at he
      exact (h1 j q hq).1
  · obtain ⟨j, rfl⟩ : ∃ j, a = 30 + j := ⟨a - 30, by omega⟩
    have hj : j < lModel.length := by rw [lModel_len]; omega
    obtain ⟨-, -, -, a4, a5, -⟩ := h1 j lModel[j] (List.getElem?_eq_getElem hj)
    exact ⟨a4, a5⟩
theorem up2_up2 {α : Type} (f : Nat → Nat → α) (a k : Nat) (v w : α) : up2 (up2 f a k v) a k w = up2 f a k w := by
  funext b j; unfold up2; split <;> rfl
theorem up2_self {α : Type} (f : Nat → Nat → α) (a k : Nat) : up2 f a k (f a k) = f := by
  funext b j; unfold up2; split
  · rename_i h; rw [h.1, h.2]
  · rfl
theorem wI_wI (M : Mem) (a k : Nat) (v w : Int32) : wI (wI M a k v) a k w = wI M a k w := by
  unfold wI; simp only [mI, up2_up2]; rfl
theorem wI_self (M : Mem) (a k : Nat) : wI M a k (mI M a k) = M := by
  unfold wI; rw [up2_self]; rfl
theorem wI_same {M : Mem} {a k : Nat} {v : Int32} (h : mI M a k = v) : wI M a k v = M := by rw [← h, wI_self]
theorem mI_own (M : Mem) (a k : Nat) (v : Int32) : mI (wI M a k v) a k = v := up2_eq
end
section
/-! Tokens: the small methods, exactly -/
theorem S_isL {h : Nat} {c : Int32} {M : Mem} {Q : Option Value → Mem → Prop} (H : Q (some (.int (if c < 97 then 0 else if 122 < c then 0 else 1))) M) : E (h + 1) mdX7_isLetter [.int c] M Q := by
  refine KX7_isLetter ?_
  unfold DX7_isLetter_0 DX7_isLetter_16 DX7_isLetter_17
  refine ⟨fun h1 => ⟨Or.inl rfl, ?_⟩, fun h1 => ⟨fun h2 => ⟨Or.inl rfl, ?_⟩, fun h2 => ⟨Or.inr rfl, ?_⟩⟩⟩
  · rwa [if_pos h1] at H
  · rwa [if_neg h1, if_pos h2] at H
  · rwa [if_neg h1, if_neg h2] at H
theorem S_isF {h : Nat} {c : Int32} {M : Mem} {Q : Option Value → Mem → Prop} (H : Q (some (.int (if c < 48 then 0 else if 57 < c then 0 else 1))) M) : E (h + 1) mdX7_isFigure [.int c] M Q := by
  refine KX7_isFigure ?_
  unfold DX7_isFigure_0 DX7_isFigure_16 DX7_isFigure_17
  refine ⟨fun h1 => ⟨Or.inl rfl, ?_⟩, fun h1 => ⟨fun h2 => ⟨Or.inl rfl, ?_⟩, fun h2 => ⟨Or.inr rfl, ?_⟩⟩⟩
  · rwa [if_pos h1] at H
  · rwa [if_neg h1, if_pos h2] at H
  · rwa [if_neg h1, if_neg h2] at H
/-- the text: n bytes, b i the i-th, 0 behind the last -/
def TX (M : Mem) (n : Nat) (b : Nat → Int32) : Prop := n ≤ 800 ∧ mI M 15 2 = Int32.ofNat n ∧ (∀ i, i < n → (mAI M 1 i) &&& 255 = b i) ∧ (∀ i, n ≤ i → b i = 0)
theorem S_byteAt {h n i : Nat} {b : Nat → Int32} {M : Mem} {Q : Option Value → Mem → Prop} (F : Fix M) (hT : TX M n b) (hi : i ≤ 2000) (H : Q (some (.int (b i))) M) : E (h + 1) mdX7_byteAt [.ref 15, .int (Int32.ofNat i)] M Q := by
  obtain ⟨t1, t2, t3, t4⟩ := hT
  refine KX7_byteAt ?_
  unfold DX7_byteAt_0 DX7_byteAt_22
  refine ⟨ok15 F, fun h1 => ?_, fun h1 => ⟨1, rf15_0 F, ok1 F, ?_, ?_⟩⟩
  · rw [t2] at h1
    rw [← t4 i (by ((try simp only [Int32.toNatClampNeg, Int32.lt_iff_toInt_lt, Int32.le_iff_toInt_le, ← Int32.toInt_inj, j_add, j_sub, j_neg, j_mul, j_nat, Int32.reduceToInt, vp_in] at *); omega))]; exact H
  · rw [ln1 F, t2] at *; ((try simp only [Int32.toNatClampNeg, Int32.lt_iff_toInt_lt, Int32.le_iff_toInt_le, ← Int32.toInt_inj, j_add, j_sub, j_neg, j_mul, j_nat, Int32.reduceToInt, vp_in] at *); omega)
  · rw [t2] at h1
    have hin : i < n := by ((try simp only [Int32.toNatClampNeg, Int32.lt_iff_toInt_lt, Int32.le_iff_toInt_le, ← Int32.toInt_inj, j_add, j_sub, j_neg, j_mul, j_nat, Int32.reduceToInt, vp_in] at *); omega)
    have e1 : (Int32.ofNat i).toNatClampNeg = i := by ((try simp only [Int32.toNatClampNeg, Int32.lt_iff_toInt_lt, Int32.le_iff_toInt_le, ← Int32.toInt_inj, j_add, j_sub, j_neg, j_mul, j_nat, Int32.reduceToInt, vp_in] at *); omega)
    rw [e1, t3 i hin]; exact H
def advF (M : Mem) : Mem :=
  if mI M 15 12 = 0 then
    if mI M 15 7 < 801 then
      let j := (mI M 15 7).toNatClampNeg
      let M1 := wI (wJ (wI (wI M 15 9 (mAI M 16 j)) 15 10 (mAI M 17 j)) 15 11 (mAJ M 18 j)) 15 7 (mI M 15 7 + 1)
      if mAI M 16 j = 0 then wI (wI M1 15 12 1) 15 13 (mAI M 17 j) else M1
    else M
  else M
theorem S_adv {h : Nat} {M : Mem} {Q : Option Value → Mem → Prop} (F : Fix M) (h0 : ¬ mI M 15 7 < 0) (H : Q none (advF M)) : E (h + 1) mdX7_advance [.ref 15] M Q := by
  refine KX7_advance ?_
  unfold DX7_advance_0 DX7_advance_19 DX7_advance_89
  unfold advF at H
  refine ⟨ok15 F, fun h1 => ?_, fun h1 => ⟨16, rf15_4 F, ok16 F, fun h2 => ?_, fun h2 => ?_⟩⟩
  · rwa [if_neg h1] at H
  · rw [ln16 F] at h2
    have h2 : mI M 15 7 < 801 := h2
    rw [if_pos h1, if_pos h2] at H
    have hv : vp_in (mI M 15 7) 801 := by ((try simp only [Int32.toNatClampNeg, Int32.lt_iff_toInt_lt, Int32.le_iff_toInt_le, ← Int32.toInt_inj, j_add, j_sub, j_neg, j_mul, j_nat, Int32.reduceToInt, vp_in] at *); omega)
    refine ⟨16, rf15_4 F, ok16 F, (ln16 F).symm ▸ hv, fun M6 e6 => ?_⟩
    subst e6
    refine ⟨17, rf15_5 F, ok17 F, (ln17 F).symm ▸ hv, fun M9 e9 => ?_⟩
    subst e9
    refine ⟨18, rf15_6 F, ok18 F, (ln18 F).symm ▸ hv, fun M12 e12 M13 e13 => ?_⟩
    subst e12 e13
    refine ⟨fun h3 => ?_, fun h3 M14 e14 M15 e15 => ?_⟩
    · have h3 : ¬ mAI M 16 (mI M 15 7).toNatClampNeg = 0 := h3
      rw [if_neg h3] at H
      exact H
    · have h3 : mAI M 16 (mI M 15 7).toNatClampNeg = 0 := h3
      rw [if_pos h3] at H
      subst e14 e15
      exact H
  · rw [ln16 F] at h2
    have h2 : ¬ mI M 15 7 < 801 := h2
    rwa [if_pos h1, if_neg h2] at H
def failF (M : Mem) (c : Int32) : Mem := wI (if mI M 15 12 = 0 then wI (wI M 15 12 c) 15 13 (mI M 15 10) else M) 15 9 0
theorem S_fail {h : Nat} {c : Int32} {M : Mem} {Q : Option Value → Mem → Prop} (F : Fix M) (H : Q none (failF M c)) : E (h + 1) mdX7_fail [.ref 15, .int c] M Q := by
  refine KX7_fail ?_
  unfold DX7_fail_0 DX7_fail_20
  unfold failF at H
  refine ⟨ok15 F, fun h1 => ⟨ok15 F, fun M2 e2 => ?_⟩, fun h1 M2 e2 M3 e3 => ⟨by subst e2 e3; exact ok15 F, fun M4 e4 => ?_⟩⟩
  · rw [if_neg h1] at H; subst e2; exact H
  · rw [if_pos h1] at H; subst e2 e3 e4; exact H
theorem S_expect {h : Nat} {c : Int32} {M : Mem} {Q : Option Value → Mem → Prop} (F : Fix M) (h0 : ¬ mI M 15 7 < 0) (H : Q none (if mI M 15 9 = c then advF M else failF M 2)) : E (h + 2) mdX7_expect [.ref 15, .int c] M Q := by
  refine KX7_expect ?_
  unfold DX7_expect_0 DX7_expect_20
  refine ⟨ok15 F, fun h1 => ?_, fun h1 => ?_⟩
  · rw [if_neg h1] at H; exact S_fail F (fun _ => ⟨rfl, H⟩)
  · rw [if_pos h1] at H; exact S_adv F h0 (fun _ => ⟨rfl, H⟩)
theorem S_accept {h : Nat} {c : Int32} {M : Mem} {Q : Option Value → Mem → Prop} (F : Fix M) (h0 : ¬ mI M 15 7 < 0) (H1 : mI M 15 9 = c → Q (some (.int 1)) (advF M)) (H0 : mI M 15 9 ≠ c → Q (some (.int 0)) M) : E (h + 2) mdX7_accept [.ref 15, .int c] M Q := by
  refine KX7_accept ?_
  unfold DX7_accept_0
  refine ⟨ok15 F, fun h1 => ?_, fun h1 => ⟨Or.inl rfl, H0 h1⟩⟩
  exact S_adv F h0 (fun _ => ⟨rfl, Or.inr rfl, H1 h1⟩)
theorem S_failAt {h : Nat} {c w : Int32} {M : Mem} {Q : Option Value → Mem → Prop} (F : Fix M) (H : Q none (failF (wI M 15 10 w) c)) : E (h + 2) mdX7_failAt [.ref 15, .int c, .int w] M Q := by
  refine KX7_failAt ?_
  unfold DX7_failAt_0
  refine ⟨ok15 F, fun M2 e2 => ?_⟩
  subst e2
  exact S_fail F.i (fun _ => ⟨rfl, H⟩)
theorem S_opens {h : Nat} {M : Mem} {Q : Option Value → Mem → Prop} (F : Fix M) (H : Q none (if mI M 15 8 < 15 then wI M 15 8 (mI M 15 8 + 1) else failF M 6)) : E (h + 2) mdX7_opens [.ref 15] M Q := by
  refine KX7_opens ?_
  unfold DX7_opens_0 DX7_opens_28
  refine ⟨ok15 F, fun h1 M2 e2 => ?_, fun h1 => ?_⟩
  · rw [if_pos h1] at H; subst e2; exact H
  · rw [if_neg h1] at H; exact S_fail F (fun _ => ⟨rfl, H⟩)
theorem S_closes {h : Nat} {M : Mem} {Q : Option Value → Mem → Prop} (F : Fix M) (H : Q none (wI M 15 8 (mI M 15 8 - 1))) : E (h + 1) mdX7_closes [.ref 15] M Q := by
  refine KX7_closes ?_
  unfold DX7_closes_0
  exact ⟨ok15 F, fun M2 e2 => by subst e2; exact H⟩
end
section
/-! cutting: the pure side -/
def isL (c : Int32) : Bool := decide (¬ c < 97) && decide (¬ 122 < c)
def isF (c : Int32) : Bool := decide (¬ c < 48) && decide (¬ 57 < c)
def isB (c : Int32) : Bool := decide (c = 32) || decide (c = 10)
def runF (p : Int32 → Bool) (b : Nat → Int32) : Nat → Nat → Nat
  | 0, a => a
  | k + 1, a => if p (b a) = true then runF p b k (a + 1) else a
def spellF (b : Nat → Int32) : Nat → Nat → Int64 → Int64
  | 0, _, x => x
  | k + 1, a, x => if isL (b a) = true then spellF b k (a + 1) (spl x (b a)) else x
def numF (b : Nat → Int32) : Nat → Nat → Int64 → Int64
  | 0, _, x => x
  | k + 1, a, x => if isF (b a) = true then numF b k (a + 1) (((x * 10) + ((b a).toInt64)) - 48) else x
theorem runF_le {p : Int32 → Bool} {b : Nat → Int32} : ∀ (k a : Nat), a ≤ runF p b k a ∧ runF p b k a ≤ a + k := by
  intro k
  induction k with
  | zero => intro a; exact ⟨Nat.le_refl _, Nat.le_refl _⟩
  | succ k ih =>
    intro a
    unfold runF
    split
    · have := ih (a + 1); omega
    · omega
theorem isL_ite {c : Int32} : (if c < 97 then (0 : Int32) else if 122 < c then 0 else 1) = if isL c = true then 1 else 0 := by
  unfold isL
  by_cases h1 : c < 97
  · simp [h1]
  · by_cases h2 : 122 < c
    · simp [h1, h2]
    · simp [h1, h2]
theorem isF_ite {c : Int32} : (if c < 48 then (0 : Int32) else if 57 < c then 0 else 1) = if isF c = true then 1 else 0 := by
  unfold isF
  by_cases h1 : c < 48
  · simp [h1]
  · by_cases h2 : 57 < c
    · simp [h1, h2]
    · simp [h1, h2]
theorem S_isL2 {h : Nat} {c : Int32} {M : Mem} {Q : Option Value → Mem → Prop} (H : Q (some (.int (if isL c = true then 1 else 0))) M) : E (h + 1) mdX7_isLetter [.int c] M Q := S_isL (by rw [isL_ite]; exact H)
theorem S_isF2 {h : Nat} {c : Int32} {M : Mem} {Q : Option Value → Mem → Prop} (H : Q (some (.int (if isF c = true then 1 else 0))) M) : E (h + 1) mdX7_isFigure [.int c] M Q := S_isF (by rw [isF_ite]; exact H)
theorem S_spelled2 {h : Nat} {c : Int64} {l : Int32} {M : Mem} {Q : Option Value → Mem → Prop} (H : Q (some (.long (spl c l))) M) : E (h + 1) mdX7_spelled [.long c, .int l] M Q := S_spelled H
theorem TX.wI3 {M : Mem} {n : Nat} {b : Nat → Int32} {v : Int32} (h : TX M n b) : TX (wI M 15 3 v) n b := h
theorem word_loop {h n i : Nat} {b : Nat → Int32} {Q : Option Value → Mem → Prop} : ∀ (k a c : Nat) (x : Int64) (M : Mem), a + k = n → Fix M → TX M n b → mI M 15 3 = Int32.ofNat a →
    DX7_cutWord_59 (h + 1) 15 (Int32.ofNat i) (spellF b k a x) (Int32.ofNat (c + (runF isL b k a - a))) (wI M 15 3 (Int32.ofNat (runF isL b k a))) Q →
    T (h + 2) mdX7_cutWord 5 [(0, .ref 15), (1, .int (Int32.ofNat i)), (2, .long x), (4, .int (Int32.ofNat c))] [] M Q := by
  intro k
  induction k with
  | zero =>
    intro a c x M hk F hT ha H
    refine VX7_cutWord_5 ?_
    unfold DX7_cutWord_5
    have hn : a = n := hk
    rw [ha, hT.2.1]
    refine ⟨ok15 F, fun _ => ?_, fun hc => absurd (by subst hn; ((try simp only [Int32.toNatClampNeg, Int32.lt_iff_toInt_lt, Int32.le_iff_toInt_le, ← Int32.toInt_inj, j_add, j_sub, j_neg, j_mul, j_nat, Int32.reduceToInt, vp_in]); omega)) hc⟩
    unfold spellF runF at H
    rw [wI_same ha, Nat.sub_self] at H
    exact H
  | succ k ih =>
    intro a c x M hk F hT ha H
    refine VX7_cutWord_5 ?_
    unfold DX7_cutWord_5
    have hn := hT.1
    rw [ha, hT.2.1]
    refine ⟨ok15 F, fun hc => absurd hc (by ((try simp only [Int32.toNatClampNeg, Int32.lt_iff_toInt_lt, Int32.le_iff_toInt_le, ← Int32.toInt_inj, j_add, j_sub, j_neg, j_mul, j_nat, Int32.reduceToInt, vp_in]); omega)), fun _ => ?_⟩
    refine S_byteAt F hT (by omega) (fun _ => ⟨_, rfl, S_isL2 (fun _ => ⟨_, rfl, fun h0 => ?_, fun h0 => ?_⟩)⟩)
    · have h0 : ¬ isL (b a) = true := by intro z; rw [if_pos z] at h0; exact absurd h0 (by decide)
      unfold spellF runF at H
      rw [if_neg h0, if_neg h0, wI_same ha, Nat.sub_self] at H
      exact H
    · have h0 : isL (b a) = true := by
        cases e : isL (b a) with
        | true => rfl
        | false => rw [e] at h0; exact absurd rfl h0
      rw [ha]
      refine S_byteAt F hT (by omega) (fun _ => ⟨_, rfl, S_spelled2 (fun _ => ⟨_, rfl, fun M10 e10 => ?_⟩)⟩)
      rw [ha, succ32] at e10
      subst e10
      rw [succ32]
      refine ih (a + 1) (c + 1) _ _ (by omega) F.i hT.wI3 (mI_own _ _ _ _) ?_
      unfold spellF runF at H
      rw [if_pos h0, if_pos h0] at H
      rw [wI_wI]
      have e1 : c + 1 + (runF isL b k (a + 1) - (a + 1)) = c + (runF isL b k (a + 1) - a) := by
        have := (runF_le (p := isL) (b := b) k (a + 1)).1
        omega
      rw [e1]
      exact H
theorem num_loop {h n i : Nat} {b : Nat → Int32} {Q : Option Value → Mem → Prop} : ∀ (k a c : Nat) (x : Int64) (M : Mem), a + k = n → Fix M → TX M n b → mI M 15 3 = Int32.ofNat a →
    DX7_cutNumber_66 (h + 1) 15 (Int32.ofNat i) (numF b k a x) (Int32.ofNat (c + (runF isF b k a - a))) (wI M 15 3 (Int32.ofNat (runF isF b k a))) Q →
    T (h + 2) mdX7_cutNumber 5 [(0, .ref 15), (1, .int (Int32.ofNat i)), (2, .long x), (4, .int (Int32.ofNat c))] [] M Q := by
  intro k
  induction k with
  | zero =>
    intro a c x M hk F hT ha H
    refine VX7_cutNumber_5 ?_
    unfold DX7_cutNumber_5
    have hn : a = n := hk
    rw [ha, hT.2.1]
    refine ⟨ok15 F, fun _ => ?_, fun hc => absurd (by subst hn; ((try simp only [Int32.toNatClampNeg, Int32.lt_iff_toInt_lt, Int32.le_iff_toInt_le, ← Int32.toInt_inj, j_add, j_sub, j_neg, j_mul, j_nat, Int32.reduceToInt, vp_in]); omega)) hc⟩
    unfold numF runF at H
    rw [wI_same ha, Nat.sub_self] at H
    exact H
  | succ k ih =>
    intro a c x M hk F hT ha H
    refine VX7_cutNumber_5 ?_
    unfold DX7_cutNumber_5
    have hn := hT.1
    rw [ha, hT.2.1]
    refine ⟨ok15 F, fun hc => absurd hc (by ((try simp only [Int32.toNatClampNeg, Int32.lt_iff_toInt_lt, Int32.le_iff_toInt_le, ← Int32.toInt_inj, j_add, j_sub, j_neg, j_mul, j_nat, Int32.reduceToInt, vp_in]); omega)), fun _ => ?_⟩
    refine S_byteAt F hT (by omega) (fun _ => ⟨_, rfl, S_isF2 (fun _ => ⟨_, rfl, fun h0 => ?_, fun h0 => ?_⟩)⟩)
    · have h0 : ¬ isF (b a) = true := by intro z; rw [if_pos z] at h0; exact absurd h0 (by decide)
      unfold numF runF at H
      rw [if_neg h0, if_neg h0, wI_same ha, Nat.sub_self] at H
      exact H
    · have h0 : isF (b a) = true := by
        cases e : isF (b a) with
        | true => rfl
        | false => rw [e] at h0; exact absurd rfl h0
      rw [ha]
      refine S_byteAt F hT (by omega) (fun _ => ⟨_, rfl, fun M10 e10 => ?_⟩)
      rw [ha, succ32] at e10
      subst e10
      rw [succ32]
      refine ih (a + 1) (c + 1) _ _ (by omega) F.i hT.wI3 (mI_own _ _ _ _) ?_
      unfold numF runF at H
      rw [if_pos h0, if_pos h0] at H
      rw [wI_wI]
      have e1 : c + 1 + (runF isF b k (a + 1) - (a + 1)) = c + (runF isF b k (a + 1) - a) := by
        have := (runF_le (p := isF) (b := b) k (a + 1)).1
        omega
      rw [e1]
      exact H
end
section
/-! calls on fresh objects: the class -/
theorem S_size {h a : Nat} {M : Mem} {Q : Option Value → Mem → Prop} (ha : ok M a 1) (H : Q (some (.int (mI M a 2))) M) : E (h + 1) mdJx4a65c_size_8abf5 [.ref a] M Q := (C_alSize ha).imp (fun r M' _ hp => by rw [hp.1, hp.2]; exact H)
theorem S_modAt0 {h : Nat} {m : Int32} {M : Mem} {Q : Option Value → Mem → Prop} (F : Fix M) (hs : mI M 2 2 = 0) (H : Q (some (va_rf none)) M) : E (h + 2) mdX10_moduleAt [.ref 0, .int m] M Q := by
  refine KX10_moduleAt ?_
  unfold DX10_moduleAt_0 DX10_moduleAt_15 DX10_moduleAt_30
  refine ⟨fun _ => H, fun h1 => ⟨ok0 F, 2, rf0_2 F, ok2 F, S_size (ok2 F) (fun _ => ⟨_, rfl, fun h2 => ?_, fun _ => H⟩)⟩⟩
  rw [hs] at h2
  exact absurd h2 h1
theorem S_govAt0 {h : Nat} {m : Int32} {M : Mem} {Q : Option Value → Mem → Prop} (F : Fix M) (hs : mI M 3 2 = 0) (H : Q (some (va_rf none)) M) : E (h + 2) mdX10_governorAt [.ref 0, .int m] M Q := by
  refine KX10_governorAt ?_
  unfold DX10_governorAt_0 DX10_governorAt_15 DX10_governorAt_30
  refine ⟨fun _ => H, fun h1 => ⟨ok0 F, 3, rf0_3 F, ok3 F, S_size (ok3 F) (fun _ => ⟨_, rfl, fun h2 => ?_, fun _ => H⟩)⟩⟩
  rw [hs] at h2
  exact absurd h2 h1
theorem S_srchOf0 {h : Nat} {m : Int32} {M : Mem} {Q : Option Value → Mem → Prop} (F : Fix M) (hs : mI M 2 2 = 0) (H : Q (some (va_rf none)) M) : E (h + 3) mdX10_searchOf [.ref 0, .int m] M Q := by
  refine KX10_searchOf ?_
  unfold DX10_searchOf_0
  exact ⟨ok0 F, S_modAt0 F hs (fun _ => ⟨none, rfl, fun _ => H, fun b hb => by cases hb⟩)⟩
theorem c0_module {h : Nat} {m w : Int32} {M : Mem} {Q : Option Value → Mem → Prop} (F : Fix M) (hs : mI M 2 2 = 0) (H : Q (some (.int (-1))) M) : E (h + 4) mdX10_module [.ref 0, .int m, .int w] M Q := by
  refine KX10_module ?_
  unfold DX10_module_0
  exact ⟨ok0 F, S_modAt0 F hs (fun _ => ⟨none, rfl, fun _ => H, fun b hb => by cases hb⟩)⟩
theorem c0_part {h : Nat} {m i : Int32} {M : Mem} {Q : Option Value → Mem → Prop} (F : Fix M) (hs : mI M 2 2 = 0) (H : Q (some (.int (-1))) M) : E (h + 4) mdX10_part [.ref 0, .int m, .int i] M Q := by
  refine KX10_part ?_
  unfold DX10_part_0 DX10_part_18
  exact ⟨ok0 F, S_modAt0 F hs (fun _ => ⟨none, rfl, fun _ => H, fun b hb => by cases hb⟩)⟩
theorem c0_governor {h : Nat} {m : Int32} {M : Mem} {Q : Option Value → Mem → Prop} (F : Fix M) (hs : mI M 2 2 = 0) (H : Q (some (.int (-1))) M) : E (h + 4) mdX10_governor [.ref 0, .int m] M Q := by
  refine KX10_governor ?_
  unfold DX10_governor_0
  exact ⟨ok0 F, S_modAt0 F hs (fun _ => ⟨none, rfl, fun _ => H, fun b hb => by cases hb⟩)⟩
theorem c0_give {h : Nat} {g i p v : Int32} {M : Mem} {Q : Option Value → Mem → Prop} (F : Fix M) (hs : mI M 3 2 = 0) (H : Q (some (.int (-1))) M) : E (h + 4) mdX10_give [.ref 0, .int g, .int i, .int p, .int v] M Q := by
  refine KX10_give ?_
  unfold DX10_give_0 DX10_give_28 DX10_give_44
  exact ⟨ok0 F, S_govAt0 F hs (fun _ => ⟨none, rfl, fun _ => H, fun b hb => by cases hb⟩)⟩
theorem c0_beat {h : Nat} {g : Int32} {M : Mem} {Q : Option Value → Mem → Prop} (F : Fix M) (hs : mI M 3 2 = 0) (H : Q (some (.int (-1))) M) : E (h + 4) mdX10_beat [.ref 0, .int g] M Q := by
  refine KX10_beat ?_
  unfold DX10_beat_0
  exact ⟨ok0 F, S_govAt0 F hs (fun _ => ⟨none, rfl, fun _ => H, fun b hb => by cases hb⟩)⟩
theorem c0_present {h : Nat} {g s : Int32} {M : Mem} {Q : Option Value → Mem → Prop} (F : Fix M) (hs : mI M 3 2 = 0) (H : Q (some (.int (-1))) M) : E (h + 4) mdX10_present [.ref 0, .int g, .int s] M Q := by
  refine KX10_present ?_
  unfold DX10_present_0 DX10_present_21
  exact ⟨ok0 F, S_govAt0 F hs (fun _ => ⟨none, rfl, fun _ => H, fun b hb => by cases hb⟩)⟩
theorem c0_value {h : Nat} {g s : Int32} {M : Mem} {Q : Option Value → Mem → Prop} (F : Fix M) (hs : mI M 3 2 = 0) (H : Q (some (.int (0))) M) : E (h + 4) mdX10_value [.ref 0, .int g, .int s] M Q := by
  refine KX10_value ?_
  unfold DX10_value_0 DX10_value_21
  exact ⟨ok0 F, S_govAt0 F hs (fun _ => ⟨none, rfl, fun _ => H, fun b hb => by cases hb⟩)⟩
theorem c0_variable {h : Nat} {g v : Int32} {M : Mem} {Q : Option Value → Mem → Prop} (F : Fix M) (hs : mI M 3 2 = 0) (H : Q (some (.int (0))) M) : E (h + 4) mdX10_variable [.ref 0, .int g, .int v] M Q := by
  refine KX10_variable ?_
  unfold DX10_variable_0 DX10_variable_25
  exact ⟨ok0 F, S_govAt0 F hs (fun _ => ⟨none, rfl, fun _ => H, fun b hb => by cases hb⟩)⟩
theorem c0_wire {h : Nat} {g i w : Int32} {M : Mem} {Q : Option Value → Mem → Prop} (F : Fix M) (hs : mI M 3 2 = 0) (H : Q (some (.int (-1))) M) : E (h + 4) mdX10_wire [.ref 0, .int g, .int i, .int w] M Q := by
  refine KX10_wire ?_
  unfold DX10_wire_0 DX10_wire_24 DX10_wire_35
  exact ⟨ok0 F, S_govAt0 F hs (fun _ => ⟨none, rfl, fun _ => H, fun b hb => by cases hb⟩)⟩
theorem c0_told {h : Nat} {g w : Int32} {M : Mem} {Q : Option Value → Mem → Prop} (F : Fix M) (hs : mI M 3 2 = 0) (H : Q (some (.int (-1))) M) : E (h + 4) mdX10_told [.ref 0, .int g, .int w] M Q := by
  refine KX10_told ?_
  unfold DX10_told_0
  exact ⟨ok0 F, S_govAt0 F hs (fun _ => ⟨none, rfl, fun _ => H, fun b hb => by cases hb⟩)⟩
theorem c0_paused {h : Nat} {g k : Int32} {M : Mem} {Q : Option Value → Mem → Prop} (F : Fix M) (hs : mI M 3 2 = 0) (H : Q (some (.int (-1))) M) : E (h + 4) mdX10_paused [.ref 0, .int g, .int k] M Q := by
  refine KX10_paused ?_
  unfold DX10_paused_0 DX10_paused_25
  exact ⟨ok0 F, S_govAt0 F hs (fun _ => ⟨none, rfl, fun _ => H, fun b hb => by cases hb⟩)⟩
theorem c0_keep {h : Nat} {g : Int32} {M : Mem} {Q : Option Value → Mem → Prop} (F : Fix M) (hs : mI M 3 2 = 0) (H : Q (some (.int (-1))) M) : E (h + 4) mdX10_keep [.ref 0, .int g] M Q := by
  refine KX10_keep ?_
  unfold DX10_keep_0
  exact ⟨ok0 F, S_govAt0 F hs (fun _ => ⟨none, rfl, fun _ => H, fun b hb => by cases hb⟩)⟩
theorem c0_back {h : Nat} {g : Int32} {M : Mem} {Q : Option Value → Mem → Prop} (F : Fix M) (hs : mI M 3 2 = 0) (H : Q (some (.int (-1))) M) : E (h + 4) mdX10_back [.ref 0, .int g] M Q := by
  refine KX10_back ?_
  unfold DX10_back_0
  exact ⟨ok0 F, S_govAt0 F hs (fun _ => ⟨none, rfl, fun _ => H, fun b hb => by cases hb⟩)⟩
theorem c0_same {h : Nat} {a b : Int32} {M : Mem} {Q : Option Value → Mem → Prop} (F : Fix M) (hs : mI M 3 2 = 0) (H : Q (some (.int (-1))) M) : E (h + 4) mdX10_same [.ref 0, .int a, .int b] M Q := by
  refine KX10_same ?_
  unfold DX10_same_0 DX10_same_22
  exact ⟨ok0 F, S_govAt0 F hs (fun _ => ⟨none, rfl, S_govAt0 F hs (fun _ => ⟨none, rfl, fun _ => H, fun b hb => by cases hb⟩)⟩)⟩
theorem c0_search {h : Nat} {m : Int32} {M : Mem} {Q : Option Value → Mem → Prop} (F : Fix M) (hs : mI M 2 2 = 0) (H : Q (some (.int (-1))) M) : E (h + 4) mdX10_search [.ref 0, .int m] M Q := by
  refine KX10_search ?_
  unfold DX10_search_0
  exact ⟨ok0 F, S_modAt0 F hs (fun _ => ⟨none, rfl, fun _ => H, fun b hb => by cases hb⟩)⟩
theorem c0_move {h : Nat} {m s v w : Int32} {M : Mem} {Q : Option Value → Mem → Prop} (F : Fix M) (hs : mI M 2 2 = 0) (H : Q (some (.int (-9))) M) : E (h + 4) mdX10_move [.ref 0, .int m, .int s, .int v, .int w] M Q := by
  refine KX10_move ?_
  unfold DX10_move_0 DX10_move_34
  exact ⟨ok0 F, S_srchOf0 F hs (fun _ => ⟨none, rfl, fun _ => H, fun b hb => by cases hb⟩)⟩
theorem c0_classOf {h : Nat} {m s : Int32} {M : Mem} {Q : Option Value → Mem → Prop} (F : Fix M) (hs : mI M 2 2 = 0) (H : Q (some (.int (-9))) M) : E (h + 4) mdX10_classOf [.ref 0, .int m, .int s] M Q := by
  refine KX10_classOf ?_
  unfold DX10_classOf_0 DX10_classOf_18
  exact ⟨ok0 F, S_srchOf0 F hs (fun _ => ⟨none, rfl, fun _ => H, fun b hb => by cases hb⟩)⟩
theorem c0_way {h : Nat} {m s i : Int32} {M : Mem} {Q : Option Value → Mem → Prop} (F : Fix M) (hs : mI M 2 2 = 0) (H : Q (some (.int (-9))) M) : E (h + 4) mdX10_way [.ref 0, .int m, .int s, .int i] M Q := by
  refine KX10_way ?_
  unfold DX10_way_0 DX10_way_21
  exact ⟨ok0 F, S_srchOf0 F hs (fun _ => ⟨none, rfl, fun _ => H, fun b hb => by cases hb⟩)⟩
theorem c0_never {h : Nat} {m s : Int32} {M : Mem} {Q : Option Value → Mem → Prop} (F : Fix M) (hs : mI M 2 2 = 0) (H : Q (some (.int (-9))) M) : E (h + 4) mdX10_never [.ref 0, .int m, .int s] M Q := by
  refine KX10_never ?_
  unfold DX10_never_0 DX10_never_21
  exact ⟨ok0 F, S_srchOf0 F hs (fun _ => ⟨none, rfl, fun _ => H, fun b hb => by cases hb⟩)⟩
theorem c0_always {h : Nat} {m a b : Int32} {M : Mem} {Q : Option Value → Mem → Prop} (F : Fix M) (hs : mI M 2 2 = 0) (H : Q (some (.int (-9))) M) : E (h + 4) mdX10_always [.ref 0, .int m, .int a, .int b] M Q := by
  refine KX10_always ?_
  unfold DX10_always_0 DX10_always_36
  exact ⟨ok0 F, S_srchOf0 F hs (fun _ => ⟨none, rfl, fun _ => H, fun b hb => by cases hb⟩)⟩
/-! the reference on a fresh object -/
theorem S_in {h : Nat} {v l u : Int64} {M : Mem} {Q : Option Value → Mem → Prop} (H : Q (some (.int (if l ≤ v ∧ v ≤ u then 1 else 0))) M) : E (h + 1) mdX11_in [.long v, .long l, .long u] M Q := by
  refine KX11_in ?_
  unfold DX11_in_0 DX11_in_17 DX11_in_18
  have k1 : (lg_cmp v l < 0) ↔ ¬ (l ≤ v) := by
    rw [← lg_cmp_ge v l]; exact ⟨fun h => Int32.not_le.mpr h, fun h => Int32.not_le.mp h⟩
  have k2 : (0 < lg_cmp v u) ↔ ¬ (v ≤ u) := by
    rw [← lg_cmp_le v u]; exact ⟨fun h => Int32.not_le.mpr h, fun h => Int32.not_le.mp h⟩
  refine ⟨fun h1 => ⟨Or.inl rfl, ?_⟩, fun h1 => ⟨fun h2 => ⟨Or.inl rfl, ?_⟩, fun h2 => ⟨Or.inr rfl, ?_⟩⟩⟩
  · rwa [if_neg (fun z => k1.mp h1 z.1)] at H
  · rwa [if_neg (fun z => k2.mp h2 z.2)] at H
  · rwa [if_pos ⟨Classical.not_not.mp (fun z => h1 (k1.mpr z)), Classical.not_not.mp (fun z => h2 (k2.mpr z))⟩] at H
theorem in0 {m n : Int32} (hn : n = 0) : (if (0 : Int64) ≤ m.toInt64 ∧ m.toInt64 ≤ (n - 1).toInt64 then (1 : Int32) else 0) = 0 := by
  subst hn
  refine if_neg (fun z => ?_)
  have h1 := Int64.le_iff_toInt_le.mp z.1
  have h2 := Int64.le_iff_toInt_le.mp z.2
  have e1 : ((0 : Int32) - 1).toInt64.toInt = -1 := by decide
  have e2 : (0 : Int64).toInt = 0 := by decide
  rw [e1] at h2
  rw [e2] at h1
  omega
theorem S_isMod0 {h : Nat} {m : Int32} {M : Mem} {Q : Option Value → Mem → Prop} (F : Fix M) (hs : mI M 29 18 = 0) (H : Q (some (.int 0)) M) : E (h + 2) mdX11_isModule [.ref 29, .int m] M Q := by
  refine KX11_isModule ?_
  unfold DX11_isModule_0
  refine ⟨ok29 F, S_in (fun _ => ⟨_, rfl, ?_⟩)⟩
  rw [in0 hs]
  exact ⟨Or.inl rfl, H⟩
theorem S_isGov0 {h : Nat} {m : Int32} {M : Mem} {Q : Option Value → Mem → Prop} (F : Fix M) (hs : mI M 29 91 = 0) (H : Q (some (.int 0)) M) : E (h + 2) mdX11_isGovernor [.ref 29, .int m] M Q := by
  refine KX11_isGovernor ?_
  unfold DX11_isGovernor_0
  refine ⟨ok29 F, S_in (fun _ => ⟨_, rfl, ?_⟩)⟩
  rw [in0 hs]
  exact ⟨Or.inl rfl, H⟩
theorem S_isSrch0 {h : Nat} {m : Int32} {M : Mem} {Q : Option Value → Mem → Prop} (F : Fix M) (hs : mI M 29 18 = 0) (H : Q (some (.int 0)) M) : E (h + 3) mdX11_isSearched [.ref 29, .int m] M Q := by
  refine KX11_isSearched ?_
  unfold DX11_isSearched_0 DX11_isSearched_30
  exact ⟨ok29 F, S_isMod0 F hs (fun _ => ⟨0, rfl, fun hz => absurd rfl hz, fun _ => ⟨Or.inl rfl, H⟩⟩)⟩
theorem r0_module {h : Nat} {m w : Int32} {M : Mem} {Q : Option Value → Mem → Prop} (F : Fix M) (hs : mI M 29 18 = 0) (H : Q (some (.int (-1))) M) : E (h + 4) mdX11_module [.ref 29, .int m, .int w] M Q := by
  refine KX11_module ?_
  unfold DX11_module_0
  exact ⟨ok29 F, S_isMod0 F hs (fun _ => ⟨0, rfl, fun hz => absurd rfl hz, fun _ => H⟩)⟩
theorem r0_part {h : Nat} {m i : Int32} {M : Mem} {Q : Option Value → Mem → Prop} (F : Fix M) (hs : mI M 29 18 = 0) (H : Q (some (.int (-1))) M) : E (h + 4) mdX11_part [.ref 29, .int m, .int i] M Q := by
  refine KX11_part ?_
  unfold DX11_part_0 DX11_part_41 DX11_part_40
  exact ⟨ok29 F, S_isMod0 F hs (fun _ => ⟨0, rfl, fun _ => H, fun hz => absurd rfl hz⟩)⟩
theorem r0_governor {h : Nat} {m : Int32} {M : Mem} {Q : Option Value → Mem → Prop} (F : Fix M) (hs : mI M 29 18 = 0) (H : Q (some (.int (-1))) M) : E (h + 4) mdX11_governor [.ref 29, .int m] M Q := by
  refine KX11_governor ?_
  unfold DX11_governor_0
  exact ⟨ok29 F, S_isMod0 F hs (fun _ => ⟨0, rfl, fun hz => absurd rfl hz, fun _ => H⟩)⟩
theorem r0_give {h : Nat} {g i p v : Int32} {M : Mem} {Q : Option Value → Mem → Prop} (F : Fix M) (hs : mI M 29 91 = 0) (H : Q (some (.int (-1))) M) : E (h + 4) mdX11_give [.ref 29, .int g, .int i, .int p, .int v] M Q := by
  refine KX11_give ?_
  unfold DX11_give_0 DX11_give_46
  exact ⟨ok29 F, S_isGov0 F hs (fun _ => ⟨0, rfl, fun _ => H, fun hz => absurd rfl hz⟩)⟩
theorem r0_beat {h : Nat} {g : Int32} {M : Mem} {Q : Option Value → Mem → Prop} (F : Fix M) (hs : mI M 29 91 = 0) (H : Q (some (.int (-1))) M) : E (h + 4) mdX11_beat [.ref 29, .int g] M Q := by
  refine KX11_beat ?_
  unfold DX11_beat_0
  exact ⟨ok29 F, S_isGov0 F hs (fun _ => ⟨0, rfl, fun hz => absurd rfl hz, fun _ => H⟩)⟩
theorem r0_present {h : Nat} {g s : Int32} {M : Mem} {Q : Option Value → Mem → Prop} (F : Fix M) (hs : mI M 29 91 = 0) (H : Q (some (.int (-1))) M) : E (h + 4) mdX11_present [.ref 29, .int g, .int s] M Q := by
  refine KX11_present ?_
  unfold DX11_present_0 DX11_present_45 DX11_present_44
  exact ⟨ok29 F, S_isGov0 F hs (fun _ => ⟨0, rfl, fun _ => H, fun hz => absurd rfl hz⟩)⟩
theorem r0_value {h : Nat} {g s : Int32} {M : Mem} {Q : Option Value → Mem → Prop} (F : Fix M) (hs : mI M 29 91 = 0) (H : Q (some (.int (0))) M) : E (h + 4) mdX11_value [.ref 29, .int g, .int s] M Q := by
  refine KX11_value ?_
  unfold DX11_value_0 DX11_value_47 DX11_value_46
  exact ⟨ok29 F, S_isGov0 F hs (fun _ => ⟨0, rfl, fun _ => H, fun hz => absurd rfl hz⟩)⟩
theorem r0_variable {h : Nat} {g v : Int32} {M : Mem} {Q : Option Value → Mem → Prop} (F : Fix M) (hs : mI M 29 91 = 0) (H : Q (some (.int (0))) M) : E (h + 4) mdX11_variable [.ref 29, .int g, .int v] M Q := by
  refine KX11_variable ?_
  unfold DX11_variable_0 DX11_variable_47 DX11_variable_46
  exact ⟨ok29 F, S_isGov0 F hs (fun _ => ⟨0, rfl, fun _ => H, fun hz => absurd rfl hz⟩)⟩
theorem r0_wire {h : Nat} {g i w : Int32} {M : Mem} {Q : Option Value → Mem → Prop} (F : Fix M) (hs : mI M 29 91 = 0) (H : Q (some (.int (-1))) M) : E (h + 4) mdX11_wire [.ref 29, .int g, .int i, .int w] M Q := by
  refine KX11_wire ?_
  unfold DX11_wire_0 DX11_wire_63 DX11_wire_62
  exact ⟨ok29 F, S_isGov0 F hs (fun _ => ⟨0, rfl, fun _ => H, fun hz => absurd rfl hz⟩)⟩
theorem r0_told {h : Nat} {g w : Int32} {M : Mem} {Q : Option Value → Mem → Prop} (F : Fix M) (hs : mI M 29 91 = 0) (H : Q (some (.int (-1))) M) : E (h + 4) mdX11_told [.ref 29, .int g, .int w] M Q := by
  refine KX11_told ?_
  unfold DX11_told_0 DX11_told_87
  exact ⟨ok29 F, S_isGov0 F hs (fun _ => ⟨0, rfl, fun hz => absurd rfl hz, fun _ => H⟩)⟩
theorem r0_paused {h : Nat} {g k : Int32} {M : Mem} {Q : Option Value → Mem → Prop} (F : Fix M) (hs : mI M 29 91 = 0) (H : Q (some (.int (-1))) M) : E (h + 4) mdX11_paused [.ref 29, .int g, .int k] M Q := by
  refine KX11_paused ?_
  unfold DX11_paused_0 DX11_paused_45 DX11_paused_44
  exact ⟨ok29 F, S_isGov0 F hs (fun _ => ⟨0, rfl, fun _ => H, fun hz => absurd rfl hz⟩)⟩
theorem r0_keep {h : Nat} {g : Int32} {M : Mem} {Q : Option Value → Mem → Prop} (F : Fix M) (hs : mI M 29 91 = 0) (H : Q (some (.int (-1))) M) : E (h + 4) mdX11_keep [.ref 29, .int g] M Q := by
  refine KX11_keep ?_
  unfold DX11_keep_0
  exact ⟨ok29 F, S_isGov0 F hs (fun _ => ⟨0, rfl, fun hz => absurd rfl hz, fun _ => H⟩)⟩
theorem r0_back {h : Nat} {g : Int32} {M : Mem} {Q : Option Value → Mem → Prop} (F : Fix M) (hs : mI M 29 91 = 0) (H : Q (some (.int (-1))) M) : E (h + 4) mdX11_back [.ref 29, .int g] M Q := by
  refine KX11_back ?_
  unfold DX11_back_0
  exact ⟨ok29 F, S_isGov0 F hs (fun _ => ⟨0, rfl, fun hz => absurd rfl hz, fun _ => H⟩)⟩
theorem r0_same {h : Nat} {a b : Int32} {M : Mem} {Q : Option Value → Mem → Prop} (F : Fix M) (hs : mI M 29 91 = 0) (H : Q (some (.int (-1))) M) : E (h + 4) mdX11_same [.ref 29, .int a, .int b] M Q := by
  refine KX11_same ?_
  unfold DX11_same_0 DX11_same_16
  exact ⟨ok29 F, S_isGov0 F hs (fun _ => ⟨0, rfl, fun _ => H, fun hz => absurd rfl hz⟩)⟩
theorem r0_search {h : Nat} {m : Int32} {M : Mem} {Q : Option Value → Mem → Prop} (F : Fix M) (hs : mI M 29 18 = 0) (H : Q (some (.int (-1))) M) : E (h + 4) mdX11_search [.ref 29, .int m] M Q := by
  refine KX11_search ?_
  unfold DX11_search_0 DX11_search_36
  exact ⟨ok29 F, S_isMod0 F hs (fun _ => ⟨0, rfl, fun hz => absurd rfl hz, fun _ => H⟩)⟩
theorem r0_move {h : Nat} {m s v w : Int32} {M : Mem} {Q : Option Value → Mem → Prop} (F : Fix M) (hs : mI M 29 18 = 0) (H : Q (some (.int (-9))) M) : E (h + 4) mdX11_move [.ref 29, .int m, .int s, .int v, .int w] M Q := by
  refine KX11_move ?_
  unfold DX11_move_0 DX11_move_54 DX11_move_92
  exact ⟨ok29 F, S_isSrch0 F hs (fun _ => ⟨0, rfl, fun _ => H, fun hz => absurd rfl hz⟩)⟩
theorem r0_classOf {h : Nat} {m s : Int32} {M : Mem} {Q : Option Value → Mem → Prop} (F : Fix M) (hs : mI M 29 18 = 0) (H : Q (some (.int (-9))) M) : E (h + 4) mdX11_classOf [.ref 29, .int m, .int s] M Q := by
  refine KX11_classOf ?_
  unfold DX11_classOf_0 DX11_classOf_42 DX11_classOf_40
  exact ⟨ok29 F, S_isSrch0 F hs (fun _ => ⟨0, rfl, fun _ => H, fun hz => absurd rfl hz⟩)⟩
theorem r0_way {h : Nat} {m s i : Int32} {M : Mem} {Q : Option Value → Mem → Prop} (F : Fix M) (hs : mI M 29 18 = 0) (H : Q (some (.int (-9))) M) : E (h + 4) mdX11_way [.ref 29, .int m, .int s, .int i] M Q := by
  refine KX11_way ?_
  unfold DX11_way_0 DX11_way_26
  exact ⟨ok29 F, S_isSrch0 F hs (fun _ => ⟨0, rfl, fun _ => H, fun hz => absurd rfl hz⟩)⟩
theorem r0_never {h : Nat} {m s : Int32} {M : Mem} {Q : Option Value → Mem → Prop} (F : Fix M) (hs : mI M 29 18 = 0) (H : Q (some (.int (-9))) M) : E (h + 4) mdX11_never [.ref 29, .int m, .int s] M Q := by
  refine KX11_never ?_
  unfold DX11_never_0 DX11_never_38 DX11_never_36
  exact ⟨ok29 F, S_isSrch0 F hs (fun _ => ⟨0, rfl, fun _ => H, fun hz => absurd rfl hz⟩)⟩
theorem r0_always {h : Nat} {m a b : Int32} {M : Mem} {Q : Option Value → Mem → Prop} (F : Fix M) (hs : mI M 29 18 = 0) (H : Q (some (.int (-9))) M) : E (h + 4) mdX11_always [.ref 29, .int m, .int a, .int b] M Q := by
  refine KX11_always ?_
  unfold DX11_always_0 DX11_always_56 DX11_always_54
  exact ⟨ok29 F, S_isSrch0 F hs (fun _ => ⟨0, rfl, fun _ => H, fun hz => absurd rfl hz⟩)⟩
end
section
/-! the law's loop over pairs of calls: one of the class, the same of the reference -/
def Pr (h : Nat) (dc dr : MD) (as : List Value) (M : Mem) (P : Mem → Prop) : Prop := E h dc (.ref 0 :: as) M (fun r M1 => ∃ v : Int32, r = some (.int v) ∧ E h dr (.ref 29 :: as) M1 (fun r2 M2 => r2 = some (.int v) ∧ P M2))
def P_feed (h : Nat) (M : Mem) (P : Mem → Prop) : Prop := ∀ a b c d e : Int32, Pr h mdX10_feed mdX11_feed [.int a, .int b, .int c, .int d, .int e] M P
def P_end (h : Nat) (M : Mem) (P : Mem → Prop) : Prop := ∀ a : Int32, Pr h mdX10_end mdX11_end [.int a] M P
def P_compile (h : Nat) (M : Mem) (P : Mem → Prop) : Prop := Pr h mdX10_compile mdX11_compile [] M P
def P_fault (h : Nat) (M : Mem) (P : Mem → Prop) : Prop := Pr h mdX10_fault mdX11_fault [] M P
def P_module (h : Nat) (M : Mem) (P : Mem → Prop) : Prop := ∀ a b : Int32, Pr h mdX10_module mdX11_module [.int a, .int b] M P
def P_part (h : Nat) (M : Mem) (P : Mem → Prop) : Prop := ∀ a b : Int32, Pr h mdX10_part mdX11_part [.int a, .int b] M P
def P_governor (h : Nat) (M : Mem) (P : Mem → Prop) : Prop := ∀ a : Int32, Pr h mdX10_governor mdX11_governor [.int a] M P
def P_give (h : Nat) (M : Mem) (P : Mem → Prop) : Prop := ∀ a b c d : Int32, Pr h mdX10_give mdX11_give [.int a, .int b, .int (if c = 0 then 0 else 1), .int d] M P
def P_beat (h : Nat) (M : Mem) (P : Mem → Prop) : Prop := ∀ a : Int32, Pr h mdX10_beat mdX11_beat [.int a] M P
def P_present (h : Nat) (M : Mem) (P : Mem → Prop) : Prop := ∀ a b : Int32, Pr h mdX10_present mdX11_present [.int a, .int b] M P
def P_value (h : Nat) (M : Mem) (P : Mem → Prop) : Prop := ∀ a b : Int32, Pr h mdX10_value mdX11_value [.int a, .int b] M P
def P_variable (h : Nat) (M : Mem) (P : Mem → Prop) : Prop := ∀ a b : Int32, Pr h mdX10_variable mdX11_variable [.int a, .int b] M P
def P_wire (h : Nat) (M : Mem) (P : Mem → Prop) : Prop := ∀ a b c : Int32, Pr h mdX10_wire mdX11_wire [.int a, .int b, .int c] M P
def P_told (h : Nat) (M : Mem) (P : Mem → Prop) : Prop := ∀ a b : Int32, Pr h mdX10_told mdX11_told [.int a, .int b] M P
def P_paused (h : Nat) (M : Mem) (P : Mem → Prop) : Prop := ∀ a b : Int32, Pr h mdX10_paused mdX11_paused [.int a, .int b] M P
def P_keep (h : Nat) (M : Mem) (P : Mem → Prop) : Prop := ∀ a : Int32, Pr h mdX10_keep mdX11_keep [.int a] M P
def P_back (h : Nat) (M : Mem) (P : Mem → Prop) : Prop := ∀ a : Int32, Pr h mdX10_back mdX11_back [.int a] M P
def P_same (h : Nat) (M : Mem) (P : Mem → Prop) : Prop := ∀ a b : Int32, Pr h mdX10_same mdX11_same [.int a, .int b] M P
def P_search (h : Nat) (M : Mem) (P : Mem → Prop) : Prop := ∀ a : Int32, Pr h mdX10_search mdX11_search [.int a] M P
def P_move (h : Nat) (M : Mem) (P : Mem → Prop) : Prop := ∀ a b c d : Int32, Pr h mdX10_move mdX11_move [.int a, .int b, .int c, .int d] M P
def P_classOf (h : Nat) (M : Mem) (P : Mem → Prop) : Prop := ∀ a b : Int32, Pr h mdX10_classOf mdX11_classOf [.int a, .int b] M P
def P_way (h : Nat) (M : Mem) (P : Mem → Prop) : Prop := ∀ a b c : Int32, Pr h mdX10_way mdX11_way [.int a, .int b, .int c] M P
def P_never (h : Nat) (M : Mem) (P : Mem → Prop) : Prop := ∀ a b : Int32, Pr h mdX10_never mdX11_never [.int a, .int b] M P
def P_always (h : Nat) (M : Mem) (P : Mem → Prop) : Prop := ∀ a b c : Int32, Pr h mdX10_always mdX11_always [.int a, .int b, .int c] M P
def P_against (h : Nat) (M : Mem) (P : Mem → Prop) : Prop := ∀ a : Int32, Pr h mdX10_against mdX11_against [.int a] M P
def P_count (h : Nat) (M : Mem) (P : Mem → Prop) : Prop := ∀ a : Int32, Pr h mdX10_count mdX11_count [.int a] M P
def P_clear (h : Nat) (M : Mem) (P : Mem → Prop) : Prop := Pr h mdX10_clear mdX11_clear [] M P
def Step (h : Nat) (M : Mem) (P : Mem → Prop) : Prop := P_feed h M P ∧ P_end h M P ∧ P_compile h M P ∧ P_fault h M P ∧ P_module h M P ∧ P_part h M P ∧ P_governor h M P ∧ P_give h M P ∧ P_beat h M P ∧ P_present h M P ∧ P_value h M P ∧ P_variable h M P ∧ P_wire h M P ∧ P_told h M P ∧ P_paused h M P ∧ P_keep h M P ∧ P_back h M P ∧ P_same h M P ∧ P_search h M P ∧ P_move h M P ∧ P_classOf h M P ∧ P_way h M P ∧ P_never h M P ∧ P_always h M P ∧ P_against h M P ∧ P_count h M P ∧ P_clear h M P
end
section
/-! feed, end, fault, against, count -/
def byt (v s : Int32) : Int32 := vp_nar .byte ((((v : Int32).toUInt32 >>> ((s : Int32).toUInt32 &&& Int32.toUInt32 31)).toInt32 : Int32).toInt8.toInt32)
def ap1 (M : Mem) (v s : Int32) : Mem := wI (wAI M 1 (mI M 0 1).toNatClampNeg (byt v s)) 0 1 (mI M 0 1 + 1)
def ap4 (M : Mem) (v : Int32) : Mem := ap1 (ap1 (ap1 (ap1 M v 24) v 16) v 8) v 0
theorem mI_ap1 {M : Mem} {v s : Int32} : mI (ap1 M v s) 0 1 = mI M 0 1 + 1 := mI_own _ _ _ _
theorem Fix.p1 {M : Mem} {v s : Int32} (F : Fix M) : Fix (ap1 M v s) := F.ai.i
theorem ap_step {h t : Nat} {v s : Int32} {M : Mem} {Q : Option Value → Mem → Prop} (F : Fix M) (hs : ¬ s < 0) (ht : mI M 0 1 = Int32.ofNat t) (h8 : t < 800) (H : T (h + 1) mdX10_append 3 [(0, .ref 0), (1, .int v), (2, .int (s + (-8)))] [] (ap1 M v s) Q) : T (h + 1) mdX10_append 3 [(0, .ref 0), (1, .int v), (2, .int s)] [] M Q := by
  refine VX10_append_3 ?_
  unfold DX10_append_3
  refine ⟨fun hc => absurd hc hs, fun _ => ⟨ok0 F, 1, rf0_0 F, ok1 F, fun hc => ?_, fun _ => ⟨1, rf0_0 F, ok1 F, ?_, fun M6 e6 M7 e7 => ?_⟩⟩⟩
  · rw [ln1 F, ht] at hc
    exfalso
    ((try simp only [Int32.toNatClampNeg, Int32.lt_iff_toInt_lt, Int32.le_iff_toInt_le, ← Int32.toInt_inj, j_add, j_sub, j_neg, j_mul, j_nat, Int32.reduceToInt, vp_in] at hc ⊢); omega)
  · rw [ln1 F, ht]
    ((try simp only [Int32.toNatClampNeg, Int32.lt_iff_toInt_lt, Int32.le_iff_toInt_le, ← Int32.toInt_inj, j_add, j_sub, j_neg, j_mul, j_nat, Int32.reduceToInt, vp_in]); omega)
  · subst e6 e7
    exact H
theorem S_append {h t : Nat} {v : Int32} {M : Mem} {Q : Option Value → Mem → Prop} (F : Fix M) (ht : mI M 0 1 = Int32.ofNat t) (h8 : t + 4 ≤ 800) (H : Q none (ap4 M v)) : E (h + 1) mdX10_append [.ref 0, .int v] M Q := by
  refine KX10_append ?_
  unfold DX10_append_0
  refine ap_step (t := t) F (by decide) ht (by omega) ?_
  refine ap_step (s := 16) (t := t + 1) F.p1 (by decide) (by rw [mI_ap1, ht, succ32]) (by omega) ?_
  refine ap_step (s := 8) (t := t + 1 + 1) F.p1.p1 (by decide) (by rw [mI_ap1, mI_ap1, ht, succ32, succ32]) (by omega) ?_
  refine ap_step (s := 0) (t := t + 1 + 1 + 1) F.p1.p1.p1 (by decide) (by rw [mI_ap1, mI_ap1, mI_ap1, ht, succ32, succ32, succ32]) (by omega) ?_
  refine VX10_append_3 ?_
  unfold DX10_append_3 DX10_append_48
  exact ⟨fun _ => H, fun hc => absurd (by decide) hc⟩
theorem mI_ap4 {M : Mem} {v : Int32} {t : Nat} (ht : mI M 0 1 = Int32.ofNat t) : mI (ap4 M v) 0 1 = Int32.ofNat (t + 4) := by
  unfold ap4
  rw [mI_ap1, mI_ap1, mI_ap1, mI_ap1, ht, succ32, succ32, succ32, succ32]
theorem Fix.p4 {M : Mem} {v : Int32} (F : Fix M) : Fix (ap4 M v) := F.p1.p1.p1.p1
def ap20 (M : Mem) (a b c d e : Int32) : Mem := ap4 (ap4 (ap4 (ap4 (ap4 M a) b) c) d) e
theorem S_feed {h t : Nat} {a b c d e : Int32} {M : Mem} {Q : Option Value → Mem → Prop} (F : Fix M) (ht : mI M 0 1 = Int32.ofNat t) (h8 : t ≤ 800) (H1 : t + 20 ≤ 800 → Q (some (.int (Int32.ofNat (t + 20)))) (ap20 M a b c d e)) (H2 : ¬ t + 20 ≤ 800 → Q (some (.int (-3))) M) : E (h + 2) mdX10_feed [.ref 0, .int a, .int b, .int c, .int d, .int e] M Q := by
  refine KX10_feed ?_
  unfold DX10_feed_0
  refine ⟨ok0 F, fun hc => ?_, fun hc => ?_⟩
  · rw [ht] at hc
    have hc : t + 20 ≤ 800 := by ((try simp only [Int32.toNatClampNeg, Int32.lt_iff_toInt_lt, Int32.le_iff_toInt_le, ← Int32.toInt_inj, j_add, j_sub, j_neg, j_mul, j_nat, Int32.reduceToInt, vp_in] at hc ⊢); omega)
    have H := H1 hc
    refine S_append F ht (by omega) (fun _ => ⟨rfl, ?_⟩)
    refine S_append F.p4 (mI_ap4 ht) (by omega) (fun _ => ⟨rfl, ?_⟩)
    refine S_append F.p4.p4 (mI_ap4 (mI_ap4 ht)) (by omega) (fun _ => ⟨rfl, ?_⟩)
    refine S_append F.p4.p4.p4 (mI_ap4 (mI_ap4 (mI_ap4 ht))) (by omega) (fun _ => ⟨rfl, ?_⟩)
    refine S_append F.p4.p4.p4.p4 (mI_ap4 (mI_ap4 (mI_ap4 (mI_ap4 ht)))) (by omega) (fun _ => ⟨rfl, ?_⟩)
    rw [mI_ap4 (mI_ap4 (mI_ap4 (mI_ap4 (mI_ap4 ht))))]
    exact H
  · rw [ht] at hc
    have hc : ¬ t + 20 ≤ 800 := by ((try simp only [Int32.toNatClampNeg, Int32.lt_iff_toInt_lt, Int32.le_iff_toInt_le, ← Int32.toInt_inj, j_add, j_sub, j_neg, j_mul, j_nat, Int32.reduceToInt, vp_in] at hc ⊢); omega)
    exact H2 hc
def pu1 (M : Mem) (v s : Int32) : Mem := wI (wAI M 30 (mI M 29 1).toNatClampNeg ((v >>> (s &&& 31)) &&& 255)) 29 1 (mI M 29 1 + 1)
def pu4 (M : Mem) (v : Int32) : Mem := pu1 (pu1 (pu1 (pu1 M v 24) v 16) v 8) v 0
theorem mI_pu1 {M : Mem} {v s : Int32} : mI (pu1 M v s) 29 1 = mI M 29 1 + 1 := mI_own _ _ _ _
theorem Fix.u1 {M : Mem} {v s : Int32} (F : Fix M) : Fix (pu1 M v s) := F.ai.i
theorem pu_step {h t : Nat} {v s : Int32} {M : Mem} {Q : Option Value → Mem → Prop} (F : Fix M) (hs : ¬ s < 0) (ht : mI M 29 1 = Int32.ofNat t) (h8 : t < 800) (H : T (h + 1) mdX11_put 3 [(0, .ref 29), (1, .int v), (2, .int (s + (-8)))] [] (pu1 M v s) Q) : T (h + 1) mdX11_put 3 [(0, .ref 29), (1, .int v), (2, .int s)] [] M Q := by
  refine VX11_put_3 ?_
  unfold DX11_put_3
  refine ⟨fun hc => absurd hc hs, fun _ => ⟨ok29 F, 30, rf29_0 F, ok30 F, ?_, fun M6 e6 M7 e7 => ?_⟩⟩
  · rw [ln30 F, ht]
    ((try simp only [Int32.toNatClampNeg, Int32.lt_iff_toInt_lt, Int32.le_iff_toInt_le, ← Int32.toInt_inj, j_add, j_sub, j_neg, j_mul, j_nat, Int32.reduceToInt, vp_in]); omega)
  · subst e6 e7
    exact H
theorem S_put {h t : Nat} {v : Int32} {M : Mem} {Q : Option Value → Mem → Prop} (F : Fix M) (ht : mI M 29 1 = Int32.ofNat t) (h8 : t + 4 ≤ 800) (H : Q none (pu4 M v)) : E (h + 1) mdX11_put [.ref 29, .int v] M Q := by
  refine KX11_put ?_
  unfold DX11_put_0
  refine pu_step (t := t) F (by decide) ht (by omega) ?_
  refine pu_step (s := 16) (t := t + 1) F.u1 (by decide) (by rw [mI_pu1, ht, succ32]) (by omega) ?_
  refine pu_step (s := 8) (t := t + 1 + 1) F.u1.u1 (by decide) (by rw [mI_pu1, mI_pu1, ht, succ32, succ32]) (by omega) ?_
  refine pu_step (s := 0) (t := t + 1 + 1 + 1) F.u1.u1.u1 (by decide) (by rw [mI_pu1, mI_pu1, mI_pu1, ht, succ32, succ32, succ32]) (by omega) ?_
  refine VX11_put_3 ?_
  unfold DX11_put_3
  exact ⟨fun _ => H, fun hc => absurd (by decide) hc⟩
theorem mI_pu4 {M : Mem} {v : Int32} {t : Nat} (ht : mI M 29 1 = Int32.ofNat t) : mI (pu4 M v) 29 1 = Int32.ofNat (t + 4) := by
  unfold pu4
  rw [mI_pu1, mI_pu1, mI_pu1, mI_pu1, ht, succ32, succ32, succ32, succ32]
theorem Fix.u4 {M : Mem} {v : Int32} (F : Fix M) : Fix (pu4 M v) := F.u1.u1.u1.u1
def pu20 (M : Mem) (a b c d e : Int32) : Mem := pu4 (pu4 (pu4 (pu4 (pu4 M a) b) c) d) e
theorem R_feed {h t : Nat} {a b c d e : Int32} {M : Mem} {Q : Option Value → Mem → Prop} (F : Fix M) (ht : mI M 29 1 = Int32.ofNat t) (h8 : t ≤ 800) (H1 : t + 20 ≤ 800 → Q (some (.int (Int32.ofNat (t + 20)))) (pu20 M a b c d e)) (H2 : ¬ t + 20 ≤ 800 → Q (some (.int (-3))) M) : E (h + 2) mdX11_feed [.ref 29, .int a, .int b, .int c, .int d, .int e] M Q := by
  refine KX11_feed ?_
  unfold DX11_feed_0
  refine ⟨ok29 F, fun hc => ?_, fun hc => ?_⟩
  · rw [ht] at hc
    have hc : t + 20 ≤ 800 := by ((try simp only [Int32.toNatClampNeg, Int32.lt_iff_toInt_lt, Int32.le_iff_toInt_le, ← Int32.toInt_inj, j_add, j_sub, j_neg, j_mul, j_nat, Int32.reduceToInt, vp_in] at hc ⊢); omega)
    have H := H1 hc
    refine S_put F ht (by omega) (fun _ => ⟨rfl, ?_⟩)
    refine S_put F.u4 (mI_pu4 ht) (by omega) (fun _ => ⟨rfl, ?_⟩)
    refine S_put F.u4.u4 (mI_pu4 (mI_pu4 ht)) (by omega) (fun _ => ⟨rfl, ?_⟩)
    refine S_put F.u4.u4.u4 (mI_pu4 (mI_pu4 (mI_pu4 ht))) (by omega) (fun _ => ⟨rfl, ?_⟩)
    refine S_put F.u4.u4.u4.u4 (mI_pu4 (mI_pu4 (mI_pu4 (mI_pu4 ht)))) (by omega) (fun _ => ⟨rfl, ?_⟩)
    rw [mI_pu4 (mI_pu4 (mI_pu4 (mI_pu4 (mI_pu4 ht))))]
    exact H
  · rw [ht] at hc
    have hc : ¬ t + 20 ≤ 800 := by ((try simp only [Int32.toNatClampNeg, Int32.lt_iff_toInt_lt, Int32.le_iff_toInt_le, ← Int32.toInt_inj, j_add, j_sub, j_neg, j_mul, j_nat, Int32.reduceToInt, vp_in] at hc ⊢); omega)
    exact H2 hc
theorem S_end {h : Nat} {n : Int32} {M : Mem} {Q : Option Value → Mem → Prop} (F : Fix M) (H1 : ¬ n < 0 → n ≤ mI M 0 1 → Q (some (.int (mI M 0 1))) (wI M 0 1 n)) (H2 : (n < 0 ∨ ¬ n ≤ mI M 0 1) → Q (some (.int (-1))) M) : E (h + 1) mdX10_end [.ref 0, .int n] M Q := by
  refine KX10_end ?_
  unfold DX10_end_0 DX10_end_12
  refine ⟨fun h1 => H2 (Or.inl h1), fun h1 => ⟨ok0 F, fun h2 M2 e2 => ?_, fun h2 => H2 (Or.inr h2)⟩⟩
  subst e2
  exact H1 h1 h2
theorem in_32 {n m : Int32} : (if (0 : Int64) ≤ n.toInt64 ∧ n.toInt64 ≤ m.toInt64 then (1 : Int32) else 0) = if ¬ n < 0 ∧ n ≤ m then 1 else 0 := by
  have e : ((0 : Int64) ≤ n.toInt64 ∧ n.toInt64 ≤ m.toInt64) ↔ (¬ n < 0 ∧ n ≤ m) := by
    rw [Int64.le_iff_toInt_le, Int64.le_iff_toInt_le, Int32.le_iff_toInt_le, Int32.lt_iff_toInt_lt, Int32.toInt_toInt64, Int32.toInt_toInt64]
    have e2 : (0 : Int64).toInt = 0 := by decide
    have e3 : (0 : Int32).toInt = 0 := by decide
    rw [e2, e3]
    omega
  by_cases hh : ¬ n < 0 ∧ n ≤ m
  · rw [if_pos hh, if_pos (e.mpr hh)]
  · rw [if_neg hh, if_neg (fun z => hh (e.mp z))]
theorem R_end {h : Nat} {n : Int32} {M : Mem} {Q : Option Value → Mem → Prop} (F : Fix M) (H1 : ¬ n < 0 → n ≤ mI M 29 1 → Q (some (.int (mI M 29 1))) (wI M 29 1 n)) (H2 : (n < 0 ∨ ¬ n ≤ mI M 29 1) → Q (some (.int (-1))) M) : E (h + 2) mdX11_end [.ref 29, .int n] M Q := by
  refine KX11_end ?_
  unfold DX11_end_0
  refine ⟨ok29 F, S_in (fun _ => ⟨_, rfl, fun hr M4 e4 => ?_, fun hr => ?_⟩)⟩
  · rw [in_32] at hr
    by_cases hh : ¬ n < 0 ∧ n ≤ mI M 29 1
    · subst e4; exact H1 hh.1 hh.2
    · rw [if_neg hh] at hr; exact absurd rfl hr
  · rw [in_32] at hr
    by_cases hh : ¬ n < 0 ∧ n ≤ mI M 29 1
    · rw [if_pos hh] at hr; exact absurd hr (by decide)
    · refine H2 ?_
      by_cases h1 : n < 0
      · exact Or.inl h1
      · exact Or.inr (fun z => hh ⟨h1, z⟩)
theorem S_fault {h : Nat} {M : Mem} {Q : Option Value → Mem → Prop} (F : Fix M) (H : Q (some (.int (mI M 0 6))) M) : E (h + 1) mdX10_fault [.ref 0] M Q := by
  refine KX10_fault ?_
  unfold DX10_fault_0
  exact ⟨ok0 F, H⟩
theorem R_fault {h : Nat} {M : Mem} {Q : Option Value → Mem → Prop} (F : Fix M) (H : Q (some (.int (mI M 29 6))) M) : E (h + 1) mdX11_fault [.ref 29] M Q := by
  refine KX11_fault ?_
  unfold DX11_fault_0
  exact ⟨ok29 F, H⟩
theorem S_against {h : Nat} {w : Int32} {M : Mem} {Q : Option Value → Mem → Prop} (F : Fix M) (H : Q (some (.int (if w = 0 then mI M 0 7 else if w = 1 then mI M 0 8 else -1))) M) : E (h + 1) mdX10_against [.ref 0, .int w] M Q := by
  refine KX10_against ?_
  unfold DX10_against_0 DX10_against_22
  refine ⟨fun h1 => ⟨fun h2 => ?_, fun h2 => ⟨ok0 F, ?_⟩⟩, fun h1 => ⟨ok0 F, ?_⟩⟩
  · rwa [if_neg h1, if_neg h2] at H
  · rwa [if_neg h1, if_pos h2] at H
  · rwa [if_pos h1] at H
theorem R_against {h : Nat} {w : Int32} {M : Mem} {Q : Option Value → Mem → Prop} (F : Fix M) (H : Q (some (.int (if w = 0 then mI M 29 123 else if w = 1 then mI M 29 124 else -1))) M) : E (h + 1) mdX11_against [.ref 29, .int w] M Q := by
  refine KX11_against ?_
  unfold DX11_against_0 DX11_against_24
  refine ⟨fun h1 => ⟨fun h2 => ?_, fun h2 => ⟨ok29 F, ?_⟩⟩, fun h1 => ⟨ok29 F, ?_⟩⟩
  · rwa [if_neg h1, if_neg h2] at H
  · rwa [if_neg h1, if_pos h2] at H
  · rwa [if_pos h1] at H
theorem S_count {h : Nat} {w : Int32} {M : Mem} {Q : Option Value → Mem → Prop} (F : Fix M) (H : Q (some (.int (if w = 0 then mI M 2 2 else if w = 1 then mI M 3 2 else if w = 2 then mI M 0 1 else -1))) M) : E (h + 2) mdX10_count [.ref 0, .int w] M Q := by
  refine KX10_count ?_
  unfold DX10_count_0
  refine ⟨fun h1 => ⟨ok0 F, 2, rf0_2 F, ok2 F, S_size (ok2 F) (fun _ => ⟨_, rfl, ?_⟩)⟩, fun h1 => ⟨ok0 F, 3, rf0_3 F, ok3 F, S_size (ok3 F) (fun _ => ⟨_, rfl, ?_⟩)⟩, fun h1 => ⟨ok0 F, ?_⟩, fun h1 => ?_⟩
  · rwa [if_pos h1] at H
  · rwa [if_neg (by rw [h1]; decide), if_pos h1] at H
  · rwa [if_neg (by rw [h1]; decide), if_neg (by rw [h1]; decide), if_pos h1] at H
  · rwa [if_neg (by rintro rfl; revert h1; decide), if_neg (by rintro rfl; revert h1; decide), if_neg (by rintro rfl; revert h1; decide)] at H
theorem R_count {h : Nat} {w : Int32} {M : Mem} {Q : Option Value → Mem → Prop} (F : Fix M) (H : Q (some (.int (if w = 0 then mI M 29 18 else if w = 1 then mI M 29 91 else if w = 2 then mI M 29 1 else -1))) M) : E (h + 1) mdX11_count [.ref 29, .int w] M Q := by
  refine KX11_count ?_
  unfold DX11_count_0 DX11_count_36
  refine ⟨fun h1 => ⟨fun h2 => ⟨fun h3 => ?_, fun h3 => ⟨ok29 F, ?_⟩⟩, fun h2 => ⟨ok29 F, ?_⟩⟩, fun h1 => ⟨ok29 F, ?_⟩⟩
  · rwa [if_neg h1, if_neg h2, if_neg h3] at H
  · rwa [if_neg h1, if_neg h2, if_pos h3] at H
  · rwa [if_neg h1, if_pos h2] at H
  · rwa [if_pos h1] at H
theorem R_clear {h : Nat} {M : Mem} {Q : Option Value → Mem → Prop} (F : Fix M) (H : Q (some (.int (mI M 29 18))) (wI (wI M 29 18 0) 29 91 0)) : E (h + 1) mdX11_clear [.ref 29] M Q := by
  refine KX11_clear ?_
  unfold DX11_clear_0
  refine ⟨ok29 F, fun M2 e2 M3 e3 => ?_⟩
  subst e2 e3
  exact H
end
section
/-! new cells behind the old ones, as a memory of their own: M is Mb and, from n0 on, M0 -/
def shf (n0 : Nat) (o : Option Nat) : Option Nat := o.map (fun b => if b < mBig then n0 + b else b)
def shO (n0 : Nat) (M M0 : Mem) (i : Nat) : Prop := mI M (n0 + i) = mI M0 i ∧ mJ M (n0 + i) = mJ M0 i ∧ ∀ f, mR M (n0 + i) f = shf n0 (mR M0 i f)
def shA (n0 : Nat) (M M0 : Mem) (i : Nat) : Prop := mL M (n0 + i) = mL M0 i ∧ mAI M (n0 + i) = mAI M0 i ∧ mAJ M (n0 + i) = mAJ M0 i ∧ ∀ f, mAR M (n0 + i) f = shf n0 (mAR M0 i f)
def Sh (n0 : Nat) (Mb M M0 : Mem) : Prop := mN M = n0 + mN M0 ∧ mN Mb = n0 ∧ mS M = mS Mb + mS M0 ∧ fr (fun _ => False) Mb M ∧
  ∀ i, i < mN M0 → mK M (n0 + i) = mK M0 i ∧ (mK M0 i < 20 → shO n0 M M0 i) ∧ (20 ≤ mK M0 i → shA n0 M M0 i)
theorem up2_sh {α : Type} {f : Nat → Nat → α} {g : Nat → Nat → α} {n0 i a k : Nat} {v : α} (h : f (n0 + i) = g i) : up2 f (n0 + a) k v (n0 + i) = up2 g a k v i := by
  funext j
  unfold up2
  by_cases hi : i = a
  · subst hi
    by_cases hj : j = k
    · rw [if_pos ⟨rfl, hj⟩, if_pos ⟨rfl, hj⟩]
    · rw [if_neg (fun z => hj z.2), if_neg (fun z => hj z.2), h]
  · rw [if_neg (fun z => hi (by omega)), if_neg (fun z => hi z.1), h]
theorem Sh.start {n0 : Nat} {Mb : Mem} (h : mN Mb = n0) : Sh n0 Mb Mb mem0 := ⟨h, h, rfl, fr.rf, fun i hi => absurd hi (Nat.not_lt_zero i)⟩
theorem Sh.i {n0 a k : Nat} {Mb M M0 : Mem} {v : Int32} (h : Sh n0 Mb M M0) : Sh n0 Mb (wI M (n0 + a) k v) (wI M0 a k v) := by
  obtain ⟨h1, h2, h3, h4, h5⟩ := h
  refine ⟨h1, h2, h3, ⟨h4.1, fun b hb _ => ?_⟩, fun i hi => ?_⟩
  · obtain ⟨r1, r2, r3, r4, r5, r6⟩ := h4.2 b hb (fun z => z)
    exact ⟨(up2_row (by omega)).trans r1, r2, r3, r4, r5, r6⟩
  · obtain ⟨s1, s2, s3⟩ := h5 i hi
    exact ⟨s1, fun q => ⟨up2_sh (s2 q).1, (s2 q).2.1, (s2 q).2.2⟩, s3⟩
theorem Sh.ai {n0 a k : Nat} {Mb M M0 : Mem} {v : Int32} (h : Sh n0 Mb M M0) : Sh n0 Mb (wAI M (n0 + a) k v) (wAI M0 a k v) := by
  obtain ⟨h1, h2, h3, h4, h5⟩ := h
  refine ⟨h1, h2, h3, ⟨h4.1, fun b hb _ => ?_⟩, fun i hi => ?_⟩
  · obtain ⟨r1, r2, r3, r4, r5, r6⟩ := h4.2 b hb (fun z => z)
    exact ⟨r1, r2, r3, (up2_row (by omega)).trans r4, r5, r6⟩
  · obtain ⟨s1, s2, s3⟩ := h5 i hi
    exact ⟨s1, s2, fun q => ⟨(s3 q).1, up2_sh (s3 q).2.1, (s3 q).2.2⟩⟩
theorem Sh.r {n0 a k : Nat} {Mb M M0 : Mem} {o p : Option Nat} (h : Sh n0 Mb M M0) (hp : p = shf n0 o) : Sh n0 Mb (wR M (n0 + a) k p) (wR M0 a k o) := by
  obtain ⟨h1, h2, h3, h4, h5⟩ := h
  subst hp
  refine ⟨h1, h2, h3, ⟨h4.1, fun b hb _ => ?_⟩, fun i hi => ?_⟩
  · obtain ⟨r1, r2, r3, r4, r5, r6⟩ := h4.2 b hb (fun z => z)
    exact ⟨r1, r2, (up2_row (by omega)).trans r3, r4, r5, r6⟩
  · obtain ⟨s1, s2, s3⟩ := h5 i hi
    refine ⟨s1, fun q => ⟨(s2 q).1, (s2 q).2.1, fun f => ?_⟩, s3⟩
    show up2 (mR M) (n0 + a) k (shf n0 o) (n0 + i) f = shf n0 (up2 (mR M0) a k o i f)
    unfold up2
    by_cases hc : i = a ∧ f = k
    · rw [if_pos ⟨by rw [hc.1], hc.2⟩, if_pos hc]
    · rw [if_neg (fun z => hc ⟨by omega, z.2⟩), if_neg hc, (s2 q).2.2 f]
theorem va_up_sh {α : Type} {f g : Nat → α} {n0 m n i : Nat} {v : α} (hm : m = n0 + n) (hi : i < n → f (n0 + i) = g i) (h : i < n + 1) : va_up f m v (n0 + i) = va_up g n v i := by
  subst hm
  unfold va_up
  by_cases hc : i = n
  · rw [if_pos (by rw [hc]), if_pos hc]
  · rw [if_neg (by omega), if_neg hc, hi (by omega)]
theorem va_up_lt {α : Type} {f : Nat → α} {n i : Nat} {v : α} (h : i < n) : va_up f n v i = f i := va_up_ne _ _ (Nat.ne_of_lt h)
theorem Sh.o {n0 c n : Nat} {Mb M M0 : Mem} (h : Sh n0 Mb M M0) (hc : c < 20) : Sh n0 Mb (nwO M c n) (nwO M0 c n) := by
  obtain ⟨h1, h2, h3, h4, h5⟩ := h
  refine ⟨by show mN M + 1 = n0 + (mN M0 + 1); omega, h2, by show mS M + n = mS Mb + (mS M0 + n); omega, h4.tr (fr_nwO) (fun _ _ z => z), fun i hi => ?_⟩
  have hi : i < mN M0 + 1 := hi
  refine ⟨va_up_sh h1 (fun q => (h5 i q).1) hi, fun q => ?_, fun q => ?_⟩
  · by_cases hn : i < mN M0
    · have q : mK M0 i < 20 := by
        have : va_up (mK M0) (mN M0) c i < 20 := q
        rwa [va_up_lt hn] at this
      obtain ⟨a1, a2, a3⟩ := (h5 i hn).2.1 q
      refine ⟨va_up_sh h1 (fun _ => a1) hi, va_up_sh h1 (fun _ => a2) hi, fun f => ?_⟩
      show va_up (mR M) (mN M) _ (n0 + i) f = shf n0 (va_up (mR M0) (mN M0) _ i f)
      rw [va_up_lt (by omega), va_up_lt hn]
      exact a3 f
    · have hn : i = mN M0 := by omega
      subst hn
      refine ⟨va_up_sh h1 (fun z => absurd z (Nat.lt_irrefl _)) hi, va_up_sh h1 (fun z => absurd z (Nat.lt_irrefl _)) hi, fun f => ?_⟩
      show va_up (mR M) (mN M) _ (n0 + mN M0) f = shf n0 (va_up (mR M0) (mN M0) _ (mN M0) f)
      rw [← h1, va_up_self, va_up_self]
      rfl
  · by_cases hn : i < mN M0
    · have q : 20 ≤ mK M0 i := by
        have : 20 ≤ va_up (mK M0) (mN M0) c i := q
        rwa [va_up_lt hn] at this
      exact (h5 i hn).2.2 q
    · have hn : i = mN M0 := by omega
      subst hn
      have : 20 ≤ va_up (mK M0) (mN M0) c (mN M0) := q
      rw [va_up_self] at this
      omega
theorem Sh.a {n0 c n : Nat} {Mb M M0 : Mem} (h : Sh n0 Mb M M0) (hc : 20 ≤ c) : Sh n0 Mb (nwA M c n) (nwA M0 c n) := by
  obtain ⟨h1, h2, h3, h4, h5⟩ := h
  refine ⟨by show mN M + 1 = n0 + (mN M0 + 1); omega, h2, by show mS M + n = mS Mb + (mS M0 + n); omega, h4.tr (fr_nwA) (fun _ _ z => z), fun i hi => ?_⟩
  have hi : i < mN M0 + 1 := hi
  refine ⟨va_up_sh h1 (fun q => (h5 i q).1) hi, fun q => ?_, fun q => ?_⟩
  · by_cases hn : i < mN M0
    · have q : mK M0 i < 20 := by
        have : va_up (mK M0) (mN M0) c i < 20 := q
        rwa [va_up_lt hn] at this
      exact (h5 i hn).2.1 q
    · have hn : i = mN M0 := by omega
      subst hn
      have : va_up (mK M0) (mN M0) c (mN M0) < 20 := q
      rw [va_up_self] at this
      omega
  · by_cases hn : i < mN M0
    · have q : 20 ≤ mK M0 i := by
        have : 20 ≤ va_up (mK M0) (mN M0) c i := q
        rwa [va_up_lt hn] at this
      obtain ⟨a1, a2, a3, a4⟩ := (h5 i hn).2.2 q
      refine ⟨va_up_sh h1 (fun _ => a1) hi, va_up_sh h1 (fun _ => a2) hi, va_up_sh h1 (fun _ => a3) hi, fun f => ?_⟩
      show va_up (mAR M) (mN M) _ (n0 + i) f = shf n0 (va_up (mAR M0) (mN M0) _ i f)
      rw [va_up_lt (by omega), va_up_lt hn]
      exact a4 f
    · have hn : i = mN M0 := by omega
      subst hn
      refine ⟨va_up_sh h1 (fun z => absurd z (Nat.lt_irrefl _)) hi, va_up_sh h1 (fun z => absurd z (Nat.lt_irrefl _)) hi, va_up_sh h1 (fun z => absurd z (Nat.lt_irrefl _)) hi, fun f => ?_⟩
      show va_up (mAR M) (mN M) _ (n0 + mN M0) f = shf n0 (va_up (mAR M0) (mN M0) _ (mN M0) f)
      rw [← h1, va_up_self, va_up_self]
      rfl
theorem shf_lt {n0 b : Nat} (h : b < mBig) : some (n0 + b) = shf n0 (some b) := by
  show _ = some (if b < mBig then n0 + b else b); rw [if_pos h]
theorem shf_sp {n0 j : Nat} : some (mBig + j) = shf n0 (some (mBig + j)) := by
  show _ = some (if mBig + j < mBig then n0 + (mBig + j) else mBig + j); rw [if_neg (by omega)]
/-- a new row of numbers into field k of the object a -/
theorem Sh.n {n0 a k kd len q : Nat} {Mb M M0 M1 M2 : Mem} (h : Sh n0 Mb M M0) (hkd : 20 ≤ kd) (hb : mN M0 < mBig) (hq : q = mN M) (e1 : M1 = nwA M kd len) (e2 : M2 = wR M1 (n0 + a) k (some q)) : Sh n0 Mb M2 (nf M0 a k kd len) := by
  subst e2 e1 hq
  rw [h.1]
  exact (h.a hkd).r (shf_lt hb)
theorem Sh.k {n0 a c : Nat} {Mb M M0 : Mem} (h : Sh n0 Mb M M0) (ha : a < mN M0) (hc : mK M0 a = c) : ok M (n0 + a) c := ⟨by rw [h.1]; omega, (h.2.2.2.2 a ha).1.trans hc⟩
theorem Sh.rR {n0 a f b : Nat} {Mb M M0 : Mem} (h : Sh n0 Mb M M0) (ha : a < mN M0) (hc : mK M0 a < 20) (hr : mR M0 a f = some b) (hb : b < mBig) : mR M (n0 + a) f = some (n0 + b) := by
  rw [((h.2.2.2.2 a ha).2.1 hc).2.2 f, hr]; exact (shf_lt hb).symm
theorem Sh.rI {n0 a f : Nat} {v : Int32} {Mb M M0 : Mem} (h : Sh n0 Mb M M0) (ha : a < mN M0) (hc : mK M0 a < 20) (hr : mI M0 a f = v) : mI M (n0 + a) f = v := by
  rw [((h.2.2.2.2 a ha).2.1 hc).1, hr]
theorem Sh.rL {n0 a n : Nat} {Mb M M0 : Mem} (h : Sh n0 Mb M M0) (ha : a < mN M0) (hc : 20 ≤ mK M0 a) (hr : mL M0 a = n) : mL M (n0 + a) = n := by
  rw [((h.2.2.2.2 a ha).2.2 hc).1, hr]
theorem Sh.fix {n0 : Nat} {Mb M M0 : Mem} (h : Sh n0 Mb M M0) (F : Fix Mb) : Fix M := by
  have h0 : 132 ≤ n0 := h.2.1 ▸ F.1
  refine F.of_fr (S := fun _ => True) h.2.2.2.1.1 (fun e he => ?_) ?_
  · have := tRS_lt e he
    rw [(h.2.2.2.1.2 e.1 (by rw [h.2.1]; omega) (fun z => z)).2.2.1]
  · exact (h.2.2.2.1.2 19 (by rw [h.2.1]; omega) (fun z => z)).2.2.2.2.1
end
