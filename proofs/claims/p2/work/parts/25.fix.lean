/-! cells that never change their kind, length and references -/
def tO : List (Nat × Nat) := [(0, 12), (2, 1), (3, 1), (4, 10), (14, 6), (15, 9), (21, 11), (29, 13)]
def tA : List (Nat × Nat × Nat) := [(1, 20, 800), (5, 21, 640), (6, 21, 640), (7, 21, 640), (8, 21, 640), (9, 21, 640), (10, 21, 640), (11, 21, 640), (12, 21, 640), (13, 21, 640), (16, 21, 801), (17, 21, 801), (18, 23, 801), (19, 23, 33), (20, 23, 16), (22, 21, 640), (23, 21, 640), (24, 21, 640), (25, 21, 640), (26, 21, 640), (27, 21, 640), (28, 21, 12800)]
def tB : List (Nat × Nat × Nat) := [(30, 21, 800), (31, 21, 802), (32, 21, 802), (33, 23, 802), (34, 21, 4), (35, 21, 4), (36, 21, 4), (37, 23, 64), (38, 21, 64), (39, 21, 64), (40, 22, 64), (41, 21, 16), (42, 23, 24), (43, 23, 24), (44, 21, 4), (45, 21, 1640), (46, 21, 1640), (47, 21, 1640), (48, 21, 4), (49, 21, 3240), (50, 23, 3240), (51, 21, 3240), (52, 21, 900), (53, 21, 900), (54, 21, 4), (55, 21, 4), (56, 21, 4), (57, 21, 4), (58, 21, 160), (59, 21, 160), (60, 21, 160), (61, 22, 160), (62, 21, 160), (63, 21, 160), (64, 21, 160), (65, 21, 160), (66, 21, 160), (67, 21, 160), (68, 21, 160), (69, 21, 160), (70, 21, 160), (71, 21, 160), (72, 23, 160), (73, 21, 100), (74, 21, 100), (75, 21, 100), (76, 21, 17), (77, 21, 17), (78, 21, 17), (79, 21, 4), (80, 21, 2800), (81, 21, 2800), (82, 21, 2800), (83, 21, 2800), (84, 21, 2800), (85, 21, 2800), (86, 21, 2800), (87, 21, 2800), (88, 21, 2800), (89, 21, 2800), (90, 21, 160), (91, 21, 4), (92, 21, 4), (93, 21, 5600), (94, 21, 4), (95, 21, 700), (96, 21, 700), (97, 21, 700), (98, 21, 700), (99, 21, 16800), (100, 21, 16), (101, 21, 1640), (102, 21, 8), (103, 22, 32), (104, 22, 32), (105, 21, 32), (106, 21, 32), (107, 23, 512), (108, 23, 192), (109, 21, 32), (110, 21, 8), (111, 21, 8), (112, 23, 32), (113, 21, 8), (114, 21, 8), (115, 21, 8), (116, 21, 8), (117, 21, 1600), (118, 23, 3240), (119, 23, 16), (120, 23, 6), (121, 21, 40), (122, 21, 4), (123, 21, 4), (124, 21, 192), (125, 21, 192), (126, 21, 192), (127, 21, 192), (128, 21, 192), (129, 21, 6144), (130, 21, 6144), (131, 21, 48)]
def tR : List (Nat × Nat × Nat) := [(0, 0, 1), (0, 2, 2), (0, 3, 3), (0, 4, 14), (0, 5, 21), (4, 0, 5), (4, 1, 6), (4, 2, 7), (4, 3, 8), (4, 4, 9), (4, 5, 10), (4, 6, 11), (4, 7, 12), (4, 8, 13), (14, 0, 15), (14, 1, 4), (14, 2, 20), (15, 0, 1), (15, 4, 16), (15, 5, 17), (15, 6, 18), (15, 1, 19), (21, 0, 4), (21, 1, 22), (21, 2, 23), (21, 3, 24), (21, 4, 25), (21, 5, 26), (21, 6, 27), (21, 7, 28)]
def tS : List (Nat × Nat × Nat) := [(29, 0, 30), (29, 2, 31), (29, 3, 32), (29, 4, 33), (29, 8, 34), (29, 9, 35), (29, 10, 36), (29, 11, 37), (29, 12, 38), (29, 13, 39), (29, 14, 40), (29, 15, 41), (29, 16, 42), (29, 17, 43), (29, 20, 44), (29, 21, 45), (29, 22, 46), (29, 23, 47), (29, 24, 48), (29, 25, 49), (29, 26, 50), (29, 27, 51), (29, 28, 52), (29, 30, 53), (29, 34, 54), (29, 35, 55), (29, 36, 56), (29, 37, 57), (29, 38, 58), (29, 39, 59), (29, 40, 60), (29, 41, 61), (29, 42, 62), (29, 43, 63), (29, 44, 64), (29, 45, 65), (29, 46, 66), (29, 47, 67), (29, 48, 68), (29, 49, 69), (29, 50, 70), (29, 51, 71), (29, 52, 72), (29, 54, 73), (29, 55, 74), (29, 56, 75), (29, 57, 76), (29, 58, 77), (29, 59, 78), (29, 61, 79), (29, 62, 80), (29, 63, 81), (29, 64, 82), (29, 65, 83), (29, 66, 84), (29, 67, 85), (29, 68, 86), (29, 69, 87), (29, 70, 88), (29, 71, 89), (29, 72, 90), (29, 73, 91), (29, 74, 92), (29, 75, 93), (29, 76, 94), (29, 77, 95), (29, 78, 96), (29, 79, 97), (29, 80, 98), (29, 81, 99), (29, 82, 100), (29, 90, 101), (29, 92, 102), (29, 93, 103), (29, 94, 104), (29, 95, 105), (29, 96, 106), (29, 97, 107), (29, 98, 108), (29, 99, 109), (29, 100, 110), (29, 101, 111), (29, 102, 112), (29, 103, 113), (29, 104, 114), (29, 105, 115), (29, 106, 116), (29, 107, 117), (29, 108, 118), (29, 109, 119), (29, 110, 120), (29, 112, 121), (29, 114, 122), (29, 115, 123), (29, 116, 124), (29, 117, 125), (29, 118, 126), (29, 119, 127), (29, 120, 128), (29, 121, 129), (29, 122, 130), (29, 125, 131)]
def Fix (M : Mem) : Prop := 132 ≤ mN M ∧ (∀ e ∈ tO, ok M e.1 e.2) ∧ (∀ e ∈ tA ++ tB, ok M e.1 e.2.1 ∧ mL M e.1 = e.2.2) ∧ (∀ e ∈ tR ++ tS, mR M e.1 e.2.1 = some e.2.2) ∧ mAJ M 19 = keysF
theorem tO_lt : ∀ e ∈ tO, e.1 < 132 := by decide
theorem tAB_lt : ∀ e ∈ tA ++ tB, e.1 < 132 := by decide +kernel
theorem tRS_lt : ∀ e ∈ tR ++ tS, e.1 < 132 := by decide +kernel
theorem Fix.i {M : Mem} {a k : Nat} {v : Int32} (h : Fix M) : Fix (wI M a k v) := h
theorem Fix.j {M : Mem} {a k : Nat} {v : Int64} (h : Fix M) : Fix (wJ M a k v) := h
theorem Fix.ai {M : Mem} {a k : Nat} {v : Int32} (h : Fix M) : Fix (wAI M a k v) := h
theorem Fix.ar {M : Mem} {a k : Nat} {v : Option Nat} (h : Fix M) : Fix (wAR M a k v) := h
theorem Fix.aj {M : Mem} {a k : Nat} {v : Int64} (h : Fix M) (ha : a ≠ 19) : Fix (wAJ M a k v) := ⟨h.1, h.2.1, h.2.2.1, h.2.2.2.1, (up2_row (fun z => ha z.symm)).trans h.2.2.2.2⟩
theorem Fix.r {M : Mem} {a k : Nat} {v : Option Nat} (h : Fix M) (ha : (tR ++ tS).all (fun e => !(e.1 == a && e.2.1 == k)) = true) : Fix (wR M a k v) := ⟨h.1, h.2.1, h.2.2.1, fun e he => by
    have := List.all_eq_true.mp ha e he
    simp at this
    exact (up2_ne (fun z => by rcases this with q | q; exact q z.1; exact q z.2)).trans (h.2.2.2.1 e he), h.2.2.2.2⟩
theorem Fix.rd {M : Mem} {a k : Nat} {v : Option Nat} (h : Fix M) (ha : 132 ≤ a) : Fix (wR M a k v) := ⟨h.1, h.2.1, h.2.2.1, fun e he => by
    have := tRS_lt e he
    exact (up2_ne (fun z => by omega)).trans (h.2.2.2.1 e he), h.2.2.2.2⟩
theorem Fix.of_fr {M M' : Mem} {S : Nat → Prop} (h : Fix M) (hE : mE M M') (hR : ∀ e ∈ tR ++ tS, mR M' e.1 e.2.1 = mR M e.1 e.2.1) (hJ : mAJ M' 19 = mAJ M 19) : Fix M' :=
  ⟨Nat.le_trans h.1 hE.1, fun e he => ok_E (h.2.1 e he) hE, fun e he => ⟨ok_E (h.2.2.1 e he).1 hE, ((hE.2.2 e.1 (h.2.2.1 e he).1.1).2).trans (h.2.2.1 e he).2⟩, fun e he => (hR e he).trans (h.2.2.2.1 e he), hJ.trans h.2.2.2.2⟩
theorem Fix.o {M : Mem} {c n : Nat} (h : Fix M) : Fix (nwO M c n) := h.of_fr (S := fun _ => True) mE_nwO (fun e he => by
  have h1 := tRS_lt e he
  have h2 := h.1
  exact congrFun (va_up_ne _ _ (by omega)) _) rfl
theorem Fix.a {M : Mem} {c n : Nat} (h : Fix M) : Fix (nwA M c n) := h.of_fr (S := fun _ => True) mE_nwA (fun e he => rfl) (by
  have h2 := h.1
  exact va_up_ne _ _ (by omega))
theorem ok0 {M : Mem} (h : Fix M) : ok M 0 12 := h.2.1 (0, 12) (by decide)
theorem ok2 {M : Mem} (h : Fix M) : ok M 2 1 := h.2.1 (2, 1) (by decide)
theorem ok3 {M : Mem} (h : Fix M) : ok M 3 1 := h.2.1 (3, 1) (by decide)
theorem ok4 {M : Mem} (h : Fix M) : ok M 4 10 := h.2.1 (4, 10) (by decide)
theorem ok14 {M : Mem} (h : Fix M) : ok M 14 6 := h.2.1 (14, 6) (by decide)
theorem ok15 {M : Mem} (h : Fix M) : ok M 15 9 := h.2.1 (15, 9) (by decide)
theorem ok21 {M : Mem} (h : Fix M) : ok M 21 11 := h.2.1 (21, 11) (by decide)
theorem ok29 {M : Mem} (h : Fix M) : ok M 29 13 := h.2.1 (29, 13) (by decide)
theorem ok1 {M : Mem} (h : Fix M) : ok M 1 20 := (h.2.2.1 (1, 20, 800) (List.mem_append_left _ (List.mem_of_getElem? (i := 0) rfl))).1
theorem ln1 {M : Mem} (h : Fix M) : mL M 1 = 800 := (h.2.2.1 (1, 20, 800) (List.mem_append_left _ (List.mem_of_getElem? (i := 0) rfl))).2
theorem ok5 {M : Mem} (h : Fix M) : ok M 5 21 := (h.2.2.1 (5, 21, 640) (List.mem_append_left _ (List.mem_of_getElem? (i := 1) rfl))).1
theorem ln5 {M : Mem} (h : Fix M) : mL M 5 = 640 := (h.2.2.1 (5, 21, 640) (List.mem_append_left _ (List.mem_of_getElem? (i := 1) rfl))).2
theorem ok6 {M : Mem} (h : Fix M) : ok M 6 21 := (h.2.2.1 (6, 21, 640) (List.mem_append_left _ (List.mem_of_getElem? (i := 2) rfl))).1
theorem ln6 {M : Mem} (h : Fix M) : mL M 6 = 640 := (h.2.2.1 (6, 21, 640) (List.mem_append_left _ (List.mem_of_getElem? (i := 2) rfl))).2
theorem ok7 {M : Mem} (h : Fix M) : ok M 7 21 := (h.2.2.1 (7, 21, 640) (List.mem_append_left _ (List.mem_of_getElem? (i := 3) rfl))).1
theorem ln7 {M : Mem} (h : Fix M) : mL M 7 = 640 := (h.2.2.1 (7, 21, 640) (List.mem_append_left _ (List.mem_of_getElem? (i := 3) rfl))).2
theorem ok8 {M : Mem} (h : Fix M) : ok M 8 21 := (h.2.2.1 (8, 21, 640) (List.mem_append_left _ (List.mem_of_getElem? (i := 4) rfl))).1
theorem ln8 {M : Mem} (h : Fix M) : mL M 8 = 640 := (h.2.2.1 (8, 21, 640) (List.mem_append_left _ (List.mem_of_getElem? (i := 4) rfl))).2
theorem ok9 {M : Mem} (h : Fix M) : ok M 9 21 := (h.2.2.1 (9, 21, 640) (List.mem_append_left _ (List.mem_of_getElem? (i := 5) rfl))).1
theorem ln9 {M : Mem} (h : Fix M) : mL M 9 = 640 := (h.2.2.1 (9, 21, 640) (List.mem_append_left _ (List.mem_of_getElem? (i := 5) rfl))).2
theorem ok10 {M : Mem} (h : Fix M) : ok M 10 21 := (h.2.2.1 (10, 21, 640) (List.mem_append_left _ (List.mem_of_getElem? (i := 6) rfl))).1
theorem ln10 {M : Mem} (h : Fix M) : mL M 10 = 640 := (h.2.2.1 (10, 21, 640) (List.mem_append_left _ (List.mem_of_getElem? (i := 6) rfl))).2
theorem ok11 {M : Mem} (h : Fix M) : ok M 11 21 := (h.2.2.1 (11, 21, 640) (List.mem_append_left _ (List.mem_of_getElem? (i := 7) rfl))).1
theorem ln11 {M : Mem} (h : Fix M) : mL M 11 = 640 := (h.2.2.1 (11, 21, 640) (List.mem_append_left _ (List.mem_of_getElem? (i := 7) rfl))).2
theorem ok12 {M : Mem} (h : Fix M) : ok M 12 21 := (h.2.2.1 (12, 21, 640) (List.mem_append_left _ (List.mem_of_getElem? (i := 8) rfl))).1
theorem ln12 {M : Mem} (h : Fix M) : mL M 12 = 640 := (h.2.2.1 (12, 21, 640) (List.mem_append_left _ (List.mem_of_getElem? (i := 8) rfl))).2
theorem ok13 {M : Mem} (h : Fix M) : ok M 13 21 := (h.2.2.1 (13, 21, 640) (List.mem_append_left _ (List.mem_of_getElem? (i := 9) rfl))).1
theorem ln13 {M : Mem} (h : Fix M) : mL M 13 = 640 := (h.2.2.1 (13, 21, 640) (List.mem_append_left _ (List.mem_of_getElem? (i := 9) rfl))).2
theorem ok16 {M : Mem} (h : Fix M) : ok M 16 21 := (h.2.2.1 (16, 21, 801) (List.mem_append_left _ (List.mem_of_getElem? (i := 10) rfl))).1
theorem ln16 {M : Mem} (h : Fix M) : mL M 16 = 801 := (h.2.2.1 (16, 21, 801) (List.mem_append_left _ (List.mem_of_getElem? (i := 10) rfl))).2
theorem ok17 {M : Mem} (h : Fix M) : ok M 17 21 := (h.2.2.1 (17, 21, 801) (List.mem_append_left _ (List.mem_of_getElem? (i := 11) rfl))).1
theorem ln17 {M : Mem} (h : Fix M) : mL M 17 = 801 := (h.2.2.1 (17, 21, 801) (List.mem_append_left _ (List.mem_of_getElem? (i := 11) rfl))).2
theorem ok18 {M : Mem} (h : Fix M) : ok M 18 23 := (h.2.2.1 (18, 23, 801) (List.mem_append_left _ (List.mem_of_getElem? (i := 12) rfl))).1
theorem ln18 {M : Mem} (h : Fix M) : mL M 18 = 801 := (h.2.2.1 (18, 23, 801) (List.mem_append_left _ (List.mem_of_getElem? (i := 12) rfl))).2
theorem ok19 {M : Mem} (h : Fix M) : ok M 19 23 := (h.2.2.1 (19, 23, 33) (List.mem_append_left _ (List.mem_of_getElem? (i := 13) rfl))).1
theorem ln19 {M : Mem} (h : Fix M) : mL M 19 = 33 := (h.2.2.1 (19, 23, 33) (List.mem_append_left _ (List.mem_of_getElem? (i := 13) rfl))).2
theorem ok20 {M : Mem} (h : Fix M) : ok M 20 23 := (h.2.2.1 (20, 23, 16) (List.mem_append_left _ (List.mem_of_getElem? (i := 14) rfl))).1
theorem ln20 {M : Mem} (h : Fix M) : mL M 20 = 16 := (h.2.2.1 (20, 23, 16) (List.mem_append_left _ (List.mem_of_getElem? (i := 14) rfl))).2
theorem ok22 {M : Mem} (h : Fix M) : ok M 22 21 := (h.2.2.1 (22, 21, 640) (List.mem_append_left _ (List.mem_of_getElem? (i := 15) rfl))).1
theorem ln22 {M : Mem} (h : Fix M) : mL M 22 = 640 := (h.2.2.1 (22, 21, 640) (List.mem_append_left _ (List.mem_of_getElem? (i := 15) rfl))).2
theorem ok23 {M : Mem} (h : Fix M) : ok M 23 21 := (h.2.2.1 (23, 21, 640) (List.mem_append_left _ (List.mem_of_getElem? (i := 16) rfl))).1
theorem ln23 {M : Mem} (h : Fix M) : mL M 23 = 640 := (h.2.2.1 (23, 21, 640) (List.mem_append_left _ (List.mem_of_getElem? (i := 16) rfl))).2
theorem ok24 {M : Mem} (h : Fix M) : ok M 24 21 := (h.2.2.1 (24, 21, 640) (List.mem_append_left _ (List.mem_of_getElem? (i := 17) rfl))).1
theorem ln24 {M : Mem} (h : Fix M) : mL M 24 = 640 := (h.2.2.1 (24, 21, 640) (List.mem_append_left _ (List.mem_of_getElem? (i := 17) rfl))).2
theorem ok25 {M : Mem} (h : Fix M) : ok M 25 21 := (h.2.2.1 (25, 21, 640) (List.mem_append_left _ (List.mem_of_getElem? (i := 18) rfl))).1
theorem ln25 {M : Mem} (h : Fix M) : mL M 25 = 640 := (h.2.2.1 (25, 21, 640) (List.mem_append_left _ (List.mem_of_getElem? (i := 18) rfl))).2
theorem ok26 {M : Mem} (h : Fix M) : ok M 26 21 := (h.2.2.1 (26, 21, 640) (List.mem_append_left _ (List.mem_of_getElem? (i := 19) rfl))).1
theorem ln26 {M : Mem} (h : Fix M) : mL M 26 = 640 := (h.2.2.1 (26, 21, 640) (List.mem_append_left _ (List.mem_of_getElem? (i := 19) rfl))).2
theorem ok27 {M : Mem} (h : Fix M) : ok M 27 21 := (h.2.2.1 (27, 21, 640) (List.mem_append_left _ (List.mem_of_getElem? (i := 20) rfl))).1
theorem ln27 {M : Mem} (h : Fix M) : mL M 27 = 640 := (h.2.2.1 (27, 21, 640) (List.mem_append_left _ (List.mem_of_getElem? (i := 20) rfl))).2
theorem ok28 {M : Mem} (h : Fix M) : ok M 28 21 := (h.2.2.1 (28, 21, 12800) (List.mem_append_left _ (List.mem_of_getElem? (i := 21) rfl))).1
theorem ln28 {M : Mem} (h : Fix M) : mL M 28 = 12800 := (h.2.2.1 (28, 21, 12800) (List.mem_append_left _ (List.mem_of_getElem? (i := 21) rfl))).2
theorem ok30 {M : Mem} (h : Fix M) : ok M 30 21 := (h.2.2.1 (30, 21, 800) (List.mem_append_right _ (List.mem_of_getElem? (i := 0) rfl))).1
theorem ln30 {M : Mem} (h : Fix M) : mL M 30 = 800 := (h.2.2.1 (30, 21, 800) (List.mem_append_right _ (List.mem_of_getElem? (i := 0) rfl))).2
theorem ok31 {M : Mem} (h : Fix M) : ok M 31 21 := (h.2.2.1 (31, 21, 802) (List.mem_append_right _ (List.mem_of_getElem? (i := 1) rfl))).1
theorem ln31 {M : Mem} (h : Fix M) : mL M 31 = 802 := (h.2.2.1 (31, 21, 802) (List.mem_append_right _ (List.mem_of_getElem? (i := 1) rfl))).2
theorem ok32 {M : Mem} (h : Fix M) : ok M 32 21 := (h.2.2.1 (32, 21, 802) (List.mem_append_right _ (List.mem_of_getElem? (i := 2) rfl))).1
theorem ln32 {M : Mem} (h : Fix M) : mL M 32 = 802 := (h.2.2.1 (32, 21, 802) (List.mem_append_right _ (List.mem_of_getElem? (i := 2) rfl))).2
theorem ok33 {M : Mem} (h : Fix M) : ok M 33 23 := (h.2.2.1 (33, 23, 802) (List.mem_append_right _ (List.mem_of_getElem? (i := 3) rfl))).1
theorem ln33 {M : Mem} (h : Fix M) : mL M 33 = 802 := (h.2.2.1 (33, 23, 802) (List.mem_append_right _ (List.mem_of_getElem? (i := 3) rfl))).2
theorem ok34 {M : Mem} (h : Fix M) : ok M 34 21 := (h.2.2.1 (34, 21, 4) (List.mem_append_right _ (List.mem_of_getElem? (i := 4) rfl))).1
theorem ln34 {M : Mem} (h : Fix M) : mL M 34 = 4 := (h.2.2.1 (34, 21, 4) (List.mem_append_right _ (List.mem_of_getElem? (i := 4) rfl))).2
theorem ok35 {M : Mem} (h : Fix M) : ok M 35 21 := (h.2.2.1 (35, 21, 4) (List.mem_append_right _ (List.mem_of_getElem? (i := 5) rfl))).1
theorem ln35 {M : Mem} (h : Fix M) : mL M 35 = 4 := (h.2.2.1 (35, 21, 4) (List.mem_append_right _ (List.mem_of_getElem? (i := 5) rfl))).2
theorem ok36 {M : Mem} (h : Fix M) : ok M 36 21 := (h.2.2.1 (36, 21, 4) (List.mem_append_right _ (List.mem_of_getElem? (i := 6) rfl))).1
theorem ln36 {M : Mem} (h : Fix M) : mL M 36 = 4 := (h.2.2.1 (36, 21, 4) (List.mem_append_right _ (List.mem_of_getElem? (i := 6) rfl))).2
theorem ok37 {M : Mem} (h : Fix M) : ok M 37 23 := (h.2.2.1 (37, 23, 64) (List.mem_append_right _ (List.mem_of_getElem? (i := 7) rfl))).1
theorem ln37 {M : Mem} (h : Fix M) : mL M 37 = 64 := (h.2.2.1 (37, 23, 64) (List.mem_append_right _ (List.mem_of_getElem? (i := 7) rfl))).2
theorem ok38 {M : Mem} (h : Fix M) : ok M 38 21 := (h.2.2.1 (38, 21, 64) (List.mem_append_right _ (List.mem_of_getElem? (i := 8) rfl))).1
theorem ln38 {M : Mem} (h : Fix M) : mL M 38 = 64 := (h.2.2.1 (38, 21, 64) (List.mem_append_right _ (List.mem_of_getElem? (i := 8) rfl))).2
theorem ok39 {M : Mem} (h : Fix M) : ok M 39 21 := (h.2.2.1 (39, 21, 64) (List.mem_append_right _ (List.mem_of_getElem? (i := 9) rfl))).1
theorem ln39 {M : Mem} (h : Fix M) : mL M 39 = 64 := (h.2.2.1 (39, 21, 64) (List.mem_append_right _ (List.mem_of_getElem? (i := 9) rfl))).2
theorem ok40 {M : Mem} (h : Fix M) : ok M 40 22 := (h.2.2.1 (40, 22, 64) (List.mem_append_right _ (List.mem_of_getElem? (i := 10) rfl))).1
theorem ln40 {M : Mem} (h : Fix M) : mL M 40 = 64 := (h.2.2.1 (40, 22, 64) (List.mem_append_right _ (List.mem_of_getElem? (i := 10) rfl))).2
theorem ok41 {M : Mem} (h : Fix M) : ok M 41 21 := (h.2.2.1 (41, 21, 16) (List.mem_append_right _ (List.mem_of_getElem? (i := 11) rfl))).1
theorem ln41 {M : Mem} (h : Fix M) : mL M 41 = 16 := (h.2.2.1 (41, 21, 16) (List.mem_append_right _ (List.mem_of_getElem? (i := 11) rfl))).2
theorem ok42 {M : Mem} (h : Fix M) : ok M 42 23 := (h.2.2.1 (42, 23, 24) (List.mem_append_right _ (List.mem_of_getElem? (i := 12) rfl))).1
theorem ln42 {M : Mem} (h : Fix M) : mL M 42 = 24 := (h.2.2.1 (42, 23, 24) (List.mem_append_right _ (List.mem_of_getElem? (i := 12) rfl))).2
theorem ok43 {M : Mem} (h : Fix M) : ok M 43 23 := (h.2.2.1 (43, 23, 24) (List.mem_append_right _ (List.mem_of_getElem? (i := 13) rfl))).1
theorem ln43 {M : Mem} (h : Fix M) : mL M 43 = 24 := (h.2.2.1 (43, 23, 24) (List.mem_append_right _ (List.mem_of_getElem? (i := 13) rfl))).2
theorem ok44 {M : Mem} (h : Fix M) : ok M 44 21 := (h.2.2.1 (44, 21, 4) (List.mem_append_right _ (List.mem_of_getElem? (i := 14) rfl))).1
theorem ln44 {M : Mem} (h : Fix M) : mL M 44 = 4 := (h.2.2.1 (44, 21, 4) (List.mem_append_right _ (List.mem_of_getElem? (i := 14) rfl))).2
theorem ok45 {M : Mem} (h : Fix M) : ok M 45 21 := (h.2.2.1 (45, 21, 1640) (List.mem_append_right _ (List.mem_of_getElem? (i := 15) rfl))).1
theorem ln45 {M : Mem} (h : Fix M) : mL M 45 = 1640 := (h.2.2.1 (45, 21, 1640) (List.mem_append_right _ (List.mem_of_getElem? (i := 15) rfl))).2
theorem ok46 {M : Mem} (h : Fix M) : ok M 46 21 := (h.2.2.1 (46, 21, 1640) (List.mem_append_right _ (List.mem_of_getElem? (i := 16) rfl))).1
theorem ln46 {M : Mem} (h : Fix M) : mL M 46 = 1640 := (h.2.2.1 (46, 21, 1640) (List.mem_append_right _ (List.mem_of_getElem? (i := 16) rfl))).2
theorem ok47 {M : Mem} (h : Fix M) : ok M 47 21 := (h.2.2.1 (47, 21, 1640) (List.mem_append_right _ (List.mem_of_getElem? (i := 17) rfl))).1
theorem ln47 {M : Mem} (h : Fix M) : mL M 47 = 1640 := (h.2.2.1 (47, 21, 1640) (List.mem_append_right _ (List.mem_of_getElem? (i := 17) rfl))).2
theorem ok48 {M : Mem} (h : Fix M) : ok M 48 21 := (h.2.2.1 (48, 21, 4) (List.mem_append_right _ (List.mem_of_getElem? (i := 18) rfl))).1
theorem ln48 {M : Mem} (h : Fix M) : mL M 48 = 4 := (h.2.2.1 (48, 21, 4) (List.mem_append_right _ (List.mem_of_getElem? (i := 18) rfl))).2
theorem ok49 {M : Mem} (h : Fix M) : ok M 49 21 := (h.2.2.1 (49, 21, 3240) (List.mem_append_right _ (List.mem_of_getElem? (i := 19) rfl))).1
theorem ln49 {M : Mem} (h : Fix M) : mL M 49 = 3240 := (h.2.2.1 (49, 21, 3240) (List.mem_append_right _ (List.mem_of_getElem? (i := 19) rfl))).2
theorem ok50 {M : Mem} (h : Fix M) : ok M 50 23 := (h.2.2.1 (50, 23, 3240) (List.mem_append_right _ (List.mem_of_getElem? (i := 20) rfl))).1
theorem ln50 {M : Mem} (h : Fix M) : mL M 50 = 3240 := (h.2.2.1 (50, 23, 3240) (List.mem_append_right _ (List.mem_of_getElem? (i := 20) rfl))).2
theorem ok51 {M : Mem} (h : Fix M) : ok M 51 21 := (h.2.2.1 (51, 21, 3240) (List.mem_append_right _ (List.mem_of_getElem? (i := 21) rfl))).1
theorem ln51 {M : Mem} (h : Fix M) : mL M 51 = 3240 := (h.2.2.1 (51, 21, 3240) (List.mem_append_right _ (List.mem_of_getElem? (i := 21) rfl))).2
theorem ok52 {M : Mem} (h : Fix M) : ok M 52 21 := (h.2.2.1 (52, 21, 900) (List.mem_append_right _ (List.mem_of_getElem? (i := 22) rfl))).1
theorem ln52 {M : Mem} (h : Fix M) : mL M 52 = 900 := (h.2.2.1 (52, 21, 900) (List.mem_append_right _ (List.mem_of_getElem? (i := 22) rfl))).2
theorem ok53 {M : Mem} (h : Fix M) : ok M 53 21 := (h.2.2.1 (53, 21, 900) (List.mem_append_right _ (List.mem_of_getElem? (i := 23) rfl))).1
theorem ln53 {M : Mem} (h : Fix M) : mL M 53 = 900 := (h.2.2.1 (53, 21, 900) (List.mem_append_right _ (List.mem_of_getElem? (i := 23) rfl))).2
theorem ok54 {M : Mem} (h : Fix M) : ok M 54 21 := (h.2.2.1 (54, 21, 4) (List.mem_append_right _ (List.mem_of_getElem? (i := 24) rfl))).1
theorem ln54 {M : Mem} (h : Fix M) : mL M 54 = 4 := (h.2.2.1 (54, 21, 4) (List.mem_append_right _ (List.mem_of_getElem? (i := 24) rfl))).2
theorem ok55 {M : Mem} (h : Fix M) : ok M 55 21 := (h.2.2.1 (55, 21, 4) (List.mem_append_right _ (List.mem_of_getElem? (i := 25) rfl))).1
theorem ln55 {M : Mem} (h : Fix M) : mL M 55 = 4 := (h.2.2.1 (55, 21, 4) (List.mem_append_right _ (List.mem_of_getElem? (i := 25) rfl))).2
theorem ok56 {M : Mem} (h : Fix M) : ok M 56 21 := (h.2.2.1 (56, 21, 4) (List.mem_append_right _ (List.mem_of_getElem? (i := 26) rfl))).1
theorem ln56 {M : Mem} (h : Fix M) : mL M 56 = 4 := (h.2.2.1 (56, 21, 4) (List.mem_append_right _ (List.mem_of_getElem? (i := 26) rfl))).2
theorem ok57 {M : Mem} (h : Fix M) : ok M 57 21 := (h.2.2.1 (57, 21, 4) (List.mem_append_right _ (List.mem_of_getElem? (i := 27) rfl))).1
theorem ln57 {M : Mem} (h : Fix M) : mL M 57 = 4 := (h.2.2.1 (57, 21, 4) (List.mem_append_right _ (List.mem_of_getElem? (i := 27) rfl))).2
theorem ok58 {M : Mem} (h : Fix M) : ok M 58 21 := (h.2.2.1 (58, 21, 160) (List.mem_append_right _ (List.mem_of_getElem? (i := 28) rfl))).1
theorem ln58 {M : Mem} (h : Fix M) : mL M 58 = 160 := (h.2.2.1 (58, 21, 160) (List.mem_append_right _ (List.mem_of_getElem? (i := 28) rfl))).2
theorem ok59 {M : Mem} (h : Fix M) : ok M 59 21 := (h.2.2.1 (59, 21, 160) (List.mem_append_right _ (List.mem_of_getElem? (i := 29) rfl))).1
theorem ln59 {M : Mem} (h : Fix M) : mL M 59 = 160 := (h.2.2.1 (59, 21, 160) (List.mem_append_right _ (List.mem_of_getElem? (i := 29) rfl))).2
theorem ok60 {M : Mem} (h : Fix M) : ok M 60 21 := (h.2.2.1 (60, 21, 160) (List.mem_append_right _ (List.mem_of_getElem? (i := 30) rfl))).1
theorem ln60 {M : Mem} (h : Fix M) : mL M 60 = 160 := (h.2.2.1 (60, 21, 160) (List.mem_append_right _ (List.mem_of_getElem? (i := 30) rfl))).2
theorem ok61 {M : Mem} (h : Fix M) : ok M 61 22 := (h.2.2.1 (61, 22, 160) (List.mem_append_right _ (List.mem_of_getElem? (i := 31) rfl))).1
theorem ln61 {M : Mem} (h : Fix M) : mL M 61 = 160 := (h.2.2.1 (61, 22, 160) (List.mem_append_right _ (List.mem_of_getElem? (i := 31) rfl))).2
theorem ok62 {M : Mem} (h : Fix M) : ok M 62 21 := (h.2.2.1 (62, 21, 160) (List.mem_append_right _ (List.mem_of_getElem? (i := 32) rfl))).1
theorem ln62 {M : Mem} (h : Fix M) : mL M 62 = 160 := (h.2.2.1 (62, 21, 160) (List.mem_append_right _ (List.mem_of_getElem? (i := 32) rfl))).2
theorem ok63 {M : Mem} (h : Fix M) : ok M 63 21 := (h.2.2.1 (63, 21, 160) (List.mem_append_right _ (List.mem_of_getElem? (i := 33) rfl))).1
theorem ln63 {M : Mem} (h : Fix M) : mL M 63 = 160 := (h.2.2.1 (63, 21, 160) (List.mem_append_right _ (List.mem_of_getElem? (i := 33) rfl))).2
theorem ok64 {M : Mem} (h : Fix M) : ok M 64 21 := (h.2.2.1 (64, 21, 160) (List.mem_append_right _ (List.mem_of_getElem? (i := 34) rfl))).1
theorem ln64 {M : Mem} (h : Fix M) : mL M 64 = 160 := (h.2.2.1 (64, 21, 160) (List.mem_append_right _ (List.mem_of_getElem? (i := 34) rfl))).2
theorem ok65 {M : Mem} (h : Fix M) : ok M 65 21 := (h.2.2.1 (65, 21, 160) (List.mem_append_right _ (List.mem_of_getElem? (i := 35) rfl))).1
theorem ln65 {M : Mem} (h : Fix M) : mL M 65 = 160 := (h.2.2.1 (65, 21, 160) (List.mem_append_right _ (List.mem_of_getElem? (i := 35) rfl))).2
theorem ok66 {M : Mem} (h : Fix M) : ok M 66 21 := (h.2.2.1 (66, 21, 160) (List.mem_append_right _ (List.mem_of_getElem? (i := 36) rfl))).1
theorem ln66 {M : Mem} (h : Fix M) : mL M 66 = 160 := (h.2.2.1 (66, 21, 160) (List.mem_append_right _ (List.mem_of_getElem? (i := 36) rfl))).2
theorem ok67 {M : Mem} (h : Fix M) : ok M 67 21 := (h.2.2.1 (67, 21, 160) (List.mem_append_right _ (List.mem_of_getElem? (i := 37) rfl))).1
theorem ln67 {M : Mem} (h : Fix M) : mL M 67 = 160 := (h.2.2.1 (67, 21, 160) (List.mem_append_right _ (List.mem_of_getElem? (i := 37) rfl))).2
theorem ok68 {M : Mem} (h : Fix M) : ok M 68 21 := (h.2.2.1 (68, 21, 160) (List.mem_append_right _ (List.mem_of_getElem? (i := 38) rfl))).1
theorem ln68 {M : Mem} (h : Fix M) : mL M 68 = 160 := (h.2.2.1 (68, 21, 160) (List.mem_append_right _ (List.mem_of_getElem? (i := 38) rfl))).2
theorem ok69 {M : Mem} (h : Fix M) : ok M 69 21 := (h.2.2.1 (69, 21, 160) (List.mem_append_right _ (List.mem_of_getElem? (i := 39) rfl))).1
theorem ln69 {M : Mem} (h : Fix M) : mL M 69 = 160 := (h.2.2.1 (69, 21, 160) (List.mem_append_right _ (List.mem_of_getElem? (i := 39) rfl))).2
theorem ok70 {M : Mem} (h : Fix M) : ok M 70 21 := (h.2.2.1 (70, 21, 160) (List.mem_append_right _ (List.mem_of_getElem? (i := 40) rfl))).1
theorem ln70 {M : Mem} (h : Fix M) : mL M 70 = 160 := (h.2.2.1 (70, 21, 160) (List.mem_append_right _ (List.mem_of_getElem? (i := 40) rfl))).2
theorem ok71 {M : Mem} (h : Fix M) : ok M 71 21 := (h.2.2.1 (71, 21, 160) (List.mem_append_right _ (List.mem_of_getElem? (i := 41) rfl))).1
theorem ln71 {M : Mem} (h : Fix M) : mL M 71 = 160 := (h.2.2.1 (71, 21, 160) (List.mem_append_right _ (List.mem_of_getElem? (i := 41) rfl))).2
theorem ok72 {M : Mem} (h : Fix M) : ok M 72 23 := (h.2.2.1 (72, 23, 160) (List.mem_append_right _ (List.mem_of_getElem? (i := 42) rfl))).1
theorem ln72 {M : Mem} (h : Fix M) : mL M 72 = 160 := (h.2.2.1 (72, 23, 160) (List.mem_append_right _ (List.mem_of_getElem? (i := 42) rfl))).2
theorem ok73 {M : Mem} (h : Fix M) : ok M 73 21 := (h.2.2.1 (73, 21, 100) (List.mem_append_right _ (List.mem_of_getElem? (i := 43) rfl))).1
theorem ln73 {M : Mem} (h : Fix M) : mL M 73 = 100 := (h.2.2.1 (73, 21, 100) (List.mem_append_right _ (List.mem_of_getElem? (i := 43) rfl))).2
theorem ok74 {M : Mem} (h : Fix M) : ok M 74 21 := (h.2.2.1 (74, 21, 100) (List.mem_append_right _ (List.mem_of_getElem? (i := 44) rfl))).1
theorem ln74 {M : Mem} (h : Fix M) : mL M 74 = 100 := (h.2.2.1 (74, 21, 100) (List.mem_append_right _ (List.mem_of_getElem? (i := 44) rfl))).2
theorem ok75 {M : Mem} (h : Fix M) : ok M 75 21 := (h.2.2.1 (75, 21, 100) (List.mem_append_right _ (List.mem_of_getElem? (i := 45) rfl))).1
theorem ln75 {M : Mem} (h : Fix M) : mL M 75 = 100 := (h.2.2.1 (75, 21, 100) (List.mem_append_right _ (List.mem_of_getElem? (i := 45) rfl))).2
theorem ok76 {M : Mem} (h : Fix M) : ok M 76 21 := (h.2.2.1 (76, 21, 17) (List.mem_append_right _ (List.mem_of_getElem? (i := 46) rfl))).1
theorem ln76 {M : Mem} (h : Fix M) : mL M 76 = 17 := (h.2.2.1 (76, 21, 17) (List.mem_append_right _ (List.mem_of_getElem? (i := 46) rfl))).2
theorem ok77 {M : Mem} (h : Fix M) : ok M 77 21 := (h.2.2.1 (77, 21, 17) (List.mem_append_right _ (List.mem_of_getElem? (i := 47) rfl))).1
theorem ln77 {M : Mem} (h : Fix M) : mL M 77 = 17 := (h.2.2.1 (77, 21, 17) (List.mem_append_right _ (List.mem_of_getElem? (i := 47) rfl))).2
theorem ok78 {M : Mem} (h : Fix M) : ok M 78 21 := (h.2.2.1 (78, 21, 17) (List.mem_append_right _ (List.mem_of_getElem? (i := 48) rfl))).1
theorem ln78 {M : Mem} (h : Fix M) : mL M 78 = 17 := (h.2.2.1 (78, 21, 17) (List.mem_append_right _ (List.mem_of_getElem? (i := 48) rfl))).2
theorem ok79 {M : Mem} (h : Fix M) : ok M 79 21 := (h.2.2.1 (79, 21, 4) (List.mem_append_right _ (List.mem_of_getElem? (i := 49) rfl))).1
theorem ln79 {M : Mem} (h : Fix M) : mL M 79 = 4 := (h.2.2.1 (79, 21, 4) (List.mem_append_right _ (List.mem_of_getElem? (i := 49) rfl))).2
theorem ok80 {M : Mem} (h : Fix M) : ok M 80 21 := (h.2.2.1 (80, 21, 2800) (List.mem_append_right _ (List.mem_of_getElem? (i := 50) rfl))).1
theorem ln80 {M : Mem} (h : Fix M) : mL M 80 = 2800 := (h.2.2.1 (80, 21, 2800) (List.mem_append_right _ (List.mem_of_getElem? (i := 50) rfl))).2
theorem ok81 {M : Mem} (h : Fix M) : ok M 81 21 := (h.2.2.1 (81, 21, 2800) (List.mem_append_right _ (List.mem_of_getElem? (i := 51) rfl))).1
theorem ln81 {M : Mem} (h : Fix M) : mL M 81 = 2800 := (h.2.2.1 (81, 21, 2800) (List.mem_append_right _ (List.mem_of_getElem? (i := 51) rfl))).2
theorem ok82 {M : Mem} (h : Fix M) : ok M 82 21 := (h.2.2.1 (82, 21, 2800) (List.mem_append_right _ (List.mem_of_getElem? (i := 52) rfl))).1
theorem ln82 {M : Mem} (h : Fix M) : mL M 82 = 2800 := (h.2.2.1 (82, 21, 2800) (List.mem_append_right _ (List.mem_of_getElem? (i := 52) rfl))).2
theorem ok83 {M : Mem} (h : Fix M) : ok M 83 21 := (h.2.2.1 (83, 21, 2800) (List.mem_append_right _ (List.mem_of_getElem? (i := 53) rfl))).1
theorem ln83 {M : Mem} (h : Fix M) : mL M 83 = 2800 := (h.2.2.1 (83, 21, 2800) (List.mem_append_right _ (List.mem_of_getElem? (i := 53) rfl))).2
theorem ok84 {M : Mem} (h : Fix M) : ok M 84 21 := (h.2.2.1 (84, 21, 2800) (List.mem_append_right _ (List.mem_of_getElem? (i := 54) rfl))).1
theorem ln84 {M : Mem} (h : Fix M) : mL M 84 = 2800 := (h.2.2.1 (84, 21, 2800) (List.mem_append_right _ (List.mem_of_getElem? (i := 54) rfl))).2
theorem ok85 {M : Mem} (h : Fix M) : ok M 85 21 := (h.2.2.1 (85, 21, 2800) (List.mem_append_right _ (List.mem_of_getElem? (i := 55) rfl))).1
theorem ln85 {M : Mem} (h : Fix M) : mL M 85 = 2800 := (h.2.2.1 (85, 21, 2800) (List.mem_append_right _ (List.mem_of_getElem? (i := 55) rfl))).2
theorem ok86 {M : Mem} (h : Fix M) : ok M 86 21 := (h.2.2.1 (86, 21, 2800) (List.mem_append_right _ (List.mem_of_getElem? (i := 56) rfl))).1
theorem ln86 {M : Mem} (h : Fix M) : mL M 86 = 2800 := (h.2.2.1 (86, 21, 2800) (List.mem_append_right _ (List.mem_of_getElem? (i := 56) rfl))).2
theorem ok87 {M : Mem} (h : Fix M) : ok M 87 21 := (h.2.2.1 (87, 21, 2800) (List.mem_append_right _ (List.mem_of_getElem? (i := 57) rfl))).1
theorem ln87 {M : Mem} (h : Fix M) : mL M 87 = 2800 := (h.2.2.1 (87, 21, 2800) (List.mem_append_right _ (List.mem_of_getElem? (i := 57) rfl))).2
theorem ok88 {M : Mem} (h : Fix M) : ok M 88 21 := (h.2.2.1 (88, 21, 2800) (List.mem_append_right _ (List.mem_of_getElem? (i := 58) rfl))).1
theorem ln88 {M : Mem} (h : Fix M) : mL M 88 = 2800 := (h.2.2.1 (88, 21, 2800) (List.mem_append_right _ (List.mem_of_getElem? (i := 58) rfl))).2
theorem ok89 {M : Mem} (h : Fix M) : ok M 89 21 := (h.2.2.1 (89, 21, 2800) (List.mem_append_right _ (List.mem_of_getElem? (i := 59) rfl))).1
theorem ln89 {M : Mem} (h : Fix M) : mL M 89 = 2800 := (h.2.2.1 (89, 21, 2800) (List.mem_append_right _ (List.mem_of_getElem? (i := 59) rfl))).2
theorem ok90 {M : Mem} (h : Fix M) : ok M 90 21 := (h.2.2.1 (90, 21, 160) (List.mem_append_right _ (List.mem_of_getElem? (i := 60) rfl))).1
theorem ln90 {M : Mem} (h : Fix M) : mL M 90 = 160 := (h.2.2.1 (90, 21, 160) (List.mem_append_right _ (List.mem_of_getElem? (i := 60) rfl))).2
theorem ok91 {M : Mem} (h : Fix M) : ok M 91 21 := (h.2.2.1 (91, 21, 4) (List.mem_append_right _ (List.mem_of_getElem? (i := 61) rfl))).1
theorem ln91 {M : Mem} (h : Fix M) : mL M 91 = 4 := (h.2.2.1 (91, 21, 4) (List.mem_append_right _ (List.mem_of_getElem? (i := 61) rfl))).2
theorem ok92 {M : Mem} (h : Fix M) : ok M 92 21 := (h.2.2.1 (92, 21, 4) (List.mem_append_right _ (List.mem_of_getElem? (i := 62) rfl))).1
theorem ln92 {M : Mem} (h : Fix M) : mL M 92 = 4 := (h.2.2.1 (92, 21, 4) (List.mem_append_right _ (List.mem_of_getElem? (i := 62) rfl))).2
theorem ok93 {M : Mem} (h : Fix M) : ok M 93 21 := (h.2.2.1 (93, 21, 5600) (List.mem_append_right _ (List.mem_of_getElem? (i := 63) rfl))).1
theorem ln93 {M : Mem} (h : Fix M) : mL M 93 = 5600 := (h.2.2.1 (93, 21, 5600) (List.mem_append_right _ (List.mem_of_getElem? (i := 63) rfl))).2
theorem ok94 {M : Mem} (h : Fix M) : ok M 94 21 := (h.2.2.1 (94, 21, 4) (List.mem_append_right _ (List.mem_of_getElem? (i := 64) rfl))).1
theorem ln94 {M : Mem} (h : Fix M) : mL M 94 = 4 := (h.2.2.1 (94, 21, 4) (List.mem_append_right _ (List.mem_of_getElem? (i := 64) rfl))).2
theorem ok95 {M : Mem} (h : Fix M) : ok M 95 21 := (h.2.2.1 (95, 21, 700) (List.mem_append_right _ (List.mem_of_getElem? (i := 65) rfl))).1
theorem ln95 {M : Mem} (h : Fix M) : mL M 95 = 700 := (h.2.2.1 (95, 21, 700) (List.mem_append_right _ (List.mem_of_getElem? (i := 65) rfl))).2
theorem ok96 {M : Mem} (h : Fix M) : ok M 96 21 := (h.2.2.1 (96, 21, 700) (List.mem_append_right _ (List.mem_of_getElem? (i := 66) rfl))).1
theorem ln96 {M : Mem} (h : Fix M) : mL M 96 = 700 := (h.2.2.1 (96, 21, 700) (List.mem_append_right _ (List.mem_of_getElem? (i := 66) rfl))).2
theorem ok97 {M : Mem} (h : Fix M) : ok M 97 21 := (h.2.2.1 (97, 21, 700) (List.mem_append_right _ (List.mem_of_getElem? (i := 67) rfl))).1
theorem ln97 {M : Mem} (h : Fix M) : mL M 97 = 700 := (h.2.2.1 (97, 21, 700) (List.mem_append_right _ (List.mem_of_getElem? (i := 67) rfl))).2
theorem ok98 {M : Mem} (h : Fix M) : ok M 98 21 := (h.2.2.1 (98, 21, 700) (List.mem_append_right _ (List.mem_of_getElem? (i := 68) rfl))).1
theorem ln98 {M : Mem} (h : Fix M) : mL M 98 = 700 := (h.2.2.1 (98, 21, 700) (List.mem_append_right _ (List.mem_of_getElem? (i := 68) rfl))).2
theorem ok99 {M : Mem} (h : Fix M) : ok M 99 21 := (h.2.2.1 (99, 21, 16800) (List.mem_append_right _ (List.mem_of_getElem? (i := 69) rfl))).1
theorem ln99 {M : Mem} (h : Fix M) : mL M 99 = 16800 := (h.2.2.1 (99, 21, 16800) (List.mem_append_right _ (List.mem_of_getElem? (i := 69) rfl))).2
theorem ok100 {M : Mem} (h : Fix M) : ok M 100 21 := (h.2.2.1 (100, 21, 16) (List.mem_append_right _ (List.mem_of_getElem? (i := 70) rfl))).1
theorem ln100 {M : Mem} (h : Fix M) : mL M 100 = 16 := (h.2.2.1 (100, 21, 16) (List.mem_append_right _ (List.mem_of_getElem? (i := 70) rfl))).2
theorem ok101 {M : Mem} (h : Fix M) : ok M 101 21 := (h.2.2.1 (101, 21, 1640) (List.mem_append_right _ (List.mem_of_getElem? (i := 71) rfl))).1
theorem ln101 {M : Mem} (h : Fix M) : mL M 101 = 1640 := (h.2.2.1 (101, 21, 1640) (List.mem_append_right _ (List.mem_of_getElem? (i := 71) rfl))).2
theorem ok102 {M : Mem} (h : Fix M) : ok M 102 21 := (h.2.2.1 (102, 21, 8) (List.mem_append_right _ (List.mem_of_getElem? (i := 72) rfl))).1
theorem ln102 {M : Mem} (h : Fix M) : mL M 102 = 8 := (h.2.2.1 (102, 21, 8) (List.mem_append_right _ (List.mem_of_getElem? (i := 72) rfl))).2
theorem ok103 {M : Mem} (h : Fix M) : ok M 103 22 := (h.2.2.1 (103, 22, 32) (List.mem_append_right _ (List.mem_of_getElem? (i := 73) rfl))).1
theorem ln103 {M : Mem} (h : Fix M) : mL M 103 = 32 := (h.2.2.1 (103, 22, 32) (List.mem_append_right _ (List.mem_of_getElem? (i := 73) rfl))).2
theorem ok104 {M : Mem} (h : Fix M) : ok M 104 22 := (h.2.2.1 (104, 22, 32) (List.mem_append_right _ (List.mem_of_getElem? (i := 74) rfl))).1
theorem ln104 {M : Mem} (h : Fix M) : mL M 104 = 32 := (h.2.2.1 (104, 22, 32) (List.mem_append_right _ (List.mem_of_getElem? (i := 74) rfl))).2
theorem ok105 {M : Mem} (h : Fix M) : ok M 105 21 := (h.2.2.1 (105, 21, 32) (List.mem_append_right _ (List.mem_of_getElem? (i := 75) rfl))).1
theorem ln105 {M : Mem} (h : Fix M) : mL M 105 = 32 := (h.2.2.1 (105, 21, 32) (List.mem_append_right _ (List.mem_of_getElem? (i := 75) rfl))).2
theorem ok106 {M : Mem} (h : Fix M) : ok M 106 21 := (h.2.2.1 (106, 21, 32) (List.mem_append_right _ (List.mem_of_getElem? (i := 76) rfl))).1
theorem ln106 {M : Mem} (h : Fix M) : mL M 106 = 32 := (h.2.2.1 (106, 21, 32) (List.mem_append_right _ (List.mem_of_getElem? (i := 76) rfl))).2
theorem ok107 {M : Mem} (h : Fix M) : ok M 107 23 := (h.2.2.1 (107, 23, 512) (List.mem_append_right _ (List.mem_of_getElem? (i := 77) rfl))).1
theorem ln107 {M : Mem} (h : Fix M) : mL M 107 = 512 := (h.2.2.1 (107, 23, 512) (List.mem_append_right _ (List.mem_of_getElem? (i := 77) rfl))).2
theorem ok108 {M : Mem} (h : Fix M) : ok M 108 23 := (h.2.2.1 (108, 23, 192) (List.mem_append_right _ (List.mem_of_getElem? (i := 78) rfl))).1
theorem ln108 {M : Mem} (h : Fix M) : mL M 108 = 192 := (h.2.2.1 (108, 23, 192) (List.mem_append_right _ (List.mem_of_getElem? (i := 78) rfl))).2
theorem ok109 {M : Mem} (h : Fix M) : ok M 109 21 := (h.2.2.1 (109, 21, 32) (List.mem_append_right _ (List.mem_of_getElem? (i := 79) rfl))).1
theorem ln109 {M : Mem} (h : Fix M) : mL M 109 = 32 := (h.2.2.1 (109, 21, 32) (List.mem_append_right _ (List.mem_of_getElem? (i := 79) rfl))).2
theorem ok110 {M : Mem} (h : Fix M) : ok M 110 21 := (h.2.2.1 (110, 21, 8) (List.mem_append_right _ (List.mem_of_getElem? (i := 80) rfl))).1
theorem ln110 {M : Mem} (h : Fix M) : mL M 110 = 8 := (h.2.2.1 (110, 21, 8) (List.mem_append_right _ (List.mem_of_getElem? (i := 80) rfl))).2
theorem ok111 {M : Mem} (h : Fix M) : ok M 111 21 := (h.2.2.1 (111, 21, 8) (List.mem_append_right _ (List.mem_of_getElem? (i := 81) rfl))).1
theorem ln111 {M : Mem} (h : Fix M) : mL M 111 = 8 := (h.2.2.1 (111, 21, 8) (List.mem_append_right _ (List.mem_of_getElem? (i := 81) rfl))).2
theorem ok112 {M : Mem} (h : Fix M) : ok M 112 23 := (h.2.2.1 (112, 23, 32) (List.mem_append_right _ (List.mem_of_getElem? (i := 82) rfl))).1
theorem ln112 {M : Mem} (h : Fix M) : mL M 112 = 32 := (h.2.2.1 (112, 23, 32) (List.mem_append_right _ (List.mem_of_getElem? (i := 82) rfl))).2
theorem ok113 {M : Mem} (h : Fix M) : ok M 113 21 := (h.2.2.1 (113, 21, 8) (List.mem_append_right _ (List.mem_of_getElem? (i := 83) rfl))).1
theorem ln113 {M : Mem} (h : Fix M) : mL M 113 = 8 := (h.2.2.1 (113, 21, 8) (List.mem_append_right _ (List.mem_of_getElem? (i := 83) rfl))).2
theorem ok114 {M : Mem} (h : Fix M) : ok M 114 21 := (h.2.2.1 (114, 21, 8) (List.mem_append_right _ (List.mem_of_getElem? (i := 84) rfl))).1
theorem ln114 {M : Mem} (h : Fix M) : mL M 114 = 8 := (h.2.2.1 (114, 21, 8) (List.mem_append_right _ (List.mem_of_getElem? (i := 84) rfl))).2
theorem ok115 {M : Mem} (h : Fix M) : ok M 115 21 := (h.2.2.1 (115, 21, 8) (List.mem_append_right _ (List.mem_of_getElem? (i := 85) rfl))).1
theorem ln115 {M : Mem} (h : Fix M) : mL M 115 = 8 := (h.2.2.1 (115, 21, 8) (List.mem_append_right _ (List.mem_of_getElem? (i := 85) rfl))).2
theorem ok116 {M : Mem} (h : Fix M) : ok M 116 21 := (h.2.2.1 (116, 21, 8) (List.mem_append_right _ (List.mem_of_getElem? (i := 86) rfl))).1
theorem ln116 {M : Mem} (h : Fix M) : mL M 116 = 8 := (h.2.2.1 (116, 21, 8) (List.mem_append_right _ (List.mem_of_getElem? (i := 86) rfl))).2
theorem ok117 {M : Mem} (h : Fix M) : ok M 117 21 := (h.2.2.1 (117, 21, 1600) (List.mem_append_right _ (List.mem_of_getElem? (i := 87) rfl))).1
theorem ln117 {M : Mem} (h : Fix M) : mL M 117 = 1600 := (h.2.2.1 (117, 21, 1600) (List.mem_append_right _ (List.mem_of_getElem? (i := 87) rfl))).2
theorem ok118 {M : Mem} (h : Fix M) : ok M 118 23 := (h.2.2.1 (118, 23, 3240) (List.mem_append_right _ (List.mem_of_getElem? (i := 88) rfl))).1
theorem ln118 {M : Mem} (h : Fix M) : mL M 118 = 3240 := (h.2.2.1 (118, 23, 3240) (List.mem_append_right _ (List.mem_of_getElem? (i := 88) rfl))).2
theorem ok119 {M : Mem} (h : Fix M) : ok M 119 23 := (h.2.2.1 (119, 23, 16) (List.mem_append_right _ (List.mem_of_getElem? (i := 89) rfl))).1
theorem ln119 {M : Mem} (h : Fix M) : mL M 119 = 16 := (h.2.2.1 (119, 23, 16) (List.mem_append_right _ (List.mem_of_getElem? (i := 89) rfl))).2
theorem ok120 {M : Mem} (h : Fix M) : ok M 120 23 := (h.2.2.1 (120, 23, 6) (List.mem_append_right _ (List.mem_of_getElem? (i := 90) rfl))).1
theorem ln120 {M : Mem} (h : Fix M) : mL M 120 = 6 := (h.2.2.1 (120, 23, 6) (List.mem_append_right _ (List.mem_of_getElem? (i := 90) rfl))).2
theorem ok121 {M : Mem} (h : Fix M) : ok M 121 21 := (h.2.2.1 (121, 21, 40) (List.mem_append_right _ (List.mem_of_getElem? (i := 91) rfl))).1
theorem ln121 {M : Mem} (h : Fix M) : mL M 121 = 40 := (h.2.2.1 (121, 21, 40) (List.mem_append_right _ (List.mem_of_getElem? (i := 91) rfl))).2
theorem ok122 {M : Mem} (h : Fix M) : ok M 122 21 := (h.2.2.1 (122, 21, 4) (List.mem_append_right _ (List.mem_of_getElem? (i := 92) rfl))).1
theorem ln122 {M : Mem} (h : Fix M) : mL M 122 = 4 := (h.2.2.1 (122, 21, 4) (List.mem_append_right _ (List.mem_of_getElem? (i := 92) rfl))).2
theorem ok123 {M : Mem} (h : Fix M) : ok M 123 21 := (h.2.2.1 (123, 21, 4) (List.mem_append_right _ (List.mem_of_getElem? (i := 93) rfl))).1
theorem ln123 {M : Mem} (h : Fix M) : mL M 123 = 4 := (h.2.2.1 (123, 21, 4) (List.mem_append_right _ (List.mem_of_getElem? (i := 93) rfl))).2
theorem ok124 {M : Mem} (h : Fix M) : ok M 124 21 := (h.2.2.1 (124, 21, 192) (List.mem_append_right _ (List.mem_of_getElem? (i := 94) rfl))).1
theorem ln124 {M : Mem} (h : Fix M) : mL M 124 = 192 := (h.2.2.1 (124, 21, 192) (List.mem_append_right _ (List.mem_of_getElem? (i := 94) rfl))).2
theorem ok125 {M : Mem} (h : Fix M) : ok M 125 21 := (h.2.2.1 (125, 21, 192) (List.mem_append_right _ (List.mem_of_getElem? (i := 95) rfl))).1
theorem ln125 {M : Mem} (h : Fix M) : mL M 125 = 192 := (h.2.2.1 (125, 21, 192) (List.mem_append_right _ (List.mem_of_getElem? (i := 95) rfl))).2
theorem ok126 {M : Mem} (h : Fix M) : ok M 126 21 := (h.2.2.1 (126, 21, 192) (List.mem_append_right _ (List.mem_of_getElem? (i := 96) rfl))).1
theorem ln126 {M : Mem} (h : Fix M) : mL M 126 = 192 := (h.2.2.1 (126, 21, 192) (List.mem_append_right _ (List.mem_of_getElem? (i := 96) rfl))).2
theorem ok127 {M : Mem} (h : Fix M) : ok M 127 21 := (h.2.2.1 (127, 21, 192) (List.mem_append_right _ (List.mem_of_getElem? (i := 97) rfl))).1
theorem ln127 {M : Mem} (h : Fix M) : mL M 127 = 192 := (h.2.2.1 (127, 21, 192) (List.mem_append_right _ (List.mem_of_getElem? (i := 97) rfl))).2
theorem ok128 {M : Mem} (h : Fix M) : ok M 128 21 := (h.2.2.1 (128, 21, 192) (List.mem_append_right _ (List.mem_of_getElem? (i := 98) rfl))).1
theorem ln128 {M : Mem} (h : Fix M) : mL M 128 = 192 := (h.2.2.1 (128, 21, 192) (List.mem_append_right _ (List.mem_of_getElem? (i := 98) rfl))).2
theorem ok129 {M : Mem} (h : Fix M) : ok M 129 21 := (h.2.2.1 (129, 21, 6144) (List.mem_append_right _ (List.mem_of_getElem? (i := 99) rfl))).1
theorem ln129 {M : Mem} (h : Fix M) : mL M 129 = 6144 := (h.2.2.1 (129, 21, 6144) (List.mem_append_right _ (List.mem_of_getElem? (i := 99) rfl))).2
theorem ok130 {M : Mem} (h : Fix M) : ok M 130 21 := (h.2.2.1 (130, 21, 6144) (List.mem_append_right _ (List.mem_of_getElem? (i := 100) rfl))).1
theorem ln130 {M : Mem} (h : Fix M) : mL M 130 = 6144 := (h.2.2.1 (130, 21, 6144) (List.mem_append_right _ (List.mem_of_getElem? (i := 100) rfl))).2
theorem ok131 {M : Mem} (h : Fix M) : ok M 131 21 := (h.2.2.1 (131, 21, 48) (List.mem_append_right _ (List.mem_of_getElem? (i := 101) rfl))).1
theorem ln131 {M : Mem} (h : Fix M) : mL M 131 = 48 := (h.2.2.1 (131, 21, 48) (List.mem_append_right _ (List.mem_of_getElem? (i := 101) rfl))).2
theorem rf0_0 {M : Mem} (h : Fix M) : mR M 0 0 = some 1 := h.2.2.2.1 (0, 0, 1) (List.mem_append_left _ (List.mem_of_getElem? (i := 0) rfl))
theorem rf0_2 {M : Mem} (h : Fix M) : mR M 0 2 = some 2 := h.2.2.2.1 (0, 2, 2) (List.mem_append_left _ (List.mem_of_getElem? (i := 1) rfl))
theorem rf0_3 {M : Mem} (h : Fix M) : mR M 0 3 = some 3 := h.2.2.2.1 (0, 3, 3) (List.mem_append_left _ (List.mem_of_getElem? (i := 2) rfl))
theorem rf0_4 {M : Mem} (h : Fix M) : mR M 0 4 = some 14 := h.2.2.2.1 (0, 4, 14) (List.mem_append_left _ (List.mem_of_getElem? (i := 3) rfl))
theorem rf0_5 {M : Mem} (h : Fix M) : mR M 0 5 = some 21 := h.2.2.2.1 (0, 5, 21) (List.mem_append_left _ (List.mem_of_getElem? (i := 4) rfl))
theorem rf4_0 {M : Mem} (h : Fix M) : mR M 4 0 = some 5 := h.2.2.2.1 (4, 0, 5) (List.mem_append_left _ (List.mem_of_getElem? (i := 5) rfl))
theorem rf4_1 {M : Mem} (h : Fix M) : mR M 4 1 = some 6 := h.2.2.2.1 (4, 1, 6) (List.mem_append_left _ (List.mem_of_getElem? (i := 6) rfl))
theorem rf4_2 {M : Mem} (h : Fix M) : mR M 4 2 = some 7 := h.2.2.2.1 (4, 2, 7) (List.mem_append_left _ (List.mem_of_getElem? (i := 7) rfl))
theorem rf4_3 {M : Mem} (h : Fix M) : mR M 4 3 = some 8 := h.2.2.2.1 (4, 3, 8) (List.mem_append_left _ (List.mem_of_getElem? (i := 8) rfl))
theorem rf4_4 {M : Mem} (h : Fix M) : mR M 4 4 = some 9 := h.2.2.2.1 (4, 4, 9) (List.mem_append_left _ (List.mem_of_getElem? (i := 9) rfl))
theorem rf4_5 {M : Mem} (h : Fix M) : mR M 4 5 = some 10 := h.2.2.2.1 (4, 5, 10) (List.mem_append_left _ (List.mem_of_getElem? (i := 10) rfl))
theorem rf4_6 {M : Mem} (h : Fix M) : mR M 4 6 = some 11 := h.2.2.2.1 (4, 6, 11) (List.mem_append_left _ (List.mem_of_getElem? (i := 11) rfl))
theorem rf4_7 {M : Mem} (h : Fix M) : mR M 4 7 = some 12 := h.2.2.2.1 (4, 7, 12) (List.mem_append_left _ (List.mem_of_getElem? (i := 12) rfl))
theorem rf4_8 {M : Mem} (h : Fix M) : mR M 4 8 = some 13 := h.2.2.2.1 (4, 8, 13) (List.mem_append_left _ (List.mem_of_getElem? (i := 13) rfl))
theorem rf14_0 {M : Mem} (h : Fix M) : mR M 14 0 = some 15 := h.2.2.2.1 (14, 0, 15) (List.mem_append_left _ (List.mem_of_getElem? (i := 14) rfl))
theorem rf14_1 {M : Mem} (h : Fix M) : mR M 14 1 = some 4 := h.2.2.2.1 (14, 1, 4) (List.mem_append_left _ (List.mem_of_getElem? (i := 15) rfl))
theorem rf14_2 {M : Mem} (h : Fix M) : mR M 14 2 = some 20 := h.2.2.2.1 (14, 2, 20) (List.mem_append_left _ (List.mem_of_getElem? (i := 16) rfl))
theorem rf15_0 {M : Mem} (h : Fix M) : mR M 15 0 = some 1 := h.2.2.2.1 (15, 0, 1) (List.mem_append_left _ (List.mem_of_getElem? (i := 17) rfl))
theorem rf15_4 {M : Mem} (h : Fix M) : mR M 15 4 = some 16 := h.2.2.2.1 (15, 4, 16) (List.mem_append_left _ (List.mem_of_getElem? (i := 18) rfl))
theorem rf15_5 {M : Mem} (h : Fix M) : mR M 15 5 = some 17 := h.2.2.2.1 (15, 5, 17) (List.mem_append_left _ (List.mem_of_getElem? (i := 19) rfl))
theorem rf15_6 {M : Mem} (h : Fix M) : mR M 15 6 = some 18 := h.2.2.2.1 (15, 6, 18) (List.mem_append_left _ (List.mem_of_getElem? (i := 20) rfl))
theorem rf15_1 {M : Mem} (h : Fix M) : mR M 15 1 = some 19 := h.2.2.2.1 (15, 1, 19) (List.mem_append_left _ (List.mem_of_getElem? (i := 21) rfl))
theorem rf21_0 {M : Mem} (h : Fix M) : mR M 21 0 = some 4 := h.2.2.2.1 (21, 0, 4) (List.mem_append_left _ (List.mem_of_getElem? (i := 22) rfl))
theorem rf21_1 {M : Mem} (h : Fix M) : mR M 21 1 = some 22 := h.2.2.2.1 (21, 1, 22) (List.mem_append_left _ (List.mem_of_getElem? (i := 23) rfl))
theorem rf21_2 {M : Mem} (h : Fix M) : mR M 21 2 = some 23 := h.2.2.2.1 (21, 2, 23) (List.mem_append_left _ (List.mem_of_getElem? (i := 24) rfl))
theorem rf21_3 {M : Mem} (h : Fix M) : mR M 21 3 = some 24 := h.2.2.2.1 (21, 3, 24) (List.mem_append_left _ (List.mem_of_getElem? (i := 25) rfl))
theorem rf21_4 {M : Mem} (h : Fix M) : mR M 21 4 = some 25 := h.2.2.2.1 (21, 4, 25) (List.mem_append_left _ (List.mem_of_getElem? (i := 26) rfl))
theorem rf21_5 {M : Mem} (h : Fix M) : mR M 21 5 = some 26 := h.2.2.2.1 (21, 5, 26) (List.mem_append_left _ (List.mem_of_getElem? (i := 27) rfl))
theorem rf21_6 {M : Mem} (h : Fix M) : mR M 21 6 = some 27 := h.2.2.2.1 (21, 6, 27) (List.mem_append_left _ (List.mem_of_getElem? (i := 28) rfl))
theorem rf21_7 {M : Mem} (h : Fix M) : mR M 21 7 = some 28 := h.2.2.2.1 (21, 7, 28) (List.mem_append_left _ (List.mem_of_getElem? (i := 29) rfl))
theorem rf29_0 {M : Mem} (h : Fix M) : mR M 29 0 = some 30 := h.2.2.2.1 (29, 0, 30) (List.mem_append_right _ (List.mem_of_getElem? (i := 0) rfl))
theorem rf29_2 {M : Mem} (h : Fix M) : mR M 29 2 = some 31 := h.2.2.2.1 (29, 2, 31) (List.mem_append_right _ (List.mem_of_getElem? (i := 1) rfl))
theorem rf29_3 {M : Mem} (h : Fix M) : mR M 29 3 = some 32 := h.2.2.2.1 (29, 3, 32) (List.mem_append_right _ (List.mem_of_getElem? (i := 2) rfl))
theorem rf29_4 {M : Mem} (h : Fix M) : mR M 29 4 = some 33 := h.2.2.2.1 (29, 4, 33) (List.mem_append_right _ (List.mem_of_getElem? (i := 3) rfl))
theorem rf29_8 {M : Mem} (h : Fix M) : mR M 29 8 = some 34 := h.2.2.2.1 (29, 8, 34) (List.mem_append_right _ (List.mem_of_getElem? (i := 4) rfl))
theorem rf29_9 {M : Mem} (h : Fix M) : mR M 29 9 = some 35 := h.2.2.2.1 (29, 9, 35) (List.mem_append_right _ (List.mem_of_getElem? (i := 5) rfl))
theorem rf29_10 {M : Mem} (h : Fix M) : mR M 29 10 = some 36 := h.2.2.2.1 (29, 10, 36) (List.mem_append_right _ (List.mem_of_getElem? (i := 6) rfl))
theorem rf29_11 {M : Mem} (h : Fix M) : mR M 29 11 = some 37 := h.2.2.2.1 (29, 11, 37) (List.mem_append_right _ (List.mem_of_getElem? (i := 7) rfl))
theorem rf29_12 {M : Mem} (h : Fix M) : mR M 29 12 = some 38 := h.2.2.2.1 (29, 12, 38) (List.mem_append_right _ (List.mem_of_getElem? (i := 8) rfl))
theorem rf29_13 {M : Mem} (h : Fix M) : mR M 29 13 = some 39 := h.2.2.2.1 (29, 13, 39) (List.mem_append_right _ (List.mem_of_getElem? (i := 9) rfl))
theorem rf29_14 {M : Mem} (h : Fix M) : mR M 29 14 = some 40 := h.2.2.2.1 (29, 14, 40) (List.mem_append_right _ (List.mem_of_getElem? (i := 10) rfl))
theorem rf29_15 {M : Mem} (h : Fix M) : mR M 29 15 = some 41 := h.2.2.2.1 (29, 15, 41) (List.mem_append_right _ (List.mem_of_getElem? (i := 11) rfl))
theorem rf29_16 {M : Mem} (h : Fix M) : mR M 29 16 = some 42 := h.2.2.2.1 (29, 16, 42) (List.mem_append_right _ (List.mem_of_getElem? (i := 12) rfl))
theorem rf29_17 {M : Mem} (h : Fix M) : mR M 29 17 = some 43 := h.2.2.2.1 (29, 17, 43) (List.mem_append_right _ (List.mem_of_getElem? (i := 13) rfl))
theorem rf29_20 {M : Mem} (h : Fix M) : mR M 29 20 = some 44 := h.2.2.2.1 (29, 20, 44) (List.mem_append_right _ (List.mem_of_getElem? (i := 14) rfl))
theorem rf29_21 {M : Mem} (h : Fix M) : mR M 29 21 = some 45 := h.2.2.2.1 (29, 21, 45) (List.mem_append_right _ (List.mem_of_getElem? (i := 15) rfl))
theorem rf29_22 {M : Mem} (h : Fix M) : mR M 29 22 = some 46 := h.2.2.2.1 (29, 22, 46) (List.mem_append_right _ (List.mem_of_getElem? (i := 16) rfl))
theorem rf29_23 {M : Mem} (h : Fix M) : mR M 29 23 = some 47 := h.2.2.2.1 (29, 23, 47) (List.mem_append_right _ (List.mem_of_getElem? (i := 17) rfl))
theorem rf29_24 {M : Mem} (h : Fix M) : mR M 29 24 = some 48 := h.2.2.2.1 (29, 24, 48) (List.mem_append_right _ (List.mem_of_getElem? (i := 18) rfl))
theorem rf29_25 {M : Mem} (h : Fix M) : mR M 29 25 = some 49 := h.2.2.2.1 (29, 25, 49) (List.mem_append_right _ (List.mem_of_getElem? (i := 19) rfl))
theorem rf29_26 {M : Mem} (h : Fix M) : mR M 29 26 = some 50 := h.2.2.2.1 (29, 26, 50) (List.mem_append_right _ (List.mem_of_getElem? (i := 20) rfl))
theorem rf29_27 {M : Mem} (h : Fix M) : mR M 29 27 = some 51 := h.2.2.2.1 (29, 27, 51) (List.mem_append_right _ (List.mem_of_getElem? (i := 21) rfl))
theorem rf29_28 {M : Mem} (h : Fix M) : mR M 29 28 = some 52 := h.2.2.2.1 (29, 28, 52) (List.mem_append_right _ (List.mem_of_getElem? (i := 22) rfl))
theorem rf29_30 {M : Mem} (h : Fix M) : mR M 29 30 = some 53 := h.2.2.2.1 (29, 30, 53) (List.mem_append_right _ (List.mem_of_getElem? (i := 23) rfl))
theorem rf29_34 {M : Mem} (h : Fix M) : mR M 29 34 = some 54 := h.2.2.2.1 (29, 34, 54) (List.mem_append_right _ (List.mem_of_getElem? (i := 24) rfl))
theorem rf29_35 {M : Mem} (h : Fix M) : mR M 29 35 = some 55 := h.2.2.2.1 (29, 35, 55) (List.mem_append_right _ (List.mem_of_getElem? (i := 25) rfl))
theorem rf29_36 {M : Mem} (h : Fix M) : mR M 29 36 = some 56 := h.2.2.2.1 (29, 36, 56) (List.mem_append_right _ (List.mem_of_getElem? (i := 26) rfl))
theorem rf29_37 {M : Mem} (h : Fix M) : mR M 29 37 = some 57 := h.2.2.2.1 (29, 37, 57) (List.mem_append_right _ (List.mem_of_getElem? (i := 27) rfl))
theorem rf29_38 {M : Mem} (h : Fix M) : mR M 29 38 = some 58 := h.2.2.2.1 (29, 38, 58) (List.mem_append_right _ (List.mem_of_getElem? (i := 28) rfl))
theorem rf29_39 {M : Mem} (h : Fix M) : mR M 29 39 = some 59 := h.2.2.2.1 (29, 39, 59) (List.mem_append_right _ (List.mem_of_getElem? (i := 29) rfl))
theorem rf29_40 {M : Mem} (h : Fix M) : mR M 29 40 = some 60 := h.2.2.2.1 (29, 40, 60) (List.mem_append_right _ (List.mem_of_getElem? (i := 30) rfl))
theorem rf29_41 {M : Mem} (h : Fix M) : mR M 29 41 = some 61 := h.2.2.2.1 (29, 41, 61) (List.mem_append_right _ (List.mem_of_getElem? (i := 31) rfl))
theorem rf29_42 {M : Mem} (h : Fix M) : mR M 29 42 = some 62 := h.2.2.2.1 (29, 42, 62) (List.mem_append_right _ (List.mem_of_getElem? (i := 32) rfl))
theorem rf29_43 {M : Mem} (h : Fix M) : mR M 29 43 = some 63 := h.2.2.2.1 (29, 43, 63) (List.mem_append_right _ (List.mem_of_getElem? (i := 33) rfl))
theorem rf29_44 {M : Mem} (h : Fix M) : mR M 29 44 = some 64 := h.2.2.2.1 (29, 44, 64) (List.mem_append_right _ (List.mem_of_getElem? (i := 34) rfl))
theorem rf29_45 {M : Mem} (h : Fix M) : mR M 29 45 = some 65 := h.2.2.2.1 (29, 45, 65) (List.mem_append_right _ (List.mem_of_getElem? (i := 35) rfl))
theorem rf29_46 {M : Mem} (h : Fix M) : mR M 29 46 = some 66 := h.2.2.2.1 (29, 46, 66) (List.mem_append_right _ (List.mem_of_getElem? (i := 36) rfl))
theorem rf29_47 {M : Mem} (h : Fix M) : mR M 29 47 = some 67 := h.2.2.2.1 (29, 47, 67) (List.mem_append_right _ (List.mem_of_getElem? (i := 37) rfl))
theorem rf29_48 {M : Mem} (h : Fix M) : mR M 29 48 = some 68 := h.2.2.2.1 (29, 48, 68) (List.mem_append_right _ (List.mem_of_getElem? (i := 38) rfl))
theorem rf29_49 {M : Mem} (h : Fix M) : mR M 29 49 = some 69 := h.2.2.2.1 (29, 49, 69) (List.mem_append_right _ (List.mem_of_getElem? (i := 39) rfl))
theorem rf29_50 {M : Mem} (h : Fix M) : mR M 29 50 = some 70 := h.2.2.2.1 (29, 50, 70) (List.mem_append_right _ (List.mem_of_getElem? (i := 40) rfl))
theorem rf29_51 {M : Mem} (h : Fix M) : mR M 29 51 = some 71 := h.2.2.2.1 (29, 51, 71) (List.mem_append_right _ (List.mem_of_getElem? (i := 41) rfl))
theorem rf29_52 {M : Mem} (h : Fix M) : mR M 29 52 = some 72 := h.2.2.2.1 (29, 52, 72) (List.mem_append_right _ (List.mem_of_getElem? (i := 42) rfl))
theorem rf29_54 {M : Mem} (h : Fix M) : mR M 29 54 = some 73 := h.2.2.2.1 (29, 54, 73) (List.mem_append_right _ (List.mem_of_getElem? (i := 43) rfl))
theorem rf29_55 {M : Mem} (h : Fix M) : mR M 29 55 = some 74 := h.2.2.2.1 (29, 55, 74) (List.mem_append_right _ (List.mem_of_getElem? (i := 44) rfl))
theorem rf29_56 {M : Mem} (h : Fix M) : mR M 29 56 = some 75 := h.2.2.2.1 (29, 56, 75) (List.mem_append_right _ (List.mem_of_getElem? (i := 45) rfl))
theorem rf29_57 {M : Mem} (h : Fix M) : mR M 29 57 = some 76 := h.2.2.2.1 (29, 57, 76) (List.mem_append_right _ (List.mem_of_getElem? (i := 46) rfl))
theorem rf29_58 {M : Mem} (h : Fix M) : mR M 29 58 = some 77 := h.2.2.2.1 (29, 58, 77) (List.mem_append_right _ (List.mem_of_getElem? (i := 47) rfl))
theorem rf29_59 {M : Mem} (h : Fix M) : mR M 29 59 = some 78 := h.2.2.2.1 (29, 59, 78) (List.mem_append_right _ (List.mem_of_getElem? (i := 48) rfl))
theorem rf29_61 {M : Mem} (h : Fix M) : mR M 29 61 = some 79 := h.2.2.2.1 (29, 61, 79) (List.mem_append_right _ (List.mem_of_getElem? (i := 49) rfl))
theorem rf29_62 {M : Mem} (h : Fix M) : mR M 29 62 = some 80 := h.2.2.2.1 (29, 62, 80) (List.mem_append_right _ (List.mem_of_getElem? (i := 50) rfl))
theorem rf29_63 {M : Mem} (h : Fix M) : mR M 29 63 = some 81 := h.2.2.2.1 (29, 63, 81) (List.mem_append_right _ (List.mem_of_getElem? (i := 51) rfl))
theorem rf29_64 {M : Mem} (h : Fix M) : mR M 29 64 = some 82 := h.2.2.2.1 (29, 64, 82) (List.mem_append_right _ (List.mem_of_getElem? (i := 52) rfl))
theorem rf29_65 {M : Mem} (h : Fix M) : mR M 29 65 = some 83 := h.2.2.2.1 (29, 65, 83) (List.mem_append_right _ (List.mem_of_getElem? (i := 53) rfl))
theorem rf29_66 {M : Mem} (h : Fix M) : mR M 29 66 = some 84 := h.2.2.2.1 (29, 66, 84) (List.mem_append_right _ (List.mem_of_getElem? (i := 54) rfl))
theorem rf29_67 {M : Mem} (h : Fix M) : mR M 29 67 = some 85 := h.2.2.2.1 (29, 67, 85) (List.mem_append_right _ (List.mem_of_getElem? (i := 55) rfl))
theorem rf29_68 {M : Mem} (h : Fix M) : mR M 29 68 = some 86 := h.2.2.2.1 (29, 68, 86) (List.mem_append_right _ (List.mem_of_getElem? (i := 56) rfl))
theorem rf29_69 {M : Mem} (h : Fix M) : mR M 29 69 = some 87 := h.2.2.2.1 (29, 69, 87) (List.mem_append_right _ (List.mem_of_getElem? (i := 57) rfl))
theorem rf29_70 {M : Mem} (h : Fix M) : mR M 29 70 = some 88 := h.2.2.2.1 (29, 70, 88) (List.mem_append_right _ (List.mem_of_getElem? (i := 58) rfl))
theorem rf29_71 {M : Mem} (h : Fix M) : mR M 29 71 = some 89 := h.2.2.2.1 (29, 71, 89) (List.mem_append_right _ (List.mem_of_getElem? (i := 59) rfl))
theorem rf29_72 {M : Mem} (h : Fix M) : mR M 29 72 = some 90 := h.2.2.2.1 (29, 72, 90) (List.mem_append_right _ (List.mem_of_getElem? (i := 60) rfl))
theorem rf29_73 {M : Mem} (h : Fix M) : mR M 29 73 = some 91 := h.2.2.2.1 (29, 73, 91) (List.mem_append_right _ (List.mem_of_getElem? (i := 61) rfl))
theorem rf29_74 {M : Mem} (h : Fix M) : mR M 29 74 = some 92 := h.2.2.2.1 (29, 74, 92) (List.mem_append_right _ (List.mem_of_getElem? (i := 62) rfl))
theorem rf29_75 {M : Mem} (h : Fix M) : mR M 29 75 = some 93 := h.2.2.2.1 (29, 75, 93) (List.mem_append_right _ (List.mem_of_getElem? (i := 63) rfl))
theorem rf29_76 {M : Mem} (h : Fix M) : mR M 29 76 = some 94 := h.2.2.2.1 (29, 76, 94) (List.mem_append_right _ (List.mem_of_getElem? (i := 64) rfl))
theorem rf29_77 {M : Mem} (h : Fix M) : mR M 29 77 = some 95 := h.2.2.2.1 (29, 77, 95) (List.mem_append_right _ (List.mem_of_getElem? (i := 65) rfl))
theorem rf29_78 {M : Mem} (h : Fix M) : mR M 29 78 = some 96 := h.2.2.2.1 (29, 78, 96) (List.mem_append_right _ (List.mem_of_getElem? (i := 66) rfl))
theorem rf29_79 {M : Mem} (h : Fix M) : mR M 29 79 = some 97 := h.2.2.2.1 (29, 79, 97) (List.mem_append_right _ (List.mem_of_getElem? (i := 67) rfl))
theorem rf29_80 {M : Mem} (h : Fix M) : mR M 29 80 = some 98 := h.2.2.2.1 (29, 80, 98) (List.mem_append_right _ (List.mem_of_getElem? (i := 68) rfl))
theorem rf29_81 {M : Mem} (h : Fix M) : mR M 29 81 = some 99 := h.2.2.2.1 (29, 81, 99) (List.mem_append_right _ (List.mem_of_getElem? (i := 69) rfl))
theorem rf29_82 {M : Mem} (h : Fix M) : mR M 29 82 = some 100 := h.2.2.2.1 (29, 82, 100) (List.mem_append_right _ (List.mem_of_getElem? (i := 70) rfl))
theorem rf29_90 {M : Mem} (h : Fix M) : mR M 29 90 = some 101 := h.2.2.2.1 (29, 90, 101) (List.mem_append_right _ (List.mem_of_getElem? (i := 71) rfl))
theorem rf29_92 {M : Mem} (h : Fix M) : mR M 29 92 = some 102 := h.2.2.2.1 (29, 92, 102) (List.mem_append_right _ (List.mem_of_getElem? (i := 72) rfl))
theorem rf29_93 {M : Mem} (h : Fix M) : mR M 29 93 = some 103 := h.2.2.2.1 (29, 93, 103) (List.mem_append_right _ (List.mem_of_getElem? (i := 73) rfl))
theorem rf29_94 {M : Mem} (h : Fix M) : mR M 29 94 = some 104 := h.2.2.2.1 (29, 94, 104) (List.mem_append_right _ (List.mem_of_getElem? (i := 74) rfl))
theorem rf29_95 {M : Mem} (h : Fix M) : mR M 29 95 = some 105 := h.2.2.2.1 (29, 95, 105) (List.mem_append_right _ (List.mem_of_getElem? (i := 75) rfl))
theorem rf29_96 {M : Mem} (h : Fix M) : mR M 29 96 = some 106 := h.2.2.2.1 (29, 96, 106) (List.mem_append_right _ (List.mem_of_getElem? (i := 76) rfl))
theorem rf29_97 {M : Mem} (h : Fix M) : mR M 29 97 = some 107 := h.2.2.2.1 (29, 97, 107) (List.mem_append_right _ (List.mem_of_getElem? (i := 77) rfl))
theorem rf29_98 {M : Mem} (h : Fix M) : mR M 29 98 = some 108 := h.2.2.2.1 (29, 98, 108) (List.mem_append_right _ (List.mem_of_getElem? (i := 78) rfl))
theorem rf29_99 {M : Mem} (h : Fix M) : mR M 29 99 = some 109 := h.2.2.2.1 (29, 99, 109) (List.mem_append_right _ (List.mem_of_getElem? (i := 79) rfl))
theorem rf29_100 {M : Mem} (h : Fix M) : mR M 29 100 = some 110 := h.2.2.2.1 (29, 100, 110) (List.mem_append_right _ (List.mem_of_getElem? (i := 80) rfl))
theorem rf29_101 {M : Mem} (h : Fix M) : mR M 29 101 = some 111 := h.2.2.2.1 (29, 101, 111) (List.mem_append_right _ (List.mem_of_getElem? (i := 81) rfl))
theorem rf29_102 {M : Mem} (h : Fix M) : mR M 29 102 = some 112 := h.2.2.2.1 (29, 102, 112) (List.mem_append_right _ (List.mem_of_getElem? (i := 82) rfl))
theorem rf29_103 {M : Mem} (h : Fix M) : mR M 29 103 = some 113 := h.2.2.2.1 (29, 103, 113) (List.mem_append_right _ (List.mem_of_getElem? (i := 83) rfl))
theorem rf29_104 {M : Mem} (h : Fix M) : mR M 29 104 = some 114 := h.2.2.2.1 (29, 104, 114) (List.mem_append_right _ (List.mem_of_getElem? (i := 84) rfl))
theorem rf29_105 {M : Mem} (h : Fix M) : mR M 29 105 = some 115 := h.2.2.2.1 (29, 105, 115) (List.mem_append_right _ (List.mem_of_getElem? (i := 85) rfl))
theorem rf29_106 {M : Mem} (h : Fix M) : mR M 29 106 = some 116 := h.2.2.2.1 (29, 106, 116) (List.mem_append_right _ (List.mem_of_getElem? (i := 86) rfl))
theorem rf29_107 {M : Mem} (h : Fix M) : mR M 29 107 = some 117 := h.2.2.2.1 (29, 107, 117) (List.mem_append_right _ (List.mem_of_getElem? (i := 87) rfl))
theorem rf29_108 {M : Mem} (h : Fix M) : mR M 29 108 = some 118 := h.2.2.2.1 (29, 108, 118) (List.mem_append_right _ (List.mem_of_getElem? (i := 88) rfl))
theorem rf29_109 {M : Mem} (h : Fix M) : mR M 29 109 = some 119 := h.2.2.2.1 (29, 109, 119) (List.mem_append_right _ (List.mem_of_getElem? (i := 89) rfl))
theorem rf29_110 {M : Mem} (h : Fix M) : mR M 29 110 = some 120 := h.2.2.2.1 (29, 110, 120) (List.mem_append_right _ (List.mem_of_getElem? (i := 90) rfl))
theorem rf29_112 {M : Mem} (h : Fix M) : mR M 29 112 = some 121 := h.2.2.2.1 (29, 112, 121) (List.mem_append_right _ (List.mem_of_getElem? (i := 91) rfl))
theorem rf29_114 {M : Mem} (h : Fix M) : mR M 29 114 = some 122 := h.2.2.2.1 (29, 114, 122) (List.mem_append_right _ (List.mem_of_getElem? (i := 92) rfl))
theorem rf29_115 {M : Mem} (h : Fix M) : mR M 29 115 = some 123 := h.2.2.2.1 (29, 115, 123) (List.mem_append_right _ (List.mem_of_getElem? (i := 93) rfl))
theorem rf29_116 {M : Mem} (h : Fix M) : mR M 29 116 = some 124 := h.2.2.2.1 (29, 116, 124) (List.mem_append_right _ (List.mem_of_getElem? (i := 94) rfl))
theorem rf29_117 {M : Mem} (h : Fix M) : mR M 29 117 = some 125 := h.2.2.2.1 (29, 117, 125) (List.mem_append_right _ (List.mem_of_getElem? (i := 95) rfl))
theorem rf29_118 {M : Mem} (h : Fix M) : mR M 29 118 = some 126 := h.2.2.2.1 (29, 118, 126) (List.mem_append_right _ (List.mem_of_getElem? (i := 96) rfl))
theorem rf29_119 {M : Mem} (h : Fix M) : mR M 29 119 = some 127 := h.2.2.2.1 (29, 119, 127) (List.mem_append_right _ (List.mem_of_getElem? (i := 97) rfl))
theorem rf29_120 {M : Mem} (h : Fix M) : mR M 29 120 = some 128 := h.2.2.2.1 (29, 120, 128) (List.mem_append_right _ (List.mem_of_getElem? (i := 98) rfl))
theorem rf29_121 {M : Mem} (h : Fix M) : mR M 29 121 = some 129 := h.2.2.2.1 (29, 121, 129) (List.mem_append_right _ (List.mem_of_getElem? (i := 99) rfl))
theorem rf29_122 {M : Mem} (h : Fix M) : mR M 29 122 = some 130 := h.2.2.2.1 (29, 122, 130) (List.mem_append_right _ (List.mem_of_getElem? (i := 100) rfl))
theorem rf29_125 {M : Mem} (h : Fix M) : mR M 29 125 = some 131 := h.2.2.2.1 (29, 125, 131) (List.mem_append_right _ (List.mem_of_getElem? (i := 101) rfl))
/-! the start: both constructors from nothing -/
theorem lModel_len : lModel.length = 102 := rfl
theorem tS_eq : tS = (List.range 102).map (fun j => (29, (lModel.getD j (0, 0, 0)).1, 30 + j)) := by decide +kernel
theorem tB_eq : tB = (List.range 102).map (fun j => (30 + j, (lModel.getD j (0, 0, 0)).2.1, (lModel.getD j (0, 0, 0)).2.2)) := by decide +kernel

