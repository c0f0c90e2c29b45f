/-! the start: what the Statement says of it gives the classes, the arrays, what lies beside the memory -/
theorem ins_all : ∀ ci, ci < 14 → Cond.instantiable (cls ci).1 (cls ci).2.2 ∈ TB := by
  intro ci hci
  rcases (show ci = 0 ∨ ci = 1 ∨ ci = 2 ∨ ci = 3 ∨ ci = 4 ∨ ci = 5 ∨ ci = 6 ∨ ci = 7 ∨ ci = 8 ∨ ci = 9 ∨ ci = 10 ∨ ci = 11 ∨ ci = 12 ∨ ci = 13 by omega) with rfl | rfl | rfl | rfl | rfl | rfl | rfl | rfl | rfl | rfl | rfl | rfl | rfl | rfl
  · exact tbL tbk_5 123 (by decide +kernel) rfl
  · exact tbL tbk_1 38 (by decide +kernel) rfl
  · exact tbL tbk_2 110 (by decide +kernel) rfl
  · exact tbL tbk_2 102 (by decide +kernel) rfl
  · exact tbL tbk_6 34 (by decide +kernel) rfl
  · exact tbL tbk_4 22 (by decide +kernel) rfl
  · exact tbL tbk_1 114 (by decide +kernel) rfl
  · exact tbL tbk_7 62 (by decide +kernel) rfl
  · exact tbL tbk_2 200 (by decide +kernel) rfl
  · exact tbL tbk_1 120 (by decide +kernel) rfl
  · exact tbL tbk_1 65 (by decide +kernel) rfl
  · exact tbL tbk_2 16 (by decide +kernel) rfl
  · exact tbL tbk_1 30 (by decide +kernel) rfl
  · exact tbL tbk_7 214 (by decide +kernel) rfl
theorem clk_all : ∀ ci, ci < 14 → clOK ci := by
  intro ci hci
  rcases (show ci = 0 ∨ ci = 1 ∨ ci = 2 ∨ ci = 3 ∨ ci = 4 ∨ ci = 5 ∨ ci = 6 ∨ ci = 7 ∨ ci = 8 ∨ ci = 9 ∨ ci = 10 ∨ ci = 11 ∨ ci = 12 ∨ ci = 13 by omega) with rfl | rfl | rfl | rfl | rfl | rfl | rfl | rfl | rfl | rfl | rfl | rfl | rfl | rfl
  · exact clk_0
  · exact clk_1
  · exact clk_2
  · exact clk_3
  · exact clk_4
  · exact clk_5
  · exact clk_6
  · exact clk_7
  · exact clk_8
  · exact clk_9
  · exact clk_10
  · exact clk_11
  · exact clk_12
  · exact clk_13
theorem arr_of {s : State} {args : Array Value} {ty : FieldType} (hn : ∀ C, ty ≠ .object C) (h : (Cond.arrayClass ty).before args s = true) : ∃ cA : ClassId, ArrOfT s cA ty ∧ va_RA s cA ty := by
  obtain ⟨c, k, comp, h1, h2, h3⟩ := Cond.arrayClass_spec h
  refine ⟨c, fun n z => ⟨fun k2 h9 => (by cases h9), k, h2, comp, h3⟩, ?_⟩
  cases ty with
  | object C => exact absurd rfl (hn C)
  | _ => exact h1
theorem K_of {s : State} {args : Array Value} (hts : ∀ w ∈ lw_tbl, w.before args s = true) : ∃ (D : va_G) (cy : Nat → ClassId), va_K D vwCl (mT cy) s := by
  have hTB : ∀ w ∈ TB, w.before args s = true := fun w h => hts w (List.mem_filter.mp h).1
  have hlw : ∀ w ∈ tables_1, w.before args s = true := fun w h => hts w (List.mem_append_right _ h)
  have h0 : ∀ ci : Nat, ∃ q : ClassId × (Nat → Nat), ci < 14 → u_Kn s (cls ci).1 (cls ci).2.1 (cls ci).2.2 q.1 q.2 := by
    intro ci
    by_cases hci : ci < 14
    · obtain ⟨cC, iS, hk⟩ := u_known (C := (cls ci).1) (T := (cls ci).2.1) (N := (cls ci).2.2) hTB (clk_all ci hci).2.2.2 (hTB _ (ins_all ci hci))
      exact ⟨(cC, iS), fun _ => hk⟩
    · exact ⟨(0, fun _ => 0), fun z => absurd z hci⟩
  obtain ⟨aB, aB1⟩ := arr_of (s := s) (args := args) (ty := .byte) (fun C q => by cases q) (hTB _ ac_B)
  obtain ⟨aI, aI1⟩ := arr_of (s := s) (args := args) (ty := .int) (fun C q => by cases q) (hTB _ ac_I)
  obtain ⟨aZ, aZ1⟩ := arr_of (s := s) (args := args) (ty := .boolean) (fun C q => by cases q) (hTB _ ac_Z)
  obtain ⟨aJ, aJ1⟩ := arr_of (s := s) (args := args) (ty := .long) (fun C q => by cases q) (hTB _ ac_J)
  have hO : ∃ cA : ClassId, ArrOfT s cA (.object "java/lang/Object") ∧ va_RA s cA (.object "java/lang/Object") := by
    obtain ⟨comp, c, k, h1, h2, h3, h4, h5⟩ := Cond.arrayOver_spec (args := args) (first := s) (o := none) (s := s) (idx := []) (n := "java/lang/Object") (hlw _ (tbk_4 _ (List.mem_of_getElem? (i := 129) (by decide +kernel))))
    exact ⟨c, fun n z => ⟨fun k2 h9 => (by cases h9), k, h3, comp, h4⟩, k, comp, h3, h4, h1, h5⟩
  have hG : ∃ cA : ClassId, ArrOfT s cA (.array .int) ∧ va_RA s cA (.array .int) := by
    have h : (Cond.arrayOver (.array .int)).before args s = true := hlw _ (tbk_6 _ (List.mem_of_getElem? (i := 40) (by decide +kernel)))
    simp only [Cond.before, Cond.holds, Cond.value, beq_iff_eq, Option.bind_eq_some_iff, Option.map_eq_some_iff] at h
    obtain ⟨comp, hcomp, c, hi, k, hk, hb⟩ := h
    cases hkind : k.kind with
    | array component ty =>
      rw [hkind] at hb
      simp at hb
      obtain ⟨rfl, h2⟩ := hb
      exact ⟨c, fun n z => ⟨fun k2 h9 => (by cases h9), k, hk, component, hkind⟩, h2⟩
    | _ => rw [hkind] at hb; simp at hb
  obtain ⟨aO, aO1⟩ := hO
  obtain ⟨aG, aG1⟩ := hG
  refine ⟨(fun ci => (Classical.choose (h0 ci)).1, fun ci => (Classical.choose (h0 ci)).2), fun k => if k = 20 then aB else if k = 21 then aI else if k = 22 then aZ else if k = 23 then aJ else if k = 24 then aO else aG, ?_, ?_⟩
  · intro ci q hq
    have hci : ci < 14 := (List.getElem?_eq_some_iff.mp hq).1
    have h1 : vwCl[ci]? = some (cls ci) := (clk_all ci hci).1
    have h2 : q = cls ci := Option.some.inj (hq.symm.trans h1)
    subst h2
    exact Classical.choose_spec (h0 ci) hci
  · intro k q hq
    have hk : k < 6 := (List.getElem?_eq_some_iff.mp hq).1
    rcases (show k = 0 ∨ k = 1 ∨ k = 2 ∨ k = 3 ∨ k = 4 ∨ k = 5 by omega) with rfl | rfl | rfl | rfl | rfl | rfl <;> cases hq
    · exact aB1
    · exact aI1
    · exact aZ1
    · exact aJ1
    · exact aO1
    · exact aG1
theorem mem_win {α : Type} {l : List α} {p n : Nat} {f : Nat → α} (h : (l.drop p).take n = (List.range n).map f) {j : Nat} (hj : j < n) : f j ∈ l := by
  have h1 : f j ∈ (l.drop p).take n := by rw [h]; exact List.mem_map.mpr ⟨j, List.mem_range.mpr hj, rfl⟩
  exact List.mem_of_mem_drop (List.mem_of_mem_take h1)
theorem bytes_K : ((flatC (Jvm.Cond.and given_1 narrow_1)).drop 31).take 176 = (List.range 176).map (fun j => Cond.eq (.elem (.field (.string "BeatMill$Tokens" 29) "java/lang/String" "value" "[B") (.int (Int32.ofNat j))) (.int ((txB.getD 0 []).getD j 0))) := by decide +kernel
theorem bytes_S : ((flatC (Jvm.Cond.and given_1 narrow_1)).drop 211).take 12 = (List.range 12).map (fun j => Cond.eq (.elem (.field (.string "BeatMill$Tokens" 113) "java/lang/String" "value" "[B") (.int (Int32.ofNat j))) (.int ((txB.getD 1 []).getD j 0))) := by decide +kernel
theorem SPH_of {s : State} {b : Nat} (hts : ∀ w ∈ lw_tbl, w.before #[Value.ref b] s = true) (hgv : (Jvm.Cond.and given_1 narrow_1).before #[Value.ref b] s = true) : ∃ sp : Nat → Nat, sp 0 = b ∧ SPH sp (fun q => s.heap.size ≤ q) s := by
  have hs := flat_of_before _ hgv
  have hA : ∀ a : Nat, a < s.heap.size → ¬ (fun q : Nat => s.heap.size ≤ q) a := fun a h => Nat.not_le.mpr h
  have hlw : ∀ w ∈ tables_1, w.before #[Value.ref b] s = true := fun w h => hts w (List.mem_append_right _ h)
  have m0 := fun j hj => mem_win bytes_K (j := j) hj
  have m1 := fun j hj => mem_win bytes_S (j := j) hj
  obtain ⟨adK, adV, hS, hK⟩ := vk_Sof (args := #[Value.ref b]) (s := s) (N := 2) (tm := fun i => Term.string "BeatMill$Tokens" ([29, 113].getD i 0)) (len := [176, 12]) (byt := txB) (A := fun q => s.heap.size ≤ q) (by decide)
    (fun i hi => by rcases (show i = 0 ∨ i = 1 by omega) with rfl | rfl <;> exact hs _ (by decide +kernel))
    (fun i hi => by rcases (show i = 0 ∨ i = 1 by omega) with rfl | rfl <;> exact hs _ (by decide +kernel))
    (fun i hi => by rcases (show i = 0 ∨ i = 1 by omega) with rfl | rfl <;> exact hs _ (by decide +kernel))
    (fun i hi => by rcases (show i = 0 ∨ i = 1 by omega) with rfl | rfl <;> exact hs _ (by decide +kernel))
    (fun i hi j hj => by
      rcases (show i = 0 ∨ i = 1 by omega) with rfl | rfl
      · exact hs _ (m0 j hj)
      · exact hs _ (m1 j hj))
    (fun i j hi hj hne => by
      rcases (show i = 0 ∨ i = 1 by omega) with rfl | rfl <;> rcases (show j = 0 ∨ j = 1 by omega) with rfl | rfl
      · exact absurd rfl hne
      · exact Or.inl (hs _ (by decide +kernel))
      · exact Or.inr (hs _ (by decide +kernel))
      · exact absurd rfl hne) hA
  have r1 : vk_R "BeatMill$Tokens" 29 txK (adK 0) s := vk_R.of (hlw _ (tbk_1 _ (List.mem_of_getElem? (i := 125) (by decide +kernel)))) (hK 0 (by omega))
  have r2 : vk_R "BeatMill$Tokens" 113 txS (adK 1) s := vk_R.of (hlw _ (tbk_3 _ (List.mem_of_getElem? (i := 109) (by decide +kernel)))) (hK 1 (by omega))
  have z1 : va_Z "java/lang/String" "COMPACT_STRINGS" "Z" (.int 1) (fun q => s.heap.size ≤ q) s s.heap := va_Zof (hlw _ (tbk_1 _ (List.mem_of_getElem? (i := 135) (by decide +kernel)))) (hlw _ (tbk_1 _ (List.mem_of_getElem? (i := 8) (by decide +kernel)))) (va_eqi (hs _ (by decide +kernel))) hA
  obtain ⟨tE, eE, hE⟩ := va_Tof (args := #[Value.ref b]) (s := s) (tm := Term.static "java/util/ArrayList" "DEFAULTCAPACITY_EMPTY_ELEMENTDATA" "[Ljava/lang/Object;") (ty := .object "java/lang/Object") (N := 0) (f := fun _ => .null) (A := fun q => s.heap.size ≤ q) (by decide) (hs _ (by decide +kernel)) (va_eqt (hs _ (by decide +kernel))) (fun j hj => absurd hj (Nat.not_lt_zero j)) hA
  have z2 : va_Z "java/util/ArrayList" "DEFAULTCAPACITY_EMPTY_ELEMENTDATA" "[Ljava/lang/Object;" (.ref tE) (fun q => s.heap.size ≤ q) s s.heap := va_Zof (hlw _ (tbk_1 _ (List.mem_of_getElem? (i := 50) (by decide +kernel)))) (hlw _ (tbk_1 _ (List.mem_of_getElem? (i := 4) (by decide +kernel)))) eE hA
  obtain ⟨tL, eL, hL⟩ := va_Tof (args := #[Value.ref b]) (s := s) (tm := Term.static "BeatMill$Search" "LANE_BITS" "[I") (ty := .int) (N := 5) (f := fun k => .int (laneB.getD k 0)) (A := fun q => s.heap.size ≤ q) (by decide) (hs _ (by decide +kernel)) (va_eqt (hs _ (by decide +kernel))) (fun j hj => by
    rcases (show j = 0 ∨ j = 1 ∨ j = 2 ∨ j = 3 ∨ j = 4 by omega) with rfl | rfl | rfl | rfl | rfl <;> exact va_eqt (hs _ (by decide +kernel))) hA
  have z3 : va_Z "BeatMill$Search" "LANE_BITS" "[I" (.ref tL) (fun q => s.heap.size ≤ q) s s.heap := va_Zof (hlw _ (tbk_7 _ (List.mem_of_getElem? (i := 128) (by decide +kernel)))) (hlw _ (tbk_1 _ (List.mem_of_getElem? (i := 28) (by decide +kernel)))) eL hA
  have z4 : va_Z "java/lang/Integer$IntegerCache" "high" "I" (.int 127) (fun q => s.heap.size ≤ q) s s.heap := va_Zof (hlw _ (tbk_5 _ (List.mem_of_getElem? (i := 119) (by decide +kernel)))) (hlw _ (tbk_1 _ (List.mem_of_getElem? (i := 25) (by decide +kernel)))) (va_eqi (hs _ (by decide +kernel))) hA
  have l256 : (Term.length (Term.static "java/lang/Integer$IntegerCache" "cache" "[Ljava/lang/Integer;")).eval #[Value.ref b] s none [] s = some (.int (Int32.ofNat 256)) := va_eqt (hs _ (by decide +kernel))
  obtain ⟨adI, hI, eI⟩ := vb_Cof (args := #[Value.ref b]) (s := s) (A := fun q => s.heap.size ≤ q) (st := Term.static "java/lang/Integer$IntegerCache" "cache" "[Ljava/lang/Integer;") rfl l256 (hs _ (by decide +kernel)) hA
  obtain ⟨tC, eC, hC⟩ := va_Tof (args := #[Value.ref b]) (s := s) (tm := Term.static "java/lang/Integer$IntegerCache" "cache" "[Ljava/lang/Integer;") (ty := .object "java/lang/Integer") (N := 256) (f := fun k => .ref (adI k)) (A := fun q => s.heap.size ≤ q) (by decide) (hs _ (by decide +kernel)) l256 (fun j hj => eI j hj) hA
  have z5 : va_Z "java/lang/Integer$IntegerCache" "cache" "[Ljava/lang/Integer;" (.ref tC) (fun q => s.heap.size ≤ q) s s.heap := va_Zof (hlw _ (tbk_5 _ (List.mem_of_getElem? (i := 121) (by decide +kernel)))) (hlw _ (tbk_1 _ (List.mem_of_getElem? (i := 25) (by decide +kernel)))) eC hA
  have z6 : va_Zq "jdk/internal/util/Preconditions" "SIOOBE_FORMATTER" "Ljava/util/function/BiFunction;" (fun q => s.heap.size ≤ q) s s.heap := va_Zqof (hlw _ (tbk_1 _ (List.mem_of_getElem? (i := 151) (by decide +kernel)))) (hlw _ (tbk_1 _ (List.mem_of_getElem? (i := 10) (by decide +kernel)))) (hs _ (by decide +kernel)) hA
  obtain ⟨tF, z7⟩ : ∃ t : Nat, va_Z "jdk/internal/util/Preconditions" "SIOOBE_FORMATTER" "Ljava/util/function/BiFunction;" .null (fun q => s.heap.size ≤ q) s s.heap ∨ va_Z "jdk/internal/util/Preconditions" "SIOOBE_FORMATTER" "Ljava/util/function/BiFunction;" (.ref t) (fun q => s.heap.size ≤ q) s s.heap := by
    rcases z6 with z | ⟨t, z⟩
    · exact ⟨0, Or.inl z⟩
    · exact ⟨t, Or.inr z⟩
  obtain ⟨tM, hMi⟩ := va_Mi.of (args := #[Value.ref b]) (s := s) (C := "[Ljava/lang/Object;") (hs _ (by decide +kernel))
  have hDc : va_Dc s := va_Dc.of (hlw _ (tbk_12 _ (List.mem_of_getElem? (i := 3) (by decide +kernel))))
  have hAO : va_AO "java/lang/Object" s := va_AO.of (hlw _ (tbk_4 _ (List.mem_of_getElem? (i := 129) (by decide +kernel))))
  have hAI : AOI s := hlw (Cond.arrayOver (.array .int)) (tbk_6 _ (List.mem_of_getElem? (i := 40) (by decide +kernel)))
  obtain ⟨sp, hsp⟩ : ∃ sp : Nat → Nat, sp = fun j => if j = 0 then b else if j = 1 then adK 0 else if j = 2 then adK 1 else if j = 3 then adV 0 else if j = 4 then adV 1 else if j = 5 then tE else if j = 6 then tL else if j = 7 then tC else if j = 9 then tF else if j = 11 then tM else adI (j - 1000) := ⟨_, rfl⟩
  have hI2 : (fun k => sp (1000 + k)) = adI := by
    funext k
    rw [hsp]
    simp only [show ¬ (1000 + k = 0) by omega, show ¬ (1000 + k = 1) by omega, show ¬ (1000 + k = 2) by omega, show ¬ (1000 + k = 3) by omega, show ¬ (1000 + k = 4) by omega, show ¬ (1000 + k = 5) by omega, show ¬ (1000 + k = 6) by omega, show ¬ (1000 + k = 7) by omega, show ¬ (1000 + k = 9) by omega, show ¬ (1000 + k = 11) by omega, if_false, Nat.add_sub_cancel_left]
  refine ⟨sp, by rw [hsp]; rfl, ⟨by rw [hsp]; exact r1, by rw [hsp]; exact r2⟩, ⟨fun i hi => ?_, fun i j hi hj e => ?_⟩, z1, ⟨by rw [hsp]; exact z2, by rw [hsp]; exact hE⟩, ⟨by rw [hsp]; exact z3, by rw [hsp]; exact hL⟩, ⟨z4, by rw [hsp]; exact z5, ?_, by rw [hI2]; exact hI⟩, by rw [hsp]; exact z7, by rw [hsp]; exact hMi, hDc, hAO, hAI⟩
  · rcases (show i = 0 ∨ i = 1 by omega) with rfl | rfl
    · rw [hsp]; exact hS.1 0 (by omega)
    · rw [hsp]; exact hS.1 1 (by omega)
  · rw [hsp] at e
    rcases (show i = 0 ∨ i = 1 by omega) with rfl | rfl <;> rcases (show j = 0 ∨ j = 1 by omega) with rfl | rfl
    · rfl
    · exact hS.2 0 1 (by omega) (by omega) e
    · exact hS.2 1 0 (by omega) (by omega) e
    · rfl
  · have e9 : (fun k => Value.ref (sp (1000 + k))) = fun k => Value.ref (adI k) := by
      funext k
      rw [show sp (1000 + k) = adI k from congrFun hI2 k]
    rw [e9]
    rw [hsp]
    exact hC
