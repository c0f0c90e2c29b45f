/-! calls on fresh objects: the class -/
theorem S_size {h a : Nat} {M : Mem} {Q : Option Value → Mem → Prop} (ha : ok M a 1) (H : Q (some (.int (mI M a 2))) M) : E (h + 1) mdJx4a65c_size_8abf5 [.ref a] M Q := (C_alSize ha).imp (fun r M' _ hp => by rw [hp.1, hp.2]; exact H)
theorem S_modAt0 {h : Nat} {m : Int32} {M : Mem} {Q : Option Value → Mem → Prop} (F : Fix M) (hs : mI M 2 2 = 0) (H : Q (some (va_rf none)) M) : E (h + 2) mdX10_moduleAt [.ref 0, .int m] M Q := by
  refine KX10_moduleAt ?_
  unfold DX10_moduleAt_0 DX10_moduleAt_15 DX10_moduleAt_30
  refine ⟨fun _ => H, fun h1 => ⟨ok0 F, 2, rf0_2 F, ok2 F, S_size (ok2 F) (fun _ => ⟨_, rfl, fun h2 => ?_, fun _ => H⟩)⟩⟩
  rw [hs] at h2
  exact absurd h2 h1
theorem S_govAt0 {h : Nat} {m : Int32} {M : Mem} {Q : Option Value → Mem → Prop} (F : Fix M) (hs : mI M 3 2 = 0) (H : Q (some (va_rf none)) M) : E (h + 2) mdX10_governorAt [.ref 0, .int m] M Q := by
  refine KX10_governorAt ?_
  unfold DX10_governorAt_0 DX10_governorAt_15 DX10_governorAt_30
  refine ⟨fun _ => H, fun h1 => ⟨ok0 F, 3, rf0_3 F, ok3 F, S_size (ok3 F) (fun _ => ⟨_, rfl, fun h2 => ?_, fun _ => H⟩)⟩⟩
  rw [hs] at h2
  exact absurd h2 h1
theorem S_srchOf0 {h : Nat} {m : Int32} {M : Mem} {Q : Option Value → Mem → Prop} (F : Fix M) (hs : mI M 2 2 = 0) (H : Q (some (va_rf none)) M) : E (h + 3) mdX10_searchOf [.ref 0, .int m] M Q := by
  refine KX10_searchOf ?_
  unfold DX10_searchOf_0
  exact ⟨ok0 F, S_modAt0 F hs (fun _ => ⟨none, rfl, fun _ => H, fun b hb => by cases hb⟩)⟩
theorem c0_module {h : Nat} {m w : Int32} {M : Mem} {Q : Option Value → Mem → Prop} (F : Fix M) (hs : mI M 2 2 = 0) (H : Q (some (.int (-1))) M) : E (h + 4) mdX10_module [.ref 0, .int m, .int w] M Q := by
  refine KX10_module ?_
  unfold DX10_module_0
  exact ⟨ok0 F, S_modAt0 F hs (fun _ => ⟨none, rfl, fun _ => H, fun b hb => by cases hb⟩)⟩
theorem c0_part {h : Nat} {m i : Int32} {M : Mem} {Q : Option Value → Mem → Prop} (F : Fix M) (hs : mI M 2 2 = 0) (H : Q (some (.int (-1))) M) : E (h + 4) mdX10_part [.ref 0, .int m, .int i] M Q := by
  refine KX10_part ?_
  unfold DX10_part_0 DX10_part_18
  exact ⟨ok0 F, S_modAt0 F hs (fun _ => ⟨none, rfl, fun _ => H, fun b hb => by cases hb⟩)⟩
theorem c0_governor {h : Nat} {m : Int32} {M : Mem} {Q : Option Value → Mem → Prop} (F : Fix M) (hs : mI M 2 2 = 0) (H : Q (some (.int (-1))) M) : E (h + 4) mdX10_governor [.ref 0, .int m] M Q := by
  refine KX10_governor ?_
  unfold DX10_governor_0
  exact ⟨ok0 F, S_modAt0 F hs (fun _ => ⟨none, rfl, fun _ => H, fun b hb => by cases hb⟩)⟩
theorem c0_give {h : Nat} {g i p v : Int32} {M : Mem} {Q : Option Value → Mem → Prop} (F : Fix M) (hs : mI M 3 2 = 0) (H : Q (some (.int (-1))) M) : E (h + 4) mdX10_give [.ref 0, .int g, .int i, .int p, .int v] M Q := by
  refine KX10_give ?_
  unfold DX10_give_0 DX10_give_28 DX10_give_44
  exact ⟨ok0 F, S_govAt0 F hs (fun _ => ⟨none, rfl, fun _ => H, fun b hb => by cases hb⟩)⟩
theorem c0_beat {h : Nat} {g : Int32} {M : Mem} {Q : Option Value → Mem → Prop} (F : Fix M) (hs : mI M 3 2 = 0) (H : Q (some (.int (-1))) M) : E (h + 4) mdX10_beat [.ref 0, .int g] M Q := by
  refine KX10_beat ?_
  unfold DX10_beat_0
  exact ⟨ok0 F, S_govAt0 F hs (fun _ => ⟨none, rfl, fun _ => H, fun b hb => by cases hb⟩)⟩
theorem c0_present {h : Nat} {g s : Int32} {M : Mem} {Q : Option Value → Mem → Prop} (F : Fix M) (hs : mI M 3 2 = 0) (H : Q (some (.int (-1))) M) : E (h + 4) mdX10_present [.ref 0, .int g, .int s] M Q := by
  refine KX10_present ?_
  unfold DX10_present_0 DX10_present_21
  exact ⟨ok0 F, S_govAt0 F hs (fun _ => ⟨none, rfl, fun _ => H, fun b hb => by cases hb⟩)⟩
theorem c0_value {h : Nat} {g s : Int32} {M : Mem} {Q : Option Value → Mem → Prop} (F : Fix M) (hs : mI M 3 2 = 0) (H : Q (some (.int (0))) M) : E (h + 4) mdX10_value [.ref 0, .int g, .int s] M Q := by
  refine KX10_value ?_
  unfold DX10_value_0 DX10_value_21
  exact ⟨ok0 F, S_govAt0 F hs (fun _ => ⟨none, rfl, fun _ => H, fun b hb => by cases hb⟩)⟩
theorem c0_variable {h : Nat} {g v : Int32} {M : Mem} {Q : Option Value → Mem → Prop} (F : Fix M) (hs : mI M 3 2 = 0) (H : Q (some (.int (0))) M) : E (h + 4) mdX10_variable [.ref 0, .int g, .int v] M Q := by
  refine KX10_variable ?_
  unfold DX10_variable_0 DX10_variable_25
  exact ⟨ok0 F, S_govAt0 F hs (fun _ => ⟨none, rfl, fun _ => H, fun b hb => by cases hb⟩)⟩
theorem c0_wire {h : Nat} {g i w : Int32} {M : Mem} {Q : Option Value → Mem → Prop} (F : Fix M) (hs : mI M 3 2 = 0) (H : Q (some (.int (-1))) M) : E (h + 4) mdX10_wire [.ref 0, .int g, .int i, .int w] M Q := by
  refine KX10_wire ?_
  unfold DX10_wire_0 DX10_wire_24 DX10_wire_35
  exact ⟨ok0 F, S_govAt0 F hs (fun _ => ⟨none, rfl, fun _ => H, fun b hb => by cases hb⟩)⟩
theorem c0_told {h : Nat} {g w : Int32} {M : Mem} {Q : Option Value → Mem → Prop} (F : Fix M) (hs : mI M 3 2 = 0) (H : Q (some (.int (-1))) M) : E (h + 4) mdX10_told [.ref 0, .int g, .int w] M Q := by
  refine KX10_told ?_
  unfold DX10_told_0
  exact ⟨ok0 F, S_govAt0 F hs (fun _ => ⟨none, rfl, fun _ => H, fun b hb => by cases hb⟩)⟩
theorem c0_paused {h : Nat} {g k : Int32} {M : Mem} {Q : Option Value → Mem → Prop} (F : Fix M) (hs : mI M 3 2 = 0) (H : Q (some (.int (-1))) M) : E (h + 4) mdX10_paused [.ref 0, .int g, .int k] M Q := by
  refine KX10_paused ?_
  unfold DX10_paused_0 DX10_paused_25
  exact ⟨ok0 F, S_govAt0 F hs (fun _ => ⟨none, rfl, fun _ => H, fun b hb => by cases hb⟩)⟩
theorem c0_keep {h : Nat} {g : Int32} {M : Mem} {Q : Option Value → Mem → Prop} (F : Fix M) (hs : mI M 3 2 = 0) (H : Q (some (.int (-1))) M) : E (h + 4) mdX10_keep [.ref 0, .int g] M Q := by
  refine KX10_keep ?_
  unfold DX10_keep_0
  exact ⟨ok0 F, S_govAt0 F hs (fun _ => ⟨none, rfl, fun _ => H, fun b hb => by cases hb⟩)⟩
theorem c0_back {h : Nat} {g : Int32} {M : Mem} {Q : Option Value → Mem → Prop} (F : Fix M) (hs : mI M 3 2 = 0) (H : Q (some (.int (-1))) M) : E (h + 4) mdX10_back [.ref 0, .int g] M Q := by
  refine KX10_back ?_
  unfold DX10_back_0
  exact ⟨ok0 F, S_govAt0 F hs (fun _ => ⟨none, rfl, fun _ => H, fun b hb => by cases hb⟩)⟩
theorem c0_same {h : Nat} {a b : Int32} {M : Mem} {Q : Option Value → Mem → Prop} (F : Fix M) (hs : mI M 3 2 = 0) (H : Q (some (.int (-1))) M) : E (h + 4) mdX10_same [.ref 0, .int a, .int b] M Q := by
  refine KX10_same ?_
  unfold DX10_same_0 DX10_same_22
  exact ⟨ok0 F, S_govAt0 F hs (fun _ => ⟨none, rfl, S_govAt0 F hs (fun _ => ⟨none, rfl, fun _ => H, fun b hb => by cases hb⟩)⟩)⟩
theorem c0_search {h : Nat} {m : Int32} {M : Mem} {Q : Option Value → Mem → Prop} (F : Fix M) (hs : mI M 2 2 = 0) (H : Q (some (.int (-1))) M) : E (h + 4) mdX10_search [.ref 0, .int m] M Q := by
  refine KX10_search ?_
  unfold DX10_search_0
  exact ⟨ok0 F, S_modAt0 F hs (fun _ => ⟨none, rfl, fun _ => H, fun b hb => by cases hb⟩)⟩
theorem c0_move {h : Nat} {m s v w : Int32} {M : Mem} {Q : Option Value → Mem → Prop} (F : Fix M) (hs : mI M 2 2 = 0) (H : Q (some (.int (-9))) M) : E (h + 4) mdX10_move [.ref 0, .int m, .int s, .int v, .int w] M Q := by
  refine KX10_move ?_
  unfold DX10_move_0 DX10_move_34
  exact ⟨ok0 F, S_srchOf0 F hs (fun _ => ⟨none, rfl, fun _ => H, fun b hb => by cases hb⟩)⟩
theorem c0_classOf {h : Nat} {m s : Int32} {M : Mem} {Q : Option Value → Mem → Prop} (F : Fix M) (hs : mI M 2 2 = 0) (H : Q (some (.int (-9))) M) : E (h + 4) mdX10_classOf [.ref 0, .int m, .int s] M Q := by
  refine KX10_classOf ?_
  unfold DX10_classOf_0 DX10_classOf_18
  exact ⟨ok0 F, S_srchOf0 F hs (fun _ => ⟨none, rfl, fun _ => H, fun b hb => by cases hb⟩)⟩
theorem c0_way {h : Nat} {m s i : Int32} {M : Mem} {Q : Option Value → Mem → Prop} (F : Fix M) (hs : mI M 2 2 = 0) (H : Q (some (.int (-9))) M) : E (h + 4) mdX10_way [.ref 0, .int m, .int s, .int i] M Q := by
  refine KX10_way ?_
  unfold DX10_way_0 DX10_way_21
  exact ⟨ok0 F, S_srchOf0 F hs (fun _ => ⟨none, rfl, fun _ => H, fun b hb => by cases hb⟩)⟩
theorem c0_never {h : Nat} {m s : Int32} {M : Mem} {Q : Option Value → Mem → Prop} (F : Fix M) (hs : mI M 2 2 = 0) (H : Q (some (.int (-9))) M) : E (h + 4) mdX10_never [.ref 0, .int m, .int s] M Q := by
  refine KX10_never ?_
  unfold DX10_never_0 DX10_never_21
  exact ⟨ok0 F, S_srchOf0 F hs (fun _ => ⟨none, rfl, fun _ => H, fun b hb => by cases hb⟩)⟩
theorem c0_always {h : Nat} {m a b : Int32} {M : Mem} {Q : Option Value → Mem → Prop} (F : Fix M) (hs : mI M 2 2 = 0) (H : Q (some (.int (-9))) M) : E (h + 4) mdX10_always [.ref 0, .int m, .int a, .int b] M Q := by
  refine KX10_always ?_
  unfold DX10_always_0 DX10_always_36
  exact ⟨ok0 F, S_srchOf0 F hs (fun _ => ⟨none, rfl, fun _ => H, fun b hb => by cases hb⟩)⟩
/-! the reference on a fresh object -/
theorem S_in {h : Nat} {v l u : Int64} {M : Mem} {Q : Option Value → Mem → Prop} (H : Q (some (.int (if l ≤ v ∧ v ≤ u then 1 else 0))) M) : E (h + 1) mdX11_in [.long v, .long l, .long u] M Q := by
  refine KX11_in ?_
  unfold DX11_in_0 DX11_in_17 DX11_in_18
  have k1 : (lg_cmp v l < 0) ↔ ¬ (l ≤ v) := by
    rw [← lg_cmp_ge v l]; exact ⟨fun h => Int32.not_le.mpr h, fun h => Int32.not_le.mp h⟩
  have k2 : (0 < lg_cmp v u) ↔ ¬ (v ≤ u) := by
    rw [← lg_cmp_le v u]; exact ⟨fun h => Int32.not_le.mpr h, fun h => Int32.not_le.mp h⟩
  refine ⟨fun h1 => ⟨Or.inl rfl, ?_⟩, fun h1 => ⟨fun h2 => ⟨Or.inl rfl, ?_⟩, fun h2 => ⟨Or.inr rfl, ?_⟩⟩⟩
  · rwa [if_neg (fun z => k1.mp h1 z.1)] at H
  · rwa [if_neg (fun z => k2.mp h2 z.2)] at H
  · rwa [if_pos ⟨Classical.not_not.mp (fun z => h1 (k1.mpr z)), Classical.not_not.mp (fun z => h2 (k2.mpr z))⟩] at H
theorem in0 {m n : Int32} (hn : n = 0) : (if (0 : Int64) ≤ m.toInt64 ∧ m.toInt64 ≤ (n - 1).toInt64 then (1 : Int32) else 0) = 0 := by
  subst hn
  refine if_neg (fun z => ?_)
  have h1 := Int64.le_iff_toInt_le.mp z.1
  have h2 := Int64.le_iff_toInt_le.mp z.2
  have e1 : ((0 : Int32) - 1).toInt64.toInt = -1 := by decide
  have e2 : (0 : Int64).toInt = 0 := by decide
  rw [e1] at h2
  rw [e2] at h1
  omega
theorem S_isMod0 {h : Nat} {m : Int32} {M : Mem} {Q : Option Value → Mem → Prop} (F : Fix M) (hs : mI M 29 18 = 0) (H : Q (some (.int 0)) M) : E (h + 2) mdX11_isModule [.ref 29, .int m] M Q := by
  refine KX11_isModule ?_
  unfold DX11_isModule_0
  refine ⟨ok29 F, S_in (fun _ => ⟨_, rfl, ?_⟩)⟩
  rw [in0 hs]
  exact ⟨Or.inl rfl, H⟩
theorem S_isGov0 {h : Nat} {m : Int32} {M : Mem} {Q : Option Value → Mem → Prop} (F : Fix M) (hs : mI M 29 91 = 0) (H : Q (some (.int 0)) M) : E (h + 2) mdX11_isGovernor [.ref 29, .int m] M Q := by
  refine KX11_isGovernor ?_
  unfold DX11_isGovernor_0
  refine ⟨ok29 F, S_in (fun _ => ⟨_, rfl, ?_⟩)⟩
  rw [in0 hs]
  exact ⟨Or.inl rfl, H⟩
theorem S_isSrch0 {h : Nat} {m : Int32} {M : Mem} {Q : Option Value → Mem → Prop} (F : Fix M) (hs : mI M 29 18 = 0) (H : Q (some (.int 0)) M) : E (h + 3) mdX11_isSearched [.ref 29, .int m] M Q := by
  refine KX11_isSearched ?_
  unfold DX11_isSearched_0 DX11_isSearched_30
  exact ⟨ok29 F, S_isMod0 F hs (fun _ => ⟨0, rfl, fun hz => absurd rfl hz, fun _ => ⟨Or.inl rfl, H⟩⟩)⟩
theorem r0_module {h : Nat} {m w : Int32} {M : Mem} {Q : Option Value → Mem → Prop} (F : Fix M) (hs : mI M 29 18 = 0) (H : Q (some (.int (-1))) M) : E (h + 4) mdX11_module [.ref 29, .int m, .int w] M Q := by
  refine KX11_module ?_
  unfold DX11_module_0
  exact ⟨ok29 F, S_isMod0 F hs (fun _ => ⟨0, rfl, fun hz => absurd rfl hz, fun _ => H⟩)⟩
theorem r0_part {h : Nat} {m i : Int32} {M : Mem} {Q : Option Value → Mem → Prop} (F : Fix M) (hs : mI M 29 18 = 0) (H : Q (some (.int (-1))) M) : E (h + 4) mdX11_part [.ref 29, .int m, .int i] M Q := by
  refine KX11_part ?_
  unfold DX11_part_0 DX11_part_41 DX11_part_40
  exact ⟨ok29 F, S_isMod0 F hs (fun _ => ⟨0, rfl, fun _ => H, fun hz => absurd rfl hz⟩)⟩
theorem r0_governor {h : Nat} {m : Int32} {M : Mem} {Q : Option Value → Mem → Prop} (F : Fix M) (hs : mI M 29 18 = 0) (H : Q (some (.int (-1))) M) : E (h + 4) mdX11_governor [.ref 29, .int m] M Q := by
  refine KX11_governor ?_
  unfold DX11_governor_0
  exact ⟨ok29 F, S_isMod0 F hs (fun _ => ⟨0, rfl, fun hz => absurd rfl hz, fun _ => H⟩)⟩
theorem r0_give {h : Nat} {g i p v : Int32} {M : Mem} {Q : Option Value → Mem → Prop} (F : Fix M) (hs : mI M 29 91 = 0) (H : Q (some (.int (-1))) M) : E (h + 4) mdX11_give [.ref 29, .int g, .int i, .int p, .int v] M Q := by
  refine KX11_give ?_
  unfold DX11_give_0 DX11_give_46
  exact ⟨ok29 F, S_isGov0 F hs (fun _ => ⟨0, rfl, fun _ => H, fun hz => absurd rfl hz⟩)⟩
theorem r0_beat {h : Nat} {g : Int32} {M : Mem} {Q : Option Value → Mem → Prop} (F : Fix M) (hs : mI M 29 91 = 0) (H : Q (some (.int (-1))) M) : E (h + 4) mdX11_beat [.ref 29, .int g] M Q := by
  refine KX11_beat ?_
  unfold DX11_beat_0
  exact ⟨ok29 F, S_isGov0 F hs (fun _ => ⟨0, rfl, fun hz => absurd rfl hz, fun _ => H⟩)⟩
theorem r0_present {h : Nat} {g s : Int32} {M : Mem} {Q : Option Value → Mem → Prop} (F : Fix M) (hs : mI M 29 91 = 0) (H : Q (some (.int (-1))) M) : E (h + 4) mdX11_present [.ref 29, .int g, .int s] M Q := by
  refine KX11_present ?_
  unfold DX11_present_0 DX11_present_45 DX11_present_44
  exact ⟨ok29 F, S_isGov0 F hs (fun _ => ⟨0, rfl, fun _ => H, fun hz => absurd rfl hz⟩)⟩
theorem r0_value {h : Nat} {g s : Int32} {M : Mem} {Q : Option Value → Mem → Prop} (F : Fix M) (hs : mI M 29 91 = 0) (H : Q (some (.int (0))) M) : E (h + 4) mdX11_value [.ref 29, .int g, .int s] M Q := by
  refine KX11_value ?_
  unfold DX11_value_0 DX11_value_47 DX11_value_46
  exact ⟨ok29 F, S_isGov0 F hs (fun _ => ⟨0, rfl, fun _ => H, fun hz => absurd rfl hz⟩)⟩
theorem r0_variable {h : Nat} {g v : Int32} {M : Mem} {Q : Option Value → Mem → Prop} (F : Fix M) (hs : mI M 29 91 = 0) (H : Q (some (.int (0))) M) : E (h + 4) mdX11_variable [.ref 29, .int g, .int v] M Q := by
  refine KX11_variable ?_
  unfold DX11_variable_0 DX11_variable_47 DX11_variable_46
  exact ⟨ok29 F, S_isGov0 F hs (fun _ => ⟨0, rfl, fun _ => H, fun hz => absurd rfl hz⟩)⟩
theorem r0_wire {h : Nat} {g i w : Int32} {M : Mem} {Q : Option Value → Mem → Prop} (F : Fix M) (hs : mI M 29 91 = 0) (H : Q (some (.int (-1))) M) : E (h + 4) mdX11_wire [.ref 29, .int g, .int i, .int w] M Q := by
  refine KX11_wire ?_
  unfold DX11_wire_0 DX11_wire_63 DX11_wire_62
  exact ⟨ok29 F, S_isGov0 F hs (fun _ => ⟨0, rfl, fun _ => H, fun hz => absurd rfl hz⟩)⟩
theorem r0_told {h : Nat} {g w : Int32} {M : Mem} {Q : Option Value → Mem → Prop} (F : Fix M) (hs : mI M 29 91 = 0) (H : Q (some (.int (-1))) M) : E (h + 4) mdX11_told [.ref 29, .int g, .int w] M Q := by
  refine KX11_told ?_
  unfold DX11_told_0 DX11_told_87
  exact ⟨ok29 F, S_isGov0 F hs (fun _ => ⟨0, rfl, fun hz => absurd rfl hz, fun _ => H⟩)⟩
theorem r0_paused {h : Nat} {g k : Int32} {M : Mem} {Q : Option Value → Mem → Prop} (F : Fix M) (hs : mI M 29 91 = 0) (H : Q (some (.int (-1))) M) : E (h + 4) mdX11_paused [.ref 29, .int g, .int k] M Q := by
  refine KX11_paused ?_
  unfold DX11_paused_0 DX11_paused_45 DX11_paused_44
  exact ⟨ok29 F, S_isGov0 F hs (fun _ => ⟨0, rfl, fun _ => H, fun hz => absurd rfl hz⟩)⟩
theorem r0_keep {h : Nat} {g : Int32} {M : Mem} {Q : Option Value → Mem → Prop} (F : Fix M) (hs : mI M 29 91 = 0) (H : Q (some (.int (-1))) M) : E (h + 4) mdX11_keep [.ref 29, .int g] M Q := by
  refine KX11_keep ?_
  unfold DX11_keep_0
  exact ⟨ok29 F, S_isGov0 F hs (fun _ => ⟨0, rfl, fun hz => absurd rfl hz, fun _ => H⟩)⟩
theorem r0_back {h : Nat} {g : Int32} {M : Mem} {Q : Option Value → Mem → Prop} (F : Fix M) (hs : mI M 29 91 = 0) (H : Q (some (.int (-1))) M) : E (h + 4) mdX11_back [.ref 29, .int g] M Q := by
  refine KX11_back ?_
  unfold DX11_back_0
  exact ⟨ok29 F, S_isGov0 F hs (fun _ => ⟨0, rfl, fun hz => absurd rfl hz, fun _ => H⟩)⟩
theorem r0_same {h : Nat} {a b : Int32} {M : Mem} {Q : Option Value → Mem → Prop} (F : Fix M) (hs : mI M 29 91 = 0) (H : Q (some (.int (-1))) M) : E (h + 4) mdX11_same [.ref 29, .int a, .int b] M Q := by
  refine KX11_same ?_
  unfold DX11_same_0 DX11_same_16
  exact ⟨ok29 F, S_isGov0 F hs (fun _ => ⟨0, rfl, fun _ => H, fun hz => absurd rfl hz⟩)⟩
theorem r0_search {h : Nat} {m : Int32} {M : Mem} {Q : Option Value → Mem → Prop} (F : Fix M) (hs : mI M 29 18 = 0) (H : Q (some (.int (-1))) M) : E (h + 4) mdX11_search [.ref 29, .int m] M Q := by
  refine KX11_search ?_
  unfold DX11_search_0 DX11_search_36
  exact ⟨ok29 F, S_isMod0 F hs (fun _ => ⟨0, rfl, fun hz => absurd rfl hz, fun _ => H⟩)⟩
theorem r0_move {h : Nat} {m s v w : Int32} {M : Mem} {Q : Option Value → Mem → Prop} (F : Fix M) (hs : mI M 29 18 = 0) (H : Q (some (.int (-9))) M) : E (h + 4) mdX11_move [.ref 29, .int m, .int s, .int v, .int w] M Q := by
  refine KX11_move ?_
  unfold DX11_move_0 DX11_move_54 DX11_move_92
  exact ⟨ok29 F, S_isSrch0 F hs (fun _ => ⟨0, rfl, fun _ => H, fun hz => absurd rfl hz⟩)⟩
theorem r0_classOf {h : Nat} {m s : Int32} {M : Mem} {Q : Option Value → Mem → Prop} (F : Fix M) (hs : mI M 29 18 = 0) (H : Q (some (.int (-9))) M) : E (h + 4) mdX11_classOf [.ref 29, .int m, .int s] M Q := by
  refine KX11_classOf ?_
  unfold DX11_classOf_0 DX11_classOf_42 DX11_classOf_40
  exact ⟨ok29 F, S_isSrch0 F hs (fun _ => ⟨0, rfl, fun _ => H, fun hz => absurd rfl hz⟩)⟩
theorem r0_way {h : Nat} {m s i : Int32} {M : Mem} {Q : Option Value → Mem → Prop} (F : Fix M) (hs : mI M 29 18 = 0) (H : Q (some (.int (-9))) M) : E (h + 4) mdX11_way [.ref 29, .int m, .int s, .int i] M Q := by
  refine KX11_way ?_
  unfold DX11_way_0 DX11_way_26
  exact ⟨ok29 F, S_isSrch0 F hs (fun _ => ⟨0, rfl, fun _ => H, fun hz => absurd rfl hz⟩)⟩
theorem r0_never {h : Nat} {m s : Int32} {M : Mem} {Q : Option Value → Mem → Prop} (F : Fix M) (hs : mI M 29 18 = 0) (H : Q (some (.int (-9))) M) : E (h + 4) mdX11_never [.ref 29, .int m, .int s] M Q := by
  refine KX11_never ?_
  unfold DX11_never_0 DX11_never_38 DX11_never_36
  exact ⟨ok29 F, S_isSrch0 F hs (fun _ => ⟨0, rfl, fun _ => H, fun hz => absurd rfl hz⟩)⟩
theorem r0_always {h : Nat} {m a b : Int32} {M : Mem} {Q : Option Value → Mem → Prop} (F : Fix M) (hs : mI M 29 18 = 0) (H : Q (some (.int (-9))) M) : E (h + 4) mdX11_always [.ref 29, .int m, .int a, .int b] M Q := by
  refine KX11_always ?_
  unfold DX11_always_0 DX11_always_56 DX11_always_54
  exact ⟨ok29 F, S_isSrch0 F hs (fun _ => ⟨0, rfl, fun _ => H, fun hz => absurd rfl hz⟩)⟩
