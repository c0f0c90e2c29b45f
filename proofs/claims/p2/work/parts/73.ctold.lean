/-! the class reads what the text tells -/
theorem Fix_hi {M M' : Mem} (F : Fix M) (k : fr (fun c => 132 ≤ c) M M') : Fix M' := by
  have hm := F.1
  have row : ∀ a, a < 132 → sameRow M M' a := fun a ha => k.2 a (by omega) (by omega)
  refine F.of_fr (S := fun _ => True) k.1 (fun e he => ?_) (row 19 (by decide)).2.2.2.2.1
  have := tRS_lt e he
  rw [(row e.1 (by omega)).2.2.1]
theorem TI_hi {b : Nat → Int32} {n s : Nat} {M M' : Mem} {i o : Nat} (h : TI b n s M i o) (k : fr (fun c => 132 ≤ c) M M') : TI b n s M' i o := by
  have hm := h.1.1
  have row : ∀ a, a < 132 → sameRow M M' a := fun a ha => k.2 a (by omega) (by omega)
  exact h.fr (Fix_hi h.1 k) (row 15 (by decide)).1 (row 15 (by decide)).2.1 (row 16 (by decide)).2.2.2.1 (row 17 (by decide)).2.2.2.1 (row 18 (by decide)).2.2.2.2.1
theorem TF_hi {M M' : Mem} {f : Int32} {p : Nat} (h : TF M f p) (k : fr (fun c => 132 ≤ c) M M') : TF M' f p := by
  have hm := h.1.1
  exact h.fr (Fix_hi h.1 k) (k.2 15 (by omega) (by decide)).1
def NT (L : Nat) : Nt := (List.range (L + 2)).map (fun j => (2 * j, 2 * j))
def sgT (L k : Nat) : Nat := if k < L then 4 + 2 * k else 0
theorem NT_len {L : Nat} : (NT L).length = L + 2 := by unfold NT; rw [List.length_map, List.length_range]
theorem NT_succ {L : Nat} : (frL (NT L)).1 = NT (L + 1) := by
  show NT L ++ [(2 * (NT L).length, 2 * (NT L).length)] = NT (L + 1)
  rw [NT_len]
  unfold NT
  rw [show L + 1 + 2 = (L + 2) + 1 by omega, List.range_succ (n := L + 2), List.map_append]
  rfl
def omk (ro : List Int32) : Int32 := (List.range ro.length).foldl (fun a k => if ro.getD k 0 = 31 then a ||| ((1 : Int32) <<< (Int32.ofNat k &&& 31)) else a) 0
theorem foldl_cg {α β : Type} {f g : β → α → β} : ∀ (l : List α) (z : β), (∀ x ∈ l, ∀ y, f y x = g y x) → l.foldl f z = l.foldl g z := by
  intro l
  induction l with
  | nil => intro z _; rfl
  | cons x l ih =>
    intro z h
    show l.foldl f (f z x) = l.foldl g (g z x)
    rw [h x List.mem_cons_self z]
    exact ih _ (fun y hy => h y (List.mem_cons_of_mem _ hy))
theorem omk_app {ro : List Int32} {x : Int32} : omk (ro ++ [x]) = if x = 31 then omk ro ||| ((1 : Int32) <<< (Int32.ofNat ro.length &&& 31)) else omk ro := by
  unfold omk
  rw [List.length_append]
  show (List.range (ro.length + 1)).foldl _ 0 = _
  rw [List.range_succ, List.foldl_append]
  have e : (ro ++ [x]).getD ro.length 0 = x := by rw [List.getD_eq_getElem?_getD, List.getElem?_append_right (Nat.le_refl _), Nat.sub_self]; rfl
  have e2 := foldl_cg (f := fun (a : Int32) k => if (ro ++ [x]).getD k 0 = 31 then a ||| ((1 : Int32) <<< (Int32.ofNat k &&& 31)) else a) (g := fun (a : Int32) k => if ro.getD k 0 = 31 then a ||| ((1 : Int32) <<< (Int32.ofNat k &&& 31)) else a) (List.range ro.length) 0 (fun k hk y => by rw [getD_a32 (List.mem_range.mp hk)])
  rw [e2]
  show (if (ro ++ [x]).getD ro.length 0 = 31 then _ else _) = _
  rw [e]
/-- a module while what is told is read -/
def CT (n0 : Nat) (τ : Td) (M : Mem) (lc rc : Nat) : Prop := CB n0 τ.1 τ.2.1 τ.2.2.1 τ.2.2.2.1 M (NT τ.1.length) lc rc (sgT τ.1.length) (fun _ => 0) ∧ (mI M n0 10 = Int32.ofNat (inL τ.2.1).length ∧ (inL τ.2.1).length ≤ 4 ∧ mR M n0 3 = some (n0 + 4) ∧ ok M (n0 + 4) 21 ∧ mL M (n0 + 4) = 4 ∧ ∀ j, j < (inL τ.2.1).length → mAI M (n0 + 4) j = Int32.ofNat ((inL τ.2.1).getD j 0)) ∧ mI M n0 11 = omk τ.2.1 ∧ (mR M n0 5 = some (n0 + 6) ∧ ok M (n0 + 6) 21 ∧ mL M (n0 + 6) = 6 ∧ τ.2.2.2.2.length = τ.2.2.2.1.length ∧ ∀ k, k < τ.2.2.2.1.length → mAI M (n0 + 6) k = (τ.2.2.2.2.getD k 0).toInt32) ∧ (∀ j, τ.1.length ≤ j → j < 16 → mAI M (n0 + 3) j = 0)
/-- what reading it may change -/
def TdF (n0 : Nat) (M M' : Mem) (lc rc lc' rc' : Nat) (L L' : Nat) : Prop := fr (fun c => c = 15 ∨ (n0 ≤ c ∧ c ≤ n0 + 6) ∨ c = n0 + 8 ∨ c = n0 + 20 ∨ c = lc ∨ c = rc) M M' ∧ mR M' 15 = mR M 15 ∧ mR M' n0 = mR M n0 ∧ (∀ f, f ∉ [9, 10, 11, 12] → mI M' n0 f = mI M n0 f) ∧ (∀ f, f ≠ 4 → mI M' (n0 + 8) f = mI M (n0 + 8) f) ∧ (∀ f, f ≠ 0 → f ≠ 1 → mR M' (n0 + 8) f = mR M (n0 + 8) f) ∧ mN M' + 2 * L ≤ mN M + 2 * L' ∧ mS M' + 4 * mL M lc = mS M + 4 * mL M' lc' ∧ (lc' = lc ∨ mN M ≤ lc') ∧ (rc' = rc ∨ mN M ≤ rc') ∧ L ≤ L'
theorem TdF.rf {n0 lc rc L : Nat} {M : Mem} : TdF n0 M M lc rc lc rc L L := ⟨fr.rf, rfl, rfl, fun _ _ => rfl, fun _ _ => rfl, fun _ _ _ => rfl, Nat.le_refl _, rfl, Or.inl rfl, Or.inl rfl, Nat.le_refl _⟩
theorem TdF.tr {n0 : Nat} {M M1 M2 : Mem} {lc rc lc1 rc1 lc2 rc2 L L1 L2 : Nat} (h : TdF n0 M M1 lc rc lc1 rc1 L L1) (k : TdF n0 M1 M2 lc1 rc1 lc2 rc2 L1 L2) : TdF n0 M M2 lc rc lc2 rc2 L L2 := by
  obtain ⟨a1, a2, a3, a4, a5, a6, a7, a8, a9, aA, aB⟩ := h
  obtain ⟨b1, b2, b3, b4, b5, b6, b7, b8, b9, bA, bB⟩ := k
  have hn := a1.1.1
  refine ⟨a1.tr b1 (fun a ha z => ?_), b2.trans a2, b3.trans a3, fun f q => (b4 f q).trans (a4 f q), fun f q => (b5 f q).trans (a5 f q), fun f q1 q2 => (b6 f q1 q2).trans (a6 f q1 q2), by omega, by omega, by omega, by omega, by omega⟩
  rcases z with z | z | z | z | z | z
  · exact Or.inl z
  · exact Or.inr (Or.inl z)
  · exact Or.inr (Or.inr (Or.inl z))
  · exact Or.inr (Or.inr (Or.inr (Or.inl z)))
  · rcases a9 with q | q
    · exact Or.inr (Or.inr (Or.inr (Or.inr (Or.inl (z.trans q)))))
    · omega
  · rcases aA with q | q
    · exact Or.inr (Or.inr (Or.inr (Or.inr (Or.inr (z.trans q)))))
    · omega
theorem TdF.t {n0 lc rc L : Nat} {M M' : Mem} (h : TFr M M') (hn : 132 ≤ n0) : TdF n0 M M' lc rc lc rc L L := by
  obtain ⟨a1, a2, a3, a4, a5, a6, a7, a8, a9⟩ := id h
  exact ⟨h.fr.more (fun a _ z => Or.inl z), by rw [a5], by rw [a5], fun f _ => by rw [(a9 _ (by omega)).1], fun f _ => by rw [(a9 _ (by omega)).1], fun f _ _ => by rw [a5], by rw [a1]; exact Nat.le_refl _, by rw [a2, a4], Or.inl rfl, Or.inl rfl, Nat.le_refl _⟩
section
variable {b : Nat → Int32} {n s n0 : Nat} {τ : Td} {M M' : Mem} {i o lc rc : Nat} {h : Nat} {Q : Option Value → Mem → Prop}
theorem CT.t (hC : CT n0 τ M lc rc) (k : TFr M M') : CT n0 τ M' lc rc := by
  obtain ⟨h1, ⟨i1, i2, i3, i4, i5, i6⟩, h2, ⟨v1, v2, v3, v4, v5⟩, h3⟩ := hC
  have hn := h1.2.2.2.2.2.2.2.2.2.2.1
  have row : ∀ a, a ≠ 15 → sameRow M M' a := fun a ha => k.row ha
  have r0 := row n0 (by omega)
  exact ⟨h1.t k, ⟨by rw [r0.1]; exact i1, i2, by rw [r0.2.2.1]; exact i3, ok_E i4 k.e, (k.e.2.2 _ i4.1).2.trans i5, fun j hj => by rw [(row (n0 + 4) (by omega)).2.2.2.1]; exact i6 j hj⟩, by rw [r0.1]; exact h2, ⟨by rw [r0.2.2.1]; exact v1, ok_E v2 k.e, (k.e.2.2 _ v2.1).2.trans v3, v4, fun j hj => by rw [(row (n0 + 6) (by omega)).2.2.2.1]; exact v5 j hj⟩, fun j q1 q2 => by rw [(row (n0 + 3) (by omega)).2.2.2.1]; exact h3 j q1 q2⟩
theorem S_isTold {c : Int64} {sN : List Int64} {ro mx : List Int32} {vN : List Int64} (hE : EnvC M n0 sN ro mx vN) (H : Q (some (.int (if (fd sN c).isSome || (fd vN c).isSome then 1 else 0))) M) : E (h + 2) mdX1_isTold [.ref n0, .long c] M Q := by
  have nS := oi_none (o := fd sN c) (k := 0) (fun j hj => by have := (fd_some hj).1; have := hE.2.1; omega)
  have nV := oi_none (o := fd vN c) (k := 0) (fun j hj => by have := (fd_some hj).1; have := hE.2.1; omega)
  refine KX1_isTold ?_
  unfold DX1_isTold_0 DX1_isTold_18 DX1_isTold_23
  refine ⟨hE.1, S_sigNamed hE (fun _ => ⟨_, rfl, fun q => ⟨Or.inr rfl, ?_⟩, fun q => S_varNamed hE (fun _ => ⟨_, rfl, fun q2 => ⟨Or.inl rfl, ?_⟩, fun q2 => ⟨Or.inr rfl, ?_⟩⟩)⟩)⟩
  · cases e : fd sN c with
    | none => exact absurd (nS.mpr e) q
    | some k => rw [e] at H; exact H
  · rw [nS.mp q, nV.mp q2] at H; exact H
  · rw [nS.mp q] at H
    cases e : fd vN c with
    | none => exact absurd (nV.mpr e) q2
    | some k => rw [e] at H; exact H
theorem S_isFull {r : Int32} (hC : CT n0 τ M lc rc) (H : Q (some (.int (if fuT r τ = true then 1 else 0))) M) : E (h + 1) mdX1_isFullFor [.ref n0, .int r] M Q := by
  obtain ⟨⟨hE, -⟩, ⟨i1, i2, -⟩, -⟩ := hC
  have h9 : mI M n0 9 = Int32.ofNat τ.1.length := hE.2.2.1
  have h12 : mI M n0 12 = Int32.ofNat τ.2.2.2.1.length := hE.2.2.2.1
  have hl := hE.2.1
  unfold fuT at H
  refine KX1_isFullFor ?_
  unfold DX1_isFullFor_0 DX1_isFullFor_44 DX1_isFullFor_48 DX1_isFullFor_49 DX1_isFullFor_20
  rw [h9, h12, i1]
  have c16 : ((16 : Int32) ≤ Int32.ofNat τ.1.length) ↔ 16 ≤ τ.1.length := le32 (a := 16) (by decide) (by omega)
  have c4 : (Int32.ofNat (inL τ.2.1).length < 4) ↔ (inL τ.2.1).length < 4 := ltn32 (b := 4) (by omega) (by decide)
  have c6 : (Int32.ofNat τ.2.2.2.1.length < 6) ↔ τ.2.2.2.1.length < 6 := ltn32 (b := 6) (by omega) (by decide)
  refine ⟨fun q => ⟨hE.1, fun q2 => ⟨Or.inr rfl, ?_⟩, fun q2 => ⟨fun q3 => ⟨Or.inl rfl, ?_⟩, fun q3 => ⟨fun q4 => ⟨Or.inl rfl, ?_⟩, fun q4 => ⟨Or.inr rfl, ?_⟩⟩⟩⟩, fun q => ⟨hE.1, fun q2 => ⟨Or.inl rfl, ?_⟩, fun q2 => ⟨Or.inr rfl, ?_⟩⟩⟩
  · have z := c16.mp q2
    simpa [q, z] using H
  · have z : ¬ 16 ≤ τ.1.length := fun y => q2 (c16.mpr y)
    simpa [q, z, q3] using H
  · have z : ¬ 16 ≤ τ.1.length := fun y => q2 (c16.mpr y)
    have y : ¬ 4 ≤ (inL τ.2.1).length := by have := c4.mp q4; omega
    simpa [q, z, q3, y] using H
  · have z : ¬ 16 ≤ τ.1.length := fun y => q2 (c16.mpr y)
    have y : 4 ≤ (inL τ.2.1).length := by have : ¬ (inL τ.2.1).length < 4 := fun w => q4 (c4.mpr w); omega
    simpa [q, z, q3, y] using H
  · have y : ¬ 6 ≤ τ.2.2.2.1.length := by have := c6.mp q2; omega
    simpa [q, y] using H
  · have y : 6 ≤ τ.2.2.2.1.length := by have : ¬ τ.2.2.2.1.length < 6 := fun w => q2 (c6.mpr w); omega
    simpa [q, y] using H
theorem C_check {r : Int32} (hT : TI b n s M i o) (hC : CT n0 τ M lc rc) (hB : By b) (H1 : tK b n i = 2 → toT (tC b n i) τ = false → fuT r τ = false → Q none M) (H2 : tK b n i ≠ 2 → ∀ M', TF M' 2 (tP b n i) → TFr M M' → Q none M') (H3 : tK b n i = 2 → toT (tC b n i) τ = true → ∀ M', TF M' 3 (tP b n i) → TFr M M' → Q none M') (H6 : tK b n i = 2 → toT (tC b n i) τ = false → fuT r τ = true → ∀ M', TF M' 6 (tP b n i) → TFr M M' → Q none M') : E (h + 3) mdX4_checkNewName [.ref 14, .int r] M Q := by
  have F := hT.1
  have r7 : mR M 14 7 = some n0 := hC.1.2.2.2.2.2.2.2.2.2.1
  refine KX4_checkNewName ?_
  unfold DX4_checkNewName_0 DX4_checkNewName_70
  refine ⟨ok14 F, 15, rf14_0 F, ok15 F, fun hk => ?_, fun hk => ?_⟩
  · rw [hT.kind] at hk
    refine ⟨n0, r7, 15, rf14_0 F, ok15 F, hC.1.1.1, ?_⟩
    rw [hT.word hB hk]
    refine S_isTold hC.1.1 ?_
    have e : ((fd τ.1 (tC b n i)).isSome || (fd τ.2.2.2.1 (tC b n i)).isSome) = toT (tC b n i) τ := rfl
    rw [e]
    cases ht : toT (tC b n i) τ with
    | true => exact fun _ => ⟨_, rfl, fun z => absurd z (by decide), fun _ => ⟨15, rf14_0 F, ok15 F, A_fail hT (by decide) (fun M' T' F' _ => ⟨rfl, H3 hk ht M' T' F'⟩)⟩⟩
    | false =>
      refine fun _ => ⟨_, rfl, fun _ => ⟨n0, r7, hC.1.1.1, S_isFull hC ?_⟩, fun z => absurd rfl z⟩
      cases hf : fuT r τ with
      | true => exact fun _ => ⟨_, rfl, fun z => absurd z (by decide), fun _ => ⟨15, rf14_0 F, ok15 F, A_fail hT (by decide) (fun M' T' F' _ => ⟨rfl, H6 hk ht hf M' T' F'⟩)⟩⟩
      | false => exact fun _ => ⟨_, rfl, fun _ => H1 hk ht hf, fun z => absurd rfl z⟩
  · rw [hT.kind] at hk
    exact ⟨15, rf14_0 F, ok15 F, A_fail hT (by decide) (fun M' T' F' _ => ⟨rfl, H2 hk M' T' F'⟩)⟩
theorem X_check {r f : Int32} {p : Nat} (hT : TF M f p) (H : Q none M) : E (h + 3) mdX4_checkNewName [.ref 14, .int r] M Q := by
  have F := hT.1
  refine KX4_checkNewName ?_
  unfold DX4_checkNewName_0 DX4_checkNewName_70
  refine ⟨ok14 F, 15, rf14_0 F, ok15 F, fun hk => ?_, fun _ => ⟨15, rf14_0 F, ok15 F, F_fail hT (fun _ => ⟨rfl, H⟩)⟩⟩
  rw [hT.2.2.2.2.2] at hk
  exact absurd hk (by decide)
end
