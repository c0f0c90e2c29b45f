/-! the reference's calls over searches and modules -/
/-- k steps back from STATE s lies the first -/
def DpW (M : Mem) (m : Nat) : Nat → Nat → Prop
  | 0, s => s = 0
  | k + 1, s => ∃ c, c < s ∧ mAI M 126 (48 * m + s) = Int32.ofNat c ∧ DpW M m k c
def cntO (f : Nat → Int32) (a : Nat) : Nat → Nat
  | 0 => 0
  | n + 1 => cntO f a n + (if f (a + n) = 1 then 1 else 0)
/-- what module() tells of module i -/
def mdV (M : Mem) (i : Nat) (S : Nat) (w : Int32) : Int32 := if w = 0 then mAI M 34 i else if w = 1 then mAI M 35 i else if w = 2 then Int32.ofNat (cntO (mAI M 38) (16 * i) S) else if w = 3 then mAI M 36 i else if w = 4 then mAI M 54 i else if w = 5 then mAI M 55 i else if w = 6 then mAI M 56 i else if w = 7 then mAI M 57 i else -1
section
variable {M M1 M' : Mem} {m i n s t h mods govs : Nat} {Q : Option Value → Mem → Prop} {x y z w : Int32}
theorem DpW.ex (hr : SrI M m n) : ∀ s, s < n → ∃ k, k ≤ s ∧ DpW M m k s := by
  intro s
  induction s using Nat.strongRecOn with
  | ind s ih =>
    intro hs
    by_cases z : s = 0
    · exact ⟨0, Nat.zero_le _, z⟩
    · obtain ⟨c, c1, c2⟩ := hr.2.2.2 s (by omega) hs
      obtain ⟨k, k1, k2⟩ := ih c c1 (by omega)
      exact ⟨k + 1, by omega, c, c1, c2, k2⟩
theorem SrG.one (hG : SrG M m) (e : mAI M 122 m = 1) : ∃ n t f, SrI M m n ∧ FrE M m t ∧ t ≤ 5 ∧ ClF M m n f := by
  rcases hG with g | g | g
  · rw [e] at g; exact absurd g (by decide)
  · rw [e] at g; exact absurd g (by decide)
  · exact g.2
theorem RvS.lt (hR : RvS M mods govs) (hi : i < mods) : i < 4 := Nat.lt_of_lt_of_le hi hR.1.2.1.2.1
theorem R_search (hR : RvS M mods govs) (K : ∀ M' (r : Int32), RvS M' mods govs → RrF M M' → mI M' 29 123 = mI M 29 123 → mI M' 29 124 = mI M 29 124 → Q (some (.int r)) M') : E (h + 8) mdX11_search [.ref 29, .int x] M Q := by
  have F := hR.1.1
  refine KX11_search (h := h + 7) ?_
  unfold DX11_search_0 DX11_search_36
  refine ⟨ok29 F, R_isMod (h := h + 5) hR.1 (fun i hi e _ => ⟨1, rfl, fun _ => ?_, fun z => absurd z (by decide)⟩) (fun _ _ => ⟨0, rfl, fun z => absurd rfl z, fun _ => K M _ hR RfF.rf rfl rfl⟩)⟩
  rw [e]
  refine R_lkm (h := h) hR hi (fun M4 k4 R4 nz _ => ⟨rfl, ?_⟩)
  have F4 := R4.1.1
  have i4 := hR.lt hi
  have vi : ∀ {k : Nat}, k = 4 → vp_in (Int32.ofNat i) k := fun e => by rw [e]; exact vp_of (by omega) (by decide)
  have f : ∀ j, ¬ (83 ≤ j ∧ j ≤ 89) → mI M4 29 j = mI M 29 j := fun j hj => k4.1.2.2.2.1 j hj
  exact ⟨122, rf29_114 F4, ok122 F4, vi (ln122 F4), fun _ => K M4 _ R4 k4.rr (f 123 (by omega)) (f 124 (by omega)), fun _ => ⟨123, rf29_115 F4, ok123 F4, vi (ln123 F4), K M4 _ R4 k4.rr (f 123 (by omega)) (f 124 (by omega))⟩⟩
theorem R_move (hR : RvS M mods govs) (K : ∀ M' (r : Int32), RvS M' mods govs → RrF M M' → mI M' 29 123 = mI M 29 123 → mI M' 29 124 = mI M 29 124 → Q (some (.int r)) M') : E (h + 9) mdX11_move [.ref 29, .int x, .int y, .int z, .int w] M Q := by
  have F := hR.1.1
  refine KX11_move (h := h + 8) ?_
  unfold DX11_move_0 DX11_move_54 DX11_move_92
  refine ⟨ok29 F, R_isSd (h := h) hR (fun M2 R2 k2 f1 f2 _ => ⟨0, rfl, fun _ => K M2 _ R2 k2 f1 f2, fun z => absurd rfl z⟩) (fun i M2 hi e R2 k2 e2 _ => ⟨1, rfl, fun z => absurd z (by decide), fun _ => ?_⟩)⟩
  rw [e]
  have F2 := R2.1.1
  have i4 := hR.lt hi
  have vi : ∀ {k : Nat}, k = 4 → vp_in (Int32.ofNat i) k := fun e => by rw [e]; exact vp_of (by omega) (by decide)
  have f : ∀ j, ¬ (83 ≤ j ∧ j ≤ 89) → mI M2 29 j = mI M 29 j := fun j hj => k2.1.2.2.2.1 j hj
  have KK : ∀ r, Q (some (.int r)) M2 := fun r => K M2 r R2 k2.rr (f 123 (by omega)) (f 124 (by omega))
  obtain ⟨n, t, g, hr, hf, t5, hC⟩ := (R2.2.2 i hi).2.1.one e2
  obtain ⟨p1, p2⟩ := pw_le t5
  have n48 := hr.2.1.2
  refine ⟨123, rf29_115 F2, ok123 F2, vi (ln123 F2), ?_⟩
  rw [lt32 (show i < 2147483648 by omega), hr.1]
  refine S_inN (h := h + 7) (by omega) (fun s hs es _ => ⟨1, rfl, fun z => absurd z (by decide), fun _ => ?_⟩) (fun _ _ => ⟨0, rfl, fun _ => KK _, fun z => absurd rfl z⟩)
  refine R_moves (h := h + 7) F2 i4 hf t5 (fun _ => ⟨_, rfl, ?_⟩)
  refine S_inN (h := h + 7) (by omega) (fun v hv ev _ => ⟨1, rfl, fun z => absurd z (by decide), fun _ => ?_⟩) (fun _ _ => ⟨0, rfl, fun _ => KK _, fun z => absurd rfl z⟩)
  have e2 : (1 : Int64) = (Int32.ofNat 2 - 1).toInt64 := by decide
  rw [e2]
  have eat : 32 * (48 * Int32.ofNat i + y) + z = Int32.ofNat (32 * (48 * i + s) + v) := by rw [es, ev, ix48, ix32]
  have vat : ∀ {k : Nat}, k = 6144 → vp_in (Int32.ofNat (32 * (48 * i + s) + v)) k := fun e => by rw [e]; exact vp_of (by omega) (by decide)
  rw [eat]
  exact S_inN (h := h + 7) (by decide) (fun _ _ _ _ => ⟨1, rfl, fun _ => ⟨fun _ => ⟨130, rf29_122 F2, ok130 F2, vat (ln130 F2), KK _⟩, fun _ => ⟨129, rf29_121 F2, ok129 F2, vat (ln129 F2), KK _⟩⟩, fun z => absurd z (by decide)⟩) (fun _ _ => ⟨0, rfl, fun z => absurd rfl z, fun _ => KK _⟩)
theorem R_classOf (hR : RvS M mods govs) (K : ∀ M' (r : Int32), RvS M' mods govs → RrF M M' → mI M' 29 123 = mI M 29 123 → mI M' 29 124 = mI M 29 124 → Q (some (.int r)) M') : E (h + 9) mdX11_classOf [.ref 29, .int x, .int y] M Q := by
  have F := hR.1.1
  refine KX11_classOf (h := h + 8) ?_
  unfold DX11_classOf_0 DX11_classOf_40 DX11_classOf_42
  refine ⟨ok29 F, R_isSd (h := h) hR (fun M2 R2 k2 f1 f2 _ => ⟨0, rfl, fun _ => K M2 _ R2 k2 f1 f2, fun z => absurd rfl z⟩) (fun i M2 hi e R2 k2 e2 _ => ⟨1, rfl, fun z => absurd z (by decide), fun _ => ?_⟩)⟩
  rw [e]
  have F2 := R2.1.1
  have i4 := hR.lt hi
  have vi : ∀ {k : Nat}, k = 4 → vp_in (Int32.ofNat i) k := fun e => by rw [e]; exact vp_of (by omega) (by decide)
  have f : ∀ j, ¬ (83 ≤ j ∧ j ≤ 89) → mI M2 29 j = mI M 29 j := fun j hj => k2.1.2.2.2.1 j hj
  have KK : ∀ r, Q (some (.int r)) M2 := fun r => K M2 r R2 k2.rr (f 123 (by omega)) (f 124 (by omega))
  obtain ⟨n, t, g, hr, hf, t5, hC⟩ := (R2.2.2 i hi).2.1.one e2
  have n48 := hr.2.1.2
  refine ⟨123, rf29_115 F2, ok123 F2, vi (ln123 F2), ?_⟩
  rw [lt32 (show i < 2147483648 by omega), hr.1]
  refine S_inN (h := h + 7) (by omega) (fun s hs es _ => ⟨1, rfl, fun z => absurd z (by decide), fun _ => ⟨128, rf29_120 F2, ok128 F2, ?_, KK _⟩⟩) (fun _ _ => ⟨0, rfl, fun _ => KK _, fun z => absurd rfl z⟩)
  have e48 : 48 * Int32.ofNat i + Int32.ofNat s = Int32.ofNat (48 * i + s) := by rw [Int32.ofNat_add, Int32.ofNat_mul]; rfl
  rw [es, e48, ln128 F2]
  exact vp_of (by omega) (by decide)
theorem R_way (hR : RvS M mods govs) (K : ∀ M' (r : Int32), RvS M' mods govs → RrF M M' → mI M' 29 123 = mI M 29 123 → mI M' 29 124 = mI M 29 124 → Q (some (.int r)) M') : E (h + 9) mdX11_way [.ref 29, .int x, .int y, .int z] M Q := by
  have F := hR.1.1
  refine KX11_way (h := h + 8) ?_
  unfold DX11_way_0 DX11_way_26
  refine ⟨ok29 F, R_isSd (h := h) hR (fun M2 R2 k2 f1 f2 _ => ⟨0, rfl, fun _ => K M2 _ R2 k2 f1 f2, fun z => absurd rfl z⟩) (fun i M2 hi e R2 k2 e2 _ => ⟨1, rfl, fun z => absurd z (by decide), fun _ => ?_⟩)⟩
  rw [e]
  have F2 := R2.1.1
  have i4 := hR.lt hi
  have vi : ∀ {k : Nat}, k = 4 → vp_in (Int32.ofNat i) k := fun e => by rw [e]; exact vp_of (by omega) (by decide)
  have f : ∀ j, ¬ (83 ≤ j ∧ j ≤ 89) → mI M2 29 j = mI M 29 j := fun j hj => k2.1.2.2.2.1 j hj
  have KK : ∀ r, Q (some (.int r)) M2 := fun r => K M2 r R2 k2.rr (f 123 (by omega)) (f 124 (by omega))
  obtain ⟨n, t, g, hr, hf, t5, hC⟩ := (R2.2.2 i hi).2.1.one e2
  have n48 := hr.2.1.2
  have e48 : ∀ s : Nat, 48 * Int32.ofNat i + Int32.ofNat s = Int32.ofNat (48 * i + s) := fun s => by rw [Int32.ofNat_add, Int32.ofNat_mul]; rfl
  have v48 : ∀ {k : Nat} (s : Nat), s < n → k = 192 → vp_in (Int32.ofNat (48 * i + s)) k := fun s hs e => by rw [e]; exact vp_of (by omega) (by decide)
  have l48 : ∀ s, s < n → (Int32.ofNat (48 * i + s)).toNatClampNeg = 48 * i + s := fun s hs => lt32 (by omega)
  refine ⟨123, rf29_115 F2, ok123 F2, vi (ln123 F2), ?_⟩
  rw [lt32 (show i < 2147483648 by omega), hr.1]
  refine S_inN (h := h + 7) (by omega) (fun s hs es _ => ⟨1, rfl, fun _ => ?_, fun z => absurd z (by decide)⟩) (fun _ _ => ⟨0, rfl, fun z => absurd rfl z, fun _ => KK _⟩)
  rw [es]
  -- back to the STATE asked for
  have l105 : ∀ k q j, j < 1000 → DpW M2 i (k + 1) q → q < n → k < 100 → T (h + 9) mdX11_way 105 [(0, .ref 29), (1, .int (Int32.ofNat i)), (3, .int (Int32.ofNat j)), (5, .int (Int32.ofNat q)), (6, .int (Int32.ofNat k))] [] M2 Q := by
    intro k
    induction k with
    | zero =>
      intro q j j9 hd hq hk
      refine VX11_way_105 (h := h + 8) ?_
      unfold DX11_way_105
      rw [e48]
      refine ⟨fun _ => ⟨ok29 F2, 127, rf29_119 F2, ok127 F2, v48 q hq (ln127 F2), KK _⟩, fun y => ⟨ok29 F2, 126, rf29_118 F2, ok126 F2, v48 q hq (ln126 F2), ?_⟩⟩
      exact absurd ((le32 (a := 0) (by decide) (by omega)).mpr (Nat.zero_le _)) y
    | succ k ih =>
      intro q j j9 hd hq hk
      refine VX11_way_105 (h := h + 8) ?_
      unfold DX11_way_105
      rw [e48, l48 q hq]
      refine ⟨fun _ => ⟨ok29 F2, 127, rf29_119 F2, ok127 F2, v48 q hq (ln127 F2), KK _⟩, fun y => ⟨ok29 F2, 126, rf29_118 F2, ok126 F2, v48 q hq (ln126 F2), ?_⟩⟩
      obtain ⟨c, c1, c2, c3⟩ := hd
      rw [c2, show Int32.ofNat (k + 1) + (-1) = Int32.ofNat k from by rw [← succ32, Int32.add_assoc]; exact Int32.add_zero _]
      exact ih c j j9 c3 (by omega) (by omega)
  have l35 : ∀ k q k', DpW M2 i k q → q < n → k + k' < 100 → DpW M2 i (k + k') s → T (h + 9) mdX11_way 35 [(0, .ref 29), (1, .int (Int32.ofNat i)), (2, .int (Int32.ofNat s)), (3, .int z), (4, .int (Int32.ofNat k')), (5, .int (Int32.ofNat q))] [] M2 Q := by
    intro k
    induction k with
    | zero =>
      intro q k' hd hq hk hs2
      have q0 : q = 0 := hd
      subst q0
      refine VX11_way_35 (h := h + 8) ?_
      unfold DX11_way_35
      rw [e48, l48 0 hq]
      refine ⟨ok29 F2, 126, rf29_118 F2, ok126 F2, v48 0 hq (ln126 F2), fun _ => ⟨fun nz => ?_, fun _ => KK _⟩, fun y => absurd hr.2.2.1 y⟩
      rw [Nat.zero_add] at hs2
      refine S_inN (h := h + 7) (by omega) (fun j hj ej _ => ⟨1, rfl, fun _ => ?_, fun z => absurd z (by decide)⟩) (fun _ _ => ⟨0, rfl, fun z => absurd rfl z, fun _ => KK _⟩)
      rw [ej]
      obtain ⟨k1, rfl⟩ : ∃ k1, k' = k1 + 1 := ⟨k' - 1, by omega⟩
      rw [show Int32.ofNat (k1 + 1) - 1 = Int32.ofNat k1 from by rw [← succ32, Int32.add_sub_cancel]]
      exact l105 k1 s j (by omega) hs2 hs (by omega)
    | succ k ih =>
      intro q k' hd hq hk hs2
      obtain ⟨c, c1, c2, c3⟩ := hd
      refine VX11_way_35 (h := h + 8) ?_
      unfold DX11_way_35
      rw [e48, l48 q hq, succ32]
      refine ⟨ok29 F2, 126, rf29_118 F2, ok126 F2, v48 q hq (ln126 F2), fun y => ?_, fun _ => ⟨126, rf29_118 F2, ok126 F2, v48 q hq (ln126 F2), ?_⟩⟩
      · rw [c2] at y
        exact absurd y (oi_ne (k := c) (by omega))
      · rw [c2]
        exact ih c (k' + 1) c3 (by omega) (by omega) (by rw [show k + (k' + 1) = k + 1 + k' by omega]; exact hs2)
  obtain ⟨k, k1, k2⟩ := DpW.ex hr s hs
  exact l35 k s 0 k2 hs (by omega) (by rw [Nat.add_zero]; exact k2)
/-- what seeks writes -/
abbrev AgF (M M' : Mem) : Prop := RfF (fun f => f = 123 ∨ f = 124) noP noP M M'
theorem RvS.ag (hR : RvS M mods govs) (k : AgF M M') : RvS M' mods govs := by
  obtain ⟨⟨F, ⟨a1, a2, a3⟩, ⟨b1, b2⟩, c, d, e⟩, g, q⟩ := hR
  have f : ∀ j, ¬ (j = 123 ∨ j = 124) → mI M' 29 j = mI M 29 j := fun j hj => k.2.2.2.1 j hj
  have r : mAI M' = mAI M := by funext c; exact k.2.2.2.2.1 c (fun z => z)
  refine ⟨⟨RfF.fix k F (fun z => z), ⟨by rw [f 18 (by omega)]; exact a1, a2, fun j => by rw [r]; exact a3 j⟩, ⟨by rw [f 91 (by omega)]; exact b1, b2⟩, by rw [r]; exact c, by rw [r]; exact d, by rw [r]; exact e⟩, g.k (by rw [r]), fun m hm => ?_⟩
  obtain ⟨⟨R, sl, il, X, np, e, hB⟩, g, f, f1, f2⟩ := q m hm
  refine ⟨⟨R, sl, il, X, np, e, hB.br k (fun c z => z.elim) (fun c z => z.elim)⟩, ?_, f, f1, by rw [r]; exact f2⟩
  unfold SrG SrI FrE ClF
  rw [r]
  exact g
theorem R_seek (hR : RvS M mods govs) (hi : i < mods) (e2 : mAI M 122 i = 1) (K : ∀ M' (r : Int32), AgF M M' → RvS M' mods govs → Q (some (.int r)) M') : E (h + 2) mdX11_seek [.ref 29, .int (Int32.ofNat i), .int x, .int y] M Q := by
  have i4 := hR.lt hi
  have vi : ∀ {k : Nat}, k = 4 → vp_in (Int32.ofNat i) k := fun e => by rw [e]; exact vp_of (by omega) (by decide)
  have li : (Int32.ofNat i).toNatClampNeg = i := lt32 (by omega)
  obtain ⟨n, t, g, hr, hf, t5, hC⟩ := (hR.2.2 i hi).2.1.one e2
  obtain ⟨p1, p2⟩ := pw_le t5
  have n48 := hr.2.1.2
  have rw0 : ∀ {M1 : Mem}, AgF M M1 → mAI M1 = mAI M := fun k => by funext c; exact k.2.2.2.2.1 c (fun z => z)
  have d121 : ∀ M1, AgF M M1 → DX11_seek_121 (h + 1) 29 M1 Q := fun M1 k1 => by
    unfold DX11_seek_121 DX11_seek_134
    exact ⟨ok29 (hR.ag k1).1.1, fun _ => K M1 _ k1 (hR.ag k1), fun _ => K M1 _ k1 (hR.ag k1)⟩
  have l13 : ∀ d s M1, s + d = n → AgF M M1 → T (h + 2) mdX11_seek 13 [(0, .ref 29), (1, .int (Int32.ofNat i)), (2, .int x), (3, .int y), (4, .int (Int32.ofNat s))] [] M1 Q := by
    intro d
    induction d with
    | zero =>
      intro s M1 hs k1
      have es : s = n := by omega
      subst es
      have F1 := (hR.ag k1).1.1
      refine VX11_seek_13 (h := h + 1) ?_
      unfold DX11_seek_13
      refine ⟨ok29 F1, 123, rf29_115 F1, ok123 F1, vi (ln123 F1), ?_⟩
      rw [li, rw0 k1, hr.1]
      exact ⟨fun _ => d121 M1 k1, fun z => absurd Int32.le_rfl z⟩
    | succ d ih =>
      intro s M1 hs k1
      have F1 := (hR.ag k1).1.1
      have l35 : ∀ e v M2, v + e = 2 ^ t → AgF M M2 → T (h + 2) mdX11_seek 35 [(0, .ref 29), (1, .int (Int32.ofNat i)), (2, .int x), (3, .int y), (4, .int (Int32.ofNat s)), (5, .int (Int32.ofNat v))] [] M2 Q := by
        intro e
        induction e with
        | zero =>
          intro v M2 hv k2
          have ev : v = 2 ^ t := by omega
          subst ev
          have F2 := (hR.ag k2).1.1
          have hf2 : FrE M2 i t := by unfold FrE; rw [rw0 k2]; exact hf
          refine VX11_seek_35 (h := h + 1) ?_
          unfold DX11_seek_35 DX11_seek_115
          rw [succ32]
          exact ⟨ok29 F2, R_moves (h := h) F2 i4 hf2 t5 (fun _ => ⟨_, rfl, fun _ => ih (s + 1) M2 (by omega) k2, fun z => absurd Int32.le_rfl z⟩)⟩
        | succ e ihe =>
          intro v M2 hv k2
          have F2 := (hR.ag k2).1.1
          have hf2 : FrE M2 i t := by unfold FrE; rw [rw0 k2]; exact hf
          have nle : ¬ Int32.ofNat (2 ^ t) ≤ Int32.ofNat v := fun z => by
            have := (le32 (by omega) (by omega)).mp z
            omega
          have eat : 32 * (48 * Int32.ofNat i + Int32.ofNat s) + Int32.ofNat v = Int32.ofNat (32 * (48 * i + s) + v) := by rw [ix48, ix32]
          have vat : ∀ {k : Nat}, k = 6144 → vp_in (Int32.ofNat (32 * (48 * i + s) + v)) k := fun e => by rw [e]; exact vp_of (by omega) (by decide)
          have d97 : DX11_seek_97 (h + 1) 29 (Int32.ofNat i) x y (Int32.ofNat s) (Int32.ofNat v) M2 Q := by
            unfold DX11_seek_97 DX11_seek_109
            rw [succ32]
            exact ⟨ok29 F2, fun M3 e3 M4 e4 => ihe (v + 1) M4 (by omega) ((k2.tr (RfF.i (Or.inl rfl) e3)).tr (RfF.i (Or.inr rfl) e4))⟩
          refine VX11_seek_35 (h := h + 1) ?_
          unfold DX11_seek_35 DX11_seek_115 DX11_seek_109
          rw [succ32, succ32, eat]
          exact ⟨ok29 F2, R_moves (h := h) F2 i4 hf2 t5 (fun _ => ⟨_, rfl, fun z => absurd z nle, fun _ => ⟨fun _ => ih (s + 1) M2 (by omega) k2, fun _ => ⟨130, rf29_122 F2, ok130 F2, vat (ln130 F2), fun _ => ihe (v + 1) M2 (by omega) k2, fun _ => ⟨fun _ => d97, fun _ => ⟨fun _ => ihe (v + 1) M2 (by omega) k2, fun _ => d97⟩⟩⟩⟩⟩)⟩
      refine VX11_seek_13 (h := h + 1) ?_
      unfold DX11_seek_13
      refine ⟨ok29 F1, 123, rf29_115 F1, ok123 F1, vi (ln123 F1), ?_⟩
      rw [li, rw0 k1, hr.1]
      exact ⟨fun _ => d121 M1 k1, fun _ => ⟨fun _ => d121 M1 k1, fun _ => l35 (2 ^ t) 0 M1 (by omega) k1⟩⟩
  refine KX11_seek (h := h + 1) ?_
  unfold DX11_seek_0
  exact ⟨ok29 hR.1.1, fun M2 e2 M3 e3 => l13 n 0 M3 (by omega) ((RfF.i (Or.inl rfl) e2).tr (RfF.i (Or.inr rfl) e3))⟩
theorem R_seeks (hR : RvS M mods govs) (hi : i < mods) (e2 : mAI M 122 i = 1) (K : ∀ M' (r : Int32), AgF M M' → RvS M' mods govs → Q (some (.int r)) M') : E (h + 3) mdX11_seeks [.ref 29, .int (Int32.ofNat i), .int x, .int y] M Q := by
  refine KX11_seeks (h := h + 2) ?_
  unfold DX11_seeks_0 DX11_seeks_39
  refine ⟨ok29 hR.1.1, R_seek (h := h) hR hi e2 (fun M2 r k2 R2 _ => ⟨r, rfl, fun _ => K M2 r k2 R2, fun _ M4 e4 M5 e5 => ?_⟩)⟩
  have k5 : AgF M M5 := k2.tr ((RfF.i (Or.inl rfl) e4).tr (RfF.i (Or.inr rfl) e5))
  exact K M5 r k5 (hR.ag k5)
theorem AgF.rr (k : AgF M M') : RrF M M' := RfF.mo k (fun _ z => Or.inr z) (fun c z => z.elim) (fun c z => z.elim)
theorem R_never (hR : RvS M mods govs) (K : ∀ M' (r : Int32), RvS M' mods govs → RrF M M' → Q (some (.int r)) M') : E (h + 9) mdX11_never [.ref 29, .int x, .int y] M Q := by
  have F := hR.1.1
  refine KX11_never (h := h + 8) ?_
  unfold DX11_never_0 DX11_never_36 DX11_never_38
  refine ⟨ok29 F, R_isSd (h := h) hR (fun M2 R2 k2 _ _ _ => ⟨0, rfl, fun _ => K M2 _ R2 k2, fun z => absurd rfl z⟩) (fun i M2 hi e R2 k2 e2 _ => ⟨1, rfl, fun z => absurd z (by decide), fun _ => ?_⟩)⟩
  rw [e]
  have F2 := R2.1.1
  have i4 := hR.lt hi
  obtain ⟨⟨S, s1, s2⟩, -⟩ := R2.1.2.2.2.2.2 i hi
  refine ⟨34, rf29_8 F2, ok34 F2, by rw [ln34 F2]; exact vp_of (by omega) (by decide), ?_⟩
  rw [lt32 (show i < 2147483648 by omega), s2]
  exact S_inN (h := h + 7) (by omega) (fun s hs es _ => ⟨1, rfl, fun z => absurd z (by decide), fun _ => R_seeks (h := h + 5) R2 hi e2 (fun M8 r k8 R8 _ => ⟨r, rfl, K M8 r R8 (RfF.tr k2.rr k8.rr)⟩)⟩) (fun _ _ => ⟨0, rfl, fun _ => K M2 _ R2 k2.rr, fun z => absurd rfl z⟩)
theorem R_always (hR : RvS M mods govs) (K : ∀ M' (r : Int32), RvS M' mods govs → RrF M M' → Q (some (.int r)) M') : E (h + 9) mdX11_always [.ref 29, .int x, .int y, .int z] M Q := by
  have F := hR.1.1
  refine KX11_always (h := h + 8) ?_
  unfold DX11_always_0 DX11_always_54 DX11_always_56
  refine ⟨ok29 F, R_isSd (h := h) hR (fun M2 R2 k2 _ _ _ => ⟨0, rfl, fun _ => K M2 _ R2 k2, fun z => absurd rfl z⟩) (fun i M2 hi e R2 k2 e2 _ => ⟨1, rfl, fun z => absurd z (by decide), fun _ => ?_⟩)⟩
  rw [e]
  have F2 := R2.1.1
  have i4 := hR.lt hi
  obtain ⟨⟨S, s1, s2⟩, -⟩ := R2.1.2.2.2.2.2 i hi
  refine ⟨34, rf29_8 F2, ok34 F2, by rw [ln34 F2]; exact vp_of (by omega) (by decide), ?_⟩
  rw [lt32 (show i < 2147483648 by omega), s2]
  refine S_inN (h := h + 7) (by omega) (fun s hs es _ => ⟨1, rfl, fun z => absurd z (by decide), fun _ => ⟨34, rf29_8 F2, ok34 F2, by rw [ln34 F2]; exact vp_of (by omega) (by decide), ?_⟩⟩) (fun _ _ => ⟨0, rfl, fun _ => K M2 _ R2 k2.rr, fun z => absurd rfl z⟩)
  rw [s2]
  exact S_inN (h := h + 7) (by omega) (fun s hs es _ => ⟨1, rfl, fun z => absurd z (by decide), fun _ => R_seeks (h := h + 5) R2 hi e2 (fun M8 r k8 R8 _ => ⟨r, rfl, K M8 r R8 (RfF.tr k2.rr k8.rr)⟩)⟩) (fun _ _ => ⟨0, rfl, fun _ => K M2 _ R2 k2.rr, fun z => absurd rfl z⟩)
theorem R_module (hR : RGs M mods govs) (K0 : (∀ i, i < mods → x ≠ Int32.ofNat i) → Q (some (.int (-1))) M) (K : ∀ i S, i < mods → x = Int32.ofNat i → mAI M 34 i = Int32.ofNat S → S ≤ 16 → Q (some (.int (mdV M i S w))) M) : E (h + 3) mdX11_module [.ref 29, .int x, .int w] M Q := by
  have F := hR.1
  refine KX11_module (h := h + 2) ?_
  unfold DX11_module_0
  refine ⟨ok29 F, R_isMod (h := h) hR (fun i hi e _ => ⟨1, rfl, fun _ => ?_, fun z => absurd z (by decide)⟩) (fun ne _ => ⟨0, rfl, fun z => absurd rfl z, fun _ => K0 ne⟩)⟩
  have i4 : i < 4 := Nat.lt_of_lt_of_le hi hR.2.1.2.1
  have vi : ∀ {k : Nat}, k = 4 → vp_in (Int32.ofNat i) k := fun e => by rw [e]; exact vp_of (by omega) (by decide)
  have li : (Int32.ofNat i).toNatClampNeg = i := lt32 (by omega)
  obtain ⟨⟨S, s1, s2⟩, -⟩ := hR.2.2.2.2.2 i hi
  have KK : ∀ v, mdV M i S w = v → Q (some (.int v)) M := fun v e2 => by rw [← e2]; exact K i S hi e s2 s1
  rw [e, li]
  have l75 : ∀ d s, s + d = S → w = 2 → T (h + 3) mdX11_module 75 [(0, .ref 29), (1, .int (Int32.ofNat i)), (3, .int (Int32.ofNat (cntO (mAI M 38) (16 * i) s))), (4, .int (Int32.ofNat s))] [] M Q := by
    intro d
    induction d with
    | zero =>
      intro s hs e2
      have es : s = S := by omega
      subst es
      refine VX11_module_75 (h := h + 2) ?_
      unfold DX11_module_75
      refine ⟨ok29 F, 34, rf29_8 F, ok34 F, vi (ln34 F), ?_⟩
      rw [li, s2]
      exact ⟨fun _ => KK _ (by rw [e2]; rfl), fun z => absurd Int32.le_rfl z⟩
    | succ d ih =>
      intro s hs e2
      have e16 : 16 * Int32.ofNat i + Int32.ofNat s = Int32.ofNat (16 * i + s) := by rw [Int32.ofNat_add, Int32.ofNat_mul]; rfl
      have l16 : (Int32.ofNat (16 * i + s)).toNatClampNeg = 16 * i + s := lt32 (by omega)
      refine VX11_module_75 (h := h + 2) ?_
      unfold DX11_module_75 DX11_module_108
      refine ⟨ok29 F, 34, rf29_8 F, ok34 F, vi (ln34 F), ?_⟩
      rw [li, s2, e16, l16, succ32]
      have nx := ih (s + 1) (by omega) e2
      refine ⟨fun z => absurd ((le32 (by omega) (by omega)).mp z) (by omega), fun _ => ⟨38, rf29_12 F, ok38 F, by rw [ln38 F]; exact vp_of (by omega) (by decide), fun z => ?_, fun z => ?_⟩⟩
      · rw [show cntO (mAI M 38) (16 * i) (s + 1) = cntO (mAI M 38) (16 * i) s from by show _ + _ = _; rw [if_neg z, Nat.add_zero]] at nx
        rw [Int32.add_zero]
        exact nx
      · rw [show cntO (mAI M 38) (16 * i) (s + 1) = cntO (mAI M 38) (16 * i) s + 1 from by show _ + _ = _; rw [if_pos z], ← succ32] at nx
        exact nx
  have out : ((w : Int32).toInt < 0 ∨ 7 < (w : Int32).toInt) → mdV M i S w = -1 := fun hw => by
    unfold mdV
    have ne : ∀ k : Int32, 0 ≤ k.toInt → k.toInt ≤ 7 → w ≠ k := fun k k1 k2 z => by rw [z] at hw; omega
    rw [if_neg (ne 0 (by decide) (by decide)), if_neg (ne 1 (by decide) (by decide)), if_neg (ne 2 (by decide) (by decide)), if_neg (ne 3 (by decide) (by decide)), if_neg (ne 4 (by decide) (by decide)), if_neg (ne 5 (by decide) (by decide)), if_neg (ne 6 (by decide) (by decide)), if_neg (ne 7 (by decide) (by decide))]
  refine ⟨fun z => ⟨34, rf29_8 F, ok34 F, vi (ln34 F), KK _ (by rw [z]; rfl)⟩, fun z => ⟨35, rf29_9 F, ok35 F, vi (ln35 F), KK _ (by rw [z]; rfl)⟩, fun z => l75 S 0 (by omega) z, fun z => ⟨36, rf29_10 F, ok36 F, vi (ln36 F), KK _ (by rw [z]; rfl)⟩, fun z => ⟨54, rf29_34 F, ok54 F, vi (ln54 F), KK _ (by rw [z]; rfl)⟩, fun z => ⟨55, rf29_35 F, ok55 F, vi (ln55 F), KK _ (by rw [z]; rfl)⟩, fun z => ⟨56, rf29_36 F, ok56 F, vi (ln56 F), KK _ (by rw [z]; rfl)⟩, fun z => ⟨57, rf29_37 F, ok57 F, vi (ln57 F), KK _ (by rw [z]; rfl)⟩, fun z => KK _ (out z)⟩
theorem R_prtC (hR : RGs M mods govs) (K0 : (∀ i j k, i < mods → x = Int32.ofNat i → mAI M 54 i = Int32.ofNat k → k ≤ 40 → j < k → y ≠ Int32.ofNat j) → Q (some (.int (-1))) M) (K : ∀ i j k, i < mods → x = Int32.ofNat i → mAI M 54 i = Int32.ofNat k → k ≤ 40 → j < k → y = Int32.ofNat j → Q (some (.int (mAI M 59 (40 * i + j)))) M) : E (h + 3) mdX11_part [.ref 29, .int x, .int y] M Q := by
  have F := hR.1
  refine KX11_part (h := h + 2) ?_
  unfold DX11_part_0 DX11_part_40 DX11_part_41
  refine ⟨ok29 F, R_isMod (h := h) hR (fun i hi e _ => ⟨1, rfl, fun z => absurd z (by decide), fun _ => ?_⟩) (fun ne _ => ⟨0, rfl, fun _ => K0 (fun i j k hi e => absurd e (ne i hi)), fun z => absurd rfl z⟩)⟩
  have i4 : i < 4 := Nat.lt_of_lt_of_le hi hR.2.1.2.1
  obtain ⟨-, -, -, ⟨k, k1, k2⟩, -⟩ := hR.2.2.2.2.2 i hi
  rw [e]
  refine ⟨54, rf29_34 F, ok54 F, by rw [ln54 F]; exact vp_of (by omega) (by decide), ?_⟩
  rw [lt32 (show i < 2147483648 by omega), k2]
  refine S_inN (h := h + 1) (by omega) (fun j hj ej _ => ⟨1, rfl, fun z => absurd z (by decide), fun _ => ⟨59, rf29_39 F, ok59 F, ?_, ?_⟩⟩) (fun ne _ => ⟨0, rfl, fun _ => K0 (fun i2 j k2' hi2 e2 q1 q2 q3 => ?_), fun z => absurd rfl z⟩)
  · have e40 : 40 * Int32.ofNat i + Int32.ofNat j = Int32.ofNat (40 * i + j) := by rw [Int32.ofNat_add, Int32.ofNat_mul]; rfl
    rw [ej, e40, ln59 F]
    exact vp_of (by omega) (by decide)
  · have e40 : 40 * Int32.ofNat i + Int32.ofNat j = Int32.ofNat (40 * i + j) := by rw [Int32.ofNat_add, Int32.ofNat_mul]; rfl
    rw [ej, e40, lt32 (show 40 * i + j < 2147483648 by omega)]
    exact K i j k hi e k2 k1 hj ej
  · have e3 : i = i2 := by
      rw [e] at e2
      exact inj32 (by omega) (by have := Nat.lt_of_lt_of_le hi2 hR.2.1.2.1; omega) e2
    subst e3
    have e4 : k = k2' := inj32 (by omega) (by omega) (k2.symm.trans q1)
    subst e4
    exact ne j q3
end
