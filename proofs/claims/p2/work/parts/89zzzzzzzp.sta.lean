/-! the circuit stands -/
/-- told nets have their truths in every lane, all others are not known or told -/
def TdI (len : Nat) (tb : Nat → Bool) (tv : Nat → Nat → Nat) (dn : Nat → Prop) (Y Z : Nat → Int32) : Prop := CoL len Y Z ∧ ∀ l, l < 32 → ∀ j, j < len → (laV len Y Z l j = 2 ∨ (tb j = true ∧ laV len Y Z l j = tv l j)) ∧ (dn j → laV len Y Z l j = tv l j)
section
variable {len n : Nat} {tb : Nat → Bool} {tv : Nat → Nat → Nat} {dn dn' : Nat → Prop} {Y Z Y' Z' : Nat → Int32} {w : Int32}
theorem TdI.tl (h : TdI len tb tv dn Y Z) (k : TlL len n w Y Z Y' Z') (hb : tb n = true) (hw : ∀ l, l < 32 → (if btL w l = true then 1 else 0) = tv l n) (hd : ∀ j, j < len → dn' j → dn j ∨ j = n) : TdI len tb tv dn' Y' Z' := by
  refine ⟨k.1, fun l hl j hj => ?_⟩
  rw [k.2 l hl j]
  by_cases e : j = n
  · rw [if_pos e, e, hw l hl]
    exact ⟨Or.inr ⟨hb, rfl⟩, fun _ => rfl⟩
  · rw [if_neg e]
    refine ⟨(h.2 l hl j hj).1, fun q => (h.2 l hl j hj).2 ?_⟩
    rcases hd j hj q with y | y
    · exact y
    · exact absurd y e
theorem TdI.j {N : Nt} (h : TdI N.length tb tv dn Y Z) (hd : ∀ j, j < N.length → tb j = true → dn j) : LnJ N tb tv Y Z := by
  refine ⟨h.1, fun l hl => ⟨JF.st0 (fun j => ?_), fun j hj ht => (h.2 l hl j hj).2 (hd j hj ht)⟩⟩
  by_cases hj : j < N.length
  · rcases (h.2 l hl j hj).1 with e | ⟨e1, e2⟩
    · exact Or.inl e
    · refine Or.inr (fun u => ?_)
      unfold FcN
      rw [if_pos hj, if_pos e1, e2]
  · refine Or.inl ?_
    unfold laV
    rw [if_neg hj]
end
/-- what standing may change -/
def StF (M M' : Mem) (x ya0 na0 ya na len : Nat) : Prop := fr (fun c => c = x ∨ c = ya0 ∨ c = na0) M M' ∧ (mI M' x = mI M x ∧ mJ M' x = mJ M x ∧ ∀ f, f ≠ 2 → f ≠ 3 → mR M' x f = mR M x f) ∧ ((ya = ya0 ∧ na = na0 ∧ mN M' = mN M ∧ mS M' = mS M) ∨ (ya = mN M ∧ na = mN M + 1 ∧ mN M' = mN M + 2 ∧ mS M' = mS M + 2 * len ∧ mL M ya0 < len))
section
variable {M M' M1 : Mem} {x lc rc ya na ya0 na0 : Nat} {N : Nt} {Y Z : Nat → Int32} {h n : Nat} {Q : Option Value → Mem → Prop} {tb : Nat → Bool} {tv : Nat → Nat → Nat}
theorem StF.ar (h : StF M M1 x ya0 na0 ya na n) (k : ArF (fun c => c = ya ∨ c = na) M1 M') (hb : ya0 < mN M ∧ na0 < mN M) : StF M M' x ya0 na0 ya na n := by
  obtain ⟨h1, ⟨h2, h3, h4⟩, h5⟩ := h
  obtain ⟨⟨a1, a2, a3, a4⟩, ⟨a5, a6, a7, a8, a9⟩, a10⟩ := id k
  refine ⟨h1.tr (S1 := fun c => c = ya ∨ c = na) ⟨k.e, fun c _ hc => ⟨by rw [a5], by rw [a6], by rw [a7], a10 c hc, by rw [a8], by rw [a9]⟩⟩ (fun c hc z => ?_), ⟨by rw [a5]; exact h2, by rw [a6]; exact h3, fun f f2 f3 => by rw [a7]; exact h4 f f2 f3⟩, by rw [a1, a2]; exact h5⟩
  rcases h5 with ⟨e1, e2, -⟩ | ⟨e1, e2, -⟩
  · rw [e1, e2] at z; exact Or.inr z
  · exfalso; omega
/-- the rest of standing, with rows that are long enough -/
theorem S_st32 {a1 a2 b1 b2 bc : Nat} {H hl : List Int32} {x1 x2 x3 : Int32} (hL : CrL M x lc rc ya na N Y Z) (h1 : 2 ≤ N.length) (f15 : mI M x 15 = 2) (f5 : mR M x 5 = some a1) (f6 : mR M x 6 = some a2) (hA1 : ALi M a1 b1 H) (hA2 : ALi M a2 b2 hl) (hl2 : hl.length = H.length) (hm : H.length < 200000) (f8 : mR M x 8 = some bc) (ob : ok M bc 21) (lb : mL M bc = 16) (nb : bc ≠ ya ∧ bc ≠ na) (t0 : tb 0 = true ∧ ∀ l, tv l 0 = 0) (t1 : tb 1 = true ∧ ∀ l, tv l 1 = if x3 = 0 then 0 else 1) (tH : ∀ i, i < H.length → ∃ n, hl.getD i 0 = Int32.ofNat (2 * n) ∧ n < N.length ∧ tb n = true ∧ ∀ l, tv l n = hvM x1 (H.getD i 0)) (tB : ∀ s, s < 16 → mAI M bc s = 0 ∨ ∃ n, mAI M bc s = Int32.ofNat (2 * n) ∧ 0 < n ∧ n < N.length ∧ tb n = true ∧ ∀ l, tv l n = if btL x2 s = true then 1 else 0) (kA : ∀ {M2 : Mem} {a b : Nat} {xs : List Int32}, ArF (fun c => c = ya ∨ c = na) M M2 → (a = a1 ∨ a = a2) → ALi M a b xs → ALi M2 a b xs) (K : ∀ M' Y' Z', CrL M' x lc rc ya na N Y' Z' → ArF (fun c => c = ya ∨ c = na) M M' → TdI N.length tb tv (fun j => j = 0 ∨ j = 1 ∨ (∃ i, i < H.length ∧ hl.getD i 0 = Int32.ofNat (2 * j)) ∨ (∃ s, s < 16 ∧ mAI M bc s = Int32.ofNat (2 * j) ∧ 0 < j)) Y' Z' → Q none M') : DX0_stand_32 (h + 3) x x1 x2 x3 M Q := by
  obtain ⟨hC0, ⟨r1, r2, r3, r4⟩, ⟨s1, s2, s3, s4⟩, ⟨y1, y2⟩, ⟨n1, n2, n3, n4, n5⟩, n6⟩ := id hL
  have o1 := hC0.1
  unfold DX0_stand_32
  refine ⟨o1, ya, r1, S_fill2 (h := h + 2) r2 (by omega) (fun M3 R3 _ => ⟨rfl, ?_⟩)⟩
  have k3 : ArF (fun c => c = ya ∨ c = na) M M3 := ⟨R3.1, R3.2.1, fun c hc => R3.2.2.1 c (fun e => hc (Or.inl e))⟩
  have na3 : mR M3 x 3 = some na := by rw [k3.2.1.2.2.1]; exact s1
  refine ⟨na, na3, S_fill2 (h := h + 2) (k3.ok s2) (by rw [k3.1.2.2.2]; omega) (fun M5 R5 _ => ⟨rfl, ?_⟩)⟩
  have k5 : ArF (fun c => c = ya ∨ c = na) M3 M5 := ⟨R5.1, R5.2.1, fun c hc => R5.2.2.1 c (fun e => hc (Or.inr e))⟩
  have k35 := k3.tr k5
  refine ⟨na, by rw [k35.2.1.2.2.1]; exact s1, k35.ok s2, by rw [k35.1.2.2.2]; exact vp_of (n := 0) (by omega) (by omega), fun M8 e8 => ?_⟩
  have k8 : ArF (fun c => c = ya ∨ c = na) M M8 := k35.tr (ArF.up (Or.inr rfl) e8)
  have z0 : (0 : Int32).toNatClampNeg = 0 := rfl
  rw [z0] at e8
  -- rows of noughts
  obtain ⟨Y8, eY⟩ : ∃ Y8, Y8 = mAI M8 ya := ⟨_, rfl⟩
  obtain ⟨Z8, eZ⟩ : ∃ Z8, Z8 = mAI M8 na := ⟨_, rfl⟩
  have L8 : CrL M8 x lc rc ya na N Y8 Z8 := hL.ar k8 eY.symm eZ.symm
  have vy : ∀ j, j < N.length → Y8 j = 0 := fun j hj => by
    rw [eY, e8, mAI_wAI, if_neg (fun z => n1 z.1), R5.2.2.1 ya n1, R3.2.2.2 j]
    unfold filF
    rw [if_pos ⟨Nat.zero_le _, by omega⟩]
  have vz : ∀ j, j < N.length → Z8 j = if j = 0 then -1 else 0 := fun j hj => by
    rw [eZ, e8, mAI_wAI]
    by_cases z : j = 0
    · rw [if_pos ⟨rfl, z⟩, if_pos z]
    · rw [if_neg (fun q => z q.2), if_neg z, R5.2.2.2 j]
      unfold filF
      rw [k3.1.2.2.2, if_pos ⟨Nat.zero_le _, by omega⟩]
  have T8 : TdI N.length tb tv (fun j => j = 0) Y8 Z8 := by
    refine ⟨fun j l hj hl => ?_, fun l hl j hj => ?_⟩
    · rw [vy j hj, btL_0]; simp
    · have e : laV N.length Y8 Z8 l j = if j = 0 then 0 else 2 := by
        unfold laV
        rw [if_pos hj, vy j hj, vz j hj, btL_0, if_neg (by decide)]
        by_cases z : j = 0
        · rw [if_pos z, if_pos z, if_pos (btL_1 hl)]
        · rw [if_neg z, if_neg z, btL_0, if_neg (by decide)]
      rw [e]
      by_cases z : j = 0
      · rw [if_pos z, z]
        exact ⟨Or.inr ⟨t0.1, (t0.2 l).symm⟩, fun _ => (t0.2 l).symm⟩
      · rw [if_neg z]
        exact ⟨Or.inl rfl, fun q => absurd q z⟩
  have f15' : mI M8 x 15 = 2 := by rw [k8.2.1.1]; exact f15
  -- signals before
  have bef : ∀ (d s : Nat) (M1 : Mem) (Y1 Z1 : Nat → Int32), s + d = 16 → CrL M1 x lc rc ya na N Y1 Z1 → ArF (fun c => c = ya ∨ c = na) M M1 → TdI N.length tb tv (fun j => j = 0 ∨ j = 1 ∨ (∃ i, i < H.length ∧ hl.getD i 0 = Int32.ofNat (2 * j)) ∨ (∃ t, t < s ∧ mAI M bc t = Int32.ofNat (2 * j) ∧ 0 < j)) Y1 Z1 → T (h + 4) mdX0_stand 140 [(0, .ref x), (2, .int x2), (4, .int (Int32.ofNat s))] [] M1 Q := by
    intro d
    induction d with
    | zero =>
      intro s M1 Y1 Z1 hs L1 A1 D1
      have lb1 : mL M1 bc = 16 := by rw [A1.1.2.2.2]; exact lb
      refine VX0_stand_140 (h := h + 3) ?_
      unfold DX0_stand_140
      refine ⟨L1.1.1, bc, by rw [A1.2.1.2.2.1]; exact f8, A1.ok ob, ?_⟩
      rw [lb1, show s = 16 by omega]
      refine ⟨fun _ => K M1 Y1 Z1 L1 A1 ?_, fun z => absurd Int32.le_rfl z⟩
      rw [show s = 16 by omega] at D1
      exact D1
    | succ d ih =>
      intro s M1 Y1 Z1 hs L1 A1 D1
      have lb1 : mL M1 bc = 16 := by rw [A1.1.2.2.2]; exact lb
      have ls : (Int32.ofNat s).toNatClampNeg = s := lt32 (by omega)
      have eb : mAI M1 bc s = mAI M bc s := by rw [A1.2.2 bc (fun z => z.elim nb.1 nb.2)]
      have g8 : mR M1 x 8 = some bc := by rw [A1.2.1.2.2.1]; exact f8
      have v16 : vp_in (Int32.ofNat s) (mL M1 bc) := by rw [lb1]; exact vp_of (by omega) (by decide)
      refine VX0_stand_140 (h := h + 3) ?_
      unfold DX0_stand_140 DX0_stand_185
      rw [ls, succ32]
      refine ⟨L1.1.1, bc, g8, A1.ok ob, fun z => ?_, fun _ => ⟨bc, g8, A1.ok ob, v16, fun z => ?_, fun z => ⟨bc, g8, A1.ok ob, v16, ?_⟩⟩⟩
      · rw [lb1] at z
        have := (le32 (a := 16) (by decide) (by omega)).mp z
        omega
      · rw [eb] at z
        refine ih (s + 1) M1 Y1 Z1 (by omega) L1 A1 ⟨D1.1, fun l hl j hj => ⟨(D1.2 l hl j hj).1, fun q => (D1.2 l hl j hj).2 ?_⟩⟩
        rcases q with q | q | q | ⟨t, t1, t2, t3⟩
        · exact Or.inl q
        · exact Or.inr (Or.inl q)
        · exact Or.inr (Or.inr (Or.inl q))
        · refine Or.inr (Or.inr (Or.inr ⟨t, ?_, t2, t3⟩))
          have : t ≠ s := fun e => by
            rw [e, z] at t2
            have := inj32 (a := 0) (b := 2 * j) (by decide) (by omega) t2
            omega
          omega
      · rw [eb] at z ⊢
        rcases tB s (by omega) with e | ⟨n, n1', n2', n3', n4', n5'⟩
        · exact absurd e z
        rw [n1']
        have go : ∀ (w : Int32), (∀ l, l < 32 → (if btL w l = true then 1 else 0) = tv l n) → DX0_stand_182 (h + 3) x x2 (Int32.ofNat s) x (Int32.ofNat (2 * n)) w M1 Q := fun w hw => by
          unfold DX0_stand_182 DX0_stand_185
          rw [succ32]
          refine ⟨L1.1.1, S_tell (h := h + 2) L1 D1.1 n3' (fun M2 Y2 Z2 L2 A2 t2 _ => ⟨rfl, ?_⟩)⟩
          refine ih (s + 1) M2 Y2 Z2 (by omega) L2 (A1.tr A2) (D1.tl t2 n4' hw (fun j hj q => ?_))
          rcases q with q | q | q | ⟨t, t1, t2, t3⟩
          · exact Or.inl (Or.inl q)
          · exact Or.inl (Or.inr (Or.inl q))
          · exact Or.inl (Or.inr (Or.inr (Or.inl q)))
          · by_cases e : t = s
            · rw [e, n1'] at t2
              have := inj32 (a := 2 * n) (b := 2 * j) (by omega) (by omega) t2
              exact Or.inr (by omega)
            · exact Or.inl (Or.inr (Or.inr (Or.inr ⟨t, by omega, t2, t3⟩)))
        rw [ub_0 (by omega)]
        refine ⟨fun y => go 0 (fun l hl => ?_), fun y => go (-1) (fun l hl => ?_)⟩
        · rw [btL_0, if_neg (by decide), n5' l, y, if_neg (by decide)]
        · have y : btL x2 s = true := by
            cases hb : btL x2 s with
            | true => rfl
            | false => exact absurd hb y
          rw [btL_1 hl, if_pos rfl, n5' l, y, if_pos rfl]
  -- held pauses
  have hld : ∀ (d i : Nat) (M1 : Mem) (Y1 Z1 : Nat → Int32), i + d = H.length → CrL M1 x lc rc ya na N Y1 Z1 → ArF (fun c => c = ya ∨ c = na) M M1 → TdI N.length tb tv (fun j => j = 0 ∨ j = 1 ∨ (∃ k, k < i ∧ hl.getD k 0 = Int32.ofNat (2 * j))) Y1 Z1 → T (h + 4) mdX0_stand 75 [(0, .ref x), (1, .int x1), (2, .int x2), (4, .int (Int32.ofNat i))] [] M1 Q := by
    intro d
    induction d with
    | zero =>
      intro i M1 Y1 Z1 hi L1 A1 D1
      have A11 := kA A1 (Or.inl rfl) hA1
      obtain ⟨ls, B1, nl, -⟩ := id A11
      refine VX0_stand_75 (h := h + 3) ?_
      unfold DX0_stand_75
      refine ⟨L1.1.1, a1, by rw [A1.2.1.2.2.1]; exact f5, B1.1, S_alSize (h := h + 2) B1 (fun _ => ⟨_, rfl, fun _ => ?_, fun z => absurd (by rw [nl, show i = H.length by omega]; exact Int32.le_rfl) z⟩)⟩
      refine bef 16 0 M1 Y1 Z1 (by omega) L1 A1 ⟨D1.1, fun l hl j hj => ⟨(D1.2 l hl j hj).1, fun q => (D1.2 l hl j hj).2 ?_⟩⟩
      rcases q with q | q | ⟨k, k1, k2⟩ | ⟨t, t1, -⟩
      · exact Or.inl q
      · exact Or.inr (Or.inl q)
      · exact Or.inr (Or.inr ⟨k, by omega, k2⟩)
      · exact absurd t1 (Nat.not_lt_zero _)
    | succ d ih =>
      intro i M1 Y1 Z1 hi L1 A1 D1
      have A11 := kA A1 (Or.inl rfl) hA1
      have A12 := kA A1 (Or.inr rfl) hA2
      obtain ⟨n, e1, e2, e3, e4⟩ := tH i (by omega)
      refine st_get (h := h) L1.1.1 (by rw [A1.2.1.2.2.1]; exact f5) (by rw [A1.2.1.2.2.1]; exact f6) A11 A12 (by omega) hl2 hm ?_
      unfold DX0_stand_128
      rw [e1, succ32]
      refine ⟨L1.1.1, S_tell (h := h + 2) L1 D1.1 e2 (fun M2 Y2 Z2 L2 A2 t2 _ => ⟨rfl, ?_⟩)⟩
      refine ih (i + 1) M2 Y2 Z2 (by omega) L2 (A1.tr A2) (D1.tl t2 e3 (fun l hl => ?_) (fun j hj q => ?_))
      · rw [e4 l]
        unfold hvM
        by_cases z : x1 &&& H.getD i 0 = 0
        · rw [if_pos z, if_pos z, btL_0, if_neg (by decide)]
        · rw [if_neg z, if_neg z, btL_1 hl, if_pos rfl]
      · rcases q with q | q | ⟨k, k1, k2⟩
        · exact Or.inl (Or.inl q)
        · exact Or.inl (Or.inr (Or.inl q))
        · by_cases e : k = i
          · rw [e, e1] at k2
            have := inj32 (a := 2 * n) (b := 2 * j) (by omega) (by omega) k2
            exact Or.inr (by omega)
          · exact Or.inl (Or.inr (Or.inr ⟨k, by omega, k2⟩))
  have go : ∀ (w : Int32), (∀ l, l < 32 → (if btL w l = true then 1 else 0) = tv l 1) → DX0_stand_69 (h + 3) x x1 x2 x (mI M8 x 15) w M8 Q := fun w hw => by
    unfold DX0_stand_69
    rw [f15']
    refine ⟨L8.1.1, S_tell (n := 1) (h := h + 2) L8 T8.1 (by omega) (fun M2 Y2 Z2 L2 A2 t2 _ => ⟨rfl, ?_⟩)⟩
    refine hld H.length 0 M2 Y2 Z2 (by omega) L2 (k8.tr A2) (T8.tl t2 t1.1 hw (fun j hj q => ?_))
    rcases q with q | q | ⟨k, k1, -⟩
    · exact Or.inl q
    · exact Or.inr q
    · exact absurd k1 (Nat.not_lt_zero _)
  refine ⟨fun z => go 0 (fun l hl => ?_), fun z => go (-1) (fun l hl => ?_)⟩
  · rw [btL_0, if_neg (by decide), t1.2 l, if_pos z]
  · rw [btL_1 hl, if_pos rfl, t1.2 l, if_neg z]
end
