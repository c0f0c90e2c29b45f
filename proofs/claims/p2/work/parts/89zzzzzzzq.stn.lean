/-! the circuit stands, whole; inputs and ifs are told; what is seen of the lanes -/
section
variable {M M' M1 : Mem} {x lc rc ya na ya0 na0 : Nat} {N : Nt} {Y Z : Nat → Int32} {h n : Nat} {Q : Option Value → Mem → Prop} {tb : Nat → Bool} {tv : Nat → Nat → Nat}
theorem ali_ar {a b : Nat} {xs : List Int32} (hA : ALi M a b xs) (k : ArF (fun c => c = ya ∨ c = na) M M') (o1 : mK M ya = 21) (o2 : mK M na = 21) : ALi M' a b xs := by
  have kk : ∀ {c q : Nat}, (c = ya ∨ c = na) → mK M c = q → q = 21 := fun {c q} z e => by
    rcases z with z | z
    · rw [z, o1] at e; exact e.symm
    · rw [z, o2] at e; exact e.symm
  have f : fr (fun c => c = ya ∨ c = na) M M' := ⟨k.e, fun c _ hc => ⟨by rw [k.2.1.1], by rw [k.2.1.2.1], by rw [k.2.1.2.2.1], k.2.2 c hc, by rw [k.2.1.2.2.2.1], by rw [k.2.1.2.2.2.2]⟩⟩
  refine hA.fr f (fun z => ?_) (fun hb z => ?_) (fun c _ z w => ?_)
  · have q := kk z hA.ok1.2
    exact absurd q (by decide)
  · have q := kk z hb
    exact absurd q (by decide)
  · have q := kk z w
    exact absurd q (by decide)
/-- the circuit of a module that has been woven -/
def CrS (M : Mem) (x lc rc ya na a1 a2 b1 b2 bc : Nat) (N : Nt) (H hl : List Int32) : Prop := CirP M x lc rc N ∧ (mR M x 2 = some ya ∧ ok M ya 21 ∧ mL M ya < 1000000) ∧ (mR M x 3 = some na ∧ ok M na 21 ∧ mL M na < 1000000 ∧ (N.length ≤ mL M ya → N.length ≤ mL M na)) ∧ (ya ≠ na ∧ ya ≠ lc ∧ ya ≠ rc ∧ na ≠ lc ∧ na ≠ rc) ∧ (2 ≤ N.length ∧ N.length < 100000) ∧ mI M x 15 = 2 ∧ (mR M x 5 = some a1 ∧ mR M x 6 = some a2 ∧ ALi M a1 b1 H ∧ ALi M a2 b2 hl ∧ hl.length = H.length ∧ H.length < 200000) ∧ (mR M x 8 = some bc ∧ ok M bc 21 ∧ mL M bc = 16 ∧ bc ≠ ya ∧ bc ≠ na)
theorem S_stand {a1 a2 b1 b2 bc : Nat} {H hl : List Int32} {x1 x2 x3 : Int32} (hc : CrS M x lc rc ya0 na0 a1 a2 b1 b2 bc N H hl) (hbig : mN M + 2 < mBig) (t0 : tb 0 = true ∧ ∀ l, tv l 0 = 0) (t1 : tb 1 = true ∧ ∀ l, tv l 1 = if x3 = 0 then 0 else 1) (tH : ∀ i, i < H.length → ∃ n, hl.getD i 0 = Int32.ofNat (2 * n) ∧ n < N.length ∧ tb n = true ∧ ∀ l, tv l n = hvM x1 (H.getD i 0)) (tB : ∀ s, s < 16 → mAI M bc s = 0 ∨ ∃ n, mAI M bc s = Int32.ofNat (2 * n) ∧ 0 < n ∧ n < N.length ∧ tb n = true ∧ ∀ l, tv l n = if btL x2 s = true then 1 else 0) (K : ∀ M' ya na Y' Z', CrL M' x lc rc ya na N Y' Z' → StF M M' x ya0 na0 ya na N.length → TdI N.length tb tv (fun j => j = 0 ∨ j = 1 ∨ (∃ i, i < H.length ∧ hl.getD i 0 = Int32.ofNat (2 * j)) ∨ (∃ s, s < 16 ∧ mAI M bc s = Int32.ofNat (2 * j) ∧ 0 < j)) Y' Z' → Q none M') : E (h + 4) mdX0_stand [.ref x, .int x1, .int x2, .int x3] M Q := by
  obtain ⟨hC0, ⟨r1, r2, r4⟩, ⟨s1, s2, s3, s4⟩, ⟨n1, n2, n3, n4, n5⟩, ⟨g1, g2⟩, f15, ⟨f5, f6, hA1, hA2, hl2, hm⟩, f8, ob, lb, nb1, nb2⟩ := id hc
  obtain ⟨o1, c1, o2, c2, o3, i1, q, v, wf, d1, d2, d3⟩ := id hC0
  have ll : (Int32.ofNat N.length).toNatClampNeg = N.length := lt32 (by omega)
  refine KX0_stand (h := h + 3) ?_
  unfold DX0_stand_0
  refine ⟨o1, ya0, r1, r2, ?_⟩
  rw [i1, ll]
  refine ⟨fun z => ?_, fun z => ⟨fun y => ?_, by omega, fun q5 M4 eq5 e4 M6 e6 => ?_⟩⟩
  · have le : N.length ≤ mL M ya0 := (le32 (by omega) (by omega)).mp z
    have L : CrL M x lc rc ya0 na0 N (mAI M ya0) (mAI M na0) := ⟨hC0, ⟨r1, r2, le, r4⟩, ⟨s1, s2, s4 le, s3⟩, ⟨rfl, rfl⟩, ⟨n1, n2, n3, n4, n5⟩, g2⟩
    refine S_st32 (h := h) L g1 f15 f5 f6 hA1 hA2 hl2 hm f8 ob lb ⟨nb1, nb2⟩ t0 t1 tH tB (fun k _ A => ali_ar A k r2.2 s2.2) (fun M' Y' Z' L' A' T' => K M' ya0 na0 Y' Z' L' ?_ T')
    refine StF.ar (M1 := M) ⟨fr.rf, ⟨rfl, rfl, fun _ _ _ => rfl⟩, Or.inl ⟨rfl, rfl, rfl, rfl⟩⟩ A' ⟨r2.1, s2.1⟩
  · have := (ltn32 (a := N.length) (b := 0) (by omega) (by decide)).mp y
    omega
  · have lt : mL M ya0 < N.length := by
      by_cases y : N.length ≤ mL M ya0
      · exact absurd ((le32 (by omega) (by omega)).mpr y) z
      · omega
    have kx : x < mN M := o1.1
    -- the first new row
    have fr4 : fr (fun c => c = x) M M4 := by rw [e4]; exact fr_nwA
    have fr6 : fr (fun c => c = x) M4 M6 := by rw [e6]; exact fr_wR rfl
    have n4' : mN M4 = mN M + 1 := by rw [e4]; rfl
    have n6' : mN M6 = mN M + 1 := by rw [e6]; exact n4'
    have i6 : mI M6 x 4 = Int32.ofNat N.length := by rw [e6, e4]; exact i1
    rw [i6, ll]
    refine ⟨fun y => ?_, by omega, fun q8 M7 eq8 e7 M9 e9 => ?_⟩
    · have := (ltn32 (a := N.length) (b := 0) (by omega) (by decide)).mp y
      omega
    have fr7 : fr (fun c => c = x) M6 M7 := by rw [e7]; exact fr_nwA
    have fr9 : fr (fun c => c = x) M7 M9 := by rw [e9]; exact fr_wR rfl
    have F9 : fr (fun c => c = x) M M9 := ((fr4.tr fr6 (fun _ _ z => z)).tr fr7 (fun _ _ z => z)).tr fr9 (fun _ _ z => z)
    have n9 : mN M9 = mN M + 2 := by rw [e9]; show mN M7 = _; rw [e7]; show mN M6 + 1 = _; rw [n6']
    have s9 : mS M9 = mS M + 2 * N.length := by
      rw [e9]; show mS M7 = _; rw [e7]; show mS M6 + N.length = _; rw [e6]; show mS M4 + N.length = _; rw [e4]; show mS M + N.length + N.length = _; omega
    rw [n6'] at eq8
    have x9 : mI M9 x = mI M x ∧ mJ M9 x = mJ M x := by rw [e9, e7, e6, e4]; exact ⟨rfl, rfl⟩
    have r9 : ∀ f, f ≠ 2 → f ≠ 3 → mR M9 x f = mR M x f := fun f f2 f3 => by
      rw [e9, mR_wR, if_neg (fun z => f3 z.2), e7]
      show mR M6 x f = _
      rw [e6, mR_wR, if_neg (fun z => f2 z.2), e4]
      rfl
    have r92 : mR M9 x 2 = some (mN M) := by
      rw [e9, mR_wR, if_neg (fun z => absurd z.2 (by decide)), e7]
      show mR M6 x 2 = _
      rw [e6, mR_wR, if_pos ⟨rfl, rfl⟩, eq5]
    have r93 : mR M9 x 3 = some (mN M + 1) := by rw [e9, mR_wR, if_pos ⟨rfl, rfl⟩, eq8]
    have oy : ok M9 (mN M) 21 ∧ mL M9 (mN M) = N.length := by
      have k4 : mK M4 (mN M) = 21 ∧ mL M4 (mN M) = N.length := by rw [e4, mK_nwA, mL_nwA]; exact ⟨va_up_self _ _ _, va_up_self _ _ _⟩
      have k6 : mK M6 (mN M) = 21 ∧ mL M6 (mN M) = N.length := by rw [e6]; exact k4
      have k7 := fr7.1.2.2 (mN M) (by omega)
      refine ⟨⟨by omega, ?_⟩, ?_⟩
      · rw [e9]; show mK M7 _ = _; rw [k7.1]; exact k6.1
      · rw [e9]; show mL M7 _ = _; rw [k7.2]; exact k6.2
    have oz : ok M9 (mN M + 1) 21 ∧ mL M9 (mN M + 1) = N.length := by
      have k7 : mK M7 (mN M + 1) = 21 ∧ mL M7 (mN M + 1) = N.length := by rw [e7, mK_nwA, mL_nwA, n6']; exact ⟨va_up_self _ _ _, va_up_self _ _ _⟩
      refine ⟨⟨by omega, ?_⟩, ?_⟩
      · rw [e9]; exact k7.1
      · rw [e9]; exact k7.2
    have rowl := F9.2 lc o2.1 (fun e => d1 e.symm)
    have rowr := F9.2 rc o3.1 (fun e => d2 e.symm)
    have el : mL M9 lc = mL M lc := (F9.1.2.2 lc o2.1).2
    have er : mL M9 rc = mL M rc := (F9.1.2.2 rc o3.1).2
    have C9 : CirP M9 x lc rc N := ⟨ok_E o1 F9.1, by rw [r9 0 (by decide) (by decide)]; exact c1, ok_E o2 F9.1, by rw [r9 1 (by decide) (by decide)]; exact c2, ok_E o3 F9.1, by rw [x9.1]; exact i1, by rw [el, er]; exact q, fun j hj => by rw [rowl.2.2.2.1, rowr.2.2.2.1]; exact v j hj, wf, d1, d2, d3⟩
    have lo := o2.1
    have ro := o3.1
    have bo := ob.1
    have bx : bc ≠ x := fun e => by
      have := ob.2
      rw [e, o1.2] at this
      exact absurd this (by decide)
    have L9 : CrL M9 x lc rc (mN M) (mN M + 1) N (mAI M9 (mN M)) (mAI M9 (mN M + 1)) := ⟨C9, ⟨r92, oy.1, by rw [oy.2]; exact Nat.le_refl _, by rw [oy.2]; omega⟩, ⟨r93, oz.1, by rw [oz.2]; exact Nat.le_refl _, by rw [oz.2]; omega⟩, ⟨rfl, rfl⟩, ⟨by omega, by omega, by omega, by omega, by omega⟩, g2⟩
    have al : ∀ {a b : Nat} {xs : List Int32}, ALi M a b xs → ALi M9 a b xs := fun {a b xs} A => by
      refine A.fr F9 (fun z => ?_) (fun hb z => ?_) (fun c _ z w => ?_)
      · have := A.ok1.2
        rw [z, o1.2] at this
        exact absurd this (by decide)
      · rw [z, o1.2] at hb; exact absurd hb (by decide)
      · rw [z, o1.2] at w; exact absurd w (by decide)
    have rowb := F9.2 bc bo bx
    have eb : mAI M9 bc = mAI M bc := rowb.2.2.2.1
    refine S_st32 (h := h) L9 g1 (by rw [x9.1]; exact f15) (by rw [r9 5 (by decide) (by decide)]; exact f5) (by rw [r9 6 (by decide) (by decide)]; exact f6) (al hA1) (al hA2) hl2 hm (by rw [r9 8 (by decide) (by decide)]; exact f8) (ok_E ob F9.1) (by rw [(F9.1.2.2 bc bo).2]; exact lb) ⟨by omega, by omega⟩ t0 t1 tH (by rw [eb]; exact tB) (fun k _ A => ali_ar A k oy.1.2 oz.1.2) (fun M' Y' Z' L' A' T' => K M' (mN M) (mN M + 1) Y' Z' L' ?_ (by rw [eb] at T'; exact T'))
    refine StF.ar (M1 := M9) ⟨F9.more (fun c _ z => Or.inl z), ⟨x9.1, x9.2, r9⟩, Or.inr ⟨rfl, rfl, n9, s9, lt⟩⟩ A' ⟨r2.1, s2.1⟩
theorem S_tellIn {sc s : Nat} {w : Int32} (hL : CrL M x lc rc ya na N Y Z) (hC : CoL N.length Y Z) (f13 : mR M x 13 = some sc) (os : ok M sc 21) (ls : mL M sc = 16) (hs : s < 16) (es : mAI M sc s = Int32.ofNat (2 * n)) (hn : n < N.length) (K : ∀ M' Y' Z', CrL M' x lc rc ya na N Y' Z' → ArF (fun c => c = ya ∨ c = na) M M' → TlL N.length n w Y Z Y' Z' → Q none M') : E (h + 2) mdX0_tellInput [.ref x, .int (Int32.ofNat s), .int w] M Q := by
  refine KX0_tellInput (h := h + 1) ?_
  unfold DX0_tellInput_0
  rw [lt32 (show s < 2147483648 by omega)]
  refine ⟨hL.1.1, sc, f13, os, by rw [ls]; exact vp_of hs (by decide), ?_⟩
  rw [es]
  exact S_tell (h := h) hL hC hn (fun M2 Y2 Z2 L2 A2 t2 _ => ⟨rfl, K M2 Y2 Z2 L2 A2 t2⟩)
theorem S_tellIf {a b i : Nat} {xs : List Int32} {w : Int32} (hL : CrL M x lc rc ya na N Y Z) (hC : CoL N.length Y Z) (f7 : mR M x 7 = some a) (hA : ALi M a b xs) (hi : i < xs.length) (hm : xs.length < 200000) (es : xs.getD i 0 = Int32.ofNat (2 * n)) (hn : n < N.length) (K : ∀ M' Y' Z', CrL M' x lc rc ya na N Y' Z' → ArF (fun c => c = ya ∨ c = na) M M' → TlL N.length n w Y Z Y' Z' → Q none M') : E (h + 4) mdX0_tellIf [.ref x, .int (Int32.ofNat i), .int w] M Q := by
  have ox := hL.1.1
  obtain ⟨l1, A1, n1, e1⟩ := hA
  refine E.of (by decide) (Nat.le_of_ble_eq_true rfl) (fun _ _ _ => trivial) ?_
  show T _ _ 0 [(0, .ref x), (1, .int (Int32.ofNat i)), (2, .int w)] [] M _
  refine xt_iload_n (j := 1) dX0_tellIf_0 rfl rfl ?_
  refine xt_aload_n (j := 0) dX0_tellIf_1 rfl rfl ?_
  refine xt_getR dX0_tellIf_2 (flX0_36 rfl) ft_2_7 ox.1 ox.2 f7 ?_
  refine xt_callV (h2 := h + 3) (as := []) (st := [.int (Int32.ofNat i)]) dX0_tellIf_5 (mlX0_103 rfl) rfl A1.1.1 ⟨by rw [A1.1.2]; rfl, by rw [A1.1.2]; decide⟩ (by simp [Value.category]) (Nat.le_refl _) (S_alSize (h := h + 2) (Q := fun r M' => r = some (.int (Int32.ofNat l1.length)) ∧ M' = M) A1 ⟨rfl, rfl⟩) (fun r M4 HH hE => ?_)
  obtain ⟨hr, hM⟩ := HH
  subst hr
  rw [hM]
  clear hE hM M4
  show T _ _ _ _ [.int (Int32.ofNat l1.length), .int (Int32.ofNat i)] _ _
  refine xt_icmp_ge (tgt := 30) dX0_tellIf_8 (by decide) (fun hc => ?_) (fun _ => ?_)
  · have := (le32 (by omega) (by omega)).mp hc
    omega
  refine xt_aload_n (j := 0) dX0_tellIf_11 rfl rfl ?_
  refine xt_aload_n (j := 0) dX0_tellIf_12 rfl rfl ?_
  refine xt_getR dX0_tellIf_13 (flX0_36 rfl) ft_2_7 ox.1 ox.2 f7 ?_
  refine xt_iload_n (j := 1) dX0_tellIf_16 rfl rfl ?_
  refine xt_callV (h2 := h + 3) (as := [.int (Int32.ofNat i)]) (st := [.ref x]) dX0_tellIf_17 (mlX0_106 rfl) rfl A1.1.1 ⟨by rw [A1.1.2]; rfl, by rw [A1.1.2]; decide⟩ (by simp [Value.category]) (Nat.le_refl _) (S_get (h := h) (Q := fun r M' => r = some (.ref (l1.getD i 0)) ∧ M' = M) A1 (by omega) ⟨rfl, rfl⟩) (fun r M5 HH hE => ?_)
  obtain ⟨hr, hM⟩ := HH
  subst hr
  rw [hM]
  clear hE hM M5
  show T _ _ _ _ [.ref (l1.getD i 0), .ref x] _ _
  refine xt_unbox (h := h + 2) dX0_tellIf_20 dX0_tellIf_23 (ccX0_86 rfl) (mlX0_110 rfl) (e1 i (by omega)) (by simp [Value.category]) ?_
  refine xt_iload_n (j := 2) dX0_tellIf_26 rfl rfl ?_
  rw [es]
  refine xt_callV (h2 := h + 3) (as := [.int (Int32.ofNat (2 * n)), .int w]) (st := []) dX0_tellIf_27 (mlX0_117 rfl) rfl ox.1 ⟨by rw [ox.2]; rfl, by rw [ox.2]; decide⟩ (by simp [Value.category]) (Nat.le_refl _) (S_tell (h := h + 2) (Q := fun r M' => r = none ∧ Q none M') hL hC hn (fun M2 Y2 Z2 L2 A2 t2 => ⟨rfl, K M2 Y2 Z2 L2 A2 t2⟩)) (fun r M6 HH hE => ?_)
  obtain ⟨hr, hq⟩ := HH
  subst hr
  show T _ _ _ _ [] _ _
  exact xt_return dX0_tellIf_30 rfl hq
end
