/-! the reference reads its truths: codes of children, conditions, ifs -/
section
variable {R : RMo} {I : RIn} {sl : List Nat} {ρ : Plc → Nat} {M M1 M' : Mem} {h y n : Nat} {Q : Option Value → Mem → Prop}
theorem ix700 {m y : Nat} (h : 700 * m ≤ y) (hy : y < 100000) : Int32.ofNat y - 700 * Int32.ofNat m = Int32.ofNat (y - 700 * m) := by
  have e : (700 : Int32) * Int32.ofNat m = Int32.ofNat (700 * m) := by rw [Int32.ofNat_mul]; rfl
  rw [e, sub32 h (by omega)]
theorem ix24 {a n : Nat} : 24 * Int32.ofNat a + Int32.ofNat n = Int32.ofNat (24 * a + n) := by
  rw [Int32.ofNat_add, Int32.ofNat_mul]; rfl
theorem inR.b (hS : RmS R sl M) (hy : inR R y) : y < 2800 ∧ y - 700 * moM R < 700 ∧ 700 * moM R ≤ y := by
  have h4 := hS.1.1
  have h7 := hS.1.2.1.1.2
  obtain ⟨h1, h2⟩ := hy
  omega
theorem RbF.rf : RbF M M := ⟨⟨rfl, rfl, rfl, rfl⟩, ⟨rfl, rfl, rfl, rfl⟩, fun _ _ => rfl, fun _ _ => rfl, fun _ _ => rfl⟩
theorem RbF.tr (h : RbF M M1) (k : RbF M1 M') : RbF M M' := by
  obtain ⟨⟨a1, a2, a3, a4⟩, ⟨a5, a6, a7, a8⟩, a9, a10, a11⟩ := h
  obtain ⟨⟨b1, b2, b3, b4⟩, ⟨b5, b6, b7, b8⟩, b9, b10, b11⟩ := k
  exact ⟨⟨b1.trans a1, b2.trans a2, b3.trans a3, b4.trans a4⟩, ⟨b5.trans a5, b6.trans a6, b7.trans a7, b8.trans a8⟩, fun a z => (b9 a z).trans (a9 a z), fun f z => (b10 f z).trans (a10 f z), fun c z => (b11 c z).trans (a11 c z)⟩
theorem RbF.up {c k : Nat} {v : Int32} (hc : 95 ≤ c ∧ c ≤ 101) (e : M' = wAI M c k v) : RbF M M' := by
  rw [e]
  exact ⟨⟨rfl, rfl, rfl, rfl⟩, ⟨rfl, rfl, rfl, rfl⟩, fun _ _ => rfl, fun _ _ => rfl, fun d hd => mAI_wAI_ne (fun z => hd (by rw [z]; exact hc))⟩
theorem RbF.wi {v : Int32} (e : M' = wI M 29 83 v) : RbF M M' := by
  rw [e]
  exact ⟨⟨rfl, rfl, rfl, rfl⟩, ⟨rfl, rfl, rfl, rfl⟩, fun a z => by funext f; rw [mI_wI, if_neg (fun q => z q.1)], fun f z => by rw [mI_wI, if_neg (fun q => z q.2)], fun _ _ => rfl⟩
theorem RbF.fix (h : RbF M M') (F : Fix M) : Fix M' := by
  have hE : mE M M' := ⟨by rw [h.1.1]; exact Nat.le_refl _, by rw [h.1.2.1]; exact Nat.le_refl _, fun a _ => ⟨by rw [h.1.2.2.1], by rw [h.1.2.2.2]⟩⟩
  exact F.of_fr (S := fun _ => True) hE (fun e he => by rw [h.2.1.2.1]) (by rw [h.2.1.2.2.1])
theorem RbF.rm (h : RbF M M') (hS : RmS R sl M) : RmS R sl M' := by
  obtain ⟨s1, s2, s3, s4, s5, s6, s7, s8, s9, s10, s11⟩ := hS
  have k := h.2.2.2.2
  refine ⟨s1, fun c y c1 c2 iy => by rw [k c (by omega)]; exact s2 c y c1 c2 iy, fun y iy => by rw [k 87 (by omega), k 88 (by omega)]; exact s3 y iy, fun c p c1 c2 p1 p2 => by rw [k c (by omega)]; exact s4 c p c1 c2 p1 p2, fun j hj => by rw [k 45 (by omega), k 46 (by omega), k 47 (by omega)]; exact s5 j hj, by rw [k 79 (by omega)]; exact s6, by rw [k 92 (by omega)]; exact s7, by rw [k 94 (by omega)]; exact s8, fun i hi => by rw [k 93 (by omega)]; exact s9 i hi, by rw [k 34 (by omega)]; exact s10, fun s hs => by rw [k 38 (by omega)]; exact s11 s hs⟩
/-- how many ifs stand before part j -/
def ifC (R : RMo) : Nat → Nat
  | 0 => 0
  | j + 1 => if moA R 58 (40 * moM R + j) = 14 then ifC R j + 1 else ifC R j
/-- fields of a beat -/
def RbI (R : RMo) (I : RIn) (M : Mem) : Prop := Fix M ∧ mI M 29 84 = Int32.ofNat (moM R) ∧ mI M 29 85 = iSet I ∧ (∀ s, s < 16 → ((mI M 29 86) >>> (Int32.ofNat s &&& 31)) &&& 1 = Int32.ofNat (iBf I s) ∧ iBf I s ≤ 1) ∧ (mI M 29 89 = 0 ↔ iFi I ≠ 1) ∧ ∀ j, j < 40 → ((mI M 29 88) >>> (Int32.ofNat (ifC R j) &&& 31)) &&& 1 = Int32.ofNat (iTr I (40 * moM R + j)) ∧ iTr I (40 * moM R + j) ≤ 1
theorem RbF.bi (h : RbF M M') (hI : RbI R I M) : RbI R I M' := by
  obtain ⟨i1, i2, i3, i4, i5, i6⟩ := hI
  have k := h.2.2.2.1
  exact ⟨h.fix i1, by rw [k 84 (by decide)]; exact i2, by rw [k 85 (by decide)]; exact i3, fun s hs => by rw [k 86 (by decide)]; exact i4 s hs, by rw [k 89 (by decide)]; exact i5, fun j hj => by rw [k 88 (by decide)]; exact i6 j hj⟩
theorem RSv.rm (h : RSv R ρ M) (k : ∀ c, 95 ≤ c → c ≤ 100 → mAI M' c = mAI M c) : RSv R ρ M' := by
  obtain ⟨v1, v2, v3, v4, v5⟩ := h
  exact ⟨v1, v2, fun c y hc iy => by rw [k (95 + c) (by omega) (by omega)]; exact v3 c y hc iy, fun y n iy hn => by rw [k 99 (by omega) (by omega)]; exact v4 y n iy hn, fun s hs => by rw [k 100 (by omega) (by omega)]; exact v5 s hs⟩
theorem R_k (hS : RmS R sl M) (hI : RbI R I M) (hV : RSv R ρ M) (hy : inR R y) (hn : n < moC R) (H : Q (some (.int (Int32.ofNat (ρ (4, y, n))))) M) : E (h + 1) mdX11_k [.ref 29, .int (Int32.ofNat y), .int (Int32.ofNat n)] M Q := by
  obtain ⟨b1, b2, b3⟩ := hy.b hS
  have c20 := hS.1.2.2.2.2.1
  have F := hI.1
  refine KX11_k ?_
  unfold DX11_k_0
  rw [hI.2.1, ix700 b3 (by omega), ix24, lt32 (by omega)]
  refine ⟨ok29 F, 99, rf29_81 F, ok99 F, by rw [ln99 F]; exact vp_of (by omega) (by decide), ?_⟩
  rw [hV.2.2.2.1 y n hy hn]
  exact H
/-- the children one after the other -/
theorem kid_ix (hS : RmS R sl M) (hy : inR R y) : mAI M 82 y = (if moG R y = [] then -1 else Int32.ofNat ((moG R y).getD 0 0)) ∧ ∀ i, i < (moG R y).length → inR R ((moG R y).getD i 0) ∧ mAI M 84 ((moG R y).getD i 0) = if i + 1 < (moG R y).length then Int32.ofNat ((moG R y).getD (i + 1) 0) else -1 := by
  obtain ⟨⟨h4, hG, -⟩, s2, -⟩ := hS
  obtain ⟨⟨m4, s7⟩, g1, -⟩ := id hG
  obtain ⟨⟨l1, -, l3, l4, l5⟩, -, l6⟩ := g1 y hy.1 hy.2
  refine ⟨?_, fun i hi => ?_⟩
  · rw [s2 82 y (by decide) (by decide) hy, l1]
    cases moG R y with
    | nil => rw [if_pos rfl]; rfl
    | cons a t => rw [if_neg (by simp)]; rfl
  · have iz : inR R ((moG R y).getD i 0) := l6 _ (gd_in hi)
    refine ⟨iz, ?_⟩
    rw [s2 84 _ (by decide) (by decide) iz]
    by_cases z : i + 1 < (moG R y).length
    · rw [if_pos z]; exact (l3 i z).1
    · rw [if_neg z]
      have ne : moG R y ≠ [] := fun e => by rw [e] at hi; exact absurd hi (Nat.not_lt_zero _)
      have q := (l5 ne).1
      have e : (moG R y).getLastD 0 = (moG R y).getD i 0 := by
        rw [List.getLastD_eq_getLast?, List.getLast?_eq_getElem?, show (moG R y).length - 1 = i by omega, List.getD_eq_getElem?_getD]
      rw [e] at q
      exact q
theorem R_orOf (hS : RmS R sl M) (hI : RbI R I M) (hV : RSv R ρ M) (hy : inR R y) (hn : n < moC R) (H : Q (some (.int (Int32.ofNat (orR R ρ y n)))) M) : E (h + 2) mdX11_orOf [.ref 29, .int (Int32.ofNat y), .int (Int32.ofNat n)] M Q := by
  obtain ⟨b1, b2, b3⟩ := hy.b hS
  have F := hI.1
  obtain ⟨k0, k1⟩ := kid_ix hS hy
  have main : ∀ (d i : Nat), i + d = (moG R y).length → T (h + 2) mdX11_orOf 10 [(0, .ref 29), (2, .int (Int32.ofNat n)), (3, .int (Int32.ofNat (oI (fun i => ρ (4, (moG R y).getD i 0, n)) i))), (4, .int (if i < (moG R y).length then Int32.ofNat ((moG R y).getD i 0) else -1))] [] M Q := by
    intro d
    induction d with
    | zero =>
      intro i hd
      rw [if_neg (by omega)]
      refine VX11_orOf_10 (h := h + 1) ?_
      unfold DX11_orOf_10
      refine ⟨fun _ => ?_, fun z => absurd rfl z⟩
      unfold orR at H
      rw [show (moG R y).length = i by omega] at H
      exact H
    | succ d ih =>
      intro i hd
      have hi : i < (moG R y).length := by omega
      obtain ⟨iz, nx⟩ := k1 i hi
      obtain ⟨z1, z2, z3⟩ := iz.b hS
      rw [if_pos hi]
      refine VX11_orOf_10 (h := h + 1) ?_
      unfold DX11_orOf_10
      rw [lt32 (show (moG R y).getD i 0 < 2147483648 by omega)]
      refine ⟨fun z => absurd z (nm32 (by omega)), fun _ => ⟨ok29 F, R_k (h := h) hS hI hV iz hn (fun _ => ⟨_, rfl, R_either (h := h) (oI_le _) (hV.1 _) (fun _ => ⟨_, rfl, 84, rf29_66 F, ok84 F, by rw [ln84 F]; exact vp_of (by omega) (by decide), ?_⟩)⟩)⟩⟩
      rw [nx]
      exact ih (i + 1) (by omega)
  refine KX11_orOf (h := h + 1) ?_
  unfold DX11_orOf_0
  rw [lt32 (show y < 2147483648 by omega)]
  refine ⟨ok29 F, 82, rf29_64 F, ok82 F, by rw [ln82 F]; exact vp_of (by omega) (by decide), ?_⟩
  have q := main (moG R y).length 0 (by omega)
  rw [k0]
  by_cases z : moG R y = []
  · rw [z] at q ⊢
    exact q
  · have : 0 < (moG R y).length := List.length_pos_iff.mpr z
    rw [if_pos this] at q
    rw [if_neg z]
    exact q
theorem R_allOf (hS : RmS R sl M) (hI : RbI R I M) (hV : RSv R ρ M) (hy : inR R y) (hn : n < moC R) (H : Q (some (.int (Int32.ofNat (alF R I ρ y n (moG R y).length)))) M) : E (h + 3) mdX11_allOf [.ref 29, .int (Int32.ofNat y), .int (Int32.ofNat n)] M Q := by
  obtain ⟨b1, b2, b3⟩ := hy.b hS
  have F := hI.1
  have c20 := hS.1.2.2.2.2.1
  obtain ⟨k0, k1⟩ := kid_ix hS hy
  have al_le : ∀ i, alF R I ρ y n i ≤ 2 := fun i => by
    cases i with
    | zero => exact oI_le _
    | succ i => exact v3A_le _ _
  have rs_le : ∀ c, rsR R I ρ y c ≤ 2 := fun c => v3A_le _ _
  have rc_le : ∀ (st : Nat) (f : Nat → Nat) (k : Nat), st ≤ 2 → rcV st f k ≤ 2 := fun st f k hst => by
    cases k with
    | zero => exact hst
    | succ k => exact v3O_le _ _
  have ly : (Int32.ofNat y).toNatClampNeg = y := lt32 (by omega)
  have nx32 : ∀ i, (if i < (moG R y).length then Int32.ofNat ((moG R y).getD i 0) else -1) = (if i < (moG R y).length then Int32.ofNat ((moG R y).getD i 0) else (-1 : Int32)) := fun _ => rfl
  have main : ∀ (d i : Nat), i + d = (moG R y).length → T (h + 3) mdX11_allOf 15 [(0, .ref 29), (1, .int (Int32.ofNat y)), (2, .int (Int32.ofNat n)), (3, .int (Int32.ofNat (alF R I ρ y n i))), (4, .int (if i < (moG R y).length then Int32.ofNat ((moG R y).getD i 0) else -1))] [] M Q := by
    intro d
    induction d with
    | zero =>
      intro i hd
      rw [if_neg (by omega)]
      refine VX11_allOf_15 (h := h + 2) ?_
      unfold DX11_allOf_15
      refine ⟨fun _ => ?_, fun z => absurd rfl z⟩
      rw [show (moG R y).length = i by omega] at H
      exact H
    | succ d ih =>
      intro i hd
      have hi : i < (moG R y).length := by omega
      obtain ⟨iz, nx⟩ := k1 i hi
      obtain ⟨z1, z2, z3⟩ := iz.b hS
      obtain ⟨c, ec⟩ : ∃ c, c = (moG R y).getD i 0 := ⟨_, rfl⟩
      rw [← ec] at iz nx z1 z2 z3
      have lc : (Int32.ofNat c).toNatClampNeg = c := lt32 (by omega)
      -- the codes of the child
      have inn : ∀ (e j : Nat), j + e = n + 1 → T (h + 3) mdX11_allOf 74 [(0, .ref 29), (1, .int (Int32.ofNat y)), (2, .int (Int32.ofNat n)), (3, .int (Int32.ofNat (alF R I ρ y n i))), (4, .int (Int32.ofNat c)), (5, .int (Int32.ofNat (rcV (rsR R I ρ y c) (fun j => ρ (4, c, j)) j))), (6, .int (Int32.ofNat j))] [] M Q := by
        intro e
        induction e with
        | zero =>
          intro j hj
          have ej : j = n + 1 := by omega
          refine VX11_allOf_74 (h := h + 2) ?_
          unfold DX11_allOf_74
          rw [lc]
          refine ⟨fun _ => R_both (h := h + 1) (al_le i) (rc_le _ _ _ (rs_le _)) (fun _ => ⟨_, rfl, ok29 F, 84, rf29_66 F, ok84 F, by rw [ln84 F]; exact vp_of (by omega) (by decide), ?_⟩), fun z => absurd ((ltn32 (by omega) (by omega)).mpr (by omega)) z⟩
          rw [nx, ej]
          have q := ih (i + 1) (by omega)
          have e1 : alF R I ρ y n (i + 1) = v3A (alF R I ρ y n i) (rcV (rsR R I ρ y c) (fun j => ρ (4, c, j)) (n + 1)) := by rw [ec]; rfl
          rw [e1] at q
          exact q
        | succ e ihe =>
          intro j hj
          refine VX11_allOf_74 (h := h + 2) ?_
          unfold DX11_allOf_74
          refine ⟨fun z => ?_, fun _ => ⟨ok29 F, R_k (h := h + 1) hS hI hV iz (by omega) (fun _ => ⟨_, rfl, R_either (h := h + 1) (rc_le _ _ _ (rs_le _)) (hV.1 _) (fun _ => ⟨_, rfl, ?_⟩)⟩)⟩⟩
          · have := (ltn32 (by omega) (by omega)).mp z
            omega
          · rw [succ32]
            exact ihe (j + 1) (by omega)
      have st := inn (n + 1) 0 (by omega)
      have e0 : rcV (rsR R I ρ y c) (fun j => ρ (4, c, j)) 0 = rsR R I ρ y c := rfl
      rw [e0, rsR_if hV.1] at st
      rw [if_pos hi, ← ec]
      refine VX11_allOf_15 (h := h + 2) ?_
      unfold DX11_allOf_15 DX11_allOf_68 DX11_allOf_69
      rw [ly, lc, hI.2.2.1, hI.2.1, ix700 b3 (by omega), lt32 (show y - 700 * moM R < 2147483648 by omega)]
      have m1 := (hS.2.2.1 y hy).1
      have m2 := (hS.2.2.1 c iz).1
      have vy : vp_in (Int32.ofNat y) (mL M 87) := by rw [ln87 F]; exact vp_of (by omega) (by decide)
      have vc : vp_in (Int32.ofNat c) (mL M 87) := by rw [ln87 F]; exact vp_of (by omega) (by decide)
      refine ⟨fun z => absurd z (nm32 (by omega)), fun _ => ⟨ok29 F, 87, rf29_69 F, ok87 F, vy, fun z => ?_, fun z => ⟨87, rf29_69 F, ok87 F, vc, fun z2 => ?_, fun z2 => ⟨96, rf29_78 F, ok96 F, by rw [ln96 F]; exact vp_of (by omega) (by decide), ?_⟩⟩⟩⟩
      · rw [m1] at z
        rw [if_neg (fun q => q.1 z)] at st
        exact st
      · rw [m2] at z2
        rw [if_neg (fun q => z2 q.2)] at st
        exact st
      · rw [m1] at z
        rw [m2] at z2
        rw [if_pos ⟨z, z2⟩] at st
        rw [hV.2.2.1 1 y (by decide) hy]
        exact st
  refine KX11_allOf (h := h + 2) ?_
  unfold DX11_allOf_0
  rw [ly]
  refine ⟨ok29 F, R_orOf (h := h) hS hI hV hy hn (fun _ => ⟨_, rfl, 82, rf29_64 F, ok82 F, by rw [ln82 F]; exact vp_of (by omega) (by decide), ?_⟩)⟩
  have q := main (moG R y).length 0 (by omega)
  rw [k0]
  by_cases z : moG R y = []
  · rw [z] at q ⊢
    exact q
  · have : 0 < (moG R y).length := List.length_pos_iff.mpr z
    rw [if_pos this] at q
    rw [if_neg z]
    exact q
end
