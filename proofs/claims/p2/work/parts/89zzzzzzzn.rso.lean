/-! the reference solves: its beginning, and all of it -/
section
variable {R : RMo} {I : RIn} {sl il : List Nat} {M M1 M' : Mem} {h : Nat} {Q : Option Value → Mem → Prop}
def IniA (R : RMo) (n : Nat) (M : Mem) : Prop := (∀ c j, c ≤ 3 → j < n → mAI M (95 + c) j = 2) ∧ ∀ j k, j < n → k < moC R → mAI M 99 (24 * j + k) = 2
theorem IniA.k {n : Nat} (h : IniA R n M) (k : ∀ c, 95 ≤ c → c ≤ 99 → mAI M' c = mAI M c) : IniA R n M' := ⟨fun c j hc hj => by rw [k (95 + c) (by omega) (by omega)]; exact h.1 c j hc hj, fun j q hj hq => by rw [k 99 (by omega) (by omega)]; exact h.2 j q hj hq⟩
/-- truths unknown -/
theorem R_ini1 (hI : RbI R I M) (hS : RmS R sl M) (K : ∀ M', RbF M M' → IniA R (moS R).1 M' → T (h + 5) mdX11_solve 86 [(0, .ref 29), (1, .int (Int32.ofNat (moS R).1)), (2, .int 0)] [] M' Q) : T (h + 5) mdX11_solve 12 [(0, .ref 29), (1, .int (Int32.ofNat (moS R).1)), (2, .int 0)] [] M Q := by
  obtain ⟨⟨h4, hGG, q16, c3, c20, -⟩, -⟩ := id hS
  have h7 := hGG.1.2
  have main : ∀ (d n : Nat) (M1 : Mem), n + d = (moS R).1 → RbF M M1 → IniA R n M1 → T (h + 5) mdX11_solve 12 [(0, .ref 29), (1, .int (Int32.ofNat (moS R).1)), (2, .int (Int32.ofNat n))] [] M1 Q := by
    intro d
    induction d with
    | zero =>
      intro n M1 hn k1 a1
      refine VX11_solve_12 (h := h + 4) ?_
      unfold DX11_solve_12
      have en : n = (moS R).1 := by omega
      rw [en] at a1 ⊢
      exact ⟨fun _ => K M1 k1 a1, fun z => absurd Int32.le_rfl z⟩
    | succ d ih =>
      intro n M1 hn k1 a1
      have F1 := k1.fix hI.1
      have v70 : ∀ {z : Nat}, z = 700 → vp_in (Int32.ofNat n) z := fun e => by rw [e]; exact vp_of (by omega) (by decide)
      have cod : ∀ (e c : Nat) (M2 : Mem), c + e = moC R → RbF M M2 → (∀ q j, q ≤ 3 → j < n + 1 → mAI M2 (95 + q) j = 2) → (∀ j k, (j < n ∧ k < moC R) ∨ (j = n ∧ k < c) → mAI M2 99 (24 * j + k) = 2) → T (h + 5) mdX11_solve 47 [(0, .ref 29), (1, .int (Int32.ofNat (moS R).1)), (2, .int (Int32.ofNat n)), (3, .int (Int32.ofNat c))] [] M2 Q := by
        intro e
        induction e with
        | zero =>
          intro c M2 hc k2 w1 w2
          have F2 := k2.fix hI.1
          have I2 := k2.bi hI
          refine VX11_solve_47 (h := h + 4) ?_
          unfold DX11_solve_47
          rw [I2.2.1, lt32 (show moM R < 2147483648 by omega), succ32]
          refine ⟨ok29 F2, 92, rf29_74 F2, ok92 F2, by rw [ln92 F2]; exact vp_of h4 (by decide), ?_⟩
          rw [(k2.rm hS).2.2.2.2.2.2.1, show c = moC R by omega]
          refine ⟨fun _ => ih (n + 1) M2 (by omega) k2 ⟨w1, fun j k hj hk => w2 j k ?_⟩, fun z => absurd Int32.le_rfl z⟩
          by_cases z : j = n
          · exact Or.inr ⟨z, by omega⟩
          · exact Or.inl ⟨by omega, hk⟩
        | succ e ihe =>
          intro c M2 hc k2 w1 w2
          have F2 := k2.fix hI.1
          have I2 := k2.bi hI
          refine VX11_solve_47 (h := h + 4) ?_
          unfold DX11_solve_47
          rw [I2.2.1, lt32 (show moM R < 2147483648 by omega), ix24, lt32 (show 24 * n + c < 2147483648 by omega), succ32 (a := c)]
          refine ⟨ok29 F2, 92, rf29_74 F2, ok92 F2, by rw [ln92 F2]; exact vp_of h4 (by decide), ?_⟩
          rw [(k2.rm hS).2.2.2.2.2.2.1]
          refine ⟨fun z => ?_, fun _ => ⟨99, rf29_81 F2, ok99 F2, by rw [ln99 F2]; exact vp_of (by omega) (by decide), fun M6 e6 => ?_⟩⟩
          · have := (le32 (by omega) (by omega)).mp z
            omega
          refine ihe (c + 1) M6 (by omega) (k2.tr (RbF.up (by decide) e6)) (fun q j hq hj => ?_) (fun j k hj => ?_)
          · rw [e6, mAI_wAI, if_neg (fun z => by omega)]; exact w1 q j hq hj
          · rw [e6, mAI_wAI]
            by_cases z : 24 * j + k = 24 * n + c
            · rw [if_pos ⟨rfl, z⟩]
            · rw [if_neg (fun q => z q.2)]
              refine w2 j k ?_
              rcases hj with q | ⟨q1, q2⟩
              · exact Or.inl q
              · exact Or.inr ⟨q1, by rw [q1] at z; omega⟩
      refine VX11_solve_12 (h := h + 4) ?_
      unfold DX11_solve_12
      rw [lt32 (show n < 2147483648 by omega)]
      refine ⟨fun z => ?_, fun _ => ⟨ok29 F1, 95, rf29_77 F1, ok95 F1, v70 (ln95 F1), fun M4 e4 => ?_⟩⟩
      · have := (le32 (by omega) (by omega)).mp z
        omega
      have k4 := k1.tr (RbF.up (by decide) e4)
      have F4 := k4.fix hI.1
      refine ⟨96, rf29_78 F4, ok96 F4, v70 (ln96 F4), fun M7 e7 => ?_⟩
      have k7 := k4.tr (RbF.up (by decide) e7)
      have F7 := k7.fix hI.1
      refine ⟨97, rf29_79 F7, ok97 F7, v70 (ln97 F7), fun M10 e10 => ?_⟩
      have k10 := k7.tr (RbF.up (by decide) e10)
      have F10 := k10.fix hI.1
      refine ⟨98, rf29_80 F10, ok98 F10, v70 (ln98 F10), fun M13 e13 => ?_⟩
      refine cod (moC R) 0 M13 (by omega) (k10.tr (RbF.up (by decide) e13)) (fun q j hq hj => ?_) (fun j k hj => ?_)
      · rw [e13, mAI_wAI, e10, mAI_wAI, e7, mAI_wAI, e4, mAI_wAI]
        by_cases z : j = n
        · have : q = 0 ∨ q = 1 ∨ q = 2 ∨ q = 3 := by omega
          rcases this with e | e | e | e <;> rw [e, z] <;> simp
        · rw [if_neg (fun y => z y.2), if_neg (fun y => z y.2), if_neg (fun y => z y.2), if_neg (fun y => z y.2)]
          exact a1.1 q j hq (by omega)
      · rw [e13, mAI_wAI, if_neg (fun y => absurd y.1 (by decide)), e10, mAI_wAI, if_neg (fun y => absurd y.1 (by decide)), e7, mAI_wAI, if_neg (fun y => absurd y.1 (by decide)), e4, mAI_wAI, if_neg (fun y => absurd y.1 (by decide))]
        rcases hj with ⟨q1, q2⟩ | ⟨-, q2⟩
        · exact a1.2 j k q1 q2
        · omega
  exact main (moS R).1 0 M (by omega) RbF.rf ⟨fun c j _ hj => absurd hj (Nat.not_lt_zero _), fun j k hj => absurd hj (Nat.not_lt_zero _)⟩
theorem R_solve (hI : RbI R I M) (hb : ∀ s, iBf I s ≤ 1) (hS : RmS R sl M) (hL : NdL R) (hM : EmL R) (hG : SgL R) (hT : StL R sl) (hN : InL R I il M) (K : ∀ ρ M' b, RbF M M' → RSv R ρ M' → JF (FrR R I) ρ → (∀ i, FrR R I ρ i = ρ i) → (b = 1 ∧ KnR R ρ) ∨ (b = 0 ∧ ¬ KnR R ρ) → Q (some (.int b)) M') : E (h + 5) mdX11_solve [.ref 29] M Q := by
  obtain ⟨⟨h4, hGG, q16, c3, c20, -⟩, -⟩ := id hS
  have h7 := hGG.1.2
  have F := hI.1
  obtain ⟨⟨n1, n2⟩, n3, n4, n5, n6, n7⟩ := hN
  -- the loop
  have go : ∀ M1, RbF M M1 → IniA R (moS R).1 M1 → (∀ t, t < moQ R → moT R t ≠ 0 → mAI M1 100 t = 2) → (∀ j, j < il.length → mAI M1 100 (il.getD j 0) = Int32.ofNat (iGv I (il.getD j 0))) → mI M1 29 83 = 1 → T (h + 5) mdX11_solve 185 [(0, .ref 29), (1, .int (Int32.ofNat (moS R).1))] [] M1 Q := fun M1 k1 a1 w1 w2 f1 => by
    have gb : ∀ s, s < moQ R → moT R s = 0 → iGv I s ≤ 1 := fun s hs h0 => by
      obtain ⟨j, j1, j2⟩ := n6 s hs h0
      rw [← j2]; exact (n7 j j1).2
    have V0 : RSv R (rho0 R I) M1 := by
      refine ⟨fun j => ?_, fun j hj => ?_, fun c y hc iy => ?_, fun y n iy hn => ?_, fun s hs => ?_⟩
      · unfold rho0
        by_cases z : j.1 = 5 ∧ j.2.1 < moQ R ∧ j.2.2 = 0 ∧ moT R j.2.1 = 0
        · rw [if_pos z]
          have := gb _ z.2.1 z.2.2.2
          omega
        · rw [if_neg z]; exact Nat.le_refl _
      · unfold rho0
        rw [if_neg (fun z => hj (Or.inr (Or.inr ⟨z.1, z.2.1, z.2.2.1⟩)))]
      · obtain ⟨i1, i2⟩ := iy
        rw [a1.1 c _ hc (by omega)]
        unfold rho0
        rw [if_neg (fun z => by have : c = 5 := z.1; omega)]
        rfl
      · obtain ⟨i1, i2⟩ := iy
        rw [a1.2 _ n (by omega) hn]
        unfold rho0
        rw [if_neg (fun z => absurd (show (4 : Nat) = 5 from z.1) (by decide))]
        rfl
      · unfold rho0
        by_cases z : moT R s = 0
        · rw [if_pos ⟨rfl, hs, rfl, z⟩]
          obtain ⟨j, j1, j2⟩ := n6 s hs z
          have q := w2 j j1
          rw [j2] at q
          exact q
        · rw [if_neg (fun y => z y.2.2.2), w1 s hs z]
          rfl
    have J0 : JF (FrR R I) (rho0 R I) := JF.st0 (fun i => by
      by_cases z : i.1 = 5 ∧ i.2.1 < moQ R ∧ i.2.2 = 0 ∧ moT R i.2.1 = 0
      · refine Or.inr (fun u => ?_)
        obtain ⟨c, y, n⟩ := i
        have z1 : c = 5 := z.1
        have z3 : n = 0 := z.2.2.1
        subst z1 z3
        rw [Fr_in z.2.1 z.2.2.2]
        unfold rho0
        rw [if_pos z]
      · refine Or.inl ?_
        unfold rho0
        rw [if_neg z])
    have N0 : InK R I (rho0 R I) := fun s hs h0 => ⟨by unfold rho0; rw [if_pos ⟨rfl, hs, rfl, h0⟩], gb s hs h0⟩
    exact R_loop (h := h) (Q := Q) hI hb hS hL hM hG hT (fun ρ' M' k' V' J' f' => R_321 (h := h) (k'.bi hI) (k'.rm hS) V' (fun b q => K ρ' M' b k' V' J' f' q)) (muU (rho0 R I) (PLs R) + 1) (rho0 R I) M1 (by omega) k1 V0 N0 J0 f1
  -- the inputs
  have inp : ∀ (d i : Nat) (M1 : Mem), i + d = il.length → RbF M M1 → IniA R (moS R).1 M1 → (∀ t, t < moQ R → moT R t ≠ 0 → mAI M1 100 t = 2) → (∀ j, j < i → mAI M1 100 (il.getD j 0) = Int32.ofNat (iGv I (il.getD j 0))) → T (h + 5) mdX11_solve 135 [(0, .ref 29), (1, .int (Int32.ofNat (moS R).1)), (2, .int (Int32.ofNat i))] [] M1 Q := by
    intro d
    induction d with
    | zero =>
      intro i M1 hi k1 a1 w1 w2
      have F1 := k1.fix F
      have I1 := k1.bi hI
      have e35 : mAI M1 35 (moM R) = Int32.ofNat il.length := by rw [k1.2.2.2.2 35 (by decide)]; exact n1
      refine VX11_solve_135 (h := h + 4) ?_
      unfold DX11_solve_135
      rw [I1.2.1, lt32 (show moM R < 2147483648 by omega)]
      refine ⟨ok29 F1, 35, rf29_9 F1, ok35 F1, by rw [ln35 F1]; exact vp_of h4 (by decide), ?_⟩
      rw [e35, show i = il.length by omega]
      refine ⟨fun _ => ⟨Or.inr rfl, fun M4 e4 => ?_⟩, fun z => absurd Int32.le_rfl z⟩
      refine go M4 (k1.tr (RbF.wi e4)) (a1.k (fun c _ _ => by rw [e4]; rfl)) (fun t ht h0 => by rw [e4]; exact w1 t ht h0) (fun j hj => by rw [e4]; exact w2 j (by omega)) (by rw [e4]; exact mI_own _ _ _ _)
    | succ d ih =>
      intro i M1 hi k1 a1 w1 w2
      have F1 := k1.fix F
      have I1 := k1.bi hI
      have e35 : mAI M1 35 (moM R) = Int32.ofNat il.length := by rw [k1.2.2.2.2 35 (by decide)]; exact n1
      have e41 : mAI M1 41 (4 * moM R + i) = Int32.ofNat (il.getD i 0) := by rw [k1.2.2.2.2 41 (by decide)]; exact n3 i (by omega)
      have e4 : (4 : Int32) * Int32.ofNat (moM R) + Int32.ofNat i = Int32.ofNat (4 * moM R + i) := by rw [Int32.ofNat_add, Int32.ofNat_mul]; rfl
      obtain ⟨p1, p2⟩ := n5 i (by omega)
      have e87 : ((mI M1 29 87) >>> (Int32.ofNat i &&& 31)) &&& 1 = Int32.ofNat (iGv I (il.getD i 0)) := by rw [k1.2.2.2.1 87 (by decide)]; exact (n7 i (by omega)).1
      refine VX11_solve_135 (h := h + 4) ?_
      unfold DX11_solve_135
      rw [I1.2.1, lt32 (show moM R < 2147483648 by omega), e4, lt32 (show 4 * moM R + i < 2147483648 by omega), e87, succ32]
      refine ⟨ok29 F1, 35, rf29_9 F1, ok35 F1, by rw [ln35 F1]; exact vp_of h4 (by decide), ?_⟩
      rw [e35]
      refine ⟨fun z => ?_, fun _ => ⟨100, rf29_82 F1, 41, rf29_15 F1, ok41 F1, by rw [ln41 F1]; exact vp_of (by omega) (by decide), ok100 F1, ?_⟩⟩
      · have := (le32 (by omega) (by omega)).mp z
        omega
      rw [e41, lt32 (show il.getD i 0 < 2147483648 by omega)]
      refine ⟨by rw [ln100 F1]; exact vp_of (by omega) (by decide), fun M9 e9 => ?_⟩
      refine ih (i + 1) M9 (by omega) (k1.tr (RbF.up (by decide) e9)) (a1.k (fun c c1 c2 => by rw [e9]; exact mAI_wAI_ne (by omega))) (fun t ht h0 => ?_) (fun j hj => ?_)
      · rw [e9, mAI_wAI, if_neg (fun z => h0 (by rw [z.2]; exact p2))]
        exact w1 t ht h0
      · rw [e9, mAI_wAI]
        by_cases z : il.getD j 0 = il.getD i 0
        · rw [if_pos ⟨rfl, z⟩, z]
        · rw [if_neg (fun q => z q.2)]
          refine w2 j ?_
          have : j ≠ i := fun e => z (by rw [e])
          omega
  -- the signals
  have sig : ∀ (d t : Nat) (M1 : Mem), t + d = moQ R → RbF M M1 → IniA R (moS R).1 M1 → (∀ s, s < t → moT R s ≠ 0 → mAI M1 100 s = 2) → T (h + 5) mdX11_solve 86 [(0, .ref 29), (1, .int (Int32.ofNat (moS R).1)), (2, .int (Int32.ofNat t))] [] M1 Q := by
    intro d
    induction d with
    | zero =>
      intro t M1 ht k1 a1 w1
      have F1 := k1.fix F
      have I1 := k1.bi hI
      refine VX11_solve_86 (h := h + 4) ?_
      unfold DX11_solve_86
      rw [I1.2.1, lt32 (show moM R < 2147483648 by omega)]
      refine ⟨ok29 F1, 34, rf29_8 F1, ok34 F1, by rw [ln34 F1]; exact vp_of h4 (by decide), ?_⟩
      rw [(k1.rm hS).2.2.2.2.2.2.2.2.2.1, show t = moQ R by omega]
      exact ⟨fun _ => inp il.length 0 M1 (by omega) k1 a1 (fun s hs h0 => w1 s (by omega) h0) (fun j hj => absurd hj (Nat.not_lt_zero _)), fun z => absurd Int32.le_rfl z⟩
    | succ d ih =>
      intro t M1 ht k1 a1 w1
      have F1 := k1.fix F
      have I1 := k1.bi hI
      have S1 := k1.rm hS
      have tq : t < moQ R := by omega
      obtain ⟨u, u5, eu⟩ := hG t tq
      have e38 : mAI M1 38 (16 * moM R + t) = Int32.ofNat u := by rw [S1.2.2.2.2.2.2.2.2.2.2 t tq]; exact eu
      have e16 : (16 : Int32) * Int32.ofNat (moM R) + Int32.ofNat t = Int32.ofNat (16 * moM R + t) := by rw [Int32.ofNat_add, Int32.ofNat_mul]; rfl
      have u0 : (Int32.ofNat u ≤ 0) ↔ u = 0 := ⟨fun z => by have := (le32 (a := u) (b := 0) (by omega) (by decide)).mp z; omega, fun z => by rw [z]; exact Int32.le_rfl⟩
      have fin : ∀ (x : Int32), (moT R t ≠ 0 → x = 2) → DX11_solve_126 (h + 4) 29 (Int32.ofNat (moS R).1) (Int32.ofNat t) 100 (Int32.ofNat t) x M1 Q := fun x hx => by
        unfold DX11_solve_126
        rw [lt32 (show t < 2147483648 by omega), succ32]
        refine ⟨ok100 F1, by rw [ln100 F1]; exact vp_of (by omega) (by decide), fun M2 e2 => ?_⟩
        refine ih (t + 1) M2 (by omega) (k1.tr (RbF.up (by decide) e2)) (a1.k (fun c c1 c2 => by rw [e2]; exact mAI_wAI_ne (by omega))) (fun s hs h0 => ?_)
        rw [e2, mAI_wAI]
        by_cases z : s = t
        · rw [if_pos ⟨rfl, z⟩]; exact hx (by rw [← z]; exact h0)
        · rw [if_neg (fun q => z q.2)]; exact w1 s (by omega) h0
      refine VX11_solve_86 (h := h + 4) ?_
      unfold DX11_solve_86
      rw [I1.2.1, lt32 (show moM R < 2147483648 by omega), e16, lt32 (show 16 * moM R + t < 2147483648 by omega)]
      refine ⟨ok29 F1, 34, rf29_8 F1, ok34 F1, by rw [ln34 F1]; exact vp_of h4 (by decide), ?_⟩
      rw [S1.2.2.2.2.2.2.2.2.2.1]
      refine ⟨fun z => ?_, fun _ => ⟨100, rf29_82 F1, 38, rf29_12 F1, ok38 F1, by rw [ln38 F1]; exact vp_of (by omega) (by decide), ?_⟩⟩
      · have := (le32 (by omega) (by omega)).mp z
        omega
      rw [e38, u0]
      exact ⟨fun z => fin 0 (fun q => absurd (show moT R t = 0 by rw [eu, z]; rfl) q), fun _ => fin 2 (fun _ => rfl)⟩
  refine KX11_solve (h := h + 4) ?_
  unfold DX11_solve_0
  rw [hI.2.1, lt32 (show moM R < 2147483648 by omega)]
  refine ⟨ok29 F, 79, rf29_61 F, ok79 F, by rw [ln79 F]; exact vp_of h4 (by decide), ?_⟩
  rw [hS.2.2.2.2.2.1]
  exact R_ini1 (h := h) hI hS (fun M1 k1 a1 => sig (moQ R) 0 M1 (by omega) k1 a1 (fun s hs => absurd hs (Nat.not_lt_zero _)))
end
