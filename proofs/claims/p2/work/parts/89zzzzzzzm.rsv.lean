/-! the reference solves, whole -/
def PLs (R : RMo) : List Plc := ((List.range (moS R).1).flatMap (fun k => (List.range 4).map (fun c => (c, 700 * moM R + k, 0)) ++ (List.range (moC R)).map (fun n => (4, 700 * moM R + k, n)))) ++ (List.range (moQ R)).map (fun s => (5, s, 0))
/-- the inputs of the module, and what is given -/
def InL (R : RMo) (I : RIn) (il : List Nat) (M : Mem) : Prop := (mAI M 35 (moM R) = Int32.ofNat il.length ∧ il.length ≤ 4) ∧ (∀ j, j < il.length → mAI M 41 (4 * moM R + j) = Int32.ofNat (il.getD j 0)) ∧ (∀ j k, j < il.length → k < il.length → il.getD j 0 = il.getD k 0 → j = k) ∧ (∀ j, j < il.length → il.getD j 0 < moQ R ∧ moT R (il.getD j 0) = 0) ∧ (∀ s, s < moQ R → moT R s = 0 → ∃ j, j < il.length ∧ il.getD j 0 = s) ∧ ∀ j, j < il.length → ((mI M 29 87) >>> (Int32.ofNat j &&& 31)) &&& 1 = Int32.ofNat (iGv I (il.getD j 0)) ∧ iGv I (il.getD j 0) ≤ 1
def rho0 (R : RMo) (I : RIn) : Plc → Nat := fun i => if i.1 = 5 ∧ i.2.1 < moQ R ∧ i.2.2 = 0 ∧ moT R i.2.1 = 0 then iGv I i.2.1 else 2
section
variable {R : RMo} {I : RIn} {sl il : List Nat} {ρ : Plc → Nat} {M M1 M' : Mem} {h : Nat} {Q : Option Value → Mem → Prop} {x1 : Int32}
theorem PLs_in {i : Plc} (hi : plR R i) : i ∈ PLs R := by
  obtain ⟨c, z, n⟩ := i
  unfold PLs
  rcases hi with ⟨c3, iz, n0⟩ | ⟨c4, iz, nk⟩ | ⟨c5, zs, n0⟩
  · have c3 : c ≤ 3 := c3
    have n0 : n = 0 := n0
    obtain ⟨i1, i2⟩ := iz
    have i1 : 700 * moM R ≤ z := i1
    have i2 : z < 700 * moM R + (moS R).1 := i2
    refine List.mem_append.mpr (Or.inl (List.mem_flatMap.mpr ⟨z - 700 * moM R, List.mem_range.mpr (by omega), List.mem_append.mpr (Or.inl (List.mem_map.mpr ⟨c, List.mem_range.mpr (by omega), ?_⟩))⟩))
    rw [n0, show 700 * moM R + (z - 700 * moM R) = z by omega]
  · have c4 : c = 4 := c4
    obtain ⟨i1, i2⟩ := iz
    have i1 : 700 * moM R ≤ z := i1
    have i2 : z < 700 * moM R + (moS R).1 := i2
    refine List.mem_append.mpr (Or.inl (List.mem_flatMap.mpr ⟨z - 700 * moM R, List.mem_range.mpr (by omega), List.mem_append.mpr (Or.inr (List.mem_map.mpr ⟨n, List.mem_range.mpr nk, ?_⟩))⟩))
    rw [c4, show 700 * moM R + (z - 700 * moM R) = z by omega]
  · have c5 : c = 5 := c5
    have n0 : n = 0 := n0
    refine List.mem_append.mpr (Or.inr (List.mem_map.mpr ⟨z, List.mem_range.mpr zs, ?_⟩))
    rw [c5, n0]
theorem R_loop (hI : RbI R I M) (hb : ∀ s, iBf I s ≤ 1) (hS : RmS R sl M) (hL : NdL R) (hM : EmL R) (hG : SgL R) (hT : StL R sl) (K : ∀ ρ' M', RbF M M' → RSv R ρ' M' → JF (FrR R I) ρ' → (∀ i, FrR R I ρ' i = ρ' i) → T (h + 5) mdX11_solve 321 [(0, .ref 29), (1, .int x1), (2, .int 1), (3, .int 0)] [] M' Q) : ∀ (b : Nat) (ρ : Plc → Nat) (M1 : Mem), muU ρ (PLs R) < b → RbF M M1 → RSv R ρ M1 → InK R I ρ → JF (FrR R I) ρ → mI M1 29 83 = 1 → T (h + 5) mdX11_solve 185 [(0, .ref 29), (1, .int x1)] [] M1 Q := by
  intro b
  induction b with
  | zero => intro ρ M1 hb; exact absurd hb (Nat.not_lt_zero _)
  | succ b ih =>
    intro ρ M1 hmu k1 V1 N1 J1 f1
    have F1 := k1.fix hI.1
    refine VX11_solve_185 (h := h + 4) ?_
    unfold DX11_solve_185
    rw [f1]
    refine ⟨ok29 F1, fun z => absurd z (by decide), fun _ => ⟨Or.inl rfl, fun M2 e2 => ?_⟩⟩
    have k2 : RbF M1 M2 := RbF.wi e2
    have k12 := k1.tr k2
    have V2 : RSv R ρ M2 := V1.rm (fun c _ _ => by rw [e2]; rfl)
    refine R_sweep (h := h) (k12.rm hS) (k12.bi hI) hb V2 hL hM hG N1 hT J1 (fun ρ3 M3 k3 J3 x3 => ?_)
    have F3 := k3.1.fix (k12.fix hI.1)
    rcases k3.2.2.2 with ⟨q1, q2⟩ | ⟨q1, i, q2, q3⟩
    · refine VX11_solve_185 (h := h + 4) ?_
      unfold DX11_solve_185
      have z83 : mI M3 29 83 = 0 := by rw [q1, e2]; exact mI_own _ _ _ _
      refine ⟨ok29 F3, fun _ => K ρ3 M3 (k12.tr k3.1) k3.2.1 J3 (fun i => by rw [q2]; exact x3 q2 i), fun z => absurd z83 z⟩
    · have lt := muU_lt k3.2.2.1 (PLs R) i (PLs_in q2) q3
      exact ih ρ3 M3 (by omega) (k12.tr k3.1) k3.2.1 (N1.lq k3.2.2.1) J3 q1
/-- is all known -/
theorem R_321 (hI : RbI R I M) (hS : RmS R sl M) (hV : RSv R ρ M) (K : ∀ b : Int32, (b = 1 ∧ KnR R ρ) ∨ (b = 0 ∧ ¬ KnR R ρ) → Q (some (.int b)) M) : T (h + 5) mdX11_solve 321 [(0, .ref 29), (1, .int (Int32.ofNat (moS R).1)), (2, .int 1), (3, .int 0)] [] M Q := by
  have F := hI.1
  obtain ⟨⟨h4, hGG, q16, c3, c20, -⟩, -⟩ := id hS
  have h7 := hGG.1.2
  have k92 := hS.2.2.2.2.2.2.1
  have le2 : ∀ i, ((2 : Int32) ≤ Int32.ofNat (ρ i)) ↔ ρ i = 2 := fun i => by
    have := hV.1 i
    rw [show (2 : Int32) = Int32.ofNat 2 from rfl, le32 (by decide) (by omega)]
    omega
  have main : ∀ (d n : Nat) (b : Int32), n + d = (moS R).1 → ((b = 1 ∧ ∀ y, 700 * moM R ≤ y → y < 700 * moM R + n → (∀ q, q ≤ 3 → ρ (q, y, 0) ≠ 2) ∧ ∀ k, k < moC R → ρ (4, y, k) ≠ 2) ∨ (b = 0 ∧ ¬ KnR R ρ)) → T (h + 5) mdX11_solve 321 [(0, .ref 29), (1, .int (Int32.ofNat (moS R).1)), (2, .int b), (3, .int (Int32.ofNat n))] [] M Q := by
    intro d
    induction d with
    | zero =>
      intro n b hn hb
      refine VX11_solve_321 (h := h + 4) ?_
      unfold DX11_solve_321
      rw [show n = (moS R).1 by omega]
      refine ⟨fun _ => ⟨?_, K b ?_⟩, fun z => absurd Int32.le_rfl z⟩
      · rcases hb with q | q
        · exact Or.inr q.1
        · exact Or.inl q.1
      · rcases hb with ⟨q1, q2⟩ | q
        · exact Or.inl ⟨q1, fun y iy => q2 y iy.1 (by have := iy.2; omega)⟩
        · exact Or.inr q
    | succ d ih =>
      intro n b hn hb
      have iy : inR R (700 * moM R + n) := ⟨by omega, by omega⟩
      have ey : 700 * moM R + n - 700 * moM R = n := by omega
      have g : ∀ c, c ≤ 3 → mAI M (95 + c) n = Int32.ofNat (ρ (c, 700 * moM R + n, 0)) := fun c hc => by
        have q := hV.2.2.1 c _ hc iy
        rw [ey] at q
        exact q
      have gk : ∀ k, k < moC R → mAI M 99 (24 * n + k) = Int32.ofNat (ρ (4, 700 * moM R + n, k)) := fun k hk => by
        have q := hV.2.2.2.1 _ k iy hk
        rw [ey] at q
        exact q
      have ln : (Int32.ofNat n).toNatClampNeg = n := lt32 (by omega)
      have v70 : ∀ {z : Nat}, z = 700 → vp_in (Int32.ofNat n) z := fun e => by rw [e]; exact vp_of (by omega) (by decide)
      have nl : ¬ Int32.ofNat (moS R).1 ≤ Int32.ofNat n := fun z => by
        have := (le32 (by omega) (by omega)).mp z
        omega
      -- not all is known
      have bad : ¬ KnR R ρ → ∀ c, c < moC R + 1 → T (h + 5) mdX11_solve 379 [(0, .ref 29), (1, .int (Int32.ofNat (moS R).1)), (2, .int 0), (3, .int (Int32.ofNat n)), (4, .int (Int32.ofNat c))] [] M Q := fun nk c hc => by
        refine VX11_solve_379 (h := h + 4) ?_
        unfold DX11_solve_379 DX11_solve_425
        rw [hI.2.1, lt32 (show moM R < 2147483648 by omega), succ32]
        have q := ih (n + 1) 0 (by omega) (Or.inr ⟨rfl, nk⟩)
        exact ⟨ok29 F, 92, rf29_74 F, ok92 F, by rw [ln92 F]; exact vp_of h4 (by decide), fun _ => q, fun _ => ⟨fun _ => q, fun z => absurd rfl z⟩⟩
      have unk : ∀ {q : Nat}, q ≤ 3 → ρ (q, 700 * moM R + n, 0) = 2 → ¬ KnR R ρ := fun hq e k => (k _ iy).1 _ hq e
      -- codes
      have cod : (∀ q, q ≤ 3 → ρ (q, 700 * moM R + n, 0) ≠ 2) → (∀ y, 700 * moM R ≤ y → y < 700 * moM R + n → (∀ q, q ≤ 3 → ρ (q, y, 0) ≠ 2) ∧ ∀ k, k < moC R → ρ (4, y, k) ≠ 2) → ∀ (e c : Nat), c + e = moC R → (∀ k, k < c → ρ (4, 700 * moM R + n, k) ≠ 2) → T (h + 5) mdX11_solve 379 [(0, .ref 29), (1, .int (Int32.ofNat (moS R).1)), (2, .int 1), (3, .int (Int32.ofNat n)), (4, .int (Int32.ofNat c))] [] M Q := by
        intro w0 w1 e
        induction e with
        | zero =>
          intro c hc hk
          refine VX11_solve_379 (h := h + 4) ?_
          unfold DX11_solve_379 DX11_solve_425
          rw [hI.2.1, lt32 (show moM R < 2147483648 by omega), succ32]
          refine ⟨ok29 F, 92, rf29_74 F, ok92 F, by rw [ln92 F]; exact vp_of h4 (by decide), ?_⟩
          rw [k92, show c = moC R by omega]
          refine ⟨fun _ => ih (n + 1) 1 (by omega) (Or.inl ⟨rfl, fun y y1 y2 => ?_⟩), fun z => absurd Int32.le_rfl z⟩
          by_cases z : y = 700 * moM R + n
          · rw [z]; exact ⟨w0, fun k hk' => hk k (by omega)⟩
          · exact w1 y y1 (by omega)
        | succ e ihe =>
          intro c hc hk
          refine VX11_solve_379 (h := h + 4) ?_
          unfold DX11_solve_379 DX11_solve_418
          rw [hI.2.1, lt32 (show moM R < 2147483648 by omega), ix24, lt32 (show 24 * n + c < 2147483648 by omega), succ32]
          refine ⟨ok29 F, 92, rf29_74 F, ok92 F, by rw [ln92 F]; exact vp_of h4 (by decide), ?_⟩
          rw [k92]
          refine ⟨fun z => ?_, fun _ => ⟨fun z => absurd z (by decide), fun _ => ⟨99, rf29_81 F, ok99 F, by rw [ln99 F]; exact vp_of (by omega) (by decide), ?_⟩⟩⟩
          · have := (le32 (by omega) (by omega)).mp z
            omega
          rw [gk c (by omega), le2]
          refine ⟨fun z => bad (fun k => (k _ iy).2 c (by omega) z) (c + 1) (by omega), fun z => ihe (c + 1) (by omega) (fun k hk' => ?_)⟩
          by_cases y : k = c
          · rw [y]; exact z
          · exact hk k (by omega)
      refine VX11_solve_321 (h := h + 4) ?_
      unfold DX11_solve_321 DX11_solve_374 DX11_solve_375
      rw [ln]
      refine ⟨fun z => absurd z nl, fun _ => ⟨fun z => ?_, fun z => ⟨ok29 F, 95, rf29_77 F, ok95 F, v70 (ln95 F), ?_⟩⟩⟩
      · rcases hb with ⟨q1, -⟩ | ⟨-, q2⟩
        · rw [q1] at z; exact absurd z (by decide)
        · exact bad q2 0 (by omega)
      have w1 : ∀ y, 700 * moM R ≤ y → y < 700 * moM R + n → (∀ q, q ≤ 3 → ρ (q, y, 0) ≠ 2) ∧ ∀ k, k < moC R → ρ (4, y, k) ≠ 2 := by
        rcases hb with ⟨-, q2⟩ | ⟨q1, -⟩
        · exact q2
        · exact absurd q1 z
      have g0 : mAI M 95 n = Int32.ofNat (ρ (0, 700 * moM R + n, 0)) := g 0 (by decide)
      have g1 : mAI M 96 n = Int32.ofNat (ρ (1, 700 * moM R + n, 0)) := g 1 (by decide)
      have g2 : mAI M 97 n = Int32.ofNat (ρ (2, 700 * moM R + n, 0)) := g 2 (by decide)
      have g3 : mAI M 98 n = Int32.ofNat (ρ (3, 700 * moM R + n, 0)) := g 3 (by decide)
      rw [g0, le2]
      refine ⟨fun y => bad (unk (by decide) y) 0 (by omega), fun y0 => ⟨96, rf29_78 F, ok96 F, v70 (ln96 F), ?_⟩⟩
      rw [g1, le2]
      refine ⟨fun y => bad (unk (by decide) y) 0 (by omega), fun y1 => ⟨97, rf29_79 F, ok97 F, v70 (ln97 F), ?_⟩⟩
      rw [g2, le2]
      refine ⟨fun y => bad (unk (by decide) y) 0 (by omega), fun y2 => ⟨98, rf29_80 F, ok98 F, v70 (ln98 F), ?_⟩⟩
      rw [g3, le2]
      refine ⟨fun y => bad (unk (by decide) y) 0 (by omega), fun y3 => cod (fun q hq => ?_) w1 (moC R) 0 (by omega) (fun k hk => absurd hk (Nat.not_lt_zero _))⟩
      have : q = 0 ∨ q = 1 ∨ q = 2 ∨ q = 3 := by omega
      rcases this with e | e | e | e <;> rw [e]
      · exact y0
      · exact y1
      · exact y2
      · exact y3
  exact main (moS R).1 0 1 (by omega) (Or.inl ⟨rfl, fun y y1 y2 => by omega⟩)
end
