/-! the reference's signals -/
def SgL (R : RMo) : Prop := ∀ s, s < moQ R → ∃ t, t ≤ 5 ∧ moT R s = Int32.ofNat t
/-- inputs are as they were given -/
def InK (R : RMo) (I : RIn) (ρ : Plc → Nat) : Prop := ∀ s, s < moQ R → moT R s = 0 → ρ (5, s, 0) = iGv I s ∧ iGv I s ≤ 1
section
variable {R : RMo} {I : RIn} {sl : List Nat} {ρ ρ1 : Plc → Nat} {M M1 M' : Mem} {h y s : Nat} {Q : Option Value → Mem → Prop}
theorem InK.lq (h : InK R I ρ) (k : Lq ρ ρ1) : InK R I ρ1 := fun s hs h0 => by
  obtain ⟨a, b⟩ := h s hs h0
  refine ⟨?_, b⟩
  rcases k (5, s, 0) with e | e
  · rw [a] at e; omega
  · rw [← e]; exact a
theorem Fr_sg (hs : s < moQ R) (h0 : moT R s ≠ 0) : FrR R I ρ (5, s, 0) = emR R ρ s (moS R).1 := by
  show FrA R I ρ 5 s 0 = _
  unfold FrA
  rw [if_neg (by decide), if_neg (by decide), if_pos ⟨rfl, hs, rfl⟩, if_neg h0]
theorem Fr_in (hs : s < moQ R) (h0 : moT R s = 0) : FrR R I ρ (5, s, 0) = iGv I s := by
  show FrA R I ρ 5 s 0 = _
  unfold FrA
  rw [if_neg (by decide), if_neg (by decide), if_pos ⟨rfl, hs, rfl⟩, if_pos h0]
/-- one signal -/
theorem R_sg1 (hS : RmS R sl M) (hI : RbI R I M) (hV : RSv R ρ M) (hL : NdL R) (hs : s < moQ R) (h0 : moT R s ≠ 0) (hJ : JF (FrR R I) ρ) (K : ∀ M', SvS R ρ M (upP ρ (5, s, 0) (emR R ρ s (moS R).1)) M' → T (h + 2) mdX11_signalsNow 2 [(0, .ref 29), (1, .int (Int32.ofNat (s + 1)))] [] M' Q) : T (h + 2) mdX11_signalsNow 43 [(0, .ref 29), (1, .int (Int32.ofNat s)), (2, .int 0), (3, .int (Int32.ofNat (700 * moM R)))] [] M Q := by
  have F := hI.1
  obtain ⟨⟨h4, hG, q16, -⟩, -⟩ := id hS
  have h7 := hG.1.2
  have k79 := hS.2.2.2.2.2.1
  have e7 : (700 : Int32) * Int32.ofNat (moM R) = Int32.ofNat (700 * moM R) := by rw [Int32.ofNat_mul]; rfl
  have main : ∀ (d k : Nat), k + d = (moS R).1 → T (h + 2) mdX11_signalsNow 43 [(0, .ref 29), (1, .int (Int32.ofNat s)), (2, .int (Int32.ofNat (emR R ρ s k))), (3, .int (Int32.ofNat (700 * moM R + k)))] [] M Q := by
    intro d
    induction d with
    | zero =>
      intro k hk
      have ek : k = (moS R).1 := by omega
      refine VX11_signalsNow_43 (h := h + 1) ?_
      unfold DX11_signalsNow_43 DX11_signalsNow_126
      rw [hI.2.1, lt32 (show moM R < 2147483648 by omega), e7]
      refine ⟨ok29 F, 79, rf29_61 F, ok79 F, by rw [ln79 F]; exact vp_of h4 (by decide), ?_⟩
      rw [k79, add32, ek]
      refine ⟨fun _ => ⟨100, rf29_82 F, R_known (i := (5, s, 0)) (h := h) hS F hV (Or.inr (Or.inr ⟨rfl, hs, rfl⟩)) (emR_e (moS R).1).2.2 ?_ (fun M2 k2 _ => ⟨rfl, ?_⟩)⟩, fun z => absurd Int32.le_rfl z⟩
      · have q := hJ.1 (5, s, 0)
        rw [Fr_sg hs h0] at q
        exact q
      · rw [succ32]
        exact K M2 k2
    | succ d ih =>
      intro k hk
      have iz : inR R (700 * moM R + k) := ⟨by omega, by omega⟩
      have e80 : mAI M 80 (700 * moM R + k) = (moS R).2 80 (700 * moM R + k) := hS.2.1 80 _ (by decide) (by decide) iz
      have vz : ∀ {z : Nat}, z = 2800 → vp_in (Int32.ofNat (700 * moM R + k)) z := fun e => by rw [e]; exact vp_of (by omega) (by decide)
      have lz : (Int32.ofNat (700 * moM R + k)).toNatClampNeg = 700 * moM R + k := lt32 (by omega)
      have nx := ih (k + 1) (by omega)
      have er : emR R ρ s (k + 1) = if emK R s k then v3O (emR R ρ s k) (ρ (0, 700 * moM R + k, 0)) else emR R ρ s k := rfl
      rw [er] at nx
      refine VX11_signalsNow_43 (h := h + 1) ?_
      unfold DX11_signalsNow_43 DX11_signalsNow_110
      rw [hI.2.1, lt32 (show moM R < 2147483648 by omega), e7, lz, succ32, show 700 * moM R + k + 1 = 700 * moM R + (k + 1) by omega]
      refine ⟨ok29 F, 79, rf29_61 F, ok79 F, by rw [ln79 F]; exact vp_of h4 (by decide), ?_⟩
      rw [k79, add32]
      refine ⟨fun z => ?_, fun _ => ⟨80, rf29_62 F, ok80 F, vz (ln80 F), ?_⟩⟩
      · have := (le32 (by omega) (by omega)).mp z
        omega
      rw [e80]
      refine ⟨fun z => ?_, fun z => ?_⟩
      · rw [if_neg (fun q => z q.1)] at nx
        exact nx
      · obtain ⟨j, j1, j2⟩ := (hL _ iz).2.1 (Or.inr z)
        have e81 : mAI M 81 (700 * moM R + k) = Int32.ofNat (40 * moM R + j) := by rw [hS.2.1 81 _ (by decide) (by decide) iz]; exact j2
        have lj : (Int32.ofNat (40 * moM R + j)).toNatClampNeg = 40 * moM R + j := lt32 (by omega)
        have e60 : mAI M 60 (40 * moM R + j) = moA R 60 (40 * moM R + j) := hS.2.2.2.1 60 _ (by decide) (by decide) (by omega) (by omega)
        have ek : emK R s k ↔ moA R 60 (40 * moM R + j) = Int32.ofNat s := by
          have : moA R 60 ((moS R).2 81 (700 * moM R + k)).toNatClampNeg = moA R 60 (40 * moM R + j) := by rw [j2, lj]
          exact ⟨fun q => by rw [← this]; exact q.2, fun q => ⟨z, by rw [this]; exact q⟩⟩
        refine ⟨60, rf29_40 F, 81, rf29_63 F, ok81 F, vz (ln81 F), ok60 F, ?_⟩
        rw [e81, lj, e60, sub32 (show 700 * moM R ≤ 700 * moM R + k by omega) (by omega), lt32 (show 700 * moM R + k - 700 * moM R < 2147483648 by omega)]
        refine ⟨by rw [ln60 F]; exact vp_of (by omega) (by decide), fun q => ?_, fun q => ⟨95, rf29_77 F, ok95 F, by rw [ln95 F]; exact vp_of (by omega) (by decide), ?_⟩⟩
        · rw [if_neg (fun y => q (ek.mp y))] at nx
          exact nx
        · rw [if_pos (ek.mpr q)] at nx
          have g := hV.2.2.1 0 _ (by decide) iz
          have g : mAI M 95 (700 * moM R + k - 700 * moM R) = Int32.ofNat (ρ (0, 700 * moM R + k, 0)) := g
          rw [g]
          exact R_either (h := h) (emR_e k).2.2 (hV.1 _) (fun _ => ⟨_, rfl, nx⟩)
  exact main (moS R).1 0 (by omega)
theorem R_sigs (hS : RmS R sl M) (hI : RbI R I M) (hV : RSv R ρ M) (hL : NdL R) (hG : SgL R) (hN : InK R I ρ) (hJ : JF (FrR R I) ρ) (K : ∀ ρ' M', SvS R ρ M ρ' M' → JF (FrR R I) ρ' → (ρ' = ρ → ∀ s, s < moQ R → FrR R I ρ (5, s, 0) = ρ (5, s, 0)) → Q none M') : E (h + 2) mdX11_signalsNow [.ref 29] M Q := by
  obtain ⟨⟨h4, -, q16, -⟩, -⟩ := id hS
  have main : ∀ (d t : Nat) (ρ1 : Plc → Nat) (M1 : Mem), t + d = moQ R → SvS R ρ M ρ1 M1 → JF (FrR R I) ρ1 → (ρ1 = ρ → ∀ s, s < t → FrR R I ρ (5, s, 0) = ρ (5, s, 0)) → T (h + 2) mdX11_signalsNow 2 [(0, .ref 29), (1, .int (Int32.ofNat t))] [] M1 Q := by
    intro d
    induction d with
    | zero =>
      intro t ρ1 M1 ht k1 J1 x1
      have F1 := k1.1.fix hI.1
      have S1 := k1.rm hS
      have I1 := k1.1.bi hI
      have et : t = moQ R := by omega
      refine VX11_signalsNow_2 (h := h + 1) ?_
      unfold DX11_signalsNow_2
      rw [I1.2.1, lt32 (show moM R < 2147483648 by omega)]
      refine ⟨ok29 F1, 34, rf29_8 F1, ok34 F1, by rw [ln34 F1]; exact vp_of h4 (by decide), ?_⟩
      rw [S1.2.2.2.2.2.2.2.2.2.1, et]
      exact ⟨fun _ => K ρ1 M1 k1 J1 (fun e s hs => x1 e s (by omega)), fun z => absurd Int32.le_rfl z⟩
    | succ d ih =>
      intro t ρ1 M1 ht k1 J1 x1
      have F1 := k1.1.fix hI.1
      have S1 := k1.rm hS
      have I1 := k1.1.bi hI
      have N1 := hN.lq k1.2.2.1
      have tq : t < moQ R := by omega
      obtain ⟨u, u5, eu⟩ := hG t tq
      have e38 : mAI M1 38 (16 * moM R + t) = Int32.ofNat u := by rw [S1.2.2.2.2.2.2.2.2.2.2 t tq]; exact eu
      have e16 : (16 : Int32) * Int32.ofNat (moM R) + Int32.ofNat t = Int32.ofNat (16 * moM R + t) := by rw [Int32.ofNat_add, Int32.ofNat_mul]; rfl
      have e7 : (700 : Int32) * Int32.ofNat (moM R) = Int32.ofNat (700 * moM R) := by rw [Int32.ofNat_mul]; rfl
      refine VX11_signalsNow_2 (h := h + 1) ?_
      unfold DX11_signalsNow_2 DX11_signalsNow_126
      rw [I1.2.1, lt32 (show moM R < 2147483648 by omega), e16, lt32 (show 16 * moM R + t < 2147483648 by omega), e7]
      refine ⟨ok29 F1, 34, rf29_8 F1, ok34 F1, by rw [ln34 F1]; exact vp_of h4 (by decide), ?_⟩
      rw [S1.2.2.2.2.2.2.2.2.2.1]
      refine ⟨fun z => ?_, fun _ => ⟨38, rf29_12 F1, ok38 F1, by rw [ln38 F1]; exact vp_of (by omega) (by decide), ?_⟩⟩
      · have := (le32 (by omega) (by omega)).mp z
        omega
      rw [e38]
      have u0 : (Int32.ofNat u ≤ 0) ↔ u = 0 := ⟨fun z => by have := (le32 (a := u) (b := 0) (by omega) (by decide)).mp z; omega, fun z => by rw [z]; exact Int32.le_rfl⟩
      rw [u0]
      refine ⟨fun z => ?_, fun z => ?_⟩
      · rw [succ32]
        have t0 : moT R t = 0 := by rw [eu, z]; rfl
        refine ih (t + 1) ρ1 M1 (by omega) k1 J1 (fun e s hs => ?_)
        by_cases y : s = t
        · rw [y, Fr_in tq t0]
          exact (hN t tq t0).1.symm
        · exact x1 e s (by omega)
      · have t0 : moT R t ≠ 0 := fun e => by
          rw [eu] at e
          exact z (inj32 (a := u) (b := 0) (by omega) (by decide) e)
        refine R_sg1 (h := h) S1 I1 k1.2.1 hL tq t0 J1 (fun M2 k2 => ?_)
        have J2 := J1.up (v' := upP ρ1 (5, t, 0) (emR R ρ1 t (moS R).1)) FrR_mo (fun i => by
          unfold upP
          by_cases z : i = (5, t, 0)
          · rw [if_pos z, z]; exact Or.inr (Fr_sg tq t0).symm
          · rw [if_neg z]; exact Or.inl rfl)
        refine ih (t + 1) _ M2 (by omega) (k1.tr k2) J2.1 (fun e s hs => ?_)
        -- nothing has changed
        have e1 : ρ1 = ρ := by
          funext i
          have a := k1.2.2.1 i
          have b := J2.2 i
          rw [e] at b
          exact b.an a
        by_cases y : s = t
        · have q := congrFun e (5, t, 0)
          unfold upP at q
          rw [if_pos rfl, e1] at q
          rw [y, Fr_sg tq t0]
          exact q
        · exact x1 e1 s (by omega)
  refine KX11_signalsNow (h := h + 1) ?_
  unfold DX11_signalsNow_0
  exact main (moQ R) 0 ρ M (by omega) (SvS.rf hV) hJ (fun _ s hs => absurd hs (Nat.not_lt_zero _))
end
