/-! a governor of the class works a part: emissions, assignments, ifs -/
section
variable {M M1 M' : Mem} {g c nw nx kp gn wr nP sm cc stc mx ia I h p : Nat} {ks : Nat → Nat} {cs : List Int32} {X : List Nd} {Q : Option Value → Mem → Prop}
theorem InG.cut {x : Int64} (h : InG x) : InG (x.toInt32).toInt64 := by
  have t := h.t
  refine InG.o ?_ ?_
  · rw [Int32.toInt_toInt64, Int64.toInt_toInt32, Int.bmod_eq_of_le (by omega) (by omega)]; exact t.1
  · rw [Int32.toInt_toInt64, Int64.toInt_toInt32, Int.bmod_eq_of_le (by omega) (by omega)]; exact t.2
theorem GvS.nsm (hS : GvS M g c nw nx kp gn wr nP ks) (os : ok M sm 8) : g ≠ sm := fun z => by
  have w := hS.1.1.2
  rw [z, os.2] at w
  exact absurd w (by decide)
theorem S_emit {s : Nat} {v : Int32} (hS : GvS M g c nw nx kp gn wr nP ks) (hP : PlS M c sm cc stc mx ia I cs) (hr : RoG M nx) (hs : s < 16) (K : ∀ M', BwF g sm stc nx M M' → RoG M' nx → Q none M') : E (h + 2) mdX2_emitNumber [.ref g, .int (Int32.ofNat s), .int v] M Q := by
  have gs := hS.nsm hP.2.1.1.1
  have e4 : (4 : Int32) + Int32.ofNat s = Int32.ofNat (4 + s) := (Int32.ofNat_add 4 s).symm
  have f79 : ∀ x : Int64, DX2_emitNumber_79 (h + 1) g (Int32.ofNat s) (Int32.ofNat (4 + s)) x M Q := by
    intro x
    unfold DX2_emitNumber_79
    refine S_rng (h := h) (fun _ => ⟨_, rfl, fun nz => ⟨hS.1.1, fun M4 e4' => ?_⟩, fun _ => ⟨hS.1.1, fun M9 e9 => ?_⟩⟩)
    · have hx : InG x := by
        by_cases z : (-1000000000 : Int64) ≤ x ∧ x ≤ 1000000000
        · exact z
        · rw [if_neg z] at nz; exact absurd rfl nz
      have k4 : GmF g (fun f => f = 9 ∨ f = 12 ∨ f = 13) (fun r => r = nx) M M4 := GmF.i (Or.inl rfl) e4'
      have S4 := hS.gm k4
      refine ⟨nx, S4.1.2.2.2.1, S4.2.1.2.1.1, by rw [S4.2.1.2.1.2]; exact vp_of (by omega) (by decide), fun M7 e7 => ?_⟩
      rw [lt32 (by omega)] at e7
      have k7 : GmF g (fun f => f = 9 ∨ f = 12 ∨ f = 13) (fun r => r = nx) M4 M7 := GmF.a rfl e7
      have r4 : RoG M4 nx := hr.k (by rw [e4']; rfl)
      exact K M7 (BwF.gm gs (k4.tr k7)) (r4.up (fun _ => hx.cut) e7)
    · have k9 : GmF g (fun f => f = 9 ∨ f = 12 ∨ f = 13) (fun r => r = nx) M M9 := GmF.i (Or.inr (Or.inl rfl)) e9
      exact K M9 (BwF.gm gs k9) (hr.k (by rw [e9]; rfl))
  have vs : vp_in (Int32.ofNat s) (mL M mx) := by rw [hP.2.2.1.2]; exact vp_of hs (by decide)
  have v4 : vp_in (Int32.ofNat (4 + s)) (mL M nx) := by rw [hS.2.1.2.1.2]; exact vp_of (by omega) (by decide)
  refine KX2_emitNumber (h := h + 1) ?_
  unfold DX2_emitNumber_0 DX2_emitNumber_77
  rw [e4]
  refine ⟨hS.1.1, fun _ => f79 _, fun _ => ⟨c, hS.1.2.1, hP.1.1, mx, hP.1.2.2.1, hP.2.2.1.1, vs, fun _ => ⟨c, hS.1.2.1, hP.1.1, mx, hP.1.2.2.1, hP.2.2.1.1, vs, fun _ => ⟨nx, hS.1.2.2.2.1, hS.2.1.2.1.1, v4, f79 _⟩, fun _ => ⟨nx, hS.1.2.2.2.1, hS.2.1.2.1.1, v4, f79 _⟩⟩, fun _ M14 e14 => ?_⟩⟩
  have k14 : GmF g (fun f => f = 9 ∨ f = 12 ∨ f = 13) (fun r => r = nx) M M14 := GmF.i (Or.inr (Or.inl rfl)) e14
  exact K M14 (BwF.gm gs k14) (hr.k (by rw [e14]; rfl))
theorem S_wkPt (hl : X.length ≤ 810) (hS : GvS M g c nw nx kp gn wr nP ks) (hP : PlS M c sm cc stc mx ia I cs) (rw1 : RoG M nw) (rx : RoG M nx) (hp : PtK M X cs p) (h0 : mI M p 3 ≠ 0) (K : ∀ M', BwF g sm stc nx M M' → RoG M' nx → Q none M') : E (h + 6) mdX2_workPart [.ref g, .ref p] M Q := by
  have gs := hS.nsm hP.2.1.1.1
  obtain ⟨op, q⟩ := hp
  have pg : p ≠ g := fun z => by
    have w := op.2
    rw [z, hS.1.1.2] at w
    exact absurd w (by decide)
  have psm : p ≠ sm := fun z => by
    have w := op.2
    rw [z, hP.2.1.1.1.2] at w
    exact absurd w (by decide)
  refine KX2_workPart (h := h + 5) ?_
  unfold DX2_workPart_0 DX2_workPart_103
  refine ⟨op, fun n3 => ?_, fun e3 => ?_⟩
  · have hs5 : SuPt M X cs p 5 := by
      rcases q with q | q | q | q
      · exact absurd q h0
      · exact q.2.2
      · exact q.2.2
      · exact absurd q.1 n3
    refine ⟨hS.1.1, c, hS.1.2.1, hP.1.1, sm, hP.1.2.1, nx, hS.1.2.2.2.1, hP.2.1.1.1, S_wk0 (h := h + 1) hl hP rx hS.2.1.2.1.1 hS.2.1.2.1.2 hs5 (fun M8 r8 k8 hg8 _ => ⟨r8, rfl, ?_⟩)⟩
    have S8 := hS.wc k8
    have P8 := hP.wc k8
    refine ⟨c, S8.1.2.1, P8.1.1, sm, P8.1.2.1, P8.2.1.1.1, fun M14 e14 => ?_⟩
    have b8 : BwF g sm stc nx M M8 := BwF.wc gs k8
    have k14 : GmF g (fun f => f = 9 ∨ f = 12 ∨ f = 13) (fun r => r = nx) M8 M14 := GmF.i (Or.inr (Or.inl rfl)) e14
    have b14 : BwF g sm stc nx M M14 := b8.tr (BwF.gm gs k14)
    have S14 := S8.gm k14
    have r14 : RoG M14 nx := (rx.wc k8).k (by rw [e14]; rfl)
    have p3 : ∀ f, mI M14 p f = mI M p f := fun f => by rw [e14, mI_wI, if_neg (fun z => pg z.1), k8.2.2.1 p psm]
    rw [p3, p3]
    refine ⟨fun _ => ⟨fun n2 => ?_, fun e2 => ?_⟩, fun _ => K M14 b14 r14⟩
    · have h1 : ∃ s, s < 16 ∧ mI M p 4 = Int32.ofNat s := by
        rcases q with q | q | q | q
        · exact absurd q h0
        · exact q.2.1
        · exact absurd q.1 n2
        · exact absurd q.1 n3
      obtain ⟨s, hs, es⟩ := h1
      rw [es]
      have P14 : PlS M14 c sm cc stc mx ia I cs := by
        obtain ⟨⟨a1, a2, a3, a4, a5⟩, b, ⟨c1, c2⟩, ⟨d1, d2, d3, d4⟩⟩ := P8
        have cg : c ≠ g := fun z => by
          have w := a1.2
          rw [z, S8.1.1.2] at w
          exact absurd w (by decide)
        have sg : sm ≠ g := fun z => gs z.symm
        rw [e14]
        obtain ⟨⟨s1, s2, s3, s4, s5, s6, s7, s8⟩, t, u⟩ := b
        exact ⟨⟨a1, a2, a3, a4, by rw [mI_wI, if_neg (fun z => cg z.1)]; exact a5⟩, ⟨⟨s1, s2, s3, by rw [mI_wI, if_neg (fun z => sg z.1)]; exact s4, s5, s6, s7, s8⟩, t, u⟩, ⟨c1, c2⟩, ⟨d1, d2, d3, d4⟩⟩
      refine S_emit (h := h + 3) S14 P14 r14 hs (fun M15 b15 r15 _ => ⟨rfl, K M15 (b14.tr b15) r15⟩)
    · have h1 : ∃ v, v < 6 ∧ mI M p 4 = Int32.ofNat v := by
        rcases q with q | q | q | q
        · exact absurd q h0
        · rw [q.1] at e2; exact absurd e2 (by decide)
        · exact q.2.1
        · exact absurd q.1 n3
      obtain ⟨v, hv, ev⟩ := h1
      have e20 : (20 : Int32) + Int32.ofNat v = Int32.ofNat (20 + v) := (Int32.ofNat_add 20 v).symm
      rw [ev, e20]
      refine ⟨nx, S14.1.2.2.2.1, S14.2.1.2.1.1, by rw [S14.2.1.2.1.2]; exact vp_of (by omega) (by decide), fun M18 e18 => ?_⟩
      rw [lt32 (by omega)] at e18
      have k18 : GmF g (fun f => f = 9 ∨ f = 12 ∨ f = 13) (fun r => r = nx) M14 M18 := GmF.a rfl e18
      exact K M18 (b14.tr (BwF.gm gs k18)) (r14.up (fun _ => hg8) e18)
  · have hq : SuPt M X cs p 5 ∧ SuPt M X cs p 6 := by
      rcases q with q | q | q | q
      · exact absurd q h0
      · rw [q.1] at e3; exact absurd e3 (by decide)
      · rw [q.1] at e3; exact absurd e3 (by decide)
      · exact q.2
    refine ⟨hS.1.1, S_isSo (h := h) hl hS hP rw1 op hq.1 hq.2 (fun M20 r20 k20 _ _ => ⟨r20, rfl, ?_⟩)⟩
    have S20 := hS.wc k20
    have P20 := hP.wc k20
    refine ⟨c, S20.1.2.1, P20.1.1, sm, P20.1.2.1, P20.2.1.1.1, fun M26 e26 => ?_⟩
    have k26 : GmF g (fun f => f = 9 ∨ f = 12 ∨ f = 13) (fun r => r = nx) M20 M26 := GmF.i (Or.inr (Or.inl rfl)) e26
    exact K M26 ((BwF.wc gs k20).tr (BwF.gm gs k26)) ((rx.wc k20).k (by rw [e26]; rfl))
theorem S_takG (hS : GvS M g c nw nx kp gn wr nP ks) (hP : PlS M c sm cc stc mx ia I cs) (n2 : nx ≠ ia) (rx : RoG M nx) (rg : ∀ j, j < 4 → InG (mAI M gn j).toInt64) (K : ∀ M', GmF g (fun _ => False) (fun r => r = nx) M M' → RoG M' nx → Q none M') : E (h + 1) mdX2_takeGivenNumbers [.ref g] M Q := by
  have main : ∀ d i M1, i + d = I → GmF g (fun _ => False) (fun r => r = nx) M M1 → RoG M1 nx → T (h + 1) mdX2_takeGivenNumbers 2 [(0, .ref g), (1, .int (Int32.ofNat i))] [] M1 Q := by
    intro d
    have I4 : I ≤ 4 := hP.2.2.2.2.2.1
    induction d with
    | zero =>
      intro i M1 hi k1 r1
      have S1 := hS.gm k1
      have e10 : mI M1 c 10 = Int32.ofNat I := by
        have cg : c ≠ g := fun z => by
          have w := hP.1.1.2
          rw [z, hS.1.1.2] at w
          exact absurd w (by decide)
        rw [k1.2.2.1 c cg]; exact hP.1.2.2.2.2
      refine VX2_takeGivenNumbers_2 ?_
      unfold DX2_takeGivenNumbers_2
      refine ⟨S1.1.1, c, S1.1.2.1, k1.ok hP.1.1, fun _ => K M1 k1 r1, fun z => absurd ?_ z⟩
      rw [e10, show i = I by omega]
      exact (le32 (by omega) (by omega)).mpr (Nat.le_refl _)
    | succ d ih =>
      intro i M1 hi k1 r1
      have S1 := hS.gm k1
      have cg : c ≠ g := fun z => by
        have w := hP.1.1.2
        rw [z, hS.1.1.2] at w
        exact absurd w (by decide)
      have e10 : mI M1 c 10 = Int32.ofNat I := by rw [k1.2.2.1 c cg]; exact hP.1.2.2.2.2
      obtain ⟨s, hs, es⟩ := hP.2.2.2.2.2.2 i (by omega)
      have rI : ∀ f, mR M1 c f = mR M c f := fun f => by rw [k1.2.1.2.1]
      have lI : mL M1 = mL M := k1.1.2.2.2
      have eia : mAI M1 ia i = Int32.ofNat s := by rw [k1.2.2.2.2 ia (fun z => n2 z.symm)]; exact es
      have egn : mAI M1 gn = mAI M gn := k1.2.2.2.2 gn hS.2.2.2.2.2.1
      have e4 : (4 : Int32) + Int32.ofNat s = Int32.ofNat (4 + s) := (Int32.ofNat_add 4 s).symm
      refine VX2_takeGivenNumbers_2 ?_
      unfold DX2_takeGivenNumbers_2 DX2_takeGivenNumbers_60
      rw [succ32, lt32 (show i < 2147483648 by omega)]
      refine ⟨S1.1.1, c, S1.1.2.1, k1.ok hP.1.1, fun z => ?_, fun _ => ⟨c, S1.1.2.1, k1.ok hP.1.1, ia, by rw [rI]; exact hP.1.2.2.2.1, k1.ok hP.2.2.2.1, by rw [lI, hP.2.2.2.2.1]; exact vp_of (by omega) (by decide), fun _ => ih (i + 1) M1 (by omega) k1 r1, fun _ => ?_⟩⟩
      · rw [e10] at z
        have := (le32 (by omega) (by omega)).mp z
        omega
      rw [eia, e4, lt32 (show s < 2147483648 by omega), lt32 (show 4 + s < 2147483648 by omega)]
      refine ⟨c, S1.1.2.1, k1.ok hP.1.1, mx, by rw [rI]; exact hP.1.2.2.1, k1.ok hP.2.2.1.1, by rw [lI, hP.2.2.1.2]; exact vp_of hs (by decide), fun _ => ih (i + 1) M1 (by omega) k1 r1, fun _ => ⟨nx, S1.1.2.2.2.1, gn, S1.1.2.2.2.2.2.1, S1.2.1.2.2.1.1, by rw [S1.2.1.2.2.1.2]; exact vp_of (by omega) (by decide), S1.2.1.2.1.1, by rw [S1.2.1.2.1.2]; exact vp_of (by omega) (by decide), fun M16 e16 => ?_⟩⟩
      have k16 : GmF g (fun _ => False) (fun r => r = nx) M1 M16 := GmF.a rfl e16
      refine ih (i + 1) M16 (by omega) (k1.tr k16) (r1.up (fun _ => ?_) e16)
      rw [egn]
      exact rg i (by omega)
  refine KX2_takeGivenNumbers ?_
  unfold DX2_takeGivenNumbers_0
  exact main I 0 M (by omega) GmF.rf rx
end
