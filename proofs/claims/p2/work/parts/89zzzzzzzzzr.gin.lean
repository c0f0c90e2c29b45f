/-! the governor's constructor, governor() of the class -/
section
variable {M M1 M2 : Mem} {g f q w : Nat}
/-- a row is made and kept in field f of g -/
def StR (g f n w kd : Nat) (M M2 : Mem) : Prop := (mN M2 = mN M + n ∧ mS M2 = mS M + w) ∧ fr (fun c => c = g) M M2 ∧ mI M2 = mI M ∧ mR M2 g f = some (mN M) ∧ (∀ f', f' ≠ f → mR M2 g f' = mR M g f') ∧ ok M2 (mN M) kd
theorem st_row (e1 : M1 = nwA M 21 w) (eq : q = mN M) (e2 : M2 = wR M1 g f (some q)) (hg : g < mN M) : StR g f 1 w 21 M M2 ∧ mL M2 (mN M) = w ∧ ∀ k, mAI M2 (mN M) k = 0 := by
  have f1 : fr (fun c => c = g) M M1 := by rw [e1]; exact fr_nwA
  have f2 : fr (fun c => c = g) M1 M2 := by rw [e2]; exact fr_wR rfl
  have k1 : mK M1 (mN M) = 21 := by rw [e1]; exact va_up_self _ _ _
  have l1 : mL M1 (mN M) = w := by rw [e1]; exact va_up_self _ _ _
  have z1 : mAI M1 (mN M) = fun _ => 0 := by rw [e1]; exact va_up_self _ _ _
  refine ⟨⟨⟨by rw [e2, e1]; rfl, by rw [e2, e1]; rfl⟩, f1.tr f2 (fun _ _ z => z), by rw [e2, e1]; rfl, by rw [e2, mR_wR, if_pos ⟨rfl, rfl⟩, eq], fun f' hf => ?_, ⟨by rw [e2, e1]; exact Nat.lt_succ_self _, by rw [e2]; exact k1⟩⟩, by rw [e2]; exact l1, fun k => by rw [e2]; show mAI M1 (mN M) k = 0; rw [z1]⟩
  rw [e2, mR_wR, if_neg (fun z => hf z.2), e1]
  exact congrFun (show mR M g = mR M g from rfl) f'
theorem st_grd (e1 : M1 = nw3 M 26) (eq : q = mN M) (e2 : M2 = wR M1 g f (some q)) (hg : g < mN M) : StR g f 4 81 25 M M2 ∧ mL M2 (mN M) = 3 ∧ ∀ i, i < 3 → mAR M2 (mN M) i = some (mN M + 1 + i) ∧ ok M2 (mN M + 1 + i) 21 ∧ mL M2 (mN M + 1 + i) = 26 ∧ ∀ k, mAI M2 (mN M + 1 + i) k = 0 := by
  have f1 : fr (fun c => c = g) M M1 := by
    rw [e1]
    refine ⟨mE_nw3, fun b hb _ => ?_⟩
    obtain ⟨-, -, a3, a4, a5, a6, a7, a8⟩ := nw3_old (k := 26) hb
    exact ⟨a6, a7, a8, a3, a4, a5⟩
  have f2 : fr (fun c => c = g) M1 M2 := by rw [e2]; exact fr_wR rfl
  obtain ⟨t1, t2, t3⟩ := nw3_top (M := M) (k := 26)
  refine ⟨⟨⟨by rw [e2, e1]; rfl, by rw [e2, e1]; rfl⟩, f1.tr f2 (fun _ _ z => z), by rw [e2, e1]; rfl, by rw [e2, mR_wR, if_pos ⟨rfl, rfl⟩, eq], fun f' hf => ?_, ⟨by rw [e2, e1]; show mN M < mN M + 4; omega, by rw [e2, e1]; exact t1⟩⟩, by rw [e2, e1]; exact t2, fun i hi => ?_⟩
  · rw [e2, mR_wR, if_neg (fun z => hf z.2), e1]
    exact congrFun (show mR M g = mR M g from rfl) f'
  · obtain ⟨r1, r2, r3⟩ := nw3_row (M := M) (k := 26) hi
    refine ⟨?_, ⟨by rw [e2, e1]; show mN M + 1 + i < mN M + 4; omega, by rw [e2, e1]; exact r1⟩, by rw [e2, e1]; exact r2, fun k => ?_⟩
    · rw [e2, e1]; show mAR (nw3 M 26) (mN M) i = _; rw [t3]
    · rw [e2, e1]; show mAI (nw3 M 26) (mN M + 1 + i) k = 0; rw [r3]
end
section
variable {M : Mem} {g c nP V pb be h : Nat} {ps : List Nat} {Q : Option Value → Mem → Prop} {x : Int32}
theorem S_gini (og : ok M g 4) (oc : ok M c 3) (z5 : mI M g 5 = 0) (e6 : mR M c 6 = some (c + 7)) (hA : ALp M (c + 7) pb 5 ps) (hl : ps.length = nP) (h40 : nP ≤ 40) (e12 : mI M c 12 = Int32.ofNat V) (hV : V ≤ 6) (e5 : mR M c 5 = some be) (ob : ok M be 21) (lb : mL M be = 6) (hbe : ∀ k, k < V → InG (mAI M be k).toInt64) (K : ∀ M' nw nx kp gn wr ks, fr (fun a => a = g) M M' → GvS M' g c nw nx kp gn wr nP ks → GvR M' g nw nx gn ks → (∀ r, grR nw nx wr gn ks r ∨ r = kp → mN M ≤ r) → (mN M' = mN M + 8 ∧ mS M' = mS M + 137 + nP) → mI M' g 5 = 0 → Q none M') : E (h + 2) mdX2_init [.ref g, .ref c, .int x] M Q := by
  have t26 : (26 : Int32).toNatClampNeg = 26 := by decide
  have t4 : (4 : Int32).toNatClampNeg = 4 := by decide
  have cg : c ≠ g := fun e => by rw [e] at oc; exact absurd (oc.2.symm.trans og.2) (by decide)
  have gN := og.1
  refine KX2_init (h := h + 1) ?_
  unfold DX2_init_0
  rw [t26, t4]
  refine ⟨by decide, by decide, fun q2 M1 eq2 e1 => ⟨by rw [e1]; exact ok_nwA og, fun M4 e4 => ⟨by decide, by decide, fun q6 M5 eq6 e5' M7 e7 => ⟨by decide, by decide, fun q9 M8 eq9 e8 M10 e10 => ⟨by decide, by decide, fun q12 M11 eq12 e11 M13 e13 M14 e14 M15 e15 M16 e16 M17 e17 => ?_⟩⟩⟩⟩⟩
  obtain ⟨⟨⟨n4, s4⟩, f4, i4, r4, rr4, o4⟩, l4, z4⟩ := st_row e1 eq2 e4 gN
  obtain ⟨⟨⟨n7, s7⟩, f7, i7, r7, rr7, o7⟩, l7, z7⟩ := st_row e5' eq6 e7 (by omega)
  obtain ⟨⟨⟨n10, s10⟩, f10, i10, r10, rr10, o10⟩, l10, z10⟩ := st_grd e8 eq9 e10 (by omega)
  obtain ⟨⟨⟨n13, s13⟩, f13, i13, r13, rr13, o13⟩, l13, z13⟩ := st_row e11 eq12 e13 (by omega)
  -- its own fields
  have f17 : fr (fun a => a = g) M13 M17 := by
    rw [e17, e16, e15, e14]
    exact (((fr_wI (S := fun a => a = g) rfl).tr (fr_wI (S := fun a => a = g) rfl) (fun _ _ z => z)).tr (fr_wR (S := fun a => a = g) rfl) (fun _ _ z => z)).tr (fr_wI (S := fun a => a = g) rfl) (fun _ _ z => z)
  have n17 : mN M17 = mN M13 ∧ mS M17 = mS M13 := by rw [e17, e16, e15, e14]; exact ⟨rfl, rfl⟩
  have r17 : ∀ f, f ≠ 0 → mR M17 g f = mR M13 g f := fun f hf => by
    rw [e17]
    show mR M16 g f = _
    rw [e16, mR_wR, if_neg (fun z => hf z.2), e15, e14]
    rfl
  have r170 : mR M17 g 0 = some c := by
    rw [e17]
    show mR M16 g 0 = _
    rw [e16, mR_wR, if_pos ⟨rfl, rfl⟩]
  have i17 : mI M17 g 5 = 0 := by
    rw [e17, mI_wI, if_neg (fun z => absurd z.2 (by decide)), e16]
    show mI M15 g 5 = 0
    rw [e15, mI_wI, if_neg (fun z => absurd z.2 (by decide)), e14, mI_wI, if_neg (fun z => absurd z.2 (by decide)), i13, i10, i7, i4]
    exact z5
  have F17 : fr (fun a => a = g) M M17 := (((f4.tr f7 (fun _ _ z => z)).tr f10 (fun _ _ z => z)).tr f13 (fun _ _ z => z)).tr f17 (fun _ _ z => z)
  have A17 : ALp M17 (c + 7) pb 5 ps := alp_fr3 hA F17 (fun z => by
    have := hA.1.2
    rw [z, og.2] at this
    exact absurd this (by decide)) (fun o z => by
    have := o.2
    rw [z, og.2] at this
    exact absurd this (by decide))
  have rc17 := F17.2 c oc.1 cg
  refine ⟨ok_E oc F17.1, c + 7, by rw [rc17.2.2.1]; exact e6, A17.1, S_alSize (h := h) A17 (fun _ => ⟨_, rfl, ?_⟩)⟩
  have lp : (Int32.ofNat ps.length).toNatClampNeg = nP := by rw [hl]; exact lt32 (by omega)
  rw [lp]
  refine ⟨by rw [hl]; exact nn32 (by omega), by omega, fun q24 M23 eq24 e23 M25 e25 => ?_⟩
  obtain ⟨⟨⟨n25, s25⟩, f25, i25, r25, rr25, o25⟩, l25, z25⟩ := st_row e23 eq24 e25 (by have := F17.1.1; omega)
  have F25 := F17.tr f25 (fun _ _ z => z)
  -- rows at the end
  have E7 : mE M4 M25 := ((f7.1.tr f10.1).tr f13.1).tr (f17.1.tr f25.1)
  have E10 : mE M7 M25 := (f10.1.tr f13.1).tr (f17.1.tr f25.1)
  have E13 : mE M10 M25 := f13.1.tr (f17.1.tr f25.1)
  have E17 : mE M13 M25 := f17.1.tr f25.1
  have g7 : fr (fun a => a = g) M4 M25 := (((f7.tr f10 (fun _ _ z => z)).tr f13 (fun _ _ z => z)).tr f17 (fun _ _ z => z)).tr f25 (fun _ _ z => z)
  have g10 : fr (fun a => a = g) M7 M25 := ((f10.tr f13 (fun _ _ z => z)).tr f17 (fun _ _ z => z)).tr f25 (fun _ _ z => z)
  have g13 : fr (fun a => a = g) M10 M25 := (f13.tr f17 (fun _ _ z => z)).tr f25 (fun _ _ z => z)
  have g17 : fr (fun a => a = g) M13 M25 := f17.tr f25 (fun _ _ z => z)
  have hS : GvS M25 g c (mN M) (mN M4) (mN M7) (mN M10) (mN M17) nP (fun i => mN M7 + 1 + i) := by
    refine ⟨⟨ok_E og F25.1, by rw [rr25 0 (by decide)]; exact r170, ?_, ?_, ?_, ?_, r25⟩, ⟨⟨ok_E o4 E7, by rw [(E7.2.2 _ o4.1).2]; exact l4⟩, ⟨ok_E o7 E10, by rw [(E10.2.2 _ o7.1).2]; exact l7⟩, ⟨ok_E o13 E17, by rw [(E17.2.2 _ o13.1).2]; exact l13⟩, ⟨o25, l25⟩⟩, ⟨ok_E o10 E13, by rw [(E13.2.2 _ o10.1).2]; exact l10, fun i hi => ?_⟩, ?_⟩
    · rw [rr25 2 (by decide), r17 2 (by decide), rr13 2 (by decide), rr10 2 (by decide), rr7 2 (by decide)]; exact r4
    · rw [rr25 3 (by decide), r17 3 (by decide), rr13 3 (by decide), rr10 3 (by decide)]; exact r7
    · rw [rr25 4 (by decide), r17 4 (by decide), rr13 4 (by decide)]; exact r10
    · rw [rr25 7 (by decide), r17 7 (by decide)]; exact r13
    · obtain ⟨a1, a2, a3, a4⟩ := z10 i hi
      exact ⟨by rw [(g13.2 _ o10.1 (by omega)).2.2.2.2.2]; exact a1, ok_E a2 E13, by rw [(E13.2.2 _ a2.1).2]; exact a3⟩
    · refine ⟨by omega, by omega, by omega, by omega, by omega, by omega, fun i hi => ⟨?_, ?_, ?_, ?_⟩⟩ <;> (show mN M7 + 1 + i ≠ _) <;> omega
  have g0 : InG (0 : Int32).toInt64 := by unfold InG; decide
  have hRr : GvR M25 g (mN M) (mN M4) (mN M10) (fun i => mN M7 + 1 + i) := by
    refine ⟨fun j _ _ => ?_, fun j _ _ => ?_, fun i hi j _ _ => ?_, fun j _ => ?_, 0, by decide, ?_⟩
    · rw [(g7.2 _ o4.1 (by omega)).2.2.2.1, z4]; exact g0
    · rw [(g10.2 _ o7.1 (by omega)).2.2.2.1, z7]; exact g0
    · obtain ⟨a1, a2, a3, a4⟩ := z10 i hi
      show InG (mAI M25 (mN M7 + 1 + i) j).toInt64
      rw [(g13.2 _ a2.1 (by omega)).2.2.2.1, a4]; exact g0
    · rw [(g17.2 _ o13.1 (by omega)).2.2.2.1, z13]; exact g0
    · rw [i25]; exact i17
  have lo : ∀ r, grR (mN M) (mN M4) (mN M17) (mN M10) (fun i => mN M7 + 1 + i) r ∨ r = mN M7 → mN M ≤ r := fun r hr => by
    rcases hr with (y | y | y | y | ⟨i, hi, y⟩) | y
    · omega
    · omega
    · omega
    · omega
    · have y : r = mN M7 + 1 + i := y
      omega
    · omega
  have rc25 := F25.2 c oc.1 cg
  have rb : be ≠ g := fun e => by rw [e] at ob; exact absurd (ob.2.symm.trans og.2) (by decide)
  have rb25 := F25.2 be ob.1 rb
  -- variables begin
  have main : ∀ d v Mi, v + d = V → GmF g noP (fun r => r = mN M) M25 Mi → RoG Mi (mN M) → T (h + 2) mdX2_init 73 [(0, .ref g), (1, .ref c), (3, .int (Int32.ofNat v))] [] Mi Q := by
    intro d
    induction d with
    | zero =>
      intro v Mi hv ki ri
      have ev : v = V := hv
      subst ev
      refine VX2_init_73 (h := h + 1) ?_
      unfold DX2_init_73
      rw [ki.2.2.1 c cg, rc25.1, e12]
      refine ⟨ki.ok (ok_E oc F25.1), fun _ => ?_, fun z => absurd Int32.le_rfl z⟩
      obtain ⟨-, b2, b3, b4, q, b5, b6⟩ := hRr
      have row : ∀ r, r ≠ mN M → mAI Mi r = mAI M25 r := fun r hr => ki.2.2.2.2 r hr
      refine K Mi (mN M) (mN M4) (mN M7) (mN M10) (mN M17) (fun i => mN M7 + 1 + i) (F25.tr ki.fr (fun a ha z => z.elim id (fun y => by omega))) (hS.gm ki) ⟨ri, b2.k (row _ (by omega)), fun i hi => (b3 i hi).k (row _ (by show mN M7 + 1 + i ≠ _; omega)), by rw [row (mN M10) (by omega)]; exact b4, q, b5, by rw [ki.2.2.2.1 5 (fun z => z)]; exact b6⟩ lo ⟨by rw [ki.1.1]; omega, by rw [ki.1.2.1]; omega⟩ (by rw [ki.2.2.2.1 5 (fun z => z), i25]; exact i17)
    | succ d ih =>
      intro v Mi hv ki ri
      have lv : (Int32.ofNat v).toNatClampNeg = v := lt32 (by omega)
      have e20 : (20 : Int32) + Int32.ofNat v = Int32.ofNat (20 + v) := by rw [Int32.ofNat_add]; rfl
      have l20 : (Int32.ofNat (20 + v)).toNatClampNeg = 20 + v := lt32 (by omega)
      refine VX2_init_73 (h := h + 1) ?_
      unfold DX2_init_73
      rw [ki.2.2.1 c cg, rc25.1, e12, e20, lv, l20, succ32]
      refine ⟨ki.ok (ok_E oc F25.1), fun z => absurd ((le32 (by omega) (by omega)).mp z) (by omega), fun _ => ⟨ki.ok hS.1.1, mN M, by rw [ki.2.1.2.1]; exact hS.1.2.2.1, be, by rw [ki.2.1.2.1, rc25.2.2.1]; exact e5, ki.ok (ok_E ob F25.1), ?_, ki.ok hS.2.1.1.1, ?_, fun M7' e7' => ?_⟩⟩
      · rw [ki.1.2.2.2, (F25.1.2.2 _ ob.1).2, lb]; exact vp_of (by omega) (by decide)
      · rw [ki.1.2.2.2, hS.2.1.1.2]; exact vp_of (by omega) (by decide)
      · have bN := ob.1
        rw [ki.2.2.2.2 be (by omega), rb25.2.2.2.1] at e7'
        exact ih (v + 1) M7' (by omega) (ki.tr (GmF.a rfl e7')) (ri.up (fun _ => hbe v (by omega)) e7')
  exact main V 0 M25 (by omega) GmF.rf hRr.1
end
