/-! the class's search, move, classOf, way, never, always -/
section
variable {ow : Nat → Nat} {ga : Nat → Td × PS} {gm : Nat → Nat} {M M' : Mem} {ms gs : List Nat} {mb gb h n0 : Nat} {Q : Option Value → Mem → Prop} {x y z w : Int32}
theorem G_search (hC : CvS ow ga gm M ms gs mb gb) (hb : mN M + 20 < mBig) (K : ∀ M' ow' (r : Int32), SrP ow ow' ms gs M M' → CvS ow' ga gm M' ms gs mb gb → Q (some (.int r)) M') : E (h + 8) mdX10_search [.ref 0, .int x] M Q := by
  refine KX10_search (h := h + 7) ?_
  unfold DX10_search_0 DX10_search_29
  refine ⟨ok0 hC.1, S_modAt (h := h + 3) hC (fun _ _ => ⟨none, rfl, fun _ => K M ow _ SrP.rf hC, fun b e => absurd e (by simp)⟩) (fun i hi ex _ => ⟨some _, rfl, fun e => absurd e (by simp), fun b e => ?_⟩)⟩
  exact G_srOf (h := h) hC hb (fun M5 ow' hP hC' _ => ⟨none, rfl, fun _ => K M5 ow' _ hP hC', fun b e => absurd e (by simp)⟩) (fun M5 ow' i s t a n hP hC' hi ex hO hS h1 _ => ⟨some s, rfl, fun e => absurd e (by simp), fun b e => by cases e; exact ⟨hO.1.1, K M5 ow' _ hP hC'⟩⟩)
theorem G_move (hC : CvS ow ga gm M ms gs mb gb) (hb : mN M + 20 < mBig) (K : ∀ M' ow' (r : Int32), SrP ow ow' ms gs M M' → CvS ow' ga gm M' ms gs mb gb → Q (some (.int r)) M') : E (h + 8) mdX10_move [.ref 0, .int x, .int y, .int z, .int w] M Q := by
  refine KX10_move (h := h + 7) ?_
  unfold DX10_move_0 DX10_move_34 DX10_move_84
  refine ⟨ok0 hC.1, G_srOf (h := h) hC hb (fun M5 ow' hP hC' _ => ⟨none, rfl, fun _ => K M5 ow' _ hP hC', fun b e => absurd e (by simp)⟩) (fun M5 ow' i s t a n hP hC' hi ex hO hS h1 _ => ⟨some s, rfl, fun e => absurd e (by simp), fun b e => ?_⟩)⟩
  cases e
  have n48 := hS.1.2
  have KK : ∀ r, Q (some (.int r)) M5 := fun r => K M5 ow' r hP hC'
  refine ⟨hO.1.1, S_hasSt (h := h + 6) hO hS (fun q hq eq _ => ⟨1, rfl, fun z => absurd z (by decide), fun _ => ⟨fun _ => KK _, fun z0 => ⟨fun z1 => ?_, fun _ => KK _⟩⟩⟩) (fun _ => ⟨0, rfl, fun _ => KK _, fun z => absurd rfl z⟩)⟩
  obtain ⟨v, ev, hv⟩ := nn_of z0
  obtain ⟨p1, p2⟩ := pw_le hO.1.2.2.2
  rw [hO.1.2.2.1, ev] at z1
  have vt := (ltn32 hv (by omega)).mp z1
  obtain ⟨i1, i2, i3⟩ := ix_mv (s := q) (v := v) hO.1.2.2.2 (by omega) vt
  rw [hO.1.2.2.1, eq, ev, i1]
  exact ⟨fun _ => ⟨fun _ => KK _, fun _ => ⟨a 10, (hO.2.1 10 (by decide) (by decide)).1, (hO.2.1 10 (by decide) (by decide)).2.1, by rw [hO.lm (Or.inr rfl)]; exact vp_of i2 (by omega), KK _⟩⟩, fun _ => ⟨a 9, (hO.2.1 9 (by decide) (by decide)).1, (hO.2.1 9 (by decide) (by decide)).2.1, by rw [hO.lm (Or.inl rfl)]; exact vp_of i2 (by omega), KK _⟩⟩
theorem G_classOf (hC : CvS ow ga gm M ms gs mb gb) (hb : mN M + 20 < mBig) (K : ∀ M' ow' (r : Int32), SrP ow ow' ms gs M M' → CvS ow' ga gm M' ms gs mb gb → Q (some (.int r)) M') : E (h + 8) mdX10_classOf [.ref 0, .int x, .int y] M Q := by
  refine KX10_classOf (h := h + 7) ?_
  unfold DX10_classOf_0 DX10_classOf_18
  refine ⟨ok0 hC.1, G_srOf (h := h) hC hb (fun M5 ow' hP hC' _ => ⟨none, rfl, fun _ => K M5 ow' _ hP hC', fun b e => absurd e (by simp)⟩) (fun M5 ow' i s t a n hP hC' hi ex hO hS h1 _ => ⟨some s, rfl, fun e => absurd e (by simp), fun b e => ?_⟩)⟩
  cases e
  have n48 := hS.1.2
  have KK : ∀ r, Q (some (.int r)) M5 := fun r => K M5 ow' r hP hC'
  exact ⟨hO.1.1, S_hasSt (h := h + 6) hO hS (fun q hq eq _ => ⟨1, rfl, fun _ => ⟨a 11, (hO.2.1 11 (by decide) (by decide)).1, (hO.2.1 11 (by decide) (by decide)).2.1, by rw [hO.l48 (by decide) (by decide) (by decide) (by decide), eq]; exact vp_of (by omega) (by decide), KK _⟩, fun z => absurd z (by decide)⟩) (fun _ => ⟨0, rfl, fun z => absurd rfl z, fun _ => KK _⟩)⟩
theorem G_way (hC : CvS ow ga gm M ms gs mb gb) (hb : mN M + 20 < mBig) (K : ∀ M' ow' (r : Int32), SrP ow ow' ms gs M M' → CvS ow' ga gm M' ms gs mb gb → Q (some (.int r)) M') : E (h + 8) mdX10_way [.ref 0, .int x, .int y, .int z] M Q := by
  refine KX10_way (h := h + 7) ?_
  unfold DX10_way_0 DX10_way_21 DX10_way_50 DX10_way_67
  refine ⟨ok0 hC.1, G_srOf (h := h) hC hb (fun M5 ow' hP hC' _ => ⟨none, rfl, fun _ => K M5 ow' _ hP hC', fun b e => absurd e (by simp)⟩) (fun M5 ow' i s t a n hP hC' hi ex hO hS h1 _ => ⟨some s, rfl, fun e => absurd e (by simp), fun b e => ?_⟩)⟩
  cases e
  have n48 := hS.1.2
  have KK : ∀ r, Q (some (.int r)) M5 := fun r => K M5 ow' r hP hC'
  refine ⟨hO.1.1, S_hasSt (h := h + 6) hO hS (fun q hq eq _ => ⟨1, rfl, fun _ => ?_, fun z => absurd z (by decide)⟩) (fun _ => ⟨0, rfl, fun z => absurd rfl z, fun _ => KK _⟩)⟩
  rw [eq]
  exact S_stpsTo (h := h + 6) hO hS (by omega) (fun r9 _ _ => ⟨_, rfl, fun _ => ⟨fun _ => KK _, fun _ => ⟨fun _ => S_stpTo (h := h + 6) hO hS (by omega) (fun r11 _ => ⟨r11, rfl, KK _⟩), fun _ => KK _⟩⟩, fun _ => KK _⟩)
/-- judge writes two numbers of cell 0 -/
theorem G_judge (hC : CvS ow ga gm M ms gs mb gb) (hb : mN M < mBig) (K : ∀ M' (r : Int32), CvS ow ga gm M' ms gs mb gb → NuF (fun c => c = 0) M M' → (∀ f, f ≠ 7 → f ≠ 8 → mI M' 0 f = mI M 0 f) → Q (some (.int r)) M') : E (h + 1) mdX10_judge [.ref 0, .int x] M Q := by
  refine KX10_judge ?_
  unfold DX10_judge_0
  refine ⟨fun _ => ⟨by decide, ok0 hC.1, fun M2 e2 => ⟨by decide, fun M3 e3 => ?_⟩⟩, fun _ => K M _ hC NuF.rf (fun _ _ _ => rfl)⟩
  have k3 : NuF (fun c => c = 0) M M3 := by rw [e3, e2]; exact (NuF.w (S := fun c => c = 0) rfl).tr (NuF.w (S := fun c => c = 0) rfl)
  refine K M3 _ (hC.out hb k3.fre (k3.fix hC.1) (fun a z => by rw [z, (ok0 hC.1).2]; decide)) k3 (fun f f7 f8 => ?_)
  rw [e3, mI_wI, if_neg (fun z => f8 z.2), e2, mI_wI, if_neg (fun z => f7 z.2)]
/-- what a call that judges leaves -/
def JuP (ow ow' : Nat → Nat) (ms gs : List Nat) (M M' : Mem) : Prop := ∃ M1, SrP ow ow' ms gs M M1 ∧ NuF (fun c => c = 0) M1 M' ∧ ∀ f, f ≠ 7 → f ≠ 8 → mI M' 0 f = mI M1 0 f
theorem RmU.bd {S : Nat} (k : RmU ms M M') (hl : ∀ c, lnN M c + srN M c ≤ 11) : mN M' ≤ mN M + 11 := by
  obtain ⟨c, -, h1, -⟩ := k
  have := hl c
  omega
theorem ln_le (M : Mem) (c : Nat) : lnN M c + srN M c ≤ 11 := by
  have h1 : lnN M c ≤ 2 := by
    unfold lnN
    cases mR M (c + 8) 2 with
    | none => exact Nat.zero_le _
    | some ya =>
      show (if _ then 2 else 0) ≤ 2
      by_cases q : mL M ya < (mI M (c + 8) 4).toNatClampNeg
      · rw [if_pos q]; exact Nat.le_refl _
      · rw [if_neg q]; exact Nat.zero_le _
  have h2 : srN M c ≤ 9 := by
    unfold srN
    by_cases q : mR M c 17 = none
    · rw [if_pos q]; exact Nat.le_refl _
    · rw [if_neg q]; exact Nat.zero_le _
  omega
theorem SrP.bg {ow' : Nat → Nat} (k : SrP ow ow' ms gs M M') (hb : mN M + 20 < mBig) : mN M' < mBig := by
  have := k.2.2.1.bd (S := 0) (ln_le M)
  omega
theorem G_never (hC : CvS ow ga gm M ms gs mb gb) (hb : mN M + 20 < mBig) (K : ∀ M' ow' (r : Int32), JuP ow ow' ms gs M M' → CvS ow' ga gm M' ms gs mb gb → Q (some (.int r)) M') : E (h + 8) mdX10_never [.ref 0, .int x, .int y] M Q := by
  refine KX10_never (h := h + 7) ?_
  unfold DX10_never_0 DX10_never_21
  refine ⟨ok0 hC.1, G_srOf (h := h) hC hb (fun M5 ow' hP hC' _ => ⟨none, rfl, fun _ => K M5 ow' _ ⟨M5, hP, NuF.rf, fun _ _ _ => rfl⟩ hC', fun b e => absurd e (by simp)⟩) (fun M5 ow' i s t a n hP hC' hi ex hO hS h1 _ => ⟨some s, rfl, fun e => absurd e (by simp), fun b e => ?_⟩)⟩
  cases e
  have KK : ∀ r, Q (some (.int r)) M5 := fun r => K M5 ow' r ⟨M5, hP, NuF.rf, fun _ _ _ => rfl⟩ hC'
  have hm := (hC'.2.2.2.2.2.2.2.1 i hi).2
  obtain ⟨I, pb, ps, ⟨e9, h9⟩, -⟩ := hm.fl
  exact ⟨hO.1.1, _, hO.1.2.1, hm.on, S_hasSg (h := h + 6) hm.on e9 h9 (fun q hq eq _ => ⟨1, rfl, fun _ => S_fstAg (h := h + 6) hO hS (fun r11 _ => ⟨r11, rfl, G_judge (h := h + 6) hC' (hP.bg hb) (fun M12 r13 hC12 k12 f12 _ => ⟨r13, rfl, K M12 ow' r13 ⟨M5, hP, k12, f12⟩ hC12⟩)⟩), fun z => absurd z (by decide)⟩) (fun _ _ => ⟨0, rfl, fun z => absurd rfl z, fun _ => KK _⟩)⟩
theorem G_always (hC : CvS ow ga gm M ms gs mb gb) (hb : mN M + 20 < mBig) (K : ∀ M' ow' (r : Int32), JuP ow ow' ms gs M M' → CvS ow' ga gm M' ms gs mb gb → Q (some (.int r)) M') : E (h + 8) mdX10_always [.ref 0, .int x, .int y, .int z] M Q := by
  refine KX10_always (h := h + 7) ?_
  unfold DX10_always_0 DX10_always_36
  refine ⟨ok0 hC.1, G_srOf (h := h) hC hb (fun M5 ow' hP hC' _ => ⟨none, rfl, fun _ => K M5 ow' _ ⟨M5, hP, NuF.rf, fun _ _ _ => rfl⟩ hC', fun b e => absurd e (by simp)⟩) (fun M5 ow' i s t a n hP hC' hi ex hO hS h1 _ => ⟨some s, rfl, fun e => absurd e (by simp), fun b e => ?_⟩)⟩
  cases e
  have KK : ∀ r, Q (some (.int r)) M5 := fun r => K M5 ow' r ⟨M5, hP, NuF.rf, fun _ _ _ => rfl⟩ hC'
  have hm := (hC'.2.2.2.2.2.2.2.1 i hi).2
  obtain ⟨I, pb, ps, ⟨e9, h9⟩, -⟩ := hm.fl
  exact ⟨hO.1.1, _, hO.1.2.1, hm.on, S_hasSg (h := h + 6) hm.on e9 h9 (fun q hq eq _ => ⟨1, rfl, fun z => absurd z (by decide), fun _ => ⟨_, hO.1.2.1, hm.on, S_hasSg (h := h + 6) hm.on e9 h9 (fun q hq eq _ => ⟨1, rfl, fun _ => S_fstAg (h := h + 6) hO hS (fun r11 _ => ⟨r11, rfl, G_judge (h := h + 6) hC' (hP.bg hb) (fun M12 r13 hC12 k12 f12 _ => ⟨r13, rfl, K M12 ow' r13 ⟨M5, hP, k12, f12⟩ hC12⟩)⟩), fun z => absurd z (by decide)⟩) (fun _ _ => ⟨0, rfl, fun z => absurd rfl z, fun _ => KK _⟩)⟩⟩) (fun _ _ => ⟨0, rfl, fun _ => KK _, fun z => absurd rfl z⟩)⟩
end
