/-! a sum is worked: the class -/
def InG (v : Int64) : Prop := (-1000000000 : Int64) ≤ v ∧ v ≤ 1000000000
theorem InG.t {v : Int64} (h : InG v) : -1000000000 ≤ v.toInt ∧ v.toInt ≤ 1000000000 := by
  obtain ⟨h1, h2⟩ := h
  rw [Int64.le_iff_toInt_le] at h1 h2
  have e1 : (-1000000000 : Int64).toInt = -1000000000 := by decide
  have e2 : (1000000000 : Int64).toInt = 1000000000 := by decide
  rw [e1] at h1
  rw [e2] at h2
  exact ⟨h1, h2⟩
theorem InG.o {v : Int64} (h1 : -1000000000 ≤ v.toInt) (h2 : v.toInt ≤ 1000000000) : InG v := by
  have e1 : (-1000000000 : Int64).toInt = -1000000000 := by decide
  have e2 : (1000000000 : Int64).toInt = 1000000000 := by decide
  refine ⟨?_, ?_⟩
  · rw [Int64.le_iff_toInt_le, e1]; exact h1
  · rw [Int64.le_iff_toInt_le, e2]; exact h2
theorem InG.neg {v : Int64} (h : InG v) : InG (-v) := by
  obtain ⟨h1, h2⟩ := h.t
  have e : (-v).toInt = -v.toInt := by
    rw [Int64.toInt_neg]
    exact Int.bmod_eq_of_le (by omega) (by omega)
  exact InG.o (by rw [e]; omega) (by rw [e]; omega)
theorem c3264 {v : Nat} (h : v < 2147483648) : (Int32.ofNat v).toInt64 = Int64.ofNat v := by
  refine Int64.toInt_inj.mp ?_
  rw [Int32.toInt_toInt64, ti32 h, Int64.toInt_ofNat_of_lt (by omega)]
theorem InG.n {v : Nat} (h : v < 1000000) : InG (Int64.ofNat v) := InG.o (by rw [Int64.toInt_ofNat_of_lt (by omega)]; omega) (by rw [Int64.toInt_ofNat_of_lt (by omega)]; omega)
/-- what working a sum writes in the class: fields 3, 4 of the object sc, its stack -/
def WcZ (sc stc : Nat) (M M' : Mem) : Prop := (mN M' = mN M ∧ mS M' = mS M ∧ mK M' = mK M ∧ mL M' = mL M) ∧ (mJ M' = mJ M ∧ mR M' = mR M ∧ mAI M' = mAI M ∧ mAR M' = mAR M) ∧ (∀ a, a ≠ sc → mI M' a = mI M a) ∧ (∀ f, f ≠ 3 → f ≠ 4 → mI M' sc f = mI M sc f) ∧ ∀ a, a ≠ stc → mAJ M' a = mAJ M a
section
variable {M M1 M2 M' : Mem} {sc stc cc rw : Nat}
theorem WcZ.rf : WcZ sc stc M M := ⟨⟨rfl, rfl, rfl, rfl⟩, ⟨rfl, rfl, rfl, rfl⟩, fun _ _ => rfl, fun _ _ _ => rfl, fun _ _ => rfl⟩
theorem WcZ.tr (a : WcZ sc stc M M1) (b : WcZ sc stc M1 M2) : WcZ sc stc M M2 := by
  obtain ⟨⟨a1, a2, a3, a4⟩, ⟨a5, a6, a7, a8⟩, a9, a10, a11⟩ := a
  obtain ⟨⟨b1, b2, b3, b4⟩, ⟨b5, b6, b7, b8⟩, b9, b10, b11⟩ := b
  exact ⟨⟨b1.trans a1, b2.trans a2, b3.trans a3, b4.trans a4⟩, ⟨b5.trans a5, b6.trans a6, b7.trans a7, b8.trans a8⟩, fun a h => (b9 a h).trans (a9 a h), fun f h k => (b10 f h k).trans (a10 f h k), fun a h => (b11 a h).trans (a11 a h)⟩
theorem WcZ.i {f : Nat} {v : Int32} (hf : f = 3 ∨ f = 4) (e : M' = wI M sc f v) : WcZ sc stc M M' := by
  rw [e]
  exact ⟨⟨rfl, rfl, rfl, rfl⟩, ⟨rfl, rfl, rfl, rfl⟩, fun a h => up2_row h, fun g h k => up2_ne (fun z => by omega), fun _ _ => rfl⟩
theorem WcZ.j {k : Nat} {v : Int64} (e : M' = wAJ M stc k v) : WcZ sc stc M M' := by
  rw [e]
  exact ⟨⟨rfl, rfl, rfl, rfl⟩, ⟨rfl, rfl, rfl, rfl⟩, fun _ _ => rfl, fun _ _ _ => rfl, fun a h => up2_row h⟩
theorem WcZ.e (h : WcZ sc stc M M') : mE M M' := ⟨by rw [h.1.1]; exact Nat.le_refl _, by rw [h.1.2.1]; exact Nat.le_refl _, fun a _ => ⟨by rw [h.1.2.2.1], by rw [h.1.2.2.2]⟩⟩
theorem WcZ.ok {a k : Nat} (h : WcZ sc stc M M') (o : ok M a k) : ok M' a k := ok_E o h.e
/-- the object of a module's sums, with its codes -/
def SmO (M : Mem) (sc cc stc : Nat) (cs : List Int32) : Prop := SumP M sc cc cs ∧ (mR M sc 2 = some stc ∧ ok M stc 23 ∧ mL M stc = 64) ∧ cs.length < 100000
theorem SmO.wc {cs : List Int32} (h : SmO M sc cc stc cs) (k : WcZ sc stc M M') : SmO M' sc cc stc cs := by
  obtain ⟨⟨a1, a2, a3, a4, a5, a6, a7, a8⟩, ⟨b1, b2, b3⟩, c⟩ := h
  obtain ⟨⟨k1, k2, k3, k4⟩, ⟨k5, k6, k7, k8⟩, k9, k10, k11⟩ := id k
  refine ⟨⟨k.ok a1, by rw [k6]; exact a2, k.ok a3, by rw [k10 1 (by decide) (by decide)]; exact a4, by rw [k4]; exact a5, by rw [k4]; exact a6, by rw [k4]; exact a7, fun j hj => by rw [k7]; exact a8 j hj⟩, ⟨by rw [k6]; exact b1, k.ok b2, by rw [k4]; exact b3⟩, c⟩
/-- the row of numbers that a sum is worked by -/
def RwI (M : Mem) (rw : Nat) (vr sg : Nat → Int64) : Prop := (ok M rw 21 ∧ mL M rw = 26) ∧ (∀ v, v < 6 → (mAI M rw (20 + v)).toInt64 = vr v ∧ InG (vr v)) ∧ ∀ v, v < 16 → (mAI M rw (4 + v)).toInt64 = sg v ∧ InG (sg v)
theorem RwI.wc {vr sg : Nat → Int64} (h : RwI M rw vr sg) (k : WcZ sc stc M M') : RwI M' rw vr sg := by
  obtain ⟨⟨a1, a2⟩, b, c⟩ := h
  unfold RwI
  rw [k.1.2.2.2, k.2.1.2.2.1]
  exact ⟨⟨k.ok a1, a2⟩, b, c⟩
/-- the stack: nodes s from its top on -/
def StS (M : Mem) (sc stc : Nat) (s : List Nat) (w : Nat → Int64) : Prop := mI M sc 3 = Int32.ofNat s.length ∧ ∀ j, j < s.length → mAJ M stc (s.length - 1 - j) = w (s.getD j 0)
end
section
variable {M : Mem} {sc stc cc rw h : Nat} {cs : List Int32} {Q : Option Value → Mem → Prop}
theorem S_push {op x : Int32} {v : Int64} {hg : Nat} (hO : SmO M sc cc stc cs) (hr : ok M rw 21 ∧ mL M rw = 26) (hh : mI M sc 3 = Int32.ofNat hg) (h64 : hg < 64) (hop : (op = 1 ∧ v = x.toInt64) ∨ (op = 2 ∧ ∃ j, j < 6 ∧ x = Int32.ofNat j ∧ v = (mAI M rw (20 + j)).toInt64) ∨ (op = 3 ∧ ∃ j, j < 16 ∧ x = Int32.ofNat j ∧ v = (mAI M rw (4 + j)).toInt64)) (K : ∀ M', M' = wI (wAJ M stc hg v) sc 3 (Int32.ofNat (hg + 1)) → Q none M') : E (h + 1) mdX6_push [.ref sc, .int op, .int x, .ref rw] M Q := by
  obtain ⟨⟨o8, -⟩, ⟨f2, os, ls⟩, -⟩ := hO
  have vh : vp_in (Int32.ofNat hg) (mL M stc) := by rw [ls]; exact vp_of h64 (by decide)
  have lh : (Int32.ofNat hg).toNatClampNeg = hg := lt32 (by omega)
  have lth : Int32.ofNat hg < Int32.ofNat (mL M stc) := by rw [ls]; exact (ltn32 (by omega) (by decide)).mpr h64
  have d74 : ∀ M2, M2 = wAJ M stc hg v → DX6_push_74 h sc M2 Q := fun M2 e2 => by
    unfold DX6_push_74
    refine ⟨by rw [e2]; exact o8, fun M3 e3 => K M3 ?_⟩
    rw [e3, ← succ32, ← hh, e2]
    rfl
  have d73 : ∀ {u : Int64}, u = v → DX6_push_73 h sc stc (mI M sc 3) u M Q := fun eu => by
    unfold DX6_push_73
    rw [hh, lh, eu]
    exact ⟨os, vh, d74⟩
  have d28 : ∀ {s0 : Int32} {i : Nat}, ¬ op = 1 → s0 = Int32.ofNat i → i < 26 → v = (mAI M rw i).toInt64 → DX6_push_28 h sc op x rw s0 M Q := fun {s0 i} n1 es hi ev => by
    unfold DX6_push_28
    refine ⟨fun _ => ⟨o8, stc, f2, hr.1, fun z => ?_, fun _ => ⟨?_, ?_⟩⟩, fun z => absurd z n1⟩
    · rw [hr.2, es] at z
      have := (le32 (a := 26) (by decide) (by omega)).mp z
      omega
    · rw [hr.2, es]; exact vp_of hi (by decide)
    · rw [es, lt32 (show i < 2147483648 by omega)]
      exact d73 ev.symm
  refine KX6_push ?_
  unfold DX6_push_0
  rw [hh]
  refine ⟨o8, stc, f2, os, fun _ => ?_, fun z => absurd lth z⟩
  rcases hop with ⟨e1, ev⟩ | ⟨e1, j, hj, ex, ev⟩ | ⟨e1, j, hj, ex, ev⟩
  · have one : ∀ {s0 : Int32}, DX6_push_28 h sc op x rw s0 M Q := fun {s0} => by
      unfold DX6_push_28
      refine ⟨fun z => absurd e1 z, fun _ => ⟨o8, stc, f2, os, by rw [hh]; exact vh, fun M7 e7 => ?_⟩⟩
      rw [hh, lh, ← ev] at e7
      exact d74 M7 e7
    exact ⟨fun _ => one, fun _ => one⟩
  · refine ⟨fun z => absurd e1 z, fun _ => d28 (i := 20 + j) (by rw [e1]; decide) ?_ (by omega) ev⟩
    rw [ex]
    exact add32 (a := 20)
  · refine ⟨fun _ => d28 (i := 4 + j) (by rw [e1]; decide) ?_ (by omega) ev, fun z => by rw [e1] at z; exact absurd z (by decide)⟩
    rw [ex]
    exact add32 (a := 4)
theorem sub1 {g : Nat} : Int32.ofNat (g + 1) - 1 = Int32.ofNat g := by rw [← succ32, Int32.add_sub_cancel]
theorem S_neg {hg : Nat} (hO : SmO M sc cc stc cs) (hh : mI M sc 3 = Int32.ofNat (hg + 1)) (h64 : hg < 64) (K : ∀ M', M' = wAJ M stc hg (-(mAJ M stc hg)) → Q none M') : E (h + 1) mdX6_negate [.ref sc] M Q := by
  obtain ⟨⟨o8, -⟩, ⟨f2, os, ls⟩, -⟩ := hO
  have vh : vp_in (Int32.ofNat hg) (mL M stc) := by rw [ls]; exact vp_of h64 (by decide)
  have lh : (Int32.ofNat hg).toNatClampNeg = hg := lt32 (by omega)
  refine KX6_negate ?_
  unfold DX6_negate_0 DX6_negate_30
  rw [hh, sub1]
  refine ⟨o8, fun z => ?_, fun _ => ⟨stc, f2, stc, f2, os, vh, os, vh, fun M6 e6 => K M6 ?_⟩⟩
  · have := (le32 (b := 0) (by omega) (by decide)).mp z
    omega
  · rw [e6, lh]
theorem S_rng {v : Int64} (H : Q (some (.int (if (-1000000000 : Int64) ≤ v ∧ v ≤ 1000000000 then 1 else 0))) M) : E (h + 1) mdX6_isInRange [.long v] M Q := by
  refine KX6_isInRange ?_
  unfold DX6_isInRange_0 DX6_isInRange_20 DX6_isInRange_21
  have k1 : (lg_cmp v (-1000000000) < 0) ↔ ¬ ((-1000000000 : Int64) ≤ v) := by
    rw [← lg_cmp_ge v (-1000000000)]; exact ⟨fun h => Int32.not_le.mpr h, fun h => Int32.not_le.mp h⟩
  have k2 : (0 < lg_cmp v 1000000000) ↔ ¬ (v ≤ 1000000000) := by
    rw [← lg_cmp_le v 1000000000]; exact ⟨fun h => Int32.not_le.mpr h, fun h => Int32.not_le.mp h⟩
  refine ⟨fun h1 => ⟨Or.inl rfl, ?_⟩, fun h1 => ⟨fun h2 => ⟨Or.inl rfl, ?_⟩, fun h2 => ⟨Or.inr rfl, ?_⟩⟩⟩
  · rwa [if_neg (fun z => k1.mp h1 z.1)] at H
  · rwa [if_neg (fun z => k2.mp h2 z.2)] at H
  · rwa [if_pos ⟨Classical.not_not.mp (fun z => h1 (k1.mpr z)), Classical.not_not.mp (fun z => h2 (k2.mpr z))⟩] at H
/-- the class's operation for a node -/
def opC (t : Nat) : Int32 := if t = 4 then 7 else if t = 5 then 8 else if t = 6 then 9 else if t = 7 then 5 else 6
theorem S_cmb {t : Nat} {a c : Int64} (h4 : 4 ≤ t) (h8 : t ≤ 8) (hz : (opWk t a c).1 = 0) (H : Q (some (.long (opWk t a c).2)) M) : E (h + 1) mdX6_combined [.int (opC t), .long a, .long c] M Q := by
  refine KX6_combined ?_
  unfold DX6_combined_0 DX6_combined_57 DX6_combined_71
  have ht : t = 4 ∨ t = 5 ∨ t = 6 ∨ t = 7 ∨ t = 8 := by omega
  rcases ht with rfl | rfl | rfl | rfl | rfl
  · exact ⟨fun z => absurd z (by decide), fun z => absurd z (by decide), fun _ => H, fun z => absurd z (by decide), fun z => absurd z (by decide)⟩
  · unfold opWk at hz H
    rw [if_neg (by decide), if_neg (by decide), if_pos rfl] at hz H
    have nz : ¬ c = 0 := fun z => by rw [if_pos z] at hz; exact absurd hz (by decide)
    rw [if_neg nz] at H
    exact ⟨fun z => absurd z (by decide), fun z => absurd z (by decide), fun z => absurd z (by decide), fun _ => ⟨fun _ => ⟨nz, H⟩, fun z => absurd (lgz.mp z) nz⟩, fun z => absurd z (by decide)⟩
  · unfold opWk at hz H
    rw [if_neg (by decide), if_neg (by decide), if_neg (by decide), if_pos rfl] at hz H
    have nz : ¬ c = 0 := fun z => by rw [if_pos z] at hz; exact absurd hz (by decide)
    rw [if_neg nz] at H
    exact ⟨fun z => absurd z (by decide), fun z => absurd z (by decide), fun z => absurd z (by decide), fun z => absurd z (by decide), fun _ => ⟨fun _ => ⟨nz, H⟩, fun z => absurd (lgz.mp z) nz⟩⟩
  · exact ⟨fun _ => H, fun z => absurd z (by decide), fun z => absurd z (by decide), fun z => absurd z (by decide), fun z => absurd z (by decide)⟩
  · exact ⟨fun z => absurd z (by decide), fun _ => H, fun z => absurd z (by decide), fun z => absurd z (by decide), fun z => absurd z (by decide)⟩
/-- two numbers come together; M2: one is taken off -/
theorem S_comb {t hg : Nat} (hO : SmO M sc cc stc cs) (hh : mI M sc 3 = Int32.ofNat (hg + 2)) (h64 : hg + 1 < 64) (h4 : 4 ≤ t) (h8 : t ≤ 8) (K : ∀ M2, M2 = wI M sc 3 (Int32.ofNat (hg + 1)) → ((¬ (opWk t (mAJ M stc hg) (mAJ M stc (hg + 1))).1 = 0 → Q none (wI M2 sc 4 1)) ∧ ((opWk t (mAJ M stc hg) (mAJ M stc (hg + 1))).1 = 0 → ((InG (opWk t (mAJ M stc hg) (mAJ M stc (hg + 1))).2 → Q none (wAJ M2 stc hg (opWk t (mAJ M stc hg) (mAJ M stc (hg + 1))).2)) ∧ (¬ InG (opWk t (mAJ M stc hg) (mAJ M stc (hg + 1))).2 → Q none (wI M2 sc 4 2)))))) : E (h + 2) mdX6_combine [.ref sc, .int (opC t)] M Q := by
  obtain ⟨⟨o8, -⟩, ⟨f2, os, ls⟩, -⟩ := hO
  have vh : vp_in (Int32.ofNat hg) (mL M stc) := by rw [ls]; exact vp_of (by omega) (by decide)
  have vh1 : vp_in (Int32.ofNat (hg + 1)) (mL M stc) := by rw [ls]; exact vp_of (by omega) (by decide)
  have lh : (Int32.ofNat hg).toNatClampNeg = hg := lt32 (by omega)
  have lh1 : (Int32.ofNat (hg + 1)).toNatClampNeg = hg + 1 := lt32 (by omega)
  have g2 : (2 : Int32) ≤ Int32.ofNat (hg + 2) := (le32 (a := 2) (by decide) (by omega)).mpr (by omega)
  obtain ⟨M2, e2⟩ : ∃ z, z = wI M sc 3 (Int32.ofNat (hg + 1)) := ⟨_, rfl⟩
  obtain ⟨K1, K2⟩ := K M2 e2
  have i3 : mI M2 sc 3 = Int32.ofNat (hg + 1) := by rw [e2]; exact up2_eq
  have k2 : WcZ sc stc M M2 := WcZ.i (Or.inl rfl) e2
  have r2 : mR M2 = mR M := k2.2.1.2.1
  have j2 : mAJ M2 = mAJ M := by rw [e2]; rfl
  have l2 : mL M2 = mL M := k2.1.2.2.2
  have main : (opWk t (mAJ M stc hg) (mAJ M stc (hg + 1))).1 = 0 → DX6_combine_60 (h + 1) sc (opC t) (mAJ M stc (hg + 1)) (mAJ M stc hg) M2 Q := fun hz => by
    unfold DX6_combine_60
    refine S_cmb (h := h) h4 h8 hz (fun _ => ⟨_, rfl, S_rng (h := h) (fun _ => ⟨_, rfl, fun hr => ?_, fun hr => ?_⟩)⟩)
    · have ir : InG (opWk t (mAJ M stc hg) (mAJ M stc (hg + 1))).2 := by
        by_cases z : (-1000000000 : Int64) ≤ (opWk t (mAJ M stc hg) (mAJ M stc (hg + 1))).2 ∧ (opWk t (mAJ M stc hg) (mAJ M stc (hg + 1))).2 ≤ 1000000000
        · exact z
        · rw [if_neg z] at hr; exact absurd rfl hr
      rw [i3, sub1, lh]
      refine ⟨k2.ok o8, stc, by rw [r2]; exact f2, k2.ok os, by rw [l2]; exact vh, fun M8 e8 => ?_⟩
      rw [e8]
      exact (K2 hz).1 ir
    · refine ⟨k2.ok o8, fun M10 e10 => ?_⟩
      rw [e10]
      refine (K2 hz).2 (fun ir => ?_)
      unfold InG at ir
      rw [if_pos ir] at hr
      exact absurd hr (by decide)
  refine KX6_combine (h := h + 1) ?_
  unfold DX6_combine_0
  rw [hh]
  refine ⟨o8, fun _ M2' e2' => ?_, fun z => absurd g2 z⟩
  have em : M2' = M2 := by
    rw [e2', e2]
    have : Int32.ofNat (hg + 2) - 1 = Int32.ofNat (hg + 1) := sub1
    rw [this]
  rw [em, i3, sub1, lh, lh1]
  refine ⟨stc, by rw [r2]; exact f2, k2.ok os, by rw [l2]; exact vh1, stc, by rw [r2]; exact f2, k2.ok os, by rw [l2]; exact vh, ?_⟩
  rw [j2]
  have ht : t = 4 ∨ t = 5 ∨ t = 6 ∨ t = 7 ∨ t = 8 := by omega
  have dv : t = 5 ∨ t = 6 → ¬ mAJ M stc (hg + 1) = 0 → (opWk t (mAJ M stc hg) (mAJ M stc (hg + 1))).1 = 0 := fun z nz => by
    unfold opWk
    rcases z with rfl | rfl
    · rw [if_neg (by decide), if_neg (by decide), if_pos rfl, if_neg nz]
    · rw [if_neg (by decide), if_neg (by decide), if_neg (by decide), if_pos rfl, if_neg nz]
  have dz : t = 5 ∨ t = 6 → mAJ M stc (hg + 1) = 0 → ¬ (opWk t (mAJ M stc hg) (mAJ M stc (hg + 1))).1 = 0 := fun z nz => by
    unfold opWk
    rcases z with rfl | rfl
    · rw [if_neg (by decide), if_neg (by decide), if_pos rfl, if_pos nz]; decide
    · rw [if_neg (by decide), if_neg (by decide), if_neg (by decide), if_pos rfl, if_pos nz]; decide
  refine ⟨fun z => main ?_, fun z => ⟨fun y => main ?_, fun y M7 e7 => ?_⟩⟩
  · rcases ht with rfl | rfl | rfl | rfl | rfl
    · rfl
    · exact absurd z (by decide)
    · exact absurd z (by decide)
    · rfl
    · rfl
  · have t56 : t = 5 ∨ t = 6 := by
      rcases ht with rfl | rfl | rfl | rfl | rfl
      · exact absurd (by decide) z
      · exact Or.inl rfl
      · exact Or.inr rfl
      · exact absurd (by decide) z
      · exact absurd (by decide) z
    exact dv t56 (fun q => y (lgz.mpr q))
  · have t56 : t = 5 ∨ t = 6 := by
      rcases ht with rfl | rfl | rfl | rfl | rfl
      · exact absurd (by decide) z
      · exact Or.inl rfl
      · exact Or.inr rfl
      · exact absurd (by decide) z
      · exact absurd (by decide) z
    rw [e7]
    exact K1 (dz t56 (lgz.mp y))
end
