/-! the class reads parts: writes into parts, the reader, the module -/
section
variable {n0 : Nat} {τ : Td} {M0 M M' : Mem} {γ : ClT} {cn cn' : Nat → Nat} {ps : List Nat} {tl tl' : List Int64} {g u : Int32}
/-- a field of a part is written -/
theorem CQ.pt {j f : Nat} {v : Int32} (h : CQ n0 τ M0 M γ cn ps tl) (hj : j < ps.length) (e : M' = wI M (ps.getD j 0) f v) : CQ n0 τ M0 M' (up2 γ.1 j f v, γ.2) cn ps tl := by
  obtain ⟨lc, rc, cc, pb, ib, h⟩ := h
  obtain ⟨q1, q2, -⟩ := h.lim
  obtain ⟨op, gp, -⟩ := h.2.2.2.1.2.2.2.2.2.1 j hj
  have kf : fr (fun c => c = ps.getD j 0) M M' := by rw [e]; exact fr_wI (S := fun c => c = ps.getD j 0) rfl
  have kp : ∀ c, c = ps.getD j 0 → mK M c = 5 := fun c z => by rw [z]; exact op.2
  obtain ⟨c1, c2, c3, c4, c5, c6, c7⟩ := h.cb kf (fun c z => Or.inr ⟨by rw [z]; exact gp, by rw [kp c z]; decide⟩) (by rw [e]; rfl)
  obtain ⟨h1, h2, ⟨t1, t2, t3, t4, t5⟩, ⟨l1, l2, l3, l4, l5, l6⟩, h5, h6, h7, h8, h9⟩ := h
  have eN : mN M' = mN M := by rw [e]; rfl
  have eS : mS M' = mS M := by rw [e]; rfl
  have r4 : mI M' 4 = mI M 4 := (kf.2 4 (by omega) (by omega)).1
  have r14 := kf.2 14 (by omega) (by omega)
  have r20 := kf.2 20 (by omega) (by omega)
  have o15 : ok M (n0 + 15) 1 := by obtain ⟨l, q, -⟩ := l2; exact q.1
  refine ⟨lc, rc, cc, pb, ib, c1, c2, ⟨by rw [r4]; exact t1, by rw [r4]; exact t2, t3, fun c z1 z2 => by rw [e]; exact t4 c z1 z2, t5⟩, ⟨l1.fr kf (fun z => by have := l1.1.2; rw [kp _ z] at this; exact absurd this (by decide)) (fun y z => by rw [kp _ z] at y; exact absurd y (by decide)), l2.fr kf (fun z => by have := o15.2; rw [kp _ z] at this; exact absurd this (by decide)) (fun y z => by rw [kp _ z] at y; exact absurd y (by decide)) (fun c _ z => by rw [kp c z]; decide), l3, l4, l5, ⟨fun j2 hj2 => ?_, l6.2⟩⟩, ?_, h6.tr (FrQ.of kf (fun c z => by omega) q2 q1 (by rw [e]; rfl)), ⟨by rw [eN]; exact h7.1, by rw [eS, c3, c4]; exact h7.2.1, h7.2.2⟩, by rw [c5, c6]; exact h8, h9⟩
  · obtain ⟨a1, a2, a3⟩ := l6.1 j2 hj2
    refine ⟨ok_E a1 kf.1, a2, fun f2 hf2 => ?_⟩
    show _ = up2 γ.1 j f v j2 f2
    rw [e, mI_wI]
    by_cases z : j2 = j ∧ f2 = f
    · rw [if_pos ⟨by rw [z.1], z.2⟩, z.1, z.2, up2_eq]
    · rw [if_neg (fun y => z ⟨l6.2 j2 j hj2 hj y.1, y.2⟩), up2_ne z]
      exact a3 f2 hf2
  · unfold RdQ
    rw [r14.1, r20.2.2.2.2.1, c7]
    exact h5
/-- the reader's own fields change -/
theorem CQ.rq (h : CQ n0 τ M0 M γ cn ps tl) (F : Fix M) (k : fr (fun c => c = 14 ∨ c = 20) M M') (e : mR M' 14 = mR M 14) (en : mN M' = mN M) (es : mS M' = mS M) (hr : RdQ n0 M' g u cn' tl') (e0 : cn' 0 = cn 0) : CQ n0 τ M0 M' (γ.1, γ.2.1, γ.2.2.1, γ.2.2.2.1, γ.2.2.2.2.1, γ.2.2.2.2.2.1, g, u) cn' ps tl' := by
  obtain ⟨lc, rc, cc, pb, ib, h⟩ := h
  obtain ⟨q1, q2, -⟩ := h.lim
  obtain ⟨c1, c2, c3, c4, c5, c6, c7⟩ := h.cb k (fun c z => by omega) e
  obtain ⟨h1, h2, ⟨t1, t2, t3, t4, t5⟩, h4, h5, h6, h7, h8, h9⟩ := h
  have o14 : mK M 14 = 6 := (ok14 F).2
  have o20 : mK M 20 = 23 := (ok20 F).2
  have r4 : mI M' 4 = mI M 4 := (k.2 4 (by omega) (by omega)).1
  refine ⟨lc, rc, cc, pb, ib, c1, c2, ⟨by rw [r4]; exact t1, by rw [r4]; exact t2, t3, fun c z1 z2 => by rw [(k.2 c (by omega) (by omega)).2.2.2.1]; exact t4 c z1 z2, t5⟩, h4.fr k (fun c z => ?_), hr, h6.tr (FrQ.of k (fun c z => by omega) q2 q1 e), ⟨by rw [en]; exact h7.1, by rw [es, c3, c4]; exact h7.2.1, h7.2.2⟩, by rw [c5, c6]; exact h8, by rw [e0]; exact h9⟩
  rcases z with z | z
  · rw [z, o14]; decide
  · rw [z, o20]; decide
theorem CQ.rd (h : CQ n0 τ M0 M γ cn ps tl) : RdQ n0 M γ.2.2.2.2.2.2.1 γ.2.2.2.2.2.2.2 cn tl := by
  obtain ⟨lc, rc, cc, pb, ib, h⟩ := h
  exact h.2.2.2.2.1
theorem CQ.nz (h : CQ n0 τ M0 M γ cn ps tl) : 132 ≤ n0 ∧ n0 + 25 ≤ mN M ∧ ok M n0 3 ∧ ok M (n0 + 8) 2 ∧ ok M (n0 + 22) 8 ∧ mR M 14 7 = some n0 ∧ mR M n0 7 = some (n0 + 8) ∧ mR M n0 6 = some (n0 + 7) ∧ mR M n0 8 = some (n0 + 22) ∧ mR M (n0 + 8) 7 = some (n0 + 15) := by
  obtain ⟨lc, rc, cc, pb, ib, h⟩ := h
  obtain ⟨a1, a2, a3, a4, a5, a6, a7, a8, a9, a10, a11, a12, a13⟩ := h.lim
  exact ⟨a1, a2, a9, a10, a11, a12, a13, h.2.2.2.2.2.2.2.1.1, h.2.2.2.2.2.2.2.1.2.1, h.2.2.2.2.2.2.2.1.2.2⟩
theorem CQ.env (h : CQ n0 τ M0 M γ cn ps tl) : EnvC M n0 τ.1 τ.2.1 τ.2.2.1 τ.2.2.2.1 := by
  obtain ⟨lc, rc, cc, pb, ib, h⟩ := h
  exact h.1.1
theorem CQ.trp (h : CQ n0 τ M0 M γ cn ps tl) : TrP M γ.2.1 := by
  obtain ⟨lc, rc, cc, pb, ib, h⟩ := h
  exact h.2.2.1
/-- the j-th part -/
theorem CQ.part {j : Nat} (h : CQ n0 τ M0 M γ cn ps tl) (hj : j < ps.length) : ok M (ps.getD j 0) 5 ∧ n0 + 25 ≤ ps.getD j 0 ∧ ∀ f, f < 8 → mI M (ps.getD j 0) f = γ.1 j f := by
  obtain ⟨lc, rc, cc, pb, ib, h⟩ := h
  exact h.2.2.2.1.2.2.2.2.2.1 j hj
theorem CQ.len (h : CQ n0 τ M0 M γ cn ps tl) : ps.length = cn 0 ∧ cn 0 ≤ 40 ∧ γ.2.2.2.2.1.length ≤ 80 := by
  obtain ⟨lc, rc, cc, pb, ib, h⟩ := h
  exact h.2.2.2.2.2.2.2.2
theorem CQ.gv {v : Int32} (h : CQ n0 τ M0 M γ cn ps tl) (F : Fix M) (e : M' = wI M 14 5 v) : CQ n0 τ M0 M' (γ.1, γ.2.1, γ.2.2.1, γ.2.2.2.1, γ.2.2.2.2.1, γ.2.2.2.2.2.1, v, γ.2.2.2.2.2.2.2) cn ps tl := by
  have hn := h.nz.1
  obtain ⟨⟨r1, r2, r3⟩, r4, r5, r6, r7, r8⟩ := h.rd
  refine h.rq F (by rw [e]; exact fr_wI (S := fun c => c = 14 ∨ c = 20) (Or.inl rfl)) (by rw [e]; rfl) (by rw [e]; rfl) (by rw [e]; rfl) ⟨⟨?_, r2, ?_⟩, ?_, ?_, ?_, ?_, ?_⟩ rfl
  · rw [e, mI_wI, if_neg (by decide)]; exact r1
  · rw [e]; exact r3
  · rw [e, mI_wI, if_neg (by decide)]; exact r4
  · rw [e, mI_wI, if_pos ⟨rfl, rfl⟩]
  · rw [e, mI_wI, if_neg (by decide)]; exact r6
  · rw [e, mI_wI, if_neg (by omega)]; exact r7
  · rw [e, mI_wI, if_neg (by omega)]; exact r8
theorem CQ.uv {v : Int32} (h : CQ n0 τ M0 M γ cn ps tl) (F : Fix M) (e : M' = wI M 14 6 v) : CQ n0 τ M0 M' (γ.1, γ.2.1, γ.2.2.1, γ.2.2.2.1, γ.2.2.2.2.1, γ.2.2.2.2.2.1, γ.2.2.2.2.2.2.1, v) cn ps tl := by
  have hn := h.nz.1
  obtain ⟨⟨r1, r2, r3⟩, r4, r5, r6, r7, r8⟩ := h.rd
  refine h.rq F (by rw [e]; exact fr_wI (S := fun c => c = 14 ∨ c = 20) (Or.inl rfl)) (by rw [e]; rfl) (by rw [e]; rfl) (by rw [e]; rfl) ⟨⟨?_, r2, ?_⟩, ?_, ?_, ?_, ?_, ?_⟩ rfl
  · rw [e, mI_wI, if_neg (by decide)]; exact r1
  · rw [e]; exact r3
  · rw [e, mI_wI, if_neg (by decide)]; exact r4
  · rw [e, mI_wI, if_neg (by decide)]; exact r5
  · rw [e, mI_wI, if_pos ⟨rfl, rfl⟩]
  · rw [e, mI_wI, if_neg (by omega)]; exact r7
  · rw [e, mI_wI, if_neg (by omega)]; exact r8
theorem CQ.pv {v : Nat} (h : CQ n0 τ M0 M γ cn ps tl) (F : Fix M) (e : M' = wI M 14 4 (Int32.ofNat v)) : CQ n0 τ M0 M' γ (va_up cn 1 v) ps tl := by
  have hn := h.nz.1
  obtain ⟨⟨r1, r2, r3⟩, r4, r5, r6, r7, r8⟩ := h.rd
  refine h.rq (g := γ.2.2.2.2.2.2.1) (u := γ.2.2.2.2.2.2.2) F (by rw [e]; exact fr_wI (S := fun c => c = 14 ∨ c = 20) (Or.inl rfl)) (by rw [e]; rfl) (by rw [e]; rfl) (by rw [e]; rfl) ⟨⟨?_, r2, ?_⟩, ?_, ?_, ?_, ?_, ?_⟩ rfl
  · rw [e, mI_wI, if_neg (by decide)]; exact r1
  · rw [e]; exact r3
  · rw [e, mI_wI, if_pos ⟨rfl, rfl⟩]; rfl
  · rw [e, mI_wI, if_neg (by decide)]; exact r5
  · rw [e, mI_wI, if_neg (by decide)]; exact r6
  · rw [e, mI_wI, if_neg (by omega)]; exact r7
  · rw [e, mI_wI, if_neg (by omega)]; exact r8
/-- a trap is opened, is closed -/
theorem CQ.push {c : Int64} (h : CQ n0 τ M0 M γ cn ps tl) (F : Fix M) (hl : tl.length < 16) (e : M' = wI (wAJ M 20 tl.length c) 14 3 (Int32.ofNat (tl.length + 1))) : CQ n0 τ M0 M' γ cn ps (c :: tl) := by
  have hn := h.nz.1
  obtain ⟨⟨r1, r2, r3⟩, r4, r5, r6, r7, r8⟩ := h.rd
  refine h.rq (g := γ.2.2.2.2.2.2.1) (u := γ.2.2.2.2.2.2.2) F (by rw [e]; exact (fr_wAJ (S := fun c => c = 14 ∨ c = 20) (Or.inr rfl)).tr (fr_wI (S := fun c => c = 14 ∨ c = 20) (Or.inl rfl)) (fun _ _ z => z)) (by rw [e]; rfl) (by rw [e]; rfl) (by rw [e]; rfl) ⟨⟨?_, by simp only [List.length_cons]; omega, fun j hj => ?_⟩, ?_, ?_, ?_, ?_, ?_⟩ rfl
  · rw [e, mI_wI, if_pos ⟨rfl, rfl⟩]; rfl
  · simp only [List.length_cons] at hj ⊢
    rw [e]
    show up2 (mAJ M) 20 tl.length c 20 j = _
    by_cases z : j = tl.length
    · rw [z, up2_eq, show tl.length + 1 - 1 - tl.length = 0 by omega]; rfl
    · rw [up2_ne (fun y => z y.2), show tl.length + 1 - 1 - j = (tl.length - 1 - j) + 1 by omega]
      exact r3 j (by omega)
  · rw [e, mI_wI, if_neg (by decide)]; exact r4
  · rw [e, mI_wI, if_neg (by decide)]; exact r5
  · rw [e, mI_wI, if_neg (by decide)]; exact r6
  · rw [e, mI_wI, if_neg (by omega)]; exact r7
  · rw [e, mI_wI, if_neg (by omega)]; exact r8
theorem CQ.pop {c : Int64} (h : CQ n0 τ M0 M γ cn ps (c :: tl)) (F : Fix M) (e : M' = wI M 14 3 (mI M 14 3 - 1)) : CQ n0 τ M0 M' γ cn ps tl := by
  have hn := h.nz.1
  obtain ⟨⟨r1, r2, r3⟩, r4, r5, r6, r7, r8⟩ := h.rd
  simp only [List.length_cons] at r1 r2 r3
  refine h.rq (g := γ.2.2.2.2.2.2.1) (u := γ.2.2.2.2.2.2.2) F (by rw [e]; exact fr_wI (S := fun c => c = 14 ∨ c = 20) (Or.inl rfl)) (by rw [e]; rfl) (by rw [e]; rfl) (by rw [e]; rfl) ⟨⟨?_, by omega, fun j hj => ?_⟩, ?_, ?_, ?_, ?_, ?_⟩ rfl
  · rw [e, mI_wI, if_pos ⟨rfl, rfl⟩, r1]
    exact dec32 (by omega)
  · rw [e]
    show mAJ M 20 j = _
    rw [r3 j (by omega), show tl.length + 1 - 1 - j = (tl.length - 1 - j) + 1 by omega]
    rfl
  · rw [e, mI_wI, if_neg (by decide)]; exact r4
  · rw [e, mI_wI, if_neg (by decide)]; exact r5
  · rw [e, mI_wI, if_neg (by decide)]; exact r6
  · rw [e, mI_wI, if_neg (by omega)]; exact r7
  · rw [e, mI_wI, if_neg (by omega)]; exact r8
/-- the module's number of ifs, its depth -/
theorem CQ.w0 {f v : Nat} (h : CQ n0 τ M0 M γ cn ps tl) (hf : f = 14 ∨ f = 15) (e : M' = wI M n0 f (Int32.ofNat v)) (c1 : cn' 1 = cn 1) (c0 : cn' 0 = cn 0) (c2 : cn' 2 = if f = 14 then v else cn 2) (c3 : cn' 3 = if f = 14 then cn 3 else v) : CQ n0 τ M0 M' γ cn' ps tl := by
  obtain ⟨lc, rc, cc, pb, ib, h⟩ := h
  obtain ⟨q1, q2, q3, q4, q5, ol, or, oc, o0, o8, o22, -⟩ := h.lim
  have kf : fr (fun c => c = n0) M M' := by rw [e]; exact fr_wI (S := fun c => c = n0) rfl
  have row : ∀ a, a ≠ n0 → sameRow M M' a := fun a ha => by rw [e]; exact ⟨up2_row ha, rfl, rfl, rfl, rfl, rfl⟩
  obtain ⟨h1, ⟨h2, h2b⟩, ⟨t1, t2, t3, t4, t5⟩, h4, ⟨r1, r2, r3, r4, r5, r6⟩, h6, h7, h8, h9⟩ := h
  obtain ⟨e1, b1, b2, b3, b4, b5, ⟨s1, s2, s3⟩, b6, ⟨u1, u2, u3⟩, b7, b8, b9⟩ := h1
  have hE := kf.1
  have eN : mN M' = mN M := by rw [e]; rfl
  have eS : mS M' = mS M := by rw [e]; rfl
  have eR : mR M' = mR M := by rw [e]; rfl
  have eL : mL M' = mL M := by rw [e]; rfl
  have f0 : ∀ f2, f2 ≠ f → mI M' n0 f2 = mI M n0 f2 := fun f2 z => by rw [e, mI_wI, if_neg (fun y => z y.2)]
  have f1 : mI M' n0 f = Int32.ofNat v := by rw [e, mI_wI, if_pos ⟨rfl, rfl⟩]
  have r14 := row 14 (by omega)
  have r20 := row 20 (by omega)
  have r4' := row 4 (by omega)
  obtain ⟨g1, g2, g3, g4, g5, ⟨a1, a2, a3⟩, g6, ⟨a4, a5, a6⟩, g7, ⟨a7, a8, a9⟩, g8, ⟨a10, a11, a12⟩, g9⟩ := e1
  refine ⟨lc, rc, cc, pb, ib, ⟨⟨ok_E g1 hE, g2, by rw [f0 9 (by omega)]; exact g3, by rw [f0 12 (by omega)]; exact g4, by rw [eR]; exact g5, ⟨ok_E a1 hE, by rw [eL]; exact a2, fun j hj => by rw [e]; exact a3 j hj⟩, by rw [eR]; exact g6, ⟨ok_E a4 hE, by rw [eL]; exact a5, fun j hj => by rw [e]; exact a6 j hj⟩, by rw [eR]; exact g7, ⟨ok_E a7 hE, by rw [eL]; exact a8, fun j hj => by rw [e]; exact a9 j hj⟩, by rw [eR]; exact g8, ⟨ok_E a10 hE, by rw [eL]; exact a11, fun j hj => by rw [e]; exact a12 j hj⟩, by rw [eR]; exact g9⟩, b1.fr hE (row _ (by omega)) (row _ (by omega)) (row _ (by omega)), b2, b3, by rw [eR]; exact b4, by rw [eR]; exact b5, ⟨ok_E s1 hE, by rw [eL]; exact s2, fun j hj => by rw [e]; exact s3 j hj⟩, by rw [eR]; exact b6, ⟨ok_E u1 hE, by rw [eL]; exact u2, fun j hj => by rw [e]; exact u3 j hj⟩, by rw [eR]; exact b7, b8, by rw [eN]; exact b9⟩, ⟨h2.fr hE (row _ (by omega)) (row _ (by omega)), h2b⟩, ⟨by rw [r4'.1]; exact t1, by rw [r4'.1]; exact t2, t3, fun c z1 z2 => by rw [e]; exact t4 c z1 z2, t5⟩, h4.fr kf (fun c z => by rw [z, o0.2]; decide), ⟨by rw [r14.1, r20.2.2.2.2.1]; exact r1, by rw [r14.1, c1]; exact r2, by rw [r14.1]; exact r3, by rw [r14.1]; exact r4, ?_, ?_⟩, h6.tr ⟨kf.more (fun c _ z => by omega), fun f2 z1 z2 => f0 f2 (by omega), by rw [eR], fun f2 _ => by rw [(row (n0 + 8) (by omega)).1], fun f2 _ _ => by rw [eR], fun f2 _ => by rw [(row (n0 + 22) (by omega)).1], fun f2 _ => by rw [eR], by rw [eR]⟩, ⟨by rw [eN]; exact h7.1, by rw [eS, eL]; exact h7.2.1, h7.2.2⟩, by rw [eR]; exact h8, ⟨by rw [c0]; exact h9.1, by rw [c0]; exact h9.2.1, h9.2.2⟩⟩
  · rcases hf with z | z
    · rw [c2, if_pos z, ← z]; exact f1
    · rw [c2, if_neg (by omega), f0 14 (by omega)]; exact r5
  · rcases hf with z | z
    · rw [c3, if_pos z, f0 15 (by omega)]; exact r6
    · rw [c3, if_neg (by omega), ← z]; exact f1
end
