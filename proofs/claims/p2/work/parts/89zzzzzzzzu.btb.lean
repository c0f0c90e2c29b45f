/-! a governor's beat, worked to its end -/
/-- what the circuit is asked behind a beat: pauses and the end -/
def CeS (M : Mem) (x c9 c10 c11 pz len : Nat) : Prop := (mI M x 12 = Int32.ofNat pz ∧ pz ≤ 24) ∧ (mR M x 9 = some c9 ∧ ok M c9 21 ∧ mL M c9 = 24 ∧ ∀ p, p < pz → ∃ a, a < 2 * len ∧ mAI M c9 p = Int32.ofNat a) ∧ (mR M x 10 = some c10 ∧ ok M c10 21 ∧ mL M c10 = 24 ∧ ∀ p, p < pz → ∃ a, a < 2 * len ∧ mAI M c10 p = Int32.ofNat a) ∧ (mR M x 11 = some c11 ∧ ok M c11 21 ∧ mL M c11 = 24 ∧ ∀ p, p < pz → ∃ a, a < 2 * len ∧ mAI M c11 p = Int32.ofNat a) ∧ ∃ a, a < 2 * len ∧ mI M x 16 = Int32.ofNat a
section
variable {M M' : Mem} {g c nw nx kp gn wr sm cc stc mx ia I pl pb x lc rc ya na sc a3 b3 c9 c10 c11 pz h len Sn : Nat} {ks : Nat → Nat} {cs is ro : List Int32} {X : List Nd} {ps : List Nat} {Y Z : Nat → Int32} {N : Nt} {Q : Option Value → Mem → Prop} {fs S : Nat → Prop}
theorem CeS.bg (hE : CeS M x c9 c10 c11 pz len) (ox : ok M x 2) (og : ok M g 4) (os : ok M sm 8) (hn : ∀ r, S r → r ≠ c9 ∧ r ≠ c10 ∧ r ≠ c11) (k : BgF g sm stc fs S M M') : CeS M' x c9 c10 c11 pz len := by
  obtain ⟨⟨a1, a2⟩, ⟨b1, b2, b3, b4⟩, ⟨d1, d2, d3, d4⟩, ⟨e1, e2, e3, e4⟩, f⟩ := hE
  have xg : x ≠ g := fun z => by
    have := ox.2
    rw [z, og.2] at this
    exact absurd this (by decide)
  have xs : x ≠ sm := fun z => by
    have := ox.2
    rw [z, os.2] at this
    exact absurd this (by decide)
  have i := k.2.2.1 x xg xs
  have l := k.1.2.2.2
  have r := k.2.1.2.1
  have w := k.2.2.2.2.2.1
  exact ⟨⟨by rw [i]; exact a1, a2⟩, ⟨by rw [r]; exact b1, k.ok b2, by rw [l]; exact b3, by rw [w c9 (fun z => (hn c9 z).1 rfl)]; exact b4⟩, ⟨by rw [r]; exact d1, k.ok d2, by rw [l]; exact d3, by rw [w c10 (fun z => (hn c10 z).2.1 rfl)]; exact d4⟩, ⟨by rw [r]; exact e1, k.ok e2, by rw [l]; exact e3, by rw [w c11 (fun z => (hn c11 z).2.2 rfl)]; exact e4⟩, by rw [i]; exact f⟩
theorem of_cl {len : Nat} {v : Int32} (hl : len < 100000) (h : ∃ a, a < 2 * len ∧ v = Int32.ofNat a) : v = Int32.ofNat v.toNatClampNeg ∧ v.toNatClampNeg < 2 * len := by
  obtain ⟨a, h1, h2⟩ := h
  have e : v.toNatClampNeg = a := by rw [h2]; exact lt32 (by omega)
  rw [e]
  exact ⟨h2, h1⟩
theorem S_setB0 {v : Int32} (hL : CrL M x lc rc ya na N Y Z) (hC : CoL N.length Y Z) (hE : CeS M x c9 c10 c11 pz N.length) (K : ∀ r : Int32, Q (some (.int r)) M) : E (h + 3) mdX0_setBehind [.ref x, .int (Int32.ofNat 0), .int v] M Q := by
  obtain ⟨⟨a1, a2⟩, ⟨b1, b2, b3, b4⟩, ⟨d1, d2, d3, d4⟩, ⟨e1, e2, e3, e4⟩, -⟩ := hE
  have hl := hL.2.2.2.2.2
  exact S_setB (h := h) (l := 0) (g := fun p => (mAI M c9 p).toNatClampNeg) (s := fun p => (mAI M c10 p).toNatClampNeg) (k := fun p => (mAI M c11 p).toNatClampNeg) hL hC (by decide) a1 a2 ⟨b1, b2, b3⟩ ⟨d1, d2, d3⟩ ⟨e1, e2, e3⟩ (fun p hp => of_cl hl (b4 p hp)) (fun p hp => of_cl hl (d4 p hp)) (fun p hp => of_cl hl (e4 p hp)) (K _)
/-- the fields that a beat's work changes -/
def fsB (f : Nat) : Prop := f = 9 ∨ f = 10 ∨ f = 11 ∨ f = 12 ∨ f = 13
theorem S_wkBt (hX : X.length ≤ 810) (h16 : Sn ≤ 16) (hSN : 2 + Sn ≤ N.length) (hB : BtS M g c nw nx kp gn wr ks sm cc stc mx ia I cs X pl pb ps Sn ro is N.length) (hL : CtL M x lc rc ya na sc a3 b3 Sn is N Y Z) (hC : CoL N.length Y Z) (hE : CeS M x c9 c10 c11 pz N.length) (hG : GvR M g nw nx gn ks) (dj : DjR (grR nw nx wr gn ks) (mrR cc ia lc rc sc c9 c10 c11) ya na) (K : ∀ M1 M', BgF g sm stc fsB (fun r => r = nx) M M1 → RoG M1 nx → (M' = M1 ∨ M' = wR (wR M1 g 2 (some nx)) g 3 (some nw)) → Q none M') : E (h + 7) mdX2_workBeat [.ref g, .ref x] M Q := by
  obtain ⟨hS, hP, ⟨p1, p2, p3⟩, -, -⟩ := id hB
  have og := hS.1.1
  have os := hP.2.1.1.1
  have o23 := hP.2.1.2.1.2.1.2
  have gs := hS.nsm os
  obtain ⟨w1, w2, w3⟩ := dj.1 nx (Or.inr (Or.inl rfl))
  have nwx : nw ≠ nx := hS.2.2.2.1
  have ngx : gn ≠ nx := hS.2.2.2.2.2.1
  have h21 : ∀ r, r = nx → mK M r = 21 := fun r z => by rw [z]; exact hS.2.1.2.1.1.2
  have ncc : ¬ (cc = nx) := fun z => w3 (Or.inl z.symm)
  have nia : ¬ (ia = nx) := fun z => w3 (Or.inr (Or.inl z.symm))
  have hn : ∀ r, r = nx → r ≠ lc ∧ r ≠ rc ∧ r ≠ ya ∧ r ≠ na := fun r z => by
    rw [z]
    exact ⟨fun y => w3 (Or.inr (Or.inr (Or.inl y))), fun y => w3 (Or.inr (Or.inr (Or.inr (Or.inl y)))), w1, w2⟩
  have nsc : ¬ (sc = nx) := fun z => w3 (Or.inr (Or.inr (Or.inr (Or.inr (Or.inl z.symm)))))
  have n9 : ∀ r, r = nx → r ≠ c9 ∧ r ≠ c10 ∧ r ≠ c11 := fun r z => by
    rw [z]
    exact ⟨fun y => w3 (Or.inr (Or.inr (Or.inr (Or.inr (Or.inr (Or.inl y)))))), fun y => w3 (Or.inr (Or.inr (Or.inr (Or.inr (Or.inr (Or.inr (Or.inl y))))))), fun y => w3 (Or.inr (Or.inr (Or.inr (Or.inr (Or.inr (Or.inr (Or.inr y)))))))⟩
  have v26 : ∀ {k n : Nat}, k = 26 → n < 26 → vp_in (Int32.ofNat n) k := fun e hn => by rw [e]; exact vp_of hn (by decide)
  -- the beat's end
  have f196 : ∀ (s : Int32) M1, BgF g sm stc fsB (fun r => r = nx) M M1 → RoG M1 nx → DX2_workBeat_196 (h + 6) g g s M1 Q := by
    intro s M1 k1 r1
    unfold DX2_workBeat_196
    refine ⟨k1.ok og, fun M2 e2 => ?_⟩
    have k2 : BgF g sm stc fsB (fun r => r = nx) M M2 := k1.tr (BgF.gm gs (GmF.i (Or.inr (Or.inr (Or.inl rfl))) e2))
    have S2 := hS.bg k2
    refine ⟨S2.1.1, nw, S2.1.2.2.1, nx, S2.1.2.2.2.1, fun M6 e6 M7 e7 => K M2 M7 k2 (r1.k (by rw [e2]; rfl)) (Or.inr ?_)⟩
    rw [e7, e6]
  have f108 : ∀ M1, BgF g sm stc fsB (fun r => r = nx) M M1 → RoG M1 nx → DX2_workBeat_108 (h + 6) g x M1 Q := by
    intro M1 k1 r1
    have S1 := hS.bg k1
    have L1 := hL.bg og os o23 h21 hn nsc k1
    unfold DX2_workBeat_108
    refine ⟨S1.1.1, fun _ => ⟨L1.1.1.1, S_shown (h := h + 3) (l := 0) (g := fun s => sgT Sn s) L1.1 hC (by decide) L1.2.1.1 L1.2.1.2.1 L1.2.1.2.2.1 (fun s hs => ⟨L1.2.1.2.2.2.1 s hs, ?_⟩) (fun _ => ⟨_, rfl, fun M5 e5 => ?_⟩)⟩, fun _ M26 e26 => K M26 M26 (k1.tr (BgF.gm gs (GmF.i (Or.inr (Or.inr (Or.inl rfl))) e26))) (r1.k (by rw [e26]; rfl)) (Or.inl rfl)⟩
    · show sgT Sn s < _
      unfold sgT
      split <;> omega
    have k5 : BgF g sm stc fsB (fun r => r = nx) M M5 := k1.tr (BgF.gm gs (GmF.i (Or.inr (Or.inl rfl)) e5))
    have S5 := hS.bg k5
    have L5 := hL.bg og os o23 h21 hn nsc k5
    have E5 := hE.bg hL.1.1.1 og os n9 k5
    have r5 : RoG M5 nx := r1.k (by rw [e5]; rfl)
    refine ⟨nx, S5.1.2.2.2.1, nw, S5.1.2.2.1, S5.2.1.1.1, v26 (n := 0) S5.2.1.1.2 (by decide), S_setB0 (h := h + 3) L5.1 hC E5 (fun r10 _ => ⟨r10, rfl, S5.2.1.2.1.1, v26 (n := 0) S5.2.1.2.1.2 (by decide), fun M12 e12 => ?_⟩)⟩
    have k12 : BgF g sm stc fsB (fun r => r = nx) M M12 := k5.tr (BgF.gm gs (GmF.a rfl e12))
    have S12 := hS.bg k12
    have r12 : RoG M12 nx := r5.up (fun z => absurd z (by decide)) e12
    refine ⟨nx, S12.1.2.2.2.1, S12.2.1.2.1.1, v26 (n := 1) S12.2.1.2.1.2 (by decide), fun M15 e15 => ?_⟩
    have k15 : BgF g sm stc fsB (fun r => r = nx) M M15 := k12.tr (BgF.gm gs (GmF.a rfl e15))
    have S15 := hS.bg k15
    have r15 : RoG M15 nx := r12.up (fun z => absurd z (by decide)) e15
    refine ⟨nx, S15.1.2.2.2.1, S15.2.1.2.1.1, v26 (n := 2) S15.2.1.2.1.2 (by decide), v26 (n := 2) S15.2.1.2.1.2 (by decide), fun M18 e18 => ?_⟩
    have k18 : BgF g sm stc fsB (fun r => r = nx) M M18 := k15.tr (BgF.gm gs (GmF.a rfl e18))
    have S18 := hS.bg k18
    have L18 := hL.bg og os o23 h21 hn nsc k18
    have r18 : RoG M18 nx := r15.up (fun z => absurd z (by decide)) e18
    obtain ⟨a, a1, a2⟩ := (hE.bg hL.1.1.1 og os n9 k18).2.2.2.2
    rw [a2]
    refine ⟨nx, S18.1.2.2.2.1, S_truth (h := h + 3) L18.1 hC a1 (fun _ => ⟨_, rfl, S18.2.1.2.1.1, v26 (n := 3) S18.2.1.2.1.2 (by decide), fun M23 e23 => ?_⟩)⟩
    have k23 : BgF g sm stc fsB (fun r => r = nx) M M23 := k18.tr (BgF.gm gs (GmF.a rfl e23))
    have S23 := hS.bg k23
    have r23 : RoG M23 nx := r18.up (fun z => absurd z (by decide)) e23
    exact ⟨nx, S23.1.2.2.2.1, S23.2.1.2.1.1, v26 (n := 3) S23.2.1.2.1.2 (by decide), fun _ => f196 _ M23 k23 r23, fun _ => f196 _ M23 k23 r23⟩
  have main : ∀ d i M1, i + d = ps.length → BgF g sm stc fsB (fun r => r = nx) M M1 → RoG M1 nx → T (h + 7) mdX2_workBeat 26 [(0, .ref g), (1, .ref x), (2, .int (Int32.ofNat i))] [] M1 Q := by
    intro d
    induction d with
    | zero =>
      intro i M1 hi k1 r1
      obtain ⟨S1, P1, ⟨q1, q2, -⟩, -⟩ := hB.bg h21 ncc nia k1
      refine VX2_workBeat_26 (h := h + 6) ?_
      unfold DX2_workBeat_26
      refine ⟨S1.1.1, c, S1.1.2.1, P1.1.1, pl, q1, q2.1, S_alSize (h := h + 5) q2 (fun _ => ⟨_, rfl, fun _ => f108 M1 k1 r1, fun z => absurd ?_ z⟩)⟩
      rw [show i = ps.length by omega]
      exact Int32.le_rfl
    | succ d ih =>
      intro i M1 hi k1 r1
      obtain ⟨S1, P1, ⟨q1, q2, -⟩, hp, -⟩ := hB.bg h21 ncc nia k1
      have L1 := hL.bg og os o23 h21 hn nsc k1
      obtain ⟨t1, -, t3⟩ := hp i (by omega)
      obtain ⟨u9, v9, e9⟩ := t3 9 (by decide) (by decide)
      have nx1 : ∀ Ma, BgF g sm stc fsB (fun r => r = nx) M Ma → RoG Ma nx → DX2_workBeat_102 (h + 6) g x (Int32.ofNat i) Ma Q := fun Ma ka ra => by
        unfold DX2_workBeat_102
        rw [succ32]
        exact ih (i + 1) Ma (by omega) ka ra
      have f99 : ∀ (s : Int32) Ma, BgF g sm stc fsB (fun r => r = nx) M Ma → RoG Ma nx → DX2_workBeat_99 (h + 6) g x (Int32.ofNat i) g s Ma Q := by
        intro s Ma ka ra
        unfold DX2_workBeat_99
        exact ⟨ka.ok og, fun M2 e2 => nx1 M2 (ka.tr (BgF.gm gs (GmF.i (Or.inr (Or.inr (Or.inr (Or.inr rfl)))) e2))) (ra.k (by rw [e2]; rfl))⟩
      refine VX2_workBeat_26 (h := h + 6) ?_
      unfold DX2_workBeat_26
      refine ⟨S1.1.1, c, S1.1.2.1, P1.1.1, pl, q1, q2.1, S_alSize (h := h + 5) q2 (fun _ => ⟨_, rfl, fun z => ?_, fun _ => ⟨fun _ => f108 M1 k1 r1, fun _ => ⟨c, S1.1.2.1, P1.1.1, pl, q1, q2.1, S_get (h := h + 3) q2 (by omega) (fun _ => ⟨_, rfl, t1.1, fun _ => nx1 M1 k1 r1, fun n0 => ⟨L1.1.1.1, ?_⟩⟩)⟩⟩⟩)⟩
      · have := (le32 (by omega) (by omega)).mp z
        omega
      rw [e9]
      refine S_isOn (h := h + 4) (l := 0) L1.1 hC v9 (by decide) (fun _ => ⟨_, rfl, fun _ => nx1 M1 k1 r1, fun _ => ?_⟩)
      refine S_wkPt (h := h) hX S1 P1 (hG.1.k (k1.2.2.2.2.2.1 nw nwx)) r1 t1 n0 (fun M18 b18 r18 _ => ⟨rfl, ?_⟩)
      have k18 : BgF g sm stc fsB (fun r => r = nx) M M18 := k1.tr ((BgF.bw b18).mo (fun f z => by unfold fsB; omega) (fun r z => z))
      exact ⟨fun _ => f99 _ M18 k18 r18, fun _ => f99 _ M18 k18 r18⟩
  refine KX2_workBeat (h := h + 6) ?_
  unfold DX2_workBeat_0
  refine ⟨og, nw, hS.1.2.2.1, nx, hS.1.2.2.2.1, hS.2.1.1.1, hS.2.1.2.1.1, ⟨by decide, by decide, by decide, by rw [hS.2.1.1.2]; decide, by rw [hS.2.1.2.1.2]; decide⟩, fun M6 e6 => ?_⟩
  have k6 : BgF g sm stc fsB (fun r => r = nx) M M6 := BgF.gm gs (GmF.cp rfl e6)
  obtain ⟨S6, P6, -⟩ := hB.bg h21 ncc nia k6
  have r6 : RoG M6 nx := fun k x1 x2 => by
    have : mAI M6 nx k = mAI M nw k := by
      rw [e6]
      show va_up (mAI M) nx (va_cpy (mAI M nw) (mAI M nx) 0 0 26) nx k = _
      rw [va_up_self]
      unfold va_cpy
      rw [if_pos ⟨Nat.zero_le _, by omega⟩, Nat.zero_add, Nat.sub_zero]
    rw [this]
    exact hG.1 k x1 x2
  refine S_takG (h := h + 5) S6 P6 (fun z => nia z.symm) r6 (fun j hj => by rw [k6.2.2.2.2.2.1 gn ngx]; exact hG.2.2.2.1 j hj) (fun M7 k7 r7 _ => ⟨rfl, fun M8 e8 => ?_⟩)
  have k8 : BgF g sm stc fsB (fun r => r = nx) M M8 := (k6.tr ((BgF.gm gs k7).mo (fun f z => z.elim) (fun r z => z))).tr (BgF.gm gs (GmF.i (Or.inl rfl) e8))
  exact main ps.length 0 M8 (by omega) k8 (r7.k (by rw [e8]; rfl))
end
