/-! the calls, one by one -/
section
variable {ow ow' : Nat → Nat} {ga : Nat → Td × PS × CoT} {gm : Nat → Nat} {M M1 M2 M' : Mem} {ms gs : List Nat} {mb gb t h k : Nat} {f : Nat → Int32} {fs cs js : Nat → Prop} {a b c d : Int32} {A A' : Prop}
theorem CvS.kg (hC : CvS ow ga gm M ms gs mb gb) (k : fr (fun a => ∃ i, i < gs.length ∧ ow a = gs.getD i 0) M M') : SaM ms M M' := by
  intro j hj
  obtain ⟨h1, h2⟩ := hC.2.2.2.2.2.2.2.1 j hj
  obtain ⟨a1, a2, a3⟩ := ln_fr h2 k (fun a ⟨i, hi, z⟩ e => by
    obtain ⟨_, _, _, _, _, _, _, _, _, _, hvq, _⟩ := hC.gv hi
    have o := hvq.1.1
    rw [← z, e] at o
    exact absurd (o.2.symm.trans h2.on.2) (by decide))
  exact ⟨a1, a2, by rw [a3]⟩
theorem IvC.fin (I1 : IvC (Ag M1) M1 ow' ga gm ms gs mb gb t f) (hr : Rom k t M ms) (s1 : mS M1 + smS M1 ms ≤ mS M + smS M ms ∧ mN M1 + smN M1 ms ≤ mN M + smN M ms) : Inv (k + 1) M1 := ⟨ow', ga, gm, ms, gs, mb, gb, t, f, I1, hr.st s1⟩
theorem IvC.xr (I1 : IvC A M1 ow ga gm ms gs mb gb t f) (k2 : RfF fs cs js M1 M2) (hc : ∀ c, cs c → 95 ≤ c ∧ c < 122) (hj : ∀ c, js c → 95 ≤ c) : ∀ j, j < ms.length → RxM (ga (ms.getD j 0)) j M2 := fun j hj' => (I1.2.2.2.2.2.1 j hj').2.mv (fun c _ h2 => k2.2.2.2.2.1 c (fun z => by have := hc c z; omega)) (k2.2.2.2.2.2 50 (fun z => by have := hj 50 z; omega)) (fun c h1 _ => k2.2.2.2.2.1 c (fun z => by have := hc c z; omega))
theorem Ag.r (k2 : RfF fs cs js M1 M2) (h3 : ¬ fs 123) (h4 : ¬ fs 124) (i0 : mI M2 0 = mI M1 0) (z : Ag M1) : Ag M2 := by
  unfold Ag at z ⊢
  rw [i0, k2.2.2.2.1 123 h3, k2.2.2.2.1 124 h4]
  exact z
theorem IvC.fin2 (I1 : IvC A M1 ow' ga gm ms gs mb gb t f) (hk : k ≤ 512) (hr : Rom k t M ms) (s1 : mS M1 + smS M1 ms ≤ mS M + smS M ms ∧ mN M1 + smN M1 ms ≤ mN M + smN M ms) (k2 : RfF fs cs js M1 M2) (hf : ∀ f, fs f → f ≠ 1 ∧ f ≠ 6) (hc : ∀ c, cs c → 95 ≤ c ∧ c ≤ 131 ∧ c ≠ 110) (hj : ∀ c, js c → 95 ≤ c ∧ c ≤ 131) (hR' : RvS M2 ms.length gs.length) (hX' : ∀ j, j < ms.length → RxM (ga (ms.getD j 0)) j M2) (hA : mI M2 0 = mI M1 0 → A → Ag M2) : Inv (k + 1) M2 := by
  have hb : mN M1 < mBig := by
    have := hr.st s1
    unfold Rom at this
    unfold mBig
    omega
  obtain ⟨I2, e1, e2, sm⟩ := I1.r hb k2 hf hc hj hR' hX' hA
  obtain ⟨q1, q2⟩ := sm.sm
  exact I2.fin hr (by rw [e1, e2, q1, q2]; exact s1)
theorem IvC.hg (h1 : IvC A M ow ga gm ms gs mb gb t f) (hC1 : CvS ow ga gm M1 ms gs mb gb) (f1 : fr (fun a => ∃ i, i < gs.length ∧ ow a = gs.getD i 0) M M1) (e1 : mN M1 = mN M ∧ mS M1 = mS M) : (fr (fun a => 132 ≤ a) M M1) ∧ mS M1 + smS M1 ms ≤ mS M + smS M ms ∧ mN M1 + smN M1 ms ≤ mN M + smN M ms := by
  obtain ⟨q1, q2⟩ := (h1.1.kg f1).sm
  refine ⟨f1.more (fun a _ ⟨i, hi, z⟩ => ge132 h1.1 (h1.1.2.2.2.2.2.2.2.2 i hi).1 z), ?_⟩
  rw [q1, q2, e1.1, e1.2]
  exact ⟨Nat.le_refl _, Nat.le_refl _⟩
theorem fr0 (F : Fix M) (k : fr (fun a => 132 ≤ a) M M1) : mI M1 0 = mI M 0 := (k.2 0 (by have := F.1; omega) (by omega)).1
theorem IvC.sr (h1 : IvC (Ag M) M ow ga gm ms gs mb gb t f) (P : SrP ow ow' ms gs M M1) (hC1 : CvS ow' ga gm M1 ms gs mb gb) : IvC (Ag M1) M1 ow' ga gm ms gs mb gb t f ∧ mS M1 + smS M1 ms ≤ mS M + smS M ms ∧ mN M1 + smN M1 ms ≤ mN M + smN M ms := by
  obtain ⟨p1, p2, p3, p4⟩ := P
  have e := fr0 h1.1.1 p2
  exact ⟨h1.c hC1 (p2.more (fun a _ z => Or.inr z)) (by rw [e]) (by rw [e]) p4 (fun i29 z => by unfold Ag at z ⊢; rw [e, i29]; exact z), p3.sm h1.1.2.2.2.2.2.1⟩
theorem IvC.ju (h1 : IvC A M ow ga gm ms gs mb gb t f) (P : JuP ow ow' ms gs M M2) (hC2 : CvS ow' ga gm M2 ms gs mb gb) : IvC True M2 ow' ga gm ms gs mb gb t f ∧ mS M2 + smS M2 ms ≤ mS M + smS M ms ∧ mN M2 + smN M2 ms ≤ mN M + smN M ms := by
  obtain ⟨M1, ⟨p1, p2, p3, p4⟩, n, p5⟩ := P
  have e := fr0 h1.1.1 p2
  have s1 := p3.sm h1.1.2.2.2.2.2.1
  have nI : ∀ a, a ≠ 0 → mI M2 a = mI M1 a := fun a ha => n.2.2 a ha
  have sm : SaM ms M1 M2 := fun j hj => by
    unfold lnS lnN
    rw [n.2.1.2.1, n.1.2.2.2, nI _ (by omega)]
    exact ⟨rfl, rfl, rfl⟩
  obtain ⟨q1, q2⟩ := sm.sm
  have hg := h1.1.2.2.2.2.2.2.2.2
  refine ⟨h1.c hC2 ((p2.more (fun a _ z => Or.inr z)).tr n.fre (fun a _ z => Or.inl z)) (by rw [p5 1 (by decide) (by decide), e]) (by rw [p5 6 (by decide) (by decide), e]) (fun q hq => by rw [nI _ (by have := (hg q hq).1; omega)]; exact p4 q hq) (fun _ _ => trivial), ?_⟩
  rw [q1, q2, n.1.1, n.1.2.1]
  exact s1
theorem rr_f {f : Nat} (z : (83 ≤ f ∧ f ≤ 89) ∨ f = 123 ∨ f = 124) : f ≠ 1 ∧ f ≠ 6 := by omega
theorem rr_c {c : Nat} (z : (95 ≤ c ∧ c ≤ 101) ∨ (122 ≤ c ∧ c ≤ 131)) : 95 ≤ c ∧ c ≤ 131 ∧ c ≠ 110 := by omega
theorem N_present (I : Inv k M) : PrN (h + 230) mdX10_present mdX11_present [.int a, .int b] M (Inv (k + 1)) := by
  obtain ⟨ow, ga, gm, ms, gs, mb, gb, t, f, h1, h2⟩ := id I
  exact G_present h1.1 (fun v => ⟨v, rfl, R_present h1.2.1.1 (fun w => ⟨w, rfl, I.up⟩)⟩)
theorem N_value (I : Inv k M) : PrN (h + 230) mdX10_value mdX11_value [.int a, .int b] M (Inv (k + 1)) := by
  obtain ⟨ow, ga, gm, ms, gs, mb, gb, t, f, h1, h2⟩ := id I
  exact G_value h1.1 (fun v => ⟨v, rfl, R_value h1.2.1.1 (fun w => ⟨w, rfl, I.up⟩)⟩)
theorem N_variable (I : Inv k M) : PrN (h + 230) mdX10_variable mdX11_variable [.int a, .int b] M (Inv (k + 1)) := by
  obtain ⟨ow, ga, gm, ms, gs, mb, gb, t, f, h1, h2⟩ := id I
  exact G_variable h1.1 (fun v => ⟨v, rfl, R_variable h1.2.1.1 (fun w => ⟨w, rfl, I.up⟩)⟩)
theorem N_paused (I : Inv k M) : PrN (h + 230) mdX10_paused mdX11_paused [.int a, .int b] M (Inv (k + 1)) := by
  obtain ⟨ow, ga, gm, ms, gs, mb, gb, t, f, h1, h2⟩ := id I
  exact G_paused h1.1 (fun v => ⟨v, rfl, R_paused h1.2.1.1 (fun w => ⟨w, rfl, I.up⟩)⟩)
theorem N_wire (I : Inv k M) : PrN (h + 230) mdX10_wire mdX11_wire [.int a, .int b, .int c] M (Inv (k + 1)) := by
  obtain ⟨ow, ga, gm, ms, gs, mb, gb, t, f, h1, h2⟩ := id I
  exact G_wire h1.1 (fun v => ⟨v, rfl, R_wire h1.2.1.1 (fun w => ⟨w, rfl, I.up⟩)⟩)
theorem N_told (I : Inv k M) : PrN (h + 230) mdX10_told mdX11_told [.int a, .int b] M (Inv (k + 1)) := by
  obtain ⟨ow, ga, gm, ms, gs, mb, gb, t, f, h1, h2⟩ := id I
  exact G_told h1.1 (fun v => ⟨v, rfl, R_told h1.2.1.1 (fun w => ⟨w, rfl, I.up⟩)⟩)
theorem N_same (I : Inv k M) : PrN (h + 230) mdX10_same mdX11_same [.int a, .int b] M (Inv (k + 1)) := by
  obtain ⟨ow, ga, gm, ms, gs, mb, gb, t, f, h1, h2⟩ := id I
  exact G_same h1.1 (fun v => ⟨v, rfl, R_same h1.2.1.1 (fun w => ⟨w, rfl, I.up⟩)⟩)
theorem N_give (hk : k ≤ 512) (I : Inv k M) : PrN (h + 230) mdX10_give mdX11_give [.int a, .int b, .int c, .int d] M (Inv (k + 1)) := by
  obtain ⟨ow, ga, gm, ms, gs, mb, gb, t, f, h1, h2⟩ := I
  have bg := h2.bg hk
  refine G_give h1.1 (by omega) (fun M1 v hC1 f1 e1 kq => ⟨v, rfl, ?_⟩)
  obtain ⟨f2, s1⟩ := h1.hg hC1 f1 e1
  have e0 := fr0 h1.1.1 f2
  have I1 := h1.c (A' := Ag M1) hC1 (f2.more (fun a _ z => Or.inr z)) (by rw [e0]) (by rw [e0]) kq (fun i29 z => by unfold Ag at z ⊢; rw [e0, i29]; exact z)
  have bo : Bo M1 := I1.2.1.1.2.1.2.2
  refine R_give I1.2.1.1 (fun w => ⟨w, rfl, I1.fin h2 s1⟩) (fun M2 k2 => ⟨1, rfl, I1.fin2 hk h2 s1 k2 (fun f z => z.elim) (fun c z => by unfold nsA at z; omega) (fun c z => by unfold gvJ at z; omega) (I1.2.1.rb k2 (fun f z => z.elim) (fun c z => by unfold nsA at z; omega) (fun c z => by unfold gvJ at z; omega) (fun j => ?_)) (I1.xr k2 (fun c z => by unfold nsA at z; omega) (fun c z => by unfold gvJ at z; omega)) (Ag.r k2 (fun z => z) (fun z => z))⟩)
  rw [k2.2.2.2.2.1 103 (by unfold nsA; omega)]
  exact bo j
theorem N_beat (hk : k ≤ 512) (I : Inv k M) : PrN (h + 230) mdX10_beat mdX11_beat [.int a] M (Inv (k + 1)) := by
  obtain ⟨ow, ga, gm, ms, gs, mb, gb, t, f, h1, h2⟩ := id I
  have bg := h2.bg hk
  have fin : ∀ M1 ow', IvC (Ag M1) M1 ow' ga gm ms gs mb gb t f → (mS M1 + smS M1 ms ≤ mS M + smS M ms ∧ mN M1 + smN M1 ms ≤ mN M + smN M ms) → E (h + 230) mdX11_beat (.ref 29 :: [.int a]) M1 (fun r2 M2 => ∃ w : Int32, r2 = some (.int w) ∧ Inv (k + 1) M2) := fun M1 ow' I1 s1 => by
    refine R_beat I1.2.1.1 (fun m hm => (I1.2.1.2.2 m hm).1) (fun w => ⟨w, rfl, I1.fin h2 s1⟩) (fun M2 w k2 b2 => ⟨w, rfl, I1.fin2 hk h2 s1 k2 (fun f z => by omega) (fun c z => by omega) (fun c z => by omega) (I1.2.1.rb k2 (fun f z => by omega) (fun c z => by omega) (fun c z => by omega) b2) (I1.xr k2 (fun c z => by omega) (fun c z => by omega)) (Ag.r k2 (by omega) (by omega))⟩)
  refine G_beat h1.1 (by omega) (fun v => ⟨v, rfl, fin M ow h1 ⟨Nat.le_refl _, Nat.le_refl _⟩⟩) (fun M1 ow' cc v hc how hC1 f1 rm sm r17 kq => ⟨v, rfl, fin M1 ow' ?_ ?_⟩)
  · have e0 := fr0 h1.1.1 f1
    exact h1.c hC1 (f1.more (fun a _ z => Or.inr z)) (by rw [e0]) (by rw [e0]) kq (fun i29 z => by unfold Ag at z ⊢; rw [e0, i29]; exact z)
  · obtain ⟨j, hj, ej⟩ := hc
    have q17 : mR M1 cc 17 = mR M cc 17 := by rw [ej]; exact r17 j hj
    refine RmU.sm h1.1.2.2.2.2.2.1 ⟨cc, fun i hi ne => ⟨(sm i hi ne).1, (sm i hi ne).2, r17 i hi⟩, ?_, ?_, Or.inl ⟨j, hj, ej.symm⟩⟩
    · rw [(sr_eq q17).2]; omega
    · rw [(sr_eq q17).1]; omega
/-! answers alike -/
theorem A_fault (I : Inv k M) : Pr (h + 230) mdX10_fault mdX11_fault [] M (Inv (k + 1)) := by
  obtain ⟨ow, ga, gm, ms, gs, mb, gb, t, f, h1, h2⟩ := id I
  exact S_fault h1.1.1 ⟨_, rfl, R_fault h1.1.1 ⟨by rw [h1.2.2.2.1], I.up⟩⟩
theorem A_count (I : Inv k M) : Pr (h + 230) mdX10_count mdX11_count [.int a] M (Inv (k + 1)) := by
  obtain ⟨ow, ga, gm, ms, gs, mb, gb, t, f, h1, h2⟩ := id I
  have e1 := h1.1.2.1.1.2.1
  have e2 := h1.1.2.2.1.1.2.1
  have e3 := h1.2.1.1.2.1.1
  have e4 := h1.2.1.1.2.2.1.1
  have e5 := h1.2.2.1.2.1.1
  have e6 := h1.2.2.1.2.2.1
  refine S_count h1.1.1 ⟨_, rfl, R_count h1.1.1 ⟨?_, I.up⟩⟩
  rw [e1, e2, e3, e4, e5, e6]
theorem N_module (I : Inv k M) : PrN (h + 230) mdX10_module mdX11_module [.int a, .int b] M (Inv (k + 1)) := by
  obtain ⟨ow, ga, gm, ms, gs, mb, gb, t, f, h1, h2⟩ := id I
  have r : E (h + 230) mdX11_module (.ref 29 :: [.int a, .int b]) M (fun r2 M2 => ∃ w : Int32, r2 = some (.int w) ∧ Inv (k + 1) M2) := R_module h1.2.1.1 (fun _ => ⟨_, rfl, I.up⟩) (fun i S hi e _ _ => ⟨_, rfl, I.up⟩)
  exact G_module h1.1 (fun _ => ⟨_, rfl, r⟩) (fun i hi e => ⟨_, rfl, r⟩)
theorem A_part (I : Inv k M) : Pr (h + 230) mdX10_part mdX11_part [.int a, .int b] M (Inv (k + 1)) := by
  obtain ⟨ow, ga, gm, ms, gs, mb, gb, t, f, h1, h2⟩ := id I
  have m4 := h1.1.2.1.2
  have md : ∀ i n, i < ms.length → mAI M 54 i = Int32.ofNat n → n ≤ 40 → n = npS (ga (ms.getD i 0)).2.1 ∧ n ≤ 40 := fun i n hi e h40 => by
    obtain ⟨-, ⟨r5, r40, -⟩, -⟩ := (h1.2.2.2.2.2.1 i hi).1
    exact ⟨inj32 (by omega) (by omega) (e.symm.trans r5), h40⟩
  refine G_part h1.1 (fun ne => ⟨_, rfl, R_prtC h1.2.1.1 (fun _ => ⟨rfl, I.up⟩) (fun i j n hi e en n40 hj ej => ?_)⟩) (fun i j hi e hj ej => ⟨_, rfl, R_prtC h1.2.1.1 (fun ne => ?_) (fun i' j' n hi' e' en n40 hj' ej' => ⟨?_, I.up⟩)⟩)
  · obtain ⟨q1, q2⟩ := md i n hi en n40
    exact absurd ej (ne i j hi e (by omega))
  · obtain ⟨-, ⟨r5, r40, -⟩, -⟩ := (h1.2.2.2.2.2.1 i hi).1
    exact absurd ej (ne i j _ hi e r5 r40 hj)
  · obtain ⟨q1, q2⟩ := md i' n hi' en n40
    have ii : i = i' := inj32 (by omega) (by omega) (e.symm.trans e')
    subst ii
    have jj : j = j' := inj32 (by omega) (by omega) (ej.symm.trans ej')
    subst jj
    obtain ⟨-, -, r⟩ := (h1.2.2.2.2.2.1 i hi).1
    rw [r j hj]
theorem IvC.kp (h1 : IvC (Ag M) M ow ga gm ms gs mb gb t f) (hb : mN M < mBig) {i q : Nat} (hi : i < gs.length) (hq3 : q ≤ 3) (hC1 : CvS ow ga gm M1 ms gs mb gb) (f1 : fr (fun a => ∃ i, i < gs.length ∧ ow a = gs.getD i 0) M M1) (e1 : mN M1 = mN M ∧ mS M1 = mS M) (eq : mI M1 (gs.getD i 0) 5 = Int32.ofNat q) (ne : ∀ j, j < gs.length → j ≠ i → mI M1 (gs.getD j 0) 5 = mI M (gs.getD j 0) 5) (K : KpF i q M1 M2) : IvC (Ag M2) M2 ow ga gm ms gs mb gb t f ∧ mS M2 + smS M2 ms ≤ mS M + smS M ms ∧ mN M2 + smN M2 ms ≤ mN M + smN M ms := by
  obtain ⟨f2, s1⟩ := h1.hg hC1 f1 e1
  obtain ⟨hC, hR, ⟨t1, ⟨t2, t3⟩, t4, t5⟩, h6, hq, hm, h5⟩ := h1
  have n132 := hC.1.1
  have row : ∀ c, c < 132 → sameRow M M1 c := fun c h2 => f2.2 c (by omega) (by omega)
  have hR1 : RvS M1 ms.length gs.length := hR.cl hC1.1 (row 29 (by decide)).1 (fun c _ h => (row c (by omega)).2.2.2.1) (row 50 (by decide)).2.2.2.2.1
  obtain ⟨k, k1, k2, k3⟩ := id K
  have hR2g := hR1.1.kp hq3 K
  have cs : ∀ {c : Nat}, (gvA c ∨ c = 110) → 95 ≤ c ∧ c ≤ 131 ∧ c ≠ 102 ∧ c < 122 := fun {c} z => by unfold gvA at z; omega
  have r2 : ∀ c, c < 95 ∨ 122 ≤ c → mAI M2 c = mAI M1 c := fun c h => k.2.2.2.2.1 c (fun z => by have := cs z; omega)
  have i2 : mI M2 = mI M1 := by
    funext a g
    by_cases z : a = 29
    · rw [z]; exact k.2.2.2.1 g (fun z => z)
    · rw [k.2.2.1 a z]
  have hR2 : RvS M2 ms.length gs.length := by
    obtain ⟨F, ⟨a1, a2, a3⟩, ⟨b1, b2⟩, c, d, e⟩ := hR2g
    exact hR1.kk F (by rw [i2]) b1 b2 a3 c d (fun c _ h => r2 c (by omega)) (k.2.2.2.2.2 50 (by unfold gvJ; omega)) (fun c h _ => r2 c (by omega))
  obtain ⟨hC2, hK1, hK2⟩ := hC1.rr (by rw [e1.1]; exact hb) k (fun c z => by
    rcases z with z | z
    · have := cs z; omega
    · unfold gvJ at z; omega)
  obtain ⟨q1, q2⟩ := SaM.sm (ms := ms) (M := M1) (M' := M2) hK1
  have r : ∀ c, c < 95 → mAI M2 c = mAI M c := fun c h => by rw [r2 c (by omega), (row c (by omega)).2.2.2.1]
  refine ⟨⟨hC2, hR2, ⟨t1, ⟨by rw [i2, (row 0 (by decide)).1]; exact t2, by rw [r 1 (by decide)]; exact t3⟩, by rw [i2, (row 29 (by decide)).1]; exact t4, by rw [r 30 (by decide)]; exact t5⟩, by rw [i2, (row 0 (by decide)).1, (row 29 (by decide)).1]; exact h6, fun j hj => ?_, fun j hj => (hm j hj).mv (fun c _ h => r c h) (by rw [k.2.2.2.2.2 50 (by unfold gvJ; omega), (row 50 (by decide)).2.2.2.2.1]) (fun c h1 h2 => by rw [r2 c (by omega), (row c (by omega)).2.2.2.1]), by rw [r 5 (by decide)]; exact h5.1, by have z := h5.2; unfold Ag at z ⊢; rw [i2, (row 0 (by decide)).1, (row 29 (by decide)).1]; exact z⟩, ?_⟩
  · rw [i2]
    by_cases z : j = i
    · rw [z, k1]; exact eq
    · rw [k2 j z, ne j hj z, (row 110 (by decide)).2.2.2.1]; exact hq j hj
  · rw [q1, q2, k.1.1, k.1.2.1]; exact s1
theorem A_keep (hk : k ≤ 512) (I : Inv k M) : Pr (h + 230) mdX10_keep mdX11_keep [.int a] M (Inv (k + 1)) := by
  obtain ⟨ow, ga, gm, ms, gs, mb, gb, t, f, h1, h2⟩ := id I
  have bg := h2.bg hk
  have g8 := h1.1.2.2.1.2
  have hq := h1.2.2.2.2.1
  refine G_keep h1.1 (by omega) (fun ne => ⟨_, rfl, R_keep h1.2.1.1 (fun _ => ⟨rfl, I.up⟩) (fun i hi e _ => absurd e (ne i hi)) (fun i q M' hi e _ _ _ => absurd e (ne i hi))⟩) (fun i hi e e3 => ⟨_, rfl, R_keep h1.2.1.1 (fun ne => absurd e (ne i hi)) (fun _ _ _ _ => ⟨rfl, I.up⟩) (fun i' q M' hi' e' q3 eq _ => ?_)⟩) (fun i q M1 hi e q3 eq hC1 f1 e1 eq1 ne1 => ⟨_, rfl, ?_⟩)
  · have ii : i = i' := inj32 (by omega) (by omega) (e.symm.trans e')
    subst ii
    have : 3 = q := inj32 (by omega) (by omega) (e3.symm.trans ((hq i hi).trans eq))
    omega
  · obtain ⟨f2, s1⟩ := h1.hg hC1 f1 e1
    have r110 : mAI M1 110 = mAI M 110 := (f2.2 110 (by have := h1.1.1.1; omega) (by omega)).2.2.2.1
    have row : ∀ c, c < 132 → sameRow M M1 c := fun c h2 => f2.2 c (by have := h1.1.1.1; omega) (by omega)
    have hR1 : RvS M1 ms.length gs.length := h1.2.1.cl hC1.1 (row 29 (by decide)).1 (fun c _ h => (row c (by omega)).2.2.2.1) (row 50 (by decide)).2.2.2.2.1
    have qi : mAI M1 110 i = Int32.ofNat q := by rw [r110, ← hq i hi]; exact eq
    refine R_keep hR1.1 (fun ne => absurd e (ne i hi)) (fun i' hi' e' e3 => ?_) (fun i' q' M2 hi' e' q3' eq' K => ?_)
    · have ii : i = i' := inj32 (by omega) (by omega) (e.symm.trans e')
      subst ii
      have : q = 3 := inj32 (by omega) (by omega) (qi.symm.trans e3)
      omega
    · have ii : i = i' := inj32 (by omega) (by omega) (e.symm.trans e')
      subst ii
      have : q = q' := inj32 (by omega) (by omega) (qi.symm.trans eq')
      subst this
      obtain ⟨I2, s2⟩ := h1.kp (by omega) hi (by omega) hC1 f1 e1 eq1 ne1 K
      exact ⟨rfl, I2.fin h2 s2⟩
theorem A_back (hk : k ≤ 512) (I : Inv k M) : Pr (h + 230) mdX10_back mdX11_back [.int a] M (Inv (k + 1)) := by
  obtain ⟨ow, ga, gm, ms, gs, mb, gb, t, f, h1, h2⟩ := id I
  have bg := h2.bg hk
  have g8 := h1.1.2.2.1.2
  have hq := h1.2.2.2.2.1
  refine G_back h1.1 (by omega) (fun ne => ⟨_, rfl, R_back h1.2.1.1 (fun _ => ⟨rfl, I.up⟩) (fun i hi e _ => absurd e (ne i hi)) (fun i q M' hi e _ _ _ => absurd e (ne i hi))⟩) (fun i hi e e3 => ⟨_, rfl, R_back h1.2.1.1 (fun ne => absurd e (ne i hi)) (fun _ _ _ _ => ⟨rfl, I.up⟩) (fun i' q M' hi' e' q3 eq _ => ?_)⟩) (fun i q M1 hi e q3 eq hC1 f1 e1 eq1 ne1 => ⟨_, rfl, ?_⟩)
  · have ii : i = i' := inj32 (by omega) (by omega) (e.symm.trans e')
    subst ii
    have : 0 = q + 1 := inj32 (by omega) (by omega) (e3.symm.trans ((hq i hi).trans eq))
    omega
  · obtain ⟨f2, s1⟩ := h1.hg hC1 f1 e1
    have r110 : mAI M1 110 = mAI M 110 := (f2.2 110 (by have := h1.1.1.1; omega) (by omega)).2.2.2.1
    have row : ∀ c, c < 132 → sameRow M M1 c := fun c h2 => f2.2 c (by have := h1.1.1.1; omega) (by omega)
    have hR1 : RvS M1 ms.length gs.length := h1.2.1.cl hC1.1 (row 29 (by decide)).1 (fun c _ h => (row c (by omega)).2.2.2.1) (row 50 (by decide)).2.2.2.2.1
    have qi : mAI M1 110 i = Int32.ofNat (q + 1) := by rw [r110, ← hq i hi]; exact eq
    refine R_back hR1.1 (fun ne => absurd e (ne i hi)) (fun i' hi' e' e3 => ?_) (fun i' q' M2 hi' e' q3' eq' K => ?_)
    · have ii : i = i' := inj32 (by omega) (by omega) (e.symm.trans e')
      subst ii
      have : q + 1 = 0 := inj32 (by omega) (by omega) (qi.symm.trans e3)
      omega
    · have ii : i = i' := inj32 (by omega) (by omega) (e.symm.trans e')
      subst ii
      have : q + 1 = q' + 1 := inj32 (by omega) (by omega) (qi.symm.trans eq')
      have : q = q' := by omega
      subst this
      obtain ⟨I2, s2⟩ := h1.kp (by omega) hi (by omega) hC1 f1 e1 eq1 ne1 K
      exact ⟨rfl, I2.fin h2 s2⟩
end
