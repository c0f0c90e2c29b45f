/-! searches: answers alike -/
section
variable {ow ow' : Nat → Nat} {ga : Nat → Td × PS × CoT} {gm : Nat → Nat} {M M1 M2 M' : Mem} {ms gs : List Nat} {mb gb t h k : Nat} {f : Nat → Int32} {a b c d : Int32}
/-- both searches of module i -/
theorem mt_of {i : Nat} {p : Nat → Td × PS × CoT} {mods govs : Nat} {S S' : Option (XsT × (Nat → Nat))} (h1 : StQ (p i) S) (h2 : RyP p mods govs i M M' S') : MtS (tQ (p i)) S S' := by
  obtain ⟨-, -, -, D, hD, hS⟩ := h2
  exact StP.mt hD h1 hS
theorem IvC.sx (I1 : IvC (Ag M1) M1 ow' ga gm ms gs mb gb t f) (hk : k ≤ 512) (hr : Rom k t M ms) (s1 : mS M1 + smS M1 ms ≤ mS M + smS M ms ∧ mN M1 + smN M1 ms ≤ mN M + smN M ms) {i : Nat} {S' : Option (XsT × (Nat → Nat))} (P : RyP (fun j => ga (ms.getD j 0)) ms.length gs.length i M1 M2 S') : Inv (k + 1) M2 := by
  obtain ⟨R2, X2, k2, -⟩ := P
  exact I1.fin2 hk hr s1 k2.rr (fun f z => rr_f z) (fun c z => rr_c z) (fun c z => z.elim) R2 X2 (fun i0 z => by
    unfold Ag at z ⊢
    rw [i0, k2.1.2.2.2.1 123 (by omega), k2.1.2.2.2.1 124 (by omega)]
    exact z)
theorem A_search (hk : k ≤ 512) (I : Inv k M) : Pr (h + 230) mdX10_search mdX11_search [.int a] M (Inv (k + 1)) := by
  obtain ⟨ow, ga, gm, ms, gs, mb, gb, t, f, h1, h2⟩ := id I
  have m4 := h1.1.2.1.2
  refine G_search h1.1 (h2.bg hk) (fun ne => ⟨_, rfl, R_searchx (p := fun j => ga (ms.getD j 0)) h1.2.1 (fun j hj => (h1.2.2.2.2.2.1 j hj).2) (fun _ => ⟨rfl, I.up⟩) (fun i M' S r hi e _ _ => absurd e (ne i hi))⟩) (fun M1 ow' i S v P hC1 hi e hS hA => ⟨v, rfl, ?_⟩)
  obtain ⟨I1, s1⟩ := h1.sr P hC1
  refine R_searchx (p := fun j => ga (ms.getD j 0)) I1.2.1 (fun j hj => (I1.2.2.2.2.2.1 j hj).2) (fun ne => absurd e (ne i hi)) (fun i' M2 S' r hi' e' P2 hB => ?_)
  have ii : i = i' := inj32 (by omega) (by omega) (e.symm.trans e')
  subst ii
  have er := AsO.mt (mt_of (p := fun j => ga (ms.getD j 0)) hS P2) hA hB
  exact ⟨by rw [er], I1.sx hk h2 s1 P2⟩
theorem A_move (hk : k ≤ 512) (I : Inv k M) : Pr (h + 230) mdX10_move mdX11_move [.int a, .int b, .int c, .int d] M (Inv (k + 1)) := by
  obtain ⟨ow, ga, gm, ms, gs, mb, gb, t, f, h1, h2⟩ := id I
  have m4 := h1.1.2.1.2
  refine G_move h1.1 (h2.bg hk) (fun ne => ⟨_, rfl, R_movex (p := fun j => ga (ms.getD j 0)) h1.2.1 (fun j hj => (h1.2.2.2.2.2.1 j hj).2) (fun _ => ⟨rfl, I.up⟩) (fun i M' S r hi e _ _ => absurd e (ne i hi))⟩) (fun M1 ow' i S v P hC1 hi e hS hA => ⟨v, rfl, ?_⟩)
  obtain ⟨I1, s1⟩ := h1.sr P hC1
  refine R_movex (p := fun j => ga (ms.getD j 0)) I1.2.1 (fun j hj => (I1.2.2.2.2.2.1 j hj).2) (fun ne => absurd e (ne i hi)) (fun i' M2 S' r hi' e' P2 hB => ?_)
  have ii : i = i' := inj32 (by omega) (by omega) (e.symm.trans e')
  subst ii
  have er := AmO.mt (mt_of (p := fun j => ga (ms.getD j 0)) hS P2) hA hB
  exact ⟨by rw [er], I1.sx hk h2 s1 P2⟩
theorem A_classOf (hk : k ≤ 512) (I : Inv k M) : Pr (h + 230) mdX10_classOf mdX11_classOf [.int a, .int b] M (Inv (k + 1)) := by
  obtain ⟨ow, ga, gm, ms, gs, mb, gb, t, f, h1, h2⟩ := id I
  have m4 := h1.1.2.1.2
  refine G_classOf h1.1 (h2.bg hk) (fun ne => ⟨_, rfl, R_classx (p := fun j => ga (ms.getD j 0)) h1.2.1 (fun j hj => (h1.2.2.2.2.2.1 j hj).2) (fun _ => ⟨rfl, I.up⟩) (fun i M' S r hi e _ _ => absurd e (ne i hi))⟩) (fun M1 ow' i S v P hC1 hi e hS hA => ⟨v, rfl, ?_⟩)
  obtain ⟨I1, s1⟩ := h1.sr P hC1
  refine R_classx (p := fun j => ga (ms.getD j 0)) I1.2.1 (fun j hj => (I1.2.2.2.2.2.1 j hj).2) (fun ne => absurd e (ne i hi)) (fun i' M2 S' r hi' e' P2 hB => ?_)
  have ii : i = i' := inj32 (by omega) (by omega) (e.symm.trans e')
  subst ii
  have er := AcO.mt (mt_of (p := fun j => ga (ms.getD j 0)) hS P2) hA hB
  exact ⟨by rw [er], I1.sx hk h2 s1 P2⟩
theorem A_way (hk : k ≤ 512) (I : Inv k M) : Pr (h + 230) mdX10_way mdX11_way [.int a, .int b, .int c] M (Inv (k + 1)) := by
  obtain ⟨ow, ga, gm, ms, gs, mb, gb, t, f, h1, h2⟩ := id I
  have m4 := h1.1.2.1.2
  refine G_way h1.1 (h2.bg hk) (fun ne => ⟨_, rfl, R_wayx (p := fun j => ga (ms.getD j 0)) h1.2.1 (fun j hj => (h1.2.2.2.2.2.1 j hj).2) (fun _ => ⟨rfl, I.up⟩) (fun i M' S r hi e _ _ => absurd e (ne i hi))⟩) (fun M1 ow' i S v P hC1 hi e hS hA => ⟨v, rfl, ?_⟩)
  obtain ⟨I1, s1⟩ := h1.sr P hC1
  refine R_wayx (p := fun j => ga (ms.getD j 0)) I1.2.1 (fun j hj => (I1.2.2.2.2.2.1 j hj).2) (fun ne => absurd e (ne i hi)) (fun i' M2 S' r hi' e' P2 hB => ?_)
  have ii : i = i' := inj32 (by omega) (by omega) (e.symm.trans e')
  subst ii
  have er := AwO.mt (mt_of (p := fun j => ga (ms.getD j 0)) hS P2) hA hB
  exact ⟨by rw [er], I1.sx hk h2 s1 P2⟩
/-- what the class's never and always leave of the reference's memory -/
theorem JuP.i29 (h1 : IvC (Ag M) M ow ga gm ms gs mb gb t f) (P : JuP ow ow' ms gs M M1) : mI M1 29 = mI M 29 := by
  obtain ⟨M0, ⟨-, p2, -⟩, n, -⟩ := P
  rw [n.2.2 29 (by decide), (p2.2 29 (by have := h1.1.1.1; omega) (by omega)).1]
theorem A_never (hk : k ≤ 512) (I : Inv k M) : Pr (h + 230) mdX10_never mdX11_never [.int a, .int b] M (Inv (k + 1)) := by
  obtain ⟨ow, ga, gm, ms, gs, mb, gb, t, f, h1, h2⟩ := id I
  have m4 := h1.1.2.1.2
  have ag := h1.2.2.2.2.2.2.2
  refine G_never h1.1 (h2.bg hk) (fun ne => ⟨_, rfl, R_neverx (p := fun j => ga (ms.getD j 0)) h1.2.1 (fun j hj => (h1.2.2.2.2.2.1 j hj).2) (fun _ => ⟨rfl, I.up⟩) (fun i M1 M' S r hi e _ _ _ => absurd e (ne i hi))⟩) (fun M1 ow' i S v P hC1 hi e hS hA => ⟨v, rfl, ?_⟩)
  have e29 := JuP.i29 h1 P
  obtain ⟨I1, s1⟩ := h1.ju P hC1
  refine R_neverx (p := fun j => ga (ms.getD j 0)) I1.2.1 (fun j hj => (I1.2.2.2.2.2.1 j hj).2) (fun ne => absurd e (ne i hi)) (fun i' M3 M2 S' r hi' e' P2 k4 hB => ?_)
  have ii : i = i' := inj32 (by omega) (by omega) (e.symm.trans e')
  subst ii
  rw [e29, ← ag.1, ← ag.2] at hB
  have h16 : (ga (ms.getD i 0)).1.1.length ≤ 16 := (h1.2.2.2.2.2.1 i hi).1.1.2.1
  obtain ⟨er, eu, ev⟩ := AnN.mt h16 (mt_of (p := fun j => ga (ms.getD j 0)) hS P2) hA hB
  obtain ⟨R2, X2, k2, -⟩ := P2
  refine ⟨by rw [er], I1.fin2 hk h2 s1 (RfF.tr k2.rr k4.rr) (fun f z => rr_f z) (fun c z => rr_c z) (fun c z => z.elim) (R2.ag k4) (fun j hj => (X2 j hj).ag k4) (fun i0 _ => ?_)⟩
  unfold Ag
  rw [i0]
  exact ⟨eu, ev⟩
theorem A_always (hk : k ≤ 512) (I : Inv k M) : Pr (h + 230) mdX10_always mdX11_always [.int a, .int b, .int c] M (Inv (k + 1)) := by
  obtain ⟨ow, ga, gm, ms, gs, mb, gb, t, f, h1, h2⟩ := id I
  have m4 := h1.1.2.1.2
  have ag := h1.2.2.2.2.2.2.2
  refine G_always h1.1 (h2.bg hk) (fun ne => ⟨_, rfl, R_alwaysx (p := fun j => ga (ms.getD j 0)) h1.2.1 (fun j hj => (h1.2.2.2.2.2.1 j hj).2) (fun _ => ⟨rfl, I.up⟩) (fun i M1 M' S r hi e _ _ _ => absurd e (ne i hi))⟩) (fun M1 ow' i S v P hC1 hi e hS hA => ⟨v, rfl, ?_⟩)
  have e29 := JuP.i29 h1 P
  obtain ⟨I1, s1⟩ := h1.ju P hC1
  refine R_alwaysx (p := fun j => ga (ms.getD j 0)) I1.2.1 (fun j hj => (I1.2.2.2.2.2.1 j hj).2) (fun ne => absurd e (ne i hi)) (fun i' M3 M2 S' r hi' e' P2 k4 hB => ?_)
  have ii : i = i' := inj32 (by omega) (by omega) (e.symm.trans e')
  subst ii
  rw [e29, ← ag.1, ← ag.2] at hB
  have h16 : (ga (ms.getD i 0)).1.1.length ≤ 16 := (h1.2.2.2.2.2.1 i hi).1.1.2.1
  obtain ⟨er, eu, ev⟩ := AnA.mt h16 (mt_of (p := fun j => ga (ms.getD j 0)) hS P2) hA hB
  obtain ⟨R2, X2, k2, -⟩ := P2
  refine ⟨by rw [er], I1.fin2 hk h2 s1 (RfF.tr k2.rr k4.rr) (fun f z => rr_f z) (fun c z => rr_c z) (fun c z => z.elim) (R2.ag k4) (fun j hj => (X2 j hj).ag k4) (fun i0 _ => ?_)⟩
  unfold Ag
  rw [i0]
  exact ⟨eu, ev⟩
theorem A_against (I : Inv k M) : Pr (h + 230) mdX10_against mdX11_against [.int a] M (Inv (k + 1)) := by
  obtain ⟨ow, ga, gm, ms, gs, mb, gb, t, f, h1, h2⟩ := id I
  have ag := h1.2.2.2.2.2.2.2
  refine S_against h1.1.1 ⟨_, rfl, R_against h1.1.1 ⟨?_, I.up⟩⟩
  rw [ag.1, ag.2]
end
