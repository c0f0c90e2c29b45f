/-! the tree as lists: the reader's pieces, put together -/
section
variable {Θ Θ1 Θ2 : TrT} {G G1 G2 : Nat → List Nat} {O H H1 H2 : Nat → Prop} {x y a c d v m1 m2 p1 p2 lo hi : Nat} {k l : Int32} {im : Bool} {cs : List Nat}
theorem Sm.rf {w : Vw} : Sm w w lo hi := fun _ _ _ => rfl
theorem cdT_is : ∀ q z, q ≠ 10 → (cdT Θ a l).2.2 q z = Θ.2.2 q z := fun q z h => up2_ne (fun y => h y.1)
theorem TG.cd (hT : TG Θ G) : TG (cdT Θ a l) G := by
  obtain ⟨h1, h2, h3⟩ := hT
  have e := cdT_is (Θ := Θ) (a := a) (l := l)
  refine ⟨h1, fun z z1 z2 => ?_, fun z z1 z2 z3 => ?_⟩
  · obtain ⟨a1, a2, a3, a4, a5⟩ := h2 z z1 z2
    have f12 : (cdT Θ a l).2.2 12 = Θ.2.2 12 := funext fun y => e 12 y (by decide)
    have f13 : (cdT Θ a l).2.2 13 = Θ.2.2 13 := funext fun y => e 13 y (by decide)
    refine ⟨a1.cg (e 6 z (by decide)) (e 7 z (by decide)) (fun y _ => e 8 y (by decide)) (fun y _ => e 9 y (by decide)), a2, a3, ?_, ?_⟩
    · rw [f12, e 5 z (by decide), e 11 z (by decide)]; exact a4
    · rw [f13, e 5 z (by decide), e 11 z (by decide)]; exact a5
  · rw [e 8 z (by decide)]
    rw [e 9 z (by decide)] at z3
    exact h3 z z1 z2 z3
theorem NW.cd (h : NW Θ Θ1 G G1 x H m1 p1) : NW Θ (cdT Θ1 x l) G G1 x H m1 p1 := by
  obtain ⟨h1, h2, ⟨h3, h4, h5, h6⟩, h7⟩ := h
  have e := cdT_is (Θ := Θ1) (a := x) (l := l)
  refine ⟨h1.cd, ⟨h2.1, fun z z1 z2 => ?_⟩, ⟨h3, h4, (e 9 x (by decide)).trans h5, h6⟩, h7⟩
  obtain ⟨⟨a1, a2, a3⟩, a4, a5⟩ := h2.2 z z1 z2
  have e10 : (cdT Θ1 x l).2.2 10 z = Θ1.2.2 10 z := up2_ne (fun w => by omega)
  exact ⟨⟨(e 5 z (by decide)).trans a1, e10.trans a2, (e 11 z (by decide)).trans a3⟩, fun n => ⟨(a4 n).1, (e 12 z (by decide)).trans (a4 n).2.1, (e 13 z (by decide)).trans (a4 n).2.2⟩, fun n => (e 9 z (by decide)).trans (a5 n)⟩
theorem ndS.cd {l0 : Int32} (h : ndS (vwT Θ G) lo hi x k l0 cs) : ndS (vwT (cdT Θ x l) G) lo hi x k l cs := by
  obtain ⟨h1, h2, h3, h4⟩ := h
  exact ⟨h1, ((cdT_is (Θ := Θ) (a := x) (l := l) 5 x (by decide)).trans h2), up2_eq, h4⟩
theorem W_ch (hT : TG Θ G) (hf : Θ.1 < 640) (hc : 1 ≤ c ∧ c < Θ.1) (rc : Θ.2.2 9 c = 0) (hd : 1 ≤ d ∧ d < Θ.1) (rd : Θ.2.2 9 d = 0) (hne : c ≠ d) : ∃ G1, NW Θ (chT Θ l c d).1 G G1 (chT Θ l c d).2 (fun y => y = c ∨ y = d) 1 0 ∧ ndS (vwT (chT Θ l c d).1 G1) Θ.1 (chT Θ l c d).1.1 (chT Θ l c d).2 4 l [c, d] := by
  obtain ⟨G1, n1, s1⟩ := W_pr (k := 4) hT hf (by decide) hc rc hd rd hne
  exact ⟨G1, n1.cd, s1.cd⟩
theorem W_su (hT : TG Θ G) (hf : Θ.1 < 640) (hc : 1 ≤ c ∧ c < Θ.1) (rc : Θ.2.2 9 c = 0) : ∃ G1, NW Θ (suT Θ c l).1 G G1 (suT Θ c l).2 (fun y => y = c) 1 0 ∧ ndS (vwT (suT Θ c l).1 G1) Θ.1 (suT Θ c l).1.1 (suT Θ c l).2 7 l [c] := by
  obtain ⟨G1, n1, s1⟩ := W_wr (k := 7) hT hf (by decide) hc rc
  exact ⟨G1, n1.cd, s1.cd⟩
theorem NW.ge (h : NW Θ Θ1 G G1 x H m1 p1) : Θ.1 ≤ x ∧ x < Θ1.1 ∧ Θ1.1 ≤ Θ.1 + m1 ∧ Θ.1 ≤ Θ1.1 := ⟨h.2.2.1.1, h.2.2.1.2.1, h.2.2.1.2.2.2, h.2.1.1⟩
theorem W_ha (hT : TG Θ G) (hf : Θ.1 + 2 ≤ 640) : ∃ G1, NW Θ (haT Θ).1 G G1 (haT Θ).2 (fun _ => False) 2 1 ∧ haS (vwT (haT Θ).1 G1) Θ.1 (haT Θ).1.1 (haT Θ).2 Θ.2.1 := by
  have h1 := hT.1.1
  obtain ⟨G1, n1, s1⟩ := W_pa hT (by omega)
  have g1 := n1.ge
  obtain ⟨o1, r1⟩ := n1.own hT
  obtain ⟨G2, n2, s2⟩ := W_wr (k := 6) n1.1 (by omega) (by decide) o1 r1
  have g2 := n2.ge
  exact ⟨G2, n1.tr n2 (fun _ _ _ z => z) (fun z z1 z2 z3 => by omega), _, s2.st Sm.rf g1.2.2.2 (Nat.le_refl _), s1.st (n2.sm h1 (Nat.le_refl _)) (Nat.le_refl _) g2.2.2.2⟩
theorem W_st (hT : TG Θ G) (hf : Θ.1 + 4 ≤ 640) : ∃ G1, NW Θ (stT Θ v).1 G G1 (stT Θ v).2 (fun _ => False) 4 1 ∧ stS (vwT (stT Θ v).1 G1) Θ.1 (stT Θ v).1.1 (stT Θ v).2 v Θ.2.1 := by
  have h1 := hT.1.1
  obtain ⟨G1, n1, s1⟩ := W_em (v := v) hT (by omega)
  have g1 := n1.ge
  obtain ⟨o1, r1⟩ := n1.own hT
  obtain ⟨G2, n2, s2⟩ := W_pa n1.1 (by omega)
  have g2 := n2.ge
  obtain ⟨o2, r2⟩ := n2.own n1.1
  obtain ⟨o1', r1'⟩ := n2.rt o1 r1 (fun z => z)
  obtain ⟨G3, n3, s3⟩ := W_pr (k := 5) n2.1 (by omega) (by decide) o1' r1' o2 r2 (by omega)
  have g3 := n3.ge
  obtain ⟨o3, r3⟩ := n3.own n2.1
  obtain ⟨G4, n4, s4⟩ := W_wr (k := 6) n3.1 (by omega) (by decide) o3 r3
  have g4 := n4.ge
  have k34 : NW _ _ G2 G4 _ (fun _ => True) _ _ := n3.tr n4 (fun _ _ _ _ => trivial) (fun _ _ _ _ => trivial)
  have k24 : NW _ _ G1 G4 _ (fun _ => True) _ _ := n2.tr k34 (fun _ _ _ _ => trivial) (fun _ _ _ _ => trivial)
  have pz : (emT Θ v).1.2.1 = Θ.2.1 := n1.2.2.2
  refine ⟨G4, ((n1.tr n2 (H := fun _ => False) (fun _ _ _ z => z) (fun _ _ _ z => z)).tr n3 (H := fun _ => False) (fun _ _ _ z => z) (fun z z1 z2 z3 => by omega)).tr n4 (fun _ _ _ z => z) (fun z z1 z2 z3 => by omega), _, _, _, s4.st Sm.rf (by omega) (Nat.le_refl _), s3.st (n4.sm (by omega) (Nat.le_refl _)) (by omega) g4.2.2.2, s1.st (k24.sm h1 (Nat.le_refl _)) (Nat.le_refl _) (by show _ ≤ (stT Θ v).1.1; exact k24.2.1.1), ?_⟩
  have q := s2.st (k34.sm (by omega) (Nat.le_refl _)) g1.2.2.2 k34.2.1.1
  rw [pz] at q
  exact q
theorem W_wa (hT : TG Θ G) (hf : Θ.1 + 6 ≤ 640) : ∃ G1, NW Θ (waT Θ l im).1 G G1 (waT Θ l im).2 (fun _ => False) 6 1 ∧ waS (vwT (waT Θ l im).1 G1) Θ.1 (waT Θ l im).1.1 (waT Θ l im).2 l im Θ.2.1 := by
  have h1 := hT.1.1
  obtain ⟨G1, n1, s1⟩ := W_pa hT (by omega)
  have g1 := n1.ge
  obtain ⟨o1, r1⟩ := n1.own hT
  obtain ⟨G2, n2, s2⟩ := W_ex (v := 0) n1.1 (by omega)
  have g2 := n2.ge
  obtain ⟨o2, r2⟩ := n2.own n1.1
  obtain ⟨o12, r12⟩ := n2.rt o1 r1 (fun z => z)
  obtain ⟨G3, n3, -, s3⟩ := W_mk (k := 0) n2.1 (by omega) (by decide)
  have g3 := n3.ge
  obtain ⟨o3, r3⟩ := n3.own n2.1
  obtain ⟨o13, r13⟩ := n3.rt o12 r12 (fun z => z)
  obtain ⟨o23, r23⟩ := n3.rt o2 r2 (fun z => z)
  have n3 : NW (exT (paT Θ).1 0).1 (wt1 Θ).1 G2 G3 (wt1 Θ).2 (fun _ => False) 1 0 := n3
  obtain ⟨G4, n4, s4⟩ := W_ch (l := l) n3.1 (show (wt1 Θ).1.1 < 640 by have := n3.ge; omega) o23 r23 o3 r3 (by omega)
  have n4 : NW (wt1 Θ).1 (wt2 Θ l).1 G3 G4 (wt2 Θ l).2 (fun y => y = (exT (paT Θ).1 0).2 ∨ y = (wt1 Θ).2) 1 0 := n4
  have g3 := n3.ge
  have g4 := n4.ge
  obtain ⟨o4, r4⟩ := n4.own n3.1
  have o13' : 1 ≤ (paT Θ).2 ∧ (paT Θ).2 < (wt1 Θ).1.1 := o13
  obtain ⟨o14, r14⟩ := n4.rt o13' r13 (by omega)
  have h5 : ∃ G5, NW (wt2 Θ l).1 (wt3 Θ l im).1 G4 G5 (wt3 Θ l im).2 (fun y => y = (paT Θ).2 ∨ y = (wt2 Θ l).2) 1 0 ∧ ndS (vwT (wt3 Θ l im).1 G5) (wt2 Θ l).1.1 (wt3 Θ l im).1.1 (wt3 Θ l im).2 5 0 (if im = true then [(wt2 Θ l).2, (paT Θ).2] else [(paT Θ).2, (wt2 Θ l).2]) := by
    cases im with
    | true =>
      obtain ⟨G5, n5, s5⟩ := W_pr (k := 5) n4.1 (by omega) (by decide) o4 r4 o14 r14 (by omega)
      exact ⟨G5, ⟨n5.1, n5.2.1.more (fun _ _ _ z => z) (fun _ _ _ z => z.symm), n5.2.2⟩, s5⟩
    | false => exact W_pr (k := 5) n4.1 (by omega) (by decide) o14 r14 o4 r4 (by omega)
  obtain ⟨G5, n5, s5⟩ := h5
  have g5 := n5.ge
  obtain ⟨o5, r5⟩ := n5.own n4.1
  obtain ⟨G6, n6, s6⟩ := W_wr (k := 6) n5.1 (by omega) (by decide) o5 r5
  have n6 : NW (wt3 Θ l im).1 (waT Θ l im).1 G5 G6 (waT Θ l im).2 (fun y => y = (wt3 Θ l im).2) 1 0 := n6
  have g6 := n6.ge
  have k56 : NW _ _ G4 G6 _ (fun _ => True) _ _ := n5.tr n6 (fun _ _ _ _ => trivial) (fun _ _ _ _ => trivial)
  have k46 : NW _ _ G3 G6 _ (fun _ => True) _ _ := n4.tr k56 (fun _ _ _ _ => trivial) (fun _ _ _ _ => trivial)
  have k36 : NW _ _ G2 G6 _ (fun _ => True) _ _ := n3.tr k46 (fun _ _ _ _ => trivial) (fun _ _ _ _ => trivial)
  have k26 : NW _ _ G1 G6 _ (fun _ => True) _ _ := n2.tr k36 (fun _ _ _ _ => trivial) (fun _ _ _ _ => trivial)
  refine ⟨G6, ((((n1.tr n2 (H := fun _ => False) (fun _ _ _ z => z) (fun _ _ _ z => z)).tr n3 (H := fun _ => False) (fun _ _ _ z => z) (fun _ _ _ z => z)).tr n4 (H := fun _ => False) (fun _ _ _ z => z) (fun z z1 z2 z3 => by omega)).tr n5 (H := fun _ => False) (fun _ _ _ z => z) (fun z z1 z2 z3 => by omega)).tr n6 (fun _ _ _ z => z) (fun z z1 z2 z3 => by omega), _, _, _, _, _, s6.st Sm.rf (by omega) (Nat.le_refl _), s5.st (n6.sm (by omega) (Nat.le_refl _)) (by omega) g6.2.2.2, s1.st (k26.sm h1 (Nat.le_refl _)) (Nat.le_refl _) k26.2.1.1, s4.st (k56.sm (by omega) (Nat.le_refl _)) (by omega) k56.2.1.1, s2.st (k36.sm (by omega) (Nat.le_refl _)) (by omega) k36.2.1.1, s3.st (k46.sm (by omega) (Nat.le_refl _)) (by omega) k46.2.1.1⟩
end
