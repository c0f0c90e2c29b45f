/-! the tree as lists: await, weak abort, abort, every -/
/-- abort at once: a choice over it -/
def aiS (w : Vw) (lo hi x body : Nat) (l : Int32) (im : Bool) (p : Nat) : Prop := if im = true then ∃ no y, ndS w lo hi x 4 l [no, y] ∧ lfS w lo hi no 0 0 ∧ abS w lo hi y body l p else abS w lo hi x body l p
section
variable {Θ Θ1 Θ2 : TrT} {G G1 G2 : Nat → List Nat} {O H H1 H2 : Nat → Prop} {x y a c d v m1 m2 p1 p2 lo hi : Nat} {k l : Int32} {im : Bool} {cs : List Nat}
theorem W_aw (hT : TG Θ G) (hf : Θ.1 + 7 ≤ 640) : ∃ G1, NW Θ (awT Θ l im).1 G G1 (awT Θ l im).2 (fun _ => False) 7 1 ∧ awS (vwT (awT Θ l im).1 G1) Θ.1 (awT Θ l im).1.1 (awT Θ l im).2 l im Θ.2.1 := by
  have h1 := hT.1.1
  obtain ⟨G1, n1, s1⟩ := W_wa (l := l) (im := im) hT (by omega)
  have g1 := n1.ge
  obtain ⟨o1, r1⟩ := n1.own hT
  obtain ⟨G2, n2, s2⟩ := W_wr (k := 9) n1.1 (by omega) (by decide) o1 r1
  have n2 : NW (waT Θ l im).1 (awT Θ l im).1 G1 G2 (awT Θ l im).2 (fun y => y = (waT Θ l im).2) 1 0 := n2
  have g2 := n2.ge
  exact ⟨G2, n1.tr n2 (fun _ _ _ z => z) (fun z z1 z2 z3 => by omega), _, s2.st Sm.rf g1.2.2.2 (Nat.le_refl _), s1.st (n2.sm h1 (Nat.le_refl _)) (Nat.le_refl _) g2.2.2.2⟩
theorem W_wk (hT : TG Θ G) (hf : Θ.1 + 10 ≤ 640) (hc : 1 ≤ c ∧ c < Θ.1) (rc : Θ.2.2 9 c = 0) : ∃ G1, NW Θ (wkT Θ c l im).1 G G1 (wkT Θ c l im).2 (fun y => y = c) 10 1 ∧ wkS (vwT (wkT Θ c l im).1 G1) Θ.1 (wkT Θ c l im).1.1 (wkT Θ c l im).2 c l im Θ.2.1 := by
  have h1 := hT.1.1
  obtain ⟨G1, n1, s1⟩ := W_ex (v := 0) hT (by omega)
  have g1 := n1.ge
  obtain ⟨o1, r1⟩ := n1.own hT
  obtain ⟨oc, rc1⟩ := n1.rt hc rc (fun z => z)
  obtain ⟨G2, n2, s2⟩ := W_pr (k := 5) n1.1 (by omega) (by decide) oc rc1 o1 r1 (by omega)
  have n2 : NW (exT Θ 0).1 (wk1 Θ c).1 G1 G2 (wk1 Θ c).2 (fun y => y = c ∨ y = (exT Θ 0).2) 1 0 := n2
  have s2 : ndS (vwT (wk1 Θ c).1 G2) (exT Θ 0).1.1 (wk1 Θ c).1.1 (wk1 Θ c).2 5 0 [c, (exT Θ 0).2] := s2
  have g2 := n2.ge
  obtain ⟨o2, r2⟩ := n2.own n1.1
  obtain ⟨G3, n3, s3⟩ := W_wa (l := l) (im := im) n2.1 (by omega)
  have n3 : NW (wk1 Θ c).1 (wk2 Θ c l im).1 G2 G3 (wk2 Θ c l im).2 (fun _ => False) 6 1 := n3
  have s3 : waS (vwT (wk2 Θ c l im).1 G3) (wk1 Θ c).1.1 (wk2 Θ c l im).1.1 (wk2 Θ c l im).2 l im (wk1 Θ c).1.2.1 := s3
  have g3 := n3.ge
  obtain ⟨o3, r3⟩ := n3.own n2.1
  obtain ⟨o23, r23⟩ := n3.rt o2 r2 (fun z => z)
  obtain ⟨G4, n4, s4⟩ := W_pr (k := 8) n3.1 (by omega) (by decide) o23 r23 o3 r3 (by omega)
  have n4 : NW (wk2 Θ c l im).1 (wk3 Θ c l im).1 G3 G4 (wk3 Θ c l im).2 (fun y => y = (wk1 Θ c).2 ∨ y = (wk2 Θ c l im).2) 1 0 := n4
  have s4 : ndS (vwT (wk3 Θ c l im).1 G4) (wk2 Θ c l im).1.1 (wk3 Θ c l im).1.1 (wk3 Θ c l im).2 8 0 [(wk1 Θ c).2, (wk2 Θ c l im).2] := s4
  have g4 := n4.ge
  obtain ⟨o4, r4⟩ := n4.own n3.1
  obtain ⟨G5, n5, s5⟩ := W_wr (k := 9) n4.1 (by omega) (by decide) o4 r4
  have n5 : NW (wk3 Θ c l im).1 (wkT Θ c l im).1 G4 G5 (wkT Θ c l im).2 (fun y => y = (wk3 Θ c l im).2) 1 0 := n5
  have g5 := n5.ge
  have k45 : NW _ _ G3 G5 _ (fun _ => True) _ _ := n4.tr n5 (fun _ _ _ _ => trivial) (fun _ _ _ _ => trivial)
  have k35 : NW _ _ G2 G5 _ (fun _ => True) _ _ := n3.tr k45 (fun _ _ _ _ => trivial) (fun _ _ _ _ => trivial)
  have k25 : NW _ _ G1 G5 _ (fun _ => True) _ _ := n2.tr k35 (fun _ _ _ _ => trivial) (fun _ _ _ _ => trivial)
  have pz : (wk1 Θ c).1.2.1 = Θ.2.1 := n2.2.2.2.trans n1.2.2.2
  refine ⟨G5, (((n1.tr n2 (H := fun y => y = c) (fun _ _ _ z => z.elim) (fun z z1 z2 z3 => by omega)).tr n3 (H := fun y => y = c) (fun _ _ _ z => z) (fun _ _ _ z => z.elim)).tr n4 (H := fun y => y = c) (fun _ _ _ z => z) (fun z z1 z2 z3 => by omega)).tr n5 (fun _ _ _ z => z) (fun z z1 z2 z3 => by omega), _, _, _, _, s5.st Sm.rf (by omega) (Nat.le_refl _), s4.st (n5.sm (by omega) (Nat.le_refl _)) (by omega) g5.2.2.2, s2.st (k35.sm (by omega) (Nat.le_refl _)) (by omega) k35.2.1.1, s1.st (k25.sm h1 (Nat.le_refl _)) (Nat.le_refl _) k25.2.1.1, ?_⟩
  have q := s3.st (k45.sm (by omega) (Nat.le_refl _)) (show Θ.1 ≤ _ by omega) k45.2.1.1
  rw [pz] at q
  exact q
theorem W_ab (hT : TG Θ G) (hf : Θ.1 + 11 ≤ 640) (hc : 1 ≤ c ∧ c < Θ.1) (rc : Θ.2.2 9 c = 0) : ∃ G1, NW Θ (abT Θ c l).1 G G1 (abT Θ c l).2 (fun y => y = c) 11 1 ∧ abS (vwT (abT Θ c l).1 G1) Θ.1 (abT Θ c l).1.1 (abT Θ c l).2 c l Θ.2.1 := by
  have h1 := hT.1.1
  obtain ⟨G1, n1, s1⟩ := W_su (l := l) hT (by omega) hc rc
  have g1 := n1.ge
  obtain ⟨o1, r1⟩ := n1.own hT
  obtain ⟨G2, n2, s2⟩ := W_wk (l := l) (im := false) n1.1 (by omega) o1 r1
  have n2 : NW (suT Θ c l).1 (abT Θ c l).1 G1 G2 (abT Θ c l).2 (fun y => y = (suT Θ c l).2) 10 1 := n2
  have s2 : wkS (vwT (abT Θ c l).1 G2) (suT Θ c l).1.1 (abT Θ c l).1.1 (abT Θ c l).2 (suT Θ c l).2 l false (suT Θ c l).1.2.1 := s2
  have g2 := n2.ge
  have pz : (suT Θ c l).1.2.1 = Θ.2.1 := n1.2.2.2
  refine ⟨G2, n1.tr n2 (fun _ _ _ z => z) (fun z z1 z2 z3 => by omega), _, s1.st (n2.sm h1 (Nat.le_refl _)) (Nat.le_refl _) g2.2.2.2, ?_⟩
  rw [pz] at s2
  exact s2.st Sm.rf g1.2.2.2 (Nat.le_refl _)
theorem aiS_f {w : Vw} : aiS w lo hi x y l false p1 = abS w lo hi x y l p1 := if_neg Bool.false_ne_true
theorem aiS_t {w : Vw} : aiS w lo hi x y l true p1 = ∃ no z, ndS w lo hi x 4 l [no, z] ∧ lfS w lo hi no 0 0 ∧ abS w lo hi z y l p1 := if_pos rfl
theorem NW.mo (h : NW Θ Θ1 G G1 x H m1 p1) (hm : m1 ≤ m2) : NW Θ Θ1 G G1 x H m2 p1 := ⟨h.1, h.2.1, ⟨h.2.2.1.1, h.2.2.1.2.1, h.2.2.1.2.2.1, by have := h.2.2.1.2.2.2; omega⟩, h.2.2.2⟩
theorem W_ai (hT : TG Θ G) (hf : Θ.1 + 13 ≤ 640) (hc : 1 ≤ c ∧ c < Θ.1) (rc : Θ.2.2 9 c = 0) : ∃ G1, NW Θ (abF Θ c l im).1 G G1 (abF Θ c l im).2 (fun y => y = c) 13 1 ∧ aiS (vwT (abF Θ c l im).1 G1) Θ.1 (abF Θ c l im).1.1 (abF Θ c l im).2 c l im Θ.2.1 := by
  have h1 := hT.1.1
  obtain ⟨G1, n1, s1⟩ := W_ab (l := l) hT (by omega) hc rc
  have eF : abF Θ c l false = abT Θ c l := if_neg Bool.false_ne_true
  have eT : abF Θ c l true = chT (mkT (abT Θ c l).1 0).1 l (mkT (abT Θ c l).1 0).2 (abT Θ c l).2 := if_pos rfl
  generalize abF Θ c l = F at eF eT ⊢
  generalize abT Θ c l = A at n1 s1 eF eT
  have g1 := n1.ge
  obtain ⟨o1, r1⟩ := n1.own hT
  cases im with
  | false => rw [eF]; exact ⟨G1, n1.mo (by decide), by rw [aiS_f]; exact s1⟩
  | true =>
    rw [eT]
    obtain ⟨G2, n2, -, s2⟩ := W_mk (k := 0) n1.1 (by omega) (by decide)
    have g2 := n2.ge
    obtain ⟨o2, r2⟩ := n2.own n1.1
    obtain ⟨o12, r12⟩ := n2.rt o1 r1 (fun z => z)
    generalize mkT A.1 0 = B at n2 s2 g2 o2 r2 o12 r12 ⊢
    obtain ⟨G3, n3, s3⟩ := W_ch (l := l) n2.1 (by omega) o2 r2 o12 r12 (by omega)
    generalize chT B.1 l B.2 A.2 = C at n3 s3 ⊢
    have g3 := n3.ge
    have k23 : NW _ _ G1 G3 _ (fun _ => True) _ _ := n2.tr n3 (fun _ _ _ _ => trivial) (fun _ _ _ _ => trivial)
    refine ⟨G3, (n1.tr n2 (H := fun y => y = c) (fun _ _ _ z => z) (fun _ _ _ z => z.elim)).tr n3 (fun _ _ _ z => z) (fun z z1 z2 z3 => by omega), ?_⟩
    rw [aiS_t]
    exact ⟨_, _, s3.st Sm.rf (by omega) (Nat.le_refl _), s2.st (n3.sm (by omega) (Nat.le_refl _)) g1.2.2.2 g3.2.2.2, s1.st (k23.sm h1 (Nat.le_refl _)) (Nat.le_refl _) k23.2.1.1⟩
theorem W_ev (hT : TG Θ G) (hf : Θ.1 + 16 ≤ 640) (hc : 1 ≤ c ∧ c < Θ.1) (rc : Θ.2.2 9 c = 0) (hd : 1 ≤ d ∧ d < Θ.1) (rd : Θ.2.2 9 d = 0) (hne : c ≠ d) : ∃ G1, NW Θ (evT Θ c d l).1 G G1 (evT Θ c d l).2 (fun y => y = c ∨ y = d) 16 2 ∧ evS (vwT (evT Θ c d l).1 G1) Θ.1 (evT Θ c d l).1.1 (evT Θ c d l).2 c d l Θ.2.1 (Θ.2.1 + 1) := by
  have h1 := hT.1.1
  obtain ⟨G1, n1, s1⟩ := W_ha hT (by omega)
  have g1 := n1.ge
  obtain ⟨o1, r1⟩ := n1.own hT
  obtain ⟨oc1, rc1⟩ := n1.rt hc rc (fun z => z)
  obtain ⟨od1, rd1⟩ := n1.rt hd rd (fun z => z)
  obtain ⟨G2, n2, s2⟩ := W_pr (k := 5) n1.1 (by omega) (by decide) oc1 rc1 o1 r1 (by omega)
  have n2 : NW (haT Θ).1 (ev1 Θ c).1 G1 G2 (ev1 Θ c).2 (fun y => y = c ∨ y = (haT Θ).2) 1 0 := n2
  have s2 : ndS (vwT (ev1 Θ c).1 G2) (haT Θ).1.1 (ev1 Θ c).1.1 (ev1 Θ c).2 5 0 [c, (haT Θ).2] := s2
  have g2 := n2.ge
  obtain ⟨o2, r2⟩ := n2.own n1.1
  obtain ⟨od2, rd2⟩ := n2.rt od1 rd1 (by omega)
  obtain ⟨G3, n3, s3⟩ := W_ab (l := l) n2.1 (by omega) o2 r2
  have n3 : NW (ev1 Θ c).1 (ev2 Θ c l).1 G2 G3 (ev2 Θ c l).2 (fun y => y = (ev1 Θ c).2) 11 1 := n3
  have s3 : abS (vwT (ev2 Θ c l).1 G3) (ev1 Θ c).1.1 (ev2 Θ c l).1.1 (ev2 Θ c l).2 (ev1 Θ c).2 l (ev1 Θ c).1.2.1 := s3
  have g3 := n3.ge
  obtain ⟨o3, r3⟩ := n3.own n2.1
  obtain ⟨od3, rd3⟩ := n3.rt od2 rd2 (by omega)
  obtain ⟨G4, n4, s4⟩ := W_wr (k := 6) n3.1 (by omega) (by decide) o3 r3
  have n4 : NW (ev2 Θ c l).1 (ev3 Θ c l).1 G3 G4 (ev3 Θ c l).2 (fun y => y = (ev2 Θ c l).2) 1 0 := n4
  have s4 : ndS (vwT (ev3 Θ c l).1 G4) (ev2 Θ c l).1.1 (ev3 Θ c l).1.1 (ev3 Θ c l).2 6 0 [(ev2 Θ c l).2] := s4
  have g4 := n4.ge
  obtain ⟨o4, r4⟩ := n4.own n3.1
  obtain ⟨od4, rd4⟩ := n4.rt od3 rd3 (by omega)
  obtain ⟨G5, n5, s5⟩ := W_pr (k := 5) n4.1 (by omega) (by decide) od4 rd4 o4 r4 (by omega)
  have n5 : NW (ev3 Θ c l).1 (evT Θ c d l).1 G4 G5 (evT Θ c d l).2 (fun y => y = d ∨ y = (ev3 Θ c l).2) 1 0 := n5
  have s5 : ndS (vwT (evT Θ c d l).1 G5) (ev3 Θ c l).1.1 (evT Θ c d l).1.1 (evT Θ c d l).2 5 0 [d, (ev3 Θ c l).2] := s5
  have g5 := n5.ge
  have k45 : NW _ _ G3 G5 _ (fun _ => True) _ _ := n4.tr n5 (fun _ _ _ _ => trivial) (fun _ _ _ _ => trivial)
  have k35 : NW _ _ G2 G5 _ (fun _ => True) _ _ := n3.tr k45 (fun _ _ _ _ => trivial) (fun _ _ _ _ => trivial)
  have k25 : NW _ _ G1 G5 _ (fun _ => True) _ _ := n2.tr k35 (fun _ _ _ _ => trivial) (fun _ _ _ _ => trivial)
  have pz : (ev1 Θ c).1.2.1 = Θ.2.1 + 1 := n2.2.2.2.trans n1.2.2.2
  rw [pz] at s3
  exact ⟨G5, (((n1.tr n2 (H := fun y => y = c ∨ y = d) (fun _ _ _ z => z.elim) (fun z z1 z2 z3 => by omega)).tr n3 (H := fun y => y = c ∨ y = d) (fun _ _ _ z => z) (fun z z1 z2 z3 => by omega)).tr n4 (H := fun y => y = c ∨ y = d) (fun _ _ _ z => z) (fun z z1 z2 z3 => by omega)).tr n5 (fun _ _ _ z => z) (fun z z1 z2 z3 => by omega), _, _, _, _, s5.st Sm.rf (by omega) (Nat.le_refl _), s4.st (n5.sm (by omega) (Nat.le_refl _)) (by omega) g5.2.2.2, s3.st (k45.sm (by omega) (Nat.le_refl _)) (by omega) k45.2.1.1, s2.st (k35.sm (by omega) (Nat.le_refl _)) (by omega) k35.2.1.1, s1.st (k25.sm h1 (Nat.le_refl _)) (Nat.le_refl _) k25.2.1.1⟩
end
