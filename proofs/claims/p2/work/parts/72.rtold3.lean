/-! the reference reads all that the text tells -/
section
variable {b : Nat → Int32} {n s m : Nat} {h : Nat} {Q : Option Value → Mem → Prop}
def EndT (b : Nat → Int32) (n s m : Nat) (M : Mem) (Q : Option Value → Mem → Prop) (R : Except (Int32 × Nat) (Nat × Td)) : Prop := match R with
  | .ok r => ∀ M', RT b n s m r.2 M' r.1 → tK b n r.1 ≠ 0 → RGt m M M' → Q none M'
  | .error e => ∀ M', TXr M' e.1 e.2 → RGt m M M' → Q none M'
theorem EndT.fr {M M1 : Mem} {R : Except (Int32 × Nat) (Nat × Td)} (hE : EndT b n s m M Q R) (F : RGt m M M1) : EndT b n s m M1 Q R := by
  cases R with
  | error e => exact fun M' T' F' => hE M' T' (F.tr F')
  | ok r => exact fun M' R' k' F' => hE M' R' k' (F.tr F')
theorem TXr.n0 {M : Mem} {f : Int32} {p : Nat} (hT : TXr M f p) : ¬ mI M 29 6 = 0 := by rw [hT.2.1]; intro z; have := hT.2.2.1; rw [z] at this; exact absurd this (by decide)
theorem X_toldL {M : Mem} {f : Int32} {p : Nat} {x : Int32} (hT : TXr M f p) (H : Q none M) : T (h + 1) mdX11_readTold 2 [(0, .ref 29), (1, .int x)] [] M Q := by
  refine VX11_readTold_2 ?_
  unfold DX11_readTold_2 DX11_readTold_144
  exact ⟨fun _ => H, fun _ => ⟨ok29 hT.1, fun _ => H, fun z => absurd z hT.n0⟩⟩
theorem X_told133 {M : Mem} {f : Int32} {p : Nat} {x : Int32} (hT : TXr M f p) (H : Q none M) : DX11_readTold_133 (h + 1) 29 x M Q := by
  unfold DX11_readTold_133 DX11_readTold_141
  exact ⟨ok29 hT.1, X_want hT (fun _ => ⟨rfl, X_toldL hT H⟩)⟩
theorem ex_lt {b : Nat → Int32} {n s i : Nat} {c : Int32} (hS : Sto b n s) (hi : i ≤ s) (h0 : tK b n i ≠ 0) (hc : c ≠ 1) : match ex b n i c with
  | .error e => e.1 ≠ 0
  | .ok j => j = i + 1 ∧ j ≤ s ∧ tK b n j ≠ 0 := by
  unfold ex
  by_cases q : tK b n i = c
  · rw [if_pos q]; exact adv_ok1 (hS.lt hi h0 (by rw [q]; exact hc))
  · rw [if_neg q]; show (2 : Int32) ≠ 0; decide
theorem tdH_ok {b : Nat → Int32} {n s i : Nat} (hS : Sto b n s) (hi : i ≤ s) (h0 : tK b n i ≠ 0) : StOk b n s i (fun _ v => v ≠ 32) (tdH b n i) := by
  unfold tdH
  split
  · rename_i q
    have hs := hS.lt hi h0 (by rw [q]; decide)
    rcases adv_cases (b := b) (n := n) (i := i) with ⟨k1, e⟩ | ⟨k1, e⟩ <;> rw [e]
    · show (1 : Int32) ≠ 0; decide
    · show StOk b n s i _ (if tK b n (i + 1) = 33 ∨ tK b n (i + 1) = 34 ∨ tK b n (i + 1) = 35 then (adv' b n (i + 1)).bind fun l => .ok (l, tK b n (i + 1)) else .error (2, tP b n (i + 1)))
      split
      · rename_i q2
        have hs1 := hS.lt hs k1 (by rcases q2 with z | z | z <;> (rw [z]; decide))
        rcases adv_cases (b := b) (n := n) (i := i + 1) with ⟨k2, e2⟩ | ⟨k2, e2⟩ <;> rw [e2]
        · show (1 : Int32) ≠ 0; decide
        · exact ⟨by show i ≤ i + 1 + 1; omega, hs1, k2, by rcases q2 with z | z | z <;> (show tK b n (i + 1) ≠ 32; rw [z]; decide)⟩
      · show (2 : Int32) ≠ 0; decide
  · exact ⟨Nat.le_refl _, hi, h0, by show (0 : Int32) ≠ 32; decide⟩
theorem tdV_ok {b : Nat → Int32} {n s i : Nat} (hS : Sto b n s) (hi : i ≤ s) (h0 : tK b n i ≠ 0) : StOk b n s i (fun _ _ => True) (tdV b n i) := by
  unfold tdV
  have hx := ex_lt (c := 5) hS hi h0 (by decide)
  generalize ex b n i 5 = R at hx
  cases R with
  | error e => exact hx
  | ok k =>
    obtain ⟨k1, k2, k3⟩ := hx
    show StOk b n s i _ (if tK b n k = 21 then (adv' b n k).bind fun l => if tK b n l = 3 then (adv' b n l).bind fun p => .ok (p, -(tC b n l)) else .error (2, tP b n l) else if tK b n k = 3 then (adv' b n k).bind fun p => .ok (p, tC b n k) else .error (2, tP b n k))
    split
    · rename_i q
      have hs := hS.lt k2 k3 (by rw [q]; decide)
      rcases adv_cases (b := b) (n := n) (i := k) with ⟨j1, e⟩ | ⟨j1, e⟩ <;> rw [e]
      · show (1 : Int32) ≠ 0; decide
      · show StOk b n s i _ (if tK b n (k + 1) = 3 then (adv' b n (k + 1)).bind fun p => .ok (p, -(tC b n (k + 1))) else .error (2, tP b n (k + 1)))
        split
        · rename_i q2
          have hs1 := hS.lt hs j1 (by rw [q2]; decide)
          rcases adv_cases (b := b) (n := n) (i := k + 1) with ⟨j2, e2⟩ | ⟨j2, e2⟩ <;> rw [e2]
          · show (1 : Int32) ≠ 0; decide
          · exact ⟨by show i ≤ k + 1 + 1; omega, hs1, j2, trivial⟩
        · show (2 : Int32) ≠ 0; decide
    · split
      · rename_i q
        have hs := hS.lt k2 k3 (by rw [q]; decide)
        rcases adv_cases (b := b) (n := n) (i := k) with ⟨j1, e⟩ | ⟨j1, e⟩ <;> rw [e]
        · show (1 : Int32) ≠ 0; decide
        · exact ⟨by show i ≤ k + 1; omega, hs, j1, trivial⟩
      · show (2 : Int32) ≠ 0; decide
theorem so_lt : ∀ r : Int32, r = 30 ∨ r = 31 ∨ r = 32 ∨ r = 36 → (¬ (4 : Int32) ≤ rSo r) ∧ (((3 : Int32) ≤ rSo r) ↔ r = 36) := by rintro r (rfl | rfl | rfl | rfl) <;> decide
/-- one that is told: from its first token on -/
theorem T_one {M : Mem} {i : Nat} {τ : Td} {r : Int32} {g : Nat} (hB : By b) (hS : Sto b n s) (hR : RT b n s m τ M i) (hr : r = 30 ∨ r = 31 ∨ r = 32 ∨ r = 36) (hk : tK b n i = r) (hT : ∀ M' j τ', RT b n s m τ' M' j → tK b n j ≠ 0 → i < j → RGt m M M' → EndT b n s m M' Q (td b n g j τ') → T (h + 6) mdX11_readTold 2 [(0, .ref 29), (1, .int 1)] [] M' Q) (hE : EndT b n s m M Q (td b n (g + 1) i τ)) : DX11_readTold_74 (h + 5) 29 (rSo r) M Q := by
  have F := hR.1.1
  have h0 : tK b n i ≠ 0 := by rw [hk]; rcases hr with z | z | z | z <;> (rw [z]; decide)
  have hs := hS.lt hR.2.1.2.2 h0 (by rw [hk]; rcases hr with z | z | z | z <;> (rw [z]; decide))
  obtain ⟨s4, s3⟩ := so_lt r hr
  have bad : ∀ (M1 : Mem) (f : Int32) (p : Nat), TXr M1 f p → RGt m M M1 → Q none M1 → DX11_readTold_106 (h + 5) 29 1 (rSo r) M1 Q := by
    intro M1 f p T1 F1 K
    unfold DX11_readTold_106
    exact ⟨ok29 T1.1, fun _ => X_told133 (h := h + 4) T1 K, fun z => absurd z T1.n0⟩
  -- behind the reading of what follows the name
  have semi : ∀ (M1 : Mem) (j : Nat) (τ' : Td), RT b n s m τ' M1 j → tK b n j ≠ 0 → i < j → RGt m M M1 → (match ex b n j 13 with | .ok l => EndT b n s m M Q (td b n g l τ') | .error e => EndT b n s m M Q (.error e)) → DX11_readTold_133 (h + 5) 29 1 M1 Q := by
    intro M1 j τ' R1 k1 hj F1 K
    unfold DX11_readTold_133 DX11_readTold_141
    refine ⟨ok29 R1.1.1, T_want (h := h + 2) R1 hB hS k1 (k := 13) (by decide) rfl ?_⟩
    have hx := ex_lt (c := 13) hS R1.2.1.2.2 k1 (by decide)
    generalize ex b n j 13 = R at K hx
    cases R with
    | error e => exact fun M2 T2 F2 _ => ⟨rfl, X_toldL (h := h + 5) T2 (K M2 T2 (F1.tr F2))⟩
    | ok l => exact fun M2 R2 F2 _ => ⟨rfl, hT M2 l τ' R2 hx.2.2 (by omega) (F1.tr F2) (EndT.fr K (F1.tr F2))⟩
  unfold DX11_readTold_74 DX11_readTold_85
  refine ⟨fun z => absurd z s4, fun _ => ⟨fun z => absurd z (by decide), fun _ => ⟨ok29 F, ?_⟩⟩⟩
  refine T_take (h := h + 3) hR hB hs (fun k1 M1 R1 F1 _ => ⟨rfl, fun z => absurd R1.2.2.2.1 z, fun _ => ?_⟩) (fun k1 M1 T1 F1 _ => ⟨rfl, fun _ => bad M1 1 _ T1 F1 ?_, fun z => absurd z T1.n0⟩)
  · -- what td says, at the name
    have hE2 : EndT b n s m M Q ((tdX b n (i + 1) r τ).bind fun k => if r = 36 then (tdV b n k).bind fun q => (ex b n q.1 13).bind fun l => td b n g l (τ.1, τ.2.1, τ.2.2.1, τ.2.2.2.1 ++ [tC b n (i + 1)], τ.2.2.2.2 ++ [q.2]) else (tdH b n k).bind fun q => (ex b n q.1 13).bind fun l => td b n g l (τ.1 ++ [tC b n (i + 1)], τ.2.1 ++ [r], τ.2.2.1 ++ [q.2], τ.2.2.2.1, τ.2.2.2.2)) := by
      unfold td at hE
      rw [hk, adv_ok' k1] at hE
      by_cases z : r = 36
      · rw [if_pos z] at hE
        have e : (fun k => if r = 36 then (tdV b n k).bind fun q => (ex b n q.1 13).bind fun l => td b n g l (τ.1, τ.2.1, τ.2.2.1, τ.2.2.2.1 ++ [tC b n (i + 1)], τ.2.2.2.2 ++ [q.2]) else (tdH b n k).bind fun q => (ex b n q.1 13).bind fun l => td b n g l (τ.1 ++ [tC b n (i + 1)], τ.2.1 ++ [r], τ.2.2.1 ++ [q.2], τ.2.2.2.1, τ.2.2.2.2)) = (fun k => (tdV b n k).bind fun q => (ex b n q.1 13).bind fun l => td b n g l (τ.1, τ.2.1, τ.2.2.1, τ.2.2.2.1 ++ [tC b n (i + 1)], τ.2.2.2.2 ++ [q.2])) := by funext k; rw [if_pos z]
        rw [e, z]
        exact hE
      · have z2 : r = 30 ∨ r = 31 ∨ r = 32 := by rcases hr with y | y | y | y <;> first | exact Or.inl y | exact Or.inr (Or.inl y) | exact Or.inr (Or.inr y) | exact absurd y z
        rw [if_neg z, if_pos z2] at hE
        have e : (fun k => if r = 36 then (tdV b n k).bind fun q => (ex b n q.1 13).bind fun l => td b n g l (τ.1, τ.2.1, τ.2.2.1, τ.2.2.2.1 ++ [tC b n (i + 1)], τ.2.2.2.2 ++ [q.2]) else (tdH b n k).bind fun q => (ex b n q.1 13).bind fun l => td b n g l (τ.1 ++ [tC b n (i + 1)], τ.2.1 ++ [r], τ.2.2.1 ++ [q.2], τ.2.2.2.1, τ.2.2.2.2)) = (fun k => (tdH b n k).bind fun q => (ex b n q.1 13).bind fun l => td b n g l (τ.1 ++ [tC b n (i + 1)], τ.2.1 ++ [r], τ.2.2.1 ++ [q.2], τ.2.2.2.1, τ.2.2.2.2)) := by funext k; rw [if_neg z]
        rw [e]
        exact hE
    clear hE
    unfold tdX at hE2
    refine T_name (h := h + 2) R1 hB hr (fun q2 q3 q6 M2 R2 F2 => ?_) (fun q2 M2 T2 F2 _ => ⟨rfl, bad M2 2 _ T2 (F1.tr F2) ?_⟩) (fun q2 q3 M2 T2 F2 _ => ⟨rfl, bad M2 3 _ T2 (F1.tr F2) ?_⟩) (fun q2 q3 q6 M2 T2 F2 _ => ⟨rfl, bad M2 6 _ T2 (F1.tr F2) ?_⟩)
    · rw [if_pos q2, if_neg (by rw [q3]; decide), if_neg (by rw [q6]; decide)] at hE2
      have hs1 := hS.lt hs k1 (by rw [q2]; decide)
      refine fun _ => ⟨rfl, ?_⟩
      unfold DX11_readTold_106
      refine ⟨ok29 R2.1.1, fun z => absurd R2.2.2.2.1 z, fun _ => ?_⟩
      refine T_take (h := h + 3) R2 hB hs1 (fun k2 M3 R3 F3 _ => ⟨rfl, fun z => ?_, fun z => ?_⟩) (fun k2 M3 T3 F3 _ => ⟨rfl, fun z => ?_, fun z => ?_⟩)
      · have y : r = 36 := s3.mp z
        rw [adv_ok' k2] at hE2
        have hE3 : EndT b n s m M Q (if r = 36 then (tdV b n (i + 1 + 1)).bind fun q => (ex b n q.1 13).bind fun l => td b n g l (τ.1, τ.2.1, τ.2.2.1, τ.2.2.2.1 ++ [tC b n (i + 1)], τ.2.2.2.2 ++ [q.2]) else (tdH b n (i + 1 + 1)).bind fun q => (ex b n q.1 13).bind fun l => td b n g l (τ.1 ++ [tC b n (i + 1)], τ.2.1 ++ [r], τ.2.2.1 ++ [q.2], τ.2.2.2.1, τ.2.2.2.2)) := hE2
        rw [if_pos y] at hE3
        have eu : upN b n (i + 1) r τ = (τ.1, τ.2.1, τ.2.2.1, τ.2.2.2.1 ++ [tC b n (i + 1)], τ.2.2.2.2 ++ [0]) := by unfold upN; rw [if_pos y]
        rw [eu] at R3
        refine T_first (h := h + 1) (vB0 := τ.2.2.2.2) rfl R3 hB hS k2 ?_
        have hok := tdV_ok hS hs1 k2
        generalize tdV b n (i + 1 + 1) = R at hE3 hok
        cases R with
        | error e => exact fun M4 T4 F4 _ => ⟨rfl, X_told133 (h := h + 4) T4 (hE3 M4 T4 (((F1.tr F2).tr F3).tr F4))⟩
        | ok q =>
          intro M4 R4 F4
          refine fun _ => ⟨rfl, semi M4 q.1 _ R4 hok.2.2.1 (by have := hok.1; omega) (((F1.tr F2).tr F3).tr F4) ?_⟩
          have ed : (τ.2.2.2.2 ++ [(0 : Int64)]).dropLast = τ.2.2.2.2 := dropLast_snoc
          have hE3 : EndT b n s m M Q ((ex b n q.1 13).bind fun l => td b n g l (τ.1, τ.2.1, τ.2.2.1, τ.2.2.2.1 ++ [tC b n (i + 1)], τ.2.2.2.2 ++ [q.2])) := hE3
          dsimp only
          rw [ed]
          generalize ex b n q.1 13 = R2 at hE3
          cases R2 with
          | error e => exact hE3
          | ok l => exact hE3
      · have y : r ≠ 36 := fun w => z (s3.mpr w)
        rw [adv_ok' k2] at hE2
        have hE3 : EndT b n s m M Q (if r = 36 then (tdV b n (i + 1 + 1)).bind fun q => (ex b n q.1 13).bind fun l => td b n g l (τ.1, τ.2.1, τ.2.2.1, τ.2.2.2.1 ++ [tC b n (i + 1)], τ.2.2.2.2 ++ [q.2]) else (tdH b n (i + 1 + 1)).bind fun q => (ex b n q.1 13).bind fun l => td b n g l (τ.1 ++ [tC b n (i + 1)], τ.2.1 ++ [r], τ.2.2.1 ++ [q.2], τ.2.2.2.1, τ.2.2.2.2)) := hE2
        rw [if_neg y] at hE3
        have eu : upN b n (i + 1) r τ = (τ.1 ++ [tC b n (i + 1)], τ.2.1 ++ [r], τ.2.2.1 ++ [0], τ.2.2.2.1, τ.2.2.2.2) := by unfold upN; rw [if_neg y]
        rw [eu] at R3
        refine T_how (h := h + 2) (mx0 := τ.2.2.1) rfl R3 hB hS k2 ?_
        have hok := tdH_ok hS hs1 k2
        generalize tdH b n (i + 1 + 1) = R at hE3 hok
        cases R with
        | error e => exact fun M4 T4 F4 _ => ⟨rfl, X_told133 (h := h + 4) T4 (hE3 M4 T4 (((F1.tr F2).tr F3).tr F4))⟩
        | ok q =>
          intro M4 R4 F4
          refine fun _ => ⟨rfl, semi M4 q.1 _ R4 hok.2.2.1 (by have := hok.1; omega) (((F1.tr F2).tr F3).tr F4) ?_⟩
          have ed : (τ.2.2.1 ++ [(0 : Int32)]).dropLast = τ.2.2.1 := dropLast_snoc
          have hE3 : EndT b n s m M Q ((ex b n q.1 13).bind fun l => td b n g l (τ.1 ++ [tC b n (i + 1)], τ.2.1 ++ [r], τ.2.2.1 ++ [q.2], τ.2.2.2.1, τ.2.2.2.2)) := hE3
          dsimp only
          rw [ed]
          generalize ex b n q.1 13 = R2 at hE3
          cases R2 with
          | error e => exact hE3
          | ok l => exact hE3
      · rw [adv_er' k2] at hE2
        have y := hE2 M3 T3 ((F1.tr F2).tr F3)
        refine KX11_readFirst ?_
        unfold DX11_readFirst_0
        exact ⟨ok29 T3.1, X_want (h := h + 3) T3 (fun _ => ⟨rfl, fun _ => X_first T3 (fun _ => ⟨rfl, X_told133 (h := h + 4) T3 y⟩), fun z => absurd z T3.n0⟩)⟩
      · rw [adv_er' k2] at hE2
        have y := hE2 M3 T3 ((F1.tr F2).tr F3)
        refine KX11_readHow ?_
        unfold DX11_readHow_0 DX11_readHow_126
        exact ⟨ok29 T3.1, fun _ _ => ⟨rfl, X_told133 (h := h + 4) T3 y⟩, fun z => absurd z T3.n0⟩
    · rw [if_neg q2] at hE2
      exact hE2 M2 T2 (F1.tr F2)
    · rw [if_pos q2, if_pos q3] at hE2
      exact hE2 M2 T2 (F1.tr F2)
    · rw [if_pos q2, if_neg (by rw [q3]; decide), if_pos q6] at hE2
      exact hE2 M2 T2 (F1.tr F2)
  · unfold td at hE
    rw [hk, adv_er' k1] at hE
    by_cases z : r = 36
    · rw [if_pos z] at hE; exact hE M1 T1 F1
    · have z2 : r = 30 ∨ r = 31 ∨ r = 32 := by rcases hr with y | y | y | y <;> first | exact Or.inl y | exact Or.inr (Or.inl y) | exact Or.inr (Or.inr y) | exact absurd y z
      rw [if_neg z, if_pos z2] at hE; exact hE M1 T1 F1
theorem T_told (hB : By b) (hS : Sto b n s) : ∀ (g : Nat) (M : Mem) (i : Nat) (τ : Td), s + 1 - i ≤ g → RT b n s m τ M i → tK b n i ≠ 0 → EndT b n s m M Q (td b n g i τ) → T (h + 6) mdX11_readTold 2 [(0, .ref 29), (1, .int 1)] [] M Q := by
  intro g
  induction g with
  | zero => intro M i τ hg hR _ _; have := hR.2.1; omega
  | succ g ih =>
    intro M i τ hg hR h0 hE
    have F := hR.1.1
    have tk := hR.tk hB
    have again : ∀ M' j τ', RT b n s m τ' M' j → tK b n j ≠ 0 → i < j → RGt m M M' → EndT b n s m M' Q (td b n g j τ') → T (h + 6) mdX11_readTold 2 [(0, .ref 29), (1, .int 1)] [] M' Q := fun M' j τ' R' k' hj _ E' => ih M' j τ' (by omega) R' k' E'
    refine VX11_readTold_2 ?_
    unfold DX11_readTold_2
    refine ⟨fun z => absurd z (by decide), fun _ => ⟨ok29 F, fun z => absurd hR.2.2.2.1 z, fun _ => ?_⟩⟩
    refine K_key tk (j := 0) (k := 30) (by decide) rfl rfl (fun q _ => ⟨_, rfl, fun z => absurd z (by decide), fun _ => T_one (r := 30) hB hS hR (Or.inl rfl) q again hE⟩) (fun q30 _ => ⟨_, rfl, fun _ => ?_, fun z => absurd rfl z⟩)
    refine K_key tk (j := 1) (k := 31) (by decide) rfl rfl (fun q _ => ⟨_, rfl, fun z => absurd z (by decide), fun _ => T_one (r := 31) hB hS hR (Or.inr (Or.inl rfl)) q again hE⟩) (fun q31 _ => ⟨_, rfl, fun _ => ?_, fun z => absurd rfl z⟩)
    refine K_key tk (j := 2) (k := 32) (by decide) rfl rfl (fun q _ => ⟨_, rfl, fun z => absurd z (by decide), fun _ => T_one (r := 32) hB hS hR (Or.inr (Or.inr (Or.inl rfl))) q again hE⟩) (fun q32 _ => ⟨_, rfl, fun _ => ?_, fun z => absurd rfl z⟩)
    refine K_key tk (j := 6) (k := 36) (by decide) rfl rfl (fun q _ => ⟨_, rfl, fun z => absurd z (by decide), fun _ => T_one (r := 36) hB hS hR (Or.inr (Or.inr (Or.inr rfl))) q again hE⟩) (fun q36 _ => ⟨_, rfl, fun _ => ?_, fun z => absurd rfl z⟩)
    unfold td at hE
    rw [if_neg q36, if_neg (by rintro (z | z | z) <;> first | exact q30 z | exact q31 z | exact q32 z)] at hE
    have y := hE M hR h0 RG.rf
    unfold DX11_readTold_74 DX11_readTold_85 DX11_readTold_141
    refine ⟨fun _ => ⟨fun _ => ?_, fun z => absurd rfl z⟩, fun z => absurd (by decide) z⟩
    refine VX11_readTold_2 ?_
    unfold DX11_readTold_2 DX11_readTold_144
    exact ⟨fun _ => y, fun z => absurd rfl z⟩
end
