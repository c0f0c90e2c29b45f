section
/-! the weaver's finish: the parts are told their wires -/
/-- only numbers of the cells of S have changed -/
def NuF (S : Nat → Prop) (M M' : Mem) : Prop := (mN M' = mN M ∧ mS M' = mS M ∧ mK M' = mK M ∧ mL M' = mL M) ∧ (mJ M' = mJ M ∧ mR M' = mR M ∧ mAI M' = mAI M ∧ mAJ M' = mAJ M ∧ mAR M' = mAR M) ∧ ∀ c, ¬ S c → mI M' c = mI M c
section
variable {S : Nat → Prop} {M M1 M2 M' : Mem}
theorem NuF.rf : NuF S M M := ⟨⟨rfl, rfl, rfl, rfl⟩, ⟨rfl, rfl, rfl, rfl, rfl⟩, fun _ _ => rfl⟩
theorem NuF.tr (h : NuF S M M1) (k : NuF S M1 M2) : NuF S M M2 := by
  obtain ⟨⟨a1, a2, a3, a4⟩, ⟨a5, a6, a7, a8, a9⟩, a10⟩ := h
  obtain ⟨⟨b1, b2, b3, b4⟩, ⟨b5, b6, b7, b8, b9⟩, b10⟩ := k
  exact ⟨⟨b1.trans a1, b2.trans a2, b3.trans a3, b4.trans a4⟩, ⟨b5.trans a5, b6.trans a6, b7.trans a7, b8.trans a8, b9.trans a9⟩, fun c hc => (b10 c hc).trans (a10 c hc)⟩
theorem NuF.w {c f : Nat} {v : Int32} (hc : S c) : NuF S M (wI M c f v) := ⟨⟨rfl, rfl, rfl, rfl⟩, ⟨rfl, rfl, rfl, rfl, rfl⟩, fun d hd => up2_row (fun e => hd (by rw [e]; exact hc))⟩
theorem NuF.e (h : NuF S M M') : mE M M' := by
  obtain ⟨⟨a1, a2, a3, a4⟩, -⟩ := h
  exact ⟨by rw [a1]; exact Nat.le_refl _, by rw [a2]; exact Nat.le_refl _, fun c _ => by rw [a3, a4]; exact ⟨rfl, rfl⟩⟩
theorem NuF.fre (h : NuF S M M') : fr S M M' := ⟨h.e, fun c _ hc => ⟨h.2.2 c hc, by rw [h.2.1.1], by rw [h.2.1.2.1], by rw [h.2.1.2.2.1], by rw [h.2.1.2.2.2.1], by rw [h.2.1.2.2.2.2]⟩⟩
theorem NuF.fix (h : NuF S M M') (F : Fix M) : Fix M' := F.of_fr (S := fun _ => True) h.e (fun e _ => by rw [h.2.1.2.1]) (by rw [h.2.1.2.2.2.1])
end
/-- what a part is told -/
def TpV (Θ : TrT) (P : Nat → Nat → Int32) (M : Mem) (p x : Nat) : Prop := mI M p 8 = Θ.2.2 12 x ∧ mI M p 9 = P 22 x ∧ mI M p 10 = P 28 (x * 20) ∧ mI M p 11 = P 28 (x * 20 + 1) ∧ mI M p 12 = P 28 (x * 20 + 2)
section
variable {Θ : TrT} {P : Nat → Nat → Int32} {M : Mem} {h p x n0 pb : Nat} {ps : List Nat} {xs : Nat → Nat} {Q : Option Value → Mem → Prop}
theorem W_tell (F : Fix M) (op : ok M p 5) (h12 : mAI M 12 = Θ.2.2 12) (h22 : ∀ j, mAI M 22 j = P 22 j) (h28 : ∀ j, mAI M 28 j = P 28 j) (e1 : mI M p 1 = Int32.ofNat x) (hx : x < 640) (K : ∀ M', NuF (fun c => c = p) M M' → (∀ f, f < 8 → mI M' p f = mI M p f) → TpV Θ P M' p x → Q none M') : E (h + 1) mdX9_tellPart [.ref 21, .ref p] M Q := by
  have vx : ∀ {k : Nat}, k = 640 → vp_in (Int32.ofNat x) k := fun e => by rw [e]; exact vp_of hx (by decide)
  have v20 : ∀ {k n : Nat}, k = 12800 → n < 20 → vp_in (Int32.ofNat (x * 20 + n)) k := fun e hn => by rw [e]; exact vp_of (by omega) (by decide)
  have lx : (Int32.ofNat x).toNatClampNeg = x := lt32 (by omega)
  have e20 : Int32.ofNat x * 20 = Int32.ofNat (x * 20) := by rw [Int32.ofNat_mul]; rfl
  have e21 : Int32.ofNat (x * 20) + 1 = Int32.ofNat (x * 20 + 1) := (Int32.ofNat_add _ _).symm
  have e22 : Int32.ofNat (x * 20) + 2 = Int32.ofNat (x * 20 + 2) := (Int32.ofNat_add _ _).symm
  have l0 : (Int32.ofNat (x * 20)).toNatClampNeg = x * 20 := lt32 (by omega)
  have l1 : (Int32.ofNat (x * 20 + 1)).toNatClampNeg = x * 20 + 1 := lt32 (by omega)
  have l2 : (Int32.ofNat (x * 20 + 2)).toNatClampNeg = x * 20 + 2 := lt32 (by omega)
  refine KX9_tellPart ?_
  unfold DX9_tellPart_0
  rw [e1, lx, e20, e21, e22, l0, l1, l2]
  refine ⟨op, ok21 F, 4, rf21_0 F, ok4 F, 12, rf4_7 F, ok12 F, vx (ln12 F), fun M7 e7 => ?_⟩
  have F7 : Fix M7 := by rw [e7]; exact F.i
  refine ⟨22, rf21_1 F7, ok22 F7, vx (ln22 F7), fun M10 e10 => ?_⟩
  have F10 : Fix M10 := by rw [e10]; exact F7.i
  refine ⟨28, rf21_7 F10, ok28 F10, v20 (n := 0) (ln28 F10) (by decide), fun M13 e13 => ?_⟩
  have F13 : Fix M13 := by rw [e13]; exact F10.i
  refine ⟨28, rf21_7 F13, ok28 F13, v20 (ln28 F13) (by decide), fun M16 e16 => ?_⟩
  have F16 : Fix M16 := by rw [e16]; exact F13.i
  refine ⟨28, rf21_7 F16, ok28 F16, v20 (ln28 F16) (by decide), fun M19 e19 => ?_⟩
  have a7 : mAI M7 = mAI M := by rw [e7]; rfl
  have a10 : mAI M10 = mAI M := by rw [e10]; exact a7
  have a13 : mAI M13 = mAI M := by rw [e13]; exact a10
  have a16 : mAI M16 = mAI M := by rw [e16]; exact a13
  rw [h12] at e7
  rw [a7, h22] at e10
  rw [a10, h28] at e13
  rw [a13, h28] at e16
  rw [a16, h28] at e19
  refine K M19 ?_ (fun f hf => ?_) ⟨?_, ?_, ?_, ?_, ?_⟩
  · rw [e19, e16, e13, e10, e7]
    have ww : ∀ {Mi : Mem} {f : Nat} {v : Int32}, NuF (fun c => c = p) Mi (wI Mi p f v) := NuF.w (S := fun c => c = p) rfl
    exact (((ww.tr ww).tr ww).tr ww).tr ww
  · rw [e19, mI_wI, if_neg (by omega), e16, mI_wI, if_neg (by omega), e13, mI_wI, if_neg (by omega), e10, mI_wI, if_neg (by omega), e7, mI_wI, if_neg (by omega)]
  · rw [e19, mI_wI, if_neg (by omega), e16, mI_wI, if_neg (by omega), e13, mI_wI, if_neg (by omega), e10, mI_wI, if_neg (by omega), e7, mI_wI, if_pos ⟨rfl, rfl⟩]
  · rw [e19, mI_wI, if_neg (by omega), e16, mI_wI, if_neg (by omega), e13, mI_wI, if_neg (by omega), e10, mI_wI, if_pos ⟨rfl, rfl⟩]
  · rw [e19, mI_wI, if_neg (by omega), e16, mI_wI, if_neg (by omega), e13, mI_wI, if_pos ⟨rfl, rfl⟩]
  · rw [e19, mI_wI, if_neg (by omega), e16, mI_wI, if_pos ⟨rfl, rfl⟩]
  · rw [e19, mI_wI, if_pos ⟨rfl, rfl⟩]
theorem W_fin2 (F : Fix M) (o3 : ok M n0 3) (f6 : mR M n0 6 = some (n0 + 7)) (hA : ALp M (n0 + 7) pb 5 ps) (hps : ∀ j, j < ps.length → ok M (ps.getD j 0) 5 ∧ mI M (ps.getD j 0) 1 = Int32.ofNat (xs j) ∧ xs j < 640) (hnd : ∀ i j, i < ps.length → j < ps.length → ps.getD i 0 = ps.getD j 0 → i = j) (h12 : mAI M 12 = Θ.2.2 12) (h22 : ∀ j, mAI M 22 j = P 22 j) (h28 : ∀ j, mAI M 28 j = P 28 j) (hl : ps.length ≤ 1000) (K : ∀ M', NuF (fun c => ∃ j, j < ps.length ∧ c = ps.getD j 0) M M' → (∀ j, j < ps.length → (∀ f, f < 8 → mI M' (ps.getD j 0) f = mI M (ps.getD j 0) f) ∧ TpV Θ P M' (ps.getD j 0) (xs j)) → Q none M') : T (h + 4) mdX9_finish 73 [(0, .ref 21), (1, .ref n0), (2, .int 0)] [] M Q := by
  have main : ∀ (d i : Nat) (M1 : Mem), i + d = ps.length → NuF (fun c => ∃ j, j < ps.length ∧ c = ps.getD j 0) M M1 → (∀ j, j < ps.length → ∀ f, f < 8 → mI M1 (ps.getD j 0) f = mI M (ps.getD j 0) f) → (∀ j, j < i → TpV Θ P M1 (ps.getD j 0) (xs j)) → T (h + 4) mdX9_finish 73 [(0, .ref 21), (1, .ref n0), (2, .int (Int32.ofNat i))] [] M1 Q := by
    intro d i M1 hi hN h8 hT
    have F1 := hN.fix F
    have E1 := hN.e
    have A1 : ALp M1 (n0 + 7) pb 5 ps := hA.fr hN.fre (by
      rintro ⟨j, hj, e⟩
      have := (hps j hj).1.2
      rw [← e, hA.1.2] at this
      exact absurd this (by decide)) (fun hk => by
      rintro ⟨j, hj, e⟩
      have := (hps j hj).1.2
      rw [← e, hk] at this
      exact absurd this (by decide))
    have r6 : mR M1 n0 6 = some (n0 + 7) := by rw [hN.2.1.2.1]; exact f6
    induction d generalizing i M1 with
    | zero =>
      have e : i = ps.length := by omega
      subst e
      refine VX9_finish_73 (h := h + 3) ?_
      unfold DX9_finish_73
      refine ⟨ok_E o3 E1, n0 + 7, r6, A1.1, S_alSize (h := h + 2) A1 (fun _ => ⟨_, rfl, fun _ => K M1 hN (fun j hj => ⟨h8 j hj, hT j hj⟩), fun z => absurd Int32.le_rfl z⟩)⟩
    | succ d ih =>
      have hi' : i < ps.length := by omega
      obtain ⟨oi, e1, x640⟩ := hps i hi'
      have nle : ¬ Int32.ofNat ps.length ≤ Int32.ofNat i := fun z => by
        have := (le32 (by omega) (by omega)).mp z
        omega
      refine VX9_finish_73 (h := h + 3) ?_
      unfold DX9_finish_73
      refine ⟨ok_E o3 E1, n0 + 7, r6, A1.1, S_alSize (h := h + 2) A1 (fun _ => ⟨_, rfl, fun z => absurd z nle, fun _ => ⟨n0 + 7, r6, A1.1, S_get (h := h) A1 hi' (fun _ => ⟨_, rfl, ok_E oi E1, ok21 F1, ?_⟩)⟩⟩)⟩
      refine W_tell (h := h + 2) (x := xs i) (Θ := Θ) (P := P) F1 (ok_E oi E1) (by rw [hN.2.1.2.2.1]; exact h12) (fun j => by rw [hN.2.1.2.2.1]; exact h22 j) (fun j => by rw [hN.2.1.2.2.1]; exact h28 j) (by rw [h8 i hi' 1 (by decide)]; exact e1) x640 (fun M2 N2 k2 t2 _ => ⟨rfl, ?_⟩)
      rw [succ32]
      have N12 : NuF (fun c => ∃ j, j < ps.length ∧ c = ps.getD j 0) M1 M2 := ⟨N2.1, N2.2.1, fun c hc => N2.2.2 c (fun e => hc ⟨i, hi', e⟩)⟩
      have ne : ∀ j, j < ps.length → j ≠ i → ps.getD j 0 ≠ ps.getD i 0 := fun j hj y e => y (hnd j i hj hi' e)
      have hN2 := hN.tr N12
      refine ih (i + 1) M2 (by omega) hN2 (fun j hj f hf => ?_) (fun j hj => ?_) (hN2.fix F) hN2.e ?_ (by rw [hN2.2.1.2.1]; exact f6)
      · by_cases y : j = i
        · rw [y, k2 f hf]; exact h8 i hi' f hf
        · rw [N2.2.2 _ (ne j hj y)]; exact h8 j hj f hf
      · by_cases y : j = i
        · rw [y]; exact t2
        · have t := hT j (by omega)
          unfold TpV at t ⊢
          rw [N2.2.2 _ (ne j (by omega) y)]
          exact t
      · exact hA.fr hN2.fre (by
          rintro ⟨j, hj, e⟩
          have := (hps j hj).1.2
          rw [← e, hA.1.2] at this
          exact absurd this (by decide)) (fun hk => by
          rintro ⟨j, hj, e⟩
          have := (hps j hj).1.2
          rw [← e, hk] at this
          exact absurd this (by decide))
  exact main ps.length 0 M (by omega) NuF.rf (fun _ _ _ _ => rfl) (fun j hj => absurd hj (Nat.not_lt_zero _))
end
end
section
/-! the codes of nodes -/
def CdA (Θ : TrT) : Prop := 1 ≤ Θ.1 ∧ ∀ x, 1 ≤ x → x < Θ.1 → Θ.2.2 5 x ≠ 1 → Θ.2.2 5 x ≠ 3 → ∃ cd, Θ.2.2 11 x = Int32.ofNat cd ∧ cd < 2147483648 ∧ (Θ.2.2 5 x = 2 → cd < 16)
def J2 (Θ Θ' : TrT) : Prop := CdA Θ → CdA Θ'
section
variable {Θ Θ1 Θ2 : TrT} {c d v x aw a : Nat} {k l : Int32} {im : Bool}
theorem J2.rf : J2 Θ Θ := fun h => h
theorem J2.tr (h : J2 Θ Θ1) (g : J2 Θ1 Θ2) : J2 Θ Θ2 := fun z => g (h z)
theorem J2.of (e : Θ1 = Θ) : J2 Θ Θ1 := by rw [e]; exact J2.rf
theorem n6_mk : J2 Θ (mkT Θ k).1 := fun h => by
  unfold mkT
  by_cases z : Θ.1 < 640
  · rw [if_pos z]
    refine ⟨Nat.le_add_left _ _, fun x x1 x2 => ?_⟩
    have x2 : x < Θ.1 + 1 := x2
    obtain ⟨A, eA⟩ : ∃ A, A = up2 (up2 (up2 (up2 (up2 (up2 (up2 (up2 (up2 Θ.2.2 5 Θ.1 k) 6 Θ.1 0) 7 Θ.1 0) 8 Θ.1 0) 9 Θ.1 0) 10 Θ.1 0) 11 Θ.1 0) 12 Θ.1 0) 13 Θ.1 (if k = 0 ∨ k = 5 then (1 : Int32) else 0) := ⟨_, rfl⟩
    show (_ : Prop)
    have e5 : A 5 x = up2 Θ.2.2 5 Θ.1 k 5 x := by rw [eA, up2_row (by decide), up2_row (by decide), up2_row (by decide), up2_row (by decide), up2_row (by decide), up2_row (by decide), up2_row (by decide), up2_row (by decide)]
    have e11 : A 11 x = if x = Θ.1 then 0 else Θ.2.2 11 x := by
      rw [eA, up2_row (by decide), up2_row (by decide)]
      by_cases y : x = Θ.1
      · rw [if_pos y, y, up2_eq]
      · rw [if_neg y, up2_ne (fun q => y q.2), up2_row (by decide), up2_row (by decide), up2_row (by decide), up2_row (by decide), up2_row (by decide), up2_row (by decide)]
    have goal : A 5 x ≠ 1 → A 5 x ≠ 3 → ∃ cd, A 11 x = Int32.ofNat cd ∧ cd < 2147483648 ∧ (A 5 x = 2 → cd < 16) := by
      rw [e11]
      by_cases y : x = Θ.1
      · rw [if_pos y]
        exact fun _ _ => ⟨0, rfl, by decide, fun _ => by decide⟩
      · rw [if_neg y, e5, up2_ne (fun q => y q.2)]
        exact h.2 x x1 (by omega)
    rw [eA] at goal
    exact goal
  · rw [if_neg z]; exact h
theorem n6_hg : J2 Θ (hgT Θ a c) := fun h => by
  unfold hgT
  by_cases z : a = 0 ∨ c = 0
  · rw [if_pos z]; exact h
  · rw [if_neg z]
    have e : ∀ q x, q = 5 ∨ q = 11 → hgA Θ.2.2 a c q x = Θ.2.2 q x := by
      intro q x hq
      unfold hgA
      rw [up2_row (by omega)]
      by_cases y : Θ.2.2 6 a = 0
      · rw [if_pos y, up2_row (by omega), up2_row (by omega), up2_row (by omega), up2_row (by omega)]
      · rw [if_neg y, up2_row (by omega), up2_row (by omega), up2_row (by omega), up2_row (by omega)]
    refine ⟨h.1, fun x x1 x2 => ?_⟩
    show hgA Θ.2.2 a c 5 x ≠ 1 → hgA Θ.2.2 a c 5 x ≠ 3 → ∃ cd, hgA Θ.2.2 a c 11 x = Int32.ofNat cd ∧ cd < 2147483648 ∧ (hgA Θ.2.2 a c 5 x = 2 → cd < 16)
    rw [e 5 x (Or.inl rfl), e 11 x (Or.inr rfl)]
    exact h.2 x x1 x2
theorem n6_up {q j : Nat} {w : Int32} {n p : Nat} (hq : q ≠ 5) (hq2 : q ≠ 11) {A : Nat → Nat → Int32} : J2 (n, p, A) (n, p, up2 A q j w) := fun h => by
  refine ⟨h.1, fun x x1 x2 => ?_⟩
  show up2 A q j w 5 x ≠ 1 → up2 A q j w 5 x ≠ 3 → ∃ cd, up2 A q j w 11 x = Int32.ofNat cd ∧ cd < 2147483648 ∧ (up2 A q j w 5 x = 2 → cd < 16)
  rw [up2_row (fun e => hq e.symm), up2_row (fun e => hq2 e.symm)]
  exact h.2 x x1 x2
theorem n6_x {j : Nat} {w : Int32} {n p p' : Nat} {A : Nat → Nat → Int32} (hj : A 5 j = 1 ∨ A 5 j = 3 ∨ j = 0) : J2 (n, p, A) (n, p', up2 A 11 j w) := fun h => by
  refine ⟨h.1, fun x x1 x2 => ?_⟩
  show up2 A 11 j w 5 x ≠ 1 → up2 A 11 j w 5 x ≠ 3 → ∃ cd, up2 A 11 j w 11 x = Int32.ofNat cd ∧ cd < 2147483648 ∧ (up2 A 11 j w 5 x = 2 → cd < 16)
  rw [up2_row (by decide)]
  intro k1 k3
  by_cases y : x = j
  · rw [y] at k1 k3
    rcases hj with z | z | z
    · exact absurd z k1
    · exact absurd z k3
    · omega
  · rw [up2_ne (fun q => y q.2)]
    exact h.2 x x1 x2 k1 k3
theorem n6_v {j n p : Nat} {A : Nat → Nat → Int32} (hv : v < 16) : J2 (n, p, A) (n, p, up2 A 11 j (Int32.ofNat v)) := fun h => by
  refine ⟨h.1, fun x x1 x2 => ?_⟩
  show up2 A 11 j (Int32.ofNat v) 5 x ≠ 1 → up2 A 11 j (Int32.ofNat v) 5 x ≠ 3 → ∃ cd, up2 A 11 j (Int32.ofNat v) 11 x = Int32.ofNat cd ∧ cd < 2147483648 ∧ (up2 A 11 j (Int32.ofNat v) 5 x = 2 → cd < 16)
  rw [up2_row (by decide)]
  intro k1 k3
  by_cases y : x = j
  · rw [y, up2_eq]
    exact ⟨v, rfl, by omega, fun _ => hv⟩
  · rw [up2_ne (fun q => y q.2)]
    exact h.2 x x1 x2 k1 k3
theorem mk_k : (mkT Θ k).2 = 0 ∨ (mkT Θ k).1.2.2 5 (mkT Θ k).2 = k := by
  unfold mkT
  by_cases z : Θ.1 < 640
  · rw [if_pos z]
    right
    show up2 (up2 (up2 (up2 (up2 (up2 (up2 (up2 (up2 Θ.2.2 5 Θ.1 k) 6 Θ.1 0) 7 Θ.1 0) 8 Θ.1 0) 9 Θ.1 0) 10 Θ.1 0) 11 Θ.1 0) 12 Θ.1 0) 13 Θ.1 (if k = 0 ∨ k = 5 then 1 else 0) 5 Θ.1 = k
    rw [up2_row (by decide), up2_row (by decide), up2_row (by decide), up2_row (by decide), up2_row (by decide), up2_row (by decide), up2_row (by decide), up2_row (by decide), up2_eq]
  · rw [if_neg z]; exact Or.inl rfl
theorem n6_wr : J2 Θ (wrT Θ k c).1 := n6_mk.tr n6_hg
theorem n6_pr : J2 Θ (prT Θ k c d).1 := (n6_mk.tr n6_hg).tr n6_hg
theorem n6_pa : J2 Θ (paT Θ).1 := ((n6_mk (k := 1)).tr (n6_x (p' := (mkT Θ 1).1.2.1 + 1) ((mk_k (Θ := Θ) (k := 1)).elim (fun z => Or.inr (Or.inr z)) (fun z => Or.inl z)))).tr ((n6_up (q := 12) (by decide) (by decide)).tr (n6_up (q := 13) (by decide) (by decide)))
theorem n6_em (hv : v < 16) : J2 Θ (emT Θ v).1 := (n6_mk (k := 2)).tr ((n6_v hv).tr (n6_up (q := 13) (by decide) (by decide)))
theorem n6_ex : J2 Θ (exT Θ v).1 := (n6_mk (k := 3)).tr ((n6_x (p' := (mkT Θ 3).1.2.1) ((mk_k (Θ := Θ) (k := 3)).elim (fun z => Or.inr (Or.inr z)) (fun z => Or.inr (Or.inl z)))).tr (n6_up (q := 13) (by decide) (by decide)))
theorem n6_ch : J2 Θ (chT Θ l c d).1 := n6_pr.tr (n6_up (q := 10) (by decide) (by decide))
theorem n6_su : J2 Θ (suT Θ c l).1 := n6_wr.tr (n6_up (q := 10) (by decide) (by decide))
theorem n6_ha : J2 Θ (haT Θ).1 := n6_pa.tr n6_wr
theorem n6_st (hv : v < 16) : J2 Θ (stT Θ v).1 := (((n6_em hv).tr n6_pa).tr n6_pr).tr n6_wr
theorem n6_w1 : J2 Θ (wt1 Θ).1 := (n6_pa.tr n6_ex).tr n6_mk
theorem n6_w2 : J2 Θ (wt2 Θ l).1 := n6_w1.tr n6_ch
theorem n6_w3 : J2 Θ (wt3 Θ l im).1 := by
  cases im with
  | true => exact n6_w2.tr n6_pr
  | false => exact n6_w2.tr n6_pr
theorem n6_wa : J2 Θ (waT Θ l im).1 := n6_w3.tr n6_wr
theorem n6_aw : J2 Θ (awT Θ l im).1 := n6_wa.tr n6_wr
theorem n6_k1 : J2 Θ (wk1 Θ c).1 := n6_ex.tr n6_pr
theorem n6_k2 : J2 Θ (wk2 Θ c l im).1 := by unfold wk2; exact n6_k1.tr n6_wa
theorem n6_wk : J2 Θ (wkT Θ c l im).1 := by unfold wkT wk3; exact (n6_k2.tr n6_pr).tr n6_wr
theorem n6_ab : J2 Θ (abT Θ c l).1 := by unfold abT; exact n6_su.tr n6_wk
theorem n6_ev : J2 Θ (evT Θ x aw l).1 := by
  have a4 : J2 (haT Θ).1 (ev1 Θ x).1 := by unfold ev1; exact n6_pr
  have a3 : J2 (ev1 Θ x).1 (ev2 Θ x l).1 := by unfold ev2; exact n6_ab
  have a2 : J2 (ev2 Θ x l).1 (ev3 Θ x l).1 := by unfold ev3; exact n6_wr
  have a1 : J2 (ev3 Θ x l).1 (evT Θ x aw l).1 := by unfold evT; exact n6_pr
  exact (((n6_ha.tr a4).tr a3).tr a2).tr a1
end
section
variable {b : Nat → Int32} {n m : Nat} {τ : Td} {j i o f1 f2 fo x aw lit y : Nat} {k : Int32} {w : Int64} {K : List KE} {σ σ1 σ2 : PS}
def Cj (σ σ' : PS) : Prop := J2 (trS σ) (trS σ')
theorem Sx.cj {r : TrT} (h : Sx σ σ1) (g : J2 (trS σ1) r) : Cj σ (trP1 σ1 r) := by
  rw [h.2] at g; exact g
theorem br_j {j a x : Nat} {g u : Int32} : Cj σ (brP σ j a x g u) := by
  unfold brP
  split
  · exact n6_hg
  · exact n6_hg
theorem em_lt {r : Nat × PS × Nat} (hv : τ.1.length ≤ 16) (e : emM b n m τ k j i o σ = .ok r) : r.2.2 < 16 := by
  unfold emM at e
  by_cases h1 : tK b n i = 2
  · rw [if_pos h1] at e
    cases h2 : fd τ.1 (tC b n i) with
    | none => rw [h2] at e; cases e
    | some s =>
      have hs : s < 16 := by have := (fd_some h2).1; omega
      rw [h2] at e
      have e : (if τ.2.1.getD s 0 = 30 then Except.error (4, tP b n i) else (adv' b n i).bind fun i2 => _) = .ok r := e
      by_cases h3 : τ.2.1.getD s 0 = 30
      · rw [if_pos h3] at e; cases e
      rw [if_neg h3] at e
      obtain ⟨i2, -, e⟩ := bind_ok e
      by_cases h4 : τ.2.2.1.getD s 0 = 0
      · rw [if_pos h4] at e
        by_cases h5 : k = 40 ∧ tK b n i2 = 15
        · rw [if_pos h5] at e; cases e
        · rw [if_neg h5] at e; cases e; exact hs
      rw [if_neg h4] at e
      by_cases h5 : k = 40 ∧ tK b n i2 = 15
      · rw [if_pos h5] at e
        by_cases h6 : o = 15
        · rw [if_pos h6] at e; cases e
        rw [if_neg h6] at e
        obtain ⟨i3, -, e⟩ := bind_ok e
        obtain ⟨y, e1, e⟩ := bind_ok e
        obtain ⟨i4, -, e⟩ := bind_ok e
        cases e
        exact hs
      · rw [if_neg h5] at e; cases e
  · rw [if_neg h1] at e; cases e
theorem lf_j {r : Nat × PS × Nat} (hv : τ.1.length ≤ 16) (e : lfM b n m τ k w j i K σ = .ok r) : Cj σ r.2.1 := by
  unfold lfM at e
  by_cases k1 : k = 38
  · rw [if_pos k1] at e; cases e; exact (Sx.rf.cj n6_pa)
  rw [if_neg k1] at e
  by_cases k2 : k = 39
  · rw [if_pos k2] at e; cases e; exact (Sx.rf.cj n6_ha)
  rw [if_neg k2] at e
  by_cases k3 : k = 40
  · rw [if_pos k3] at e
    obtain ⟨y, e1, e⟩ := bind_ok e
    cases e; exact ((em_x e1).cj (n6_em (em_lt hv e1)))
  rw [if_neg k3] at e
  by_cases k4 : k = 41
  · rw [if_pos k4] at e
    obtain ⟨y, e1, e⟩ := bind_ok e
    cases e; exact ((em_x e1).cj (n6_st (em_lt hv e1)))
  rw [if_neg k4] at e
  by_cases k5 : k = 47
  · rw [if_pos k5] at e
    obtain ⟨y, e1, e⟩ := bind_ok e
    cases e; exact ((at_x e1).cj n6_aw)
  rw [if_neg k5] at e
  by_cases k6 : k = 57
  · rw [if_pos k6] at e
    by_cases h1 : tK b n i = 2
    · rw [if_pos h1] at e
      cases h2 : trW K (tC b n i) with
      | none => rw [h2] at e; cases e
      | some q =>
        rw [h2] at e
        obtain ⟨i2, -, e⟩ := bind_ok e
        cases e; exact (Sx.cj (σ1 := raP σ (up2 σ.1.2.1 60 (40 * m + j) (Int32.ofNat q.2))) ⟨rfl, rfl⟩ n6_ex)
    · rw [if_neg h1] at e; cases e
  rw [if_neg k6] at e
  by_cases k7 : k = 2
  · rw [if_pos k7] at e
    obtain ⟨i2, -, e⟩ := bind_ok e
    obtain ⟨y, e1, e⟩ := bind_ok e
    have q := su_x e1
    cases e; exact (Sx.cj (σ := σ) ⟨q.1, q.2⟩ n6_mk)
  rw [if_neg k7] at e
  cases e; exact (Sx.rf.cj n6_mk)
theorem hd_j {r : Nat × PS × Nat × Bool × Nat × Option Int64} (e : hdM b n m τ k j i K σ = .ok r) : Cj σ r.2.1 := by
  unfold hdM at e
  by_cases k1 : k = 44
  · rw [if_pos k1] at e
    obtain ⟨y, e1, e⟩ := bind_ok e
    obtain ⟨i2, -, e⟩ := bind_ok e
    have q := co_x e1
    cases e; exact J2.of q.2
  rw [if_neg k1] at e
  by_cases k2 : k = 49
  · rw [if_pos k2] at e; cases e; exact J2.rf
  rw [if_neg k2] at e
  by_cases k3 : k = 50
  · rw [if_pos k3] at e
    obtain ⟨i2, -, e⟩ := bind_ok e
    cases e; exact J2.rf
  rw [if_neg k3] at e
  by_cases k4 : k = 53
  · rw [if_pos k4] at e
    obtain ⟨y, e1, e⟩ := bind_ok e
    obtain ⟨i2, -, e⟩ := bind_ok e
    cases e; exact ((at_x e1).cj n6_aw)
  rw [if_neg k4] at e
  by_cases k5 : k = 55
  · rw [if_pos k5] at e
    by_cases h1 : tK b n i = 2
    · rw [if_pos h1] at e
      by_cases h2 : toT (tC b n i) τ = true ∨ (trW K (tC b n i)).isSome = true
      · rw [if_pos h2] at e; cases e
      rw [if_neg h2] at e
      obtain ⟨i2, -, e⟩ := bind_ok e
      obtain ⟨i3, -, e⟩ := bind_ok e
      cases e; exact J2.rf
    · rw [if_neg h1] at e; cases e
  rw [if_neg k5] at e
  by_cases k6 : k = 58
  · rw [if_pos k6] at e
    obtain ⟨y, e1, e⟩ := bind_ok e
    have q := su_x e1
    by_cases h1 : 7 ≤ tK b n y.1 ∧ tK b n y.1 ≤ 12
    · rw [if_pos h1] at e
      obtain ⟨i2, -, e⟩ := bind_ok e
      obtain ⟨z, e2, e⟩ := bind_ok e
      obtain ⟨i3, -, e⟩ := bind_ok e
      have q2 := su_x e2
      have g1 : z.2.1.1 = σ.1.1 := q2.1.trans q.1
      have g2 : trS z.2 = trS σ := q2.2.trans q.2
      cases e; exact J2.of g2
    · rw [if_neg h1] at e; cases e
  rw [if_neg k6] at e
  by_cases k7 : k = 17
  · rw [if_pos k7] at e
    cases e; exact (Sx.rf.cj n6_mk)
  rw [if_neg k7] at e
  cases e; exact J2.rf
theorem tl_j {r : Nat × PS × Nat} (e : tlM b n m τ k j aw lit x i o σ = .ok r) : Cj σ r.2.1 := by
  unfold tlM at e
  by_cases k1 : k = 42
  · rw [if_pos k1] at e
    obtain ⟨i2, -, e⟩ := bind_ok e
    cases e
    by_cases h1 : (trS σ).2.2 13 x &&& 1 = 0
    · rw [if_pos h1]; exact (Sx.rf.cj n6_wr)
    · rw [if_neg h1]; exact (Sx.cj (σ := σ) (σ1 := paP σ j 2 7) ⟨rfl, rfl⟩ n6_wr)
  rw [if_neg k1] at e
  by_cases k2 : k = 49
  · rw [if_pos k2] at e
    obtain ⟨i2, -, e⟩ := bind_ok e
    obtain ⟨y, e1, e⟩ := bind_ok e
    obtain ⟨i3, -, e⟩ := bind_ok e
    have g := at_x e1
    by_cases h1 : y.2.2.2 = true
    · rw [if_pos h1] at e
      have b1 := n6_ab (Θ := trS y.2.1) (c := x) (l := Int32.ofNat y.2.2.1)
      have b2 := n6_mk (Θ := (abT (trS y.2.1) x (Int32.ofNat y.2.2.1)).1) (k := 0)
      have b3 := n6_ch (Θ := (mkT (abT (trS y.2.1) x (Int32.ofNat y.2.2.1)).1 0).1) (l := Int32.ofNat y.2.2.1) (c := (mkT (abT (trS y.2.1) x (Int32.ofNat y.2.2.1)).1 0).2) (d := (abT (trS y.2.1) x (Int32.ofNat y.2.2.1)).2)
      cases e
      exact g.cj ((b1.tr b2).tr b3)
    · rw [if_neg h1] at e
      cases e
      exact (g.cj n6_ab)
  rw [if_neg k2] at e
  by_cases k3 : k = 50
  · rw [if_pos k3] at e
    obtain ⟨i2, -, e⟩ := bind_ok e
    obtain ⟨y, e1, e⟩ := bind_ok e
    obtain ⟨i3, -, e⟩ := bind_ok e
    cases e
    exact ((at_x e1).cj n6_wk)
  rw [if_neg k3] at e
  by_cases k4 : k = 52
  · rw [if_pos k4] at e
    obtain ⟨i2, -, e⟩ := bind_ok e
    obtain ⟨y, e1, e⟩ := bind_ok e
    obtain ⟨i3, -, e⟩ := bind_ok e
    cases e
    exact ((co_x e1).cj n6_su)
  rw [if_neg k4] at e
  by_cases k5 : k = 53
  · rw [if_pos k5] at e
    obtain ⟨i2, -, e⟩ := bind_ok e
    cases e
    exact (Sx.rf.cj n6_ev)
  rw [if_neg k5] at e
  obtain ⟨i2, -, e⟩ := bind_ok e
  cases e
  exact (Sx.rf.cj n6_wr)
theorem ch_j {r : Nat × PS × Nat} (e : chM b n lit x y i σ = .ok r) : Cj σ r.2.1 := by
  unfold chM at e
  obtain ⟨i2, -, e⟩ := bind_ok e
  cases e
  exact Sx.rf.cj n6_ch
theorem rp_cd (hv : τ.1.length ≤ 16) : ∀ (g md : Nat) (K : List KE) (i : Nat) (σ : PS) (a1 a2 a3 a4 : Nat) (c1 c2 : Int32) (r : Nat × PS × Nat), md ≤ 3 → rp b n m τ g md K i σ a1 a2 a3 a4 c1 c2 = .ok r → J2 (trS σ) (trS r.2.1) := by
  intro g
  induction g with
  | zero => intro md K i σ a1 a2 a3 a4 c1 c2 r _ e; unfold rp at e; cases e
  | succ g ih =>
    intro md K i σ a1 a2 a3 a4 c1 c2 r hm e
    by_cases m2 : md = 2
    · subst m2
      rw [rp_bd] at e
      obtain ⟨u0, -, e⟩ := bind_ok e
      obtain ⟨i1, -, e⟩ := bind_ok e
      obtain ⟨u, eb, e⟩ := bind_ok e
      cases e
      show J2 (trS σ) (trS u.2.1)
      generalize tK b n i = k at eb
      generalize tC b n i = w at eb
      generalize npS σ = j at eb
      have q1 := (pb_bg (m := m) (σ := σ) (k := k) (pl := tP b n i) (q := sqK K) (d := K.length) (wh := whK k w τ)).2
      generalize bgP m k (tP b n i) (sqK K) K.length (whK k w τ) σ = s0 at eb q1
      rw [← q1]
      unfold bdM at eb
      by_cases ko : opnK k = false
      · rw [if_pos ko] at eb
        exact lf_j hv eb
      rw [if_neg ko] at eb
      obtain ⟨h, eh, eb⟩ := bind_ok eb
      have q2 : J2 (trS s0) (trS (rwP (40 * m + j) none h.2.1)) := hd_j eh
      by_cases k17 : k = 17
      · rw [if_pos k17] at eb
        obtain ⟨q, e1, eb⟩ := bind_ok eb
        cases eb
        exact q2.tr (ih 3 _ _ _ _ _ _ _ _ _ q (by decide) e1)
      rw [if_neg k17] at eb
      obtain ⟨q, e1, eb⟩ := bind_ok eb
      have hq := q2.tr (ih 0 _ _ _ _ _ _ _ _ _ q (by decide) e1)
      by_cases k4 : k = 44 ∨ k = 58
      · rw [if_pos k4] at eb
        by_cases k46 : tK b n q.1 = 46
        · rw [if_pos k46] at eb
          obtain ⟨i2, -, eb⟩ := bind_ok eb
          obtain ⟨t, e2, eb⟩ := bind_ok eb
          have ht : J2 (trS q.2.1) (trS t.2.1) := by
            have q9 := ih 0 _ _ _ _ _ _ _ _ _ t (by decide) e2
            exact q9
          exact (hq.tr ht).tr (ch_j eb)
        · rw [if_neg k46] at eb
          have c1 : Cj q.2.1 (trP1 q.2.1 (mkT (trS q.2.1) 0).1) := Sx.rf.cj n6_mk
          exact (hq.tr c1).tr (ch_j eb)
      rw [if_neg k4] at eb
      exact hq.tr (tl_j eb)
    by_cases m0 : md = 0
    · subst m0
      unfold rp at e
      rw [if_pos rfl] at e
      obtain ⟨q, e1, e⟩ := bind_ok e
      have c1 : Cj σ (trP1 σ (mkT (trS σ) 5).1) := Sx.rf.cj n6_mk
      have hq := J2.tr c1 (ih 2 _ _ _ _ _ _ _ _ _ q (by decide) e1)
      exact (hq.tr n6_hg).tr (ih 1 _ _ _ _ _ _ _ _ _ r (by decide) e)
    by_cases m1 : md = 1
    · subst m1
      unfold rp at e
      rw [if_neg (by decide), if_pos rfl] at e
      by_cases h13 : tK b n i = 13
      · rw [if_pos h13] at e
        obtain ⟨j, -, e⟩ := bind_ok e
        obtain ⟨q, e1, e⟩ := bind_ok e
        have hq := ih 2 _ _ _ _ _ _ _ _ _ q (by decide) e1
        exact (hq.tr n6_hg).tr (ih 1 _ _ _ _ _ _ _ _ _ r (by decide) e)
      · rw [if_neg h13] at e; cases e; exact J2.rf
    · have m3 : md = 3 := by omega
      subst m3
      unfold rp at e
      rw [if_neg m0, if_neg m1, if_neg m2] at e
      obtain ⟨q, e1, e⟩ := bind_ok e
      have hq := ih 0 _ _ _ _ _ _ _ _ _ q (by decide) e1
      have bn : J2 (trS q.2.1) (trS (brP q.2.1 a2 a1 q.2.2 c1 c2)) := br_j (σ := q.2.1) (j := a2) (a := a1) (x := q.2.2) (g := c1) (u := c2)
      by_cases h6 : tK b n q.1 = 6
      · rw [if_pos h6] at e
        by_cases h8 : a4 = 8
        · rw [if_pos h8] at e; cases e
        rw [if_neg h8] at e
        obtain ⟨j, -, e⟩ := bind_ok e
        have h3 : J2 (trS (brP q.2.1 a2 a1 q.2.2 c1 c2)) (trS r.2.1) := by
          have q9 := ih 3 _ _ _ _ _ _ _ _ _ r (by decide) e
          exact q9
        exact (hq.tr bn).tr h3
      · rw [if_neg h6] at e
        obtain ⟨j, -, e⟩ := bind_ok e
        cases e
        exact hq.tr bn
end
end
section
/-! every node is as the weaver may meet it -/
theorem hd_gd0 {l : List Nat} : l.headD 0 = l.getD 0 0 := by cases l <;> rfl
section
variable {Θ : TrT} {G : Nat → List Nat} {z nb : Nat}
theorem TG.chl (hT : TG Θ G) (hz : 1 ≤ z ∧ z < Θ.1) (hf : ∃ g, FtN G g z) : ChL Θ z (G z) ∧ ∀ i, i < (G z).length → Θ.2.2 9 ((G z).getD i 0) = Int32.ofNat z := by
  obtain ⟨⟨t1, t2⟩, t3, -⟩ := hT
  obtain ⟨⟨l6, l7, l8, l9, l8e⟩, nd, bd, -⟩ := t3 z hz.1 hz.2
  obtain ⟨ρ, hr⟩ := ft_rho (G := G)
  refine ⟨⟨by rw [l6, hd_gd0], fun i hi => ?_, fun i hi => ?_, fun i j hi hj e => gd_inj nd hi hj e, ?_⟩, fun i hi => l9 _ (gd_mem hi)⟩
  · by_cases y : i + 1 < (G z).length
    · exact l8 i y
    · have e : i = (G z).length - 1 := by omega
      have ne : G z ≠ [] := fun q => by rw [q] at hi; exact absurd hi (Nat.not_lt_zero _)
      have q := l8e ne
      rw [gl_eq _ _ ne, ← e] at q
      rw [q, show i + 1 = (G z).length by omega, gd_end]; rfl
  · have q := bd _ (gd_mem hi)
    refine ⟨q.1, by omega, fun e => ?_⟩
    have m := gd_mem hi
    rw [e] at m
    have := hr z z ⟨m, hf⟩
    omega
  · have := nodup_iv (a := 1) (n := Θ.1 - 1) nd (fun s hs => by have := bd s hs; omega)
    omega
/-- by kind, code, condition, children -/
theorem sh_of (hT : TG Θ G) (hA : CdA Θ) (hz : 1 ≤ z ∧ z < Θ.1) (hf : ∃ g, FtN G g z) (c1 : Θ.2.2 5 z = 1 → ∃ p, p < 24 ∧ Θ.2.2 11 z = Int32.ofNat p) (c3 : Θ.2.2 5 z = 3 → ∃ v, v < 16 ∧ Θ.2.2 11 z = 2 + Int32.ofNat v) (cc : Θ.2.2 5 z = 4 ∨ Θ.2.2 5 z = 7 → ∃ l, Θ.2.2 10 z = Int32.ofNat l ∧ l < 2 * nb) (ck : G z ≠ [] → Θ.2.2 5 z = 4 ∨ Θ.2.2 5 z = 5 ∨ Θ.2.2 5 z = 6 ∨ Θ.2.2 5 z = 7 ∨ Θ.2.2 5 z = 8 ∨ Θ.2.2 5 z = 9) (cl : Θ.2.2 5 z = 6 ∨ Θ.2.2 5 z = 9 → (G z).length ≤ 1) : ShN Θ G nb z := by
  obtain ⟨h1, h2⟩ := hT.chl hz hf
  refine ⟨⟨hz.1, hz.2, by have := hT.1.2; omega⟩, ?_, cc, h1, h2, ck, cl⟩
  by_cases k1 : Θ.2.2 5 z = 1
  · obtain ⟨p, p1, p2⟩ := c1 k1
    exact ⟨p, p2, by omega, fun _ => p1, fun y => absurd (k1.symm.trans y) (by decide), fun y => absurd (k1.symm.trans y) (by decide)⟩
  by_cases k3 : Θ.2.2 5 z = 3
  · obtain ⟨v, v1, v2⟩ := c3 k3
    exact ⟨2 + v, by rw [v2, Int32.ofNat_add]; rfl, by omega, fun y => absurd y k1, fun y => absurd (k3.symm.trans y) (by decide), fun _ => by omega⟩
  · obtain ⟨cd, d1, d2, d3⟩ := hA.2 z hz.1 hz.2 k1 k3
    exact ⟨cd, d1, d2, fun y => absurd y k1, d3, fun y => absurd y k3⟩
end
section
variable {W : Wo} {m zn fn hi : Nat} {u : Vwr}
theorem rl_le {R : Nat → Nat → Nat → Nat → Prop} (h : ∀ d c p q, R d c p q → p ≤ q) : ∀ (ds cs : List Nat) (p p' : Nat), RpLs R ds cs p p' → p ≤ p' ∧ ∀ c, c ∈ cs → ∃ d q q', R d c q q' ∧ q' ≤ p'
  | [], [], p, p', k => by
    have k : p' = p := k
    exact ⟨by omega, fun c hc => absurd hc List.not_mem_nil⟩
  | d :: ds, c :: cs, p, p', ⟨pm, k1, k2⟩ => by
    obtain ⟨q1, q2⟩ := rl_le h ds cs pm p' k2
    have := h _ _ _ _ k1
    refine ⟨by omega, fun e he => ?_⟩
    rcases List.mem_cons.mp he with y | y
    · rw [y]; exact ⟨d, p, pm, k1, q1⟩
    · exact q2 e y
  | [], _ :: _, _, _, k => False.elim k
  | _ :: _, [], _, _, k => False.elim k
theorem RpN.le : ∀ (g : Nat) (cx : List (Option Nat)) (y x p p' : Nat), RpN W m zn fn u hi g cx y x p p' → p ≤ p'
  | 0, _, _, _, _, _, k => by unfold RpN at k; exact k.elim
  | g + 1, cx, y, x, p, p', k => by
    unfold RpN at k
    obtain ⟨-, k⟩ := k
    rcases k with ⟨a1, c', b1, b2⟩ | ⟨a1, b1, b2, b3⟩ | ⟨-, -, -, -, e⟩ | ⟨-, -, -, -, -, e⟩ | ⟨-, -, -, -, -, e⟩ | ⟨-, -, -, -, -, e⟩ | ⟨a1, b1, c1, c2, d1, pm, b2, b3, b4⟩ | ⟨a1, b1, c', d, b2, b3, b4⟩ | ⟨a1, b1, b5, c', d, b2, b3, b4⟩ | ⟨a1, b1, b2, b3⟩ | ⟨a1, b1, c', d, t, b2, b3, b4, b5⟩
    · exact RpN.le g _ _ _ _ _ b2
    · exact (rl_le (fun d c p q h => RpN.le g _ _ _ _ _ h) _ _ _ _ b3).1
    · omega
    · omega
    · omega
    · omega
    · have q1 := RpN.le g _ _ _ _ _ b3
      rcases b4 with ⟨-, -, -, e⟩ | ⟨d2, -, b5⟩
      · omega
      · have := RpN.le g _ _ _ _ _ b5
        omega
    · exact RpN.le g _ _ _ _ _ b4
    · exact RpN.le g _ _ _ _ _ b4
    · exact (rl_le (fun d c p q h => RpN.le g _ _ _ _ _ h) _ _ _ _ b3).1
    · exact RpN.le g _ _ _ _ _ b5
end
section
variable {τ : Td} {m hi : Nat} {σ : PS} {γ : Gh} {u : Vwr}
theorem cd_lit {P : Nat} {l : Int32} (hg : giT τ σ γ) (h : CdW (woS τ m σ γ) m σ.2.2.2.length P l) : ∃ k, l = Int32.ofNat k ∧ k < 2 * σ.2.1.2.2.1.length := by
  obtain ⟨f, c, -, hc, -, -, -, e⟩ := h
  obtain ⟨-, z1, z2, -⟩ := hg.2.1
  exact ⟨_, e, z2 c (by rw [z1]; exact hc)⟩
theorem if_lit {f : Nat} {l : Int32} (hg : giT τ σ γ) (hf : f < (ifS σ).length) (e : l = woF (woS τ m σ γ) f) : ∃ k, l = Int32.ofNat k ∧ k < 2 * σ.2.1.2.2.1.length := by
  obtain ⟨k, e1, e2, e3, -⟩ := hg.2.2 f hf
  have hr := hg.2.1.1.1.1
  have e : l = (ifS σ).getD f 0 := e
  exact ⟨k, e.trans e1, by rw [hr] at e3; omega⟩
theorem RpN.sh (hg : giT τ σ γ) (hA : CdA (trS σ)) : ∀ (g : Nat) (cx : List (Option Nat)) (y x p p' : Nat), RpN (woS τ m σ γ) m σ.2.2.2.length (ifS σ).length u hi g cx y x p p' → p' ≤ 24 → 1 ≤ x ∧ x < (trS σ).1 → ∀ z, z ∈ noL γ.1 g x → ShN (trS σ) γ.1 σ.2.1.2.2.1.length z
  | 0, _, _, _, _, _, k, _, _, _, _ => by unfold RpN at k; exact k.elim
  | g + 1, cx, y, x, p, p', k, hp, hx, z, hz => by
    have ft : FtN γ.1 (g + 1) x := RpN.ft (g + 1) _ _ _ _ _ k
    have kk := k
    unfold RpN at k
    obtain ⟨-, k⟩ := k
    have bd : ∀ c, c ∈ γ.1 x → 1 ≤ c ∧ c < (trS σ).1 := (hg.1.2.1 x hx.1 hx.2).2.2.1
    have self : ((trS σ).2.2 5 x = 1 → ∃ p, p < 24 ∧ (trS σ).2.2 11 x = Int32.ofNat p) → ((trS σ).2.2 5 x = 3 → ∃ v, v < 16 ∧ (trS σ).2.2 11 x = 2 + Int32.ofNat v) → ((trS σ).2.2 5 x = 4 ∨ (trS σ).2.2 5 x = 7 → ∃ l, (trS σ).2.2 10 x = Int32.ofNat l ∧ l < 2 * σ.2.1.2.2.1.length) → (γ.1 x ≠ [] → (trS σ).2.2 5 x = 4 ∨ (trS σ).2.2 5 x = 5 ∨ (trS σ).2.2 5 x = 6 ∨ (trS σ).2.2 5 x = 7 ∨ (trS σ).2.2 5 x = 8 ∨ (trS σ).2.2 5 x = 9) → ((trS σ).2.2 5 x = 6 ∨ (trS σ).2.2 5 x = 9 → (γ.1 x).length ≤ 1) → ShN (trS σ) γ.1 σ.2.1.2.2.1.length x := fun c1 c3 cc ck cl => sh_of hg.1 hA hx ⟨_, ft⟩ c1 c3 cc ck cl
    have sub : (∀ c, c ∈ γ.1 x → ∀ z, z ∈ noL γ.1 g c → ShN (trS σ) γ.1 σ.2.1.2.2.1.length z) → ShN (trS σ) γ.1 σ.2.1.2.2.1.length x → ShN (trS σ) γ.1 σ.2.1.2.2.1.length z := fun h1 h2 => by
      rcases List.mem_cons.mp hz with e | e
      · rw [e]; exact h2
      · obtain ⟨c, m1, m2⟩ := List.mem_flatMap.mp e
        exact h1 c m1 z m2
    have no : ∀ {a b : Int32} {q : Prop}, (trS σ).2.2 5 x = a → a ≠ b → (trS σ).2.2 5 x = b → q := fun e n f => absurd (e.symm.trans f) n
    rcases k with ⟨a1, c', b1, b2⟩ | ⟨a1, b1, b2, b3⟩ | ⟨a1, a2, -⟩ | ⟨a1, a4, a2, -, -, e⟩ | ⟨a1, a2, -⟩ | ⟨a1, a2, -, -, ⟨v, v1, v2, -⟩, -⟩ | ⟨a1, b1, c1, c2, d1, pm, b2, b3, b4⟩ | ⟨a1, b1, c', d, b2, b3, b4⟩ | ⟨a1, b1, ⟨j, j1, j2, j3⟩, c', d, b2, b3, b4⟩ | ⟨a1, b1, b2, b3⟩ | ⟨a1, b1, c', d, t, b2, b3, b4, b5⟩
    · have a1 : (trS σ).2.2 5 x = 5 := a1
      have b1 : γ.1 x = [c'] := b1
      refine sub (fun c hc z hz => ?_) (self (no a1 (by decide)) (no a1 (by decide)) (fun q => q.elim (no a1 (by decide)) (no a1 (by decide))) (fun _ => Or.inr (Or.inl a1)) (fun q => q.elim (no a1 (by decide)) (no a1 (by decide))))
      have hb := bd c hc
      rw [b1] at hc
      rw [List.mem_singleton.mp hc] at hz hb
      exact RpN.sh hg hA g _ _ _ _ _ b2 hp hb z hz
    · have a1 : (trS σ).2.2 5 x = 5 := a1
      refine sub (fun c hc z hz => ?_) (self (no a1 (by decide)) (no a1 (by decide)) (fun q => q.elim (no a1 (by decide)) (no a1 (by decide))) (fun _ => Or.inr (Or.inl a1)) (fun q => q.elim (no a1 (by decide)) (no a1 (by decide))))
      obtain ⟨d, q, q', w1, w2⟩ := (rl_le (fun d c p q h => RpN.le g _ _ _ _ _ h) _ _ _ _ b3).2 c hc
      exact RpN.sh hg hA g _ _ _ _ _ w1 (by omega) (bd c hc) z hz
    · have a1 : (trS σ).2.2 5 x = 0 := a1
      have a2 : γ.1 x = [] := a2
      exact sub (fun c hc => by rw [a2] at hc; exact absurd hc List.not_mem_nil) (self (no a1 (by decide)) (no a1 (by decide)) (fun q => q.elim (no a1 (by decide)) (no a1 (by decide))) (fun q => absurd a2 q) (fun q => q.elim (no a1 (by decide)) (no a1 (by decide))))
    · have a1 : (trS σ).2.2 5 x = 1 := a1
      have a2 : γ.1 x = [] := a2
      exact sub (fun c hc => by rw [a2] at hc; exact absurd hc List.not_mem_nil) (self (fun _ => ⟨p, by omega, a4⟩) (no a1 (by decide)) (fun q => q.elim (no a1 (by decide)) (no a1 (by decide))) (fun q => absurd a2 q) (fun q => q.elim (no a1 (by decide)) (no a1 (by decide))))
    · have a1 : (trS σ).2.2 5 x = 2 := a1
      have a2 : γ.1 x = [] := a2
      exact sub (fun c hc => by rw [a2] at hc; exact absurd hc List.not_mem_nil) (self (no a1 (by decide)) (no a1 (by decide)) (fun q => q.elim (no a1 (by decide)) (no a1 (by decide))) (fun q => absurd a2 q) (fun q => q.elim (no a1 (by decide)) (no a1 (by decide))))
    · have a1 : (trS σ).2.2 5 x = 3 := a1
      have a2 : γ.1 x = [] := a2
      exact sub (fun c hc => by rw [a2] at hc; exact absurd hc List.not_mem_nil) (self (no a1 (by decide)) (fun _ => ⟨v, v1, v2⟩) (fun q => q.elim (no a1 (by decide)) (no a1 (by decide))) (fun q => absurd a2 q) (fun q => q.elim (no a1 (by decide)) (no a1 (by decide))))
    · have a1 : (trS σ).2.2 5 x = 4 := a1
      have b2 : γ.1 x = [c1, c2] := b2
      refine sub (fun c hc z hz => ?_) (self (no a1 (by decide)) (no a1 (by decide)) (fun _ => ?_) (fun _ => Or.inl a1) (fun q => q.elim (no a1 (by decide)) (no a1 (by decide))))
      · have hb := bd c hc
        rw [b2] at hc
        have q1 := RpN.le g _ _ _ _ _ b3
        rcases List.mem_cons.mp hc with e | e
        · rw [e] at hz hb
          have hpm : pm ≤ 24 := by
            rcases b4 with ⟨-, -, -, e⟩ | ⟨d2, -, b5⟩
            · omega
            · have := RpN.le g _ _ _ _ _ b5
              omega
          exact RpN.sh hg hA g _ _ _ _ _ b3 hpm hb z hz
        · rw [List.mem_singleton.mp e] at hz hb
          rcases b4 with ⟨-, f1, f2, -⟩ | ⟨d2, -, b5⟩
          · have f1 : (trS σ).2.2 5 c2 = 0 := f1
            have f2 : γ.1 c2 = [] := f2
            have no2 : ∀ {b : Int32} {q : Prop}, (0 : Int32) ≠ b → (trS σ).2.2 5 c2 = b → q := fun n f => absurd (f1.symm.trans f) n
            have e2 : z = c2 := by
              cases g with
              | zero => exact absurd hz List.not_mem_nil
              | succ g =>
                rcases List.mem_cons.mp hz with e | e
                · exact e
                · rw [f2] at e; exact absurd e List.not_mem_nil
            rw [e2]
            exact sh_of hg.1 hA hb ⟨1, fun c hc => by rw [f2] at hc; exact absurd hc List.not_mem_nil⟩ (no2 (by decide)) (no2 (by decide)) (fun q => q.elim (no2 (by decide)) (no2 (by decide))) (fun q => absurd f2 q) (fun q => q.elim (no2 (by decide)) (no2 (by decide)))
          · exact RpN.sh hg hA g _ _ _ _ _ b5 hp hb z hz
      · rcases b1 with ⟨-, j, -, -, w⟩ | ⟨-, j, f, -, -, w1, -, w2⟩
        · exact cd_lit hg w
        · exact if_lit hg w1 w2.1
    · have a1 : (trS σ).2.2 5 x = 6 := a1
      have b2 : γ.1 x = [c'] := b2
      refine sub (fun c hc z hz => ?_) (self (no a1 (by decide)) (no a1 (by decide)) (fun q => q.elim (no a1 (by decide)) (no a1 (by decide))) (fun _ => Or.inr (Or.inr (Or.inl a1))) (fun _ => by rw [b2]; exact Nat.le_refl _))
      have hb := bd c hc
      rw [b2] at hc
      rw [List.mem_singleton.mp hc] at hz hb
      exact RpN.sh hg hA g _ _ _ _ _ b4 hp hb z hz
    · have a1 : (trS σ).2.2 5 x = 7 := a1
      have b2 : γ.1 x = [c'] := b2
      refine sub (fun c hc z hz => ?_) (self (no a1 (by decide)) (no a1 (by decide)) (fun _ => cd_lit hg j3) (fun _ => Or.inr (Or.inr (Or.inr (Or.inl a1)))) (fun q => q.elim (no a1 (by decide)) (no a1 (by decide))))
      have hb := bd c hc
      rw [b2] at hc
      rw [List.mem_singleton.mp hc] at hz hb
      exact RpN.sh hg hA g _ _ _ _ _ b4 hp hb z hz
    · have a1 : (trS σ).2.2 5 x = 8 := a1
      refine sub (fun c hc z hz => ?_) (self (no a1 (by decide)) (no a1 (by decide)) (fun q => q.elim (no a1 (by decide)) (no a1 (by decide))) (fun _ => Or.inr (Or.inr (Or.inr (Or.inr (Or.inl a1))))) (fun q => q.elim (no a1 (by decide)) (no a1 (by decide))))
      obtain ⟨d, q, q', w1, w2⟩ := (rl_le (fun d c p q h => RpN.le g _ _ _ _ _ h) _ _ _ _ b3).2 c hc
      exact RpN.sh hg hA g _ _ _ _ _ w1 (by omega) (bd c hc) z hz
    · have a1 : (trS σ).2.2 5 x = 9 := a1
      have b2 : γ.1 x = [c'] := b2
      refine sub (fun c hc z hz => ?_) (self (no a1 (by decide)) (no a1 (by decide)) (fun q => q.elim (no a1 (by decide)) (no a1 (by decide))) (fun _ => Or.inr (Or.inr (Or.inr (Or.inr (Or.inr a1))))) (fun _ => by rw [b2]; exact Nat.le_refl _))
      have hb := bd c hc
      rw [b2] at hc
      rw [List.mem_singleton.mp hc] at hz hb
      exact RpN.sh hg hA g _ _ _ _ _ b5 hp hb z hz
end
end
section
/-! a module that was read is one that can be woven -/
section
variable {b : Nat → Int32} {n s n0 l0 r0 i : Nat} {τ : Td} {M Ma M0 M2 M' : Mem} {σ : PS} {ps : List Nat} {Θ : TrT} {N : Nt} {S : Nat} {ro : List Int32}
theorem WvZ.nu (h : WvZ n0 l0 r0 Θ N M) (k : NuF (fun c => c = n0 ∨ c = 0) M M') : WvZ n0 l0 r0 Θ N M' := by
  obtain ⟨⟨⟨n1, n2⟩, n3, ⟨f5, f6, f9, f10, f11, f14⟩, n8, ⟨n9, n10⟩, ⟨n5, n6⟩, n7⟩, F, hT, hC, ⟨hA1, hA2⟩, ⟨g7, o3⟩, f15, f12, hem⟩ := h
  obtain ⟨⟨p1, p2, p3, p4, p5⟩, ⟨s1, s2, s3, s4, s5⟩⟩ := LcW.far (M0 := M) (Or.inl rfl) (Or.inl rfl) n3 n1 n2
  have E := k.e
  have fk := k.fre
  obtain ⟨⟨k1, k2, k3, k4⟩, ⟨k5, k6, k7, k8, k9⟩, k10⟩ := k
  have i8 : mI M' (n0 + 8) = mI M (n0 + 8) := k10 _ (by omega)
  have k0 : mK M 0 = 12 := (ok0 F).2
  have kn : mK M n0 = 3 := o3.2
  have kk : ∀ {c q : Nat}, (c = n0 ∨ c = 0) → mK M c = q → q = 3 ∨ q = 12 := by
    intro c q z e
    rcases z with z | z
    · rw [z, kn] at e; exact Or.inl e.symm
    · rw [z, k0] at e; exact Or.inr e.symm
  have al : ∀ {a : Nat}, a = n0 + 13 ∨ a = n0 + 14 → ALi M a (mBig + 5) [] → ALi M' a (mBig + 5) [] := by
    intro a ha hA
    refine hA.fr fk (fun z => by omega) (fun hb z => ?_) (fun d _ z w => ?_)
    · rcases kk z hb with q | q <;> exact absurd q (by decide)
    · rcases kk z w with q | q <;> exact absurd q (by decide)
  have nl : ∀ {c : Nat}, 132 ≤ c → c ≠ n0 → c < mN M → sameRow M M' c := fun z1 z2 z3 => fk.2 _ z3 (by omega)
  have l0n : l0 ≠ n0 := by unfold LrB at n3; omega
  have r0n : r0 ≠ n0 := by unfold LrB at n3; omega
  refine ⟨⟨⟨n1, by rw [k1]; exact n2⟩, n3, by rw [k6]; exact ⟨f5, f6, f9, f10, f11, f14⟩, fun c hc => ⟨ok_E (n8 c hc).1 E, by rw [k4]; exact (n8 c hc).2⟩, ⟨ok_E n9 E, by rw [k4]; exact n10⟩, ⟨ok_E n5 E, ok_E n6 E⟩, by rw [k1]; exact n7⟩, F.of_fr (S := fun _ => True) E (fun e _ => by rw [k6]) (by rw [k8]), ?_, hC.fr E (nl (by omega) (by omega) hC.1.1) (nl p1 l0n n5.1) (nl s1 r0n n6.1), ⟨al (Or.inl rfl) hA1, al (Or.inr rfl) hA2⟩, ⟨by rw [k6]; exact g7, ok_E o3 E⟩, by rw [i8]; exact f15, by rw [i8]; exact f12, fun q => by rw [k7]; exact hem q⟩
  obtain ⟨t1, t2, t3, t4, t5⟩ := hT
  have i4 : mI M' 4 = mI M 4 := k10 4 (by omega)
  exact ⟨by rw [i4]; exact t1, by rw [i4]; exact t2, t3, fun c c1 c2 => by rw [k7]; exact t4 c c1 c2, t5⟩
theorem FnB.nu (h : FnB n0 S ro M) (k : NuF (fun c => c = n0 ∨ c = 0) M M') (e9 : mI M' n0 9 = mI M n0 9) : FnB n0 S ro M' := by
  obtain ⟨o3, ⟨f9, S16⟩, ⟨f1, o2, l2, r2⟩, ⟨f13, o20, l20, r20⟩⟩ := h
  have E := k.e
  obtain ⟨⟨k1, k2, k3, k4⟩, ⟨k5, k6, k7, k8, k9⟩, k10⟩ := k
  exact ⟨ok_E o3 E, ⟨e9.trans f9, S16⟩, ⟨by rw [k6]; exact f1, ok_E o2 E, by rw [k4]; exact l2, fun j hj => by rw [k7]; exact r2 j hj⟩, ⟨by rw [k6]; exact f13, ok_E o20 E, by rw [k4]; exact l20, fun j hj => by rw [k7]; exact r20 j hj⟩⟩
/-- from what reading leaves -/
theorem wz_of (hC : CRd b n s τ Ma M0 M2 i σ ps) (hN : σ.2.1.2.2.1.length ≤ 40000) (hl : σ.2.1.2.2.2.2.2.1.length ≤ 40000) : ∃ lc rc pb ib, WvZ (mN Ma) lc rc (trS σ) σ.2.1.2.2.1 M2 ∧ FnB (mN Ma) τ.1.length τ.2.1 M2 ∧ LPt (mN Ma) M2 ps σ.2.1.1 (ifS σ) pb ib ∧ mR M2 (mN Ma) 6 = some (mN Ma + 7) := by
  obtain ⟨⟨hTI, ⟨lc, rc, cc, pb, ib, hQ⟩, -, -, -, -⟩, -, hM, hF, hb, -⟩ := hC
  obtain ⟨h1, -, ht, hL, -, h6, h7, h8, h9⟩ := id hQ
  obtain ⟨e1, b1, b2, b3, b4, b5, ⟨s1, s2, s3⟩, b6, ⟨u1, u2, u3⟩, b7, b8, b9⟩ := h1
  obtain ⟨⟨m1, m2⟩, ⟨m3, m4⟩, m5, ⟨m6, m7, m8⟩, ⟨m9, m10, m11, m12⟩, ⟨m13, m14⟩, -⟩ := hM
  obtain ⟨q1, q2, q3, q4, q5, q6, q7, q8⟩ := h6
  have row : ∀ c, c = mN Ma + 13 ∨ c = mN Ma + 14 ∨ c = mN Ma + 17 ∨ c = mN Ma + 18 ∨ c = mN Ma + 19 ∨ c = mN Ma + 21 → c < mN M0 → sameRow M0 M2 c := fun c hc hlt => q1.2 c hlt (by omega)
  have o21 := m10
  have al : ∀ {a : Nat}, a = mN Ma + 13 ∨ a = mN Ma + 14 → ALi M0 a (mBig + 5) [] → ALi M2 a (mBig + 5) [] := by
    intro a ha hA
    obtain ⟨l, ⟨a1, a2, a3, a4, a5, a6⟩, l2, l3⟩ := hA
    have el : l = [] := List.eq_nil_of_length_eq_zero l2
    subst el
    have rr := row a (by omega) a1.1
    exact ⟨[], ⟨ok_E a1 q1.1, by rw [rr.1]; exact a2, a3, fun v hv => absurd hv List.not_mem_nil, by rw [rr.2.2.1]; exact a5, Or.inl ⟨rfl, rfl⟩⟩, rfl, fun j hj => absurd hj (Nat.not_lt_zero _)⟩
  have r21 := row (mN Ma + 21) (by omega) m10.1
  have fR : ∀ {f v : Nat}, f ≠ 0 → f ≠ 1 → mR M0 (mN Ma + 8) f = some v → mR M2 (mN Ma + 8) f = some v := fun z1 z2 e => by rw [q5 _ z1 z2]; exact e
  refine ⟨lc, rc, pb, ib, ⟨⟨⟨b8, b9⟩, ⟨b2, b3⟩, ⟨fR (by decide) (by decide) m2, fR (by decide) (by decide) m4, fR (by decide) (by decide) m6, fR (by decide) (by decide) m7, fR (by decide) (by decide) m8, fR (by decide) (by decide) m9⟩, fun c hc => ⟨ok_E (m5 c hc).1 q1.1, ((q1.1.2.2 _ (m5 c hc).1.1).2).trans (m5 c hc).2⟩, ⟨ok_E m10 q1.1, ((q1.1.2.2 _ m10.1).2).trans m11⟩, ⟨b1.2.2.1, b1.2.2.2.2.1⟩, ?_⟩, hTI.1, ht, b1, ⟨al (Or.inl rfl) m1, al (Or.inr rfl) m3⟩, ⟨b4, e1.1⟩, by rw [q4 15 (by decide)]; exact m14, by rw [q4 12 (by decide)]; exact m13, fun k => by rw [r21.2.2.2.1]; exact m12 k⟩, ⟨e1.1, ⟨e1.2.2.1, e1.2.1.1⟩, ⟨e1.2.2.2.2.2.2.1, e1.2.2.2.2.2.2.2.1⟩, ?_⟩, hL, h8.1⟩
  · obtain ⟨c1, -, c3⟩ := h7
    obtain ⟨d1, d2, d3⟩ := h9
    omega
  · refine ⟨b5, s1, s2, fun j hj => ?_⟩
    have := (s3 j (by have := e1.2.1.1; omega)).1
    rw [this]
    unfold sgT
    rw [if_pos hj, show 4 + 2 * j = 2 * (2 + j) by omega]
end
end
section
/-! the weaver, whole -/
section
variable {n0 l0 r0 nb : Nat} {Θ : TrT} {G : Nat → List Nat} {N : Nt} {Ro : List (Nat × Nat)} {M : Mem} {h x : Nat} {Q : Option Value → Mem → Prop}
theorem WvZ.kd {c : Nat} (hZ : WvZ n0 l0 r0 Θ N M) (hc : wvS n0 l0 r0 c) : mK M c = 11 ∨ mK M c = 21 ∨ mK M c = 2 ∨ mK M c = 1 := by
  obtain ⟨⟨-, -, -, n8, ⟨n9, -⟩, ⟨n5, n6⟩, -⟩, F, -, hC, ⟨hA1, hA2⟩, -⟩ := hZ
  unfold wvS at hc
  rcases hc with z | z | z | z | z | z | z | z
  · have : c = 21 ∨ c = 22 ∨ c = 23 ∨ c = 24 ∨ c = 25 ∨ c = 26 ∨ c = 27 ∨ c = 28 := by omega
    rcases this with e | e | e | e | e | e | e | e <;> rw [e]
    · exact Or.inl (ok21 F).2
    · exact Or.inr (Or.inl (ok22 F).2)
    · exact Or.inr (Or.inl (ok23 F).2)
    · exact Or.inr (Or.inl (ok24 F).2)
    · exact Or.inr (Or.inl (ok25 F).2)
    · exact Or.inr (Or.inl (ok26 F).2)
    · exact Or.inr (Or.inl (ok27 F).2)
    · exact Or.inr (Or.inl (ok28 F).2)
  · rw [z]; exact Or.inr (Or.inr (Or.inl hC.1.2))
  · rw [z]; exact Or.inr (Or.inl n5.2)
  · rw [z]; exact Or.inr (Or.inl n6.2)
  · rw [z]; exact Or.inr (Or.inr (Or.inr hA1.ok1.2))
  · rw [z]; exact Or.inr (Or.inr (Or.inr hA2.ok1.2))
  · have : c = n0 + 17 ∨ c = n0 + 18 ∨ c = n0 + 19 := by omega
    rcases this with e | e | e <;> rw [e]
    · exact Or.inr (Or.inl (n8 17 (Or.inl rfl)).1.2)
    · exact Or.inr (Or.inl (n8 18 (Or.inr (Or.inl rfl))).1.2)
    · exact Or.inr (Or.inl (n8 19 (Or.inr (Or.inr rfl))).1.2)
  · rw [z]; exact Or.inr (Or.inl n9.2)
/-- what weaving leaves: the walk's end, signals closed, parts told -/
def WvE (n0 l0 r0 S : Nat) (ro : List Int32) (Θ : TrT) (G : Nat → List Nat) (N : Nt) (Ro : List (Nat × Nat)) (g x : Nat) (ps : List Nat) (xs : Nat → Nat) (M M' : Mem) : Prop := ∃ Ψ1 Ψ2 P zp M1, WkQ Θ G n0 g x (N, Ro, []) (up4 (mAI M) x 2 3 0 0) 0 Ψ1 P zp ∧ FiQ ro (P (n0 + 21)) S Ψ1 Ψ2 ∧ RoW Ψ1 ∧ WvP n0 l0 r0 N.length Θ M Ψ2 M1 ∧ RwP n0 P zp M1 ∧ mI M1 (n0 + 8) 16 = P 28 (x * 20) ∧ NuF (fun c => ∃ j, j < ps.length ∧ c = ps.getD j 0) M1 M' ∧ ∀ j, j < ps.length → (∀ f, f < 8 → mI M' (ps.getD j 0) f = mI M (ps.getD j 0) f) ∧ TpV Θ P M' (ps.getD j 0) (xs j)
theorem W_all {g S pb : Nat} {ro : List Int32} {ps : List Nat} {xs : Nat → Nat} (hZ : WvZ n0 l0 r0 Θ N M) (hR : RoW (N, Ro, [])) (hN : 2 ≤ N.length ∧ N.length < 40000) (hf : ∀ z y y', z ∈ G y → z ∈ G y' → y = y') (hft : FtN G g x) (hnd : (noL G g x).Nodup) (hsh : ∀ z, z ∈ noL G g x → ShN Θ G nb z) (hlen : (noL G g x).length ≤ 400) (hnb : nb ≤ N.length) (e16 : mI M n0 16 = Int32.ofNat x) (p9 : Θ.2.2 9 x = 0) (p8 : Θ.2.2 8 x = 0) (k5 : Θ.2.2 5 x ≠ 8) (k0 : Θ.2.2 5 0 = 0) (hF : FnB n0 S ro M) (hro : ∀ t, t < S → 2 + t < N.length ∧ (Ro.getD (2 + t) (0, 0)).1 ≠ 0 ∧ (Ro.getD (2 + t) (0, 0)).1 ≠ 6) (f6 : mR M n0 6 = some (n0 + 7)) (hA : ALp M (n0 + 7) pb 5 ps) (hps : ∀ j, j < ps.length → ok M (ps.getD j 0) 5 ∧ mI M (ps.getD j 0) 1 = Int32.ofNat (xs j) ∧ xs j < 640) (hpn : ∀ i j, i < ps.length → j < ps.length → ps.getD i 0 = ps.getD j 0 → i = j) (hl : ps.length ≤ 1000) (K : ∀ M', WvE n0 l0 r0 S ro Θ G N Ro g x ps xs M M' → Q none M') : E (h + 10) mdX9_weave [.ref 21, .ref n0] M Q := by
  have hs := hsh x (noL_hd hft)
  obtain ⟨⟨x1, x2, x3⟩, -⟩ := id hs
  obtain ⟨hB, F, hT, hC, -, ⟨f7, o3⟩, -, -, hem⟩ := id hZ
  obtain ⟨⟨n1, n2⟩, n3, -⟩ := id hB
  refine W_wv (h := h) hZ hR hN hf hft hnd hsh hlen hnb e16 p9 p8 k5 k0 (fun M1 Ψ1 P zp W1 R1 q => ?_)
  obtain ⟨F1, -, -, -, hR1, -⟩ := W1.sees hB
  obtain ⟨g1, b1, -, -, -, -, ex⟩ := id q
  have g1l : N.length ≤ Ψ1.1.length := g1.1.1
  have b1 : Ψ1.1.length + 62 * (G x).length + 113 ≤ N.length + 115 * (noL G g x).length := b1.1
  unfold DX9_weave_137
  refine ⟨ok21 F1, W_fin1 (h := h + 7) hB W1 R1 (by omega) hF (fun t ht => ?_) ex.1 x3 e16 (fun M2 Ψ2 W2 R2 i16 fq => ?_)⟩
  · have y := hro t ht
    refine ⟨by omega, ?_⟩
    rw [g1.1.2.2.1 (2 + t) y.1]
    exact y.2
  · obtain ⟨F2, hT2, -, -, hR2, -⟩ := W2.sees hB
    obtain ⟨lc, rc, b1, b2, hls, hH⟩ := id W2
    have fw := hH.2.2.2.2.2.1.1
    have rown : ∀ c, c < mN M → ¬ wvS n0 l0 r0 c → sameRow M M2 c := fun c z y => fw.2 c z y
    have nS0 : ¬ wvS n0 l0 r0 n0 := fun z => by unfold wvS at z; unfold LrB at n3; omega
    have nS7 : ¬ wvS n0 l0 r0 (n0 + 7) := fun z => by unfold wvS at z; unfold LrB at n3; omega
    have nSp : ∀ j, j < ps.length → ¬ wvS n0 l0 r0 (ps.getD j 0) := fun j hj z => by
      have k := (hps j hj).1.2
      rcases hZ.kd z with e | e | e | e <;> (rw [k] at e; exact absurd e (by decide))
    have A2 : ALp M2 (n0 + 7) pb 5 ps := hA.fr fw nS7 (fun hk z => by
      rcases hZ.kd z with e | e | e | e <;> (rw [hk] at e; exact absurd e (by decide)))
    have r0' := rown n0 (by omega) nS0
    refine W_fin2 (h := h + 5) (Θ := Θ) (P := P) (xs := xs) F2 (ok_E o3 fw.1) (by rw [r0'.2.2.1]; exact f6) A2 (fun j hj => ?_) hpn (hT2.2.2.2.1 12 (by decide) (by decide)) (fun j => R2.1 22 j (Or.inl (by omega))) (fun j => R2.1 28 j (Or.inl (by omega))) hl (fun M3 N3 t3 _ => ⟨rfl, K M3 ⟨Ψ1, Ψ2, P, zp, M2, q, fq, hR1, W2, R2, i16, N3, fun j hj => ⟨fun f hf => ?_, (t3 j hj).2⟩⟩⟩)
    · have y := hps j hj
      have rp := rown _ y.1.1 (nSp j hj)
      exact ⟨ok_E y.1 fw.1, by rw [rp.1]; exact y.2.1, y.2.2⟩
    · have y := hps j hj
      have rp := rown _ y.1.1 (nSp j hj)
      rw [(t3 j hj).1 f hf, rp.1]
end
end
section
/-! a reading's tree is finite, and every node of it may be woven -/
section
variable {G : Nat → List Nat} {S : Nat → Prop}
theorem noL_mo : ∀ (g g' x : Nat), g ≤ g' → FtN G g x → noL G g' x = noL G g x
  | 0, _, _, _, h => False.elim h
  | g + 1, 0, _, h, _ => absurd h (by omega)
  | g + 1, g' + 1, x, h, k => by
    show x :: (G x).flatMap (noL G g') = x :: (G x).flatMap (noL G g)
    have e : ∀ l : List Nat, (∀ c, c ∈ l → c ∈ G x) → l.flatMap (noL G g') = l.flatMap (noL G g) := by
      intro l
      induction l with
      | nil => intro _; rfl
      | cons c cs ih =>
        intro hc
        rw [List.flatMap_cons, List.flatMap_cons, ih (fun d hd => hc d (List.mem_cons_of_mem _ hd)), noL_mo g g' c (by omega) (k c (hc c List.mem_cons_self))]
    rw [e (G x) (fun _ z => z)]
/-- finite below x, all nodes with S -/
def GdN (G : Nat → List Nat) (S : Nat → Prop) (x : Nat) : Prop := ∃ g, FtN G g x ∧ ∀ z, z ∈ noL G g x → S z
theorem gdn_l : ∀ (l : List Nat), (∀ c, c ∈ l → GdN G S c) → ∃ g, ∀ c, c ∈ l → FtN G g c ∧ ∀ z, z ∈ noL G g c → S z
  | [], _ => ⟨0, fun c hc => absurd hc List.not_mem_nil⟩
  | d :: l, h => by
    obtain ⟨g1, h1⟩ := gdn_l l (fun c hc => h c (List.mem_cons_of_mem _ hc))
    obtain ⟨g2, h2, h3⟩ := h d List.mem_cons_self
    refine ⟨max g1 g2, fun c hc => ?_⟩
    rcases List.mem_cons.mp hc with e | e
    · rw [e]
      exact ⟨FtN.mo g2 _ d (Nat.le_max_right _ _) h2, fun z hz => h3 z (by rw [noL_mo g2 _ d (Nat.le_max_right _ _) h2] at hz; exact hz)⟩
    · have q := h1 c e
      exact ⟨FtN.mo g1 _ c (Nat.le_max_left _ _) q.1, fun z hz => q.2 z (by rw [noL_mo g1 _ c (Nat.le_max_left _ _) q.1] at hz; exact hz)⟩
theorem GdN.nd {x : Nat} (hs : S x) (hc : ∀ c, c ∈ G x → GdN G S c) : GdN G S x := by
  obtain ⟨g, h⟩ := gdn_l (G x) hc
  refine ⟨g + 1, fun c hc => (h c hc).1, fun z hz => ?_⟩
  rcases List.mem_cons.mp hz with e | e
  · rw [e]; exact hs
  · obtain ⟨c, m1, m2⟩ := List.mem_flatMap.mp e
    exact (h c m1).2 z m2
end
def litN (nb : Nat) (l : Int32) : Prop := ∃ k, l = Int32.ofNat k ∧ k < 2 * nb
/-- what a node's kind asks -/
def KsN (W : Wo) (nb z : Nat) : Prop := ((woV W z).1 = 1 → ∃ p, p < 24 ∧ (woV W z).2.2.1 = Int32.ofNat p) ∧ ((woV W z).1 = 3 → ∃ v, v < 16 ∧ (woV W z).2.2.1 = 2 + Int32.ofNat v) ∧ ((woV W z).1 = 4 ∨ (woV W z).1 = 7 → litN nb (woV W z).2.1) ∧ ((woV W z).2.2.2 ≠ [] → (woV W z).1 = 4 ∨ (woV W z).1 = 5 ∨ (woV W z).1 = 6 ∨ (woV W z).1 = 7 ∨ (woV W z).1 = 8 ∨ (woV W z).1 = 9) ∧ ((woV W z).1 = 6 ∨ (woV W z).1 = 9 → (woV W z).2.2.2.length ≤ 1)
abbrev GdW (W : Wo) (nb x : Nat) : Prop := GdN (chV W) (KsN W nb) x
section
variable {W : Wo} {nb lo hi x : Nat} {k d l : Int32} {cs : List Nat}
theorem gw_lf (h : lfS (woV W) lo hi x k d) (k1 : k = 1 → ∃ p, p < 24 ∧ d = Int32.ofNat p) (k3 : k = 3 → ∃ v, v < 16 ∧ d = 2 + Int32.ofNat v) (kc : k ≠ 4 ∧ k ≠ 7) : GdW W nb x := by
  obtain ⟨-, h1, h2, h3⟩ := h
  refine GdN.nd ⟨?_, ?_, ?_, ?_, ?_⟩ (fun c hc => ?_)
  · rw [h1, h2]; exact k1
  · rw [h1, h2]; exact k3
  · rw [h1]; exact fun q => q.elim (fun e => absurd e kc.1) (fun e => absurd e kc.2)
  · exact fun q => absurd h3 q
  · intro _; rw [h3]; exact Nat.zero_le _
  · have hc : c ∈ (woV W x).2.2.2 := hc
    rw [h3] at hc; exact absurd hc List.not_mem_nil
theorem gw_nd (h : ndS (woV W) lo hi x k l cs) (hk : k = 4 ∨ k = 5 ∨ k = 6 ∨ k = 7 ∨ k = 8 ∨ k = 9) (kc : k = 4 ∨ k = 7 → litN nb l) (kl : k = 6 ∨ k = 9 → cs.length ≤ 1) (hc : ∀ c, c ∈ cs → GdW W nb c) : GdW W nb x := by
  obtain ⟨-, h1, h2, h3⟩ := h
  refine GdN.nd ⟨?_, ?_, ?_, ?_, ?_⟩ (fun c hm => ?_)
  · rw [h1]; intro e; rw [e] at hk; exact absurd hk (by decide)
  · rw [h1]; intro e; rw [e] at hk; exact absurd hk (by decide)
  · rw [h1, h2]; exact kc
  · rw [h1]; exact fun _ => hk
  · rw [h1, h3]; exact kl
  · have hm : c ∈ (woV W x).2.2.2 := hm
    rw [h3] at hm; exact hc c hm
theorem gw_1 {y : Nat} (h : GdW W nb y) : ∀ c, c ∈ [y] → GdW W nb c := fun c hc => by rw [List.mem_singleton.mp hc]; exact h
theorem gw_2 {y z : Nat} (h : GdW W nb y) (k : GdW W nb z) : ∀ c, c ∈ [y, z] → GdW W nb c := fun c hc => by
  rcases List.mem_cons.mp hc with e | e
  · rw [e]; exact h
  · rw [List.mem_singleton.mp e]; exact k
theorem gw_p {p : Nat} (h : lfS (woV W) lo hi x 1 (Int32.ofNat p)) (hp : p < 24) : GdW W nb x := gw_lf h (fun _ => ⟨p, hp, rfl⟩) (fun e => absurd e (by decide)) ⟨by decide, by decide⟩
theorem gw_0 (h : lfS (woV W) lo hi x 0 0) : GdW W nb x := gw_lf h (fun e => absurd e (by decide)) (fun e => absurd e (by decide)) ⟨by decide, by decide⟩
theorem gw_e {v : Nat} (h : lfS (woV W) lo hi x 2 (Int32.ofNat v)) : GdW W nb x := gw_lf h (fun e => absurd e (by decide)) (fun e => absurd e (by decide)) ⟨by decide, by decide⟩
theorem gw_x (h : lfS (woV W) lo hi x 3 2) : GdW W nb x := gw_lf h (fun e => absurd e (by decide)) (fun _ => ⟨0, by decide, rfl⟩) ⟨by decide, by decide⟩
theorem gw_6 {y : Nat} (h : ndS (woV W) lo hi x 6 0 [y]) (k : GdW W nb y) : GdW W nb x := gw_nd h (Or.inr (Or.inr (Or.inl rfl))) (fun e => absurd e (by decide)) (fun _ => Nat.le_refl _) (gw_1 k)
theorem gw_9 {y : Nat} (h : ndS (woV W) lo hi x 9 0 [y]) (k : GdW W nb y) : GdW W nb x := gw_nd h (Or.inr (Or.inr (Or.inr (Or.inr (Or.inr rfl))))) (fun e => absurd e (by decide)) (fun _ => Nat.le_refl _) (gw_1 k)
theorem gw_5 (h : ndS (woV W) lo hi x 5 0 cs) (k : ∀ c, c ∈ cs → GdW W nb c) : GdW W nb x := gw_nd h (Or.inr (Or.inl rfl)) (fun e => absurd e (by decide)) (fun e => absurd e (by decide)) k
theorem gw_8 (h : ndS (woV W) lo hi x 8 0 cs) (k : ∀ c, c ∈ cs → GdW W nb c) : GdW W nb x := gw_nd h (Or.inr (Or.inr (Or.inr (Or.inr (Or.inl rfl))))) (fun e => absurd e (by decide)) (fun e => absurd e (by decide)) k
theorem gw_4 (h : ndS (woV W) lo hi x 4 l cs) (hl : litN nb l) (k : ∀ c, c ∈ cs → GdW W nb c) : GdW W nb x := gw_nd h (Or.inl rfl) (fun _ => hl) (fun e => absurd e (by decide)) k
theorem gw_7 (h : ndS (woV W) lo hi x 7 l cs) (hl : litN nb l) (k : ∀ c, c ∈ cs → GdW W nb c) : GdW W nb x := gw_nd h (Or.inr (Or.inr (Or.inr (Or.inl rfl)))) (fun _ => hl) (fun e => absurd e (by decide)) k
theorem gw_ha {p : Nat} (h : haS (woV W) lo hi x p) (hp : p < 24) : GdW W nb x := by
  obtain ⟨y, h1, h2⟩ := h
  exact gw_6 h1 (gw_p h2 hp)
theorem gw_st {v p : Nat} (h : stS (woV W) lo hi x v p) (hp : p < 24) : GdW W nb x := by
  obtain ⟨sq, e, pa, h1, h2, h3, h4⟩ := h
  exact gw_6 h1 (gw_5 h2 (gw_2 (gw_e h3) (gw_p h4 hp)))
theorem gw_wa {im : Bool} {p : Nat} (h : waS (woV W) lo hi x l im p) (hl : litN nb l) (hp : p < 24) : GdW W nb x := by
  obtain ⟨sq, pa, ch, ex, no, h1, h2, h3, h4, h5, h6⟩ := h
  have c1 : GdW W nb ch := gw_4 h4 hl (gw_2 (gw_x h5) (gw_0 h6))
  refine gw_6 h1 (gw_5 h2 ?_)
  cases im with
  | true => exact gw_2 c1 (gw_p h3 hp)
  | false => exact gw_2 (gw_p h3 hp) c1
theorem gw_aw {im : Bool} {p : Nat} (h : awS (woV W) lo hi x l im p) (hl : litN nb l) (hp : p < 24) : GdW W nb x := by
  obtain ⟨y, h1, h2⟩ := h
  exact gw_9 h1 (gw_wa h2 hl hp)
theorem gw_wk {im : Bool} {p body : Nat} (h : wkS (woV W) lo hi x body l im p) (hl : litN nb l) (hp : p < 24) (hb : GdW W nb body) : GdW W nb x := by
  obtain ⟨par, sq, wa, ex, h1, h2, h3, h4, h5⟩ := h
  exact gw_9 h1 (gw_8 h2 (gw_2 (gw_5 h3 (gw_2 hb (gw_x h4))) (gw_wa h5 hl hp)))
theorem gw_ab {p body : Nat} (h : abS (woV W) lo hi x body l p) (hl : litN nb l) (hp : p < 24) (hb : GdW W nb body) : GdW W nb x := by
  obtain ⟨y, h1, h2⟩ := h
  exact gw_wk h2 hl hp (gw_7 h1 hl (gw_1 hb))
theorem gw_ai {im : Bool} {p body : Nat} (h : aiS (woV W) lo hi x body l im p) (hl : litN nb l) (hp : p < 24) (hb : GdW W nb body) : GdW W nb x := by
  unfold aiS at h
  cases im with
  | true =>
    rw [if_pos rfl] at h
    obtain ⟨no, y, h1, h2, h3⟩ := h
    exact gw_4 h1 hl (gw_2 (gw_0 h2) (gw_ab h3 hl hp hb))
  | false =>
    rw [if_neg (by decide)] at h
    exact gw_ab h hl hp hb
theorem gw_ev {p2 p3 body aw : Nat} (h : evS (woV W) lo hi x body aw l p2 p3) (hl : litN nb l) (h2 : p2 < 24) (h3 : p3 < 24) (ha : GdW W nb aw) (hb : GdW W nb body) : GdW W nb x := by
  obtain ⟨lp, ab, sq, hq, e1, e2, e3, e4, e5⟩ := h
  exact gw_5 e1 (gw_2 ha (gw_6 e2 (gw_ab e3 hl h3 (gw_5 e4 (gw_2 hb (gw_ha e5 h2))))))
end
section
variable {W : Wo} {nb m zn fn lo hi x j p pb : Nat} {k : Int32} {K : List KE} {ys : List Nat}
theorem gw_pk (hcl : ∀ P l, CdW W m zn P l → litN nb l) (hif : ∀ f, f < fn → litN nb (woF W f)) (h : PkS W m zn fn lo hi k K j p pb x ys) (hp : pb + (paK k - hpK k) ≤ 24) (hpp : opnK k = false → pb = p) (h53 : k = 53 → p < pb) (hys : ∀ c, c ∈ ys → GdW W nb c) : GdW W nb x := by
  unfold PkS at h
  by_cases k1 : k = 38
  · rw [if_pos k1] at h; rw [k1] at hp hpp; have := hpp rfl; have hp : pb + 1 ≤ 24 := hp; exact gw_p h.1 (by omega)
  rw [if_neg k1] at h
  by_cases k2 : k = 39
  · rw [if_pos k2] at h; rw [k2] at hp hpp; have := hpp rfl; have hp : pb + 1 ≤ 24 := hp; exact gw_ha h.1 (by omega)
  rw [if_neg k2] at h
  by_cases k3 : k = 40
  · rw [if_pos k3] at h; obtain ⟨⟨v, -, h⟩, -⟩ := h; exact gw_e h
  rw [if_neg k3] at h
  by_cases k4 : k = 41
  · rw [if_pos k4] at h; rw [k4] at hp hpp; have := hpp rfl; have hp : pb + 1 ≤ 24 := hp; obtain ⟨⟨v, -, h⟩, -⟩ := h; exact gw_st h (by omega)
  rw [if_neg k4] at h
  by_cases k5 : k = 47
  · rw [if_pos k5] at h; rw [k5] at hp hpp; have := hpp rfl; have hp : pb + 1 ≤ 24 := hp; obtain ⟨⟨l, im, c, -, h⟩, -⟩ := h; exact gw_aw h (hcl _ _ c) (by omega)
  rw [if_neg k5] at h
  by_cases k6 : k = 57
  · rw [if_pos k6] at h; obtain ⟨⟨v, e, v1, -, -, h⟩, -⟩ := h; exact gw_lf h (fun e => absurd e (by decide)) (fun _ => ⟨v, v1, rfl⟩) ⟨by decide, by decide⟩
  rw [if_neg k6] at h
  by_cases k7 : k = 42
  · rw [if_pos k7] at h; obtain ⟨y, e, h⟩ := h; rw [e] at hys; exact gw_6 h (hys y List.mem_cons_self)
  rw [if_neg k7] at h
  by_cases k8 : k = 44
  · rw [if_pos k8] at h; obtain ⟨y, z, l, c, h, e⟩ := h
    refine gw_4 h (hcl _ _ c) ?_
    rcases e with e | ⟨e, e0⟩
    · rw [e] at hys; exact hys
    · rw [e] at hys; exact gw_2 (hys y List.mem_cons_self) (gw_0 e0)
  rw [if_neg k8] at h
  by_cases k9 : k = 58
  · rw [if_pos k9] at h; obtain ⟨y, z, f, f1, -, h, e⟩ := h
    refine gw_4 h (hif f f1) ?_
    rcases e with e | ⟨e, e0⟩
    · rw [e] at hys; exact hys
    · rw [e] at hys; exact gw_2 (hys y List.mem_cons_self) (gw_0 e0)
  rw [if_neg k9] at h
  by_cases k10 : k = 49
  · rw [if_pos k10] at h; rw [k10] at hp; have hp : pb + 1 ≤ 24 := hp; obtain ⟨y, l, im, e, c, -, h⟩ := h; rw [e] at hys; exact gw_ai h (hcl _ _ c) (by omega) (hys y List.mem_cons_self)
  rw [if_neg k10] at h
  by_cases k11 : k = 50
  · rw [if_pos k11] at h; rw [k11] at hp; have hp : pb + 1 ≤ 24 := hp; obtain ⟨y, l, im, e, c, -, h⟩ := h; rw [e] at hys; exact gw_wk h (hcl _ _ c) (by omega) (hys y List.mem_cons_self)
  rw [if_neg k11] at h
  by_cases k12 : k = 52
  · rw [if_pos k12] at h; obtain ⟨y, l, e, c, h⟩ := h; rw [e] at hys; exact gw_7 h (hcl _ _ c) hys
  rw [if_neg k12] at h
  by_cases k13 : k = 53
  · rw [if_pos k13] at h; have h5 := h53 k13; rw [k13] at hp; have hp : pb + 2 ≤ 24 := hp; obtain ⟨y, l, im, aw, e, c, -, ha, h⟩ := h; rw [e] at hys; exact gw_ev h (hcl _ _ c) (by omega) (by omega) (gw_aw ha (hcl _ _ c) (by omega)) (hys y List.mem_cons_self)
  rw [if_neg k13] at h
  by_cases k14 : k = 55
  · rw [if_pos k14] at h; obtain ⟨y, e, h⟩ := h; rw [e] at hys; exact gw_9 h (hys y List.mem_cons_self)
  rw [if_neg k14] at h
  by_cases k15 : k = 17
  · rw [if_pos k15] at h; exact gw_8 h hys
  rw [if_neg k15] at h
  exact gw_0 h.1
theorem TT.gd (hcl : ∀ P l, CdW W m zn P l → litN nb l) (hif : ∀ f, f < fn → litN nb (woF W f)) : ∀ (g md : Nat) (K : List KE) (a2 a3 a4 : Nat) (c1 c2 : Int32) (fl : Bool) (j j' r r' p p' : Nat) (L : List (Nat × Nat)), md ≤ 3 → TT W m zn fn lo hi g md K a2 a3 a4 c1 c2 fl j j' r r' p p' L → p' ≤ 24 → ∀ c, c ∈ L.map Prod.snd → GdW W nb c := by
  intro g
  induction g with
  | zero => intro md K a2 a3 a4 c1 c2 fl j j' r r' p p' L _ h; unfold TT at h; exact h.elim
  | succ g ih =>
    intro md K a2 a3 a4 c1 c2 fl j j' r r' p p' L hm h hp c hc
    unfold TT at h
    have le : ∀ {md : Nat} {K : List KE} {a2 a3 a4 : Nat} {c1 c2 : Int32} {fl : Bool} {j j' r r' p p' : Nat} {L : List (Nat × Nat)}, md ≤ 3 → TT W m zn fn lo hi g md K a2 a3 a4 c1 c2 fl j j' r r' p p' L → p ≤ p' := fun hm t => (TT.le _ _ _ _ _ _ _ _ _ _ _ _ _ _ _ _ hm t).2.2.1
    by_cases m0 : md = 0
    · rw [if_pos m0] at h
      obtain ⟨x, jm, rm, pm, T, y, eL, t2, t1, nd, -⟩ := h
      rw [eL] at hc
      rw [List.mem_singleton.mp hc]
      have l1 := le (by decide) t1
      refine gw_5 nd (fun d hd => ?_)
      rcases List.mem_cons.mp hd with e | e
      · exact ih _ _ _ _ _ _ _ _ _ _ _ _ _ _ _ (by decide) t2 (by omega) d (by rw [e]; exact List.mem_singleton.mpr rfl)
      · exact ih _ _ _ _ _ _ _ _ _ _ _ _ _ _ _ (by decide) t1 hp d e
    rw [if_neg m0] at h
    by_cases m1 : md = 1
    · rw [if_pos m1] at h
      rcases h with ⟨eL, -⟩ | ⟨x, jm, rm, pm, T, eL, t2, t1⟩
      · rw [eL] at hc; exact absurd hc List.not_mem_nil
      have l1 := le (by decide) t1
      rw [eL] at hc
      rcases List.mem_cons.mp hc with e | e
      · exact ih _ _ _ _ _ _ _ _ _ _ _ _ _ _ _ (by decide) t2 (by omega) c (by rw [e]; exact List.mem_singleton.mpr rfl)
      · exact ih _ _ _ _ _ _ _ _ _ _ _ _ _ _ _ (by decide) t1 hp c e
    rw [if_neg m1] at h
    by_cases m2 : md = 2
    · rw [if_pos m2] at h
      obtain ⟨k, x, ys, pb, ff, eL, -, pk, -, ep, h⟩ := h
      rw [eL] at hc
      rw [List.mem_singleton.mp hc]
      rcases h with ⟨ko, -, -, epb, -⟩ | ⟨k17, -, T, ey, t3⟩ | ⟨ko, -, -, t, jm, rm, pm, y, -, t0, h⟩
      · refine gw_pk hcl hif pk (by omega) (fun _ => epb) (fun e => ?_) (fun d hd => ?_)
        · rw [e] at ko; exact absurd ko (by decide)
        · unfold PkS at pk
          exfalso
          have nk : ∀ q : Int32, opnK q = true → k ≠ q := fun q hq e => by rw [e, hq] at ko; exact absurd ko (by decide)
          by_cases k1 : k = 38
          · rw [if_pos k1] at pk; rw [pk.2] at hd; exact absurd hd List.not_mem_nil
          rw [if_neg k1] at pk
          by_cases k2 : k = 39
          · rw [if_pos k2] at pk; rw [pk.2] at hd; exact absurd hd List.not_mem_nil
          rw [if_neg k2] at pk
          by_cases k3 : k = 40
          · rw [if_pos k3] at pk; rw [pk.2] at hd; exact absurd hd List.not_mem_nil
          rw [if_neg k3] at pk
          by_cases k4 : k = 41
          · rw [if_pos k4] at pk; rw [pk.2] at hd; exact absurd hd List.not_mem_nil
          rw [if_neg k4] at pk
          by_cases k5 : k = 47
          · rw [if_pos k5] at pk; rw [pk.2] at hd; exact absurd hd List.not_mem_nil
          rw [if_neg k5] at pk
          by_cases k6 : k = 57
          · rw [if_pos k6] at pk; rw [pk.2] at hd; exact absurd hd List.not_mem_nil
          rw [if_neg k6, if_neg (nk 42 rfl), if_neg (nk 44 rfl), if_neg (nk 58 rfl), if_neg (nk 49 rfl), if_neg (nk 50 rfl), if_neg (nk 52 rfl), if_neg (nk 53 rfl), if_neg (nk 55 rfl), if_neg (nk 17 rfl)] at pk
          rw [pk.2] at hd; exact absurd hd List.not_mem_nil
      · have l3 := le (by decide) t3
        refine gw_pk hcl hif pk (by omega) (fun e => ?_) (fun e => ?_) (fun d hd => ?_)
        · rw [k17] at e; exact absurd e (by decide)
        · rw [k17] at e; exact absurd e (by decide)
        · rw [ey] at hd
          exact ih _ _ _ _ _ _ _ _ _ _ _ _ _ _ _ (by decide) t3 (by omega) d hd
      · have l0 := le (by decide) t0
        rcases h with ⟨ey, -, -, epb, -⟩ | ⟨-, -, -, z, ey, t0'⟩
        · refine gw_pk hcl hif pk (by omega) (fun e => ?_) (fun e => ?_) (fun d hd => ?_)
          · rw [e] at ko; exact absurd ko (by decide)
          · rw [e] at l0; have l0 : p + 1 ≤ pm := l0; omega
          · rw [ey] at hd
            exact ih _ _ _ _ _ _ _ _ _ _ _ _ _ _ _ (by decide) t0 (by omega) d hd
        · have l0' := le (by decide) t0'
          refine gw_pk hcl hif pk (by omega) (fun e => ?_) (fun e => ?_) (fun d hd => ?_)
          · rw [e] at ko; exact absurd ko (by decide)
          · rw [e] at l0; have l0 : p + 1 ≤ pm := l0; omega
          · rw [ey] at hd
            rcases List.mem_cons.mp hd with e | e
            · exact ih _ _ _ _ _ _ _ _ _ _ _ _ _ _ _ (by decide) t0 (by omega) d (by rw [e]; exact List.mem_singleton.mpr rfl)
            · exact ih _ _ _ _ _ _ _ _ _ _ _ _ _ _ _ (by decide) t0' (by omega) d e
    rw [if_neg m2] at h
    obtain ⟨jm, rm, pm, y, t0, h⟩ := h
    rcases h with ⟨eL, -, -, ep, -⟩ | ⟨T, f2, eL, -, -, t3⟩
    · rw [eL] at hc
      exact ih _ _ _ _ _ _ _ _ _ _ _ _ _ _ _ (by decide) t0 (by omega) c hc
    · have l3 := le (by decide) t3
      rw [eL] at hc
      rcases List.mem_cons.mp hc with e | e
      · exact ih _ _ _ _ _ _ _ _ _ _ _ _ _ _ _ (by decide) t0 (by omega) c (by rw [e]; exact List.mem_singleton.mpr rfl)
      · exact ih _ _ _ _ _ _ _ _ _ _ _ _ _ _ _ (by decide) t3 hp c e
end
end
section
/-! a relation that every step of a reading keeps is kept by the reading -/
section
variable {b : Nat → Int32} {n m : Nat} {τ : Td}
theorem rp_gen (P : PS → PS → Prop) (rf : ∀ σ, P σ σ) (tr : ∀ σ σ1 σ2, P σ σ1 → P σ1 σ2 → P σ σ2) (hlf : ∀ k w j i K σ r, lfM b n m τ k w j i K σ = .ok r → P σ r.2.1) (hhd : ∀ k j i K σ r, hdM b n m τ k j i K σ = .ok r → P σ r.2.1) (htl : ∀ k j aw lit x i o σ r, tlM b n m τ k j aw lit x i o σ = .ok r → P σ r.2.1) (hch : ∀ lit x y i σ r, chM b n lit x y i σ = .ok r → P σ r.2.1) (hmk : ∀ σ k, k ≠ 2 → P σ (trP1 σ (mkT (trS σ) k).1)) (hhg : ∀ σ a c, P σ (hgP σ a c)) (hgu : ∀ σ g u, P σ (guP σ g u)) (hpa : ∀ σ j, P σ (paP σ j 2 8)) (hbg : ∀ σ k pl q d wh, P σ (bgP m k pl q d wh σ)) (hrw : ∀ σ p q, P σ (rwP p q σ)) (hfi : ∀ σ j x, P σ (fiP m j x σ)) : ∀ (g md : Nat) (K : List KE) (i : Nat) (σ : PS) (a1 a2 a3 a4 : Nat) (c1 c2 : Int32) (r : Nat × PS × Nat), md ≤ 3 → rp b n m τ g md K i σ a1 a2 a3 a4 c1 c2 = .ok r → P σ r.2.1 := by
  have hbr : ∀ σ j a x g u, P σ (brP σ j a x g u) := fun σ j a x g u => by
    unfold brP
    refine tr _ _ _ ?_ (hgu _ _ _)
    refine tr _ _ _ ?_ (hhg _ _ _)
    split
    · exact rf _
    · exact hpa _ _
  intro g
  induction g with
  | zero => intro md K i σ a1 a2 a3 a4 c1 c2 r _ e; unfold rp at e; cases e
  | succ g ih =>
    intro md K i σ a1 a2 a3 a4 c1 c2 r hm e
    by_cases m2 : md = 2
    · subst m2
      rw [rp_bd] at e
      obtain ⟨u0, -, e⟩ := bind_ok e
      obtain ⟨i1, -, e⟩ := bind_ok e
      obtain ⟨u, eb, e⟩ := bind_ok e
      cases e
      refine tr _ _ _ ?_ (hfi u.2.1 (npS σ) u.2.2)
      generalize tK b n i = k at eb
      generalize tC b n i = w at eb
      generalize npS σ = j at eb
      refine tr _ _ _ (hbg σ k (tP b n i) (sqK K) K.length (whK k w τ)) ?_
      generalize bgP m k (tP b n i) (sqK K) K.length (whK k w τ) σ = s0 at eb
      unfold bdM at eb
      by_cases ko : opnK k = false
      · rw [if_pos ko] at eb
        exact hlf _ _ _ _ _ _ _ eb
      rw [if_neg ko] at eb
      obtain ⟨h, eh, eb⟩ := bind_ok eb
      have q2 := tr _ _ _ (hhd _ _ _ _ _ _ eh) (hrw h.2.1 (40 * m + j) none)
      by_cases k17 : k = 17
      · rw [if_pos k17] at eb
        obtain ⟨q, e1, eb⟩ := bind_ok eb
        cases eb
        exact tr _ _ _ (tr _ _ _ q2 (ih 3 _ _ _ _ _ _ _ _ _ q (by decide) e1)) (hgu _ _ _)
      rw [if_neg k17] at eb
      obtain ⟨q, e1, eb⟩ := bind_ok eb
      have hq := tr _ _ _ q2 (ih 0 _ _ _ _ _ _ _ _ _ q (by decide) e1)
      by_cases k4 : k = 44 ∨ k = 58
      · rw [if_pos k4] at eb
        by_cases k46 : tK b n q.1 = 46
        · rw [if_pos k46] at eb
          obtain ⟨i2, -, eb⟩ := bind_ok eb
          obtain ⟨t, e2, eb⟩ := bind_ok eb
          have ht := ih 0 _ _ _ _ _ _ _ _ _ t (by decide) e2
          exact tr _ _ _ (tr _ _ _ (tr _ _ _ hq (hrw _ _ _)) ht) (hch _ _ _ _ _ _ eb)
        · rw [if_neg k46] at eb
          exact tr _ _ _ (tr _ _ _ hq (hmk q.2.1 0 (by decide))) (hch _ _ _ _ _ _ eb)
      rw [if_neg k4] at eb
      exact tr _ _ _ hq (htl _ _ _ _ _ _ _ _ _ eb)
    by_cases m0 : md = 0
    · subst m0
      unfold rp at e
      rw [if_pos rfl] at e
      obtain ⟨q, e1, e⟩ := bind_ok e
      have hq := tr _ _ _ (hmk σ 5 (by decide)) (ih 2 _ _ _ _ _ _ _ _ _ q (by decide) e1)
      exact tr _ _ _ (tr _ _ _ hq (hhg _ _ _)) (ih 1 _ _ _ _ _ _ _ _ _ r (by decide) e)
    by_cases m1 : md = 1
    · subst m1
      unfold rp at e
      rw [if_neg (by decide), if_pos rfl] at e
      by_cases h13 : tK b n i = 13
      · rw [if_pos h13] at e
        obtain ⟨j, -, e⟩ := bind_ok e
        obtain ⟨q, e1, e⟩ := bind_ok e
        have hq := ih 2 _ _ _ _ _ _ _ _ _ q (by decide) e1
        exact tr _ _ _ (tr _ _ _ hq (hhg _ _ _)) (ih 1 _ _ _ _ _ _ _ _ _ r (by decide) e)
      · rw [if_neg h13] at e; cases e; exact rf _
    · have m3 : md = 3 := by omega
      subst m3
      unfold rp at e
      rw [if_neg m0, if_neg m1, if_neg m2] at e
      obtain ⟨q, e1, e⟩ := bind_ok e
      have hq := tr _ _ _ (hgu σ 0 0) (ih 0 _ _ _ _ _ _ _ _ _ q (by decide) e1)
      have bn := tr _ _ _ hq (hbr q.2.1 a2 a1 q.2.2 c1 c2)
      by_cases h6 : tK b n q.1 = 6
      · rw [if_pos h6] at e
        by_cases h8 : a4 = 8
        · rw [if_pos h8] at e; cases e
        rw [if_neg h8] at e
        obtain ⟨j, -, e⟩ := bind_ok e
        have h3 := ih 3 _ _ _ _ _ _ _ _ _ r (by decide) e
        exact tr _ _ _ (tr _ _ _ bn (hrw _ _ _)) h3
      · rw [if_neg h6] at e
        obtain ⟨j, -, e⟩ := bind_ok e
        cases e
        exact bn
end
/-! nets of a reading: ands, the first ones, 'pre's, ifs -/
def NxI (S : Nat) (N : Nt) (bf : Nat → Nat) (is : List Int32) (Y : List Cd) : Prop := (∀ n, n < N.length → (N.getD n (0, 0)).1 ≠ (N.getD n (0, 0)).2 ∨ n < 2 + S ∨ (∃ s, s < S ∧ bf s = 2 * n) ∨ ∃ f, f < is.length ∧ is.getD f 0 = Int32.ofNat (2 * n)) ∧ (∀ s, S ≤ s → bf s = 0) ∧ 2 + S ≤ N.length ∧ (∀ n, n < 2 + S → N.getD n (0, 0) = (2 * n, 2 * n)) ∧ ∀ d ∈ Y, d.1 ≤ 1 → d.2.1 < S
section
variable {S : Nat} {N : Nt} {bf : Nat → Nat} {is : List Int32} {a c : Nat} {Y : List Cd}
theorem NxI.an (h : NxI S N bf is Y) : NxI S (anL N a c).1 bf is Y := by
  unfold anL
  by_cases e1 : a = 0 ∨ c = 0
  · rw [if_pos e1]; exact h
  rw [if_neg e1]
  by_cases e2 : a = 1 ∨ a = c
  · rw [if_pos e2]; exact h
  rw [if_neg e2]
  by_cases e3 : c = 1
  · rw [if_pos e3]; exact h
  rw [if_neg e3]
  refine ⟨fun n hn => ?_, h.2.1, ?_, fun n hn => ?_, h.2.2.2.2⟩
  rotate_left
  · show 2 + S ≤ (N ++ [(a, c)]).length
    rw [List.length_append]
    have := h.2.2.1
    omega
  · show (N ++ [(a, c)]).getD n (0, 0) = _
    rw [gdA (by have := h.2.2.1; omega)]
    exact h.2.2.2.1 n hn
  have hn : n < (N ++ [(a, c)]).length := hn
  rw [List.length_append] at hn
  have hn : n < N.length + 1 := hn
  show ((N ++ [(a, c)]).getD n (0, 0)).1 ≠ ((N ++ [(a, c)]).getD n (0, 0)).2 ∨ _
  by_cases z : n = N.length
  · rw [z, gdB]
    exact Or.inl (fun e => e2 (Or.inr e))
  · rw [gdA (by omega)]; exact h.1 n (by omega)
theorem NxI.nd {sg : Nat → Nat} {Z : List Nat} {d : Cd} (h : NxI S N bf is Y) (hd : d.1 = 1 → d.2.1 < S) : NxI S (ndL sg (N, bf, Z) d).1 (ndL sg (N, bf, Z) d).2.1 is Y := by
  unfold ndL
  by_cases d0 : d.1 = 0
  · rw [if_pos d0]; exact h
  rw [if_neg d0]
  by_cases d1 : d.1 = 1
  · rw [if_pos d1]
    show NxI S (bfL N bf d.2.1).1 (bfL N bf d.2.1).2.1 is Y
    unfold bfL
    by_cases z : bf d.2.1 = 0
    · rw [if_pos z]
      refine ⟨fun n hn => ?_, fun s hs => ?_, ?_, fun n hn => ?_, h.2.2.2.2⟩
      rotate_left 2
      · show 2 + S ≤ (N ++ [(2 * N.length, 2 * N.length)]).length
        rw [List.length_append]
        have := h.2.2.1
        omega
      · show (N ++ [(2 * N.length, 2 * N.length)]).getD n (0, 0) = _
        rw [gdA (by have := h.2.2.1; omega)]
        exact h.2.2.2.1 n hn
      · have hn : n < (N ++ [(2 * N.length, 2 * N.length)]).length := hn
        rw [List.length_append] at hn
        have hn : n < N.length + 1 := hn
        show ((N ++ [(2 * N.length, 2 * N.length)]).getD n (0, 0)).1 ≠ ((N ++ [(2 * N.length, 2 * N.length)]).getD n (0, 0)).2 ∨ n < 2 + S ∨ (∃ s, s < S ∧ upF bf d.2.1 (2 * N.length) s = 2 * n) ∨ _
        by_cases y : n = N.length
        · refine Or.inr (Or.inr (Or.inl ⟨d.2.1, hd d1, ?_⟩))
          rw [y]
          unfold upF
          rw [if_pos rfl]
        · rw [gdA (by omega)]
          rcases h.1 n (by omega) with q | q | ⟨s, s1, s2⟩ | q
          · exact Or.inl q
          · exact Or.inr (Or.inl q)
          · by_cases e : s = d.2.1
            · refine Or.inr (Or.inl ?_)
              rw [e, z] at s2
              omega
            · refine Or.inr (Or.inr (Or.inl ⟨s, s1, ?_⟩))
              unfold upF
              rw [if_neg e]; exact s2
          · exact Or.inr (Or.inr (Or.inr q))
      · show upF bf d.2.1 (2 * N.length) s = 0
        unfold upF
        rw [if_neg (fun e => by have := hd d1; omega)]
        exact h.2.1 s hs
    · rw [if_neg z]; exact h
  rw [if_neg d1]
  by_cases d2 : d.1 = 2
  · rw [if_pos d2]; exact h
  rw [if_neg d2]
  by_cases d3 : d.1 = 3
  · rw [if_pos d3]; exact h.an
  rw [if_neg d3]
  exact h.an
theorem NxI.cy {sg : Nat → Nat} : ∀ (V : List Cd) (N : Nt) (bf : Nat → Nat) (Z : List Nat), NxI S N bf is Y → (∀ d ∈ V, d.1 = 1 → d.2.1 < S) → NxI S (cyL sg (N, bf, Z) V).1 (cyL sg (N, bf, Z) V).2.1 is Y
  | [], _, _, _, h, _ => h
  | d :: V, N, bf, Z, h, hd => by
    show NxI S (cyL sg (ndL sg (N, bf, Z) d) V).1 (cyL sg (ndL sg (N, bf, Z) d) V).2.1 is Y
    have e : ndL sg (N, bf, Z) d = ((ndL sg (N, bf, Z) d).1, (ndL sg (N, bf, Z) d).2.1, (ndL sg (N, bf, Z) d).2.2) := rfl
    rw [e]
    exact NxI.cy V _ _ _ (h.nd (hd d List.mem_cons_self)) (fun d' h' => hd d' (List.mem_cons_of_mem _ h'))
end
/-- befores are those that conditions ask for -/
def BfY (bf : Nat → Nat) (Y : List Cd) : Prop := ∀ s, bf s ≠ 0 ↔ ∃ d ∈ Y, d.1 = 1 ∧ d.2.1 = s
theorem nd_bf {sg : Nat → Nat} {N : Nt} {bf : Nat → Nat} {Z : List Nat} {d : Cd} {s : Nat} (hN : 1 ≤ N.length) : (ndL sg (N, bf, Z) d).2.1 s ≠ 0 ↔ bf s ≠ 0 ∨ (d.1 = 1 ∧ d.2.1 = s) := by
  unfold ndL
  by_cases d0 : d.1 = 0
  · rw [if_pos d0]
    exact ⟨Or.inl, fun h => h.elim id (fun y => absurd (y.1.symm.trans d0) (by decide))⟩
  rw [if_neg d0]
  by_cases d1 : d.1 = 1
  · rw [if_pos d1]
    show (bfL N bf d.2.1).2.1 s ≠ 0 ↔ _
    unfold bfL
    by_cases z : bf d.2.1 = 0
    · rw [if_pos z]
      show upF bf d.2.1 (2 * N.length) s ≠ 0 ↔ _
      unfold upF
      by_cases y : s = d.2.1
      · rw [if_pos y]
        exact ⟨fun _ => Or.inr ⟨d1, y.symm⟩, fun _ => by omega⟩
      · rw [if_neg y]
        exact ⟨Or.inl, fun h => h.elim id (fun q => absurd q.2.symm y)⟩
    · rw [if_neg z]
      exact ⟨Or.inl, fun h => h.elim id (fun q => by rw [← q.2]; exact z)⟩
  rw [if_neg d1]
  have no : (bf s ≠ 0 ↔ bf s ≠ 0 ∨ (d.1 = 1 ∧ d.2.1 = s)) := ⟨Or.inl, fun h => h.elim id (fun q => absurd q.1 d1)⟩
  by_cases d2 : d.1 = 2
  · rw [if_pos d2]; exact no
  rw [if_neg d2]
  by_cases d3 : d.1 = 3
  · rw [if_pos d3]; exact no
  rw [if_neg d3]; exact no
theorem cy_bf {sg : Nat → Nat} : ∀ (V : List Cd) (N : Nt) (bf : Nat → Nat) (Z : List Nat) (s : Nat), 1 ≤ N.length → ((cyL sg (N, bf, Z) V).2.1 s ≠ 0 ↔ bf s ≠ 0 ∨ ∃ d ∈ V, d.1 = 1 ∧ d.2.1 = s)
  | [], N, bf, Z, s, _ => ⟨Or.inl, fun h => h.elim id (fun ⟨d, hd, _⟩ => absurd hd List.not_mem_nil)⟩
  | d :: V, N, bf, Z, s, hN => by
    have l : N.length ≤ (ndL sg (N, bf, Z) d).1.length := (ndL_len (sg := sg) (S := (N, bf, Z)) (d := d)).1
    have k := cy_bf (sg := sg) V (ndL sg (N, bf, Z) d).1 (ndL sg (N, bf, Z) d).2.1 (ndL sg (N, bf, Z) d).2.2 s (Nat.le_trans hN l)
    show (cyL sg (ndL sg (N, bf, Z) d) V).2.1 s ≠ 0 ↔ _
    refine Iff.trans k ?_
    rw [nd_bf hN]
    constructor
    · rintro ((h | h) | ⟨d', h1, h2⟩)
      · exact Or.inl h
      · exact Or.inr ⟨d, List.mem_cons_self, h⟩
      · exact Or.inr ⟨d', List.mem_cons_of_mem _ h1, h2⟩
    · rintro (h | ⟨d', h1, h2⟩)
      · exact Or.inl (Or.inl h)
      · rcases List.mem_cons.mp h1 with y | y
        · exact Or.inl (Or.inr (by rw [← y]; exact h2))
        · exact Or.inr ⟨d', y, h2⟩
section
variable {b : Nat → Int32} {n m : Nat} {τ : Td}
def Nxr (τ : Td) (σ σ' : PS) : Prop := (NxI τ.1.length σ.2.1.2.2.1 σ.2.1.2.2.2.1 (ifS σ) σ.2.2.2 ∧ BfY σ.2.1.2.2.2.1 σ.2.2.2) → (NxI τ.1.length σ'.2.1.2.2.1 σ'.2.1.2.2.2.1 (ifS σ') σ'.2.2.2 ∧ BfY σ'.2.1.2.2.2.1 σ'.2.2.2)
theorem Nxr.t1 {σ σ1 : PS} {T : TrT} (h : Nxr τ σ σ1) : Nxr τ σ (trP1 σ1 T) := h
theorem nx_t1 {σ σ1 : PS} {T : TrT} {i x : Nat} {r : Nat × PS × Nat} (h : Nxr τ σ σ1) (e : (Except.ok (i, trP1 σ1 T, x) : Except (Int32 × Nat) (Nat × PS × Nat)) = .ok r) : Nxr τ σ r.2.1 := by
  have e := Except.ok.inj e
  rw [← e]
  exact h.t1
theorem nx_co {j i o : Nat} {σ : PS} {r : Nat × PS × Nat} (e : coM b n m τ j i o σ = .ok r) : Nxr τ σ r.2.1 := by
  unfold coM at e
  obtain ⟨q, e1, e⟩ := bind_ok e
  cases e
  intro h
  have w := rc_w (b := b) (n := n) (sN := τ.1) 6000 3 i o σ.2.2.2 σ.2.2.2.length q (by decide) (Nat.le_refl _) (fun z => by omega) (fun k h1 h2 => by omega) e1
  have nw : ∀ d ∈ q.2.drop σ.2.2.2.length, d.1 ≤ 1 → d.2.1 < τ.1.length := fun d hd d1 => by
    obtain ⟨k, kl, ke⟩ := List.mem_iff_getElem.mp hd
    rw [List.length_drop] at kl
    have e2 : q.2.getD (σ.2.2.2.length + k) (0, 0, 0) = d := by
      rw [List.getD_eq_getElem?_getD, List.getElem?_eq_getElem (by omega)]
      rw [List.getElem_drop] at ke
      exact ke
    have q2 := w.1 (σ.2.2.2.length + k) (by omega) (by omega)
    rw [e2] at q2
    exact q2.2.1 d1
  have hh := NxI.cy (sg := sgT τ.1.length) (q.2.drop σ.2.2.2.length) _ _ (List.replicate σ.2.2.2.length 0) h.1 (fun d hd d1 => nw d hd (by omega))
  obtain ⟨V, eV⟩ := w.2.1
  refine ⟨⟨hh.1, hh.2.1, hh.2.2.1, hh.2.2.2.1, fun d hd d1 => ?_⟩, fun s => ?_⟩
  rotate_left
  · show (cyL (sgT τ.1.length) (σ.2.1.2.2.1, σ.2.1.2.2.2.1, List.replicate σ.2.2.2.length 0) (q.2.drop σ.2.2.2.length)).2.1 s ≠ 0 ↔ ∃ d ∈ q.2, d.1 = 1 ∧ d.2.1 = s
    rw [cy_bf _ _ _ _ s (by have := h.1.2.2.1; omega), h.2 s, eV, List.drop_left]
    constructor
    · rintro (⟨d, h1, h2⟩ | ⟨d, h1, h2⟩)
      · exact ⟨d, List.mem_append.mpr (Or.inl h1), h2⟩
      · exact ⟨d, List.mem_append.mpr (Or.inr h1), h2⟩
    · rintro ⟨d, h1, h2⟩
      rcases List.mem_append.mp h1 with y | y
      · exact Or.inl ⟨d, y, h2⟩
      · exact Or.inr ⟨d, y, h2⟩
  have hd : d ∈ q.2 := hd
  obtain ⟨V, eV⟩ := w.2.1
  rw [eV] at hd
  rcases List.mem_append.mp hd with y | y
  · exact h.1.2.2.2.2 d y d1
  · refine nw d ?_ d1
    rw [eV, List.drop_left]
    exact y
theorem nx_at {j i o : Nat} {σ : PS} {r : Nat × PS × Nat × Bool} (e : atM b n m τ j i o σ = .ok r) : Nxr τ σ r.2.1 := by
  unfold atM at e
  obtain ⟨q, -, e⟩ := bind_ok e
  obtain ⟨t, e1, e⟩ := bind_ok e
  cases e
  have h := nx_co e1
  intro k
  refine h ?_
  by_cases z : q.2 = true
  · rw [if_pos z]; exact k
  · rw [if_neg z]; exact k
theorem nx_su {j f1 f2 fo i o : Nat} {σ : PS} {r : Nat × PS} (e : suM b n m τ j f1 f2 fo i o σ = .ok r) : Nxr τ σ r.2 ∧ r.2.2.1.2.2.1 = σ.2.1.2.2.1 ∧ r.2.2.1.2.2.2.1 = σ.2.1.2.2.2.1 ∧ ifS r.2 = ifS σ ∧ r.2.2.2.2 = σ.2.2.2 := by
  unfold suM at e
  obtain ⟨q, -, e⟩ := bind_ok e
  cases e
  exact ⟨fun k => k, rfl, rfl, rfl, rfl⟩
theorem nx_em {k : Int32} {j i o : Nat} {σ : PS} {r : Nat × PS × Nat} (e : emM b n m τ k j i o σ = .ok r) : Nxr τ σ r.2.1 := by
  unfold emM at e
  by_cases h1 : tK b n i = 2
  · rw [if_pos h1] at e
    cases h2 : fd τ.1 (tC b n i) with
    | none => rw [h2] at e; cases e
    | some s =>
      rw [h2] at e
      have e : (if τ.2.1.getD s 0 = 30 then Except.error (4, tP b n i) else (adv' b n i).bind fun i2 => _) = .ok r := e
      by_cases h3 : τ.2.1.getD s 0 = 30
      · rw [if_pos h3] at e; cases e
      rw [if_neg h3] at e
      obtain ⟨i2, -, e⟩ := bind_ok e
      by_cases h4 : τ.2.2.1.getD s 0 = 0
      · rw [if_pos h4] at e
        by_cases h5 : k = 40 ∧ tK b n i2 = 15
        · rw [if_pos h5] at e; cases e
        · rw [if_neg h5] at e; cases e; exact fun q => q
      · rw [if_neg h4] at e
        by_cases h5 : k = 40 ∧ tK b n i2 = 15
        · rw [if_pos h5] at e
          by_cases h6 : o = 15
          · rw [if_pos h6] at e; cases e
          rw [if_neg h6] at e
          obtain ⟨i3, -, e⟩ := bind_ok e
          obtain ⟨q, e1, e⟩ := bind_ok e
          obtain ⟨i4, -, e⟩ := bind_ok e
          cases e
          exact (nx_su e1).1
        · rw [if_neg h5] at e; cases e
  · rw [if_neg h1] at e; cases e
theorem nx_lf {k : Int32} {w : Int64} {j i : Nat} {K : List KE} {σ : PS} {r : Nat × PS × Nat} (e : lfM b n m τ k w j i K σ = .ok r) : Nxr τ σ r.2.1 := by
  unfold lfM at e
  by_cases k1 : k = 38
  · rw [if_pos k1] at e; exact nx_t1 (fun q => q) e
  rw [if_neg k1] at e
  by_cases k2 : k = 39
  · rw [if_pos k2] at e; exact nx_t1 (fun q => q) e
  rw [if_neg k2] at e
  by_cases k3 : k = 40
  · rw [if_pos k3] at e
    obtain ⟨y, e1, e⟩ := bind_ok e
    exact nx_t1 (nx_em e1) e
  rw [if_neg k3] at e
  by_cases k4 : k = 41
  · rw [if_pos k4] at e
    obtain ⟨y, e1, e⟩ := bind_ok e
    exact nx_t1 (nx_em e1) e
  rw [if_neg k4] at e
  by_cases k5 : k = 47
  · rw [if_pos k5] at e
    obtain ⟨y, e1, e⟩ := bind_ok e
    exact nx_t1 (nx_at e1) e
  rw [if_neg k5] at e
  by_cases k6 : k = 57
  · rw [if_pos k6] at e
    by_cases h1 : tK b n i = 2
    · rw [if_pos h1] at e
      cases h2 : trW K (tC b n i) with
      | none => rw [h2] at e; cases e
      | some q =>
        rw [h2] at e
        obtain ⟨i2, -, e⟩ := bind_ok e
        cases e; exact fun q => q
    · rw [if_neg h1] at e; cases e
  rw [if_neg k6] at e
  by_cases k7 : k = 2
  · rw [if_pos k7] at e
    obtain ⟨i2, -, e⟩ := bind_ok e
    obtain ⟨y, e1, e⟩ := bind_ok e
    have h := (nx_su e1).1
    cases e; exact h
  rw [if_neg k7] at e
  cases e; exact fun q => q
theorem nx_hd {k : Int32} {j i : Nat} {K : List KE} {σ : PS} {r : Nat × PS × Nat × Bool × Nat × Option Int64} (e : hdM b n m τ k j i K σ = .ok r) : Nxr τ σ r.2.1 := by
  unfold hdM at e
  by_cases k1 : k = 44
  · rw [if_pos k1] at e
    obtain ⟨y, e1, e⟩ := bind_ok e
    obtain ⟨i2, -, e⟩ := bind_ok e
    have h := nx_co e1
    cases e; exact h
  rw [if_neg k1] at e
  by_cases k2 : k = 49
  · rw [if_pos k2] at e; cases e; exact fun q => q
  rw [if_neg k2] at e
  by_cases k3 : k = 50
  · rw [if_pos k3] at e
    obtain ⟨i2, -, e⟩ := bind_ok e
    cases e; exact fun q => q
  rw [if_neg k3] at e
  by_cases k4 : k = 53
  · rw [if_pos k4] at e
    obtain ⟨y, e1, e⟩ := bind_ok e
    obtain ⟨i2, -, e⟩ := bind_ok e
    have h := nx_at e1
    cases e; exact h
  rw [if_neg k4] at e
  by_cases k5 : k = 55
  · rw [if_pos k5] at e
    by_cases h1 : tK b n i = 2
    · rw [if_pos h1] at e
      by_cases h2 : toT (tC b n i) τ = true ∨ (trW K (tC b n i)).isSome = true
      · rw [if_pos h2] at e; cases e
      rw [if_neg h2] at e
      obtain ⟨i2, -, e⟩ := bind_ok e
      obtain ⟨i3, -, e⟩ := bind_ok e
      cases e; exact fun q => q
    · rw [if_neg h1] at e; cases e
  rw [if_neg k5] at e
  by_cases k6 : k = 58
  · rw [if_pos k6] at e
    obtain ⟨y, e1, e⟩ := bind_ok e
    by_cases h1 : 7 ≤ tK b n y.1 ∧ tK b n y.1 ≤ 12
    · rw [if_pos h1] at e
      obtain ⟨i2, -, e⟩ := bind_ok e
      obtain ⟨z, e2, e⟩ := bind_ok e
      obtain ⟨i3, -, e⟩ := bind_ok e
      have q1 := nx_su e1
      have q2 := nx_su e2
      cases e
      intro h
      obtain ⟨⟨h1, h2, h3, h4⟩, h5⟩ := h
      have eN : z.2.2.1.2.2.1 = σ.2.1.2.2.1 := q2.2.1.trans q1.2.1
      have eb : z.2.2.1.2.2.2.1 = σ.2.1.2.2.2.1 := q2.2.2.1.trans q1.2.2.1
      have ei : z.2.2.1.2.2.2.2.1 = ifS σ := q2.2.2.2.1.trans q1.2.2.2.1
      have eY : z.2.2.2.2 = σ.2.2.2 := q2.2.2.2.2.trans q1.2.2.2.2
      refine ⟨?_, by show BfY z.2.2.1.2.2.2.1 z.2.2.2.2; rw [eb, eY]; exact h5⟩
      show NxI τ.1.length (frL z.2.2.1.2.2.1).1 z.2.2.1.2.2.2.1 (z.2.2.1.2.2.2.2.1 ++ [Int32.ofNat (2 * z.2.2.1.2.2.1.length)]) z.2.2.2.2
      rw [eN, eb, ei, eY]
      refine ⟨fun n hn => ?_, h2, ?_, fun n hn => ?_, h4.2⟩
      rotate_left
      · show 2 + τ.1.length ≤ (σ.2.1.2.2.1 ++ [(2 * σ.2.1.2.2.1.length, 2 * σ.2.1.2.2.1.length)]).length
        rw [List.length_append]
        omega
      · show (σ.2.1.2.2.1 ++ [(2 * σ.2.1.2.2.1.length, 2 * σ.2.1.2.2.1.length)]).getD n (0, 0) = _
        rw [gdA (by omega)]
        exact h4.1 n hn
      have hn : n < (σ.2.1.2.2.1 ++ [(2 * σ.2.1.2.2.1.length, 2 * σ.2.1.2.2.1.length)]).length := hn
      rw [List.length_append] at hn
      have hn : n < σ.2.1.2.2.1.length + 1 := hn
      show ((σ.2.1.2.2.1 ++ [(2 * σ.2.1.2.2.1.length, 2 * σ.2.1.2.2.1.length)]).getD n (0, 0)).1 ≠ ((σ.2.1.2.2.1 ++ [(2 * σ.2.1.2.2.1.length, 2 * σ.2.1.2.2.1.length)]).getD n (0, 0)).2 ∨ _
      by_cases z : n = σ.2.1.2.2.1.length
      · refine Or.inr (Or.inr (Or.inr ⟨(ifS σ).length, by rw [List.length_append]; exact Nat.lt_succ_self _, ?_⟩))
        rw [gdB, z]
      · rw [gdA (by omega)]
        rcases h1 n (by omega) with q | q | q | ⟨f, f1, f2⟩
        · exact Or.inl q
        · exact Or.inr (Or.inl q)
        · exact Or.inr (Or.inr (Or.inl q))
        · exact Or.inr (Or.inr (Or.inr ⟨f, by rw [List.length_append]; omega, by rw [gdA f1]; exact f2⟩))
    · rw [if_neg h1] at e; cases e
  rw [if_neg k6] at e
  by_cases k7 : k = 17
  · rw [if_pos k7] at e; cases e; exact fun q => q
  rw [if_neg k7] at e
  cases e; exact fun q => q
theorem nx_tl {k : Int32} {j aw lit x i o : Nat} {σ : PS} {r : Nat × PS × Nat} (e : tlM b n m τ k j aw lit x i o σ = .ok r) : Nxr τ σ r.2.1 := by
  unfold tlM at e
  by_cases k1 : k = 42
  · rw [if_pos k1] at e
    obtain ⟨i2, -, e⟩ := bind_ok e
    cases e
    intro q
    by_cases h1 : (trS σ).2.2 13 x &&& 1 = 0
    · rw [if_pos h1]; exact q
    · rw [if_neg h1]; exact q
  rw [if_neg k1] at e
  by_cases k2 : k = 49
  · rw [if_pos k2] at e
    obtain ⟨i2, -, e⟩ := bind_ok e
    obtain ⟨y, e1, e⟩ := bind_ok e
    obtain ⟨i3, -, e⟩ := bind_ok e
    have h := nx_at e1
    by_cases h1 : y.2.2.2 = true
    · rw [if_pos h1] at e; exact nx_t1 h e
    · rw [if_neg h1] at e; exact nx_t1 h e
  rw [if_neg k2] at e
  by_cases k3 : k = 50
  · rw [if_pos k3] at e
    obtain ⟨i2, -, e⟩ := bind_ok e
    obtain ⟨y, e1, e⟩ := bind_ok e
    obtain ⟨i3, -, e⟩ := bind_ok e
    exact nx_t1 (nx_at e1) e
  rw [if_neg k3] at e
  by_cases k4 : k = 52
  · rw [if_pos k4] at e
    obtain ⟨i2, -, e⟩ := bind_ok e
    obtain ⟨y, e1, e⟩ := bind_ok e
    obtain ⟨i3, -, e⟩ := bind_ok e
    exact nx_t1 (nx_co e1) e
  rw [if_neg k4] at e
  by_cases k5 : k = 53
  · rw [if_pos k5] at e
    obtain ⟨i2, -, e⟩ := bind_ok e
    exact nx_t1 (fun q => q) e
  rw [if_neg k5] at e
  obtain ⟨i2, -, e⟩ := bind_ok e
  exact nx_t1 (fun q => q) e
/-- nets that a reading leaves -/
theorem rp_nx : ∀ (g md : Nat) (K : List KE) (i : Nat) (σ : PS) (a1 a2 a3 a4 : Nat) (c1 c2 : Int32) (r : Nat × PS × Nat), md ≤ 3 → rp b n m τ g md K i σ a1 a2 a3 a4 c1 c2 = .ok r → Nxr τ σ r.2.1 :=
  rp_gen (Nxr τ) (fun _ q => q) (fun _ _ _ h k q => k (h q)) (fun _ _ _ _ _ _ _ e => nx_lf e) (fun _ _ _ _ _ _ e => nx_hd e) (fun _ _ _ _ _ _ _ _ _ e => nx_tl e) (fun lit x y i σ r e => by
    unfold chM at e
    obtain ⟨i2, -, e⟩ := bind_ok e
    cases e; exact fun q => q) (fun _ _ _ q => q) (fun _ _ _ q => q) (fun _ _ _ q => q) (fun _ _ q => q) (fun _ _ _ _ _ _ q => q) (fun _ _ _ q => q) (fun _ _ _ q => q)
end
end
section
/-! what is emitted is a signal, and no input -/
def EmQ (p : Nat → Prop) (Θ : TrT) : Prop := 1 ≤ Θ.1 ∧ ∀ x, 1 ≤ x → x < Θ.1 → Θ.2.2 5 x = 2 → ∃ s, Θ.2.2 11 x = Int32.ofNat s ∧ p s
def J7 (p : Nat → Prop) (Θ Θ' : TrT) : Prop := EmQ p Θ → EmQ p Θ'
section
variable {Θ Θ1 Θ2 : TrT} {c d v x aw a : Nat} {k l : Int32} {im : Bool} {p : Nat → Prop}
theorem J7.tr (h : J7 p Θ Θ1) (g : J7 p Θ1 Θ2) : J7 p Θ Θ2 := fun z => g (h z)
theorem mk_c (Θ : TrT) (k : Int32) : ((mkT Θ k).1 = Θ ∧ (mkT Θ k).2 = 0) ∨ ((mkT Θ k).1.1 = Θ.1 + 1 ∧ (mkT Θ k).2 = Θ.1 ∧ (∀ x, (mkT Θ k).1.2.2 5 x = if x = Θ.1 then k else Θ.2.2 5 x) ∧ ∀ x, x ≠ Θ.1 → (mkT Θ k).1.2.2 11 x = Θ.2.2 11 x) := by
  unfold mkT
  by_cases z : Θ.1 < 640
  · rw [if_pos z]
    refine Or.inr ⟨rfl, rfl, fun x => ?_, fun x hx => ?_⟩
    · show up2 (up2 (up2 (up2 (up2 (up2 (up2 (up2 (up2 Θ.2.2 5 Θ.1 k) 6 Θ.1 0) 7 Θ.1 0) 8 Θ.1 0) 9 Θ.1 0) 10 Θ.1 0) 11 Θ.1 0) 12 Θ.1 0) 13 Θ.1 (if k = 0 ∨ k = 5 then 1 else 0) 5 x = _
      rw [up2_row (by decide), up2_row (by decide), up2_row (by decide), up2_row (by decide), up2_row (by decide), up2_row (by decide), up2_row (by decide), up2_row (by decide)]
      by_cases y : x = Θ.1
      · rw [if_pos y, y, up2_eq]
      · rw [if_neg y, up2_ne (fun q => y q.2)]
    · show up2 (up2 (up2 (up2 (up2 (up2 (up2 (up2 (up2 Θ.2.2 5 Θ.1 k) 6 Θ.1 0) 7 Θ.1 0) 8 Θ.1 0) 9 Θ.1 0) 10 Θ.1 0) 11 Θ.1 0) 12 Θ.1 0) 13 Θ.1 (if k = 0 ∨ k = 5 then 1 else 0) 11 x = _
      rw [up2_row (by decide), up2_row (by decide), up2_ne (fun q => hx q.2), up2_row (by decide), up2_row (by decide), up2_row (by decide), up2_row (by decide), up2_row (by decide), up2_row (by decide)]
  · rw [if_neg z]; exact Or.inl ⟨rfl, rfl⟩
theorem n7_mk (hk : k ≠ 2) : J7 p Θ (mkT Θ k).1 := fun h => by
  rcases mk_c Θ k with ⟨e, -⟩ | ⟨e1, -, e5, e11⟩
  · rw [e]; exact h
  · refine ⟨by rw [e1]; omega, fun x x1 x2 k2 => ?_⟩
    rw [e5 x] at k2
    by_cases y : x = Θ.1
    · rw [if_pos y] at k2; exact absurd k2 hk
    · rw [if_neg y] at k2
      rw [e11 x y]
      exact h.2 x x1 (by omega) k2
theorem n7_hg : J7 p Θ (hgT Θ a c) := fun h => by
  unfold hgT
  by_cases z : a = 0 ∨ c = 0
  · rw [if_pos z]; exact h
  · rw [if_neg z]
    have e : ∀ q x, q = 5 ∨ q = 11 → hgA Θ.2.2 a c q x = Θ.2.2 q x := by
      intro q x hq
      unfold hgA
      rw [up2_row (by omega)]
      by_cases y : Θ.2.2 6 a = 0
      · rw [if_pos y, up2_row (by omega), up2_row (by omega), up2_row (by omega), up2_row (by omega)]
      · rw [if_neg y, up2_row (by omega), up2_row (by omega), up2_row (by omega), up2_row (by omega)]
    refine ⟨h.1, fun x x1 x2 => ?_⟩
    show hgA Θ.2.2 a c 5 x = 2 → ∃ s, hgA Θ.2.2 a c 11 x = Int32.ofNat s ∧ p s
    rw [e 5 x (Or.inl rfl), e 11 x (Or.inr rfl)]
    exact h.2 x x1 x2
theorem n7_up {q j : Nat} {w : Int32} {n i : Nat} (hq : q ≠ 5) (hq2 : q ≠ 11) {A : Nat → Nat → Int32} : J7 p (n, i, A) (n, i, up2 A q j w) := fun h => by
  refine ⟨h.1, fun x x1 x2 => ?_⟩
  show up2 A q j w 5 x = 2 → ∃ s, up2 A q j w 11 x = Int32.ofNat s ∧ p s
  rw [up2_row (fun e => hq e.symm), up2_row (fun e => hq2 e.symm)]
  exact h.2 x x1 x2
theorem n7_x {j : Nat} {w : Int32} {n i i' : Nat} {A : Nat → Nat → Int32} (hj : A 5 j ≠ 2 ∨ j = 0) : J7 p (n, i, A) (n, i', up2 A 11 j w) := fun h => by
  refine ⟨h.1, fun x x1 x2 => ?_⟩
  show up2 A 11 j w 5 x = 2 → ∃ s, up2 A 11 j w 11 x = Int32.ofNat s ∧ p s
  rw [up2_row (by decide)]
  intro k2
  by_cases y : x = j
  · rw [y] at k2
    rcases hj with z | z
    · exact absurd k2 z
    · omega
  · rw [up2_ne (fun q => y q.2)]
    exact h.2 x x1 x2 k2
theorem n7_em (hv : p v) : J7 p Θ (emT Θ v).1 := fun h => by
  refine ⟨?_, fun x x1 x2 => ?_⟩
  · rcases mk_c Θ 2 with ⟨e, -⟩ | ⟨e1, -⟩
    · show 1 ≤ (mkT Θ 2).1.1
      rw [e]; exact h.1
    · show 1 ≤ (mkT Θ 2).1.1
      omega
  have x2 : x < (mkT Θ 2).1.1 := x2
  show up2 (up2 (mkT Θ 2).1.2.2 11 (mkT Θ 2).2 (Int32.ofNat v)) 13 (mkT Θ 2).2 1 5 x = 2 → ∃ s, up2 (up2 (mkT Θ 2).1.2.2 11 (mkT Θ 2).2 (Int32.ofNat v)) 13 (mkT Θ 2).2 1 11 x = Int32.ofNat s ∧ p s
  rw [up2_row (by decide), up2_row (by decide), up2_row (by decide)]
  intro k2
  by_cases y : x = (mkT Θ 2).2
  · rw [y, up2_eq]; exact ⟨v, rfl, hv⟩
  · rw [up2_ne (fun q => y q.2)]
    rcases mk_c Θ 2 with ⟨e, e0⟩ | ⟨e1, e2, e5, e11⟩
    · rw [e] at k2 x2 ⊢
      exact h.2 x x1 x2 k2
    · rw [e2] at y
      rw [e5 x, if_neg y] at k2
      rw [e11 x y]
      exact h.2 x x1 (by omega) k2
theorem mk_n (hk : k ≠ 2) : (mkT Θ k).1.2.2 5 (mkT Θ k).2 ≠ 2 ∨ (mkT Θ k).2 = 0 := by
  rcases mk_c Θ k with ⟨-, e⟩ | ⟨-, e2, e5, -⟩
  · exact Or.inr e
  · refine Or.inl ?_
    rw [e2, e5, if_pos rfl]; exact hk
theorem n7_wr (hk : k ≠ 2) : J7 p Θ (wrT Θ k c).1 := (n7_mk hk).tr n7_hg
theorem n7_pr (hk : k ≠ 2) : J7 p Θ (prT Θ k c d).1 := ((n7_mk hk).tr n7_hg).tr n7_hg
theorem n7_pa : J7 p Θ (paT Θ).1 := ((n7_mk (k := 1) (by decide)).tr (n7_x (i' := (mkT Θ 1).1.2.1 + 1) (mk_n (Θ := Θ) (k := 1) (by decide)))).tr ((n7_up (q := 12) (by decide) (by decide)).tr (n7_up (q := 13) (by decide) (by decide)))
theorem n7_ex : J7 p Θ (exT Θ v).1 := (n7_mk (k := 3) (by decide)).tr ((n7_x (i' := (mkT Θ 3).1.2.1) (mk_n (Θ := Θ) (k := 3) (by decide))).tr (n7_up (q := 13) (by decide) (by decide)))
theorem n7_ch : J7 p Θ (chT Θ l c d).1 := (n7_pr (by decide)).tr (n7_up (q := 10) (by decide) (by decide))
theorem n7_su : J7 p Θ (suT Θ c l).1 := (n7_wr (by decide)).tr (n7_up (q := 10) (by decide) (by decide))
theorem n7_ha : J7 p Θ (haT Θ).1 := n7_pa.tr (n7_wr (by decide))
theorem n7_st (hv : p v) : J7 p Θ (stT Θ v).1 := (((n7_em hv).tr n7_pa).tr (n7_pr (by decide))).tr (n7_wr (by decide))
theorem n7_w1 : J7 p Θ (wt1 Θ).1 := (n7_pa.tr n7_ex).tr (n7_mk (by decide))
theorem n7_w2 : J7 p Θ (wt2 Θ l).1 := n7_w1.tr n7_ch
theorem n7_w3 : J7 p Θ (wt3 Θ l im).1 := by
  cases im with
  | true => exact n7_w2.tr (n7_pr (by decide))
  | false => exact n7_w2.tr (n7_pr (by decide))
theorem n7_wa : J7 p Θ (waT Θ l im).1 := n7_w3.tr (n7_wr (by decide))
theorem n7_aw : J7 p Θ (awT Θ l im).1 := n7_wa.tr (n7_wr (by decide))
theorem n7_k1 : J7 p Θ (wk1 Θ c).1 := n7_ex.tr (n7_pr (by decide))
theorem n7_k2 : J7 p Θ (wk2 Θ c l im).1 := by unfold wk2; exact n7_k1.tr n7_wa
theorem n7_wk : J7 p Θ (wkT Θ c l im).1 := by unfold wkT wk3; exact (n7_k2.tr (n7_pr (by decide))).tr (n7_wr (by decide))
theorem n7_ab : J7 p Θ (abT Θ c l).1 := by unfold abT; exact n7_su.tr n7_wk
theorem n7_ev : J7 p Θ (evT Θ x aw l).1 := by
  have a4 : J7 p (haT Θ).1 (ev1 Θ x).1 := by unfold ev1; exact n7_pr (by decide)
  have a3 : J7 p (ev1 Θ x).1 (ev2 Θ x l).1 := by unfold ev2; exact n7_ab
  have a2 : J7 p (ev2 Θ x l).1 (ev3 Θ x l).1 := by unfold ev3; exact n7_wr (by decide)
  have a1 : J7 p (ev3 Θ x l).1 (evT Θ x aw l).1 := by unfold evT; exact n7_pr (by decide)
  exact (((n7_ha.tr a4).tr a3).tr a2).tr a1
end
theorem J7.rf {p : Nat → Prop} {Θ : TrT} : J7 p Θ Θ := fun h => h
theorem J7.of {p : Nat → Prop} {Θ Θ1 : TrT} (e : Θ1 = Θ) : J7 p Θ Θ1 := by rw [e]; exact J7.rf
def pE (τ : Td) (s : Nat) : Prop := s < τ.1.length ∧ τ.2.1.getD s 0 ≠ 30
section
variable {b : Nat → Int32} {n m : Nat} {τ : Td} {j i o f1 f2 fo x aw lit y : Nat} {k : Int32} {w : Int64} {K : List KE} {σ σ1 σ2 : PS}
def Ce7 (τ : Td) (σ σ' : PS) : Prop := J7 (pE τ) (trS σ) (trS σ')
theorem Sx.ce7 {r : TrT} (h : Sx σ σ1) (g : J7 (pE τ) (trS σ1) r) : Ce7 τ σ (trP1 σ1 r) := by
  rw [h.2] at g; exact g
theorem br_e7 {j a x : Nat} {g u : Int32} : Ce7 τ σ (brP σ j a x g u) := by
  unfold brP
  split
  · exact n7_hg
  · exact n7_hg
theorem em_pE {r : Nat × PS × Nat} (e : emM b n m τ k j i o σ = .ok r) : pE τ r.2.2 := by
  unfold emM at e
  by_cases h1 : tK b n i = 2
  · rw [if_pos h1] at e
    cases h2 : fd τ.1 (tC b n i) with
    | none => rw [h2] at e; cases e
    | some s =>
      rw [h2] at e
      have e : (if τ.2.1.getD s 0 = 30 then Except.error (4, tP b n i) else (adv' b n i).bind fun i2 => _) = .ok r := e
      by_cases h3 : τ.2.1.getD s 0 = 30
      · rw [if_pos h3] at e; cases e
      rw [if_neg h3] at e
      have hs : pE τ s := ⟨(fd_some h2).1, h3⟩
      obtain ⟨i2, -, e⟩ := bind_ok e
      by_cases h4 : τ.2.2.1.getD s 0 = 0
      · rw [if_pos h4] at e
        by_cases h5 : k = 40 ∧ tK b n i2 = 15
        · rw [if_pos h5] at e; cases e
        · rw [if_neg h5] at e; cases e; exact hs
      rw [if_neg h4] at e
      by_cases h5 : k = 40 ∧ tK b n i2 = 15
      · rw [if_pos h5] at e
        by_cases h6 : o = 15
        · rw [if_pos h6] at e; cases e
        rw [if_neg h6] at e
        obtain ⟨i3, -, e⟩ := bind_ok e
        obtain ⟨y, e1, e⟩ := bind_ok e
        obtain ⟨i4, -, e⟩ := bind_ok e
        cases e
        exact hs
      · rw [if_neg h5] at e; cases e
  · rw [if_neg h1] at e; cases e
theorem lf_e7 {r : Nat × PS × Nat} (e : lfM b n m τ k w j i K σ = .ok r) : Ce7 τ σ r.2.1 := by
  unfold lfM at e
  by_cases k1 : k = 38
  · rw [if_pos k1] at e; cases e; exact (Sx.rf.ce7 n7_pa)
  rw [if_neg k1] at e
  by_cases k2 : k = 39
  · rw [if_pos k2] at e; cases e; exact (Sx.rf.ce7 n7_ha)
  rw [if_neg k2] at e
  by_cases k3 : k = 40
  · rw [if_pos k3] at e
    obtain ⟨y, e1, e⟩ := bind_ok e
    cases e; exact ((em_x e1).ce7 (n7_em (em_pE e1)))
  rw [if_neg k3] at e
  by_cases k4 : k = 41
  · rw [if_pos k4] at e
    obtain ⟨y, e1, e⟩ := bind_ok e
    cases e; exact ((em_x e1).ce7 (n7_st (em_pE e1)))
  rw [if_neg k4] at e
  by_cases k5 : k = 47
  · rw [if_pos k5] at e
    obtain ⟨y, e1, e⟩ := bind_ok e
    cases e; exact ((at_x e1).ce7 n7_aw)
  rw [if_neg k5] at e
  by_cases k6 : k = 57
  · rw [if_pos k6] at e
    by_cases h1 : tK b n i = 2
    · rw [if_pos h1] at e
      cases h2 : trW K (tC b n i) with
      | none => rw [h2] at e; cases e
      | some q =>
        rw [h2] at e
        obtain ⟨i2, -, e⟩ := bind_ok e
        cases e; exact (Sx.ce7 (σ1 := raP σ (up2 σ.1.2.1 60 (40 * m + j) (Int32.ofNat q.2))) ⟨rfl, rfl⟩ n7_ex)
    · rw [if_neg h1] at e; cases e
  rw [if_neg k6] at e
  by_cases k7 : k = 2
  · rw [if_pos k7] at e
    obtain ⟨i2, -, e⟩ := bind_ok e
    obtain ⟨y, e1, e⟩ := bind_ok e
    have q := su_x e1
    cases e; exact (Sx.ce7 (σ := σ) ⟨q.1, q.2⟩ (n7_mk (by decide)))
  rw [if_neg k7] at e
  cases e; exact (Sx.rf.ce7 (n7_mk (by decide)))
theorem hd_e7 {r : Nat × PS × Nat × Bool × Nat × Option Int64} (e : hdM b n m τ k j i K σ = .ok r) : Ce7 τ σ r.2.1 := by
  unfold hdM at e
  by_cases k1 : k = 44
  · rw [if_pos k1] at e
    obtain ⟨y, e1, e⟩ := bind_ok e
    obtain ⟨i2, -, e⟩ := bind_ok e
    have q := co_x e1
    cases e; exact J7.of q.2
  rw [if_neg k1] at e
  by_cases k2 : k = 49
  · rw [if_pos k2] at e; cases e; exact J7.rf
  rw [if_neg k2] at e
  by_cases k3 : k = 50
  · rw [if_pos k3] at e
    obtain ⟨i2, -, e⟩ := bind_ok e
    cases e; exact J7.rf
  rw [if_neg k3] at e
  by_cases k4 : k = 53
  · rw [if_pos k4] at e
    obtain ⟨y, e1, e⟩ := bind_ok e
    obtain ⟨i2, -, e⟩ := bind_ok e
    cases e; exact ((at_x e1).ce7 n7_aw)
  rw [if_neg k4] at e
  by_cases k5 : k = 55
  · rw [if_pos k5] at e
    by_cases h1 : tK b n i = 2
    · rw [if_pos h1] at e
      by_cases h2 : toT (tC b n i) τ = true ∨ (trW K (tC b n i)).isSome = true
      · rw [if_pos h2] at e; cases e
      rw [if_neg h2] at e
      obtain ⟨i2, -, e⟩ := bind_ok e
      obtain ⟨i3, -, e⟩ := bind_ok e
      cases e; exact J7.rf
    · rw [if_neg h1] at e; cases e
  rw [if_neg k5] at e
  by_cases k6 : k = 58
  · rw [if_pos k6] at e
    obtain ⟨y, e1, e⟩ := bind_ok e
    have q := su_x e1
    by_cases h1 : 7 ≤ tK b n y.1 ∧ tK b n y.1 ≤ 12
    · rw [if_pos h1] at e
      obtain ⟨i2, -, e⟩ := bind_ok e
      obtain ⟨z, e2, e⟩ := bind_ok e
      obtain ⟨i3, -, e⟩ := bind_ok e
      have q2 := su_x e2
      have g1 : z.2.1.1 = σ.1.1 := q2.1.trans q.1
      have g2 : trS z.2 = trS σ := q2.2.trans q.2
      cases e; exact J7.of g2
    · rw [if_neg h1] at e; cases e
  rw [if_neg k6] at e
  by_cases k7 : k = 17
  · rw [if_pos k7] at e
    cases e; exact (Sx.rf.ce7 (n7_mk (by decide)))
  rw [if_neg k7] at e
  cases e; exact J7.rf
theorem tl_e7 {r : Nat × PS × Nat} (e : tlM b n m τ k j aw lit x i o σ = .ok r) : Ce7 τ σ r.2.1 := by
  unfold tlM at e
  by_cases k1 : k = 42
  · rw [if_pos k1] at e
    obtain ⟨i2, -, e⟩ := bind_ok e
    cases e
    by_cases h1 : (trS σ).2.2 13 x &&& 1 = 0
    · rw [if_pos h1]; exact (Sx.rf.ce7 (n7_wr (by decide)))
    · rw [if_neg h1]; exact (Sx.ce7 (σ := σ) (σ1 := paP σ j 2 7) ⟨rfl, rfl⟩ (n7_wr (by decide)))
  rw [if_neg k1] at e
  by_cases k2 : k = 49
  · rw [if_pos k2] at e
    obtain ⟨i2, -, e⟩ := bind_ok e
    obtain ⟨y, e1, e⟩ := bind_ok e
    obtain ⟨i3, -, e⟩ := bind_ok e
    have g := at_x e1
    by_cases h1 : y.2.2.2 = true
    · rw [if_pos h1] at e
      have b1 := n7_ab (p := pE τ) (Θ := trS y.2.1) (c := x) (l := Int32.ofNat y.2.2.1)
      have b2 := n7_mk (p := pE τ) (Θ := (abT (trS y.2.1) x (Int32.ofNat y.2.2.1)).1) (k := 0) (by decide)
      have b3 := n7_ch (p := pE τ) (Θ := (mkT (abT (trS y.2.1) x (Int32.ofNat y.2.2.1)).1 0).1) (l := Int32.ofNat y.2.2.1) (c := (mkT (abT (trS y.2.1) x (Int32.ofNat y.2.2.1)).1 0).2) (d := (abT (trS y.2.1) x (Int32.ofNat y.2.2.1)).2)
      cases e
      exact g.ce7 ((b1.tr b2).tr b3)
    · rw [if_neg h1] at e
      cases e
      exact (g.ce7 n7_ab)
  rw [if_neg k2] at e
  by_cases k3 : k = 50
  · rw [if_pos k3] at e
    obtain ⟨i2, -, e⟩ := bind_ok e
    obtain ⟨y, e1, e⟩ := bind_ok e
    obtain ⟨i3, -, e⟩ := bind_ok e
    cases e
    exact ((at_x e1).ce7 n7_wk)
  rw [if_neg k3] at e
  by_cases k4 : k = 52
  · rw [if_pos k4] at e
    obtain ⟨i2, -, e⟩ := bind_ok e
    obtain ⟨y, e1, e⟩ := bind_ok e
    obtain ⟨i3, -, e⟩ := bind_ok e
    cases e
    exact ((co_x e1).ce7 n7_su)
  rw [if_neg k4] at e
  by_cases k5 : k = 53
  · rw [if_pos k5] at e
    obtain ⟨i2, -, e⟩ := bind_ok e
    cases e
    exact (Sx.rf.ce7 n7_ev)
  rw [if_neg k5] at e
  obtain ⟨i2, -, e⟩ := bind_ok e
  cases e
  exact (Sx.rf.ce7 (n7_wr (by decide)))
theorem ch_e7 {r : Nat × PS × Nat} (e : chM b n lit x y i σ = .ok r) : Ce7 τ σ r.2.1 := by
  unfold chM at e
  obtain ⟨i2, -, e⟩ := bind_ok e
  cases e
  exact Sx.rf.ce7 n7_ch
/-- emissions of a reading -/
theorem rp_em : ∀ (g md : Nat) (K : List KE) (i : Nat) (σ : PS) (a1 a2 a3 a4 : Nat) (c1 c2 : Int32) (r : Nat × PS × Nat), md ≤ 3 → rp b n m τ g md K i σ a1 a2 a3 a4 c1 c2 = .ok r → Ce7 τ σ r.2.1 :=
  rp_gen (Ce7 τ) (fun _ q => q) (fun _ _ _ h k q => k (h q)) (fun _ _ _ _ _ _ _ e => lf_e7 e) (fun _ _ _ _ _ _ e => hd_e7 e) (fun _ _ _ _ _ _ _ _ _ e => tl_e7 e) (fun _ _ _ _ _ _ e => ch_e7 e) (fun _ _ hk => n7_mk hk) (fun _ _ _ => n7_hg) (fun _ _ _ q => q) (fun _ _ q => q) (fun _ _ _ _ _ _ q => q) (fun _ _ _ q => q) (fun _ _ _ q => q)
end
/-- what is emitted is a signal, and no input -/
def EmN (τ : Td) (Θ : TrT) : Prop := ∀ x, 1 ≤ x → x < Θ.1 → Θ.2.2 5 x = 2 → ∃ s, s < τ.1.length ∧ Θ.2.2 11 x = Int32.ofNat s ∧ τ.2.1.getD s 0 ≠ 30
theorem EmQ.n {τ : Td} {Θ : TrT} (h : EmQ (pE τ) Θ) : EmN τ Θ := fun x x1 x2 k2 => by
  obtain ⟨s, e, p1, p2⟩ := h.2 x x1 x2 k2
  exact ⟨s, p1, e, p2⟩
end
section
/-! a text read to its end: what the weaver wants of it -/
section
variable {b : Nat → Int32} {n s m i : Nat} {τ : Td} {A : Nat → Nat → Int32} {B : Nat → Int64} {Zt : Nat → Nat → Int32} {σ : PS} {γ : Gh} {root g0 : Nat}
/-- beside RdE -/
def RdX (τ : Td) (σ : PS) (root : Nat) (γ : Gh) : Prop := (trS σ).2.2 9 root = 0 ∧ (trS σ).2.2 5 0 = 0 ∧ CdA (trS σ) ∧ τ.1.length + 2 ≤ γ.2.2.length ∧ NxI τ.1.length σ.2.1.2.2.1 σ.2.1.2.2.2.1 (ifS σ) σ.2.2.2 ∧ (∃ t, γ.2.2 = roI τ.1.length ++ t) ∧ EmN τ (trS σ) ∧ BfY σ.2.1.2.2.2.1 σ.2.2.2
theorem rd_all2 {r : Nat × PS × Nat} (hB : By b) (hS : Sto b n s) (h4 : m < 4) (hv : HvT τ) (hi : i ≤ s) (hk : tK b n i ≠ 0) (hZ : Zt 5 0 = 0) (e : rdQ b n m τ i (σI A B (cl0 Zt τ)) = .ok r) (hX : r.2.1.2.2.1.length < 900) : ∃ γ g, RdE τ m r.2.1 r.2.2 γ g ∧ RdX τ r.2.1 r.2.2 γ := by
  unfold rdQ at e
  obtain ⟨q, e1, e2⟩ := bind_ok e
  have er : q = r := by
    by_cases z : tK b n q.1 = 1
    · rw [if_pos z] at e2; cases e2; rfl
    · rw [if_neg z] at e2; cases e2
  subst er
  have ok0 := rp_ok (τ := τ) (m := m) hS 6000 0 [] i (σI A B (cl0 Zt τ)) 0 0 0 0 0 0 (by decide) hi hk σI_ok
  rw [e1] at ok0
  obtain ⟨-, -, -, ⟨-, pk, rw4, -⟩, -⟩ := ok0
  have cn := rp_cnt 6000 0 [] i (σI A B (cl0 Zt τ)) 0 0 0 0 0 0 q (by decide) e1 0 (by rw [if_pos (Or.inl rfl)]; exact (by decide : 1 + (0 + 1) ≤ 2 * 0 + 11 * 0 + 1 + 4))
  have pu := rp_pau 6000 0 [] i (σI A B (cl0 Zt τ)) 0 0 0 0 0 0 q (by decide) e1 0 (Nat.le_refl 0)
  have k5 := rp_k5 6000 0 [] i (σI A B (cl0 Zt τ)) 0 0 0 0 0 0 q (by decide) e1 (Nat.le_refl 1)
  have cd := rp_cd hv.2 6000 0 [] i (σI A B (cl0 Zt τ)) 0 0 0 0 0 0 q (by decide) e1 ⟨Nat.le_refl 1, fun x x1 x2 => by have x2 : x < 1 := x2; omega⟩
  have em := rp_em 6000 0 [] i (σI A B (cl0 Zt τ)) 0 0 0 0 0 0 q (by decide) e1 ⟨Nat.le_refl 1, fun x x1 x2 => by have x2 : x < 1 := x2; omega⟩
  have nx := rp_nx 6000 0 [] i (σI A B (cl0 Zt τ)) 0 0 0 0 0 0 q (by decide) e1 ⟨⟨fun n hn => Or.inr (Or.inl (by have hn : n < (NT τ.1.length).length := hn; rw [NT_len] at hn; omega)), fun _ _ => rfl, by show 2 + τ.1.length ≤ (NT τ.1.length).length; rw [NT_len]; omega, fun n hn => NT_gd (by omega), fun d hd => absurd hd List.not_mem_nil⟩, fun s => ⟨fun z => absurd rfl z, fun ⟨d, hd, _⟩ => absurd hd List.not_mem_nil⟩⟩
  have n6 : (trS q.2.1).1 ≤ 400 := by
    unfold alR at cn
    have a1 := pk.1
    have a2 := pk.2.1
    have a3 : q.2.1.1.1 4 ≤ npS q.2.1 := rw4
    omega
  have p24 : (trS q.2.1).2.1 ≤ 24 := by
    have a2 := pk.2.1
    have pu : (trS q.2.1).2.1 + 0 ≤ q.2.1.1.1 1 := pu
    have a2 : q.2.1.1.1 1 ≤ 24 := a2
    omega
  obtain ⟨γ', g, g1, g2, g3, g4, g5, g6⟩ := rp_tree hB hS h4 hv 6000 [] i _ q ⟨hi, hk, σI_ok⟩ e1 _ gi_0 rfl (by omega) hX (by
    show up2 (up2 (up2 A 73 0 (-1)) 74 0 (-1)) 75 0 (-1) 73 0 = -1
    rw [up2_row (by decide), up2_row (by decide), up2_eq])
  have gx := ((rp_X (τ := τ) hS h4 hv 6000).1 [] i _ q ⟨hi, hk, σI_ok⟩ e1 hX).2 hX
  refine ⟨γ', g, ⟨g1, g3, g6, ⟨n6, p24, pk.1, rw4⟩, ⟨g5.1, g5.2.1⟩, fun k hk => gx.2.2 k (Nat.zero_le _) hk⟩, g5.2.2, k5.2.trans hZ, cd, ?_, nx.1, g2.2.2.1, em.n, nx.2⟩
  obtain ⟨-, -, ⟨t, et⟩, -⟩ := g2
  have et : γ'.2.2 = roI τ.1.length ++ t := et
  rw [et, List.length_append, roI_len]
  omega
/-- children of nodes only -/
def chR (Θ : TrT) (G : Nat → List Nat) (x : Nat) : List Nat := if 1 ≤ x ∧ x < Θ.1 then G x else []
theorem chR_in {Θ : TrT} {G : Nat → List Nat} {x : Nat} (h : 1 ≤ x ∧ x < Θ.1) : chR Θ G x = G x := if_pos h
theorem chR_sub {Θ : TrT} {G : Nat → List Nat} {x c : Nat} (h : c ∈ chR Θ G x) : (1 ≤ x ∧ x < Θ.1) ∧ c ∈ G x := by
  unfold chR at h
  by_cases z : 1 ≤ x ∧ x < Θ.1
  · rw [if_pos z] at h; exact ⟨z, h⟩
  · rw [if_neg z] at h; exact absurd h List.not_mem_nil
theorem ft_R {Θ : TrT} {G : Nat → List Nat} : ∀ (g x : Nat), FtN G g x → FtN (chR Θ G) g x
  | 0, _, h => False.elim h
  | g + 1, x, h => fun c hc => ft_R g c (h c (chR_sub hc).2)
theorem noL_R {Θ : TrT} {G : Nat → List Nat} : ∀ (g x z : Nat), z ∈ noL (chR Θ G) g x → z ∈ noL G g x
  | 0, _, _, h => absurd h List.not_mem_nil
  | g + 1, x, z, h => by
    rcases List.mem_cons.mp h with e | e
    · rw [e]; exact List.mem_cons_self
    · obtain ⟨c, m1, m2⟩ := List.mem_flatMap.mp e
      exact List.mem_cons_of_mem _ (List.mem_flatMap.mpr ⟨c, (chR_sub m1).2, noL_R g c z m2⟩)
theorem TG.R {Θ : TrT} {G : Nat → List Nat} (h : TG Θ G) : TG Θ (chR Θ G) := by
  obtain ⟨h1, h2, h3⟩ := h
  refine ⟨h1, fun x x1 x2 => ?_, h3⟩
  rw [chR_in ⟨x1, x2⟩]
  exact h2 x x1 x2
/-- roles but for those of masks -/
def m6R (Ro : List (Nat × Nat)) : List (Nat × Nat) := Ro.map (fun e => if e.1 = 6 then (99, e.2) else e)
theorem m6_gd {Ro : List (Nat × Nat)} {k : Nat} (hk : k < Ro.length) : (m6R Ro).getD k (0, 0) = if (Ro.getD k (0, 0)).1 = 6 then (99, (Ro.getD k (0, 0)).2) else Ro.getD k (0, 0) := by
  unfold m6R
  rw [List.getD_eq_getElem?_getD, List.getElem?_map, List.getElem?_eq_getElem hk, List.getD_eq_getElem?_getD, List.getElem?_eq_getElem hk]
  rfl
theorem m6_row {N : Nt} {Ro : List (Nat × Nat)} (h : RoK N Ro) : RoW (N, m6R Ro, []) := by
  obtain ⟨h1, h2⟩ := h
  have ln : (m6R Ro).length = N.length := by unfold m6R; rw [List.length_map]; exact h1
  refine ⟨ln, fun k hk r0 => ?_, fun k i hk ri => ?_⟩
  · have hk : k < N.length := hk
    have r0 : ((m6R Ro).getD k (0, 0)).1 = 0 := r0
    rw [m6_gd (by omega)] at r0
    by_cases z : (Ro.getD k (0, 0)).1 = 6
    · rw [if_pos z] at r0; exact absurd (show (99 : Nat) = 0 from r0) (by decide)
    · rw [if_neg z] at r0; exact (h2 k hk).1 r0
  · have hk : k < N.length := hk
    have ri : (m6R Ro).getD k (0, 0) = (6, i) := ri
    rw [m6_gd (by omega)] at ri
    by_cases z : (Ro.getD k (0, 0)).1 = 6
    · rw [if_pos z] at ri; exact absurd (show (99 : Nat) = 6 from congrArg Prod.fst ri) (by decide)
    · rw [if_neg z] at ri; exact absurd (congrArg Prod.fst ri) z
/-- all that the weaver wants of the tree and the nets -/
theorem RdE.wv (hE : RdE τ m σ root γ g0) (hX : RdX τ σ root γ) : ∃ g, FtN (chR (trS σ) γ.1) g root ∧ (noL (chR (trS σ) γ.1) g root).Nodup ∧ (∀ z, z ∈ noL (chR (trS σ) γ.1) g root → ShN (trS σ) (chR (trS σ) γ.1) σ.2.1.2.2.1.length z) ∧ (noL (chR (trS σ) γ.1) g root).length ≤ 400 ∧ (∀ z y y', z ∈ chR (trS σ) γ.1 y → z ∈ chR (trS σ) γ.1 y' → y = y') ∧ (trS σ).2.2 8 root = 0 ∧ (trS σ).2.2 5 root ≠ 8 ∧ RoW (σ.2.1.2.2.1, m6R γ.2.2, []) ∧ 2 ≤ σ.2.1.2.2.1.length ∧ ∀ t, t < τ.1.length → 2 + t < σ.2.1.2.2.1.length ∧ ((m6R γ.2.2).getD (2 + t) (0, 0)).1 ≠ 0 ∧ ((m6R γ.2.2).getD (2 + t) (0, 0)).1 ≠ 6 := by
  obtain ⟨hg, hif, tt, ⟨n4, p24, -, -⟩, hx, -⟩ := hE
  obtain ⟨p9, k0, hA, hl, -⟩ := hX
  have rk : RoK σ.2.1.2.2.1 γ.2.2 := hg.2.1.1.1
  have gd := TT.gd (nb := σ.2.1.2.2.1.length) (fun P l c => cd_lit hg c) (fun f hf => if_lit hg hf rfl) _ _ _ _ _ _ _ _ _ _ _ _ _ _ _ _ (by decide) tt p24 root (List.mem_singleton.mpr rfl)
  obtain ⟨g, ft, ks⟩ := gd
  have ft : FtN γ.1 g root := ft
  have fR : FtN (chR (trS σ) γ.1) g root := ft_R g root ft
  have par : ∀ z y, z ∈ chR (trS σ) γ.1 y → (trS σ).2.2 9 z = Int32.ofNat y ∧ y < 640 := fun z y h => by
    obtain ⟨q1, q2⟩ := chR_sub h
    have w := (hg.1.2.1 y q1.1 q1.2).1
    exact ⟨w.2.2.2.1 z q2, by omega⟩
  have hf : ∀ z y y', z ∈ chR (trS σ) γ.1 y → z ∈ chR (trS σ) γ.1 y' → y = y' := fun z y y' h h' => by
    obtain ⟨a1, a2⟩ := par z y h
    obtain ⟨b1, b2⟩ := par z y' h'
    exact inj32 (by omega) (by omega) (a1.symm.trans b1)
  have hn : ∀ y, (chR (trS σ) γ.1 y).Nodup := fun y => by
    by_cases z : 1 ≤ y ∧ y < (trS σ).1
    · rw [chR_in z]; exact (hg.1.2.1 y z.1 z.2).2.1
    · unfold chR; rw [if_neg z]; exact List.nodup_nil
  have nd := noL_nd hf hn g root fR
  have bd : ∀ y, 1 ≤ y → y < (trS σ).1 → ∀ c ∈ chR (trS σ) γ.1 y, 1 ≤ c ∧ c < (trS σ).1 := fun y y1 y2 c hc => (hg.1.2.1 y y1 y2).2.2.1 c (chR_sub hc).2
  have inb := noL_bd bd g root hx
  have ftz : ∀ (g x z : Nat), FtN (chR (trS σ) γ.1) g x → z ∈ noL (chR (trS σ) γ.1) g x → ∃ g', FtN (chR (trS σ) γ.1) g' z := by
    intro g
    induction g with
    | zero => intro x z h; exact False.elim h
    | succ g ih =>
      intro x z h hz
      rcases List.mem_cons.mp hz with e | e
      · rw [e]; exact ⟨g + 1, h⟩
      · obtain ⟨c, m1, m2⟩ := List.mem_flatMap.mp e
        exact ih c z (h c m1) m2
  refine ⟨g, fR, nd, fun z hz => ?_, ?_, hf, hg.1.2.2 root hx.1 hx.2 p9, ?_, m6_row rk, ?_, fun t ht => ?_⟩
  · obtain ⟨c1, c3, cc, ck, cl⟩ := ks z (noL_R g root z hz)
    have zi := inb z hz
    have ez : chR (trS σ) γ.1 z = γ.1 z := chR_in zi
    refine sh_of hg.1.R hA zi (ftz g root z fR hz) c1 c3 cc ?_ ?_
    · rw [ez]; exact ck
    · rw [ez]; exact cl
  · have := nodup_iv (a := 1) (n := (trS σ).1 - 1) nd (fun z hz => by have := inb z hz; omega)
    omega
  · unfold TTs at tt
    cases g0 with
    | zero => unfold TT at tt; exact tt.elim
    | succ g0 =>
      unfold TT at tt
      rw [if_pos rfl] at tt
      obtain ⟨x, jm, rm, pm, T, y, eL, -, -, nd5, -⟩ := tt
      have ey : root = y := congrArg Prod.snd (List.cons.inj eL).1
      rw [ey]
      have k : (trS σ).2.2 5 y = 5 := nd5.2.1
      rw [k]; decide
  · have := rk.1
    omega
  · have r := hg.2.1.1.2.2.1 t ht
    obtain ⟨r1, r2, r3⟩ := r
    unfold sgT at r2 r3
    rw [if_pos ht, show (4 + 2 * t) / 2 = 2 + t by omega] at r2 r3
    have := rk.1
    refine ⟨by omega, ?_⟩
    rw [m6_gd r2, r3, if_neg (show ¬ (3 : Nat) = 6 by decide)]
    exact ⟨(by decide : (3 : Nat) ≠ 0), (by decide : (3 : Nat) ≠ 6)⟩
end
end
section
/-! no more nodes of sums than tokens -/
section
variable {b : Nat → Int32} {n : Nat}
theorem adv_i {i j : Nat} (e : adv' b n i = .ok j) : j = i + 1 := by
  unfold adv' at e
  by_cases z : tK b n (i + 1) = 0
  · rw [if_pos z] at e; cases e
  · rw [if_neg z] at e; cases e; rfl
theorem ex_i {i j : Nat} {c : Int32} (e : ex b n i c = .ok j) : j = i + 1 := by
  unfold ex at e
  by_cases z : tK b n i = c
  · rw [if_pos z] at e; exact adv_i e
  · rw [if_neg z] at e; cases e
theorem rd_xl {sN : List Int64} {mx : List Int32} {vN : List Int64} : ∀ (g md i o : Nat) (X : List Nd) (u : Int32) (r : Nat × List Nd × Int32), rd b n sN mx vN g md i o X u = .ok r → r.2.1.length + i ≤ X.length + r.1 := by
  intro g
  induction g with
  | zero => intro md i o X u r e; unfold rd at e; cases e
  | succ g ih =>
    intro md i o X u r e
    unfold rd at e
    by_cases m0 : md = 0
    · rw [if_pos m0] at e
      by_cases k1 : tK b n i = 3
      · rw [if_pos k1] at e
        obtain ⟨j, hj, e⟩ := bind_ok e
        cases e
        have := adv_i hj
        show (X ++ [_]).length + i ≤ X.length + j
        rw [List.length_append]; show X.length + 1 + i ≤ _; omega
      rw [if_neg k1] at e
      by_cases k2 : tK b n i = 2
      · rw [if_pos k2] at e
        cases h2 : fd vN (tC b n i) with
        | none => rw [h2] at e; cases e
        | some k =>
          rw [h2] at e
          obtain ⟨j, hj, e⟩ := bind_ok e
          cases e
          have := adv_i hj
          show (X ++ [_]).length + i ≤ X.length + j
          rw [List.length_append]; show X.length + 1 + i ≤ _; omega
      rw [if_neg k2] at e
      by_cases k3 : tK b n i = 19
      · rw [if_pos k3] at e
        obtain ⟨j, hj, e⟩ := bind_ok e
        have a1 := adv_i hj
        by_cases k4 : tK b n j = 2
        · rw [if_pos k4] at e
          cases h2 : fd sN (tC b n j) with
          | none => rw [h2] at e; cases e
          | some k =>
            rw [h2] at e
            have e : (if mx.getD k 0 = 0 then Except.error (4, tP b n j) else (adv' b n j).bind fun j' => .ok (j', X ++ [(2, Int64.ofNat k, 0)], u)) = .ok r := e
            by_cases k5 : mx.getD k 0 = 0
            · rw [if_pos k5] at e; cases e
            rw [if_neg k5] at e
            obtain ⟨j', hj', e⟩ := bind_ok e
            cases e
            have := adv_i hj'
            show (X ++ [_]).length + i ≤ X.length + j'
            rw [List.length_append]; show X.length + 1 + i ≤ _; omega
        · rw [if_neg k4] at e; cases e
      rw [if_neg k3] at e
      by_cases k6 : tK b n i = 21
      · rw [if_pos k6] at e
        by_cases k7 : o = 15
        · rw [if_pos k7] at e; cases e
        rw [if_neg k7] at e
        obtain ⟨j, hj, e⟩ := bind_ok e
        obtain ⟨q, hq, e⟩ := bind_ok e
        cases e
        have := adv_i hj
        have := ih _ _ _ _ _ _ hq
        show (q.2.1 ++ [_]).length + i ≤ X.length + q.1
        rw [List.length_append]; show q.2.1.length + 1 + i ≤ _; omega
      rw [if_neg k6] at e
      by_cases k8 : tK b n i = 15
      · rw [if_pos k8] at e
        by_cases k7 : o = 15
        · rw [if_pos k7] at e; cases e
        rw [if_neg k7] at e
        obtain ⟨j, hj, e⟩ := bind_ok e
        obtain ⟨q, hq, e⟩ := bind_ok e
        have := adv_i hj
        have := ih _ _ _ _ _ _ hq
        by_cases k9 : tK b n q.1 = 16
        · rw [if_pos k9] at e
          obtain ⟨j', hj', e⟩ := bind_ok e
          cases e
          have := adv_i hj'
          show q.2.1.length + i ≤ X.length + j'
          omega
        · rw [if_neg k9] at e; cases e
      · rw [if_neg k8] at e; cases e
    rw [if_neg m0] at e
    by_cases m1 : md = 1
    · rw [if_pos m1] at e
      obtain ⟨q, hq, e⟩ := bind_ok e
      have := ih _ _ _ _ _ _ hq
      have := ih _ _ _ _ _ _ e
      omega
    rw [if_neg m1] at e
    by_cases m2 : md = 2
    · rw [if_pos m2] at e
      by_cases k1 : tK b n i = 22 ∨ tK b n i = 23 ∨ tK b n i = 24
      · rw [if_pos k1] at e
        obtain ⟨j, hj, e⟩ := bind_ok e
        obtain ⟨q, hq, e⟩ := bind_ok e
        have := adv_i hj
        have := ih _ _ _ _ _ _ hq
        have a3 := ih _ _ _ _ _ _ e
        rw [List.length_append] at a3
        have a3 : r.2.1.length + q.1 ≤ q.2.1.length + 1 + r.1 := a3
        omega
      · rw [if_neg k1] at e; cases e; exact Nat.le_refl _
    rw [if_neg m2] at e
    by_cases m3 : md = 3
    · rw [if_pos m3] at e
      obtain ⟨q, hq, e⟩ := bind_ok e
      have := ih _ _ _ _ _ _ hq
      have := ih _ _ _ _ _ _ e
      omega
    rw [if_neg m3] at e
    by_cases k1 : tK b n i = 20 ∨ tK b n i = 21
    · rw [if_pos k1] at e
      obtain ⟨j, hj, e⟩ := bind_ok e
      obtain ⟨q, hq, e⟩ := bind_ok e
      have := adv_i hj
      have := ih _ _ _ _ _ _ hq
      have a3 := ih _ _ _ _ _ _ e
      rw [List.length_append] at a3
      have a3 : r.2.1.length + q.1 ≤ q.2.1.length + 1 + r.1 := a3
      omega
    · rw [if_neg k1] at e; cases e; exact Nat.le_refl _
theorem rc0_le {sN : List Int64} {p i : Nat} {Y : List Cd} {r : Nat × List Cd} (e : rc0 b n sN p i Y = .ok r) : i ≤ r.1 := by
  unfold rc0 at e
  by_cases k1 : tK b n i = 2
  · rw [if_pos k1] at e
    cases h2 : fd sN (tC b n i) with
    | none => rw [h2] at e; cases e
    | some k =>
      rw [h2] at e
      obtain ⟨j, hj, e⟩ := bind_ok e
      cases e
      have := adv_i hj
      show i ≤ j
      omega
  · rw [if_neg k1] at e; cases e
theorem rc_le {sN : List Int64} : ∀ (g md i o : Nat) (Y : List Cd) (r : Nat × List Cd), rc b n sN g md i o Y = .ok r → i ≤ r.1 := by
  intro g
  induction g with
  | zero => intro md i o Y r e; unfold rc at e; cases e
  | succ g ih =>
    intro md i o Y r e
    unfold rc at e
    by_cases m0 : md = 0
    · rw [if_pos m0] at e
      by_cases k1 : tK b n i = 61
      · rw [if_pos k1] at e
        by_cases k7 : o = 15
        · rw [if_pos k7] at e; cases e
        rw [if_neg k7] at e
        obtain ⟨j, hj, e⟩ := bind_ok e
        obtain ⟨q, hq, e⟩ := bind_ok e
        cases e
        have := adv_i hj
        have := ih _ _ _ _ _ hq
        show i ≤ q.1
        omega
      rw [if_neg k1] at e
      by_cases k2 : tK b n i = 15
      · rw [if_pos k2] at e
        by_cases k7 : o = 15
        · rw [if_pos k7] at e; cases e
        rw [if_neg k7] at e
        obtain ⟨j, hj, e⟩ := bind_ok e
        obtain ⟨q, hq, e⟩ := bind_ok e
        have := adv_i hj
        have := ih _ _ _ _ _ hq
        by_cases k9 : tK b n q.1 = 16
        · rw [if_pos k9] at e
          obtain ⟨j', hj', e⟩ := bind_ok e
          cases e
          have := adv_i hj'
          show i ≤ j'
          omega
        · rw [if_neg k9] at e; cases e
      rw [if_neg k2] at e
      by_cases k3 : tK b n i = 62
      · rw [if_pos k3] at e
        obtain ⟨j, hj, e⟩ := bind_ok e
        have := adv_i hj
        have := rc0_le e
        omega
      · rw [if_neg k3] at e; exact rc0_le e
    rw [if_neg m0] at e
    by_cases m1 : md = 1
    · rw [if_pos m1] at e
      obtain ⟨q, hq, e⟩ := bind_ok e
      have := ih _ _ _ _ _ hq
      have := ih _ _ _ _ _ e
      omega
    rw [if_neg m1] at e
    by_cases m2 : md = 2
    · rw [if_pos m2] at e
      by_cases k1 : tK b n i = 59
      · rw [if_pos k1] at e
        obtain ⟨j, hj, e⟩ := bind_ok e
        obtain ⟨q, hq, e⟩ := bind_ok e
        have := adv_i hj
        have := ih _ _ _ _ _ hq
        have := ih _ _ _ _ _ e
        omega
      · rw [if_neg k1] at e; cases e; exact Nat.le_refl _
    rw [if_neg m2] at e
    by_cases m3 : md = 3
    · rw [if_pos m3] at e
      obtain ⟨q, hq, e⟩ := bind_ok e
      have := ih _ _ _ _ _ hq
      have := ih _ _ _ _ _ e
      omega
    rw [if_neg m3] at e
    by_cases k1 : tK b n i = 60
    · rw [if_pos k1] at e
      obtain ⟨j, hj, e⟩ := bind_ok e
      obtain ⟨q, hq, e⟩ := bind_ok e
      have := adv_i hj
      have := ih _ _ _ _ _ hq
      have := ih _ _ _ _ _ e
      omega
    · rw [if_neg k1] at e; cases e; exact Nat.le_refl _
end
end
