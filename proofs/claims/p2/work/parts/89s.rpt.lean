/-! the reference: one part, from the loop's head -/
section
variable {b : Nat → Int32} {n s m : Nat} {τ : Td} {K : List KE} {σ : PS} {M M' : Mem} {i o h : Nat} {Q : Option Value → Mem → Prop}
theorem X_72 {f x : Int32} {p : Nat} (hT : TXr M f p) (H : Q (some (.int 0)) M) : DX11_readParts_72 (h + 13) 29 0 1 x M Q := by
  unfold DX11_readParts_72 DX11_readParts_157
  exact ⟨ok29 hT.1, fun _ => X_loop hT H, fun z => absurd z hT.n0⟩
theorem R_leaf {k : Int32} {j : Nat} (hR : RPs b n s m τ K σ M i o) (hj : j < 40) (hso : soK k ≠ 99) (hop : opnK k = false) (h58 : σ.1.2.1 58 (40 * m + j) = Int32.ofNat (soK k)) (H : ∀ M', RPs b n s m τ K (raP σ (up2 σ.1.2.1 71 (40 * m + j) (Int32.ofNat (40 * m + npS σ)))) M' i o → RGp m M M' → SBh h Q M') : DX11_readParts_72 (h + 13) 29 0 1 (Int32.ofNat (40 * m + j)) M Q := by
  obtain ⟨c1, c2, c3, c4, c5, c6, c7⟩ := id hR
  have F := c1.1
  have h4 := c1.2.2.2.1
  have m19 := c1.2.2.1
  have l40 := lt40 h4 hj
  have sf := soK_facts hso
  have a58 : mAI M 58 (40 * m + j) = Int32.ofNat (soK k) := by rw [c6.2.2.1 58 (by decide) (by decide) (by decide)]; exact h58
  have eP : (40 : Int32) * Int32.ofNat m + mAI M 54 m = Int32.ofNat (40 * m + npS σ) := off32 (a := 40) c6.2.2.2.2.1.1
  unfold DX11_readParts_72
  rw [l40]
  refine ⟨ok29 F, fun z => absurd c4 z, fun _ => ⟨58, rf29_38 F, ok58 F, ix40 h4 hj (ln58 F), ?_⟩⟩
  rw [a58]
  refine P_isOp (h := h + 11) sf.1 (fun z => absurd (sf.2.1.mpr z) (by rw [hop]; decide)) (fun _ _ => ⟨_, rfl, fun _ => ?_, fun z => absurd rfl z⟩)
  rw [m19, lt32 (n := m) (by omega)]
  refine ⟨71, rf29_51 F, 54, rf29_34 F, ok54 F, by rw [ln54 F]; exact vp_of h4 (by decide), ok71 F, ix40 h4 hj (ln71 F), fun M10 e10 => ?_⟩
  rw [eP] at e10
  have R10 := hR.ra (c := 71) (k := 40 * m + j) (v := Int32.ofNat (40 * m + npS σ)) (by decide) (by decide) (by decide) (by rw [sz_p (by decide) (by decide)]; omega)
  rw [← e10] at R10
  have G10 : RGp m M M10 := by rw [e10]; exact RGp.ra (by decide) (by decide) (by decide) (by rw [sz_p (by decide) (by decide)]; omega)
  refine (KX11_behindPart (VX11_behindPart_0 (H M10 R10 G10))).imp (fun r M11 _ q _ => ?_)
  obtain ⟨v, e, q⟩ := q
  exact ⟨v, e, q⟩
/-- what a part's reading is held against -/
def EndL (b : Nat → Int32) (n s m : Nat) (τ : Td) (K : List KE) (j h : Nat) (M : Mem) (Q : Option Value → Mem → Prop) (R : Except (Int32 × Nat) (Nat × PS × Nat)) : Prop := match R with
  | .error e => ∀ M', TXr M' e.1 e.2 → RGp m M M' → Q (some (.int 0)) M'
  | .ok r => ∀ M', RPs b n s m τ K (raP r.2.1 (up2 r.2.1.1.2.1 71 (40 * m + j) (Int32.ofNat (40 * m + npS r.2.1)))) M' r.1 K.length → RGp m M M' → SBh h Q M'
def EndO2 (b : Nat → Int32) (n s m : Nat) (τ : Td) (K : List KE) (j h : Nat) (M : Mem) (Q : Option Value → Mem → Prop) (R : Except (Int32 × Nat) (Nat × PS × Nat × Bool × Nat × Option Int64)) : Prop := match R with
  | .error e => ∀ M', TXr M' e.1 e.2 → RGp m M M' → Q (some (.int 0)) M'
  | .ok r => ∀ M', RPs b n s m τ ((40 * m + j, r.2.1.1.1 4, 1, r.2.2.2.2.2) :: K) (rwP (40 * m + j) none r.2.1) M' r.1 (K.length + 1) → RGp m M M' → SLp h Q M'
theorem R_part (hR : RPs b n s m τ K σ M i K.length) (hB : By b) (hz : ∀ i, n ≤ i → b i = 0) (hS : Sto b n s) (hM : MxOk τ) (h0 : tK b n i ≠ 0) (hp : PsOk m σ) (hK : K.length ≤ 15) (hN : KNm b n m σ K) (hqq : sqK K < σ.1.1 4) (h41 : σ.1.1 4 ≤ npS σ + 1)
    (Her : ∀ e, okK (tK b n i) (tC b n i) K.length τ σ (tP b n i) = .error e → ∀ M', TXr M' e.1 e.2 → RGp m M M' → Q (some (.int 0)) M')
    (Had : okK (tK b n i) (tC b n i) K.length τ σ (tP b n i) = .ok () → tK b n (i + 1) = 0 → ∀ M', TXr M' 1 (tP b n (i + 1)) → RGp m M M' → Q (some (.int 0)) M')
    (HL : okK (tK b n i) (tC b n i) K.length τ σ (tP b n i) = .ok () → tK b n (i + 1) ≠ 0 → opnK (tK b n i) = false → EndL b n s m τ K (npS σ) h M Q (lfM b n m τ (tK b n i) (tC b n i) (npS σ) (i + 1) K (bgP m (tK b n i) (tP b n i) (sqK K) K.length (whK (tK b n i) (tC b n i) τ) σ)))
    (HO : okK (tK b n i) (tC b n i) K.length τ σ (tP b n i) = .ok () → tK b n (i + 1) ≠ 0 → opnK (tK b n i) = true → EndO2 b n s m τ K (npS σ) h M Q (hdM b n m τ (tK b n i) (npS σ) (i + 1) K (bgP m (tK b n i) (tP b n i) (sqK K) K.length (whK (tK b n i) (tC b n i) τ) σ))) : SLp h Q M := by
  have F := hR.1.1
  have h4 := hR.1.2.2.2.1
  have i60 : mI M 29 60 = Int32.ofNat K.length := by
    have z := hR.2.2.2.2.2.1.2.2.2.2.2.2.1.1
    rw [List.length_map] at z
    exact z
  have h40 := hp.1
  have go : DX11_readParts_56 (h + 13) 29 0 1 29 (Int32.ofNat (sqK K)) M Q := by
    unfold DX11_readParts_56
    refine ⟨ok29 F, P_begin (h := h + 9) (q := sqK K) hR rfl hB hz hS h0 hp hK hqq (by omega) (fun e he M2 T2 G2 _ => ⟨_, rfl, ok29 T2.1, fun _ => X_72 T2 (Her e he M2 T2 G2), fun z => absurd z T2.n0⟩) (fun hk => ⟨fun k1 M2 R2 G2 _ => ⟨_, rfl, ok29 R2.1.1, fun z => absurd R2.2.2.2.1 z, fun _ => ?_⟩, fun k1 M2 T2 G2 _ => ⟨_, rfl, ok29 T2.1, fun _ => X_72 T2 (Had hk k1 M2 T2 G2), fun z => absurd z T2.n0⟩⟩)⟩
    obtain ⟨o1, o2, o3, o4, o5⟩ := okK_ok hk
    have n1 : tK b n i ≠ 1 := fun z => o2 (by rw [z]; exact soK_1)
    have hs := hS.lt hR.2.1.2.2 h0 n1
    obtain ⟨b58, b69⟩ := bg58 (m := m) (σ := σ) (k := tK b n i) (pl := tP b n i) (q := sqK K) (d := K.length) (wh := whK (tK b n i) (tC b n i) τ)
    obtain ⟨n1', n2', n3', -⟩ := bg_n (m := m) (σ := σ) (k := tK b n i) (pl := tP b n i) (q := sqK K) (d := K.length) (wh := whK (tK b n i) (tC b n i) τ)
    have hN0 := hN.pv (Pv.bg (k := tK b n i) (pl := tP b n i) (q := sqK K) (d := K.length) (wh := whK (tK b n i) (tC b n i) τ) (Nat.le_refl _))
    generalize bgP m (tK b n i) (tP b n i) (sqK K) K.length (whK (tK b n i) (tC b n i) τ) σ = σ0 at R2 b58 b69 n1' n2' n3' hN0 HL HO
    cases hop : opnK (tK b n i) with
    | false =>
      have hE := HL hk k1 hop
      rw [hop] at R2
      have R2 : RPs b n s m τ K σ0 M2 (i + 1) K.length := R2
      have lok := lfM_ok (F := True) (m := m) (τ := τ) (k := tK b n i) (w := tC b n i) (j := npS σ) (K := K) (σ := σ0) hS (i := i + 1) hs k1
      refine P_headL (h := h + 4) (w := tC b n i) R2 rfl hB hz hS k1 o3 hM hN0 (by rw [n1']; omega) hK o2 hop b58 ?_
      cases e : lfM b n m τ (tK b n i) (tC b n i) (npS σ) (i + 1) K σ0 with
      | error y => rw [e] at hE; exact fun M5 T5 G5 _ => ⟨rfl, X_72 T5 (hE M5 T5 (G2.tr G5))⟩
      | ok r =>
        rw [e] at hE lok
        have hd := lok.2.2.2.1
        exact fun M5 R5 G5 _ => ⟨rfl, R_leaf (k := tK b n i) R5 o3 o2 hop (by rw [hd.2.1 58 _ (Or.inl (by decide))]; exact b58) (fun M' R' G' => hE M' R' ((G2.tr G5).tr G'))⟩
    | true =>
      have hE := HO hk k1 hop
      rw [hop] at R2
      have R2 : RPs b n s m τ K σ0 M2 (i + 1) (K.length + 1) := R2
      have hl14 : K.length ≤ 14 := by
        have : K.length ≠ 15 := fun z => o5 ⟨hop, z⟩
        omega
      have hok := hdM_ok (F := True) (m := m) (τ := τ) (k := tK b n i) (j := npS σ) (K := K) (σ := σ0) hS (i := i + 1) hs k1
      refine P_headO (h := h + 4) (k := tK b n i) R2 rfl hB hz hS k1 o3 hN0 (by rw [n1']; omega) hK o2 hop b58 ?_
      cases e : hdM b n m τ (tK b n i) (npS σ) (i + 1) K σ0 with
      | error y => rw [e] at hE; exact fun M5 T5 G5 _ => ⟨rfl, X_72 T5 (hE M5 T5 (G2.tr G5))⟩
      | ok r =>
        rw [e] at hE hok
        have hd := hok.2.2.2.1
        exact fun M5 R5 G5 _ => ⟨rfl, R_open (k := tK b n i) (nm := r.2.2.2.2.2) R5 rfl o3 hl14 o2 hop (by rw [hd.2.1 58 _ (Or.inl (by decide))]; exact b58) (by rw [hd.2.1 69 _ (Or.inr (Or.inl (by decide)))]; exact b69) (by rw [hd.1, n2']; omega) (fun M' R' G' => hE M' R' ((G2.tr G5).tr G'))⟩
  unfold SLp
  refine VX11_readParts_22 ?_
  unfold DX11_readParts_22
  refine ⟨fun z => absurd z (by decide), fun _ => ⟨ok29 F, fun z => absurd hR.2.2.2.1 z, fun _ => ⟨fun nz => ?_, fun yz => ?_⟩⟩⟩
  · cases K with
    | nil => exact absurd i60 nz
    | cons e K' =>
      have hl : K'.length ≤ 14 := by have : (e :: K').length = K'.length + 1 := rfl; omega
      obtain ⟨t1, -, -⟩ := go_top (j := 0) hR (by omega)
      have t77 : mAI M 77 K'.length = Int32.ofNat e.2.1 := by
        have z := (hR.2.2.2.2.2.1.2.2.2.2.2.2.2.1 : St M 77 60 0 (e.2.1 :: K'.map (fun e => e.2.1))).top
        rw [List.length_map, Nat.zero_add] at z
        exact z
      refine ⟨77, rf29_58 F, ok77 F, by rw [ln77 F, t1]; exact vp_of (by omega) (by decide), ?_⟩
      rw [t1, lt32 (n := K'.length) (by omega), t77]
      exact go
  · cases K with
    | nil => exact go
    | cons e K' =>
      rw [i60] at yz
      exact absurd ((z32 (a := (e :: K').length) (k := 0) (by omega) (by decide)).mp yz) (by simp)
end
