/-! the reference: sums and conditions of parts -/
def EndQ {α : Type} (b : Nat → Int32) (n s m : Nat) (τ : Td) (K : List KE) (o : Nat) (M : Mem) (f : α → PS) (Q : Mem → Prop) (R : Except (Int32 × Nat) (Nat × α)) : Prop := match R with
  | .ok r => ∀ M', RPs b n s m τ K (f r.2) M' r.1 o → RGp m M M' → Q M'
  | .error e => ∀ M', TXr M' e.1 e.2 → RGp m M M' → Q M'
section
variable {b : Nat → Int32} {n s m : Nat} {τ : Td} {K : List KE} {σ : PS} {M M' : Mem} {i o h : Nat} {Q : Option Value → Mem → Prop}
theorem TXr.rg {f : Int32} {p : Nat} (hT : TXr M f p) (k : RGp m M M') (h6 : mI M' 29 6 = mI M 29 6) (h7 : mI M' 29 7 = mI M 29 7) : TXr M' f p := ⟨k.fix hT.1 (by decide), by rw [h6]; exact hT.2.1, hT.2.2.1, by rw [h7]; exact hT.2.2.2⟩
theorem TXr.ra {f : Int32} {p c k : Nat} {v : Int32} (hT : TXr M f p) : TXr (wAI M c k v) f p := ⟨hT.1.ai, hT.2.1, hT.2.2.1, hT.2.2.2⟩
theorem RGp.m1 {M1 : Mem} (k : RG m [5, 6, 7, 29, 31, 32, 33] [48, 49, 51, 52, 53] [50] M M1) : RGp m M M1 := k.more (by decide) (by decide) (by decide)
theorem RGp.m2 {M1 : Mem} (k : RG m [5, 6, 7, 29, 31, 32, 33] [40, 44, 45, 46, 47, 52, 53] [] M M1) : RGp m M M1 := k.more (by decide) (by decide) (by decide)
theorem RPd.x {C : ClT} {X : List Nd} (hd : RPd m τ K σ M) (k : RG m [5, 6, 7, 29, 31, 32, 33] [48, 49, 51, 52, 53] [50] M M') (hX : XR M' m X) : RPd m τ K (σ.1, C, X, σ.2.2.2) M' := by
  obtain ⟨d1, d2, d3, d4, d5, d6, d7, d8, d9⟩ := hd
  have nA : ∀ {a : Nat}, a ∉ [48, 49, 51, 52, 53] → mAI M' a = mAI M a := fun q => k.fA q
  refine ⟨hX, d2.fr (nA (by decide)) (nA (by decide)) (nA (by decide)) (nA (by decide)) (nA (by decide)), fun c q1 q2 q3 => ?_, by rw [k.fJ (c := 72) (by decide)]; exact d4, ⟨by rw [nA (a := 54) (by decide)]; exact d5.1, by rw [nA (a := 55) (by decide)]; exact d5.2.1, by rw [nA (a := 56) (by decide)]; exact d5.2.2.1, by rw [nA (a := 57) (by decide)]; exact d5.2.2.2⟩, by rw [k.fI (f := 53) (by decide)]; exact d6, d7.fr (k.fI (by decide)) (nA (by decide)), d8.fr (k.fI (by decide)) (nA (by decide)), d9.fr (k.fI (by decide)) (nA (by decide))⟩
  rw [nA (a := c) (fun z => by simp only [List.mem_cons, List.not_mem_nil, or_false] at z; omega)]
  exact d3 c q1 q2 q3
theorem RPd.y {C : ClT} {Y : List Cd} (hd : RPd m τ K σ M) (k : RG m [5, 6, 7, 29, 31, 32, 33] [40, 44, 45, 46, 47, 52, 53] [] M M') (hY : YR τ.1.length M' m Y) : RPd m τ K (σ.1, C, σ.2.2.1, Y) M' := by
  obtain ⟨d1, d2, d3, d4, d5, d6, d7, d8, d9⟩ := hd
  have nA : ∀ {a : Nat}, a ∉ [40, 44, 45, 46, 47, 52, 53] → mAI M' a = mAI M a := fun q => k.fA q
  have nJ : ∀ {a : Nat}, mAJ M' a = mAJ M a := fun {a} => k.fJ (by simp)
  refine ⟨d1.fr (nA (by decide)) (nA (by decide)) nJ (nA (by decide)), hY, fun c q1 q2 q3 => ?_, by rw [nJ]; exact d4, ⟨by rw [nA (a := 54) (by decide)]; exact d5.1, by rw [nA (a := 55) (by decide)]; exact d5.2.1, by rw [nA (a := 56) (by decide)]; exact d5.2.2.1, by rw [nA (a := 57) (by decide)]; exact d5.2.2.2⟩, by rw [k.fI (f := 53) (by decide)]; exact d6, d7.fr (k.fI (by decide)) (nA (by decide)), d8.fr (k.fI (by decide)) (nA (by decide)), d9.fr (k.fI (by decide)) (nA (by decide))⟩
  rw [nA (a := c) (fun z => by simp only [List.mem_cons, List.not_mem_nil, or_false] at z; omega)]
  exact d3 c q1 q2 q3
theorem RPs.br (hR : RPs b n s m τ K σ M i o) : BR b n s m τ.1 τ.2.1 τ.2.2.1 τ.2.2.2.1 M i o σ.2.2.1 := ⟨hR.1, hR.2.1, hR.2.2.1, hR.2.2.2.1, hR.2.2.2.2.1, hR.2.2.2.2.2.1.1, hR.2.2.2.2.2.2.1, hR.2.2.2.2.2.2.2.2⟩
theorem RPs.bc (hR : RPs b n s m τ K σ M i o) : BC b n s m τ.1 τ.2.1 τ.2.2.1 τ.2.2.2.1 M i o σ.2.2.2 := ⟨hR.1, hR.2.1, hR.2.2.1, hR.2.2.2.1, hR.2.2.2.2.1, hR.2.2.2.2.2.1.2.1, hR.2.2.2.2.2.2.2.1, hR.2.2.2.2.2.2.2.2⟩
theorem bt_up (hz : ∀ i, n ≤ i → b i = 0) (hS : Sto b n s) : ∀ (d j : Nat), j + d ≤ s → tK b n (j + d) ≠ 0 → bt b n j ≤ bt b n (j + d) := by
  intro d
  induction d with
  | zero => intro j _ _; exact Nat.le_refl _
  | succ d ih =>
    intro j hj h0
    have q := hS.2.2.2 (j + d) (by omega)
    exact Nat.le_trans (ih j (by omega) q.1) (bt_mono hz q.2)
theorem ix40 {j : Nat} (h4 : m < 4) (hj : j < 40) {M : Mem} {c : Nat} (hL : mL M c = 160) : vp_in (Int32.ofNat (40 * m + j)) (mL M c) := by rw [hL]; exact vp_of (by omega) (by decide)
theorem lt40 {j : Nat} (h4 : m < 4) (hj : j < 40) : (Int32.ofNat (40 * m + j)).toNatClampNeg = 40 * m + j := lt32 (by omega)
theorem off32 {a c x : Nat} {v : Int32} (hv : v = Int32.ofNat x) : Int32.ofNat a * Int32.ofNat c + v = Int32.ofNat (a * c + x) := by rw [hv, mul32, add32]
theorem P_sum {j : Nat} {sec : Bool} (hR : RPs b n s m τ K σ M i o) (hB : By b) (hz : ∀ i, n ≤ i → b i = 0) (hS : Sto b n s) (h0 : tK b n i ≠ 0) (hj : j < 40) {fo : Nat} (hE : EndQ b n s m τ K o M (fun x => x) (fun M' => Q none M') (suM b n m τ j (if sec = true then 66 else 64) (if sec = true then 67 else 65) fo i o σ)) : E (h + 6) mdX11_sumOf [.ref 29, .int (Int32.ofNat (40 * m + j)), .int (if sec = true then 1 else 0)] M Q := by
  obtain ⟨c1, c2, c3, c4, c5, c6, c7⟩ := id hR
  have F := c1.1
  have m19 := c1.2.2.1
  have h4 := c1.2.2.2.1
  have hn := hS.1
  have hn2 := hS.2.1
  have hok := rd_ok (sN := τ.1) (mx := τ.2.2.1) (vN := τ.2.2.2.1) hS 6000 3 i o σ.2.2.1 (usS σ) (by decide) c2.2.2 h0
  have l40 := lt40 h4 hj
  refine KX11_sumOf ?_
  unfold DX11_sumOf_0 DX11_sumOf_69
  rw [m19, lt32 (n := m) (by omega), l40]
  refine ⟨ok29 F, fun z => absurd c4 z, fun _ => ⟨48, rf29_24 F, ok48 F, by rw [ln48 F]; exact vp_of (by omega) (by decide), B_readSum (h := h) (g := 6000) (u := usS σ) hB hS hR.br h0 (by omega) ?_⟩⟩
  unfold suM at hE
  have eX : (810 : Int32) * Int32.ofNat m + mAI M 48 m = Int32.ofNat (810 * m + σ.2.2.1.length) := off32 (a := 810) c6.1.1
  rw [eX]
  cases e : rd b n τ.1 τ.2.2.1 τ.2.2.2.1 6000 3 i o σ.2.2.1 (usS σ) with
  | error x =>
    rw [e] at hE
    intro M4 T4 R4 _
    have G4 := RGp.m1 R4.g
    have F4 := T4.1
    refine ⟨_, rfl, fun q => ⟨64, rf29_44 F4, ok64 F4, ix40 h4 hj (ln64 F4), fun M8 e8 => ?_⟩, fun q => ⟨66, rf29_46 F4, ok66 F4, ix40 h4 hj (ln66 F4), fun M8 e8 => ?_⟩⟩
    · have F8 : Fix M8 := by rw [e8]; exact F4.ai
      refine ⟨65, rf29_45 F8, ok65 F8, ix40 h4 hj (ln65 F8), fun M9 e9 => ?_⟩
      refine hE M9 (by rw [e9, e8]; exact T4.ra.ra) ?_
      rw [e9, e8]
      exact (G4.tr (RGp.ra (by decide) (by decide) (by decide) (by rw [sz_p (by decide) (by decide)]; omega))).tr (RGp.ra (by decide) (by decide) (by decide) (by rw [sz_p (by decide) (by decide)]; omega))
    · have F8 : Fix M8 := by rw [e8]; exact F4.ai
      refine ⟨67, rf29_47 F8, ok67 F8, ix40 h4 hj (ln67 F8), fun M9 e9 => ?_⟩
      refine hE M9 (by rw [e9, e8]; exact T4.ra.ra) ?_
      rw [e9, e8]
      exact (G4.tr (RGp.ra (by decide) (by decide) (by decide) (by rw [sz_p (by decide) (by decide)]; omega))).tr (RGp.ra (by decide) (by decide) (by decide) (by rw [sz_p (by decide) (by decide)]; omega))
  | ok r =>
    rw [e] at hE hok
    obtain ⟨k1, k2, k3, -, -⟩ := hok
    intro M4 B4 R4 _
    obtain ⟨x1, x2, x3, x4, x5, x6, x7⟩ := B4
    have G4 := RGp.m1 R4.g
    have F4 := x1.1
    have hbt : bt b n i ≤ bt b n r.1 := by
      have := bt_up hz hS (r.1 - i) i (by omega) (by rw [show i + (r.1 - i) = r.1 by omega]; exact k3)
      rw [show i + (r.1 - i) = r.1 by omega] at this
      exact this
    have R0 : ∀ C : ClT, RPs b n s m τ K (σ.1, C, r.2.1, σ.2.2.2) M4 r.1 o := fun C => ⟨x1, x2, x3, x4, x5, c6.x R4.g x6, x7.1, by show 2 * σ.2.2.2.length ≤ _; omega, x7.2⟩
    cases sec with
    | false =>
      refine ⟨_, rfl, fun q => ⟨64, rf29_44 F4, ok64 F4, ix40 h4 hj (ln64 F4), fun M8 e8 => ?_⟩, fun q => absurd rfl q⟩
      have F8 : Fix M8 := by rw [e8]; exact F4.ai
      refine ⟨65, rf29_45 F8, ok65 F8, ix40 h4 hj (ln65 F8), fun M9 e9 => ?_⟩
      have s1 := (R0 (up2 σ.2.1.1 j fo (Int32.ofNat σ.2.1.2.2.2.2.2.1.length), σ.2.1.2.1, σ.2.1.2.2.1, σ.2.1.2.2.2.1, σ.2.1.2.2.2.2.1, σ.2.1.2.2.2.2.2.1 ++ cdL (r.2.1.drop σ.2.2.1.length) ++ [0], giS σ, r.2.2)).ra (c := 64) (k := 40 * m + j) (v := Int32.ofNat (810 * m + σ.2.2.1.length)) (by decide) (by decide) (by decide) (by rw [sz_p (by decide) (by decide)]; omega)
      have s2 := s1.ra (c := 65) (k := 40 * m + j) (v := Int32.ofNat (810 * m + (r.2.1.length - 1))) (by decide) (by decide) (by decide) (by rw [sz_p (by decide) (by decide)]; omega)
      refine hE M9 (by rw [e9, e8]; exact s2) ?_
      rw [e9, e8]
      exact (G4.tr (RGp.ra (by decide) (by decide) (by decide) (by rw [sz_p (by decide) (by decide)]; omega))).tr (RGp.ra (by decide) (by decide) (by decide) (by rw [sz_p (by decide) (by decide)]; omega))
    | true =>
      refine ⟨_, rfl, fun q => absurd q (by decide), fun q => ⟨66, rf29_46 F4, ok66 F4, ix40 h4 hj (ln66 F4), fun M8 e8 => ?_⟩⟩
      have F8 : Fix M8 := by rw [e8]; exact F4.ai
      refine ⟨67, rf29_47 F8, ok67 F8, ix40 h4 hj (ln67 F8), fun M9 e9 => ?_⟩
      have s1 := (R0 (up2 σ.2.1.1 j fo (Int32.ofNat σ.2.1.2.2.2.2.2.1.length), σ.2.1.2.1, σ.2.1.2.2.1, σ.2.1.2.2.2.1, σ.2.1.2.2.2.2.1, σ.2.1.2.2.2.2.2.1 ++ cdL (r.2.1.drop σ.2.2.1.length) ++ [0], giS σ, r.2.2)).ra (c := 66) (k := 40 * m + j) (v := Int32.ofNat (810 * m + σ.2.2.1.length)) (by decide) (by decide) (by decide) (by rw [sz_p (by decide) (by decide)]; omega)
      have s2 := s1.ra (c := 67) (k := 40 * m + j) (v := Int32.ofNat (810 * m + (r.2.1.length - 1))) (by decide) (by decide) (by decide) (by rw [sz_p (by decide) (by decide)]; omega)
      refine hE M9 (by rw [e9, e8]; exact s2) ?_
      rw [e9, e8]
      exact (G4.tr (RGp.ra (by decide) (by decide) (by decide) (by rw [sz_p (by decide) (by decide)]; omega))).tr (RGp.ra (by decide) (by decide) (by decide) (by rw [sz_p (by decide) (by decide)]; omega))
end
