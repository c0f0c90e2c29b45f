/-! the weaver begins; it walks; it comes to its finish -/
/-- the module as it is given to the weaver -/
def WvZ (n0 l0 r0 : Nat) (Θ : TrT) (N : Nt) (M : Mem) : Prop := WvB n0 l0 r0 M ∧ Fix M ∧ TrP M Θ ∧ CirP M (n0 + 8) l0 r0 N ∧ (ALi M (n0 + 13) (mBig + 5) [] ∧ ALi M (n0 + 14) (mBig + 5) []) ∧ (mR M n0 7 = some (n0 + 8) ∧ ok M n0 3) ∧ mI M (n0 + 8) 15 = 2 ∧ mI M (n0 + 8) 12 = 0 ∧ ∀ k, mAI M (n0 + 21) k = 0
section
variable {n0 l0 r0 nb : Nat} {Θ : TrT} {G : Nat → List Nat} {N : Nt} {Ro : List (Nat × Nat)} {M : Mem} {h x : Nat} {Q : Option Value → Mem → Prop}
theorem W_beg (hZ : WvZ n0 l0 r0 Θ N M) (hR : RoW (N, Ro, [])) (hx : x < 640) (K : ∀ M', WvP n0 l0 r0 N.length Θ M (N, Ro, []) M' → RwP n0 (up4 (mAI M) x 2 3 0 0) 0 M' → mE M M' → Q none M') : E (h + 2) mdX9_begin [.ref 21, .ref (n0 + 8), .int (Int32.ofNat x)] M Q := by
  obtain ⟨hB, F, hT, hC, ⟨hA1, hA2⟩, -, f15, f12, hem⟩ := hZ
  obtain ⟨⟨n1, n2⟩, n3, -, -, -, ⟨n5, n6⟩, -⟩ := id hB
  obtain ⟨⟨p1, p2, p3, p4, p5⟩, ⟨s1, s2, s3, s4, s5⟩⟩ := LcW.far (M0 := M) (Or.inl rfl) (Or.inl rfl) n3 n1 n2
  have lx : (Int32.ofNat x).toNatClampNeg = x := lt32 (by omega)
  have vx : ∀ {k : Nat}, k = 640 → vp_in (Int32.ofNat x) k := fun e => by rw [e]; exact vp_of hx (by decide)
  refine KX9_begin ?_
  unfold DX9_begin_0
  refine ⟨ok21 F, fun M2 e2 => ?_⟩
  have F2 : Fix M2 := by rw [e2]; exact F.r (by decide +kernel)
  have fr2 : fr (fun c => c = 21) M M2 := by rw [e2]; exact fr_wR rfl
  have row2 : ∀ c, c < mN M → c ≠ 21 → sameRow M M2 c := fun c z y => fr2.2 c z y
  have W2 : WvP n0 l0 r0 N.length Θ M (N, Ro, []) M2 := by
    have al : ∀ {a : Nat}, a = n0 + 13 ∨ a = n0 + 14 → ALi M a (mBig + 5) [] → ALi M2 a (mBig + 5) [] := by
      intro a ha hA
      refine hA.fr fr2 (fun z => by omega) (fun hb z => ?_) (fun d _ z w => ?_)
      · rw [z, (ok21 F).2] at hb; exact absurd hb (by decide)
      · rw [z, (ok21 F).2] at w; exact absurd w (by decide)
    refine ⟨l0, r0, mBig + 5, mBig + 5, [], ⟨F2, by rw [e2]; exact hT, by rw [e2, mR_wR, if_pos ⟨rfl, rfl⟩]⟩, hC.fr fr2.1 (row2 _ hC.1.1 (by omega)) (row2 _ n5.1 (by omega)) (row2 _ n6.1 (by omega)), ⟨Or.inl rfl, Or.inl rfl⟩, ⟨al (Or.inl rfl) hA1, al (Or.inr rfl) hA2, rfl⟩, ⟨Or.inl rfl, Or.inl rfl, fun _ => rfl⟩, ⟨fr2.more (fun c _ z => Or.inl (by omega)), fun f _ _ _ => by rw [e2]; rfl, fun f _ _ => ?_⟩, hR, ⟨fun i hi => absurd hi (Nat.not_lt_zero _), fun n i hn ri => absurd (hR.2.2 n i hn ri) (Nat.not_lt_zero _)⟩, ?_⟩
    · rw [e2, mR_wR, if_neg (by omega)]
    · unfold RmW
      rw [e2]
      have zz : ∀ X : Mem, Lb X (mBig + 5) = 0 := fun X => by unfold Lb; rw [if_neg (by omega)]
      rw [zz]
      refine ⟨⟨Nat.le_refl _, Nat.le_add_right _ _⟩, ⟨?_, Nat.zero_le _, Nat.zero_le _⟩, Nat.zero_le _⟩
      show mS M + 4 * mL M l0 ≤ mS M + 4 * mL M l0 + 4 * 0 + 4 * 0 + 2 * 0
      omega
  have P2 : RwP n0 (mAI M) 0 M2 := ⟨fun c j _ => by rw [e2]; rfl, by rw [e2]; exact f12⟩
  obtain ⟨-, -, h82, o82, -⟩ := W2.sees hB
  have g15 : mI M2 (n0 + 8) 15 = 2 := by rw [e2]; exact f15
  rw [lx]
  refine ⟨22, rf21_1 F2, n0 + 8, h82, o82, ok22 F2, vx (ln22 F2), fun M7 e7 => ?_⟩
  rw [g15] at e7
  have W7 := W2.wr hB (Or.inl (by omega)) e7
  have P7 := P2.up e7
  obtain ⟨F7, -, h87, o87, -⟩ := W7.sees hB
  have g7 : mI M7 (n0 + 8) 15 = Int32.ofNat 2 := by rw [e7]; exact g15
  refine ⟨23, rf21_2 F7, n0 + 8, h87, o87, ?_⟩
  rw [g7]
  refine S_not (h := h) (a := 2) (by decide) (fun _ => ⟨_, rfl, ok23 F7, vx (ln23 F7), fun M14 e14 => ?_⟩)
  have W14 := W7.wr hB (Or.inl (by omega)) e14
  have P14 := P7.up e14
  obtain ⟨F14, -⟩ := W14.sees hB
  refine ⟨24, rf21_3 F14, ok24 F14, vx (ln24 F14), fun M17 e17 => ?_⟩
  have W17 := W14.wr hB (Or.inl (by omega)) e17
  have P17 := P14.up e17
  obtain ⟨F17, -⟩ := W17.sees hB
  refine ⟨25, rf21_4 F17, ok25 F17, vx (ln25 F17), fun M20 e20 => ?_⟩
  have W20 := W17.wr hB (Or.inl (by omega)) e20
  have P20 := P17.up e20
  refine K M20 W20 (P20.cg (fun c j _ => ?_)) (by rw [e20, e17, e14, e7]; exact fr2.1.tr (((mE_wAI.tr mE_wAI).tr mE_wAI).tr mE_wAI))
  unfold up4 up2
  by_cases hj : j = x
  · by_cases h1 : c = 22
    · subst h1; simp [hj]
    · by_cases h2 : c = 23
      · subst h2; simp [hj]; rfl
      · by_cases h3 : c = 24
        · subst h3; simp [hj]
        · by_cases h4 : c = 25
          · subst h4; simp [hj]
          · simp [h1, h2, h3, h4]
  · simp [hj]
theorem W_wv {g : Nat} (hZ : WvZ n0 l0 r0 Θ N M) (hR : RoW (N, Ro, [])) (hN : 2 ≤ N.length ∧ N.length < 40000) (hf : ∀ z y y', z ∈ G y → z ∈ G y' → y = y') (hft : FtN G g x) (hnd : (noL G g x).Nodup) (hsh : ∀ z, z ∈ noL G g x → ShN Θ G nb z) (hlen : (noL G g x).length ≤ 400) (hnb : nb ≤ N.length) (e16 : mI M n0 16 = Int32.ofNat x) (p9 : Θ.2.2 9 x = 0) (p8 : Θ.2.2 8 x = 0) (k5 : Θ.2.2 5 x ≠ 8) (k0 : Θ.2.2 5 0 = 0) (K : ∀ M' Ψ' P' zp', WvP n0 l0 r0 N.length Θ M Ψ' M' → RwP n0 P' zp' M' → WkQ Θ G n0 g x (N, Ro, []) (up4 (mAI M) x 2 3 0 0) 0 Ψ' P' zp' → DX9_weave_137 (h + 9) 21 n0 M' Q) : E (h + 10) mdX9_weave [.ref 21, .ref n0] M Q := by
  have hs := hsh x (noL_hd hft)
  obtain ⟨⟨x1, x2, x3⟩, -⟩ := id hs
  obtain ⟨hB, F, hT, hC, -, ⟨f7, o3⟩, -, -, hem⟩ := id hZ
  have hn0 := hB.1.1
  refine KX9_weave (h := h + 9) ?_
  unfold DX9_weave_0
  refine ⟨o3, n0 + 8, f7, ok21 F, ?_⟩
  rw [e16]
  refine W_beg (h := h + 7) hZ hR x3 (fun M4 W4 P4 _ _ => ⟨rfl, ?_⟩)
  have okz : ∀ n, n < 4 → okI (N, Ro, []) (Int32.ofNat n) := fun n hn => ⟨n, rfl, by show n < 2 * N.length; omega⟩
  refine W_walk (h := h) (Q := Q) hB hf g x M4 (N, Ro, []) _ 0 0 hft hnd hsh W4 P4 hnb (fun c z1 z2 => ?_) (fun s hs => ?_) (by show N.length + _ < _; omega) (by omega) (fun M' Ψ' P' zp' W' R' q => ?_)
  · have : c = 22 ∨ c = 23 ∨ c = 24 ∨ c = 25 := by omega
    have q4 : up4 (mAI M) x 2 3 0 0 22 x = 2 ∧ up4 (mAI M) x 2 3 0 0 23 x = 3 ∧ up4 (mAI M) x 2 3 0 0 24 x = 0 ∧ up4 (mAI M) x 2 3 0 0 25 x = 0 := by unfold up4; simp
    rcases this with e | e | e | e
    · rw [e, q4.1]; exact okz 2 (by decide)
    · rw [e, q4.2.1]; exact okz 3 (by decide)
    · rw [e, q4.2.2.1]; exact okz 0 (by decide)
    · rw [e, q4.2.2.2]; exact okz 0 (by decide)
  · have e : up4 (mAI M) x 2 3 0 0 (n0 + 21) s = 0 := by
      unfold up4
      by_cases hj : s = x
      · rw [if_pos hj, if_neg (by omega), if_neg (by omega), if_neg (by omega), if_neg (by omega)]; exact hem s
      · rw [if_neg hj]; exact hem s
    rw [e]; exact okz 0 (by decide)
  obtain ⟨F', hT', -, -, hR', -⟩ := W'.sees hB
  have k := K M' Ψ' P' zp' W' R' q
  obtain ⟨st, est⟩ : ∃ st, st = 0 + 2 * (noL G g x).length - 1 := ⟨_, rfl⟩
  rw [← est]
  have lx : (Int32.ofNat x).toNatClampNeg = x := lt32 (by omega)
  have n1280 : ¬ (1280 : Int32) ≤ Int32.ofNat st := fun z => by
    have := (le32 (a := 1280) (by decide) (by omega)).mp z
    omega
  have nz : ¬ Int32.ofNat x = 0 := fun z => by
    have := inj32 (a := x) (b := 0) (by omega) (by decide) z
    omega
  have g5 : mAI M' 5 x = Θ.2.2 5 x := by rw [hT'.2.2.2.1 5 (by decide) (by decide)]
  have g8 : mAI M' 8 x = 0 := by rw [hT'.2.2.2.1 8 (by decide) (by decide)]; exact p8
  have g9 : mAI M' 9 x = 0 := by rw [hT'.2.2.2.1 9 (by decide) (by decide)]; exact p9
  unfold T19
  refine VX9_weave_19 (h := h + 9) ?_
  unfold DX9_weave_19
  rw [lx]
  refine ⟨fun z => absurd z n1280, fun _ => ⟨fun z => absurd z nz, fun _ => ⟨fun _ => ⟨ok21 F', 4, rf21_0 F', ok4 F', 5, rf4_0 F', ok5 F', by rw [ln5 F']; exact vp_of x3 (by decide), ?_⟩, fun z => absurd rfl z⟩⟩⟩
  rw [g5]
  refine ⟨fun _ => ?_, fun z => absurd z k5⟩
  unfold DX9_weave_73
  refine ⟨ok21 F', W_lv0 (h := h) (a := 0) hB W' x3 (by decide) p9 (by rw [k0]; decide) (fun _ => ⟨rfl, 4, rf21_0 F', ok4 F', 8, rf4_3 F', ok8 F', by rw [ln8 F']; exact vp_of x3 (by decide), ?_⟩)⟩
  rw [lx, g8]
  refine ⟨fun z => absurd rfl z, fun _ => ⟨4, rf21_0 F', ok4 F', 9, rf4_4 F', ok9 F', by rw [ln9 F']; exact vp_of x3 (by decide), ?_⟩⟩
  rw [g9]
  unfold DX9_weave_107 DX9_weave_108 DX9_weave_118 DX9_weave_131
  refine ⟨fun _ => ⟨fun _ => ?_, fun z => absurd rfl z⟩, fun z => absurd rfl z⟩
  refine VX9_weave_19 (h := h + 9) ?_
  unfold DX9_weave_19
  exact ⟨fun _ => k, fun _ => ⟨fun _ => k, fun z => absurd rfl z⟩⟩
end
