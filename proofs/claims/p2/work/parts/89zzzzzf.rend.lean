/-! a text read to its end: what is known of it; the reference's compile to its end -/
def roI (L : Nat) : List (Nat × Nat) := (1, 0) :: (2, 0) :: (List.range L).map (fun s => (3, s))
theorem NT_gd {L k : Nat} (h : k < L + 2) : (NT L).getD k (0, 0) = (2 * k, 2 * k) := by
  unfold NT
  rw [List.getD_eq_getElem?_getD, List.getElem?_map, List.getElem?_range h]
  rfl
theorem roI_len {L : Nat} : (roI L).length = L + 2 := by unfold roI; simp
theorem roI_gd {L s : Nat} (h : s < L) : (roI L).getD (s + 2) (0, 0) = (3, s) := by
  show ((List.range L).map (fun s => (3, s))).getD s (0, 0) = (3, s)
  rw [List.getD_eq_getElem?_getD, List.getElem?_map, List.getElem?_range h]
  rfl
theorem roI_n0 {L k : Nat} (h : k < L + 2) : ((roI L).getD k (0, 0)).1 ≠ 0 := by
  match k, h with
  | 0, _ => exact (by decide : (1 : Nat) ≠ 0)
  | 1, _ => exact (by decide : (2 : Nat) ≠ 0)
  | s + 2, h => rw [roI_gd (by omega)]; exact (by decide : (3 : Nat) ≠ 0)
section
variable {b : Nat → Int32} {n s m i : Nat} {τ : Td} {A : Nat → Nat → Int32} {B : Nat → Int64} {Zt : Nat → Nat → Int32} {σ : PS} {γ : Gh} {M : Mem} {h root g0 : Nat} {Q : Option Value → Mem → Prop}
theorem gi_0 : giT τ (σI A B (cl0 Zt τ)) (fun _ => [], [], roI τ.1.length) := by
  refine ⟨⟨⟨Nat.le_refl 1, (by decide : 1 ≤ 640)⟩, fun x h1 h2 => ?_, fun c h1 h2 => ?_⟩, ?_, fun f hf => absurd hf (Nat.not_lt_zero _)⟩
  · have h2 : x < 1 := h2
    omega
  · have h2 : c < 1 := h2
    omega
  · refine ⟨⟨⟨roI_len.trans NT_len.symm, fun n hn => ?_⟩, ?_, fun s hs => ?_, fun s z => absurd rfl z⟩, rfl, fun k hk => absurd hk (Nat.not_lt_zero _), fun v sv bv _ _ _ k hk => absurd hk (Nat.not_lt_zero _)⟩
    · have hn : n < (NT τ.1.length).length := hn
      rw [NT_len] at hn
      exact ⟨fun z => absurd z (roI_n0 hn), fun _ => NT_gd hn⟩
    · show 1 ≤ (NT τ.1.length).length
      rw [NT_len]; omega
    · unfold rlC sgT
      rw [if_pos hs]
      refine ⟨by omega, ?_, ?_⟩
      · show (4 + 2 * s) / 2 < (roI τ.1.length).length
        rw [roI_len]; omega
      · rw [show (4 + 2 * s) / 2 = s + 2 by omega]
        exact roI_gd hs
/-- what is known of a text that was read to its end -/
def RdE (τ : Td) (m : Nat) (σ : PS) (root : Nat) (γ : Gh) (g : Nat) : Prop := giT τ σ γ ∧ (ifS σ).length = σ.1.1 2 ∧ TTs τ m σ γ 1 g 0 [] 0 0 0 0 0 false 0 (npS σ) 1 (σ.1.1 4) 0 (trS σ).2.1 [(0, root)] ∧ ((trS σ).1 ≤ 400 ∧ (trS σ).2.1 ≤ 24 ∧ npS σ ≤ 40 ∧ σ.1.1 4 ≤ npS σ) ∧ (1 ≤ root ∧ root < (trS σ).1) ∧ ∀ k, k < npS σ → SuI σ.1.2.1 σ.2.2.1 m 64 65 k ∧ SuI σ.1.2.1 σ.2.2.1 m 66 67 k
theorem rd_all {r : Nat × PS × Nat} (hB : By b) (hS : Sto b n s) (h4 : m < 4) (hv : HvT τ) (hi : i ≤ s) (hk : tK b n i ≠ 0) (e : rdQ b n m τ i (σI A B (cl0 Zt τ)) = .ok r) (hX : r.2.1.2.2.1.length < 900) : ∃ γ g, RdE τ m r.2.1 r.2.2 γ g := by
  unfold rdQ at e
  obtain ⟨q, e1, e2⟩ := bind_ok e
  have er : q = r := by
    by_cases z : tK b n q.1 = 1
    · rw [if_pos z] at e2; cases e2; rfl
    · rw [if_neg z] at e2; cases e2
  subst er
  have ok0 := rp_ok (τ := τ) (m := m) hS 6000 0 [] i (σI A B (cl0 Zt τ)) 0 0 0 0 0 0 (by decide) hi hk σI_ok
  rw [e1] at ok0
  obtain ⟨-, -, -, ⟨-, pk, rw4, -⟩, -⟩ := ok0
  have cn := rp_cnt 6000 0 [] i (σI A B (cl0 Zt τ)) 0 0 0 0 0 0 q (by decide) e1 0 (by rw [if_pos (Or.inl rfl)]; exact (by decide : 1 + (0 + 1) ≤ 2 * 0 + 11 * 0 + 1 + 4))
  have pu := rp_pau 6000 0 [] i (σI A B (cl0 Zt τ)) 0 0 0 0 0 0 q (by decide) e1 0 (Nat.le_refl 0)
  have n6 : (trS q.2.1).1 ≤ 400 := by
    unfold alR at cn
    have a1 := pk.1
    have a2 := pk.2.1
    have a3 : q.2.1.1.1 4 ≤ npS q.2.1 := rw4
    omega
  have p24 : (trS q.2.1).2.1 ≤ 24 := by
    have a2 := pk.2.1
    have pu : (trS q.2.1).2.1 + 0 ≤ q.2.1.1.1 1 := pu
    have a2 : q.2.1.1.1 1 ≤ 24 := a2
    omega
  obtain ⟨γ', g, g1, g2, g3, g4, g5, g6⟩ := rp_tree hB hS h4 hv 6000 [] i _ q ⟨hi, hk, σI_ok⟩ e1 _ gi_0 rfl (by omega) hX (by
    show up2 (up2 (up2 A 73 0 (-1)) 74 0 (-1)) 75 0 (-1) 73 0 = -1
    rw [up2_row (by decide), up2_row (by decide), up2_eq])
  have gx := ((rp_X (τ := τ) hS h4 hv 6000).1 [] i _ q ⟨hi, hk, σI_ok⟩ e1 hX).2 hX
  exact ⟨γ', g, g1, g3, g6, ⟨n6, p24, pk.1, rw4⟩, ⟨g5.1, g5.2.1⟩, fun k hk => gx.2.2 k (Nat.zero_le _) hk⟩
theorem RdE.cle (hE : RdE τ m σ root γ g0) : ClE (woS τ m σ γ) ((trS σ).2.2 12) (trS σ).1 := fun x x1 x2 => by
  have q := hE.1.1.2.1 x x1 x2
  exact ⟨q.2.2.2.1, q.2.2.2.2, q.2.2.1⟩
abbrev RGe (m : Nat) (M M' : Mem) : Prop := RG m [6, 7] csC [] M M'
theorem R_188 (hR : RPs b n s m τ [] σ M i 0) (e79 : mAI M 79 m = 0) (hE : RdE τ m σ root γ g0) (H0 : (∀ j, j < npS σ → σ.2.1.1 j 2 = 0) → ∀ pn S G mk nu co sl km g y M2 M3, BuR (woS τ m σ γ) ((trS σ).2.2 12) m σ.2.2.2.length (ifS σ).length σ.1.2.1 pn S G mk nu co sl km g y root (trS σ).2.1 (npS σ) M2 → RGd m M M2 → M3 = wI M2 29 18 (mI M 29 18 + 1) → Q (some (.int (mI M 29 18))) M3) (H1 : ∀ j pl M3, j < npS σ → (∀ q, q < j → σ.2.1.1 q 2 = 0) → σ.2.1.1 j 2 ≠ 0 → σ.2.1.1 j 0 = Int32.ofNat pl → TXr M3 (σ.2.1.1 j 2) pl → RGe m M M3 → Q (some (.int (-10 - Int32.ofNat pl))) M3) : DX11_compile_188 (h + 15) 29 0 M Q := by
  obtain ⟨⟨F, -, i19, h4, -⟩, ⟨n8, sn, is⟩, -, i6, -, ⟨hX, -, hA, -, ⟨e54, -⟩, -⟩, ⟨xl, -⟩⟩ := id hR
  have hC := hE.cle
  obtain ⟨g1, g3, tt, ⟨n4, p24, np40, r4⟩, hx, su⟩ := id hE
  have hB0 : BuM m σ.1.2.1 (mAI M 90) (0, mAI M) M := ⟨F, h4, i19, e79, fun _ _ _ => rfl, hA, rfl⟩
  unfold DX11_compile_188
  refine ⟨ok29 F, fun z => absurd i6 z, fun _ => ?_⟩
  refine B_build (h := h + 8) (W := woS τ m σ γ) rfl hC tt hx np40 (by omega) (by unfold csT; omega) e54 hB0 rfl (fun pn' S' G' mk nu co sl km g y M2 bu gd _ => ⟨rfl, ?_⟩)
  have F2 : Fix M2 := bu.1.1.1
  have i62 : mI M2 29 6 = 0 := by rw [gd.fI (by decide)]; exact i6
  have i18 : mI M2 29 18 = mI M 29 18 := gd.fI (by decide)
  have pr : ∀ i, i < npS σ → PrI (woS τ m σ γ) m σ.2.2.2.length (ifS σ).length 1 (trS σ).1 (npS σ) i := fun i hi => TT.prt g0 0 _ _ _ _ _ _ _ _ _ _ _ _ _ _ (by decide) tt (Nat.le_refl _) (by omega) i (Nat.zero_le _) hi
  have LP : LkP (woS τ m σ γ) ((trS σ).2.2 12) m σ.2.2.2.length (ifS σ).length 1 (trS σ).1 σ.1.2.1 σ.2.2.1 (npS σ) (trS σ).1 M2 := by
    refine ⟨⟨F2, h4, ?_, by omega, bu.1.1.2.2.2.2.2.1, su, np40⟩, rfl, rfl, rfl, pr, hC, Nat.le_refl _, by omega, i62, ?_⟩
    · unfold XR
      rw [gd.fA (c := 48) (by decide), gd.fA (c := 49) (by decide), gd.fA (c := 51) (by decide), gd.fJ (c := 50) (by decide)]
      exact hX
    · rw [gd.fA (c := 54) (by decide)]; exact e54
  refine L_look (h := h + 11) LP bu hx (fun z _ => ⟨rfl, ?_⟩) (fun j pl hj z nz ez _ => ⟨rfl, ?_⟩)
  · unfold DX11_compile_205
    refine ⟨ok29 F2, fun _ M3 e3 => ?_, fun w => absurd (by rw [i62]; exact Int32.le_rfl) w⟩
    rw [i18] at e3
    have q := H0 z pn' S' G' mk nu co sl km g y M2 M3 bu gd e3
    have e18 : mI M3 29 18 - 1 = mI M 29 18 := by
      have : mI M3 29 18 = mI M 29 18 + 1 := by rw [e3]; exact mI_own _ _ _ _
      rw [this, Int32.add_sub_cancel]
    rw [e18]; exact q
  · have c78 : σ.2.1.1 j 2 = 0 ∨ σ.2.1.1 j 2 = 7 ∨ σ.2.1.1 j 2 = 8 := by
      obtain ⟨k, K, p, pb, xi, ys, ff, i2, -, -, lt, -⟩ := pr j hj
      have lt : σ.2.1.1 j 2 = _ := lt
      rw [lt]
      split
      · split
        · exact Or.inl rfl
        · exact Or.inr (Or.inl rfl)
      · split
        · split
          · exact Or.inr (Or.inr rfl)
          · exact Or.inl rfl
        · exact Or.inl rfl
    have pos : 0 < σ.2.1.1 j 2 := by
      rcases c78 with w | w | w
      · exact absurd w nz
      · rw [w]; decide
      · rw [w]; decide
    show DX11_compile_205 (h + 15) 29 (wI (wI M2 29 6 (σ.2.1.1 j 2)) 29 7 (Int32.ofNat pl)) Q
    obtain ⟨tx, -⟩ := TXf6 (m := m) (p := pl) (c := σ.2.1.1 j 2) F2 pos
    have g3 : RGe m M2 (wI (wI M2 29 6 (σ.2.1.1 j 2)) 29 7 (Int32.ofNat pl)) := (RG.i (by decide)).tr (RG.i (by decide))
    have g2 : RGe m M M2 := RG.more gd (fun _ z => absurd z List.not_mem_nil) (fun _ z => z) (fun _ z => z)
    have q := H1 j pl _ hj z nz ez tx (g2.tr g3)
    obtain ⟨M3, e3⟩ : ∃ M3, M3 = wI (wI M2 29 6 (σ.2.1.1 j 2)) 29 7 (Int32.ofNat pl) := ⟨_, rfl⟩
    rw [← e3] at tx q ⊢
    unfold DX11_compile_205
    refine ⟨ok29 tx.1, fun w => ?_, fun _ => ?_⟩
    · rw [tx.2.1] at w
      exact absurd pos (Int32.not_lt.mpr w)
    · rw [tx.2.2.2]; exact q
end
