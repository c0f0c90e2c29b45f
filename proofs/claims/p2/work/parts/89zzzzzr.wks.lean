/-! the weaver's walk: its steps -/
section
variable {n0 l0 r0 N0 nb : Nat} {Θ : TrT} {G : Nat → List Nat} {M0 M M' : Mem} {Ψ Ψ' : Wg} {h : Nat} {Q : Option Value → Mem → Prop} {P : Nat → Nat → Int32} {zp : Int32} {x i : Nat}
theorem nk_en {P : Nat → Nat → Int32} {x : Nat} {kv : Nat → Int32} : nk (enP P x kv) x = szN kv 20 := sz_cg 20 (fun k hk => enP_i hk)
theorem nk_st {P P' : Nat → Nat → Int32} {z : Nat} (h : SmK P P' z) : nk P' z = nk P z := sz_cg 20 (fun k hk => h k hk)
theorem W_en2 (hB : WvB n0 l0 r0 M0) (hW : WvP n0 l0 r0 N0 Θ M0 Ψ M) (hP : RwP n0 P zp M) (hlim : Ψ.1.length < 99900) (hs : ShN Θ G nb x) (hok : ∀ c, 22 ≤ c → c ≤ 25 → okI Ψ (P c x)) (hem : ∀ s, s < 16 → okI Ψ (P (n0 + 21) s)) (K : ∀ M' Ψ' P' zp', WvP n0 l0 r0 N0 Θ M0 Ψ' M' → RwP n0 P' zp' M' → (Gr (nwN Ψ) Ψ Ψ' ∧ NwQ Θ [x] Ψ Ψ' P') → (Ψ'.1.length ≤ Ψ.1.length + 2 ∧ Ψ'.2.2.length ≤ Ψ.2.2.length + eH (Θ.2.2 5 x) ∧ Ψ'.1.length + nk P' x ≤ Ψ.1.length + eW (Θ.2.2 5 x)) → InQ Θ G Ψ' P' 0 0 x → ExR Θ n0 Ψ' [x] P P' zp zp' → (∀ z, z ≠ x → SmA P P' z ∧ SmK P P' z) → (∀ c, 22 ≤ c → c ≤ 25 → P' c x = P c x) → (Θ.2.2 5 x = 6 ∨ Θ.2.2 5 x = 9 → ∃ l, Ψ.1.length ≤ l ∧ l < Ψ'.1.length ∧ P' 26 x = Int32.ofNat (2 * l)) → Q none M') : E (h + 9) mdX9_enter [.ref 21, .int (Int32.ofNat x)] M Q := by
  obtain ⟨⟨x1, x2, x3⟩, ⟨cd, ecd, cd31, c1, c2, c3⟩, -⟩ := hs
  obtain ⟨n1, -⟩ := id hB.1
  have lcd : (Θ.2.2 11 x).toNatClampNeg = cd := by rw [ecd]; exact lt32 cd31
  refine W_ent (h := h) hB hW hP hlim x3 ecd c1 (fun z => ⟨c2 z, hem cd (c2 z)⟩) c3 (hok 22 (by decide) (by decide)) (hok 23 (by decide) (by decide)) (fun M' Ψ' P1 kv zp' W' R' G' L' en ok' s' => ?_)
  have low : ∀ c z, 22 ≤ c → c ≤ 25 → P1 c z = P c z := by
    intro c z z1 z2
    rcases en with ⟨-, e, -⟩ | ⟨-, -, e0, e, -⟩ | ⟨-, -, l, -, -, e, -⟩ | ⟨-, e, -⟩
    · rw [e, up2_row (by omega), up2_row (by omega), up2_row (by omega)]
    · rw [e, up2_row (by omega)]
    · rw [e, up2_row (by omega)]
    · rw [e]
  have r26 : ∀ z, z ≠ x → P1 26 z = P 26 z := by
    intro z hz
    rcases en with ⟨-, e, -⟩ | ⟨-, -, e0, e, -⟩ | ⟨-, -, l, -, -, e, -⟩ | ⟨-, e, -⟩
    · rw [e, up2_row (by omega), up2_row (by omega), up2_row (by omega)]
    · rw [e, up2_row (by omega)]
    · rw [e, up2_ne (fun y => hz y.2)]
    · rw [e]
  have r28 : ∀ j, P1 28 j = P 28 j := by
    intro j
    rcases en with ⟨-, e, -⟩ | ⟨-, -, e0, e, -⟩ | ⟨-, -, l, -, -, e, -⟩ | ⟨-, e, -⟩
    · rw [e, up2_row (by omega), up2_row (by omega), up2_row (by omega)]
    · rw [e, up2_row (by omega)]
    · rw [e, up2_row (by omega)]
    · rw [e]
  have q22 : ∀ c z, 22 ≤ c → c ≤ 25 → enP P1 x kv c z = P c z := fun c z z1 z2 => (enP_n (by omega)).trans (low c z z1 z2)
  have nq : NwQ Θ [x] Ψ Ψ' (enP P1 x kv) := fun n n1 n2 => by
    by_cases z : EnC (Θ.2.2 5 x) Ψ n
    · refine Or.inr ⟨x, List.mem_singleton.mpr rfl, z.1, ?_⟩
      rw [enP_n (by decide)]
      rcases en with ⟨k1, -⟩ | ⟨k2, -⟩ | ⟨-, -, l, e1, -, e3, -⟩ | ⟨⟨-, -, k6, k9⟩, -⟩
      · have hk := z.1
        rw [k1] at hk; rcases hk with y | y <;> exact absurd y (by decide)
      · have hk := z.1
        rw [k2] at hk; rcases hk with y | y <;> exact absurd y (by decide)
      · rw [e3, up2_eq, e1, z.2]
      · rcases z.1 with y | y
        · exact absurd y k6
        · exact absurd y k9
    · exact Or.inl (G'.2.2.2.2 n n1 n2 z)
  refine K M' Ψ' (enP P1 x kv) zp' W' R' ⟨G'.more (fun n _ z => by have := z.2; unfold nwN; omega), nq⟩ ⟨L'.1, L'.2.1, by rw [nk_en]; exact L'.2.2⟩ ⟨⟨fun c z1 z2 => by rw [q22 c x z1 z2]; exact (hok c z1 z2).gr G', fun n hn => by rw [enP_i hn]; exact ok' n⟩, fun hk => ?_, fun w HV g => ⟨fun j hj => absurd hj (Nat.not_lt_zero _), fun _ n hn => ?_⟩⟩ ?_ (fun z hz => ⟨fun c z1 z2 => ?_, fun n hn => by rw [enP_x hn hz]; exact r28 _⟩) (fun c z1 z2 => q22 c x z1 z2) (fun hk => ?_)
  · rcases en with ⟨k1, -⟩ | ⟨k2, -⟩ | ⟨-, -, l, e1, e2, e3, e4⟩ | ⟨⟨-, -, k6, k9⟩, -⟩
    · rw [k1] at hk; rcases hk with y | y <;> exact absurd y (by decide)
    · rw [k2] at hk; rcases hk with y | y <;> exact absurd y (by decide)
    · exact ⟨l, by rw [enP_n (by decide), e3, up2_eq], e2, e4, fun z => absurd z (Nat.lt_irrefl 0)⟩
    · rcases hk with y | y
      · exact absurd y k6
      · exact absurd y k9
  · rw [enP_i hn, s' w HV g n]
    show _ = enV (Θ.2.2 5 x) (Θ.2.2 11 x).toNatClampNeg n _ _ _
    rw [lcd, q22 22 x (by decide) (by decide), q22 23 x (by decide) (by decide)]
  · -- what is emitted, the pauses
    have e17 : ∀ c j, n0 + 17 ≤ c → enP P1 x kv c j = P1 c j := fun c j hc => enP_n (by omega)
    rcases en with ⟨k1, e, ez⟩ | ⟨k2, ez, ev, e, oe, se⟩ | ⟨k6, ez, l, -, -, e, -⟩ | ⟨⟨k1, k2, -, -⟩, e, ez⟩
    · have b : ∀ j, P1 (n0 + 21) j = P (n0 + 21) j := fun j => by rw [e, up2_row (by omega), up2_row (by omega), up2_row (by omega)]
      refine ⟨fun s hs => by rw [e17 _ s (by omega), b]; exact (hem s hs).gr G', fun w HV _ s hs => ?_, fun j hj => ?_, ?_⟩
      · rw [e17 _ s (by omega), b]
        show _ = if Θ.2.2 5 x = 2 ∧ _ then _ else _
        rw [if_neg (fun y => by have := y.1; rw [k1] at this; exact absurd this (by decide))]
      · rw [e17 _ j (by omega), e17 _ j (by omega), e17 _ j (by omega)]
        have cj : (Θ.2.2 5 x = 1 ∧ Θ.2.2 11 x = Int32.ofNat j) ↔ j = cd := ⟨fun y => (inj32 cd31 (by omega) (ecd.symm.trans y.2)).symm, fun y => ⟨k1, by rw [y]; exact ecd⟩⟩
        have v22 := q22 22 x (by decide) (by decide)
        have v24 := q22 24 x (by decide) (by decide)
        have v25 := q22 25 x (by decide) (by decide)
        show _ = (if Θ.2.2 5 x = 1 ∧ Θ.2.2 11 x = Int32.ofNat j then enP P1 x kv 22 x else P (n0 + 17) j) ∧ _ = (if Θ.2.2 5 x = 1 ∧ Θ.2.2 11 x = Int32.ofNat j then enP P1 x kv 24 x else P (n0 + 18) j) ∧ _ = (if Θ.2.2 5 x = 1 ∧ Θ.2.2 11 x = Int32.ofNat j then enP P1 x kv 25 x else P (n0 + 19) j)
        rw [v22, v24, v25, e]
        by_cases y : j = cd
        · rw [if_pos (cj.mpr y), if_pos (cj.mpr y), if_pos (cj.mpr y), y]
          refine ⟨?_, ?_, ?_⟩
          · rw [up2_row (by omega), up2_row (by omega), up2_eq]
          · rw [up2_row (by omega), up2_eq]
          · rw [up2_eq]
        · rw [if_neg (fun q => y (cj.mp q)), if_neg (fun q => y (cj.mp q)), if_neg (fun q => y (cj.mp q))]
          refine ⟨?_, ?_, ?_⟩
          · rw [up2_row (by omega), up2_row (by omega), up2_ne (fun q => y q.2)]
          · rw [up2_row (by omega), up2_ne (fun q => y q.2), up2_row (by omega)]
          · rw [up2_ne (fun q => y q.2), up2_row (by omega), up2_row (by omega)]
      · show zp' = if Θ.2.2 5 x = 1 then mx12 zp (Θ.2.2 11 x).toNatClampNeg else zp
        rw [if_pos k1, lcd]; exact ez
    · refine ⟨fun s hs => ?_, fun w HV g s hs => ?_, fun j hj => ?_, ?_⟩
      · rw [e17 _ s (by omega), e]
        by_cases y : s = cd
        · rw [y, up2_eq]; exact oe
        · rw [up2_ne (fun q => y q.2)]; exact (hem s hs).gr G'
      · rw [e17 _ s (by omega), e]
        show _ = if Θ.2.2 5 x = 2 ∧ Θ.2.2 11 x = Int32.ofNat s then v3O (lV w (P (n0 + 21) s)) (lV w (enP (up2 P (n0 + 21) cd ev) x kv 22 x)) else lV w (P (n0 + 21) s)
        rw [← e, q22 22 x (by decide) (by decide)]
        by_cases y : s = cd
        · rw [e, y, up2_eq, if_pos ⟨k2, ecd⟩]; exact se w HV g
        · rw [e, up2_ne (fun q => y q.2), if_neg (fun q => y ((inj32 cd31 (by omega) (ecd.symm.trans q.2)).symm))]
      · have nk : ∀ v, ¬ (Θ.2.2 5 x = 1 ∧ v) := fun v y => by have := y.1; rw [k2] at this; exact absurd this (by decide)
        rw [e17 _ j (by omega), e17 _ j (by omega), e17 _ j (by omega), e]
        show _ = (if Θ.2.2 5 x = 1 ∧ Θ.2.2 11 x = Int32.ofNat j then _ else _) ∧ _ = (if Θ.2.2 5 x = 1 ∧ Θ.2.2 11 x = Int32.ofNat j then _ else _) ∧ _ = (if Θ.2.2 5 x = 1 ∧ Θ.2.2 11 x = Int32.ofNat j then _ else _)
        rw [if_neg (nk _), if_neg (nk _), if_neg (nk _), up2_row (by omega), up2_row (by omega), up2_row (by omega)]
        exact ⟨rfl, rfl, rfl⟩
      · show zp' = if Θ.2.2 5 x = 1 then _ else zp
        rw [if_neg (by rw [k2]; decide)]; exact ez
    · have nk1 : Θ.2.2 5 x ≠ 1 := by rcases k6 with y | y <;> rw [y] <;> decide
      have nk2 : Θ.2.2 5 x ≠ 2 := by rcases k6 with y | y <;> rw [y] <;> decide
      have b : ∀ c j, n0 + 17 ≤ c → P1 c j = P c j := fun c j hc => by rw [e, up2_row (by omega)]
      refine ⟨fun s hs => by rw [e17 _ s (by omega), b _ s (by omega)]; exact (hem s hs).gr G', fun w HV _ s hs => ?_, fun j hj => ?_, ?_⟩
      · rw [e17 _ s (by omega), b _ s (by omega)]
        show _ = if Θ.2.2 5 x = 2 ∧ _ then _ else _
        rw [if_neg (fun y => nk2 y.1)]
      · rw [e17 _ j (by omega), e17 _ j (by omega), e17 _ j (by omega), b _ j (by omega), b _ j (by omega), b _ j (by omega)]
        show _ = (if Θ.2.2 5 x = 1 ∧ Θ.2.2 11 x = Int32.ofNat j then _ else _) ∧ _ = (if Θ.2.2 5 x = 1 ∧ Θ.2.2 11 x = Int32.ofNat j then _ else _) ∧ _ = (if Θ.2.2 5 x = 1 ∧ Θ.2.2 11 x = Int32.ofNat j then _ else _)
        rw [if_neg (fun y => nk1 y.1), if_neg (fun y => nk1 y.1), if_neg (fun y => nk1 y.1)]
        exact ⟨rfl, rfl, rfl⟩
      · show zp' = if Θ.2.2 5 x = 1 then _ else zp
        rw [if_neg nk1]; exact ez
    · refine ⟨fun s hs => by rw [e17 _ s (by omega), e]; exact (hem s hs).gr G', fun w HV _ s hs => ?_, fun j hj => ?_, ?_⟩
      · rw [e17 _ s (by omega), e]
        show _ = if Θ.2.2 5 x = 2 ∧ _ then _ else _
        rw [if_neg (fun y => k2 y.1)]
      · rw [e17 _ j (by omega), e17 _ j (by omega), e17 _ j (by omega), e]
        show _ = (if Θ.2.2 5 x = 1 ∧ Θ.2.2 11 x = Int32.ofNat j then _ else _) ∧ _ = (if Θ.2.2 5 x = 1 ∧ Θ.2.2 11 x = Int32.ofNat j then _ else _) ∧ _ = (if Θ.2.2 5 x = 1 ∧ Θ.2.2 11 x = Int32.ofNat j then _ else _)
        rw [if_neg (fun y => k1 y.1), if_neg (fun y => k1 y.1), if_neg (fun y => k1 y.1)]
        exact ⟨rfl, rfl, rfl⟩
      · show zp' = if Θ.2.2 5 x = 1 then _ else zp
        rw [if_neg k1]; exact ez
  · by_cases y : c = 26
    · rw [y, enP_n (by decide)]; exact r26 z hz
    · exact q22 c z z1 (by omega)
  · rcases en with ⟨k1, -⟩ | ⟨k2, -⟩ | ⟨-, -, l, e1, e2, e3, e4⟩ | ⟨⟨-, -, k6, k9⟩, -⟩
    · rw [k1] at hk; rcases hk with y | y <;> exact absurd y (by decide)
    · rw [k2] at hk; rcases hk with y | y <;> exact absurd y (by decide)
    · exact ⟨l, Nat.le_of_eq e1.symm, e2, by rw [enP_n (by decide), e3, up2_eq]⟩
    · rcases hk with y | y
      · exact absurd y k6
      · exact absurd y k9
/-- the branches of x are joined: x is woven -/
theorem W_jn2 (hB : WvB n0 l0 r0 M0) (hW : WvP n0 l0 r0 N0 Θ M0 Ψ M) (hP : RwP n0 P zp M) (hs : ShN Θ G nb x) (hlim : Ψ.1.length + 62 * (G x).length + 30 < 99900) (hI : InQ Θ G Ψ P (G x).length (G x).length x) (hc : ∀ j, j < (G x).length → OkR Ψ P ((G x).getD j 0)) (k8 : Θ.2.2 5 x = 8) (K : ∀ M' Ψ' P', WvP n0 l0 r0 N0 Θ M0 Ψ' M' → RwP n0 P' zp M' → Gr noN Ψ Ψ' → (Ψ'.1.length ≤ Ψ.1.length + 62 * (G x).length + 22 ∧ Ψ'.2.2.length ≤ Ψ.2.2.length + (G x).length + 1) → NdQ Θ G Ψ' P' x → (∀ z, SmA P P' z) → (∀ z, z ≠ x → SmK P P' z) → (∀ c j, n0 + 17 ≤ c → c ≤ n0 + 21 → P' c j = P c j) → Q none M') : E (h + 9) mdX9_joinBranches [.ref 21, .int (Int32.ofNat x)] M Q := by
  obtain ⟨⟨x1, x2, x3⟩, -, -, hL, -⟩ := hs
  obtain ⟨n1, -⟩ := id hB.1
  obtain ⟨-, -, -, -, hRo, -⟩ := hW.sees hB
  refine W_jb (h := h) hB hW hP hlim x3 hL (hI.1.1 23 (by decide) (by decide)) hI.1.2 (fun j n hj hn => (hc j hj).2 n hn) (fun M' Ψ' P1 kv W' R' q1 G' L' ok' s' => ?_)
  obtain ⟨-, -, -, -, hRo', -⟩ := W'.sees hB
  have sA : ∀ z, SmA P (enP P1 x kv) z := fun z c z1 z2 => by rw [enP_n (by omega)]; exact q1 c z (by omega)
  have sK : ∀ z, z ≠ x → SmK P (enP P1 x kv) z := fun z hz n hn => by rw [enP_x hn hz]; exact q1 _ _ (by decide)
  have hcx : ∀ j, j < (G x).length → (G x).getD j 0 ≠ x := fun j hj => (hL.2.2.1 j hj).2.2
  refine K M' Ψ' (enP P1 x kv) W' R' G' L' ⟨⟨⟨fun c z1 z2 => by rw [sA x c z1 (by omega)]; exact (hI.1.1 c z1 z2).gr G', fun n hn => by rw [enP_i hn]; exact ok' n hn⟩, fun y => ?_, fun w HV g => ⟨fun j hj => ?_, fun y => absurd k8 y⟩⟩, fun _ w HV g n hn => ?_⟩ sA sK (fun c j z1 z2 => by rw [enP_n (by omega)]; exact q1 c j (by omega))
  · rw [k8] at y; rcases y with y | y <;> exact absurd y (by decide)
  · exact ArN_st (sA x) (sA _).b (fun k hk => sK _ (hcx k (by omega))) (((hI.2.2 w HV (g.bk G' hRo hRo' (fun _ _ y => y.elim))).1) j hj)
  · rw [enP_i hn, s' w HV g n hn]
    exact (jbV_st hn (sA x) (fun j hj => sK _ (hcx j hj))).symm
end
