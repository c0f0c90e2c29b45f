/-! the reference: conditions of parts, at once or not -/
section
variable {b : Nat → Int32} {n s m : Nat} {τ : Td} {K : List KE} {σ : PS} {M M' : Mem} {i o h : Nat} {Q : Option Value → Mem → Prop}
theorem X_condOf {f : Int32} {p : Nat} {x : Int32} (hT : TXr M f p) (H : Q none M) : E (h + 1) mdX11_condOf [.ref 29, .int x] M Q := by
  refine KX11_condOf ?_
  unfold DX11_condOf_0 DX11_condOf_41
  exact ⟨ok29 hT.1, fun _ => H, fun z => absurd z hT.n0⟩
theorem X_sumOf {f : Int32} {p : Nat} {x y : Int32} (hT : TXr M f p) (H : Q none M) : E (h + 1) mdX11_sumOf [.ref 29, .int x, .int y] M Q := by
  refine KX11_sumOf ?_
  unfold DX11_sumOf_0 DX11_sumOf_69
  exact ⟨ok29 hT.1, fun _ => H, fun z => absurd z hT.n0⟩
theorem P_cond {j : Nat} (hR : RPs b n s m τ K σ M i o) (hB : By b) (hz : ∀ i, n ≤ i → b i = 0) (hS : Sto b n s) (h0 : tK b n i ≠ 0) (hj : j < 40) (hE : EndQ b n s m τ K o M (fun x => x.1) (fun M' => Q none M') (coM b n m τ j i o σ)) : E (h + 6) mdX11_condOf [.ref 29, .int (Int32.ofNat (40 * m + j))] M Q := by
  obtain ⟨c1, c2, c3, c4, c5, c6, c7⟩ := id hR
  have F := c1.1
  have m19 := c1.2.2.1
  have h4 := c1.2.2.2.1
  have hn := hS.1
  have hn2 := hS.2.1
  have hok := rc_ok (sN := τ.1) hS 6000 3 i o σ.2.2.2 (by decide) c2.2.2 h0
  have l40 := lt40 h4 hj
  refine KX11_condOf ?_
  unfold DX11_condOf_0 DX11_condOf_41
  rw [m19, lt32 (n := m) (by omega), l40]
  have eY : (410 : Int32) * Int32.ofNat m + mAI M 44 m = Int32.ofNat (410 * m + σ.2.2.2.length) := off32 (a := 410) c6.2.1.1
  refine ⟨ok29 F, fun z => absurd c4 z, fun _ => ⟨62, rf29_42 F, 44, rf29_20 F, ok44 F, by rw [ln44 F]; exact vp_of (by omega) (by decide), ok62 F, ix40 h4 hj (ln62 F), fun M6 e6 => ?_⟩⟩
  rw [eY] at e6
  have F6 : Fix M6 := by rw [e6]; exact F.ai
  have s1 := hR.ra (c := 62) (k := 40 * m + j) (v := Int32.ofNat (410 * m + σ.2.2.2.length)) (by decide) (by decide) (by decide) (by rw [sz_p (by decide) (by decide)]; omega)
  rw [← e6] at s1
  have G6 : RGp m M M6 := by rw [e6]; exact RGp.ra (by decide) (by decide) (by decide) (by rw [sz_p (by decide) (by decide)]; omega)
  have c66 := s1.2.2.2.2.2.1
  refine ⟨63, rf29_43 F6, G_readCond (h := h) (g := 6000) hz hB hS s1.bc h0 (by omega) ?_⟩
  unfold coM at hE
  show EndB b n s m τ.1 τ.2.1 τ.2.2.1 τ.2.2.2.1 M6 o _ (rc b n τ.1 6000 3 i o σ.2.2.2)
  cases e : rc b n τ.1 6000 3 i o σ.2.2.2 with
  | error x =>
    rw [e] at hE
    intro M8 T8 R8 _
    have F8 := T8.1
    refine ⟨_, rfl, ok63 F8, ix40 h4 hj (ln63 F8), fun M9 e9 => ?_⟩
    refine hE M9 (by rw [e9]; exact T8.ra) ?_
    rw [e9]
    exact (G6.tr (RGp.m2 R8.g)).tr (RGp.ra (by decide) (by decide) (by decide) (by rw [sz_p (by decide) (by decide)]; omega))
  | ok r =>
    rw [e] at hE hok
    obtain ⟨k1, k2, k3, ⟨Z, hZ, hZl⟩, -⟩ := hok
    intro M8 B8 R8 _
    obtain ⟨x1, x2, x3, x4, x5, x6, x7⟩ := B8
    have F8 := x1.1
    refine ⟨_, rfl, ok63 F8, ix40 h4 hj (ln63 F8), fun M9 e9 => ?_⟩
    have R0 : ∀ C : ClT, RPs b n s m τ K ((raP σ (up2 σ.1.2.1 62 (40 * m + j) (Int32.ofNat (410 * m + σ.2.2.2.length)))).1, C, σ.2.2.1, r.2) M8 r.1 o := fun C => ⟨x1, x2, x3, x4, x5, c66.y R8.g x6, by show σ.2.2.1.length ≤ _; omega, x7.1, x7.2⟩
    have s2 := (R0 (σ.2.1.1, σ.2.1.2.1, (cyL (sgT τ.1.length) (σ.2.1.2.2.1, σ.2.1.2.2.2.1, List.replicate σ.2.2.2.length 0) (r.2.drop σ.2.2.2.length)).1, (cyL (sgT τ.1.length) (σ.2.1.2.2.1, σ.2.1.2.2.2.1, List.replicate σ.2.2.2.length 0) (r.2.drop σ.2.2.2.length)).2.1, σ.2.1.2.2.2.2)).ra (c := 63) (k := 40 * m + j) (v := Int32.ofNat (410 * m + (r.2.length - 1))) (by decide) (by decide) (by decide) (by rw [sz_p (by decide) (by decide)]; omega)
    refine hE M9 (by rw [e9]; exact s2) ?_
    rw [e9]
    exact (G6.tr (RGp.m2 R8.g)).tr (RGp.ra (by decide) (by decide) (by decide) (by rw [sz_p (by decide) (by decide)]; omega))
theorem P_at {j : Nat} (hR : RPs b n s m τ K σ M i o) (hB : By b) (hz : ∀ i, n ≤ i → b i = 0) (hS : Sto b n s) (h0 : tK b n i ≠ 0) (hj : j < 40) (hE : EndQ b n s m τ K o M (fun x => x.1) (fun M' => Q none M') (atM b n m τ j i o σ)) : E (h + 7) mdX11_atOnceOf [.ref 29, .int (Int32.ofNat (40 * m + j))] M Q := by
  obtain ⟨c1, c2, c3, c4, c5, c6, c7⟩ := id hR
  have F := c1.1
  have h4 := c1.2.2.2.1
  have l40 := lt40 h4 hj
  unfold atM imM at hE
  refine KX11_atOnceOf ?_
  unfold DX11_atOnceOf_0 DX11_atOnceOf_29
  rw [l40]
  refine ⟨ok29 F, fun z => absurd c4 z, fun _ => K_key (h := h + 5) (j := 18) (k := 48) (hR.tk hB) (by decide) (by decide) (by decide) (fun q _ => ⟨_, rfl, fun z => absurd z (by decide), fun _ => ?_⟩) (fun q _ => ⟨_, rfl, fun _ => ?_, fun z => absurd rfl z⟩)⟩
  · rw [if_pos q] at hE
    refine ⟨61, rf29_41 F, ok61 F, ix40 h4 hj (ln61 F), fun M6 e6 => ?_⟩
    rw [bool_nar1] at e6
    have s1 := hR.ra (c := 61) (k := 40 * m + j) (v := 1) (by decide) (by decide) (by decide) (by rw [sz_p (by decide) (by decide)]; omega)
    rw [← e6] at s1
    have G6 : RGp m M M6 := by rw [e6]; exact RGp.ra (by decide) (by decide) (by decide) (by rw [sz_p (by decide) (by decide)]; omega)
    have hs := hS.lt c2.2.2 h0 (by rw [q]; decide)
    refine P_take (h := h + 4) s1 hB hz hs (by rw [q]; decide) (fun k1 M7 R7 G7 _ => ⟨rfl, ?_⟩) (fun k1 M7 T7 G7 _ => ⟨rfl, ?_⟩)
    · rw [adv_ok' k1] at hE
      have hE : EndQ b n s m τ K o M (fun x => x.1) (fun M' => Q none M') ((coM b n m τ j (i + 1) o (raP σ (up2 σ.1.2.1 61 (40 * m + j) 1))).bind fun q => .ok (q.1, q.2.1, q.2.2, true)) := hE
      refine ⟨ok29 R7.1.1, P_cond (h := h) R7 hB hz hS k1 hj ?_⟩
      cases e : coM b n m τ j (i + 1) o (raP σ (up2 σ.1.2.1 61 (40 * m + j) 1)) with
      | error x => rw [e] at hE; exact fun M8 T8 G8 _ => ⟨rfl, hE M8 T8 ((G6.tr G7).tr G8)⟩
      | ok r => rw [e] at hE; exact fun M8 R8 G8 _ => ⟨rfl, hE M8 R8 ((G6.tr G7).tr G8)⟩
    · rw [adv_er' k1] at hE
      exact ⟨ok29 T7.1, X_condOf (h := h + 5) T7 (fun _ => ⟨rfl, hE M7 T7 (G6.tr G7)⟩)⟩
  · rw [if_neg q] at hE
    have hE : EndQ b n s m τ K o M (fun x => x.1) (fun M' => Q none M') ((coM b n m τ j i o σ).bind fun q => .ok (q.1, q.2.1, q.2.2, false)) := hE
    refine ⟨ok29 F, P_cond (h := h) hR hB hz hS h0 hj ?_⟩
    cases e : coM b n m τ j i o σ with
    | error x => rw [e] at hE; exact fun M8 T8 G8 _ => ⟨rfl, hE M8 T8 G8⟩
    | ok r => rw [e] at hE; exact fun M8 R8 G8 _ => ⟨rfl, hE M8 R8 G8⟩
end
