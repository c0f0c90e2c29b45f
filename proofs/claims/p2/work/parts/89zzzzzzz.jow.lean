/-! a valuation of the nets made of the reference's solution -/
section
variable {W : Wo} {R : RMo} {I : RIn} {Ψ : Wg} {P : Nat → Nat → Int32} {Θ : TrT} {tb : Nat → Bool} {tv : Nat → Nat} {zn fn g y0 x0 : Nat} {ρ : Plc → Nat} {v : Nat → Nat}
noncomputable def opV (W : Wo) (R : RMo) (ρ : Plc → Nat) (y0 x0 q z : Nat) : Nat := @dite _ (∃ d, DsR W R y0 x0 d ((chV W z).getD 0 0)) (Classical.propDecidable _) (fun h => ρ (q, Classical.choose h, 0)) (fun _ => 2)
noncomputable def bsV (W : Wo) (R : RMo) (ρ : Plc → Nat) (y0 x0 : Nat) (Ψ : Wg) (tb : Nat → Bool) (tv : Nat → Nat) (n : Nat) : Nat := if n < Ψ.1.length then (if tb n = true then tv n else if (Ψ.2.1.getD n (0, 0)).1 = 3 then ρ (5, (Ψ.2.1.getD n (0, 0)).2, 0) else if (Ψ.2.1.getD n (0, 0)).1 = 7 then opV W R ρ y0 x0 0 (Ψ.2.1.getD n (0, 0)).2 else if (Ψ.2.1.getD n (0, 0)).1 = 8 then opV W R ρ y0 x0 3 (Ψ.2.1.getD n (0, 0)).2 else 2) else 2
/-- the class's tree, for its pairs -/
def TrU (W : Wo) (R : RMo) (y0 x0 : Nat) : Prop := ∃ nb : Nat → Prop, (∀ d c, DsR W R y0 x0 d c → nb c) ∧ (∀ z a b, nb a → nb b → z ∈ chV W a → z ∈ chV W b → a = b) ∧ (∀ a, nb a → (chV W a).Nodup) ∧ ∀ a, nb a → x0 ∉ chV W a
theorem opV_at (hU : TrU W R y0 x0) {q z d : Nat} (h : DsR W R y0 x0 d ((chV W z).getD 0 0)) : opV W R ρ y0 x0 q z = ρ (q, d, 0) := by
  obtain ⟨nb, u1, u2, u3, u4⟩ := hU
  unfold opV
  have hx : ∃ d, DsR W R y0 x0 d ((chV W z).getD 0 0) := ⟨d, h⟩
  rw [dif_pos hx]
  obtain ⟨n, h⟩ := h
  obtain ⟨n', h'⟩ := Classical.choose_spec hx
  rw [ds_fn nb u1 u2 u3 u4 n' n _ d _ h' h]
theorem opV_le (h2 : ∀ j, ρ j ≤ 2) (q z : Nat) : opV W R ρ y0 x0 q z ≤ 2 := by
  unfold opV
  by_cases h : ∃ d, DsR W R y0 x0 d ((chV W z).getD 0 0)
  · rw [dif_pos h]; exact h2 _
  · rw [dif_neg h]; exact Nat.le_refl _
theorem J_w (hT : TwT W R zn fn y0 x0 g) (hU : TrU W R y0 x0) (hC : ClW W R I Ψ P Θ (noL (chV W) g x0) tb tv y0 x0) (hK : PrK W R Θ y0 x0) (h3 : 3 ≤ moC R ∧ moC R ≤ 20) (h2 : ∀ j, ρ j ≤ 2) (hfx : ∀ i, FrR R I ρ i = ρ i) : ∃ w, (∀ n, FcN Ψ.1 tb tv w n = w n) ∧ gT I Ψ tb tv w ∧ (∀ d c, DsR W R y0 x0 d c → MtE R ρ (cvW P w) (ckW P w) d c) ∧ ∀ s, s < moQ R → w (2 + s) = ρ (5, s, 0) := by
  obtain ⟨hG, hA, hy, ⟨p', hR⟩, hall⟩ := id hT
  have ft := RpN.ft g [] y0 x0 0 p' hR
  obtain ⟨⟨hRo, hl, hq⟩, hN, ⟨t0, v0⟩, hO, hE, hrt, hin, hsg, hY⟩ := id hC
  obtain ⟨w, ew⟩ : ∃ w, w = wV Ψ.1 Ψ.2.1 (bsV W R ρ y0 x0 Ψ tb tv) := ⟨_, rfl⟩
  have bs : ∀ n, (Ψ.2.1.getD n (0, 0)).1 ≠ 0 → w n = bsV W R ρ y0 x0 Ψ tb tv n := fun n hn => by rw [ew]; exact wV_bs n hn
  have told : ∀ n, n < Ψ.1.length → tb n = true → w n = tv n := fun n hn ht => by
    rw [bs n ((hN n hn).t ht).1]
    unfold bsV
    rw [if_pos hn, if_pos ht]
  have an : ∀ n, n < Ψ.1.length → (Ψ.2.1.getD n (0, 0)).1 = 0 → w n = v3A (lvN w (Ψ.1.getD n (0, 0)).1) (lvN w (Ψ.1.getD n (0, 0)).2) := fun n hn r0 => by
    rw [ew]; exact wV_an hRo.2.1 n hn r0
  have bl : ∀ n, bsV W R ρ y0 x0 Ψ tb tv n ≤ 2 := fun n => by
    unfold bsV
    by_cases z : n < Ψ.1.length
    · rw [if_pos z]
      by_cases y : tb n = true
      · rw [if_pos y]
        have := ((hN n z).t y).2.1
        omega
      rw [if_neg y]
      by_cases z3 : (Ψ.2.1.getD n (0, 0)).1 = 3
      · rw [if_pos z3]; exact h2 _
      rw [if_neg z3]
      by_cases z7 : (Ψ.2.1.getD n (0, 0)).1 = 7
      · rw [if_pos z7]; exact opV_le h2 _ _
      rw [if_neg z7]
      by_cases z8 : (Ψ.2.1.getD n (0, 0)).1 = 8
      · rw [if_pos z8]; exact opV_le h2 _ _
      · rw [if_neg z8]; exact Nat.le_refl _
    · rw [if_neg z]; exact Nat.le_refl _
  have le : ∀ n, w n ≤ 2 := fun n => by rw [ew]; exact wV_le bl n
  have gw : gT I Ψ tb tv w := by
    refine ⟨⟨⟨by rw [told 0 (by omega) t0, v0], le, an⟩, hvM_0, fun n i hn ri => ?_⟩, told⟩
    rw [hRo.1] at hn
    obtain ⟨q1, q2⟩ := (hN n hn).h ri
    rw [told n hn q1, q2]
  have sig : ∀ s, s < moQ R → w (2 + s) = ρ (5, s, 0) := fun s hs => by
    have fx : ρ (5, s, 0) = if moT R s = 0 then iGv I s else emR R ρ s (moS R).1 := by
      rw [← hfx (5, s, 0)]
      show FrA R I ρ 5 s 0 = _
      unfold FrA
      rw [if_neg (by decide), if_neg (by decide), if_pos ⟨rfl, hs, rfl⟩]
    by_cases z : moT R s = 0
    · obtain ⟨q1, q2⟩ := hin s hs z
      rw [told (2 + s) (by omega) q1, q2, fx, if_pos z]
    · obtain ⟨q1, q2⟩ := hsg s hs z
      rw [bs (2 + s) (by rw [q2]; show (3 : Nat) ≠ 0; decide)]
      unfold bsV
      rw [if_pos (by omega), if_neg (by rw [q1]; decide), q2, if_pos rfl]
  obtain ⟨hr0, hlk⟩ := hrt w gw
  have cl : ∀ d c, DsR W R y0 x0 d c → c ∈ noL (chV W) g x0 := fun d c h => by
    obtain ⟨n, h⟩ := h
    exact ds_no ft n d c h
  have cb : ∀ c j, ckW P w c j ≤ 2 := fun c j => lv_le le
  have rp : ∀ d x, DsR W R y0 x0 d x → ∃ g' cx' q q', RpN W (moM R) zn fn (vwM R) (hiM R) g' cx' d x q q' := fun d x h => by
    obtain ⟨k, h⟩ := h
    exact DsI.rp k (y0, x0) g [] 0 p' h hR
  -- an open net and the child behind it
  have opn : ∀ d c, DsR W R y0 x0 d c → (woV W c).1 = 6 ∨ (woV W c).1 = 9 → ¬ cs1 W c ∧ PkR W R d c ∧ inR R d ∧ 0 < (moG R d).length ∧ coW P w c = ρ (if (woV W c).1 = 6 then 0 else 3, (moG R d).getD 0 0, 0) := fun d c h hk => by
    obtain ⟨g', cx', q, q', kk⟩ := rp d c h
    have hne : ¬ cs1 W c := fun y => by
      have := y.1
      rcases hk with e | e <;> (rw [e] at this; exact absurd this (by decide))
    have hP := kk.pk hne
    have l0 : 0 < (moG R d).length := by
      rcases hP with ⟨-, -, e, -⟩ | ⟨a, -⟩ | ⟨a, -⟩ | ⟨a, -⟩ | ⟨a, -⟩ | ⟨a, -⟩ | ⟨-, -, c1, d1, -, e⟩ | ⟨-, -, c1, d1, -, e⟩ | ⟨-, -, e, -⟩ | ⟨-, -, c1, d1, -, e⟩
      · omega
      · rcases hk with e | e <;> (rw [e] at a; exact absurd a (by decide))
      · rcases hk with e | e <;> (rw [e] at a; exact absurd a (by decide))
      · rcases hk with e | e <;> (rw [e] at a; exact absurd a (by decide))
      · rcases hk with e | e <;> (rw [e] at a; exact absurd a (by decide))
      · rcases hk with e | e <;> (rw [e] at a; exact absurd a (by decide))
      · rw [e]; simp
      · rw [e]; simp
      · omega
      · rw [e]; simp
    refine ⟨hne, hP, kk.in, l0, ?_⟩
    have kd := h.tr (DsR.kid kk.in hne hP l0)
    obtain ⟨l, l1, l2, l3, l4⟩ := (hO c (cl d c h)).2 hk
    show lV w (P 26 c) = _
    rw [l1, lV_of (by omega), lv_2]
    by_cases k6 : (woV W c).1 = 6
    · rw [if_pos k6] at l4 ⊢
      rw [bs l (by rw [l4]; show (7 : Nat) ≠ 0; decide)]
      unfold bsV
      rw [if_pos l2, if_neg (by rw [l3]; decide), l4, if_neg (show ¬ (7 : Nat) = 3 by decide), if_pos rfl]
      exact opV_at hU kd
    · rw [if_neg k6] at l4 ⊢
      rw [bs l (by rw [l4]; show (8 : Nat) ≠ 0; decide)]
      unfold bsV
      rw [if_pos l2, if_neg (by rw [l3]; decide), l4, if_neg (show ¬ (8 : Nat) = 3 by decide), if_neg (show ¬ (8 : Nat) = 7 by decide), if_pos rfl]
      exact opV_at hU kd
  have mt : ∀ d c, DsR W R y0 x0 d c → MtE R ρ (cvW P w) (ckW P w) d c := by
    refine M_t (I := I) (hv := hvW Θ (HVm I)) (co := coW P w) (cc := ccW Θ w) hG hfx cb h3 g [] y0 x0 0 p' hR (fun d c h => ⟨J_sb hT hC hK gw.1 h, fun hk => ?_, fun k6 => ?_, fun k9 => ?_⟩) (fun c c3 => ?_)
    · rw [← hlk d c h hk]
      exact lok_S (I := I) (r := fun a c => a = c) Cg_eq hY (fun s hs => (sig s hs).symm) d
    · have q := (opn d c h (Or.inl k6)).2.2.2.2
      rw [if_pos k6] at q
      exact q
    · have q := (opn d c h (Or.inr k9)).2.2.2.2
      rw [if_neg (by rw [k9]; decide)] at q
      exact q
    · show ρ (c, y0, 0) = cvW P w c x0
      rw [hr0 c c3, ← hfx (c, y0, 0)]
      show FrA R I ρ c y0 0 = _
      unfold FrA
      rw [if_pos c3, if_pos ⟨hy.1, rfl⟩]
      unfold enR rtV
      rw [if_pos hy.2]
  refine ⟨w, fun n => ?_, gw, mt, sig⟩
  unfold FcN
  by_cases hn : n < Ψ.1.length
  · rw [if_pos hn]
    have sq : ∀ {f : (Nat → Nat) → Nat}, ClQ Ψ n f → tb n = false → (if tb n = true then tv n else v3A (lvN w (Ψ.1.getD n (0, 0)).1) (lvN w (Ψ.1.getD n (0, 0)).2)) = f w := fun {f} c tf => by
      obtain ⟨lc, c1, -, c3⟩ := c
      rw [if_neg (by rw [tf]; decide), c1, ← c3 w _ gw.1]
      exact v3A_s (lv_le le)
    rcases id (hN n hn) with ⟨a, tf⟩ | ⟨-, a, -⟩ | ⟨tf, t, t1, t2, t3, t4, t5⟩ | ⟨tf, z, z1, z2, z3, z4⟩
    · rw [if_neg (by rw [tf]; decide)]
      exact (an n hn a).symm
    · rw [if_pos a]
      exact (told n hn a).symm
    · rw [sq t5 tf, t3, sig t t1, ← hfx (5, t, 0)]
      show _ = FrA R I ρ 5 t 0
      unfold FrA
      rw [if_neg (by decide), if_neg (by decide), if_pos ⟨rfl, t1, rfl⟩, if_neg t2]
      exact (em_eq hT (fun d c h => (mt d c h).1 0 (by decide)) t).symm
    · rw [sq z4 tf]
      have kz : (woV W z).1 = 6 ∨ (woV W z).1 = 9 := by
        rcases z2 with ⟨e, -⟩ | ⟨e, -⟩
        · exact Or.inl e
        · exact Or.inr e
      have wn : w n = coW P w z := by
        show _ = lV w (P 26 z)
        rw [z3, lV_of (by omega), lv_2]
      rw [wn]
      rcases cov_b g [] y0 x0 0 p' hR z z1 with ⟨d, dd⟩ | ⟨k0, -⟩
      · obtain ⟨hne, hP, di, l0, co⟩ := opn d z dd kz
        have kd := mt _ _ (dd.tr (DsR.kid di hne hP l0))
        have md := mt d z dd
        rw [co]
        unfold clO
        rcases kz with k6 | k9
        · rw [if_pos k6, if_pos k6, ← md.1 0 (by decide), ← kd.2 0 (by omega)]
          exact opn_6 hG di hP l0 hfx k6
        · rw [if_neg (by rw [k9]; decide), if_neg (by rw [k9]; decide), ← md.1 3 (by decide), ← kd.2 2 (by omega)]
          exact opn_9 hG di hP l0 hfx k9
      · rcases kz with e | e <;> (rw [e] at k0; exact absurd k0 (by decide))
  · rw [if_neg hn]
    have r0 : (Ψ.2.1.getD n (0, 0)).1 = 0 := by
      rw [List.getD_eq_getElem?_getD, List.getElem?_eq_none (by rw [hRo.1]; omega)]
      rfl
    rw [ew]
    show _ = (if n < Ψ.1.length ∧ (Ψ.2.1.getD n (0, 0)).1 = 0 then _ else bsV W R ρ y0 x0 Ψ tb tv n)
    rw [if_neg (fun z => hn z.1)]
    unfold bsV
    rw [if_neg hn]
/-- both come to the same -/
theorem J_eq (hT : TwT W R zn fn y0 x0 g) (hU : TrU W R y0 x0) (hC : ClW W R I Ψ P Θ (noL (chV W) g x0) tb tv y0 x0) (hK : PrK W R Θ y0 x0) (h3 : 3 ≤ moC R ∧ moC R ≤ 20) (h2 : ∀ j, ρ j ≤ 2) (hfx : ∀ i, FrR R I ρ i = ρ i) (hJ : JF (FrR R I) ρ) (vx : ∀ n, FcN Ψ.1 tb tv v n = v n) (vJ : JF (FcN Ψ.1 tb tv) v) : (∀ d c, DsR W R y0 x0 d c → MtE R ρ (cvW P v) (ckW P v) d c) ∧ ∀ s, s < moQ R → ρ (5, s, 0) = v (2 + s) := by
  obtain ⟨u1, u2⟩ := J_up hT hC hK h3 vx hJ
  obtain ⟨w, w1, w2, w3, w4⟩ := J_w hT hU hC hK h3 h2 hfx
  have l : Lq v w := vJ.le FcN_mo w1
  refine ⟨fun d c h => ⟨fun q hq => ?_, fun n hn => ?_⟩, fun s hs => ?_⟩
  · have a := (u1 d c h).1 q hq
    have b : lq3 (cvW P v q c) (cvW P w q c) := lvN_mo l
    have e : ρ (q, d, 0) = cvW P w q c := (w3 d c h).1 q hq
    rw [← e] at b
    exact a.an b
  · have a := (u1 d c h).2 n hn
    have b : lq3 (ckW P v c n) (ckW P w c n) := lvN_mo l
    have e : ρ (4, d, n) = ckW P w c n := (w3 d c h).2 n hn
    rw [← e] at b
    exact a.an b
  · have a := u2 s hs
    have b := l (2 + s)
    rw [w4 s hs] at b
    exact a.an b
end
