/-! a woven module's nets are what ClW says -/
/-- module and reference's module go together -/
def MdR (τ : Td) (m : Nat) (σ : PS) (R : RMo) : Prop := moM R = m ∧ moQ R = τ.1.length ∧ moY R = σ.2.2.2 ∧ moA R = σ.1.2.1 ∧ ∀ s, s < τ.1.length → (moT R s = 0 ↔ τ.2.1.getD s 0 = 30)
/-- inputs of a beat are 0 or 1 -/
def InB (R : RMo) (I : RIn) (ift : Nat → Nat) : Prop := (∀ s, s < moQ R → iGv I s < 2) ∧ (∀ s, iBf I s < 2) ∧ ∀ f, ift f < 2
section
variable {τ : Td} {m : Nat} {σ : PS} {root : Nat} {γ : Gh} {g0 n0 gw : Nat} {Z0 P : Nat → Nat → Int32} {zp : Int32} {Ψ1 Ψ2 : Wg} {w : Nat → Nat} {R : RMo} {I : RIn} {ift : Nat → Nat} {zn fn y0 g : Nat}
/-- all nodes below the root -/
theorem MdW.L (h : MdW τ m σ root γ g0 n0 gw Z0 P zp Ψ1 Ψ2) (hT : TwT (woS τ m σ γ) R zn fn y0 root g) : noL (chR (trS σ) γ.1) gw root = noL (chV (woS τ m σ γ)) g root ∧ ∀ z, z ∈ noL (chV (woS τ m σ γ)) g root → 1 ≤ z ∧ z < (trS σ).1 := by
  obtain ⟨hE, hX, ft, -⟩ := h
  obtain ⟨-, -, -, ⟨p', hR⟩, -⟩ := hT
  have hx := hE.2.2.2.2.1
  have bd : ∀ y, 1 ≤ y → y < (trS σ).1 → ∀ c ∈ γ.1 y, 1 ≤ c ∧ c < (trS σ).1 := fun y y1 y2 c hc => (hE.1.1.2.1 y y1 y2).2.2.1 c hc
  have ft2 : FtN γ.1 g root := RpN.ft g [] y0 root 0 p' hR
  have e1 := noL_ch2 (Θ := trS σ) (G := γ.1) bd g root hx
  have e2 := noL_2 ft (ft_R g root ft2)
  refine ⟨e2.trans e1, fun z hz => ?_⟩
  have hz : z ∈ noL γ.1 g root := hz
  exact noL_bd bd g root hx z hz
theorem MdW.nd (h : MdW τ m σ root γ g0 n0 gw Z0 P zp Ψ1 Ψ2) {z : Nat} (hz : z ∈ noL (chR (trS σ) γ.1) gw root) : NdQ (trS σ) (chR (trS σ) γ.1) Ψ1 P z := by
  obtain ⟨-, -, -, -, ⟨-, -, k3, k4, -⟩, -, -, -, -, k8, -⟩ := h
  by_cases e : z = root
  · rw [e]; exact ⟨k3, fun y => absurd y k8⟩
  · exact k4 z hz e
/-- the class's equations -/
theorem MdW.ce (h : MdW τ m σ root γ g0 n0 gw Z0 P zp Ψ1 Ψ2) (hT : TwT (woS τ m σ γ) R zn fn y0 root g) (k : gW Ψ2 w (HVm I)) {z : Nat} (hz : z ∈ noL (chV (woS τ m σ γ)) g root) : CEq (woV (woS τ m σ γ)) (hvW (trS σ) (HVm I)) (cvW P w) (ckW P w) (coW P w) (ccW (trS σ) w) z := by
  obtain ⟨eL, inb⟩ := h.L hT
  have k1 := h.g1 k
  have zi := inb z hz
  rw [← eL] at hz
  obtain ⟨⟨-, -, hi⟩, hj⟩ := h.nd hz
  obtain ⟨h1, h2⟩ := hi w (HVm I) k1
  have ez : chR (trS σ) γ.1 z = γ.1 z := chR_in zi
  rw [ez] at h1
  refine ⟨fun i hi' => ?_, fun n hn => ?_⟩
  · have q := h1 i hi'
    unfold ArN acN at q
    rw [ez] at q
    exact q
  · show ckW P w z n = if (trS σ).2.2 5 z = 8 then jbC (woV (woS τ m σ γ)) (hvW (trS σ) (HVm I)) (cvW P w) (ckW P w) z n else aC (woV (woS τ m σ γ)) (hvW (trS σ) (HVm I)) (cvW P w) (ckW P w) (ccW (trS σ) w) z (γ.1 z).length n
    by_cases k8 : (trS σ).2.2 5 z = 8
    · rw [if_pos k8]
      have q := hj k8 w (HVm I) k1 n hn
      unfold jbV at q
      rw [ez] at q
      exact q
    · rw [if_neg k8]
      have q := h2 k8 n hn
      unfold acN at q
      rw [ez] at q
      exact q
theorem MdW.sg (h : MdW τ m σ root γ g0 n0 gw Z0 P zp Ψ1 Ψ2) {s : Nat} (hs : s < τ.1.length) : roN Ψ2 (2 + s) = (3, s) := by
  obtain ⟨l1, l2, l3, l4⟩ := h.ln
  rcases h.old (n := 2 + s) (by omega) (by omega) with q | ⟨t, t1, t2, t3⟩ | ⟨t, t1, t2, t3⟩ | ⟨f, f1, f2, f3⟩
  · obtain ⟨hE, -⟩ := id h
    obtain ⟨-, s2, s3⟩ := hE.1.2.1.1.2.2.1 s hs
    unfold sgT at s2 s3
    rw [if_pos hs, show (4 + 2 * s) / 2 = 2 + s by omega] at s2 s3
    rw [h.ro (by omega), m6_gd s2, s3, if_neg (show ¬ (3 : Nat) = 6 by decide)] at q
    exact absurd (show (3 : Nat) = 0 from q) (by decide)
  · rw [t3, show t = s by omega]
  · obtain ⟨hE, -⟩ := id h
    obtain ⟨-, s2, s3⟩ := hE.1.2.1.1.2.2.1 s hs
    unfold sgT at s2 s3
    rw [if_pos hs, show (4 + 2 * s) / 2 = 2 + s by omega] at s2 s3
    rw [h.ro (by omega), m6_gd s2, s3, if_neg (show ¬ (3 : Nat) = 6 by decide)] at t3
    exact absurd (show (3 : Nat) = 4 from congrArg Prod.fst t3) (by decide)
  · obtain ⟨hE, -⟩ := id h
    obtain ⟨-, s2, s3⟩ := hE.1.2.1.1.2.2.1 s hs
    unfold sgT at s2 s3
    rw [if_pos hs, show (4 + 2 * s) / 2 = 2 + s by omega] at s2 s3
    rw [h.ro (by omega), m6_gd s2, s3, if_neg (show ¬ (3 : Nat) = 6 by decide)] at f3
    exact absurd (show (3 : Nat) = 5 from congrArg Prod.fst f3) (by decide)
/-- the first two nets -/
theorem MdW.r2 (h : MdW τ m σ root γ g0 n0 gw Z0 P zp Ψ1 Ψ2) {l : Nat} (hl : l < 2) : roN Ψ2 l = (1, 0) ∨ roN Ψ2 l = (2, 0) := by
  obtain ⟨l1, l2, l3, l4⟩ := h.ln
  obtain ⟨hE, hX, -⟩ := id h
  obtain ⟨t, et⟩ := hX.2.2.2.2.2.1
  have q := h.ro (n := l) (by omega)
  rw [m6_gd (by omega), et, gdA (by rw [roI_len]; omega)] at q
  have : l = 0 ∨ l = 1 := by omega
  rcases this with e | e
  · rw [e] at q ⊢; exact Or.inl q
  · rw [e] at q ⊢; exact Or.inr q
/-- the open net of a node -/
theorem MdW.op (h : MdW τ m σ root γ g0 n0 gw Z0 P zp Ψ1 Ψ2) (hT : TwT (woS τ m σ γ) R zn fn y0 root g) {z : Nat} (hz : z ∈ noL (chV (woS τ m σ γ)) g root) (hk : (trS σ).2.2 5 z = 6 ∨ (trS σ).2.2 5 z = 9) : ∃ l, P 26 z = Int32.ofNat (2 * l) ∧ (2 ≤ l ∧ l < Ψ2.1.length) ∧ roN Ψ2 l = (if (trS σ).2.2 5 z = 6 then 7 else 8, z) ∧ ClQ Ψ2 l (clO (woS τ m σ γ) P z) := by
  obtain ⟨eL, inb⟩ := h.L hT
  obtain ⟨l1, l2, l3, l4⟩ := h.ln
  have zi := inb z hz
  have ez : chR (trS σ) γ.1 z = γ.1 z := chR_in zi
  -- it has a child
  have ne : 0 < (γ.1 z).length := by
    obtain ⟨hG, hA, hy, ⟨p', hR⟩, hall⟩ := id hT
    rcases cov_b g [] y0 root 0 p' hR z hz with ⟨d, n, dn⟩ | ⟨k0, -⟩
    · obtain ⟨g', cx', q, q', kk⟩ := DsI.rp n (y0, root) g [] 0 p' dn hR
      have kk : RpN (woS τ m σ γ) (moM R) zn fn (vwM R) (hiM R) g' cx' d z q q' := kk
      have hne : ¬ cs1 (woS τ m σ γ) z := fun y => by
        have y1 : (trS σ).2.2 5 z = 5 := y.1
        rcases hk with e | e <;> (rw [e] at y1; exact absurd y1 (by decide))
      have no : ∀ {a : Int32}, (trS σ).2.2 5 z = a → a ≠ 6 → a ≠ 9 → False := fun {a} e n6 n9 => by
        rcases hk with y | y
        · exact n6 (e.symm.trans y)
        · exact n9 (e.symm.trans y)
      rcases kk.pk hne with ⟨a, -⟩ | ⟨a, -⟩ | ⟨a, -⟩ | ⟨a, -⟩ | ⟨a, -⟩ | ⟨a, -⟩ | ⟨-, -, c, d', e, -⟩ | ⟨a, -⟩ | ⟨a, -⟩ | ⟨-, -, c, d', e, -⟩
      · exact (no a (by decide) (by decide)).elim
      · exact (no a (by decide) (by decide)).elim
      · exact (no a (by decide) (by decide)).elim
      · exact (no a (by decide) (by decide)).elim
      · exact (no a (by decide) (by decide)).elim
      · exact (no a (by decide) (by decide)).elim
      · have e : γ.1 z = [c] := e
        rw [e]; simp
      · exact (no a (by decide) (by decide)).elim
      · exact (no a (by decide) (by decide)).elim
      · have e : γ.1 z = [c] := e
        rw [e]; simp
    · have k0 : (trS σ).2.2 5 z = 0 := k0
      rcases hk with e | e <;> (rw [e] at k0; exact absurd k0 (by decide))
  rw [← eL] at hz
  obtain ⟨⟨-, op, -⟩, -⟩ := h.nd hz
  obtain ⟨l, q1, q2, ⟨-, q4, q5⟩, q6⟩ := op hk
  rw [show 2 * l / 2 = l by omega] at q4 q5
  have cl := q6 (by rw [ez]; exact ne)
  obtain ⟨hE, hX, -, -, hk', ⟨f1, f2, f3, f4⟩, r1, r2, big, -⟩ := id h
  have e1 : Ψ2.2.1 = Ψ1.2.1 := by rw [f1]
  have rl : roN Ψ2 l = (if (trS σ).2.2 5 z = 6 then 7 else 8, z) := by unfold roN; rw [e1]; exact q5
  have rl78 : (roN Ψ2 l).1 = 7 ∨ (roN Ψ2 l).1 = 8 := by
    rw [rl]
    by_cases y : (trS σ).2.2 5 z = 6
    · rw [if_pos y]; exact Or.inl rfl
    · rw [if_neg y]; exact Or.inr rfl
  -- it is none of the reading's
  have new : σ.2.1.2.2.1.length ≤ l := by
    by_cases y : l < σ.2.1.2.2.1.length
    · by_cases y2 : 2 ≤ l
      · rcases h.old y2 y with q | ⟨t, -, -, q⟩ | ⟨t, -, -, q⟩ | ⟨t, -, -, q⟩
        · omega
        · rw [q] at rl78; exact absurd rl78 (by show ¬ ((3 : Nat) = 7 ∨ (3 : Nat) = 8); decide)
        · rw [q] at rl78; exact absurd rl78 (by show ¬ ((4 : Nat) = 7 ∨ (4 : Nat) = 8); decide)
        · rw [q] at rl78; exact absurd rl78 (by show ¬ ((5 : Nat) = 7 ∨ (5 : Nat) = 8); decide)
      · rcases h.r2 (l := l) (by omega) with q | q
        · rw [q] at rl78; exact absurd rl78 (by show ¬ ((1 : Nat) = 7 ∨ (1 : Nat) = 8); decide)
        · rw [q] at rl78; exact absurd rl78 (by show ¬ ((2 : Nat) = 7 ∨ (2 : Nat) = 8); decide)
    · omega
  refine ⟨l, q1, ⟨by omega, by omega⟩, rl, ?_⟩
  obtain ⟨lc, c1, c2, c3⟩ := cl
  refine ⟨lc, ?_, by omega, fun w HV k => ?_⟩
  · rw [f3 l q2 (fun t ht _ e => by omega)]; exact c1
  · rw [c3 w HV (h.g1 k)]
    unfold clF clO
    rw [ez]
    rfl
/-- every net is one of these -/
theorem MdW.nt (h : MdW τ m σ root γ g0 n0 gw Z0 P zp Ψ1 Ψ2) (hT : TwT (woS τ m σ γ) R zn fn y0 root g) (hR : MdR τ m σ R) (hb : InB R I ift) (h16 : τ.1.length ≤ 16) {n : Nat} (hn : n < Ψ2.1.length) : NtK (woS τ m σ γ) R I Ψ2 P (noL (chV (woS τ m σ γ)) g root) (tbR R Ψ2) (tvR I ift Ψ2) n := by
  obtain ⟨eL, inb⟩ := h.L hT
  obtain ⟨l1, l2, l3, l4⟩ := h.ln
  obtain ⟨hE, hX, ft, z21, hk', ⟨f1, f2, f3, f4⟩, r1, r2, big, -, n132⟩ := id h
  obtain ⟨m1, m2, m3, m4, m5⟩ := hR
  obtain ⟨b1, b2, b3⟩ := hb
  have e1 : Ψ2.2.1 = Ψ1.2.1 := by rw [f1]
  by_cases n2 : n < 2
  · -- the 0, the first beat
    have rr := h.r2 n2
    have nz : (Ψ2.2.1.getD n (0, 0)).1 ≠ 0 := by
      have e : Ψ2.2.1.getD n (0, 0) = roN Ψ2 n := rfl
      rw [e]
      rcases rr with q | q <;> rw [q]
      · exact (by decide : (1 : Nat) ≠ 0)
      · exact (by decide : (2 : Nat) ≠ 0)
    refine Or.inr (Or.inl ⟨nz, tb_lt n2, ?_, fun i ri => ?_⟩)
    · unfold tvR
      by_cases z : n = 0
      · rw [if_pos z]; decide
      · rw [if_neg z, if_pos (show n = 1 by omega)]
        split <;> decide
    · have e : roN Ψ2 n = (6, i) := ri
      rcases rr with q | q <;> rw [q] at e
      · exact absurd (show (1 : Nat) = 6 from congrArg Prod.fst e) (by decide)
      · exact absurd (show (2 : Nat) = 6 from congrArg Prod.fst e) (by decide)
  have h2 : 2 ≤ n := by omega
  have told : ∀ {k x : Nat}, roN Ψ2 n = (k, x) → k ≠ 0 → tbR R Ψ2 n = true → tvR I ift Ψ2 n < 2 → (k = 6 → tvR I ift Ψ2 n = HVm I (Ψ2.2.2.getD x 0)) → NtK (woS τ m σ γ) R I Ψ2 P (noL (chV (woS τ m σ γ)) g root) (tbR R Ψ2) (tvR I ift Ψ2) n := fun {k x} er k0 t1 t2 t3 => by
    refine Or.inr (Or.inl ⟨?_, t1, t2, fun i ri => ?_⟩)
    · show (roN Ψ2 n).1 ≠ 0
      rw [er]; exact k0
    · have ri : roN Ψ2 n = (6, i) := ri
      rw [er] at ri
      rw [t3 (congrArg Prod.fst ri), show x = i from congrArg Prod.snd ri]
  have and0 : (roN Ψ2 n).1 = 0 → NtK (woS τ m σ γ) R I Ψ2 P (noL (chV (woS τ m σ γ)) g root) (tbR R Ψ2) (tvR I ift Ψ2) n := fun e => by
    refine Or.inl ⟨e, ?_⟩
    rw [tb_r (k := 0) (x := (roN Ψ2 n).2) (by rw [← e]) h2]
    rfl
  by_cases old : n < σ.2.1.2.2.1.length
  · rcases h.old h2 old with q | ⟨s, s1, s2, s3⟩ | ⟨s, s1, s2, s3⟩ | ⟨f, q1, q2, q3⟩
    · exact and0 q
    · by_cases t0 : moT R s = 0
      · refine told s3 (by decide) ?_ ?_ (fun z => absurd z (by decide))
        · rw [tb_r s3 h2, decide_eq_true t0]; rfl
        · rw [tv_r s3 h2, if_pos rfl]; exact b1 s (by omega)
      · refine Or.inr (Or.inr (Or.inl ⟨?_, s, by omega, t0, s2, s3, ?_⟩))
        · rw [tb_r s3 h2, decide_eq_false t0]; rfl
        · -- a signal that is emitted
          have r30 : τ.2.1.getD s 0 ≠ 30 := fun e => t0 ((m5 s s1).mpr e)
          obtain ⟨l, c1, c2, c3⟩ := f4 s s1 r30
          rw [s2]
          refine ⟨l, c3, by omega, fun w HV k => ?_⟩
          have ex := hk'.2.2.2.2.2.2.2.1 w HV (h.g1 k) s (by omega)
          rw [c1, lV_of (by omega)] at ex
          have u0 : up4 Z0 root 2 3 0 0 (n0 + 21) s = 0 := by
            unfold up4
            by_cases hj : s = root
            · rw [if_pos hj, if_neg (by omega), if_neg (by omega), if_neg (by omega), if_neg (by omega)]; exact z21 s
            · rw [if_neg hj]; exact z21 s
          have v0 : lV w 0 = 0 := by
            have e : (0 : Int32) = Int32.ofNat 0 := rfl
            rw [e, lV_of (by decide), lR_0 k.1]
          rw [ex, u0, v0, eL]
          rfl
    · refine told s3 (by decide) (by rw [tb_r s3 h2]; rfl) ?_ (fun z => absurd z (by decide))
      rw [tv_r s3 h2, if_neg (by decide), if_pos rfl]; exact b2 s
    · refine told q3 (by decide) (by rw [tb_r q3 h2]; rfl) ?_ (fun z => absurd z (by decide))
      rw [tv_r q3 h2, if_neg (by decide), if_neg (by decide), if_pos rfl]; exact b3 f
  · -- new nets
    rcases hk'.1.2 n (by show σ.2.1.2.2.1.length ≤ n; omega) (by omega) with q | ⟨z, z1, z2, z3⟩
    · unfold r06 at q
      rw [← e1] at q
      rcases q with q | q
      · exact and0 q
      · have er : roN Ψ2 n = (6, (roN Ψ2 n).2) := by
          have q : (roN Ψ2 n).1 = 6 := q
          rw [← q]
        refine told er (by decide) (by rw [tb_r er h2]; rfl) ?_ (fun _ => ?_)
        · rw [tv_r er h2, if_neg (by decide), if_neg (by decide), if_neg (by decide)]; exact HVm_le
        · rw [tv_r er h2, if_neg (by decide), if_neg (by decide), if_neg (by decide)]
    · rw [eL] at z1
      obtain ⟨l, p1, p2, p3, p4⟩ := h.op hT z1 z2
      have el : n = l := by
        have := inj32 (a := 2 * n) (b := 2 * l) (by omega) (by omega) (z3.symm.trans p1)
        omega
      rw [← el] at p3 p4
      refine Or.inr (Or.inr (Or.inr ⟨?_, z, z1, ?_, z3, p4⟩))
      · rw [tb_r p3 h2]
        by_cases y : (trS σ).2.2 5 z = 6
        · rw [if_pos y]; rfl
        · rw [if_neg y]; rfl
      · by_cases y : (trS σ).2.2 5 z = 6
        · rw [if_pos y] at p3
          exact Or.inl ⟨y, p3⟩
        · rw [if_neg y] at p3
          rcases z2 with q | q
          · exact absurd q y
          · exact Or.inr ⟨q, p3⟩
end
