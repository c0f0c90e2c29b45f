/-! the room that a compiled module takes -/
section
variable {b : Nat → Int32} {n s m : Nat} {τ : Td} {σ : PS} {root g0 : Nat} {γ : Gh}
theorem smL_2 {f h : Nat → Nat} : ∀ L : List Nat, smL (fun a => 10 * f a + 18 * h a) L = 10 * smL f L + 18 * smL h L
  | [] => rfl
  | a :: t => by
    show 10 * f a + 18 * h a + smL _ t = 10 * (f a + smL f t) + 18 * (h a + smL h t)
    rw [smL_2 t]; omega
/-- the nodes of a tree that is read, as the weaver sees them and as the parts say -/
theorem RdE.nl (hE : RdE τ m σ root γ g0) (gw : Nat) : noL (chR (trS σ) γ.1) gw root = noL (fun z => (woV (woS τ m σ γ) z).2.2.2) gw root ∧ ∀ z, z ∈ noL (chR (trS σ) γ.1) gw root → chR (trS σ) γ.1 z = (woV (woS τ m σ γ) z).2.2.2 ∧ (trS σ).2.2 5 z = (woV (woS τ m σ γ) z).1 := by
  obtain ⟨hg, -, -, -, hx, -⟩ := hE
  have hb : ∀ y, 1 ≤ y → y < (trS σ).1 → ∀ c ∈ γ.1 y, 1 ≤ c ∧ c < (trS σ).1 := fun y y1 y2 c hc => (hg.1.2.1 y y1 y2).2.2.1 c hc
  have bd : ∀ y, 1 ≤ y → y < (trS σ).1 → ∀ c ∈ chR (trS σ) γ.1 y, 1 ≤ c ∧ c < (trS σ).1 := fun y y1 y2 c hc => hb y y1 y2 c (chR_sub hc).2
  refine ⟨noL_ch2 hb gw root hx, fun z hz => ?_⟩
  have iz := noL_bd bd gw root hx z hz
  exact ⟨chR_in iz, rfl⟩
theorem RdE.wt (hE : RdE τ m σ root γ g0) (gw : Nat) : 10 * smL (oW (trS σ) (chR (trS σ) γ.1)) (noL (chR (trS σ) γ.1) gw root) + 18 * smL (oH (trS σ) (chR (trS σ) γ.1)) (noL (chR (trS σ) γ.1) gw root) + 638 ≤ s0S m σ.1.2.1 (npS σ) + 648 * σ.1.1 4 := by
  obtain ⟨n1, n2⟩ := hE.nl gw
  obtain ⟨-, -, tt, -⟩ := id hE
  have a := TT.wt _ _ _ _ _ _ _ _ _ _ _ _ _ _ _ _ (by decide) tt gw
  rw [if_neg (by decide), if_pos rfl] at a
  have a1 : smL (wtG (woV (woS τ m σ γ)) gw) ([((0 : Nat), root)].map Prod.snd) = wtG (woV (woS τ m σ γ)) gw root + 0 := rfl
  have a2 : s0S m (woA (woS τ m σ γ)) 0 = 0 := rfl
  rw [a1, a2] at a
  have q : smL (fun z => 10 * oW (trS σ) (chR (trS σ) γ.1) z + 18 * oH (trS σ) (chR (trS σ) γ.1) z) (noL (chR (trS σ) γ.1) gw root) ≤ smL (swN (woV (woS τ m σ γ))) (noL (chR (trS σ) γ.1) gw root) := smL_le _ (fun z hz => by
    obtain ⟨e1, e2⟩ := n2 z hz
    unfold oW oH jW jH swN swK
    rw [e1, e2]
    exact Nat.le_refl _)
  rw [smL_2] at q
  have q2 : smL (swN (woV (woS τ m σ γ))) (noL (chR (trS σ) γ.1) gw root) = wtG (woV (woS τ m σ γ)) gw root := by rw [n1]; rfl
  rw [q2] at q
  have e : woA (woS τ m σ γ) = σ.1.2.1 := rfl
  rw [e] at a
  omega
theorem RdE.ht (hE : RdE τ m σ root γ g0) (gw : Nat) : smL (oH (trS σ) (chR (trS σ) γ.1)) (noL (chR (trS σ) γ.1) gw root) + 1 ≤ 2 * npS σ + σ.1.1 4 + 6 * (trS σ).2.1 := by
  obtain ⟨n1, n2⟩ := hE.nl gw
  obtain ⟨-, -, tt, -⟩ := id hE
  have a := TT.ht _ _ _ _ _ _ _ _ _ _ _ _ _ _ _ _ (by decide) tt gw
  rw [if_neg (by decide), if_neg (by decide)] at a
  have a1 : smL (htG (woV (woS τ m σ γ)) gw) ([((0 : Nat), root)].map Prod.snd) = htG (woV (woS τ m σ γ)) gw root + 0 := rfl
  rw [a1] at a
  have q : smL (oH (trS σ) (chR (trS σ) γ.1)) (noL (chR (trS σ) γ.1) gw root) ≤ smL (hwN (woV (woS τ m σ γ))) (noL (chR (trS σ) γ.1) gw root) := smL_le _ (fun z hz => by
    obtain ⟨e1, e2⟩ := n2 z hz
    unfold oH jH hwN hwK
    rw [e1, e2]
    exact Nat.le_refl _)
  have q2 : smL (hwN (woV (woS τ m σ γ))) (noL (chR (trS σ) γ.1) gw root) = htG (woV (woS τ m σ γ)) gw root := by rw [n1]; rfl
  rw [q2] at q
  omega
theorem rdm_tok {A : Nat → Nat → Int32} {B : Nat → Int64} {Zt : Nat → Nat → Int32} {r : Nat × Td × PS × Nat} (hS : Sto b n s) (e : rdM b n m A B Zt = .ok r) : phS m r.2.2.1 ≤ 648 + 660 * r.1 + 286 * r.2.2.1.1.1 1 ∧ r.1 ≤ s := by
  unfold rdM at e
  by_cases k0 : tK b n 0 = 0
  · rw [if_pos k0] at e; cases e
  rw [if_neg k0] at e
  obtain ⟨q, et, e⟩ := bind_ok e
  obtain ⟨p, eq, e⟩ := bind_ok e
  cases e
  have ok1 := td_ok hS 900 0 td0 (by have := hS.1; have := hS.2.1; omega) (Nat.zero_le _) k0
  rw [et] at ok1
  obtain ⟨o1, o2, o3, -⟩ := ok1
  unfold rdQ at eq
  obtain ⟨u, eu, ep⟩ := bind_ok eq
  have up : u = p := by
    by_cases z : tK b n u.1 = 1
    · rw [if_pos z] at ep; cases ep; rfl
    · rw [if_neg z] at ep; cases ep
  subst up
  have ok2 := rp_ok (τ := q.2) (m := m) hS 6000 0 [] q.1 (σI A B (cl0 Zt q.2)) 0 0 0 0 0 0 (by decide) o2 o3 σI_ok
  rw [eu] at ok2
  have h := rp_tok (τ := q.2) (m := m) hS 6000 [] q.1 (σI A B (cl0 Zt q.2)) u ⟨o2, o3, σI_ok⟩ eu
  unfold PhR at h
  have e0 : phS m (σI A B (cl0 Zt q.2)) = 648 := rfl
  have e1 : (σI A B (cl0 Zt q.2)).1.1 1 = 0 := rfl
  rw [e0, e1] at h
  refine ⟨?_, ok2.2.1⟩
  show phS m u.2.1 ≤ 648 + 660 * u.1 + 286 * u.2.1.1.1 1
  omega
theorem sk_np {A : Nat → Nat → Int32} : ∀ q, 358 * q ≤ skS m A q
  | 0 => Nat.zero_le _
  | q + 1 => by
    have h := sk_np (A := A) q
    show _ ≤ skS m A q + kpS (A 58 (40 * m + q))
    have : 358 ≤ kpS (A 58 (40 * m + q)) := by
      unfold kpS
      repeat' split
      all_goals omega
    omega
/-- what is made while a module is read and woven: slots, cells -/
theorem C_rom {M M0 M2 Mw M3 : Mem} {i lc rc S gw : Nat} {ro : List Int32} {Ro : List (Nat × Nat)} {ps : List Nat} {xs : Nat → Nat} {X : Nat → Prop} (hC : CRd b n s τ M M0 M2 i σ ps) (tok : phS m σ ≤ 648 + 660 * i + 286 * σ.1.1 1) (p24 : σ.1.1 1 ≤ 24) (hif : (ifS σ).length = ifU (σ.1.2.1 58) m (npS σ)) (hE : RdE τ m σ root γ g0) (k : NuF X M2 Mw) (wz : WvZ (mN M) lc rc (trS σ) σ.2.1.2.2.1 Mw) (we : WvE (mN M) lc rc S ro (trS σ) (chR (trS σ) γ.1) σ.2.1.2.2.1 Ro gw root ps xs Mw M3) : ∃ c, mI M3 (mN M + 8) 4 = Int32.ofNat c ∧ c ≤ 1000 + 67 * i ∧ mS M3 + 2 * c ≤ mS M + mS cpC + 7822 + 682 * i ∧ mN M3 ≤ mN M + 1140 + 45 * i := by
  obtain ⟨⟨hTI, ⟨lc0, rc0, cc, pb, ib, hQ⟩, c1, c2, c3, c4⟩, -, -, -, c5, ⟨lcz, c6, c7⟩⟩ := hC
  obtain ⟨hCB, ⟨hSm, -, -⟩, -, hLP, -, -, hRm, -, ⟨hps, hp40, hx80⟩⟩ := hQ
  obtain ⟨Ψ1, Ψ2, P, zp, M1, wk, fi, -, wp, -, -, nu, -⟩ := we
  obtain ⟨lc', rc', b1, b2, hl, -, hC1, -, -, -, -, -, -, rm⟩ := wp
  have hC2 : CirP M2 (mN M + 8) lc0 rc0 σ.2.1.2.2.1 := hCB.2.1
  have hCw : CirP Mw (mN M + 8) lc rc σ.2.1.2.2.1 := wz.2.2.2.1
  have el : lc0 = lc := by
    have e1 := hC2.2.1
    have e2 := hCw.2.1
    rw [k.2.1.2.1] at e2
    exact Option.some.inj (e1.symm.trans e2)
  subst el
  have a1 := hE.wt gw
  have a2 := hE.ht gw
  have a3 := s0_sk (m := m) (A := σ.1.2.1) (npS σ)
  have a4 := sk_np (m := m) (A := σ.1.2.1) (npS σ)
  have hp : ps.length = npS σ := hps
  have hr4 := hE.2.2.2.1.2.2.2
  have ht24 := hE.2.2.2.1.2.1
  obtain ⟨-, w2, w3⟩ := wk.2.1
  have w3 : Ψ1.2.2.length + _ ≤ 0 + smL (oH (trS σ) (chR (trS σ) γ.1)) (noL (chR (trS σ) γ.1) gw root) := w3
  have w2 : Ψ1.1.length + _ + _ ≤ σ.2.1.2.2.1.length + smL (oW (trS σ) (chR (trS σ) γ.1)) (noL (chR (trS σ) γ.1) gw root) := w2
  have f1 : Ψ2.2.2.length = Ψ1.2.2.length := by rw [fi.1]
  have f2 := fi.2.1
  have m1 : mN M3 = mN M1 := nu.1.1
  have m2 : mS M3 = mS M1 := nu.1.2.1
  have m3 : mN Mw = mN M2 := k.1.1
  have m4 : mS Mw = mS M2 := k.1.2.1
  have m5 : mL Mw = mL M2 := k.1.2.2.2
  have l1 := hC1.2.2.2.2.2.2.1.2.2.2.2
  have l2 := hSm.2.2.2.2.2.2.1
  obtain ⟨⟨-, r1⟩, ⟨r2, r3, r4⟩, -⟩ := rm
  obtain ⟨s1, s2, -⟩ := hRm
  unfold phS at tok
  rw [m5] at r1 r2
  have hxs : (ifS σ).length = σ.2.1.2.2.2.2.1.length := rfl
  have hco : (σ.2.1.2.2.2.2.2.1).length ≤ 3 * i := c2
  have hN0 : σ.2.1.2.2.1.length ≤ 18 + i := c1
  rw [hp] at s1 s2
  have sq1 : npS σ * npS σ ≤ 40 * npS σ := Nat.mul_le_mul_right _ (by omega)
  have sq2 : σ.2.1.2.2.2.2.1.length * σ.2.1.2.2.2.2.1.length ≤ 80 * σ.2.1.2.2.2.2.1.length := Nat.mul_le_mul_right _ hx80
  have ifle : ifU (σ.1.2.1 58) m (npS σ) ≤ npS σ := by
    have : ∀ q, ifU (σ.1.2.1 58) m q ≤ q := by
      intro q
      induction q with
      | zero => exact Nat.le_refl _
      | succ q ih =>
        show ifU (σ.1.2.1 58) m q + (if σ.1.2.1 58 (40 * m + q) = 14 then 1 else 0) ≤ q + 1
        split <;> omega
    exact this _
  have i4 : mI M1 (mN M + 8) 4 = Int32.ofNat Ψ2.1.length := hC1.2.2.2.2.2.1
  refine ⟨Ψ2.1.length, ?_, ?_, ?_, ?_⟩
  · rw [nu.2.2 (mN M + 8) ?_]
    · exact i4
    rintro ⟨j, hj, ej⟩
    have o5 := (hLP.2.2.2.2.2.1 j hj).2.1
    omega
  · omega
  · omega
  · omega
end
