/-! both compile: what is left of it -/
abbrev RGz (m : Nat) (M M' : Mem) : Prop := RG m [1, 5, 6, 7, 19, 29, 31, 32, 33, 53, 60] [31, 32, 34, 35, 36, 38, 39, 40, 41, 44, 45, 46, 47, 48, 49, 51, 52, 53, 54, 55, 56, 57, 58, 59, 60, 61, 62, 63, 64, 65, 66, 67, 68, 69, 70, 71, 73, 74, 75, 76, 77, 78, 79, 122, 80, 81, 82, 83, 84, 85, 86, 87, 88, 89, 90, 91, 92, 93, 94] [33, 37, 42, 43, 50, 72] M M'
theorem cz_c : ∀ c ∈ ([31, 32, 34, 35, 36, 38, 39, 40, 41, 44, 45, 46, 47, 48, 49, 51, 52, 53, 54, 55, 56, 57, 58, 59, 60, 61, 62, 63, 64, 65, 66, 67, 68, 69, 70, 71, 73, 74, 75, 76, 77, 78, 79, 122, 80, 81, 82, 83, 84, 85, 86, 87, 88, 89, 90, 91, 92, 93, 94] : List Nat), (c ≤ 122 ∧ c ≠ 102 ∧ c ≠ 103 ∧ c ≠ 110) ∧ 31 ≤ c := by decide
theorem cz_j : ∀ c ∈ ([33, 37, 42, 43, 50, 72] : List Nat), 33 ≤ c ∧ c ≤ 72 := by decide
section
variable {ow : Nat → Nat} {ga : Nat → Td × PS × CoT} {gm : Nat → Nat} {M M0 M1 M2 Mw M3 M4 M' M'' : Mem} {ms gs : List Nat} {mb mb' gb t h k n m : Nat} {f : Nat → Int32} {fs cs js : List Nat}
theorem RG.rff (k : RG m fs cs js M M') : RfF (fun f => f ∈ fs) (fun c => c ∈ cs) (fun c => c ∈ js) M M' := by
  obtain ⟨k1, k2, k3, k4, k5, k6, k7, k8, k9, k10, k11, -⟩ := k
  exact ⟨⟨k1, k2, k3, k4⟩, ⟨k7, k5, k6⟩, k8, k9, k10, k11⟩
theorem RGc.z (k : RGc m M M') : RGz m M M' := k.more (by decide) (by decide) (by decide)
theorem RGd.z (k : RGd m M M') : RGz m M M' := k.more (by decide) (by decide) (by decide)
theorem RGe.z (k : RGe m M M') : RGz m M M' := k.more (by decide) (by decide) (by decide)
theorem cntO_cg {f g : Nat → Int32} {a : Nat} : ∀ n, (∀ i, i < n → f (a + i) = g (a + i)) → cntO f a n = cntO g a n
  | 0, _ => rfl
  | n + 1, h => by
    show cntO f a n + (if f (a + n) = 1 then 1 else 0) = cntO g a n + (if g (a + n) = 1 then 1 else 0)
    rw [cntO_cg n (fun i hi => h i (by omega)), h n (by omega)]
theorem RmO.rg {τ : Td} {σ : PS} {j : Nat} (h : RmO τ σ j M) (k : RG m fs cs js M M') (hj : j < m) : RmO τ σ j M' := by
  obtain ⟨⟨a1, a2, a3, a4⟩, ⟨b1, b2, b3, b4, b5, b6⟩, c⟩ := h
  have one : ∀ c, szA c = 1 → mAI M' c j = mAI M c j := fun c hc => (k.sg hc (by omega) hj).1
  exact ⟨⟨by rw [one 34 (by decide)]; exact a1, a2, by rw [one 35 (by decide)]; exact a3, by rw [one 36 (by decide)]; exact a4⟩, ⟨by rw [one 54 (by decide)]; exact b1, b2, by rw [one 56 (by decide)]; exact b3, by rw [one 57 (by decide)]; exact b4, by rw [one 55 (by decide)]; exact b5, by rw [b6, cntO_cg (f := mAI M' 38) (g := mAI M 38) τ.1.length (fun i hi => (k.sg (c := 38) (z := 16) (by decide) (by omega) hj).1)]⟩, fun i hi => by rw [(k.sg (c := 59) (z := 40) (by decide) (by omega) hj).1]; exact c i hi⟩
theorem RxM.rg {p : Td × PS × CoT} {j : Nat} (h : RxM p j M) (k : RG m fs cs js M M') (hj : j < m) (hcs : ∀ c ∈ cs, c ≤ 122) : RxM p j M' := by
  obtain ⟨R, sl, il, X, np, y, ⟨⟨eR, hB⟩, hy, ey⟩, hM, ⟨⟨e1, e2⟩, e3, e4⟩, ⟨hf, t9⟩, hs⟩ := h
  have one : ∀ c, szA c = 1 → mAI M' c j = mAI M c j := fun c hc => (k.sg hc (by omega) hj).1
  have rw0 : ∀ c, 123 ≤ c → mAI M' c = mAI M c := fun c hc => k.2.2.2.2.2.2.2.2.2.1 c (fun z => by have := hcs c z; omega)
  have a1 : asM M' j p.1.1.length = asM M j p.1.1.length := by
    refine shM_cg _ (fun s hs => ?_)
    show decide (¬ mAI M' 40 (16 * j + s) = 0) = decide (¬ mAI M 40 (16 * j + s) = 0)
    rw [(k.sg (c := 40) (z := 16) (by decide) (by omega) hj).1]
  have a2 : ouM M' j p.1.1.length = ouM M j p.1.1.length := by
    refine shM_cg _ (fun s hs => ?_)
    show decide (mAI M' 38 (16 * j + s) = 1) = decide (mAI M 38 (16 * j + s) = 1)
    rw [(k.sg (c := 38) (z := 16) (by decide) (by omega) hj).1]
  exact ⟨R, sl, il, X, np, y, ⟨⟨eR, hB.rg k (by rw [eR]; exact hj)⟩, hy, by rw [one 91 (by decide)]; exact ey⟩, hM, ⟨⟨a1.trans e1, a2.trans e2⟩, by rw [one 34 (by decide)]; exact e3, e4⟩, ⟨hf.rg k hj, t9⟩, hs.k2 (one 122 (by decide)) (fun c h1 _ => rw0 c h1)⟩
theorem RmE.rg {p : Td × PS × CoT} {j : Nat} (h : RmE p j M) (k : RG m fs cs js M M') (hj : j < m) (hcs : ∀ c ∈ cs, c ≤ 122) : RmE p j M' := ⟨h.1.rg k hj, h.2.rg k hj hcs⟩
theorem cp_S : mS cpC ≤ 2600 := by decide +kernel
/-- the room of a compile that fails -/
theorem rmc_le (h : RmC n M M') : mS M' ≤ mS M + 13900 + 682 * n ∧ mN M' ≤ mN M + 1171 + 58 * n := by
  obtain ⟨τ, M0, M2, γ, cn, ps, tl, lc, ⟨lc', rc, cc, pb, ib, hQ⟩, h1, h2, h3, ⟨e1, e2⟩, h4, h5, h6⟩ := h
  obtain ⟨hCB, ⟨hSm, -⟩, -, -, -, -, ⟨r1, r2, -⟩, -, ⟨p1, p2, p3⟩⟩ := hQ
  have l1 : mL M2 lc' ≤ 64 + 2 * γ.2.2.1.length := hCB.2.1.2.2.2.2.2.2.1.2.2.2.2
  have l2 : mL M2 cc ≤ 16 + 2 * γ.2.2.2.2.2.1.length := hSm.2.2.2.2.2.2.1
  have c := cp_S
  have sq1 : ps.length * ps.length ≤ 40 * 40 := Nat.mul_le_mul (by omega) (by omega)
  have sq2 : γ.2.2.2.2.1.length * γ.2.2.2.2.1.length ≤ 55 * 55 := Nat.mul_le_mul h3 h3
  omega
theorem t0_tp (e1 : mI M 0 1 = 0) (e2 : mI M 29 1 = 0) : TpE M 0 (fun _ => 0) := ⟨⟨Nat.zero_le _, fun _ => ⟨show ¬ (0 : Int32) < 0 by decide, show ¬ (255 : Int32) < 0 by decide⟩, fun _ _ => rfl⟩, ⟨e1, fun i hi => absurd hi (Nat.not_lt_zero _)⟩, e2, fun i hi => absurd hi (Nat.not_lt_zero _)⟩
/-- both fail -/
theorem cm_bad {fl v : Int32} (h1 : IvC (Ag M) M ow ga gm ms gs mb gb t f) (hk : k ≤ 512) (h2 : Rom k t M ms) (cx : CRx t M M1 fl v) (e' : M' = wI (wI M1 0 1 0) 0 6 fl) (hZ : RGz ms.length M' M'') (F'' : Fix M'') (i1 : mI M'' 29 1 = 0) (i6 : mI M'' 29 6 = fl) : Inv (k + 1) M'' := by
  have big := h2.big hk
  have bg := h2.bg hk
  obtain ⟨r1, r2⟩ := rmc_le cx.2.2.2.2.2.1
  have t8 := h1.2.2.1.1.1
  have nM' : mN M' = mN M1 := by rw [e']; rfl
  have sM' : mS M' = mS M1 := by rw [e']; rfl
  have bg' : mN M' < mBig := by unfold mBig; omega
  have z5 : mAI M' 5 0 = 0 := by rw [e']; exact cx.2.2.2.2.2.2
  obtain ⟨hC', ke, fr'⟩ := h1.1.cf (by omega) cx e'
  have n132 := h1.1.1.1
  have row : ∀ c, 29 ≤ c → c < 132 → sameRow M M' c := fun c q1 q2 => fr'.2 c (by omega) (by omega)
  have hR' : RvS M' ms.length gs.length := h1.2.1.cl hC'.1 (row 29 (by decide) (by decide)).1 (fun c q1 q2 => (row c (by omega) (by omega)).2.2.2.1) (row 50 (by decide) (by decide)).2.2.2.2.1
  have hR'' : RvS M'' ms.length gs.length := hR'.rg hZ (fun c z => (cz_c c z).1) (by decide) (by decide) F''
  obtain ⟨hC'', ke''⟩ := hC'.rr bg' hZ.rff (fun c z => by
    rcases z with z | z
    · have := cz_c c z; omega
    · have := cz_j c z; omega)
  have i0 : mI M'' 0 = mI M' 0 := hZ.2.2.2.2.2.2.2.1 0 (by decide)
  have e01 : mI M' 0 1 = 0 := by rw [e', mI_wI, if_neg (by decide)]; exact mI_own _ _ _ _
  have e06 : mI M' 0 6 = fl := by rw [e']; exact mI_own _ _ _ _
  obtain ⟨q1, q2⟩ := SaM.sm (ms := ms) (M := M) (M' := M') ke.1
  obtain ⟨q3, q4⟩ := SaM.sm (ms := ms) (M := M') (M' := M'') ke''.1
  refine ⟨ow, ga, gm, ms, gs, mb, gb, 0, fun _ => 0, ⟨hC'', hR'', t0_tp (by rw [i0]; exact e01) i1, by rw [i0, e06, i6], fun q hq => ?_, fun j hj => ((h1.2.2.2.2.2.1 j hj).mv (fun c z1 z2 => (row c (by omega) (by omega)).2.2.2.1) (row 50 (by decide) (by decide)).2.2.2.2.1 (fun c z1 z2 => (row c (by omega) (by omega)).2.2.2.1)).rg hZ hj (fun c z => (cz_c c z).1.1), ?_, ?_⟩, ?_⟩
  · rw [ke''.2 q hq, ke.2 q hq, hZ.fA (c := 110) (by decide), (row 110 (by decide) (by decide)).2.2.2.1]
    exact h1.2.2.2.2.1 q hq
  · rw [hZ.fA (c := 5) (by decide)]; exact z5
  · have ag := h1.2.2.2.2.2.2.2
    have f1 := (cx.2.2.2.2.1.2 0 (by omega) (by omega)).1
    have e0 : ∀ f, f ≠ 1 → f ≠ 6 → mI M' 0 f = mI M 0 f := fun f z1 z6 => by rw [e', mI_wI, if_neg (fun y => z6 y.2), mI_wI, if_neg (fun y => z1 y.2), f1]
    unfold Ag at ag ⊢
    rw [i0, hZ.fI (f := 123) (by decide), hZ.fI (f := 124) (by decide), (row 29 (by decide) (by decide)).1, e0 7 (by decide) (by decide), e0 8 (by decide) (by decide)]
    exact ag
  · have a1 : mS M'' = mS M' := hZ.2.1
    have a2 : mN M'' = mN M' := hZ.1
    unfold Rom at h2 ⊢
    omega
end
section
variable {b : Nat → Int32} {n s m i root g0 lc rc g S0 y km gw : Nat} {τ : Td} {σ : PS} {γ : Gh} {ps : List Nat} {xs : Nat → Nat} {ro : List Int32} {Ro : List (Nat × Nat)} {Θ : TrT} {G : Nat → List Nat} {N : Nt} {M M0 M2 Mw M3 M4 M' : Mem} {mb mb' l : Nat}
/-- cells that the weaver leaves -/
theorem cm_z (F : Fix M) (hRd : CRd b n s τ M M0 M2 i σ ps) (k : NuF (fun c => c = mN M ∨ c = 0) M2 Mw) (wz : WvZ (mN M) lc rc Θ N Mw) (we : WvE (mN M) lc rc S0 ro Θ G N Ro g root ps xs Mw M3) (hF : ALF M3 M4 2 mb mb' l) (hmb : mb = mBig + 5 ∨ 132 ≤ mb) : Fix M4 ∧ mI M4 0 = mI Mw 0 ∧ mAI M4 5 0 = 0 ∧ mE M M3 := by
  obtain ⟨⟨-, ⟨lc0, rc0, cc, pb, ib, hQ⟩, -⟩, -, -, fr0, -⟩ := hRd
  have hLP := hQ.2.2.2.1
  have hFQ := hQ.2.2.2.2.2.1
  obtain ⟨-, -, -, -, -, ⟨pt, -⟩⟩ := hLP
  obtain ⟨Ψ1, Ψ2, P, zp, M1, -, -, -, ⟨lc', rc', b1, b2, hl, ⟨F1, T1, -⟩, -, -, -, -, hR, -⟩, -, -, nu, -⟩ := we
  have lrb := wz.1.2.1
  have n132 := F.1
  have F3 : Fix M3 := nu.fix F1
  have eN : mN Mw = mN M2 := k.1.1
  have nB : (132 : Nat) < mBig := by unfold mBig; omega
  have m132 : 132 ≤ mb := by
    rcases hmb with z | z
    · omega
    · exact z
  have r4 : ∀ c, c < 132 → c ≠ 2 → sameRow M3 M4 c := fun c c1 c2 => hF.1.2 c (by have := F3.1; omega) (fun z => by
    rcases z with z | ⟨z, -⟩
    · exact c2 z
    · omega)
  have E23 : mE M2 M3 := (k.e.tr hR.1.1).tr nu.e
  refine ⟨F3.of_fr (S := fun _ => False) hF.1.1 (fun e he => ?_) ?_, ?_, ?_, (fr0.1.tr hFQ.1.1).tr E23⟩
  · by_cases z : e.1 = 2
    · rw [z, hF.2.2.2.1 e.2.1 (tRS_l3 e he (Or.inl z))]
    · rw [(r4 e.1 (tRS_lt e he) z).2.2.1]
  · rw [(r4 19 (by decide) (by decide)).2.2.2.2.1]
  · rw [(r4 0 (by decide) (by decide)).1, nu.2.2 0 (fun ⟨j, hj, e⟩ => by have := (pt j hj).2.1; omega), (hR.1.2 0 (by have := hQ.lim.2.1; omega) (fun z => by unfold wvS at z; obtain ⟨l1, l2⟩ := lrb; omega)).1]
  · rw [(r4 5 (by decide) (by decide)).2.2.2.1, nu.2.1.2.2.1, T1.2.2.2.1 5 (by decide) (by decide)]
    exact T1.2.2.2.2.2
theorem cm_i0 (F : Fix M) (hRd : CRd b n s τ M M0 M2 i σ ps) : mI M2 0 = mI M 0 := by
  obtain ⟨⟨-, ⟨lc0, rc0, cc, pb, ib, hQ⟩, -⟩, -, -, fr0, -⟩ := hRd
  have hFQ := hQ.2.2.2.2.2.1
  have n132 := F.1
  have f1 : fr (fun a => 4 ≤ a ∧ a ≤ 28) M M0 := fr0.more (fun a _ z => by omega)
  have f2 := f1.tr hFQ.1 (fun a ha z => by omega)
  exact (f2.2 0 (by omega) (by omega)).1
/-- every part's node lies below the root -/
theorem hin_of {pn mk nu co : Nat → Int32} {S : RBs} {sl : List Nat} (hb : BuW τ m σ root γ pn S G mk nu co sl km g y M') (hE : RdE τ m σ root γ g0) (ft : FtN (chR (trS σ) γ.1) gw root) (hxs : ∀ j, j < npS σ → σ.2.1.1 j 1 = Int32.ofNat (xs j) ∧ 1 ≤ xs j ∧ xs j < (trS σ).1) : ∀ j, j < npS σ → xs j ∈ noL (chR (trS σ) γ.1) gw root := by
  have hT := hb.tw
  obtain ⟨-, -, -, ⟨p', hR⟩, -⟩ := hT
  have hx := hE.2.2.2.2.1
  have t4 := hE.2.2.2.1.1
  have bd : ∀ y, 1 ≤ y → y < (trS σ).1 → ∀ c ∈ γ.1 y, 1 ≤ c ∧ c < (trS σ).1 := fun y y1 y2 c hc => (hE.1.1.2.1 y y1 y2).2.2.1 c hc
  have ft2 : FtN γ.1 g root := RpN.ft g [] y root 0 p' hR
  have e1 := noL_ch2 (Θ := trS σ) (G := γ.1) bd g root hx
  have e2 := noL_2 ft (ft_R g root ft2)
  intro j hj
  obtain ⟨-, -, -, -, -, hPd, -⟩ := id hb
  obtain ⟨e, he, yi, xi, ⟨-, p2⟩, p3, nn, hd⟩ := hPd j (Nat.zero_le _) hj
  have ee : e = (y, root) := by simpa using he
  rw [ee] at hd
  have q := ds_no (W := woS τ m σ γ) (R := mkR τ m σ S G mk nu km) (y0 := y) (x0 := root) ft2 nn yi xi hd
  have q : xi ∈ noL γ.1 g root := q
  have b := noL_bd bd g root hx xi q
  obtain ⟨x1, x2, x3⟩ := hxs j hj
  have ex : xs j = xi := inj32 (by omega) (by omega) (x1.symm.trans p2)
  rw [ex, e2, e1]
  exact q
theorem rdm_ps {A : Nat → Nat → Int32} {B : Nat → Int64} {Zt : Nat → Nat → Int32} {r : Nat × Td × PS × Nat} (hS : Sto b n s) (e : rdM b n m A B Zt = .ok r) : PsOk m r.2.2.1 := by
  unfold rdM at e
  by_cases k0 : tK b n 0 = 0
  · rw [if_pos k0] at e; cases e
  rw [if_neg k0] at e
  obtain ⟨q, et, e⟩ := bind_ok e
  obtain ⟨p, eq, e⟩ := bind_ok e
  cases e
  have ok1 := td_ok hS 900 0 td0 (by have := hS.1; have := hS.2.1; omega) (Nat.zero_le _) k0
  rw [et] at ok1
  obtain ⟨o1, o2, o3, -⟩ := ok1
  unfold rdQ at eq
  obtain ⟨u, eu, ep⟩ := bind_ok eq
  have up : u = p := by
    by_cases z : tK b n u.1 = 1
    · rw [if_pos z] at ep; cases ep; rfl
    · rw [if_neg z] at ep; cases ep
  subst up
  have ok2 := rp_ok (τ := q.2) (m := m) hS 6000 0 [] q.1 (σI A B (cl0 Zt q.2)) 0 0 0 0 0 0 (by decide) o2 o3 σI_ok
  rw [eu] at ok2
  obtain ⟨-, -, -, ⟨-, pk, rw4, -⟩, -⟩ := ok2
  exact pk
end
