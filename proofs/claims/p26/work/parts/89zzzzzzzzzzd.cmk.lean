/-! both compile -/
section
variable {ow : Nat → Nat} {ga : Nat → Td × PS × CoT} {gm : Nat → Nat} {M M0 M1 M2 Mw M3 M4 M' M'' : Mem} {ms gs : List Nat} {mb mb' gb t h k : Nat} {f : Nat → Int32}
variable {s i root g0 lc rc g : Nat} {τ : Td} {σ : PS} {γ : Gh} {ps : List Nat} {xs : Nat → Nat}
set_option maxHeartbeats 1000000 in
theorem cm_ok (hk : k ≤ 512) (h1 : IvC (Ag M) M ow ga gm ms gs mb gb t f) (h2 : Rom k t M ms) (h4 : ms.length < 4) (er : rdM f t ms.length (mAI M) (mAJ M 72) (mAI M) = .ok (i, τ, σ, root)) (hS : Sto f t s) (hRd : CRd f t s τ M M0 M2 i σ ps) (late : ∀ j, j < ps.length → σ.2.1.1 j 2 = 0) (rE : RdE τ ms.length σ root γ g0) (rX : RdX τ σ root γ) (kk : NuF (fun c => c = mN M ∨ c = 0) M2 Mw) (kf : (∀ f, f ≠ 13 → f ≠ 16 → mI Mw (mN M) f = mI M2 (mN M) f) ∧ mI Mw (mN M) 13 = Int32.ofNat (trS σ).2.1 ∧ mI Mw 0 1 = 0 ∧ mI Mw 0 6 = 0 ∧ ∀ f, f ≠ 1 → f ≠ 6 → mI Mw 0 f = mI M2 0 f) (wz : WvZ (mN M) lc rc (trS σ) σ.2.1.2.2.1 Mw) (we : WvE (mN M) lc rc τ.1.length τ.2.1 (trS σ) (chR (trS σ) γ.1) σ.2.1.2.2.1 (m6R γ.2.2) g root ps xs Mw M3) (ft : FtN (chR (trS σ) γ.1) g root) (hxs : ∀ j, j < npS σ → σ.2.1.1 j 1 = Int32.ofNat (xs j) ∧ 1 ≤ xs j ∧ xs j < (trS σ).1) (A4 : ALp M4 2 mb' 3 (ms ++ [mN M])) (hF : ALF M3 M4 2 mb mb' ms.length) : E (h + 230) mdX11_compile [.ref 29] M4 (fun r2 M' => r2 = some (.int (Int32.ofNat ms.length)) ∧ Inv (k + 1) M') := by
  obtain ⟨hC, hR, ⟨⟨t8, hB, hz⟩, ⟨t2, t3⟩, t4, t5⟩, h6, hq, hm, h5⟩ := id h1
  have F := hC.1
  have n132 := F.1
  have big := h2.big hk
  have nB : (700000 : Nat) < mBig := by unfold mBig; omega
  have mb2 := hC.2.2.2.1.1
  have hmb1 : mb = mBig + 5 ∨ 132 ≤ mb := mb2.imp id (fun z => z.1)
  have hmb2 : mb = mBig + 5 ∨ mb < mN M := mb2.imp id (fun z => z.2.1)
  -- what the text's reading tells
  obtain ⟨tok, i_s⟩ := rdm_tok hS er
  have tok : phS ms.length σ ≤ 648 + 660 * i + 286 * σ.1.1 1 := tok
  have i_s : i ≤ s := i_s
  have s_t : s ≤ t := hS.1
  obtain ⟨p40, p24, pif, p16, -⟩ := rdm_ps hS er
  have p24 : σ.1.1 1 ≤ 24 := p24
  have p16 : σ.1.1 3 ≤ 16 := p16
  obtain ⟨lc0, rc0, cc0, pb0, ib0, hQ⟩ := id hRd.1.2.1
  have hv : HvT τ := ⟨hQ.1.1.2.1.2.2.2, hQ.1.1.2.1.1⟩
  have hps : ps.length = npS σ := hQ.2.2.2.2.2.2.2.2.1
  have hK : TkI τ ms.length σ := rdm_tk (r := (i, τ, σ, root)) hB hv er
  have hbe : BeO τ := rdm_be (r := (i, τ, σ, root)) hB er
  have hro : RoO τ := rdm_ro (r := (i, τ, σ, root)) er
  obtain ⟨c, c1, c2, c3, c4⟩ := C_rom hRd tok p24 (rE.2.1.trans hK.2) rE kk wz we
  -- the memory behind the class's compile
  obtain ⟨F4, i04, z54, hE3⟩ := cm_z F hRd kk wz we hF hmb1
  have f4 := cm_fr (ms := ms) F hRd kk wz we hF
  have row : ∀ c, 29 ≤ c → c < 132 → sameRow M M4 c := fun c q1 q2 => f4.2 c (by omega) (fun z => by
    rcases z with z | z | z | ⟨z, -⟩
    · omega
    · omega
    · omega
    · rcases hmb1 with y | y <;> omega)
  have n4 : mN M4 ≤ mN M3 + 1 := hF.2.2.2.2.2.1
  have s4 : mS M4 ≤ mS M3 + (10 + 2 * ms.length) := hF.2.2.2.2.2.2.1
  have bg4 : mN M4 < mBig := by omega
  have e18 : mI M4 29 18 = Int32.ofNat ms.length := by rw [(row 29 (by decide) (by decide)).1]; exact hR.1.2.1.1
  refine R_compd (h := h + 214) (A := mAI M) (B := mAJ M 72) (Zt := mAI M) hB hz F4 ⟨t8, by rw [(row 29 (by decide) (by decide)).1]; exact t4, fun j hj => by rw [(row 30 (by decide) (by decide)).2.2.2.1]; exact t5 j hj, hz⟩ e18 h4 (fun c q1 q2 _ => (row c (by omega) (by omega)).2.2.2.1) (row 72 (by decide) (by decide)).2.2.2.2.1 (EndRT.rc ?_)
  rw [er]
  intro s' M1r hS' hP hT e122 i1 hG
  refine ⟨γ, g0, rE, rX, fun _ pn S G mk nu co sl km g' y M2r M3r hBu kd e3 => ⟨?_, ?_⟩, fun j pl M3r hj _ nz _ _ _ => absurd (late j (by rw [hps]; exact hj)) nz⟩
  · rw [hG.fI (f := 18) (by decide), e18]
  have hP : RPs f t s' ms.length τ [] σ M1r i 0 := hP
  have hT : RTq ms.length τ M1r := hT
  have hBw : BuW τ ms.length σ root γ pn S G mk nu co sl km g' y M2r := hBu
  have e18r : mI M1r 29 18 = Int32.ofNat ms.length := by rw [hG.fI (f := 18) (by decide), e18]
  have e3 : M3r = wI M2r 29 18 (Int32.ofNat (ms.length + 1)) := by rw [e3, e18r, succ32]
  -- the class's module
  obtain ⟨P, zp, Ψ1, Ψ2, hl, lc', rc', cc, pb, ib, b1, b2, pz, hW, hMo, hMz, e17, ⟨l11, -⟩, e4, ein, ero, e16, ezp⟩ := mo_mk hRd rE rX hK kk ⟨kf.1, kf.2.1⟩ wz we ft (hin_of hBw rE ft hxs) hF hmb2
  have X810 : σ.2.2.1.length ≤ 810 := by
    have a1 := hP.2.2.2.2.2.2.1
    have a2 := hP.2.1
    omega
  have hifl : (ifS σ).length ≤ 80 := by
    have a1 := rE.2.1
    have pif : σ.1.1 2 ≤ npS σ := pif
    have p40 : npS σ ≤ 40 := p40
    omega
  have hMP : MoP M4 (mN M) τ P pz root := ⟨ein, fun p _ => ⟨by rw [ero 17 (by decide) (by decide)], by rw [ero 18 (by decide) (by decide)], by rw [ero 19 (by decide) (by decide)]⟩, e16⟩
  have Sro0 : τ.2.1.length = τ.1.length := hP.1.2.2.2.2.1.2.1
  obtain ⟨ow', ga', hag, hga, hC4, ke⟩ := hC.mo (n1 := 0) (C := CorW τ (mN M) (mkR τ ms.length σ S G mk nu km) Ψ2 P pz root) bg4 h4 f4 hE3 A4 hF F4 ⟨hW, hBw.tw, mkR_ok, hv.2, X810, hifl, hv.1, rE.2.2.2.1.2.1, hbe⟩ hMo hMz e17 hMP ⟨Sro0, hT.1.2.1, rfl⟩
  -- the reference
  have hZ : RGz ms.length M4 M2r := (RGc.z hG).tr (RGd.z kd)
  have kR : RfF (fun f => f ∈ [1, 5, 6, 7, 19, 29, 31, 32, 33, 53, 60] ∨ f = 18) (fun c => 31 ≤ c ∧ c ≤ 122 ∧ c ≠ 110) (fun c => 33 ≤ c ∧ c ≤ 72) M4 M3r := (RfF.mo hZ.rff (fun f z => Or.inl z) (fun c z => by have := cz_c c z; omega) (fun c z => cz_j c z)).tr (RfF.i (f := 18) (Or.inr rfl) e3)
  obtain ⟨hC3, ke3⟩ := hC4.rr bg4 kR (fun c z => by omega)
  have F1r : Fix M1r := hP.1.1
  have F2r : Fix M2r := hBu.1.1.1
  have hR4 : RvS M4 ms.length gs.length := hR.cl F4 (row 29 (by decide) (by decide)).1 (fun c q1 q2 => (row c (by omega) (by omega)).2.2.2.1) (row 50 (by decide) (by decide)).2.2.2.2.1
  have hR2 : RvS M2r ms.length gs.length := hR4.rg hZ (fun c z => (cz_c c z).1) (by decide) (by decide) F2r
  have hB3 := rb_mk hz hP hT hBw kd rE rX hK hro e3
  have r12 : ∀ c, c < 79 → mAI M2r c = mAI M1r c := fun c hc => kd.2.2.2.2.2.2.2.2.2.1 c (by simp only [csC, List.mem_cons, List.not_mem_nil, or_false]; omega)
  obtain ⟨⟨-, -, -, -, ⟨S16, Sro, -, V6⟩, E34, E36, -, E38, -⟩, -, -, i6r, -, ⟨-, -, hA, -, ⟨q54, q55, q56, q57⟩, -⟩, -⟩ := id hP
  obtain ⟨⟨t35, t4', -⟩, -⟩ := id hT
  have hR3 : RvS M3r (ms.length + 1) gs.length := hR2.mo h4 e3 hB3 rfl (by rw [kd.fA (c := 122) (by decide)]; exact e122) ⟨_, S16, by rw [r12 34 (by decide)]; exact E34⟩ ⟨_, t4', by rw [r12 35 (by decide)]; exact t35⟩ ⟨_, V6, by rw [r12 36 (by decide)]; exact E36⟩ ⟨_, p40, by rw [r12 54 (by decide)]; exact q54⟩ ⟨_, p24, by rw [r12 55 (by decide)]; exact q55⟩ ⟨σ.1.1 2, by have := rE.2.1; omega, by rw [r12 56 (by decide)]; exact q56⟩
  have a3 : mAI M3r = mAI M2r := by rw [e3]; rfl
  have lm : (ms ++ [mN M]).length = ms.length + 1 := by rw [List.length_append]; rfl
  have i03 : mI M3r 0 = mI Mw 0 := by rw [kR.2.2.1 0 (by decide), i04]
  have f3 : ∀ f, f = 1 ∨ f = 6 → mI M3r 29 f = mI M1r 29 f := fun f hf => by rw [e3, mI_wI, if_neg (by omega), kd.fI (f := f) (by simp)]
  have rE' : RmO τ σ ms.length M3r := by
    refine ⟨⟨by rw [a3, r12 34 (by decide)]; exact E34, S16, by rw [a3, r12 35 (by decide)]; exact t35, by rw [a3, r12 36 (by decide)]; exact E36⟩, ⟨by rw [a3, r12 54 (by decide)]; exact q54, p40, by rw [a3, r12 56 (by decide), q56]; show _ = Int32.ofNat (ifS σ).length; rw [rE.2.1], by rw [a3, r12 57 (by decide)]; exact q57, by rw [a3, r12 55 (by decide), q55]; exact congrArg Int32.ofNat (rdm_pa2 er).symm, by rw [a3, r12 38 (by decide)]; show bcV (omk τ.2.1) = Int32.ofNat (cntO (mAI M1r 38) (16 * ms.length) τ.1.length); rw [← Sro]; exact bc_omk (by rw [Sro]; exact S16) (fun i hi => E38 i (by rw [← Sro]; exact hi))⟩, fun j hj => ?_⟩
    have hj : j < npS σ := hj
    obtain ⟨-, -, tt, ⟨-, -, -, r4⟩, -⟩ := id rE
    have p40 : npS σ ≤ 40 := p40
    obtain ⟨k', K', p', pb', x', ys, ff, i2, pc, -⟩ := TT.prt g0 0 _ _ _ _ _ _ _ _ _ _ _ _ _ _ (by decide) tt (Nat.le_refl _) (by omega) j (Nat.zero_le _) hj
    obtain ⟨-, -, ⟨pl, w1, w2⟩, -⟩ := pc
    rw [a3, r12 59 (by decide), hA 59 (by decide) (by decide) (by decide)]
    exact w1.trans w2.symm
  have y410 : σ.2.2.2.length ≤ 410 := by
    have b8 : bt f t i ≤ t + 1 := bt_le hz
    have y8 := hP.2.2.2.2.2.2.2.1
    omega
  have hYR := hP.2.2.2.2.2.1.2.1
  have rx' : RxM (τ, σ, CorW τ (mN M) (mkR τ ms.length σ S G mk nu km) Ψ2 P pz root) ms.length M3r := ⟨mkR τ ms.length σ S G mk nu km, sl, inL τ.2.1, σ.2.2.1, npS σ, y, ⟨⟨rfl, hB3⟩, hBw.tw.2.2.1.1, by rw [a3]; exact hBu.2.2.1.2⟩, co_mt hW hBw hv.2 y410 hK (rdm_zp (r := (i, τ, σ, root)) er) hifl ezp hMo.2.2.2.2.2.2.1.1.2, ⟨⟨as_eq hW hv.2 (fun k hk => by rw [a3, r12 40 (by decide)]; exact hYR.2.2 k hk), ou_eq Sro (fun k hk => by rw [a3, r12 38 (by decide)]; exact E38 k (by rw [← Sro]; exact hk))⟩, rE'.1.1, S16⟩, ⟨⟨(inL τ.2.1).length, (ifS σ).length, rE'.1.2.2.1, rE'.2.1.2.2.1, rfl⟩, by show (inL τ.2.1).length + (ifS σ).length ≤ 1000; omega⟩, Or.inl (by rw [a3, kd.fA (c := 122) (by decide)]; exact e122)⟩
  obtain ⟨q1, q2⟩ := SaM.sm (ms := ms) (M := M) (M' := M4) ke.1
  obtain ⟨q3, q4⟩ := SaM.sm (ms := ms ++ [mN M]) (M := M4) (M' := M3r) ke3.1
  refine ⟨ow', ga', gm, ms ++ [mN M], gs, mb', gb, 0, fun _ => 0, ⟨hC3, by rw [lm]; exact hR3, t0_tp (by rw [i03]; exact kf.2.2.1) (by rw [f3 1 (Or.inl rfl)]; exact i1), by rw [i03, f3 6 (Or.inr rfl), kf.2.2.2.1]; exact i6r.symm, fun q hq' => ?_, fun j hj => ?_, ?_, ?_⟩, ?_⟩
  · rw [ke3.2 q hq', ke.2 q hq', kR.2.2.2.2.1 110 (by omega), (row 110 (by decide) (by decide)).2.2.2.1]
    exact hq q hq'
  · rw [lm] at hj
    by_cases z : j < ms.length
    · rw [getD_gl z, (hag _ (hC.2.2.2.2.2.2.2.1 j z).2.on.1).2]
      have a := ((hm j z).mv (fun c z1 z2 => (row c (by omega) (by omega)).2.2.2.1) (row 50 (by decide) (by decide)).2.2.2.2.1 (fun c z1 z2 => (row c (by omega) (by omega)).2.2.2.1)).rg hZ z (fun c z => (cz_c c z).1.1)
      exact a.mv (fun c _ _ => by rw [a3]) (by rw [e3]; rfl) (fun c _ _ => by rw [a3])
    · rw [show j = ms.length by omega, getD_gr, hga]
      exact ⟨rE', rx'⟩
  · rw [a3, hZ.fA (c := 5) (by decide)]; exact z54
  · have ag := h1.2.2.2.2.2.2.2
    have m20 := cm_i0 F hRd
    unfold Ag at ag ⊢
    rw [i03, kf.2.2.2.2 7 (by decide) (by decide), kf.2.2.2.2 8 (by decide) (by decide), m20, kR.2.2.2.1 123 (by decide), kR.2.2.2.1 124 (by decide), (row 29 (by decide) (by decide)).1]
    exact ag
  · have a1 : mS M3r = mS M4 := kR.1.2.1
    have a2 : mN M3r = mN M4 := kR.1.1
    have lt := hW.2.2.2.2.2.2.2.2.1
    have cl : c = Ψ2.1.length := inj32 (by omega) (by omega) (c1.symm.trans e4)
    obtain ⟨u1, u2⟩ := ln_at (n0 := mN M) (na := mN M + 12) hMo.2.2.2.2.2.1.1.1 hMo.2.2.2.2.2.1.1.2.1.1 rfl lt
    have v1 : lnS M4 (mN M) ≤ 2 * c := by rw [u1, cl]; split <;> omega
    have v2 : lnN M4 (mN M) ≤ 2 := by rw [u2]; split <;> omega
    have v3 : srS M4 (mN M) ≤ 3373 := by unfold srS; split <;> omega
    have v4 : srN M4 (mN M) ≤ 9 := by unfold srN; split <;> omega
    have w1 : smS M4 (ms ++ [mN M]) = smS M4 ms + (lnS M4 (mN M) + srS M4 (mN M) + 0) := smL_ap ms [mN M]
    have w2 : smN M4 (ms ++ [mN M]) = smN M4 ms + (lnN M4 (mN M) + srN M4 (mN M) + 0) := smL_ap ms [mN M]
    have cp := cp_S
    unfold Rom at h2 ⊢
    omega
theorem A_compile (hk : k ≤ 512) (I : Inv k M) : Pr (h + 230) mdX10_compile mdX11_compile [] M (Inv (k + 1)) := by
  obtain ⟨ow, ga, gm, ms, gs, mb, gb, t, f, h1, h2⟩ := id I
  obtain ⟨hC, hR, ⟨⟨t8, hB, hz⟩, ⟨t2, t3⟩, t4, t5⟩, h6, hq, hm, h5⟩ := id h1
  have F := hC.1
  have n132 := F.1
  have big := h2.big hk
  have hL := hC.2.1.1
  have l4 := hC.2.1.2
  have e18 := hR.1.2.1.1
  by_cases h4 : ms.length < 4
  · have mb2 : mb = mBig + 5 ∨ (132 ≤ mb ∧ mb < mN M) := hC.2.2.2.1.1.imp id (fun z => ⟨z.1, z.2.1⟩)
    have n4 : ¬ mI M 29 18 = 4 := by
      rw [e18]
      intro z
      have : ms.length = 4 := (z32 (k := 4) (by omega) (by decide)).mp z
      omega
    refine C_comp (h := h + 9) (m := ms.length) (A := mAI M) (B := mAJ M 72) hB hz F t8 t3 (by omega) h4 t2 hL mb2 h4 h5.1 ?_
    -- the reference behind a fault of the class
    have bad : ∀ {fl v : Int32} {M1 M' : Mem} {Q : Option Value → Mem → Prop}, CRx t M M1 fl v → M' = wI (wI M1 0 1 0) 0 6 fl → EndRT f t ms.length M' Q (rdM f t ms.length (mAI M) (mAJ M 72) (mAI M)) → E (h + 230) mdX11_compile [.ref 29] M' Q := by
      intro fl v M1 M' Q cx e' hE
      have bg := h2.bg hk
      obtain ⟨hC', ke, fr'⟩ := hC.cf (by omega) cx e'
      have row : ∀ c, 29 ≤ c → c < 132 → sameRow M M' c := fun c q1 q2 => fr'.2 c (by omega) (by omega)
      exact R_compd (h := h + 214) (A := mAI M) (B := mAJ M 72) (Zt := mAI M) hB hz hC'.1 ⟨t8, by rw [(row 29 (by decide) (by decide)).1]; exact t4, fun j hj => by rw [(row 30 (by decide) (by decide)).2.2.2.1]; exact t5 j hj, hz⟩ (by rw [(row 29 (by decide) (by decide)).1]; exact e18) h4 (fun c q1 q2 _ => (row c (by omega) (by omega)).2.2.2.1) (row 72 (by decide) (by decide)).2.2.2.2.1 (EndRT.rc hE)
    cases er : rdM f t ms.length (mAI M) (mAJ M 72) (mAI M) with
    | error y =>
      intro M1 M' cx e'
      refine ⟨_, rfl, bad cx e' ?_⟩
      rw [er]
      intro M'' TX i1 hG
      exact ⟨rfl, cm_bad h1 hk h2 cx e' (RGc.z hG) TX.1 i1 TX.2.1⟩
    | ok r =>
      obtain ⟨i, τ, σ, root⟩ := r
      intro s M0 M2 ps hS hRd
      refine ⟨fun late Mw M3 M4 lc rc γ g g0 xs mb' rE rX kk kf wz we ftx A4 hF => ⟨_, rfl, cm_ok hk h1 h2 h4 er hS hRd late rE rX kk kf wz we ftx.1 ftx.2 A4 hF⟩, fun j hj nz fst M1 M' cx e' => ⟨_, rfl, bad cx e' ?_⟩⟩
      rw [er]
      intro s' M1r hS' hP hT e122 i1 hG
      obtain ⟨lc0, rc0, cc0, pb0, ib0, hQ⟩ := id hRd.1.2.1
      have hv : HvT τ := ⟨hQ.1.1.2.1.2.2.2, hQ.1.1.2.1.1⟩
      have hps : ps.length = npS σ := hQ.2.2.2.2.2.2.2.2.1
      obtain ⟨γ, g0, rE, rX⟩ := rdm_all (r := (i, τ, σ, root)) hB hS h4 hv h5.1 er
      refine ⟨γ, g0, rE, rX, fun late => absurd (late j (by show j < npS σ; omega)) nz, fun j' pl M3r hj' fst' nz' ep TX kd => ?_⟩
      have hj' : j' < npS σ := hj'
      have jj : j = j' := by
        rcases Nat.lt_trichotomy j j' with q | q | q
        · exact absurd (fst' j q) nz
        · exact q
        · exact absurd (fst j' q) nz'
      subst jj
      have ep : σ.2.1.1 j 0 = Int32.ofNat pl := ep
      refine ⟨by show some (Value.int (-10 - Int32.ofNat pl)) = some (Value.int (-10 - σ.2.1.1 j 0)); rw [ep], cm_bad h1 hk h2 cx e' ((RGc.z hG).tr (RGe.z kd)) TX.1 ?_ TX.2.1⟩
      rw [kd.fI (f := 1) (by decide)]; exact i1
  · have e4 : ms.length = 4 := by omega
    refine KX10_compile (h := h + 229) ?_
    unfold DX10_compile_0
    refine ⟨ok0 F, 2, rf0_2 F, hL.1, S_alSize (h := h + 228) hL (fun _ => ⟨_, rfl, fun z => absurd z (by rw [e4]; decide), fun _ => ⟨_, rfl, ?_⟩⟩)⟩
    refine KX11_compile (h := h + 229) ?_
    unfold DX11_compile_0
    exact ⟨ok29 F, fun z => absurd (by rw [e18, e4]; rfl) z, fun _ => ⟨rfl, I.up⟩⟩
end
