/-! the class's governor, told, module, part -/
def ush (x : Int32) (k : Int32) : Int32 := ((x : Int32).toUInt32 >>> ((k : Int32).toUInt32 &&& Int32.toUInt32 31)).toInt32
def bc1 (x : Int32) : Int32 := x - (ush x 1 &&& 1431655765)
def bc2 (x : Int32) : Int32 := (bc1 x &&& 858993459) + (ush (bc1 x) 2 &&& 858993459)
def bc3 (x : Int32) : Int32 := (bc2 x + ush (bc2 x) 4) &&& 252645135
def bc4 (x : Int32) : Int32 := bc3 x + ush (bc3 x) 8
def bcV (x : Int32) : Int32 := (bc4 x + ush (bc4 x) 16) &&& 63
/-- what module() tells -/
def mcX (τ : Td) (σ : PS) (w : Int32) : Int32 := if w = 0 then Int32.ofNat τ.1.length else if w = 1 then Int32.ofNat (inL τ.2.1).length else if w = 2 then bcV (omk τ.2.1) else if w = 3 then Int32.ofNat τ.2.2.2.1.length else if w = 4 then Int32.ofNat (npS σ) else if w = 5 then Int32.ofNat (trS σ).2.1 else if w = 6 then Int32.ofNat (ifS σ).length else if w = 7 then Int32.ofNat (σ.1.1 3) else -1
section
variable {ow : Nat → Nat} {ga : Nat → Td × PS} {gm : Nat → Nat} {M M' : Mem} {ms gs : List Nat} {mb gb h n0 : Nat} {Q : Option Value → Mem → Prop} {x y z w : Int32} {τ : Td} {σ : PS}
theorem S_bitC (K : Q (some (.int (bcV x))) M) : E (h + 1) mdJ6_bitCount_0f7a4 [.int x] M Q := by
  refine KJ6_bitCount_0f7a4 ?_
  unfold DJ6_bitCount_0f7a4_0
  unfold bcV bc4 bc3 bc2 bc1 ush at K
  exact K
theorem CmX.f6 (hX : CmX ow M n0 τ σ) : (mI M n0 9 = Int32.ofNat τ.1.length ∧ mI M n0 10 = Int32.ofNat (inL τ.2.1).length ∧ mI M n0 11 = omk τ.2.1 ∧ mI M n0 12 = Int32.ofNat τ.2.2.2.1.length ∧ mI M n0 13 = Int32.ofNat (trS σ).2.1 ∧ mI M n0 14 = Int32.ofNat (ifS σ).length ∧ mI M n0 15 = Int32.ofNat (σ.1.1 3)) ∧ (∃ be, mR M n0 5 = some be ∧ ok M be 21 ∧ mL M be = 6 ∧ ∀ k, k < τ.2.2.2.1.length → InG (mAI M be k).toInt64) ∧ ∃ pb ps, mR M n0 6 = some (n0 + 7) ∧ ALp M (n0 + 7) pb 5 ps ∧ ps.length = npS σ ∧ npS σ ≤ 40 ∧ ∀ j, j < ps.length → mI M (ps.getD j 0) 0 = σ.2.1.1 j 0 := by
  obtain ⟨m, root, γ, g0, gw, Z0, P, zp, Ψ1, Ψ2, R, zn, fn, y0, q0, hl, lc, rc, cc, pb, ib, b1, b2, ya, na, pz, n1, ps, hp, hM, hz, -⟩ := hX
  obtain ⟨hP, ⟨p1, p2, p3, p4⟩, hpt, -, -, -, -, -, ⟨g1, g2, g3, g4, g5, g6, g7, g8, g9, g10, -, -⟩⟩ := hM
  exact ⟨⟨g1, hP.1.2.2.2.2, g2, g3, g4, g5, g6⟩, ⟨n0 + 6, g7, g8, g9, fun k hk => by rw [g10 k hk]; exact hp.2.2.2.2.2.2.2.2.inG k⟩, pb, ps, p1, p2, p3, p4, fun j hj => (hpt j hj).2⟩
theorem G_told (hC : CvS ow ga gm M ms gs mb gb) (K : ∀ r : Int32, Q (some (.int r)) M) : E (h + 5) mdX10_told [.ref 0, .int x, .int y] M Q := by
  refine KX10_told (h := h + 4) ?_
  unfold DX10_told_0
  refine ⟨ok0 hC.1, S_govAt (h := h) hC (fun _ _ => ⟨none, rfl, fun _ => K _, fun b e => absurd e (by simp)⟩) (fun i hi _ _ => ⟨some _, rfl, fun e => absurd e (by simp), fun b e => ?_⟩)⟩
  cases e
  obtain ⟨j, nw, nx, kp, gn, wr, ks, hj, -, -, hv, hr, -, -, hm⟩ := hC.gv hi
  have o := hv.1.1
  have vv : ∀ k, k < 26 → vp_in (Int32.ofNat k) (mL M nw) := fun k hk => by rw [hv.2.1.1.2]; exact vp_of hk (by decide)
  exact ⟨fun _ => ⟨o, nw, hv.1.2.2.1, hv.2.1.1.1, vv 2 (by decide), K _⟩, fun _ => ⟨o, nw, hv.1.2.2.1, hv.2.1.1.1, vv 0 (by decide), S_bitC (h := h + 3) (fun _ => ⟨_, rfl, K _⟩)⟩, fun _ => ⟨o, nw, hv.1.2.2.1, hv.2.1.1.1, vv 3 (by decide), K _⟩, fun _ => ⟨o, K _⟩, fun _ => ⟨o, K _⟩, fun _ => ⟨o, K _⟩, fun _ => ⟨o, K _⟩, fun _ => ⟨o, K _⟩, fun _ => K _⟩
theorem G_module (hC : CvS ow ga gm M ms gs mb gb) (K0 : (∀ i, i < ms.length → x ≠ Int32.ofNat i) → Q (some (.int (-1))) M) (K : ∀ i, i < ms.length → x = Int32.ofNat i → Q (some (.int (mcX (ga (ms.getD i 0)).1 (ga (ms.getD i 0)).2 w))) M) : E (h + 5) mdX10_module [.ref 0, .int x, .int w] M Q := by
  refine KX10_module (h := h + 4) ?_
  unfold DX10_module_0
  refine ⟨ok0 hC.1, S_modAt (h := h) hC (fun ne _ => ⟨none, rfl, fun _ => K0 ne, fun b e => absurd e (by simp)⟩) (fun i hi ex _ => ⟨some _, rfl, fun e => absurd e (by simp), fun b e => ?_⟩)⟩
  cases e
  have hm := (hC.2.2.2.2.2.2.2.1 i hi).2
  have o := hm.on
  obtain ⟨⟨g9, g10, g11, g12, g13, g14, g15⟩, -, pb, ps, p1, p2, p3, p4, -⟩ := hm.f6
  have KK : ∀ v, mcX (ga (ms.getD i 0)).1 (ga (ms.getD i 0)).2 w = v → Q (some (.int v)) M := fun v e2 => by rw [← e2]; exact K i hi ex
  have out : ((w : Int32).toInt < 0 ∨ 7 < (w : Int32).toInt) → mcX (ga (ms.getD i 0)).1 (ga (ms.getD i 0)).2 w = -1 := fun hw => by
    unfold mcX
    have ne : ∀ k : Int32, 0 ≤ k.toInt → k.toInt ≤ 7 → w ≠ k := fun k k1 k2 z => by rw [z] at hw; omega
    rw [if_neg (ne 0 (by decide) (by decide)), if_neg (ne 1 (by decide) (by decide)), if_neg (ne 2 (by decide) (by decide)), if_neg (ne 3 (by decide) (by decide)), if_neg (ne 4 (by decide) (by decide)), if_neg (ne 5 (by decide) (by decide)), if_neg (ne 6 (by decide) (by decide)), if_neg (ne 7 (by decide) (by decide))]
  refine ⟨fun z => ⟨o, KK _ (by rw [z, g9]; rfl)⟩, fun z => ⟨o, KK _ (by rw [z, g10]; rfl)⟩, fun z => ⟨o, S_bitC (h := h + 3) (fun _ => ⟨_, rfl, KK _ (by rw [z, g11]; rfl)⟩)⟩, fun z => ⟨o, KK _ (by rw [z, g12]; rfl)⟩, fun z => ⟨o, _, p1, p2.1, S_alSize (h := h + 3) p2 (fun _ => ⟨_, rfl, KK _ (by rw [z, p3]; rfl)⟩)⟩, fun z => ⟨o, KK _ (by rw [z, g13]; rfl)⟩, fun z => ⟨o, KK _ (by rw [z, g14]; rfl)⟩, fun z => ⟨o, KK _ (by rw [z, g15]; rfl)⟩, fun z => KK _ (out z)⟩
theorem G_part (hC : CvS ow ga gm M ms gs mb gb) (K0 : (∀ i j, i < ms.length → x = Int32.ofNat i → j < npS (ga (ms.getD i 0)).2 → y ≠ Int32.ofNat j) → Q (some (.int (-1))) M) (K : ∀ i j, i < ms.length → x = Int32.ofNat i → j < npS (ga (ms.getD i 0)).2 → y = Int32.ofNat j → Q (some (.int ((ga (ms.getD i 0)).2.2.1.1 j 0))) M) : E (h + 5) mdX10_part [.ref 0, .int x, .int y] M Q := by
  refine KX10_part (h := h + 4) ?_
  unfold DX10_part_0 DX10_part_18
  have m4 := hC.2.1.2
  refine ⟨ok0 hC.1, S_modAt (h := h) hC (fun ne _ => ⟨none, rfl, fun _ => K0 (fun i j hi e => absurd e (ne i hi)), fun b e => absurd e (by simp)⟩) (fun i hi ex _ => ⟨some _, rfl, fun e => absurd e (by simp), fun b e => ?_⟩)⟩
  cases e
  have hm := (hC.2.2.2.2.2.2.2.1 i hi).2
  have o := hm.on
  obtain ⟨-, -, pb, ps, p1, p2, p3, p4, p5⟩ := hm.f6
  refine ⟨o, S_hasPt (h := h + 2) o p1 p2 (by omega) (fun q hq eq _ => ⟨1, rfl, fun _ => ⟨_, p1, p2.1, ?_⟩, fun z => absurd z (by decide)⟩) (fun ne _ => ⟨0, rfl, fun z => absurd rfl z, fun _ => K0 (fun i2 j hi2 e2 hj e3 => ?_)⟩)⟩
  · rw [eq]
    refine S_get (h := h + 1) p2 hq (fun _ => ⟨_, rfl, ?_, ?_⟩)
    · have := p2.2.2.2.1 (ps.getD q 0) (by rw [List.getD_eq_getElem?_getD, List.getElem?_eq_getElem hq]; exact List.getElem_mem hq)
      rcases this with y | y
      · exact y
      · exact absurd y.1 (by decide)
    · rw [p5 q hq]
      exact K i q hi ex (by omega) eq
  · have : i2 = i := by
      rw [e2] at ex
      exact inj32 (by omega) (by omega) ex
    subst this
    exact ne j (by omega) e3
theorem tRS_l3 : ∀ e ∈ tR ++ tS, e.1 = 2 ∨ e.1 = 3 → e.2.1 ≠ 1 := by decide +kernel
theorem getD_gl {l : List Nat} {v i : Nat} (h : i < l.length) : (l ++ [v]).getD i 0 = l.getD i 0 := by rw [List.getD_eq_getElem?_getD, List.getD_eq_getElem?_getD, List.getElem?_append_left h]
theorem getD_gr {l : List Nat} {v : Nat} : (l ++ [v]).getD l.length 0 = v := by rw [List.getD_eq_getElem?_getD, List.getElem?_append_right (Nat.le_refl _), Nat.sub_self]; rfl
/-- what a new governor leaves -/
def GnP (ow ow' : Nat → Nat) (gm gm' : Nat → Nat) (ms gs : List Nat) (c g : Nat) (M M' : Mem) : Prop := (∀ a, a < mN M → ow' a = ow a) ∧ (∀ q, q < gs.length → gm' (gs.getD q 0) = gm (gs.getD q 0)) ∧ gm' g = c ∧ fr (fun a => a = 3 ∨ 132 ≤ a) M M' ∧ (mN M' ≤ mN M + 10 ∧ mS M' ≤ mS M + 300) ∧ (∀ j, j < ms.length → lnS M' (ms.getD j 0) = lnS M (ms.getD j 0) ∧ lnN M' (ms.getD j 0) = lnN M (ms.getD j 0) ∧ mR M' (ms.getD j 0) 17 = mR M (ms.getD j 0) 17) ∧ mI M' g 5 = 0 ∧ ∀ q, q < gs.length → mI M' (gs.getD q 0) 5 = mI M (gs.getD q 0) 5
theorem G_governor (hC : CvS ow ga gm M ms gs mb gb) (hb : mN M + 20 < mBig) (K0 : (∀ i, i < ms.length → x ≠ Int32.ofNat i) → Q (some (.int (-1))) M) (K8 : ∀ i, i < ms.length → x = Int32.ofNat i → gs.length = 8 → Q (some (.int (-3))) M) (K : ∀ i g M' ow' gm' gb', i < ms.length → x = Int32.ofNat i → gs.length < 8 → CvS ow' ga gm' M' ms (gs ++ [g]) mb gb' → GnP ow ow' gm gm' ms gs (ms.getD i 0) g M M' → Q (some (.int (Int32.ofNat gs.length))) M') : E (h + 7) mdX10_governor [.ref 0, .int x] M Q := by
  have g8 := hC.2.2.1.2
  have F := hC.1
  refine KX10_governor (h := h + 6) ?_
  unfold DX10_governor_0
  refine ⟨ok0 F, S_modAt (h := h + 2) hC (fun ne _ => ⟨none, rfl, fun _ => K0 ne, fun b e => absurd e (by simp)⟩) (fun i hi ex _ => ⟨some _, rfl, fun e => absurd e (by simp), fun b e => ?_⟩)⟩
  cases e
  have hA3 := hC.2.2.1.1
  refine ⟨3, rf0_3 F, hA3.1, S_alSize (h := h + 5) hA3 (fun _ => ⟨_, rfl, fun z8 => ⟨3, rf0_3 F, fun q11 M10 eq11 e10 => ?_⟩, fun z8 => K8 i hi ex ?_⟩)⟩
  rotate_left
  · rcases Nat.lt_or_ge gs.length 8 with y | y
    · exact absurd ((ltn32 (a := gs.length) (b := 8) (by omega) (by decide)).mpr y) z8
    · omega
  have lt8 : gs.length < 8 := (ltn32 (a := gs.length) (b := 8) (by omega) (by decide)).mp z8
  have hm := (hC.2.2.2.2.2.2.2.1 i hi).2
  obtain ⟨⟨-, -, -, g12, -⟩, ⟨be, be1, be2, be3, be4⟩, pb, ps, p1, p2, p3, p4, -⟩ := hm.f6
  obtain ⟨I, pb', ps', -, -, ⟨-, hV⟩, -⟩ := hm.fl
  have f10 : fr (fun _ => False) M M10 := by rw [e10]; exact fr_nwO
  have r10 : ∀ {a q : Nat}, ok M a q → sameRow M M10 a := fun o => f10.2 _ o.1 (fun z => z)
  have og : ok M10 q11 4 := by rw [eq11, e10]; exact ⟨Nat.lt_succ_self _, va_up_self _ _ _⟩
  have n10 : mN M10 = mN M + 1 := by rw [e10]; rfl
  have s10 : mS M10 = mS M + 14 := by rw [e10]; rfl
  have z5 : mI M10 q11 5 = 0 := by rw [eq11, e10]; exact congrFun (va_up_self _ _ _) 5
  have rc := r10 hm.on
  generalize hc : ms.getD i 0 = c at hm g12 be1 p1 p2 rc be4 hV p3 p4
  refine S_gini (h := h + 4) (nP := npS (ga c).2) og (ok_E hm.on f10.1) z5 (by rw [rc.2.2.1]; exact p1) (alp_fr3 p2 f10 (fun z => z) (fun _ z => z)) p3 p4 (by rw [rc.1]; exact g12) hV (by rw [rc.2.2.1]; exact be1) (ok_E be2 f10.1) (by rw [(f10.1.2.2 _ be2.1).2]; exact be3) (fun k hk => by rw [(r10 be2).2.2.2.1]; exact be4 k hk) (fun M12 nw nx kp gn wr ks f12 hv hr hlo ⟨n12, s12⟩ k12 _ => ⟨rfl, ?_⟩)
  have f012 : fr (fun _ => False) M M12 := (f10.more (fun a _ z => z)).tr f12 (fun a ha z => by omega)
  have A12 : ALp M12 3 gb 4 gs := alp_fr3 hA3 f012 (fun z => z) (fun _ z => z)
  have og12 := hv.1.1
  refine ⟨A12.1, S_add (h := h) A12 (by omega) (Or.inr (Or.inr (Or.inl rfl))) (Or.inl og12) (fun M14 gb' A14 F14 _ => ⟨_, rfl, 3, ?_, A14.1, S_alSize (h := h + 5) A14 (fun _ => ⟨_, rfl, ?_⟩)⟩)⟩
  · have F12 : Fix M12 := F.of_fr (S := fun _ => False) f012.1 (fun e he => by rw [(f012.2 e.1 (by have := tRS_lt e he; have := F.1; omega) (fun z => z)).2.2.1]) (f012.2 19 (by have := F.1; omega) (fun z => z)).2.2.2.2.1
    rw [(F14.1.2 0 (by have := F12.1; omega) (by
      rintro (y | ⟨-, y⟩)
      · exact absurd y (by decide)
      · rw [(ok0 F12).2] at y; exact absurd y (by decide))).2.2.1]
    exact rf0_3 F12
  · have e2 : Int32.ofNat (gs ++ [q11]).length - 1 = Int32.ofNat gs.length := by
      rw [List.length_append]
      show Int32.ofNat (gs.length + 1) - 1 = _
      rw [← succ32, Int32.add_sub_cancel]
    rw [e2]
    have qN : q11 = mN M := eq11
    have nM12 : mN M12 = mN M + 9 := by omega
    obtain ⟨-, ⟨A2, m4⟩, -, ⟨c1, c2⟩, d0, i1, i2, hms, hgs⟩ := id hC
    -- the frame
    have f14 : fr (fun a => a = 3 ∨ (a = gb ∧ mK M a = 24)) M M14 := (f012.more (fun a _ z => z.elim)).tr F14.1 (fun a ha z => z.imp id (fun y => ⟨y.1, by rw [← (f012.1.2.2 a ha).1]; exact y.2⟩))
    have own3 : ∀ a, (a = 3 ∨ (a = gb ∧ mK M a = 24)) → a < mN M → ow a < 132 ∧ mK M a ≠ 0 := fun a z ha => by
      rcases z with z | ⟨z, zk⟩
      · rw [z]; exact ⟨by rw [d0 3 (by decide)]; decide, by rw [(ok3 F).2]; decide⟩
      · refine ⟨?_, by rw [zk]; decide⟩
        rw [z] at ha ⊢
        rcases c2 with y | y
        · omega
        · rw [y.2.2]; decide
    obtain ⟨ow', how'⟩ : ∃ ow' : Nat → Nat, ow' = fun a => if a < mN M then ow a else if a = mN M12 then 3 else q11 := ⟨_, rfl⟩
    have hag : ∀ a, a < mN M → ow' a = ow a := fun a ha => by rw [how']; exact if_pos ha
    have hn1 : ow' (mN M12) = 3 := by rw [how']; show (if mN M12 < mN M then _ else if mN M12 = mN M12 then 3 else q11) = 3; rw [if_neg (by omega), if_pos rfl]
    have hn2 : ∀ a, mN M ≤ a → a < mN M12 → ow' a = q11 := fun a h1 h2 => by rw [how']; show (if a < mN M then _ else if a = mN M12 then 3 else q11) = q11; rw [if_neg (by omega), if_neg (by omega)]
    obtain ⟨gm', hgm'⟩ : ∃ gm' : Nat → Nat, gm' = fun a => if a = q11 then c else gm a := ⟨_, rfl⟩
    have gmq : gm' q11 = c := by rw [hgm']; exact if_pos rfl
    have gmo : ∀ a, a ≠ q11 → gm' a = gm a := fun a ha => by rw [hgm']; exact if_neg ha
    clear how' hgm'
    have golt : ∀ q, q < gs.length → gs.getD q 0 < mN M := fun q hq => by
      obtain ⟨_, _, _, _, _, _, _, _, _, _, hvq, _⟩ := hC.gv hq
      exact hvq.1.1.1
    have okg : ∀ q, q < gs.length → ok M (gs.getD q 0) 4 := fun q hq => by
      obtain ⟨_, _, _, _, _, _, _, _, _, _, hvq, _⟩ := hC.gv hq
      exact hvq.1.1
    have fS : fr (fun a => (a = 3 ∨ (a = gb ∧ mK M a = 24)) ∧ a < mN M) M M14 := ⟨f14.1, fun a ha hn => f14.2 a ha (fun z => hn ⟨z, ha⟩)⟩
    have nS : ∀ {v : Nat}, 132 ≤ v → ∀ a, ((a = 3 ∨ (a = gb ∧ mK M a = 24)) ∧ a < mN M) → ow a ≠ v := fun {v} hv2 a z e => by have := (own3 a z.1 z.2).1; omega
    have nS' : ∀ {v : Nat}, 132 ≤ v → ∀ a, ((a = 3 ∨ (a = gb ∧ mK M a = 24)) ∧ a < mN M) → ow' a ≠ v := fun {v} hv2 a z => by rw [hag a z.2]; exact nS hv2 a z
    have k0 : ∀ a, ((a = 3 ∨ (a = gb ∧ mK M a = 24)) ∧ a < mN M) → mK M a ≠ 0 := fun a z => (own3 a z.1 z.2).2
    have F14' : Fix M14 := by
      refine F.of_fr (S := fun _ => False) f14.1 (fun e he => ?_) ?_
      · by_cases y : e.1 = 3
        · rw [y, F14.2.2.2.1 e.2.1 (tRS_l3 e he (Or.inr y)), (f012.2 3 (by have := F.1; omega) (fun z => z)).2.2.1]
        · have lt := tRS_lt e he
          rw [(f14.2 e.1 (by have := F.1; omega) (fun z => z.elim y (fun w2 => by
            rcases c2 with q | q
            · have := w2.1; have := F.1; omega
            · have := w2.1; omega))).2.2.1]
      · exact (f14.2 19 (by have := F.1; omega) (fun z => z.elim (fun y => absurd y (by decide)) (fun w2 => by
          rcases c2 with q | q
          · have := w2.1; have := F.1; omega
          · have := w2.1; omega))).2.2.2.2.1
    have gbx : gb' = mBig + 5 ∨ (132 ≤ gb' ∧ gb' < mN M14 ∧ ow' gb' = 3) := by
      have lt : gb' = mBig + 5 ∨ gb' < mN M14 := by
        rcases A14.2.2.2.2.2 with ⟨e, -⟩ | ⟨o, -⟩
        · exact Or.inl e
        · exact Or.inr o.1
      rcases lt with y | y
      · exact Or.inl y
      · rcases F14.2.2.2.2.1 with e | e
        · rw [e]
          rcases c2 with q | q
          · exact Or.inl q
          · exact Or.inr ⟨q.1, by have := f14.1.1; omega, by rw [hag _ q.2.1]; exact q.2.2⟩
        · rw [e]
          exact Or.inr ⟨by have := F.1; omega, by rw [← e]; exact y, hn1⟩
    have oC : ∀ {a : Nat}, ok M12 a 21 ∨ ok M12 a 25 ∨ ok M12 a 4 → ¬ (a = 3 ∨ (a = gb ∧ mK M12 a = 24)) := fun {a} o z => by
      rcases z with z | ⟨-, zk⟩
      · have k3 : mK M12 3 = 1 := (ok_E (ok3 F) f012.1).2
        rw [z] at o
        rcases o with o | o | o <;> exact absurd (o.2.symm.trans k3) (by decide)
      · rcases o with o | o | o <;> exact absurd (o.2.symm.trans zk) (by decide)
    have okr : ∀ r, grR nw nx wr gn ks r ∨ r = kp → ok M12 r 21 ∨ ok M12 r 25 ∨ ok M12 r 4 := fun r hr2 => by
      rcases hr2 with (y | y | y | y | ⟨q, hq, y⟩) | y <;> rw [y]
      · exact Or.inl hv.2.1.1.1
      · exact Or.inl hv.2.1.2.1.1
      · exact Or.inl hv.2.1.2.2.2.1
      · exact Or.inl hv.2.1.2.2.1.1
      · exact Or.inl (hv.2.2.1.2.2 q hq).2.1
      · exact Or.inr (Or.inl hv.2.2.1.1)
    obtain ⟨hv14, hr14⟩ := gv_fr hv hr F14.1 (oC (Or.inr (Or.inr og12))) (fun r hr2 => oC (okr r hr2))
    have new : GoX ow' M14 q11 c (npS (ga c).2) := by
      refine ⟨nw, nx, kp, gn, wr, ks, hv14, hr14, hn2 _ (by omega) (by omega), fun r hr2 => hn2 r (by have := hlo r hr2; omega) ?_⟩
      rcases okr r hr2 with o | o | o <;> exact o.1
    refine K i q11 M14 ow' gm' gb' hi ex lt8 ⟨F14', ⟨alp_fr3 A2 f14 (fun z => ?_) (fun o z => ?_), m4⟩, ⟨A14, by rw [List.length_append]; exact lt8⟩, ⟨c1.imp id (fun y => ⟨y.1, Nat.lt_of_lt_of_le y.2.1 f14.1.1, by rw [hag _ y.2.1]; exact y.2.2⟩), gbx⟩, fun a ha => by rw [hag a (by have := F.1; omega)]; exact d0 a ha, i1, fun p q hp hq e => ?_, fun q hq => ⟨(hms q hq).1, ((hms q hq).2.own hag).out (by omega) fS (nS' (hms q hq).1) k0⟩, fun q hq => ?_⟩ ⟨hag, fun q hq => gmo _ (fun e => by have := golt q hq; omega), by rw [gmq, hc], f14.more (fun a ha z => ?_), ⟨by have := F14.2.2.2.2.2.1; omega, by have := F14.2.2.2.2.2.2.1; omega⟩, fun q hq => ?_, ?_, fun q hq => ?_⟩
    · rcases z with z | ⟨z, -⟩
      · exact absurd z (by decide)
      · rcases c2 with y | y
        · rw [← z] at y; exact absurd y (by decide)
        · omega
    · rcases z with z | ⟨z, -⟩
      · rw [z] at o; exact absurd (o.2.symm.trans (ok3 F).2) (by decide)
      · have := o.1
        rcases c1 with y | y
        · omega
        · rcases c2 with y2 | y2
          · omega
          · rw [z] at y; rw [y.2.2] at y2; exact absurd y2.2.2 (by decide)
    · rw [List.length_append] at hp hq
      have hp : p < gs.length + 1 := hp
      have hq : q < gs.length + 1 := hq
      by_cases p1' : p < gs.length
      · rw [getD_gl p1'] at e
        by_cases q1 : q < gs.length
        · rw [getD_gl q1] at e; exact i2 p q p1' q1 e
        · rw [show q = gs.length by omega, getD_gr] at e
          have := golt p p1'
          omega
      · rw [show p = gs.length by omega, getD_gr] at e
        by_cases q1 : q < gs.length
        · rw [getD_gl q1] at e
          have := golt q q1
          omega
        · omega
    · rw [List.length_append] at hq
      have hq : q < gs.length + 1 := hq
      by_cases q1 : q < gs.length
      · rw [getD_gl q1]
        obtain ⟨h1, j, h2, h3, h4⟩ := hgs q q1
        exact ⟨h1, j, h2, by rw [gmo _ (fun e => by have := golt q q1; omega)]; exact h3, (h4.own hag).out fS (nS' h1)⟩
      · rw [show q = gs.length by omega, getD_gr]
        refine ⟨by have := F.1; omega, i, hi, by rw [gmq, hc], ?_⟩
        rw [hc]
        exact new
    · rcases z with z | ⟨z, -⟩
      · exact Or.inl z
      · rcases c2 with y | y
        · omega
        · exact Or.inr (by omega)
    · obtain ⟨a1, a2, a3⟩ := ln_fr (hms q hq).2 fS (nS (hms q hq).1)
      exact ⟨a1, a2, by rw [a3]⟩
    · rw [(F14.1.2 q11 og12.1 (oC (Or.inr (Or.inr og12)))).1]; exact k12
    · have o := okg q hq
      rw [(f14.2 _ o.1 (fun z => z.elim (fun y => by rw [y] at o; exact absurd (o.2.symm.trans (ok3 F).2) (by decide)) (fun y => by rw [o.2] at y; exact absurd y.2 (by decide)))).1]
end
