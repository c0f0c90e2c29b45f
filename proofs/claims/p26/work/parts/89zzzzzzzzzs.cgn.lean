section
/-! the class's governor, told, module, part -/
def ush (x : Int32) (k : Int32) : Int32 := ((x : Int32).toUInt32 >>> ((k : Int32).toUInt32 &&& Int32.toUInt32 31)).toInt32
def bc1 (x : Int32) : Int32 := x - (ush x 1 &&& 1431655765)
def bc2 (x : Int32) : Int32 := (bc1 x &&& 858993459) + (ush (bc1 x) 2 &&& 858993459)
def bc3 (x : Int32) : Int32 := (bc2 x + ush (bc2 x) 4) &&& 252645135
def bc4 (x : Int32) : Int32 := bc3 x + ush (bc3 x) 8
def bcV (x : Int32) : Int32 := (bc4 x + ush (bc4 x) 16) &&& 63
/-- what module() tells -/
def mcX (τ : Td) (σ : PS) (w : Int32) : Int32 := if w = 0 then Int32.ofNat τ.1.length else if w = 1 then Int32.ofNat (inL τ.2.1).length else if w = 2 then bcV (omk τ.2.1) else if w = 3 then Int32.ofNat τ.2.2.2.1.length else if w = 4 then Int32.ofNat (npS σ) else if w = 5 then Int32.ofNat (trS σ).2.1 else if w = 6 then Int32.ofNat (ifS σ).length else if w = 7 then Int32.ofNat (σ.1.1 3) else -1
section
variable {ow : Nat → Nat} {ga : Nat → Td × PS × CoT} {gm : Nat → Nat} {M M' : Mem} {ms gs : List Nat} {mb gb h n0 : Nat} {Q : Option Value → Mem → Prop} {x y z w : Int32} {τ : Td} {σ : PS}
theorem S_bitC (K : Q (some (.int (bcV x))) M) : E (h + 1) mdJ6_bitCount_0f7a4 [.int x] M Q := by
  refine KJ6_bitCount_0f7a4 ?_
  unfold DJ6_bitCount_0f7a4_0
  unfold bcV bc4 bc3 bc2 bc1 ush at K
  exact K
theorem CmX.f6 {C : CoT} (hX : CmX ow M n0 τ σ C) : (mI M n0 9 = Int32.ofNat τ.1.length ∧ mI M n0 10 = Int32.ofNat (inL τ.2.1).length ∧ mI M n0 11 = omk τ.2.1 ∧ mI M n0 12 = Int32.ofNat τ.2.2.2.1.length ∧ mI M n0 13 = Int32.ofNat (trS σ).2.1 ∧ mI M n0 14 = Int32.ofNat (ifS σ).length ∧ mI M n0 15 = Int32.ofNat (σ.1.1 3)) ∧ (∃ be, mR M n0 5 = some be ∧ ok M be 21 ∧ mL M be = 6 ∧ ∀ k, k < τ.2.2.2.1.length → InG (mAI M be k).toInt64) ∧ ∃ pb ps, mR M n0 6 = some (n0 + 7) ∧ ALp M (n0 + 7) pb 5 ps ∧ ps.length = npS σ ∧ npS σ ≤ 40 ∧ ∀ j, j < ps.length → mI M (ps.getD j 0) 0 = σ.2.1.1 j 0 := by
  obtain ⟨m, root, γ, g0, gw, Z0, P, zp, Ψ1, Ψ2, R, zn, fn, y0, q0, hl, lc, rc, cc, pb, ib, b1, b2, ya, na, pz, n1, ps, hp, hM, hz, -⟩ := hX
  obtain ⟨hP, ⟨p1, p2, p3, p4⟩, hpt, -, -, -, -, -, ⟨g1, g2, g3, g4, g5, g6, g7, g8, g9, g10, -, -⟩⟩ := hM
  exact ⟨⟨g1, hP.1.2.2.2.2, g2, g3, g4, g5, g6⟩, ⟨n0 + 6, g7, g8, g9, fun k hk => by rw [g10 k hk]; exact hp.2.2.2.2.2.2.2.2.inG k⟩, pb, ps, p1, p2, p3, p4, fun j hj => (hpt j hj).2⟩
theorem G_told (hC : CvS ow ga gm M ms gs mb gb) (K : ∀ r : Int32, Q (some (.int r)) M) : E (h + 5) mdX10_told [.ref 0, .int x, .int y] M Q := by
  refine KX10_told (h := h + 4) ?_
  unfold DX10_told_0
  refine ⟨ok0 hC.1, S_govAt (h := h) hC (fun _ _ => ⟨none, rfl, fun _ => K _, fun b e => absurd e (by simp)⟩) (fun i hi _ _ => ⟨some _, rfl, fun e => absurd e (by simp), fun b e => ?_⟩)⟩
  cases e
  obtain ⟨j, nw, nx, kp, gn, wr, ks, hj, -, -, hv, hr, -, -, hm⟩ := hC.gv hi
  have o := hv.1.1
  have vv : ∀ k, k < 26 → vp_in (Int32.ofNat k) (mL M nw) := fun k hk => by rw [hv.2.1.1.2]; exact vp_of hk (by decide)
  exact ⟨fun _ => ⟨o, nw, hv.1.2.2.1, hv.2.1.1.1, vv 2 (by decide), K _⟩, fun _ => ⟨o, nw, hv.1.2.2.1, hv.2.1.1.1, vv 0 (by decide), S_bitC (h := h + 3) (fun _ => ⟨_, rfl, K _⟩)⟩, fun _ => ⟨o, nw, hv.1.2.2.1, hv.2.1.1.1, vv 3 (by decide), K _⟩, fun _ => ⟨o, K _⟩, fun _ => ⟨o, K _⟩, fun _ => ⟨o, K _⟩, fun _ => ⟨o, K _⟩, fun _ => ⟨o, K _⟩, fun _ => K _⟩
theorem G_module (hC : CvS ow ga gm M ms gs mb gb) (K0 : (∀ i, i < ms.length → x ≠ Int32.ofNat i) → Q (some (.int (-1))) M) (K : ∀ i, i < ms.length → x = Int32.ofNat i → Q (some (.int (mcX (ga (ms.getD i 0)).1 (ga (ms.getD i 0)).2.1 w))) M) : E (h + 5) mdX10_module [.ref 0, .int x, .int w] M Q := by
  refine KX10_module (h := h + 4) ?_
  unfold DX10_module_0
  refine ⟨ok0 hC.1, S_modAt (h := h) hC (fun ne _ => ⟨none, rfl, fun _ => K0 ne, fun b e => absurd e (by simp)⟩) (fun i hi ex _ => ⟨some _, rfl, fun e => absurd e (by simp), fun b e => ?_⟩)⟩
  cases e
  have hm := (hC.2.2.2.2.2.2.2.1 i hi).2
  have o := hm.on
  obtain ⟨⟨g9, g10, g11, g12, g13, g14, g15⟩, -, pb, ps, p1, p2, p3, p4, -⟩ := hm.f6
  have KK : ∀ v, mcX (ga (ms.getD i 0)).1 (ga (ms.getD i 0)).2.1 w = v → Q (some (.int v)) M := fun v e2 => by rw [← e2]; exact K i hi ex
  have out : ((w : Int32).toInt < 0 ∨ 7 < (w : Int32).toInt) → mcX (ga (ms.getD i 0)).1 (ga (ms.getD i 0)).2.1 w = -1 := fun hw => by
    unfold mcX
    have ne : ∀ k : Int32, 0 ≤ k.toInt → k.toInt ≤ 7 → w ≠ k := fun k k1 k2 z => by rw [z] at hw; omega
    rw [if_neg (ne 0 (by decide) (by decide)), if_neg (ne 1 (by decide) (by decide)), if_neg (ne 2 (by decide) (by decide)), if_neg (ne 3 (by decide) (by decide)), if_neg (ne 4 (by decide) (by decide)), if_neg (ne 5 (by decide) (by decide)), if_neg (ne 6 (by decide) (by decide)), if_neg (ne 7 (by decide) (by decide))]
  refine ⟨fun z => ⟨o, KK _ (by rw [z, g9]; rfl)⟩, fun z => ⟨o, KK _ (by rw [z, g10]; rfl)⟩, fun z => ⟨o, S_bitC (h := h + 3) (fun _ => ⟨_, rfl, KK _ (by rw [z, g11]; rfl)⟩)⟩, fun z => ⟨o, KK _ (by rw [z, g12]; rfl)⟩, fun z => ⟨o, _, p1, p2.1, S_alSize (h := h + 3) p2 (fun _ => ⟨_, rfl, KK _ (by rw [z, p3]; rfl)⟩)⟩, fun z => ⟨o, KK _ (by rw [z, g13]; rfl)⟩, fun z => ⟨o, KK _ (by rw [z, g14]; rfl)⟩, fun z => ⟨o, KK _ (by rw [z, g15]; rfl)⟩, fun z => KK _ (out z)⟩
theorem G_part (hC : CvS ow ga gm M ms gs mb gb) (K0 : (∀ i j, i < ms.length → x = Int32.ofNat i → j < npS (ga (ms.getD i 0)).2.1 → y ≠ Int32.ofNat j) → Q (some (.int (-1))) M) (K : ∀ i j, i < ms.length → x = Int32.ofNat i → j < npS (ga (ms.getD i 0)).2.1 → y = Int32.ofNat j → Q (some (.int ((ga (ms.getD i 0)).2.1.2.1.1 j 0))) M) : E (h + 5) mdX10_part [.ref 0, .int x, .int y] M Q := by
  refine KX10_part (h := h + 4) ?_
  unfold DX10_part_0 DX10_part_18
  have m4 := hC.2.1.2
  refine ⟨ok0 hC.1, S_modAt (h := h) hC (fun ne _ => ⟨none, rfl, fun _ => K0 (fun i j hi e => absurd e (ne i hi)), fun b e => absurd e (by simp)⟩) (fun i hi ex _ => ⟨some _, rfl, fun e => absurd e (by simp), fun b e => ?_⟩)⟩
  cases e
  have hm := (hC.2.2.2.2.2.2.2.1 i hi).2
  have o := hm.on
  obtain ⟨-, -, pb, ps, p1, p2, p3, p4, p5⟩ := hm.f6
  refine ⟨o, S_hasPt (h := h + 2) o p1 p2 (by omega) (fun q hq eq _ => ⟨1, rfl, fun _ => ⟨_, p1, p2.1, ?_⟩, fun z => absurd z (by decide)⟩) (fun ne _ => ⟨0, rfl, fun z => absurd rfl z, fun _ => K0 (fun i2 j hi2 e2 hj e3 => ?_)⟩)⟩
  · rw [eq]
    refine S_get (h := h + 1) p2 hq (fun _ => ⟨_, rfl, ?_, ?_⟩)
    · have := p2.2.2.2.1 (ps.getD q 0) (by rw [List.getD_eq_getElem?_getD, List.getElem?_eq_getElem hq]; exact List.getElem_mem hq)
      rcases this with y | y
      · exact y
      · exact absurd y.1 (by decide)
    · rw [p5 q hq]
      exact K i q hi ex (by omega) eq
  · have : i2 = i := by
      rw [e2] at ex
      exact inj32 (by omega) (by omega) ex
    subst this
    exact ne j (by omega) e3
theorem tRS_l3 : ∀ e ∈ tR ++ tS, e.1 = 2 ∨ e.1 = 3 → e.2.1 ≠ 1 := by decide +kernel
theorem getD_gl {l : List Nat} {v i : Nat} (h : i < l.length) : (l ++ [v]).getD i 0 = l.getD i 0 := by rw [List.getD_eq_getElem?_getD, List.getD_eq_getElem?_getD, List.getElem?_append_left h]
theorem getD_gr {l : List Nat} {v : Nat} : (l ++ [v]).getD l.length 0 = v := by rw [List.getD_eq_getElem?_getD, List.getElem?_append_right (Nat.le_refl _), Nat.sub_self]; rfl
/-- what a new governor leaves -/
def GnP (ow ow' : Nat → Nat) (gm gm' : Nat → Nat) (ms gs : List Nat) (c g : Nat) (M M' : Mem) : Prop := (∀ a, a < mN M → ow' a = ow a) ∧ (∀ q, q < gs.length → gm' (gs.getD q 0) = gm (gs.getD q 0)) ∧ gm' g = c ∧ fr (fun a => a = 3 ∨ 132 ≤ a) M M' ∧ (mN M' ≤ mN M + 10 ∧ mS M' ≤ mS M + 300) ∧ (∀ j, j < ms.length → lnS M' (ms.getD j 0) = lnS M (ms.getD j 0) ∧ lnN M' (ms.getD j 0) = lnN M (ms.getD j 0) ∧ mR M' (ms.getD j 0) 17 = mR M (ms.getD j 0) 17) ∧ mI M' g 5 = 0 ∧ ∀ q, q < gs.length → mI M' (gs.getD q 0) 5 = mI M (gs.getD q 0) 5
theorem G_governor (hC : CvS ow ga gm M ms gs mb gb) (hb : mN M + 20 < mBig) (K0 : (∀ i, i < ms.length → x ≠ Int32.ofNat i) → Q (some (.int (-1))) M) (K8 : ∀ i, i < ms.length → x = Int32.ofNat i → gs.length = 8 → Q (some (.int (-3))) M) (K : ∀ i g M' ow' gm' gb', i < ms.length → x = Int32.ofNat i → gs.length < 8 → CvS ow' ga gm' M' ms (gs ++ [g]) mb gb' → GnP ow ow' gm gm' ms gs (ms.getD i 0) g M M' → Q (some (.int (Int32.ofNat gs.length))) M') : E (h + 7) mdX10_governor [.ref 0, .int x] M Q := by
  have g8 := hC.2.2.1.2
  have F := hC.1
  refine KX10_governor (h := h + 6) ?_
  unfold DX10_governor_0
  refine ⟨ok0 F, S_modAt (h := h + 2) hC (fun ne _ => ⟨none, rfl, fun _ => K0 ne, fun b e => absurd e (by simp)⟩) (fun i hi ex _ => ⟨some _, rfl, fun e => absurd e (by simp), fun b e => ?_⟩)⟩
  cases e
  have hA3 := hC.2.2.1.1
  refine ⟨3, rf0_3 F, hA3.1, S_alSize (h := h + 5) hA3 (fun _ => ⟨_, rfl, fun z8 => ⟨3, rf0_3 F, fun q11 M10 eq11 e10 => ?_⟩, fun z8 => K8 i hi ex ?_⟩)⟩
  rotate_left
  · rcases Nat.lt_or_ge gs.length 8 with y | y
    · exact absurd ((ltn32 (a := gs.length) (b := 8) (by omega) (by decide)).mpr y) z8
    · omega
  have lt8 : gs.length < 8 := (ltn32 (a := gs.length) (b := 8) (by omega) (by decide)).mp z8
  have hm := (hC.2.2.2.2.2.2.2.1 i hi).2
  obtain ⟨⟨-, -, -, g12, -⟩, ⟨be, be1, be2, be3, be4⟩, pb, ps, p1, p2, p3, p4, -⟩ := hm.f6
  obtain ⟨I, pb', ps', -, -, ⟨-, hV⟩, -⟩ := hm.fl
  have f10 : fr (fun _ => False) M M10 := by rw [e10]; exact fr_nwO
  have r10 : ∀ {a q : Nat}, ok M a q → sameRow M M10 a := fun o => f10.2 _ o.1 (fun z => z)
  have og : ok M10 q11 4 := by rw [eq11, e10]; exact ⟨Nat.lt_succ_self _, va_up_self _ _ _⟩
  have n10 : mN M10 = mN M + 1 := by rw [e10]; rfl
  have s10 : mS M10 = mS M + 14 := by rw [e10]; rfl
  have z5 : mI M10 q11 5 = 0 := by rw [eq11, e10]; exact congrFun (va_up_self _ _ _) 5
  have rc := r10 hm.on
  generalize hc : ms.getD i 0 = c at hm g12 be1 p1 p2 rc be4 hV p3 p4
  refine S_gini (h := h + 4) (nP := npS (ga c).2.1) og (ok_E hm.on f10.1) z5 (by rw [rc.2.2.1]; exact p1) (alp_fr3 p2 f10 (fun z => z) (fun _ z => z)) p3 p4 (by rw [rc.1]; exact g12) hV (by rw [rc.2.2.1]; exact be1) (ok_E be2 f10.1) (by rw [(f10.1.2.2 _ be2.1).2]; exact be3) (fun k hk => by rw [(r10 be2).2.2.2.1]; exact be4 k hk) (fun M12 nw nx kp gn wr ks f12 hv hr hlo ⟨n12, s12⟩ k12 _ => ⟨rfl, ?_⟩)
  have f012 : fr (fun _ => False) M M12 := (f10.more (fun a _ z => z)).tr f12 (fun a ha z => by omega)
  have A12 : ALp M12 3 gb 4 gs := alp_fr3 hA3 f012 (fun z => z) (fun _ z => z)
  have og12 := hv.1.1
  refine ⟨A12.1, S_add (h := h) A12 (by omega) (Or.inr (Or.inr (Or.inl rfl))) (Or.inl og12) (fun M14 gb' A14 F14 _ => ⟨_, rfl, 3, ?_, A14.1, S_alSize (h := h + 5) A14 (fun _ => ⟨_, rfl, ?_⟩)⟩)⟩
  · have F12 : Fix M12 := F.of_fr (S := fun _ => False) f012.1 (fun e he => by rw [(f012.2 e.1 (by have := tRS_lt e he; have := F.1; omega) (fun z => z)).2.2.1]) (f012.2 19 (by have := F.1; omega) (fun z => z)).2.2.2.2.1
    rw [(F14.1.2 0 (by have := F12.1; omega) (by
      rintro (y | ⟨-, y⟩)
      · exact absurd y (by decide)
      · rw [(ok0 F12).2] at y; exact absurd y (by decide))).2.2.1]
    exact rf0_3 F12
  · have e2 : Int32.ofNat (gs ++ [q11]).length - 1 = Int32.ofNat gs.length := by
      rw [List.length_append]
      show Int32.ofNat (gs.length + 1) - 1 = _
      rw [← succ32, Int32.add_sub_cancel]
    rw [e2]
    have qN : q11 = mN M := eq11
    have nM12 : mN M12 = mN M + 9 := by omega
    obtain ⟨-, ⟨A2, m4⟩, -, ⟨c1, c2⟩, d0, i1, i2, hms, hgs⟩ := id hC
    -- the frame
    have f14 : fr (fun a => a = 3 ∨ (a = gb ∧ mK M a = 24)) M M14 := (f012.more (fun a _ z => z.elim)).tr F14.1 (fun a ha z => z.imp id (fun y => ⟨y.1, by rw [← (f012.1.2.2 a ha).1]; exact y.2⟩))
    have own3 : ∀ a, (a = 3 ∨ (a = gb ∧ mK M a = 24)) → a < mN M → ow a < 132 ∧ mK M a ≠ 0 := fun a z ha => by
      rcases z with z | ⟨z, zk⟩
      · rw [z]; exact ⟨by rw [d0 3 (by decide)]; decide, by rw [(ok3 F).2]; decide⟩
      · refine ⟨?_, by rw [zk]; decide⟩
        rw [z] at ha ⊢
        rcases c2 with y | y
        · omega
        · rw [y.2.2]; decide
    obtain ⟨ow', how'⟩ : ∃ ow' : Nat → Nat, ow' = fun a => if a < mN M then ow a else if a = mN M12 then 3 else q11 := ⟨_, rfl⟩
    have hag : ∀ a, a < mN M → ow' a = ow a := fun a ha => by rw [how']; exact if_pos ha
    have hn1 : ow' (mN M12) = 3 := by rw [how']; show (if mN M12 < mN M then _ else if mN M12 = mN M12 then 3 else q11) = 3; rw [if_neg (by omega), if_pos rfl]
    have hn2 : ∀ a, mN M ≤ a → a < mN M12 → ow' a = q11 := fun a h1 h2 => by rw [how']; show (if a < mN M then _ else if a = mN M12 then 3 else q11) = q11; rw [if_neg (by omega), if_neg (by omega)]
    obtain ⟨gm', hgm'⟩ : ∃ gm' : Nat → Nat, gm' = fun a => if a = q11 then c else gm a := ⟨_, rfl⟩
    have gmq : gm' q11 = c := by rw [hgm']; exact if_pos rfl
    have gmo : ∀ a, a ≠ q11 → gm' a = gm a := fun a ha => by rw [hgm']; exact if_neg ha
    clear how' hgm'
    have golt : ∀ q, q < gs.length → gs.getD q 0 < mN M := fun q hq => by
      obtain ⟨_, _, _, _, _, _, _, _, _, _, hvq, _⟩ := hC.gv hq
      exact hvq.1.1.1
    have okg : ∀ q, q < gs.length → ok M (gs.getD q 0) 4 := fun q hq => by
      obtain ⟨_, _, _, _, _, _, _, _, _, _, hvq, _⟩ := hC.gv hq
      exact hvq.1.1
    have fS : fr (fun a => (a = 3 ∨ (a = gb ∧ mK M a = 24)) ∧ a < mN M) M M14 := ⟨f14.1, fun a ha hn => f14.2 a ha (fun z => hn ⟨z, ha⟩)⟩
    have nS : ∀ {v : Nat}, 132 ≤ v → ∀ a, ((a = 3 ∨ (a = gb ∧ mK M a = 24)) ∧ a < mN M) → ow a ≠ v := fun {v} hv2 a z e => by have := (own3 a z.1 z.2).1; omega
    have nS' : ∀ {v : Nat}, 132 ≤ v → ∀ a, ((a = 3 ∨ (a = gb ∧ mK M a = 24)) ∧ a < mN M) → ow' a ≠ v := fun {v} hv2 a z => by rw [hag a z.2]; exact nS hv2 a z
    have k0 : ∀ a, ((a = 3 ∨ (a = gb ∧ mK M a = 24)) ∧ a < mN M) → mK M a ≠ 0 := fun a z => (own3 a z.1 z.2).2
    have F14' : Fix M14 := by
      refine F.of_fr (S := fun _ => False) f14.1 (fun e he => ?_) ?_
      · by_cases y : e.1 = 3
        · rw [y, F14.2.2.2.1 e.2.1 (tRS_l3 e he (Or.inr y)), (f012.2 3 (by have := F.1; omega) (fun z => z)).2.2.1]
        · have lt := tRS_lt e he
          rw [(f14.2 e.1 (by have := F.1; omega) (fun z => z.elim y (fun w2 => by
            rcases c2 with q | q
            · have := w2.1; have := F.1; omega
            · have := w2.1; omega))).2.2.1]
      · exact (f14.2 19 (by have := F.1; omega) (fun z => z.elim (fun y => absurd y (by decide)) (fun w2 => by
          rcases c2 with q | q
          · have := w2.1; have := F.1; omega
          · have := w2.1; omega))).2.2.2.2.1
    have gbx : gb' = mBig + 5 ∨ (132 ≤ gb' ∧ gb' < mN M14 ∧ ow' gb' = 3) := by
      have lt : gb' = mBig + 5 ∨ gb' < mN M14 := by
        rcases A14.2.2.2.2.2 with ⟨e, -⟩ | ⟨o, -⟩
        · exact Or.inl e
        · exact Or.inr o.1
      rcases lt with y | y
      · exact Or.inl y
      · rcases F14.2.2.2.2.1 with e | e
        · rw [e]
          rcases c2 with q | q
          · exact Or.inl q
          · exact Or.inr ⟨q.1, by have := f14.1.1; omega, by rw [hag _ q.2.1]; exact q.2.2⟩
        · rw [e]
          exact Or.inr ⟨by have := F.1; omega, by rw [← e]; exact y, hn1⟩
    have oC : ∀ {a : Nat}, ok M12 a 21 ∨ ok M12 a 25 ∨ ok M12 a 4 → ¬ (a = 3 ∨ (a = gb ∧ mK M12 a = 24)) := fun {a} o z => by
      rcases z with z | ⟨-, zk⟩
      · have k3 : mK M12 3 = 1 := (ok_E (ok3 F) f012.1).2
        rw [z] at o
        rcases o with o | o | o <;> exact absurd (o.2.symm.trans k3) (by decide)
      · rcases o with o | o | o <;> exact absurd (o.2.symm.trans zk) (by decide)
    have okr : ∀ r, grR nw nx wr gn ks r ∨ r = kp → ok M12 r 21 ∨ ok M12 r 25 ∨ ok M12 r 4 := fun r hr2 => by
      rcases hr2 with (y | y | y | y | ⟨q, hq, y⟩) | y <;> rw [y]
      · exact Or.inl hv.2.1.1.1
      · exact Or.inl hv.2.1.2.1.1
      · exact Or.inl hv.2.1.2.2.2.1
      · exact Or.inl hv.2.1.2.2.1.1
      · exact Or.inl (hv.2.2.1.2.2 q hq).2.1
      · exact Or.inr (Or.inl hv.2.2.1.1)
    obtain ⟨hv14, hr14⟩ := gv_fr hv hr F14.1 (oC (Or.inr (Or.inr og12))) (fun r hr2 => oC (okr r hr2))
    have new : GoX ow' M14 q11 c (npS (ga c).2.1) := by
      refine ⟨nw, nx, kp, gn, wr, ks, hv14, hr14, hn2 _ (by omega) (by omega), fun r hr2 => hn2 r (by have := hlo r hr2; omega) ?_⟩
      rcases okr r hr2 with o | o | o <;> exact o.1
    refine K i q11 M14 ow' gm' gb' hi ex lt8 ⟨F14', ⟨alp_fr3 A2 f14 (fun z => ?_) (fun o z => ?_), m4⟩, ⟨A14, by rw [List.length_append]; exact lt8⟩, ⟨c1.imp id (fun y => ⟨y.1, Nat.lt_of_lt_of_le y.2.1 f14.1.1, by rw [hag _ y.2.1]; exact y.2.2⟩), gbx⟩, fun a ha => by rw [hag a (by have := F.1; omega)]; exact d0 a ha, i1, fun p q hp hq e => ?_, fun q hq => ⟨(hms q hq).1, ((hms q hq).2.own hag).out (by omega) fS (nS' (hms q hq).1) k0⟩, fun q hq => ?_⟩ ⟨hag, fun q hq => gmo _ (fun e => by have := golt q hq; omega), by rw [gmq, hc], f14.more (fun a ha z => ?_), ⟨by have := F14.2.2.2.2.2.1; omega, by have := F14.2.2.2.2.2.2.1; omega⟩, fun q hq => ?_, ?_, fun q hq => ?_⟩
    · rcases z with z | ⟨z, -⟩
      · exact absurd z (by decide)
      · rcases c2 with y | y
        · rw [← z] at y; exact absurd y (by decide)
        · omega
    · rcases z with z | ⟨z, -⟩
      · rw [z] at o; exact absurd (o.2.symm.trans (ok3 F).2) (by decide)
      · have := o.1
        rcases c1 with y | y
        · omega
        · rcases c2 with y2 | y2
          · omega
          · rw [z] at y; rw [y.2.2] at y2; exact absurd y2.2.2 (by decide)
    · rw [List.length_append] at hp hq
      have hp : p < gs.length + 1 := hp
      have hq : q < gs.length + 1 := hq
      by_cases p1' : p < gs.length
      · rw [getD_gl p1'] at e
        by_cases q1 : q < gs.length
        · rw [getD_gl q1] at e; exact i2 p q p1' q1 e
        · rw [show q = gs.length by omega, getD_gr] at e
          have := golt p p1'
          omega
      · rw [show p = gs.length by omega, getD_gr] at e
        by_cases q1 : q < gs.length
        · rw [getD_gl q1] at e
          have := golt q q1
          omega
        · omega
    · rw [List.length_append] at hq
      have hq : q < gs.length + 1 := hq
      by_cases q1 : q < gs.length
      · rw [getD_gl q1]
        obtain ⟨h1, j, h2, h3, h4⟩ := hgs q q1
        exact ⟨h1, j, h2, by rw [gmo _ (fun e => by have := golt q q1; omega)]; exact h3, (h4.own hag).out fS (nS' h1)⟩
      · rw [show q = gs.length by omega, getD_gr]
        refine ⟨by have := F.1; omega, i, hi, by rw [gmq, hc], ?_⟩
        rw [hc]
        exact new
    · rcases z with z | ⟨z, -⟩
      · exact Or.inl z
      · rcases c2 with y | y
        · omega
        · exact Or.inr (by omega)
    · obtain ⟨a1, a2, a3⟩ := ln_fr (hms q hq).2 fS (nS (hms q hq).1)
      exact ⟨a1, a2, by rw [a3]⟩
    · rw [(F14.1.2 q11 og12.1 (oC (Or.inr (Or.inr og12)))).1]; exact k12
    · have o := okg q hq
      rw [(f14.2 _ o.1 (fun z => z.elim (fun y => by rw [y] at o; exact absurd (o.2.symm.trans (ok3 F).2) (by decide)) (fun y => by rw [o.2] at y; exact absurd y.2 (by decide)))).1]
end
end
section
/-! a module of the reference once it is compiled -/
def RoO (τ : Td) : Prop := ∀ k, k < τ.2.1.length → τ.2.1.getD k 0 = 30 ∨ τ.2.1.getD k 0 = 31 ∨ τ.2.1.getD k 0 = 32
theorem ro_app {l : List Int32} {x : Int32} (h : ∀ k, k < l.length → l.getD k 0 = 30 ∨ l.getD k 0 = 31 ∨ l.getD k 0 = 32) (hx : x = 30 ∨ x = 31 ∨ x = 32) : ∀ k, k < (l ++ [x]).length → (l ++ [x]).getD k 0 = 30 ∨ (l ++ [x]).getD k 0 = 31 ∨ (l ++ [x]).getD k 0 = 32 := by
  intro k hk
  rw [List.length_append] at hk
  have hk : k < l.length + 1 := hk
  by_cases q : k < l.length
  · rw [show (l ++ [x]).getD k 0 = l.getD k 0 from by rw [List.getD_eq_getElem?_getD, List.getD_eq_getElem?_getD, List.getElem?_append_left q]]
    exact h k q
  · rw [show (l ++ [x]).getD k 0 = x from by rw [show k = l.length by omega, List.getD_eq_getElem?_getD, List.getElem?_append_right (Nat.le_refl _), Nat.sub_self]; rfl]
    exact hx
theorem td_ro {b : Nat → Int32} {n : Nat} : ∀ (g i : Nat) (τ : Td) (r : Nat × Td), RoO τ → td b n g i τ = .ok r → RoO r.2 := by
  intro g
  induction g with
  | zero => intro i τ r _ h; unfold td at h; cases h
  | succ g ih =>
    intro i τ r hM h
    unfold td at h
    by_cases k1 : tK b n i = 36
    · rw [if_pos k1] at h
      obtain ⟨j, -, h⟩ := bind_ok h
      obtain ⟨k, -, h⟩ := bind_ok h
      obtain ⟨q, hq, h⟩ := bind_ok h
      obtain ⟨l, -, h⟩ := bind_ok h
      refine ih _ _ _ ?_ h
      exact fun k hk => hM k hk
    rw [if_neg k1] at h
    by_cases k2 : tK b n i = 30 ∨ tK b n i = 31 ∨ tK b n i = 32
    · rw [if_pos k2] at h
      obtain ⟨j, -, h⟩ := bind_ok h
      obtain ⟨k, -, h⟩ := bind_ok h
      obtain ⟨q, -, h⟩ := bind_ok h
      obtain ⟨l, -, h⟩ := bind_ok h
      refine ih _ _ _ ?_ h
      exact ro_app (l := τ.2.1) hM k2
    · rw [if_neg k2] at h
      cases h
      exact hM
theorem rdm_ro {b : Nat → Int32} {n m : Nat} {A : Nat → Nat → Int32} {B : Nat → Int64} {Zt : Nat → Nat → Int32} {r : Nat × Td × PS × Nat} (e : rdM b n m A B Zt = .ok r) : RoO r.2.1 := by
  unfold rdM at e
  by_cases k0 : tK b n 0 = 0
  · rw [if_pos k0] at e; cases e
  · rw [if_neg k0] at e
    obtain ⟨q, hq, e⟩ := bind_ok e
    obtain ⟨w, -, e⟩ := bind_ok e
    cases e
    exact td_ro 900 0 td0 q (fun k hk => absurd hk (Nat.not_lt_zero _)) hq
theorem inL_nd (ro : List Int32) : (inL ro).Nodup := List.Pairwise.filter _ List.nodup_range
theorem nd_getD {l : List Nat} (h : l.Nodup) {i j : Nat} (hi : i < l.length) (hj : j < l.length) (e : l.getD i 0 = l.getD j 0) : i = j := by
  rw [List.getD_eq_getElem?_getD, List.getD_eq_getElem?_getD, List.getElem?_eq_getElem hi, List.getElem?_eq_getElem hj] at e
  exact (List.getElem_inj h).mp e
theorem mem_getD {l : List Nat} {v : Nat} (h : v ∈ l) : ∃ i, i < l.length ∧ l.getD i 0 = v := by
  obtain ⟨i, hi, e⟩ := List.getElem_of_mem h
  exact ⟨i, hi, by rw [List.getD_eq_getElem?_getD, List.getElem?_eq_getElem hi]; exact e⟩
section
variable {b : Nat → Int32} {n s m i root g0 km g y : Nat} {τ : Td} {σ : PS} {γ : Gh} {M1 M2 M3 : Mem} {pn : Nat → Int32} {S : RBs} {G : Nat → List Nat} {mk nu co : Nat → Int32} {sl : List Nat} {v : Int32}
theorem rb_mk (hz : ∀ i, n ≤ i → b i = 0) (hR : RPs b n s m τ [] σ M1 i 0) (hT : RTq m τ M1) (hb : BuW τ m σ root γ pn S G mk nu co sl km g y M2) (k : RGd m M1 M2) (hE : RdE τ m σ root γ g0) (hX : RdX τ σ root γ) (hK : TkI τ m σ) (hro : RoO τ) (e3 : M3 = wI M2 29 18 v) : RbM (mkR τ m σ S G mk nu km) sl (inL τ.2.1) σ.2.2.1 (npS σ) M3 := by
  have a3 : mAI M3 = mAI M2 := by rw [e3]; rfl
  have j3 : mAJ M3 = mAJ M2 := by rw [e3]; rfl
  obtain ⟨kN, kS, kK, kL, kR, kAR, kJ, kI, kf, kc, kj, kz⟩ := id k
  have c12 : ∀ c, c < 79 → mAI M2 c = mAI M1 c := fun c hc => kc c (by simp only [csC, List.mem_cons, List.not_mem_nil, or_false]; omega)
  have j12 : ∀ c, mAJ M2 c = mAJ M1 c := fun c => kj c (by simp)
  obtain ⟨⟨⟨F2, m4, -, b79, b80, b58, b90⟩, ⟨b94, b93⟩, b92⟩, hG, ⟨⟨hy1, hy2⟩, e91⟩, -, ⟨-, -, hkm⟩, hPd, -⟩ := id hb
  obtain ⟨hCo, ⟨n8, s8, i8⟩, -, -, -, ⟨hXR, hYR, -, -, ⟨q54, q55, q56, q57⟩, -⟩, ⟨x8, y8, -⟩⟩ := hR
  obtain ⟨-, -, -, -, ⟨S16, Sro, -, V6⟩, E34, E36, -, E38, -⟩ := hCo
  obtain ⟨⟨t35, t4, t41⟩, -⟩ := hT
  have b8 : bt b n i ≤ n + 1 := bt_le hz
  obtain ⟨nl1, nl2⟩ := hb.nl hE hX.2.2.2.2.2.2.1
  have w80 : ∀ c, 80 ≤ c → c ≤ 86 → (wS S mk nu co).2 c = S.2 c := fun c h1 h2 => by
    show (if c = 87 then mk else if c = 88 then nu else if c = 89 then co else S.2 c) = S.2 c
    rw [if_neg (by omega), if_neg (by omega), if_neg (by omega)]
  have A58 : ∀ c, 58 ≤ c → c ≤ 71 → mAI M3 c = σ.1.2.1 c := fun c h1 h2 => by rw [a3]; exact b58 c h1 (by omega) (by omega)
  have np40 : npS σ ≤ 40 := hE.2.2.2.1.2.2.1
  refine ⟨⟨⟨m4, hG, S16, hkm.1, hkm.2, by show σ.2.2.2.length ≤ 410; omega⟩, fun c y h1 h2 _ => by rw [a3, b80 c h1 (by omega), w80 c h1 h2]; rfl, fun y _ => ⟨by rw [a3, b80 87 (by decide) (by decide)]; rfl, by rw [a3, b80 88 (by decide) (by decide)]; rfl⟩, fun c p h1 h2 _ _ => by rw [A58 c h1 h2]; rfl, ?_, ⟨by rw [a3]; exact b79, by rw [a3]; exact b92, by rw [a3]; exact b94, by rw [a3]; exact b93, ?_, ?_⟩⟩, ⟨nl1, nl2, ?_, hb.st⟩, ⟨⟨?_, t4⟩, ?_, fun j k hj hk e => nd_getD (inL_nd _) hj hk e, fun j hj => ?_, fun q hq hq0 => ?_⟩, ⟨m4, ⟨?_, by omega⟩, ⟨?_, np40⟩, fun j hj => ?_⟩, fun j hj => ?_, ?_⟩
  · rw [a3, c12 45 (by decide), c12 46 (by decide), c12 47 (by decide)]
    exact hYR.2.1
  · rw [a3, c12 34 (by decide)]; exact E34
  · rw [a3, c12 38 (by decide)]; exact E38
  · intro q hq
    have hq : q < τ.1.length := hq
    rcases hro q (by omega) with e | e | e
    · exact ⟨0, by decide, by show τ.2.1.getD q 0 - 30 = _; rw [e]; decide⟩
    · exact ⟨1, by decide, by show τ.2.1.getD q 0 - 30 = _; rw [e]; decide⟩
    · exact ⟨2, by decide, by show τ.2.1.getD q 0 - 30 = _; rw [e]; decide⟩
  · rw [a3, c12 35 (by decide)]; exact t35
  · rw [a3, c12 41 (by decide)]; exact t41
  · obtain ⟨h1, h2⟩ := inL_at hj
    exact ⟨by show _ < τ.1.length; omega, s30.mpr h2⟩
  · have hq : q < τ.1.length := hq
    have q30 : τ.2.1.getD q 0 = 30 := s30.mp hq0
    exact mem_getD (List.mem_filter.mpr ⟨List.mem_range.mpr (by omega), decide_eq_true q30⟩)
  · obtain ⟨x1, x2⟩ := hXR
    refine ⟨by rw [a3]; show mAI M2 48 m = _; rw [c12 48 (by decide)]; exact x1, fun q hq => ?_⟩
    rw [a3, j3, c12 49 (by decide), c12 51 (by decide), j12 50]
    exact x2 q hq
  · rw [a3]; show mAI M2 54 m = _; rw [c12 54 (by decide)]; exact q54
  · have tk := hK.1 j hj
    have suf : ∀ {c1 c2 fo : Nat}, 58 ≤ c1 → c1 ≤ 71 → 58 ≤ c2 → c2 ≤ 71 → SuA m σ.1.2.1 σ.2.1.1 σ.2.2.1 (coS σ) j c1 c2 fo → SuR M3 σ.2.2.1 m j c1 c2 := fun {c1 c2 fo} h1 h2 h3 h4 h => by
      obtain ⟨f, c, hf, u1, u2, u3, -⟩ := h
      exact ⟨f, c, hf, by rw [A58 c1 h1 h2]; exact u1, by rw [A58 c2 h3 h4]; exact u2, u3⟩
    show RtP M3 σ.2.2.1 m j
    unfold RtP
    rw [A58 58 (by decide) (by decide), A58 60 (by decide) (by decide), A58 65 (by decide) (by decide)]
    rcases tk with ⟨-, t1, t2, t3⟩ | ⟨-, t1, ⟨s', u1, -, u2, -⟩, t3⟩ | ⟨-, t1, ⟨v', u1, u2, -⟩, t3⟩ | ⟨-, t1, -, t3, t4', -⟩
    · exact ⟨fun z => absurd z t1, fun z z2 => absurd (t3 z) z2, fun z => absurd z t2⟩
    · exact ⟨fun z => absurd (t1.symm.trans z) (by decide), fun _ _ => ⟨suf (by decide) (by decide) (by decide) (by decide) t3, s', by omega, u2⟩, fun z => absurd (t1.symm.trans z) (by decide)⟩
    · exact ⟨fun z => absurd (t1.symm.trans z) (by decide), fun z => absurd (t1.symm.trans z) (by decide), fun _ => ⟨suf (by decide) (by decide) (by decide) (by decide) t3, v', by omega, u2⟩⟩
    · exact ⟨fun _ => ⟨suf (by decide) (by decide) (by decide) (by decide) t3, suf (by decide) (by decide) (by decide) (by decide) t4'⟩, fun z => absurd (t1.symm.trans z) (by decide), fun z => absurd (t1.symm.trans z) (by decide)⟩
  · obtain ⟨e, he, yi, xi, ⟨p1, -⟩, p3, -⟩ := hPd j (Nat.zero_le _) hj
    exact ⟨yi, p3, by rw [a3, b90]; exact p1⟩
  · exact ⟨y, hy1, by rw [a3]; exact e91⟩
end
end
section
/-! the reference as a whole over compile -/
section
variable {m mods govs : Nat} {fs cs js : List Nat} {M M' M2 M3 : Mem} {R : RMo} {sl il : List Nat} {X : List Nd} {np n t : Nat} {f : Nat → Nat}
theorem sz8z {c : Nat} (h1 : 80 ≤ c) (h2 : c ≤ 89) : szA c = 700 := by
  rcases (show c = 80 ∨ c = 81 ∨ c = 82 ∨ c = 83 ∨ c = 84 ∨ c = 85 ∨ c = 86 ∨ c = 87 ∨ c = 88 ∨ c = 89 by omega) with e | e | e | e | e | e | e | e | e | e <;> rw [e] <;> decide
theorem sz58 {c : Nat} (h1 : 58 ≤ c) (h2 : c ≤ 72) : szA c = 40 := by
  rcases (show c = 58 ∨ c = 59 ∨ c = 60 ∨ c = 61 ∨ c = 62 ∨ c = 63 ∨ c = 64 ∨ c = 65 ∨ c = 66 ∨ c = 67 ∨ c = 68 ∨ c = 69 ∨ c = 70 ∨ c = 71 ∨ c = 72 by omega) with e | e | e | e | e | e | e | e | e | e | e | e | e | e | e <;> rw [e] <;> decide
theorem RG.sg (k : RG m fs cs js M M') {c i z q : Nat} (hz : szA c = z) (hi : i < z * (q + 1)) (hq : q < m) : mAI M' c i = mAI M c i ∧ mAJ M' c i = mAJ M c i := by
  refine k.2.2.2.2.2.2.2.2.2.2.2 c i ?_
  rw [hz]
  exact Nat.lt_of_lt_of_le hi (Nat.mul_le_mul_left _ hq)
theorem RbM.rg (hB : RbM R sl il X np M) (k : RG m fs cs js M M') (hm : moM R < m) : RbM R sl il X np M' := by
  obtain ⟨⟨⟨a1, a2, a3, a4, a5, a6⟩, b1, b2, b3, b4, ⟨c1, c2, c3, c4, c5, c6⟩⟩, d, ⟨⟨e1, e1'⟩, e2, e3, e4, e5⟩, ⟨g1, ⟨⟨g2, g3⟩, g4⟩, ⟨g5, g6⟩, g7⟩, h1, h2⟩ := hB
  have s7 : (moS R).1 ≤ 700 := a2.1.2
  have one : ∀ c, szA c = 1 → mAI M' c (moM R) = mAI M c (moM R) := fun c hc => (k.sg hc (by omega) hm).1
  have p40 : ∀ c j, 58 ≤ c → c ≤ 72 → j < 40 → mAI M' c (40 * moM R + j) = mAI M c (40 * moM R + j) := fun c j h1 h2 hj => (k.sg (sz58 h1 h2) (by omega) hm).1
  have su : ∀ {j c1 c2 : Nat}, j < np → 58 ≤ c1 → c1 ≤ 72 → 58 ≤ c2 → c2 ≤ 72 → SuR M X (moM R) j c1 c2 → SuR M' X (moM R) j c1 c2 := fun {j c1 c2} hj q1 q2 q3 q4 hs => by
    obtain ⟨f, c, u1, u2, u3, u4⟩ := hs
    exact ⟨f, c, u1, by rw [p40 c1 j q1 q2 (by omega)]; exact u2, by rw [p40 c2 j q3 q4 (by omega)]; exact u3, u4⟩
  refine ⟨⟨⟨a1, a2, a3, a4, a5, a6⟩, fun c y q1 q2 hy => ?_, fun y hy => ?_, fun c p q1 q2 q3 q4 => ?_, fun q hq => ?_, ⟨by rw [one 79 (by decide)]; exact c1, by rw [one 92 (by decide)]; exact c2, by rw [one 94 (by decide)]; exact c3, fun q hq => ?_, by rw [one 34 (by decide)]; exact c5, fun q hq => ?_⟩⟩, d, ⟨⟨by rw [one 35 (by decide)]; exact e1, e1'⟩, fun j hj => ?_, e3, e4, e5⟩, ⟨g1, ⟨⟨by rw [one 48 (by decide)]; exact g2, fun q hq => ?_⟩, g4⟩, ⟨by rw [one 54 (by decide)]; exact g5, g6⟩, fun j hj => ?_⟩, fun j hj => ?_, ?_⟩
  · have hy2 := hy.2
    rw [(k.sg (sz8z q1 (by omega)) (by omega) hm).1]; exact b1 c y q1 q2 hy
  · have hy2 := hy.2
    rw [(k.sg (c := 87) (sz8z (by decide) (by decide)) (by omega) hm).1, (k.sg (c := 88) (sz8z (by decide) (by decide)) (by omega) hm).1]; exact b2 y hy
  · rw [(k.sg (sz58 q1 (by omega)) (by omega) hm).1]; exact b3 c p q1 q2 q3 q4
  · rw [(k.sg (c := 45) (z := 410) (by decide) (by omega) hm).1, (k.sg (c := 46) (z := 410) (by decide) (by omega) hm).1, (k.sg (c := 47) (z := 410) (by decide) (by omega) hm).1]; exact b4 q hq
  · have := d.2.2.2.2.2
    rw [(k.sg (c := 93) (z := 1400) (by decide) (by omega) hm).1]; exact c4 q hq
  · rw [(k.sg (c := 38) (z := 16) (by decide) (by omega) hm).1]; exact c6 q hq
  · rw [(k.sg (c := 41) (z := 4) (by decide) (by omega) hm).1]; exact e2 j hj
  · rw [(k.sg (c := 49) (z := 810) (by decide) (by omega) hm).1, (k.sg (c := 50) (z := 810) (by decide) (by omega) hm).2, (k.sg (c := 51) (z := 810) (by decide) (by omega) hm).1]; exact g3 q hq
  · obtain ⟨u1, u2, u3⟩ := g7 j hj
    unfold RtP
    rw [p40 58 j (by decide) (by decide) (by omega), p40 60 j (by decide) (by decide) (by omega), p40 65 j (by decide) (by decide) (by omega)]
    exact ⟨fun z => ⟨su hj (by decide) (by decide) (by decide) (by decide) (u1 z).1, su hj (by decide) (by decide) (by decide) (by decide) (u1 z).2⟩, fun z z2 => ⟨su hj (by decide) (by decide) (by decide) (by decide) (u2 z z2).1, (u2 z z2).2⟩, fun z => ⟨su hj (by decide) (by decide) (by decide) (by decide) (u3 z).1, (u3 z).2⟩⟩
  · rw [(k.sg (c := 90) (z := 40) (by decide) (by omega) hm).1]; exact h1 j hj
  · rw [one 91 (by decide)]; exact h2
theorem FrE.rg {q : Nat} (hf : FrE M q t) (k : RG m fs cs js M M') (hq : q < m) : FrE M' q t := by
  unfold FrE
  rw [(k.sg (c := 35) (z := 1) (by decide) (by omega) hq).1, (k.sg (c := 56) (z := 1) (by decide) (by omega) hq).1]
  exact hf
theorem SrG.rg {q : Nat} (hG : SrG M q) (k : RG m fs cs js M M') (hq : q < m) (hcs : ∀ c ∈ cs, c ≤ 122) : SrG M' q := by
  have e122 : mAI M' 122 q = mAI M 122 q := (k.sg (c := 122) (z := 1) (by decide) (by omega) hq).1
  have rw0 : ∀ c, 123 ≤ c → mAI M' c = mAI M c := fun c hc => k.2.2.2.2.2.2.2.2.2.1 c (fun z => by have := hcs c z; omega)
  unfold SrG SrI ClF
  rw [e122, rw0 123 (by decide), rw0 126 (by decide), rw0 128 (by decide)]
  rcases hG with g | g | ⟨g, n, t, f, b1, b2, b3, b4⟩
  · exact Or.inl g
  · exact Or.inr (Or.inl g)
  · exact Or.inr (Or.inr ⟨g, n, t, f, b1, b2.rg k hq, b3, b4⟩)
/-- compile leaves what was there before -/
theorem RvS.rg (hR : RvS M mods govs) (k : RG mods fs cs js M M') (hcs : ∀ c ∈ cs, c ≤ 122 ∧ c ≠ 102 ∧ c ≠ 103 ∧ c ≠ 110) (h18 : 18 ∉ fs) (h91 : 91 ∉ fs) (F : Fix M') : RvS M' mods govs := by
  obtain ⟨⟨-, ⟨a1, a2, a3⟩, ⟨b1, b2⟩, c, d, e⟩, hL, hm⟩ := hR
  have r : ∀ c, c = 102 ∨ c = 103 ∨ c = 110 ∨ 123 ≤ c → mAI M' c = mAI M c := fun c hc => k.2.2.2.2.2.2.2.2.2.1 c (fun z => by have := hcs c z; omega)
  have i29 : ∀ f, f ∉ fs → mI M' 29 f = mI M 29 f := fun f hf => k.2.2.2.2.2.2.2.2.1 f hf
  refine ⟨⟨F, ⟨by rw [i29 18 h18]; exact a1, a2, fun j => by rw [r 103 (by omega)]; exact a3 j⟩, ⟨by rw [i29 91 h91]; exact b1, b2⟩, by rw [r 102 (by omega)]; exact c, by rw [r 110 (by omega)]; exact d, fun q hq => ?_⟩, hL.k (r 129 (by omega)), fun q hq => ?_⟩
  · have one : ∀ c, szA c = 1 → mAI M' c q = mAI M c q := fun c hc => (k.sg hc (by omega) hq).1
    rw [one 34 (by decide), one 35 (by decide), one 36 (by decide), one 54 (by decide), one 55 (by decide)]
    exact e q hq
  · obtain ⟨⟨R, sl, il, X, np, eR, hB⟩, g, f, f1, f2⟩ := hm q hq
    exact ⟨⟨R, sl, il, X, np, eR, hB.rg k (by rw [eR]; exact hq)⟩, g.rg k hq (fun c z => (hcs c z).1), f, f1, by rw [(k.sg (c := 56) (z := 1) (by decide) (by omega) hq).1]; exact f2⟩
/-- a module more -/
theorem RvS.mo (hR : RvS M2 mods govs) (h4 : mods < 4) (e3 : M3 = wI M2 29 18 (Int32.ofNat (mods + 1))) (hB : RbM R sl il X np M3) (eR : moM R = mods) (e122 : mAI M2 122 mods = 0) (h34 : ∃ k, k ≤ 16 ∧ mAI M2 34 mods = Int32.ofNat k) (h35 : ∃ k, k ≤ 4 ∧ mAI M2 35 mods = Int32.ofNat k) (h36 : ∃ k, k ≤ 6 ∧ mAI M2 36 mods = Int32.ofNat k) (h54 : ∃ k, k ≤ 40 ∧ mAI M2 54 mods = Int32.ofNat k) (h55 : ∃ k, k ≤ 24 ∧ mAI M2 55 mods = Int32.ofNat k) (h56 : ∃ f, f ≤ 100 ∧ mAI M2 56 mods = Int32.ofNat f) : RvS M3 (mods + 1) govs := by
  obtain ⟨⟨F, ⟨a1, a2, a3⟩, ⟨b1, b2⟩, c, d, e⟩, hL, hm⟩ := hR
  have k3 : RfF (fun f => f = 18) noP noP M2 M3 := RfF.i rfl e3
  have r3 : mAI M3 = mAI M2 := by rw [e3]; rfl
  have i3 : ∀ f, f ≠ 18 → mI M3 29 f = mI M2 29 f := fun f hf => k3.2.2.2.1 f hf
  refine ⟨⟨k3.fix F (fun z => z), ⟨by rw [e3, mI_wI, if_pos ⟨rfl, rfl⟩], by omega, fun j => by rw [r3]; exact a3 j⟩, ⟨by rw [i3 91 (by decide)]; exact b1, b2⟩, fun g hg => ?_, by rw [r3]; exact d, fun q hq => ?_⟩, hL.k (by rw [r3]), fun q hq => ?_⟩
  · obtain ⟨q, q1, q2⟩ := c g hg
    exact ⟨q, by omega, by rw [r3]; exact q2⟩
  · rw [r3]
    by_cases z : q = mods
    · rw [z]; exact ⟨h34, h35, h36, h54, h55⟩
    · exact e q (by omega)
  · by_cases z : q = mods
    · subst z
      exact ⟨⟨R, sl, il, X, np, eR, hB⟩, Or.inl (by rw [r3]; exact e122), by rw [r3]; exact h56⟩
    · obtain ⟨⟨R', sl', il', X', np', eR', hB'⟩, g, f, f1, f2⟩ := hm q (by omega)
      refine ⟨⟨R', sl', il', X', np', eR', hB'.br k3 (fun c z => z.elim) (fun c z => z.elim)⟩, ?_, f, f1, by rw [r3]; exact f2⟩
      unfold SrG SrI FrE ClF
      rw [r3]
      exact g
end
end
section
/-! the class as a whole over compile -/
/-- what modules and governors still want, and how often these are kept, stays -/
def KeP (ms gs : List Nat) (M M' : Mem) : Prop := (∀ j, j < ms.length → lnS M' (ms.getD j 0) = lnS M (ms.getD j 0) ∧ lnN M' (ms.getD j 0) = lnN M (ms.getD j 0) ∧ mR M' (ms.getD j 0) 17 = mR M (ms.getD j 0) 17) ∧ ∀ q, q < gs.length → mI M' (gs.getD q 0) 5 = mI M (gs.getD q 0) 5
section
variable {ow : Nat → Nat} {ga : Nat → Td × PS × CoT} {gm : Nat → Nat} {M M' M1 M2 : Mem} {ms gs : List Nat} {mb gb h n0 : Nat} {S : Nat → Prop} {Q : Option Value → Mem → Prop}
theorem KeP.rf : KeP ms gs M M := ⟨fun _ _ => ⟨rfl, rfl, rfl⟩, fun _ _ => rfl⟩
theorem KeP.tr (a : KeP ms gs M M1) (b : KeP ms gs M1 M2) : KeP ms gs M M2 := ⟨fun j hj => ⟨(b.1 j hj).1.trans (a.1 j hj).1, (b.1 j hj).2.1.trans (a.1 j hj).2.1, (b.1 j hj).2.2.trans (a.1 j hj).2.2⟩, fun q hq => (b.2 q hq).trans (a.2 q hq)⟩
theorem CvS.ke (hC : CvS ow ga gm M ms gs mb gb) (k : fr S M M') (hS : ∀ a, S a → a < mN M → ow a < 132) : KeP ms gs M M' := by
  have fS : fr (fun a => S a ∧ a < mN M) M M' := ⟨k.1, fun a ha hn => k.2 a ha (fun z => hn ⟨z, ha⟩)⟩
  refine ⟨fun j hj => ?_, fun q hq => ?_⟩
  · obtain ⟨h1, h2⟩ := hC.2.2.2.2.2.2.2.1 j hj
    obtain ⟨a1, a2, a3⟩ := ln_fr h2 fS (fun a z e => by have := hS a z.1 z.2; omega)
    exact ⟨a1, a2, by rw [a3]⟩
  · obtain ⟨_, _, _, _, _, _, _, _, _, g132, hvq, _, hoq, _⟩ := hC.gv hq
    rw [(fS.2 _ hvq.1.1.1 (fun z => by have := hS _ z.1 z.2; omega)).1]
/-- only the reference's cells have changed -/
theorem RfF.fr {fs cs js : Nat → Prop} (k : RfF fs cs js M M') : fr (fun a => a = 29 ∨ cs a ∨ js a) M M' := ⟨k.e, fun a _ hn => ⟨k.2.2.1 a (fun z => hn (Or.inl z)), by rw [k.2.1.1], by rw [k.2.1.2.1], k.2.2.2.2.1 a (fun z => hn (Or.inr (Or.inl z))), k.2.2.2.2.2 a (fun z => hn (Or.inr (Or.inr z))), by rw [k.2.1.2.2]⟩⟩
theorem kd_fix (F : Fix M) {a : Nat} (ha : a < 132) (h29 : 29 ≤ a ∨ a = 0 ∨ (4 ≤ a ∧ a ≤ 28)) : mK M a ≠ 0 := by
  have all : ∀ a : Fin 132, (29 ≤ a.val ∨ a.val = 0 ∨ (4 ≤ a.val ∧ a.val ≤ 28)) → (∃ e ∈ tO, e.1 = a.val ∧ e.2 ≠ 0) ∨ ∃ e ∈ tA ++ tB, e.1 = a.val ∧ e.2.1 ≠ 0 := by decide +kernel
  rcases all ⟨a, ha⟩ h29 with ⟨e, he, e1, e2⟩ | ⟨e, he, e1, e2⟩
  · have e1 : e.1 = a := e1
    have := (F.2.1 e he).2
    rw [e1] at this
    rw [this]; exact e2
  · have e1 : e.1 = a := e1
    have := (F.2.2.1 e he).1.2
    rw [e1] at this
    rw [this]; exact e2
theorem CvS.rr {fs cs js : Nat → Prop} (hC : CvS ow ga gm M ms gs mb gb) (hb : mN M < mBig) (k : RfF fs cs js M M') (hc : ∀ c, cs c ∨ js c → 29 ≤ c ∧ c ≤ 131) : CvS ow ga gm M' ms gs mb gb ∧ KeP ms gs M M' := by
  have f : fr (fun a => 29 ≤ a ∧ a ≤ 131) M M' := (RfF.fr k).more (fun a _ z => by
    rcases z with z | z
    · omega
    · exact hc a z)
  exact ⟨hC.out hb f (k.fix hC.1 (fun z => by have := hc 19 (Or.inr z); omega)) (fun a z => ⟨by omega, by omega, by omega, kd_fix hC.1 (by omega) (Or.inl z.1)⟩), hC.ke f (fun a z _ => by rw [hC.2.2.2.2.1 a (by omega)]; decide)⟩
/-- behind a fault -/
theorem CvS.cf {n : Nat} {f v : Int32} (hC : CvS ow ga gm M ms gs mb gb) (hb : mN M < mBig) (hx : CRx n M M1 f v) (e : M' = wI (wI M1 0 1 0) 0 6 f) : CvS ow ga gm M' ms gs mb gb ∧ KeP ms gs M M' ∧ fr (fun a => a ≤ 28 ∧ a ≠ 2 ∧ a ≠ 3) M M' := by
  obtain ⟨F1, -, -, -, fr1, -⟩ := hx
  have fe : fr (fun a => a = 0 ∨ (4 ≤ a ∧ a ≤ 28)) M M' := (fr1.more (fun a _ z => by omega)).tr (M2 := M') (by rw [e]; exact (fr_wI (S := fun a => a = 0) rfl).tr (fr_wI (S := fun a => a = 0) rfl) (fun _ _ z => z)) (fun a _ z => Or.inl z)
  have F' : Fix M' := by rw [e]; exact F1.i.i
  exact ⟨hC.out hb fe F' (fun a z => ⟨by omega, by omega, by omega, kd_fix hC.1 (by omega) (by omega)⟩), hC.ke fe (fun a z _ => by rw [hC.2.2.2.2.1 a (by omega)]; decide), fe.more (fun a _ z => by omega)⟩
end
end
section
/-! the class has a module more -/
section
variable {ow : Nat → Nat} {ga : Nat → Td × PS × CoT} {gm : Nat → Nat} {M M0 M2 Mw M3 M4 : Mem} {ms gs : List Nat} {mb mb' gb : Nat}
variable {b : Nat → Int32} {n s m i root g0 lc rc g S0 : Nat} {τ : Td} {σ : PS} {γ : Gh} {ps : List Nat} {xs : Nat → Nat} {ro : List Int32} {Ro : List (Nat × Nat)} {Θ : TrT} {G : Nat → List Nat} {N : Nt}
/-- what compile changes of what was there -/
theorem cm_fr (F : Fix M) (hRd : CRd b n s τ M M0 M2 i σ ps) (k : NuF (fun c => c = mN M ∨ c = 0) M2 Mw) (wz : WvZ (mN M) lc rc Θ N Mw) (we : WvE (mN M) lc rc S0 ro Θ G N Ro g root ps xs Mw M3) (hF : ALF M3 M4 2 mb mb' ms.length) : fr (fun a => a = 0 ∨ (4 ≤ a ∧ a ≤ 28) ∨ a = 2 ∨ (a = mb ∧ mK M a = 24)) M M4 := by
  obtain ⟨⟨-, ⟨lc0, rc0, cc, pb, ib, hQ⟩, -⟩, -, -, fr0, -⟩ := hRd
  have hLP := hQ.2.2.2.1
  have hFQ := hQ.2.2.2.2.2.1
  obtain ⟨-, -, -, -, -, ⟨pt, -⟩⟩ := hLP
  obtain ⟨Ψ1, Ψ2, P, zp, M1, -, -, -, ⟨lc', rc', b1, b2, hl, -, -, -, -, -, hR, -⟩, -, -, nu, -⟩ := we
  have lrb := wz.1.2.1
  have n132 := F.1
  have f1 : fr (fun a => a = 0 ∨ (4 ≤ a ∧ a ≤ 28) ∨ a = 2 ∨ (a = mb ∧ mK M a = 24)) M M0 := fr0.more (fun a _ z => Or.inr (Or.inl (by omega)))
  have f2 := f1.tr hFQ.1 (fun a ha z => Or.inr (Or.inl (by omega)))
  have f3 := f2.tr k.fre (fun a ha z => z.elim (fun y => by omega) (fun y => Or.inl y))
  have f4 := f3.tr hR.1 (fun a ha z => by
    unfold wvS at z
    obtain ⟨l1, l2⟩ := lrb
    exact Or.inr (Or.inl (by omega)))
  have f5 := f4.tr nu.fre (fun a ha z => by
    obtain ⟨j, hj, e⟩ := z
    have := (pt j hj).2.1
    omega)
  exact f5.tr hF.1 (fun a ha z => z.elim (fun y => Or.inr (Or.inr (Or.inl y))) (fun y => Or.inr (Or.inr (Or.inr ⟨y.1, by rw [← (f5.1.2.2 a ha).1]; exact y.2⟩))))
theorem CvS.mo {gw n1 lc' rc' cc pb ib b1 b2 pz zn fn y0 q0 : Nat} {Z0 P : Nat → Nat → Int32} {zp : Int32} {Ψ1 Ψ2 : Wg} {R : RMo} {hl : List Int32} {C : CoT} (hC : CvS ow ga gm M ms gs mb gb) (hb : mN M4 < mBig) (h4 : ms.length < 4) (f4 : fr (fun a => a = 0 ∨ (4 ≤ a ∧ a ≤ 28) ∨ a = 2 ∨ (a = mb ∧ mK M a = 24)) M M4) (hE3 : mE M M3) (A4 : ALp M4 2 mb' 3 (ms ++ [mN M])) (hF : ALF M3 M4 2 mb mb' ms.length) (F4 : Fix M4) (hp : MdW τ m σ root γ g0 (mN M) gw Z0 P zp Ψ1 Ψ2 ∧ TwT (woS τ m σ γ) R zn fn y0 root q0 ∧ MdR τ m σ R ∧ τ.1.length ≤ 16 ∧ σ.2.2.1.length ≤ 810 ∧ (ifS σ).length ≤ 80 ∧ τ.2.2.2.1.length ≤ 6 ∧ (trS σ).2.1 ≤ 24 ∧ BeO τ) (hM : MoM M4 (mN M) τ σ Ψ2 hl lc' rc' cc pb ib b1 b2 (mN M + 11) (mN M + 12) pz ps) (hz : MoZ (mN M) (mN M3) lc' rc' cc pb ib b1 b2 ps) (e17 : mR M4 (mN M) 17 = none) (hT0 : MoP M4 (mN M) τ P pz root) (hT1 : τ.2.1.length = τ.1.length ∧ (inL τ.2.1).length ≤ 4 ∧ C = CorW τ (mN M) R Ψ2 P pz root) : ∃ ow' ga', (∀ a, a < mN M → ow' a = ow a ∧ ga' a = ga a) ∧ ga' (mN M) = (τ, σ, C) ∧ CvS ow' ga' gm M4 (ms ++ [mN M]) gs mb' gb ∧ KeP ms gs M M4 := by
  obtain ⟨F, ⟨A2, -⟩, ⟨A3, g8⟩, ⟨c1, c2⟩, d0, i1, i2, hms, hgs⟩ := id hC
  have n132 := F.1
  have n25 := hz.1
  have nM34 : mN M3 ≤ mN M4 := hF.1.1.1
  obtain ⟨ow', how'⟩ : ∃ ow' : Nat → Nat, ow' = fun a => if a < mN M then ow a else if a = mN M3 then 2 else mN M := ⟨_, rfl⟩
  have hag : ∀ a, a < mN M → ow' a = ow a := fun a ha => by rw [how']; exact if_pos ha
  have hn1 : ow' (mN M3) = 2 := by rw [how']; show (if mN M3 < mN M then _ else if mN M3 = mN M3 then 2 else mN M) = 2; rw [if_neg (by omega), if_pos rfl]
  have hn2 : ∀ a, mN M ≤ a → a < mN M3 → ow' a = mN M := fun a h1 h2 => by rw [how']; show (if a < mN M then _ else if a = mN M3 then 2 else mN M) = mN M; rw [if_neg (by omega), if_neg (by omega)]
  obtain ⟨ga', hga'⟩ : ∃ ga' : Nat → Td × PS × CoT, ga' = fun a => if a = mN M then (τ, σ, C) else ga a := ⟨_, rfl⟩
  have gaq : ga' (mN M) = (τ, σ, C) := by rw [hga']; exact if_pos rfl
  have gao : ∀ a, a < mN M → ga' a = ga a := fun a ha => by rw [hga']; exact if_neg (by omega)
  clear how' hga'
  have own : ∀ a, (a = 0 ∨ (4 ≤ a ∧ a ≤ 28) ∨ a = 2 ∨ (a = mb ∧ mK M a = 24)) → a < mN M → ow a < 132 ∧ mK M a ≠ 0 := fun a z ha => by
    rcases z with z | z | z | ⟨z, zk⟩
    · exact ⟨by rw [d0 a (by omega)]; decide, kd_fix F (by omega) (by omega)⟩
    · exact ⟨by rw [d0 a (by omega)]; decide, kd_fix F (by omega) (by omega)⟩
    · exact ⟨by rw [d0 a (by omega)]; decide, by rw [z, (ok2 F).2]; decide⟩
    · refine ⟨?_, by rw [zk]; decide⟩
      rcases c1 with y | y
      · omega
      · rw [z, y.2.2]; decide
  have fS : fr (fun a => (a = 0 ∨ (4 ≤ a ∧ a ≤ 28) ∨ a = 2 ∨ (a = mb ∧ mK M a = 24)) ∧ a < mN M) M M4 := ⟨f4.1, fun a ha hn => f4.2 a ha (fun z => hn ⟨z, ha⟩)⟩
  have nS' : ∀ {v : Nat}, 132 ≤ v → ∀ a, ((a = 0 ∨ (4 ≤ a ∧ a ≤ 28) ∨ a = 2 ∨ (a = mb ∧ mK M a = 24)) ∧ a < mN M) → ow' a ≠ v := fun {v} hv a z e => by
    have := (own a z.1 z.2).1
    rw [hag a z.2] at e
    omega
  have k0 : ∀ a, ((a = 0 ∨ (4 ≤ a ∧ a ≤ 28) ∨ a = 2 ∨ (a = mb ∧ mK M a = 24)) ∧ a < mN M) → mK M a ≠ 0 := fun a z => (own a z.1 z.2).2
  have mlt : ∀ q, q < ms.length → ms.getD q 0 < mN M := fun q hq => (hms q hq).2.on.1
  have mbx : mb' = mBig + 5 ∨ (132 ≤ mb' ∧ mb' < mN M4 ∧ ow' mb' = 2) := by
    have lt : mb' = mBig + 5 ∨ mb' < mN M4 := by
      rcases A4.2.2.2.2.2 with ⟨e, -⟩ | ⟨o, -⟩
      · exact Or.inl e
      · exact Or.inr o.1
    rcases lt with y | y
    · exact Or.inl y
    · rcases hF.2.2.2.2.1 with e | e
      · rw [e]
        rcases c1 with q | q
        · exact Or.inl q
        · exact Or.inr ⟨q.1, by have := f4.1.1; omega, by rw [hag _ q.2.1]; exact q.2.2⟩
      · rw [e]
        exact Or.inr ⟨by omega, by rw [← e]; exact y, hn1⟩
  have X4 : CmX ow' M4 (mN M) τ σ C := ⟨m, root, γ, g0, gw, Z0, P, zp, Ψ1, Ψ2, R, zn, fn, y0, q0, hl, lc', rc', cc, pb, ib, b1, b2, mN M + 11, mN M + 12, pz, mN M3, ps, hp, hM, hz, ⟨nM34, hn2, hn2 _ (by omega) (by omega), hn2 _ (by omega) (by omega)⟩, hT0, hT1, Or.inl e17⟩
  refine ⟨ow', ga', fun a ha => ⟨hag a ha, gao a ha⟩, gaq, ⟨F4, ⟨A4, by rw [List.length_append]; exact h4⟩, ⟨alp_fr3 A3 f4 (fun z => ?_) (fun o z => ?_), g8⟩, ⟨mbx, c2.imp id (fun y => ⟨y.1, Nat.lt_of_lt_of_le y.2.1 f4.1.1, by rw [hag _ y.2.1]; exact y.2.2⟩)⟩, fun a ha => by rw [hag a (by omega)]; exact d0 a ha, fun p q hp hq e => ?_, i2, fun q hq => ?_, fun q hq => ?_⟩, hC.ke f4 (fun a z ha => (own a z ha).1)⟩
  · rcases z with z | z | z | ⟨z, -⟩
    · exact absurd z (by decide)
    · omega
    · exact absurd z (by decide)
    · rcases c1 with y | y
      · rw [← z] at y; exact absurd y (by decide)
      · omega
  · have := o.1
    rcases c2 with y2 | y2
    · omega
    · rcases z with z | z | z | ⟨z, -⟩
      · omega
      · omega
      · omega
      · rcases c1 with y | y
        · omega
        · rw [z, y.2.2] at y2; exact absurd y2.2.2 (by decide)
  · rw [List.length_append] at hp hq
    have hp : p < ms.length + 1 := hp
    have hq : q < ms.length + 1 := hq
    by_cases p1' : p < ms.length
    · rw [getD_gl p1'] at e
      by_cases q1 : q < ms.length
      · rw [getD_gl q1] at e; exact i1 p q p1' q1 e
      · rw [show q = ms.length by omega, getD_gr] at e
        have := mlt p p1'
        omega
    · rw [show p = ms.length by omega, getD_gr] at e
      by_cases q1 : q < ms.length
      · rw [getD_gl q1] at e
        have := mlt q q1
        omega
      · omega
  · rw [List.length_append] at hq
    have hq : q < ms.length + 1 := hq
    by_cases q1 : q < ms.length
    · rw [getD_gl q1, gao _ (mlt q q1)]
      exact ⟨(hms q q1).1, ((hms q q1).2.own hag).out (by have := f4.1.1; omega) fS (nS' (hms q q1).1) k0⟩
    · rw [show q = ms.length by omega, getD_gr, gaq]
      exact ⟨n132, X4⟩
  · obtain ⟨h1, j, h2, h3, hx⟩ := hgs q hq
    refine ⟨h1, j, by rw [List.length_append]; exact Nat.lt_succ_of_lt h2, by rw [getD_gl h2]; exact h3, ?_⟩
    rw [getD_gl h2, gao _ (mlt j h2)]
    exact (hx.own hag).out fS (nS' h1)
end
end
section
/-! lists cleared; the class's clear -/
/-- clear leaves all but the list's size and its row's places -/
def ClN (M M' : Mem) : Prop := mN M' = mN M ∧ mS M' = mS M ∧ mR M' = mR M ∧ mAI M' = mAI M ∧ mAJ M' = mAJ M ∧ mJ M' = mJ M ∧ mK M' = mK M ∧ mL M' = mL M
theorem ClN.tr {M M1 M2 : Mem} (h : ClN M M1) (k : ClN M1 M2) : ClN M M2 := by
  obtain ⟨a1, a2, a3, a4, a5, a6, a7, a8⟩ := h
  obtain ⟨b1, b2, b3, b4, b5, b6, b7, b8⟩ := k
  exact ⟨b1.trans a1, b2.trans a2, b3.trans a3, b4.trans a4, b5.trans a5, b6.trans a6, b7.trans a7, b8.trans a8⟩
theorem clr_loop {h a b n : Nat} {Q : Option Value → Mem → Prop} : ∀ (k i : Nat) (M : Mem), n = i + k → n ≤ 100000 → ok M b 24 → n ≤ mL M b → mL M b ≤ 1000000 → (∀ M', fr (fun c => c = b) M M' → ClN M M' → mI M' = mI M → Q none M') → T h mdJx4a65c_clear_da8c8 27 [(3, .int (Int32.ofNat i)), (2, .int (Int32.ofNat n)), (1, .ref b), (0, .ref a)] [] M Q := by
  intro k
  induction k with
  | zero =>
    intro i M hn hl ob hL hm H
    refine xt_iload_n (j := 0) dJx4a65c_clear_da8c8_27 rfl rfl ?_
    refine xt_iload_n (j := 1) dJx4a65c_clear_da8c8_28 rfl rfl ?_
    refine xt_icmp_ge (tgt := 42) dJx4a65c_clear_da8c8_29 (by decide) (fun hc => ?_) (fun hc => ?_)
    · exact xt_return dJx4a65c_clear_da8c8_42 rfl (H M fr.rf ⟨rfl, rfl, rfl, rfl, rfl, rfl, rfl, rfl⟩ rfl)
    · exact absurd ((le32 (by omega) (by omega)).mpr (by omega)) hc
  | succ k ih =>
    intro i M hn hl ob hL hm H
    refine xt_iload_n (j := 0) dJx4a65c_clear_da8c8_27 rfl rfl ?_
    refine xt_iload_n (j := 1) dJx4a65c_clear_da8c8_28 rfl rfl ?_
    refine xt_icmp_ge (tgt := 42) dJx4a65c_clear_da8c8_29 (by decide) (fun hc => ?_) (fun hc => ?_)
    · have := (le32 (by omega) (by omega)).mp hc
      omega
    refine xt_aload_n (j := 2) dJx4a65c_clear_da8c8_32 rfl rfl ?_
    refine xt_iload_n (j := 0) dJx4a65c_clear_da8c8_33 rfl rfl ?_
    refine xt_null dJx4a65c_clear_da8c8_34 ?_
    refine xt_aastN dJx4a65c_clear_da8c8_35 ob (vp_of (by omega) (by omega)) ?_
    refine xt_iinc (j := 0) (v := Int32.ofNat (i + 1)) (lv' := [(3, .int (Int32.ofNat (i + 1))), (2, .int (Int32.ofNat n)), (1, .ref b), (0, .ref a)]) dJx4a65c_clear_da8c8_36 rfl (succ32 ..) (by show (_ : Nat) < 4; decide) rfl ?_
    refine xt_goto (tgt := 27) dJx4a65c_clear_da8c8_39 (by decide) ?_
    refine ih (i + 1) _ (by omega) hl ob hL hm (fun M' f' e' i' => H M' ((fr_wAR (S := fun c => c = b) rfl).tr f' (fun _ _ z => z)) (ClN.tr ⟨rfl, rfl, rfl, rfl, rfl, rfl, rfl, rfl⟩ e') i')
section
variable {h a b ci : Nat} {l : List Nat} {M : Mem} {Q : Option Value → Mem → Prop}
theorem S_clear (hA : ALp M a b ci l) (H : ∀ M', ALp M' a b ci [] → fr (fun c => c = a ∨ (c = b ∧ mK M c = 24)) M M' → ClN M M' → (∀ f, f ≠ 0 → f ≠ 2 → mI M' a f = mI M a f) → Q none M') : E (h + 1) mdJx4a65c_clear_da8c8 [.ref a] M Q := by
  obtain ⟨ha, hs, hl, hel, hr, hb⟩ := hA
  rcases hb with ⟨q1, q2⟩ | ⟨ob, hlen, hpos, hmx, hg⟩
  · subst q2
    refine S_clear0 ha hr hs (H _ ⟨ha, up2_eq, hl, fun v hv => absurd hv (by simp), hr, Or.inl ⟨q1, rfl⟩⟩ ((fr_wI (S := fun c => c = a ∨ (c = b ∧ mK M c = 24)) (Or.inl rfl)).tr (fr_wI (S := fun c => c = a ∨ (c = b ∧ mK M c = 24)) (Or.inl rfl)) (fun _ _ z => z)) ⟨rfl, rfl, rfl, rfl, rfl, rfl, rfl, rfl⟩ (fun f f0 f2 => ?_))
    rw [mI_wI, if_neg (fun z => f2 z.2), mI_wI, if_neg (fun z => f0 z.2)]
  · refine E.of (by decide) (Nat.le_of_ble_eq_true rfl) (fun _ _ _ => trivial) ?_
    show T _ _ 0 [(0, .ref a)] [] M _
    refine xt_aload_n (j := 0) dJx4a65c_clear_da8c8_0 rfl rfl ?_
    refine xt_dup dJx4a65c_clear_da8c8_1 rfl ?_
    refine xt_mcG dJx4a65c_clear_da8c8_2 rfl ha ?_
    refine xt_iconst (v := 1) dJx4a65c_clear_da8c8_5 (by decide) ?_
    refine xt_iadd dJx4a65c_clear_da8c8_6 ?_
    refine xt_mcP dJx4a65c_clear_da8c8_7 rfl ha ?_
    have s2 : mI (wI M a 0 (mI M a 0 + 1)) a 2 = Int32.ofNat l.length := (up2_ne (by simp)).trans hs
    refine xt_aload_n (j := 0) dJx4a65c_clear_da8c8_10 rfl rfl ?_
    refine xt_getR (b := b) dJx4a65c_clear_da8c8_11 (flJx4a65c_9 rfl) ft_1_1 ha.1 ha.2 hr ?_
    refine xt_astore_n (i := 1) (lv' := [(1, .ref b), (0, .ref a)]) dJx4a65c_clear_da8c8_14 rfl (by show (_ : Nat) < 4; decide) rfl ?_
    refine xt_aload_n (j := 1) dJx4a65c_clear_da8c8_15 rfl rfl ?_
    refine xt_getI dJx4a65c_clear_da8c8_16 (flJx4a65c_48 rfl) ft_1_2 ha.1 ha.2 ?_
    rw [s2]
    refine xt_istore_n (i := 2) (lv' := [(2, .int (Int32.ofNat l.length)), (1, .ref b), (0, .ref a)]) dJx4a65c_clear_da8c8_19 rfl (by show (_ : Nat) < 4; decide) rfl ?_
    refine xt_aload_n (j := 2) dJx4a65c_clear_da8c8_20 rfl rfl ?_
    refine xt_iconst (v := 0) dJx4a65c_clear_da8c8_21 (by decide) ?_
    refine xt_dup_x1 dJx4a65c_clear_da8c8_22 rfl rfl ?_
    refine xt_putI dJx4a65c_clear_da8c8_23 (flJx4a65c_48 rfl) rfl rfl ha.1 ha.2 ?_
    refine xt_istore_n (i := 3) (lv' := [(3, .int 0), (2, .int (Int32.ofNat l.length)), (1, .ref b), (0, .ref a)]) dJx4a65c_clear_da8c8_26 rfl (by show (_ : Nat) < 4; decide) rfl ?_
    obtain ⟨M1, e1⟩ : ∃ z, z = wI (wI M a 0 (mI M a 0 + 1)) a 2 0 := ⟨_, rfl⟩
    rw [← e1]
    have f1 : fr (fun c => c = a) M M1 := by rw [e1]; exact (fr_wI (S := fun c => c = a) rfl).tr (fr_wI (S := fun c => c = a) rfl) (fun _ _ z => z)
    have c1 : ClN M M1 := by rw [e1]; exact ⟨rfl, rfl, rfl, rfl, rfl, rfl, rfl, rfl⟩
    have i1 : mI M1 a 2 = 0 ∧ ∀ f, f ≠ 0 → f ≠ 2 → mI M1 a f = mI M a f := by
      rw [e1]
      exact ⟨up2_eq, fun f f0 f2 => by rw [mI_wI, if_neg (fun z => f2 z.2), mI_wI, if_neg (fun z => f0 z.2)]⟩
    have ob1 : ok M1 b 24 := ok_E ob f1.1
    have l1 : mL M1 b = mL M b := by rw [c1.2.2.2.2.2.2.2]
    clear e1
    refine clr_loop (n := l.length) l.length 0 M1 (by omega) hl ob1 (by omega) (by omega) (fun M' f' c' i' => ?_)
    have c2 := c1.tr c'
    refine H M' ⟨ok_E (ok_E ha f1.1) f'.1, by rw [i']; exact i1.1, Nat.zero_le _, fun v hv => absurd hv (by simp), by rw [c2.2.2.1]; exact hr, Or.inr ⟨ok_E ob1 f'.1, Nat.zero_le _, by rw [c2.2.2.2.2.2.2.2]; exact hpos, by rw [c2.2.2.2.2.2.2.2]; exact hmx, fun i hi => absurd hi (Nat.not_lt_zero _)⟩⟩ ((f1.more (fun _ _ z => Or.inl z)).tr f' (fun c _ z => Or.inr ⟨z, by rw [z]; exact ob.2⟩)) c2 (fun f f0 f2 => by rw [i']; exact i1.2 f f0 f2)
end
section
variable {ow : Nat → Nat} {ga : Nat → Td × PS × CoT} {gm : Nat → Nat} {M M' : Mem} {ms gs : List Nat} {mb gb h : Nat} {Q : Option Value → Mem → Prop}
/-- the class's clear: how many modules there were -/
theorem G_clear (hC : CvS ow ga gm M ms gs mb gb) (hb : mN M < mBig) (H : ∀ M', CvS ow ga gm M' [] [] mb gb → ClN M M' → fr (fun c => c = 2 ∨ c = 3 ∨ 132 ≤ c) M M' → Q (some (.int (Int32.ofNat ms.length))) M') : E (h + 2) mdX10_clear [.ref 0] M Q := by
  obtain ⟨F, ⟨a1, a2⟩, ⟨b1, b2⟩, ⟨c1, c2⟩, d, -, -, -, -⟩ := hC
  refine KX10_clear (h := h + 1) ?_
  unfold DX10_clear_0
  refine ⟨ok0 F, 2, rf0_2 F, a1.1, S_alSize (h := h) a1 (fun _ => ⟨_, rfl, 2, rf0_2 F, a1.1, S_clear (h := h) a1 (fun M1 A1 f1 e1 i1 _ => ⟨rfl, ?_⟩)⟩)⟩
  have fx : ∀ {N N' : Mem}, Fix N → mE N N' → ClN N N' → Fix N' := fun F k e => F.of_fr (S := fun _ => True) k (fun e' _ => by rw [e.2.2.1]) (by rw [e.2.2.2.2.1])
  have F1 := fx F f1.1 e1
  have nB : (132 : Nat) < mBig := by unfold mBig; omega
  have hm : 132 ≤ mb := by
    rcases c1 with y | y
    · omega
    · exact y.1
  have hg : 132 ≤ gb := by
    rcases c2 with y | y
    · omega
    · exact y.1
  have ne : gb < mN M → gb ≠ mb := fun y z => by
    rcases c2 with q | q
    · omega
    · rcases c1 with w | w
      · omega
      · rw [z, w.2.2] at q; exact absurd q.2.2 (by decide)
  have n1 : mN M1 = mN M := e1.1
  have b1' : ALp M1 3 gb 4 gs := alp_fr3 b1 f1 (fun z => by
    rcases z with z | ⟨z, -⟩
    · exact absurd z (by decide)
    · omega) (fun o z => by
    rcases z with z | ⟨z, -⟩
    · omega
    · exact ne o.1 z)
  refine ⟨3, rf0_3 F1, b1'.1, S_clear (h := h) b1' (fun M2 A2 f2 e2 i2 _ => ⟨rfl, ?_⟩)⟩
  have F2 := fx F1 f2.1 e2
  have n2 : mN M2 = mN M1 := e2.1
  have A1' : ALp M2 2 mb 3 [] := alp_fr3 A1 f2 (fun z => by
    rcases z with z | ⟨z, -⟩
    · exact absurd z (by decide)
    · omega) (fun o z => by
    rcases z with z | ⟨z, -⟩
    · omega
    · exact ne (by have := o.1; omega) z.symm)
  refine H M2 ⟨F2, ⟨A1', Nat.zero_le _⟩, ⟨A2, Nat.zero_le _⟩, ⟨by rw [n2, n1]; exact c1, by rw [n2, n1]; exact c2⟩, d, fun i j hi => absurd hi (Nat.not_lt_zero _), fun i j hi => absurd hi (Nat.not_lt_zero _), fun i hi => absurd hi (Nat.not_lt_zero _), fun i hi => absurd hi (Nat.not_lt_zero _)⟩ (e1.tr e2) ((f1.more (fun c _ z => ?_)).tr f2 (fun c _ z => ?_))
  · rcases z with z | ⟨z, -⟩
    · exact Or.inl z
    · exact Or.inr (Or.inr (by omega))
  · rcases z with z | ⟨z, -⟩
    · exact Or.inr (Or.inl z)
    · exact Or.inr (Or.inr (by omega))
end
end
