/-! a governor of the class: its rows, and the small methods over them -/
def RoG (M : Mem) (r : Nat) : Prop := ∀ j, 4 ≤ j → j < 26 → InG (mAI M r j).toInt64
/-- governor g of plan c: its rows now, next, kept (kp, with rows ks), given numbers, wires -/
def GvS (M : Mem) (g c nw nx kp gn wr nP : Nat) (ks : Nat → Nat) : Prop := (ok M g 4 ∧ mR M g 0 = some c ∧ mR M g 2 = some nw ∧ mR M g 3 = some nx ∧ mR M g 4 = some kp ∧ mR M g 7 = some gn ∧ mR M g 8 = some wr) ∧ ((ok M nw 21 ∧ mL M nw = 26) ∧ (ok M nx 21 ∧ mL M nx = 26) ∧ (ok M gn 21 ∧ mL M gn = 4) ∧ (ok M wr 21 ∧ mL M wr = nP)) ∧ (ok M kp 25 ∧ mL M kp = 3 ∧ ∀ i, i < 3 → mAR M kp i = some (ks i) ∧ ok M (ks i) 21 ∧ mL M (ks i) = 26) ∧ (nw ≠ nx ∧ gn ≠ nw ∧ gn ≠ nx ∧ wr ≠ nw ∧ wr ≠ nx ∧ wr ≠ gn ∧ ∀ i, i < 3 → ks i ≠ nw ∧ ks i ≠ nx ∧ ks i ≠ gn ∧ ks i ≠ wr)
/-- numbers in range, how often it is kept -/
def GvR (M : Mem) (g nw nx gn : Nat) (ks : Nat → Nat) : Prop := RoG M nw ∧ RoG M nx ∧ (∀ i, i < 3 → RoG M (ks i)) ∧ (∀ j, j < 4 → InG (mAI M gn j).toInt64) ∧ ∃ q, q ≤ 3 ∧ mI M g 5 = Int32.ofNat q
/-- only numbers of g (fields fs) and rows of S change -/
def GmF (g : Nat) (fs S : Nat → Prop) (M M' : Mem) : Prop := (mN M' = mN M ∧ mS M' = mS M ∧ mK M' = mK M ∧ mL M' = mL M) ∧ (mJ M' = mJ M ∧ mR M' = mR M ∧ mAJ M' = mAJ M ∧ mAR M' = mAR M) ∧ (∀ a, a ≠ g → mI M' a = mI M a) ∧ (∀ f, ¬ fs f → mI M' g f = mI M g f) ∧ ∀ c, ¬ S c → mAI M' c = mAI M c
section
variable {g : Nat} {fs fs' S S' : Nat → Prop} {M M1 M' : Mem}
theorem GmF.rf : GmF g fs S M M := ⟨⟨rfl, rfl, rfl, rfl⟩, ⟨rfl, rfl, rfl, rfl⟩, fun _ _ => rfl, fun _ _ => rfl, fun _ _ => rfl⟩
theorem GmF.tr (h : GmF g fs S M M1) (k : GmF g fs S M1 M') : GmF g fs S M M' := by
  obtain ⟨⟨a1, a2, a3, a4⟩, ⟨b1, b2, b3, b4⟩, c1, c2, c3⟩ := h
  obtain ⟨⟨d1, d2, d3, d4⟩, ⟨e1, e2, e3, e4⟩, f1, f2, f3⟩ := k
  exact ⟨⟨d1.trans a1, d2.trans a2, d3.trans a3, d4.trans a4⟩, ⟨e1.trans b1, e2.trans b2, e3.trans b3, e4.trans b4⟩, fun a z => (f1 a z).trans (c1 a z), fun f z => (f2 f z).trans (c2 f z), fun c z => (f3 c z).trans (c3 c z)⟩
theorem GmF.mo (h : GmF g fs S M M') (h1 : ∀ f, fs f → fs' f) (h2 : ∀ c, S c → S' c) : GmF g fs' S' M M' := ⟨h.1, h.2.1, h.2.2.1, fun f z => h.2.2.2.1 f (fun y => z (h1 f y)), fun c z => h.2.2.2.2 c (fun y => z (h2 c y))⟩
theorem GmF.i {f : Nat} {v : Int32} (hf : fs f) (e : M' = wI M g f v) : GmF g fs S M M' := by
  rw [e]
  refine ⟨⟨rfl, rfl, rfl, rfl⟩, ⟨rfl, rfl, rfl, rfl⟩, fun a z => up2_row z, fun f' z => ?_, fun _ _ => rfl⟩
  rw [mI_wI, if_neg (fun y => z (by rw [y.2]; exact hf))]
theorem GmF.a {c k : Nat} {v : Int32} (hc : S c) (e : M' = wAI M c k v) : GmF g fs S M M' := by
  rw [e]
  exact ⟨⟨rfl, rfl, rfl, rfl⟩, ⟨rfl, rfl, rfl, rfl⟩, fun _ _ => rfl, fun _ _ => rfl, fun c' z => up2_row (fun y => z (by rw [y]; exact hc))⟩
theorem GmF.cp {b c : Nat} (hc : S c) (e : M' = wCp M b c 0 0 26) : GmF g fs S M M' := by
  rw [e]
  exact ⟨⟨rfl, rfl, rfl, rfl⟩, ⟨rfl, rfl, rfl, rfl⟩, fun _ _ => rfl, fun _ _ => rfl, fun c' z => va_up_ne _ _ (fun y => z (by rw [y]; exact hc))⟩
theorem GmF.e (h : GmF g fs S M M') : mE M M' := ⟨by rw [h.1.1]; exact Nat.le_refl _, by rw [h.1.2.1]; exact Nat.le_refl _, fun a _ => ⟨by rw [h.1.2.2.1], by rw [h.1.2.2.2]⟩⟩
theorem GmF.ok {a k : Nat} (h : GmF g fs S M M') (o : ok M a k) : ok M' a k := ok_E o h.e
theorem GmF.fr (h : GmF g fs S M M') : fr (fun a => a = g ∨ S a) M M' := ⟨h.e, fun a _ hn => ⟨h.2.2.1 a (fun z => hn (Or.inl z)), by rw [h.2.1.1], by rw [h.2.1.2.1], h.2.2.2.2 a (fun z => hn (Or.inr z)), by rw [h.2.1.2.2.1], by rw [h.2.1.2.2.2]⟩⟩
variable {c nw nx kp gn wr nP : Nat} {ks : Nat → Nat}
theorem GvS.gm (h : GvS M g c nw nx kp gn wr nP ks) (k : GmF g fs S M M') : GvS M' g c nw nx kp gn wr nP ks := by
  obtain ⟨⟨a1, a2, a3, a4, a5, a6, a7⟩, ⟨⟨b1, b2⟩, ⟨b3, b4⟩, ⟨b5, b6⟩, ⟨b7, b8⟩⟩, ⟨c1, c2, c3⟩, d⟩ := h
  have r := k.2.1.2.1
  have l := k.1.2.2.2
  exact ⟨⟨k.ok a1, by rw [r]; exact a2, by rw [r]; exact a3, by rw [r]; exact a4, by rw [r]; exact a5, by rw [r]; exact a6, by rw [r]; exact a7⟩, ⟨⟨k.ok b1, by rw [l]; exact b2⟩, ⟨k.ok b3, by rw [l]; exact b4⟩, ⟨k.ok b5, by rw [l]; exact b6⟩, ⟨k.ok b7, by rw [l]; exact b8⟩⟩, ⟨k.ok c1, by rw [l]; exact c2, fun i hi => ⟨by rw [k.2.1.2.2.2]; exact (c3 i hi).1, k.ok (c3 i hi).2.1, by rw [l]; exact (c3 i hi).2.2⟩⟩, d⟩
theorem RoG.k {r : Nat} (h : RoG M r) (e : mAI M' r = mAI M r) : RoG M' r := fun j h1 h2 => by rw [e]; exact h j h1 h2
theorem RoG.up {r k : Nat} {v : Int32} (h : RoG M r) (hv : 4 ≤ k → InG v.toInt64) (e : M' = wAI M r k v) : RoG M' r := fun j h1 h2 => by
  rw [e, mAI_wAI]
  by_cases z : j = k
  · rw [if_pos ⟨rfl, z⟩]; exact hv (by omega)
  · rw [if_neg (fun y => z y.2)]; exact h j h1 h2
variable {h : Nat} {Q : Option Value → Mem → Prop}
theorem GvR.i (hR : GvR M g nw nx gn ks) (k : GmF g fs noP M M') (h5 : ¬ fs 5) : GvR M' g nw nx gn ks := by
  obtain ⟨a1, a2, a3, a4, q, a5, a6⟩ := hR
  have e : ∀ c, mAI M' c = mAI M c := fun c => k.2.2.2.2 c (fun z => z)
  exact ⟨a1.k (e _), a2.k (e _), fun i hi => (a3 i hi).k (e _), fun j hj => by rw [e]; exact a4 j hj, q, a5, by rw [k.2.2.2.1 5 h5]; exact a6⟩
theorem S_hasE (hS : GvS M g c nw nx kp gn wr nP ks) (K : ∀ r : Int32, (mAI M nw 3 = 0 ∧ r = 0) ∨ (¬ mAI M nw 3 = 0 ∧ r = 1) → Q (some (.int r)) M) : E (h + 1) mdX2_hasEnded [.ref g] M Q := by
  refine KX2_hasEnded ?_
  unfold DX2_hasEnded_0 DX2_hasEnded_14
  refine ⟨hS.1.1, nw, hS.1.2.2.1, hS.2.1.1.1, by rw [hS.2.1.1.2]; exact vp_of (n := 3) (by decide) (by decide), fun z => ⟨Or.inl rfl, K 0 (Or.inl ⟨z, rfl⟩)⟩, fun z => ⟨Or.inr rfl, K 1 (Or.inr ⟨z, rfl⟩)⟩⟩
theorem S_forg (hS : GvS M g c nw nx kp gn wr nP ks) (K : ∀ M', GmF g (fun f => f = 10 ∨ f = 12 ∨ f = 13) noP M M' → mI M' g 12 = 0 → Q none M') : E (h + 1) mdX2_forgetBeat [.ref g] M Q := by
  refine KX2_forgetBeat ?_
  unfold DX2_forgetBeat_0
  refine ⟨hS.1.1, fun M2 e2 M3 e3 M4 e4 => K M4 ?_ ?_⟩
  · exact ((GmF.i (fs := fun f => f = 10 ∨ f = 12 ∨ f = 13) (Or.inl rfl) e2).tr (GmF.i (Or.inr (Or.inl rfl)) e3)).tr (GmF.i (Or.inr (Or.inr rfl)) e4)
  · rw [e4, mI_wI, if_neg (fun y => absurd y.2 (by decide)), e3, mI_wI, if_pos ⟨rfl, rfl⟩]
theorem S_take {i : Nat} {x v : Int32} (hS : GvS M g c nw nx kp gn wr nP ks) (hR : GvR M g nw nx gn ks) (hi : i < 4) (hv : InG v.toInt64) (K : ∀ M', GmF g (fun f => f = 6) (fun c => c = gn) M M' → GvR M' g nw nx gn ks → Q none M') : E (h + 1) mdX2_take [.ref g, .int (Int32.ofNat i), .int x, .int v] M Q := by
  have fin : ∀ w : Int32, DX2_take_26 h g (Int32.ofNat i) v g w M Q := by
    intro w
    unfold DX2_take_26
    refine ⟨hS.1.1, fun M2 e2 => ?_⟩
    have k2 : GmF g (fun f => f = 6) (fun c => c = gn) M M2 := GmF.i rfl e2
    have S2 := hS.gm k2
    refine ⟨S2.1.1, gn, S2.1.2.2.2.2.2.1, S2.2.1.2.2.1.1, by rw [S2.2.1.2.2.1.2]; exact vp_of hi (by decide), fun M6 e6 => ?_⟩
    rw [lt32 (by omega)] at e6
    have k6 : GmF g (fun f => f = 6) (fun c => c = gn) M2 M6 := GmF.a rfl e6
    have k := k2.tr k6
    refine K M6 k ?_
    obtain ⟨a1, a2, a3, a4, q, a5, a6⟩ := hR
    obtain ⟨-, -, -, d1, d2, d3, d4, d5, d6, d7⟩ := hS
    refine ⟨a1.k (k.2.2.2.2 nw (fun z => d2 z.symm)), a2.k (k.2.2.2.2 nx (fun z => d3 z.symm)), fun j hj => (a3 j hj).k (k.2.2.2.2 _ (d7 j hj).2.2.1), fun j hj => ?_, q, a5, by rw [k.2.2.2.1 5 (by decide)]; exact a6⟩
    rw [e6, mAI_wAI]
    by_cases z : j = i
    · rw [if_pos ⟨rfl, z⟩]; exact hv
    · rw [if_neg (fun y => z y.2), e2]; exact a4 j hj
  refine KX2_take ?_
  unfold DX2_take_0
  exact ⟨fun _ => ⟨hS.1.1, fin _⟩, fun _ => ⟨hS.1.1, fin _⟩⟩
theorem S_wire {i : Nat} {w : Int32} (hS : GvS M g c nw nx kp gn wr nP ks) (hi : i < nP) (hn : nP ≤ 40) (K : ∀ r : Int32, Q (some (.int r)) M) : E (h + 1) mdX2_wireOf [.ref g, .int (Int32.ofNat i), .int w] M Q := by
  refine KX2_wireOf ?_
  unfold DX2_wireOf_0 DX2_wireOf_25
  refine ⟨hS.1.1, wr, hS.1.2.2.2.2.2.2, hS.2.1.2.2.2.1, fun _ => K _, fun _ => ⟨wr, hS.1.2.2.2.2.2.2, hS.2.1.2.2.2.1, by rw [hS.2.1.2.2.2.2]; exact vp_of hi (by omega), K _⟩⟩
theorem S_like {g2 c2 nw2 nx2 kp2 gn2 wr2 nP2 : Nat} {ks2 : Nat → Nat} (hS : GvS M g c nw nx kp gn wr nP ks) (hS2 : GvS M g2 c2 nw2 nx2 kp2 gn2 wr2 nP2 ks2) (K : ∀ r : Int32, r = 0 ∨ r = 1 → Q (some (.int r)) M) : E (h + 1) mdX2_likeOther [.ref g, .ref g2] M Q := by
  have main : ∀ d i, i + d = 26 → T (h + 1) mdX2_likeOther 2 [(0, .ref g), (1, .ref g2), (2, .int (Int32.ofNat i))] [] M Q := by
    intro d
    induction d with
    | zero =>
      intro i hi
      have e : i = 26 := by omega
      subst e
      refine VX2_likeOther_2 ?_
      unfold DX2_likeOther_2
      exact ⟨fun _ => ⟨Or.inr rfl, K 1 (Or.inr rfl)⟩, fun z => absurd Int32.le_rfl z⟩
    | succ d ih =>
      intro i hi
      have v1 : vp_in (Int32.ofNat i) (mL M nw) := by rw [hS.2.1.1.2]; exact vp_of (by omega) (by decide)
      have v2 : vp_in (Int32.ofNat i) (mL M nw2) := by rw [hS2.2.1.1.2]; exact vp_of (by omega) (by decide)
      have nle : ¬ (26 : Int32) ≤ Int32.ofNat i := fun z => by
        have := (le32 (a := 26) (by decide) (by omega)).mp z
        omega
      have f72 : ∀ s : Int32, DX2_likeOther_72 h g g2 (Int32.ofNat i) s M Q := by
        intro s
        unfold DX2_likeOther_72
        rw [succ32]
        exact ⟨fun _ => ih (i + 1) (by omega), fun _ => ⟨Or.inl rfl, K 0 (Or.inl rfl)⟩⟩
      have f41 : ∀ s t : Int32, DX2_likeOther_41 h g g2 (Int32.ofNat i) s t M Q := by
        intro s t
        unfold DX2_likeOther_41
        exact ⟨fun _ => f72 0, fun _ => f72 1⟩
      have f27 : ∀ s : Int32, DX2_likeOther_27 h g g2 (Int32.ofNat i) s M Q := by
        intro s
        unfold DX2_likeOther_27
        exact ⟨hS2.1.1, nw2, hS2.1.2.2.1, hS2.2.1.1.1, v2, fun _ => f41 s 0, fun _ => f41 s 1⟩
      refine VX2_likeOther_2 ?_
      unfold DX2_likeOther_2
      exact ⟨fun z => absurd z nle, fun _ => ⟨fun _ => ⟨hS.1.1, nw, hS.1.2.2.1, hS.2.1.1.1, v1, hS2.1.1, nw2, hS2.1.2.2.1, hS2.2.1.1.1, v2, fun _ => f72 0, fun _ => f72 1⟩, fun _ => ⟨hS.1.1, nw, hS.1.2.2.1, hS.2.1.1.1, v1, fun _ => f27 0, fun _ => f27 1⟩⟩⟩
  refine KX2_likeOther ?_
  unfold DX2_likeOther_0
  exact main 26 0 (by omega)
theorem S_store {q : Nat} (hS : GvS M g c nw nx kp gn wr nP ks) (hR : GvR M g nw nx gn ks) (hq : mI M g 5 = Int32.ofNat q) (h3 : q < 3) (K : ∀ M', GmF g (fun f => f = 5) (fun c => c = ks q) M M' → GvR M' g nw nx gn ks → mI M' g 5 = Int32.ofNat (q + 1) → Q none M') : E (h + 1) mdX2_store [.ref g] M Q := by
  refine KX2_store ?_
  unfold DX2_store_0 DX2_store_38
  have nle : ¬ (3 : Int32) ≤ Int32.ofNat q := fun z => by
    have := (le32 (a := 3) (by decide) (by omega)).mp z
    omega
  obtain ⟨c1, c2, c3⟩ := hS.2.2.1
  obtain ⟨k1, k2, k3⟩ := c3 q h3
  rw [hq]
  refine ⟨hS.1.1, fun z => absurd z nle, fun _ => ⟨nw, hS.1.2.2.1, kp, hS.1.2.2.2.2.1, c1, by rw [c2]; exact vp_of h3 (by decide), ks q, by rw [lt32 (by omega)]; exact k1, hS.2.1.1.1, k2, ⟨by decide, by decide, by decide, by rw [hS.2.1.1.2]; decide, by rw [k3]; decide⟩, fun M8 e8 M9 e9 => ?_⟩⟩
  have g8 : GmF g (fun f => f = 5) (fun c => c = ks q) M M8 := GmF.cp rfl e8
  have g9 : GmF g (fun f => f = 5) (fun c => c = ks q) M8 M9 := GmF.i rfl e9
  have i8 : mI M8 g 5 = Int32.ofNat q := by rw [e8]; exact hq
  have i9 : mI M9 g 5 = Int32.ofNat (q + 1) := by rw [e9, mI_wI, if_pos ⟨rfl, rfl⟩, i8, succ32]
  have gg := g8.tr g9
  refine K M9 gg ?_ i9
  obtain ⟨a1, a2, a3, a4, -⟩ := hR
  obtain ⟨-, -, -, d1, d2, d3, d4, d5, d6, d7⟩ := hS
  obtain ⟨t1, t2, t3, t4⟩ := d7 q h3
  refine ⟨a1.k (gg.2.2.2.2 nw (fun z => t1 z.symm)), a2.k (gg.2.2.2.2 nx (fun z => t2 z.symm)), fun j hj => ?_, fun j hj => by rw [gg.2.2.2.2 gn (fun z => t3 z.symm)]; exact a4 j hj, q + 1, by omega, i9⟩
  by_cases z : ks j = ks q
  · rw [z]
    intro k x1 x2
    have : mAI M9 (ks q) k = mAI M nw k := by
      rw [e9, e8]
      show va_up (mAI M) (ks q) (va_cpy (mAI M nw) (mAI M (ks q)) 0 0 26) (ks q) k = _
      rw [va_up_self]
      unfold va_cpy
      rw [if_pos ⟨Nat.zero_le _, by omega⟩, Nat.zero_add, Nat.sub_zero]
    rw [this]
    exact a1 k x1 x2
  · exact (a3 j hj).k (gg.2.2.2.2 _ z)
theorem FilR.gm {cc i j : Nat} {v : Int32} (hc : S cc) (k : FilR M M' cc i j v) : GmF g fs S M M' := by
  obtain ⟨⟨e1, e2, e3, e4⟩, ⟨e5, e6, e7, e8, e9⟩, e10, -⟩ := k
  exact ⟨⟨e1, e2, e3, e4⟩, ⟨e6, e7, e8, e9⟩, fun a _ => by rw [e5], fun f _ => by rw [e5], fun d hd => e10 d (fun z => hd (by rw [z]; exact hc))⟩
theorem S_rest {q : Nat} (hS : GvS M g c nw nx kp gn wr nP ks) (hR : GvR M g nw nx gn ks) (hn : nP ≤ 40) (hq : mI M g 5 = Int32.ofNat (q + 1)) (h3 : q < 3) (K : ∀ M', GmF g (fun f => f = 5 ∨ f = 6 ∨ f = 10 ∨ f = 11 ∨ f = 12 ∨ f = 13) (fun c => c = nw ∨ c = wr) M M' → GvR M' g nw nx gn ks → mI M' g 5 = Int32.ofNat q → Q none M') : E (h + 2) mdX2_restore [.ref g] M Q := by
  refine KX2_restore (h := h + 1) ?_
  unfold DX2_restore_0
  have nle : ¬ Int32.ofNat (q + 1) ≤ 0 := fun z => by
    have := (le32 (a := q + 1) (b := 0) (by omega) (by decide)).mp z
    omega
  obtain ⟨c1, c2, c3⟩ := hS.2.2.1
  obtain ⟨k1, k2, k3⟩ := c3 q h3
  rw [hq]
  refine ⟨hS.1.1, fun z => absurd z nle, fun _ M2 e2 => ?_⟩
  rw [show Int32.ofNat (q + 1) - 1 = Int32.ofNat q from sub1] at e2
  have g2 : GmF g (fun f => f = 5 ∨ f = 6 ∨ f = 10 ∨ f = 11 ∨ f = 12 ∨ f = 13) (fun c => c = nw ∨ c = wr) M M2 := GmF.i (Or.inl rfl) e2
  have S2 := hS.gm g2
  have i2 : mI M2 g 5 = Int32.ofNat q := by rw [e2, mI_wI, if_pos ⟨rfl, rfl⟩]
  obtain ⟨m1, m2, m3⟩ := S2.2.2.1
  obtain ⟨n1, n2, n3⟩ := m3 q h3
  rw [i2]
  refine ⟨kp, S2.1.2.2.2.2.1, m1, by rw [m2]; exact vp_of h3 (by decide), ks q, by rw [lt32 (by omega)]; exact n1, nw, S2.1.2.2.1, n2, S2.2.1.1.1, ⟨by decide, by decide, by decide, by rw [n3]; decide, by rw [S2.2.1.1.2]; decide⟩, fun M9 e9 => ?_⟩
  have g9 := g2.tr (GmF.cp (M' := M9) (Or.inl rfl) e9)
  have S9 := hS.gm g9
  unfold DX2_restore_37
  refine ⟨S9.1.1, S_forg (h := h) S9 (fun Ma ga _ _ => ⟨rfl, fun M3 e3 M4 e4 => ?_⟩)⟩
  have gA := g9.tr (ga.mo (fun f z => by omega) (fun c z => z.elim))
  have g4 := (gA.tr (GmF.i (M' := M3) (Or.inr (Or.inr (Or.inr (Or.inl rfl)))) e3)).tr (GmF.i (M' := M4) (Or.inr (Or.inl rfl)) e4)
  have S4 := hS.gm g4
  refine ⟨wr, S4.1.2.2.2.2.2.2, S_fill2 (h := h) S4.2.1.2.2.2.1 (by rw [S4.2.1.2.2.2.2]; omega) (fun M6 R6 _ => ⟨rfl, ?_⟩)⟩
  have g6 := g4.tr (FilR.gm (Or.inr rfl) R6)
  have rows : ∀ c, c ≠ wr → mAI M6 c = mAI M9 c := fun c hc => by
    have a1 : mAI M6 c = mAI M4 c := R6.2.2.1 c hc
    rw [a1, e4]
    show mAI M3 c = _
    rw [e3]
    exact ga.2.2.2.2 c (fun z => z)
  have i6 : mI M6 g 5 = Int32.ofNat q := by
    have a1 : mI M6 = mI M4 := R6.2.1.1
    rw [a1, e4, mI_wI, if_neg (fun y => absurd y.2 (by decide)), e3, mI_wI, if_neg (fun y => absurd y.2 (by decide)), ga.2.2.2.1 5 (by decide), e9]
    exact i2
  refine K M6 g6 ?_ i6
  obtain ⟨a1, a2, a3, a4, -⟩ := hR
  obtain ⟨-, -, -, d1, d2, d3, d4, d5, d6, d7⟩ := hS
  refine ⟨fun k x1 x2 => ?_, a2.k (g6.2.2.2.2 nx (fun z => z.elim (fun y => d1 y.symm) (fun y => d5 y.symm))), fun j hj => (a3 j hj).k (g6.2.2.2.2 _ (fun z => z.elim (d7 j hj).1 (d7 j hj).2.2.2)), fun j hj => by rw [g6.2.2.2.2 gn (fun z => z.elim d2 (fun y => d6 y.symm))]; exact a4 j hj, q, by omega, i6⟩
  have : mAI M6 nw k = mAI M (ks q) k := by
    rw [rows nw (fun z => d4 z.symm), e9]
    show va_up (mAI M2) nw (va_cpy (mAI M2 (ks q)) (mAI M2 nw) 0 0 26) nw k = _
    rw [va_up_self]
    unfold va_cpy
    rw [if_pos ⟨Nat.zero_le _, by omega⟩, Nat.zero_add, Nat.sub_zero, e2]
    rfl
  rw [this]
  exact a3 q h3 k x1 x2
end
