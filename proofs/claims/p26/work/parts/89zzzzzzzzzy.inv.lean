/-! what holds between the calls -/
/-- both tapes: t bytes f -/
def TpE (M : Mem) (t : Nat) (f : Nat → Int32) : Prop := (t ≤ 800 ∧ By f ∧ ∀ i, t ≤ i → f i = 0) ∧ (mI M 0 1 = Int32.ofNat t ∧ ∀ i, i < t → mAI M 1 i &&& 255 = f i) ∧ (mI M 29 1 = Int32.ofNat t ∧ ∀ i, i < t → mAI M 30 i = f i)
/-- what the reference keeps of its module j, against the class's -/
def RmO (τ : Td) (σ : PS) (j : Nat) (M : Mem) : Prop := (mAI M 34 j = Int32.ofNat τ.1.length ∧ τ.1.length ≤ 16 ∧ mAI M 35 j = Int32.ofNat (inL τ.2.1).length ∧ mAI M 36 j = Int32.ofNat τ.2.2.2.1.length) ∧ (mAI M 54 j = Int32.ofNat (npS σ) ∧ npS σ ≤ 40 ∧ mAI M 56 j = Int32.ofNat (ifS σ).length ∧ mAI M 57 j = Int32.ofNat (σ.1.1 3) ∧ mAI M 55 j = Int32.ofNat (trS σ).2.1 ∧ bcV (omk τ.2.1) = Int32.ofNat (cntO (mAI M 38) (16 * j) τ.1.length)) ∧ ∀ i, i < npS σ → mAI M 59 (40 * j + i) = σ.2.1.1 i 0
def RmE (p : Td × PS × CoT) (j : Nat) (M : Mem) : Prop := RmO p.1 p.2.1 j M ∧ RxM p j M
/-- what against tells is the same -/
def Ag (M : Mem) : Prop := mI M 0 7 = mI M 29 123 ∧ mI M 0 8 = mI M 29 124
def IvC (A : Prop) (M : Mem) (ow : Nat → Nat) (ga : Nat → Td × PS × CoT) (gm : Nat → Nat) (ms gs : List Nat) (mb gb t : Nat) (f : Nat → Int32) : Prop := CvS ow ga gm M ms gs mb gb ∧ RvS M ms.length gs.length ∧ TpE M t f ∧ mI M 0 6 = mI M 29 6 ∧ (∀ q, q < gs.length → mI M (gs.getD q 0) 5 = mAI M 110 q) ∧ (∀ j, j < ms.length → RmE (ga (ms.getD j 0)) j M) ∧ mAI M 5 0 = 0 ∧ A
/-- what the modules may still want -/
def smS (M : Mem) (ms : List Nat) : Nat := smL (fun a => lnS M a + srS M a) ms
def smN (M : Mem) (ms : List Nat) : Nat := smL (fun a => lnN M a + srN M a) ms
def Rom (k t : Nat) (M : Mem) (ms : List Nat) : Prop := mS M + smS M ms + 682 * t ≤ 150000 + 13900 * k ∧ mN M + smN M ms + 58 * t ≤ 132 + 1171 * k
/-- ahead of the k-th call -/
def Inv (k : Nat) (M : Mem) : Prop := ∃ (ow : Nat → Nat) (ga : Nat → Td × PS × CoT) (gm : Nat → Nat) (ms gs : List Nat) (mb gb t : Nat) (f : Nat → Int32), IvC (Ag M) M ow ga gm ms gs mb gb t f ∧ Rom k t M ms
/-- a call of the class, then of the reference: answers are not compared -/
def PrN (h : Nat) (dc dr : MD) (as : List Value) (M : Mem) (P : Mem → Prop) : Prop := E h dc (.ref 0 :: as) M (fun r M1 => ∃ v : Int32, r = some (.int v) ∧ E h dr (.ref 29 :: as) M1 (fun r2 M2 => ∃ w : Int32, r2 = some (.int w) ∧ P M2))
theorem Pr.n {h : Nat} {dc dr : MD} {as : List Value} {M : Mem} {P : Mem → Prop} (k : Pr h dc dr as M P) : PrN h dc dr as M P := k.imp (fun r M1 _ ⟨v, e, k2⟩ => ⟨v, e, k2.imp (fun r2 M2 _ z => ⟨v, z.1, z.2⟩)⟩)
theorem smL_cg {f g : Nat → Nat} : ∀ (l : List Nat), (∀ j, j < l.length → f (l.getD j 0) = g (l.getD j 0)) → smL f l = smL g l
  | [], _ => rfl
  | a :: l, h => by
    have h0 : f a = g a := h 0 (Nat.succ_pos _)
    have ih := smL_cg l (fun j hj => h (j + 1) (Nat.succ_lt_succ hj))
    show f a + smL f l = g a + smL g l
    rw [h0, ih]
theorem smL_one {f g : Nat → Nat} : ∀ (l : List Nat) (i : Nat), i < l.length → (∀ j, j < l.length → j ≠ i → f (l.getD j 0) = g (l.getD j 0)) → smL f l + g (l.getD i 0) = smL g l + f (l.getD i 0)
  | [], i, hi, _ => absurd hi (Nat.not_lt_zero _)
  | a :: l, 0, _, h => by
    have ih := smL_cg l (fun j hj => h (j + 1) (Nat.succ_lt_succ hj) (Nat.succ_ne_zero _))
    show f a + smL f l + g a = g a + smL g l + f a
    rw [ih]; omega
  | a :: l, i + 1, hi, h => by
    have h0 : f a = g a := h 0 (Nat.succ_pos _) (Nat.succ_ne_zero _).symm
    have ih := smL_one l i (Nat.lt_of_succ_lt_succ hi) (fun j hj ne => h (j + 1) (Nat.succ_lt_succ hj) (fun z => ne (Nat.succ.inj z)))
    show f a + smL f l + g (l.getD i 0) = g a + smL g l + f (l.getD i 0)
    omega
section
variable {ow ow' : Nat → Nat} {ga : Nat → Td × PS × CoT} {gm : Nat → Nat} {M M1 M2 M' : Mem} {ms gs : List Nat} {mb gb t h k mods govs govs' : Nat} {f : Nat → Int32} {fs cs js : Nat → Prop} {A A' : Prop}
/-- what modules still want, where it is the same -/
def SaM (ms : List Nat) (M M' : Mem) : Prop := ∀ j, j < ms.length → lnS M' (ms.getD j 0) = lnS M (ms.getD j 0) ∧ lnN M' (ms.getD j 0) = lnN M (ms.getD j 0) ∧ mR M' (ms.getD j 0) 17 = mR M (ms.getD j 0) 17
theorem sr_eq {a : Nat} (e : mR M' a 17 = mR M a 17) : srS M' a = srS M a ∧ srN M' a = srN M a := by
  unfold srS srN
  rw [e]
  exact ⟨rfl, rfl⟩
theorem SaM.sm (h : SaM ms M M') : smS M' ms = smS M ms ∧ smN M' ms = smN M ms := by
  refine ⟨smL_cg ms (fun j hj => ?_), smL_cg ms (fun j hj => ?_)⟩
  · rw [(h j hj).1, (sr_eq (h j hj).2.2).1]
  · rw [(h j hj).2.1, (sr_eq (h j hj).2.2).2]
theorem RmU.sm (hi : ∀ i j, i < ms.length → j < ms.length → ms.getD i 0 = ms.getD j 0 → i = j) (h : RmU ms M M') : mS M' + smS M' ms ≤ mS M + smS M ms ∧ mN M' + smN M' ms ≤ mN M + smN M ms := by
  obtain ⟨c, h1, h2, h3, h4⟩ := h
  rcases h4 with ⟨i, hl, e⟩ | ⟨e1, e2, e3⟩
  · have q : ∀ j, j < ms.length → j ≠ i → ms.getD j 0 ≠ c := fun j hj ne z => ne (hi j i hj hl (z.trans e.symm))
    have a1 := smL_one (f := fun a => lnS M' a + srS M' a) (g := fun a => lnS M a + srS M a) ms i hl (fun j hj ne => by
      obtain ⟨b1, b2, b3⟩ := h1 j hj (q j hj ne)
      show lnS M' _ + srS M' _ = _
      rw [b1, (sr_eq b3).1])
    have a2 := smL_one (f := fun a => lnN M' a + srN M' a) (g := fun a => lnN M a + srN M a) ms i hl (fun j hj ne => by
      obtain ⟨b1, b2, b3⟩ := h1 j hj (q j hj ne)
      show lnN M' _ + srN M' _ = _
      rw [b2, (sr_eq b3).2])
    rw [e] at a1 a2
    have a1 : smS M' ms + (lnS M c + srS M c) = smS M ms + (lnS M' c + srS M' c) := a1
    have a2 : smN M' ms + (lnN M c + srN M c) = smN M ms + (lnN M' c + srN M' c) := a2
    omega
  · obtain ⟨a1, a2⟩ := SaM.sm (ms := ms) (M := M) (M' := M') e3
    omega
theorem RmO.mv {τ : Td} {σ : PS} {j : Nat} (h : RmO τ σ j M) (r : ∀ c, 31 ≤ c → c < 95 → mAI M' c = mAI M c) : RmO τ σ j M' := by
  unfold RmO at h ⊢
  rw [r 34 (by decide) (by decide), r 35 (by decide) (by decide), r 36 (by decide) (by decide), r 54 (by decide) (by decide), r 56 (by decide) (by decide), r 57 (by decide) (by decide), r 59 (by decide) (by decide), r 55 (by decide) (by decide), r 38 (by decide) (by decide)]
  exact h
theorem RmS.br2 {R : RMo} {sl : List Nat} (hS : RmS R sl M) (r : ∀ c, 31 ≤ c → c < 95 → mAI M' c = mAI M c) : RmS R sl M' := by
  obtain ⟨a, b, c, d, e, f1, f2, f3, f4, f5, f6⟩ := hS
  exact ⟨a, fun q y h1 h2 hy => by rw [r q (by omega) (by omega)]; exact b q y h1 h2 hy, fun y hy => by rw [r 87 (by decide) (by decide), r 88 (by decide) (by decide)]; exact c y hy, fun q p h1 h2 h3 h4 => by rw [r q (by omega) (by omega)]; exact d q p h1 h2 h3 h4, fun k hk => by rw [r 45 (by decide) (by decide), r 46 (by decide) (by decide), r 47 (by decide) (by decide)]; exact e k hk, by rw [r 79 (by decide) (by decide)]; exact f1, by rw [r 92 (by decide) (by decide)]; exact f2, by rw [r 94 (by decide) (by decide)]; exact f3, fun j hj => by rw [r 93 (by decide) (by decide)]; exact f4 j hj, by rw [r 34 (by decide) (by decide)]; exact f5, fun s hs => by rw [r 38 (by decide) (by decide)]; exact f6 s hs⟩
theorem RpM.br2 {X : List Nd} {m np : Nat} (hR : RpM M X m np) (r : ∀ c, 31 ≤ c → c < 95 → mAI M' c = mAI M c) (j : mAJ M' 50 = mAJ M 50) : RpM M' X m np := by
  obtain ⟨a1, ⟨a2, a3⟩, ⟨a4, a5⟩, a6⟩ := hR
  refine ⟨a1, ⟨?_, a3⟩, ⟨by rw [r 54 (by decide) (by decide)]; exact a4, a5⟩, fun i hi => ?_⟩
  · unfold XR at a2 ⊢
    rw [r 48 (by decide) (by decide), r 49 (by decide) (by decide), r 51 (by decide) (by decide), j]
    exact a2
  · have := a6 i hi
    unfold RtP SuR at this ⊢
    rw [r 58 (by decide) (by decide), r 60 (by decide) (by decide), r 64 (by decide) (by decide), r 65 (by decide) (by decide), r 66 (by decide) (by decide), r 67 (by decide) (by decide)]
    exact this
theorem RbM.br2 {R : RMo} {sl il : List Nat} {X : List Nd} {np : Nat} (h : RbM R sl il X np M) (r : ∀ c, 31 ≤ c → c < 95 → mAI M' c = mAI M c) (j : mAJ M' 50 = mAJ M 50) : RbM R sl il X np M' := by
  obtain ⟨a, b, ⟨c1, c2, c3⟩, d, e1, f1⟩ := h
  exact ⟨a.br2 r, b, ⟨by rw [r 35 (by decide) (by decide)]; exact c1, by rw [r 41 (by decide) (by decide)]; exact c2, c3⟩, d.br2 r j, by rw [r 90 (by decide) (by decide)]; exact e1, by rw [r 91 (by decide) (by decide)]; exact f1⟩
theorem RxM.mv {p : Td × PS × CoT} {j : Nat} (h : RxM p j M) (r : ∀ c, 31 ≤ c → c < 95 → mAI M' c = mAI M c) (jj : mAJ M' 50 = mAJ M 50) (r2 : ∀ c, 122 ≤ c → c ≤ 130 → mAI M' c = mAI M c) : RxM p j M' := by
  obtain ⟨R, sl, il, X, np, y, ⟨⟨eR, hB⟩, hy, ey⟩, hM, ⟨⟨e1, e2⟩, e3, e4⟩, ⟨hf, t9⟩, hs⟩ := h
  exact ⟨R, sl, il, X, np, y, ⟨⟨eR, hB.br2 r jj⟩, hy, by rw [r 91 (by decide) (by decide)]; exact ey⟩, hM, ⟨⟨by unfold asM; rw [r 40 (by decide) (by decide)]; exact e1, by unfold ouM; rw [r 38 (by decide) (by decide)]; exact e2⟩, by rw [r 34 (by decide) (by decide)]; exact e3, e4⟩, ⟨by unfold FrE; rw [r 35 (by decide) (by decide), r 56 (by decide) (by decide)]; exact hf, t9⟩, hs.k r2⟩
theorem RmE.mv {p : Td × PS × CoT} {j : Nat} (h : RmE p j M) (r : ∀ c, 31 ≤ c → c < 95 → mAI M' c = mAI M c) (jj : mAJ M' 50 = mAJ M 50) (r2 : ∀ c, 122 ≤ c → c ≤ 130 → mAI M' c = mAI M c) : RmE p j M' := ⟨h.1.mv r, h.2.mv r jj r2⟩
/-- the reference's modules and searches stay; governors as they come -/
theorem RvS.kk (hR : RvS M mods govs) (F : Fix M') (e18 : mI M' 29 18 = mI M 29 18) (e91 : mI M' 29 91 = Int32.ofNat govs') (g8 : govs' ≤ 8) (hb : Bo M') (hg : ∀ g, g < govs' → ∃ m, m < mods ∧ mAI M' 102 g = Int32.ofNat m) (hk : ∀ g, g < govs' → ∃ q, q ≤ 3 ∧ mAI M' 110 g = Int32.ofNat q) (r : ∀ c, 31 ≤ c → c < 95 → mAI M' c = mAI M c) (j : mAJ M' 50 = mAJ M 50) (r2 : ∀ c, 122 ≤ c → c ≤ 131 → mAI M' c = mAI M c) : RvS M' mods govs' := by
  obtain ⟨⟨-, ⟨a1, a2, a3⟩, -, -, -, e⟩, hL, hm⟩ := hR
  refine ⟨⟨F, ⟨by rw [e18]; exact a1, a2, hb⟩, ⟨e91, g8⟩, hg, hk, ?_⟩, hL.k (r2 129 (by decide) (by decide)), fun m hm' => ?_⟩
  · rw [r 34 (by decide) (by decide), r 35 (by decide) (by decide), r 36 (by decide) (by decide), r 54 (by decide) (by decide), r 55 (by decide) (by decide)]; exact e
  · obtain ⟨⟨R, sl, il, X, np, eR, a, b, ⟨c1, c2, c3⟩, d, e1, f1⟩, g, q⟩ := hm m hm'
    refine ⟨⟨R, sl, il, X, np, eR, a.br2 r, b, ⟨by rw [r 35 (by decide) (by decide)]; exact c1, by rw [r 41 (by decide) (by decide)]; exact c2, c3⟩, d.br2 r j, by rw [r 90 (by decide) (by decide)]; exact e1, by rw [r 91 (by decide) (by decide)]; exact f1⟩, ?_, by rw [r 56 (by decide) (by decide)]; exact q⟩
    unfold SrG SrI FrE ClF at g ⊢
    rw [r2 122 (by decide) (by decide), r2 123 (by decide) (by decide), r2 126 (by decide) (by decide), r2 128 (by decide) (by decide), r 35 (by decide) (by decide), r 56 (by decide) (by decide)]
    exact g
theorem RvS.cl (hR : RvS M mods govs) (F : Fix M') (i29 : mI M' 29 = mI M 29) (r : ∀ c, 31 ≤ c → c ≤ 131 → mAI M' c = mAI M c) (rj : mAJ M' 50 = mAJ M 50) : RvS M' mods govs := by
  obtain ⟨-, ⟨a1, a2, a3⟩, ⟨b1, b2⟩, c, d, -⟩ := id hR.1
  exact hR.kk F (by rw [i29]) (by rw [i29]; exact b1) b2 (fun j => by rw [r 103 (by decide) (by decide)]; exact a3 j) (by rw [r 102 (by decide) (by decide)]; exact c) (by rw [r 110 (by decide) (by decide)]; exact d) (fun c h1 h2 => r c h1 (by omega)) rj (fun c h1 h2 => r c (by omega) h2)
/-- a beat or a gift of the reference -/
theorem RvS.rb (hR : RvS M mods govs) (k : RfF fs cs js M M') (hf : ∀ f, fs f → f ≠ 18 ∧ f ≠ 91) (hc : ∀ c, cs c → 95 ≤ c ∧ c < 122 ∧ c ≠ 102 ∧ c ≠ 110) (hj : ∀ c, js c → 95 ≤ c) (hb : Bo M') : RvS M' mods govs := by
  obtain ⟨F, ⟨a1, a2, a3⟩, ⟨b1, b2⟩, c, d, -⟩ := id hR.1
  have fe : ∀ f, f = 18 ∨ f = 91 → mI M' 29 f = mI M 29 f := fun f h => k.2.2.2.1 f (fun z => by have := hf f z; omega)
  have r : ∀ c, c < 95 ∨ 122 ≤ c ∨ c = 102 ∨ c = 110 → mAI M' c = mAI M c := fun c h => k.2.2.2.2.1 c (fun z => by have := hc c z; omega)
  exact hR.kk (k.fix F (fun z => by have := hj 19 z; omega)) (fe 18 (Or.inl rfl)) (by rw [fe 91 (Or.inr rfl)]; exact b1) b2 hb (by rw [r 102 (by omega)]; exact c) (by rw [r 110 (by omega)]; exact d) (fun c _ h => r c (by omega)) (k.2.2.2.2.2 50 (fun z => by have := hj 50 z; omega)) (fun c h _ => r c (by omega))
theorem Rom.big (h : Rom k t M ms) (hk : k ≤ 512) : mN M + 100 ≤ 600000 := by
  unfold Rom at h
  omega
theorem Rom.bg (h : Rom k t M ms) (hk : k ≤ 512) : mN M + 20 < mBig := by
  have := h.big hk
  unfold mBig
  omega
theorem Inv.up (h : Inv k M) : Inv (k + 1) M := by
  obtain ⟨ow, ga, gm, ms, gs, mb, gb, t, f, h1, h2⟩ := h
  exact ⟨ow, ga, gm, ms, gs, mb, gb, t, f, h1, by unfold Rom at h2 ⊢; omega⟩
theorem Rom.st (h : Rom k t M ms) (e : mS M' + smS M' ms ≤ mS M + smS M ms ∧ mN M' + smN M' ms ≤ mN M + smN M ms) : Rom (k + 1) t M' ms := by
  unfold Rom at h ⊢
  omega
/-- a call of the class that leaves the tapes, faults and counts -/
theorem IvC.c (h : IvC A M ow ga gm ms gs mb gb t f) (hC' : CvS ow' ga gm M1 ms gs mb gb) (k : fr (fun a => a = 0 ∨ 132 ≤ a) M M1) (e1 : mI M1 0 1 = mI M 0 1) (e6 : mI M1 0 6 = mI M 0 6) (hk : ∀ q, q < gs.length → mI M1 (gs.getD q 0) 5 = mI M (gs.getD q 0) 5) (hA : mI M1 29 = mI M 29 → A → A') : IvC A' M1 ow' ga gm ms gs mb gb t f := by
  obtain ⟨hC, hR, ⟨t1, ⟨t2, t3⟩, t4, t5⟩, h6, hq, hm, h5⟩ := h
  have n132 := hC.1.1
  have row : ∀ c, 1 ≤ c → c < 132 → sameRow M M1 c := fun c h1 h2 => k.2 c (by omega) (by omega)
  have r : ∀ c, 1 ≤ c → c < 132 → mAI M1 c = mAI M c := fun c h1 h2 => (row c h1 h2).2.2.2.1
  have i29 : mI M1 29 = mI M 29 := (row 29 (by decide) (by decide)).1
  exact ⟨hC', hR.cl hC'.1 i29 (fun c h1 h2 => r c (by omega) (by omega)) (row 50 (by decide) (by decide)).2.2.2.2.1, ⟨t1, ⟨by rw [e1]; exact t2, by rw [r 1 (by decide) (by decide)]; exact t3⟩, by rw [i29]; exact t4, by rw [r 30 (by decide) (by decide)]; exact t5⟩, by rw [e6, i29]; exact h6, fun q hq' => by rw [hk q hq', r 110 (by decide) (by decide)]; exact hq q hq', fun j hj => (hm j hj).mv (fun c h1 h2 => r c (by omega) (by omega)) (row 50 (by decide) (by decide)).2.2.2.2.1 (fun c h1 h2 => r c (by omega) (by omega)), by rw [r 5 (by decide) (by decide)]; exact h5.1, hA i29 h5.2⟩
/-- a call of the reference that leaves the tapes, faults and counts -/
theorem IvC.r (h : IvC A M ow ga gm ms gs mb gb t f) (hb : mN M < mBig) (k : RfF fs cs js M M1) (hf : ∀ f, fs f → f ≠ 1 ∧ f ≠ 6) (hc : ∀ c, cs c → 95 ≤ c ∧ c ≤ 131 ∧ c ≠ 110) (hj : ∀ c, js c → 95 ≤ c ∧ c ≤ 131) (hR' : RvS M1 ms.length gs.length) (hX' : ∀ j, j < ms.length → RxM (ga (ms.getD j 0)) j M1) (hA : mI M1 0 = mI M 0 → A → A') : IvC A' M1 ow ga gm ms gs mb gb t f ∧ (mS M1 = mS M ∧ mN M1 = mN M ∧ SaM ms M M1) := by
  obtain ⟨hC, hR, ⟨t1, ⟨t2, t3⟩, t4, t5⟩, h6, hq, hm, h5⟩ := h
  obtain ⟨hC1, hK1, hK2⟩ := hC.rr hb k (fun c z => by
    rcases z with z | z
    · have := hc c z; omega
    · have := hj c z; omega)
  have r : ∀ c, c < 95 ∨ c = 110 → mAI M1 c = mAI M c := fun c h => k.2.2.2.2.1 c (fun z => by have := hc c z; omega)
  have i : ∀ a, a ≠ 29 → mI M1 a = mI M a := fun a ha => k.2.2.1 a ha
  have ff : ∀ f, f = 1 ∨ f = 6 → mI M1 29 f = mI M 29 f := fun f h => k.2.2.2.1 f (fun z => by have := hf f z; omega)
  exact ⟨⟨hC1, hR', ⟨t1, ⟨by rw [i 0 (by decide)]; exact t2, by rw [r 1 (by omega)]; exact t3⟩, by rw [ff 1 (by omega)]; exact t4, by rw [r 30 (by omega)]; exact t5⟩, by rw [i 0 (by decide), ff 6 (by omega)]; exact h6, fun q hq' => by rw [hK2 q hq', r 110 (by omega)]; exact hq q hq', fun j hj => ⟨(hm j hj).1.mv (fun c h1 h2 => r c (by omega)), hX' j hj⟩, by rw [r 5 (by omega)]; exact h5.1, hA (i 0 (by decide)) h5.2⟩, k.1.2.1, k.1.1, hK1⟩
end
