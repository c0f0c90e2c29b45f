/-! the class reads parts: its state -/
def tlK (K : List KE) : List Int64 := K.filterMap (fun e => e.2.2.2)
def PtR (n0 : Nat) (M : Mem) (ps : List Nat) (A : Nat → Nat → Int32) : Prop := (∀ j, j < ps.length → ok M (ps.getD j 0) 5 ∧ n0 + 25 ≤ ps.getD j 0 ∧ ∀ f, f < 8 → mI M (ps.getD j 0) f = A j f) ∧ ∀ i j, i < ps.length → j < ps.length → ps.getD i 0 = ps.getD j 0 → i = j
/-- the lists: the parts, the literals of ifs -/
def LPt (n0 : Nat) (M : Mem) (ps : List Nat) (A : Nat → Nat → Int32) (xs : List Int32) (pb ib : Nat) : Prop := ALp M (n0 + 7) pb 5 ps ∧ ALi M (n0 + 15) ib xs ∧ (pb = mBig + 5 ∨ n0 + 25 ≤ pb) ∧ (ib = mBig + 5 ∨ n0 + 25 ≤ ib) ∧ (pb = ib → pb = mBig + 5) ∧ PtR n0 M ps A
/-- the reader's own: traps, pauses begun, given, used; the module's ifs and depth -/
def RdQ (n0 : Nat) (M : Mem) (g u : Int32) (cn : Nat → Nat) (tl : List Int64) : Prop := (mI M 14 3 = Int32.ofNat tl.length ∧ tl.length ≤ 16 ∧ ∀ j, j < tl.length → mAJ M 20 j = tl.getD (tl.length - 1 - j) 0) ∧ mI M 14 4 = Int32.ofNat (cn 1) ∧ mI M 14 5 = g ∧ mI M 14 6 = u ∧ mI M n0 14 = Int32.ofNat (cn 2) ∧ mI M n0 15 = Int32.ofNat (cn 3)
/-- what reading parts may change -/
def FrQ (n0 : Nat) (M M' : Mem) : Prop := fr (fun c => (4 ≤ c ∧ c ≤ 15) ∨ c = 20 ∨ c = n0 ∨ c = n0 + 7 ∨ c = n0 + 8 ∨ c = n0 + 9 ∨ c = n0 + 10 ∨ c = n0 + 15 ∨ c = n0 + 16 ∨ c = n0 + 22 ∨ c = n0 + 23 ∨ n0 + 25 ≤ c) M M' ∧ (∀ f, f ≠ 14 → f ≠ 15 → mI M' n0 f = mI M n0 f) ∧ mR M' n0 = mR M n0 ∧ (∀ f, f ≠ 4 → mI M' (n0 + 8) f = mI M (n0 + 8) f) ∧ (∀ f, f ≠ 0 → f ≠ 1 → mR M' (n0 + 8) f = mR M (n0 + 8) f) ∧ (∀ f, f ≠ 1 → mI M' (n0 + 22) f = mI M (n0 + 22) f) ∧ (∀ f, f ≠ 0 → mR M' (n0 + 22) f = mR M (n0 + 22) f) ∧ mR M' 14 = mR M 14
theorem FrQ.rf {n0 : Nat} {M : Mem} : FrQ n0 M M := ⟨fr.rf, fun _ _ _ => rfl, rfl, fun _ _ => rfl, fun _ _ _ => rfl, fun _ _ => rfl, fun _ _ => rfl, rfl⟩
theorem FrQ.tr {n0 : Nat} {M M1 M2 : Mem} (h : FrQ n0 M M1) (k : FrQ n0 M1 M2) : FrQ n0 M M2 := by
  obtain ⟨h1, h2, h3, h4, h5, h6, h7, h8⟩ := h
  obtain ⟨k1, k2, k3, k4, k5, k6, k7, k8⟩ := k
  exact ⟨h1.tr k1 (fun _ _ z => z), fun f q1 q2 => (k2 f q1 q2).trans (h2 f q1 q2), k3.trans h3, fun f q => (k4 f q).trans (h4 f q), fun f q1 q2 => (k5 f q1 q2).trans (h5 f q1 q2), fun f q => (k6 f q).trans (h6 f q), fun f q => (k7 f q).trans (h7 f q), k8.trans h8⟩
theorem FrQ.of {n0 : Nat} {M M' : Mem} {S : Nat → Prop} (k : fr S M M') (hS : ∀ c, S c → (4 ≤ c ∧ c ≤ 15) ∨ c = 20 ∨ n0 + 25 ≤ c) (hn : n0 + 25 ≤ mN M) (h0 : 132 ≤ n0) (e : mR M' 14 = mR M 14) : FrQ n0 M M' := by
  have r0 := k.2 n0 (by omega) (fun z => by have := hS _ z; omega)
  have r8 := k.2 (n0 + 8) (by omega) (fun z => by have := hS _ z; omega)
  have r2 := k.2 (n0 + 22) (by omega) (fun z => by have := hS _ z; omega)
  exact ⟨k.more (fun a _ z => by have := hS _ z; omega), fun f _ _ => by rw [r0.1], r0.2.2.1, fun f _ => by rw [r8.1], fun f _ _ => by rw [r8.2.2.1], fun f _ => by rw [r2.1], fun f _ => by rw [r2.2.2.1], e⟩
def RmQ (M0 M : Mem) (N : Nt) (l : List Int32) (ps : List Nat) (xs : List Int32) (lc cc : Nat) : Prop := mN M ≤ mN M0 + 2 * N.length + l.length + 3 * ps.length + 4 * xs.length ∧ mS M ≤ mS M0 + 4 * mL M lc + 2 * mL M cc + (12 * xs.length + xs.length * xs.length) + (24 * ps.length + ps.length * ps.length) ∧ mN M0 ≤ 1000000
def CQh (n0 : Nat) (τ : Td) (M0 M : Mem) (γ : ClT) (cn : Nat → Nat) (ps : List Nat) (tl : List Int64) (lc rc cc pb ib : Nat) : Prop :=
  CB n0 τ.1 τ.2.1 τ.2.2.1 τ.2.2.2.1 M γ.2.2.1 lc rc (sgT τ.1.length) γ.2.2.2.1 ∧ (SumP M (n0 + 22) cc γ.2.2.2.2.2.1 ∧ (cc = n0 + 23 ∨ n0 + 25 ≤ cc) ∧ cc ≠ lc ∧ cc ≠ rc) ∧ TrP M γ.2.1 ∧ LPt n0 M ps γ.1 γ.2.2.2.2.1 pb ib ∧ RdQ n0 M γ.2.2.2.2.2.2.1 γ.2.2.2.2.2.2.2 cn tl ∧ FrQ n0 M0 M ∧ RmQ M0 M γ.2.2.1 γ.2.2.2.2.2.1 ps γ.2.2.2.2.1 lc cc ∧ (mR M n0 6 = some (n0 + 7) ∧ mR M n0 8 = some (n0 + 22) ∧ mR M (n0 + 8) 7 = some (n0 + 15)) ∧ (ps.length = cn 0 ∧ cn 0 ≤ 40 ∧ γ.2.2.2.2.1.length ≤ 80)
def CQ (n0 : Nat) (τ : Td) (M0 M : Mem) (γ : ClT) (cn : Nat → Nat) (ps : List Nat) (tl : List Int64) : Prop := ∃ lc rc cc pb ib : Nat, CQh n0 τ M0 M γ cn ps tl lc rc cc pb ib
section
variable {n0 : Nat} {τ : Td} {M0 M M' : Mem} {γ : ClT} {cn : Nat → Nat} {ps : List Nat} {tl : List Int64} {lc rc cc pb ib : Nat} {S : Nat → Prop}
theorem PtR.fr {A : Nat → Nat → Int32} (h : PtR n0 M ps A) (k : fr S M M') (nS : ∀ c, S c → mK M c ≠ 5) : PtR n0 M' ps A := by
  refine ⟨fun j hj => ?_, h.2⟩
  obtain ⟨h1, h2, h3⟩ := h.1 j hj
  have r := k.2 _ h1.1 (fun z => nS _ z h1.2)
  exact ⟨ok_E h1 k.1, h2, fun f hf => by rw [r.1]; exact h3 f hf⟩
theorem LPt.fr {A : Nat → Nat → Int32} {xs : List Int32} (h : LPt n0 M ps A xs pb ib) (k : fr S M M') (nS : ∀ c, S c → mK M c ≠ 0 ∧ mK M c ≠ 1 ∧ mK M c ≠ 5 ∧ mK M c ≠ 24) : LPt n0 M' ps A xs pb ib := by
  obtain ⟨h1, h2, h3, h4, h5, h6⟩ := h
  have o7 := h1.1
  have o15 : ok M (n0 + 15) 1 := by obtain ⟨l, q, -⟩ := h2; exact q.1
  exact ⟨h1.fr k (fun z => (nS _ z).2.1 o7.2) (fun e z => (nS _ z).2.2.2 e), h2.fr k (fun z => (nS _ z).2.1 o15.2) (fun e z => (nS _ z).2.2.2 e) (fun c _ z => (nS c z).1), h3, h4, h5, h6.fr k (fun c z => (nS c z).2.2.1)⟩
theorem CB.fr {sN : List Int64} {ro mx : List Int32} {vN : List Int64} {N : Nt} {sg bf : Nat → Nat} (h : CB n0 sN ro mx vN M N lc rc sg bf) (hE : mE M M') (q : ∀ c, (n0 ≤ c ∧ c ≤ n0 + 5) ∨ c = n0 + 8 ∨ c = n0 + 16 ∨ c = n0 + 20 ∨ c = lc ∨ c = rc → sameRow M M' c) (e : mR M' 14 = mR M 14) : CB n0 sN ro mx vN M' N lc rc sg bf := by
  obtain ⟨h1, h2, h3, h4, h5, h6, ⟨s1, s2, s3⟩, h7, ⟨b1, b2, b3⟩, h8, h9, h10⟩ := h
  have r0 := q n0 (Or.inl ⟨by omega, by omega⟩)
  have r8 := q (n0 + 8) (Or.inr (Or.inl rfl))
  have r16 := q (n0 + 16) (Or.inr (Or.inr (Or.inl rfl)))
  have r20 := q (n0 + 20) (Or.inr (Or.inr (Or.inr (Or.inl rfl))))
  have rl := q lc (Or.inr (Or.inr (Or.inr (Or.inr (Or.inl rfl)))))
  have rr := q rc (Or.inr (Or.inr (Or.inr (Or.inr (Or.inr rfl)))))
  exact ⟨h1.fr hE (fun a q1 q2 => q a (Or.inl ⟨q1, q2⟩)), h2.fr hE r8 rl rr, h3, h4, by rw [r0.2.2.1]; exact h5, by rw [r8.2.2.1]; exact h6, ⟨ok_E s1 hE, (hE.2.2 _ s1.1).2.trans s2, fun j hj => by rw [r20.2.2.2.1]; exact s3 j hj⟩, by rw [r8.2.2.1]; exact h7, ⟨ok_E b1 hE, (hE.2.2 _ b1.1).2.trans b2, fun j hj => by rw [r16.2.2.2.1]; exact b3 j hj⟩, by rw [e]; exact h8, h9, Nat.le_trans h10 hE.1⟩
/-- where the cells of the state lie -/
theorem CQh.lim (h : CQh n0 τ M0 M γ cn ps tl lc rc cc pb ib) : 132 ≤ n0 ∧ n0 + 25 ≤ mN M ∧ (lc = n0 + 9 ∨ n0 + 25 ≤ lc) ∧ (rc = n0 + 10 ∨ n0 + 25 ≤ rc) ∧ (cc = n0 + 23 ∨ n0 + 25 ≤ cc) ∧ ok M lc 21 ∧ ok M rc 21 ∧ ok M cc 21 ∧ ok M n0 3 ∧ ok M (n0 + 8) 2 ∧ ok M (n0 + 22) 8 ∧ mR M 14 7 = some n0 ∧ mR M n0 7 = some (n0 + 8) := by
  obtain ⟨h1, ⟨h2, h3, -⟩, -⟩ := h
  obtain ⟨a1, a2, a3, a4, a5, a6, a7, a8, a9, a10, a11, a12⟩ := h1
  exact ⟨a11, a12, a3, a4, h3, a2.2.2.1, a2.2.2.2.2.1, h2.2.2.1, a1.1, a2.1, h2.1, a10, a5⟩
/-- cells of none of the state's rows but the tokens', the tree's, the reader's or the parts' change: what stays of it -/
theorem CQh.cb (h : CQh n0 τ M0 M γ cn ps tl lc rc cc pb ib) (k : fr S M M') (hS : ∀ c, S c → (c < 132) ∨ (n0 + 25 ≤ c ∧ mK M c ≠ 21)) (e : mR M' 14 = mR M 14) : CB n0 τ.1 τ.2.1 τ.2.2.1 τ.2.2.2.1 M' γ.2.2.1 lc rc (sgT τ.1.length) γ.2.2.2.1 ∧ (SumP M' (n0 + 22) cc γ.2.2.2.2.2.1 ∧ (cc = n0 + 23 ∨ n0 + 25 ≤ cc) ∧ cc ≠ lc ∧ cc ≠ rc) ∧ mL M' lc = mL M lc ∧ mL M' cc = mL M cc ∧ mR M' n0 = mR M n0 ∧ mR M' (n0 + 8) = mR M (n0 + 8) ∧ mI M' n0 = mI M n0 := by
  obtain ⟨q1, q2, q3, q4, q5, ol, or, oc, -⟩ := h.lim
  obtain ⟨h1, ⟨h2, h3⟩, -⟩ := h
  have lo : ∀ c, n0 ≤ c → c < n0 + 25 → sameRow M M' c := fun c z1 z2 => k.2 c (by omega) (fun z => by have := hS c z; omega)
  have hi : ∀ c, ok M c 21 → 132 ≤ c → sameRow M M' c := fun c z1 z2 => k.2 c z1.1 (fun z => by rcases hS c z with y | y; omega; exact y.2 z1.2)
  have r0 := lo n0 (by omega) (by omega)
  have r8 := lo (n0 + 8) (by omega) (by omega)
  refine ⟨h1.fr k.1 (fun c z => ?_) e, ⟨h2.fr k.1 (lo _ (by omega) (by omega)) (hi _ oc (by omega)), h3⟩, (k.1.2.2 _ ol.1).2, (k.1.2.2 _ oc.1).2, r0.2.2.1, r8.2.2.1, r0.1⟩
  rcases z with z | z | z | z | z | z
  · exact lo c (by omega) (by omega)
  · exact lo c (by omega) (by omega)
  · exact lo c (by omega) (by omega)
  · exact lo c (by omega) (by omega)
  · rw [z]; exact hi _ ol (by omega)
  · rw [z]; exact hi _ or (by omega)
theorem CQ.cnt {cn' : Nat → Nat} (h : CQ n0 τ M0 M γ cn ps tl) (e0 : cn' 0 = cn 0) (e1 : cn' 1 = cn 1) (e2 : cn' 2 = cn 2) (e3 : cn' 3 = cn 3) : CQ n0 τ M0 M γ cn' ps tl := by
  obtain ⟨lc, rc, cc, pb, ib, h1, h2, h3, h4, ⟨r1, r2, r3, r4, r5, r6⟩, h6, h7, h8, h9⟩ := h
  exact ⟨lc, rc, cc, pb, ib, h1, h2, h3, h4, ⟨r1, by rw [e1]; exact r2, r3, r4, by rw [e2]; exact r5, by rw [e3]; exact r6⟩, h6, h7, h8, by rw [e0]; exact h9⟩
/-- tokens move -/
theorem CQ.t (h : CQ n0 τ M0 M γ cn ps tl) (F : Fix M) (k : TFr M M') : CQ n0 τ M0 M' γ cn ps tl := by
  obtain ⟨lc, rc, cc, pb, ib, h⟩ := h
  obtain ⟨q1, q2, -⟩ := h.lim
  obtain ⟨c1, c2, c3, c4, c5, c6, c7⟩ := h.cb k.fr (fun c z => by omega) (by rw [k.2.2.2.2.1])
  obtain ⟨h1, h2, h3, h4, h5, h6, h7, h8, h9⟩ := h
  have o15 : mK M 15 = 9 := (ok15 F).2
  have r14 := k.row (a := 14) (by decide)
  have r20 := k.row (a := 20) (by decide)
  obtain ⟨t1, t2, t3, t4, t5⟩ := h3
  refine ⟨lc, rc, cc, pb, ib, c1, c2, ⟨by rw [(k.row (a := 4) (by decide)).1]; exact t1, by rw [(k.row (a := 4) (by decide)).1]; exact t2, t3, fun c z1 z2 => by rw [k.2.2.2.2.2.1]; exact t4 c z1 z2, t5⟩, h4.fr k.fr (fun c z => by rw [z, o15]; decide), ?_, h6.tr (FrQ.of k.fr (fun c z => by omega) q2 q1 (by rw [k.2.2.2.2.1])), ⟨by rw [k.1]; exact h7.1, by rw [k.2.1, c3, c4]; exact h7.2.1, h7.2.2⟩, by rw [c5, c6]; exact h8, h9⟩
  unfold RdQ
  rw [r14.1, r20.2.2.2.2.1, c7]
  exact h5
/-- the tree changes -/
theorem CQ.tree {Θ : TrT} (h : CQ n0 τ M0 M γ cn ps tl) (F : Fix M) (k : TrF M M') (hT : TrP M' Θ) : CQ n0 τ M0 M' (γ.1, Θ, γ.2.2) cn ps tl := by
  obtain ⟨lc, rc, cc, pb, ib, h⟩ := h
  obtain ⟨q1, q2, -⟩ := h.lim
  have kf : fr (fun c => 4 ≤ c ∧ c ≤ 13) M M' := ⟨k.e, fun a _ hn => k.row (by omega)⟩
  obtain ⟨c1, c2, c3, c4, c5, c6, c7⟩ := h.cb kf (fun c z => by omega) (by rw [k.2.2.2.2.1])
  obtain ⟨h1, h2, h3, h4, h5, h6, h7, h8, h9⟩ := h
  have o4 : mK M 4 = 10 := (ok4 F).2
  have oA : ∀ c, 5 ≤ c → c ≤ 13 → mK M c = 21 := by
    intro c z1 z2
    rcases (show c = 5 ∨ c = 6 ∨ c = 7 ∨ c = 8 ∨ c = 9 ∨ c = 10 ∨ c = 11 ∨ c = 12 ∨ c = 13 by omega) with rfl | rfl | rfl | rfl | rfl | rfl | rfl | rfl | rfl
    · exact (ok5 F).2
    · exact (ok6 F).2
    · exact (ok7 F).2
    · exact (ok8 F).2
    · exact (ok9 F).2
    · exact (ok10 F).2
    · exact (ok11 F).2
    · exact (ok12 F).2
    · exact (ok13 F).2
  have r14 := k.row (a := 14) (by decide)
  have r20 := k.row (a := 20) (by decide)
  refine ⟨lc, rc, cc, pb, ib, c1, c2, hT, h4.fr kf (fun c z => ?_), ?_, h6.tr (FrQ.of kf (fun c z => by omega) q2 q1 (by rw [k.2.2.2.2.1])), ⟨by rw [k.1]; exact h7.1, by rw [k.2.1, c3, c4]; exact h7.2.1, h7.2.2⟩, by rw [c5, c6]; exact h8, h9⟩
  · by_cases y : c = 4
    · rw [y, o4]; decide
    · rw [oA c (by omega) z.2]; decide
  · unfold RdQ
    rw [r14.1, r20.2.2.2.2.1, c7]
    exact h5
end
