/-! the reference reads sums: its stacks -/
def RFm (m : Nat) (M M' : Mem) : Prop := mN M' = mN M ∧ mS M' = mS M ∧ mK M' = mK M ∧ mL M' = mL M ∧ mR M' = mR M ∧ mAR M' = mAR M ∧ mJ M' = mJ M ∧ (∀ a, a ≠ 29 → mI M' a = mI M a) ∧ (∀ f, f ∉ [5, 6, 7, 29, 31, 32, 33] → mI M' 29 f = mI M 29 f) ∧ (∀ a, a ∉ [48, 49, 51, 52, 53] → mAI M' a = mAI M a) ∧ (∀ a, a ≠ 50 → mAJ M' a = mAJ M a) ∧ (∀ j, j ≠ m → mAI M' 48 j = mAI M 48 j) ∧ (∀ k, k < 810 * m → mAI M' 49 k = mAI M 49 k ∧ mAJ M' 50 k = mAJ M 50 k ∧ mAI M' 51 k = mAI M 51 k)
theorem mAI_wAI_ne {M : Mem} {c k a : Nat} {v : Int32} (h : a ≠ c) : mAI (wAI M c k v) a = mAI M a := up2_row h
theorem RFm.rf {m : Nat} {M : Mem} : RFm m M M := ⟨rfl, rfl, rfl, rfl, rfl, rfl, rfl, fun _ _ => rfl, fun _ _ => rfl, fun _ _ => rfl, fun _ _ => rfl, fun _ _ => rfl, fun _ _ => ⟨rfl, rfl, rfl⟩⟩
theorem RFm.tr {m : Nat} {M M1 M2 : Mem} (h : RFm m M M1) (k : RFm m M1 M2) : RFm m M M2 := by
  obtain ⟨a1, a2, a3, a4, a5, a6, a7, a8, a9, aA, aB, aC, aD⟩ := h
  obtain ⟨b1, b2, b3, b4, b5, b6, b7, b8, b9, bA, bB, bC, bD⟩ := k
  exact ⟨b1.trans a1, b2.trans a2, b3.trans a3, b4.trans a4, b5.trans a5, b6.trans a6, b7.trans a7, fun a q => (b8 a q).trans (a8 a q), fun f q => (b9 f q).trans (a9 f q), fun a q => (bA a q).trans (aA a q), fun a q => (bB a q).trans (aB a q), fun j q => (bC j q).trans (aC j q), fun k q => ⟨(bD k q).1.trans (aD k q).1, (bD k q).2.1.trans (aD k q).2.1, (bD k q).2.2.trans (aD k q).2.2⟩⟩
theorem RFm.i {m f : Nat} {M : Mem} {v : Int32} (hf : f ∈ [5, 6, 7, 29, 31, 32, 33]) : RFm m M (wI M 29 f v) := ⟨rfl, rfl, rfl, rfl, rfl, rfl, rfl, fun a q => up2_row q, fun g q => by rw [mI_wI, if_neg (fun z : 29 = 29 ∧ g = f => q (by rw [z.2]; exact hf))], fun _ _ => rfl, fun _ _ => rfl, fun _ _ => rfl, fun _ _ => ⟨rfl, rfl, rfl⟩⟩
theorem RFm.st {m c k : Nat} {M : Mem} {v : Int32} (hc : c = 52 ∨ c = 53) : RFm m M (wAI M c k v) := ⟨rfl, rfl, rfl, rfl, rfl, rfl, rfl, fun _ _ => rfl, fun _ _ => rfl, fun a q => up2_row (by rintro rfl; rcases hc with rfl | rfl <;> exact q (by decide)), fun _ _ => rfl, fun j _ => by rw [mAI_wAI, if_neg (by rintro ⟨z, -⟩; omega)], fun j _ => ⟨by rw [mAI_wAI, if_neg (by rintro ⟨z, -⟩; omega)], rfl, by rw [mAI_wAI, if_neg (by rintro ⟨z, -⟩; omega)]⟩⟩
theorem RFm.e {m : Nat} {M M' : Mem} (h : RFm m M M') : mE M M' := ⟨Nat.le_of_eq h.1.symm, Nat.le_of_eq h.2.1.symm, fun a _ => ⟨by rw [h.2.2.1], by rw [h.2.2.2.1]⟩⟩
theorem RFm.fix {m : Nat} {M M' : Mem} (h : RFm m M M') (F : Fix M) : Fix M' := F.of_fr (S := fun _ => True) h.e (fun e _ => by rw [h.2.2.2.2.1]) (h.2.2.2.2.2.2.2.2.2.2.1 19 (by decide))
/-- tokens and names: what reading never changes -/
def CoR (b : Nat → Int32) (n s m : Nat) (sN : List Int64) (ro mx : List Int32) (vN : List Int64) (M : Mem) : Prop := Fix M ∧ (∀ j, j ≤ s → RkR M b n j) ∧ RE b n M m sN ro mx vN
theorem CoR.fr {b : Nat → Int32} {n s m : Nat} {sN : List Int64} {ro mx : List Int32} {vN : List Int64} {M M' : Mem} (h : CoR b n s m sN ro mx vN M) (k : RFm m M M') : CoR b n s m sN ro mx vN M' := by
  obtain ⟨h1, h2, h3⟩ := h
  have kI := k.2.2.2.2.2.2.2.2.1
  have kA := k.2.2.2.2.2.2.2.2.2.1
  have kJ := k.2.2.2.2.2.2.2.2.2.2.1
  refine ⟨k.fix h1, fun j hj => ?_, ?_⟩
  · obtain ⟨r1, r2, r3⟩ := h2 j hj
    exact ⟨by rw [kA 31 (by decide)]; exact r1, by rw [kA 32 (by decide)]; exact r2, by rw [kJ 33 (by decide)]; exact r3⟩
  · obtain ⟨e1, e2, e3, e4, e5, e6, e7, e8, e9⟩ := h3
    exact ⟨by rw [kI 19 (by decide)]; exact e1, e2, e3, by rw [kA 34 (by decide)]; exact e4, by rw [kA 36 (by decide)]; exact e5, by rw [kJ 37 (by decide)]; exact e6, by rw [kA 38 (by decide)]; exact e7, by rw [kA 39 (by decide)]; exact e8, by rw [kJ 42 (by decide)]; exact e9⟩
def nd0 : Nd := (0, 0, 0)
def xa (m : Nat) (d : Nd) : Int64 := if d.1 < 3 then d.2.1 else d.2.1 + Int64.ofNat (810 * m)
def xb (m : Nat) (d : Nd) : Int32 := if d.1 ≤ 3 then 0 else Int32.ofNat (810 * m + d.2.2)
def XR (M : Mem) (m : Nat) (X : List Nd) : Prop := mAI M 48 m = Int32.ofNat X.length ∧ ∀ k, k < X.length → mAI M 49 (810 * m + k) = Int32.ofNat (X.getD k nd0).1 ∧ mAJ M 50 (810 * m + k) = xa m (X.getD k nd0) ∧ mAI M 51 (810 * m + k) = xb m (X.getD k nd0)
/-- a stack of the reference: head on top -/
def St (M : Mem) (c f a0 : Nat) (l : List Nat) : Prop := mI M 29 f = Int32.ofNat l.length ∧ ∀ j, j < l.length → mAI M c j = Int32.ofNat (a0 + l.reverse.getD j 0)
theorem St.fr {M M' : Mem} {c f a0 : Nat} {l : List Nat} (h : St M c f a0 l) (hi : mI M' 29 f = mI M 29 f) (ha : mAI M' c = mAI M c) : St M' c f a0 l := ⟨hi.trans h.1, fun j hj => by rw [ha]; exact h.2 j hj⟩
theorem rev_app {l : List Nat} {x j : Nat} (h : j < l.length + 1) : (x :: l).reverse.getD j 0 = if j = l.length then x else l.reverse.getD j 0 := by
  rw [List.reverse_cons, List.getD_eq_getElem?_getD, List.getD_eq_getElem?_getD]
  have hl : l.reverse.length = l.length := List.length_reverse
  by_cases hj : j = l.length
  · rw [if_pos hj, hj, ← hl, List.getElem?_append_right (Nat.le_refl _), Nat.sub_self]; rfl
  · rw [if_neg hj, List.getElem?_append_left (by omega)]
theorem St.push {M M' : Mem} {c f a0 x : Nat} {l : List Nat} (h : St M c f a0 l) (e : M' = wI (wAI M c l.length (Int32.ofNat (a0 + x))) 29 f (Int32.ofNat (l.length + 1))) : St M' c f a0 (x :: l) := by
  refine ⟨by rw [e]; exact mI_own _ _ _ _, fun j hj => ?_⟩
  have hj : j < l.length + 1 := hj
  rw [rev_app hj, e, mAI_wI, mAI_wAI]
  by_cases q : j = l.length
  · rw [if_pos ⟨rfl, q⟩, if_pos q]
  · rw [if_neg (fun z => q z.2), if_neg q]
    exact h.2 j (by omega)
theorem St.top {M : Mem} {c f a0 x : Nat} {l : List Nat} (h : St M c f a0 (x :: l)) : mAI M c l.length = Int32.ofNat (a0 + x) := by
  have := h.2 l.length (Nat.lt_succ_self _)
  rw [rev_app (Nat.lt_succ_self _), if_pos rfl] at this
  exact this
theorem St.pop {M M' : Mem} {c f a0 x : Nat} {l : List Nat} (h : St M c f a0 (x :: l)) (e : M' = wI M 29 f (Int32.ofNat l.length)) : St M' c f a0 l := by
  refine ⟨by rw [e]; exact mI_own _ _ _ _, fun j hj => ?_⟩
  have := h.2 j (Nat.lt_succ_of_lt hj)
  rw [rev_app (Nat.lt_succ_of_lt hj), if_neg (by omega)] at this
  rw [e, mAI_wI]
  exact this
/-- the reference as it reads a sum: i-th token, o opened, pr brackets, stacks of operators and of nodes, the nodes so far -/
def W6 (M : Mem) (w : Int32 × Int32) : Prop := mI M 29 6 = w.1 ∧ (w.1 = 0 ∨ mI M 29 7 = w.2)
theorem W6.fr {M M' : Mem} {w : Int32 × Int32} (h : W6 M w) (e6 : mI M' 29 6 = mI M 29 6) (e7 : mI M' 29 7 = mI M 29 7) : W6 M' w := ⟨e6.trans h.1, h.2.elim Or.inl (fun q => Or.inr (e7.trans q))⟩
def SR (b : Nat → Int32) (n s m : Nat) (sN : List Int64) (ro mx : List Int32) (vN : List Int64) (w : Int32 × Int32) (M : Mem) (i o pr : Nat) (σ ν : List Nat) (X : List Nd) : Prop := CoR b n s m sN ro mx vN M ∧ (n ≤ 800 ∧ s ≤ n ∧ i ≤ s) ∧ mI M 29 5 = Int32.ofNat i ∧ W6 M w ∧ mI M 29 33 = Int32.ofNat o ∧ mI M 29 32 = Int32.ofNat pr ∧ St M 52 29 0 σ ∧ St M 53 31 (810 * m) ν ∧ XR M m X ∧ (X.length + σ.length ≤ i ∧ ν.length ≤ i ∧ o ≤ 15 ∧ pr ≤ i ∧ ∀ x ∈ ν, x < X.length)
/-- behind a fault -/
def TXr (M : Mem) (f : Int32) (p : Nat) : Prop := Fix M ∧ mI M 29 6 = f ∧ 0 < f ∧ mI M 29 7 = Int32.ofNat p
section
variable {b : Nat → Int32} {n s m : Nat} {sN : List Int64} {ro mx : List Int32} {vN : List Int64} {w : Int32 × Int32} {M : Mem} {i o pr : Nat} {σ ν : List Nat} {X : List Nd} {h : Nat} {Q : Option Value → Mem → Prop}
theorem XR.fr {M' : Mem} (h : XR M m X) (h48 : mAI M' 48 = mAI M 48) (h49 : mAI M' 49 = mAI M 49) (h50 : mAJ M' 50 = mAJ M 50) (h51 : mAI M' 51 = mAI M 51) : XR M' m X := ⟨by rw [h48]; exact h.1, fun k hk => by rw [h49, h50, h51]; exact h.2 k hk⟩
theorem B_popped {x : Nat} (hR : SR b n s m sN ro mx vN w M i o pr σ (x :: ν) X) (H : ∀ M', SR b n s m sN ro mx vN w M' i o pr σ ν X → RFm m M M' → Q (some (.int (Int32.ofNat (810 * m + x)))) M') : E (h + 1) mdX11_popped [.ref 29] M Q := by
  obtain ⟨h1, h2, h3, h4, h5, h6, h7, h8, h9, h10⟩ := hR
  have F := h1.1
  have hl : ν.length + 1 ≤ i := h10.2.1
  refine KX11_popped ?_
  unfold DX11_popped_0
  have e31 : mI M 29 31 = Int32.ofNat (ν.length + 1) := h8.1
  rw [e31, show Int32.ofNat (ν.length + 1) - 1 = Int32.ofNat ν.length from sub32 (c := 1) (by omega) (by omega)]
  refine ⟨ok29 F, fun M2 e2 => ?_⟩
  have F2 : Fix M2 := by rw [e2]; exact F.i
  have i2 : mI M2 29 31 = Int32.ofNat ν.length := by rw [e2]; exact mI_own _ _ _ _
  have t2 : mAI M2 53 ν.length = Int32.ofNat (810 * m + x) := by rw [e2, mAI_wI]; exact h8.top
  rw [i2, lt32 (by omega)]
  refine ⟨53, rf29_30 F2, ok53 F2, by rw [ln53 F2]; exact vp_of (by omega) (by decide), ?_⟩
  rw [t2]
  have fr : RFm m M M2 := by rw [e2]; exact RFm.i (by decide)
  exact H M2 ⟨h1.fr fr, h2, by rw [e2]; simp [h3, mNwI, mSwI, mKwI, mIwI, mJwI, mRwI, mLwI, mAIwI, mAJwI, mARwI, mNwJ, mSwJ, mKwJ, mIwJ, mJwJ, mRwJ, mLwJ, mAIwJ, mAJwJ, mARwJ, mNwR, mSwR, mKwR, mIwR, mJwR, mRwR, mLwR, mAIwR, mAJwR, mARwR, mNwAI, mSwAI, mKwAI, mIwAI, mJwAI, mRwAI, mLwAI, mAIwAI, mAJwAI, mARwAI, mNwAJ, mSwAJ, mKwAJ, mIwAJ, mJwAJ, mRwAJ, mLwAJ, mAIwAJ, mAJwAJ, mARwAJ, mNwAR, mSwAR, mKwAR, mIwAR, mJwAR, mRwAR, mLwAR, mAIwAR, mAJwAR, mARwAR, okkwI, okkwJ, okkwR, okkwAI, okkwAJ, okkwAR], h4.fr (by rw [e2]; simp [mNwI, mSwI, mKwI, mIwI, mJwI, mRwI, mLwI, mAIwI, mAJwI, mARwI, mNwJ, mSwJ, mKwJ, mIwJ, mJwJ, mRwJ, mLwJ, mAIwJ, mAJwJ, mARwJ, mNwR, mSwR, mKwR, mIwR, mJwR, mRwR, mLwR, mAIwR, mAJwR, mARwR, mNwAI, mSwAI, mKwAI, mIwAI, mJwAI, mRwAI, mLwAI, mAIwAI, mAJwAI, mARwAI, mNwAJ, mSwAJ, mKwAJ, mIwAJ, mJwAJ, mRwAJ, mLwAJ, mAIwAJ, mAJwAJ, mARwAJ, mNwAR, mSwAR, mKwAR, mIwAR, mJwAR, mRwAR, mLwAR, mAIwAR, mAJwAR, mARwAR, okkwI, okkwJ, okkwR, okkwAI, okkwAJ, okkwAR]) (by rw [e2]; simp [mNwI, mSwI, mKwI, mIwI, mJwI, mRwI, mLwI, mAIwI, mAJwI, mARwI, mNwJ, mSwJ, mKwJ, mIwJ, mJwJ, mRwJ, mLwJ, mAIwJ, mAJwJ, mARwJ, mNwR, mSwR, mKwR, mIwR, mJwR, mRwR, mLwR, mAIwR, mAJwR, mARwR, mNwAI, mSwAI, mKwAI, mIwAI, mJwAI, mRwAI, mLwAI, mAIwAI, mAJwAI, mARwAI, mNwAJ, mSwAJ, mKwAJ, mIwAJ, mJwAJ, mRwAJ, mLwAJ, mAIwAJ, mAJwAJ, mARwAJ, mNwAR, mSwAR, mKwAR, mIwAR, mJwAR, mRwAR, mLwAR, mAIwAR, mAJwAR, mARwAR, okkwI, okkwJ, okkwR, okkwAI, okkwAJ, okkwAR]), by rw [e2]; simp [h5, mNwI, mSwI, mKwI, mIwI, mJwI, mRwI, mLwI, mAIwI, mAJwI, mARwI, mNwJ, mSwJ, mKwJ, mIwJ, mJwJ, mRwJ, mLwJ, mAIwJ, mAJwJ, mARwJ, mNwR, mSwR, mKwR, mIwR, mJwR, mRwR, mLwR, mAIwR, mAJwR, mARwR, mNwAI, mSwAI, mKwAI, mIwAI, mJwAI, mRwAI, mLwAI, mAIwAI, mAJwAI, mARwAI, mNwAJ, mSwAJ, mKwAJ, mIwAJ, mJwAJ, mRwAJ, mLwAJ, mAIwAJ, mAJwAJ, mARwAJ, mNwAR, mSwAR, mKwAR, mIwAR, mJwAR, mRwAR, mLwAR, mAIwAR, mAJwAR, mARwAR, okkwI, okkwJ, okkwR, okkwAI, okkwAJ, okkwAR], by rw [e2]; simp [h6, mNwI, mSwI, mKwI, mIwI, mJwI, mRwI, mLwI, mAIwI, mAJwI, mARwI, mNwJ, mSwJ, mKwJ, mIwJ, mJwJ, mRwJ, mLwJ, mAIwJ, mAJwJ, mARwJ, mNwR, mSwR, mKwR, mIwR, mJwR, mRwR, mLwR, mAIwR, mAJwR, mARwR, mNwAI, mSwAI, mKwAI, mIwAI, mJwAI, mRwAI, mLwAI, mAIwAI, mAJwAI, mARwAI, mNwAJ, mSwAJ, mKwAJ, mIwAJ, mJwAJ, mRwAJ, mLwAJ, mAIwAJ, mAJwAJ, mARwAJ, mNwAR, mSwAR, mKwAR, mIwAR, mJwAR, mRwAR, mLwAR, mAIwAR, mAJwAR, mARwAR, okkwI, okkwJ, okkwR, okkwAI, okkwAJ, okkwAR], h7.fr (by rw [e2]; simp [mNwI, mSwI, mKwI, mIwI, mJwI, mRwI, mLwI, mAIwI, mAJwI, mARwI, mNwJ, mSwJ, mKwJ, mIwJ, mJwJ, mRwJ, mLwJ, mAIwJ, mAJwJ, mARwJ, mNwR, mSwR, mKwR, mIwR, mJwR, mRwR, mLwR, mAIwR, mAJwR, mARwR, mNwAI, mSwAI, mKwAI, mIwAI, mJwAI, mRwAI, mLwAI, mAIwAI, mAJwAI, mARwAI, mNwAJ, mSwAJ, mKwAJ, mIwAJ, mJwAJ, mRwAJ, mLwAJ, mAIwAJ, mAJwAJ, mARwAJ, mNwAR, mSwAR, mKwAR, mIwAR, mJwAR, mRwAR, mLwAR, mAIwAR, mAJwAR, mARwAR, okkwI, okkwJ, okkwR, okkwAI, okkwAJ, okkwAR]) (by rw [e2]; rfl), h8.pop e2, h9.fr (by rw [e2]; rfl) (by rw [e2]; rfl) (by rw [e2]; rfl) (by rw [e2]; rfl), h10.1, by omega, h10.2.2.1, h10.2.2.2.1, fun y hy => h10.2.2.2.2 y (List.mem_cons_of_mem _ hy)⟩ fr
theorem B_pushed {x : Nat} (hR : SR b n s m sN ro mx vN w M i o pr σ ν X) (hl : ν.length + 1 ≤ i) (hx : x < X.length) (H : ∀ M', SR b n s m sN ro mx vN w M' i o pr σ (x :: ν) X → RFm m M M' → Q none M') : E (h + 1) mdX11_pushed [.ref 29, .int (Int32.ofNat (810 * m + x))] M Q := by
  obtain ⟨h1, h2, h3, h4, h5, h6, h7, h8, h9, h10⟩ := hR
  have F := h1.1
  refine KX11_pushed ?_
  unfold DX11_pushed_0
  rw [h8.1, lt32 (by omega)]
  refine ⟨ok29 F, 53, rf29_30 F, ok53 F, by rw [ln53 F]; exact vp_of (by omega) (by decide), fun M4 e4 M5 e5 => ?_⟩
  have i4 : mI M4 29 31 = Int32.ofNat ν.length := by rw [e4, mI_wAI]; exact h8.1
  rw [i4, succ32, e4] at e5
  have fr : RFm m M M5 := by rw [e5]; exact (RFm.st (Or.inr rfl)).tr (RFm.i (by decide))
  exact H M5 ⟨h1.fr fr, h2, by rw [e5]; simp [h3, mNwI, mSwI, mKwI, mIwI, mJwI, mRwI, mLwI, mAIwI, mAJwI, mARwI, mNwJ, mSwJ, mKwJ, mIwJ, mJwJ, mRwJ, mLwJ, mAIwJ, mAJwJ, mARwJ, mNwR, mSwR, mKwR, mIwR, mJwR, mRwR, mLwR, mAIwR, mAJwR, mARwR, mNwAI, mSwAI, mKwAI, mIwAI, mJwAI, mRwAI, mLwAI, mAIwAI, mAJwAI, mARwAI, mNwAJ, mSwAJ, mKwAJ, mIwAJ, mJwAJ, mRwAJ, mLwAJ, mAIwAJ, mAJwAJ, mARwAJ, mNwAR, mSwAR, mKwAR, mIwAR, mJwAR, mRwAR, mLwAR, mAIwAR, mAJwAR, mARwAR, okkwI, okkwJ, okkwR, okkwAI, okkwAJ, okkwAR], h4.fr (by rw [e5]; simp [mNwI, mSwI, mKwI, mIwI, mJwI, mRwI, mLwI, mAIwI, mAJwI, mARwI, mNwJ, mSwJ, mKwJ, mIwJ, mJwJ, mRwJ, mLwJ, mAIwJ, mAJwJ, mARwJ, mNwR, mSwR, mKwR, mIwR, mJwR, mRwR, mLwR, mAIwR, mAJwR, mARwR, mNwAI, mSwAI, mKwAI, mIwAI, mJwAI, mRwAI, mLwAI, mAIwAI, mAJwAI, mARwAI, mNwAJ, mSwAJ, mKwAJ, mIwAJ, mJwAJ, mRwAJ, mLwAJ, mAIwAJ, mAJwAJ, mARwAJ, mNwAR, mSwAR, mKwAR, mIwAR, mJwAR, mRwAR, mLwAR, mAIwAR, mAJwAR, mARwAR, okkwI, okkwJ, okkwR, okkwAI, okkwAJ, okkwAR]) (by rw [e5]; simp [mNwI, mSwI, mKwI, mIwI, mJwI, mRwI, mLwI, mAIwI, mAJwI, mARwI, mNwJ, mSwJ, mKwJ, mIwJ, mJwJ, mRwJ, mLwJ, mAIwJ, mAJwJ, mARwJ, mNwR, mSwR, mKwR, mIwR, mJwR, mRwR, mLwR, mAIwR, mAJwR, mARwR, mNwAI, mSwAI, mKwAI, mIwAI, mJwAI, mRwAI, mLwAI, mAIwAI, mAJwAI, mARwAI, mNwAJ, mSwAJ, mKwAJ, mIwAJ, mJwAJ, mRwAJ, mLwAJ, mAIwAJ, mAJwAJ, mARwAJ, mNwAR, mSwAR, mKwAR, mIwAR, mJwAR, mRwAR, mLwAR, mAIwAR, mAJwAR, mARwAR, okkwI, okkwJ, okkwR, okkwAI, okkwAJ, okkwAR]), by rw [e5]; simp [h5, mNwI, mSwI, mKwI, mIwI, mJwI, mRwI, mLwI, mAIwI, mAJwI, mARwI, mNwJ, mSwJ, mKwJ, mIwJ, mJwJ, mRwJ, mLwJ, mAIwJ, mAJwJ, mARwJ, mNwR, mSwR, mKwR, mIwR, mJwR, mRwR, mLwR, mAIwR, mAJwR, mARwR, mNwAI, mSwAI, mKwAI, mIwAI, mJwAI, mRwAI, mLwAI, mAIwAI, mAJwAI, mARwAI, mNwAJ, mSwAJ, mKwAJ, mIwAJ, mJwAJ, mRwAJ, mLwAJ, mAIwAJ, mAJwAJ, mARwAJ, mNwAR, mSwAR, mKwAR, mIwAR, mJwAR, mRwAR, mLwAR, mAIwAR, mAJwAR, mARwAR, okkwI, okkwJ, okkwR, okkwAI, okkwAJ, okkwAR], by rw [e5]; simp [h6, mNwI, mSwI, mKwI, mIwI, mJwI, mRwI, mLwI, mAIwI, mAJwI, mARwI, mNwJ, mSwJ, mKwJ, mIwJ, mJwJ, mRwJ, mLwJ, mAIwJ, mAJwJ, mARwJ, mNwR, mSwR, mKwR, mIwR, mJwR, mRwR, mLwR, mAIwR, mAJwR, mARwR, mNwAI, mSwAI, mKwAI, mIwAI, mJwAI, mRwAI, mLwAI, mAIwAI, mAJwAI, mARwAI, mNwAJ, mSwAJ, mKwAJ, mIwAJ, mJwAJ, mRwAJ, mLwAJ, mAIwAJ, mAJwAJ, mARwAJ, mNwAR, mSwAR, mKwAR, mIwAR, mJwAR, mRwAR, mLwAR, mAIwAR, mAJwAR, mARwAR, okkwI, okkwJ, okkwR, okkwAI, okkwAJ, okkwAR], h7.fr (by rw [e5]; simp [mNwI, mSwI, mKwI, mIwI, mJwI, mRwI, mLwI, mAIwI, mAJwI, mARwI, mNwJ, mSwJ, mKwJ, mIwJ, mJwJ, mRwJ, mLwJ, mAIwJ, mAJwJ, mARwJ, mNwR, mSwR, mKwR, mIwR, mJwR, mRwR, mLwR, mAIwR, mAJwR, mARwR, mNwAI, mSwAI, mKwAI, mIwAI, mJwAI, mRwAI, mLwAI, mAIwAI, mAJwAI, mARwAI, mNwAJ, mSwAJ, mKwAJ, mIwAJ, mJwAJ, mRwAJ, mLwAJ, mAIwAJ, mAJwAJ, mARwAJ, mNwAR, mSwAR, mKwAR, mIwAR, mJwAR, mRwAR, mLwAR, mAIwAR, mAJwAR, mARwAR, okkwI, okkwJ, okkwR, okkwAI, okkwAJ, okkwAR]) (by rw [e5, mAI_wI]; exact mAI_wAI_ne (by decide)), h8.push e5, h9.fr (by rw [e5, mAI_wI]; exact mAI_wAI_ne (by decide)) (by rw [e5, mAI_wI]; exact mAI_wAI_ne (by decide)) (by rw [e5]; rfl) (by rw [e5, mAI_wI]; exact mAI_wAI_ne (by decide)), h10.1, hl, h10.2.2.1, h10.2.2.2.1, fun y hy => by
    rcases List.mem_cons.mp hy with q | q
    · rw [q]; exact hx
    · exact h10.2.2.2.2 y q⟩ fr
theorem B_sum {d : Nd} {va : Int64} {vb : Int32} (hR : SR b n s m sN ro mx vN w M i o pr σ ν X) (hl : X.length + 1 + σ.length ≤ i + 1) (hx : X.length < 810) (ha : va = xa m d) (hb : vb = xb m d) (H : ∀ M', (X.length + 1 + σ.length ≤ i → SR b n s m sN ro mx vN w M' i o pr σ ν (X ++ [d])) → XR M' m (X ++ [d]) → (∀ f, mI M' 29 f = mI M 29 f) → mAI M' 52 = mAI M 52 → mAI M' 53 = mAI M 53 → CoR b n s m sN ro mx vN M' → RFm m M M' → Q (some (.int (Int32.ofNat (810 * m + X.length)))) M') : E (h + 1) mdX11_sum [.ref 29, .int (Int32.ofNat d.1), .long va, .int vb] M Q := by
  obtain ⟨h1, h2, h3, h4, h5, h6, h7, h8, h9, h10⟩ := hR
  have F := h1.1
  have hm := h1.2.2.2.1
  have e19 : mI M 29 19 = Int32.ofNat m := h1.2.2.1
  refine KX11_sum ?_
  unfold DX11_sum_0
  have ek : (810 : Int32) * Int32.ofNat m + Int32.ofNat X.length = Int32.ofNat (810 * m + X.length) := by
    rw [show (810 : Int32) = Int32.ofNat 810 from rfl, mul32, add32]
  have e48 : ∀ b4 : Nat, b4 = 48 → mAI M b4 m = Int32.ofNat X.length := by rintro _ rfl; exact h9.1
  rw [e19, lt32 (by omega)]
  refine ⟨ok29 F, 48, rf29_24 F, ok48 F, by rw [ln48 F]; exact vp_of hm (by decide), 48, rf29_24 F, ok48 F, by rw [ln48 F]; exact vp_of hm (by decide), by rw [ln48 F]; exact vp_of hm (by decide), fun A a => ?_⟩
  rw [h9.1, succ32] at a
  rw [h9.1, ek, lt32 (by omega)]
  have FA : Fix A := by rw [a]; exact F.ai
  refine ⟨49, rf29_25 FA, ok49 FA, by rw [ln49 FA]; exact vp_of (by omega) (by decide), fun B bb => ?_⟩
  have FB : Fix B := by rw [bb]; exact FA.ai
  refine ⟨50, rf29_26 FB, ok50 FB, by rw [ln50 FB]; exact vp_of (by omega) (by decide), fun C c => ?_⟩
  have FC : Fix C := by rw [c]; exact FB.aj (by decide)
  refine ⟨51, rf29_27 FC, ok51 FC, by rw [ln51 FC]; exact vp_of (by omega) (by decide), fun D dd => ?_⟩
  have eD : D = wAI (wAJ (wAI (wAI M 48 m (Int32.ofNat (X.length + 1))) 49 (810 * m + X.length) (Int32.ofNat d.1)) 50 (810 * m + X.length) va) 51 (810 * m + X.length) vb := by rw [dd, c, bb, a]
  have iD : ∀ f, mI D 29 f = mI M 29 f := fun f => by rw [eD]; rfl
  have s52 : mAI D 52 = mAI M 52 := by rw [eD, mAI_wAI_ne (by decide), mAI_wAJ, mAI_wAI_ne (by decide), mAI_wAI_ne (by decide)]
  have s53 : mAI D 53 = mAI M 53 := by rw [eD, mAI_wAI_ne (by decide), mAI_wAJ, mAI_wAI_ne (by decide), mAI_wAI_ne (by decide)]
  have fr : RFm m M D := by
    refine ⟨by rw [eD]; rfl, by rw [eD]; rfl, by rw [eD]; rfl, by rw [eD]; rfl, by rw [eD]; rfl, by rw [eD]; rfl, by rw [eD]; rfl, fun a _ => by rw [eD]; rfl, fun f _ => iD f, fun a q => ?_, fun a q => ?_, fun j q => ?_, fun k q => ⟨?_, ?_, ?_⟩⟩
    · rw [eD, mAI_wAI_ne (by rintro rfl; exact q (by decide)), mAI_wAJ, mAI_wAI_ne (by rintro rfl; exact q (by decide)), mAI_wAI_ne (by rintro rfl; exact q (by decide))]
    · rw [eD, mAJ_wAI]; exact up2_row q
    · rw [eD, mAI_wAI, if_neg (by omega), mAI_wAJ, mAI_wAI, if_neg (by omega), mAI_wAI, if_neg (by omega)]
    · rw [eD, mAI_wAI, if_neg (by omega), mAI_wAJ, mAI_wAI, if_neg (by omega), mAI_wAI, if_neg (by omega)]
    · rw [eD, mAJ_wAI, mAJ_wAJ, if_neg (by omega), mAJ_wAI, mAJ_wAI]
    · rw [eD, mAI_wAI, if_neg (by omega), mAI_wAJ, mAI_wAI, if_neg (by omega), mAI_wAI, if_neg (by omega)]
  have xr : XR D m (X ++ [d]) := by
    refine ⟨?_, fun k hk => ?_⟩
    · rw [eD, mAI_wAI, if_neg (by omega), mAI_wAJ, mAI_wAI, if_neg (by omega), mAI_wAI, if_pos ⟨rfl, rfl⟩, List.length_append]; rfl
    · rw [List.length_append] at hk
      have hk : k < X.length + 1 := hk
      have eg : (X ++ [d]).getD k nd0 = if k = X.length then d else X.getD k nd0 := by
        rw [List.getD_eq_getElem?_getD, List.getD_eq_getElem?_getD]
        by_cases q : k = X.length
        · rw [if_pos q, q, List.getElem?_append_right (Nat.le_refl _), Nat.sub_self]; rfl
        · rw [if_neg q, List.getElem?_append_left (by omega)]
      rw [eg]
      by_cases q : k = X.length
      · rw [if_pos q, q]
        refine ⟨?_, ?_, ?_⟩
        · rw [eD, mAI_wAI, if_neg (by omega), mAI_wAJ, mAI_wAI, if_pos ⟨rfl, rfl⟩]
        · rw [eD, mAJ_wAI, mAJ_wAJ, if_pos ⟨rfl, rfl⟩, ha]
        · rw [eD, mAI_wAI, if_pos ⟨rfl, rfl⟩, hb]
      · rw [if_neg q]
        obtain ⟨x1, x2, x3⟩ := h9.2 k (by omega)
        refine ⟨?_, ?_, ?_⟩
        · rw [eD, mAI_wAI, if_neg (by omega), mAI_wAJ, mAI_wAI, if_neg (by omega), mAI_wAI, if_neg (by omega)]; exact x1
        · rw [eD, mAJ_wAI, mAJ_wAJ, if_neg (by omega), mAJ_wAI, mAJ_wAI]; exact x2
        · rw [eD, mAI_wAI, if_neg (by omega), mAI_wAJ, mAI_wAI, if_neg (by omega), mAI_wAI, if_neg (by omega)]; exact x3
  exact H D (fun hle => ⟨h1.fr fr, h2, by rw [iD]; exact h3, h4.fr (iD 6) (iD 7), by rw [iD]; exact h5, by rw [iD]; exact h6, h7.fr (iD _) s52, h8.fr (iD _) s53, xr, by rw [List.length_append]; exact hle, h10.2.1, h10.2.2.1, h10.2.2.2.1, fun y hy => by rw [List.length_append]; exact Nat.lt_succ_of_lt (h10.2.2.2.2 y hy)⟩) xr iD s52 s53 (h1.fr fr) fr
end
