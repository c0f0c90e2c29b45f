/-! the reference reads conditions: its stacks -/
def RFc (m : Nat) (M M' : Mem) : Prop := mN M' = mN M ∧ mS M' = mS M ∧ mK M' = mK M ∧ mL M' = mL M ∧ mR M' = mR M ∧ mAR M' = mAR M ∧ mJ M' = mJ M ∧ (∀ a, a ≠ 29 → mI M' a = mI M a) ∧ (∀ f, f ∉ [5, 6, 7, 29, 31, 32, 33] → mI M' 29 f = mI M 29 f) ∧ (∀ a, a ∉ [40, 44, 45, 46, 47, 52, 53] → mAI M' a = mAI M a) ∧ mAJ M' = mAJ M ∧ (∀ j, j ≠ m → mAI M' 44 j = mAI M 44 j) ∧ (∀ k, k < 410 * m → mAI M' 45 k = mAI M 45 k ∧ mAI M' 46 k = mAI M 46 k ∧ mAI M' 47 k = mAI M 47 k) ∧ (∀ k, k < 16 * m → mAI M' 40 k = mAI M 40 k)
theorem RFc.rf {m : Nat} {M : Mem} : RFc m M M := ⟨rfl, rfl, rfl, rfl, rfl, rfl, rfl, fun _ _ => rfl, fun _ _ => rfl, fun _ _ => rfl, rfl, fun _ _ => rfl, fun _ _ => ⟨rfl, rfl, rfl⟩, fun _ _ => rfl⟩
theorem RFc.tr {m : Nat} {M M1 M2 : Mem} (h : RFc m M M1) (k : RFc m M1 M2) : RFc m M M2 := by
  obtain ⟨a1, a2, a3, a4, a5, a6, a7, a8, a9, aA, aB, aC, aD, aE⟩ := h
  obtain ⟨b1, b2, b3, b4, b5, b6, b7, b8, b9, bA, bB, bC, bD, bE⟩ := k
  exact ⟨b1.trans a1, b2.trans a2, b3.trans a3, b4.trans a4, b5.trans a5, b6.trans a6, b7.trans a7, fun a q => (b8 a q).trans (a8 a q), fun f q => (b9 f q).trans (a9 f q), fun a q => (bA a q).trans (aA a q), bB.trans aB, fun j q => (bC j q).trans (aC j q), fun k q => ⟨(bD k q).1.trans (aD k q).1, (bD k q).2.1.trans (aD k q).2.1, (bD k q).2.2.trans (aD k q).2.2⟩, fun k q => (bE k q).trans (aE k q)⟩
theorem RFc.i {m f : Nat} {M : Mem} {v : Int32} (hf : f ∈ [5, 6, 7, 29, 31, 32, 33]) : RFc m M (wI M 29 f v) := ⟨rfl, rfl, rfl, rfl, rfl, rfl, rfl, fun a q => up2_row q, fun g q => by rw [mI_wI, if_neg (fun z : 29 = 29 ∧ g = f => q (by rw [z.2]; exact hf))], fun _ _ => rfl, rfl, fun _ _ => rfl, fun _ _ => ⟨rfl, rfl, rfl⟩, fun _ _ => rfl⟩
theorem RFc.st {m c k : Nat} {M : Mem} {v : Int32} (hc : c = 52 ∨ c = 53) : RFc m M (wAI M c k v) := ⟨rfl, rfl, rfl, rfl, rfl, rfl, rfl, fun _ _ => rfl, fun _ _ => rfl, fun a q => up2_row (by rintro rfl; rcases hc with rfl | rfl <;> exact q (by decide)), rfl, fun j _ => by rw [mAI_wAI, if_neg (by rintro ⟨z, -⟩; omega)], fun j _ => ⟨by rw [mAI_wAI, if_neg (by rintro ⟨z, -⟩; omega)], by rw [mAI_wAI, if_neg (by rintro ⟨z, -⟩; omega)], by rw [mAI_wAI, if_neg (by rintro ⟨z, -⟩; omega)]⟩, fun j _ => by rw [mAI_wAI, if_neg (by rintro ⟨z, -⟩; omega)]⟩
theorem RFc.e {m : Nat} {M M' : Mem} (h : RFc m M M') : mE M M' := ⟨Nat.le_of_eq h.1.symm, Nat.le_of_eq h.2.1.symm, fun a _ => ⟨by rw [h.2.2.1], by rw [h.2.2.2.1]⟩⟩
theorem RFc.fix {m : Nat} {M M' : Mem} (h : RFc m M M') (F : Fix M) : Fix M' := F.of_fr (S := fun _ => True) h.e (fun e _ => by rw [h.2.2.2.2.1]) (by rw [h.2.2.2.2.2.2.2.2.2.2.1])
theorem CoR.frc {b : Nat → Int32} {n s m : Nat} {sN : List Int64} {ro mx : List Int32} {vN : List Int64} {M M' : Mem} (h : CoR b n s m sN ro mx vN M) (k : RFc m M M') : CoR b n s m sN ro mx vN M' := by
  obtain ⟨h1, h2, h3⟩ := h
  have kI := k.2.2.2.2.2.2.2.2.1
  have kA := k.2.2.2.2.2.2.2.2.2.1
  have kJ := k.2.2.2.2.2.2.2.2.2.2.1
  refine ⟨k.fix h1, fun j hj => ?_, ?_⟩
  · obtain ⟨r1, r2, r3⟩ := h2 j hj
    exact ⟨by rw [kA 31 (by decide)]; exact r1, by rw [kA 32 (by decide)]; exact r2, by rw [kJ]; exact r3⟩
  · obtain ⟨e1, e2, e3, e4, e5, e6, e7, e8, e9⟩ := h3
    exact ⟨by rw [kI 19 (by decide)]; exact e1, e2, e3, by rw [kA 34 (by decide)]; exact e4, by rw [kA 36 (by decide)]; exact e5, by rw [kJ]; exact e6, by rw [kA 38 (by decide)]; exact e7, by rw [kA 39 (by decide)]; exact e8, by rw [kJ]; exact e9⟩
def cd0 : Cd := (0, 0, 0)
def ya (m : Nat) (d : Cd) : Int32 := if d.1 < 2 then Int32.ofNat d.2.1 else Int32.ofNat (410 * m + d.2.1)
def yb (m : Nat) (d : Cd) : Int32 := if d.1 ≤ 2 then 0 else Int32.ofNat (410 * m + d.2.2)
/-- is signal k asked for by some pre -/
def pq (Y : List Cd) (k : Nat) : Bool := Y.any (fun e => decide (e.1 = 1 ∧ e.2.1 = k))
def YR (L : Nat) (M : Mem) (m : Nat) (Y : List Cd) : Prop := mAI M 44 m = Int32.ofNat Y.length ∧ (∀ k, k < Y.length → mAI M 45 (410 * m + k) = Int32.ofNat (Y.getD k cd0).1 ∧ mAI M 46 (410 * m + k) = ya m (Y.getD k cd0) ∧ mAI M 47 (410 * m + k) = yb m (Y.getD k cd0)) ∧ ∀ k, k < L → mAI M 40 (16 * m + k) = if pq Y k = true then 1 else 0
theorem YR.fr {L m : Nat} {Y : List Cd} {M M' : Mem} (h : YR L M m Y) (h40 : mAI M' 40 = mAI M 40) (h44 : mAI M' 44 = mAI M 44) (h45 : mAI M' 45 = mAI M 45) (h46 : mAI M' 46 = mAI M 46) (h47 : mAI M' 47 = mAI M 47) : YR L M' m Y := ⟨by rw [h44]; exact h.1, fun k hk => by rw [h45, h46, h47]; exact h.2.1 k hk, fun k hk => by rw [h40]; exact h.2.2 k hk⟩
/-- operators that stand for a word -/
def wt (σ : List Nat) : Nat := (σ.filter (fun x => decide (x ≠ 5))).length
theorem wt_cons {x : Nat} {σ : List Nat} : wt (x :: σ) = wt σ + (if x = 5 then 0 else 1) := by
  unfold wt
  by_cases h : x = 5
  · rw [List.filter_cons_of_neg (by simp [h]), if_pos h]; rfl
  · rw [List.filter_cons_of_pos (by simp [h]), if_neg h]; rfl
def SC (b : Nat → Int32) (n s m : Nat) (sN : List Int64) (ro mx : List Int32) (vN : List Int64) (w : Int32 × Int32) (M : Mem) (i o pr : Nat) (σ ν : List Nat) (Y : List Cd) : Prop := CoR b n s m sN ro mx vN M ∧ (n ≤ 800 ∧ s ≤ n ∧ i ≤ s) ∧ mI M 29 5 = Int32.ofNat i ∧ W6 M w ∧ mI M 29 33 = Int32.ofNat o ∧ mI M 29 32 = Int32.ofNat pr ∧ St M 52 29 0 σ ∧ St M 53 31 (410 * m) ν ∧ YR sN.length M m Y ∧ ((2 * (Y.length + wt σ) ≤ bt b n i ∧ σ.length ≤ i) ∧ ν.length ≤ i ∧ o ≤ 15 ∧ pr ≤ i ∧ ∀ x ∈ ν, x < Y.length)
section
variable {b : Nat → Int32} {n s m : Nat} {sN : List Int64} {ro mx : List Int32} {vN : List Int64} {w : Int32 × Int32} {M : Mem} {i o pr : Nat} {σ ν : List Nat} {Y : List Cd} {h : Nat} {Q : Option Value → Mem → Prop}
theorem G_popped {x : Nat} (hR : SC b n s m sN ro mx vN w M i o pr σ (x :: ν) Y) (H : ∀ M', SC b n s m sN ro mx vN w M' i o pr σ ν Y → RFc m M M' → Q (some (.int (Int32.ofNat (410 * m + x)))) M') : E (h + 1) mdX11_popped [.ref 29] M Q := by
  obtain ⟨h1, h2, h3, h4, h5, h6, h7, h8, h9, h10⟩ := hR
  have F := h1.1
  have hl : ν.length + 1 ≤ i := h10.2.1
  refine KX11_popped ?_
  unfold DX11_popped_0
  have e31 : mI M 29 31 = Int32.ofNat (ν.length + 1) := h8.1
  rw [e31, dec32 (by omega)]
  refine ⟨ok29 F, fun M2 e2 => ?_⟩
  have F2 : Fix M2 := by rw [e2]; exact F.i
  have i2 : mI M2 29 31 = Int32.ofNat ν.length := by rw [e2]; exact mI_own _ _ _ _
  have t2 : mAI M2 53 ν.length = Int32.ofNat (410 * m + x) := by rw [e2, mAI_wI]; exact h8.top
  rw [i2, lt32 (by omega)]
  refine ⟨53, rf29_30 F2, ok53 F2, by rw [ln53 F2]; exact vp_of (by omega) (by decide), ?_⟩
  rw [t2]
  have fr : RFc m M M2 := by rw [e2]; exact RFc.i (by decide)
  exact H M2 ⟨h1.frc fr, h2, by rw [e2]; simp [h3, mNwI, mSwI, mKwI, mIwI, mJwI, mRwI, mLwI, mAIwI, mAJwI, mARwI, mNwJ, mSwJ, mKwJ, mIwJ, mJwJ, mRwJ, mLwJ, mAIwJ, mAJwJ, mARwJ, mNwR, mSwR, mKwR, mIwR, mJwR, mRwR, mLwR, mAIwR, mAJwR, mARwR, mNwAI, mSwAI, mKwAI, mIwAI, mJwAI, mRwAI, mLwAI, mAIwAI, mAJwAI, mARwAI, mNwAJ, mSwAJ, mKwAJ, mIwAJ, mJwAJ, mRwAJ, mLwAJ, mAIwAJ, mAJwAJ, mARwAJ, mNwAR, mSwAR, mKwAR, mIwAR, mJwAR, mRwAR, mLwAR, mAIwAR, mAJwAR, mARwAR, okkwI, okkwJ, okkwR, okkwAI, okkwAJ, okkwAR], h4.fr (by rw [e2]; simp [mNwI, mSwI, mKwI, mIwI, mJwI, mRwI, mLwI, mAIwI, mAJwI, mARwI, mNwJ, mSwJ, mKwJ, mIwJ, mJwJ, mRwJ, mLwJ, mAIwJ, mAJwJ, mARwJ, mNwR, mSwR, mKwR, mIwR, mJwR, mRwR, mLwR, mAIwR, mAJwR, mARwR, mNwAI, mSwAI, mKwAI, mIwAI, mJwAI, mRwAI, mLwAI, mAIwAI, mAJwAI, mARwAI, mNwAJ, mSwAJ, mKwAJ, mIwAJ, mJwAJ, mRwAJ, mLwAJ, mAIwAJ, mAJwAJ, mARwAJ, mNwAR, mSwAR, mKwAR, mIwAR, mJwAR, mRwAR, mLwAR, mAIwAR, mAJwAR, mARwAR, okkwI, okkwJ, okkwR, okkwAI, okkwAJ, okkwAR]) (by rw [e2]; simp [mNwI, mSwI, mKwI, mIwI, mJwI, mRwI, mLwI, mAIwI, mAJwI, mARwI, mNwJ, mSwJ, mKwJ, mIwJ, mJwJ, mRwJ, mLwJ, mAIwJ, mAJwJ, mARwJ, mNwR, mSwR, mKwR, mIwR, mJwR, mRwR, mLwR, mAIwR, mAJwR, mARwR, mNwAI, mSwAI, mKwAI, mIwAI, mJwAI, mRwAI, mLwAI, mAIwAI, mAJwAI, mARwAI, mNwAJ, mSwAJ, mKwAJ, mIwAJ, mJwAJ, mRwAJ, mLwAJ, mAIwAJ, mAJwAJ, mARwAJ, mNwAR, mSwAR, mKwAR, mIwAR, mJwAR, mRwAR, mLwAR, mAIwAR, mAJwAR, mARwAR, okkwI, okkwJ, okkwR, okkwAI, okkwAJ, okkwAR]), by rw [e2]; simp [h5, mNwI, mSwI, mKwI, mIwI, mJwI, mRwI, mLwI, mAIwI, mAJwI, mARwI, mNwJ, mSwJ, mKwJ, mIwJ, mJwJ, mRwJ, mLwJ, mAIwJ, mAJwJ, mARwJ, mNwR, mSwR, mKwR, mIwR, mJwR, mRwR, mLwR, mAIwR, mAJwR, mARwR, mNwAI, mSwAI, mKwAI, mIwAI, mJwAI, mRwAI, mLwAI, mAIwAI, mAJwAI, mARwAI, mNwAJ, mSwAJ, mKwAJ, mIwAJ, mJwAJ, mRwAJ, mLwAJ, mAIwAJ, mAJwAJ, mARwAJ, mNwAR, mSwAR, mKwAR, mIwAR, mJwAR, mRwAR, mLwAR, mAIwAR, mAJwAR, mARwAR, okkwI, okkwJ, okkwR, okkwAI, okkwAJ, okkwAR], by rw [e2]; simp [h6, mNwI, mSwI, mKwI, mIwI, mJwI, mRwI, mLwI, mAIwI, mAJwI, mARwI, mNwJ, mSwJ, mKwJ, mIwJ, mJwJ, mRwJ, mLwJ, mAIwJ, mAJwJ, mARwJ, mNwR, mSwR, mKwR, mIwR, mJwR, mRwR, mLwR, mAIwR, mAJwR, mARwR, mNwAI, mSwAI, mKwAI, mIwAI, mJwAI, mRwAI, mLwAI, mAIwAI, mAJwAI, mARwAI, mNwAJ, mSwAJ, mKwAJ, mIwAJ, mJwAJ, mRwAJ, mLwAJ, mAIwAJ, mAJwAJ, mARwAJ, mNwAR, mSwAR, mKwAR, mIwAR, mJwAR, mRwAR, mLwAR, mAIwAR, mAJwAR, mARwAR, okkwI, okkwJ, okkwR, okkwAI, okkwAJ, okkwAR], h7.fr (by rw [e2]; simp [mNwI, mSwI, mKwI, mIwI, mJwI, mRwI, mLwI, mAIwI, mAJwI, mARwI, mNwJ, mSwJ, mKwJ, mIwJ, mJwJ, mRwJ, mLwJ, mAIwJ, mAJwJ, mARwJ, mNwR, mSwR, mKwR, mIwR, mJwR, mRwR, mLwR, mAIwR, mAJwR, mARwR, mNwAI, mSwAI, mKwAI, mIwAI, mJwAI, mRwAI, mLwAI, mAIwAI, mAJwAI, mARwAI, mNwAJ, mSwAJ, mKwAJ, mIwAJ, mJwAJ, mRwAJ, mLwAJ, mAIwAJ, mAJwAJ, mARwAJ, mNwAR, mSwAR, mKwAR, mIwAR, mJwAR, mRwAR, mLwAR, mAIwAR, mAJwAR, mARwAR, okkwI, okkwJ, okkwR, okkwAI, okkwAJ, okkwAR]) (by rw [e2]; rfl), h8.pop e2, h9.fr (by rw [e2]; rfl) (by rw [e2]; rfl) (by rw [e2]; rfl) (by rw [e2]; rfl) (by rw [e2]; rfl), h10.1, by omega, h10.2.2.1, h10.2.2.2.1, fun y hy => h10.2.2.2.2 y (List.mem_cons_of_mem _ hy)⟩ fr
/-- a node is put down behind the others -/
theorem G_cond {d : Cd} {va vb : Int32} (h1 : CoR b n s m sN ro mx vN M) (h9 : YR 0 M m Y) (hx : Y.length < 410) (ha : va = ya m d) (hb : vb = yb m d) (hp : ∀ k, k < sN.length → mAI M 40 (16 * m + k) = if pq (Y ++ [d]) k = true then 1 else 0) (H : ∀ M', YR sN.length M' m (Y ++ [d]) → (∀ f, mI M' 29 f = mI M 29 f) → mAI M' 52 = mAI M 52 → mAI M' 53 = mAI M 53 → CoR b n s m sN ro mx vN M' → RFc m M M' → Q (some (.int (Int32.ofNat (410 * m + Y.length)))) M') : E (h + 1) mdX11_cond [.ref 29, .int (Int32.ofNat d.1), .int va, .int vb] M Q := by
  have F := h1.1
  have hm := h1.2.2.2.1
  have e19 : mI M 29 19 = Int32.ofNat m := h1.2.2.1
  refine KX11_cond ?_
  unfold DX11_cond_0
  have ek : (410 : Int32) * Int32.ofNat m + Int32.ofNat Y.length = Int32.ofNat (410 * m + Y.length) := by
    rw [show (410 : Int32) = Int32.ofNat 410 from rfl, mul32, add32]
  rw [e19, lt32 (by omega)]
  refine ⟨ok29 F, 44, rf29_20 F, ok44 F, by rw [ln44 F]; exact vp_of hm (by decide), 44, rf29_20 F, ok44 F, by rw [ln44 F]; exact vp_of hm (by decide), by rw [ln44 F]; exact vp_of hm (by decide), fun A a => ?_⟩
  rw [h9.1, succ32] at a
  rw [h9.1, ek, lt32 (by omega)]
  have FA : Fix A := by rw [a]; exact F.ai
  refine ⟨45, rf29_21 FA, ok45 FA, by rw [ln45 FA]; exact vp_of (by omega) (by decide), fun B bb => ?_⟩
  have FB : Fix B := by rw [bb]; exact FA.ai
  refine ⟨46, rf29_22 FB, ok46 FB, by rw [ln46 FB]; exact vp_of (by omega) (by decide), fun C c => ?_⟩
  have FC : Fix C := by rw [c]; exact FB.ai
  refine ⟨47, rf29_23 FC, ok47 FC, by rw [ln47 FC]; exact vp_of (by omega) (by decide), fun D dd => ?_⟩
  have eD : D = wAI (wAI (wAI (wAI M 44 m (Int32.ofNat (Y.length + 1))) 45 (410 * m + Y.length) (Int32.ofNat d.1)) 46 (410 * m + Y.length) va) 47 (410 * m + Y.length) vb := by rw [dd, c, bb, a]
  have iD : ∀ f, mI D 29 f = mI M 29 f := fun f => by rw [eD]; rfl
  have sd : ∀ q, q ≠ 44 → q ≠ 45 → q ≠ 46 → q ≠ 47 → mAI D q = mAI M q := fun q q1 q2 q3 q4 => by rw [eD, mAI_wAI_ne q4, mAI_wAI_ne q3, mAI_wAI_ne q2, mAI_wAI_ne q1]
  have fr : RFc m M D := by
    refine ⟨by rw [eD]; rfl, by rw [eD]; rfl, by rw [eD]; rfl, by rw [eD]; rfl, by rw [eD]; rfl, by rw [eD]; rfl, by rw [eD]; rfl, fun a _ => by rw [eD]; rfl, fun f _ => iD f, fun a q => ?_, by rw [eD]; rfl, fun j q => ?_, fun k q => ⟨?_, ?_, ?_⟩, fun k q => by rw [sd 40 (by decide) (by decide) (by decide) (by decide)]⟩
    · exact sd a (by rintro rfl; exact q (by decide)) (by rintro rfl; exact q (by decide)) (by rintro rfl; exact q (by decide)) (by rintro rfl; exact q (by decide))
    · rw [eD, mAI_wAI, if_neg (by omega), mAI_wAI, if_neg (by omega), mAI_wAI, if_neg (by omega), mAI_wAI, if_neg (by omega)]
    · rw [eD, mAI_wAI, if_neg (by omega), mAI_wAI, if_neg (by omega), mAI_wAI, if_neg (by omega), mAI_wAI, if_neg (by omega)]
    · rw [eD, mAI_wAI, if_neg (by omega), mAI_wAI, if_neg (by omega), mAI_wAI, if_neg (by omega), mAI_wAI, if_neg (by omega)]
    · rw [eD, mAI_wAI, if_neg (by omega), mAI_wAI, if_neg (by omega), mAI_wAI, if_neg (by omega), mAI_wAI, if_neg (by omega)]
  have xr : YR sN.length D m (Y ++ [d]) := by
    refine ⟨?_, fun k hk => ?_, fun k hk => ?_⟩
    · rw [eD, mAI_wAI, if_neg (by omega), mAI_wAI, if_neg (by omega), mAI_wAI, if_neg (by omega), mAI_wAI, if_pos ⟨rfl, rfl⟩, List.length_append]; rfl
    · rw [List.length_append] at hk
      have hk : k < Y.length + 1 := hk
      have eg : (Y ++ [d]).getD k cd0 = if k = Y.length then d else Y.getD k cd0 := by
        rw [List.getD_eq_getElem?_getD, List.getD_eq_getElem?_getD]
        by_cases q : k = Y.length
        · rw [if_pos q, q, List.getElem?_append_right (Nat.le_refl _), Nat.sub_self]; rfl
        · rw [if_neg q, List.getElem?_append_left (by omega)]
      rw [eg]
      by_cases q : k = Y.length
      · rw [if_pos q, q]
        refine ⟨?_, ?_, ?_⟩
        · rw [eD, mAI_wAI, if_neg (by omega), mAI_wAI, if_neg (by omega), mAI_wAI, if_pos ⟨rfl, rfl⟩]
        · rw [eD, mAI_wAI, if_neg (by omega), mAI_wAI, if_pos ⟨rfl, rfl⟩, ha]
        · rw [eD, mAI_wAI, if_pos ⟨rfl, rfl⟩, hb]
      · rw [if_neg q]
        obtain ⟨x1, x2, x3⟩ := h9.2.1 k (by omega)
        refine ⟨?_, ?_, ?_⟩
        · rw [eD, mAI_wAI, if_neg (by omega), mAI_wAI, if_neg (by omega), mAI_wAI, if_neg (by omega), mAI_wAI, if_neg (by omega)]; exact x1
        · rw [eD, mAI_wAI, if_neg (by omega), mAI_wAI, if_neg (by omega), mAI_wAI, if_neg (by omega), mAI_wAI, if_neg (by omega)]; exact x2
        · rw [eD, mAI_wAI, if_neg (by omega), mAI_wAI, if_neg (by omega), mAI_wAI, if_neg (by omega), mAI_wAI, if_neg (by omega)]; exact x3
    · rw [sd 40 (by decide) (by decide) (by decide) (by decide)]
      exact hp k hk
  exact H D xr iD (sd 52 (by decide) (by decide) (by decide) (by decide)) (sd 53 (by decide) (by decide) (by decide) (by decide)) (h1.frc fr) fr
end
def jc : List (Nat × Nat) → Nat → List Cd → Nat × List Cd
  | [], r, Y => (r, Y)
  | e :: π, r, Y => jc π Y.length (Y ++ [(e.1, e.2, r)])
theorem jc_app {e : Nat × Nat} : ∀ (π : List (Nat × Nat)) (r : Nat) (Y : List Cd), jc (π ++ [e]) r Y = ((jc π r Y).2.length, (jc π r Y).2 ++ [(e.1, e.2, (jc π r Y).1)]) := by
  intro π
  induction π with
  | nil => intro r Y; rfl
  | cons a π ih => intro r Y; exact ih _ _
def nc : Nat → Nat → List Cd → Nat × List Cd
  | 0, r, Y => (r, Y)
  | k + 1, r, Y => nc k Y.length (Y ++ [(2, r, 0)])
section
variable {b : Nat → Int32} {n s m : Nat} {sN : List Int64} {ro mx : List Int32} {vN : List Int64} {w : Int32 × Int32} {o pr : Nat} {h : Nat} {Q : Option Value → Mem → Prop}
theorem SC.opPop {M M' : Mem} {i : Nat} {x : Nat} {σ ν : List Nat} {Y : List Cd} {o' pr' : Nat} (h1 : CoR b n s m sN ro mx vN M) (h2 : n ≤ 800 ∧ s ≤ n ∧ i ≤ s) (h3 : mI M 29 5 = Int32.ofNat i) (h4 : W6 M w) (h7 : St M 52 29 0 (x :: σ)) (h8 : St M 53 31 (410 * m) ν) (h9 : YR sN.length M m Y) (h10 : (2 * (Y.length + wt σ) ≤ bt b n i ∧ σ.length ≤ i) ∧ ν.length ≤ i ∧ o' ≤ 15 ∧ pr' ≤ i ∧ ∀ x ∈ ν, x < Y.length) (fr : RFc m M M') (e5 : mI M' 29 5 = mI M 29 5) (e6 : mI M' 29 6 = mI M 29 6) (e7 : mI M' 29 7 = mI M 29 7) (e29 : mI M' 29 29 = Int32.ofNat σ.length) (e31 : mI M' 29 31 = mI M 29 31) (e33 : mI M' 29 33 = Int32.ofNat o') (e32 : mI M' 29 32 = Int32.ofNat pr') (eA : mAI M' = mAI M) : SC b n s m sN ro mx vN w M' i o' pr' σ ν Y := by
  refine ⟨h1.frc fr, h2, e5.trans h3, h4.fr e6 e7, e33, e32, ⟨e29, fun j hj => ?_⟩, h8.fr e31 (by rw [eA]), h9.fr (by rw [eA]) (by rw [eA]) (by rw [eA]) (by rw [eA]) (by rw [eA]), h10⟩
  have := h7.2 j (Nat.lt_succ_of_lt hj)
  rw [rev_app (Nat.lt_succ_of_lt hj), if_neg (by omega)] at this
  rw [eA]
  exact this
/-- a new node takes the place of others on the stack; the operator on top goes -/
theorem G_node {M : Mem} {i x : Nat} {σ N : List Nat} {Y : List Cd} {d : Cd} {va vb : Int32} {K : Mem → Prop} (hz : ∀ i, n ≤ i → b i = 0) (R2 : SC b n s m sN ro mx vN w M i o pr (x :: σ) N Y) (hx5 : x ≠ 5) (hN : N.length + 1 ≤ i) (ha : va = ya m d) (hb : vb = yb m d) (hd : d.1 ≠ 1) (H : ∀ M5, (∀ f, f ≠ 31 → mI M5 29 f = mI M 29 f) → (∀ M', mI M' 29 5 = mI M5 29 5 → mI M' 29 6 = mI M5 29 6 → mI M' 29 7 = mI M5 29 7 → mI M' 29 29 = Int32.ofNat σ.length → mI M' 29 31 = mI M5 29 31 → (∀ o', o' ≤ 15 → mI M' 29 33 = Int32.ofNat o' → mI M' 29 32 = Int32.ofNat pr → mAI M' = mAI M5 → RFc m M5 M' → SC b n s m sN ro mx vN w M' i o' pr σ (Y.length :: N) (Y ++ [d]))) → RFc m M M5 → K M5) :
    E (h + 1) mdX11_cond [.ref 29, .int (Int32.ofNat d.1), .int va, .int vb] M (fun r M6 => mE M M6 → ∃ r7 : Int32, r = some (.int r7) ∧ E (h + 1) mdX11_pushed [.ref 29, .int r7] M6 (fun r M8 => mE M6 M8 → r = none ∧ K M8)) := by
  have hi := R2.2.1
  obtain ⟨h1, h2, h3, h4, h5, h6, h7, h8, h9, h10⟩ := id R2
  have hw : wt (x :: σ) = wt σ + 1 := by rw [wt_cons, if_neg hx5]
  have hbl := bt_le (b := b) (n := n) (i := i) hz
  have hYl : Y.length < 410 := by have := h10.1.1; rw [hw] at this; omega
  refine G_cond (d := d) h1 ⟨h9.1, h9.2.1, fun k hk => absurd hk (Nat.not_lt_zero _)⟩ hYl ha hb (fun k hk => by rw [h9.2.2 k hk, show pq (Y ++ [d]) k = pq Y k by unfold pq; rw [List.any_append]; simp [hd]]) (fun M3 x3 i3 s52 s53 c3 F3 _ => ⟨_, rfl, ?_⟩)
  refine KX11_pushed ?_
  unfold DX11_pushed_0
  have e31 : mI M3 29 31 = Int32.ofNat N.length := (i3 31).trans h8.1
  rw [e31, lt32 (by omega)]
  have FF := c3.1
  refine ⟨ok29 FF, 53, rf29_30 FF, ok53 FF, by rw [ln53 FF]; exact vp_of (by omega) (by decide), fun M4 e4 M5 e5 => ?_⟩
  have i4 : mI M4 29 31 = Int32.ofNat N.length := by rw [e4, mI_wAI]; exact e31
  rw [i4, succ32, e4] at e5
  have g : ∀ f, f ≠ 31 → mI M5 29 f = mI M 29 f := by intro f hf; rw [e5]; simp [hf, i3, mNwI, mSwI, mKwI, mIwI, mJwI, mRwI, mLwI, mAIwI, mAJwI, mARwI, mNwJ, mSwJ, mKwJ, mIwJ, mJwJ, mRwJ, mLwJ, mAIwJ, mAJwJ, mARwJ, mNwR, mSwR, mKwR, mIwR, mJwR, mRwR, mLwR, mAIwR, mAJwR, mARwR, mNwAI, mSwAI, mKwAI, mIwAI, mJwAI, mRwAI, mLwAI, mAIwAI, mAJwAI, mARwAI, mNwAJ, mSwAJ, mKwAJ, mIwAJ, mJwAJ, mRwAJ, mLwAJ, mAIwAJ, mAJwAJ, mARwAJ, mNwAR, mSwAR, mKwAR, mIwAR, mJwAR, mRwAR, mLwAR, mAIwAR, mAJwAR, mARwAR, okkwI, okkwJ, okkwR, okkwAI, okkwAJ, okkwAR]
  have st3 : St M3 53 31 (410 * m) N := h8.fr (i3 31) s53
  have st5 : St M5 53 31 (410 * m) (Y.length :: N) := st3.push e5
  have F5 : RFc m M3 M5 := by rw [e5]; exact (RFc.st (Or.inr rfl)).tr (RFc.i (by decide))
  have a52 : mAI M5 52 = mAI M 52 := by rw [e5, mAI_wI, mAI_wAI_ne (by decide)]; exact s52
  have ops5 : St M5 52 29 0 (x :: σ) := h7.fr (g 29 (by decide)) a52
  have rw5 : ∀ q, q ≠ 53 → mAI M5 q = mAI M3 q := fun q hq => by rw [e5, mAI_wI]; exact mAI_wAI_ne hq
  have x5 : YR sN.length M5 m (Y ++ [d]) := x3.fr (rw5 40 (by decide)) (rw5 44 (by decide)) (rw5 45 (by decide)) (rw5 46 (by decide)) (rw5 47 (by decide))
  refine fun _ => ⟨rfl, H M5 g (fun M' q5 q6 q7 q29 q31 o' ho' q33 q32 qA fr => ?_) (F3.tr F5)⟩
  have hl : σ.length + 1 ≤ i := h10.1.2
  refine SC.opPop (M := M5) (x := x) (c3.frc F5) hi ((g 5 (by decide)).trans h3) (h4.fr (g 6 (by decide)) (g 7 (by decide))) ops5 st5 x5 ⟨⟨?_, by omega⟩, hN, ho', h10.2.2.2.1, fun y hy => ?_⟩ fr q5 q6 q7 q29 q31 q33 q32 qA
  · have := h10.1.1
    rw [hw] at this
    rw [List.length_append]
    show 2 * (Y.length + 1 + wt σ) ≤ _
    omega
  · rw [List.length_append]
    show y < Y.length + 1
    rcases List.mem_cons.mp hy with q | q
    · omega
    · have := h10.2.2.2.2 y q
      omega
theorem G_joinT {L : Nat} {σb νb : List Nat} (hz : ∀ i, n ≤ i → b i = 0) (hL : L = 3 ∨ L = 4) (hb : top? σb (fun x => x < 3 ∨ L < x)) : ∀ (π : List (Nat × Nat)) (r : Nat) (Y : List Cd) (M : Mem) (i : Nat), (∀ e ∈ π, 3 ≤ e.1 ∧ e.1 ≤ L) → (∀ x ∈ σb, x < 100) → SC b n s m sN ro mx vN w M i o pr (π.map Prod.fst ++ σb) (r :: (π.map Prod.snd ++ νb)) Y → (∀ M', SC b n s m sN ro mx vN w M' i o pr σb ((jc π r Y).1 :: νb) (jc π r Y).2 → RFc m M M' → Q none M') → T (h + 3) mdX11_joinConds 0 [(0, .ref 29), (1, .int (Int32.ofNat L))] [] M Q := by
  intro π
  have hL9 : L < 5 := by omega
  induction π with
  | nil =>
    intro r Y M i _ h100 hR H
    have hR : SC b n s m sN ro mx vN w M i o pr σb (r :: νb) Y := hR
    have F := hR.1.1
    have HQ : Q none M := H M hR RFc.rf
    have hi := hR.2.1
    have h7 := hR.2.2.2.2.2.2.1
    have h10 := hR.2.2.2.2.2.2.2.2.2
    clear H hR
    refine VX11_joinConds_0 ?_
    unfold DX11_joinConds_0 DX11_joinConds_81
    rw [h7.1]
    cases σb with
    | nil => exact ⟨ok29 F, fun _ => HQ, fun hc => absurd (by decide) hc⟩
    | cons x σ =>
      have hl : σ.length + 1 ≤ i := h10.1.2
      have e1 : Int32.ofNat (x :: σ).length - 1 = Int32.ofNat σ.length := sub32 (c := 1) (a := σ.length + 1) (by omega) (by omega)
      have tp := h7.top
      rw [Nat.zero_add] at tp
      have hx : x < 100 := h100 x List.mem_cons_self
      rw [e1, lt32 (by omega)]
      refine ⟨ok29 F, fun _ => HQ, fun _ => ⟨52, rf29_28 F, ok52 F, by rw [ln52 F]; exact vp_of (by omega) (by decide), fun _ => HQ, fun q => ⟨52, rf29_28 F, ok52 F, by rw [ln52 F]; exact vp_of (by omega) (by decide), fun _ => HQ, fun q2 => ?_⟩⟩⟩
      exfalso
      rw [tp] at q q2
      rcases hb with z | z
      · exact q ((ltn32 (b := 3) (by omega) (by decide)).mpr z)
      · exact q2 ((ltn32 (by omega) (by omega)).mpr z)
  | cons e π ih =>
    intro r Y M i hπ h100 hR H
    obtain ⟨q4, qL⟩ := hπ e List.mem_cons_self
    have hR : SC b n s m sN ro mx vN w M i o pr (e.1 :: (π.map Prod.fst ++ σb)) (r :: e.2 :: (π.map Prod.snd ++ νb)) Y := hR
    have F := hR.1.1
    have hi := hR.2.1
    have h7 := hR.2.2.2.2.2.2.1
    have h10 := hR.2.2.2.2.2.2.2.2.2
    have hl : (π.map Prod.fst ++ σb).length + 1 ≤ i := h10.1.2
    generalize hS : π.map Prod.fst ++ σb = S at *
    generalize hN : π.map Prod.snd ++ νb = N at *
    refine VX11_joinConds_0 ?_
    unfold DX11_joinConds_0
    have e29 : mI M 29 29 = Int32.ofNat (S.length + 1) := h7.1
    have e1 : Int32.ofNat (S.length + 1) - 1 = Int32.ofNat S.length := sub32 (c := 1) (by omega) (by omega)
    have tp := h7.top
    rw [Nat.zero_add] at tp
    rw [e29, e1, lt32 (by omega)]
    refine ⟨ok29 F, fun hc => ?_, fun _ => ⟨52, rf29_28 F, ok52 F, by rw [ln52 F]; exact vp_of (by omega) (by decide), fun hc => ?_, fun _ => ⟨52, rf29_28 F, ok52 F, by rw [ln52 F]; exact vp_of (by omega) (by decide), fun hc => ?_, fun _ => ?_⟩⟩⟩
    · exact absurd ((le32 (b := 0) (by omega) (by decide)).mp hc) (by omega)
    · rw [tp] at hc
      exact absurd ((ltn32 (b := 3) (by omega) (by decide)).mp hc) (by omega)
    · rw [tp] at hc
      exact absurd ((ltn32 (by omega) (by omega)).mp hc) (by omega)
    refine G_popped hR (fun M1 R1 F1 _ => ⟨_, rfl, G_popped R1 (fun M2 R2 F2 _ => ⟨_, rfl, 52, rf29_28 R2.1.1, ok52 R2.1.1, ?_⟩)⟩)
    have e29b : mI M2 29 29 = Int32.ofNat (S.length + 1) := R2.2.2.2.2.2.2.1.1
    have tp2 := R2.2.2.2.2.2.2.1.top
    rw [Nat.zero_add] at tp2
    rw [e29b, e1, lt32 (by omega), tp2]
    refine ⟨by rw [ln52 R2.1.1]; exact vp_of (by omega) (by decide), ?_⟩
    have hN2 : N.length + 2 ≤ i := h10.2.1
    refine G_node (d := (e.1, e.2, r)) hz R2 (by omega) (by omega) ?_ ?_ (by show e.1 ≠ 1; omega) (fun M5 g fin F5 M6 e6 => ?_)
    · unfold ya; rw [if_neg (by show ¬ e.1 < 2; omega)]
    · unfold yb; rw [if_neg (by show ¬ e.1 ≤ 2; omega)]
    rw [(g 29 (by decide)).trans e29b, e1] at e6
    have F6 : RFc m M5 M6 := by rw [e6]; exact RFc.i (by decide)
    have SC6 := fin M6 (by rw [e6]; simp [mNwI, mSwI, mKwI, mIwI, mJwI, mRwI, mLwI, mAIwI, mAJwI, mARwI, mNwJ, mSwJ, mKwJ, mIwJ, mJwJ, mRwJ, mLwJ, mAIwJ, mAJwJ, mARwJ, mNwR, mSwR, mKwR, mIwR, mJwR, mRwR, mLwR, mAIwR, mAJwR, mARwR, mNwAI, mSwAI, mKwAI, mIwAI, mJwAI, mRwAI, mLwAI, mAIwAI, mAJwAI, mARwAI, mNwAJ, mSwAJ, mKwAJ, mIwAJ, mJwAJ, mRwAJ, mLwAJ, mAIwAJ, mAJwAJ, mARwAJ, mNwAR, mSwAR, mKwAR, mIwAR, mJwAR, mRwAR, mLwAR, mAIwAR, mAJwAR, mARwAR, okkwI, okkwJ, okkwR, okkwAI, okkwAJ, okkwAR]) (by rw [e6]; simp [mNwI, mSwI, mKwI, mIwI, mJwI, mRwI, mLwI, mAIwI, mAJwI, mARwI, mNwJ, mSwJ, mKwJ, mIwJ, mJwJ, mRwJ, mLwJ, mAIwJ, mAJwJ, mARwJ, mNwR, mSwR, mKwR, mIwR, mJwR, mRwR, mLwR, mAIwR, mAJwR, mARwR, mNwAI, mSwAI, mKwAI, mIwAI, mJwAI, mRwAI, mLwAI, mAIwAI, mAJwAI, mARwAI, mNwAJ, mSwAJ, mKwAJ, mIwAJ, mJwAJ, mRwAJ, mLwAJ, mAIwAJ, mAJwAJ, mARwAJ, mNwAR, mSwAR, mKwAR, mIwAR, mJwAR, mRwAR, mLwAR, mAIwAR, mAJwAR, mARwAR, okkwI, okkwJ, okkwR, okkwAI, okkwAJ, okkwAR]) (by rw [e6]; simp [mNwI, mSwI, mKwI, mIwI, mJwI, mRwI, mLwI, mAIwI, mAJwI, mARwI, mNwJ, mSwJ, mKwJ, mIwJ, mJwJ, mRwJ, mLwJ, mAIwJ, mAJwJ, mARwJ, mNwR, mSwR, mKwR, mIwR, mJwR, mRwR, mLwR, mAIwR, mAJwR, mARwR, mNwAI, mSwAI, mKwAI, mIwAI, mJwAI, mRwAI, mLwAI, mAIwAI, mAJwAI, mARwAI, mNwAJ, mSwAJ, mKwAJ, mIwAJ, mJwAJ, mRwAJ, mLwAJ, mAIwAJ, mAJwAJ, mARwAJ, mNwAR, mSwAR, mKwAR, mIwAR, mJwAR, mRwAR, mLwAR, mAIwAR, mAJwAR, mARwAR, okkwI, okkwJ, okkwR, okkwAI, okkwAJ, okkwAR]) (by rw [e6]; simp [mNwI, mSwI, mKwI, mIwI, mJwI, mRwI, mLwI, mAIwI, mAJwI, mARwI, mNwJ, mSwJ, mKwJ, mIwJ, mJwJ, mRwJ, mLwJ, mAIwJ, mAJwJ, mARwJ, mNwR, mSwR, mKwR, mIwR, mJwR, mRwR, mLwR, mAIwR, mAJwR, mARwR, mNwAI, mSwAI, mKwAI, mIwAI, mJwAI, mRwAI, mLwAI, mAIwAI, mAJwAI, mARwAI, mNwAJ, mSwAJ, mKwAJ, mIwAJ, mJwAJ, mRwAJ, mLwAJ, mAIwAJ, mAJwAJ, mARwAJ, mNwAR, mSwAR, mKwAR, mIwAR, mJwAR, mRwAR, mLwAR, mAIwAR, mAJwAR, mARwAR, okkwI, okkwJ, okkwR, okkwAI, okkwAJ, okkwAR]) (by rw [e6]; simp [mNwI, mSwI, mKwI, mIwI, mJwI, mRwI, mLwI, mAIwI, mAJwI, mARwI, mNwJ, mSwJ, mKwJ, mIwJ, mJwJ, mRwJ, mLwJ, mAIwJ, mAJwJ, mARwJ, mNwR, mSwR, mKwR, mIwR, mJwR, mRwR, mLwR, mAIwR, mAJwR, mARwR, mNwAI, mSwAI, mKwAI, mIwAI, mJwAI, mRwAI, mLwAI, mAIwAI, mAJwAI, mARwAI, mNwAJ, mSwAJ, mKwAJ, mIwAJ, mJwAJ, mRwAJ, mLwAJ, mAIwAJ, mAJwAJ, mARwAJ, mNwAR, mSwAR, mKwAR, mIwAR, mJwAR, mRwAR, mLwAR, mAIwAR, mAJwAR, mARwAR, okkwI, okkwJ, okkwR, okkwAI, okkwAJ, okkwAR]) o h10.2.2.1 (by rw [e6]; simp [g, R2.2.2.2.2.1, mNwI, mSwI, mKwI, mIwI, mJwI, mRwI, mLwI, mAIwI, mAJwI, mARwI, mNwJ, mSwJ, mKwJ, mIwJ, mJwJ, mRwJ, mLwJ, mAIwJ, mAJwJ, mARwJ, mNwR, mSwR, mKwR, mIwR, mJwR, mRwR, mLwR, mAIwR, mAJwR, mARwR, mNwAI, mSwAI, mKwAI, mIwAI, mJwAI, mRwAI, mLwAI, mAIwAI, mAJwAI, mARwAI, mNwAJ, mSwAJ, mKwAJ, mIwAJ, mJwAJ, mRwAJ, mLwAJ, mAIwAJ, mAJwAJ, mARwAJ, mNwAR, mSwAR, mKwAR, mIwAR, mJwAR, mRwAR, mLwAR, mAIwAR, mAJwAR, mARwAR, okkwI, okkwJ, okkwR, okkwAI, okkwAJ, okkwAR]) (by rw [e6]; simp [g, R2.2.2.2.2.2.1, mNwI, mSwI, mKwI, mIwI, mJwI, mRwI, mLwI, mAIwI, mAJwI, mARwI, mNwJ, mSwJ, mKwJ, mIwJ, mJwJ, mRwJ, mLwJ, mAIwJ, mAJwJ, mARwJ, mNwR, mSwR, mKwR, mIwR, mJwR, mRwR, mLwR, mAIwR, mAJwR, mARwR, mNwAI, mSwAI, mKwAI, mIwAI, mJwAI, mRwAI, mLwAI, mAIwAI, mAJwAI, mARwAI, mNwAJ, mSwAJ, mKwAJ, mIwAJ, mJwAJ, mRwAJ, mLwAJ, mAIwAJ, mAJwAJ, mARwAJ, mNwAR, mSwAR, mKwAR, mIwAR, mJwAR, mRwAR, mLwAR, mAIwAR, mAJwAR, mARwAR, okkwI, okkwJ, okkwR, okkwAI, okkwAJ, okkwAR]) (by rw [e6]; rfl) F6
    subst hS hN
    exact ih Y.length (Y ++ [(e.1, e.2, r)]) M6 i (fun y hy => hπ y (List.mem_cons_of_mem _ hy)) h100 SC6 (fun M7 R7 F7 => H M7 R7 ((((F1.tr F2).tr F5).tr F6).tr F7))
theorem G_notsT {σ0 ν0 : List Nat} (hz : ∀ i, n ≤ i → b i = 0) (ht : top? σ0 (fun x => x ≠ 2)) (h100 : ∀ x ∈ σ0, x < 100) : ∀ (k : Nat) (M : Mem) (i o r : Nat) (Y : List Cd), SC b n s m sN ro mx vN w M i (o + k) pr (List.replicate k 2 ++ σ0) (r :: ν0) Y → (∀ M', SC b n s m sN ro mx vN w M' i o pr σ0 ((nc k r Y).1 :: ν0) (nc k r Y).2 → RFc m M M' → Q none M') → T (h + 2) mdX11_closeNots 0 [(0, .ref 29)] [] M Q := by
  intro k
  induction k with
  | zero =>
    intro M i o r Y hR H
    have hR : SC b n s m sN ro mx vN w M i o pr σ0 (r :: ν0) Y := by simpa using hR
    have HQ := H M hR RFc.rf
    have F := hR.1.1
    have hi := hR.2.1
    have h7 := hR.2.2.2.2.2.2.1
    have h10 := hR.2.2.2.2.2.2.2.2.2
    refine VX11_closeNots_0 ?_
    unfold DX11_closeNots_0 DX11_closeNots_59
    rw [h7.1]
    cases σ0 with
    | nil => exact ⟨ok29 F, fun _ => HQ, fun hc => absurd (by decide) hc⟩
    | cons x σ =>
      have hl : σ.length + 1 ≤ i := h10.1.2
      have tp := h7.top
      rw [Nat.zero_add] at tp
      have hx := h100 x List.mem_cons_self
      rw [show Int32.ofNat (x :: σ).length - 1 = Int32.ofNat σ.length from sub32 (c := 1) (a := σ.length + 1) (by omega) (by omega), lt32 (by omega)]
      refine ⟨ok29 F, fun _ => HQ, fun _ => ⟨52, rf29_28 F, ok52 F, by rw [ln52 F]; exact vp_of (by omega) (by decide), fun _ => HQ, fun q => ?_⟩⟩
      rw [tp] at q
      exact absurd (inj32 (b := 2) (by omega) (by decide) q) ht
  | succ k ih =>
    intro M i o r Y hR H
    have hR : SC b n s m sN ro mx vN w M i (o + k + 1) pr (2 :: (List.replicate k 2 ++ σ0)) (r :: ν0) Y := hR
    have F := hR.1.1
    have hi := hR.2.1
    have h7 := hR.2.2.2.2.2.2.1
    have h10 := hR.2.2.2.2.2.2.2.2.2
    have ihk := ih
    clear ih
    generalize hS : List.replicate k 2 ++ σ0 = S at hR h7 h10
    have hl : S.length + 1 ≤ i := h10.1.2
    have e29 : mI M 29 29 = Int32.ofNat (S.length + 1) := h7.1
    have e1 : Int32.ofNat (S.length + 1) - 1 = Int32.ofNat S.length := sub32 (c := 1) (by omega) (by omega)
    have tp := h7.top
    rw [Nat.zero_add] at tp
    have hN2 : ν0.length + 1 ≤ i := h10.2.1
    have ho := h10.2.2.1
    refine VX11_closeNots_0 ?_
    unfold DX11_closeNots_0
    rw [e29, e1, lt32 (by omega)]
    refine ⟨ok29 F, fun hc => ?_, fun _ => ⟨52, rf29_28 F, ok52 F, by rw [ln52 F]; exact vp_of (by omega) (by decide), fun hc => ?_, fun _ => ?_⟩⟩
    · exact absurd ((le32 (b := 0) (by omega) (by decide)).mp hc) (by omega)
    · rw [tp] at hc; exact absurd rfl hc
    · refine G_popped hR (fun M2 R2 F2 _ => ⟨_, rfl, ?_⟩)
      refine G_node (d := (2, r, 0)) hz R2 (by decide) hN2 rfl rfl (by show (2 : Nat) ≠ 1; decide) (fun M5 g fin F5 M6 e6 M7 e7 => ?_)
      rw [(g 29 (by decide)).trans R2.2.2.2.2.2.2.1.1, show Int32.ofNat (2 :: S).length - 1 = Int32.ofNat S.length from e1] at e6
      have i6 : mI M6 29 33 = Int32.ofNat (o + k + 1) := by rw [e6]; simp [g, R2.2.2.2.2.1, mNwI, mSwI, mKwI, mIwI, mJwI, mRwI, mLwI, mAIwI, mAJwI, mARwI, mNwJ, mSwJ, mKwJ, mIwJ, mJwJ, mRwJ, mLwJ, mAIwJ, mAJwJ, mARwJ, mNwR, mSwR, mKwR, mIwR, mJwR, mRwR, mLwR, mAIwR, mAJwR, mARwR, mNwAI, mSwAI, mKwAI, mIwAI, mJwAI, mRwAI, mLwAI, mAIwAI, mAJwAI, mARwAI, mNwAJ, mSwAJ, mKwAJ, mIwAJ, mJwAJ, mRwAJ, mLwAJ, mAIwAJ, mAJwAJ, mARwAJ, mNwAR, mSwAR, mKwAR, mIwAR, mJwAR, mRwAR, mLwAR, mAIwAR, mAJwAR, mARwAR, okkwI, okkwJ, okkwR, okkwAI, okkwAJ, okkwAR]
      rw [i6, dec32 (by omega), e6] at e7
      have F7 : RFc m M5 M7 := by rw [e7]; exact (RFc.i (by decide)).tr (RFc.i (by decide))
      have SC7 := fin M7 (by rw [e7]; simp [mNwI, mSwI, mKwI, mIwI, mJwI, mRwI, mLwI, mAIwI, mAJwI, mARwI, mNwJ, mSwJ, mKwJ, mIwJ, mJwJ, mRwJ, mLwJ, mAIwJ, mAJwJ, mARwJ, mNwR, mSwR, mKwR, mIwR, mJwR, mRwR, mLwR, mAIwR, mAJwR, mARwR, mNwAI, mSwAI, mKwAI, mIwAI, mJwAI, mRwAI, mLwAI, mAIwAI, mAJwAI, mARwAI, mNwAJ, mSwAJ, mKwAJ, mIwAJ, mJwAJ, mRwAJ, mLwAJ, mAIwAJ, mAJwAJ, mARwAJ, mNwAR, mSwAR, mKwAR, mIwAR, mJwAR, mRwAR, mLwAR, mAIwAR, mAJwAR, mARwAR, okkwI, okkwJ, okkwR, okkwAI, okkwAJ, okkwAR]) (by rw [e7]; simp [mNwI, mSwI, mKwI, mIwI, mJwI, mRwI, mLwI, mAIwI, mAJwI, mARwI, mNwJ, mSwJ, mKwJ, mIwJ, mJwJ, mRwJ, mLwJ, mAIwJ, mAJwJ, mARwJ, mNwR, mSwR, mKwR, mIwR, mJwR, mRwR, mLwR, mAIwR, mAJwR, mARwR, mNwAI, mSwAI, mKwAI, mIwAI, mJwAI, mRwAI, mLwAI, mAIwAI, mAJwAI, mARwAI, mNwAJ, mSwAJ, mKwAJ, mIwAJ, mJwAJ, mRwAJ, mLwAJ, mAIwAJ, mAJwAJ, mARwAJ, mNwAR, mSwAR, mKwAR, mIwAR, mJwAR, mRwAR, mLwAR, mAIwAR, mAJwAR, mARwAR, okkwI, okkwJ, okkwR, okkwAI, okkwAJ, okkwAR]) (by rw [e7]; simp [mNwI, mSwI, mKwI, mIwI, mJwI, mRwI, mLwI, mAIwI, mAJwI, mARwI, mNwJ, mSwJ, mKwJ, mIwJ, mJwJ, mRwJ, mLwJ, mAIwJ, mAJwJ, mARwJ, mNwR, mSwR, mKwR, mIwR, mJwR, mRwR, mLwR, mAIwR, mAJwR, mARwR, mNwAI, mSwAI, mKwAI, mIwAI, mJwAI, mRwAI, mLwAI, mAIwAI, mAJwAI, mARwAI, mNwAJ, mSwAJ, mKwAJ, mIwAJ, mJwAJ, mRwAJ, mLwAJ, mAIwAJ, mAJwAJ, mARwAJ, mNwAR, mSwAR, mKwAR, mIwAR, mJwAR, mRwAR, mLwAR, mAIwAR, mAJwAR, mARwAR, okkwI, okkwJ, okkwR, okkwAI, okkwAJ, okkwAR]) (by rw [e7]; simp [mNwI, mSwI, mKwI, mIwI, mJwI, mRwI, mLwI, mAIwI, mAJwI, mARwI, mNwJ, mSwJ, mKwJ, mIwJ, mJwJ, mRwJ, mLwJ, mAIwJ, mAJwJ, mARwJ, mNwR, mSwR, mKwR, mIwR, mJwR, mRwR, mLwR, mAIwR, mAJwR, mARwR, mNwAI, mSwAI, mKwAI, mIwAI, mJwAI, mRwAI, mLwAI, mAIwAI, mAJwAI, mARwAI, mNwAJ, mSwAJ, mKwAJ, mIwAJ, mJwAJ, mRwAJ, mLwAJ, mAIwAJ, mAJwAJ, mARwAJ, mNwAR, mSwAR, mKwAR, mIwAR, mJwAR, mRwAR, mLwAR, mAIwAR, mAJwAR, mARwAR, okkwI, okkwJ, okkwR, okkwAI, okkwAJ, okkwAR]) (by rw [e7]; simp [mNwI, mSwI, mKwI, mIwI, mJwI, mRwI, mLwI, mAIwI, mAJwI, mARwI, mNwJ, mSwJ, mKwJ, mIwJ, mJwJ, mRwJ, mLwJ, mAIwJ, mAJwJ, mARwJ, mNwR, mSwR, mKwR, mIwR, mJwR, mRwR, mLwR, mAIwR, mAJwR, mARwR, mNwAI, mSwAI, mKwAI, mIwAI, mJwAI, mRwAI, mLwAI, mAIwAI, mAJwAI, mARwAI, mNwAJ, mSwAJ, mKwAJ, mIwAJ, mJwAJ, mRwAJ, mLwAJ, mAIwAJ, mAJwAJ, mARwAJ, mNwAR, mSwAR, mKwAR, mIwAR, mJwAR, mRwAR, mLwAR, mAIwAR, mAJwAR, mARwAR, okkwI, okkwJ, okkwR, okkwAI, okkwAJ, okkwAR]) (o + k) (by omega) (by rw [e7]; simp [mNwI, mSwI, mKwI, mIwI, mJwI, mRwI, mLwI, mAIwI, mAJwI, mARwI, mNwJ, mSwJ, mKwJ, mIwJ, mJwJ, mRwJ, mLwJ, mAIwJ, mAJwJ, mARwJ, mNwR, mSwR, mKwR, mIwR, mJwR, mRwR, mLwR, mAIwR, mAJwR, mARwR, mNwAI, mSwAI, mKwAI, mIwAI, mJwAI, mRwAI, mLwAI, mAIwAI, mAJwAI, mARwAI, mNwAJ, mSwAJ, mKwAJ, mIwAJ, mJwAJ, mRwAJ, mLwAJ, mAIwAJ, mAJwAJ, mARwAJ, mNwAR, mSwAR, mKwAR, mIwAR, mJwAR, mRwAR, mLwAR, mAIwAR, mAJwAR, mARwAR, okkwI, okkwJ, okkwR, okkwAI, okkwAJ, okkwAR]) (by rw [e7]; simp [g, R2.2.2.2.2.2.1, mNwI, mSwI, mKwI, mIwI, mJwI, mRwI, mLwI, mAIwI, mAJwI, mARwI, mNwJ, mSwJ, mKwJ, mIwJ, mJwJ, mRwJ, mLwJ, mAIwJ, mAJwJ, mARwJ, mNwR, mSwR, mKwR, mIwR, mJwR, mRwR, mLwR, mAIwR, mAJwR, mARwR, mNwAI, mSwAI, mKwAI, mIwAI, mJwAI, mRwAI, mLwAI, mAIwAI, mAJwAI, mARwAI, mNwAJ, mSwAJ, mKwAJ, mIwAJ, mJwAJ, mRwAJ, mLwAJ, mAIwAJ, mAJwAJ, mARwAJ, mNwAR, mSwAR, mKwAR, mIwAR, mJwAR, mRwAR, mLwAR, mAIwAR, mAJwAR, mARwAR, okkwI, okkwJ, okkwR, okkwAI, okkwAJ, okkwAR]) (by rw [e7]; rfl) F7
      exact ihk M7 i o Y.length (Y ++ [(2, r, 0)]) (by rw [hS]; exact SC7) (fun M' R' F' => H M' R' (((F2.tr F5).tr F7).tr F'))
end
