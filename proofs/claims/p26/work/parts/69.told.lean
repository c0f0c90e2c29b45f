section
/-! the reference: what a reading of module m may change (fields fs, rows of ints cs, of longs js), and never of the modules before -/
def szA (a : Nat) : Nat := if a ∈ [34, 35, 36, 44, 48, 54, 55, 56, 57, 79, 91, 92, 94, 122] then 1 else if a ∈ [37, 38, 39, 40] then 16 else if a = 41 then 4 else if a ∈ [42, 43] then 6 else if a ∈ [45, 46, 47] then 410 else if a ∈ [49, 50, 51] then 810 else if 58 ≤ a ∧ a ≤ 72 ∨ a = 90 then 40 else if 80 ≤ a ∧ a ≤ 89 then 700 else if a = 93 then 1400 else 0
def RG (m : Nat) (fs cs js : List Nat) (M M' : Mem) : Prop := mN M' = mN M ∧ mS M' = mS M ∧ mK M' = mK M ∧ mL M' = mL M ∧ mR M' = mR M ∧ mAR M' = mAR M ∧ mJ M' = mJ M ∧ (∀ a, a ≠ 29 → mI M' a = mI M a) ∧ (∀ f, f ∉ fs → mI M' 29 f = mI M 29 f) ∧ (∀ a, a ∉ cs → mAI M' a = mAI M a) ∧ (∀ a, a ∉ js → mAJ M' a = mAJ M a) ∧ (∀ a k, k < szA a * m → mAI M' a k = mAI M a k ∧ mAJ M' a k = mAJ M a k)
section
variable {m : Nat} {fs cs js : List Nat} {M M' M1 M2 : Mem}
theorem RG.rf : RG m fs cs js M M := ⟨rfl, rfl, rfl, rfl, rfl, rfl, rfl, fun _ _ => rfl, fun _ _ => rfl, fun _ _ => rfl, fun _ _ => rfl, fun _ _ _ => ⟨rfl, rfl⟩⟩
theorem RG.tr (h : RG m fs cs js M M1) (k : RG m fs cs js M1 M2) : RG m fs cs js M M2 := by
  obtain ⟨a1, a2, a3, a4, a5, a6, a7, a8, a9, aA, aB, aC⟩ := h
  obtain ⟨b1, b2, b3, b4, b5, b6, b7, b8, b9, bA, bB, bC⟩ := k
  exact ⟨b1.trans a1, b2.trans a2, b3.trans a3, b4.trans a4, b5.trans a5, b6.trans a6, b7.trans a7, fun a q => (b8 a q).trans (a8 a q), fun f q => (b9 f q).trans (a9 f q), fun a q => (bA a q).trans (aA a q), fun a q => (bB a q).trans (aB a q), fun a k q => ⟨(bC a k q).1.trans (aC a k q).1, (bC a k q).2.trans (aC a k q).2⟩⟩
theorem RG.more {fs' cs' js' : List Nat} (h : RG m fs cs js M M1) (h1 : ∀ f ∈ fs, f ∈ fs') (h2 : ∀ f ∈ cs, f ∈ cs') (h3 : ∀ f ∈ js, f ∈ js') : RG m fs' cs' js' M M1 := by
  obtain ⟨a1, a2, a3, a4, a5, a6, a7, a8, a9, aA, aB, aC⟩ := h
  exact ⟨a1, a2, a3, a4, a5, a6, a7, a8, fun f q => a9 f (fun z => q (h1 f z)), fun f q => aA f (fun z => q (h2 f z)), fun f q => aB f (fun z => q (h3 f z)), aC⟩
theorem RG.i {f : Nat} {v : Int32} (hf : f ∈ fs) : RG m fs cs js M (wI M 29 f v) := ⟨rfl, rfl, rfl, rfl, rfl, rfl, rfl, fun a q => up2_row q, fun g q => by rw [mI_wI, if_neg (fun z : 29 = 29 ∧ g = f => q (by rw [z.2]; exact hf))], fun _ _ => rfl, fun _ _ => rfl, fun _ _ _ => ⟨rfl, rfl⟩⟩
theorem RG.ai {c k : Nat} {v : Int32} (hc : c ∈ cs) (hk : szA c * m ≤ k) : RG m fs cs js M (wAI M c k v) := ⟨rfl, rfl, rfl, rfl, rfl, rfl, rfl, fun _ _ => rfl, fun _ _ => rfl, fun a q => up2_row (by rintro rfl; exact q hc), fun _ _ => rfl, fun a j q => ⟨by rw [mAI_wAI, if_neg (by rintro ⟨rfl, z⟩; omega)], rfl⟩⟩
theorem RG.aj {c k : Nat} {v : Int64} (hc : c ∈ js) (hk : szA c * m ≤ k) : RG m fs cs js M (wAJ M c k v) := ⟨rfl, rfl, rfl, rfl, rfl, rfl, rfl, fun _ _ => rfl, fun _ _ => rfl, fun _ _ => rfl, fun a q => up2_row (by rintro rfl; exact q hc), fun a j q => ⟨rfl, by rw [mAJ_wAJ, if_neg (by rintro ⟨rfl, z⟩; omega)]⟩⟩
theorem RG.e (h : RG m fs cs js M M') : mE M M' := ⟨Nat.le_of_eq h.1.symm, Nat.le_of_eq h.2.1.symm, fun a _ => ⟨by rw [h.2.2.1], by rw [h.2.2.2.1]⟩⟩
theorem RG.fix (h : RG m fs cs js M M') (F : Fix M) (hj : 19 ∉ js) : Fix M' := F.of_fr (S := fun _ => True) h.e (fun e _ => by rw [h.2.2.2.2.1]) (h.2.2.2.2.2.2.2.2.2.2.1 19 hj)
theorem RG.fI (h : RG m fs cs js M M') {f : Nat} (hf : f ∉ fs) : mI M' 29 f = mI M 29 f := h.2.2.2.2.2.2.2.2.1 f hf
theorem RG.fA (h : RG m fs cs js M M') {c : Nat} (hf : c ∉ cs) : mAI M' c = mAI M c := h.2.2.2.2.2.2.2.2.2.1 c hf
theorem RG.fJ (h : RG m fs cs js M M') {c : Nat} (hf : c ∉ js) : mAJ M' c = mAJ M c := h.2.2.2.2.2.2.2.2.2.2.1 c hf
theorem sz_no {a : Nat} (h1 : a ∉ [48, 49, 51]) (h2 : a ∈ [48, 49, 51, 52, 53]) : szA a = 0 := by
  simp only [List.mem_cons, List.not_mem_nil, or_false, not_or] at h1 h2
  have : a = 52 ∨ a = 53 := by omega
  rcases this with rfl | rfl <;> rfl
theorem RFm.g (h : RFm m M M') : RG m [5, 6, 7, 29, 31, 32, 33] [48, 49, 51, 52, 53] [50] M M' := by
  obtain ⟨a1, a2, a3, a4, a5, a6, a7, a8, a9, aA, aB, aC, aD⟩ := h
  refine ⟨a1, a2, a3, a4, a5, a6, a7, a8, a9, aA, fun a q => aB a (fun z => q (by rw [z]; decide)), fun a k q => ⟨?_, ?_⟩⟩
  · by_cases h1 : a ∈ [48, 49, 51, 52, 53]
    · by_cases h2 : a = 48
      · subst h2; exact aC k (by have : szA 48 = 1 := by decide
                                 rw [this] at q; omega)
      · by_cases h3 : a = 49
        · subst h3; exact (aD k (by have : szA 49 = 810 := by decide
                                    rw [this] at q; omega)).1
        · by_cases h4 : a = 51
          · subst h4; exact (aD k (by have : szA 51 = 810 := by decide
                                      rw [this] at q; omega)).2.2
          · rw [sz_no (by simp only [List.mem_cons, List.not_mem_nil, or_false, not_or]; exact ⟨h2, h3, h4⟩) h1] at q; omega
    · rw [aA a h1]
  · by_cases h1 : a = 50
    · subst h1; exact (aD k (by have : szA 50 = 810 := by decide
                                rw [this] at q; omega)).2.1
    · rw [aB a h1]
theorem sz_no2 {a : Nat} (h1 : a ∉ [40, 44, 45, 46, 47]) (h2 : a ∈ [40, 44, 45, 46, 47, 52, 53]) : szA a = 0 := by
  simp only [List.mem_cons, List.not_mem_nil, or_false, not_or] at h1 h2
  have : a = 52 ∨ a = 53 := by omega
  rcases this with rfl | rfl <;> rfl
theorem RFc.g (h : RFc m M M') : RG m [5, 6, 7, 29, 31, 32, 33] [40, 44, 45, 46, 47, 52, 53] [] M M' := by
  obtain ⟨a1, a2, a3, a4, a5, a6, a7, a8, a9, aA, aB, aC, aD, aE⟩ := h
  refine ⟨a1, a2, a3, a4, a5, a6, a7, a8, a9, aA, fun a q => by rw [aB], fun a k q => ⟨?_, by rw [aB]⟩⟩
  by_cases h1 : a ∈ [40, 44, 45, 46, 47, 52, 53]
  · by_cases h2 : a ∈ [40, 44, 45, 46, 47]
    · simp only [List.mem_cons, List.not_mem_nil, or_false] at h2
      rcases h2 with rfl | rfl | rfl | rfl | rfl
      · exact aE k (by have : szA 40 = 16 := by decide
                       rw [this] at q; omega)
      · exact aC k (by have : szA 44 = 1 := by decide
                       rw [this] at q; omega)
      · exact (aD k (by have : szA 45 = 410 := by decide
                        rw [this] at q; omega)).1
      · exact (aD k (by have : szA 46 = 410 := by decide
                        rw [this] at q; omega)).2.1
      · exact (aD k (by have : szA 47 = 410 := by decide
                        rw [this] at q; omega)).2.2
    · rw [sz_no2 h2 h1] at q; omega
  · rw [aA a h1]
end
/-! what a text tells, in the middle: names, roles, how numbers come together; variables and their first numbers -/
abbrev Td : Type := List Int64 × List Int32 × List Int32 × List Int64 × List Int64
def inL (ro : List Int32) : List Nat := (List.range ro.length).filter (fun k => decide (ro.getD k 0 = 30))
theorem getD_a32 {l : List Int32} {x : Int32} {k : Nat} (h : k < l.length) : (l ++ [x]).getD k 0 = l.getD k 0 := by
  rw [List.getD_eq_getElem?_getD, List.getD_eq_getElem?_getD, List.getElem?_append_left h]
theorem inL_app {ro : List Int32} {x : Int32} : inL (ro ++ [x]) = inL ro ++ (if x = 30 then [ro.length] else []) := by
  unfold inL
  rw [List.length_append]
  show (List.range (ro.length + 1)).filter _ = _
  rw [List.range_succ, List.filter_append]
  congr 1
  · refine List.filter_congr (fun k hk => ?_)
    rw [getD_a32 (List.mem_range.mp hk)]
  · have e : (ro ++ [x]).getD ro.length 0 = x := by rw [List.getD_eq_getElem?_getD, List.getElem?_append_right (Nat.le_refl _), Nat.sub_self]; rfl
    by_cases h : x = 30
    · rw [if_pos h, List.filter_cons_of_pos (by rw [e]; exact decide_eq_true h)]; rfl
    · rw [if_neg h, List.filter_cons_of_neg (by rw [e]; simp [h])]; rfl
theorem inL_lt {ro : List Int32} : ∀ x ∈ inL ro, x < ro.length := fun x hx => List.mem_range.mp (List.mem_filter.mp hx).1
def ex (b : Nat → Int32) (n i : Nat) (c : Int32) : Except (Int32 × Nat) Nat := if tK b n i = c then adv' b n i else .error (2, tP b n i)
def fuT (r : Int32) (τ : Td) : Bool := if r = 36 then decide (6 ≤ τ.2.2.2.1.length) else (decide (16 ≤ τ.1.length) || (decide (r = 30) && decide (4 ≤ (inL τ.2.1).length)))
def toT (c : Int64) (τ : Td) : Bool := (fd τ.1 c).isSome || (fd τ.2.2.2.1 c).isSome
def tdX (b : Nat → Int32) (n j : Nat) (r : Int32) (τ : Td) : Except (Int32 × Nat) Nat := if tK b n j = 2 then (if toT (tC b n j) τ = true then .error (3, tP b n j) else if fuT r τ = true then .error (6, tP b n j) else adv' b n j) else .error (2, tP b n j)
def tdH (b : Nat → Int32) (n j : Nat) : Except (Int32 × Nat) (Nat × Int32) := if tK b n j = 4 then (adv' b n j).bind fun k => if tK b n k = 33 ∨ tK b n k = 34 ∨ tK b n k = 35 then (adv' b n k).bind fun l => .ok (l, tK b n k) else .error (2, tP b n k) else .ok (j, 0)
def tdV (b : Nat → Int32) (n j : Nat) : Except (Int32 × Nat) (Nat × Int64) := (ex b n j 5).bind fun k => if tK b n k = 21 then (adv' b n k).bind fun l => if tK b n l = 3 then (adv' b n l).bind fun p => .ok (p, -(tC b n l)) else .error (2, tP b n l) else if tK b n k = 3 then (adv' b n k).bind fun p => .ok (p, tC b n k) else .error (2, tP b n k)
def td (b : Nat → Int32) (n : Nat) : Nat → Nat → Td → Except (Int32 × Nat) (Nat × Td)
  | 0, _, _ => .error (0, 0)
  | g + 1, i, τ =>
    if tK b n i = 36 then (adv' b n i).bind fun j => (tdX b n j 36 τ).bind fun k => (tdV b n k).bind fun r => (ex b n r.1 13).bind fun l => td b n g l (τ.1, τ.2.1, τ.2.2.1, τ.2.2.2.1 ++ [tC b n j], τ.2.2.2.2 ++ [r.2])
    else if tK b n i = 30 ∨ tK b n i = 31 ∨ tK b n i = 32 then (adv' b n i).bind fun j => (tdX b n j (tK b n i) τ).bind fun k => (tdH b n k).bind fun r => (ex b n r.1 13).bind fun l => td b n g l (τ.1 ++ [tC b n j], τ.2.1 ++ [tK b n i], τ.2.2.1 ++ [r.2], τ.2.2.2.1, τ.2.2.2.2)
    else .ok (i, τ)
/-- what a reading keeps to -/
def StOk {α : Type} (b : Nat → Int32) (n s i : Nat) (P : Nat → α → Prop) (R : Except (Int32 × Nat) (Nat × α)) : Prop := match R with
  | .error e => e.1 ≠ 0
  | .ok r => i ≤ r.1 ∧ r.1 ≤ s ∧ tK b n r.1 ≠ 0 ∧ P r.1 r.2
theorem adv_ok1 {b : Nat → Int32} {n s i : Nat} (hi : i < s) : match adv' b n i with
  | .error e => e.1 ≠ 0
  | .ok j => j = i + 1 ∧ j ≤ s ∧ tK b n j ≠ 0 := by
  rcases adv_cases (b := b) (n := n) (i := i) with ⟨k1, e⟩ | ⟨k1, e⟩ <;> rw [e]
  · show (1 : Int32) ≠ 0; decide
  · exact ⟨rfl, hi, k1⟩
end
section
/-! the reference reads what the text tells -/
def RT (b : Nat → Int32) (n s m : Nat) (τ : Td) (M : Mem) (i : Nat) : Prop := CoR b n s m τ.1 τ.2.1 τ.2.2.1 τ.2.2.2.1 M ∧ (n ≤ 800 ∧ s ≤ n ∧ i ≤ s) ∧ mI M 29 5 = Int32.ofNat i ∧ mI M 29 6 = 0 ∧ (mAI M 35 m = Int32.ofNat (inL τ.2.1).length ∧ (inL τ.2.1).length ≤ 4 ∧ ∀ j, j < (inL τ.2.1).length → mAI M 41 (4 * m + j) = Int32.ofNat ((inL τ.2.1).getD j 0)) ∧ (τ.2.2.2.2.length = τ.2.2.2.1.length ∧ ∀ k, k < τ.2.2.2.1.length → mAJ M 43 (6 * m + k) = τ.2.2.2.2.getD k 0) ∧ (∀ k, k < τ.1.length → mAI M 40 (16 * m + k) = 0)
abbrev RGt (m : Nat) (M M' : Mem) : Prop := RG m [5, 6, 7] [34, 35, 36, 38, 39, 40, 41] [37, 42, 43] M M'
section
variable {b : Nat → Int32} {n s m : Nat} {τ : Td} {M M' : Mem} {i h : Nat} {Q : Option Value → Mem → Prop}
theorem RT.tk (hR : RT b n s m τ M i) (hB : By b) : Tk b n M i := ⟨hR.1.1, hB, hR.1.2.1 i hR.2.1.2.2, hR.2.2.1, by have := hR.2.1; omega⟩
theorem RT.at (hR : RT b n s m τ M i) {j : Nat} (hj : j ≤ s) : RT b n s m τ (wI M 29 5 (Int32.ofNat j)) j := by
  obtain ⟨⟨F, h1, e1, e2, e3, e4, e5, e6, e7, e8, e9⟩, h2, h3, h4, h5, h6, h7⟩ := hR
  exact ⟨⟨F.i, h1, by simp [e1, mNwI, mSwI, mKwI, mIwI, mJwI, mRwI, mLwI, mAIwI, mAJwI, mARwI, mNwJ, mSwJ, mKwJ, mIwJ, mJwJ, mRwJ, mLwJ, mAIwJ, mAJwJ, mARwJ, mNwR, mSwR, mKwR, mIwR, mJwR, mRwR, mLwR, mAIwR, mAJwR, mARwR, mNwAI, mSwAI, mKwAI, mIwAI, mJwAI, mRwAI, mLwAI, mAIwAI, mAJwAI, mARwAI, mNwAJ, mSwAJ, mKwAJ, mIwAJ, mJwAJ, mRwAJ, mLwAJ, mAIwAJ, mAJwAJ, mARwAJ, mNwAR, mSwAR, mKwAR, mIwAR, mJwAR, mRwAR, mLwAR, mAIwAR, mAJwAR, mARwAR, okkwI, okkwJ, okkwR, okkwAI, okkwAJ, okkwAR], e2, e3, e4, e5, e6, e7, e8, e9⟩, ⟨h2.1, h2.2.1, hj⟩, by simp [mNwI, mSwI, mKwI, mIwI, mJwI, mRwI, mLwI, mAIwI, mAJwI, mARwI, mNwJ, mSwJ, mKwJ, mIwJ, mJwJ, mRwJ, mLwJ, mAIwJ, mAJwJ, mARwJ, mNwR, mSwR, mKwR, mIwR, mJwR, mRwR, mLwR, mAIwR, mAJwR, mARwR, mNwAI, mSwAI, mKwAI, mIwAI, mJwAI, mRwAI, mLwAI, mAIwAI, mAJwAI, mARwAI, mNwAJ, mSwAJ, mKwAJ, mIwAJ, mJwAJ, mRwAJ, mLwAJ, mAIwAJ, mAJwAJ, mARwAJ, mNwAR, mSwAR, mKwAR, mIwAR, mJwAR, mRwAR, mLwAR, mAIwAR, mAJwAR, mARwAR, okkwI, okkwJ, okkwR, okkwAI, okkwAJ, okkwAR], by simp [h4, mNwI, mSwI, mKwI, mIwI, mJwI, mRwI, mLwI, mAIwI, mAJwI, mARwI, mNwJ, mSwJ, mKwJ, mIwJ, mJwJ, mRwJ, mLwJ, mAIwJ, mAJwJ, mARwJ, mNwR, mSwR, mKwR, mIwR, mJwR, mRwR, mLwR, mAIwR, mAJwR, mARwR, mNwAI, mSwAI, mKwAI, mIwAI, mJwAI, mRwAI, mLwAI, mAIwAI, mAJwAI, mARwAI, mNwAJ, mSwAJ, mKwAJ, mIwAJ, mJwAJ, mRwAJ, mLwAJ, mAIwAJ, mAJwAJ, mARwAJ, mNwAR, mSwAR, mKwAR, mIwAR, mJwAR, mRwAR, mLwAR, mAIwAR, mAJwAR, mARwAR, okkwI, okkwJ, okkwR, okkwAI, okkwAJ, okkwAR], h5, h6, h7⟩
theorem TXf5 {m : Nat} {M : Mem} {i p : Nat} {c : Int32} (F : Fix M) (hc : 0 < c) : TXr (wI (wI (wI M 29 5 (Int32.ofNat i)) 29 6 c) 29 7 (Int32.ofNat p)) c p ∧ RGt m M (wI (wI (wI M 29 5 (Int32.ofNat i)) 29 6 c) 29 7 (Int32.ofNat p)) :=
  ⟨⟨F.i.i.i, by simp [mNwI, mSwI, mKwI, mIwI, mJwI, mRwI, mLwI, mAIwI, mAJwI, mARwI, mNwJ, mSwJ, mKwJ, mIwJ, mJwJ, mRwJ, mLwJ, mAIwJ, mAJwJ, mARwJ, mNwR, mSwR, mKwR, mIwR, mJwR, mRwR, mLwR, mAIwR, mAJwR, mARwR, mNwAI, mSwAI, mKwAI, mIwAI, mJwAI, mRwAI, mLwAI, mAIwAI, mAJwAI, mARwAI, mNwAJ, mSwAJ, mKwAJ, mIwAJ, mJwAJ, mRwAJ, mLwAJ, mAIwAJ, mAJwAJ, mARwAJ, mNwAR, mSwAR, mKwAR, mIwAR, mJwAR, mRwAR, mLwAR, mAIwAR, mAJwAR, mARwAR, okkwI, okkwJ, okkwR, okkwAI, okkwAJ, okkwAR], hc, by simp [mNwI, mSwI, mKwI, mIwI, mJwI, mRwI, mLwI, mAIwI, mAJwI, mARwI, mNwJ, mSwJ, mKwJ, mIwJ, mJwJ, mRwJ, mLwJ, mAIwJ, mAJwJ, mARwJ, mNwR, mSwR, mKwR, mIwR, mJwR, mRwR, mLwR, mAIwR, mAJwR, mARwR, mNwAI, mSwAI, mKwAI, mIwAI, mJwAI, mRwAI, mLwAI, mAIwAI, mAJwAI, mARwAI, mNwAJ, mSwAJ, mKwAJ, mIwAJ, mJwAJ, mRwAJ, mLwAJ, mAIwAJ, mAJwAJ, mARwAJ, mNwAR, mSwAR, mKwAR, mIwAR, mJwAR, mRwAR, mLwAR, mAIwAR, mAJwAR, mARwAR, okkwI, okkwJ, okkwR, okkwAI, okkwAJ, okkwAR]⟩, ((RG.i (by decide)).tr (RG.i (by decide))).tr (RG.i (by decide))⟩
theorem TXf6 {m : Nat} {M : Mem} {p : Nat} {c : Int32} (F : Fix M) (hc : 0 < c) : TXr (wI (wI M 29 6 c) 29 7 (Int32.ofNat p)) c p ∧ RGt m M (wI (wI M 29 6 c) 29 7 (Int32.ofNat p)) :=
  ⟨⟨F.i.i, by simp [mNwI, mSwI, mKwI, mIwI, mJwI, mRwI, mLwI, mAIwI, mAJwI, mARwI, mNwJ, mSwJ, mKwJ, mIwJ, mJwJ, mRwJ, mLwJ, mAIwJ, mAJwJ, mARwJ, mNwR, mSwR, mKwR, mIwR, mJwR, mRwR, mLwR, mAIwR, mAJwR, mARwR, mNwAI, mSwAI, mKwAI, mIwAI, mJwAI, mRwAI, mLwAI, mAIwAI, mAJwAI, mARwAI, mNwAJ, mSwAJ, mKwAJ, mIwAJ, mJwAJ, mRwAJ, mLwAJ, mAIwAJ, mAJwAJ, mARwAJ, mNwAR, mSwAR, mKwAR, mIwAR, mJwAR, mRwAR, mLwAR, mAIwAR, mAJwAR, mARwAR, okkwI, okkwJ, okkwR, okkwAI, okkwAJ, okkwAR], hc, by simp [mNwI, mSwI, mKwI, mIwI, mJwI, mRwI, mLwI, mAIwI, mAJwI, mARwI, mNwJ, mSwJ, mKwJ, mIwJ, mJwJ, mRwJ, mLwJ, mAIwJ, mAJwJ, mARwJ, mNwR, mSwR, mKwR, mIwR, mJwR, mRwR, mLwR, mAIwR, mAJwR, mARwR, mNwAI, mSwAI, mKwAI, mIwAI, mJwAI, mRwAI, mLwAI, mAIwAI, mAJwAI, mARwAI, mNwAJ, mSwAJ, mKwAJ, mIwAJ, mJwAJ, mRwAJ, mLwAJ, mAIwAJ, mAJwAJ, mARwAJ, mNwAR, mSwAR, mKwAR, mIwAR, mJwAR, mRwAR, mLwAR, mAIwAR, mAJwAR, mARwAR, okkwI, okkwJ, okkwR, okkwAI, okkwAJ, okkwAR]⟩, (RG.i (by decide)).tr (RG.i (by decide))⟩
theorem T_take (hR : RT b n s m τ M i) (hB : By b) (hs : i < s) (H1 : tK b n (i + 1) ≠ 0 → ∀ M', RT b n s m τ M' (i + 1) → RGt m M M' → Q none M') (H0 : tK b n (i + 1) = 0 → ∀ M', TXr M' 1 (tP b n (i + 1)) → RGt m M M' → Q none M') : E (h + 2) mdX11_take [.ref 29] M Q :=
  K_take (hR.tk hB) hs hR.1.2.1 (by have := hR.2.1; omega) hR.2.2.2.1 (fun k1 => H1 k1 _ (hR.at hs) (RG.i (by decide))) (fun k1 => H0 k1 _ (TXf5 (m := m) hR.1.1 (by decide)).1 (TXf5 hR.1.1 (by decide)).2)
theorem T_fails {c : Int32} (hR : RT b n s m τ M i) (hB : By b) (hc : 0 < c) (H : ∀ M', TXr M' c (tP b n i) → RGt m M M' → Q none M') : E (h + 1) mdX11_fails [.ref 29, .int c, .int (mAI M 32 i)] M Q :=
  K_fails (hR.tk hB) hR.2.2.2.1 hc (fun M' e T' => H M' T' (by rw [e]; exact (TXf6 hR.1.1 hc).2))
theorem X_want {f : Int32} {p : Nat} {x1 : Int32} {x2 : Int64} (hT : TXr M f p) (H : Q none M) : E (h + 1) mdX11_want [.ref 29, .int x1, .long x2] M Q := by
  refine KX11_want ?_
  unfold DX11_want_0 DX11_want_37
  have n0 : ¬ mI M 29 6 = 0 := by rw [hT.2.1]; intro z; have := hT.2.2.1; rw [z] at this; exact absurd this (by decide)
  exact ⟨ok29 hT.1, fun _ => H, fun z => absurd z n0⟩
def EndX (b : Nat → Int32) (n s m : Nat) (τ : Td) (M : Mem) (Q : Option Value → Mem → Prop) (R : Except (Int32 × Nat) Nat) : Prop := match R with
  | .ok j => ∀ M', RT b n s m τ M' j → RGt m M M' → Q none M'
  | .error e => ∀ M', TXr M' e.1 e.2 → RGt m M M' → Q none M'
theorem T_want {k : Int32} {v : Int64} (hR : RT b n s m τ M i) (hB : By b) (hS : Sto b n s) (h0 : tK b n i ≠ 0) (hk : k ∈ sKs) (hv : v = sv k) (hE : EndX b n s m τ M Q (ex b n i k)) : E (h + 3) mdX11_want [.ref 29, .int 3, .long v] M Q := by
  have F := hR.1.1
  have tk := hR.tk hB
  unfold ex at hE
  refine KX11_want ?_
  unfold DX11_want_0 DX11_want_37
  refine ⟨ok29 F, fun z => absurd hR.2.2.2.1 z, fun _ => K_sign tk hk hv (fun q _ => ⟨_, rfl, fun z => absurd z (by decide), fun _ => ?_⟩) (fun q _ => ⟨_, rfl, fun _ => ?_, fun z => absurd rfl z⟩)⟩
  · rw [if_pos q] at hE
    have hs := hS.lt hR.2.1.2.2 h0 (by rw [q]; exact (sK_ne k hk).2.1)
    refine T_take hR hB hs (fun k1 M' R' F' _ => ⟨rfl, ?_⟩) (fun k1 M' T' F' _ => ⟨rfl, ?_⟩)
    · rw [adv_ok' k1] at hE; exact hE M' R' F'
    · rw [adv_er' k1] at hE; exact hE M' T' F'
  · rw [if_neg q] at hE
    rw [hR.2.2.1, lt32 (by have := hR.2.1; omega)]
    exact ⟨32, rf29_3 F, ok32 F, by rw [ln32 F]; exact vp_of (by have := hR.2.1; omega) (by decide), T_fails hR hB (by decide) (fun M' T' F' _ => ⟨rfl, hE M' T' F'⟩)⟩
theorem sp0 : vp_nar .boolean (0 : Int32) = 0 := by decide
theorem kn32 : ∀ r : Int32, r = 30 ∨ r = 31 ∨ r = 32 → (r - 30 = 0 ↔ r = 30) ∧ r - 30 ≠ 3 ∧ (r - 30 = 0 ∨ r - 30 = 1 ∨ r - 30 = 2) := by
  rintro r (rfl | rfl | rfl) <;> decide
set_option maxHeartbeats 2000000 in
/-- a new signal: the name is put down -/
theorem T_sig {r : Int32} (hR : RT b n s m τ M i) (hB : By b) (hr : r = 30 ∨ r = 31 ∨ r = 32) (hk : tK b n i = 2) (hL : τ.1.length < 16) (hI : r = 30 → (inL τ.2.1).length < 4) (H : ∀ M', RT b n s m (τ.1 ++ [tC b n i], τ.2.1 ++ [r], τ.2.2.1 ++ [0], τ.2.2.2.1, τ.2.2.2.2) M' i → RGt m M M' → Q none M') : DX11_readName_140 h 29 (r - 30) (mAJ M 33 i) M Q := by
  have tk := hR.tk hB
  have nm := tk.nm hk
  obtain ⟨⟨F, h1, e1, e2, e3, e4, e5, e6, e7, e8, e9⟩, h2, h3, h4, h5, h6, h7⟩ := hR
  obtain ⟨k30, kn3, -⟩ := kn32 r hr
  unfold DX11_readName_140 DX11_readName_305 DX11_readName_318
  have ek : (16 : Int32) * Int32.ofNat m + Int32.ofNat τ.1.length = Int32.ofNat (16 * m + τ.1.length) := by
    rw [show (16 : Int32) = Int32.ofNat 16 from rfl, mul32, add32]
  have e4k : (4 : Int32) * Int32.ofNat m + Int32.ofNat (inL τ.2.1).length = Int32.ofNat (4 * m + (inL τ.2.1).length) := by
    rw [show (4 : Int32) = Int32.ofNat 4 from rfl, mul32, add32]
  refine ⟨fun _ => ?_, fun z => absurd z kn3⟩
  rw [e1, lt32 (by omega)]
  refine ⟨ok29 F, 34, rf29_8 F, ok34 F, by rw [ln34 F]; exact vp_of e2 (by decide), ?_⟩
  rw [e4, ek, lt32 (by omega)]
  refine ⟨37, rf29_11 F, ok37 F, by rw [ln37 F]; exact vp_of (by omega) (by decide), fun A a => ?_⟩
  have FA : Fix A := by rw [a]; exact F.aj (by decide)
  refine ⟨38, rf29_12 FA, ok38 FA, by rw [ln38 FA]; exact vp_of (by omega) (by decide), fun B bb => ?_⟩
  have FB : Fix B := by rw [bb]; exact FA.ai
  refine ⟨39, rf29_13 FB, ok39 FB, by rw [ln39 FB]; exact vp_of (by omega) (by decide), fun C c => ?_⟩
  have FC : Fix C := by rw [c]; exact FB.ai
  refine ⟨40, rf29_14 FC, ok40 FC, by rw [ln40 FC]; exact vp_of (by omega) (by decide), fun D d => ?_⟩
  have FD : Fix D := by rw [d]; exact FC.ai
  rw [sp0] at d
  have eD : D = wAI (wAI (wAI (wAJ M 37 (16 * m + τ.1.length) (mAJ M 33 i)) 38 (16 * m + τ.1.length) (r - 30)) 39 (16 * m + τ.1.length) 0) 40 (16 * m + τ.1.length) 0 := by rw [d, c, bb, a]
  have fD : RGt m M D := by
    rw [eD]
    exact (((RG.aj (by decide) (by rw [show szA 37 = 16 by decide]; omega)).tr (RG.ai (by decide) (by rw [show szA 38 = 16 by decide]; omega))).tr (RG.ai (by decide) (by rw [show szA 39 = 16 by decide]; omega))).tr (RG.ai (by decide) (by rw [show szA 40 = 16 by decide]; omega))
  have i19 : mI D 29 19 = Int32.ofNat m := by rw [eD]; exact e1
  have a35 : mAI D 35 m = Int32.ofNat (inL τ.2.1).length := by rw [eD]; simp [h5.1, mNwI, mSwI, mKwI, mIwI, mJwI, mRwI, mLwI, mAIwI, mAJwI, mARwI, mNwJ, mSwJ, mKwJ, mIwJ, mJwJ, mRwJ, mLwJ, mAIwJ, mAJwJ, mARwJ, mNwR, mSwR, mKwR, mIwR, mJwR, mRwR, mLwR, mAIwR, mAJwR, mARwR, mNwAI, mSwAI, mKwAI, mIwAI, mJwAI, mRwAI, mLwAI, mAIwAI, mAJwAI, mARwAI, mNwAJ, mSwAJ, mKwAJ, mIwAJ, mJwAJ, mRwAJ, mLwAJ, mAIwAJ, mAJwAJ, mARwAJ, mNwAR, mSwAR, mKwAR, mIwAR, mJwAR, mRwAR, mLwAR, mAIwAR, mAJwAR, mARwAR, okkwI, okkwJ, okkwR, okkwAI, okkwAJ, okkwAR]
  have a34 : mAI D 34 m = Int32.ofNat τ.1.length := by rw [eD]; simp [e4, mNwI, mSwI, mKwI, mIwI, mJwI, mRwI, mLwI, mAIwI, mAJwI, mARwI, mNwJ, mSwJ, mKwJ, mIwJ, mJwJ, mRwJ, mLwJ, mAIwJ, mAJwJ, mARwJ, mNwR, mSwR, mKwR, mIwR, mJwR, mRwR, mLwR, mAIwR, mAJwR, mARwR, mNwAI, mSwAI, mKwAI, mIwAI, mJwAI, mRwAI, mLwAI, mAIwAI, mAJwAI, mARwAI, mNwAJ, mSwAJ, mKwAJ, mIwAJ, mJwAJ, mRwAJ, mLwAJ, mAIwAJ, mAJwAJ, mARwAJ, mNwAR, mSwAR, mKwAR, mIwAR, mJwAR, mRwAR, mLwAR, mAIwAR, mAJwAR, mARwAR, okkwI, okkwJ, okkwR, okkwAI, okkwAJ, okkwAR]
  -- the end: one signal more
  have fin : ∀ (D2 M' : Mem), Fix D2 → RGt m D D2 → mAI D2 34 m = Int32.ofNat τ.1.length → mAI D2 38 = mAI D 38 → mAI D2 39 = mAI D 39 → mAI D2 40 = mAI D 40 → mAI D2 36 = mAI D 36 → (mAI D2 35 m = Int32.ofNat (inL (τ.2.1 ++ [r])).length ∧ (inL (τ.2.1 ++ [r])).length ≤ 4 ∧ ∀ j, j < (inL (τ.2.1 ++ [r])).length → mAI D2 41 (4 * m + j) = Int32.ofNat ((inL (τ.2.1 ++ [r])).getD j 0)) → mAJ D2 = mAJ D → mI D2 = mI D → M' = wAI D2 34 m (Int32.ofNat (τ.1.length + 1)) → Q none M' := by
    intro D2 M' F2 f2 q34 q38 q39 q40 q36 q35 qJ qI eM
    have fM : RGt m M M' := by rw [eM]; exact (fD.tr f2).tr (RG.ai (by decide) (by rw [show szA 34 = 1 by decide]; omega))
    have r38 : mAI M' 38 = mAI D 38 := by rw [eM, mAI_wAI_ne (by decide)]; exact q38
    have r39 : mAI M' 39 = mAI D 39 := by rw [eM, mAI_wAI_ne (by decide)]; exact q39
    have r40 : mAI M' 40 = mAI D 40 := by rw [eM, mAI_wAI_ne (by decide)]; exact q40
    have rJ : mAJ M' = mAJ D := by rw [eM]; exact qJ
    have rI : mI M' = mI D := by rw [eM]; exact qI
    have c37 : ∀ k, mAJ D 37 k = if k = 16 * m + τ.1.length then mAJ M 33 i else mAJ M 37 k := by intro k; rw [eD]; simp [mNwI, mSwI, mKwI, mIwI, mJwI, mRwI, mLwI, mAIwI, mAJwI, mARwI, mNwJ, mSwJ, mKwJ, mIwJ, mJwJ, mRwJ, mLwJ, mAIwJ, mAJwJ, mARwJ, mNwR, mSwR, mKwR, mIwR, mJwR, mRwR, mLwR, mAIwR, mAJwR, mARwR, mNwAI, mSwAI, mKwAI, mIwAI, mJwAI, mRwAI, mLwAI, mAIwAI, mAJwAI, mARwAI, mNwAJ, mSwAJ, mKwAJ, mIwAJ, mJwAJ, mRwAJ, mLwAJ, mAIwAJ, mAJwAJ, mARwAJ, mNwAR, mSwAR, mKwAR, mIwAR, mJwAR, mRwAR, mLwAR, mAIwAR, mAJwAR, mARwAR, okkwI, okkwJ, okkwR, okkwAI, okkwAJ, okkwAR]
    have c38 : ∀ k, mAI D 38 k = if k = 16 * m + τ.1.length then r - 30 else mAI M 38 k := by intro k; rw [eD]; simp [mNwI, mSwI, mKwI, mIwI, mJwI, mRwI, mLwI, mAIwI, mAJwI, mARwI, mNwJ, mSwJ, mKwJ, mIwJ, mJwJ, mRwJ, mLwJ, mAIwJ, mAJwJ, mARwJ, mNwR, mSwR, mKwR, mIwR, mJwR, mRwR, mLwR, mAIwR, mAJwR, mARwR, mNwAI, mSwAI, mKwAI, mIwAI, mJwAI, mRwAI, mLwAI, mAIwAI, mAJwAI, mARwAI, mNwAJ, mSwAJ, mKwAJ, mIwAJ, mJwAJ, mRwAJ, mLwAJ, mAIwAJ, mAJwAJ, mARwAJ, mNwAR, mSwAR, mKwAR, mIwAR, mJwAR, mRwAR, mLwAR, mAIwAR, mAJwAR, mARwAR, okkwI, okkwJ, okkwR, okkwAI, okkwAJ, okkwAR]
    have c39 : ∀ k, mAI D 39 k = if k = 16 * m + τ.1.length then 0 else mAI M 39 k := by intro k; rw [eD]; simp [mNwI, mSwI, mKwI, mIwI, mJwI, mRwI, mLwI, mAIwI, mAJwI, mARwI, mNwJ, mSwJ, mKwJ, mIwJ, mJwJ, mRwJ, mLwJ, mAIwJ, mAJwJ, mARwJ, mNwR, mSwR, mKwR, mIwR, mJwR, mRwR, mLwR, mAIwR, mAJwR, mARwR, mNwAI, mSwAI, mKwAI, mIwAI, mJwAI, mRwAI, mLwAI, mAIwAI, mAJwAI, mARwAI, mNwAJ, mSwAJ, mKwAJ, mIwAJ, mJwAJ, mRwAJ, mLwAJ, mAIwAJ, mAJwAJ, mARwAJ, mNwAR, mSwAR, mKwAR, mIwAR, mJwAR, mRwAR, mLwAR, mAIwAR, mAJwAR, mARwAR, okkwI, okkwJ, okkwR, okkwAI, okkwAJ, okkwAR]
    have c40 : ∀ k, mAI D 40 k = if k = 16 * m + τ.1.length then 0 else mAI M 40 k := by intro k; rw [eD]; simp [mNwI, mSwI, mKwI, mIwI, mJwI, mRwI, mLwI, mAIwI, mAJwI, mARwI, mNwJ, mSwJ, mKwJ, mIwJ, mJwJ, mRwJ, mLwJ, mAIwJ, mAJwJ, mARwJ, mNwR, mSwR, mKwR, mIwR, mJwR, mRwR, mLwR, mAIwR, mAJwR, mARwR, mNwAI, mSwAI, mKwAI, mIwAI, mJwAI, mRwAI, mLwAI, mAIwAI, mAJwAI, mARwAI, mNwAJ, mSwAJ, mKwAJ, mIwAJ, mJwAJ, mRwAJ, mLwAJ, mAIwAJ, mAJwAJ, mARwAJ, mNwAR, mSwAR, mKwAR, mIwAR, mJwAR, mRwAR, mLwAR, mAIwAR, mAJwAR, mARwAR, okkwI, okkwJ, okkwR, okkwAI, okkwAJ, okkwAR]
    have cJ : ∀ a, a ≠ 37 → mAJ D a = mAJ M a := by intro a ha; rw [eD]; funext k; simp [ha, mNwI, mSwI, mKwI, mIwI, mJwI, mRwI, mLwI, mAIwI, mAJwI, mARwI, mNwJ, mSwJ, mKwJ, mIwJ, mJwJ, mRwJ, mLwJ, mAIwJ, mAJwJ, mARwJ, mNwR, mSwR, mKwR, mIwR, mJwR, mRwR, mLwR, mAIwR, mAJwR, mARwR, mNwAI, mSwAI, mKwAI, mIwAI, mJwAI, mRwAI, mLwAI, mAIwAI, mAJwAI, mARwAI, mNwAJ, mSwAJ, mKwAJ, mIwAJ, mJwAJ, mRwAJ, mLwAJ, mAIwAJ, mAJwAJ, mARwAJ, mNwAR, mSwAR, mKwAR, mIwAR, mJwAR, mRwAR, mLwAR, mAIwAR, mAJwAR, mARwAR, okkwI, okkwJ, okkwR, okkwAI, okkwAJ, okkwAR]
    refine H M' ⟨⟨fM.fix F (by decide), fun j hj => ?_, ?_⟩, h2, by rw [rI, eD]; exact h3, by rw [rI, eD]; exact h4, ?_, ⟨h6.1, fun k hk => by rw [rJ, cJ 43 (by decide)]; exact h6.2 k hk⟩, fun k hk => ?_⟩ fM
    · obtain ⟨r1, r2, r3⟩ := h1 j hj
      exact ⟨by rw [fM.fA (by decide)]; exact r1, by rw [fM.fA (by decide)]; exact r2, by rw [fM.fJ (by decide)]; exact r3⟩
    · have hl : (τ.1 ++ [tC b n i]).length = τ.1.length + 1 := by rw [List.length_append]; rfl
      have gN : ∀ k, k < τ.1.length + 1 → (τ.1 ++ [tC b n i]).getD k 0 = if k = τ.1.length then tC b n i else τ.1.getD k 0 := by
        intro k hk
        rw [List.getD_eq_getElem?_getD, List.getD_eq_getElem?_getD]
        by_cases z : k = τ.1.length
        · rw [if_pos z, z, List.getElem?_append_right (Nat.le_refl _), Nat.sub_self]; rfl
        · rw [if_neg z, List.getElem?_append_left (by omega)]
      have gR : ∀ (l : List Int32) (x : Int32), l.length = τ.1.length → ∀ k, k < τ.1.length + 1 → (l ++ [x]).getD k 0 = if k = τ.1.length then x else l.getD k 0 := by
        intro l x hl k hk
        rw [getD_app (by omega), hl]
      refine ⟨by rw [rI, eD]; exact e1, e2, ⟨by show (τ.1 ++ [tC b n i]).length ≤ 16; omega, by show (τ.2.1 ++ [r]).length = (τ.1 ++ [tC b n i]).length; rw [List.length_append, List.length_append, e3.2.1]; rfl, by show (τ.2.2.1 ++ [0]).length = (τ.1 ++ [tC b n i]).length; rw [List.length_append, List.length_append, e3.2.2.1]; rfl, e3.2.2.2⟩, ?_, ?_, fun k hk => ?_, fun k hk => ?_, fun k hk => ?_, fun k hk => ?_⟩
      · show mAI M' 34 m = Int32.ofNat (τ.1 ++ [tC b n i]).length
        rw [hl, eM]; simp [mNwI, mSwI, mKwI, mIwI, mJwI, mRwI, mLwI, mAIwI, mAJwI, mARwI, mNwJ, mSwJ, mKwJ, mIwJ, mJwJ, mRwJ, mLwJ, mAIwJ, mAJwJ, mARwJ, mNwR, mSwR, mKwR, mIwR, mJwR, mRwR, mLwR, mAIwR, mAJwR, mARwR, mNwAI, mSwAI, mKwAI, mIwAI, mJwAI, mRwAI, mLwAI, mAIwAI, mAJwAI, mARwAI, mNwAJ, mSwAJ, mKwAJ, mIwAJ, mJwAJ, mRwAJ, mLwAJ, mAIwAJ, mAJwAJ, mARwAJ, mNwAR, mSwAR, mKwAR, mIwAR, mJwAR, mRwAR, mLwAR, mAIwAR, mAJwAR, mARwAR, okkwI, okkwJ, okkwR, okkwAI, okkwAJ, okkwAR]
      · rw [eM, mAI_wAI_ne (by decide), q36, eD]; simp [e5, mNwI, mSwI, mKwI, mIwI, mJwI, mRwI, mLwI, mAIwI, mAJwI, mARwI, mNwJ, mSwJ, mKwJ, mIwJ, mJwJ, mRwJ, mLwJ, mAIwJ, mAJwJ, mARwJ, mNwR, mSwR, mKwR, mIwR, mJwR, mRwR, mLwR, mAIwR, mAJwR, mARwR, mNwAI, mSwAI, mKwAI, mIwAI, mJwAI, mRwAI, mLwAI, mAIwAI, mAJwAI, mARwAI, mNwAJ, mSwAJ, mKwAJ, mIwAJ, mJwAJ, mRwAJ, mLwAJ, mAIwAJ, mAJwAJ, mARwAJ, mNwAR, mSwAR, mKwAR, mIwAR, mJwAR, mRwAR, mLwAR, mAIwAR, mAJwAR, mARwAR, okkwI, okkwJ, okkwR, okkwAI, okkwAJ, okkwAR]
      · have hk : k < (τ.1 ++ [tC b n i]).length := hk
        rw [hl] at hk
        show NmR b n ((τ.1 ++ [tC b n i]).getD k 0) (mAJ M' 37 (16 * m + k))
        rw [gN k hk, rJ, c37]
        by_cases z : k = τ.1.length
        · rw [if_pos z, if_pos (by omega)]; exact nm
        · rw [if_neg z, if_neg (by omega)]; exact e6 k (by omega)
      · have hk : k < (τ.1 ++ [tC b n i]).length := hk
        rw [hl] at hk
        show mAI M' 38 (16 * m + k) = (τ.2.1 ++ [r]).getD k 0 - 30
        rw [gR _ _ e3.2.1 k hk, r38, c38]
        by_cases z : k = τ.1.length
        · rw [if_pos z, if_pos (by omega)]
        · rw [if_neg z, if_neg (by omega)]; exact e7 k (by omega)
      · have hk : k < (τ.1 ++ [tC b n i]).length := hk
        rw [hl] at hk
        show mAI M' 39 (16 * m + k) = (if (τ.2.2.1 ++ [0]).getD k 0 = 0 then 0 else (τ.2.2.1 ++ [0]).getD k 0 - 32) ∧ (τ.2.2.1 ++ [0]).getD k 0 ≠ 32
        rw [gR _ _ e3.2.2.1 k hk, r39, c39]
        by_cases z : k = τ.1.length
        · rw [if_pos z, if_pos (by omega)]; exact ⟨rfl, by decide⟩
        · rw [if_neg z, if_neg (by omega)]; exact e8 k (by omega)
      · show NmR b n (τ.2.2.2.1.getD k 0) (mAJ M' 42 (6 * m + k))
        rw [rJ, cJ 42 (by decide)]; exact e9 k hk
    · obtain ⟨z1, z2, z3⟩ := q35
      exact ⟨by rw [eM, mAI_wAI_ne (by decide)]; exact z1, z2, fun j hj => by rw [eM, mAI_wAI_ne (by decide)]; exact z3 j hj⟩
    · have hk : k < (τ.1 ++ [tC b n i]).length := hk
      rw [List.length_append] at hk
      have hk : k < τ.1.length + 1 := hk
      rw [r40, c40]
      by_cases z : k = τ.1.length
      · rw [if_pos (by omega)]
      · rw [if_neg (by omega)]; exact h7 k (by omega)
  refine ⟨fun q => ?_, fun q => ?_⟩
  · have n30 : r ≠ 30 := fun z => q (k30.mpr z)
    have ei : inL (τ.2.1 ++ [r]) = inL τ.2.1 := by rw [inL_app, if_neg n30, List.append_nil]
    rw [i19, lt32 (by omega)]
    refine ⟨ok29 FD, 34, rf29_8 FD, ok34 FD, by rw [ln34 FD]; exact vp_of e2 (by decide), by rw [ln34 FD]; exact vp_of e2 (by decide), fun M' eM => ?_⟩
    rw [a34, succ32] at eM
    refine fin D M' FD RG.rf a34 rfl rfl rfl rfl ?_ rfl rfl eM
    rw [ei]
    exact ⟨a35, h5.2.1, fun j hj => by rw [eD]; simp [h5.2.2 j hj, mNwI, mSwI, mKwI, mIwI, mJwI, mRwI, mLwI, mAIwI, mAJwI, mARwI, mNwJ, mSwJ, mKwJ, mIwJ, mJwJ, mRwJ, mLwJ, mAIwJ, mAJwJ, mARwJ, mNwR, mSwR, mKwR, mIwR, mJwR, mRwR, mLwR, mAIwR, mAJwR, mARwR, mNwAI, mSwAI, mKwAI, mIwAI, mJwAI, mRwAI, mLwAI, mAIwAI, mAJwAI, mARwAI, mNwAJ, mSwAJ, mKwAJ, mIwAJ, mJwAJ, mRwAJ, mLwAJ, mAIwAJ, mAJwAJ, mARwAJ, mNwAR, mSwAR, mKwAR, mIwAR, mJwAR, mRwAR, mLwAR, mAIwAR, mAJwAR, mARwAR, okkwI, okkwJ, okkwR, okkwAI, okkwAJ, okkwAR]⟩
  · have y30 : r = 30 := k30.mp q
    have ei : inL (τ.2.1 ++ [r]) = inL τ.2.1 ++ [τ.1.length] := by rw [inL_app, if_pos y30, e3.2.1]
    have hI4 := hI y30
    rw [i19, lt32 (by omega)]
    refine ⟨41, rf29_15 FD, 35, rf29_9 FD, ok35 FD, by rw [ln35 FD]; exact vp_of e2 (by decide), 34, rf29_8 FD, ok34 FD, by rw [ln34 FD]; exact vp_of e2 (by decide), ok41 FD, ?_⟩
    rw [a35, e4k, lt32 (by omega), a34]
    refine ⟨by rw [ln41 FD]; exact vp_of (by omega) (by decide), fun G g => ?_⟩
    have FG : Fix G := by rw [g]; exact FD.ai
    have g19 : mI G 29 19 = Int32.ofNat m := by rw [g]; exact i19
    have g35 : mAI G 35 m = Int32.ofNat (inL τ.2.1).length := by rw [g, mAI_wAI_ne (by decide)]; exact a35
    rw [g19, lt32 (by omega)]
    refine ⟨35, rf29_9 FG, ok35 FG, by rw [ln35 FG]; exact vp_of e2 (by decide), by rw [ln35 FG]; exact vp_of e2 (by decide), fun K k => ?_⟩
    rw [g35, succ32] at k
    have FK : Fix K := by rw [k]; exact FG.ai
    have k19 : mI K 29 19 = Int32.ofNat m := by rw [k]; exact g19
    have k34 : mAI K 34 m = Int32.ofNat τ.1.length := by rw [k, mAI_wAI_ne (by decide), g, mAI_wAI_ne (by decide)]; exact a34
    rw [k19, lt32 (by omega)]
    refine ⟨ok29 FK, 34, rf29_8 FK, ok34 FK, by rw [ln34 FK]; exact vp_of e2 (by decide), by rw [ln34 FK]; exact vp_of e2 (by decide), fun M' eM => ?_⟩
    rw [k34, succ32] at eM
    have rK : ∀ q, q ≠ 35 → q ≠ 41 → mAI K q = mAI D q := fun q z1 z2 => by rw [k, mAI_wAI_ne z1, g, mAI_wAI_ne z2]
    refine fin K M' FK ?_ k34 (rK 38 (by decide) (by decide)) (rK 39 (by decide) (by decide)) (rK 40 (by decide) (by decide)) (rK 36 (by decide) (by decide)) ?_ (by rw [k, g]; rfl) (by rw [k, g]; rfl) eM
    · rw [k, g]
      exact (RG.ai (by decide) (by rw [show szA 41 = 4 by decide]; omega)).tr (RG.ai (by decide) (by rw [show szA 35 = 1 by decide]; omega))
    · rw [ei, List.length_append]
      refine ⟨by rw [k]; simp [mNwI, mSwI, mKwI, mIwI, mJwI, mRwI, mLwI, mAIwI, mAJwI, mARwI, mNwJ, mSwJ, mKwJ, mIwJ, mJwJ, mRwJ, mLwJ, mAIwJ, mAJwJ, mARwJ, mNwR, mSwR, mKwR, mIwR, mJwR, mRwR, mLwR, mAIwR, mAJwR, mARwR, mNwAI, mSwAI, mKwAI, mIwAI, mJwAI, mRwAI, mLwAI, mAIwAI, mAJwAI, mARwAI, mNwAJ, mSwAJ, mKwAJ, mIwAJ, mJwAJ, mRwAJ, mLwAJ, mAIwAJ, mAJwAJ, mARwAJ, mNwAR, mSwAR, mKwAR, mIwAR, mJwAR, mRwAR, mLwAR, mAIwAR, mAJwAR, mARwAR, okkwI, okkwJ, okkwR, okkwAI, okkwAJ, okkwAR], by show (inL τ.2.1).length + 1 ≤ 4; omega, fun j hj => ?_⟩
      have hj : j < (inL τ.2.1).length + 1 := hj
      rw [k, mAI_wAI_ne (by decide), g, mAI_wAI]
      have gg : (inL τ.2.1 ++ [τ.1.length]).getD j 0 = if j = (inL τ.2.1).length then τ.1.length else (inL τ.2.1).getD j 0 := by
        rw [List.getD_eq_getElem?_getD, List.getD_eq_getElem?_getD]
        by_cases z : j = (inL τ.2.1).length
        · rw [if_pos z, z, List.getElem?_append_right (Nat.le_refl _), Nat.sub_self]; rfl
        · rw [if_neg z, List.getElem?_append_left (by omega)]
      rw [gg]
      by_cases z : j = (inL τ.2.1).length
      · rw [if_pos ⟨rfl, by omega⟩, if_pos z]
      · rw [if_neg (by rintro ⟨-, y⟩; omega), if_neg z, eD]; simp [h5.2.2 j (by omega), mNwI, mSwI, mKwI, mIwI, mJwI, mRwI, mLwI, mAIwI, mAJwI, mARwI, mNwJ, mSwJ, mKwJ, mIwJ, mJwJ, mRwJ, mLwJ, mAIwJ, mAJwJ, mARwJ, mNwR, mSwR, mKwR, mIwR, mJwR, mRwR, mLwR, mAIwR, mAJwR, mARwR, mNwAI, mSwAI, mKwAI, mIwAI, mJwAI, mRwAI, mLwAI, mAIwAI, mAJwAI, mARwAI, mNwAJ, mSwAJ, mKwAJ, mIwAJ, mJwAJ, mRwAJ, mLwAJ, mAIwAJ, mAJwAJ, mARwAJ, mNwAR, mSwAR, mKwAR, mIwAR, mJwAR, mRwAR, mLwAR, mAIwAR, mAJwAR, mARwAR, okkwI, okkwJ, okkwR, okkwAI, okkwAJ, okkwAR]
end
end
section
/-! the reference reads what the text tells: names, how numbers come together, first numbers -/
section
variable {b : Nat → Int32} {n s m : Nat} {τ : Td} {M M' : Mem} {i h : Nat} {Q : Option Value → Mem → Prop}
theorem getD_a64 {l : List Int64} {x : Int64} {k : Nat} (h : k < l.length + 1) : (l ++ [x]).getD k 0 = if k = l.length then x else l.getD k 0 := by
  rw [List.getD_eq_getElem?_getD, List.getD_eq_getElem?_getD]
  by_cases z : k = l.length
  · rw [if_pos z, z, List.getElem?_append_right (Nat.le_refl _), Nat.sub_self]; rfl
  · rw [if_neg z, List.getElem?_append_left (by omega)]
set_option maxHeartbeats 1000000 in
theorem T_var (hR : RT b n s m τ M i) (hB : By b) (hk : tK b n i = 2) (hL : τ.2.2.2.1.length < 6) (H : ∀ M', RT b n s m (τ.1, τ.2.1, τ.2.2.1, τ.2.2.2.1 ++ [tC b n i], τ.2.2.2.2 ++ [0]) M' i → RGt m M M' → Q none M') : DX11_readName_140 h 29 3 (mAJ M 33 i) M Q := by
  have tk := hR.tk hB
  have nm := tk.nm hk
  obtain ⟨⟨F, h1, e1, e2, e3, e4, e5, e6, e7, e8, e9⟩, h2, h3, h4, h5, h6, h7⟩ := hR
  unfold DX11_readName_140 DX11_readName_318
  have ek : (6 : Int32) * Int32.ofNat m + Int32.ofNat τ.2.2.2.1.length = Int32.ofNat (6 * m + τ.2.2.2.1.length) := by
    rw [show (6 : Int32) = Int32.ofNat 6 from rfl, mul32, add32]
  refine ⟨fun z => absurd rfl z, fun _ => ?_⟩
  rw [e1, lt32 (by omega)]
  refine ⟨ok29 F, 42, rf29_16 F, 36, rf29_10 F, ok36 F, by rw [ln36 F]; exact vp_of e2 (by decide), ok42 F, ?_⟩
  rw [e5, ek, lt32 (by omega)]
  refine ⟨by rw [ln42 F]; exact vp_of (by omega) (by decide), fun A a => ?_⟩
  have FA : Fix A := by rw [a]; exact F.aj (by decide)
  have a19 : mI A 29 19 = Int32.ofNat m := by rw [a]; exact e1
  have a36 : mAI A 36 m = Int32.ofNat τ.2.2.2.1.length := by rw [a]; exact e5
  rw [a19, lt32 (by omega)]
  refine ⟨43, rf29_17 FA, 36, rf29_10 FA, ok36 FA, by rw [ln36 FA]; exact vp_of e2 (by decide), ok43 FA, ?_⟩
  rw [a36, ek, lt32 (by omega)]
  refine ⟨by rw [ln43 FA]; exact vp_of (by omega) (by decide), fun B bb => ?_⟩
  have FB : Fix B := by rw [bb]; exact FA.aj (by decide)
  have b19 : mI B 29 19 = Int32.ofNat m := by rw [bb]; exact a19
  have b36 : mAI B 36 m = Int32.ofNat τ.2.2.2.1.length := by rw [bb]; exact a36
  rw [b19, lt32 (by omega)]
  refine ⟨36, rf29_10 FB, ok36 FB, by rw [ln36 FB]; exact vp_of e2 (by decide), by rw [ln36 FB]; exact vp_of e2 (by decide), fun D d => ?_⟩
  rw [b36, succ32] at d
  have eD : D = wAI (wAJ (wAJ M 42 (6 * m + τ.2.2.2.1.length) (mAJ M 33 i)) 43 (6 * m + τ.2.2.2.1.length) 0) 36 m (Int32.ofNat (τ.2.2.2.1.length + 1)) := by rw [d, bb, a]
  have fD : RGt m M D := by
    rw [eD]
    exact ((RG.aj (by decide) (by rw [show szA 42 = 6 by decide]; omega)).tr (RG.aj (by decide) (by rw [show szA 43 = 6 by decide]; omega))).tr (RG.ai (by decide) (by rw [show szA 36 = 1 by decide]; omega))
  have rA : ∀ q, q ≠ 36 → mAI D q = mAI M q := fun q hq => by rw [eD, mAI_wAI_ne hq]; rfl
  have c42 : ∀ k, mAJ D 42 k = if k = 6 * m + τ.2.2.2.1.length then mAJ M 33 i else mAJ M 42 k := by intro k; rw [eD]; simp [mNwI, mSwI, mKwI, mIwI, mJwI, mRwI, mLwI, mAIwI, mAJwI, mARwI, mNwJ, mSwJ, mKwJ, mIwJ, mJwJ, mRwJ, mLwJ, mAIwJ, mAJwJ, mARwJ, mNwR, mSwR, mKwR, mIwR, mJwR, mRwR, mLwR, mAIwR, mAJwR, mARwR, mNwAI, mSwAI, mKwAI, mIwAI, mJwAI, mRwAI, mLwAI, mAIwAI, mAJwAI, mARwAI, mNwAJ, mSwAJ, mKwAJ, mIwAJ, mJwAJ, mRwAJ, mLwAJ, mAIwAJ, mAJwAJ, mARwAJ, mNwAR, mSwAR, mKwAR, mIwAR, mJwAR, mRwAR, mLwAR, mAIwAR, mAJwAR, mARwAR, okkwI, okkwJ, okkwR, okkwAI, okkwAJ, okkwAR]
  have c43 : ∀ k, mAJ D 43 k = if k = 6 * m + τ.2.2.2.1.length then 0 else mAJ M 43 k := by intro k; rw [eD]; simp [mNwI, mSwI, mKwI, mIwI, mJwI, mRwI, mLwI, mAIwI, mAJwI, mARwI, mNwJ, mSwJ, mKwJ, mIwJ, mJwJ, mRwJ, mLwJ, mAIwJ, mAJwJ, mARwJ, mNwR, mSwR, mKwR, mIwR, mJwR, mRwR, mLwR, mAIwR, mAJwR, mARwR, mNwAI, mSwAI, mKwAI, mIwAI, mJwAI, mRwAI, mLwAI, mAIwAI, mAJwAI, mARwAI, mNwAJ, mSwAJ, mKwAJ, mIwAJ, mJwAJ, mRwAJ, mLwAJ, mAIwAJ, mAJwAJ, mARwAJ, mNwAR, mSwAR, mKwAR, mIwAR, mJwAR, mRwAR, mLwAR, mAIwAR, mAJwAR, mARwAR, okkwI, okkwJ, okkwR, okkwAI, okkwAJ, okkwAR]
  have hl : (τ.2.2.2.1 ++ [tC b n i]).length = τ.2.2.2.1.length + 1 := by rw [List.length_append]; rfl
  refine H D ⟨⟨fD.fix F (by decide), fun j hj => ?_, ?_⟩, h2, by rw [eD]; exact h3, by rw [eD]; exact h4, ?_, ⟨by show (τ.2.2.2.2 ++ [0]).length = (τ.2.2.2.1 ++ [tC b n i]).length; rw [List.length_append, List.length_append, h6.1]; rfl, fun k hk => ?_⟩, fun k hk => by rw [rA 40 (by decide)]; exact h7 k hk⟩ fD
  · obtain ⟨r1, r2, r3⟩ := h1 j hj
    exact ⟨by rw [fD.fA (by decide)]; exact r1, by rw [fD.fA (by decide)]; exact r2, by rw [fD.fJ (by decide)]; exact r3⟩
  · refine ⟨by rw [eD]; exact e1, e2, ⟨e3.1, e3.2.1, e3.2.2.1, by show (τ.2.2.2.1 ++ [tC b n i]).length ≤ 6; omega⟩, by rw [rA 34 (by decide)]; exact e4, ?_, fun k hk => ?_, fun k hk => by rw [rA 38 (by decide)]; exact e7 k hk, fun k hk => by rw [rA 39 (by decide)]; exact e8 k hk, fun k hk => ?_⟩
    · show mAI D 36 m = Int32.ofNat (τ.2.2.2.1 ++ [tC b n i]).length
      rw [hl, eD]; simp [mNwI, mSwI, mKwI, mIwI, mJwI, mRwI, mLwI, mAIwI, mAJwI, mARwI, mNwJ, mSwJ, mKwJ, mIwJ, mJwJ, mRwJ, mLwJ, mAIwJ, mAJwJ, mARwJ, mNwR, mSwR, mKwR, mIwR, mJwR, mRwR, mLwR, mAIwR, mAJwR, mARwR, mNwAI, mSwAI, mKwAI, mIwAI, mJwAI, mRwAI, mLwAI, mAIwAI, mAJwAI, mARwAI, mNwAJ, mSwAJ, mKwAJ, mIwAJ, mJwAJ, mRwAJ, mLwAJ, mAIwAJ, mAJwAJ, mARwAJ, mNwAR, mSwAR, mKwAR, mIwAR, mJwAR, mRwAR, mLwAR, mAIwAR, mAJwAR, mARwAR, okkwI, okkwJ, okkwR, okkwAI, okkwAJ, okkwAR]
    · have : mAJ D 37 = mAJ M 37 := by rw [eD]; funext k; simp [mNwI, mSwI, mKwI, mIwI, mJwI, mRwI, mLwI, mAIwI, mAJwI, mARwI, mNwJ, mSwJ, mKwJ, mIwJ, mJwJ, mRwJ, mLwJ, mAIwJ, mAJwJ, mARwJ, mNwR, mSwR, mKwR, mIwR, mJwR, mRwR, mLwR, mAIwR, mAJwR, mARwR, mNwAI, mSwAI, mKwAI, mIwAI, mJwAI, mRwAI, mLwAI, mAIwAI, mAJwAI, mARwAI, mNwAJ, mSwAJ, mKwAJ, mIwAJ, mJwAJ, mRwAJ, mLwAJ, mAIwAJ, mAJwAJ, mARwAJ, mNwAR, mSwAR, mKwAR, mIwAR, mJwAR, mRwAR, mLwAR, mAIwAR, mAJwAR, mARwAR, okkwI, okkwJ, okkwR, okkwAI, okkwAJ, okkwAR]
      rw [this]; exact e6 k hk
    · have hk : k < (τ.2.2.2.1 ++ [tC b n i]).length := hk
      rw [hl] at hk
      show NmR b n ((τ.2.2.2.1 ++ [tC b n i]).getD k 0) (mAJ D 42 (6 * m + k))
      rw [getD_a64 hk, c42]
      by_cases z : k = τ.2.2.2.1.length
      · rw [if_pos z, if_pos (by omega)]; exact nm
      · rw [if_neg z, if_neg (by omega)]; exact e9 k (by omega)
  · exact ⟨by rw [rA 35 (by decide)]; exact h5.1, h5.2.1, fun j hj => by rw [rA 41 (by decide)]; exact h5.2.2 j hj⟩
  · have hk : k < (τ.2.2.2.1 ++ [tC b n i]).length := hk
    rw [hl] at hk
    show mAJ D 43 (6 * m + k) = (τ.2.2.2.2 ++ [0]).getD k 0
    rw [getD_a64 (by rw [h6.1]; exact hk), h6.1, c43]
    by_cases z : k = τ.2.2.2.1.length
    · rw [if_pos z, if_pos (by omega)]
    · rw [if_neg z, if_neg (by omega)]; exact h6.2 k (by omega)
/-- the role of a token as the reference has it: 0, 1, 2; 3 a variable -/
def rSo (r : Int32) : Int32 := if r = 36 then 3 else r - 30
/-- the name is put down -/
def upN (b : Nat → Int32) (n i : Nat) (r : Int32) (τ : Td) : Td := if r = 36 then (τ.1, τ.2.1, τ.2.2.1, τ.2.2.2.1 ++ [tC b n i], τ.2.2.2.2 ++ [0]) else (τ.1 ++ [tC b n i], τ.2.1 ++ [r], τ.2.2.1 ++ [0], τ.2.2.2.1, τ.2.2.2.2)
theorem oi_none {o : Option Nat} {k : Nat} (h : ∀ j, o = some j → j < 100) : (oi o = -1) ↔ o = none := by
  cases o with
  | none => exact ⟨fun _ => rfl, fun _ => rfl⟩
  | some j => exact ⟨fun z => absurd z (oi_ne (by have := h j rfl; omega)), fun z => absurd z (by simp)⟩
theorem T_name {r : Int32} (hR : RT b n s m τ M i) (hB : By b) (hr : r = 30 ∨ r = 31 ∨ r = 32 ∨ r = 36) (H1 : tK b n i = 2 → toT (tC b n i) τ = false → fuT r τ = false → ∀ M', RT b n s m (upN b n i r τ) M' i → RGt m M M' → Q none M') (H2 : tK b n i ≠ 2 → ∀ M', TXr M' 2 (tP b n i) → RGt m M M' → Q none M') (H3 : tK b n i = 2 → toT (tC b n i) τ = true → ∀ M', TXr M' 3 (tP b n i) → RGt m M M' → Q none M') (H6 : tK b n i = 2 → toT (tC b n i) τ = false → fuT r τ = true → ∀ M', TXr M' 6 (tP b n i) → RGt m M M' → Q none M') : E (h + 3) mdX11_readName [.ref 29, .int (rSo r)] M Q := by
  have tk := hR.tk hB
  obtain ⟨⟨F, h1, e1, e2, e3, e4, e5, e6, e7, e8, e9⟩, h2, h3, h4, h5, h6, h7⟩ := id hR
  have hRE : RE b n M m τ.1 τ.2.1 τ.2.2.1 τ.2.2.2.1 := hR.1.2.2
  have bad : ∀ c : Int32, 0 < c → (∀ M', TXr M' c (tP b n i) → RGt m M M' → Q none M') → ∃ b2 : Nat, mR M 29 3 = some b2 ∧ ok M b2 21 ∧ vp_in (mI M 29 5) (mL M b2) ∧ E (h + 2) mdX11_fails [.ref 29, .int c, .int (mAI M b2 ((mI M 29 5) : Int32).toNatClampNeg)] M (fun r M4 => mE M M4 → r = none ∧ Q none M4) := by
    intro c hc K
    rw [h3, lt32 (by omega)]
    exact ⟨32, rf29_3 F, ok32 F, by rw [ln32 F]; exact vp_of (by omega) (by decide), T_fails hR hB hc (fun M' T' F' _ => ⟨rfl, K M' T' F'⟩)⟩
  refine KX11_readName ?_
  unfold DX11_readName_0 DX11_readName_52 DX11_readName_122 DX11_readName_318
  have v33 : vp_in (mI M 29 5) (mL M 33) := by rw [h3, ln33 F]; exact vp_of (by omega) (by decide)
  refine ⟨ok29 F, 33, rf29_4 F, ok33 F, v33, ?_⟩
  have e33 : ((mI M 29 5) : Int32).toNatClampNeg = i := by rw [h3]; exact lt32 (by omega)
  rw [e33]
  refine K_name tk (fun k2 _ => ⟨_, rfl, fun _ => ?_, fun z => absurd z (by decide)⟩) (fun k2 _ => ⟨_, rfl, fun z => absurd rfl z, fun _ => bad 2 (by decide) (H2 k2)⟩)
  have nm := tk.nm k2
  have nS := oi_none (o := fd τ.1 (tC b n i)) (k := 0) (fun j hj => by have := (fd_some hj).1; omega)
  have nV := oi_none (o := fd τ.2.2.2.1 (tC b n i)) (k := 0) (fun j hj => by have := (fd_some hj).1; omega)
  refine R_sigNamed F hRE nm (fun _ => ⟨_, rfl, fun q => ⟨ok29 F, bad 3 (by decide) (H3 k2 ?_)⟩, fun q => ?_⟩)
  · unfold toT
    cases z : fd τ.1 (tC b n i) with
    | none => exact absurd (nS.mpr z) q
    | some j => rfl
  refine R_varNamed F hRE nm (fun _ => ⟨_, rfl, fun q2 => ?_, fun q2 => ⟨ok29 F, bad 3 (by decide) (H3 k2 ?_)⟩⟩)
  · have nt : toT (tC b n i) τ = false := by unfold toT; rw [nS.mp q, nV.mp q2]; rfl
    have nm6 := bad 6 (by decide)
    refine ⟨fun q3 => ?_, fun q3 => ?_⟩
    · have r36 : r ≠ 36 := fun z => q3 (by unfold rSo; rw [if_pos z])
      have hr' : r = 30 ∨ r = 31 ∨ r = 32 := by rcases hr with z | z | z | z <;> first | exact Or.inl z | exact Or.inr (Or.inl z) | exact Or.inr (Or.inr z) | exact absurd z r36
      have es : rSo r = r - 30 := by unfold rSo; rw [if_neg r36]
      have eu : upN b n i r τ = (τ.1 ++ [tC b n i], τ.2.1 ++ [r], τ.2.2.1 ++ [0], τ.2.2.2.1, τ.2.2.2.2) := by unfold upN; rw [if_neg r36]
      obtain ⟨k30, kn3, -⟩ := kn32 r hr'
      have ef : fuT r τ = (decide (16 ≤ τ.1.length) || (decide (r = 30) && decide (4 ≤ (inL τ.2.1).length))) := by unfold fuT; rw [if_neg r36]
      rw [ef] at H1 H6
      rw [e1, lt32 (by omega)]
      refine ⟨34, rf29_8 F, ok34 F, by rw [ln34 F]; exact vp_of e2 (by decide), ?_⟩
      rw [e4, es]
      have z16 := z32 (a := τ.1.length) (k := 16) (by omega) (by decide)
      rw [eu] at H1
      refine ⟨fun q4 => ⟨ok29 F, nm6 (H6 k2 nt ?_)⟩, fun q4 => ⟨fun q5 => ?_, fun q5 => ⟨35, rf29_9 F, ok35 F, by rw [ln35 F]; exact vp_of e2 (by decide), fun q6 => ?_, fun q6 => ⟨ok29 F, nm6 (H6 k2 nt ?_)⟩⟩⟩⟩
      · have : τ.1.length = 16 := z16.mp q4
        simp [this]
      · have n30 : r ≠ 30 := fun z => q5 (k30.mpr z)
        have l16 : τ.1.length < 16 := by have : τ.1.length ≠ 16 := fun z => q4 (z16.mpr z); omega
        refine T_sig hR hB hr' k2 l16 (fun z => absurd z n30) (fun M' R' F' => H1 k2 nt ?_ M' R' F')
        have : ¬ 16 ≤ τ.1.length := by omega
        simp [this, n30]
      · have y30 : r = 30 := k30.mp q5
        have l16 : τ.1.length < 16 := by have : τ.1.length ≠ 16 := fun z => q4 (z16.mpr z); omega
        rw [h5.1] at q6
        have z4 := z32 (a := (inL τ.2.1).length) (k := 4) (by omega) (by decide)
        have l4 : (inL τ.2.1).length < 4 := by have : (inL τ.2.1).length ≠ 4 := fun z => q6 (z4.mpr z); have := h5.2.1; omega
        refine T_sig hR hB hr' k2 l16 (fun _ => l4) (fun M' R' F' => H1 k2 nt ?_ M' R' F')
        have n1 : ¬ 16 ≤ τ.1.length := by omega
        have n2 : ¬ 4 ≤ (inL τ.2.1).length := by omega
        simp [n1, n2]
      · have y30 : r = 30 := k30.mp q5
        rw [h5.1] at q6
        have z4 := (z32 (a := (inL τ.2.1).length) (k := 4) (by omega) (by decide)).mp q6
        simp [y30, z4]
    · have r36 : r = 36 := by
        rcases hr with z | z | z | z
        · rw [z] at q3; exact absurd q3 (by decide)
        · rw [z] at q3; exact absurd q3 (by decide)
        · rw [z] at q3; exact absurd q3 (by decide)
        · exact z
      have es : rSo r = 3 := by unfold rSo; rw [if_pos r36]
      have eu : upN b n i r τ = (τ.1, τ.2.1, τ.2.2.1, τ.2.2.2.1 ++ [tC b n i], τ.2.2.2.2 ++ [0]) := by unfold upN; rw [if_pos r36]
      have ef : fuT r τ = decide (6 ≤ τ.2.2.2.1.length) := by unfold fuT; rw [if_pos r36]
      rw [ef] at H1 H6
      rw [eu] at H1
      rw [e1, lt32 (by omega)]
      refine ⟨36, rf29_10 F, ok36 F, by rw [ln36 F]; exact vp_of e2 (by decide), ?_⟩
      rw [e5, es]
      have z6 := z32 (a := τ.2.2.2.1.length) (k := 6) (by omega) (by decide)
      refine ⟨fun q4 => ?_, fun q4 => ⟨ok29 F, nm6 (H6 k2 nt ?_)⟩⟩
      · have l6 : τ.2.2.2.1.length < 6 := by have : τ.2.2.2.1.length ≠ 6 := fun z => q4 (z6.mpr z); omega
        have n6 : ¬ 6 ≤ τ.2.2.2.1.length := by omega
        exact T_var hR hB k2 l6 (fun M' R' F' => H1 k2 nt (decide_eq_false n6) M' R' F')
      · have : τ.2.2.2.1.length = 6 := z6.mp q4
        simp [this]
  · unfold toT
    cases z : fd τ.2.2.2.1 (tC b n i) with
    | none => exact absurd (nV.mpr z) q2
    | some j => simp
/-- ONE, SUM or MOST behind a colon -/
def EndH (b : Nat → Int32) (n s m : Nat) (τ : Td) (M : Mem) (Q : Option Value → Mem → Prop) (R : Except (Int32 × Nat) (Nat × Int32)) : Prop := match R with
  | .ok r => ∀ M', RT b n s m (τ.1, τ.2.1, τ.2.2.1.dropLast ++ [r.2], τ.2.2.2.1, τ.2.2.2.2) M' r.1 → RGt m M M' → Q none M'
  | .error e => ∀ M', TXr M' e.1 e.2 → RGt m M M' → Q none M'
theorem dropLast_snoc {α : Type} {l : List α} {x : α} : (l ++ [x]).dropLast = l := by simp
theorem hw32 : ∀ v : Int32, v = 33 ∨ v = 34 ∨ v = 35 → v ≠ 0 ∧ v ≠ 32 ∧ v - 32 ≠ 0 := by rintro v (rfl | rfl | rfl) <;> decide
theorem T_how75 {v : Int32} {mx0 : List Int32} (hm : τ.2.2.1 = mx0 ++ [0]) (hR : RT b n s m τ M i) (hB : By b) (hs : i < s) (hv : v = 33 ∨ v = 34 ∨ v = 35) (H1 : tK b n (i + 1) ≠ 0 → ∀ M', RT b n s m (τ.1, τ.2.1, mx0 ++ [v], τ.2.2.2.1, τ.2.2.2.2) M' (i + 1) → RGt m M M' → Q none M') (H0 : tK b n (i + 1) = 0 → ∀ M', TXr M' 1 (tP b n (i + 1)) → RGt m M M' → Q none M') : DX11_readHow_75 (h + 2) 29 (v - 32) M Q := by
  obtain ⟨⟨F, h1, e1, e2, e3, e4, e5, e6, e7, e8, e9⟩, h2, h3, h4, h5, h6, h7⟩ := id hR
  obtain ⟨v0, v32, vne⟩ := hw32 v hv
  unfold DX11_readHow_75 DX11_readHow_126
  have hlen : τ.1.length = mx0.length + 1 := by rw [← e3.2.2.1, hm, List.length_append]; rfl
  have ek : (16 : Int32) * Int32.ofNat m + Int32.ofNat τ.1.length - 1 = Int32.ofNat (16 * m + mx0.length) := by
    rw [show (16 : Int32) = Int32.ofNat 16 from rfl, mul32, add32, hlen]
    exact dec32 (a := 16 * m + mx0.length) (by omega)
  refine ⟨fun _ => ?_, fun z => absurd z vne⟩
  rw [e1, lt32 (by omega)]
  refine ⟨ok29 F, 39, rf29_13 F, 34, rf29_8 F, ok34 F, by rw [ln34 F]; exact vp_of e2 (by decide), ok39 F, ?_⟩
  rw [e4, ek, lt32 (by omega)]
  refine ⟨by rw [ln39 F]; exact vp_of (by omega) (by decide), fun A a => ?_⟩
  have fA : RGt m M A := by rw [a]; exact RG.ai (by decide) (by rw [show szA 39 = 16 by decide]; omega)
  have rA : ∀ q, q ≠ 39 → mAI A q = mAI M q := fun q hq => by rw [a]; exact mAI_wAI_ne hq
  have RA : RT b n s m (τ.1, τ.2.1, mx0 ++ [v], τ.2.2.2.1, τ.2.2.2.2) A i := by
    refine ⟨⟨fA.fix F (by decide), fun j hj => ?_, by rw [a]; exact e1, e2, ⟨e3.1, e3.2.1, by show (mx0 ++ [v]).length = _; rw [List.length_append, hlen]; rfl, e3.2.2.2⟩, by rw [rA 34 (by decide)]; exact e4, by rw [rA 36 (by decide)]; exact e5, by rw [a]; exact e6, by rw [rA 38 (by decide)]; exact e7, fun k hk => ?_, by rw [a]; exact e9⟩, h2, by rw [a]; exact h3, by rw [a]; exact h4, ?_, ⟨h6.1, by rw [a]; exact h6.2⟩, by rw [rA 40 (by decide)]; exact h7⟩
    · obtain ⟨r1, r2, r3⟩ := h1 j hj
      exact ⟨by rw [fA.fA (by decide)]; exact r1, by rw [fA.fA (by decide)]; exact r2, by rw [fA.fJ (by decide)]; exact r3⟩
    · have hk : k < τ.1.length := hk
      show mAI A 39 (16 * m + k) = (if (mx0 ++ [v]).getD k 0 = 0 then 0 else (mx0 ++ [v]).getD k 0 - 32) ∧ (mx0 ++ [v]).getD k 0 ≠ 32
      rw [getD_app (by omega), a, mAI_wAI]
      by_cases z : k = mx0.length
      · rw [if_pos ⟨rfl, by omega⟩, if_pos z, if_neg v0]; exact ⟨rfl, v32⟩
      · rw [if_neg (by rintro ⟨-, y⟩; omega), if_neg z]
        have := e8 k hk
        rw [hm, getD_app (by omega), if_neg z] at this
        exact this
    · exact ⟨by rw [rA 35 (by decide)]; exact h5.1, h5.2.1, fun j hj => by rw [rA 41 (by decide)]; exact h5.2.2 j hj⟩
  exact T_take RA hB hs (fun k1 M' R' F' _ => ⟨rfl, H1 k1 M' R' (fA.tr F')⟩) (fun k1 M' T' F' _ => ⟨rfl, H0 k1 M' T' (fA.tr F')⟩)
theorem RT.eta (hR : RT b n s m τ M i) : RT b n s m (τ.1, τ.2.1, τ.2.2.1, τ.2.2.2.1, τ.2.2.2.2) M i := hR
theorem T_how {mx0 : List Int32} (hm : τ.2.2.1 = mx0 ++ [0]) (hR : RT b n s m τ M i) (hB : By b) (hS : Sto b n s) (h0 : tK b n i ≠ 0) (hE : EndH b n s m τ M Q (tdH b n i)) : E (h + 3) mdX11_readHow [.ref 29] M Q := by
  have tk := hR.tk hB
  have F := hR.1.1
  have hd : τ.2.2.1.dropLast = mx0 := by rw [hm]; exact dropLast_snoc
  unfold tdH at hE
  refine KX11_readHow ?_
  unfold DX11_readHow_0 DX11_readHow_126
  refine ⟨ok29 F, fun z => absurd hR.2.2.2.1 z, fun _ => K_sign tk (k := 4) (by decide) rfl (fun q _ => ⟨_, rfl, fun z => absurd z (by decide), fun _ => ?_⟩) (fun q _ => ⟨_, rfl, fun _ => ?_, fun z => absurd rfl z⟩)⟩
  · rw [if_pos q] at hE
    have hs := hS.lt hR.2.1.2.2 h0 (by rw [q]; decide)
    refine T_take hR hB hs (fun k1 M1 R1 F1 _ => ⟨rfl, fun z => absurd R1.2.2.2.1 z, fun _ => ?_⟩) (fun k1 M1 T1 F1 _ => ⟨rfl, fun _ => ?_, fun z => ?_⟩)
    · rw [adv_ok' k1] at hE
      have hE : EndH b n s m τ M Q (if tK b n (i + 1) = 33 ∨ tK b n (i + 1) = 34 ∨ tK b n (i + 1) = 35 then (adv' b n (i + 1)).bind fun l => .ok (l, tK b n (i + 1)) else .error (2, tP b n (i + 1))) := hE
      have tk1 := R1.tk hB
      have good : ∀ v : Int32, tK b n (i + 1) = v → (v = 33 ∨ v = 34 ∨ v = 35) → DX11_readHow_75 (h + 2) 29 (v - 32) M1 Q := by
        intro v ev hv
        rw [ev, if_pos hv] at hE
        have hs1 := hS.lt hs k1 (by rw [ev]; rcases hv with z | z | z <;> (rw [z]; decide))
        refine T_how75 hm R1 hB hs1 hv (fun k2 M' R' F' => ?_) (fun k2 M' T' F' => ?_)
        · rw [adv_ok' k2] at hE
          refine hE M' ?_ (F1.tr F')
          rw [hd]; exact R'
        · rw [adv_er' k2] at hE
          exact hE M' T' (F1.tr F')
      refine K_key tk1 (j := 3) (k := 33) (by decide) rfl rfl (fun q3 _ => ⟨_, rfl, fun z => absurd z (by decide), fun _ => good 33 q3 (Or.inl rfl)⟩) (fun q3 _ => ⟨_, rfl, fun _ => ?_, fun z => absurd rfl z⟩)
      refine K_key tk1 (j := 4) (k := 34) (by decide) rfl rfl (fun q4 _ => ⟨_, rfl, fun z => absurd z (by decide), fun _ => good 34 q4 (Or.inr (Or.inl rfl))⟩) (fun q4 _ => ⟨_, rfl, fun _ => ?_, fun z => absurd rfl z⟩)
      refine K_key tk1 (j := 5) (k := 35) (by decide) rfl rfl (fun q5 _ => ⟨_, rfl, fun z => absurd z (by decide), fun _ => good 35 q5 (Or.inr (Or.inr rfl))⟩) (fun q5 _ => ⟨_, rfl, fun _ => ?_, fun z => absurd rfl z⟩)
      rw [if_neg (by rintro (z | z | z) <;> first | exact q3 z | exact q4 z | exact q5 z)] at hE
      have F1' := R1.1.1
      unfold DX11_readHow_75 DX11_readHow_126
      refine ⟨fun z => absurd rfl z, fun _ => ?_⟩
      rw [R1.2.2.1, lt32 (by have := R1.2.1; omega)]
      exact ⟨ok29 F1', 32, rf29_3 F1', ok32 F1', by rw [ln32 F1']; exact vp_of (by have := R1.2.1; omega) (by decide), T_fails R1 hB (by decide) (fun M' T' F' _ => ⟨rfl, hE M' T' (F1.tr F')⟩)⟩
    · rw [adv_er' k1] at hE
      exact hE M1 T1 F1
    · rw [T1.2.1] at z; exact absurd z (by decide)
  · rw [if_neg q] at hE
    refine hE M ?_ RG.rf
    rw [hd, ← hm]; exact hR
/-- the first number of a variable -/
def EndV (b : Nat → Int32) (n s m : Nat) (τ : Td) (M : Mem) (Q : Option Value → Mem → Prop) (R : Except (Int32 × Nat) (Nat × Int64)) : Prop := match R with
  | .ok r => ∀ M', RT b n s m (τ.1, τ.2.1, τ.2.2.1, τ.2.2.2.1, τ.2.2.2.2.dropLast ++ [r.2]) M' r.1 → RGt m M M' → Q none M'
  | .error e => ∀ M', TXr M' e.1 e.2 → RGt m M M' → Q none M'
theorem X_first {f : Int32} {p : Nat} {x1 : Int64} (hT : TXr M f p) (H : Q none M) : DX11_readFirst_36 h 29 x1 M Q := by
  unfold DX11_readFirst_36 DX11_readFirst_112
  have n0 : ¬ mI M 29 6 = 0 := by rw [hT.2.1]; intro z; have := hT.2.2.1; rw [z] at this; exact absurd this (by decide)
  exact ⟨ok29 hT.1, fun _ => H, fun z => absurd z n0⟩
theorem T_first36 {vB0 : List Int64} {x1 v : Int64} (hm : τ.2.2.2.2 = vB0 ++ [0]) (hR : RT b n s m τ M i) (hB : By b) (hS : Sto b n s) (h0 : tK b n i ≠ 0) (hx : tK b n i = 3 → x1 * tC b n i = v) (H1 : tK b n i = 3 → tK b n (i + 1) ≠ 0 → ∀ M', RT b n s m (τ.1, τ.2.1, τ.2.2.1, τ.2.2.2.1, vB0 ++ [v]) M' (i + 1) → RGt m M M' → Q none M') (H0 : tK b n i = 3 → tK b n (i + 1) = 0 → ∀ M', TXr M' 1 (tP b n (i + 1)) → RGt m M M' → Q none M') (H2 : tK b n i ≠ 3 → ∀ M', TXr M' 2 (tP b n i) → RGt m M M' → Q none M') : DX11_readFirst_36 (h + 2) 29 x1 M Q := by
  have tk := hR.tk hB
  obtain ⟨⟨F, h1, e1, e2, e3, e4, e5, e6, e7, e8, e9⟩, h2, h3, h4, h5, h6, h7⟩ := id hR
  obtain ⟨-, -, ⟨r1, r2, r3⟩, -, h8⟩ := id tk
  have en := said_num (b := b) (n := n) (p := tP b n i) hB
  have hlen : τ.2.2.2.1.length = vB0.length + 1 := by rw [← h6.1, hm, List.length_append]; rfl
  have ek : (6 : Int32) * Int32.ofNat m + Int32.ofNat τ.2.2.2.1.length - 1 = Int32.ofNat (6 * m + vB0.length) := by
    rw [show (6 : Int32) = Int32.ofNat 6 from rfl, mul32, add32, hlen]
    exact dec32 (a := 6 * m + vB0.length) (by omega)
  unfold DX11_readFirst_36 DX11_readFirst_112
  rw [h3, lt32 (by omega)]
  refine ⟨ok29 F, fun z => absurd h4 z, fun _ => ⟨31, rf29_2 F, ok31 F, by rw [ln31 F]; exact vp_of h8 (by decide), fun q => ?_, fun q => ?_⟩⟩
  · rw [r1] at q
    exact ⟨32, rf29_3 F, ok32 F, by rw [ln32 F]; exact vp_of h8 (by decide), T_fails hR hB (by decide) (fun M' T' F' _ => ⟨rfl, H2 (fun z => q (en.mpr z)) M' T' F'⟩)⟩
  · rw [r1] at q
    have k3 : tK b n i = 3 := en.mp q
    have hs := hS.lt h2.2.2 h0 (by rw [k3]; decide)
    obtain ⟨-, -, x, hxx, ex, ev⟩ := num_val2 hB k3
    have e33 : mAJ M 33 i = tC b n i := by rw [r3, ev]; exact ex.symm
    rw [e1, lt32 (by omega)]
    refine ⟨43, rf29_17 F, 36, rf29_10 F, ok36 F, by rw [ln36 F]; exact vp_of e2 (by decide), 33, rf29_4 F, ok33 F, by rw [ln33 F]; exact vp_of h8 (by decide), ok43 F, ?_⟩
    rw [e5, ek, lt32 (by omega), e33, hx k3]
    refine ⟨by rw [ln43 F]; exact vp_of (by omega) (by decide), fun A a => ?_⟩
    have fA : RGt m M A := by rw [a]; exact RG.aj (by decide) (by rw [show szA 43 = 6 by decide]; omega)
    have rJ : ∀ q, q ≠ 43 → mAJ A q = mAJ M q := fun q hq => by rw [a]; exact up2_row hq
    have RA : RT b n s m (τ.1, τ.2.1, τ.2.2.1, τ.2.2.2.1, vB0 ++ [v]) A i := by
      refine ⟨⟨fA.fix F (by decide), fun j hj => ?_, by rw [a]; exact e1, e2, e3, by rw [a]; exact e4, by rw [a]; exact e5, by rw [rJ 37 (by decide)]; exact e6, by rw [a]; exact e7, by rw [a]; exact e8, by rw [rJ 42 (by decide)]; exact e9⟩, h2, by rw [a]; exact h3, by rw [a]; exact h4, by rw [a]; exact h5, ⟨by show (vB0 ++ [v]).length = τ.2.2.2.1.length; rw [List.length_append, hlen]; rfl, fun k hk => ?_⟩, by rw [a]; exact h7⟩
      · obtain ⟨q1, q2, q3⟩ := h1 j hj
        exact ⟨by rw [fA.fA (by decide)]; exact q1, by rw [fA.fA (by decide)]; exact q2, by rw [fA.fJ (by decide)]; exact q3⟩
      · have hk : k < τ.2.2.2.1.length := hk
        show mAJ A 43 (6 * m + k) = (vB0 ++ [v]).getD k 0
        rw [getD_a64 (by omega), a, mAJ_wAJ]
        by_cases z : k = vB0.length
        · rw [if_pos ⟨rfl, by omega⟩, if_pos z]
        · rw [if_neg (by rintro ⟨-, y⟩; omega), if_neg z]
          have := h6.2 k hk
          rw [hm, getD_a64 (by omega), if_neg z] at this
          exact this
    exact T_take RA hB hs (fun k1 M' R' F' _ => ⟨rfl, H1 k3 k1 M' R' (fA.tr F')⟩) (fun k1 M' T' F' _ => ⟨rfl, H0 k3 k1 M' T' (fA.tr F')⟩)
theorem T_first {vB0 : List Int64} (hm : τ.2.2.2.2 = vB0 ++ [0]) (hR : RT b n s m τ M i) (hB : By b) (hS : Sto b n s) (h0 : tK b n i ≠ 0) (hE : EndV b n s m τ M Q (tdV b n i)) : E (h + 4) mdX11_readFirst [.ref 29] M Q := by
  have F := hR.1.1
  have hd : τ.2.2.2.2.dropLast = vB0 := by rw [hm]; exact dropLast_snoc
  unfold tdV at hE
  refine KX11_readFirst ?_
  unfold DX11_readFirst_0
  refine ⟨ok29 F, T_want hR hB hS h0 (k := 5) (by decide) rfl ?_⟩
  unfold ex at hE ⊢
  by_cases q5 : tK b n i = 5
  · rw [if_pos q5] at hE ⊢
    have hs := hS.lt hR.2.1.2.2 h0 (by rw [q5]; decide)
    by_cases k1 : tK b n (i + 1) = 0
    · rw [adv_er' k1] at hE ⊢
      exact fun M1 T1 F1 _ => ⟨rfl, fun _ => X_first T1 (hE M1 T1 F1), fun z => absurd (T1.2.1.symm.trans z) (by show ¬ (1 : Int32) = 0; decide)⟩
    · rw [adv_ok' k1] at hE ⊢
      have hE : EndV b n s m τ M Q (if tK b n (i + 1) = 21 then (adv' b n (i + 1)).bind fun l => if tK b n l = 3 then (adv' b n l).bind fun p => .ok (p, -(tC b n l)) else .error (2, tP b n l) else if tK b n (i + 1) = 3 then (adv' b n (i + 1)).bind fun p => .ok (p, tC b n (i + 1)) else .error (2, tP b n (i + 1))) := hE
      intro M1 R1 F1
      have tk1 := R1.tk hB
      refine fun _ => ⟨rfl, fun z => absurd R1.2.2.2.1 z, fun _ => K_sign tk1 (k := 21) (by decide) rfl (fun q _ => ⟨_, rfl, fun z => absurd z (by decide), fun _ => ?_⟩) (fun q _ => ⟨_, rfl, fun _ => ?_, fun z => absurd rfl z⟩)⟩
      · rw [if_pos q] at hE
        have hs1 := hS.lt hs k1 (by rw [q]; decide)
        refine T_take (h := h + 1) R1 hB hs1 (fun k2 M2 R2 F2 _ => ⟨rfl, ?_⟩) (fun k2 M2 T2 F2 _ => ⟨rfl, ?_⟩)
        · rw [adv_ok' k2] at hE
          have hE : EndV b n s m τ M Q (if tK b n (i + 1 + 1) = 3 then (adv' b n (i + 1 + 1)).bind fun p => .ok (p, -(tC b n (i + 1 + 1))) else .error (2, tP b n (i + 1 + 1))) := hE
          refine T_first36 (h := h + 1) (v := -(tC b n (i + 1 + 1))) hm R2 hB hS k2 (fun _ => by rw [Int64.neg_mul, Int64.one_mul]) (fun k3 k4 M' R' F' => ?_) (fun k3 k4 M' T' F' => ?_) (fun k3 M' T' F' => ?_)
          · rw [if_pos k3, adv_ok' k4] at hE
            refine hE M' ?_ ((F1.tr F2).tr F')
            rw [hd]; exact R'
          · rw [if_pos k3, adv_er' k4] at hE
            exact hE M' T' ((F1.tr F2).tr F')
          · rw [if_neg k3] at hE
            exact hE M' T' ((F1.tr F2).tr F')
        · rw [adv_er' k2] at hE
          exact X_first T2 (hE M2 T2 (F1.tr F2))
      · rw [if_neg q] at hE
        refine T_first36 (h := h + 1) (v := tC b n (i + 1)) hm R1 hB hS k1 (fun _ => Int64.one_mul _) (fun k3 k4 M' R' F' => ?_) (fun k3 k4 M' T' F' => ?_) (fun k3 M' T' F' => ?_)
        · rw [if_pos k3, adv_ok' k4] at hE
          refine hE M' ?_ (F1.tr F')
          rw [hd]; exact R'
        · rw [if_pos k3, adv_er' k4] at hE
          exact hE M' T' (F1.tr F')
        · rw [if_neg k3] at hE
          exact hE M' T' (F1.tr F')
  · rw [if_neg q5] at hE ⊢
    exact fun M1 T1 F1 _ => ⟨rfl, fun _ => X_first T1 (hE M1 T1 F1), fun z => absurd (T1.2.1.symm.trans z) (by show ¬ (2 : Int32) = 0; decide)⟩
end
end
section
/-! the reference reads all that the text tells -/
section
variable {b : Nat → Int32} {n s m : Nat} {h : Nat} {Q : Option Value → Mem → Prop}
def EndT (b : Nat → Int32) (n s m : Nat) (M : Mem) (Q : Option Value → Mem → Prop) (R : Except (Int32 × Nat) (Nat × Td)) : Prop := match R with
  | .ok r => ∀ M', RT b n s m r.2 M' r.1 → tK b n r.1 ≠ 0 → RGt m M M' → Q none M'
  | .error e => ∀ M', TXr M' e.1 e.2 → RGt m M M' → Q none M'
theorem EndT.fr {M M1 : Mem} {R : Except (Int32 × Nat) (Nat × Td)} (hE : EndT b n s m M Q R) (F : RGt m M M1) : EndT b n s m M1 Q R := by
  cases R with
  | error e => exact fun M' T' F' => hE M' T' (F.tr F')
  | ok r => exact fun M' R' k' F' => hE M' R' k' (F.tr F')
theorem TXr.n0 {M : Mem} {f : Int32} {p : Nat} (hT : TXr M f p) : ¬ mI M 29 6 = 0 := by rw [hT.2.1]; intro z; have := hT.2.2.1; rw [z] at this; exact absurd this (by decide)
theorem X_toldL {M : Mem} {f : Int32} {p : Nat} {x : Int32} (hT : TXr M f p) (H : Q none M) : T (h + 1) mdX11_readTold 2 [(0, .ref 29), (1, .int x)] [] M Q := by
  refine VX11_readTold_2 ?_
  unfold DX11_readTold_2 DX11_readTold_144
  exact ⟨fun _ => H, fun _ => ⟨ok29 hT.1, fun _ => H, fun z => absurd z hT.n0⟩⟩
theorem X_told133 {M : Mem} {f : Int32} {p : Nat} {x : Int32} (hT : TXr M f p) (H : Q none M) : DX11_readTold_133 (h + 1) 29 x M Q := by
  unfold DX11_readTold_133 DX11_readTold_141
  exact ⟨ok29 hT.1, X_want hT (fun _ => ⟨rfl, X_toldL hT H⟩)⟩
theorem ex_lt {b : Nat → Int32} {n s i : Nat} {c : Int32} (hS : Sto b n s) (hi : i ≤ s) (h0 : tK b n i ≠ 0) (hc : c ≠ 1) : match ex b n i c with
  | .error e => e.1 ≠ 0
  | .ok j => j = i + 1 ∧ j ≤ s ∧ tK b n j ≠ 0 := by
  unfold ex
  by_cases q : tK b n i = c
  · rw [if_pos q]; exact adv_ok1 (hS.lt hi h0 (by rw [q]; exact hc))
  · rw [if_neg q]; show (2 : Int32) ≠ 0; decide
theorem tdH_ok {b : Nat → Int32} {n s i : Nat} (hS : Sto b n s) (hi : i ≤ s) (h0 : tK b n i ≠ 0) : StOk b n s i (fun _ v => v ≠ 32) (tdH b n i) := by
  unfold tdH
  split
  · rename_i q
    have hs := hS.lt hi h0 (by rw [q]; decide)
    rcases adv_cases (b := b) (n := n) (i := i) with ⟨k1, e⟩ | ⟨k1, e⟩ <;> rw [e]
    · show (1 : Int32) ≠ 0; decide
    · show StOk b n s i _ (if tK b n (i + 1) = 33 ∨ tK b n (i + 1) = 34 ∨ tK b n (i + 1) = 35 then (adv' b n (i + 1)).bind fun l => .ok (l, tK b n (i + 1)) else .error (2, tP b n (i + 1)))
      split
      · rename_i q2
        have hs1 := hS.lt hs k1 (by rcases q2 with z | z | z <;> (rw [z]; decide))
        rcases adv_cases (b := b) (n := n) (i := i + 1) with ⟨k2, e2⟩ | ⟨k2, e2⟩ <;> rw [e2]
        · show (1 : Int32) ≠ 0; decide
        · exact ⟨by show i ≤ i + 1 + 1; omega, hs1, k2, by rcases q2 with z | z | z <;> (show tK b n (i + 1) ≠ 32; rw [z]; decide)⟩
      · show (2 : Int32) ≠ 0; decide
  · exact ⟨Nat.le_refl _, hi, h0, by show (0 : Int32) ≠ 32; decide⟩
theorem tdV_ok {b : Nat → Int32} {n s i : Nat} (hS : Sto b n s) (hi : i ≤ s) (h0 : tK b n i ≠ 0) : StOk b n s i (fun _ _ => True) (tdV b n i) := by
  unfold tdV
  have hx := ex_lt (c := 5) hS hi h0 (by decide)
  generalize ex b n i 5 = R at hx
  cases R with
  | error e => exact hx
  | ok k =>
    obtain ⟨k1, k2, k3⟩ := hx
    show StOk b n s i _ (if tK b n k = 21 then (adv' b n k).bind fun l => if tK b n l = 3 then (adv' b n l).bind fun p => .ok (p, -(tC b n l)) else .error (2, tP b n l) else if tK b n k = 3 then (adv' b n k).bind fun p => .ok (p, tC b n k) else .error (2, tP b n k))
    split
    · rename_i q
      have hs := hS.lt k2 k3 (by rw [q]; decide)
      rcases adv_cases (b := b) (n := n) (i := k) with ⟨j1, e⟩ | ⟨j1, e⟩ <;> rw [e]
      · show (1 : Int32) ≠ 0; decide
      · show StOk b n s i _ (if tK b n (k + 1) = 3 then (adv' b n (k + 1)).bind fun p => .ok (p, -(tC b n (k + 1))) else .error (2, tP b n (k + 1)))
        split
        · rename_i q2
          have hs1 := hS.lt hs j1 (by rw [q2]; decide)
          rcases adv_cases (b := b) (n := n) (i := k + 1) with ⟨j2, e2⟩ | ⟨j2, e2⟩ <;> rw [e2]
          · show (1 : Int32) ≠ 0; decide
          · exact ⟨by show i ≤ k + 1 + 1; omega, hs1, j2, trivial⟩
        · show (2 : Int32) ≠ 0; decide
    · split
      · rename_i q
        have hs := hS.lt k2 k3 (by rw [q]; decide)
        rcases adv_cases (b := b) (n := n) (i := k) with ⟨j1, e⟩ | ⟨j1, e⟩ <;> rw [e]
        · show (1 : Int32) ≠ 0; decide
        · exact ⟨by show i ≤ k + 1; omega, hs, j1, trivial⟩
      · show (2 : Int32) ≠ 0; decide
theorem so_lt : ∀ r : Int32, r = 30 ∨ r = 31 ∨ r = 32 ∨ r = 36 → (¬ (4 : Int32) ≤ rSo r) ∧ (((3 : Int32) ≤ rSo r) ↔ r = 36) := by rintro r (rfl | rfl | rfl | rfl) <;> decide
/-- one that is told: from its first token on -/
theorem T_one {M : Mem} {i : Nat} {τ : Td} {r : Int32} {g : Nat} (hB : By b) (hS : Sto b n s) (hR : RT b n s m τ M i) (hr : r = 30 ∨ r = 31 ∨ r = 32 ∨ r = 36) (hk : tK b n i = r) (hT : ∀ M' j τ', RT b n s m τ' M' j → tK b n j ≠ 0 → i < j → RGt m M M' → EndT b n s m M' Q (td b n g j τ') → T (h + 6) mdX11_readTold 2 [(0, .ref 29), (1, .int 1)] [] M' Q) (hE : EndT b n s m M Q (td b n (g + 1) i τ)) : DX11_readTold_74 (h + 5) 29 (rSo r) M Q := by
  have F := hR.1.1
  have h0 : tK b n i ≠ 0 := by rw [hk]; rcases hr with z | z | z | z <;> (rw [z]; decide)
  have hs := hS.lt hR.2.1.2.2 h0 (by rw [hk]; rcases hr with z | z | z | z <;> (rw [z]; decide))
  obtain ⟨s4, s3⟩ := so_lt r hr
  have bad : ∀ (M1 : Mem) (f : Int32) (p : Nat), TXr M1 f p → RGt m M M1 → Q none M1 → DX11_readTold_106 (h + 5) 29 1 (rSo r) M1 Q := by
    intro M1 f p T1 F1 K
    unfold DX11_readTold_106
    exact ⟨ok29 T1.1, fun _ => X_told133 (h := h + 4) T1 K, fun z => absurd z T1.n0⟩
  -- behind the reading of what follows the name
  have semi : ∀ (M1 : Mem) (j : Nat) (τ' : Td), RT b n s m τ' M1 j → tK b n j ≠ 0 → i < j → RGt m M M1 → (match ex b n j 13 with | .ok l => EndT b n s m M Q (td b n g l τ') | .error e => EndT b n s m M Q (.error e)) → DX11_readTold_133 (h + 5) 29 1 M1 Q := by
    intro M1 j τ' R1 k1 hj F1 K
    unfold DX11_readTold_133 DX11_readTold_141
    refine ⟨ok29 R1.1.1, T_want (h := h + 2) R1 hB hS k1 (k := 13) (by decide) rfl ?_⟩
    have hx := ex_lt (c := 13) hS R1.2.1.2.2 k1 (by decide)
    generalize ex b n j 13 = R at K hx
    cases R with
    | error e => exact fun M2 T2 F2 _ => ⟨rfl, X_toldL (h := h + 5) T2 (K M2 T2 (F1.tr F2))⟩
    | ok l => exact fun M2 R2 F2 _ => ⟨rfl, hT M2 l τ' R2 hx.2.2 (by omega) (F1.tr F2) (EndT.fr K (F1.tr F2))⟩
  unfold DX11_readTold_74 DX11_readTold_85
  refine ⟨fun z => absurd z s4, fun _ => ⟨fun z => absurd z (by decide), fun _ => ⟨ok29 F, ?_⟩⟩⟩
  refine T_take (h := h + 3) hR hB hs (fun k1 M1 R1 F1 _ => ⟨rfl, fun z => absurd R1.2.2.2.1 z, fun _ => ?_⟩) (fun k1 M1 T1 F1 _ => ⟨rfl, fun _ => bad M1 1 _ T1 F1 ?_, fun z => absurd z T1.n0⟩)
  · -- what td says, at the name
    have hE2 : EndT b n s m M Q ((tdX b n (i + 1) r τ).bind fun k => if r = 36 then (tdV b n k).bind fun q => (ex b n q.1 13).bind fun l => td b n g l (τ.1, τ.2.1, τ.2.2.1, τ.2.2.2.1 ++ [tC b n (i + 1)], τ.2.2.2.2 ++ [q.2]) else (tdH b n k).bind fun q => (ex b n q.1 13).bind fun l => td b n g l (τ.1 ++ [tC b n (i + 1)], τ.2.1 ++ [r], τ.2.2.1 ++ [q.2], τ.2.2.2.1, τ.2.2.2.2)) := by
      unfold td at hE
      rw [hk, adv_ok' k1] at hE
      by_cases z : r = 36
      · rw [if_pos z] at hE
        have e : (fun k => if r = 36 then (tdV b n k).bind fun q => (ex b n q.1 13).bind fun l => td b n g l (τ.1, τ.2.1, τ.2.2.1, τ.2.2.2.1 ++ [tC b n (i + 1)], τ.2.2.2.2 ++ [q.2]) else (tdH b n k).bind fun q => (ex b n q.1 13).bind fun l => td b n g l (τ.1 ++ [tC b n (i + 1)], τ.2.1 ++ [r], τ.2.2.1 ++ [q.2], τ.2.2.2.1, τ.2.2.2.2)) = (fun k => (tdV b n k).bind fun q => (ex b n q.1 13).bind fun l => td b n g l (τ.1, τ.2.1, τ.2.2.1, τ.2.2.2.1 ++ [tC b n (i + 1)], τ.2.2.2.2 ++ [q.2])) := by funext k; rw [if_pos z]
        rw [e, z]
        exact hE
      · have z2 : r = 30 ∨ r = 31 ∨ r = 32 := by rcases hr with y | y | y | y <;> first | exact Or.inl y | exact Or.inr (Or.inl y) | exact Or.inr (Or.inr y) | exact absurd y z
        rw [if_neg z, if_pos z2] at hE
        have e : (fun k => if r = 36 then (tdV b n k).bind fun q => (ex b n q.1 13).bind fun l => td b n g l (τ.1, τ.2.1, τ.2.2.1, τ.2.2.2.1 ++ [tC b n (i + 1)], τ.2.2.2.2 ++ [q.2]) else (tdH b n k).bind fun q => (ex b n q.1 13).bind fun l => td b n g l (τ.1 ++ [tC b n (i + 1)], τ.2.1 ++ [r], τ.2.2.1 ++ [q.2], τ.2.2.2.1, τ.2.2.2.2)) = (fun k => (tdH b n k).bind fun q => (ex b n q.1 13).bind fun l => td b n g l (τ.1 ++ [tC b n (i + 1)], τ.2.1 ++ [r], τ.2.2.1 ++ [q.2], τ.2.2.2.1, τ.2.2.2.2)) := by funext k; rw [if_neg z]
        rw [e]
        exact hE
    clear hE
    unfold tdX at hE2
    refine T_name (h := h + 2) R1 hB hr (fun q2 q3 q6 M2 R2 F2 => ?_) (fun q2 M2 T2 F2 _ => ⟨rfl, bad M2 2 _ T2 (F1.tr F2) ?_⟩) (fun q2 q3 M2 T2 F2 _ => ⟨rfl, bad M2 3 _ T2 (F1.tr F2) ?_⟩) (fun q2 q3 q6 M2 T2 F2 _ => ⟨rfl, bad M2 6 _ T2 (F1.tr F2) ?_⟩)
    · rw [if_pos q2, if_neg (by rw [q3]; decide), if_neg (by rw [q6]; decide)] at hE2
      have hs1 := hS.lt hs k1 (by rw [q2]; decide)
      refine fun _ => ⟨rfl, ?_⟩
      unfold DX11_readTold_106
      refine ⟨ok29 R2.1.1, fun z => absurd R2.2.2.2.1 z, fun _ => ?_⟩
      refine T_take (h := h + 3) R2 hB hs1 (fun k2 M3 R3 F3 _ => ⟨rfl, fun z => ?_, fun z => ?_⟩) (fun k2 M3 T3 F3 _ => ⟨rfl, fun z => ?_, fun z => ?_⟩)
      · have y : r = 36 := s3.mp z
        rw [adv_ok' k2] at hE2
        have hE3 : EndT b n s m M Q (if r = 36 then (tdV b n (i + 1 + 1)).bind fun q => (ex b n q.1 13).bind fun l => td b n g l (τ.1, τ.2.1, τ.2.2.1, τ.2.2.2.1 ++ [tC b n (i + 1)], τ.2.2.2.2 ++ [q.2]) else (tdH b n (i + 1 + 1)).bind fun q => (ex b n q.1 13).bind fun l => td b n g l (τ.1 ++ [tC b n (i + 1)], τ.2.1 ++ [r], τ.2.2.1 ++ [q.2], τ.2.2.2.1, τ.2.2.2.2)) := hE2
        rw [if_pos y] at hE3
        have eu : upN b n (i + 1) r τ = (τ.1, τ.2.1, τ.2.2.1, τ.2.2.2.1 ++ [tC b n (i + 1)], τ.2.2.2.2 ++ [0]) := by unfold upN; rw [if_pos y]
        rw [eu] at R3
        refine T_first (h := h + 1) (vB0 := τ.2.2.2.2) rfl R3 hB hS k2 ?_
        have hok := tdV_ok hS hs1 k2
        generalize tdV b n (i + 1 + 1) = R at hE3 hok
        cases R with
        | error e => exact fun M4 T4 F4 _ => ⟨rfl, X_told133 (h := h + 4) T4 (hE3 M4 T4 (((F1.tr F2).tr F3).tr F4))⟩
        | ok q =>
          intro M4 R4 F4
          refine fun _ => ⟨rfl, semi M4 q.1 _ R4 hok.2.2.1 (by have := hok.1; omega) (((F1.tr F2).tr F3).tr F4) ?_⟩
          have ed : (τ.2.2.2.2 ++ [(0 : Int64)]).dropLast = τ.2.2.2.2 := dropLast_snoc
          have hE3 : EndT b n s m M Q ((ex b n q.1 13).bind fun l => td b n g l (τ.1, τ.2.1, τ.2.2.1, τ.2.2.2.1 ++ [tC b n (i + 1)], τ.2.2.2.2 ++ [q.2])) := hE3
          dsimp only
          rw [ed]
          generalize ex b n q.1 13 = R2 at hE3
          cases R2 with
          | error e => exact hE3
          | ok l => exact hE3
      · have y : r ≠ 36 := fun w => z (s3.mpr w)
        rw [adv_ok' k2] at hE2
        have hE3 : EndT b n s m M Q (if r = 36 then (tdV b n (i + 1 + 1)).bind fun q => (ex b n q.1 13).bind fun l => td b n g l (τ.1, τ.2.1, τ.2.2.1, τ.2.2.2.1 ++ [tC b n (i + 1)], τ.2.2.2.2 ++ [q.2]) else (tdH b n (i + 1 + 1)).bind fun q => (ex b n q.1 13).bind fun l => td b n g l (τ.1 ++ [tC b n (i + 1)], τ.2.1 ++ [r], τ.2.2.1 ++ [q.2], τ.2.2.2.1, τ.2.2.2.2)) := hE2
        rw [if_neg y] at hE3
        have eu : upN b n (i + 1) r τ = (τ.1 ++ [tC b n (i + 1)], τ.2.1 ++ [r], τ.2.2.1 ++ [0], τ.2.2.2.1, τ.2.2.2.2) := by unfold upN; rw [if_neg y]
        rw [eu] at R3
        refine T_how (h := h + 2) (mx0 := τ.2.2.1) rfl R3 hB hS k2 ?_
        have hok := tdH_ok hS hs1 k2
        generalize tdH b n (i + 1 + 1) = R at hE3 hok
        cases R with
        | error e => exact fun M4 T4 F4 _ => ⟨rfl, X_told133 (h := h + 4) T4 (hE3 M4 T4 (((F1.tr F2).tr F3).tr F4))⟩
        | ok q =>
          intro M4 R4 F4
          refine fun _ => ⟨rfl, semi M4 q.1 _ R4 hok.2.2.1 (by have := hok.1; omega) (((F1.tr F2).tr F3).tr F4) ?_⟩
          have ed : (τ.2.2.1 ++ [(0 : Int32)]).dropLast = τ.2.2.1 := dropLast_snoc
          have hE3 : EndT b n s m M Q ((ex b n q.1 13).bind fun l => td b n g l (τ.1 ++ [tC b n (i + 1)], τ.2.1 ++ [r], τ.2.2.1 ++ [q.2], τ.2.2.2.1, τ.2.2.2.2)) := hE3
          dsimp only
          rw [ed]
          generalize ex b n q.1 13 = R2 at hE3
          cases R2 with
          | error e => exact hE3
          | ok l => exact hE3
      · rw [adv_er' k2] at hE2
        have y := hE2 M3 T3 ((F1.tr F2).tr F3)
        refine KX11_readFirst ?_
        unfold DX11_readFirst_0
        exact ⟨ok29 T3.1, X_want (h := h + 3) T3 (fun _ => ⟨rfl, fun _ => X_first T3 (fun _ => ⟨rfl, X_told133 (h := h + 4) T3 y⟩), fun z => absurd z T3.n0⟩)⟩
      · rw [adv_er' k2] at hE2
        have y := hE2 M3 T3 ((F1.tr F2).tr F3)
        refine KX11_readHow ?_
        unfold DX11_readHow_0 DX11_readHow_126
        exact ⟨ok29 T3.1, fun _ _ => ⟨rfl, X_told133 (h := h + 4) T3 y⟩, fun z => absurd z T3.n0⟩
    · rw [if_neg q2] at hE2
      exact hE2 M2 T2 (F1.tr F2)
    · rw [if_pos q2, if_pos q3] at hE2
      exact hE2 M2 T2 (F1.tr F2)
    · rw [if_pos q2, if_neg (by rw [q3]; decide), if_pos q6] at hE2
      exact hE2 M2 T2 (F1.tr F2)
  · unfold td at hE
    rw [hk, adv_er' k1] at hE
    by_cases z : r = 36
    · rw [if_pos z] at hE; exact hE M1 T1 F1
    · have z2 : r = 30 ∨ r = 31 ∨ r = 32 := by rcases hr with y | y | y | y <;> first | exact Or.inl y | exact Or.inr (Or.inl y) | exact Or.inr (Or.inr y) | exact absurd y z
      rw [if_neg z, if_pos z2] at hE; exact hE M1 T1 F1
theorem T_told (hB : By b) (hS : Sto b n s) : ∀ (g : Nat) (M : Mem) (i : Nat) (τ : Td), s + 1 - i ≤ g → RT b n s m τ M i → tK b n i ≠ 0 → EndT b n s m M Q (td b n g i τ) → T (h + 6) mdX11_readTold 2 [(0, .ref 29), (1, .int 1)] [] M Q := by
  intro g
  induction g with
  | zero => intro M i τ hg hR _ _; have := hR.2.1; omega
  | succ g ih =>
    intro M i τ hg hR h0 hE
    have F := hR.1.1
    have tk := hR.tk hB
    have again : ∀ M' j τ', RT b n s m τ' M' j → tK b n j ≠ 0 → i < j → RGt m M M' → EndT b n s m M' Q (td b n g j τ') → T (h + 6) mdX11_readTold 2 [(0, .ref 29), (1, .int 1)] [] M' Q := fun M' j τ' R' k' hj _ E' => ih M' j τ' (by omega) R' k' E'
    refine VX11_readTold_2 ?_
    unfold DX11_readTold_2
    refine ⟨fun z => absurd z (by decide), fun _ => ⟨ok29 F, fun z => absurd hR.2.2.2.1 z, fun _ => ?_⟩⟩
    refine K_key tk (j := 0) (k := 30) (by decide) rfl rfl (fun q _ => ⟨_, rfl, fun z => absurd z (by decide), fun _ => T_one (r := 30) hB hS hR (Or.inl rfl) q again hE⟩) (fun q30 _ => ⟨_, rfl, fun _ => ?_, fun z => absurd rfl z⟩)
    refine K_key tk (j := 1) (k := 31) (by decide) rfl rfl (fun q _ => ⟨_, rfl, fun z => absurd z (by decide), fun _ => T_one (r := 31) hB hS hR (Or.inr (Or.inl rfl)) q again hE⟩) (fun q31 _ => ⟨_, rfl, fun _ => ?_, fun z => absurd rfl z⟩)
    refine K_key tk (j := 2) (k := 32) (by decide) rfl rfl (fun q _ => ⟨_, rfl, fun z => absurd z (by decide), fun _ => T_one (r := 32) hB hS hR (Or.inr (Or.inr (Or.inl rfl))) q again hE⟩) (fun q32 _ => ⟨_, rfl, fun _ => ?_, fun z => absurd rfl z⟩)
    refine K_key tk (j := 6) (k := 36) (by decide) rfl rfl (fun q _ => ⟨_, rfl, fun z => absurd z (by decide), fun _ => T_one (r := 36) hB hS hR (Or.inr (Or.inr (Or.inr rfl))) q again hE⟩) (fun q36 _ => ⟨_, rfl, fun _ => ?_, fun z => absurd rfl z⟩)
    unfold td at hE
    rw [if_neg q36, if_neg (by rintro (z | z | z) <;> first | exact q30 z | exact q31 z | exact q32 z)] at hE
    have y := hE M hR h0 RG.rf
    unfold DX11_readTold_74 DX11_readTold_85 DX11_readTold_141
    refine ⟨fun _ => ⟨fun _ => ?_, fun z => absurd rfl z⟩, fun z => absurd (by decide) z⟩
    refine VX11_readTold_2 ?_
    unfold DX11_readTold_2 DX11_readTold_144
    exact ⟨fun _ => y, fun z => absurd rfl z⟩
end
end
section
/-! the class reads what the text tells -/
theorem Fix_hi {M M' : Mem} (F : Fix M) (k : fr (fun c => 132 ≤ c) M M') : Fix M' := by
  have hm := F.1
  have row : ∀ a, a < 132 → sameRow M M' a := fun a ha => k.2 a (by omega) (by omega)
  refine F.of_fr (S := fun _ => True) k.1 (fun e he => ?_) (row 19 (by decide)).2.2.2.2.1
  have := tRS_lt e he
  rw [(row e.1 (by omega)).2.2.1]
theorem TI_hi {b : Nat → Int32} {n s : Nat} {M M' : Mem} {i o : Nat} (h : TI b n s M i o) (k : fr (fun c => 132 ≤ c) M M') : TI b n s M' i o := by
  have hm := h.1.1
  have row : ∀ a, a < 132 → sameRow M M' a := fun a ha => k.2 a (by omega) (by omega)
  exact h.fr (Fix_hi h.1 k) (row 15 (by decide)).1 (row 15 (by decide)).2.1 (row 16 (by decide)).2.2.2.1 (row 17 (by decide)).2.2.2.1 (row 18 (by decide)).2.2.2.2.1
theorem TF_hi {M M' : Mem} {f : Int32} {p : Nat} (h : TF M f p) (k : fr (fun c => 132 ≤ c) M M') : TF M' f p := by
  have hm := h.1.1
  exact h.fr (Fix_hi h.1 k) (k.2 15 (by omega) (by decide)).1
def NT (L : Nat) : Nt := (List.range (L + 2)).map (fun j => (2 * j, 2 * j))
def sgT (L k : Nat) : Nat := if k < L then 4 + 2 * k else 0
theorem NT_len {L : Nat} : (NT L).length = L + 2 := by unfold NT; rw [List.length_map, List.length_range]
theorem NT_succ {L : Nat} : (frL (NT L)).1 = NT (L + 1) := by
  show NT L ++ [(2 * (NT L).length, 2 * (NT L).length)] = NT (L + 1)
  rw [NT_len]
  unfold NT
  rw [show L + 1 + 2 = (L + 2) + 1 by omega, List.range_succ (n := L + 2), List.map_append]
  rfl
def omk (ro : List Int32) : Int32 := (List.range ro.length).foldl (fun a k => if ro.getD k 0 = 31 then a ||| ((1 : Int32) <<< (Int32.ofNat k &&& 31)) else a) 0
theorem foldl_cg {α β : Type} {f g : β → α → β} : ∀ (l : List α) (z : β), (∀ x ∈ l, ∀ y, f y x = g y x) → l.foldl f z = l.foldl g z := by
  intro l
  induction l with
  | nil => intro z _; rfl
  | cons x l ih =>
    intro z h
    show l.foldl f (f z x) = l.foldl g (g z x)
    rw [h x List.mem_cons_self z]
    exact ih _ (fun y hy => h y (List.mem_cons_of_mem _ hy))
theorem omk_app {ro : List Int32} {x : Int32} : omk (ro ++ [x]) = if x = 31 then omk ro ||| ((1 : Int32) <<< (Int32.ofNat ro.length &&& 31)) else omk ro := by
  unfold omk
  rw [List.length_append]
  show (List.range (ro.length + 1)).foldl _ 0 = _
  rw [List.range_succ, List.foldl_append]
  have e : (ro ++ [x]).getD ro.length 0 = x := by rw [List.getD_eq_getElem?_getD, List.getElem?_append_right (Nat.le_refl _), Nat.sub_self]; rfl
  have e2 := foldl_cg (f := fun (a : Int32) k => if (ro ++ [x]).getD k 0 = 31 then a ||| ((1 : Int32) <<< (Int32.ofNat k &&& 31)) else a) (g := fun (a : Int32) k => if ro.getD k 0 = 31 then a ||| ((1 : Int32) <<< (Int32.ofNat k &&& 31)) else a) (List.range ro.length) 0 (fun k hk y => by rw [getD_a32 (List.mem_range.mp hk)])
  rw [e2]
  show (if (ro ++ [x]).getD ro.length 0 = 31 then _ else _) = _
  rw [e]
/-- a module while what is told is read -/
def CT (n0 : Nat) (τ : Td) (M : Mem) (lc rc : Nat) : Prop := CB n0 τ.1 τ.2.1 τ.2.2.1 τ.2.2.2.1 M (NT τ.1.length) lc rc (sgT τ.1.length) (fun _ => 0) ∧ (mI M n0 10 = Int32.ofNat (inL τ.2.1).length ∧ (inL τ.2.1).length ≤ 4 ∧ mR M n0 3 = some (n0 + 4) ∧ ok M (n0 + 4) 21 ∧ mL M (n0 + 4) = 4 ∧ ∀ j, j < (inL τ.2.1).length → mAI M (n0 + 4) j = Int32.ofNat ((inL τ.2.1).getD j 0)) ∧ mI M n0 11 = omk τ.2.1 ∧ (mR M n0 5 = some (n0 + 6) ∧ ok M (n0 + 6) 21 ∧ mL M (n0 + 6) = 6 ∧ τ.2.2.2.2.length = τ.2.2.2.1.length ∧ ∀ k, k < τ.2.2.2.1.length → mAI M (n0 + 6) k = (τ.2.2.2.2.getD k 0).toInt32) ∧ (∀ j, τ.1.length ≤ j → j < 16 → mAI M (n0 + 3) j = 0)
/-- what reading it may change -/
def TdF (n0 : Nat) (M M' : Mem) (lc rc lc' rc' : Nat) (L L' : Nat) : Prop := fr (fun c => c = 15 ∨ (n0 ≤ c ∧ c ≤ n0 + 6) ∨ c = n0 + 8 ∨ c = n0 + 20 ∨ c = lc ∨ c = rc) M M' ∧ mR M' 15 = mR M 15 ∧ mR M' n0 = mR M n0 ∧ (∀ f, f ∉ [9, 10, 11, 12] → mI M' n0 f = mI M n0 f) ∧ (∀ f, f ≠ 4 → mI M' (n0 + 8) f = mI M (n0 + 8) f) ∧ (∀ f, f ≠ 0 → f ≠ 1 → mR M' (n0 + 8) f = mR M (n0 + 8) f) ∧ mN M' + 2 * L ≤ mN M + 2 * L' ∧ mS M' + 4 * mL M lc = mS M + 4 * mL M' lc' ∧ (lc' = lc ∨ mN M ≤ lc') ∧ (rc' = rc ∨ mN M ≤ rc') ∧ L ≤ L'
theorem TdF.rf {n0 lc rc L : Nat} {M : Mem} : TdF n0 M M lc rc lc rc L L := ⟨fr.rf, rfl, rfl, fun _ _ => rfl, fun _ _ => rfl, fun _ _ _ => rfl, Nat.le_refl _, rfl, Or.inl rfl, Or.inl rfl, Nat.le_refl _⟩
theorem TdF.tr {n0 : Nat} {M M1 M2 : Mem} {lc rc lc1 rc1 lc2 rc2 L L1 L2 : Nat} (h : TdF n0 M M1 lc rc lc1 rc1 L L1) (k : TdF n0 M1 M2 lc1 rc1 lc2 rc2 L1 L2) : TdF n0 M M2 lc rc lc2 rc2 L L2 := by
  obtain ⟨a1, a2, a3, a4, a5, a6, a7, a8, a9, aA, aB⟩ := h
  obtain ⟨b1, b2, b3, b4, b5, b6, b7, b8, b9, bA, bB⟩ := k
  have hn := a1.1.1
  refine ⟨a1.tr b1 (fun a ha z => ?_), b2.trans a2, b3.trans a3, fun f q => (b4 f q).trans (a4 f q), fun f q => (b5 f q).trans (a5 f q), fun f q1 q2 => (b6 f q1 q2).trans (a6 f q1 q2), by omega, by omega, by omega, by omega, by omega⟩
  rcases z with z | z | z | z | z | z
  · exact Or.inl z
  · exact Or.inr (Or.inl z)
  · exact Or.inr (Or.inr (Or.inl z))
  · exact Or.inr (Or.inr (Or.inr (Or.inl z)))
  · rcases a9 with q | q
    · exact Or.inr (Or.inr (Or.inr (Or.inr (Or.inl (z.trans q)))))
    · omega
  · rcases aA with q | q
    · exact Or.inr (Or.inr (Or.inr (Or.inr (Or.inr (z.trans q)))))
    · omega
theorem TdF.t {n0 lc rc L : Nat} {M M' : Mem} (h : TFr M M') (hn : 132 ≤ n0) : TdF n0 M M' lc rc lc rc L L := by
  obtain ⟨a1, a2, a3, a4, a5, a6, a7, a8, a9⟩ := id h
  exact ⟨h.fr.more (fun a _ z => Or.inl z), by rw [a5], by rw [a5], fun f _ => by rw [(a9 _ (by omega)).1], fun f _ => by rw [(a9 _ (by omega)).1], fun f _ _ => by rw [a5], by rw [a1]; exact Nat.le_refl _, by rw [a2, a4], Or.inl rfl, Or.inl rfl, Nat.le_refl _⟩
section
variable {b : Nat → Int32} {n s n0 : Nat} {τ : Td} {M M' : Mem} {i o lc rc : Nat} {h : Nat} {Q : Option Value → Mem → Prop}
theorem CT.t (hC : CT n0 τ M lc rc) (k : TFr M M') : CT n0 τ M' lc rc := by
  obtain ⟨h1, ⟨i1, i2, i3, i4, i5, i6⟩, h2, ⟨v1, v2, v3, v4, v5⟩, h3⟩ := hC
  have hn := h1.2.2.2.2.2.2.2.2.2.2.1
  have row : ∀ a, a ≠ 15 → sameRow M M' a := fun a ha => k.row ha
  have r0 := row n0 (by omega)
  exact ⟨h1.t k, ⟨by rw [r0.1]; exact i1, i2, by rw [r0.2.2.1]; exact i3, ok_E i4 k.e, (k.e.2.2 _ i4.1).2.trans i5, fun j hj => by rw [(row (n0 + 4) (by omega)).2.2.2.1]; exact i6 j hj⟩, by rw [r0.1]; exact h2, ⟨by rw [r0.2.2.1]; exact v1, ok_E v2 k.e, (k.e.2.2 _ v2.1).2.trans v3, v4, fun j hj => by rw [(row (n0 + 6) (by omega)).2.2.2.1]; exact v5 j hj⟩, fun j q1 q2 => by rw [(row (n0 + 3) (by omega)).2.2.2.1]; exact h3 j q1 q2⟩
theorem S_isTold {c : Int64} {sN : List Int64} {ro mx : List Int32} {vN : List Int64} (hE : EnvC M n0 sN ro mx vN) (H : Q (some (.int (if (fd sN c).isSome || (fd vN c).isSome then 1 else 0))) M) : E (h + 2) mdX1_isTold [.ref n0, .long c] M Q := by
  have nS := oi_none (o := fd sN c) (k := 0) (fun j hj => by have := (fd_some hj).1; have := hE.2.1; omega)
  have nV := oi_none (o := fd vN c) (k := 0) (fun j hj => by have := (fd_some hj).1; have := hE.2.1; omega)
  refine KX1_isTold ?_
  unfold DX1_isTold_0 DX1_isTold_18 DX1_isTold_23
  refine ⟨hE.1, S_sigNamed hE (fun _ => ⟨_, rfl, fun q => ⟨Or.inr rfl, ?_⟩, fun q => S_varNamed hE (fun _ => ⟨_, rfl, fun q2 => ⟨Or.inl rfl, ?_⟩, fun q2 => ⟨Or.inr rfl, ?_⟩⟩)⟩)⟩
  · cases e : fd sN c with
    | none => exact absurd (nS.mpr e) q
    | some k => rw [e] at H; exact H
  · rw [nS.mp q, nV.mp q2] at H; exact H
  · rw [nS.mp q] at H
    cases e : fd vN c with
    | none => exact absurd (nV.mpr e) q2
    | some k => rw [e] at H; exact H
theorem S_isFull {r : Int32} (hC : CT n0 τ M lc rc) (H : Q (some (.int (if fuT r τ = true then 1 else 0))) M) : E (h + 1) mdX1_isFullFor [.ref n0, .int r] M Q := by
  obtain ⟨⟨hE, -⟩, ⟨i1, i2, -⟩, -⟩ := hC
  have h9 : mI M n0 9 = Int32.ofNat τ.1.length := hE.2.2.1
  have h12 : mI M n0 12 = Int32.ofNat τ.2.2.2.1.length := hE.2.2.2.1
  have hl := hE.2.1
  unfold fuT at H
  refine KX1_isFullFor ?_
  unfold DX1_isFullFor_0 DX1_isFullFor_44 DX1_isFullFor_48 DX1_isFullFor_49 DX1_isFullFor_20
  rw [h9, h12, i1]
  have c16 : ((16 : Int32) ≤ Int32.ofNat τ.1.length) ↔ 16 ≤ τ.1.length := le32 (a := 16) (by decide) (by omega)
  have c4 : (Int32.ofNat (inL τ.2.1).length < 4) ↔ (inL τ.2.1).length < 4 := ltn32 (b := 4) (by omega) (by decide)
  have c6 : (Int32.ofNat τ.2.2.2.1.length < 6) ↔ τ.2.2.2.1.length < 6 := ltn32 (b := 6) (by omega) (by decide)
  refine ⟨fun q => ⟨hE.1, fun q2 => ⟨Or.inr rfl, ?_⟩, fun q2 => ⟨fun q3 => ⟨Or.inl rfl, ?_⟩, fun q3 => ⟨fun q4 => ⟨Or.inl rfl, ?_⟩, fun q4 => ⟨Or.inr rfl, ?_⟩⟩⟩⟩, fun q => ⟨hE.1, fun q2 => ⟨Or.inl rfl, ?_⟩, fun q2 => ⟨Or.inr rfl, ?_⟩⟩⟩
  · have z := c16.mp q2
    simpa [q, z] using H
  · have z : ¬ 16 ≤ τ.1.length := fun y => q2 (c16.mpr y)
    simpa [q, z, q3] using H
  · have z : ¬ 16 ≤ τ.1.length := fun y => q2 (c16.mpr y)
    have y : ¬ 4 ≤ (inL τ.2.1).length := by have := c4.mp q4; omega
    simpa [q, z, q3, y] using H
  · have z : ¬ 16 ≤ τ.1.length := fun y => q2 (c16.mpr y)
    have y : 4 ≤ (inL τ.2.1).length := by have : ¬ (inL τ.2.1).length < 4 := fun w => q4 (c4.mpr w); omega
    simpa [q, z, q3, y] using H
  · have y : ¬ 6 ≤ τ.2.2.2.1.length := by have := c6.mp q2; omega
    simpa [q, y] using H
  · have y : 6 ≤ τ.2.2.2.1.length := by have : ¬ τ.2.2.2.1.length < 6 := fun w => q2 (c6.mpr w); omega
    simpa [q, y] using H
theorem C_check {r : Int32} (hT : TI b n s M i o) (hC : CT n0 τ M lc rc) (hB : By b) (H1 : tK b n i = 2 → toT (tC b n i) τ = false → fuT r τ = false → Q none M) (H2 : tK b n i ≠ 2 → ∀ M', TF M' 2 (tP b n i) → TFr M M' → Q none M') (H3 : tK b n i = 2 → toT (tC b n i) τ = true → ∀ M', TF M' 3 (tP b n i) → TFr M M' → Q none M') (H6 : tK b n i = 2 → toT (tC b n i) τ = false → fuT r τ = true → ∀ M', TF M' 6 (tP b n i) → TFr M M' → Q none M') : E (h + 3) mdX4_checkNewName [.ref 14, .int r] M Q := by
  have F := hT.1
  have r7 : mR M 14 7 = some n0 := hC.1.2.2.2.2.2.2.2.2.2.1
  refine KX4_checkNewName ?_
  unfold DX4_checkNewName_0 DX4_checkNewName_70
  refine ⟨ok14 F, 15, rf14_0 F, ok15 F, fun hk => ?_, fun hk => ?_⟩
  · rw [hT.kind] at hk
    refine ⟨n0, r7, 15, rf14_0 F, ok15 F, hC.1.1.1, ?_⟩
    rw [hT.word hB hk]
    refine S_isTold hC.1.1 ?_
    have e : ((fd τ.1 (tC b n i)).isSome || (fd τ.2.2.2.1 (tC b n i)).isSome) = toT (tC b n i) τ := rfl
    rw [e]
    cases ht : toT (tC b n i) τ with
    | true => exact fun _ => ⟨_, rfl, fun z => absurd z (by decide), fun _ => ⟨15, rf14_0 F, ok15 F, A_fail hT (by decide) (fun M' T' F' _ => ⟨rfl, H3 hk ht M' T' F'⟩)⟩⟩
    | false =>
      refine fun _ => ⟨_, rfl, fun _ => ⟨n0, r7, hC.1.1.1, S_isFull hC ?_⟩, fun z => absurd rfl z⟩
      cases hf : fuT r τ with
      | true => exact fun _ => ⟨_, rfl, fun z => absurd z (by decide), fun _ => ⟨15, rf14_0 F, ok15 F, A_fail hT (by decide) (fun M' T' F' _ => ⟨rfl, H6 hk ht hf M' T' F'⟩)⟩⟩
      | false => exact fun _ => ⟨_, rfl, fun _ => H1 hk ht hf, fun z => absurd rfl z⟩
  · rw [hT.kind] at hk
    exact ⟨15, rf14_0 F, ok15 F, A_fail hT (by decide) (fun M' T' F' _ => ⟨rfl, H2 hk M' T' F'⟩)⟩
theorem X_check {r f : Int32} {p : Nat} (hT : TF M f p) (H : Q none M) : E (h + 3) mdX4_checkNewName [.ref 14, .int r] M Q := by
  have F := hT.1
  refine KX4_checkNewName ?_
  unfold DX4_checkNewName_0 DX4_checkNewName_70
  refine ⟨ok14 F, 15, rf14_0 F, ok15 F, fun hk => ?_, fun _ => ⟨15, rf14_0 F, ok15 F, F_fail hT (fun _ => ⟨rfl, H⟩)⟩⟩
  rw [hT.2.2.2.2.2] at hk
  exact absurd hk (by decide)
end
end
section
/-! the class puts down what is told -/
section
variable {b : Nat → Int32} {n s n0 : Nat} {τ : Td} {M M' : Mem} {i o lc rc : Nat} {h : Nat} {Q : Option Value → Mem → Prop}
theorem gN64 {l : List Int64} {x : Int64} {k : Nat} (h : k < l.length + 1) : (l ++ [x]).getD k 0 = if k = l.length then x else l.getD k 0 := getD_a64 h
set_option maxHeartbeats 2000000 in
theorem C_addSig {r : Int32} {c : Int64} (hm : 132 ≤ mN M) (hC : CT n0 τ M lc rc) (hr : r = 30 ∨ r = 31 ∨ r = 32) (hf : fuT r τ = false) (H : ∀ M' lc' rc', CT n0 (τ.1 ++ [c], τ.2.1 ++ [r], τ.2.2.1 ++ [0], τ.2.2.2.1, τ.2.2.2.2) M' lc' rc' → TdF n0 M M' lc rc lc' rc' τ.1.length (τ.1.length + 1) → fr (fun c => 132 ≤ c) M M' → Q none M') : E (h + 6) mdX1_addSignal [.ref n0, .long c, .int r] M Q := by
  have hCT := hC
  obtain ⟨hCB, ⟨i1, i2, i3, i4, i5, i6⟩, hmk, ⟨v1, v2, v3, v4, v5⟩, hmx⟩ := hC
  have r36 : r ≠ 36 := by rcases hr with z | z | z <;> (rw [z]; decide)
  have hL : τ.1.length < 16 ∧ (r = 30 → (inL τ.2.1).length < 4) := by
    unfold fuT at hf
    rw [if_neg r36] at hf
    simp at hf
    exact ⟨by omega, fun z => by have := hf.2 z; omega⟩
  obtain ⟨hE, hP, p3, p4, p5, p6, ⟨s1, s2, s3⟩, p7, ⟨b1, b2, b3⟩, p8, p9, p10⟩ := id hCB
  obtain ⟨h1, h2, h3, h4, h5, ⟨a1, a2, a3⟩, h6, ⟨q1, q2, q3⟩, h7, ⟨c1, c2, c3⟩, h8, ⟨d1, d2, d3⟩, h9⟩ := id hE
  have hlen := NT_len (L := τ.1.length)
  refine KX1_addSignal ?_
  unfold DX1_addSignal_0
  refine ⟨h1, S_isFull (h := h + 4) hCT ?_⟩
  rw [hf, if_neg (by decide)]
  refine fun _ => ⟨_, rfl, fun _ => ?_, fun z => absurd rfl z⟩
  rw [h3, lt32 (by omega)]
  refine ⟨n0 + 1, h5, a1, by rw [a2]; exact vp_of (by omega) (by decide), fun A1 x1 => ?_⟩
  have e1 : mI A1 n0 9 = Int32.ofNat τ.1.length := by rw [x1]; exact h3
  rw [e1, lt32 (by omega)]
  refine ⟨n0 + 2, by rw [x1]; exact h6, by rw [x1]; exact q1, by rw [x1]; show vp_in _ (mL M (n0 + 2)); rw [q2]; exact vp_of (by omega) (by decide), fun A x2 => ?_⟩
  have eA : A = wAI (wAJ M (n0 + 1) τ.1.length c) (n0 + 2) τ.1.length r := by rw [x2, x1]
  have rowA : ∀ a, a ≠ n0 + 1 → a ≠ n0 + 2 → sameRow M A a := fun a z1 z2 => by rw [eA]; exact ⟨rfl, rfl, rfl, up2_row z2, up2_row z1, rfl⟩
  have EA : mE M A := by rw [eA]; exact mE_wAJ.tr mE_wAI
  have eA9 : mI A n0 9 = Int32.ofNat τ.1.length := by rw [eA]; exact h3
  have PA : CirP A (n0 + 8) lc rc (NT τ.1.length) := hP.fr EA (rowA _ (by omega) (by omega)) (rowA _ (by omega) (by omega)) (rowA _ (by omega) (by omega))
  refine ⟨n0 + 8, by rw [eA]; exact p5, ok_E hP.1 EA, ?_⟩
  rw [eA9]
  refine KX0_addSignal ?_
  unfold DX0_addSignal_0
  refine ⟨PA.1, n0 + 20, by rw [eA]; exact p6, S_fresh PA (by omega) (fun B lc1 rc1 PB FB _ => ⟨_, rfl, ?_⟩)⟩
  rw [hlen]
  obtain ⟨k1, k2, k3, k4, k5, k6, k7, k8, k9⟩ := FB
  have nA : mN A = mN M := by rw [eA]; rfl
  have sA : mS A = mS M := by rw [eA]; rfl
  have lA : mL A = mL M := by rw [eA]; rfl
  have rowB : ∀ a, a < mN M → a ≠ n0 + 8 → a ≠ lc → a ≠ rc → sameRow A B a := fun a ha z1 z2 z3 => k1.2 a (by omega) (by rintro (z | z | z) <;> first | exact z1 z | exact z2 z | exact z3 z)
  have oB : ∀ a c, ok M a c → ok B a c := fun a c ho => ok_E (ok_E ho EA) k1.1
  have lB : ∀ a, a < mN M → mL B a = mL M a := fun a ha => ((k1.1.2.2 a (by omega)).2).trans (by rw [lA])
  refine ⟨oB _ _ s1, by rw [lB _ (by omega), s2]; exact vp_of (by omega) (by decide), fun C xC => ?_⟩
  rw [lt32 (by omega), show 2 * (τ.1.length + 2) = 4 + 2 * τ.1.length by omega] at xC
  have rowC : ∀ a, a ≠ n0 + 20 → sameRow B C a := fun a z => by rw [xC]; exact ⟨rfl, rfl, rfl, up2_row z, rfl, rfl⟩
  have EC : mE B C := by rw [xC]; exact mE_wAI
  have rn0 : sameRow M C n0 := ((rowA n0 (by omega) (by omega)).tr (rowB n0 (by omega) (by omega) (by omega) (by omega))).tr (rowC n0 (by omega))
  have PC : CirP C (n0 + 8) lc1 rc1 (NT (τ.1.length + 1)) := by
    rw [NT_succ] at PB
    exact PB.fr EC (rowC _ (by omega)) (rowC _ (by omega)) (rowC _ (by omega))
  have oC : ∀ a c, ok M a c → ok C a c := fun a c ho => ok_E (oB a c ho) EC
  have lC : ∀ a, a < mN M → mL C a = mL M a := fun a ha => by rw [xC]; exact lB a ha
  have j9 : mI C n0 9 = Int32.ofNat τ.1.length := by rw [rn0.1]; exact h3
  have j10 : mI C n0 10 = Int32.ofNat (inL τ.2.1).length := by rw [rn0.1]; exact i1
  have j11 : mI C n0 11 = omk τ.2.1 := by rw [rn0.1]; exact hmk
  have fA : fr (fun c => (n0 ≤ c ∧ c ≤ n0 + 6) ∨ c = n0 + 8 ∨ c = n0 + 20 ∨ c = lc ∨ c = rc) M A := ⟨EA, fun a _ hn => rowA a (fun z => hn (Or.inl (by omega))) (fun z => hn (Or.inl (by omega)))⟩
  have fC1 : fr (fun c => c = n0 + 20) B C := ⟨EC, fun a _ hn => rowC a hn⟩
  have frC : fr (fun c => (n0 ≤ c ∧ c ≤ n0 + 6) ∨ c = n0 + 8 ∨ c = n0 + 20 ∨ c = lc ∨ c = rc) M C := by
    refine fr.tr (fr.tr fA k1 (fun a _ z => ?_)) fC1 (fun a _ z => Or.inr (Or.inr (Or.inl z)))
    rcases z with z | z | z
    · exact Or.inr (Or.inl z)
    · exact Or.inr (Or.inr (Or.inr (Or.inl z)))
    · exact Or.inr (Or.inr (Or.inr (Or.inr z)))
  -- the end
  have fin : ∀ D : Mem, mE C D → (∀ a, a ≠ n0 → a ≠ n0 + 4 → sameRow C D a) → mR D n0 = mR C n0 → (∀ f, f ∉ [10, 11] → mI D n0 f = mI C n0 f) → mN D = mN C → mS D = mS C → mI D n0 10 = Int32.ofNat (inL (τ.2.1 ++ [r])).length → (inL (τ.2.1 ++ [r])).length ≤ 4 → (∀ j, j < (inL (τ.2.1 ++ [r])).length → mAI D (n0 + 4) j = Int32.ofNat ((inL (τ.2.1 ++ [r])).getD j 0)) → mI D n0 11 = omk (τ.2.1 ++ [r]) → DX1_addSignal_90 (h + 5) n0 D Q := by
    intro D ED rowD rD iD nD sD x10 x4 xI x11
    unfold DX1_addSignal_90
    have d9 : mI D n0 9 = Int32.ofNat τ.1.length := (iD 9 (by decide)).trans j9
    refine ⟨ok_E (oC _ _ h1) ED, fun M' eM => ?_⟩
    rw [d9, succ32] at eM
    have rowM : ∀ a, a ≠ n0 → sameRow D M' a := fun a z => by rw [eM]; exact ⟨up2_row z, rfl, rfl, rfl, rfl, rfl⟩
    have EM : mE D M' := by rw [eM]; exact mE_wI
    have rCM : ∀ a, a ≠ n0 → a ≠ n0 + 4 → sameRow C M' a := fun a z1 z2 => (rowD a z1 z2).tr (rowM a z1)
    have ECM : mE C M' := ED.tr EM
    have rMM : ∀ a, a < mN M → a ≠ n0 → a ≠ n0 + 1 → a ≠ n0 + 2 → a ≠ n0 + 4 → a ≠ n0 + 8 → a ≠ n0 + 20 → a ≠ lc → a ≠ rc → sameRow M M' a := fun a ha z0 z1 z2 z4 z8 z20 zl zr => (((rowA a z1 z2).tr (rowB a ha z8 zl zr)).tr (rowC a z20)).tr (rCM a z0 z4)
    have oM : ∀ a c, ok M a c → ok M' a c := fun a c ho => ok_E (oC a c ho) ECM
    have lM : ∀ a, a < mN M → mL M' a = mL M a := fun a ha => ((ECM.2.2 a (Nat.lt_of_lt_of_le (by omega) (Nat.le_trans k1.1.1 EC.1))).2).trans (lC a ha)
    have nn : mN M' = mN B := by rw [eM]; show mN D = mN B; rw [nD, xC]; rfl
    have ss : mS M' = mS B := by rw [eM]; show mS D = mS B; rw [sD, xC]; rfl
    have R0 : mR M' n0 = mR M n0 := by rw [eM]; show mR D n0 = mR M n0; rw [rD]; exact rn0.2.2.1
    have I0 : ∀ f, f ∉ [9, 10, 11] → mI M' n0 f = mI M n0 f := by
      intro f hf
      have z9 : f ≠ 9 := by rintro rfl; exact hf (by decide)
      rw [eM, mI_wI, if_neg (fun z => z9 z.2), iD f (fun z => hf (by simp at z ⊢; omega)), rn0.1]
    have hll : (τ.1 ++ [c]).length = τ.1.length + 1 := by rw [List.length_append]; rfl
    have g32 : ∀ (l : List Int32) (x : Int32), l.length = τ.1.length → ∀ k, k < τ.1.length + 1 → (l ++ [x]).getD k 0 = if k = τ.1.length then x else l.getD k 0 := fun l x hl k hk => by rw [getD_app (by omega), hl]
    have cell1 : sameRow A M' (n0 + 1) := ((rowB (n0 + 1) (by omega) (by omega) (by omega) (by omega)).tr (rowC _ (by omega))).tr (rCM _ (by omega) (by omega))
    have cell2 : sameRow A M' (n0 + 2) := ((rowB (n0 + 2) (by omega) (by omega) (by omega) (by omega)).tr (rowC _ (by omega))).tr (rCM _ (by omega) (by omega))
    have cell20 : mAI M' (n0 + 20) = mAI C (n0 + 20) := (rCM (n0 + 20) (by omega) (by omega)).2.2.2.1
    have cell20b : sameRow M B (n0 + 20) := (rowA _ (by omega) (by omega)).tr (rowB (n0 + 20) (by omega) (by omega) (by omega) (by omega))
    have cell8 : sameRow C M' (n0 + 8) := rCM _ (by omega) (by omega)
    have cell8R : ∀ f, f ≠ 0 → f ≠ 1 → mR M' (n0 + 8) f = mR M (n0 + 8) f := fun f z0 z1 => by rw [cell8.2.2.1, (rowC (n0 + 8) (by omega)).2.2.1, k3 f z0 z1, (rowA (n0 + 8) (by omega) (by omega)).2.2.1]
    have c3r := rMM (n0 + 3) (by omega) (by omega) (by omega) (by omega) (by omega) (by omega) (by omega) (by omega) (by omega)
    have c5r := rMM (n0 + 5) (by omega) (by omega) (by omega) (by omega) (by omega) (by omega) (by omega) (by omega) (by omega)
    have c6r := rMM (n0 + 6) (by omega) (by omega) (by omega) (by omega) (by omega) (by omega) (by omega) (by omega) (by omega)
    have c16r := rMM (n0 + 16) (by omega) (by omega) (by omega) (by omega) (by omega) (by omega) (by omega) (by omega) (by omega)
    have c14r := rMM 14 (by omega) (by omega) (by omega) (by omega) (by omega) (by omega) (by omega) (by omega) (by omega)
    have newE : EnvC M' n0 (τ.1 ++ [c]) (τ.2.1 ++ [r]) (τ.2.2.1 ++ [0]) τ.2.2.2.1 := by
      refine ⟨oM _ _ h1, ⟨by omega, by rw [List.length_append, List.length_append, h2.2.1]; rfl, by rw [List.length_append, List.length_append, h2.2.2.1]; rfl, h2.2.2.2⟩, by rw [eM, hll]; exact mI_own _ _ _ _, by rw [I0 12 (by decide)]; exact h4, by rw [R0]; exact h5, ⟨oM _ _ a1, (lM _ (by omega)).trans a2, fun k hk => ?_⟩, by rw [R0]; exact h6, ⟨oM _ _ q1, (lM _ (by omega)).trans q2, fun k hk => ?_⟩, by rw [R0]; exact h7, ⟨oM _ _ c1, (lM _ (by omega)).trans c2, fun k hk => ?_⟩, by rw [R0]; exact h8, ⟨oM _ _ d1, (lM _ (by omega)).trans d2, fun k hk => by rw [c5r.2.2.2.2.1]; exact d3 k hk⟩, by rw [R0]; exact h9⟩
      · rw [hll] at hk
        rw [getD_a64 hk, cell1.2.2.2.2.1, eA, mAJ_wAI, mAJ_wAJ]
        by_cases z : k = τ.1.length
        · rw [if_pos ⟨rfl, z⟩, if_pos z]
        · rw [if_neg (fun y => z y.2), if_neg z]; exact a3 k (by omega)
      · rw [hll] at hk
        rw [g32 _ _ h2.2.1 k hk, cell2.2.2.2.1, eA, mAI_wAI]
        by_cases z : k = τ.1.length
        · rw [if_pos ⟨rfl, z⟩, if_pos z]
        · rw [if_neg (fun y => z y.2), if_neg z, mAI_wAJ]; exact q3 k (by omega)
      · rw [hll] at hk
        rw [g32 _ _ h2.2.2.1 k hk, c3r.2.2.2.1]
        by_cases z : k = τ.1.length
        · rw [if_pos z]; exact hmx k (by omega) (by omega)
        · rw [if_neg z]; exact c3 k (by omega)
    have newB : CB n0 (τ.1 ++ [c]) (τ.2.1 ++ [r]) (τ.2.2.1 ++ [0]) τ.2.2.2.1 M' (NT (τ.1.length + 1)) lc1 rc1 (sgT (τ.1.length + 1)) (fun _ => 0) := by
      have hl1 : lc1 = n0 + 9 ∨ n0 + 25 ≤ lc1 := by omega
      have hr1 : rc1 = n0 + 10 ∨ n0 + 25 ≤ rc1 := by omega
      have hlen2 := NT_len (L := τ.1.length + 1)
      refine ⟨newE, PC.fr ECM cell8 (rCM _ (by omega) (by omega)) (rCM _ (by omega) (by omega)), hl1, hr1, by rw [R0]; exact p5, by rw [cell8R 13 (by decide) (by decide)]; exact p6, ⟨oM _ _ s1, (lM _ (by omega)).trans s2, fun k hk => ⟨?_, ?_⟩⟩, by rw [cell8R 8 (by decide) (by decide)]; exact p7, ⟨oM _ _ b1, (lM _ (by omega)).trans b2, fun k hk => ⟨by rw [c16r.2.2.2.1]; exact (b3 k hk).1, by show 0 < _; omega⟩⟩, by rw [c14r.2.2.1]; exact p8, p9, by rw [nn]; omega⟩
      · rw [cell20, xC, mAI_wAI]
        unfold sgT
        by_cases z : k = τ.1.length
        · rw [if_pos ⟨rfl, z⟩, if_pos (by omega), z]
        · rw [if_neg (fun y => z y.2), cell20b.2.2.2.1, (s3 k hk).1]
          unfold sgT
          by_cases y : k < τ.1.length
          · rw [if_pos y, if_pos (by omega)]
          · rw [if_neg y, if_neg (by omega)]
      · unfold sgT
        split <;> omega
    have fCM : fr (fun a => a = n0 ∨ a = n0 + 4) C M' := ⟨ECM, fun a _ hn => rCM a (fun z => hn (Or.inl z)) (fun z => hn (Or.inr z))⟩
    have fMM : fr (fun c => (n0 ≤ c ∧ c ≤ n0 + 6) ∨ c = n0 + 8 ∨ c = n0 + 20 ∨ c = lc ∨ c = rc) M M' := fr.tr frC fCM (fun a _ z => Or.inl (by omega))
    refine H M' lc1 rc1 ⟨?_, ⟨by rw [eM, mI_wI, if_neg (fun z => absurd z.2 (by decide))]; exact x10, x4, by rw [R0]; exact i3, oM _ _ i4, (lM _ (by omega)).trans i5, fun j hj => by rw [(rowM (n0 + 4) (by omega)).2.2.2.1]; exact xI j hj⟩, by rw [eM, mI_wI, if_neg (fun z => absurd z.2 (by decide))]; exact x11, ⟨by rw [R0]; exact v1, oM _ _ v2, (lM _ (by omega)).trans v3, v4, fun k hk => by rw [c6r.2.2.2.1]; exact v5 k hk⟩, fun j z1 z2 => ?_⟩ ?_ ?_
    · show CB n0 (τ.1 ++ [c]) (τ.2.1 ++ [r]) (τ.2.2.1 ++ [0]) τ.2.2.2.1 M' (NT (τ.1 ++ [c]).length) lc1 rc1 (sgT (τ.1 ++ [c]).length) (fun _ => 0)
      rw [hll]; exact newB
    · have z1 : (τ.1 ++ [c]).length ≤ j := z1
      rw [hll] at z1
      rw [c3r.2.2.2.1]; exact hmx j (by omega) z2
    · refine ⟨fMM.more (fun a _ z => Or.inr z), (rMM 15 (by omega) (by omega) (by omega) (by omega) (by omega) (by omega) (by omega) (by omega) (by omega)).2.2.1, R0, fun f hf => I0 f (fun z => hf (by simp at z ⊢; omega)), fun f hf => by rw [cell8.1, (rowC (n0 + 8) (by omega)).1, k2 f hf, (rowA (n0 + 8) (by omega) (by omega)).1], cell8R, ?_, ?_, by omega, by omega, by omega⟩
      · have := k5
        have e2 : (frL (NT τ.1.length)).1.length = τ.1.length + 3 := by rw [NT_succ, NT_len]
        rw [e2, NT_len] at this
        omega
      · have e5 : mL M' lc1 = mL B lc1 := by
          have := (ECM.2.2 lc1 PC.2.2.1.1).2
          rw [this, xC]; rfl
        rw [ss, e5]
        have := k6
        rw [sA, lA] at this
        exact this
    · exact fMM.more (fun a _ z => by
        rcases z with z | z | z | z | z <;> omega)
  refine fun _ => ⟨rfl, fun q => ?_, fun q => ?_⟩
  · have ei : inL (τ.2.1 ++ [r]) = inL τ.2.1 := by rw [inL_app, if_neg q, List.append_nil]
    unfold DX1_addSignal_69
    have cI : ∀ j, j < (inL τ.2.1).length → mAI C (n0 + 4) j = Int32.ofNat ((inL τ.2.1).getD j 0) := fun j hj => by rw [(((rowA (n0 + 4) (by omega) (by omega)).tr (rowB (n0 + 4) (by omega) (by omega) (by omega) (by omega))).tr (rowC (n0 + 4) (by omega))).2.2.2.1]; exact i6 j hj
    refine ⟨fun q2 => fin C mE.rf (fun a _ _ => sameRow.rf) rfl (fun _ _ => rfl) rfl rfl (by rw [ei]; exact j10) (by rw [ei]; exact i2) (by rw [ei]; exact cI) (by rw [omk_app, if_neg q2]; exact j11), fun q2 => ⟨oC _ _ h1, fun D xD => ?_⟩⟩
    rw [j9, j11] at xD
    refine fin D (by rw [xD]; exact mE_wI) (fun a z _ => by rw [xD]; exact ⟨up2_row z, rfl, rfl, rfl, rfl, rfl⟩) (by rw [xD]; rfl) (fun f hf => ?_) (by rw [xD]; rfl) (by rw [xD]; rfl) (by rw [ei, xD, mI_wI, if_neg (fun z => absurd z.2 (by decide))]; exact j10) (by rw [ei]; exact i2) (by rw [ei, xD]; exact cI) (by rw [omk_app, if_pos q2, xD, mI_own, h2.2.1])
    rw [xD, mI_wI, if_neg (by rintro ⟨-, z⟩; rw [z] at hf; exact hf (by decide))]
  · have n31 : r ≠ 31 := by rw [q]; decide
    have hI4 := hL.2 q
    have ei : inL (τ.2.1 ++ [r]) = inL τ.2.1 ++ [τ.1.length] := by rw [inL_app, if_pos q, h2.2.1]
    have r4 : sameRow M C (n0 + 4) := ((rowA (n0 + 4) (by omega) (by omega)).tr (rowB (n0 + 4) (by omega) (by omega) (by omega) (by omega))).tr (rowC (n0 + 4) (by omega))
    rw [j10, lt32 (by omega), j9]
    refine ⟨n0 + 4, by rw [rn0.2.2.1]; exact i3, oC _ _ i4, by rw [lC _ (by omega), i5]; exact vp_of (by omega) (by decide), fun D1 xD1 D xD => ?_⟩
    have d10 : mI D1 n0 10 = Int32.ofNat (inL τ.2.1).length := by rw [xD1]; exact j10
    rw [d10, succ32, xD1] at xD
    unfold DX1_addSignal_69
    refine ⟨fun _ => fin D (by rw [xD]; exact mE_wAI.tr mE_wI) (fun a z z4 => by rw [xD]; exact ⟨up2_row z, rfl, rfl, up2_row z4, rfl, rfl⟩) (by rw [xD]; rfl) (fun f hf => ?_) (by rw [xD]; rfl) (by rw [xD]; rfl) (by rw [ei, List.length_append, xD]; exact mI_own _ _ _ _) (by rw [ei, List.length_append]; show (inL τ.2.1).length + 1 ≤ 4; omega) (fun j hj => ?_) (by rw [omk_app, if_neg n31, xD, mI_wI, if_neg (fun z => absurd z.2 (by decide))]; exact j11), fun z => absurd z n31⟩
    · rw [xD, mI_wI, if_neg (by rintro ⟨-, z⟩; rw [z] at hf; exact hf (by decide)), mI_wAI]
    · rw [ei, List.length_append] at hj
      have hj : j < (inL τ.2.1).length + 1 := hj
      rw [ei, xD, mAI_wI, mAI_wAI]
      have gg : (inL τ.2.1 ++ [τ.1.length]).getD j 0 = if j = (inL τ.2.1).length then τ.1.length else (inL τ.2.1).getD j 0 := by
        rw [List.getD_eq_getElem?_getD, List.getD_eq_getElem?_getD]
        by_cases z : j = (inL τ.2.1).length
        · rw [if_pos z, z, List.getElem?_append_right (Nat.le_refl _), Nat.sub_self]; rfl
        · rw [if_neg z, List.getElem?_append_left (by omega)]
      rw [gg]
      by_cases z : j = (inL τ.2.1).length
      · rw [if_pos ⟨rfl, z⟩, if_pos z]
      · rw [if_neg (fun y => z y.2), if_neg z, r4.2.2.2.1]; exact i6 j (by omega)
end
end
section
/-! the class reads what is told: all of it -/
section
variable {b : Nat → Int32} {n s n0 : Nat} {τ : Td} {M M' : Mem} {i o lc rc : Nat} {h : Nat} {Q : Option Value → Mem → Prop}
theorem CT.lim (hC : CT n0 τ M lc rc) : 132 ≤ n0 ∧ n0 + 25 ≤ mN M ∧ mR M 14 7 = some n0 ∧ (lc = n0 + 9 ∨ n0 + 25 ≤ lc) ∧ (rc = n0 + 10 ∨ n0 + 25 ≤ rc) ∧ ok M n0 3 ∧ τ.1.length ≤ 16 ∧ τ.2.2.1.length = τ.1.length := by
  obtain ⟨hE, hP, p3, p4, p5, p6, hs, p7, hb, p8, p9, p10⟩ := hC.1
  exact ⟨p9, p10, p8, p3, p4, hE.1, hE.2.1.1, hE.2.1.2.2.1⟩
/-- one number of 'mix', or one of 'beginning', is written -/
theorem CT.mix {v : Int32} {mx0 : List Int32} {x : Int32} (hC : CT n0 τ M lc rc) (hm : τ.2.2.1 = mx0 ++ [x]) (e : M' = wAI M (n0 + 3) mx0.length v) : CT n0 (τ.1, τ.2.1, mx0 ++ [v], τ.2.2.2.1, τ.2.2.2.2) M' lc rc ∧ TdF n0 M M' lc rc lc rc τ.1.length τ.1.length ∧ fr (fun c => 132 ≤ c) M M' := by
  have lm := hC.lim
  obtain ⟨⟨hE, hP, p3, p4, p5, p6, ⟨s1, s2, s3⟩, p7, ⟨b1, b2, b3⟩, p8, p9, p10⟩, ⟨i1, i2, i3, i4, i5, i6⟩, hmk, ⟨v1, v2, v3, v4, v5⟩, hmx⟩ := hC
  obtain ⟨h1, h2, h3, h4, h5, ⟨a1, a2, a3⟩, h6, ⟨q1, q2, q3⟩, h7, ⟨c1, c2, c3⟩, h8, ⟨d1, d2, d3⟩, h9⟩ := hE
  have hlen : τ.1.length = mx0.length + 1 := by rw [← h2.2.2.1, hm, List.length_append]; rfl
  have row : ∀ a, a ≠ n0 + 3 → sameRow M M' a := fun a z => by rw [e]; exact ⟨rfl, rfl, rfl, up2_row z, rfl, rfl⟩
  have EM : mE M M' := by rw [e]; exact mE_wAI
  have oM : ∀ a c, ok M a c → ok M' a c := fun a c ho => ok_E ho EM
  have rA : ∀ a, a ≠ n0 + 3 → mAI M' a = mAI M a := fun a z => (row a z).2.2.2.1
  refine ⟨⟨⟨⟨oM _ _ h1, ⟨h2.1, h2.2.1, by show (mx0 ++ [v]).length = _; rw [List.length_append, hlen]; rfl, h2.2.2.2⟩, by rw [e]; exact h3, by rw [e]; exact h4, by rw [e]; exact h5, ⟨oM _ _ a1, by rw [e]; exact a2, by rw [e]; exact a3⟩, by rw [e]; exact h6, ⟨oM _ _ q1, by rw [e]; exact q2, by rw [rA _ (by omega)]; exact q3⟩, by rw [e]; exact h7, ⟨oM _ _ c1, by rw [e]; exact c2, fun k hk => ?_⟩, by rw [e]; exact h8, ⟨oM _ _ d1, by rw [e]; exact d2, by rw [e]; exact d3⟩, by rw [e]; exact h9⟩, hP.fr EM (row _ (by omega)) (row _ (by omega)) (row _ (by omega)), p3, p4, by rw [e]; exact p5, by rw [e]; exact p6, ⟨oM _ _ s1, by rw [e]; exact s2, by rw [rA _ (by omega)]; exact s3⟩, by rw [e]; exact p7, ⟨oM _ _ b1, by rw [e]; exact b2, by rw [rA _ (by omega)]; exact b3⟩, by rw [e]; exact p8, p9, by rw [e]; exact p10⟩, ⟨by rw [e]; exact i1, i2, by rw [e]; exact i3, oM _ _ i4, by rw [e]; exact i5, by rw [rA _ (by omega)]; exact i6⟩, by rw [e]; exact hmk, ⟨by rw [e]; exact v1, oM _ _ v2, by rw [e]; exact v3, v4, by rw [rA _ (by omega)]; exact v5⟩, fun j z1 z2 => ?_⟩, ?_, ?_⟩
  · show mAI M' (n0 + 3) k = (mx0 ++ [v]).getD k 0
    have hk : k < τ.1.length := hk
    rw [getD_app (by omega), e, mAI_wAI]
    by_cases z : k = mx0.length
    · rw [if_pos ⟨rfl, z⟩, if_pos z]
    · rw [if_neg (fun y => z y.2), if_neg z]
      have := c3 k hk
      rw [hm, getD_app (by omega), if_neg z] at this
      exact this
  · have z1 : τ.1.length ≤ j := z1
    rw [e, mAI_wAI, if_neg (by rintro ⟨-, y⟩; omega)]; exact hmx j z1 z2
  · exact ⟨⟨EM, fun a _ hn => row a (fun z => hn (Or.inr (Or.inl (by omega))))⟩, by rw [e]; rfl, by rw [e]; rfl, fun f _ => by rw [e]; rfl, fun f _ => by rw [e]; rfl, fun f _ _ => by rw [e]; rfl, by rw [e]; exact Nat.le_refl _, by rw [e]; rfl, Or.inl rfl, Or.inl rfl, Nat.le_refl _⟩
  · exact ⟨EM, fun a _ hn => row a (by omega)⟩
theorem CT.beg {v x : Int64} {vB0 : List Int64} (hC : CT n0 τ M lc rc) (hm : τ.2.2.2.2 = vB0 ++ [x]) (e : M' = wAI M (n0 + 6) vB0.length v.toInt32) : CT n0 (τ.1, τ.2.1, τ.2.2.1, τ.2.2.2.1, vB0 ++ [v]) M' lc rc ∧ TdF n0 M M' lc rc lc rc τ.1.length τ.1.length ∧ fr (fun c => 132 ≤ c) M M' := by
  have lm := hC.lim
  obtain ⟨⟨hE, hP, p3, p4, p5, p6, ⟨s1, s2, s3⟩, p7, ⟨b1, b2, b3⟩, p8, p9, p10⟩, ⟨i1, i2, i3, i4, i5, i6⟩, hmk, ⟨v1, v2, v3, v4, v5⟩, hmx⟩ := hC
  obtain ⟨h1, h2, h3, h4, h5, ⟨a1, a2, a3⟩, h6, ⟨q1, q2, q3⟩, h7, ⟨c1, c2, c3⟩, h8, ⟨d1, d2, d3⟩, h9⟩ := hE
  have hlen : τ.2.2.2.1.length = vB0.length + 1 := by rw [← v4, hm, List.length_append]; rfl
  have row : ∀ a, a ≠ n0 + 6 → sameRow M M' a := fun a z => by rw [e]; exact ⟨rfl, rfl, rfl, up2_row z, rfl, rfl⟩
  have EM : mE M M' := by rw [e]; exact mE_wAI
  have oM : ∀ a c, ok M a c → ok M' a c := fun a c ho => ok_E ho EM
  have rA : ∀ a, a ≠ n0 + 6 → mAI M' a = mAI M a := fun a z => (row a z).2.2.2.1
  refine ⟨⟨⟨⟨oM _ _ h1, h2, by rw [e]; exact h3, by rw [e]; exact h4, by rw [e]; exact h5, ⟨oM _ _ a1, by rw [e]; exact a2, by rw [e]; exact a3⟩, by rw [e]; exact h6, ⟨oM _ _ q1, by rw [e]; exact q2, by rw [rA _ (by omega)]; exact q3⟩, by rw [e]; exact h7, ⟨oM _ _ c1, by rw [e]; exact c2, by rw [rA _ (by omega)]; exact c3⟩, by rw [e]; exact h8, ⟨oM _ _ d1, by rw [e]; exact d2, by rw [e]; exact d3⟩, by rw [e]; exact h9⟩, hP.fr EM (row _ (by omega)) (row _ (by omega)) (row _ (by omega)), p3, p4, by rw [e]; exact p5, by rw [e]; exact p6, ⟨oM _ _ s1, by rw [e]; exact s2, by rw [rA _ (by omega)]; exact s3⟩, by rw [e]; exact p7, ⟨oM _ _ b1, by rw [e]; exact b2, by rw [rA _ (by omega)]; exact b3⟩, by rw [e]; exact p8, p9, by rw [e]; exact p10⟩, ⟨by rw [e]; exact i1, i2, by rw [e]; exact i3, oM _ _ i4, by rw [e]; exact i5, by rw [rA _ (by omega)]; exact i6⟩, by rw [e]; exact hmk, ⟨by rw [e]; exact v1, oM _ _ v2, by rw [e]; exact v3, by show (vB0 ++ [v]).length = _; rw [List.length_append, hlen]; rfl, fun k hk => ?_⟩, by rw [rA _ (by omega)]; exact hmx⟩, ?_, ?_⟩
  · show mAI M' (n0 + 6) k = ((vB0 ++ [v]).getD k 0).toInt32
    have hk : k < τ.2.2.2.1.length := hk
    rw [getD_a64 (by omega), e, mAI_wAI]
    by_cases z : k = vB0.length
    · rw [if_pos ⟨rfl, z⟩, if_pos z]
    · rw [if_neg (fun y => z y.2), if_neg z]
      have := v5 k hk
      rw [hm, getD_a64 (by omega), if_neg z] at this
      exact this
  · exact ⟨⟨EM, fun a _ hn => row a (fun z => hn (Or.inr (Or.inl (by omega))))⟩, by rw [e]; rfl, by rw [e]; rfl, fun f _ => by rw [e]; rfl, fun f _ => by rw [e]; rfl, fun f _ _ => by rw [e]; rfl, by rw [e]; exact Nat.le_refl _, by rw [e]; rfl, Or.inl rfl, Or.inl rfl, Nat.le_refl _⟩
  · exact ⟨EM, fun a _ hn => row a (by omega)⟩
theorem C_addVar {c : Int64} (hC : CT n0 τ M lc rc) (hf : fuT 36 τ = false) (H : ∀ M' x, CT n0 (τ.1, τ.2.1, τ.2.2.1, τ.2.2.2.1 ++ [c], τ.2.2.2.2 ++ [x]) M' lc rc → TdF n0 M M' lc rc lc rc τ.1.length τ.1.length → fr (fun c => 132 ≤ c) M M' → Q none M') : E (h + 2) mdX1_addVariable [.ref n0, .long c] M Q := by
  have hCT := hC
  have lm := hC.lim
  obtain ⟨⟨hE, hP, p3, p4, p5, p6, ⟨s1, s2, s3⟩, p7, ⟨b1, b2, b3⟩, p8, p9, p10⟩, ⟨i1, i2, i3, i4, i5, i6⟩, hmk, ⟨v1, v2, v3, v4, v5⟩, hmx⟩ := hC
  obtain ⟨h1, h2, h3, h4, h5, ⟨a1, a2, a3⟩, h6, ⟨q1, q2, q3⟩, h7, ⟨c1, c2, c3⟩, h8, ⟨d1, d2, d3⟩, h9⟩ := hE
  have hV : τ.2.2.2.1.length < 6 := by
    unfold fuT at hf
    rw [if_pos rfl] at hf
    simp at hf
    omega
  refine KX1_addVariable ?_
  unfold DX1_addVariable_0
  refine ⟨h1, S_isFull hCT ?_⟩
  rw [hf, if_neg (by decide)]
  refine fun _ => ⟨_, rfl, fun _ => ?_, fun z => absurd rfl z⟩
  rw [h4, lt32 (by omega)]
  refine ⟨n0 + 5, h8, d1, by rw [d2]; exact vp_of hV (by decide), fun A x1 M' eM => ?_⟩
  have e12 : mI A n0 12 = Int32.ofNat τ.2.2.2.1.length := by rw [x1]; exact h4
  rw [e12, succ32, x1] at eM
  have row : ∀ a, a ≠ n0 → a ≠ n0 + 5 → sameRow M M' a := fun a z z5 => by rw [eM]; exact ⟨up2_row z, rfl, rfl, rfl, up2_row z5, rfl⟩
  have EM : mE M M' := by rw [eM]; exact mE_wAJ.tr mE_wI
  have oM : ∀ a c, ok M a c → ok M' a c := fun a c ho => ok_E ho EM
  have iM : ∀ f, f ≠ 12 → mI M' n0 f = mI M n0 f := fun f z => by rw [eM, mI_wI, if_neg (fun y => z y.2), mI_wAJ]
  have hll : (τ.2.2.2.1 ++ [c]).length = τ.2.2.2.1.length + 1 := by rw [List.length_append]; rfl
  refine H M' (mAI M (n0 + 6) τ.2.2.2.1.length).toInt64 ⟨⟨⟨oM _ _ h1, ⟨h2.1, h2.2.1, h2.2.2.1, by show (τ.2.2.2.1 ++ [c]).length ≤ 6; omega⟩, by rw [iM 9 (by decide)]; exact h3, by show mI M' n0 12 = Int32.ofNat (τ.2.2.2.1 ++ [c]).length; rw [hll, eM]; exact mI_own _ _ _ _, by rw [eM]; exact h5, ⟨oM _ _ a1, by rw [eM]; exact a2, by rw [(row (n0 + 1) (by omega) (by omega)).2.2.2.2.1]; exact a3⟩, by rw [eM]; exact h6, ⟨oM _ _ q1, by rw [eM]; exact q2, by rw [eM]; exact q3⟩, by rw [eM]; exact h7, ⟨oM _ _ c1, by rw [eM]; exact c2, by rw [eM]; exact c3⟩, by rw [eM]; exact h8, ⟨oM _ _ d1, by rw [eM]; exact d2, fun k hk => ?_⟩, by rw [eM]; exact h9⟩, hP.fr EM (row _ (by omega) (by omega)) (row _ (by omega) (by omega)) (row _ (by omega) (by omega)), p3, p4, by rw [eM]; exact p5, by rw [eM]; exact p6, ⟨oM _ _ s1, by rw [eM]; exact s2, by rw [eM]; exact s3⟩, by rw [eM]; exact p7, ⟨oM _ _ b1, by rw [eM]; exact b2, by rw [eM]; exact b3⟩, by rw [eM]; exact p8, p9, by rw [eM]; exact p10⟩, ⟨by rw [iM 10 (by decide)]; exact i1, i2, by rw [eM]; exact i3, oM _ _ i4, by rw [eM]; exact i5, by rw [eM]; exact i6⟩, by rw [iM 11 (by decide)]; exact hmk, ⟨by rw [eM]; exact v1, oM _ _ v2, by rw [eM]; exact v3, by show (τ.2.2.2.2 ++ [_]).length = (τ.2.2.2.1 ++ [c]).length; rw [List.length_append, List.length_append, v4]; rfl, fun k hk => ?_⟩, by rw [eM]; exact hmx⟩ ?_ ?_
  · show mAJ M' (n0 + 5) k = (τ.2.2.2.1 ++ [c]).getD k 0
    have hk : k < (τ.2.2.2.1 ++ [c]).length := hk
    rw [hll] at hk
    rw [getD_a64 hk, eM, mAJ_wI, mAJ_wAJ]
    by_cases z : k = τ.2.2.2.1.length
    · rw [if_pos ⟨rfl, z⟩, if_pos z]
    · rw [if_neg (fun y => z y.2), if_neg z]; exact d3 k (by omega)
  · show mAI M' (n0 + 6) k = ((τ.2.2.2.2 ++ [(mAI M (n0 + 6) τ.2.2.2.1.length).toInt64]).getD k 0).toInt32
    have hk : k < (τ.2.2.2.1 ++ [c]).length := hk
    rw [hll] at hk
    rw [getD_a64 (by rw [v4]; exact hk), v4, eM, mAI_wI, mAI_wAJ]
    by_cases z : k = τ.2.2.2.1.length
    · rw [if_pos z, z]; exact (Int32.toInt32_toInt64 _).symm
    · rw [if_neg z]; exact v5 k (by omega)
  · exact ⟨⟨EM, fun a _ hn => row a (fun z => hn (Or.inr (Or.inl (by omega)))) (fun z => hn (Or.inr (Or.inl (by omega))))⟩, by rw [eM]; rfl, by rw [eM]; rfl, fun f hf => iM f (by rintro rfl; exact hf (by decide)), fun f _ => by rw [(row (n0 + 8) (by omega) (by omega)).1], fun f _ _ => by rw [eM]; rfl, by rw [eM]; exact Nat.le_refl _, by rw [eM]; rfl, Or.inl rfl, Or.inl rfl, Nat.le_refl _⟩
  · exact ⟨EM, fun a _ hn => row a (by omega) (by omega)⟩
end
end
