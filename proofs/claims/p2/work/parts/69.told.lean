/-! the reference: what a reading of module m may change (fields fs, rows of ints cs, of longs js), and never of the modules before -/
def szA (a : Nat) : Nat := if a ∈ [34, 35, 36, 44, 48, 54, 55, 56, 57, 79, 91, 92, 94, 122] then 1 else if a ∈ [37, 38, 39, 40] then 16 else if a = 41 then 4 else if a ∈ [42, 43] then 6 else if a ∈ [45, 46, 47] then 410 else if a ∈ [49, 50, 51] then 810 else if 58 ≤ a ∧ a ≤ 72 ∨ a = 90 then 40 else if 80 ≤ a ∧ a ≤ 89 then 700 else if a = 93 then 1400 else 0
def RG (m : Nat) (fs cs js : List Nat) (M M' : Mem) : Prop := mN M' = mN M ∧ mS M' = mS M ∧ mK M' = mK M ∧ mL M' = mL M ∧ mR M' = mR M ∧ mAR M' = mAR M ∧ mJ M' = mJ M ∧ (∀ a, a ≠ 29 → mI M' a = mI M a) ∧ (∀ f, f ∉ fs → mI M' 29 f = mI M 29 f) ∧ (∀ a, a ∉ cs → mAI M' a = mAI M a) ∧ (∀ a, a ∉ js → mAJ M' a = mAJ M a) ∧ (∀ a k, k < szA a * m → mAI M' a k = mAI M a k ∧ mAJ M' a k = mAJ M a k)
section
variable {m : Nat} {fs cs js : List Nat} {M M' M1 M2 : Mem}
theorem RG.rf : RG m fs cs js M M := ⟨rfl, rfl, rfl, rfl, rfl, rfl, rfl, fun _ _ => rfl, fun _ _ => rfl, fun _ _ => rfl, fun _ _ => rfl, fun _ _ _ => ⟨rfl, rfl⟩⟩
theorem RG.tr (h : RG m fs cs js M M1) (k : RG m fs cs js M1 M2) : RG m fs cs js M M2 := by
  obtain ⟨a1, a2, a3, a4, a5, a6, a7, a8, a9, aA, aB, aC⟩ := h
  obtain ⟨b1, b2, b3, b4, b5, b6, b7, b8, b9, bA, bB, bC⟩ := k
  exact ⟨b1.trans a1, b2.trans a2, b3.trans a3, b4.trans a4, b5.trans a5, b6.trans a6, b7.trans a7, fun a q => (b8 a q).trans (a8 a q), fun f q => (b9 f q).trans (a9 f q), fun a q => (bA a q).trans (aA a q), fun a q => (bB a q).trans (aB a q), fun a k q => ⟨(bC a k q).1.trans (aC a k q).1, (bC a k q).2.trans (aC a k q).2⟩⟩
theorem RG.more {fs' cs' js' : List Nat} (h : RG m fs cs js M M1) (h1 : ∀ f ∈ fs, f ∈ fs') (h2 : ∀ f ∈ cs, f ∈ cs') (h3 : ∀ f ∈ js, f ∈ js') : RG m fs' cs' js' M M1 := by
  obtain ⟨a1, a2, a3, a4, a5, a6, a7, a8, a9, aA, aB, aC⟩ := h
  exact ⟨a1, a2, a3, a4, a5, a6, a7, a8, fun f q => a9 f (fun z => q (h1 f z)), fun f q => aA f (fun z => q (h2 f z)), fun f q => aB f (fun z => q (h3 f z)), aC⟩
theorem RG.i {f : Nat} {v : Int32} (hf : f ∈ fs) : RG m fs cs js M (wI M 29 f v) := ⟨rfl, rfl, rfl, rfl, rfl, rfl, rfl, fun a q => up2_row q, fun g q => by rw [mI_wI, if_neg (fun z : 29 = 29 ∧ g = f => q (by rw [z.2]; exact hf))], fun _ _ => rfl, fun _ _ => rfl, fun _ _ _ => ⟨rfl, rfl⟩⟩
theorem RG.ai {c k : Nat} {v : Int32} (hc : c ∈ cs) (hk : szA c * m ≤ k) : RG m fs cs js M (wAI M c k v) := ⟨rfl, rfl, rfl, rfl, rfl, rfl, rfl, fun _ _ => rfl, fun _ _ => rfl, fun a q => up2_row (by rintro rfl; exact q hc), fun _ _ => rfl, fun a j q => ⟨by rw [mAI_wAI, if_neg (by rintro ⟨rfl, z⟩; omega)], rfl⟩⟩
theorem RG.aj {c k : Nat} {v : Int64} (hc : c ∈ js) (hk : szA c * m ≤ k) : RG m fs cs js M (wAJ M c k v) := ⟨rfl, rfl, rfl, rfl, rfl, rfl, rfl, fun _ _ => rfl, fun _ _ => rfl, fun _ _ => rfl, fun a q => up2_row (by rintro rfl; exact q hc), fun a j q => ⟨rfl, by rw [mAJ_wAJ, if_neg (by rintro ⟨rfl, z⟩; omega)]⟩⟩
theorem RG.e (h : RG m fs cs js M M') : mE M M' := ⟨Nat.le_of_eq h.1.symm, Nat.le_of_eq h.2.1.symm, fun a _ => ⟨by rw [h.2.2.1], by rw [h.2.2.2.1]⟩⟩
theorem RG.fix (h : RG m fs cs js M M') (F : Fix M) (hj : 19 ∉ js) : Fix M' := F.of_fr (S := fun _ => True) h.e (fun e _ => by rw [h.2.2.2.2.1]) (h.2.2.2.2.2.2.2.2.2.2.1 19 hj)
theorem RG.fI (h : RG m fs cs js M M') {f : Nat} (hf : f ∉ fs) : mI M' 29 f = mI M 29 f := h.2.2.2.2.2.2.2.2.1 f hf
theorem RG.fA (h : RG m fs cs js M M') {c : Nat} (hf : c ∉ cs) : mAI M' c = mAI M c := h.2.2.2.2.2.2.2.2.2.1 c hf
theorem RG.fJ (h : RG m fs cs js M M') {c : Nat} (hf : c ∉ js) : mAJ M' c = mAJ M c := h.2.2.2.2.2.2.2.2.2.2.1 c hf
theorem sz_no {a : Nat} (h1 : a ∉ [48, 49, 51]) (h2 : a ∈ [48, 49, 51, 52, 53]) : szA a = 0 := by
  simp only [List.mem_cons, List.not_mem_nil, or_false, not_or] at h1 h2
  have : a = 52 ∨ a = 53 := by omega
  rcases this with rfl | rfl <;> rfl
theorem RFm.g (h : RFm m M M') : RG m [5, 6, 7, 29, 31, 32, 33] [48, 49, 51, 52, 53] [50] M M' := by
  obtain ⟨a1, a2, a3, a4, a5, a6, a7, a8, a9, aA, aB, aC, aD⟩ := h
  refine ⟨a1, a2, a3, a4, a5, a6, a7, a8, a9, aA, fun a q => aB a (fun z => q (by rw [z]; decide)), fun a k q => ⟨?_, ?_⟩⟩
  · by_cases h1 : a ∈ [48, 49, 51, 52, 53]
    · by_cases h2 : a = 48
      · subst h2; exact aC k (by have : szA 48 = 1 := by decide
                                 rw [this] at q; omega)
      · by_cases h3 : a = 49
        · subst h3; exact (aD k (by have : szA 49 = 810 := by decide
                                    rw [this] at q; omega)).1
        · by_cases h4 : a = 51
          · subst h4; exact (aD k (by have : szA 51 = 810 := by decide
                                      rw [this] at q; omega)).2.2
          · rw [sz_no (by simp only [List.mem_cons, List.not_mem_nil, or_false, not_or]; exact ⟨h2, h3, h4⟩) h1] at q; omega
    · rw [aA a h1]
  · by_cases h1 : a = 50
    · subst h1; exact (aD k (by have : szA 50 = 810 := by decide
                                rw [this] at q; omega)).2.1
    · rw [aB a h1]
theorem sz_no2 {a : Nat} (h1 : a ∉ [40, 44, 45, 46, 47]) (h2 : a ∈ [40, 44, 45, 46, 47, 52, 53]) : szA a = 0 := by
  simp only [List.mem_cons, List.not_mem_nil, or_false, not_or] at h1 h2
  have : a = 52 ∨ a = 53 := by omega
  rcases this with rfl | rfl <;> rfl
theorem RFc.g (h : RFc m M M') : RG m [5, 6, 7, 29, 31, 32, 33] [40, 44, 45, 46, 47, 52, 53] [] M M' := by
  obtain ⟨a1, a2, a3, a4, a5, a6, a7, a8, a9, aA, aB, aC, aD, aE⟩ := h
  refine ⟨a1, a2, a3, a4, a5, a6, a7, a8, a9, aA, fun a q => by rw [aB], fun a k q => ⟨?_, by rw [aB]⟩⟩
  by_cases h1 : a ∈ [40, 44, 45, 46, 47, 52, 53]
  · by_cases h2 : a ∈ [40, 44, 45, 46, 47]
    · simp only [List.mem_cons, List.not_mem_nil, or_false] at h2
      rcases h2 with rfl | rfl | rfl | rfl | rfl
      · exact aE k (by have : szA 40 = 16 := by decide
                       rw [this] at q; omega)
      · exact aC k (by have : szA 44 = 1 := by decide
                       rw [this] at q; omega)
      · exact (aD k (by have : szA 45 = 410 := by decide
                        rw [this] at q; omega)).1
      · exact (aD k (by have : szA 46 = 410 := by decide
                        rw [this] at q; omega)).2.1
      · exact (aD k (by have : szA 47 = 410 := by decide
                        rw [this] at q; omega)).2.2
    · rw [sz_no2 h2 h1] at q; omega
  · rw [aA a h1]
end
/-! what a text tells, in the middle: names, roles, how numbers come together; variables and their first numbers -/
abbrev Td : Type := List Int64 × List Int32 × List Int32 × List Int64 × List Int64
def inL (ro : List Int32) : List Nat := (List.range ro.length).filter (fun k => decide (ro.getD k 0 = 30))
theorem getD_a32 {l : List Int32} {x : Int32} {k : Nat} (h : k < l.length) : (l ++ [x]).getD k 0 = l.getD k 0 := by
  rw [List.getD_eq_getElem?_getD, List.getD_eq_getElem?_getD, List.getElem?_append_left h]
theorem inL_app {ro : List Int32} {x : Int32} : inL (ro ++ [x]) = inL ro ++ (if x = 30 then [ro.length] else []) := by
  unfold inL
  rw [List.length_append]
  show (List.range (ro.length + 1)).filter _ = _
  rw [List.range_succ, List.filter_append]
  congr 1
  · refine List.filter_congr (fun k hk => ?_)
    rw [getD_a32 (List.mem_range.mp hk)]
  · have e : (ro ++ [x]).getD ro.length 0 = x := by rw [List.getD_eq_getElem?_getD, List.getElem?_append_right (Nat.le_refl _), Nat.sub_self]; rfl
    by_cases h : x = 30
    · rw [if_pos h, List.filter_cons_of_pos (by rw [e]; exact decide_eq_true h)]; rfl
    · rw [if_neg h, List.filter_cons_of_neg (by rw [e]; simp [h])]; rfl
theorem inL_lt {ro : List Int32} : ∀ x ∈ inL ro, x < ro.length := fun x hx => List.mem_range.mp (List.mem_filter.mp hx).1
def ex (b : Nat → Int32) (n i : Nat) (c : Int32) : Except (Int32 × Nat) Nat := if tK b n i = c then adv' b n i else .error (2, tP b n i)
def fuT (r : Int32) (τ : Td) : Bool := if r = 36 then decide (6 ≤ τ.2.2.2.1.length) else (decide (16 ≤ τ.1.length) || (decide (r = 30) && decide (4 ≤ (inL τ.2.1).length)))
def toT (c : Int64) (τ : Td) : Bool := (fd τ.1 c).isSome || (fd τ.2.2.2.1 c).isSome
def tdX (b : Nat → Int32) (n j : Nat) (r : Int32) (τ : Td) : Except (Int32 × Nat) Nat := if tK b n j = 2 then (if toT (tC b n j) τ = true then .error (3, tP b n j) else if fuT r τ = true then .error (6, tP b n j) else adv' b n j) else .error (2, tP b n j)
def tdH (b : Nat → Int32) (n j : Nat) : Except (Int32 × Nat) (Nat × Int32) := if tK b n j = 4 then (adv' b n j).bind fun k => if tK b n k = 33 ∨ tK b n k = 34 ∨ tK b n k = 35 then (adv' b n k).bind fun l => .ok (l, tK b n k) else .error (2, tP b n k) else .ok (j, 0)
def tdV (b : Nat → Int32) (n j : Nat) : Except (Int32 × Nat) (Nat × Int64) := (ex b n j 5).bind fun k => if tK b n k = 21 then (adv' b n k).bind fun l => if tK b n l = 3 then (adv' b n l).bind fun p => .ok (p, -(tC b n l)) else .error (2, tP b n l) else if tK b n k = 3 then (adv' b n k).bind fun p => .ok (p, tC b n k) else .error (2, tP b n k)
def td (b : Nat → Int32) (n : Nat) : Nat → Nat → Td → Except (Int32 × Nat) (Nat × Td)
  | 0, _, _ => .error (0, 0)
  | g + 1, i, τ =>
    if tK b n i = 36 then (adv' b n i).bind fun j => (tdX b n j 36 τ).bind fun k => (tdV b n k).bind fun r => (ex b n r.1 13).bind fun l => td b n g l (τ.1, τ.2.1, τ.2.2.1, τ.2.2.2.1 ++ [tC b n j], τ.2.2.2.2 ++ [r.2])
    else if tK b n i = 30 ∨ tK b n i = 31 ∨ tK b n i = 32 then (adv' b n i).bind fun j => (tdX b n j (tK b n i) τ).bind fun k => (tdH b n k).bind fun r => (ex b n r.1 13).bind fun l => td b n g l (τ.1 ++ [tC b n j], τ.2.1 ++ [tK b n i], τ.2.2.1 ++ [r.2], τ.2.2.2.1, τ.2.2.2.2)
    else .ok (i, τ)
/-- what a reading keeps to -/
def StOk {α : Type} (b : Nat → Int32) (n s i : Nat) (P : Nat → α → Prop) (R : Except (Int32 × Nat) (Nat × α)) : Prop := match R with
  | .error e => e.1 ≠ 0
  | .ok r => i ≤ r.1 ∧ r.1 ≤ s ∧ tK b n r.1 ≠ 0 ∧ P r.1 r.2
theorem adv_ok1 {b : Nat → Int32} {n s i : Nat} (hi : i < s) : match adv' b n i with
  | .error e => e.1 ≠ 0
  | .ok j => j = i + 1 ∧ j ≤ s ∧ tK b n j ≠ 0 := by
  rcases adv_cases (b := b) (n := n) (i := i) with ⟨k1, e⟩ | ⟨k1, e⟩ <;> rw [e]
  · show (1 : Int32) ≠ 0; decide
  · exact ⟨rfl, hi, k1⟩
