/-! 'multianewarray' of an int[3][k] over the memory -/
/-- a row of three rows of k ints -/
def nw3 (M : Mem) (k : Nat) : Mem := (mN M + 4, mS M + (3 + 3 * k), va_up (va_up (va_up (va_up (mK M) (mN M) 25) (mN M + 1) 21) (mN M + 2) 21) (mN M + 3) 21, mI M, mJ M, mR M, va_up (va_up (va_up (va_up (mL M) (mN M) 3) (mN M + 1) k) (mN M + 2) k) (mN M + 3) k,
  va_up (va_up (va_up (va_up (mAI M) (mN M) (fun _ => 0)) (mN M + 1) (fun _ => 0)) (mN M + 2) (fun _ => 0)) (mN M + 3) (fun _ => 0), va_up (va_up (va_up (va_up (mAJ M) (mN M) (fun _ => 0)) (mN M + 1) (fun _ => 0)) (mN M + 2) (fun _ => 0)) (mN M + 3) (fun _ => 0),
  va_up (va_up (va_up (va_up (mAR M) (mN M) (fun j => some (mN M + 1 + j))) (mN M + 1) (fun _ => none)) (mN M + 2) (fun _ => none)) (mN M + 3) (fun _ => none))
theorem mE_nw3 {M : Mem} {k : Nat} : mE M (nw3 M k) := by
  refine ⟨Nat.le_add_right _ _, Nat.le_add_right _ _, fun a h => ⟨?_, ?_⟩⟩
  · show va_up (va_up (va_up (va_up (mK M) (mN M) 25) (mN M + 1) 21) (mN M + 2) 21) (mN M + 3) 21 a = _
    rw [va_up_ne _ _ (by omega), va_up_ne _ _ (by omega), va_up_ne _ _ (by omega), va_up_ne _ _ (by omega)]
  · show va_up (va_up (va_up (va_up (mL M) (mN M) 3) (mN M + 1) k) (mN M + 2) k) (mN M + 3) k a = _
    rw [va_up_ne _ _ (by omega), va_up_ne _ _ (by omega), va_up_ne _ _ (by omega), va_up_ne _ _ (by omega)]
theorem nw3_old {M : Mem} {k b : Nat} (hb : b < mN M) : mK (nw3 M k) b = mK M b ∧ mL (nw3 M k) b = mL M b ∧ mAI (nw3 M k) b = mAI M b ∧ mAJ (nw3 M k) b = mAJ M b ∧ mAR (nw3 M k) b = mAR M b ∧ mI (nw3 M k) b = mI M b ∧ mJ (nw3 M k) b = mJ M b ∧ mR (nw3 M k) b = mR M b := by
  refine ⟨(mE_nw3.2.2 b hb).1, (mE_nw3.2.2 b hb).2, ?_, ?_, ?_, rfl, rfl, rfl⟩
  · show va_up (va_up (va_up (va_up (mAI M) (mN M) _) (mN M + 1) _) (mN M + 2) _) (mN M + 3) _ b = _
    rw [va_up_ne _ _ (by omega), va_up_ne _ _ (by omega), va_up_ne _ _ (by omega), va_up_ne _ _ (by omega)]
  · show va_up (va_up (va_up (va_up (mAJ M) (mN M) _) (mN M + 1) _) (mN M + 2) _) (mN M + 3) _ b = _
    rw [va_up_ne _ _ (by omega), va_up_ne _ _ (by omega), va_up_ne _ _ (by omega), va_up_ne _ _ (by omega)]
  · show va_up (va_up (va_up (va_up (mAR M) (mN M) _) (mN M + 1) _) (mN M + 2) _) (mN M + 3) _ b = _
    rw [va_up_ne _ _ (by omega), va_up_ne _ _ (by omega), va_up_ne _ _ (by omega), va_up_ne _ _ (by omega)]
theorem nw3_top {M : Mem} {k : Nat} : mK (nw3 M k) (mN M) = 25 ∧ mL (nw3 M k) (mN M) = 3 ∧ mAR (nw3 M k) (mN M) = fun j => some (mN M + 1 + j) := by
  refine ⟨?_, ?_, ?_⟩
  · show va_up (va_up (va_up (va_up (mK M) (mN M) 25) (mN M + 1) 21) (mN M + 2) 21) (mN M + 3) 21 (mN M) = _
    rw [va_up_ne _ _ (by omega), va_up_ne _ _ (by omega), va_up_ne _ _ (by omega), va_up_self]
  · show va_up (va_up (va_up (va_up (mL M) (mN M) 3) (mN M + 1) k) (mN M + 2) k) (mN M + 3) k (mN M) = _
    rw [va_up_ne _ _ (by omega), va_up_ne _ _ (by omega), va_up_ne _ _ (by omega), va_up_self]
  · show va_up (va_up (va_up (va_up (mAR M) (mN M) _) (mN M + 1) _) (mN M + 2) _) (mN M + 3) _ (mN M) = _
    rw [va_up_ne _ _ (by omega), va_up_ne _ _ (by omega), va_up_ne _ _ (by omega), va_up_self]
theorem nw3_row {M : Mem} {k j : Nat} (hj : j < 3) : mK (nw3 M k) (mN M + 1 + j) = 21 ∧ mL (nw3 M k) (mN M + 1 + j) = k ∧ mAI (nw3 M k) (mN M + 1 + j) = fun _ => 0 := by
  have h3 : j = 0 ∨ j = 1 ∨ j = 2 := by omega
  refine ⟨?_, ?_, ?_⟩
  · show va_up (va_up (va_up (va_up (mK M) (mN M) 25) (mN M + 1) 21) (mN M + 2) 21) (mN M + 3) 21 _ = _
    rcases h3 with rfl | rfl | rfl <;> simp [va_up]
  · show va_up (va_up (va_up (va_up (mL M) (mN M) 3) (mN M + 1) k) (mN M + 2) k) (mN M + 3) k _ = _
    rcases h3 with rfl | rfl | rfl <;> simp [va_up]
  · show va_up (va_up (va_up (va_up (mAI M) (mN M) _) (mN M + 1) _) (mN M + 2) _) (mN M + 3) _ _ = _
    rcases h3 with rfl | rfl | rfl <;> simp [va_up]
section MU
variable {h : Nat} {d : MD} {pc : Nat} {lv : List (Nat × Value)} {st : List Value} {M : Mem} {Q : Option Value → Mem → Prop}
theorem xt_mul2 {idx : Nat} {k : Int32} {K : Nat} (hd : decode d.2.1 pc = .ok (.multianewarray idx 2, 4)) (hc : Cond.classLink d.1.cls idx "[[I" ∈ TB) (hw : Cond.arrayClass .int ∈ TB) (hk : ¬ k < 0) (hK : k.toNatClampNeg = K) (hb2 : K ≤ 1000) (kk : T h d (pc + 4) lv (.ref (mN M) :: st) (nw3 M K) Q) : T h d pc lv (.int k :: .int 3 :: st) M Q := by
  obtain ⟨r, M', hv, hq⟩ := kk
  refine ⟨r, M', ⟨mE_nw3.tr hv.1, fun hb p l e s m args below meth c D cy A M0 ba sp H locs ls X h1 hP hD hS hl => ?_⟩, hq⟩
  have g1 : mN M + 4 ≤ mN M' := hv.1.1
  have g2 : mS M + (3 + 3 * K) ≤ mS M' := hv.1.2.1
  have hts := X.2.2.2.2.2.2.2.1
  have hKK := X.2.2.2.2.2.2.2.2.1
  have hA := X.2.2.2.2.2.2.2.2.2.1
  have hsz := X.2.2.2.2.2.2.2.2.2.2.1
  have hba := X.2.2.2.2.2.2.2.2.2.2.2.2.1
  refine W.bound (fun hz => ?_)
  have hsize : H.size = ba + mN M := by
    have q1 := hS.1
    by_cases hm0 : mN M = 0
    · omega
    · have q2 := (hP (mN M - 1) _ (mW_at (by omega))).lt
      have q3 : adf ba sp (mN M - 1) = ba + (mN M - 1) := if_pos (by omega)
      have q4 : (adf ba sp (mN M - 1)) < H.size := q2
      rw [q3] at q4
      omega
  refine W.mul2 (R := rmv h (mN M' - mN M0) (mS M' - mS M0)) (cells := mN M - mN M0) (slots := mS M - mS M0) X.1 X.2.1 X.2.2.2.1 (hts _ hc) X.2.2.2.2.2.2.2.2.2.2.2.1.2.2.2.2.2.2.2.2.2.2.2 (hts _ hw) (g := F0 m pc ls ((.int k :: .int 3 :: st).map (cv (adf ba sp)))) (n := 3) (k := k) (N := 3) (K := K) (rest := st.map (cv (adf ba sp))) rfl hd rfl (by decide) hk rfl hK (by omega) hb2 (by show _ ≤ mN M' - mN M0; omega) (by show _ ≤ mS M' - mS M0; omega) hsize (fun H1 cA comp z1 z2 z3 z4 z5 z6 => ?_)
  have e1 : adf ba sp (mN M) = ba + mN M := if_pos (by omega)
  have er : ∀ j, j < 3 → adf ba sp (mN M + 1 + j) = ba + mN M + 1 + j := fun j hj => (if_pos (by omega)).trans (by omega)
  have y1 : cA = cy 25 := Option.some.inj (z1.symm.trans (hKK.2 5 (cy 25, .array .int) rfl).2)
  have y2 : comp = cy 21 := Option.some.inj (z2.symm.trans (hKK.2 1 (cy 21, .int) rfl).2)
  subst y1; subst y2
  have c0 : ∀ b, b < mN M → cE cy (adf ba sp) (nw3 M K) b = cE cy (adf ba sp) M b := by
    intro b hb3
    obtain ⟨k1, k6, k2, k3, k4, k7, k8, k9⟩ := nw3_old (k := K) hb3
    have k5 : ∀ c, fV (adf ba sp) (nw3 M K) c b = fV (adf ba sp) M c b := fun c => by funext j; unfold fV; rw [k7, k8, k9]
    unfold cE
    rw [k1, k5, k2, k3, k4, k6]
  have cT : cE cy (adf ba sp) (nw3 M K) (mN M) = .inl (cy 25, 3, .inr (.inr (.inr (.inr (fun i => some (adf ba sp (mN M + 1 + i))))))) := by
    rw [cE_arrR nw3_top.1 (by decide), nw3_top.2.1, nw3_top.2.2]
    rfl
  have cR : ∀ j, j < 3 → cE cy (adf ba sp) (nw3 M K) (mN M + 1 + j) = .inl (cy 21, K, .inl (fun _ => 0)) := by
    intro j hj
    rw [cE_arrI (nw3_row hj).1 (by decide) (by decide), (nw3_row hj).2.1, (nw3_row hj).2.2]
  have hP1 : va_P D vwCl (mW cy (adf ba sp) (nw3 M K)) H1 := by
    intro b x hx
    have hbl : b < mN M + 4 := by
      have := (List.getElem?_eq_some_iff.mp hx).1
      rw [mW_len] at this
      exact this
    rw [mW_at (show b < mN (nw3 M K) from hbl)] at hx
    cases hx
    by_cases hb3 : b < mN M
    · have q1 := hP b _ (mW_at hb3)
      rw [c0 b hb3]
      have q2 : ∀ y : Nat × va_E, va_at D vwCl y H → H1[y.1]? = H[y.1]? → va_at D vwCl y H1 := fun y q e => by
        have : va_P D vwCl [y] H := fun k z hz => by
          have : k = 0 := by
            have := (List.getElem?_eq_some_iff.mp hz).1
            simp at this
            exact this
          subst this
          cases hz
          exact q
        exact (this.kept (fun k z hz => by
          have : k = 0 := by
            have := (List.getElem?_eq_some_iff.mp hz).1
            simp at this
            exact this
          subst this
          cases hz
          exact e)) 0 y rfl
      exact q2 _ q1 (z4 _ (by rw [← hsize]; exact q1.lt))
    · by_cases hb4 : b = mN M
      · subst hb4
        rw [cT, e1]
        show H1[ba + mN M]? = some (vp_cell (cy 25) _)
        rw [vp_cell_q, z5]
        congr 1
        exact arrV_of (cl2 := arrV (cy 25) 0 (fun _ => .null)) rfl (fun j hj => by show Value.ref _ = va_rf (some _); rw [er j hj]; rfl)
      · obtain ⟨j, hj, rfl⟩ : ∃ j, j < 3 ∧ b = mN M + 1 + j := ⟨b - mN M - 1, by omega, by omega⟩
        rw [cR j hj, er j hj]
        exact z6 j hj
  have hD1 : va_D A (mW cy (adf ba sp) (nw3 M K)) := by
    have hadr : ∀ b, b < mN M + 4 → adf ba sp b = ba + b := fun b hb3 => if_pos (by omega)
    refine ⟨fun i j x y hx hy hxy => ?_, fun b x hx => ?_⟩
    · have i1 := (List.getElem?_eq_some_iff.mp hx).1
      have i2 := (List.getElem?_eq_some_iff.mp hy).1
      rw [mW_len] at i1 i2
      rw [mW_at i1] at hx
      rw [mW_at i2] at hy
      cases hx; cases hy
      have hxy : adf ba sp i = adf ba sp j := hxy
      rw [hadr i i1, hadr j i2] at hxy
      omega
    · have i1 := (List.getElem?_eq_some_iff.mp hx).1
      rw [mW_len] at i1
      rw [mW_at i1] at hx
      cases hx
      by_cases hb3 : b < mN M
      · exact hD.2 b (adf ba sp b, cE cy (adf ba sp) M b) (mW_at hb3)
      · show A (adf ba sp b)
        rw [hadr b i1]
        refine hA _ ?_
        omega
  have w := hv.2 hb p l e s m args below meth c D cy A M0 ba sp H1 locs ls X ⟨by show mN M0 ≤ mN M + 4; omega, by show mS M0 ≤ mS M + (3 + 3 * K); omega⟩ hP1 hD1 ⟨by have := hS.1; omega, fun x a1 a2 => (z4 x (by have := hS.1; omega)).trans (hS.2.1 x a1 a2), hS.2.2⟩ hl
  rw [show mN (nw3 M K) = mN M + 4 from rfl, show mS (nw3 M K) = mS M + (3 + 3 * K) from rfl, show mN M + 4 - mN M0 = mN M - mN M0 + 1 + 3 by omega, show mS M + (3 + 3 * K) - mS M0 = mS M - mS M0 + 3 + 3 * K by omega] at w
  rw [← e1]
  exact w
end MU
