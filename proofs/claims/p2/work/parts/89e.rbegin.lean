/-! the reference: rows begin, parts begin -/
section
variable {b : Nat → Int32} {n s m : Nat} {τ : Td} {K : List KE} {σ : PS} {M M' : Mem} {i o h : Nat} {Q : Option Value → Mem → Prop}
theorem St.put {M M' : Mem} {c f a0 x y : Nat} {l : List Nat} (hs : St M c f a0 (x :: l)) (e : M' = wAI M c l.length (Int32.ofNat (a0 + y))) : St M' c f a0 (y :: l) := by
  obtain ⟨h1, h2⟩ := hs
  refine ⟨by rw [e]; exact h1, fun j hj => ?_⟩
  have hj : j < l.length + 1 := hj
  rw [rev_app hj, e]
  show up2 (mAI M) c l.length _ c j = _
  by_cases q : j = l.length
  · rw [if_pos q, q]; exact up2_eq
  · rw [if_neg q, up2_ne (fun z => q z.2), h2 j hj, rev_app hj, if_neg q]
theorem i32_nat (v : Int32) : ∃ x : Nat, v = Int32.ofNat x := ⟨v.toBitVec.toNat, by
  refine Int32.toBitVec_inj.mp ?_
  rw [Int32.toBitVec_ofNat']
  refine BitVec.eq_of_toNat_eq ?_
  rw [BitVec.toNat_ofNat, Nat.mod_eq_of_lt v.toBitVec.isLt]⟩
theorem RPd.cn {t v : Nat} (hd : RPd m τ K σ M) (ht : t < 4) : RPd m τ K ((va_up σ.1.1 t v, σ.1.2), σ.2) (wAI M (54 + t) m (Int32.ofNat v)) := by
  obtain ⟨d1, d2, d3, d4, d5, d6, d7, d8, d9⟩ := hd
  have ne : ∀ {a : Nat}, a ≠ 54 + t → mAI (wAI M (54 + t) m (Int32.ofNat v)) a = mAI M a := fun q => mAI_wAI_ne q
  have e4 : va_up σ.1.1 t v 4 = σ.1.1 4 := va_up_ne _ _ (by omega)
  refine ⟨d1.fr (ne (by omega)) (ne (by omega)) rfl (ne (by omega)), d2.fr (ne (by omega)) (ne (by omega)) (ne (by omega)) (ne (by omega)) (ne (by omega)), fun a q1 q2 q3 => by rw [ne (by omega)]; exact d3 a q1 q2 q3, d4, ?_, d6.trans (congrArg Int32.ofNat e4.symm), d7.fr rfl (ne (by omega)), d8.fr rfl (ne (by omega)), d9.fr rfl (ne (by omega))⟩
  have one : ∀ u, u < 4 → mAI M (54 + u) m = Int32.ofNat (σ.1.1 u) → mAI (wAI M (54 + t) m (Int32.ofNat v)) (54 + u) m = Int32.ofNat (va_up σ.1.1 t v u) := by
    intro u hu hd
    by_cases q : u = t
    · rw [q, va_up_self]; exact up2_eq
    · rw [va_up_ne _ _ q, ne (by omega)]; exact hd
  exact ⟨one 0 (by decide) d5.1, one 1 (by decide) d5.2.1, one 2 (by decide) d5.2.2.1, one 3 (by decide) d5.2.2.2⟩
theorem RPd.sq {v : Nat} (hd : RPd m τ K σ M) : RPd m τ K ((va_up σ.1.1 4 v, σ.1.2), σ.2) (wI M 29 53 (Int32.ofNat v)) := by
  obtain ⟨d1, d2, d3, d4, d5, d6, d7, d8, d9⟩ := hd
  have ne : ∀ u, u ≠ 4 → va_up σ.1.1 4 v u = σ.1.1 u := fun u hu => va_up_ne _ _ hu
  have e0 : mI (wI M 29 53 (Int32.ofNat v)) 29 60 = mI M 29 60 := by rw [mI_wI, if_neg (by decide)]
  refine ⟨d1.fr rfl rfl rfl rfl, d2.fr rfl rfl rfl rfl rfl, d3, d4, ⟨d5.1.trans (congrArg Int32.ofNat (ne 0 (by decide)).symm), d5.2.1.trans (congrArg Int32.ofNat (ne 1 (by decide)).symm), d5.2.2.1.trans (congrArg Int32.ofNat (ne 2 (by decide)).symm), d5.2.2.2.trans (congrArg Int32.ofNat (ne 3 (by decide)).symm)⟩, (mI_own _ _ _ _).trans (congrArg Int32.ofNat (show v = va_up σ.1.1 4 v 4 from (va_up_self _ _ _).symm)), d7.fr e0 rfl, d8.fr e0 rfl, d9.fr e0 rfl⟩
theorem RGp.cn {t : Nat} {v : Int32} (ht : t < 4) : RGp m M (wAI M (54 + t) m v) := by
  have e : szA (54 + t) = 1 := by
    rcases (show t = 0 ∨ t = 1 ∨ t = 2 ∨ t = 3 by omega) with rfl | rfl | rfl | rfl <;> decide
  refine RG.ai ?_ (by rw [e]; omega)
  simp only [List.mem_cons, List.not_mem_nil]
  omega
theorem RGp.q {c k : Nat} {v : Int32} (h1 : 73 ≤ c) (h2 : c ≤ 78) : RGp m M (wAI M c k v) := RGp.ra (by omega) h2 (by omega) (by rw [sz_q h1 h2]; omega)
/-- a new row -/
theorem P_newSeq (F : Fix M) (hd : RPd m τ K σ M) (hq : σ.1.1 4 < 100) (H : ∀ M', RPd m τ K ((va_up σ.1.1 4 (σ.1.1 4 + 1), up2 (up2 (up2 σ.1.2.1 73 (σ.1.1 4) (-1)) 74 (σ.1.1 4) (-1)) 75 (σ.1.1 4) (-1), σ.1.2.2), σ.2) M' → RGp m M M' → (∀ f, f ≠ 53 → mI M' 29 f = mI M 29 f) → Q (some (.int (Int32.ofNat (σ.1.1 4)))) M') : E (h + 1) mdX11_newSeq [.ref 29] M Q := by
  have d6 := hd.2.2.2.2.2.1
  refine KX11_newSeq ?_
  unfold DX11_newSeq_0
  rw [d6, succ32, lt32 (by omega)]
  refine ⟨ok29 F, fun M2 e2 => ?_⟩
  have F2 : Fix M2 := by rw [e2]; exact F.i
  have D2 := hd.sq (v := σ.1.1 4 + 1)
  rw [← e2] at D2
  have vp : ∀ {N : Mem} {c : Nat}, mL N c = 100 → vp_in (Int32.ofNat (σ.1.1 4)) (mL N c) := fun e => by rw [e]; exact vp_of hq (by decide)
  refine ⟨73, rf29_54 F2, ok73 F2, vp (ln73 F2), fun M5 e5 => ?_⟩
  have F5 : Fix M5 := by rw [e5]; exact F2.ai
  have D5 := D2.ra (c := 73) (k := σ.1.1 4) (v := -1) (by decide) (by decide) (by decide)
  rw [← e5] at D5
  refine ⟨74, rf29_55 F5, ok74 F5, vp (ln74 F5), fun M8 e8 => ?_⟩
  have F8 : Fix M8 := by rw [e8]; exact F5.ai
  have D8 := D5.ra (c := 74) (k := σ.1.1 4) (v := -1) (by decide) (by decide) (by decide)
  rw [← e8] at D8
  refine ⟨75, rf29_56 F8, ok75 F8, vp (ln75 F8), fun M9 e9 => ?_⟩
  have D9 := D8.ra (c := 75) (k := σ.1.1 4) (v := -1) (by decide) (by decide) (by decide)
  rw [← e9] at D9
  refine H M9 D9 ?_ (fun f hf => ?_)
  · rw [e9, e8, e5, e2]
    exact (((RG.i (by decide)).tr (RGp.q (by decide) (by decide))).tr (RGp.q (by decide) (by decide))).tr (RGp.q (by decide) (by decide))
  · rw [e9, e8, e5, e2]
    exact up2_ne (fun z => hf z.2)
/-- the open part's row -/
theorem P_openRow {e : KE} {j : Nat} (F : Fix M) (h4 : m < 4) (hj : j < 40) (hd : RPd m τ (e :: K) σ M) (he : e.1 = 40 * m + j) (hK : K.length ≤ 15) (hq : σ.1.1 4 < 100) (h1 : σ.1.2.1 69 (40 * m + j) = -1 → ∀ M', RPd m τ ((e.1, σ.1.1 4, e.2.2.1 + 1, e.2.2.2) :: K) (rwP (40 * m + j) none σ) M' → RGp m M M' → (∀ f, f ≠ 53 → mI M' 29 f = mI M 29 f) → Q none M') (h2 : σ.1.2.1 69 (40 * m + j) ≠ -1 → e.2.1 < 100 ∧ ∀ M', RPd m τ ((e.1, σ.1.1 4, e.2.2.1 + 1, e.2.2.2) :: K) (rwP (40 * m + j) (some e.2.1) σ) M' → RGp m M M' → (∀ f, f ≠ 53 → mI M' 29 f = mI M 29 f) → Q none M') : E (h + 2) mdX11_openRow [.ref 29, .int (Int32.ofNat (40 * m + j))] M Q := by
  have l40 := lt40 h4 hj
  refine KX11_openRow ?_
  unfold DX11_openRow_0
  refine ⟨ok29 F, P_newSeq (h := h) F hd hq (fun M2 D2 G2 I2 _ => ⟨_, rfl, ?_⟩)⟩
  have F2 := G2.fix F (by decide)
  have hop : mI M2 29 60 - 1 = Int32.ofNat K.length := by
    have z := D2.2.2.2.2.2.2.1.1
    rw [z]
    have : ((e :: K).map (fun e => e.1)).length = K.length + 1 := by rw [List.length_map]; rfl
    rw [this, dec32 (by omega)]
  have top77 : mAI M2 77 K.length = Int32.ofNat e.2.1 := by
    have z := (D2.2.2.2.2.2.2.2.1 : St M2 77 60 0 (e.2.1 :: K.map (fun e => e.2.1))).top
    rw [List.length_map, Nat.zero_add] at z
    exact z
  have top78 : ∀ {N : Mem} {x : Nat}, St N 78 60 0 (x :: K.map (fun e => e.2.2.1)) → mAI N 78 K.length = Int32.ofNat x := fun z => by
    have z := z.top
    rw [List.length_map, Nat.zero_add] at z
    exact z
  have e69 : mAI M2 69 (40 * m + j) = σ.1.2.1 69 (40 * m + j) := by
    rw [D2.2.2.1 69 (by decide) (by decide) (by decide)]
    simp [up2]
  have vp17 : ∀ {N : Mem} {c : Nat}, mL N c = 17 → vp_in (Int32.ofNat K.length) (mL N c) := fun z => by rw [z]; exact vp_of (by omega) (by decide)
  -- what is behind the link
  have fin : ∀ (N : Mem) (σ' : PS), Fix N → RPd m τ (e :: K) σ' N → RGp m M N → (∀ f, f ≠ 53 → mI N 29 f = mI M 29 f) → (∀ M', RPd m τ ((e.1, σ.1.1 4, e.2.2.1 + 1, e.2.2.2) :: K) σ' M' → RGp m M M' → (∀ f, f ≠ 53 → mI M' 29 f = mI M 29 f) → Q none M') → DX11_openRow_42 (h + 1) 29 (Int32.ofNat (σ.1.1 4)) N Q := by
    intro N σ' FN DN GN IN HN
    have hopN : mI N 29 60 - 1 = Int32.ofNat K.length := by rw [IN 60 (by decide), ← I2 60 (by decide)]; exact hop
    unfold DX11_openRow_42
    rw [hopN, lt32 (by omega)]
    refine ⟨ok29 FN, 77, rf29_58 FN, ok77 FN, vp17 (ln77 FN), fun N4 e4 => ?_⟩
    have F4 : Fix N4 := by rw [e4]; exact FN.ai
    have i4 : mI N4 29 60 - 1 = Int32.ofNat K.length := by rw [e4]; exact hopN
    rw [i4, lt32 (by omega)]
    obtain ⟨d1, d2, d3, d4, d5, d6, d7, d8, d9⟩ := DN
    have n4 : ∀ {a : Nat}, a ≠ 77 → mAI N4 a = mAI N a := fun q => by rw [e4]; exact mAI_wAI_ne q
    have t78 : mAI N4 78 K.length = Int32.ofNat e.2.2.1 := by rw [n4 (by decide)]; exact top78 (x := e.2.2.1) d9
    refine ⟨78, rf29_59 F4, ok78 F4, vp17 (ln78 F4), vp17 (ln78 F4), fun N7 e7 => ?_⟩
    rw [t78, succ32] at e7
    refine HN N7 ?_ ?_ (fun f hf => by rw [e7, e4]; exact IN f hf)
    · have n7 : ∀ {a : Nat}, a ≠ 77 → a ≠ 78 → mAI N7 a = mAI N a := fun q1 q2 => by rw [e7, mAI_wAI_ne q2]; exact n4 q1
      have r : mI N7 = mI N := by rw [e7, e4]; rfl
      have rj : mAJ N7 = mAJ N := by rw [e7, e4]; rfl
      have s77 : St N4 77 60 0 (σ.1.1 4 :: K.map (fun e => e.2.1)) := St.put (x := e.2.1) d8 (by rw [e4, List.length_map, Nat.zero_add])
      have d94 : St N4 78 60 0 (e.2.2.1 :: K.map (fun e => e.2.2.1)) := d9.fr (by rw [e4]; rfl) (n4 (by decide))
      have s78 : St N7 78 60 0 ((e.2.2.1 + 1) :: K.map (fun e => e.2.2.1)) := St.put (x := e.2.2.1) d94 (by rw [e7, List.length_map, Nat.zero_add])
      have s77b : St N7 77 60 0 (σ.1.1 4 :: K.map (fun e => e.2.1)) := s77.fr (by rw [e7]; rfl) (by rw [e7]; exact mAI_wAI_ne (by decide))
      exact ⟨d1.fr (n7 (by decide) (by decide)) (n7 (by decide) (by decide)) (by rw [rj]) (n7 (by decide) (by decide)), d2.fr (n7 (by decide) (by decide)) (n7 (by decide) (by decide)) (n7 (by decide) (by decide)) (n7 (by decide) (by decide)) (n7 (by decide) (by decide)), fun a q1 q2 q3 => by rw [n7 (by omega) (by omega)]; exact d3 a q1 q2 q3, by rw [rj]; exact d4, ⟨by rw [n7 (a := 54) (by decide) (by decide)]; exact d5.1, by rw [n7 (a := 55) (by decide) (by decide)]; exact d5.2.1, by rw [n7 (a := 56) (by decide) (by decide)]; exact d5.2.2.1, by rw [n7 (a := 57) (by decide) (by decide)]; exact d5.2.2.2⟩, by rw [r]; exact d6, d7.fr (by rw [r]) (n7 (by decide) (by decide)), s77b, s78⟩
    · rw [e7, e4]
      exact (GN.tr (RGp.q (by decide) (by decide))).tr (RGp.q (by decide) (by decide))
  refine ⟨69, rf29_49 F2, ok69 F2, ix40 h4 hj (ln69 F2), ?_⟩
  rw [l40, e69, hop, lt32 (n := K.length) (by omega)]
  refine ⟨fun q => ?_, fun q => ?_⟩
  · obtain ⟨w1, w2⟩ := h2 q
    refine ⟨75, rf29_56 F2, 77, rf29_58 F2, ok77 F2, vp17 (ln77 F2), ok75 F2, ?_⟩
    rw [top77, lt32 (by omega)]
    refine ⟨by rw [ln75 F2]; exact vp_of w1 (by decide), fun N e0 => ?_⟩
    have DN := D2.ra (c := 75) (k := e.2.1) (v := Int32.ofNat (σ.1.1 4)) (by decide) (by decide) (by decide)
    rw [← e0] at DN
    exact fin N _ (by rw [e0]; exact F2.ai) DN (by rw [e0]; exact G2.tr (RGp.q (by decide) (by decide))) (fun f hf => by rw [e0]; exact I2 f hf) w2
  · refine ⟨69, rf29_49 F2, ok69 F2, ix40 h4 hj (ln69 F2), fun N e0 => ?_⟩
    have DN := D2.ra (c := 69) (k := 40 * m + j) (v := Int32.ofNat (σ.1.1 4)) (by decide) (by decide) (by decide)
    rw [← e0] at DN
    exact fin N _ (by rw [e0]; exact F2.ai) DN (by rw [e0]; exact G2.tr (RGp.ra (by decide) (by decide) (by decide) (by rw [sz_p (by decide) (by decide)]; omega))) (fun f hf => by rw [e0]; exact I2 f hf) (h1 q)
end
