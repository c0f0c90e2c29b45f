/-! the reference: a part begins -/
section
variable {b : Nat → Int32} {n s m : Nat} {τ : Td} {K : List KE} {σ : PS} {M M' : Mem} {i o h : Nat} {Q : Option Value → Mem → Prop}
theorem RPs.cn {t v : Nat} (hR : RPs b n s m τ K σ M i o) (ht : t < 4) : RPs b n s m τ K ((va_up σ.1.1 t v, σ.1.2), σ.2) (wAI M (54 + t) m (Int32.ofNat v)) i o := by
  obtain ⟨c1, c2, c3, c4, c5, c6, c7⟩ := hR
  exact ⟨c1.rg (RGp.cn ht), c2, c3, c4, c5, c6.cn ht, c7⟩
theorem beg392 {q p : Nat} (hR : RPs b n s m τ K σ M i o) (hB : By b) (hz : ∀ i, n ≤ i → b i = 0) (hs : i < s) (h1 : tK b n i ≠ 1) (hq : q < 100) (H1 : tK b n (i + 1) ≠ 0 → ∀ M', RPs b n s m τ K (raP σ (up2 σ.1.2.1 74 q (Int32.ofNat p))) M' (i + 1) o → RGp m M M' → Q (some (.int (Int32.ofNat p))) M') (H0 : tK b n (i + 1) = 0 → ∀ M', TXr M' 1 (tP b n (i + 1)) → RGp m M M' → Q (some (.int (Int32.ofNat p))) M') : DX11_beginPart_392 (h + 2) 29 (Int32.ofNat q) (Int32.ofNat p) M Q := by
  have F := hR.1.1
  unfold DX11_beginPart_392
  rw [lt32 (by omega)]
  refine ⟨ok29 F, 74, rf29_55 F, ok74 F, by rw [ln74 F]; exact vp_of hq (by decide), fun M4 e4 => ?_⟩
  have s1 := hR.ra (c := 74) (k := q) (v := Int32.ofNat p) (by decide) (by decide) (by decide) (by rw [sz_q (by decide) (by decide)]; omega)
  rw [← e4] at s1
  have G : RGp m M M4 := by rw [e4]; exact RGp.q (by decide) (by decide)
  exact P_take (h := h) s1 hB hz hs h1 (fun k1 M5 R5 G5 _ => ⟨rfl, H1 k1 M5 R5 (G.tr G5)⟩) (fun k1 M5 T5 G5 _ => ⟨rfl, H0 k1 M5 T5 (G.tr G5)⟩)
/-- the nine rows of a part that are written first -/
def b9A (p so pl : Nat) (wh : Int32) (A : Nat → Nat → Int32) : Nat → Nat → Int32 := up2 (up2 (up2 (up2 (up2 (up2 (up2 (up2 (up2 A 58 p (Int32.ofNat so)) 59 p (Int32.ofNat pl)) 60 p wh) 61 p 0) 63 p (-1)) 65 p (-1)) 67 p (-1)) 69 p (-1)) 70 p (-1)
theorem beg317 {q j : Nat} {wh : Int32} (hR : RPs b n s m τ K σ M i o) (hB : By b) (hz : ∀ i, n ≤ i → b i = 0) (hs : i < s) (h1 : tK b n i ≠ 1) (hq : q < 100) (hj : j < 40) (hx : σ.1.2.1 73 q = -1 ∨ ∃ x, (40 * m ≤ x ∧ x < 160) ∧ σ.1.2.1 74 q = Int32.ofNat x) (H1 : tK b n (i + 1) ≠ 0 → ∀ M', RPs b n s m τ K (raP σ (up2 (lkA (40 * m + j) q (up2 (up2 (up2 (up2 (up2 (up2 (up2 σ.1.2.1 60 (40 * m + j) wh) 61 (40 * m + j) 0) 63 (40 * m + j) (-1)) 65 (40 * m + j) (-1)) 67 (40 * m + j) (-1)) 69 (40 * m + j) (-1)) 70 (40 * m + j) (-1))) 74 q (Int32.ofNat (40 * m + j)))) M' (i + 1) o → RGp m M M' → Q (some (.int (Int32.ofNat (40 * m + j)))) M') (H0 : tK b n (i + 1) = 0 → ∀ M', TXr M' 1 (tP b n (i + 1)) → RGp m M M' → Q (some (.int (Int32.ofNat (40 * m + j)))) M') : DX11_beginPart_317 (h + 2) 29 (Int32.ofNat q) (Int32.ofNat (40 * m + j)) 60 (Int32.ofNat (40 * m + j)) wh M Q := by
  have F := hR.1.1
  have h4 := hR.1.2.2.2.1
  have l40 := lt40 h4 hj
  have zk : ∀ {c : Nat}, 58 ≤ c → c ≤ 72 → szA c * m ≤ 40 * m + j := fun a c => by rw [sz_p a c]; omega
  unfold DX11_beginPart_317
  rw [l40, lt32 (n := q) (by omega)]
  refine ⟨ok60 F, ix40 h4 hj (ln60 F), fun M2 e2 => ?_⟩
  have s2 := hR.ra (c := 60) (k := 40 * m + j) (v := wh) (by decide) (by decide) (by decide) (zk (by decide) (by decide))
  rw [← e2] at s2
  have F2 := s2.1.1
  refine ⟨ok29 F2, 61, rf29_41 F2, ok61 F2, ix40 h4 hj (ln61 F2), fun M6 e6 => ?_⟩
  rw [bool_nar0] at e6
  have s6 := s2.ra (c := 61) (k := 40 * m + j) (v := 0) (by decide) (by decide) (by decide) (zk (by decide) (by decide))
  rw [← e6] at s6
  have F6 := s6.1.1
  refine ⟨63, rf29_43 F6, ok63 F6, ix40 h4 hj (ln63 F6), fun M9 e9 => ?_⟩
  have s9 := s6.ra (c := 63) (k := 40 * m + j) (v := -1) (by decide) (by decide) (by decide) (zk (by decide) (by decide))
  rw [← e9] at s9
  have F9 := s9.1.1
  refine ⟨65, rf29_45 F9, ok65 F9, ix40 h4 hj (ln65 F9), fun M12 e12 => ?_⟩
  have s12 := s9.ra (c := 65) (k := 40 * m + j) (v := -1) (by decide) (by decide) (by decide) (zk (by decide) (by decide))
  rw [← e12] at s12
  have F12 := s12.1.1
  refine ⟨67, rf29_47 F12, ok67 F12, ix40 h4 hj (ln67 F12), fun M15 e15 => ?_⟩
  have s15 := s12.ra (c := 67) (k := 40 * m + j) (v := -1) (by decide) (by decide) (by decide) (zk (by decide) (by decide))
  rw [← e15] at s15
  have F15 := s15.1.1
  refine ⟨69, rf29_49 F15, ok69 F15, ix40 h4 hj (ln69 F15), fun M18 e18 => ?_⟩
  have s18 := s15.ra (c := 69) (k := 40 * m + j) (v := -1) (by decide) (by decide) (by decide) (zk (by decide) (by decide))
  rw [← e18] at s18
  have F18 := s18.1.1
  refine ⟨70, rf29_50 F18, ok70 F18, ix40 h4 hj (ln70 F18), fun M21 e21 => ?_⟩
  have s21 := s18.ra (c := 70) (k := 40 * m + j) (v := -1) (by decide) (by decide) (by decide) (zk (by decide) (by decide))
  rw [← e21] at s21
  have F21 := s21.1.1
  have G21 : RGp m M M21 := by
    rw [e21, e18, e15, e12, e9, e6, e2]
    exact ((((((RGp.ra (by decide) (by decide) (by decide) (zk (by decide) (by decide))).tr (RGp.ra (by decide) (by decide) (by decide) (zk (by decide) (by decide)))).tr (RGp.ra (by decide) (by decide) (by decide) (zk (by decide) (by decide)))).tr (RGp.ra (by decide) (by decide) (by decide) (zk (by decide) (by decide)))).tr (RGp.ra (by decide) (by decide) (by decide) (zk (by decide) (by decide)))).tr (RGp.ra (by decide) (by decide) (by decide) (zk (by decide) (by decide)))).tr (RGp.ra (by decide) (by decide) (by decide) (zk (by decide) (by decide)))
  have s21 : RPs b n s m τ K (raP σ (up2 (up2 (up2 (up2 (up2 (up2 (up2 σ.1.2.1 60 (40 * m + j) wh) 61 (40 * m + j) 0) 63 (40 * m + j) (-1)) 65 (40 * m + j) (-1)) 67 (40 * m + j) (-1)) 69 (40 * m + j) (-1)) 70 (40 * m + j) (-1))) M21 i o := s21
  have a73 : mAI M21 73 q = σ.1.2.1 73 q := by rw [s21.2.2.2.2.2.1.2.2.1 73 (by decide) (by decide) (by decide)]; simp [raP, up2]
  have a74 : mAI M21 74 q = σ.1.2.1 74 q := by rw [s21.2.2.2.2.2.1.2.2.1 74 (by decide) (by decide) (by decide)]; simp [raP, up2]
  have w73 : (up2 (up2 (up2 (up2 (up2 (up2 (up2 σ.1.2.1 60 (40 * m + j) wh) 61 (40 * m + j) 0) 63 (40 * m + j) (-1)) 65 (40 * m + j) (-1)) 67 (40 * m + j) (-1)) 69 (40 * m + j) (-1)) 70 (40 * m + j) (-1)) 73 q = σ.1.2.1 73 q := by simp [up2]
  have w74 : (up2 (up2 (up2 (up2 (up2 (up2 (up2 σ.1.2.1 60 (40 * m + j) wh) 61 (40 * m + j) 0) 63 (40 * m + j) (-1)) 65 (40 * m + j) (-1)) 67 (40 * m + j) (-1)) 69 (40 * m + j) (-1)) 70 (40 * m + j) (-1)) 74 q = σ.1.2.1 74 q := by simp [up2]
  generalize (up2 (up2 (up2 (up2 (up2 (up2 (up2 σ.1.2.1 60 (40 * m + j) wh) 61 (40 * m + j) 0) 63 (40 * m + j) (-1)) 65 (40 * m + j) (-1)) 67 (40 * m + j) (-1)) 69 (40 * m + j) (-1)) 70 (40 * m + j) (-1)) = A at s21 w73 w74 H1
  unfold lkA at H1
  rw [w73, w74] at H1
  refine ⟨73, rf29_54 F21, ok73 F21, by rw [ln73 F21]; exact vp_of hq (by decide), ?_⟩
  rw [a73]
  refine ⟨fun qn => ?_, fun qy => ?_⟩
  · rw [if_neg qn] at H1
    obtain ⟨x, ⟨x1, x2⟩, ex⟩ := hx.resolve_left qn
    rw [ex, lt32 (by omega)] at H1
    refine ⟨70, rf29_50 F21, 74, rf29_55 F21, ok74 F21, by rw [ln74 F21]; exact vp_of hq (by decide), ok70 F21, ?_⟩
    rw [a74, ex, lt32 (by omega)]
    refine ⟨by rw [ln70 F21]; exact vp_of x2 (by decide), fun M28 e28 => ?_⟩
    have s28 := s21.ra (c := 70) (k := x) (v := Int32.ofNat (40 * m + j)) (by decide) (by decide) (by decide) (by rw [sz_p (by decide) (by decide)]; exact x1)
    rw [← e28] at s28
    have G28 : RGp m M M28 := by rw [e28]; exact G21.tr (RGp.ra (by decide) (by decide) (by decide) (by rw [sz_p (by decide) (by decide)]; exact x1))
    exact beg392 s28 hB hz hs h1 hq (fun k1 M' R' G' => H1 k1 M' R' (G28.tr G')) (fun k1 M' T' G' => H0 k1 M' T' (G28.tr G'))
  · rw [if_pos qy] at H1
    refine ⟨73, rf29_54 F21, ok73 F21, by rw [ln73 F21]; exact vp_of hq (by decide), fun M31 e31 => ?_⟩
    have s31 := s21.ra (c := 73) (k := q) (v := Int32.ofNat (40 * m + j)) (by decide) (by decide) (by decide) (by rw [sz_q (by decide) (by decide)]; omega)
    rw [← e31] at s31
    have G31 : RGp m M M31 := by rw [e31]; exact G21.tr (RGp.q (by decide) (by decide))
    exact beg392 s31 hB hz hs h1 hq (fun k1 M' R' G' => H1 k1 M' R' (G31.tr G')) (fun k1 M' T' G' => H0 k1 M' T' (G31.tr G'))
end
