/-! the reference: a part begins, from its first check -/
section
variable {b : Nat → Int32} {n s m : Nat} {τ : Td} {K : List KE} {σ : PS} {M M' : Mem} {i o h : Nat} {Q : Option Value → Mem → Prop}
/-- what is behind a part's begin -/
def EndG (b : Nat → Int32) (n s m : Nat) (τ : Td) (K : List KE) (σ : PS) (i o j : Nat) (M : Mem) (Q : Option Value → Mem → Prop) : Prop :=
  (tK b n (i + 1) ≠ 0 → ∀ M', RPs b n s m τ K σ M' (i + 1) o → RGp m M M' → Q (some (.int (Int32.ofNat (40 * m + j)))) M') ∧ (tK b n (i + 1) = 0 → ∀ M', TXr M' 1 (tP b n (i + 1)) → RGp m M M' → Q (some (.int (Int32.ofNat (40 * m + j)))) M')
theorem EndG.pre {j : Nat} {M1 : Mem} (hE : EndG b n s m τ K σ i o j M Q) (k : RGp m M M1) : EndG b n s m τ K σ i o j M1 Q := ⟨fun k1 M' R' G' => hE.1 k1 M' R' (k.tr G'), fun k1 M' T' G' => hE.2 k1 M' T' (k.tr G')⟩
theorem beg266 {q j dp : Nat} (hR : RPs b n s m τ K σ M i o) (hB : By b) (hz : ∀ i, n ≤ i → b i = 0) (hs : i < s) (h1 : tK b n i ≠ 1) (hq : q < 100) (hj : j < 40) (hso : soK (tK b n i) ≠ 99) (hx : σ.1.2.1 73 q = -1 ∨ ∃ x, (40 * m ≤ x ∧ x < 160) ∧ σ.1.2.1 74 q = Int32.ofNat x) (hE : EndG b n s m τ K ((va_up σ.1.1 3 dp, bgA (40 * m + j) (soK (tK b n i)) (tP b n i) q (whK (tK b n i) (tC b n i) τ) σ.1.2.1, σ.1.2.2), σ.2) i o j M Q) : DX11_beginPart_266 (h + 2) 29 (Int32.ofNat q) (Int32.ofNat (soK (tK b n i))) (Int32.ofNat (40 * m + j)) 57 (Int32.ofNat m) (Int32.ofNat dp) M Q := by
  have F := hR.1.1
  have h4 := hR.1.2.2.2.1
  have l40 := lt40 h4 hj
  have sf := soK_facts hso
  have hi := hR.2.1
  have zk : ∀ {c : Nat}, 58 ≤ c → c ≤ 72 → szA c * m ≤ 40 * m + j := fun a c => by rw [sz_p a c]; omega
  unfold DX11_beginPart_266
  rw [l40, lt32 (n := m) (by omega)]
  refine ⟨ok57 F, by rw [ln57 F]; exact vp_of h4 (by decide), fun M2 e2 => ?_⟩
  have s2 := hR.cn (t := 3) (v := dp) (by decide)
  rw [← e2] at s2
  have F2 := s2.1.1
  refine ⟨ok29 F2, 58, rf29_38 F2, ok58 F2, ix40 h4 hj (ln58 F2), fun M6 e6 => ?_⟩
  have s6 := s2.ra (c := 58) (k := 40 * m + j) (v := Int32.ofNat (soK (tK b n i))) (by decide) (by decide) (by decide) (zk (by decide) (by decide))
  rw [← e6] at s6
  have F6 := s6.1.1
  refine ⟨59, rf29_39 F6, 32, rf29_3 F6, ok32 F6, by rw [ln32 F6, s6.2.2.1]; exact vp_of (by omega) (by decide), ok59 F6, ix40 h4 hj (ln59 F6), fun M11 e11 => ?_⟩
  rw [s6.2.2.1, lt32 (by omega), (s6.1.2.1 i hi.2.2).2.1] at e11
  have s11 := s6.ra (c := 59) (k := 40 * m + j) (v := Int32.ofNat (tP b n i)) (by decide) (by decide) (by decide) (zk (by decide) (by decide))
  rw [← e11] at s11
  have F11 := s11.1.1
  have G11 : RGp m M M11 := by
    rw [e11, e6, e2]
    exact ((RGp.cn (t := 3) (by decide)).tr (RGp.ra (by decide) (by decide) (by decide) (zk (by decide) (by decide)))).tr (RGp.ra (by decide) (by decide) (by decide) (zk (by decide) (by decide)))
  have e15 : (Int32.ofNat (soK (tK b n i)) = 15) ↔ tK b n i = 2 := (z32 (a := soK (tK b n i)) (k := 15) (by have := sf.1; omega) (by decide)).trans sf.2.2.2.2.2
  have hx11 : (raP (raP ((va_up σ.1.1 3 dp, σ.1.2), σ.2) (up2 σ.1.2.1 58 (40 * m + j) (Int32.ofNat (soK (tK b n i))))) (up2 (up2 σ.1.2.1 58 (40 * m + j) (Int32.ofNat (soK (tK b n i)))) 59 (40 * m + j) (Int32.ofNat (tP b n i)))).1.2.1 73 q = -1 ∨ ∃ x, (40 * m ≤ x ∧ x < 160) ∧ (raP (raP ((va_up σ.1.1 3 dp, σ.1.2), σ.2) (up2 σ.1.2.1 58 (40 * m + j) (Int32.ofNat (soK (tK b n i))))) (up2 (up2 σ.1.2.1 58 (40 * m + j) (Int32.ofNat (soK (tK b n i)))) 59 (40 * m + j) (Int32.ofNat (tP b n i)))).1.2.1 74 q = Int32.ofNat x := by
    have a3 : (raP (raP ((va_up σ.1.1 3 dp, σ.1.2), σ.2) (up2 σ.1.2.1 58 (40 * m + j) (Int32.ofNat (soK (tK b n i))))) (up2 (up2 σ.1.2.1 58 (40 * m + j) (Int32.ofNat (soK (tK b n i)))) 59 (40 * m + j) (Int32.ofNat (tP b n i)))).1.2.1 73 q = σ.1.2.1 73 q := by simp [raP, up2]
    have a4 : (raP (raP ((va_up σ.1.1 3 dp, σ.1.2), σ.2) (up2 σ.1.2.1 58 (40 * m + j) (Int32.ofNat (soK (tK b n i))))) (up2 (up2 σ.1.2.1 58 (40 * m + j) (Int32.ofNat (soK (tK b n i)))) 59 (40 * m + j) (Int32.ofNat (tP b n i)))).1.2.1 74 q = σ.1.2.1 74 q := by simp [raP, up2]
    rw [a3, a4]; exact hx
  refine ⟨60, rf29_40 F11, fun nn => ?_, fun yy => ⟨33, rf29_4 F11, ok33 F11, by rw [ln33 F11, s11.2.2.1]; exact vp_of (by omega) (by decide), ?_⟩⟩
  · have ew : whK (tK b n i) (tC b n i) τ = -1 := by unfold whK; rw [if_neg (fun z => nn (e15.mpr z))]
    rw [ew] at hE
    exact beg317 s11 hB hz hs h1 hq hj hx11 (fun k1 M' R' G' => hE.1 k1 M' R' (G11.tr G')) (fun k1 M' T' G' => hE.2 k1 M' T' (G11.tr G'))
  · have k2 := e15.mp yy
    have ew : whK (tK b n i) (tC b n i) τ = oi (fd τ.2.2.2.1 (tC b n i)) := by unfold whK; rw [if_pos k2]
    rw [ew] at hE
    rw [s11.2.2.1, lt32 (by omega)]
    refine R_varNamed (h := h + 1) F11 s11.1.2.2 ((s11.tk hB).nm k2) (fun _ => ⟨_, rfl, ?_⟩)
    exact beg317 s11 hB hz hs h1 hq hj hx11 (fun k1 M' R' G' => hE.1 k1 M' R' (G11.tr G')) (fun k1 M' T' G' => hE.2 k1 M' T' (G11.tr G'))
theorem beg218 {q j o' : Nat} {s2 : Int32} (hR : RPs b n s m τ K σ M i o) (hB : By b) (hz : ∀ i, n ≤ i → b i = 0) (hs : i < s) (h1 : tK b n i ≠ 1) (hq : q < 100) (hj : j < 40) (hso : soK (tK b n i) ≠ 99) (hx : σ.1.2.1 73 q = -1 ∨ ∃ x, (40 * m ≤ x ∧ x < 160) ∧ σ.1.2.1 74 q = Int32.ofNat x) (ho : Int32.ofNat o + s2 = Int32.ofNat o') (ho' : o' ≤ 15) (hK : K.length ≤ 15) (h3 : σ.1.1 3 ≤ 16) (hE : EndG b n s m τ K ((va_up σ.1.1 3 (if K.length + 1 ≤ σ.1.1 3 then σ.1.1 3 else K.length + 1), bgA (40 * m + j) (soK (tK b n i)) (tP b n i) q (whK (tK b n i) (tC b n i) τ) σ.1.2.1, σ.1.2.2), σ.2) i o' j M Q) : DX11_beginPart_218 (h + 2) 29 (Int32.ofNat q) (Int32.ofNat (soK (tK b n i))) (Int32.ofNat (40 * m + j)) 29 (Int32.ofNat o) s2 M Q := by
  have F := hR.1.1
  have h4 := hR.1.2.2.2.1
  unfold DX11_beginPart_218
  rw [ho]
  refine ⟨ok29 F, fun M2 e2 => ?_⟩
  have r2 := hR.op ho'
  rw [← e2] at r2
  have F2 := r2.1.1
  have G2 : RGp m M M2 := by rw [e2]; exact RG.i (by decide)
  have d := r2.2.2.2.2.2.1
  have m19 := r2.1.2.2.1
  have i60 : mI M2 29 60 = Int32.ofNat K.length := by rw [d.2.2.2.2.2.2.1.1, List.length_map]
  have d57 := d.2.2.2.2.1.2.2.2
  have vm : ∀ {N : Mem} {c : Nat}, mL N c = 4 → vp_in (Int32.ofNat m) (mL N c) := fun e => by rw [e]; exact vp_of h4 (by decide)
  have E2 := hE.pre G2
  have cmp : (Int32.ofNat (K.length + 1) ≤ Int32.ofNat (σ.1.1 3)) ↔ K.length + 1 ≤ σ.1.1 3 := le32 (by omega) (by omega)
  rw [m19, lt32 (n := m) (by omega), i60, succ32]
  refine ⟨ok29 F2, 57, rf29_37 F2, 57, rf29_37 F2, ok57 F2, vm (ln57 F2), ?_⟩
  rw [d57]
  refine ⟨fun c => ⟨57, rf29_37 F2, ok57 F2, vm (ln57 F2), ?_⟩, fun c => ?_⟩
  · rw [if_pos (cmp.mp c)] at E2
    rw [d57]
    exact beg266 r2 hB hz hs h1 hq hj hso hx E2
  · rw [if_neg (fun z => c (cmp.mpr z))] at E2
    exact beg266 r2 hB hz hs h1 hq hj hso hx E2
theorem beg199 {q j : Nat} {s3 : Int32} {v : Nat} (hR : RPs b n s m τ K σ M i o) (hB : By b) (hz : ∀ i, n ≤ i → b i = 0) (hs : i < s) (h1 : tK b n i ≠ 1) (hq : q < 100) (hj : j < 40) (hso : soK (tK b n i) ≠ 99) (hx : σ.1.2.1 73 q = -1 ∨ ∃ x, (40 * m ≤ x ∧ x < 160) ∧ σ.1.2.1 74 q = Int32.ofNat x) (ho' : o + (if opnK (tK b n i) = true then 1 else 0) ≤ 15) (hK : K.length ≤ 15) (h3 : σ.1.1 3 ≤ 16) (hv : Int32.ofNat (σ.1.1 2) + s3 = Int32.ofNat v) (hE : EndG b n s m τ K ((va_up (va_up σ.1.1 2 v) 3 (if K.length + 1 ≤ σ.1.1 3 then σ.1.1 3 else K.length + 1), bgA (40 * m + j) (soK (tK b n i)) (tP b n i) q (whK (tK b n i) (tC b n i) τ) σ.1.2.1, σ.1.2.2), σ.2) i (o + (if opnK (tK b n i) = true then 1 else 0)) j M Q) : DX11_beginPart_199 (h + 2) 29 (Int32.ofNat q) (Int32.ofNat (soK (tK b n i))) (Int32.ofNat (40 * m + j)) 56 (Int32.ofNat m) (Int32.ofNat (σ.1.1 2)) s3 M Q := by
  have F := hR.1.1
  have h4 := hR.1.2.2.2.1
  have sf := soK_facts hso
  unfold DX11_beginPart_199
  rw [hv, lt32 (n := m) (by omega)]
  refine ⟨ok56 F, by rw [ln56 F]; exact vp_of h4 (by decide), fun M2 e2 => ?_⟩
  have r2 := hR.cn (t := 2) (v := v) (by decide)
  rw [← e2] at r2
  have F2 := r2.1.1
  have G2 : RGp m M M2 := by rw [e2]; exact RGp.cn (t := 2) (by decide)
  have E2 := hE.pre G2
  have u3 : va_up σ.1.1 2 v 3 = σ.1.1 3 := va_up_ne _ _ (by decide)
  have o33 := r2.2.2.2.2.1
  rw [o33]
  refine ⟨ok29 F2, P_isOp (h := h) sf.1 (fun y _ => ⟨_, rfl, fun z => absurd z (by decide), fun _ => ?_⟩) (fun nn _ => ⟨_, rfl, fun _ => ?_, fun z => absurd rfl z⟩)⟩
  · have yo := sf.2.1.mpr y
    rw [if_pos yo] at E2 ho'
    exact beg218 r2 hB hz hs h1 hq hj hso hx succ32 ho' hK (by show va_up σ.1.1 2 v 3 ≤ 16; rw [u3]; exact h3) (by show EndG b n s m τ K ((va_up (va_up σ.1.1 2 v) 3 (if K.length + 1 ≤ va_up σ.1.1 2 v 3 then va_up σ.1.1 2 v 3 else K.length + 1), _, _), _) _ _ _ _ _; rw [u3]; exact E2)
  · have no : ¬ opnK (tK b n i) = true := fun z => nn (sf.2.1.mp z)
    rw [if_neg no] at E2 ho'
    exact beg218 (o' := o + 0) r2 hB hz hs h1 hq hj hso hx (add32 (c := 0)) ho' hK (by show va_up σ.1.1 2 v 3 ≤ 16; rw [u3]; exact h3) (by show EndG b n s m τ K ((va_up (va_up σ.1.1 2 v) 3 (if K.length + 1 ≤ va_up σ.1.1 2 v 3 then va_up σ.1.1 2 v 3 else K.length + 1), _, _), _) _ _ _ _ _; rw [u3]; exact E2)
end
