/-! the class's compile, whole -/
def EndCC (b : Nat → Int32) (n m : Nat) (M : Mem) (mb : Nat) (ms : List Nat) (Q : Option Value → Mem → Prop) (R : Except (Int32 × Nat) (Nat × Td × PS × Nat)) : Prop := match R with
  | .error e => ∀ M1 M', CRx n M M1 e.1 (Int32.ofNat e.2) → M' = wI (wI M1 0 1 0) 0 6 e.1 → Q (some (.int (-10 - Int32.ofNat e.2))) M'
  | .ok r => ∀ s M0 M2 ps, Sto b n s → CRd b n s r.2.1 M M0 M2 r.1 r.2.2.1 ps → ((∀ j, j < ps.length → r.2.2.1.2.1.1 j 2 = 0) → ∀ Mw M3 M4 lc rc γ g g0 xs mb', RdE r.2.1 m r.2.2.1 r.2.2.2 γ g0 → RdX r.2.1 r.2.2.1 r.2.2.2 γ → NuF (fun c => c = mN M ∨ c = 0) M2 Mw → ((∀ f, f ≠ 13 → f ≠ 16 → mI Mw (mN M) f = mI M2 (mN M) f) ∧ mI Mw (mN M) 13 = Int32.ofNat (trS r.2.2.1).2.1 ∧ mI Mw 0 1 = 0 ∧ mI Mw 0 6 = 0) → WvZ (mN M) lc rc (trS r.2.2.1) r.2.2.1.2.1.2.2.1 Mw → WvE (mN M) lc rc r.2.1.1.length r.2.1.2.1 (trS r.2.2.1) (chR (trS r.2.2.1) γ.1) r.2.2.1.2.1.2.2.1 (m6R γ.2.2) g r.2.2.2 ps xs Mw M3 → (FtN (chR (trS r.2.2.1) γ.1) g r.2.2.2 ∧ ∀ j, j < npS r.2.2.1 → r.2.2.1.2.1.1 j 1 = Int32.ofNat (xs j) ∧ 1 ≤ xs j ∧ xs j < (trS r.2.2.1).1) → ALp M4 2 mb' 3 (ms ++ [mN M]) → ALF M3 M4 2 mb mb' ms.length → Q (some (.int (Int32.ofNat ms.length))) M4) ∧ ∀ j, j < ps.length → r.2.2.1.2.1.1 j 2 ≠ 0 → (∀ q, q < j → r.2.2.1.2.1.1 q 2 = 0) → ∀ M1 M', CRx n M M1 (r.2.2.1.2.1.1 j 2) (r.2.2.1.2.1.1 j 0) → M' = wI (wI M1 0 1 0) 0 6 (r.2.2.1.2.1.1 j 2) → Q (some (.int (-10 - r.2.2.1.2.1.1 j 0))) M'
section
variable {b : Nat → Int32} {n m mb h : Nat} {ms : List Nat} {M : Mem} {A : Nat → Nat → Int32} {B : Nat → Int64} {Q : Option Value → Mem → Prop}
theorem C_comp (hB : By b) (hz : ∀ i, n ≤ i → b i = 0) (F : Fix M) (hn : n ≤ 800) (hm : ∀ i, i < n → (mAI M 1 i) &&& 255 = b i) (hN : mN M ≤ 900000) (h4 : m < 4) (e1 : mI M 0 1 = Int32.ofNat n) (hL : ALp M 2 mb 3 ms) (hmb : mb = mBig + 5 ∨ (132 ≤ mb ∧ mb < mN M)) (hl : ms.length < 4) (hk0 : mAI M 5 0 = 0) (H : EndCC b n m M mb ms Q (rdM b n m A B (mAI M))) : E (h + 221) mdX10_compile [.ref 0] M Q := by
  have n132 : 132 ≤ mN M := F.1
  have lt4 : Int32.ofNat ms.length < 4 := (ltn32 (a := ms.length) (b := 4) (by omega) (by decide)).mpr hl
  refine KX10_compile (h := h + 220) ?_
  unfold DX10_compile_0
  refine ⟨ok0 F, 2, rf0_2 F, hL.1, S_alSize (h := h + 219) hL (fun _ => ⟨_, rfl, fun _ => ⟨14, rf0_4 F, ok14 F, ?_⟩, fun z => absurd lt4 z⟩)⟩
  rw [e1]
  refine C_read (h := h) (m := m) (A := A) (B := B) hk0 hB hz F hn hm hN ?_
  cases e : rdM b n m A B (mAI M) with
  | error y =>
    rw [e] at H
    intro M1 cx _
    refine ⟨none, rfl, fun M10 e10 => ?_⟩
    have F10 : Fix M10 := by rw [e10]; exact cx.1.i
    have f10 : mI M10 15 12 = y.1 := by rw [e10, mI_wI, if_neg (by decide)]; exact cx.2.1
    refine ⟨14, rf0_4 F10, ok14 F10, 15, rf14_0 F10, ok15 F10, fun M15 e15 => ⟨fun _ => ?_, fun b16 z => absurd z (by simp)⟩⟩
    rw [f10] at e15
    have F15 : Fix M15 := by rw [e15]; exact F10.i
    have p15 : mI M15 15 13 = Int32.ofNat y.2 := by rw [e15, mI_wI, if_neg (by decide), e10, mI_wI, if_neg (by decide)]; exact cx.2.2.2.1
    refine ⟨14, rf0_4 F15, ok14 F15, 15, rf14_0 F15, ok15 F15, ?_⟩
    rw [p15]
    exact H M1 M15 cx (by rw [e15, e10])
  | ok r =>
    rw [e] at H
    intro s M0 M2 ps hS hC
    obtain ⟨H1, H2⟩ := H s M0 M2 ps hS hC
    refine ⟨fun late M8 e8 _ => ?_, fun j hj nz fst M1 cx _ => ?_⟩
    · refine ⟨some (mN M), rfl, fun M10 e10 => ?_⟩
      obtain ⟨hTI, ⟨lc0, rc0, cc, pb0, ib0, hQ⟩, -⟩ := id hC.1
      have hv : HvT r.2.1 := ⟨hQ.1.1.2.1.2.2.2, hQ.1.1.2.1.1⟩
      obtain ⟨γ, g0, rE, rX⟩ := rdm_all hB hS h4 hv hk0 e
      have F2 := hTI.1
      have F8 : Fix M8 := by rw [e8]; exact F2.i.i
      have F10 : Fix M10 := by rw [e10]; exact F8.i
      refine ⟨14, rf0_4 F10, ok14 F10, 15, rf14_0 F10, ok15 F10, fun Mw ew => ⟨fun z => absurd z (by simp), fun b16 z => ?_⟩⟩
      have eb : mN M = b16 := Option.some.inj z
      rw [← eb]
      have Fw : Fix Mw := by rw [ew]; exact F10.i
      have ww : ∀ {Mi : Mem} {c f : Nat} {v : Int32}, (c = mN M ∨ c = 0) → NuF (fun c => c = mN M ∨ c = 0) Mi (wI Mi c f v) := fun hc => NuF.w (S := fun c => c = mN M ∨ c = 0) hc
      have k : NuF (fun c => c = mN M ∨ c = 0) M2 Mw := by
        rw [ew, e10, e8]
        exact (((ww (Or.inl rfl)).tr (ww (Or.inl rfl))).tr (ww (Or.inr rfl))).tr (ww (Or.inr rfl))
      have rd : ∀ f, mI Mw (mN M) f = mI M8 (mN M) f := fun f => by rw [ew, mI_wI, if_neg (by omega), e10, mI_wI, if_neg (by omega)]
      refine ⟨21, rf0_5 Fw, ok21 Fw, C_wv (h := h + 210) hC rE rX k ?_ ?_ (fun lc rc g xs M3 wz hp hxs ftn we _ => ⟨rfl, ?_⟩)⟩
      · rw [rd, e8, mI_wI, if_neg (by omega), mI_wI, if_pos ⟨rfl, rfl⟩]
      · rw [rd, e8, mI_wI, if_neg (by omega), mI_wI, if_neg (by omega)]
      · have A2 := hC.mods hL hmb n132 hN
        have Aw : ALp Mw 2 mb 3 ms := alp_fr3 A2 k.fre (fun z => by omega) (fun o z => by
          have o0 : mK M2 0 = 12 := (ok0 F2).2
          have on : mK M2 (mN M) = 3 := hQ.1.1.1.2
          have kb := o.2
          rcases z with z | z
          · rw [z, on] at kb; exact absurd kb (by decide)
          · rw [z, o0] at kb; exact absurd kb (by decide))
        obtain ⟨A3, E3⟩ := we.mods wz hp Aw
        have F3 : Fix M3 := by
          obtain ⟨Ψ1, Ψ2, P, zp, M1, -, -, -, ⟨lc1, rc1, b1, b2, hls, hH⟩, -, -, nf, -⟩ := we
          exact nf.fix hH.1.1
        have on3 : ok M3 (mN M) 3 := ok_E (ok_E hQ.1.1.1 k.e) E3
        refine ⟨2, rf0_2 F3, A3.1, S_add (h := h + 214) A3 (by omega) (Or.inr (Or.inl rfl)) (Or.inl on3) (fun M4 mb' A4 F4 _ => ⟨_, rfl, 2, ?_, A4.1, S_alSize (h := h + 219) A4 (fun _ => ⟨_, rfl, ?_⟩)⟩)⟩
        · rw [(F4.1.2 0 (by have := F3.1; omega) (by
            rintro (z | ⟨-, z⟩)
            · exact absurd z (by decide)
            · rw [(ok0 F3).2] at z; exact absurd z (by decide))).2.2.1]
          exact rf0_2 F3
        · have e2 : Int32.ofNat (ms ++ [mN M]).length - 1 = Int32.ofNat ms.length := by
            rw [List.length_append]
            show Int32.ofNat (ms.length + 1) - 1 = _
            rw [← succ32, Int32.add_sub_cancel]
          rw [e2]
          exact H1 late Mw M3 M4 lc rc γ g g0 xs mb' rE rX k ⟨fun f z1 z2 => by rw [rd, e8, mI_wI, if_neg (fun y => z1 y.2), mI_wI, if_neg (fun y => z2 y.2)], by rw [rd, e8, mI_wI, if_pos ⟨rfl, rfl⟩], by rw [ew, mI_wI, if_neg (by decide), e10]; exact mI_own _ _ _ _, by rw [ew, mI_own, e10, mI_wI, if_neg (by decide), e8, mI_wI, if_neg (by omega), mI_wI, if_neg (by omega)]; exact hTI.2.2.2.2.2.2.2.2.1⟩ wz we ⟨ftn, hxs⟩ A4 F4
    · refine ⟨none, rfl, fun M10 e10 => ?_⟩
      have F10 : Fix M10 := by rw [e10]; exact cx.1.i
      have f10 : mI M10 15 12 = r.2.2.1.2.1.1 j 2 := by rw [e10, mI_wI, if_neg (by decide)]; exact cx.2.1
      refine ⟨14, rf0_4 F10, ok14 F10, 15, rf14_0 F10, ok15 F10, fun M15 e15 => ⟨fun _ => ?_, fun b16 z => absurd z (by simp)⟩⟩
      rw [f10] at e15
      have F15 : Fix M15 := by rw [e15]; exact F10.i
      have p15 : mI M15 15 13 = r.2.2.1.2.1.1 j 0 := by rw [e15, mI_wI, if_neg (by decide), e10, mI_wI, if_neg (by decide)]; exact cx.2.2.2.1
      refine ⟨14, rf0_4 F15, ok14 F15, 15, rf14_0 F15, ok15 F15, ?_⟩
      rw [p15]
      exact H2 j hj nz fst M1 M15 cx (by rw [e15, e10])
end
