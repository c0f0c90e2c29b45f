/-! the class reads a text: all of it -/
def EndCR (b : Nat → Int32) (n : Nat) (M : Mem) (Q : Option Value → Mem → Prop) (R : Except (Int32 × Nat) (Nat × Td × PS × Nat)) : Prop := match R with
  | .error e => ∀ M', CRx n M M' e.1 (Int32.ofNat e.2) → Q (some .null) M'
  | .ok r => ∀ s M0 M2 ps, Sto b n s → CRd b n s r.2.1 M M0 M2 r.1 r.2.2.1 ps → ((∀ j, j < ps.length → r.2.2.1.2.1.1 j 2 = 0) → ∀ M', M' = wI (wI M2 (mN M) 16 (Int32.ofNat r.2.2.2)) (mN M) 13 (Int32.ofNat (trS r.2.2.1).2.1) → Q (some (.ref (mN M))) M') ∧ ∀ j, j < ps.length → r.2.2.1.2.1.1 j 2 ≠ 0 → (∀ q, q < j → r.2.2.1.2.1.1 q 2 = 0) → ∀ M', CRx n M M' (r.2.2.1.2.1.1 j 2) (r.2.2.1.2.1.1 j 0) → Q (some .null) M'
/-- what stands behind what is told -/
def TRd (h n0 : Nat) (Q : Option Value → Mem → Prop) (M16 : Mem) : Prop := ∃ b17 : Nat, mR M16 14 7 = some b17 ∧ E h mdX4_readSeq [.ref 14, .int 0] M16 (fun r M18 => mE M16 M18 → ∃ r19 : Int32, r = some (.int r19) ∧ ok M18 b17 3 ∧ ∀ M21, M21 = wI M18 b17 16 r19 → ∃ b22 : Nat, mR M21 14 0 = some b22 ∧ ok M21 b22 9 ∧ ((mI M21 b22 9) = 1 → DX4_read_81 h 14 M21 Q) ∧ (¬ ((mI M21 b22 9) = 1) → ∃ b24 : Nat, mR M21 14 0 = some b24 ∧ ok M21 b24 9 ∧ E h mdX7_fail [.ref b24, .int 2] M21 (fun r M26 => mE M21 M26 → r = none ∧ DX4_read_81 h 14 M26 Q)))
section
variable {b : Nat → Int32} {n s m : Nat} {τ : Td} {M M0 M2 M' : Mem} {i o h : Nat} {Q : Option Value → Mem → Prop} {γ : ClT} {cn : Nat → Nat} {ps : List Nat} {tl : List Int64} {f v : Int32} {p : Nat}
/-- what is known when the parts begin -/
def RdB (n : Nat) (M M0 : Mem) : Prop := FrC M M0 ∧ mN M0 ≤ mN M + 57 ∧ ∃ lc, mS M0 ≤ mS M + mS cpC + 4 * mL M0 lc ∧ mL M0 lc ≤ 64 + 2 * 18
theorem FrC.q (hF : FrC M M0) (k : FrQ (mN M) M0 M2) : FrC M M2 := hF.tr k.1 (fun a ha z => by omega)
theorem FrC.w (hF : FrC M M2) {q : Nat} (e : M' = wI M2 (mN M) q v) : FrC M M' := by
  rw [e]
  exact hF.tr (fr_wI (S := fun c => c = mN M) rfl) (fun a ha z => by omega)
theorem CRx.of {W B t : Nat} (hb : RdB n M M0) (hs : s ≤ n) (X : CX (mN M) τ M0 (s + 70) B M2 f p ps tl t) (hB : B ≤ 10) {q1 q2 : Nat} {v1 v2 : Int32} (e : M' = wI (wI M2 (mN M) q1 v1) (mN M) q2 v2) : CRx n M M' f (Int32.ofNat p) := by
  obtain ⟨hT, γ, cn, hQ, h3, h4, h5, h6, h7⟩ := X
  have N := hQ.nz
  obtain ⟨lc, rc, cc, pb, ib, hq⟩ := id hQ
  have fr2 := hb.1.q hq.2.2.2.2.2.1
  have e15 : mI M' 15 = mI M2 15 := by
    rw [e]
    have g : (15 : Nat) ≠ mN M := by omega
    funext y
    rw [mI_wI, if_neg (fun z => g z.1), mI_wI, if_neg (fun z => g z.1)]
  obtain ⟨lc0, r1, r2⟩ := hb.2.2
  refine ⟨by rw [e]; exact hT.1.i.i, by rw [e15]; exact hT.2.2.1, hT.2.2.2.1, by rw [e15]; exact hT.2.2.2.2.1, (fr2.w rfl).w e, ⟨τ, M0, M2, γ, cn, ps, tl, lc0, hQ, by omega, by omega, by omega, ⟨by rw [e]; rfl, by rw [e]; rfl⟩, hb.2.1, r1, r2⟩, ?_⟩
  have tz := hq.2.2.1
  rw [e]
  show mAI M2 5 0 = 0
  rw [tz.2.2.2.1 5 (by decide) (by decide)]
  exact tz.2.2.2.2.2
/-- behind a fault among what is told, or at the first token -/
theorem TRd_x {t : Nat} (hb : RdB n M M0) (hs : s ≤ n) (X : CX (mN M) τ M0 (s + 70) 0 M0 f p ps [] t) (H : ∀ M', CRx n M M' f (Int32.ofNat p) → Q (some .null) M') : TRd (h + 6) (mN M) Q M0 := by
  have N := X.nz
  refine ⟨mN M, N.2.2.2.2.2.1, V_seq X (fun M18 w t18 X18 _ _ _ => ⟨_, rfl, X18.nz.2.2.1, fun M21 e21 => ?_⟩)⟩
  have T21 : TF M21 f p := TF_hi X18.1 (by rw [e21]; exact fr_wI (S := fun c => 132 ≤ c) N.1)
  have F21 := T21.1
  obtain ⟨pb, A, hL⟩ : ∃ pb A, LtI (mN M) pb ps A M21 := by
    obtain ⟨h1, γ, cn, h2, h3⟩ := X18
    obtain ⟨pb, hL⟩ := h2.lti h1.1 e21
    exact ⟨pb, _, hL⟩
  refine ⟨15, rf14_0 F21, ok15 F21, fun z => absurd z (by rw [T21.2.2.2.2.2]; decide), fun _ => ⟨15, rf14_0 F21, ok15 F21, F_fail T21 (fun _ => ⟨rfl, R81x (h := h + 4) N.1 hL (by rw [T21.2.2.1]; exact T21.2.2.2.1) (fun M' e' => H M' ?_)⟩)⟩⟩
  rw [e21] at e'
  exact CRx.of (W := 0) hb hs X18 (by decide) e'
theorem TRd_ok {A : Nat → Nat → Int32} {B : Nat → Int64} {Zt : Nat → Nat → Int32} {H : Nat} (hB : By b) (hS : Sto b n s) (hb : RdB n M M0) (hct : ∃ lc rc, CT (mN M) τ M0 lc rc) (hmd : MdN (mN M) M0) (hC : CS b n s (mN M) τ M0 M0 i 0 (cl0 Zt τ) (fun _ => 0) [] []) (hH : 210 ≤ H) (hE : EndCR b n M Q ((rdQ b n m τ i (σI A B (cl0 Zt τ))).bind fun q => .ok (q.1, τ, q.2.1, q.2.2))) : TRd H (mN M) Q M0 := by
  obtain ⟨H, rfl⟩ : ∃ H', H = H' + 204 + 6 := ⟨H - 210, by omega⟩
  have N := hC.2.1.nz
  have hs : s ≤ n := hS.1
  have hn : n ≤ 800 := hS.2.1
  have C0 : CS b n s (mN M) τ M0 M0 i ([] : List KE).length (σI A B (cl0 Zt τ)).2.1 (σI A B (cl0 Zt τ)).1.1 [] (tlK []) := hC.cnt rfl rfl rfl rfl
  refine ⟨mN M, N.2.2.2.2.2.1, ?_⟩
  have hk : hK [] ≤ H + 204 + 6 := by show 100 + 6 * (16 - 0) ≤ _; omega
  have i0 : tK b n i ≠ 0 := hC.1.2.2.2.2.2.2.2.2.2
  refine (C_rp (m := m) hB hS 6000).1 [] i (σI A B (cl0 Zt τ)) 0 0 0 0 0 0 M0 [] (H + 204 + 6) _ σI_ok C0 hk (by omega) ?_
  unfold rdQ at hE
  cases e : rp b n m τ 6000 0 [] i (σI A B (cl0 Zt τ)) 0 0 0 0 0 0 with
  | error y =>
    rw [e] at hE
    intro M18 ps18 w t18 X18 _ _ _ _
    refine ⟨_, rfl, X18.nz.2.2.1, fun M21 e21 => ?_⟩
    have T21 : TF M21 y.1 y.2 := TF_hi X18.1 (by rw [e21]; exact fr_wI (S := fun c => 132 ≤ c) N.1)
    have F21 := T21.1
    obtain ⟨pb, A1, hL⟩ : ∃ pb A, LtI (mN M) pb ps18 A M21 := by
      obtain ⟨h1, γ, cn, h2, h3⟩ := X18
      obtain ⟨pb, hL⟩ := h2.lti h1.1 e21
      exact ⟨pb, _, hL⟩
    refine ⟨15, rf14_0 F21, ok15 F21, fun z => absurd z (by rw [T21.2.2.2.2.2]; decide), fun _ => ⟨15, rf14_0 F21, ok15 F21, F_fail T21 (fun _ => ⟨rfl, R81x (h := H + 208) N.1 hL (by rw [T21.2.2.1]; exact T21.2.2.2.1) (fun M' e' => hE M' ?_)⟩)⟩⟩
    rw [e21] at e'
    exact CRx.of (W := 0) hb hs X18 (by decide) e'
  | ok q =>
    rw [e] at hE
    have hE : EndCR b n M Q ((if tK b n q.1 = 1 then .ok q else .error (2, tP b n q.1) : Except (Int32 × Nat) (Nat × PS × Nat)).bind fun q => .ok (q.1, τ, q.2.1, q.2.2)) := hE
    intro M18 ps18 C18 _ _
    have C18 : CS b n s (mN M) τ M0 M18 q.1 0 q.2.1.2.1 q.2.1.1.1 ps18 [] := C18
    have F18 := C18.1.1
    refine ⟨_, rfl, C18.2.1.nz.2.2.1, fun M21 e21 => ?_⟩
    have hi21 : fr (fun c => 132 ≤ c) M18 M21 := by rw [e21]; exact fr_wI (S := fun c => 132 ≤ c) N.1
    have T21 := TI_hi C18.1 hi21
    have F21 := T21.1
    obtain ⟨pb, hL⟩ := C18.2.1.lti F18 e21
    have g15 : (15 : Nat) ≠ mN M := by have := N.1; omega
    have g4 : (4 : Nat) ≠ mN M := by have := N.1; omega
    refine ⟨15, rf14_0 F21, ok15 F21, fun z => ?_, fun z => ⟨15, rf14_0 F21, ok15 F21, A_fail T21 (by decide) (fun M26 T26 k26 _ => ⟨rfl, ?_⟩)⟩⟩
    · rw [T21.kind] at z
      rw [if_pos z] at hE
      have hd : CRd b n s τ M M0 M18 q.1 q.2.1 ps18 := ⟨C18, hct, hmd, hb.1, hb.2.1, hb.2.2⟩
      obtain ⟨E0, E1⟩ := hE s M0 M18 ps18 hS hd
      have e10 : mI M21 4 10 = Int32.ofNat (trS q.2.1).2.1 := by rw [e21, mI_wI, if_neg (fun y => g4 y.1)]; exact C18.2.1.trp.2.1
      refine R81 (h := H + 206) N.1 hL T21.2.2.2.2.2.2.2.2.1 (fun hz M' e' => E0 hz M' (by rw [e', e10, e21])) (fun j hj h2 hz M1 M' F1 v12 v13 k1 e' => E1 j hj h2 hz M' ?_)
      have N1 : mN M1 = mN M18 := by rw [k1.1, e21]; rfl
      obtain ⟨lc, rc, cc, pb2, ib, hq⟩ := id C18.2.1
      have fr2 := hb.1.q hq.2.2.2.2.2.1
      have frM1 : FrC M M1 := (fr2.w e21).tr k1.fr (fun a ha z => by omega)
      have e15 : mI M' 15 = mI M1 15 := by
        rw [e']
        funext y
        rw [mI_wI, if_neg (fun z => g15 z.1)]
      obtain ⟨lc0, r1, r2⟩ := hb.2.2
      have l1 := C18.2.2.1
      have l2 := C18.2.2.2.1
      have l3 := C18.2.2.2.2
      have ll := C18.len
      refine ⟨by rw [e']; exact F1.i, by rw [e15]; exact v12, h2, by rw [e15]; exact v13, frM1.w e', ⟨τ, M0, M18, _, _, ps18, [], lc0, C18.2.1, by omega, by omega, by omega, ⟨by rw [e']; show mN M1 = _; exact N1, by rw [e']; show mS M1 = _; rw [k1.2.1, e21]; rfl⟩, hb.2.1, r1, r2⟩, ?_⟩
      have tz := hq.2.2.1
      rw [e']
      show mAI M1 5 0 = 0
      rw [k1.2.2.2.2.2.1, e21]
      show mAI M18 5 0 = 0
      rw [tz.2.2.2.1 5 (by decide) (by decide)]
      exact tz.2.2.2.2.2
    · rw [T21.kind] at z
      rw [if_neg z] at hE
      refine R81x (h := H + 208) N.1 (hL.tok k26 N.1) (by rw [T26.2.2.1]; exact T26.2.2.2.1) (fun M' e' => hE M' ?_)
      have N1 : mN M26 = mN M18 := by rw [k26.1, e21]; rfl
      obtain ⟨lc, rc, cc, pb2, ib, hq⟩ := id C18.2.1
      have fr2 := hb.1.q hq.2.2.2.2.2.1
      have frM1 : FrC M M26 := (fr2.w e21).tr k26.fr (fun a ha z => by omega)
      have e15 : mI M' 15 = mI M26 15 := by
        rw [e']
        funext y
        rw [mI_wI, if_neg (fun z => g15 z.1)]
      obtain ⟨lc0, r1, r2⟩ := hb.2.2
      have l1 := C18.2.2.1
      have l2 := C18.2.2.2.1
      have l3 := C18.2.2.2.2
      have ll := C18.len
      refine ⟨by rw [e']; exact T26.1.i, by rw [e15]; exact T26.2.2.1, (show (2 : Int32) ≠ 0 by decide), by rw [e15]; exact T26.2.2.2.2.1, frM1.w e', ⟨τ, M0, M18, _, _, ps18, [], lc0, C18.2.1, by omega, by omega, by omega, ⟨by rw [e']; show mN M26 = _; exact N1, by rw [e']; show mS M26 = _; rw [k26.2.1, e21]; rfl⟩, hb.2.1, r1, r2⟩, ?_⟩
      have tz := hq.2.2.1
      rw [e']
      show mAI M26 5 0 = 0
      rw [k26.2.2.2.2.2.1, e21]
      show mAI M18 5 0 = 0
      rw [tz.2.2.2.1 5 (by decide) (by decide)]
      exact tz.2.2.2.2.2
end
