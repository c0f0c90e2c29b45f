/-! the class reads parts: emit and sustain -/
/-- the ends of reading a part (or rows): its node comes -/
def EdP (b : Nat → Int32) (n s n0 : Nat) (τ : Td) (M0 : Mem) (o : Nat) (ps : List Nat) (tl : List Int64) (t0 : Nat) (Q : Int32 → Mem → Prop) (R : Except (Int32 × Nat) (Nat × PS × Nat)) : Prop := match R with
  | .ok r => ∀ M' ps', CS b n s n0 τ M0 M' r.1 o r.2.1.2.1 r.2.1.1.1 ps' tl → (∃ e, ps' = ps ++ e) → Q (Int32.ofNat r.2.2) M'
  | .error e => ∀ M' ps' v t, CX n0 τ M0 (s + 70) 10 M' e.1 e.2 ps' tl t → (∃ e, ps' = ps ++ e) → v < t → t0 ≤ t → Q (Int32.ofNat v) M'
section
variable {b : Nat → Int32} {n s n0 m : Nat} {τ : Td} {M0 M M' : Mem} {i o i' o' j : Nat} {γ : ClT} {σ : PS} {K : List KE} {cn cn' : Nat → Nat} {ps : List Nat} {tl : List Int64} {f c : Int32} {p t t' h B : Nat} {Q : Option Value → Mem → Prop} {W : Nat}
theorem A_failAt {c w : Int32} (hT : TI b n s M i o) (hc : c ≠ 0) (hw : w = Int32.ofNat p) (H : ∀ M', TF M' c p → TFr M M' → Q none M') : E (h + 2) mdX7_failAt [.ref 15, .int c, .int w] M Q := by
  have F := hT.1
  refine S_failAt F (H _ ?_ (TFr.i.tr TFr.fail))
  have f12 : mI M 15 12 = 0 := hT.2.2.2.2.2.2.2.2.1
  have c0 := hT.c0
  unfold failF
  have f12' : mI (wI M 15 10 w) 15 12 = 0 := by rw [mI_wI, if_neg (by decide)]; exact f12
  rw [if_pos f12']
  refine ⟨F.i.i.i.i, ?_, ?_, hc, ?_, ?_⟩
  · rw [mI_wI, if_neg (by decide), mI_wI, if_neg (by decide), mI_wI, if_neg (by decide), mI_wI, if_neg (by decide)]; exact c0
  · rw [mI_wI, if_neg (by decide), mI_wI, if_neg (by decide), mI_wI, if_pos ⟨rfl, rfl⟩]
  · rw [mI_wI, if_neg (by decide), mI_wI, if_pos ⟨rfl, rfl⟩, mI_wI, if_pos ⟨rfl, rfl⟩]; exact hw
  · rw [mI_wI, if_pos ⟨rfl, rfl⟩]
theorem CS.t1 (hC : CS b n s n0 τ M0 M i o γ cn ps tl) : 1 ≤ γ.2.1.1 := hC.2.1.trp.2.2.1.1
theorem Z_emitted (hB : By b) (hC : CS b n s n0 τ M0 M i o γ cn ps tl) (H1 : tK b n i = 2 → ∀ k, fd τ.1 (tC b n i) = some k → k < τ.1.length → τ.2.1.getD k 0 ≠ 30 → Q (some (.int (Int32.ofNat k))) M) (H0 : tK b n i = 2 → (fd τ.1 (tC b n i) = none ∨ ∃ k, fd τ.1 (tC b n i) = some k ∧ τ.2.1.getD k 0 = 30) → ∀ M', CX n0 τ M0 (s + 70) 0 M' 4 (tP b n i) ps tl γ.2.1.1 → Q (some (.int (-1))) M') (H2 : tK b n i ≠ 2 → ∀ M', CX n0 τ M0 (s + 70) 0 M' 2 (tP b n i) ps tl γ.2.1.1 → Q (some (.int (-1))) M') : E (h + 3) mdX4_emittedSignal [.ref 14] M Q := by
  have F := hC.1.1
  have hV := hC.2.1.env
  have h7 := hC.2.1.nz.2.2.2.2.2.1
  refine KX4_emittedSignal ?_
  unfold DX4_emittedSignal_0 DX4_emittedSignal_34
  refine ⟨ok14 F, A_told hC.1 hV h7 hB (fun hk k e hl _ => ⟨_, rfl, fun hc => ?_, fun _ => ?_⟩) (fun hk e M' T k _ => ⟨_, rfl, fun _ => H0 hk (Or.inl e) M' (hC.x k T), fun hc => absurd rfl hc⟩) (fun hk M' T k _ => ⟨_, rfl, fun _ => H2 hk M' (hC.x k T), fun hc => absurd rfl hc⟩)⟩
  · exact absurd hc (oi_ne (by have := hV.2.1.1; omega))
  · obtain ⟨-, hlen, -, -, -, -, h27, ⟨c1, c2, c3⟩, -⟩ := id hV
    refine ⟨n0, h7, hV.1, n0 + 2, h27, c1, by rw [c2]; exact vp_of (by omega) (by decide), ?_, ?_⟩
    · rw [lt32 (by omega), c3 k hl]
      exact fun hm => H1 hk k e hl hm
    · rw [lt32 (by omega), c3 k hl]
      exact fun hm => ⟨15, rf14_0 F, ok15 F, Z_fail hC (by decide) (fun M' X' _ => ⟨rfl, H0 hk (Or.inr ⟨k, e, hm⟩) M' X'⟩)⟩
/-- a sum in brackets -/
theorem Z_brk {X : List Nd} {H : Nat} (hB : By b) (hS : Sto b n s) (hC : CS b n s n0 τ M0 M i o γ cn ps tl) (ho : o ≤ 15) (h15 : tK b n i = 15) (hH : 73 ≤ H) (hE : EdS b n s n0 τ M0 o X γ cn ps tl (fun M' => Q none M') (if o = 15 then .error (6, tP b n i) else (adv' b n i).bind fun i3 => (rd b n τ.1 τ.2.2.1 τ.2.2.2.1 6000 3 i3 (o + 1) X γ.2.2.2.2.2.2.2).bind fun r => (ex b n r.1 16).bind fun i4 => .ok (i4, r.2))) : E H mdX4_readInBrackets [.ref 14] M Q := by
  obtain ⟨H, rfl⟩ : ∃ H', H = H' + 73 := ⟨H - 73, by omega⟩
  have F := hC.1.1
  have vx : ∀ M2 f p, CX n0 τ M0 (s + 70) 0 M2 f p ps tl γ.2.1.1 → (∀ M', CX n0 τ M0 (s + 70) 0 M' f p ps tl γ.2.1.1 → Q none M') → DX4_readInBrackets_28 (H + 72) 14 M2 Q := by
    intro M2 f p X2 hq
    have F2 := X2.1.1
    unfold DX4_readInBrackets_28
    exact ⟨ok14 F2, 15, rf14_0 F2, ok15 F2, V_expect X2 (by decide) (fun _ => ⟨rfl, 15, rf14_0 F2, ok15 F2, V_closes X2 (fun M' X' _ => ⟨rfl, hq M' X'⟩)⟩)⟩
  refine KX4_readInBrackets ?_
  unfold DX4_readInBrackets_0
  refine ⟨ok14 F, 15, rf14_0 F, ok15 F, Z_opens hC ho (fun hlt M2 C2 _ => ⟨rfl, ?_⟩) (fun h5 M2 X2 _ => ⟨rfl, ?_⟩)⟩
  · rw [if_neg (by omega)] at hE
    have F2 := C2.1.1
    refine ⟨15, rf14_0 F2, ok15 F2, Z_adv hS C2 (by rw [h15]; decide) ?_⟩
    cases ea : adv' b n i with
    | error y =>
      rw [ea] at hE
      intro M3 X3 _
      have F3 := X3.1.1
      exact ⟨rfl, 15, rf14_0 F3, ok15 F3, fun _ => vx M3 _ _ X3 (fun M' X' => hE M' X'), fun z => absurd z (by rw [X3.1.2.2.1]; exact X3.1.2.2.2.1)⟩
    | ok i3 =>
      rw [ea] at hE
      intro M3 C3 _
      have F3 := C3.1.1
      refine ⟨rfl, 15, rf14_0 F3, ok15 F3, fun z => absurd C3.1.2.2.2.2.2.2.2.2.1 z, fun _ => Z_sum (X := X) hB hS C3 (by omega) (by omega) ?_⟩
      cases er : rd b n τ.1 τ.2.2.1 τ.2.2.2.1 6000 3 i3 (o + 1) X γ.2.2.2.2.2.2.2 with
      | error y =>
        have hE : EdS b n s n0 τ M0 o X γ cn ps tl (fun M' => Q none M') ((rd b n τ.1 τ.2.2.1 τ.2.2.2.1 6000 3 i3 (o + 1) X γ.2.2.2.2.2.2.2).bind fun r => (ex b n r.1 16).bind fun i4 => .ok (i4, r.2)) := hE
        rw [er] at hE
        exact fun M4 X4 _ => ⟨rfl, vx M4 _ _ X4 (fun M' X' => hE M' X')⟩
      | ok r =>
        have hE : EdS b n s n0 τ M0 o X γ cn ps tl (fun M' => Q none M') ((rd b n τ.1 τ.2.2.1 τ.2.2.2.1 6000 3 i3 (o + 1) X γ.2.2.2.2.2.2.2).bind fun r => (ex b n r.1 16).bind fun i4 => .ok (i4, r.2)) := hE
        rw [er] at hE
        intro M4 C4 l4 _
        have F4 := C4.1.1
        refine ⟨rfl, ?_⟩
        unfold DX4_readInBrackets_28
        refine ⟨ok14 F4, 15, rf14_0 F4, ok15 F4, Z_expect hS C4 (by decide) ?_⟩
        have hE : EdS b n s n0 τ M0 o X γ cn ps tl (fun M' => Q none M') ((ex b n r.1 16).bind fun i4 => .ok (i4, r.2)) := hE
        have hxx : ∀ i4, ex b n r.1 16 = .ok i4 → i4 = r.1 + 1 := by
          intro i4 z
          unfold ex adv' at z
          split at z
          · split at z
            · cases z
            · cases z; rfl
          · cases z
        cases ex4 : ex b n r.1 16 with
        | error y =>
          rw [ex4] at hE
          intro M5 X5 _
          have F5 := X5.1.1
          exact ⟨rfl, 15, rf14_0 F5, ok15 F5, V_closes X5 (fun M' X' _ => ⟨rfl, hE M' X'⟩)⟩
        | ok i4 =>
          rw [ex4] at hE
          have e4 := hxx i4 ex4
          intro M5 C5 _
          have F5 := C5.1.1
          exact ⟨rfl, 15, rf14_0 F5, ok15 F5, Z_closes C5 (by omega) (fun M' C' _ => ⟨rfl, hE M' C' (by show (γ.2.2.2.2.2.1 ++ cdL (r.2.1.drop X.length)).length + 1 ≤ 3 * i4; omega)⟩)⟩
  · rw [if_pos h5] at hE
    have F2 := X2.1.1
    refine ⟨15, rf14_0 F2, ok15 F2, V_adv X2 (fun _ => ⟨rfl, 15, rf14_0 F2, ok15 F2, fun _ => vx M2 _ _ X2 (fun M' X' => hE M' X'), fun z => absurd z (by rw [X2.1.2.2.1]; exact X2.1.2.2.2.1)⟩)⟩
end
