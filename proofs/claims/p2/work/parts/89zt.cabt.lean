/-! the class reads parts with rows: abort, weak, suspend, every, trap; await -/
section
variable {b : Nat → Int32} {n s n0 m : Nat} {τ : Td} {M0 M M' : Mem} {i o j g aw lit : Nat} {γ : ClT} {σ : PS} {K : List KE} {cn : Nat → Nat} {ps ps' : List Nat} {tl : List Int64} {f d : Int32} {p t t' h B t0 t1 v H : Nat} {Q : Option Value → Mem → Prop} {Q1 : Int32 → Mem → Prop} {R0 : Except (Int32 × Nat) (Nat × PS × Nat)} {W : Nat}
theorem atM_cl {r : Nat × PS × Nat × Bool} (h : atM b n m τ j i o σ = .ok r) : r.2.1.1.1 = σ.1.1 ∧ trS r.2.1 = trS σ := by
  unfold atM at h
  obtain ⟨x, -, h⟩ := bind_ok h
  obtain ⟨y, h2, h⟩ := bind_ok h
  cases h
  unfold coM at h2
  obtain ⟨z, -, h2⟩ := bind_ok h2
  cases h2
  cases x.2 <;> exact ⟨rfl, rfl⟩
theorem coM_cl {r : Nat × PS × Nat} (h : coM b n m τ j i o σ = .ok r) : r.2.1.1.1 = σ.1.1 ∧ trS r.2.1 = trS σ := by
  unfold coM at h
  obtain ⟨z, -, h⟩ := bind_ok h
  cases h
  exact ⟨rfl, rfl⟩
/-- abort: its tree, behind 'end' -/
def abF (Θ : TrT) (x : Nat) (l : Int32) (im : Bool) : TrT × Nat := if im = true then chT (mkT (abT Θ x l).1 0).1 l (mkT (abT Θ x l).1 0).2 (abT Θ x l).2 else abT Θ x l
theorem ab_if {Θ : TrT} {x i : Nat} {l : Int32} {im : Bool} {σ : PS} : (if im = true then (.ok (i, trP1 σ (chT (mkT (abT Θ x l).1 0).1 l (mkT (abT Θ x l).1 0).2 (abT Θ x l).2).1, (chT (mkT (abT Θ x l).1 0).1 l (mkT (abT Θ x l).1 0).2 (abT Θ x l).2).2) : Except (Int32 × Nat) (Nat × PS × Nat)) else .ok (i, trP1 σ (abT Θ x l).1, (abT Θ x l).2)) = .ok (i, trP1 σ (abF Θ x l im).1, (abF Θ x l im).2) := by
  unfold abF
  by_cases z : im = true
  · rw [if_pos z, if_pos z]
  · rw [if_neg z, if_neg z]
theorem Z_ab2 {l : Int32} {im : Bool} (hC : CS b n s n0 τ M0 M i o γ cn ps tl) (hv : v < γ.2.1.1) (H : ∀ M', CS b n s n0 τ M0 M' i o (γ.1, (abF γ.2.1 v l im).1, γ.2.2) cn ps tl → Q (some (.int (Int32.ofNat (abF γ.2.1 v l im).2))) M') : TAb2 (h + 6) (Int32.ofNat v) l (b32 im) Q M := by
  have F := hC.1.1
  have t1 := hC.t1
  have ta := ts_ab (c := v) (l := l) t1
  refine ⟨4, rf14_1 F, ok4 F, S_ab F hC.2.1.trp hv (fun M1 T1 k1 _ => ⟨_, rfl, fun z => ?_, fun z => ?_⟩)⟩
  · cases im with
    | true => exact absurd z (by decide)
    | false => exact H M1 (hC.tree k1 T1)
  · cases im with
    | false => exact absurd rfl z
    | true =>
      have C1 := hC.tree k1 T1
      have F1 := C1.1.1
      refine ⟨4, rf14_1 F1, 4, rf14_1 F1, ok4 F1, S_mk F1 T1 (fun M2 T2 k2 _ => ⟨_, rfl, ok4 (k2.fix F1), ?_⟩)⟩
      have C2 := C1.tree k2 T2
      have tm := ts_mk (Θ := (abT γ.2.1 v l).1) (k := 0) (Nat.le_trans t1 ta.1)
      refine S_ch C2.1.1 T2 tm.2 (Nat.lt_of_lt_of_le ta.2 tm.1) (fun M3 T3 k3 _ => ⟨_, rfl, ?_⟩)
      exact H M3 (C2.tree k3 T3)
theorem Z_abort (hB : By b) (hS : Sto b n s) (hC : CS b n s n0 τ M0 M i o γ cn ps tl) (ho : o ≤ 15) (hH : 60 ≤ H) (hT : ∀ Q' : Option Value → Mem → Prop, EdP b n s n0 τ M0 o ps tl t0 (fun v M' => Q' (some (.int v)) M') R0 → E H mdX4_readTrapped [.ref 14, .long 0, .int d] M Q') (hR : ∀ q, R0 = .ok q → t0 ≤ (trS q.2.1).1 ∧ q.2.2 < (trS q.2.1).1) (hE : EdP b n s n0 τ M0 o ps tl t0 (fun v M' => Q (some (.int v)) M') (R0.bind fun q => tlM b n m τ 49 j aw lit q.2.2 q.1 o q.2.1)) : E (H + 1) mdX4_readAbort [.ref 14, .int d] M Q := by
  obtain ⟨H, rfl⟩ : ∃ H', H = H' + 54 + 6 := ⟨H - 60, by omega⟩
  refine KX4_readAbort ?_
  unfold DX4_readAbort_0
  refine ⟨ok14 hC.1.1, hT _ ?_⟩
  cases e0 : R0 with
  | error y =>
    rw [e0] at hE
    intro M2 ps2 v t2 X2 he hv ht _
    exact ⟨_, rfl, V_ab0 X2 hv (EdP.vend hE he (Nat.le_refl _) ht)⟩
  | ok q =>
    rw [e0] at hE
    obtain ⟨q1, q2⟩ := hR q e0
    have hE : EdP b n s n0 τ M0 o ps tl t0 (fun v M' => Q (some (.int v)) M') ((ex b n q.1 51).bind fun i2 => (atM b n m τ j i2 o q.2.1).bind fun r => (ex b n r.1 43).bind fun i3 => if r.2.2.2 = true then .ok (i3, trP1 r.2.1 (chT (mkT (abT (trS r.2.1) q.2.2 (Int32.ofNat r.2.2.1)).1 0).1 (Int32.ofNat r.2.2.1) (mkT (abT (trS r.2.1) q.2.2 (Int32.ofNat r.2.2.1)).1 0).2 (abT (trS r.2.1) q.2.2 (Int32.ofNat r.2.2.1)).2).1, (chT (mkT (abT (trS r.2.1) q.2.2 (Int32.ofNat r.2.2.1)).1 0).1 (Int32.ofNat r.2.2.1) (mkT (abT (trS r.2.1) q.2.2 (Int32.ofNat r.2.2.1)).1 0).2 (abT (trS r.2.1) q.2.2 (Int32.ofNat r.2.2.1)).2).2) else .ok (i3, trP1 r.2.1 (abT (trS r.2.1) q.2.2 (Int32.ofNat r.2.2.1)).1, (abT (trS r.2.1) q.2.2 (Int32.ofNat r.2.2.1)).2)) := hE
    intro M2 ps2 C2 he _
    have F2 := C2.1.1
    refine ⟨_, rfl, 15, rf14_0 F2, ok15 F2, Z_expect hS C2 (by decide) ?_⟩
    cases e1 : ex b n q.1 51 with
    | error y =>
      rw [e1] at hE
      intro M3 X3 _
      have X3 : CX n0 τ M0 (s + 70) 0 M3 y.1 y.2 ps2 tl (trS q.2.1).1 := X3
      exact ⟨rfl, V_abx X3 q2 (EdP.vend hE he (by decide) q1)⟩
    | ok i2 =>
      rw [e1] at hE
      intro M3 C3 _
      have F3 := C3.1.1
      refine ⟨rfl, 15, rf14_0 F3, ok15 F3, Z_atM (j := j) (m := m) (P := fun r10 r12 M11 => TAb1 (H + 54 + 6) (Int32.ofNat q.2.2) r12 r10 Q M11) hB hS C3 ho ?_⟩
      cases e2 : atM b n m τ j i2 o q.2.1 with
      | error y =>
        have hE : EdP b n s n0 τ M0 o ps tl t0 (fun v M' => Q (some (.int v)) M') ((atM b n m τ j i2 o q.2.1).bind _) := hE
        rw [e2] at hE
        exact fun M4 im v X4 => V_ab1 X4 q2 (EdP.vend hE he (by decide) q1)
      | ok r =>
        have hE : EdP b n s n0 τ M0 o ps tl t0 (fun v M' => Q (some (.int v)) M') ((atM b n m τ j i2 o q.2.1).bind _) := hE
        rw [e2] at hE
        obtain ⟨c1, c2⟩ := atM_cl e2
        have hE : EdP b n s n0 τ M0 o ps tl t0 (fun v M' => Q (some (.int v)) M') ((ex b n r.1 43).bind _) := hE
        intro M4 C4
        have F4 := C4.1.1
        refine ⟨15, rf14_0 F4, ok15 F4, Z_expect hS C4 (by decide) ?_⟩
        cases e3 : ex b n r.1 43 with
        | error y =>
          rw [e3] at hE
          intro M5 X5 _
          have X5 : CX n0 τ M0 (s + 70) 0 M5 y.1 y.2 ps2 tl (trS r.2.1).1 := X5
          rw [c2] at X5
          exact ⟨rfl, V_ab2 X5 q2 (EdP.vend hE he (by decide) q1)⟩
        | ok i3 =>
          rw [e3] at hE
          intro M5 C5 _
          refine ⟨rfl, Z_ab2 C5 (by show q.2.2 < (trS r.2.1).1; rw [c2]; exact q2) (fun M6 C6 => ?_)⟩
          rw [← c1] at C6
          have hE : EdP b n s n0 τ M0 o ps tl t0 (fun v M' => Q (some (.int v)) M') (if r.2.2.2 = true then .ok (i3, trP1 r.2.1 (chT (mkT (abT (trS r.2.1) q.2.2 (Int32.ofNat r.2.2.1)).1 0).1 (Int32.ofNat r.2.2.1) (mkT (abT (trS r.2.1) q.2.2 (Int32.ofNat r.2.2.1)).1 0).2 (abT (trS r.2.1) q.2.2 (Int32.ofNat r.2.2.1)).2).1, (chT (mkT (abT (trS r.2.1) q.2.2 (Int32.ofNat r.2.2.1)).1 0).1 (Int32.ofNat r.2.2.1) (mkT (abT (trS r.2.1) q.2.2 (Int32.ofNat r.2.2.1)).1 0).2 (abT (trS r.2.1) q.2.2 (Int32.ofNat r.2.2.1)).2).2) else .ok (i3, trP1 r.2.1 (abT (trS r.2.1) q.2.2 (Int32.ofNat r.2.2.1)).1, (abT (trS r.2.1) q.2.2 (Int32.ofNat r.2.2.1)).2)) := hE
          rw [ab_if] at hE
          exact hE.oke he C6
theorem Z_weak {R1 : Nat → Except (Int32 × Nat) (Nat × PS × Nat)} (hB : By b) (hS : Sto b n s) (hC : CS b n s n0 τ M0 M i o γ cn ps tl) (ho : o ≤ 15) (hH : 60 ≤ H) (ht0 : t0 ≤ γ.2.1.1) (hT : ∀ (i2 : Nat) (M' : Mem) (Q' : Option Value → Mem → Prop), ex b n i 49 = .ok i2 → CS b n s n0 τ M0 M' i2 o γ cn ps tl → EdP b n s n0 τ M0 o ps tl t0 (fun v M' => Q' (some (.int v)) M') (R1 i2) → E H mdX4_readTrapped [.ref 14, .long 0, .int d] M' Q') (hR : ∀ i2 q, ex b n i 49 = .ok i2 → R1 i2 = .ok q → t0 ≤ (trS q.2.1).1 ∧ q.2.2 < (trS q.2.1).1) (hE : EdP b n s n0 τ M0 o ps tl t0 (fun v M' => Q (some (.int v)) M') ((ex b n i 49).bind fun i2 => (R1 i2).bind fun q => tlM b n m τ 50 j aw lit q.2.2 q.1 o q.2.1)) : E (H + 1) mdX4_readWeak [.ref 14, .int d] M Q := by
  obtain ⟨H, rfl⟩ : ∃ H', H = H' + 53 + 7 := ⟨H - 60, by omega⟩
  have F := hC.1.1
  refine KX4_readWeak ?_
  unfold DX4_readWeak_0
  refine ⟨ok14 F, 15, rf14_0 F, ok15 F, Z_expect hS hC (by decide) ?_⟩
  cases e49 : ex b n i 49 with
  | error y =>
    rw [e49] at hE
    intro M1 X1 _
    exact ⟨rfl, V_wk X1 (EdP.vend hE ⟨[], (List.append_nil _).symm⟩ (by decide) ht0)⟩
  | ok i2 =>
  rw [e49] at hE
  have hE : EdP b n s n0 τ M0 o ps tl t0 (fun v M' => Q (some (.int v)) M') ((R1 i2).bind fun q => tlM b n m τ 50 j aw lit q.2.2 q.1 o q.2.1) := hE
  intro M1 C1 _
  refine ⟨rfl, hT i2 M1 _ e49 C1 ?_⟩
  cases e0 : R1 i2 with
  | error y =>
    rw [e0] at hE
    intro M2 ps2 v t2 X2 he hv ht _
    exact ⟨_, rfl, V_wk0 (h := H + 54) X2 hv (EdP.vend hE he (Nat.le_refl _) ht)⟩
  | ok q =>
    rw [e0] at hE
    obtain ⟨q1, q2⟩ := hR i2 q e49 e0
    have hE : EdP b n s n0 τ M0 o ps tl t0 (fun v M' => Q (some (.int v)) M') ((ex b n q.1 51).bind fun i2 => (atM b n m τ j i2 o q.2.1).bind fun r => (ex b n r.1 43).bind fun i3 => .ok (i3, trP1 r.2.1 (wkT (trS r.2.1) q.2.2 (Int32.ofNat r.2.2.1) r.2.2.2).1, (wkT (trS r.2.1) q.2.2 (Int32.ofNat r.2.2.1) r.2.2.2).2)) := hE
    intro M2 ps2 C2 he _
    have F2 := C2.1.1
    refine ⟨_, rfl, 15, rf14_0 F2, ok15 F2, Z_expect hS C2 (by decide) ?_⟩
    cases e1 : ex b n q.1 51 with
    | error y =>
      rw [e1] at hE
      intro M3 X3 _
      have X3 : CX n0 τ M0 (s + 70) 0 M3 y.1 y.2 ps2 tl (trS q.2.1).1 := X3
      exact ⟨rfl, V_wkx (h := H + 54) X3 q2 (EdP.vend hE he (by decide) q1)⟩
    | ok i2 =>
      rw [e1] at hE
      intro M3 C3 _
      have F3 := C3.1.1
      refine ⟨rfl, 15, rf14_0 F3, ok15 F3, Z_atM (h := H) (j := j) (m := m) (P := fun r10 r12 M11 => TWk1 (H + 53 + 7) (Int32.ofNat q.2.2) r12 r10 Q M11) hB hS C3 ho ?_⟩
      have hE : EdP b n s n0 τ M0 o ps tl t0 (fun v M' => Q (some (.int v)) M') ((atM b n m τ j i2 o q.2.1).bind _) := hE
      cases e2 : atM b n m τ j i2 o q.2.1 with
      | error y =>
        rw [e2] at hE
        exact fun M4 im v X4 => V_wk1 (h := H + 54) X4 q2 (EdP.vend hE he (by decide) q1)
      | ok r =>
        rw [e2] at hE
        obtain ⟨c1, c2⟩ := atM_cl e2
        have hE : EdP b n s n0 τ M0 o ps tl t0 (fun v M' => Q (some (.int v)) M') ((ex b n r.1 43).bind _) := hE
        intro M4 C4
        have F4 := C4.1.1
        refine ⟨15, rf14_0 F4, ok15 F4, Z_expect hS C4 (by decide) ?_⟩
        cases e3 : ex b n r.1 43 with
        | error y =>
          rw [e3] at hE
          intro M5 X5 _
          have X5 : CX n0 τ M0 (s + 70) 0 M5 y.1 y.2 ps2 tl (trS r.2.1).1 := X5
          rw [c2] at X5
          exact ⟨rfl, V_wk2 (h := H + 54) X5 q2 (EdP.vend hE he (by decide) q1)⟩
        | ok i3 =>
          rw [e3] at hE
          intro M5 C5 _
          have F5 := C5.1.1
          refine ⟨rfl, 4, rf14_1 F5, ok4 F5, S_wk F5 C5.2.1.trp (by show q.2.2 < (trS r.2.1).1; rw [c2]; exact q2) (fun M6 T6 k6 _ => ⟨_, rfl, ?_⟩)⟩
          have C6 := C5.tree k6 T6
          rw [← c1] at C6
          exact hE.oke he C6
theorem Z_susp (hB : By b) (hS : Sto b n s) (hC : CS b n s n0 τ M0 M i o γ cn ps tl) (ho : o ≤ 15) (hH : 60 ≤ H) (hT : ∀ Q' : Option Value → Mem → Prop, EdP b n s n0 τ M0 o ps tl t0 (fun v M' => Q' (some (.int v)) M') R0 → E H mdX4_readSeq [.ref 14, .int d] M Q') (hR : ∀ q, R0 = .ok q → t0 ≤ (trS q.2.1).1 ∧ q.2.2 < (trS q.2.1).1) (hE : EdP b n s n0 τ M0 o ps tl t0 (fun v M' => Q (some (.int v)) M') (R0.bind fun q => tlM b n m τ 52 j aw lit q.2.2 q.1 o q.2.1)) : E (H + 1) mdX4_readSuspend [.ref 14, .int d] M Q := by
  obtain ⟨H, rfl⟩ : ∃ H', H = H' + 54 + 6 := ⟨H - 60, by omega⟩
  refine KX4_readSuspend ?_
  unfold DX4_readSuspend_0
  refine ⟨ok14 hC.1.1, hT _ ?_⟩
  cases e0 : R0 with
  | error y =>
    rw [e0] at hE
    intro M2 ps2 v t2 X2 he hv ht _
    exact ⟨_, rfl, V_su0 X2 hv (EdP.vend hE he (Nat.le_refl _) ht)⟩
  | ok q =>
    rw [e0] at hE
    obtain ⟨q1, q2⟩ := hR q e0
    have hE : EdP b n s n0 τ M0 o ps tl t0 (fun v M' => Q (some (.int v)) M') ((ex b n q.1 51).bind fun i2 => (coM b n m τ j i2 o q.2.1).bind fun r => (ex b n r.1 43).bind fun i3 => .ok (i3, trP1 r.2.1 (suT (trS r.2.1) q.2.2 (Int32.ofNat r.2.2)).1, (suT (trS r.2.1) q.2.2 (Int32.ofNat r.2.2)).2)) := hE
    intro M2 ps2 C2 he _
    have F2 := C2.1.1
    refine ⟨_, rfl, 15, rf14_0 F2, ok15 F2, Z_expect hS C2 (by decide) ?_⟩
    cases e1 : ex b n q.1 51 with
    | error y =>
      rw [e1] at hE
      intro M3 X3 _
      have X3 : CX n0 τ M0 (s + 70) 0 M3 y.1 y.2 ps2 tl (trS q.2.1).1 := X3
      exact ⟨rfl, V_sux X3 q2 (EdP.vend hE he (by decide) q1)⟩
    | ok i2 =>
      rw [e1] at hE
      intro M3 C3 _
      refine ⟨rfl, Z_coM (j := j) (m := m) hB hS C3 ho (by omega) ?_⟩
      have hE : EdP b n s n0 τ M0 o ps tl t0 (fun v M' => Q (some (.int v)) M') ((coM b n m τ j i2 o q.2.1).bind _) := hE
      cases e2 : coM b n m τ j i2 o q.2.1 with
      | error y =>
        rw [e2] at hE
        exact fun M4 v X4 _ => ⟨_, rfl, V_su1 X4 q2 (EdP.vend hE he (by decide) q1)⟩
      | ok r =>
        rw [e2] at hE
        obtain ⟨c1, c2⟩ := coM_cl e2
        have hE : EdP b n s n0 τ M0 o ps tl t0 (fun v M' => Q (some (.int v)) M') ((ex b n r.1 43).bind _) := hE
        intro M4 C4 _
        have F4 := C4.1.1
        refine ⟨_, rfl, 15, rf14_0 F4, ok15 F4, Z_expect hS C4 (by decide) ?_⟩
        cases e3 : ex b n r.1 43 with
        | error y =>
          rw [e3] at hE
          intro M5 X5 _
          have X5 : CX n0 τ M0 (s + 70) 0 M5 y.1 y.2 ps2 tl (trS r.2.1).1 := X5
          rw [c2] at X5
          exact ⟨rfl, V_su2 X5 q2 (EdP.vend hE he (by decide) q1)⟩
        | ok i3 =>
          rw [e3] at hE
          intro M5 C5 _
          have F5 := C5.1.1
          refine ⟨rfl, 4, rf14_1 F5, ok4 F5, S_su F5 C5.2.1.trp (by show q.2.2 < (trS r.2.1).1; rw [c2]; exact q2) (fun M6 T6 k6 _ => ⟨_, rfl, ?_⟩)⟩
          have C6 := C5.tree k6 T6
          rw [← c1] at C6
          exact hE.oke he C6
end
