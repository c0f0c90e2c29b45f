/-! the class reads parts with rows -/
section
variable {b : Nat → Int32} {n s n0 m : Nat} {τ : Td} {M0 M M' : Mem} {i o j g aw lit : Nat} {γ : ClT} {σ : PS} {K : List KE} {cn : Nat → Nat} {ps ps' : List Nat} {tl : List Int64} {f d : Int32} {p t t' h B t0 t1 v H : Nat} {Q : Option Value → Mem → Prop} {Q1 : Int32 → Mem → Prop} {R0 : Except (Int32 × Nat) (Nat × PS × Nat)} {W : Nat}
theorem EdP.vend {e : Int32 × Nat} (hE : EdP b n s n0 τ M0 o ps tl t0 (fun v M' => Q (some (.int v)) M') (.error e)) (he : ∃ x, ps' = ps ++ x) (hB : B ≤ 10) (ht : t0 ≤ t) : VEnd n0 τ M0 (s + 70) B e.1 e.2 ps' tl t Q := fun M' v t' X q1 q2 => hE M' ps' v t' (X.mono (Nat.le_refl _) hB) he q2 (Nat.le_trans ht q1)
theorem EdP.oke {r : Nat × PS × Nat} (hE : EdP b n s n0 τ M0 o ps tl t0 Q1 (.ok r)) (he : ∃ x, ps' = ps ++ x) (C : CS b n s n0 τ M0 M' r.1 o r.2.1.2.1 r.2.1.1.1 ps' tl) : Q1 (Int32.ofNat r.2.2) M' := hE M' ps' C he
theorem sm_lt {e : List Nat} (hj : j < ps.length) : j < (ps ++ e).length := by rw [List.length_append]; omega
/-- loop: behind its row -/
theorem Z_l23 (hS : Sto b n s) (hC : CS b n s n0 τ M0 M i o σ.2.1 σ.1.1 ps' tl) (he : ∃ x, ps' = ps ++ x) (hv : v < (trS σ).1) (ht : t0 ≤ (trS σ).1) (hE : EdP b n s n0 τ M0 o ps tl t0 (fun v M' => Q (some (.int v)) M') ((ex b n i 43).bind fun i2 => .ok (i2, trP1 σ (wrT (trS σ) 6 v).1, (wrT (trS σ) 6 v).2))) : DX4_readLoop_23 (h + 3) 14 (Int32.ofNat v) M Q := by
  have F := hC.1.1
  unfold DX4_readLoop_23
  refine ⟨ok14 F, 15, rf14_0 F, ok15 F, Z_expect hS hC (by decide) ?_⟩
  cases e : ex b n i 43 with
  | error y =>
    rw [e] at hE
    intro M1 X1 _
    have F1 := X1.1.1
    have X1 : CX n0 τ M0 (s + 70) 0 M1 y.1 y.2 ps' tl (trS σ).1 := X1
    exact ⟨rfl, 4, rf14_1 F1, ok4 F1, V_op X1 (fun Θ hT ht h0 => ⟨wrT Θ 6 v, ts_wr h0, fun Q' H' => S_wr F1 hT (by omega) H'⟩) (fun M' v t' X' q1 q2 _ => ⟨_, rfl, hE.vend he (by decide) ht M' v t' X' q1 q2⟩)⟩
  | ok i2 =>
    rw [e] at hE
    intro M1 C1 _
    have F1 := C1.1.1
    refine ⟨rfl, 4, rf14_1 F1, ok4 F1, S_wr F1 C1.2.1.trp hv (fun M2 T2 k2 _ => ⟨_, rfl, ?_⟩)⟩
    exact hE.oke he (C1.tree k2 T2)
theorem Z_loop (hS : Sto b n s) (hC : CS b n s n0 τ M0 M i o γ cn ps tl) (hj : j < ps.length) (hH : 3 ≤ H) (hT : ∀ Q' : Option Value → Mem → Prop, EdP b n s n0 τ M0 o ps tl t0 (fun v M' => Q' (some (.int v)) M') R0 → E H mdX4_readSeq [.ref 14, .int d] M Q') (hR : ∀ q, R0 = .ok q → t0 ≤ (trS q.2.1).1 ∧ q.2.2 < (trS q.2.1).1) (hE : EdP b n s n0 τ M0 o ps tl t0 (fun v M' => Q (some (.int v)) M') (R0.bind fun q => tlM b n m τ 42 j aw lit q.2.2 q.1 o q.2.1)) : E (H + 1) mdX4_readLoop [.ref 14, .ref (ps.getD j 0), .int d] M Q := by
  obtain ⟨H, rfl⟩ : ∃ H', H = H' + 3 := ⟨H - 3, by omega⟩
  refine KX4_readLoop ?_
  unfold DX4_readLoop_0
  refine ⟨ok14 hC.1.1, hT _ ?_⟩
  cases e0 : R0 with
  | error y =>
    rw [e0] at hE
    intro M2 ps2 v t2 X2 he hv ht _
    obtain ⟨x, hx⟩ := id he
    have ej : ps.getD j 0 = ps2.getD j 0 := by rw [hx]; exact (getD_ext hj).symm
    rw [ej]
    exact ⟨_, rfl, V_lp X2 (by rw [hx]; exact sm_lt hj) hv (EdP.vend hE he (Nat.le_refl _) ht)⟩
  | ok q =>
    rw [e0] at hE
    obtain ⟨q1, q2⟩ := hR q e0
    have hE : EdP b n s n0 τ M0 o ps tl t0 (fun v M' => Q (some (.int v)) M') ((ex b n q.1 43).bind fun i2 => .ok (i2, trP1 (if (trS q.2.1).2.2 13 q.2.2 &&& 1 = 0 then q.2.1 else paP q.2.1 j 2 7) (wrT (trS q.2.1) 6 q.2.2).1, (wrT (trS q.2.1) 6 q.2.2).2)) := hE
    intro M2 ps2 C2 he _
    obtain ⟨x, hx⟩ := id he
    have ej : ps.getD j 0 = ps2.getD j 0 := by rw [hx]; exact (getD_ext hj).symm
    have hj2 : j < ps2.length := by rw [hx]; exact sm_lt hj
    have F2 := C2.1.1
    rw [ej]
    refine ⟨_, rfl, 4, rf14_1 F2, ok4 F2, S_ceo F2 C2.2.1.trp q2 (fun _ => ⟨_, rfl, fun z => ?_, fun z => ⟨(C2.2.1.part hj2).1, fun M9 e9 => ?_⟩⟩)⟩
    · by_cases y : (trS q.2.1).2.2 13 q.2.2 &&& 1 = 0
      · rw [if_pos y] at hE
        exact Z_l23 hS C2 he q2 q1 hE
      · exact absurd z (by rw [if_neg (show ¬ q.2.1.2.1.2.1.2.2 13 q.2.2 &&& 1 = 0 from y)]; decide)
    · by_cases y : (trS q.2.1).2.2 13 q.2.2 &&& 1 = 0
      · exact absurd (by rw [if_pos (show q.2.1.2.1.2.1.2.2 13 q.2.2 &&& 1 = 0 from y)]) z
      · rw [if_neg y] at hE
        exact Z_l23 (σ := paP q.2.1 j 2 7) hS (C2.pt hj2 e9) he q2 q1 hE
/-- a choice: behind its rows -/
theorem Z_c43 {x y : Nat} (hS : Sto b n s) (hC : CS b n s n0 τ M0 M i o σ.2.1 σ.1.1 ps' tl) (he : ∃ x, ps' = ps ++ x) (hx : x < (trS σ).1) (hy : y < (trS σ).1) (ht : t0 ≤ (trS σ).1) (hE : EdP b n s n0 τ M0 o ps tl t0 (fun v M' => Q (some (.int v)) M') (chM b n lit x y i σ)) : DX4_readChoice_43 (h + 3) 14 (Int32.ofNat lit) (Int32.ofNat x) (Int32.ofNat y) M Q := by
  have F := hC.1.1
  unfold chM at hE
  unfold DX4_readChoice_43
  refine ⟨ok14 F, 15, rf14_0 F, ok15 F, Z_expect hS hC (by decide) ?_⟩
  cases e : ex b n i 43 with
  | error z =>
    rw [e] at hE
    intro M1 X1 _
    have F1 := X1.1.1
    have X1 : CX n0 τ M0 (s + 70) 0 M1 z.1 z.2 ps' tl (trS σ).1 := X1
    exact ⟨rfl, 4, rf14_1 F1, ok4 F1, V_op X1 (fun Θ hT ht h0 => ⟨chT Θ (Int32.ofNat lit) x y, ts_ch h0, fun Q' H' => S_ch F1 hT (by omega) (by omega) H'⟩) (fun M' v t' X' q1 q2 _ => ⟨_, rfl, hE.vend he (by decide) ht M' v t' X' q1 q2⟩)⟩
  | ok i2 =>
    rw [e] at hE
    intro M1 C1 _
    have F1 := C1.1.1
    refine ⟨rfl, 4, rf14_1 F1, ok4 F1, S_ch F1 C1.2.1.trp hx hy (fun M2 T2 k2 _ => ⟨_, rfl, ?_⟩)⟩
    exact hE.oke he (C1.tree k2 T2)
theorem Z_choice {R1 : Nat → Except (Int32 × Nat) (Nat × PS × Nat)} {R2 : Nat × PS × Nat → Nat → Except (Int32 × Nat) (Nat × PS × Nat)} (hS : Sto b n s) (hC : CS b n s n0 τ M0 M i o γ cn ps tl) (hH : 6 ≤ H) (ht0 : t0 ≤ γ.2.1.1)
    (hT : ∀ (i2 : Nat) (M' : Mem) (Q' : Option Value → Mem → Prop), ex b n i 45 = .ok i2 → CS b n s n0 τ M0 M' i2 o γ cn ps tl → EdP b n s n0 τ M0 o ps tl γ.2.1.1 (fun v M' => Q' (some (.int v)) M') (R1 i2) → E H mdX4_readSeq [.ref 14, .int d] M' Q') (hR : ∀ i2 q, ex b n i 45 = .ok i2 → R1 i2 = .ok q → γ.2.1.1 ≤ (trS q.2.1).1 ∧ q.2.2 < (trS q.2.1).1)
    (hT2 : ∀ (i2 : Nat) (q : Nat × PS × Nat) (i3 : Nat) (ps' : List Nat) (M' : Mem) (Q' : Option Value → Mem → Prop), ex b n i 45 = .ok i2 → R1 i2 = .ok q → tK b n q.1 = 46 → adv' b n q.1 = .ok i3 → CS b n s n0 τ M0 M' i3 o q.2.1.2.1 q.2.1.1.1 ps' tl → EdP b n s n0 τ M0 o ps' tl (trS q.2.1).1 (fun v M' => Q' (some (.int v)) M') (R2 q i3) → E H mdX4_readSeq [.ref 14, .int d] M' Q') (hR2 : ∀ i2 q i3 u, ex b n i 45 = .ok i2 → R1 i2 = .ok q → tK b n q.1 = 46 → adv' b n q.1 = .ok i3 → R2 q i3 = .ok u → (trS q.2.1).1 ≤ (trS u.2.1).1 ∧ u.2.2 < (trS u.2.1).1)
    (hE : EdP b n s n0 τ M0 o ps tl t0 (fun v M' => Q (some (.int v)) M') ((ex b n i 45).bind fun i2 => (R1 i2).bind fun q => if tK b n q.1 = 46 then (adv' b n q.1).bind fun i3 => (R2 q i3).bind fun u => chM b n lit q.2.2 u.2.2 u.1 u.2.1 else chM b n lit q.2.2 (mkT (trS q.2.1) 0).2 q.1 (trP1 q.2.1 (mkT (trS q.2.1) 0).1))) : E (H + 1) mdX4_readChoice [.ref 14, .int (Int32.ofNat lit), .int d] M Q := by
  obtain ⟨H, rfl⟩ : ∃ H', H = H' + 6 := ⟨H - 6, by omega⟩
  have F := hC.1.1
  refine KX4_readChoice ?_
  unfold DX4_readChoice_0
  refine ⟨ok14 F, 15, rf14_0 F, ok15 F, Z_expect hS hC (by decide) ?_⟩
  cases e45 : ex b n i 45 with
  | error y =>
    rw [e45] at hE
    intro M1 X1 _
    refine ⟨rfl, V_seq X1 (fun M2 v t2 X2 q1 q2 _ => ⟨_, rfl, 15, rf14_0 X2.1.1, ok15 X2.1.1, V_accept X2 (by decide) (fun _ => ⟨_, rfl, fun _ => V_cmk X2 q2 (EdP.vend hE ⟨[], (List.append_nil _).symm⟩ (by decide) (by omega)), fun z => absurd rfl z⟩)⟩)⟩
  | ok i2 =>
    rw [e45] at hE
    have hE : EdP b n s n0 τ M0 o ps tl t0 (fun v M' => Q (some (.int v)) M') ((R1 i2).bind fun q => if tK b n q.1 = 46 then (adv' b n q.1).bind fun i3 => (R2 q i3).bind fun u => chM b n lit q.2.2 u.2.2 u.1 u.2.1 else chM b n lit q.2.2 (mkT (trS q.2.1) 0).2 q.1 (trP1 q.2.1 (mkT (trS q.2.1) 0).1)) := hE
    intro M1 C1 _
    refine ⟨rfl, hT i2 M1 _ e45 C1 ?_⟩
    cases e1 : R1 i2 with
    | error y =>
      rw [e1] at hE
      intro M2 ps2 v t2 X2 he hv ht _
      exact ⟨_, rfl, 15, rf14_0 X2.1.1, ok15 X2.1.1, V_accept X2 (by decide) (fun _ => ⟨_, rfl, fun _ => V_cmk X2 hv (EdP.vend hE he (Nat.le_refl _) (by omega)), fun z => absurd rfl z⟩)⟩
    | ok q =>
      rw [e1] at hE
      obtain ⟨q1, q2⟩ := hR i2 q e45 e1
      have hE : EdP b n s n0 τ M0 o ps tl t0 (fun v M' => Q (some (.int v)) M') (if tK b n q.1 = 46 then (adv' b n q.1).bind fun i3 => (R2 q i3).bind fun u => chM b n lit q.2.2 u.2.2 u.1 u.2.1 else chM b n lit q.2.2 (mkT (trS q.2.1) 0).2 q.1 (trP1 q.2.1 (mkT (trS q.2.1) 0).1)) := hE
      intro M2 ps2 C2 he _
      have F2 := C2.1.1
      have t21 : 1 ≤ (trS q.2.1).1 := C2.t1
      refine ⟨_, rfl, 15, rf14_0 F2, ok15 F2, Z_accept hS C2 (by decide) (fun k => ?_) (fun k _ => ⟨_, rfl, fun _ => ?_, fun z => absurd rfl z⟩)⟩
      · rw [if_pos k] at hE
        cases ea : adv' b n q.1 with
        | error y =>
          rw [ea] at hE
          intro M3 X3 _
          have X3 : CX n0 τ M0 (s + 70) 0 M3 y.1 y.2 ps2 tl (trS q.2.1).1 := X3
          exact ⟨_, rfl, fun z => absurd z (by decide), fun _ => V_seq X3 (fun M4 v t4 X4 w1 w2 _ => ⟨_, rfl, V_c43 X4 (by omega) w2 (EdP.vend hE he (by decide) (by omega))⟩)⟩
        | ok i3 =>
          rw [ea] at hE
          have hE : EdP b n s n0 τ M0 o ps tl t0 (fun v M' => Q (some (.int v)) M') ((R2 q i3).bind fun u => chM b n lit q.2.2 u.2.2 u.1 u.2.1) := hE
          intro M3 C3 _
          refine ⟨_, rfl, fun z => absurd z (by decide), fun _ => hT2 i2 q i3 ps2 M3 _ e45 e1 k ea C3 ?_⟩
          cases e2 : R2 q i3 with
          | error y =>
            rw [e2] at hE
            intro M4 ps4 v t4 X4 ⟨x4, h4⟩ hv ht _
            obtain ⟨x2, h2⟩ := he
            exact ⟨_, rfl, V_c43 X4 (by omega) hv (EdP.vend hE ⟨x2 ++ x4, by rw [h4, h2, List.append_assoc]⟩ (Nat.le_refl _) (by omega))⟩
          | ok u =>
            rw [e2] at hE
            obtain ⟨u1, u2⟩ := hR2 i2 q i3 u e45 e1 k ea e2
            intro M4 ps4 C4 ⟨x4, h4⟩ _
            obtain ⟨x2, h2⟩ := he
            exact ⟨_, rfl, Z_c43 hS C4 ⟨x2 ++ x4, by rw [h4, h2, List.append_assoc]⟩ (by omega) u2 (by omega) hE⟩
      · rw [if_neg k] at hE
        have tm := ts_mk (Θ := trS q.2.1) (k := 0) t21
        have a1 := tm.1
        have a2 := tm.2
        refine ⟨4, rf14_1 F2, ok4 F2, S_mk F2 C2.2.1.trp (fun M3 T3 k3 _ => ⟨_, rfl, ?_⟩)⟩
        refine Z_c43 (σ := trP1 q.2.1 (mkT (trS q.2.1) 0).1) hS (C2.tree k3 T3) he ?_ ?_ ?_ hE
        · show q.2.2 < (mkT (trS q.2.1) 0).1.1; omega
        · exact a2
        · show t0 ≤ (mkT (trS q.2.1) 0).1.1; omega
end
