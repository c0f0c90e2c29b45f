/-! the class reads parts: assign, the comparison of an if -/
def EdU (b : Nat → Int32) (n s n0 : Nat) (τ : Td) (M0 : Mem) (o : Nat) (cn : Nat → Nat) (ps : List Nat) (tl : List Int64) (t : Nat) (P : Mem → Prop) (R : Except (Int32 × Nat) (Nat × PS)) : Prop := match R with
  | .ok r => ∀ M', CS b n s n0 τ M0 M' r.1 o r.2.2.1 cn ps tl → P M'
  | .error e => ∀ M', CX n0 τ M0 (s + 70) 1 M' e.1 e.2 ps tl t → P M'
section
variable {b : Nat → Int32} {n s n0 m : Nat} {τ : Td} {M0 M M1 M' : Mem} {i o i' o' j : Nat} {γ : ClT} {σ : PS} {K : List KE} {cn cn' : Nat → Nat} {ps : List Nat} {tl : List Int64} {f c : Int32} {p t t' h B t0 : Nat} {Q : Option Value → Mem → Prop} {Q1 : Int32 → Mem → Prop} {P : Mem → Prop} {W : Nat}
theorem w14 {q : Nat} {v : Int32} : mI (wI M 14 q v) 15 = mI M 15 := up2_row (f := mI M) (a := 14) (b := 15) (k := q) (v := v) (by decide)
theorem CQ.ln (hC : CQ n0 τ M0 M γ cn ps tl) : mI M (n0 + 22) 1 = Int32.ofNat γ.2.2.2.2.2.1.length := by
  obtain ⟨lc, rc, cc, pb, ib, hq⟩ := hC
  exact hq.2.1.1.2.2.2.1
/-- behind a fault: a sum and its stop -/
theorem V_suM (X : CX n0 τ M0 W B M f p ps tl t) (hB : B ≤ 100) (H : ∀ M', CX n0 τ M0 W (B + 1) M' f p ps tl t → P M') : E (h + 4) mdX4_readSum [.ref 14] M (fun r M15 => mE M M15 → r = none ∧ ∃ b16 : Nat, mR M15 14 7 = some b16 ∧ ok M15 b16 3 ∧ ∃ b18 : Nat, mR M15 b16 8 = some b18 ∧ ok M15 b18 8 ∧ E (h + 4) mdX6_add [.ref b18, .int 0] M15 (fun r M20 => mE M15 M20 → r = none ∧ P M20)) := by
  have N := X.nz
  exact V_sum X (by omega) (fun _ => ⟨rfl, n0, N.2.2.2.2.2.1, N.2.2.1, n0 + 22, N.2.2.2.2.2.2.2.2.1, N.2.2.2.2.1, V_stop X (by omega) (fun M' X' _ => ⟨rfl, H M' X'⟩)⟩)
theorem Z_suM {f1 f2 fo : Nat} (hB : By b) (hS : Sto b n s) (hC : CS b n s n0 τ M0 M i o σ.2.1 cn ps tl) (hj : j < ps.length) (ho : o ≤ 15) (e : M1 = wI M (ps.getD j 0) fo (Int32.ofNat σ.2.1.2.2.2.2.2.1.length)) (hE : EdU b n s n0 τ M0 o cn ps tl (trS σ).1 P (suM b n m τ j f1 f2 fo i o σ)) : E (h + 72) mdX4_readSum [.ref 14] M1 (fun r M15 => mE M1 M15 → r = none ∧ ∃ b16 : Nat, mR M15 14 7 = some b16 ∧ ok M15 b16 3 ∧ ∃ b18 : Nat, mR M15 b16 8 = some b18 ∧ ok M15 b18 8 ∧ E (h + 72) mdX6_add [.ref b18, .int 0] M15 (fun r M20 => mE M15 M20 → r = none ∧ P M20)) := by
  have C1 := hC.pt hj e
  unfold suM at hE
  refine Z_sum (X := σ.2.2.1) hB hS C1 ho (by omega) ?_
  show EdS b n s n0 τ M0 o σ.2.2.1 _ cn ps tl _ (rd b n τ.1 τ.2.2.1 τ.2.2.2.1 6000 3 i o σ.2.2.1 (usS σ))
  cases er : rd b n τ.1 τ.2.2.1 τ.2.2.2.1 6000 3 i o σ.2.2.1 (usS σ) with
  | error y =>
    rw [er] at hE
    intro M2 X2 _
    have N := X2.nz
    exact ⟨rfl, n0, N.2.2.2.2.2.1, N.2.2.1, n0 + 22, N.2.2.2.2.2.2.2.2.1, N.2.2.2.2.1, V_stop X2 (by decide) (fun M' X' _ => ⟨rfl, hE M' X'⟩)⟩
  | ok r =>
    rw [er] at hE
    intro M2 C2 l2 _
    have N := C2.2.1.nz
    exact ⟨rfl, n0, N.2.2.2.2.2.1, N.2.2.1, n0 + 22, N.2.2.2.2.2.2.2.2.1, N.2.2.2.2.1, Z_stop C2 l2 (fun M' C' _ => ⟨rfl, hE M' C'⟩)⟩
theorem Z_asg {w : Int64} {H : Nat} (hB : By b) (hS : Sto b n s) (hC : CS b n s n0 τ M0 M i K.length σ.2.1 σ.1.1 ps tl) (hj : j < ps.length) (ho : K.length ≤ 15) (hH : 80 ≤ H) (hE : EdP b n s n0 τ M0 K.length ps tl (trS σ).1 (fun v M' => Q (some (.int v)) M') (lfM b n m τ 2 w j i K σ)) : E H mdX4_readAssign [.ref 14, .ref (ps.getD j 0), .long w] M Q := by
  obtain ⟨H, rfl⟩ : ∃ H', H = H' + 80 := ⟨H - 80, by omega⟩
  have F := hC.1.1
  have N := hC.2.1.nz
  have hE : EdP b n s n0 τ M0 K.length ps tl (trS σ).1 (fun v M' => Q (some (.int v)) M') ((ex b n i 5).bind fun i2 => (suM b n m τ j 64 65 5 i2 K.length (guP (paP (paP σ j 3 2) j 4 (oi (fd τ.2.2.2.1 w))) (giS σ ||| ((1 : Int32) <<< (oi (fd τ.2.2.2.1 w) &&& 31))) (usS σ))).bind fun r => .ok (r.1, trP1 r.2 (mkT (trS r.2) 0).1, (mkT (trS r.2) 0).2)) := hE
  have vx : ∀ (M2 : Mem) (f : Int32) (p B : Nat), B ≤ 10 → CX n0 τ M0 (s + 70) B M2 f p ps tl (trS σ).1 → EdP b n s n0 τ M0 K.length ps tl (trS σ).1 (fun v M' => Q (some (.int v)) M') (.error (f, p)) → ∃ b24 : Nat, mR M2 14 1 = some b24 ∧ ok M2 b24 10 ∧ E (H + 79) mdX8_make [.ref b24, .int 0] M2 (fun r M26 => mE M2 M26 → ∃ r27 : Int32, r = some (.int r27) ∧ Q (some (.int r27)) M26) := by
    intro M2 f p B hB10 X2 hq
    have F2 := X2.1.1
    exact ⟨4, rf14_1 F2, ok4 F2, V_op X2 (fun Θ hT _ h1 => ⟨mkT Θ 0, ts_mk h1, fun Q' H' => S_mk F2 hT H'⟩) (fun M' v t' X' ht hv _ => ⟨_, rfl, hq.er X' hB10 hv ht⟩)⟩
  refine KX4_readAssign ?_
  unfold DX4_readAssign_0
  refine ⟨ok14 F, n0, N.2.2.2.2.2.1, N.2.2.1, S_varNamed hC.2.1.env (fun _ => ⟨_, rfl, (hC.2.1.part hj).1, fun M7 e7 M8 e8 M9 e9 => ?_⟩)⟩
  have C7 := hC.pt hj e7
  have C8 := C7.pt hj e8
  have g8 : mI M8 14 5 = giS σ := C8.2.1.rd.2.2.1
  rw [g8] at e9
  have C9 : CS b n s n0 τ M0 M9 i K.length (guP (paP (paP σ j 3 2) j 4 (oi (fd τ.2.2.2.1 w))) (giS σ ||| ((1 : Int32) <<< (oi (fd τ.2.2.2.1 w) &&& 31))) (usS σ)).2.1 σ.1.1 ps tl := ⟨by rw [e9]; exact C8.1.fr C8.1.1.i w14 rfl rfl rfl rfl, C8.2.1.gv C8.1.1 e9, C8.2.2⟩
  have F9 := C9.1.1
  refine ⟨15, rf14_0 F9, ok15 F9, Z_expect hS C9 (by decide) ?_⟩
  cases e5 : ex b n i 5 with
  | error y =>
    rw [e5] at hE
    intro M12 X12 _
    have F12 := X12.1.1
    have N12 := X12.nz
    refine ⟨rfl, n0, N12.2.2.2.2.2.1, N12.2.2.1, n0 + 22, N12.2.2.2.2.2.2.2.2.1, N12.2.2.2.2.1, fun M17 e17 => ?_⟩
    have X17 := X12.pt hj e17
    exact V_suM (h := H + 75) X17 (by decide) (fun M' X' => vx M' _ _ 1 (by decide) X' hE)
  | ok i2 =>
    rw [e5] at hE
    intro M12 C12 _
    have F12 := C12.1.1
    have N12 := C12.2.1.nz
    refine ⟨rfl, n0, N12.2.2.2.2.2.1, N12.2.2.1, n0 + 22, N12.2.2.2.2.2.2.2.2.1, N12.2.2.2.2.1, fun M17 e17 => ?_⟩
    rw [C12.2.1.ln] at e17
    refine Z_suM (h := H + 7) (f1 := 64) (f2 := 65) (m := m) hB hS C12 hj ho e17 ?_
    have hE : EdP b n s n0 τ M0 K.length ps tl (trS σ).1 (fun v M' => Q (some (.int v)) M') ((suM b n m τ j 64 65 5 i2 K.length (guP (paP (paP σ j 3 2) j 4 (oi (fd τ.2.2.2.1 w))) (giS σ ||| ((1 : Int32) <<< (oi (fd τ.2.2.2.1 w) &&& 31))) (usS σ))).bind fun r => .ok (r.1, trP1 r.2 (mkT (trS r.2) 0).1, (mkT (trS r.2) 0).2)) := hE
    have hc : ∀ r, suM b n m τ j 64 65 5 i2 K.length (guP (paP (paP σ j 3 2) j 4 (oi (fd τ.2.2.2.1 w))) (giS σ ||| ((1 : Int32) <<< (oi (fd τ.2.2.2.1 w) &&& 31))) (usS σ)) = .ok r → r.2.1.1 = σ.1.1 := by
      intro r hr
      unfold suM at hr
      obtain ⟨x, -, hr⟩ := bind_ok hr
      cases hr
      rfl
    cases es : suM b n m τ j 64 65 5 i2 K.length (guP (paP (paP σ j 3 2) j 4 (oi (fd τ.2.2.2.1 w))) (giS σ ||| ((1 : Int32) <<< (oi (fd τ.2.2.2.1 w) &&& 31))) (usS σ)) with
    | error y => rw [es] at hE; exact fun M' X' => vx M' _ _ 1 (by decide) X' hE
    | ok r =>
      rw [es] at hE
      have hc := hc r es
      intro M' C'
      have F' := C'.1.1
      refine ⟨4, rf14_1 F', ok4 F', S_mk F' C'.2.1.trp (fun M2 T2 k2 _ => ⟨_, rfl, ?_⟩)⟩
      refine hE.ok' ?_
      have q := C'.tree k2 T2
      rw [← hc] at q
      exact q
end
