/-! the class reads parts: bodies with rows -/
section
variable {b : Nat → Int32} {n s n0 m : Nat} {τ : Td} {M0 M M1 M' : Mem} {i o j g a2 a3 H : Nat} {γ : ClT} {σ σ0 : PS} {K : List KE} {cn cn' : Nat → Nat} {ps ps1 : List Nat} {tl : List Int64} {f k : Int32} {w : Int64} {p t t' h B t0 t1 : Nat} {Q : Option Value → Mem → Prop} {Q1 Q2 : Int32 → Mem → Prop} {W : Nat}
theorem tlK_n {a c d : Nat} : tlK ((a, c, d, none) :: K) = tlK K := rfl
theorem tlK_s {a c d : Nat} {x : Int64} : tlK ((a, c, d, some x) :: K) = x :: tlK K := rfl
theorem tlK_len : (tlK K).length ≤ K.length := List.length_filterMap_le _ _
/-- a choice, its condition being read -/
theorem O_choice {r : Nat × PS × Nat} (hB : By b) (hS : Sto b n s) (ih : RcS b n s n0 m τ M0 g) (G : Bgn b n s m τ K i σ σ0 g) (kc : tK b n i = 44 ∨ tK b n i = 58) (he : ∀ i2, ex b n r.1 45 = .ok i2 → hdM b n m τ (tK b n i) (npS σ) (i + 1) K σ0 = .ok (i2, r.2.1, r.2.2, false, 0, none)) (hC : CS b n s n0 τ M0 M r.1 (K.length + 1) r.2.1.2.1 r.2.1.1.1 ps1 (tlK K)) (ht : t0 ≤ (trS r.2.1).1) (hH : hK K ≤ H + 4) (hE : EdP b n s n0 τ M0 (K.length + 1) ps1 (tlK K) t0 (fun v M' => Q (some (.int v)) M') ((ex b n r.1 45).bind fun i2 => (rp b n m τ g 0 ((40 * m + npS σ, r.2.1.1.1 4, 1, none) :: K) i2 (rwP (40 * m + npS σ) none r.2.1) 0 0 0 0 0 0).bind fun q => if tK b n q.1 = 46 then (adv' b n q.1).bind fun i3 => (rp b n m τ g 0 ((40 * m + npS σ, q.2.1.1.1 4, 2, none) :: K) i3 (rwP (40 * m + npS σ) (some (r.2.1.1.1 4)) q.2.1) 0 0 0 0 0 0).bind fun u => chM b n r.2.2 q.2.2 u.2.2 u.1 u.2.1 else chM b n r.2.2 q.2.2 (mkT (trS q.2.1) 0).2 q.1 (trP1 q.2.1 (mkT (trS q.2.1) 0).1))) : E (H + 1) mdX4_readChoice [.ref 14, .int (Int32.ofNat r.2.2), .int (Int32.ofNat (K.length + 1))] M Q := by
  have hh : 100 ≤ hK K := Nat.le_add_right _ _
  have tt : 1 ≤ (trS r.2.1).1 := hC.t1
  refine Z_choice (R1 := fun i2 => rp b n m τ g 0 ((40 * m + npS σ, r.2.1.1.1 4, 1, none) :: K) i2 (rwP (40 * m + npS σ) none r.2.1) 0 0 0 0 0 0) (R2 := fun q i3 => rp b n m τ g 0 ((40 * m + npS σ, q.2.1.1.1 4, 2, none) :: K) i3 (rwP (40 * m + npS σ) (some (r.2.1.1.1 4)) q.2.1) 0 0 0 0 0 0) hS hC (by omega) ht ?_ ?_ ?_ ?_ hE
  · intro i2 M' Q' e45 C' hq
    exact row_go hS ih G (he i2 e45) (by omega) C' hq
  · intro i2 q e45 eq
    have := row_ok hS G (he i2 e45) tt eq
    exact ⟨this.1, this.2.1⟩
  · intro i2 q i3 ps' M' Q' e45 eq k46 ea C' hq
    exact (row_go2 hS ih G (he i2 e45) tt eq k46 ea).1 H M' ps' Q' (by omega) C' hq
  · intro i2 q i3 u e45 eq k46 ea eu
    exact (row_go2 (n0 := n0) (M0 := M0) hS ih G (he i2 e45) tt eq k46 ea).2 u eu
theorem Z_open (hB : By b) (hS : Sto b n s) (ih : RcS b n s n0 m τ M0 g) (G : Bgn b n s m τ K i σ σ0 g) (hC : CS b n s n0 τ M0 M (i + 1) (K.length + 1) σ0.2.1 cn ps1 (tlK K)) (hj : npS σ < ps1.length) (hc : cn 0 = σ0.1.1 0 ∧ cn 1 = σ0.1.1 1 ∧ cn 3 = σ0.1.1 3) (hc2 : tK b n i ≠ 58 → cn 2 = σ0.1.1 2) (hc3 : tK b n i = 58 → cn 2 + 1 = σ0.1.1 2) (h40 : σ0.1.1 2 ≤ 40) (hH : hK K ≤ H + 2) (hE : EdP b n s n0 τ M0 (K.length + 1) ps1 (tlK K) (trS σ0).1 (fun v M' => Q (some (.int v)) M') (bdM b n m τ g K (i + 1) (tK b n i) (tC b n i) (npS σ) σ0)) : E H mdX4_readBody [.ref 14, .int (tK b n i), .ref (ps1.getD (npS σ) 0), .int (Int32.ofNat (K.length + 1))] M Q := by
  have hh : 100 ≤ hK K := Nat.le_add_right _ _
  obtain ⟨H, rfl⟩ : ∃ H', H = H' + 94 + 1 + 1 + 1 := ⟨H - 97, by omega⟩
  have F := hC.1.1
  have hop := G.2.2.2.1
  have K15 : K.length ≠ 15 := fun z => (okK_ok G.2.2.1).2.2.2.2 ⟨hop, z⟩
  have ho : K.length + 1 ≤ 15 := by have := G.2.1.2.1; omega
  have tt : 1 ≤ (trS σ0).1 := hC.t1
  have t16 : (tlK K).length < 16 := by have := tlK_len (K := K); omega
  have nil : ∃ x, ps1 = ps1 ++ x := ⟨[], (List.append_nil _).symm⟩
  have C0 : tK b n i ≠ 58 → CS b n s n0 τ M0 M (i + 1) (K.length + 1) σ0.2.1 σ0.1.1 ps1 (tlK K) := fun z => hC.cnt hc.1.symm hc.2.1.symm (hc2 z).symm hc.2.2.symm
  rcases op_ks hop with kk | kk | kk | kk | kk | kk | kk | kk | kk
  · -- loop
    have C0 := C0 (by rw [kk]; decide)
    have e : hdM b n m τ (tK b n i) (npS σ) (i + 1) K σ0 = .ok (i + 1, σ0, 0, false, 0, none) := by rw [kk]; rfl
    rw [kk, bdM_42] at hE
    rw [kk]
    refine B_42 F (Z_loop (H := H + 94 + 1) (t0 := (trS σ0).1) (m := m) hS C0 hj (by omega) (fun Q' hq => row_go hS ih G e (by omega) C0 hq) (fun q eq => ?_) hE.qb)
    have := row_ok hS G e tt eq
    exact ⟨this.1, this.2.1⟩
  · -- present
    have C0 := C0 (by rw [kk]; decide)
    rw [kk, bdM_44] at hE
    have kc : tK b n i = 44 ∨ tK b n i = 58 := Or.inl kk
    have he : ∀ r, coM b n m τ (npS σ) (i + 1) (K.length + 1) σ0 = .ok r → ∀ i2, ex b n r.1 45 = .ok i2 → hdM b n m τ (tK b n i) (npS σ) (i + 1) K σ0 = .ok (i2, r.2.1, r.2.2, false, 0, none) := by
      intro r e1 i2 e45
      rw [kk]
      show (coM b n m τ (npS σ) (i + 1) (K.length + 1) σ0).bind _ = _
      rw [e1]
      show (ex b n r.1 45).bind _ = _
      rw [e45]
      rfl
    rw [kk]
    refine B_44 F (Z_coM (j := npS σ) (m := m) hB hS C0 ho (by omega) ?_)
    cases e1 : coM b n m τ (npS σ) (i + 1) (K.length + 1) σ0 with
    | error y =>
      rw [e1] at hE
      exact fun M1 v X1 _ => ⟨_, rfl, V_choice X1 (EdP.vend (EdP.qb hE) nil (by decide) (Nat.le_refl _))⟩
    | ok r =>
      rw [e1] at hE
      obtain ⟨c1, c2⟩ := coM_cl e1
      intro M1 C1 _
      rw [← c1] at C1
      exact ⟨_, rfl, O_choice (H := H + 94 + 1) hB hS ih G kc (he r e1) C1 (by rw [c2]; exact Nat.le_refl _) (by omega) (EdP.qb hE)⟩
  · -- abort
    have C0 := C0 (by rw [kk]; decide)
    have e : hdM b n m τ (tK b n i) (npS σ) (i + 1) K σ0 = .ok (i + 1, σ0, 0, false, 0, some 0) := by rw [kk]; rfl
    rw [kk, bdM_49] at hE
    rw [kk]
    refine B_49 F (Z_abort (H := H + 94 + 1) (t0 := (trS σ0).1) (m := m) hB hS C0 ho (by omega) (fun Q' hq => Z_trapped (H := H + 94) C0 t16 (fun M' Q'' C' hq' => row_go hS ih G e (by omega) C' hq') hq) (fun q eq => ?_) hE.qb)
    have := row_ok hS G e tt eq
    exact ⟨this.1, this.2.1⟩
  · -- weak abort
    have C0 := C0 (by rw [kk]; decide)
    have e : ∀ i2, ex b n (i + 1) 49 = .ok i2 → hdM b n m τ (tK b n i) (npS σ) (i + 1) K σ0 = .ok (i2, σ0, 0, false, 0, some 0) := by
      intro i2 e49
      rw [kk]
      show (ex b n (i + 1) 49).bind _ = _
      rw [e49]
      rfl
    rw [kk, bdM_50] at hE
    rw [kk]
    refine B_50 F (Z_weak (R1 := fun i2 => rp b n m τ g 0 ((40 * m + npS σ, σ0.1.1 4, 1, some 0) :: K) i2 (rwP (40 * m + npS σ) none σ0) 0 0 0 0 0 0) (H := H + 94 + 1) (t0 := (trS σ0).1) (m := m) hB hS C0 ho (by omega) (Nat.le_refl _) (fun i2 M1 Q' e49 C1 hq => Z_trapped (H := H + 94) C1 t16 (fun M' Q'' C' hq' => row_go hS ih G (e i2 e49) (by omega) C' hq') hq) (fun i2 q e49 eq => ?_) hE.qb)
    have := row_ok hS G (e i2 e49) tt eq
    exact ⟨this.1, this.2.1⟩
  · -- suspend
    have C0 := C0 (by rw [kk]; decide)
    have e : hdM b n m τ (tK b n i) (npS σ) (i + 1) K σ0 = .ok (i + 1, σ0, 0, false, 0, none) := by rw [kk]; rfl
    rw [kk, bdM_52] at hE
    rw [kk]
    refine B_52 F (Z_susp (H := H + 94 + 1) (t0 := (trS σ0).1) (m := m) hB hS C0 ho (by omega) (fun Q' hq => row_go hS ih G e (by omega) C0 hq) (fun q eq => ?_) hE.qb)
    have := row_ok hS G e tt eq
    exact ⟨this.1, this.2.1⟩
  · -- every
    have C0 := C0 (by rw [kk]; decide)
    have e : ∀ r i2, atM b n m τ (npS σ) (i + 1) (K.length + 1) σ0 = .ok r → ex b n r.1 54 = .ok i2 → hdM b n m τ (tK b n i) (npS σ) (i + 1) K σ0 = .ok (i2, trP1 r.2.1 (awT (trS r.2.1) (Int32.ofNat r.2.2.1) r.2.2.2).1, r.2.2.1, r.2.2.2, (awT (trS r.2.1) (Int32.ofNat r.2.2.1) r.2.2.2).2, some 0) := by
      intro r i2 e1 e54
      rw [kk]
      show (atM b n m τ (npS σ) (i + 1) (K.length + 1) σ0).bind _ = _
      rw [e1]
      show (ex b n r.1 54).bind _ = _
      rw [e54]
      rfl
    rw [kk, bdM_53] at hE
    rw [kk]
    refine B_53 F (Z_every (R1 := fun r i2 => rp b n m τ g 0 ((40 * m + npS σ, r.2.1.1.1 4, 1, some 0) :: K) i2 (rwP (40 * m + npS σ) none (trP1 r.2.1 (awT (trS r.2.1) (Int32.ofNat r.2.2.1) r.2.2.2).1)) 0 0 0 0 0 0) (H := H + 94 + 1) (m := m) (j := npS σ) hB hS C0 ho (by omega) (fun r i2 M1 Q' e1 e54 C1 hq => Z_trapped (H := H + 94) C1 t16 (fun M' Q'' C' hq' => row_go hS ih G (e r i2 e1 e54) (by omega) C' hq') hq) (fun r i2 q e1 e54 eq => ?_) hE.qb)
    have tw : 1 ≤ (awT (trS r.2.1) (Int32.ofNat r.2.2.1) r.2.2.2).1.1 := by
      have c2 := (atM_cl e1).2
      exact (ts_aw (Θ := trS r.2.1) (by rw [c2]; exact tt)).one (by rw [c2]; exact tt)
    have := row_ok hS G (e r i2 e1 e54) tw eq
    exact ⟨this.1, this.2.1⟩
  · -- trap
    have C0 := C0 (by rw [kk]; decide)
    have e : ∀ i3, tK b n (i + 1) = 2 → ¬ (toT (tC b n (i + 1)) τ = true ∨ (trW K (tC b n (i + 1))).isSome = true) → ((adv' b n (i + 1)).bind fun i2 => ex b n i2 56) = .ok i3 → hdM b n m τ (tK b n i) (npS σ) (i + 1) K σ0 = .ok (i3, ((σ0.1.1, σ0.1.2.1, va_up σ0.1.2.2 (40 * m + npS σ) (rV b n (tP b n (i + 1)))), σ0.2), 0, false, 0, some (tC b n (i + 1))) := by
      intro i3 h2 nw fe
      obtain ⟨i2, ea, e56⟩ := bind_ok fe
      rw [kk]
      show (if tK b n (i + 1) = 2 then _ else _) = _
      rw [if_pos h2, if_neg nw, ea]
      show (ex b n i2 56).bind _ = _
      rw [e56]
      rfl
    rw [kk, bdM_55] at hE
    rw [kk]
    refine B_55 F (Z_trap (R1 := fun i3 => rp b n m τ g 0 ((40 * m + npS σ, σ0.1.1 4, 1, some (tC b n (i + 1))) :: K) i3 (rwP (40 * m + npS σ) none ((σ0.1.1, σ0.1.2.1, va_up σ0.1.2.2 (40 * m + npS σ) (rV b n (tP b n (i + 1)))), σ0.2)) 0 0 0 0 0 0) (H := H + 94 + 1) (t0 := (trS σ0).1) (m := m) hB hS C0 (by omega) (Nat.le_refl _) (fun i3 M1 Q' h2 nw fe C1 hq => Z_trapped (H := H + 94) C1 t16 (fun M' Q'' C' hq' => row_go hS ih G (e i3 h2 nw fe) (by omega) C' hq') hq) (fun i3 q h2 nw fe eq => ?_) hE.qb)
    have := row_ok hS G (e i3 h2 nw fe) tt eq
    exact ⟨this.1, this.2.1⟩
  · -- if
    rw [kk, bdM_58] at hE
    have kc : tK b n i = 44 ∨ tK b n i = 58 := Or.inr kk
    have he : ∀ r, cmM b n m τ (npS σ) (i + 1) (K.length + 1) σ0 = .ok r → ∀ i2, ex b n r.1 45 = .ok i2 → hdM b n m τ (tK b n i) (npS σ) (i + 1) K σ0 = .ok (i2, r.2.1, r.2.2, false, 0, none) := by
      intro r e1 i2 e45
      rw [kk, hdM_58, e1]
      show (ex b n r.1 45).bind _ = _
      rw [e45]
      rfl
    have hc3 := hc3 kk
    rw [kk]
    refine B_58 F (Z_cmp (m := m) hB hS hC ⟨hc.1, hc.2.1, hc3, hc.2.2⟩ h40 hj ho (by omega) ?_)
    cases e1 : cmM b n m τ (npS σ) (i + 1) (K.length + 1) σ0 with
    | error y =>
      rw [e1] at hE
      exact fun M1 v X1 _ => ⟨_, rfl, V_choice X1 (EdP.vend (EdP.qb hE) nil (by decide) (Nat.le_refl _))⟩
    | ok r =>
      rw [e1] at hE
      have c2 : trS r.2.1 = trS σ0 := by
        unfold cmM at e1
        obtain ⟨x1, s1, e1⟩ := bind_ok e1
        have g1 := (suM_cl s1).2.2.2
        by_cases z : 7 ≤ tK b n x1.1 ∧ tK b n x1.1 ≤ 12
        · rw [if_pos z] at e1
          obtain ⟨x2, -, e1⟩ := bind_ok e1
          obtain ⟨x3, s3, e1⟩ := bind_ok e1
          cases e1
          exact (suM_cl s3).2.2.2.trans g1
        · rw [if_neg z] at e1
          cases e1
      intro M1 C1 _
      exact ⟨_, rfl, O_choice (H := H + 94 + 1) hB hS ih G kc (he r e1) C1 (by rw [c2]; exact Nat.le_refl _) (by omega) (EdP.qb hE)⟩
  · -- branches
    have C0 := C0 (by rw [kk]; decide)
    have e : hdM b n m τ (tK b n i) (npS σ) (i + 1) K σ0 = .ok (i + 1, trP1 σ0 (mkT (trS σ0) 8).1, 0, false, (mkT (trS σ0) 8).2, none) := by rw [kk]; rfl
    rw [kk, bdM_17] at hE
    rw [kk]
    obtain ⟨⟨q1, q2, q3⟩, I0, hl, n1, hc', -⟩ := G.i0 hS e
    have n2 : (rwP (40 * m + npS σ) none (trP1 σ0 (mkT (trS σ0) 8).1)).1.1 4 = σ0.1.1 4 + 1 := rfl
    have e4 : σ0.1.1 4 = σ.1.1 4 := by rw [G.2.2.2.2.2]; exact bg_n.2.1
    have tm := ts_mk (Θ := trS σ0) (k := 8) tt
    refine B_17 F (KX4_readBranches ?_)
    unfold DX4_readBranches_0
    refine ⟨ok14 F, 4, rf14_1 F, ok4 F, S_mk F C0.2.1.trp (fun M1 T1 k1 _ => ⟨_, rfl, ?_⟩)⟩
    have C1 := C0.tree k1 T1
    have g5 : mI M 14 5 = giS σ0 := C0.2.1.rd.2.2.1
    have g6 : mI M 14 6 = usS σ0 := C0.2.1.rd.2.2.2.1
    rw [g5, g6]
    refine ih.2.2.2 K (i + 1) (rwP (40 * m + npS σ) none (trP1 σ0 (mkT (trS σ0) 8).1)) (mkT (trS σ0) 8).2 (npS σ) (σ0.1.1 4) 1 0 0 (giS σ0) (usS σ0) (giS σ0) (usS σ0) M1 ps1 (H + 94 + 1 + 1) _ ⟨I0.1, by omega, fun z => absurd z (by decide), fun _ => ⟨hl, by rw [n2]; exact Nat.lt_succ_self _, by rw [n1]; exact Nat.lt_succ_self _⟩, fun z => absurd z (by decide), by rw [n2, n1]; omega⟩ (C1.cnt rfl rfl rfl rfl) tm.2 ⟨Nat.le_refl _, by decide⟩ (by omega) (by have := G.2.2.2.2.1; omega) ?_
    have hq := EdP.ext (e := []) (EdP.qb (M := M) hE) tm.1
    rw [List.append_nil] at hq
    exact hq
end
