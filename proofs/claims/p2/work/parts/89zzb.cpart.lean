/-! the class reads parts: a part, branches, all of it -/
section
variable {b : Nat → Int32} {n s n0 m : Nat} {τ : Td} {M0 M M1 M' : Mem} {i o j g a1 a2 a3 a4 H : Nat} {γ : ClT} {σ σ0 : PS} {K : List KE} {cn cn' : Nat → Nat} {ps ps1 ps' : List Nat} {tl : List Int64} {f k c1 c2 : Int32} {w : Int64} {p t t' h B t0 t1 v : Nat} {Q : Option Value → Mem → Prop} {Q1 Q2 : Int32 → Mem → Prop} {W : Nat}
theorem Z_136 {u : Nat × PS × Nat} (hC : CS b n s n0 τ M0 M u.1 (if opnK k = true then K.length + 1 else K.length) u.2.1.2.1 u.2.1.1.1 ps' tl) (hl : K.length ≤ 15) (hj : j < ps'.length) (he : ∃ x, ps' = ps ++ x) (hE : EdP b n s n0 τ M0 K.length ps tl t0 (fun v M' => Q (some (.int v)) M') (.ok (u.1, fiP m j u.2.2 u.2.1, u.2.2))) : DX4_readPart_136 (h + 2) 14 k (ps'.getD j 0) (ps'.getD j 0) (Int32.ofNat u.2.2) M Q := by
  unfold DX4_readPart_136 DX4_readPart_153
  refine ⟨(hC.2.1.part hj).1, fun M2 e2 => ?_⟩
  have C2 := hC.pt hj e2
  have F2 := C2.1.1
  have val : ∀ (M3 : Mem) (o3 : Nat), CS b n s n0 τ M0 M3 u.1 o3 (up2 u.2.1.2.1.1 j 1 (Int32.ofNat u.2.2), u.2.1.2.1.2) u.2.1.1.1 ps' tl → mI M3 (ps'.getD j 0) 1 = Int32.ofNat u.2.2 := by
    intro M3 o3 C3
    rw [(C3.2.1.part hj).2.2 1 (by decide)]
    exact up2_eq
  refine S_stays (fun _ => ⟨_, rfl, fun z => ⟨(C2.2.1.part hj).1, ?_⟩, fun z => ⟨ok14 F2, 15, rf14_0 F2, ok15 F2, ?_⟩⟩)
  · have no : ¬ opnK k = true := fun q => by rw [if_pos q] at z; exact absurd z (by decide)
    rw [if_neg no] at C2
    rw [val M2 _ C2]
    exact hE M2 ps' C2 he
  · have yes : opnK k = true := by
      by_cases q : opnK k = true
      · exact q
      · rw [if_neg q] at z; exact absurd rfl z
    rw [if_pos yes] at C2
    refine Z_closes C2 (by omega) (fun M3 C3 _ => ⟨rfl, (C3.2.1.part hj).1, ?_⟩)
    rw [val M3 _ C3]
    exact hE M3 ps' C3 he
theorem V_97b {d : Int32} (X : CX n0 τ M0 W B M f p ps tl t) (hj : j < ps.length) (hB : B ≤ 6) (H : VEnd n0 τ M0 W (B + 3) f p ps tl t Q) : (¬ k = 2 → E (h + 12) mdX4_readBody [.ref 14, .int k, .ref (ps.getD j 0), .int d] M (fun r M7 => mE M M7 → ∃ r8 : Int32, r = some (.int r8) ∧ DX4_readPart_136 (h + 12) 14 k (ps.getD j 0) (ps.getD j 0) r8 M7 Q)) ∧ (k = 2 → E (h + 12) mdX4_readAssign [.ref 14, .ref (ps.getD j 0), .long w] M (fun r M9 => mE M M9 → ∃ r10 : Int32, r = some (.int r10) ∧ DX4_readPart_136 (h + 12) 14 k (ps.getD j 0) (ps.getD j 0) r10 M9 Q)) := by
  refine ⟨fun _ => ?_, fun _ => ?_⟩
  · exact V_body X hj hB (fun M' v t' X' q1 q2 _ => ⟨_, rfl, V_136 (h := h + 10) X' hj q2 (H.up q1)⟩)
  · exact V_asg (h := h + 4) X hj (by omega) (fun M' v t' X' q1 q2 _ => ⟨_, rfl, V_136 (h := h + 10) (X'.mono (Nat.le_refl _) (by omega)) hj q2 (H.up q1)⟩)
theorem Z_part (hB : By b) (hS : Sto b n s) (ih : RcS b n s n0 m τ M0 g) (hI : RpI m 2 K σ a2 a3) (hC : CS b n s n0 τ M0 M i K.length σ.2.1 σ.1.1 ps (tlK K)) (hH : hK K ≤ H + 1) (hg : 6 * (s + 1 - i) ≤ g + 1) (hE : EdP b n s n0 τ M0 K.length ps (tlK K) (trS σ).1 (fun v M' => Q (some (.int v)) M') (rp b n m τ (g + 1) 2 K i σ a1 a2 a3 a4 c1 c2)) : E H mdX4_readPart [.ref 14, .int (Int32.ofNat (K.length + 1))] M Q := by
  have hh : 100 ≤ hK K := Nat.le_add_right _ _
  obtain ⟨H, rfl⟩ : ∃ H', H = H' + 12 + 1 := ⟨H - 13, by omega⟩
  have F := hC.1.1
  have L := hC.len
  have t1 : 1 ≤ (trS σ).1 := hC.t1
  have kd : mI M 15 9 = tK b n i := hC.1.kind
  have h0 : tK b n i ≠ 0 := hC.1.2.2.2.2.2.2.2.2.2
  obtain ⟨hP, hKl, hq, -, -, hc⟩ := id hI
  rw [rp_bd, okK_d] at hE
  refine KX4_readPart ?_
  unfold DX4_readPart_0
  refine ⟨ok14 F, 15, rf14_0 F, ok15 F, ?_⟩
  rw [kd]
  refine Z_check (σ := σ) hB hC hP.2.1 (fun o0 _ => ⟨rfl, 15, rf14_0 F, ok15 F, fun _ => ?_, fun z => absurd hC.1.2.2.2.2.2.2.2.2.1 z⟩) (fun e oe M4 X4 _ => ⟨rfl, 15, rf14_0 X4.1.1, ok15 X4.1.1, fun z => absurd z (by rw [X4.1.2.2.1]; exact X4.1.2.2.2.1), fun _ => ?_⟩)
  · obtain ⟨o1, o2, o3, o4, -⟩ := okK_ok o0
    have k1 : tK b n i ≠ 1 := fun z => o2 (by rw [z]; exact soK_1)
    rw [o0] at hE
    have hE : EdP b n s n0 τ M0 K.length ps (tlK K) (trS σ).1 (fun v M' => Q (some (.int v)) M') ((if opnK (tK b n i) = true ∧ K.length = 15 then (.error (6, tP b n i) : Except (Int32 × Nat) Unit) else .ok ()).bind fun _ => (adv' b n i).bind fun i1 => (bdM b n m τ g K i1 (tK b n i) (tC b n i) (npS σ) (bgP m (tK b n i) (tP b n i) (sqK K) K.length (whK (tK b n i) (tC b n i) τ) σ)).bind fun u => .ok (u.1, fiP m (npS σ) u.2.2 u.2.1, u.2.2)) := hE
    intro q8 M7 e8 e7
    subst e8
    refine Z_new (m := m) (q := sqK K) (d := K.length) (wh := whK (tK b n i) (tC b n i) τ) hC o3 hP.2.1 hKl hP.2.2.2.1 (fun M25 C25 => ?_) (mN M) M7 rfl e7
    have np : npS σ = ps.length := L.2.2.2.1.symm
    have hj : npS σ < (ps ++ [mN M]).length := by rw [np, List.length_append]; exact Nat.lt_succ_self _
    have ex1 : mN M = (ps ++ [mN M]).getD (npS σ) 0 := (getD_last np).symm
    have ext : ∃ x, ps ++ [mN M] = ps ++ x := ⟨_, rfl⟩
    generalize ps ++ [mN M] = ps1 at C25 hj ex1 ext ⊢
    rw [ex1]
    generalize hs0 : bgP m (tK b n i) (tP b n i) (sqK K) K.length (whK (tK b n i) (tC b n i) τ) σ = σ0 at C25 hE
    have ts0 : (trS σ0).1 = (trS σ).1 := by rw [← hs0]; rfl
    have cnf : (cnB m (tK b n i) (tP b n i) (sqK K) K.length (whK (tK b n i) (tC b n i) τ) σ 0 = σ0.1.1 0 ∧ cnB m (tK b n i) (tP b n i) (sqK K) K.length (whK (tK b n i) (tC b n i) τ) σ 1 = σ0.1.1 1 ∧ cnB m (tK b n i) (tP b n i) (sqK K) K.length (whK (tK b n i) (tC b n i) τ) σ 3 = σ0.1.1 3) ∧ cnB m (tK b n i) (tP b n i) (sqK K) K.length (whK (tK b n i) (tC b n i) τ) σ 2 = σ.1.1 2 ∧ σ0.1.1 2 = σ.1.1 2 + (if tK b n i = 58 then 1 else 0) := by
      rw [← hs0]
      exact ⟨⟨rfl, rfl, rfl⟩, rfl, by simp [bgP, va_up]⟩
    have bod : ∀ (i1 : Nat) (M6 : Mem) (o6 : Nat), o6 = (if opnK (tK b n i) = true then K.length + 1 else K.length) → EdP b n s n0 τ M0 K.length ps (tlK K) (trS σ).1 (fun v M' => Q (some (.int v)) M') ((bdM b n m τ g K i1 (tK b n i) (tC b n i) (npS σ) σ0).bind fun u => .ok (u.1, fiP m (npS σ) u.2.2 u.2.1, u.2.2)) → EdP b n s n0 τ M0 o6 ps1 (tlK K) (trS σ0).1 (fun v M7 => mE M6 M7 → ∃ r8 : Int32, some (Value.int v) = some (.int r8) ∧ DX4_readPart_136 (H + 12) 14 (tK b n i) (ps1.getD (npS σ) 0) (ps1.getD (npS σ) 0) r8 M7 Q) (bdM b n m τ g K i1 (tK b n i) (tC b n i) (npS σ) σ0) := by
      intro i1 M6 o6 eo hb
      obtain ⟨x1, hx1⟩ := ext
      cases eb : bdM b n m τ g K i1 (tK b n i) (tC b n i) (npS σ) σ0 with
      | error y =>
        rw [eb] at hb
        intro M8 ps8 v t8 X8 ⟨x8, h8⟩ hv ht _
        have ej : ps1.getD (npS σ) 0 = ps8.getD (npS σ) 0 := by rw [h8]; exact (getD_ext hj).symm
        rw [ej]
        refine ⟨_, rfl, V_136 (h := H + 10) X8 (by rw [h8]; exact sm_lt hj) hv (EdP.vend hb ⟨x1 ++ x8, by rw [h8, hx1, List.append_assoc]⟩ (Nat.le_refl _) (by rw [← ts0]; exact ht))⟩
      | ok u =>
        rw [eb] at hb
        intro M8 ps8 C8 ⟨x8, h8⟩ _
        have ej : ps1.getD (npS σ) 0 = ps8.getD (npS σ) 0 := by rw [h8]; exact (getD_ext hj).symm
        rw [ej]
        rw [eo] at C8
        exact ⟨_, rfl, Z_136 (h := H + 10) (m := m) C8 hKl (by rw [h8]; exact sm_lt hj) ⟨x1 ++ x8, by rw [h8, hx1, List.append_assoc]⟩ hb⟩
    have xx : ∀ y : Int32 × Nat, EdP b n s n0 τ M0 K.length ps (tlK K) (trS σ).1 (fun v M' => Q (some (.int v)) M') (.error y) → VEnd n0 τ M0 (s + 70) 3 y.1 y.2 ps1 (tlK K) (trS σ0).1 Q := fun y hy => EdP.vend hy ext (by decide) (by rw [ts0]; exact Nat.le_refl _)
    refine S_stays (fun _ => ⟨_, rfl, fun z => ?_, fun z => ?_⟩)
    · have no : ¬ opnK (tK b n i) = true := fun q => by rw [if_pos q] at z; exact absurd z (by decide)
      rw [if_neg (show ¬ (opnK (tK b n i) = true ∧ K.length = 15) from fun y => no y.1)] at hE
      have hE : EdP b n s n0 τ M0 K.length ps (tlK K) (trS σ).1 (fun v M' => Q (some (.int v)) M') ((adv' b n i).bind fun i1 => (bdM b n m τ g K i1 (tK b n i) (tC b n i) (npS σ) σ0).bind fun u => .ok (u.1, fiP m (npS σ) u.2.2 u.2.1, u.2.2)) := hE
      have F25 := C25.1.1
      unfold DX4_readPart_97
      refine ⟨ok14 F25, 15, rf14_0 F25, ok15 F25, 15, rf14_0 F25, ok15 F25, Z_adv hS C25 k1 ?_⟩
      cases ea : adv' b n i with
      | error y =>
        rw [ea] at hE
        intro M6 X6 _
        exact ⟨rfl, V_97b X6 hj (by decide) (xx y hE)⟩
      | ok i1 =>
        rw [ea] at hE
        have hb := bod i1
        intro M6 C6 _
        have hb := hb M6 K.length (by rw [if_neg no]) hE
        have C6 : CS b n s n0 τ M0 M6 i1 K.length σ0.2.1 σ0.1.1 ps1 (tlK K) := by
          refine C6.cnt cnf.1.1.symm cnf.1.2.1.symm ?_ cnf.1.2.2.symm
          rw [cnf.2.1, cnf.2.2, if_neg (fun y => no (by rw [y]; decide)), Nat.add_zero]
        have hlf : bdM b n m τ g K i1 (tK b n i) (tC b n i) (npS σ) σ0 = lfM b n m τ (tK b n i) (tC b n i) (npS σ) i1 K σ0 := by
          unfold bdM
          rw [if_pos (by cases ht : opnK (tK b n i) with
            | false => rfl
            | true => exact absurd ht no)]
        rw [hlf] at hb
        refine ⟨rfl, fun k2 => ?_, fun k2 => ?_⟩
        · have sa : sal (tK b n i) := by
            by_cases q : sal (tK b n i)
            · exact q
            · exact absurd (so_no k2 no q) o2
          exact Z_leaf (m := m) (w := tC b n i) hB hS C6 hj hKl sa (by omega) hb
        · have ew : mJ M25 15 11 = tC b n i := C25.1.word hB k2
          rw [ew]
          rw [k2] at hb
          rw [k2]
          exact Z_asg (m := m) hB hS C6 hj hKl (by omega) hb
    · have yes : opnK (tK b n i) = true := by
        by_cases q : opnK (tK b n i) = true
        · exact q
        · rw [if_neg q] at z; exact absurd rfl z
      have F25 := C25.1.1
      refine ⟨15, rf14_0 F25, ok15 F25, Z_opens C25 hKl (fun hlt M30 C30 _ => ⟨rfl, ?_⟩) (fun h15 M30 X30 _ => ⟨rfl, ?_⟩)⟩
      · rw [if_neg (show ¬ (opnK (tK b n i) = true ∧ K.length = 15) from fun y => by omega)] at hE
        have hE : EdP b n s n0 τ M0 K.length ps (tlK K) (trS σ).1 (fun v M' => Q (some (.int v)) M') ((adv' b n i).bind fun i1 => (bdM b n m τ g K i1 (tK b n i) (tC b n i) (npS σ) σ0).bind fun u => .ok (u.1, fiP m (npS σ) u.2.2 u.2.1, u.2.2)) := hE
        have F30 := C30.1.1
        unfold DX4_readPart_97
        refine ⟨ok14 F30, 15, rf14_0 F30, ok15 F30, 15, rf14_0 F30, ok15 F30, Z_adv hS C30 k1 ?_⟩
        cases ea : adv' b n i with
        | error y =>
          rw [ea] at hE
          intro M6 X6 _
          exact ⟨rfl, V_97b X6 hj (by decide) (xx y hE)⟩
        | ok i1 =>
          rw [ea] at hE
          obtain ⟨rfl, ha⟩ := adv_is ea
          intro M6 C6 _
          have hb := bod (i + 1) M6 (K.length + 1) (by rw [if_pos yes]) hE
          have ho : okK (tK b n i) (tC b n i) K.length τ σ (tP b n i) = .ok () := by
            rw [okK_d, o0]
            show (if opnK (tK b n i) = true ∧ K.length = 15 then _ else _) = _
            rw [if_neg (fun y => by omega)]
          have G : Bgn b n s m τ K i σ σ0 g := ⟨⟨L.2.2.1, h0, ha⟩, ⟨hP, hKl, hq, fun y => absurd y (by decide), fun y => absurd y (by decide), hc⟩, ho, yes, hg, hs0.symm⟩
          refine ⟨rfl, fun k2 => ?_, fun k2 => absurd yes (by rw [k2]; decide)⟩
          refine Z_open hB hS ih G C6 hj cnf.1 (fun y => ?_) (fun y => ?_) ?_ (by omega) hb
          · rw [cnf.2.1, cnf.2.2, if_neg y, Nat.add_zero]
          · rw [cnf.2.1, cnf.2.2, if_pos y]
          · have hp2 := hP.2.2.1
            rw [cnf.2.2]
            by_cases y : tK b n i = 58
            · rw [if_pos y]; omega
            · rw [if_neg y]; omega
      · rw [if_pos ⟨yes, h15⟩] at hE
        exact V_97 X30 hj (by decide) (xx _ hE)
  · rw [oe] at hE
    exact EdP.er (v := 0) hE X4 (by decide) t1 (Nat.le_refl _)
end
