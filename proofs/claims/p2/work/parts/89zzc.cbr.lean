/-! the class reads parts: branches, and all of it -/
section
variable {b : Nat → Int32} {n s n0 m : Nat} {τ : Td} {M0 M M1 M' : Mem} {i o j g a1 a2 a3 a4 H : Nat} {γ : ClT} {σ σ0 : PS} {K : List KE} {cn cn' : Nat → Nat} {ps ps1 ps' : List Nat} {tl : List Int64} {f k c1 c2 g0 u0 gg uu : Int32} {w : Int64} {p t t' h B t0 t1 v : Nat} {Q : Option Value → Mem → Prop} {Q1 Q2 : Int32 → Mem → Prop} {W : Nat}
theorem CS.gu {v q : Int32} {M2 : Mem} (hC : CS b n s n0 τ M0 M i o σ.2.1 cn ps tl) (e1 : M1 = wI M 14 5 v) (e2 : M2 = wI M1 14 6 q) : CS b n s n0 τ M0 M2 i o (guP σ v q).2.1 cn ps tl := by
  have T1 : TI b n s M1 i o := by rw [e1]; exact hC.1.fr hC.1.1.i w14 rfl rfl rfl rfl
  have Q1 := hC.2.1.gv hC.1.1 e1
  have T2 : TI b n s M2 i o := by rw [e2]; exact T1.fr T1.1.i w14 rfl rfl rfl rfl
  exact ⟨T2, Q1.uv T1.1 e2, hC.2.2⟩
/-- a branch is whole -/
def brS (σ : PS) (j a x : Nat) (g0 u0 : Int32) : PS := hgP (if giS σ &&& (g0 ||| u0) = 0 ∧ usS σ &&& g0 = 0 then σ else paP σ j 2 8) a x
theorem brS_t {x : Nat} : (trS (brS σ j a1 x c1 c2)).1 = (trS σ).1 ∧ (brS σ j a1 x c1 c2).1.1 = σ.1.1 ∧ giS (brS σ j a1 x c1 c2) = giS σ ∧ usS (brS σ j a1 x c1 c2) = usS σ := by
  unfold brS
  by_cases z : giS σ &&& (c1 ||| c2) = 0 ∧ usS σ &&& c1 = 0
  · rw [if_pos z]; exact ⟨hgT_n.1, rfl, rfl, rfl⟩
  · rw [if_neg z]; exact ⟨hgT_n.1, rfl, rfl, rfl⟩
theorem Z_br91 {d : Int32} {x : Nat} (hS : Sto b n s) (ih : RcS b n s n0 m τ M0 g) (h14 : K.length ≤ 14) (hd : d = Int32.ofNat (K.length + 1)) (hH : hK K ≤ H + 16) (h4 : 1 ≤ a4 ∧ a4 ≤ 8) (hi : 6 * (s + 1 - i) ≤ g) (hP : PsOk m σ) (hn : σ.1.1 4 ≤ npS σ) (h3 : a3 < σ.1.1 4) (h2 : a2 < npS σ) (hC : CS b n s n0 τ M0 M i (K.length + 1) (brS σ a2 a1 x c1 c2).2.1 σ.1.1 ps' (tlK K)) (ha : a1 < (trS σ).1) (hx : ps'.getD a2 0 = ps.getD a2 0) (h2p : a2 < ps.length) (he : ∃ y, ps' = ps ++ y) (ht : t0 ≤ (trS σ).1) (hE : EdP b n s n0 τ M0 (K.length + 1) ps (tlK K) t0 (fun v M' => Q (some (.int v)) M') ((if tK b n i = 6 then (if a4 = 8 then .error (6, tP b n i) else (adv' b n i).bind fun j => rp b n m τ g 3 K j (rwP (40 * m + a2) (some a3) (brP σ a2 a1 x c1 c2)) a1 a2 (σ.1.1 4) (a4 + 1) (c1 ||| giS σ) (c2 ||| usS σ)) else (ex b n i 18).bind fun j => .ok (j, brP σ a2 a1 x c1 c2, a1) : Except (Int32 × Nat) (Nat × PS × Nat)).bind fun q => .ok (q.1, guP q.2.1 (g0 ||| giS q.2.1) (u0 ||| usS q.2.1), q.2.2))) : DX4_readBranches_91 (H + 12) 14 (ps.getD a2 0) d g0 u0 c1 c2 (Int32.ofNat a1) (Int32.ofNat (a4 - 1)) M Q := by
  have F := hC.1.1
  obtain ⟨b1, b2, b3, b4⟩ := brS_t (σ := σ) (j := a2) (a1 := a1) (x := x) (c1 := c1) (c2 := c2)
  have e5 : mI M 14 5 = giS σ := by rw [← b3]; exact hC.2.1.rd.2.2.1
  have e6 : mI M 14 6 = usS σ := by rw [← b4]; exact hC.2.1.rd.2.2.2.1
  have kd : mI M 15 9 = tK b n i := hC.1.kind
  have hj' : a2 < ps'.length := by obtain ⟨y, hy⟩ := he; rw [hy]; exact sm_lt h2p
  unfold DX4_readBranches_91
  rw [e5, e6]
  refine ⟨ok14 F, 15, rf14_0 F, ok15 F, fun z => ?_, fun z => ?_⟩
  · rw [kd] at z
    rw [if_pos z] at hE
    unfold DX4_readBranches_140
    refine ⟨fun y => ?_, fun y => ⟨15, rf14_0 F, ok15 F, Z_fail hC (by decide) (fun M6 X6 _ => ⟨rfl, ok14 X6.1.1, 15, rf14_0 X6.1.1, ok15 X6.1.1, V_adv X6 (fun _ => ⟨rfl, ?_⟩)⟩)⟩⟩
    · have n8 : a4 ≠ 8 := fun w => y (by rw [w]; decide)
      rw [if_neg n8] at hE
      refine ⟨ok14 F, 15, rf14_0 F, ok15 F, Z_adv hS hC (by rw [z]; decide) ?_⟩
      cases ea : adv' b n i with
      | error w =>
        rw [ea] at hE
        intro M4 X4 _
        have X4 : CX n0 τ M0 (s + 70) 0 M4 w.1 w.2 ps' (tlK K) (trS (brS σ a2 a1 x c1 c2)).1 := X4
        rw [b1] at X4
        rw [← hx]
        exact ⟨rfl, V_br31 (h := H + 6) X4 hj' ha (EdP.vend hE he (by decide) ht)⟩
      | ok i1 =>
        rw [ea] at hE
        obtain ⟨rfl, ha1⟩ := adv_is ea
        have hE : EdP b n s n0 τ M0 (K.length + 1) ps (tlK K) t0 (fun v M' => Q (some (.int v)) M') ((rp b n m τ g 3 K (i + 1) (rwP (40 * m + a2) (some a3) (brP σ a2 a1 x c1 c2)) a1 a2 (σ.1.1 4) (a4 + 1) (c1 ||| giS σ) (c2 ||| usS σ)).bind fun q => .ok (q.1, guP q.2.1 (g0 ||| giS q.2.1) (u0 ||| usS q.2.1), q.2.2)) := hE
        intro M4 C4 _
        refine ⟨rfl, ?_⟩
        have e8 : Int32.ofNat (a4 - 1) + 1 = Int32.ofNat (a4 + 1 - 1) := by rw [succ32]; congr 1; omega
        rw [e8, ← hx, hd]
        obtain ⟨n1, n2⟩ := br_n (σ := σ) (j := a2) (a := a1) (x := x) (g := c1) (u := c2)
        obtain ⟨z1, z2, -⟩ := rw_n (σ := brP σ a2 a1 x c1 c2) (p := 40 * m + a2) (q0 := some a3)
        have np : npS (brP σ a2 a1 x c1 c2) = npS σ := by unfold npS; rw [n1]
        have n4 : (brP σ a2 a1 x c1 c2).1.1 4 = σ.1.1 4 := by rw [n1]
        obtain ⟨y0, hy0⟩ := he
        refine ih.2.2.2 K (i + 1) (rwP (40 * m + a2) (some a3) (brP σ a2 a1 x c1 c2)) a1 a2 (σ.1.1 4) (a4 + 1) (c1 ||| giS σ) (c2 ||| usS σ) g0 u0 (giS σ) (usS σ) M4 ps' (H + 12 + 1) Q ⟨hP.br.rw, by omega, fun w => absurd w (by decide), fun _ => ⟨h14, by rw [z2, n4]; exact Nat.lt_succ_self _, by rw [z1, np]; exact h2⟩, fun w => absurd w (by decide), by rw [z2, z1, n4, np]; omega⟩ ?_ (by show a1 < (trS (brP σ a2 a1 x c1 c2)).1; rw [n2]; exact ha) ⟨by omega, by omega⟩ (by omega) (by have := C4.len; omega) ?_
        · have eg : (guP (rwP (40 * m + a2) (some a3) (brP σ a2 a1 x c1 c2)) (giS σ) (usS σ)).2.1 = (brS σ a2 a1 x c1 c2).2.1 := by
            have : (guP (brS σ a2 a1 x c1 c2) (giS σ) (usS σ)).2.1 = (brS σ a2 a1 x c1 c2).2.1 := by
              rw [← b3, ← b4]
              rfl
            rw [← this]
            rfl
          rw [eg]
          refine C4.cnt ?_ ?_ ?_ ?_
          · show (brP σ a2 a1 x c1 c2).1.1 0 = _; rw [n1]
          · show (brP σ a2 a1 x c1 c2).1.1 1 = _; rw [n1]
          · show (brP σ a2 a1 x c1 c2).1.1 2 = _; rw [n1]
          · show (brP σ a2 a1 x c1 c2).1.1 3 = _; rw [n1]
        · rw [hy0]
          exact EdP.ext hE (by show t0 ≤ (trS (brP σ a2 a1 x c1 c2)).1; rw [n2]; exact ht)
    · have n8 : a4 = 8 := by
        have w : a4 - 1 = 7 := (z32 (k := 7) (by omega) (by decide)).mp y
        omega
      rw [if_pos n8] at hE
      have X6 : CX n0 τ M0 (s + 70) 0 M6 6 (tP b n i) ps' (tlK K) (trS (brS σ a2 a1 x c1 c2)).1 := X6
      rw [b1] at X6
      rw [← hx]
      exact V_br31 (h := H + 6) X6 hj' ha (EdP.vend (e := (6, tP b n i)) hE he (by decide) ht)
  · rw [kd] at z
    rw [if_neg z] at hE
    unfold DX4_readBranches_153
    refine ⟨ok14 F, fun M2 e2 M3 e3 => ?_⟩
    have C3 := hC.gu e2 e3
    have F3 := C3.1.1
    refine ⟨15, rf14_0 F3, ok15 F3, Z_expect hS C3 (by decide) ?_⟩
    cases e18 : ex b n i 18 with
    | error w =>
      rw [e18] at hE
      intro M4 X4 _
      have X4 : CX n0 τ M0 (s + 70) 0 M4 w.1 w.2 ps' (tlK K) (trS (brS σ a2 a1 x c1 c2)).1 := X4
      rw [b1] at X4
      exact ⟨rfl, EdP.vend hE he (by decide) ht M4 a1 _ X4 (Nat.le_refl _) ha⟩
    | ok i1 =>
      rw [e18] at hE
      intro M4 C4 _
      refine ⟨rfl, ?_⟩
      have hE : EdP b n s n0 τ M0 (K.length + 1) ps (tlK K) t0 (fun v M' => Q (some (.int v)) M') (.ok (i1, guP (brP σ a2 a1 x c1 c2) (g0 ||| giS (brP σ a2 a1 x c1 c2)) (u0 ||| usS (brP σ a2 a1 x c1 c2)), a1)) := hE
      refine hE.oke he ?_
      obtain ⟨n1, n2⟩ := br_n (σ := σ) (j := a2) (a := a1) (x := x) (g := c1) (u := c2)
      show CS b n s n0 τ M0 M4 i1 (K.length + 1) (guP (brP σ a2 a1 x c1 c2) (g0 ||| giS (brP σ a2 a1 x c1 c2)) (u0 ||| usS (brP σ a2 a1 x c1 c2))).2.1 (brP σ a2 a1 x c1 c2).1.1 ps' (tlK K)
      rw [n1]
      exact C4
theorem Z_branch (hS : Sto b n s) (ih : RcS b n s n0 m τ M0 g) (hI : RpI m 3 K σ a2 a3) (hC : CS b n s n0 τ M0 M i (K.length + 1) (guP σ gg uu).2.1 σ.1.1 ps (tlK K)) (ha : a1 < (trS σ).1) (h4 : 1 ≤ a4 ∧ a4 ≤ 8) (hH : hK K ≤ H + 3) (hg : 6 * (s + 1 - i) + 2 ≤ g + 1) (hE : EdP b n s n0 τ M0 (K.length + 1) ps (tlK K) (trS σ).1 (fun v M' => Q (some (.int v)) M') ((rp b n m τ (g + 1) 3 K i σ a1 a2 a3 a4 c1 c2).bind fun q => .ok (q.1, guP q.2.1 (g0 ||| giS q.2.1) (u0 ||| usS q.2.1), q.2.2))) : T H mdX4_readBranches 31 [(0, .ref 14), (1, .ref (ps.getD a2 0)), (2, .int (Int32.ofNat (K.length + 1))), (3, .int g0), (4, .int u0), (5, .int c1), (6, .int c2), (7, .int (Int32.ofNat a1)), (8, .int (Int32.ofNat (a4 - 1)))] [] M Q := by
  have hh : 100 ≤ hK K := Nat.le_add_right _ _
  obtain ⟨H, rfl⟩ : ∃ H', H = H' + 12 + 1 := ⟨H - 13, by omega⟩
  have F := hC.1.1
  have L := hC.len
  have t1 : 1 ≤ (trS σ).1 := hC.t1
  obtain ⟨hP, hKl, -, h3, -, hc⟩ := hI
  obtain ⟨h14, h3a, h3b⟩ := h3 rfl
  have h2p : a2 < ps.length := by have : npS σ = ps.length := L.2.2.2.1.symm; omega
  unfold rp at hE
  rw [if_neg (show ¬ (3 : Nat) = 0 by decide), if_neg (show ¬ (3 : Nat) = 1 by decide), if_neg (show ¬ (3 : Nat) = 2 by decide), ebA] at hE
  refine VX4_readBranches_31 ?_
  unfold DX4_readBranches_31
  refine ⟨fun z => absurd ((le32 (a := 8) (by decide) (by omega)).mp z) (by omega), fun _ => ⟨ok14 F, fun M2 e2 M3 e3 => ?_⟩⟩
  have C3 : CS b n s n0 τ M0 M3 i (K.length + 1) (guP σ 0 0).2.1 σ.1.1 ps (tlK K) := CS.gu (σ := guP σ gg uu) hC e2 e3
  have F3 := C3.1.1
  refine ⟨4, rf14_1 F3, ?_⟩
  have hk := hK_s K (40 * m + a2, a3, a4, none) (by omega)
  have I0 : RpI m 0 ((40 * m + a2, a3, a4, none) :: K) (guP σ 0 0) 0 0 := ⟨hP, by show K.length + 1 ≤ 15; omega, fun _ => h3a, fun z => absurd z (by decide), fun z => absurd z (by decide), hc⟩
  have ok0 := rp_ok (τ := τ) (m := m) hS g 0 ((40 * m + a2, a3, a4, none) :: K) i (guP σ 0 0) 0 0 0 0 0 0 (by decide) L.2.2.1 hC.1.2.2.2.2.2.2.2.2.2 I0
  refine ih.1 ((40 * m + a2, a3, a4, none) :: K) i (guP σ 0 0) 0 0 0 0 0 0 M3 ps (H + 12) _ I0 C3 (by omega) (by omega) ?_
  cases e0 : rp b n m τ g 0 ((40 * m + a2, a3, a4, none) :: K) i (guP σ 0 0) 0 0 0 0 0 0 with
  | error y =>
    rw [e0] at hE
    intro M5 ps5 v t5 X5 he hv ht _
    have X5 : CX n0 τ M0 (s + 70) 10 M5 y.1 y.2 ps5 (tlK K) t5 := X5
    have ht : (trS σ).1 ≤ t5 := ht
    obtain ⟨x5, hx5⟩ := id he
    have ej : ps.getD a2 0 = ps5.getD a2 0 := by rw [hx5]; exact (getD_ext h2p).symm
    rw [ej]
    exact ⟨_, rfl, ok4 X5.1.1, V_hg X5 (by omega) hv (fun M8 X8 _ => ⟨rfl, V_br (h := H + 10) X8 (by rw [hx5]; exact sm_lt h2p) (by omega) (EdP.vend hE he (Nat.le_refl _) ht)⟩)⟩
  | ok r =>
    rw [e0] at hE ok0
    obtain ⟨k1, k2, k3, ⟨p1, p2, p3, p4⟩, k5⟩ := ok0
    have i1 : i < r.1 := k5 (by decide)
    have tr1 : (trS σ).1 ≤ (trS r.2.1).1 := p1.2.2.2.2 t1
    have q1 : a1 < (trS r.2.1).1 := Nat.lt_of_lt_of_le ha tr1
    have q2 : r.2.2 < (trS r.2.1).1 := p4 t1 (fun z => by omega)
    have np1 : npS σ ≤ npS r.2.1 := p1.1
    have n41 : σ.1.1 4 ≤ r.2.1.1.1 4 := p1.2.1
    intro M5 ps5 C5 he _
    have C5 : CS b n s n0 τ M0 M5 r.1 (K.length + 1) r.2.1.2.1 r.2.1.1.1 ps5 (tlK K) := C5
    obtain ⟨x5, hx5⟩ := id he
    have ej : ps5.getD a2 0 = ps.getD a2 0 := by rw [hx5]; exact getD_ext h2p
    have hj5 : a2 < ps5.length := by rw [hx5]; exact sm_lt h2p
    refine ⟨_, rfl, ok4 C5.1.1, S_hg C5.1.1 C5.2.1.trp q1 q2 (fun M8 T8 k8 _ => ⟨rfl, ?_⟩)⟩
    have C8 : CS b n s n0 τ M0 M8 r.1 (K.length + 1) (hgP r.2.1 a1 r.2.2).2.1 r.2.1.1.1 ps5 (tlK K) := C5.tree k8 T8
    have e5 : mI M8 14 5 = giS r.2.1 := C8.2.1.rd.2.2.1
    have e6 : mI M8 14 6 = usS r.2.1 := C8.2.1.rd.2.2.2.1
    rw [e5, e6]
    have last : ∀ M9, CS b n s n0 τ M0 M9 r.1 (K.length + 1) (brS r.2.1 a2 a1 r.2.2 c1 c2).2.1 r.2.1.1.1 ps5 (tlK K) → DX4_readBranches_91 (H + 12) 14 (ps.getD a2 0) (Int32.ofNat (K.length + 1)) g0 u0 c1 c2 (Int32.ofNat a1) (Int32.ofNat (a4 - 1)) M9 Q := fun M9 C9 => Z_br91 (m := m) (a3 := a3) hS ih h14 rfl (by omega) h4 (by omega) p2 p3 (by omega) (by omega) C9 q1 ej h2p he tr1 hE
    have late : ¬ (giS r.2.1 &&& (c1 ||| c2) = 0 ∧ usS r.2.1 &&& c1 = 0) → DX4_readBranches_85 (H + 12) 14 (ps.getD a2 0) (Int32.ofNat (K.length + 1)) g0 u0 c1 c2 (Int32.ofNat a1) (Int32.ofNat (a4 - 1)) M8 Q := by
      intro z
      unfold DX4_readBranches_85
      rw [← ej]
      refine ⟨(C8.2.1.part hj5).1, fun M9 e9 => ?_⟩
      have C9 := C8.pt hj5 e9
      rw [ej]
      refine last M9 ?_
      unfold brS
      rw [if_neg z]
      exact C9
    refine ⟨fun z => late (fun y => z y.1), fun z => ⟨fun z2 => last M8 ?_, fun z2 => late (fun y => z2 y.2)⟩⟩
    unfold brS
    rw [if_pos ⟨z, z2⟩]
    exact C8
/-- THE CLASS READS ALL PARTS -/
theorem C_rp (hB : By b) (hS : Sto b n s) : ∀ g, RcS b n s n0 m τ M0 g := by
  intro g
  induction g with
  | zero =>
    refine ⟨fun K i σ a1 a2 a3 a4 c1 c2 M ps H Q hI hC hH hg hE => ?_, fun K i σ a1 a2 a3 a4 c1 c2 c M ps H Q hI hC ha hc hH hg hE => ?_, fun K i σ a1 a2 a3 a4 c1 c2 M ps H Q hI hC hH hg hE => ?_, fun K i σ a1 a2 a3 a4 c1 c2 g0 u0 gg uu M ps H Q hI hC ha h4 hH hg hE => ?_⟩
    all_goals (have := hC.len; omega)
  | succ g ih =>
    exact ⟨fun K i σ a1 a2 a3 a4 c1 c2 M ps H Q hI hC hH hg hE => Z_seq hS ih hI hC hH hg hE, fun K i σ a1 a2 a3 a4 c1 c2 c M ps H Q hI hC ha hc hH hg hE => Z_more hS ih hI hC ha hc hH hg hE, fun K i σ a1 a2 a3 a4 c1 c2 M ps H Q hI hC hH hg hE => Z_part hB hS ih hI hC hH hg hE, fun K i σ a1 a2 a3 a4 c1 c2 g0 u0 gg uu M ps H Q hI hC ha h4 hH hg hE => Z_branch hS ih hI hC ha h4 hH hg hE⟩
end
