/-! the class reads parts: what is to be shown, by fuel; rows -/
def RcS (b : Nat → Int32) (n s n0 m : Nat) (τ : Td) (M0 : Mem) (g : Nat) : Prop :=
  (∀ (K : List KE) (i : Nat) (σ : PS) (a1 a2 a3 a4 : Nat) (c1 c2 : Int32) (M : Mem) (ps : List Nat) (H : Nat) (Q : Option Value → Mem → Prop), RpI m 0 K σ a2 a3 → CS b n s n0 τ M0 M i K.length σ.2.1 σ.1.1 ps (tlK K) → hK K ≤ H → 6 * (s + 1 - i) + 1 ≤ g → EdP b n s n0 τ M0 K.length ps (tlK K) (trS σ).1 (fun v M' => Q (some (.int v)) M') (rp b n m τ g 0 K i σ a1 a2 a3 a4 c1 c2) → E H mdX4_readSeq [.ref 14, .int (Int32.ofNat K.length)] M Q) ∧
  (∀ (K : List KE) (i : Nat) (σ : PS) (a1 a2 a3 a4 : Nat) (c1 c2 : Int32) (c : Nat) (M : Mem) (ps : List Nat) (H : Nat) (Q : Option Value → Mem → Prop), RpI m 1 K σ a2 a3 → CS b n s n0 τ M0 M i K.length σ.2.1 σ.1.1 ps (tlK K) → a1 < (trS σ).1 → c + 1 ≤ npS σ → hK K ≤ H → 6 * (s + 1 - i) ≤ g → EdP b n s n0 τ M0 K.length ps (tlK K) (trS σ).1 (fun v M' => Q (some (.int v)) M') (rp b n m τ g 1 K i σ a1 a2 a3 a4 c1 c2) → T H mdX4_readSeq 26 [(0, .ref 14), (1, .int (Int32.ofNat K.length)), (2, .int (Int32.ofNat a1)), (3, .int (Int32.ofNat c))] [] M Q) ∧
  (∀ (K : List KE) (i : Nat) (σ : PS) (a1 a2 a3 a4 : Nat) (c1 c2 : Int32) (M : Mem) (ps : List Nat) (H : Nat) (Q : Option Value → Mem → Prop), RpI m 2 K σ a2 a3 → CS b n s n0 τ M0 M i K.length σ.2.1 σ.1.1 ps (tlK K) → hK K ≤ H + 1 → 6 * (s + 1 - i) ≤ g → EdP b n s n0 τ M0 K.length ps (tlK K) (trS σ).1 (fun v M' => Q (some (.int v)) M') (rp b n m τ g 2 K i σ a1 a2 a3 a4 c1 c2) → E H mdX4_readPart [.ref 14, .int (Int32.ofNat (K.length + 1))] M Q) ∧
  (∀ (K : List KE) (i : Nat) (σ : PS) (a1 a2 a3 a4 : Nat) (c1 c2 g0 u0 gg uu : Int32) (M : Mem) (ps : List Nat) (H : Nat) (Q : Option Value → Mem → Prop), RpI m 3 K σ a2 a3 → CS b n s n0 τ M0 M i (K.length + 1) (guP σ gg uu).2.1 σ.1.1 ps (tlK K) → a1 < (trS σ).1 → 1 ≤ a4 ∧ a4 ≤ 8 → hK K ≤ H + 3 → 6 * (s + 1 - i) + 2 ≤ g → EdP b n s n0 τ M0 (K.length + 1) ps (tlK K) (trS σ).1 (fun v M' => Q (some (.int v)) M') ((rp b n m τ g 3 K i σ a1 a2 a3 a4 c1 c2).bind fun q => .ok (q.1, guP q.2.1 (g0 ||| giS q.2.1) (u0 ||| usS q.2.1), q.2.2)) → T H mdX4_readBranches 31 [(0, .ref 14), (1, .ref (ps.getD a2 0)), (2, .int (Int32.ofNat (K.length + 1))), (3, .int g0), (4, .int u0), (5, .int c1), (6, .int c2), (7, .int (Int32.ofNat a1)), (8, .int (Int32.ofNat (a4 - 1)))] [] M Q)
section
variable {b : Nat → Int32} {n s n0 m : Nat} {τ : Td} {M0 M M' : Mem} {i o j g : Nat} {γ : ClT} {σ : PS} {K : List KE} {cn : Nat → Nat} {ps : List Nat} {tl : List Int64} {f : Int32} {p t t' h B t0 t1 : Nat} {Q : Option Value → Mem → Prop} {Q1 : Int32 → Mem → Prop} {W : Nat}
theorem Z_seq {a1 a2 a3 a4 H : Nat} {c1 c2 : Int32} (hS : Sto b n s) (ih : RcS b n s n0 m τ M0 g) (hI : RpI m 0 K σ a2 a3) (hC : CS b n s n0 τ M0 M i K.length σ.2.1 σ.1.1 ps (tlK K)) (hH : hK K ≤ H) (hg : 6 * (s + 1 - i) + 1 ≤ g + 1) (hE : EdP b n s n0 τ M0 K.length ps (tlK K) (trS σ).1 (fun v M' => Q (some (.int v)) M') (rp b n m τ (g + 1) 0 K i σ a1 a2 a3 a4 c1 c2)) : E H mdX4_readSeq [.ref 14, .int (Int32.ofNat K.length)] M Q := by
  have hh : 100 ≤ hK K := Nat.le_add_right _ _
  obtain ⟨H, rfl⟩ : ∃ H', H = H' + 1 + 8 := ⟨H - 9, by omega⟩
  have F := hC.1.1
  have t1 : 1 ≤ (trS σ).1 := hC.t1
  have tm : Ts (trS σ) (mkT (trS σ) 5) := ts_mk t1
  unfold rp at hE
  rw [if_pos (show (0 : Nat) = 0 from rfl)] at hE
  obtain ⟨hP, hKl, hq, -, -, hc⟩ := hI
  have I2 : RpI m 2 K (trP1 σ (mkT (trS σ) 5).1) 0 0 := ⟨hP, hKl, fun _ => hq (by decide), fun z => absurd z (by decide), fun z => absurd z (by decide), hc⟩
  have ok2 := rp_ok (τ := τ) (m := m) hS g 2 K i (trP1 σ (mkT (trS σ) 5).1) 0 0 0 0 0 0 (by decide) hC.1.2.1.2.2 hC.1.2.2.2.2.2.2.2.2.2 I2
  refine KX4_readSeq ?_
  unfold DX4_readSeq_0
  refine ⟨ok14 F, 4, rf14_1 F, ok4 F, S_mk F hC.2.1.trp (fun M1 T1 k1 _ => ⟨_, rfl, 4, rf14_1 (k1.fix F), ?_⟩)⟩
  have C1 := hC.tree k1 T1
  rw [succ32]
  refine ih.2.2.1 K i (trP1 σ (mkT (trS σ) 5).1) 0 0 0 0 0 0 M1 ps (H + 8) _ I2 C1 (by omega) (by omega) ?_
  cases e2 : rp b n m τ g 2 K i (trP1 σ (mkT (trS σ) 5).1) 0 0 0 0 0 0 with
  | error y =>
    rw [e2] at hE
    intro M2 ps2 v t2 X2 he hv ht _
    have ht : (mkT (trS σ) 5).1.1 ≤ t2 := ht
    have hq2 := tm.2
    have hq1 := tm.1
    have qt : (mkT (trS σ) 5).2 < t2 := by omega
    have qs : (trS σ).1 ≤ t2 := by omega
    exact ⟨_, rfl, ok4 X2.1.1, V_hg X2 qt hv (fun M3 X3 _ => ⟨rfl, V_loop26 X3 (hE M3 ps2 _ t2 X3 he qt qs)⟩)⟩
  | ok r =>
    rw [e2] at hE ok2
    have np := rp_np hS hC.1.2.1.2.2 hC.1.2.2.2.2.2.2.2.2.2 I2 e2
    obtain ⟨k1', k2', k3', ⟨p1, p2, p3, p4⟩, k5'⟩ := ok2
    have hE : EdP b n s n0 τ M0 K.length ps (tlK K) (trS σ).1 (fun v M' => Q (some (.int v)) M') (rp b n m τ g 1 K r.1 (hgP r.2.1 (mkT (trS σ) 5).2 r.2.2) (mkT (trS σ) 5).2 0 0 0 0 0) := hE
    have i1 : i < r.1 := k5' (by decide)
    have tr1 : (mkT (trS σ) 5).1.1 ≤ (trS r.2.1).1 := p1.2.2.2.2 (Nat.le_trans t1 tm.1)
    have q1 : (mkT (trS σ) 5).2 < (trS r.2.1).1 := Nat.lt_of_lt_of_le tm.2 tr1
    have q2 : r.2.2 < (trS r.2.1).1 := p4 (Nat.le_trans t1 tm.1) (fun z => by omega)
    intro M2 ps2 C2 ⟨e, he⟩ _
    refine ⟨_, rfl, ok4 C2.1.1, S_hg C2.1.1 C2.2.1.trp q1 q2 (fun M3 T3 k3 _ => ⟨rfl, ?_⟩)⟩
    have C3 := C2.tree k3 T3
    have eh : (trS (hgP r.2.1 (mkT (trS σ) 5).2 r.2.2)).1 = (trS r.2.1).1 := hgT_n.1
    refine ih.2.1 K r.1 (hgP r.2.1 (mkT (trS σ) 5).2 r.2.2) (mkT (trS σ) 5).2 0 0 0 0 0 0 M3 ps2 (H + 8 + 1) Q ⟨p2, hKl, fun _ => Nat.lt_of_lt_of_le (hq (by decide)) p1.2.1, fun z => absurd z (by decide), fun _ => p3, Nat.le_succ_of_le p3⟩ C3 (by rw [eh]; exact q1) ?_ (by omega) (by omega) ?_
    · show 0 + 1 ≤ npS r.2.1; omega
    · rw [he]
      exact hE.ext (by rw [eh]; have := tm.1; omega)
theorem Z_more {a1 a2 a3 a4 H c : Nat} {c1 c2 : Int32} (hS : Sto b n s) (ih : RcS b n s n0 m τ M0 g) (hI : RpI m 1 K σ a2 a3) (hC : CS b n s n0 τ M0 M i K.length σ.2.1 σ.1.1 ps (tlK K)) (ha : a1 < (trS σ).1) (hc1 : c + 1 ≤ npS σ) (hH : hK K ≤ H) (hg : 6 * (s + 1 - i) ≤ g + 1) (hE : EdP b n s n0 τ M0 K.length ps (tlK K) (trS σ).1 (fun v M' => Q (some (.int v)) M') (rp b n m τ (g + 1) 1 K i σ a1 a2 a3 a4 c1 c2)) : T H mdX4_readSeq 26 [(0, .ref 14), (1, .int (Int32.ofNat K.length)), (2, .int (Int32.ofNat a1)), (3, .int (Int32.ofNat c))] [] M Q := by
  have hh : 100 ≤ hK K := Nat.le_add_right _ _
  obtain ⟨H, rfl⟩ : ∃ H', H = H' + 1 + 8 := ⟨H - 9, by omega⟩
  have F := hC.1.1
  have t1 : 1 ≤ (trS σ).1 := hC.t1
  have L := hC.len
  unfold rp at hE
  rw [if_neg (show ¬ (1 : Nat) = 0 by decide), if_pos (show (1 : Nat) = 1 from rfl)] at hE
  obtain ⟨hP, hKl, hq, -, h1, hc⟩ := hI
  have np40 : npS σ ≤ 40 := hP.1
  refine VX4_readSeq_26 ?_
  unfold DX4_readSeq_26 DX4_readSeq_65
  refine ⟨fun z => absurd ((le32 (a := 40) (by decide) (by omega)).mp z) (by omega), fun _ => ⟨ok14 F, 15, rf14_0 F, ok15 F, Z_accept hS hC (by decide) (fun k => ?_) (fun k _ => ⟨_, rfl, fun _ => ?_, fun z => absurd rfl z⟩)⟩⟩
  · rw [if_pos k] at hE
    cases ea : adv' b n i with
    | error y =>
      rw [ea] at hE
      intro M1 X1 _
      have X1 : CX n0 τ M0 (s + 70) 0 M1 y.1 y.2 ps (tlK K) (trS σ).1 := X1
      exact ⟨_, rfl, fun z => absurd z (by decide), fun _ => ⟨4, rf14_1 X1.1.1, V_part X1 (fun _ => ⟨_, rfl, ok4 X1.1.1, V_hg (c := 0) X1 ha (by omega) (fun M3 X3 _ => ⟨rfl, V_loop26 X3 (EdP.er hE X3 (by decide) ha (Nat.le_refl _))⟩)⟩)⟩⟩
    | ok i1 =>
      rw [ea] at hE
      obtain ⟨rfl, hk1⟩ := adv_is ea
      have hE : EdP b n s n0 τ M0 K.length ps (tlK K) (trS σ).1 (fun v M' => Q (some (.int v)) M') ((rp b n m τ g 2 K (i + 1) σ 0 0 0 0 0 0).bind fun r => rp b n m τ g 1 K r.1 (hgP r.2.1 a1 r.2.2) a1 0 0 0 0 0) := hE
      intro M1 C1 _
      have F1 := C1.1.1
      refine ⟨_, rfl, fun z => absurd z (by decide), fun _ => ⟨4, rf14_1 F1, ?_⟩⟩
      rw [succ32, succ32]
      have I2 : RpI m 2 K σ 0 0 := ⟨hP, hKl, fun _ => hq (by decide), fun z => absurd z (by decide), fun z => absurd z (by decide), hc⟩
      have ok2 := rp_ok (τ := τ) (m := m) hS g 2 K (i + 1) σ 0 0 0 0 0 0 (by decide) C1.1.2.1.2.2 hk1 I2
      refine ih.2.2.1 K (i + 1) σ 0 0 0 0 0 0 M1 ps (H + 8) _ I2 C1 (by omega) (by omega) ?_
      cases e2 : rp b n m τ g 2 K (i + 1) σ 0 0 0 0 0 0 with
      | error y =>
        rw [e2] at hE
        intro M2 ps2 v t2 X2 he hv ht _
        exact ⟨_, rfl, ok4 X2.1.1, V_hg X2 (by omega) hv (fun M3 X3 _ => ⟨rfl, V_loop26 X3 (hE M3 ps2 _ t2 X3 he (by omega) ht)⟩)⟩
      | ok r =>
        rw [e2] at hE ok2
        have np := rp_np hS C1.1.2.1.2.2 hk1 I2 e2
        obtain ⟨k1', k2', k3', ⟨p1, p2, p3, p4⟩, k5'⟩ := ok2
        have hE : EdP b n s n0 τ M0 K.length ps (tlK K) (trS σ).1 (fun v M' => Q (some (.int v)) M') (rp b n m τ g 1 K r.1 (hgP r.2.1 a1 r.2.2) a1 0 0 0 0 0) := hE
        have i1 : i + 1 < r.1 := k5' (by decide)
        have tr1 : (trS σ).1 ≤ (trS r.2.1).1 := p1.2.2.2.2 t1
        have q1 : a1 < (trS r.2.1).1 := Nat.lt_of_lt_of_le ha tr1
        have q2 : r.2.2 < (trS r.2.1).1 := p4 t1 (fun z => by omega)
        intro M2 ps2 C2 ⟨e, he⟩ _
        refine ⟨_, rfl, ok4 C2.1.1, S_hg C2.1.1 C2.2.1.trp q1 q2 (fun M3 T3 k3 _ => ⟨rfl, ?_⟩)⟩
        have C3 := C2.tree k3 T3
        have eh : (trS (hgP r.2.1 a1 r.2.2)).1 = (trS r.2.1).1 := hgT_n.1
        refine ih.2.1 K r.1 (hgP r.2.1 a1 r.2.2) a1 0 0 0 0 0 (c + 1) M3 ps2 (H + 8 + 1) Q ⟨p2, hKl, fun _ => Nat.lt_of_lt_of_le (hq (by decide)) p1.2.1, fun z => absurd z (by decide), fun _ => p3, Nat.le_succ_of_le p3⟩ C3 (by rw [eh]; exact q1) ?_ (by omega) (by omega) ?_
        · show c + 1 + 1 ≤ npS r.2.1; omega
        · rw [he]
          exact hE.ext (by rw [eh]; exact tr1)
  · rw [if_neg k] at hE
    exact EdP.ok' hE hC
theorem CS.push {c : Int64} (hC : CS b n s n0 τ M0 M i o γ cn ps tl) (hl : tl.length < 16) (e : M' = wI (wAJ M 20 tl.length c) 14 3 (Int32.ofNat (tl.length + 1))) : CS b n s n0 τ M0 M' i o γ cn ps (c :: tl) := by
  refine ⟨?_, hC.2.1.push hC.1.1 hl e, hC.2.2⟩
  rw [e]
  exact hC.1.fr ((hC.1.1.aj (by decide)).i) w14 rfl rfl rfl (up2_row (f := mAJ M) (a := 20) (b := 18) (k := tl.length) (v := c) (by decide))
theorem CS.pop {c : Int64} (hC : CS b n s n0 τ M0 M i o γ cn ps (c :: tl)) (e : M' = wI M 14 3 (mI M 14 3 - 1)) : CS b n s n0 τ M0 M' i o γ cn ps tl := by
  refine ⟨?_, hC.2.1.pop hC.1.1 e, hC.2.2⟩
  rw [e]
  exact hC.1.fr hC.1.1.i w14 rfl rfl rfl rfl
/-- a row with a trap around it -/
theorem Z_trapped {H : Nat} {c : Int64} {R : Except (Int32 × Nat) (Nat × PS × Nat)} {d : Int32} (hC : CS b n s n0 τ M0 M i o γ cn ps tl) (hl : tl.length < 16) (hT : ∀ (M' : Mem) (Q' : Option Value → Mem → Prop), CS b n s n0 τ M0 M' i o γ cn ps (c :: tl) → EdP b n s n0 τ M0 o ps (c :: tl) t0 (fun v M' => Q' (some (.int v)) M') R → E H mdX4_readSeq [.ref 14, .int d] M' Q') (hE : EdP b n s n0 τ M0 o ps tl t0 (fun v M' => Q (some (.int v)) M') R) : E (H + 1) mdX4_readTrapped [.ref 14, .long c, .int d] M Q := by
  have F := hC.1.1
  have e3 := hC.2.1.rd.1.1
  refine KX4_readTrapped ?_
  unfold DX4_readTrapped_0
  refine ⟨ok14 F, fun _ => ⟨20, rf14_2 F, ok20 F, ?_, ?_⟩, fun z => absurd (by rw [e3]; exact (ltn32 (b := 16) (by omega) (by decide)).mpr hl) z⟩
  · rw [e3, ln20 F]
    exact vp_of hl (by decide)
  · rw [e3, lt32 (by omega)]
    intro M4 e4 M5 e5
    have e34 : mI M4 14 3 = Int32.ofNat tl.length := by rw [e4]; exact e3
    rw [e34, succ32, e4] at e5
    refine hT M5 _ (hC.push hl e5) ?_
    cases R with
    | error y => exact fun M6 ps6 v t6 X6 he hv ht _ => ⟨_, rfl, fun M8 e8 => hE M8 ps6 v t6 (X6.pop e8) he hv ht⟩
    | ok r => exact fun M6 ps6 C6 he _ => ⟨_, rfl, fun M8 e8 => hE M8 ps6 (C6.pop e8) he⟩
end
