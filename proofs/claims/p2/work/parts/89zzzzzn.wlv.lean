/-! the weaver leaves a node -/
def ltV (n : Nat) (ka kx : Nat → Nat) : Nat := if n = 0 then v3O (kx 0) (kx 2) else if n = 1 then kx 1 else if n ≤ 18 then kx (n + 1) else ka n
def lvV (k : Int32) (n : Nat) (ka kx : Nat → Nat) (rs hv cd : Nat) : Nat := if k = 4 then v3O (ka n) (kx n) else if k = 5 then (if n = 0 then kx 0 else v3O (ka n) (kx n)) else if k = 6 then (if n = 0 then 0 else v3O (ka n) (kx n)) else if k = 7 then (if n = 1 then v3O (v3O (ka 1) (kx 1)) (v3A (v3A rs hv) cd) else v3O (ka n) (kx n)) else ltV n ka kx
theorem v3O_0 {a : Nat} (h : a ≤ 2) : v3O 0 a = a := by
  have : a = 0 ∨ a = 1 ∨ a = 2 := by omega
  rcases this with e | e | e <;> subst e <;> rfl
section
variable {n0 l0 r0 N0 : Nat} {Θ : TrT} {M0 M M' : Mem} {Ψ Ψ' : Wg} {h : Nat} {Q : Option Value → Mem → Prop} {P P1 : Nat → Nat → Int32} {zp : Int32} {x a : Nat} {kv : Nat → Int32}
theorem enP_i {n : Nat} (hn : n < 20) : enP P a kv 28 (a * 20 + n) = kv n := by
  unfold enP
  rw [if_pos ⟨rfl, by omega, by omega⟩, show a * 20 + n - a * 20 = n by omega]
theorem enP_x {n : Nat} (hn : n < 20) (hne : x ≠ a) : enP P a kv 28 (x * 20 + n) = P 28 (x * 20 + n) := by
  unfold enP
  rw [if_neg (by omega)]
theorem enP_id {c j : Nat} : enP P a (fun n => P 28 (a * 20 + n)) c j = P c j := by
  unfold enP
  by_cases z : c = 28 ∧ a * 20 ≤ j ∧ j < a * 20 + 20
  · rw [if_pos z, z.1]
    show P 28 (a * 20 + (j - a * 20)) = _
    rw [show a * 20 + (j - a * 20) = j by omega]
  · rw [if_neg z]
theorem enP_2 {kw : Nat → Int32} {c j : Nat} : enP (enP P a kv) a kw c j = enP P a kw c j := by
  unfold enP
  by_cases z : c = 28 ∧ a * 20 ≤ j ∧ j < a * 20 + 20
  · rw [if_pos z, if_pos z]
  · rw [if_neg z, if_neg z, if_neg z]
theorem W_orA (hB : WvB n0 l0 r0 M0) (hW : WvP n0 l0 r0 N0 Θ M0 Ψ M) (hP : RwP n0 P zp M) (hlim : Ψ.1.length < 99900) (ha : a < 640) (hx : x < 640) (hne : x ≠ a) (hka : ∀ n, n < 20 → okI Ψ (P 28 (a * 20 + n))) (hkx : ∀ n, n < 20 → okI Ψ (P 28 (x * 20 + n))) (K : ∀ M' Ψ' kv, WvP n0 l0 r0 N0 Θ M0 Ψ' M' → RwP n0 (enP P a kv) zp M' → Gr noN Ψ Ψ' → (Ψ'.1.length ≤ Ψ.1.length + 20 ∧ Ψ'.2.2.length = Ψ.2.2.length ∧ Ψ'.1.length + szN kv 20 ≤ Ψ.1.length + nk P a + nk P x) → (∀ n, n < 20 → okI Ψ' (kv n)) → (∀ w HV, gW Ψ' w HV → ∀ n, n < 20 → lV w (kv n) = v3O (lV w (P 28 (a * 20 + n))) (lV w (P 28 (x * 20 + n)))) → Q none M') : E (h + 6) mdX9_orAll [.ref 21, .int (Int32.ofNat (a * 20)), .int (Int32.ofNat (x * 20))] M Q := by
  have w28 : wvC n0 28 := Or.inl (by omega)
  have main : ∀ (d n : Nat) (M1 : Mem) (Ψ1 : Wg) (kv : Nat → Int32), n + d = 20 → WvP n0 l0 r0 N0 Θ M0 Ψ1 M1 → RwP n0 (enP P a kv) zp M1 → Gr noN Ψ Ψ1 → (Ψ1.1.length ≤ Ψ.1.length + n ∧ Ψ1.2.2.length = Ψ.2.2.length ∧ Ψ1.1.length + szN kv 20 ≤ Ψ.1.length + nk P a + szN (fun k => P 28 (x * 20 + k)) n) → (∀ k, k < 20 → okI Ψ1 (kv k)) → (∀ k, n ≤ k → kv k = P 28 (a * 20 + k)) → (∀ w HV, gW Ψ1 w HV → ∀ k, k < n → lV w (kv k) = v3O (lV w (P 28 (a * 20 + k))) (lV w (P 28 (x * 20 + k)))) → T (h + 6) mdX9_orAll 2 [(0, .ref 21), (1, .int (Int32.ofNat (a * 20))), (2, .int (Int32.ofNat (x * 20))), (3, .int (Int32.ofNat n))] [] M1 Q := by
    intro d
    induction d with
    | zero =>
      intro n M1 Ψ1 kv hn W1 R1 G1 L1 o1 r1 s1
      have e : n = 20 := by omega
      subst e
      refine VX9_orAll_2 ?_
      unfold DX9_orAll_2
      exact ⟨fun _ => K M1 Ψ1 kv W1 R1 G1 L1 o1 s1, fun z => absurd Int32.le_rfl z⟩
    | succ d ih =>
      intro n M1 Ψ1 kv hn W1 R1 G1 L1 o1 r1 s1
      obtain ⟨F1, -, h81, o81, hRo1, -⟩ := W1.sees hB
      have nle : ¬ (20 : Int32) ≤ Int32.ofNat n := fun z => by
        have := (le32 (a := 20) (by decide) (by omega)).mp z
        omega
      have ea : Int32.ofNat (a * 20) + Int32.ofNat n = Int32.ofNat (a * 20 + n) := (Int32.ofNat_add _ _).symm
      have ex : Int32.ofNat (x * 20) + Int32.ofNat n = Int32.ofNat (x * 20 + n) := (Int32.ofNat_add _ _).symm
      have va : ∀ {k : Nat}, k = 12800 → vp_in (Int32.ofNat (a * 20 + n)) k := fun e => by rw [e]; exact vp_of (by omega) (by decide)
      have vx : ∀ {k : Nat}, k = 12800 → vp_in (Int32.ofNat (x * 20 + n)) k := fun e => by rw [e]; exact vp_of (by omega) (by decide)
      have ga : mAI M1 28 (a * 20 + n) = P 28 (a * 20 + n) := (R1.1 28 _ w28).trans ((enP_i (by omega)).trans (r1 n (Nat.le_refl _)))
      have gx : mAI M1 28 (x * 20 + n) = P 28 (x * 20 + n) := (R1.1 28 _ w28).trans (enP_x (by omega) hne)
      refine VX9_orAll_2 ?_
      unfold DX9_orAll_2
      rw [ea, ex, lt32 (by omega), lt32 (by omega)]
      refine ⟨fun z => absurd z nle, fun _ => ⟨ok21 F1, 28, rf21_7 F1, n0 + 8, h81, 28, rf21_7 F1, ok28 F1, va (ln28 F1), 28, rf21_7 F1, ok28 F1, vx (ln28 F1), o81, ?_⟩⟩
      rw [ga, gx]
      refine W_or (h := h) hB W1 (by omega) ((hka n (by omega)).gr G1) ((hkx n (by omega)).gr G1) (fun M9 Ψ9 r10 W9 O9 G9 L9 k10 s10 _ => ⟨_, rfl, ?_⟩)
      obtain ⟨F9, -, -, -, hRo9, -⟩ := W9.sees hB
      refine ⟨ok28 F9, va (ln28 F9), fun M12 e12 => ?_⟩
      rw [succ32]
      refine ih (n + 1) M12 Ψ9 (va_up kv n r10) (by omega) (W9.wr hB w28 e12) (((R1.ob O9).up e12).cg (fun c j _ => enP_k (by omega) c j)) (G1.tr G9 (fun _ _ z => z)) ⟨by omega, by omega, ?_⟩ (fun k hk => ?_) (fun k hk => ?_) (fun w HV g k hk => ?_)
      · have u := sz_up (f := kv) (j := n) (v := r10) 20 (by omega)
        rw [r1 n (Nat.le_refl _)] at u
        show Ψ9.1.length + szN (va_up kv n r10) 20 ≤ Ψ.1.length + nk P a + (szN (fun k => P 28 (x * 20 + k)) n + nz (P 28 (x * 20 + n)))
        obtain ⟨-, -, L1⟩ := L1
        obtain ⟨-, -, L9⟩ := L9
        omega
      · by_cases z : k = n
        · rw [z, va_up_self]; exact k10
        · rw [va_up_ne _ _ z]; exact (o1 k hk).gr G9
      · rw [va_up_ne _ _ (by omega)]; exact r1 k (by omega)
      · by_cases z : k = n
        · rw [z, va_up_self]; exact s10 w HV g
        · rw [va_up_ne _ _ z]
          exact s1 w HV (g.bk G9 hRo1 hRo9 (fun _ _ y => y.elim)) k (by omega)
  refine KX9_orAll ?_
  unfold DX9_orAll_0
  exact main 20 0 M Ψ (fun n => P 28 (a * 20 + n)) (by omega) hW (hP.cg (fun c j _ => enP_id)) Gr.rf ⟨by omega, rfl, Nat.le_refl _⟩ hka (fun _ _ => rfl) (fun _ _ _ k hk => absurd hk (Nat.not_lt_zero _))
/-- a loop or a trap is closed -/
def ClQ (Ψ : Wg) (l : Nat) (f : (Nat → Nat) → Nat) : Prop := ∃ lc, Ψ.1.getD l (0, 0) = (lc, lc) ∧ lc < 2 * Ψ.1.length ∧ ∀ w HV, gW Ψ w HV → lvN w lc = f w
theorem ClQ.gr {C : Nat → Prop} {l : Nat} {f : (Nat → Nat) → Nat} (hq : ClQ Ψ l f) (g : Gr C Ψ Ψ') (hl : l < Ψ.1.length) (hC : ¬ C l) (hR : RoW Ψ) (hR' : RoW Ψ') (hC0 : ∀ n, n < Ψ.1.length → C n → (Ψ.2.1.getD n (0, 0)).1 ≠ 0) : ClQ Ψ' l f := by
  obtain ⟨lc, h1, h2, h3⟩ := hq
  exact ⟨lc, by rw [g.2.1 l hl hC]; exact h1, by have := g.1; omega, fun w HV k => h3 w HV (k.bk g hR hR' hC0)⟩
theorem W_lvT {l : Nat} (hB : WvB n0 l0 r0 M0) (hW : WvP n0 l0 r0 N0 Θ M0 Ψ M) (hP : RwP n0 P zp M) (hlim : Ψ.1.length < 99900) (ha : a < 640) (hx : x < 640) (hne : x ≠ a) (hka : ∀ n, n < 20 → okI Ψ (P 28 (a * 20 + n))) (hkx : ∀ n, n < 20 → okI Ψ (P 28 (x * 20 + n))) (hkl : okI Ψ (P 25 a)) (ho : P 26 a = Int32.ofNat (2 * l)) (hl : l < Ψ.1.length) (hr : (Ψ.2.1.getD l (0, 0)).1 ≠ 0 ∧ (Ψ.2.1.getD l (0, 0)).1 ≠ 6) (K : ∀ M' Ψ' kv, WvP n0 l0 r0 N0 Θ M0 Ψ' M' → RwP n0 (enP P a kv) zp M' → Gr (fun z => z = l) Ψ Ψ' → (Ψ'.1.length ≤ Ψ.1.length + 2 ∧ Ψ'.2.2.length = Ψ.2.2.length ∧ Ψ'.1.length + szN kv 20 ≤ Ψ.1.length + nk P a + nk P x + 1) → (∀ n, n < 20 → okI Ψ' (kv n)) → ClQ Ψ' l (fun w => v3O (lV w (P 25 a)) (lV w (P 28 (x * 20 + 2)))) → (∀ w HV, gW Ψ' w HV → ∀ n, n < 20 → lV w (kv n) = ltV n (fun j => lV w (P 28 (a * 20 + j))) (fun j => lV w (P 28 (x * 20 + j)))) → Q none M') : E (h + 6) mdX9_leaveTrap [.ref 21, .int (Int32.ofNat a), .int (Int32.ofNat (x * 20))] M Q := by
  obtain ⟨F, hT, h8, o8, hRo, l1, hRf, hE0⟩ := hW.sees hB
  have w28 : wvC n0 28 := Or.inl (by omega)
  have w26 : wvC n0 26 := Or.inl (by omega)
  have w25 : wvC n0 25 := Or.inl (by omega)
  have va : ∀ {k : Nat}, k = 640 → vp_in (Int32.ofNat a) k := fun e => by rw [e]; exact vp_of ha (by decide)
  have vxn : ∀ {k n : Nat}, k = 12800 → n < 20 → vp_in (Int32.ofNat (x * 20 + n)) k := fun e hn => by rw [e]; exact vp_of (by omega) (by decide)
  have van : ∀ {k n : Nat}, k = 12800 → n < 20 → vp_in (Int32.ofNat (a * 20 + n)) k := fun e hn => by rw [e]; exact vp_of (by omega) (by decide)
  have la : (Int32.ofNat a).toNatClampNeg = a := lt32 (by omega)
  have ex2 : Int32.ofNat (x * 20) + 2 = Int32.ofNat (x * 20 + 2) := (Int32.ofNat_add _ _).symm
  have ex1 : Int32.ofNat (x * 20) + 1 = Int32.ofNat (x * 20 + 1) := (Int32.ofNat_add _ _).symm
  have ea : Int32.ofNat a * 20 = Int32.ofNat (a * 20) := by rw [Int32.ofNat_mul]; rfl
  have ea1 : Int32.ofNat (a * 20) + 1 = Int32.ofNat (a * 20 + 1) := (Int32.ofNat_add _ _).symm
  have lx0 : (Int32.ofNat (x * 20)).toNatClampNeg = x * 20 := lt32 (by omega)
  have la0 : (Int32.ofNat (a * 20)).toNatClampNeg = a * 20 := lt32 (by omega)
  have lx2 : (Int32.ofNat (x * 20 + 2)).toNatClampNeg = x * 20 + 2 := lt32 (by omega)
  have lx1 : (Int32.ofNat (x * 20 + 1)).toNatClampNeg = x * 20 + 1 := lt32 (by omega)
  have la1 : (Int32.ofNat (a * 20 + 1)).toNatClampNeg = a * 20 + 1 := lt32 (by omega)
  have g26 : mAI M 26 a = Int32.ofNat (2 * l) := (hP.1 26 a w26).trans ho
  have g25 : mAI M 25 a = P 25 a := hP.1 25 a w25
  have gx2 : mAI M 28 (x * 20 + 2) = P 28 (x * 20 + 2) := hP.1 28 _ w28
  refine KX9_leaveTrap (h := h + 5) ?_
  unfold DX9_leaveTrap_0
  rw [ex2, ex1, ea, ea1, la, lx2, lx0, la0, lx1, la1]
  refine ⟨ok21 F, n0 + 8, h8, 26, rf21_5 F, ok26 F, va (ln26 F), n0 + 8, h8, 25, rf21_4 F, ok25 F, va (ln25 F), 28, rf21_7 F, ok28 F, vxn (ln28 F) (by decide), o8, ?_⟩
  rw [g26, g25, gx2]
  refine W_or (h := h) hB hW (by omega) hkl (hkx 2 (by decide)) (fun M11 Ψ11 r12 W11 O11 G11 L11 k12 s12 _ => ⟨_, rfl, ?_⟩)
  obtain ⟨F11, -, -, o811, hRo11, -⟩ := W11.sees hB
  obtain ⟨lc, ec, hlc⟩ := k12
  have hr11 : (Ψ11.2.1.getD l (0, 0)).1 ≠ 0 ∧ (Ψ11.2.1.getD l (0, 0)).1 ≠ 6 := by rw [G11.2.2.1 l hl]; exact hr
  rw [ec]
  refine ⟨o811, W_close (h := h + 4) hB W11 (by omega) (by have := G11.1; omega) hr11 hlc (fun M14 Ψ14 W14 O14 G14 L14 d14 e14 _ => ⟨rfl, ?_⟩)⟩
  obtain ⟨F14, -, h814, o814, hRo14, -⟩ := W14.sees hB
  have P14 := (hP.ob O11).ob O14
  have gx0 : mAI M14 28 (x * 20) = P 28 (x * 20 + 0) := P14.1 28 _ w28
  have gx2' : mAI M14 28 (x * 20 + 2) = P 28 (x * 20 + 2) := P14.1 28 _ w28
  have c0 : ∀ n, n < Ψ11.1.length → n = l → (Ψ11.2.1.getD n (0, 0)).1 ≠ 0 := fun n _ e => by rw [e]; exact hr11.1
  have gg : Gr (fun z => z = l) Ψ Ψ14 := (G11.more (fun _ _ z => z.elim)).tr G14 (fun _ _ z => z)
  refine ⟨28, rf21_7 F14, n0 + 8, h814, 28, rf21_7 F14, ok28 F14, vxn (n := 0) (ln28 F14) (by decide), 28, rf21_7 F14, ok28 F14, vxn (ln28 F14) (by decide), o814, ?_⟩
  rw [gx0, gx2']
  refine W_or (h := h) hB W14 (by omega) ((hkx 0 (by decide)).gr gg) ((hkx 2 (by decide)).gr gg) (fun M22 Ψ22 r23 W22 O22 G22 L22 k23 s23 _ => ⟨_, rfl, ?_⟩)
  obtain ⟨F22, -, -, -, hRo22, -⟩ := W22.sees hB
  have GG : Gr (fun z => z = l) Ψ Ψ22 := gg.tr G22 (fun _ _ z => z.elim)
  refine ⟨ok28 F22, van (n := 0) (ln28 F22) (by decide), fun M25 e25 => ?_⟩
  have W25 := W22.wr hB w28 e25
  obtain ⟨F25, -⟩ := W25.sees hB
  have P25 := (((P14.ob O22).cg (P' := enP P a (fun n => P 28 (a * 20 + n))) (fun c j _ => enP_id)).up e25).cg (fun c j _ => enP_k (n := 0) (by decide) c j)
  have gx1 : mAI M25 28 (x * 20 + 1) = P 28 (x * 20 + 1) := (P25.1 28 _ w28).trans (enP_x (by decide) hne)
  refine ⟨28, rf21_7 F25, 28, rf21_7 F25, ok28 F25, vxn (ln28 F25) (by decide), ok28 F25, van (ln28 F25) (by decide), fun M30 e30 => ?_⟩
  rw [gx1] at e30
  have W30 := W25.wr hB w28 e30
  have P30 := (P25.up e30).cg (fun c j _ => enP_k (n := 1) (by decide) c j)
  have cq : ClQ Ψ22 l (fun w => v3O (lV w (P 25 a)) (lV w (P 28 (x * 20 + 2)))) := by
    refine ClQ.gr (Ψ := Ψ14) (C := noN) ⟨lc, d14, by rw [L14]; exact hlc, fun w HV g => ?_⟩ G22 (by rw [L14]; have := G11.1; omega) (fun z => z) hRo14 hRo22 (fun _ _ z => z.elim)
    have b11 := g.bk G14 hRo11 hRo14 c0
    have := s12 w HV b11
    rw [ec, lV_of (by have := G11.1; omega)] at this
    exact this
  have main : ∀ (d n : Nat) (M1 : Mem) (kv : Nat → Int32), n + d = 19 → 2 ≤ n → WvP n0 l0 r0 N0 Θ M0 Ψ22 M1 → RwP n0 (enP P a kv) zp M1 → (∀ k, k < 20 → okI Ψ22 (kv k)) → (∀ k, n ≤ k → kv k = P 28 (a * 20 + k)) → (kv 0 = r23 ∧ kv 1 = P 28 (x * 20 + 1) ∧ ∀ k, 2 ≤ k → k < n → kv k = P 28 (x * 20 + (k + 1))) → (∀ w HV, gW Ψ22 w HV → ∀ k, k < n → lV w (kv k) = ltV k (fun j => lV w (P 28 (a * 20 + j))) (fun j => lV w (P 28 (x * 20 + j)))) → T (h + 6) mdX9_leaveTrap 85 [(0, .ref 21), (2, .int (Int32.ofNat (x * 20))), (3, .int (Int32.ofNat (a * 20))), (4, .int (Int32.ofNat n))] [] M1 Q := by
    intro d
    induction d with
    | zero =>
      intro n M1 kv hn h2 W1 R1 o1 r1 v1 s1
      have e : n = 19 := by omega
      subst e
      refine VX9_leaveTrap_85 ?_
      unfold DX9_leaveTrap_85
      refine ⟨fun _ => K M1 Ψ22 kv W1 R1 GG ⟨by omega, by rw [L22.2.1, e14]; exact L11.2.1, ?_⟩ o1 cq (fun w HV g k hk => ?_), fun z => absurd (by decide) z⟩
      · have a1 : szN kv 19 + szN (fun k => P 28 (x * 20 + k)) 3 = szN kv 2 + szN (fun k => P 28 (x * 20 + k)) 20 := sz_sh (f := kv) (g := fun k => P 28 (x * 20 + k)) 17 (fun k k1 k2 => v1.2.2 k k1 (by omega))
        have a2 : szN kv 20 = szN kv 19 + nz (kv 19) := rfl
        have a3 : szN kv 2 = 0 + nz (kv 0) + nz (kv 1) := rfl
        have a4 : szN (fun k => P 28 (x * 20 + k)) 3 = 0 + nz (P 28 (x * 20 + 0)) + nz (P 28 (x * 20 + 1)) + nz (P 28 (x * 20 + 2)) := rfl
        have a5 : nk P a = szN (fun k => P 28 (a * 20 + k)) 19 + nz (P 28 (a * 20 + 19)) := rfl
        have a6 : nk P x = szN (fun k => P 28 (x * 20 + k)) 20 := rfl
        rw [r1 19 (Nat.le_refl _)] at a2
        rw [v1.1, v1.2.1] at a3
        have b1 := L22.2.2
        have b2 := L11.1
        rw [L14] at b1
        clear L22 L11
        omega
      by_cases z : k = 19
      · rw [z, r1 19 (Nat.le_refl _)]
        unfold ltV
        rw [if_neg (by decide), if_neg (by decide), if_neg (by decide)]
      · exact s1 w HV g k (by omega)
    | succ d ih =>
      intro n M1 kv hn h2 W1 R1 o1 r1 v1 s1
      obtain ⟨F1, -, h81, o81, hRo1, -⟩ := W1.sees hB
      have nle : ¬ (20 : Int32) ≤ Int32.ofNat n + 1 := fun z => by
        rw [succ32] at z
        have := (le32 (a := 20) (by decide) (by omega)).mp z
        omega
      have ea' : Int32.ofNat (a * 20) + Int32.ofNat n = Int32.ofNat (a * 20 + n) := (Int32.ofNat_add _ _).symm
      have ex' : Int32.ofNat (x * 20) + Int32.ofNat n + 1 = Int32.ofNat (x * 20 + (n + 1)) := by rw [← Int32.ofNat_add, succ32]; rfl
      have gx : mAI M1 28 (x * 20 + (n + 1)) = P 28 (x * 20 + (n + 1)) := (R1.1 28 _ w28).trans (enP_x (by omega) hne)
      refine VX9_leaveTrap_85 ?_
      unfold DX9_leaveTrap_85
      rw [ea', ex', lt32 (by omega), lt32 (by omega), succ32]
      rw [succ32] at nle
      refine ⟨fun z => absurd z nle, fun _ => ⟨ok21 F1, 28, rf21_7 F1, 28, rf21_7 F1, ok28 F1, vxn (ln28 F1) (by omega), ok28 F1, van (ln28 F1) (by omega), fun M6 e6 => ?_⟩⟩
      rw [gx] at e6
      refine ih (n + 1) M6 (va_up kv n (P 28 (x * 20 + (n + 1)))) (by omega) (by omega) (W1.wr hB w28 e6) ((R1.up e6).cg (fun c j _ => enP_k (by omega) c j)) (fun k hk => ?_) (fun k hk => ?_) ⟨by rw [va_up_ne _ _ (by omega)]; exact v1.1, by rw [va_up_ne _ _ (by omega)]; exact v1.2.1, fun k k1 k2 => ?_⟩ (fun w HV g k hk => ?_)
      · by_cases z : k = n
        · rw [z, va_up_self]; exact (hkx (n + 1) (by omega)).gr GG
        · rw [va_up_ne _ _ z]; exact o1 k hk
      · rw [va_up_ne _ _ (by omega)]; exact r1 k (by omega)
      · by_cases z : k = n
        · rw [z, va_up_self]
        · rw [va_up_ne _ _ z]; exact v1.2.2 k k1 (by omega)
      · by_cases z : k = n
        · rw [z, va_up_self]
          unfold ltV
          rw [if_neg (by omega), if_neg (by omega), if_pos (by omega)]
        · rw [va_up_ne _ _ z]
          exact s1 w HV g k (by omega)
  refine main 17 2 M30 _ (by omega) (by omega) W30 P30 (fun k hk => ?_) (fun k hk => ?_) ⟨by rw [va_up_ne _ _ (by decide), va_up_self], by rw [va_up_self], fun k k1 k2 => absurd k2 (by omega)⟩ (fun w HV g k hk => ?_)
  · by_cases z1 : k = 1
    · rw [z1, va_up_self]; exact (hkx 1 (by decide)).gr GG
    · rw [va_up_ne _ _ z1]
      by_cases z0 : k = 0
      · rw [z0, va_up_self]; exact k23
      · rw [va_up_ne _ _ z0]; exact (hka k hk).gr GG
  · rw [va_up_ne _ _ (by omega), va_up_ne _ _ (by omega)]
  · by_cases z1 : k = 1
    · rw [z1, va_up_self]; rfl
    · have z0 : k = 0 := by omega
      rw [z0, va_up_ne _ _ (by decide), va_up_self, s23 w HV g]
      rfl
end
