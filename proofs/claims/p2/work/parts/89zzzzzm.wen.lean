/-! the weaver enters a node -/
def enV (k : Int32) (cd n go rs hv : Nat) : Nat := if k = 1 then (if n = 0 then v3A rs hv else if n = 1 then go else 0) else if k = 3 then (if n = cd then go else 0) else if k = 0 ∨ k = 2 ∨ k = 5 then (if n = 0 then go else 0) else 0
/-- the codes' wires of x are kv -/
def enP (P : Nat → Nat → Int32) (x : Nat) (kv : Nat → Int32) : Nat → Nat → Int32 := fun c j => if c = 28 ∧ x * 20 ≤ j ∧ j < x * 20 + 20 then kv (j - x * 20) else P c j
def mx12 (z : Int32) (cd : Nat) : Int32 := if z < Int32.ofNat cd + 1 then Int32.ofNat cd + 1 else z
def EnC (k : Int32) (Ψ : Wg) (n : Nat) : Prop := (k = 6 ∨ k = 9) ∧ n = Ψ.1.length
/-- what entering x does beside its codes -/
def EnR (Ψ Ψ' : Wg) (n0 : Nat) (k : Int32) (cd x : Nat) (P P1 : Nat → Nat → Int32) (zp zp' : Int32) : Prop := (k = 1 ∧ P1 = up2 (up2 (up2 P (n0 + 17) cd (P 22 x)) (n0 + 18) cd (P 24 x)) (n0 + 19) cd (P 25 x) ∧ zp' = mx12 zp cd) ∨ (k = 2 ∧ zp' = zp ∧ ∃ e, P1 = up2 P (n0 + 21) cd e ∧ okI Ψ' e ∧ ∀ w HV, gW Ψ' w HV → lV w e = v3O (lV w (P (n0 + 21) cd)) (lV w (P 22 x))) ∨ ((k = 6 ∨ k = 9) ∧ zp' = zp ∧ ∃ l, l = Ψ.1.length ∧ l < Ψ'.1.length ∧ P1 = up2 P 26 x (Int32.ofNat (2 * l)) ∧ rlC Ψ'.2.1 (2 * l) (if k = 6 then 7 else 8) x) ∨ ((k ≠ 1 ∧ k ≠ 2 ∧ k ≠ 6 ∧ k ≠ 9) ∧ P1 = P ∧ zp' = zp)
section
variable {n0 l0 r0 N0 : Nat} {Θ : TrT} {M0 M M' : Mem} {Ψ Ψ' : Wg} {h : Nat} {Q : Option Value → Mem → Prop} {P P1 : Nat → Nat → Int32} {zp : Int32} {x : Nat} {kv : Nat → Int32}
theorem RwP.fil {z v : Int32} {a b : Nat} (h : RwP n0 P z M) (e : FilR M M' 28 (x * 20) (x * 20 + 20) v) (w28 : wvC n0 28) : RwP n0 (enP P x (fun _ => v)) z M' := by
  refine ⟨fun c j hc => ?_, by rw [e.2.1.1]; exact h.2⟩
  unfold enP
  by_cases z1 : c = 28
  · rw [z1, e.2.2.2 j]
    unfold filF
    by_cases z2 : x * 20 ≤ j ∧ j < x * 20 + 20
    · rw [if_pos z2, if_pos ⟨rfl, z2⟩]
    · rw [if_neg z2, if_neg (fun y => z2 y.2)]
      exact h.1 28 j w28
  · rw [if_neg (fun y => z1 y.1), e.2.2.1 c z1]
    exact h.1 c j hc
theorem enP_k {n : Nat} {v : Int32} (hn : n < 20) (c j : Nat) : enP P x (va_up kv n v) c j = up2 (enP P x kv) 28 (x * 20 + n) v c j := by
  show (if c = 28 ∧ x * 20 ≤ j ∧ j < x * 20 + 20 then va_up kv n v (j - x * 20) else P c j) = if c = 28 ∧ j = x * 20 + n then v else (if c = 28 ∧ x * 20 ≤ j ∧ j < x * 20 + 20 then kv (j - x * 20) else P c j)
  by_cases z : c = 28 ∧ x * 20 ≤ j ∧ j < x * 20 + 20
  · rw [if_pos z, if_pos z]
    by_cases y : j = x * 20 + n
    · rw [if_pos ⟨z.1, y⟩, y, show x * 20 + n - x * 20 = n by omega, va_up_self]
    · rw [if_neg (fun q => y q.2), va_up_ne _ _ (by omega)]
  · rw [if_neg z, if_neg z]
    by_cases y : c = 28 ∧ j = x * 20 + n
    · exact absurd ⟨y.1, by omega, by omega⟩ z
    · rw [if_neg y]
theorem enP_o {cc i : Nat} {v : Int32} (hc : cc ≠ 28) (c j : Nat) : enP (up2 P cc i v) x kv c j = up2 (enP P x kv) cc i v c j := by
  show (if c = 28 ∧ x * 20 ≤ j ∧ j < x * 20 + 20 then kv (j - x * 20) else (if c = cc ∧ j = i then v else P c j)) = if c = cc ∧ j = i then v else (if c = 28 ∧ x * 20 ≤ j ∧ j < x * 20 + 20 then kv (j - x * 20) else P c j)
  by_cases z : c = 28 ∧ x * 20 ≤ j ∧ j < x * 20 + 20
  · rw [if_pos z, if_pos z, if_neg (fun y => hc (y.1.symm.trans z.1))]
  · rw [if_neg z, if_neg z]
theorem enP_n {c j : Nat} (hc : c ≠ 28) : enP P x kv c j = P c j := by unfold enP; rw [if_neg (fun y => hc y.1)]
theorem WvP.wi {f : Nat} {v : Int32} (hW : WvP n0 l0 r0 N0 Θ M0 Ψ M) (hB : WvB n0 l0 r0 M0) (hf : f = 12 ∨ f = 16) (e : M' = wI M (n0 + 8) f v) : WvP n0 l0 r0 N0 Θ M0 Ψ M' := by
  obtain ⟨lc, rc, b1, b2, hl, ⟨F, hT, h8⟩, hC, ⟨hlc, hrc⟩, ⟨hA1, hA2, hAl⟩, hbb, hF, hRo, hh, hm⟩ := hW
  obtain ⟨⟨n1, n2⟩, -⟩ := hB
  have hE : mE M M' := by rw [e]; exact mE_wI
  have o8 := hC.1
  have frk : fr (fun d => d = n0 + 8) M M' := by rw [e]; exact fr_wI rfl
  have al : ∀ {a b : Nat} {xs : List Int32}, a = n0 + 13 ∨ a = n0 + 14 → ALi M a b xs → ALi M' a b xs := by
    intro a b xs ha hA
    refine hA.fr frk (fun z => by omega) (fun hb z => ?_) (fun d _ z w => ?_)
    · rw [z, o8.2] at hb; exact absurd hb (by decide)
    · rw [z, o8.2] at w; exact absurd w (by decide)
  obtain ⟨c1, c2, c3, c4, c5, c6, c7, c8, c9, c10⟩ := hC
  refine ⟨lc, rc, b1, b2, hl, ⟨by rw [e]; exact F.i, hT.low (fun d z => frk.2 d (by have := hF.1.1.1; omega) (by omega)), by rw [e]; exact h8⟩, ⟨by rw [e]; exact c1, by rw [e]; exact c2, by rw [e]; exact c3, by rw [e]; exact c4, by rw [e]; exact c5, ?_, by rw [e]; exact c7, fun j hj => by rw [e]; exact c8 j hj, c9, c10⟩, ⟨hlc, hrc⟩, ⟨al (Or.inl rfl) hA1, al (Or.inr rfl) hA2, hAl⟩, hbb, hF.tr frk (fun d _ z => Or.inr (Or.inl z)) (fun g z1 z2 z3 => ?_) (fun g _ _ => by rw [e]; rfl), hRo, hh, by unfold RmW at hm ⊢; rw [e]; exact hm⟩
  · rw [e, mI_wI, if_neg (by omega)]; exact c6
  · rw [e, mI_wI, if_neg (by omega)]
theorem RwP.wi {v : Int32} (h : RwP n0 P zp M) (e : M' = wI M (n0 + 8) 12 v) : RwP n0 P v M' := ⟨fun c j hc => by rw [e]; exact h.1 c j hc, by rw [e]; exact mI_own _ _ _ _⟩
theorem W_addP {cd : Nat} {g s k : Int32} (hB : WvB n0 l0 r0 M0) (hW : WvP n0 l0 r0 N0 Θ M0 Ψ M) (hP : RwP n0 P zp M) (hc : cd < 24) (K : ∀ M', WvP n0 l0 r0 N0 Θ M0 Ψ M' → RwP n0 (up2 (up2 (up2 P (n0 + 17) cd g) (n0 + 18) cd s) (n0 + 19) cd k) (mx12 zp cd) M' → Q none M') : E (h + 1) mdX0_addPause [.ref (n0 + 8), .int (Int32.ofNat cd), .int g, .int s, .int k] M Q := by
  obtain ⟨F, hT, h8, o8, hRo, l1, hRf, hE0⟩ := hW.sees hB
  obtain ⟨⟨n1, n2⟩, -, ⟨-, -, f9, f10, f11, -⟩, n8, -⟩ := id hB
  have lc : (Int32.ofNat cd).toNatClampNeg = cd := lt32 (by omega)
  have rr : ∀ {Mi : Mem} {f v : Nat}, WvP n0 l0 r0 N0 Θ M0 Ψ Mi → f ≠ 0 → f ≠ 1 → mR M0 (n0 + 8) f = some v → mR Mi (n0 + 8) f = some v := fun W z1 z2 e => by
    obtain ⟨-, -, -, -, -, -, q, -⟩ := W.sees hB
    rw [q _ z1 z2]; exact e
  have oo : ∀ {Mi : Mem} {q : Nat}, WvP n0 l0 r0 N0 Θ M0 Ψ Mi → q = 17 ∨ q = 18 ∨ q = 19 → ok Mi (n0 + q) 21 ∧ mL Mi (n0 + q) = 24 := fun W z => by
    obtain ⟨-, -, -, -, -, -, -, q⟩ := W.sees hB
    have y := n8 _ z
    exact ⟨ok_E y.1 q, ((q.2.2 _ y.1.1).2).trans y.2⟩
  have vc : vp_in (Int32.ofNat cd) 24 := vp_of hc (by decide)
  refine KX0_addPause ?_
  unfold DX0_addPause_0 DX0_addPause_45
  rw [lc]
  refine ⟨o8, n0 + 17, rr hW (by decide) (by decide) f9, (oo hW (Or.inl rfl)).1, fun z => ?_, fun _ => ⟨n0 + 17, rr hW (by decide) (by decide) f9, (oo hW (Or.inl rfl)).1, by rw [(oo hW (Or.inl rfl)).2]; exact vc, fun M6 e6 => ?_⟩⟩
  · rw [(oo hW (Or.inl rfl)).2] at z
    have := (le32 (by decide) (by omega)).mp z
    omega
  have W6 := hW.wr hB (Or.inr (Or.inl (by omega))) e6
  have P6 := hP.up e6
  refine ⟨n0 + 18, rr W6 (by decide) (by decide) f10, (oo W6 (Or.inr (Or.inl rfl))).1, by rw [(oo W6 (Or.inr (Or.inl rfl))).2]; exact vc, fun M9 e9 => ?_⟩
  have W9 := W6.wr hB (Or.inr (Or.inl (by omega))) e9
  have P9 := P6.up e9
  refine ⟨n0 + 19, rr W9 (by decide) (by decide) f11, (oo W9 (Or.inr (Or.inr rfl))).1, by rw [(oo W9 (Or.inr (Or.inr rfl))).2]; exact vc, fun M12 e12 M13 e13 => ?_⟩
  have W12 := W9.wr hB (Or.inr (Or.inl (by omega))) e12
  have P12 := P9.up e12
  rw [P12.2] at e13
  exact K M13 (W12.wi hB (Or.inl rfl) e13) (P12.wi e13)
/-- nets, codes and held masks that entering a node makes, by its kind -/
def eW (k : Int32) : Nat := if k = 1 then 4 else if k = 2 then 2 else 1
def eH (k : Int32) : Nat := if k = 1 then 1 else 0
theorem eW_1 : eW 1 = 4 := by decide
theorem eW_2 : eW 2 = 2 := by decide
theorem eH_1 : eH 1 = 1 := by decide
theorem eW_p {k : Int32} : 1 ≤ eW k := by unfold eW; split <;> (try split) <;> omega
theorem W_ent {cd : Nat} (hB : WvB n0 l0 r0 M0) (hW : WvP n0 l0 r0 N0 Θ M0 Ψ M) (hP : RwP n0 P zp M) (hlim : Ψ.1.length < 99900) (hx : x < 640) (hcd : Θ.2.2 11 x = Int32.ofNat cd) (c1 : Θ.2.2 5 x = 1 → cd < 24) (c2 : Θ.2.2 5 x = 2 → cd < 16 ∧ okI Ψ (P (n0 + 21) cd)) (c3 : Θ.2.2 5 x = 3 → cd < 20) (hg : okI Ψ (P 22 x)) (hr : okI Ψ (P 23 x)) (K : ∀ M' Ψ' P1 kv zp', WvP n0 l0 r0 N0 Θ M0 Ψ' M' → RwP n0 (enP P1 x kv) zp' M' → Gr (EnC (Θ.2.2 5 x) Ψ) Ψ Ψ' → (Ψ'.1.length ≤ Ψ.1.length + 2 ∧ Ψ'.2.2.length ≤ Ψ.2.2.length + eH (Θ.2.2 5 x) ∧ Ψ'.1.length + szN kv 20 ≤ Ψ.1.length + eW (Θ.2.2 5 x)) → EnR Ψ Ψ' n0 (Θ.2.2 5 x) cd x P P1 zp zp' → (∀ n, okI Ψ' (kv n)) → (∀ w HV, gW Ψ' w HV → ∀ n, lV w (kv n) = enV (Θ.2.2 5 x) cd n (lV w (P 22 x)) (lV w (P 23 x)) (HV (Θ.2.2 12 x))) → Q none M') : E (h + 9) mdX9_enter [.ref 21, .int (Int32.ofNat x)] M Q := by
  obtain ⟨F, hT, h8, o8, hRo, l1, hRf, hE0⟩ := hW.sees hB
  obtain ⟨⟨n1, n2⟩, -, ⟨-, -, f9, f10, f11, f14⟩, n8, ⟨n9, n10⟩, -⟩ := id hB
  have lx : (Int32.ofNat x).toNatClampNeg = x := lt32 (by omega)
  have w22 : wvC n0 22 := Or.inl (by omega)
  have w23 : wvC n0 23 := Or.inl (by omega)
  have w24 : wvC n0 24 := Or.inl (by omega)
  have w25 : wvC n0 25 := Or.inl (by omega)
  have w26 : wvC n0 26 := Or.inl (by omega)
  have w28 : wvC n0 28 := Or.inl (by omega)
  have w21 : wvC n0 (n0 + 21) := Or.inr (Or.inr rfl)
  have vx : ∀ {k : Nat}, k = 640 → vp_in (Int32.ofNat x) k := fun e => by rw [e]; exact vp_of hx (by decide)
  have e20 : Int32.ofNat x * 20 = Int32.ofNat (x * 20) := by rw [Int32.ofNat_mul]; rfl
  have e20n : ∀ n : Nat, Int32.ofNat (x * 20) + Int32.ofNat n = Int32.ofNat (x * 20 + n) := fun n => (Int32.ofNat_add _ _).symm
  have l20 : (Int32.ofNat (x * 20)).toNatClampNeg = x * 20 := lt32 (by omega)
  have v20 : ∀ {k n : Nat}, k = 12800 → n < 20 → vp_in (Int32.ofNat (x * 20 + n)) k := fun e hn => by rw [e]; exact vp_of (by omega) (by decide)
  have l28 : mL M 28 = 12800 := ln28 F
  have z0 : ∀ {Φ : Wg}, 1 ≤ Φ.1.length → okI Φ 0 := fun h => ⟨0, rfl, by omega⟩
  have lz : ∀ {Φ : Wg} {w : Nat → Nat} {HV : Int32 → Nat}, gW Φ w HV → lV w 0 = 0 := fun {Φ w HV} g => by
    have e : (0 : Int32) = Int32.ofNat 0 := rfl
    rw [e, lV_of (by decide), lR_0 g.1]
  refine KX9_enter (h := h + 8) ?_
  unfold DX9_enter_0 DX9_enter_255
  rw [e20, lx]
  refine ⟨ok21 F, 28, rf21_7 F, ?_⟩
  have e2020 : Int32.ofNat (x * 20) + 20 = Int32.ofNat (x * 20 + 20) := e20n 20
  rw [e2020]
  refine S_fill4 (h := h + 6) (ok28 F) (by omega) (by rw [l28]; omega) (by rw [l28]; decide) (fun M3 R3 _ => ⟨rfl, ?_⟩)
  have W3 := hW.fil hB w28 R3
  have P3 := hP.fil (a := 0) (b := 0) R3 w28
  obtain ⟨F3, hT3, h83, o83, -, -, hRf3, hE3⟩ := W3.sees hB
  clear R3
  have k5 : mAI M3 5 x = Θ.2.2 5 x := by rw [hT3.2.2.2.1 5 (by decide) (by decide)]
  have k11 : mAI M3 11 x = Int32.ofNat cd := by rw [hT3.2.2.2.1 11 (by decide) (by decide)]; exact hcd
  have g22 : mAI M3 22 x = P 22 x := (P3.1 22 x w22).trans (enP_n (by decide))
  have g23 : mAI M3 23 x = P 23 x := (P3.1 23 x w23).trans (enP_n (by decide))
  have g24 : mAI M3 24 x = P 24 x := (P3.1 24 x w24).trans (enP_n (by decide))
  have g25 : mAI M3 25 x = P 25 x := (P3.1 25 x w25).trans (enP_n (by decide))
  refine ⟨4, rf21_0 F3, ok4 F3, 11, rf4_6 F3, ok11 F3, vx (ln11 F3), 4, rf21_0 F3, ok4 F3, 5, rf4_0 F3, ok5 F3, vx (ln5 F3), ?_⟩
  rw [k5, k11, l20]
  -- a node that ends at once, and a row
  have one : ∀ (n : Nat), n < 20 → (Θ.2.2 5 x ≠ 1 ∧ Θ.2.2 5 x ≠ 2 ∧ Θ.2.2 5 x ≠ 6 ∧ Θ.2.2 5 x ≠ 9) → (∀ a b c k, enV (Θ.2.2 5 x) cd k a b c = if k = n then a else 0) → ∀ M16, M16 = wAI M3 28 (x * 20 + n) (mAI M3 22 x) → Q none M16 := by
    intro n hn ne hv M16 e16
    rw [g22] at e16
    refine K M16 Ψ P (va_up (fun _ => 0) n (P 22 x)) zp (W3.wr hB w28 e16) ((P3.up e16).cg (fun c j _ => enP_k hn c j)) Gr.rf ⟨by omega, Nat.le_add_right _ _, by have := sz_u1 (f := fun _ => 0) (j := n) (v := P 22 x) 20; rw [sz_0] at this; have := eW_p (k := Θ.2.2 5 x); omega⟩ (Or.inr (Or.inr (Or.inr ⟨ne, rfl, rfl⟩))) (fun k => ?_) (fun w HV g k => ?_)
    · by_cases z : k = n
      · rw [z, va_up_self]; exact hg
      · rw [va_up_ne _ _ z]; exact z0 l1
    · rw [hv]
      by_cases z : k = n
      · rw [z, va_up_self, if_pos rfl]
      · rw [va_up_ne _ _ z, if_neg z, lz g]
  have non : (Θ.2.2 5 x ≠ 1 ∧ Θ.2.2 5 x ≠ 2 ∧ Θ.2.2 5 x ≠ 6 ∧ Θ.2.2 5 x ≠ 9) → (∀ a b c k, enV (Θ.2.2 5 x) cd k a b c = 0) → Q none M3 := by
    intro ne hv
    refine K M3 Ψ P (fun _ => 0) zp W3 P3 Gr.rf ⟨by omega, Nat.le_add_right _ _, by rw [sz_0]; omega⟩ (Or.inr (Or.inr (Or.inr ⟨ne, rfl, rfl⟩))) (fun k => z0 l1) (fun w HV g k => ?_)
    rw [hv, lz g]
  have opn : (Θ.2.2 5 x = 6 ∨ Θ.2.2 5 x = 9) → E (h + 8) mdX0_fresh [.ref (n0 + 8)] M3 (fun r M69 => mE M3 M69 → ∃ r70 : Int32, r = some (.int r70) ∧ ok M69 26 21 ∧ vp_in (Int32.ofNat x) (mL M69 26) ∧ ∀ M72, M72 = wAI M69 26 x r70 → Q none M72) := by
    intro hk
    refine W_fresh (h := h + 4) (k := if Θ.2.2 5 x = 6 then 7 else 8) (x := x) hB W3 (by omega) (by split <;> decide) (by split <;> decide) (fun M69 Ψ69 W69 O69 G69 L69 q69 _ => ⟨_, rfl, ?_⟩)
    obtain ⟨F69, -, -, -, hRo69, l69, -⟩ := W69.sees hB
    refine ⟨ok26 F69, vx (ln26 F69), fun M72 e72 => ?_⟩
    refine K M72 Ψ69 (up2 P 26 x (Int32.ofNat (2 * Ψ.1.length))) (fun _ => 0) zp (W69.wr hB w26 e72) (((P3.ob O69).up e72).cg (fun c j _ => enP_o (by decide) c j)) (G69.more (fun _ _ z => ⟨hk, z⟩)) ⟨by omega, by omega, by rw [sz_0]; have := eW_p (k := Θ.2.2 5 x); omega⟩ (Or.inr (Or.inr (Or.inl ⟨hk, rfl, Ψ.1.length, rfl, by omega, rfl, q69⟩))) (fun k => z0 l69) (fun w HV g k => ?_)
    rw [lz g]
    unfold enV
    rcases hk with z | z <;> rw [z] <;> rfl
  have e28 : ∀ {k : Nat}, k = 12800 → vp_in (Int32.ofNat (x * 20)) k := fun e => v20 (n := 0) e (by decide)
  refine ⟨fun z => ⟨28, rf21_7 F3, 22, rf21_1 F3, ok22 F3, vx (ln22 F3), ok28 F3, e28 (ln28 F3), fun M16 e16 => one 0 (by decide) (by rw [z]; decide) (fun a b c k => ?_) M16 e16⟩, fun z => ?_, fun z => ?_, fun z => ?_, fun z => ?_, fun z => ?_, fun z => ?_, fun z => ?_, fun z => ?_, fun z => ?_, fun z => ?_⟩
  · rw [z]; unfold enV; rfl
  · -- a pause
    refine ⟨n0 + 8, h83, 22, rf21_1 F3, ok22 F3, vx (ln22 F3), 24, rf21_3 F3, ok24 F3, vx (ln24 F3), 25, rf21_4 F3, ok25 F3, vx (ln25 F3), o83, ?_⟩
    rw [g22, g24, g25]
    refine W_addP (h := h + 7) hB W3 P3 (c1 z) (fun M25 W25 P25 _ => ⟨rfl, ?_⟩)
    obtain ⟨F25, -⟩ := W25.sees hB
    have P25 : RwP n0 (enP (up2 (up2 (up2 P (n0 + 17) cd (P 22 x)) (n0 + 18) cd (P 24 x)) (n0 + 19) cd (P 25 x)) x (fun _ => 0)) (mx12 zp cd) M25 := P25.cg (fun c j _ => by
      rw [enP_o (by omega) c j]
      unfold up2
      by_cases y : c = n0 + 19 ∧ j = cd
      · rw [if_pos y, if_pos y]
      · rw [if_neg y, if_neg y]
        have := enP_o (P := up2 P (n0 + 17) cd (P 22 x)) (x := x) (kv := fun _ => 0) (cc := n0 + 18) (i := cd) (v := P 24 x) (by omega) c j
        unfold up2 at this
        rw [this]
        by_cases y2 : c = n0 + 18 ∧ j = cd
        · rw [if_pos y2, if_pos y2]
        · rw [if_neg y2, if_neg y2]
          have := enP_o (P := P) (x := x) (kv := fun _ => 0) (cc := n0 + 17) (i := cd) (v := P 22 x) (by omega) c j
          unfold up2 at this
          exact this)
    have r23 : mAI M25 23 x = P 23 x := (P25.1 23 x w23).trans (by rw [enP_n (by decide)]; unfold up2; rw [if_neg (by omega), if_neg (by omega), if_neg (by omega)])
    refine ⟨28, rf21_7 F25, W_res (h := h) hB W25 (by omega) hx (by rw [r23]; exact hr) (fun M27 Ψ27 r28 W27 O27 G27 L27 k28 s28 _ => ⟨_, rfl, ?_⟩)⟩
    obtain ⟨F27, -, -, -, hRo27, l27, -⟩ := W27.sees hB
    refine ⟨ok28 F27, e28 (ln28 F27), fun M30 e30 => ?_⟩
    have W30 := W27.wr hB w28 e30
    have P30 := ((P25.ob O27).up e30).cg (P' := enP (up2 (up2 (up2 P (n0 + 17) cd (P 22 x)) (n0 + 18) cd (P 24 x)) (n0 + 19) cd (P 25 x)) x (va_up (fun _ => 0) 0 r28)) (fun c j _ => enP_k (n := 0) (by decide) c j)
    obtain ⟨F30, -⟩ := W30.sees hB
    have g30 : mAI M30 22 x = P 22 x := (P30.1 22 x w22).trans (by rw [enP_n (by decide)]; unfold up2; rw [if_neg (by omega), if_neg (by omega), if_neg (by omega)])
    have e21 : Int32.ofNat (x * 20) + 1 = Int32.ofNat (x * 20 + 1) := e20n 1
    rw [e21, lt32 (show x * 20 + 1 < 2147483648 by omega)]
    refine ⟨28, rf21_7 F30, 22, rf21_1 F30, ok22 F30, vx (ln22 F30), ok28 F30, v20 (ln28 F30) (by decide), fun M35 e35 => ?_⟩
    rw [g30] at e35
    refine K M35 Ψ27 _ (va_up (va_up (fun _ => 0) 0 r28) 1 (P 22 x)) (mx12 zp cd) (W30.wr hB w28 e35) ((P30.up e35).cg (fun c j _ => enP_k (n := 1) (by decide) c j)) (G27.more (fun _ _ y => y.elim)) ⟨by omega, by rw [z, eH_1]; omega, by rw [z, eW_1]; have := sz_u1 (f := fun _ => 0) (j := 0) (v := r28) 20; have := sz_u1 (f := va_up (fun _ => 0) 0 r28) (j := 1) (v := P 22 x) 20; have := sz_0 20; omega⟩ (Or.inl ⟨z, rfl, rfl⟩) (fun k => ?_) (fun w HV g k => ?_)
    · by_cases q1 : k = 1
      · rw [q1, va_up_self]; exact hg.gr G27
      · rw [va_up_ne _ _ q1]
        by_cases q0 : k = 0
        · rw [q0, va_up_self]; exact k28
        · rw [va_up_ne _ _ q0]; exact z0 l27
    · rw [z]
      unfold enV
      rw [if_pos rfl]
      by_cases q1 : k = 1
      · rw [q1, va_up_self, if_neg (by decide), if_pos rfl]
      · rw [va_up_ne _ _ q1]
        by_cases q0 : k = 0
        · rw [q0, va_up_self, if_pos rfl, s28 w HV g, r23]
        · rw [va_up_ne _ _ q0, if_neg q0, if_neg q1, lz g]
  · -- an emission
    obtain ⟨c16, oe⟩ := c2 z
    have ge : mAI M3 (n0 + 21) cd = P (n0 + 21) cd := (P3.1 _ cd w21).trans (enP_n (by omega))
    have r14 : mR M3 (n0 + 8) 14 = some (n0 + 21) := (hRf3 14 (by decide) (by decide)).trans f14
    have o21' : ok M3 (n0 + 21) 21 := ok_E n9 hE3
    have vc : ∀ {k : Nat}, k = 16 → vp_in (Int32.ofNat cd) k := fun e => by rw [e]; exact vp_of c16 (by decide)
    rw [lt32 (show cd < 2147483648 by omega)]
    refine ⟨n0 + 8, h83, o83, n0 + 21, r14, n0 + 8, h83, n0 + 8, h83, o83, n0 + 21, r14, o21', vc ((hE3.2.2 _ n9.1).2.trans n10), 22, rf21_1 F3, ok22 F3, vx (ln22 F3), o83, ?_⟩
    rw [ge, g22]
    refine W_or (h := h + 3) hB W3 (by omega) oe hg (fun M47 Ψ47 r48 W47 O47 G47 L47 k48 s48 _ => ⟨_, rfl, ?_⟩)
    obtain ⟨F47, -, -, -, hRo47, l47, hRf47, hE47⟩ := W47.sees hB
    refine ⟨ok_E n9 hE47, vc ((hE47.2.2 _ n9.1).2.trans n10), fun M50 e50 => ?_⟩
    have W50 := W47.wr hB w21 e50
    have P50 := ((P3.ob O47).up e50).cg (P' := enP (up2 P (n0 + 21) cd r48) x (fun _ => 0)) (fun c j _ => enP_o (by omega) c j)
    obtain ⟨F50, -⟩ := W50.sees hB
    have g50 : mAI M50 22 x = P 22 x := (P50.1 22 x w22).trans (by rw [enP_n (by decide)]; unfold up2; rw [if_neg (by omega)])
    refine ⟨28, rf21_7 F50, 22, rf21_1 F50, ok22 F50, vx (ln22 F50), ok28 F50, e28 (ln28 F50), fun M55 e55 => ?_⟩
    rw [g50] at e55
    refine K M55 Ψ47 _ (va_up (fun _ => 0) 0 (P 22 x)) zp (W50.wr hB w28 e55) ((P50.up e55).cg (fun c j _ => enP_k (n := 0) (by decide) c j)) (G47.more (fun _ _ y => y.elim)) ⟨by omega, by omega, by rw [z, eW_2]; have := sz_u1 (f := fun _ => 0) (j := 0) (v := P 22 x) 20; have := sz_0 20; omega⟩ (Or.inr (Or.inl ⟨z, rfl, r48, rfl, k48, s48⟩)) (fun k => ?_) (fun w HV g k => ?_)
    · by_cases q0 : k = 0
      · rw [q0, va_up_self]; exact hg.gr G47
      · rw [va_up_ne _ _ q0]; exact z0 l47
    · rw [z]
      unfold enV
      rw [if_neg (by decide), if_neg (by decide), if_pos (Or.inr (Or.inl rfl))]
      by_cases q0 : k = 0
      · rw [q0, va_up_self, if_pos rfl]
      · rw [va_up_ne _ _ q0, if_neg q0, lz g]
  · -- an exit
    have c20 := c3 z
    rw [e20n cd, lt32 (by omega)]
    refine ⟨28, rf21_7 F3, 22, rf21_1 F3, ok22 F3, vx (ln22 F3), ok28 F3, v20 (ln28 F3) c20, fun M60 e60 => one cd c20 (by rw [z]; decide) (fun a b c k => ?_) M60 e60⟩
    rw [z]; unfold enV; rfl
  · exact non (by rw [z]; decide) (fun a b c k => by rw [z]; unfold enV; rfl)
  · refine ⟨28, rf21_7 F3, 22, rf21_1 F3, ok22 F3, vx (ln22 F3), ok28 F3, e28 (ln28 F3), fun M65 e65 => one 0 (by decide) (by rw [z]; decide) (fun a b c k => ?_) M65 e65⟩
    rw [z]; unfold enV; rfl
  · exact ⟨26, rf21_5 F3, n0 + 8, h83, o83, opn (Or.inl z)⟩
  · exact non (by rw [z]; decide) (fun a b c k => by rw [z]; unfold enV; rfl)
  · exact non (by rw [z]; decide) (fun a b c k => by rw [z]; unfold enV; rfl)
  · exact ⟨26, rf21_5 F3, n0 + 8, h83, o83, opn (Or.inr z)⟩
  · have ne : ∀ t : Int32, (0 ≤ t.toInt ∧ t.toInt ≤ 9) → Θ.2.2 5 x ≠ t := fun t ht e => by
      rw [e] at z
      omega
    refine non ⟨ne 1 (by decide), ne 2 (by decide), ne 6 (by decide), ne 9 (by decide)⟩ (fun a b c k => ?_)
    unfold enV
    rw [if_neg (ne 1 (by decide)), if_neg (ne 3 (by decide)), if_neg]
    rintro (y | y | y)
    · exact ne 0 (by decide) y
    · exact ne 2 (by decide) y
    · exact ne 5 (by decide) y
end
