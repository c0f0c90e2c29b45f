/-! rows are filled; the weaver's rows -/
def filF (f : Nat → Int32) (a b : Nat) (v : Int32) : Nat → Int32 := fun k => if a ≤ k ∧ k < b then v else f k
def FilR (M M' : Mem) (c a b : Nat) (v : Int32) : Prop := (mN M' = mN M ∧ mS M' = mS M ∧ mK M' = mK M ∧ mL M' = mL M) ∧ (mI M' = mI M ∧ mJ M' = mJ M ∧ mR M' = mR M ∧ mAJ M' = mAJ M ∧ mAR M' = mAR M) ∧ (∀ d, d ≠ c → mAI M' d = mAI M d) ∧ ∀ k, mAI M' c k = filF (mAI M c) a b v k
section
variable {M : Mem} {h : Nat} {Q : Option Value → Mem → Prop} {c a b : Nat} {v : Int32}
theorem FilR.rf : FilR M M c a a v := ⟨⟨rfl, rfl, rfl, rfl⟩, ⟨rfl, rfl, rfl, rfl, rfl⟩, fun _ _ => rfl, fun k => by unfold filF; rw [if_neg (by omega)]⟩
theorem FilR.st {M1 : Mem} {i : Nat} (h : FilR M M1 c a i v) (hi : a ≤ i) : FilR M (wAI M1 c i v) c a (i + 1) v := by
  obtain ⟨h1, h2, h3, h4⟩ := h
  refine ⟨h1, h2, fun d hd => ?_, fun k => ?_⟩
  · show up2 (mAI M1) c i v d = _
    rw [up2_row hd]; exact h3 d hd
  · show up2 (mAI M1) c i v c k = _
    by_cases z : k = i
    · rw [z, up2_eq]
      unfold filF
      rw [if_pos (by omega)]
    · rw [up2_ne (fun y => z y.2), h4 k]
      unfold filF
      by_cases y : a ≤ k ∧ k < i
      · rw [if_pos y, if_pos (by omega)]
      · rw [if_neg y, if_neg (by omega)]
theorem FilR.ok {M1 : Mem} (h : FilR M M1 c a b v) {d k : Nat} (o : ok M d k) : ok M1 d k := by
  obtain ⟨⟨h1, h2, h3, h4⟩, -⟩ := h
  exact ⟨by rw [h1]; exact o.1, by rw [h3]; exact o.2⟩
theorem C_rngC {L : Nat} (hab : a ≤ b) (hb : b ≤ L) (hL : L < 2147483648) : E (h + 1) mdJ7_rangeCheck_23922 [.int (Int32.ofNat L), .int (Int32.ofNat a), .int (Int32.ofNat b)] M (fun r M' => r = none ∧ M' = M) := by
  refine E.of (by decide) (Nat.le_of_ble_eq_true rfl) (fun _ _ _ => trivial) ?_
  show T _ _ 0 [(0, .int (Int32.ofNat L)), (1, .int (Int32.ofNat a)), (2, .int (Int32.ofNat b))] [] M _
  refine xt_iload_n (j := 1) dJ7_rangeCheck_23922_0 rfl rfl ?_
  refine xt_iload_n (j := 2) dJ7_rangeCheck_23922_1 rfl rfl ?_
  refine xt_icmp_le (tgt := 46) dJ7_rangeCheck_23922_2 (by decide) (fun _ => ?_) (fun z => absurd ((le32 (by omega) (by omega)).mpr hab) z)
  refine xt_iload_n (j := 1) dJ7_rangeCheck_23922_46 rfl rfl ?_
  refine xt_if_ge (tgt := 59) dJ7_rangeCheck_23922_47 (by decide) (fun _ => ?_) (fun z => absurd ((le32 (a := 0) (by decide) (by omega)).mpr (Nat.zero_le _)) z)
  refine xt_iload_n (j := 2) dJ7_rangeCheck_23922_59 rfl rfl ?_
  refine xt_iload_n (j := 0) dJ7_rangeCheck_23922_60 rfl rfl ?_
  refine xt_icmp_le (tgt := 73) dJ7_rangeCheck_23922_61 (by decide) (fun _ => ?_) (fun z => absurd ((le32 (by omega) (by omega)).mpr hb) z)
  exact xt_return dJ7_rangeCheck_23922_73 rfl ⟨rfl, rfl⟩
theorem S_fill4 (hc : ok M c 21) (hab : a ≤ b) (hb : b ≤ mL M c) (hL : mL M c < 2147483648) (H : ∀ M', FilR M M' c a b v → Q none M') : E (h + 2) mdJ7_fill_fda19 [.ref c, .int (Int32.ofNat a), .int (Int32.ofNat b), .int v] M Q := by
  refine E.of (by decide) (Nat.le_of_ble_eq_true rfl) (fun _ _ _ => trivial) ?_
  show T _ _ 0 [(0, .ref c), (1, .int (Int32.ofNat a)), (2, .int (Int32.ofNat b)), (3, .int v)] [] M _
  refine xt_aload_n (j := 0) dJ7_fill_fda19_0 rfl rfl ?_
  refine xt_alen dJ7_fill_fda19_1 hc.1 (Or.inr (Or.inl hc.2)) ?_
  refine xt_iload_n (j := 1) dJ7_fill_fda19_2 rfl rfl ?_
  refine xt_iload_n (j := 2) dJ7_fill_fda19_3 rfl rfl ?_
  refine xt_callS (h2 := h + 1) (as := [.int (Int32.ofNat (mL M c)), .int (Int32.ofNat a), .int (Int32.ofNat b)]) (st := []) dJ7_fill_fda19_4 (mlJ7_13 rfl) rfl (by simp) (Nat.le_refl _) (C_rngC (h := h) hab hb hL) (fun r M1 HH hE => ?_)
  obtain ⟨hr, hM⟩ := HH
  subst hr
  rw [hM]
  clear hM hE M1
  show T _ _ _ _ [] _ _
  refine xt_iload_n (j := 1) dJ7_fill_fda19_7 rfl rfl ?_
  refine xt_istore (lv' := [(4, .int (Int32.ofNat a)), (0, .ref c), (1, .int (Int32.ofNat a)), (2, .int (Int32.ofNat b)), (3, .int v)]) dJ7_fill_fda19_8 (by decide) rfl ?_
  have main : ∀ d i M1, i + d = b → a ≤ i → FilR M M1 c a i v → T (h + 2) mdJ7_fill_fda19 10 [(4, .int (Int32.ofNat i)), (0, .ref c), (1, .int (Int32.ofNat a)), (2, .int (Int32.ofNat b)), (3, .int v)] [] M1 Q := by
    intro d
    induction d with
    | zero =>
      intro i M1 hi ha hF
      have ei : i = b := by omega
      subst ei
      refine xt_iload (j := 0) dJ7_fill_fda19_10 rfl ?_
      refine xt_iload_n (j := 3) dJ7_fill_fda19_12 rfl rfl ?_
      refine xt_icmp_ge (tgt := 27) dJ7_fill_fda19_13 (by decide) (fun _ => ?_) (fun z => absurd Int32.le_rfl z)
      exact xt_return dJ7_fill_fda19_27 rfl (H M1 hF)
    | succ d ih =>
      intro i M1 hi ha hF
      have o1 := hF.ok hc
      refine xt_iload (j := 0) dJ7_fill_fda19_10 rfl ?_
      refine xt_iload_n (j := 3) dJ7_fill_fda19_12 rfl rfl ?_
      refine xt_icmp_ge (tgt := 27) dJ7_fill_fda19_13 (by decide) (fun z => ?_) (fun _ => ?_)
      · have := (le32 (by omega) (by omega)).mp z
        omega
      refine xt_aload_n (j := 1) dJ7_fill_fda19_16 rfl rfl ?_
      refine xt_iload (j := 0) dJ7_fill_fda19_17 rfl ?_
      refine xt_iload_n (j := 4) dJ7_fill_fda19_19 rfl rfl ?_
      refine xt_iast dJ7_fill_fda19_20 o1.1 o1.2 (by rw [hF.1.2.2.2]; exact vp_of (by omega) (by omega)) ?_
      rw [lt32 (by omega)]
      refine xt_iinc (j := 0) (v := Int32.ofNat (i + 1)) (lv' := [(4, .int (Int32.ofNat (i + 1))), (0, .ref c), (1, .int (Int32.ofNat a)), (2, .int (Int32.ofNat b)), (3, .int v)]) dJ7_fill_fda19_21 rfl (by rw [← succ32]; rfl) (by decide) rfl ?_
      refine xt_goto (tgt := 10) dJ7_fill_fda19_24 (by decide) ?_
      exact ih (i + 1) _ (by omega) (by omega) (hF.st ha)
  exact main (b - a) a M (by omega) (Nat.le_refl _) FilR.rf
theorem S_fill2 (hc : ok M c 21) (hL : mL M c < 2147483648) (H : ∀ M', FilR M M' c 0 (mL M c) v → Q none M') : E (h + 1) mdJ7_fill_53178 [.ref c, .int v] M Q := by
  refine E.of (by decide) (Nat.le_of_ble_eq_true rfl) (fun _ _ _ => trivial) ?_
  show T _ _ 0 [(0, .ref c), (1, .int v)] [] M _
  refine xt_iconst (v := 0) dJ7_fill_53178_0 (by decide) ?_
  refine xt_istore_n (lv' := [(2, .int 0), (0, .ref c), (1, .int v)]) dJ7_fill_53178_1 rfl (by decide) rfl ?_
  refine xt_aload_n (j := 1) dJ7_fill_53178_2 rfl rfl ?_
  refine xt_alen dJ7_fill_53178_3 hc.1 (Or.inr (Or.inl hc.2)) ?_
  refine xt_istore_n (lv' := [(3, .int (Int32.ofNat (mL M c))), (2, .int 0), (0, .ref c), (1, .int v)]) dJ7_fill_53178_4 rfl (by decide) rfl ?_
  refine xt_sub (lv' := [(2, .int 0), (3, .int (Int32.ofNat (mL M c))), (0, .ref c), (1, .int v)]) [1, 0, 2, 3] rfl ?_
  have main : ∀ d i M1, i + d = mL M c → FilR M M1 c 0 i v → T (h + 1) mdJ7_fill_53178 5 [(2, .int (Int32.ofNat i)), (3, .int (Int32.ofNat (mL M c))), (0, .ref c), (1, .int v)] [] M1 Q := by
    intro d
    induction d with
    | zero =>
      intro i M1 hi hF
      have ei : i = mL M c := by omega
      subst ei
      refine xt_iload_n (j := 0) dJ7_fill_53178_5 rfl rfl ?_
      refine xt_iload_n (j := 1) dJ7_fill_53178_6 rfl rfl ?_
      refine xt_icmp_ge (tgt := 20) dJ7_fill_53178_7 (by decide) (fun _ => ?_) (fun z => absurd Int32.le_rfl z)
      exact xt_return dJ7_fill_53178_20 rfl (H M1 hF)
    | succ d ih =>
      intro i M1 hi hF
      have o1 := hF.ok hc
      refine xt_iload_n (j := 0) dJ7_fill_53178_5 rfl rfl ?_
      refine xt_iload_n (j := 1) dJ7_fill_53178_6 rfl rfl ?_
      refine xt_icmp_ge (tgt := 20) dJ7_fill_53178_7 (by decide) (fun z => ?_) (fun _ => ?_)
      · have := (le32 (by omega) (by omega)).mp z
        omega
      refine xt_aload_n (j := 2) dJ7_fill_53178_10 rfl rfl ?_
      refine xt_iload_n (j := 0) dJ7_fill_53178_11 rfl rfl ?_
      refine xt_iload_n (j := 3) dJ7_fill_53178_12 rfl rfl ?_
      refine xt_iast dJ7_fill_53178_13 o1.1 o1.2 (by rw [hF.1.2.2.2]; exact vp_of (by omega) (by omega)) ?_
      rw [lt32 (by omega)]
      refine xt_iinc (j := 0) (v := Int32.ofNat (i + 1)) (lv' := [(2, .int (Int32.ofNat (i + 1))), (3, .int (Int32.ofNat (mL M c))), (0, .ref c), (1, .int v)]) dJ7_fill_53178_14 rfl (by rw [← succ32]; rfl) (by decide) rfl ?_
      refine xt_goto (tgt := 5) dJ7_fill_53178_17 (by decide) ?_
      exact ih (i + 1) _ (by omega) (hF.st (Nat.zero_le _))
  exact main (mL M c) 0 M (by omega) FilR.rf
end
section
variable {n0 l0 r0 N0 : Nat} {Θ : TrT} {M0 M M' : Mem} {Ψ Ψ' : Wg} {lc rc b1 b2 : Nat} {hl : List Int32} {h : Nat} {Q : Option Value → Mem → Prop} {a c : Int32}
/-- a cell of the weaver's: its wires, the pauses', what is emitted -/
def wvC (n0 cc : Nat) : Prop := (22 ≤ cc ∧ cc ≤ 28) ∨ (n0 + 17 ≤ cc ∧ cc ≤ n0 + 19) ∨ cc = n0 + 21
theorem WvH.row {cc : Nat} (hB : WvB n0 l0 r0 M0) (hW : WvH n0 l0 r0 N0 Θ M0 Ψ M lc rc b1 b2 hl) (hc : wvC n0 cc) (hE : mE M M') (hN : mN M' = mN M ∧ mS M' = mS M) (hr : ∀ d, d ≠ cc → sameRow M M' d) (hcc : mR M' cc = mR M cc ∧ mAR M' cc = mAR M cc ∧ mI M' cc = mI M cc ∧ mAJ M' cc = mAJ M cc) : WvH n0 l0 r0 N0 Θ M0 Ψ M' lc rc b1 b2 hl := by
  obtain ⟨⟨F, hT, h8⟩, hC, ⟨hlc, hrc⟩, ⟨hA1, hA2, hAl⟩, hbb, hF, hRo, hh, hm⟩ := hW
  obtain ⟨⟨n1, n2⟩, n3, -, n8, ⟨n9, -⟩, ⟨n5, n6⟩, n7⟩ := hB
  obtain ⟨⟨p1, p2, p3, p4, p5⟩, ⟨s1, s2, s3, s4, s5⟩⟩ := hlc.far hrc n3 n1 n2
  unfold wvC at hc
  have mM := hF.1.1.1
  have k21 : mK M cc = 21 := by
    rcases hc with ⟨z1, z2⟩ | ⟨z1, z2⟩ | z
    · have : cc = 22 ∨ cc = 23 ∨ cc = 24 ∨ cc = 25 ∨ cc = 26 ∨ cc = 27 ∨ cc = 28 := by omega
      rcases this with e | e | e | e | e | e | e <;> rw [e]
      · exact (ok22 F).2
      · exact (ok23 F).2
      · exact (ok24 F).2
      · exact (ok25 F).2
      · exact (ok26 F).2
      · exact (ok27 F).2
      · exact (ok28 F).2
    · have : cc = n0 + 17 ∨ cc = n0 + 18 ∨ cc = n0 + 19 := by omega
      rcases this with e | e | e
      · rw [e]; exact (ok_E (n8 17 (Or.inl rfl)).1 hF.1.1).2
      · rw [e]; exact (ok_E (n8 18 (Or.inr (Or.inl rfl))).1 hF.1.1).2
      · rw [e]; exact (ok_E (n8 19 (Or.inr (Or.inr rfl))).1 hF.1.1).2
    · rw [z]; exact (ok_E n9 hF.1.1).2
  have frk : fr (fun d => d = cc) M M' := ⟨hE, fun d _ z => hr d z⟩
  have al : ∀ {a b : Nat} {xs : List Int32}, a = n0 + 13 ∨ a = n0 + 14 → ALi M a b xs → ALi M' a b xs := by
    intro a b xs ha hA
    refine hA.fr frk (fun z => by omega) (fun hb z => ?_) (fun d _ z w => ?_)
    · rw [z, k21] at hb; exact absurd hb (by decide)
    · rw [z, k21] at w; exact absurd w (by decide)
  have r8 := hr (n0 + 8) (by omega)
  have F' : Fix M' := by
    refine F.of_fr (S := fun _ => True) hE (fun e he => ?_) (hr 19 (by omega)).2.2.2.2.1
    by_cases z : e.1 = cc
    · rw [z, hcc.1]
    · rw [(hr e.1 z).2.2.1]
  refine ⟨⟨F', hT.low (fun d z => hr d (by omega)), by rw [(hr 21 (by omega)).2.2.1]; exact h8⟩, hC.fr hE r8 (hr lc (by omega)) (hr rc (by omega)), ⟨hlc, hrc⟩, ⟨al (Or.inl rfl) hA1, al (Or.inr rfl) hA2, hAl⟩, hbb, hF.tr frk (fun d _ z => ?_) (fun f _ _ _ => by rw [r8.1]) (fun f _ _ => by rw [r8.2.2.1]), hRo, hh, ?_⟩
  · unfold wvS
    rw [z]
    rcases hc with q | q | q
    · exact Or.inl (by omega)
    · exact Or.inr (Or.inr (Or.inr (Or.inr (Or.inr (Or.inr (Or.inl q))))))
    · exact Or.inr (Or.inr (Or.inr (Or.inr (Or.inr (Or.inr (Or.inr q))))))
  · have L1 := Lb_E hA1 hE
    have L2 := Lb_E hA2 hE
    unfold RmW at hm ⊢
    rw [hN.1, hN.2, (hE.2.2 lc hC.2.2.1.1).2, L1, L2]
    exact hm
theorem WvP.wr {cc j : Nat} {v : Int32} (hB : WvB n0 l0 r0 M0) (hW : WvP n0 l0 r0 N0 Θ M0 Ψ M) (hc : wvC n0 cc) (e : M' = wAI M cc j v) : WvP n0 l0 r0 N0 Θ M0 Ψ M' := by
  obtain ⟨lc, rc, b1, b2, hl, hH⟩ := hW
  refine ⟨lc, rc, b1, b2, hl, hH.row hB hc (by rw [e]; exact mE_wAI) (by rw [e]; exact ⟨rfl, rfl⟩) (fun d hd => by rw [e]; exact ⟨rfl, rfl, rfl, up2_row hd, rfl, rfl⟩) (by rw [e]; exact ⟨rfl, rfl, rfl, rfl⟩)⟩
theorem WvP.fil {cc i j : Nat} {v : Int32} (hB : WvB n0 l0 r0 M0) (hW : WvP n0 l0 r0 N0 Θ M0 Ψ M) (hc : wvC n0 cc) (e : FilR M M' cc i j v) : WvP n0 l0 r0 N0 Θ M0 Ψ M' := by
  obtain ⟨lc, rc, b1, b2, hl, hH⟩ := hW
  obtain ⟨⟨e1, e2, e3, e4⟩, ⟨e5, e6, e7, e8, e9⟩, e10, -⟩ := e
  exact ⟨lc, rc, b1, b2, hl, hH.row hB hc ⟨by rw [e1]; exact Nat.le_refl _, by rw [e2]; exact Nat.le_refl _, fun d _ => by rw [e3, e4]; exact ⟨rfl, rfl⟩⟩ ⟨e1, e2⟩ (fun d hd => ⟨by rw [e5], by rw [e6], by rw [e7], e10 d hd, by rw [e8], by rw [e9]⟩) ⟨by rw [e7], by rw [e9], by rw [e5], by rw [e8]⟩⟩
/-- what the weaver sees -/
theorem WvP.sees (hB : WvB n0 l0 r0 M0) (hW : WvP n0 l0 r0 N0 Θ M0 Ψ M) : Fix M ∧ TrP M Θ ∧ mR M 21 8 = some (n0 + 8) ∧ ok M (n0 + 8) 2 ∧ RoW Ψ ∧ 1 ≤ Ψ.1.length ∧ (∀ f, f ≠ 0 → f ≠ 1 → mR M (n0 + 8) f = mR M0 (n0 + 8) f) ∧ mE M0 M := by
  obtain ⟨lc, rc, b1, b2, hl, hH⟩ := hW
  exact ⟨hH.1.1, hH.1.2.1, hH.1.2.2, hH.2.1.1, hH.2.2.2.2.2.2.1, hH.2.1.2.2.2.2.2.2.1.1, hH.2.2.2.2.2.1.2.2, hH.2.2.2.2.2.1.1.1⟩
theorem W_res {x : Nat} (hB : WvB n0 l0 r0 M0) (hW : WvP n0 l0 r0 N0 Θ M0 Ψ M) (hlim : Ψ.1.length < 99980) (hx : x < 640) (hr : okI Ψ (mAI M 23 x)) (K : ∀ M' Ψ' r, WvP n0 l0 r0 N0 Θ M0 Ψ' M' → ObE n0 M M' → Gr noN Ψ Ψ' → (Ψ'.1.length ≤ Ψ.1.length + 2 ∧ Ψ'.2.2.length ≤ Ψ.2.2.length + 1) → okI Ψ' r → (∀ w HV, gW Ψ' w HV → lV w r = v3A (lV w (mAI M 23 x)) (HV (Θ.2.2 12 x))) → Q (some (.int r)) M') : E (h + 8) mdX9_resumed [.ref 21, .int (Int32.ofNat x)] M Q := by
  obtain ⟨F, hT, h8, o8, hRo, l1, hRf, hE0⟩ := hW.sees hB
  have lx : (Int32.ofNat x).toNatClampNeg = x := lt32 (by omega)
  have e12 : mAI M 12 = Θ.2.2 12 := hT.2.2.2.1 12 (by decide) (by decide)
  refine KX9_resumed (h := h + 7) ?_
  unfold DX9_resumed_0
  rw [lx]
  refine ⟨ok21 F, n0 + 8, h8, 23, rf21_2 F, ok23 F, by rw [ln23 F]; exact vp_of hx (by decide), n0 + 8, h8, 4, rf21_0 F, ok4 F, 12, rf4_7 F, ok12 F, by rw [ln12 F]; exact vp_of hx (by decide), o8, ?_⟩
  rw [e12]
  refine W_hold (h := h) hB hW (by omega) (fun M1 Ψ1 r1 W1 O1 G1 L1 k1 s1 _ => ⟨_, rfl, ?_⟩)
  obtain ⟨F1, hT1, h81, o81, hRo1, -⟩ := W1.sees hB
  refine ⟨o81, W_and (h := h + 3) hB W1 (by omega) (hr.gr G1) k1 (fun M2 Ψ2 r2 W2 O2 G2 L2 k2 s2 _ => ⟨_, rfl, ?_⟩)⟩
  obtain ⟨-, -, -, -, hRo2, -⟩ := W2.sees hB
  refine K M2 Ψ2 r2 W2 (O1.tr O2) (G1.tr G2 (fun _ _ z => z)) (by omega) k2 (fun w HV g => ?_)
  rw [s2 w HV g, s1 w HV (g.bk G2 hRo1 hRo2 (fun _ _ z => z.elim))]
end
