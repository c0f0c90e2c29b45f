/-! the weaver's circuit: holding -/
section
variable {n0 l0 r0 N0 : Nat} {Θ : TrT} {M0 M M' : Mem} {Ψ Ψ' : Wg} {lc rc b1 b2 : Nat} {hl : List Int32} {h : Nat} {Q : Option Value → Mem → Prop} {a c : Int32}
theorem hd_get {x0 a1 a2 i : Nat} {xs : List Int32} {v : Int32} (ox : ok M x0 2) (f5 : mR M x0 5 = some a1) (f6 : mR M x0 6 = some a2) (hA1 : ALi M a1 b1 xs) (hA2 : ALi M a2 b2 hl) (hi : i < xs.length) (hl2 : hl.length = xs.length) (hm : xs.length < 200000) (K0 : xs.getD i 0 ≠ v → T (h + 4) mdX0_holding 8 [(0, .ref x0), (1, .int v), (2, .int (Int32.ofNat (i + 1)))] [] M Q) (K1 : xs.getD i 0 = v → Q (some (.int (hl.getD i 0))) M) : T (h + 4) mdX0_holding 8 [(0, .ref x0), (1, .int v), (2, .int (Int32.ofNat i))] [] M Q := by
  obtain ⟨l1, A1, n1, e1⟩ := hA1
  obtain ⟨l2, A2, n2, e2⟩ := hA2
  refine xt_iload_n (j := 2) dX0_holding_8 rfl rfl ?_
  refine xt_aload_n (j := 0) dX0_holding_9 rfl rfl ?_
  refine xt_getR dX0_holding_10 (flX0_29 rfl) ft_2_5 ox.1 ox.2 f5 ?_
  refine xt_callV (h2 := h + 3) (as := []) (st := [.int (Int32.ofNat i)]) dX0_holding_13 (mlX0_103 rfl) rfl A1.1.1 ⟨by rw [A1.1.2]; rfl, by rw [A1.1.2]; decide⟩ (by simp [Value.category]) (Nat.le_refl _) (S_alSize (h := h + 2) (Q := fun r M' => r = some (.int (Int32.ofNat l1.length)) ∧ M' = M) A1 ⟨rfl, rfl⟩) (fun r M4 HH hE => ?_)
  obtain ⟨hr, hM⟩ := HH
  subst hr
  rw [hM]
  clear hE hM M4
  show T _ _ _ _ [.int (Int32.ofNat l1.length), .int (Int32.ofNat i)] _ _
  refine xt_icmp_ge (tgt := 60) dX0_holding_16 (by decide) (fun hc => ?_) (fun _ => ?_)
  · have := (le32 (by omega) (by omega)).mp hc
    omega
  refine xt_aload_n (j := 0) dX0_holding_19 rfl rfl ?_
  refine xt_getR dX0_holding_20 (flX0_29 rfl) ft_2_5 ox.1 ox.2 f5 ?_
  refine xt_iload_n (j := 2) dX0_holding_23 rfl rfl ?_
  refine xt_callV (h2 := h + 3) (as := [.int (Int32.ofNat i)]) (st := []) dX0_holding_24 (mlX0_106 rfl) rfl A1.1.1 ⟨by rw [A1.1.2]; rfl, by rw [A1.1.2]; decide⟩ (by simp [Value.category]) (Nat.le_refl _) (S_get (h := h) (Q := fun r M' => r = some (.ref (l1.getD i 0)) ∧ M' = M) A1 (by omega) ⟨rfl, rfl⟩) (fun r M5 HH hE => ?_)
  obtain ⟨hr, hM⟩ := HH
  subst hr
  rw [hM]
  clear hE hM M5
  show T _ _ _ _ [.ref (l1.getD i 0)] _ _
  refine xt_unbox (h := h + 2) dX0_holding_27 dX0_holding_30 (ccX0_86 rfl) (mlX0_110 rfl) (e1 i (by omega)) (by simp [Value.category]) ?_
  refine xt_istore_n (lv' := [(3, .int (xs.getD i 0)), (0, .ref x0), (1, .int v), (2, .int (Int32.ofNat i))]) dX0_holding_33 rfl (by decide) rfl ?_
  refine xt_iload_n (j := 0) dX0_holding_34 rfl rfl ?_
  refine xt_iload_n (j := 2) dX0_holding_35 rfl rfl ?_
  refine xt_icmp_ne (tgt := 54) dX0_holding_36 (by decide) (fun hc => ?_) (fun hc => ?_)
  · refine xt_iinc (j := 3) (v := Int32.ofNat i + 1) (lv' := [(2, .int (Int32.ofNat i + 1)), (3, .int (xs.getD i 0)), (0, .ref x0), (1, .int v)]) dX0_holding_54 rfl (by rfl) (by decide) rfl ?_
    refine xt_goto (tgt := 8) dX0_holding_57 (by decide) ?_
    refine xt_sub (lv' := [(0, .ref x0), (1, .int v), (2, .int (Int32.ofNat i + 1))]) [2, 3, 0] rfl ?_
    rw [succ32]
    exact K0 hc
  · refine xt_aload_n (j := 1) dX0_holding_39 rfl rfl ?_
    refine xt_getR dX0_holding_40 (flX0_33 rfl) ft_2_6 ox.1 ox.2 f6 ?_
    refine xt_iload_n (j := 3) dX0_holding_43 rfl rfl ?_
    refine xt_callV (h2 := h + 3) (as := [.int (Int32.ofNat i)]) (st := []) dX0_holding_44 (mlX0_106 rfl) rfl A2.1.1 ⟨by rw [A2.1.2]; rfl, by rw [A2.1.2]; decide⟩ (by simp [Value.category]) (Nat.le_refl _) (S_get (h := h) (Q := fun r M' => r = some (.ref (l2.getD i 0)) ∧ M' = M) A2 (by omega) ⟨rfl, rfl⟩) (fun r M6 HH hE => ?_)
    obtain ⟨hr, hM⟩ := HH
    subst hr
    rw [hM]
    clear hE hM M6
    show T _ _ _ _ [.ref (l2.getD i 0)] _ _
    refine xt_unbox (h := h + 2) dX0_holding_47 dX0_holding_50 (ccX0_86 rfl) (mlX0_110 rfl) (e2 i (by omega)) (by simp [Value.category]) ?_
    exact xt_ireturn dX0_holding_53 rfl (K1 hc)
theorem ALi.row {a1 : Nat} {xs : List Int32} (hA : ALi M a1 b1 xs) : b1 = mBig + 5 ∧ xs = [] ∨ ok M b1 24 := by
  obtain ⟨l, h1, h2, -⟩ := hA
  rcases h1.2.2.2.2.2 with ⟨q1, q2⟩ | q
  · rw [q2] at h2
    exact Or.inl ⟨q1, List.eq_nil_of_length_eq_zero h2.symm⟩
  · exact Or.inr q.1
theorem ALi.ok1 {a1 : Nat} {xs : List Int32} (hA : ALi M a1 b1 xs) : ok M a1 1 := by
  obtain ⟨l, h1, -⟩ := hA
  exact h1.1
theorem W_hold {v : Int32} (hB : WvB n0 l0 r0 M0) (hW : WvP n0 l0 r0 N0 Θ M0 Ψ M) (hlim : Ψ.1.length < 99990) (K : ∀ M' Ψ' r, WvP n0 l0 r0 N0 Θ M0 Ψ' M' → ObE n0 M M' → Gr noN Ψ Ψ' → Ψ'.1.length ≤ Ψ.1.length + 1 → okI Ψ' r → (∀ w HV, gW Ψ' w HV → lV w r = HV v) → Q (some (.int r)) M') : E (h + 7) mdX0_holding [.ref (n0 + 8), .int v] M Q := by
  obtain ⟨lc, rc, b1, b2, hl, hH⟩ := id hW
  obtain ⟨N, Ro, H⟩ := Ψ
  have hlim : N.length < 99990 := hlim
  obtain ⟨⟨F, hT, h8⟩, hC, ⟨hlc, hrc⟩, ⟨hA1, hA2, hAl⟩, ⟨hb1, hb2, hb3⟩, hF, hRo, hh, hm⟩ := id hH
  have hA1 : ALi M (n0 + 13) b1 H := hA1
  have hAl : hl.length = H.length := hAl
  obtain ⟨⟨n1, n2⟩, ⟨n3, n4⟩, ⟨f5, f6, -⟩, -, -, ⟨n5, n6⟩, n7⟩ := id hB
  have l1 : 1 ≤ N.length := hC.2.2.2.2.2.2.1.1
  have hHN : H.length ≤ N.length := hm.2.2
  have g5 : mR M (n0 + 8) 5 = some (n0 + 13) := (hF.2.2 5 (by decide) (by decide)).trans f5
  have g6 : mR M (n0 + 8) 6 = some (n0 + 14) := (hF.2.2 6 (by decide) (by decide)).trans f6
  refine KX0_holding (h := h + 6) ?_
  unfold DX0_holding_0
  have hz : v = 0 → Q (some (.int 0)) M := fun v0 => by
    refine K M (N, Ro, H) 0 hW ObE.rf Gr.rf (Nat.le_succ _) ⟨0, rfl, by show 0 < 2 * N.length; omega⟩ (fun w HV g => ?_)
    have e : (0 : Int32) = Int32.ofNat 0 := rfl
    rw [v0, e, lV_of (by decide), lR_0 g.1, ← e]
    exact g.2.1.symm
  refine ⟨fun v0 => ?_, hz⟩
  have main : ∀ d i, i + d = H.length → T (h + 7) mdX0_holding 8 [(0, .ref (n0 + 8)), (1, .int v), (2, .int (Int32.ofNat i))] [] M Q := by
    intro d
    induction d with
    | succ d ih =>
      intro i hi
      refine hd_get (h := h + 3) hC.1 g5 g6 hA1 hA2 (by omega) hAl (by omega) (fun _ => ih (i + 1) (by omega)) (fun ev => ?_)
      obtain ⟨l, q1, q2, q3, q4⟩ := hh i (by show i < H.length; omega)
      have q3 : l / 2 < Ro.length := q3
      have hR1 : Ro.length = N.length := hRo.1
      rw [q1]
      refine K M (N, Ro, H) _ hW ObE.rf Gr.rf (Nat.le_succ _) ⟨l, rfl, by show l < 2 * N.length; omega⟩ (fun w HV g => ?_)
      rw [lV_of (by omega)]
      have e := g.2.2 (l / 2) i q3 q4
      unfold lvN
      rw [if_pos q2, e]
      show HV (H.getD i 0) = HV v
      rw [ev]
    | zero =>
      intro i hi
      have hi : i = H.length := by omega
      subst hi
      refine VX0_holding_8 (h := h + 6) ?_
      unfold DX0_holding_8
      obtain ⟨ls, A1, nl, -⟩ := id hA1
      refine ⟨hC.1, n0 + 13, g5, A1.1, S_alSize (h := h + 5) A1 (fun _ => ⟨_, rfl, fun _ => ?_, fun z => absurd (by rw [nl]; exact Int32.le_rfl) z⟩)⟩
      obtain ⟨r1, r2⟩ := RoW.fre (H' := H) (k := 9) (x := 0) hRo (by decide) ⟨[], (List.append_nil _).symm⟩ (fun z => absurd z (by decide))
      obtain ⟨r3, r4⟩ := RoW.fre (H' := H ++ [v]) (k := 6) (x := H.length) hRo (by decide) ⟨[v], rfl⟩ (fun _ => by rw [List.length_append]; exact Nat.lt_succ_self _)
      refine S_fresh (h := h + 2) hC (by show N.length < 100000; omega) (fun M1 lc1 rc1 P1 F1 _ => ?_)
      obtain ⟨w1, w2⟩ := WvH.cir (Ψ' := (N ++ [(2 * N.length, 2 * N.length)], Ro ++ [(9, 0)], H)) hB hH P1 F1 r1 r2 rfl
      obtain ⟨⟨F1', hT1, h81⟩, hC1, ⟨hlc1, hrc1⟩, ⟨hA11, hA21, -⟩, -, hF1, -, hh1, hm1⟩ := w1
      have hA11 : ALi M1 (n0 + 13) b1 H := hA11
      have g51 : mR M1 (n0 + 8) 5 = some (n0 + 13) := (hF1.2.2 5 (by decide) (by decide)).trans f5
      have g61 : mR M1 (n0 + 8) 6 = some (n0 + 14) := (hF1.2.2 6 (by decide) (by decide)).trans f6
      have hm1 : mN M1 + 6 * N0 ≤ mN M0 + 6 * (N ++ [(2 * N.length, 2 * N.length)]).length ∧ mS M1 + 4 * mL M0 l0 ≤ mS M0 + 4 * mL M1 lc1 + H.length * (24 + 4 * H.length) ∧ _ := hm1
      have ln1 : (N ++ [(2 * N.length, 2 * N.length)]).length = N.length + 1 := by rw [List.length_append]; rfl
      rw [ln1] at hm1
      have mM1 := hF1.1.1.1
      refine ⟨_, rfl, n0 + 13, g51, S_valueOf (h := h + 3) (fun M2 v2 hv2 V2 _ => ⟨v2, rfl, ?_⟩)⟩
      have fz : ∀ {Ma Mb : Mem} {a b : Nat} {xs : List Int32}, fr (fun _ => False) Ma Mb → ALi Ma a b xs → ALi Mb a b xs := fun k A => A.fr k (fun z => z) (fun _ z => z) (fun _ _ z => z.elim)
      have A12 := fz V2.1 hA11
      have A22 := fz V2.1 hA21
      refine ⟨A12.ok1, S_addI (h := h) A12 (by show H.length < 100000; omega) hv2 (fun M3 b1' A13 F3 _ => ⟨_, rfl, n0 + 14, ?_, ?_⟩)⟩
      · have o8 : ok M2 (n0 + 8) 2 := ok_E hC1.1 V2.1.1
        rw [(F3.1.2 (n0 + 8) o8.1 (by rintro (z | z); · omega; · have := z.2; rw [o8.2] at this; exact absurd this (by decide))).2.2.1, (V2.1.2 (n0 + 8) hC1.1.1 (fun z => z)).2.2.1]
        exact g61
      have N12 := V2.1.1.1
      have N23 := F3.1.1.1
      have bigm : mN M3 < mBig := by
        have := V2.2.1
        have := F3.2.2.2.2.2.1
        unfold mBig
        omega
      have hb1r : b1 = mBig + 5 ∨ b1 < mN M := by
        rcases hA1.row with q | q
        · exact Or.inl q.1
        · exact Or.inr q.1
      have hb2r : b2 = mBig + 5 ∨ b2 < mN M := by
        rcases hA2.row with q | q
        · exact Or.inl q.1
        · exact Or.inr q.1
      have N01 : mN M ≤ mN M1 := F1.1.1.1
      have b1r' : b1' < mN M3 := by
        rcases A13.row with q | q
        · exact absurd q.2 (by simp)
        · exact q.1
      have b1d := F3.2.2.2.2.1
      have nb12 : b1' ≠ b2 := by
        intro z
        rcases b1d with q | q
        · have := hb3 (q.symm.trans z)
          omega
        · omega
      have nb21 : b2 = b1 → b2 = mBig + 5 := fun z => z.trans (hb3 z.symm)
      have A23 : ALi M3 (n0 + 14) b2 hl := by
        refine A22.fr F3.1 ?_ (fun k z => ?_) (fun c _ z w => ?_)
        · rintro (z | ⟨z, -⟩)
          · omega
          · clear hb3 nb21 nb12; omega
        · rcases z with z | ⟨z, -⟩
          · clear hb3 nb21 nb12; omega
          · have e5 := nb21 z
            rcases A22.row with q | q
            · have hz : ok M2 (n0 + 13) 1 := A12.ok1
              have k24 := F3.1
              have w := A12.row
              rcases w with w | w
              · exact absurd k (fun _ => by have := w.1; omega)
              · have := w.1; omega
            · have := q.1
              omega
        · rcases z with z | ⟨-, z⟩
          · rw [z, A12.ok1.2] at w; exact absurd w (by decide)
          · rw [z] at w; exact absurd w (by decide)
      refine S_valueOf (h := h + 3) (fun M4 v4 hv4 V4 _ => ⟨v4, rfl, ?_⟩)
      have A24 := fz V4.1 A23
      have A14 := fz V4.1 A13
      have N34 := V4.1.1.1
      refine ⟨A24.ok1, S_addI (h := h) A24 (by rw [hAl]; omega) hv4 (fun M5 b2' A25 F5 _ => ⟨_, rfl, ?_⟩)⟩
      have N45 := F5.1.1.1
      have b2d := F5.2.2.2.2.1
      have A15 : ALi M5 (n0 + 13) b1' (H ++ [v]) := by
        refine A14.fr F5.1 ?_ (fun k z => ?_) (fun c _ z w => ?_)
        · rintro (z | ⟨z, -⟩)
          · omega
          · clear hb3 nb21 nb12; omega
        · rcases z with z | ⟨z, -⟩
          · clear hb3 nb21 nb12; omega
          · exact nb12 z
        · rcases z with z | ⟨-, z⟩
          · rw [z, A24.ok1.2] at w; exact absurd w (by decide)
          · rw [z] at w; exact absurd w (by decide)
      -- what is neither of the lists nor their rows
      have kp : ∀ cc, cc < mN M1 → cc ≠ n0 + 13 → cc ≠ n0 + 14 → mK M1 cc ≠ 24 → sameRow M1 M5 cc := by
        intro cc z z1 z2 z3
        have s2 := V2.1.2 cc z (fun y => y)
        have k2 : mK M2 cc = mK M1 cc := (V2.1.1.2.2 cc z).1
        have s3 := F3.1.2 cc (by omega) (by rintro (y | ⟨-, y⟩); · exact z1 y; · rw [k2] at y; exact z3 y)
        have k3 : mK M3 cc = mK M2 cc := (F3.1.1.2.2 cc (by omega)).1
        have s4 := V4.1.2 cc (by omega) (fun y => y)
        have k4 : mK M4 cc = mK M3 cc := (V4.1.1.2.2 cc (by omega)).1
        have s5 := F5.1.2 cc (by omega) (by rintro (y | ⟨-, y⟩); · exact z2 y; · rw [k4, k3, k2] at y; exact z3 y)
        exact ((s2.tr s3).tr s4).tr s5
      have rlow : ∀ cc, cc < n0 + 25 → cc ≠ n0 + 13 → cc ≠ n0 + 14 → sameRow M1 M5 cc := by
        intro cc z z1 z2
        have s2 := V2.1.2 cc (by omega) (fun y => y)
        have s3 := F3.1.2 cc (by omega) (by rintro (y | ⟨y, -⟩); · exact z1 y; · clear hb3 nb21 nb12; omega)
        have s4 := V4.1.2 cc (by omega) (fun y => y)
        have s5 := F5.1.2 cc (by omega) (by rintro (y | ⟨y, -⟩); · exact z2 y; · clear hb3 nb21 nb12; omega)
        exact ((s2.tr s3).tr s4).tr s5
      have e15 : mE M1 M5 := ((V2.1.1.tr F3.1.1).tr V4.1.1).tr F5.1.1
      have r8 := rlow (n0 + 8) (by omega) (by omega) (by omega)
      have rl := kp lc1 hC1.2.2.1.1 (by clear hb3 nb21 nb12; omega) (by clear hb3 nb21 nb12; omega) (by rw [hC1.2.2.1.2]; decide)
      have rr := kp rc1 hC1.2.2.2.2.1.1 (by clear hb3 nb21 nb12; omega) (by clear hb3 nb21 nb12; omega) (by rw [hC1.2.2.2.2.1.2]; decide)
      have hC5 : CirP M5 (n0 + 8) lc1 rc1 (N ++ [(2 * N.length, 2 * N.length)]) := hC1.fr e15 r8 rl rr
      have fr15 : fr (fun cc => cc = n0 + 13 ∨ cc = n0 + 14 ∨ mN M0 ≤ cc) M1 M5 := by
        refine ⟨e15, fun cc z zn => ?_⟩
        have z1 : cc ≠ n0 + 13 := fun y => zn (Or.inl y)
        have z2 : cc ≠ n0 + 14 := fun y => zn (Or.inr (Or.inl y))
        have z3 : cc < mN M0 := by
          rcases Nat.lt_or_ge cc (mN M0) with y | y
          · exact y
          · exact absurd (Or.inr (Or.inr y)) zn
        have s2 := V2.1.2 cc (by omega) (fun y => y)
        have s3 := F3.1.2 cc (by omega) (by rintro (y | ⟨y, -⟩); · exact z1 y; · clear hb3 nb21 nb12; unfold mBig at *; omega)
        have s4 := V4.1.2 cc (by omega) (fun y => y)
        have s5 := F5.1.2 cc (by omega) (by rintro (y | ⟨y, -⟩); · exact z2 y; · clear hb3 nb21 nb12; unfold mBig at *; omega)
        exact ((s2.tr s3).tr s4).tr s5
      have hF5 : WvR n0 l0 r0 M0 M5 := hF1.tr fr15 (fun cc z y => by
        unfold wvS
        rcases y with y | y | y
        · exact Or.inr (Or.inr (Or.inr (Or.inr (Or.inl y))))
        · exact Or.inr (Or.inr (Or.inr (Or.inr (Or.inr (Or.inl y)))))
        · omega) (fun f _ _ _ => by rw [r8.1]) (fun f _ _ => by rw [r8.2.2.1])
      have hL5 : mL M5 lc1 = mL M1 lc1 := (e15.2.2 lc1 hC1.2.2.1.1).2
      have ob5 : ObE n0 M1 M5 := ⟨fun cc z1 z2 => (rlow cc (by omega) (by omega) (by omega)).2.2.2.1, fun cc z1 z2 => (rlow cc (by omega) (by omega) (by omega)).2.2.2.1, by rw [r8.1]⟩
      have hb2' : b2' < mN M5 := by
        rcases A25.row with q | q
        · exact absurd q.2 (by simp)
        · exact q.1
      have hR1 : Ro.length = N.length := hRo.1
      refine K M5 (N ++ [(2 * N.length, 2 * N.length)], Ro ++ [(6, H.length)], H ++ [v]) _ ⟨lc1, rc1, b1', b2', hl ++ [Int32.ofNat (2 * N.length)], ⟨low_fix F1' e15 (fun cc z _ => rlow cc (by omega) (by omega) (by omega)) (rlow 21 (by omega) (by omega) (by omega)).2.2.1, hT1.low (fun cc z => rlow cc (by omega) (by omega) (by omega)), by rw [(rlow 21 (by omega) (by omega) (by omega)).2.2.1]; exact h81⟩, hC5, ⟨hlc1, hrc1⟩, ⟨A15, A25, by rw [List.length_append, hAl]; show H.length + 1 = (H ++ [v]).length; rw [List.length_append]; rfl⟩, ⟨?_, ?_, ?_⟩, hF5, r3, ?_, ?_⟩ (w2.tr ob5) r4 (by show (N ++ [(2 * N.length, 2 * N.length)]).length ≤ N.length + 1; rw [ln1]; exact Nat.le_refl _) ⟨2 * N.length, rfl, by show 2 * N.length < 2 * (N ++ [(2 * N.length, 2 * N.length)]).length; rw [ln1]; omega⟩ (fun w HV g => ?_)
      · clear hb3 nb21 nb12; omega
      · clear hb3 nb21 nb12; omega
      · intro z
        rcases b2d with q | q
        · exact absurd (z.trans q) nb12
        · omega
      · intro i hi
        have hi : i < (H ++ [v]).length := hi
        rw [List.length_append] at hi
        have hi : i < H.length + 1 := hi
        by_cases z : i = H.length
        · refine ⟨2 * N.length, ?_, ?_⟩
          · rw [z, ← hAl]; exact gdB
          · rw [z]
            show rlC (Ro ++ [(6, H.length)]) (2 * N.length) 6 H.length
            refine ⟨by omega, ?_, ?_⟩
            · rw [List.length_append, hR1]; show 2 * N.length / 2 < N.length + 1; omega
            · rw [show 2 * N.length / 2 = Ro.length by omega]; exact gdB
        · obtain ⟨l, q1, q2⟩ := hh i (by show i < H.length; omega)
          exact ⟨l, by rw [gdA (by omega)]; exact q1, rlC.app q2⟩
      · have lH : (H ++ [v]).length = H.length + 1 := by rw [List.length_append]; rfl
        show mN M5 + 6 * N0 ≤ mN M0 + 6 * (N ++ [(2 * N.length, 2 * N.length)]).length ∧ mS M5 + 4 * mL M0 l0 ≤ mS M0 + 4 * mL M5 lc1 + (H ++ [v]).length * (24 + 4 * (H ++ [v]).length) ∧ (H ++ [v]).length ≤ (N ++ [(2 * N.length, 2 * N.length)]).length
        have a1 := V2.2.1
        have a2 := F3.2.2.2.2.2.1
        have a3 := V4.2.1
        have a4 := F5.2.2.2.2.2.1
        have s1 := V2.2.2
        have s2 := F3.2.2.2.2.2.2
        have s3 := V4.2.2
        have s4 := F5.2.2.2.2.2.2
        have c5 := F1.2.2.2.2.1
        have c5 : mN M1 + 2 * N.length ≤ mN M + 2 * (N ++ [(2 * N.length, 2 * N.length)]).length := c5
        have m1 : mN M + 6 * N0 ≤ mN M0 + 6 * N.length := hm.1
        have sq : (H.length + 1) * (24 + 4 * (H.length + 1)) = H.length * (24 + 4 * H.length) + 8 * H.length + 28 := by
          rw [Nat.add_mul, Nat.mul_add, Nat.mul_add, Nat.mul_add]
          omega
        rw [ln1] at c5
        rw [ln1, lH, hL5, sq]
        rw [hAl] at s4
        obtain ⟨-, m2, -⟩ := hm1
        generalize H.length * (24 + 4 * H.length) = Z at m2 ⊢
        clear hb3 nb21 nb12 b1d b2d hb1r hb2r hb1 hb2 hlc hrc hlc1 hrc1 n3 n4
        omega
      · have e := g.2.2 N.length H.length (by show N.length < (Ro ++ [(6, H.length)]).length; rw [List.length_append, hR1]; exact Nat.lt_succ_self _) (by show (Ro ++ [(6, H.length)]).getD N.length (0, 0) = _; rw [← hR1]; exact gdB)
        have e : w N.length = HV ((H ++ [v]).getD H.length 0) := e
        rw [gdB] at e
        rw [lV_of (by omega), lv_2, e]
  exact main H.length 0 (by omega)
end
