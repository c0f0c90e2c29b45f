/-! the weaver's circuit: holding -/
section
variable {n0 l0 r0 N0 : Nat} {Θ : TrT} {M0 M M' : Mem} {Ψ Ψ' : Wg} {lc rc b1 b2 : Nat} {hl : List Int32} {h : Nat} {Q : Option Value → Mem → Prop} {a c : Int32}
theorem hd_get {x0 a1 a2 i : Nat} {xs : List Int32} {v : Int32} (ox : ok M x0 2) (f5 : mR M x0 5 = some a1) (f6 : mR M x0 6 = some a2) (hA1 : ALi M a1 b1 xs) (hA2 : ALi M a2 b2 hl) (hi : i < xs.length) (hl2 : hl.length = xs.length) (hm : xs.length < 200000) (K0 : xs.getD i 0 ≠ v → T (h + 4) mdX0_holding 8 [(0, .ref x0), (1, .int v), (2, .int (Int32.ofNat (i + 1)))] [] M Q) (K1 : xs.getD i 0 = v → Q (some (.int (hl.getD i 0))) M) : T (h + 4) mdX0_holding 8 [(0, .ref x0), (1, .int v), (2, .int (Int32.ofNat i))] [] M Q := by
  obtain ⟨l1, A1, n1, e1⟩ := hA1
  obtain ⟨l2, A2, n2, e2⟩ := hA2
  refine xt_iload_n (j := 2) dX0_holding_8 rfl rfl ?_
  refine xt_aload_n (j := 0) dX0_holding_9 rfl rfl ?_
  refine xt_getR dX0_holding_10 (flX0_29 rfl) ft_2_5 ox.1 ox.2 f5 ?_
  refine xt_callV (h2 := h + 3) (as := []) (st := [.int (Int32.ofNat i)]) dX0_holding_13 (mlX0_103 rfl) rfl A1.1.1 ⟨by rw [A1.1.2]; rfl, by rw [A1.1.2]; decide⟩ (by simp [Value.category]) (Nat.le_refl _) (S_alSize (h := h + 2) (Q := fun r M' => r = some (.int (Int32.ofNat l1.length)) ∧ M' = M) A1 ⟨rfl, rfl⟩) (fun r M4 HH hE => ?_)
  obtain ⟨hr, hM⟩ := HH
  subst hr
  rw [hM]
  clear hE hM M4
  show T _ _ _ _ [.int (Int32.ofNat l1.length), .int (Int32.ofNat i)] _ _
  refine xt_icmp_ge (tgt := 60) dX0_holding_16 (by decide) (fun hc => ?_) (fun _ => ?_)
  · have := (le32 (by omega) (by omega)).mp hc
    omega
  refine xt_aload_n (j := 0) dX0_holding_19 rfl rfl ?_
  refine xt_getR dX0_holding_20 (flX0_29 rfl) ft_2_5 ox.1 ox.2 f5 ?_
  refine xt_iload_n (j := 2) dX0_holding_23 rfl rfl ?_
  refine xt_callV (h2 := h + 3) (as := [.int (Int32.ofNat i)]) (st := []) dX0_holding_24 (mlX0_106 rfl) rfl A1.1.1 ⟨by rw [A1.1.2]; rfl, by rw [A1.1.2]; decide⟩ (by simp [Value.category]) (Nat.le_refl _) (S_get (h := h) (Q := fun r M' => r = some (.ref (l1.getD i 0)) ∧ M' = M) A1 (by omega) ⟨rfl, rfl⟩) (fun r M5 HH hE => ?_)
  obtain ⟨hr, hM⟩ := HH
  subst hr
  rw [hM]
  clear hE hM M5
  show T _ _ _ _ [.ref (l1.getD i 0)] _ _
  refine xt_unbox (h := h + 2) dX0_holding_27 dX0_holding_30 (ccX0_86 rfl) (mlX0_110 rfl) (e1 i (by omega)) (by simp [Value.category]) ?_
  refine xt_istore_n (lv' := [(3, .int (xs.getD i 0)), (0, .ref x0), (1, .int v), (2, .int (Int32.ofNat i))]) dX0_holding_33 rfl (by decide) rfl ?_
  refine xt_iload_n (j := 0) dX0_holding_34 rfl rfl ?_
  refine xt_iload_n (j := 2) dX0_holding_35 rfl rfl ?_
  refine xt_icmp_ne (tgt := 54) dX0_holding_36 (by decide) (fun hc => ?_) (fun hc => ?_)
  · refine xt_iinc (j := 3) (v := Int32.ofNat i + 1) (lv' := [(2, .int (Int32.ofNat i + 1)), (3, .int (xs.getD i 0)), (0, .ref x0), (1, .int v)]) dX0_holding_54 rfl (by rfl) (by decide) rfl ?_
    refine xt_goto (tgt := 8) dX0_holding_57 (by decide) ?_
    refine xt_sub (lv' := [(0, .ref x0), (1, .int v), (2, .int (Int32.ofNat i + 1))]) [2, 3, 0] rfl ?_
    rw [succ32]
    exact K0 hc
  · refine xt_aload_n (j := 1) dX0_holding_39 rfl rfl ?_
    refine xt_getR dX0_holding_40 (flX0_33 rfl) ft_2_6 ox.1 ox.2 f6 ?_
    refine xt_iload_n (j := 3) dX0_holding_43 rfl rfl ?_
    refine xt_callV (h2 := h + 3) (as := [.int (Int32.ofNat i)]) (st := []) dX0_holding_44 (mlX0_106 rfl) rfl A2.1.1 ⟨by rw [A2.1.2]; rfl, by rw [A2.1.2]; decide⟩ (by simp [Value.category]) (Nat.le_refl _) (S_get (h := h) (Q := fun r M' => r = some (.ref (l2.getD i 0)) ∧ M' = M) A2 (by omega) ⟨rfl, rfl⟩) (fun r M6 HH hE => ?_)
    obtain ⟨hr, hM⟩ := HH
    subst hr
    rw [hM]
    clear hE hM M6
    show T _ _ _ _ [.ref (l2.getD i 0)] _ _
    refine xt_unbox (h := h + 2) dX0_holding_47 dX0_holding_50 (ccX0_86 rfl) (mlX0_110 rfl) (e2 i (by omega)) (by simp [Value.category]) ?_
    exact xt_ireturn dX0_holding_53 rfl (K1 hc)
theorem ALi.row {a1 : Nat} {xs : List Int32} (hA : ALi M a1 b1 xs) : b1 = mBig + 5 ∧ xs = [] ∨ ok M b1 24 := by
  obtain ⟨l, h1, h2, -⟩ := hA
  rcases h1.2.2.2.2.2 with ⟨q1, q2⟩ | q
  · rw [q2] at h2
    exact Or.inl ⟨q1, List.eq_nil_of_length_eq_zero h2.symm⟩
  · exact Or.inr q.1
theorem ALi.ok1 {a1 : Nat} {xs : List Int32} (hA : ALi M a1 b1 xs) : ok M a1 1 := by
  obtain ⟨l, h1, -⟩ := hA
  exact h1.1
theorem bb_a {b1 b1' n m2 : Nat} (h : b1 = mBig + 5 ∨ n ≤ b1) (d : b1' = b1 ∨ b1' = m2) (hm : n ≤ m2) : b1' = mBig + 5 ∨ n ≤ b1' := by omega
theorem bb_b {b n m c : Nat} (h : b = mBig + 5 ∨ n ≤ b) (hc : c < m) (hm : m ≤ mBig) (e : c = b) : n ≤ c := by omega
/-- what two lists change -/
def AdF (M0 M1 M5 : Mem) (a1 a2 : Nat) : Prop := fr (fun c => c = a1 ∨ c = a2 ∨ (mN M0 ≤ c ∧ mK M1 c = 24)) M1 M5
theorem ad2 {M1 M2 M3 M4 M5 : Mem} {a1 a2 b1' b2' : Nat} {H : List Int32} {v u : Int32} (hA1 : ALi M1 a1 b1 H) (hA2 : ALi M1 a2 b2 hl) (hne : a1 ≠ a2) (hbb : BbW M0 b1 b2) (h01 : mN M0 ≤ mN M1) (V2 : VoF M1 M2) (F3 : ALF M2 M3 a1 b1 b1' H.length) (A13 : ALi M3 a1 b1' (H ++ [v])) (V4 : VoF M3 M4) (F5 : ALF M4 M5 a2 b2 b2' hl.length) (A25 : ALi M5 a2 b2' (hl ++ [u])) (big : mN M5 ≤ mBig) : ALi M5 a1 b1' (H ++ [v]) ∧ BbW M0 b1' b2' ∧ AdF M0 M1 M5 a1 a2 := by
  have N12 := V2.1.1.1
  have N23 := F3.1.1.1
  have N34 := V4.1.1.1
  have N45 := F5.1.1.1
  have fz : ∀ {Ma Mb : Mem} {a b : Nat} {xs : List Int32}, fr (fun _ => False) Ma Mb → ALi Ma a b xs → ALi Mb a b xs := fun k A => A.fr k (fun z => z) (fun _ z => z) (fun _ _ z => z.elim)
  have A12 := fz V2.1 hA1
  have A22 := fz V2.1 hA2
  have k1 := A12.ok1.2
  have k2 := A22.ok1.2
  have ob1 : ok M3 b1' 24 := by
    rcases A13.row with q | q
    · exact absurd q.2 (by simp)
    · exact q
  have ob2 : ok M5 b2' 24 := by
    rcases A25.row with q | q
    · exact absurd q.2 (by simp)
    · exact q
  have d1 := F3.2.2.2.2.1
  have d2 := F5.2.2.2.2.1
  have nb12 : b1' ≠ b2 := by
    intro z
    rcases d1 with q | q
    · have e := hbb.2.2 (q.symm.trans z)
      have := ob1.1
      rw [q, e] at this
      omega
    · rcases A22.row with w | w
      · have := w.1
        omega
      · have := w.1
        omega
  have A14 := fz V4.1 A13
  have k14 := A14.ok1.2
  have k24 : mK M4 a2 = 1 := by
    have e1 := (V2.1.1.2.2 a2 hA2.ok1.1).1
    have e2 := (F3.1.1.2.2 a2 A22.ok1.1).1
    have e3 := (V4.1.1.2.2 a2 (Nat.lt_of_lt_of_le A22.ok1.1 N23)).1
    rw [e3, e2]; exact k2
  have A15 : ALi M5 a1 b1' (H ++ [v]) := by
    refine ali_fr3 A14 F5.1 ?_ (fun o z => ?_) (fun c _ z w => ?_)
    · rintro (z | ⟨-, z⟩)
      · exact hne z
      · rw [k14] at z; exact absurd z (by decide)
    · rcases z with z | ⟨z, -⟩
      · have := o.2
        rw [z, k24] at this
        exact absurd this (by decide)
      · exact nb12 z
    · rcases z with z | ⟨-, z⟩
      · rw [z, k24] at w; exact absurd w (by decide)
      · rw [z] at w; exact absurd w (by decide)
  refine ⟨A15, ⟨bb_a hbb.1 d1 (by omega), bb_a hbb.2.1 d2 (by omega), fun z => ?_⟩, ?_⟩
  · rcases d2 with q | q
    · exact absurd (z.trans q) nb12
    · have := ob1.1
      omega
  · unfold AdF
    have f2 : fr (fun c => c = a1 ∨ c = a2 ∨ (mN M0 ≤ c ∧ mK M1 c = 24)) M1 M2 := V2.1.more (fun _ _ z => z.elim)
    have f3 := f2.tr F3.1 (fun c hc z => by
      rcases z with z | ⟨z, w⟩
      · exact Or.inl z
      · rw [(V2.1.1.2.2 c hc).1] at w
        exact Or.inr (Or.inr ⟨bb_b hbb.1 hc (by omega) z, w⟩))
    have f4 := f3.tr V4.1 (fun c hc z => z.elim)
    refine f4.tr F5.1 (fun c hc z => ?_)
    rcases z with z | ⟨z, w⟩
    · exact Or.inr (Or.inl z)
    · rw [(V4.1.1.2.2 c (by omega)).1, (F3.1.1.2.2 c (by omega)).1, (V2.1.1.2.2 c hc).1] at w
      exact Or.inr (Or.inr ⟨bb_b hbb.2.1 hc (by omega) z, w⟩)
/-- the second list as it stands when the first has been added to -/
theorem ad1 {M1 M2 M3 : Mem} {a1 a2 b1' : Nat} {H : List Int32} (hA1 : ALi M1 a1 b1 H) (hA2 : ALi M1 a2 b2 hl) (hne : a1 ≠ a2) (hbb : BbW M0 b1 b2) (V2 : VoF M1 M2) (F3 : ALF M2 M3 a1 b1 b1' H.length) (big : mN M2 ≤ mBig) : ALi M3 a2 b2 hl := by
  have fz : ∀ {Ma Mb : Mem} {a b : Nat} {xs : List Int32}, fr (fun _ => False) Ma Mb → ALi Ma a b xs → ALi Mb a b xs := fun k A => A.fr k (fun z => z) (fun _ z => z) (fun _ _ z => z.elim)
  have A12 := fz V2.1 hA1
  have A22 := fz V2.1 hA2
  refine ali_fr3 A22 F3.1 ?_ (fun o z => ?_) (fun c _ z w => ?_)
  · rintro (z | ⟨-, z⟩)
    · exact hne z.symm
    · rw [A22.ok1.2] at z; exact absurd z (by decide)
  · rcases z with z | ⟨z, -⟩
    · have := o.2
      rw [z, A12.ok1.2] at this
      exact absurd this (by decide)
    · have e := hbb.2.2 z.symm
      have := o.1
      rw [z, e] at this
      omega
  · rcases z with z | ⟨-, z⟩
    · rw [z, A12.ok1.2] at w; exact absurd w (by decide)
    · rw [z] at w; exact absurd w (by decide)
theorem sq_H (n : Nat) : (n + 1) * (24 + 4 * (n + 1)) = n * (24 + 4 * n) + 8 * n + 28 := by
  have e1 : 24 + 4 * (n + 1) = (24 + 4 * n) + 4 := by omega
  rw [e1, Nat.succ_mul, Nat.mul_add n (24 + 4 * n) 4]
  omega
theorem W_hold {v : Int32} (hB : WvB n0 l0 r0 M0) (hW : WvP n0 l0 r0 N0 Θ M0 Ψ M) (hlim : Ψ.1.length < 99990) (K : ∀ M' Ψ' r, WvP n0 l0 r0 N0 Θ M0 Ψ' M' → ObE n0 M M' → Gr noN Ψ Ψ' → (Ψ'.1.length ≤ Ψ.1.length + 1 ∧ Ψ'.2.2.length ≤ Ψ.2.2.length + 1) → okI Ψ' r → (∀ w HV, gW Ψ' w HV → lV w r = HV v) → Q (some (.int r)) M') : E (h + 7) mdX0_holding [.ref (n0 + 8), .int v] M Q := by
  obtain ⟨lc, rc, b1, b2, hl, hH⟩ := id hW
  obtain ⟨N, Ro, H⟩ := Ψ
  have hlim : N.length < 99990 := hlim
  obtain ⟨⟨F, hT, h8⟩, hC, ⟨hlc, hrc⟩, ⟨hA1, hA2, hAl⟩, hbb, hF, hRo, hh, hm⟩ := id hH
  have hA1 : ALi M (n0 + 13) b1 H := hA1
  have hAl : hl.length = H.length := hAl
  obtain ⟨⟨n1, n2⟩, n3, ⟨f5, f6, -⟩, -, -, ⟨n5, n6⟩, n7⟩ := id hB
  have l1 : 1 ≤ N.length := hC.2.2.2.2.2.2.1.1
  have hHN : H.length ≤ N.length := hm.2.2
  have g5 : mR M (n0 + 8) 5 = some (n0 + 13) := (hF.2.2 5 (by decide) (by decide)).trans f5
  have g6 : mR M (n0 + 8) 6 = some (n0 + 14) := (hF.2.2 6 (by decide) (by decide)).trans f6
  refine KX0_holding (h := h + 6) ?_
  unfold DX0_holding_0
  have hz : v = 0 → Q (some (.int 0)) M := fun v0 => by
    refine K M (N, Ro, H) 0 hW ObE.rf Gr.rf ⟨Nat.le_succ _, Nat.le_succ _⟩ ⟨0, rfl, by show 0 < 2 * N.length; omega⟩ (fun w HV g => ?_)
    have e : (0 : Int32) = Int32.ofNat 0 := rfl
    rw [v0, e, lV_of (by decide), lR_0 g.1, ← e]
    exact g.2.1.symm
  refine ⟨fun v0 => ?_, hz⟩
  have main : ∀ d i, i + d = H.length → T (h + 7) mdX0_holding 8 [(0, .ref (n0 + 8)), (1, .int v), (2, .int (Int32.ofNat i))] [] M Q := by
    intro d
    induction d with
    | succ d ih =>
      intro i hi
      refine hd_get (h := h + 3) hC.1 g5 g6 hA1 hA2 (by omega) hAl (by omega) (fun _ => ih (i + 1) (by omega)) (fun ev => ?_)
      obtain ⟨l, q1, q2, q3, q4⟩ := hh.1 i (by show i < H.length; omega)
      have q3 : l / 2 < Ro.length := q3
      have hR1 : Ro.length = N.length := hRo.1
      rw [q1]
      refine K M (N, Ro, H) _ hW ObE.rf Gr.rf ⟨Nat.le_succ _, Nat.le_succ _⟩ ⟨l, rfl, by show l < 2 * N.length; omega⟩ (fun w HV g => ?_)
      rw [lV_of (by omega)]
      have e := g.2.2 (l / 2) i q3 q4
      unfold lvN
      rw [if_pos q2, e]
      show HV (H.getD i 0) = HV v
      rw [ev]
    | zero =>
      intro i hi
      have hi : i = H.length := by omega
      subst hi
      refine VX0_holding_8 (h := h + 6) ?_
      unfold DX0_holding_8
      obtain ⟨ls, A1, nl, -⟩ := id hA1
      refine ⟨hC.1, n0 + 13, g5, A1.1, S_alSize (h := h + 5) A1 (fun _ => ⟨_, rfl, fun _ => ?_, fun z => absurd (by rw [nl]; exact Int32.le_rfl) z⟩)⟩
      obtain ⟨r1, r2⟩ := RoW.fre (H' := H) (k := 9) (x := 0) hRo (by decide) ⟨[], (List.append_nil _).symm⟩ (fun z => absurd z (by decide))
      obtain ⟨r3, r4⟩ := RoW.fre (H' := H ++ [v]) (k := 6) (x := H.length) hRo (by decide) ⟨[v], rfl⟩ (fun _ => by rw [List.length_append]; exact Nat.lt_succ_self _)
      refine S_fresh (h := h + 2) hC (by show N.length < 100000; omega) (fun M1 lc1 rc1 P1 F1 _ => ?_)
      obtain ⟨w1, w2⟩ := WvH.cirC (Ψ' := (N ++ [(2 * N.length, 2 * N.length)], Ro ++ [(9, 0)], H)) hB hH P1 F1 r1 r2 rfl (fun n i hn ri => ⟨fre_6 hRo.1 (by decide) n i hn ri, gdA (fre_6 hRo.1 (by decide) n i hn ri)⟩)
      obtain ⟨⟨F1', hT1, h81⟩, hC1, ⟨hlc1, hrc1⟩, ⟨hA11, hA21, -⟩, -, hF1, -, hh1, hm1⟩ := w1
      obtain ⟨⟨p1, p2, p3, p4, p5⟩, ⟨s1, s2, s3, s4, s5⟩⟩ := hlc1.far hrc1 n3 n1 n2
      have hA11 : ALi M1 (n0 + 13) b1 H := hA11
      have g51 : mR M1 (n0 + 8) 5 = some (n0 + 13) := (hF1.2.2 5 (by decide) (by decide)).trans f5
      have g61 : mR M1 (n0 + 8) 6 = some (n0 + 14) := (hF1.2.2 6 (by decide) (by decide)).trans f6
      have hm1 : (mN M1 + 6 * N0 ≤ mN M0 + 6 * (N ++ [(2 * N.length, 2 * N.length)]).length ∧ 32 * mN M1 + mL M0 l0 ≤ 32 * mN M0 + mL M1 lc1 + 128 * H.length) ∧ (mS M1 + 4 * mL M0 l0 ≤ mS M0 + 4 * mL M1 lc1 + 4 * Lb M1 b1 + 4 * Lb M1 b2 + 2 * H.length ∧ Lb M1 b1 ≤ 10 + 2 * H.length ∧ Lb M1 b2 ≤ 10 + 2 * H.length) ∧ H.length ≤ (N ++ [(2 * N.length, 2 * N.length)]).length := hm1
      have ln1 : (N ++ [(2 * N.length, 2 * N.length)]).length = N.length + 1 := by rw [List.length_append]; rfl
      rw [ln1] at hm1
      have mM1 := hF1.1.1.1
      have N01 : mN M1 ≤ mN M0 + 6 * (N.length + 1) := by omega
      have big1 : mN M1 + 100 ≤ mBig := by unfold mBig; omega
      refine ⟨_, rfl, n0 + 13, g51, S_valueOf (h := h + 3) (fun M2 v2 hv2 V2 _ => ⟨v2, rfl, ?_⟩)⟩
      have fz : ∀ {Ma Mb : Mem} {a b : Nat} {xs : List Int32}, fr (fun _ => False) Ma Mb → ALi Ma a b xs → ALi Mb a b xs := fun k A => A.fr k (fun z => z) (fun _ z => z) (fun _ _ z => z.elim)
      have A12 := fz V2.1 hA11
      refine ⟨A12.ok1, S_addI (h := h) A12 (by show H.length < 100000; omega) hv2 (fun M3 b1' A13 F3 _ => ⟨_, rfl, n0 + 14, ?_, ?_⟩)⟩
      · have o8 : ok M2 (n0 + 8) 2 := ok_E hC1.1 V2.1.1
        rw [(F3.1.2 (n0 + 8) o8.1 (by
          rintro (z | ⟨-, z⟩)
          · omega
          · rw [o8.2] at z; exact absurd z (by decide))).2.2.1, (V2.1.2 (n0 + 8) hC1.1.1 (fun z => z)).2.2.1]
        exact g61
      have a1 := V2.2.1
      have a2 := F3.2.2.2.2.2.1
      have A23 : ALi M3 (n0 + 14) b2 hl := ad1 hA11 hA21 (by omega) hbb V2 F3 (by omega)
      refine S_valueOf (h := h + 3) (fun M4 v4 hv4 V4 _ => ⟨v4, rfl, ?_⟩)
      have A24 := fz V4.1 A23
      refine ⟨A24.ok1, S_addI (h := h) A24 (by rw [hAl]; omega) hv4 (fun M5 b2' A25 F5 _ => ⟨_, rfl, ?_⟩)⟩
      have a3 := V4.2.1
      have a4 := F5.2.2.2.2.2.1
      obtain ⟨A15, bb5, af5⟩ := ad2 hA11 hA21 (by omega) hbb mM1 V2 F3 A13 V4 F5 A25 (by omega)
      have e15 : mE M1 M5 := af5.1
      have k8 : mK M1 (n0 + 8) = 2 := hC1.1.2
      have kl : mK M1 lc1 = 21 := hC1.2.2.1.2
      have kr : mK M1 rc1 = 21 := hC1.2.2.2.2.1.2
      have rlow : ∀ cc, cc < n0 + 25 → cc ≠ n0 + 13 → cc ≠ n0 + 14 → sameRow M1 M5 cc := fun cc z z1 z2 => af5.2 cc (by omega) (by
        rintro (y | y | ⟨y, -⟩)
        · exact z1 y
        · exact z2 y
        · omega)
      have r8 := rlow (n0 + 8) (by omega) (by omega) (by omega)
      have rl := af5.2 lc1 hC1.2.2.1.1 (by
        rintro (y | y | ⟨-, y⟩)
        · exact p3 y
        · exact p4 y
        · rw [kl] at y; exact absurd y (by decide))
      have rr := af5.2 rc1 hC1.2.2.2.2.1.1 (by
        rintro (y | y | ⟨-, y⟩)
        · exact s3 y
        · exact s4 y
        · rw [kr] at y; exact absurd y (by decide))
      have hC5 : CirP M5 (n0 + 8) lc1 rc1 (N ++ [(2 * N.length, 2 * N.length)]) := hC1.fr e15 r8 rl rr
      have hF5 : WvR n0 l0 r0 M0 M5 := hF1.tr af5 (fun cc z y => by
        unfold wvS
        rcases y with y | y | ⟨y, -⟩
        · exact Or.inr (Or.inr (Or.inr (Or.inr (Or.inl y))))
        · exact Or.inr (Or.inr (Or.inr (Or.inr (Or.inr (Or.inl y)))))
        · omega) (fun f _ _ _ => by rw [r8.1]) (fun f _ _ => by rw [r8.2.2.1])
      have hL5 : mL M5 lc1 = mL M1 lc1 := (e15.2.2 lc1 hC1.2.2.1.1).2
      have ob5 : ObE n0 M1 M5 := ⟨fun cc z1 z2 => (rlow cc (by omega) (by omega) (by omega)).2.2.2.1, fun cc z1 z2 => (rlow cc (by omega) (by omega) (by omega)).2.2.2.1, fun f _ => by rw [r8.1]⟩
      have hR1 : Ro.length = N.length := hRo.1
      have lH : (H ++ [v]).length = H.length + 1 := by rw [List.length_append]; rfl
      have hm5 : RmW M0 M5 l0 lc1 N0 b1' b2' (N ++ [(2 * N.length, 2 * N.length)], Ro ++ [(6, H.length)], H ++ [v]) := by
        show (mN M5 + 6 * N0 ≤ mN M0 + 6 * (N ++ [(2 * N.length, 2 * N.length)]).length ∧ 32 * mN M5 + mL M0 l0 ≤ 32 * mN M0 + mL M5 lc1 + 128 * (H ++ [v]).length) ∧ (mS M5 + 4 * mL M0 l0 ≤ mS M0 + 4 * mL M5 lc1 + 4 * Lb M5 b1' + 4 * Lb M5 b2' + 2 * (H ++ [v]).length ∧ Lb M5 b1' ≤ 10 + 2 * (H ++ [v]).length ∧ Lb M5 b2' ≤ 10 + 2 * (H ++ [v]).length) ∧ (H ++ [v]).length ≤ (N ++ [(2 * N.length, 2 * N.length)]).length
        have t1 := V2.2.2
        have t2 := F3.2.2.2.2.2.2.2 (by omega)
        have t3 := V4.2.2
        have t4 := F5.2.2.2.2.2.2.2 (by omega)
        have c5 : mN M1 + 2 * N.length ≤ mN M + 2 * (N ++ [(2 * N.length, 2 * N.length)]).length := F1.2.2.2.2.1.1
        have m1 : mN M + 6 * N0 ≤ mN M0 + 6 * N.length := hm.1.1
        have g1 : Lb M2 b1 = Lb M1 b1 := Lb_E hA11 V2.1.1
        have g2 : Lb M5 b1' = Lb M3 b1' := Lb_E A13 (V4.1.1.tr F5.1.1)
        have g3 : Lb M4 b2 = Lb M1 b2 := Lb_E hA21 ((V2.1.1.tr F3.1.1).tr V4.1.1)
        rw [ln1] at c5
        rw [ln1, lH, hL5]
        rw [hAl] at t4
        obtain ⟨⟨y1, y2⟩, ⟨y3, y4, y5⟩, y6⟩ := hm1
        obtain ⟨t2, t2'⟩ := t2
        obtain ⟨t4, t4'⟩ := t4
        have t2' := t2' (by rw [g1]; exact y4)
        have t4' := t4' (by rw [g3]; exact y5)
        clear hm
        omega
      have hh5 : ∀ i, i < (H ++ [v]).length → ∃ l, (hl ++ [Int32.ofNat (2 * N.length)]).getD i 0 = Int32.ofNat l ∧ rlC (Ro ++ [(6, H.length)]) l 6 i := by
        intro i hi
        rw [lH] at hi
        by_cases z : i = H.length
        · refine ⟨2 * N.length, ?_, ?_⟩
          · rw [z, ← hAl]; exact gdB
          · rw [z]
            refine ⟨by omega, ?_, ?_⟩
            · rw [List.length_append, hR1]; show 2 * N.length / 2 < N.length + 1; omega
            · rw [show 2 * N.length / 2 = Ro.length by omega]; exact gdB
        · obtain ⟨l, q1, q2⟩ := hh.1 i (by show i < H.length; omega)
          exact ⟨l, by rw [gdA (by omega)]; exact q1, rlC.app q2⟩
      have hh6 : ∀ n i, n < (N ++ [(2 * N.length, 2 * N.length)]).length → (Ro ++ [(6, H.length)]).getD n (0, 0) = (6, i) → (hl ++ [Int32.ofNat (2 * N.length)]).getD i 0 = Int32.ofNat (2 * n) ∧ (N ++ [(2 * N.length, 2 * N.length)]).getD n (0, 0) = (2 * n, 2 * n) := by
        intro n i hn ri
        rw [ln1] at hn
        by_cases z : n = N.length
        · rw [z, ← hR1, gdB] at ri
          have ei : H.length = i := congrArg Prod.snd ri
          rw [← ei, z]
          refine ⟨?_, gdB⟩
          rw [← hAl]; exact gdB
        · rw [gdA (by omega)] at ri
          have il := hRo.2.2 n i (by show n < N.length; omega) ri
          have il : i < H.length := il
          obtain ⟨p1, p2⟩ := hh.2 n i (by show n < N.length; omega) ri
          rw [gdA (by omega), gdA (by omega)]
          exact ⟨p1, p2⟩
      refine K M5 (N ++ [(2 * N.length, 2 * N.length)], Ro ++ [(6, H.length)], H ++ [v]) _ ⟨lc1, rc1, b1', b2', hl ++ [Int32.ofNat (2 * N.length)], ⟨low_fix F1' e15 (fun cc z _ => rlow cc (by omega) (by omega) (by omega)) (rlow 21 (by omega) (by omega) (by omega)).2.2.1, hT1.low (fun cc z => rlow cc (by omega) (by omega) (by omega)), by rw [(rlow 21 (by omega) (by omega) (by omega)).2.2.1]; exact h81⟩, hC5, ⟨hlc1, hrc1⟩, ⟨A15, A25, by rw [List.length_append, hAl]; exact lH.symm⟩, bb5, hF5, r3, ⟨hh5, hh6⟩, hm5⟩ (w2.tr ob5) (r4.more (fun _ _ z => absurd rfl z.1)) ⟨by show (N ++ [(2 * N.length, 2 * N.length)]).length ≤ N.length + 1; rw [ln1]; exact Nat.le_refl _, by show (H ++ [v]).length ≤ H.length + 1; rw [lH]; exact Nat.le_refl _⟩ ⟨2 * N.length, rfl, by show 2 * N.length < 2 * (N ++ [(2 * N.length, 2 * N.length)]).length; rw [ln1]; omega⟩ (fun w HV g => ?_)
      have e := g.2.2 N.length H.length (by show N.length < (Ro ++ [(6, H.length)]).length; rw [List.length_append, hR1]; exact Nat.lt_succ_self _) (by show (Ro ++ [(6, H.length)]).getD N.length (0, 0) = _; rw [← hR1]; exact gdB)
      have e : w N.length = HV ((H ++ [v]).getD H.length 0) := e
      rw [gdB] at e
      rw [lV_of (by omega), lv_2, e]
  exact main H.length 0 (by omega)
end
