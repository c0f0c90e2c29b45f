section
/-! the weaver's circuit: and, or, not, fresh, close, holding -/
theorem us1_of {l : Nat} (h : l < 2147483648) : us1 (Int32.ofNat l) = Int32.ofNat (l / 2) := by
  refine Int32.toBitVec_inj.mp ?_
  rw [us1_b, Int32.toBitVec_ofNat', Int32.toBitVec_ofNat']
  refine BitVec.eq_of_toNat_eq ?_
  rw [BitVec.toNat_ushiftRight, BitVec.toNat_ofNat, BitVec.toNat_ofNat, Nat.mod_eq_of_lt (by omega), Nat.mod_eq_of_lt (by omega), Nat.shiftRight_eq_div_pow]
theorem gd_set {N : Nt} {n j : Nat} {e : Nat × Nat} (hn : n < N.length) : (N.set n e).getD j (0, 0) = if j = n then e else N.getD j (0, 0) := by
  rw [List.getD_eq_getElem?_getD, List.getD_eq_getElem?_getD, List.getElem?_set]
  by_cases z : n = j
  · rw [if_pos z, if_pos z.symm, if_pos (by omega)]; rfl
  · rw [if_neg z, if_neg (fun q => z q.symm)]
section
variable {n0 l0 r0 N0 : Nat} {Θ : TrT} {M0 M M' : Mem} {Ψ Ψ' : Wg} {lc rc b1 b2 : Nat} {hl : List Int32} {h : Nat} {Q : Option Value → Mem → Prop} {a c : Int32}
theorem W_not (ha : okI Ψ a) (hlim : Ψ.1.length < 100000) (K : ∀ r, okI Ψ r → (∀ w HV, gW Ψ w HV → lV w r = v3N (lV w a)) → Q (some (.int r)) M) : E (h + 1) mdX0_not [.int a] M Q := by
  obtain ⟨l, e, hl2⟩ := ha
  subst e
  have q := nlt_lt hl2
  refine S_not (by omega) (K _ ⟨nlt l, rfl, q⟩ (fun w HV g => ?_))
  rw [lV_of (by omega), lV_of (by omega), lv_n g.1.2.1]
theorem or_nz {N : Nt} {a c : Nat} : (orL N a c).1.length + (if (orL N a c).2 = 0 then 0 else 1) ≤ N.length + (if a = 0 then 0 else 1) + (if c = 0 then 0 else 1) := by
  have na : ∀ {x : Nat}, (nlt x = 0 ↔ x = 1) ∧ (nlt x = 1 ↔ x = 0) := fun {x} => by unfold nlt; split <;> omega
  unfold orL
  by_cases e1 : nlt a = 0 ∨ nlt c = 0
  · have e : anL N (nlt a) (nlt c) = (N, 0) := by unfold anL; rw [if_pos e1]
    rw [e]
    show N.length + (if nlt 0 = 0 then 0 else 1) ≤ _
    rw [if_neg (show ¬ nlt 0 = 0 by decide)]
    rcases e1 with q | q
    · rw [if_neg (show ¬ a = 0 by have := (na (x := a)).1.mp q; omega)]; omega
    · rw [if_neg (show ¬ c = 0 by have := (na (x := c)).1.mp q; omega)]; omega
  by_cases e2 : nlt a = 1 ∨ nlt a = nlt c
  · have e : anL N (nlt a) (nlt c) = (N, nlt c) := by unfold anL; rw [if_neg e1, if_pos e2]
    rw [e]
    show N.length + (if nlt (nlt c) = 0 then 0 else 1) ≤ _
    rw [nlt_nlt]; omega
  by_cases e3 : nlt c = 1
  · have e : anL N (nlt a) (nlt c) = (N, nlt a) := by unfold anL; rw [if_neg e1, if_neg e2, if_pos e3]
    rw [e]
    show N.length + (if nlt (nlt a) = 0 then 0 else 1) ≤ _
    rw [nlt_nlt]; omega
  · have e : anL N (nlt a) (nlt c) = (N ++ [(nlt a, nlt c)], 2 * N.length) := by unfold anL; rw [if_neg e1, if_neg e2, if_neg e3]
    rw [e]
    show (N ++ [(nlt a, nlt c)]).length + (if nlt (2 * N.length) = 0 then 0 else 1) ≤ _
    have l : (N ++ [(nlt a, nlt c)]).length = N.length + 1 := by rw [List.length_append]; rfl
    rw [l, if_neg (show ¬ a = 0 from fun z => e2 (Or.inl ((na (x := a)).2.mpr z))), if_neg (show ¬ c = 0 from fun z => e3 ((na (x := c)).2.mpr z))]
    split <;> omega
theorem nz_of {l : Nat} (h : l < 2147483648) : nz (Int32.ofNat l) = if l = 0 then 0 else 1 := by
  unfold nz
  by_cases z : l = 0
  · rw [if_pos z, if_pos (by rw [z]; rfl)]
  · rw [if_neg z, if_neg (show ¬ Int32.ofNat l = 0 from fun y => z (inj32 (a := l) (b := 0) h (by decide) y))]
theorem W_and (hB : WvB n0 l0 r0 M0) (hW : WvP n0 l0 r0 N0 Θ M0 Ψ M) (hlim : Ψ.1.length < 99999) (ha : okI Ψ a) (hc : okI Ψ c) (K : ∀ M' Ψ' r, WvP n0 l0 r0 N0 Θ M0 Ψ' M' → ObE n0 M M' → Gr noN Ψ Ψ' → (Ψ'.1.length ≤ Ψ.1.length + 1 ∧ Ψ'.2.2.length = Ψ.2.2.length) → okI Ψ' r → (∀ w HV, gW Ψ' w HV → lV w r = v3A (lV w a) (lV w c)) → Q (some (.int r)) M') : E (h + 4) mdX0_and [.ref (n0 + 8), .int a, .int c] M Q := by
  obtain ⟨lc, rc, b1, b2, hl, hH⟩ := hW
  obtain ⟨la, ea, ha⟩ := ha
  obtain ⟨lb, eb, hb⟩ := hc
  subst ea
  subst eb
  obtain ⟨N, Ro, H⟩ := Ψ
  have ha : la < 2 * N.length := ha
  have hb : lb < 2 * N.length := hb
  have hlim : N.length < 99999 := hlim
  have hRo := hH.2.2.2.2.2.2.1
  have l1 : 1 ≤ N.length := hH.2.1.2.2.2.2.2.2.1.1
  obtain ⟨r1, r2, r3⟩ := RoW.an hRo ha hb
  have ln := anL_lt l1 ha hb
  refine S_and hH.2.1 (by show N.length < 100000; omega) ha hb (fun M' lc' rc' P' F' => ?_)
  obtain ⟨w1, w2⟩ := WvH.cir (Ψ' := ((anL N la lb).1, roA N Ro la lb, H)) hB hH P' F' r1 r2 rfl (an_6 hRo.1)
  refine K M' _ _ ⟨lc', rc', b1, b2, hl, w1⟩ w2 r2 ⟨r3, rfl⟩ ⟨_, rfl, ln⟩ (fun w HV g => ?_)
  show lV w (Int32.ofNat (anL N la lb).2) = _
  rw [lV_of (by omega), lV_of (by omega), lV_of (by omega)]
  exact lR_an hRo.1 g.1
theorem W_or (hB : WvB n0 l0 r0 M0) (hW : WvP n0 l0 r0 N0 Θ M0 Ψ M) (hlim : Ψ.1.length < 99999) (ha : okI Ψ a) (hc : okI Ψ c) (K : ∀ M' Ψ' r, WvP n0 l0 r0 N0 Θ M0 Ψ' M' → ObE n0 M M' → Gr noN Ψ Ψ' → (Ψ'.1.length ≤ Ψ.1.length + 1 ∧ Ψ'.2.2.length = Ψ.2.2.length ∧ Ψ'.1.length + nz r ≤ Ψ.1.length + nz a + nz c) → okI Ψ' r → (∀ w HV, gW Ψ' w HV → lV w r = v3O (lV w a) (lV w c)) → Q (some (.int r)) M') : E (h + 5) mdX0_or [.ref (n0 + 8), .int a, .int c] M Q := by
  obtain ⟨lc, rc, b1, b2, hl, hH⟩ := hW
  obtain ⟨la, ea, ha⟩ := ha
  obtain ⟨lb, eb, hb⟩ := hc
  subst ea
  subst eb
  obtain ⟨N, Ro, H⟩ := Ψ
  have ha : la < 2 * N.length := ha
  have hb : lb < 2 * N.length := hb
  have hlim : N.length < 99999 := hlim
  have hRo := hH.2.2.2.2.2.2.1
  have l1 : 1 ≤ N.length := hH.2.1.2.2.2.2.2.2.1.1
  obtain ⟨r1, r2, r3⟩ := RoW.an hRo (nlt_lt ha) (nlt_lt hb)
  have ln := orL_lt l1 ha hb
  have ln2 := anL_lt l1 (nlt_lt ha) (nlt_lt hb)
  have e0 : (orL N la lb).1 = (anL N (nlt la) (nlt lb)).1 := rfl
  have ln3 : (orL N la lb).2 < 2147483648 := by
    have := ln
    rw [e0] at this
    omega
  have oz : (orL N la lb).1.length + nz (Int32.ofNat (orL N la lb).2) ≤ N.length + nz (Int32.ofNat la) + nz (Int32.ofNat lb) := by
    rw [nz_of (l := la) (by omega), nz_of (l := lb) (by omega), nz_of (l := (orL N la lb).2) ln3]
    exact or_nz
  refine S_or hH.2.1 (by show N.length < 100000; omega) ha hb (fun M' lc' rc' P' F' => ?_)
  obtain ⟨w1, w2⟩ := WvH.cir (Ψ' := ((anL N (nlt la) (nlt lb)).1, roA N Ro (nlt la) (nlt lb), H)) hB hH P' F' r1 r2 rfl (an_6 hRo.1)
  refine K M' _ _ ⟨lc', rc', b1, b2, hl, w1⟩ w2 r2 ⟨r3, rfl, oz⟩ ⟨_, rfl, ln⟩ (fun w HV g => ?_)
  rw [e0] at ln
  show lV w (Int32.ofNat (orL N la lb).2) = _
  rw [lV_of (by omega), lV_of (by omega), lV_of (by omega)]
  show lvN w (nlt (anL N (nlt la) (nlt lb)).2) = _
  have g2 := g.1.2.1
  rw [lv_n g2, lR_an hRo.1 g.1, lv_n g2, lv_n g2, v3_or (lv_le g2) (lv_le g2)]
theorem W_fresh {k x : Nat} (hB : WvB n0 l0 r0 M0) (hW : WvP n0 l0 r0 N0 Θ M0 Ψ M) (hlim : Ψ.1.length < 99999) (hk : k ≠ 0) (h6 : k ≠ 6) (K : ∀ M' Ψ', WvP n0 l0 r0 N0 Θ M0 Ψ' M' → ObE n0 M M' → Gr (fun n => n = Ψ.1.length) Ψ Ψ' → (Ψ'.1.length = Ψ.1.length + 1 ∧ Ψ'.2.2.length = Ψ.2.2.length) → rlC Ψ'.2.1 (2 * Ψ.1.length) k x → Q (some (.int (Int32.ofNat (2 * Ψ.1.length)))) M') : E (h + 4) mdX0_fresh [.ref (n0 + 8)] M Q := by
  obtain ⟨lc, rc, b1, b2, hl, hH⟩ := hW
  obtain ⟨N, Ro, H⟩ := Ψ
  have hlim : N.length < 99999 := hlim
  have hRo := hH.2.2.2.2.2.2.1
  have h1 : Ro.length = N.length := hRo.1
  obtain ⟨r1, r2⟩ := RoW.fre (H' := H) (k := k) (x := x) hRo hk ⟨[], (List.append_nil _).symm⟩ (fun z => absurd z h6)
  refine S_fresh hH.2.1 (by show N.length < 100000; omega) (fun M' lc' rc' P' F' => ?_)
  obtain ⟨w1, w2⟩ := WvH.cirC (Ψ' := (N ++ [(2 * N.length, 2 * N.length)], Ro ++ [(k, x)], H)) hB hH P' F' r1 r2 rfl (fun n i hn ri => ⟨fre_6 h1 h6 n i hn ri, gdA (fre_6 h1 h6 n i hn ri)⟩)
  refine K M' _ ⟨lc', rc', b1, b2, hl, w1⟩ w2 (r2.more (fun _ _ z => z.2)) ⟨by rw [List.length_append]; rfl, rfl⟩ ?_
  show rlC (Ro ++ [(k, x)]) (2 * N.length) k x
  refine ⟨by omega, ?_, ?_⟩
  · rw [List.length_append, h1]; show 2 * N.length / 2 < N.length + 1; omega
  · rw [show 2 * N.length / 2 = Ro.length by omega]; exact gdB
theorem CirP.set {x n l : Nat} {N : Nt} (hP : CirP M x lc rc N) (hn : n < N.length) (hl : l < 2 * N.length) (hM : N.length < 100000) (e : M' = wAI (wAI M lc n (Int32.ofNat l)) rc n (Int32.ofNat l)) : CirP M' x lc rc (N.set n (l, l)) := by
  obtain ⟨o1, c1, o2, c2, o3, i1, ⟨q1, q2, q3, q4, q5⟩, v, wf, ⟨d1, d2, d3⟩⟩ := hP
  refine ⟨by rw [e]; exact o1, by rw [e]; exact c1, by rw [e]; exact o2, by rw [e]; exact c2, by rw [e]; exact o3, by rw [e, List.length_set]; exact i1, ?_, fun j hj => ?_, fun y hy => ?_, d1, d2, d3⟩
  · rw [e, List.length_set]; exact ⟨q1, q2, q3, q4, q5⟩
  · rw [List.length_set] at hj
    rw [gd_set hn, e]
    by_cases z : j = n
    · rw [if_pos z]
      exact ⟨by rw [mAI_wAI, if_neg (fun w => d3 w.1), mAI_wAI, if_pos ⟨rfl, z⟩], by rw [mAI_wAI, if_pos ⟨rfl, z⟩]⟩
    · rw [if_neg z]
      exact ⟨by rw [mAI_wAI, if_neg (fun w => z w.2), mAI_wAI, if_neg (fun w => z w.2)]; exact (v j hj).1, by rw [mAI_wAI, if_neg (fun w => z w.2), mAI_wAI, if_neg (fun w => z w.2)]; exact (v j hj).2⟩
  · rw [List.length_set]
    rcases List.mem_or_eq_of_mem_set hy with z | z
    · exact wf y z
    · rw [z]; exact ⟨hl, hl⟩
theorem W_close {n l : Nat} (hB : WvB n0 l0 r0 M0) (hW : WvP n0 l0 r0 N0 Θ M0 Ψ M) (hlim : Ψ.1.length < 99999) (hn : n < Ψ.1.length) (hr : (Ψ.2.1.getD n (0, 0)).1 ≠ 0 ∧ (Ψ.2.1.getD n (0, 0)).1 ≠ 6) (hl : l < 2 * Ψ.1.length) (K : ∀ M' Ψ', WvP n0 l0 r0 N0 Θ M0 Ψ' M' → ObE n0 M M' → Gr (fun z => z = n) Ψ Ψ' → Ψ'.1.length = Ψ.1.length → Ψ'.1.getD n (0, 0) = (l, l) → Ψ'.2 = Ψ.2 → Q none M') : E (h + 1) mdX0_close [.ref (n0 + 8), .int (Int32.ofNat (2 * n)), .int (Int32.ofNat l)] M Q := by
  obtain ⟨lc, rc, b1, b2, hls, hH⟩ := hW
  obtain ⟨⟨F, hT, h8⟩, hC, ⟨hlc, hrc⟩, ⟨hA1, hA2, hAl⟩, hbb, hF, hRo, hh, hm⟩ := id hH
  obtain ⟨N, Ro, H⟩ := Ψ
  have hn : n < N.length := hn
  have hl : l < 2 * N.length := hl
  have hlim : N.length < 99999 := hlim
  obtain ⟨o1, c1, o2, c2, o3, i1, ⟨q1, q2, q3, q4, q5⟩, v, wf, ⟨d1, d2, d3⟩⟩ := id hC
  have q2 : N.length ≤ mL M lc := q2
  have q5 : mL M lc ≤ 64 + 2 * N.length := q5
  have us : ((Int32.ofNat (2 * n)).toUInt32 >>> ((1 : Int32).toUInt32 &&& Int32.toUInt32 31)).toInt32 = Int32.ofNat n := by
    have := us1_of (l := 2 * n) (by omega)
    rw [show 2 * n / 2 = n by omega] at this
    exact this
  refine KX0_close ?_
  unfold DX0_close_0
  rw [us, lt32 (by omega)]
  refine ⟨o1, lc, c1, o2, vp_of (by omega) (by omega), fun M4 e4 => ⟨rc, by rw [e4]; exact c2, by rw [e4]; exact o3, by rw [e4]; show vp_in _ (mL M rc); rw [q3]; exact vp_of (by omega) (by omega), fun M7 e7 => ?_⟩⟩
  rw [e4] at e7
  have hP7 : CirP M7 (n0 + 8) lc rc (N.set n (l, l)) := hC.set hn hl (by omega) e7
  have fr7 : fr (fun c => c = lc ∨ c = rc) M M7 := by
    rw [e7]
    exact (fr_wAI (S := fun c => c = lc ∨ c = rc) (Or.inl rfl)).tr (fr_wAI (S := fun c => c = lc ∨ c = rc) (Or.inr rfl)) (fun _ _ z => z)
  have cf : CirF M M7 (n0 + 8) lc rc lc rc N (N.set n (l, l)) := ⟨fr7.more (fun c _ z => Or.inr z), fun f _ => by rw [e7]; rfl, fun f _ _ => by rw [e7]; rfl, by rw [e7]; rfl, by rw [e7, List.length_set]; exact ⟨Nat.le_refl _, Nat.le_refl _⟩, by rw [e7]; rfl, Or.inl rfl, Or.inl rfl, by rw [e7]; exact Nat.le_refl _⟩
  have hR' : RoW (N.set n (l, l), Ro, H) := by
    refine ⟨by rw [List.length_set]; exact hRo.1, fun k hk r0 => ?_, fun k i hk ri => hRo.2.2 k i (by rw [List.length_set] at hk; exact hk) ri⟩
    have hk : k < (N.set n (l, l)).length := hk
    rw [List.length_set] at hk
    show ((N.set n (l, l)).getD k (0, 0)).1 < _ ∧ _
    rw [gd_set hn]
    by_cases z : k = n
    · rw [z] at r0; exact absurd r0 hr.1
    · rw [if_neg z]; exact hRo.2.1 k hk r0
  have gr0 : Gr (fun z => z = n) (N, Ro, H) (N.set n (l, l), Ro, H) := ⟨by rw [List.length_set]; exact Nat.le_refl _, fun k hk z => by show (N.set n (l, l)).getD k (0, 0) = _; rw [gd_set hn, if_neg z], fun _ _ => rfl, ⟨[], (List.append_nil _).symm⟩, fun k z1 z2 => absurd z2 (by show ¬ k < (N.set n (l, l)).length; rw [List.length_set]; exact Nat.not_lt.mpr z1)⟩
  have h6 : ∀ k i, k < (N.set n (l, l)).length → Ro.getD k (0, 0) = (6, i) → k < N.length ∧ (N.set n (l, l)).getD k (0, 0) = N.getD k (0, 0) := fun k i hk ri => by
    rw [List.length_set] at hk
    refine ⟨hk, ?_⟩
    rw [gd_set hn, if_neg (fun z => hr.2 (by show (Ro.getD n (0, 0)).1 = 6; rw [← z, ri]))]
  obtain ⟨w1, w2⟩ := WvH.cirC (Ψ' := (N.set n (l, l), Ro, H)) hB hH hP7 cf hR' gr0 rfl h6
  exact K M7 _ ⟨lc, rc, b1, b2, hls, w1⟩ w2 gr0 List.length_set (by show (N.set n (l, l)).getD n (0, 0) = _; rw [gd_set hn, if_pos rfl]) rfl
end
end
section
/-! the weaver's circuit: holding -/
section
variable {n0 l0 r0 N0 : Nat} {Θ : TrT} {M0 M M' : Mem} {Ψ Ψ' : Wg} {lc rc b1 b2 : Nat} {hl : List Int32} {h : Nat} {Q : Option Value → Mem → Prop} {a c : Int32}
theorem hd_get {x0 a1 a2 i : Nat} {xs : List Int32} {v : Int32} (ox : ok M x0 2) (f5 : mR M x0 5 = some a1) (f6 : mR M x0 6 = some a2) (hA1 : ALi M a1 b1 xs) (hA2 : ALi M a2 b2 hl) (hi : i < xs.length) (hl2 : hl.length = xs.length) (hm : xs.length < 200000) (K0 : xs.getD i 0 ≠ v → T (h + 4) mdX0_holding 8 [(0, .ref x0), (1, .int v), (2, .int (Int32.ofNat (i + 1)))] [] M Q) (K1 : xs.getD i 0 = v → Q (some (.int (hl.getD i 0))) M) : T (h + 4) mdX0_holding 8 [(0, .ref x0), (1, .int v), (2, .int (Int32.ofNat i))] [] M Q := by
  obtain ⟨l1, A1, n1, e1⟩ := hA1
  obtain ⟨l2, A2, n2, e2⟩ := hA2
  refine xt_iload_n (j := 2) dX0_holding_8 rfl rfl ?_
  refine xt_aload_n (j := 0) dX0_holding_9 rfl rfl ?_
  refine xt_getR dX0_holding_10 (flX0_29 rfl) ft_2_5 ox.1 ox.2 f5 ?_
  refine xt_callV (h2 := h + 3) (as := []) (st := [.int (Int32.ofNat i)]) dX0_holding_13 (mlX0_103 rfl) rfl A1.1.1 ⟨by rw [A1.1.2]; rfl, by rw [A1.1.2]; decide⟩ (by simp [Value.category]) (Nat.le_refl _) (S_alSize (h := h + 2) (Q := fun r M' => r = some (.int (Int32.ofNat l1.length)) ∧ M' = M) A1 ⟨rfl, rfl⟩) (fun r M4 HH hE => ?_)
  obtain ⟨hr, hM⟩ := HH
  subst hr
  rw [hM]
  clear hE hM M4
  show T _ _ _ _ [.int (Int32.ofNat l1.length), .int (Int32.ofNat i)] _ _
  refine xt_icmp_ge (tgt := 60) dX0_holding_16 (by decide) (fun hc => ?_) (fun _ => ?_)
  · have := (le32 (by omega) (by omega)).mp hc
    omega
  refine xt_aload_n (j := 0) dX0_holding_19 rfl rfl ?_
  refine xt_getR dX0_holding_20 (flX0_29 rfl) ft_2_5 ox.1 ox.2 f5 ?_
  refine xt_iload_n (j := 2) dX0_holding_23 rfl rfl ?_
  refine xt_callV (h2 := h + 3) (as := [.int (Int32.ofNat i)]) (st := []) dX0_holding_24 (mlX0_106 rfl) rfl A1.1.1 ⟨by rw [A1.1.2]; rfl, by rw [A1.1.2]; decide⟩ (by simp [Value.category]) (Nat.le_refl _) (S_get (h := h) (Q := fun r M' => r = some (.ref (l1.getD i 0)) ∧ M' = M) A1 (by omega) ⟨rfl, rfl⟩) (fun r M5 HH hE => ?_)
  obtain ⟨hr, hM⟩ := HH
  subst hr
  rw [hM]
  clear hE hM M5
  show T _ _ _ _ [.ref (l1.getD i 0)] _ _
  refine xt_unbox (h := h + 2) dX0_holding_27 dX0_holding_30 (ccX0_86 rfl) (mlX0_110 rfl) (e1 i (by omega)) (by simp [Value.category]) ?_
  refine xt_istore_n (lv' := [(3, .int (xs.getD i 0)), (0, .ref x0), (1, .int v), (2, .int (Int32.ofNat i))]) dX0_holding_33 rfl (by decide) rfl ?_
  refine xt_iload_n (j := 0) dX0_holding_34 rfl rfl ?_
  refine xt_iload_n (j := 2) dX0_holding_35 rfl rfl ?_
  refine xt_icmp_ne (tgt := 54) dX0_holding_36 (by decide) (fun hc => ?_) (fun hc => ?_)
  · refine xt_iinc (j := 3) (v := Int32.ofNat i + 1) (lv' := [(2, .int (Int32.ofNat i + 1)), (3, .int (xs.getD i 0)), (0, .ref x0), (1, .int v)]) dX0_holding_54 rfl (by rfl) (by decide) rfl ?_
    refine xt_goto (tgt := 8) dX0_holding_57 (by decide) ?_
    refine xt_sub (lv' := [(0, .ref x0), (1, .int v), (2, .int (Int32.ofNat i + 1))]) [2, 3, 0] rfl ?_
    rw [succ32]
    exact K0 hc
  · refine xt_aload_n (j := 1) dX0_holding_39 rfl rfl ?_
    refine xt_getR dX0_holding_40 (flX0_33 rfl) ft_2_6 ox.1 ox.2 f6 ?_
    refine xt_iload_n (j := 3) dX0_holding_43 rfl rfl ?_
    refine xt_callV (h2 := h + 3) (as := [.int (Int32.ofNat i)]) (st := []) dX0_holding_44 (mlX0_106 rfl) rfl A2.1.1 ⟨by rw [A2.1.2]; rfl, by rw [A2.1.2]; decide⟩ (by simp [Value.category]) (Nat.le_refl _) (S_get (h := h) (Q := fun r M' => r = some (.ref (l2.getD i 0)) ∧ M' = M) A2 (by omega) ⟨rfl, rfl⟩) (fun r M6 HH hE => ?_)
    obtain ⟨hr, hM⟩ := HH
    subst hr
    rw [hM]
    clear hE hM M6
    show T _ _ _ _ [.ref (l2.getD i 0)] _ _
    refine xt_unbox (h := h + 2) dX0_holding_47 dX0_holding_50 (ccX0_86 rfl) (mlX0_110 rfl) (e2 i (by omega)) (by simp [Value.category]) ?_
    exact xt_ireturn dX0_holding_53 rfl (K1 hc)
theorem ALi.row {a1 : Nat} {xs : List Int32} (hA : ALi M a1 b1 xs) : b1 = mBig + 5 ∧ xs = [] ∨ ok M b1 24 := by
  obtain ⟨l, h1, h2, -⟩ := hA
  rcases h1.2.2.2.2.2 with ⟨q1, q2⟩ | q
  · rw [q2] at h2
    exact Or.inl ⟨q1, List.eq_nil_of_length_eq_zero h2.symm⟩
  · exact Or.inr q.1
theorem ALi.ok1 {a1 : Nat} {xs : List Int32} (hA : ALi M a1 b1 xs) : ok M a1 1 := by
  obtain ⟨l, h1, -⟩ := hA
  exact h1.1
theorem bb_a {b1 b1' n m2 : Nat} (h : b1 = mBig + 5 ∨ n ≤ b1) (d : b1' = b1 ∨ b1' = m2) (hm : n ≤ m2) : b1' = mBig + 5 ∨ n ≤ b1' := by omega
theorem bb_b {b n m c : Nat} (h : b = mBig + 5 ∨ n ≤ b) (hc : c < m) (hm : m ≤ mBig) (e : c = b) : n ≤ c := by omega
/-- what two lists change -/
def AdF (M0 M1 M5 : Mem) (a1 a2 : Nat) : Prop := fr (fun c => c = a1 ∨ c = a2 ∨ (mN M0 ≤ c ∧ mK M1 c = 24)) M1 M5
theorem ad2 {M1 M2 M3 M4 M5 : Mem} {a1 a2 b1' b2' : Nat} {H : List Int32} {v u : Int32} (hA1 : ALi M1 a1 b1 H) (hA2 : ALi M1 a2 b2 hl) (hne : a1 ≠ a2) (hbb : BbW M0 b1 b2) (h01 : mN M0 ≤ mN M1) (V2 : VoF M1 M2) (F3 : ALF M2 M3 a1 b1 b1' H.length) (A13 : ALi M3 a1 b1' (H ++ [v])) (V4 : VoF M3 M4) (F5 : ALF M4 M5 a2 b2 b2' hl.length) (A25 : ALi M5 a2 b2' (hl ++ [u])) (big : mN M5 ≤ mBig) : ALi M5 a1 b1' (H ++ [v]) ∧ BbW M0 b1' b2' ∧ AdF M0 M1 M5 a1 a2 := by
  have N12 := V2.1.1.1
  have N23 := F3.1.1.1
  have N34 := V4.1.1.1
  have N45 := F5.1.1.1
  have fz : ∀ {Ma Mb : Mem} {a b : Nat} {xs : List Int32}, fr (fun _ => False) Ma Mb → ALi Ma a b xs → ALi Mb a b xs := fun k A => A.fr k (fun z => z) (fun _ z => z) (fun _ _ z => z.elim)
  have A12 := fz V2.1 hA1
  have A22 := fz V2.1 hA2
  have k1 := A12.ok1.2
  have k2 := A22.ok1.2
  have ob1 : ok M3 b1' 24 := by
    rcases A13.row with q | q
    · exact absurd q.2 (by simp)
    · exact q
  have ob2 : ok M5 b2' 24 := by
    rcases A25.row with q | q
    · exact absurd q.2 (by simp)
    · exact q
  have d1 := F3.2.2.2.2.1
  have d2 := F5.2.2.2.2.1
  have nb12 : b1' ≠ b2 := by
    intro z
    rcases d1 with q | q
    · have e := hbb.2.2 (q.symm.trans z)
      have := ob1.1
      rw [q, e] at this
      omega
    · rcases A22.row with w | w
      · have := w.1
        omega
      · have := w.1
        omega
  have A14 := fz V4.1 A13
  have k14 := A14.ok1.2
  have k24 : mK M4 a2 = 1 := by
    have e1 := (V2.1.1.2.2 a2 hA2.ok1.1).1
    have e2 := (F3.1.1.2.2 a2 A22.ok1.1).1
    have e3 := (V4.1.1.2.2 a2 (Nat.lt_of_lt_of_le A22.ok1.1 N23)).1
    rw [e3, e2]; exact k2
  have A15 : ALi M5 a1 b1' (H ++ [v]) := by
    refine ali_fr3 A14 F5.1 ?_ (fun o z => ?_) (fun c _ z w => ?_)
    · rintro (z | ⟨-, z⟩)
      · exact hne z
      · rw [k14] at z; exact absurd z (by decide)
    · rcases z with z | ⟨z, -⟩
      · have := o.2
        rw [z, k24] at this
        exact absurd this (by decide)
      · exact nb12 z
    · rcases z with z | ⟨-, z⟩
      · rw [z, k24] at w; exact absurd w (by decide)
      · rw [z] at w; exact absurd w (by decide)
  refine ⟨A15, ⟨bb_a hbb.1 d1 (by omega), bb_a hbb.2.1 d2 (by omega), fun z => ?_⟩, ?_⟩
  · rcases d2 with q | q
    · exact absurd (z.trans q) nb12
    · have := ob1.1
      omega
  · unfold AdF
    have f2 : fr (fun c => c = a1 ∨ c = a2 ∨ (mN M0 ≤ c ∧ mK M1 c = 24)) M1 M2 := V2.1.more (fun _ _ z => z.elim)
    have f3 := f2.tr F3.1 (fun c hc z => by
      rcases z with z | ⟨z, w⟩
      · exact Or.inl z
      · rw [(V2.1.1.2.2 c hc).1] at w
        exact Or.inr (Or.inr ⟨bb_b hbb.1 hc (by omega) z, w⟩))
    have f4 := f3.tr V4.1 (fun c hc z => z.elim)
    refine f4.tr F5.1 (fun c hc z => ?_)
    rcases z with z | ⟨z, w⟩
    · exact Or.inr (Or.inl z)
    · rw [(V4.1.1.2.2 c (by omega)).1, (F3.1.1.2.2 c (by omega)).1, (V2.1.1.2.2 c hc).1] at w
      exact Or.inr (Or.inr ⟨bb_b hbb.2.1 hc (by omega) z, w⟩)
/-- the second list as it stands when the first has been added to -/
theorem ad1 {M1 M2 M3 : Mem} {a1 a2 b1' : Nat} {H : List Int32} (hA1 : ALi M1 a1 b1 H) (hA2 : ALi M1 a2 b2 hl) (hne : a1 ≠ a2) (hbb : BbW M0 b1 b2) (V2 : VoF M1 M2) (F3 : ALF M2 M3 a1 b1 b1' H.length) (big : mN M2 ≤ mBig) : ALi M3 a2 b2 hl := by
  have fz : ∀ {Ma Mb : Mem} {a b : Nat} {xs : List Int32}, fr (fun _ => False) Ma Mb → ALi Ma a b xs → ALi Mb a b xs := fun k A => A.fr k (fun z => z) (fun _ z => z) (fun _ _ z => z.elim)
  have A12 := fz V2.1 hA1
  have A22 := fz V2.1 hA2
  refine ali_fr3 A22 F3.1 ?_ (fun o z => ?_) (fun c _ z w => ?_)
  · rintro (z | ⟨-, z⟩)
    · exact hne z.symm
    · rw [A22.ok1.2] at z; exact absurd z (by decide)
  · rcases z with z | ⟨z, -⟩
    · have := o.2
      rw [z, A12.ok1.2] at this
      exact absurd this (by decide)
    · have e := hbb.2.2 z.symm
      have := o.1
      rw [z, e] at this
      omega
  · rcases z with z | ⟨-, z⟩
    · rw [z, A12.ok1.2] at w; exact absurd w (by decide)
    · rw [z] at w; exact absurd w (by decide)
theorem sq_H (n : Nat) : (n + 1) * (24 + 4 * (n + 1)) = n * (24 + 4 * n) + 8 * n + 28 := by
  have e1 : 24 + 4 * (n + 1) = (24 + 4 * n) + 4 := by omega
  rw [e1, Nat.succ_mul, Nat.mul_add n (24 + 4 * n) 4]
  omega
theorem W_hold {v : Int32} (hB : WvB n0 l0 r0 M0) (hW : WvP n0 l0 r0 N0 Θ M0 Ψ M) (hlim : Ψ.1.length < 99990) (K : ∀ M' Ψ' r, WvP n0 l0 r0 N0 Θ M0 Ψ' M' → ObE n0 M M' → Gr noN Ψ Ψ' → (Ψ'.1.length ≤ Ψ.1.length + 1 ∧ Ψ'.2.2.length ≤ Ψ.2.2.length + 1) → okI Ψ' r → (∀ w HV, gW Ψ' w HV → lV w r = HV v) → Q (some (.int r)) M') : E (h + 7) mdX0_holding [.ref (n0 + 8), .int v] M Q := by
  obtain ⟨lc, rc, b1, b2, hl, hH⟩ := id hW
  obtain ⟨N, Ro, H⟩ := Ψ
  have hlim : N.length < 99990 := hlim
  obtain ⟨⟨F, hT, h8⟩, hC, ⟨hlc, hrc⟩, ⟨hA1, hA2, hAl⟩, hbb, hF, hRo, hh, hm⟩ := id hH
  have hA1 : ALi M (n0 + 13) b1 H := hA1
  have hAl : hl.length = H.length := hAl
  obtain ⟨⟨n1, n2⟩, n3, ⟨f5, f6, -⟩, -, -, ⟨n5, n6⟩, n7⟩ := id hB
  have l1 : 1 ≤ N.length := hC.2.2.2.2.2.2.1.1
  have hHN : H.length ≤ N.length := hm.2.2
  have g5 : mR M (n0 + 8) 5 = some (n0 + 13) := (hF.2.2 5 (by decide) (by decide)).trans f5
  have g6 : mR M (n0 + 8) 6 = some (n0 + 14) := (hF.2.2 6 (by decide) (by decide)).trans f6
  refine KX0_holding (h := h + 6) ?_
  unfold DX0_holding_0
  have hz : v = 0 → Q (some (.int 0)) M := fun v0 => by
    refine K M (N, Ro, H) 0 hW ObE.rf Gr.rf ⟨Nat.le_succ _, Nat.le_succ _⟩ ⟨0, rfl, by show 0 < 2 * N.length; omega⟩ (fun w HV g => ?_)
    have e : (0 : Int32) = Int32.ofNat 0 := rfl
    rw [v0, e, lV_of (by decide), lR_0 g.1, ← e]
    exact g.2.1.symm
  refine ⟨fun v0 => ?_, hz⟩
  have main : ∀ d i, i + d = H.length → T (h + 7) mdX0_holding 8 [(0, .ref (n0 + 8)), (1, .int v), (2, .int (Int32.ofNat i))] [] M Q := by
    intro d
    induction d with
    | succ d ih =>
      intro i hi
      refine hd_get (h := h + 3) hC.1 g5 g6 hA1 hA2 (by omega) hAl (by omega) (fun _ => ih (i + 1) (by omega)) (fun ev => ?_)
      obtain ⟨l, q1, q2, q3, q4⟩ := hh.1 i (by show i < H.length; omega)
      have q3 : l / 2 < Ro.length := q3
      have hR1 : Ro.length = N.length := hRo.1
      rw [q1]
      refine K M (N, Ro, H) _ hW ObE.rf Gr.rf ⟨Nat.le_succ _, Nat.le_succ _⟩ ⟨l, rfl, by show l < 2 * N.length; omega⟩ (fun w HV g => ?_)
      rw [lV_of (by omega)]
      have e := g.2.2 (l / 2) i q3 q4
      unfold lvN
      rw [if_pos q2, e]
      show HV (H.getD i 0) = HV v
      rw [ev]
    | zero =>
      intro i hi
      have hi : i = H.length := by omega
      subst hi
      refine VX0_holding_8 (h := h + 6) ?_
      unfold DX0_holding_8
      obtain ⟨ls, A1, nl, -⟩ := id hA1
      refine ⟨hC.1, n0 + 13, g5, A1.1, S_alSize (h := h + 5) A1 (fun _ => ⟨_, rfl, fun _ => ?_, fun z => absurd (by rw [nl]; exact Int32.le_rfl) z⟩)⟩
      obtain ⟨r1, r2⟩ := RoW.fre (H' := H) (k := 9) (x := 0) hRo (by decide) ⟨[], (List.append_nil _).symm⟩ (fun z => absurd z (by decide))
      obtain ⟨r3, r4⟩ := RoW.fre (H' := H ++ [v]) (k := 6) (x := H.length) hRo (by decide) ⟨[v], rfl⟩ (fun _ => by rw [List.length_append]; exact Nat.lt_succ_self _)
      refine S_fresh (h := h + 2) hC (by show N.length < 100000; omega) (fun M1 lc1 rc1 P1 F1 _ => ?_)
      obtain ⟨w1, w2⟩ := WvH.cirC (Ψ' := (N ++ [(2 * N.length, 2 * N.length)], Ro ++ [(9, 0)], H)) hB hH P1 F1 r1 r2 rfl (fun n i hn ri => ⟨fre_6 hRo.1 (by decide) n i hn ri, gdA (fre_6 hRo.1 (by decide) n i hn ri)⟩)
      obtain ⟨⟨F1', hT1, h81⟩, hC1, ⟨hlc1, hrc1⟩, ⟨hA11, hA21, -⟩, -, hF1, -, hh1, hm1⟩ := w1
      obtain ⟨⟨p1, p2, p3, p4, p5⟩, ⟨s1, s2, s3, s4, s5⟩⟩ := hlc1.far hrc1 n3 n1 n2
      have hA11 : ALi M1 (n0 + 13) b1 H := hA11
      have g51 : mR M1 (n0 + 8) 5 = some (n0 + 13) := (hF1.2.2 5 (by decide) (by decide)).trans f5
      have g61 : mR M1 (n0 + 8) 6 = some (n0 + 14) := (hF1.2.2 6 (by decide) (by decide)).trans f6
      have hm1 : (mN M1 + 6 * N0 ≤ mN M0 + 6 * (N ++ [(2 * N.length, 2 * N.length)]).length ∧ 32 * mN M1 + mL M0 l0 ≤ 32 * mN M0 + mL M1 lc1 + 128 * H.length) ∧ (mS M1 + 4 * mL M0 l0 ≤ mS M0 + 4 * mL M1 lc1 + 4 * Lb M1 b1 + 4 * Lb M1 b2 + 2 * H.length ∧ Lb M1 b1 ≤ 10 + 2 * H.length ∧ Lb M1 b2 ≤ 10 + 2 * H.length) ∧ H.length ≤ (N ++ [(2 * N.length, 2 * N.length)]).length := hm1
      have ln1 : (N ++ [(2 * N.length, 2 * N.length)]).length = N.length + 1 := by rw [List.length_append]; rfl
      rw [ln1] at hm1
      have mM1 := hF1.1.1.1
      have N01 : mN M1 ≤ mN M0 + 6 * (N.length + 1) := by omega
      have big1 : mN M1 + 100 ≤ mBig := by unfold mBig; omega
      refine ⟨_, rfl, n0 + 13, g51, S_valueOf (h := h + 3) (fun M2 v2 hv2 V2 _ => ⟨v2, rfl, ?_⟩)⟩
      have fz : ∀ {Ma Mb : Mem} {a b : Nat} {xs : List Int32}, fr (fun _ => False) Ma Mb → ALi Ma a b xs → ALi Mb a b xs := fun k A => A.fr k (fun z => z) (fun _ z => z) (fun _ _ z => z.elim)
      have A12 := fz V2.1 hA11
      refine ⟨A12.ok1, S_addI (h := h) A12 (by show H.length < 100000; omega) hv2 (fun M3 b1' A13 F3 _ => ⟨_, rfl, n0 + 14, ?_, ?_⟩)⟩
      · have o8 : ok M2 (n0 + 8) 2 := ok_E hC1.1 V2.1.1
        rw [(F3.1.2 (n0 + 8) o8.1 (by
          rintro (z | ⟨-, z⟩)
          · omega
          · rw [o8.2] at z; exact absurd z (by decide))).2.2.1, (V2.1.2 (n0 + 8) hC1.1.1 (fun z => z)).2.2.1]
        exact g61
      have a1 := V2.2.1
      have a2 := F3.2.2.2.2.2.1
      have A23 : ALi M3 (n0 + 14) b2 hl := ad1 hA11 hA21 (by omega) hbb V2 F3 (by omega)
      refine S_valueOf (h := h + 3) (fun M4 v4 hv4 V4 _ => ⟨v4, rfl, ?_⟩)
      have A24 := fz V4.1 A23
      refine ⟨A24.ok1, S_addI (h := h) A24 (by rw [hAl]; omega) hv4 (fun M5 b2' A25 F5 _ => ⟨_, rfl, ?_⟩)⟩
      have a3 := V4.2.1
      have a4 := F5.2.2.2.2.2.1
      obtain ⟨A15, bb5, af5⟩ := ad2 hA11 hA21 (by omega) hbb mM1 V2 F3 A13 V4 F5 A25 (by omega)
      have e15 : mE M1 M5 := af5.1
      have k8 : mK M1 (n0 + 8) = 2 := hC1.1.2
      have kl : mK M1 lc1 = 21 := hC1.2.2.1.2
      have kr : mK M1 rc1 = 21 := hC1.2.2.2.2.1.2
      have rlow : ∀ cc, cc < n0 + 25 → cc ≠ n0 + 13 → cc ≠ n0 + 14 → sameRow M1 M5 cc := fun cc z z1 z2 => af5.2 cc (by omega) (by
        rintro (y | y | ⟨y, -⟩)
        · exact z1 y
        · exact z2 y
        · omega)
      have r8 := rlow (n0 + 8) (by omega) (by omega) (by omega)
      have rl := af5.2 lc1 hC1.2.2.1.1 (by
        rintro (y | y | ⟨-, y⟩)
        · exact p3 y
        · exact p4 y
        · rw [kl] at y; exact absurd y (by decide))
      have rr := af5.2 rc1 hC1.2.2.2.2.1.1 (by
        rintro (y | y | ⟨-, y⟩)
        · exact s3 y
        · exact s4 y
        · rw [kr] at y; exact absurd y (by decide))
      have hC5 : CirP M5 (n0 + 8) lc1 rc1 (N ++ [(2 * N.length, 2 * N.length)]) := hC1.fr e15 r8 rl rr
      have hF5 : WvR n0 l0 r0 M0 M5 := hF1.tr af5 (fun cc z y => by
        unfold wvS
        rcases y with y | y | ⟨y, -⟩
        · exact Or.inr (Or.inr (Or.inr (Or.inr (Or.inl y))))
        · exact Or.inr (Or.inr (Or.inr (Or.inr (Or.inr (Or.inl y)))))
        · omega) (fun f _ _ _ => by rw [r8.1]) (fun f _ _ => by rw [r8.2.2.1])
      have hL5 : mL M5 lc1 = mL M1 lc1 := (e15.2.2 lc1 hC1.2.2.1.1).2
      have ob5 : ObE n0 M1 M5 := ⟨fun cc z1 z2 => (rlow cc (by omega) (by omega) (by omega)).2.2.2.1, fun cc z1 z2 => (rlow cc (by omega) (by omega) (by omega)).2.2.2.1, fun f _ => by rw [r8.1]⟩
      have hR1 : Ro.length = N.length := hRo.1
      have lH : (H ++ [v]).length = H.length + 1 := by rw [List.length_append]; rfl
      have hm5 : RmW M0 M5 l0 lc1 N0 b1' b2' (N ++ [(2 * N.length, 2 * N.length)], Ro ++ [(6, H.length)], H ++ [v]) := by
        show (mN M5 + 6 * N0 ≤ mN M0 + 6 * (N ++ [(2 * N.length, 2 * N.length)]).length ∧ 32 * mN M5 + mL M0 l0 ≤ 32 * mN M0 + mL M5 lc1 + 128 * (H ++ [v]).length) ∧ (mS M5 + 4 * mL M0 l0 ≤ mS M0 + 4 * mL M5 lc1 + 4 * Lb M5 b1' + 4 * Lb M5 b2' + 2 * (H ++ [v]).length ∧ Lb M5 b1' ≤ 10 + 2 * (H ++ [v]).length ∧ Lb M5 b2' ≤ 10 + 2 * (H ++ [v]).length) ∧ (H ++ [v]).length ≤ (N ++ [(2 * N.length, 2 * N.length)]).length
        have t1 := V2.2.2
        have t2 := F3.2.2.2.2.2.2.2 (by omega)
        have t3 := V4.2.2
        have t4 := F5.2.2.2.2.2.2.2 (by omega)
        have c5 : mN M1 + 2 * N.length ≤ mN M + 2 * (N ++ [(2 * N.length, 2 * N.length)]).length := F1.2.2.2.2.1.1
        have m1 : mN M + 6 * N0 ≤ mN M0 + 6 * N.length := hm.1.1
        have g1 : Lb M2 b1 = Lb M1 b1 := Lb_E hA11 V2.1.1
        have g2 : Lb M5 b1' = Lb M3 b1' := Lb_E A13 (V4.1.1.tr F5.1.1)
        have g3 : Lb M4 b2 = Lb M1 b2 := Lb_E hA21 ((V2.1.1.tr F3.1.1).tr V4.1.1)
        rw [ln1] at c5
        rw [ln1, lH, hL5]
        rw [hAl] at t4
        obtain ⟨⟨y1, y2⟩, ⟨y3, y4, y5⟩, y6⟩ := hm1
        obtain ⟨t2, t2'⟩ := t2
        obtain ⟨t4, t4'⟩ := t4
        have t2' := t2' (by rw [g1]; exact y4)
        have t4' := t4' (by rw [g3]; exact y5)
        clear hm
        omega
      have hh5 : ∀ i, i < (H ++ [v]).length → ∃ l, (hl ++ [Int32.ofNat (2 * N.length)]).getD i 0 = Int32.ofNat l ∧ rlC (Ro ++ [(6, H.length)]) l 6 i := by
        intro i hi
        rw [lH] at hi
        by_cases z : i = H.length
        · refine ⟨2 * N.length, ?_, ?_⟩
          · rw [z, ← hAl]; exact gdB
          · rw [z]
            refine ⟨by omega, ?_, ?_⟩
            · rw [List.length_append, hR1]; show 2 * N.length / 2 < N.length + 1; omega
            · rw [show 2 * N.length / 2 = Ro.length by omega]; exact gdB
        · obtain ⟨l, q1, q2⟩ := hh.1 i (by show i < H.length; omega)
          exact ⟨l, by rw [gdA (by omega)]; exact q1, rlC.app q2⟩
      have hh6 : ∀ n i, n < (N ++ [(2 * N.length, 2 * N.length)]).length → (Ro ++ [(6, H.length)]).getD n (0, 0) = (6, i) → (hl ++ [Int32.ofNat (2 * N.length)]).getD i 0 = Int32.ofNat (2 * n) ∧ (N ++ [(2 * N.length, 2 * N.length)]).getD n (0, 0) = (2 * n, 2 * n) := by
        intro n i hn ri
        rw [ln1] at hn
        by_cases z : n = N.length
        · rw [z, ← hR1, gdB] at ri
          have ei : H.length = i := congrArg Prod.snd ri
          rw [← ei, z]
          refine ⟨?_, gdB⟩
          rw [← hAl]; exact gdB
        · rw [gdA (by omega)] at ri
          have il := hRo.2.2 n i (by show n < N.length; omega) ri
          have il : i < H.length := il
          obtain ⟨p1, p2⟩ := hh.2 n i (by show n < N.length; omega) ri
          rw [gdA (by omega), gdA (by omega)]
          exact ⟨p1, p2⟩
      refine K M5 (N ++ [(2 * N.length, 2 * N.length)], Ro ++ [(6, H.length)], H ++ [v]) _ ⟨lc1, rc1, b1', b2', hl ++ [Int32.ofNat (2 * N.length)], ⟨low_fix F1' e15 (fun cc z _ => rlow cc (by omega) (by omega) (by omega)) (rlow 21 (by omega) (by omega) (by omega)).2.2.1, hT1.low (fun cc z => rlow cc (by omega) (by omega) (by omega)), by rw [(rlow 21 (by omega) (by omega) (by omega)).2.2.1]; exact h81⟩, hC5, ⟨hlc1, hrc1⟩, ⟨A15, A25, by rw [List.length_append, hAl]; exact lH.symm⟩, bb5, hF5, r3, ⟨hh5, hh6⟩, hm5⟩ (w2.tr ob5) (r4.more (fun _ _ z => absurd rfl z.1)) ⟨by show (N ++ [(2 * N.length, 2 * N.length)]).length ≤ N.length + 1; rw [ln1]; exact Nat.le_refl _, by show (H ++ [v]).length ≤ H.length + 1; rw [lH]; exact Nat.le_refl _⟩ ⟨2 * N.length, rfl, by show 2 * N.length < 2 * (N ++ [(2 * N.length, 2 * N.length)]).length; rw [ln1]; omega⟩ (fun w HV g => ?_)
      have e := g.2.2 N.length H.length (by show N.length < (Ro ++ [(6, H.length)]).length; rw [List.length_append, hR1]; exact Nat.lt_succ_self _) (by show (Ro ++ [(6, H.length)]).getD N.length (0, 0) = _; rw [← hR1]; exact gdB)
      have e : w N.length = HV ((H ++ [v]).getD H.length 0) := e
      rw [gdB] at e
      rw [lV_of (by omega), lv_2, e]
  exact main H.length 0 (by omega)
end
end
section
/-! rows are filled; the weaver's rows -/
def filF (f : Nat → Int32) (a b : Nat) (v : Int32) : Nat → Int32 := fun k => if a ≤ k ∧ k < b then v else f k
def FilR (M M' : Mem) (c a b : Nat) (v : Int32) : Prop := (mN M' = mN M ∧ mS M' = mS M ∧ mK M' = mK M ∧ mL M' = mL M) ∧ (mI M' = mI M ∧ mJ M' = mJ M ∧ mR M' = mR M ∧ mAJ M' = mAJ M ∧ mAR M' = mAR M) ∧ (∀ d, d ≠ c → mAI M' d = mAI M d) ∧ ∀ k, mAI M' c k = filF (mAI M c) a b v k
section
variable {M : Mem} {h : Nat} {Q : Option Value → Mem → Prop} {c a b : Nat} {v : Int32}
theorem FilR.rf : FilR M M c a a v := ⟨⟨rfl, rfl, rfl, rfl⟩, ⟨rfl, rfl, rfl, rfl, rfl⟩, fun _ _ => rfl, fun k => by unfold filF; rw [if_neg (by omega)]⟩
theorem FilR.st {M1 : Mem} {i : Nat} (h : FilR M M1 c a i v) (hi : a ≤ i) : FilR M (wAI M1 c i v) c a (i + 1) v := by
  obtain ⟨h1, h2, h3, h4⟩ := h
  refine ⟨h1, h2, fun d hd => ?_, fun k => ?_⟩
  · show up2 (mAI M1) c i v d = _
    rw [up2_row hd]; exact h3 d hd
  · show up2 (mAI M1) c i v c k = _
    by_cases z : k = i
    · rw [z, up2_eq]
      unfold filF
      rw [if_pos (by omega)]
    · rw [up2_ne (fun y => z y.2), h4 k]
      unfold filF
      by_cases y : a ≤ k ∧ k < i
      · rw [if_pos y, if_pos (by omega)]
      · rw [if_neg y, if_neg (by omega)]
theorem FilR.ok {M1 : Mem} (h : FilR M M1 c a b v) {d k : Nat} (o : ok M d k) : ok M1 d k := by
  obtain ⟨⟨h1, h2, h3, h4⟩, -⟩ := h
  exact ⟨by rw [h1]; exact o.1, by rw [h3]; exact o.2⟩
theorem C_rngC {L : Nat} (hab : a ≤ b) (hb : b ≤ L) (hL : L < 2147483648) : E (h + 1) mdJ7_rangeCheck_23922 [.int (Int32.ofNat L), .int (Int32.ofNat a), .int (Int32.ofNat b)] M (fun r M' => r = none ∧ M' = M) := by
  refine E.of (by decide) (Nat.le_of_ble_eq_true rfl) (fun _ _ _ => trivial) ?_
  show T _ _ 0 [(0, .int (Int32.ofNat L)), (1, .int (Int32.ofNat a)), (2, .int (Int32.ofNat b))] [] M _
  refine xt_iload_n (j := 1) dJ7_rangeCheck_23922_0 rfl rfl ?_
  refine xt_iload_n (j := 2) dJ7_rangeCheck_23922_1 rfl rfl ?_
  refine xt_icmp_le (tgt := 46) dJ7_rangeCheck_23922_2 (by decide) (fun _ => ?_) (fun z => absurd ((le32 (by omega) (by omega)).mpr hab) z)
  refine xt_iload_n (j := 1) dJ7_rangeCheck_23922_46 rfl rfl ?_
  refine xt_if_ge (tgt := 59) dJ7_rangeCheck_23922_47 (by decide) (fun _ => ?_) (fun z => absurd ((le32 (a := 0) (by decide) (by omega)).mpr (Nat.zero_le _)) z)
  refine xt_iload_n (j := 2) dJ7_rangeCheck_23922_59 rfl rfl ?_
  refine xt_iload_n (j := 0) dJ7_rangeCheck_23922_60 rfl rfl ?_
  refine xt_icmp_le (tgt := 73) dJ7_rangeCheck_23922_61 (by decide) (fun _ => ?_) (fun z => absurd ((le32 (by omega) (by omega)).mpr hb) z)
  exact xt_return dJ7_rangeCheck_23922_73 rfl ⟨rfl, rfl⟩
theorem S_fill4 (hc : ok M c 21) (hab : a ≤ b) (hb : b ≤ mL M c) (hL : mL M c < 2147483648) (H : ∀ M', FilR M M' c a b v → Q none M') : E (h + 2) mdJ7_fill_fda19 [.ref c, .int (Int32.ofNat a), .int (Int32.ofNat b), .int v] M Q := by
  refine E.of (by decide) (Nat.le_of_ble_eq_true rfl) (fun _ _ _ => trivial) ?_
  show T _ _ 0 [(0, .ref c), (1, .int (Int32.ofNat a)), (2, .int (Int32.ofNat b)), (3, .int v)] [] M _
  refine xt_aload_n (j := 0) dJ7_fill_fda19_0 rfl rfl ?_
  refine xt_alen dJ7_fill_fda19_1 hc.1 (Or.inr (Or.inl hc.2)) ?_
  refine xt_iload_n (j := 1) dJ7_fill_fda19_2 rfl rfl ?_
  refine xt_iload_n (j := 2) dJ7_fill_fda19_3 rfl rfl ?_
  refine xt_callS (h2 := h + 1) (as := [.int (Int32.ofNat (mL M c)), .int (Int32.ofNat a), .int (Int32.ofNat b)]) (st := []) dJ7_fill_fda19_4 (mlJ7_13 rfl) rfl (by simp) (Nat.le_refl _) (C_rngC (h := h) hab hb hL) (fun r M1 HH hE => ?_)
  obtain ⟨hr, hM⟩ := HH
  subst hr
  rw [hM]
  clear hM hE M1
  show T _ _ _ _ [] _ _
  refine xt_iload_n (j := 1) dJ7_fill_fda19_7 rfl rfl ?_
  refine xt_istore (lv' := [(4, .int (Int32.ofNat a)), (0, .ref c), (1, .int (Int32.ofNat a)), (2, .int (Int32.ofNat b)), (3, .int v)]) dJ7_fill_fda19_8 (by decide) rfl ?_
  have main : ∀ d i M1, i + d = b → a ≤ i → FilR M M1 c a i v → T (h + 2) mdJ7_fill_fda19 10 [(4, .int (Int32.ofNat i)), (0, .ref c), (1, .int (Int32.ofNat a)), (2, .int (Int32.ofNat b)), (3, .int v)] [] M1 Q := by
    intro d
    induction d with
    | zero =>
      intro i M1 hi ha hF
      have ei : i = b := by omega
      subst ei
      refine xt_iload (j := 0) dJ7_fill_fda19_10 rfl ?_
      refine xt_iload_n (j := 3) dJ7_fill_fda19_12 rfl rfl ?_
      refine xt_icmp_ge (tgt := 27) dJ7_fill_fda19_13 (by decide) (fun _ => ?_) (fun z => absurd Int32.le_rfl z)
      exact xt_return dJ7_fill_fda19_27 rfl (H M1 hF)
    | succ d ih =>
      intro i M1 hi ha hF
      have o1 := hF.ok hc
      refine xt_iload (j := 0) dJ7_fill_fda19_10 rfl ?_
      refine xt_iload_n (j := 3) dJ7_fill_fda19_12 rfl rfl ?_
      refine xt_icmp_ge (tgt := 27) dJ7_fill_fda19_13 (by decide) (fun z => ?_) (fun _ => ?_)
      · have := (le32 (by omega) (by omega)).mp z
        omega
      refine xt_aload_n (j := 1) dJ7_fill_fda19_16 rfl rfl ?_
      refine xt_iload (j := 0) dJ7_fill_fda19_17 rfl ?_
      refine xt_iload_n (j := 4) dJ7_fill_fda19_19 rfl rfl ?_
      refine xt_iast dJ7_fill_fda19_20 o1.1 o1.2 (by rw [hF.1.2.2.2]; exact vp_of (by omega) (by omega)) ?_
      rw [lt32 (by omega)]
      refine xt_iinc (j := 0) (v := Int32.ofNat (i + 1)) (lv' := [(4, .int (Int32.ofNat (i + 1))), (0, .ref c), (1, .int (Int32.ofNat a)), (2, .int (Int32.ofNat b)), (3, .int v)]) dJ7_fill_fda19_21 rfl (by rw [← succ32]; rfl) (by decide) rfl ?_
      refine xt_goto (tgt := 10) dJ7_fill_fda19_24 (by decide) ?_
      exact ih (i + 1) _ (by omega) (by omega) (hF.st ha)
  exact main (b - a) a M (by omega) (Nat.le_refl _) FilR.rf
theorem S_fill2 (hc : ok M c 21) (hL : mL M c < 2147483648) (H : ∀ M', FilR M M' c 0 (mL M c) v → Q none M') : E (h + 1) mdJ7_fill_53178 [.ref c, .int v] M Q := by
  refine E.of (by decide) (Nat.le_of_ble_eq_true rfl) (fun _ _ _ => trivial) ?_
  show T _ _ 0 [(0, .ref c), (1, .int v)] [] M _
  refine xt_iconst (v := 0) dJ7_fill_53178_0 (by decide) ?_
  refine xt_istore_n (lv' := [(2, .int 0), (0, .ref c), (1, .int v)]) dJ7_fill_53178_1 rfl (by decide) rfl ?_
  refine xt_aload_n (j := 1) dJ7_fill_53178_2 rfl rfl ?_
  refine xt_alen dJ7_fill_53178_3 hc.1 (Or.inr (Or.inl hc.2)) ?_
  refine xt_istore_n (lv' := [(3, .int (Int32.ofNat (mL M c))), (2, .int 0), (0, .ref c), (1, .int v)]) dJ7_fill_53178_4 rfl (by decide) rfl ?_
  refine xt_sub (lv' := [(2, .int 0), (3, .int (Int32.ofNat (mL M c))), (0, .ref c), (1, .int v)]) [1, 0, 2, 3] rfl ?_
  have main : ∀ d i M1, i + d = mL M c → FilR M M1 c 0 i v → T (h + 1) mdJ7_fill_53178 5 [(2, .int (Int32.ofNat i)), (3, .int (Int32.ofNat (mL M c))), (0, .ref c), (1, .int v)] [] M1 Q := by
    intro d
    induction d with
    | zero =>
      intro i M1 hi hF
      have ei : i = mL M c := by omega
      subst ei
      refine xt_iload_n (j := 0) dJ7_fill_53178_5 rfl rfl ?_
      refine xt_iload_n (j := 1) dJ7_fill_53178_6 rfl rfl ?_
      refine xt_icmp_ge (tgt := 20) dJ7_fill_53178_7 (by decide) (fun _ => ?_) (fun z => absurd Int32.le_rfl z)
      exact xt_return dJ7_fill_53178_20 rfl (H M1 hF)
    | succ d ih =>
      intro i M1 hi hF
      have o1 := hF.ok hc
      refine xt_iload_n (j := 0) dJ7_fill_53178_5 rfl rfl ?_
      refine xt_iload_n (j := 1) dJ7_fill_53178_6 rfl rfl ?_
      refine xt_icmp_ge (tgt := 20) dJ7_fill_53178_7 (by decide) (fun z => ?_) (fun _ => ?_)
      · have := (le32 (by omega) (by omega)).mp z
        omega
      refine xt_aload_n (j := 2) dJ7_fill_53178_10 rfl rfl ?_
      refine xt_iload_n (j := 0) dJ7_fill_53178_11 rfl rfl ?_
      refine xt_iload_n (j := 3) dJ7_fill_53178_12 rfl rfl ?_
      refine xt_iast dJ7_fill_53178_13 o1.1 o1.2 (by rw [hF.1.2.2.2]; exact vp_of (by omega) (by omega)) ?_
      rw [lt32 (by omega)]
      refine xt_iinc (j := 0) (v := Int32.ofNat (i + 1)) (lv' := [(2, .int (Int32.ofNat (i + 1))), (3, .int (Int32.ofNat (mL M c))), (0, .ref c), (1, .int v)]) dJ7_fill_53178_14 rfl (by rw [← succ32]; rfl) (by decide) rfl ?_
      refine xt_goto (tgt := 5) dJ7_fill_53178_17 (by decide) ?_
      exact ih (i + 1) _ (by omega) (hF.st (Nat.zero_le _))
  exact main (mL M c) 0 M (by omega) FilR.rf
end
section
variable {n0 l0 r0 N0 : Nat} {Θ : TrT} {M0 M M' : Mem} {Ψ Ψ' : Wg} {lc rc b1 b2 : Nat} {hl : List Int32} {h : Nat} {Q : Option Value → Mem → Prop} {a c : Int32}
/-- a cell of the weaver's: its wires, the pauses', what is emitted -/
def wvC (n0 cc : Nat) : Prop := (22 ≤ cc ∧ cc ≤ 28) ∨ (n0 + 17 ≤ cc ∧ cc ≤ n0 + 19) ∨ cc = n0 + 21
theorem WvH.row {cc : Nat} (hB : WvB n0 l0 r0 M0) (hW : WvH n0 l0 r0 N0 Θ M0 Ψ M lc rc b1 b2 hl) (hc : wvC n0 cc) (hE : mE M M') (hN : mN M' = mN M ∧ mS M' = mS M) (hr : ∀ d, d ≠ cc → sameRow M M' d) (hcc : mR M' cc = mR M cc ∧ mAR M' cc = mAR M cc ∧ mI M' cc = mI M cc ∧ mAJ M' cc = mAJ M cc) : WvH n0 l0 r0 N0 Θ M0 Ψ M' lc rc b1 b2 hl := by
  obtain ⟨⟨F, hT, h8⟩, hC, ⟨hlc, hrc⟩, ⟨hA1, hA2, hAl⟩, hbb, hF, hRo, hh, hm⟩ := hW
  obtain ⟨⟨n1, n2⟩, n3, -, n8, ⟨n9, -⟩, ⟨n5, n6⟩, n7⟩ := hB
  obtain ⟨⟨p1, p2, p3, p4, p5⟩, ⟨s1, s2, s3, s4, s5⟩⟩ := hlc.far hrc n3 n1 n2
  unfold wvC at hc
  have mM := hF.1.1.1
  have k21 : mK M cc = 21 := by
    rcases hc with ⟨z1, z2⟩ | ⟨z1, z2⟩ | z
    · have : cc = 22 ∨ cc = 23 ∨ cc = 24 ∨ cc = 25 ∨ cc = 26 ∨ cc = 27 ∨ cc = 28 := by omega
      rcases this with e | e | e | e | e | e | e <;> rw [e]
      · exact (ok22 F).2
      · exact (ok23 F).2
      · exact (ok24 F).2
      · exact (ok25 F).2
      · exact (ok26 F).2
      · exact (ok27 F).2
      · exact (ok28 F).2
    · have : cc = n0 + 17 ∨ cc = n0 + 18 ∨ cc = n0 + 19 := by omega
      rcases this with e | e | e
      · rw [e]; exact (ok_E (n8 17 (Or.inl rfl)).1 hF.1.1).2
      · rw [e]; exact (ok_E (n8 18 (Or.inr (Or.inl rfl))).1 hF.1.1).2
      · rw [e]; exact (ok_E (n8 19 (Or.inr (Or.inr rfl))).1 hF.1.1).2
    · rw [z]; exact (ok_E n9 hF.1.1).2
  have frk : fr (fun d => d = cc) M M' := ⟨hE, fun d _ z => hr d z⟩
  have al : ∀ {a b : Nat} {xs : List Int32}, a = n0 + 13 ∨ a = n0 + 14 → ALi M a b xs → ALi M' a b xs := by
    intro a b xs ha hA
    refine hA.fr frk (fun z => by omega) (fun hb z => ?_) (fun d _ z w => ?_)
    · rw [z, k21] at hb; exact absurd hb (by decide)
    · rw [z, k21] at w; exact absurd w (by decide)
  have r8 := hr (n0 + 8) (by omega)
  have F' : Fix M' := by
    refine F.of_fr (S := fun _ => True) hE (fun e he => ?_) (hr 19 (by omega)).2.2.2.2.1
    by_cases z : e.1 = cc
    · rw [z, hcc.1]
    · rw [(hr e.1 z).2.2.1]
  refine ⟨⟨F', hT.low (fun d z => hr d (by omega)), by rw [(hr 21 (by omega)).2.2.1]; exact h8⟩, hC.fr hE r8 (hr lc (by omega)) (hr rc (by omega)), ⟨hlc, hrc⟩, ⟨al (Or.inl rfl) hA1, al (Or.inr rfl) hA2, hAl⟩, hbb, hF.tr frk (fun d _ z => ?_) (fun f _ _ _ => by rw [r8.1]) (fun f _ _ => by rw [r8.2.2.1]), hRo, hh, ?_⟩
  · unfold wvS
    rw [z]
    rcases hc with q | q | q
    · exact Or.inl (by omega)
    · exact Or.inr (Or.inr (Or.inr (Or.inr (Or.inr (Or.inr (Or.inl q))))))
    · exact Or.inr (Or.inr (Or.inr (Or.inr (Or.inr (Or.inr (Or.inr q))))))
  · have L1 := Lb_E hA1 hE
    have L2 := Lb_E hA2 hE
    unfold RmW at hm ⊢
    rw [hN.1, hN.2, (hE.2.2 lc hC.2.2.1.1).2, L1, L2]
    exact hm
theorem WvP.wr {cc j : Nat} {v : Int32} (hB : WvB n0 l0 r0 M0) (hW : WvP n0 l0 r0 N0 Θ M0 Ψ M) (hc : wvC n0 cc) (e : M' = wAI M cc j v) : WvP n0 l0 r0 N0 Θ M0 Ψ M' := by
  obtain ⟨lc, rc, b1, b2, hl, hH⟩ := hW
  refine ⟨lc, rc, b1, b2, hl, hH.row hB hc (by rw [e]; exact mE_wAI) (by rw [e]; exact ⟨rfl, rfl⟩) (fun d hd => by rw [e]; exact ⟨rfl, rfl, rfl, up2_row hd, rfl, rfl⟩) (by rw [e]; exact ⟨rfl, rfl, rfl, rfl⟩)⟩
theorem WvP.fil {cc i j : Nat} {v : Int32} (hB : WvB n0 l0 r0 M0) (hW : WvP n0 l0 r0 N0 Θ M0 Ψ M) (hc : wvC n0 cc) (e : FilR M M' cc i j v) : WvP n0 l0 r0 N0 Θ M0 Ψ M' := by
  obtain ⟨lc, rc, b1, b2, hl, hH⟩ := hW
  obtain ⟨⟨e1, e2, e3, e4⟩, ⟨e5, e6, e7, e8, e9⟩, e10, -⟩ := e
  exact ⟨lc, rc, b1, b2, hl, hH.row hB hc ⟨by rw [e1]; exact Nat.le_refl _, by rw [e2]; exact Nat.le_refl _, fun d _ => by rw [e3, e4]; exact ⟨rfl, rfl⟩⟩ ⟨e1, e2⟩ (fun d hd => ⟨by rw [e5], by rw [e6], by rw [e7], e10 d hd, by rw [e8], by rw [e9]⟩) ⟨by rw [e7], by rw [e9], by rw [e5], by rw [e8]⟩⟩
/-- what the weaver sees -/
theorem WvP.sees (hB : WvB n0 l0 r0 M0) (hW : WvP n0 l0 r0 N0 Θ M0 Ψ M) : Fix M ∧ TrP M Θ ∧ mR M 21 8 = some (n0 + 8) ∧ ok M (n0 + 8) 2 ∧ RoW Ψ ∧ 1 ≤ Ψ.1.length ∧ (∀ f, f ≠ 0 → f ≠ 1 → mR M (n0 + 8) f = mR M0 (n0 + 8) f) ∧ mE M0 M := by
  obtain ⟨lc, rc, b1, b2, hl, hH⟩ := hW
  exact ⟨hH.1.1, hH.1.2.1, hH.1.2.2, hH.2.1.1, hH.2.2.2.2.2.2.1, hH.2.1.2.2.2.2.2.2.1.1, hH.2.2.2.2.2.1.2.2, hH.2.2.2.2.2.1.1.1⟩
theorem W_res {x : Nat} (hB : WvB n0 l0 r0 M0) (hW : WvP n0 l0 r0 N0 Θ M0 Ψ M) (hlim : Ψ.1.length < 99980) (hx : x < 640) (hr : okI Ψ (mAI M 23 x)) (K : ∀ M' Ψ' r, WvP n0 l0 r0 N0 Θ M0 Ψ' M' → ObE n0 M M' → Gr noN Ψ Ψ' → (Ψ'.1.length ≤ Ψ.1.length + 2 ∧ Ψ'.2.2.length ≤ Ψ.2.2.length + 1) → okI Ψ' r → (∀ w HV, gW Ψ' w HV → lV w r = v3A (lV w (mAI M 23 x)) (HV (Θ.2.2 12 x))) → Q (some (.int r)) M') : E (h + 8) mdX9_resumed [.ref 21, .int (Int32.ofNat x)] M Q := by
  obtain ⟨F, hT, h8, o8, hRo, l1, hRf, hE0⟩ := hW.sees hB
  have lx : (Int32.ofNat x).toNatClampNeg = x := lt32 (by omega)
  have e12 : mAI M 12 = Θ.2.2 12 := hT.2.2.2.1 12 (by decide) (by decide)
  refine KX9_resumed (h := h + 7) ?_
  unfold DX9_resumed_0
  rw [lx]
  refine ⟨ok21 F, n0 + 8, h8, 23, rf21_2 F, ok23 F, by rw [ln23 F]; exact vp_of hx (by decide), n0 + 8, h8, 4, rf21_0 F, ok4 F, 12, rf4_7 F, ok12 F, by rw [ln12 F]; exact vp_of hx (by decide), o8, ?_⟩
  rw [e12]
  refine W_hold (h := h) hB hW (by omega) (fun M1 Ψ1 r1 W1 O1 G1 L1 k1 s1 _ => ⟨_, rfl, ?_⟩)
  obtain ⟨F1, hT1, h81, o81, hRo1, -⟩ := W1.sees hB
  refine ⟨o81, W_and (h := h + 3) hB W1 (by omega) (hr.gr G1) k1 (fun M2 Ψ2 r2 W2 O2 G2 L2 k2 s2 _ => ⟨_, rfl, ?_⟩)⟩
  obtain ⟨-, -, -, -, hRo2, -⟩ := W2.sees hB
  refine K M2 Ψ2 r2 W2 (O1.tr O2) (G1.tr G2 (fun _ _ z => z)) (by omega) k2 (fun w HV g => ?_)
  rw [s2 w HV g, s1 w HV (g.bk G2 hRo1 hRo2 (fun _ _ z => z.elim))]
end
end
section
/-! the weaver arrives at a node -/
def arG (k : Int32) (fst : Bool) (go cd k0 op : Nat) : Nat := if k = 4 then v3A go (if fst then cd else v3N cd) else if k = 5 then k0 else if k = 6 then op else go
def arR (k : Int32) (rs hv cd : Nat) : Nat := if k = 7 then v3A (v3A rs hv) (v3N cd) else rs
def arS (k : Int32) (su rs hv cd : Nat) : Nat := if k = 7 then v3O su (v3A (v3A rs hv) cd) else su
def arK (k : Int32) (kl op : Nat) : Nat := if k = 9 then op else kl
/-- the wires of x, from those of a above it -/
def ArQ (Θ : TrT) (P P' : Nat → Nat → Int32) (x a : Nat) (w : Nat → Nat) (HV : Int32 → Nat) : Prop := lV w (P' 22 x) = arG (Θ.2.2 5 a) (decide (Θ.2.2 6 a = Int32.ofNat x)) (lV w (P 22 a)) (lV w (Θ.2.2 10 a)) (lV w (P 28 (a * 20))) (lV w (P 26 a)) ∧ lV w (P' 23 x) = arR (Θ.2.2 5 a) (lV w (P 23 a)) (HV (Θ.2.2 12 a)) (lV w (Θ.2.2 10 a)) ∧ lV w (P' 24 x) = arS (Θ.2.2 5 a) (lV w (P 24 a)) (lV w (P 23 a)) (HV (Θ.2.2 12 a)) (lV w (Θ.2.2 10 a)) ∧ lV w (P' 25 x) = arK (Θ.2.2 5 a) (lV w (P 25 a)) (lV w (P 26 a))
def up4 (P : Nat → Nat → Int32) (x : Nat) (g r s k : Int32) : Nat → Nat → Int32 := fun c j => if j = x then (if c = 22 then g else if c = 23 then r else if c = 24 then s else if c = 25 then k else P c j) else P c j
theorem ObE.wv {n0 c : Nat} {M M' : Mem} (h : ObE n0 M M') (hc : wvC n0 c) : mAI M' c = mAI M c := by
  rcases hc with z | z | z
  · exact h.1 c z.1 z.2
  · exact h.2.1 c z.1 (by omega)
  · exact h.2.1 c (by omega) (by omega)
/-- the weaver's rows are P -/
def RwP (n0 : Nat) (P : Nat → Nat → Int32) (z : Int32) (M : Mem) : Prop := (∀ c j, wvC n0 c → mAI M c j = P c j) ∧ mI M (n0 + 8) 12 = z
theorem RwP.ob {n0 : Nat} {P : Nat → Nat → Int32} {z : Int32} {M M' : Mem} (h : RwP n0 P z M) (k : ObE n0 M M') : RwP n0 P z M' := ⟨fun c j hc => by rw [k.wv hc]; exact h.1 c j hc, (k.2.2 12 (Or.inl rfl)).trans h.2⟩
theorem RwP.up {n0 cc i : Nat} {P : Nat → Nat → Int32} {z v : Int32} {M M' : Mem} (h : RwP n0 P z M) (e : M' = wAI M cc i v) : RwP n0 (up2 P cc i v) z M' := by
  refine ⟨fun c j hc => ?_, by rw [e]; exact h.2⟩
  rw [e, mAI_wAI]
  show _ = if c = cc ∧ j = i then v else P c j
  rw [h.1 c j hc]
theorem RwP.cg {n0 : Nat} {P P' : Nat → Nat → Int32} {z : Int32} {M : Mem} (h : RwP n0 P z M) (k : ∀ c j, wvC n0 c → P' c j = P c j) : RwP n0 P' z M := ⟨fun c j hc => by rw [k c j hc]; exact h.1 c j hc, h.2⟩
section
variable {n0 l0 r0 N0 : Nat} {Θ : TrT} {M0 M M' : Mem} {Ψ Ψ' : Wg} {h : Nat} {Q : Option Value → Mem → Prop} {P : Nat → Nat → Int32} {zp : Int32}
theorem up4_eq {x : Nat} {g r s k g' : Int32} (c j : Nat) : up2 (up4 P x g r s k) 22 x g' c j = up4 P x g' r s k c j ∧ up2 (up4 P x g r s k) 23 x g' c j = up4 P x g g' s k c j ∧ up2 (up4 P x g r s k) 24 x g' c j = up4 P x g r g' k c j ∧ up2 (up4 P x g r s k) 25 x g' c j = up4 P x g r s g' c j := by
  unfold up4 up2
  by_cases hj : j = x
  · by_cases h1 : c = 22
    · subst h1; simp [hj]
    · by_cases h2 : c = 23
      · subst h2; simp [hj]
      · by_cases h3 : c = 24
        · subst h3; simp [hj]
        · by_cases h4 : c = 25
          · subst h4; simp [hj]
          · simp [h1, h2, h3, h4]
  · simp [hj]
/-- nets and held masks that coming to a node makes, by the kind of the one above -/
def aW (k : Int32) : Nat := if k = 4 then 1 else if k = 7 then 5 else 0
def aH (k : Int32) : Nat := if k = 7 then 1 else 0
theorem aW_4 : aW 4 = 1 := by decide
theorem aW_7 : aW 7 = 5 := by decide
theorem aH_7 : aH 7 = 1 := by decide
theorem W_arr {x a : Nat} (hB : WvB n0 l0 r0 M0) (hW : WvP n0 l0 r0 N0 Θ M0 Ψ M) (hP : RwP n0 P zp M) (hlim : Ψ.1.length < 99900) (hx : x < 640) (ha : a < 640) (hne : x ≠ a) (hp : Θ.2.2 9 x = Int32.ofNat a) (hg : okI Ψ (P 22 a)) (hr : okI Ψ (P 23 a)) (hs : okI Ψ (P 24 a)) (hk : okI Ψ (P 25 a)) (hc : Θ.2.2 5 a = 4 ∨ Θ.2.2 5 a = 7 → okI Ψ (Θ.2.2 10 a)) (h5 : Θ.2.2 5 a = 5 → okI Ψ (P 28 (a * 20))) (h69 : Θ.2.2 5 a = 6 ∨ Θ.2.2 5 a = 9 → okI Ψ (P 26 a)) (K : ∀ M' Ψ' g r s k, WvP n0 l0 r0 N0 Θ M0 Ψ' M' → RwP n0 (up4 P x g r s k) zp M' → Gr noN Ψ Ψ' → (Ψ'.1.length ≤ Ψ.1.length + 5 ∧ Ψ'.1.length ≤ Ψ.1.length + aW (Θ.2.2 5 a) ∧ Ψ'.2.2.length ≤ Ψ.2.2.length + aH (Θ.2.2 5 a)) → (okI Ψ' g ∧ okI Ψ' r ∧ okI Ψ' s ∧ okI Ψ' k) → (∀ w HV, gW Ψ' w HV → ArQ Θ P (up4 P x g r s k) x a w HV) → Q none M') : E (h + 9) mdX9_arrive [.ref 21, .int (Int32.ofNat x)] M Q := by
  obtain ⟨F, hT, h8, o8, hRo, l1, hRf, hE0⟩ := hW.sees hB
  have lx : (Int32.ofNat x).toNatClampNeg = x := lt32 (by omega)
  have la : (Int32.ofNat a).toNatClampNeg = a := lt32 (by omega)
  have w22 : wvC n0 22 := Or.inl (by omega)
  have w23 : wvC n0 23 := Or.inl (by omega)
  have w24 : wvC n0 24 := Or.inl (by omega)
  have w25 : wvC n0 25 := Or.inl (by omega)
  have w26 : wvC n0 26 := Or.inl (by omega)
  have w28 : wvC n0 28 := Or.inl (by omega)
  have vx : ∀ {k : Nat}, k = 640 → vp_in (Int32.ofNat x) k := fun e => by rw [e]; exact vp_of hx (by decide)
  have va : ∀ {k : Nat}, k = 640 → vp_in (Int32.ofNat a) k := fun e => by rw [e]; exact vp_of ha (by decide)
  have e9 : mAI M 9 x = Int32.ofNat a := by rw [hT.2.2.2.1 9 (by decide) (by decide)]; exact hp
  have e10 : mAI M 10 a = Θ.2.2 10 a := by rw [hT.2.2.2.1 10 (by decide) (by decide)]
  refine KX9_arrive (h := h + 8) ?_
  unfold DX9_arrive_0 DX9_arrive_277
  rw [lx]
  refine ⟨ok21 F, 4, rf21_0 F, ok4 F, 9, rf4_4 F, ok9 F, vx (ln9 F), 4, rf21_0 F, ok4 F, 10, rf4_5 F, ok10 F, ?_⟩
  rw [e9, la, e10]
  refine ⟨va (ln10 F), 22, rf21_1 F, 22, rf21_1 F, ok22 F, va (ln22 F), ok22 F, vx (ln22 F), fun M14 e14 => ?_⟩
  have W14 := hW.wr hB w22 e14
  obtain ⟨F14, -⟩ := W14.sees hB
  have P14 := hP.up e14
  refine ⟨23, rf21_2 F14, 23, rf21_2 F14, ok23 F14, va (ln23 F14), ok23 F14, vx (ln23 F14), fun M19 e19 => ?_⟩
  have W19 := W14.wr hB w23 e19
  obtain ⟨F19, -⟩ := W19.sees hB
  have P19 := P14.up e19
  refine ⟨24, rf21_3 F19, 24, rf21_3 F19, ok24 F19, va (ln24 F19), ok24 F19, vx (ln24 F19), fun M24 e24 => ?_⟩
  have W24 := W19.wr hB w24 e24
  obtain ⟨F24, -⟩ := W24.sees hB
  have P24 := P19.up e24
  refine ⟨25, rf21_4 F24, 25, rf21_4 F24, ok25 F24, va (ln25 F24), ok25 F24, vx (ln25 F24), fun M29 e29 => ?_⟩
  have W29 := W24.wr hB w25 e29
  obtain ⟨F29, hT29, h829, o829, hRo29, -⟩ := W29.sees hB
  have P29 := P24.up e29
  have v22 : mAI M 22 a = P 22 a := hP.1 22 a w22
  have v23 : mAI M14 23 a = P 23 a := by rw [e14, mAI_wAI, if_neg (by omega)]; exact hP.1 23 a w23
  have v24 : mAI M19 24 a = P 24 a := by rw [e19, mAI_wAI, if_neg (by omega), e14, mAI_wAI, if_neg (by omega)]; exact hP.1 24 a w24
  have v25 : mAI M24 25 a = P 25 a := by rw [e24, mAI_wAI, if_neg (by omega), e19, mAI_wAI, if_neg (by omega), e14, mAI_wAI, if_neg (by omega)]; exact hP.1 25 a w25
  rw [v22, v23, v24, v25] at P29
  have P29 : RwP n0 (up4 P x (P 22 a) (P 23 a) (P 24 a) (P 25 a)) zp M29 := P29.cg (fun c j hc => by
    unfold up4 up2
    by_cases hj : j = x
    · by_cases h1 : c = 22
      · subst h1; simp [hj]
      · by_cases h2 : c = 23
        · subst h2; simp [hj]
        · by_cases h3 : c = 24
          · subst h3; simp [hj]
          · by_cases h4 : c = 25
            · subst h4; simp [hj]
            · simp [h1, h2, h3, h4]
    · simp [hj])
  clear P24 P19 P14 W14 W19 W24 F14 F19 F24 e14 e19 e24 e29 v22 v23 v24 v25
  have k5 : mAI M29 5 a = Θ.2.2 5 a := by rw [hT29.2.2.2.1 5 (by decide) (by decide)]
  have k6 : mAI M29 6 a = Θ.2.2 6 a := by rw [hT29.2.2.2.1 6 (by decide) (by decide)]
  have q22 : ∀ {g r s k : Int32}, up4 P x g r s k 22 x = g ∧ up4 P x g r s k 23 x = r ∧ up4 P x g r s k 24 x = s ∧ up4 P x g r s k 25 x = k := fun {g r s k} => by unfold up4; simp
  have qa : ∀ {g r s k : Int32} {c j : Nat}, j ≠ x → up4 P x g r s k c j = P c j := fun {g r s k c j} hj => by unfold up4; rw [if_neg hj]
  have qn : ∀ {g r s k : Int32} {c j : Nat}, 26 ≤ c → up4 P x g r s k c j = P c j := fun {g r s k c j} hc => by
    unfold up4
    by_cases hj : j = x
    · rw [if_pos hj, if_neg (by omega), if_neg (by omega), if_neg (by omega), if_neg (by omega)]
    · rw [if_neg hj]
  refine ⟨4, rf21_0 F29, ok4 F29, 5, rf4_0 F29, ok5 F29, va (ln5 F29), ?_⟩
  rw [k5]
  refine ⟨fun z => ⟨4, rf21_0 F29, ok4 F29, 6, rf4_1 F29, ok6 F29, va (ln6 F29), ?_⟩, fun z => ⟨22, rf21_1 F29, 28, rf21_7 F29, ok28 F29, ?_, ok22 F29, vx (ln22 F29), fun M42 e42 => ?_⟩, fun z => ⟨22, rf21_1 F29, 26, rf21_5 F29, ok26 F29, va (ln26 F29), ok22 F29, vx (ln22 F29), fun M47 e47 => ?_⟩, fun z => ?_, fun z => ?_, fun z => ⟨25, rf21_4 F29, 26, rf21_5 F29, ok26 F29, va (ln26 F29), ok25 F29, vx (ln25 F29), fun M76 e76 => ?_⟩, fun z => ?_⟩
  · -- a choice
    rw [k6]
    have oc := hc (Or.inl z)
    have fin : ∀ (fst : Bool), fst = decide (Θ.2.2 6 a = Int32.ofNat x) → DX9_arrive_134 (h + 8) 21 (Int32.ofNat x) (Int32.ofNat a) (Θ.2.2 10 a) (if fst then 1 else 0) M29 Q := by
      intro fst hf
      have g29 : mAI M29 22 a = P 22 a := (P29.1 22 a w22).trans (qa (fun z => hne z.symm))
      have last : ∀ cc : Int32, okI Ψ cc → (∀ w HV, gW Ψ w HV → lV w cc = if fst then lV w (Θ.2.2 10 a) else v3N (lV w (Θ.2.2 10 a))) → DX9_arrive_164 (h + 8) 22 (Int32.ofNat x) (n0 + 8) (P 22 a) cc M29 Q := by
        intro cc oc2 sc
        unfold DX9_arrive_164 DX9_arrive_277
        refine ⟨o829, W_and (h := h + 4) hB W29 (by omega) hg oc2 (fun M2 Ψ2 r2 W2 O2 G2 L2 k2 s2 _ => ⟨_, rfl, ?_⟩)⟩
        obtain ⟨F2, -, -, -, hRo2, -⟩ := W2.sees hB
        refine ⟨ok22 F2, vx (ln22 F2), fun M5 e5 => ?_⟩
        rw [lx] at e5
        have W5 := W2.wr hB w22 e5
        refine K M5 Ψ2 r2 (P 23 a) (P 24 a) (P 25 a) W5 (((P29.ob O2).up e5).cg (fun c j _ => ((up4_eq c j).1).symm)) G2 (by rw [z, aW_4]; omega) ⟨k2, hr.gr G2, hs.gr G2, hk.gr G2⟩ (fun w HV g => ?_)
        have gb := g.bk G2 hRo hRo2 (fun _ _ z => z.elim)
        unfold ArQ arG arR arS arK
        rw [q22.1, q22.2.1, q22.2.2.1, q22.2.2.2, z, if_pos rfl, ← hf, ← sc w HV gb, if_neg (by decide), if_neg (by decide), if_neg (by decide)]
        exact ⟨s2 w HV g, rfl, rfl, rfl⟩
      unfold DX9_arrive_134
      rw [la]
      refine ⟨ok21 F29, 22, rf21_1 F29, n0 + 8, h829, 22, rf21_1 F29, ok22 F29, va (ln22 F29), ?_⟩
      rw [g29]
      refine ⟨fun f0 => ?_, fun f0 => ?_⟩
      · refine W_not (h := h + 7) oc (by omega) (fun r ok1 sr _ => ⟨_, rfl, last r ok1 (fun w HV g => ?_)⟩)
        cases fst with
        | true => exact absurd f0 (by decide)
        | false => exact sr w HV g
      · refine last _ oc (fun w HV g => ?_)
        cases fst with
        | true => rfl
        | false => exact absurd rfl f0
    refine ⟨fun y => ?_, fun y => ?_⟩
    · exact fin false (by rw [decide_eq_false y])
    · exact fin true (by rw [decide_eq_true y])
  · have e20 : Int32.ofNat a * 20 = Int32.ofNat (a * 20) := by rw [Int32.ofNat_mul]; rfl
    rw [e20, ln28 F29]
    exact vp_of (by omega) (by decide)
  · -- a row
    have e20 : Int32.ofNat a * 20 = Int32.ofNat (a * 20) := by rw [Int32.ofNat_mul]; rfl
    rw [e20, lt32 (by omega), (P29.1 28 (a * 20) w28).trans (qn (by decide))] at e42
    have W5 := W29.wr hB w22 e42
    refine K M42 Ψ (P 28 (a * 20)) (P 23 a) (P 24 a) (P 25 a) W5 ((P29.up e42).cg (fun c j _ => ((up4_eq c j).1).symm)) Gr.rf ⟨Nat.le_add_right _ _, Nat.le_add_right _ _, Nat.le_add_right _ _⟩ ⟨h5 z, hr, hs, hk⟩ (fun w HV g => ?_)
    unfold ArQ arG arR arS arK
    rw [q22.1, q22.2.1, q22.2.2.1, q22.2.2.2, z, if_neg (by decide), if_pos rfl, if_neg (by decide), if_neg (by decide), if_neg (by decide)]
    exact ⟨rfl, rfl, rfl, rfl⟩
  · -- a loop
    rw [(P29.1 26 a w26).trans (qn (by decide))] at e47
    have W5 := W29.wr hB w22 e47
    refine K M47 Ψ (P 26 a) (P 23 a) (P 24 a) (P 25 a) W5 ((P29.up e47).cg (fun c j _ => ((up4_eq c j).1).symm)) Gr.rf ⟨Nat.le_add_right _ _, Nat.le_add_right _ _, Nat.le_add_right _ _⟩ ⟨h69 (Or.inl z), hr, hs, hk⟩ (fun w HV g => ?_)
    unfold ArQ arG arR arS arK
    rw [q22.1, q22.2.1, q22.2.2.1, q22.2.2.2, z, if_neg (by decide), if_neg (by decide), if_pos rfl, if_neg (by decide), if_neg (by decide), if_neg (by decide)]
    exact ⟨rfl, rfl, rfl, rfl⟩
  · -- a suspension
    have oc := hc (Or.inr z)
    have g23 : mAI M29 23 a = P 23 a := (P29.1 23 a w23).trans (qa (fun z => hne z.symm))
    refine W_res (h := h) hB W29 (by omega) ha (by rw [g23]; exact hr) (fun M48 Ψ48 r48 W48 O48 G48 L48 k48 s48 _ => ⟨_, rfl, ?_⟩)
    obtain ⟨F48, -, h848, o848, hRo48, -⟩ := W48.sees hB
    refine ⟨23, rf21_2 F48, n0 + 8, h848, W_not (h := h + 7) (oc.gr G48) (by omega) (fun r53 k53 s53 _ => ⟨_, rfl, o848, ?_⟩)⟩
    refine W_and (h := h + 4) hB W48 (by omega) k48 k53 (fun M55 Ψ55 r56 W55 O55 G55 L55 k56 s56 _ => ⟨_, rfl, ?_⟩)
    obtain ⟨F55, -, h855, o855, hRo55, -⟩ := W55.sees hB
    refine ⟨ok23 F55, vx (ln23 F55), fun M58 e58 => ?_⟩
    have W58 := W55.wr hB w23 e58
    obtain ⟨F58, hT58, h858, o858, -⟩ := W58.sees hB
    have P58 := (((P29.ob O48).ob O55).up e58).cg (P' := up4 P x (P 22 a) r56 (P 24 a) (P 25 a)) (fun c j _ => ((up4_eq c j).2.1).symm)
    have g24 : mAI M58 24 a = P 24 a := (P58.1 24 a w24).trans (qa (fun z => hne z.symm))
    refine ⟨24, rf21_3 F58, n0 + 8, h858, 24, rf21_3 F58, ok24 F58, va (ln24 F58), n0 + 8, h858, o858, ?_⟩
    refine W_and (h := h + 4) hB W58 (by omega) (k48.gr G55) ((oc.gr G48).gr G55) (fun M65 Ψ65 r66 W65 O65 G65 L65 k66 s66 _ => ⟨_, rfl, ?_⟩)
    obtain ⟨F65, -, h865, o865, hRo65, -⟩ := W65.sees hB
    rw [g24]
    refine ⟨o865, W_or (h := h + 3) hB W65 (by omega) (((hs.gr G48).gr G55).gr G65) k66 (fun M68 Ψ68 r69 W68 O68 G68 L68 k69 s69 _ => ⟨_, rfl, ?_⟩)⟩
    obtain ⟨F68, -, h868, o868, hRo68, -⟩ := W68.sees hB
    refine ⟨ok24 F68, vx (ln24 F68), fun M71 e71 => ?_⟩
    have W71 := W68.wr hB w24 e71
    have GG : Gr noN Ψ Ψ68 := ((G48.tr G55 (fun _ _ z => z)).tr G65 (fun _ _ z => z)).tr G68 (fun _ _ z => z)
    refine K M71 Ψ68 (P 22 a) r56 r69 (P 25 a) W71 ((((P58.ob O65).ob O68).up e71).cg (fun c j _ => ((up4_eq c j).2.2.1).symm)) GG (by rw [z, aW_7, aH_7]; omega) ⟨hg.gr GG, (k56.gr G65).gr G68, k69, hk.gr GG⟩ (fun w HV g => ?_)
    have b65 := g.bk G68 hRo65 hRo68 (fun _ _ z => z.elim)
    have b55 := b65.bk G65 hRo55 hRo65 (fun _ _ z => z.elim)
    have b48 := b55.bk G55 hRo48 hRo55 (fun _ _ z => z.elim)
    unfold ArQ arG arR arS arK
    rw [q22.1, q22.2.1, q22.2.2.1, q22.2.2.2, z, if_neg (by decide), if_neg (by decide), if_neg (by decide), if_pos rfl, if_pos rfl, if_neg (by decide), s56 w HV b55, s69 w HV g, s66 w HV b65, s53 w HV b48, s48 w HV b48, g23]
    exact ⟨rfl, rfl, rfl, rfl⟩
  · refine K M29 Ψ _ _ _ _ W29 P29 Gr.rf ⟨Nat.le_add_right _ _, Nat.le_add_right _ _, Nat.le_add_right _ _⟩ ⟨hg, hr, hs, hk⟩ (fun w HV g => ?_)
    unfold ArQ arG arR arS arK
    rw [q22.1, q22.2.1, q22.2.2.1, q22.2.2.2, z, if_neg (by decide), if_neg (by decide), if_neg (by decide), if_neg (by decide), if_neg (by decide), if_neg (by decide)]
    exact ⟨rfl, rfl, rfl, rfl⟩
  · -- a trap
    rw [(P29.1 26 a w26).trans (qn (by decide))] at e76
    have W5 := W29.wr hB w25 e76
    refine K M76 Ψ (P 22 a) (P 23 a) (P 24 a) (P 26 a) W5 ((P29.up e76).cg (fun c j _ => ((up4_eq c j).2.2.2).symm)) Gr.rf ⟨Nat.le_add_right _ _, Nat.le_add_right _ _, Nat.le_add_right _ _⟩ ⟨hg, hr, hs, h69 (Or.inr z)⟩ (fun w HV g => ?_)
    unfold ArQ arG arR arS arK
    rw [q22.1, q22.2.1, q22.2.2.1, q22.2.2.2, z, if_neg (by decide), if_neg (by decide), if_neg (by decide), if_neg (by decide), if_neg (by decide), if_pos rfl]
    exact ⟨rfl, rfl, rfl, rfl⟩
  · have ne : ∀ t : Int32, (4 ≤ t.toInt ∧ t.toInt ≤ 9) → Θ.2.2 5 a ≠ t := fun t ht e => by
      rw [e] at z
      omega
    refine K M29 Ψ _ _ _ _ W29 P29 Gr.rf ⟨Nat.le_add_right _ _, Nat.le_add_right _ _, Nat.le_add_right _ _⟩ ⟨hg, hr, hs, hk⟩ (fun w HV g => ?_)
    unfold ArQ arG arR arS arK
    rw [q22.1, q22.2.1, q22.2.2.1, q22.2.2.2, if_neg (ne 4 (by decide)), if_neg (ne 5 (by decide)), if_neg (ne 6 (by decide)), if_neg (ne 7 (by decide)), if_neg (ne 7 (by decide)), if_neg (ne 9 (by decide))]
    exact ⟨rfl, rfl, rfl, rfl⟩
end
end
section
/-! the weaver enters a node -/
def enV (k : Int32) (cd n go rs hv : Nat) : Nat := if k = 1 then (if n = 0 then v3A rs hv else if n = 1 then go else 0) else if k = 3 then (if n = cd then go else 0) else if k = 0 ∨ k = 2 ∨ k = 5 then (if n = 0 then go else 0) else 0
/-- the codes' wires of x are kv -/
def enP (P : Nat → Nat → Int32) (x : Nat) (kv : Nat → Int32) : Nat → Nat → Int32 := fun c j => if c = 28 ∧ x * 20 ≤ j ∧ j < x * 20 + 20 then kv (j - x * 20) else P c j
def mx12 (z : Int32) (cd : Nat) : Int32 := if z < Int32.ofNat cd + 1 then Int32.ofNat cd + 1 else z
def EnC (k : Int32) (Ψ : Wg) (n : Nat) : Prop := (k = 6 ∨ k = 9) ∧ n = Ψ.1.length
/-- what entering x does beside its codes -/
def EnR (Ψ Ψ' : Wg) (n0 : Nat) (k : Int32) (cd x : Nat) (P P1 : Nat → Nat → Int32) (zp zp' : Int32) : Prop := (k = 1 ∧ P1 = up2 (up2 (up2 P (n0 + 17) cd (P 22 x)) (n0 + 18) cd (P 24 x)) (n0 + 19) cd (P 25 x) ∧ zp' = mx12 zp cd) ∨ (k = 2 ∧ zp' = zp ∧ ∃ e, P1 = up2 P (n0 + 21) cd e ∧ okI Ψ' e ∧ ∀ w HV, gW Ψ' w HV → lV w e = v3O (lV w (P (n0 + 21) cd)) (lV w (P 22 x))) ∨ ((k = 6 ∨ k = 9) ∧ zp' = zp ∧ ∃ l, l = Ψ.1.length ∧ l < Ψ'.1.length ∧ P1 = up2 P 26 x (Int32.ofNat (2 * l)) ∧ rlC Ψ'.2.1 (2 * l) (if k = 6 then 7 else 8) x) ∨ ((k ≠ 1 ∧ k ≠ 2 ∧ k ≠ 6 ∧ k ≠ 9) ∧ P1 = P ∧ zp' = zp)
section
variable {n0 l0 r0 N0 : Nat} {Θ : TrT} {M0 M M' : Mem} {Ψ Ψ' : Wg} {h : Nat} {Q : Option Value → Mem → Prop} {P P1 : Nat → Nat → Int32} {zp : Int32} {x : Nat} {kv : Nat → Int32}
theorem RwP.fil {z v : Int32} {a b : Nat} (h : RwP n0 P z M) (e : FilR M M' 28 (x * 20) (x * 20 + 20) v) (w28 : wvC n0 28) : RwP n0 (enP P x (fun _ => v)) z M' := by
  refine ⟨fun c j hc => ?_, by rw [e.2.1.1]; exact h.2⟩
  unfold enP
  by_cases z1 : c = 28
  · rw [z1, e.2.2.2 j]
    unfold filF
    by_cases z2 : x * 20 ≤ j ∧ j < x * 20 + 20
    · rw [if_pos z2, if_pos ⟨rfl, z2⟩]
    · rw [if_neg z2, if_neg (fun y => z2 y.2)]
      exact h.1 28 j w28
  · rw [if_neg (fun y => z1 y.1), e.2.2.1 c z1]
    exact h.1 c j hc
theorem enP_k {n : Nat} {v : Int32} (hn : n < 20) (c j : Nat) : enP P x (va_up kv n v) c j = up2 (enP P x kv) 28 (x * 20 + n) v c j := by
  show (if c = 28 ∧ x * 20 ≤ j ∧ j < x * 20 + 20 then va_up kv n v (j - x * 20) else P c j) = if c = 28 ∧ j = x * 20 + n then v else (if c = 28 ∧ x * 20 ≤ j ∧ j < x * 20 + 20 then kv (j - x * 20) else P c j)
  by_cases z : c = 28 ∧ x * 20 ≤ j ∧ j < x * 20 + 20
  · rw [if_pos z, if_pos z]
    by_cases y : j = x * 20 + n
    · rw [if_pos ⟨z.1, y⟩, y, show x * 20 + n - x * 20 = n by omega, va_up_self]
    · rw [if_neg (fun q => y q.2), va_up_ne _ _ (by omega)]
  · rw [if_neg z, if_neg z]
    by_cases y : c = 28 ∧ j = x * 20 + n
    · exact absurd ⟨y.1, by omega, by omega⟩ z
    · rw [if_neg y]
theorem enP_o {cc i : Nat} {v : Int32} (hc : cc ≠ 28) (c j : Nat) : enP (up2 P cc i v) x kv c j = up2 (enP P x kv) cc i v c j := by
  show (if c = 28 ∧ x * 20 ≤ j ∧ j < x * 20 + 20 then kv (j - x * 20) else (if c = cc ∧ j = i then v else P c j)) = if c = cc ∧ j = i then v else (if c = 28 ∧ x * 20 ≤ j ∧ j < x * 20 + 20 then kv (j - x * 20) else P c j)
  by_cases z : c = 28 ∧ x * 20 ≤ j ∧ j < x * 20 + 20
  · rw [if_pos z, if_pos z, if_neg (fun y => hc (y.1.symm.trans z.1))]
  · rw [if_neg z, if_neg z]
theorem enP_n {c j : Nat} (hc : c ≠ 28) : enP P x kv c j = P c j := by unfold enP; rw [if_neg (fun y => hc y.1)]
theorem WvP.wi {f : Nat} {v : Int32} (hW : WvP n0 l0 r0 N0 Θ M0 Ψ M) (hB : WvB n0 l0 r0 M0) (hf : f = 12 ∨ f = 16) (e : M' = wI M (n0 + 8) f v) : WvP n0 l0 r0 N0 Θ M0 Ψ M' := by
  obtain ⟨lc, rc, b1, b2, hl, ⟨F, hT, h8⟩, hC, ⟨hlc, hrc⟩, ⟨hA1, hA2, hAl⟩, hbb, hF, hRo, hh, hm⟩ := hW
  obtain ⟨⟨n1, n2⟩, -⟩ := hB
  have hE : mE M M' := by rw [e]; exact mE_wI
  have o8 := hC.1
  have frk : fr (fun d => d = n0 + 8) M M' := by rw [e]; exact fr_wI rfl
  have al : ∀ {a b : Nat} {xs : List Int32}, a = n0 + 13 ∨ a = n0 + 14 → ALi M a b xs → ALi M' a b xs := by
    intro a b xs ha hA
    refine hA.fr frk (fun z => by omega) (fun hb z => ?_) (fun d _ z w => ?_)
    · rw [z, o8.2] at hb; exact absurd hb (by decide)
    · rw [z, o8.2] at w; exact absurd w (by decide)
  obtain ⟨c1, c2, c3, c4, c5, c6, c7, c8, c9, c10⟩ := hC
  refine ⟨lc, rc, b1, b2, hl, ⟨by rw [e]; exact F.i, hT.low (fun d z => frk.2 d (by have := hF.1.1.1; omega) (by omega)), by rw [e]; exact h8⟩, ⟨by rw [e]; exact c1, by rw [e]; exact c2, by rw [e]; exact c3, by rw [e]; exact c4, by rw [e]; exact c5, ?_, by rw [e]; exact c7, fun j hj => by rw [e]; exact c8 j hj, c9, c10⟩, ⟨hlc, hrc⟩, ⟨al (Or.inl rfl) hA1, al (Or.inr rfl) hA2, hAl⟩, hbb, hF.tr frk (fun d _ z => Or.inr (Or.inl z)) (fun g z1 z2 z3 => ?_) (fun g _ _ => by rw [e]; rfl), hRo, hh, by unfold RmW at hm ⊢; rw [e]; exact hm⟩
  · rw [e, mI_wI, if_neg (by omega)]; exact c6
  · rw [e, mI_wI, if_neg (by omega)]
theorem RwP.wi {v : Int32} (h : RwP n0 P zp M) (e : M' = wI M (n0 + 8) 12 v) : RwP n0 P v M' := ⟨fun c j hc => by rw [e]; exact h.1 c j hc, by rw [e]; exact mI_own _ _ _ _⟩
theorem W_addP {cd : Nat} {g s k : Int32} (hB : WvB n0 l0 r0 M0) (hW : WvP n0 l0 r0 N0 Θ M0 Ψ M) (hP : RwP n0 P zp M) (hc : cd < 24) (K : ∀ M', WvP n0 l0 r0 N0 Θ M0 Ψ M' → RwP n0 (up2 (up2 (up2 P (n0 + 17) cd g) (n0 + 18) cd s) (n0 + 19) cd k) (mx12 zp cd) M' → Q none M') : E (h + 1) mdX0_addPause [.ref (n0 + 8), .int (Int32.ofNat cd), .int g, .int s, .int k] M Q := by
  obtain ⟨F, hT, h8, o8, hRo, l1, hRf, hE0⟩ := hW.sees hB
  obtain ⟨⟨n1, n2⟩, -, ⟨-, -, f9, f10, f11, -⟩, n8, -⟩ := id hB
  have lc : (Int32.ofNat cd).toNatClampNeg = cd := lt32 (by omega)
  have rr : ∀ {Mi : Mem} {f v : Nat}, WvP n0 l0 r0 N0 Θ M0 Ψ Mi → f ≠ 0 → f ≠ 1 → mR M0 (n0 + 8) f = some v → mR Mi (n0 + 8) f = some v := fun W z1 z2 e => by
    obtain ⟨-, -, -, -, -, -, q, -⟩ := W.sees hB
    rw [q _ z1 z2]; exact e
  have oo : ∀ {Mi : Mem} {q : Nat}, WvP n0 l0 r0 N0 Θ M0 Ψ Mi → q = 17 ∨ q = 18 ∨ q = 19 → ok Mi (n0 + q) 21 ∧ mL Mi (n0 + q) = 24 := fun W z => by
    obtain ⟨-, -, -, -, -, -, -, q⟩ := W.sees hB
    have y := n8 _ z
    exact ⟨ok_E y.1 q, ((q.2.2 _ y.1.1).2).trans y.2⟩
  have vc : vp_in (Int32.ofNat cd) 24 := vp_of hc (by decide)
  refine KX0_addPause ?_
  unfold DX0_addPause_0 DX0_addPause_45
  rw [lc]
  refine ⟨o8, n0 + 17, rr hW (by decide) (by decide) f9, (oo hW (Or.inl rfl)).1, fun z => ?_, fun _ => ⟨n0 + 17, rr hW (by decide) (by decide) f9, (oo hW (Or.inl rfl)).1, by rw [(oo hW (Or.inl rfl)).2]; exact vc, fun M6 e6 => ?_⟩⟩
  · rw [(oo hW (Or.inl rfl)).2] at z
    have := (le32 (by decide) (by omega)).mp z
    omega
  have W6 := hW.wr hB (Or.inr (Or.inl (by omega))) e6
  have P6 := hP.up e6
  refine ⟨n0 + 18, rr W6 (by decide) (by decide) f10, (oo W6 (Or.inr (Or.inl rfl))).1, by rw [(oo W6 (Or.inr (Or.inl rfl))).2]; exact vc, fun M9 e9 => ?_⟩
  have W9 := W6.wr hB (Or.inr (Or.inl (by omega))) e9
  have P9 := P6.up e9
  refine ⟨n0 + 19, rr W9 (by decide) (by decide) f11, (oo W9 (Or.inr (Or.inr rfl))).1, by rw [(oo W9 (Or.inr (Or.inr rfl))).2]; exact vc, fun M12 e12 M13 e13 => ?_⟩
  have W12 := W9.wr hB (Or.inr (Or.inl (by omega))) e12
  have P12 := P9.up e12
  rw [P12.2] at e13
  exact K M13 (W12.wi hB (Or.inl rfl) e13) (P12.wi e13)
/-- nets, codes and held masks that entering a node makes, by its kind -/
def eW (k : Int32) : Nat := if k = 1 then 4 else if k = 2 then 2 else 1
def eH (k : Int32) : Nat := if k = 1 then 1 else 0
theorem eW_1 : eW 1 = 4 := by decide
theorem eW_2 : eW 2 = 2 := by decide
theorem eH_1 : eH 1 = 1 := by decide
theorem eW_p {k : Int32} : 1 ≤ eW k := by unfold eW; split <;> (try split) <;> omega
theorem W_ent {cd : Nat} (hB : WvB n0 l0 r0 M0) (hW : WvP n0 l0 r0 N0 Θ M0 Ψ M) (hP : RwP n0 P zp M) (hlim : Ψ.1.length < 99900) (hx : x < 640) (hcd : Θ.2.2 11 x = Int32.ofNat cd) (c1 : Θ.2.2 5 x = 1 → cd < 24) (c2 : Θ.2.2 5 x = 2 → cd < 16 ∧ okI Ψ (P (n0 + 21) cd)) (c3 : Θ.2.2 5 x = 3 → cd < 20) (hg : okI Ψ (P 22 x)) (hr : okI Ψ (P 23 x)) (K : ∀ M' Ψ' P1 kv zp', WvP n0 l0 r0 N0 Θ M0 Ψ' M' → RwP n0 (enP P1 x kv) zp' M' → Gr (EnC (Θ.2.2 5 x) Ψ) Ψ Ψ' → (Ψ'.1.length ≤ Ψ.1.length + 2 ∧ Ψ'.2.2.length ≤ Ψ.2.2.length + eH (Θ.2.2 5 x) ∧ Ψ'.1.length + szN kv 20 ≤ Ψ.1.length + eW (Θ.2.2 5 x)) → EnR Ψ Ψ' n0 (Θ.2.2 5 x) cd x P P1 zp zp' → (∀ n, okI Ψ' (kv n)) → (∀ w HV, gW Ψ' w HV → ∀ n, lV w (kv n) = enV (Θ.2.2 5 x) cd n (lV w (P 22 x)) (lV w (P 23 x)) (HV (Θ.2.2 12 x))) → Q none M') : E (h + 9) mdX9_enter [.ref 21, .int (Int32.ofNat x)] M Q := by
  obtain ⟨F, hT, h8, o8, hRo, l1, hRf, hE0⟩ := hW.sees hB
  obtain ⟨⟨n1, n2⟩, -, ⟨-, -, f9, f10, f11, f14⟩, n8, ⟨n9, n10⟩, -⟩ := id hB
  have lx : (Int32.ofNat x).toNatClampNeg = x := lt32 (by omega)
  have w22 : wvC n0 22 := Or.inl (by omega)
  have w23 : wvC n0 23 := Or.inl (by omega)
  have w24 : wvC n0 24 := Or.inl (by omega)
  have w25 : wvC n0 25 := Or.inl (by omega)
  have w26 : wvC n0 26 := Or.inl (by omega)
  have w28 : wvC n0 28 := Or.inl (by omega)
  have w21 : wvC n0 (n0 + 21) := Or.inr (Or.inr rfl)
  have vx : ∀ {k : Nat}, k = 640 → vp_in (Int32.ofNat x) k := fun e => by rw [e]; exact vp_of hx (by decide)
  have e20 : Int32.ofNat x * 20 = Int32.ofNat (x * 20) := by rw [Int32.ofNat_mul]; rfl
  have e20n : ∀ n : Nat, Int32.ofNat (x * 20) + Int32.ofNat n = Int32.ofNat (x * 20 + n) := fun n => (Int32.ofNat_add _ _).symm
  have l20 : (Int32.ofNat (x * 20)).toNatClampNeg = x * 20 := lt32 (by omega)
  have v20 : ∀ {k n : Nat}, k = 12800 → n < 20 → vp_in (Int32.ofNat (x * 20 + n)) k := fun e hn => by rw [e]; exact vp_of (by omega) (by decide)
  have l28 : mL M 28 = 12800 := ln28 F
  have z0 : ∀ {Φ : Wg}, 1 ≤ Φ.1.length → okI Φ 0 := fun h => ⟨0, rfl, by omega⟩
  have lz : ∀ {Φ : Wg} {w : Nat → Nat} {HV : Int32 → Nat}, gW Φ w HV → lV w 0 = 0 := fun {Φ w HV} g => by
    have e : (0 : Int32) = Int32.ofNat 0 := rfl
    rw [e, lV_of (by decide), lR_0 g.1]
  refine KX9_enter (h := h + 8) ?_
  unfold DX9_enter_0 DX9_enter_255
  rw [e20, lx]
  refine ⟨ok21 F, 28, rf21_7 F, ?_⟩
  have e2020 : Int32.ofNat (x * 20) + 20 = Int32.ofNat (x * 20 + 20) := e20n 20
  rw [e2020]
  refine S_fill4 (h := h + 6) (ok28 F) (by omega) (by rw [l28]; omega) (by rw [l28]; decide) (fun M3 R3 _ => ⟨rfl, ?_⟩)
  have W3 := hW.fil hB w28 R3
  have P3 := hP.fil (a := 0) (b := 0) R3 w28
  obtain ⟨F3, hT3, h83, o83, -, -, hRf3, hE3⟩ := W3.sees hB
  clear R3
  have k5 : mAI M3 5 x = Θ.2.2 5 x := by rw [hT3.2.2.2.1 5 (by decide) (by decide)]
  have k11 : mAI M3 11 x = Int32.ofNat cd := by rw [hT3.2.2.2.1 11 (by decide) (by decide)]; exact hcd
  have g22 : mAI M3 22 x = P 22 x := (P3.1 22 x w22).trans (enP_n (by decide))
  have g23 : mAI M3 23 x = P 23 x := (P3.1 23 x w23).trans (enP_n (by decide))
  have g24 : mAI M3 24 x = P 24 x := (P3.1 24 x w24).trans (enP_n (by decide))
  have g25 : mAI M3 25 x = P 25 x := (P3.1 25 x w25).trans (enP_n (by decide))
  refine ⟨4, rf21_0 F3, ok4 F3, 11, rf4_6 F3, ok11 F3, vx (ln11 F3), 4, rf21_0 F3, ok4 F3, 5, rf4_0 F3, ok5 F3, vx (ln5 F3), ?_⟩
  rw [k5, k11, l20]
  -- a node that ends at once, and a row
  have one : ∀ (n : Nat), n < 20 → (Θ.2.2 5 x ≠ 1 ∧ Θ.2.2 5 x ≠ 2 ∧ Θ.2.2 5 x ≠ 6 ∧ Θ.2.2 5 x ≠ 9) → (∀ a b c k, enV (Θ.2.2 5 x) cd k a b c = if k = n then a else 0) → ∀ M16, M16 = wAI M3 28 (x * 20 + n) (mAI M3 22 x) → Q none M16 := by
    intro n hn ne hv M16 e16
    rw [g22] at e16
    refine K M16 Ψ P (va_up (fun _ => 0) n (P 22 x)) zp (W3.wr hB w28 e16) ((P3.up e16).cg (fun c j _ => enP_k hn c j)) Gr.rf ⟨by omega, Nat.le_add_right _ _, by have := sz_u1 (f := fun _ => 0) (j := n) (v := P 22 x) 20; rw [sz_0] at this; have := eW_p (k := Θ.2.2 5 x); omega⟩ (Or.inr (Or.inr (Or.inr ⟨ne, rfl, rfl⟩))) (fun k => ?_) (fun w HV g k => ?_)
    · by_cases z : k = n
      · rw [z, va_up_self]; exact hg
      · rw [va_up_ne _ _ z]; exact z0 l1
    · rw [hv]
      by_cases z : k = n
      · rw [z, va_up_self, if_pos rfl]
      · rw [va_up_ne _ _ z, if_neg z, lz g]
  have non : (Θ.2.2 5 x ≠ 1 ∧ Θ.2.2 5 x ≠ 2 ∧ Θ.2.2 5 x ≠ 6 ∧ Θ.2.2 5 x ≠ 9) → (∀ a b c k, enV (Θ.2.2 5 x) cd k a b c = 0) → Q none M3 := by
    intro ne hv
    refine K M3 Ψ P (fun _ => 0) zp W3 P3 Gr.rf ⟨by omega, Nat.le_add_right _ _, by rw [sz_0]; omega⟩ (Or.inr (Or.inr (Or.inr ⟨ne, rfl, rfl⟩))) (fun k => z0 l1) (fun w HV g k => ?_)
    rw [hv, lz g]
  have opn : (Θ.2.2 5 x = 6 ∨ Θ.2.2 5 x = 9) → E (h + 8) mdX0_fresh [.ref (n0 + 8)] M3 (fun r M69 => mE M3 M69 → ∃ r70 : Int32, r = some (.int r70) ∧ ok M69 26 21 ∧ vp_in (Int32.ofNat x) (mL M69 26) ∧ ∀ M72, M72 = wAI M69 26 x r70 → Q none M72) := by
    intro hk
    refine W_fresh (h := h + 4) (k := if Θ.2.2 5 x = 6 then 7 else 8) (x := x) hB W3 (by omega) (by split <;> decide) (by split <;> decide) (fun M69 Ψ69 W69 O69 G69 L69 q69 _ => ⟨_, rfl, ?_⟩)
    obtain ⟨F69, -, -, -, hRo69, l69, -⟩ := W69.sees hB
    refine ⟨ok26 F69, vx (ln26 F69), fun M72 e72 => ?_⟩
    refine K M72 Ψ69 (up2 P 26 x (Int32.ofNat (2 * Ψ.1.length))) (fun _ => 0) zp (W69.wr hB w26 e72) (((P3.ob O69).up e72).cg (fun c j _ => enP_o (by decide) c j)) (G69.more (fun _ _ z => ⟨hk, z⟩)) ⟨by omega, by omega, by rw [sz_0]; have := eW_p (k := Θ.2.2 5 x); omega⟩ (Or.inr (Or.inr (Or.inl ⟨hk, rfl, Ψ.1.length, rfl, by omega, rfl, q69⟩))) (fun k => z0 l69) (fun w HV g k => ?_)
    rw [lz g]
    unfold enV
    rcases hk with z | z <;> rw [z] <;> rfl
  have e28 : ∀ {k : Nat}, k = 12800 → vp_in (Int32.ofNat (x * 20)) k := fun e => v20 (n := 0) e (by decide)
  refine ⟨fun z => ⟨28, rf21_7 F3, 22, rf21_1 F3, ok22 F3, vx (ln22 F3), ok28 F3, e28 (ln28 F3), fun M16 e16 => one 0 (by decide) (by rw [z]; decide) (fun a b c k => ?_) M16 e16⟩, fun z => ?_, fun z => ?_, fun z => ?_, fun z => ?_, fun z => ?_, fun z => ?_, fun z => ?_, fun z => ?_, fun z => ?_, fun z => ?_⟩
  · rw [z]; unfold enV; rfl
  · -- a pause
    refine ⟨n0 + 8, h83, 22, rf21_1 F3, ok22 F3, vx (ln22 F3), 24, rf21_3 F3, ok24 F3, vx (ln24 F3), 25, rf21_4 F3, ok25 F3, vx (ln25 F3), o83, ?_⟩
    rw [g22, g24, g25]
    refine W_addP (h := h + 7) hB W3 P3 (c1 z) (fun M25 W25 P25 _ => ⟨rfl, ?_⟩)
    obtain ⟨F25, -⟩ := W25.sees hB
    have P25 : RwP n0 (enP (up2 (up2 (up2 P (n0 + 17) cd (P 22 x)) (n0 + 18) cd (P 24 x)) (n0 + 19) cd (P 25 x)) x (fun _ => 0)) (mx12 zp cd) M25 := P25.cg (fun c j _ => by
      rw [enP_o (by omega) c j]
      unfold up2
      by_cases y : c = n0 + 19 ∧ j = cd
      · rw [if_pos y, if_pos y]
      · rw [if_neg y, if_neg y]
        have := enP_o (P := up2 P (n0 + 17) cd (P 22 x)) (x := x) (kv := fun _ => 0) (cc := n0 + 18) (i := cd) (v := P 24 x) (by omega) c j
        unfold up2 at this
        rw [this]
        by_cases y2 : c = n0 + 18 ∧ j = cd
        · rw [if_pos y2, if_pos y2]
        · rw [if_neg y2, if_neg y2]
          have := enP_o (P := P) (x := x) (kv := fun _ => 0) (cc := n0 + 17) (i := cd) (v := P 22 x) (by omega) c j
          unfold up2 at this
          exact this)
    have r23 : mAI M25 23 x = P 23 x := (P25.1 23 x w23).trans (by rw [enP_n (by decide)]; unfold up2; rw [if_neg (by omega), if_neg (by omega), if_neg (by omega)])
    refine ⟨28, rf21_7 F25, W_res (h := h) hB W25 (by omega) hx (by rw [r23]; exact hr) (fun M27 Ψ27 r28 W27 O27 G27 L27 k28 s28 _ => ⟨_, rfl, ?_⟩)⟩
    obtain ⟨F27, -, -, -, hRo27, l27, -⟩ := W27.sees hB
    refine ⟨ok28 F27, e28 (ln28 F27), fun M30 e30 => ?_⟩
    have W30 := W27.wr hB w28 e30
    have P30 := ((P25.ob O27).up e30).cg (P' := enP (up2 (up2 (up2 P (n0 + 17) cd (P 22 x)) (n0 + 18) cd (P 24 x)) (n0 + 19) cd (P 25 x)) x (va_up (fun _ => 0) 0 r28)) (fun c j _ => enP_k (n := 0) (by decide) c j)
    obtain ⟨F30, -⟩ := W30.sees hB
    have g30 : mAI M30 22 x = P 22 x := (P30.1 22 x w22).trans (by rw [enP_n (by decide)]; unfold up2; rw [if_neg (by omega), if_neg (by omega), if_neg (by omega)])
    have e21 : Int32.ofNat (x * 20) + 1 = Int32.ofNat (x * 20 + 1) := e20n 1
    rw [e21, lt32 (show x * 20 + 1 < 2147483648 by omega)]
    refine ⟨28, rf21_7 F30, 22, rf21_1 F30, ok22 F30, vx (ln22 F30), ok28 F30, v20 (ln28 F30) (by decide), fun M35 e35 => ?_⟩
    rw [g30] at e35
    refine K M35 Ψ27 _ (va_up (va_up (fun _ => 0) 0 r28) 1 (P 22 x)) (mx12 zp cd) (W30.wr hB w28 e35) ((P30.up e35).cg (fun c j _ => enP_k (n := 1) (by decide) c j)) (G27.more (fun _ _ y => y.elim)) ⟨by omega, by rw [z, eH_1]; omega, by rw [z, eW_1]; have := sz_u1 (f := fun _ => 0) (j := 0) (v := r28) 20; have := sz_u1 (f := va_up (fun _ => 0) 0 r28) (j := 1) (v := P 22 x) 20; have := sz_0 20; omega⟩ (Or.inl ⟨z, rfl, rfl⟩) (fun k => ?_) (fun w HV g k => ?_)
    · by_cases q1 : k = 1
      · rw [q1, va_up_self]; exact hg.gr G27
      · rw [va_up_ne _ _ q1]
        by_cases q0 : k = 0
        · rw [q0, va_up_self]; exact k28
        · rw [va_up_ne _ _ q0]; exact z0 l27
    · rw [z]
      unfold enV
      rw [if_pos rfl]
      by_cases q1 : k = 1
      · rw [q1, va_up_self, if_neg (by decide), if_pos rfl]
      · rw [va_up_ne _ _ q1]
        by_cases q0 : k = 0
        · rw [q0, va_up_self, if_pos rfl, s28 w HV g, r23]
        · rw [va_up_ne _ _ q0, if_neg q0, if_neg q1, lz g]
  · -- an emission
    obtain ⟨c16, oe⟩ := c2 z
    have ge : mAI M3 (n0 + 21) cd = P (n0 + 21) cd := (P3.1 _ cd w21).trans (enP_n (by omega))
    have r14 : mR M3 (n0 + 8) 14 = some (n0 + 21) := (hRf3 14 (by decide) (by decide)).trans f14
    have o21' : ok M3 (n0 + 21) 21 := ok_E n9 hE3
    have vc : ∀ {k : Nat}, k = 16 → vp_in (Int32.ofNat cd) k := fun e => by rw [e]; exact vp_of c16 (by decide)
    rw [lt32 (show cd < 2147483648 by omega)]
    refine ⟨n0 + 8, h83, o83, n0 + 21, r14, n0 + 8, h83, n0 + 8, h83, o83, n0 + 21, r14, o21', vc ((hE3.2.2 _ n9.1).2.trans n10), 22, rf21_1 F3, ok22 F3, vx (ln22 F3), o83, ?_⟩
    rw [ge, g22]
    refine W_or (h := h + 3) hB W3 (by omega) oe hg (fun M47 Ψ47 r48 W47 O47 G47 L47 k48 s48 _ => ⟨_, rfl, ?_⟩)
    obtain ⟨F47, -, -, -, hRo47, l47, hRf47, hE47⟩ := W47.sees hB
    refine ⟨ok_E n9 hE47, vc ((hE47.2.2 _ n9.1).2.trans n10), fun M50 e50 => ?_⟩
    have W50 := W47.wr hB w21 e50
    have P50 := ((P3.ob O47).up e50).cg (P' := enP (up2 P (n0 + 21) cd r48) x (fun _ => 0)) (fun c j _ => enP_o (by omega) c j)
    obtain ⟨F50, -⟩ := W50.sees hB
    have g50 : mAI M50 22 x = P 22 x := (P50.1 22 x w22).trans (by rw [enP_n (by decide)]; unfold up2; rw [if_neg (by omega)])
    refine ⟨28, rf21_7 F50, 22, rf21_1 F50, ok22 F50, vx (ln22 F50), ok28 F50, e28 (ln28 F50), fun M55 e55 => ?_⟩
    rw [g50] at e55
    refine K M55 Ψ47 _ (va_up (fun _ => 0) 0 (P 22 x)) zp (W50.wr hB w28 e55) ((P50.up e55).cg (fun c j _ => enP_k (n := 0) (by decide) c j)) (G47.more (fun _ _ y => y.elim)) ⟨by omega, by omega, by rw [z, eW_2]; have := sz_u1 (f := fun _ => 0) (j := 0) (v := P 22 x) 20; have := sz_0 20; omega⟩ (Or.inr (Or.inl ⟨z, rfl, r48, rfl, k48, s48⟩)) (fun k => ?_) (fun w HV g k => ?_)
    · by_cases q0 : k = 0
      · rw [q0, va_up_self]; exact hg.gr G47
      · rw [va_up_ne _ _ q0]; exact z0 l47
    · rw [z]
      unfold enV
      rw [if_neg (by decide), if_neg (by decide), if_pos (Or.inr (Or.inl rfl))]
      by_cases q0 : k = 0
      · rw [q0, va_up_self, if_pos rfl]
      · rw [va_up_ne _ _ q0, if_neg q0, lz g]
  · -- an exit
    have c20 := c3 z
    rw [e20n cd, lt32 (by omega)]
    refine ⟨28, rf21_7 F3, 22, rf21_1 F3, ok22 F3, vx (ln22 F3), ok28 F3, v20 (ln28 F3) c20, fun M60 e60 => one cd c20 (by rw [z]; decide) (fun a b c k => ?_) M60 e60⟩
    rw [z]; unfold enV; rfl
  · exact non (by rw [z]; decide) (fun a b c k => by rw [z]; unfold enV; rfl)
  · refine ⟨28, rf21_7 F3, 22, rf21_1 F3, ok22 F3, vx (ln22 F3), ok28 F3, e28 (ln28 F3), fun M65 e65 => one 0 (by decide) (by rw [z]; decide) (fun a b c k => ?_) M65 e65⟩
    rw [z]; unfold enV; rfl
  · exact ⟨26, rf21_5 F3, n0 + 8, h83, o83, opn (Or.inl z)⟩
  · exact non (by rw [z]; decide) (fun a b c k => by rw [z]; unfold enV; rfl)
  · exact non (by rw [z]; decide) (fun a b c k => by rw [z]; unfold enV; rfl)
  · exact ⟨26, rf21_5 F3, n0 + 8, h83, o83, opn (Or.inr z)⟩
  · have ne : ∀ t : Int32, (0 ≤ t.toInt ∧ t.toInt ≤ 9) → Θ.2.2 5 x ≠ t := fun t ht e => by
      rw [e] at z
      omega
    refine non ⟨ne 1 (by decide), ne 2 (by decide), ne 6 (by decide), ne 9 (by decide)⟩ (fun a b c k => ?_)
    unfold enV
    rw [if_neg (ne 1 (by decide)), if_neg (ne 3 (by decide)), if_neg]
    rintro (y | y | y)
    · exact ne 0 (by decide) y
    · exact ne 2 (by decide) y
    · exact ne 5 (by decide) y
end
end
section
/-! the weaver leaves a node -/
def ltV (n : Nat) (ka kx : Nat → Nat) : Nat := if n = 0 then v3O (kx 0) (kx 2) else if n = 1 then kx 1 else if n ≤ 18 then kx (n + 1) else ka n
def lvV (k : Int32) (n : Nat) (ka kx : Nat → Nat) (rs hv cd : Nat) : Nat := if k = 4 then v3O (ka n) (kx n) else if k = 5 then (if n = 0 then kx 0 else v3O (ka n) (kx n)) else if k = 6 then (if n = 0 then 0 else v3O (ka n) (kx n)) else if k = 7 then (if n = 1 then v3O (v3O (ka 1) (kx 1)) (v3A (v3A rs hv) cd) else v3O (ka n) (kx n)) else ltV n ka kx
theorem v3O_0 {a : Nat} (h : a ≤ 2) : v3O 0 a = a := by
  have : a = 0 ∨ a = 1 ∨ a = 2 := by omega
  rcases this with e | e | e <;> subst e <;> rfl
section
variable {n0 l0 r0 N0 : Nat} {Θ : TrT} {M0 M M' : Mem} {Ψ Ψ' : Wg} {h : Nat} {Q : Option Value → Mem → Prop} {P P1 : Nat → Nat → Int32} {zp : Int32} {x a : Nat} {kv : Nat → Int32}
theorem enP_i {n : Nat} (hn : n < 20) : enP P a kv 28 (a * 20 + n) = kv n := by
  unfold enP
  rw [if_pos ⟨rfl, by omega, by omega⟩, show a * 20 + n - a * 20 = n by omega]
theorem enP_x {n : Nat} (hn : n < 20) (hne : x ≠ a) : enP P a kv 28 (x * 20 + n) = P 28 (x * 20 + n) := by
  unfold enP
  rw [if_neg (by omega)]
theorem enP_id {c j : Nat} : enP P a (fun n => P 28 (a * 20 + n)) c j = P c j := by
  unfold enP
  by_cases z : c = 28 ∧ a * 20 ≤ j ∧ j < a * 20 + 20
  · rw [if_pos z, z.1]
    show P 28 (a * 20 + (j - a * 20)) = _
    rw [show a * 20 + (j - a * 20) = j by omega]
  · rw [if_neg z]
theorem enP_2 {kw : Nat → Int32} {c j : Nat} : enP (enP P a kv) a kw c j = enP P a kw c j := by
  unfold enP
  by_cases z : c = 28 ∧ a * 20 ≤ j ∧ j < a * 20 + 20
  · rw [if_pos z, if_pos z]
  · rw [if_neg z, if_neg z, if_neg z]
theorem W_orA (hB : WvB n0 l0 r0 M0) (hW : WvP n0 l0 r0 N0 Θ M0 Ψ M) (hP : RwP n0 P zp M) (hlim : Ψ.1.length < 99900) (ha : a < 640) (hx : x < 640) (hne : x ≠ a) (hka : ∀ n, n < 20 → okI Ψ (P 28 (a * 20 + n))) (hkx : ∀ n, n < 20 → okI Ψ (P 28 (x * 20 + n))) (K : ∀ M' Ψ' kv, WvP n0 l0 r0 N0 Θ M0 Ψ' M' → RwP n0 (enP P a kv) zp M' → Gr noN Ψ Ψ' → (Ψ'.1.length ≤ Ψ.1.length + 20 ∧ Ψ'.2.2.length = Ψ.2.2.length ∧ Ψ'.1.length + szN kv 20 ≤ Ψ.1.length + nk P a + nk P x) → (∀ n, n < 20 → okI Ψ' (kv n)) → (∀ w HV, gW Ψ' w HV → ∀ n, n < 20 → lV w (kv n) = v3O (lV w (P 28 (a * 20 + n))) (lV w (P 28 (x * 20 + n)))) → Q none M') : E (h + 6) mdX9_orAll [.ref 21, .int (Int32.ofNat (a * 20)), .int (Int32.ofNat (x * 20))] M Q := by
  have w28 : wvC n0 28 := Or.inl (by omega)
  have main : ∀ (d n : Nat) (M1 : Mem) (Ψ1 : Wg) (kv : Nat → Int32), n + d = 20 → WvP n0 l0 r0 N0 Θ M0 Ψ1 M1 → RwP n0 (enP P a kv) zp M1 → Gr noN Ψ Ψ1 → (Ψ1.1.length ≤ Ψ.1.length + n ∧ Ψ1.2.2.length = Ψ.2.2.length ∧ Ψ1.1.length + szN kv 20 ≤ Ψ.1.length + nk P a + szN (fun k => P 28 (x * 20 + k)) n) → (∀ k, k < 20 → okI Ψ1 (kv k)) → (∀ k, n ≤ k → kv k = P 28 (a * 20 + k)) → (∀ w HV, gW Ψ1 w HV → ∀ k, k < n → lV w (kv k) = v3O (lV w (P 28 (a * 20 + k))) (lV w (P 28 (x * 20 + k)))) → T (h + 6) mdX9_orAll 2 [(0, .ref 21), (1, .int (Int32.ofNat (a * 20))), (2, .int (Int32.ofNat (x * 20))), (3, .int (Int32.ofNat n))] [] M1 Q := by
    intro d
    induction d with
    | zero =>
      intro n M1 Ψ1 kv hn W1 R1 G1 L1 o1 r1 s1
      have e : n = 20 := by omega
      subst e
      refine VX9_orAll_2 ?_
      unfold DX9_orAll_2
      exact ⟨fun _ => K M1 Ψ1 kv W1 R1 G1 L1 o1 s1, fun z => absurd Int32.le_rfl z⟩
    | succ d ih =>
      intro n M1 Ψ1 kv hn W1 R1 G1 L1 o1 r1 s1
      obtain ⟨F1, -, h81, o81, hRo1, -⟩ := W1.sees hB
      have nle : ¬ (20 : Int32) ≤ Int32.ofNat n := fun z => by
        have := (le32 (a := 20) (by decide) (by omega)).mp z
        omega
      have ea : Int32.ofNat (a * 20) + Int32.ofNat n = Int32.ofNat (a * 20 + n) := (Int32.ofNat_add _ _).symm
      have ex : Int32.ofNat (x * 20) + Int32.ofNat n = Int32.ofNat (x * 20 + n) := (Int32.ofNat_add _ _).symm
      have va : ∀ {k : Nat}, k = 12800 → vp_in (Int32.ofNat (a * 20 + n)) k := fun e => by rw [e]; exact vp_of (by omega) (by decide)
      have vx : ∀ {k : Nat}, k = 12800 → vp_in (Int32.ofNat (x * 20 + n)) k := fun e => by rw [e]; exact vp_of (by omega) (by decide)
      have ga : mAI M1 28 (a * 20 + n) = P 28 (a * 20 + n) := (R1.1 28 _ w28).trans ((enP_i (by omega)).trans (r1 n (Nat.le_refl _)))
      have gx : mAI M1 28 (x * 20 + n) = P 28 (x * 20 + n) := (R1.1 28 _ w28).trans (enP_x (by omega) hne)
      refine VX9_orAll_2 ?_
      unfold DX9_orAll_2
      rw [ea, ex, lt32 (by omega), lt32 (by omega)]
      refine ⟨fun z => absurd z nle, fun _ => ⟨ok21 F1, 28, rf21_7 F1, n0 + 8, h81, 28, rf21_7 F1, ok28 F1, va (ln28 F1), 28, rf21_7 F1, ok28 F1, vx (ln28 F1), o81, ?_⟩⟩
      rw [ga, gx]
      refine W_or (h := h) hB W1 (by omega) ((hka n (by omega)).gr G1) ((hkx n (by omega)).gr G1) (fun M9 Ψ9 r10 W9 O9 G9 L9 k10 s10 _ => ⟨_, rfl, ?_⟩)
      obtain ⟨F9, -, -, -, hRo9, -⟩ := W9.sees hB
      refine ⟨ok28 F9, va (ln28 F9), fun M12 e12 => ?_⟩
      rw [succ32]
      refine ih (n + 1) M12 Ψ9 (va_up kv n r10) (by omega) (W9.wr hB w28 e12) (((R1.ob O9).up e12).cg (fun c j _ => enP_k (by omega) c j)) (G1.tr G9 (fun _ _ z => z)) ⟨by omega, by omega, ?_⟩ (fun k hk => ?_) (fun k hk => ?_) (fun w HV g k hk => ?_)
      · have u := sz_up (f := kv) (j := n) (v := r10) 20 (by omega)
        rw [r1 n (Nat.le_refl _)] at u
        show Ψ9.1.length + szN (va_up kv n r10) 20 ≤ Ψ.1.length + nk P a + (szN (fun k => P 28 (x * 20 + k)) n + nz (P 28 (x * 20 + n)))
        obtain ⟨-, -, L1⟩ := L1
        obtain ⟨-, -, L9⟩ := L9
        omega
      · by_cases z : k = n
        · rw [z, va_up_self]; exact k10
        · rw [va_up_ne _ _ z]; exact (o1 k hk).gr G9
      · rw [va_up_ne _ _ (by omega)]; exact r1 k (by omega)
      · by_cases z : k = n
        · rw [z, va_up_self]; exact s10 w HV g
        · rw [va_up_ne _ _ z]
          exact s1 w HV (g.bk G9 hRo1 hRo9 (fun _ _ y => y.elim)) k (by omega)
  refine KX9_orAll ?_
  unfold DX9_orAll_0
  exact main 20 0 M Ψ (fun n => P 28 (a * 20 + n)) (by omega) hW (hP.cg (fun c j _ => enP_id)) Gr.rf ⟨by omega, rfl, Nat.le_refl _⟩ hka (fun _ _ => rfl) (fun _ _ _ k hk => absurd hk (Nat.not_lt_zero _))
/-- a loop or a trap is closed -/
def ClQ (Ψ : Wg) (l : Nat) (f : (Nat → Nat) → Nat) : Prop := ∃ lc, Ψ.1.getD l (0, 0) = (lc, lc) ∧ lc < 2 * Ψ.1.length ∧ ∀ w HV, gW Ψ w HV → lvN w lc = f w
theorem ClQ.gr {C : Nat → Prop} {l : Nat} {f : (Nat → Nat) → Nat} (hq : ClQ Ψ l f) (g : Gr C Ψ Ψ') (hl : l < Ψ.1.length) (hC : ¬ C l) (hR : RoW Ψ) (hR' : RoW Ψ') (hC0 : ∀ n, n < Ψ.1.length → C n → (Ψ.2.1.getD n (0, 0)).1 ≠ 0) : ClQ Ψ' l f := by
  obtain ⟨lc, h1, h2, h3⟩ := hq
  exact ⟨lc, by rw [g.2.1 l hl hC]; exact h1, by have := g.1; omega, fun w HV k => h3 w HV (k.bk g hR hR' hC0)⟩
theorem W_lvT {l : Nat} (hB : WvB n0 l0 r0 M0) (hW : WvP n0 l0 r0 N0 Θ M0 Ψ M) (hP : RwP n0 P zp M) (hlim : Ψ.1.length < 99900) (ha : a < 640) (hx : x < 640) (hne : x ≠ a) (hka : ∀ n, n < 20 → okI Ψ (P 28 (a * 20 + n))) (hkx : ∀ n, n < 20 → okI Ψ (P 28 (x * 20 + n))) (hkl : okI Ψ (P 25 a)) (ho : P 26 a = Int32.ofNat (2 * l)) (hl : l < Ψ.1.length) (hr : (Ψ.2.1.getD l (0, 0)).1 ≠ 0 ∧ (Ψ.2.1.getD l (0, 0)).1 ≠ 6) (K : ∀ M' Ψ' kv, WvP n0 l0 r0 N0 Θ M0 Ψ' M' → RwP n0 (enP P a kv) zp M' → Gr (fun z => z = l) Ψ Ψ' → (Ψ'.1.length ≤ Ψ.1.length + 2 ∧ Ψ'.2.2.length = Ψ.2.2.length ∧ Ψ'.1.length + szN kv 20 ≤ Ψ.1.length + nk P a + nk P x + 1) → (∀ n, n < 20 → okI Ψ' (kv n)) → ClQ Ψ' l (fun w => v3O (lV w (P 25 a)) (lV w (P 28 (x * 20 + 2)))) → (∀ w HV, gW Ψ' w HV → ∀ n, n < 20 → lV w (kv n) = ltV n (fun j => lV w (P 28 (a * 20 + j))) (fun j => lV w (P 28 (x * 20 + j)))) → Q none M') : E (h + 6) mdX9_leaveTrap [.ref 21, .int (Int32.ofNat a), .int (Int32.ofNat (x * 20))] M Q := by
  obtain ⟨F, hT, h8, o8, hRo, l1, hRf, hE0⟩ := hW.sees hB
  have w28 : wvC n0 28 := Or.inl (by omega)
  have w26 : wvC n0 26 := Or.inl (by omega)
  have w25 : wvC n0 25 := Or.inl (by omega)
  have va : ∀ {k : Nat}, k = 640 → vp_in (Int32.ofNat a) k := fun e => by rw [e]; exact vp_of ha (by decide)
  have vxn : ∀ {k n : Nat}, k = 12800 → n < 20 → vp_in (Int32.ofNat (x * 20 + n)) k := fun e hn => by rw [e]; exact vp_of (by omega) (by decide)
  have van : ∀ {k n : Nat}, k = 12800 → n < 20 → vp_in (Int32.ofNat (a * 20 + n)) k := fun e hn => by rw [e]; exact vp_of (by omega) (by decide)
  have la : (Int32.ofNat a).toNatClampNeg = a := lt32 (by omega)
  have ex2 : Int32.ofNat (x * 20) + 2 = Int32.ofNat (x * 20 + 2) := (Int32.ofNat_add _ _).symm
  have ex1 : Int32.ofNat (x * 20) + 1 = Int32.ofNat (x * 20 + 1) := (Int32.ofNat_add _ _).symm
  have ea : Int32.ofNat a * 20 = Int32.ofNat (a * 20) := by rw [Int32.ofNat_mul]; rfl
  have ea1 : Int32.ofNat (a * 20) + 1 = Int32.ofNat (a * 20 + 1) := (Int32.ofNat_add _ _).symm
  have lx0 : (Int32.ofNat (x * 20)).toNatClampNeg = x * 20 := lt32 (by omega)
  have la0 : (Int32.ofNat (a * 20)).toNatClampNeg = a * 20 := lt32 (by omega)
  have lx2 : (Int32.ofNat (x * 20 + 2)).toNatClampNeg = x * 20 + 2 := lt32 (by omega)
  have lx1 : (Int32.ofNat (x * 20 + 1)).toNatClampNeg = x * 20 + 1 := lt32 (by omega)
  have la1 : (Int32.ofNat (a * 20 + 1)).toNatClampNeg = a * 20 + 1 := lt32 (by omega)
  have g26 : mAI M 26 a = Int32.ofNat (2 * l) := (hP.1 26 a w26).trans ho
  have g25 : mAI M 25 a = P 25 a := hP.1 25 a w25
  have gx2 : mAI M 28 (x * 20 + 2) = P 28 (x * 20 + 2) := hP.1 28 _ w28
  refine KX9_leaveTrap (h := h + 5) ?_
  unfold DX9_leaveTrap_0
  rw [ex2, ex1, ea, ea1, la, lx2, lx0, la0, lx1, la1]
  refine ⟨ok21 F, n0 + 8, h8, 26, rf21_5 F, ok26 F, va (ln26 F), n0 + 8, h8, 25, rf21_4 F, ok25 F, va (ln25 F), 28, rf21_7 F, ok28 F, vxn (ln28 F) (by decide), o8, ?_⟩
  rw [g26, g25, gx2]
  refine W_or (h := h) hB hW (by omega) hkl (hkx 2 (by decide)) (fun M11 Ψ11 r12 W11 O11 G11 L11 k12 s12 _ => ⟨_, rfl, ?_⟩)
  obtain ⟨F11, -, -, o811, hRo11, -⟩ := W11.sees hB
  obtain ⟨lc, ec, hlc⟩ := k12
  have hr11 : (Ψ11.2.1.getD l (0, 0)).1 ≠ 0 ∧ (Ψ11.2.1.getD l (0, 0)).1 ≠ 6 := by rw [G11.2.2.1 l hl]; exact hr
  rw [ec]
  refine ⟨o811, W_close (h := h + 4) hB W11 (by omega) (by have := G11.1; omega) hr11 hlc (fun M14 Ψ14 W14 O14 G14 L14 d14 e14 _ => ⟨rfl, ?_⟩)⟩
  obtain ⟨F14, -, h814, o814, hRo14, -⟩ := W14.sees hB
  have P14 := (hP.ob O11).ob O14
  have gx0 : mAI M14 28 (x * 20) = P 28 (x * 20 + 0) := P14.1 28 _ w28
  have gx2' : mAI M14 28 (x * 20 + 2) = P 28 (x * 20 + 2) := P14.1 28 _ w28
  have c0 : ∀ n, n < Ψ11.1.length → n = l → (Ψ11.2.1.getD n (0, 0)).1 ≠ 0 := fun n _ e => by rw [e]; exact hr11.1
  have gg : Gr (fun z => z = l) Ψ Ψ14 := (G11.more (fun _ _ z => z.elim)).tr G14 (fun _ _ z => z)
  refine ⟨28, rf21_7 F14, n0 + 8, h814, 28, rf21_7 F14, ok28 F14, vxn (n := 0) (ln28 F14) (by decide), 28, rf21_7 F14, ok28 F14, vxn (ln28 F14) (by decide), o814, ?_⟩
  rw [gx0, gx2']
  refine W_or (h := h) hB W14 (by omega) ((hkx 0 (by decide)).gr gg) ((hkx 2 (by decide)).gr gg) (fun M22 Ψ22 r23 W22 O22 G22 L22 k23 s23 _ => ⟨_, rfl, ?_⟩)
  obtain ⟨F22, -, -, -, hRo22, -⟩ := W22.sees hB
  have GG : Gr (fun z => z = l) Ψ Ψ22 := gg.tr G22 (fun _ _ z => z.elim)
  refine ⟨ok28 F22, van (n := 0) (ln28 F22) (by decide), fun M25 e25 => ?_⟩
  have W25 := W22.wr hB w28 e25
  obtain ⟨F25, -⟩ := W25.sees hB
  have P25 := (((P14.ob O22).cg (P' := enP P a (fun n => P 28 (a * 20 + n))) (fun c j _ => enP_id)).up e25).cg (fun c j _ => enP_k (n := 0) (by decide) c j)
  have gx1 : mAI M25 28 (x * 20 + 1) = P 28 (x * 20 + 1) := (P25.1 28 _ w28).trans (enP_x (by decide) hne)
  refine ⟨28, rf21_7 F25, 28, rf21_7 F25, ok28 F25, vxn (ln28 F25) (by decide), ok28 F25, van (ln28 F25) (by decide), fun M30 e30 => ?_⟩
  rw [gx1] at e30
  have W30 := W25.wr hB w28 e30
  have P30 := (P25.up e30).cg (fun c j _ => enP_k (n := 1) (by decide) c j)
  have cq : ClQ Ψ22 l (fun w => v3O (lV w (P 25 a)) (lV w (P 28 (x * 20 + 2)))) := by
    refine ClQ.gr (Ψ := Ψ14) (C := noN) ⟨lc, d14, by rw [L14]; exact hlc, fun w HV g => ?_⟩ G22 (by rw [L14]; have := G11.1; omega) (fun z => z) hRo14 hRo22 (fun _ _ z => z.elim)
    have b11 := g.bk G14 hRo11 hRo14 c0
    have := s12 w HV b11
    rw [ec, lV_of (by have := G11.1; omega)] at this
    exact this
  have main : ∀ (d n : Nat) (M1 : Mem) (kv : Nat → Int32), n + d = 19 → 2 ≤ n → WvP n0 l0 r0 N0 Θ M0 Ψ22 M1 → RwP n0 (enP P a kv) zp M1 → (∀ k, k < 20 → okI Ψ22 (kv k)) → (∀ k, n ≤ k → kv k = P 28 (a * 20 + k)) → (kv 0 = r23 ∧ kv 1 = P 28 (x * 20 + 1) ∧ ∀ k, 2 ≤ k → k < n → kv k = P 28 (x * 20 + (k + 1))) → (∀ w HV, gW Ψ22 w HV → ∀ k, k < n → lV w (kv k) = ltV k (fun j => lV w (P 28 (a * 20 + j))) (fun j => lV w (P 28 (x * 20 + j)))) → T (h + 6) mdX9_leaveTrap 85 [(0, .ref 21), (2, .int (Int32.ofNat (x * 20))), (3, .int (Int32.ofNat (a * 20))), (4, .int (Int32.ofNat n))] [] M1 Q := by
    intro d
    induction d with
    | zero =>
      intro n M1 kv hn h2 W1 R1 o1 r1 v1 s1
      have e : n = 19 := by omega
      subst e
      refine VX9_leaveTrap_85 ?_
      unfold DX9_leaveTrap_85
      refine ⟨fun _ => K M1 Ψ22 kv W1 R1 GG ⟨by omega, by rw [L22.2.1, e14]; exact L11.2.1, ?_⟩ o1 cq (fun w HV g k hk => ?_), fun z => absurd (by decide) z⟩
      · have a1 : szN kv 19 + szN (fun k => P 28 (x * 20 + k)) 3 = szN kv 2 + szN (fun k => P 28 (x * 20 + k)) 20 := sz_sh (f := kv) (g := fun k => P 28 (x * 20 + k)) 17 (fun k k1 k2 => v1.2.2 k k1 (by omega))
        have a2 : szN kv 20 = szN kv 19 + nz (kv 19) := rfl
        have a3 : szN kv 2 = 0 + nz (kv 0) + nz (kv 1) := rfl
        have a4 : szN (fun k => P 28 (x * 20 + k)) 3 = 0 + nz (P 28 (x * 20 + 0)) + nz (P 28 (x * 20 + 1)) + nz (P 28 (x * 20 + 2)) := rfl
        have a5 : nk P a = szN (fun k => P 28 (a * 20 + k)) 19 + nz (P 28 (a * 20 + 19)) := rfl
        have a6 : nk P x = szN (fun k => P 28 (x * 20 + k)) 20 := rfl
        rw [r1 19 (Nat.le_refl _)] at a2
        rw [v1.1, v1.2.1] at a3
        have b1 := L22.2.2
        have b2 := L11.1
        rw [L14] at b1
        clear L22 L11
        omega
      by_cases z : k = 19
      · rw [z, r1 19 (Nat.le_refl _)]
        unfold ltV
        rw [if_neg (by decide), if_neg (by decide), if_neg (by decide)]
      · exact s1 w HV g k (by omega)
    | succ d ih =>
      intro n M1 kv hn h2 W1 R1 o1 r1 v1 s1
      obtain ⟨F1, -, h81, o81, hRo1, -⟩ := W1.sees hB
      have nle : ¬ (20 : Int32) ≤ Int32.ofNat n + 1 := fun z => by
        rw [succ32] at z
        have := (le32 (a := 20) (by decide) (by omega)).mp z
        omega
      have ea' : Int32.ofNat (a * 20) + Int32.ofNat n = Int32.ofNat (a * 20 + n) := (Int32.ofNat_add _ _).symm
      have ex' : Int32.ofNat (x * 20) + Int32.ofNat n + 1 = Int32.ofNat (x * 20 + (n + 1)) := by rw [← Int32.ofNat_add, succ32]; rfl
      have gx : mAI M1 28 (x * 20 + (n + 1)) = P 28 (x * 20 + (n + 1)) := (R1.1 28 _ w28).trans (enP_x (by omega) hne)
      refine VX9_leaveTrap_85 ?_
      unfold DX9_leaveTrap_85
      rw [ea', ex', lt32 (by omega), lt32 (by omega), succ32]
      rw [succ32] at nle
      refine ⟨fun z => absurd z nle, fun _ => ⟨ok21 F1, 28, rf21_7 F1, 28, rf21_7 F1, ok28 F1, vxn (ln28 F1) (by omega), ok28 F1, van (ln28 F1) (by omega), fun M6 e6 => ?_⟩⟩
      rw [gx] at e6
      refine ih (n + 1) M6 (va_up kv n (P 28 (x * 20 + (n + 1)))) (by omega) (by omega) (W1.wr hB w28 e6) ((R1.up e6).cg (fun c j _ => enP_k (by omega) c j)) (fun k hk => ?_) (fun k hk => ?_) ⟨by rw [va_up_ne _ _ (by omega)]; exact v1.1, by rw [va_up_ne _ _ (by omega)]; exact v1.2.1, fun k k1 k2 => ?_⟩ (fun w HV g k hk => ?_)
      · by_cases z : k = n
        · rw [z, va_up_self]; exact (hkx (n + 1) (by omega)).gr GG
        · rw [va_up_ne _ _ z]; exact o1 k hk
      · rw [va_up_ne _ _ (by omega)]; exact r1 k (by omega)
      · by_cases z : k = n
        · rw [z, va_up_self]
        · rw [va_up_ne _ _ z]; exact v1.2.2 k k1 (by omega)
      · by_cases z : k = n
        · rw [z, va_up_self]
          unfold ltV
          rw [if_neg (by omega), if_neg (by omega), if_pos (by omega)]
        · rw [va_up_ne _ _ z]
          exact s1 w HV g k (by omega)
  refine main 17 2 M30 _ (by omega) (by omega) W30 P30 (fun k hk => ?_) (fun k hk => ?_) ⟨by rw [va_up_ne _ _ (by decide), va_up_self], by rw [va_up_self], fun k k1 k2 => absurd k2 (by omega)⟩ (fun w HV g k hk => ?_)
  · by_cases z1 : k = 1
    · rw [z1, va_up_self]; exact (hkx 1 (by decide)).gr GG
    · rw [va_up_ne _ _ z1]
      by_cases z0 : k = 0
      · rw [z0, va_up_self]; exact k23
      · rw [va_up_ne _ _ z0]; exact (hka k hk).gr GG
  · rw [va_up_ne _ _ (by omega), va_up_ne _ _ (by omega)]
  · by_cases z1 : k = 1
    · rw [z1, va_up_self]; rfl
    · have z0 : k = 0 := by omega
      rw [z0, va_up_ne _ _ (by decide), va_up_self, s23 w HV g]
      rfl
end
end
section
/-! the weaver leaves a node, by what stands above it -/
section
variable {n0 l0 r0 N0 : Nat} {Θ : TrT} {M0 M M' : Mem} {Ψ Ψ' : Wg} {h : Nat} {Q : Option Value → Mem → Prop} {P P1 : Nat → Nat → Int32} {zp : Int32} {x a l : Nat} {kv : Nat → Int32}
theorem W_lv0 (hB : WvB n0 l0 r0 M0) (hW : WvP n0 l0 r0 N0 Θ M0 Ψ M) (hx : x < 640) (ha : a < 640) (hp : Θ.2.2 9 x = Int32.ofNat a) (hk : Θ.2.2 5 a ≠ 4 ∧ Θ.2.2 5 a ≠ 5 ∧ Θ.2.2 5 a ≠ 6 ∧ Θ.2.2 5 a ≠ 7 ∧ Θ.2.2 5 a ≠ 9) (H : Q none M) : E (h + 9) mdX9_leave [.ref 21, .int (Int32.ofNat x)] M Q := by
  obtain ⟨F, hT, h8, o8, hRo, l1, hRf, hE0⟩ := hW.sees hB
  have e9 : mAI M 9 x = Int32.ofNat a := by rw [hT.2.2.2.1 9 (by decide) (by decide)]; exact hp
  have e5 : mAI M 5 a = Θ.2.2 5 a := by rw [hT.2.2.2.1 5 (by decide) (by decide)]
  refine KX9_leave (h := h + 8) ?_
  unfold DX9_leave_0 DX9_leave_215
  rw [lt32 (show x < 2147483648 by omega)]
  refine ⟨ok21 F, 4, rf21_0 F, ok4 F, 9, rf4_4 F, ok9 F, by rw [ln9 F]; exact vp_of hx (by decide), 4, rf21_0 F, ok4 F, 5, rf4_0 F, ok5 F, ?_⟩
  rw [e9, lt32 (show a < 2147483648 by omega), e5]
  refine ⟨by rw [ln5 F]; exact vp_of ha (by decide), ?_⟩
  exact ⟨fun z => absurd z hk.1, fun z => absurd z hk.2.1, fun z => absurd z hk.2.2.1, fun z => absurd z hk.2.2.2.1, fun _ => H, fun z => absurd z hk.2.2.2.2, fun _ => H⟩
/-- what leaving x makes of a's codes -/
def LvC (k : Int32) (l : Nat) (z : Nat) : Prop := (k = 6 ∨ k = 9) ∧ z = l
/-- nets and held masks that leaving a node makes, by the kind of the one above -/
def lW (k : Int32) : Nat := if k = 6 then 1 else if k = 7 then 4 else if k = 9 then 1 else 0
def lH (k : Int32) : Nat := if k = 7 then 1 else 0
theorem lW_6 : lW 6 = 1 := by decide
theorem lW_7 : lW 7 = 4 := by decide
theorem lW_9 : lW 9 = 1 := by decide
theorem lH_7 : lH 7 = 1 := by decide
theorem W_lv (hB : WvB n0 l0 r0 M0) (hW : WvP n0 l0 r0 N0 Θ M0 Ψ M) (hP : RwP n0 P zp M) (hlim : Ψ.1.length < 99890) (ha : a < 640) (hx : x < 640) (hne : x ≠ a) (hp : Θ.2.2 9 x = Int32.ofNat a) (hk : Θ.2.2 5 a = 4 ∨ Θ.2.2 5 a = 5 ∨ Θ.2.2 5 a = 6 ∨ Θ.2.2 5 a = 7 ∨ Θ.2.2 5 a = 9) (hka : ∀ n, n < 20 → okI Ψ (P 28 (a * 20 + n))) (hkx : ∀ n, n < 20 → okI Ψ (P 28 (x * 20 + n))) (hg : okI Ψ (P 22 a)) (hr : okI Ψ (P 23 a)) (hkl : okI Ψ (P 25 a)) (hc : Θ.2.2 5 a = 7 → okI Ψ (Θ.2.2 10 a)) (ho : Θ.2.2 5 a = 6 ∨ Θ.2.2 5 a = 9 → P 26 a = Int32.ofNat (2 * l) ∧ l < Ψ.1.length ∧ (Ψ.2.1.getD l (0, 0)).1 ≠ 0 ∧ (Ψ.2.1.getD l (0, 0)).1 ≠ 6) (K : ∀ M' Ψ' kv, WvP n0 l0 r0 N0 Θ M0 Ψ' M' → RwP n0 (enP P a kv) zp M' → Gr (LvC (Θ.2.2 5 a) l) Ψ Ψ' → (Ψ'.1.length ≤ Ψ.1.length + 24 ∧ Ψ'.2.2.length ≤ Ψ.2.2.length + lH (Θ.2.2 5 a) ∧ Ψ'.1.length + szN kv 20 ≤ Ψ.1.length + nk P a + nk P x + lW (Θ.2.2 5 a)) → (∀ n, n < 20 → okI Ψ' (kv n)) → (Θ.2.2 5 a = 6 ∨ Θ.2.2 5 a = 9 → ClQ Ψ' l (fun w => if Θ.2.2 5 a = 6 then v3O (lV w (P 22 a)) (lV w (P 28 (x * 20))) else v3O (lV w (P 25 a)) (lV w (P 28 (x * 20 + 2))))) → (∀ w HV, gW Ψ' w HV → ∀ n, n < 20 → lV w (kv n) = lvV (Θ.2.2 5 a) n (fun j => lV w (P 28 (a * 20 + j))) (fun j => lV w (P 28 (x * 20 + j))) (lV w (P 23 a)) (HV (Θ.2.2 12 a)) (lV w (Θ.2.2 10 a))) → Q none M') : E (h + 9) mdX9_leave [.ref 21, .int (Int32.ofNat x)] M Q := by
  obtain ⟨F, hT, h8, o8, hRo, l1, hRf, hE0⟩ := hW.sees hB
  have w22 : wvC n0 22 := Or.inl (by omega)
  have w23 : wvC n0 23 := Or.inl (by omega)
  have w26 : wvC n0 26 := Or.inl (by omega)
  have w28 : wvC n0 28 := Or.inl (by omega)
  have va : ∀ {k : Nat}, k = 640 → vp_in (Int32.ofNat a) k := fun e => by rw [e]; exact vp_of ha (by decide)
  have vxn : ∀ {k n : Nat}, k = 12800 → n < 20 → vp_in (Int32.ofNat (x * 20 + n)) k := fun e hn => by rw [e]; exact vp_of (by omega) (by decide)
  have van : ∀ {k n : Nat}, k = 12800 → n < 20 → vp_in (Int32.ofNat (a * 20 + n)) k := fun e hn => by rw [e]; exact vp_of (by omega) (by decide)
  have lx : (Int32.ofNat x).toNatClampNeg = x := lt32 (by omega)
  have la : (Int32.ofNat a).toNatClampNeg = a := lt32 (by omega)
  have ea : Int32.ofNat a * 20 = Int32.ofNat (a * 20) := by rw [Int32.ofNat_mul]; rfl
  have ex : Int32.ofNat x * 20 = Int32.ofNat (x * 20) := by rw [Int32.ofNat_mul]; rfl
  have ea1 : Int32.ofNat (a * 20) + 1 = Int32.ofNat (a * 20 + 1) := (Int32.ofNat_add _ _).symm
  have la0 : (Int32.ofNat (a * 20)).toNatClampNeg = a * 20 := lt32 (by omega)
  have lx0 : (Int32.ofNat (x * 20)).toNatClampNeg = x * 20 := lt32 (by omega)
  have la1 : (Int32.ofNat (a * 20 + 1)).toNatClampNeg = a * 20 + 1 := lt32 (by omega)
  have z0 : ∀ {Φ : Wg}, 1 ≤ Φ.1.length → okI Φ 0 := fun h => ⟨0, rfl, by omega⟩
  have lz : ∀ {Φ : Wg} {w : Nat → Nat} {HV : Int32 → Nat}, gW Φ w HV → lV w 0 = 0 := fun {Φ w HV} g => by
    have e : (0 : Int32) = Int32.ofNat 0 := rfl
    rw [e, lV_of (by decide), lR_0 g.1]
  have e9 : mAI M 9 x = Int32.ofNat a := by rw [hT.2.2.2.1 9 (by decide) (by decide)]; exact hp
  have e5 : mAI M 5 a = Θ.2.2 5 a := by rw [hT.2.2.2.1 5 (by decide) (by decide)]
  refine KX9_leave (h := h + 8) ?_
  unfold DX9_leave_0 DX9_leave_215
  rw [lx]
  refine ⟨ok21 F, 4, rf21_0 F, ok4 F, 9, rf4_4 F, ok9 F, by rw [ln9 F]; exact vp_of hx (by decide), 4, rf21_0 F, ok4 F, 5, rf4_0 F, ok5 F, ?_⟩
  rw [e9, la, ea, ex, ea1, la0, lx0, la1, e5]
  refine ⟨va (ln5 F), ?_⟩
  refine ⟨fun z => ?_, fun z => ?_, fun z => ?_, fun z => ?_, fun z => ?_, fun z => ?_, fun z => ?_⟩
  · refine W_orA (h := h + 2) hB hW hP (by omega) ha hx hne hka hkx (fun M1 Ψ1 kv W1 R1 G1 L1 o1 s1 _ => ⟨rfl, K M1 Ψ1 kv W1 R1 (G1.more (fun _ _ y => y.elim)) (by omega) o1 (fun y => ?_) (fun w HV g n hn => ?_)⟩)
    · rw [z] at y; rcases y with y | y <;> exact absurd y (by decide)
    · rw [s1 w HV g n hn]
      unfold lvV
      rw [if_pos z]
  · refine ⟨28, rf21_7 F, ok28 F, van (n := 0) (ln28 F) (by decide), fun M13 e13 => ?_⟩
    have W13 := hW.wr hB w28 e13
    have P13 := hP.up e13
    have q0 : up2 P 28 (a * 20) 0 28 (a * 20) = 0 := up2_eq
    have qn : ∀ j, j ≠ a * 20 → up2 P 28 (a * 20) 0 28 j = P 28 j := fun j hj => up2_ne (fun y => hj y.2)
    refine W_orA (h := h + 2) hB W13 P13 (by omega) ha hx hne (fun n hn => ?_) (fun n hn => ?_) (fun M1 Ψ1 kv W1 R1 G1 L1 o1 s1 _ => ⟨rfl, K M1 Ψ1 kv W1 (R1.cg (fun c j _ => ?_)) (G1.more (fun _ _ y => y.elim)) ⟨by omega, by omega, ?_⟩ o1 (fun y => ?_) (fun w HV g n hn => ?_)⟩)
    · by_cases y : n = 0
      · rw [y]; show okI Ψ (up2 P 28 (a * 20) 0 28 (a * 20)); rw [q0]; exact z0 l1
      · rw [qn _ (by omega)]; exact hka n hn
    · rw [qn _ (by omega)]; exact hkx n hn
    · unfold enP
      by_cases y : c = 28 ∧ a * 20 ≤ j ∧ j < a * 20 + 20
      · rw [if_pos y, if_pos y]
      · rw [if_neg y, if_neg y, up2_ne (by omega)]
    · have b1 : nk (up2 P 28 (a * 20) 0) a ≤ nk P a := sz_mo 20 (fun k hk => by
        by_cases y : k = 0
        · have e0 : up2 P 28 (a * 20) 0 28 (a * 20 + k) = 0 := by rw [y]; exact q0
          rw [e0]; exact Nat.zero_le _
        · rw [qn _ (by omega)]; exact Nat.le_refl _)
      have b2 : nk (up2 P 28 (a * 20) 0) x = nk P x := sz_cg 20 (fun k hk => qn _ (by omega))
      have b3 := L1.2.2
      rw [b2] at b3
      clear L1
      omega
    · rw [z] at y; rcases y with y | y <;> exact absurd y (by decide)
    · rw [s1 w HV g n hn, qn (x * 20 + n) (by omega)]
      unfold lvV
      rw [if_neg (by rw [z]; decide), if_pos z]
      by_cases y : n = 0
      · rw [y, if_pos rfl]
        show v3O (lV w (up2 P 28 (a * 20) 0 28 (a * 20))) _ = _
        rw [q0, lz g, v3O_0 (lV_le g.1)]
      · rw [qn _ (by omega), if_neg y]
  · -- a loop
    obtain ⟨o1, o2, o3⟩ := ho (Or.inl z)
    have g26 : mAI M 26 a = Int32.ofNat (2 * l) := (hP.1 26 a w26).trans o1
    have g22 : mAI M 22 a = P 22 a := hP.1 22 a w22
    have gx0 : mAI M 28 (x * 20) = P 28 (x * 20) := hP.1 28 _ w28
    refine ⟨n0 + 8, h8, 26, rf21_5 F, ok26 F, va (ln26 F), n0 + 8, h8, 22, rf21_1 F, ok22 F, va (ln22 F), 28, rf21_7 F, ok28 F, vxn (n := 0) (ln28 F) (by decide), o8, ?_⟩
    rw [g26, g22, gx0]
    refine W_or (h := h + 3) hB hW (by omega) hg (hkx 0 (by decide)) (fun M24 Ψ24 r25 W24 O24 G24 L24 k25 s25 _ => ⟨_, rfl, ?_⟩)
    obtain ⟨F24, -, -, o824, hRo24, -⟩ := W24.sees hB
    obtain ⟨lc, ec, hlc⟩ := k25
    have hr24 : (Ψ24.2.1.getD l (0, 0)).1 ≠ 0 ∧ (Ψ24.2.1.getD l (0, 0)).1 ≠ 6 := by rw [G24.2.2.1 l o2]; exact o3
    rw [ec]
    refine ⟨o824, W_close (h := h + 7) hB W24 (by omega) (by have := G24.1; omega) hr24 hlc (fun M27 Ψ27 W27 O27 G27 L27 d27 e27 _ => ⟨rfl, ?_⟩)⟩
    obtain ⟨F27, -, h827, o827, hRo27, -⟩ := W27.sees hB
    have P27 := (hP.ob O24).ob O27
    have c0 : ∀ n, n < Ψ24.1.length → n = l → (Ψ24.2.1.getD n (0, 0)).1 ≠ 0 := fun n _ e => by rw [e]; exact hr24.1
    have gg : Gr (LvC (Θ.2.2 5 a) l) Ψ Ψ27 := (G24.more (fun _ _ y => y.elim)).tr G27 (fun _ _ y => ⟨Or.inl z, y⟩)
    refine W_orA (h := h + 2) hB W27 P27 (by omega) ha hx hne (fun n hn => (hka n hn).gr gg) (fun n hn => (hkx n hn).gr gg) (fun M28 Ψ28 kv W28 R28 G28 L28 o28 s28 _ => ⟨rfl, ?_⟩)
    obtain ⟨F28, -, -, -, hRo28, l28, -⟩ := W28.sees hB
    refine ⟨28, rf21_7 F28, ok28 F28, van (n := 0) (ln28 F28) (by decide), fun M31 e31 => ?_⟩
    refine K M31 Ψ28 (va_up kv 0 0) (W28.wr hB w28 e31) ((R28.up e31).cg (fun c j _ => enP_k (n := 0) (by decide) c j)) (gg.tr G28 (fun _ _ y => y.elim)) ⟨by omega, by rw [L28.2.1, e27, L24.2.1]; exact Nat.le_add_right _ _, ?_⟩ (fun n hn => ?_) (fun _ => ?_) (fun w HV g n hn => ?_)
    · have b1 : szN (va_up kv 0 0) 20 ≤ szN kv 20 := sz_mo 20 (fun k hk => by
        by_cases y : k = 0
        · rw [y, va_up_self]; exact Nat.zero_le _
        · rw [va_up_ne _ _ y]; exact Nat.le_refl _)
      have b2 := L28.2.2
      have b3 := L24.1
      rw [L27] at b2
      rw [z, lW_6]
      clear L28 L24
      omega
    · by_cases y : n = 0
      · rw [y, va_up_self]; exact z0 l28
      · rw [va_up_ne _ _ y]; exact o28 n hn
    · refine ClQ.gr (Ψ := Ψ27) (C := noN) ⟨lc, d27, by rw [L27]; exact hlc, fun w HV g => ?_⟩ G28 (by rw [L27]; have := G24.1; omega) (fun y => y) hRo27 hRo28 (fun _ _ y => y.elim)
      have b24 := g.bk G27 hRo24 hRo27 c0
      have := s25 w HV b24
      rw [ec, lV_of (by have := G24.1; omega)] at this
      show lvN w lc = if Θ.2.2 5 a = 6 then _ else _
      rw [if_pos z]
      exact this
    · unfold lvV
      rw [if_neg (by rw [z]; decide), if_neg (by rw [z]; decide), if_pos z]
      by_cases y : n = 0
      · rw [y, va_up_self, if_pos rfl, lz g]
      · rw [va_up_ne _ _ y, if_neg y]
        exact s28 w HV g n hn
  · -- a suspension
    have oc := hc z
    refine W_orA (h := h + 2) hB hW hP (by omega) ha hx hne hka hkx (fun M32 Ψ32 kv W32 R32 G32 L32 o32 s32 _ => ⟨rfl, ?_⟩)
    obtain ⟨F32, hT32, h832, o832, hRo32, -⟩ := W32.sees hB
    have g23 : mAI M32 23 a = P 23 a := (R32.1 23 a w23).trans (enP_n (by decide))
    refine ⟨n0 + 8, h832, W_res (h := h) hB W32 (by omega) ha (by rw [g23]; exact hr.gr G32) (fun M34 Ψ34 r35 W34 O34 G34 L34 k35 s35 _ => ⟨_, rfl, ?_⟩)⟩
    obtain ⟨F34, hT34, h834, o834, hRo34, -⟩ := W34.sees hB
    have g10 : mAI M34 10 a = Θ.2.2 10 a := by rw [hT34.2.2.2.1 10 (by decide) (by decide)]
    refine ⟨4, rf21_0 F34, ok4 F34, 10, rf4_5 F34, ok10 F34, va (ln10 F34), o834, ?_⟩
    rw [g10]
    refine W_and (h := h + 4) hB W34 (by omega) k35 ((oc.gr G32).gr G34) (fun M41 Ψ41 r42 W41 O41 G41 L41 k42 s42 _ => ⟨_, rfl, ?_⟩)
    obtain ⟨F41, hT41, h841, o841, hRo41, -⟩ := W41.sees hB
    have R41 := (R32.ob O34).ob O41
    have g1 : mAI M41 28 (a * 20 + 1) = kv 1 := (R41.1 28 _ w28).trans (enP_i (by decide))
    refine ⟨28, rf21_7 F41, n0 + 8, h841, 28, rf21_7 F41, ok28 F41, van (ln28 F41) (by decide), o841, ?_⟩
    rw [g1]
    refine W_or (h := h + 3) hB W41 (by omega) (((o32 1 (by decide)).gr G34).gr G41) k42 (fun M48 Ψ48 r49 W48 O48 G48 L48 k49 s49 _ => ⟨_, rfl, ?_⟩)
    obtain ⟨F48, -, -, -, hRo48, -⟩ := W48.sees hB
    refine ⟨ok28 F48, van (ln28 F48) (by decide), fun M51 e51 => ?_⟩
    have GG : Gr noN Ψ32 Ψ48 := (G34.tr G41 (fun _ _ y => y)).tr G48 (fun _ _ y => y)
    refine K M51 Ψ48 (va_up kv 1 r49) (W48.wr hB w28 e51) (((R41.ob O48).up e51).cg (fun c j _ => enP_k (n := 1) (by decide) c j)) ((G32.tr GG (fun _ _ y => y)).more (fun _ _ y => y.elim)) ⟨by omega, by rw [z, lH_7]; omega, ?_⟩ (fun n hn => ?_) (fun y => ?_) (fun w HV g n hn => ?_)
    · have b1 := sz_up (f := kv) (j := 1) (v := r49) 20 (by decide)
      have b2 := L48.2.2
      have b3 := nz_le (v := r42)
      have b4 := L41.1
      have b5 := L34.1
      have b6 := L32.2.2
      rw [z, lW_7]
      clear L48 L41 L34 L32
      omega
    · by_cases y : n = 1
      · rw [y, va_up_self]; exact k49
      · rw [va_up_ne _ _ y]; exact (o32 n hn).gr GG
    · rw [z] at y; rcases y with y | y <;> exact absurd y (by decide)
    · have b41 := g.bk G48 hRo41 hRo48 (fun _ _ y => y.elim)
      have b34 := b41.bk G41 hRo34 hRo41 (fun _ _ y => y.elim)
      have b32 := b34.bk G34 hRo32 hRo34 (fun _ _ y => y.elim)
      unfold lvV
      rw [if_neg (by rw [z]; decide), if_neg (by rw [z]; decide), if_neg (by rw [z]; decide), if_pos z]
      by_cases y : n = 1
      · rw [y, va_up_self, if_pos rfl, s49 w HV g, s42 w HV b41, s35 w HV b34, s32 w HV b32 1 (by decide), g23]
      · rw [va_up_ne _ _ y, if_neg y]
        exact s32 w HV b32 n hn
  · rcases hk with y | y | y | y | y <;> (rw [z] at y; exact absurd y (by decide))
  · obtain ⟨o1, o2, o3⟩ := ho (Or.inr z)
    refine W_lvT (h := h + 2) hB hW hP (by omega) ha hx hne hka hkx hkl o1 o2 o3 (fun M1 Ψ1 kv W1 R1 G1 L1 k1 c1 s1 _ => ⟨rfl, K M1 Ψ1 kv W1 R1 (G1.more (fun _ _ y => ⟨Or.inr z, y⟩)) (by rw [z, lW_9]; omega) k1 (fun _ => ?_) (fun w HV g n hn => ?_)⟩)
    · have e : (fun w => if Θ.2.2 5 a = 6 then v3O (lV w (P 22 a)) (lV w (P 28 (x * 20))) else v3O (lV w (P 25 a)) (lV w (P 28 (x * 20 + 2)))) = (fun w => v3O (lV w (P 25 a)) (lV w (P 28 (x * 20 + 2)))) := by
        funext w
        rw [if_neg (by rw [z]; decide)]
      rw [e]; exact c1
    · unfold lvV
      rw [if_neg (by rw [z]; decide), if_neg (by rw [z]; decide), if_neg (by rw [z]; decide), if_neg (by rw [z]; decide)]
      exact s1 w HV g n hn
  · have ne : ∀ t : Int32, (4 ≤ t.toInt ∧ t.toInt ≤ 9) → Θ.2.2 5 a ≠ t := fun t ht e => by
      rw [e] at z
      omega
    rcases hk with y | y | y | y | y
    · exact absurd y (ne 4 (by decide))
    · exact absurd y (ne 5 (by decide))
    · exact absurd y (ne 6 (by decide))
    · exact absurd y (ne 7 (by decide))
    · exact absurd y (ne 9 (by decide))
end
end
