/-! the weaver's circuit: and, or, not, fresh, close, holding -/
theorem us1_of {l : Nat} (h : l < 2147483648) : us1 (Int32.ofNat l) = Int32.ofNat (l / 2) := by
  refine Int32.toBitVec_inj.mp ?_
  rw [us1_b, Int32.toBitVec_ofNat', Int32.toBitVec_ofNat']
  refine BitVec.eq_of_toNat_eq ?_
  rw [BitVec.toNat_ushiftRight, BitVec.toNat_ofNat, BitVec.toNat_ofNat, Nat.mod_eq_of_lt (by omega), Nat.mod_eq_of_lt (by omega), Nat.shiftRight_eq_div_pow]
theorem gd_set {N : Nt} {n j : Nat} {e : Nat × Nat} (hn : n < N.length) : (N.set n e).getD j (0, 0) = if j = n then e else N.getD j (0, 0) := by
  rw [List.getD_eq_getElem?_getD, List.getD_eq_getElem?_getD, List.getElem?_set]
  by_cases z : n = j
  · rw [if_pos z, if_pos z.symm, if_pos (by omega)]; rfl
  · rw [if_neg z, if_neg (fun q => z q.symm)]
section
variable {n0 l0 r0 N0 : Nat} {Θ : TrT} {M0 M M' : Mem} {Ψ Ψ' : Wg} {lc rc b1 b2 : Nat} {hl : List Int32} {h : Nat} {Q : Option Value → Mem → Prop} {a c : Int32}
theorem W_not (ha : okI Ψ a) (hlim : Ψ.1.length < 100000) (K : ∀ r, okI Ψ r → (∀ w HV, gW Ψ w HV → lV w r = v3N (lV w a)) → Q (some (.int r)) M) : E (h + 1) mdX0_not [.int a] M Q := by
  obtain ⟨l, e, hl2⟩ := ha
  subst e
  have q := nlt_lt hl2
  refine S_not (by omega) (K _ ⟨nlt l, rfl, q⟩ (fun w HV g => ?_))
  rw [lV_of (by omega), lV_of (by omega), lv_n g.1.2.1]
theorem or_nz {N : Nt} {a c : Nat} : (orL N a c).1.length + (if (orL N a c).2 = 0 then 0 else 1) ≤ N.length + (if a = 0 then 0 else 1) + (if c = 0 then 0 else 1) := by
  have na : ∀ {x : Nat}, (nlt x = 0 ↔ x = 1) ∧ (nlt x = 1 ↔ x = 0) := fun {x} => by unfold nlt; split <;> omega
  unfold orL
  by_cases e1 : nlt a = 0 ∨ nlt c = 0
  · have e : anL N (nlt a) (nlt c) = (N, 0) := by unfold anL; rw [if_pos e1]
    rw [e]
    show N.length + (if nlt 0 = 0 then 0 else 1) ≤ _
    rw [if_neg (show ¬ nlt 0 = 0 by decide)]
    rcases e1 with q | q
    · rw [if_neg (show ¬ a = 0 by have := (na (x := a)).1.mp q; omega)]; omega
    · rw [if_neg (show ¬ c = 0 by have := (na (x := c)).1.mp q; omega)]; omega
  by_cases e2 : nlt a = 1 ∨ nlt a = nlt c
  · have e : anL N (nlt a) (nlt c) = (N, nlt c) := by unfold anL; rw [if_neg e1, if_pos e2]
    rw [e]
    show N.length + (if nlt (nlt c) = 0 then 0 else 1) ≤ _
    rw [nlt_nlt]; omega
  by_cases e3 : nlt c = 1
  · have e : anL N (nlt a) (nlt c) = (N, nlt a) := by unfold anL; rw [if_neg e1, if_neg e2, if_pos e3]
    rw [e]
    show N.length + (if nlt (nlt a) = 0 then 0 else 1) ≤ _
    rw [nlt_nlt]; omega
  · have e : anL N (nlt a) (nlt c) = (N ++ [(nlt a, nlt c)], 2 * N.length) := by unfold anL; rw [if_neg e1, if_neg e2, if_neg e3]
    rw [e]
    show (N ++ [(nlt a, nlt c)]).length + (if nlt (2 * N.length) = 0 then 0 else 1) ≤ _
    have l : (N ++ [(nlt a, nlt c)]).length = N.length + 1 := by rw [List.length_append]; rfl
    rw [l, if_neg (show ¬ a = 0 from fun z => e2 (Or.inl ((na (x := a)).2.mpr z))), if_neg (show ¬ c = 0 from fun z => e3 ((na (x := c)).2.mpr z))]
    split <;> omega
theorem nz_of {l : Nat} (h : l < 2147483648) : nz (Int32.ofNat l) = if l = 0 then 0 else 1 := by
  unfold nz
  by_cases z : l = 0
  · rw [if_pos z, if_pos (by rw [z]; rfl)]
  · rw [if_neg z, if_neg (show ¬ Int32.ofNat l = 0 from fun y => z (inj32 (a := l) (b := 0) h (by decide) y))]
theorem W_and (hB : WvB n0 l0 r0 M0) (hW : WvP n0 l0 r0 N0 Θ M0 Ψ M) (hlim : Ψ.1.length < 99999) (ha : okI Ψ a) (hc : okI Ψ c) (K : ∀ M' Ψ' r, WvP n0 l0 r0 N0 Θ M0 Ψ' M' → ObE n0 M M' → Gr noN Ψ Ψ' → (Ψ'.1.length ≤ Ψ.1.length + 1 ∧ Ψ'.2.2.length = Ψ.2.2.length) → okI Ψ' r → (∀ w HV, gW Ψ' w HV → lV w r = v3A (lV w a) (lV w c)) → Q (some (.int r)) M') : E (h + 4) mdX0_and [.ref (n0 + 8), .int a, .int c] M Q := by
  obtain ⟨lc, rc, b1, b2, hl, hH⟩ := hW
  obtain ⟨la, ea, ha⟩ := ha
  obtain ⟨lb, eb, hb⟩ := hc
  subst ea
  subst eb
  obtain ⟨N, Ro, H⟩ := Ψ
  have ha : la < 2 * N.length := ha
  have hb : lb < 2 * N.length := hb
  have hlim : N.length < 99999 := hlim
  have hRo := hH.2.2.2.2.2.2.1
  have l1 : 1 ≤ N.length := hH.2.1.2.2.2.2.2.2.1.1
  obtain ⟨r1, r2, r3⟩ := RoW.an hRo ha hb
  have ln := anL_lt l1 ha hb
  refine S_and hH.2.1 (by show N.length < 100000; omega) ha hb (fun M' lc' rc' P' F' => ?_)
  obtain ⟨w1, w2⟩ := WvH.cir (Ψ' := ((anL N la lb).1, roA N Ro la lb, H)) hB hH P' F' r1 r2 rfl (an_6 hRo.1)
  refine K M' _ _ ⟨lc', rc', b1, b2, hl, w1⟩ w2 r2 ⟨r3, rfl⟩ ⟨_, rfl, ln⟩ (fun w HV g => ?_)
  show lV w (Int32.ofNat (anL N la lb).2) = _
  rw [lV_of (by omega), lV_of (by omega), lV_of (by omega)]
  exact lR_an hRo.1 g.1
theorem W_or (hB : WvB n0 l0 r0 M0) (hW : WvP n0 l0 r0 N0 Θ M0 Ψ M) (hlim : Ψ.1.length < 99999) (ha : okI Ψ a) (hc : okI Ψ c) (K : ∀ M' Ψ' r, WvP n0 l0 r0 N0 Θ M0 Ψ' M' → ObE n0 M M' → Gr noN Ψ Ψ' → (Ψ'.1.length ≤ Ψ.1.length + 1 ∧ Ψ'.2.2.length = Ψ.2.2.length ∧ Ψ'.1.length + nz r ≤ Ψ.1.length + nz a + nz c) → okI Ψ' r → (∀ w HV, gW Ψ' w HV → lV w r = v3O (lV w a) (lV w c)) → Q (some (.int r)) M') : E (h + 5) mdX0_or [.ref (n0 + 8), .int a, .int c] M Q := by
  obtain ⟨lc, rc, b1, b2, hl, hH⟩ := hW
  obtain ⟨la, ea, ha⟩ := ha
  obtain ⟨lb, eb, hb⟩ := hc
  subst ea
  subst eb
  obtain ⟨N, Ro, H⟩ := Ψ
  have ha : la < 2 * N.length := ha
  have hb : lb < 2 * N.length := hb
  have hlim : N.length < 99999 := hlim
  have hRo := hH.2.2.2.2.2.2.1
  have l1 : 1 ≤ N.length := hH.2.1.2.2.2.2.2.2.1.1
  obtain ⟨r1, r2, r3⟩ := RoW.an hRo (nlt_lt ha) (nlt_lt hb)
  have ln := orL_lt l1 ha hb
  have ln2 := anL_lt l1 (nlt_lt ha) (nlt_lt hb)
  have e0 : (orL N la lb).1 = (anL N (nlt la) (nlt lb)).1 := rfl
  have ln3 : (orL N la lb).2 < 2147483648 := by
    have := ln
    rw [e0] at this
    omega
  have oz : (orL N la lb).1.length + nz (Int32.ofNat (orL N la lb).2) ≤ N.length + nz (Int32.ofNat la) + nz (Int32.ofNat lb) := by
    rw [nz_of (l := la) (by omega), nz_of (l := lb) (by omega), nz_of (l := (orL N la lb).2) ln3]
    exact or_nz
  refine S_or hH.2.1 (by show N.length < 100000; omega) ha hb (fun M' lc' rc' P' F' => ?_)
  obtain ⟨w1, w2⟩ := WvH.cir (Ψ' := ((anL N (nlt la) (nlt lb)).1, roA N Ro (nlt la) (nlt lb), H)) hB hH P' F' r1 r2 rfl (an_6 hRo.1)
  refine K M' _ _ ⟨lc', rc', b1, b2, hl, w1⟩ w2 r2 ⟨r3, rfl, oz⟩ ⟨_, rfl, ln⟩ (fun w HV g => ?_)
  rw [e0] at ln
  show lV w (Int32.ofNat (orL N la lb).2) = _
  rw [lV_of (by omega), lV_of (by omega), lV_of (by omega)]
  show lvN w (nlt (anL N (nlt la) (nlt lb)).2) = _
  have g2 := g.1.2.1
  rw [lv_n g2, lR_an hRo.1 g.1, lv_n g2, lv_n g2, v3_or (lv_le g2) (lv_le g2)]
theorem W_fresh {k x : Nat} (hB : WvB n0 l0 r0 M0) (hW : WvP n0 l0 r0 N0 Θ M0 Ψ M) (hlim : Ψ.1.length < 99999) (hk : k ≠ 0) (h6 : k ≠ 6) (K : ∀ M' Ψ', WvP n0 l0 r0 N0 Θ M0 Ψ' M' → ObE n0 M M' → Gr (fun n => n = Ψ.1.length) Ψ Ψ' → (Ψ'.1.length = Ψ.1.length + 1 ∧ Ψ'.2.2.length = Ψ.2.2.length) → rlC Ψ'.2.1 (2 * Ψ.1.length) k x → Q (some (.int (Int32.ofNat (2 * Ψ.1.length)))) M') : E (h + 4) mdX0_fresh [.ref (n0 + 8)] M Q := by
  obtain ⟨lc, rc, b1, b2, hl, hH⟩ := hW
  obtain ⟨N, Ro, H⟩ := Ψ
  have hlim : N.length < 99999 := hlim
  have hRo := hH.2.2.2.2.2.2.1
  have h1 : Ro.length = N.length := hRo.1
  obtain ⟨r1, r2⟩ := RoW.fre (H' := H) (k := k) (x := x) hRo hk ⟨[], (List.append_nil _).symm⟩ (fun z => absurd z h6)
  refine S_fresh hH.2.1 (by show N.length < 100000; omega) (fun M' lc' rc' P' F' => ?_)
  obtain ⟨w1, w2⟩ := WvH.cirC (Ψ' := (N ++ [(2 * N.length, 2 * N.length)], Ro ++ [(k, x)], H)) hB hH P' F' r1 r2 rfl (fun n i hn ri => ⟨fre_6 h1 h6 n i hn ri, gdA (fre_6 h1 h6 n i hn ri)⟩)
  refine K M' _ ⟨lc', rc', b1, b2, hl, w1⟩ w2 (r2.more (fun _ _ z => z.2)) ⟨by rw [List.length_append]; rfl, rfl⟩ ?_
  show rlC (Ro ++ [(k, x)]) (2 * N.length) k x
  refine ⟨by omega, ?_, ?_⟩
  · rw [List.length_append, h1]; show 2 * N.length / 2 < N.length + 1; omega
  · rw [show 2 * N.length / 2 = Ro.length by omega]; exact gdB
theorem CirP.set {x n l : Nat} {N : Nt} (hP : CirP M x lc rc N) (hn : n < N.length) (hl : l < 2 * N.length) (hM : N.length < 100000) (e : M' = wAI (wAI M lc n (Int32.ofNat l)) rc n (Int32.ofNat l)) : CirP M' x lc rc (N.set n (l, l)) := by
  obtain ⟨o1, c1, o2, c2, o3, i1, ⟨q1, q2, q3, q4, q5⟩, v, wf, ⟨d1, d2, d3⟩⟩ := hP
  refine ⟨by rw [e]; exact o1, by rw [e]; exact c1, by rw [e]; exact o2, by rw [e]; exact c2, by rw [e]; exact o3, by rw [e, List.length_set]; exact i1, ?_, fun j hj => ?_, fun y hy => ?_, d1, d2, d3⟩
  · rw [e, List.length_set]; exact ⟨q1, q2, q3, q4, q5⟩
  · rw [List.length_set] at hj
    rw [gd_set hn, e]
    by_cases z : j = n
    · rw [if_pos z]
      exact ⟨by rw [mAI_wAI, if_neg (fun w => d3 w.1), mAI_wAI, if_pos ⟨rfl, z⟩], by rw [mAI_wAI, if_pos ⟨rfl, z⟩]⟩
    · rw [if_neg z]
      exact ⟨by rw [mAI_wAI, if_neg (fun w => z w.2), mAI_wAI, if_neg (fun w => z w.2)]; exact (v j hj).1, by rw [mAI_wAI, if_neg (fun w => z w.2), mAI_wAI, if_neg (fun w => z w.2)]; exact (v j hj).2⟩
  · rw [List.length_set]
    rcases List.mem_or_eq_of_mem_set hy with z | z
    · exact wf y z
    · rw [z]; exact ⟨hl, hl⟩
theorem W_close {n l : Nat} (hB : WvB n0 l0 r0 M0) (hW : WvP n0 l0 r0 N0 Θ M0 Ψ M) (hlim : Ψ.1.length < 99999) (hn : n < Ψ.1.length) (hr : (Ψ.2.1.getD n (0, 0)).1 ≠ 0 ∧ (Ψ.2.1.getD n (0, 0)).1 ≠ 6) (hl : l < 2 * Ψ.1.length) (K : ∀ M' Ψ', WvP n0 l0 r0 N0 Θ M0 Ψ' M' → ObE n0 M M' → Gr (fun z => z = n) Ψ Ψ' → Ψ'.1.length = Ψ.1.length → Ψ'.1.getD n (0, 0) = (l, l) → Ψ'.2 = Ψ.2 → Q none M') : E (h + 1) mdX0_close [.ref (n0 + 8), .int (Int32.ofNat (2 * n)), .int (Int32.ofNat l)] M Q := by
  obtain ⟨lc, rc, b1, b2, hls, hH⟩ := hW
  obtain ⟨⟨F, hT, h8⟩, hC, ⟨hlc, hrc⟩, ⟨hA1, hA2, hAl⟩, hbb, hF, hRo, hh, hm⟩ := id hH
  obtain ⟨N, Ro, H⟩ := Ψ
  have hn : n < N.length := hn
  have hl : l < 2 * N.length := hl
  have hlim : N.length < 99999 := hlim
  obtain ⟨o1, c1, o2, c2, o3, i1, ⟨q1, q2, q3, q4, q5⟩, v, wf, ⟨d1, d2, d3⟩⟩ := id hC
  have q2 : N.length ≤ mL M lc := q2
  have q5 : mL M lc ≤ 64 + 2 * N.length := q5
  have us : ((Int32.ofNat (2 * n)).toUInt32 >>> ((1 : Int32).toUInt32 &&& Int32.toUInt32 31)).toInt32 = Int32.ofNat n := by
    have := us1_of (l := 2 * n) (by omega)
    rw [show 2 * n / 2 = n by omega] at this
    exact this
  refine KX0_close ?_
  unfold DX0_close_0
  rw [us, lt32 (by omega)]
  refine ⟨o1, lc, c1, o2, vp_of (by omega) (by omega), fun M4 e4 => ⟨rc, by rw [e4]; exact c2, by rw [e4]; exact o3, by rw [e4]; show vp_in _ (mL M rc); rw [q3]; exact vp_of (by omega) (by omega), fun M7 e7 => ?_⟩⟩
  rw [e4] at e7
  have hP7 : CirP M7 (n0 + 8) lc rc (N.set n (l, l)) := hC.set hn hl (by omega) e7
  have fr7 : fr (fun c => c = lc ∨ c = rc) M M7 := by
    rw [e7]
    exact (fr_wAI (S := fun c => c = lc ∨ c = rc) (Or.inl rfl)).tr (fr_wAI (S := fun c => c = lc ∨ c = rc) (Or.inr rfl)) (fun _ _ z => z)
  have cf : CirF M M7 (n0 + 8) lc rc lc rc N (N.set n (l, l)) := ⟨fr7.more (fun c _ z => Or.inr z), fun f _ => by rw [e7]; rfl, fun f _ _ => by rw [e7]; rfl, by rw [e7]; rfl, by rw [e7, List.length_set]; exact ⟨Nat.le_refl _, Nat.le_refl _⟩, by rw [e7]; rfl, Or.inl rfl, Or.inl rfl, by rw [e7]; exact Nat.le_refl _⟩
  have hR' : RoW (N.set n (l, l), Ro, H) := by
    refine ⟨by rw [List.length_set]; exact hRo.1, fun k hk r0 => ?_, fun k i hk ri => hRo.2.2 k i (by rw [List.length_set] at hk; exact hk) ri⟩
    have hk : k < (N.set n (l, l)).length := hk
    rw [List.length_set] at hk
    show ((N.set n (l, l)).getD k (0, 0)).1 < _ ∧ _
    rw [gd_set hn]
    by_cases z : k = n
    · rw [z] at r0; exact absurd r0 hr.1
    · rw [if_neg z]; exact hRo.2.1 k hk r0
  have gr0 : Gr (fun z => z = n) (N, Ro, H) (N.set n (l, l), Ro, H) := ⟨by rw [List.length_set]; exact Nat.le_refl _, fun k hk z => by show (N.set n (l, l)).getD k (0, 0) = _; rw [gd_set hn, if_neg z], fun _ _ => rfl, ⟨[], (List.append_nil _).symm⟩, fun k z1 z2 => absurd z2 (by show ¬ k < (N.set n (l, l)).length; rw [List.length_set]; exact Nat.not_lt.mpr z1)⟩
  have h6 : ∀ k i, k < (N.set n (l, l)).length → Ro.getD k (0, 0) = (6, i) → k < N.length ∧ (N.set n (l, l)).getD k (0, 0) = N.getD k (0, 0) := fun k i hk ri => by
    rw [List.length_set] at hk
    refine ⟨hk, ?_⟩
    rw [gd_set hn, if_neg (fun z => hr.2 (by show (Ro.getD n (0, 0)).1 = 6; rw [← z, ri]))]
  obtain ⟨w1, w2⟩ := WvH.cirC (Ψ' := (N.set n (l, l), Ro, H)) hB hH hP7 cf hR' gr0 rfl h6
  exact K M7 _ ⟨lc, rc, b1, b2, hls, w1⟩ w2 gr0 List.length_set (by show (N.set n (l, l)).getD n (0, 0) = _; rw [gd_set hn, if_pos rfl]) rfl
end
