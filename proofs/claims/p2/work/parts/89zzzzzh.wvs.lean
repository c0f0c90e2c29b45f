/-! the weaver: nets, the roles of nets, the masks held -/
abbrev Wg : Type := Nt × List (Nat × Nat) × List Int32
/-- a valuation that goes with the and-nets -/
def cnR (N : Nt) (Ro : List (Nat × Nat)) (w : Nat → Nat) : Prop := w 0 = 0 ∧ (∀ n, w n ≤ 2) ∧ ∀ n, n < N.length → (Ro.getD n (0, 0)).1 = 0 → w n = v3A (lvN w (N.getD n (0, 0)).1) (lvN w (N.getD n (0, 0)).2)
/-- HV tells whether one of some pauses is set -/
def hdR (Ro : List (Nat × Nat)) (H : List Int32) (w : Nat → Nat) (HV : Int32 → Nat) : Prop := HV 0 = 0 ∧ ∀ n i, n < Ro.length → Ro.getD n (0, 0) = (6, i) → w n = HV (H.getD i 0)
def gW (Ψ : Wg) (w : Nat → Nat) (HV : Int32 → Nat) : Prop := cnR Ψ.1 Ψ.2.1 w ∧ hdR Ψ.2.1 Ψ.2.2 w HV
def RoW (Ψ : Wg) : Prop := Ψ.2.1.length = Ψ.1.length ∧ (∀ n, n < Ψ.1.length → (Ψ.2.1.getD n (0, 0)).1 = 0 → (Ψ.1.getD n (0, 0)).1 < 2 * n ∧ (Ψ.1.getD n (0, 0)).2 < 2 * n) ∧ ∀ n i, n < Ψ.1.length → Ψ.2.1.getD n (0, 0) = (6, i) → i < Ψ.2.2.length
/-- an and, or held pauses -/
def r06 (Ψ : Wg) (n : Nat) : Prop := (Ψ.2.1.getD n (0, 0)).1 = 0 ∨ (Ψ.2.1.getD n (0, 0)).1 = 6
/-- nets are only added, those of C are closed; new ones are ands or held pauses, or of C -/
def Gr (C : Nat → Prop) (Ψ Ψ' : Wg) : Prop := Ψ.1.length ≤ Ψ'.1.length ∧ (∀ n, n < Ψ.1.length → ¬ C n → Ψ'.1.getD n (0, 0) = Ψ.1.getD n (0, 0)) ∧ (∀ n, n < Ψ.1.length → Ψ'.2.1.getD n (0, 0) = Ψ.2.1.getD n (0, 0)) ∧ (∃ t, Ψ'.2.2 = Ψ.2.2 ++ t) ∧ ∀ n, Ψ.1.length ≤ n → n < Ψ'.1.length → ¬ C n → r06 Ψ' n
def nwN (Ψ : Wg) (n : Nat) : Prop := Ψ.1.length ≤ n
def lV (w : Nat → Nat) (v : Int32) : Nat := lvN w v.toNatClampNeg
def okI (Ψ : Wg) (v : Int32) : Prop := ∃ l, v = Int32.ofNat l ∧ l < 2 * Ψ.1.length
section
variable {Ψ Ψ1 Ψ2 : Wg} {C C1 : Nat → Prop} {w : Nat → Nat} {HV : Int32 → Nat} {N : Nt} {Ro : List (Nat × Nat)} {a c l : Nat} {v : Int32}
theorem Gr.rf : Gr C Ψ Ψ := ⟨Nat.le_refl _, fun _ _ _ => rfl, fun _ _ => rfl, ⟨[], (List.append_nil _).symm⟩, fun n z1 z2 => absurd z2 (Nat.not_lt.mpr z1)⟩
theorem Gr.tr (h : Gr C Ψ Ψ1) (k : Gr C1 Ψ1 Ψ2) (hC : ∀ n, n < Ψ.1.length ∨ Ψ1.1.length ≤ n → C1 n → C n) : Gr C Ψ Ψ2 := by
  obtain ⟨h1, h2, h3, ⟨t, h4⟩, h5⟩ := h
  obtain ⟨k1, k2, k3, ⟨u, k4⟩, k5⟩ := k
  refine ⟨by omega, fun n hn hc => (k2 n (by omega) (fun z => hc (hC n (Or.inl hn) z))).trans (h2 n hn hc), fun n hn => (k3 n (by omega)).trans (h3 n hn), ⟨t ++ u, by rw [k4, h4, List.append_assoc]⟩, fun n n1 n2 hc => ?_⟩
  by_cases z : n < Ψ1.1.length
  · have q := h5 n n1 z hc
    unfold r06 at q ⊢
    rw [k3 n z]
    exact q
  · exact k5 n (by omega) n2 (fun y => hc (hC n (Or.inr (by omega)) y))
theorem Gr.more (h : Gr C Ψ Ψ1) (hC : ∀ n, n < Ψ.1.length ∨ Ψ.1.length ≤ n → C n → C1 n) : Gr C1 Ψ Ψ1 := ⟨h.1, fun n hn hc => h.2.1 n hn (fun z => hc (hC n (Or.inl hn) z)), h.2.2.1, h.2.2.2.1, fun n n1 n2 hc => h.2.2.2.2 n n1 n2 (fun z => hc (hC n (Or.inr n1) z))⟩
theorem okI.gr (h : okI Ψ v) (k : Gr C Ψ Ψ1) : okI Ψ1 v := by
  obtain ⟨l, h1, h2⟩ := h
  exact ⟨l, h1, by have := k.1; omega⟩
/-- what goes with the later goes with the earlier -/
theorem gW.bk (g : gW Ψ1 w HV) (k : Gr C Ψ Ψ1) (hR : RoW Ψ) (hR1 : RoW Ψ1) (hC : ∀ n, n < Ψ.1.length → C n → (Ψ.2.1.getD n (0, 0)).1 ≠ 0) : gW Ψ w HV := by
  obtain ⟨⟨g1, g2, g3⟩, g4, g5⟩ := g
  obtain ⟨k1, k2, k3, ⟨t, k4⟩, -⟩ := k
  refine ⟨⟨g1, g2, fun n hn r0 => ?_⟩, g4, fun n i hn ri => ?_⟩
  · have q := g3 n (by omega) (by rw [k3 n hn]; exact r0)
    rw [k2 n hn (fun z => hC n hn z r0)] at q
    exact q
  · rw [hR.1] at hn
    have q := g5 n i (by rw [hR1.1]; omega) (by rw [k3 n hn]; exact ri)
    rw [k4, gdA (hR.2.2 n i hn ri)] at q
    exact q
theorem lR_0 (h : cnR N Ro w) : lvN w 0 = 0 := by
  show (if 0 % 2 = 0 then w (0 / 2) else _) = 0
  rw [if_pos (by decide)]; exact h.1
theorem lR_1 (h : cnR N Ro w) : lvN w 1 = 1 := by
  show (if 1 % 2 = 0 then w (1 / 2) else v3N (w (1 / 2))) = 1
  rw [if_neg (by decide)]
  have e : w (1 / 2) = 0 := h.1
  rw [e]; rfl
theorem lV_of (h : l < 2147483648) : lV w (Int32.ofNat l) = lvN w l := by unfold lV; rw [lt32 h]
theorem lV_le (h : cnR N Ro w) : lV w v ≤ 2 := lv_le h.2.1
/-- roles behind an and -/
def roA (N : Nt) (Ro : List (Nat × Nat)) (a c : Nat) : List (Nat × Nat) := if (anL N a c).1.length = N.length then Ro else Ro ++ [(0, 0)]
theorem an_cs : (anL N a c).1 = N ∨ ((anL N a c).1 = N ++ [(a, c)] ∧ (anL N a c).2 = 2 * N.length ∧ roA N Ro a c = Ro ++ [(0, 0)]) := by
  unfold roA anL
  by_cases e1 : a = 0 ∨ c = 0
  · rw [if_pos e1]; exact Or.inl rfl
  rw [if_neg e1]
  by_cases e2 : a = 1 ∨ a = c
  · rw [if_pos e2]; exact Or.inl rfl
  rw [if_neg e2]
  by_cases e3 : c = 1
  · rw [if_pos e3]; exact Or.inl rfl
  rw [if_neg e3]
  refine Or.inr ⟨rfl, rfl, ?_⟩
  rw [if_neg (by show ¬ (N ++ [(a, c)]).length = N.length; rw [List.length_append]; show ¬ N.length + 1 = N.length; omega)]
theorem lR_an (hr : Ro.length = N.length) (h : cnR (anL N a c).1 (roA N Ro a c) w) : lvN w (anL N a c).2 = v3A (lvN w a) (lvN w c) := by
  have l0 := lR_0 h
  have l1 := lR_1 h
  have l2 := h.2.1
  by_cases e1 : a = 0 ∨ c = 0
  · unfold anL
    rw [if_pos e1]
    rcases e1 with e | e
    · rw [e, l0, v3A_0.1]
    · rw [e, l0, v3A_0.2]
  by_cases e2 : a = 1 ∨ a = c
  · unfold anL
    rw [if_neg e1, if_pos e2]
    rcases e2 with e | e
    · rw [e, l1, (v3A_1 (lv_le l2)).1]
    · rw [e, v3A_s (lv_le l2)]
  by_cases e3 : c = 1
  · unfold anL
    rw [if_neg e1, if_neg e2, if_pos e3]
    rw [e3, l1, (v3A_1 (lv_le l2)).2]
  have e : anL N a c = (N ++ [(a, c)], 2 * N.length) := by unfold anL; rw [if_neg e1, if_neg e2, if_neg e3]
  have er : roA N Ro a c = Ro ++ [(0, 0)] := by
    unfold roA
    rw [e, if_neg (by show ¬ (N ++ [(a, c)]).length = N.length; rw [List.length_append]; show ¬ N.length + 1 = N.length; omega)]
  rw [er] at h
  rw [e] at h ⊢
  have q := h.2.2 N.length (by show N.length < (N ++ [(a, c)]).length; rw [List.length_append]; exact Nat.lt_succ_self _)
  have e5 : (N ++ [(a, c)]).getD N.length (0, 0) = (a, c) := gdB
  have e6 : (Ro ++ [(0, 0)]).getD N.length (0, 0) = (0, 0) := by rw [← hr]; exact gdB
  rw [e6] at q
  have q := q rfl
  have q : w N.length = v3A (lvN w ((N ++ [(a, c)]).getD N.length (0, 0)).1) (lvN w ((N ++ [(a, c)]).getD N.length (0, 0)).2) := q
  rw [e5] at q
  show lvN w (2 * N.length) = _
  rw [lv_2]
  exact q
theorem RoW.an {H : List Int32} (h : RoW (N, Ro, H)) (ha : a < 2 * N.length) (hc : c < 2 * N.length) : RoW ((anL N a c).1, roA N Ro a c, H) ∧ Gr noN (N, Ro, H) ((anL N a c).1, roA N Ro a c, H) ∧ (anL N a c).1.length ≤ N.length + 1 := by
  obtain ⟨h1, h2, h3⟩ := id h
  have h1 : Ro.length = N.length := h1
  rcases an_cs (N := N) (Ro := Ro) (a := a) (c := c) with e | ⟨e, -, er⟩
  · have er : roA N Ro a c = Ro := by unfold roA; rw [if_pos (by rw [e])]
    rw [e, er]
    exact ⟨h, Gr.rf, Nat.le_succ _⟩
  · rw [e, er]
    have ln : (N ++ [(a, c)]).length = N.length + 1 := by rw [List.length_append]; rfl
    refine ⟨⟨by rw [List.length_append, h1, ln]; rfl, fun n hn r0 => ?_, fun n i hn ri => ?_⟩, ⟨by show N.length ≤ (N ++ [(a, c)]).length; omega, fun n hn _ => gdA hn, fun n hn => gdA (by rw [h1]; exact hn), ⟨[], (List.append_nil _).symm⟩, fun n n1 n2 _ => Or.inl ?_⟩, by omega⟩
    · have hn : n < (N ++ [(a, c)]).length := hn
      rw [ln] at hn
      by_cases z : n = N.length
      · rw [z]
        show ((N ++ [(a, c)]).getD N.length (0, 0)).1 < _ ∧ _
        rw [gdB]
        exact ⟨ha, hc⟩
      · have r0 : ((Ro ++ [(0, 0)]).getD n (0, 0)).1 = 0 := r0
        rw [gdA (by omega)] at r0
        show ((N ++ [(a, c)]).getD n (0, 0)).1 < _ ∧ _
        rw [gdA (by omega)]
        exact h2 n (by show n < N.length; omega) r0
    · have hn : n < (N ++ [(a, c)]).length := hn
      rw [ln] at hn
      have ri : (Ro ++ [(0, 0)]).getD n (0, 0) = (6, i) := ri
      by_cases z : n = N.length
      · rw [z, ← h1, gdB] at ri
        exact absurd (show (0 : Nat) = 6 from congrArg Prod.fst ri) (by decide)
      · rw [gdA (by omega)] at ri
        exact h3 n i (by show n < N.length; omega) ri
    · have n1 : N.length ≤ n := n1
      have n2 : n < (N ++ [(a, c)]).length := n2
      show ((Ro ++ [(0, 0)]).getD n (0, 0)).1 = 0
      rw [show n = Ro.length by omega, gdB]
theorem RoW.fre {H H' : List Int32} {k x : Nat} (h : RoW (N, Ro, H)) (hk : k ≠ 0) (hH : ∃ t, H' = H ++ t) (h6 : k = 6 → x < H'.length) : RoW (N ++ [(2 * N.length, 2 * N.length)], Ro ++ [(k, x)], H') ∧ Gr (fun n => k ≠ 6 ∧ n = N.length) (N, Ro, H) (N ++ [(2 * N.length, 2 * N.length)], Ro ++ [(k, x)], H') := by
  obtain ⟨h1, h2, h3⟩ := id h
  obtain ⟨t, hH⟩ := hH
  have h1 : Ro.length = N.length := h1
  have ln : (N ++ [(2 * N.length, 2 * N.length)]).length = N.length + 1 := by rw [List.length_append]; rfl
  refine ⟨⟨by rw [List.length_append, h1, ln]; rfl, fun n hn r0 => ?_, fun n i hn ri => ?_⟩, ⟨by show N.length ≤ (N ++ [(2 * N.length, 2 * N.length)]).length; omega, fun n hn _ => gdA hn, fun n hn => gdA (by rw [h1]; exact hn), ⟨t, hH⟩, fun n n1 n2 hc => ?_⟩⟩
  · have hn : n < (N ++ [(2 * N.length, 2 * N.length)]).length := hn
    rw [ln] at hn
    have r0 : ((Ro ++ [(k, x)]).getD n (0, 0)).1 = 0 := r0
    by_cases z : n = N.length
    · rw [z, ← h1, gdB] at r0
      exact absurd r0 hk
    · rw [gdA (by omega)] at r0
      show ((N ++ [(2 * N.length, 2 * N.length)]).getD n (0, 0)).1 < _ ∧ _
      rw [gdA (by omega)]
      exact h2 n (by show n < N.length; omega) r0
  · have hn : n < (N ++ [(2 * N.length, 2 * N.length)]).length := hn
    rw [ln] at hn
    have ri : (Ro ++ [(k, x)]).getD n (0, 0) = (6, i) := ri
    by_cases z : n = N.length
    · rw [z, ← h1, gdB] at ri
      have e1 : k = 6 := congrArg Prod.fst ri
      have e2 : x = i := congrArg Prod.snd ri
      show i < H'.length
      rw [← e2]; exact h6 e1
    · rw [gdA (by omega)] at ri
      have := h3 n i (by show n < N.length; omega) ri
      have : i < H.length := this
      show i < H'.length
      rw [hH, List.length_append]; omega
  · have n1 : N.length ≤ n := n1
    have n2 : n < (N ++ [(2 * N.length, 2 * N.length)]).length := n2
    have en : n = Ro.length := by omega
    refine Or.inr ?_
    show ((Ro ++ [(k, x)]).getD n (0, 0)).1 = 6
    rw [en, gdB]
    show k = 6
    by_cases z : k = 6
    · exact z
    · exact absurd ⟨z, by omega⟩ hc
end
section
variable {N : Nt} {Ro : List (Nat × Nat)} {a c k x : Nat}
theorem an_6 (h1 : Ro.length = N.length) : ∀ n i, n < (anL N a c).1.length → (roA N Ro a c).getD n (0, 0) = (6, i) → n < N.length := by
  intro n i hn ri
  rcases an_cs (N := N) (Ro := Ro) (a := a) (c := c) with e | ⟨e, -, er⟩
  · rw [e] at hn; exact hn
  · rw [e, List.length_append] at hn
    have hn : n < N.length + 1 := hn
    rw [er] at ri
    by_cases z : n = N.length
    · rw [z, ← h1, gdB] at ri
      exact absurd (show (0 : Nat) = 6 from congrArg Prod.fst ri) (by decide)
    · omega
theorem fre_6 {y : Nat × Nat} (h1 : Ro.length = N.length) (hk : k ≠ 6) : ∀ n i, n < (N ++ [y]).length → (Ro ++ [(k, x)]).getD n (0, 0) = (6, i) → n < N.length := by
  intro n i hn ri
  rw [List.length_append] at hn
  have hn : n < N.length + 1 := hn
  by_cases z : n = N.length
  · rw [z, ← h1, gdB] at ri
    exact absurd (congrArg Prod.fst ri) hk
  · omega
end
def LcW (l0 : Nat) (M0 : Mem) (lc : Nat) : Prop := lc = l0 ∨ mN M0 ≤ lc
def LrB (n0 l0 r0 : Nat) : Prop := (l0 = n0 + 9 ∨ n0 + 25 ≤ l0) ∧ (r0 = n0 + 10 ∨ n0 + 25 ≤ r0)
def BbW (M0 : Mem) (b1 b2 : Nat) : Prop := (b1 = mBig + 5 ∨ mN M0 ≤ b1) ∧ (b2 = mBig + 5 ∨ mN M0 ≤ b2) ∧ (b1 = b2 → b1 = mBig + 5)
def farC (n0 lc : Nat) : Prop := 132 ≤ lc ∧ lc ≠ n0 + 8 ∧ lc ≠ n0 + 13 ∧ lc ≠ n0 + 14 ∧ ¬ (n0 + 16 ≤ lc ∧ lc ≤ n0 + 21)
theorem LcW.far {l0 n0 r0 lc rc : Nat} {M0 : Mem} (h : LcW l0 M0 lc) (h' : LcW r0 M0 rc) (k : LrB n0 l0 r0) (n1 : 132 ≤ n0) (n2 : n0 + 25 ≤ mN M0) : farC n0 lc ∧ farC n0 rc := by
  unfold LcW LrB farC at *
  omega
theorem LcW.nx {l0 lc lc' : Nat} {M0 M : Mem} (h : LcW l0 M0 lc) (k : lc' = lc ∨ mN M ≤ lc') (m : mN M0 ≤ mN M) : LcW l0 M0 lc' := by
  unfold LcW at *
  omega
theorem LcW.is {l0 lc c : Nat} {M0 : Mem} (h : LcW l0 M0 lc) (e : c = lc) (hc : c < mN M0) : c = l0 := by
  unfold LcW at *
  omega
/-- the module as the weaving begins -/
def WvB (n0 l0 r0 : Nat) (M0 : Mem) : Prop := (132 ≤ n0 ∧ n0 + 25 ≤ mN M0) ∧ LrB n0 l0 r0 ∧ (mR M0 (n0 + 8) 5 = some (n0 + 13) ∧ mR M0 (n0 + 8) 6 = some (n0 + 14) ∧ mR M0 (n0 + 8) 9 = some (n0 + 17) ∧ mR M0 (n0 + 8) 10 = some (n0 + 18) ∧ mR M0 (n0 + 8) 11 = some (n0 + 19) ∧ mR M0 (n0 + 8) 14 = some (n0 + 21)) ∧ (∀ c, c = 17 ∨ c = 18 ∨ c = 19 → ok M0 (n0 + c) 21 ∧ mL M0 (n0 + c) = 24) ∧ (ok M0 (n0 + 21) 21 ∧ mL M0 (n0 + 21) = 16) ∧ (ok M0 l0 21 ∧ ok M0 r0 21) ∧ mN M0 ≤ 2000000
/-- what the weaving may change -/
def wvS (n0 l0 r0 c : Nat) : Prop := (21 ≤ c ∧ c ≤ 28) ∨ c = n0 + 8 ∨ c = l0 ∨ c = r0 ∨ c = n0 + 13 ∨ c = n0 + 14 ∨ (n0 + 17 ≤ c ∧ c ≤ n0 + 19) ∨ c = n0 + 21
def WvR (n0 l0 r0 : Nat) (M0 M : Mem) : Prop := fr (wvS n0 l0 r0) M0 M ∧ (∀ f, f ≠ 4 → f ≠ 12 → f ≠ 16 → mI M (n0 + 8) f = mI M0 (n0 + 8) f) ∧ (∀ f, f ≠ 0 → f ≠ 1 → mR M (n0 + 8) f = mR M0 (n0 + 8) f)
theorem Lb_E {a b : Nat} {xs : List Int32} {M M' : Mem} (h : ALi M a b xs) (k : mE M M') : Lb M' b = Lb M b := by
  obtain ⟨l, h1, -⟩ := h
  unfold Lb
  rcases h1.2.2.2.2.2 with ⟨q, -⟩ | ⟨q, -⟩
  · rw [if_neg (by omega), if_neg (by omega)]
  · rw [(k.2.2 b q.1).2]
/-- one if it is not 0; how many of the first ones are not -/
def nz (v : Int32) : Nat := if v = 0 then 0 else 1
def szN (f : Nat → Int32) : Nat → Nat
  | 0 => 0
  | n + 1 => szN f n + nz (f n)
/-- how many codes of node z may come -/
def nk (P : Nat → Nat → Int32) (z : Nat) : Nat := szN (fun n => P 28 (z * 20 + n)) 20
theorem nz_le {v : Int32} : nz v ≤ 1 := by unfold nz; split <;> omega
theorem nz_0 : nz 0 = 0 := rfl
theorem sz_mo {f g : Nat → Int32} : ∀ n, (∀ k, k < n → nz (f k) ≤ nz (g k)) → szN f n ≤ szN g n
  | 0, _ => Nat.le_refl _
  | n + 1, h => Nat.add_le_add (sz_mo n (fun k hk => h k (by omega))) (h n (Nat.lt_succ_self n))
theorem sz_cg {f g : Nat → Int32} (n : Nat) (h : ∀ k, k < n → f k = g k) : szN f n = szN g n := Nat.le_antisymm (sz_mo n (fun k hk => by rw [h k hk]; exact Nat.le_refl _)) (sz_mo n (fun k hk => by rw [h k hk]; exact Nat.le_refl _))
theorem sz_le {f : Nat → Int32} : ∀ n, szN f n ≤ n
  | 0 => Nat.le_refl _
  | n + 1 => Nat.add_le_add (sz_le n) nz_le
theorem sz_up {f : Nat → Int32} {j : Nat} {v : Int32} : ∀ n, j < n → szN (va_up f j v) n + nz (f j) = szN f n + nz v
  | 0, h => absurd h (Nat.not_lt_zero _)
  | n + 1, h => by
    show szN (va_up f j v) n + nz (va_up f j v n) + nz (f j) = szN f n + nz (f n) + nz v
    by_cases z : n = j
    · have e : szN (va_up f j v) n = szN f n := sz_cg n (fun k hk => va_up_ne _ _ (by omega))
      rw [e, z, va_up_self]; omega
    · have q := sz_up (f := f) (j := j) (v := v) n (by omega)
      rw [va_up_ne _ _ z]; omega
theorem sz_u1 {f : Nat → Int32} {j : Nat} {v : Int32} (n : Nat) : szN (va_up f j v) n ≤ szN f n + 1 := by
  by_cases h : j < n
  · have := sz_up (f := f) (v := v) n h
    have := nz_le (v := v)
    omega
  · have e : szN (va_up f j v) n = szN f n := sz_cg n (fun k hk => va_up_ne _ _ (by omega))
    omega
theorem sz_0 : ∀ n, szN (fun _ => 0) n = 0
  | 0 => rfl
  | n + 1 => by show szN (fun _ => 0) n + nz 0 = 0; rw [sz_0 n]; rfl
theorem sz_sh {f g : Nat → Int32} : ∀ n, (∀ k, 2 ≤ k → k < n + 2 → f k = g (k + 1)) → szN f (n + 2) + szN g 3 = szN f 2 + szN g (n + 3)
  | 0, _ => rfl
  | n + 1, h => by
    have q := sz_sh n (fun k k1 k2 => h k k1 (by omega))
    show szN f (n + 2) + nz (f (n + 2)) + szN g 3 = szN f 2 + (szN g (n + 3) + nz (g (n + 3)))
    have e : f (n + 2) = g (n + 3) := h (n + 2) (by omega) (by omega)
    rw [e]
    omega
def RmW (M0 M : Mem) (l0 lc N0 b1 b2 : Nat) (Ψ : Wg) : Prop := (mN M + 6 * N0 ≤ mN M0 + 6 * Ψ.1.length ∧ 32 * mN M + mL M0 l0 ≤ 32 * mN M0 + mL M lc + 128 * Ψ.2.2.length) ∧ (mS M + 4 * mL M0 l0 ≤ mS M0 + 4 * mL M lc + 4 * Lb M b1 + 4 * Lb M b2 + 2 * Ψ.2.2.length ∧ Lb M b1 ≤ 10 + 2 * Ψ.2.2.length ∧ Lb M b2 ≤ 10 + 2 * Ψ.2.2.length) ∧ Ψ.2.2.length ≤ Ψ.1.length
/-- which literal tells of which held pauses; nobody closes these nets -/
def HlQ (Ψ : Wg) (hl : List Int32) : Prop := (∀ i, i < Ψ.2.2.length → ∃ l, hl.getD i 0 = Int32.ofNat l ∧ rlC Ψ.2.1 l 6 i) ∧ ∀ n i, n < Ψ.1.length → Ψ.2.1.getD n (0, 0) = (6, i) → hl.getD i 0 = Int32.ofNat (2 * n) ∧ Ψ.1.getD n (0, 0) = (2 * n, 2 * n)
def WvH (n0 l0 r0 N0 : Nat) (Θ : TrT) (M0 : Mem) (Ψ : Wg) (M : Mem) (lc rc b1 b2 : Nat) (hl : List Int32) : Prop := (Fix M ∧ TrP M Θ ∧ mR M 21 8 = some (n0 + 8)) ∧ CirP M (n0 + 8) lc rc Ψ.1 ∧ (LcW l0 M0 lc ∧ LcW r0 M0 rc) ∧ (ALi M (n0 + 13) b1 Ψ.2.2 ∧ ALi M (n0 + 14) b2 hl ∧ hl.length = Ψ.2.2.length) ∧ BbW M0 b1 b2 ∧ WvR n0 l0 r0 M0 M ∧ RoW Ψ ∧ HlQ Ψ hl ∧ RmW M0 M l0 lc N0 b1 b2 Ψ
def WvP (n0 l0 r0 N0 : Nat) (Θ : TrT) (M0 : Mem) (Ψ : Wg) (M : Mem) : Prop := ∃ lc rc b1 b2 hl, WvH n0 l0 r0 N0 Θ M0 Ψ M lc rc b1 b2 hl
/-- wires, pauses and what is emitted, as they were -/
def ObE (n0 : Nat) (M M' : Mem) : Prop := (∀ c, 22 ≤ c → c ≤ 28 → mAI M' c = mAI M c) ∧ (∀ c, n0 + 17 ≤ c → c ≤ n0 + 21 → mAI M' c = mAI M c) ∧ ∀ f, f = 12 ∨ f = 16 → mI M' (n0 + 8) f = mI M (n0 + 8) f
theorem ObE.rf {n0 : Nat} {M : Mem} : ObE n0 M M := ⟨fun _ _ _ => rfl, fun _ _ _ => rfl, fun _ _ => rfl⟩
theorem ObE.tr {n0 : Nat} {M M1 M2 : Mem} (h : ObE n0 M M1) (k : ObE n0 M1 M2) : ObE n0 M M2 := ⟨fun c z1 z2 => (k.1 c z1 z2).trans (h.1 c z1 z2), fun c z1 z2 => (k.2.1 c z1 z2).trans (h.2.1 c z1 z2), fun f hf => (k.2.2 f hf).trans (h.2.2 f hf)⟩
section
variable {n0 l0 r0 N0 : Nat} {Θ : TrT} {M0 M M' : Mem} {Ψ Ψ' : Wg} {lc rc b1 b2 lc' rc' : Nat} {hl : List Int32} {h : Nat} {Q : Option Value → Mem → Prop}
theorem WvR.tr {S1 : Nat → Prop} (hF : WvR n0 l0 r0 M0 M) (k : fr S1 M M') (hS : ∀ c, c < mN M0 → S1 c → wvS n0 l0 r0 c) (hI : ∀ f, f ≠ 4 → f ≠ 12 → f ≠ 16 → mI M' (n0 + 8) f = mI M (n0 + 8) f) (hRr : ∀ f, f ≠ 0 → f ≠ 1 → mR M' (n0 + 8) f = mR M (n0 + 8) f) : WvR n0 l0 r0 M0 M' := ⟨hF.1.tr k hS, fun f z1 z2 z3 => (hI f z1 z2 z3).trans (hF.2.1 f z1 z2 z3), fun f z1 z2 => (hRr f z1 z2).trans (hF.2.2 f z1 z2)⟩
/-- low cells as they were -/
theorem low_fix (F : Fix M) (hE : mE M M') (row : ∀ c, c < 132 → c ≠ 21 → sameRow M M' c) (h21 : mR M' 21 = mR M 21) : Fix M' := by
  refine F.of_fr (S := fun _ => True) hE (fun e he => ?_) (row 19 (by decide) (by decide)).2.2.2.2.1
  have := tRS_lt e he
  by_cases z : e.1 = 21
  · rw [z, h21]
  · rw [(row e.1 (by omega) z).2.2.1]
theorem TrP.low (hT : TrP M Θ) (row : ∀ c, c < 14 → sameRow M M' c) : TrP M' Θ := by
  obtain ⟨t1, t2, t3, t4, t5⟩ := hT
  exact ⟨by rw [(row 4 (by decide)).1]; exact t1, by rw [(row 4 (by decide)).1]; exact t2, t3, fun c c1 c2 => by rw [(row c (by omega)).2.2.2.1]; exact t4 c c1 c2, t5⟩
theorem WvH.cirC {C : Nat → Prop} (hB : WvB n0 l0 r0 M0) (hW : WvH n0 l0 r0 N0 Θ M0 Ψ M lc rc b1 b2 hl) (hP : CirP M' (n0 + 8) lc' rc' Ψ'.1) (k : CirF M M' (n0 + 8) lc rc lc' rc' Ψ.1 Ψ'.1) (hR : RoW Ψ') (hG : Gr C Ψ Ψ') (e2 : Ψ'.2.2 = Ψ.2.2) (h6 : ∀ n i, n < Ψ'.1.length → Ψ'.2.1.getD n (0, 0) = (6, i) → n < Ψ.1.length ∧ Ψ'.1.getD n (0, 0) = Ψ.1.getD n (0, 0)) : WvH n0 l0 r0 N0 Θ M0 Ψ' M' lc' rc' b1 b2 hl ∧ ObE n0 M M' := by
  obtain ⟨⟨F, hT, h8⟩, hC, ⟨hlc, hrc⟩, ⟨hA1, hA2, hAl⟩, hbb, hF, hRo, hh, hm⟩ := hW
  obtain ⟨⟨n1, n2⟩, n3, -, -, -, ⟨n5, n6⟩, -⟩ := hB
  obtain ⟨k1, k2, k3, k4, k5, k6, k7, k8, k9⟩ := k
  have mM := hF.1.1.1
  obtain ⟨⟨p1, p2, p3, p4, p5⟩, ⟨s1, s2, s3, s4, s5⟩⟩ := hlc.far hrc n3 n1 n2
  have hlc' := hlc.nx k7 mM
  have hrc' := hrc.nx k8 mM
  clear k7 k8
  have row : ∀ c, c < mN M → c ≠ n0 + 8 → c ≠ lc → c ≠ rc → sameRow M M' c := fun c z z1 z2 z3 => k1.2 c z (by rintro (y | y | y) <;> first | exact z1 y | exact z2 y | exact z3 y)
  have rlow : ∀ c, c < 132 → sameRow M M' c := fun c z => row c (by omega) (by omega) (by omega) (by omega)
  have ol := hC.2.2.1
  have orr := hC.2.2.2.2.1
  have ox := hC.1
  have kk : ∀ {c q : Nat}, (c = n0 + 8 ∨ c = lc ∨ c = rc) → mK M c = q → q = 2 ∨ q = 21 := by
    intro c q z e
    rcases z with z | z | z
    · rw [z, ox.2] at e; exact Or.inl e.symm
    · rw [z, ol.2] at e; exact Or.inr e.symm
    · rw [z, orr.2] at e; exact Or.inr e.symm
  have al : ∀ {a b : Nat} {xs : List Int32}, a = n0 + 13 ∨ a = n0 + 14 → ALi M a b xs → ALi M' a b xs := by
    intro a b xs ha hA
    refine hA.fr k1 (fun z => by omega) (fun hb z => ?_) (fun c _ z w => ?_)
    · rcases kk z hb with q | q <;> exact absurd q (by decide)
    · rcases kk z w with q | q <;> exact absurd q (by decide)
  refine ⟨⟨⟨low_fix F k1.1 (fun c z _ => rlow c z) (rlow 21 (by decide)).2.2.1, hT.low (fun c z => rlow c (by omega)), by rw [(rlow 21 (by decide)).2.2.1]; exact h8⟩, hP, ⟨hlc', hrc'⟩, ⟨by rw [e2]; exact al (Or.inl rfl) hA1, al (Or.inr rfl) hA2, by rw [e2]; exact hAl⟩, hbb, hF.tr k1 (fun c hc z => ?_) (fun f z1 _ _ => k2 f z1) k3, hR, ⟨fun i hi => ?_, fun n i hn ri => ?_⟩, ?_⟩, ⟨fun c z1 z2 => (rlow c (by omega)).2.2.2.1, fun c z1 z2 => (row c (by omega) (by omega) (fun y => p5 ⟨by omega, by omega⟩) (fun y => s5 ⟨by omega, by omega⟩)).2.2.2.1, fun f hf => k2 f (by omega)⟩⟩
  · unfold wvS
    rcases z with z | z | z
    · exact Or.inr (Or.inl z)
    · exact Or.inr (Or.inr (Or.inl (hlc.is z hc)))
    · exact Or.inr (Or.inr (Or.inr (Or.inl (hrc.is z hc))))
  · rw [e2] at hi
    obtain ⟨l, q1, q2, q3, q4⟩ := hh.1 i hi
    have := hRo.1
    have := hR.1
    have := hG.1
    exact ⟨l, q1, q2, by omega, by rw [hG.2.2.1 _ (by omega)]; exact q4⟩
  · obtain ⟨n1, n2⟩ := h6 n i hn ri
    rw [n2]
    rw [hG.2.2.1 n n1] at ri
    exact hh.2 n i n1 ri
  · have := hG.1
    have L1 := Lb_E hA1 k1.1
    have L2 := Lb_E hA2 k1.1
    unfold RmW at hm ⊢
    rw [e2, L1, L2]
    clear hlc' hrc' hlc hrc
    omega
theorem WvH.cir (hB : WvB n0 l0 r0 M0) (hW : WvH n0 l0 r0 N0 Θ M0 Ψ M lc rc b1 b2 hl) (hP : CirP M' (n0 + 8) lc' rc' Ψ'.1) (k : CirF M M' (n0 + 8) lc rc lc' rc' Ψ.1 Ψ'.1) (hR : RoW Ψ') (hG : Gr noN Ψ Ψ') (e2 : Ψ'.2.2 = Ψ.2.2) (h6 : ∀ n i, n < Ψ'.1.length → Ψ'.2.1.getD n (0, 0) = (6, i) → n < Ψ.1.length) : WvH n0 l0 r0 N0 Θ M0 Ψ' M' lc' rc' b1 b2 hl ∧ ObE n0 M M' := WvH.cirC hB hW hP k hR hG e2 (fun n i hn ri => ⟨h6 n i hn ri, hG.2.1 n (h6 n i hn ri) (fun z => z)⟩)
end
