/-! the circuit: nets as a list of pairs of literals; literals as numbers -/
abbrev Nt : Type := List (Nat × Nat)
def nlt (a : Nat) : Nat := if a % 2 = 0 then a + 1 else a - 1
def anL (N : Nt) (a b : Nat) : Nt × Nat := if a = 0 ∨ b = 0 then (N, 0) else if a = 1 ∨ a = b then (N, b) else if b = 1 then (N, a) else (N ++ [(a, b)], 2 * N.length)
def orL (N : Nt) (a b : Nat) : Nt × Nat := ((anL N (nlt a) (nlt b)).1, nlt (anL N (nlt a) (nlt b)).2)
def frL (N : Nt) : Nt × Nat := (N ++ [(2 * N.length, 2 * N.length)], 2 * N.length)
def clL (N : Nt) (l x : Nat) : Nt := N.set (l / 2) (x, x)
theorem nlt_lt {a n : Nat} (h : a < 2 * n) : nlt a < 2 * n := by unfold nlt; split <;> omega
theorem nlt_nlt {a : Nat} : nlt (nlt a) = a := by unfold nlt; split <;> split <;> omega
theorem nxor {a : Nat} : a ^^^ 1 = nlt a := by
  have h1 : (a ^^^ 1) / 2 = a / 2 := by rw [Nat.xor_div_two]; exact Nat.xor_zero _
  have h2 : ((a ^^^ 1) % 2 = 1) ↔ ¬ (a % 2 = 1 ↔ 1 % 2 = 1) := Nat.xor_mod_two_eq_one
  unfold nlt
  split
  · have : (a ^^^ 1) % 2 = 1 := h2.mpr (by omega)
    omega
  · have : ¬ (a ^^^ 1) % 2 = 1 := fun z => (h2.mp z) (by omega)
    omega
theorem xor32 {a : Nat} (h : a < 2147483648) : Int32.ofNat a ^^^ 1 = Int32.ofNat (nlt a) := by
  refine Int32.toBitVec_inj.mp ?_
  rw [Int32.toBitVec_xor, Int32.toBitVec_ofNat', Int32.toBitVec_ofNat']
  refine BitVec.eq_of_toNat_eq ?_
  rw [BitVec.toNat_xor, BitVec.toNat_ofNat, BitVec.toNat_ofNat, Nat.mod_eq_of_lt (by omega), Nat.mod_eq_of_lt (by unfold nlt; split <;> omega)]
  exact nxor
theorem S_not {h a : Nat} {M : Mem} {Q : Option Value → Mem → Prop} (ha : a < 2147483648) (H : Q (some (.int (Int32.ofNat (nlt a)))) M) : E (h + 1) mdX0_not [.int (Int32.ofNat a)] M Q := by
  refine KX0_not ?_
  unfold DX0_not_0
  rw [xor32 ha]
  exact H
def CirP (M : Mem) (x lc rc : Nat) (N : Nt) : Prop := ok M x 2 ∧ mR M x 0 = some lc ∧ ok M lc 21 ∧ mR M x 1 = some rc ∧ ok M rc 21 ∧ mI M x 4 = Int32.ofNat N.length ∧ (1 ≤ N.length ∧ N.length ≤ mL M lc ∧ mL M rc = mL M lc ∧ 64 ≤ mL M lc ∧ mL M lc ≤ 64 + 2 * N.length) ∧ (∀ j, j < N.length → mAI M lc j = Int32.ofNat (N.getD j (0, 0)).1 ∧ mAI M rc j = Int32.ofNat (N.getD j (0, 0)).2) ∧ (∀ e ∈ N, e.1 < 2 * N.length ∧ e.2 < 2 * N.length) ∧ (x ≠ lc ∧ x ≠ rc ∧ lc ≠ rc)
def CirF (M M' : Mem) (x lc rc lc' rc' : Nat) (N N' : Nt) : Prop := fr (fun c => c = x ∨ c = lc ∨ c = rc) M M' ∧ (∀ f, f ≠ 4 → mI M' x f = mI M x f) ∧ (∀ f, f ≠ 0 → f ≠ 1 → mR M' x f = mR M x f) ∧ mJ M' x = mJ M x ∧ (mN M' + 2 * N.length ≤ mN M + 2 * N'.length ∧ 32 * mN M' + mL M lc ≤ 32 * mN M + mL M' lc') ∧ mS M' + 4 * mL M lc = mS M + 4 * mL M' lc' ∧ (lc' = lc ∨ mN M ≤ lc') ∧ (rc' = rc ∨ mN M ≤ rc') ∧ mN M ≤ mN M'
theorem CirF.rf {M : Mem} {x lc rc : Nat} {N : Nt} : CirF M M x lc rc lc rc N N := ⟨fr.rf, fun _ _ => rfl, fun _ _ _ => rfl, rfl, ⟨Nat.le_refl _, Nat.le_refl _⟩, rfl, Or.inl rfl, Or.inl rfl, Nat.le_refl _⟩
theorem CirF.tr {M M1 M2 : Mem} {x lc rc lc1 rc1 lc2 rc2 : Nat} {N N1 N2 : Nt} (h : CirF M M1 x lc rc lc1 rc1 N N1) (k : CirF M1 M2 x lc1 rc1 lc2 rc2 N1 N2) : CirF M M2 x lc rc lc2 rc2 N N2 := by
  obtain ⟨a1, a2, a3, a4, a5, a6, a7, a8, a9⟩ := h
  obtain ⟨b1, b2, b3, b4, b5, b6, b7, b8, b9⟩ := k
  refine ⟨a1.tr b1 (fun a ha z => ?_), fun f q => (b2 f q).trans (a2 f q), fun f q1 q2 => (b3 f q1 q2).trans (a3 f q1 q2), b4.trans a4, by omega, by omega, by omega, by omega, by omega⟩
  rcases z with z | z | z
  · exact Or.inl z
  · rcases a7 with q | q
    · exact Or.inr (Or.inl (z.trans q))
    · omega
  · rcases a8 with q | q
    · exact Or.inr (Or.inr (z.trans q))
    · omega
theorem getD_appN {N : Nt} {e : Nat × Nat} {j : Nat} (h : j < N.length + 1) : (N ++ [e]).getD j (0, 0) = if j = N.length then e else N.getD j (0, 0) := by
  rw [List.getD_eq_getElem?_getD, List.getD_eq_getElem?_getD]
  by_cases hj : j = N.length
  · rw [if_pos hj, hj, List.getElem?_append_right (Nat.le_refl _), Nat.sub_self]; rfl
  · rw [if_neg hj, List.getElem?_append_left (by omega)]
theorem wf_app {N : Nt} {a b : Nat} (h : ∀ e ∈ N, e.1 < 2 * N.length ∧ e.2 < 2 * N.length) (ha : a < 2 * N.length + 2) (hb : b < 2 * N.length + 2) : ∀ e ∈ N ++ [(a, b)], e.1 < 2 * (N ++ [(a, b)]).length ∧ e.2 < 2 * (N ++ [(a, b)]).length := by
  intro e he
  rw [List.length_append]
  show e.1 < 2 * (N.length + 1) ∧ e.2 < 2 * (N.length + 1)
  rcases List.mem_append.mp he with q | q
  · have := h e q; omega
  · rw [List.mem_singleton.mp q]; exact ⟨by show a < _; omega, by show b < _; omega⟩
/-- a row is copied into one of twice its length, which takes its place in field k of x -/
def Grw (M M' : Mem) (x k lc L : Nat) : Prop := fr (fun c => c = x) M M' ∧ (∀ f, mI M' x f = mI M x f) ∧ (∀ f, f ≠ k → mR M' x f = mR M x f) ∧ mJ M' x = mJ M x ∧ mR M' x k = some (mN M) ∧ ok M' (mN M) 21 ∧ mL M' (mN M) = L * 2 ∧ (∀ j, j < L → mAI M' (mN M) j = mAI M lc j) ∧ mN M' = mN M + 1 ∧ mS M' = mS M + L * 2
theorem S_grow {h x k lc L : Nat} {M : Mem} {Q : Mem → Prop} (hx : x < mN M) (ol : ok M lc 21) (hL : mL M lc = L) (h0 : 0 < L) (hlim : L < 10000000) (H : ∀ M', Grw M M' x k lc L → Q M') : E (h + 2) mdJ7_copyOf_59c91 [.ref lc, .int (Int32.ofNat (L * 2))] M (fun r M5 => mE M M5 → ∃ b6 : Nat, r = some (.ref b6) ∧ ∀ M7, M7 = wR M5 x k (some b6) → Q M7) := by
  refine S_copyI ol (by omega) (by omega) (by omega) (fun _ => ⟨_, rfl, fun M7 e7 => H M7 ?_⟩)
  rw [hL] at e7
  have nx : x ≠ mN M := Nat.ne_of_lt hx
  have nlc : lc ≠ mN M := Nat.ne_of_lt ol.1
  refine ⟨?_, fun f => by rw [e7]; rfl, fun f hf => by rw [e7, mR_wR, if_neg (fun z => hf z.2)]; rfl, by rw [e7]; rfl, by rw [e7, mR_wR, if_pos ⟨rfl, rfl⟩], by rw [e7]; exact ok_newA (n := L * 2), by rw [e7]; exact va_up_self _ _ _, fun j hj => ?_, by rw [e7]; rfl, by rw [e7]; rfl⟩
  · rw [e7]
    refine (fr_nwA).tr (S1 := fun c => c = x ∨ c = mN M) fr_cpw (fun a ha z => ?_)
    rcases z with z | z
    · exact z
    · omega
  · rw [e7]
    show va_up (mAI (nwA M 21 (L * 2))) (mN M) (va_cpy (mAI (nwA M 21 (L * 2)) lc) _ 0 0 L) (mN M) j = mAI M lc j
    rw [va_up_self]
    unfold va_cpy
    rw [if_pos ⟨Nat.zero_le _, by omega⟩, Nat.zero_add, Nat.sub_zero]
    show va_up (mAI M) (mN M) _ lc j = _
    rw [va_up_ne _ _ nlc]
theorem S_addNet {h x lc rc a b : Nat} {N : Nt} {M : Mem} {Q : Option Value → Mem → Prop} (hP : CirP M x lc rc N) (hlim : N.length < 100000) (ha : a < 2 * N.length + 2) (hb : b < 2 * N.length + 2) (H : ∀ M' lc' rc', CirP M' x lc' rc' (N ++ [(a, b)]) → CirF M M' x lc rc lc' rc' N (N ++ [(a, b)]) → Q (some (.int (Int32.ofNat N.length))) M') : E (h + 3) mdX0_addNet [.ref x, .int (Int32.ofNat a), .int (Int32.ofNat b)] M Q := by
  obtain ⟨o1, r1, o2, r2, o3, i1, ⟨l0, l1, l2, l3, l4⟩, v, wf, ⟨d1, d2, d3⟩⟩ := hP
  -- the pair is put down where there is room
  have put : ∀ (M1 : Mem) (lc' rc' : Nat) (Q1 : Option Value → Mem → Prop), ok M1 x 2 → mR M1 x 0 = some lc' → ok M1 lc' 21 → mR M1 x 1 = some rc' → ok M1 rc' 21 → mI M1 x 4 = Int32.ofNat N.length → N.length < mL M1 lc' → mL M1 rc' = mL M1 lc' → mL M1 lc' ≤ 64 + 2 * (N.length + 1) → 64 ≤ mL M1 lc' → (∀ j, j < N.length → mAI M1 lc' j = Int32.ofNat (N.getD j (0, 0)).1 ∧ mAI M1 rc' j = Int32.ofNat (N.getD j (0, 0)).2) → x ≠ lc' → x ≠ rc' → lc' ≠ rc' → (∀ M', CirP M' x lc' rc' (N ++ [(a, b)]) → M' = wI (wAI (wAI M1 lc' N.length (Int32.ofNat a)) rc' N.length (Int32.ofNat b)) x 4 (Int32.ofNat (N.length + 1)) → Q1 (some (.int (Int32.ofNat N.length))) M') → DX0_addNet_46 (h + 2) x (Int32.ofNat a) (Int32.ofNat b) M1 Q1 := by
    intro M1 lc' rc' Q1 p1 p2 p3 p4 p5 p6 p7 p8 p9 p64 pv q1 q2 q3 K
    unfold DX0_addNet_46
    refine ⟨p1, lc', p2, p3, by rw [p6]; exact vp_of p7 (by omega), fun M4 e4 => ?_⟩
    rw [p6, lt32 (by omega)] at e4
    refine ⟨rc', by rw [e4]; exact p4, by rw [e4]; exact p5, by rw [e4]; show vp_in (mI M1 x 4) (mL M1 rc'); rw [p6, p8]; exact vp_of p7 (by omega), fun M7 e7 M8 e8 => ?_⟩
    have i4 : mI M4 x 4 = Int32.ofNat N.length := by rw [e4, mI_wAI]; exact p6
    rw [i4, lt32 (by omega)] at e7
    have i7 : mI M7 x 4 = Int32.ofNat N.length := by rw [e7, mI_wAI]; exact i4
    rw [i7, succ32, e7, e4] at e8
    have i8 : mI M8 x 4 = Int32.ofNat (N.length + 1) := by rw [e8]; exact mI_own _ _ _ _
    rw [i8, dec32 (by omega)]
    refine K M8 ⟨by rw [e8]; exact p1, by rw [e8]; exact p2, by rw [e8]; exact p3, by rw [e8]; exact p4, by rw [e8]; exact p5, by rw [i8, List.length_append]; rfl, ?_, fun j hj => ?_, wf_app wf ha hb, q1, q2, q3⟩ e8
    · rw [e8, List.length_append]
      exact ⟨Nat.le_add_left _ _, p7, p8, p64, p9⟩
    · rw [List.length_append] at hj
      have hj : j < N.length + 1 := hj
      rw [getD_appN hj, e8, mAI_wI]
      by_cases q : j = N.length
      · rw [if_pos q]
        exact ⟨by rw [mAI_wAI, if_neg (fun z => q3 z.1), mAI_wAI, if_pos ⟨rfl, q⟩], by rw [mAI_wAI, if_pos ⟨rfl, q⟩]⟩
      · rw [if_neg q]
        exact ⟨by rw [mAI_wAI, if_neg (fun z => q z.2), mAI_wAI, if_neg (fun z => q z.2)]; exact (pv j (by omega)).1, by rw [mAI_wAI, if_neg (fun z => q z.2), mAI_wAI, if_neg (fun z => q z.2)]; exact (pv j (by omega)).2⟩
  refine KX0_addNet ?_
  unfold DX0_addNet_0
  refine ⟨o1, lc, r1, o2, fun hc => ?_, fun hc => ?_⟩
  · rw [i1] at hc
    have hlt : N.length < mL M lc := by
      have : N.length ≠ mL M lc := fun z => hc (by rw [z])
      omega
    refine put M lc rc Q o1 r1 o2 r2 o3 i1 hlt l2 (by omega) l3 v d1 d2 d3 (fun M' P' e => H M' lc rc P' ?_)
    refine ⟨?_, fun f hf => by rw [e, mI_wI, if_neg (fun z => hf z.2)]; rfl, fun f _ _ => by rw [e]; rfl, by rw [e]; rfl, by rw [e, List.length_append]; show mN M + 2 * N.length ≤ mN M + 2 * (N.length + 1) ∧ 32 * mN M + mL M lc ≤ 32 * mN M + mL M lc; omega, by rw [e]; rfl, Or.inl rfl, Or.inl rfl, by rw [e]; exact Nat.le_refl _⟩
    rw [e]
    exact ((fr_wAI (S := fun c => c = x ∨ c = lc ∨ c = rc) (Or.inr (Or.inl rfl))).tr (fr_wAI (S := fun c => c = x ∨ c = lc ∨ c = rc) (Or.inr (Or.inr rfl))) (fun _ _ z => z)).tr (fr_wI (S := fun c => c = x ∨ c = lc ∨ c = rc) (Or.inl rfl)) (fun _ _ z => z)
  · rw [i1] at hc
    have heq : N.length = mL M lc := inj32 (by omega) (by omega) hc
    have e2 : ∀ {M1 : Mem}, mI M1 x 4 = Int32.ofNat N.length → mI M1 x 4 * 2 = Int32.ofNat (mL M lc * 2) := fun e => by rw [e, heq, Int32.ofNat_mul]; rfl
    refine ⟨lc, r1, ?_⟩
    rw [e2 i1]
    refine S_grow o1.1 o2 rfl (by omega) (by omega) (fun M1 G1 => ?_)
    obtain ⟨f1, f2, f3, f4, f5, f6, f7, f8, f9, f10⟩ := G1
    have n1 := o1.1
    have n2 := o2.1
    have n3 := o3.1
    have r21 : mR M1 x 1 = some rc := (f3 1 (by decide)).trans r2
    have i11 : mI M1 x 4 = Int32.ofNat N.length := (f2 4).trans i1
    have o31 : ok M1 rc 21 := ok_E o3 f1.1
    have l31 : mL M1 rc = mL M lc := ((f1.1.2.2 rc n3).2).trans l2
    refine ⟨rc, r21, ?_⟩
    rw [e2 i11]
    refine S_grow (h := h) (by omega) o31 l31 (by omega) (by omega) (fun M2 G2 => ?_)
    obtain ⟨g1, g2, g3, g4, g5, g6, g7, g8, g9, g10⟩ := G2
    have row1 : ∀ a, a < mN M → a ≠ x → sameRow M M2 a := fun a ha hx => (f1.2 a ha hx).tr (g1.2 a (by omega) hx)
    have o62 : ok M2 (mN M) 21 := ok_E f6 g1.1
    have l72 : mL M2 (mN M) = mL M lc * 2 := ((g1.1.2.2 (mN M) f6.1).2).trans f7
    have nR := g1.2 (mN M) (by omega) (by omega)
    refine put M2 (mN M) (mN M1) Q (ok_E (ok_E o1 f1.1) g1.1) ((g3 0 (by decide)).trans f5) o62 g5 g6 ((g2 4).trans i11) (by rw [l72]; omega) (by rw [l72]; exact g7) (by rw [l72]; omega) (by rw [l72]; omega) (fun j hj => ⟨?_, ?_⟩) (by omega) (by omega) (by omega) (fun M' P' e => H M' (mN M) (mN M1) P' ?_)
    · rw [nR.2.2.2.1, f8 j (by omega)]; exact (v j hj).1
    · rw [g8 j (by omega), (f1.2 rc n3 (fun z => d2 z.symm)).2.2.2.1]; exact (v j hj).2
    · refine ⟨?_, fun f hf => by rw [e, mI_wI, if_neg (fun z => hf z.2)]; exact (g2 f).trans (f2 f), fun f q0 q1 => by rw [e]; exact (g3 f q1).trans (f3 f q0), by rw [e]; exact g4.trans f4, by rw [e, List.length_append]; show mN M2 + 2 * N.length ≤ mN M + 2 * (N.length + 1) ∧ 32 * mN M2 + mL M lc ≤ 32 * mN M + mL M2 (mN M); rw [l72]; omega, by rw [e]; show mS M2 + 4 * mL M lc = mS M + 4 * mL M2 (mN M); rw [l72]; omega, Or.inr (Nat.le_refl _), Or.inr (by omega), by rw [e]; show mN M ≤ mN M2; omega⟩
      have fM : fr (fun c => c = x ∨ c = lc ∨ c = rc) M M2 := (f1.tr g1 (fun _ _ z => z)).more (fun a _ z => Or.inl z)
      refine fM.tr (S1 := fun c => c = x ∨ c = mN M ∨ c = mN M1) ?_ (fun a ha z => ?_)
      · rw [e]
        exact ((fr_wAI (S := fun c => c = x ∨ c = mN M ∨ c = mN M1) (Or.inr (Or.inl rfl))).tr (fr_wAI (S := fun c => c = x ∨ c = mN M ∨ c = mN M1) (Or.inr (Or.inr rfl))) (fun _ _ z => z)).tr (fr_wI (S := fun c => c = x ∨ c = mN M ∨ c = mN M1) (Or.inl rfl)) (fun _ _ z => z)
      · rcases z with z | z | z
        · exact Or.inl z
        · omega
        · omega
theorem anL_len {N : Nt} {a b : Nat} : N.length ≤ (anL N a b).1.length ∧ (anL N a b).1.length ≤ N.length + 1 := by
  unfold anL
  repeat' split
  all_goals (try rw [List.length_append])
  all_goals (show _ ≤ _ ∧ _ ≤ _; simp)
theorem anL_lt {N : Nt} {a b : Nat} (h1 : 1 ≤ N.length) (ha : a < 2 * N.length) (hb : b < 2 * N.length) : (anL N a b).2 < 2 * (anL N a b).1.length := by
  unfold anL
  split
  · show 0 < 2 * N.length; omega
  · split
    · exact hb
    · split
      · exact ha
      · show 2 * N.length < 2 * (N ++ [(a, b)]).length
        rw [List.length_append]; show 2 * N.length < 2 * (N.length + 1); omega
theorem z32 {a : Nat} {k : Nat} (ha : a < 2147483648) (hk : k < 2147483648) : (Int32.ofNat a = Int32.ofNat k) ↔ a = k := ⟨fun z => inj32 ha hk z, fun z => by rw [z]⟩
theorem S_and {h x lc rc a b : Nat} {N : Nt} {M : Mem} {Q : Option Value → Mem → Prop} (hP : CirP M x lc rc N) (hlim : N.length < 100000) (ha : a < 2 * N.length) (hb : b < 2 * N.length) (H : ∀ M' lc' rc', CirP M' x lc' rc' (anL N a b).1 → CirF M M' x lc rc lc' rc' N (anL N a b).1 → Q (some (.int (Int32.ofNat (anL N a b).2))) M') : E (h + 4) mdX0_and [.ref x, .int (Int32.ofNat a), .int (Int32.ofNat b)] M Q := by
  have za := z32 (a := a) (k := 0) (by omega) (by decide)
  have zb := z32 (a := b) (k := 0) (by omega) (by decide)
  have oa := z32 (a := a) (k := 1) (by omega) (by decide)
  have ob := z32 (a := b) (k := 1) (by omega) (by decide)
  have ab := z32 (a := a) (k := b) (by omega) (by omega)
  have stay : (anL N a b).1 = N → Q (some (.int (Int32.ofNat (anL N a b).2))) M := fun e => H M lc rc (by rw [e]; exact hP) (by rw [e]; exact CirF.rf)
  unfold anL at H stay
  refine KX0_and ?_
  unfold DX0_and_0 DX0_and_8 DX0_and_20 DX0_and_39
  refine ⟨fun q => ?_, fun q0 => ⟨fun q1 => ⟨fun q => ?_, fun q2 => ⟨fun q3 => ⟨fun q4 => ?_, fun q => ?_⟩, fun q => ?_⟩⟩, fun q => ?_⟩⟩
  · have c : a = 0 ∨ b = 0 := Or.inl (za.mp q)
    rw [if_pos c] at stay; exact stay rfl
  · have c : ¬ (a = 0 ∨ b = 0) := by rintro (z | z) <;> first | exact q0 (za.mpr z) | exact q1 (zb.mpr z)
    rw [if_neg c, if_pos (Or.inl (oa.mp q))] at stay; exact stay rfl
  · have c : ¬ (a = 0 ∨ b = 0) := by rintro (z | z) <;> first | exact q0 (za.mpr z) | exact q1 (zb.mpr z)
    have c2 : ¬ (a = 1 ∨ a = b) := by rintro (z | z) <;> first | exact q2 (oa.mpr z) | exact q3 (ab.mpr z)
    have c3 : ¬ b = 1 := fun z => q4 (ob.mpr z)
    rw [if_neg c, if_neg c2, if_neg c3] at H
    refine ⟨hP.1, S_addNet hP hlim (by omega) (by omega) (fun M' lc' rc' P' F' _ => ⟨_, rfl, ?_⟩)⟩
    rw [show (2 : Int32) * Int32.ofNat N.length = Int32.ofNat (2 * N.length) from by rw [show (2 : Int32) = Int32.ofNat 2 from rfl, mul32]]
    exact H M' lc' rc' P' F'
  · have c : ¬ (a = 0 ∨ b = 0) := by rintro (z | z) <;> first | exact q0 (za.mpr z) | exact q1 (zb.mpr z)
    have c2 : ¬ (a = 1 ∨ a = b) := by rintro (z | z) <;> first | exact q2 (oa.mpr z) | exact q3 (ab.mpr z)
    rw [if_neg c, if_neg c2, if_pos (ob.mp q)] at stay; exact stay rfl
  · have c : ¬ (a = 0 ∨ b = 0) := by rintro (z | z) <;> first | exact q0 (za.mpr z) | exact q1 (zb.mpr z)
    rw [if_neg c, if_pos (Or.inr (ab.mp q))] at stay; exact stay rfl
  · have c : a = 0 ∨ b = 0 := Or.inr (zb.mp q)
    rw [if_pos c] at stay; exact stay rfl
theorem S_or {h x lc rc a b : Nat} {N : Nt} {M : Mem} {Q : Option Value → Mem → Prop} (hP : CirP M x lc rc N) (hlim : N.length < 100000) (ha : a < 2 * N.length) (hb : b < 2 * N.length) (H : ∀ M' lc' rc', CirP M' x lc' rc' (orL N a b).1 → CirF M M' x lc rc lc' rc' N (orL N a b).1 → Q (some (.int (Int32.ofNat (orL N a b).2))) M') : E (h + 5) mdX0_or [.ref x, .int (Int32.ofNat a), .int (Int32.ofNat b)] M Q := by
  refine KX0_or ?_
  unfold DX0_or_0
  have ha' := nlt_lt ha
  have hb' := nlt_lt hb
  have l1 := hP.2.2.2.2.2.2.1.1
  have hl := anL_lt l1 ha' hb'
  have hlen := anL_len (N := N) (a := nlt a) (b := nlt b)
  refine S_not (h := h + 3) (by omega) (fun _ => ⟨_, rfl, S_not (h := h + 3) (by omega) (fun _ => ⟨_, rfl, hP.1, S_and hP hlim ha' hb' (fun M' lc' rc' P' F' _ => ⟨_, rfl, S_not (h := h + 3) (by omega) (fun _ => ⟨_, rfl, H M' lc' rc' P' F'⟩)⟩)⟩)⟩)
theorem orL_len {N : Nt} {a b : Nat} : N.length ≤ (orL N a b).1.length ∧ (orL N a b).1.length ≤ N.length + 1 := anL_len
theorem orL_lt {N : Nt} {a b : Nat} (h1 : 1 ≤ N.length) (ha : a < 2 * N.length) (hb : b < 2 * N.length) : (orL N a b).2 < 2 * (orL N a b).1.length := nlt_lt (anL_lt h1 (nlt_lt ha) (nlt_lt hb))
theorem S_fresh {h x lc rc : Nat} {N : Nt} {M : Mem} {Q : Option Value → Mem → Prop} (hP : CirP M x lc rc N) (hlim : N.length < 100000) (H : ∀ M' lc' rc', CirP M' x lc' rc' (frL N).1 → CirF M M' x lc rc lc' rc' N (frL N).1 → Q (some (.int (Int32.ofNat (2 * N.length)))) M') : E (h + 4) mdX0_fresh [.ref x] M Q := by
  refine KX0_fresh ?_
  unfold DX0_fresh_0
  have e : (2 : Int32) * mI M x 4 = Int32.ofNat (2 * N.length) := by rw [hP.2.2.2.2.2.1, show (2 : Int32) = Int32.ofNat 2 from rfl, mul32]
  rw [e]
  exact ⟨hP.1, S_addNet hP hlim (by omega) (by omega) (fun M' lc' rc' P' F' _ => ⟨_, rfl, H M' lc' rc' P' F'⟩)⟩
