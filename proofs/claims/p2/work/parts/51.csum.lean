/-! the class reads sums -/
def RI (b : Nat → Int32) (n s n0 : Nat) (sN : List Int64) (ro mx : List Int32) (vN : List Int64) (M : Mem) (i o : Nat) (u : Int32) (l : List Int32) (cc : Nat) : Prop := TI b n s M i o ∧ EnvC M n0 sN ro mx vN ∧ SumP M (n0 + 22) cc l ∧ (cc = n0 + 23 ∨ n0 + 25 ≤ cc) ∧ mI M 14 6 = u ∧ mR M 14 7 = some n0 ∧ 132 ≤ n0 ∧ n0 + 25 ≤ mN M
def RX (n0 : Nat) (sN : List Int64) (ro mx : List Int32) (vN : List Int64) (M : Mem) (f : Int32) (p : Nat) (l : List Int32) (cc : Nat) : Prop := TF M f p ∧ EnvC M n0 sN ro mx vN ∧ SumP M (n0 + 22) cc l ∧ (cc = n0 + 23 ∨ n0 + 25 ≤ cc) ∧ mR M 14 7 = some n0 ∧ 132 ≤ n0 ∧ n0 + 25 ≤ mN M
/-- what reading a sum may change; what it takes of the room -/
def SFm (n0 : Nat) (M M' : Mem) (cc : Nat) (l : List Int32) (cc' : Nat) (l' : List Int32) : Prop := fr (fun c => c = 14 ∨ c = 15 ∨ c = n0 + 22 ∨ c = cc) M M' ∧ (∀ f, f ≠ 6 → mI M' 14 f = mI M 14 f) ∧ mR M' 14 = mR M 14 ∧ mJ M' 14 = mJ M 14 ∧ mR M' 15 = mR M 15 ∧ (∀ f, f ≠ 1 → mI M' (n0 + 22) f = mI M (n0 + 22) f) ∧ (∀ f, f ≠ 0 → mR M' (n0 + 22) f = mR M (n0 + 22) f) ∧ mJ M' (n0 + 22) = mJ M (n0 + 22) ∧ mN M' + l.length ≤ mN M + l'.length ∧ mS M' + 2 * mL M cc = mS M + 2 * mL M' cc' ∧ (cc' = cc ∨ mN M ≤ cc')
theorem SFm.rf {n0 cc : Nat} {M : Mem} {l : List Int32} : SFm n0 M M cc l cc l := ⟨fr.rf, fun _ _ => rfl, rfl, rfl, rfl, fun _ _ => rfl, fun _ _ => rfl, rfl, Nat.le_refl _, rfl, Or.inl rfl⟩
theorem SFm.tr {n0 c0 c1 c2 : Nat} {M0 M1 M2 : Mem} {l0 l1 l2 : List Int32} (h : SFm n0 M0 M1 c0 l0 c1 l1) (k : SFm n0 M1 M2 c1 l1 c2 l2) : SFm n0 M0 M2 c0 l0 c2 l2 := by
  obtain ⟨a1, a2, a3, a4, a5, a6, a7, a8, a9, aA, aB⟩ := h
  obtain ⟨b1, b2, b3, b4, b5, b6, b7, b8, b9, bA, bB⟩ := k
  have hn := a1.1.1
  refine ⟨a1.tr b1 (fun a ha z => ?_), fun f q => (b2 f q).trans (a2 f q), b3.trans a3, b4.trans a4, b5.trans a5, fun f q => (b6 f q).trans (a6 f q), fun f q => (b7 f q).trans (a7 f q), b8.trans a8, by omega, by omega, ?_⟩
  · rcases z with z | z | z | z
    · exact Or.inl z
    · exact Or.inr (Or.inl z)
    · exact Or.inr (Or.inr (Or.inl z))
    · rcases aB with q | q
      · exact Or.inr (Or.inr (Or.inr (z.trans q)))
      · omega
  · rcases bB with q | q
    · rw [q]; exact aB
    · exact Or.inr (by omega)
theorem SFm.t {n0 cc : Nat} {M M' : Mem} {l : List Int32} (h : TFr M M') (hn : 132 ≤ n0) : SFm n0 M M' cc l cc l := by
  obtain ⟨a1, a2, a3, a4, a5, a6, a7, a8, a9⟩ := id h
  refine ⟨h.fr.more (fun a _ z => Or.inr (Or.inl z)), fun f _ => by rw [(a9 14 (by decide)).1], by rw [a5], (a9 14 (by decide)).2, by rw [a5], fun f _ => by rw [(a9 _ (by omega)).1], fun f _ => by rw [a5], (a9 _ (by omega)).2, by rw [a1]; exact Nat.le_refl _, by rw [a2, a4], Or.inl rfl⟩
theorem SFm.add {n0 cc cc' : Nat} {M M' : Mem} {l : List Int32} {x : Int32} (h : SumF M M' (n0 + 22) cc cc') (hn : 132 ≤ n0) (hc : cc = n0 + 23 ∨ n0 + 25 ≤ cc) (hm : 132 ≤ mN M) : SFm n0 M M' cc l cc' (l ++ [x]) := by
  obtain ⟨a1, a2, a3, a4, a5, a6, a7, a8⟩ := h
  have r14 := a1.2 14 (by omega) (by rintro (z | z) <;> omega)
  have r15 := a1.2 15 (by omega) (by rintro (z | z) <;> omega)
  refine ⟨a1.more (fun a _ z => Or.inr (Or.inr z)), fun f _ => by rw [r14.1], r14.2.2.1, r14.2.1, r15.2.2.1, a2, a3, a4, by rw [List.length_append]; show mN M' + l.length ≤ mN M + (l.length + 1); omega, a6, ?_⟩
  rcases a7 with q | q
  · exact Or.inl q
  · exact Or.inr (by omega)
theorem SumP.fr {M M' : Mem} {sc cc : Nat} {l : List Int32} (h : SumP M sc cc l) (hE : mE M M') (h1 : sameRow M M' sc) (h2 : sameRow M M' cc) : SumP M' sc cc l := by
  obtain ⟨a1, a2, a3, a4, a5, a6, a7, a8⟩ := h
  have e := (hE.2.2 cc a3.1).2
  exact ⟨ok_E a1 hE, by rw [h1.2.2.1]; exact a2, ok_E a3 hE, by rw [h1.1]; exact a4, by rw [e]; exact a5, by rw [e]; exact a6, by rw [e]; exact a7, fun j hj => by rw [h2.2.2.2.1]; exact a8 j hj⟩
section
variable {b : Nat → Int32} {n s n0 : Nat} {sN : List Int64} {ro mx : List Int32} {vN : List Int64} {M M' : Mem} {i o i' o' : Nat} {u : Int32} {l : List Int32} {cc cc' : Nat} {f : Int32} {p : Nat}
theorem EnvC.t (h : EnvC M n0 sN ro mx vN) (k : TFr M M') (hn : 132 ≤ n0) : EnvC M' n0 sN ro mx vN := h.fr k.e (fun a h1 h2 => by
  have q := k.2.2.2.2.2.2.2.2 a (by omega)
  exact ⟨q.1, q.2, by rw [k.2.2.2.2.1], by rw [k.2.2.2.2.2.1], by rw [k.2.2.2.2.2.2.1], by rw [k.2.2.2.2.2.2.2.1]⟩)
theorem TFr.row {a : Nat} (k : TFr M M') (ha : a ≠ 15) : sameRow M M' a := ⟨(k.2.2.2.2.2.2.2.2 a ha).1, (k.2.2.2.2.2.2.2.2 a ha).2, by rw [k.2.2.2.2.1], by rw [k.2.2.2.2.2.1], by rw [k.2.2.2.2.2.2.1], by rw [k.2.2.2.2.2.2.2.1]⟩
theorem RI.t (h : RI b n s n0 sN ro mx vN M i o u l cc) (k : TFr M M') (hT : TI b n s M' i' o') : RI b n s n0 sN ro mx vN M' i' o' u l cc := by
  obtain ⟨h1, h2, h3, h4, h5, h6, h7, h8⟩ := h
  exact ⟨hT, h2.t k h7, h3.fr k.e (k.row (by omega)) (k.row (by omega)), h4, by rw [(k.2.2.2.2.2.2.2.2 14 (by decide)).1]; exact h5, by rw [k.2.2.2.2.1]; exact h6, h7, by rw [k.1]; exact h8⟩
theorem RI.x (h : RI b n s n0 sN ro mx vN M i o u l cc) (k : TFr M M') (hT : TF M' f p) : RX n0 sN ro mx vN M' f p l cc := by
  obtain ⟨h1, h2, h3, h4, h5, h6, h7, h8⟩ := h
  exact ⟨hT, h2.t k h7, h3.fr k.e (k.row (by omega)) (k.row (by omega)), h4, by rw [k.2.2.2.2.1]; exact h6, h7, by rw [k.1]; exact h8⟩
theorem RX.t (h : RX n0 sN ro mx vN M f p l cc) (k : TFr M M') (hT : TF M' f p) : RX n0 sN ro mx vN M' f p l cc := by
  obtain ⟨h1, h2, h3, h4, h6, h7, h8⟩ := h
  exact ⟨hT, h2.t k h7, h3.fr k.e (k.row (by omega)) (k.row (by omega)), h4, by rw [k.2.2.2.2.1]; exact h6, h7, by rw [k.1]; exact h8⟩
theorem Fix.sum (F : Fix M) (h : fr (fun c => c = n0 + 22 ∨ c = cc) M M') (hn : 132 ≤ n0) (hc : cc = n0 + 23 ∨ n0 + 25 ≤ cc) : Fix M' := by
  have hm := F.1
  refine F.of_fr (S := fun _ => True) h.1 (fun e he => ?_) ?_
  · have := tRS_lt e he
    rw [(h.2 e.1 (by omega) (by rintro (z | z) <;> omega)).2.2.1]
  · exact (h.2 19 (by omega) (by rintro (z | z) <;> omega)).2.2.2.2.1
theorem RI.add {x : Int32} (h : RI b n s n0 sN ro mx vN M i o u l cc) (hP : SumP M' (n0 + 22) cc' (l ++ [x])) (hF : SumF M M' (n0 + 22) cc cc') : RI b n s n0 sN ro mx vN M' i o u (l ++ [x]) cc' := by
  obtain ⟨h1, h2, h3, h4, h5, h6, h7, h8⟩ := h
  have hm := h1.1.1
  have F' := h1.1.sum hF.1 h7 h4
  have row : ∀ a, a < 132 → sameRow M M' a := fun a ha => hF.1.2 a (by omega) (by rintro (z | z) <;> omega)
  refine ⟨h1.fr F' (row 15 (by decide)).1 (row 15 (by decide)).2.1 (row 16 (by decide)).2.2.2.1 (row 17 (by decide)).2.2.2.1 (row 18 (by decide)).2.2.2.2.1, h2.fr hF.1.1 (fun a q1 q2 => hF.1.2 a (by omega) (by rintro (z | z) <;> omega)), hP, ?_, by rw [(row 14 (by decide)).1]; exact h5, by rw [(row 14 (by decide)).2.2.1]; exact h6, h7, Nat.le_trans h8 hF.1.1.1⟩
  rcases hF.2.2.2.2.2.2.1 with q | q
  · rw [q]; exact h4
  · exact Or.inr (by omega)
theorem RX.add {x : Int32} (h : RX n0 sN ro mx vN M f p l cc) (hP : SumP M' (n0 + 22) cc' (l ++ [x])) (hF : SumF M M' (n0 + 22) cc cc') : RX n0 sN ro mx vN M' f p (l ++ [x]) cc' := by
  obtain ⟨h1, h2, h3, h4, h6, h7, h8⟩ := h
  have hm := h1.1.1
  have F' := h1.1.sum hF.1 h7 h4
  have row : ∀ a, a < 132 → sameRow M M' a := fun a ha => hF.1.2 a (by omega) (by rintro (z | z) <;> omega)
  refine ⟨h1.fr F' (row 15 (by decide)).1, h2.fr hF.1.1 (fun a q1 q2 => hF.1.2 a (by omega) (by rintro (z | z) <;> omega)), hP, ?_, by rw [(row 14 (by decide)).2.2.1]; exact h6, h7, Nat.le_trans h8 hF.1.1.1⟩
  rcases hF.2.2.2.2.2.2.1 with q | q
  · rw [q]; exact h4
  · exact Or.inr (by omega)
variable {h : Nat} {Q : Option Value → Mem → Prop}
theorem A_add {x : Int32} (hR : RI b n s n0 sN ro mx vN M i o u l cc) (hl : l.length < 30000) (H : ∀ M' cc', RI b n s n0 sN ro mx vN M' i o u (l ++ [x]) cc' → SFm n0 M M' cc l cc' (l ++ [x]) → Q none M') : E (h + 3) mdX6_add [.ref (n0 + 22), .int x] M Q :=
  S_sumAdd hR.2.2.1 (by rcases hR.2.2.2.1 with z | z <;> omega) hl (fun M' cc' hP hF => H M' cc' (hR.add hP hF) (SFm.add hF hR.2.2.2.2.2.2.1 hR.2.2.2.1 hR.1.1.1))
theorem X_add {x : Int32} (hR : RX n0 sN ro mx vN M f p l cc) (hl : l.length < 30000) (H : ∀ M' cc', RX n0 sN ro mx vN M' f p (l ++ [x]) cc' → SFm n0 M M' cc l cc' (l ++ [x]) → Q none M') : E (h + 3) mdX6_add [.ref (n0 + 22), .int x] M Q :=
  S_sumAdd hR.2.2.1 (by rcases hR.2.2.2.1 with z | z <;> omega) hl (fun M' cc' hP hF => H M' cc' (hR.add hP hF) (SFm.add hF hR.2.2.2.2.2.1 hR.2.2.2.1 hR.1.1.1))
theorem A_addW {x y : Int32} (hR : RI b n s n0 sN ro mx vN M i o u l cc) (hl : l.length < 29000) (H : ∀ M' cc', RI b n s n0 sN ro mx vN M' i o u (l ++ [x, y]) cc' → SFm n0 M M' cc l cc' (l ++ [x, y]) → Q none M') : E (h + 4) mdX6_addWith [.ref (n0 + 22), .int x, .int y] M Q := by
  refine KX6_addWith ?_
  unfold DX6_addWith_0
  refine ⟨hR.2.2.1.1, A_add hR (by omega) (fun M1 c1 R1 F1 _ => ⟨rfl, A_add R1 (by rw [List.length_append]; show l.length + 1 < _; omega) (fun M2 c2 R2 F2 _ => ⟨rfl, ?_⟩)⟩)⟩
  have e : l ++ [x] ++ [y] = l ++ [x, y] := by rw [List.append_assoc]; rfl
  rw [e] at R2 F2
  exact H M2 c2 R2 (F1.tr F2)
theorem X_addW {x y : Int32} (hR : RX n0 sN ro mx vN M f p l cc) (hl : l.length < 29000) (H : ∀ M' cc', RX n0 sN ro mx vN M' f p (l ++ [x, y]) cc' → SFm n0 M M' cc l cc' (l ++ [x, y]) → Q none M') : E (h + 4) mdX6_addWith [.ref (n0 + 22), .int x, .int y] M Q := by
  refine KX6_addWith ?_
  unfold DX6_addWith_0
  refine ⟨hR.2.2.1.1, X_add hR (by omega) (fun M1 c1 R1 F1 _ => ⟨rfl, X_add R1 (by rw [List.length_append]; show l.length + 1 < _; omega) (fun M2 c2 R2 F2 _ => ⟨rfl, ?_⟩)⟩)⟩
  have e : l ++ [x] ++ [y] = l ++ [x, y] := by rw [List.append_assoc]; rfl
  rw [e] at R2 F2
  exact H M2 c2 R2 (F1.tr F2)
/-- the word that stands: its content -/
theorem TI.word (hT : TI b n s M i o) (hB : By b) (hk : tK b n i = 2) : mJ M 15 11 = tC b n i := by
  have w := name_WD hB hk
  exact hT.2.2.2.2.2.2.2.1 w.1 (Or.inl w.2.1)
theorem TI.number (hT : TI b n s M i o) (hB : By b) (hk : tK b n i = 3) : mJ M 15 11 = tC b n i := by
  have w := num_val2 hB hk
  exact hT.2.2.2.2.2.2.2.1 w.1 (Or.inr w.2.1)
theorem TI.kind (hT : TI b n s M i o) : mI M 15 9 = tK b n i := hT.2.2.2.2.2.1
theorem wI14 {v : Int32} (hR : RI b n s n0 sN ro mx vN M i o u l cc) : RI b n s n0 sN ro mx vN (wI M 14 6 v) i o v l cc ∧ SFm n0 M (wI M 14 6 v) cc l cc l := by
  obtain ⟨h1, h2, h3, h4, h5, h6, h7, h8⟩ := hR
  have row : ∀ a, a ≠ 14 → sameRow M (wI M 14 6 v) a := fun a ha => ⟨up2_row ha, rfl, rfl, rfl, rfl, rfl⟩
  refine ⟨⟨h1.fr h1.1.i (row 15 (by decide)).1 rfl rfl rfl rfl, h2.fr mE_wI (fun a q1 q2 => row a (by omega)), h3.fr mE_wI (row _ (by omega)) (row _ (by omega)), h4, mI_own _ _ _ _, h6, h7, h8⟩, (fr_wI (S := fun c => c = 14 ∨ c = 15 ∨ c = n0 + 22 ∨ c = cc) (Or.inl rfl)), fun f hf => by rw [mI_wI, if_neg (fun z => hf z.2)], rfl, rfl, rfl, fun f _ => by rw [(row (n0 + 22) (by omega)).1], fun _ _ => rfl, rfl, Nat.le_refl _, rfl, Or.inl rfl⟩
theorem A_usedVar (hR : RI b n s n0 sN ro mx vN M i o u l cc) (hB : By b) (hk : tK b n i = 2) (H1 : ∀ k, fd vN (tC b n i) = some k → ∀ M', RI b n s n0 sN ro mx vN M' i o (u ||| ((1 : Int32) <<< (Int32.ofNat k &&& 31))) l cc → SFm n0 M M' cc l cc l → Q (some (.int (Int32.ofNat k))) M') (H0 : fd vN (tC b n i) = none → ∀ M', RX n0 sN ro mx vN M' 4 (tP b n i) l cc → SFm n0 M M' cc l cc l → Q (some (.int (-1))) M') : E (h + 2) mdX4_usedVariable [.ref 14] M Q := by
  obtain ⟨h1, h2, h3, h4, h5, h6, h7, h8⟩ := id hR
  have F := h1.1
  refine KX4_usedVariable ?_
  unfold DX4_usedVariable_0
  refine ⟨ok14 F, n0, h6, 15, rf14_0 F, ok15 F, h2.1, ?_⟩
  rw [h1.word hB hk]
  refine S_varNamed h2 (fun _ => ⟨_, rfl, fun hc M8 e8 => ?_, fun hc => ?_⟩)
  · cases e : fd vN (tC b n i) with
    | none => rw [e] at hc; exact absurd rfl hc
    | some k =>
      rw [e, h5] at e8
      rw [e8]
      have q := wI14 (v := u ||| ((1 : Int32) <<< (Int32.ofNat k &&& 31))) hR
      exact H1 k e _ q.1 q.2
  · cases e : fd vN (tC b n i) with
    | none => exact ⟨15, rf14_0 F, ok15 F, A_fail h1 (by decide) (fun M' hT' hF' _ => ⟨rfl, H0 e M' (hR.x hF' hT') (SFm.t hF' h7)⟩)⟩
    | some k =>
      rw [e] at hc
      exact absurd hc (oi_ne (by have := (fd_some e).1; have := h2.2.1.2.2.2; omega))
theorem A_toldSig (hR : RI b n s n0 sN ro mx vN M i o u l cc) (hB : By b) (H1 : tK b n i = 2 → ∀ k, fd sN (tC b n i) = some k → Q (some (.int (Int32.ofNat k))) M) (H0 : tK b n i = 2 → fd sN (tC b n i) = none → ∀ M', RX n0 sN ro mx vN M' 4 (tP b n i) l cc → TFr M M' → Q (some (.int (-1))) M') (H2 : tK b n i ≠ 2 → ∀ M', RX n0 sN ro mx vN M' 2 (tP b n i) l cc → TFr M M' → Q (some (.int (-1))) M') : E (h + 2) mdX4_toldSignal [.ref 14] M Q := by
  obtain ⟨h1, h2, h3, h4, h5, h6, h7, h8⟩ := id hR
  have F := h1.1
  refine KX4_toldSignal ?_
  unfold DX4_toldSignal_0 DX4_toldSignal_49
  refine ⟨ok14 F, 15, rf14_0 F, ok15 F, fun hk => ?_, fun hk => ?_⟩
  · rw [h1.kind] at hk
    refine ⟨n0, h6, 15, rf14_0 F, ok15 F, h2.1, ?_⟩
    rw [h1.word hB hk]
    refine S_sigNamed h2 (fun _ => ⟨_, rfl, fun hc => ?_, fun hc => ?_⟩)
    · cases e : fd sN (tC b n i) with
      | none => rw [e] at hc; exact absurd rfl hc
      | some k => exact H1 hk k e
    · cases e : fd sN (tC b n i) with
      | none => exact ⟨15, rf14_0 F, ok15 F, A_fail h1 (by decide) (fun M' hT' hF' _ => ⟨rfl, H0 hk e M' (hR.x hF' hT') hF'⟩)⟩
      | some k =>
        rw [e] at hc
        exact absurd hc (oi_ne (by have := (fd_some e).1; have := h2.2.1.1; omega))
  · rw [h1.kind] at hk
    exact ⟨15, rf14_0 F, ok15 F, A_fail h1 (by decide) (fun M' hT' hF' _ => ⟨rfl, H2 hk M' (hR.x hF' hT') hF'⟩)⟩
theorem X_toldSig (hR : RX n0 sN ro mx vN M f p l cc) (H : Q (some (.int (-1))) M) : E (h + 2) mdX4_toldSignal [.ref 14] M Q := by
  have F := hR.1.1
  refine KX4_toldSignal ?_
  unfold DX4_toldSignal_0
  refine ⟨ok14 F, 15, rf14_0 F, ok15 F, fun hk => ?_, fun hk => ⟨15, rf14_0 F, ok15 F, F_fail hR.1 (fun _ => ⟨rfl, H⟩)⟩⟩
  rw [hR.1.2.2.2.2.2] at hk
  exact absurd hk (by decide)
theorem A_asked (hR : RI b n s n0 sN ro mx vN M i o u l cc) (hB : By b) (H1 : tK b n i = 2 → ∀ k, fd sN (tC b n i) = some k → mx.getD k 0 ≠ 0 → Q (some (.int (Int32.ofNat k))) M) (H0 : tK b n i = 2 → (fd sN (tC b n i) = none ∨ ∃ k, fd sN (tC b n i) = some k ∧ mx.getD k 0 = 0) → ∀ M' v, RX n0 sN ro mx vN M' 4 (tP b n i) l cc → TFr M M' → Q (some (.int v)) M') (H2 : tK b n i ≠ 2 → ∀ M' v, RX n0 sN ro mx vN M' 2 (tP b n i) l cc → TFr M M' → Q (some (.int v)) M') : E (h + 3) mdX4_askedSignal [.ref 14] M Q := by
  obtain ⟨h1, h2, h3, h4, h5, h6, h7, h8⟩ := id hR
  have F := h1.1
  refine KX4_askedSignal ?_
  unfold DX4_askedSignal_0 DX4_askedSignal_30
  refine ⟨ok14 F, A_toldSig hR hB (fun hk k e _ => ⟨_, rfl, fun hc => ?_, fun _ => ?_⟩) (fun hk e M' hX hF _ => ⟨_, rfl, fun _ => H0 hk (Or.inl e) M' _ hX hF, fun hc => absurd rfl hc⟩) (fun hk M' hX hF _ => ⟨_, rfl, fun _ => H2 hk M' _ hX hF, fun hc => absurd rfl hc⟩)⟩
  · exact absurd hc (oi_ne (by have := (fd_some e).1; have := h2.2.1.1; omega))
  · obtain ⟨-, hlen, -, -, -, -, -, -, h27, ⟨c1, c2, c3⟩, -⟩ := h2
    have hkl := (fd_some e).1
    refine ⟨n0, h6, hR.2.1.1, n0 + 3, h27, c1, by rw [c2]; exact vp_of (by omega) (by decide), ?_, ?_⟩
    · rw [lt32 (by omega), c3 k hkl]
      exact fun hm => H1 hk k e hm
    · rw [lt32 (by omega), c3 k hkl]
      exact fun hm => ⟨15, rf14_0 F, ok15 F, A_fail h1 (by decide) (fun M' hT' hF' _ => ⟨rfl, H0 hk (Or.inr ⟨k, e, hm⟩) M' _ (hR.x hF' hT') hF'⟩)⟩
theorem X_asked (hR : RX n0 sN ro mx vN M f p l cc) (H : Q (some (.int (-1))) M) : E (h + 3) mdX4_askedSignal [.ref 14] M Q := by
  refine KX4_askedSignal ?_
  unfold DX4_askedSignal_0 DX4_askedSignal_30
  exact ⟨ok14 hR.1.1, X_toldSig hR (fun _ => ⟨_, rfl, fun _ => H, fun hc => absurd rfl hc⟩)⟩
end
