/-! the class reads conditions -/
section
variable {b : Nat → Int32} {n s : Nat} {M : Mem} {i o h : Nat} {Q : Option Value → Mem → Prop}
theorem A_accept {c : Int32} (hT : TI b n s M i o) (hS : Sto b n s) (hc1 : c ≠ 1) (H1 : tK b n i = c → tK b n (i + 1) ≠ 0 → ∀ M', TI b n s M' (i + 1) o → TFr M M' → Q (some (.int 1)) M') (H0 : tK b n i = c → tK b n (i + 1) = 0 → ∀ M', TF M' 1 (tP b n (i + 1)) → TFr M M' → Q (some (.int 1)) M') (H2 : tK b n i ≠ c → Q (some (.int 0)) M) : E (h + 2) mdX7_accept [.ref 15, .int c] M Q := by
  refine S_accept hT.1 hT.c0 (fun q => ?_) (fun q => H2 (by rw [← hT.kind]; exact q))
  rw [hT.kind] at q
  have hs := hS.lt hT.2.1.2.2 hT.2.2.2.2.2.2.2.2.2 (by rw [q]; exact hc1)
  by_cases hk1 : tK b n (i + 1) = 0
  · exact H0 q hk1 _ ((hT.adv hs).2 hk1) TFr.adv
  · exact H1 q hk1 _ ((hT.adv hs).1 hk1) TFr.adv
theorem F_accept {c f : Int32} {p : Nat} (hT : TF M f p) (hc : c ≠ 0) (H : Q (some (.int 0)) M) : E (h + 2) mdX7_accept [.ref 15, .int c] M Q :=
  S_accept hT.1 hT.2.1 (fun q => absurd (q.symm.trans hT.2.2.2.2.2) hc) (fun _ => H)
theorem A_told {n0 : Nat} {sN : List Int64} {ro mx : List Int32} {vN : List Int64} (h1 : TI b n s M i o) (h2 : EnvC M n0 sN ro mx vN) (h6 : mR M 14 7 = some n0) (hB : By b) (H1 : tK b n i = 2 → ∀ k, fd sN (tC b n i) = some k → k < sN.length → Q (some (.int (Int32.ofNat k))) M) (H0 : tK b n i = 2 → fd sN (tC b n i) = none → ∀ M', TF M' 4 (tP b n i) → TFr M M' → Q (some (.int (-1))) M') (H2 : tK b n i ≠ 2 → ∀ M', TF M' 2 (tP b n i) → TFr M M' → Q (some (.int (-1))) M') : E (h + 2) mdX4_toldSignal [.ref 14] M Q := by
  have F := h1.1
  refine KX4_toldSignal ?_
  unfold DX4_toldSignal_0 DX4_toldSignal_49
  refine ⟨ok14 F, 15, rf14_0 F, ok15 F, fun hk => ?_, fun hk => ?_⟩
  · rw [h1.kind] at hk
    refine ⟨n0, h6, 15, rf14_0 F, ok15 F, h2.1, ?_⟩
    rw [h1.word hB hk]
    refine S_sigNamed h2 (fun _ => ⟨_, rfl, fun hc => ?_, fun hc => ?_⟩)
    · cases e : fd sN (tC b n i) with
      | none => rw [e] at hc; exact absurd rfl hc
      | some k => exact H1 hk k e (fd_some e).1
    · cases e : fd sN (tC b n i) with
      | none => exact ⟨15, rf14_0 F, ok15 F, A_fail h1 (by decide) (fun M' hT' hF' _ => ⟨rfl, H0 hk e M' hT' hF'⟩)⟩
      | some k =>
        rw [e] at hc
        exact absurd hc (oi_ne (by have := (fd_some e).1; have := h2.2.1.1; omega))
  · rw [h1.kind] at hk
    exact ⟨15, rf14_0 F, ok15 F, A_fail h1 (by decide) (fun M' hT' hF' _ => ⟨rfl, H2 hk M' hT' hF'⟩)⟩
theorem X_told {f : Int32} {p : Nat} (hT : TF M f p) (H : Q (some (.int (-1))) M) : E (h + 2) mdX4_toldSignal [.ref 14] M Q := by
  have F := hT.1
  refine KX4_toldSignal ?_
  unfold DX4_toldSignal_0
  refine ⟨ok14 F, 15, rf14_0 F, ok15 F, fun hk => ?_, fun hk => ⟨15, rf14_0 F, ok15 F, F_fail hT (fun _ => ⟨rfl, H⟩)⟩⟩
  rw [hT.2.2.2.2.2] at hk
  exact absurd hk (by decide)
end
/-- a module's circuit while it is read: nets, the literals of signals and of what stands behind pre -/
def CB (n0 : Nat) (sN : List Int64) (ro mx : List Int32) (vN : List Int64) (M : Mem) (N : Nt) (lc rc : Nat) (sg bf : Nat → Nat) : Prop :=
  EnvC M n0 sN ro mx vN ∧ CirP M (n0 + 8) lc rc N ∧ (lc = n0 + 9 ∨ n0 + 25 ≤ lc) ∧ (rc = n0 + 10 ∨ n0 + 25 ≤ rc) ∧ mR M n0 7 = some (n0 + 8) ∧ mR M (n0 + 8) 13 = some (n0 + 20) ∧ (ok M (n0 + 20) 21 ∧ mL M (n0 + 20) = 16 ∧ ∀ k, k < 16 → mAI M (n0 + 20) k = Int32.ofNat (sg k) ∧ sg k < 2 * N.length) ∧ mR M (n0 + 8) 8 = some (n0 + 16) ∧ (ok M (n0 + 16) 21 ∧ mL M (n0 + 16) = 16 ∧ ∀ k, k < 16 → mAI M (n0 + 16) k = Int32.ofNat (bf k) ∧ bf k < 2 * N.length) ∧ mR M 14 7 = some n0 ∧ 132 ≤ n0 ∧ n0 + 25 ≤ mN M
/-- what reading a condition may change -/
def CdF (n0 : Nat) (M M' : Mem) (lc rc lc' rc' : Nat) (N N' : Nt) : Prop := fr (fun c => c = 15 ∨ c = n0 + 8 ∨ c = n0 + 16 ∨ c = lc ∨ c = rc) M M' ∧ mR M' 15 = mR M 15 ∧ (∀ f, f ≠ 4 → mI M' (n0 + 8) f = mI M (n0 + 8) f) ∧ (∀ f, f ≠ 0 → f ≠ 1 → mR M' (n0 + 8) f = mR M (n0 + 8) f) ∧ mJ M' (n0 + 8) = mJ M (n0 + 8) ∧ mN M' + 2 * N.length ≤ mN M + 2 * N'.length ∧ mS M' + 4 * mL M lc = mS M + 4 * mL M' lc' ∧ (lc' = lc ∨ mN M ≤ lc') ∧ (rc' = rc ∨ mN M ≤ rc') ∧ N.length ≤ N'.length
theorem CdF.rf {n0 lc rc : Nat} {M : Mem} {N : Nt} : CdF n0 M M lc rc lc rc N N := ⟨fr.rf, rfl, fun _ _ => rfl, fun _ _ _ => rfl, rfl, Nat.le_refl _, rfl, Or.inl rfl, Or.inl rfl, Nat.le_refl _⟩
theorem CdF.tr {n0 : Nat} {M M1 M2 : Mem} {lc rc lc1 rc1 lc2 rc2 : Nat} {N N1 N2 : Nt} (h : CdF n0 M M1 lc rc lc1 rc1 N N1) (k : CdF n0 M1 M2 lc1 rc1 lc2 rc2 N1 N2) : CdF n0 M M2 lc rc lc2 rc2 N N2 := by
  obtain ⟨a1, a0, a2, a3, a4, a5, a6, a7, a8, a9⟩ := h
  obtain ⟨b1, b0, b2, b3, b4, b5, b6, b7, b8, b9⟩ := k
  have hn := a1.1.1
  refine ⟨a1.tr b1 (fun a ha z => ?_), b0.trans a0, fun f q => (b2 f q).trans (a2 f q), fun f q1 q2 => (b3 f q1 q2).trans (a3 f q1 q2), b4.trans a4, by omega, by omega, by omega, by omega, by omega⟩
  rcases z with z | z | z | z | z
  · exact Or.inl z
  · exact Or.inr (Or.inl z)
  · exact Or.inr (Or.inr (Or.inl z))
  · rcases a7 with q | q
    · exact Or.inr (Or.inr (Or.inr (Or.inl (z.trans q))))
    · omega
  · rcases a8 with q | q
    · exact Or.inr (Or.inr (Or.inr (Or.inr (z.trans q))))
    · omega
theorem CdF.t {n0 lc rc : Nat} {M M' : Mem} {N : Nt} (h : TFr M M') (hn : 132 ≤ n0) : CdF n0 M M' lc rc lc rc N N := by
  obtain ⟨a1, a2, a3, a4, a5, a6, a7, a8, a9⟩ := id h
  exact ⟨h.fr.more (fun a _ z => Or.inl z), by rw [a5], fun f _ => by rw [(a9 _ (by omega)).1], fun f _ _ => by rw [a5], (a9 _ (by omega)).2, by rw [a1]; exact Nat.le_refl _, by rw [a2, a4], Or.inl rfl, Or.inl rfl, Nat.le_refl _⟩
theorem CdF.c {n0 lc rc lc' rc' : Nat} {M M' : Mem} {N N' : Nt} (h : CirF M M' (n0 + 8) lc rc lc' rc' N N') (hn : 132 ≤ n0) (h15 : lc ≠ 15 ∧ rc ≠ 15) (hm : 132 ≤ mN M) (hl : N.length ≤ N'.length) : CdF n0 M M' lc rc lc' rc' N N' := by
  obtain ⟨a1, a2, a3, a4, a5, a6, a7, a8, a9⟩ := h
  refine ⟨a1.more (fun a _ z => ?_), (a1.2 15 (by omega) (by rintro (z | z | z) <;> omega)).2.2.1, a2, a3, a4, a5.1, a6, a7, a8, hl⟩
  rcases z with z | z | z
  · exact Or.inr (Or.inl z)
  · exact Or.inr (Or.inr (Or.inr (Or.inl z)))
  · exact Or.inr (Or.inr (Or.inr (Or.inr z)))
theorem CirP.fr {M M' : Mem} {x lc rc : Nat} {N : Nt} (h : CirP M x lc rc N) (hE : mE M M') (h1 : sameRow M M' x) (h2 : sameRow M M' lc) (h3 : sameRow M M' rc) : CirP M' x lc rc N := by
  obtain ⟨o1, r1, o2, r2, o3, i1, ⟨l0, l1, l2, l3, l4⟩, v, wf, d⟩ := h
  have e2 := (hE.2.2 lc o2.1).2
  have e3 := (hE.2.2 rc o3.1).2
  exact ⟨ok_E o1 hE, by rw [h1.2.2.1]; exact r1, ok_E o2 hE, by rw [h1.2.2.1]; exact r2, ok_E o3 hE, by rw [h1.1]; exact i1, ⟨l0, by rw [e2]; exact l1, by rw [e2, e3]; exact l2, by rw [e2]; exact l3, by rw [e2]; exact l4⟩, fun j hj => by rw [h2.2.2.2.1, h3.2.2.2.1]; exact v j hj, wf, d⟩
section
variable {b : Nat → Int32} {n s n0 : Nat} {sN : List Int64} {ro mx : List Int32} {vN : List Int64} {M M' : Mem} {i o : Nat} {N N' : Nt} {lc rc lc' rc' : Nat} {sg bf : Nat → Nat} {h : Nat} {Q : Option Value → Mem → Prop}
theorem CB.t (h : CB n0 sN ro mx vN M N lc rc sg bf) (k : TFr M M') : CB n0 sN ro mx vN M' N lc rc sg bf := by
  obtain ⟨h1, h2, h3, h4, h5, h6, ⟨s1, s2, s3⟩, h7, ⟨b1, b2, b3⟩, h8, h9, h10⟩ := h
  have row : ∀ a, a ≠ 15 → sameRow M M' a := fun a ha => k.row ha
  exact ⟨h1.t k h9, h2.fr k.e (row _ (by omega)) (row _ (by omega)) (row _ (by omega)), h3, h4, by rw [(row n0 (by omega)).2.2.1]; exact h5, by rw [(row (n0 + 8) (by omega)).2.2.1]; exact h6, ⟨ok_E s1 k.e, (k.e.2.2 _ s1.1).2.trans s2, fun q hq => by rw [(row (n0 + 20) (by omega)).2.2.2.1]; exact s3 q hq⟩, by rw [(row (n0 + 8) (by omega)).2.2.1]; exact h7, ⟨ok_E b1 k.e, (k.e.2.2 _ b1.1).2.trans b2, fun q hq => by rw [(row (n0 + 16) (by omega)).2.2.2.1]; exact b3 q hq⟩, by rw [(row 14 (by decide)).2.2.1]; exact h8, h9, by rw [k.1]; exact h10⟩
theorem CB.c (h : CB n0 sN ro mx vN M N lc rc sg bf) (hP : CirP M' (n0 + 8) lc' rc' N') (k : CirF M M' (n0 + 8) lc rc lc' rc' N N') (hl : N.length ≤ N'.length) : CB n0 sN ro mx vN M' N' lc' rc' sg bf := by
  obtain ⟨h1, h2, h3, h4, h5, h6, ⟨s1, s2, s3⟩, h7, ⟨b1, b2, b3⟩, h8, h9, h10⟩ := h
  obtain ⟨k1, k2, k3, k4, k5, k6, k7, k8, k9⟩ := k
  have row : ∀ a, a < mN M → a ≠ n0 + 8 → a ≠ lc → a ≠ rc → sameRow M M' a := fun a ha q1 q2 q3 => k1.2 a ha (by rintro (z | z | z) <;> first | exact q1 z | exact q2 z | exact q3 z)
  have r20 := row (n0 + 20) (by omega) (by omega) (by omega) (by omega)
  have r16 := row (n0 + 16) (by omega) (by omega) (by omega) (by omega)
  refine ⟨h1.fr k1.1 (fun a q1 q2 => row a (by omega) (by omega) (by omega) (by omega)), hP, by omega, by omega, by rw [(row n0 (by omega) (by omega) (by omega) (by omega)).2.2.1]; exact h5, by rw [k3 13 (by decide) (by decide)]; exact h6, ⟨ok_E s1 k1.1, (k1.1.2.2 _ s1.1).2.trans s2, fun q hq => by rw [r20.2.2.2.1]; exact ⟨(s3 q hq).1, by have := (s3 q hq).2; omega⟩⟩, by rw [k3 8 (by decide) (by decide)]; exact h7, ⟨ok_E b1 k1.1, (k1.1.2.2 _ b1.1).2.trans b2, fun q hq => by rw [r16.2.2.2.1]; exact ⟨(b3 q hq).1, by have := (b3 q hq).2; omega⟩⟩, by rw [(row 14 (by omega) (by omega) (by omega) (by omega)).2.2.1]; exact h8, h9, by omega⟩
theorem TI.c (h : TI b n s M i o) (hC : CB n0 sN ro mx vN M N lc rc sg bf) (k : CirF M M' (n0 + 8) lc rc lc' rc' N N') : TI b n s M' i o := by
  obtain ⟨h1, h2, h3, h4, h5, h6, hs, h7, hb, h8, h9, h10⟩ := hC
  have row : ∀ a, a < 132 → sameRow M M' a := fun a ha => k.1.2 a (by omega) (by rintro (z | z | z) <;> omega)
  have F' : Fix M' := by
    refine h.1.of_fr (S := fun _ => True) k.1.1 (fun e he => ?_) (row 19 (by decide)).2.2.2.2.1
    have := tRS_lt e he
    rw [(row e.1 (by omega)).2.2.1]
  exact h.fr F' (row 15 (by decide)).1 (row 15 (by decide)).2.1 (row 16 (by decide)).2.2.2.1 (row 17 (by decide)).2.2.2.1 (row 18 (by decide)).2.2.2.2.1
theorem TF.c {f : Int32} {p : Nat} (h : TF M f p) (hC : CB n0 sN ro mx vN M N lc rc sg bf) (k : CirF M M' (n0 + 8) lc rc lc' rc' N N') : TF M' f p := by
  obtain ⟨h1, h2, h3, h4, h5, h6, hs, h7, hb, h8, h9, h10⟩ := hC
  have row : ∀ a, a < 132 → sameRow M M' a := fun a ha => k.1.2 a (by omega) (by rintro (z | z | z) <;> omega)
  have F' : Fix M' := by
    refine h.1.of_fr (S := fun _ => True) k.1.1 (fun e he => ?_) (row 19 (by decide)).2.2.2.2.1
    have := tRS_lt e he
    rw [(row e.1 (by omega)).2.2.1]
  exact h.fr F' (row 15 (by decide)).1
def upF (f : Nat → Nat) (k v : Nat) : Nat → Nat := fun j => if j = k then v else f j
theorem CB.w16 {k v : Nat} (h : CB n0 sN ro mx vN M N lc rc sg bf) (hk : k < 16) (hv : v < 2 * N.length) (e : M' = wAI M (n0 + 16) k (Int32.ofNat v)) : CB n0 sN ro mx vN M' N lc rc sg (upF bf k v) ∧ CdF n0 M M' lc rc lc rc N N := by
  obtain ⟨h1, h2, h3, h4, h5, h6, ⟨s1, s2, s3⟩, h7, ⟨b1, b2, b3⟩, h8, h9, h10⟩ := h
  have row : ∀ a, a ≠ n0 + 16 → sameRow M M' a := fun a ha => by rw [e]; exact ⟨rfl, rfl, rfl, up2_row ha, rfl, rfl⟩
  have hE : mE M M' := by rw [e]; exact mE_wAI
  refine ⟨⟨h1.fr hE (fun a q1 q2 => row a (by omega)), h2.fr hE (row _ (by omega)) (row _ (by omega)) (row _ (by omega)), h3, h4, by rw [e]; exact h5, by rw [e]; exact h6, ⟨ok_E s1 hE, (hE.2.2 _ s1.1).2.trans s2, fun q hq => by rw [(row (n0 + 20) (by omega)).2.2.2.1]; exact s3 q hq⟩, by rw [e]; exact h7, ⟨ok_E b1 hE, (hE.2.2 _ b1.1).2.trans b2, fun q hq => ?_⟩, by rw [e]; exact h8, h9, by rw [e]; exact h10⟩, ?_⟩
  · rw [e, mAI_wAI]
    unfold upF
    by_cases z : q = k
    · rw [if_pos ⟨rfl, z⟩, if_pos z]; exact ⟨rfl, hv⟩
    · rw [if_neg (fun y => z y.2), if_neg z]; exact b3 q hq
  · refine ⟨by rw [e]; exact fr_wAI (S := fun c => c = 15 ∨ c = n0 + 8 ∨ c = n0 + 16 ∨ c = lc ∨ c = rc) (Or.inr (Or.inr (Or.inl rfl))), by rw [e]; rfl, fun f _ => by rw [e]; rfl, fun f _ _ => by rw [e]; rfl, by rw [e]; rfl, by rw [e]; exact Nat.le_refl _, by rw [e]; rfl, Or.inl rfl, Or.inl rfl, Nat.le_refl _⟩
/-- the literal of 'pre' of a signal -/
def bfL (N : Nt) (bf : Nat → Nat) (k : Nat) : Nt × (Nat → Nat) × Nat := if bf k = 0 then ((frL N).1, upF bf k (2 * N.length), 2 * N.length) else (N, bf, bf k)
theorem S_beforeOf {k : Nat} (hC : CB n0 sN ro mx vN M N lc rc sg bf) (hT : TI b n s M i o) (hk : k < 16) (hlim : N.length < 100000) (H : ∀ M' lc' rc', TI b n s M' i o → CB n0 sN ro mx vN M' (bfL N bf k).1 lc' rc' sg (bfL N bf k).2.1 → CdF n0 M M' lc rc lc' rc' N (bfL N bf k).1 → Q (some (.int (Int32.ofNat (bfL N bf k).2.2))) M') : E (h + 5) mdX0_beforeOf [.ref (n0 + 8), .int (Int32.ofNat k)] M Q := by
  obtain ⟨h1, h2, h3, h4, h5, h6, hs, h7, ⟨b1, b2, b3⟩, h8, h9, h10⟩ := id hC
  have hm := hT.1.1
  refine KX0_beforeOf ?_
  unfold DX0_beforeOf_0 DX0_beforeOf_19
  have z := z32 (a := bf k) (k := 0) (by have := (b3 k hk).2; omega) (by decide)
  have vp : ∀ {M : Mem}, mL M (n0 + 16) = 16 → vp_in (Int32.ofNat k) (mL M (n0 + 16)) := fun e => by rw [e]; exact vp_of hk (by decide)
  unfold bfL at H
  rw [lt32 (by omega)]
  refine ⟨h2.1, n0 + 16, h7, b1, vp b2, fun q => ?_, fun q => ⟨n0 + 16, h7, S_fresh h2 hlim (fun M1 lc1 rc1 P1 F1 _ => ⟨_, rfl, ?_⟩)⟩⟩
  · rw [(b3 k hk).1] at q
    rw [if_neg (fun y => q (z.mpr y))] at H
    refine ⟨h2.1, n0 + 16, h7, b1, vp b2, ?_⟩
    rw [(b3 k hk).1]
    exact H M lc rc hT hC CdF.rf
  · rw [(b3 k hk).1] at q
    rw [if_pos (z.mp q)] at H
    have hl : N.length ≤ (frL N).1.length := by show _ ≤ (N ++ [_]).length; rw [List.length_append]; exact Nat.le_add_right _ _
    have C1 := hC.c P1 F1 hl
    have T1 := hT.c hC F1
    obtain ⟨-, -, -, -, -, -, -, g7, ⟨g1, g2, g3⟩, -⟩ := id C1
    refine ⟨g1, vp g2, fun M2 e2 => ?_⟩
    have hv : 2 * N.length < 2 * (frL N).1.length := by show _ < 2 * (N ++ [_]).length; rw [List.length_append]; show 2 * N.length < 2 * (N.length + 1); omega
    obtain ⟨C2, D2⟩ := C1.w16 hk hv e2
    have T2 : TI b n s M2 i o := by
      have row : ∀ a, a ≠ n0 + 16 → sameRow M1 M2 a := fun a ha => by rw [e2]; exact ⟨rfl, rfl, rfl, up2_row ha, rfl, rfl⟩
      exact T1.fr (by rw [e2]; exact T1.1.ai) (row 15 (by omega)).1 (row 15 (by omega)).2.1 (row 16 (by omega)).2.2.2.1 (row 17 (by omega)).2.2.2.1 (row 18 (by omega)).2.2.2.2.1
    obtain ⟨q1, q2, q3, q4, q5, q6, qs, q7, ⟨c1, c2, c3⟩, -⟩ := id C2
    refine ⟨q2.1, n0 + 16, q7, c1, vp c2, ?_⟩
    rw [(c3 k hk).1]
    have e3 : upF bf k (2 * N.length) k = 2 * N.length := by unfold upF; rw [if_pos rfl]
    rw [e3]
    exact H M2 lc1 rc1 T2 C2 ((CdF.c F1 h9 ⟨by omega, by omega⟩ (by omega) hl).tr D2)
end
/-- a node of a condition as the class makes it: nets, literals behind pre, the literal of each node -/
def ndL (sg : Nat → Nat) (S : Nt × (Nat → Nat) × List Nat) (d : Cd) : Nt × (Nat → Nat) × List Nat :=
  if d.1 = 0 then (S.1, S.2.1, S.2.2 ++ [sg d.2.1])
  else if d.1 = 1 then ((bfL S.1 S.2.1 d.2.1).1, (bfL S.1 S.2.1 d.2.1).2.1, S.2.2 ++ [(bfL S.1 S.2.1 d.2.1).2.2])
  else if d.1 = 2 then (S.1, S.2.1, S.2.2 ++ [nlt (S.2.2.getD d.2.1 0)])
  else if d.1 = 3 then ((anL S.1 (S.2.2.getD d.2.1 0) (S.2.2.getD d.2.2 0)).1, S.2.1, S.2.2 ++ [(anL S.1 (S.2.2.getD d.2.1 0) (S.2.2.getD d.2.2 0)).2])
  else ((orL S.1 (S.2.2.getD d.2.1 0) (S.2.2.getD d.2.2 0)).1, S.2.1, S.2.2 ++ [(orL S.1 (S.2.2.getD d.2.1 0) (S.2.2.getD d.2.2 0)).2])
def cyL (sg : Nat → Nat) (S : Nt × (Nat → Nat) × List Nat) (Z : List Cd) : Nt × (Nat → Nat) × List Nat := Z.foldl (ndL sg) S
theorem cyL_app {sg : Nat → Nat} {S : Nt × (Nat → Nat) × List Nat} {Z V : List Cd} : cyL sg S (Z ++ V) = cyL sg (cyL sg S Z) V := List.foldl_append
theorem ndL_len {sg : Nat → Nat} {S : Nt × (Nat → Nat) × List Nat} {d : Cd} : S.1.length ≤ (ndL sg S d).1.length ∧ (ndL sg S d).1.length ≤ S.1.length + 1 ∧ (ndL sg S d).2.2.length = S.2.2.length + 1 := by
  unfold ndL
  split
  · exact ⟨Nat.le_refl _, Nat.le_succ _, by rw [List.length_append]; rfl⟩
  · split
    · refine ⟨?_, ?_, by rw [List.length_append]; rfl⟩
      · unfold bfL; split
        · show _ ≤ (S.1 ++ [_]).length; rw [List.length_append]; exact Nat.le_add_right _ _
        · exact Nat.le_refl _
      · unfold bfL; split
        · show (S.1 ++ [_]).length ≤ _; rw [List.length_append]; exact Nat.le_refl _
        · exact Nat.le_succ _
    · split
      · exact ⟨Nat.le_refl _, Nat.le_succ _, by rw [List.length_append]; rfl⟩
      · split
        · exact ⟨anL_len.1, anL_len.2, by rw [List.length_append]; rfl⟩
        · exact ⟨orL_len.1, orL_len.2, by rw [List.length_append]; rfl⟩
theorem cyL_len {sg : Nat → Nat} : ∀ (Z : List Cd) (S : Nt × (Nat → Nat) × List Nat), S.1.length ≤ (cyL sg S Z).1.length ∧ (cyL sg S Z).1.length ≤ S.1.length + Z.length ∧ (cyL sg S Z).2.2.length = S.2.2.length + Z.length := by
  intro Z
  induction Z with
  | nil => intro S; exact ⟨Nat.le_refl _, Nat.le_refl _, rfl⟩
  | cons d Z ih =>
    intro S
    have h1 := @ndL_len sg S d
    have h2 := ih (ndL sg S d)
    show S.1.length ≤ (cyL sg (ndL sg S d) Z).1.length ∧ (cyL sg (ndL sg S d) Z).1.length ≤ S.1.length + (Z.length + 1) ∧ (cyL sg (ndL sg S d) Z).2.2.length = S.2.2.length + (Z.length + 1)
    omega
