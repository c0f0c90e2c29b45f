/-! the reference builds all parts: the whole loop -/
section
variable {m : Nat} {A : Nat → Nat → Int32} {pn pn1 pn2 : Nat → Int32} {S S1 S2 : RBs} {G G1 G2 : Nat → List Nat} {M M1 M2 : Mem} {h : Nat} {Q : Option Value → Mem → Prop} {W : Wo} {zn fn lo hw p p' pb pm pr x y j j' jm g d e q q1 q2 s0 s1 r nc nc1 nc2 : Nat} {cx : List (Option Nat)} {H : Nat → Prop} {k x1 : Int32} {K : List KE} {ds ys dd : List Nat} {L T1 : List (Nat × Nat)}
theorem pk_lf (ho : opnK k = false) (hs : PkS W m zn fn lo hw k K j p pb x ys) : ys = [] := by
  have op : ∀ x : Int32, opnK x = true → k ≠ x := fun x hx z => by rw [z, hx] at ho; exact absurd ho (by decide)
  unfold PkS at hs
  by_cases k38 : k = 38
  · rw [if_pos k38] at hs; exact hs.2
  rw [if_neg k38] at hs
  by_cases k39 : k = 39
  · rw [if_pos k39] at hs; exact hs.2
  rw [if_neg k39] at hs
  by_cases k40 : k = 40
  · rw [if_pos k40] at hs; exact hs.2
  rw [if_neg k40] at hs
  by_cases k41 : k = 41
  · rw [if_pos k41] at hs; exact hs.2
  rw [if_neg k41] at hs
  by_cases k47 : k = 47
  · rw [if_pos k47] at hs; exact hs.2
  rw [if_neg k47] at hs
  by_cases k57 : k = 57
  · rw [if_pos k57] at hs; exact hs.2
  rw [if_neg k57, if_neg (op 42 (by decide)), if_neg (op 44 (by decide)), if_neg (op 58 (by decide)), if_neg (op 49 (by decide)), if_neg (op 50 (by decide)), if_neg (op 52 (by decide)), if_neg (op 53 (by decide)), if_neg (op 55 (by decide)), if_neg (op 17 (by decide))] at hs
  exact hs.2
theorem op_in (ho : opnK k = true) (h17 : k ≠ 17) : (k = 44 ∨ k = 58) ∨ (k = 42 ∨ k = 49 ∨ k = 50 ∨ k = 52 ∨ k = 53 ∨ k = 55) := by
  unfold opnK at ho
  simp only [Bool.or_eq_true, beq_iff_eq] at ho
  rcases ho with ((((((((z | z) | z) | z) | z) | z) | z) | z) | z)
  · exact Or.inr (Or.inl z)
  · exact Or.inl (Or.inl z)
  · exact Or.inr (Or.inr (Or.inl z))
  · exact Or.inr (Or.inr (Or.inr (Or.inl z)))
  · exact Or.inr (Or.inr (Or.inr (Or.inr (Or.inl z))))
  · exact Or.inr (Or.inr (Or.inr (Or.inr (Or.inr (Or.inl z)))))
  · exact Or.inr (Or.inr (Or.inr (Or.inr (Or.inr (Or.inr z)))))
  · exact Or.inl (Or.inr z)
  · exact absurd z h17
/-- rows are ready, the part itself is built -/
theorem b_fin {Z : List (Nat × Nat)} {r' : Nat} (hZ : PdZ W m pn1 S1 G1 Z (j + 1) j') (hX : woP W j 1 = Int32.ofNat x) (o1 : BuO m A M S G pn M1 S1 G1 pn1 (j + 1) j' q1 nc) (hj : j < 40) (hjj : j < j') (hn : ∀ Q' : Option Value → Mem → Prop, KpZ W m zn fn A pn1 M1 S1 G1 S.1 (cxK K) x p p' q2 nc (40 * m + j) Z Q' → E (h + 6) mdX11_nodeOf [.ref 29, .int (Int32.ofNat (40 * m + j))] M1 Q') (hc : S1.1 + q2 ≤ S.1 + csT j j' r r' p p') (C : ∀ M' S' G' pn' ds, BuO m A M S G pn M' S' G' pn' j j' (csT j j' r r' p p') ds.length → PtY W m zn fn pn' S' G' S.1 (cxK K) [(j, x)] p p' ds → PdZ W m pn' S' G' (ds.zip [x]) j j' → bLp h m x1 j M' Q) : bLp h m x1 (j + 1) M1 Q := by
  refine b_step o1.1 hj o1.2.2.2.1.1 hn (fun M2 S2 G2 y2 pn2 a1 a2 a3 a4 a5 aT a6 a7 a8 => C M2 S2 G2 pn2 [y2] ⟨a1, o1.2.1.tr a2, a3, o1.2.2.2.1.tr a4 (fun z _ z2 w => ?_), ⟨by omega, by show _ ≤ _ + 1; have := o1.2.2.2.2.1.2.1; omega, fun z z1 z2 z3 => ?_⟩, fun P hP => ?_⟩ a7 (PdZ.up (hZ.st a4 (fun P q1 q2 => a6 P (by omega))) a8 a7.1.1 hX (a7.2.1 y2 List.mem_cons_self).1.1))
  · have w : 700 * m + S.1 ≤ z := w
    exact absurd w (by omega)
  · by_cases e : z < 700 * m + S1.1
    · have v := (a4.2.1 z (by omega) e).1
      have v80 : S2.2 80 z = S1.2 80 z := congrArg (fun w => w.1) v
      have v81 : S2.2 81 z = S1.2 81 z := congrArg (fun w => w.2.1) v
      rw [v80] at z3
      rw [v81]
      rcases o1.2.2.2.2.1.2.2 z z1 e z3 with w | ⟨P, w1, w2, w3⟩
      · exact Or.inl w
      · exact Or.inr ⟨P, by omega, w2, (a6 P (by omega)).trans w3⟩
    · rcases aT z (by omega) z2 z3 with w | ⟨w1, w2⟩
      · exact Or.inl w
      · exact Or.inr ⟨40 * m + j, by omega, w1, w2⟩
  · rw [a6 P (by omega)]
    exact o1.2.2.2.2.2 P (by omega)
theorem bl_2 (hA : woA W = A) (h4 : m < 4) (ih : BlS W m zn fn lo hw A h x1 Q g) {r' : Nat} (ht : TT W m zn fn lo hw (g + 1) 2 K 0 0 0 0 0 false j j' r r' p p' L) (hj : j' ≤ 40) (hr : r' ≤ 100) (hB : BuM m A pn S M) (hR : RgB m S G) (hf : S.1 + csT j j' r r' p p' ≤ 700) (C : ∀ M' S' G' pn' ds, BuO m A M S G pn M' S' G' pn' j j' (csT j j' r r' p p') ds.length → PtY W m zn fn pn' S' G' S.1 (cxK K) L p p' ds → PdZ W m pn' S' G' (ds.zip (L.map Prod.snd)) j j' → bLp h m x1 j M' Q) : bLp h m x1 j' M Q := by
  have le := TT.le _ _ _ _ _ _ _ _ _ _ _ _ _ _ _ _ (by decide) ht
  have jlt := le.2.2.2 (by decide)
  unfold TT at ht
  rw [if_neg (by decide), if_neg (by decide), if_pos rfl] at ht
  obtain ⟨k, x, ys, pb, ff, eL, ⟨hk, e58, -, -, hX⟩, hs, -, ep, ht⟩ := ht
  subst eL
  rw [hA] at e58 ht
  have hj40 : j < 40 := by omega
  rcases ht with ⟨ko, ej, er, eb, e69⟩ | ⟨k17, e69, T, ey, t3⟩ | ⟨hop, k17, e69, t, jm, rm, pm, y, tp, t0, ht⟩
  · subst ej; subst er; subst eb
    have op : ∀ x : Int32, opnK x = true → k ≠ x := fun x hx z => by rw [z, hx] at ko; exact absurd ko (by decide)
    have hp0 : hpK k = 0 := if_neg (op 53 (by decide))
    rw [hp0] at ep
    subst ep
    have ey := pk_lf ko hs
    subst ey
    have ec : csT j (j + 1) r' r' pb (pb + (paK k - 0)) = 2 + 11 * paK k := by unfold csT; omega
    rw [ec] at hf
    refine b_fin (Z := []) (fun i h1 h2 => absurd h1 (by omega)) hX (r := r') (r' := r') (p' := pb + (paK k - 0)) (q2 := 2 + 11 * paK k) (BuO.rf (q := 0) (nc := 0) hB hR) hj40 jlt (fun Q' C' => B_lf hA hB hR hf hj40 e58 hk ko e69 hs C'.kn) (by rw [ec]; omega) C
  · have hp0 : hpK k = 0 := by rw [k17]; decide
    have pa0 : paK k = 0 := by rw [k17]; decide
    rw [hp0, pa0] at ep
    have ep : p' = pb := ep
    subst ep
    have l3 := TT.le _ _ _ _ _ _ _ _ _ _ _ _ _ _ _ _ (by decide) t3
    unfold csT at hf
    refine ih.2.2 K j r 1 0 0 ff (j + 1) j' (r + 1) r' p p' T M S G pn t3 hj hr hB hR (by unfold csT; omega) (fun M1 S1 G1 pn1 y T1 pm ds d2 eT o1 c1 w1 q1 f1 n1 e75 z1 => ?_)
    subst eT
    unfold csT at c1
    have c1' := o1.2.2.2.2.1.1
    unfold csT at c1'
    unfold PkS at hs
    rw [k17, if_neg (by decide), if_neg (by decide), if_neg (by decide), if_neg (by decide), if_neg (by decide), if_neg (by decide), if_neg (by decide), if_neg (by decide), if_neg (by decide), if_neg (by decide), if_neg (by decide), if_neg (by decide), if_neg (by decide), if_neg (by decide), if_pos rfl] at hs
    subst ey
    have e58' : A 58 (40 * m + j) = 16 := by rw [e58, k17]; decide
    exact b_fin z1 hX (r := r) (r' := r') (q2 := 3 + T1.length) o1 hj40 jlt (fun Q' C' => B_all o1.1 o1.2.2.1 (by omega) hj40 (by omega) e58' e69 e75 (w1 pn1 (fun _ _ _ => rfl)) (q1 pn1 (fun _ _ _ => rfl)) f1 n1 o1.2.2.2.1.1 hs C') (by unfold csT; omega) C
  · have l0 := TT.le _ _ _ _ _ _ _ _ _ _ _ _ _ _ _ _ (by decide) t0
    unfold csT at hf
    rcases ht with ⟨ey, ej, er, eb, e75⟩ | ⟨kc, e75, e75', z, ey, t0'⟩
    · subst ej; subst er; subst eb
      have hpp : hpK k ≤ paK k := by
        unfold hpK
        by_cases k53 : k = 53
        · rw [k53]; decide
        · rw [if_neg k53]; exact Nat.zero_le _
      refine ih.2.1 _ (j + 1) j' (r + 1) r' (p + hpK k) pb y M S G pn t0 hj hr hB hR (by unfold csT; omega) (fun M1 S1 G1 pn1 ds o1 w1 y1 => ?_)
      have c1' := o1.2.2.2.2.1.1
      unfold csT at c1'
      have w1 : RowR W m zn fn lo hw A pn1 S1 G1 S.1 r (cxK ((40 * m + j, r, 1, t) :: K)) y (p + hpK k) pb ds := w1 pn1 (fun _ _ _ => rfl)
      rcases op_in hop k17 with kc | kc
      · obtain ⟨z1, z2, z3, z4, z5⟩ := pa_ch kc
        rw [z1, z2] at ep
        have ep : p' = pb := ep
        subst ep
        rw [cx_k tp, if_neg (by rcases kc with e | e <;> rw [e] <;> decide), if_neg (by rcases kc with e | e <;> rw [e] <;> decide), z2] at w1
        exact b_fin y1 hX (r := r) (r' := r') (q2 := 3) o1 hj40 jlt (fun Q' C' => B_cho (by decide) o1.1 o1.2.2.1 (by omega) hj40 (by omega) e58 kc e69 w1 o1.2.2.2.1.1 hs (Or.inl ⟨e75, ey, rfl, rfl, rfl⟩) C') (by unfold csT; omega) C
      · subst ep
        subst ey
        exact b_fin y1 hX (r := r) (r' := r') (q2 := 3 + 11 * paK k) o1 hj40 jlt (fun Q' C' => B_one hA o1.1 o1.2.2.1 (by omega) hj40 (by omega) e58 kc tp e69 w1 o1.2.2.2.1.1 hs C') (by unfold csT; omega) C
    · obtain ⟨z1, z2, z3, z4, z5⟩ := pa_ch kc
      rw [z1, z2] at ep
      have ep : p' = pb := ep
      subst ep
      have l0' := TT.le _ _ _ _ _ _ _ _ _ _ _ _ _ _ _ _ (by decide) t0'
      refine ih.2.1 _ jm j' (rm + 1) r' pm p' z M S G pn t0' hj hr hB hR (by unfold csT; omega) (fun M1 S1 G1 pn1 ds2 o1 w2 y2 => ?_)
      have c1' := o1.2.2.2.2.1.1
      unfold csT at c1'
      refine ih.2.1 _ (j + 1) jm (r + 1) rm (p + hpK k) pm y M1 S1 G1 pn1 t0 (by omega) (by omega) o1.1 o1.2.2.1 (by unfold csT; omega) (fun M2 S2 G2 pn2 ds o2 w1 y1 => ?_)
      have c2' := o2.2.2.2.2.1.1
      unfold csT at c2'
      have ls : S.1 ≤ S1.1 := o1.2.2.2.1.1
      have w1 : RowR W m zn fn lo hw A pn2 S2 G2 S1.1 r (cxK ((40 * m + j, r, 1, t) :: K)) y (p + hpK k) pm ds := w1 pn2 (fun _ _ _ => rfl)
      rw [cx_k tp, if_neg (by rcases kc with e | e <;> rw [e] <;> decide), if_neg (by rcases kc with e | e <;> rw [e] <;> decide), z2] at w1
      have lt2 : ∀ z ∈ ds2, z < 700 * m + S1.1 := (w2 pn1 (fun _ _ _ => rfl)).lt
      have w2 : RowR W m zn fn lo hw A pn2 S2 G2 S.1 rm (cxK ((40 * m + j, rm, 2, none) :: K)) z pm p' ds2 := w2.st o2.2.2.2.1 (fun P q1 q2 => o2.2.2.2.2.2 P (Or.inr q1)) (Nat.le_refl _) pn2 (fun _ _ _ => rfl)
      rw [cxK_n rfl] at w2
      have o12 := o1.tr o2 l0.1 l0'.1
      exact b_fin (y1.ap (y2.st o2.2.2.2.1 (fun P q1 q2 => o2.2.2.2.2.2 P (Or.inr q1)))) hX (r := r) (r' := r') (q2 := 4) o12 hj40 jlt (fun Q' C' => B_cho (by decide) o2.1 o2.2.2.1 (by omega) hj40 (by omega) e58 kc e69 (w1.less ls) o12.2.2.2.1.1 hs (Or.inr ⟨rm, z, ds2, ⟨by decide, Nat.add_comm _ _, rfl⟩, e75, by omega, ey, w2, fun w hw hw2 => by
        have := w1.ge w hw
        have := lt2 w hw2
        omega⟩) C') (by unfold csT; omega) C
theorem bl_all (hA : woA W = A) (h4 : m < 4) : ∀ g, BlS W m zn fn lo hw A h x1 Q g := by
  intro g
  induction g with
  | zero => exact ⟨fun md K j j' r r' p p' L M S G pn _ ht => by unfold TT at ht; exact ht.elim, fun K j j' r r' p p' y M S G pn ht => by unfold TT at ht; exact ht.elim, fun K a2 a3 a4 c1 c2 fl j j' r r' p p' L M S G pn ht => by unfold TT at ht; exact ht.elim⟩
  | succ g ih =>
    refine ⟨fun md K j j' r r' p p' L M S G pn hm ht hj hr hB hR hf C => ?_, fun K j j' r r' p p' y M S G pn ht hj hr hB hR hf C => bl_0 hA h4 ih ht hj hr hB hR hf C, fun K a2 a3 a4 c1 c2 fl j j' r r' p p' L M S G pn ht hj hr hB hR hf C => bl_3 hA ih ht hj hr hB hR hf C⟩
    rcases hm with e | e
    · subst e; exact bl_1 h4 ih ht hj hr hB hR hf C
    · subst e; exact bl_2 hA h4 ih ht hj hr hB hR hf C
end
