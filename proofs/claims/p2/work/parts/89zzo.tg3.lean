/-! the tree as lists: hanging -/
theorem gl_eq : ∀ (l : List Nat) (d : Nat), l ≠ [] → l.getLastD d = l.getD (l.length - 1) 0 := by
  intro l
  induction l with
  | nil => intro d h; exact absurd rfl h
  | cons y r ih =>
    intro d _
    rw [List.getLastD_cons]
    cases r with
    | nil => rfl
    | cons z q => rw [ih y (by simp)]; rfl
theorem gl_mem {l : List Nat} (h : l ≠ []) : l.getLastD 0 ∈ l := by
  cases l with
  | nil => exact absurd rfl h
  | cons y r => rw [List.getLastD_cons]; exact List.getLastD_mem_cons
theorem gd_mem {l : List Nat} {i : Nat} (hi : i < l.length) : l.getD i 0 ∈ l := by
  rw [List.getD_eq_getElem?_getD, List.getElem?_eq_getElem hi]
  exact List.getElem_mem hi
theorem gd_inj {l : List Nat} (hn : l.Nodup) {i j : Nat} (hi : i < l.length) (hj : j < l.length) (e : l.getD i 0 = l.getD j 0) : i = j := by
  rw [List.getD_eq_getElem?_getD, List.getElem?_eq_getElem hi, List.getD_eq_getElem?_getD, List.getElem?_eq_getElem hj] at e
  have pw := List.pairwise_iff_getElem.mp hn
  have e : l[i] = l[j] := e
  rcases Nat.lt_trichotomy i j with z | z | z
  · exact absurd e (pw i j hi hj z)
  · exact z
  · exact absurd e.symm (pw j i hj hi z)
section
variable {Θ Θ1 Θ2 : TrT} {G G1 G2 : Nat → List Nat} {O H O1 H1 : Nat → Prop} {x a c v : Nat} {k l : Int32} {A : Nat → Nat → Int32}
theorem hgA_is (hne : a ≠ c) : (∀ q y, q ≠ 6 → q ≠ 7 → q ≠ 8 → q ≠ 9 → q ≠ 12 → q ≠ 13 → hgA A a c q y = A q y) ∧ (∀ y, hgA A a c 12 y = if y = a then A 12 a ||| A 12 c else A 12 y) ∧ (∀ y, hgA A a c 13 y = if y = a then aoT (A 5 a) (A 13 a) (A 13 c) (A 6 a = 0) else A 13 y) ∧ (∀ y, hgA A a c 9 y = if y = c then Int32.ofNat a else A 9 y) ∧ (∀ y, hgA A a c 6 y = if y = a ∧ A 6 a = 0 then Int32.ofNat c else A 6 y) ∧ (∀ y, hgA A a c 7 y = if y = a then Int32.ofNat c else A 7 y) ∧ (∀ y, hgA A a c 8 y = if ¬ A 6 a = 0 ∧ y = (A 7 a).toNatClampNeg then Int32.ofNat c else A 8 y) := by
  unfold hgA
  by_cases z : A 6 a = 0
  · rw [if_pos z]
    refine ⟨fun q y h6 h7 h8 h9 h12 h13 => ?_, fun y => ?_, fun y => ?_, fun y => ?_, fun y => ?_, fun y => ?_, fun y => ?_⟩
    · rw [up2_ne (fun w => h7 w.1), up2_ne (fun w => h6 w.1), up2_ne (fun w => h9 w.1), up2_ne (fun w => h12 w.1), up2_ne (fun w => h13 w.1)]
    · simp only [up2]; by_cases w : y = a <;> simp [w]
    · simp only [up2]; by_cases w : y = a <;> simp [w]
    · simp only [up2]; by_cases w : y = c <;> simp [w]
    · simp only [up2]; by_cases w : y = a <;> simp [w, z]
    · simp only [up2]; by_cases w : y = a <;> simp [w]
    · simp [up2, z]
  · rw [if_neg z]
    refine ⟨fun q y h6 h7 h8 h9 h12 h13 => ?_, fun y => ?_, fun y => ?_, fun y => ?_, fun y => ?_, fun y => ?_, fun y => ?_⟩
    · rw [up2_ne (fun w => h7 w.1), up2_ne (fun w => h8 w.1), up2_ne (fun w => h9 w.1), up2_ne (fun w => h12 w.1), up2_ne (fun w => h13 w.1)]
    · simp only [up2]; by_cases w : y = a <;> simp [w]
    · simp only [up2]; by_cases w : y = a <;> simp [w]
    · simp only [up2]; by_cases w : y = c <;> simp [w]
    · simp [up2, z]
    · simp only [up2]; by_cases w : y = a <;> simp [w]
    · simp only [up2]; by_cases w : y = (A 7 a).toNatClampNeg <;> simp [w, z]
theorem aoG_app {z : Int32} {r : List Int32} {d : Int32} : aoG k z (r ++ [d]) = aoT k (aoG k z r) d (r = []) := by
  cases r with
  | nil => show aoT k z d True = aoT k z d ([] = []); simp
  | cons y r =>
    show (r ++ [d]).foldl _ _ = _
    rw [List.foldl_append]
    show aoT k _ d False = aoT k _ d (y :: r = [])
    simp [aoG]
theorem TG.hg (hT : TG Θ G) (ha : 1 ≤ a ∧ a < Θ.1) (hc : 1 ≤ c ∧ c < Θ.1) (hne : a ≠ c) (ra : Θ.2.2 9 a = 0) (rc : Θ.2.2 9 c = 0) : TG (hgT Θ a c) (va_up G a (G a ++ [c])) ∧ TE Θ (hgT Θ a c) G (va_up G a (G a ++ [c])) (fun y => y = a) (fun y => y = c) ∧ (hgT Θ a c).1 = Θ.1 ∧ (hgT Θ a c).2.1 = Θ.2.1 := by
  have eT : hgT Θ a c = (Θ.1, Θ.2.1, hgA Θ.2.2 a c) := by unfold hgT; rw [if_neg (by omega)]
  rw [eT]
  obtain ⟨⟨h1, h2⟩, h3, h4⟩ := hT
  obtain ⟨i0, i12, i13, i9, i6, i7, i8⟩ := hgA_is (A := Θ.2.2) hne
  obtain ⟨⟨l6, l7, l8, l9, lz⟩, nd, ch, he, ao⟩ := h3 a ha.1 ha.2
  have nz : ∀ p : Nat, 1 ≤ p → p < 2000 → Int32.ofNat p ≠ 0 := fun p q1 q2 z => by have := nof (q := 0) q2 (by decide) z; omega
  have par : ∀ y d, 1 ≤ y → y < Θ.1 → d ∈ G y → Θ.2.2 9 d = Int32.ofNat y := fun y d q1 q2 q3 => (h3 y q1 q2).1.2.2.2.1 d q3
  have ncl : ∀ y, 1 ≤ y → y < Θ.1 → c ∉ G y := fun y q1 q2 q3 => nz y q1 (by omega) ((par y c q1 q2 q3).symm.trans rc)
  have nal : ∀ y, 1 ≤ y → y < Θ.1 → a ∉ G y := fun y q1 q2 q3 => nz y q1 (by omega) ((par y a q1 q2 q3).symm.trans ra)
  have f6 : Θ.2.2 6 a = 0 ↔ G a = [] := by
    rw [l6]
    cases e : G a with
    | nil => exact ⟨fun _ => rfl, fun _ => rfl⟩
    | cons y r =>
      have := ch y (by rw [e]; exact List.mem_cons_self)
      exact ⟨fun z => absurd z (nz y this.1 (by omega)), fun z => by cases z⟩
  have t7 : G a ≠ [] → (Θ.2.2 7 a).toNatClampNeg = (G a).getLastD 0 := fun hn => by
    rw [l7]
    have := ch _ (gl_mem hn)
    exact lt32 (by omega)
  have n8 : ∀ y, (∀ _ : G a ≠ [], y ≠ (G a).getLastD 0) → hgA Θ.2.2 a c 8 y = Θ.2.2 8 y := fun y hy => by
    rw [i8 y]
    refine if_neg (fun z => ?_)
    have hn : G a ≠ [] := fun w => z.1 (f6.mpr w)
    exact hy hn (by rw [← t7 hn]; exact z.2)
  have c8 : hgA Θ.2.2 a c 8 c = 0 := by
    rw [n8 c (fun hn z => ncl a ha.1 ha.2 (by rw [z]; exact gl_mem hn))]
    exact h4 c hc.1 hc.2 rc
  refine ⟨⟨⟨h1, h2⟩, fun y q1 q2 => ?_, fun d q1 q2 q3 => ?_⟩, ⟨Nat.le_refl _, fun y q1 q2 => ?_⟩, rfl, rfl⟩
  · have q2 : y < Θ.1 := q2
    by_cases w : y = a
    · subst w
      rw [va_up_self]
      refine ⟨⟨?_, ?_, fun i hi => ?_, fun d hd => ?_, fun _ => ?_⟩, ?_, fun d hd => ?_, ?_, ?_⟩
      · show hgA Θ.2.2 y c 6 y = _
        rw [i6 y]
        cases e : G y with
        | nil => rw [if_pos ⟨rfl, f6.mpr e⟩]; rfl
        | cons p r =>
          rw [if_neg (fun z => by have := f6.mp z.2; rw [e] at this; cases this), l6, e]; rfl
      · show hgA Θ.2.2 y c 7 y = _
        rw [i7 y, if_pos rfl]; simp
      · show hgA Θ.2.2 y c 8 _ = _
        rw [List.length_append] at hi
        have hi : i + 1 < (G y).length + 1 := hi
        rw [getD_apN (show i < (G y).length + 1 by omega), getD_apN hi, if_neg (by omega)]
        by_cases z : i + 1 = (G y).length
        · have hn : G y ≠ [] := fun e => by rw [e] at z; cases z
          rw [if_pos z, i8, if_pos]
          refine ⟨fun e => hn (f6.mp e), ?_⟩
          rw [t7 hn, gl_eq _ _ hn]
          congr 1
          omega
        · rw [if_neg z, n8 _ (fun hn e => ?_)]
          · exact l8 i (by omega)
          · rw [gl_eq _ _ hn] at e
            have := gd_inj nd (show i < (G y).length by omega) (show (G y).length - 1 < (G y).length by omega) e
            omega
      · show hgA Θ.2.2 y c 9 d = _
        rw [i9 d]
        rcases List.mem_append.mp hd with z | z
        · have : d ≠ c := fun e => ncl y ha.1 ha.2 (by rw [e] at z; exact z)
          rw [if_neg this]; exact l9 d z
        · rw [List.mem_singleton] at z
          rw [if_pos z]
      · have e : (G y ++ [c]).getLastD 0 = c := by simp
        rw [e]; exact c8
      · rw [List.nodup_append]
        refine ⟨nd, by simp, fun d hd e he => ?_⟩
        rw [List.mem_singleton] at he
        intro z
        exact ncl y ha.1 ha.2 (by rw [← he, ← z]; exact hd)
      · rcases List.mem_append.mp hd with z | z
        · exact ch d z
        · rw [List.mem_singleton] at z; rw [z]; exact hc
      · show hgA Θ.2.2 y c 12 y = heG (heV (hgA Θ.2.2 y c 5 y) (hgA Θ.2.2 y c 11 y)) ((G y ++ [c]).map (hgA Θ.2.2 y c 12))
        have mm : (G y ++ [c]).map (hgA Θ.2.2 y c 12) = (G y).map (Θ.2.2 12) ++ [Θ.2.2 12 c] := by
          rw [List.map_append]
          congr 1
          · exact List.map_congr_left (fun d hd => by rw [i12 d, if_neg (fun (e : d = y) => nal y ha.1 ha.2 (by rw [e] at hd; exact hd))])
          · show [hgA Θ.2.2 y c 12 c] = _
            rw [i12 c, if_neg (fun e => hne e.symm)]
        rw [mm, i12 y, if_pos rfl, i0 5 y (by decide) (by decide) (by decide) (by decide) (by decide) (by decide), i0 11 y (by decide) (by decide) (by decide) (by decide) (by decide) (by decide)]
        unfold heG
        rw [List.foldl_append]
        unfold heG at he
        rw [← he]
        rfl
      · show hgA Θ.2.2 y c 13 y = aoG (hgA Θ.2.2 y c 5 y) (leV (hgA Θ.2.2 y c 5 y) (hgA Θ.2.2 y c 11 y)) ((G y ++ [c]).map (hgA Θ.2.2 y c 13))
        have mm : (G y ++ [c]).map (hgA Θ.2.2 y c 13) = (G y).map (Θ.2.2 13) ++ [Θ.2.2 13 c] := by
          rw [List.map_append]
          congr 1
          · exact List.map_congr_left (fun d hd => by rw [i13 d, if_neg (fun (e : d = y) => nal y ha.1 ha.2 (by rw [e] at hd; exact hd))])
          · show [hgA Θ.2.2 y c 13 c] = _
            rw [i13 c, if_neg (fun e => hne e.symm)]
        rw [mm, i13 y, if_pos rfl, i0 5 y (by decide) (by decide) (by decide) (by decide) (by decide) (by decide), i0 11 y (by decide) (by decide) (by decide) (by decide) (by decide) (by decide), aoG_app, ← ao]
        have fe : (Θ.2.2 6 y = 0) = ((G y).map (Θ.2.2 13) = []) := by rw [List.map_eq_nil_iff]; exact propext f6
        simp only [fe]
    · rw [va_up_ne _ _ w]
      obtain ⟨m1, m2, m3, m4, m5⟩ := h3 y q1 q2
      refine ⟨m1.cg ?_ ?_ (fun d hd => n8 d (fun hn e => ?_)) (fun d hd => ?_), m2, m3, ?_, ?_⟩
      · show hgA Θ.2.2 a c 6 y = _
        rw [i6 y, if_neg (fun z => w z.1)]
      · show hgA Θ.2.2 a c 7 y = _
        rw [i7 y, if_neg w]
      · have e1 := par y d q1 q2 hd
        have e2 := l9 d (by rw [e]; exact gl_mem hn)
        exact w (nof (by omega) (by omega) (e1.symm.trans e2))
      · show hgA Θ.2.2 a c 9 d = _
        rw [i9 d, if_neg (fun (e : d = c) => ncl y q1 q2 (by rw [e] at hd; exact hd))]
      · show hgA Θ.2.2 a c 12 y = heG (heV (hgA Θ.2.2 a c 5 y) (hgA Θ.2.2 a c 11 y)) ((G y).map (hgA Θ.2.2 a c 12))
        rw [i12 y, if_neg w, i0 5 y (by decide) (by decide) (by decide) (by decide) (by decide) (by decide), i0 11 y (by decide) (by decide) (by decide) (by decide) (by decide) (by decide), m4]
        congr 1
        exact List.map_congr_left (fun d hd => by rw [i12 d, if_neg (fun (e : d = a) => nal y q1 q2 (by rw [e] at hd; exact hd))])
      · show hgA Θ.2.2 a c 13 y = aoG (hgA Θ.2.2 a c 5 y) (leV (hgA Θ.2.2 a c 5 y) (hgA Θ.2.2 a c 11 y)) ((G y).map (hgA Θ.2.2 a c 13))
        rw [i13 y, if_neg w, i0 5 y (by decide) (by decide) (by decide) (by decide) (by decide) (by decide), i0 11 y (by decide) (by decide) (by decide) (by decide) (by decide) (by decide), m5]
        congr 1
        exact List.map_congr_left (fun d hd => by rw [i13 d, if_neg (fun (e : d = a) => nal y q1 q2 (by rw [e] at hd; exact hd))])
  · have q2 : d < Θ.1 := q2
    have q3 : hgA Θ.2.2 a c 9 d = 0 := q3
    show hgA Θ.2.2 a c 8 d = 0
    rw [i9 d] at q3
    by_cases w : d = c
    · rw [w]; exact c8
    · rw [if_neg w] at q3
      rw [n8 d (fun hn e => ?_)]
      · exact h4 d q1 q2 q3
      · have e2 := l9 d (by rw [e]; exact gl_mem hn)
        exact nz a ha.1 (by omega) (e2.symm.trans q3)
  · refine ⟨⟨i0 5 y (by decide) (by decide) (by decide) (by decide) (by decide) (by decide), i0 10 y (by decide) (by decide) (by decide) (by decide) (by decide) (by decide), i0 11 y (by decide) (by decide) (by decide) (by decide) (by decide) (by decide)⟩, fun w => ⟨va_up_ne _ _ w, ?_, ?_⟩, fun w => ?_⟩
    · show hgA Θ.2.2 a c 12 y = _
      rw [i12 y, if_neg w]
    · show hgA Θ.2.2 a c 13 y = _
      rw [i13 y, if_neg w]
    · show hgA Θ.2.2 a c 9 y = _
      rw [i9 y, if_neg w]
end
