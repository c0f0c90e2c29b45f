/-! tasks of parts: leaves and heads -/
section
variable {b : Nat → Int32} {n m : Nat} {τ : Td} {j i o f1 f2 fo x aw lit y : Nat} {k : Int32} {w : Int64} {K : List KE} {σ σ1 σ2 : PS}
theorem so14 (h : Int32.ofNat (soK k) = 14) : k = 58 := by
  unfold soK at h
  by_cases k0 : k = 37
  · rw [if_pos k0] at h; exact absurd h (by decide)
  rw [if_neg k0] at h
  by_cases k1 : k = 38
  · rw [if_pos k1] at h; exact absurd h (by decide)
  rw [if_neg k1] at h
  by_cases k2 : k = 39
  · rw [if_pos k2] at h; exact absurd h (by decide)
  rw [if_neg k2] at h
  by_cases k3 : k = 40
  · rw [if_pos k3] at h; exact absurd h (by decide)
  rw [if_neg k3] at h
  by_cases k4 : k = 41
  · rw [if_pos k4] at h; exact absurd h (by decide)
  rw [if_neg k4] at h
  by_cases k5 : k = 42
  · rw [if_pos k5] at h; exact absurd h (by decide)
  rw [if_neg k5] at h
  by_cases k6 : k = 44
  · rw [if_pos k6] at h; exact absurd h (by decide)
  rw [if_neg k6] at h
  by_cases k7 : k = 47
  · rw [if_pos k7] at h; exact absurd h (by decide)
  rw [if_neg k7] at h
  by_cases k8 : k = 49
  · rw [if_pos k8] at h; exact absurd h (by decide)
  rw [if_neg k8] at h
  by_cases k9 : k = 50
  · rw [if_pos k9] at h; exact absurd h (by decide)
  rw [if_neg k9] at h
  by_cases k10 : k = 52
  · rw [if_pos k10] at h; exact absurd h (by decide)
  rw [if_neg k10] at h
  by_cases k11 : k = 53
  · rw [if_pos k11] at h; exact absurd h (by decide)
  rw [if_neg k11] at h
  by_cases k12 : k = 55
  · rw [if_pos k12] at h; exact absurd h (by decide)
  rw [if_neg k12] at h
  by_cases k13 : k = 57
  · rw [if_pos k13] at h; exact absurd h (by decide)
  rw [if_neg k13] at h
  by_cases k14 : k = 58
  · exact k14
  rw [if_neg k14] at h
  by_cases k15 : k = 2
  · rw [if_pos k15] at h; exact absurd h (by decide)
  rw [if_neg k15] at h
  by_cases k16 : k = 17
  · rw [if_pos k16] at h; exact absurd h (by decide)
  rw [if_neg k16] at h
  exact absurd h (by decide)
theorem so3 (h : Int32.ofNat (soK k) = 3) : k = 40 := by
  unfold soK at h
  by_cases k0 : k = 37
  · rw [if_pos k0] at h; exact absurd h (by decide)
  rw [if_neg k0] at h
  by_cases k1 : k = 38
  · rw [if_pos k1] at h; exact absurd h (by decide)
  rw [if_neg k1] at h
  by_cases k2 : k = 39
  · rw [if_pos k2] at h; exact absurd h (by decide)
  rw [if_neg k2] at h
  by_cases k3 : k = 40
  · exact k3
  rw [if_neg k3] at h
  by_cases k4 : k = 41
  · rw [if_pos k4] at h; exact absurd h (by decide)
  rw [if_neg k4] at h
  by_cases k5 : k = 42
  · rw [if_pos k5] at h; exact absurd h (by decide)
  rw [if_neg k5] at h
  by_cases k6 : k = 44
  · rw [if_pos k6] at h; exact absurd h (by decide)
  rw [if_neg k6] at h
  by_cases k7 : k = 47
  · rw [if_pos k7] at h; exact absurd h (by decide)
  rw [if_neg k7] at h
  by_cases k8 : k = 49
  · rw [if_pos k8] at h; exact absurd h (by decide)
  rw [if_neg k8] at h
  by_cases k9 : k = 50
  · rw [if_pos k9] at h; exact absurd h (by decide)
  rw [if_neg k9] at h
  by_cases k10 : k = 52
  · rw [if_pos k10] at h; exact absurd h (by decide)
  rw [if_neg k10] at h
  by_cases k11 : k = 53
  · rw [if_pos k11] at h; exact absurd h (by decide)
  rw [if_neg k11] at h
  by_cases k12 : k = 55
  · rw [if_pos k12] at h; exact absurd h (by decide)
  rw [if_neg k12] at h
  by_cases k13 : k = 57
  · rw [if_pos k13] at h; exact absurd h (by decide)
  rw [if_neg k13] at h
  by_cases k14 : k = 58
  · rw [if_pos k14] at h; exact absurd h (by decide)
  rw [if_neg k14] at h
  by_cases k15 : k = 2
  · rw [if_pos k15] at h; exact absurd h (by decide)
  rw [if_neg k15] at h
  by_cases k16 : k = 17
  · rw [if_pos k16] at h; exact absurd h (by decide)
  rw [if_neg k16] at h
  exact absurd h (by decide)
theorem su_y (hB : By b) (hv : HvT τ) (ho : o ≤ 15) {r : Nat × PS} (e : suM b n m τ j f1 f2 fo i o σ = .ok r) : ∃ Y, 0 < Y.length ∧ GdS (σ.2.2.1 ++ Y) 40 Y.length σ.2.2.1.length [] [σ.2.2.1.length + Y.length - 1] ∧ r.2.2.2.1 = σ.2.2.1 ++ Y ∧ coS r.2 = coS σ ++ (cdL Y ++ [0]) ∧ r.2.1.1 = σ.1.1 ∧ r.2.1.2.1 = up2 (up2 σ.1.2.1 f1 (40 * m + j) (Int32.ofNat (810 * m + σ.2.2.1.length))) f2 (40 * m + j) (Int32.ofNat (810 * m + (σ.2.2.1.length + Y.length - 1))) ∧ r.2.2.1.1 = up2 σ.2.1.1 j fo (Int32.ofNat (coS σ).length) := by
  unfold suM at e
  obtain ⟨q, e1, e⟩ := bind_ok e
  cases e
  obtain ⟨Y, eY, -⟩ := rd_us (by have := hv.1; omega) _ _ _ _ _ _ _ e1
  obtain ⟨a1, a2⟩ := (rd_gd hB hv.1 hv.2 _ _ _ _ _ _ _ ho e1).1 (Or.inr (Or.inr rfl))
  have a3 := a2 []
  have lY : q.2.1.length = σ.2.2.1.length + Y.length := by rw [eY, List.length_append]
  rw [lY, Nat.add_sub_cancel_left, eY] at a3
  refine ⟨Y, by omega, GdS.mo ?_ _ _ _ _ a3, eY, ?_, rfl, ?_, rfl⟩
  · show 0 + (33 - 2 * o) ≤ 40
    omega
  · show σ.2.1.2.2.2.2.2.1 ++ cdL (q.2.1.drop σ.2.2.1.length) ++ [0] = _
    rw [eY, List.drop_left, List.append_assoc]
    rfl
  · show up2 (up2 σ.1.2.1 f1 (40 * m + j) (Int32.ofNat (810 * m + σ.2.2.1.length))) f2 (40 * m + j) (Int32.ofNat (810 * m + (q.2.1.length - 1))) = _
    rw [lY]
/-- nothing but a target, or a condition -/
def Nv (m j : Nat) (σ σ1 : PS) : Prop := σ1.1.1 = σ.1.1 ∧ (∀ c x, tsC c → (c = 60 → x ≠ 40 * m + j) → σ1.1.2.1 c x = σ.1.2.1 c x) ∧ (∀ i f, 3 ≤ f → σ1.2.1.1 i f = σ.2.1.1 i f) ∧ σ1.2.2.1 = σ.2.2.1 ∧ coS σ1 = coS σ
theorem Nv.rf : Nv m j σ σ := ⟨rfl, fun _ _ _ _ => rfl, fun _ _ _ => rfl, rfl, rfl⟩
theorem Nv.t1 {T : TrT} (h : Nv m j σ σ1) : Nv m j σ (trP1 σ1 T) := h
theorem nv_t1 {T : TrT} {i x : Nat} {r : Nat × PS × Nat} (h : Nv m j σ σ1) (e : (Except.ok (i, trP1 σ1 T, x) : Except (Int32 × Nat) (Nat × PS × Nat)) = .ok r) : Nv m j σ r.2.1 := by
  have e := Except.ok.inj e
  rw [← e]
  exact h.t1
theorem nv_co {r : Nat × PS × Nat} (e : coM b n m τ j i o σ = .ok r) : Nv m y σ r.2.1 := by
  unfold coM at e
  obtain ⟨q, e1, e⟩ := bind_ok e
  cases e
  refine ⟨rfl, fun c x hc _ => ?_, fun _ _ _ => rfl, rfl, rfl⟩
  show up2 (up2 σ.1.2.1 62 _ _) 63 _ _ c x = _
  rw [up2_row (by unfold tsC at hc; omega), up2_row (by unfold tsC at hc; omega)]
theorem nv_at {r : Nat × PS × Nat × Bool} (e : atM b n m τ j i o σ = .ok r) : Nv m y σ r.2.1 := by
  unfold atM at e
  obtain ⟨q, -, e⟩ := bind_ok e
  obtain ⟨t, e1, e⟩ := bind_ok e
  cases e
  have h := nv_co (y := y) e1
  by_cases z : q.2 = true
  · rw [if_pos z] at h
    obtain ⟨a1, a2, a3, a4, a5⟩ := h
    refine ⟨a1, fun c x hc h60 => (a2 c x hc h60).trans ?_, a3, a4, a5⟩
    show up2 σ.1.2.1 61 _ _ c x = _
    rw [up2_row (by unfold tsC at hc; omega)]
  · rw [if_neg z] at h; exact h
/-- what a beginning part is -/
theorem bg_k {pl q d : Nat} {wh : Int32} : TsR m (npS σ) σ (bgP m k pl q d wh σ) ∧ npS (bgP m k pl q d wh σ) = npS σ + 1 ∧ (bgP m k pl q d wh σ).1.1 2 = σ.1.1 2 + (if k = 58 then 1 else 0) ∧ ((bgP m k pl q d wh σ).1.2.1 58 (40 * m + npS σ) = Int32.ofNat (soK k) ∧ (bgP m k pl q d wh σ).1.2.1 60 (40 * m + npS σ) = wh ∧ (bgP m k pl q d wh σ).1.2.1 65 (40 * m + npS σ) = -1) ∧ (bgP m k pl q d wh σ).2.1.1 (npS σ) 3 = 0 := by
  have hl : ∀ (A : Nat → Nat → Int32) (p : Nat) c x, tsC c → lkA p q A c x = A c x := fun A p c x hc => by
    unfold lkA
    unfold tsC at hc
    split
    · rw [up2_row (by omega)]
    · rw [up2_row (by omega)]
  have ha : ∀ c x, tsC c → (bgP m k pl q d wh σ).1.2.1 c x = up2 (up2 (up2 (up2 (up2 (up2 (up2 (up2 (up2 σ.1.2.1 58 (40 * m + npS σ) (Int32.ofNat (soK k))) 59 (40 * m + npS σ) (Int32.ofNat pl)) 60 (40 * m + npS σ) wh) 61 (40 * m + npS σ) 0) 63 (40 * m + npS σ) (-1)) 65 (40 * m + npS σ) (-1)) 67 (40 * m + npS σ) (-1)) 69 (40 * m + npS σ) (-1)) 70 (40 * m + npS σ) (-1) c x := fun c x hc => by
    show bgA (40 * m + npS σ) (soK k) pl q wh σ.1.2.1 c x = _
    unfold bgA
    rw [up2_row (show c ≠ 74 by unfold tsC at hc; omega), hl _ _ _ _ hc]
  refine ⟨⟨fun c hc j hj => ?_, fun j hj f _ => ?_, ⟨[], (List.append_nil _).symm⟩, [], (List.append_nil _).symm⟩, ?_, ?_, ⟨?_, ?_, ?_⟩, ?_⟩
  · rw [ha c _ hc]
    have hn : ∀ c', ¬ (c = c' ∧ 40 * m + j = 40 * m + npS σ) := fun c' z => by omega
    rw [up2_ne (hn _), up2_ne (hn _), up2_ne (hn _), up2_ne (hn _), up2_ne (hn _), up2_ne (hn _), up2_ne (hn _), up2_ne (hn _), up2_ne (hn _)]
  · show va_up σ.2.1.1 (npS σ) _ j f = _
    unfold va_up
    rw [if_neg (show ¬ j = npS σ by omega)]
  · rfl
  · show va_up (va_up (va_up (va_up σ.1.1 0 (σ.1.1 0 + 1)) 1 (σ.1.1 1 + paK k)) 2 (σ.1.1 2 + (if k = 58 then 1 else 0))) 3 (if d + 1 ≤ σ.1.1 3 then σ.1.1 3 else d + 1) 2 = _
    unfold va_up
    rw [if_neg (by decide), if_pos rfl]
  · rw [ha 58 _ (Or.inl rfl), up2_row (by decide), up2_row (by decide), up2_row (by decide), up2_row (by decide), up2_row (by decide), up2_row (by decide), up2_row (by decide), up2_row (by decide), up2_eq]
  · rw [ha 60 _ (Or.inr (Or.inl rfl)), up2_row (by decide), up2_row (by decide), up2_row (by decide), up2_row (by decide), up2_row (by decide), up2_row (by decide), up2_eq]
  · rw [ha 65 _ (Or.inr (Or.inr ⟨by decide, by decide⟩)), up2_row (by decide), up2_row (by decide), up2_row (by decide), up2_eq]
  · show va_up σ.2.1.1 (npS σ) _ (npS σ) 3 = _
    unfold va_up
    rw [if_pos rfl]
    rfl
theorem Nv.ts (h : Nv m j σ σ1) : TsR m j σ σ1 := ⟨fun c hc i hi => h.2.1 c _ hc (fun _ => by omega), fun i _ f hf => h.2.2.1 i f hf, ⟨[], by rw [List.append_nil]; exact h.2.2.2.1⟩, [], by rw [List.append_nil]; exact h.2.2.2.2⟩
/-- an idle part -/
theorem tk_idle {pl q d : Nat} {wh : Int32} (hT : TkI τ m σ) (h : Nv m (npS σ) (bgP m k pl q d wh σ) σ1) (h58 : k ≠ 58) (h2 : k ≠ 2) : TkI τ m σ1 := by
  obtain ⟨a1, a2, a3, ⟨a4, a5, a6⟩, a7⟩ := bg_k (m := m) (k := k) (pl := pl) (q := q) (d := d) (wh := wh) (σ := σ)
  have e58 : σ1.1.2.1 58 (40 * m + npS σ) = Int32.ofNat (soK k) := (h.2.1 58 _ (Or.inl rfl) (fun z => absurd z (by decide))).trans a4
  have e65 : σ1.1.2.1 65 (40 * m + npS σ) = -1 := (h.2.1 65 _ (Or.inr (Or.inr ⟨by decide, by decide⟩)) (fun z => absurd z (by decide))).trans a6
  refine hT.nw (a1.tr h.ts) ?_ ?_ (Or.inl ⟨(h.2.2.1 _ 3 (Nat.le_refl _)).trans a7, ?_, ?_, fun _ => e65⟩)
  · show σ1.1.1 0 = _
    rw [h.1]; exact a2
  · rw [h.1, a3, if_neg h58, e58, if_neg (fun z => h58 (so14 z))]
  · rw [e58]; exact fun z => h58 (so14 z)
  · rw [e58]; exact fun z => h2 (so15 z)
/-- a new sum -/
theorem SuA.nw {A PA : Nat → Nat → Int32} {X Y Z : List Nd} {cs ds : List Int32} {c1 c2 : Nat} (hY : 0 < Y.length) (g : GdS (X ++ Y) 40 Y.length X.length [] [X.length + Y.length - 1]) (e1 : A c1 (40 * m + j) = Int32.ofNat (810 * m + X.length)) (e2 : A c2 (40 * m + j) = Int32.ofNat (810 * m + (X.length + Y.length - 1))) (e3 : PA j fo = Int32.ofNat cs.length) : SuA m A PA (X ++ Y ++ Z) (cs ++ (cdL Y ++ [0]) ++ ds) j c1 c2 fo := by
  refine ⟨X.length, X.length + Y.length - 1, ⟨by omega, by rw [List.length_append, List.length_append]; omega⟩, e1, e2, ?_, cs, ds, e3, ?_⟩
  · have e : X.length + Y.length - 1 + 1 - X.length = Y.length := by omega
    rw [e]
    exact GdS.app _ _ _ _ (by rw [List.length_append]; omega) g
  · have e : X.length + Y.length - 1 + 1 - X.length = Y.length := by omega
    rw [e, List.append_assoc X, List.drop_left, List.take_left, List.append_assoc, List.append_assoc]
    rfl
theorem emM_c {r : Nat × PS × Nat} (hB : By b) (hv : HvT τ) (ho : o ≤ 15) (e : emM b n m τ k j i o σ = .ok r) : Nv m j σ r.2.1 ∨ (k = 40 ∧ ∃ s Y, s < τ.1.length ∧ τ.2.2.1.getD s 0 ≠ 0 ∧ 0 < Y.length ∧ GdS (σ.2.2.1 ++ Y) 40 Y.length σ.2.2.1.length [] [σ.2.2.1.length + Y.length - 1] ∧ r.2.1.2.2.1 = σ.2.2.1 ++ Y ∧ coS r.2.1 = coS σ ++ (cdL Y ++ [0]) ∧ r.2.1.1.1 = σ.1.1 ∧ r.2.1.1.2.1 = up2 (up2 (up2 σ.1.2.1 60 (40 * m + j) (Int32.ofNat s)) 64 (40 * m + j) (Int32.ofNat (810 * m + σ.2.2.1.length))) 65 (40 * m + j) (Int32.ofNat (810 * m + (σ.2.2.1.length + Y.length - 1))) ∧ r.2.1.2.1.1 = up2 (up2 (up2 σ.2.1.1 j 3 1) j 4 (Int32.ofNat s)) j 5 (Int32.ofNat (coS σ).length)) := by
  unfold emM at e
  by_cases h1 : tK b n i = 2
  · rw [if_pos h1] at e
    cases h2 : fd τ.1 (tC b n i) with
    | none => rw [h2] at e; cases e
    | some s =>
      rw [h2] at e
      have e : (if τ.2.1.getD s 0 = 30 then Except.error (4, tP b n i) else (adv' b n i).bind fun i2 => _) = .ok r := e
      by_cases h3 : τ.2.1.getD s 0 = 30
      · rw [if_pos h3] at e; cases e
      rw [if_neg h3] at e
      obtain ⟨i2, -, e⟩ := bind_ok e
      by_cases h4 : τ.2.2.1.getD s 0 = 0
      · rw [if_pos h4] at e
        by_cases h5 : k = 40 ∧ tK b n i2 = 15
        · rw [if_pos h5] at e; cases e
        · rw [if_neg h5] at e; cases e
          refine Or.inl ⟨rfl, fun c x hc h60 => ?_, fun _ _ _ => rfl, rfl, rfl⟩
          show up2 σ.1.2.1 60 (40 * m + j) (Int32.ofNat s) c x = _
          rw [up2_ne (fun z => h60 z.1 z.2)]
      · rw [if_neg h4] at e
        by_cases h5 : k = 40 ∧ tK b n i2 = 15
        · rw [if_pos h5] at e
          by_cases h6 : o = 15
          · rw [if_pos h6] at e; cases e
          rw [if_neg h6] at e
          obtain ⟨i3, -, e⟩ := bind_ok e
          obtain ⟨q, e1, e⟩ := bind_ok e
          obtain ⟨i4, -, e⟩ := bind_ok e
          cases e
          obtain ⟨Y, a1, a2, a3, a4, a5, a6, a7⟩ := su_y hB hv (by omega) e1
          exact Or.inr ⟨h5.1, s, Y, (fd_some h2).1, h4, a1, a2, a3, a4, a5, a6, a7⟩
        · rw [if_neg h5] at e; cases e
  · rw [if_neg h1] at e; cases e
theorem tk_lf {pl q : Nat} (hB : By b) (hv : HvT τ) (hK : K.length ≤ 15) (hw : k = 2 → fd τ.2.2.2.1 w ≠ none) (hop : opnK k = false) {r : Nat × PS × Nat} (e : lfM b n m τ k w (npS σ) i K (bgP m k pl q K.length (whK k w τ) σ) = .ok r) (hT : TkI τ m σ) : TkI τ m r.2.1 := by
  have h58 : k ≠ 58 := fun z => by rw [z] at hop; exact absurd hop (by decide)
  have hbg := bg_k (m := m) (k := k) (pl := pl) (q := q) (d := K.length) (wh := whK k w τ) (σ := σ)
  have hid : k ≠ 2 → Nv m (npS σ) (bgP m k pl q K.length (whK k w τ) σ) r.2.1 → TkI τ m r.2.1 := fun h2 h => tk_idle hT h h58 h2
  have hemi : ∀ {u : Nat × PS × Nat}, k ≠ 2 → emM b n m τ k (npS σ) i K.length (bgP m k pl q K.length (whK k w τ) σ) = .ok u → (∃ T, r.2.1 = trP1 u.2.1 T) → TkI τ m r.2.1 := fun {u} h2 e1 ⟨T, er⟩ => by
    rcases emM_c hB hv hK e1 with hh | ⟨k40, s, Y, s1, s2, a1, a2, a3, a4, a5, a6, a7⟩
    · exact hid h2 (by rw [er]; exact hh.t1)
    · obtain ⟨b1, b2, b3, ⟨b4, b5, b6⟩, b7⟩ := hbg
      rw [er]
      generalize bgP m k pl q K.length (whK k w τ) σ = s0 at *
      have t1 : TsR m (npS σ) s0 (trP1 u.2.1 T) := by
        refine ⟨fun c hc j hj => ?_, fun j hj f _ => ?_, ⟨Y, a3⟩, _, a4⟩
        · show u.2.1.1.2.1 c (40 * m + j) = _
          rw [a6, up2_ne (fun z => by omega), up2_ne (fun z => by omega), up2_ne (fun z => by omega)]
        · show u.2.1.2.1.1 j f = _
          rw [a7, up2_ne (fun z => by omega), up2_ne (fun z => by omega), up2_ne (fun z => by omega)]
      have c58 : (trP1 u.2.1 T).1.2.1 58 (40 * m + npS σ) = 3 := by
        show u.2.1.1.2.1 58 (40 * m + npS σ) = _
        rw [a6, up2_row (by decide), up2_row (by decide), up2_row (by decide), b4, k40]
        decide
      refine hT.nw (b1.tr t1) ?_ ?_ (Or.inr (Or.inl ⟨?_, c58, ⟨s, s1, s2, ?_, ?_⟩, ?_⟩))
      · show u.2.1.1.1 0 = _
        rw [a5]; exact b2
      · rw [c58]
        show u.2.1.1.1 2 = _
        rw [a5, b3, if_neg h58]
        rfl
      · show u.2.1.2.1.1 (npS σ) 3 = _
        rw [a7, up2_ne (fun z => by omega), up2_ne (fun z => by omega), up2_eq]
      · show u.2.1.1.2.1 60 (40 * m + npS σ) = _
        rw [a6, up2_row (by decide), up2_row (by decide), up2_eq]
      · show u.2.1.2.1.1 (npS σ) 4 = _
        rw [a7, up2_ne (fun z => by omega), up2_eq]
      · have eX : (trP1 u.2.1 T).2.2.1 = s0.2.2.1 ++ Y ++ [] := by rw [List.append_nil]; exact a3
        have eC : coS (trP1 u.2.1 T) = coS s0 ++ (cdL Y ++ [0]) ++ [] := by rw [List.append_nil]; exact a4
        rw [eX, eC]
        refine SuA.nw a1 a2 ?_ ?_ ?_
        · show u.2.1.1.2.1 64 (40 * m + npS σ) = _
          rw [a6, up2_row (by decide), up2_eq]
        · show u.2.1.1.2.1 65 (40 * m + npS σ) = _
          rw [a6, up2_eq]
        · show u.2.1.2.1.1 (npS σ) 5 = _
          rw [a7, up2_eq]
  unfold lfM at e
  by_cases k1 : k = 38
  · rw [if_pos k1] at e; exact hid (by rw [k1]; decide) (nv_t1 Nv.rf e)
  rw [if_neg k1] at e
  by_cases k2 : k = 39
  · rw [if_pos k2] at e; exact hid (by rw [k2]; decide) (nv_t1 Nv.rf e)
  rw [if_neg k2] at e
  by_cases k3 : k = 40
  · rw [if_pos k3] at e
    obtain ⟨u, e1, e⟩ := bind_ok e
    rw [← k3] at e1
    refine hemi (by rw [k3]; decide) e1 ?_
    have e := Except.ok.inj e
    rw [← e]
    exact ⟨_, rfl⟩
  rw [if_neg k3] at e
  by_cases k4 : k = 41
  · rw [if_pos k4] at e
    obtain ⟨u, e1, e⟩ := bind_ok e
    rw [← k4] at e1
    refine hemi (by rw [k4]; decide) e1 ?_
    have e := Except.ok.inj e
    rw [← e]
    exact ⟨_, rfl⟩
  rw [if_neg k4] at e
  by_cases k5 : k = 47
  · rw [if_pos k5] at e
    obtain ⟨u, e1, e⟩ := bind_ok e
    exact hid (by rw [k5]; decide) (nv_t1 (nv_at e1) e)
  rw [if_neg k5] at e
  by_cases k6 : k = 57
  · rw [if_pos k6] at e
    by_cases h1 : tK b n i = 2
    · rw [if_pos h1] at e
      cases h2 : trW K (tC b n i) with
      | none => rw [h2] at e; cases e
      | some t =>
        rw [h2] at e
        obtain ⟨i2, -, e⟩ := bind_ok e
        refine hid (by rw [k6]; decide) (nv_t1 (σ1 := raP (bgP m k pl q K.length (whK k w τ) σ) (up2 (bgP m k pl q K.length (whK k w τ) σ).1.2.1 60 (40 * m + npS σ) (Int32.ofNat t.2))) ⟨rfl, fun c x hc h60 => ?_, fun _ _ _ => rfl, rfl, rfl⟩ e)
        show up2 _ 60 (40 * m + npS σ) (Int32.ofNat t.2) c x = _
        rw [up2_ne (fun z => h60 z.1 z.2)]
    · rw [if_neg h1] at e; cases e
  rw [if_neg k6] at e
  by_cases k7 : k = 2
  · rw [if_pos k7] at e
    obtain ⟨i2, -, e⟩ := bind_ok e
    obtain ⟨u, e1, e⟩ := bind_ok e
    cases hf : fd τ.2.2.2.1 w with
    | none => exact absurd hf (hw k7)
    | some v =>
      have hwh : whK k w τ = Int32.ofNat v := by
        unfold whK
        rw [if_pos k7, hf]
        rfl
      obtain ⟨b1, b2, b3, ⟨b4, b5, b6⟩, b7⟩ := hbg
      have b5 := b5.trans hwh
      rw [hf] at e1
      obtain ⟨Y, a1, a2, a3, a4, a5, a6, a7⟩ := su_y hB hv hK e1
      have e := Except.ok.inj e
      rw [← e]
      show TkI τ m (trP1 u.2 (mkT (trS u.2) 0).1)
      generalize (mkT (trS u.2) 0).1 = T
      generalize bgP m k pl q K.length (whK k w τ) σ = s0 at *
      have a3 : u.2.2.2.1 = s0.2.2.1 ++ Y := a3
      have a2 : GdS (s0.2.2.1 ++ Y) 40 Y.length s0.2.2.1.length [] [s0.2.2.1.length + Y.length - 1] := a2
      have a4 : coS u.2 = coS s0 ++ (cdL Y ++ [0]) := a4
      have a5 : u.2.1.1 = s0.1.1 := a5
      have a6 : u.2.1.2.1 = up2 (up2 s0.1.2.1 64 (40 * m + npS σ) (Int32.ofNat (810 * m + s0.2.2.1.length))) 65 (40 * m + npS σ) (Int32.ofNat (810 * m + (s0.2.2.1.length + Y.length - 1))) := a6
      have a7 : u.2.2.1.1 = up2 (up2 (up2 s0.2.1.1 (npS σ) 3 2) (npS σ) 4 (Int32.ofNat v)) (npS σ) 5 (Int32.ofNat (coS s0).length) := a7
      have t1 : TsR m (npS σ) s0 (trP1 u.2 T) := by
        refine ⟨fun c hc j hj => ?_, fun j hj f _ => ?_, ⟨Y, a3⟩, _, a4⟩
        · show u.2.1.2.1 c (40 * m + j) = _
          rw [a6, up2_ne (fun z => by omega), up2_ne (fun z => by omega)]
        · show u.2.2.1.1 j f = _
          rw [a7, up2_ne (fun z => by omega), up2_ne (fun z => by omega), up2_ne (fun z => by omega)]
      have c58 : (trP1 u.2 T).1.2.1 58 (40 * m + npS σ) = 15 := by
        show u.2.1.2.1 58 (40 * m + npS σ) = _
        rw [a6, up2_row (by decide), up2_row (by decide), b4, k7]
        decide
      refine hT.nw (b1.tr t1) ?_ ?_ (Or.inr (Or.inr (Or.inl ⟨?_, c58, ⟨v, (fd_some hf).1, ?_, ?_⟩, ?_⟩)))
      · show u.2.1.1 0 = _
        rw [a5]; exact b2
      · rw [c58]
        show u.2.1.1 2 = _
        rw [a5, b3, if_neg h58]
        rfl
      · show u.2.2.1.1 (npS σ) 3 = _
        rw [a7, up2_ne (fun z => by omega), up2_ne (fun z => by omega), up2_eq]
      · show u.2.1.2.1 60 (40 * m + npS σ) = _
        rw [a6, up2_row (by decide), up2_row (by decide)]; exact b5
      · show u.2.2.1.1 (npS σ) 4 = _
        rw [a7, up2_ne (fun z => by omega), up2_eq]
      · have eX : (trP1 u.2 T).2.2.1 = s0.2.2.1 ++ Y ++ [] := by rw [List.append_nil]; exact a3
        have eC : coS (trP1 u.2 T) = coS s0 ++ (cdL Y ++ [0]) ++ [] := by rw [List.append_nil]; exact a4
        rw [eX, eC]
        refine SuA.nw a1 a2 ?_ ?_ ?_
        · show u.2.1.2.1 64 (40 * m + npS σ) = _
          rw [a6, up2_row (by decide), up2_eq]
        · show u.2.1.2.1 65 (40 * m + npS σ) = _
          rw [a6, up2_eq]
        · show u.2.2.1.1 (npS σ) 5 = _
          rw [a7, up2_eq]
  rw [if_neg k7] at e
  exact hid k7 (nv_t1 Nv.rf e)
theorem tk_hd {pl q : Nat} (hB : By b) (hv : HvT τ) (hK : K.length ≤ 14) (hop : opnK k = true) {r : Nat × PS × Nat × Bool × Nat × Option Int64} (e : hdM b n m τ k (npS σ) i K (bgP m k pl q K.length (whK k w τ) σ) = .ok r) (hT : TkI τ m σ) : TkI τ m r.2.1 := by
  have h2 : k ≠ 2 := fun z => by rw [z] at hop; exact absurd hop (by decide)
  have hbg := bg_k (m := m) (k := k) (pl := pl) (q := q) (d := K.length) (wh := whK k w τ) (σ := σ)
  have hid : k ≠ 58 → Nv m (npS σ) (bgP m k pl q K.length (whK k w τ) σ) r.2.1 → TkI τ m r.2.1 := fun h58 h => tk_idle hT h h58 h2
  unfold hdM at e
  by_cases k1 : k = 44
  · rw [if_pos k1] at e
    obtain ⟨y, e1, e⟩ := bind_ok e
    obtain ⟨i2, -, e⟩ := bind_ok e
    have h := nv_co (y := npS σ) e1
    cases e; exact hid (by rw [k1]; decide) h
  rw [if_neg k1] at e
  by_cases k2 : k = 49
  · rw [if_pos k2] at e; cases e; exact hid (by rw [k2]; decide) Nv.rf
  rw [if_neg k2] at e
  by_cases k3 : k = 50
  · rw [if_pos k3] at e
    obtain ⟨i2, -, e⟩ := bind_ok e
    cases e; exact hid (by rw [k3]; decide) Nv.rf
  rw [if_neg k3] at e
  by_cases k4 : k = 53
  · rw [if_pos k4] at e
    obtain ⟨y, e1, e⟩ := bind_ok e
    obtain ⟨i2, -, e⟩ := bind_ok e
    have h := nv_at (y := npS σ) e1
    cases e; exact hid (by rw [k4]; decide) h
  rw [if_neg k4] at e
  by_cases k5 : k = 55
  · rw [if_pos k5] at e
    by_cases h1 : tK b n i = 2
    · rw [if_pos h1] at e
      by_cases h3 : toT (tC b n i) τ = true ∨ (trW K (tC b n i)).isSome = true
      · rw [if_pos h3] at e; cases e
      rw [if_neg h3] at e
      obtain ⟨i2, -, e⟩ := bind_ok e
      obtain ⟨i3, -, e⟩ := bind_ok e
      cases e; exact hid (by rw [k5]; decide) Nv.rf
    · rw [if_neg h1] at e; cases e
  rw [if_neg k5] at e
  by_cases k6 : k = 58
  · rw [if_pos k6] at e
    obtain ⟨u, e1, e⟩ := bind_ok e
    by_cases h1 : 7 ≤ tK b n u.1 ∧ tK b n u.1 ≤ 12
    · rw [if_pos h1] at e
      obtain ⟨i2, -, e⟩ := bind_ok e
      obtain ⟨v, e2, e⟩ := bind_ok e
      obtain ⟨i3, -, e⟩ := bind_ok e
      obtain ⟨b1, b2, b3, ⟨b4, b5, b6⟩, b7⟩ := hbg
      obtain ⟨Y, a1, a2, a3, a4, a5, a6, a7⟩ := su_y hB hv (by omega) e1
      obtain ⟨V, c1, c2, c3, c4, c5, c6, c7⟩ := su_y hB hv (by omega) e2
      have e := Except.ok.inj e
      rw [← e]
      generalize tK b n u.1 = t at *
      generalize bgP m k pl q K.length (whK k w τ) σ = s0 at *
      have a3 : u.2.2.2.1 = s0.2.2.1 ++ Y := a3
      have a2 : GdS (s0.2.2.1 ++ Y) 40 Y.length s0.2.2.1.length [] [s0.2.2.1.length + Y.length - 1] := a2
      have a4 : coS u.2 = coS s0 ++ (cdL Y ++ [0]) := a4
      have a5 : u.2.1.1 = s0.1.1 := a5
      have a6 : u.2.1.2.1 = up2 (up2 s0.1.2.1 64 (40 * m + npS σ) (Int32.ofNat (810 * m + s0.2.2.1.length))) 65 (40 * m + npS σ) (Int32.ofNat (810 * m + (s0.2.2.1.length + Y.length - 1))) := a6
      have a7 : u.2.2.1.1 = up2 (up2 (up2 s0.2.1.1 (npS σ) 3 3) (npS σ) 4 (Int32.ofNat (s0.1.1 2 - 1))) (npS σ) 5 (Int32.ofNat (coS s0).length) := a7
      have c2 : GdS (u.2.2.2.1 ++ V) 40 V.length u.2.2.2.1.length [] [u.2.2.2.1.length + V.length - 1] := c2
      have c3 : v.2.2.2.1 = u.2.2.2.1 ++ V := c3
      have c4 : coS v.2 = coS u.2 ++ (cdL V ++ [0]) := c4
      have c5 : v.2.1.1 = u.2.1.1 := c5
      have c6 : v.2.1.2.1 = up2 (up2 (up2 u.2.1.2.1 68 (40 * m + npS σ) (t - 7)) 66 (40 * m + npS σ) (Int32.ofNat (810 * m + u.2.2.2.1.length))) 67 (40 * m + npS σ) (Int32.ofNat (810 * m + (u.2.2.2.1.length + V.length - 1))) := c6
      have c7 : v.2.2.1.1 = up2 (up2 u.2.2.1.1 (npS σ) 7 t) (npS σ) 6 (Int32.ofNat (coS u.2).length) := c7
      have hA : ∀ c, c ≠ 64 → c ≠ 65 → c ≠ 66 → c ≠ 67 → c ≠ 68 → v.2.1.2.1 c = s0.1.2.1 c := fun c z1 z2 z3 z4 z5 => by
        rw [c6, up2_row z4, up2_row z3, up2_row z5, a6, up2_row z2, up2_row z1]
      have t1 : TsR m (npS σ) s0 v.2 := by
        refine ⟨fun c hc j hj => ?_, fun j hj f _ => ?_, ⟨Y ++ V, by rw [c3, a3, List.append_assoc]⟩, _, by rw [c4, a4, List.append_assoc]⟩
        · rw [c6, up2_ne (fun z => by omega), up2_ne (fun z => by omega), up2_ne (fun z => by omega), a6, up2_ne (fun z => by omega), up2_ne (fun z => by omega)]
        · rw [c7, up2_ne (fun z => by omega), up2_ne (fun z => by omega), a7, up2_ne (fun z => by omega), up2_ne (fun z => by omega), up2_ne (fun z => by omega)]
      have c58 : v.2.1.2.1 58 (40 * m + npS σ) = 14 := by
        rw [hA 58 (by decide) (by decide) (by decide) (by decide) (by decide), b4, k6]
        decide
      have hN : TkI τ m v.2 := by
        refine hT.nw (b1.tr t1) ?_ ?_ (Or.inr (Or.inr (Or.inr ⟨?_, c58, ?_, ?_, ?_, t, h1, ?_, ?_⟩)))
        · show v.2.1.1 0 = _
          rw [c5, a5]; exact b2
        · rw [c58, if_pos rfl, c5, a5, b3, if_pos k6]
        · rw [c7, up2_ne (fun z => by omega), up2_ne (fun z => by omega), a7, up2_ne (fun z => by omega), up2_ne (fun z => by omega), up2_eq]
        · rw [c7, up2_ne (fun z => by omega), up2_ne (fun z => by omega), a7, up2_ne (fun z => by omega), up2_eq, b3, if_pos k6, Nat.add_sub_cancel, hT.2, ifU_cg (fun i hi => ((b1.tr t1).1 58 (Or.inl rfl) i hi).symm)]
        · have eX : v.2.2.2.1 = s0.2.2.1 ++ Y ++ V := by rw [c3, a3]
          have eC : coS v.2 = coS s0 ++ (cdL Y ++ [0]) ++ (cdL V ++ [0]) := by rw [c4, a4]
          rw [eX, eC]
          refine SuA.nw a1 a2 ?_ ?_ ?_
          · rw [c6, up2_row (by decide), up2_row (by decide), up2_row (by decide), a6, up2_row (by decide), up2_eq]
          · rw [c6, up2_row (by decide), up2_row (by decide), up2_row (by decide), a6, up2_eq]
          · rw [c7, up2_ne (fun z => by omega), up2_ne (fun z => by omega), a7, up2_eq]
        · have eX : v.2.2.2.1 = u.2.2.2.1 ++ V ++ [] := by rw [List.append_nil]; exact c3
          have eC : coS v.2 = coS u.2 ++ (cdL V ++ [0]) ++ [] := by rw [List.append_nil]; exact c4
          rw [eX, eC]
          refine SuA.nw c1 c2 ?_ ?_ ?_
          · rw [c6, up2_row (by decide), up2_eq]
          · rw [c6, up2_eq]
          · rw [c7, up2_eq]
        · rw [c7, up2_ne (fun z => by omega), up2_eq]
        · rw [c6, up2_row (by decide), up2_row (by decide), up2_eq]
      exact hN
    · rw [if_neg h1] at e; cases e
  rw [if_neg k6] at e
  by_cases k7 : k = 17
  · rw [if_pos k7] at e
    cases e; exact hid k6 Nv.rf.t1
  rw [if_neg k7] at e
  cases e; exact hid k6 Nv.rf
end
