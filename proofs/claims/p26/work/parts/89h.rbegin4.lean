section
/-! the reference: a part begins, or not -/
theorem nm17 : ∀ x : Fin 17, Int32.ofNat x ≠ -1 := by decide
section
variable {b : Nat → Int32} {n s m : Nat} {τ : Td} {K : List KE} {σ : PS} {M M' : Mem} {i o h : Nat} {Q : Option Value → Mem → Prop}
theorem beg131 {q : Nat} (hR : RPs b n s m τ K σ M i o) (hB : By b) (hz : ∀ i, n ≤ i → b i = 0) (hs : i < s) (h1 : tK b n i ≠ 1) (hq : q < 100) (hp : PsOk m σ) (hn : npS σ < 40) (hqq : q < σ.1.1 4) (hso : soK (tK b n i) ≠ 99) (ho' : o + (if opnK (tK b n i) = true then 1 else 0) ≤ 15) (hK : K.length ≤ 15) (hE : EndG b n s m τ K (bgP m (tK b n i) (tP b n i) q K.length (whK (tK b n i) (tC b n i) τ) σ) i (o + (if opnK (tK b n i) = true then 1 else 0)) (npS σ) M Q) : DX11_beginPart_131 (h + 2) 29 (Int32.ofNat q) (Int32.ofNat (soK (tK b n i))) M Q := by
  have F := hR.1.1
  have h4 := hR.1.2.2.2.1
  have m19 := hR.1.2.2.1
  have sf := soK_facts hso
  have d := hR.2.2.2.2.2.1.2.2.2.2.1
  have vm : ∀ {N : Mem} {c : Nat}, mL N c = 4 → vp_in (Int32.ofNat m) (mL N c) := fun e => by rw [e]; exact vp_of h4 (by decide)
  have eP : (40 : Int32) * Int32.ofNat m + mAI M 54 m = Int32.ofNat (40 * m + npS σ) := off32 (a := 40) d.1
  unfold DX11_beginPart_131
  rw [m19, lt32 (n := m) (by omega)]
  refine ⟨ok29 F, 54, rf29_34 F, ok54 F, vm (ln54 F), 54, rf29_34 F, ok54 F, vm (ln54 F), vm (ln54 F), fun M6 e6 => ?_⟩
  rw [d.1, succ32] at e6
  have r6 := hR.cn (t := 0) (v := σ.1.1 0 + 1) (by decide)
  rw [← e6] at r6
  have F6 := r6.1.1
  have m6 := r6.1.2.2.1
  have d6 := r6.2.2.2.2.2.1.2.2.2.2.1
  rw [m6, lt32 (n := m) (by omega)]
  refine ⟨55, rf29_35 F6, ok55 F6, vm (ln55 F6), P_pausesOf (h := h) sf.1 (fun _ => ⟨_, rfl, vm (ln55 F6), fun M11 e11 => ?_⟩)⟩
  have u1 : va_up σ.1.1 0 (σ.1.1 0 + 1) 1 = σ.1.1 1 := va_up_ne _ _ (by decide)
  have d61 : mAI M6 55 m = Int32.ofNat (σ.1.1 1) := d6.2.1.trans (congrArg Int32.ofNat u1)
  rw [d61, add32, ← sf.2.2.1] at e11
  have r11 := r6.cn (t := 1) (v := σ.1.1 1 + paK (tK b n i)) (by decide)
  rw [← e11] at r11
  have F11 := r11.1.1
  have m11 := r11.1.2.2.1
  have G11 : RGp m M M11 := by rw [e11, e6]; exact (RGp.cn (t := 0) (by decide)).tr (RGp.cn (t := 1) (by decide))
  have d11 := r11.2.2.2.2.2.1.2.2.2.2.1.2.2.1
  have u2 : va_up (va_up σ.1.1 0 (σ.1.1 0 + 1)) 1 (σ.1.1 1 + paK (tK b n i)) 2 = σ.1.1 2 := (va_up_ne _ _ (by decide)).trans (va_up_ne _ _ (by decide))
  have u3 : va_up (va_up σ.1.1 0 (σ.1.1 0 + 1)) 1 (σ.1.1 1 + paK (tK b n i)) 3 = σ.1.1 3 := (va_up_ne _ _ (by decide)).trans (va_up_ne _ _ (by decide))
  have hx : σ.1.2.1 73 q = -1 ∨ ∃ x, (40 * m ≤ x ∧ x < 160) ∧ σ.1.2.1 74 q = Int32.ofNat x := by
    rcases hp.2.2.2.2 q hqq with w | ⟨x, hx, ex⟩
    · exact Or.inl w
    · exact Or.inr ⟨x, ⟨hx.1, by omega⟩, ex⟩
  have e14 : (Int32.ofNat (soK (tK b n i)) = 14) ↔ tK b n i = 58 := (z32 (a := soK (tK b n i)) (k := 14) (by have := sf.1; omega) (by decide)).trans sf.2.2.2.2.1
  have E11 := hE.pre G11
  have fin : ∀ (v : Nat) (s3 : Int32), Int32.ofNat (σ.1.1 2) + s3 = Int32.ofNat v → v = σ.1.1 2 + (if tK b n i = 58 then 1 else 0) → DX11_beginPart_199 (h + 2) 29 (Int32.ofNat q) (Int32.ofNat (soK (tK b n i))) (Int32.ofNat (40 * m + npS σ)) 56 (Int32.ofNat m) (Int32.ofNat (σ.1.1 2)) s3 M11 Q := by
    intro v s3 hv ev
    have X := beg199 (h := h) (j := npS σ) (s3 := s3) (v := v) (Q := Q) r11 hB hz hs h1 hq hn hso hx ho' hK (by show va_up (va_up σ.1.1 0 (σ.1.1 0 + 1)) 1 (σ.1.1 1 + paK (tK b n i)) 3 ≤ 16; rw [u3]; exact hp.2.2.2.1) (by show Int32.ofNat (va_up (va_up σ.1.1 0 (σ.1.1 0 + 1)) 1 (σ.1.1 1 + paK (tK b n i)) 2) + s3 = _; rw [u2]; exact hv)
    have X2 := X (by
      show EndG b n s m τ K ((va_up (va_up (va_up (va_up σ.1.1 0 (σ.1.1 0 + 1)) 1 (σ.1.1 1 + paK (tK b n i))) 2 v) 3 (if K.length + 1 ≤ va_up (va_up σ.1.1 0 (σ.1.1 0 + 1)) 1 (σ.1.1 1 + paK (tK b n i)) 3 then va_up (va_up σ.1.1 0 (σ.1.1 0 + 1)) 1 (σ.1.1 1 + paK (tK b n i)) 3 else K.length + 1), bgA (40 * m + npS σ) (soK (tK b n i)) (tP b n i) q (whK (tK b n i) (tC b n i) τ) σ.1.2.1, σ.1.2.2), σ.2) i (o + (if opnK (tK b n i) = true then 1 else 0)) (npS σ) M11 Q
      rw [u3, ev]
      exact ⟨fun k1 M' R' G' => E11.1 k1 M' R' G', E11.2⟩)
    have X2 : DX11_beginPart_199 (h + 2) 29 (Int32.ofNat q) (Int32.ofNat (soK (tK b n i))) (Int32.ofNat (40 * m + npS σ)) 56 (Int32.ofNat m) (Int32.ofNat (va_up (va_up σ.1.1 0 (σ.1.1 0 + 1)) 1 (σ.1.1 1 + paK (tK b n i)) 2)) s3 M11 Q := X2
    rw [u2] at X2
    exact X2
  have d11b : mAI M11 56 m = Int32.ofNat (σ.1.1 2) := d11.trans (congrArg Int32.ofNat u2)
  rw [m11, eP, lt32 (n := m) (by omega)]
  refine ⟨56, rf29_36 F11, ok56 F11, vm (ln56 F11), ?_⟩
  rw [d11b]
  refine ⟨fun nn => fin (σ.1.1 2 + 0) 0 (add32 (c := 0)) (by rw [if_neg (fun z => nn (e14.mpr z))]), fun yy => fin (σ.1.1 2 + 1) 1 succ32 (by rw [if_pos (e14.mp yy)])⟩
theorem P_begin {q : Nat} (hR : RPs b n s m τ K σ M i o) (ho : o = K.length) (hB : By b) (hz : ∀ i, n ≤ i → b i = 0) (hS : Sto b n s) (h0 : tK b n i ≠ 0) (hp : PsOk m σ) (hK : K.length ≤ 15) (hqq : q < σ.1.1 4) (hq : q < 100) (Her : ∀ e, okK (tK b n i) (tC b n i) K.length τ σ (tP b n i) = .error e → ∀ M', TXr M' e.1 e.2 → RGp m M M' → Q (some (.int (-1))) M') (Hok : okK (tK b n i) (tC b n i) K.length τ σ (tP b n i) = .ok () → EndG b n s m τ K (bgP m (tK b n i) (tP b n i) q K.length (whK (tK b n i) (tC b n i) τ) σ) i (o + (if opnK (tK b n i) = true then 1 else 0)) (npS σ) M Q) : E (h + 4) mdX11_beginPart [.ref 29, .int (Int32.ofNat q)] M Q := by
  have F := hR.1.1
  have h4 := hR.1.2.2.2.1
  have m19 := hR.1.2.2.1
  have d := hR.2.2.2.2.2.1.2.2.2.2.1
  have tk := hR.tk hB
  have hi := hR.2.1
  have vm : ∀ {N : Mem} {c : Nat}, mL N c = 4 → vp_in (Int32.ofNat m) (mL N c) := fun e => by rw [e]; exact vp_of h4 (by decide)
  -- the checks that count
  have six : ∀ (hso : soK (tK b n i) ≠ 99), ¬ (tK b n i = 2 ∧ fd τ.2.2.2.1 (tC b n i) = none) → DX11_beginPart_65 (h + 3) 29 (Int32.ofNat q) (Int32.ofNat (soK (tK b n i))) M Q := by
    intro hso h2
    have sf := soK_facts hso
    have n1 : tK b n i ≠ 1 := fun z => hso (by rw [z]; exact soK_1)
    have hs := hS.lt hi.2.2 h0 n1
    have bad : (40 ≤ npS σ ∨ 24 < σ.1.1 1 + paK (tK b n i)) ∨ (opnK (tK b n i) = true ∧ K.length = 15) → DX11_beginPart_114 (h + 3) 29 M Q := by
      intro hbad
      unfold DX11_beginPart_114
      refine ⟨ok29 F, P_failsA (h := h + 2) (H2 := fun M' => Q (some (.int (-1))) M') hR hB (by decide) (fun M' T' G' => Her (6, tP b n i) ?_ M' T' G')⟩
      unfold okK
      rw [if_neg h2, if_neg hso]
      by_cases z : 40 ≤ npS σ ∨ 24 < σ.1.1 1 + paK (tK b n i)
      · rw [if_pos z]
      · rw [if_neg z, if_pos (hbad.resolve_left z)]
    have good : ¬ (40 ≤ npS σ ∨ 24 < σ.1.1 1 + paK (tK b n i)) → ¬ (opnK (tK b n i) = true ∧ K.length = 15) → DX11_beginPart_131 (h + 3) 29 (Int32.ofNat q) (Int32.ofNat (soK (tK b n i))) M Q := by
      intro g1 g2
      refine beg131 (h := h + 1) hR hB hz hs n1 hq hp (by omega) hqq hso ?_ hK (Hok ?_)
      · by_cases w : opnK (tK b n i) = true
        · rw [if_pos w]
          have : K.length ≠ 15 := fun z => g2 ⟨w, z⟩
          omega
        · rw [if_neg w]; omega
      · unfold okK
        rw [if_neg h2, if_neg hso, if_neg g1, if_neg g2]
    unfold DX11_beginPart_65
    rw [m19, lt32 (n := m) (by omega)]
    refine ⟨ok29 F, 54, rf29_34 F, ok54 F, vm (ln54 F), ?_⟩
    have h40 := hp.1
    have h24 := hp.2.1
    have c40 : (Int32.ofNat (npS σ) = 40) ↔ npS σ = 40 := z32 (a := npS σ) (k := 40) (by omega) (by decide)
    have hpa : paK (tK b n i) ≤ 3 := by unfold paK; split; omega; split <;> omega
    have c24 : ((24 : Int32) < Int32.ofNat (σ.1.1 1 + paK (tK b n i))) ↔ 24 < σ.1.1 1 + paK (tK b n i) := ltn32 (a := 24) (by decide) (by omega)
    have d0 : mAI M 54 m = Int32.ofNat (npS σ) := d.1
    rw [d0]
    refine ⟨fun y => bad (Or.inl (Or.inl (by have := c40.mp y; omega))), fun nn => ⟨55, rf29_35 F, ok55 F, vm (ln55 F), P_pausesOf (h := h + 1) sf.1 (fun _ => ⟨_, rfl, ?_⟩)⟩⟩
    rw [d.2.1, add32, ← sf.2.2.1]
    refine ⟨fun y => bad (Or.inl (Or.inr (c24.mp y))), fun n24 => P_isOp (h := h + 1) sf.1 (fun y _ => ⟨_, rfl, fun z => absurd z (by decide), fun _ => ?_⟩) (fun y _ => ⟨_, rfl, fun _ => ?_, fun z => absurd rfl z⟩)⟩
    · have yo := sf.2.1.mpr y
      have c15 : (Int32.ofNat o = 15) ↔ o = 15 := z32 (a := o) (k := 15) (by omega) (by decide)
      rw [hR.2.2.2.2.1]
      refine ⟨fun z => good (fun w => ?_) (fun w => z (c15.mpr (ho.trans w.2))), fun z => bad (Or.inr ⟨yo, ho ▸ c15.mp z⟩)⟩
      rcases w with w | w
      · exact nn (c40.mpr (by omega))
      · exact n24 (c24.mpr w)
    · have no : ¬ opnK (tK b n i) = true := fun z => y (sf.2.1.mp z)
      refine good (fun w => ?_) (fun w => no w.1)
      rcases w with w | w
      · exact nn (c40.mpr (by omega))
      · exact n24 (c24.mpr w)
  have n15 : ∀ hso : soK (tK b n i) ≠ 99, soI (tK b n i) = Int32.ofNat (soK (tK b n i)) := fun hso => (soK_facts hso).2.2.2.1
  have neg1 : soI (tK b n i) = -1 → soK (tK b n i) = 99 := fun z => by
    by_cases w : soK (tK b n i) = 99
    · exact w
    · have := (soK_facts w).1
      rw [n15 w] at z
      exact absurd z (nm17 ⟨soK (tK b n i), by omega⟩)
  refine KX11_beginPart ?_
  unfold DX11_beginPart_0
  refine ⟨ok29 F, P_sortOf (h := h) tk (fun _ => ⟨_, rfl, fun nm => ?_, fun ym => ?_⟩)⟩
  · have hso : soK (tK b n i) ≠ 99 := fun z => nm (by unfold soI; rw [if_pos z])
    have sf := soK_facts hso
    rw [n15 hso]
    have e15 : (Int32.ofNat (soK (tK b n i)) = 15) ↔ tK b n i = 2 := (z32 (a := soK (tK b n i)) (k := 15) (by have := sf.1; omega) (by decide)).trans sf.2.2.2.2.2
    refine ⟨fun nn => six hso (fun z => nn (e15.mpr z.1)), fun yy => ⟨33, rf29_4 F, ok33 F, by rw [ln33 F, hR.2.2.1]; exact vp_of (by omega) (by decide), ?_⟩⟩
    have k2 := e15.mp yy
    rw [hR.2.2.1, lt32 (by omega)]
    refine R_varNamed (h := h + 2) F hR.1.2.2 (tk.nm k2) (fun _ => ⟨_, rfl, fun z => six hso (fun w => z (by rw [w.2]; rfl)), fun z => ?_⟩)
    have hnone : fd τ.2.2.2.1 (tC b n i) = none := (oi_none (k := 0) (fun j hj => by have := (fd_some hj).1; have := hR.1.2.2.2.2.1.2.2.2; omega)).mp z
    exact P_failsA (h := h + 2) (H2 := fun M' => Q (some (.int (-1))) M') hR hB (by decide) (fun M' T' G' => Her (4, tP b n i) (by unfold okK; rw [if_pos ⟨k2, hnone⟩]) M' T' G')
  · have z := neg1 ym
    have n2 : ¬ (tK b n i = 2 ∧ fd τ.2.2.2.1 (tC b n i) = none) := fun w => by rw [w.1] at z; exact absurd z (by decide)
    exact P_failsA (h := h + 2) (H2 := fun M' => Q (some (.int (-1))) M') hR hB (by decide) (fun M' T' G' => Her (2, tP b n i) (by unfold okK; rw [if_neg n2, if_pos z]) M' T' G')
end
end
section
/-! the reference: open traps by name -/
theorem NmR.nz {b : Nat → Int32} {n : Nat} {c v : Int64} (h : NmR b n c v) : c ≠ 0 := by
  obtain ⟨p, hW, hc, -⟩ := h
  obtain ⟨a1, -, a3⟩ := WD_v hW
  obtain ⟨w1, w2, w3⟩ := hW
  have hL : 1 ≤ rnE isL b n p - p := by
    unfold rnE
    have := runF_pos (p := isL) (b := b) (k := n - p) (a := p) (by omega) w2
    omega
  obtain ⟨k, hk⟩ : ∃ k, rnE isL b n p - p = k + 1 := ⟨rnE isL b n p - p - 1, by omega⟩
  rw [hc, a1]
  intro z
  have hlt := val_lt (B := 32) (d := lt1 b p) (rnE isL b n p - p) (fun i hi => by have := (a3 i hi).2; omega)
  have hle : 32 ^ (rnE isL b n p - p) ≤ 32 ^ 10 := Nat.pow_le_pow_right (by decide) w3
  have hz := n64_inj (x := val 32 (lt1 b p) (rnE isL b n p - p)) (y := 0) (by have : (32 : Nat) ^ 10 = 1125899906842624 := (by decide); omega) (by decide) z
  rw [hk] at hz a3
  have h0 := (a3 k (by omega)).1
  unfold val at hz
  omega
/-- the open parts: which are traps, and their names -/
def KNm (b : Nat → Int32) (n m : Nat) (σ : PS) (K : List KE) : Prop := ∀ e ∈ K, (40 * m ≤ e.1 ∧ e.1 < 40 * m + npS σ) ∧ ((∃ c, e.2.2.2 = some c ∧ σ.1.2.1 58 e.1 = 12 ∧ NmR b n c (σ.1.2.2 e.1)) ∨ ((e.2.2.2 = none ∨ e.2.2.2 = some 0) ∧ σ.1.2.1 58 e.1 ≠ 12))
theorem KNm.pv {b : Nat → Int32} {n m : Nat} {σ σ' : PS} {K : List KE} (hK : KNm b n m σ K) (k : Pv m (40 * m + npS σ) σ σ') : KNm b n m σ' K := by
  intro e he
  obtain ⟨h1, h2⟩ := hK e he
  have e58 := k.2.2.1 58 (by decide) (by decide) (by decide) e.1 h1.2
  have en := k.2.2.2.1 e.1 h1.2
  have := k.1
  rw [e58, en]
  exact ⟨by omega, h2⟩
theorem rev_mid {l : List Nat} {x : Nat} : ∀ (pre : List Nat), (pre ++ x :: l).reverse.getD l.length 0 = x := by
  intro pre
  rw [List.getD_eq_getElem?_getD, List.reverse_append, List.reverse_cons, List.getElem?_append_left (by simp), List.getElem?_append_right (by simp)]
  simp
section
variable {b : Nat → Int32} {n s m : Nat} {τ : Td} {K : List KE} {σ : PS} {M M' : Mem} {i o h : Nat} {Q : Option Value → Mem → Prop}
def trI (K : List KE) (c : Int64) : Int32 := match trW K c with
  | none => -1
  | some r => Int32.ofNat r.2
theorem trW_n {e : KE} {c : Int64} (hn : e.2.2.2 = none) : trW (e :: K) c = trW K c := by simp only [trW, hn]
theorem trW_s {e : KE} {c x : Int64} (hn : e.2.2.2 = some x) : trW (e :: K) c = if x = c then some (0, e.1) else (trW K c).map (fun r => (r.1 + 1, r.2)) := by simp only [trW, hn]
theorem trI_skip {e : KE} {c : Int64} (hn : e.2.2.2 = none ∨ ∃ x, e.2.2.2 = some x ∧ x ≠ c) : trI (e :: K) c = trI K c := by
  unfold trI
  rcases hn with q | ⟨x, q, hx⟩
  · have : trW (e :: K) c = trW K c := trW_n q
    rw [this]
  · have : trW (e :: K) c = (trW K c).map (fun r => (r.1 + 1, r.2)) := (trW_s q).trans (if_neg hx)
    rw [this]
    cases trW K c <;> rfl
theorem trap_loop {c v : Int64} (hR : RPs b n s m τ K σ M i o) (hK : KNm b n m σ K) (hp : npS σ ≤ 40) (hl : K.length ≤ 15) (hv : NmR b n c v) : ∀ (suf pre : List KE), K = pre ++ suf → Q (some (.int (trI suf c))) M → T (h + 1) mdX11_trapNamed 7 [(0, .ref 29), (1, .long v), (3, .int (Int32.ofNat suf.length - 1))] [] M Q := by
  have F := hR.1.1
  have h4 := hR.1.2.2.2.1
  have d := hR.2.2.2.2.2.1
  intro suf
  induction suf with
  | nil =>
    intro pre hpre H
    refine VX11_trapNamed_7 ?_
    unfold DX11_trapNamed_7
    exact ⟨fun _ => H, fun z => absurd (by decide) z⟩
  | cons e suf ih =>
    intro pre hpre H
    have hlen : suf.length < 15 := by rw [hpre, List.length_append] at hl; have : (e :: suf).length = suf.length + 1 := rfl; omega
    have he : e ∈ K := by rw [hpre]; exact List.mem_append_right _ List.mem_cons_self
    obtain ⟨⟨p1, p2⟩, hk⟩ := hK e he
    have ix : Int32.ofNat (e :: suf).length - 1 = Int32.ofNat suf.length := dec32 (by omega)
    have a76 : mAI M 76 suf.length = Int32.ofNat e.1 := by
      have z := d.2.2.2.2.2.2.1.2 suf.length (by rw [List.length_map, hpre, List.length_append]; show suf.length < pre.length + (suf.length + 1); omega)
      rw [hpre, List.map_append] at z
      have w := rev_mid (x := e.1) (l := suf.map (fun e => e.1)) (pre.map (fun e => e.1))
      rw [List.length_map] at w
      rw [z, Nat.zero_add]
      exact congrArg Int32.ofNat w
    have a58 : mAI M 58 = σ.1.2.1 58 := d.2.2.1 58 (by decide) (by decide) (by decide)
    have a72 : mAJ M 72 = σ.1.2.2 := d.2.2.2.1
    have vp76 : vp_in (Int32.ofNat suf.length) (mL M 76) := by rw [ln76 F]; exact vp_of (by omega) (by decide)
    have vpp : ∀ {c : Nat}, mL M c = 160 → vp_in (Int32.ofNat e.1) (mL M c) := fun z => by rw [z]; exact vp_of (by omega) (by decide)
    have go : trI (e :: suf) c = trI suf c → DX11_trapNamed_50 h 29 v (Int32.ofNat suf.length) M Q := by
      intro z
      unfold DX11_trapNamed_50
      have := ih (pre ++ [e]) (by rw [hpre, List.append_assoc]; rfl) (by rw [← z]; exact H)
      rw [Int32.sub_eq_add_neg] at this
      exact this
    refine VX11_trapNamed_7 ?_
    unfold DX11_trapNamed_7
    rw [ix, lt32 (by omega)]
    refine ⟨fun z => absurd ((ltn32 (b := 0) (by omega) (by decide)).mp z) (by omega), fun _ => ⟨ok29 F, 58, rf29_38 F, 76, rf29_57 F, ok76 F, vp76, ok58 F, ?_⟩⟩
    rw [a76, lt32 (by omega)]
    refine ⟨vpp (ln58 F), ?_⟩
    rw [a58]
    refine ⟨fun n12 => go ?_, fun y12 => ⟨72, rf29_52 F, 76, rf29_57 F, ok76 F, vp76, ok72 F, ?_⟩⟩
    · rcases hk with ⟨c', q1, q2, -⟩ | ⟨q, -⟩
      · exact absurd q2 n12
      · rcases q with q | q
        · exact trI_skip (Or.inl q)
        · exact trI_skip (Or.inr ⟨0, q, fun z => hv.nz z.symm⟩)
    · rw [a76, lt32 (by omega)]
      obtain ⟨c', q1, q2, q3⟩ : ∃ c, e.2.2.2 = some c ∧ σ.1.2.1 58 e.1 = 12 ∧ NmR b n c (σ.1.2.2 e.1) := by
        rcases hk with q | ⟨-, q⟩
        · exact q
        · exact absurd y12 q
      have eqn := q3.eq hv
      refine ⟨vpp (ln72 F), ?_⟩
      rw [a72]
      refine ⟨fun nn => go (trI_skip (Or.inr ⟨c', q1, fun z => nn (lgz.mpr (eqn.mp z))⟩)), fun yy => ⟨76, rf29_57 F, ok76 F, vp76, ?_⟩⟩
      rw [a76]
      have z : c' = c := eqn.mpr (lgz.mp yy)
      have : trI (e :: suf) c = Int32.ofNat e.1 := by
        have w : trW (e :: suf) c = some (0, e.1) := (trW_s q1).trans (if_pos z)
        unfold trI
        rw [w]
      rw [this] at H
      exact H
theorem P_trapNamed {c v : Int64} (hR : RPs b n s m τ K σ M i o) (hK : KNm b n m σ K) (hp : npS σ ≤ 40) (hl : K.length ≤ 15) (hv : NmR b n c v) (H : Q (some (.int (trI K c))) M) : E (h + 1) mdX11_trapNamed [.ref 29, .long v] M Q := by
  have F := hR.1.1
  refine KX11_trapNamed ?_
  unfold DX11_trapNamed_0
  rw [hR.2.2.2.2.2.1.2.2.2.2.2.2.1.1, List.length_map]
  exact ⟨ok29 F, trap_loop (h := h) hR hK hp hl hv K [] rfl H⟩
theorem trI_none {c : Int64} (hK : KNm b n m σ K) (hm : m < 4) (hp : npS σ ≤ 40) : trI K c = -1 ↔ (trW K c).isSome = false := by
  have key : ∀ (K : List KE) (r : Nat × Nat), (∀ e ∈ K, e.1 < 160) → trW K c = some r → r.2 < 160 := by
    intro K
    induction K with
    | nil => intro r _ h; cases h
    | cons e K ih =>
      intro r hb hr
      cases q : e.2.2.2 with
      | none => rw [trW_n q] at hr; exact ih r (fun e' he => hb e' (List.mem_cons_of_mem _ he)) hr
      | some x =>
        rw [trW_s q] at hr
        by_cases z : x = c
        · rw [if_pos z] at hr
          cases hr
          exact hb e List.mem_cons_self
        · rw [if_neg z] at hr
          cases w : trW K c with
          | none => rw [w] at hr; cases hr
          | some r' =>
            rw [w] at hr
            cases hr
            exact ih r' (fun e' he => hb e' (List.mem_cons_of_mem _ he)) w
  unfold trI
  cases w : trW K c with
  | none => exact ⟨fun _ => rfl, fun _ => rfl⟩
  | some r =>
    have hr := key K r (fun e he => by have := (hK e he).1; omega) w
    refine ⟨fun z => ?_, fun z => absurd z (by simp)⟩
    have z : Int32.ofNat r.2 = -1 := z
    have z2 := congrArg Int32.toInt z
    rw [ti32 (by omega)] at z2
    have : (-1 : Int32).toInt = -1 := by decide
    omega
theorem P_isOpenTrap {c v : Int64} (hR : RPs b n s m τ K σ M i o) (hK : KNm b n m σ K) (hp : npS σ ≤ 40) (hl : K.length ≤ 15) (hv : NmR b n c v) (H : Q (some (.int (if (trW K c).isSome = true then 1 else 0))) M) : E (h + 2) mdX11_isOpenTrap [.ref 29, .long v] M Q := by
  have F := hR.1.1
  have tn := trI_none (c := c) hK hR.1.2.2.2.1 hp
  refine KX11_isOpenTrap ?_
  unfold DX11_isOpenTrap_0 DX11_isOpenTrap_14
  refine ⟨ok29 F, P_trapNamed (h := h) hR hK hp hl hv (fun _ => ⟨_, rfl, fun z => ⟨Or.inl rfl, ?_⟩, fun z => ⟨Or.inr rfl, ?_⟩⟩)⟩
  · rw [tn.mp z] at H; exact H
  · cases w : (trW K c).isSome with
    | false => exact absurd (tn.mpr w) z
    | true => rw [w] at H; exact H
end
end
section
/-! the reference: emit and sustain -/
def MxOk (τ : Td) : Prop := ∀ k, τ.2.2.1.getD k 0 = 0 ∨ τ.2.2.1.getD k 0 = 33 ∨ τ.2.2.1.getD k 0 = 34 ∨ τ.2.2.1.getD k 0 = 35
theorem sub30 {x : Int32} : x - 30 = 0 ↔ x = 30 := by
  constructor
  · intro h
    have h2 := congrArg (fun z => z + 30) h
    have h3 : x - 30 + 30 = 0 + 30 := h2
    rw [Int32.sub_add_cancel] at h3
    rw [h3]; decide
  · intro h
    rw [h]; decide
section
variable {b : Nat → Int32} {n s m : Nat} {τ : Td} {K : List KE} {σ : PS} {M M' : Mem} {i o h : Nat} {Q : Option Value → Mem → Prop}
theorem P_failsV {c : Int32} {p : Nat} (hR : RPs b n s m τ K σ M i o) (hc : 0 < c) (H : ∀ M', TXr M' c p → RGp m M M' → Q none M') : E (h + 1) mdX11_fails [.ref 29, .int c, .int (Int32.ofNat p)] M Q := by
  have F := hR.1.1
  refine KX11_fails ?_
  unfold DX11_fails_0 DX11_fails_17
  refine ⟨ok29 F, fun z => absurd hR.2.2.2.1 z, fun _ M2 e2 M3 e3 => H M3 ?_ ?_⟩
  · rw [e3, e2]; exact ⟨F.i.i, by simp [mNwI, mSwI, mKwI, mIwI, mJwI, mRwI, mLwI, mAIwI, mAJwI, mARwI, mNwJ, mSwJ, mKwJ, mIwJ, mJwJ, mRwJ, mLwJ, mAIwJ, mAJwJ, mARwJ, mNwR, mSwR, mKwR, mIwR, mJwR, mRwR, mLwR, mAIwR, mAJwR, mARwR, mNwAI, mSwAI, mKwAI, mIwAI, mJwAI, mRwAI, mLwAI, mAIwAI, mAJwAI, mARwAI, mNwAJ, mSwAJ, mKwAJ, mIwAJ, mJwAJ, mRwAJ, mLwAJ, mAIwAJ, mAJwAJ, mARwAJ, mNwAR, mSwAR, mKwAR, mIwAR, mJwAR, mRwAR, mLwAR, mAIwAR, mAJwAR, mARwAR, okkwI, okkwJ, okkwR, okkwAI, okkwAJ, okkwAR], hc, by simp [mNwI, mSwI, mKwI, mIwI, mJwI, mRwI, mLwI, mAIwI, mAJwI, mARwI, mNwJ, mSwJ, mKwJ, mIwJ, mJwJ, mRwJ, mLwJ, mAIwJ, mAJwJ, mARwJ, mNwR, mSwR, mKwR, mIwR, mJwR, mRwR, mLwR, mAIwR, mAJwR, mARwR, mNwAI, mSwAI, mKwAI, mIwAI, mJwAI, mRwAI, mLwAI, mAIwAI, mAJwAI, mARwAI, mNwAJ, mSwAJ, mKwAJ, mIwAJ, mJwAJ, mRwAJ, mLwAJ, mAIwAJ, mAJwAJ, mARwAJ, mNwAR, mSwAR, mKwAR, mIwAR, mJwAR, mRwAR, mLwAR, mAIwAR, mAJwAR, mARwAR, okkwI, okkwJ, okkwR, okkwAI, okkwAJ, okkwAR]⟩
  · rw [e3, e2]; exact (RG.i (by decide)).tr (RG.i (by decide))
theorem TXr.o33 {f v : Int32} {p : Nat} (hT : TXr M f p) : TXr (wI M 29 33 v) f p := ⟨hT.1.i, by simp [hT.2.1, mNwI, mSwI, mKwI, mIwI, mJwI, mRwI, mLwI, mAIwI, mAJwI, mARwI, mNwJ, mSwJ, mKwJ, mIwJ, mJwJ, mRwJ, mLwJ, mAIwJ, mAJwJ, mARwJ, mNwR, mSwR, mKwR, mIwR, mJwR, mRwR, mLwR, mAIwR, mAJwR, mARwR, mNwAI, mSwAI, mKwAI, mIwAI, mJwAI, mRwAI, mLwAI, mAIwAI, mAJwAI, mARwAI, mNwAJ, mSwAJ, mKwAJ, mIwAJ, mJwAJ, mRwAJ, mLwAJ, mAIwAJ, mAJwAJ, mARwAJ, mNwAR, mSwAR, mKwAR, mIwAR, mJwAR, mRwAR, mLwAR, mAIwAR, mAJwAR, mARwAR, okkwI, okkwJ, okkwR, okkwAI, okkwAJ, okkwAR], hT.2.2.1, by simp [hT.2.2.2, mNwI, mSwI, mKwI, mIwI, mJwI, mRwI, mLwI, mAIwI, mAJwI, mARwI, mNwJ, mSwJ, mKwJ, mIwJ, mJwJ, mRwJ, mLwJ, mAIwJ, mAJwJ, mARwJ, mNwR, mSwR, mKwR, mIwR, mJwR, mRwR, mLwR, mAIwR, mAJwR, mARwR, mNwAI, mSwAI, mKwAI, mIwAI, mJwAI, mRwAI, mLwAI, mAIwAI, mAJwAI, mARwAI, mNwAJ, mSwAJ, mKwAJ, mIwAJ, mJwAJ, mRwAJ, mLwAJ, mAIwAJ, mAJwAJ, mARwAJ, mNwAR, mSwAR, mKwAR, mIwAR, mJwAR, mRwAR, mLwAR, mAIwAR, mAJwAR, mARwAR, okkwI, okkwJ, okkwR, okkwAI, okkwAJ, okkwAR]⟩
theorem X_brack {f x v : Int32} {p : Nat} (hT : TXr M f p) (G : RGp m M' M) (H : ∀ M'', TXr M'' f p → RGp m M' M'' → Q none M'') : E (h + 3) mdX11_sumOf [.ref 29, .int x, .int 0] M (fun r M4 => mE M M4 → r = none ∧ E (h + 3) mdX11_want [.ref 29, .int 3, .long 41] M4 (fun r M5 => mE M4 M5 → r = none ∧ ∀ M6, M6 = wI M5 29 33 ((mI M5 29 33) - 1) → DX11_emitOf_249 (h + 3) M6 Q)) := by
  refine X_sumOf (h := h + 2) hT (fun _ => ⟨rfl, X_want (h := h + 2) hT (fun _ => ⟨rfl, fun M6 e6 => ?_⟩)⟩)
  unfold DX11_emitOf_249
  exact H M6 (by rw [e6]; exact hT.o33) (by rw [e6]; exact G.tr (RG.i (by decide)))
theorem P_emit {k : Int32} {j : Nat} (hR : RPs b n s m τ K σ M i o) (hB : By b) (hz : ∀ i, n ≤ i → b i = 0) (hS : Sto b n s) (h0 : tK b n i ≠ 0) (hj : j < 40) (hM : MxOk τ) (hk : (k = 40 ∧ σ.1.2.1 58 (40 * m + j) = 3) ∨ (k = 41 ∧ σ.1.2.1 58 (40 * m + j) = 4)) (hE : EndQ b n s m τ K o M (fun x => x.1) (fun M' => Q none M') (emM b n m τ k j i o σ)) : E (h + 8) mdX11_emitOf [.ref 29, .int (Int32.ofNat (40 * m + j))] M Q := by
  obtain ⟨c1, c2, c3, c4, c5, c6, c7⟩ := id hR
  have F := c1.1
  have tk := hR.tk hB
  have h4 := c1.2.2.2.1
  have m19 := c1.2.2.1
  obtain ⟨e1, e2, ⟨e3, e3b, e3c, e3d⟩, e4, e5, e6, e7, e8, e9⟩ := c1.2.2
  have l40 := lt40 h4 hj
  have p32 : mAI M 32 i = Int32.ofNat (tP b n i) := (c1.2.1 i c2.2.2).2.1
  have vi : ∀ {N : Mem} {c : Nat}, mL N c = 802 → vp_in (Int32.ofNat i) (mL N c) := fun e => by rw [e]; exact vp_of (by omega) (by decide)
  have zk : ∀ {c : Nat}, 58 ≤ c → c ≤ 72 → szA c * m ≤ 40 * m + j := fun a c => by rw [sz_p a c]; omega
  unfold emM at hE
  -- a fault has been told: nothing more
  have gone : ∀ (N : Mem) (f : Int32) (p : Nat) (x2 : Int32), TXr N f p → Q none N → DX11_emitOf_79 (h + 7) 29 (Int32.ofNat (40 * m + j)) x2 (Int32.ofNat (tP b n i)) N Q := by
    intro N f p x2 T q
    unfold DX11_emitOf_79
    refine ⟨ok29 T.1, fun z => ?_, fun _ => q⟩
    rw [T.2.1] at z
    have := T.2.2.1
    exact absurd (Int32.lt_of_lt_of_le this z) (by decide)
  refine KX11_emitOf ?_
  unfold DX11_emitOf_0
  by_cases hk2 : tK b n i = 2
  · rw [if_pos hk2] at hE
    have hs := hS.lt c2.2.2 h0 (by rw [hk2]; decide)
    refine ⟨ok29 F, K_name (h := h + 5) tk (fun _ _ => ⟨_, rfl, fun z => absurd z (by decide), fun _ => ?_⟩) (fun z => absurd hk2 z)⟩
    rw [c3, lt32 (n := i) (by omega)]
    refine ⟨33, rf29_4 F, ok33 F, vi (ln33 F), R_sigNamed (h := h + 6) F c1.2.2 (tk.nm hk2) (fun _ => ⟨_, rfl, ?_⟩)⟩
    unfold DX11_emitOf_24
    rw [c3, lt32 (n := i) (by omega)]
    refine ⟨ok29 F, 32, rf29_3 F, ok32 F, vi (ln32 F), K_name (h := h + 5) tk (fun _ _ => ⟨_, rfl, fun _ => ?_, fun z => absurd z (by decide)⟩) (fun z => absurd hk2 z)⟩
    rw [p32]
    have f4 : ∀ x2, (∀ M', TXr M' 4 (tP b n i) → RGp m M M' → Q none M') → DX11_emitOf_73 (h + 7) 29 (Int32.ofNat (40 * m + j)) x2 (Int32.ofNat (tP b n i)) M Q := by
      intro x2 H
      unfold DX11_emitOf_73
      exact ⟨ok29 F, P_failsV (h := h + 6) hR (by decide) (fun M' T' G' _ => ⟨rfl, gone M' 4 _ x2 T' (H M' T' G')⟩)⟩
    cases ef : fd τ.1 (tC b n i) with
    | none =>
      rw [ef] at hE
      exact ⟨fun _ => f4 _ (fun M' T' G' => hE M' T' G'), fun z => absurd rfl z⟩
    | some x =>
      rw [ef] at hE
      have hx := (fd_some ef).1
      have hE : EndQ b n s m τ K o M (fun x => x.1) (fun M' => Q none M') (if τ.2.1.getD x 0 = 30 then .error (4, tP b n i) else (adv' b n i).bind fun i2 =>
        if τ.2.2.1.getD x 0 = 0 then (if k = 40 ∧ tK b n i2 = 15 then .error (5, tP b n i) else .ok (i2, raP σ (up2 σ.1.2.1 60 (40 * m + j) (Int32.ofNat x)), x))
        else if k = 40 ∧ tK b n i2 = 15 then (if o = 15 then .error (6, tP b n i2) else (adv' b n i2).bind fun i3 =>
          (suM b n m τ j 64 65 5 i3 (o + 1) (paP (paP (raP σ (up2 σ.1.2.1 60 (40 * m + j) (Int32.ofNat x))) j 3 1) j 4 (Int32.ofNat x))).bind fun r => (ex b n r.1 16).bind fun i4 => .ok (i4, r.2, x))
        else .error (5, tP b n i)) := hE
      rw [show oi (some x) = Int32.ofNat x from rfl]
      have nx : ¬ Int32.ofNat x = -1 := fun z => by
        have z2 := congrArg Int32.toInt z
        rw [ti32 (by omega)] at z2
        have : (-1 : Int32).toInt = -1 := by decide
        omega
      have ex16 : (16 : Int32) * Int32.ofNat m + Int32.ofNat x = Int32.ofNat (16 * m + x) := off32 (a := 16) rfl
      have v64 : ∀ {N : Mem} {c : Nat}, mL N c = 64 → vp_in (Int32.ofNat (16 * m + x)) (mL N c) := fun e => by rw [e]; exact vp_of (by omega) (by decide)
      refine ⟨fun z => absurd z nx, fun _ => ⟨38, rf29_12 F, ok38 F, by rw [m19, ex16]; exact v64 (ln38 F), ?_⟩⟩
      rw [m19, ex16, lt32 (n := 16 * m + x) (by omega), e7 x hx, sub30]
      refine ⟨fun n30 => ?_, fun y30 => ?_⟩
      · rw [if_neg n30] at hE
        unfold DX11_emitOf_79
        rw [l40]
        refine ⟨ok29 F, fun _ => ⟨60, rf29_40 F, ok60 F, ix40 h4 hj (ln60 F), fun M4 e4' => ?_⟩, fun z => absurd (by rw [c4]; decide) z⟩
        have s4 := hR.ra (c := 60) (k := 40 * m + j) (v := Int32.ofNat x) (by decide) (by decide) (by decide) (zk (by decide) (by decide))
        rw [← e4'] at s4
        have F4 := s4.1.1
        have G4 : RGp m M M4 := by rw [e4']; exact RGp.ra (by decide) (by decide) (by decide) (zk (by decide) (by decide))
        have m194 := s4.1.2.2.1
        have e84 := (s4.1.2.2.2.2.2.2.2.2.2.1 x hx).1
        have a58 : mAI M4 58 (40 * m + j) = σ.1.2.1 58 (40 * m + j) := by rw [s4.2.2.2.2.2.1.2.2.1 58 (by decide) (by decide) (by decide)]; simp [raP, up2]
        refine ⟨39, rf29_13 F4, ok39 F4, by rw [m194, ex16]; exact v64 (ln39 F4), ?_⟩
        rw [m194, ex16, lt32 (n := 16 * m + x) (by omega), e84]
        -- behind the name
        have nxt : ∀ (ty : Int32), (ty = 0 ∧ τ.2.2.1.getD x 0 = 0) ∨ (ty = 1 ∧ τ.2.2.1.getD x 0 ≠ 0) → DX11_emitOf_116 (h + 7) 29 (Int32.ofNat (40 * m + j)) (Int32.ofNat (tP b n i)) ty M4 Q := by
          intro ty hty
          unfold DX11_emitOf_116
          refine ⟨ok29 F4, P_take (h := h + 5) s4 hB hz hs (by rw [hk2]; decide) (fun k1 M5 R5 G5 _ => ⟨rfl, fun _ => ?_, fun z => absurd (by rw [R5.2.2.2.1]; decide) z⟩) (fun k1 M5 T5 G5 _ => ⟨rfl, fun z => ?_, fun _ => ?_⟩)⟩
          · rw [adv_ok' k1] at hE
            have hE : EndQ b n s m τ K o M (fun x => x.1) (fun M' => Q none M') (if τ.2.2.1.getD x 0 = 0 then (if k = 40 ∧ tK b n (i + 1) = 15 then .error (5, tP b n i) else .ok (i + 1, raP σ (up2 σ.1.2.1 60 (40 * m + j) (Int32.ofNat x)), x))
              else if k = 40 ∧ tK b n (i + 1) = 15 then (if o = 15 then .error (6, tP b n (i + 1)) else (adv' b n (i + 1)).bind fun i3 =>
                (suM b n m τ j 64 65 5 i3 (o + 1) (paP (paP (raP σ (up2 σ.1.2.1 60 (40 * m + j) (Int32.ofNat x))) j 3 1) j 4 (Int32.ofNat x))).bind fun r => (ex b n r.1 16).bind fun i4 => .ok (i4, r.2, x))
              else .error (5, tP b n i)) := hE
            have F5 := R5.1.1
            have G45 := G4.tr G5
            have a585 : mAI M5 58 (40 * m + j) = σ.1.2.1 58 (40 * m + j) := by rw [R5.2.2.2.2.2.1.2.2.1 58 (by decide) (by decide) (by decide)]; simp [raP, up2]
            rw [l40]
            refine ⟨58, rf29_38 F5, ok58 F5, ix40 h4 hj (ln58 F5), ?_⟩
            rw [a585]
            -- typed and opened: they agree, or not
            have no5 : (∀ M', TXr M' 5 (tP b n i) → RGp m M M' → Q none M') → E (h + 7) mdX11_fails [.ref 29, .int 5, .int (Int32.ofNat (tP b n i))] M5 (fun r M6 => mE M5 M6 → r = none ∧ DX11_emitOf_249 (h + 7) M6 Q) := fun H => P_failsV (h := h + 6) R5 (by decide) (fun M' T' G' _ => ⟨rfl, by unfold DX11_emitOf_249; exact H M' T' (G45.tr G')⟩)
            have cl : ¬ (k = 40 ∧ tK b n (i + 1) = 15) → DX11_emitOf_156 (h + 7) 29 (Int32.ofNat (40 * m + j)) (Int32.ofNat (tP b n i)) ty 0 M5 Q := by
              intro hno
              unfold DX11_emitOf_156 DX11_emitOf_206
              rcases hty with ⟨rfl, q⟩ | ⟨rfl, q⟩
              · rw [if_pos q, if_neg hno] at hE
                refine ⟨fun _ => ⟨fun _ => ⟨fun _ => ?_, fun z => absurd rfl z⟩, fun z => absurd rfl z⟩, fun z => absurd rfl z⟩
                unfold DX11_emitOf_249
                exact hE M5 R5 G45
              · rw [if_neg q, if_neg hno] at hE
                exact ⟨fun z => absurd z (by decide), fun _ => ⟨ok29 F5, no5 (fun M' T' G' => hE M' T' G')⟩⟩
            refine ⟨fun n3 => by unfold DX11_emitOf_155; exact cl (fun z => n3 (by rcases hk with q | q; exact q.2; exact absurd (z.1.symm.trans q.1) (by decide))), fun y3 => ?_⟩
            have k40 : k = 40 := by
              rcases hk with q | q
              · exact q.1
              · rw [q.2] at y3; exact absurd y3 (by decide)
            refine K_sign (h := h + 6) (k := 15) (R5.tk hB) (by decide) (by decide) (fun q15 _ => ⟨_, rfl, fun z => absurd z (by decide), fun _ => ?_⟩) (fun n15 _ => ⟨_, rfl, fun _ => by unfold DX11_emitOf_155; exact cl (fun z => n15 z.2), fun z => absurd rfl z⟩)
            have hop : k = 40 ∧ tK b n (i + 1) = 15 := ⟨k40, q15⟩
            unfold DX11_emitOf_156
            rcases hty with ⟨rfl, q⟩ | ⟨rfl, q⟩
            · rw [if_pos q, if_pos hop] at hE
              exact ⟨fun z => absurd z (by decide), fun _ => ⟨ok29 F5, no5 (fun M' T' G' => hE M' T' G')⟩⟩
            · rw [if_neg q, if_pos hop] at hE
              refine ⟨fun _ => ⟨fun z => absurd z (by decide), fun _ => ⟨ok29 F5, fun n15 => ?_, fun y15 => ?_⟩⟩, fun z => absurd rfl z⟩
              · have no : o ≠ 15 := fun z => n15 (by rw [R5.2.2.2.2.1, z]; rfl)
                rw [if_neg no] at hE
                unfold DX11_emitOf_206
                refine ⟨fun z => absurd z (by decide), fun _ => ⟨ok29 F5, fun M6 e6 => ?_⟩⟩
                rw [R5.2.2.2.2.1, succ32] at e6
                have R6 := R5.op (o' := o + 1) (by omega)
                rw [← e6] at R6
                have G6 : RGp m M M6 := by rw [e6]; exact G45.tr (RG.i (by decide))
                have hs2 := hS.lt (i := i + 1) hs k1 (by rw [q15]; decide)
                refine P_take (h := h + 5) R6 hB hz hs2 (by rw [q15]; decide) (fun k2 M7 R7 G7 _ => ⟨rfl, ?_⟩) (fun k2 M7 T7 G7 _ => ⟨rfl, ?_⟩)
                · rw [adv_ok' k2] at hE
                  refine P_sum (h := h + 1) (sec := false) (fo := 5) (σ := paP (paP (raP σ (up2 σ.1.2.1 60 (40 * m + j) (Int32.ofNat x))) j 3 1) j 4 (Int32.ofNat x)) R7 hB hz hS k2 hj ?_
                  show EndQ b n s m τ K (o + 1) M7 (fun x => x) _ (suM b n m τ j 64 65 5 (i + 1 + 1) (o + 1) (paP (paP (raP σ (up2 σ.1.2.1 60 (40 * m + j) (Int32.ofNat x))) j 3 1) j 4 (Int32.ofNat x)))
                  have hE : EndQ b n s m τ K o M (fun x => x.1) (fun M' => Q none M') ((suM b n m τ j 64 65 5 (i + 1 + 1) (o + 1) (paP (paP (raP σ (up2 σ.1.2.1 60 (40 * m + j) (Int32.ofNat x))) j 3 1) j 4 (Int32.ofNat x))).bind fun r => (ex b n r.1 16).bind fun i4 => .ok (i4, r.2, x)) := hE
                  have sok := suM_ok (F := True) (m := m) (τ := τ) (j := j) (f1 := 64) (f2 := 65) (fo := 5) (o := o + 1) (σ := paP (paP (raP σ (up2 σ.1.2.1 60 (40 * m + j) (Int32.ofNat x))) j 3 1) j 4 (Int32.ofNat x)) hS (i := i + 1 + 1) hs2 k2 (by decide) (by decide)
                  cases es : suM b n m τ j 64 65 5 (i + 1 + 1) (o + 1) (paP (paP (raP σ (up2 σ.1.2.1 60 (40 * m + j) (Int32.ofNat x))) j 3 1) j 4 (Int32.ofNat x)) with
                  | error y =>
                    rw [es] at hE
                    intro M8 T8 G8 _
                    refine ⟨rfl, X_want (h := h + 6) T8 (fun _ => ⟨rfl, fun M9 e9 => ?_⟩)⟩
                    unfold DX11_emitOf_249
                    exact hE M9 (by rw [e9]; exact T8.o33) (by rw [e9]; exact ((G6.tr G7).tr G8).tr (RG.i (by decide)))
                  | ok r =>
                    rw [es] at hE sok
                    intro M8 R8 G8 _
                    refine ⟨rfl, P_wantS (h := h + 4) (k := 16) R8 hB hz hS sok.2.2.1 (by decide) (by decide) ?_⟩
                    have hE : EndQ b n s m τ K o M (fun x => x.1) (fun M' => Q none M') ((ex b n r.1 16).bind fun i4 => .ok (i4, r.2, x)) := hE
                    cases ew : ex b n r.1 16 with
                    | error y =>
                      rw [ew] at hE
                      intro M9 T9 G9 _
                      refine ⟨rfl, fun M10 e10 => ?_⟩
                      unfold DX11_emitOf_249
                      exact hE M10 (by rw [e10]; exact T9.o33) (by rw [e10]; exact (((G6.tr G7).tr G8).tr G9).tr (RG.i (by decide)))
                    | ok i4 =>
                      rw [ew] at hE
                      intro M9 R9 G9 _
                      refine ⟨rfl, fun M10 e10 => ?_⟩
                      rw [R9.2.2.2.2.1, dec32 (by omega)] at e10
                      have R10 := R9.op (o' := o) (by omega)
                      rw [← e10] at R10
                      unfold DX11_emitOf_249
                      exact hE M10 R10 (by rw [e10]; exact (((G6.tr G7).tr G8).tr G9).tr (RG.i (by decide)))
                · rw [adv_er' k2] at hE
                  exact X_brack (h := h + 4) (v := 0) T7 (G6.tr G7) (fun M' T' G' => hE M' T' G')
              · have yo : o = 15 := (z32 (a := o) (k := 15) (by omega) (by decide)).mp (by rw [← R5.2.2.2.2.1]; exact y15)
                rw [if_pos yo] at hE
                exact P_failsA (h := h + 6) (H2 := fun M' => DX11_emitOf_249 (h + 7) M' Q) R5 hB (by decide) (fun M' T' G' => by unfold DX11_emitOf_249; exact hE M' T' (G45.tr G'))
          · rw [T5.2.1] at z
            exact absurd z (by decide)
          · rw [adv_er' k1] at hE
            exact hE M5 T5 (G4.tr G5)
        rcases hM x with q | q | q | q
        · rw [if_pos q]
          exact ⟨fun _ => nxt 0 (Or.inl ⟨rfl, q⟩), fun z => absurd (by decide) z⟩
        · rw [if_neg (by rw [q]; decide), q]
          exact ⟨fun z => absurd z (by decide), fun _ => nxt 1 (Or.inr ⟨rfl, by rw [q]; decide⟩)⟩
        · rw [if_neg (by rw [q]; decide), q]
          exact ⟨fun z => absurd z (by decide), fun _ => nxt 1 (Or.inr ⟨rfl, by rw [q]; decide⟩)⟩
        · rw [if_neg (by rw [q]; decide), q]
          exact ⟨fun z => absurd z (by decide), fun _ => nxt 1 (Or.inr ⟨rfl, by rw [q]; decide⟩)⟩
      · rw [if_pos y30] at hE
        exact f4 _ (fun M' T' G' => hE M' T' G')
  · rw [if_neg hk2] at hE
    refine ⟨ok29 F, K_name (h := h + 5) tk (fun z => absurd z hk2) (fun _ _ => ⟨_, rfl, fun _ => ?_, fun z => absurd rfl z⟩)⟩
    unfold DX11_emitOf_24
    rw [c3, lt32 (n := i) (by omega)]
    refine ⟨ok29 F, 32, rf29_3 F, ok32 F, vi (ln32 F), K_name (h := h + 5) tk (fun z => absurd z hk2) (fun _ _ => ⟨_, rfl, fun z => absurd rfl z, fun _ => ?_⟩)⟩
    rw [p32]
    exact P_failsV (h := h + 6) hR (by decide) (fun M' T' G' _ => ⟨rfl, gone M' 2 _ _ T' (hE M' T' G')⟩)
end
end
section
/-! the reference: exit, trap -/
section
variable {b : Nat → Int32} {n s m : Nat} {τ : Td} {K : List KE} {σ : PS} {M M' : Mem} {i o h : Nat} {Q : Option Value → Mem → Prop}
theorem RPd.na {k : Nat} {v : Int64} (hd : RPd m τ K σ M) : RPd m τ K ((σ.1.1, σ.1.2.1, va_up σ.1.2.2 k v), σ.2) (wAJ M 72 k v) := by
  obtain ⟨d1, d2, d3, d4, d5, d6, d7, d8, d9⟩ := hd
  refine ⟨d1.fr rfl rfl (show up2 (mAJ M) 72 k v 50 = mAJ M 50 from up2_row (by decide)) rfl, d2.fr rfl rfl rfl rfl rfl, d3, ?_, d5, d6, d7.fr rfl rfl, d8.fr rfl rfl, d9.fr rfl rfl⟩
  show up2 (mAJ M) 72 k v 72 = va_up σ.1.2.2 k v
  funext j
  unfold up2 va_up
  by_cases q : j = k
  · rw [if_pos ⟨rfl, q⟩, if_pos q]
  · rw [if_neg (fun z => q z.2), if_neg q, d4]
theorem RPs.na {k : Nat} {v : Int64} (hR : RPs b n s m τ K σ M i o) (hk : 40 * m ≤ k) : RPs b n s m τ K ((σ.1.1, σ.1.2.1, va_up σ.1.2.2 k v), σ.2) (wAJ M 72 k v) i o ∧ RGp m M (wAJ M 72 k v) := by
  obtain ⟨c1, c2, c3, c4, c5, c6, c7⟩ := hR
  have g : RGp m M (wAJ M 72 k v) := RG.aj (by decide) (by rw [sz_p (by decide) (by decide)]; exact hk)
  exact ⟨⟨c1.rg g, c2, c3, c4, c5, c6.na, c7⟩, g⟩
theorem P_exit {j : Nat} {w : Int64} (hR : RPs b n s m τ K σ M i o) (hB : By b) (hz : ∀ i, n ≤ i → b i = 0) (hS : Sto b n s) (h0 : tK b n i ≠ 0) (hj : j < 40) (hK : KNm b n m σ K) (hp : npS σ ≤ 40) (hl : K.length ≤ 15) (hE : EndQ b n s m τ K o M (fun x => x.1) (fun M' => Q none M') (lfM b n m τ 57 w j i K σ)) : E (h + 4) mdX11_exitOf [.ref 29, .int (Int32.ofNat (40 * m + j))] M Q := by
  obtain ⟨c1, c2, c3, c4, c5, c6, c7⟩ := id hR
  have F := c1.1
  have tk := hR.tk hB
  have h4 := c1.2.2.2.1
  have l40 := lt40 h4 hj
  have vi : ∀ {N : Mem} {c : Nat}, mL N c = 802 → vp_in (Int32.ofNat i) (mL N c) := fun e => by rw [e]; exact vp_of (by omega) (by decide)
  have zk : ∀ {c : Nat}, 58 ≤ c → c ≤ 72 → szA c * m ≤ 40 * m + j := fun a c => by rw [sz_p a c]; omega
  have hE : EndQ b n s m τ K o M (fun x => x.1) (fun M' => Q none M') (if tK b n i = 2 then (match trW K (tC b n i) with
      | none => .error (4, tP b n i)
      | some q => (adv' b n i).bind fun i2 => .ok (i2, trP1 (raP σ (up2 σ.1.2.1 60 (40 * m + j) (Int32.ofNat q.2))) (exT (trS σ) q.1).1, (exT (trS σ) q.1).2))
    else .error (2, tP b n i)) := hE
  have tn := trI_none (c := tC b n i) hK h4 hp
  refine KX11_exitOf ?_
  unfold DX11_exitOf_0 DX11_exitOf_81
  by_cases k2 : tK b n i = 2
  · rw [if_pos k2] at hE
    have hs := hS.lt c2.2.2 h0 (by rw [k2]; decide)
    refine ⟨ok29 F, K_name (h := h + 1) tk (fun _ _ => ⟨_, rfl, fun _ => ?_, fun z => absurd z (by decide)⟩) (fun z => absurd k2 z)⟩
    rw [c3, lt32 (n := i) (by omega)]
    refine ⟨33, rf29_4 F, ok33 F, vi (ln33 F), P_trapNamed (h := h + 2) hR hK hp hl (tk.nm k2) (fun _ => ⟨_, rfl, fun nn => ?_, fun yy => ?_⟩)⟩
    · refine ⟨60, rf29_40 F, 33, rf29_4 F, ok33 F, by rw [c3]; exact vi (ln33 F), ?_⟩
      rw [c3, lt32 (n := i) (by omega), l40]
      refine P_trapNamed (h := h + 2) hR hK hp hl (tk.nm k2) (fun _ => ⟨_, rfl, ok60 F, ix40 h4 hj (ln60 F), fun M4 e4 => ?_⟩)
      cases et : trW K (tC b n i) with
      | none => exact absurd (tn.mpr (by rw [et]; rfl)) nn
      | some q =>
        rw [et] at hE
        have ei : trI K (tC b n i) = Int32.ofNat q.2 := by unfold trI; rw [et]
        rw [ei] at e4
        have s4 := hR.ra (c := 60) (k := 40 * m + j) (v := Int32.ofNat q.2) (by decide) (by decide) (by decide) (zk (by decide) (by decide))
        rw [← e4] at s4
        have G4 : RGp m M M4 := by rw [e4]; exact RGp.ra (by decide) (by decide) (by decide) (zk (by decide) (by decide))
        have hE : EndQ b n s m τ K o M (fun x => x.1) (fun M' => Q none M') ((adv' b n i).bind fun i2 => .ok (i2, trP1 (raP σ (up2 σ.1.2.1 60 (40 * m + j) (Int32.ofNat q.2))) (exT (trS σ) q.1).1, (exT (trS σ) q.1).2)) := hE
        refine P_take (h := h + 1) s4 hB hz hs (by rw [k2]; decide) (fun k1 M5 R5 G5 _ => ⟨rfl, ?_⟩) (fun k1 M5 T5 G5 _ => ⟨rfl, ?_⟩)
        · rw [adv_ok' k1] at hE; exact hE M5 R5 (G4.tr G5)
        · rw [adv_er' k1] at hE; exact hE M5 T5 (G4.tr G5)
    · cases et : trW K (tC b n i) with
      | some q => have z := tn.mp yy; rw [et] at z; exact absurd z (by simp)
      | none =>
        rw [et] at hE
        exact P_failsA (h := h + 2) (H2 := fun M' => Q none M') hR hB (by decide) (fun M' T' G' => hE M' T' G')
  · rw [if_neg k2] at hE
    exact ⟨ok29 F, K_name (h := h + 1) tk (fun z => absurd z k2) (fun _ _ => ⟨_, rfl, fun z => absurd rfl z, fun _ => P_failsA (h := h + 2) (H2 := fun M' => Q none M') hR hB (by decide) (fun M' T' G' => hE M' T' G')⟩)⟩
theorem P_trap {j : Nat} (hR : RPs b n s m τ K σ M i o) (hB : By b) (hz : ∀ i, n ≤ i → b i = 0) (hS : Sto b n s) (h0 : tK b n i ≠ 0) (hj : j < 40) (hK : KNm b n m σ K) (hp : npS σ ≤ 40) (hl : K.length ≤ 15) (hE : EndQ b n s m τ K o M (fun x => x.1) (fun M' => Q none M') (hdM b n m τ 55 j i K σ)) : E (h + 4) mdX11_trapOf [.ref 29, .int (Int32.ofNat (40 * m + j))] M Q := by
  obtain ⟨c1, c2, c3, c4, c5, c6, c7⟩ := id hR
  have F := c1.1
  have tk := hR.tk hB
  have h4 := c1.2.2.2.1
  have l40 := lt40 h4 hj
  have vi : ∀ {N : Mem} {c : Nat}, mL N c = 802 → vp_in (Int32.ofNat i) (mL N c) := fun e => by rw [e]; exact vp_of (by omega) (by decide)
  have nS := oi_none (o := fd τ.1 (tC b n i)) (k := 0) (fun x hx => by have := (fd_some hx).1; have := c1.2.2.2.2.1.1; omega)
  have nV := oi_none (o := fd τ.2.2.2.1 (tC b n i)) (k := 0) (fun x hx => by have := (fd_some hx).1; have := c1.2.2.2.2.1.2.2.2; omega)
  have hE : EndQ b n s m τ K o M (fun x => x.1) (fun M' => Q none M') (if tK b n i = 2 then (if toT (tC b n i) τ = true ∨ (trW K (tC b n i)).isSome = true then .error (3, tP b n i) else (adv' b n i).bind fun i2 => (ex b n i2 56).bind fun i3 => .ok (i3, ((σ.1.1, σ.1.2.1, va_up σ.1.2.2 (40 * m + j) (rV b n (tP b n i))), σ.2), 0, false, 0, some (tC b n i))) else .error (2, tP b n i)) := hE
  refine KX11_trapOf ?_
  unfold DX11_trapOf_0 DX11_trapOf_118
  by_cases k2 : tK b n i = 2
  · rw [if_pos k2] at hE
    have hs := hS.lt c2.2.2 h0 (by rw [k2]; decide)
    have f3 : (toT (tC b n i) τ = true ∨ (trW K (tC b n i)).isSome = true) → DX11_trapOf_74 (h + 3) 29 M Q := by
      intro q
      rw [if_pos q] at hE
      unfold DX11_trapOf_74 DX11_trapOf_118
      exact ⟨ok29 F, P_failsA (h := h + 2) (H2 := fun M' => Q none M') hR hB (by decide) (fun M' T' G' => hE M' T' G')⟩
    refine ⟨ok29 F, K_name (h := h + 1) tk (fun _ _ => ⟨_, rfl, fun _ => ?_, fun z => absurd z (by decide)⟩) (fun z => absurd k2 z)⟩
    rw [c3, lt32 (n := i) (by omega)]
    refine ⟨33, rf29_4 F, ok33 F, vi (ln33 F), R_sigNamed (h := h + 2) F c1.2.2 (tk.nm k2) (fun _ => ⟨_, rfl, fun q => f3 (Or.inl ?_), fun q => ?_⟩)⟩
    · unfold toT
      cases e : fd τ.1 (tC b n i) with
      | none => exact absurd (nS.mpr e) q
      | some x => rfl
    · have e1 := nS.mp q
      rw [c3, lt32 (n := i) (by omega)]
      refine ⟨33, rf29_4 F, ok33 F, vi (ln33 F), R_varNamed (h := h + 2) F c1.2.2 (tk.nm k2) (fun _ => ⟨_, rfl, fun q2 => f3 (Or.inl ?_), fun q2 => ?_⟩)⟩
      · unfold toT
        cases e : fd τ.2.2.2.1 (tC b n i) with
        | none => exact absurd (nV.mpr e) q2
        | some x => rw [e1]; rfl
      · have e2 := nV.mp q2
        have nt : toT (tC b n i) τ = false := by unfold toT; rw [e1, e2]; rfl
        rw [c3, lt32 (n := i) (by omega)]
        refine ⟨33, rf29_4 F, ok33 F, vi (ln33 F), P_isOpenTrap (h := h + 1) hR hK hp hl (tk.nm k2) (fun _ => ⟨_, rfl, fun q3 => ?_, fun q3 => f3 (Or.inr ?_)⟩)⟩
        · have ns : ¬ (toT (tC b n i) τ = true ∨ (trW K (tC b n i)).isSome = true) := by
            intro z
            rcases z with z | z
            · rw [nt] at z; cases z
            · rw [if_pos z] at q3; exact absurd q3 (by decide)
          rw [if_neg ns] at hE
          refine ⟨72, rf29_52 F, 33, rf29_4 F, ok33 F, by rw [c3]; exact vi (ln33 F), ok72 F, ix40 h4 hj (ln72 F), fun M4 e4 => ?_⟩
          rw [c3, lt32 (n := i) (by omega), l40, (c1.2.1 i c2.2.2).2.2] at e4
          have s4 := hR.na (k := 40 * m + j) (v := rV b n (tP b n i)) (by omega)
          rw [← e4] at s4
          obtain ⟨s4, G4⟩ := s4
          refine P_take (h := h + 1) s4 hB hz hs (by rw [k2]; decide) (fun k1 M5 R5 G5 _ => ⟨rfl, ?_⟩) (fun k1 M5 T5 G5 _ => ⟨rfl, X_want (h := h + 2) T5 (fun _ => ⟨rfl, ?_⟩)⟩)
          · rw [adv_ok' k1] at hE
            have hE : EndQ b n s m τ K o M (fun x => x.1) (fun M' => Q none M') ((ex b n (i + 1) 56).bind fun i3 => .ok (i3, ((σ.1.1, σ.1.2.1, va_up σ.1.2.2 (40 * m + j) (rV b n (tP b n i))), σ.2), 0, false, 0, some (tC b n i))) := hE
            refine P_wantW (h := h) (k := 56) (j := 26) R5 hB hz hS k1 (by decide) (by decide) (by decide) ?_
            cases ew : ex b n (i + 1) 56 with
            | error y => rw [ew] at hE; exact fun M6 T6 G6 _ => ⟨rfl, hE M6 T6 ((G4.tr G5).tr G6)⟩
            | ok i3 => rw [ew] at hE; exact fun M6 R6 G6 _ => ⟨rfl, hE M6 R6 ((G4.tr G5).tr G6)⟩
          · rw [adv_er' k1] at hE
            exact hE M5 T5 (G4.tr G5)
        · cases w : (trW K (tC b n i)).isSome with
          | true => rfl
          | false => rw [w] at q3; exact absurd rfl q3
  · rw [if_neg k2] at hE
    exact ⟨ok29 F, K_name (h := h + 1) tk (fun z => absurd z k2) (fun _ _ => ⟨_, rfl, fun z => absurd rfl z, fun _ => P_failsA (h := h + 2) (H2 := fun M' => Q none M') hR hB (by decide) (fun M' T' G' => hE M' T' G')⟩)⟩
end
end
section
/-! the reference: if; the heads of parts -/
theorem r712 {x : Int32} (hx : 7 ≤ x ∧ x ≤ 12) : x = 7 ∨ x = 8 ∨ x = 9 ∨ x = 10 ∨ x = 11 ∨ x = 12 := by
  obtain ⟨h1, h2⟩ := hx
  ((try simp only [Int32.toNatClampNeg, Int32.lt_iff_toInt_lt, Int32.le_iff_toInt_le, ← Int32.toInt_inj, j_add, j_sub, j_neg, j_mul, j_nat, Int32.reduceToInt, vp_in] at *); omega)
theorem r712s {x : Int32} (hx : 7 ≤ x ∧ x ≤ 12) : x - 7 ≠ -1 := by
  rcases r712 hx with z | z | z | z | z | z <;> rw [z] <;> decide
section
variable {b : Nat → Int32} {n s m : Nat} {τ : Td} {K : List KE} {σ : PS} {M M' : Mem} {i o h : Nat} {Q : Option Value → Mem → Prop}
theorem rel26 {v : Int64} {kk : Int32} (hv : ∀ k ∈ sKs, (v = sv k ↔ kk = k)) (H : Q (some (.int (if 7 ≤ kk ∧ kk ≤ 12 then kk - 7 else -1))) M) : DX11_relation_26 h v M Q := by
  have e : ∀ (k : Int32) (c : Int64), k ∈ sKs → sv k = c → ((lg_cmp v c = 0) ↔ kk = k) := fun k c hk hc => by rw [lgz, ← hc]; exact hv k hk
  have e7 := e 7 61 (by decide) (by decide)
  have e8 := e 8 8509 (by decide) (by decide)
  have e9 := e 9 60 (by decide) (by decide)
  have e10 := e 10 15421 (by decide) (by decide)
  have e11 := e 11 62 (by decide) (by decide)
  have e12 := e 12 15933 (by decide) (by decide)
  have go : ∀ (k x : Int32), kk = k → (if (7 : Int32) ≤ k ∧ k ≤ 12 then k - 7 else -1) = x → Q (some (.int x)) M := fun k x q w => by rw [← w, ← q]; exact H
  unfold DX11_relation_26 DX11_relation_100
  refine ⟨fun n7 => ⟨fun n8 => ⟨fun n9 => ⟨fun n10 => ⟨fun n11 => ⟨fun n12 => ?_, fun q => go 12 5 (e12.mp q) (by decide)⟩, fun q => go 11 4 (e11.mp q) (by decide)⟩, fun q => go 10 3 (e10.mp q) (by decide)⟩, fun q => go 9 2 (e9.mp q) (by decide)⟩, fun q => go 8 1 (e8.mp q) (by decide)⟩, fun q => go 7 0 (e7.mp q) (by decide)⟩
  rw [if_neg (fun z => by
    rcases r712 z with w | w | w | w | w | w
    · exact n7 (e7.mpr w)
    · exact n8 (e8.mpr w)
    · exact n9 (e9.mpr w)
    · exact n10 (e10.mpr w)
    · exact n11 (e11.mpr w)
    · exact n12 (e12.mpr w))] at H
  exact H
theorem sv_nz : ∀ k ∈ sKs, (0 : Int64) ≠ sv k := by decide
theorem P_relation (hT : Tk b n M i) (H : Q (some (.int (if 7 ≤ tK b n i ∧ tK b n i ≤ 12 then tK b n i - 7 else -1))) M) : E (h + 1) mdX11_relation [.ref 29] M Q := by
  obtain ⟨F, hB, ⟨r1, r2, r3⟩, h5, h8⟩ := id hT
  have sk := fun (k : Int32) (hk : k ∈ sKs) => said_sign (b := b) (n := n) (p := tP b n i) hB hk
  refine KX11_relation ?_
  unfold DX11_relation_0
  rw [h5, lt32 (by omega)]
  refine ⟨ok29 F, 31, rf29_2 F, ok31 F, by rw [ln31 F]; exact vp_of (by omega) (by decide), ?_⟩
  rw [r1]
  refine ⟨fun ns => rel26 (kk := tK b n i) (fun k hk => ⟨fun z => absurd z (sv_nz k hk), fun z => absurd ((sk k hk).mpr z).1 ns⟩) H, fun ys => ⟨33, rf29_4 F, ok33 F, by rw [ln33 F]; exact vp_of (by omega) (by decide), ?_⟩⟩
  rw [r3]
  exact rel26 (kk := tK b n i) (fun k hk => ⟨fun z => (sk k hk).mp ⟨ys, z⟩, fun z => ((sk k hk).mpr z).2⟩) H
theorem P_if {j : Nat} (hR : RPs b n s m τ K σ M i o) (ho : o = K.length + 1) (hB : By b) (hz : ∀ i, n ≤ i → b i = 0) (hS : Sto b n s) (h0 : tK b n i ≠ 0) (hj : j < 40) (hE : EndQ b n s m τ K o M (fun x => x.1) (fun M' => Q none M') (hdM b n m τ 58 j i K σ)) : E (h + 7) mdX11_ifOf [.ref 29, .int (Int32.ofNat (40 * m + j))] M Q := by
  obtain ⟨c1, c2, c3, c4, c5, c6, c7⟩ := id hR
  have F := c1.1
  have h4 := c1.2.2.2.1
  have l40 := lt40 h4 hj
  have zk : ∀ {c : Nat}, 58 ≤ c → c ≤ 72 → szA c * m ≤ 40 * m + j := fun a c => by rw [sz_p a c]; omega
  have hE : EndQ b n s m τ K o M (fun x => x.1) (fun M' => Q none M') ((suM b n m τ j 64 65 5 i (K.length + 1) (paP (paP σ j 3 3) j 4 (Int32.ofNat (σ.1.1 2 - 1)))).bind fun r => if 7 ≤ tK b n r.1 ∧ tK b n r.1 ≤ 12 then (adv' b n r.1).bind fun i2 => (suM b n m τ j 66 67 6 i2 (K.length + 1) (paP (raP r.2 (up2 r.2.1.2.1 68 (40 * m + j) (tK b n r.1 - 7))) j 7 (tK b n r.1))).bind fun q => (ex b n q.1 45).bind fun i3 => .ok (i3, (q.2.1, (q.2.2.1.1, q.2.2.1.2.1, (frL q.2.2.1.2.2.1).1, q.2.2.1.2.2.2.1, q.2.2.1.2.2.2.2.1 ++ [Int32.ofNat (2 * q.2.2.1.2.2.1.length)], q.2.2.1.2.2.2.2.2), q.2.2.2), 2 * q.2.2.1.2.2.1.length, false, 0, none) else .error (2, tP b n r.1)) := hE
  rw [← ho] at hE
  have sok := suM_ok (F := True) (m := m) (τ := τ) (j := j) (f1 := 64) (f2 := 65) (fo := 5) (o := o) (σ := paP (paP σ j 3 3) j 4 (Int32.ofNat (σ.1.1 2 - 1))) hS c2.2.2 h0 (by decide) (by decide)
  refine KX11_ifOf ?_
  unfold DX11_ifOf_0 DX11_ifOf_68
  refine ⟨ok29 F, P_sum (h := h) (sec := false) (fo := 5) (σ := paP (paP σ j 3 3) j 4 (Int32.ofNat (σ.1.1 2 - 1))) hR hB hz hS h0 hj ?_⟩
  show EndQ b n s m τ K o M (fun x => x) _ (suM b n m τ j 64 65 5 i o (paP (paP σ j 3 3) j 4 (Int32.ofNat (σ.1.1 2 - 1))))
  cases e1 : suM b n m τ j 64 65 5 i o (paP (paP σ j 3 3) j 4 (Int32.ofNat (σ.1.1 2 - 1))) with
  | error y =>
    rw [e1] at hE
    exact fun M2 T2 G2 _ => ⟨rfl, fun _ => hE M2 T2 G2, fun z => absurd z T2.n0⟩
  | ok r =>
    rw [e1] at hE sok
    intro M2 R2 G2 _
    refine ⟨rfl, fun z => absurd R2.2.2.2.1 z, fun _ => ?_⟩
    have F2 := R2.1.1
    rw [l40]
    refine ⟨68, rf29_48 F2, P_relation (h := h + 5) (R2.tk hB) (fun _ => ⟨_, rfl, ok68 F2, ix40 h4 hj (ln68 F2), fun M7 e7 => ?_⟩)⟩
    have s7 := R2.ra (c := 68) (k := 40 * m + j) (v := if 7 ≤ tK b n r.1 ∧ tK b n r.1 ≤ 12 then tK b n r.1 - 7 else -1) (by decide) (by decide) (by decide) (zk (by decide) (by decide))
    rw [← e7] at s7
    have F7 := s7.1.1
    have G7 : RGp m M M7 := by rw [e7]; exact G2.tr (RGp.ra (by decide) (by decide) (by decide) (zk (by decide) (by decide)))
    have a68 : mAI M7 68 (40 * m + j) = if 7 ≤ tK b n r.1 ∧ tK b n r.1 ≤ 12 then tK b n r.1 - 7 else -1 := by rw [e7]; exact mAI_own _ _ _ _
    refine ⟨68, rf29_48 F7, ok68 F7, ix40 h4 hj (ln68 F7), ?_⟩
    rw [a68]
    have hE : EndQ b n s m τ K o M (fun x => x.1) (fun M' => Q none M') (if 7 ≤ tK b n r.1 ∧ tK b n r.1 ≤ 12 then (adv' b n r.1).bind fun i2 => (suM b n m τ j 66 67 6 i2 o (paP (raP r.2 (up2 r.2.1.2.1 68 (40 * m + j) (tK b n r.1 - 7))) j 7 (tK b n r.1))).bind fun q => (ex b n q.1 45).bind fun i3 => .ok (i3, (q.2.1, (q.2.2.1.1, q.2.2.1.2.1, (frL q.2.2.1.2.2.1).1, q.2.2.1.2.2.2.1, q.2.2.1.2.2.2.2.1 ++ [Int32.ofNat (2 * q.2.2.1.2.2.1.length)], q.2.2.1.2.2.2.2.2), q.2.2.2), 2 * q.2.2.1.2.2.1.length, false, 0, none) else .error (2, tP b n r.1)) := hE
    by_cases hr : 7 ≤ tK b n r.1 ∧ tK b n r.1 ≤ 12
    · rw [if_pos hr] at hE s7
      rw [if_pos hr]
      refine ⟨fun _ => ?_, fun z => absurd z (r712s hr)⟩
      have n1 : tK b n r.1 ≠ 1 := fun z => by rw [z] at hr; exact absurd hr.1 (by decide)
      have hs := hS.lt sok.2.1 sok.2.2.1 n1
      refine P_take (h := h + 4) s7 hB hz hs n1 (fun k1 M8 R8 G8 _ => ⟨rfl, ?_⟩) (fun k1 M8 T8 G8 _ => ⟨rfl, ?_⟩)
      · rw [adv_ok' k1] at hE
        have hE : EndQ b n s m τ K o M (fun x => x.1) (fun M' => Q none M') ((suM b n m τ j 66 67 6 (r.1 + 1) o (paP (raP r.2 (up2 r.2.1.2.1 68 (40 * m + j) (tK b n r.1 - 7))) j 7 (tK b n r.1))).bind fun q => (ex b n q.1 45).bind fun i3 => .ok (i3, (q.2.1, (q.2.2.1.1, q.2.2.1.2.1, (frL q.2.2.1.2.2.1).1, q.2.2.1.2.2.2.1, q.2.2.1.2.2.2.2.1 ++ [Int32.ofNat (2 * q.2.2.1.2.2.1.length)], q.2.2.1.2.2.2.2.2), q.2.2.2), 2 * q.2.2.1.2.2.1.length, false, 0, none)) := hE
        have sok2 := suM_ok (F := True) (m := m) (τ := τ) (j := j) (f1 := 66) (f2 := 67) (fo := 6) (o := o) (σ := paP (raP r.2 (up2 r.2.1.2.1 68 (40 * m + j) (tK b n r.1 - 7))) j 7 (tK b n r.1)) hS (i := r.1 + 1) hs k1 (by decide) (by decide)
        refine P_sum (h := h) (sec := true) (fo := 6) (σ := paP (raP r.2 (up2 r.2.1.2.1 68 (40 * m + j) (tK b n r.1 - 7))) j 7 (tK b n r.1)) R8 hB hz hS k1 hj ?_
        show EndQ b n s m τ K o M8 (fun x => x) _ (suM b n m τ j 66 67 6 (r.1 + 1) o (paP (raP r.2 (up2 r.2.1.2.1 68 (40 * m + j) (tK b n r.1 - 7))) j 7 (tK b n r.1)))
        cases e2 : suM b n m τ j 66 67 6 (r.1 + 1) o (paP (raP r.2 (up2 r.2.1.2.1 68 (40 * m + j) (tK b n r.1 - 7))) j 7 (tK b n r.1)) with
        | error y =>
          rw [e2] at hE
          exact fun M9 T9 G9 _ => ⟨rfl, X_want (h := h + 5) T9 (fun _ => ⟨rfl, hE M9 T9 ((G7.tr G8).tr G9)⟩)⟩
        | ok q =>
          rw [e2] at hE sok2
          intro M9 R9 G9 _
          refine ⟨rfl, P_wantW (h := h + 3) (k := 45) (j := 15) R9 hB hz hS sok2.2.2.1 (by decide) (by decide) (by decide) ?_⟩
          have hE : EndQ b n s m τ K o M (fun x => x.1) (fun M' => Q none M') ((ex b n q.1 45).bind fun i3 => .ok (i3, (q.2.1, (q.2.2.1.1, q.2.2.1.2.1, (frL q.2.2.1.2.2.1).1, q.2.2.1.2.2.2.1, q.2.2.1.2.2.2.2.1 ++ [Int32.ofNat (2 * q.2.2.1.2.2.1.length)], q.2.2.1.2.2.2.2.2), q.2.2.2), 2 * q.2.2.1.2.2.1.length, false, 0, none)) := hE
          cases ew : ex b n q.1 45 with
          | error y => rw [ew] at hE; exact fun M10 T10 G10 _ => ⟨rfl, hE M10 T10 (((G7.tr G8).tr G9).tr G10)⟩
          | ok i3 => rw [ew] at hE; exact fun M10 R10 G10 _ => ⟨rfl, hE M10 R10 (((G7.tr G8).tr G9).tr G10)⟩
      · rw [adv_er' k1] at hE
        exact X_sumOf (h := h + 5) T8 (fun _ => ⟨rfl, X_want (h := h + 5) T8 (fun _ => ⟨rfl, hE M8 T8 (G7.tr G8)⟩)⟩)
    · rw [if_neg hr] at hE s7
      rw [if_neg hr]
      exact ⟨fun z => absurd rfl z, fun _ => P_failsA (h := h + 5) (H2 := fun M' => Q none M') s7 hB (by decide) (fun M' T' G' => hE M' T' (G7.tr G'))⟩
end
end
section
/-! the reference: the head of a part -/
section
variable {b : Nat → Int32} {n s m : Nat} {τ : Td} {K : List KE} {σ : PS} {M M' : Mem} {i o h : Nat} {Q : Option Value → Mem → Prop}
theorem P_headL {k : Int32} {w : Int64} {j : Nat} (hR : RPs b n s m τ K σ M i o) (ho : o = K.length) (hB : By b) (hz : ∀ i, n ≤ i → b i = 0) (hS : Sto b n s) (h0 : tK b n i ≠ 0) (hj : j < 40) (hM : MxOk τ) (hK : KNm b n m σ K) (hp : npS σ ≤ 40) (hl : K.length ≤ 15) (hso : soK k ≠ 99) (hopn : opnK k = false) (h58 : σ.1.2.1 58 (40 * m + j) = Int32.ofNat (soK k)) (hE : EndQ b n s m τ K o M (fun x => x.1) (fun M' => Q none M') (lfM b n m τ k w j i K σ)) : E (h + 9) mdX11_headOf [.ref 29, .int (Int32.ofNat (40 * m + j))] M Q := by
  obtain ⟨c1, c2, c3, c4, c5, c6, c7⟩ := id hR
  have F := c1.1
  have h4 := c1.2.2.2.1
  have l40 := lt40 h4 hj
  have a58 : mAI M 58 (40 * m + j) = Int32.ofNat (soK k) := by rw [c6.2.2.1 58 (by decide) (by decide) (by decide)]; exact h58
  refine KX11_headOf ?_
  unfold DX11_headOf_0 DX11_headOf_172
  rw [l40]
  refine ⟨ok29 F, 58, rf29_38 F, ok58 F, ix40 h4 hj (ln58 F), ?_⟩
  rw [a58]
  rcases soK_cases hso with z | z | z | z | z | z | z | z | z | z | z | z | z | z | z | z | z
  · -- nothing
    subst z
    have hE : EndQ b n s m τ K o M (fun x => x.1) (fun M' => Q none M') (.ok (i, trP1 σ (mkT (trS σ) 0).1, (mkT (trS σ) 0).2)) := hE
    have q := hE M hR RG.rf
    refine ⟨fun y => ?_, fun y => ?_, fun y => ?_, fun y => ?_, fun y => ?_, fun y => ?_, fun y => ?_, fun y => ?_, fun y => ?_, fun y => ?_, fun y => ?_, fun y => ?_, fun y => ?_, fun y => ?_⟩ <;> first | exact absurd y (by decide) | exact q
  · -- pause
    subst z
    have hE : EndQ b n s m τ K o M (fun x => x.1) (fun M' => Q none M') (.ok (i, trP1 σ (paT (trS σ)).1, (paT (trS σ)).2)) := hE
    have q := hE M hR RG.rf
    refine ⟨fun y => ?_, fun y => ?_, fun y => ?_, fun y => ?_, fun y => ?_, fun y => ?_, fun y => ?_, fun y => ?_, fun y => ?_, fun y => ?_, fun y => ?_, fun y => ?_, fun y => ?_, fun y => ?_⟩ <;> first | exact absurd y (by decide) | exact q
  · -- halt
    subst z
    have hE : EndQ b n s m τ K o M (fun x => x.1) (fun M' => Q none M') (.ok (i, trP1 σ (haT (trS σ)).1, (haT (trS σ)).2)) := hE
    have q := hE M hR RG.rf
    refine ⟨fun y => ?_, fun y => ?_, fun y => ?_, fun y => ?_, fun y => ?_, fun y => ?_, fun y => ?_, fun y => ?_, fun y => ?_, fun y => ?_, fun y => ?_, fun y => ?_, fun y => ?_, fun y => ?_⟩ <;> first | exact absurd y (by decide) | exact q
  · -- emit
    subst z
    have hE : EndQ b n s m τ K o M (fun x => x.1) (fun M' => Q none M') ((emM b n m τ 40 j i K.length σ).bind fun r => .ok (r.1, trP1 r.2.1 (emT (trS r.2.1) r.2.2).1, (emT (trS r.2.1) r.2.2).2)) := hE
    rw [← ho] at hE
    have q : E (h + 8) mdX11_emitOf [.ref 29, .int (Int32.ofNat (40 * m + j))] M (fun r M4 => mE M M4 → r = none ∧ Q none M4) := by
      refine P_emit (h := h) (k := 40) hR hB hz hS h0 hj hM (Or.inl ⟨rfl, h58⟩) ?_
      cases e : emM b n m τ 40 j i o σ with
      | error y => rw [e] at hE; exact fun M4 T4 G4 _ => ⟨rfl, hE M4 T4 G4⟩
      | ok r => rw [e] at hE; exact fun M4 R4 G4 _ => ⟨rfl, hE M4 R4 G4⟩
    refine ⟨fun y => ?_, fun y => ?_, fun y => ?_, fun y => ?_, fun y => ?_, fun y => ?_, fun y => ?_, fun y => ?_, fun y => ?_, fun y => ?_, fun y => ?_, fun y => ?_, fun y => ?_, fun y => ?_⟩ <;> first | exact absurd y (by decide) | exact q
  · -- sustain
    subst z
    have hE : EndQ b n s m τ K o M (fun x => x.1) (fun M' => Q none M') ((emM b n m τ 41 j i K.length σ).bind fun r => .ok (r.1, trP1 r.2.1 (stT (trS r.2.1) r.2.2).1, (stT (trS r.2.1) r.2.2).2)) := hE
    rw [← ho] at hE
    have q : E (h + 8) mdX11_emitOf [.ref 29, .int (Int32.ofNat (40 * m + j))] M (fun r M4 => mE M M4 → r = none ∧ Q none M4) := by
      refine P_emit (h := h) (k := 41) hR hB hz hS h0 hj hM (Or.inr ⟨rfl, h58⟩) ?_
      cases e : emM b n m τ 41 j i o σ with
      | error y => rw [e] at hE; exact fun M4 T4 G4 _ => ⟨rfl, hE M4 T4 G4⟩
      | ok r => rw [e] at hE; exact fun M4 R4 G4 _ => ⟨rfl, hE M4 R4 G4⟩
    refine ⟨fun y => ?_, fun y => ?_, fun y => ?_, fun y => ?_, fun y => ?_, fun y => ?_, fun y => ?_, fun y => ?_, fun y => ?_, fun y => ?_, fun y => ?_, fun y => ?_, fun y => ?_, fun y => ?_⟩ <;> first | exact absurd y (by decide) | exact q
  · subst z; exact absurd hopn (by decide)
  · subst z; exact absurd hopn (by decide)
  · -- await
    subst z
    have hE : EndQ b n s m τ K o M (fun x => x.1) (fun M' => Q none M') ((atM b n m τ j i K.length σ).bind fun r => .ok (r.1, trP1 r.2.1 (awT (trS r.2.1) (Int32.ofNat r.2.2.1) r.2.2.2).1, (awT (trS r.2.1) (Int32.ofNat r.2.2.1) r.2.2.2).2)) := hE
    rw [← ho] at hE
    have q : E (h + 8) mdX11_atOnceOf [.ref 29, .int (Int32.ofNat (40 * m + j))] M (fun r M4 => mE M M4 → r = none ∧ Q none M4) := by
      refine P_at (h := h + 1) hR hB hz hS h0 hj ?_
      cases e : atM b n m τ j i o σ with
      | error y => rw [e] at hE; exact fun M4 T4 G4 _ => ⟨rfl, hE M4 T4 G4⟩
      | ok r => rw [e] at hE; exact fun M4 R4 G4 _ => ⟨rfl, hE M4 R4 G4⟩
    refine ⟨fun y => ?_, fun y => ?_, fun y => ?_, fun y => ?_, fun y => ?_, fun y => ?_, fun y => ?_, fun y => ?_, fun y => ?_, fun y => ?_, fun y => ?_, fun y => ?_, fun y => ?_, fun y => ?_⟩ <;> first | exact absurd y (by decide) | exact q
  · subst z; exact absurd hopn (by decide)
  · subst z; exact absurd hopn (by decide)
  · subst z; exact absurd hopn (by decide)
  · subst z; exact absurd hopn (by decide)
  · subst z; exact absurd hopn (by decide)
  · -- exit
    subst z
    have q : E (h + 8) mdX11_exitOf [.ref 29, .int (Int32.ofNat (40 * m + j))] M (fun r M4 => mE M M4 → r = none ∧ Q none M4) := by
      refine P_exit (h := h + 4) (w := w) hR hB hz hS h0 hj hK hp hl ?_
      cases e : lfM b n m τ 57 w j i K σ with
      | error y => rw [e] at hE; exact fun M4 T4 G4 _ => ⟨rfl, hE M4 T4 G4⟩
      | ok r => rw [e] at hE; exact fun M4 R4 G4 _ => ⟨rfl, hE M4 R4 G4⟩
    refine ⟨fun y => ?_, fun y => ?_, fun y => ?_, fun y => ?_, fun y => ?_, fun y => ?_, fun y => ?_, fun y => ?_, fun y => ?_, fun y => ?_, fun y => ?_, fun y => ?_, fun y => ?_, fun y => ?_⟩ <;> first | exact absurd y (by decide) | exact q
  · subst z; exact absurd hopn (by decide)
  · -- a variable is given a number
    subst z
    have hE : EndQ b n s m τ K o M (fun x => x.1) (fun M' => Q none M') ((ex b n i 5).bind fun i2 => (suM b n m τ j 64 65 5 i2 K.length (guP (paP (paP σ j 3 2) j 4 (oi (fd τ.2.2.2.1 w))) (giS σ ||| ((1 : Int32) <<< (oi (fd τ.2.2.2.1 w) &&& 31))) (usS σ))).bind fun r => .ok (r.1, trP1 r.2 (mkT (trS r.2) 0).1, (mkT (trS r.2) 0).2)) := hE
    rw [← ho] at hE
    have q : E (h + 8) mdX11_want [.ref 29, .int 3, .long 14909] M (fun r M15 => mE M M15 → r = none ∧ E (h + 8) mdX11_sumOf [.ref 29, .int (Int32.ofNat (40 * m + j)), .int 0] M15 (fun r M16 => mE M15 M16 → r = none ∧ Q none M16)) := by
      refine P_wantS (h := h + 5) (k := 5) hR hB hz hS h0 (by decide) (by decide) ?_
      have ok5 : ∀ i2, ex b n i 5 = .ok i2 → tK b n i2 ≠ 0 := by
        intro i2 hi2
        unfold ex at hi2
        by_cases q : tK b n i = 5
        · rw [if_pos q] at hi2
          rcases adv_cases (b := b) (n := n) (i := i) with ⟨k1, e⟩ | ⟨k1, e⟩ <;> rw [e] at hi2 <;> cases hi2
          exact k1
        · rw [if_neg q] at hi2; cases hi2
      cases e : ex b n i 5 with
      | error y =>
        rw [e] at hE
        exact fun M4 T4 G4 _ => ⟨rfl, X_sumOf (h := h + 7) T4 (fun _ => ⟨rfl, hE M4 T4 G4⟩)⟩
      | ok i2 =>
        rw [e] at hE
        intro M4 R4 G4 _
        refine ⟨rfl, P_sum (h := h + 2) (sec := false) (fo := 5) (σ := guP (paP (paP σ j 3 2) j 4 (oi (fd τ.2.2.2.1 w))) (giS σ ||| ((1 : Int32) <<< (oi (fd τ.2.2.2.1 w) &&& 31))) (usS σ)) R4 hB hz hS (ok5 i2 e) hj ?_⟩
        show EndQ b n s m τ K o M4 (fun x => x) _ (suM b n m τ j 64 65 5 i2 o (guP (paP (paP σ j 3 2) j 4 (oi (fd τ.2.2.2.1 w))) (giS σ ||| ((1 : Int32) <<< (oi (fd τ.2.2.2.1 w) &&& 31))) (usS σ)))
        have hE : EndQ b n s m τ K o M (fun x => x.1) (fun M' => Q none M') ((suM b n m τ j 64 65 5 i2 o (guP (paP (paP σ j 3 2) j 4 (oi (fd τ.2.2.2.1 w))) (giS σ ||| ((1 : Int32) <<< (oi (fd τ.2.2.2.1 w) &&& 31))) (usS σ))).bind fun r => .ok (r.1, trP1 r.2 (mkT (trS r.2) 0).1, (mkT (trS r.2) 0).2)) := hE
        cases e2 : suM b n m τ j 64 65 5 i2 o (guP (paP (paP σ j 3 2) j 4 (oi (fd τ.2.2.2.1 w))) (giS σ ||| ((1 : Int32) <<< (oi (fd τ.2.2.2.1 w) &&& 31))) (usS σ)) with
        | error y => rw [e2] at hE; exact fun M5 T5 G5 _ => ⟨rfl, hE M5 T5 (G4.tr G5)⟩
        | ok r => rw [e2] at hE; exact fun M5 R5 G5 _ => ⟨rfl, hE M5 R5 (G4.tr G5)⟩
    refine ⟨fun y => ?_, fun y => ?_, fun y => ?_, fun y => ?_, fun y => ?_, fun y => ?_, fun y => ?_, fun y => ?_, fun y => ?_, fun y => ?_, fun y => ?_, fun y => ?_, fun y => ?_, fun y => ?_⟩ <;> first | exact absurd y (by decide) | exact q
  · subst z; exact absurd hopn (by decide)
end
end
section
/-! the reference: the head of a part with rows -/
section
variable {b : Nat → Int32} {n s m : Nat} {τ : Td} {K : List KE} {σ : PS} {M M' : Mem} {i o h : Nat} {Q : Option Value → Mem → Prop}
theorem P_headO {k : Int32} {j : Nat} (hR : RPs b n s m τ K σ M i o) (ho : o = K.length + 1) (hB : By b) (hz : ∀ i, n ≤ i → b i = 0) (hS : Sto b n s) (h0 : tK b n i ≠ 0) (hj : j < 40) (hK : KNm b n m σ K) (hp : npS σ ≤ 40) (hl : K.length ≤ 15) (hso : soK k ≠ 99) (hopn : opnK k = true) (h58 : σ.1.2.1 58 (40 * m + j) = Int32.ofNat (soK k)) (hE : EndQ b n s m τ K o M (fun x => x.1) (fun M' => Q none M') (hdM b n m τ k j i K σ)) : E (h + 9) mdX11_headOf [.ref 29, .int (Int32.ofNat (40 * m + j))] M Q := by
  obtain ⟨c1, c2, c3, c4, c5, c6, c7⟩ := id hR
  have F := c1.1
  have h4 := c1.2.2.2.1
  have l40 := lt40 h4 hj
  have a58 : mAI M 58 (40 * m + j) = Int32.ofNat (soK k) := by rw [c6.2.2.1 58 (by decide) (by decide) (by decide)]; exact h58
  refine KX11_headOf ?_
  unfold DX11_headOf_0 DX11_headOf_172
  rw [l40]
  refine ⟨ok29 F, 58, rf29_38 F, ok58 F, ix40 h4 hj (ln58 F), ?_⟩
  rw [a58]
  rcases soK_cases hso with z | z | z | z | z | z | z | z | z | z | z | z | z | z | z | z | z
  · subst z; exact absurd hopn (by decide)
  · subst z; exact absurd hopn (by decide)
  · subst z; exact absurd hopn (by decide)
  · subst z; exact absurd hopn (by decide)
  · subst z; exact absurd hopn (by decide)
  · -- loop
    subst z
    have hE : EndQ b n s m τ K o M (fun x => x.1) (fun M' => Q none M') (.ok (i, σ, 0, false, 0, none)) := hE
    have q := hE M hR RG.rf
    refine ⟨fun y => ?_, fun y => ?_, fun y => ?_, fun y => ?_, fun y => ?_, fun y => ?_, fun y => ?_, fun y => ?_, fun y => ?_, fun y => ?_, fun y => ?_, fun y => ?_, fun y => ?_, fun y => ?_⟩ <;> first | exact absurd y (by decide) | exact q
  · -- present
    subst z
    have hE : EndQ b n s m τ K o M (fun x => x.1) (fun M' => Q none M') ((coM b n m τ j i (K.length + 1) σ).bind fun r => (ex b n r.1 45).bind fun i2 => .ok (i2, r.2.1, r.2.2, false, 0, none)) := hE
    rw [← ho] at hE
    have cok := coM_ok (F := True) (m := m) (τ := τ) (j := j) (o := o) (σ := σ) hS c2.2.2 h0
    have q : E (h + 8) mdX11_condOf [.ref 29, .int (Int32.ofNat (40 * m + j))] M (fun r M6 => mE M M6 → r = none ∧ E (h + 8) mdX11_want [.ref 29, .int 1, .long 399641] M6 (fun r M7 => mE M6 M7 → r = none ∧ Q none M7)) := by
      refine P_cond (h := h + 2) hR hB hz hS h0 hj ?_
      cases e : coM b n m τ j i o σ with
      | error y => rw [e] at hE; exact fun M4 T4 G4 _ => ⟨rfl, X_want (h := h + 7) T4 (fun _ => ⟨rfl, hE M4 T4 G4⟩)⟩
      | ok r =>
        rw [e] at hE cok
        intro M4 R4 G4 _
        refine ⟨rfl, P_wantW (h := h + 5) (k := 45) (j := 15) R4 hB hz hS cok.2.2.1 (by decide) (by decide) (by decide) ?_⟩
        have hE : EndQ b n s m τ K o M (fun x => x.1) (fun M' => Q none M') ((ex b n r.1 45).bind fun i2 => .ok (i2, r.2.1, r.2.2, false, 0, none)) := hE
        cases ew : ex b n r.1 45 with
        | error y => rw [ew] at hE; exact fun M5 T5 G5 _ => ⟨rfl, hE M5 T5 (G4.tr G5)⟩
        | ok i2 => rw [ew] at hE; exact fun M5 R5 G5 _ => ⟨rfl, hE M5 R5 (G4.tr G5)⟩
    refine ⟨fun y => ?_, fun y => ?_, fun y => ?_, fun y => ?_, fun y => ?_, fun y => ?_, fun y => ?_, fun y => ?_, fun y => ?_, fun y => ?_, fun y => ?_, fun y => ?_, fun y => ?_, fun y => ?_⟩ <;> first | exact absurd y (by decide) | exact q
  · subst z; exact absurd hopn (by decide)
  · -- abort
    subst z
    have hE : EndQ b n s m τ K o M (fun x => x.1) (fun M' => Q none M') (.ok (i, σ, 0, false, 0, some (0 : Int64))) := hE
    have q := hE M hR RG.rf
    refine ⟨fun y => ?_, fun y => ?_, fun y => ?_, fun y => ?_, fun y => ?_, fun y => ?_, fun y => ?_, fun y => ?_, fun y => ?_, fun y => ?_, fun y => ?_, fun y => ?_, fun y => ?_, fun y => ?_⟩ <;> first | exact absurd y (by decide) | exact q
  · -- weak
    subst z
    have hE : EndQ b n s m τ K o M (fun x => x.1) (fun M' => Q none M') ((ex b n i 49).bind fun i2 => .ok (i2, σ, 0, false, 0, some (0 : Int64))) := hE
    have q : E (h + 8) mdX11_want [.ref 29, .int 1, .long 582248] M (fun r M4 => mE M M4 → r = none ∧ Q none M4) := by
      refine P_wantW (h := h + 5) (k := 49) (j := 19) hR hB hz hS h0 (by decide) (by decide) (by decide) ?_
      cases e : ex b n i 49 with
      | error y => rw [e] at hE; exact fun M4 T4 G4 _ => ⟨rfl, hE M4 T4 G4⟩
      | ok r => rw [e] at hE; exact fun M4 R4 G4 _ => ⟨rfl, hE M4 R4 G4⟩
    refine ⟨fun y => ?_, fun y => ?_, fun y => ?_, fun y => ?_, fun y => ?_, fun y => ?_, fun y => ?_, fun y => ?_, fun y => ?_, fun y => ?_, fun y => ?_, fun y => ?_, fun y => ?_, fun y => ?_⟩ <;> first | exact absurd y (by decide) | exact q
  · -- suspend
    subst z
    have hE : EndQ b n s m τ K o M (fun x => x.1) (fun M' => Q none M') (.ok (i, σ, 0, false, 0, none)) := hE
    have q := hE M hR RG.rf
    refine ⟨fun y => ?_, fun y => ?_, fun y => ?_, fun y => ?_, fun y => ?_, fun y => ?_, fun y => ?_, fun y => ?_, fun y => ?_, fun y => ?_, fun y => ?_, fun y => ?_, fun y => ?_, fun y => ?_⟩ <;> first | exact absurd y (by decide) | exact q
  · -- every
    subst z
    have hE : EndQ b n s m τ K o M (fun x => x.1) (fun M' => Q none M') ((atM b n m τ j i (K.length + 1) σ).bind fun r => (ex b n r.1 54).bind fun i2 => .ok (i2, trP1 r.2.1 (awT (trS r.2.1) (Int32.ofNat r.2.2.1) r.2.2.2).1, r.2.2.1, r.2.2.2, (awT (trS r.2.1) (Int32.ofNat r.2.2.1) r.2.2.2).2, some (0 : Int64))) := hE
    rw [← ho] at hE
    have cok := atM_ok (F := True) (m := m) (τ := τ) (j := j) (o := o) (σ := σ) hS c2.2.2 h0
    have q : E (h + 8) mdX11_atOnceOf [.ref 29, .int (Int32.ofNat (40 * m + j))] M (fun r M6 => mE M M6 → r = none ∧ E (h + 8) mdX11_want [.ref 29, .int 1, .long 123] M6 (fun r M7 => mE M6 M7 → r = none ∧ Q none M7)) := by
      refine P_at (h := h + 1) hR hB hz hS h0 hj ?_
      cases e : atM b n m τ j i o σ with
      | error y => rw [e] at hE; exact fun M4 T4 G4 _ => ⟨rfl, X_want (h := h + 7) T4 (fun _ => ⟨rfl, hE M4 T4 G4⟩)⟩
      | ok r =>
        rw [e] at hE cok
        intro M4 R4 G4 _
        refine ⟨rfl, P_wantW (h := h + 5) (k := 54) (j := 24) R4 hB hz hS cok.2.2.1 (by decide) (by decide) (by decide) ?_⟩
        have hE : EndQ b n s m τ K o M (fun x => x.1) (fun M' => Q none M') ((ex b n r.1 54).bind fun i2 => .ok (i2, trP1 r.2.1 (awT (trS r.2.1) (Int32.ofNat r.2.2.1) r.2.2.2).1, r.2.2.1, r.2.2.2, (awT (trS r.2.1) (Int32.ofNat r.2.2.1) r.2.2.2).2, some (0 : Int64))) := hE
        cases ew : ex b n r.1 54 with
        | error y => rw [ew] at hE; exact fun M5 T5 G5 _ => ⟨rfl, hE M5 T5 (G4.tr G5)⟩
        | ok i2 => rw [ew] at hE; exact fun M5 R5 G5 _ => ⟨rfl, hE M5 R5 (G4.tr G5)⟩
    refine ⟨fun y => ?_, fun y => ?_, fun y => ?_, fun y => ?_, fun y => ?_, fun y => ?_, fun y => ?_, fun y => ?_, fun y => ?_, fun y => ?_, fun y => ?_, fun y => ?_, fun y => ?_, fun y => ?_⟩ <;> first | exact absurd y (by decide) | exact q
  · -- trap
    subst z
    have q : E (h + 8) mdX11_trapOf [.ref 29, .int (Int32.ofNat (40 * m + j))] M (fun r M4 => mE M M4 → r = none ∧ Q none M4) := by
      refine P_trap (h := h + 4) hR hB hz hS h0 hj hK hp hl ?_
      cases e : hdM b n m τ 55 j i K σ with
      | error y => rw [e] at hE; exact fun M4 T4 G4 _ => ⟨rfl, hE M4 T4 G4⟩
      | ok r => rw [e] at hE; exact fun M4 R4 G4 _ => ⟨rfl, hE M4 R4 G4⟩
    refine ⟨fun y => ?_, fun y => ?_, fun y => ?_, fun y => ?_, fun y => ?_, fun y => ?_, fun y => ?_, fun y => ?_, fun y => ?_, fun y => ?_, fun y => ?_, fun y => ?_, fun y => ?_, fun y => ?_⟩ <;> first | exact absurd y (by decide) | exact q
  · subst z; exact absurd hopn (by decide)
  · -- if
    subst z
    have q : E (h + 8) mdX11_ifOf [.ref 29, .int (Int32.ofNat (40 * m + j))] M (fun r M4 => mE M M4 → r = none ∧ Q none M4) := by
      refine P_if (h := h + 1) hR ho hB hz hS h0 hj ?_
      cases e : hdM b n m τ 58 j i K σ with
      | error y => rw [e] at hE; exact fun M4 T4 G4 _ => ⟨rfl, hE M4 T4 G4⟩
      | ok r => rw [e] at hE; exact fun M4 R4 G4 _ => ⟨rfl, hE M4 R4 G4⟩
    refine ⟨fun y => ?_, fun y => ?_, fun y => ?_, fun y => ?_, fun y => ?_, fun y => ?_, fun y => ?_, fun y => ?_, fun y => ?_, fun y => ?_, fun y => ?_, fun y => ?_, fun y => ?_, fun y => ?_⟩ <;> first | exact absurd y (by decide) | exact q
  · subst z; exact absurd hopn (by decide)
  · -- branches
    subst z
    have hE : EndQ b n s m τ K o M (fun x => x.1) (fun M' => Q none M') (.ok (i, trP1 σ (mkT (trS σ) 8).1, 0, false, (mkT (trS σ) 8).2, none)) := hE
    have q := hE M hR RG.rf
    refine ⟨fun y => ?_, fun y => ?_, fun y => ?_, fun y => ?_, fun y => ?_, fun y => ?_, fun y => ?_, fun y => ?_, fun y => ?_, fun y => ?_, fun y => ?_, fun y => ?_, fun y => ?_, fun y => ?_⟩ <;> first | exact absurd y (by decide) | exact q
end
end
section
/-! the reference: behind a row -/
section
variable {b : Nat → Int32} {n s m : Nat} {τ : Td} {K : List KE} {σ : PS} {M M' : Mem} {i o h : Nat} {Q : Option Value → Mem → Prop}
/-- the words 'end' -/
theorem go182 {f : Mem → Prop} (hR : RPs b n s m τ K σ M i o) (hB : By b) (hz : ∀ i, n ≤ i → b i = 0) (hS : Sto b n s) (h0 : tK b n i ≠ 0) (hE : EndP b n s m τ K σ o M (fun M' => Q (some (.int 0)) M') (ex b n i 43)) : DX11_goesOn_182 (h + 3) 29 M Q := by
  unfold DX11_goesOn_182
  refine ⟨ok29 hR.1.1, P_wantW (h := h) (k := 43) (j := 13) hR hB hz hS h0 (by decide) (by decide) (by decide) ?_⟩
  cases e : ex b n i 43 with
  | error y => rw [e] at hE; exact fun M4 T4 G4 _ => ⟨rfl, Or.inl rfl, hE M4 T4 G4⟩
  | ok r => rw [e] at hE; exact fun M4 R4 G4 _ => ⟨rfl, Or.inl rfl, hE M4 R4 G4⟩
theorem X_go182 {f : Int32} {p : Nat} (hT : TXr M f p) (H : Q (some (.int 0)) M) : DX11_goesOn_182 (h + 1) 29 M Q := by
  unfold DX11_goesOn_182
  exact ⟨ok29 hT.1, X_want (h := h) hT (fun _ => ⟨rfl, Or.inl rfl, H⟩)⟩
/-- the part that is open, and how many rows it has -/
theorem go_top {e : KE} {j : Nat} (hR : RPs b n s m τ (e :: K) σ M i o) (hl : K.length ≤ 15) : mI M 29 60 - 1 = Int32.ofNat K.length ∧ mAI M 76 K.length = Int32.ofNat e.1 ∧ mAI M 78 K.length = Int32.ofNat e.2.2.1 := by
  have d := hR.2.2.2.2.2.1.2.2.2.2.2.2
  refine ⟨?_, ?_, ?_⟩
  · rw [d.1.1, List.length_map]
    exact dec32 (by omega)
  · have z := (d.1 : St M 76 60 0 (e.1 :: K.map (fun e => e.1))).top
    rw [List.length_map, Nat.zero_add] at z
    exact z
  · have z := (d.2.2 : St M 78 60 0 (e.2.2.1 :: K.map (fun e => e.2.2.1))).top
    rw [List.length_map, Nat.zero_add] at z
    exact z
theorem ex_ok {c : Int32} {i2 : Nat} (hx : ex b n i c = .ok i2) : tK b n i2 ≠ 0 := by
  unfold ex at hx
  by_cases q : tK b n i = c
  · rw [if_pos q] at hx
    rcases adv_cases (b := b) (n := n) (i := i) with ⟨k1, e⟩ | ⟨k1, e⟩ <;> rw [e] at hx <;> cases hx
    exact k1
  · rw [if_neg q] at hx; cases hx
theorem P_goAll {e : KE} {j : Nat} (hR : RPs b n s m τ (e :: K) σ M i o) (hB : By b) (hz : ∀ i, n ≤ i → b i = 0) (hS : Sto b n s) (h0 : tK b n i ≠ 0) (hj : j < 40) (hl : K.length ≤ 15) (h58 : σ.1.2.1 58 (40 * m + j) = 16) (hm : e.2.2.1 ≤ 8) (H6 : tK b n i = 6 → e.2.2.1 ≠ 8 → (tK b n (i + 1) ≠ 0 → ∀ M', RPs b n s m τ (e :: K) σ M' (i + 1) o → RGp m M M' → Q (some (.int 1)) M') ∧ (tK b n (i + 1) = 0 → ∀ M', TXr M' 1 (tP b n (i + 1)) → RGp m M M' → Q (some (.int 0)) M')) (H8 : tK b n i = 6 → e.2.2.1 = 8 → ∀ M', TXr M' 6 (tP b n i) → RGp m M M' → Q (some (.int 0)) M') (HE : tK b n i ≠ 6 → EndP b n s m τ (e :: K) σ o M (fun M' => Q (some (.int 0)) M') (ex b n i 18)) : E (h + 4) mdX11_goesOn [.ref 29, .int (Int32.ofNat (40 * m + j))] M Q := by
  obtain ⟨c1, c2, c3, c4, c5, c6, c7⟩ := id hR
  have F := c1.1
  have h4 := c1.2.2.2.1
  have l40 := lt40 h4 hj
  obtain ⟨t1, t2, t3⟩ := go_top (j := j) hR hl
  have a58 : mAI M 58 (40 * m + j) = 16 := by rw [c6.2.2.1 58 (by decide) (by decide) (by decide)]; exact h58
  have c8 : (Int32.ofNat e.2.2.1 = 8) ↔ e.2.2.1 = 8 := z32 (a := e.2.2.1) (k := 8) (by omega) (by decide)
  refine KX11_goesOn ?_
  unfold DX11_goesOn_0
  rw [l40, t1, lt32 (n := K.length) (by omega)]
  refine ⟨ok29 F, 58, rf29_38 F, ok58 F, ix40 h4 hj (ln58 F), 78, rf29_59 F, ok78 F, by rw [ln78 F]; exact vp_of (by omega) (by decide), ?_⟩
  rw [a58, t3]
  refine ⟨fun z => absurd rfl z, fun _ => K_sign (h := h + 2) (k := 6) (hR.tk hB) (by decide) (by decide) (fun q6 _ => ⟨_, rfl, fun z => absurd z (by decide), fun _ => ⟨fun n8 => ?_, fun y8 => ?_⟩⟩) (fun n6 _ => ⟨_, rfl, fun _ => ?_, fun z => absurd rfl z⟩)⟩
  · have hs := hS.lt c2.2.2 h0 (by rw [q6]; decide)
    have hh := H6 q6 (fun z => n8 (c8.mpr z))
    refine P_take (h := h + 1) hR hB hz hs (by rw [q6]; decide) (fun k1 M5 R5 G5 _ => ⟨rfl, fun z => absurd R5.2.2.2.1 z, fun _ => ?_⟩) (fun k1 M5 T5 G5 _ => ⟨rfl, fun _ => ?_, fun z => absurd z T5.n0⟩)
    · unfold DX11_goesOn_75; exact ⟨Or.inr rfl, hh.1 k1 M5 R5 G5⟩
    · unfold DX11_goesOn_75; exact ⟨Or.inl rfl, hh.2 k1 M5 T5 G5⟩
  · exact P_failsA (h := h + 2) (H2 := fun M' => ((0 : Int32) = 0 ∨ (0 : Int32) = 1) ∧ Q (some (.int 0)) M') hR hB (by decide) (fun M' T' G' => ⟨Or.inl rfl, H8 q6 (c8.mp y8) M' T' G'⟩)
  · refine P_wantS (h := h) (k := 18) hR hB hz hS h0 (by decide) (by decide) ?_
    have hE := HE n6
    cases ew : ex b n i 18 with
    | error y => rw [ew] at hE; exact fun M4 T4 G4 _ => ⟨rfl, Or.inl rfl, hE M4 T4 G4⟩
    | ok r => rw [ew] at hE; exact fun M4 R4 G4 _ => ⟨rfl, Or.inl rfl, hE M4 R4 G4⟩
/-- present, if: 'else', or the end -/
theorem P_goElse {e : KE} {j lit x y : Nat} {k : Int32} (hR : RPs b n s m τ (e :: K) σ M i o) (hB : By b) (hz : ∀ i, n ≤ i → b i = 0) (hS : Sto b n s) (h0 : tK b n i ≠ 0) (hj : j < 40) (hl : K.length ≤ 15) (hk : k = 44 ∨ k = 58) (h58 : σ.1.2.1 58 (40 * m + j) = Int32.ofNat (soK k)) (hm : e.2.2.1 ≤ 8) (H1 : e.2.2.1 = 1 → tK b n i = 46 → (tK b n (i + 1) ≠ 0 → ∀ M', RPs b n s m τ (e :: K) σ M' (i + 1) o → RGp m M M' → Q (some (.int 1)) M') ∧ (tK b n (i + 1) = 0 → ∀ M', TXr M' 1 (tP b n (i + 1)) → RGp m M M' → Q (some (.int 0)) M')) (HE : ¬ (e.2.2.1 = 1 ∧ tK b n i = 46) → EndP b n s m τ (e :: K) σ o M (fun M' => Q (some (.int 0)) M') (ex b n i 43)) : E (h + 4) mdX11_goesOn [.ref 29, .int (Int32.ofNat (40 * m + j))] M Q := by
  obtain ⟨c1, c2, c3, c4, c5, c6, c7⟩ := id hR
  have F := c1.1
  have h4 := c1.2.2.2.1
  have l40 := lt40 h4 hj
  obtain ⟨t1, t2, t3⟩ := go_top (j := j) hR hl
  have a58 : mAI M 58 (40 * m + j) = Int32.ofNat (soK k) := by rw [c6.2.2.1 58 (by decide) (by decide) (by decide)]; exact h58
  have cc : (Int32.ofNat e.2.2.1 = 1) ↔ e.2.2.1 = 1 := z32 (a := e.2.2.1) (k := 1) (by omega) (by decide)
  have end' : ¬ (e.2.2.1 = 1 ∧ tK b n i = 46) → ∀ v : Int32, v = 6 ∨ v = 14 → DX11_goesOn_131 (h + 3) 29 (Int32.ofNat (40 * m + j)) v M Q := by
    intro hno v hv
    have hE := go182 (f := fun _ => True) (h := h) (Q := Q) hR hB hz hS h0 (HE hno)
    unfold DX11_goesOn_131 DX11_goesOn_163
    rcases hv with rfl | rfl
    · exact ⟨fun z => absurd z (by decide), fun _ => ⟨fun _ => ⟨fun _ => hE, fun z => absurd z (by decide)⟩, fun z => absurd z (by decide)⟩⟩
    · exact ⟨fun z => absurd z (by decide), fun _ => ⟨fun _ => ⟨fun _ => hE, fun z => absurd z (by decide)⟩, fun z => absurd z (by decide)⟩⟩
  have m98 : ∀ v : Int32, v = 6 ∨ v = 14 → DX11_goesOn_98 (h + 3) 29 (Int32.ofNat (40 * m + j)) v (Int32.ofNat e.2.2.1) M Q := by
    intro v hv
    unfold DX11_goesOn_98
    refine ⟨fun n1 => end' (fun z => n1 (cc.mpr z.1)) v hv, fun y1 => ⟨ok29 F, K_key (h := h + 2) (j := 16) (k := 46) (hR.tk hB) (by decide) (by decide) (by decide) (fun q _ => ⟨_, rfl, fun z => absurd z (by decide), fun _ => ?_⟩) (fun q _ => ⟨_, rfl, fun _ => end' (fun z => q z.2) v hv, fun z => absurd rfl z⟩)⟩⟩
    have hs := hS.lt c2.2.2 h0 (by rw [q]; decide)
    have hh := H1 (cc.mp y1) q
    refine P_take (h := h + 1) hR hB hz hs (by rw [q]; decide) (fun k1 M5 R5 G5 _ => ⟨rfl, fun z => absurd R5.2.2.2.1 z, fun _ => ?_⟩) (fun k1 M5 T5 G5 _ => ⟨rfl, fun _ => ?_, fun z => absurd z T5.n0⟩)
    · unfold DX11_goesOn_130; exact ⟨Or.inr rfl, hh.1 k1 M5 R5 G5⟩
    · unfold DX11_goesOn_130; exact ⟨Or.inl rfl, hh.2 k1 M5 T5 G5⟩
  refine KX11_goesOn ?_
  unfold DX11_goesOn_0
  rw [l40, t1, lt32 (n := K.length) (by omega)]
  refine ⟨ok29 F, 58, rf29_38 F, ok58 F, ix40 h4 hj (ln58 F), 78, rf29_59 F, ok78 F, by rw [ln78 F]; exact vp_of (by omega) (by decide), ?_⟩
  rw [a58, t3]
  rcases hk with rfl | rfl
  · exact ⟨fun _ => ⟨fun _ => m98 6 (Or.inl rfl), fun z => absurd (by decide) z⟩, fun z => absurd z (by decide)⟩
  · exact ⟨fun _ => ⟨fun z => absurd z (by decide), fun _ => ⟨fun z => absurd (by decide) z, fun _ => m98 14 (Or.inr rfl)⟩⟩, fun z => absurd z (by decide)⟩
end
end
section
/-! the reference: behind the only row of a part -/
section
variable {b : Nat → Int32} {n s m : Nat} {τ : Td} {K : List KE} {σ : PS} {M M' : Mem} {i o h : Nat} {Q : Option Value → Mem → Prop}
theorem RPs.tree {Θ : TrT} (hR : RPs b n s m τ K σ M i o) : RPs b n s m τ K (trP1 σ Θ) M i o := hR
theorem RPs.late {j f : Nat} {v : Int32} (hR : RPs b n s m τ K σ M i o) : RPs b n s m τ K (paP σ j f v) M i o := hR
theorem P_goTail {e : KE} {j aw lit x : Nat} {k : Int32} (hR : RPs b n s m τ (e :: K) σ M i o) (hB : By b) (hz : ∀ i, n ≤ i → b i = 0) (hS : Sto b n s) (h0 : tK b n i ≠ 0) (hj : j < 40) (hl : K.length ≤ 15) (hk : k = 42 ∨ k = 49 ∨ k = 50 ∨ k = 52 ∨ k = 53 ∨ k = 55) (h58 : σ.1.2.1 58 (40 * m + j) = Int32.ofNat (soK k)) (hE : EndQ b n s m τ (e :: K) o M (fun x => x.1) (fun M' => Q (some (.int 0)) M') (tlM b n m τ k j aw lit x i o σ)) : E (h + 9) mdX11_goesOn [.ref 29, .int (Int32.ofNat (40 * m + j))] M Q := by
  obtain ⟨c1, c2, c3, c4, c5, c6, c7⟩ := id hR
  have F := c1.1
  have h4 := c1.2.2.2.1
  have l40 := lt40 h4 hj
  obtain ⟨t1, t2, t3⟩ := go_top (j := j) hR hl
  have a58 : mAI M 58 (40 * m + j) = Int32.ofNat (soK k) := by rw [c6.2.2.1 58 (by decide) (by decide) (by decide)]; exact h58
  -- the end alone
  have fin : ∀ {α : Type} (g : Nat → Nat × (PS × α)), (∀ i2, (g i2).1 = i2 ∧ ∀ N o', RPs b n s m τ (e :: K) σ N i2 o' → RPs b n s m τ (e :: K) (g i2).2.1 N i2 o') → EndQ b n s m τ (e :: K) o M (fun x => x.1) (fun M' => Q (some (.int 0)) M') ((ex b n i 43).bind fun i2 => .ok (g i2)) → DX11_goesOn_182 (h + 8) 29 M Q := by
    intro α g hg hE
    refine go182 (f := fun _ => True) (h := h + 5) hR hB hz hS h0 ?_
    cases ew : ex b n i 43 with
    | error y => rw [ew] at hE; exact hE
    | ok i2 =>
      rw [ew] at hE
      have hE : ∀ M', RPs b n s m τ (e :: K) (g i2).2.1 M' (g i2).1 o → RGp m M M' → Q (some (.int 0)) M' := hE
      rw [(hg i2).1] at hE
      exact fun M' R' G' => hE M' ((hg i2).2 M' o R') G'
  -- a condition and the end
  have tail : ∀ {α : Type} {β : Type} (N : Mem) (R : Except (Int32 × Nat) (Nat × (PS × α))) (g : Nat × (PS × α) → Nat → Except (Int32 × Nat) (Nat × (PS × β))), RGp m M N → (∀ r i2, ∃ v : PS × β, g r i2 = .ok (i2, v) ∧ ∀ N o', RPs b n s m τ (e :: K) r.2.1 N i2 o' → RPs b n s m τ (e :: K) v.1 N i2 o') → (∀ r, R = .ok r → tK b n r.1 ≠ 0) → EndQ b n s m τ (e :: K) o M (fun x => x.1) (fun M' => Q (some (.int 0)) M') (R.bind fun r => (ex b n r.1 43).bind fun i2 => g r i2) → EndQ b n s m τ (e :: K) o N (fun x => x.1) (fun M' => DX11_goesOn_182 (h + 8) 29 M' Q) R := by
    intro α β N R g GN hg hr hE
    cases R with
    | error y => exact fun M' T' G' => X_go182 (h := h + 7) T' (hE M' T' (GN.tr G'))
    | ok r =>
      intro M' R' G'
      refine go182 (f := fun _ => True) (h := h + 5) R' hB hz hS (hr r rfl) ?_
      have hE : EndQ b n s m τ (e :: K) o M (fun x => x.1) (fun M' => Q (some (.int 0)) M') ((ex b n r.1 43).bind fun i2 => g r i2) := hE
      cases ew : ex b n r.1 43 with
      | error y => rw [ew] at hE; exact fun M5 T5 G5 => hE M5 T5 ((GN.tr G').tr G5)
      | ok i2 =>
        rw [ew] at hE
        have hE : EndQ b n s m τ (e :: K) o M (fun x => x.1) (fun M' => Q (some (.int 0)) M') (g r i2) := hE
        obtain ⟨v, ev, hv⟩ := hg r i2
        rw [ev] at hE
        exact fun M5 R5 G5 => hE M5 (hv M5 o R5) ((GN.tr G').tr G5)
  refine KX11_goesOn ?_
  unfold DX11_goesOn_0
  rw [l40, t1, lt32 (n := K.length) (by omega)]
  refine ⟨ok29 F, 58, rf29_38 F, ok58 F, ix40 h4 hj (ln58 F), 78, rf29_59 F, ok78 F, by rw [ln78 F]; exact vp_of (by omega) (by decide), ?_⟩
  rw [a58, t3]
  have n131 : ∀ v : Int32, v ≠ 16 → v ≠ 6 → v ≠ 14 → DX11_goesOn_131 (h + 8) 29 (Int32.ofNat (40 * m + j)) v M Q → ((¬ v = 16 → (v = 6 → DX11_goesOn_98 (h + 8) 29 (Int32.ofNat (40 * m + j)) v (Int32.ofNat e.2.2.1) M Q) ∧ (¬ v = 6 → (¬ v = 14 → DX11_goesOn_131 (h + 8) 29 (Int32.ofNat (40 * m + j)) v M Q) ∧ (v = 14 → DX11_goesOn_98 (h + 8) 29 (Int32.ofNat (40 * m + j)) v (Int32.ofNat e.2.2.1) M Q)))) := fun v h1 h2 h3 hd _ => ⟨fun z => absurd z h2, fun _ => ⟨fun _ => hd, fun z => absurd z h3⟩⟩
  -- kinds that have the end alone
  have plain : ∀ v : Int32, v ≠ 8 → v ≠ 9 → v ≠ 10 → DX11_goesOn_182 (h + 8) 29 M Q → DX11_goesOn_131 (h + 8) 29 (Int32.ofNat (40 * m + j)) v M Q := by
    intro v h1 h2 h3 hd
    unfold DX11_goesOn_131 DX11_goesOn_163
    exact ⟨fun z => absurd z h1, fun _ => ⟨fun _ => ⟨fun _ => hd, fun z => absurd z h3⟩, fun z => absurd z h2⟩⟩
  -- abort, weak
  have cond8 : ∀ v : Int32, v = 8 ∨ v = 9 → (∀ M2 i2, ex b n i 51 = .ok i2 → RPs b n s m τ (e :: K) σ M2 i2 o → RGp m M M2 → E (h + 8) mdX11_atOnceOf [.ref 29, .int (Int32.ofNat (40 * m + j))] M2 (fun r M3 => mE M2 M3 → r = none ∧ DX11_goesOn_182 (h + 8) 29 M3 Q)) → (∀ y, ex b n i 51 = .error y → ∀ M', TXr M' y.1 y.2 → RGp m M M' → Q (some (.int 0)) M') → DX11_goesOn_131 (h + 8) 29 (Int32.ofNat (40 * m + j)) v M Q := by
    intro v hv H1 H2
    have n10 : ¬ v = 10 := by rcases hv with rfl | rfl <;> decide
    have d143 : DX11_goesOn_143 (h + 8) 29 (Int32.ofNat (40 * m + j)) v M Q := by
      unfold DX11_goesOn_143 DX11_goesOn_163
      refine ⟨ok29 F, P_wantW (h := h + 5) (k := 51) (j := 21) hR hB hz hS h0 (by decide) (by decide) (by decide) ?_⟩
      cases ew : ex b n i 51 with
      | error y => exact fun M2 T2 G2 _ => ⟨rfl, fun _ => ⟨fun _ => X_go182 (h := h + 7) T2 (H2 y ew M2 T2 G2), fun z => absurd z n10⟩, fun z => absurd z T2.n0⟩
      | ok i2 => exact fun M2 R2 G2 _ => ⟨rfl, fun z => absurd R2.2.2.2.1 z, fun _ => (H1 M2 i2 ew R2 G2).imp (fun r M3 hm q _ => ⟨(q hm).1, ⟨fun _ => (q hm).2, fun z => absurd z n10⟩⟩)⟩
    unfold DX11_goesOn_131
    rcases hv with rfl | rfl
    · exact ⟨fun _ => d143, fun z => absurd rfl z⟩
    · exact ⟨fun z => absurd z (by decide), fun _ => ⟨fun z => absurd rfl z, fun _ => d143⟩⟩
  have atok : ∀ (M2 : Mem) (i2 : Nat) (r : Nat × PS × Nat × Bool), RPs b n s m τ (e :: K) σ M2 i2 o → tK b n i2 ≠ 0 → atM b n m τ j i2 o σ = .ok r → tK b n r.1 ≠ 0 := by
    intro M2 i2 r R2 k2 er
    have := atM_ok (F := True) (m := m) (τ := τ) (j := j) (o := o) (σ := σ) hS R2.2.1.2.2 k2
    rw [er] at this
    exact this.2.2.1
  rcases hk with rfl | rfl | rfl | rfl | rfl | rfl
  · -- loop
    refine ⟨n131 _ (by decide) (by decide) (by decide) (plain _ (by decide) (by decide) (by decide) (fin (α := Nat) (fun i2 => (i2, trP1 (if (trS σ).2.2 13 x &&& 1 = 0 then σ else paP σ j 2 7) (wrT (trS σ) 6 x).1, (wrT (trS σ) 6 x).2)) (fun i2 => ⟨rfl, fun N o' q => ?_⟩) hE)), fun z => absurd z (by decide)⟩
    show RPs b n s m τ (e :: K) (trP1 (if (trS σ).2.2 13 x &&& 1 = 0 then σ else paP σ j 2 7) (wrT (trS σ) 6 x).1) N i2 o'
    by_cases w : (trS σ).2.2 13 x &&& 1 = 0
    · rw [if_pos w]; exact q.tree
    · rw [if_neg w]; exact q.late.tree
  · -- abort
    have hE : EndQ b n s m τ (e :: K) o M (fun x => x.1) (fun M' => Q (some (.int 0)) M') ((ex b n i 51).bind fun i2 => (atM b n m τ j i2 o σ).bind fun r => (ex b n r.1 43).bind fun i3 => if r.2.2.2 = true then .ok (i3, trP1 r.2.1 (chT (mkT (abT (trS r.2.1) x (Int32.ofNat r.2.2.1)).1 0).1 (Int32.ofNat r.2.2.1) (mkT (abT (trS r.2.1) x (Int32.ofNat r.2.2.1)).1 0).2 (abT (trS r.2.1) x (Int32.ofNat r.2.2.1)).2).1, (chT (mkT (abT (trS r.2.1) x (Int32.ofNat r.2.2.1)).1 0).1 (Int32.ofNat r.2.2.1) (mkT (abT (trS r.2.1) x (Int32.ofNat r.2.2.1)).1 0).2 (abT (trS r.2.1) x (Int32.ofNat r.2.2.1)).2).2) else .ok (i3, trP1 r.2.1 (abT (trS r.2.1) x (Int32.ofNat r.2.2.1)).1, (abT (trS r.2.1) x (Int32.ofNat r.2.2.1)).2)) := hE
    refine ⟨n131 _ (by decide) (by decide) (by decide) (cond8 _ (Or.inl rfl) (fun M2 i2 ew R2 G2 => ?_) (fun y ew => ?_)), fun z => absurd z (by decide)⟩
    · rw [ew] at hE
      refine P_at (h := h + 1) R2 hB hz hS (ex_ok ew) hj ?_
      have T := tail (α := Nat × Bool) (β := Nat) M2 (atM b n m τ j i2 o σ) (fun r i3 => if r.2.2.2 = true then .ok (i3, trP1 r.2.1 (chT (mkT (abT (trS r.2.1) x (Int32.ofNat r.2.2.1)).1 0).1 (Int32.ofNat r.2.2.1) (mkT (abT (trS r.2.1) x (Int32.ofNat r.2.2.1)).1 0).2 (abT (trS r.2.1) x (Int32.ofNat r.2.2.1)).2).1, (chT (mkT (abT (trS r.2.1) x (Int32.ofNat r.2.2.1)).1 0).1 (Int32.ofNat r.2.2.1) (mkT (abT (trS r.2.1) x (Int32.ofNat r.2.2.1)).1 0).2 (abT (trS r.2.1) x (Int32.ofNat r.2.2.1)).2).2) else .ok (i3, trP1 r.2.1 (abT (trS r.2.1) x (Int32.ofNat r.2.2.1)).1, (abT (trS r.2.1) x (Int32.ofNat r.2.2.1)).2)) G2 (fun r i3 => by
        by_cases w : r.2.2.2 = true
        · exact ⟨_, if_pos w, fun N o' q => q.tree⟩
        · exact ⟨_, if_neg w, fun N o' q => q.tree⟩) (fun r er => atok M2 i2 r R2 (ex_ok ew) er) hE
      cases e1 : atM b n m τ j i2 o σ with
      | error y => rw [e1] at T; exact fun M' T' G' _ => ⟨rfl, T M' T' G'⟩
      | ok r => rw [e1] at T; exact fun M' R' G' _ => ⟨rfl, T M' R' G'⟩
    · rw [ew] at hE; exact hE
  · -- weak
    have hE : EndQ b n s m τ (e :: K) o M (fun x => x.1) (fun M' => Q (some (.int 0)) M') ((ex b n i 51).bind fun i2 => (atM b n m τ j i2 o σ).bind fun r => (ex b n r.1 43).bind fun i3 => .ok (i3, trP1 r.2.1 (wkT (trS r.2.1) x (Int32.ofNat r.2.2.1) r.2.2.2).1, (wkT (trS r.2.1) x (Int32.ofNat r.2.2.1) r.2.2.2).2)) := hE
    refine ⟨n131 _ (by decide) (by decide) (by decide) (cond8 _ (Or.inr rfl) (fun M2 i2 ew R2 G2 => ?_) (fun y ew => ?_)), fun z => absurd z (by decide)⟩
    · rw [ew] at hE
      refine P_at (h := h + 1) R2 hB hz hS (ex_ok ew) hj ?_
      have T := tail (α := Nat × Bool) (β := Nat) M2 (atM b n m τ j i2 o σ) (fun r i3 => .ok (i3, trP1 r.2.1 (wkT (trS r.2.1) x (Int32.ofNat r.2.2.1) r.2.2.2).1, (wkT (trS r.2.1) x (Int32.ofNat r.2.2.1) r.2.2.2).2)) G2 (fun r i3 => ⟨_, rfl, fun N o' q => q.tree⟩) (fun r er => atok M2 i2 r R2 (ex_ok ew) er) hE
      cases e1 : atM b n m τ j i2 o σ with
      | error y => rw [e1] at T; exact fun M' T' G' _ => ⟨rfl, T M' T' G'⟩
      | ok r => rw [e1] at T; exact fun M' R' G' _ => ⟨rfl, T M' R' G'⟩
    · rw [ew] at hE; exact hE
  · -- suspend
    have hE : EndQ b n s m τ (e :: K) o M (fun x => x.1) (fun M' => Q (some (.int 0)) M') ((ex b n i 51).bind fun i2 => (coM b n m τ j i2 o σ).bind fun r => (ex b n r.1 43).bind fun i3 => .ok (i3, trP1 r.2.1 (suT (trS r.2.1) x (Int32.ofNat r.2.2)).1, (suT (trS r.2.1) x (Int32.ofNat r.2.2)).2)) := hE
    refine ⟨n131 _ (by decide) (by decide) (by decide) ?_, fun z => absurd z (by decide)⟩
    unfold DX11_goesOn_131 DX11_goesOn_163
    refine ⟨fun z => absurd z (by decide), fun _ => ⟨fun _ => ⟨fun z => absurd (by decide) z, fun _ => ⟨ok29 F, P_wantW (h := h + 5) (k := 51) (j := 21) hR hB hz hS h0 (by decide) (by decide) (by decide) ?_⟩⟩, fun z => absurd z (by decide)⟩⟩
    cases ew : ex b n i 51 with
    | error y =>
      rw [ew] at hE
      exact fun M2 T2 G2 _ => ⟨rfl, X_condOf (h := h + 7) T2 (fun _ => ⟨rfl, X_go182 (h := h + 7) T2 (hE M2 T2 G2)⟩)⟩
    | ok i2 =>
      rw [ew] at hE
      intro M2 R2 G2 _
      refine ⟨rfl, P_cond (h := h + 2) R2 hB hz hS (ex_ok ew) hj ?_⟩
      have T := tail (α := Nat) (β := Nat) M2 (coM b n m τ j i2 o σ) (fun r i3 => .ok (i3, trP1 r.2.1 (suT (trS r.2.1) x (Int32.ofNat r.2.2)).1, (suT (trS r.2.1) x (Int32.ofNat r.2.2)).2)) G2 (fun r i3 => ⟨_, rfl, fun N o' q => q.tree⟩) (fun r er => by
        have := coM_ok (F := True) (m := m) (τ := τ) (j := j) (o := o) (σ := σ) hS R2.2.1.2.2 (ex_ok ew)
        rw [er] at this
        exact this.2.2.1) hE
      cases e1 : coM b n m τ j i2 o σ with
      | error y => rw [e1] at T; exact fun M' T' G' _ => ⟨rfl, T M' T' G'⟩
      | ok r => rw [e1] at T; exact fun M' R' G' _ => ⟨rfl, T M' R' G'⟩
  · -- every
    exact ⟨n131 _ (by decide) (by decide) (by decide) (plain _ (by decide) (by decide) (by decide) (fin (α := Nat) (fun i2 => (i2, trP1 σ (evT (trS σ) x aw (Int32.ofNat lit)).1, (evT (trS σ) x aw (Int32.ofNat lit)).2)) (fun i2 => ⟨rfl, fun N o' q => q.tree⟩) hE)), fun z => absurd z (by decide)⟩
  · -- trap
    exact ⟨n131 _ (by decide) (by decide) (by decide) (plain _ (by decide) (by decide) (by decide) (fin (α := Nat) (fun i2 => (i2, trP1 σ (wrT (trS σ) 9 x).1, (wrT (trS σ) 9 x).2)) (fun i2 => ⟨rfl, fun N o' q => q.tree⟩) hE)), fun z => absurd z (by decide)⟩
end
end
section
/-! the reference: its loop over parts, and what is behind a part -/
/-- the loop's head, going on -/
def SLp (h : Nat) (Q : Option Value → Mem → Prop) (M : Mem) : Prop := T (h + 14) mdX11_readParts 22 [(0, .ref 29), (1, .int 0), (2, .int 1)] [] M Q
def PBq (h : Nat) (Q : Option Value → Mem → Prop) : Option Value → Mem → Prop := fun r M1 => ∃ v : Int32, r = some (.int v) ∧ T (h + 14) mdX11_readParts 22 [(0, .ref 29), (1, .int 0), (2, .int v)] [] M1 Q
/-- behind a part -/
def SBh (h : Nat) (Q : Option Value → Mem → Prop) (M : Mem) : Prop := DX11_behindPart_0 (h + 12) 29 M (PBq h Q)
section
variable {b : Nat → Int32} {n s m : Nat} {τ : Td} {K : List KE} {σ : PS} {M M' : Mem} {i o h : Nat} {Q : Option Value → Mem → Prop}
theorem X_loop {f v : Int32} {p : Nat} (hT : TXr M f p) (H : Q (some (.int 0)) M) : T (h + 14) mdX11_readParts 22 [(0, .ref 29), (1, .int 0), (2, .int v)] [] M Q := by
  refine VX11_readParts_22 ?_
  unfold DX11_readParts_22 DX11_readParts_160
  exact ⟨fun _ => H, fun _ => ⟨ok29 hT.1, fun _ => H, fun z => absurd z hT.n0⟩⟩
theorem X_behind {f : Int32} {p : Nat} (hT : TXr M f p) (H : Q (some (.int 0)) M) : SBh h Q M := by
  unfold SBh DX11_behindPart_0
  exact ⟨ok29 hT.1, fun _ => ⟨Or.inl rfl, ⟨0, rfl, X_loop hT H⟩⟩, fun z => absurd z hT.n0⟩
theorem R_semi (hR : RPs b n s m τ K σ M i o) (hB : By b) (hz : ∀ i, n ≤ i → b i = 0) (hS : Sto b n s) (h13 : tK b n i = 13) (H1 : tK b n (i + 1) ≠ 0 → ∀ M', RPs b n s m τ K σ M' (i + 1) o → RGp m M M' → SLp h Q M') (H0 : tK b n (i + 1) = 0 → ∀ M', TXr M' 1 (tP b n (i + 1)) → RGp m M M' → Q (some (.int 0)) M') : SBh h Q M := by
  have F := hR.1.1
  have hs := hS.lt hR.2.1.2.2 (by rw [h13]; decide) (by rw [h13]; decide)
  unfold SBh DX11_behindPart_0
  refine ⟨ok29 F, fun z => absurd hR.2.2.2.1 z, fun _ => K_sign (h := h + 11) (k := 13) (hR.tk hB) (by decide) (by decide) (fun _ _ => ⟨_, rfl, fun z => absurd z (by decide), fun _ => ?_⟩) (fun z => absurd h13 z)⟩
  refine P_take (h := h + 10) hR hB hz hs (by rw [h13]; decide) (fun k1 M5 R5 G5 _ => ⟨rfl, fun z => absurd R5.2.2.2.1 z, fun _ => ?_⟩) (fun k1 M5 T5 G5 _ => ⟨rfl, fun _ => ?_, fun z => absurd z T5.n0⟩)
  · unfold DX11_behindPart_34; exact ⟨Or.inr rfl, 1, rfl, H1 k1 M5 R5 G5⟩
  · unfold DX11_behindPart_34; exact ⟨Or.inl rfl, 0, rfl, X_loop T5 (H0 k1 M5 T5 G5)⟩
/-- the whole text is read -/
theorem R_done (hR : RPs b n s m τ [] σ M i o) (hB : By b) (h13 : tK b n i ≠ 13) (H1 : tK b n i = 1 → Q (some (.int 0)) M) (H2 : tK b n i ≠ 1 → ∀ M', TXr M' 2 (tP b n i) → RGp m M M' → Q (some (.int 0)) M') (he : mAI M 31 i = 0 ↔ tK b n i = 1) : SBh h Q M := by
  have F := hR.1.1
  have hi := hR.2.1
  have i60 : mI M 29 60 = 0 := hR.2.2.2.2.2.1.2.2.2.2.2.2.1.1
  have stop : ∀ {N : Mem}, Q (some (.int 0)) N → T (h + 14) mdX11_readParts 22 [(0, .ref 29), (1, .int 0), (2, .int 0)] [] N Q := fun q => by
    refine VX11_readParts_22 ?_
    unfold DX11_readParts_22 DX11_readParts_160
    exact ⟨fun _ => q, fun z => absurd rfl z⟩
  unfold SBh DX11_behindPart_0 DX11_behindPart_68
  refine ⟨ok29 F, fun z => absurd hR.2.2.2.1 z, fun _ => K_sign (h := h + 11) (k := 13) (hR.tk hB) (by decide) (by decide) (fun z => absurd z h13) (fun _ _ => ⟨_, rfl, fun _ => ⟨fun z => absurd i60 z, fun _ => ?_⟩, fun z => absurd rfl z⟩)⟩
  refine ⟨31, rf29_2 F, ok31 F, by rw [ln31 F, hR.2.2.1]; exact vp_of (by omega) (by decide), ?_⟩
  rw [hR.2.2.1, lt32 (by omega)]
  refine ⟨fun z => ⟨Or.inl rfl, 0, rfl, stop (H1 (he.mp z))⟩, fun z => ?_⟩
  have := P_failsA (h := h + 11) (c := 2) (H2 := fun M' => ((0 : Int32) = 0 ∨ (0 : Int32) = 1) ∧ PBq h Q (some (.int 0)) M') hR hB (by decide) (fun M' T' G' => ⟨Or.inl rfl, 0, rfl, stop (H2 (fun w => z (he.mpr w)) M' T' G')⟩)
  rw [hR.2.2.1, lt32 (by omega)] at this
  exact this
/-- what goesOn may come to, the part e being open -/
def GPo (b : Nat → Int32) (n s m : Nat) (τ : Td) (K : List KE) (e : KE) (h : Nat) (Q : Option Value → Mem → Prop) : Option Value → Mem → Prop := fun r M6 => (∃ f p, r = some (.int 0) ∧ TXr M6 f p ∧ Q (some (.int 0)) M6) ∨ (∃ σ' i', r = some (.int 0) ∧ RPs b n s m τ (e :: K) σ' M6 i' (K.length + 1) ∧ npS σ' ≤ 40 ∧ ∀ M', RPs b n s m τ K (raP σ' (up2 σ'.1.2.1 71 e.1 (Int32.ofNat (40 * m + npS σ')))) M' i' K.length → RGp m M6 M' → SBh h Q M') ∨ (∃ σ' i', r = some (.int 1) ∧ RPs b n s m τ (e :: K) σ' M6 i' (K.length + 1) ∧ (σ'.1.1 4 < 100 ∧ e.2.1 < 100 ∧ σ'.1.2.1 69 e.1 ≠ -1) ∧ ∀ M', RPs b n s m τ ((e.1, σ'.1.1 4, e.2.2.1 + 1, e.2.2.2) :: K) (rwP e.1 (some e.2.1) σ') M' i' (K.length + 1) → RGp m M6 M' → SLp h Q M')
theorem RPd.pop {e : KE} (hd : RPd m τ (e :: K) σ M) : RPd m τ K σ (wI M 29 60 (Int32.ofNat K.length)) := by
  obtain ⟨d1, d2, d3, d4, d5, d6, d7, d8, d9⟩ := hd
  have e3 : mI (wI M 29 60 (Int32.ofNat K.length)) 29 53 = mI M 29 53 := by rw [mI_wI, if_neg (by decide)]
  have l : ∀ (g : KE → Nat), (K.map g).length = K.length := fun g => List.length_map _
  exact ⟨d1.fr rfl rfl rfl rfl, d2.fr rfl rfl rfl rfl rfl, d3, d4, d5, e3.trans d6, St.pop (x := e.1) d7 (by rw [l]), St.pop (x := e.2.1) d8 (by rw [l]), St.pop (x := e.2.2.1) d9 (by rw [l])⟩
theorem R_behind {e : KE} {j : Nat} (hR : RPs b n s m τ (e :: K) σ M i (K.length + 1)) (hB : By b) (h13 : tK b n i ≠ 13) (hj : j < 40) (he : e.1 = 40 * m + j) (hl : K.length ≤ 14) (hG : E (h + 12) mdX11_goesOn [.ref 29, .int (Int32.ofNat (40 * m + j))] M (GPo b n s m τ K e h Q)) : SBh h Q M := by
  have F := hR.1.1
  have h4 := hR.1.2.2.2.1
  have l40 := lt40 h4 hj
  obtain ⟨t1, t2, t3⟩ := go_top (j := j) hR (by omega)
  have i60 : mI M 29 60 = Int32.ofNat (K.length + 1) := by
    have z := hR.2.2.2.2.2.1.2.2.2.2.2.2.1.1
    rw [List.length_map] at z
    exact z
  unfold SBh DX11_behindPart_0
  refine ⟨ok29 F, fun z => absurd hR.2.2.2.1 z, fun _ => K_sign (h := h + 11) (k := 13) (hR.tk hB) (by decide) (by decide) (fun z => absurd z h13) (fun _ _ => ⟨_, rfl, fun _ => ⟨fun _ => ?_, fun z => ?_⟩, fun z => absurd rfl z⟩)⟩
  · refine ⟨76, rf29_57 F, ok76 F, by rw [ln76 F, t1]; exact vp_of (by omega) (by decide), ?_⟩
    rw [t1, lt32 (n := K.length) (by omega), t2, he]
    refine hG.imp (fun r M6 _ g _ => ?_)
    rcases g with ⟨f, p, rfl, T6, q⟩ | ⟨σ', i', rfl, R6, h40, g⟩ | ⟨σ', i', rfl, R6, ⟨g1, g2, g3⟩, g⟩
    · refine ⟨_, rfl, fun _ => ⟨fun _ => ?_, fun z => absurd z T6.n0⟩, fun z => absurd rfl z⟩
      unfold DX11_behindPart_147
      exact VX11_behindPart_0 (X_behind T6 q)
    · refine ⟨_, rfl, fun _ => ⟨fun z => absurd R6.2.2.2.1 z, fun _ M8 e8 M9 e9 => ?_⟩, fun z => absurd rfl z⟩
      have R6' := R6
      obtain ⟨c1, c2, c3, c4, c5, c6, c7⟩ := R6
      rw [c5, dec32 (by omega)] at e8
      have R8 := R6'.op (o' := K.length) (by omega)
      rw [← e8] at R8
      have i608 : mI M8 29 60 = Int32.ofNat (K.length + 1) := by
        have z := R8.2.2.2.2.2.1.2.2.2.2.2.2.1.1
        rw [List.length_map] at z
        exact z
      rw [i608, dec32 (by omega)] at e9
      have G8 : RGp m M6 M8 := by rw [e8]; exact RG.i (by decide)
      have G9 : RGp m M8 M9 := by rw [e9]; exact RG.i (by decide)
      have R9 : RPs b n s m τ K σ' M9 i' K.length := by
        obtain ⟨x1, x2, x3, x4, x5, x6, x7⟩ := R8
        have D9 := x6.pop
        rw [← e9] at D9
        exact ⟨x1.rg G9, x2, by rw [e9]; simp [x3, mNwI, mSwI, mKwI, mIwI, mJwI, mRwI, mLwI, mAIwI, mAJwI, mARwI, mNwJ, mSwJ, mKwJ, mIwJ, mJwJ, mRwJ, mLwJ, mAIwJ, mAJwJ, mARwJ, mNwR, mSwR, mKwR, mIwR, mJwR, mRwR, mLwR, mAIwR, mAJwR, mARwR, mNwAI, mSwAI, mKwAI, mIwAI, mJwAI, mRwAI, mLwAI, mAIwAI, mAJwAI, mARwAI, mNwAJ, mSwAJ, mKwAJ, mIwAJ, mJwAJ, mRwAJ, mLwAJ, mAIwAJ, mAJwAJ, mARwAJ, mNwAR, mSwAR, mKwAR, mIwAR, mJwAR, mRwAR, mLwAR, mAIwAR, mAJwAR, mARwAR, okkwI, okkwJ, okkwR, okkwAI, okkwAJ, okkwAR], by rw [e9]; simp [x4, mNwI, mSwI, mKwI, mIwI, mJwI, mRwI, mLwI, mAIwI, mAJwI, mARwI, mNwJ, mSwJ, mKwJ, mIwJ, mJwJ, mRwJ, mLwJ, mAIwJ, mAJwJ, mARwJ, mNwR, mSwR, mKwR, mIwR, mJwR, mRwR, mLwR, mAIwR, mAJwR, mARwR, mNwAI, mSwAI, mKwAI, mIwAI, mJwAI, mRwAI, mLwAI, mAIwAI, mAJwAI, mARwAI, mNwAJ, mSwAJ, mKwAJ, mIwAJ, mJwAJ, mRwAJ, mLwAJ, mAIwAJ, mAJwAJ, mARwAJ, mNwAR, mSwAR, mKwAR, mIwAR, mJwAR, mRwAR, mLwAR, mAIwAR, mAJwAR, mARwAR, okkwI, okkwJ, okkwR, okkwAI, okkwAJ, okkwAR], by rw [e9]; simp [x5, mNwI, mSwI, mKwI, mIwI, mJwI, mRwI, mLwI, mAIwI, mAJwI, mARwI, mNwJ, mSwJ, mKwJ, mIwJ, mJwJ, mRwJ, mLwJ, mAIwJ, mAJwJ, mARwJ, mNwR, mSwR, mKwR, mIwR, mJwR, mRwR, mLwR, mAIwR, mAJwR, mARwR, mNwAI, mSwAI, mKwAI, mIwAI, mJwAI, mRwAI, mLwAI, mAIwAI, mAJwAI, mARwAI, mNwAJ, mSwAJ, mKwAJ, mIwAJ, mJwAJ, mRwAJ, mLwAJ, mAIwAJ, mAJwAJ, mARwAJ, mNwAR, mSwAR, mKwAR, mIwAR, mJwAR, mRwAR, mLwAR, mAIwAR, mAJwAR, mARwAR, okkwI, okkwJ, okkwR, okkwAI, okkwAJ, okkwAR], D9, x7⟩
      have F9 := R9.1.1
      have m9 := R9.1.2.2.1
      have eP : (40 : Int32) * Int32.ofNat m + mAI M9 54 m = Int32.ofNat (40 * m + npS σ') := off32 (a := 40) R9.2.2.2.2.2.1.2.2.2.2.1.1
      refine ⟨71, rf29_51 F9, 54, rf29_34 F9, ok54 F9, by rw [ln54 F9, m9]; exact vp_of h4 (by decide), ok71 F9, ix40 h4 hj (ln71 F9), fun M14 e14 => ?_⟩
      rw [m9, lt32 (n := m) (by omega), eP, l40] at e14
      have R14 := R9.ra (c := 71) (k := 40 * m + j) (v := Int32.ofNat (40 * m + npS σ')) (by decide) (by decide) (by decide) (by rw [sz_p (by decide) (by decide)]; omega)
      rw [← e14] at R14
      unfold DX11_behindPart_147
      refine VX11_behindPart_0 (g M14 (by rw [he]; exact R14) ((G8.tr G9).tr ?_))
      rw [e14]
      exact RGp.ra (by decide) (by decide) (by decide) (by rw [sz_p (by decide) (by decide)]; omega)
    · refine ⟨_, rfl, fun z => absurd z (by decide), fun _ => ?_⟩
      have F6 := R6.1.1
      rw [he] at g3 g
      refine P_openRow (h := h + 10) F6 h4 hj R6.2.2.2.2.2.1 he (by omega) g1 (fun z => absurd z g3) (fun _ => ⟨g2, fun M7 D7 G7 I7 _ => ⟨rfl, Or.inr rfl, 1, rfl, g M7 ?_ G7⟩⟩)
      obtain ⟨c1, c2, c3, c4, c5, c6, c7⟩ := R6
      rw [← he]
      rw [← he] at D7
      exact ⟨c1.rg G7, c2, by rw [I7 5 (by decide)]; exact c3, by rw [I7 6 (by decide)]; exact c4, by rw [I7 33 (by decide)]; exact c5, D7, c7⟩
  · rw [i60] at z
    exact absurd ((z32 (a := K.length + 1) (k := 0) (by omega) (by decide)).mp z) (by omega)
end
end
section
/-! the reference: a part with rows is opened -/
section
variable {b : Nat → Int32} {n s m : Nat} {τ : Td} {K : List KE} {σ : PS} {M M' : Mem} {i o h : Nat} {Q : Option Value → Mem → Prop}
theorem bg58 {k : Int32} {pl q d : Nat} {wh : Int32} : (bgP m k pl q d wh σ).1.2.1 58 (40 * m + npS σ) = Int32.ofNat (soK k) ∧ (bgP m k pl q d wh σ).1.2.1 69 (40 * m + npS σ) = -1 := by
  constructor
  · show bgA (40 * m + σ.1.1 0) (soK k) pl q wh σ.1.2.1 58 (40 * m + σ.1.1 0) = _
    unfold bgA
    rw [up2_ne (fun z => absurd z.1 (by decide)), lk_ne (by decide) (fun z => absurd z.1 (by decide))]
    simp [up2]
  · show bgA (40 * m + σ.1.1 0) (soK k) pl q wh σ.1.2.1 69 (40 * m + σ.1.1 0) = _
    unfold bgA
    rw [up2_ne (fun z => absurd z.1 (by decide)), lk_ne (by decide) (fun z => absurd z.1 (by decide))]
    simp [up2]
theorem RPd.push {p : Nat} {nm : Option Int64} {M1 M2 M3 : Mem} (hd : RPd m τ K σ M) (e1 : M1 = wAI M 76 K.length (Int32.ofNat p)) (e2 : M2 = wAI M1 78 K.length 0) (e3 : M3 = wI M2 29 60 (Int32.ofNat (K.length + 1))) : ∃ x, RPd m τ ((p, x, 0, nm) :: K) σ M3 := by
  obtain ⟨d1, d2, d3, d4, d5, d6, d7, d8, d9⟩ := hd
  obtain ⟨x, hx⟩ := i32_nat (mAI M 77 K.length)
  have nA : ∀ {a : Nat}, a ≠ 76 → a ≠ 78 → mAI M3 a = mAI M a := fun q1 q2 => by rw [e3, e2, e1]; exact (mAI_wAI_ne q2).trans (mAI_wAI_ne q1)
  have i53 : mI M3 29 53 = mI M 29 53 := by rw [e3, e2, e1, mI_wI, if_neg (by decide)]; rfl
  have i60 : mI M3 29 60 = Int32.ofNat (K.length + 1) := by rw [e3]; exact mI_own _ _ _ _
  have l : ∀ (g : KE → Nat), (K.map g).length = K.length := fun g => List.length_map _
  have s76 : St M3 76 60 0 (p :: K.map (fun e => e.1)) := by
    have z := St.push (x := p) d7 (M' := wI (wAI M 76 K.length (Int32.ofNat p)) 29 60 (Int32.ofNat (K.length + 1))) (by rw [l, Nat.zero_add])
    refine z.fr ?_ ?_
    · rw [i60]; exact (mI_own _ _ _ _).symm
    · rw [e3, e2, e1]; exact mAI_wAI_ne (by decide)
  have s77 : St M3 77 60 0 (x :: K.map (fun e => e.2.1)) := by
    have z := St.push (x := x) d8 (M' := wI (wAI M 77 K.length (Int32.ofNat x)) 29 60 (Int32.ofNat (K.length + 1))) (by rw [l, Nat.zero_add])
    refine z.fr ?_ ?_
    · rw [i60]; exact (mI_own _ _ _ _).symm
    · rw [nA (by decide) (by decide)]
      show mAI M 77 = up2 (mAI M) 77 K.length (Int32.ofNat x) 77
      funext j
      unfold up2
      by_cases q : j = K.length
      · rw [if_pos ⟨rfl, q⟩, q]; exact hx
      · rw [if_neg (fun w => q w.2)]
  have s78 : St M3 78 60 0 (0 :: K.map (fun e => e.2.2.1)) := by
    have z := St.push (x := 0) d9 (M' := wI (wAI M 78 K.length (Int32.ofNat 0)) 29 60 (Int32.ofNat (K.length + 1))) (by rw [l])
    refine z.fr ?_ ?_
    · rw [i60]; exact (mI_own _ _ _ _).symm
    · rw [e3, e2, e1]
      show up2 (up2 (mAI M) 76 K.length (Int32.ofNat p)) 78 K.length 0 78 = up2 (mAI M) 78 K.length (Int32.ofNat 0) 78
      funext j
      unfold up2
      by_cases q : j = K.length
      · rw [if_pos ⟨rfl, q⟩, if_pos ⟨rfl, q⟩]; rfl
      · simp [q]
  have aJ : mAJ M3 = mAJ M := by rw [e3, e2, e1]; rfl
  exact ⟨x, d1.fr (nA (by decide) (by decide)) (nA (by decide) (by decide)) (by rw [aJ]) (nA (by decide) (by decide)), d2.fr (nA (by decide) (by decide)) (nA (by decide) (by decide)) (nA (by decide) (by decide)) (nA (by decide) (by decide)) (nA (by decide) (by decide)), fun a q1 q2 q3 => by rw [nA (by omega) (by omega)]; exact d3 a q1 q2 q3, by rw [aJ]; exact d4, ⟨by rw [nA (a := 54) (by decide) (by decide)]; exact d5.1, by rw [nA (a := 55) (by decide) (by decide)]; exact d5.2.1, by rw [nA (a := 56) (by decide) (by decide)]; exact d5.2.2.1, by rw [nA (a := 57) (by decide) (by decide)]; exact d5.2.2.2⟩, i53.trans d6, s76, s77, s78⟩
/-- behind the head of a part with rows -/
theorem R_open {k : Int32} {j : Nat} {nm : Option Int64} (hR : RPs b n s m τ K σ M i o) (ho : o = K.length + 1) (hj : j < 40) (hl : K.length ≤ 14) (hso : soK k ≠ 99) (hop : opnK k = true) (h58 : σ.1.2.1 58 (40 * m + j) = Int32.ofNat (soK k)) (h69 : σ.1.2.1 69 (40 * m + j) = -1) (hq : σ.1.1 4 < 100) (H : ∀ M', RPs b n s m τ ((40 * m + j, σ.1.1 4, 1, nm) :: K) (rwP (40 * m + j) none σ) M' i (K.length + 1) → RGp m M M' → SLp h Q M') : DX11_readParts_72 (h + 13) 29 0 1 (Int32.ofNat (40 * m + j)) M Q := by
  obtain ⟨c1, c2, c3, c4, c5, c6, c7⟩ := id hR
  have F := c1.1
  have h4 := c1.2.2.2.1
  have l40 := lt40 h4 hj
  have sf := soK_facts hso
  have a58 : mAI M 58 (40 * m + j) = Int32.ofNat (soK k) := by rw [c6.2.2.1 58 (by decide) (by decide) (by decide)]; exact h58
  have i60 : mI M 29 60 = Int32.ofNat K.length := by
    have z := c6.2.2.2.2.2.2.1.1
    rw [List.length_map] at z
    exact z
  have vp17 : ∀ {N : Mem} {c : Nat}, mL N c = 17 → vp_in (Int32.ofNat K.length) (mL N c) := fun z => by rw [z]; exact vp_of (by omega) (by decide)
  unfold DX11_readParts_72
  rw [l40]
  refine ⟨ok29 F, fun z => absurd c4 z, fun _ => ⟨58, rf29_38 F, ok58 F, ix40 h4 hj (ln58 F), ?_⟩⟩
  rw [a58]
  refine P_isOp (h := h + 11) sf.1 (fun _ _ => ⟨_, rfl, fun z => absurd z (by decide), fun _ => ?_⟩) (fun z => absurd (sf.2.1.mp hop) z)
  rw [i60, lt32 (n := K.length) (by omega)]
  refine ⟨76, rf29_57 F, ok76 F, vp17 (ln76 F), fun M15 e15 => ?_⟩
  have F15 : Fix M15 := by rw [e15]; exact F.ai
  have i15 : mI M15 29 60 = Int32.ofNat K.length := by rw [e15]; exact i60
  rw [i15, lt32 (n := K.length) (by omega)]
  refine ⟨78, rf29_59 F15, ok78 F15, vp17 (ln78 F15), fun M18 e18 M19 e19 => ?_⟩
  have i18 : mI M18 29 60 = Int32.ofNat K.length := by rw [e18]; exact i15
  rw [i18, succ32] at e19
  obtain ⟨x, D19⟩ := c6.push (p := 40 * m + j) (nm := nm) e15 e18 e19
  have G19 : RGp m M M19 := by
    rw [e19, e18, e15]
    exact ((RGp.q (by decide) (by decide)).tr (RGp.q (by decide) (by decide))).tr (RG.i (by decide))
  have F19 := G19.fix F (by decide)
  refine P_openRow (h := h + 11) (e := (40 * m + j, x, 0, nm)) F19 h4 hj D19 rfl (by omega) hq (fun _ M' D' G' I' _ => ⟨rfl, ?_⟩) (fun z => absurd h69 z)
  unfold DX11_readParts_157
  have ii : ∀ f, f ≠ 53 → f ≠ 60 → mI M' 29 f = mI M 29 f := fun f q1 q2 => by
    rw [I' f q1, e19, e18, e15, mI_wI, if_neg (fun w => q2 w.2)]
    rfl
  refine H M' ⟨c1.rg (G19.tr G'), c2, by rw [ii 5 (by decide) (by decide)]; exact c3, by rw [ii 6 (by decide) (by decide)]; exact c4, by rw [ii 33 (by decide) (by decide), ← ho]; exact c5, D', ?_⟩ (G19.tr G')
  rw [← ho]
  exact c7
end
end
section
/-! the reference: one part, from the loop's head -/
section
variable {b : Nat → Int32} {n s m : Nat} {τ : Td} {K : List KE} {σ : PS} {M M' : Mem} {i o h : Nat} {Q : Option Value → Mem → Prop}
theorem X_72 {f x : Int32} {p : Nat} (hT : TXr M f p) (H : Q (some (.int 0)) M) : DX11_readParts_72 (h + 13) 29 0 1 x M Q := by
  unfold DX11_readParts_72 DX11_readParts_157
  exact ⟨ok29 hT.1, fun _ => X_loop hT H, fun z => absurd z hT.n0⟩
theorem R_leaf {k : Int32} {j : Nat} (hR : RPs b n s m τ K σ M i o) (hj : j < 40) (hso : soK k ≠ 99) (hop : opnK k = false) (h58 : σ.1.2.1 58 (40 * m + j) = Int32.ofNat (soK k)) (H : ∀ M', RPs b n s m τ K (raP σ (up2 σ.1.2.1 71 (40 * m + j) (Int32.ofNat (40 * m + npS σ)))) M' i o → RGp m M M' → SBh h Q M') : DX11_readParts_72 (h + 13) 29 0 1 (Int32.ofNat (40 * m + j)) M Q := by
  obtain ⟨c1, c2, c3, c4, c5, c6, c7⟩ := id hR
  have F := c1.1
  have h4 := c1.2.2.2.1
  have m19 := c1.2.2.1
  have l40 := lt40 h4 hj
  have sf := soK_facts hso
  have a58 : mAI M 58 (40 * m + j) = Int32.ofNat (soK k) := by rw [c6.2.2.1 58 (by decide) (by decide) (by decide)]; exact h58
  have eP : (40 : Int32) * Int32.ofNat m + mAI M 54 m = Int32.ofNat (40 * m + npS σ) := off32 (a := 40) c6.2.2.2.2.1.1
  unfold DX11_readParts_72
  rw [l40]
  refine ⟨ok29 F, fun z => absurd c4 z, fun _ => ⟨58, rf29_38 F, ok58 F, ix40 h4 hj (ln58 F), ?_⟩⟩
  rw [a58]
  refine P_isOp (h := h + 11) sf.1 (fun z => absurd (sf.2.1.mpr z) (by rw [hop]; decide)) (fun _ _ => ⟨_, rfl, fun _ => ?_, fun z => absurd rfl z⟩)
  rw [m19, lt32 (n := m) (by omega)]
  refine ⟨71, rf29_51 F, 54, rf29_34 F, ok54 F, by rw [ln54 F]; exact vp_of h4 (by decide), ok71 F, ix40 h4 hj (ln71 F), fun M10 e10 => ?_⟩
  rw [eP] at e10
  have R10 := hR.ra (c := 71) (k := 40 * m + j) (v := Int32.ofNat (40 * m + npS σ)) (by decide) (by decide) (by decide) (by rw [sz_p (by decide) (by decide)]; omega)
  rw [← e10] at R10
  have G10 : RGp m M M10 := by rw [e10]; exact RGp.ra (by decide) (by decide) (by decide) (by rw [sz_p (by decide) (by decide)]; omega)
  refine (KX11_behindPart (VX11_behindPart_0 (H M10 R10 G10))).imp (fun r M11 _ q _ => ?_)
  obtain ⟨v, e, q⟩ := q
  exact ⟨v, e, q⟩
/-- what a part's reading is held against -/
def EndL (b : Nat → Int32) (n s m : Nat) (τ : Td) (K : List KE) (j h : Nat) (M : Mem) (Q : Option Value → Mem → Prop) (R : Except (Int32 × Nat) (Nat × PS × Nat)) : Prop := match R with
  | .error e => ∀ M', TXr M' e.1 e.2 → RGp m M M' → Q (some (.int 0)) M'
  | .ok r => ∀ M', RPs b n s m τ K (raP r.2.1 (up2 r.2.1.1.2.1 71 (40 * m + j) (Int32.ofNat (40 * m + npS r.2.1)))) M' r.1 K.length → RGp m M M' → SBh h Q M'
def EndO2 (b : Nat → Int32) (n s m : Nat) (τ : Td) (K : List KE) (j h : Nat) (M : Mem) (Q : Option Value → Mem → Prop) (R : Except (Int32 × Nat) (Nat × PS × Nat × Bool × Nat × Option Int64)) : Prop := match R with
  | .error e => ∀ M', TXr M' e.1 e.2 → RGp m M M' → Q (some (.int 0)) M'
  | .ok r => ∀ M', RPs b n s m τ ((40 * m + j, r.2.1.1.1 4, 1, r.2.2.2.2.2) :: K) (rwP (40 * m + j) none r.2.1) M' r.1 (K.length + 1) → RGp m M M' → SLp h Q M'
theorem R_part (hR : RPs b n s m τ K σ M i K.length) (hB : By b) (hz : ∀ i, n ≤ i → b i = 0) (hS : Sto b n s) (hM : MxOk τ) (h0 : tK b n i ≠ 0) (hp : PsOk m σ) (hK : K.length ≤ 15) (hN : KNm b n m σ K) (hqq : sqK K < σ.1.1 4) (h41 : σ.1.1 4 ≤ npS σ + 1)
    (Her : ∀ e, okK (tK b n i) (tC b n i) K.length τ σ (tP b n i) = .error e → ∀ M', TXr M' e.1 e.2 → RGp m M M' → Q (some (.int 0)) M')
    (Had : okK (tK b n i) (tC b n i) K.length τ σ (tP b n i) = .ok () → tK b n (i + 1) = 0 → ∀ M', TXr M' 1 (tP b n (i + 1)) → RGp m M M' → Q (some (.int 0)) M')
    (HL : okK (tK b n i) (tC b n i) K.length τ σ (tP b n i) = .ok () → tK b n (i + 1) ≠ 0 → opnK (tK b n i) = false → EndL b n s m τ K (npS σ) h M Q (lfM b n m τ (tK b n i) (tC b n i) (npS σ) (i + 1) K (bgP m (tK b n i) (tP b n i) (sqK K) K.length (whK (tK b n i) (tC b n i) τ) σ)))
    (HO : okK (tK b n i) (tC b n i) K.length τ σ (tP b n i) = .ok () → tK b n (i + 1) ≠ 0 → opnK (tK b n i) = true → EndO2 b n s m τ K (npS σ) h M Q (hdM b n m τ (tK b n i) (npS σ) (i + 1) K (bgP m (tK b n i) (tP b n i) (sqK K) K.length (whK (tK b n i) (tC b n i) τ) σ))) : SLp h Q M := by
  have F := hR.1.1
  have h4 := hR.1.2.2.2.1
  have i60 : mI M 29 60 = Int32.ofNat K.length := by
    have z := hR.2.2.2.2.2.1.2.2.2.2.2.2.1.1
    rw [List.length_map] at z
    exact z
  have h40 := hp.1
  have go : DX11_readParts_56 (h + 13) 29 0 1 29 (Int32.ofNat (sqK K)) M Q := by
    unfold DX11_readParts_56
    refine ⟨ok29 F, P_begin (h := h + 9) (q := sqK K) hR rfl hB hz hS h0 hp hK hqq (by omega) (fun e he M2 T2 G2 _ => ⟨_, rfl, ok29 T2.1, fun _ => X_72 T2 (Her e he M2 T2 G2), fun z => absurd z T2.n0⟩) (fun hk => ⟨fun k1 M2 R2 G2 _ => ⟨_, rfl, ok29 R2.1.1, fun z => absurd R2.2.2.2.1 z, fun _ => ?_⟩, fun k1 M2 T2 G2 _ => ⟨_, rfl, ok29 T2.1, fun _ => X_72 T2 (Had hk k1 M2 T2 G2), fun z => absurd z T2.n0⟩⟩)⟩
    obtain ⟨o1, o2, o3, o4, o5⟩ := okK_ok hk
    have n1 : tK b n i ≠ 1 := fun z => o2 (by rw [z]; exact soK_1)
    have hs := hS.lt hR.2.1.2.2 h0 n1
    obtain ⟨b58, b69⟩ := bg58 (m := m) (σ := σ) (k := tK b n i) (pl := tP b n i) (q := sqK K) (d := K.length) (wh := whK (tK b n i) (tC b n i) τ)
    obtain ⟨n1', n2', n3', -⟩ := bg_n (m := m) (σ := σ) (k := tK b n i) (pl := tP b n i) (q := sqK K) (d := K.length) (wh := whK (tK b n i) (tC b n i) τ)
    have hN0 := hN.pv (Pv.bg (k := tK b n i) (pl := tP b n i) (q := sqK K) (d := K.length) (wh := whK (tK b n i) (tC b n i) τ) (Nat.le_refl _))
    generalize bgP m (tK b n i) (tP b n i) (sqK K) K.length (whK (tK b n i) (tC b n i) τ) σ = σ0 at R2 b58 b69 n1' n2' n3' hN0 HL HO
    cases hop : opnK (tK b n i) with
    | false =>
      have hE := HL hk k1 hop
      rw [hop] at R2
      have R2 : RPs b n s m τ K σ0 M2 (i + 1) K.length := R2
      have lok := lfM_ok (F := True) (m := m) (τ := τ) (k := tK b n i) (w := tC b n i) (j := npS σ) (K := K) (σ := σ0) hS (i := i + 1) hs k1
      refine P_headL (h := h + 4) (w := tC b n i) R2 rfl hB hz hS k1 o3 hM hN0 (by rw [n1']; omega) hK o2 hop b58 ?_
      cases e : lfM b n m τ (tK b n i) (tC b n i) (npS σ) (i + 1) K σ0 with
      | error y => rw [e] at hE; exact fun M5 T5 G5 _ => ⟨rfl, X_72 T5 (hE M5 T5 (G2.tr G5))⟩
      | ok r =>
        rw [e] at hE lok
        have hd := lok.2.2.2.1
        exact fun M5 R5 G5 _ => ⟨rfl, R_leaf (k := tK b n i) R5 o3 o2 hop (by rw [hd.2.1 58 _ (Or.inl (by decide))]; exact b58) (fun M' R' G' => hE M' R' ((G2.tr G5).tr G'))⟩
    | true =>
      have hE := HO hk k1 hop
      rw [hop] at R2
      have R2 : RPs b n s m τ K σ0 M2 (i + 1) (K.length + 1) := R2
      have hl14 : K.length ≤ 14 := by
        have : K.length ≠ 15 := fun z => o5 ⟨hop, z⟩
        omega
      have hok := hdM_ok (F := True) (m := m) (τ := τ) (k := tK b n i) (j := npS σ) (K := K) (σ := σ0) hS (i := i + 1) hs k1
      refine P_headO (h := h + 4) (k := tK b n i) R2 rfl hB hz hS k1 o3 hN0 (by rw [n1']; omega) hK o2 hop b58 ?_
      cases e : hdM b n m τ (tK b n i) (npS σ) (i + 1) K σ0 with
      | error y => rw [e] at hE; exact fun M5 T5 G5 _ => ⟨rfl, X_72 T5 (hE M5 T5 (G2.tr G5))⟩
      | ok r =>
        rw [e] at hE hok
        have hd := hok.2.2.2.1
        exact fun M5 R5 G5 _ => ⟨rfl, R_open (k := tK b n i) (nm := r.2.2.2.2.2) R5 rfl o3 hl14 o2 hop (by rw [hd.2.1 58 _ (Or.inl (by decide))]; exact b58) (by rw [hd.2.1 69 _ (Or.inr (Or.inl (by decide)))]; exact b69) (by rw [hd.1, n2']; omega) (fun M' R' G' => hE M' R' ((G2.tr G5).tr G'))⟩
  unfold SLp
  refine VX11_readParts_22 ?_
  unfold DX11_readParts_22
  refine ⟨fun z => absurd z (by decide), fun _ => ⟨ok29 F, fun z => absurd hR.2.2.2.1 z, fun _ => ⟨fun nz => ?_, fun yz => ?_⟩⟩⟩
  · cases K with
    | nil => exact absurd i60 nz
    | cons e K' =>
      have hl : K'.length ≤ 14 := by have : (e :: K').length = K'.length + 1 := rfl; omega
      obtain ⟨t1, -, -⟩ := go_top (j := 0) hR (by omega)
      have t77 : mAI M 77 K'.length = Int32.ofNat e.2.1 := by
        have z := (hR.2.2.2.2.2.1.2.2.2.2.2.2.2.1 : St M 77 60 0 (e.2.1 :: K'.map (fun e => e.2.1))).top
        rw [List.length_map, Nat.zero_add] at z
        exact z
      refine ⟨77, rf29_58 F, ok77 F, by rw [ln77 F, t1]; exact vp_of (by omega) (by decide), ?_⟩
      rw [t1, lt32 (n := K'.length) (by omega), t77]
      exact go
  · cases K with
    | nil => exact go
    | cons e K' =>
      rw [i60] at yz
      exact absurd ((z32 (a := (e :: K').length) (k := 0) (by omega) (by decide)).mp yz) (by simp)
end
end
section
/-! the reference reads rows of parts: what is to be shown, and its steps -/
def stZ (m md : Nat) (K : List KE) (a2 a3 a4 : Nat) : List KE := if md = 3 then (40 * m + a2, a3, a4, none) :: K else K
def EndZ (b : Nat → Int32) (n s m : Nat) (τ : Td) (K : List KE) (md a2 h : Nat) (M : Mem) (Q : Option Value → Mem → Prop) (R : Except (Int32 × Nat) (Nat × PS × Nat)) : Prop := match R with
  | .error e => ∀ M', TXr M' e.1 e.2 → RGp m M M' → Q (some (.int 0)) M'
  | .ok r => ∀ M', RPs b n s m τ K (if md = 3 then raP r.2.1 (up2 r.2.1.1.2.1 71 (40 * m + a2) (Int32.ofNat (40 * m + npS r.2.1))) else r.2.1) M' r.1 K.length → RGp m M M' → (md ≤ 1 → tK b n r.1 ≠ 13) → SBh h Q M'
def StZ (md h : Nat) (Q : Option Value → Mem → Prop) (M : Mem) : Prop := if md = 1 then SBh h Q M else SLp h Q M
def RpS (b : Nat → Int32) (n s m : Nat) (τ : Td) (h : Nat) (Q : Option Value → Mem → Prop) (g : Nat) : Prop := ∀ (md : Nat) (K : List KE) (i : Nat) (σ : PS) (a1 a2 a3 a4 : Nat) (c1 c2 : Int32) (M : Mem), md ≤ 3 → tK b n i ≠ 0 → RpI m md K σ a2 a3 → KNm b n m σ (stZ m md K a2 a3 a4) → (md = 3 → σ.1.2.1 58 (40 * m + a2) = 16 ∧ σ.1.2.1 69 (40 * m + a2) ≠ -1 ∧ 1 ≤ a4 ∧ a4 ≤ 8) → RPs b n s m τ (stZ m md K a2 a3 a4) σ M i (stZ m md K a2 a3 a4).length → 6 * (s + 1 - i) + wM md ≤ g → EndZ b n s m τ K md a2 h M Q (rp b n m τ g md K i σ a1 a2 a3 a4 c1 c2) → StZ md h Q M
section
variable {b : Nat → Int32} {n s m : Nat} {τ : Td} {K : List KE} {σ : PS} {M M' : Mem} {i o h g : Nat} {Q : Option Value → Mem → Prop}
/-- a part and what follows it in its row -/
theorem R_then {q : Nat} (hS : Sto b n s) (ih : RpS b n s m τ h Q g) (hR : RPs b n s m τ K σ M i K.length) (h0 : tK b n i ≠ 0) (hI : RpI m 2 K σ 0 0) (hN : KNm b n m σ K) (hg : 6 * (s + 1 - i) ≤ g) (hE : EndZ b n s m τ K 0 0 h M Q ((rp b n m τ g 2 K i σ 0 0 0 0 0 0).bind fun r => rp b n m τ g 1 K r.1 (hgP r.2.1 q r.2.2) q 0 0 0 0 0)) : SLp h Q M := by
  have ok2 := rp_ok (τ := τ) (m := m) hS g 2 K i σ 0 0 0 0 0 0 (by decide) hR.2.1.2.2 h0 hI
  have r2 := ih 2 K i σ 0 0 0 0 0 0 M (by decide) h0 hI hN (fun z => absurd z (by decide)) hR (by rw [w2]; omega)
  refine r2 ?_
  cases e : rp b n m τ g 2 K i σ 0 0 0 0 0 0 with
  | error y => rw [e] at hE; exact hE
  | ok r =>
    rw [e] at hE ok2
    obtain ⟨k1, k2, k3, ⟨p1, p2, p3, p4⟩, k5⟩ := ok2
    have k5 := k5 (by decide)
    have hE : EndZ b n s m τ K 0 0 h M Q (rp b n m τ g 1 K r.1 (hgP r.2.1 q r.2.2) q 0 0 0 0 0) := hE
    intro M1 R1 G1 _
    have R1 : RPs b n s m τ K r.2.1 M1 r.1 K.length := R1
    have R1' : RPs b n s m τ K (hgP r.2.1 q r.2.2) M1 r.1 K.length := R1.tree
    have r1 := ih 1 K r.1 (hgP r.2.1 q r.2.2) q 0 0 0 0 0 M1 (by decide) k3 ⟨p2, hI.2.1, fun _ => Nat.lt_of_lt_of_le (hI.2.2.1 (by decide)) p1.2.1, fun z => absurd z (by decide), fun _ => p3, Nat.le_succ_of_le p3⟩ (hN.pv (p1.tr Pv.hg)) (fun z => absurd z (by decide)) R1' (by rw [w1]; omega)
    refine r1 ?_
    cases e1 : rp b n m τ g 1 K r.1 (hgP r.2.1 q r.2.2) q 0 0 0 0 0 with
    | error y => rw [e1] at hE; exact fun M2 T2 G2 => hE M2 T2 (G1.tr G2)
    | ok r' => rw [e1] at hE; exact fun M2 R2 G2 q => hE M2 R2 (G1.tr G2) (fun _ => q (by decide))
theorem R_row {a1 a2 a3 a4 : Nat} {c1 c2 : Int32} (hS : Sto b n s) (ih : RpS b n s m τ h Q g) (hR : RPs b n s m τ K σ M i K.length) (h0 : tK b n i ≠ 0) (hI : RpI m 0 K σ a2 a3) (hN : KNm b n m σ K) (hg : 6 * (s + 1 - i) + 1 ≤ g + 1) (hE : EndZ b n s m τ K 0 a2 h M Q (rp b n m τ (g + 1) 0 K i σ a1 a2 a3 a4 c1 c2)) : SLp h Q M := by
  unfold rp at hE
  rw [if_pos (show (0 : Nat) = 0 from rfl)] at hE
  exact R_then (q := (mkT (trS σ) 5).2) (σ := trP1 σ (mkT (trS σ) 5).1) hS ih hR.tree h0 ⟨hI.1, hI.2.1, fun _ => hI.2.2.1 (by decide), fun z => absurd z (by decide), fun z => absurd z (by decide), hI.2.2.2.2.2⟩ hN (by omega) hE
theorem R_more {a1 a2 a3 a4 : Nat} {c1 c2 : Int32} (hB : By b) (hz : ∀ i, n ≤ i → b i = 0) (hS : Sto b n s) (ih : RpS b n s m τ h Q g) (hR : RPs b n s m τ K σ M i K.length) (h0 : tK b n i ≠ 0) (hI : RpI m 1 K σ a2 a3) (hN : KNm b n m σ K) (hg : 6 * (s + 1 - i) ≤ g + 1) (hE : EndZ b n s m τ K 1 a2 h M Q (rp b n m τ (g + 1) 1 K i σ a1 a2 a3 a4 c1 c2)) : SBh h Q M := by
  unfold rp at hE
  rw [if_neg (show ¬ (1 : Nat) = 0 by decide), if_pos (show (1 : Nat) = 1 from rfl)] at hE
  by_cases k : tK b n i = 13
  · rw [if_pos k] at hE
    have hs := hS.lt hR.2.1.2.2 h0 (by rw [k]; decide)
    refine R_semi hR hB hz hS k (fun k1 M1 R1 G1 => ?_) (fun k1 M1 T1 G1 => ?_)
    · rw [adv_ok' k1] at hE
      have hE : EndZ b n s m τ K 1 a2 h M Q ((rp b n m τ g 2 K (i + 1) σ 0 0 0 0 0 0).bind fun r => rp b n m τ g 1 K r.1 (hgP r.2.1 a1 r.2.2) a1 0 0 0 0 0) := hE
      refine R_then (q := a1) hS ih R1 k1 ⟨hI.1, hI.2.1, fun _ => hI.2.2.1 (by decide), fun z => absurd z (by decide), fun z => absurd z (by decide), hI.2.2.2.2.2⟩ hN (by omega) ?_
      cases e : (rp b n m τ g 2 K (i + 1) σ 0 0 0 0 0 0).bind fun r => rp b n m τ g 1 K r.1 (hgP r.2.1 a1 r.2.2) a1 0 0 0 0 0 with
      | error y => rw [e] at hE; exact fun M2 T2 G2 => hE M2 T2 (G1.tr G2)
      | ok r => rw [e] at hE; exact fun M2 R2 G2 q => hE M2 R2 (G1.tr G2) (fun _ => q (by decide))
    · rw [adv_er' k1] at hE
      exact hE M1 T1 G1
  · rw [if_neg k] at hE
    exact hE M hR RG.rf (fun _ => k)
end
end
