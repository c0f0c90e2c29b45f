/-! how many nodes a row, a part, branches make: never more than the tree has room for -/
/-- what parts, pauses and rows allow -/
def alR (σ : PS) : Nat := 2 * npS σ + 11 * σ.1.1 1 + σ.1.1 4 + 4
section
variable {b : Nat → Int32} {n m : Nat} {τ : Td} {σ σ1 : PS}
theorem alR.cx {q R : Nat} (h : Cx q σ σ1) (g : (trS σ).1 + (R + q) ≤ alR σ) : (trS σ1).1 + R ≤ alR σ1 := by
  have e : alR σ1 = alR σ := by unfold alR npS; rw [h.1]
  have := h.2
  omega
theorem al_bg {k : Int32} {pl q d : Nat} {wh : Int32} : alR (bgP m k pl q d wh σ) = alR σ + (2 + 11 * paK k) ∧ trS (bgP m k pl q d wh σ) = trS σ := by
  refine ⟨?_, rfl⟩
  have e1 : (bgP m k pl q d wh σ).1.1 1 = σ.1.1 1 + paK k := by simp [bgP, va_up]
  unfold alR
  rw [bg_n.1, e1, bg_n.2.1]
  omega
theorem al_rw {p : Nat} {q0 : Option Nat} : alR (rwP p q0 σ) = alR σ + 1 ∧ trS (rwP p q0 σ) = trS σ := by
  have e1 : (rwP p q0 σ).1.1 1 = σ.1.1 1 := by simp [rwP, va_up]
  refine ⟨?_, rfl⟩
  unfold alR
  rw [rw_n.1, e1, rw_n.2.1]
  omega
theorem hd_pa (k : Int32) : hdK k ≤ 2 + 11 * paK k := by
  unfold hdK
  by_cases k1 : k = 53
  · rw [k1]; decide
  rw [if_neg k1]
  by_cases k2 : k = 17
  · rw [k2]; decide
  rw [if_neg k2]
  omega
theorem rp_cnt : ∀ (g md : Nat) (K : List KE) (i : Nat) (σ : PS) (a1 a2 a3 a4 : Nat) (c1 c2 : Int32) (r : Nat × PS × Nat), md ≤ 3 → rp b n m τ g md K i σ a1 a2 a3 a4 c1 c2 = .ok r → ∀ R, (trS σ).1 + (R + if md = 0 ∨ md = 3 then 1 else 0) ≤ alR σ → (trS r.2.1).1 + R ≤ alR r.2.1 := by
  intro g
  induction g with
  | zero => intro md K i σ a1 a2 a3 a4 c1 c2 r _ e; unfold rp at e; cases e
  | succ g ih =>
    intro md K i σ a1 a2 a3 a4 c1 c2 r hm e R hR
    by_cases m2 : md = 2
    · subst m2
      rw [if_neg (by decide)] at hR
      rw [rp_bd] at e
      obtain ⟨u0, -, e⟩ := bind_ok e
      obtain ⟨i1, -, e⟩ := bind_ok e
      obtain ⟨u, eb, e⟩ := bind_ok e
      cases e
      show (trS u.2.1).1 + R ≤ alR u.2.1
      generalize tK b n i = k at eb
      generalize tC b n i = w at eb
      generalize npS σ = j at eb
      have q1 := al_bg (m := m) (σ := σ) (k := k) (pl := tP b n i) (q := sqK K) (d := K.length) (wh := whK k w τ)
      generalize bgP m k (tP b n i) (sqK K) K.length (whK k w τ) σ = s0 at eb q1
      have hR0 : (trS s0).1 + (R + (2 + 11 * paK k)) ≤ alR s0 := by rw [q1.1, q1.2]; omega
      unfold bdM at eb
      by_cases ko : opnK k = false
      · rw [if_pos ko] at eb
        exact alR.cx (lf_c eb) hR0
      rw [if_neg ko] at eb
      obtain ⟨h, eh, eb⟩ := bind_ok eb
      have hp := hd_pa k
      obtain ⟨Q, hQ⟩ : ∃ Q, Q + hdK k = 2 + 11 * paK k := ⟨2 + 11 * paK k - hdK k, by omega⟩
      have hR1 : (trS h.2.1).1 + (R + Q) ≤ alR h.2.1 := alR.cx (hd_c eh) (by omega)
      have q2 := al_rw (σ := h.2.1) (p := 40 * m + j) (q0 := none)
      have hR2 : (trS (rwP (40 * m + j) none h.2.1)).1 + ((R + Q) + 1) ≤ alR (rwP (40 * m + j) none h.2.1) := by rw [q2.1, q2.2]; omega
      by_cases k17 : k = 17
      · rw [if_pos k17] at eb
        obtain ⟨q, e1, eb⟩ := bind_ok eb
        cases eb
        have := ih 3 _ _ _ _ _ _ _ _ _ q (by decide) e1 (R + Q) (by rw [if_pos (by decide)]; exact hR2)
        show (trS q.2.1).1 + R ≤ alR q.2.1
        omega
      rw [if_neg k17] at eb
      obtain ⟨q, e1, eb⟩ := bind_ok eb
      have hq := ih 0 _ _ _ _ _ _ _ _ _ q (by decide) e1 (R + Q) (by rw [if_pos (by decide)]; exact hR2)
      by_cases k4 : k = 44 ∨ k = 58
      · rw [if_pos k4] at eb
        have hQ2 : 2 ≤ Q := by
          rcases k4 with z | z
          · rw [z] at hQ; have : Q + 0 = 2 := hQ; omega
          · rw [z] at hQ; have : Q + 0 = 2 := hQ; omega
        by_cases k46 : tK b n q.1 = 46
        · rw [if_pos k46] at eb
          obtain ⟨i2, -, eb⟩ := bind_ok eb
          obtain ⟨t, e2, eb⟩ := bind_ok eb
          have q3 := al_rw (σ := q.2.1) (p := 40 * m + j) (q0 := some (h.2.1.1.1 4))
          have ht := ih 0 _ _ _ _ _ _ _ _ _ t (by decide) e2 (R + Q) (by rw [if_pos (by decide), q3.1, q3.2]; omega)
          exact alR.cx (ch_c eb) (by omega)
        · rw [if_neg k46] at eb
          have b1 := nb_mk (Θ := trS q.2.1) (k := 0)
          have c1 : Cx 1 q.2.1 (trP1 q.2.1 (mkT (trS q.2.1) 0).1) := Sx.rf.cx b1
          exact alR.cx (ch_c eb) (alR.cx c1 (by omega))
      rw [if_neg k4] at eb
      exact alR.cx (tl_c eb (by omega)) hq
    by_cases m0 : md = 0
    · subst m0
      rw [if_pos (by decide)] at hR
      unfold rp at e
      rw [if_pos rfl] at e
      obtain ⟨q, e1, e⟩ := bind_ok e
      have c1 : Cx 1 σ (trP1 σ (mkT (trS σ) 5).1) := Sx.rf.cx nb_mk
      have hq := ih 2 _ _ _ _ _ _ _ _ _ q (by decide) e1 R (by rw [if_neg (by decide)]; exact alR.cx c1 hR)
      exact ih 1 _ _ _ _ _ _ _ _ _ r (by decide) e R (by rw [if_neg (by decide)]; show (hgT _ _ _).1 + _ ≤ alR q.2.1; rw [hgT_n.1]; exact hq)
    by_cases m1 : md = 1
    · subst m1
      rw [if_neg (by decide)] at hR
      unfold rp at e
      rw [if_neg (by decide), if_pos rfl] at e
      by_cases h13 : tK b n i = 13
      · rw [if_pos h13] at e
        obtain ⟨j, -, e⟩ := bind_ok e
        obtain ⟨q, e1, e⟩ := bind_ok e
        have hq := ih 2 _ _ _ _ _ _ _ _ _ q (by decide) e1 R (by rw [if_neg (by decide)]; exact hR)
        exact ih 1 _ _ _ _ _ _ _ _ _ r (by decide) e R (by rw [if_neg (by decide)]; show (hgT _ _ _).1 + _ ≤ alR q.2.1; rw [hgT_n.1]; exact hq)
      · rw [if_neg h13] at e; cases e; exact hR
    · have m3 : md = 3 := by omega
      subst m3
      rw [if_pos (by decide)] at hR
      unfold rp at e
      rw [if_neg m0, if_neg m1, if_neg m2] at e
      obtain ⟨q, e1, e⟩ := bind_ok e
      have hq := ih 0 _ _ _ _ _ _ _ _ _ q (by decide) e1 R (by rw [if_pos (by decide)]; exact hR)
      have bn := br_n (σ := q.2.1) (j := a2) (a := a1) (x := q.2.2) (g := c1) (u := c2)
      have ba : alR (brP q.2.1 a2 a1 q.2.2 c1 c2) = alR q.2.1 := by unfold alR npS; rw [bn.1]
      by_cases h6 : tK b n q.1 = 6
      · rw [if_pos h6] at e
        by_cases h8 : a4 = 8
        · rw [if_pos h8] at e; cases e
        rw [if_neg h8] at e
        obtain ⟨j, -, e⟩ := bind_ok e
        have q3 := al_rw (σ := brP q.2.1 a2 a1 q.2.2 c1 c2) (p := 40 * m + a2) (q0 := some a3)
        exact ih 3 _ _ _ _ _ _ _ _ _ r (by decide) e R (by rw [if_pos (by decide), q3.1, q3.2, bn.2, ba]; omega)
      · rw [if_neg h6] at e
        obtain ⟨j, -, e⟩ := bind_ok e
        cases e
        show (trS (brP q.2.1 a2 a1 q.2.2 c1 c2)).1 + R ≤ alR (brP q.2.1 a2 a1 q.2.2 c1 c2)
        rw [bn.2, ba]; exact hq
end
