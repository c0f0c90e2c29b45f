/-! rows of parts keep to it -/
def PsOk (m : Nat) (σ : PS) : Prop := npS σ ≤ 40 ∧ σ.1.1 1 ≤ 24 ∧ σ.1.1 2 ≤ npS σ ∧ σ.1.1 3 ≤ 16 ∧ ∀ q, q < σ.1.1 4 → σ.1.2.1 73 q = -1 ∨ ∃ x, (40 * m ≤ x ∧ x < 40 * m + npS σ) ∧ σ.1.2.1 74 q = Int32.ofNat x
/-- parts below B keep what they have (but for what follows them), no counter shrinks -/
def Pv (m B : Nat) (σ σ' : PS) : Prop := npS σ ≤ npS σ' ∧ σ.1.1 4 ≤ σ'.1.1 4 ∧ (∀ c, 58 ≤ c → c ≤ 72 → c ≠ 70 → ∀ k, k < B → σ'.1.2.1 c k = σ.1.2.1 c k) ∧ (∀ k, k < B → σ'.1.2.2 k = σ.1.2.2 k) ∧ (1 ≤ (trS σ).1 → (trS σ).1 ≤ (trS σ').1)
section
variable {b : Nat → Int32} {n s m B : Nat} {τ : Td} {σ σ1 σ2 : PS}
theorem Pv.rf : Pv m B σ σ := ⟨Nat.le_refl _, Nat.le_refl _, fun _ _ _ _ _ _ => rfl, fun _ _ => rfl, fun _ => Nat.le_refl _⟩
theorem Pv.tr (h : Pv m B σ σ1) (k : Pv m B σ1 σ2) : Pv m B σ σ2 := ⟨Nat.le_trans h.1 k.1, Nat.le_trans h.2.1 k.2.1, fun c q1 q2 q3 x q => (k.2.2.1 c q1 q2 q3 x q).trans (h.2.2.1 c q1 q2 q3 x q), fun x q => (k.2.2.2.1 x q).trans (h.2.2.2.1 x q), fun q => Nat.le_trans (h.2.2.2.2 q) (k.2.2.2.2 (Nat.le_trans q (h.2.2.2.2 q)))⟩
theorem Pv.less {B1 : Nat} (h : Pv m B1 σ σ1) (k : B ≤ B1) : Pv m B σ σ1 := ⟨h.1, h.2.1, fun c q1 q2 q3 x q => h.2.2.1 c q1 q2 q3 x (by omega), fun x q => h.2.2.2.1 x (by omega), h.2.2.2.2⟩
theorem Pv.hd {j : Nat} (h : Hd m j σ σ1) (k : B ≤ 40 * m + j) : Pv m B σ σ1 := ⟨by unfold npS; rw [h.1]; exact Nat.le_refl _, by rw [h.1]; exact Nat.le_refl _, fun c q1 q2 q3 x q => h.2.1 c x (by omega), fun x q => h.2.2.1 x (by omega), h.2.2.2⟩
theorem PsOk.hd {j : Nat} (h : PsOk m σ) (k : Hd m j σ σ1) : PsOk m σ1 := by
  obtain ⟨h1, h2, h3, h4, h5⟩ := h
  have e : npS σ1 = npS σ := by unfold npS; rw [k.1]
  refine ⟨by rw [e]; exact h1, by rw [k.1]; exact h2, by rw [k.1, e]; exact h3, by rw [k.1]; exact h4, fun q hq => ?_⟩
  rw [k.1] at hq
  rw [k.2.1 73 q (by omega), k.2.1 74 q (by omega), e]
  exact h5 q hq
theorem Pv.tree {r : TrT} (h : 1 ≤ (trS σ).1 → (trS σ).1 ≤ r.1) : Pv m B σ (trP1 σ r) := ⟨Nat.le_refl _, Nat.le_refl _, fun _ _ _ _ _ _ => rfl, fun _ _ => rfl, h⟩
theorem Pv.hg {a c : Nat} : Pv m B σ (hgP σ a c) := Pv.tree (fun _ => by rw [hgT_n.1]; exact Nat.le_refl _)
theorem PsOk.tree {r : TrT} (h : PsOk m σ) : PsOk m (trP1 σ r) := h
theorem Pv.gu {g u : Int32} : Pv m B σ (guP σ g u) := ⟨Nat.le_refl _, Nat.le_refl _, fun _ _ _ _ _ _ => rfl, fun _ _ => rfl, fun _ => Nat.le_refl _⟩
theorem Pv.pa {j f : Nat} {v : Int32} : Pv m B σ (paP σ j f v) := ⟨Nat.le_refl _, Nat.le_refl _, fun _ _ _ _ _ _ => rfl, fun _ _ => rfl, fun _ => Nat.le_refl _⟩
theorem Pv.br {j a x : Nat} {g u : Int32} : Pv m B σ (brP σ j a x g u) := by
  unfold brP
  split
  · exact Pv.hg.tr Pv.gu
  · exact (Pv.pa.tr Pv.hg).tr Pv.gu
theorem PsOk.br {j a x : Nat} {g u : Int32} (h : PsOk m σ) : PsOk m (brP σ j a x g u) := by
  unfold brP
  split <;> exact h
theorem br_n {j a x : Nat} {g u : Int32} : (brP σ j a x g u).1 = σ.1 ∧ (trS (brP σ j a x g u)).1 = (trS σ).1 := by
  unfold brP
  split
  · exact ⟨rfl, hgT_n.1⟩
  · exact ⟨rfl, hgT_n.1⟩
theorem Pv.fi {j x : Nat} (k : B ≤ 40 * m + j) : Pv m B σ (fiP m j x σ) := ⟨Nat.le_refl _, Nat.le_refl _, fun c q1 q2 q3 y q => up2_ne (fun z => by omega), fun _ _ => rfl, fun _ => Nat.le_refl _⟩
theorem PsOk.fi {j x : Nat} (h : PsOk m σ) : PsOk m (fiP m j x σ) := ⟨h.1, h.2.1, h.2.2.1, h.2.2.2.1, fun q hq => by
  have e3 : (fiP m j x σ).1.2.1 73 q = σ.1.2.1 73 q := by simp [fiP, raP, up2]
  have e4 : (fiP m j x σ).1.2.1 74 q = σ.1.2.1 74 q := by simp [fiP, raP, up2]
  rw [e3, e4]
  exact h.2.2.2.2 q hq⟩
theorem Pv.rw {p : Nat} {q0 : Option Nat} (k : q0 = none → B ≤ p) : Pv m B σ (rwP p q0 σ) := by
  refine ⟨?_, ?_, fun c q1 q2 q3 x q => ?_, fun _ _ => rfl, fun _ => Nat.le_refl _⟩
  · simp [npS, rwP, va_up]
  · simp [rwP, va_up]
  · cases q0 with
    | none =>
      show up2 (up2 (up2 (up2 σ.1.2.1 73 _ _) 74 _ _) 75 _ _) 69 p _ c x = _
      have := k rfl
      rw [up2_ne (fun z => by omega), up2_ne (fun z => by omega), up2_ne (fun z => by omega), up2_ne (fun z => by omega)]
    | some r =>
      show up2 (up2 (up2 (up2 σ.1.2.1 73 _ _) 74 _ _) 75 _ _) 75 r _ c x = _
      rw [up2_ne (fun z => by omega), up2_ne (fun z => by omega), up2_ne (fun z => by omega), up2_ne (fun z => by omega)]
theorem rw_n {p : Nat} {q0 : Option Nat} : npS (rwP p q0 σ) = npS σ ∧ (rwP p q0 σ).1.1 4 = σ.1.1 4 + 1 ∧ (rwP p q0 σ).2 = σ.2 := ⟨by simp [npS, rwP, va_up], by simp [rwP, va_up], rfl⟩
theorem PsOk.rw {p : Nat} {q0 : Option Nat} (h : PsOk m σ) : PsOk m (rwP p q0 σ) := by
  obtain ⟨h1, h2, h3, h4, h5⟩ := h
  have e : npS (rwP p q0 σ) = npS σ := rw_n.1
  have u : ∀ j, j ≠ 4 → (rwP p q0 σ).1.1 j = σ.1.1 j := fun j hj => by simp [rwP, va_up, hj]
  refine ⟨by rw [e]; exact h1, by rw [u 1 (by decide)]; exact h2, by rw [u 2 (by decide), e]; exact h3, by rw [u 3 (by decide)]; exact h4, fun q hq => ?_⟩
  rw [rw_n.2.1] at hq
  rw [e]
  by_cases z : q = σ.1.1 4
  · left
    cases q0 with
    | none =>
      simp [rwP, up2, z]
    | some r =>
      simp [rwP, up2, z]
  · have e3 : (rwP p q0 σ).1.2.1 73 q = σ.1.2.1 73 q := by
      cases q0 with
      | none =>
        simp [rwP, up2, z]
      | some r =>
        simp [rwP, up2, z]
    have e4 : (rwP p q0 σ).1.2.1 74 q = σ.1.2.1 74 q := by
      cases q0 with
      | none =>
        simp [rwP, up2, z]
      | some r =>
        simp [rwP, up2, z]
    rw [e3, e4]
    exact h5 q (by omega)
theorem bg_n {k : Int32} {pl q d : Nat} {wh : Int32} : npS (bgP m k pl q d wh σ) = npS σ + 1 ∧ (bgP m k pl q d wh σ).1.1 4 = σ.1.1 4 ∧ trS (bgP m k pl q d wh σ) = trS σ ∧ giS (bgP m k pl q d wh σ) = giS σ ∧ usS (bgP m k pl q d wh σ) = usS σ := by
  refine ⟨?_, ?_, rfl, rfl, rfl⟩
  · simp [bgP, va_up, npS]
  · simp [bgP, va_up]
theorem lk_ne {p q : Nat} {A : Nat → Nat → Int32} {c x : Nat} (h : c ≠ 70) (h2 : ¬ (c = 73 ∧ x = q)) : lkA p q A c x = A c x := by
  unfold lkA
  split
  · exact up2_ne h2
  · exact up2_ne (fun z => h z.1)
theorem Pv.bg {k : Int32} {pl q d : Nat} {wh : Int32} (hB : B ≤ 40 * m + npS σ) : Pv m B σ (bgP m k pl q d wh σ) := by
  refine ⟨by rw [bg_n.1]; exact Nat.le_succ _, by rw [bg_n.2.1]; exact Nat.le_refl _, fun c q1 q2 q3 x hx => ?_, fun _ _ => rfl, fun _ => Nat.le_refl _⟩
  have nx : x ≠ 40 * m + σ.1.1 0 := Nat.ne_of_lt (Nat.lt_of_lt_of_le hx hB)
  show bgA (40 * m + σ.1.1 0) (soK k) pl q wh σ.1.2.1 c x = _
  unfold bgA
  rw [up2_ne (fun z => by omega), lk_ne q3 (fun z => by omega)]
  simp [up2, nx]
theorem PsOk.bg {k : Int32} {pl q d : Nat} {wh : Int32} (h : PsOk m σ) (hn : npS σ < 40) (hp : σ.1.1 1 + paK k ≤ 24) (hd : d ≤ 15) (hq : q < σ.1.1 4) : PsOk m (bgP m k pl q d wh σ) := by
  obtain ⟨h1, h2, h3, h4, h5⟩ := h
  have e := (bg_n (m := m) (σ := σ) (k := k) (pl := pl) (q := q) (d := d) (wh := wh)).1
  refine ⟨by rw [e]; exact hn, ?_, ?_, ?_, fun x hx => ?_⟩
  · simpa [bgP, va_up] using hp
  · rw [e]
    have : σ.1.1 2 + (if k = 58 then 1 else 0) ≤ npS σ + 1 := by split <;> omega
    simpa [bgP, va_up] using this
  · have : (if d + 1 ≤ σ.1.1 3 then σ.1.1 3 else d + 1) ≤ 16 := by split <;> omega
    simpa [bgP, va_up] using this
  · rw [bg_n.2.1] at hx
    rw [e]
    show bgA (40 * m + σ.1.1 0) (soK k) pl q wh σ.1.2.1 73 x = -1 ∨ ∃ y, (40 * m ≤ y ∧ y < _) ∧ bgA (40 * m + σ.1.1 0) (soK k) pl q wh σ.1.2.1 74 x = _
    unfold bgA
    by_cases z : x = q
    · right
      exact ⟨40 * m + npS σ, ⟨Nat.le_add_right _ _, by omega⟩, by rw [z]; exact up2_eq⟩
    · rw [up2_ne (fun w => absurd w.1 (by decide)), up2_ne (fun w => z w.2), lk_ne (by decide) (fun w => z w.2), lk_ne (by decide) (fun w => absurd w.1 (by decide))]
      have s3 : ∀ {A : Nat → Nat → Int32} {c y : Nat} {v : Int32}, c < 73 → up2 A c y v 73 x = A 73 x := fun hc => up2_ne (fun w => by omega)
      have s4 : ∀ {A : Nat → Nat → Int32} {c y : Nat} {v : Int32}, c < 73 → up2 A c y v 74 x = A 74 x := fun hc => up2_ne (fun w => by omega)
      rw [s3 (by decide), s3 (by decide), s3 (by decide), s3 (by decide), s3 (by decide), s3 (by decide), s3 (by decide), s3 (by decide), s3 (by decide), s4 (by decide), s4 (by decide), s4 (by decide), s4 (by decide), s4 (by decide), s4 (by decide), s4 (by decide), s4 (by decide), s4 (by decide)]
      rcases h5 x hx with w | ⟨y, hy, ey⟩
      · exact Or.inl w
      · exact Or.inr ⟨y, ⟨hy.1, by omega⟩, ey⟩
theorem okK_ok {k : Int32} {w : Int64} {d p : Nat} (h : okK k w d τ σ p = .ok ()) : ¬ (k = 2 ∧ fd τ.2.2.2.1 w = none) ∧ soK k ≠ 99 ∧ npS σ < 40 ∧ σ.1.1 1 + paK k ≤ 24 ∧ ¬ (opnK k = true ∧ d = 15) := by
  unfold okK at h
  by_cases q1 : k = 2 ∧ fd τ.2.2.2.1 w = none
  · rw [if_pos q1] at h; cases h
  rw [if_neg q1] at h
  by_cases q2 : soK k = 99
  · rw [if_pos q2] at h; cases h
  rw [if_neg q2] at h
  by_cases q3 : 40 ≤ npS σ ∨ 24 < σ.1.1 1 + paK k
  · rw [if_pos q3] at h; cases h
  rw [if_neg q3] at h
  by_cases q4 : opnK k = true ∧ d = 15
  · rw [if_pos q4] at h; cases h
  exact ⟨q1, q2, by omega, by omega, q4⟩
theorem okK_er {k : Int32} {w : Int64} {d p : Nat} {e : Int32 × Nat} (h : okK k w d τ σ p = .error e) : e.1 ≠ 0 := by
  unfold okK at h
  split at h
  · cases h; show (4 : Int32) ≠ 0; decide
  split at h
  · cases h; show (2 : Int32) ≠ 0; decide
  split at h
  · cases h; show (6 : Int32) ≠ 0; decide
  split at h
  · cases h; show (6 : Int32) ≠ 0; decide
  · cases h
theorem soK_1 : soK 1 = 99 := by decide
end
