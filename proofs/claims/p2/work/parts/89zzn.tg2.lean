/-! the tree as lists: making nodes, hanging them -/
section
variable {Θ Θ1 Θ2 : TrT} {G G1 G2 : Nat → List Nat} {O H O1 H1 : Nat → Prop} {x a c v : Nat} {k l : Int32}
theorem up2_ey {α : Type} {f : Nat → Nat → α} {q j y : Nat} {w : α} (e : ∀ p, f p y = f p y) (h : y ≠ j) (p : Nat) : up2 f q j w p y = f p y := up2_ne (fun z => h z.2)
theorem mkT_is (hf : Θ.1 < 640) : (mkT Θ k).2 = Θ.1 ∧ (mkT Θ k).1.1 = Θ.1 + 1 ∧ (mkT Θ k).1.2.1 = Θ.2.1 ∧ (∀ q y, y ≠ Θ.1 → (mkT Θ k).1.2.2 q y = Θ.2.2 q y) ∧ (mkT Θ k).1.2.2 5 Θ.1 = k ∧ (∀ q, q = 6 ∨ q = 7 ∨ q = 8 ∨ q = 9 ∨ q = 10 ∨ q = 11 ∨ q = 12 → (mkT Θ k).1.2.2 q Θ.1 = 0) ∧ (mkT Θ k).1.2.2 13 Θ.1 = (if k = 0 ∨ k = 5 then 1 else 0) := by
  unfold mkT
  rw [if_pos hf]
  refine ⟨rfl, rfl, rfl, fun q y w => ?_, ?_, fun q hq => ?_, ?_⟩
  · show up2 (up2 (up2 (up2 (up2 (up2 (up2 (up2 (up2 Θ.2.2 5 Θ.1 k) 6 Θ.1 0) 7 Θ.1 0) 8 Θ.1 0) 9 Θ.1 0) 10 Θ.1 0) 11 Θ.1 0) 12 Θ.1 0) 13 Θ.1 (if k = 0 ∨ k = 5 then 1 else 0) q y = _
    have n : ∀ q', ¬ (q = q' ∧ y = Θ.1) := fun q' z => w z.2
    rw [up2_ne (n _), up2_ne (n _), up2_ne (n _), up2_ne (n _), up2_ne (n _), up2_ne (n _), up2_ne (n _), up2_ne (n _), up2_ne (n _)]
  · show up2 (up2 (up2 (up2 (up2 (up2 (up2 (up2 (up2 Θ.2.2 5 Θ.1 k) 6 Θ.1 0) 7 Θ.1 0) 8 Θ.1 0) 9 Θ.1 0) 10 Θ.1 0) 11 Θ.1 0) 12 Θ.1 0) 13 Θ.1 (if k = 0 ∨ k = 5 then 1 else 0) 5 Θ.1 = k
    rw [up2_ne (fun z => absurd z.1 (by decide)), up2_ne (fun z => absurd z.1 (by decide)), up2_ne (fun z => absurd z.1 (by decide)), up2_ne (fun z => absurd z.1 (by decide)), up2_ne (fun z => absurd z.1 (by decide)), up2_ne (fun z => absurd z.1 (by decide)), up2_ne (fun z => absurd z.1 (by decide)), up2_ne (fun z => absurd z.1 (by decide)), up2_eq]
  · show up2 (up2 (up2 (up2 (up2 (up2 (up2 (up2 (up2 Θ.2.2 5 Θ.1 k) 6 Θ.1 0) 7 Θ.1 0) 8 Θ.1 0) 9 Θ.1 0) 10 Θ.1 0) 11 Θ.1 0) 12 Θ.1 0) 13 Θ.1 (if k = 0 ∨ k = 5 then 1 else 0) q Θ.1 = 0
    rcases hq with z | z | z | z | z | z | z <;> subst z <;> simp [up2]
  · show up2 (up2 (up2 (up2 (up2 (up2 (up2 (up2 (up2 Θ.2.2 5 Θ.1 k) 6 Θ.1 0) 7 Θ.1 0) 8 Θ.1 0) 9 Θ.1 0) 10 Θ.1 0) 11 Θ.1 0) 12 Θ.1 0) 13 Θ.1 (if k = 0 ∨ k = 5 then 1 else 0) 13 Θ.1 = _
    rw [up2_eq]
/-- what is known of a node that an operation gives: it is new, and hangs nowhere -/
def NwN (Θ Θ' : TrT) (x m : Nat) : Prop := Θ.1 ≤ x ∧ x < Θ'.1 ∧ Θ'.2.2 9 x = 0 ∧ Θ'.1 ≤ Θ.1 + m
theorem TG.mk (hT : TG Θ G) (hf : Θ.1 < 640) (hk : k ≠ 1 ∧ k ≠ 2 ∧ k ≠ 3) : TG (mkT Θ k).1 (va_up G Θ.1 []) ∧ TE Θ (mkT Θ k).1 G (va_up G Θ.1 []) O H ∧ NwN Θ (mkT Θ k).1 (mkT Θ k).2 1 ∧ ((mkT Θ k).2 = Θ.1 ∧ (mkT Θ k).1.2.2 5 Θ.1 = k ∧ (mkT Θ k).1.2.2 10 Θ.1 = 0 ∧ (mkT Θ k).1.2.2 11 Θ.1 = 0 ∧ (mkT Θ k).1.2.1 = Θ.2.1) := by
  obtain ⟨m1, m2, m3, m4, m5, m6, m7⟩ := mkT_is (k := k) hf
  have q := TG.new (Θ' := (mkT Θ k).1) (O := O) (H := H) hT hf m2 m4 (m6 6 (by decide)) (m6 7 (by decide)) (m6 8 (by decide)) (by rw [m6 12 (by decide), m5]; unfold heV; rw [if_neg hk.1]) (by
    rw [m7, m5]
    unfold leV
    by_cases z : k = 0 ∨ k = 5
    · rw [if_pos z, if_pos (by rcases z with w | w; exact Or.inl w; exact Or.inr (Or.inl w))]
    · rw [if_neg z, if_neg (by rintro (w | w | w); exact z (Or.inl w); exact z (Or.inr w); exact hk.2.1 w), if_neg hk.1, if_neg hk.2.2])
  exact ⟨q.1, q.2, ⟨by rw [m1]; exact Nat.le_refl _, by rw [m1, m2]; exact Nat.lt_succ_self _, by rw [m1]; exact m6 9 (by decide), by rw [m2]; exact Nat.le_refl _⟩, m1, m5, m6 10 (by decide), m6 11 (by decide), m3⟩
theorem TG.pa (hT : TG Θ G) (hf : Θ.1 < 640) : TG (paT Θ).1 (va_up G Θ.1 []) ∧ TE Θ (paT Θ).1 G (va_up G Θ.1 []) O H ∧ NwN Θ (paT Θ).1 (paT Θ).2 1 ∧ ((paT Θ).2 = Θ.1 ∧ (paT Θ).1.2.2 5 Θ.1 = 1 ∧ (paT Θ).1.2.2 11 Θ.1 = Int32.ofNat Θ.2.1 ∧ (paT Θ).1.2.1 = Θ.2.1 + 1) := by
  obtain ⟨m1, m2, m3, m4, m5, m6, m7⟩ := mkT_is (k := 1) hf
  have ea : ∀ q y, (paT Θ).1.2.2 q y = up2 (up2 (up2 (mkT Θ 1).1.2.2 11 Θ.1 (Int32.ofNat Θ.2.1)) 12 Θ.1 ((1 : Int32) <<< (Int32.ofNat Θ.2.1 &&& 31))) 13 Θ.1 2 q y := by
    intro q y
    show up2 (up2 (up2 (mkT Θ 1).1.2.2 11 (mkT Θ 1).2 (Int32.ofNat Θ.2.1)) 12 (mkT Θ 1).2 ((1 : Int32) <<< (Int32.ofNat Θ.2.1 &&& 31))) 13 (mkT Θ 1).2 2 q y = _
    rw [m1]
  have e1 : (paT Θ).1.1 = Θ.1 + 1 := m2
  have eo : ∀ q y, y ≠ Θ.1 → (paT Θ).1.2.2 q y = Θ.2.2 q y := fun q y w => by
    rw [ea, up2_ne (fun z => w z.2), up2_ne (fun z => w z.2), up2_ne (fun z => w z.2)]
    exact m4 q y w
  have at' : ∀ q, q ≠ 11 → q ≠ 12 → q ≠ 13 → (paT Θ).1.2.2 q Θ.1 = (mkT Θ 1).1.2.2 q Θ.1 := fun q w1 w2 w3 => by
    rw [ea, up2_ne (fun z => w3 z.1), up2_ne (fun z => w2 z.1), up2_ne (fun z => w1 z.1)]
  have e11 : (paT Θ).1.2.2 11 Θ.1 = Int32.ofNat Θ.2.1 := by rw [ea, up2_ne (fun z => absurd z.1 (by decide)), up2_ne (fun z => absurd z.1 (by decide)), up2_eq]
  have e12 : (paT Θ).1.2.2 12 Θ.1 = (1 : Int32) <<< (Int32.ofNat Θ.2.1 &&& 31) := by rw [ea, up2_ne (fun z => absurd z.1 (by decide)), up2_eq]
  have e13 : (paT Θ).1.2.2 13 Θ.1 = 2 := by rw [ea, up2_eq]
  have e5 : (paT Θ).1.2.2 5 Θ.1 = 1 := (at' 5 (by decide) (by decide) (by decide)).trans m5
  have q := TG.new (Θ' := (paT Θ).1) (O := O) (H := H) hT hf e1 eo ((at' 6 (by decide) (by decide) (by decide)).trans (m6 6 (by decide))) ((at' 7 (by decide) (by decide) (by decide)).trans (m6 7 (by decide))) ((at' 8 (by decide) (by decide) (by decide)).trans (m6 8 (by decide))) (by rw [e12, e5, e11]; rfl) (by rw [e13, e5]; rfl)
  have e2 : (paT Θ).2 = Θ.1 := m1
  refine ⟨q.1, q.2, ⟨by rw [e2]; exact Nat.le_refl _, by rw [e2, e1]; exact Nat.lt_succ_self _, by rw [e2]; exact (at' 9 (by decide) (by decide) (by decide)).trans (m6 9 (by decide)), by rw [e1]; exact Nat.le_refl _⟩, e2, e5, e11, ?_⟩
  show (mkT Θ 1).1.2.1 + 1 = _
  rw [m3]
/-- emit and exit -/
theorem TG.le {Θ' : TrT} {d w : Int32} (hT : TG Θ G) (hf : Θ.1 < 640) (hk : k ≠ 1) (hw : w = leV k d) (e : Θ' = ((mkT Θ k).1.1, (mkT Θ k).1.2.1, up2 (up2 (mkT Θ k).1.2.2 11 (mkT Θ k).2 d) 13 (mkT Θ k).2 w)) : TG Θ' (va_up G Θ.1 []) ∧ TE Θ Θ' G (va_up G Θ.1 []) O H ∧ NwN Θ Θ' Θ.1 1 ∧ (Θ'.2.2 5 Θ.1 = k ∧ Θ'.2.2 11 Θ.1 = d ∧ Θ'.2.1 = Θ.2.1) := by
  obtain ⟨m1, m2, m3, m4, m5, m6, m7⟩ := mkT_is (k := k) hf
  rw [m1] at e
  have ea : Θ'.2.2 = up2 (up2 (mkT Θ k).1.2.2 11 Θ.1 d) 13 Θ.1 w := by rw [e]
  have e1 : Θ'.1 = Θ.1 + 1 := by rw [e]; exact m2
  have eo : ∀ q y, y ≠ Θ.1 → Θ'.2.2 q y = Θ.2.2 q y := fun q y w => by
    rw [ea, up2_ne (fun z => w z.2), up2_ne (fun z => w z.2)]
    exact m4 q y w
  have at' : ∀ q, q ≠ 11 → q ≠ 13 → Θ'.2.2 q Θ.1 = (mkT Θ k).1.2.2 q Θ.1 := fun q w1 w3 => by
    rw [ea, up2_ne (fun z => w3 z.1), up2_ne (fun z => w1 z.1)]
  have e11 : Θ'.2.2 11 Θ.1 = d := by rw [ea, up2_ne (fun z => absurd z.1 (by decide)), up2_eq]
  have e13 : Θ'.2.2 13 Θ.1 = w := by rw [ea, up2_eq]
  have e5 : Θ'.2.2 5 Θ.1 = k := (at' 5 (by decide) (by decide)).trans m5
  have q := TG.new (Θ' := Θ') (O := O) (H := H) hT hf e1 eo ((at' 6 (by decide) (by decide)).trans (m6 6 (by decide))) ((at' 7 (by decide) (by decide)).trans (m6 7 (by decide))) ((at' 8 (by decide) (by decide)).trans (m6 8 (by decide))) (by rw [at' 12 (by decide) (by decide), m6 12 (by decide), e5]; unfold heV; rw [if_neg hk]) (by rw [e13, e5, e11, hw])
  exact ⟨q.1, q.2, ⟨Nat.le_refl _, by rw [e1]; exact Nat.lt_succ_self _, (at' 9 (by decide) (by decide)).trans (m6 9 (by decide)), by rw [e1]; exact Nat.le_refl _⟩, e5, e11, by rw [e]; exact m3⟩
end
