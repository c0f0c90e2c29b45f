/-! the rows of parts as they lie linked: what a reading leaves alone, piece by piece -/
/-- rows below r and which part follows which below B: as they were -/
def KpK (A A' : Nat → Nat → Int32) (B r : Nat) : Prop := (∀ c y, 73 ≤ c → c ≤ 75 → y < r → A' c y = A c y) ∧ ∀ p, p < B → A' 70 p = A 70 p
section
variable {A A' A1 A2 : Nat → Nat → Int32} {p q B r B1 r1 m j : Nat} {σ σ1 σ2 : PS}
theorem KpK.rf : KpK A A B r := ⟨fun _ _ _ _ _ => rfl, fun _ _ => rfl⟩
theorem KpK.tr (h : KpK A A1 B r) (k : KpK A1 A2 B1 r1) (hB : B ≤ B1) (hr : r ≤ r1) : KpK A A2 B r := ⟨fun c y h1 h2 h3 => (k.1 c y h1 h2 (by omega)).trans (h.1 c y h1 h2 h3), fun x h1 => (k.2 x (by omega)).trans (h.2 x h1)⟩
theorem KpK.hd (h : Hd m j σ σ1) : KpK σ.1.2.1 σ1.1.2.1 B r := ⟨fun c y h1 _ _ => h.2.1 c y (by omega), fun x _ => h.2.1 70 x (by omega)⟩
theorem KpK.fi {x : Nat} : KpK σ.1.2.1 (fiP m j x σ).1.2.1 B r := by
  have e : (fiP m j x σ).1.2.1 = up2 σ.1.2.1 71 (40 * m + j) (Int32.ofNat (40 * m + σ.1.1 0)) := rfl
  rw [e]
  exact ⟨fun c y h1 _ _ => up2_ne (fun z => by omega), fun x _ => up2_ne (fun z => absurd z.1 (by decide))⟩
theorem KpK.rn : KpK σ.1.2.1 (rwP p none σ).1.2.1 B (σ.1.1 4) ∧ (rwP p none σ).1.2.1 73 (σ.1.1 4) = -1 := by
  have e : (rwP p none σ).1.2.1 = up2 (up2 (up2 (up2 σ.1.2.1 73 (σ.1.1 4) (-1)) 74 (σ.1.1 4) (-1)) 75 (σ.1.1 4) (-1)) 69 p (Int32.ofNat (σ.1.1 4)) := rfl
  rw [e]
  refine ⟨⟨fun c y h1 h2 h3 => ?_, fun x _ => ?_⟩, ?_⟩
  · rw [up2_ne (fun z => by omega), up2_ne (fun z => by omega), up2_ne (fun z => by omega), up2_ne (fun z => by omega)]
  · rw [up2_ne (fun z => absurd z.1 (by decide)), up2_ne (fun z => absurd z.1 (by decide)), up2_ne (fun z => absurd z.1 (by decide)), up2_ne (fun z => absurd z.1 (by decide))]
  · rw [up2_ne (fun z => absurd z.1 (by decide)), up2_ne (fun z => absurd z.1 (by decide)), up2_ne (fun z => absurd z.1 (by decide))]; exact up2_eq
theorem rs_lk : (∀ c y, 73 ≤ c → c ≤ 75 → y < σ.1.1 4 → ¬ (c = 75 ∧ y = q) → (rwP p (some q) σ).1.2.1 c y = σ.1.2.1 c y) ∧ (∀ x, (rwP p (some q) σ).1.2.1 70 x = σ.1.2.1 70 x) ∧ (rwP p (some q) σ).1.2.1 73 (σ.1.1 4) = -1 := by
  have e : (rwP p (some q) σ).1.2.1 = up2 (up2 (up2 (up2 σ.1.2.1 73 (σ.1.1 4) (-1)) 74 (σ.1.1 4) (-1)) 75 (σ.1.1 4) (-1)) 75 q (Int32.ofNat (σ.1.1 4)) := rfl
  rw [e]
  refine ⟨fun c y h1 h2 h3 h4 => ?_, fun x => ?_, ?_⟩
  · rw [up2_ne h4, up2_ne (fun z => by omega), up2_ne (fun z => by omega), up2_ne (fun z => by omega)]
  · rw [up2_ne (fun z => absurd z.1 (by decide)), up2_ne (fun z => absurd z.1 (by decide)), up2_ne (fun z => absurd z.1 (by decide)), up2_ne (fun z => absurd z.1 (by decide))]
  · rw [up2_ne (fun z => absurd z.1 (by decide)), up2_ne (fun z => absurd z.1 (by decide)), up2_ne (fun z => absurd z.1 (by decide))]; exact up2_eq
theorem KpK.rs (h : r ≤ q) (h2 : r ≤ σ.1.1 4) : KpK σ.1.2.1 (rwP p (some q) σ).1.2.1 B r := ⟨fun c y h1 h2 h3 => rs_lk.1 c y h1 h2 (by omega) (fun z => by omega), fun x _ => rs_lk.2.1 x⟩
theorem FrK.kp (h : FrK A A1 B r q) (h2 : A 73 q = -1) (hr : r1 ≤ r) (hq : r1 ≤ q) : KpK A A1 B r1 := ⟨fun c y h3 h4 h5 => h.1 c y h3 h4 (by omega) (by omega), fun x h3 => h.2 x h3 (fun z => absurd h2 z)⟩
theorem FrK.by (h : FrK A A1 B r q) (k : KpK A1 A2 B1 r1) (hB : B ≤ B1) (hr : r ≤ r1) : FrK A A2 B r q := h.st (fun c y h1 h2 h3 _ => k.1 c y h1 h2 (by omega)) (fun x h1 => k.2 x (by omega))
theorem LkK.by (h : LkK A A1 p q) (k : KpK A1 A2 B1 r1) (hB : p < B1) (hr : q < r1) : LkK A A2 p q := h.st (fun c h1 h2 => k.1 c q h1 h2 hr) (fun x h1 => k.2 x (by omega))
theorem FrK.two (h : FrK A A1 B r q) (l : LkK A A1 B q) (k : FrK A1 A2 B1 r1 q) (hB : B ≤ B1) (hr : r ≤ r1) (h5 : B < 100000) : FrK A A2 B r q := by
  refine ⟨fun c y h1 h2 h3 h4 => (k.1 c y h1 h2 (by omega) h4).trans (h.1 c y h1 h2 h3 h4), fun x h1 h2 => (k.2 x (by omega) (fun _ z => ?_)).trans (h.2 x h1 h2)⟩
  rw [l.2.1] at z
  have := inj32 (by omega) (by omega) z
  omega
end
