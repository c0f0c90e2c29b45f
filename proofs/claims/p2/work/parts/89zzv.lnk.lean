/-! the rows of parts as they lie linked: what a reading leaves alone -/
def b9K (p so pl : Nat) (wh : Int32) (A : Nat → Nat → Int32) : Nat → Nat → Int32 := up2 (up2 (up2 (up2 (up2 (up2 (up2 (up2 (up2 A 58 p (Int32.ofNat so)) 59 p (Int32.ofNat pl)) 60 p wh) 61 p 0) 63 p (-1)) 65 p (-1)) 67 p (-1)) 69 p (-1)) 70 p (-1)
/-- rows but q, and which part follows which, as they were: below r, below B -/
def FrK (A A' : Nat → Nat → Int32) (B r q : Nat) : Prop := (∀ c y, 73 ≤ c → c ≤ 75 → y < r → y ≠ q → A' c y = A c y) ∧ ∀ p, p < B → (A 73 q ≠ -1 → A 74 q ≠ Int32.ofNat p) → A' 70 p = A 70 p
/-- a part p was put behind row q's last -/
def LkK (A A' : Nat → Nat → Int32) (p q : Nat) : Prop := A' 75 q = A 75 q ∧ A' 74 q = Int32.ofNat p ∧ A' 70 p = -1 ∧ (A 73 q = -1 → A' 73 q = Int32.ofNat p) ∧ (A 73 q ≠ -1 → A' 73 q = A 73 q ∧ ∀ x, x < p → A 74 q = Int32.ofNat x → A' 70 x = Int32.ofNat p)
section
variable {A A' A1 A2 : Nat → Nat → Int32} {p so pl q B r : Nat} {wh : Int32}
theorem b9_ne {c x : Nat} (h : ¬ (c ≤ 70 ∧ x = p)) : b9K p so pl wh A c x = A c x := by
  unfold b9K
  rw [up2_ne (fun z => h ⟨by omega, z.2⟩), up2_ne (fun z => h ⟨by omega, z.2⟩), up2_ne (fun z => h ⟨by omega, z.2⟩), up2_ne (fun z => h ⟨by omega, z.2⟩), up2_ne (fun z => h ⟨by omega, z.2⟩), up2_ne (fun z => h ⟨by omega, z.2⟩), up2_ne (fun z => h ⟨by omega, z.2⟩), up2_ne (fun z => h ⟨by omega, z.2⟩), up2_ne (fun z => h ⟨by omega, z.2⟩)]
theorem b9_70 : b9K p so pl wh A 70 p = -1 := up2_eq
theorem bg_lk (hp : p < 100000) (hx : A 73 q = -1 ∨ ∃ x, x < p ∧ A 74 q = Int32.ofNat x) : FrK A (bgA p so pl q wh A) p r q ∧ LkK A (bgA p so pl q wh A) p q := by
  have e : bgA p so pl q wh A = up2 (lkA p q (b9K p so pl wh A)) 74 q (Int32.ofNat p) := rfl
  have n73 : b9K p so pl wh A 73 q = A 73 q := b9_ne (fun z => by omega)
  have n74 : b9K p so pl wh A 74 q = A 74 q := b9_ne (fun z => by omega)
  have n75 : b9K p so pl wh A 75 q = A 75 q := b9_ne (fun z => by omega)
  rw [e]
  by_cases h : A 73 q = -1
  · have l : lkA p q (b9K p so pl wh A) = up2 (b9K p so pl wh A) 73 q (Int32.ofNat p) := if_pos (by rw [n73]; exact h)
    rw [l]
    refine ⟨⟨fun c y h1 h2 h3 h4 => ?_, fun x h1 h2 => ?_⟩, ?_, up2_eq, ?_, fun _ => ?_, fun z => absurd h z⟩
    · rw [up2_ne (fun z => h4 z.2), up2_ne (fun z => h4 z.2)]; exact b9_ne (fun z => by omega)
    · rw [up2_ne (fun z => absurd z.1 (by decide)), up2_ne (fun z => absurd z.1 (by decide))]; exact b9_ne (fun z => by omega)
    · rw [up2_ne (fun z => absurd z.1 (by decide)), up2_ne (fun z => absurd z.1 (by decide))]; exact n75
    · rw [up2_ne (fun z => absurd z.1 (by decide)), up2_ne (fun z => absurd z.1 (by decide))]; exact b9_70
    · rw [up2_ne (fun z => absurd z.1 (by decide))]; exact up2_eq
  · obtain ⟨x, hx1, hx2⟩ : ∃ x, x < p ∧ A 74 q = Int32.ofNat x := by
      rcases hx with z | z
      · exact absurd z h
      · exact z
    have l : lkA p q (b9K p so pl wh A) = up2 (b9K p so pl wh A) 70 x (Int32.ofNat p) := by
      unfold lkA
      rw [if_neg (by rw [n73]; exact h), n74, hx2, lt32 (by omega)]
    rw [l]
    refine ⟨⟨fun c y h1 h2 h3 h4 => ?_, fun y h1 h2 => ?_⟩, ?_, up2_eq, ?_, fun z => absurd z h, fun _ => ⟨?_, fun y h1 h2 => ?_⟩⟩
    · rw [up2_ne (fun z => h4 z.2), up2_ne (fun z => by omega)]; exact b9_ne (fun z => by omega)
    · have hy : y ≠ x := fun z => h2 h (by rw [z]; exact hx2)
      rw [up2_ne (fun z => absurd z.1 (by decide)), up2_ne (fun z => hy z.2)]; exact b9_ne (fun z => by omega)
    · rw [up2_ne (fun z => absurd z.1 (by decide)), up2_ne (fun z => absurd z.1 (by decide))]; exact n75
    · rw [up2_ne (fun z => absurd z.1 (by decide)), up2_ne (fun z => by omega)]; exact b9_70
    · rw [up2_ne (fun z => absurd z.1 (by decide)), up2_ne (fun z => absurd z.1 (by decide))]; exact n73
    · have hy : y = x := inj32 (by omega) (by omega) (h2.symm.trans hx2)
      rw [hy, up2_ne (fun z => absurd z.1 (by decide))]; exact up2_eq
/-- what leaves all of it alone comes behind -/
theorem FrK.st (h : FrK A A1 B r q) (k1 : ∀ c y, 73 ≤ c → c ≤ 75 → y < r → y ≠ q → A2 c y = A1 c y) (k2 : ∀ p, p < B → A2 70 p = A1 70 p) : FrK A A2 B r q := ⟨fun c y h1 h2 h3 h4 => (k1 c y h1 h2 h3 h4).trans (h.1 c y h1 h2 h3 h4), fun p h1 h2 => (k2 p h1).trans (h.2 p h1 h2)⟩
theorem LkK.st (h : LkK A A1 p q) (k1 : ∀ c, 73 ≤ c → c ≤ 75 → A2 c q = A1 c q) (k2 : ∀ x, x ≤ p → A2 70 x = A1 70 x) : LkK A A2 p q := ⟨(k1 75 (by decide) (by decide)).trans h.1, (k1 74 (by decide) (by decide)).trans h.2.1, (k2 p (Nat.le_refl _)).trans h.2.2.1, fun z => (k1 73 (by decide) (by decide)).trans (h.2.2.2.1 z), fun z => ⟨(k1 73 (by decide) (by decide)).trans (h.2.2.2.2 z).1, fun x h1 h2 => (k2 x (by omega)).trans ((h.2.2.2.2 z).2 x h1 h2)⟩⟩
end
