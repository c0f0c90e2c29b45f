/-! nodes of the reference: those above a node -/
def ancN (P : Nat → Nat → Prop) : Nat → Nat → Nat → Prop
  | 0, z, y => z = y
  | k + 1, z, y => ∃ x, P z x ∧ ancN P k x y
def inS (P : Nat → Nat → Prop) (z y : Nat) : Prop := ∃ k, ancN P k z y
/-- x is z's parent -/
def prB (m : Nat) (S : RBs) (z x : Nat) : Prop := (700 * m ≤ z ∧ z < 700 * m + S.1) ∧ x < 100000 ∧ S.2 86 z = Int32.ofNat x
theorem prB_f {m z x x' : Nat} {S : RBs} (h : prB m S z x) (h' : prB m S z x') : x = x' := inj32 (by have := h.2.1; omega) (by have := h'.2.1; omega) (h.2.2.symm.trans h'.2.2)
section
variable {P : Nat → Nat → Prop} {z y c c1 c2 : Nat}
theorem anc_snoc : ∀ (k z c : Nat), ancN P k z c → P c y → ancN P (k + 1) z y
  | 0, z, c, h, e => by
    have h : z = c := h
    subst h
    exact ⟨y, e, rfl⟩
  | k + 1, z, c, h, e => by
    obtain ⟨x, h2, h3⟩ := h
    exact ⟨x, h2, anc_snoc k x c h3 e⟩
theorem anc_lin (hf : ∀ z x x', P z x → P z x' → x = x') : ∀ (k1 k2 z a b : Nat), ancN P k1 z a → ancN P k2 z b → k1 ≤ k2 → ancN P (k2 - k1) a b
  | 0, k2, z, a, b, h1, h2, _ => by
    have h1 : z = a := h1
    subst h1
    exact h2
  | k1 + 1, 0, _, _, _, _, _, h => absurd h (by omega)
  | k1 + 1, k2 + 1, z, a, b, ⟨x, p2, p3⟩, ⟨x', q2, q3⟩, h => by
    have e : x = x' := hf z x x' p2 q2
    subst e
    rw [Nat.add_sub_add_right]
    exact anc_lin hf k1 k2 x a b p3 q3 (by omega)
theorem inS.rf : inS P z z := ⟨0, rfl⟩
theorem inS.up (h : inS P z c) (e : P c y) : inS P z y := by
  obtain ⟨k, h⟩ := h
  exact ⟨k + 1, anc_snoc k z c h e⟩
/-- a node's rank grows upward -/
theorem anc_rho {ρ : Nat → Nat} (hr : ∀ z x, P z x → ρ z < ρ x) : ∀ (k z y : Nat), ancN P k z y → ρ z ≤ ρ y
  | 0, z, y, h => by
    have h : z = y := h
    rw [h]; exact Nat.le_refl _
  | k + 1, z, y, ⟨x, h2, h3⟩ => by
    have := hr z x h2
    have := anc_rho hr k x y h3
    omega
/-- siblings have nothing in common; a node lies not within its child -/
theorem sub_dj {ρ : Nat → Nat} (hf : ∀ z x x', P z x → P z x' → x = x') (hr : ∀ z x, P z x → ρ z < ρ x) (e1 : P c1 y) (e2 : P c2 y) (hne : c1 ≠ c2) (h1 : inS P z c1) (h2 : inS P z c2) : False := by
  obtain ⟨k1, h1⟩ := h1
  obtain ⟨k2, h2⟩ := h2
  have two : ∀ (a b ka kb : Nat), P a y → P b y → a ≠ b → ancN P ka z a → ancN P kb z b → ka ≤ kb → False := by
    intro a b ka kb ea eb ne ha hb hk
    have l := anc_lin hf ka kb z a b ha hb hk
    cases hd : kb - ka with
    | zero =>
      rw [hd] at l
      exact ne l
    | succ k =>
      rw [hd] at l
      obtain ⟨x, x2, x3⟩ := l
      have ex : x = y := hf a x y x2 ea
      subst ex
      have := anc_rho hr k x b x3
      have := hr b x eb
      omega
  by_cases hk : k1 ≤ k2
  · exact two c1 c2 k1 k2 e1 e2 hne h1 h2 hk
  · exact two c2 c1 k2 k1 e2 e1 (fun z => hne z.symm) h2 h1 (by omega)
theorem sub_no {ρ : Nat → Nat} (hr : ∀ z x, P z x → ρ z < ρ x) (e1 : P c y) : ¬ inS P y c := by
  rintro ⟨k, h⟩
  have := anc_rho hr k y c h
  have := hr c y e1
  omega
end
section
variable {m : Nat} {S S1 : RBs} {G : Nat → List Nat} {z y c c1 c2 : Nat}
theorem RgB.rho (h : RgB m S G) : ∃ ρ : Nat → Nat, ∀ z x, prB m S z x → ρ z < ρ x := by
  obtain ⟨⟨h4, h1⟩, h2, h3, h5, ρ, h6⟩ := h
  refine ⟨ρ, fun z x ⟨⟨z1, z2⟩, hx, e⟩ => ?_⟩
  rcases h5 z z1 z2 with w | ⟨x', w1, w2, w3⟩
  · exact absurd (w.symm.trans e).symm (nm32 hx)
  · have ex : x = x' := inj32 (by omega) (by omega) (e.symm.trans w2)
    subst ex
    exact h6 x w1.1 w1.2 z w3
/-- children and parents -/
theorem RgB.pr (h : RgB m S G) (hy : 700 * m ≤ y ∧ y < 700 * m + S.1) (hc : c ∈ G y) : prB m S c y := by
  obtain ⟨⟨h4, h1⟩, h2, -⟩ := h
  obtain ⟨l, -, ch⟩ := h2 y hy.1 hy.2
  exact ⟨ch c hc, by omega, l.2.2.2.1 c hc⟩
/-- with one root, all nodes lie below it -/
theorem cnt_le {p1 : Nat → Bool} : ∀ (n a b : Nat), a < b → b < n → p1 a = true → p1 b = true → 2 ≤ (List.range n).countP p1 := by
  intro n
  induction n with
  | zero => intro a b h1 h2; omega
  | succ n ih =>
    intro a b h1 h2 pa pb
    rw [List.range_succ, List.countP_append, List.countP_singleton]
    by_cases e : b = n
    · subst e
      rw [pb, if_pos rfl]
      have : 1 ≤ (List.range b).countP p1 := by
        rw [Nat.succ_le_iff, List.countP_pos_iff]
        exact ⟨a, List.mem_range.mpr h1, pa⟩
      omega
    · have := ih a b h1 (by omega) pa pb
      omega
theorem rtC_one (h : rtC m S ≤ 1) (h1 : (700 * m ≤ z ∧ z < 700 * m + S.1) ∧ S.2 86 z = -1) (h2 : (700 * m ≤ y ∧ y < 700 * m + S.1) ∧ S.2 86 y = -1) : z = y := by
  unfold rtC at h
  rcases Nat.lt_trichotomy z y with w | w | w
  · have := cnt_le (p1 := fun k => decide (S.2 86 (700 * m + k) = -1)) S.1 (z - 700 * m) (y - 700 * m) (by omega) (by omega) (by rw [show 700 * m + (z - 700 * m) = z by omega]; exact decide_eq_true h1.2) (by rw [show 700 * m + (y - 700 * m) = y by omega]; exact decide_eq_true h2.2)
    omega
  · exact w
  · have := cnt_le (p1 := fun k => decide (S.2 86 (700 * m + k) = -1)) S.1 (y - 700 * m) (z - 700 * m) (by omega) (by omega) (by rw [show 700 * m + (y - 700 * m) = y by omega]; exact decide_eq_true h2.2) (by rw [show 700 * m + (z - 700 * m) = z by omega]; exact decide_eq_true h1.2)
    omega
theorem bd_max (f : Nat → Nat) : ∀ n, ∃ R, ∀ k, k < n → f k ≤ R
  | 0 => ⟨0, fun k h => absurd h (Nat.not_lt_zero _)⟩
  | n + 1 => by
    obtain ⟨R, h⟩ := bd_max f n
    refine ⟨max R (f n), fun k hk => ?_⟩
    by_cases e : k = n
    · rw [e]; omega
    · have := h k (by omega); omega
theorem rch_all (hR : RgB m S G) (h1 : rtC m S ≤ 1) (hy : (700 * m ≤ y ∧ y < 700 * m + S.1) ∧ S.2 86 y = -1) : ∀ z, 700 * m ≤ z → z < 700 * m + S.1 → inS (prB m S) z y := by
  obtain ⟨⟨h4, h7⟩, h2, h3, h5, ρ, h6⟩ := id hR
  obtain ⟨R, hR2⟩ := bd_max ρ (700 * m + S.1)
  have main : ∀ d z, 700 * m ≤ z → z < 700 * m + S.1 → R - ρ z ≤ d → inS (prB m S) z y := by
    intro d
    induction d with
    | zero =>
      intro z z1 z2 hd
      rcases h5 z z1 z2 with w | ⟨x, w1, w2, w3⟩
      · rw [rtC_one h1 ⟨⟨z1, z2⟩, w⟩ hy]; exact inS.rf
      · have := h6 x w1.1 w1.2 z w3
        have := hR2 x w1.2
        omega
    | succ d ih =>
      intro z z1 z2 hd
      rcases h5 z z1 z2 with w | ⟨x, w1, w2, w3⟩
      · rw [rtC_one h1 ⟨⟨z1, z2⟩, w⟩ hy]; exact inS.rf
      · have := h6 x w1.1 w1.2 z w3
        have := hR2 x w1.2
        obtain ⟨k, hk⟩ := ih x w1.1 w1.2 (by omega)
        exact ⟨k + 1, x, ⟨⟨z1, z2⟩, by omega, w2⟩, hk⟩
  exact fun z z1 z2 => main _ z z1 z2 (Nat.le_refl _)
end
