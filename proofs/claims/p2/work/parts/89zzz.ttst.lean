/-! parts as a tree: what comes later leaves it alone -/
/-- two worlds alike in parts j to j', rows r to r', nodes lo to hi -/
def WSt (W W' : Wo) (m zn fn lo hi j j' r r' : Nat) : Prop := (∀ c P, 58 ≤ c → c ≤ 72 → c ≠ 70 → 40 * m + j ≤ P → P < 40 * m + j' → woA W' c P = woA W c P) ∧ (∀ P, 40 * m + j < P → P < 40 * m + j' → woA W' 70 P = woA W 70 P) ∧ (∀ c q, 73 ≤ c → c ≤ 75 → r ≤ q → q < r' → woA W' c q = woA W c q) ∧ (∀ i f, j ≤ i → i < j' → woP W' i f = woP W i f) ∧ Sm (woV W) (woV W') lo hi ∧ (∀ y, lo ≤ y → y < hi → woC W' y = woC W y) ∧ (∀ c, c < zn → woZ W' c = woZ W c) ∧ (∀ f c, c < zn → woQ W f c → woQ W' f c) ∧ (∀ f, f < fn → woF W' f = woF W f) ∧ ∀ x y, j ≤ x → y ≤ j' → woG W' x y = woG W x y ∧ woU W' x y = woU W x y
section
variable {W W' : Wo} {m zn fn lo hi zn' fn' lo' hi' j j' r r' : Nat}
theorem WSt.sub {a b' c d : Nat} (h : WSt W W' m zn fn lo hi j j' r r') (h1 : j ≤ a) (h2 : b' ≤ j') (h3 : r ≤ c) (h4 : d ≤ r') : WSt W W' m zn fn lo hi a b' c d := by
  obtain ⟨q1, q2, q3, q4, q5, q6, q7, q8, q9, q10⟩ := h
  exact ⟨fun c P z1 z2 z3 z4 z5 => q1 c P z1 z2 z3 (by omega) (by omega), fun P z1 z2 => q2 P (by omega) (by omega), fun c q z1 z2 z3 z4 => q3 c q z1 z2 (by omega) (by omega), fun i f z1 z2 => q4 i f (by omega) (by omega), q5, q6, q7, q8, q9, fun x y z1 z2 => q10 x y (by omega) (by omega)⟩
theorem aiS.st {w w' : Vw} {x body p : Nat} {l : Int32} {im : Bool} (h : aiS w lo hi x body l im p) (s : Sm w w' lo hi) (h1 : lo' ≤ lo) (h2 : hi ≤ hi') : aiS w' lo' hi' x body l im p := by
  cases im with
  | false => rw [aiS_f] at h ⊢; exact h.st s h1 h2
  | true =>
    rw [aiS_t] at h ⊢
    obtain ⟨no, z, a1, a2, a3⟩ := h
    exact ⟨no, z, a1.st s h1 h2, a2.st s h1 h2, a3.st s h1 h2⟩
theorem ChA.st {A A' : Nat → Nat → Int32} : ∀ (t : List Nat) (a : Nat), ChA A a t → A' 70 a = A 70 a → (∀ x, x ∈ t → A' 70 x = A 70 x) → ChA A' a t
  | [], a, h, e, _ => e.trans h
  | x :: t, a, h, e, k => ⟨e.trans h.1, ChA.st t x h.2 (k x (List.mem_cons_self ..)) (fun y z => k y (List.mem_cons_of_mem _ z))⟩
variable (hz : zn ≤ zn') (hf : fn ≤ fn') (hl : lo' ≤ lo) (hh : hi ≤ hi')
theorem CdW.st {l : Int32} {P : Nat} (h : CdW W m zn P l) (s : WSt W W' m zn fn lo hi j j' r r') (hz : zn ≤ zn') (h1 : 40 * m + j ≤ P) (h2 : P < 40 * m + j') : CdW W' m zn' P l := by
  obtain ⟨f, c, a1, a2, a3, a4, a5, a6⟩ := h
  obtain ⟨q1, q2, q3, q4, q5, q6, q7, q8, q9, q10⟩ := s
  exact ⟨f, c, a1, by omega, (q1 62 P (by decide) (by decide) (by decide) h1 h2).trans a3, (q1 63 P (by decide) (by decide) (by decide) h1 h2).trans a4, q8 f c a2 a5, by rw [q7 c a2]; exact a6⟩
theorem PkS.st {k : Int32} {K : List KE} {p pb x : Nat} {ys : List Nat} (h : PkS W m zn fn lo hi k K j p pb x ys) (s : WSt W W' m zn fn lo hi j j' r r') (hz : zn ≤ zn') (hf : fn ≤ fn') (hl : lo' ≤ lo) (hh : hi ≤ hi') (hj : j < j') : PkS W' m zn' fn' lo' hi' k K j p pb x ys := by
  have cd : ∀ l, CdW W m zn (40 * m + j) l → CdW W' m zn' (40 * m + j) l := fun l z => z.st s hz (by omega) (by omega)
  have s0 := s
  obtain ⟨q1, q2, q3, q4, q5, q6, q7, q8, q9, q10⟩ := s
  have a60 := q1 60 (40 * m + j) (by decide) (by decide) (by decide) (by omega) (by omega)
  have a61 := q1 61 (40 * m + j) (by decide) (by decide) (by decide) (by omega) (by omega)
  unfold PkS at h ⊢
  rw [a60, a61]
  by_cases k1 : k = 38
  · rw [if_pos k1] at h ⊢; exact ⟨h.1.st q5 hl hh, h.2⟩
  rw [if_neg k1] at h ⊢
  by_cases k2 : k = 39
  · rw [if_pos k2] at h ⊢; exact ⟨h.1.st q5 hl hh, h.2⟩
  rw [if_neg k2] at h ⊢
  by_cases k3 : k = 40
  · rw [if_pos k3] at h ⊢
    obtain ⟨⟨v, b1, b2⟩, b3⟩ := h
    exact ⟨⟨v, b1, b2.st q5 hl hh⟩, b3⟩
  rw [if_neg k3] at h ⊢
  by_cases k4 : k = 41
  · rw [if_pos k4] at h ⊢
    obtain ⟨⟨v, b1, b2⟩, b3⟩ := h
    exact ⟨⟨v, b1, b2.st q5 hl hh⟩, b3⟩
  rw [if_neg k4] at h ⊢
  by_cases k5 : k = 47
  · rw [if_pos k5] at h ⊢
    obtain ⟨⟨l, im, b1, b2, b3⟩, b4⟩ := h
    exact ⟨⟨l, im, cd l b1, b2, b3.st q5 hl hh⟩, b4⟩
  rw [if_neg k5] at h ⊢
  by_cases k6 : k = 57
  · rw [if_pos k6] at h ⊢
    obtain ⟨⟨v, e, b0, b1, b2, b3⟩, b4⟩ := h
    exact ⟨⟨v, e, b0, b1, b2, b3.st q5 hl hh⟩, b4⟩
  rw [if_neg k6] at h ⊢
  by_cases k7 : k = 42
  · rw [if_pos k7] at h ⊢
    obtain ⟨y, b1, b2⟩ := h
    exact ⟨y, b1, b2.st q5 hl hh⟩
  rw [if_neg k7] at h ⊢
  by_cases k8 : k = 44
  · rw [if_pos k8] at h ⊢
    obtain ⟨y, z, l, b1, b2, b3⟩ := h
    exact ⟨y, z, l, cd l b1, b2.st q5 hl hh, b3.imp id (fun w => ⟨w.1, w.2.st q5 hl hh⟩)⟩
  rw [if_neg k8] at h ⊢
  by_cases k9 : k = 58
  · rw [if_pos k9] at h ⊢
    obtain ⟨y, z, f, b0, b1, b2, b3⟩ := h
    refine ⟨y, z, f, by omega, (q4 j 4 (Nat.le_refl _) hj).trans b1, ?_, b3.imp id (fun w => ⟨w.1, w.2.st q5 hl hh⟩)⟩
    rw [q9 f b0]
    exact b2.st q5 hl hh
  rw [if_neg k9] at h ⊢
  by_cases k10 : k = 49
  · rw [if_pos k10] at h ⊢
    obtain ⟨y, l, im, b0, b1, b2, b3⟩ := h
    exact ⟨y, l, im, b0, cd l b1, b2, b3.st q5 hl hh⟩
  rw [if_neg k10] at h ⊢
  by_cases k11 : k = 50
  · rw [if_pos k11] at h ⊢
    obtain ⟨y, l, im, b0, b1, b2, b3⟩ := h
    exact ⟨y, l, im, b0, cd l b1, b2, b3.st q5 hl hh⟩
  rw [if_neg k11] at h ⊢
  by_cases k12 : k = 52
  · rw [if_pos k12] at h ⊢
    obtain ⟨y, l, b0, b1, b2⟩ := h
    exact ⟨y, l, b0, cd l b1, b2.st q5 hl hh⟩
  rw [if_neg k12] at h ⊢
  by_cases k13 : k = 53
  · rw [if_pos k13] at h ⊢
    obtain ⟨y, l, im, aw, b0, b1, b2, b3, b4⟩ := h
    exact ⟨y, l, im, aw, b0, cd l b1, b2, b3.st q5 hl hh, b4.st q5 hl hh⟩
  rw [if_neg k13] at h ⊢
  by_cases k14 : k = 55
  · rw [if_pos k14] at h ⊢
    obtain ⟨y, b1, b2⟩ := h
    exact ⟨y, b1, b2.st q5 hl hh⟩
  rw [if_neg k14] at h ⊢
  by_cases k15 : k = 17
  · rw [if_pos k15] at h ⊢; exact h.st q5 hl hh
  rw [if_neg k15] at h ⊢
  exact ⟨h.1.st q5 hl hh, h.2⟩
theorem PcS.st {k : Int32} {x : Nat} (h : PcS W m k j j' x) (s : WSt W W' m zn fn lo hi j j' r r') (hj : j < j') : PcS W' m k j j' x := by
  obtain ⟨h1, h2, ⟨pl, h3, h4⟩, h5, h6⟩ := h
  obtain ⟨q1, q2, q3, q4, -⟩ := s
  have e := fun c z1 z2 z3 => q1 c (40 * m + j) z1 z2 z3 (by omega) (by omega)
  exact ⟨h1, (e 58 (by decide) (by decide) (by decide)).trans h2, ⟨pl, (e 59 (by decide) (by decide) (by decide)).trans h3, (q4 j 0 (Nat.le_refl _) hj).trans h4⟩, (e 71 (by decide) (by decide) (by decide)).trans h5, (q4 j 1 (Nat.le_refl _) hj).trans h6⟩
theorem ltK.st {k : Int32} {ys : List Nat} {fl : Bool} (h : ltK W k j ys fl) (s : WSt W W' m zn fn lo hi j j' r r') (hj : j < j') (hy : k = 42 → lo ≤ ys.headD 0 ∧ ys.headD 0 < hi) : ltK W' k j ys fl := by
  obtain ⟨q1, q2, q3, q4, q5, q6, -⟩ := s
  unfold ltK at h ⊢
  rw [q4 j 2 (Nat.le_refl _) hj, h]
  by_cases k1 : k = 42
  · rw [if_pos k1, if_pos k1, q6 _ (hy k1).1 (hy k1).2]
  · rw [if_neg k1, if_neg k1]
end
