/-! parts as a tree: a reading stays as later ones come -/
section
variable {W W' : Wo} {m zn fn lo hi zn' fn' lo' hi' : Nat}
theorem TT.row {g : Nat} {K : List KE} {a2 a3 a4 : Nat} {c1 c2 : Int32} {fl : Bool} {j j' r r' p p' : Nat} {L : List (Nat × Nat)} (h : TT W m zn fn lo hi g 0 K a2 a3 a4 c1 c2 fl j j' r r' p p' L) : ∃ y, L = [(0, y)] ∧ lo ≤ y ∧ y < hi := by
  cases g with
  | zero => unfold TT at h; exact h.elim
  | succ g =>
    unfold TT at h
    rw [if_pos rfl] at h
    obtain ⟨x, jm, rm, pm, T, y, e, h1, h2, h3, h4⟩ := h
    exact ⟨y, e, h3.1⟩
theorem TT.mem : ∀ (g : Nat) (K : List KE) (a2 a3 a4 : Nat) (c1 c2 : Int32) (fl : Bool) (j j' r r' p p' : Nat) (L : List (Nat × Nat)), TT W m zn fn lo hi g 1 K a2 a3 a4 c1 c2 fl j j' r r' p p' L → ∀ e, e ∈ L → j ≤ e.1 ∧ e.1 < j' := by
  intro g
  induction g with
  | zero => intro K a2 a3 a4 c1 c2 fl j j' r r' p p' L h; unfold TT at h; exact h.elim
  | succ g ih =>
    intro K a2 a3 a4 c1 c2 fl j j' r r' p p' L h e he
    unfold TT at h
    rw [if_neg (by decide), if_pos rfl] at h
    rcases h with ⟨h1, -⟩ | ⟨x, jm, rm, pm, T, h1, h2, h3⟩
    · rw [h1] at he; cases he
    · have a := TT.le _ 2 _ _ _ _ _ _ _ _ _ _ _ _ _ _ (by decide) h2
      have c := TT.le _ 1 _ _ _ _ _ _ _ _ _ _ _ _ _ _ (by decide) h3
      have a4 := a.2.2.2 (by decide)
      rw [h1] at he
      rcases List.mem_cons.mp he with z | z
      · rw [z]; show j ≤ j ∧ j < j'; omega
      · have := ih _ _ _ _ _ _ _ _ _ _ _ _ _ _ h3 e z
        omega
theorem TT.st (hz : zn ≤ zn') (hf : fn ≤ fn') (hl : lo' ≤ lo) (hh : hi ≤ hi') : ∀ (g md : Nat) (K : List KE) (a2 a3 a4 : Nat) (c1 c2 : Int32) (fl : Bool) (j j' r r' p p' : Nat) (L : List (Nat × Nat)), md ≤ 3 → TT W m zn fn lo hi g md K a2 a3 a4 c1 c2 fl j j' r r' p p' L → WSt W W' m zn fn lo hi j j' r r' → (md = 0 → woA W' 73 (sqK K) = woA W 73 (sqK K) ∧ woA W' 74 (sqK K) = woA W 74 (sqK K) ∧ woA W' 70 (40 * m + j) = woA W 70 (40 * m + j)) → (md = 3 → (∀ c, 73 ≤ c → c ≤ 75 → woA W' c a3 = woA W c a3) ∧ woA W' 70 (40 * m + j) = woA W 70 (40 * m + j)) → TT W' m zn' fn' lo' hi' g md K a2 a3 a4 c1 c2 fl j j' r r' p p' L := by
  intro g
  induction g with
  | zero => intro md K a2 a3 a4 c1 c2 fl j j' r r' p p' L _ h; unfold TT at h; exact h.elim
  | succ g ih =>
    intro md K a2 a3 a4 c1 c2 fl j j' r r' p p' L hm h s s0 s3
    have no0 : ∀ {md : Nat} {P : Prop}, md ≠ 0 → md = 0 → P := fun a b' => absurd b' a
    have no3 : ∀ {md : Nat} {P : Prop}, md ≠ 3 → md = 3 → P := fun a b' => absurd b' a
    unfold TT at h ⊢
    by_cases m0 : md = 0
    · rw [if_pos m0] at h ⊢
      obtain ⟨x, jm, rm, pm, T, y, e, h1, h2, h3, h4, h5, h6⟩ := h
      have a := TT.le _ 2 _ _ _ _ _ _ _ _ _ _ _ _ _ _ (by decide) h1
      have c := TT.le _ 1 _ _ _ _ _ _ _ _ _ _ _ _ _ _ (by decide) h2
      have a9 := a.2.2.2 (by decide)
      obtain ⟨t1, t2, t3⟩ := s0 m0
      refine ⟨x, jm, rm, pm, T, y, e, ih 2 _ _ _ _ _ _ _ _ _ _ _ _ _ _ (by decide) h1 (s.sub (by omega) (by omega) (by omega) (by omega)) (no0 (by decide)) (no3 (by decide)), ih 1 _ _ _ _ _ _ _ _ _ _ _ _ _ _ (by decide) h2 (s.sub (by omega) (by omega) (by omega) (by omega)) (no0 (by decide)) (no3 (by decide)), h3.st s.2.2.2.2.1 hl hh, t1.trans h4, t2.trans h5, ChA.st _ _ h6 t3 (fun z hzz => ?_)⟩
      obtain ⟨e2, he2, rfl⟩ := List.mem_map.mp hzz
      have := TT.mem _ _ _ _ _ _ _ _ _ _ _ _ _ _ _ h2 e2 he2
      exact s.2.1 _ (by omega) (by omega)
    rw [if_neg m0] at h ⊢
    by_cases m1 : md = 1
    · rw [if_pos m1] at h ⊢
      rcases h with h | ⟨x, jm, rm, pm, T, e, h1, h2⟩
      · exact Or.inl h
      · have a := TT.le _ 2 _ _ _ _ _ _ _ _ _ _ _ _ _ _ (by decide) h1
        have c := TT.le _ 1 _ _ _ _ _ _ _ _ _ _ _ _ _ _ (by decide) h2
        exact Or.inr ⟨x, jm, rm, pm, T, e, ih 2 _ _ _ _ _ _ _ _ _ _ _ _ _ _ (by decide) h1 (s.sub (by omega) (by omega) (by omega) (by omega)) (no0 (by decide)) (no3 (by decide)), ih 1 _ _ _ _ _ _ _ _ _ _ _ _ _ _ (by decide) h2 (s.sub (by omega) (by omega) (by omega) (by omega)) (no0 (by decide)) (no3 (by decide))⟩
    rw [if_neg m1] at h ⊢
    by_cases m2 : md = 2
    · rw [if_pos m2] at h ⊢
      obtain ⟨k, x, ys, pb, ff, e, b1, b2, b3, b4, h⟩ := h
      rcases h with ⟨o1, o2, o3, o4, o5⟩ | ⟨o1, o2, T, o3, h1⟩ | ⟨o1, o2, o3, t, jm, rm, pm, y, o4, h1, h⟩
      · have hj : j < j' := by omega
        have a69 := s.1 69 (40 * m + j) (by decide) (by decide) (by decide) (by omega) (by omega)
        refine ⟨k, x, ys, pb, ff, e, b1.st s hj, b2.st s hz hf hl hh hj, b3.st s hj (fun z => ?_), b4, Or.inl ⟨o1, o2, o3, o4, a69.trans o5⟩⟩
        rw [z] at o1; exact absurd o1 (by decide)
      · have a := TT.le _ 3 _ _ _ _ _ _ _ _ _ _ _ _ _ _ (by decide) h1
        have hj : j < j' := by omega
        have a69 := s.1 69 (40 * m + j) (by decide) (by decide) (by decide) (by omega) (by omega)
        refine ⟨k, x, ys, pb, ff, e, b1.st s hj, b2.st s hz hf hl hh hj, b3.st s hj (fun z => ?_), b4, Or.inr (Or.inl ⟨o1, a69.trans o2, T, o3, ?_⟩)⟩
        · rw [z] at o1; exact absurd o1 (by decide)
        · have a9 := a.2.2.2 (by decide)
          exact ih 3 _ _ _ _ _ _ _ _ _ _ _ _ _ _ (by decide) h1 (s.sub (by omega) (by omega) (by omega) (by omega)) (no0 (by decide)) (fun _ => ⟨fun c z1 z2 => s.2.2.1 c r z1 z2 (by omega) (by omega), s.2.1 _ (by omega) (by omega)⟩)
      · have a := TT.le _ 0 _ _ _ _ _ _ _ _ _ _ _ _ _ _ (by decide) h1
        have a9 := a.2.2.2 (by decide)
        obtain ⟨y2, ey, r1, r2⟩ := h1.row
        have ey : y = y2 := by injection ey with q1 _; injection q1
        subst ey
        rcases h with ⟨u1, u2, u3, u4, u5⟩ | ⟨u0, u1, u2, z, u3, u4⟩
        · have hj : j < j' := by omega
          have a69 := s.1 69 (40 * m + j) (by decide) (by decide) (by decide) (by omega) (by omega)
          refine ⟨k, x, ys, pb, ff, e, b1.st s hj, b2.st s hz hf hl hh hj, b3.st s hj (fun _ => by rw [u1]; exact ⟨r1, r2⟩), b4, Or.inr (Or.inr ⟨o1, o2, a69.trans o3, t, jm, rm, pm, y, o4, ?_, Or.inl ⟨u1, u2, u3, u4, (s.2.2.1 75 r (by decide) (by decide) (by omega) (by omega)).trans u5⟩⟩)⟩
          exact ih 0 _ _ _ _ _ _ _ _ _ _ _ _ _ _ (by decide) h1 (s.sub (by omega) (by omega) (by omega) (by omega)) (fun _ => ⟨s.2.2.1 73 r (by decide) (by decide) (by omega) (by omega), s.2.2.1 74 r (by decide) (by decide) (by omega) (by omega), s.2.1 _ (by omega) (by omega)⟩) (no3 (by decide))
        · have c := TT.le _ 0 _ _ _ _ _ _ _ _ _ _ _ _ _ _ (by decide) u4
          have c9 := c.2.2.2 (by decide)
          have hj : j < j' := by omega
          have a69 := s.1 69 (40 * m + j) (by decide) (by decide) (by decide) (by omega) (by omega)
          refine ⟨k, x, ys, pb, ff, e, b1.st s hj, b2.st s hz hf hl hh hj, b3.st s hj (fun _ => by rw [u3]; exact ⟨r1, r2⟩), b4, Or.inr (Or.inr ⟨o1, o2, a69.trans o3, t, jm, rm, pm, y, o4, ?_, Or.inr ⟨u0, (s.2.2.1 75 r (by decide) (by decide) (by omega) (by omega)).trans u1, (s.2.2.1 75 rm (by decide) (by decide) (by omega) (by omega)).trans u2, z, u3, ?_⟩⟩)⟩
          · exact ih 0 _ _ _ _ _ _ _ _ _ _ _ _ _ _ (by decide) h1 (s.sub (by omega) (by omega) (by omega) (by omega)) (fun _ => ⟨s.2.2.1 73 r (by decide) (by decide) (by omega) (by omega), s.2.2.1 74 r (by decide) (by decide) (by omega) (by omega), s.2.1 _ (by omega) (by omega)⟩) (no3 (by decide))
          · exact ih 0 _ _ _ _ _ _ _ _ _ _ _ _ _ _ (by decide) u4 (s.sub (by omega) (by omega) (by omega) (by omega)) (fun _ => ⟨s.2.2.1 73 rm (by decide) (by decide) (by omega) (by omega), s.2.2.1 74 rm (by decide) (by decide) (by omega) (by omega), s.2.1 _ (by omega) (by omega)⟩) (no3 (by decide))
    rw [if_neg m2] at h ⊢
    have m3 : md = 3 := by omega
    obtain ⟨t1, t2⟩ := s3 m3
    obtain ⟨jm, rm, pm, y, h1, h⟩ := h
    have a := TT.le _ 0 _ _ _ _ _ _ _ _ _ _ _ _ _ _ (by decide) h1
    have a9 := a.2.2.2 (by decide)
    rcases h with ⟨u1, u2, u3, u4, u5, u6⟩ | ⟨T, f2, u1, u2, u3, u4⟩
    · have g1 := s.2.2.2.2.2.2.2.2.2 j jm (Nat.le_refl _) (by omega)
      refine ⟨jm, rm, pm, y, ih 0 _ _ _ _ _ _ _ _ _ _ _ _ _ _ (by decide) h1 (s.sub (by omega) (by omega) (by omega) (by omega)) (fun _ => ⟨t1 73 (by decide) (by decide), t1 74 (by decide) (by decide), t2⟩) (no3 (by decide)), Or.inl ⟨u1, u2, u3, u4, (t1 75 (by decide) (by decide)).trans u5, ?_⟩⟩
      rw [g1.1, g1.2]; exact u6
    · have c := TT.le _ 3 _ _ _ _ _ _ _ _ _ _ _ _ _ _ (by decide) u4
      have c9 := c.2.2.2 (by decide)
      have g1 := s.2.2.2.2.2.2.2.2.2 j jm (Nat.le_refl _) (by omega)
      refine ⟨jm, rm, pm, y, ih 0 _ _ _ _ _ _ _ _ _ _ _ _ _ _ (by decide) h1 (s.sub (by omega) (by omega) (by omega) (by omega)) (fun _ => ⟨t1 73 (by decide) (by decide), t1 74 (by decide) (by decide), t2⟩) (no3 (by decide)), Or.inr ⟨T, f2, u1, (t1 75 (by decide) (by decide)).trans u2, ?_, ?_⟩⟩
      · rw [g1.1, g1.2]; exact u3
      · rw [g1.1, g1.2]
        exact ih 3 _ _ _ _ _ _ _ _ _ _ _ _ _ _ (by decide) u4 (s.sub (by omega) (by omega) (by omega) (by omega)) (no0 (by decide)) (fun _ => ⟨fun c z1 z2 => s.2.2.1 c rm z1 z2 (by omega) (by omega), s.2.1 _ (by omega) (by omega)⟩)
end
