/-! pairs: from a pair to those below it -/
theorem RpLs.at {Rl : Nat → Nat → Nat → Nat → Prop} : ∀ (ds cs : List Nat) (p p' : Nat), RpLs Rl ds cs p p' → ∀ i, i < ds.length → ∃ q q', Rl (ds.getD i 0) (cs.getD i 0) q q'
  | [], _, _, _, _, i, hi => absurd hi (Nat.not_lt_zero _)
  | _ :: _, [], _, _, h, _, _ => h.elim
  | d :: ds, c :: cs, p, p', ⟨pm, h1, h2⟩, i, hi => by
    cases i with
    | zero => exact ⟨p, pm, h1⟩
    | succ i => exact RpLs.at ds cs pm p' h2 i (Nat.lt_of_succ_lt_succ hi)
section
variable {W : Wo} {m zn fn hi g y x p p' : Nat} {u : Vwr} {cx : List (Option Nat)}
theorem RpN.one (h : RpN W m zn fn u hi (g + 1) cx y x p p') (hc : cs1 W x) : ∃ c, chV W x = [c] ∧ RpN W m zn fn u hi g cx y c p p' := by
  unfold RpN at h
  obtain ⟨-, h⟩ := h
  obtain ⟨k5, l1⟩ := hc
  rcases h with ⟨a, c, b1, b2⟩ | ⟨a, b1, b2, b3⟩ | ⟨a, -⟩ | ⟨a, -⟩ | ⟨a, -⟩ | ⟨a, -⟩ | ⟨a, -⟩ | ⟨a, -⟩ | ⟨a, -⟩ | ⟨a, -⟩ | ⟨a, -⟩
  · exact ⟨c, b1, b2⟩
  · have e := RpLs.ln _ _ _ _ b3
    have l1 : (woV W x).2.2.2.length = 1 := l1
    omega
  all_goals (rw [k5] at a; exact absurd a (by decide))
theorem RpN.kid (h : RpN W m zn fn u hi (g + 1) cx y x p p') (hne : ¬ cs1 W x) : ∀ i, i < (u y).2.2.length → ∃ cx' q q', RpN W m zn fn u hi g cx' ((u y).2.2.getD i 0) ((chV W x).getD i 0) q q' := by
  intro i hi'
  unfold RpN at h
  obtain ⟨-, h⟩ := h
  have no : (u y).2.2 = [] → ∃ cx' q q', RpN W m zn fn u hi g cx' ((u y).2.2.getD i 0) ((chV W x).getD i 0) q q' := fun e => by rw [e] at hi'; exact absurd hi' (Nat.not_lt_zero _)
  have sg : ∀ {d c : Nat} {cy : List (Option Nat)}, (u y).2.2 = [d] → chV W x = [c] → RpN W m zn fn u hi g cy d c p p' → ∃ cx' q q', RpN W m zn fn u hi g cx' ((u y).2.2.getD i 0) ((chV W x).getD i 0) q q' := fun {d c cy} e1 e2 k => by
    rw [e1] at hi' ⊢
    rw [e2]
    have : i = 0 := by have : i < 1 := hi'; omega
    subst this
    exact ⟨cy, p, p', k⟩
  rcases h with ⟨a, c, b1, b2⟩ | ⟨a, b1, b2, b3⟩ | ⟨-, -, -, b3, -⟩ | ⟨-, -, -, -, b3, -⟩ | ⟨-, -, -, b3, -⟩ | ⟨-, -, -, b3, -⟩ | ⟨a, b1, c1, c2, d1, pm, b2, b3, b4⟩ | ⟨a, b1, c, d, b2, b3, b4⟩ | ⟨a, b1, b5, c, d, b2, b3, b4⟩ | ⟨a, b1, b2, b3⟩ | ⟨a, b1, c, d, t, b2, b3, b4, b5⟩
  · exact absurd ⟨a, by show (woV W x).2.2.2.length = 1; rw [b1]; rfl⟩ hne
  · obtain ⟨q, q', k⟩ := RpLs.at _ _ _ _ b3 i hi'
    exact ⟨cx, q, q', k⟩
  · exact no b3
  · exact no b3
  · exact no b3
  · exact no b3
  · have e2 : chV W x = [c1, c2] := b2
    rw [e2]
    rcases b4 with ⟨q1, -⟩ | ⟨d2, q1, q2⟩
    · rw [q1] at hi' ⊢
      have : i = 0 := by have : i < 1 := hi'; omega
      subst this
      exact ⟨cx, p, pm, b3⟩
    · rw [q1] at hi' ⊢
      have : i = 0 ∨ i = 1 := by have : i < 2 := hi'; omega
      rcases this with e | e
      · subst e; exact ⟨cx, p, pm, b3⟩
      · subst e; exact ⟨cx, pm, p', q2⟩
  · exact sg b3 b2 b4
  · exact sg b3 b2 b4
  · obtain ⟨q, q', k⟩ := RpLs.at _ _ _ _ b3 i hi'
    exact ⟨cx, q, q', k⟩
  · exact sg b3 b2 b5
end
theorem zip_at {ds cs : List Nat} {i : Nat} (h : i < ds.length) (k : i < cs.length) : (ds.getD i 0, cs.getD i 0) ∈ ds.zip cs := by
  rw [gd_el h, gd_el k]
  have l : i < (ds.zip cs).length := by rw [List.length_zip]; omega
  have e : (ds.zip cs)[i] = (ds[i], cs[i]) := List.getElem_zip
  rw [← e]
  exact List.getElem_mem l
theorem zip_ix {ds cs : List Nat} {d c : Nat} (h : (d, c) ∈ ds.zip cs) : ∃ i, i < ds.length ∧ i < cs.length ∧ d = ds.getD i 0 ∧ c = cs.getD i 0 := by
  obtain ⟨i, l, e⟩ := List.mem_iff_getElem.mp h
  have l2 := l
  rw [List.length_zip] at l2
  have e2 : (ds.zip cs)[i] = (ds[i]'(by omega), cs[i]'(by omega)) := List.getElem_zip
  rw [e2] at e
  refine ⟨i, by omega, by omega, ?_, ?_⟩
  · rw [gd_el (by omega)]; exact (congrArg Prod.fst e).symm
  · rw [gd_el (by omega)]; exact (congrArg Prod.snd e).symm
section
variable {W : Wo} {R : RMo} {y x d c i : Nat}
theorem PkR.il (hP : PkR W R y x) (hi : i < (moG R y).length) : i < (chV W x).length := by
  rcases hP with ⟨-, -, -, e⟩ | ⟨-, -, -, e⟩ | ⟨-, -, -, e⟩ | ⟨-, -, -, e⟩ | ⟨-, -, -, e⟩ | ⟨-, -, c1, c2, d1, e1, e⟩ | ⟨-, -, c, d', e1, e⟩ | ⟨-, -, c, d', e1, e⟩ | ⟨-, -, -, e⟩ | ⟨-, -, c, d', e1, e⟩
  · omega
  · rw [e] at hi; exact absurd hi (Nat.not_lt_zero _)
  · rw [e] at hi; exact absurd hi (Nat.not_lt_zero _)
  · rw [e] at hi; exact absurd hi (Nat.not_lt_zero _)
  · rw [e] at hi; exact absurd hi (Nat.not_lt_zero _)
  · rw [e1]
    show i < 2
    rcases e with ⟨e, -⟩ | ⟨d2, e⟩
    · rw [e] at hi; have hi : i < 1 := hi; omega
    · rw [e] at hi; exact hi
  · rw [e1]; rw [e] at hi; exact hi
  · rw [e1]; rw [e] at hi; exact hi
  · omega
  · rw [e1]; rw [e] at hi; exact hi
def DsR (W : Wo) (R : RMo) (y x d c : Nat) : Prop := DsN W (moM R) (vwM R) (hiM R) y x d c
theorem DsR.tr {d2 c2 : Nat} (h : DsR W R y x d c) (k : DsR W R d c d2 c2) : DsR W R y x d2 c2 := DsN.tr h k
theorem DsR.rf : DsR W R y x y x := DsN.rf
theorem DsR.kid (hy : inR R y) (hne : ¬ cs1 W x) (hP : PkR W R y x) (hi : i < (moG R y).length) : DsR W R y x ((moG R y).getD i 0) ((chV W x).getD i 0) := ⟨1, _, ⟨hy, Or.inr ⟨hne, zip_at hi (hP.il hi)⟩⟩, rfl⟩
theorem DsR.one (hy : inR R y) (hc : cs1 W x) (he : chV W x = [c]) : DsR W R y x y c := ⟨1, (y, c), ⟨hy, Or.inl ⟨hc.1, he, rfl⟩⟩, rfl⟩
/-- a pair below: the pair itself, below its one child, or below a child -/
theorem DsR.cs (h : DsR W R y x d c) : (d = y ∧ c = x) ∨ (cs1 W x ∧ ∃ c', chV W x = [c'] ∧ DsR W R y c' d c) ∨ (¬ cs1 W x ∧ ∃ i, i < (moG R y).length ∧ i < (chV W x).length ∧ DsR W R ((moG R y).getD i 0) ((chV W x).getD i 0) d c) := by
  obtain ⟨n, h⟩ := h
  cases n with
  | zero =>
    have h : (y, x) = (d, c) := h
    exact Or.inl ⟨(congrArg Prod.fst h).symm, (congrArg Prod.snd h).symm⟩
  | succ n =>
    obtain ⟨⟨e1, e2⟩, z, k⟩ := h
    obtain ⟨-, z⟩ := z
    rcases z with ⟨a1, a2, a3⟩ | ⟨a1, a2⟩
    · have a3 : e1 = y := a3
      subst a3
      exact Or.inr (Or.inl ⟨⟨a1, by show (chV W x).length = 1; rw [a2]; rfl⟩, e2, a2, n, k⟩)
    · obtain ⟨i, i1, i2, i3, i4⟩ := zip_ix a2
      refine Or.inr (Or.inr ⟨a1, i, i1, i2, n, ?_⟩)
      have e : ((moG R y).getD i 0, (chV W x).getD i 0) = (e1, e2) := by rw [i3, i4]; rfl
      rw [e]
      exact k
theorem DsI.sn {u : Vwr} {m hi : Nat} : ∀ (n : Nat) (a b : Nat × Nat), DsI W m u hi (n + 1) a b → ∃ e, DsI W m u hi n a e ∧ Z1 W m u hi e b
  | 0, a, b, ⟨e, z, k⟩ => by
    have k : e = b := k
    rw [k] at z
    exact ⟨a, rfl, z⟩
  | n + 1, a, b, ⟨e, z, k⟩ => by
    obtain ⟨e', k1, k2⟩ := DsI.sn n e b k
    exact ⟨e', ⟨e, z, k1⟩, k2⟩
end
