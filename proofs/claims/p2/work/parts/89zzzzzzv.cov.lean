/-! every node of the reference has its pair, and every node of the class but a missing 'else' -/
section
variable {W : Wo} {R : RMo} {zn fn y0 x0 : Nat}
theorem no_col : ∀ (g : Nat) (cx : List (Option Nat)) (y x p p' : Nat), RpN W (moM R) zn fn (vwM R) (hiM R) g cx y x p p' → ∃ x' g' q q', DsR W R y x y x' ∧ ¬ cs1 W x' ∧ RpN W (moM R) zn fn (vwM R) (hiM R) g' cx y x' q q'
  | 0, _, _, _, _, _, h => by unfold RpN at h; exact h.elim
  | g + 1, cx, y, x, p, p', h => by
    by_cases hne : cs1 W x
    · obtain ⟨c, e, k⟩ := h.one hne
      obtain ⟨x', g', q, q', h1, h2, h3⟩ := no_col g cx y c p p' k
      exact ⟨x', g', q, q', (DsR.one h.in hne e).tr h1, h2, h3⟩
    · exact ⟨x, g + 1, p, p', DsR.rf, hne, h⟩
theorem cov_a {g p' : Nat} (hG : frM R) (hR : RpN W (moM R) zn fn (vwM R) (hiM R) g [] y0 x0 0 p') : ∀ (k z : Nat), ancN (prB (moM R) (moS R)) k z y0 → inR R z → ∃ x cx g' q q', DsR W R y0 x0 z x ∧ ¬ cs1 W x ∧ RpN W (moM R) zn fn (vwM R) (hiM R) g' cx z x q q'
  | 0, z, h, _ => by
    have h : z = y0 := h
    rw [h]
    obtain ⟨x', g', q, q', h1, h2, h3⟩ := no_col g [] y0 x0 0 p' hR
    exact ⟨x', [], g', q, q', h1, h2, h3⟩
  | k + 1, z, h, hz => by
    obtain ⟨w, h1, h2⟩ := h
    obtain ⟨-, w5, e86⟩ := h1
    rcases hG.2.2.2.1 z hz.1 hz.2 with e | ⟨v, vi, e, vm⟩
    · rw [e] at e86
      exact absurd e86.symm (nm32 w5)
    have ev : v = w := by
      have := hG.1
      exact inj32 (by omega) (by omega) (e.symm.trans e86)
    subst ev
    obtain ⟨x, cx, g', q, q', d1, d2, d3⟩ := cov_a hG hR k v h2 vi
    obtain ⟨i, il, ie⟩ := List.mem_iff_getElem.mp vm
    have ez : (moG R v).getD i 0 = z := by rw [gd_el il]; exact ie
    cases g' with
    | zero => unfold RpN at d3; exact d3.elim
    | succ g' =>
      obtain ⟨cx', q1, q1', kk⟩ := d3.kid d2 i il
      have kd := DsR.kid d3.in d2 (d3.pk d2) il
      have e2 : (vwM R v).2.2.getD i 0 = z := ez
      rw [e2] at kk
      rw [ez] at kd
      obtain ⟨x', g2, q2, q2', h1, h2, h3⟩ := no_col g' cx' z _ q1 q1' kk
      exact ⟨x', cx', g2, q2, q2', (d1.tr kd).tr h1, h2, h3⟩
/-- pairs lie in the tree -/
theorem ds_no {g : Nat} (hf : FtN (chV W) g x0) : ∀ (n : Nat) (d c : Nat), DsI W (moM R) (vwM R) (hiM R) n (y0, x0) (d, c) → c ∈ noL (chV W) g x0
  | 0, d, c, h => by
    have h : (y0, x0) = (d, c) := h
    cases h
    exact noL_hd hf
  | n + 1, d, c, h => by
    obtain ⟨⟨y', x'⟩, h1, z⟩ := DsI.sn n _ _ h
    have q := ds_no hf n y' x' h1
    refine noL_ch g x0 x' c hf q ?_
    rcases z.2 with ⟨-, a2, -⟩ | ⟨-, a2⟩
    · have a2 : chV W x' = [c] := a2
      rw [a2]; exact List.mem_cons_self
    · exact (List.of_mem_zip a2).2
theorem cov_b : ∀ (g : Nat) (cx : List (Option Nat)) (y x p p' : Nat), RpN W (moM R) zn fn (vwM R) (hiM R) g cx y x p p' → ∀ z, z ∈ noL (chV W) g x → (∃ d, DsR W R y x d z) ∨ ((woV W z).1 = 0 ∧ chV W z = [])
  | 0, _, _, _, _, _, h => by unfold RpN at h; exact h.elim
  | g + 1, cx, y, x, p, p', h => by
    intro z hz
    rcases List.mem_cons.mp hz with e | e
    · rw [e]; exact Or.inl ⟨y, DsR.rf⟩
    obtain ⟨c, c1, c2⟩ := List.mem_flatMap.mp e
    by_cases hne : cs1 W x
    · obtain ⟨c', e', k⟩ := h.one hne
      rw [e'] at c1
      have ec : c = c' := List.mem_singleton.mp c1
      subst ec
      rcases cov_b g cx y c p p' k z c2 with ⟨d, q⟩ | q
      · exact Or.inl ⟨d, (DsR.one h.in hne e').tr q⟩
      · exact Or.inr q
    · have hP := h.pk hne
      obtain ⟨i, il, ie⟩ := List.mem_iff_getElem.mp c1
      have ec : (chV W x).getD i 0 = c := by rw [gd_el il]; exact ie
      by_cases hi : i < (moG R y).length
      · obtain ⟨cx', q1, q1', kk⟩ := h.kid hne i hi
        rw [ec] at kk
        have kd := DsR.kid h.in hne hP hi
        rw [ec] at kd
        rcases cov_b g cx' _ c q1 q1' kk z c2 with ⟨d, q⟩ | q
        · exact Or.inl ⟨d, kd.tr q⟩
        · exact Or.inr q
      · have lf : (woV W c).1 = 0 ∧ chV W c = [] := by
          rcases hP with ⟨-, -, -, e⟩ | ⟨-, e, -⟩ | ⟨-, e, -⟩ | ⟨-, e, -⟩ | ⟨-, e, -⟩ | ⟨-, -, c1, c2, d1, e1, e⟩ | ⟨-, -, c, d', e1, e⟩ | ⟨-, -, c, d', e1, e⟩ | ⟨-, -, -, e⟩ | ⟨-, -, c, d', e1, e⟩
          · omega
          · rw [e] at il; exact absurd il (Nat.not_lt_zero _)
          · rw [e] at il; exact absurd il (Nat.not_lt_zero _)
          · rw [e] at il; exact absurd il (Nat.not_lt_zero _)
          · rw [e] at il; exact absurd il (Nat.not_lt_zero _)
          · rcases e with ⟨e, t1, t2⟩ | ⟨d2, e⟩
            · rw [e] at hi
              rw [e1] at il ec
              have hi : ¬ i < 1 := hi
              have il : i < 2 := il
              have ei : i = 1 := by omega
              subst ei
              have ec : c2 = c := ec
              rw [← ec]; exact ⟨t1, t2⟩
            · rw [e] at hi; rw [e1] at il; exact absurd il hi
          · rw [e] at hi; rw [e1] at il; exact absurd il hi
          · rw [e] at hi; rw [e1] at il; exact absurd il hi
          · omega
          · rw [e] at hi; rw [e1] at il; exact absurd il hi
        cases g with
        | zero => exact absurd c2 List.not_mem_nil
        | succ g =>
          rcases List.mem_cons.mp c2 with e3 | e3
          · rw [e3]; exact Or.inr lf
          · rw [lf.2] at e3
            exact absurd e3 List.not_mem_nil
/-- a node of the class stands for one of the reference -/
theorem ds_fn (nb : Nat → Prop) (hnb : ∀ d c, DsR W R y0 x0 d c → nb c) (hu : ∀ z a b, nb a → nb b → z ∈ chV W a → z ∈ chV W b → a = b) (hd : ∀ a, nb a → (chV W a).Nodup) (hr : ∀ a, nb a → x0 ∉ chV W a) : ∀ (n n' d d' c : Nat), DsI W (moM R) (vwM R) (hiM R) n (y0, x0) (d, c) → DsI W (moM R) (vwM R) (hiM R) n' (y0, x0) (d', c) → d = d' := by
  have mem : ∀ {e b : Nat × Nat}, Z1 W (moM R) (vwM R) (hiM R) e b → b.2 ∈ chV W e.2 := fun {e b} z => by
    rcases z.2 with ⟨-, a2, -⟩ | ⟨-, a2⟩
    · rw [a2]; exact List.mem_cons_self
    · obtain ⟨b1, b2⟩ := b
      exact (List.of_mem_zip a2).2
  intro n
  induction n with
  | zero =>
    intro n' d d' c h h'
    have h : (y0, x0) = (d, c) := h
    cases h
    cases n' with
    | zero =>
      have h' : (y0, x0) = (d', x0) := h'
      exact congrArg Prod.fst h'
    | succ n' =>
      obtain ⟨e, h1, z⟩ := DsI.sn n' _ _ h'
      exact absurd (mem z) (hr e.2 (hnb e.1 e.2 ⟨n', h1⟩))
  | succ n ih =>
    intro n' d d' c h h'
    obtain ⟨⟨y1, x1⟩, h1, z⟩ := DsI.sn n _ _ h
    have m1 : c ∈ chV W x1 := mem z
    have b1 := hnb y1 x1 ⟨n, h1⟩
    cases n' with
    | zero =>
      have h' : (y0, x0) = (d', c) := h'
      cases h'
      exact absurd m1 (hr x1 b1)
    | succ n' =>
      obtain ⟨⟨y2, x2⟩, h2, z'⟩ := DsI.sn n' _ _ h'
      have m2 : c ∈ chV W x2 := mem z'
      have b2 := hnb y2 x2 ⟨n', h2⟩
      have ex : x1 = x2 := hu c x1 x2 b1 b2 m1 m2
      subst ex
      have ey := ih n' y1 y2 x1 h1 h2
      subst ey
      rcases z.2 with ⟨a1, a2, a3⟩ | ⟨a1, a2⟩
      · rcases z'.2 with ⟨-, -, a6⟩ | ⟨a4, -⟩
        · have a3 : d = y1 := a3
          have a6 : d' = y1 := a6
          rw [a3, a6]
        · exact absurd ⟨a1, by show (chV W x1).length = 1; rw [a2]; rfl⟩ a4
      · rcases z'.2 with ⟨a4, a5, -⟩ | ⟨-, a5⟩
        · exact absurd ⟨a4, by show (chV W x1).length = 1; rw [a5]; rfl⟩ a1
        · obtain ⟨i, i1, i2, i3, i4⟩ := zip_ix a2
          obtain ⟨j, j1, j2, j3, j4⟩ := zip_ix a5
          have i2 : i < (chV W x1).length := i2
          have j2 : j < (chV W x1).length := j2
          have e : (chV W x1)[i] = (chV W x1)[j] := by rw [← gd_el i2, ← gd_el j2]; exact i4.symm.trans j4
          have nd := hd x1 b1
          have ij : i = j := by
            rcases Nat.lt_trichotomy i j with z | z | z
            · exact absurd e (List.pairwise_iff_getElem.mp nd i j i2 j2 z)
            · exact z
            · exact absurd e.symm (List.pairwise_iff_getElem.mp nd j i j2 i2 z)
          rw [i3, j3, ij]
end
