/-! what is emitted: reference's order against the class's -/
theorem v3O_e1 {a c : Nat} : v3O a c = 1 ↔ a = 1 ∨ c = 1 := by
  unfold v3O
  by_cases z : a = 1 ∨ c = 1
  · rw [if_pos z]; exact ⟨fun _ => z, fun _ => rfl⟩
  · rw [if_neg z]
    by_cases y : a = 0 ∧ c = 0
    · rw [if_pos y]; exact ⟨fun q => absurd q (by decide), fun q => absurd q z⟩
    · rw [if_neg y]; exact ⟨fun q => absurd q (by decide), fun q => absurd q z⟩
theorem v3O_e0 {a c : Nat} : v3O a c = 0 ↔ a = 0 ∧ c = 0 := by
  unfold v3O
  by_cases z : a = 1 ∨ c = 1
  · rw [if_pos z]; exact ⟨fun q => absurd q (by decide), fun q => by omega⟩
  · rw [if_neg z]
    by_cases y : a = 0 ∧ c = 0
    · rw [if_pos y]; exact ⟨fun _ => y, fun _ => rfl⟩
    · rw [if_neg y]; exact ⟨fun q => absurd q (by decide), fun q => absurd q y⟩
section
variable {R : RMo} {u : Plc → Nat} {s : Nat}
theorem emR_e : ∀ k, (emR R u s k = 1 ↔ ∃ j, j < k ∧ emK R s j ∧ u (0, 700 * moM R + j, 0) = 1) ∧ (emR R u s k = 0 ↔ ∀ j, j < k → emK R s j → u (0, 700 * moM R + j, 0) = 0) ∧ emR R u s k ≤ 2
  | 0 => ⟨⟨fun h => absurd (show (0 : Nat) = 1 from h) (by decide), fun ⟨j, h, _⟩ => absurd h (Nat.not_lt_zero _)⟩, ⟨fun _ j h => absurd h (Nat.not_lt_zero _), fun _ => rfl⟩, Nat.zero_le _⟩
  | k + 1 => by
    obtain ⟨h1, h2, h3⟩ := emR_e k
    show ((if emK R s k then v3O (emR R u s k) (u (0, 700 * moM R + k, 0)) else emR R u s k) = 1 ↔ _) ∧ ((if emK R s k then v3O (emR R u s k) (u (0, 700 * moM R + k, 0)) else emR R u s k) = 0 ↔ _) ∧ (if emK R s k then v3O (emR R u s k) (u (0, 700 * moM R + k, 0)) else emR R u s k) ≤ 2
    by_cases z : emK R s k
    · rw [if_pos z, v3O_e1, v3O_e0, h1, h2]
      refine ⟨⟨?_, ?_⟩, ⟨?_, ?_⟩, v3O_le _ _⟩
      · rintro (⟨j, j1, j2⟩ | q)
        · exact ⟨j, by omega, j2⟩
        · exact ⟨k, by omega, z, q⟩
      · rintro ⟨j, j1, j2, j3⟩
        by_cases e : j = k
        · rw [e] at j3; exact Or.inr j3
        · exact Or.inl ⟨j, by omega, j2, j3⟩
      · rintro ⟨q1, q2⟩ j j1 j2
        by_cases e : j = k
        · rw [e]; exact q2
        · exact q1 j (by omega) j2
      · intro q
        exact ⟨fun j j1 j2 => q j (by omega) j2, q k (by omega) z⟩
    · rw [if_neg z, h1, h2]
      refine ⟨⟨?_, ?_⟩, ⟨?_, ?_⟩, h3⟩
      · rintro ⟨j, j1, j2⟩
        exact ⟨j, by omega, j2⟩
      · rintro ⟨j, j1, j2, j3⟩
        by_cases e : j = k
        · rw [e] at j2; exact absurd j2 z
        · exact ⟨j, by omega, j2, j3⟩
      · intro q j j1 j2
        by_cases e : j = k
        · rw [e] at j2; exact absurd j2 z
        · exact q j (by omega) j2
      · intro q j j1 j2
        exact q j (by omega) j2
end
abbrev emS (V : Vw) (s z : Nat) : Prop := (V z).1 = 2 ∧ (V z).2.2.1 = Int32.ofNat s
def emC (V : Vw) (cv : Nat → Nat → Nat) (s : Nat) (L : List Nat) (v : Nat) : Nat := L.foldl (fun v z => if emS V s z then v3O v (cv 0 z) else v) v
theorem emC_e {V : Vw} {cv : Nat → Nat → Nat} {s : Nat} : ∀ (L : List Nat) (v : Nat), v ≤ 2 → (emC V cv s L v = 1 ↔ v = 1 ∨ ∃ z, z ∈ L ∧ emS V s z ∧ cv 0 z = 1) ∧ (emC V cv s L v = 0 ↔ v = 0 ∧ ∀ z, z ∈ L → emS V s z → cv 0 z = 0) ∧ emC V cv s L v ≤ 2
  | [], v, hv => ⟨⟨fun h => Or.inl h, fun h => h.elim id (fun ⟨_, q, _⟩ => absurd q List.not_mem_nil)⟩, ⟨fun h => ⟨h, fun _ q => absurd q List.not_mem_nil⟩, fun h => h.1⟩, hv⟩
  | a :: L, v, hv => by
    have e : emC V cv s (a :: L) v = emC V cv s L (if emS V s a then v3O v (cv 0 a) else v) := rfl
    rw [e]
    by_cases z : emS V s a
    · rw [if_pos z]
      obtain ⟨h1, h2, h3⟩ := emC_e (V := V) (cv := cv) (s := s) L (v3O v (cv 0 a)) (v3O_le _ _)
      rw [h1, h2, v3O_e1, v3O_e0]
      refine ⟨⟨?_, ?_⟩, ⟨?_, ?_⟩, h3⟩
      · rintro ((q | q) | ⟨b, b1, b2⟩)
        · exact Or.inl q
        · exact Or.inr ⟨a, List.mem_cons_self, z, q⟩
        · exact Or.inr ⟨b, List.mem_cons_of_mem _ b1, b2⟩
      · rintro (q | ⟨b, b1, b2, b3⟩)
        · exact Or.inl (Or.inl q)
        · rcases List.mem_cons.mp b1 with e | e
          · rw [e] at b3; exact Or.inl (Or.inr b3)
          · exact Or.inr ⟨b, e, b2, b3⟩
      · rintro ⟨⟨q1, q2⟩, q3⟩
        refine ⟨q1, fun b b1 b2 => ?_⟩
        rcases List.mem_cons.mp b1 with e | e
        · rw [e]; exact q2
        · exact q3 b e b2
      · rintro ⟨q1, q2⟩
        exact ⟨⟨q1, q2 a List.mem_cons_self z⟩, fun b b1 b2 => q2 b (List.mem_cons_of_mem _ b1) b2⟩
    · rw [if_neg z]
      obtain ⟨h1, h2, h3⟩ := emC_e (V := V) (cv := cv) (s := s) L v hv
      rw [h1, h2]
      refine ⟨⟨?_, ?_⟩, ⟨?_, ?_⟩, h3⟩
      · rintro (q | ⟨b, b1, b2⟩)
        · exact Or.inl q
        · exact Or.inr ⟨b, List.mem_cons_of_mem _ b1, b2⟩
      · rintro (q | ⟨b, b1, b2, b3⟩)
        · exact Or.inl q
        · rcases List.mem_cons.mp b1 with e | e
          · rw [e] at b2; exact absurd b2 z
          · exact Or.inr ⟨b, e, b2, b3⟩
      · rintro ⟨q1, q2⟩
        refine ⟨q1, fun b b1 b2 => ?_⟩
        rcases List.mem_cons.mp b1 with e | e
        · rw [e] at b2; exact absurd b2 z
        · exact q2 b e b2
      · rintro ⟨q1, q2⟩
        exact ⟨q1, fun b b1 b2 => q2 b (List.mem_cons_of_mem _ b1) b2⟩
section
variable {W : Wo} {R : RMo} {zn fn y0 x0 g p' : Nat} {cv : Nat → Nat → Nat} {u : Plc → Nat}
theorem RpN.em {g : Nat} {cx : List (Option Nat)} {y x p p' : Nat} (hA : woA W = moA R) (h4 : moM R < 4) (h : RpN W (moM R) zn fn (vwM R) (hiM R) g cx y x p p') (hne : ¬ cs1 W x) : ((moS R).2 80 y = 1 ↔ (woV W x).1 = 2) ∧ ((woV W x).1 = 2 → moA R 60 ((moS R).2 81 y).toNatClampNeg = (woV W x).2.2.1) := by
  have hP := h.pk hne
  refine ⟨?_, fun k2 => ?_⟩
  · have no : ∀ {a b : Int32}, (woV W x).1 = a → (moS R).2 80 y = b → a ≠ 2 → b ≠ 1 → ((moS R).2 80 y = 1 ↔ (woV W x).1 = 2) := fun {a b} e1 e2 n1 n2 => by
      rw [e1, e2]; exact ⟨fun q => absurd q n2, fun q => absurd q n1⟩
    rcases hP with ⟨a, b, -⟩ | ⟨a, -, b, -⟩ | ⟨a, -, b, -⟩ | ⟨a, -, b, -⟩ | ⟨a, -, b, -⟩ | ⟨a, b | b, -⟩ | ⟨a, b, -⟩ | ⟨a, b, -⟩ | ⟨a, b, -⟩ | ⟨a, b, -⟩
    · exact no a b (by decide) (by decide)
    · exact no a b (by decide) (by decide)
    · exact no a b (by decide) (by decide)
    · exact ⟨fun _ => a, fun _ => b⟩
    · exact no a b (by decide) (by decide)
    · exact no a b (by decide) (by decide)
    · exact no a b (by decide) (by decide)
    · exact no a b (by decide) (by decide)
    · exact no a b (by decide) (by decide)
    · exact no a b (by decide) (by decide)
    · exact no a b (by decide) (by decide)
  · cases g with
    | zero => unfold RpN at h; exact h.elim
    | succ g =>
      unfold RpN at h
      obtain ⟨-, h⟩ := h
      rcases h with ⟨a, -⟩ | ⟨a, -⟩ | ⟨a, -⟩ | ⟨a, -⟩ | ⟨-, -, -, -, ⟨j, j1, j2, j3⟩, -⟩ | ⟨a, -⟩ | ⟨a, -⟩ | ⟨a, -⟩ | ⟨a, -⟩ | ⟨a, -⟩ | ⟨a, -⟩
      rotate_left 4
      · have j2 : (moS R).2 81 y = Int32.ofNat (40 * moM R + j) := j2
        rw [j2, lt32 (by omega), ← hA]
        exact j3
      all_goals (rw [k2] at a; exact absurd a (by decide))
/-- all that is needed of the two trees -/
def TwT (W : Wo) (R : RMo) (zn fn y0 x0 g : Nat) : Prop := frM R ∧ woA W = moA R ∧ (inR R y0 ∧ (moS R).2 86 y0 = -1) ∧ (∃ p', RpN W (moM R) zn fn (vwM R) (hiM R) g [] y0 x0 0 p') ∧ ∀ z, inR R z → inS (prB (moM R) (moS R)) z y0
theorem em_mo {r : Nat → Nat → Prop} (hT : TwT W R zn fn y0 x0 g) (h1 : ∀ a, r 1 a → a = 1) (h0 : ∀ a, r 0 a → a = 0) (hr : ∀ d c, DsR W R y0 x0 d c → r (u (0, d, 0)) (cv 0 c)) (s : Nat) : (emR R u s (moS R).1 = 1 → emC (woV W) cv s (noL (chV W) g x0) 0 = 1) ∧ (emR R u s (moS R).1 = 0 → emC (woV W) cv s (noL (chV W) g x0) 0 = 0) := by
  obtain ⟨hG, hA, hy, ⟨p', hR⟩, hall⟩ := hT
  have h4 := hG.1.1
  have ft := RpN.ft g [] y0 x0 0 p' hR
  refine ⟨fun e => ?_, fun e => ?_⟩
  · obtain ⟨j, j1, j2, j3⟩ := (emR_e (moS R).1).1.mp e
    have iz : inR R (700 * moM R + j) := ⟨by omega, by omega⟩
    obtain ⟨k, ak⟩ := hall _ iz
    obtain ⟨x, cx, g', q, q', d1, d2, d3⟩ := cov_a hG hR k _ ak iz
    obtain ⟨m1, m2⟩ := d3.em hA h4 d2
    have k2 := m1.mp j2.1
    refine (emC_e _ _ (Nat.zero_le _)).1.mpr (Or.inr ⟨x, ?_, ⟨k2, ?_⟩, ?_⟩)
    · obtain ⟨n, d1⟩ := d1
      exact ds_no ft n _ _ d1
    · rw [← m2 k2]; exact j2.2
    · have q := hr _ _ d1
      rw [j3] at q
      exact h1 _ q
  · have q0 := (emR_e (moS R).1).2.1.mp e
    refine (emC_e _ _ (Nat.zero_le _)).2.1.mpr ⟨rfl, fun z hz ez => ?_⟩
    rcases cov_b g [] y0 x0 0 p' hR z hz with ⟨d, dd⟩ | ⟨k0, -⟩
    · have hne : ¬ cs1 W z := fun y => by
        have := y.1
        rw [ez.1] at this
        exact absurd this (by decide)
      obtain ⟨n, dn⟩ := id dd
      obtain ⟨g', cx', q, q', kk⟩ := DsI.rp n (y0, x0) g [] 0 p' dn hR
      obtain ⟨m1, m2⟩ := kk.em hA h4 hne
      have di : inR R d := kk.in
      obtain ⟨d1, d2⟩ := id di
      have ed : 700 * moM R + (d - 700 * moM R) = d := by omega
      have r0 := q0 (d - 700 * moM R) (by omega) ⟨by rw [ed]; exact m1.mpr ez.1, by rw [ed, m2 ez.1]; exact ez.2⟩
      rw [ed] at r0
      have q := hr d z dd
      rw [r0] at q
      exact h0 _ q
    · have := ez.1
      rw [k0] at this
      exact absurd this (by decide)
theorem em_up (hT : TwT W R zn fn y0 x0 g) (hr : ∀ d c, DsR W R y0 x0 d c → lq3 (u (0, d, 0)) (cv 0 c)) (s : Nat) : lq3 (emR R u s (moS R).1) (emC (woV W) cv s (noL (chV W) g x0) 0) := by
  obtain ⟨q1, q0⟩ := em_mo (r := lq3) hT (fun a h => by unfold lq3 at h; omega) (fun a h => by unfold lq3 at h; omega) hr s
  have b := (emR_e (R := R) (u := u) (s := s) (moS R).1).2.2
  have : emR R u s (moS R).1 = 0 ∨ emR R u s (moS R).1 = 1 ∨ emR R u s (moS R).1 = 2 := by omega
  rcases this with e | e | e
  · rw [q0 e, e]; exact lq3.rf
  · rw [q1 e, e]; exact lq3.rf
  · exact Or.inl e
theorem em_eq (hT : TwT W R zn fn y0 x0 g) (hr : ∀ d c, DsR W R y0 x0 d c → u (0, d, 0) = cv 0 c) (s : Nat) : emR R u s (moS R).1 = emC (woV W) cv s (noL (chV W) g x0) 0 := by
  have l1 := em_up (u := u) (cv := cv) hT (fun d c h => Or.inr (hr d c h)) s
  rcases l1 with e | e
  · -- not known there
    obtain ⟨hG, hA, hy, ⟨p', hR⟩, hall⟩ := id hT
    have h4 := hG.1.1
    have ft := RpN.ft g [] y0 x0 0 p' hR
    have c2 := (emC_e (V := woV W) (cv := cv) (s := s) (noL (chV W) g x0) 0 (Nat.zero_le _)).2.2
    have n1 : emC (woV W) cv s (noL (chV W) g x0) 0 ≠ 1 := fun z => by
      rcases (emC_e _ _ (Nat.zero_le _)).1.mp z with y | ⟨z, hz, ez, e1⟩
      · exact absurd y (by decide)
      · have w1 : emR R u s (moS R).1 = 1 := by
          rcases cov_b g [] y0 x0 0 p' hR z hz with ⟨d, dd⟩ | ⟨k0, -⟩
          · have hne : ¬ cs1 W z := fun y => by
              have := y.1
              rw [ez.1] at this
              exact absurd this (by decide)
            obtain ⟨n, dn⟩ := id dd
            obtain ⟨g', cx', q, q', kk⟩ := DsI.rp n (y0, x0) g [] 0 p' dn hR
            obtain ⟨m1, m2⟩ := kk.em hA h4 hne
            have di : inR R d := kk.in
            obtain ⟨d1, d2⟩ := id di
            have ed : 700 * moM R + (d - 700 * moM R) = d := by omega
            refine (emR_e (moS R).1).1.mpr ⟨d - 700 * moM R, by omega, ⟨by rw [ed]; exact m1.mpr ez.1, by rw [ed, m2 ez.1]; exact ez.2⟩, ?_⟩
            rw [ed, hr d z dd]; exact e1
          · have := ez.1
            rw [k0] at this
            exact absurd this (by decide)
        rw [e] at w1
        exact absurd w1 (by decide)
    have n0 : emC (woV W) cv s (noL (chV W) g x0) 0 ≠ 0 := fun z => by
      have q := ((emC_e _ _ (Nat.zero_le _)).2.1.mp z).2
      have w0 : emR R u s (moS R).1 = 0 := by
        refine (emR_e (moS R).1).2.1.mpr (fun j j1 j2 => ?_)
        have iz : inR R (700 * moM R + j) := ⟨by omega, by omega⟩
        obtain ⟨k, ak⟩ := hall _ iz
        obtain ⟨x, cx, g', q1, q', d1, d2, d3⟩ := cov_a hG hR k _ ak iz
        obtain ⟨m1, m2⟩ := d3.em hA h4 d2
        have k2 := m1.mp j2.1
        rw [hr _ _ d1]
        refine q x ?_ ⟨k2, by rw [← m2 k2]; exact j2.2⟩
        obtain ⟨n, d1⟩ := d1
        exact ds_no ft n _ _ d1
      rw [e] at w0
      exact absurd w0 (by decide)
    omega
  · exact e
end
