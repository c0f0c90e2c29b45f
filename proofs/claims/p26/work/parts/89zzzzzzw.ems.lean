section
/-! what is emitted: reference's order against the class's -/
theorem v3O_e1 {a c : Nat} : v3O a c = 1 ↔ a = 1 ∨ c = 1 := by
  unfold v3O
  by_cases z : a = 1 ∨ c = 1
  · rw [if_pos z]; exact ⟨fun _ => z, fun _ => rfl⟩
  · rw [if_neg z]
    by_cases y : a = 0 ∧ c = 0
    · rw [if_pos y]; exact ⟨fun q => absurd q (by decide), fun q => absurd q z⟩
    · rw [if_neg y]; exact ⟨fun q => absurd q (by decide), fun q => absurd q z⟩
theorem v3O_e0 {a c : Nat} : v3O a c = 0 ↔ a = 0 ∧ c = 0 := by
  unfold v3O
  by_cases z : a = 1 ∨ c = 1
  · rw [if_pos z]; exact ⟨fun q => absurd q (by decide), fun q => by omega⟩
  · rw [if_neg z]
    by_cases y : a = 0 ∧ c = 0
    · rw [if_pos y]; exact ⟨fun _ => y, fun _ => rfl⟩
    · rw [if_neg y]; exact ⟨fun q => absurd q (by decide), fun q => absurd q y⟩
section
variable {R : RMo} {u : Plc → Nat} {s : Nat}
theorem emR_e : ∀ k, (emR R u s k = 1 ↔ ∃ j, j < k ∧ emK R s j ∧ u (0, 700 * moM R + j, 0) = 1) ∧ (emR R u s k = 0 ↔ ∀ j, j < k → emK R s j → u (0, 700 * moM R + j, 0) = 0) ∧ emR R u s k ≤ 2
  | 0 => ⟨⟨fun h => absurd (show (0 : Nat) = 1 from h) (by decide), fun ⟨j, h, _⟩ => absurd h (Nat.not_lt_zero _)⟩, ⟨fun _ j h => absurd h (Nat.not_lt_zero _), fun _ => rfl⟩, Nat.zero_le _⟩
  | k + 1 => by
    obtain ⟨h1, h2, h3⟩ := emR_e k
    show ((if emK R s k then v3O (emR R u s k) (u (0, 700 * moM R + k, 0)) else emR R u s k) = 1 ↔ _) ∧ ((if emK R s k then v3O (emR R u s k) (u (0, 700 * moM R + k, 0)) else emR R u s k) = 0 ↔ _) ∧ (if emK R s k then v3O (emR R u s k) (u (0, 700 * moM R + k, 0)) else emR R u s k) ≤ 2
    by_cases z : emK R s k
    · rw [if_pos z, v3O_e1, v3O_e0, h1, h2]
      refine ⟨⟨?_, ?_⟩, ⟨?_, ?_⟩, v3O_le _ _⟩
      · rintro (⟨j, j1, j2⟩ | q)
        · exact ⟨j, by omega, j2⟩
        · exact ⟨k, by omega, z, q⟩
      · rintro ⟨j, j1, j2, j3⟩
        by_cases e : j = k
        · rw [e] at j3; exact Or.inr j3
        · exact Or.inl ⟨j, by omega, j2, j3⟩
      · rintro ⟨q1, q2⟩ j j1 j2
        by_cases e : j = k
        · rw [e]; exact q2
        · exact q1 j (by omega) j2
      · intro q
        exact ⟨fun j j1 j2 => q j (by omega) j2, q k (by omega) z⟩
    · rw [if_neg z, h1, h2]
      refine ⟨⟨?_, ?_⟩, ⟨?_, ?_⟩, h3⟩
      · rintro ⟨j, j1, j2⟩
        exact ⟨j, by omega, j2⟩
      · rintro ⟨j, j1, j2, j3⟩
        by_cases e : j = k
        · rw [e] at j2; exact absurd j2 z
        · exact ⟨j, by omega, j2, j3⟩
      · intro q j j1 j2
        by_cases e : j = k
        · rw [e] at j2; exact absurd j2 z
        · exact q j (by omega) j2
      · intro q j j1 j2
        exact q j (by omega) j2
end
abbrev emS (V : Vw) (s z : Nat) : Prop := (V z).1 = 2 ∧ (V z).2.2.1 = Int32.ofNat s
def emC (V : Vw) (cv : Nat → Nat → Nat) (s : Nat) (L : List Nat) (v : Nat) : Nat := L.foldl (fun v z => if emS V s z then v3O v (cv 0 z) else v) v
theorem emC_e {V : Vw} {cv : Nat → Nat → Nat} {s : Nat} : ∀ (L : List Nat) (v : Nat), v ≤ 2 → (emC V cv s L v = 1 ↔ v = 1 ∨ ∃ z, z ∈ L ∧ emS V s z ∧ cv 0 z = 1) ∧ (emC V cv s L v = 0 ↔ v = 0 ∧ ∀ z, z ∈ L → emS V s z → cv 0 z = 0) ∧ emC V cv s L v ≤ 2
  | [], v, hv => ⟨⟨fun h => Or.inl h, fun h => h.elim id (fun ⟨_, q, _⟩ => absurd q List.not_mem_nil)⟩, ⟨fun h => ⟨h, fun _ q => absurd q List.not_mem_nil⟩, fun h => h.1⟩, hv⟩
  | a :: L, v, hv => by
    have e : emC V cv s (a :: L) v = emC V cv s L (if emS V s a then v3O v (cv 0 a) else v) := rfl
    rw [e]
    by_cases z : emS V s a
    · rw [if_pos z]
      obtain ⟨h1, h2, h3⟩ := emC_e (V := V) (cv := cv) (s := s) L (v3O v (cv 0 a)) (v3O_le _ _)
      rw [h1, h2, v3O_e1, v3O_e0]
      refine ⟨⟨?_, ?_⟩, ⟨?_, ?_⟩, h3⟩
      · rintro ((q | q) | ⟨b, b1, b2⟩)
        · exact Or.inl q
        · exact Or.inr ⟨a, List.mem_cons_self, z, q⟩
        · exact Or.inr ⟨b, List.mem_cons_of_mem _ b1, b2⟩
      · rintro (q | ⟨b, b1, b2, b3⟩)
        · exact Or.inl (Or.inl q)
        · rcases List.mem_cons.mp b1 with e | e
          · rw [e] at b3; exact Or.inl (Or.inr b3)
          · exact Or.inr ⟨b, e, b2, b3⟩
      · rintro ⟨⟨q1, q2⟩, q3⟩
        refine ⟨q1, fun b b1 b2 => ?_⟩
        rcases List.mem_cons.mp b1 with e | e
        · rw [e]; exact q2
        · exact q3 b e b2
      · rintro ⟨q1, q2⟩
        exact ⟨⟨q1, q2 a List.mem_cons_self z⟩, fun b b1 b2 => q2 b (List.mem_cons_of_mem _ b1) b2⟩
    · rw [if_neg z]
      obtain ⟨h1, h2, h3⟩ := emC_e (V := V) (cv := cv) (s := s) L v hv
      rw [h1, h2]
      refine ⟨⟨?_, ?_⟩, ⟨?_, ?_⟩, h3⟩
      · rintro (q | ⟨b, b1, b2⟩)
        · exact Or.inl q
        · exact Or.inr ⟨b, List.mem_cons_of_mem _ b1, b2⟩
      · rintro (q | ⟨b, b1, b2, b3⟩)
        · exact Or.inl q
        · rcases List.mem_cons.mp b1 with e | e
          · rw [e] at b2; exact absurd b2 z
          · exact Or.inr ⟨b, e, b2, b3⟩
      · rintro ⟨q1, q2⟩
        refine ⟨q1, fun b b1 b2 => ?_⟩
        rcases List.mem_cons.mp b1 with e | e
        · rw [e] at b2; exact absurd b2 z
        · exact q2 b e b2
      · rintro ⟨q1, q2⟩
        exact ⟨q1, fun b b1 b2 => q2 b (List.mem_cons_of_mem _ b1) b2⟩
section
variable {W : Wo} {R : RMo} {zn fn y0 x0 g p' : Nat} {cv : Nat → Nat → Nat} {u : Plc → Nat}
theorem RpN.em {g : Nat} {cx : List (Option Nat)} {y x p p' : Nat} (hA : woA W = moA R) (h4 : moM R < 4) (h : RpN W (moM R) zn fn (vwM R) (hiM R) g cx y x p p') (hne : ¬ cs1 W x) : ((moS R).2 80 y = 1 ↔ (woV W x).1 = 2) ∧ ((woV W x).1 = 2 → moA R 60 ((moS R).2 81 y).toNatClampNeg = (woV W x).2.2.1) := by
  have hP := h.pk hne
  refine ⟨?_, fun k2 => ?_⟩
  · have no : ∀ {a b : Int32}, (woV W x).1 = a → (moS R).2 80 y = b → a ≠ 2 → b ≠ 1 → ((moS R).2 80 y = 1 ↔ (woV W x).1 = 2) := fun {a b} e1 e2 n1 n2 => by
      rw [e1, e2]; exact ⟨fun q => absurd q n2, fun q => absurd q n1⟩
    rcases hP with ⟨a, b, -⟩ | ⟨a, -, b, -⟩ | ⟨a, -, b, -⟩ | ⟨a, -, b, -⟩ | ⟨a, -, b, -⟩ | ⟨a, b | b, -⟩ | ⟨a, b, -⟩ | ⟨a, b, -⟩ | ⟨a, b, -⟩ | ⟨a, b, -⟩
    · exact no a b (by decide) (by decide)
    · exact no a b (by decide) (by decide)
    · exact no a b (by decide) (by decide)
    · exact ⟨fun _ => a, fun _ => b⟩
    · exact no a b (by decide) (by decide)
    · exact no a b (by decide) (by decide)
    · exact no a b (by decide) (by decide)
    · exact no a b (by decide) (by decide)
    · exact no a b (by decide) (by decide)
    · exact no a b (by decide) (by decide)
    · exact no a b (by decide) (by decide)
  · cases g with
    | zero => unfold RpN at h; exact h.elim
    | succ g =>
      unfold RpN at h
      obtain ⟨-, h⟩ := h
      rcases h with ⟨a, -⟩ | ⟨a, -⟩ | ⟨a, -⟩ | ⟨a, -⟩ | ⟨-, -, -, -, ⟨j, j1, j2, j3⟩, -⟩ | ⟨a, -⟩ | ⟨a, -⟩ | ⟨a, -⟩ | ⟨a, -⟩ | ⟨a, -⟩ | ⟨a, -⟩
      rotate_left 4
      · have j2 : (moS R).2 81 y = Int32.ofNat (40 * moM R + j) := j2
        rw [j2, lt32 (by omega), ← hA]
        exact j3
      all_goals (rw [k2] at a; exact absurd a (by decide))
/-- all that is needed of the two trees -/
def TwT (W : Wo) (R : RMo) (zn fn y0 x0 g : Nat) : Prop := frM R ∧ woA W = moA R ∧ (inR R y0 ∧ (moS R).2 86 y0 = -1) ∧ (∃ p', RpN W (moM R) zn fn (vwM R) (hiM R) g [] y0 x0 0 p') ∧ ∀ z, inR R z → inS (prB (moM R) (moS R)) z y0
theorem em_mo {r : Nat → Nat → Prop} (hT : TwT W R zn fn y0 x0 g) (h1 : ∀ a, r 1 a → a = 1) (h0 : ∀ a, r 0 a → a = 0) (hr : ∀ d c, DsR W R y0 x0 d c → r (u (0, d, 0)) (cv 0 c)) (s : Nat) : (emR R u s (moS R).1 = 1 → emC (woV W) cv s (noL (chV W) g x0) 0 = 1) ∧ (emR R u s (moS R).1 = 0 → emC (woV W) cv s (noL (chV W) g x0) 0 = 0) := by
  obtain ⟨hG, hA, hy, ⟨p', hR⟩, hall⟩ := hT
  have h4 := hG.1.1
  have ft := RpN.ft g [] y0 x0 0 p' hR
  refine ⟨fun e => ?_, fun e => ?_⟩
  · obtain ⟨j, j1, j2, j3⟩ := (emR_e (moS R).1).1.mp e
    have iz : inR R (700 * moM R + j) := ⟨by omega, by omega⟩
    obtain ⟨k, ak⟩ := hall _ iz
    obtain ⟨x, cx, g', q, q', d1, d2, d3⟩ := cov_a hG hR k _ ak iz
    obtain ⟨m1, m2⟩ := d3.em hA h4 d2
    have k2 := m1.mp j2.1
    refine (emC_e _ _ (Nat.zero_le _)).1.mpr (Or.inr ⟨x, ?_, ⟨k2, ?_⟩, ?_⟩)
    · obtain ⟨n, d1⟩ := d1
      exact ds_no ft n _ _ d1
    · rw [← m2 k2]; exact j2.2
    · have q := hr _ _ d1
      rw [j3] at q
      exact h1 _ q
  · have q0 := (emR_e (moS R).1).2.1.mp e
    refine (emC_e _ _ (Nat.zero_le _)).2.1.mpr ⟨rfl, fun z hz ez => ?_⟩
    rcases cov_b g [] y0 x0 0 p' hR z hz with ⟨d, dd⟩ | ⟨k0, -⟩
    · have hne : ¬ cs1 W z := fun y => by
        have := y.1
        rw [ez.1] at this
        exact absurd this (by decide)
      obtain ⟨n, dn⟩ := id dd
      obtain ⟨g', cx', q, q', kk⟩ := DsI.rp n (y0, x0) g [] 0 p' dn hR
      obtain ⟨m1, m2⟩ := kk.em hA h4 hne
      have di : inR R d := kk.in
      obtain ⟨d1, d2⟩ := id di
      have ed : 700 * moM R + (d - 700 * moM R) = d := by omega
      have r0 := q0 (d - 700 * moM R) (by omega) ⟨by rw [ed]; exact m1.mpr ez.1, by rw [ed, m2 ez.1]; exact ez.2⟩
      rw [ed] at r0
      have q := hr d z dd
      rw [r0] at q
      exact h0 _ q
    · have := ez.1
      rw [k0] at this
      exact absurd this (by decide)
theorem em_up (hT : TwT W R zn fn y0 x0 g) (hr : ∀ d c, DsR W R y0 x0 d c → lq3 (u (0, d, 0)) (cv 0 c)) (s : Nat) : lq3 (emR R u s (moS R).1) (emC (woV W) cv s (noL (chV W) g x0) 0) := by
  obtain ⟨q1, q0⟩ := em_mo (r := lq3) hT (fun a h => by unfold lq3 at h; omega) (fun a h => by unfold lq3 at h; omega) hr s
  have b := (emR_e (R := R) (u := u) (s := s) (moS R).1).2.2
  have : emR R u s (moS R).1 = 0 ∨ emR R u s (moS R).1 = 1 ∨ emR R u s (moS R).1 = 2 := by omega
  rcases this with e | e | e
  · rw [q0 e, e]; exact lq3.rf
  · rw [q1 e, e]; exact lq3.rf
  · exact Or.inl e
theorem em_eq (hT : TwT W R zn fn y0 x0 g) (hr : ∀ d c, DsR W R y0 x0 d c → u (0, d, 0) = cv 0 c) (s : Nat) : emR R u s (moS R).1 = emC (woV W) cv s (noL (chV W) g x0) 0 := by
  have l1 := em_up (u := u) (cv := cv) hT (fun d c h => Or.inr (hr d c h)) s
  rcases l1 with e | e
  · -- not known there
    obtain ⟨hG, hA, hy, ⟨p', hR⟩, hall⟩ := id hT
    have h4 := hG.1.1
    have ft := RpN.ft g [] y0 x0 0 p' hR
    have c2 := (emC_e (V := woV W) (cv := cv) (s := s) (noL (chV W) g x0) 0 (Nat.zero_le _)).2.2
    have n1 : emC (woV W) cv s (noL (chV W) g x0) 0 ≠ 1 := fun z => by
      rcases (emC_e _ _ (Nat.zero_le _)).1.mp z with y | ⟨z, hz, ez, e1⟩
      · exact absurd y (by decide)
      · have w1 : emR R u s (moS R).1 = 1 := by
          rcases cov_b g [] y0 x0 0 p' hR z hz with ⟨d, dd⟩ | ⟨k0, -⟩
          · have hne : ¬ cs1 W z := fun y => by
              have := y.1
              rw [ez.1] at this
              exact absurd this (by decide)
            obtain ⟨n, dn⟩ := id dd
            obtain ⟨g', cx', q, q', kk⟩ := DsI.rp n (y0, x0) g [] 0 p' dn hR
            obtain ⟨m1, m2⟩ := kk.em hA h4 hne
            have di : inR R d := kk.in
            obtain ⟨d1, d2⟩ := id di
            have ed : 700 * moM R + (d - 700 * moM R) = d := by omega
            refine (emR_e (moS R).1).1.mpr ⟨d - 700 * moM R, by omega, ⟨by rw [ed]; exact m1.mpr ez.1, by rw [ed, m2 ez.1]; exact ez.2⟩, ?_⟩
            rw [ed, hr d z dd]; exact e1
          · have := ez.1
            rw [k0] at this
            exact absurd this (by decide)
        rw [e] at w1
        exact absurd w1 (by decide)
    have n0 : emC (woV W) cv s (noL (chV W) g x0) 0 ≠ 0 := fun z => by
      have q := ((emC_e _ _ (Nat.zero_le _)).2.1.mp z).2
      have w0 : emR R u s (moS R).1 = 0 := by
        refine (emR_e (moS R).1).2.1.mpr (fun j j1 j2 => ?_)
        have iz : inR R (700 * moM R + j) := ⟨by omega, by omega⟩
        obtain ⟨k, ak⟩ := hall _ iz
        obtain ⟨x, cx, g', q1, q', d1, d2, d3⟩ := cov_a hG hR k _ ak iz
        obtain ⟨m1, m2⟩ := d3.em hA h4 d2
        have k2 := m1.mp j2.1
        rw [hr _ _ d1]
        refine q x ?_ ⟨k2, by rw [← m2 k2]; exact j2.2⟩
        obtain ⟨n, d1⟩ := d1
        exact ds_no ft n _ _ d1
      rw [e] at w0
      exact absurd w0 (by decide)
    omega
  · exact e
end
end
section
/-! the class's nets as equations; a valuation made of a solution of the reference -/
def FcN (N : Nt) (tb : Nat → Bool) (tv : Nat → Nat) (v : Nat → Nat) (n : Nat) : Nat := if n < N.length then (if tb n = true then tv n else v3A (lvN v (N.getD n (0, 0)).1) (lvN v (N.getD n (0, 0)).2)) else 2
theorem FcN_mo {N : Nt} {tb : Nat → Bool} {tv : Nat → Nat} : MoF (FcN N tb tv) := by
  intro v w h n
  unfold FcN
  exact if_mo (fun _ => if_mo (fun _ => lq3.rf) (fun _ => v3A_mo (lvN_mo h) (lvN_mo h))) (fun _ => lq3.rf)
/-- and-nets from below, all others as told -/
def wF (N : Nt) (Ro : List (Nat × Nat)) (bs : Nat → Nat) : Nat → Nat → Nat
  | 0, n => bs n
  | k + 1, n => if n < N.length ∧ (Ro.getD n (0, 0)).1 = 0 then v3A (lvN (wF N Ro bs k) (N.getD n (0, 0)).1) (lvN (wF N Ro bs k) (N.getD n (0, 0)).2) else bs n
def wV (N : Nt) (Ro : List (Nat × Nat)) (bs : Nat → Nat) (n : Nat) : Nat := wF N Ro bs (n + 1) n
section
variable {N : Nt} {Ro : List (Nat × Nat)} {bs : Nat → Nat}
theorem lvN_cg {v w : Nat → Nat} {l : Nat} (h : v (l / 2) = w (l / 2)) : lvN v l = lvN w l := by unfold lvN; rw [h]
theorem wF_st (hR : ∀ n, n < N.length → (Ro.getD n (0, 0)).1 = 0 → (N.getD n (0, 0)).1 < 2 * n ∧ (N.getD n (0, 0)).2 < 2 * n) : ∀ (b n k : Nat), n < b → n < k → wF N Ro bs k n = wV N Ro bs n := by
  intro b
  induction b with
  | zero => intro n k h; exact absurd h (Nat.not_lt_zero _)
  | succ b ih =>
    intro n k hb hk
    cases k with
    | zero => exact absurd hk (Nat.not_lt_zero _)
    | succ k =>
      show (if n < N.length ∧ (Ro.getD n (0, 0)).1 = 0 then _ else bs n) = (if n < N.length ∧ (Ro.getD n (0, 0)).1 = 0 then _ else bs n)
      by_cases z : n < N.length ∧ (Ro.getD n (0, 0)).1 = 0
      · rw [if_pos z, if_pos z]
        obtain ⟨q1, q2⟩ := hR n z.1 z.2
        have e1 : lvN (wF N Ro bs k) (N.getD n (0, 0)).1 = lvN (wF N Ro bs n) (N.getD n (0, 0)).1 := lvN_cg ((ih _ k (by omega) (by omega)).trans (ih _ n (by omega) (by omega)).symm)
        have e2 : lvN (wF N Ro bs k) (N.getD n (0, 0)).2 = lvN (wF N Ro bs n) (N.getD n (0, 0)).2 := lvN_cg ((ih _ k (by omega) (by omega)).trans (ih _ n (by omega) (by omega)).symm)
        rw [e1, e2]
      · rw [if_neg z, if_neg z]
theorem wV_an (hR : ∀ n, n < N.length → (Ro.getD n (0, 0)).1 = 0 → (N.getD n (0, 0)).1 < 2 * n ∧ (N.getD n (0, 0)).2 < 2 * n) (n : Nat) (hn : n < N.length) (r0 : (Ro.getD n (0, 0)).1 = 0) : wV N Ro bs n = v3A (lvN (wV N Ro bs) (N.getD n (0, 0)).1) (lvN (wV N Ro bs) (N.getD n (0, 0)).2) := by
  obtain ⟨q1, q2⟩ := hR n hn r0
  have e0 : wV N Ro bs n = v3A (lvN (wF N Ro bs n) (N.getD n (0, 0)).1) (lvN (wF N Ro bs n) (N.getD n (0, 0)).2) := by
    show (if n < N.length ∧ (Ro.getD n (0, 0)).1 = 0 then _ else bs n) = _
    rw [if_pos ⟨hn, r0⟩]
  rw [e0, lvN_cg (w := wV N Ro bs) (wF_st hR n _ n (by omega) (by omega)), lvN_cg (w := wV N Ro bs) (wF_st hR n _ n (by omega) (by omega))]
theorem wV_bs (n : Nat) (h : (Ro.getD n (0, 0)).1 ≠ 0) : wV N Ro bs n = bs n := by
  show (if n < N.length ∧ (Ro.getD n (0, 0)).1 = 0 then _ else bs n) = _
  rw [if_neg (fun z => h z.2)]
theorem wV_le (hb : ∀ n, bs n ≤ 2) (n : Nat) : wV N Ro bs n ≤ 2 := by
  show (if n < N.length ∧ (Ro.getD n (0, 0)).1 = 0 then _ else bs n) ≤ 2
  by_cases z : n < N.length ∧ (Ro.getD n (0, 0)).1 = 0
  · rw [if_pos z]; exact v3A_le _ _
  · rw [if_neg z]; exact hb n
end
/-! a module's nets and the tree -/
def cvW (P : Nat → Nat → Int32) (w : Nat → Nat) (c z : Nat) : Nat := lV w (P (22 + c) z)
def ckW (P : Nat → Nat → Int32) (w : Nat → Nat) (z n : Nat) : Nat := lV w (P 28 (z * 20 + n))
def coW (P : Nat → Nat → Int32) (w : Nat → Nat) (z : Nat) : Nat := lV w (P 26 z)
def ccW (Θ : TrT) (w : Nat → Nat) (z : Nat) : Nat := lV w (Θ.2.2 10 z)
def hvW (Θ : TrT) (HV : Int32 → Nat) (z : Nat) : Nat := HV (Θ.2.2 12 z)
section
variable (W : Wo) (R : RMo) (I : RIn) (Ψ : Wg) (P : Nat → Nat → Int32) (Θ : TrT) (L : List Nat) (tb : Nat → Bool) (tv : Nat → Nat)
def HVm (I : RIn) : Int32 → Nat := hvM (iSet I)
def clO (z : Nat) (w : Nat → Nat) : Nat := if (woV W z).1 = 6 then v3O (cvW P w 0 z) (ckW P w ((chV W z).getD 0 0) 0) else v3O (cvW P w 3 z) (ckW P w ((chV W z).getD 0 0) 2)
def NtK (n : Nat) : Prop :=
  ((Ψ.2.1.getD n (0, 0)).1 = 0 ∧ tb n = false)
  ∨ ((Ψ.2.1.getD n (0, 0)).1 ≠ 0 ∧ tb n = true ∧ tv n < 2 ∧ ∀ i, Ψ.2.1.getD n (0, 0) = (6, i) → tv n = HVm I (Ψ.2.2.getD i 0))
  ∨ (tb n = false ∧ ∃ t, t < moQ R ∧ moT R t ≠ 0 ∧ n = 2 + t ∧ Ψ.2.1.getD n (0, 0) = (3, t) ∧ ClQ Ψ n (fun w => emC (woV W) (cvW P w) t L 0))
  ∨ (tb n = false ∧ ∃ z, z ∈ L ∧ (((woV W z).1 = 6 ∧ Ψ.2.1.getD n (0, 0) = (7, z)) ∨ ((woV W z).1 = 9 ∧ Ψ.2.1.getD n (0, 0) = (8, z))) ∧ P 26 z = Int32.ofNat (2 * n) ∧ ClQ Ψ n (clO W P z))
def lokS (sv : Nat → Nat) (y : Nat) : Nat := if (moS R).2 80 y = 5 then iTr I ((moS R).2 81 y).toNatClampNeg else (cvL sv (iBf I) (moY R)).getD ((moA R 63 ((moS R).2 81 y).toNatClampNeg).toNatClampNeg - 410 * moM R) 0
/-- a valuation that goes with the and-nets and with what is told -/
def gT (w : Nat → Nat) : Prop := gW Ψ w (HVm I) ∧ ∀ n, n < Ψ.1.length → tb n = true → w n = tv n
def ClW (y0 x0 : Nat) : Prop := (RoW Ψ ∧ Ψ.1.length < 100000 ∧ 2 + moQ R ≤ Ψ.1.length) ∧ (∀ n, n < Ψ.1.length → NtK W R I Ψ P L tb tv n) ∧ (tb 0 = true ∧ tv 0 = 0) ∧ (∀ z, z ∈ L → OkR Ψ P z ∧ ((woV W z).1 = 6 ∨ (woV W z).1 = 9 → ∃ l, P 26 z = Int32.ofNat (2 * l) ∧ l < Ψ.1.length ∧ tb l = false ∧ Ψ.2.1.getD l (0, 0) = (if (woV W z).1 = 6 then 7 else 8, z))) ∧ (∀ w, gW Ψ w (HVm I) → ∀ z, z ∈ L → CEq (woV W) (hvW Θ (HVm I)) (cvW P w) (ckW P w) (coW P w) (ccW Θ w) z) ∧ (∀ w, gT I Ψ tb tv w → (∀ c, c ≤ 3 → cvW P w c x0 = rtV I c) ∧ ∀ d c, DsR W R y0 x0 d c → (woV W c).1 = 4 ∨ (woV W c).1 = 7 → lokS R I (fun s => w (2 + s)) d = ccW Θ w c) ∧ (∀ s, s < moQ R → moT R s = 0 → tb (2 + s) = true ∧ tv (2 + s) = iGv I s) ∧ (∀ s, s < moQ R → moT R s ≠ 0 → tb (2 + s) = false ∧ Ψ.2.1.getD (2 + s) (0, 0) = (3, s)) ∧ (∀ d, d ∈ moY R → d.1 = 0 → d.2.1 < moQ R)
/-- what is known of pairs -/
def PrK (y0 x0 : Nat) : Prop := ∀ d c, DsR W R y0 x0 d c → Θ.2.2 12 c = moK R d ∧ ((woV W c).1 = 3 → moN R d = (woV W c).2.2.1 ∧ ∃ v, v < moC R ∧ (woV W c).2.2.1 = Int32.ofNat v)
end
end
section
/-! reference and class come to the same -/
section
variable {W : Wo} {R : RMo} {I : RIn} {Ψ : Wg} {P : Nat → Nat → Int32} {Θ : TrT} {tb : Nat → Bool} {tv : Nat → Nat} {zn fn g y0 x0 : Nat} {ρ : Plc → Nat} {v w : Nat → Nat}
theorem hvM_0 {set : Int32} : hvM set 0 = 0 := by
  unfold hvM
  rw [if_pos (by rw [Int32.and_zero])]
theorem NtK.t {L : List Nat} {n : Nat} (h : NtK W R I Ψ P L tb tv n) (ht : tb n = true) : (Ψ.2.1.getD n (0, 0)).1 ≠ 0 ∧ tv n < 2 ∧ ∀ i, Ψ.2.1.getD n (0, 0) = (6, i) → tv n = HVm I (Ψ.2.2.getD i 0) := by
  rcases h with ⟨-, e⟩ | ⟨a, -, b⟩ | ⟨e, -⟩ | ⟨e, -⟩
  · rw [e] at ht; exact absurd ht (by decide)
  · exact ⟨a, b⟩
  · rw [e] at ht; exact absurd ht (by decide)
  · rw [e] at ht; exact absurd ht (by decide)
theorem NtK.z {L : List Nat} {n : Nat} (h : NtK W R I Ψ P L tb tv n) (h0 : (Ψ.2.1.getD n (0, 0)).1 = 0) : tb n = false := by
  rcases h with ⟨-, e⟩ | ⟨a, -⟩ | ⟨e, -⟩ | ⟨e, -⟩
  · exact e
  · exact absurd h0 a
  · exact e
  · exact e
theorem NtK.h {L : List Nat} {n i : Nat} (h : NtK W R I Ψ P L tb tv n) (h6 : Ψ.2.1.getD n (0, 0) = (6, i)) : tb n = true ∧ tv n = HVm I (Ψ.2.2.getD i 0) := by
  rcases h with ⟨a, -⟩ | ⟨-, a, -, b⟩ | ⟨-, t, -, -, -, e, -⟩ | ⟨-, z, -, ⟨-, e⟩ | ⟨-, e⟩, -⟩
  · rw [h6] at a; exact absurd (show (6 : Nat) = 0 from a) (by decide)
  · exact ⟨a, b i h6⟩
  · rw [h6] at e; exact absurd (show (6 : Nat) = 3 from congrArg Prod.fst e) (by decide)
  · rw [h6] at e; exact absurd (show (6 : Nat) = 7 from congrArg Prod.fst e) (by decide)
  · rw [h6] at e; exact absurd (show (6 : Nat) = 8 from congrArg Prod.fst e) (by decide)
/-- the open net of a node -/
theorem NtK.o {L : List Nat} {n z : Nat} (h : NtK W R I Ψ P L tb tv n) (ht : tb n = false) (hr : Ψ.2.1.getD n (0, 0) = (if (woV W z).1 = 6 then 7 else 8, z)) : ClQ Ψ n (clO W P z) := by
  have e1 : (Ψ.2.1.getD n (0, 0)).1 = if (woV W z).1 = 6 then 7 else 8 := by rw [hr]
  have e78 : (Ψ.2.1.getD n (0, 0)).1 = 7 ∨ (Ψ.2.1.getD n (0, 0)).1 = 8 := by
    rw [e1]
    by_cases y : (woV W z).1 = 6
    · rw [if_pos y]; exact Or.inl rfl
    · rw [if_neg y]; exact Or.inr rfl
  rcases h with ⟨a, -⟩ | ⟨-, a, -⟩ | ⟨-, t, -, -, -, e, -⟩ | ⟨-, z', -, e, -, c⟩
  · omega
  · rw [a] at ht; exact absurd ht (by decide)
  · rw [e] at e78; exact absurd e78 (by show ¬ ((3 : Nat) = 7 ∨ (3 : Nat) = 8); decide)
  · have ez : z' = z := by
      have e2 : (Ψ.2.1.getD n (0, 0)).2 = z := by rw [hr]
      rcases e with ⟨-, e⟩ | ⟨-, e⟩
      · rw [e] at e2; exact e2
      · rw [e] at e2; exact e2
    rw [← ez]; exact c
theorem J_v (hC : ClW W R I Ψ P Θ (noL (chV W) g x0) tb tv y0 x0) (hv : ∀ n, FcN Ψ.1 tb tv v n = v n) : gT I Ψ tb tv v := by
  obtain ⟨⟨hR, hl, hq⟩, hN, ⟨t0, v0⟩, -⟩ := hC
  have told : ∀ n, n < Ψ.1.length → tb n = true → v n = tv n := fun n hn ht => by
    rw [← hv n]
    unfold FcN
    rw [if_pos hn, if_pos ht]
  refine ⟨⟨⟨by rw [told 0 (by omega) t0, v0], fun n => ?_, fun n hn r0 => ?_⟩, hvM_0, fun n i hn ri => ?_⟩, told⟩
  · rw [← hv n]
    unfold FcN
    by_cases z : n < Ψ.1.length
    · rw [if_pos z]
      by_cases y : tb n = true
      · rw [if_pos y]
        have := ((hN n z).t y).2.1
        omega
      · rw [if_neg y]; exact v3A_le _ _
    · rw [if_neg z]; exact Nat.le_refl _
  · have tf := (hN n hn).z r0
    rw [← hv n]
    show FcN Ψ.1 tb tv v n = _
    unfold FcN
    rw [if_pos hn, if_neg (by rw [tf]; decide)]
  · rw [hR.1] at hn
    obtain ⟨q1, q2⟩ := (hN n hn).h ri
    rw [told n hn q1, q2]
theorem lok_S {u : Plc → Nat} {sv : Nat → Nat} {r : Nat → Nat → Prop} (hc : Cg r) (hY : ∀ d, d ∈ moY R → d.1 = 0 → d.2.1 < moQ R) (h : ∀ s, s < moQ R → r (u (5, s, 0)) (sv s)) (d : Nat) : r (lokR R I u d) (lokS R I sv d) := by
  unfold lokR lokS cndR
  by_cases z : (moS R).2 80 d = 5
  · rw [if_pos z, if_pos z]; exact hc.1 _
  · rw [if_neg z, if_neg z]
    exact hc.cl1 (fun e he e0 => h _ (hY e he e0)) _
theorem J_sb (hT : TwT W R zn fn y0 x0 g) (hC : ClW W R I Ψ P Θ (noL (chV W) g x0) tb tv y0 x0) (hK : PrK W R Θ y0 x0) (hw : gW Ψ w (HVm I)) {d c : Nat} (h : DsR W R y0 x0 d c) : SbA W R I (hvW Θ (HVm I)) (cvW P w) (ckW P w) (coW P w) (ccW Θ w) d c := by
  obtain ⟨-, -, -, ⟨p', hR⟩, -⟩ := hT
  have ft := RpN.ft g [] y0 x0 0 p' hR
  obtain ⟨-, -, -, -, hE, -⟩ := hC
  obtain ⟨k1, k2⟩ := hK d c h
  have cl : c ∈ noL (chV W) g x0 := by
    obtain ⟨n, h⟩ := h
    exact ds_no ft n d c h
  refine ⟨?_, k2, hE w hw c cl, fun c' hc' => hE w hw c' (noL_ch g x0 c c' ft cl hc')⟩
  show hvM (iSet I) (Θ.2.2 12 c) = _
  rw [k1]
theorem J_up (hT : TwT W R zn fn y0 x0 g) (hC : ClW W R I Ψ P Θ (noL (chV W) g x0) tb tv y0 x0) (hK : PrK W R Θ y0 x0) (h3 : 3 ≤ moC R ∧ moC R ≤ 20) (hv : ∀ n, FcN Ψ.1 tb tv v n = v n) (hJ : JF (FrR R I) ρ) : (∀ d c, DsR W R y0 x0 d c → Mw lq3 ρ (cvW P v) d c ∧ Mk lq3 ρ (ckW P v) (moC R) d c) ∧ ∀ s, s < moQ R → lq3 (ρ (5, s, 0)) (v (2 + s)) := by
  have gv := J_v hC hv
  obtain ⟨hG, hA, hy, ⟨p', hR⟩, hall⟩ := id hT
  have ft := RpN.ft g [] y0 x0 0 p' hR
  obtain ⟨⟨hRo, hl, hq⟩, hN, -, hO, -, hrt, hin, hsg, hY⟩ := id hC
  obtain ⟨hr0, hlk⟩ := hrt v gv
  have vf : ∀ n, n < Ψ.1.length → tb n = false → ∀ {f : (Nat → Nat) → Nat}, ClQ Ψ n f → v n = f v := fun n hn tf f c => by
    obtain ⟨lc, c1, -, c3⟩ := c
    rw [← c3 v _ gv.1, ← hv n]
    unfold FcN
    rw [if_pos hn, if_neg (by rw [tf]; decide), c1]
    exact v3A_s (lv_le gv.1.1.2.1)
  have cl : ∀ d c, DsR W R y0 x0 d c → c ∈ noL (chV W) g x0 := fun d c h => by
    obtain ⟨n, h⟩ := h
    exact ds_no ft n d c h
  have cb : ∀ c j, ckW P v c j ≤ 2 := fun c j => lv_le gv.1.1.2.1
  have oc : ∀ d c, DsR W R y0 x0 d c → (woV W c).1 = 6 ∨ (woV W c).1 = 9 → coW P v c = clO W P c v := fun d c h hk => by
    obtain ⟨l, l1, l2, l3, l4⟩ := (hO c (cl d c h)).2 hk
    have q := vf l l2 l3 ((hN l l2).o l3 l4)
    show lV v (P 26 c) = _
    rw [l1, lV_of (by omega), lv_2]
    exact q
  have hS : CSo W R I (hvW Θ (HVm I)) (cvW P v) (ckW P v) (coW P v) (ccW Θ v) (fun s => v (2 + s)) y0 x0 := by
    refine ⟨fun d c h => ⟨J_sb hT hC hK gv.1 h, fun k6 => ?_, fun k9 => ?_⟩, hr0, cb, fun s hs h0 => ?_⟩
    · rw [oc d c h (Or.inl k6)]
      unfold clO
      rw [if_pos k6]
    · rw [oc d c h (Or.inr k9)]
      unfold clO
      rw [if_neg (by rw [k9]; decide)]
    · obtain ⟨q1, q2⟩ := hin s hs h0
      show v (2 + s) = _
      rw [gv.2 (2 + s) (by omega) q1, q2]
  refine U_p (cs := fun s => v (2 + s)) hG h3 hy hR hS (fun u hu d c h hk => ?_) (fun u hu s hs hn => ?_) hJ
  · have q := lok_S (I := I) (sv := fun s => v (2 + s)) Cg_lq hY hu d
    rw [hlk d c h hk] at q
    exact q
  · obtain ⟨tf, rl⟩ := hsg s hs hn
    have q := em_up (cv := cvW P v) hT hu s
    have e : v (2 + s) = emC (woV W) (cvW P v) s (noL (chV W) g x0) 0 := by
      rcases hN (2 + s) (by omega) with ⟨a, -⟩ | ⟨-, a, -⟩ | ⟨-, t, t1, t2, t3, t4, t5⟩ | ⟨-, z, -, ⟨-, e⟩ | ⟨-, e⟩, -⟩
      · rw [rl] at a; exact absurd (show (3 : Nat) = 0 from a) (by decide)
      · rw [a] at tf; exact absurd tf (by decide)
      · have et : t = s := by omega
        rw [et] at t5
        exact vf (2 + s) (by omega) tf t5
      · rw [rl] at e; exact absurd (show (3 : Nat) = 7 from congrArg Prod.fst e) (by decide)
      · rw [rl] at e; exact absurd (show (3 : Nat) = 8 from congrArg Prod.fst e) (by decide)
    show lq3 _ (v (2 + s))
    rw [e]
    exact q
end
end
section
/-! a valuation of the nets made of the reference's solution -/
section
variable {W : Wo} {R : RMo} {I : RIn} {Ψ : Wg} {P : Nat → Nat → Int32} {Θ : TrT} {tb : Nat → Bool} {tv : Nat → Nat} {zn fn g y0 x0 : Nat} {ρ : Plc → Nat} {v : Nat → Nat}
noncomputable def opV (W : Wo) (R : RMo) (ρ : Plc → Nat) (y0 x0 q z : Nat) : Nat := @dite _ (∃ d, DsR W R y0 x0 d ((chV W z).getD 0 0)) (Classical.propDecidable _) (fun h => ρ (q, Classical.choose h, 0)) (fun _ => 2)
noncomputable def bsV (W : Wo) (R : RMo) (ρ : Plc → Nat) (y0 x0 : Nat) (Ψ : Wg) (tb : Nat → Bool) (tv : Nat → Nat) (n : Nat) : Nat := if n < Ψ.1.length then (if tb n = true then tv n else if (Ψ.2.1.getD n (0, 0)).1 = 3 then ρ (5, (Ψ.2.1.getD n (0, 0)).2, 0) else if (Ψ.2.1.getD n (0, 0)).1 = 7 then opV W R ρ y0 x0 0 (Ψ.2.1.getD n (0, 0)).2 else if (Ψ.2.1.getD n (0, 0)).1 = 8 then opV W R ρ y0 x0 3 (Ψ.2.1.getD n (0, 0)).2 else 2) else 2
/-- the class's tree, for its pairs -/
def TrU (W : Wo) (R : RMo) (y0 x0 : Nat) : Prop := ∃ nb : Nat → Prop, (∀ d c, DsR W R y0 x0 d c → nb c) ∧ (∀ z a b, nb a → nb b → z ∈ chV W a → z ∈ chV W b → a = b) ∧ (∀ a, nb a → (chV W a).Nodup) ∧ ∀ a, nb a → x0 ∉ chV W a
theorem opV_at (hU : TrU W R y0 x0) {q z d : Nat} (h : DsR W R y0 x0 d ((chV W z).getD 0 0)) : opV W R ρ y0 x0 q z = ρ (q, d, 0) := by
  obtain ⟨nb, u1, u2, u3, u4⟩ := hU
  unfold opV
  have hx : ∃ d, DsR W R y0 x0 d ((chV W z).getD 0 0) := ⟨d, h⟩
  rw [dif_pos hx]
  obtain ⟨n, h⟩ := h
  obtain ⟨n', h'⟩ := Classical.choose_spec hx
  rw [ds_fn nb u1 u2 u3 u4 n' n _ d _ h' h]
theorem opV_le (h2 : ∀ j, ρ j ≤ 2) (q z : Nat) : opV W R ρ y0 x0 q z ≤ 2 := by
  unfold opV
  by_cases h : ∃ d, DsR W R y0 x0 d ((chV W z).getD 0 0)
  · rw [dif_pos h]; exact h2 _
  · rw [dif_neg h]; exact Nat.le_refl _
theorem J_w (hT : TwT W R zn fn y0 x0 g) (hU : TrU W R y0 x0) (hC : ClW W R I Ψ P Θ (noL (chV W) g x0) tb tv y0 x0) (hK : PrK W R Θ y0 x0) (h3 : 3 ≤ moC R ∧ moC R ≤ 20) (h2 : ∀ j, ρ j ≤ 2) (hfx : ∀ i, FrR R I ρ i = ρ i) : ∃ w, (∀ n, FcN Ψ.1 tb tv w n = w n) ∧ gT I Ψ tb tv w ∧ (∀ d c, DsR W R y0 x0 d c → MtE R ρ (cvW P w) (ckW P w) d c) ∧ ∀ s, s < moQ R → w (2 + s) = ρ (5, s, 0) := by
  obtain ⟨hG, hA, hy, ⟨p', hR⟩, hall⟩ := id hT
  have ft := RpN.ft g [] y0 x0 0 p' hR
  obtain ⟨⟨hRo, hl, hq⟩, hN, ⟨t0, v0⟩, hO, hE, hrt, hin, hsg, hY⟩ := id hC
  obtain ⟨w, ew⟩ : ∃ w, w = wV Ψ.1 Ψ.2.1 (bsV W R ρ y0 x0 Ψ tb tv) := ⟨_, rfl⟩
  have bs : ∀ n, (Ψ.2.1.getD n (0, 0)).1 ≠ 0 → w n = bsV W R ρ y0 x0 Ψ tb tv n := fun n hn => by rw [ew]; exact wV_bs n hn
  have told : ∀ n, n < Ψ.1.length → tb n = true → w n = tv n := fun n hn ht => by
    rw [bs n ((hN n hn).t ht).1]
    unfold bsV
    rw [if_pos hn, if_pos ht]
  have an : ∀ n, n < Ψ.1.length → (Ψ.2.1.getD n (0, 0)).1 = 0 → w n = v3A (lvN w (Ψ.1.getD n (0, 0)).1) (lvN w (Ψ.1.getD n (0, 0)).2) := fun n hn r0 => by
    rw [ew]; exact wV_an hRo.2.1 n hn r0
  have bl : ∀ n, bsV W R ρ y0 x0 Ψ tb tv n ≤ 2 := fun n => by
    unfold bsV
    by_cases z : n < Ψ.1.length
    · rw [if_pos z]
      by_cases y : tb n = true
      · rw [if_pos y]
        have := ((hN n z).t y).2.1
        omega
      rw [if_neg y]
      by_cases z3 : (Ψ.2.1.getD n (0, 0)).1 = 3
      · rw [if_pos z3]; exact h2 _
      rw [if_neg z3]
      by_cases z7 : (Ψ.2.1.getD n (0, 0)).1 = 7
      · rw [if_pos z7]; exact opV_le h2 _ _
      rw [if_neg z7]
      by_cases z8 : (Ψ.2.1.getD n (0, 0)).1 = 8
      · rw [if_pos z8]; exact opV_le h2 _ _
      · rw [if_neg z8]; exact Nat.le_refl _
    · rw [if_neg z]; exact Nat.le_refl _
  have le : ∀ n, w n ≤ 2 := fun n => by rw [ew]; exact wV_le bl n
  have gw : gT I Ψ tb tv w := by
    refine ⟨⟨⟨by rw [told 0 (by omega) t0, v0], le, an⟩, hvM_0, fun n i hn ri => ?_⟩, told⟩
    rw [hRo.1] at hn
    obtain ⟨q1, q2⟩ := (hN n hn).h ri
    rw [told n hn q1, q2]
  have sig : ∀ s, s < moQ R → w (2 + s) = ρ (5, s, 0) := fun s hs => by
    have fx : ρ (5, s, 0) = if moT R s = 0 then iGv I s else emR R ρ s (moS R).1 := by
      rw [← hfx (5, s, 0)]
      show FrA R I ρ 5 s 0 = _
      unfold FrA
      rw [if_neg (by decide), if_neg (by decide), if_pos ⟨rfl, hs, rfl⟩]
    by_cases z : moT R s = 0
    · obtain ⟨q1, q2⟩ := hin s hs z
      rw [told (2 + s) (by omega) q1, q2, fx, if_pos z]
    · obtain ⟨q1, q2⟩ := hsg s hs z
      rw [bs (2 + s) (by rw [q2]; show (3 : Nat) ≠ 0; decide)]
      unfold bsV
      rw [if_pos (by omega), if_neg (by rw [q1]; decide), q2, if_pos rfl]
  obtain ⟨hr0, hlk⟩ := hrt w gw
  have cl : ∀ d c, DsR W R y0 x0 d c → c ∈ noL (chV W) g x0 := fun d c h => by
    obtain ⟨n, h⟩ := h
    exact ds_no ft n d c h
  have cb : ∀ c j, ckW P w c j ≤ 2 := fun c j => lv_le le
  have rp : ∀ d x, DsR W R y0 x0 d x → ∃ g' cx' q q', RpN W (moM R) zn fn (vwM R) (hiM R) g' cx' d x q q' := fun d x h => by
    obtain ⟨k, h⟩ := h
    exact DsI.rp k (y0, x0) g [] 0 p' h hR
  -- an open net and the child behind it
  have opn : ∀ d c, DsR W R y0 x0 d c → (woV W c).1 = 6 ∨ (woV W c).1 = 9 → ¬ cs1 W c ∧ PkR W R d c ∧ inR R d ∧ 0 < (moG R d).length ∧ coW P w c = ρ (if (woV W c).1 = 6 then 0 else 3, (moG R d).getD 0 0, 0) := fun d c h hk => by
    obtain ⟨g', cx', q, q', kk⟩ := rp d c h
    have hne : ¬ cs1 W c := fun y => by
      have := y.1
      rcases hk with e | e <;> (rw [e] at this; exact absurd this (by decide))
    have hP := kk.pk hne
    have l0 : 0 < (moG R d).length := by
      rcases hP with ⟨-, -, e, -⟩ | ⟨a, -⟩ | ⟨a, -⟩ | ⟨a, -⟩ | ⟨a, -⟩ | ⟨a, -⟩ | ⟨-, -, c1, d1, -, e⟩ | ⟨-, -, c1, d1, -, e⟩ | ⟨-, -, e, -⟩ | ⟨-, -, c1, d1, -, e⟩
      · omega
      · rcases hk with e | e <;> (rw [e] at a; exact absurd a (by decide))
      · rcases hk with e | e <;> (rw [e] at a; exact absurd a (by decide))
      · rcases hk with e | e <;> (rw [e] at a; exact absurd a (by decide))
      · rcases hk with e | e <;> (rw [e] at a; exact absurd a (by decide))
      · rcases hk with e | e <;> (rw [e] at a; exact absurd a (by decide))
      · rw [e]; simp
      · rw [e]; simp
      · omega
      · rw [e]; simp
    refine ⟨hne, hP, kk.in, l0, ?_⟩
    have kd := h.tr (DsR.kid kk.in hne hP l0)
    obtain ⟨l, l1, l2, l3, l4⟩ := (hO c (cl d c h)).2 hk
    show lV w (P 26 c) = _
    rw [l1, lV_of (by omega), lv_2]
    by_cases k6 : (woV W c).1 = 6
    · rw [if_pos k6] at l4 ⊢
      rw [bs l (by rw [l4]; show (7 : Nat) ≠ 0; decide)]
      unfold bsV
      rw [if_pos l2, if_neg (by rw [l3]; decide), l4, if_neg (show ¬ (7 : Nat) = 3 by decide), if_pos rfl]
      exact opV_at hU kd
    · rw [if_neg k6] at l4 ⊢
      rw [bs l (by rw [l4]; show (8 : Nat) ≠ 0; decide)]
      unfold bsV
      rw [if_pos l2, if_neg (by rw [l3]; decide), l4, if_neg (show ¬ (8 : Nat) = 3 by decide), if_neg (show ¬ (8 : Nat) = 7 by decide), if_pos rfl]
      exact opV_at hU kd
  have mt : ∀ d c, DsR W R y0 x0 d c → MtE R ρ (cvW P w) (ckW P w) d c := by
    refine M_t (I := I) (hv := hvW Θ (HVm I)) (co := coW P w) (cc := ccW Θ w) hG hfx cb h3 g [] y0 x0 0 p' hR (fun d c h => ⟨J_sb hT hC hK gw.1 h, fun hk => ?_, fun k6 => ?_, fun k9 => ?_⟩) (fun c c3 => ?_)
    · rw [← hlk d c h hk]
      exact lok_S (I := I) (r := fun a c => a = c) Cg_eq hY (fun s hs => (sig s hs).symm) d
    · have q := (opn d c h (Or.inl k6)).2.2.2.2
      rw [if_pos k6] at q
      exact q
    · have q := (opn d c h (Or.inr k9)).2.2.2.2
      rw [if_neg (by rw [k9]; decide)] at q
      exact q
    · show ρ (c, y0, 0) = cvW P w c x0
      rw [hr0 c c3, ← hfx (c, y0, 0)]
      show FrA R I ρ c y0 0 = _
      unfold FrA
      rw [if_pos c3, if_pos ⟨hy.1, rfl⟩]
      unfold enR rtV
      rw [if_pos hy.2]
  refine ⟨w, fun n => ?_, gw, mt, sig⟩
  unfold FcN
  by_cases hn : n < Ψ.1.length
  · rw [if_pos hn]
    have sq : ∀ {f : (Nat → Nat) → Nat}, ClQ Ψ n f → tb n = false → (if tb n = true then tv n else v3A (lvN w (Ψ.1.getD n (0, 0)).1) (lvN w (Ψ.1.getD n (0, 0)).2)) = f w := fun {f} c tf => by
      obtain ⟨lc, c1, -, c3⟩ := c
      rw [if_neg (by rw [tf]; decide), c1, ← c3 w _ gw.1]
      exact v3A_s (lv_le le)
    rcases id (hN n hn) with ⟨a, tf⟩ | ⟨-, a, -⟩ | ⟨tf, t, t1, t2, t3, t4, t5⟩ | ⟨tf, z, z1, z2, z3, z4⟩
    · rw [if_neg (by rw [tf]; decide)]
      exact (an n hn a).symm
    · rw [if_pos a]
      exact (told n hn a).symm
    · rw [sq t5 tf, t3, sig t t1, ← hfx (5, t, 0)]
      show _ = FrA R I ρ 5 t 0
      unfold FrA
      rw [if_neg (by decide), if_neg (by decide), if_pos ⟨rfl, t1, rfl⟩, if_neg t2]
      exact (em_eq hT (fun d c h => (mt d c h).1 0 (by decide)) t).symm
    · rw [sq z4 tf]
      have kz : (woV W z).1 = 6 ∨ (woV W z).1 = 9 := by
        rcases z2 with ⟨e, -⟩ | ⟨e, -⟩
        · exact Or.inl e
        · exact Or.inr e
      have wn : w n = coW P w z := by
        show _ = lV w (P 26 z)
        rw [z3, lV_of (by omega), lv_2]
      rw [wn]
      rcases cov_b g [] y0 x0 0 p' hR z z1 with ⟨d, dd⟩ | ⟨k0, -⟩
      · obtain ⟨hne, hP, di, l0, co⟩ := opn d z dd kz
        have kd := mt _ _ (dd.tr (DsR.kid di hne hP l0))
        have md := mt d z dd
        rw [co]
        unfold clO
        rcases kz with k6 | k9
        · rw [if_pos k6, if_pos k6, ← md.1 0 (by decide), ← kd.2 0 (by omega)]
          exact opn_6 hG di hP l0 hfx k6
        · rw [if_neg (by rw [k9]; decide), if_neg (by rw [k9]; decide), ← md.1 3 (by decide), ← kd.2 2 (by omega)]
          exact opn_9 hG di hP l0 hfx k9
      · rcases kz with e | e <;> (rw [e] at k0; exact absurd k0 (by decide))
  · rw [if_neg hn]
    have r0 : (Ψ.2.1.getD n (0, 0)).1 = 0 := by
      rw [List.getD_eq_getElem?_getD, List.getElem?_eq_none (by rw [hRo.1]; omega)]
      rfl
    rw [ew]
    show _ = (if n < Ψ.1.length ∧ (Ψ.2.1.getD n (0, 0)).1 = 0 then _ else bsV W R ρ y0 x0 Ψ tb tv n)
    rw [if_neg (fun z => hn z.1)]
    unfold bsV
    rw [if_neg hn]
/-- both come to the same -/
theorem J_eq (hT : TwT W R zn fn y0 x0 g) (hU : TrU W R y0 x0) (hC : ClW W R I Ψ P Θ (noL (chV W) g x0) tb tv y0 x0) (hK : PrK W R Θ y0 x0) (h3 : 3 ≤ moC R ∧ moC R ≤ 20) (h2 : ∀ j, ρ j ≤ 2) (hfx : ∀ i, FrR R I ρ i = ρ i) (hJ : JF (FrR R I) ρ) (vx : ∀ n, FcN Ψ.1 tb tv v n = v n) (vJ : JF (FcN Ψ.1 tb tv) v) : (∀ d c, DsR W R y0 x0 d c → MtE R ρ (cvW P v) (ckW P v) d c) ∧ ∀ s, s < moQ R → ρ (5, s, 0) = v (2 + s) := by
  obtain ⟨u1, u2⟩ := J_up hT hC hK h3 vx hJ
  obtain ⟨w, w1, w2, w3, w4⟩ := J_w hT hU hC hK h3 h2 hfx
  have l : Lq v w := vJ.le FcN_mo w1
  refine ⟨fun d c h => ⟨fun q hq => ?_, fun n hn => ?_⟩, fun s hs => ?_⟩
  · have a := (u1 d c h).1 q hq
    have b : lq3 (cvW P v q c) (cvW P w q c) := lvN_mo l
    have e : ρ (q, d, 0) = cvW P w q c := (w3 d c h).1 q hq
    rw [← e] at b
    exact a.an b
  · have a := (u1 d c h).2 n hn
    have b : lq3 (ckW P v c n) (ckW P w c n) := lvN_mo l
    have e : ρ (4, d, n) = ckW P w c n := (w3 d c h).2 n hn
    rw [← e] at b
    exact a.an b
  · have a := u2 s hs
    have b := l (2 + s)
    rw [w4 s hs] at b
    exact a.an b
end
end
section
/-! stuck: some net is not known where some wire of the reference is not -/
section
variable {W : Wo} {R : RMo} {I : RIn} {Ψ : Wg} {P : Nat → Nat → Int32} {Θ : TrT} {tb : Nat → Bool} {tv : Nat → Nat} {zn fn g y0 x0 : Nat} {ρ : Plc → Nat} {v : Nat → Nat}
theorem lvN_k {l : Nat} (h : v (l / 2) ≠ 2) : lvN v l ≠ 2 := by
  unfold lvN
  by_cases z : l % 2 = 0
  · rw [if_pos z]; exact h
  · rw [if_neg z]
    unfold v3N
    rw [if_neg h]
    omega
theorem v3A_k {a c : Nat} (ha : a ≤ 2) (hc : c ≤ 2) (h : a ≠ 2) (k : c ≠ 2) : v3A a c ≠ 2 := by
  unfold v3A
  by_cases z : a = 0 ∨ c = 0
  · rw [if_pos z]; decide
  · rw [if_neg z, if_pos (show a = 1 ∧ c = 1 by omega)]; decide
theorem v3O_k {a c : Nat} (ha : a ≤ 2) (hc : c ≤ 2) (h : a ≠ 2) (k : c ≠ 2) : v3O a c ≠ 2 := by
  unfold v3O
  by_cases z : a = 1 ∨ c = 1
  · rw [if_pos z]; decide
  · rw [if_neg z, if_pos (show a = 0 ∧ c = 0 by omega)]; decide
def KnR (R : RMo) (ρ : Plc → Nat) : Prop := ∀ y, inR R y → (∀ q, q ≤ 3 → ρ (q, y, 0) ≠ 2) ∧ ∀ n, n < moC R → ρ (4, y, n) ≠ 2
theorem J_st (hT : TwT W R zn fn y0 x0 g) (hC : ClW W R I Ψ P Θ (noL (chV W) g x0) tb tv y0 x0) (h3 : 3 ≤ moC R ∧ moC R ≤ 20) (h2 : ∀ j, ρ j ≤ 2) (hfx : ∀ i, FrR R I ρ i = ρ i) (vx : ∀ n, FcN Ψ.1 tb tv v n = v n) (hM : ∀ d c, DsR W R y0 x0 d c → MtE R ρ (cvW P v) (ckW P v) d c) (hs : ∀ s, s < moQ R → ρ (5, s, 0) = v (2 + s)) : (∀ n, n < Ψ.1.length → v n ≠ 2) ↔ KnR R ρ := by
  have gv := J_v hC vx
  obtain ⟨hG, hA, hy, ⟨p', hR⟩, hall⟩ := id hT
  have ft := RpN.ft g [] y0 x0 0 p' hR
  obtain ⟨⟨hRo, hl, hq⟩, hN, -, hO, -⟩ := id hC
  have le := gv.1.1.2.1
  refine ⟨fun h y iy => ?_, fun h => ?_⟩
  · obtain ⟨k, ak⟩ := hall y iy
    obtain ⟨x, cx, g', q, q', d1, d2, d3⟩ := cov_a hG hR k y ak iy
    have xl : x ∈ noL (chV W) g x0 := by
      obtain ⟨n, d1⟩ := d1
      exact ds_no ft n y x d1
    obtain ⟨⟨o1, o2⟩, -⟩ := hO x xl
    have kn : ∀ {r : Int32}, okI Ψ r → lV v r ≠ 2 := fun {r} ⟨l, e, hl2⟩ => by
      rw [e, lV_of (by omega)]
      exact lvN_k (h _ (by omega))
    obtain ⟨m1, m2⟩ := hM y x d1
    refine ⟨fun q hq => ?_, fun n hn => ?_⟩
    · rw [m1 q hq]; exact kn (o1 (22 + q) (by omega) (by omega))
    · rw [m2 n hn]; exact kn (o2 n (by omega))
  · have main : ∀ b n, n < b → n < Ψ.1.length → v n ≠ 2 := by
      intro b
      induction b with
      | zero => intro n hb; exact absurd hb (Nat.not_lt_zero _)
      | succ b ih =>
        intro n hb hn
        have sq : ∀ {f : (Nat → Nat) → Nat}, ClQ Ψ n f → tb n = false → v n = f v := fun {f} c tf => by
          obtain ⟨lc, c1, -, c3⟩ := c
          rw [← c3 v _ gv.1, ← vx n]
          unfold FcN
          rw [if_pos hn, if_neg (by rw [tf]; decide), c1]
          exact v3A_s (lv_le le)
        rcases id (hN n hn) with ⟨a, tf⟩ | ⟨-, a, t2, -⟩ | ⟨tf, t, t1, t2, t3, t4, t5⟩ | ⟨tf, z, z1, z2, z3, z4⟩
        · obtain ⟨q1, q2⟩ := hRo.2.1 n hn a
          rw [gv.1.1.2.2 n hn a]
          exact v3A_k (lv_le le) (lv_le le) (lvN_k (ih _ (by omega) (by omega))) (lvN_k (ih _ (by omega) (by omega)))
        · rw [gv.2 n hn a]; omega
        · rw [t3, ← hs t t1, ← hfx (5, t, 0)]
          show FrA R I ρ 5 t 0 ≠ 2
          unfold FrA
          rw [if_neg (by decide), if_neg (by decide), if_pos ⟨rfl, t1, rfl⟩, if_neg t2]
          intro e2
          obtain ⟨e1, e0, -⟩ := emR_e (R := R) (u := ρ) (s := t) (moS R).1
          have z0 : emR R ρ t (moS R).1 = 0 := e0.mpr (fun j j1 j2 => by
            have k := (h (700 * moM R + j) ⟨by omega, by omega⟩).1 0 (by decide)
            have k2 := h2 (0, 700 * moM R + j, 0)
            have k1 : ρ (0, 700 * moM R + j, 0) ≠ 1 := fun z => by
              have := e1.mpr ⟨j, j1, j2, z⟩
              omega
            omega)
          omega
        · rw [sq z4 tf]
          have kz : (woV W z).1 = 6 ∨ (woV W z).1 = 9 := by
            rcases z2 with ⟨e, -⟩ | ⟨e, -⟩
            · exact Or.inl e
            · exact Or.inr e
          rcases cov_b g [] y0 x0 0 p' hR z z1 with ⟨d, dd⟩ | ⟨k0, -⟩
          · obtain ⟨n', dn⟩ := id dd
            obtain ⟨g', cx', q, q', kk⟩ := DsI.rp n' (y0, x0) g [] 0 p' dn hR
            have hne : ¬ cs1 W z := fun y => by
              have := y.1
              rcases kz with e | e <;> (rw [e] at this; exact absurd this (by decide))
            have kk : RpN W (moM R) zn fn (vwM R) (hiM R) g' cx' d z q q' := kk
            have hP := kk.pk hne
            have l0 : 0 < (moG R d).length := by
              rcases hP with ⟨-, -, e, -⟩ | ⟨a, -⟩ | ⟨a, -⟩ | ⟨a, -⟩ | ⟨a, -⟩ | ⟨a, -⟩ | ⟨-, -, c1, d1, -, e⟩ | ⟨-, -, c1, d1, -, e⟩ | ⟨-, -, e, -⟩ | ⟨-, -, c1, d1, -, e⟩
              · omega
              · rcases kz with e | e <;> (rw [e] at a; exact absurd a (by decide))
              · rcases kz with e | e <;> (rw [e] at a; exact absurd a (by decide))
              · rcases kz with e | e <;> (rw [e] at a; exact absurd a (by decide))
              · rcases kz with e | e <;> (rw [e] at a; exact absurd a (by decide))
              · rcases kz with e | e <;> (rw [e] at a; exact absurd a (by decide))
              · rw [e]; simp
              · rw [e]; simp
              · omega
              · rw [e]; simp
            have kid := kid_up hG kk.in l0
            have md := hM d z dd
            have mk := hM _ _ (dd.tr (DsR.kid kk.in hne hP l0))
            have b1 := h d kk.in
            have b2 := h _ kid.2.2.2.2
            unfold clO
            by_cases k6 : (woV W z).1 = 6
            · rw [if_pos k6, ← md.1 0 (by decide), ← mk.2 0 (by omega)]
              exact v3O_k (h2 _) (h2 _) (b1.1 0 (by decide)) (b2.2 0 (by omega))
            · rw [if_neg k6, ← md.1 3 (by decide), ← mk.2 2 (by omega)]
              exact v3O_k (h2 _) (h2 _) (b1.1 3 (by decide)) (b2.2 2 (by omega))
          · rcases kz with e | e <;> (rw [e] at k0; exact absurd k0 (by decide))
    intro n hn
    exact main (n + 1) n (by omega) hn
end
end
section
/-! nets by lanes -/
def btL (x : Int32) (l : Nat) : Bool := x.toBitVec.getLsbD l
/-- the truth of net n in lane l -/
def laV (len : Nat) (Y Z : Nat → Int32) (l n : Nat) : Nat := if n < len then (if btL (Y n) l = true then 1 else if btL (Z n) l = true then 0 else 2) else 2
/-- no net is both -/
def CoL (len : Nat) (Y Z : Nat → Int32) : Prop := ∀ n l, n < len → l < 32 → ¬ (btL (Y n) l = true ∧ btL (Z n) l = true)
def laN (Y Z : Nat → Int32) (a : Nat) : Int32 := if a % 2 = 0 then Y (a / 2) else Z (a / 2)
theorem btL_and {x y : Int32} {l : Nat} : btL (x &&& y) l = (btL x l && btL y l) := by
  unfold btL
  rw [Int32.toBitVec_and, BitVec.getLsbD_and]
theorem btL_or {x y : Int32} {l : Nat} : btL (x ||| y) l = (btL x l || btL y l) := by
  unfold btL
  rw [Int32.toBitVec_or, BitVec.getLsbD_or]
theorem btL_ext {x y : Int32} (h : ∀ l, l < 32 → btL x l = btL y l) : x = y := by
  have : x.toBitVec = y.toBitVec := BitVec.eq_of_getLsbD_eq (fun l hl => h l hl)
  exact Int32.toBitVec_inj.mp this
section
variable {len : Nat} {Y Z Y' Z' : Nat → Int32} {l n a c : Nat}
theorem laV_1 (hn : n < len) : laV len Y Z l n = 1 ↔ btL (Y n) l = true := by
  unfold laV
  rw [if_pos hn]
  by_cases y : btL (Y n) l = true
  · rw [if_pos y]; exact ⟨fun _ => y, fun _ => rfl⟩
  · rw [if_neg y]
    by_cases z : btL (Z n) l = true
    · rw [if_pos z]; exact ⟨fun e => absurd e (by decide), fun e => absurd e y⟩
    · rw [if_neg z]; exact ⟨fun e => absurd e (by decide), fun e => absurd e y⟩
theorem laV_0 (hC : CoL len Y Z) (hn : n < len) (hl : l < 32) : laV len Y Z l n = 0 ↔ btL (Z n) l = true := by
  unfold laV
  rw [if_pos hn]
  by_cases y : btL (Y n) l = true
  · rw [if_pos y]; exact ⟨fun e => absurd e (by decide), fun e => absurd ⟨y, e⟩ (hC n l hn hl)⟩
  · rw [if_neg y]
    by_cases z : btL (Z n) l = true
    · rw [if_pos z]; exact ⟨fun _ => z, fun _ => rfl⟩
    · rw [if_neg z]; exact ⟨fun e => absurd e (by decide), fun e => absurd e z⟩
theorem laV_le : laV len Y Z l n ≤ 2 := by
  unfold laV
  split
  · split
    · decide
    · split <;> decide
  · decide
/-- a literal is 1 where its lane says so -/
theorem laN_1 (hC : CoL len Y Z) (ha : a < 2 * len) (hl : l < 32) : btL (laN Y Z a) l = true ↔ lvN (laV len Y Z l) a = 1 := by
  unfold laN lvN
  by_cases e : a % 2 = 0
  · rw [if_pos e, if_pos e]
    exact (laV_1 (by omega)).symm
  · rw [if_neg e, if_neg e, ← laV_0 hC (by omega) hl]
    have := laV_le (len := len) (Y := Y) (Z := Z) (l := l) (n := a / 2)
    generalize laV len Y Z l (a / 2) = q at this ⊢
    unfold v3N
    by_cases z : q = 2
    · rw [if_pos z, z]; exact ⟨fun h => absurd h (by decide), fun h => absurd h (by decide)⟩
    · rw [if_neg z]; omega
theorem nlt_lv {v : Nat → Nat} (h : ∀ n, v n ≤ 2) : lvN v (nlt a) = 1 ↔ lvN v a = 0 := by
  rw [lv_n h]
  have := lv_le (v := v) (l := a) h
  generalize lvN v a = q at this ⊢
  unfold v3N
  by_cases z : q = 2
  · rw [if_pos z, z]; exact ⟨fun h => absurd h (by decide), fun h => absurd h (by decide)⟩
  · rw [if_neg z]; omega
/-- what a sweep writes at a net -/
theorem la_sw (hC : CoL len Y Z) (ha : a < 2 * len) (hc : c < 2 * len) (hl : l < 32) : (btL (laN Y Z a &&& laN Y Z c) l = true ↔ v3A (lvN (laV len Y Z l) a) (lvN (laV len Y Z l) c) = 1) ∧ (btL (laN Y Z (nlt a) ||| laN Y Z (nlt c)) l = true ↔ v3A (lvN (laV len Y Z l) a) (lvN (laV len Y Z l) c) = 0) := by
  have le : ∀ n, laV len Y Z l n ≤ 2 := fun n => laV_le
  rw [btL_and, btL_or, Bool.and_eq_true, Bool.or_eq_true, laN_1 hC ha hl, laN_1 hC hc hl, laN_1 hC (nlt_lt ha) hl, laN_1 hC (nlt_lt hc) hl, nlt_lv le, nlt_lv le]
  have b1 := lv_le (v := laV len Y Z l) (l := a) le
  have b2 := lv_le (v := laV len Y Z l) (l := c) le
  generalize lvN (laV len Y Z l) a = p at b1 ⊢
  generalize lvN (laV len Y Z l) c = q at b2 ⊢
  unfold v3A
  by_cases z : p = 0 ∨ q = 0
  · rw [if_pos z]; omega
  · rw [if_neg z]
    by_cases y : p = 1 ∧ q = 1
    · rw [if_pos y]; omega
    · rw [if_neg y]; omega
/-- a sweep's step: net n is written -/
def upL (Y : Nat → Int32) (n : Nat) (x : Int32) : Nat → Int32 := fun j => if j = n then x else Y j
theorem la_up (hC : CoL len Y Z) (hn : n < len) (ha : a < 2 * len) (hc : c < 2 * len) : CoL len (upL Y n (laN Y Z a &&& laN Y Z c)) (upL Z n (laN Y Z (nlt a) ||| laN Y Z (nlt c))) ∧ ∀ l, l < 32 → ∀ j, laV len (upL Y n (laN Y Z a &&& laN Y Z c)) (upL Z n (laN Y Z (nlt a) ||| laN Y Z (nlt c))) l j = if j = n then v3A (lvN (laV len Y Z l) a) (lvN (laV len Y Z l) c) else laV len Y Z l j := by
  have cn : CoL len (upL Y n (laN Y Z a &&& laN Y Z c)) (upL Z n (laN Y Z (nlt a) ||| laN Y Z (nlt c))) := by
    intro j l hj hl
    unfold upL
    by_cases e : j = n
    · rw [if_pos e, if_pos e, (la_sw hC ha hc hl).1, (la_sw hC ha hc hl).2]
      omega
    · rw [if_neg e, if_neg e]; exact hC j l hj hl
  refine ⟨cn, fun l hl j => ?_⟩
  by_cases e : j = n
  · rw [if_pos e, e]
    have b := v3A_le (lvN (laV len Y Z l) a) (lvN (laV len Y Z l) c)
    have q1 := laV_1 (len := len) (Y := upL Y n (laN Y Z a &&& laN Y Z c)) (Z := upL Z n (laN Y Z (nlt a) ||| laN Y Z (nlt c))) (l := l) hn
    have q0 := laV_0 (l := l) cn hn hl
    have q2 := laV_le (len := len) (Y := upL Y n (laN Y Z a &&& laN Y Z c)) (Z := upL Z n (laN Y Z (nlt a) ||| laN Y Z (nlt c))) (l := l) (n := n)
    have e1 : upL Y n (laN Y Z a &&& laN Y Z c) n = laN Y Z a &&& laN Y Z c := if_pos rfl
    have e0 : upL Z n (laN Y Z (nlt a) ||| laN Y Z (nlt c)) n = laN Y Z (nlt a) ||| laN Y Z (nlt c) := if_pos rfl
    rw [e1, (la_sw hC ha hc hl).1] at q1
    rw [e0, (la_sw hC ha hc hl).2] at q0
    omega
  · rw [if_neg e]
    unfold laV upL
    rw [if_neg e, if_neg e]
/-- lanes that say the same are the same words -/
theorem la_eq (hC : CoL len Y Z) (hC' : CoL len Y' Z') (hn : n < len) (h : ∀ l, l < 32 → laV len Y Z l n = laV len Y' Z' l n) : Y n = Y' n ∧ Z n = Z' n := by
  have bb : ∀ {p q : Bool}, (p = true ↔ q = true) → p = q := fun {p q} h => by
    cases p <;> cases q <;> simp_all
  refine ⟨btL_ext (fun l hl => bb ?_), btL_ext (fun l hl => bb ?_)⟩
  · rw [← laV_1 (Z := Z) (Y := Y) hn, ← laV_1 (Z := Z') (Y := Y') hn, h l hl]
  · rw [← laV_0 hC hn hl, ← laV_0 hC' hn hl, h l hl]
end
end
section
/-! the circuit's lanes in memory: lanesOf, isOn, truth, sweep, settle -/
theorem ush31 : ∀ k : Fin 32, (((Int32.ofNat k.val).toUInt32 &&& Int32.toUInt32 31).toBitVec % 32).toNat = k.val := by decide +kernel
theorem ush_b {v : Int32} {k : Nat} (hk : k < 32) : ((v.toUInt32 >>> ((Int32.ofNat k).toUInt32 &&& Int32.toUInt32 31)).toInt32).toBitVec = v.toBitVec >>> k := by
  show (v.toUInt32 >>> ((Int32.ofNat k).toUInt32 &&& Int32.toUInt32 31)).toBitVec = _
  rw [UInt32.toBitVec_shiftRight, BitVec.ushiftRight_eq', ush31 ⟨k, hk⟩]
  rfl
theorem ub_0 {v : Int32} {k : Nat} (hk : k < 32) : (((v.toUInt32 >>> ((Int32.ofNat k).toUInt32 &&& Int32.toUInt32 31)).toInt32) &&& 1 = 0) ↔ btL v k = false := by
  have e1 : ((v.toUInt32 >>> ((Int32.ofNat k).toUInt32 &&& Int32.toUInt32 31)).toInt32) &&& 1 = 0 ↔ (((v.toUInt32 >>> ((Int32.ofNat k).toUInt32 &&& Int32.toUInt32 31)).toInt32) &&& 1).toBitVec = (0 : Int32).toBitVec := ⟨fun e => by rw [e], fun e => Int32.toBitVec_inj.mp e⟩
  rw [e1, Int32.toBitVec_and, ush_b hk]
  have e2 : (1 : Int32).toBitVec = 1#32 := rfl
  have e3 : (0 : Int32).toBitVec = 0#32 := rfl
  unfold btL
  rw [e2, e3, BitVec.and_one_eq_setWidth_ofBool_getLsbD, BitVec.getLsbD_ushiftRight, Nat.add_zero]
  cases v.toBitVec.getLsbD k <;> decide
theorem par32 {a : Nat} (h : a < 2147483648) : (Int32.ofNat a &&& 1 = 0) ↔ a % 2 = 0 := by
  have e : (Int32.ofNat a &&& 1).toBitVec.toNat = a % 2 := by
    rw [Int32.toBitVec_and, Int32.toBitVec_ofNat', BitVec.toNat_and, BitVec.toNat_ofNat, Nat.mod_eq_of_lt (by omega)]
    exact Nat.and_one_is_mod a
  refine ⟨fun z => ?_, fun z => ?_⟩
  · rw [z] at e; exact e.symm
  · refine Int32.toBitVec_inj.mp (BitVec.eq_of_toNat_eq ?_)
    rw [e, z]; rfl
/-- only arrays of S have changed -/
def ArF (S : Nat → Prop) (M M' : Mem) : Prop := (mN M' = mN M ∧ mS M' = mS M ∧ mK M' = mK M ∧ mL M' = mL M) ∧ (mI M' = mI M ∧ mJ M' = mJ M ∧ mR M' = mR M ∧ mAJ M' = mAJ M ∧ mAR M' = mAR M) ∧ ∀ c, ¬ S c → mAI M' c = mAI M c
section
variable {S : Nat → Prop} {M M1 M2 M' : Mem}
theorem ArF.rf : ArF S M M := ⟨⟨rfl, rfl, rfl, rfl⟩, ⟨rfl, rfl, rfl, rfl, rfl⟩, fun _ _ => rfl⟩
theorem ArF.tr (h : ArF S M M1) (k : ArF S M1 M2) : ArF S M M2 := by
  obtain ⟨⟨a1, a2, a3, a4⟩, ⟨a5, a6, a7, a8, a9⟩, a10⟩ := h
  obtain ⟨⟨b1, b2, b3, b4⟩, ⟨b5, b6, b7, b8, b9⟩, b10⟩ := k
  exact ⟨⟨b1.trans a1, b2.trans a2, b3.trans a3, b4.trans a4⟩, ⟨b5.trans a5, b6.trans a6, b7.trans a7, b8.trans a8, b9.trans a9⟩, fun c hc => (b10 c hc).trans (a10 c hc)⟩
theorem ArF.up {c k : Nat} {v : Int32} (hc : S c) (e : M' = wAI M c k v) : ArF S M M' := by
  rw [e]
  exact ⟨⟨rfl, rfl, rfl, rfl⟩, ⟨rfl, rfl, rfl, rfl, rfl⟩, fun d hd => mAI_wAI_ne (fun z => hd (by rw [z]; exact hc))⟩
theorem ArF.more {S' : Nat → Prop} (h : ArF S M M') (hs : ∀ c, S c → S' c) : ArF S' M M' := ⟨h.1, h.2.1, fun c hc => h.2.2 c (fun z => hc (hs c z))⟩
theorem ArF.ok {a k : Nat} (h : ArF S M M') (o : ok M a k) : ok M' a k := ⟨by rw [h.1.1]; exact o.1, by rw [h.1.2.2.1]; exact o.2⟩
theorem ArF.e (h : ArF S M M') : mE M M' := ⟨by rw [h.1.1]; exact Nat.le_refl _, by rw [h.1.2.1]; exact Nat.le_refl _, fun a _ => ⟨by rw [h.1.2.2.1], by rw [h.1.2.2.2]⟩⟩
end
/-- the circuit at x with its lanes Y (where nets are 1), Z (0) -/
def CrL (M : Mem) (x lc rc ya na : Nat) (N : Nt) (Y Z : Nat → Int32) : Prop := CirP M x lc rc N ∧ (mR M x 2 = some ya ∧ ok M ya 21 ∧ N.length ≤ mL M ya ∧ mL M ya < 1000000) ∧ (mR M x 3 = some na ∧ ok M na 21 ∧ N.length ≤ mL M na ∧ mL M na < 1000000) ∧ (mAI M ya = Y ∧ mAI M na = Z) ∧ (ya ≠ na ∧ ya ≠ lc ∧ ya ≠ rc ∧ na ≠ lc ∧ na ≠ rc) ∧ N.length < 100000
section
variable {M M' : Mem} {x lc rc ya na : Nat} {N : Nt} {Y Z Y' Z' : Nat → Int32} {h : Nat} {Q : Option Value → Mem → Prop}
theorem CrL.ar (hL : CrL M x lc rc ya na N Y Z) (k : ArF (fun c => c = ya ∨ c = na) M M') (e1 : mAI M' ya = Y') (e2 : mAI M' na = Z') : CrL M' x lc rc ya na N Y' Z' := by
  obtain ⟨⟨o1, c1, o2, c2, o3, i1, q, v, wf, d⟩, ⟨r1, r2, r3, r4⟩, ⟨s1, s2, s3, s4⟩, -, ⟨n1, n2, n3, n4, n5⟩, n6⟩ := hL
  obtain ⟨⟨a1, a2, a3, a4⟩, ⟨a5, a6, a7, a8, a9⟩, a10⟩ := id k
  have nl : ¬ (lc = ya ∨ lc = na) := fun z => z.elim (fun e => n2 e.symm) (fun e => n4 e.symm)
  have nr : ¬ (rc = ya ∨ rc = na) := fun z => z.elim (fun e => n3 e.symm) (fun e => n5 e.symm)
  refine ⟨⟨k.ok o1, by rw [a7]; exact c1, k.ok o2, by rw [a7]; exact c2, k.ok o3, by rw [a5]; exact i1, by rw [a4]; exact q, fun j hj => ?_, wf, d⟩, ⟨by rw [a7]; exact r1, k.ok r2, by rw [a4]; exact r3, by rw [a4]; exact r4⟩, ⟨by rw [a7]; exact s1, k.ok s2, by rw [a4]; exact s3, by rw [a4]; exact s4⟩, ⟨e1, e2⟩, ⟨n1, n2, n3, n4, n5⟩, n6⟩
  rw [a10 lc nl, a10 rc nr]
  exact v j hj
theorem S_lanes {a : Nat} (hL : CrL M x lc rc ya na N Y Z) (ha : a < 2 * N.length) (H : Q (some (.int (laN Y Z a))) M) : E (h + 1) mdX0_lanesOf [.ref x, .int (Int32.ofNat a)] M Q := by
  obtain ⟨⟨o1, -⟩, ⟨r1, r2, r3, r4⟩, ⟨s1, s2, s3, s4⟩, ⟨y1, y2⟩, -, n6⟩ := hL
  have us : ((Int32.ofNat a).toUInt32 >>> ((1 : Int32).toUInt32 &&& Int32.toUInt32 31)).toInt32 = Int32.ofNat (a / 2) := us1_of (by omega)
  refine KX0_lanesOf ?_
  unfold DX0_lanesOf_0 DX0_lanesOf_25
  rw [us, lt32 (show a / 2 < 2147483648 by omega), par32 (by omega)]
  unfold laN at H
  refine ⟨fun z => ⟨o1, na, s1, s2, vp_of (by omega) (by omega), ?_⟩, fun z => ⟨o1, ya, r1, r2, vp_of (by omega) (by omega), ?_⟩⟩
  · rw [if_neg z] at H
    rw [y2]; exact H
  · rw [if_pos z] at H
    rw [y1]; exact H
theorem S_isOn {a l : Nat} (hL : CrL M x lc rc ya na N Y Z) (hC : CoL N.length Y Z) (ha : a < 2 * N.length) (hl : l < 32) (H : Q (some (.int (if lvN (laV N.length Y Z l) a = 1 then 1 else 0))) M) : E (h + 2) mdX0_isOn [.ref x, .int (Int32.ofNat a), .int (Int32.ofNat l)] M Q := by
  refine KX0_isOn (h := h + 1) ?_
  unfold DX0_isOn_0 DX0_isOn_17
  refine ⟨hL.1.1, S_lanes (h := h) hL ha (fun _ => ⟨_, rfl, ?_⟩)⟩
  rw [ub_0 hl]
  have q := laN_1 (l := l) hC ha hl
  refine ⟨fun z => ?_, fun z => ?_⟩
  · rw [if_neg (fun e => by rw [q.mpr e] at z; exact absurd z (by decide))] at H
    exact ⟨Or.inl rfl, H⟩
  · have e : btL (laN Y Z a) l = true := by
      cases hb : btL (laN Y Z a) l with
      | true => rfl
      | false => exact absurd hb z
    rw [if_pos (q.mp e)] at H
    exact ⟨Or.inr rfl, H⟩
theorem S_truth {a : Nat} (hL : CrL M x lc rc ya na N Y Z) (hC : CoL N.length Y Z) (ha : a < 2 * N.length) (H : Q (some (.int (Int32.ofNat (lvN (laV N.length Y Z 0) a)))) M) : E (h + 3) mdX0_truth [.ref x, .int (Int32.ofNat a)] M Q := by
  have n6 := hL.2.2.2.2.2
  have le : ∀ n, laV N.length Y Z 0 n ≤ 2 := fun n => laV_le
  have b := lv_le (v := laV N.length Y Z 0) (l := a) le
  refine KX0_truth (h := h + 2) ?_
  unfold DX0_truth_0 DX0_truth_28
  refine ⟨hL.1.1, S_isOn (h := h) (l := 0) hL hC ha (by decide) (fun _ => ⟨_, rfl, fun z => ?_, fun z => ?_⟩)⟩
  · have n1 : ¬ lvN (laV N.length Y Z 0) a = 1 := fun e => by rw [if_pos e] at z; exact absurd z (by decide)
    refine S_not (h := h + 1) (by omega) (fun _ => ⟨_, rfl, S_isOn (h := h) (l := 0) hL hC (nlt_lt ha) (by decide) (fun _ => ⟨_, rfl, fun z2 => ?_, fun z2 => ?_⟩)⟩)
    · have n0 : ¬ lvN (laV N.length Y Z 0) a = 0 := fun e => by rw [if_pos ((nlt_lv le).mpr e)] at z2; exact absurd z2 (by decide)
      rw [show lvN (laV N.length Y Z 0) a = 2 by omega] at H
      exact H
    · have e0 : lvN (laV N.length Y Z 0) a = 0 := by
        by_cases y : lvN (laV N.length Y Z 0) (nlt a) = 1
        · exact (nlt_lv le).mp y
        · rw [if_neg y] at z2; exact absurd rfl z2
      rw [e0] at H
      exact H
  · have e1 : lvN (laV N.length Y Z 0) a = 1 := by
      by_cases y : lvN (laV N.length Y Z 0) a = 1
      · exact y
      · rw [if_neg y] at z; exact absurd rfl z
    rw [e1] at H
    exact H
end
/-! a sweep, by lanes -/
section
variable (N : Nt) (tb : Nat → Bool) (tv : Nat → Nat → Nat)
/-- lanes Y, Z on the way to the least solution of every lane -/
def LnJ (Y Z : Nat → Int32) : Prop := CoL N.length Y Z ∧ ∀ l, l < 32 → JF (FcN N tb (tv l)) (laV N.length Y Z l) ∧ ∀ j, j < N.length → tb j = true → laV N.length Y Z l j = tv l j
def LnX (Y Z : Nat → Int32) (l : Nat) : Prop := ∀ n, FcN N tb (tv l) (laV N.length Y Z l) n = laV N.length Y Z l n
def SwI (Y0 Z0 : Nat → Int32) (n : Nat) (f : Int32) (Y Z : Nat → Int32) : Prop := LnJ N tb tv Y Z ∧ (∀ l, l < 32 → Lq (laV N.length Y0 Z0 l) (laV N.length Y Z l) ∧ ((∀ j, laV N.length Y Z l j = laV N.length Y0 Z0 l j) → ∀ j, 1 ≤ j → j < n → FcN N tb (tv l) (laV N.length Y Z l) j = laV N.length Y Z l j)) ∧ ((f = 0 ∧ ∀ l, l < 32 → ∀ j, laV N.length Y Z l j = laV N.length Y0 Z0 l j) ∨ (f = 1 ∧ ∃ l, l < 32 ∧ ∃ j, j < N.length ∧ laV N.length Y0 Z0 l j ≠ laV N.length Y Z l j))
/-- nets that are told hold themselves; literals are nets' -/
def NtS : Prop := (∀ n, n < N.length → tb n = true → N.getD n (0, 0) = (2 * n, 2 * n)) ∧ tb 0 = true ∧ ∀ e ∈ N, e.1 < 2 * N.length ∧ e.2 < 2 * N.length
end
section
variable {N : Nt} {tb : Nat → Bool} {tv : Nat → Nat → Nat} {Y0 Z0 Y Z : Nat → Int32} {n : Nat} {f : Int32}
theorem NtS.in (h : NtS N tb) (hn : n < N.length) : (N.getD n (0, 0)).1 < 2 * N.length ∧ (N.getD n (0, 0)).2 < 2 * N.length := by
  have e : N.getD n (0, 0) ∈ N := by
    rw [List.getD_eq_getElem?_getD, List.getElem?_eq_getElem hn]
    exact List.getElem_mem hn
  exact h.2.2 _ e
/-- what a sweep makes of net n -/
theorem SwI.st (hS : NtS N tb) (h : SwI N tb tv Y0 Z0 n f Y Z) (h1 : 1 ≤ n) (hn : n < N.length) (Y' Z' : Nat → Int32) (eY : Y' = upL Y n (laN Y Z (N.getD n (0, 0)).1 &&& laN Y Z (N.getD n (0, 0)).2)) (eZ : Z' = upL Z n (laN Y Z (nlt (N.getD n (0, 0)).1) ||| laN Y Z (nlt (N.getD n (0, 0)).2))) : ((Y' n = Y n ∧ Z' n = Z n) → SwI N tb tv Y0 Z0 (n + 1) f Y Z) ∧ (¬ (Y' n = Y n ∧ Z' n = Z n) → SwI N tb tv Y0 Z0 (n + 1) 1 Y' Z') := by
  obtain ⟨⟨hC, hJ⟩, hL, hf⟩ := h
  obtain ⟨a1, a2⟩ := hS.in hn
  obtain ⟨cn, up⟩ := la_up hC hn a1 a2
  rw [← eY, ← eZ] at cn up
  have le : ∀ l n, laV N.length Y Z l n ≤ 2 := fun l n => laV_le
  -- the new truth is what the equations say, or the old one where it is told
  have nw : ∀ l, l < 32 → ∀ j, laV N.length Y' Z' l j = if j = n then FcN N tb (tv l) (laV N.length Y Z l) n else laV N.length Y Z l j := fun l hl j => by
    rw [up l hl j]
    by_cases e : j = n
    · rw [if_pos e, if_pos e]
      unfold FcN
      rw [if_pos hn]
      by_cases t : tb n = true
      · rw [if_pos t, hS.1 n hn t, ← (hJ l hl).2 n hn t]
        show v3A (lvN (laV N.length Y Z l) (2 * n)) (lvN (laV N.length Y Z l) (2 * n)) = _
        rw [lv_2, v3A_s (le l n)]
      · rw [if_neg t]
    · rw [if_neg e, if_neg e]
  have ju : ∀ l, l < 32 → JF (FcN N tb (tv l)) (laV N.length Y' Z' l) ∧ Lq (laV N.length Y Z l) (laV N.length Y' Z' l) := fun l hl => (hJ l hl).1.up FcN_mo (fun j => by
    rw [nw l hl j]
    by_cases e : j = n
    · rw [if_pos e, e]; exact Or.inr rfl
    · rw [if_neg e]; exact Or.inl rfl)
  have td : ∀ l, l < 32 → ∀ j, j < N.length → tb j = true → laV N.length Y' Z' l j = tv l j := fun l hl j hj ht => by
    rw [nw l hl j]
    by_cases e : j = n
    · rw [if_pos e, ← e]
      unfold FcN
      rw [if_pos hj, if_pos ht]
    · rw [if_neg e]; exact (hJ l hl).2 j hj ht
  have fx : ∀ l, l < 32 → (∀ j, laV N.length Y' Z' l j = laV N.length Y0 Z0 l j) → (∀ j, laV N.length Y' Z' l j = laV N.length Y Z l j) ∧ ∀ j, 1 ≤ j → j < n + 1 → FcN N tb (tv l) (laV N.length Y Z l) j = laV N.length Y Z l j := fun l hl e => by
    have e1 : ∀ j, laV N.length Y Z l j = laV N.length Y0 Z0 l j := fun j => by
      have q1 := (hL l hl).1 j
      have q2 := (ju l hl).2 j
      rw [e j] at q2
      exact q2.an q1
    have e2 : ∀ j, laV N.length Y' Z' l j = laV N.length Y Z l j := fun j => (e j).trans (e1 j).symm
    refine ⟨e2, fun j j1 j2 => ?_⟩
    by_cases z : j = n
    · have q := nw l hl n
      rw [if_pos rfl, e2 n] at q
      rw [z]; exact q.symm
    · exact (hL l hl).2 e1 j j1 (by omega)
  refine ⟨fun z => ?_, fun z => ?_⟩
  · have YY : Y' = Y := by
      funext j
      by_cases e : j = n
      · rw [e]; exact z.1
      · rw [eY]; unfold upL; rw [if_neg e]
    have ZZ : Z' = Z := by
      funext j
      by_cases e : j = n
      · rw [e]; exact z.2
      · rw [eZ]; unfold upL; rw [if_neg e]
    rw [YY, ZZ] at fx
    exact ⟨⟨hC, hJ⟩, fun l hl => ⟨(hL l hl).1, fun e => (fx l hl e).2⟩, hf⟩
  · refine ⟨⟨cn, fun l hl => ⟨(ju l hl).1, td l hl⟩⟩, fun l hl => ⟨(hL l hl).1.tr (ju l hl).2, fun e j j1 j2 => ?_⟩, Or.inr ⟨rfl, ?_⟩⟩
    · obtain ⟨e2, q⟩ := fx l hl e
      have ef : laV N.length Y' Z' l = laV N.length Y Z l := funext e2
      rw [ef]
      exact q j j1 j2
    · by_cases y : ∃ l, l < 32 ∧ laV N.length Y Z l n ≠ laV N.length Y' Z' l n
      · obtain ⟨l, hl, ne⟩ := y
        refine ⟨l, hl, n, hn, fun e => ne ?_⟩
        have q1 := (hL l hl).1 n
        have q2 := (ju l hl).2 n
        rw [← e] at q2 ⊢
        exact (q1.an q2).symm
      · refine absurd ?_ z
        have q := la_eq cn hC hn (fun l hl => by
          by_cases e : laV N.length Y Z l n = laV N.length Y' Z' l n
          · exact e.symm
          · exact absurd ⟨l, hl, e⟩ y)
        exact q
end
end
section
/-! what a sweep does to a lane -/
section
variable {N : Nt} {tb : Nat → Bool} {tv : Nat → Nat → Nat} {Y0 Z0 Y Z : Nat → Int32} {f : Int32} {i l j : Nat}
/-- a lane that a sweep leaves as it was is at rest -/
theorem swp_u (hS : NtS N tb) (h : SwI N tb tv Y0 Z0 N.length f Y Z) (hl : l < 32) (un : ∀ j, laV N.length Y Z l j = laV N.length Y0 Z0 l j) : LnX N tb tv Y Z l := by
  intro n
  by_cases hn : n < N.length
  · by_cases n0 : n = 0
    · have t : tb n = true := by rw [n0]; exact hS.2.1
      rw [(h.1.2 l hl).2 n hn t]
      unfold FcN
      rw [if_pos hn, if_pos t]
    · exact (h.2.1 l hl).2 un n (by omega) hn
  · unfold FcN laV
    rw [if_neg hn, if_neg hn]
/-- a lane that has changed was not at rest -/
theorem swp_c (hS : NtS N tb) (hJ : LnJ N tb tv Y0 Z0) (h : SwI N tb tv Y0 Z0 N.length f Y Z) (hI : ∀ l, l < 32 → LnX N tb tv Y0 Z0 l ∨ muU (laV N.length Y0 Z0 l) (List.range N.length) + i ≤ N.length) (hl : l < 32) (hj : j < N.length) (ne : laV N.length Y0 Z0 l j ≠ laV N.length Y Z l j) : muU (laV N.length Y Z l) (List.range N.length) + (i + 1) ≤ N.length := by
  have lq := (h.2.1 l hl).1
  rcases hI l hl with q | q
  · have b : Lq (laV N.length Y Z l) (laV N.length Y0 Z0 l) := (h.1.2 l hl).1.le FcN_mo q
    exact absurd ((lq j).an (b j)) ne
  · have := muU_lt lq (List.range N.length) j (List.mem_range.mpr hj) ne
    omega
theorem swp_x (hS : NtS N tb) (hJ : LnJ N tb tv Y0 Z0) (h : SwI N tb tv Y0 Z0 N.length f Y Z) (hI : ∀ l, l < 32 → LnX N tb tv Y0 Z0 l ∨ muU (laV N.length Y0 Z0 l) (List.range N.length) + i ≤ N.length) : ∀ l, l < 32 → LnX N tb tv Y Z l ∨ muU (laV N.length Y Z l) (List.range N.length) + (i + 1) ≤ N.length := by
  intro l hl
  by_cases z : ∃ j, j < N.length ∧ laV N.length Y0 Z0 l j ≠ laV N.length Y Z l j
  · obtain ⟨j, hj, ne⟩ := z
    exact Or.inr (swp_c hS hJ h hI hl hj ne)
  · refine Or.inl (swp_u hS h hl (fun j => ?_))
    by_cases hj : j < N.length
    · by_cases e : laV N.length Y0 Z0 l j = laV N.length Y Z l j
      · exact e.symm
      · exact absurd ⟨j, hj, e⟩ z
    · unfold laV
      rw [if_neg hj, if_neg hj]
end
/-! sweeps until nothing changes -/
section
variable {M : Mem} {x lc rc ya na : Nat} {N : Nt} {tb : Nat → Bool} {tv : Nat → Nat → Nat} {Y Z : Nat → Int32} {h : Nat} {Q : Option Value → Mem → Prop}
theorem S_sweep (hS : NtS N tb) (hL : CrL M x lc rc ya na N Y Z) (hJ : LnJ N tb tv Y Z) (K : ∀ M' Y' Z' f, CrL M' x lc rc ya na N Y' Z' → ArF (fun c => c = ya ∨ c = na) M M' → SwI N tb tv Y Z N.length f Y' Z' → Q (some (.int f)) M') : E (h + 2) mdX0_sweep [.ref x] M Q := by
  have main : ∀ (d n : Nat) (f : Int32) (M1 : Mem) (Y1 Z1 : Nat → Int32), n + d = N.length → 1 ≤ n → CrL M1 x lc rc ya na N Y1 Z1 → ArF (fun c => c = ya ∨ c = na) M M1 → SwI N tb tv Y Z n f Y1 Z1 → T (h + 2) mdX0_sweep 4 [(0, .ref x), (1, .int f), (2, .int (Int32.ofNat n))] [] M1 Q := by
    intro d
    induction d with
    | zero =>
      intro n f M1 Y1 Z1 hd h1 L1 A1 S1
      have en : n = N.length := by omega
      obtain ⟨⟨o1, c1, o2, c2, o3, i1, -⟩, -⟩ := id L1
      refine VX0_sweep_4 (h := h + 1) ?_
      unfold DX0_sweep_4
      rw [i1, en]
      refine ⟨o1, fun _ => ⟨?_, K M1 Y1 Z1 f L1 A1 (by rw [← en]; exact S1)⟩, fun z => absurd Int32.le_rfl z⟩
      rcases S1.2.2 with q | q
      · exact Or.inl q.1
      · exact Or.inr q.1
    | succ d ih =>
      intro n f M1 Y1 Z1 hd h1 L1 A1 S1
      have hn : n < N.length := by omega
      obtain ⟨⟨o1, c1, o2, c2, o3, i1, ⟨p1, p2, p3, p4, p5⟩, v, -, -⟩, ⟨r1, r2, r3, r4⟩, ⟨s1, s2, s3, s4⟩, ⟨y1, y2⟩, ⟨n1, -⟩, n6⟩ := id L1
      obtain ⟨a1, a2⟩ := hS.in hn
      obtain ⟨va, vc⟩ := v n hn
      obtain ⟨q1, q2⟩ := S1.st hS h1 hn _ _ rfl rfl
      have ln : (Int32.ofNat n).toNatClampNeg = n := lt32 (by omega)
      have nl : ¬ Int32.ofNat N.length ≤ Int32.ofNat n := fun z => by
        have := (le32 (by omega) (by omega)).mp z
        omega
      have vl : vp_in (Int32.ofNat n) (mL M1 lc) := vp_of (by omega) (by omega)
      have vr : vp_in (Int32.ofNat n) (mL M1 rc) := by rw [p3]; exact vl
      have vy : vp_in (Int32.ofNat n) (mL M1 ya) := vp_of (by omega) (by omega)
      have vz : vp_in (Int32.ofNat n) (mL M1 na) := vp_of (by omega) (by omega)
      obtain ⟨a, ea⟩ : ∃ a, a = (N.getD n (0, 0)).1 := ⟨_, rfl⟩
      obtain ⟨c, ec⟩ : ∃ c, c = (N.getD n (0, 0)).2 := ⟨_, rfl⟩
      rw [← ea] at a1 va q1 q2
      rw [← ec] at a2 vc q1 q2
      have u1 : upL Y1 n (laN Y1 Z1 a &&& laN Y1 Z1 c) n = laN Y1 Z1 a &&& laN Y1 Z1 c := if_pos rfl
      have u2 : upL Z1 n (laN Y1 Z1 (nlt a) ||| laN Y1 Z1 (nlt c)) n = laN Y1 Z1 (nlt a) ||| laN Y1 Z1 (nlt c) := if_pos rfl
      rw [u1, u2] at q1 q2
      -- net n is written
      have wr : ¬ (laN Y1 Z1 a &&& laN Y1 Z1 c = Y1 n ∧ laN Y1 Z1 (nlt a) ||| laN Y1 Z1 (nlt c) = Z1 n) → DX0_sweep_84 (h + 1) x (Int32.ofNat n) (laN Y1 Z1 a &&& laN Y1 Z1 c) (laN Y1 Z1 (nlt a) ||| laN Y1 Z1 (nlt c)) M1 Q := fun ne => by
        unfold DX0_sweep_84 DX0_sweep_101
        rw [ln, succ32]
        refine ⟨o1, ya, r1, r2, vy, fun M4 e4 => ⟨na, by rw [e4]; exact s1, by rw [e4]; exact s2, by rw [e4]; exact vz, fun M7 e7 => ?_⟩⟩
        have k4 : ArF (fun c => c = ya ∨ c = na) M1 M4 := ArF.up (Or.inl rfl) e4
        have k7 : ArF (fun c => c = ya ∨ c = na) M4 M7 := ArF.up (Or.inr rfl) e7
        have L7 : CrL M7 x lc rc ya na N (upL Y1 n (laN Y1 Z1 a &&& laN Y1 Z1 c)) (upL Z1 n (laN Y1 Z1 (nlt a) ||| laN Y1 Z1 (nlt c))) := by
          refine L1.ar (k4.tr k7) ?_ ?_
          · funext j
            rw [e7, mAI_wAI, if_neg (fun z => n1 z.1), e4, mAI_wAI, y1]
            unfold upL
            by_cases z : j = n
            · rw [if_pos ⟨rfl, z⟩, if_pos z]
            · rw [if_neg (fun q => z q.2), if_neg z]
          · funext j
            rw [e7, mAI_wAI]
            unfold upL
            by_cases z : j = n
            · rw [if_pos ⟨rfl, z⟩, if_pos z]
            · rw [if_neg (fun q => z q.2), if_neg z, e4, mAI_wAI, if_neg (fun q => n1 q.1.symm), y2]
        exact ih (n + 1) 1 M7 _ _ (by omega) (by omega) L7 (A1.tr (k4.tr k7)) (q2 ne)
      refine VX0_sweep_4 (h := h + 1) ?_
      unfold DX0_sweep_4
      rw [i1, ln]
      refine ⟨o1, fun z => absurd z nl, fun _ => ⟨lc, c1, o2, vl, ?_⟩⟩
      rw [va]
      refine S_lanes (h := h) L1 a1 (fun _ => ⟨_, rfl, rc, c2, o3, vr, ?_⟩)
      rw [vc]
      refine S_lanes (h := h) L1 a2 (fun _ => ⟨_, rfl, lc, c1, o2, vl, ?_⟩)
      rw [va]
      refine S_not (h := h) (by omega) (fun _ => ⟨_, rfl, S_lanes (h := h) L1 (nlt_lt a1) (fun _ => ⟨_, rfl, rc, c2, o3, vr, ?_⟩)⟩)
      rw [vc]
      refine S_not (h := h) (by omega) (fun _ => ⟨_, rfl, S_lanes (h := h) L1 (nlt_lt a2) (fun _ => ⟨_, rfl, ya, r1, r2, vy, fun z => ?_, fun z => ⟨na, s1, s2, vz, fun z2 => ?_, fun z2 => ?_⟩⟩)⟩)
      · rw [y1] at z
        exact wr (fun q => z q.1)
      · rw [y1] at z
        rw [y2] at z2
        unfold DX0_sweep_101
        rw [succ32]
        exact ih (n + 1) f M1 Y1 Z1 (by omega) (by omega) L1 A1 (q1 ⟨z, z2⟩)
      · rw [y2] at z2
        exact wr (fun q => z2 q.2)
  refine KX0_sweep (h := h + 1) ?_
  unfold DX0_sweep_0
  have l1 := hL.1.2.2.2.2.2.2.1.1
  exact main (N.length - 1) 1 0 M Y Z (by omega) (by decide) hL ArF.rf ⟨hJ, fun l hl => ⟨Lq.rf, fun _ j j1 j2 => by omega⟩, Or.inl ⟨rfl, fun _ _ _ => rfl⟩⟩
theorem S_settle (hS : NtS N tb) (hL : CrL M x lc rc ya na N Y Z) (hJ : LnJ N tb tv Y Z) (K : ∀ M' Y' Z', CrL M' x lc rc ya na N Y' Z' → ArF (fun c => c = ya ∨ c = na) M M' → LnJ N tb tv Y' Z' → (∀ l, l < 32 → LnX N tb tv Y' Z' l) → Q none M') : E (h + 3) mdX0_settle [.ref x] M Q := by
  have n6 := hL.2.2.2.2.2
  have main : ∀ (d i : Nat) (M1 : Mem) (Y1 Z1 : Nat → Int32), i + d = N.length → CrL M1 x lc rc ya na N Y1 Z1 → ArF (fun c => c = ya ∨ c = na) M M1 → LnJ N tb tv Y1 Z1 → (∀ l, l < 32 → LnX N tb tv Y1 Z1 l ∨ muU (laV N.length Y1 Z1 l) (List.range N.length) + i ≤ N.length) → T (h + 3) mdX0_settle 4 [(0, .ref x), (1, .int 1), (2, .int (Int32.ofNat i))] [] M1 Q := by
    intro d
    induction d with
    | zero =>
      intro i M1 Y1 Z1 hd L1 A1 J1 I1
      refine VX0_settle_4 (h := h + 2) ?_
      unfold DX0_settle_4 DX0_settle_25
      have nl : ¬ (1000000 : Int32) ≤ Int32.ofNat i := fun z => by
        have := (le32 (a := 1000000) (by decide) (by omega)).mp z
        omega
      refine ⟨fun z => absurd z nl, fun _ => ⟨fun z => absurd z (by decide), fun _ => ⟨L1.1.1, S_sweep (h := h) hS L1 J1 (fun M2 Y2 Z2 f L2 A2 S2 _ => ⟨f, rfl, ?_⟩)⟩⟩⟩
      -- all lanes have come to rest
      have fx := swp_x hS J1 S2 I1
      rcases S2.2.2 with ⟨f0, -⟩ | ⟨-, l, hl, j, hj, ne⟩
      · rw [f0]
        refine VX0_settle_4 (h := h + 2) ?_
        unfold DX0_settle_4 DX0_settle_25
        have q := K M2 Y2 Z2 L2 (A1.tr A2) S2.1 (fun l hl => (fx l hl).elim id (fun y => absurd y (by omega)))
        exact ⟨fun _ => q, fun _ => ⟨fun _ => q, fun z => absurd rfl z⟩⟩
      · have := swp_c hS J1 S2 I1 hl hj ne
        omega
    | succ d ih =>
      intro i M1 Y1 Z1 hd L1 A1 J1 I1
      refine VX0_settle_4 (h := h + 2) ?_
      unfold DX0_settle_4 DX0_settle_25
      have nl : ¬ (1000000 : Int32) ≤ Int32.ofNat i := fun z => by
        have := (le32 (a := 1000000) (by decide) (by omega)).mp z
        omega
      refine ⟨fun z => absurd z nl, fun _ => ⟨fun z => absurd z (by decide), fun _ => ⟨L1.1.1, S_sweep (h := h) hS L1 J1 (fun M2 Y2 Z2 f L2 A2 S2 _ => ⟨f, rfl, ?_⟩)⟩⟩⟩
      have fx := swp_x hS J1 S2 I1
      rcases S2.2.2 with ⟨f0, un⟩ | ⟨f1, -⟩
      · rw [f0]
        refine VX0_settle_4 (h := h + 2) ?_
        unfold DX0_settle_4 DX0_settle_25
        have q := K M2 Y2 Z2 L2 (A1.tr A2) S2.1 (fun l hl => swp_u hS S2 hl (un l hl))
        exact ⟨fun _ => q, fun _ => ⟨fun _ => q, fun z => absurd rfl z⟩⟩
      · rw [f1, succ32]
        exact ih (i + 1) M2 Y2 Z2 (by omega) L2 (A1.tr A2) S2.1 fx
  refine KX0_settle (h := h + 2) ?_
  unfold DX0_settle_0
  exact main N.length 0 M Y Z (by omega) hL ArF.rf hJ (fun l hl => Or.inr (by
    have := muU_len (v := laV N.length Y Z l) (List.range N.length)
    rw [List.length_range] at this
    omega))
end
end
section
/-! the reference's three truths -/
section
variable {M : Mem} {h a c : Nat} {Q : Option Value → Mem → Prop}
theorem t0_ {a : Nat} (h : a ≤ 2) : (Int32.ofNat a = 0) ↔ a = 0 := ⟨fun e => inj32 (a := a) (b := 0) (by omega) (by decide) e, fun e => by rw [e]; rfl⟩
theorem t1_ {a : Nat} (h : a ≤ 2) : (Int32.ofNat a = 1) ↔ a = 1 := ⟨fun e => inj32 (a := a) (b := 1) (by omega) (by decide) e, fun e => by rw [e]; rfl⟩
theorem t2_ {a : Nat} (h : a ≤ 2) : (Int32.ofNat a = 2) ↔ a = 2 := ⟨fun e => inj32 (a := a) (b := 2) (by omega) (by decide) e, fun e => by rw [e]; rfl⟩
theorem R_both (ha : a ≤ 2) (hc : c ≤ 2) (H : Q (some (.int (Int32.ofNat (v3A a c)))) M) : E (h + 1) mdX11_both [.int (Int32.ofNat a), .int (Int32.ofNat c)] M Q := by
  refine KX11_both ?_
  unfold DX11_both_0 DX11_both_8 DX11_both_26 DX11_both_27
  rw [t0_ ha, t0_ hc, t1_ ha, t1_ hc]
  unfold v3A at H
  refine ⟨fun z => ?_, fun z => ⟨fun z1 => ⟨fun z2 => ?_, fun z2 => ⟨fun z3 => ?_, fun z3 => ?_⟩⟩, fun z1 => ?_⟩⟩
  · rw [if_pos (Or.inl z)] at H; exact H
  · rw [if_neg (by omega), if_neg (by omega)] at H; exact H
  · rw [if_neg (by omega), if_neg (by omega)] at H; exact H
  · rw [if_neg (by omega), if_pos ⟨z2, z3⟩] at H; exact H
  · rw [if_pos (Or.inr z1)] at H; exact H
theorem R_either (ha : a ≤ 2) (hc : c ≤ 2) (H : Q (some (.int (Int32.ofNat (v3O a c)))) M) : E (h + 1) mdX11_either [.int (Int32.ofNat a), .int (Int32.ofNat c)] M Q := by
  refine KX11_either ?_
  unfold DX11_either_0 DX11_either_10 DX11_either_26 DX11_either_27
  rw [t0_ ha, t0_ hc, t1_ ha, t1_ hc]
  unfold v3O at H
  refine ⟨fun z => ?_, fun z => ⟨fun z1 => ⟨fun z2 => ?_, fun z2 => ⟨fun z3 => ?_, fun z3 => ?_⟩⟩, fun z1 => ?_⟩⟩
  · rw [if_pos (Or.inl z)] at H; exact H
  · rw [if_neg (by omega), if_neg (by omega)] at H; exact H
  · rw [if_neg (by omega), if_neg (by omega)] at H; exact H
  · rw [if_neg (by omega), if_pos ⟨z2, z3⟩] at H; exact H
  · rw [if_pos (Or.inr z1)] at H; exact H
theorem R_other (ha : a ≤ 2) (H : Q (some (.int (Int32.ofNat (v3N a)))) M) : E (h + 1) mdX11_other [.int (Int32.ofNat a)] M Q := by
  refine KX11_other ?_
  unfold DX11_other_0 DX11_other_12
  rw [t2_ ha]
  unfold v3N at H
  refine ⟨fun z => ?_, fun z => ?_⟩
  · rw [if_neg z] at H
    have e : (1 : Int32) - Int32.ofNat a = Int32.ofNat (1 - a) := by
      have : a = 0 ∨ a = 1 := by omega
      rcases this with e | e <;> rw [e] <;> rfl
    rw [e]; exact H
  · rw [if_pos z] at H; exact H
end
/-! a module of the reference in memory, as a beat needs it -/
/-- places that count -/
def plR (R : RMo) (i : Plc) : Prop := (i.1 ≤ 3 ∧ inR R i.2.1 ∧ i.2.2 = 0) ∨ (i.1 = 4 ∧ inR R i.2.1 ∧ i.2.2 < moC R) ∨ (i.1 = 5 ∧ i.2.1 < moQ R ∧ i.2.2 = 0)
/-- the truths in memory -/
def RSv (R : RMo) (ρ : Plc → Nat) (M : Mem) : Prop := (∀ j, ρ j ≤ 2) ∧ (∀ j, ¬ plR R j → ρ j = 2) ∧ (∀ c y, c ≤ 3 → inR R y → mAI M (95 + c) (y - 700 * moM R) = Int32.ofNat (ρ (c, y, 0))) ∧ (∀ y n, inR R y → n < moC R → mAI M 99 (24 * (y - 700 * moM R) + n) = Int32.ofNat (ρ (4, y, n))) ∧ ∀ s, s < moQ R → mAI M 100 s = Int32.ofNat (ρ (5, s, 0))
/-- a module of the reference, where it stands -/
def RmS (R : RMo) (sl : List Nat) (M : Mem) : Prop := (moM R < 4 ∧ frM R ∧ moQ R ≤ 16 ∧ 3 ≤ moC R ∧ moC R ≤ 20 ∧ (moY R).length ≤ 410) ∧ (∀ c y, 80 ≤ c → c ≤ 86 → inR R y → mAI M c y = (moS R).2 c y) ∧ (∀ y, inR R y → mAI M 87 y = moK R y ∧ mAI M 88 y = moN R y) ∧ (∀ c p, 58 ≤ c → c ≤ 71 → 40 * moM R ≤ p → p < 40 * moM R + 40 → mAI M c p = moA R c p) ∧ (∀ k, k < (moY R).length → mAI M 45 (410 * moM R + k) = Int32.ofNat ((moY R).getD k cd0).1 ∧ mAI M 46 (410 * moM R + k) = ya (moM R) ((moY R).getD k cd0) ∧ mAI M 47 (410 * moM R + k) = yb (moM R) ((moY R).getD k cd0)) ∧ (mAI M 79 (moM R) = Int32.ofNat (moS R).1 ∧ mAI M 92 (moM R) = Int32.ofNat (moC R) ∧ mAI M 94 (moM R) = Int32.ofNat sl.length ∧ (∀ i, i < sl.length → mAI M 93 (1400 * moM R + i) = Int32.ofNat (sl.getD i 0)) ∧ mAI M 34 (moM R) = Int32.ofNat (moQ R) ∧ ∀ s, s < moQ R → mAI M 38 (16 * moM R + s) = moT R s)
/-- what solving writes -/
def RbF (M M' : Mem) : Prop := (mN M' = mN M ∧ mS M' = mS M ∧ mK M' = mK M ∧ mL M' = mL M) ∧ (mJ M' = mJ M ∧ mR M' = mR M ∧ mAJ M' = mAJ M ∧ mAR M' = mAR M) ∧ (∀ a, a ≠ 29 → mI M' a = mI M a) ∧ (∀ f, f ≠ 83 → mI M' 29 f = mI M 29 f) ∧ ∀ c, ¬ (95 ≤ c ∧ c ≤ 101) → mAI M' c = mAI M c
end
section
/-! the reference reads its truths: codes of children, conditions, ifs -/
section
variable {R : RMo} {I : RIn} {sl : List Nat} {ρ : Plc → Nat} {M M1 M' : Mem} {h y n : Nat} {Q : Option Value → Mem → Prop}
theorem ix700 {m y : Nat} (h : 700 * m ≤ y) (hy : y < 100000) : Int32.ofNat y - 700 * Int32.ofNat m = Int32.ofNat (y - 700 * m) := by
  have e : (700 : Int32) * Int32.ofNat m = Int32.ofNat (700 * m) := by rw [Int32.ofNat_mul]; rfl
  rw [e, sub32 h (by omega)]
theorem ix24 {a n : Nat} : 24 * Int32.ofNat a + Int32.ofNat n = Int32.ofNat (24 * a + n) := by
  rw [Int32.ofNat_add, Int32.ofNat_mul]; rfl
theorem inR.b (hS : RmS R sl M) (hy : inR R y) : y < 2800 ∧ y - 700 * moM R < 700 ∧ 700 * moM R ≤ y := by
  have h4 := hS.1.1
  have h7 := hS.1.2.1.1.2
  obtain ⟨h1, h2⟩ := hy
  omega
theorem RbF.rf : RbF M M := ⟨⟨rfl, rfl, rfl, rfl⟩, ⟨rfl, rfl, rfl, rfl⟩, fun _ _ => rfl, fun _ _ => rfl, fun _ _ => rfl⟩
theorem RbF.tr (h : RbF M M1) (k : RbF M1 M') : RbF M M' := by
  obtain ⟨⟨a1, a2, a3, a4⟩, ⟨a5, a6, a7, a8⟩, a9, a10, a11⟩ := h
  obtain ⟨⟨b1, b2, b3, b4⟩, ⟨b5, b6, b7, b8⟩, b9, b10, b11⟩ := k
  exact ⟨⟨b1.trans a1, b2.trans a2, b3.trans a3, b4.trans a4⟩, ⟨b5.trans a5, b6.trans a6, b7.trans a7, b8.trans a8⟩, fun a z => (b9 a z).trans (a9 a z), fun f z => (b10 f z).trans (a10 f z), fun c z => (b11 c z).trans (a11 c z)⟩
theorem RbF.up {c k : Nat} {v : Int32} (hc : 95 ≤ c ∧ c ≤ 101) (e : M' = wAI M c k v) : RbF M M' := by
  rw [e]
  exact ⟨⟨rfl, rfl, rfl, rfl⟩, ⟨rfl, rfl, rfl, rfl⟩, fun _ _ => rfl, fun _ _ => rfl, fun d hd => mAI_wAI_ne (fun z => hd (by rw [z]; exact hc))⟩
theorem RbF.wi {v : Int32} (e : M' = wI M 29 83 v) : RbF M M' := by
  rw [e]
  exact ⟨⟨rfl, rfl, rfl, rfl⟩, ⟨rfl, rfl, rfl, rfl⟩, fun a z => by funext f; rw [mI_wI, if_neg (fun q => z q.1)], fun f z => by rw [mI_wI, if_neg (fun q => z q.2)], fun _ _ => rfl⟩
theorem RbF.fix (h : RbF M M') (F : Fix M) : Fix M' := by
  have hE : mE M M' := ⟨by rw [h.1.1]; exact Nat.le_refl _, by rw [h.1.2.1]; exact Nat.le_refl _, fun a _ => ⟨by rw [h.1.2.2.1], by rw [h.1.2.2.2]⟩⟩
  exact F.of_fr (S := fun _ => True) hE (fun e he => by rw [h.2.1.2.1]) (by rw [h.2.1.2.2.1])
theorem RbF.rm (h : RbF M M') (hS : RmS R sl M) : RmS R sl M' := by
  obtain ⟨s1, s2, s3, s4, s5, s6, s7, s8, s9, s10, s11⟩ := hS
  have k := h.2.2.2.2
  refine ⟨s1, fun c y c1 c2 iy => by rw [k c (by omega)]; exact s2 c y c1 c2 iy, fun y iy => by rw [k 87 (by omega), k 88 (by omega)]; exact s3 y iy, fun c p c1 c2 p1 p2 => by rw [k c (by omega)]; exact s4 c p c1 c2 p1 p2, fun j hj => by rw [k 45 (by omega), k 46 (by omega), k 47 (by omega)]; exact s5 j hj, by rw [k 79 (by omega)]; exact s6, by rw [k 92 (by omega)]; exact s7, by rw [k 94 (by omega)]; exact s8, fun i hi => by rw [k 93 (by omega)]; exact s9 i hi, by rw [k 34 (by omega)]; exact s10, fun s hs => by rw [k 38 (by omega)]; exact s11 s hs⟩
/-- how many ifs stand before part j -/
def ifC (R : RMo) : Nat → Nat
  | 0 => 0
  | j + 1 => if moA R 58 (40 * moM R + j) = 14 then ifC R j + 1 else ifC R j
/-- fields of a beat -/
def RbI (R : RMo) (I : RIn) (M : Mem) : Prop := Fix M ∧ mI M 29 84 = Int32.ofNat (moM R) ∧ mI M 29 85 = iSet I ∧ (∀ s, s < 16 → ((mI M 29 86) >>> (Int32.ofNat s &&& 31)) &&& 1 = Int32.ofNat (iBf I s) ∧ iBf I s ≤ 1) ∧ (mI M 29 89 = 0 ↔ iFi I ≠ 1) ∧ ∀ j, j < 40 → ((mI M 29 88) >>> (Int32.ofNat (ifC R j) &&& 31)) &&& 1 = Int32.ofNat (iTr I (40 * moM R + j)) ∧ iTr I (40 * moM R + j) ≤ 1
theorem RbF.bi (h : RbF M M') (hI : RbI R I M) : RbI R I M' := by
  obtain ⟨i1, i2, i3, i4, i5, i6⟩ := hI
  have k := h.2.2.2.1
  exact ⟨h.fix i1, by rw [k 84 (by decide)]; exact i2, by rw [k 85 (by decide)]; exact i3, fun s hs => by rw [k 86 (by decide)]; exact i4 s hs, by rw [k 89 (by decide)]; exact i5, fun j hj => by rw [k 88 (by decide)]; exact i6 j hj⟩
theorem RSv.rm (h : RSv R ρ M) (k : ∀ c, 95 ≤ c → c ≤ 100 → mAI M' c = mAI M c) : RSv R ρ M' := by
  obtain ⟨v1, v2, v3, v4, v5⟩ := h
  exact ⟨v1, v2, fun c y hc iy => by rw [k (95 + c) (by omega) (by omega)]; exact v3 c y hc iy, fun y n iy hn => by rw [k 99 (by omega) (by omega)]; exact v4 y n iy hn, fun s hs => by rw [k 100 (by omega) (by omega)]; exact v5 s hs⟩
theorem R_k (hS : RmS R sl M) (hI : RbI R I M) (hV : RSv R ρ M) (hy : inR R y) (hn : n < moC R) (H : Q (some (.int (Int32.ofNat (ρ (4, y, n))))) M) : E (h + 1) mdX11_k [.ref 29, .int (Int32.ofNat y), .int (Int32.ofNat n)] M Q := by
  obtain ⟨b1, b2, b3⟩ := hy.b hS
  have c20 := hS.1.2.2.2.2.1
  have F := hI.1
  refine KX11_k ?_
  unfold DX11_k_0
  rw [hI.2.1, ix700 b3 (by omega), ix24, lt32 (by omega)]
  refine ⟨ok29 F, 99, rf29_81 F, ok99 F, by rw [ln99 F]; exact vp_of (by omega) (by decide), ?_⟩
  rw [hV.2.2.2.1 y n hy hn]
  exact H
/-- the children one after the other -/
theorem kid_ix (hS : RmS R sl M) (hy : inR R y) : mAI M 82 y = (if moG R y = [] then -1 else Int32.ofNat ((moG R y).getD 0 0)) ∧ ∀ i, i < (moG R y).length → inR R ((moG R y).getD i 0) ∧ mAI M 84 ((moG R y).getD i 0) = if i + 1 < (moG R y).length then Int32.ofNat ((moG R y).getD (i + 1) 0) else -1 := by
  obtain ⟨⟨h4, hG, -⟩, s2, -⟩ := hS
  obtain ⟨⟨m4, s7⟩, g1, -⟩ := id hG
  obtain ⟨⟨l1, -, l3, l4, l5⟩, -, l6⟩ := g1 y hy.1 hy.2
  refine ⟨?_, fun i hi => ?_⟩
  · rw [s2 82 y (by decide) (by decide) hy, l1]
    cases moG R y with
    | nil => rw [if_pos rfl]; rfl
    | cons a t => rw [if_neg (by simp)]; rfl
  · have iz : inR R ((moG R y).getD i 0) := l6 _ (gd_in hi)
    refine ⟨iz, ?_⟩
    rw [s2 84 _ (by decide) (by decide) iz]
    by_cases z : i + 1 < (moG R y).length
    · rw [if_pos z]; exact (l3 i z).1
    · rw [if_neg z]
      have ne : moG R y ≠ [] := fun e => by rw [e] at hi; exact absurd hi (Nat.not_lt_zero _)
      have q := (l5 ne).1
      have e : (moG R y).getLastD 0 = (moG R y).getD i 0 := by
        rw [List.getLastD_eq_getLast?, List.getLast?_eq_getElem?, show (moG R y).length - 1 = i by omega, List.getD_eq_getElem?_getD]
      rw [e] at q
      exact q
theorem R_orOf (hS : RmS R sl M) (hI : RbI R I M) (hV : RSv R ρ M) (hy : inR R y) (hn : n < moC R) (H : Q (some (.int (Int32.ofNat (orR R ρ y n)))) M) : E (h + 2) mdX11_orOf [.ref 29, .int (Int32.ofNat y), .int (Int32.ofNat n)] M Q := by
  obtain ⟨b1, b2, b3⟩ := hy.b hS
  have F := hI.1
  obtain ⟨k0, k1⟩ := kid_ix hS hy
  have main : ∀ (d i : Nat), i + d = (moG R y).length → T (h + 2) mdX11_orOf 10 [(0, .ref 29), (2, .int (Int32.ofNat n)), (3, .int (Int32.ofNat (oI (fun i => ρ (4, (moG R y).getD i 0, n)) i))), (4, .int (if i < (moG R y).length then Int32.ofNat ((moG R y).getD i 0) else -1))] [] M Q := by
    intro d
    induction d with
    | zero =>
      intro i hd
      rw [if_neg (by omega)]
      refine VX11_orOf_10 (h := h + 1) ?_
      unfold DX11_orOf_10
      refine ⟨fun _ => ?_, fun z => absurd rfl z⟩
      unfold orR at H
      rw [show (moG R y).length = i by omega] at H
      exact H
    | succ d ih =>
      intro i hd
      have hi : i < (moG R y).length := by omega
      obtain ⟨iz, nx⟩ := k1 i hi
      obtain ⟨z1, z2, z3⟩ := iz.b hS
      rw [if_pos hi]
      refine VX11_orOf_10 (h := h + 1) ?_
      unfold DX11_orOf_10
      rw [lt32 (show (moG R y).getD i 0 < 2147483648 by omega)]
      refine ⟨fun z => absurd z (nm32 (by omega)), fun _ => ⟨ok29 F, R_k (h := h) hS hI hV iz hn (fun _ => ⟨_, rfl, R_either (h := h) (oI_le _) (hV.1 _) (fun _ => ⟨_, rfl, 84, rf29_66 F, ok84 F, by rw [ln84 F]; exact vp_of (by omega) (by decide), ?_⟩)⟩)⟩⟩
      rw [nx]
      exact ih (i + 1) (by omega)
  refine KX11_orOf (h := h + 1) ?_
  unfold DX11_orOf_0
  rw [lt32 (show y < 2147483648 by omega)]
  refine ⟨ok29 F, 82, rf29_64 F, ok82 F, by rw [ln82 F]; exact vp_of (by omega) (by decide), ?_⟩
  have q := main (moG R y).length 0 (by omega)
  rw [k0]
  by_cases z : moG R y = []
  · rw [z] at q ⊢
    exact q
  · have : 0 < (moG R y).length := List.length_pos_iff.mpr z
    rw [if_pos this] at q
    rw [if_neg z]
    exact q
theorem R_allOf (hS : RmS R sl M) (hI : RbI R I M) (hV : RSv R ρ M) (hy : inR R y) (hn : n < moC R) (H : Q (some (.int (Int32.ofNat (alF R I ρ y n (moG R y).length)))) M) : E (h + 3) mdX11_allOf [.ref 29, .int (Int32.ofNat y), .int (Int32.ofNat n)] M Q := by
  obtain ⟨b1, b2, b3⟩ := hy.b hS
  have F := hI.1
  have c20 := hS.1.2.2.2.2.1
  obtain ⟨k0, k1⟩ := kid_ix hS hy
  have al_le : ∀ i, alF R I ρ y n i ≤ 2 := fun i => by
    cases i with
    | zero => exact oI_le _
    | succ i => exact v3A_le _ _
  have rs_le : ∀ c, rsR R I ρ y c ≤ 2 := fun c => v3A_le _ _
  have rc_le : ∀ (st : Nat) (f : Nat → Nat) (k : Nat), st ≤ 2 → rcV st f k ≤ 2 := fun st f k hst => by
    cases k with
    | zero => exact hst
    | succ k => exact v3O_le _ _
  have ly : (Int32.ofNat y).toNatClampNeg = y := lt32 (by omega)
  have nx32 : ∀ i, (if i < (moG R y).length then Int32.ofNat ((moG R y).getD i 0) else -1) = (if i < (moG R y).length then Int32.ofNat ((moG R y).getD i 0) else (-1 : Int32)) := fun _ => rfl
  have main : ∀ (d i : Nat), i + d = (moG R y).length → T (h + 3) mdX11_allOf 15 [(0, .ref 29), (1, .int (Int32.ofNat y)), (2, .int (Int32.ofNat n)), (3, .int (Int32.ofNat (alF R I ρ y n i))), (4, .int (if i < (moG R y).length then Int32.ofNat ((moG R y).getD i 0) else -1))] [] M Q := by
    intro d
    induction d with
    | zero =>
      intro i hd
      rw [if_neg (by omega)]
      refine VX11_allOf_15 (h := h + 2) ?_
      unfold DX11_allOf_15
      refine ⟨fun _ => ?_, fun z => absurd rfl z⟩
      rw [show (moG R y).length = i by omega] at H
      exact H
    | succ d ih =>
      intro i hd
      have hi : i < (moG R y).length := by omega
      obtain ⟨iz, nx⟩ := k1 i hi
      obtain ⟨z1, z2, z3⟩ := iz.b hS
      obtain ⟨c, ec⟩ : ∃ c, c = (moG R y).getD i 0 := ⟨_, rfl⟩
      rw [← ec] at iz nx z1 z2 z3
      have lc : (Int32.ofNat c).toNatClampNeg = c := lt32 (by omega)
      -- the codes of the child
      have inn : ∀ (e j : Nat), j + e = n + 1 → T (h + 3) mdX11_allOf 74 [(0, .ref 29), (1, .int (Int32.ofNat y)), (2, .int (Int32.ofNat n)), (3, .int (Int32.ofNat (alF R I ρ y n i))), (4, .int (Int32.ofNat c)), (5, .int (Int32.ofNat (rcV (rsR R I ρ y c) (fun j => ρ (4, c, j)) j))), (6, .int (Int32.ofNat j))] [] M Q := by
        intro e
        induction e with
        | zero =>
          intro j hj
          have ej : j = n + 1 := by omega
          refine VX11_allOf_74 (h := h + 2) ?_
          unfold DX11_allOf_74
          rw [lc]
          refine ⟨fun _ => R_both (h := h + 1) (al_le i) (rc_le _ _ _ (rs_le _)) (fun _ => ⟨_, rfl, ok29 F, 84, rf29_66 F, ok84 F, by rw [ln84 F]; exact vp_of (by omega) (by decide), ?_⟩), fun z => absurd ((ltn32 (by omega) (by omega)).mpr (by omega)) z⟩
          rw [nx, ej]
          have q := ih (i + 1) (by omega)
          have e1 : alF R I ρ y n (i + 1) = v3A (alF R I ρ y n i) (rcV (rsR R I ρ y c) (fun j => ρ (4, c, j)) (n + 1)) := by rw [ec]; rfl
          rw [e1] at q
          exact q
        | succ e ihe =>
          intro j hj
          refine VX11_allOf_74 (h := h + 2) ?_
          unfold DX11_allOf_74
          refine ⟨fun z => ?_, fun _ => ⟨ok29 F, R_k (h := h + 1) hS hI hV iz (by omega) (fun _ => ⟨_, rfl, R_either (h := h + 1) (rc_le _ _ _ (rs_le _)) (hV.1 _) (fun _ => ⟨_, rfl, ?_⟩)⟩)⟩⟩
          · have := (ltn32 (by omega) (by omega)).mp z
            omega
          · rw [succ32]
            exact ihe (j + 1) (by omega)
      have st := inn (n + 1) 0 (by omega)
      have e0 : rcV (rsR R I ρ y c) (fun j => ρ (4, c, j)) 0 = rsR R I ρ y c := rfl
      rw [e0, rsR_if hV.1] at st
      rw [if_pos hi, ← ec]
      refine VX11_allOf_15 (h := h + 2) ?_
      unfold DX11_allOf_15 DX11_allOf_68 DX11_allOf_69
      rw [ly, lc, hI.2.2.1, hI.2.1, ix700 b3 (by omega), lt32 (show y - 700 * moM R < 2147483648 by omega)]
      have m1 := (hS.2.2.1 y hy).1
      have m2 := (hS.2.2.1 c iz).1
      have vy : vp_in (Int32.ofNat y) (mL M 87) := by rw [ln87 F]; exact vp_of (by omega) (by decide)
      have vc : vp_in (Int32.ofNat c) (mL M 87) := by rw [ln87 F]; exact vp_of (by omega) (by decide)
      refine ⟨fun z => absurd z (nm32 (by omega)), fun _ => ⟨ok29 F, 87, rf29_69 F, ok87 F, vy, fun z => ?_, fun z => ⟨87, rf29_69 F, ok87 F, vc, fun z2 => ?_, fun z2 => ⟨96, rf29_78 F, ok96 F, by rw [ln96 F]; exact vp_of (by omega) (by decide), ?_⟩⟩⟩⟩
      · rw [m1] at z
        rw [if_neg (fun q => q.1 z)] at st
        exact st
      · rw [m2] at z2
        rw [if_neg (fun q => z2 q.2)] at st
        exact st
      · rw [m1] at z
        rw [m2] at z2
        rw [if_pos ⟨z, z2⟩] at st
        rw [hV.2.2.1 1 y (by decide) hy]
        exact st
  refine KX11_allOf (h := h + 2) ?_
  unfold DX11_allOf_0
  rw [ly]
  refine ⟨ok29 F, R_orOf (h := h) hS hI hV hy hn (fun _ => ⟨_, rfl, 82, rf29_64 F, ok82 F, by rw [ln82 F]; exact vp_of (by omega) (by decide), ?_⟩)⟩
  have q := main (moG R y).length 0 (by omega)
  rw [k0]
  by_cases z : moG R y = []
  · rw [z] at q ⊢
    exact q
  · have : 0 < (moG R y).length := List.length_pos_iff.mpr z
    rw [if_pos this] at q
    rw [if_neg z]
    exact q
end
end
section
/-! conditions worked by the reference -/
section
variable {sv bv : Nat → Nat} {Y : List Cd}
theorem cvL_at {k : Nat} (hk : k < Y.length) (h2 : 2 ≤ (Y.getD k cd0).1 → (Y.getD k cd0).2.1 < k) (h3 : 3 ≤ (Y.getD k cd0).1 → (Y.getD k cd0).2.2 < k) : (cvL sv bv Y).getD k 0 = cvD sv bv (cvL sv bv Y) (Y.getD k cd0) := by
  obtain ⟨d, ed⟩ : ∃ d, d = Y.getD k cd0 := ⟨_, rfl⟩
  rw [← ed] at h2 h3 ⊢
  have eY : Y = Y.take k ++ [d] ++ Y.drop (k + 1) := by
    rw [List.append_assoc]
    have e1 : [d] ++ Y.drop (k + 1) = Y.drop k := by
      rw [List.drop_eq_getElem_cons hk, ed, List.getD_eq_getElem?_getD, List.getElem?_eq_getElem hk]
      rfl
    rw [e1, List.take_append_drop]
  obtain ⟨t, et⟩ := cvL_pre (sv := sv) (bv := bv) (Y.drop (k + 1)) (Y.take k ++ [d])
  rw [← eY, cvL_app] at et
  have ln : (cvL sv bv (Y.take k)).length = k := by rw [cvL_len, List.length_take]; omega
  have at1 : ∀ j, j < k → (cvL sv bv Y).getD j 0 = (cvL sv bv (Y.take k)).getD j 0 := fun j hj => by
    rw [et, List.append_assoc, gdA (by omega)]
  have at2 : (cvL sv bv Y).getD k 0 = cvD sv bv (cvL sv bv (Y.take k)) d := by
    rw [et, List.append_assoc]
    have q := gdB (Y := cvL sv bv (Y.take k)) (V := t) (d := cvD sv bv (cvL sv bv (Y.take k)) d) (d0 := 0)
    rw [ln] at q
    exact q
  rw [at2]
  unfold cvD
  by_cases e0 : d.1 = 0
  · rw [if_pos e0, if_pos e0]
  rw [if_neg e0, if_neg e0]
  by_cases e1 : d.1 = 1
  · rw [if_pos e1, if_pos e1]
  rw [if_neg e1, if_neg e1]
  rw [at1 d.2.1 (h2 (by omega))]
  by_cases e2 : d.1 = 2
  · rw [if_pos e2, if_pos e2]
  rw [if_neg e2, if_neg e2, at1 d.2.2 (h3 (by omega))]
theorem cvF_le (h1 : ∀ s, sv s ≤ 2) (h2 : ∀ s, bv s ≤ 2) : ∀ (Y : List Cd) (V : List Nat), (∀ k, V.getD k 0 ≤ 2) → ∀ k, (Y.foldl (fun V d => V ++ [cvD sv bv V d]) V).getD k 0 ≤ 2
  | [], _, hV, k => hV k
  | d :: Y, V, hV, k => by
    refine cvF_le h1 h2 Y (V ++ [cvD sv bv V d]) (fun j => ?_) k
    by_cases z : j < V.length
    · rw [gdA z]; exact hV j
    · obtain ⟨q, eq⟩ : ∃ q, j = V.length + q := ⟨j - V.length, by omega⟩
      rw [eq, gdC]
      cases q with
      | zero =>
        show cvD sv bv V d ≤ 2
        unfold cvD
        by_cases e0 : d.1 = 0
        · rw [if_pos e0]; exact h1 _
        rw [if_neg e0]
        by_cases e1 : d.1 = 1
        · rw [if_pos e1]; exact h2 _
        rw [if_neg e1]
        by_cases e2 : d.1 = 2
        · rw [if_pos e2]; exact v3N_le _
        rw [if_neg e2]
        by_cases e3 : d.1 = 3
        · rw [if_pos e3]; exact v3A_le _ _
        · rw [if_neg e3]; exact v3O_le _ _
      | succ q => exact Nat.zero_le _
theorem cvL_le (h1 : ∀ s, sv s ≤ 2) (h2 : ∀ s, bv s ≤ 2) (k : Nat) : (cvL sv bv Y).getD k 0 ≤ 2 := cvF_le h1 h2 Y [] (fun _ => Nat.zero_le _) k
end
/-- part p has the condition f .. c -/
def CdR (R : RMo) (p f c : Nat) : Prop := (40 * moM R ≤ p ∧ p < 40 * moM R + 40) ∧ f ≤ c ∧ c < (moY R).length ∧ moA R 62 p = Int32.ofNat (410 * moM R + f) ∧ moA R 63 p = Int32.ofNat (410 * moM R + c) ∧ WcR (moQ R) (moY R) f c
section
variable {R : RMo} {I : RIn} {sl : List Nat} {ρ : Plc → Nat} {M M1 M' : Mem} {h p f c : Nat} {Q : Option Value → Mem → Prop}
theorem ArF.rb {S : Nat → Prop} (h : ArF S M M') (hs : ∀ c, S c → 95 ≤ c ∧ c ≤ 101) : RbF M M' := ⟨h.1, ⟨h.2.1.2.1, h.2.1.2.2.1, h.2.1.2.2.2⟩, fun a _ => by rw [h.2.1.1], fun g _ => by rw [h.2.1.1], fun c hc => h.2.2 c (fun z => hc (hs c z))⟩
theorem cnd_at (hC : CdR R p f c) (h4 : moM R < 4) (h41 : (moY R).length ≤ 410) : cndR R I ρ p = (cvL (fun s => ρ (5, s, 0)) (iBf I) (moY R)).getD c 0 := by
  obtain ⟨-, -, h2, -, h3, -⟩ := hC
  unfold cndR
  rw [h3, lt32 (by omega), show 410 * moM R + c - 410 * moM R = c by omega]
theorem R_cond (hS : RmS R sl M) (hI : RbI R I M) (hb : ∀ s, iBf I s ≤ 1) (hV : RSv R ρ M) (hC : CdR R p f c) (H : ∀ M', ArF (fun c => c = 101) M M' → Q (some (.int (Int32.ofNat (cndR R I ρ p)))) M') : E (h + 2) mdX11_condValue [.ref 29, .int (Int32.ofNat p)] M Q := by
  obtain ⟨⟨h4, hG, q16, c3, c20, y41⟩, -, -, sA, sY, -⟩ := id hS
  rw [cnd_at (I := I) (ρ := ρ) hC h4 y41] at H
  obtain ⟨⟨p1, p2⟩, fc, cl, a62, a63, wc⟩ := hC
  obtain ⟨cv, ecv⟩ : ∃ cv, cv = cvL (fun s => ρ (5, s, 0)) (iBf I) (moY R) := ⟨_, rfl⟩
  rw [← ecv] at H
  have le : ∀ k, cv.getD k 0 ≤ 2 := fun k => by rw [ecv]; exact cvL_le (fun s => hV.1 _) (fun s => by have := hb s; omega) k
  have lp : (Int32.ofNat p).toNatClampNeg = p := lt32 (by omega)
  have main : ∀ (d k : Nat) (M1 : Mem), k + d = c + 1 → f ≤ k → ArF (fun c => c = 101) M M1 → (∀ j, f ≤ j → j < k → mAI M1 101 (410 * moM R + j) = Int32.ofNat (cv.getD j 0)) → T (h + 2) mdX11_condValue 7 [(0, .ref 29), (1, .int (Int32.ofNat p)), (2, .int (Int32.ofNat (410 * moM R + k)))] [] M1 Q := by
    intro d
    induction d with
    | zero =>
      intro k M1 hd fk A1 hk
      have F1 : Fix M1 := (A1.rb (fun c z => by omega)).fix hI.1
      have r63 : mAI M1 63 p = Int32.ofNat (410 * moM R + c) := by rw [A1.2.2 63 (by decide), sA 63 p (by decide) (by decide) p1 p2]; exact a63
      refine VX11_condValue_7 (h := h + 1) ?_
      unfold DX11_condValue_7
      rw [lp, lt32 (show 410 * moM R + k < 2147483648 by omega)]
      refine ⟨ok29 F1, 63, rf29_43 F1, ok63 F1, by rw [ln63 F1]; exact vp_of (by omega) (by decide), ?_⟩
      rw [r63]
      refine ⟨fun _ => ⟨101, rf29_90 F1, 63, rf29_43 F1, ok63 F1, by rw [ln63 F1]; exact vp_of (by omega) (by decide), ok101 F1, ?_⟩, fun z => absurd ((ltn32 (by omega) (by omega)).mpr (by omega)) z⟩
      rw [r63, lt32 (show 410 * moM R + c < 2147483648 by omega), hk c fc (by omega)]
      exact ⟨by rw [ln101 F1]; exact vp_of (by omega) (by decide), H M1 A1⟩
    | succ d ih =>
      intro k M1 hd fk A1 hk
      have kc : k ≤ c := by omega
      have kl : k < (moY R).length := by omega
      have rb := A1.rb (fun c z => by omega)
      have F1 : Fix M1 := rb.fix hI.1
      have S1 := rb.rm hS
      have I1 := rb.bi hI
      have V1 : RSv R ρ M1 := hV.rm (fun c c1 c2 => A1.2.2 c (by omega))
      obtain ⟨s45, s46, s47⟩ := S1.2.2.2.2.1 k kl
      have r63 : mAI M1 63 p = Int32.ofNat (410 * moM R + c) := by rw [A1.2.2 63 (by decide), sA 63 p (by decide) (by decide) p1 p2]; exact a63
      obtain ⟨w4, w1, w2, w3⟩ := wc k fk kc
      have w1 : ((moY R).getD k cd0).1 ≤ 1 → ((moY R).getD k cd0).2.1 < moQ R := w1
      have w2 : 2 ≤ ((moY R).getD k cd0).1 → f ≤ ((moY R).getD k cd0).2.1 ∧ ((moY R).getD k cd0).2.1 < k := w2
      have w3 : 3 ≤ ((moY R).getD k cd0).1 → f ≤ ((moY R).getD k cd0).2.2 ∧ ((moY R).getD k cd0).2.2 < k := w3
      have w4 : ((moY R).getD k cd0).1 ≤ 4 := w4
      have at_k := cvL_at (sv := fun s => ρ (5, s, 0)) (bv := iBf I) kl (fun z => (w2 z).2) (fun z => (w3 z).2)
      rw [← ecv] at at_k
      obtain ⟨t, a, e, et⟩ : ∃ t a e, (moY R).getD k cd0 = (t, a, e) := ⟨_, _, _, rfl⟩
      rw [et] at s45 s46 s47 w1 w2 w3 w4 at_k
      have s45 : mAI M1 45 (410 * moM R + k) = Int32.ofNat t := s45
      have w1 : t ≤ 1 → a < moQ R := w1
      have w2 : 2 ≤ t → f ≤ a ∧ a < k := w2
      have w3 : 3 ≤ t → f ≤ e ∧ e < k := w3
      have w4 : t ≤ 4 := w4
      have lk : (Int32.ofNat (410 * moM R + k)).toNatClampNeg = 410 * moM R + k := lt32 (by omega)
      have vk : ∀ {z : Nat}, z = 1640 → vp_in (Int32.ofNat (410 * moM R + k)) z := fun ez => by rw [ez]; exact vp_of (by omega) (by decide)
      -- the node's value is written
      have fin : ∀ (x : Int32) (M2 : Mem), x = Int32.ofNat (cv.getD k 0) → M2 = wAI M1 101 (410 * moM R + k) x → DX11_condValue_182 (h + 1) 29 (Int32.ofNat p) (Int32.ofNat (410 * moM R + k)) M2 Q := fun x M2 ex e2 => by
        unfold DX11_condValue_182
        rw [succ32, show 410 * moM R + k + 1 = 410 * moM R + (k + 1) by omega]
        refine ih (k + 1) M2 (by omega) (by omega) (A1.tr (ArF.up rfl e2)) (fun j j1 j2 => ?_)
        rw [e2, mAI_wAI]
        by_cases z : j = k
        · rw [if_pos ⟨rfl, by rw [z]⟩, z]; exact ex
        · rw [if_neg (fun q => z (by omega))]; exact hk j j1 (by omega)
      refine VX11_condValue_7 (h := h + 1) ?_
      unfold DX11_condValue_7
      rw [lp, lk]
      refine ⟨ok29 F1, 63, rf29_43 F1, ok63 F1, by rw [ln63 F1]; exact vp_of (by omega) (by decide), ?_⟩
      rw [r63]
      refine ⟨fun z => ?_, fun _ => ⟨45, rf29_21 F1, ok45 F1, vk (ln45 F1), ?_⟩⟩
      · have := (ltn32 (by omega) (by omega)).mp z
        omega
      rw [s45]
      have i46 : ∀ {z : Nat}, 2 ≤ t → z = 1640 → mAI M1 46 (410 * moM R + k) = Int32.ofNat (410 * moM R + a) ∧ (Int32.ofNat (410 * moM R + a)).toNatClampNeg = 410 * moM R + a ∧ vp_in (Int32.ofNat (410 * moM R + a)) z ∧ mAI M1 101 (410 * moM R + a) = Int32.ofNat (cv.getD a 0) := fun {z} ht ez => by
        obtain ⟨a1, a2⟩ := w2 ht
        refine ⟨by rw [s46]; unfold ya; rw [if_neg (show ¬ t < 2 by omega)], lt32 (by omega), by rw [ez]; exact vp_of (by omega) (by decide), hk a a1 a2⟩
      have i47 : ∀ {z : Nat}, 3 ≤ t → z = 1640 → mAI M1 47 (410 * moM R + k) = Int32.ofNat (410 * moM R + e) ∧ (Int32.ofNat (410 * moM R + e)).toNatClampNeg = 410 * moM R + e ∧ vp_in (Int32.ofNat (410 * moM R + e)) z ∧ mAI M1 101 (410 * moM R + e) = Int32.ofNat (cv.getD e 0) := fun {z} ht ez => by
        obtain ⟨a1, a2⟩ := w3 ht
        refine ⟨by rw [s47]; unfold yb; rw [if_neg (show ¬ t ≤ 2 by omega)], lt32 (by omega), by rw [ez]; exact vp_of (by omega) (by decide), hk e a1 a2⟩
      have : t = 0 ∨ t = 1 ∨ t = 2 ∨ t = 3 ∨ t = 4 := by omega
      rcases this with z | z | z | z | z
      · subst z
        have aq := w1 (by decide)
        have e46 : mAI M1 46 (410 * moM R + k) = Int32.ofNat a := by rw [s46]; rfl
        refine ⟨fun _ => ⟨101, rf29_90 F1, 100, rf29_82 F1, 46, rf29_22 F1, ok46 F1, vk (ln46 F1), ok100 F1, ?_⟩, fun q => absurd q (by decide), fun q => absurd q (by decide), fun q => absurd q (by decide), fun q => absurd q (by decide)⟩
        rw [e46, lt32 (show a < 2147483648 by omega), V1.2.2.2.2 a aq]
        exact ⟨by rw [ln100 F1]; exact vp_of (by omega) (by decide), ok101 F1, vk (ln101 F1), fun M16 e16 => fin _ M16 (by rw [at_k]; rfl) e16⟩
      · subst z
        have aq := w1 (by decide)
        have e46 : mAI M1 46 (410 * moM R + k) = Int32.ofNat a := by rw [s46]; rfl
        refine ⟨fun q => absurd q (by decide), fun _ => ⟨101, rf29_90 F1, 46, rf29_22 F1, ok46 F1, vk (ln46 F1), ok101 F1, vk (ln101 F1), fun M21 e21 => fin _ M21 ?_ e21⟩, fun q => absurd q (by decide), fun q => absurd q (by decide), fun q => absurd q (by decide)⟩
        rw [e46, (I1.2.2.2.1 a (by omega)).1, at_k]
        rfl
      · subst z
        obtain ⟨g1, g2, g3, g4⟩ := i46 (by decide) (ln101 F1)
        refine ⟨fun q => absurd q (by decide), fun q => absurd q (by decide), fun _ => ⟨101, rf29_90 F1, 101, rf29_90 F1, 46, rf29_22 F1, ok46 F1, vk (ln46 F1), ok101 F1, ?_⟩, fun q => absurd q (by decide), fun q => absurd q (by decide)⟩
        rw [g1, g2, g4]
        exact ⟨g3, R_other (h := h) (le _) (fun _ => ⟨_, rfl, ok101 F1, vk (ln101 F1), fun M30 e30 => fin _ M30 (by rw [at_k]; rfl) e30⟩)⟩
      · subst z
        obtain ⟨g1, g2, g3, g4⟩ := i46 (by decide) (ln101 F1)
        obtain ⟨k1, k2, k3, k4⟩ := i47 (by decide) (ln101 F1)
        refine ⟨fun q => absurd q (by decide), fun q => absurd q (by decide), fun q => absurd q (by decide), fun _ => ⟨101, rf29_90 F1, 101, rf29_90 F1, 46, rf29_22 F1, ok46 F1, vk (ln46 F1), ok101 F1, ?_⟩, fun q => absurd q (by decide)⟩
        rw [g1, g2, g4]
        refine ⟨g3, 101, rf29_90 F1, 47, rf29_23 F1, ok47 F1, vk (ln47 F1), ok101 F1, ?_⟩
        rw [k1, k2, k4]
        exact ⟨k3, R_both (h := h) (le _) (le _) (fun _ => ⟨_, rfl, ok101 F1, vk (ln101 F1), fun M43 e43 => fin _ M43 (by rw [at_k]; rfl) e43⟩)⟩
      · subst z
        obtain ⟨g1, g2, g3, g4⟩ := i46 (by decide) (ln101 F1)
        obtain ⟨k1, k2, k3, k4⟩ := i47 (by decide) (ln101 F1)
        refine ⟨fun q => absurd q (by decide), fun q => absurd q (by decide), fun q => absurd q (by decide), fun q => absurd q (by decide), fun _ => ⟨101, rf29_90 F1, 101, rf29_90 F1, 46, rf29_22 F1, ok46 F1, vk (ln46 F1), ok101 F1, ?_⟩⟩
        rw [g1, g2, g4]
        refine ⟨g3, 101, rf29_90 F1, 47, rf29_23 F1, ok47 F1, vk (ln47 F1), ok101 F1, ?_⟩
        rw [k1, k2, k4]
        exact ⟨k3, R_either (h := h) (le _) (le _) (fun _ => ⟨_, rfl, ok101 F1, vk (ln101 F1), fun M56 e56 => fin _ M56 (by rw [at_k]; rfl) e56⟩)⟩
  refine KX11_condValue (h := h + 1) ?_
  unfold DX11_condValue_0
  rw [lp]
  have F := hI.1
  have r62 : mAI M 62 p = Int32.ofNat (410 * moM R + f) := by rw [sA 62 p (by decide) (by decide) p1 p2]; exact a62
  refine ⟨ok29 F, 62, rf29_42 F, ok62 F, by rw [ln62 F]; exact vp_of (by omega) (by decide), ?_⟩
  rw [r62]
  exact main (c + 1 - f) f M (by omega) (Nat.le_refl _) ArF.rf (fun j j1 j2 => by omega)
end
end
section
/-! a node's codes, worked by the reference -/
/-- what is known of the reference's nodes -/
def NdL (R : RMo) : Prop := ∀ y, inR R y → (∃ t, t ≤ 10 ∧ (moS R).2 80 y = Int32.ofNat t) ∧ ((moS R).2 80 y = 5 ∨ (moS R).2 80 y = 1 → ∃ j, j < 40 ∧ (moS R).2 81 y = Int32.ofNat (40 * moM R + j)) ∧ ((moS R).2 80 y = 4 ∨ (moS R).2 80 y = 8 → ∃ j f c, j < 40 ∧ (moS R).2 81 y = Int32.ofNat (40 * moM R + j) ∧ CdR R (40 * moM R + j) f c) ∧ ((moS R).2 80 y = 1 → ∃ s, s < moQ R ∧ moA R 60 ((moS R).2 81 y).toNatClampNeg = Int32.ofNat s) ∧ ((moS R).2 80 y = 4 ∨ (moS R).2 80 y = 5 ∨ (moS R).2 80 y = 6 ∨ (moS R).2 80 y = 7 ∨ (moS R).2 80 y = 8 ∨ (moS R).2 80 y = 10 → moG R y ≠ [])
section
variable {R : RMo} {I : RIn} {sl : List Nat} {ρ : Plc → Nat} {M M1 M' : Mem} {h y n j : Nat} {Q : Option Value → Mem → Prop}
theorem ifC_le : ∀ j, ifC R j ≤ j
  | 0 => Nat.le_refl _
  | j + 1 => by
    have := ifC_le j
    show (if moA R 58 (40 * moM R + j) = 14 then ifC R j + 1 else ifC R j) ≤ j + 1
    split <;> omega
theorem R_ifAt (hS : RmS R sl M) (hI : RbI R I M) (hj : j < 40) (H : Q (some (.int (Int32.ofNat (iTr I (40 * moM R + j))))) M) : E (h + 1) mdX11_ifAt [.ref 29, .int (Int32.ofNat (40 * moM R + j))] M Q := by
  have h4 := hS.1.1
  have F := hI.1
  have main : ∀ (d k : Nat), k + d = j → T (h + 1) mdX11_ifAt 10 [(0, .ref 29), (1, .int (Int32.ofNat (40 * moM R + j))), (2, .int (Int32.ofNat (ifC R k))), (3, .int (Int32.ofNat (40 * moM R + k)))] [] M Q := by
    intro d
    induction d with
    | zero =>
      intro k hk
      have ek : k = j := by omega
      refine VX11_ifAt_10 ?_
      unfold DX11_ifAt_10
      rw [ek]
      refine ⟨fun _ => ⟨ok29 F, ?_⟩, fun z => absurd Int32.le_rfl z⟩
      rw [(hI.2.2.2.2.2 j hj).1]
      exact H
    | succ d ih =>
      intro k hk
      refine VX11_ifAt_10 ?_
      unfold DX11_ifAt_10 DX11_ifAt_32
      rw [lt32 (show 40 * moM R + k < 2147483648 by omega)]
      refine ⟨fun z => ?_, fun _ => ⟨ok29 F, 58, rf29_38 F, ok58 F, by rw [ln58 F]; exact vp_of (by omega) (by decide), ?_⟩⟩
      · have := (le32 (by omega) (by omega)).mp z
        omega
      rw [hS.2.2.2.1 58 (40 * moM R + k) (by decide) (by decide) (by omega) (by omega), succ32, show 40 * moM R + k + 1 = 40 * moM R + (k + 1) by omega]
      have q := ih (k + 1) (by omega)
      have e : ifC R (k + 1) = if moA R 58 (40 * moM R + k) = 14 then ifC R k + 1 else ifC R k := rfl
      rw [e] at q
      refine ⟨fun z => ?_, fun z => ?_⟩
      · rw [if_neg z] at q
        have e0 : Int32.ofNat (ifC R k) + 0 = Int32.ofNat (ifC R k) := Int32.add_zero _
        rw [e0]
        exact q
      · rw [if_pos z] at q
        rw [succ32]
        exact q
  refine KX11_ifAt ?_
  unfold DX11_ifAt_0
  have e40 : (40 : Int32) * Int32.ofNat (moM R) = Int32.ofNat (40 * moM R) := by rw [Int32.ofNat_mul]; rfl
  rw [hI.2.1, e40]
  exact ⟨ok29 F, main j 0 (by omega)⟩
theorem lok_le (hS : RmS R sl M) (hI : RbI R I M) (hb : ∀ s, iBf I s ≤ 1) (hV : RSv R ρ M) (hL : NdL R) (hy : inR R y) : lokR R I ρ y ≤ 2 := by
  unfold lokR
  by_cases z : (moS R).2 80 y = 5
  · rw [if_pos z]
    obtain ⟨j, j1, j2⟩ := (hL y hy).2.1 (Or.inl z)
    have h4 := hS.1.1
    rw [j2, lt32 (by omega)]
    have := (hI.2.2.2.2.2 j j1).2
    omega
  · rw [if_neg z]
    exact cvL_le (fun s => hV.1 _) (fun s => by have := hb s; omega) _
/-- what a choice or a suspension looks at -/
theorem R_lok (hS : RmS R sl M) (hI : RbI R I M) (hb : ∀ s, iBf I s ≤ 1) (hV : RSv R ρ M) (hL : NdL R) (hy : inR R y) (h48 : (moS R).2 80 y = 4 ∨ (moS R).2 80 y = 8) (H : ∀ M', ArF (fun c => c = 101) M M' → Q (some (.int (Int32.ofNat (lokR R I ρ y)))) M') : E (h + 2) mdX11_condValue [.ref 29, .int (mAI M 81 y)] M Q := by
  obtain ⟨j, f, c, j1, j2, j3⟩ := (hL y hy).2.2.1 h48
  have h4 := hS.1.1
  have e : lokR R I ρ y = cndR R I ρ (40 * moM R + j) := by
    unfold lokR
    rw [if_neg (show ¬ (moS R).2 80 y = 5 by rcases h48 with z | z <;> rw [z] <;> decide), j2, lt32 (by omega)]
  rw [e] at H
  rw [hS.2.1 81 y (by decide) (by decide) hy, j2]
  exact R_cond hS hI hb hV j3 H
theorem R_lok5 (hS : RmS R sl M) (hI : RbI R I M) (hL : NdL R) (hy : inR R y) (h5 : (moS R).2 80 y = 5) (H : Q (some (.int (Int32.ofNat (lokR R I ρ y)))) M) : E (h + 1) mdX11_ifAt [.ref 29, .int (mAI M 81 y)] M Q := by
  obtain ⟨j, j1, j2⟩ := (hL y hy).2.1 (Or.inl h5)
  have h4 := hS.1.1
  have e : lokR R I ρ y = iTr I (40 * moM R + j) := by
    unfold lokR
    rw [if_pos h5, j2, lt32 (by omega)]
  rw [e] at H
  rw [hS.2.1 81 y (by decide) (by decide) hy, j2]
  exact R_ifAt hS hI j1 H
theorem R_codeV (hS : RmS R sl M) (hI : RbI R I M) (hb : ∀ s, iBf I s ≤ 1) (hV : RSv R ρ M) (hL : NdL R) (hy : inR R y) (hn : n < moC R) (H : ∀ M', ArF (fun c => c = 101) M M' → Q (some (.int (Int32.ofNat (cdR R I ρ y n)))) M') : E (h + 4) mdX11_codeValue [.ref 29, .int (Int32.ofNat y), .int (Int32.ofNat n)] M Q := by
  obtain ⟨b1, b2, b3⟩ := hy.b hS
  have c3 := hS.1.2.2.2.1
  have c20 := hS.1.2.2.2.2.1
  have F := hI.1
  obtain ⟨⟨t, t10, et⟩, -, -, -, hne⟩ := hL y hy
  obtain ⟨k0, k1⟩ := kid_ix hS hy
  have ly : (Int32.ofNat y).toNatClampNeg = y := lt32 (by omega)
  have v28 : ∀ {z : Nat}, z = 2800 → vp_in (Int32.ofNat y) z := fun e => by rw [e]; exact vp_of (by omega) (by decide)
  have v70 : ∀ {z : Nat}, z = 700 → vp_in (Int32.ofNat (y - 700 * moM R)) z := fun e => by rw [e]; exact vp_of (by omega) (by decide)
  have e80 : mAI M 80 y = Int32.ofNat t := by rw [hS.2.1 80 y (by decide) (by decide) hy, et]
  have n0_ : (Int32.ofNat n = 0) ↔ n = 0 := ⟨fun e => inj32 (a := n) (b := 0) (by omega) (by decide) e, fun e => by rw [e]; rfl⟩
  have n1_ : (Int32.ofNat n = 1) ↔ n = 1 := ⟨fun e => inj32 (a := n) (b := 1) (by omega) (by decide) e, fun e => by rw [e]; rfl⟩
  have ml := hV.1
  have lle := lok_le hS hI hb hV hL hy
  have g0 : mAI M 95 (y - 700 * moM R) = Int32.ofNat (ρ (0, y, 0)) := hV.2.2.1 0 y (by decide) hy
  have g1 : mAI M 96 (y - 700 * moM R) = Int32.ofNat (ρ (1, y, 0)) := hV.2.2.1 1 y (by decide) hy
  have m87 := (hS.2.2.1 y hy).1
  have m88 := (hS.2.2.1 y hy).2
  have fst : moG R y ≠ [] → mAI M 82 y = Int32.ofNat ((moG R y).getD 0 0) ∧ inR R ((moG R y).getD 0 0) ∧ (mAI M 84 ((moG R y).getD 0 0) = -1 ↔ (moS R).2 84 ((moG R y).getD 0 0) = -1) := fun ne => by
    have l0 : 0 < (moG R y).length := List.length_pos_iff.mpr ne
    have iz := (k1 0 l0).1
    refine ⟨by rw [k0, if_neg ne], iz, by rw [hS.2.1 84 _ (by decide) (by decide) iz]⟩
  refine KX11_codeValue (h := h + 3) ?_
  unfold DX11_codeValue_0 DX11_codeValue_411 DX11_codeValue_117 DX11_codeValue_118 DX11_codeValue_139 DX11_codeValue_215 DX11_codeValue_242 DX11_codeValue_258 DX11_codeValue_321 DX11_codeValue_396
  rw [ly, hI.2.1, ix700 b3 (by omega), lt32 (show y - 700 * moM R < 2147483648 by omega)]
  refine ⟨ok29 F, 82, rf29_64 F, ok82 F, v28 (ln82 F), 80, rf29_62 F, ok80 F, v28 (ln80 F), ?_⟩
  rw [e80, n0_, n1_]
  -- the choice's end
  have cho : (moS R).2 80 y = 4 ∨ (moS R).2 80 y = 5 → cdR R I ρ y n = (if n = 0 ∧ (moS R).2 84 ((moG R y).getD 0 0) = -1 then v3O (orR R ρ y n) (v3A (ρ (0, y, 0)) (v3N (lokR R I ρ y))) else orR R ρ y n) := fun b => by
    unfold cdR
    rw [if_neg (by rcases b with e | e <;> rw [e] <;> decide), if_neg (by rcases b with e | e <;> rw [e] <;> decide), if_pos b]
  have c204 : ∀ (M2 : Mem), ArF (fun c => c = 101) M M2 → n = 0 → (moS R).2 84 ((moG R y).getD 0 0) = -1 → (moS R).2 80 y = 4 ∨ (moS R).2 80 y = 5 → DX11_codeValue_204 (h + 3) (Int32.ofNat (orR R ρ y n)) (Int32.ofNat (ρ (0, y, 0))) (Int32.ofNat (lokR R I ρ y)) M2 Q := fun M2 A2 z0 z84 b => by
    unfold DX11_codeValue_204 DX11_codeValue_215
    refine R_other (h := h + 2) lle (fun _ => ⟨_, rfl, R_both (h := h + 2) (ml _) (v3N_le _) (fun _ => ⟨_, rfl, R_either (h := h + 2) (oI_le _) (v3A_le _ _) (fun _ => ⟨_, rfl, ?_⟩)⟩)⟩)
    have q := H M2 A2
    rw [cho b, if_pos ⟨z0, z84⟩] at q
    exact q
  have tt : t = 0 ∨ t = 1 ∨ t = 2 ∨ t = 3 ∨ t = 4 ∨ t = 5 ∨ t = 6 ∨ t = 7 ∨ t = 8 ∨ t = 9 ∨ t = 10 := by omega
  rcases tt with z | z | z | z | z | z | z | z | z | z | z
  · subst z
    refine ⟨fun q => absurd q (by decide), fun q => absurd q (by decide), fun q => absurd q (by decide), fun q => absurd q (by decide), fun q => absurd q (by decide), fun q => absurd q (by decide), fun q => absurd q (by decide), fun q => absurd q (by decide), fun q => absurd q (by decide), fun _ => ⟨fun z => ?_, fun z => ⟨95, rf29_77 F, ok95 F, v70 (ln95 F), ?_⟩⟩⟩
    · have q := H M ArF.rf
      unfold cdR at q
      rw [et, if_neg (by decide), if_neg (by decide), if_neg (by decide), if_neg (by decide), if_neg (by decide), if_neg (by decide), if_neg (by decide), if_neg (by decide), if_neg z] at q
      exact q
    · have q := H M ArF.rf
      unfold cdR at q
      rw [et, if_neg (by decide), if_neg (by decide), if_neg (by decide), if_neg (by decide), if_neg (by decide), if_neg (by decide), if_neg (by decide), if_neg (by decide), if_pos z] at q
      rw [g0]
      exact q
  · subst z
    refine ⟨fun q => absurd q (by decide), fun q => absurd q (by decide), fun q => absurd q (by decide), fun q => absurd q (by decide), fun q => absurd q (by decide), fun q => absurd q (by decide), fun q => absurd q (by decide), fun q => absurd q (by decide), fun q => absurd q (by decide), fun _ => ⟨fun z => ?_, fun z => ⟨95, rf29_77 F, ok95 F, v70 (ln95 F), ?_⟩⟩⟩
    · have q := H M ArF.rf
      unfold cdR at q
      rw [et, if_neg (by decide), if_neg (by decide), if_neg (by decide), if_neg (by decide), if_neg (by decide), if_neg (by decide), if_neg (by decide), if_neg (by decide), if_neg z] at q
      exact q
    · have q := H M ArF.rf
      unfold cdR at q
      rw [et, if_neg (by decide), if_neg (by decide), if_neg (by decide), if_neg (by decide), if_neg (by decide), if_neg (by decide), if_neg (by decide), if_neg (by decide), if_pos z] at q
      rw [g0]
      exact q
  · subst z
    have q := H M ArF.rf
    unfold cdR at q
    rw [et, if_pos (show Int32.ofNat 2 = 2 from rfl), hdV_if (ml _)] at q
    refine ⟨fun _ => ⟨fun z1 => ⟨fun z => ?_, fun z => ⟨87, rf29_69 F, ok87 F, v28 (ln87 F), fun y0 => ?_, fun y0 => ⟨96, rf29_78 F, ok96 F, v70 (ln96 F), ?_⟩⟩⟩, fun z1 => ⟨95, rf29_77 F, ok95 F, v70 (ln95 F), ?_⟩⟩, fun q => absurd q (by decide), fun q => absurd q (by decide), fun q => absurd q (by decide), fun q => absurd q (by decide), fun q => absurd q (by decide), fun q => absurd q (by decide), fun q => absurd q (by decide), fun q => absurd q (by decide), fun q => absurd q (by decide)⟩
    · rw [if_neg z1, if_neg z] at q
      exact q
    · rw [m87, hI.2.2.1] at y0
      rw [if_neg z1, if_pos z, if_pos y0] at q
      exact q
    · rw [m87, hI.2.2.1] at y0
      rw [if_neg z1, if_pos z, if_neg y0] at q
      rw [g1]
      exact q
    · rw [if_pos z1] at q
      rw [g0]
      exact q
  · subst z
    have q := H M ArF.rf
    unfold cdR at q
    rw [et, if_neg (by decide), if_pos (show Int32.ofNat 3 = 3 from rfl)] at q
    refine ⟨fun q => absurd q (by decide), fun _ => ⟨88, rf29_70 F, ok88 F, v28 (ln88 F), ?_⟩, fun q => absurd q (by decide), fun q => absurd q (by decide), fun q => absurd q (by decide), fun q => absurd q (by decide), fun q => absurd q (by decide), fun q => absurd q (by decide), fun q => absurd q (by decide), fun q => absurd q (by decide)⟩
    rw [m88]
    refine ⟨fun z => ?_, fun z => ⟨95, rf29_77 F, ok95 F, v70 (ln95 F), ?_⟩⟩
    · rw [if_neg z] at q
      exact q
    · rw [if_pos z] at q
      rw [g0]
      exact q
  · subst z
    have b : (moS R).2 80 y = 4 ∨ (moS R).2 80 y = 5 := Or.inl et
    obtain ⟨f1, f2, f3⟩ := fst (hne (Or.inl et))
    obtain ⟨w1, w2, w3⟩ := f2.b hS
    refine ⟨fun q => absurd q (by decide), fun q => absurd q (by decide), fun _ => R_orOf (h := h + 1) hS hI hV hy hn (fun _ => ⟨_, rfl, fun z => ?_, fun z => ⟨84, rf29_66 F, ok84 F, ?_⟩⟩), fun q => absurd q (by decide), fun q => absurd q (by decide), fun q => absurd q (by decide), fun q => absurd q (by decide), fun q => absurd q (by decide), fun q => absurd q (by decide), fun q => absurd q (by decide)⟩
    · have q := H M ArF.rf
      rw [cho b, if_neg (fun y => z y.1)] at q
      exact q
    · rw [f1, lt32 (show (moG R y).getD 0 0 < 2147483648 by omega)]
      refine ⟨by rw [ln84 F]; exact vp_of (by omega) (by decide), fun z2 => ?_, fun z2 => ⟨95, rf29_77 F, ok95 F, v70 (ln95 F), 80, rf29_62 F, ok80 F, v28 (ln80 F), ?_⟩⟩
      · have q := H M ArF.rf
        rw [cho b, if_neg (fun y => z2 (f3.mpr y.2))] at q
        exact q
      · rw [g0, e80]
        refine ⟨fun _ => ⟨81, rf29_63 F, ok81 F, v28 (ln81 F), R_lok (h := h + 1) hS hI hb hV hL hy (Or.inl et) (fun M2 A2 _ => ⟨_, rfl, c204 M2 A2 z (f3.mp z2) b⟩)⟩, fun q => absurd q (by decide)⟩
  · subst z
    have b : (moS R).2 80 y = 4 ∨ (moS R).2 80 y = 5 := Or.inr et
    obtain ⟨f1, f2, f3⟩ := fst (hne (Or.inr (Or.inl et)))
    obtain ⟨w1, w2, w3⟩ := f2.b hS
    refine ⟨fun q => absurd q (by decide), fun q => absurd q (by decide), fun q => absurd q (by decide), fun _ => R_orOf (h := h + 1) hS hI hV hy hn (fun _ => ⟨_, rfl, fun z => ?_, fun z => ⟨84, rf29_66 F, ok84 F, ?_⟩⟩), fun q => absurd q (by decide), fun q => absurd q (by decide), fun q => absurd q (by decide), fun q => absurd q (by decide), fun q => absurd q (by decide), fun q => absurd q (by decide)⟩
    · have q := H M ArF.rf
      rw [cho b, if_neg (fun y => z y.1)] at q
      exact q
    · rw [f1, lt32 (show (moG R y).getD 0 0 < 2147483648 by omega)]
      refine ⟨by rw [ln84 F]; exact vp_of (by omega) (by decide), fun z2 => ?_, fun z2 => ⟨95, rf29_77 F, ok95 F, v70 (ln95 F), 80, rf29_62 F, ok80 F, v28 (ln80 F), ?_⟩⟩
      · have q := H M ArF.rf
        rw [cho b, if_neg (fun y => z2 (f3.mpr y.2))] at q
        exact q
      · rw [g0, e80]
        refine ⟨fun q => absurd rfl q, fun _ => ⟨81, rf29_63 F, ok81 F, v28 (ln81 F), R_lok5 (h := h + 2) (ρ := ρ) hS hI hL hy et (fun _ => ⟨_, rfl, c204 M ArF.rf z (f3.mp z2) b⟩)⟩⟩
  · subst z
    have q := H M ArF.rf
    unfold cdR at q
    rw [et, if_neg (by decide), if_neg (by decide), if_neg (by decide), if_pos (show Int32.ofNat 6 = 6 from rfl)] at q
    refine ⟨fun q => absurd q (by decide), fun q => absurd q (by decide), fun q => absurd q (by decide), fun q => absurd q (by decide), fun _ => ⟨fun z => R_orOf (h := h + 1) hS hI hV hy hn (fun _ => ⟨_, rfl, ?_⟩), fun z => ⟨83, rf29_65 F, ok83 F, v28 (ln83 F), ?_⟩⟩, fun q => absurd q (by decide), fun q => absurd q (by decide), fun q => absurd q (by decide), fun q => absurd q (by decide), fun q => absurd q (by decide)⟩
    · rw [if_neg z] at q
      exact q
    · rw [if_pos z] at q
      have ne := hne (Or.inr (Or.inr (Or.inl et)))
      have l0 : 0 < (moG R y).length := List.length_pos_iff.mpr ne
      have e83 : mAI M 83 y = Int32.ofNat ((moG R y).getLastD 0) := by
        rw [hS.2.1 83 y (by decide) (by decide) hy]
        obtain ⟨⟨-, l2, -⟩, -⟩ := hS.1.2.1.2.1 y hy.1 hy.2
        rw [l2]
        cases hg : moG R y with
        | nil => exact absurd hg ne
        | cons a r => rfl
      have el : (moG R y).getLastD 0 = (moG R y).getD ((moG R y).length - 1) 0 := by
        rw [List.getLastD_eq_getLast?, List.getLast?_eq_getElem?, List.getD_eq_getElem?_getD]
      have iz := (k1 ((moG R y).length - 1) (by omega)).1
      rw [← el] at iz
      rw [e83]
      exact R_k (h := h + 2) (n := 0) hS hI hV iz (by omega) (fun _ => ⟨_, rfl, q⟩)
  · subst z
    have q := H M ArF.rf
    unfold cdR at q
    rw [et, if_neg (by decide), if_neg (by decide), if_neg (by decide), if_neg (by decide), if_pos (show Int32.ofNat 7 = 7 from rfl)] at q
    obtain ⟨f1, f2, f3⟩ := fst (hne (Or.inr (Or.inr (Or.inr (Or.inl et)))))
    refine ⟨fun q => absurd q (by decide), fun q => absurd q (by decide), fun q => absurd q (by decide), fun q => absurd q (by decide), fun q => absurd q (by decide), fun _ => ⟨fun z => ?_, fun z => ?_⟩, fun q => absurd q (by decide), fun q => absurd q (by decide), fun q => absurd q (by decide), fun q => absurd q (by decide)⟩
    · rw [if_neg z] at q
      rw [f1]
      exact R_k (h := h + 2) hS hI hV f2 hn (fun _ => ⟨_, rfl, q⟩)
    · rw [if_pos z] at q
      exact q
  · subst z
    have q := fun M2 (A2 : ArF (fun c => c = 101) M M2) => H M2 A2
    have e8 : cdR R I ρ y n = (if n = 1 then v3O (ρ (4, (moG R y).getD 0 0, 1)) (v3A (hdV (iSet I) (moK R y) (ρ (1, y, 0))) (lokR R I ρ y)) else ρ (4, (moG R y).getD 0 0, n)) := by
      unfold cdR
      rw [et, if_neg (by decide), if_neg (by decide), if_neg (by decide), if_neg (by decide), if_neg (by decide), if_pos (show Int32.ofNat 8 = 8 from rfl)]
    rw [e8, hdV_if (ml _)] at q
    obtain ⟨f1, f2, f3⟩ := fst (hne (Or.inr (Or.inr (Or.inr (Or.inr (Or.inl et))))))
    have c305 : ∀ (a : Nat), a ≤ 2 → n = 1 → (if iSet I &&& moK R y = 0 then 0 else ρ (1, y, 0)) = a → DX11_codeValue_305 (h + 3) 29 (Int32.ofNat y) (Int32.ofNat (ρ (4, (moG R y).getD 0 0, 1))) (Int32.ofNat a) M Q := fun a ha z1 ea => by
      unfold DX11_codeValue_305 DX11_codeValue_321
      rw [ly]
      refine ⟨ok29 F, 81, rf29_63 F, ok81 F, v28 (ln81 F), R_lok (h := h + 1) hS hI hb hV hL hy (Or.inr et) (fun M2 A2 _ => ⟨_, rfl, R_both (h := h + 2) ha lle (fun _ => ⟨_, rfl, R_either (h := h + 2) (ml _) (v3A_le _ _) (fun _ => ⟨_, rfl, ?_⟩)⟩)⟩)⟩
      have q := q M2 A2
      rw [if_pos z1, ea] at q
      exact q
    refine ⟨fun q => absurd q (by decide), fun q => absurd q (by decide), fun q => absurd q (by decide), fun q => absurd q (by decide), fun q => absurd q (by decide), fun q => absurd q (by decide), fun _ => ⟨fun z => ?_, fun z => ?_⟩, fun q => absurd q (by decide), fun q => absurd q (by decide), fun q => absurd q (by decide)⟩
    · rw [f1]
      refine R_k (h := h + 2) (n := 1) hS hI hV f2 (by omega) (fun _ => ⟨_, rfl, 87, rf29_69 F, ok87 F, v28 (ln87 F), fun y0 => ?_, fun y0 => ⟨96, rf29_78 F, ok96 F, v70 (ln96 F), ?_⟩⟩)
      · rw [m87, hI.2.2.1] at y0
        exact c305 0 (by decide) z (if_pos y0)
      · rw [m87, hI.2.2.1] at y0
        rw [g1]
        exact c305 _ (ml _) z (if_neg y0)
    · have q := q M ArF.rf
      rw [if_neg z] at q
      rw [f1]
      exact R_k (h := h + 2) hS hI hV f2 hn (fun _ => ⟨_, rfl, q⟩)
  · subst z
    have q := H M ArF.rf
    unfold cdR at q
    rw [et, if_neg (by decide), if_neg (by decide), if_neg (by decide), if_neg (by decide), if_neg (by decide), if_neg (by decide), if_pos (show Int32.ofNat 9 = 9 from rfl)] at q
    exact ⟨fun q => absurd q (by decide), fun q => absurd q (by decide), fun q => absurd q (by decide), fun q => absurd q (by decide), fun q => absurd q (by decide), fun q => absurd q (by decide), fun q => absurd q (by decide), fun _ => R_allOf (h := h) hS hI hV hy hn (fun _ => ⟨_, rfl, q⟩), fun q => absurd q (by decide), fun q => absurd q (by decide)⟩
  · subst z
    have q := H M ArF.rf
    unfold cdR at q
    rw [et, if_neg (by decide), if_neg (by decide), if_neg (by decide), if_neg (by decide), if_neg (by decide), if_neg (by decide), if_neg (by decide), if_pos (show Int32.ofNat 10 = 10 from rfl)] at q
    obtain ⟨f1, f2, f3⟩ := fst (hne (Or.inr (Or.inr (Or.inr (Or.inr (Or.inr et))))))
    have k92 := hS.2.2.2.2.2.2.1
    have h4 := hS.1.1
    refine ⟨fun q => absurd q (by decide), fun q => absurd q (by decide), fun q => absurd q (by decide), fun q => absurd q (by decide), fun q => absurd q (by decide), fun q => absurd q (by decide), fun q => absurd q (by decide), fun q => absurd q (by decide), fun _ => ⟨fun z => ⟨fun z1 => ⟨92, rf29_74 F, ok92 F, by rw [ln92 F]; exact vp_of h4 (by decide), ?_⟩, fun z1 => ?_⟩, fun z => ?_⟩, fun q => absurd q (by decide)⟩
    · rw [if_neg z, if_neg z1] at q
      rw [lt32 (show moM R < 2147483648 by omega), k92, succ32, le32 (by omega) (by omega)]
      refine ⟨fun y0 => ?_, fun y0 => ?_⟩
      · rw [if_neg (by omega)] at q
        exact q
      · rw [if_pos (by omega)] at q
        rw [f1]
        exact R_k (h := h + 2) hS hI hV f2 (by omega) (fun _ => ⟨_, rfl, q⟩)
    · rw [if_neg z, if_pos z1] at q
      rw [f1]
      exact R_k (h := h + 2) (n := 1) hS hI hV f2 (by omega) (fun _ => ⟨_, rfl, q⟩)
    · rw [if_pos z] at q
      rw [f1]
      exact R_k (h := h + 2) (n := 0) hS hI hV f2 (by omega) (fun _ => ⟨_, rfl, R_k (h := h + 2) (n := 2) hS hI hV f2 (by omega) (fun _ => ⟨_, rfl, R_either (h := h + 2) (ml _) (ml _) (fun _ => ⟨_, rfl, q⟩)⟩)⟩)
end
end
