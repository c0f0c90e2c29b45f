/-! how much room the nodes of a reading take -/
/-- the room that a node of kind k with c children takes: ten for a net, eighteen for a held mask -/
def swK (k : Int32) (c : Nat) : Nat := 10 * (eW k + c * (aW k + lW k) + (if k = 8 then 62 * c + 42 else 0)) + 18 * (eH k + c * (aH k + lH k) + (if k = 8 then c + 1 else 0))
def swN (V : Vw) (z : Nat) : Nat := swK (V z).1 (V z).2.2.2.length
def wtG (V : Vw) (g x : Nat) : Nat := smL (swN V) (noL (fun z => (V z).2.2.2) g x)
section
variable {V : Vw} {lo hi x y z : Nat} {k l d : Int32} {cs : List Nat}
theorem smL_fm {f : Nat → Nat} {h : Nat → List Nat} : ∀ (L : List Nat), smL f (L.flatMap h) = smL (fun a => smL f (h a)) L
  | [] => rfl
  | a :: t => by
    rw [List.flatMap_cons, smL_ap, smL_fm t]
    rfl
theorem smL_le {f h : Nat → Nat} : ∀ (L : List Nat), (∀ a, a ∈ L → f a ≤ h a) → smL f L ≤ smL h L
  | [], _ => Nat.le_refl _
  | a :: t, q => Nat.add_le_add (q a List.mem_cons_self) (smL_le t (fun b hb => q b (List.mem_cons_of_mem _ hb)))
theorem wt_nd (h : ndS V lo hi x k l cs) (g : Nat) : wtG V g x ≤ swK k cs.length + smL (wtG V (g - 1)) cs := by
  cases g with
  | zero => exact Nat.zero_le _
  | succ g =>
    show swN V x + smL (swN V) ((V x).2.2.2.flatMap (noL (fun z => (V z).2.2.2) g)) ≤ _
    unfold swN
    rw [h.2.1, h.2.2.2, smL_fm]
    exact Nat.le_refl _
theorem wt_lf (h : lfS V lo hi x k d) (g : Nat) : wtG V g x ≤ swK k 0 := by
  cases g with
  | zero => exact Nat.zero_le _
  | succ g =>
    show swN V x + smL (swN V) ((V x).2.2.2.flatMap (noL (fun z => (V z).2.2.2) g)) ≤ _
    unfold swN
    rw [h.2.1, h.2.2.2]
    exact Nat.le_refl _
theorem wt_1 {c : Nat} (h : ndS V lo hi x k l [y]) (hy : ∀ g, wtG V g y ≤ c) (g : Nat) : wtG V g x ≤ swK k 1 + c := by
  have a := wt_nd h g
  have b : smL (wtG V (g - 1)) [y] = wtG V (g - 1) y + 0 := rfl
  have := hy (g - 1)
  rw [b] at a
  show _ ≤ swK k 1 + c
  have e : [y].length = 1 := rfl
  rw [e] at a
  omega
theorem wt_2 {c e : Nat} (h : ndS V lo hi x k l [y, z]) (hy : ∀ g, wtG V g y ≤ c) (hz : ∀ g, wtG V g z ≤ e) (g : Nat) : wtG V g x ≤ swK k 2 + c + e := by
  have a := wt_nd h g
  have b : smL (wtG V (g - 1)) [y, z] = wtG V (g - 1) y + (wtG V (g - 1) z + 0) := rfl
  have := hy (g - 1)
  have := hz (g - 1)
  rw [b] at a
  have e : [y, z].length = 2 := rfl
  rw [e] at a
  omega
theorem swk0 : swK 0 0 = 10 := by decide
theorem swk1 : swK 1 0 = 58 := by decide
theorem swk2 : swK 2 0 = 20 := by decide
theorem swk3 : swK 3 0 = 10 := by decide
theorem swk4 : swK 4 2 = 30 := by decide
theorem swk52 : swK 5 2 = 10 := by decide
theorem swk6 : swK 6 1 = 20 := by decide
theorem swk7 : swK 7 1 = 136 := by decide
theorem swk82 : swK 8 2 = 1724 := by decide
theorem swk9 : swK 9 1 = 20 := by decide
theorem swk5 (c : Nat) : swK 5 c = 10 := by
  have e1 : eW 5 = 1 := by decide
  have e2 : aW 5 = 0 := by decide
  have e3 : lW 5 = 0 := by decide
  have e4 : eH 5 = 0 := by decide
  have e5 : aH 5 = 0 := by decide
  have e6 : lH 5 = 0 := by decide
  unfold swK
  rw [e1, e2, e3, e4, e5, e6, if_neg (by decide), if_neg (by decide)]
  simp
theorem swk8 (c : Nat) : swK 8 c = 448 + 638 * c := by
  have e1 : eW 8 = 1 := by decide
  have e2 : aW 8 = 0 := by decide
  have e3 : lW 8 = 0 := by decide
  have e4 : eH 8 = 0 := by decide
  have e5 : aH 8 = 0 := by decide
  have e6 : lH 8 = 0 := by decide
  unfold swK
  rw [e1, e2, e3, e4, e5, e6, if_pos rfl, if_pos rfl, Nat.add_zero, Nat.mul_zero]
  omega
theorem wt_ha {p : Nat} (h : haS V lo hi x p) (g : Nat) : wtG V g x ≤ 78 := by
  obtain ⟨y, h1, h2⟩ := h
  have := wt_1 h1 (wt_lf h2) g
  rw [swk6, swk1] at this
  exact this
theorem wt_st {v p : Nat} (h : stS V lo hi x v p) (g : Nat) : wtG V g x ≤ 108 := by
  obtain ⟨sq, e, pa, h1, h2, h3, h4⟩ := h
  have := wt_1 h1 (wt_2 h2 (wt_lf h3) (wt_lf h4)) g
  rw [swk6, swk52, swk2, swk1] at this
  exact this
theorem wt_wa {im : Bool} {p : Nat} (h : waS V lo hi x l im p) (g : Nat) : wtG V g x ≤ 138 := by
  obtain ⟨sq, pa, ch, ex, no, h1, h2, h3, h4, h5, h6⟩ := h
  have a := wt_2 h4 (wt_lf h5) (wt_lf h6)
  cases im with
  | true =>
    rw [if_pos rfl] at h2
    have := wt_1 h1 (wt_2 h2 a (wt_lf h3)) g
    rw [swk6, swk52, swk1, swk4, swk3, swk0] at this
    exact this
  | false =>
    rw [if_neg (by decide)] at h2
    have := wt_1 h1 (wt_2 h2 (wt_lf h3) a) g
    rw [swk6, swk52, swk1, swk4, swk3, swk0] at this
    exact this
theorem wt_aw {im : Bool} {p : Nat} (h : awS V lo hi x l im p) (g : Nat) : wtG V g x ≤ 158 := by
  obtain ⟨y, h1, h2⟩ := h
  have := wt_1 h1 (wt_wa h2) g
  rw [swk9] at this
  exact this
theorem wt_wk {body c : Nat} {im : Bool} {p : Nat} (h : wkS V lo hi x body l im p) (hb : ∀ g, wtG V g body ≤ c) (g : Nat) : wtG V g x ≤ 1902 + c := by
  obtain ⟨par, sq, wa, ex, h1, h2, h3, h4, h5⟩ := h
  have := wt_1 h1 (wt_2 h2 (wt_2 h3 hb (wt_lf h4)) (wt_wa h5)) g
  rw [swk9, swk82, swk52, swk3] at this
  omega
theorem wt_ab {body c : Nat} {p : Nat} (h : abS V lo hi x body l p) (hb : ∀ g, wtG V g body ≤ c) (g : Nat) : wtG V g x ≤ 2038 + c := by
  obtain ⟨y, h1, h2⟩ := h
  have := wt_wk h2 (wt_1 h1 hb) g
  rw [swk7] at this
  omega
theorem wt_ai {body c : Nat} {im : Bool} {p : Nat} (h : aiS V lo hi x body l im p) (hb : ∀ g, wtG V g body ≤ c) (g : Nat) : wtG V g x ≤ 2078 + c := by
  unfold aiS at h
  by_cases e : im = true
  · rw [if_pos e] at h
    obtain ⟨no, y, h1, h2, h3⟩ := h
    have := wt_2 h1 (wt_lf h2) (wt_ab h3 hb) g
    rw [swk4, swk0] at this
    omega
  · rw [if_neg e] at h
    have := wt_ab h hb g
    omega
theorem wt_ev {body aw c : Nat} {p2 p3 : Nat} (h : evS V lo hi x body aw l p2 p3) (ha : ∀ g, wtG V g aw ≤ 158) (hb : ∀ g, wtG V g body ≤ c) (g : Nat) : wtG V g x ≤ 2314 + c := by
  obtain ⟨lp, ab, sq, ha', h1, h2, h3, h4, h5⟩ := h
  have := wt_2 h1 ha (wt_1 h2 (wt_ab h3 (wt_2 h4 hb (wt_ha h5)))) g
  rw [swk52, swk6] at this
  omega
end
/-- what the nodes of a part take, by its sort, and of the first q parts -/
def k0S (s : Int32) : Nat := if s = 8 then 2078 else if s = 9 then 1902 else if s = 11 then 2314 else if s = 14 then 40 else if s = 16 then 448 else 158
def s0S (m : Nat) (A : Nat → Nat → Int32) : Nat → Nat
  | 0 => 0
  | q + 1 => s0S m A q + k0S (A 58 (40 * m + q))
theorem s0_sk {m : Nat} {A : Nat → Nat → Int32} : ∀ q, s0S m A q + 200 * q + 200 * ifU (A 58) m q ≤ skS m A q
  | 0 => Nat.le_refl _
  | q + 1 => by
    have h := s0_sk (m := m) (A := A) q
    show s0S m A q + k0S (A 58 (40 * m + q)) + 200 * (q + 1) + 200 * (ifU (A 58) m (q + 1)) ≤ skS m A q + kpS (A 58 (40 * m + q))
    have e : ifU (A 58) m (q + 1) = ifU (A 58) m q + (if A 58 (40 * m + q) = 14 then 1 else 0) := rfl
    rw [e]
    generalize A 58 (40 * m + q) = s
    unfold k0S kpS
    by_cases h1 : s = 8
    · rw [if_pos h1, if_pos h1, if_neg (by rw [h1]; decide)]; omega
    rw [if_neg h1, if_neg h1]
    by_cases h2 : s = 9
    · rw [if_pos h2, if_pos h2, if_neg (by rw [h2]; decide)]; omega
    rw [if_neg h2, if_neg h2]
    by_cases h3 : s = 11
    · rw [if_pos h3, if_pos h3, if_neg (by rw [h3]; decide)]; omega
    rw [if_neg h3, if_neg h3]
    by_cases h4 : s = 14
    · rw [if_pos h4, if_pos h4, if_pos h4]; omega
    rw [if_neg h4, if_neg h4, if_neg h4]
    by_cases h5 : s = 16
    · rw [if_pos h5, if_pos h5]; omega
    rw [if_neg h5, if_neg h5]
    omega
theorem k0_of {k : Int32} : k0S (Int32.ofNat (soK k)) = if k = 49 then 2078 else if k = 50 then 1902 else if k = 53 then 2314 else if k = 58 then 40 else if k = 17 then 448 else 158 := by
  by_cases k1 : k = 49
  · rw [if_pos k1, k1]; decide
  by_cases k2 : k = 50
  · rw [if_neg k1, if_pos k2, k2]; decide
  by_cases k3 : k = 53
  · rw [if_neg k1, if_neg k2, if_pos k3, k3]; decide
  by_cases k4 : k = 58
  · rw [if_neg k1, if_neg k2, if_neg k3, if_pos k4, k4]; decide
  by_cases k5 : k = 17
  · rw [if_neg k1, if_neg k2, if_neg k3, if_neg k4, if_pos k5, k5]; decide
  rw [if_neg k1, if_neg k2, if_neg k3, if_neg k4, if_neg k5]
  unfold k0S
  rw [if_neg (fun z => k1 (soV8 z)), if_neg (fun z => k2 (soV9 z)), if_neg (fun z => k3 (soV11 z)), if_neg (fun z => k4 (so14 z)), if_neg (fun z => k5 (soV16 z))]
section
variable {W : Wo} {m zn fn lo hi : Nat}
/-- a part: what its own nodes take, above those of its rows -/
theorem wt_pk {k : Int32} {K : List KE} {j p pb x : Nat} {ys : List Nat} {c : Nat} (h : PkS W m zn fn lo hi k K j p pb x ys) (h17 : k ≠ 17) (hc : ∀ g, smL (wtG (woV W) g) ys ≤ c) (g : Nat) : wtG (woV W) g x ≤ k0S (Int32.ofNat (soK k)) + c := by
  have one : ∀ {y : Nat}, ys = [y] → ∀ g, wtG (woV W) g y ≤ c := fun e g => by
    have := hc g
    rw [e] at this
    exact this
  rw [k0_of]
  unfold PkS at h
  by_cases k1 : k = 38
  · rw [if_pos k1] at h
    have := wt_lf h.1 g
    rw [swk1] at this
    rw [k1]
    show _ ≤ 158 + c
    omega
  rw [if_neg k1] at h
  by_cases k2 : k = 39
  · rw [if_pos k2] at h
    have := wt_ha h.1 g
    rw [k2]
    show _ ≤ 158 + c
    omega
  rw [if_neg k2] at h
  by_cases k3 : k = 40
  · rw [if_pos k3] at h
    obtain ⟨⟨v, -, h⟩, -⟩ := h
    have := wt_lf h g
    rw [swk2] at this
    rw [k3]
    show _ ≤ 158 + c
    omega
  rw [if_neg k3] at h
  by_cases k4 : k = 41
  · rw [if_pos k4] at h
    obtain ⟨⟨v, -, h⟩, -⟩ := h
    have := wt_st h g
    rw [k4]
    show _ ≤ 158 + c
    omega
  rw [if_neg k4] at h
  by_cases k5 : k = 47
  · rw [if_pos k5] at h
    obtain ⟨⟨l, im, -, -, h⟩, -⟩ := h
    have := wt_aw h g
    rw [k5]
    show _ ≤ 158 + c
    omega
  rw [if_neg k5] at h
  by_cases k6 : k = 57
  · rw [if_pos k6] at h
    obtain ⟨⟨v, e, -, -, -, h⟩, -⟩ := h
    have := wt_lf h g
    rw [swk3] at this
    rw [k6]
    show _ ≤ 158 + c
    omega
  rw [if_neg k6] at h
  by_cases k7 : k = 42
  · rw [if_pos k7] at h
    obtain ⟨y, e, h⟩ := h
    have := wt_1 h (one e) g
    rw [swk6] at this
    rw [k7]
    show _ ≤ 158 + c
    omega
  rw [if_neg k7] at h
  have cho : ∀ {l : Int32} {y z : Nat}, ndS (woV W) lo hi x 4 l [y, z] → (ys = [y, z] ∨ ys = [y] ∧ lfS (woV W) lo hi z 0 0) → wtG (woV W) g x ≤ 40 + c := fun {l y z} h1 h2 => by
    have a := wt_nd h1 g
    have b : smL (wtG (woV W) (g - 1)) [y, z] = wtG (woV W) (g - 1) y + (wtG (woV W) (g - 1) z + 0) := rfl
    have e : [y, z].length = 2 := rfl
    rw [b, e, swk4] at a
    have q := hc (g - 1)
    rcases h2 with h2 | ⟨h2, h3⟩
    · rw [h2, b] at q; omega
    · have := wt_lf h3 (g - 1)
      have b1 : smL (wtG (woV W) (g - 1)) [y] = wtG (woV W) (g - 1) y + 0 := rfl
      rw [h2, b1] at q
      rw [swk0] at this
      omega
  by_cases k8 : k = 44
  · rw [if_pos k8] at h
    obtain ⟨y, z, l, -, h1, h2⟩ := h
    have := cho h1 h2
    rw [k8]
    show _ ≤ 158 + c
    omega
  rw [if_neg k8] at h
  by_cases k9 : k = 58
  · rw [if_pos k9] at h
    obtain ⟨y, z, f, -, -, h1, h2⟩ := h
    have := cho h1 h2
    rw [k9]
    show _ ≤ 40 + c
    omega
  rw [if_neg k9] at h
  by_cases k10 : k = 49
  · rw [if_pos k10] at h
    obtain ⟨y, l, im, e, -, -, h⟩ := h
    have := wt_ai h (one e) g
    rw [k10]
    show _ ≤ 2078 + c
    omega
  rw [if_neg k10] at h
  by_cases k11 : k = 50
  · rw [if_pos k11] at h
    obtain ⟨y, l, im, e, -, -, h⟩ := h
    have := wt_wk h (one e) g
    rw [k11]
    show _ ≤ 1902 + c
    omega
  rw [if_neg k11] at h
  by_cases k12 : k = 52
  · rw [if_pos k12] at h
    obtain ⟨y, l, e, -, h⟩ := h
    have := wt_1 h (one e) g
    rw [swk7] at this
    rw [k12]
    show _ ≤ 158 + c
    omega
  rw [if_neg k12] at h
  by_cases k13 : k = 53
  · rw [if_pos k13] at h
    obtain ⟨y, l, im, aw, e, -, -, h1, h2⟩ := h
    have := wt_ev h2 (wt_aw h1) (one e) g
    rw [k13]
    show _ ≤ 2314 + c
    omega
  rw [if_neg k13] at h
  by_cases k14 : k = 55
  · rw [if_pos k14] at h
    obtain ⟨y, e, h⟩ := h
    have := wt_1 h (one e) g
    rw [swk9] at this
    rw [k14]
    show _ ≤ 158 + c
    omega
  rw [if_neg k14, if_neg h17] at h
  rw [if_neg k10, if_neg k11, if_neg k13, if_neg k9, if_neg h17]
  have := wt_lf h.1 g
  rw [swk0] at this
  omega
theorem TT.wt : ∀ (g0 md : Nat) (K : List KE) (a2 a3 a4 : Nat) (c1 c2 : Int32) (fl : Bool) (j j' r r' p p' : Nat) (L : List (Nat × Nat)), md ≤ 3 → TT W m zn fn lo hi g0 md K a2 a3 a4 c1 c2 fl j j' r r' p p' L → ∀ g, smL (wtG (woV W) g) (L.map Prod.snd) + (if md = 3 then 638 * L.length else 0) + s0S m (woA W) j + 648 * r ≤ s0S m (woA W) j' + 648 * r' + (if md = 0 then 10 else if md = 3 then 648 else 0) := by
  intro g0
  induction g0 with
  | zero => intro md K a2 a3 a4 c1 c2 fl j j' r r' p p' L _ h; unfold TT at h; exact h.elim
  | succ g0 ih =>
    intro md K a2 a3 a4 c1 c2 fl j j' r r' p p' L hm h g
    unfold TT at h
    by_cases m0 : md = 0
    · rw [if_pos m0] at h
      obtain ⟨x, jm, rm, pm, T, y, e, h1, h2, h3, -⟩ := h
      have a := ih 2 _ _ _ _ _ _ _ _ _ _ _ _ _ _ (by decide) h1 (g - 1)
      have c := ih 1 _ _ _ _ _ _ _ _ _ _ _ _ _ _ (by decide) h2 (g - 1)
      have d := wt_nd h3 g
      rw [swk5] at d
      have d1 : smL (wtG (woV W) (g - 1)) (x :: T.map Prod.snd) = wtG (woV W) (g - 1) x + smL (wtG (woV W) (g - 1)) (T.map Prod.snd) := rfl
      rw [d1] at d
      have a1 : smL (wtG (woV W) (g - 1)) ([(j, x)].map Prod.snd) = wtG (woV W) (g - 1) x + 0 := rfl
      rw [a1, if_neg (by decide), if_neg (by decide), if_neg (by decide)] at a
      rw [if_neg (by decide), if_neg (by decide), if_neg (by decide)] at c
      rw [e, if_neg (by omega), if_pos m0]
      have e1 : smL (wtG (woV W) g) ([((0 : Nat), y)].map Prod.snd) = wtG (woV W) g y + 0 := rfl
      rw [e1]
      omega
    rw [if_neg m0] at h
    by_cases m1 : md = 1
    · rw [if_pos m1] at h
      rw [if_neg (by omega), if_neg m0, if_neg (by omega)]
      rcases h with ⟨e, e1, e2, -⟩ | ⟨x, jm, rm, pm, T, e, h1, h2⟩
      · rw [e, e1, e2]
        show 0 + 0 + _ + _ ≤ _
        omega
      · have a := ih 2 _ _ _ _ _ _ _ _ _ _ _ _ _ _ (by decide) h1 g
        have c := ih 1 _ _ _ _ _ _ _ _ _ _ _ _ _ _ (by decide) h2 g
        have a1 : smL (wtG (woV W) g) ([(j, x)].map Prod.snd) = wtG (woV W) g x + 0 := rfl
        rw [a1, if_neg (by decide), if_neg (by decide), if_neg (by decide)] at a
        rw [if_neg (by decide), if_neg (by decide), if_neg (by decide)] at c
        have e1 : smL (wtG (woV W) g) (((j, x) :: T).map Prod.snd) = wtG (woV W) g x + smL (wtG (woV W) g) (T.map Prod.snd) := rfl
        rw [e, e1]
        omega
    rw [if_neg m1] at h
    by_cases m2 : md = 2
    · rw [if_pos m2] at h
      obtain ⟨k, x, ys, pb, ff, e, hp, hk, -, -, h⟩ := h
      rw [if_neg (by omega), if_neg m0, if_neg (by omega), e]
      have e1 : smL (wtG (woV W) g) ([(j, x)].map Prod.snd) = wtG (woV W) g x + 0 := rfl
      rw [e1]
      have ej : s0S m (woA W) (j + 1) = s0S m (woA W) j + k0S (Int32.ofNat (soK k)) := by
        show s0S m (woA W) j + k0S (woA W 58 (40 * m + j)) = _
        rw [hp.2.1]
      rcases h with ⟨ho, ej', er, -, -⟩ | ⟨k17, -, T, et, h1⟩ | ⟨ho, h17, -, t, jm, rm, pm, y, -, h1, h2⟩
      · have h17 : k ≠ 17 := fun z => by rw [z] at ho; exact absurd ho (by decide)
        have y0 : ∀ g, smL (wtG (woV W) g) ys ≤ 0 := by
          have : ys = [] := by
            unfold PkS at hk
            have ne : ∀ c : Int32, opnK c = true → k ≠ c := fun c hc z => by rw [z, hc] at ho; exact absurd ho (by decide)
            rw [if_neg (ne 42 (by decide)), if_neg (ne 44 (by decide)), if_neg (ne 58 (by decide)), if_neg (ne 49 (by decide)), if_neg (ne 50 (by decide)), if_neg (ne 52 (by decide)), if_neg (ne 53 (by decide)), if_neg (ne 55 (by decide)), if_neg (ne 17 (by decide))] at hk
            repeat' split at hk
            all_goals exact hk.2
          intro g
          rw [this]
          exact Nat.le_refl _
        have := wt_pk hk h17 y0 g
        rw [ej', ej, er]
        omega
      · have a := ih 3 _ _ _ _ _ _ _ _ _ _ _ _ _ _ (by decide) h1 (g - 1)
        rw [if_pos rfl, if_neg (by decide), if_pos rfl, ← et] at a
        have hn : ndS (woV W) lo hi x 8 0 ys := by
          unfold PkS at hk
          rw [k17] at hk
          exact hk
        have d := wt_nd hn g
        rw [swk8] at d
        have l1 : ys.length = T.length := by rw [et, List.length_map]
        have e17 : k0S (Int32.ofNat (soK k)) = 448 := by rw [k17]; decide
        rw [e17] at ej
        rw [l1] at d
        omega
      · rcases h2 with ⟨ey, e2, e3, -, -⟩ | ⟨k4, -, -, z, ey, h3⟩
        · have hc : ∀ g, smL (wtG (woV W) g) ys ≤ s0S m (woA W) jm + 648 * rm + 10 - (s0S m (woA W) (j + 1) + 648 * (r + 1)) := fun g => by
            have a := ih 0 _ _ _ _ _ _ _ _ _ _ _ _ _ _ (by decide) h1 g
            rw [if_neg (by decide), if_pos rfl] at a
            have a1 : smL (wtG (woV W) g) ([((0 : Nat), y)].map Prod.snd) = wtG (woV W) g y + 0 := rfl
            rw [a1] at a
            rw [ey]
            show wtG (woV W) g y + 0 ≤ _
            omega
          have a := ih 0 _ _ _ _ _ _ _ _ _ _ _ _ _ _ (by decide) h1 0
          rw [if_neg (by decide), if_pos rfl] at a
          have := wt_pk hk h17 hc g
          rw [e2, e3]
          omega
        · have hc : ∀ g, smL (wtG (woV W) g) ys ≤ s0S m (woA W) j' + 648 * r' + 20 - (s0S m (woA W) (j + 1) + 648 * (r + 1) + 648) := fun g => by
            have a := ih 0 _ _ _ _ _ _ _ _ _ _ _ _ _ _ (by decide) h1 g
            have c := ih 0 _ _ _ _ _ _ _ _ _ _ _ _ _ _ (by decide) h3 g
            rw [if_neg (by decide), if_pos rfl] at a c
            have a1 : smL (wtG (woV W) g) ([((0 : Nat), y)].map Prod.snd) = wtG (woV W) g y + 0 := rfl
            have c1 : smL (wtG (woV W) g) ([((0 : Nat), z)].map Prod.snd) = wtG (woV W) g z + 0 := rfl
            rw [a1] at a
            rw [c1] at c
            rw [ey]
            show wtG (woV W) g y + (wtG (woV W) g z + 0) ≤ _
            omega
          have a := ih 0 _ _ _ _ _ _ _ _ _ _ _ _ _ _ (by decide) h1 0
          have c := ih 0 _ _ _ _ _ _ _ _ _ _ _ _ _ _ (by decide) h3 0
          rw [if_neg (by decide), if_pos rfl] at a c
          have := wt_pk hk h17 hc g
          omega
    rw [if_neg m2] at h
    have m3 : md = 3 := by omega
    rw [if_pos m3, if_neg m0, if_pos m3]
    obtain ⟨jm, rm, pm, y, h1, h2⟩ := h
    have a := ih 0 _ _ _ _ _ _ _ _ _ _ _ _ _ _ (by decide) h1 g
    rw [if_neg (by decide), if_pos rfl] at a
    have a1 : smL (wtG (woV W) g) ([((0 : Nat), y)].map Prod.snd) = wtG (woV W) g y + 0 := rfl
    rw [a1] at a
    rcases h2 with ⟨e, e1, e2, -⟩ | ⟨T, f2, e, -, -, h3⟩
    · rw [e, e1, e2]
      show wtG (woV W) g y + 0 + 638 * 1 + _ + _ ≤ _
      omega
    · have c := ih 3 _ _ _ _ _ _ _ _ _ _ _ _ _ _ (by decide) h3 g
      rw [if_pos rfl, if_neg (by decide), if_pos rfl] at c
      have e1 : smL (wtG (woV W) g) (((a3, y) :: T).map Prod.snd) = wtG (woV W) g y + smL (wtG (woV W) g) (T.map Prod.snd) := rfl
      have e2 : ((a3, y) :: T).length = T.length + 1 := rfl
      rw [e, e1, e2]
      omega
end
