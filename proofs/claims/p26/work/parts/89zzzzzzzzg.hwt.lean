section
/-! how many held masks the nodes of a reading make -/
/-- the held masks that a node of kind k with c children makes -/
def hwK (k : Int32) (c : Nat) : Nat := eH k + c * (aH k + lH k) + (if k = 8 then c + 1 else 0)
def hwN (V : Vw) (z : Nat) : Nat := hwK (V z).1 (V z).2.2.2.length
def htG (V : Vw) (g x : Nat) : Nat := smL (hwN V) (noL (fun z => (V z).2.2.2) g x)
section
variable {V : Vw} {lo hi x y z : Nat} {k l d : Int32} {cs : List Nat}
theorem ht_nd (h : ndS V lo hi x k l cs) (g : Nat) : htG V g x ≤ hwK k cs.length + smL (htG V (g - 1)) cs := by
  cases g with
  | zero => exact Nat.zero_le _
  | succ g =>
    show hwN V x + smL (hwN V) ((V x).2.2.2.flatMap (noL (fun z => (V z).2.2.2) g)) ≤ _
    unfold hwN
    rw [h.2.1, h.2.2.2, smL_fm]
    exact Nat.le_refl _
theorem ht_lf (h : lfS V lo hi x k d) (g : Nat) : htG V g x ≤ hwK k 0 := by
  cases g with
  | zero => exact Nat.zero_le _
  | succ g =>
    show hwN V x + smL (hwN V) ((V x).2.2.2.flatMap (noL (fun z => (V z).2.2.2) g)) ≤ _
    unfold hwN
    rw [h.2.1, h.2.2.2]
    exact Nat.le_refl _
theorem ht_1 {c : Nat} (h : ndS V lo hi x k l [y]) (hy : ∀ g, htG V g y ≤ c) (g : Nat) : htG V g x ≤ hwK k 1 + c := by
  have a := ht_nd h g
  have b : smL (htG V (g - 1)) [y] = htG V (g - 1) y + 0 := rfl
  have := hy (g - 1)
  rw [b] at a
  show _ ≤ hwK k 1 + c
  have e : [y].length = 1 := rfl
  rw [e] at a
  omega
theorem ht_2 {c e : Nat} (h : ndS V lo hi x k l [y, z]) (hy : ∀ g, htG V g y ≤ c) (hz : ∀ g, htG V g z ≤ e) (g : Nat) : htG V g x ≤ hwK k 2 + c + e := by
  have a := ht_nd h g
  have b : smL (htG V (g - 1)) [y, z] = htG V (g - 1) y + (htG V (g - 1) z + 0) := rfl
  have := hy (g - 1)
  have := hz (g - 1)
  rw [b] at a
  have e : [y, z].length = 2 := rfl
  rw [e] at a
  omega
theorem hwk0 : hwK 0 0 = 0 := by decide
theorem hwk1 : hwK 1 0 = 1 := by decide
theorem hwk2 : hwK 2 0 = 0 := by decide
theorem hwk3 : hwK 3 0 = 0 := by decide
theorem hwk4 : hwK 4 2 = 0 := by decide
theorem hwk52 : hwK 5 2 = 0 := by decide
theorem hwk6 : hwK 6 1 = 0 := by decide
theorem hwk7 : hwK 7 1 = 2 := by decide
theorem hwk82 : hwK 8 2 = 3 := by decide
theorem hwk9 : hwK 9 1 = 0 := by decide
theorem hwk5 (c : Nat) : hwK 5 c = 0 := by
  have e4 : eH 5 = 0 := by decide
  have e5 : aH 5 = 0 := by decide
  have e6 : lH 5 = 0 := by decide
  unfold hwK
  rw [e4, e5, e6, if_neg (by decide)]
  simp
theorem hwk8 (c : Nat) : hwK 8 c = c + 1 := by
  have e4 : eH 8 = 0 := by decide
  have e5 : aH 8 = 0 := by decide
  have e6 : lH 8 = 0 := by decide
  unfold hwK
  rw [e4, e5, e6, if_pos rfl, Nat.add_zero, Nat.mul_zero]
  omega
theorem ht_ha {p : Nat} (h : haS V lo hi x p) (g : Nat) : htG V g x ≤ 1 := by
  obtain ⟨y, h1, h2⟩ := h
  have := ht_1 h1 (ht_lf h2) g
  rw [hwk6, hwk1] at this
  exact this
theorem ht_st {v p : Nat} (h : stS V lo hi x v p) (g : Nat) : htG V g x ≤ 1 := by
  obtain ⟨sq, e, pa, h1, h2, h3, h4⟩ := h
  have := ht_1 h1 (ht_2 h2 (ht_lf h3) (ht_lf h4)) g
  rw [hwk6, hwk52, hwk2, hwk1] at this
  exact this
theorem ht_wa {im : Bool} {p : Nat} (h : waS V lo hi x l im p) (g : Nat) : htG V g x ≤ 1 := by
  obtain ⟨sq, pa, ch, ex, no, h1, h2, h3, h4, h5, h6⟩ := h
  have a := ht_2 h4 (ht_lf h5) (ht_lf h6)
  cases im with
  | true =>
    rw [if_pos rfl] at h2
    have := ht_1 h1 (ht_2 h2 a (ht_lf h3)) g
    rw [hwk6, hwk52, hwk1, hwk4, hwk3, hwk0] at this
    exact this
  | false =>
    rw [if_neg (by decide)] at h2
    have := ht_1 h1 (ht_2 h2 (ht_lf h3) a) g
    rw [hwk6, hwk52, hwk1, hwk4, hwk3, hwk0] at this
    exact this
theorem ht_aw {im : Bool} {p : Nat} (h : awS V lo hi x l im p) (g : Nat) : htG V g x ≤ 1 := by
  obtain ⟨y, h1, h2⟩ := h
  have := ht_1 h1 (ht_wa h2) g
  rw [hwk9] at this
  exact this
theorem ht_wk {body c : Nat} {im : Bool} {p : Nat} (h : wkS V lo hi x body l im p) (hb : ∀ g, htG V g body ≤ c) (g : Nat) : htG V g x ≤ 4 + c := by
  obtain ⟨par, sq, wa, ex, h1, h2, h3, h4, h5⟩ := h
  have := ht_1 h1 (ht_2 h2 (ht_2 h3 hb (ht_lf h4)) (ht_wa h5)) g
  rw [hwk9, hwk82, hwk52, hwk3] at this
  omega
theorem ht_ab {body c : Nat} {p : Nat} (h : abS V lo hi x body l p) (hb : ∀ g, htG V g body ≤ c) (g : Nat) : htG V g x ≤ 6 + c := by
  obtain ⟨y, h1, h2⟩ := h
  have := ht_wk h2 (ht_1 h1 hb) g
  rw [hwk7] at this
  omega
theorem ht_ai {body c : Nat} {im : Bool} {p : Nat} (h : aiS V lo hi x body l im p) (hb : ∀ g, htG V g body ≤ c) (g : Nat) : htG V g x ≤ 6 + c := by
  unfold aiS at h
  by_cases e : im = true
  · rw [if_pos e] at h
    obtain ⟨no, y, h1, h2, h3⟩ := h
    have := ht_2 h1 (ht_lf h2) (ht_ab h3 hb) g
    rw [hwk4, hwk0] at this
    omega
  · rw [if_neg e] at h
    have := ht_ab h hb g
    omega
theorem ht_ev {body aw c : Nat} {p2 p3 : Nat} (h : evS V lo hi x body aw l p2 p3) (ha : ∀ g, htG V g aw ≤ 1) (hb : ∀ g, htG V g body ≤ c) (g : Nat) : htG V g x ≤ 8 + c := by
  obtain ⟨lp, ab, sq, ha', h1, h2, h3, h4, h5⟩ := h
  have := ht_2 h1 ha (ht_1 h2 (ht_ab h3 (ht_2 h4 hb (ht_ha h5)))) g
  rw [hwk52, hwk6] at this
  omega
end
section
variable {W : Wo} {m zn fn lo hi : Nat}
/-- a part: what its own nodes take, above those of its rows -/
theorem ht_pk {k : Int32} {K : List KE} {j p pb x : Nat} {ys : List Nat} {c : Nat} (h : PkS W m zn fn lo hi k K j p pb x ys) (h17 : k ≠ 17) (hc : ∀ g, smL (htG (woV W) g) ys ≤ c) (g : Nat) : htG (woV W) g x ≤ 6 * paK k + 2 + c := by
  have one : ∀ {y : Nat}, ys = [y] → ∀ g, htG (woV W) g y ≤ c := fun e g => by
    have := hc g
    rw [e] at this
    exact this
  unfold PkS at h
  by_cases k1 : k = 38
  · rw [if_pos k1] at h
    have := ht_lf h.1 g
    rw [hwk1] at this
    rw [k1]
    show _ ≤ 6 * 1 + 2 + c
    omega
  rw [if_neg k1] at h
  by_cases k2 : k = 39
  · rw [if_pos k2] at h
    have := ht_ha h.1 g
    rw [k2]
    show _ ≤ 6 * 1 + 2 + c
    omega
  rw [if_neg k2] at h
  by_cases k3 : k = 40
  · rw [if_pos k3] at h
    obtain ⟨⟨v, -, h⟩, -⟩ := h
    have := ht_lf h g
    rw [hwk2] at this
    rw [k3]
    show _ ≤ 6 * 0 + 2 + c
    omega
  rw [if_neg k3] at h
  by_cases k4 : k = 41
  · rw [if_pos k4] at h
    obtain ⟨⟨v, -, h⟩, -⟩ := h
    have := ht_st h g
    rw [k4]
    show _ ≤ 6 * 1 + 2 + c
    omega
  rw [if_neg k4] at h
  by_cases k5 : k = 47
  · rw [if_pos k5] at h
    obtain ⟨⟨l, im, -, -, h⟩, -⟩ := h
    have := ht_aw h g
    rw [k5]
    show _ ≤ 6 * 1 + 2 + c
    omega
  rw [if_neg k5] at h
  by_cases k6 : k = 57
  · rw [if_pos k6] at h
    obtain ⟨⟨v, e, -, -, -, h⟩, -⟩ := h
    have := ht_lf h g
    rw [hwk3] at this
    rw [k6]
    show _ ≤ 6 * 0 + 2 + c
    omega
  rw [if_neg k6] at h
  by_cases k7 : k = 42
  · rw [if_pos k7] at h
    obtain ⟨y, e, h⟩ := h
    have := ht_1 h (one e) g
    rw [hwk6] at this
    rw [k7]
    show _ ≤ 6 * 0 + 2 + c
    omega
  rw [if_neg k7] at h
  have cho : ∀ {l : Int32} {y z : Nat}, ndS (woV W) lo hi x 4 l [y, z] → (ys = [y, z] ∨ ys = [y] ∧ lfS (woV W) lo hi z 0 0) → htG (woV W) g x ≤ 0 + c := fun {l y z} h1 h2 => by
    have a := ht_nd h1 g
    have b : smL (htG (woV W) (g - 1)) [y, z] = htG (woV W) (g - 1) y + (htG (woV W) (g - 1) z + 0) := rfl
    have e : [y, z].length = 2 := rfl
    rw [b, e, hwk4] at a
    have q := hc (g - 1)
    rcases h2 with h2 | ⟨h2, h3⟩
    · rw [h2, b] at q; omega
    · have := ht_lf h3 (g - 1)
      have b1 : smL (htG (woV W) (g - 1)) [y] = htG (woV W) (g - 1) y + 0 := rfl
      rw [h2, b1] at q
      rw [hwk0] at this
      omega
  by_cases k8 : k = 44
  · rw [if_pos k8] at h
    obtain ⟨y, z, l, -, h1, h2⟩ := h
    have := cho h1 h2
    rw [k8]
    show _ ≤ 6 * 0 + 2 + c
    omega
  rw [if_neg k8] at h
  by_cases k9 : k = 58
  · rw [if_pos k9] at h
    obtain ⟨y, z, f, -, -, h1, h2⟩ := h
    have := cho h1 h2
    rw [k9]
    show _ ≤ 6 * 0 + 2 + c
    omega
  rw [if_neg k9] at h
  by_cases k10 : k = 49
  · rw [if_pos k10] at h
    obtain ⟨y, l, im, e, -, -, h⟩ := h
    have := ht_ai h (one e) g
    rw [k10]
    show _ ≤ 6 * 1 + 2 + c
    omega
  rw [if_neg k10] at h
  by_cases k11 : k = 50
  · rw [if_pos k11] at h
    obtain ⟨y, l, im, e, -, -, h⟩ := h
    have := ht_wk h (one e) g
    rw [k11]
    show _ ≤ 6 * 1 + 2 + c
    omega
  rw [if_neg k11] at h
  by_cases k12 : k = 52
  · rw [if_pos k12] at h
    obtain ⟨y, l, e, -, h⟩ := h
    have := ht_1 h (one e) g
    rw [hwk7] at this
    rw [k12]
    show _ ≤ 6 * 0 + 2 + c
    omega
  rw [if_neg k12] at h
  by_cases k13 : k = 53
  · rw [if_pos k13] at h
    obtain ⟨y, l, im, aw, e, -, -, h1, h2⟩ := h
    have := ht_ev h2 (ht_aw h1) (one e) g
    rw [k13]
    show _ ≤ 6 * 3 + 2 + c
    omega
  rw [if_neg k13] at h
  by_cases k14 : k = 55
  · rw [if_pos k14] at h
    obtain ⟨y, e, h⟩ := h
    have := ht_1 h (one e) g
    rw [hwk9] at this
    rw [k14]
    show _ ≤ 6 * 0 + 2 + c
    omega
  rw [if_neg k14, if_neg h17] at h
  have := ht_lf h.1 g
  rw [hwk0] at this
  omega
theorem TT.ht : ∀ (g0 md : Nat) (K : List KE) (a2 a3 a4 : Nat) (c1 c2 : Int32) (fl : Bool) (j j' r r' p p' : Nat) (L : List (Nat × Nat)), md ≤ 3 → TT W m zn fn lo hi g0 md K a2 a3 a4 c1 c2 fl j j' r r' p p' L → ∀ g, smL (htG (woV W) g) (L.map Prod.snd) + (if md = 3 then L.length else 0) + 2 * j + r + 6 * p ≤ 2 * j' + r' + 6 * p' + (if md = 3 then 1 else 0) := by
  intro g0
  induction g0 with
  | zero => intro md K a2 a3 a4 c1 c2 fl j j' r r' p p' L _ h; unfold TT at h; exact h.elim
  | succ g0 ih =>
    intro md K a2 a3 a4 c1 c2 fl j j' r r' p p' L hm h g
    unfold TT at h
    by_cases m0 : md = 0
    · rw [if_pos m0] at h
      obtain ⟨x, jm, rm, pm, T, y, e, h1, h2, h3, -⟩ := h
      have a := ih 2 _ _ _ _ _ _ _ _ _ _ _ _ _ _ (by decide) h1 (g - 1)
      have c := ih 1 _ _ _ _ _ _ _ _ _ _ _ _ _ _ (by decide) h2 (g - 1)
      have d := ht_nd h3 g
      rw [hwk5] at d
      have d1 : smL (htG (woV W) (g - 1)) (x :: T.map Prod.snd) = htG (woV W) (g - 1) x + smL (htG (woV W) (g - 1)) (T.map Prod.snd) := rfl
      rw [d1] at d
      have a1 : smL (htG (woV W) (g - 1)) ([(j, x)].map Prod.snd) = htG (woV W) (g - 1) x + 0 := rfl
      rw [a1, if_neg (by decide), if_neg (by decide)] at a
      rw [if_neg (by decide), if_neg (by decide)] at c
      rw [e, if_neg (by omega), if_neg (by omega)]
      have e1 : smL (htG (woV W) g) ([((0 : Nat), y)].map Prod.snd) = htG (woV W) g y + 0 := rfl
      rw [e1]
      omega
    rw [if_neg m0] at h
    by_cases m1 : md = 1
    · rw [if_pos m1] at h
      rw [if_neg (by omega), if_neg (by omega)]
      rcases h with ⟨e, e1, e2, e3⟩ | ⟨x, jm, rm, pm, T, e, h1, h2⟩
      · rw [e, e1, e2, e3]
        show 0 + 0 + _ + _ + _ ≤ _
        omega
      · have a := ih 2 _ _ _ _ _ _ _ _ _ _ _ _ _ _ (by decide) h1 g
        have c := ih 1 _ _ _ _ _ _ _ _ _ _ _ _ _ _ (by decide) h2 g
        have a1 : smL (htG (woV W) g) ([(j, x)].map Prod.snd) = htG (woV W) g x + 0 := rfl
        rw [a1, if_neg (by decide), if_neg (by decide)] at a
        rw [if_neg (by decide), if_neg (by decide)] at c
        have e1 : smL (htG (woV W) g) (((j, x) :: T).map Prod.snd) = htG (woV W) g x + smL (htG (woV W) g) (T.map Prod.snd) := rfl
        rw [e, e1]
        omega
    rw [if_neg m1] at h
    by_cases m2 : md = 2
    · rw [if_pos m2] at h
      obtain ⟨k, x, ys, pb, ff, e, hp, hk, -, ep, h⟩ := h
      rw [if_neg (by omega), if_neg (by omega), e]
      have e1 : smL (htG (woV W) g) ([(j, x)].map Prod.snd) = htG (woV W) g x + 0 := rfl
      rw [e1]
      have hpk : hpK k ≤ paK k := by
        unfold hpK
        split
        · rename_i z
          rw [z]; decide
        · exact Nat.zero_le _
      rcases h with ⟨ho, ej', er, eb, -⟩ | ⟨k17, -, T, et, h1⟩ | ⟨ho, h17, -, t, jm, rm, pm, y, -, h1, h2⟩
      · have h17 : k ≠ 17 := fun z => by rw [z] at ho; exact absurd ho (by decide)
        have h53 : hpK k = 0 := by
          unfold hpK
          rw [if_neg (fun z => by rw [z] at ho; exact absurd ho (by decide))]
        have y0 : ∀ g, smL (htG (woV W) g) ys ≤ 0 := by
          have : ys = [] := by
            unfold PkS at hk
            have ne : ∀ c : Int32, opnK c = true → k ≠ c := fun c hc z => by rw [z, hc] at ho; exact absurd ho (by decide)
            rw [if_neg (ne 42 (by decide)), if_neg (ne 44 (by decide)), if_neg (ne 58 (by decide)), if_neg (ne 49 (by decide)), if_neg (ne 50 (by decide)), if_neg (ne 52 (by decide)), if_neg (ne 53 (by decide)), if_neg (ne 55 (by decide)), if_neg (ne 17 (by decide))] at hk
            repeat' split at hk
            all_goals exact hk.2
          intro g
          rw [this]
          exact Nat.le_refl _
        have := ht_pk hk h17 y0 g
        omega
      · have a := ih 3 _ _ _ _ _ _ _ _ _ _ _ _ _ _ (by decide) h1 (g - 1)
        rw [if_pos rfl, if_pos rfl, ← et] at a
        have hn : ndS (woV W) lo hi x 8 0 ys := by
          unfold PkS at hk
          rw [k17] at hk
          exact hk
        have d := ht_nd hn g
        rw [hwk8] at d
        have l1 : ys.length = T.length := by rw [et, List.length_map]
        rw [l1] at d
        have e0 : paK k - hpK k = 0 := by rw [k17]; decide
        omega
      · rcases h2 with ⟨ey, e2, e3, e4, -⟩ | ⟨k4, -, -, z, ey, h3⟩
        · have hc : ∀ g, smL (htG (woV W) g) ys ≤ 2 * jm + rm + 6 * pm - (2 * (j + 1) + (r + 1) + 6 * (p + hpK k)) := fun g => by
            have a := ih 0 _ _ _ _ _ _ _ _ _ _ _ _ _ _ (by decide) h1 g
            rw [if_neg (by decide), if_neg (by decide)] at a
            have a1 : smL (htG (woV W) g) ([((0 : Nat), y)].map Prod.snd) = htG (woV W) g y + 0 := rfl
            rw [a1] at a
            rw [ey]
            show htG (woV W) g y + 0 ≤ _
            omega
          have a := ih 0 _ _ _ _ _ _ _ _ _ _ _ _ _ _ (by decide) h1 0
          rw [if_neg (by decide), if_neg (by decide)] at a
          have := ht_pk hk h17 hc g
          omega
        · have h0 : hpK k = 0 := by
            rcases k4 with z | z <;> rw [z] <;> decide
          have hc : ∀ g, smL (htG (woV W) g) ys ≤ 2 * j' + r' + 6 * pb - (2 * (j + 1) + (r + 1) + 6 * p + 1) := fun g => by
            have a := ih 0 _ _ _ _ _ _ _ _ _ _ _ _ _ _ (by decide) h1 g
            have c := ih 0 _ _ _ _ _ _ _ _ _ _ _ _ _ _ (by decide) h3 g
            rw [if_neg (by decide), if_neg (by decide)] at a c
            have a1 : smL (htG (woV W) g) ([((0 : Nat), y)].map Prod.snd) = htG (woV W) g y + 0 := rfl
            have c1 : smL (htG (woV W) g) ([((0 : Nat), z)].map Prod.snd) = htG (woV W) g z + 0 := rfl
            rw [a1] at a
            rw [c1] at c
            rw [ey]
            show htG (woV W) g y + (htG (woV W) g z + 0) ≤ _
            omega
          have a := ih 0 _ _ _ _ _ _ _ _ _ _ _ _ _ _ (by decide) h1 0
          have c := ih 0 _ _ _ _ _ _ _ _ _ _ _ _ _ _ (by decide) h3 0
          rw [if_neg (by decide), if_neg (by decide)] at a c
          have := ht_pk hk h17 hc g
          omega
    rw [if_neg m2] at h
    have m3 : md = 3 := by omega
    rw [if_pos m3, if_pos m3]
    obtain ⟨jm, rm, pm, y, h1, h2⟩ := h
    have a := ih 0 _ _ _ _ _ _ _ _ _ _ _ _ _ _ (by decide) h1 g
    rw [if_neg (by decide), if_neg (by decide)] at a
    have a1 : smL (htG (woV W) g) ([((0 : Nat), y)].map Prod.snd) = htG (woV W) g y + 0 := rfl
    rw [a1] at a
    rcases h2 with ⟨e, e1, e2, e3, -⟩ | ⟨T, f2, e, -, -, h3⟩
    · rw [e, e1, e2, e3]
      show htG (woV W) g y + 0 + 1 + _ + _ + _ ≤ _
      omega
    · have c := ih 3 _ _ _ _ _ _ _ _ _ _ _ _ _ _ (by decide) h3 g
      rw [if_pos rfl, if_pos rfl] at c
      have e1 : smL (htG (woV W) g) (((a3, y) :: T).map Prod.snd) = htG (woV W) g y + smL (htG (woV W) g) (T.map Prod.snd) := rfl
      have e2 : ((a3, y) :: T).length = T.length + 1 := rfl
      rw [e, e1, e2]
      omega
end
end
section
/-! the room that a compiled module takes -/
section
variable {b : Nat → Int32} {n s m : Nat} {τ : Td} {σ : PS} {root g0 : Nat} {γ : Gh}
theorem smL_2 {f h : Nat → Nat} : ∀ L : List Nat, smL (fun a => 10 * f a + 18 * h a) L = 10 * smL f L + 18 * smL h L
  | [] => rfl
  | a :: t => by
    show 10 * f a + 18 * h a + smL _ t = 10 * (f a + smL f t) + 18 * (h a + smL h t)
    rw [smL_2 t]; omega
/-- the nodes of a tree that is read, as the weaver sees them and as the parts say -/
theorem RdE.nl (hE : RdE τ m σ root γ g0) (gw : Nat) : noL (chR (trS σ) γ.1) gw root = noL (fun z => (woV (woS τ m σ γ) z).2.2.2) gw root ∧ ∀ z, z ∈ noL (chR (trS σ) γ.1) gw root → chR (trS σ) γ.1 z = (woV (woS τ m σ γ) z).2.2.2 ∧ (trS σ).2.2 5 z = (woV (woS τ m σ γ) z).1 := by
  obtain ⟨hg, -, -, -, hx, -⟩ := hE
  have hb : ∀ y, 1 ≤ y → y < (trS σ).1 → ∀ c ∈ γ.1 y, 1 ≤ c ∧ c < (trS σ).1 := fun y y1 y2 c hc => (hg.1.2.1 y y1 y2).2.2.1 c hc
  have bd : ∀ y, 1 ≤ y → y < (trS σ).1 → ∀ c ∈ chR (trS σ) γ.1 y, 1 ≤ c ∧ c < (trS σ).1 := fun y y1 y2 c hc => hb y y1 y2 c (chR_sub hc).2
  refine ⟨noL_ch2 hb gw root hx, fun z hz => ?_⟩
  have iz := noL_bd bd gw root hx z hz
  exact ⟨chR_in iz, rfl⟩
theorem RdE.wt (hE : RdE τ m σ root γ g0) (gw : Nat) : 10 * smL (oW (trS σ) (chR (trS σ) γ.1)) (noL (chR (trS σ) γ.1) gw root) + 18 * smL (oH (trS σ) (chR (trS σ) γ.1)) (noL (chR (trS σ) γ.1) gw root) + 638 ≤ s0S m σ.1.2.1 (npS σ) + 648 * σ.1.1 4 := by
  obtain ⟨n1, n2⟩ := hE.nl gw
  obtain ⟨-, -, tt, -⟩ := id hE
  have a := TT.wt _ _ _ _ _ _ _ _ _ _ _ _ _ _ _ _ (by decide) tt gw
  rw [if_neg (by decide), if_pos rfl] at a
  have a1 : smL (wtG (woV (woS τ m σ γ)) gw) ([((0 : Nat), root)].map Prod.snd) = wtG (woV (woS τ m σ γ)) gw root + 0 := rfl
  have a2 : s0S m (woA (woS τ m σ γ)) 0 = 0 := rfl
  rw [a1, a2] at a
  have q : smL (fun z => 10 * oW (trS σ) (chR (trS σ) γ.1) z + 18 * oH (trS σ) (chR (trS σ) γ.1) z) (noL (chR (trS σ) γ.1) gw root) ≤ smL (swN (woV (woS τ m σ γ))) (noL (chR (trS σ) γ.1) gw root) := smL_le _ (fun z hz => by
    obtain ⟨e1, e2⟩ := n2 z hz
    unfold oW oH jW jH swN swK
    rw [e1, e2]
    exact Nat.le_refl _)
  rw [smL_2] at q
  have q2 : smL (swN (woV (woS τ m σ γ))) (noL (chR (trS σ) γ.1) gw root) = wtG (woV (woS τ m σ γ)) gw root := by rw [n1]; rfl
  rw [q2] at q
  have e : woA (woS τ m σ γ) = σ.1.2.1 := rfl
  rw [e] at a
  omega
theorem RdE.ht (hE : RdE τ m σ root γ g0) (gw : Nat) : smL (oH (trS σ) (chR (trS σ) γ.1)) (noL (chR (trS σ) γ.1) gw root) + 1 ≤ 2 * npS σ + σ.1.1 4 + 6 * (trS σ).2.1 := by
  obtain ⟨n1, n2⟩ := hE.nl gw
  obtain ⟨-, -, tt, -⟩ := id hE
  have a := TT.ht _ _ _ _ _ _ _ _ _ _ _ _ _ _ _ _ (by decide) tt gw
  rw [if_neg (by decide), if_neg (by decide)] at a
  have a1 : smL (htG (woV (woS τ m σ γ)) gw) ([((0 : Nat), root)].map Prod.snd) = htG (woV (woS τ m σ γ)) gw root + 0 := rfl
  rw [a1] at a
  have q : smL (oH (trS σ) (chR (trS σ) γ.1)) (noL (chR (trS σ) γ.1) gw root) ≤ smL (hwN (woV (woS τ m σ γ))) (noL (chR (trS σ) γ.1) gw root) := smL_le _ (fun z hz => by
    obtain ⟨e1, e2⟩ := n2 z hz
    unfold oH jH hwN hwK
    rw [e1, e2]
    exact Nat.le_refl _)
  have q2 : smL (hwN (woV (woS τ m σ γ))) (noL (chR (trS σ) γ.1) gw root) = htG (woV (woS τ m σ γ)) gw root := by rw [n1]; rfl
  rw [q2] at q
  omega
theorem rdm_tok {A : Nat → Nat → Int32} {B : Nat → Int64} {Zt : Nat → Nat → Int32} {r : Nat × Td × PS × Nat} (hS : Sto b n s) (e : rdM b n m A B Zt = .ok r) : phS m r.2.2.1 ≤ 648 + 660 * r.1 + 286 * r.2.2.1.1.1 1 ∧ r.1 ≤ s := by
  unfold rdM at e
  by_cases k0 : tK b n 0 = 0
  · rw [if_pos k0] at e; cases e
  rw [if_neg k0] at e
  obtain ⟨q, et, e⟩ := bind_ok e
  obtain ⟨p, eq, e⟩ := bind_ok e
  cases e
  have ok1 := td_ok hS 900 0 td0 (by have := hS.1; have := hS.2.1; omega) (Nat.zero_le _) k0
  rw [et] at ok1
  obtain ⟨o1, o2, o3, -⟩ := ok1
  unfold rdQ at eq
  obtain ⟨u, eu, ep⟩ := bind_ok eq
  have up : u = p := by
    by_cases z : tK b n u.1 = 1
    · rw [if_pos z] at ep; cases ep; rfl
    · rw [if_neg z] at ep; cases ep
  subst up
  have ok2 := rp_ok (τ := q.2) (m := m) hS 6000 0 [] q.1 (σI A B (cl0 Zt q.2)) 0 0 0 0 0 0 (by decide) o2 o3 σI_ok
  rw [eu] at ok2
  have h := rp_tok (τ := q.2) (m := m) hS 6000 [] q.1 (σI A B (cl0 Zt q.2)) u ⟨o2, o3, σI_ok⟩ eu
  unfold PhR at h
  have e0 : phS m (σI A B (cl0 Zt q.2)) = 648 := rfl
  have e1 : (σI A B (cl0 Zt q.2)).1.1 1 = 0 := rfl
  rw [e0, e1] at h
  refine ⟨?_, ok2.2.1⟩
  show phS m u.2.1 ≤ 648 + 660 * u.1 + 286 * u.2.1.1.1 1
  omega
theorem sk_np {A : Nat → Nat → Int32} : ∀ q, 358 * q ≤ skS m A q
  | 0 => Nat.zero_le _
  | q + 1 => by
    have h := sk_np (A := A) q
    show _ ≤ skS m A q + kpS (A 58 (40 * m + q))
    have : 358 ≤ kpS (A 58 (40 * m + q)) := by
      unfold kpS
      repeat' split
      all_goals omega
    omega
/-- what is made while a module is read and woven: slots, cells -/
theorem C_rom {M M0 M2 Mw M3 : Mem} {i lc rc S gw : Nat} {ro : List Int32} {Ro : List (Nat × Nat)} {ps : List Nat} {xs : Nat → Nat} {X : Nat → Prop} (hC : CRd b n s τ M M0 M2 i σ ps) (tok : phS m σ ≤ 648 + 660 * i + 286 * σ.1.1 1) (p24 : σ.1.1 1 ≤ 24) (hif : (ifS σ).length = ifU (σ.1.2.1 58) m (npS σ)) (hE : RdE τ m σ root γ g0) (k : NuF X M2 Mw) (wz : WvZ (mN M) lc rc (trS σ) σ.2.1.2.2.1 Mw) (we : WvE (mN M) lc rc S ro (trS σ) (chR (trS σ) γ.1) σ.2.1.2.2.1 Ro gw root ps xs Mw M3) : ∃ c, mI M3 (mN M + 8) 4 = Int32.ofNat c ∧ c ≤ 1000 + 67 * i ∧ mS M3 + 2 * c ≤ mS M + mS cpC + 7822 + 682 * i ∧ mN M3 ≤ mN M + 1140 + 45 * i := by
  obtain ⟨⟨hTI, ⟨lc0, rc0, cc, pb, ib, hQ⟩, c1, c2, c3, c4⟩, -, -, -, c5, ⟨lcz, c6, c7⟩⟩ := hC
  obtain ⟨hCB, ⟨hSm, -, -⟩, -, hLP, -, -, hRm, -, ⟨hps, hp40, hx80⟩⟩ := hQ
  obtain ⟨Ψ1, Ψ2, P, zp, M1, wk, fi, -, wp, -, -, nu, -⟩ := we
  obtain ⟨lc', rc', b1, b2, hl, -, hC1, -, -, -, -, -, -, rm⟩ := wp
  have hC2 : CirP M2 (mN M + 8) lc0 rc0 σ.2.1.2.2.1 := hCB.2.1
  have hCw : CirP Mw (mN M + 8) lc rc σ.2.1.2.2.1 := wz.2.2.2.1
  have el : lc0 = lc := by
    have e1 := hC2.2.1
    have e2 := hCw.2.1
    rw [k.2.1.2.1] at e2
    exact Option.some.inj (e1.symm.trans e2)
  subst el
  have a1 := hE.wt gw
  have a2 := hE.ht gw
  have a3 := s0_sk (m := m) (A := σ.1.2.1) (npS σ)
  have a4 := sk_np (m := m) (A := σ.1.2.1) (npS σ)
  have hp : ps.length = npS σ := hps
  have hr4 := hE.2.2.2.1.2.2.2
  have ht24 := hE.2.2.2.1.2.1
  obtain ⟨-, w2, w3⟩ := wk.2.1
  have w3 : Ψ1.2.2.length + _ ≤ 0 + smL (oH (trS σ) (chR (trS σ) γ.1)) (noL (chR (trS σ) γ.1) gw root) := w3
  have w2 : Ψ1.1.length + _ + _ ≤ σ.2.1.2.2.1.length + smL (oW (trS σ) (chR (trS σ) γ.1)) (noL (chR (trS σ) γ.1) gw root) := w2
  have f1 : Ψ2.2.2.length = Ψ1.2.2.length := by rw [fi.1]
  have f2 := fi.2.1
  have m1 : mN M3 = mN M1 := nu.1.1
  have m2 : mS M3 = mS M1 := nu.1.2.1
  have m3 : mN Mw = mN M2 := k.1.1
  have m4 : mS Mw = mS M2 := k.1.2.1
  have m5 : mL Mw = mL M2 := k.1.2.2.2
  have l1 := hC1.2.2.2.2.2.2.1.2.2.2.2
  have l2 := hSm.2.2.2.2.2.2.1
  obtain ⟨⟨-, r1⟩, ⟨r2, r3, r4⟩, -⟩ := rm
  obtain ⟨s1, s2, -⟩ := hRm
  unfold phS at tok
  rw [m5] at r1 r2
  have hxs : (ifS σ).length = σ.2.1.2.2.2.2.1.length := rfl
  have hco : (σ.2.1.2.2.2.2.2.1).length ≤ 3 * i := c2
  have hN0 : σ.2.1.2.2.1.length ≤ 18 + i := c1
  rw [hp] at s1 s2
  have sq1 : npS σ * npS σ ≤ 40 * npS σ := Nat.mul_le_mul_right _ (by omega)
  have sq2 : σ.2.1.2.2.2.2.1.length * σ.2.1.2.2.2.2.1.length ≤ 80 * σ.2.1.2.2.2.2.1.length := Nat.mul_le_mul_right _ hx80
  have ifle : ifU (σ.1.2.1 58) m (npS σ) ≤ npS σ := by
    have : ∀ q, ifU (σ.1.2.1 58) m q ≤ q := by
      intro q
      induction q with
      | zero => exact Nat.le_refl _
      | succ q ih =>
        show ifU (σ.1.2.1 58) m q + (if σ.1.2.1 58 (40 * m + q) = 14 then 1 else 0) ≤ q + 1
        split <;> omega
    exact this _
  have i4 : mI M1 (mN M + 8) 4 = Int32.ofNat Ψ2.1.length := hC1.2.2.2.2.2.1
  refine ⟨Ψ2.1.length, ?_, ?_, ?_, ?_⟩
  · rw [nu.2.2 (mN M + 8) ?_]
    · exact i4
    rintro ⟨j, hj, ej⟩
    have o5 := (hLP.2.2.2.2.2.1 j hj).2.1
    omega
  · omega
  · omega
  · omega
end
end
section
/-! a governor of the class: its rows, and the small methods over them -/
def RoG (M : Mem) (r : Nat) : Prop := ∀ j, 4 ≤ j → j < 26 → InG (mAI M r j).toInt64
/-- governor g of plan c: its rows now, next, kept (kp, with rows ks), given numbers, wires -/
def GvS (M : Mem) (g c nw nx kp gn wr nP : Nat) (ks : Nat → Nat) : Prop := (ok M g 4 ∧ mR M g 0 = some c ∧ mR M g 2 = some nw ∧ mR M g 3 = some nx ∧ mR M g 4 = some kp ∧ mR M g 7 = some gn ∧ mR M g 8 = some wr) ∧ ((ok M nw 21 ∧ mL M nw = 26) ∧ (ok M nx 21 ∧ mL M nx = 26) ∧ (ok M gn 21 ∧ mL M gn = 4) ∧ (ok M wr 21 ∧ mL M wr = nP)) ∧ (ok M kp 25 ∧ mL M kp = 3 ∧ ∀ i, i < 3 → mAR M kp i = some (ks i) ∧ ok M (ks i) 21 ∧ mL M (ks i) = 26) ∧ (nw ≠ nx ∧ gn ≠ nw ∧ gn ≠ nx ∧ wr ≠ nw ∧ wr ≠ nx ∧ wr ≠ gn ∧ ∀ i, i < 3 → ks i ≠ nw ∧ ks i ≠ nx ∧ ks i ≠ gn ∧ ks i ≠ wr)
/-- numbers in range, how often it is kept -/
def GvR (M : Mem) (g nw nx gn : Nat) (ks : Nat → Nat) : Prop := RoG M nw ∧ RoG M nx ∧ (∀ i, i < 3 → RoG M (ks i)) ∧ (∀ j, j < 4 → InG (mAI M gn j).toInt64) ∧ ∃ q, q ≤ 3 ∧ mI M g 5 = Int32.ofNat q
/-- only numbers of g (fields fs) and rows of S change -/
def GmF (g : Nat) (fs S : Nat → Prop) (M M' : Mem) : Prop := (mN M' = mN M ∧ mS M' = mS M ∧ mK M' = mK M ∧ mL M' = mL M) ∧ (mJ M' = mJ M ∧ mR M' = mR M ∧ mAJ M' = mAJ M ∧ mAR M' = mAR M) ∧ (∀ a, a ≠ g → mI M' a = mI M a) ∧ (∀ f, ¬ fs f → mI M' g f = mI M g f) ∧ ∀ c, ¬ S c → mAI M' c = mAI M c
section
variable {g : Nat} {fs fs' S S' : Nat → Prop} {M M1 M' : Mem}
theorem GmF.rf : GmF g fs S M M := ⟨⟨rfl, rfl, rfl, rfl⟩, ⟨rfl, rfl, rfl, rfl⟩, fun _ _ => rfl, fun _ _ => rfl, fun _ _ => rfl⟩
theorem GmF.tr (h : GmF g fs S M M1) (k : GmF g fs S M1 M') : GmF g fs S M M' := by
  obtain ⟨⟨a1, a2, a3, a4⟩, ⟨b1, b2, b3, b4⟩, c1, c2, c3⟩ := h
  obtain ⟨⟨d1, d2, d3, d4⟩, ⟨e1, e2, e3, e4⟩, f1, f2, f3⟩ := k
  exact ⟨⟨d1.trans a1, d2.trans a2, d3.trans a3, d4.trans a4⟩, ⟨e1.trans b1, e2.trans b2, e3.trans b3, e4.trans b4⟩, fun a z => (f1 a z).trans (c1 a z), fun f z => (f2 f z).trans (c2 f z), fun c z => (f3 c z).trans (c3 c z)⟩
theorem GmF.mo (h : GmF g fs S M M') (h1 : ∀ f, fs f → fs' f) (h2 : ∀ c, S c → S' c) : GmF g fs' S' M M' := ⟨h.1, h.2.1, h.2.2.1, fun f z => h.2.2.2.1 f (fun y => z (h1 f y)), fun c z => h.2.2.2.2 c (fun y => z (h2 c y))⟩
theorem GmF.i {f : Nat} {v : Int32} (hf : fs f) (e : M' = wI M g f v) : GmF g fs S M M' := by
  rw [e]
  refine ⟨⟨rfl, rfl, rfl, rfl⟩, ⟨rfl, rfl, rfl, rfl⟩, fun a z => up2_row z, fun f' z => ?_, fun _ _ => rfl⟩
  rw [mI_wI, if_neg (fun y => z (by rw [y.2]; exact hf))]
theorem GmF.a {c k : Nat} {v : Int32} (hc : S c) (e : M' = wAI M c k v) : GmF g fs S M M' := by
  rw [e]
  exact ⟨⟨rfl, rfl, rfl, rfl⟩, ⟨rfl, rfl, rfl, rfl⟩, fun _ _ => rfl, fun _ _ => rfl, fun c' z => up2_row (fun y => z (by rw [y]; exact hc))⟩
theorem GmF.cp {b c : Nat} (hc : S c) (e : M' = wCp M b c 0 0 26) : GmF g fs S M M' := by
  rw [e]
  exact ⟨⟨rfl, rfl, rfl, rfl⟩, ⟨rfl, rfl, rfl, rfl⟩, fun _ _ => rfl, fun _ _ => rfl, fun c' z => va_up_ne _ _ (fun y => z (by rw [y]; exact hc))⟩
theorem GmF.e (h : GmF g fs S M M') : mE M M' := ⟨by rw [h.1.1]; exact Nat.le_refl _, by rw [h.1.2.1]; exact Nat.le_refl _, fun a _ => ⟨by rw [h.1.2.2.1], by rw [h.1.2.2.2]⟩⟩
theorem GmF.ok {a k : Nat} (h : GmF g fs S M M') (o : ok M a k) : ok M' a k := ok_E o h.e
theorem GmF.fr (h : GmF g fs S M M') : fr (fun a => a = g ∨ S a) M M' := ⟨h.e, fun a _ hn => ⟨h.2.2.1 a (fun z => hn (Or.inl z)), by rw [h.2.1.1], by rw [h.2.1.2.1], h.2.2.2.2 a (fun z => hn (Or.inr z)), by rw [h.2.1.2.2.1], by rw [h.2.1.2.2.2]⟩⟩
variable {c nw nx kp gn wr nP : Nat} {ks : Nat → Nat}
theorem GvS.gm (h : GvS M g c nw nx kp gn wr nP ks) (k : GmF g fs S M M') : GvS M' g c nw nx kp gn wr nP ks := by
  obtain ⟨⟨a1, a2, a3, a4, a5, a6, a7⟩, ⟨⟨b1, b2⟩, ⟨b3, b4⟩, ⟨b5, b6⟩, ⟨b7, b8⟩⟩, ⟨c1, c2, c3⟩, d⟩ := h
  have r := k.2.1.2.1
  have l := k.1.2.2.2
  exact ⟨⟨k.ok a1, by rw [r]; exact a2, by rw [r]; exact a3, by rw [r]; exact a4, by rw [r]; exact a5, by rw [r]; exact a6, by rw [r]; exact a7⟩, ⟨⟨k.ok b1, by rw [l]; exact b2⟩, ⟨k.ok b3, by rw [l]; exact b4⟩, ⟨k.ok b5, by rw [l]; exact b6⟩, ⟨k.ok b7, by rw [l]; exact b8⟩⟩, ⟨k.ok c1, by rw [l]; exact c2, fun i hi => ⟨by rw [k.2.1.2.2.2]; exact (c3 i hi).1, k.ok (c3 i hi).2.1, by rw [l]; exact (c3 i hi).2.2⟩⟩, d⟩
theorem RoG.k {r : Nat} (h : RoG M r) (e : mAI M' r = mAI M r) : RoG M' r := fun j h1 h2 => by rw [e]; exact h j h1 h2
theorem RoG.up {r k : Nat} {v : Int32} (h : RoG M r) (hv : 4 ≤ k → InG v.toInt64) (e : M' = wAI M r k v) : RoG M' r := fun j h1 h2 => by
  rw [e, mAI_wAI]
  by_cases z : j = k
  · rw [if_pos ⟨rfl, z⟩]; exact hv (by omega)
  · rw [if_neg (fun y => z y.2)]; exact h j h1 h2
variable {h : Nat} {Q : Option Value → Mem → Prop}
theorem GvR.i (hR : GvR M g nw nx gn ks) (k : GmF g fs noP M M') (h5 : ¬ fs 5) : GvR M' g nw nx gn ks := by
  obtain ⟨a1, a2, a3, a4, q, a5, a6⟩ := hR
  have e : ∀ c, mAI M' c = mAI M c := fun c => k.2.2.2.2 c (fun z => z)
  exact ⟨a1.k (e _), a2.k (e _), fun i hi => (a3 i hi).k (e _), fun j hj => by rw [e]; exact a4 j hj, q, a5, by rw [k.2.2.2.1 5 h5]; exact a6⟩
theorem S_hasE (hS : GvS M g c nw nx kp gn wr nP ks) (K : ∀ r : Int32, (mAI M nw 3 = 0 ∧ r = 0) ∨ (¬ mAI M nw 3 = 0 ∧ r = 1) → Q (some (.int r)) M) : E (h + 1) mdX2_hasEnded [.ref g] M Q := by
  refine KX2_hasEnded ?_
  unfold DX2_hasEnded_0 DX2_hasEnded_14
  refine ⟨hS.1.1, nw, hS.1.2.2.1, hS.2.1.1.1, by rw [hS.2.1.1.2]; exact vp_of (n := 3) (by decide) (by decide), fun z => ⟨Or.inl rfl, K 0 (Or.inl ⟨z, rfl⟩)⟩, fun z => ⟨Or.inr rfl, K 1 (Or.inr ⟨z, rfl⟩)⟩⟩
theorem S_forg (hS : GvS M g c nw nx kp gn wr nP ks) (K : ∀ M', GmF g (fun f => f = 10 ∨ f = 12 ∨ f = 13) noP M M' → mI M' g 12 = 0 → Q none M') : E (h + 1) mdX2_forgetBeat [.ref g] M Q := by
  refine KX2_forgetBeat ?_
  unfold DX2_forgetBeat_0
  refine ⟨hS.1.1, fun M2 e2 M3 e3 M4 e4 => K M4 ?_ ?_⟩
  · exact ((GmF.i (fs := fun f => f = 10 ∨ f = 12 ∨ f = 13) (Or.inl rfl) e2).tr (GmF.i (Or.inr (Or.inl rfl)) e3)).tr (GmF.i (Or.inr (Or.inr rfl)) e4)
  · rw [e4, mI_wI, if_neg (fun y => absurd y.2 (by decide)), e3, mI_wI, if_pos ⟨rfl, rfl⟩]
theorem S_take {i : Nat} {x v : Int32} (hS : GvS M g c nw nx kp gn wr nP ks) (hR : GvR M g nw nx gn ks) (hi : i < 4) (hv : InG v.toInt64) (K : ∀ M', GmF g (fun f => f = 6) (fun c => c = gn) M M' → GvR M' g nw nx gn ks → Q none M') : E (h + 1) mdX2_take [.ref g, .int (Int32.ofNat i), .int x, .int v] M Q := by
  have fin : ∀ w : Int32, DX2_take_26 h g (Int32.ofNat i) v g w M Q := by
    intro w
    unfold DX2_take_26
    refine ⟨hS.1.1, fun M2 e2 => ?_⟩
    have k2 : GmF g (fun f => f = 6) (fun c => c = gn) M M2 := GmF.i rfl e2
    have S2 := hS.gm k2
    refine ⟨S2.1.1, gn, S2.1.2.2.2.2.2.1, S2.2.1.2.2.1.1, by rw [S2.2.1.2.2.1.2]; exact vp_of hi (by decide), fun M6 e6 => ?_⟩
    rw [lt32 (by omega)] at e6
    have k6 : GmF g (fun f => f = 6) (fun c => c = gn) M2 M6 := GmF.a rfl e6
    have k := k2.tr k6
    refine K M6 k ?_
    obtain ⟨a1, a2, a3, a4, q, a5, a6⟩ := hR
    obtain ⟨-, -, -, d1, d2, d3, d4, d5, d6, d7⟩ := hS
    refine ⟨a1.k (k.2.2.2.2 nw (fun z => d2 z.symm)), a2.k (k.2.2.2.2 nx (fun z => d3 z.symm)), fun j hj => (a3 j hj).k (k.2.2.2.2 _ (d7 j hj).2.2.1), fun j hj => ?_, q, a5, by rw [k.2.2.2.1 5 (by decide)]; exact a6⟩
    rw [e6, mAI_wAI]
    by_cases z : j = i
    · rw [if_pos ⟨rfl, z⟩]; exact hv
    · rw [if_neg (fun y => z y.2), e2]; exact a4 j hj
  refine KX2_take ?_
  unfold DX2_take_0
  exact ⟨fun _ => ⟨hS.1.1, fin _⟩, fun _ => ⟨hS.1.1, fin _⟩⟩
theorem S_wire {i : Nat} {w : Int32} (hS : GvS M g c nw nx kp gn wr nP ks) (hi : i < nP) (hn : nP ≤ 40) (K : ∀ r : Int32, Q (some (.int r)) M) : E (h + 1) mdX2_wireOf [.ref g, .int (Int32.ofNat i), .int w] M Q := by
  refine KX2_wireOf ?_
  unfold DX2_wireOf_0 DX2_wireOf_25
  refine ⟨hS.1.1, wr, hS.1.2.2.2.2.2.2, hS.2.1.2.2.2.1, fun _ => K _, fun _ => ⟨wr, hS.1.2.2.2.2.2.2, hS.2.1.2.2.2.1, by rw [hS.2.1.2.2.2.2]; exact vp_of hi (by omega), K _⟩⟩
theorem S_like {g2 c2 nw2 nx2 kp2 gn2 wr2 nP2 : Nat} {ks2 : Nat → Nat} (hS : GvS M g c nw nx kp gn wr nP ks) (hS2 : GvS M g2 c2 nw2 nx2 kp2 gn2 wr2 nP2 ks2) (K : ∀ r : Int32, r = 0 ∨ r = 1 → Q (some (.int r)) M) : E (h + 1) mdX2_likeOther [.ref g, .ref g2] M Q := by
  have main : ∀ d i, i + d = 26 → T (h + 1) mdX2_likeOther 2 [(0, .ref g), (1, .ref g2), (2, .int (Int32.ofNat i))] [] M Q := by
    intro d
    induction d with
    | zero =>
      intro i hi
      have e : i = 26 := by omega
      subst e
      refine VX2_likeOther_2 ?_
      unfold DX2_likeOther_2
      exact ⟨fun _ => ⟨Or.inr rfl, K 1 (Or.inr rfl)⟩, fun z => absurd Int32.le_rfl z⟩
    | succ d ih =>
      intro i hi
      have v1 : vp_in (Int32.ofNat i) (mL M nw) := by rw [hS.2.1.1.2]; exact vp_of (by omega) (by decide)
      have v2 : vp_in (Int32.ofNat i) (mL M nw2) := by rw [hS2.2.1.1.2]; exact vp_of (by omega) (by decide)
      have nle : ¬ (26 : Int32) ≤ Int32.ofNat i := fun z => by
        have := (le32 (a := 26) (by decide) (by omega)).mp z
        omega
      have f72 : ∀ s : Int32, DX2_likeOther_72 h g g2 (Int32.ofNat i) s M Q := by
        intro s
        unfold DX2_likeOther_72
        rw [succ32]
        exact ⟨fun _ => ih (i + 1) (by omega), fun _ => ⟨Or.inl rfl, K 0 (Or.inl rfl)⟩⟩
      have f41 : ∀ s t : Int32, DX2_likeOther_41 h g g2 (Int32.ofNat i) s t M Q := by
        intro s t
        unfold DX2_likeOther_41
        exact ⟨fun _ => f72 0, fun _ => f72 1⟩
      have f27 : ∀ s : Int32, DX2_likeOther_27 h g g2 (Int32.ofNat i) s M Q := by
        intro s
        unfold DX2_likeOther_27
        exact ⟨hS2.1.1, nw2, hS2.1.2.2.1, hS2.2.1.1.1, v2, fun _ => f41 s 0, fun _ => f41 s 1⟩
      refine VX2_likeOther_2 ?_
      unfold DX2_likeOther_2
      exact ⟨fun z => absurd z nle, fun _ => ⟨fun _ => ⟨hS.1.1, nw, hS.1.2.2.1, hS.2.1.1.1, v1, hS2.1.1, nw2, hS2.1.2.2.1, hS2.2.1.1.1, v2, fun _ => f72 0, fun _ => f72 1⟩, fun _ => ⟨hS.1.1, nw, hS.1.2.2.1, hS.2.1.1.1, v1, fun _ => f27 0, fun _ => f27 1⟩⟩⟩
  refine KX2_likeOther ?_
  unfold DX2_likeOther_0
  exact main 26 0 (by omega)
theorem S_store {q : Nat} (hS : GvS M g c nw nx kp gn wr nP ks) (hR : GvR M g nw nx gn ks) (hq : mI M g 5 = Int32.ofNat q) (h3 : q < 3) (K : ∀ M', GmF g (fun f => f = 5) (fun c => c = ks q) M M' → GvR M' g nw nx gn ks → mI M' g 5 = Int32.ofNat (q + 1) → Q none M') : E (h + 1) mdX2_store [.ref g] M Q := by
  refine KX2_store ?_
  unfold DX2_store_0 DX2_store_38
  have nle : ¬ (3 : Int32) ≤ Int32.ofNat q := fun z => by
    have := (le32 (a := 3) (by decide) (by omega)).mp z
    omega
  obtain ⟨c1, c2, c3⟩ := hS.2.2.1
  obtain ⟨k1, k2, k3⟩ := c3 q h3
  rw [hq]
  refine ⟨hS.1.1, fun z => absurd z nle, fun _ => ⟨nw, hS.1.2.2.1, kp, hS.1.2.2.2.2.1, c1, by rw [c2]; exact vp_of h3 (by decide), ks q, by rw [lt32 (by omega)]; exact k1, hS.2.1.1.1, k2, ⟨by decide, by decide, by decide, by rw [hS.2.1.1.2]; decide, by rw [k3]; decide⟩, fun M8 e8 M9 e9 => ?_⟩⟩
  have g8 : GmF g (fun f => f = 5) (fun c => c = ks q) M M8 := GmF.cp rfl e8
  have g9 : GmF g (fun f => f = 5) (fun c => c = ks q) M8 M9 := GmF.i rfl e9
  have i8 : mI M8 g 5 = Int32.ofNat q := by rw [e8]; exact hq
  have i9 : mI M9 g 5 = Int32.ofNat (q + 1) := by rw [e9, mI_wI, if_pos ⟨rfl, rfl⟩, i8, succ32]
  have gg := g8.tr g9
  refine K M9 gg ?_ i9
  obtain ⟨a1, a2, a3, a4, -⟩ := hR
  obtain ⟨-, -, -, d1, d2, d3, d4, d5, d6, d7⟩ := hS
  obtain ⟨t1, t2, t3, t4⟩ := d7 q h3
  refine ⟨a1.k (gg.2.2.2.2 nw (fun z => t1 z.symm)), a2.k (gg.2.2.2.2 nx (fun z => t2 z.symm)), fun j hj => ?_, fun j hj => by rw [gg.2.2.2.2 gn (fun z => t3 z.symm)]; exact a4 j hj, q + 1, by omega, i9⟩
  by_cases z : ks j = ks q
  · rw [z]
    intro k x1 x2
    have : mAI M9 (ks q) k = mAI M nw k := by
      rw [e9, e8]
      show va_up (mAI M) (ks q) (va_cpy (mAI M nw) (mAI M (ks q)) 0 0 26) (ks q) k = _
      rw [va_up_self]
      unfold va_cpy
      rw [if_pos ⟨Nat.zero_le _, by omega⟩, Nat.zero_add, Nat.sub_zero]
    rw [this]
    exact a1 k x1 x2
  · exact (a3 j hj).k (gg.2.2.2.2 _ z)
theorem FilR.gm {cc i j : Nat} {v : Int32} (hc : S cc) (k : FilR M M' cc i j v) : GmF g fs S M M' := by
  obtain ⟨⟨e1, e2, e3, e4⟩, ⟨e5, e6, e7, e8, e9⟩, e10, -⟩ := k
  exact ⟨⟨e1, e2, e3, e4⟩, ⟨e6, e7, e8, e9⟩, fun a _ => by rw [e5], fun f _ => by rw [e5], fun d hd => e10 d (fun z => hd (by rw [z]; exact hc))⟩
theorem S_rest {q : Nat} (hS : GvS M g c nw nx kp gn wr nP ks) (hR : GvR M g nw nx gn ks) (hn : nP ≤ 40) (hq : mI M g 5 = Int32.ofNat (q + 1)) (h3 : q < 3) (K : ∀ M', GmF g (fun f => f = 5 ∨ f = 6 ∨ f = 10 ∨ f = 11 ∨ f = 12 ∨ f = 13) (fun c => c = nw ∨ c = wr) M M' → GvR M' g nw nx gn ks → mI M' g 5 = Int32.ofNat q → Q none M') : E (h + 2) mdX2_restore [.ref g] M Q := by
  refine KX2_restore (h := h + 1) ?_
  unfold DX2_restore_0
  have nle : ¬ Int32.ofNat (q + 1) ≤ 0 := fun z => by
    have := (le32 (a := q + 1) (b := 0) (by omega) (by decide)).mp z
    omega
  obtain ⟨c1, c2, c3⟩ := hS.2.2.1
  obtain ⟨k1, k2, k3⟩ := c3 q h3
  rw [hq]
  refine ⟨hS.1.1, fun z => absurd z nle, fun _ M2 e2 => ?_⟩
  rw [show Int32.ofNat (q + 1) - 1 = Int32.ofNat q from sub1] at e2
  have g2 : GmF g (fun f => f = 5 ∨ f = 6 ∨ f = 10 ∨ f = 11 ∨ f = 12 ∨ f = 13) (fun c => c = nw ∨ c = wr) M M2 := GmF.i (Or.inl rfl) e2
  have S2 := hS.gm g2
  have i2 : mI M2 g 5 = Int32.ofNat q := by rw [e2, mI_wI, if_pos ⟨rfl, rfl⟩]
  obtain ⟨m1, m2, m3⟩ := S2.2.2.1
  obtain ⟨n1, n2, n3⟩ := m3 q h3
  rw [i2]
  refine ⟨kp, S2.1.2.2.2.2.1, m1, by rw [m2]; exact vp_of h3 (by decide), ks q, by rw [lt32 (by omega)]; exact n1, nw, S2.1.2.2.1, n2, S2.2.1.1.1, ⟨by decide, by decide, by decide, by rw [n3]; decide, by rw [S2.2.1.1.2]; decide⟩, fun M9 e9 => ?_⟩
  have g9 := g2.tr (GmF.cp (M' := M9) (Or.inl rfl) e9)
  have S9 := hS.gm g9
  unfold DX2_restore_37
  refine ⟨S9.1.1, S_forg (h := h) S9 (fun Ma ga _ _ => ⟨rfl, fun M3 e3 M4 e4 => ?_⟩)⟩
  have gA := g9.tr (ga.mo (fun f z => by omega) (fun c z => z.elim))
  have g4 := (gA.tr (GmF.i (M' := M3) (Or.inr (Or.inr (Or.inr (Or.inl rfl)))) e3)).tr (GmF.i (M' := M4) (Or.inr (Or.inl rfl)) e4)
  have S4 := hS.gm g4
  refine ⟨wr, S4.1.2.2.2.2.2.2, S_fill2 (h := h) S4.2.1.2.2.2.1 (by rw [S4.2.1.2.2.2.2]; omega) (fun M6 R6 _ => ⟨rfl, ?_⟩)⟩
  have g6 := g4.tr (FilR.gm (Or.inr rfl) R6)
  have rows : ∀ c, c ≠ wr → mAI M6 c = mAI M9 c := fun c hc => by
    have a1 : mAI M6 c = mAI M4 c := R6.2.2.1 c hc
    rw [a1, e4]
    show mAI M3 c = _
    rw [e3]
    exact ga.2.2.2.2 c (fun z => z)
  have i6 : mI M6 g 5 = Int32.ofNat q := by
    have a1 : mI M6 = mI M4 := R6.2.1.1
    rw [a1, e4, mI_wI, if_neg (fun y => absurd y.2 (by decide)), e3, mI_wI, if_neg (fun y => absurd y.2 (by decide)), ga.2.2.2.1 5 (by decide), e9]
    exact i2
  refine K M6 g6 ?_ i6
  obtain ⟨a1, a2, a3, a4, -⟩ := hR
  obtain ⟨-, -, -, d1, d2, d3, d4, d5, d6, d7⟩ := hS
  refine ⟨fun k x1 x2 => ?_, a2.k (g6.2.2.2.2 nx (fun z => z.elim (fun y => d1 y.symm) (fun y => d5 y.symm))), fun j hj => (a3 j hj).k (g6.2.2.2.2 _ (fun z => z.elim (d7 j hj).1 (d7 j hj).2.2.2)), fun j hj => by rw [g6.2.2.2.2 gn (fun z => z.elim d2 (fun y => d6 y.symm))]; exact a4 j hj, q, by omega, i6⟩
  have : mAI M6 nw k = mAI M (ks q) k := by
    rw [rows nw (fun z => d4 z.symm), e9]
    show va_up (mAI M2) nw (va_cpy (mAI M2 (ks q)) (mAI M2 nw) 0 0 26) nw k = _
    rw [va_up_self]
    unfold va_cpy
    rw [if_pos ⟨Nat.zero_le _, by omega⟩, Nat.zero_add, Nat.sub_zero, e2]
    rfl
  rw [this]
  exact a3 q h3 k x1 x2
end
end
section
/-! a governor of the class works its parts -/
/-- the plan c of a governor: its sums, how signals mix, its inputs -/
def PlS (M : Mem) (c sm cc stc mx ia I : Nat) (cs : List Int32) : Prop := (ok M c 3 ∧ mR M c 8 = some sm ∧ mR M c 2 = some mx ∧ mR M c 3 = some ia ∧ mI M c 10 = Int32.ofNat I) ∧ SmO M sm cc stc cs ∧ (ok M mx 21 ∧ mL M mx = 16) ∧ (ok M ia 21 ∧ mL M ia = 4 ∧ I ≤ 4 ∧ ∀ j, j < I → ∃ s, s < 16 ∧ mAI M ia j = Int32.ofNat s)
/-- a sum of the plan, as field f of part p names it -/
def SuPt (M : Mem) (X : List Nd) (cs : List Int32) (p f : Nat) : Prop := ∃ a c pr po, (a ≤ c ∧ c < X.length) ∧ GdS X 40 (c + 1 - a) a [] [c] ∧ cs = pr ++ (cdL ((X.drop a).take (c + 1 - a)) ++ 0 :: po) ∧ mI M p f = Int32.ofNat pr.length
/-- what the beat may ask of part p: 0 idle, 1 emit, 2 assign, 3 if -/
def PtK (M : Mem) (X : List Nd) (cs : List Int32) (p : Nat) : Prop := ok M p 5 ∧ (mI M p 3 = 0 ∨ (mI M p 3 = 1 ∧ (∃ s, s < 16 ∧ mI M p 4 = Int32.ofNat s) ∧ SuPt M X cs p 5) ∨ (mI M p 3 = 2 ∧ (∃ v, v < 6 ∧ mI M p 4 = Int32.ofNat v) ∧ SuPt M X cs p 5) ∨ (mI M p 3 = 3 ∧ SuPt M X cs p 5 ∧ SuPt M X cs p 6))
section
variable {M M1 M' : Mem} {g c nw nx kp gn wr nP sm cc stc mx ia I h p : Nat} {ks : Nat → Nat} {cs : List Int32} {X : List Nd} {Q : Option Value → Mem → Prop}
theorem RwI.og {rw0 : Nat} (h : RoG M rw0) (o : ok M rw0 21) (l : mL M rw0 = 26) : RwI M rw0 (fun v => (mAI M rw0 (20 + v)).toInt64) (fun v => (mAI M rw0 (4 + v)).toInt64) := ⟨⟨o, l⟩, fun v hv => ⟨rfl, h (20 + v) (by omega) (by omega)⟩, fun v hv => ⟨rfl, h (4 + v) (by omega) (by omega)⟩⟩
theorem GvS.wc (hS : GvS M g c nw nx kp gn wr nP ks) (k : WcZ sm stc M M') : GvS M' g c nw nx kp gn wr nP ks := by
  obtain ⟨⟨a1, a2, a3, a4, a5, a6, a7⟩, ⟨⟨b1, b2⟩, ⟨b3, b4⟩, ⟨b5, b6⟩, ⟨b7, b8⟩⟩, ⟨c1, c2, c3⟩, d⟩ := hS
  have r := k.2.1.2.1
  have l := k.1.2.2.2
  exact ⟨⟨k.ok a1, by rw [r]; exact a2, by rw [r]; exact a3, by rw [r]; exact a4, by rw [r]; exact a5, by rw [r]; exact a6, by rw [r]; exact a7⟩, ⟨⟨k.ok b1, by rw [l]; exact b2⟩, ⟨k.ok b3, by rw [l]; exact b4⟩, ⟨k.ok b5, by rw [l]; exact b6⟩, ⟨k.ok b7, by rw [l]; exact b8⟩⟩, ⟨k.ok c1, by rw [l]; exact c2, fun i hi => ⟨by rw [k.2.1.2.2.2]; exact (c3 i hi).1, k.ok (c3 i hi).2.1, by rw [l]; exact (c3 i hi).2.2⟩⟩, d⟩
theorem PlS.wc (hP : PlS M c sm cc stc mx ia I cs) (k : WcZ sm stc M M') : PlS M' c sm cc stc mx ia I cs := by
  obtain ⟨⟨a1, a2, a3, a4, a5⟩, b, ⟨c1, c2⟩, ⟨d1, d2, d3, d4⟩⟩ := hP
  have r := k.2.1.2.1
  have l := k.1.2.2.2
  have ne : c ≠ sm := fun z => by
    have o := b.1.1.2
    rw [← z, a1.2] at o
    exact absurd o (by decide)
  exact ⟨⟨k.ok a1, by rw [r]; exact a2, by rw [r]; exact a3, by rw [r]; exact a4, by rw [k.2.2.1 c ne]; exact a5⟩, b.wc k, ⟨k.ok c1, by rw [l]; exact c2⟩, ⟨k.ok d1, by rw [l]; exact d2, d3, fun j hj => by rw [k.2.1.2.2.1]; exact d4 j hj⟩⟩
theorem RoG.wc {r : Nat} (hR : RoG M r) (k : WcZ sm stc M M') : RoG M' r := hR.k (by rw [k.2.1.2.2.1])
theorem SuPt.wc {f : Nat} (hs : SuPt M X cs p f) (hp : p ≠ sm) (k : WcZ sm stc M M') : SuPt M' X cs p f := by
  obtain ⟨a, c, pr, po, h1, h2, h3, h4⟩ := hs
  exact ⟨a, c, pr, po, h1, h2, h3, by rw [k.2.2.1 p hp]; exact h4⟩
theorem S_so6 {a x y : Int32} (K : ∀ r : Int32, r = 0 ∨ r = 1 → Q (some (.int r)) M) : E (h + 1) mdX6_isSo [.int a, .int x, .int y] M Q := by
  refine KX6_isSo ?_
  unfold DX6_isSo_0 DX6_isSo_46 DX6_isSo_57 DX6_isSo_68 DX6_isSo_79 DX6_isSo_90 DX6_isSo_101
  have z : ((0 : Int32) = 0 ∨ (0 : Int32) = 1) ∧ Q (some (.int 0)) M := ⟨Or.inl rfl, K 0 (Or.inl rfl)⟩
  have o : ((1 : Int32) = 0 ∨ (1 : Int32) = 1) ∧ Q (some (.int 1)) M := ⟨Or.inr rfl, K 1 (Or.inr rfl)⟩
  exact ⟨fun _ => ⟨fun _ => z, fun _ => o⟩, fun _ => ⟨fun _ => z, fun _ => o⟩, fun _ => ⟨fun _ => z, fun _ => o⟩, fun _ => ⟨fun _ => z, fun _ => o⟩, fun _ => ⟨fun _ => z, fun _ => o⟩, fun _ => ⟨fun _ => z, fun _ => o⟩⟩
/-- a sum is worked over row rw0 -/
theorem S_wk0 {rw0 f : Nat} (hl : X.length ≤ 810) (hP : PlS M c sm cc stc mx ia I cs) (hr : RoG M rw0) (o : ok M rw0 21) (l : mL M rw0 = 26) (hs : SuPt M X cs p f) (K : ∀ M' (r : Int32), WcZ sm stc M M' → InG r.toInt64 → Q (some (.int r)) M') : E (h + 4) mdX6_work [.ref sm, .int (mI M p f), .ref rw0] M Q := by
  obtain ⟨a, e, pr, po, h1, h2, h3, h4⟩ := hs
  rw [h4]
  refine S_work hl h1 h2 h3 hP.2.1 (RwI.og hr o l) (fun M' k _ hG => K M' _ k ?_)
  have t := hG.t
  refine InG.o ?_ ?_
  · rw [Int32.toInt_toInt64, Int64.toInt_toInt32, Int.bmod_eq_of_le (by omega) (by omega)]; exact t.1
  · rw [Int32.toInt_toInt64, Int64.toInt_toInt32, Int.bmod_eq_of_le (by omega) (by omega)]; exact t.2
theorem S_isSo (hl : X.length ≤ 810) (hS : GvS M g c nw nx kp gn wr nP ks) (hP : PlS M c sm cc stc mx ia I cs) (hr : RoG M nw) (op : ok M p 5) (s5 : SuPt M X cs p 5) (s6 : SuPt M X cs p 6) (K : ∀ M' (r : Int32), WcZ sm stc M M' → r = 0 ∨ r = 1 → Q (some (.int r)) M') : E (h + 5) mdX2_isSo [.ref g, .ref p] M Q := by
  have np : p ≠ sm := fun z => by
    have o := hP.2.1.1.1.2
    rw [← z, op.2] at o
    exact absurd o (by decide)
  refine KX2_isSo (h := h + 4) ?_
  unfold DX2_isSo_0 DX2_isSo_82 DX2_isSo_83
  refine ⟨hS.1.1, c, hS.1.2.1, hP.1.1, sm, hP.1.2.1, op, nw, hS.1.2.2.1, hP.2.1.1.1, S_wk0 (h := h) hl hP hr hS.2.1.1.1 hS.2.1.1.2 s5 (fun M8 r8 k8 _ _ => ⟨r8, rfl, ?_⟩)⟩
  have S8 := hS.wc k8
  have P8 := hP.wc k8
  refine ⟨c, S8.1.2.1, P8.1.1, sm, P8.1.2.1, P8.2.1.1.1, fun _ => ⟨c, S8.1.2.1, P8.1.1, sm, P8.1.2.1, nw, S8.1.2.2.1, P8.2.1.1.1, S_wk0 (h := h) hl P8 (hr.wc k8) S8.2.1.1.1 S8.2.1.1.2 (s6.wc np k8) (fun M19 r19 k19 _ _ => ⟨r19, rfl, ?_⟩)⟩, fun _ => ⟨Or.inl rfl, K M8 0 k8 (Or.inl rfl)⟩⟩
  have S19 := S8.wc k19
  have P19 := P8.wc k19
  have kk := k8.tr k19
  refine ⟨c, S19.1.2.1, P19.1.1, sm, P19.1.2.1, P19.2.1.1.1, fun _ => ⟨Or.inl rfl, K M19 0 kk (Or.inl rfl)⟩, fun _ => S_so6 (h := h + 3) (fun r hr2 _ => ⟨r, rfl, fun _ => ⟨Or.inl rfl, K M19 0 kk (Or.inl rfl)⟩, fun _ => ⟨Or.inr rfl, K M19 1 kk (Or.inr rfl)⟩⟩)⟩
/-- what a beat's work changes: numbers of the governor and of the sums' object, row nx, the sums' stack -/
def BwF (g sm stc nx : Nat) (M M' : Mem) : Prop := (mN M' = mN M ∧ mS M' = mS M ∧ mK M' = mK M ∧ mL M' = mL M) ∧ (mJ M' = mJ M ∧ mR M' = mR M ∧ mAR M' = mAR M) ∧ (∀ a, a ≠ g → a ≠ sm → mI M' a = mI M a) ∧ (∀ f, f ≠ 9 → f ≠ 12 → f ≠ 13 → mI M' g f = mI M g f) ∧ (∀ f, f ≠ 3 → f ≠ 4 → mI M' sm f = mI M sm f) ∧ (∀ r, r ≠ nx → mAI M' r = mAI M r) ∧ ∀ r, r ≠ stc → mAJ M' r = mAJ M r
theorem BwF.rf : BwF g sm stc nx M M := ⟨⟨rfl, rfl, rfl, rfl⟩, ⟨rfl, rfl, rfl⟩, fun _ _ _ => rfl, fun _ _ _ _ => rfl, fun _ _ _ => rfl, fun _ _ => rfl, fun _ _ => rfl⟩
theorem BwF.tr (a : BwF g sm stc nx M M1) (b : BwF g sm stc nx M1 M') : BwF g sm stc nx M M' := by
  obtain ⟨⟨a1, a2, a3, a4⟩, ⟨b1, b2, b3⟩, c1, c2, c3, c4, c5⟩ := a
  obtain ⟨⟨d1, d2, d3, d4⟩, ⟨e1, e2, e3⟩, f1, f2, f3, f4, f5⟩ := b
  exact ⟨⟨d1.trans a1, d2.trans a2, d3.trans a3, d4.trans a4⟩, ⟨e1.trans b1, e2.trans b2, e3.trans b3⟩, fun a z1 z2 => (f1 a z1 z2).trans (c1 a z1 z2), fun f z1 z2 z3 => (f2 f z1 z2 z3).trans (c2 f z1 z2 z3), fun f z1 z2 => (f3 f z1 z2).trans (c3 f z1 z2), fun r z => (f4 r z).trans (c4 r z), fun r z => (f5 r z).trans (c5 r z)⟩
theorem BwF.wc (hne : g ≠ sm) (k : WcZ sm stc M M') : BwF g sm stc nx M M' := ⟨k.1, ⟨k.2.1.1, k.2.1.2.1, k.2.1.2.2.2⟩, fun a _ z => k.2.2.1 a z, fun f _ _ _ => by rw [k.2.2.1 g hne], fun f z1 z2 => k.2.2.2.1 f z1 z2, fun r _ => by rw [k.2.1.2.2.1], fun r z => k.2.2.2.2 r z⟩
theorem BwF.gm (hne : g ≠ sm) (k : GmF g (fun f => f = 9 ∨ f = 12 ∨ f = 13) (fun r => r = nx) M M') : BwF g sm stc nx M M' := ⟨k.1, ⟨k.2.1.1, k.2.1.2.1, k.2.1.2.2.2⟩, fun a z _ => k.2.2.1 a z, fun f z1 z2 z3 => k.2.2.2.1 f (by omega), fun f _ _ => by rw [k.2.2.1 sm (fun z => hne z.symm)], fun r z => k.2.2.2.2 r z, fun r _ => by rw [k.2.1.2.2.1]⟩
theorem BwF.e (k : BwF g sm stc nx M M') : mE M M' := ⟨by rw [k.1.1]; exact Nat.le_refl _, by rw [k.1.2.1]; exact Nat.le_refl _, fun a _ => ⟨by rw [k.1.2.2.1], by rw [k.1.2.2.2]⟩⟩
theorem GvS.bw (hS : GvS M g c nw nx kp gn wr nP ks) (k : BwF g sm stc nx M M') : GvS M' g c nw nx kp gn wr nP ks := by
  obtain ⟨⟨a1, a2, a3, a4, a5, a6, a7⟩, ⟨⟨b1, b2⟩, ⟨b3, b4⟩, ⟨b5, b6⟩, ⟨b7, b8⟩⟩, ⟨c1, c2, c3⟩, d⟩ := hS
  have r := k.2.1.2.1
  have l := k.1.2.2.2
  have o : ∀ {a q : Nat}, ok M a q → ok M' a q := fun z => ok_E z k.e
  exact ⟨⟨o a1, by rw [r]; exact a2, by rw [r]; exact a3, by rw [r]; exact a4, by rw [r]; exact a5, by rw [r]; exact a6, by rw [r]; exact a7⟩, ⟨⟨o b1, by rw [l]; exact b2⟩, ⟨o b3, by rw [l]; exact b4⟩, ⟨o b5, by rw [l]; exact b6⟩, ⟨o b7, by rw [l]; exact b8⟩⟩, ⟨o c1, by rw [l]; exact c2, fun i hi => ⟨by rw [k.2.1.2.2]; exact (c3 i hi).1, o (c3 i hi).2.1, by rw [l]; exact (c3 i hi).2.2⟩⟩, d⟩
theorem PlS.bw (hP : PlS M c sm cc stc mx ia I cs) (og : ok M g 4) (n1 : nx ≠ cc) (n2 : nx ≠ ia) (k : BwF g sm stc nx M M') : PlS M' c sm cc stc mx ia I cs := by
  obtain ⟨⟨a1, a2, a3, a4, a5⟩, b, ⟨c1, c2⟩, ⟨d1, d2, d3, d4⟩⟩ := hP
  have r := k.2.1.2.1
  have l := k.1.2.2.2
  have o : ∀ {a q : Nat}, ok M a q → ok M' a q := fun z => ok_E z k.e
  have ne : c ≠ sm := fun z => by
    have q := b.1.1.2
    rw [← z, a1.2] at q
    exact absurd q (by decide)
  have ng : c ≠ g := fun z => by
    have q := a1.2
    rw [z, og.2] at q
    exact absurd q (by decide)
  obtain ⟨⟨s1, s2, s3, s4, s5, s6, s7, s8⟩, ⟨t1, t2, t3⟩, t4⟩ := b
  exact ⟨⟨o a1, by rw [r]; exact a2, by rw [r]; exact a3, by rw [r]; exact a4, by rw [k.2.2.1 c ng ne]; exact a5⟩, ⟨⟨o s1, by rw [r]; exact s2, o s3, by rw [k.2.2.2.2.1 1 (by decide) (by decide)]; exact s4, by rw [l]; exact s5, by rw [l]; exact s6, by rw [l]; exact s7, fun j hj => by rw [k.2.2.2.2.2.1 cc (fun z => n1 z.symm)]; exact s8 j hj⟩, ⟨by rw [r]; exact t1, o t2, by rw [l]; exact t3⟩, t4⟩, ⟨o c1, by rw [l]; exact c2⟩, ⟨o d1, by rw [l]; exact d2, d3, fun j hj => by rw [k.2.2.2.2.2.1 ia (fun z => n2 z.symm)]; exact d4 j hj⟩⟩
theorem SuPt.bw {f : Nat} (hs : SuPt M X cs p f) (h1 : p ≠ g) (h2 : p ≠ sm) (k : BwF g sm stc nx M M') : SuPt M' X cs p f := by
  obtain ⟨a, c, pr, po, q1, q2, q3, q4⟩ := hs
  exact ⟨a, c, pr, po, q1, q2, q3, by rw [k.2.2.1 p h1 h2]; exact q4⟩
theorem PtK.bw (hp : PtK M X cs p) (og : ok M g 4) (os : ok M sm 8) (k : BwF g sm stc nx M M') : PtK M' X cs p := by
  obtain ⟨o, q⟩ := hp
  have h1 : p ≠ g := fun z => by
    have w := o.2
    rw [z, og.2] at w
    exact absurd w (by decide)
  have h2 : p ≠ sm := fun z => by
    have w := o.2
    rw [z, os.2] at w
    exact absurd w (by decide)
  refine ⟨ok_E o k.e, ?_⟩
  rw [k.2.2.1 p h1 h2]
  rcases q with q | ⟨q1, q2, q3⟩ | ⟨q1, q2, q3⟩ | ⟨q1, q2, q3⟩
  · exact Or.inl q
  · exact Or.inr (Or.inl ⟨q1, q2, q3.bw h1 h2 k⟩)
  · exact Or.inr (Or.inr (Or.inl ⟨q1, q2, q3.bw h1 h2 k⟩))
  · exact Or.inr (Or.inr (Or.inr ⟨q1, q2.bw h1 h2 k, q3.bw h1 h2 k⟩))
end
end
section
/-! a governor of the class works a part: emissions, assignments, ifs -/
section
variable {M M1 M' : Mem} {g c nw nx kp gn wr nP sm cc stc mx ia I h p : Nat} {ks : Nat → Nat} {cs : List Int32} {X : List Nd} {Q : Option Value → Mem → Prop}
theorem InG.cut {x : Int64} (h : InG x) : InG (x.toInt32).toInt64 := by
  have t := h.t
  refine InG.o ?_ ?_
  · rw [Int32.toInt_toInt64, Int64.toInt_toInt32, Int.bmod_eq_of_le (by omega) (by omega)]; exact t.1
  · rw [Int32.toInt_toInt64, Int64.toInt_toInt32, Int.bmod_eq_of_le (by omega) (by omega)]; exact t.2
theorem GvS.nsm (hS : GvS M g c nw nx kp gn wr nP ks) (os : ok M sm 8) : g ≠ sm := fun z => by
  have w := hS.1.1.2
  rw [z, os.2] at w
  exact absurd w (by decide)
theorem S_emit {s : Nat} {v : Int32} (hS : GvS M g c nw nx kp gn wr nP ks) (hP : PlS M c sm cc stc mx ia I cs) (hr : RoG M nx) (hs : s < 16) (K : ∀ M', BwF g sm stc nx M M' → RoG M' nx → Q none M') : E (h + 2) mdX2_emitNumber [.ref g, .int (Int32.ofNat s), .int v] M Q := by
  have gs := hS.nsm hP.2.1.1.1
  have e4 : (4 : Int32) + Int32.ofNat s = Int32.ofNat (4 + s) := (Int32.ofNat_add 4 s).symm
  have f79 : ∀ x : Int64, DX2_emitNumber_79 (h + 1) g (Int32.ofNat s) (Int32.ofNat (4 + s)) x M Q := by
    intro x
    unfold DX2_emitNumber_79
    refine S_rng (h := h) (fun _ => ⟨_, rfl, fun nz => ⟨hS.1.1, fun M4 e4' => ?_⟩, fun _ => ⟨hS.1.1, fun M9 e9 => ?_⟩⟩)
    · have hx : InG x := by
        by_cases z : (-1000000000 : Int64) ≤ x ∧ x ≤ 1000000000
        · exact z
        · rw [if_neg z] at nz; exact absurd rfl nz
      have k4 : GmF g (fun f => f = 9 ∨ f = 12 ∨ f = 13) (fun r => r = nx) M M4 := GmF.i (Or.inl rfl) e4'
      have S4 := hS.gm k4
      refine ⟨nx, S4.1.2.2.2.1, S4.2.1.2.1.1, by rw [S4.2.1.2.1.2]; exact vp_of (by omega) (by decide), fun M7 e7 => ?_⟩
      rw [lt32 (by omega)] at e7
      have k7 : GmF g (fun f => f = 9 ∨ f = 12 ∨ f = 13) (fun r => r = nx) M4 M7 := GmF.a rfl e7
      have r4 : RoG M4 nx := hr.k (by rw [e4']; rfl)
      exact K M7 (BwF.gm gs (k4.tr k7)) (r4.up (fun _ => hx.cut) e7)
    · have k9 : GmF g (fun f => f = 9 ∨ f = 12 ∨ f = 13) (fun r => r = nx) M M9 := GmF.i (Or.inr (Or.inl rfl)) e9
      exact K M9 (BwF.gm gs k9) (hr.k (by rw [e9]; rfl))
  have vs : vp_in (Int32.ofNat s) (mL M mx) := by rw [hP.2.2.1.2]; exact vp_of hs (by decide)
  have v4 : vp_in (Int32.ofNat (4 + s)) (mL M nx) := by rw [hS.2.1.2.1.2]; exact vp_of (by omega) (by decide)
  refine KX2_emitNumber (h := h + 1) ?_
  unfold DX2_emitNumber_0 DX2_emitNumber_77
  rw [e4]
  refine ⟨hS.1.1, fun _ => f79 _, fun _ => ⟨c, hS.1.2.1, hP.1.1, mx, hP.1.2.2.1, hP.2.2.1.1, vs, fun _ => ⟨c, hS.1.2.1, hP.1.1, mx, hP.1.2.2.1, hP.2.2.1.1, vs, fun _ => ⟨nx, hS.1.2.2.2.1, hS.2.1.2.1.1, v4, f79 _⟩, fun _ => ⟨nx, hS.1.2.2.2.1, hS.2.1.2.1.1, v4, f79 _⟩⟩, fun _ M14 e14 => ?_⟩⟩
  have k14 : GmF g (fun f => f = 9 ∨ f = 12 ∨ f = 13) (fun r => r = nx) M M14 := GmF.i (Or.inr (Or.inl rfl)) e14
  exact K M14 (BwF.gm gs k14) (hr.k (by rw [e14]; rfl))
theorem S_wkPt (hl : X.length ≤ 810) (hS : GvS M g c nw nx kp gn wr nP ks) (hP : PlS M c sm cc stc mx ia I cs) (rw1 : RoG M nw) (rx : RoG M nx) (hp : PtK M X cs p) (h0 : mI M p 3 ≠ 0) (K : ∀ M', BwF g sm stc nx M M' → RoG M' nx → Q none M') : E (h + 6) mdX2_workPart [.ref g, .ref p] M Q := by
  have gs := hS.nsm hP.2.1.1.1
  obtain ⟨op, q⟩ := hp
  have pg : p ≠ g := fun z => by
    have w := op.2
    rw [z, hS.1.1.2] at w
    exact absurd w (by decide)
  have psm : p ≠ sm := fun z => by
    have w := op.2
    rw [z, hP.2.1.1.1.2] at w
    exact absurd w (by decide)
  refine KX2_workPart (h := h + 5) ?_
  unfold DX2_workPart_0 DX2_workPart_103
  refine ⟨op, fun n3 => ?_, fun e3 => ?_⟩
  · have hs5 : SuPt M X cs p 5 := by
      rcases q with q | q | q | q
      · exact absurd q h0
      · exact q.2.2
      · exact q.2.2
      · exact absurd q.1 n3
    refine ⟨hS.1.1, c, hS.1.2.1, hP.1.1, sm, hP.1.2.1, nx, hS.1.2.2.2.1, hP.2.1.1.1, S_wk0 (h := h + 1) hl hP rx hS.2.1.2.1.1 hS.2.1.2.1.2 hs5 (fun M8 r8 k8 hg8 _ => ⟨r8, rfl, ?_⟩)⟩
    have S8 := hS.wc k8
    have P8 := hP.wc k8
    refine ⟨c, S8.1.2.1, P8.1.1, sm, P8.1.2.1, P8.2.1.1.1, fun M14 e14 => ?_⟩
    have b8 : BwF g sm stc nx M M8 := BwF.wc gs k8
    have k14 : GmF g (fun f => f = 9 ∨ f = 12 ∨ f = 13) (fun r => r = nx) M8 M14 := GmF.i (Or.inr (Or.inl rfl)) e14
    have b14 : BwF g sm stc nx M M14 := b8.tr (BwF.gm gs k14)
    have S14 := S8.gm k14
    have r14 : RoG M14 nx := (rx.wc k8).k (by rw [e14]; rfl)
    have p3 : ∀ f, mI M14 p f = mI M p f := fun f => by rw [e14, mI_wI, if_neg (fun z => pg z.1), k8.2.2.1 p psm]
    rw [p3, p3]
    refine ⟨fun _ => ⟨fun n2 => ?_, fun e2 => ?_⟩, fun _ => K M14 b14 r14⟩
    · have h1 : ∃ s, s < 16 ∧ mI M p 4 = Int32.ofNat s := by
        rcases q with q | q | q | q
        · exact absurd q h0
        · exact q.2.1
        · exact absurd q.1 n2
        · exact absurd q.1 n3
      obtain ⟨s, hs, es⟩ := h1
      rw [es]
      have P14 : PlS M14 c sm cc stc mx ia I cs := by
        obtain ⟨⟨a1, a2, a3, a4, a5⟩, b, ⟨c1, c2⟩, ⟨d1, d2, d3, d4⟩⟩ := P8
        have cg : c ≠ g := fun z => by
          have w := a1.2
          rw [z, S8.1.1.2] at w
          exact absurd w (by decide)
        have sg : sm ≠ g := fun z => gs z.symm
        rw [e14]
        obtain ⟨⟨s1, s2, s3, s4, s5, s6, s7, s8⟩, t, u⟩ := b
        exact ⟨⟨a1, a2, a3, a4, by rw [mI_wI, if_neg (fun z => cg z.1)]; exact a5⟩, ⟨⟨s1, s2, s3, by rw [mI_wI, if_neg (fun z => sg z.1)]; exact s4, s5, s6, s7, s8⟩, t, u⟩, ⟨c1, c2⟩, ⟨d1, d2, d3, d4⟩⟩
      refine S_emit (h := h + 3) S14 P14 r14 hs (fun M15 b15 r15 _ => ⟨rfl, K M15 (b14.tr b15) r15⟩)
    · have h1 : ∃ v, v < 6 ∧ mI M p 4 = Int32.ofNat v := by
        rcases q with q | q | q | q
        · exact absurd q h0
        · rw [q.1] at e2; exact absurd e2 (by decide)
        · exact q.2.1
        · exact absurd q.1 n3
      obtain ⟨v, hv, ev⟩ := h1
      have e20 : (20 : Int32) + Int32.ofNat v = Int32.ofNat (20 + v) := (Int32.ofNat_add 20 v).symm
      rw [ev, e20]
      refine ⟨nx, S14.1.2.2.2.1, S14.2.1.2.1.1, by rw [S14.2.1.2.1.2]; exact vp_of (by omega) (by decide), fun M18 e18 => ?_⟩
      rw [lt32 (by omega)] at e18
      have k18 : GmF g (fun f => f = 9 ∨ f = 12 ∨ f = 13) (fun r => r = nx) M14 M18 := GmF.a rfl e18
      exact K M18 (b14.tr (BwF.gm gs k18)) (r14.up (fun _ => hg8) e18)
  · have hq : SuPt M X cs p 5 ∧ SuPt M X cs p 6 := by
      rcases q with q | q | q | q
      · exact absurd q h0
      · rw [q.1] at e3; exact absurd e3 (by decide)
      · rw [q.1] at e3; exact absurd e3 (by decide)
      · exact q.2
    refine ⟨hS.1.1, S_isSo (h := h) hl hS hP rw1 op hq.1 hq.2 (fun M20 r20 k20 _ _ => ⟨r20, rfl, ?_⟩)⟩
    have S20 := hS.wc k20
    have P20 := hP.wc k20
    refine ⟨c, S20.1.2.1, P20.1.1, sm, P20.1.2.1, P20.2.1.1.1, fun M26 e26 => ?_⟩
    have k26 : GmF g (fun f => f = 9 ∨ f = 12 ∨ f = 13) (fun r => r = nx) M20 M26 := GmF.i (Or.inr (Or.inl rfl)) e26
    exact K M26 ((BwF.wc gs k20).tr (BwF.gm gs k26)) ((rx.wc k20).k (by rw [e26]; rfl))
theorem S_takG (hS : GvS M g c nw nx kp gn wr nP ks) (hP : PlS M c sm cc stc mx ia I cs) (n2 : nx ≠ ia) (rx : RoG M nx) (rg : ∀ j, j < 4 → InG (mAI M gn j).toInt64) (K : ∀ M', GmF g (fun _ => False) (fun r => r = nx) M M' → RoG M' nx → Q none M') : E (h + 1) mdX2_takeGivenNumbers [.ref g] M Q := by
  have main : ∀ d i M1, i + d = I → GmF g (fun _ => False) (fun r => r = nx) M M1 → RoG M1 nx → T (h + 1) mdX2_takeGivenNumbers 2 [(0, .ref g), (1, .int (Int32.ofNat i))] [] M1 Q := by
    intro d
    have I4 : I ≤ 4 := hP.2.2.2.2.2.1
    induction d with
    | zero =>
      intro i M1 hi k1 r1
      have S1 := hS.gm k1
      have e10 : mI M1 c 10 = Int32.ofNat I := by
        have cg : c ≠ g := fun z => by
          have w := hP.1.1.2
          rw [z, hS.1.1.2] at w
          exact absurd w (by decide)
        rw [k1.2.2.1 c cg]; exact hP.1.2.2.2.2
      refine VX2_takeGivenNumbers_2 ?_
      unfold DX2_takeGivenNumbers_2
      refine ⟨S1.1.1, c, S1.1.2.1, k1.ok hP.1.1, fun _ => K M1 k1 r1, fun z => absurd ?_ z⟩
      rw [e10, show i = I by omega]
      exact (le32 (by omega) (by omega)).mpr (Nat.le_refl _)
    | succ d ih =>
      intro i M1 hi k1 r1
      have S1 := hS.gm k1
      have cg : c ≠ g := fun z => by
        have w := hP.1.1.2
        rw [z, hS.1.1.2] at w
        exact absurd w (by decide)
      have e10 : mI M1 c 10 = Int32.ofNat I := by rw [k1.2.2.1 c cg]; exact hP.1.2.2.2.2
      obtain ⟨s, hs, es⟩ := hP.2.2.2.2.2.2 i (by omega)
      have rI : ∀ f, mR M1 c f = mR M c f := fun f => by rw [k1.2.1.2.1]
      have lI : mL M1 = mL M := k1.1.2.2.2
      have eia : mAI M1 ia i = Int32.ofNat s := by rw [k1.2.2.2.2 ia (fun z => n2 z.symm)]; exact es
      have egn : mAI M1 gn = mAI M gn := k1.2.2.2.2 gn hS.2.2.2.2.2.1
      have e4 : (4 : Int32) + Int32.ofNat s = Int32.ofNat (4 + s) := (Int32.ofNat_add 4 s).symm
      refine VX2_takeGivenNumbers_2 ?_
      unfold DX2_takeGivenNumbers_2 DX2_takeGivenNumbers_60
      rw [succ32, lt32 (show i < 2147483648 by omega)]
      refine ⟨S1.1.1, c, S1.1.2.1, k1.ok hP.1.1, fun z => ?_, fun _ => ⟨c, S1.1.2.1, k1.ok hP.1.1, ia, by rw [rI]; exact hP.1.2.2.2.1, k1.ok hP.2.2.2.1, by rw [lI, hP.2.2.2.2.1]; exact vp_of (by omega) (by decide), fun _ => ih (i + 1) M1 (by omega) k1 r1, fun _ => ?_⟩⟩
      · rw [e10] at z
        have := (le32 (by omega) (by omega)).mp z
        omega
      rw [eia, e4, lt32 (show s < 2147483648 by omega), lt32 (show 4 + s < 2147483648 by omega)]
      refine ⟨c, S1.1.2.1, k1.ok hP.1.1, mx, by rw [rI]; exact hP.1.2.2.1, k1.ok hP.2.2.1.1, by rw [lI, hP.2.2.1.2]; exact vp_of hs (by decide), fun _ => ih (i + 1) M1 (by omega) k1 r1, fun _ => ⟨nx, S1.1.2.2.2.1, gn, S1.1.2.2.2.2.2.1, S1.2.1.2.2.1.1, by rw [S1.2.1.2.2.1.2]; exact vp_of (by omega) (by decide), S1.2.1.2.1.1, by rw [S1.2.1.2.1.2]; exact vp_of (by omega) (by decide), fun M16 e16 => ?_⟩⟩
      have k16 : GmF g (fun _ => False) (fun r => r = nx) M1 M16 := GmF.a rfl e16
      refine ih (i + 1) M16 (by omega) (k1.tr k16) (r1.up (fun _ => ?_) e16)
      rw [egn]
      exact rg i (by omega)
  refine KX2_takeGivenNumbers ?_
  unfold DX2_takeGivenNumbers_0
  exact main I 0 M (by omega) GmF.rf rx
end
end
section
/-! the reference's governors: what is asked of them, how they are kept and brought back -/
theorem in_nat {x : Int32} {k : Nat} (hk : k ≤ 100000) : ((0 : Int64) ≤ x.toInt64 ∧ x.toInt64 ≤ (Int32.ofNat k - 1).toInt64) ↔ ∃ i, i < k ∧ x = Int32.ofNat i := by
  have e1 : (Int32.ofNat k - 1).toInt = (k : Int) - 1 := by
    have e0 : (Int32.ofNat k).toInt = k := ti32 (by omega)
    have e6 : (1 : Int32).toInt = 1 := by decide
    rw [j_sub, e0, e6]; omega
  have z : (0 : Int64).toInt = 0 := by decide
  rw [Int64.le_iff_toInt_le, Int64.le_iff_toInt_le, Int32.toInt_toInt64, Int32.toInt_toInt64, e1, z]
  constructor
  · rintro ⟨h1, h2⟩
    refine ⟨x.toInt.toNat, by omega, Int32.toInt_inj.mp ?_⟩
    rw [ti32 (by omega)]; omega
  · rintro ⟨i, hi, rfl⟩
    rw [ti32 (by omega)]; omega
/-- the row that tells who is ahead of its first beat holds truths -/
def Bo (M : Mem) : Prop := ∀ j, mAI M 103 j = 0 ∨ mAI M 103 j = 1
/-- the reference: how many modules and governors; each governor's module, and how often it is kept; counts of each module -/
def RGs (M : Mem) (mods govs : Nat) : Prop := Fix M ∧ (mI M 29 18 = Int32.ofNat mods ∧ mods ≤ 4 ∧ Bo M) ∧ (mI M 29 91 = Int32.ofNat govs ∧ govs ≤ 8) ∧ (∀ g, g < govs → ∃ m, m < mods ∧ mAI M 102 g = Int32.ofNat m) ∧ (∀ g, g < govs → ∃ q, q ≤ 3 ∧ mAI M 110 g = Int32.ofNat q) ∧ ∀ m, m < mods → (∃ k, k ≤ 16 ∧ mAI M 34 m = Int32.ofNat k) ∧ (∃ k, k ≤ 4 ∧ mAI M 35 m = Int32.ofNat k) ∧ (∃ k, k ≤ 6 ∧ mAI M 36 m = Int32.ofNat k) ∧ (∃ k, k ≤ 40 ∧ mAI M 54 m = Int32.ofNat k) ∧ (∃ k, k ≤ 24 ∧ mAI M 55 m = Int32.ofNat k)
section
variable {M M' : Mem} {mods govs h : Nat} {Q : Option Value → Mem → Prop} {x y z : Int32}
theorem S_inN {k : Nat} (hk : k ≤ 100000) (K1 : ∀ i, i < k → x = Int32.ofNat i → Q (some (.int 1)) M) (K0 : (∀ i, i < k → x ≠ Int32.ofNat i) → Q (some (.int 0)) M) : E (h + 1) mdX11_in [.long x.toInt64, .long 0, .long ((Int32.ofNat k - 1 : Int32).toInt64)] M Q := by
  refine S_in ?_
  by_cases z : (0 : Int64) ≤ x.toInt64 ∧ x.toInt64 ≤ (Int32.ofNat k - 1).toInt64
  · rw [if_pos z]
    obtain ⟨i, hi, e⟩ := (in_nat hk).mp z
    exact K1 i hi e
  · rw [if_neg z]
    exact K0 (fun i hi e => z ((in_nat hk).mpr ⟨i, hi, e⟩))
theorem R_isMod (hR : RGs M mods govs) (K1 : ∀ i, i < mods → x = Int32.ofNat i → Q (some (.int 1)) M) (K0 : (∀ i, i < mods → x ≠ Int32.ofNat i) → Q (some (.int 0)) M) : E (h + 2) mdX11_isModule [.ref 29, .int x] M Q := by
  obtain ⟨F, ⟨e18, hm⟩, -⟩ := hR
  refine KX11_isModule (h := h + 1) ?_
  unfold DX11_isModule_0
  rw [e18]
  exact ⟨ok29 F, S_inN (h := h) (by omega) (fun i hi e _ => ⟨1, rfl, Or.inr rfl, K1 i hi e⟩) (fun z _ => ⟨0, rfl, Or.inl rfl, K0 z⟩)⟩
theorem R_isGov (hR : RGs M mods govs) (K1 : ∀ i, i < govs → x = Int32.ofNat i → Q (some (.int 1)) M) (K0 : (∀ i, i < govs → x ≠ Int32.ofNat i) → Q (some (.int 0)) M) : E (h + 2) mdX11_isGovernor [.ref 29, .int x] M Q := by
  obtain ⟨F, -, ⟨e91, hg⟩, -⟩ := hR
  refine KX11_isGovernor (h := h + 1) ?_
  unfold DX11_isGovernor_0
  rw [e91]
  exact ⟨ok29 F, S_inN (h := h) (by omega) (fun i hi e _ => ⟨1, rfl, Or.inr rfl, K1 i hi e⟩) (fun z _ => ⟨0, rfl, Or.inl rfl, K0 z⟩)⟩
theorem R_present (hR : RGs M mods govs) (K : ∀ r : Int32, Q (some (.int r)) M) : E (h + 3) mdX11_present [.ref 29, .int x, .int y] M Q := by
  obtain ⟨F, ⟨-, hm⟩, ⟨-, hg⟩, gm, -, mc⟩ := id hR
  refine KX11_present (h := h + 2) ?_
  unfold DX11_present_0 DX11_present_44 DX11_present_45
  refine ⟨ok29 F, R_isGov (h := h) hR (fun i hi e _ => ⟨1, rfl, fun z => absurd z (by decide), fun _ => ?_⟩) (fun _ _ => ⟨0, rfl, fun _ => K _, fun z => absurd rfl z⟩)⟩
  obtain ⟨m, hm2, em⟩ := gm i hi
  obtain ⟨⟨k, hk, ek⟩, -⟩ := mc m hm2
  rw [e, lt32 (show i < 2147483648 by omega)]
  refine ⟨34, rf29_8 F, 102, rf29_92 F, ok102 F, by rw [ln102 F]; exact vp_of (by omega) (by decide), ok34 F, ?_⟩
  rw [em, lt32 (show m < 2147483648 by omega), ek]
  refine ⟨by rw [ln34 F]; exact vp_of (by omega) (by decide), S_inN (h := h + 1) (by omega) (fun j hj ey _ => ⟨1, rfl, fun z => absurd z (by decide), fun _ => ⟨116, rf29_106 F, ok116 F, by rw [ln116 F]; exact vp_of (by omega) (by decide), K _⟩⟩) (fun _ _ => ⟨0, rfl, fun _ => K _, fun z => absurd rfl z⟩)⟩
theorem R_value (hR : RGs M mods govs) (K : ∀ r : Int32, Q (some (.int r)) M) : E (h + 3) mdX11_value [.ref 29, .int x, .int y] M Q := by
  obtain ⟨F, ⟨-, hm⟩, ⟨-, hg⟩, gm, -, mc⟩ := id hR
  refine KX11_value (h := h + 2) ?_
  unfold DX11_value_0 DX11_value_46 DX11_value_47
  refine ⟨ok29 F, R_isGov (h := h) hR (fun i hi e _ => ⟨1, rfl, fun z => absurd z (by decide), fun _ => ?_⟩) (fun _ _ => ⟨0, rfl, fun _ => K _, fun z => absurd rfl z⟩)⟩
  obtain ⟨m, hm2, em⟩ := gm i hi
  obtain ⟨⟨k, hk, ek⟩, -⟩ := mc m hm2
  rw [e, lt32 (show i < 2147483648 by omega)]
  refine ⟨34, rf29_8 F, 102, rf29_92 F, ok102 F, by rw [ln102 F]; exact vp_of (by omega) (by decide), ok34 F, ?_⟩
  rw [em, lt32 (show m < 2147483648 by omega), ek]
  refine ⟨by rw [ln34 F]; exact vp_of (by omega) (by decide), S_inN (h := h + 1) (by omega) (fun j hj ey _ => ⟨1, rfl, fun z => absurd z (by decide), fun _ => ⟨107, rf29_97 F, ok107 F, ?_, K _⟩⟩) (fun _ _ => ⟨0, rfl, fun _ => K _, fun z => absurd rfl z⟩)⟩
  have e16 : 16 * Int32.ofNat i + Int32.ofNat j = Int32.ofNat (16 * i + j) := by rw [Int32.ofNat_add, Int32.ofNat_mul]; rfl
  rw [ey, e16, ln107 F]
  exact vp_of (by omega) (by decide)
theorem R_variable (hR : RGs M mods govs) (K : ∀ r : Int32, Q (some (.int r)) M) : E (h + 3) mdX11_variable [.ref 29, .int x, .int y] M Q := by
  obtain ⟨F, ⟨-, hm⟩, ⟨-, hg⟩, gm, -, mc⟩ := id hR
  refine KX11_variable (h := h + 2) ?_
  unfold DX11_variable_0 DX11_variable_46 DX11_variable_47
  refine ⟨ok29 F, R_isGov (h := h) hR (fun i hi e _ => ⟨1, rfl, fun z => absurd z (by decide), fun _ => ?_⟩) (fun _ _ => ⟨0, rfl, fun _ => K _, fun z => absurd rfl z⟩)⟩
  obtain ⟨m, hm2, em⟩ := gm i hi
  obtain ⟨-, -, ⟨k, hk, ek⟩, -⟩ := mc m hm2
  rw [e, lt32 (show i < 2147483648 by omega)]
  refine ⟨36, rf29_10 F, 102, rf29_92 F, ok102 F, by rw [ln102 F]; exact vp_of (by omega) (by decide), ok36 F, ?_⟩
  rw [em, lt32 (show m < 2147483648 by omega), ek]
  refine ⟨by rw [ln36 F]; exact vp_of (by omega) (by decide), S_inN (h := h + 1) (by omega) (fun j hj ey _ => ⟨1, rfl, fun z => absurd z (by decide), fun _ => ⟨108, rf29_98 F, ok108 F, ?_, K _⟩⟩) (fun _ _ => ⟨0, rfl, fun _ => K _, fun z => absurd rfl z⟩)⟩
  have e16 : 6 * Int32.ofNat i + Int32.ofNat j = Int32.ofNat (6 * i + j) := by rw [Int32.ofNat_add, Int32.ofNat_mul]; rfl
  rw [ey, e16, ln108 F]
  exact vp_of (by omega) (by decide)
theorem R_paused (hR : RGs M mods govs) (K : ∀ r : Int32, Q (some (.int r)) M) : E (h + 3) mdX11_paused [.ref 29, .int x, .int y] M Q := by
  obtain ⟨F, ⟨-, hm⟩, ⟨-, hg⟩, gm, -, mc⟩ := id hR
  refine KX11_paused (h := h + 2) ?_
  unfold DX11_paused_0 DX11_paused_44 DX11_paused_45
  refine ⟨ok29 F, R_isGov (h := h) hR (fun i hi e _ => ⟨1, rfl, fun z => absurd z (by decide), fun _ => ?_⟩) (fun _ _ => ⟨0, rfl, fun _ => K _, fun z => absurd rfl z⟩)⟩
  obtain ⟨m, hm2, em⟩ := gm i hi
  obtain ⟨-, -, -, -, ⟨k, hk, ek⟩⟩ := mc m hm2
  rw [e, lt32 (show i < 2147483648 by omega)]
  refine ⟨55, rf29_35 F, 102, rf29_92 F, ok102 F, by rw [ln102 F]; exact vp_of (by omega) (by decide), ok55 F, ?_⟩
  rw [em, lt32 (show m < 2147483648 by omega), ek]
  exact ⟨by rw [ln55 F]; exact vp_of (by omega) (by decide), S_inN (h := h + 1) (by omega) (fun j hj ey _ => ⟨1, rfl, fun z => absurd z (by decide), fun _ => ⟨105, rf29_95 F, ok105 F, by rw [ln105 F]; exact vp_of (by omega) (by decide), K _⟩⟩) (fun _ _ => ⟨0, rfl, fun _ => K _, fun z => absurd rfl z⟩)⟩
theorem R_wire (hR : RGs M mods govs) (K : ∀ r : Int32, Q (some (.int r)) M) : E (h + 3) mdX11_wire [.ref 29, .int x, .int y, .int z] M Q := by
  obtain ⟨F, ⟨-, hm⟩, ⟨-, hg⟩, gm, -, mc⟩ := id hR
  refine KX11_wire (h := h + 2) ?_
  unfold DX11_wire_0 DX11_wire_62 DX11_wire_63
  refine ⟨ok29 F, R_isGov (h := h) hR (fun i hi e _ => ⟨1, rfl, fun z => absurd z (by decide), fun _ => ?_⟩) (fun _ _ => ⟨0, rfl, fun _ => K _, fun z => absurd rfl z⟩)⟩
  obtain ⟨m, hm2, em⟩ := gm i hi
  obtain ⟨-, -, -, ⟨k, hk, ek⟩, -⟩ := mc m hm2
  rw [e, lt32 (show i < 2147483648 by omega)]
  refine ⟨54, rf29_34 F, 102, rf29_92 F, ok102 F, by rw [ln102 F]; exact vp_of (by omega) (by decide), ok54 F, ?_⟩
  rw [em, lt32 (show m < 2147483648 by omega), ek]
  refine ⟨by rw [ln54 F]; exact vp_of (by omega) (by decide), S_inN (h := h + 1) (by omega) (fun j hj ey _ => ⟨1, rfl, fun z => absurd z (by decide), fun _ => ?_⟩) (fun _ _ => ⟨0, rfl, fun _ => K _, fun z => absurd rfl z⟩)⟩
  have e5 : (4 : Int64) = (Int32.ofNat 5 - 1).toInt64 := by decide
  rw [e5]
  refine S_inN (h := h + 1) (by decide) (fun w hw ew _ => ⟨1, rfl, fun z => absurd z (by decide), fun _ => ⟨117, rf29_107 F, ok117 F, ?_, K _⟩⟩) (fun _ _ => ⟨0, rfl, fun _ => K _, fun z => absurd rfl z⟩)
  have e16 : 200 * Int32.ofNat i + 5 * Int32.ofNat j + Int32.ofNat w = Int32.ofNat (200 * i + 5 * j + w) := by rw [Int32.ofNat_add, Int32.ofNat_add, Int32.ofNat_mul, Int32.ofNat_mul]; rfl
  rw [ey, ew, e16, ln117 F]
  exact vp_of (by omega) (by decide)
theorem S_bits (K : ∀ r : Int32, Q (some (.int r)) M) : E (h + 1) mdX11_bits [.int x] M Q := by
  have main : ∀ d i (s : Int32), i + d = 31 → T (h + 1) mdX11_bits 4 [(0, .int x), (1, .int s), (2, .int (Int32.ofNat i))] [] M Q := by
    intro d
    induction d with
    | zero =>
      intro i s hi
      have e : i = 31 := by omega
      subst e
      refine VX11_bits_4 ?_
      unfold DX11_bits_4
      exact ⟨fun _ => K _, fun z => absurd Int32.le_rfl z⟩
    | succ d ih =>
      intro i s hi
      have nle : ¬ (31 : Int32) ≤ Int32.ofNat i := fun z => by
        have := (le32 (a := 31) (by decide) (by omega)).mp z
        omega
      refine VX11_bits_4 ?_
      unfold DX11_bits_4
      rw [succ32]
      exact ⟨fun z => absurd z nle, fun _ => ih (i + 1) _ (by omega)⟩
  refine KX11_bits ?_
  unfold DX11_bits_0
  exact main 31 0 0 (by omega)
theorem R_told (hR : RGs M mods govs) (K : ∀ r : Int32, Q (some (.int r)) M) : E (h + 3) mdX11_told [.ref 29, .int x, .int y] M Q := by
  obtain ⟨F, ⟨-, hm⟩, ⟨-, hg⟩, -⟩ := id hR
  refine KX11_told (h := h + 2) ?_
  unfold DX11_told_0 DX11_told_87
  refine ⟨ok29 F, R_isGov (h := h) hR (fun i hi e _ => ⟨1, rfl, fun _ => ?_, fun z => absurd z (by decide)⟩) (fun _ _ => ⟨0, rfl, fun z => absurd rfl z, fun _ => K _⟩)⟩
  have v : ∀ {k n : Nat}, k = n → 8 ≤ n → n < 100000 → vp_in x k := fun e1 h1 h2 => by rw [e, e1]; exact vp_of (by omega) (by omega)
  exact ⟨fun _ => ⟨109, rf29_99 F, ok109 F, v (ln109 F) (by decide) (by decide), K _⟩, fun _ => ⟨105, rf29_95 F, ok105 F, v (ln105 F) (by decide) (by decide), S_bits (h := h + 1) (fun r _ => ⟨r, rfl, K _⟩)⟩, fun _ => ⟨104, rf29_94 F, ok104 F, v (ln104 F) (by decide) (by decide), fun _ => K _, fun _ => K _⟩, fun _ => ⟨113, rf29_103 F, ok113 F, v (ln113 F) (by decide) (by decide), K _⟩, fun _ => ⟨114, rf29_104 F, ok114 F, v (ln114 F) (by decide) (by decide), K _⟩, fun _ => ⟨115, rf29_105 F, ok115 F, v (ln115 F) (by decide) (by decide), K _⟩, fun _ => ⟨102, rf29_92 F, ok102 F, v (ln102 F) (by decide) (by decide), K _⟩, fun _ => ⟨110, rf29_100 F, ok110 F, v (ln110 F) (by decide) (by decide), K _⟩, fun _ => K _⟩
end
end
section
/-! the reference's governors: made, given to, kept, brought back, compared -/
/-- rows that a governor's calls change -/
def gvA (c : Nat) : Prop := (103 ≤ c ∧ c ≤ 106) ∨ c = 109 ∨ c = 111 ∨ (113 ≤ c ∧ c ≤ 117)
def gvJ (c : Nat) : Prop := c = 107 ∨ c = 108 ∨ c = 112
abbrev GvF (M M' : Mem) : Prop := RfF noP gvA gvJ M M'
section
variable {M M1 M' : Mem} {mods govs h g : Nat} {Q : Option Value → Mem → Prop} {x y z : Int32}
theorem GvF.fix (k : GvF M M') (F : Fix M) : Fix M' := RfF.fix k F (by unfold gvJ; omega)
theorem RGs.gv (hR : RGs M mods govs) (k : GvF M M') (hb : Bo M') : RGs M' mods govs := by
  obtain ⟨F, ⟨a1, a2, -⟩, ⟨b1, b2⟩, c, d, e⟩ := hR
  have i : ∀ f, mI M' 29 f = mI M 29 f := fun f => k.2.2.2.1 f (fun z => z)
  have r : ∀ c, ¬ gvA c → mAI M' c = mAI M c := fun c hc => k.2.2.2.2.1 c hc
  have n102 := r 102 (by unfold gvA; omega)
  have n110 := r 110 (by unfold gvA; omega)
  have n34 := r 34 (by unfold gvA; omega)
  have n35 := r 35 (by unfold gvA; omega)
  have n36 := r 36 (by unfold gvA; omega)
  have n54 := r 54 (by unfold gvA; omega)
  have n55 := r 55 (by unfold gvA; omega)
  exact ⟨k.fix F, ⟨by rw [i]; exact a1, a2, hb⟩, ⟨by rw [i]; exact b1, b2⟩, fun g hg => by rw [n102]; exact c g hg, fun g hg => by rw [n110]; exact d g hg, fun m hm => by rw [n34, n35, n36, n54, n55]; exact e m hm⟩
def nsA (c : Nat) : Prop := c = 111 ∨ (113 ≤ c ∧ c ≤ 117)
abbrev NsF (M M' : Mem) : Prop := RfF noP nsA gvJ M M'
theorem NsF.fix (k : NsF M M') (F : Fix M) : Fix M' := RfF.fix k F (by unfold gvJ; omega)
theorem NsF.gv (k : NsF M M') : GvF M M' := RfF.mo k (fun _ z => z) (fun c z => by unfold nsA at z; unfold gvA; omega) (fun _ z => z)
theorem NsF.bo (k : NsF M M') (hb : Bo M) : Bo M' := fun j => by rw [k.2.2.2.2.1 103 (by unfold nsA; omega)]; exact hb j
theorem bo_nar {v : Int32} : vp_nar .boolean v = 0 ∨ vp_nar .boolean v = 1 := by
  have e : vp_nar .boolean v = v &&& 1 := rfl
  rw [e]
  have h : (v &&& 1).toBitVec = BitVec.setWidth 32 (BitVec.ofBool (v.toBitVec.getLsbD 0)) := by
    rw [Int32.toBitVec_and]
    exact BitVec.and_one_eq_setWidth_ofBool_getLsbD
  cases hb : v.toBitVec.getLsbD 0 with
  | false => exact Or.inl (Int32.toBitVec_inj.mp (by rw [h, hb]; rfl))
  | true => exact Or.inr (Int32.toBitVec_inj.mp (by rw [h, hb]; rfl))
theorem R_noAns (F : Fix M) (hg : g < 8) (K : ∀ M', NsF M M' → Q none M') : E (h + 1) mdX11_noAnswer [.ref 29, .int (Int32.ofNat g)] M Q := by
  have main : ∀ d i M1, i + d = 200 → NsF M M1 → T (h + 1) mdX11_noAnswer 37 [(0, .ref 29), (1, .int (Int32.ofNat g)), (2, .int (Int32.ofNat i))] [] M1 Q := by
    intro d
    induction d with
    | zero =>
      intro i M1 hi k1
      have e : i = 200 := by omega
      subst e
      refine VX11_noAnswer_37 ?_
      unfold DX11_noAnswer_37
      exact ⟨fun _ => K M1 k1, fun z => absurd Int32.le_rfl z⟩
    | succ d ih =>
      intro i M1 hi k1
      have F1 := k1.fix F
      have nle : ¬ (200 : Int32) ≤ Int32.ofNat i := fun z => by
        have := (le32 (a := 200) (by decide) (by omega)).mp z
        omega
      have e2 : 200 * Int32.ofNat g + Int32.ofNat i = Int32.ofNat (200 * g + i) := by rw [Int32.ofNat_add, Int32.ofNat_mul]; rfl
      refine VX11_noAnswer_37 ?_
      unfold DX11_noAnswer_37
      rw [e2, succ32]
      exact ⟨fun z => absurd z nle, fun _ => ⟨ok29 F1, 117, rf29_107 F1, ok117 F1, by rw [ln117 F1]; exact vp_of (by omega) (by decide), fun M4 e4 => ih (i + 1) M4 (by omega) (k1.tr (RfF.ai (Or.inr ⟨by decide, by decide⟩) e4))⟩⟩
  have v8 : ∀ {k : Nat}, k = 8 → vp_in (Int32.ofNat g) k := fun e => by rw [e]; exact vp_of hg (by decide)
  refine KX11_noAnswer ?_
  unfold DX11_noAnswer_0
  refine ⟨ok29 F, 113, rf29_103 F, ok113 F, v8 (ln113 F), fun M4 e4 => ?_⟩
  have k4 : NsF M M4 := RfF.ai (Or.inr ⟨by decide, by decide⟩) e4
  have F4 := k4.fix F
  refine ⟨114, rf29_104 F4, ok114 F4, v8 (ln114 F4), fun M7 e7 => ?_⟩
  have k7 : NsF M M7 := k4.tr (RfF.ai (Or.inr ⟨by decide, by decide⟩) e7)
  have F7 := k7.fix F
  refine ⟨115, rf29_105 F7, ok115 F7, v8 (ln115 F7), fun M10 e10 => ?_⟩
  have k10 : NsF M M10 := k7.tr (RfF.ai (Or.inr ⟨by decide, by decide⟩) e10)
  have F10 := k10.fix F
  refine ⟨116, rf29_106 F10, ok116 F10, v8 (ln116 F10), fun M13 e13 => ?_⟩
  have k13 : NsF M M13 := k10.tr (RfF.ai (Or.inr ⟨by decide, by decide⟩) e13)
  have F13 := k13.fix F
  refine ⟨111, rf29_101 F13, ok111 F13, v8 (ln111 F13), fun M16 e16 => ?_⟩
  exact main 200 0 M16 (by omega) (k13.tr (RfF.ai (Or.inl rfl) e16))
theorem R_copy {a b : Nat} (F : Fix M) (hB : Bo M) (ha : a < 32) (hb : b < 32) (K : ∀ M', GvF M M' → Bo M' → Q none M') : E (h + 1) mdX11_copy [.ref 29, .int (Int32.ofNat a), .int (Int32.ofNat b)] M Q := by
  have l2 : ∀ d i M1, i + d = 6 → GvF M M1 → Bo M1 → T (h + 1) mdX11_copy 98 [(0, .ref 29), (1, .int (Int32.ofNat a)), (2, .int (Int32.ofNat b)), (3, .int (Int32.ofNat i))] [] M1 Q := by
    intro d
    induction d with
    | zero =>
      intro i M1 hi k1 o1
      have e : i = 6 := by omega
      subst e
      refine VX11_copy_98 ?_
      unfold DX11_copy_98
      exact ⟨fun _ => K M1 k1 o1, fun z => absurd Int32.le_rfl z⟩
    | succ d ih =>
      intro i M1 hi k1 o1
      have F1 := k1.fix F
      have nle : ¬ (6 : Int32) ≤ Int32.ofNat i := fun z => by
        have := (le32 (a := 6) (by decide) (by omega)).mp z
        omega
      have e1 : 6 * Int32.ofNat a + Int32.ofNat i = Int32.ofNat (6 * a + i) := by rw [Int32.ofNat_add, Int32.ofNat_mul]; rfl
      have e2 : 6 * Int32.ofNat b + Int32.ofNat i = Int32.ofNat (6 * b + i) := by rw [Int32.ofNat_add, Int32.ofNat_mul]; rfl
      refine VX11_copy_98 ?_
      unfold DX11_copy_98
      rw [e1, e2, succ32]
      exact ⟨fun z => absurd z nle, fun _ => ⟨ok29 F1, 108, rf29_98 F1, 108, rf29_98 F1, ok108 F1, by rw [ln108 F1]; exact vp_of (by omega) (by decide), ok108 F1, by rw [ln108 F1]; exact vp_of (by omega) (by decide), fun M6 e6 => ih (i + 1) M6 (by omega) (k1.tr (RfF.aj (Or.inr (Or.inl rfl)) e6)) (by rw [e6]; exact o1)⟩⟩
  have l1 : ∀ d i M1, i + d = 16 → GvF M M1 → Bo M1 → T (h + 1) mdX11_copy 62 [(0, .ref 29), (1, .int (Int32.ofNat a)), (2, .int (Int32.ofNat b)), (3, .int (Int32.ofNat i))] [] M1 Q := by
    intro d
    induction d with
    | zero =>
      intro i M1 hi k1 o1
      have e : i = 16 := by omega
      subst e
      refine VX11_copy_62 ?_
      unfold DX11_copy_62
      exact ⟨fun _ => l2 6 0 M1 (by omega) k1 o1, fun z => absurd Int32.le_rfl z⟩
    | succ d ih =>
      intro i M1 hi k1 o1
      have F1 := k1.fix F
      have nle : ¬ (16 : Int32) ≤ Int32.ofNat i := fun z => by
        have := (le32 (a := 16) (by decide) (by omega)).mp z
        omega
      have e1 : 16 * Int32.ofNat a + Int32.ofNat i = Int32.ofNat (16 * a + i) := by rw [Int32.ofNat_add, Int32.ofNat_mul]; rfl
      have e2 : 16 * Int32.ofNat b + Int32.ofNat i = Int32.ofNat (16 * b + i) := by rw [Int32.ofNat_add, Int32.ofNat_mul]; rfl
      refine VX11_copy_62 ?_
      unfold DX11_copy_62
      rw [e1, e2, succ32]
      exact ⟨fun z => absurd z nle, fun _ => ⟨ok29 F1, 107, rf29_97 F1, 107, rf29_97 F1, ok107 F1, by rw [ln107 F1]; exact vp_of (by omega) (by decide), ok107 F1, by rw [ln107 F1]; exact vp_of (by omega) (by decide), fun M6 e6 => ih (i + 1) M6 (by omega) (k1.tr (RfF.aj (Or.inl rfl) e6)) (by rw [e6]; exact o1)⟩⟩
  have va : ∀ {k : Nat}, k = 32 → vp_in (Int32.ofNat a) k := fun e => by rw [e]; exact vp_of ha (by decide)
  have vb : ∀ {k : Nat}, k = 32 → vp_in (Int32.ofNat b) k := fun e => by rw [e]; exact vp_of hb (by decide)
  refine KX11_copy ?_
  unfold DX11_copy_0
  refine ⟨ok29 F, 103, rf29_93 F, 103, rf29_93 F, ok103 F, va (ln103 F), ok103 F, vb (ln103 F), fun M6 e6 => ?_⟩
  have k6 : GvF M M6 := RfF.ai (Or.inl ⟨by decide, by decide⟩) e6
  have F6 := k6.fix F
  have o6 : Bo M6 := fun j => by
    rw [e6, mAI_wAI]
    by_cases z : j = (Int32.ofNat b).toNatClampNeg
    · rw [if_pos ⟨rfl, z⟩]; exact bo_nar
    · rw [if_neg (fun y => z y.2)]; exact hB j
  refine ⟨104, rf29_94 F6, 104, rf29_94 F6, ok104 F6, va (ln104 F6), ok104 F6, vb (ln104 F6), fun M11 e11 => ?_⟩
  have k11 : GvF M M11 := k6.tr (RfF.ai (Or.inl ⟨by decide, by decide⟩) e11)
  have F11 := k11.fix F
  refine ⟨105, rf29_95 F11, 105, rf29_95 F11, ok105 F11, va (ln105 F11), ok105 F11, vb (ln105 F11), fun M16 e16 => ?_⟩
  have k16 : GvF M M16 := k11.tr (RfF.ai (Or.inl ⟨by decide, by decide⟩) e16)
  have F16 := k16.fix F
  refine ⟨106, rf29_96 F16, 106, rf29_96 F16, ok106 F16, va (ln106 F16), ok106 F16, vb (ln106 F16), fun M21 e21 => ?_⟩
  have k21 : GvF M M21 := k16.tr (RfF.ai (Or.inl ⟨by decide, by decide⟩) e21)
  have F21 := k21.fix F
  refine ⟨109, rf29_99 F21, 109, rf29_99 F21, ok109 F21, va (ln109 F21), ok109 F21, vb (ln109 F21), fun M26 e26 => ?_⟩
  refine l1 16 0 M26 (by omega) (k21.tr (RfF.ai (Or.inr (Or.inl rfl)) e26)) (fun j => ?_)
  rw [e26, mAI_wAI, if_neg (by omega), e21, mAI_wAI, if_neg (by omega), e16, mAI_wAI, if_neg (by omega), e11, mAI_wAI, if_neg (by omega)]
  exact o6 j
/-- one governor's count of kept states becomes q -/
def KpF (g q : Nat) (M M' : Mem) : Prop := RfF noP (fun c => gvA c ∨ c = 110) gvJ M M' ∧ mAI M' 110 g = Int32.ofNat q ∧ (∀ j, j ≠ g → mAI M' 110 j = mAI M 110 j) ∧ Bo M'
theorem RGs.kp {q : Nat} (hR : RGs M mods govs) (hq : q ≤ 3) (k : KpF g q M M') : RGs M' mods govs := by
  obtain ⟨F, ⟨a1, a2, -⟩, ⟨b1, b2⟩, c, d, e⟩ := hR
  obtain ⟨k, k1, k2, k3⟩ := k
  have i : ∀ f, mI M' 29 f = mI M 29 f := fun f => k.2.2.2.1 f (fun z => z)
  have r : ∀ c, ¬ (gvA c ∨ c = 110) → mAI M' c = mAI M c := fun c hc => k.2.2.2.2.1 c hc
  have n102 := r 102 (by unfold gvA; omega)
  have n34 := r 34 (by unfold gvA; omega)
  have n35 := r 35 (by unfold gvA; omega)
  have n36 := r 36 (by unfold gvA; omega)
  have n54 := r 54 (by unfold gvA; omega)
  have n55 := r 55 (by unfold gvA; omega)
  refine ⟨RfF.fix k F (by unfold gvJ; omega), ⟨by rw [i]; exact a1, a2, k3⟩, ⟨by rw [i]; exact b1, b2⟩, fun g hg => by rw [n102]; exact c g hg, fun j hj => ?_, fun m hm => by rw [n34, n35, n36, n54, n55]; exact e m hm⟩
  by_cases z : j = g
  · rw [z]; exact ⟨q, hq, k1⟩
  · rw [k2 j z]; exact d j hj
theorem R_keep (hR : RGs M mods govs) (K0 : (∀ i, i < govs → x ≠ Int32.ofNat i) → Q (some (.int (-1))) M) (K3 : ∀ i, i < govs → x = Int32.ofNat i → mAI M 110 i = Int32.ofNat 3 → Q (some (.int (-3))) M) (K : ∀ i q M', i < govs → x = Int32.ofNat i → q < 3 → mAI M 110 i = Int32.ofNat q → KpF i (q + 1) M M' → Q (some (.int (Int32.ofNat (q + 1)))) M') : E (h + 3) mdX11_keep [.ref 29, .int x] M Q := by
  obtain ⟨F, ⟨-, hm, hB⟩, ⟨-, hg⟩, -, kq, -⟩ := id hR
  refine KX11_keep (h := h + 2) ?_
  unfold DX11_keep_0
  refine ⟨ok29 F, R_isGov (h := h) hR (fun i hi e _ => ⟨1, rfl, fun _ => ?_, fun z => absurd z (by decide)⟩) (fun z _ => ⟨0, rfl, fun z => absurd rfl z, fun _ => K0 z⟩)⟩
  obtain ⟨q, hq, eq⟩ := kq i hi
  have v8 : ∀ {k : Nat}, k = 8 → vp_in x k := fun z => by rw [e, z]; exact vp_of (by omega) (by decide)
  have li : x.toNatClampNeg = i := by rw [e]; exact lt32 (by omega)
  rw [li]
  refine ⟨110, rf29_100 F, ok110 F, v8 (ln110 F), fun n3 => ?_, fun e3 => K3 i hi e e3⟩
  rw [eq] at n3
  have q3 : q < 3 := by
    have : q ≠ 3 := fun z => n3 (by rw [z]; rfl)
    omega
  have ec : (8 : Int32) + 3 * x + Int32.ofNat q = Int32.ofNat (8 + 3 * i + q) := by rw [e, Int32.ofNat_add, Int32.ofNat_add, Int32.ofNat_mul]; rfl
  refine ⟨110, rf29_100 F, ok110 F, v8 (ln110 F), ?_⟩
  rw [eq, ec, e]
  refine R_copy (h := h + 1) F hB (by omega) (by omega) (fun M8 k8 o8 _ => ⟨rfl, ?_⟩)
  have F8 := k8.fix F
  have e8 : mAI M8 110 i = Int32.ofNat q := by rw [k8.2.2.2.2.1 110 (by unfold gvA; omega)]; exact eq
  refine ⟨110, rf29_100 F8, ok110 F8, by rw [ln110 F8]; exact vp_of (by omega) (by decide), by rw [ln110 F8]; exact vp_of (by omega) (by decide), fun M11 e11 => ?_⟩
  rw [e8, succ32] at e11
  have k11 : RfF noP (fun c => gvA c ∨ c = 110) gvJ M M11 := (k8.mo (fun f z => z) (fun c z => Or.inl z) (fun c z => z)).tr (RfF.ai (Or.inr rfl) e11)
  have F11 := RfF.fix k11 F (by unfold gvJ; omega)
  have a11 : mAI M11 110 i = Int32.ofNat (q + 1) := by rw [e11, mAI_wAI, if_pos ⟨rfl, rfl⟩]
  refine ⟨110, rf29_100 F11, ok110 F11, by rw [ln110 F11]; exact vp_of (by omega) (by decide), ?_⟩
  rw [a11]
  refine K i q M11 hi e q3 eq ⟨k11, a11, fun j hj => ?_, fun j => ?_⟩
  · rw [e11, mAI_wAI, if_neg (fun z => hj z.2), k8.2.2.2.2.1 110 (by unfold gvA; omega)]
  · rw [e11, mAI_wAI, if_neg (by omega)]; exact o8 j
theorem R_back (hR : RGs M mods govs) (K0 : (∀ i, i < govs → x ≠ Int32.ofNat i) → Q (some (.int (-1))) M) (K3 : ∀ i, i < govs → x = Int32.ofNat i → mAI M 110 i = Int32.ofNat 0 → Q (some (.int (-2))) M) (K : ∀ i q M', i < govs → x = Int32.ofNat i → q < 3 → mAI M 110 i = Int32.ofNat (q + 1) → KpF i q M M' → Q (some (.int (Int32.ofNat q))) M') : E (h + 3) mdX11_back [.ref 29, .int x] M Q := by
  obtain ⟨F, ⟨-, hm, hB⟩, ⟨-, hg⟩, -, kq, -⟩ := id hR
  refine KX11_back (h := h + 2) ?_
  unfold DX11_back_0
  refine ⟨ok29 F, R_isGov (h := h) hR (fun i hi e _ => ⟨1, rfl, fun _ => ?_, fun z => absurd z (by decide)⟩) (fun z _ => ⟨0, rfl, fun z => absurd rfl z, fun _ => K0 z⟩)⟩
  obtain ⟨q0, hq, eq⟩ := kq i hi
  have li : x.toNatClampNeg = i := by rw [e]; exact lt32 (by omega)
  rw [li]
  refine ⟨110, rf29_100 F, ok110 F, by rw [ln110 F, e]; exact vp_of (by omega) (by decide), fun n0 => ?_, fun e3 => K3 i hi e e3⟩
  rw [eq] at n0
  obtain ⟨q, rfl⟩ : ∃ q, q0 = q + 1 := ⟨q0 - 1, by
    have : q0 ≠ 0 := fun z => n0 (by rw [z]; rfl)
    omega⟩
  refine ⟨110, rf29_100 F, ok110 F, by rw [ln110 F, e]; exact vp_of (by omega) (by decide), by rw [ln110 F, e]; exact vp_of (by omega) (by decide), fun M8 e8 => ?_⟩
  rw [eq, show Int32.ofNat (q + 1) - 1 = Int32.ofNat q from sub1] at e8
  have k8 : RfF noP (fun c => gvA c ∨ c = 110) gvJ M M8 := RfF.ai (Or.inr rfl) e8
  have F8 := RfF.fix k8 F (by unfold gvJ; omega)
  have a8 : mAI M8 110 i = Int32.ofNat q := by rw [e8, mAI_wAI, if_pos ⟨rfl, rfl⟩]
  have o8 : Bo M8 := fun j => by rw [e8, mAI_wAI, if_neg (by omega)]; exact hB j
  have ec : (8 : Int32) + 3 * x + Int32.ofNat q = Int32.ofNat (8 + 3 * i + q) := by rw [e, Int32.ofNat_add, Int32.ofNat_add, Int32.ofNat_mul]; rfl
  refine ⟨110, rf29_100 F8, ok110 F8, by rw [ln110 F8, e]; exact vp_of (by omega) (by decide), ?_⟩
  rw [a8, ec, e]
  refine R_copy (h := h + 1) F8 o8 (by omega) (by omega) (fun M11 k11 o11 _ => ⟨rfl, R_noAns (h := h + 1) (k11.fix F8) (by omega) (fun M12 k12 _ => ⟨rfl, ?_⟩)⟩)
  have kk := k11.tr k12.gv
  have F12 := RfF.fix kk F8 (by unfold gvJ; omega)
  have a12 : mAI M12 110 = mAI M8 110 := kk.2.2.2.2.1 110 (by unfold gvA; omega)
  refine ⟨110, rf29_100 F12, ok110 F12, by rw [ln110 F12]; exact vp_of (by omega) (by decide), ?_⟩
  rw [a12, a8]
  refine K i q M12 hi e (by omega) eq ⟨k8.tr (kk.mo (fun f z => z) (fun c z => Or.inl z) (fun c z => z)), by rw [a12]; exact a8, fun j hj => ?_, k12.bo o11⟩
  rw [a12, e8, mAI_wAI, if_neg (fun z => hj z.2)]
end
end
section
/-! the reference's governors: given to, made, compared -/
section
variable {M M1 M' : Mem} {mods govs h g : Nat} {Q : Option Value → Mem → Prop} {x y z w : Int32}
theorem R_give (hR : RGs M mods govs) (K0 : ∀ r : Int32, Q (some (.int r)) M) (K : ∀ M', NsF M M' → Q (some (.int 1)) M') : E (h + 3) mdX11_give [.ref 29, .int x, .int y, .int z, .int w] M Q := by
  obtain ⟨F, ⟨-, hm⟩, ⟨-, hg⟩, gm, -, mc⟩ := id hR
  refine KX11_give (h := h + 2) ?_
  unfold DX11_give_0 DX11_give_46
  refine ⟨ok29 F, R_isGov (h := h) hR (fun i hi e _ => ⟨1, rfl, fun z => absurd z (by decide), fun _ => ?_⟩) (fun _ _ => ⟨0, rfl, fun _ => K0 _, fun z => absurd rfl z⟩)⟩
  obtain ⟨m, hm2, em⟩ := gm i hi
  obtain ⟨-, ⟨k, hk, ek⟩, -⟩ := mc m hm2
  have v8 : ∀ {k : Nat}, k = 8 ∨ k = 32 → vp_in (Int32.ofNat i) k := fun e => by
    rcases e with e | e <;> rw [e] <;> exact vp_of (by omega) (by decide)
  rw [e, lt32 (show i < 2147483648 by omega)]
  refine ⟨35, rf29_9 F, 102, rf29_92 F, ok102 F, v8 (Or.inl (ln102 F)), ok35 F, ?_⟩
  rw [em, lt32 (show m < 2147483648 by omega), ek]
  refine ⟨by rw [ln35 F]; exact vp_of (by omega) (by decide), S_inN (h := h + 1) (by omega) (fun j hj ey _ => ⟨1, rfl, fun z => absurd z (by decide), fun _ => ?_⟩) (fun _ _ => ⟨0, rfl, fun _ => K0 _, fun z => absurd rfl z⟩)⟩
  have fin : ∀ u : Int32, DX11_give_94 (h + 2) 29 (Int32.ofNat i) y w 111 (Int32.ofNat i) u M Q := by
    intro u
    unfold DX11_give_94
    have e4 : 4 * Int32.ofNat i + Int32.ofNat j = Int32.ofNat (4 * i + j) := by rw [Int32.ofNat_add, Int32.ofNat_mul]; rfl
    rw [ey, e4]
    refine ⟨ok111 F, v8 (Or.inl (ln111 F)), fun M2 e2 => ?_⟩
    have k2 : NsF M M2 := RfF.ai (Or.inl rfl) e2
    have F2 := k2.fix F
    exact ⟨ok29 F2, 112, rf29_102 F2, ok112 F2, by rw [ln112 F2]; exact vp_of (by omega) (by decide), fun M6 e6 => K M6 (k2.tr (RfF.aj (Or.inr (Or.inr rfl)) e6))⟩
  refine S_in (h := h + 1) (fun _ => ⟨_, rfl, fun _ => ⟨104, rf29_94 F, ok104 F, v8 (Or.inr (ln104 F)), fun _ => ⟨111, rf29_101 F, fun _ => ⟨111, rf29_101 F, ok111 F, v8 (Or.inl (ln111 F)), fin _⟩, fun _ => ⟨111, rf29_101 F, ok111 F, v8 (Or.inl (ln111 F)), fin _⟩⟩, fun _ => K0 _⟩, fun _ => K0 _⟩)
theorem R_same (hR : RGs M mods govs) (K : ∀ r : Int32, Q (some (.int r)) M) : E (h + 3) mdX11_same [.ref 29, .int x, .int y] M Q := by
  obtain ⟨F, ⟨-, hm⟩, ⟨-, hg⟩, -⟩ := id hR
  refine KX11_same (h := h + 2) ?_
  unfold DX11_same_0 DX11_same_16
  refine ⟨ok29 F, R_isGov (h := h) hR (fun i hi e _ => ⟨1, rfl, fun z => absurd z (by decide), fun _ => ?_⟩) (fun _ _ => ⟨0, rfl, fun _ => K _, fun z => absurd rfl z⟩)⟩
  refine R_isGov (h := h) hR (fun j hj ey _ => ⟨1, rfl, fun _ => ?_, fun z => absurd z (by decide)⟩) (fun _ _ => ⟨0, rfl, fun z => absurd rfl z, fun _ => K _⟩)
  rw [e, ey]
  have l2 : ∀ d k (s : Int32), k + d = 6 → T (h + 3) mdX11_same 159 [(0, .ref 29), (1, .int (Int32.ofNat i)), (2, .int (Int32.ofNat j)), (3, .int s), (4, .int (Int32.ofNat k))] [] M Q := by
    intro d
    induction d with
    | zero =>
      intro k s hk
      have e : k = 6 := by omega
      subst e
      refine VX11_same_159 ?_
      unfold DX11_same_159 DX11_same_219
      exact ⟨fun _ => ⟨fun _ => K _, fun _ => K _⟩, fun z => absurd Int32.le_rfl z⟩
    | succ d ih =>
      intro k s hk
      have nle : ¬ (6 : Int32) ≤ Int32.ofNat k := fun z => by
        have := (le32 (a := 6) (by decide) (by omega)).mp z
        omega
      have e1 : 6 * Int32.ofNat i + Int32.ofNat k = Int32.ofNat (6 * i + k) := by rw [Int32.ofNat_add, Int32.ofNat_mul]; rfl
      have e2 : 6 * Int32.ofNat j + Int32.ofNat k = Int32.ofNat (6 * j + k) := by rw [Int32.ofNat_add, Int32.ofNat_mul]; rfl
      refine VX11_same_159 ?_
      unfold DX11_same_159 DX11_same_202 DX11_same_203
      rw [e1, e2, succ32]
      exact ⟨fun z => absurd z nle, fun _ => ⟨fun _ => ih (k + 1) _ (by omega), fun _ => ⟨ok29 F, 108, rf29_98 F, ok108 F, by rw [ln108 F]; exact vp_of (by omega) (by decide), 108, rf29_98 F, ok108 F, by rw [ln108 F]; exact vp_of (by omega) (by decide), fun _ => ih (k + 1) _ (by omega), fun _ => ih (k + 1) _ (by omega)⟩⟩⟩
  have l1 : ∀ d k (s : Int32), k + d = 16 → T (h + 3) mdX11_same 105 [(0, .ref 29), (1, .int (Int32.ofNat i)), (2, .int (Int32.ofNat j)), (3, .int s), (4, .int (Int32.ofNat k))] [] M Q := by
    intro d
    induction d with
    | zero =>
      intro k s hk
      have e : k = 16 := by omega
      subst e
      refine VX11_same_105 ?_
      unfold DX11_same_105
      exact ⟨fun _ => l2 6 0 s (by omega), fun z => absurd Int32.le_rfl z⟩
    | succ d ih =>
      intro k s hk
      have nle : ¬ (16 : Int32) ≤ Int32.ofNat k := fun z => by
        have := (le32 (a := 16) (by decide) (by omega)).mp z
        omega
      have e1 : 16 * Int32.ofNat i + Int32.ofNat k = Int32.ofNat (16 * i + k) := by rw [Int32.ofNat_add, Int32.ofNat_mul]; rfl
      have e2 : 16 * Int32.ofNat j + Int32.ofNat k = Int32.ofNat (16 * j + k) := by rw [Int32.ofNat_add, Int32.ofNat_mul]; rfl
      refine VX11_same_105 ?_
      unfold DX11_same_105 DX11_same_148 DX11_same_149
      rw [e1, e2, succ32]
      exact ⟨fun z => absurd z nle, fun _ => ⟨fun _ => ih (k + 1) _ (by omega), fun _ => ⟨ok29 F, 107, rf29_97 F, ok107 F, by rw [ln107 F]; exact vp_of (by omega) (by decide), 107, rf29_97 F, ok107 F, by rw [ln107 F]; exact vp_of (by omega) (by decide), fun _ => ih (k + 1) _ (by omega), fun _ => ih (k + 1) _ (by omega)⟩⟩⟩
  have vi : ∀ {k : Nat}, k = 8 ∨ k = 32 → vp_in (Int32.ofNat i) k := fun e => by
    rcases e with e | e <;> rw [e] <;> exact vp_of (by omega) (by decide)
  have vj : ∀ {k : Nat}, k = 8 ∨ k = 32 → vp_in (Int32.ofNat j) k := fun e => by
    rcases e with e | e <;> rw [e] <;> exact vp_of (by omega) (by decide)
  have go : ∀ s : Int32, DX11_same_101 (h + 2) 29 (Int32.ofNat i) (Int32.ofNat j) s M Q := fun s => l1 16 0 s (by omega)
  have go0 : DX11_same_100 (h + 2) 29 (Int32.ofNat i) (Int32.ofNat j) M Q := go 0
  exact ⟨102, rf29_92 F, ok102 F, vi (Or.inl (ln102 F)), 102, rf29_92 F, ok102 F, vj (Or.inl (ln102 F)), fun _ => ⟨103, rf29_93 F, ok103 F, vi (Or.inr (ln103 F)), 103, rf29_93 F, ok103 F, vj (Or.inr (ln103 F)), fun _ => go0, fun _ => ⟨104, rf29_94 F, ok104 F, vi (Or.inr (ln104 F)), 104, rf29_94 F, ok104 F, vj (Or.inr (ln104 F)), fun _ => go0, fun _ => ⟨105, rf29_95 F, ok105 F, vi (Or.inr (ln105 F)), 105, rf29_95 F, ok105 F, vj (Or.inr (ln105 F)), fun _ => go0, fun _ => ⟨106, rf29_96 F, ok106 F, vi (Or.inr (ln106 F)), 106, rf29_96 F, ok106 F, vj (Or.inr (ln106 F)), fun _ => go0, fun _ => go 1⟩⟩⟩⟩, fun _ => K _⟩
/-- a governor of module m is made -/
def GnF (g m : Nat) (M M' : Mem) : Prop := RfF (fun f => f = 91) (fun c => gvA c ∨ c = 102 ∨ c = 110) gvJ M M' ∧ mI M' 29 91 = Int32.ofNat (g + 1) ∧ (mAI M' 102 g = Int32.ofNat m ∧ mAI M' 110 g = 0) ∧ (∀ j, j ≠ g → mAI M' 102 j = mAI M 102 j ∧ mAI M' 110 j = mAI M 110 j) ∧ Bo M'
theorem R_governor (hR : RGs M mods govs) (K0 : (∀ i, i < mods → x ≠ Int32.ofNat i) → Q (some (.int (-1))) M) (K8 : ∀ i, i < mods → x = Int32.ofNat i → govs = 8 → Q (some (.int (-3))) M) (K : ∀ i M', i < mods → x = Int32.ofNat i → govs < 8 → GnF govs i M M' → Q (some (.int (Int32.ofNat govs))) M') : E (h + 3) mdX11_governor [.ref 29, .int x] M Q := by
  obtain ⟨F, ⟨-, hm, hB⟩, ⟨e91, hg⟩, -, -, mc⟩ := id hR
  refine KX11_governor (h := h + 2) ?_
  unfold DX11_governor_0
  refine ⟨ok29 F, R_isMod (h := h) hR (fun i hi e _ => ⟨1, rfl, fun _ => ?_, fun z => absurd z (by decide)⟩) (fun z _ => ⟨0, rfl, fun z => absurd rfl z, fun _ => K0 z⟩)⟩
  rw [e91]
  refine ⟨fun n8 => ?_, fun e8 => K8 i hi e (inj32 (a := govs) (b := 8) (by omega) (by decide) e8)⟩
  have g8 : govs < 8 := by
    have : govs ≠ 8 := fun z => n8 (by rw [z]; rfl)
    omega
  intro M4 e4
  rw [succ32] at e4
  have gF : ∀ {Ma : Mem}, RfF (fun f => f = 91) (fun c => gvA c ∨ c = 102 ∨ c = 110) gvJ M Ma → Fix Ma := fun k => RfF.fix k F (by unfold gvJ; omega)
  have v8 : ∀ {k : Nat}, k = 8 ∨ k = 32 → vp_in (Int32.ofNat govs) k := fun e => by
    rcases e with e | e <;> rw [e] <;> exact vp_of (by omega) (by decide)
  have k4 : RfF (fun f => f = 91) (fun c => gvA c ∨ c = 102 ∨ c = 110) gvJ M M4 := RfF.i rfl e4
  have F4 := gF k4
  have lg : (Int32.ofNat govs).toNatClampNeg = govs := lt32 (by omega)
  rw [lg]
  refine ⟨102, rf29_92 F4, ok102 F4, v8 (Or.inl (ln102 F4)), fun M7 e7 => ?_⟩
  have k7 := k4.tr (RfF.ai (M' := M7) (Or.inr (Or.inl rfl)) e7)
  have F7 := gF k7
  refine ⟨103, rf29_93 F7, ok103 F7, v8 (Or.inr (ln103 F7)), fun M10 e10 => ?_⟩
  have k10 := k7.tr (RfF.ai (M' := M10) (Or.inl (Or.inl ⟨by decide, by decide⟩)) e10)
  have F10 := gF k10
  refine ⟨104, rf29_94 F10, ok104 F10, v8 (Or.inr (ln104 F10)), fun M13 e13 => ?_⟩
  have k13 := k10.tr (RfF.ai (M' := M13) (Or.inl (Or.inl ⟨by decide, by decide⟩)) e13)
  have F13 := gF k13
  refine ⟨105, rf29_95 F13, ok105 F13, v8 (Or.inr (ln105 F13)), fun M16 e16 => ?_⟩
  have k16 := k13.tr (RfF.ai (M' := M16) (Or.inl (Or.inl ⟨by decide, by decide⟩)) e16)
  have F16 := gF k16
  refine ⟨106, rf29_96 F16, ok106 F16, v8 (Or.inr (ln106 F16)), fun M19 e19 => ?_⟩
  have k19 := k16.tr (RfF.ai (M' := M19) (Or.inl (Or.inl ⟨by decide, by decide⟩)) e19)
  have F19 := gF k19
  refine ⟨109, rf29_99 F19, ok109 F19, v8 (Or.inr (ln109 F19)), fun M22 e22 => ?_⟩
  have k22 := k19.tr (RfF.ai (M' := M22) (Or.inl (Or.inr (Or.inl rfl))) e22)
  have F22 := gF k22
  refine ⟨110, rf29_100 F22, ok110 F22, v8 (Or.inl (ln110 F22)), fun M25 e25 => ?_⟩
  have k25 := k22.tr (RfF.ai (M' := M25) (Or.inr (Or.inr rfl)) e25)
  have base : GnF govs i M M25 := by
    refine ⟨k25, ?_, ⟨?_, ?_⟩, fun j hj => ⟨?_, ?_⟩, fun j => ?_⟩
    · rw [e25, e22, e19, e16, e13, e10, e7, e4]
      show mI (wI M 29 91 (Int32.ofNat (govs + 1))) 29 91 = _
      rw [mI_wI, if_pos ⟨rfl, rfl⟩]
    · rw [e25, mAI_wAI, if_neg (by omega), e22, mAI_wAI, if_neg (by omega), e19, mAI_wAI, if_neg (by omega), e16, mAI_wAI, if_neg (by omega), e13, mAI_wAI, if_neg (by omega), e10, mAI_wAI, if_neg (by omega), e7, mAI_wAI, if_pos ⟨rfl, rfl⟩, e]
    · rw [e25, mAI_wAI, if_pos ⟨rfl, rfl⟩]
    · rw [e25, mAI_wAI, if_neg (by omega), e22, mAI_wAI, if_neg (by omega), e19, mAI_wAI, if_neg (by omega), e16, mAI_wAI, if_neg (by omega), e13, mAI_wAI, if_neg (by omega), e10, mAI_wAI, if_neg (by omega), e7, mAI_wAI, if_neg (by omega), e4]
      rfl
    · rw [e25, mAI_wAI, if_neg (by omega), e22, mAI_wAI, if_neg (by omega), e19, mAI_wAI, if_neg (by omega), e16, mAI_wAI, if_neg (by omega), e13, mAI_wAI, if_neg (by omega), e10, mAI_wAI, if_neg (by omega), e7, mAI_wAI, if_neg (by omega), e4]
      rfl
    · rw [e25, mAI_wAI, if_neg (by omega), e22, mAI_wAI, if_neg (by omega), e19, mAI_wAI, if_neg (by omega), e16, mAI_wAI, if_neg (by omega), e13, mAI_wAI, if_neg (by omega), e10, mAI_wAI]
      by_cases z : j = govs
      · rw [if_pos ⟨rfl, z⟩]; exact bo_nar
      · rw [if_neg (fun y => z y.2), e7, mAI_wAI, if_neg (by omega), e4]; exact hB j
  clear e25 e22 e19 e16 e13 e10 e7 e4 k22 k19 k16 k13 k10 k7 k4 F22 F19 F16 F13 F10 F7 F4
  have stp : ∀ {Ma Mb : Mem}, GnF govs i M Ma → NsF Ma Mb → GnF govs i M Mb := by
    intro Ma Mb a k0
    have k := k0.gv
    obtain ⟨a1, a2, ⟨a3, a4⟩, a5, a6⟩ := a
    have r1 : mAI Mb 102 = mAI Ma 102 := k.2.2.2.2.1 102 (by unfold gvA; omega)
    have r2 : mAI Mb 110 = mAI Ma 110 := k.2.2.2.2.1 110 (by unfold gvA; omega)
    exact ⟨a1.tr (k.mo (fun f z => z.elim) (fun c z => Or.inl z) (fun c z => z)), by rw [k.2.2.2.1 91 (fun z => z)]; exact a2, ⟨by rw [r1]; exact a3, by rw [r2]; exact a4⟩, fun j hj => by rw [r1, r2]; exact a5 j hj, k0.bo a6⟩
  obtain ⟨-, -, ⟨vn, hv, ev⟩, -⟩ := mc i hi
  have l2 : ∀ d k Ma, k + d = 6 → GnF govs i M Ma → T (h + 3) mdX11_governor 114 [(0, .ref 29), (1, .int x), (2, .int (Int32.ofNat govs)), (3, .int (Int32.ofNat k))] [] Ma Q := by
    intro d
    induction d with
    | zero =>
      intro k Ma hk a
      have ek : k = 6 := by omega
      subst ek
      have Fa := gF a.1
      refine VX11_governor_114 ?_
      unfold DX11_governor_114
      exact ⟨fun _ => ⟨ok29 Fa, R_noAns (h := h + 1) Fa g8 (fun Mb k _ => ⟨rfl, K i Mb hi e g8 (stp a k)⟩)⟩, fun z => absurd Int32.le_rfl z⟩
    | succ d ih =>
      intro k Ma hk a
      have Fa := gF a.1
      have nle : ¬ (6 : Int32) ≤ Int32.ofNat k := fun z => by
        have := (le32 (a := 6) (by decide) (by omega)).mp z
        omega
      have e1 : 6 * Int32.ofNat govs + Int32.ofNat k = Int32.ofNat (6 * govs + k) := by rw [Int32.ofNat_add, Int32.ofNat_mul]; rfl
      have e2 : 6 * Int32.ofNat i + Int32.ofNat k = Int32.ofNat (6 * i + k) := by rw [Int32.ofNat_add, Int32.ofNat_mul]; rfl
      have fin : ∀ v : Int64, DX11_governor_155 (h + 2) 29 x (Int32.ofNat govs) (Int32.ofNat k) 108 (Int32.ofNat (6 * govs + k)) v Ma Q := by
        intro v
        unfold DX11_governor_155
        rw [succ32]
        exact ⟨ok108 Fa, by rw [ln108 Fa]; exact vp_of (by omega) (by decide), fun M2 e2 => ih (k + 1) M2 (by omega) (stp a (RfF.aj (Or.inr (Or.inl rfl)) e2))⟩
      refine VX11_governor_114 ?_
      unfold DX11_governor_114
      rw [e1]
      refine ⟨fun z => absurd z nle, fun _ => ⟨ok29 Fa, 108, rf29_98 Fa, 36, rf29_10 Fa, ok36 Fa, by rw [ln36 Fa, e]; exact vp_of (by omega) (by decide), fun _ => fin _, fun _ => ⟨43, rf29_17 Fa, ok43 Fa, ?_, fin _⟩⟩⟩
      rw [e, e2, ln43 Fa]
      exact vp_of (by omega) (by decide)
  have l1 : ∀ d k Ma, k + d = 16 → GnF govs i M Ma → T (h + 3) mdX11_governor 88 [(0, .ref 29), (1, .int x), (2, .int (Int32.ofNat govs)), (3, .int (Int32.ofNat k))] [] Ma Q := by
    intro d
    induction d with
    | zero =>
      intro k Ma hk a
      have ek : k = 16 := by omega
      subst ek
      refine VX11_governor_88 ?_
      unfold DX11_governor_88
      exact ⟨fun _ => l2 6 0 Ma (by omega) a, fun z => absurd Int32.le_rfl z⟩
    | succ d ih =>
      intro k Ma hk a
      have Fa := gF a.1
      have nle : ¬ (16 : Int32) ≤ Int32.ofNat k := fun z => by
        have := (le32 (a := 16) (by decide) (by omega)).mp z
        omega
      have e1 : 16 * Int32.ofNat govs + Int32.ofNat k = Int32.ofNat (16 * govs + k) := by rw [Int32.ofNat_add, Int32.ofNat_mul]; rfl
      refine VX11_governor_88 ?_
      unfold DX11_governor_88
      rw [e1, succ32]
      exact ⟨fun z => absurd z nle, fun _ => ⟨ok29 Fa, 107, rf29_97 Fa, ok107 Fa, by rw [ln107 Fa]; exact vp_of (by omega) (by decide), fun M4 e4 => ih (k + 1) M4 (by omega) (stp a (RfF.aj (Or.inl rfl) e4))⟩⟩
  exact l1 16 0 M25 (by omega) base
end
end
section
/-! the reference's beat: ifs and parts are worked -/
/-- a sum of part j of module m in the reference -/
def SuR (M : Mem) (X : List Nd) (m j c1 c2 : Nat) : Prop := ∃ f c, (f ≤ c ∧ c < X.length) ∧ mAI M c1 (40 * m + j) = Int32.ofNat (810 * m + f) ∧ mAI M c2 (40 * m + j) = Int32.ofNat (810 * m + c) ∧ GdS X 40 (c + 1 - f) f [] [c]
def RtP (M : Mem) (X : List Nd) (m j : Nat) : Prop := (mAI M 58 (40 * m + j) = 14 → SuR M X m j 64 65 ∧ SuR M X m j 66 67) ∧ (mAI M 58 (40 * m + j) = 3 → mAI M 65 (40 * m + j) ≠ -1 → SuR M X m j 64 65 ∧ ∃ s, s < 16 ∧ mAI M 60 (40 * m + j) = Int32.ofNat s) ∧ (mAI M 58 (40 * m + j) = 15 → SuR M X m j 64 65 ∧ ∃ v, v < 6 ∧ mAI M 60 (40 * m + j) = Int32.ofNat v)
/-- what the beat's work wants of module m -/
def RpM (M : Mem) (X : List Nd) (m np : Nat) : Prop := m < 4 ∧ (XR M m X ∧ X.length ≤ 810) ∧ (mAI M 54 m = Int32.ofNat np ∧ np ≤ 40) ∧ ∀ j, j < np → RtP M X m j
/-- rows of modules stay -/
abbrev BrF (M M' : Mem) : Prop := RfF (fun f => (83 ≤ f ∧ f ≤ 89) ∨ f = 111 ∨ f = 113) (fun c => 95 ≤ c) (fun c => 95 ≤ c) M M'
/-- the work of a beat: ifs' failures, the numbers now -/
abbrev BwR (M M' : Mem) : Prop := RfF (fun f => f = 88 ∨ f = 111 ∨ f = 113) (fun c => c = 121) (fun c => c = 118 ∨ c = 119 ∨ c = 120) M M'
section
variable {M M1 M' : Mem} {m np h : Nat} {X : List Nd} {Q : Option Value → Mem → Prop} {x y : Int32}
theorem BwR.fix (k : BwR M M') (F : Fix M) : Fix M' := RfF.fix k F (by omega)
theorem BwR.br (k : BwR M M') : BrF M M' := RfF.mo k (fun f z => by omega) (fun c z => by omega) (fun c z => by omega)
theorem RpM.br {fs cs js : Nat → Prop} (hR : RpM M X m np) (k : RfF fs cs js M M') (hc : ∀ c, cs c → 95 ≤ c) (hj : ∀ c, js c → 95 ≤ c) : RpM M' X m np := by
  have r : ∀ c, c < 95 → mAI M' c = mAI M c := fun c z => k.2.2.2.2.1 c (fun y => by have := hc c y; omega)
  have j : ∀ c, c < 95 → mAJ M' c = mAJ M c := fun c z => k.2.2.2.2.2 c (fun y => by have := hj c y; omega)
  obtain ⟨a1, ⟨a2, a3⟩, ⟨a4, a5⟩, a6⟩ := hR
  refine ⟨a1, ⟨?_, a3⟩, ⟨by rw [r 54 (by decide)]; exact a4, a5⟩, fun i hi => ?_⟩
  · unfold XR at a2 ⊢
    rw [r 48 (by decide), r 49 (by decide), r 51 (by decide), j 50 (by decide)]
    exact a2
  · have := a6 i hi
    unfold RtP SuR at this ⊢
    rw [r 58 (by decide), r 60 (by decide), r 64 (by decide), r 65 (by decide), r 66 (by decide), r 67 (by decide)]
    exact this
theorem R_wk {j c1 c2 : Nat} (F : Fix M) (hR : RpM M X m np) (hs : SuR M X m j c1 c2) (K : ∀ M' (v : Int64), WkF M M' → Q (some (.long v)) M') : E (h + 3) mdX11_work [.ref 29, .int (mAI M c1 (40 * m + j)), .int (mAI M c2 (40 * m + j))] M Q := by
  obtain ⟨f, c, h1, h2, h3, h4⟩ := hs
  rw [h2, h3]
  by_cases z : mI M 29 111 = 0
  · exact R_work hR.1 hR.2.1.2 h1 h4 F hR.2.1.1 z (fun M' k _ => K M' _ k)
  · exact R_workX F z (K M 0 RfF.rf)
theorem WkF.bw (k : WkF M M') : BwR M M' := RfF.mo k (fun f z => Or.inr (Or.inl z)) (fun c z => z.elim) (fun c z => Or.inl z)
theorem R_hold {a b : Int64} (K : ∀ r : Int32, r = 0 ∨ r = 1 → Q (some (.int r)) M) : E (h + 1) mdX11_holds [.int x, .long a, .long b] M Q := by
  refine KX11_holds ?_
  unfold DX11_holds_0 DX11_holds_47 DX11_holds_59 DX11_holds_71 DX11_holds_83 DX11_holds_95 DX11_holds_107
  have z : ((0 : Int32) = 0 ∨ (0 : Int32) = 1) ∧ Q (some (.int 0)) M := ⟨Or.inl rfl, K 0 (Or.inl rfl)⟩
  have o : ((1 : Int32) = 0 ∨ (1 : Int32) = 1) ∧ Q (some (.int 1)) M := ⟨Or.inr rfl, K 1 (Or.inr rfl)⟩
  exact ⟨fun _ => ⟨fun _ => z, fun _ => o⟩, fun _ => ⟨fun _ => z, fun _ => o⟩, fun _ => ⟨fun _ => z, fun _ => o⟩, fun _ => ⟨fun _ => z, fun _ => o⟩, fun _ => ⟨fun _ => z, fun _ => o⟩, fun _ => ⟨fun _ => z, fun _ => o⟩⟩
theorem R_wkIfs (F : Fix M) (hR : RpM M X m np) (em : mI M 29 84 = Int32.ofNat m) (K : ∀ M', BwR M M' → Q none M') : E (h + 4) mdX11_workIfs [.ref 29] M Q := by
  have m4 := hR.1
  have n40 := hR.2.2.1.2
  have e40 : ∀ i : Nat, 40 * Int32.ofNat m + Int32.ofNat i = Int32.ofNat (40 * m + i) := fun i => by rw [Int32.ofNat_add, Int32.ofNat_mul]; rfl
  have e400 : 40 * Int32.ofNat m = Int32.ofNat (40 * m) := by rw [Int32.ofNat_mul]; rfl
  have sb : ∀ i : Nat, Int32.ofNat (40 * m + i) - Int32.ofNat (40 * m) = Int32.ofNat i := fun i => by rw [Int32.ofNat_add, Int32.add_comm, Int32.add_sub_cancel]
  have main : ∀ d i (n : Int32) M1, i + d = np → BwR M M1 → T (h + 4) mdX11_workIfs 15 [(0, .ref 29), (1, .int n), (2, .int (Int32.ofNat (40 * m + i)))] [] M1 Q := by
    intro d
    induction d with
    | zero =>
      intro i n M1 hi k1
      have F1 := k1.fix F
      have R1 := hR.br k1 (fun c z => by omega) (fun c z => by omega)
      have e1 : mI M1 29 84 = Int32.ofNat m := by rw [k1.2.2.2.1 84 (by omega)]; exact em
      refine VX11_workIfs_15 (h := h + 3) ?_
      unfold DX11_workIfs_15
      rw [e1, lt32 (show m < 2147483648 by omega)]
      refine ⟨ok29 F1, 54, rf29_34 F1, ok54 F1, by rw [ln54 F1]; exact vp_of (by omega) (by decide), ?_⟩
      rw [R1.2.2.1.1, e40]
      refine ⟨fun _ M4 e4 => K M4 (k1.tr (RfF.i (Or.inr (Or.inl rfl)) e4)), fun z => absurd ?_ z⟩
      rw [show i = np by omega]
      exact Int32.le_rfl
    | succ d ih =>
      intro i n M1 hi k1
      have F1 := k1.fix F
      have R1 := hR.br k1 (fun c z => by omega) (fun c z => by omega)
      have e1 : mI M1 29 84 = Int32.ofNat m := by rw [k1.2.2.2.1 84 (by omega)]; exact em
      have vq : ∀ {k : Nat}, k = 160 → vp_in (Int32.ofNat (40 * m + i)) k := fun e => by rw [e]; exact vp_of (by omega) (by decide)
      have vj : ∀ {k : Nat}, k = 40 → vp_in (Int32.ofNat i) k := fun e => by rw [e]; exact vp_of (by omega) (by decide)
      have nle : ¬ Int32.ofNat (40 * m + np) ≤ Int32.ofNat (40 * m + i) := fun z => by
        have := (le32 (by omega) (by omega)).mp z
        omega
      have lx : (Int32.ofNat (40 * m + i)).toNatClampNeg = 40 * m + i := lt32 (by omega)
      have nx : ∀ (n2 : Int32) Ma, BwR M Ma → T (h + 4) mdX11_workIfs 15 [(0, .ref 29), (1, .int n2), (2, .int (Int32.ofNat (40 * m + i) + 1))] [] Ma Q := fun n2 Ma k => by
        rw [succ32]
        exact ih (i + 1) n2 Ma (by omega) k
      refine VX11_workIfs_15 (h := h + 3) ?_
      unfold DX11_workIfs_15 DX11_workIfs_161
      rw [e1, lt32 (show m < 2147483648 by omega)]
      refine ⟨ok29 F1, 54, rf29_34 F1, ok54 F1, by rw [ln54 F1]; exact vp_of (by omega) (by decide), ?_⟩
      rw [R1.2.2.1.1, e40, e400, sb, lx]
      refine ⟨fun z => absurd z nle, fun _ => ⟨121, rf29_112 F1, ok121 F1, vj (ln121 F1), fun M7 e7 => ?_⟩⟩
      have k7 : BwR M M7 := k1.tr (RfF.ai rfl e7)
      have F7 := k7.fix F
      refine ⟨58, rf29_38 F7, ok58 F7, vq (ln58 F7), fun _ => nx _ M7 k7, fun e14 M10 e10 => ?_⟩
      have k10 : BwR M M10 := k7.tr (RfF.i (Or.inr (Or.inl rfl)) e10)
      have F10 := k10.fix F
      have R10 := hR.br k10 (fun c z => by omega) (fun c z => by omega)
      have s14 : mAI M10 58 (40 * m + i) = 14 := by rw [e10]; exact e14
      obtain ⟨s1, -⟩ := (R10.2.2.2 i (by omega)).1 s14
      refine ⟨64, rf29_44 F10, ok64 F10, vq (ln64 F10), 65, rf29_45 F10, ok65 F10, vq (ln65 F10), R_wk (h := h) F10 R10 s1 (fun M15 v15 k15 _ => ⟨v15, rfl, ?_⟩)⟩
      have k15' : BwR M M15 := k10.tr k15.bw
      have F15 := k15'.fix F
      have R15 := hR.br k15' (fun c z => by omega) (fun c z => by omega)
      have s15 : mAI M15 58 (40 * m + i) = 14 := by rw [k15.2.2.2.2.1 58 (fun z => z)]; exact s14
      obtain ⟨-, s2⟩ := (R15.2.2.2 i (by omega)).1 s15
      refine ⟨66, rf29_46 F15, ok66 F15, vq (ln66 F15), 67, rf29_47 F15, ok67 F15, vq (ln67 F15), R_wk (h := h) F15 R15 s2 (fun M21 v21 k21 _ => ⟨v21, rfl, ?_⟩)⟩
      have k21' : BwR M M21 := k15'.tr k21.bw
      have F21 := k21'.fix F
      have e21 : mI M21 29 84 = Int32.ofNat m := by rw [k21'.2.2.2.1 84 (by omega)]; exact em
      rw [e21, e400, sb]
      refine ⟨121, rf29_112 F21, ok121 F21, vj (ln121 F21), fun M25 e25 => ?_⟩
      have k25 : BwR M M25 := k21'.tr (RfF.ai rfl e25)
      have F25 := k25.fix F
      have fin : ∀ (s1 s2 : Int32) Ma, BwR M Ma → DX11_workIfs_154 (h + 3) 29 n (Int32.ofNat (40 * m + i)) 29 s1 s2 Ma Q := by
        intro s1 s2 Ma ka
        unfold DX11_workIfs_154 DX11_workIfs_161
        exact ⟨ok29 (ka.fix F), fun M2 e2 => nx _ M2 (ka.tr (RfF.i (Or.inl rfl) e2))⟩
      refine ⟨fun _ => fin _ _ M25 k25, fun _ => ⟨68, rf29_48 F25, ok68 F25, vq (ln68 F25), R_hold (h := h + 2) (fun r _ _ => ⟨r, rfl, fun _ => fin _ _ M25 k25, fun _ => fin _ _ M25 k25⟩)⟩⟩
  refine KX11_workIfs (h := h + 3) ?_
  unfold DX11_workIfs_0
  refine ⟨ok29 F, fun M2 e2 => ?_⟩
  have k2 : BwR M M2 := RfF.i (Or.inl rfl) e2
  have e3 : mI M2 29 84 = Int32.ofNat m := by rw [k2.2.2.2.1 84 (by omega)]; exact em
  rw [e3, e400]
  exact main np 0 0 M2 (by omega) k2
end
end
section
/-! the reference's beat: emissions, all parts, the wires kept -/
section
variable {M M1 M' : Mem} {m np h : Nat} {X : List Nd} {Q : Option Value → Mem → Prop} {x y : Int32}
theorem R_emits {j s : Nat} {v : Int64} (F : Fix M) (m4 : m < 4) (hj : j < 40) (em : mI M 29 84 = Int32.ofNat m) (hs : s < 16) (es : mAI M 60 (40 * m + j) = Int32.ofNat s) (K : ∀ M', BwR M M' → Q none M') : E (h + 2) mdX11_emits [.ref 29, .int (Int32.ofNat (40 * m + j)), .long v] M Q := by
  have e16 : 16 * Int32.ofNat m + Int32.ofNat s = Int32.ofNat (16 * m + s) := by rw [Int32.ofNat_add, Int32.ofNat_mul]; rfl
  have lx : (Int32.ofNat (40 * m + j)).toNatClampNeg = 40 * m + j := lt32 (by omega)
  have f146 : ∀ (u : Int32) Ma, BwR M Ma → DX11_emits_146 (h + 1) 29 u Ma Q := by
    intro u Ma ka
    unfold DX11_emits_146
    exact ⟨ok29 (ka.fix F), fun M2 e2 => K M2 (ka.tr (RfF.i (Or.inr (Or.inr rfl)) e2))⟩
  have vs : ∀ {k : Nat}, k = 16 → vp_in (Int32.ofNat s) k := fun e => by rw [e]; exact vp_of hs (by decide)
  have f145 : ∀ (u : Int32) (w : Int64), DX11_emits_145 (h + 1) 29 u 119 (Int32.ofNat s) w M Q := by
    intro u w
    unfold DX11_emits_145
    exact ⟨ok119 F, vs (ln119 F), fun M2 e2 => f146 u M2 (RfF.aj (Or.inr (Or.inl rfl)) e2)⟩
  have f110 : ∀ (u w : Int32) Ma, BwR M Ma → DX11_emits_110 (h + 1) 29 u 29 w Ma Q := by
    intro u w Ma ka
    unfold DX11_emits_110
    exact ⟨ok29 (ka.fix F), fun M2 e2 => f146 u M2 (ka.tr (RfF.i (Or.inr (Or.inl rfl)) e2))⟩
  refine KX11_emits (h := h + 1) ?_
  unfold DX11_emits_0
  rw [lx, em]
  refine ⟨ok29 F, 60, rf29_40 F, ok60 F, by rw [ln60 F]; exact vp_of (by omega) (by decide), ?_⟩
  rw [es, e16]
  refine ⟨39, rf29_13 F, ok39 F, by rw [ln39 F]; exact vp_of (by omega) (by decide), fun _ => ⟨fun _ => ⟨fun _ => ⟨fun _ => ⟨119, rf29_109 F, 119, rf29_109 F, ok119 F, vs (ln119 F), fun _ => ⟨119, rf29_109 F, ok119 F, vs (ln119 F), f145 _ _⟩, fun _ => f145 _ _⟩, fun _ => ⟨119, rf29_109 F, ok119 F, vs (ln119 F), vs (ln119 F), fun M13 e13 => ?_⟩⟩, fun _ M18 e18 => f146 _ M18 (RfF.i (Or.inr (Or.inl rfl)) e18)⟩, fun _ => ⟨119, rf29_109 F, ok119 F, vs (ln119 F), fun M21 e21 => f146 _ M21 (RfF.aj (Or.inr (Or.inl rfl)) e21)⟩⟩, fun _ => K M RfF.rf⟩
  have k13 : BwR M M13 := RfF.aj (Or.inr (Or.inl rfl)) e13
  have F13 := k13.fix F
  exact ⟨119, rf29_109 F13, ok119 F13, vs (ln119 F13), S_in (h := h) (fun _ => ⟨_, rfl, fun _ => f110 _ _ M13 k13, fun _ => f110 _ _ M13 k13⟩)⟩
theorem R_wkPts (F : Fix M) (hR : RpM M X m np) (em : mI M 29 84 = Int32.ofNat m) (hn : ∀ j, j < np → ∃ y, 700 * m ≤ y ∧ y < 700 * m + 700 ∧ mAI M 90 (40 * m + j) = Int32.ofNat y) (K : ∀ M' (r : Int32), BwR M M' → Q (some (.int r)) M') : E (h + 4) mdX11_workParts [.ref 29] M Q := by
  have m4 := hR.1
  have n40 := hR.2.2.1.2
  have e40 : ∀ i : Nat, 40 * Int32.ofNat m + Int32.ofNat i = Int32.ofNat (40 * m + i) := fun i => by rw [Int32.ofNat_add, Int32.ofNat_mul]; rfl
  have e400 : 40 * Int32.ofNat m = Int32.ofNat (40 * m) := by rw [Int32.ofNat_mul]; rfl
  have sb : ∀ i : Nat, Int32.ofNat (40 * m + i) - Int32.ofNat (40 * m) = Int32.ofNat i := fun i => by rw [Int32.ofNat_add, Int32.add_comm, Int32.add_sub_cancel]
  have main : ∀ d i M1, i + d = np → BwR M M1 → T (h + 4) mdX11_workParts 18 [(0, .ref 29), (1, .int (Int32.ofNat (40 * m + i)))] [] M1 Q := by
    intro d
    induction d with
    | zero =>
      intro i M1 hi k1
      have F1 := k1.fix F
      have R1 := hR.br k1 (fun c z => by omega) (fun c z => by omega)
      have e1 : mI M1 29 84 = Int32.ofNat m := by rw [k1.2.2.2.1 84 (by omega)]; exact em
      refine VX11_workParts_18 (h := h + 3) ?_
      unfold DX11_workParts_18
      rw [e1, lt32 (show m < 2147483648 by omega)]
      refine ⟨ok29 F1, 54, rf29_34 F1, ok54 F1, by rw [ln54 F1]; exact vp_of (by omega) (by decide), ?_⟩
      rw [R1.2.2.1.1, e40]
      refine ⟨fun _ => K M1 _ k1, fun z => absurd ?_ z⟩
      rw [show i = np by omega]
      exact Int32.le_rfl
    | succ d ih =>
      intro i M1 hi k1
      have F1 := k1.fix F
      have R1 := hR.br k1 (fun c z => by omega) (fun c z => by omega)
      have e1 : mI M1 29 84 = Int32.ofNat m := by rw [k1.2.2.2.1 84 (by omega)]; exact em
      have vq : ∀ {k : Nat}, k = 160 → vp_in (Int32.ofNat (40 * m + i)) k := fun e => by rw [e]; exact vp_of (by omega) (by decide)
      have vj : ∀ {k : Nat}, k = 40 → vp_in (Int32.ofNat i) k := fun e => by rw [e]; exact vp_of (by omega) (by decide)
      have nle : ¬ Int32.ofNat (40 * m + np) ≤ Int32.ofNat (40 * m + i) := fun z => by
        have := (le32 (by omega) (by omega)).mp z
        omega
      have lx : (Int32.ofNat (40 * m + i)).toNatClampNeg = 40 * m + i := lt32 (by omega)
      obtain ⟨yn, y1, y2, y3⟩ := hn i (by omega)
      have y3 : mAI M1 90 (40 * m + i) = Int32.ofNat yn := by rw [k1.2.2.2.2.1 90 (by omega)]; exact y3
      have rt := R1.2.2.2 i (by omega)
      have f195 : ∀ Ma, BwR M Ma → DX11_workParts_195 (h + 3) 29 (Int32.ofNat (40 * m + i)) Ma Q := by
        intro Ma ka
        unfold DX11_workParts_195 DX11_workParts_212
        rw [succ32]
        exact ⟨ok29 (ka.fix F), fun _ => ih (i + 1) Ma (by omega) ka, fun _ => K Ma _ ka⟩
      have f148 : DX11_workParts_148 (h + 3) 29 (Int32.ofNat (40 * m + i)) M1 Q := by
        unfold DX11_workParts_148
        rw [lx]
        refine ⟨ok29 F1, 58, rf29_38 F1, ok58 F1, vq (ln58 F1), fun _ => f195 M1 k1, fun e15 => ?_⟩
        obtain ⟨s1, v, hv, ev⟩ := rt.2.2 e15
        refine ⟨64, rf29_44 F1, ok64 F1, vq (ln64 F1), 65, rf29_45 F1, ok65 F1, vq (ln65 F1), R_wk (h := h) F1 R1 s1 (fun M8 v8 k8 _ => ⟨v8, rfl, ?_⟩)⟩
        have k8' : BwR M M8 := k1.tr k8.bw
        have F8 := k8'.fix F
        have ev8 : mAI M8 60 (40 * m + i) = Int32.ofNat v := by rw [k8.2.2.2.2.1 60 (fun z => z)]; exact ev
        exact ⟨fun _ => f195 M8 k8', fun _ => ⟨120, rf29_110 F8, 60, rf29_40 F8, ok60 F8, vq (ln60 F8), ok120 F8, by rw [ev8, ln120 F8]; exact vp_of hv (by decide), fun M14 e14 => f195 M14 (k8'.tr (RfF.aj (Or.inr (Or.inr rfl)) e14))⟩⟩
      refine VX11_workParts_18 (h := h + 3) ?_
      unfold DX11_workParts_18 DX11_workParts_145 DX11_workParts_212
      rw [e1, lt32 (show m < 2147483648 by omega)]
      refine ⟨ok29 F1, 54, rf29_34 F1, ok54 F1, by rw [ln54 F1]; exact vp_of (by omega) (by decide), ?_⟩
      rw [R1.2.2.1.1, e40, e400, sb, lx, succ32]
      refine ⟨fun z => absurd z nle, fun _ => ⟨95, rf29_77 F1, 90, rf29_72 F1, ok90 F1, vq (ln90 F1), ok95 F1, by rw [y3, ix700 y1 (by omega), ln95 F1]; exact vp_of (by omega) (by decide), fun _ => ih (i + 1) M1 (by omega) k1, fun _ => ⟨58, rf29_38 F1, ok58 F1, vq (ln58 F1), fun _ => ⟨58, rf29_38 F1, ok58 F1, vq (ln58 F1), fun _ => f148, fun e3 => ⟨65, rf29_45 F1, ok65 F1, vq (ln65 F1), fun _ => f148, fun n1 => ?_⟩⟩, fun _ => ⟨121, rf29_112 F1, ok121 F1, vj (ln121 F1), fun M23 e23 => f195 M23 (k1.tr (RfF.i (Or.inr (Or.inl rfl)) e23))⟩⟩⟩⟩
      obtain ⟨s1, s, hs, es⟩ := rt.2.1 e3 n1
      refine ⟨64, rf29_44 F1, ok64 F1, vq (ln64 F1), 65, rf29_45 F1, ok65 F1, vq (ln65 F1), R_wk (h := h) F1 R1 s1 (fun M18 v18 k18 _ => ⟨v18, rfl, ?_⟩)⟩
      have k18' : BwR M M18 := k1.tr k18.bw
      have e18 : mI M18 29 84 = Int32.ofNat m := by rw [k18'.2.2.2.1 84 (by omega)]; exact em
      have es18 : mAI M18 60 (40 * m + i) = Int32.ofNat s := by rw [k18.2.2.2.2.1 60 (fun z => z)]; exact es
      exact ⟨fun _ => f195 M18 k18', fun _ => R_emits (h := h + 1) (k18'.fix F) m4 (by omega) e18 hs es18 (fun M20 k20 _ => ⟨rfl, f195 M20 (k18'.tr k20)⟩)⟩
  refine KX11_workParts (h := h + 3) ?_
  unfold DX11_workParts_0
  refine ⟨ok29 F, fun M2 e2 M3 e3 => ?_⟩
  have k3 : BwR M M3 := (RfF.i (fs := fun f => f = 88 ∨ f = 111 ∨ f = 113) (cs := fun c => c = 121) (js := fun c => c = 118 ∨ c = 119 ∨ c = 120) (Or.inr (Or.inr rfl)) e2).tr (RfF.i (Or.inr (Or.inl rfl)) e3)
  have e4 : mI M3 29 84 = Int32.ofNat m := by rw [k3.2.2.2.1 84 (by omega)]; exact em
  rw [e4, e400]
  exact main np 0 M3 (by omega) k3
end
end
