/-! how many held masks the nodes of a reading make -/
/-- the held masks that a node of kind k with c children makes -/
def hwK (k : Int32) (c : Nat) : Nat := eH k + c * (aH k + lH k) + (if k = 8 then c + 1 else 0)
def hwN (V : Vw) (z : Nat) : Nat := hwK (V z).1 (V z).2.2.2.length
def htG (V : Vw) (g x : Nat) : Nat := smL (hwN V) (noL (fun z => (V z).2.2.2) g x)
section
variable {V : Vw} {lo hi x y z : Nat} {k l d : Int32} {cs : List Nat}
theorem ht_nd (h : ndS V lo hi x k l cs) (g : Nat) : htG V g x ≤ hwK k cs.length + smL (htG V (g - 1)) cs := by
  cases g with
  | zero => exact Nat.zero_le _
  | succ g =>
    show hwN V x + smL (hwN V) ((V x).2.2.2.flatMap (noL (fun z => (V z).2.2.2) g)) ≤ _
    unfold hwN
    rw [h.2.1, h.2.2.2, smL_fm]
    exact Nat.le_refl _
theorem ht_lf (h : lfS V lo hi x k d) (g : Nat) : htG V g x ≤ hwK k 0 := by
  cases g with
  | zero => exact Nat.zero_le _
  | succ g =>
    show hwN V x + smL (hwN V) ((V x).2.2.2.flatMap (noL (fun z => (V z).2.2.2) g)) ≤ _
    unfold hwN
    rw [h.2.1, h.2.2.2]
    exact Nat.le_refl _
theorem ht_1 {c : Nat} (h : ndS V lo hi x k l [y]) (hy : ∀ g, htG V g y ≤ c) (g : Nat) : htG V g x ≤ hwK k 1 + c := by
  have a := ht_nd h g
  have b : smL (htG V (g - 1)) [y] = htG V (g - 1) y + 0 := rfl
  have := hy (g - 1)
  rw [b] at a
  show _ ≤ hwK k 1 + c
  have e : [y].length = 1 := rfl
  rw [e] at a
  omega
theorem ht_2 {c e : Nat} (h : ndS V lo hi x k l [y, z]) (hy : ∀ g, htG V g y ≤ c) (hz : ∀ g, htG V g z ≤ e) (g : Nat) : htG V g x ≤ hwK k 2 + c + e := by
  have a := ht_nd h g
  have b : smL (htG V (g - 1)) [y, z] = htG V (g - 1) y + (htG V (g - 1) z + 0) := rfl
  have := hy (g - 1)
  have := hz (g - 1)
  rw [b] at a
  have e : [y, z].length = 2 := rfl
  rw [e] at a
  omega
theorem hwk0 : hwK 0 0 = 0 := by decide
theorem hwk1 : hwK 1 0 = 1 := by decide
theorem hwk2 : hwK 2 0 = 0 := by decide
theorem hwk3 : hwK 3 0 = 0 := by decide
theorem hwk4 : hwK 4 2 = 0 := by decide
theorem hwk52 : hwK 5 2 = 0 := by decide
theorem hwk6 : hwK 6 1 = 0 := by decide
theorem hwk7 : hwK 7 1 = 2 := by decide
theorem hwk82 : hwK 8 2 = 3 := by decide
theorem hwk9 : hwK 9 1 = 0 := by decide
theorem hwk5 (c : Nat) : hwK 5 c = 0 := by
  have e4 : eH 5 = 0 := by decide
  have e5 : aH 5 = 0 := by decide
  have e6 : lH 5 = 0 := by decide
  unfold hwK
  rw [e4, e5, e6, if_neg (by decide)]
  simp
theorem hwk8 (c : Nat) : hwK 8 c = c + 1 := by
  have e4 : eH 8 = 0 := by decide
  have e5 : aH 8 = 0 := by decide
  have e6 : lH 8 = 0 := by decide
  unfold hwK
  rw [e4, e5, e6, if_pos rfl, Nat.add_zero, Nat.mul_zero]
  omega
theorem ht_ha {p : Nat} (h : haS V lo hi x p) (g : Nat) : htG V g x ≤ 1 := by
  obtain ⟨y, h1, h2⟩ := h
  have := ht_1 h1 (ht_lf h2) g
  rw [hwk6, hwk1] at this
  exact this
theorem ht_st {v p : Nat} (h : stS V lo hi x v p) (g : Nat) : htG V g x ≤ 1 := by
  obtain ⟨sq, e, pa, h1, h2, h3, h4⟩ := h
  have := ht_1 h1 (ht_2 h2 (ht_lf h3) (ht_lf h4)) g
  rw [hwk6, hwk52, hwk2, hwk1] at this
  exact this
theorem ht_wa {im : Bool} {p : Nat} (h : waS V lo hi x l im p) (g : Nat) : htG V g x ≤ 1 := by
  obtain ⟨sq, pa, ch, ex, no, h1, h2, h3, h4, h5, h6⟩ := h
  have a := ht_2 h4 (ht_lf h5) (ht_lf h6)
  cases im with
  | true =>
    rw [if_pos rfl] at h2
    have := ht_1 h1 (ht_2 h2 a (ht_lf h3)) g
    rw [hwk6, hwk52, hwk1, hwk4, hwk3, hwk0] at this
    exact this
  | false =>
    rw [if_neg (by decide)] at h2
    have := ht_1 h1 (ht_2 h2 (ht_lf h3) a) g
    rw [hwk6, hwk52, hwk1, hwk4, hwk3, hwk0] at this
    exact this
theorem ht_aw {im : Bool} {p : Nat} (h : awS V lo hi x l im p) (g : Nat) : htG V g x ≤ 1 := by
  obtain ⟨y, h1, h2⟩ := h
  have := ht_1 h1 (ht_wa h2) g
  rw [hwk9] at this
  exact this
theorem ht_wk {body c : Nat} {im : Bool} {p : Nat} (h : wkS V lo hi x body l im p) (hb : ∀ g, htG V g body ≤ c) (g : Nat) : htG V g x ≤ 4 + c := by
  obtain ⟨par, sq, wa, ex, h1, h2, h3, h4, h5⟩ := h
  have := ht_1 h1 (ht_2 h2 (ht_2 h3 hb (ht_lf h4)) (ht_wa h5)) g
  rw [hwk9, hwk82, hwk52, hwk3] at this
  omega
theorem ht_ab {body c : Nat} {p : Nat} (h : abS V lo hi x body l p) (hb : ∀ g, htG V g body ≤ c) (g : Nat) : htG V g x ≤ 6 + c := by
  obtain ⟨y, h1, h2⟩ := h
  have := ht_wk h2 (ht_1 h1 hb) g
  rw [hwk7] at this
  omega
theorem ht_ai {body c : Nat} {im : Bool} {p : Nat} (h : aiS V lo hi x body l im p) (hb : ∀ g, htG V g body ≤ c) (g : Nat) : htG V g x ≤ 6 + c := by
  unfold aiS at h
  by_cases e : im = true
  · rw [if_pos e] at h
    obtain ⟨no, y, h1, h2, h3⟩ := h
    have := ht_2 h1 (ht_lf h2) (ht_ab h3 hb) g
    rw [hwk4, hwk0] at this
    omega
  · rw [if_neg e] at h
    have := ht_ab h hb g
    omega
theorem ht_ev {body aw c : Nat} {p2 p3 : Nat} (h : evS V lo hi x body aw l p2 p3) (ha : ∀ g, htG V g aw ≤ 1) (hb : ∀ g, htG V g body ≤ c) (g : Nat) : htG V g x ≤ 8 + c := by
  obtain ⟨lp, ab, sq, ha', h1, h2, h3, h4, h5⟩ := h
  have := ht_2 h1 ha (ht_1 h2 (ht_ab h3 (ht_2 h4 hb (ht_ha h5)))) g
  rw [hwk52, hwk6] at this
  omega
end
section
variable {W : Wo} {m zn fn lo hi : Nat}
/-- a part: what its own nodes take, above those of its rows -/
theorem ht_pk {k : Int32} {K : List KE} {j p pb x : Nat} {ys : List Nat} {c : Nat} (h : PkS W m zn fn lo hi k K j p pb x ys) (h17 : k ≠ 17) (hc : ∀ g, smL (htG (woV W) g) ys ≤ c) (g : Nat) : htG (woV W) g x ≤ 6 * paK k + 2 + c := by
  have one : ∀ {y : Nat}, ys = [y] → ∀ g, htG (woV W) g y ≤ c := fun e g => by
    have := hc g
    rw [e] at this
    exact this
  unfold PkS at h
  by_cases k1 : k = 38
  · rw [if_pos k1] at h
    have := ht_lf h.1 g
    rw [hwk1] at this
    rw [k1]
    show _ ≤ 6 * 1 + 2 + c
    omega
  rw [if_neg k1] at h
  by_cases k2 : k = 39
  · rw [if_pos k2] at h
    have := ht_ha h.1 g
    rw [k2]
    show _ ≤ 6 * 1 + 2 + c
    omega
  rw [if_neg k2] at h
  by_cases k3 : k = 40
  · rw [if_pos k3] at h
    obtain ⟨⟨v, -, h⟩, -⟩ := h
    have := ht_lf h g
    rw [hwk2] at this
    rw [k3]
    show _ ≤ 6 * 0 + 2 + c
    omega
  rw [if_neg k3] at h
  by_cases k4 : k = 41
  · rw [if_pos k4] at h
    obtain ⟨⟨v, -, h⟩, -⟩ := h
    have := ht_st h g
    rw [k4]
    show _ ≤ 6 * 1 + 2 + c
    omega
  rw [if_neg k4] at h
  by_cases k5 : k = 47
  · rw [if_pos k5] at h
    obtain ⟨⟨l, im, -, -, h⟩, -⟩ := h
    have := ht_aw h g
    rw [k5]
    show _ ≤ 6 * 1 + 2 + c
    omega
  rw [if_neg k5] at h
  by_cases k6 : k = 57
  · rw [if_pos k6] at h
    obtain ⟨⟨v, e, -, -, -, h⟩, -⟩ := h
    have := ht_lf h g
    rw [hwk3] at this
    rw [k6]
    show _ ≤ 6 * 0 + 2 + c
    omega
  rw [if_neg k6] at h
  by_cases k7 : k = 42
  · rw [if_pos k7] at h
    obtain ⟨y, e, h⟩ := h
    have := ht_1 h (one e) g
    rw [hwk6] at this
    rw [k7]
    show _ ≤ 6 * 0 + 2 + c
    omega
  rw [if_neg k7] at h
  have cho : ∀ {l : Int32} {y z : Nat}, ndS (woV W) lo hi x 4 l [y, z] → (ys = [y, z] ∨ ys = [y] ∧ lfS (woV W) lo hi z 0 0) → htG (woV W) g x ≤ 0 + c := fun {l y z} h1 h2 => by
    have a := ht_nd h1 g
    have b : smL (htG (woV W) (g - 1)) [y, z] = htG (woV W) (g - 1) y + (htG (woV W) (g - 1) z + 0) := rfl
    have e : [y, z].length = 2 := rfl
    rw [b, e, hwk4] at a
    have q := hc (g - 1)
    rcases h2 with h2 | ⟨h2, h3⟩
    · rw [h2, b] at q; omega
    · have := ht_lf h3 (g - 1)
      have b1 : smL (htG (woV W) (g - 1)) [y] = htG (woV W) (g - 1) y + 0 := rfl
      rw [h2, b1] at q
      rw [hwk0] at this
      omega
  by_cases k8 : k = 44
  · rw [if_pos k8] at h
    obtain ⟨y, z, l, -, h1, h2⟩ := h
    have := cho h1 h2
    rw [k8]
    show _ ≤ 6 * 0 + 2 + c
    omega
  rw [if_neg k8] at h
  by_cases k9 : k = 58
  · rw [if_pos k9] at h
    obtain ⟨y, z, f, -, -, h1, h2⟩ := h
    have := cho h1 h2
    rw [k9]
    show _ ≤ 6 * 0 + 2 + c
    omega
  rw [if_neg k9] at h
  by_cases k10 : k = 49
  · rw [if_pos k10] at h
    obtain ⟨y, l, im, e, -, -, h⟩ := h
    have := ht_ai h (one e) g
    rw [k10]
    show _ ≤ 6 * 1 + 2 + c
    omega
  rw [if_neg k10] at h
  by_cases k11 : k = 50
  · rw [if_pos k11] at h
    obtain ⟨y, l, im, e, -, -, h⟩ := h
    have := ht_wk h (one e) g
    rw [k11]
    show _ ≤ 6 * 1 + 2 + c
    omega
  rw [if_neg k11] at h
  by_cases k12 : k = 52
  · rw [if_pos k12] at h
    obtain ⟨y, l, e, -, h⟩ := h
    have := ht_1 h (one e) g
    rw [hwk7] at this
    rw [k12]
    show _ ≤ 6 * 0 + 2 + c
    omega
  rw [if_neg k12] at h
  by_cases k13 : k = 53
  · rw [if_pos k13] at h
    obtain ⟨y, l, im, aw, e, -, -, h1, h2⟩ := h
    have := ht_ev h2 (ht_aw h1) (one e) g
    rw [k13]
    show _ ≤ 6 * 3 + 2 + c
    omega
  rw [if_neg k13] at h
  by_cases k14 : k = 55
  · rw [if_pos k14] at h
    obtain ⟨y, e, h⟩ := h
    have := ht_1 h (one e) g
    rw [hwk9] at this
    rw [k14]
    show _ ≤ 6 * 0 + 2 + c
    omega
  rw [if_neg k14, if_neg h17] at h
  have := ht_lf h.1 g
  rw [hwk0] at this
  omega
theorem TT.ht : ∀ (g0 md : Nat) (K : List KE) (a2 a3 a4 : Nat) (c1 c2 : Int32) (fl : Bool) (j j' r r' p p' : Nat) (L : List (Nat × Nat)), md ≤ 3 → TT W m zn fn lo hi g0 md K a2 a3 a4 c1 c2 fl j j' r r' p p' L → ∀ g, smL (htG (woV W) g) (L.map Prod.snd) + (if md = 3 then L.length else 0) + 2 * j + r + 6 * p ≤ 2 * j' + r' + 6 * p' + (if md = 3 then 1 else 0) := by
  intro g0
  induction g0 with
  | zero => intro md K a2 a3 a4 c1 c2 fl j j' r r' p p' L _ h; unfold TT at h; exact h.elim
  | succ g0 ih =>
    intro md K a2 a3 a4 c1 c2 fl j j' r r' p p' L hm h g
    unfold TT at h
    by_cases m0 : md = 0
    · rw [if_pos m0] at h
      obtain ⟨x, jm, rm, pm, T, y, e, h1, h2, h3, -⟩ := h
      have a := ih 2 _ _ _ _ _ _ _ _ _ _ _ _ _ _ (by decide) h1 (g - 1)
      have c := ih 1 _ _ _ _ _ _ _ _ _ _ _ _ _ _ (by decide) h2 (g - 1)
      have d := ht_nd h3 g
      rw [hwk5] at d
      have d1 : smL (htG (woV W) (g - 1)) (x :: T.map Prod.snd) = htG (woV W) (g - 1) x + smL (htG (woV W) (g - 1)) (T.map Prod.snd) := rfl
      rw [d1] at d
      have a1 : smL (htG (woV W) (g - 1)) ([(j, x)].map Prod.snd) = htG (woV W) (g - 1) x + 0 := rfl
      rw [a1, if_neg (by decide), if_neg (by decide)] at a
      rw [if_neg (by decide), if_neg (by decide)] at c
      rw [e, if_neg (by omega), if_neg (by omega)]
      have e1 : smL (htG (woV W) g) ([((0 : Nat), y)].map Prod.snd) = htG (woV W) g y + 0 := rfl
      rw [e1]
      omega
    rw [if_neg m0] at h
    by_cases m1 : md = 1
    · rw [if_pos m1] at h
      rw [if_neg (by omega), if_neg (by omega)]
      rcases h with ⟨e, e1, e2, e3⟩ | ⟨x, jm, rm, pm, T, e, h1, h2⟩
      · rw [e, e1, e2, e3]
        show 0 + 0 + _ + _ + _ ≤ _
        omega
      · have a := ih 2 _ _ _ _ _ _ _ _ _ _ _ _ _ _ (by decide) h1 g
        have c := ih 1 _ _ _ _ _ _ _ _ _ _ _ _ _ _ (by decide) h2 g
        have a1 : smL (htG (woV W) g) ([(j, x)].map Prod.snd) = htG (woV W) g x + 0 := rfl
        rw [a1, if_neg (by decide), if_neg (by decide)] at a
        rw [if_neg (by decide), if_neg (by decide)] at c
        have e1 : smL (htG (woV W) g) (((j, x) :: T).map Prod.snd) = htG (woV W) g x + smL (htG (woV W) g) (T.map Prod.snd) := rfl
        rw [e, e1]
        omega
    rw [if_neg m1] at h
    by_cases m2 : md = 2
    · rw [if_pos m2] at h
      obtain ⟨k, x, ys, pb, ff, e, hp, hk, -, ep, h⟩ := h
      rw [if_neg (by omega), if_neg (by omega), e]
      have e1 : smL (htG (woV W) g) ([(j, x)].map Prod.snd) = htG (woV W) g x + 0 := rfl
      rw [e1]
      have hpk : hpK k ≤ paK k := by
        unfold hpK
        split
        · rename_i z
          rw [z]; decide
        · exact Nat.zero_le _
      rcases h with ⟨ho, ej', er, eb, -⟩ | ⟨k17, -, T, et, h1⟩ | ⟨ho, h17, -, t, jm, rm, pm, y, -, h1, h2⟩
      · have h17 : k ≠ 17 := fun z => by rw [z] at ho; exact absurd ho (by decide)
        have h53 : hpK k = 0 := by
          unfold hpK
          rw [if_neg (fun z => by rw [z] at ho; exact absurd ho (by decide))]
        have y0 : ∀ g, smL (htG (woV W) g) ys ≤ 0 := by
          have : ys = [] := by
            unfold PkS at hk
            have ne : ∀ c : Int32, opnK c = true → k ≠ c := fun c hc z => by rw [z, hc] at ho; exact absurd ho (by decide)
            rw [if_neg (ne 42 (by decide)), if_neg (ne 44 (by decide)), if_neg (ne 58 (by decide)), if_neg (ne 49 (by decide)), if_neg (ne 50 (by decide)), if_neg (ne 52 (by decide)), if_neg (ne 53 (by decide)), if_neg (ne 55 (by decide)), if_neg (ne 17 (by decide))] at hk
            repeat' split at hk
            all_goals exact hk.2
          intro g
          rw [this]
          exact Nat.le_refl _
        have := ht_pk hk h17 y0 g
        omega
      · have a := ih 3 _ _ _ _ _ _ _ _ _ _ _ _ _ _ (by decide) h1 (g - 1)
        rw [if_pos rfl, if_pos rfl, ← et] at a
        have hn : ndS (woV W) lo hi x 8 0 ys := by
          unfold PkS at hk
          rw [k17] at hk
          exact hk
        have d := ht_nd hn g
        rw [hwk8] at d
        have l1 : ys.length = T.length := by rw [et, List.length_map]
        rw [l1] at d
        have e0 : paK k - hpK k = 0 := by rw [k17]; decide
        omega
      · rcases h2 with ⟨ey, e2, e3, e4, -⟩ | ⟨k4, -, -, z, ey, h3⟩
        · have hc : ∀ g, smL (htG (woV W) g) ys ≤ 2 * jm + rm + 6 * pm - (2 * (j + 1) + (r + 1) + 6 * (p + hpK k)) := fun g => by
            have a := ih 0 _ _ _ _ _ _ _ _ _ _ _ _ _ _ (by decide) h1 g
            rw [if_neg (by decide), if_neg (by decide)] at a
            have a1 : smL (htG (woV W) g) ([((0 : Nat), y)].map Prod.snd) = htG (woV W) g y + 0 := rfl
            rw [a1] at a
            rw [ey]
            show htG (woV W) g y + 0 ≤ _
            omega
          have a := ih 0 _ _ _ _ _ _ _ _ _ _ _ _ _ _ (by decide) h1 0
          rw [if_neg (by decide), if_neg (by decide)] at a
          have := ht_pk hk h17 hc g
          omega
        · have h0 : hpK k = 0 := by
            rcases k4 with z | z <;> rw [z] <;> decide
          have hc : ∀ g, smL (htG (woV W) g) ys ≤ 2 * j' + r' + 6 * pb - (2 * (j + 1) + (r + 1) + 6 * p + 1) := fun g => by
            have a := ih 0 _ _ _ _ _ _ _ _ _ _ _ _ _ _ (by decide) h1 g
            have c := ih 0 _ _ _ _ _ _ _ _ _ _ _ _ _ _ (by decide) h3 g
            rw [if_neg (by decide), if_neg (by decide)] at a c
            have a1 : smL (htG (woV W) g) ([((0 : Nat), y)].map Prod.snd) = htG (woV W) g y + 0 := rfl
            have c1 : smL (htG (woV W) g) ([((0 : Nat), z)].map Prod.snd) = htG (woV W) g z + 0 := rfl
            rw [a1] at a
            rw [c1] at c
            rw [ey]
            show htG (woV W) g y + (htG (woV W) g z + 0) ≤ _
            omega
          have a := ih 0 _ _ _ _ _ _ _ _ _ _ _ _ _ _ (by decide) h1 0
          have c := ih 0 _ _ _ _ _ _ _ _ _ _ _ _ _ _ (by decide) h3 0
          rw [if_neg (by decide), if_neg (by decide)] at a c
          have := ht_pk hk h17 hc g
          omega
    rw [if_neg m2] at h
    have m3 : md = 3 := by omega
    rw [if_pos m3, if_pos m3]
    obtain ⟨jm, rm, pm, y, h1, h2⟩ := h
    have a := ih 0 _ _ _ _ _ _ _ _ _ _ _ _ _ _ (by decide) h1 g
    rw [if_neg (by decide), if_neg (by decide)] at a
    have a1 : smL (htG (woV W) g) ([((0 : Nat), y)].map Prod.snd) = htG (woV W) g y + 0 := rfl
    rw [a1] at a
    rcases h2 with ⟨e, e1, e2, e3, -⟩ | ⟨T, f2, e, -, -, h3⟩
    · rw [e, e1, e2, e3]
      show htG (woV W) g y + 0 + 1 + _ + _ + _ ≤ _
      omega
    · have c := ih 3 _ _ _ _ _ _ _ _ _ _ _ _ _ _ (by decide) h3 g
      rw [if_pos rfl, if_pos rfl] at c
      have e1 : smL (htG (woV W) g) (((a3, y) :: T).map Prod.snd) = htG (woV W) g y + smL (htG (woV W) g) (T.map Prod.snd) := rfl
      have e2 : ((a3, y) :: T).length = T.length + 1 := rfl
      rw [e, e1, e2]
      omega
end
