/-! parts as a tree: what reference's rows, class's parts and class's nodes say together -/
/-- reference's arrays, parts' fields, view of the nodes, their codes, literals of conditions, which conditions are whole, literals of ifs, given and used from part to part -/
abbrev Wo : Type := (Nat → Nat → Int32) × (Nat → Nat → Int32) × Vw × (Nat → Int32) × (Nat → Nat) × (Nat → Nat → Prop) × (Nat → Int32) × (Nat → Nat → Int32) × (Nat → Nat → Int32)
def woA (W : Wo) : Nat → Nat → Int32 := W.1
def woP (W : Wo) : Nat → Nat → Int32 := W.2.1
def woV (W : Wo) : Vw := W.2.2.1
def woC (W : Wo) : Nat → Int32 := W.2.2.2.1
def woZ (W : Wo) : Nat → Nat := W.2.2.2.2.1
def woQ (W : Wo) : Nat → Nat → Prop := W.2.2.2.2.2.1
def woF (W : Wo) : Nat → Int32 := W.2.2.2.2.2.2.1
def woG (W : Wo) : Nat → Nat → Int32 := W.2.2.2.2.2.2.2.1
def woU (W : Wo) : Nat → Nat → Int32 := W.2.2.2.2.2.2.2.2
/-- a part is followed by these, the last by none; a row of parts -/
def ChA (A : Nat → Nat → Int32) : Nat → List Nat → Prop
  | a, [] => A 70 a = -1
  | a, x :: t => A 70 a = Int32.ofNat x ∧ ChA A x t
def RwA (A : Nat → Nat → Int32) (q a : Nat) (t : List Nat) : Prop := A 73 q = Int32.ofNat a ∧ A 74 q = Int32.ofNat (t.getLastD a) ∧ ChA A a t
/-- part P's condition and its literal -/
def CdW (W : Wo) (m zn P : Nat) (l : Int32) : Prop := ∃ f c, f ≤ c ∧ c < zn ∧ woA W 62 P = Int32.ofNat (410 * m + f) ∧ woA W 63 P = Int32.ofNat (410 * m + c) ∧ woQ W f c ∧ l = Int32.ofNat (woZ W c)
def bI (x : Bool) : Int32 := if x = true then 1 else 0
def hpK (k : Int32) : Nat := if k = 53 then 1 else 0
/-- the trap at v among the open ones is part e, one with a name -/
def trX : List KE → Nat → Nat → Prop
  | [], _, _ => False
  | e :: K, v, x => match e.2.2.2 with
    | none => trX K v x
    | some c => (v = 0 ∧ x = e.1 ∧ c ≠ 0) ∨ ∃ u, v = u + 1 ∧ trX K u x
/-- the trap that a part of kind k opens -/
def tpK (k : Int32) (t : Option Int64) : Prop := if k = 55 then ∃ c, t = some c ∧ c ≠ 0 else if k = 49 ∨ k = 50 ∨ k = 53 then t = some 0 else t = none
/-- what part j of kind k looks like: node x, its rows' nodes ys; p, pb: pauses at its begin, behind its rows -/
def PkS (W : Wo) (m zn fn lo hi : Nat) (k : Int32) (K : List KE) (j p pb x : Nat) (ys : List Nat) : Prop :=
  if k = 38 then lfS (woV W) lo hi x 1 (Int32.ofNat p) ∧ ys = []
  else if k = 39 then haS (woV W) lo hi x p ∧ ys = []
  else if k = 40 then (∃ v, woA W 60 (40 * m + j) = Int32.ofNat v ∧ lfS (woV W) lo hi x 2 (Int32.ofNat v)) ∧ ys = []
  else if k = 41 then (∃ v, woA W 60 (40 * m + j) = Int32.ofNat v ∧ stS (woV W) lo hi x v p) ∧ ys = []
  else if k = 47 then (∃ l im, CdW W m zn (40 * m + j) l ∧ woA W 61 (40 * m + j) = bI im ∧ awS (woV W) lo hi x l im p) ∧ ys = []
  else if k = 57 then (∃ v e, v < 16 ∧ woA W 60 (40 * m + j) = Int32.ofNat e ∧ trX K v e ∧ lfS (woV W) lo hi x 3 (2 + Int32.ofNat v)) ∧ ys = []
  else if k = 42 then ∃ y, ys = [y] ∧ ndS (woV W) lo hi x 6 0 [y]
  else if k = 44 then ∃ y z l, CdW W m zn (40 * m + j) l ∧ ndS (woV W) lo hi x 4 l [y, z] ∧ (ys = [y, z] ∨ ys = [y] ∧ lfS (woV W) lo hi z 0 0)
  else if k = 58 then ∃ y z f, f < fn ∧ woP W j 4 = Int32.ofNat f ∧ ndS (woV W) lo hi x 4 (woF W f) [y, z] ∧ (ys = [y, z] ∨ ys = [y] ∧ lfS (woV W) lo hi z 0 0)
  else if k = 49 then ∃ y l im, ys = [y] ∧ CdW W m zn (40 * m + j) l ∧ woA W 61 (40 * m + j) = bI im ∧ aiS (woV W) lo hi x y l im pb
  else if k = 50 then ∃ y l im, ys = [y] ∧ CdW W m zn (40 * m + j) l ∧ woA W 61 (40 * m + j) = bI im ∧ wkS (woV W) lo hi x y l im pb
  else if k = 52 then ∃ y l, ys = [y] ∧ CdW W m zn (40 * m + j) l ∧ ndS (woV W) lo hi x 7 l [y]
  else if k = 53 then ∃ y l im aw, ys = [y] ∧ CdW W m zn (40 * m + j) l ∧ woA W 61 (40 * m + j) = bI im ∧ awS (woV W) lo hi aw l im p ∧ evS (woV W) lo hi x y aw l pb (pb + 1)
  else if k = 55 then ∃ y, ys = [y] ∧ ndS (woV W) lo hi x 9 0 [y]
  else if k = 17 then ndS (woV W) lo hi x 8 0 ys
  else lfS (woV W) lo hi x 0 0 ∧ ys = []
/-- what the class found of part j: a loop that may end at once, branches that disturb each other -/
def ltK (W : Wo) (k : Int32) (j : Nat) (ys : List Nat) (fl : Bool) : Prop := woP W j 2 = if k = 42 then (if woC W (ys.headD 0) &&& 1 = 0 then 0 else 7) else if k = 17 then (if fl = true then 8 else 0) else 0
/-- what every part says -/
def PcS (W : Wo) (m : Nat) (k : Int32) (j j' x : Nat) : Prop := soK k ≠ 99 ∧ woA W 58 (40 * m + j) = Int32.ofNat (soK k) ∧ (∃ pl, woA W 59 (40 * m + j) = Int32.ofNat pl ∧ woP W j 0 = Int32.ofNat pl) ∧ woA W 71 (40 * m + j) = Int32.ofNat (40 * m + j') ∧ woP W j 1 = Int32.ofNat x
/-- a reading: mode (0 row, 1 more of it, 2 part, 3 branches), from part j to j', row r to r', pause p to p' -/
def TT (W : Wo) (m zn fn lo hi : Nat) : Nat → Nat → List KE → Nat → Nat → Nat → Int32 → Int32 → Bool → Nat → Nat → Nat → Nat → Nat → Nat → List (Nat × Nat) → Prop
  | 0, _, _, _, _, _, _, _, _, _, _, _, _, _, _, _ => False
  | g + 1, md, K, a2, a3, a4, c1, c2, fl, j, j', r, r', p, p', L =>
    if md = 0 then ∃ x jm rm pm T y, L = [(0, y)] ∧ TT W m zn fn lo hi g 2 K 0 0 0 0 0 false j jm r rm p pm [(j, x)] ∧ TT W m zn fn lo hi g 1 K 0 0 0 0 0 false jm j' rm r' pm p' T ∧ ndS (woV W) lo hi y 5 0 (x :: T.map Prod.snd) ∧ RwA (woA W) (sqK K) (40 * m + j) (T.map fun e => 40 * m + e.1)
    else if md = 1 then (L = [] ∧ j' = j ∧ r' = r ∧ p' = p) ∨ ∃ x jm rm pm T, L = (j, x) :: T ∧ TT W m zn fn lo hi g 2 K 0 0 0 0 0 false j jm r rm p pm [(j, x)] ∧ TT W m zn fn lo hi g 1 K 0 0 0 0 0 false jm j' rm r' pm p' T
    else if md = 2 then ∃ k x ys pb ff, L = [(j, x)] ∧ PcS W m k j j' x ∧ PkS W m zn fn lo hi k K j p pb x ys ∧ ltK W k j ys ff ∧ p' = pb + (paK k - hpK k) ∧
      ((opnK k = false ∧ j' = j + 1 ∧ r' = r ∧ pb = p ∧ woA W 69 (40 * m + j) = -1)
      ∨ (k = 17 ∧ woA W 69 (40 * m + j) = Int32.ofNat r ∧ ∃ T, ys = T.map Prod.snd ∧ TT W m zn fn lo hi g 3 K j r 1 0 0 ff (j + 1) j' (r + 1) r' p pb T)
      ∨ (opnK k = true ∧ k ≠ 17 ∧ woA W 69 (40 * m + j) = Int32.ofNat r ∧ ∃ t jm rm pm y, tpK k t ∧ TT W m zn fn lo hi g 0 ((40 * m + j, r, 1, t) :: K) 0 0 0 0 0 false (j + 1) jm (r + 1) rm (p + hpK k) pm [(0, y)] ∧
        ((ys = [y] ∧ j' = jm ∧ r' = rm ∧ pb = pm ∧ woA W 75 r = -1) ∨ ((k = 44 ∨ k = 58) ∧ woA W 75 r = Int32.ofNat rm ∧ woA W 75 rm = -1 ∧ ∃ z, ys = [y, z] ∧ TT W m zn fn lo hi g 0 ((40 * m + j, rm, 2, none) :: K) 0 0 0 0 0 false jm j' (rm + 1) r' pm pb [(0, z)]))))
    else ∃ jm rm pm y, TT W m zn fn lo hi g 0 ((40 * m + a2, a3, a4, none) :: K) 0 0 0 0 0 false j jm r rm p pm [(0, y)] ∧
      ((L = [(a3, y)] ∧ j' = jm ∧ r' = rm ∧ p' = pm ∧ woA W 75 a3 = -1 ∧ fl = !decide (woG W j jm &&& (c1 ||| c2) = 0 ∧ woU W j jm &&& c1 = 0))
      ∨ ∃ T f2, L = (a3, y) :: T ∧ woA W 75 a3 = Int32.ofNat rm ∧ fl = (!decide (woG W j jm &&& (c1 ||| c2) = 0 ∧ woU W j jm &&& c1 = 0) || f2) ∧ TT W m zn fn lo hi g 3 K a2 rm (a4 + 1) (c1 ||| woG W j jm) (c2 ||| woU W j jm) f2 jm j' (rm + 1) r' pm p' T)
section
variable {W W' : Wo} {m zn fn lo hi : Nat}
theorem TT.le : ∀ (g md : Nat) (K : List KE) (a2 a3 a4 : Nat) (c1 c2 : Int32) (fl : Bool) (j j' r r' p p' : Nat) (L : List (Nat × Nat)), md ≤ 3 → TT W m zn fn lo hi g md K a2 a3 a4 c1 c2 fl j j' r r' p p' L → j ≤ j' ∧ r ≤ r' ∧ p ≤ p' ∧ (md ≠ 1 → j < j') := by
  intro g
  induction g with
  | zero => intro md K a2 a3 a4 c1 c2 fl j j' r r' p p' L _ h; unfold TT at h; exact h.elim
  | succ g ih =>
    intro md K a2 a3 a4 c1 c2 fl j j' r r' p p' L hm h
    unfold TT at h
    by_cases m0 : md = 0
    · rw [if_pos m0] at h
      obtain ⟨x, jm, rm, pm, T, y, -, h1, h2, -⟩ := h
      have a := ih 2 _ _ _ _ _ _ _ _ _ _ _ _ _ _ (by decide) h1
      have c := ih 1 _ _ _ _ _ _ _ _ _ _ _ _ _ _ (by decide) h2
      have := a.2.2.2 (by decide)
      exact ⟨by omega, by omega, by omega, fun _ => by omega⟩
    rw [if_neg m0] at h
    by_cases m1 : md = 1
    · rw [if_pos m1] at h
      rcases h with ⟨-, h1, h2, h3⟩ | ⟨x, jm, rm, pm, T, -, h1, h2⟩
      · exact ⟨by omega, by omega, by omega, fun z => absurd m1 z⟩
      · have a := ih 2 _ _ _ _ _ _ _ _ _ _ _ _ _ _ (by decide) h1
        have c := ih 1 _ _ _ _ _ _ _ _ _ _ _ _ _ _ (by decide) h2
        exact ⟨by omega, by omega, by omega, fun z => absurd m1 z⟩
    rw [if_neg m1] at h
    by_cases m2 : md = 2
    · rw [if_pos m2] at h
      obtain ⟨k, x, ys, pb, ff, -, -, -, -, hp, h⟩ := h
      rcases h with ⟨-, h1, h2, h3, -⟩ | ⟨-, -, T, -, h1⟩ | ⟨-, -, -, t, jm, rm, pm, y, -, h1, h⟩
      · exact ⟨by omega, by omega, by omega, fun _ => by omega⟩
      · have a := ih 3 _ _ _ _ _ _ _ _ _ _ _ _ _ _ (by decide) h1
        exact ⟨by omega, by omega, by omega, fun _ => by omega⟩
      · have a := ih 0 _ _ _ _ _ _ _ _ _ _ _ _ _ _ (by decide) h1
        rcases h with ⟨-, h2, h3, h4, -⟩ | ⟨-, -, -, z, -, h2⟩
        · exact ⟨by omega, by omega, by omega, fun _ => by omega⟩
        · have c := ih 0 _ _ _ _ _ _ _ _ _ _ _ _ _ _ (by decide) h2
          exact ⟨by omega, by omega, by omega, fun _ => by omega⟩
    rw [if_neg m2] at h
    obtain ⟨jm, rm, pm, y, h1, h⟩ := h
    have a := ih 0 _ _ _ _ _ _ _ _ _ _ _ _ _ _ (by decide) h1
    have a4 := a.2.2.2 (by decide)
    rcases h with ⟨-, h2, h3, h4, -⟩ | ⟨T, f2, -, -, -, h2⟩
    · exact ⟨by omega, by omega, by omega, fun _ => by omega⟩
    · have c := ih 3 _ _ _ _ _ _ _ _ _ _ _ _ _ _ (by decide) h2
      exact ⟨by omega, by omega, by omega, fun _ => by omega⟩
end
