/-! searches in the middle: the STATES that a module can come to, and which are alike -/
/-- what a MOVE comes to: nothing, where wires stay unknown; else what is shown, whether it ends, the pauses set behind it -/
abbrev OcT : Type := Option (Int32 × Bool × Int32)
/-- from pauses set, signals before, first or not, MOVE -/
abbrev CoT : Type := Int32 → Int32 → Bool → Nat → OcT → Prop
/-- STATES: pauses set, signals before, whence, by which MOVE; leads; shows -/
abbrev SqT : Type := Int32 × Int32 × Nat × Nat
abbrev XsT : Type := List SqT × (Nat → Nat → Int32) × (Nat → Nat → Int32)
def sq0 : SqT := (0, 0, 0, 0)
def xs00 : XsT := ([sq0], fun _ _ => 0, fun _ _ => 0)
def stX (X : XsT) (s : Nat) : SqT := X.1.getD s sq0
/-- the first STATE from k on with these pauses and signals -/
def fnX (L : List SqT) (p b : Int32) : Nat → Nat → Option Nat
  | 0, _ => none
  | d + 1, k => if (L.getD k sq0).1 = p ∧ (L.getD k sq0).2.1 = b then some k else fnX L p b d (k + 1)
def fdX (L : List SqT) (p b : Int32) : Option Nat := fnX L p b (L.length - 1) 1
def pt2 (f : Nat → Nat → Int32) (s v : Nat) (x : Int32) : Nat → Nat → Int32 := fun a b => if a = s ∧ b = v then x else f a b
/-- a MOVE that goes on: to a STATE that is known, to a new one, or beyond -/
def stpG (X : XsT) (s v : Nat) (w b p : Int32) : Option Nat → XsT × Bool
  | some q => ((X.1, pt2 X.2.1 s v (Int32.ofNat q), pt2 X.2.2 s v w), false)
  | none => if X.1.length < 48 then ((X.1 ++ [(p, b, s, v)], pt2 X.2.1 s v (Int32.ofNat X.1.length), pt2 X.2.2 s v w), false) else (X, true)
/-- one MOVE; true: beyond -/
def stpX (ask : Int32) (X : XsT) (s v : Nat) : OcT → XsT × Bool
  | none => ((X.1, pt2 X.2.1 s v (-2), pt2 X.2.2 s v 0), false)
  | some (w, true, _) => ((X.1, pt2 X.2.1 s v (-1), pt2 X.2.2 s v w), false)
  | some (w, false, p) => stpG X s v w (w &&& ask) p (fdX X.1 p (w &&& ask))
section
variable {ask w p : Int32} {X : XsT} {s v q : Nat}
theorem stp_f (h : fdX X.1 p (w &&& ask) = some q) : stpX ask X s v (some (w, false, p)) = ((X.1, pt2 X.2.1 s v (Int32.ofNat q), pt2 X.2.2 s v w), false) := by
  show stpG X s v w (w &&& ask) p (fdX X.1 p (w &&& ask)) = _
  rw [h]
  rfl
theorem stp_g (h : fdX X.1 p (w &&& ask) = none) (l : X.1.length < 48) : stpX ask X s v (some (w, false, p)) = ((X.1 ++ [(p, w &&& ask, s, v)], pt2 X.2.1 s v (Int32.ofNat X.1.length), pt2 X.2.2 s v w), false) := by
  show stpG X s v w (w &&& ask) p (fdX X.1 p (w &&& ask)) = _
  rw [h]
  exact if_pos l
theorem stp_b (h : fdX X.1 p (w &&& ask) = none) (l : ¬ X.1.length < 48) : stpX ask X s v (some (w, false, p)) = (X, true) := by
  show stpG X s v w (w &&& ask) p (fdX X.1 p (w &&& ask)) = _
  rw [h]
  exact if_neg l
end
/-- behind k MOVES -/
def RnX (C : CoT) (ask : Int32) (t : Nat) : Nat → XsT → Bool → Prop
  | 0, X, b => X = xs00 ∧ b = false
  | k + 1, X', b' => ∃ X o, RnX C ask t k X false ∧ k / 2 ^ t < X.1.length ∧ C (stX X (k / 2 ^ t)).1 (stX X (k / 2 ^ t)).2.1 (decide (k / 2 ^ t = 0)) (k % 2 ^ t) o ∧ (X', b') = stpX ask X (k / 2 ^ t) (k % 2 ^ t) o
def UqC (C : CoT) : Prop := ∀ p b f v o o', C p b f v o → C p b f v o' → o = o'
/-- the search is over -/
def FnX (C : CoT) (ask : Int32) (t : Nat) (X : XsT) (b : Bool) : Prop := ∃ k, RnX C ask t k X b ∧ (b = true ∨ k = X.1.length * 2 ^ t)
section
variable {C : CoT} {ask : Int32} {t : Nat} {L : List SqT} {p b : Int32}
theorem fnX_s : ∀ (d k q : Nat), fnX L p b d k = some q → k ≤ q ∧ q < k + d ∧ (L.getD q sq0).1 = p ∧ (L.getD q sq0).2.1 = b ∧ ∀ r, k ≤ r → r < q → ¬ ((L.getD r sq0).1 = p ∧ (L.getD r sq0).2.1 = b)
  | 0, _, _, e => by cases e
  | d + 1, k, q, e => by
    unfold fnX at e
    by_cases z : (L.getD k sq0).1 = p ∧ (L.getD k sq0).2.1 = b
    · rw [if_pos z] at e
      cases e
      exact ⟨Nat.le_refl _, by omega, z.1, z.2, fun r h1 h2 => by omega⟩
    · rw [if_neg z] at e
      obtain ⟨a1, a2, a3, a4, a5⟩ := fnX_s d (k + 1) q e
      refine ⟨by omega, by omega, a3, a4, fun r h1 h2 => ?_⟩
      by_cases y : r = k
      · rw [y]; exact z
      · exact a5 r (by omega) h2
theorem fnX_n : ∀ (d k : Nat), fnX L p b d k = none → ∀ r, k ≤ r → r < k + d → ¬ ((L.getD r sq0).1 = p ∧ (L.getD r sq0).2.1 = b)
  | 0, _, _, r, h1, h2 => by omega
  | d + 1, k, e, r, h1, h2 => by
    unfold fnX at e
    by_cases z : (L.getD k sq0).1 = p ∧ (L.getD k sq0).2.1 = b
    · rw [if_pos z] at e; cases e
    · rw [if_neg z] at e
      by_cases y : r = k
      · rw [y]; exact z
      · exact fnX_n d (k + 1) e r (by omega) (by omega)
/-- found, told by what is found -/
theorem fdX_of {q : Nat} (q1 : 1 ≤ q) (q2 : q < L.length) (e1 : (L.getD q sq0).1 = p) (e2 : (L.getD q sq0).2.1 = b) (hn : ∀ r, 1 ≤ r → r < q → ¬ ((L.getD r sq0).1 = p ∧ (L.getD r sq0).2.1 = b)) : fdX L p b = some q := by
  cases e : fdX L p b with
  | none => exact absurd ⟨e1, e2⟩ (fnX_n _ _ e q q1 (by omega))
  | some r =>
    obtain ⟨a1, a2, a3, a4, a5⟩ := fnX_s _ _ _ e
    rcases Nat.lt_trichotomy q r with z | z | z
    · exact absurd ⟨e1, e2⟩ (a5 q q1 z)
    · rw [z]
    · exact absurd ⟨a3, a4⟩ (hn r a1 z)
theorem fdX_no (hn : ∀ r, 1 ≤ r → r < L.length → ¬ ((L.getD r sq0).1 = p ∧ (L.getD r sq0).2.1 = b)) : fdX L p b = none := by
  cases e : fdX L p b with
  | none => rfl
  | some r =>
    obtain ⟨a1, a2, a3, a4, -⟩ := fnX_s _ _ _ e
    exact absurd ⟨a3, a4⟩ (hn r a1 (by omega))
theorem RnX.uq (hC : UqC C) : ∀ (k : Nat) (X Y : XsT) (a b : Bool), RnX C ask t k X a → RnX C ask t k Y b → X = Y ∧ a = b
  | 0, X, Y, a, b, h1, h2 => ⟨h1.1.trans h2.1.symm, h1.2.trans h2.2.symm⟩
  | k + 1, X, Y, a, b, ⟨X1, o1, r1, l1, c1, e1⟩, ⟨X2, o2, r2, l2, c2, e2⟩ => by
    obtain ⟨e, -⟩ := RnX.uq hC k X1 X2 false false r1 r2
    subst e
    have eo := hC _ _ _ _ _ _ c1 c2
    subst eo
    have e := e1.trans e2.symm
    exact ⟨congrArg Prod.fst e, congrArg Prod.snd e⟩
/-- a run of more MOVES goes through the shorter one -/
theorem RnX.sh : ∀ (d k : Nat) (X : XsT) (b : Bool), RnX C ask t (k + (d + 1)) X b → ∃ Y, RnX C ask t k Y false ∧ k / 2 ^ t < Y.1.length
  | 0, k, X, b, ⟨Y, o, r, l, _⟩ => ⟨Y, r, l⟩
  | d + 1, k, X, b, ⟨Y, o, r, _⟩ => RnX.sh d k Y false r
theorem FnX.uq (hC : UqC C) {X Y : XsT} {a b : Bool} (h1 : FnX C ask t X a) (h2 : FnX C ask t Y b) : X = Y ∧ a = b := by
  obtain ⟨k, r1, f1⟩ := h1
  obtain ⟨l, r2, f2⟩ := h2
  have tp : 0 < 2 ^ t := Nat.two_pow_pos t
  have no : ∀ {k l : Nat} {X Y : XsT} {a b : Bool}, RnX C ask t k X a → (a = true ∨ k = X.1.length * 2 ^ t) → RnX C ask t l Y b → k < l → False := by
    intro k l X Y a b r1 f1 r2 hl
    obtain ⟨d, rfl⟩ : ∃ d, l = k + (d + 1) := ⟨l - k - 1, by omega⟩
    obtain ⟨Z, r3, l3⟩ := RnX.sh d k Y b r2
    obtain ⟨e, ea⟩ := RnX.uq hC k X Z a false r1 r3
    subst e
    rcases f1 with f | f
    · rw [f] at ea; cases ea
    · rw [f, Nat.mul_div_cancel _ tp] at l3
      omega
  rcases Nat.lt_trichotomy k l with z | z | z
  · exact (no r1 f1 r2 z).elim
  · subst z; exact RnX.uq hC k X Y a b r1 r2
  · exact (no r2 f2 r1 z).elim
/-- leads are STATES that are there, or none; a STATE but the first comes from an earlier one -/
def OkX (t : Nat) (X : XsT) : Prop := (1 ≤ X.1.length ∧ X.1.length ≤ 48) ∧ (∀ s v, X.2.1 s v = -1 ∨ X.2.1 s v = -2 ∨ ∃ q, q < X.1.length ∧ X.2.1 s v = Int32.ofNat q) ∧ ∀ s, 1 ≤ s → s < X.1.length → (stX X s).2.2.1 < s ∧ (stX X s).2.2.2 < 2 ^ t
theorem OkX.s0 : OkX t xs00 := ⟨⟨by decide, by decide⟩, fun _ _ => Or.inr (Or.inr ⟨0, by decide, rfl⟩), fun s h1 h2 => by have h2 : s < 1 := h2; omega⟩
theorem pt2_o {f : Nat → Nat → Int32} {s v n : Nat} {x : Int32} (h : ∀ s v, f s v = -1 ∨ f s v = -2 ∨ ∃ q, q < n ∧ f s v = Int32.ofNat q) (hx : x = -1 ∨ x = -2 ∨ ∃ q, q < n ∧ x = Int32.ofNat q) : ∀ a b, pt2 f s v x a b = -1 ∨ pt2 f s v x a b = -2 ∨ ∃ q, q < n ∧ pt2 f s v x a b = Int32.ofNat q := by
  intro a b
  unfold pt2
  by_cases z : a = s ∧ b = v
  · rw [if_pos z]; exact hx
  · rw [if_neg z]; exact h a b
theorem OkX.st {X : XsT} {s v : Nat} (h : OkX t X) (hs : s < X.1.length) (hv : v < 2 ^ t) (o : OcT) : OkX t (stpX ask X s v o).1 := by
  obtain ⟨⟨a1, a2⟩, b, c⟩ := h
  rcases o with _ | ⟨w, e, p⟩
  · exact ⟨⟨a1, a2⟩, pt2_o b (Or.inr (Or.inl rfl)), c⟩
  cases e with
  | true => exact ⟨⟨a1, a2⟩, pt2_o b (Or.inl rfl), c⟩
  | false =>
    cases ef : fdX X.1 p (w &&& ask) with
    | some q =>
      obtain ⟨q1, q2, -⟩ := fnX_s _ _ _ ef
      have q3 : q < X.1.length := by omega
      rw [stp_f ef]
      exact ⟨⟨a1, a2⟩, pt2_o b (Or.inr (Or.inr ⟨q, q3, rfl⟩)), c⟩
    | none =>
      by_cases z : X.1.length < 48
      · rw [stp_g ef z]
        have ln : (X.1 ++ [(p, w &&& ask, s, v)]).length = X.1.length + 1 := by rw [List.length_append]; rfl
        refine ⟨⟨by show 1 ≤ (X.1 ++ [(p, w &&& ask, s, v)]).length; omega, by show (X.1 ++ [(p, w &&& ask, s, v)]).length ≤ 48; omega⟩, ?_, fun r r1 r2 => ?_⟩
        · show ∀ a b, pt2 X.2.1 s v (Int32.ofNat X.1.length) a b = -1 ∨ pt2 X.2.1 s v (Int32.ofNat X.1.length) a b = -2 ∨ ∃ q, q < (X.1 ++ [(p, w &&& ask, s, v)]).length ∧ pt2 X.2.1 s v (Int32.ofNat X.1.length) a b = Int32.ofNat q
          rw [ln]
          refine pt2_o (fun a d => ?_) (Or.inr (Or.inr ⟨X.1.length, by omega, rfl⟩))
          rcases b a d with y | y | ⟨q, q1, q2⟩
          · exact Or.inl y
          · exact Or.inr (Or.inl y)
          · exact Or.inr (Or.inr ⟨q, by omega, q2⟩)
        · have r2 : r < (X.1 ++ [(p, w &&& ask, s, v)]).length := r2
          show ((X.1 ++ [(p, w &&& ask, s, v)]).getD r sq0).2.2.1 < r ∧ ((X.1 ++ [(p, w &&& ask, s, v)]).getD r sq0).2.2.2 < 2 ^ t
          by_cases y : r < X.1.length
          · have := c r r1 y
            unfold stX at this
            rw [List.getD_eq_getElem?_getD, List.getElem?_append_left y, ← List.getD_eq_getElem?_getD]
            exact this
          · have er : r = X.1.length := by omega
            rw [er, List.getD_eq_getElem?_getD, List.getElem?_append_right (Nat.le_refl _), Nat.sub_self]
            exact ⟨hs, hv⟩
      · rw [stp_b ef z]
        exact ⟨⟨a1, a2⟩, b, c⟩
theorem RnX.ok : ∀ (k : Nat) (X : XsT) (b : Bool), RnX C ask t k X b → OkX t X
  | 0, X, b, h => by rw [h.1]; exact OkX.s0
  | k + 1, X, b, ⟨Y, o, r, l, _, e⟩ => by
    have h := RnX.ok k Y false r
    have e1 : X = (stpX ask Y (k / 2 ^ t) (k % 2 ^ t) o).1 := congrArg Prod.fst e
    rw [e1]
    exact h.st l (Nat.mod_lt _ (Nat.two_pow_pos t)) o
end
/-! classes -/
section
variable {X : XsT} {o : Int32} {t n : Nat} {G H G' H' : Nat → Nat}
/-- where a lead goes, by classes -/
def gO (G : Nat → Nat) (d : Int32) : Int32 := if d < 0 then d else Int32.ofNat (G d.toNatClampNeg)
def alK (X : XsT) (o : Int32) (t : Nat) (G : Nat → Nat) (a b : Nat) : Prop := G a = G b ∧ ∀ v, v < 2 ^ t → gO G (X.2.1 a v) = gO G (X.2.1 b v) ∧ X.2.2 a v &&& o = X.2.2 b v &&& o
theorem alK.rf {a : Nat} : alK X o t G a a := ⟨rfl, fun _ _ => ⟨rfl, rfl⟩⟩
theorem alK.sy {a b : Nat} (h : alK X o t G a b) : alK X o t G b a := ⟨h.1.symm, fun v hv => ⟨(h.2 v hv).1.symm, (h.2 v hv).2.symm⟩⟩
theorem alK.tr {a b c : Nat} (h : alK X o t G a b) (k : alK X o t G b c) : alK X o t G a c := ⟨h.1.trans k.1, fun v hv => ⟨(h.2 v hv).1.trans (k.2 v hv).1, (h.2 v hv).2.trans (k.2 v hv).2⟩⟩
/-- classes parted once -/
def Nx1 (X : XsT) (o : Int32) (t n : Nat) (G G' : Nat → Nat) : Prop := ∀ s, s < n → G' s ≤ s ∧ alK X o t G (G' s) s ∧ ∀ c, c < G' s → ¬ alK X o t G c s
def GRn (X : XsT) (o : Int32) (t n : Nat) : Nat → (Nat → Nat) → Prop
  | 0, G => ∀ s, s < n → G s = 0
  | r + 1, G' => ∃ G, GRn X o t n r G ∧ Nx1 X o t n G G'
/-- parted until nothing parts -/
def GFn (X : XsT) (o : Int32) (t n : Nat) (G : Nat → Nat) : Prop := ∃ r, GRn X o t n r G ∧ Nx1 X o t n G G
theorem alK.cg (hX : OkX t X) (hn : n = X.1.length) (e : ∀ s, s < n → G s = H s) {a b : Nat} (ha : a < n) (hb : b < n) (h : alK X o t G a b) : alK X o t H a b := by
  have g : ∀ s v, gO G (X.2.1 s v) = gO H (X.2.1 s v) := fun s v => by
    unfold gO
    rcases hX.2.1 s v with z | z | ⟨q, q1, q2⟩
    · rw [z, if_pos (by decide), if_pos (by decide)]
    · rw [z, if_pos (by decide), if_pos (by decide)]
    · have q48 := hX.1.2
      rw [q2, lt32 (by omega), e q (by omega)]
  exact ⟨by rw [← e a ha, ← e b hb]; exact h.1, fun v hv => ⟨by rw [← g, ← g]; exact (h.2 v hv).1, (h.2 v hv).2⟩⟩
theorem Nx1.cg (hX : OkX t X) (hn : n = X.1.length) (e : ∀ s, s < n → G s = H s) (h : Nx1 X o t n G G') (h2 : Nx1 X o t n H H') : ∀ s, s < n → G' s = H' s := by
  intro s hs
  obtain ⟨a1, a2, a3⟩ := h s hs
  obtain ⟨b1, b2, b3⟩ := h2 s hs
  rcases Nat.lt_trichotomy (G' s) (H' s) with z | z | z
  · exact absurd (a2.cg hX hn e (by omega) hs) (b3 _ z)
  · exact z
  · exact absurd (b2.cg hX hn (fun s hs => (e s hs).symm) (by omega) hs) (a3 _ z)
theorem GRn.uq (hX : OkX t X) (hn : n = X.1.length) : ∀ (r : Nat) (G H : Nat → Nat), GRn X o t n r G → GRn X o t n r H → ∀ s, s < n → G s = H s
  | 0, G, H, h1, h2 => fun s hs => (h1 s hs).trans (h2 s hs).symm
  | r + 1, G, H, ⟨G0, g1, g2⟩, ⟨H0, h1, h2⟩ => Nx1.cg hX hn (GRn.uq hX hn r G0 H0 g1 h1) g2 h2
/-- from stable classes on nothing changes -/
theorem GRn.st (hX : OkX t X) (hn : n = X.1.length) {r : Nat} (h : GRn X o t n r G) (hs : Nx1 X o t n G G) : ∀ (d : Nat) (H : Nat → Nat), GRn X o t n (r + d) H → ∀ s, s < n → G s = H s
  | 0, H, h2 => GRn.uq hX hn r G H h h2
  | d + 1, H, ⟨H0, h1, h2⟩ => Nx1.cg hX hn (GRn.st hX hn h hs d H0 h1) hs h2
theorem GFn.uq (hX : OkX t X) (hn : n = X.1.length) (h1 : GFn X o t n G) (h2 : GFn X o t n H) : ∀ s, s < n → G s = H s := by
  obtain ⟨r, a1, a2⟩ := h1
  obtain ⟨q, b1, b2⟩ := h2
  rcases Nat.le_total r q with z | z
  · obtain ⟨d, rfl⟩ : ∃ d, q = r + d := ⟨q - r, by omega⟩
    exact GRn.st hX hn a1 a2 d H b1
  · obtain ⟨d, rfl⟩ : ∃ d, r = q + d := ⟨r - q, by omega⟩
    exact fun s hs => (GRn.st hX hn b1 b2 d G a1 s hs).symm
/-- classes are their least members; a parting leaves least members so -/
def ReG (n : Nat) (G : Nat → Nat) : Prop := ∀ s, s < n → G s ≤ s ∧ G (G s) = G s
theorem Nx1.re (h : Nx1 X o t n G G') : ReG n G' := fun s hs => by
  obtain ⟨a1, a2, a3⟩ := h s hs
  refine ⟨a1, ?_⟩
  obtain ⟨b1, b2, b3⟩ := h (G' s) (by omega)
  rcases Nat.lt_or_ge (G' (G' s)) (G' s) with z | z
  · exact absurd (b2.tr a2) (a3 _ z)
  · omega
theorem GRn.re : ∀ (r : Nat) (G : Nat → Nat), 1 ≤ n → GRn X o t n r G → ReG n G
  | 0, G, hn, h => fun s hs => ⟨by rw [h s hs]; exact Nat.zero_le _, by rw [h s hs, h 0 (by omega)]⟩
  | r + 1, G, _, ⟨_, _, h⟩ => h.re
/-- how many classes there are -/
def cnG (G : Nat → Nat) : Nat → Nat
  | 0 => 0
  | n + 1 => cnG G n + (if G n = n then 1 else 0)
theorem cnG_le : ∀ n, cnG G n ≤ n
  | 0 => Nat.le_refl _
  | n + 1 => by
    have := cnG_le n
    show cnG G n + (if G n = n then 1 else 0) ≤ n + 1
    split <;> omega
theorem cnG_mo : ∀ n, (∀ s, s < n → G s = s → G' s = s) → cnG G n ≤ cnG G' n
  | 0, _ => Nat.le_refl _
  | n + 1, h => by
    have h1 := cnG_mo n (fun s hs => h s (by omega))
    show cnG G n + (if G n = n then 1 else 0) ≤ cnG G' n + (if G' n = n then 1 else 0)
    by_cases z : G n = n
    · rw [if_pos z, if_pos (h n (by omega) z)]; omega
    · rw [if_neg z]; omega
theorem cnG_lt : ∀ n, (∀ s, s < n → G s = s → G' s = s) → (∃ s, s < n ∧ G s ≠ s ∧ G' s = s) → cnG G n < cnG G' n
  | 0, _, ⟨s, hs, _⟩ => absurd hs (Nat.not_lt_zero _)
  | n + 1, h, ⟨s, hs, n1, n2⟩ => by
    have h1 := cnG_mo n (fun s hs => h s (by omega))
    show cnG G n + (if G n = n then 1 else 0) < cnG G' n + (if G' n = n then 1 else 0)
    by_cases z : s = n
    · subst z
      rw [if_neg n1, if_pos n2]; omega
    · have h2 := cnG_lt n (fun s hs => h s (by omega)) ⟨s, by omega, n1, n2⟩
      by_cases y : G n = n
      · rw [if_pos y, if_pos (h n (by omega) y)]; omega
      · rw [if_neg y]; omega
/-- a parting that changes something makes more classes -/
theorem Nx1.mo (hG : ReG n G) (h : Nx1 X o t n G G') (hc : ∃ s, s < n ∧ G' s ≠ G s) : cnG G n < cnG G' n := by
  have kp : ∀ s, s < n → G s = s → G' s = s := fun s hs e => by
    obtain ⟨a1, a2, -⟩ := h s hs
    have g := (hG (G' s) (by omega)).1
    have := a2.1
    omega
  refine cnG_lt n kp ?_
  -- the least one that changes
  have lst : ∀ m, m ≤ n → (∃ s, s < m ∧ G' s ≠ G s) → ∃ s, s < n ∧ G' s ≠ G s ∧ ∀ r, r < s → G' r = G r := by
    intro m
    induction m with
    | zero => intro _ ⟨s, hs, _⟩; exact absurd hs (Nat.not_lt_zero _)
    | succ m ih =>
      intro hm ⟨s, hs, ne⟩
      by_cases z : ∃ s, s < m ∧ G' s ≠ G s
      · exact ih (by omega) z
      · refine ⟨s, by omega, ne, fun r hr => Classical.byContradiction (fun y => z ⟨r, by omega, y⟩)⟩
  obtain ⟨s, hs, ne, hl⟩ := lst n (Nat.le_refl _) hc
  obtain ⟨a1, a2, a3⟩ := h s hs
  have e : G' s = s := by
    rcases Nat.lt_or_ge (G' s) s with z | z
    · have e1 := hl (G' s) z
      have e2 := (h.re s hs).2
      have e3 := a2.1
      rw [e2] at e1
      exact absurd (e1.trans e3) ne
    · omega
  exact ⟨s, hs, fun y => ne (by rw [e, y]), e⟩
end
