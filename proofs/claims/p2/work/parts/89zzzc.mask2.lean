/-! which variables parts give and use: masks from part to part -/
def orN (f : Nat → Int32) (x : Nat) : Nat → Int32
  | 0 => 0
  | d + 1 => orN f x d ||| f (x + d)
theorem orN_add (f : Nat → Int32) (x d : Nat) : ∀ e, orN f x (d + e) = orN f x d ||| orN f (x + d) e
  | 0 => by show orN f x d = orN f x d ||| 0; rw [Int32.or_zero]
  | e + 1 => by show orN f x (d + e) ||| f (x + (d + e)) = orN f x d ||| (orN f (x + d) e ||| f (x + d + e)); rw [orN_add f x d e, Int32.or_assoc, Nat.add_assoc]
theorem orN_cg {f g : Nat → Int32} {x : Nat} : ∀ {d : Nat}, (∀ y, x ≤ y → y < x + d → f y = g y) → orN f x d = orN g x d
  | 0, _ => rfl
  | d + 1, h => by show orN f x d ||| f (x + d) = orN g x d ||| g (x + d); rw [orN_cg (d := d) (fun y h1 h2 => h y h1 (by omega)), h (x + d) (by omega) (by omega)]
/-- from part x to part y -/
def orF (f : Nat → Int32) (x y : Nat) : Int32 := orN f x (y - x)
theorem orF_tr {f : Nat → Int32} {x y z : Nat} (h1 : x ≤ y) (h2 : y ≤ z) : orF f x z = orF f x y ||| orF f y z := by
  unfold orF
  have e : z - x = (y - x) + (z - y) := by omega
  have e2 : x + (y - x) = y := by omega
  rw [e, orN_add, e2]
theorem orF_one {f : Nat → Int32} {x : Nat} : orF f x (x + 1) = f x := by
  unfold orF
  have e : x + 1 - x = 0 + 1 := by omega
  rw [e]
  show (0 : Int32) ||| f (x + 0) = f x
  rw [Int32.zero_or]; rfl
theorem orF_rf {f : Nat → Int32} {x : Nat} : orF f x x = 0 := by unfold orF; rw [Nat.sub_self]; rfl
theorem orF_cg {f g : Nat → Int32} {x y : Nat} (h : ∀ z, x ≤ z → z < y → f z = g z) : orF f x y = orF g x y := orN_cg (fun z h1 h2 => h z h1 (by omega))
/-- part k gives, uses -/
def gvK (A : Nat → Nat → Int32) (m k : Nat) : Int32 := if A 58 (40 * m + k) = 15 then (1 : Int32) <<< (A 60 (40 * m + k) &&& 31) else 0
def usI (A : Nat → Nat → Int32) (X : List Nd) (m c1 c2 k : Nat) : Int32 := if A c2 (40 * m + k) = -1 then 0 else usX ((X.drop ((A c1 (40 * m + k)).toNatClampNeg - 810 * m)).take ((A c2 (40 * m + k)).toNatClampNeg + 1 - (A c1 (40 * m + k)).toNatClampNeg))
def uvK (A : Nat → Nat → Int32) (X : List Nd) (m k : Nat) : Int32 := usI A X m 64 65 k ||| usI A X m 66 67 k
/-- a sum of part k lies in X -/
def SuI (A : Nat → Nat → Int32) (X : List Nd) (m c1 c2 k : Nat) : Prop := A c2 (40 * m + k) = -1 ∨ ∃ f c, f ≤ c ∧ c < X.length ∧ A c1 (40 * m + k) = Int32.ofNat (810 * m + f) ∧ A c2 (40 * m + k) = Int32.ofNat (810 * m + c) ∧ PxE X f c
section
variable {A A' : Nat → Nat → Int32} {X Y : List Nd} {m c1 c2 k : Nat}
theorem usI_st (h4 : m < 4) (hX : X.length < 900) (h : SuI A X m c1 c2 k) (e1 : A' c1 (40 * m + k) = A c1 (40 * m + k)) (e2 : A' c2 (40 * m + k) = A c2 (40 * m + k)) : usI A' (X ++ Y) m c1 c2 k = usI A X m c1 c2 k ∧ SuI A' (X ++ Y) m c1 c2 k := by
  unfold usI SuI
  rw [e1, e2]
  rcases h with h | ⟨f, c, a1, a2, a3, a4, a5⟩
  · rw [if_pos h, if_pos h]; exact ⟨rfl, Or.inl h⟩
  · refine ⟨?_, Or.inr ⟨f, c, a1, by rw [List.length_append]; omega, a3, a4, a5.app⟩⟩
    rw [a3, a4, if_neg (nm32 (by omega)), if_neg (nm32 (by omega)), lt32 (by omega), lt32 (by omega)]
    have e3 : 810 * m + f - 810 * m = f := by omega
    have e4 : 810 * m + c + 1 - (810 * m + f) = c + 1 - f := by omega
    rw [e3, e4, List.drop_append_of_le_length (by omega), List.take_append_of_le_length (by rw [List.length_drop]; omega)]
end
section
variable {b : Nat → Int32} {n m : Nat} {τ : Td} {j i o f1 f2 fo : Nat} {σ : PS}
theorem rd_ne {sN : List Int64} {mx : List Int32} {vN : List Int64} (hv : vN.length < 1000) : ∀ (g md i o : Nat) (X : List Nd) (u : Int32) (r : Nat × List Nd × Int32), md = 0 ∨ md = 1 ∨ md = 3 → rd b n sN mx vN g md i o X u = .ok r → X.length < r.2.1.length := by
  have mono : ∀ (g md i o : Nat) (X : List Nd) (u : Int32) (r : Nat × List Nd × Int32), rd b n sN mx vN g md i o X u = .ok r → X.length ≤ r.2.1.length := fun g md i o X u r e => by
    obtain ⟨Y, h1, -⟩ := rd_us hv g md i o X u r e
    rw [h1, List.length_append]; omega
  intro g
  induction g with
  | zero => intro md i o X u r _ e; unfold rd at e; cases e
  | succ g ih =>
    intro md i o X u r hm e
    unfold rd at e
    by_cases m0 : md = 0
    · rw [if_pos m0] at e
      by_cases k3 : tK b n i = 3
      · rw [if_pos k3] at e
        obtain ⟨j, -, e⟩ := bind_ok e
        cases e
        show X.length < (X ++ _).length
        rw [List.length_append]; exact Nat.lt_succ_self _
      rw [if_neg k3] at e
      by_cases k2 : tK b n i = 2
      · rw [if_pos k2] at e
        cases hf : fd vN (tC b n i) with
        | none => rw [hf] at e; cases e
        | some k =>
          rw [hf] at e
          obtain ⟨j, -, e⟩ := bind_ok e
          cases e
          show X.length < (X ++ _).length
          rw [List.length_append]; exact Nat.lt_succ_self _
      rw [if_neg k2] at e
      by_cases k19 : tK b n i = 19
      · rw [if_pos k19] at e
        obtain ⟨j, -, e⟩ := bind_ok e
        by_cases kj : tK b n j = 2
        · rw [if_pos kj] at e
          cases hf : fd sN (tC b n j) with
          | none => rw [hf] at e; cases e
          | some k =>
            rw [hf] at e
            have e : (if mx.getD k 0 = 0 then Except.error (4, tP b n j) else (adv' b n j).bind fun j' => _) = .ok r := e
            by_cases km : mx.getD k 0 = 0
            · rw [if_pos km] at e; cases e
            rw [if_neg km] at e
            obtain ⟨j2, -, e⟩ := bind_ok e
            cases e
            show X.length < (X ++ _).length
            rw [List.length_append]; exact Nat.lt_succ_self _
        · rw [if_neg kj] at e; cases e
      rw [if_neg k19] at e
      by_cases k21 : tK b n i = 21
      · rw [if_pos k21] at e
        by_cases ko : o = 15
        · rw [if_pos ko] at e; cases e
        rw [if_neg ko] at e
        obtain ⟨j, -, e⟩ := bind_ok e
        obtain ⟨q, e1, e⟩ := bind_ok e
        have := mono _ _ _ _ _ _ _ e1
        cases e
        show X.length < (q.2.1 ++ _).length
        rw [List.length_append]; exact Nat.lt_succ_of_le this
      rw [if_neg k21] at e
      by_cases k15 : tK b n i = 15
      · rw [if_pos k15] at e
        by_cases ko : o = 15
        · rw [if_pos ko] at e; cases e
        rw [if_neg ko] at e
        obtain ⟨j, -, e⟩ := bind_ok e
        obtain ⟨q, e1, e⟩ := bind_ok e
        have := ih _ _ _ _ _ _ (by decide) e1
        by_cases k16 : tK b n q.1 = 16
        · rw [if_pos k16] at e
          obtain ⟨j2, -, e⟩ := bind_ok e
          cases e
          exact this
        · rw [if_neg k16] at e; cases e
      · rw [if_neg k15] at e; cases e
    rw [if_neg m0] at e
    by_cases m1 : md = 1
    · rw [if_pos m1] at e
      obtain ⟨q, e1, e⟩ := bind_ok e
      exact Nat.lt_of_lt_of_le (ih _ _ _ _ _ _ (by decide) e1) (mono _ _ _ _ _ _ _ e)
    rw [if_neg m1] at e
    have m3 : md = 3 := by omega
    rw [if_neg (by omega), if_pos m3] at e
    obtain ⟨q, e1, e⟩ := bind_ok e
    exact Nat.lt_of_lt_of_le (ih _ _ _ _ _ _ (by decide) e1) (mono _ _ _ _ _ _ _ e)
theorem su_u (hv : HvT τ) {r : Nat × PS} (e : suM b n m τ j f1 f2 fo i o σ = .ok r) : giS r.2 = giS σ ∧ ∃ Y, NeY σ.2.2.1 Y ∧ r.2.2.2.1 = σ.2.2.1 ++ Y ∧ usS r.2 = usS σ ||| usX Y ∧ r.2.1.2.1 = up2 (up2 σ.1.2.1 f1 (40 * m + j) (Int32.ofNat (810 * m + σ.2.2.1.length))) f2 (40 * m + j) (Int32.ofNat (810 * m + (σ.2.2.1.length + Y.length - 1))) := by
  unfold suM at e
  obtain ⟨x, e1, e⟩ := bind_ok e
  obtain ⟨Y, h1, h2⟩ := rd_us (by have := hv.1; omega) _ _ _ _ _ _ _ e1
  have h3 := ((rd_px hv.1 hv.2 _ _ _ _ _ _ _ e1).1 (by decide))
  rw [h1, List.length_append] at h3
  cases e
  refine ⟨rfl, Y, ⟨by have := h3.1; omega, h3.2⟩, h1, h2, ?_⟩
  show up2 (up2 σ.1.2.1 f1 (40 * m + j) _) f2 (40 * m + j) (Int32.ofNat (810 * m + (x.2.1.length - 1))) = _
  rw [h1, List.length_append]
end
