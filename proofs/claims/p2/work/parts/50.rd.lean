/-! sums, in the middle: nodes in postfix order; a fault ends all -/
abbrev Nd : Type := Nat × Int64 × Nat
def cdN (x : Nd) : List Int32 := if x.1 = 0 then [1, x.2.1.toInt32] else if x.1 = 1 then [2, x.2.1.toInt32] else if x.1 = 2 then [3, x.2.1.toInt32] else if x.1 = 3 then [4] else if x.1 = 4 then [7] else if x.1 = 5 then [8] else if x.1 = 6 then [9] else if x.1 = 7 then [5] else [6]
def cdL (X : List Nd) : List Int32 := X.flatMap cdN
theorem cdL_app {X Y : List Nd} : cdL (X ++ Y) = cdL X ++ cdL Y := List.flatMap_append
theorem cdN_len {x : Nd} : (cdN x).length ≤ 2 := by
  unfold cdN
  repeat (first | split | exact Nat.le_refl _ | exact Nat.le_succ _)
theorem cdL_len {X : List Nd} : (cdL X).length ≤ 2 * X.length := by
  induction X with
  | nil => exact Nat.le_refl _
  | cons x X ih =>
    show (cdN x ++ cdL X).length ≤ _
    rw [List.length_append]
    have := @cdN_len x
    show _ ≤ 2 * (X.length + 1)
    omega
def adv' (b : Nat → Int32) (n i : Nat) : Except (Int32 × Nat) Nat := if tK b n (i + 1) = 0 then .error (1, tP b n (i + 1)) else .ok (i + 1)
def opS (k : Int32) : Nat := if k = 22 then 4 else if k = 23 then 5 else if k = 24 then 6 else if k = 20 then 7 else 8
def rd (b : Nat → Int32) (n : Nat) (sN : List Int64) (mx : List Int32) (vN : List Int64) : Nat → Nat → Nat → Nat → List Nd → Int32 → Except (Int32 × Nat) (Nat × List Nd × Int32)
  | 0, _, _, _, _, _ => .error (0, 0)
  | g + 1, md, i, o, X, u =>
    if md = 0 then
      if tK b n i = 3 then (adv' b n i).bind fun j => .ok (j, X ++ [(0, tC b n i, 0)], u)
      else if tK b n i = 2 then (match fd vN (tC b n i) with
        | none => .error (4, tP b n i)
        | some k => (adv' b n i).bind fun j => .ok (j, X ++ [(1, Int64.ofNat k, 0)], u ||| ((1 : Int32) <<< (Int32.ofNat k &&& 31))))
      else if tK b n i = 19 then (adv' b n i).bind fun j => if tK b n j = 2 then (match fd sN (tC b n j) with
          | none => .error (4, tP b n j)
          | some k => if mx.getD k 0 = 0 then .error (4, tP b n j) else (adv' b n j).bind fun j' => .ok (j', X ++ [(2, Int64.ofNat k, 0)], u))
        else .error (2, tP b n j)
      else if tK b n i = 21 then (if o = 15 then .error (6, tP b n i) else (adv' b n i).bind fun j => (rd b n sN mx vN g 0 j (o + 1) X u).bind fun r => .ok (r.1, r.2.1 ++ [(3, Int64.ofNat (r.2.1.length - 1), 0)], r.2.2))
      else if tK b n i = 15 then (if o = 15 then .error (6, tP b n i) else (adv' b n i).bind fun j => (rd b n sN mx vN g 3 j (o + 1) X u).bind fun r => if tK b n r.1 = 16 then (adv' b n r.1).bind fun j' => .ok (j', r.2) else .error (2, tP b n r.1))
      else .error (2, tP b n i)
    else if md = 1 then (rd b n sN mx vN g 0 i o X u).bind fun r => rd b n sN mx vN g 2 r.1 o r.2.1 r.2.2
    else if md = 2 then (if tK b n i = 22 ∨ tK b n i = 23 ∨ tK b n i = 24 then (adv' b n i).bind fun j => (rd b n sN mx vN g 0 j o X u).bind fun r => rd b n sN mx vN g 2 r.1 o (r.2.1 ++ [(opS (tK b n i), Int64.ofNat (X.length - 1), r.2.1.length - 1)]) r.2.2 else .ok (i, X, u))
    else if md = 3 then (rd b n sN mx vN g 1 i o X u).bind fun r => rd b n sN mx vN g 4 r.1 o r.2.1 r.2.2
    else (if tK b n i = 20 ∨ tK b n i = 21 then (adv' b n i).bind fun j => (rd b n sN mx vN g 1 j o X u).bind fun r => rd b n sN mx vN g 4 r.1 o (r.2.1 ++ [(opS (tK b n i), Int64.ofNat (X.length - 1), r.2.1.length - 1)]) r.2.2 else .ok (i, X, u))
/-- the stop: the first token that is none, or the end -/
def Sto (b : Nat → Int32) (n s : Nat) : Prop := s ≤ n ∧ n ≤ 800 ∧ (tK b n s = 0 ∨ tK b n s = 1) ∧ ∀ j, j < s → tK b n j ≠ 0 ∧ tK b n j ≠ 1
theorem Sto.lt {b : Nat → Int32} {n s i : Nat} (h : Sto b n s) (hi : i ≤ s) (h0 : tK b n i ≠ 0) (h1 : tK b n i ≠ 1) : i < s := by
  rcases Nat.lt_or_eq_of_le hi with q | q
  · exact q
  · subst q
    rcases h.2.2.1 with q | q
    · exact absurd q h0
    · exact absurd q h1
theorem adv_cases {b : Nat → Int32} {n i : Nat} : (tK b n (i + 1) = 0 ∧ adv' b n i = .error (1, tP b n (i + 1))) ∨ (tK b n (i + 1) ≠ 0 ∧ adv' b n i = .ok (i + 1)) := by
  unfold adv'
  by_cases h : tK b n (i + 1) = 0
  · exact Or.inl ⟨h, by rw [if_pos h]⟩
  · exact Or.inr ⟨h, by rw [if_neg h]⟩
/-- what a result keeps to -/
def RdOk (b : Nat → Int32) (n s md i : Nat) (X : List Nd) (g : Nat) (R : Except (Int32 × Nat) (Nat × List Nd × Int32)) : Prop := match R with
  | .error e => 6 * (s + 1 - i) + md ≤ g → e.1 ≠ 0
  | .ok r => i ≤ r.1 ∧ r.1 ≤ s ∧ tK b n r.1 ≠ 0 ∧ (∃ Y, r.2.1 = X ++ Y ∧ Y.length ≤ r.1 - i) ∧ (md = 0 ∨ md = 1 ∨ md = 3 → i < r.1 ∧ X.length < r.2.1.length)
theorem rdE {b : Nat → Int32} {n s md i : Nat} {X : List Nd} {g : Nat} {c : Int32} {p : Nat} (h : c ≠ 0) : RdOk b n s md i X g (.error (c, p)) := fun _ => h
theorem rd_ok {b : Nat → Int32} {n s : Nat} {sN : List Int64} {mx : List Int32} {vN : List Int64} (hS : Sto b n s) : ∀ (g md i o : Nat) (X : List Nd) (u : Int32), md ≤ 4 → i ≤ s → tK b n i ≠ 0 → RdOk b n s md i X g (rd b n sN mx vN g md i o X u) := by
  intro g
  induction g with
  | zero => intro md i o X u hm hi h0; unfold rd; intro hg; omega
  | succ g ih =>
    intro md i o X u hm hi h0
    unfold rd
    have one : ∀ (x : Nd), i < s → tK b n (i + 1) ≠ 0 → ∀ u', RdOk b n s 0 i X (g + 1) (.ok (i + 1, X ++ [x], u')) := fun x hs h1 u' => ⟨Nat.le_succ _, hs, h1, ⟨[x], rfl, by show 1 ≤ i + 1 - i; omega⟩, fun _ => ⟨Nat.lt_succ_self _, by rw [List.length_append]; exact Nat.lt_succ_self _⟩⟩
    by_cases m0 : md = 0
    · subst m0
      rw [if_pos rfl]
      split
      · rename_i hk
        have hs := hS.lt hi h0 (by rw [hk]; decide)
        rcases adv_cases (b := b) (n := n) (i := i) with ⟨h1, e⟩ | ⟨h1, e⟩ <;> rw [e]
        · exact rdE (by decide)
        · exact one _ hs h1 _
      · split
        · rename_i hk
          have hs := hS.lt hi h0 (by rw [hk]; decide)
          split
          · exact rdE (by decide)
          · rcases adv_cases (b := b) (n := n) (i := i) with ⟨h1, e⟩ | ⟨h1, e⟩ <;> rw [e]
            · exact rdE (by decide)
            · exact one _ hs h1 _
        · split
          · rename_i hk
            have hs := hS.lt hi h0 (by rw [hk]; decide)
            rcases adv_cases (b := b) (n := n) (i := i) with ⟨h1, e⟩ | ⟨h1, e⟩ <;> rw [e]
            · exact rdE (by decide)
            · show RdOk b n s 0 i X (g + 1) (if tK b n (i + 1) = 2 then _ else _)
              split
              · rename_i hk2
                have hs2 := hS.lt hs h1 (by rw [hk2]; decide)
                split
                · exact rdE (by decide)
                · split
                  · exact rdE (by decide)
                  · rcases adv_cases (b := b) (n := n) (i := i + 1) with ⟨h2, e2⟩ | ⟨h2, e2⟩ <;> rw [e2]
                    · exact rdE (by decide)
                    · exact ⟨by show i ≤ i + 1 + 1; omega, hs2, h2, ⟨[_], rfl, by show 1 ≤ i + 1 + 1 - i; omega⟩, fun _ => ⟨by show i < i + 1 + 1; omega, by rw [List.length_append]; exact Nat.lt_succ_self _⟩⟩
              · exact rdE (by decide)
          · split
            · rename_i hk
              have hs := hS.lt hi h0 (by rw [hk]; decide)
              split
              · exact rdE (by decide)
              · rcases adv_cases (b := b) (n := n) (i := i) with ⟨h1, e⟩ | ⟨h1, e⟩ <;> rw [e]
                · exact rdE (by decide)
                · have := ih 0 (i + 1) (o + 1) X u (by decide) hs h1
                  show RdOk b n s 0 i X (g + 1) ((rd b n sN mx vN g 0 (i + 1) (o + 1) X u).bind _)
                  generalize rd b n sN mx vN g 0 (i + 1) (o + 1) X u = R at this
                  cases R with
                  | error e => intro hg; exact this (by omega)
                  | ok r =>
                    obtain ⟨a1, a2, a3, ⟨Y, a4, a5⟩, a6⟩ := this
                    refine ⟨by show i ≤ r.1; omega, a2, a3, ⟨Y ++ [_], by show r.2.1 ++ _ = X ++ (Y ++ _); rw [a4, List.append_assoc], by rw [List.length_append]; show Y.length + 1 ≤ r.1 - i; omega⟩, fun _ => ⟨by show i < r.1; omega, ?_⟩⟩
                    show X.length < (r.2.1 ++ [_]).length
                    rw [List.length_append, a4, List.length_append]
                    show X.length < X.length + Y.length + 1
                    omega
            · split
              · rename_i hk
                have hs := hS.lt hi h0 (by rw [hk]; decide)
                split
                · exact rdE (by decide)
                · rcases adv_cases (b := b) (n := n) (i := i) with ⟨h1, e⟩ | ⟨h1, e⟩ <;> rw [e]
                  · exact rdE (by decide)
                  · have := ih 3 (i + 1) (o + 1) X u (by decide) hs h1
                    show RdOk b n s 0 i X (g + 1) ((rd b n sN mx vN g 3 (i + 1) (o + 1) X u).bind _)
                    generalize rd b n sN mx vN g 3 (i + 1) (o + 1) X u = R at this
                    cases R with
                    | error e => intro hg; exact this (by omega)
                    | ok r =>
                      obtain ⟨a1, a2, a3, ⟨Y, a4, a5⟩, a6⟩ := this
                      show RdOk b n s 0 i X (g + 1) (if tK b n r.1 = 16 then _ else _)
                      split
                      · rename_i hk2
                        have hs2 := hS.lt a2 a3 (by rw [hk2]; decide)
                        rcases adv_cases (b := b) (n := n) (i := r.1) with ⟨h2, e2⟩ | ⟨h2, e2⟩ <;> rw [e2]
                        · exact rdE (by decide)
                        · refine ⟨by show i ≤ r.1 + 1; omega, hs2, h2, ⟨Y, a4, by show Y.length ≤ r.1 + 1 - i; omega⟩, fun _ => ⟨by show i < r.1 + 1; omega, (a6 (by decide)).2⟩⟩
                      · exact rdE (by decide)
              · exact rdE (by decide)
    rw [if_neg m0]
    have two : ∀ (m1 m2 : Nat), (m1 = 0 ∨ m1 = 1) → (m2 = 2 ∨ m2 = 4) → m1 + 1 ≤ md → m2 ≤ md + 1 → (md = 1 ∨ md = 3) → RdOk b n s md i X (g + 1) ((rd b n sN mx vN g m1 i o X u).bind fun r => rd b n sN mx vN g m2 r.1 o r.2.1 r.2.2) := by
      intro m1 m2 h1 h2 h3 h4 h5
      have := ih m1 i o X u (by omega) hi h0
      generalize rd b n sN mx vN g m1 i o X u = R at this
      cases R with
      | error e => intro hg; exact this (by omega)
      | ok r =>
        obtain ⟨a1, a2, a3, ⟨Y, a4, a5⟩, a6⟩ := this
        have a7 := a6 (by omega)
        have := ih m2 r.1 o r.2.1 r.2.2 (by omega) a2 a3
        show RdOk b n s md i X (g + 1) (rd b n sN mx vN g m2 r.1 o r.2.1 r.2.2)
        generalize rd b n sN mx vN g m2 r.1 o r.2.1 r.2.2 = R2 at this
        cases R2 with
        | error e => intro hg; exact this (by omega)
        | ok r2 =>
          obtain ⟨b1, b2, b3, ⟨Z, b4, b5⟩, b6⟩ := this
          refine ⟨by omega, b2, b3, ⟨Y ++ Z, by rw [b4, a4, List.append_assoc], by rw [List.length_append]; omega⟩, fun _ => ⟨by omega, ?_⟩⟩
          rw [b4, List.length_append]
          omega
    have lp : ∀ (m1 : Nat) (y : List Nd → Nd), (m1 = 0 ∨ m1 = 1) → (md = 2 ∨ md = 4) → i < s → RdOk b n s md i X (g + 1) ((adv' b n i).bind fun j => (rd b n sN mx vN g m1 j o X u).bind fun r => rd b n sN mx vN g md r.1 o (r.2.1 ++ [y r.2.1]) r.2.2) := by
      intro m1 y h1 h5 hs
      rcases adv_cases (b := b) (n := n) (i := i) with ⟨k1, e⟩ | ⟨k1, e⟩ <;> rw [e]
      · exact rdE (by decide)
      · have := ih m1 (i + 1) o X u (by omega) hs k1
        show RdOk b n s md i X (g + 1) ((rd b n sN mx vN g m1 (i + 1) o X u).bind fun r => rd b n sN mx vN g md r.1 o (r.2.1 ++ [y r.2.1]) r.2.2)
        generalize rd b n sN mx vN g m1 (i + 1) o X u = R at this
        cases R with
        | error e => intro hg; exact this (by omega)
        | ok r =>
          obtain ⟨a1, a2, a3, ⟨Y, a4, a5⟩, a6⟩ := this
          have := ih md r.1 o (r.2.1 ++ [y r.2.1]) r.2.2 hm a2 a3
          show RdOk b n s md i X (g + 1) (rd b n sN mx vN g md r.1 o (r.2.1 ++ [y r.2.1]) r.2.2)
          generalize rd b n sN mx vN g md r.1 o (r.2.1 ++ [y r.2.1]) r.2.2 = R2 at this
          cases R2 with
          | error e => intro hg; exact this (by omega)
          | ok r2 =>
            obtain ⟨b1, b2, b3, ⟨Z, b4, b5⟩, b6⟩ := this
            refine ⟨by omega, b2, b3, ⟨Y ++ ([y r.2.1] ++ Z), by rw [b4, a4]; simp only [List.append_assoc], by rw [List.length_append, List.length_append]; show Y.length + (1 + Z.length) ≤ _; omega⟩, fun q => by omega⟩
    have stay : RdOk b n s md i X (g + 1) (.ok (i, X, u)) ∨ md = 1 ∨ md = 3 := by
      by_cases q : md = 1 ∨ md = 3
      · exact Or.inr q
      · exact Or.inl ⟨Nat.le_refl _, hi, h0, ⟨[], by rw [List.append_nil], Nat.zero_le _⟩, fun z => by omega⟩
    by_cases m1 : md = 1
    · rw [if_pos m1]; exact two 0 2 (Or.inl rfl) (Or.inl rfl) (by omega) (by omega) (Or.inl m1)
    rw [if_neg m1]
    by_cases m2 : md = 2
    · rw [if_pos m2]
      split
      · rename_i hk
        have hs := hS.lt hi h0 (by rcases hk with q | q | q <;> (rw [q]; decide))
        have := lp 0 (fun Z => (opS (tK b n i), Int64.ofNat (X.length - 1), Z.length - 1)) (Or.inl rfl) (Or.inl m2) hs
        rw [m2] at this
        rw [m2]
        exact this
      · exact stay.resolve_right (by omega)
    rw [if_neg m2]
    by_cases m3 : md = 3
    · rw [if_pos m3]; exact two 1 4 (Or.inr rfl) (Or.inr rfl) (by omega) (by omega) (Or.inr m3)
    rw [if_neg m3]
    have m4 : md = 4 := by omega
    split
    · rename_i hk
      have hs := hS.lt hi h0 (by rcases hk with q | q <;> (rw [q]; decide))
      have := lp 1 (fun Z => (opS (tK b n i), Int64.ofNat (X.length - 1), Z.length - 1)) (Or.inr rfl) (Or.inr m4) hs
      rw [m4] at this
      rw [m4]
      exact this
    · exact stay.resolve_right (by omega)
