/-! words stand apart: how many nodes conditions can have -/
def wdK (k : Int32) : Prop := k = 2 ∨ 30 ≤ k
def bt (b : Nat → Int32) (n i : Nat) : Nat := if isL (b (tP b n i)) = true then tP b n i else tP b n i + 1
theorem runF_end {p : Int32 → Bool} {b : Nat → Int32} : ∀ (k a : Nat), runF p b k a < a + k → p (b (runF p b k a)) = false := by
  intro k
  induction k with
  | zero => intro a h; exact absurd h (by unfold runF; omega)
  | succ k ih =>
    intro a h
    unfold runF at h ⊢
    by_cases hp : p (b a) = true
    · rw [if_pos hp] at h ⊢
      exact ih (a + 1) (by omega)
    · rw [if_neg hp]
      exact eq_false_of_ne_true hp
theorem key_lt : ∀ j : Fin 33, (30 : Int32) ≤ 30 + Int32.ofNat j := by decide +kernel
theorem sk_lt : ∀ k ∈ sKs, ¬ (k = 2 ∨ (30 : Int32) ≤ k) := by decide +kernel
theorem wdK_L {b : Nat → Int32} {n p : Nat} (hB : By b) (h : wdK (ckK b n p)) : WD b n p := by
  rcases tok_cases (n := n) (p := p) hB with ⟨-, e, -⟩ | ⟨w, -, -⟩ | ⟨-, -, e, -⟩ | ⟨-, e, -⟩ | ⟨-, e⟩
  · rw [e] at h; exact absurd h (by unfold wdK; decide)
  · exact w
  · rw [e] at h; exact absurd h (by unfold wdK; decide)
  · exact absurd h (sk_lt _ e)
  · rw [e] at h; exact absurd h (by unfold wdK; decide)
theorem tP_next {b : Nat → Int32} {n i : Nat} (hz : ∀ i, n ≤ i → b i = 0) : ckE b n (tP b n i) ≤ tP b n (i + 1) ∧ tP b n (i + 1) ≤ n := tP_b (tPos_le hz (i + 1))
theorem bt_mono {b : Nat → Int32} {n i : Nat} (hz : ∀ i, n ≤ i → b i = 0) (h1 : tK b n i ≠ 1) : bt b n i ≤ bt b n (i + 1) := by
  have h3 : tP b n i < n := Nat.lt_of_not_le (fun z => h1 (tK_fin z))
  have h4 := (tP_next (i := i) hz).1
  have h5 := ckE_gt (b := b) h3
  unfold bt
  split <;> split <;> omega
theorem bt_word {b : Nat → Int32} {n i : Nat} (hz : ∀ i, n ≤ i → b i = 0) (hB : By b) (h : wdK (tK b n i)) : bt b n i + 2 ≤ bt b n (i + 1) := by
  have w := wdK_L hB h
  have h4 := tP_next (i := i) hz
  have h5 := ckE_gt (b := b) w.1
  have eE : ckE b n (tP b n i) = rnE isL b n (tP b n i) := by unfold ckE; rw [if_neg (Nat.not_le.mpr w.1), if_pos w.2.1]
  unfold bt
  rw [if_pos w.2.1]
  split
  · rename_i hL
    have : tP b n (i + 1) ≠ ckE b n (tP b n i) := by
      intro z
      have hlt : rnE isL b n (tP b n i) < tP b n i + (n - tP b n i) := by
        have : tP b n (i + 1) ≠ n := by
          intro q
          rw [q, hz n (Nat.le_refl _)] at hL
          exact absurd hL (by decide)
        have := w.1
        omega
      have := runF_end _ _ hlt
      rw [z, eE] at hL
      exact absurd (hL.symm.trans this) (by decide)
    omega
  · omega
theorem bt_le {b : Nat → Int32} {n i : Nat} (hz : ∀ i, n ≤ i → b i = 0) : bt b n i ≤ n + 1 := by
  have := (tP_b (tPos_le hz i)).2
  unfold bt
  split <;> omega
/-! conditions, in the middle: nodes in postfix order (0 signal, 1 pre, 2 not, 3 and, 4 or) -/
abbrev Cd : Type := Nat × Nat × Nat
def rc0 (b : Nat → Int32) (n : Nat) (sN : List Int64) (p j : Nat) (Y : List Cd) : Except (Int32 × Nat) (Nat × List Cd) :=
  if tK b n j = 2 then (match fd sN (tC b n j) with
    | none => .error (4, tP b n j)
    | some k => (adv' b n j).bind fun j' => .ok (j', Y ++ [(p, k, 0)]))
  else .error (2, tP b n j)
def rc (b : Nat → Int32) (n : Nat) (sN : List Int64) : Nat → Nat → Nat → Nat → List Cd → Except (Int32 × Nat) (Nat × List Cd)
  | 0, _, _, _, _ => .error (0, 0)
  | g + 1, md, i, o, Y =>
    if md = 0 then
      if tK b n i = 61 then (if o = 15 then .error (6, tP b n i) else (adv' b n i).bind fun j => (rc b n sN g 0 j (o + 1) Y).bind fun r => .ok (r.1, r.2 ++ [(2, r.2.length - 1, 0)]))
      else if tK b n i = 15 then (if o = 15 then .error (6, tP b n i) else (adv' b n i).bind fun j => (rc b n sN g 3 j (o + 1) Y).bind fun r => if tK b n r.1 = 16 then (adv' b n r.1).bind fun j' => .ok (j', r.2) else .error (2, tP b n r.1))
      else if tK b n i = 62 then (adv' b n i).bind fun j => rc0 b n sN 1 j Y
      else rc0 b n sN 0 i Y
    else if md = 1 then (rc b n sN g 0 i o Y).bind fun r => rc b n sN g 2 r.1 o r.2
    else if md = 2 then (if tK b n i = 59 then (adv' b n i).bind fun j => (rc b n sN g 0 j o Y).bind fun r => rc b n sN g 2 r.1 o (r.2 ++ [(3, Y.length - 1, r.2.length - 1)]) else .ok (i, Y))
    else if md = 3 then (rc b n sN g 1 i o Y).bind fun r => rc b n sN g 4 r.1 o r.2
    else (if tK b n i = 60 then (adv' b n i).bind fun j => (rc b n sN g 1 j o Y).bind fun r => rc b n sN g 4 r.1 o (r.2 ++ [(4, Y.length - 1, r.2.length - 1)]) else .ok (i, Y))
def RcOk (b : Nat → Int32) (n s md i : Nat) (Y : List Cd) (g : Nat) (R : Except (Int32 × Nat) (Nat × List Cd)) : Prop := match R with
  | .error e => 6 * (s + 1 - i) + md ≤ g → e.1 ≠ 0
  | .ok r => i ≤ r.1 ∧ r.1 ≤ s ∧ tK b n r.1 ≠ 0 ∧ (∃ Z, r.2 = Y ++ Z ∧ Z.length ≤ r.1 - i) ∧ (md = 0 ∨ md = 1 ∨ md = 3 → i < r.1 ∧ Y.length < r.2.length)
theorem rcE {b : Nat → Int32} {n s md i : Nat} {Y : List Cd} {g : Nat} {c : Int32} {p : Nat} (h : c ≠ 0) : RcOk b n s md i Y g (.error (c, p)) := fun _ => h
theorem rc0_ok {b : Nat → Int32} {n s : Nat} {sN : List Int64} (hS : Sto b n s) {p i j : Nat} {Y : List Cd} {g : Nat} (hj : i ≤ j) (h1 : j ≤ s) (h0 : tK b n j ≠ 0) : RcOk b n s 0 i Y g (rc0 b n sN p j Y) := by
  unfold rc0
  split
  · rename_i hk
    have hs := hS.lt h1 h0 (by rw [hk]; decide)
    split
    · exact rcE (by decide)
    · rcases adv_cases (b := b) (n := n) (i := j) with ⟨k1, e⟩ | ⟨k1, e⟩ <;> rw [e]
      · exact rcE (by decide)
      · exact ⟨by show i ≤ j + 1; omega, hs, k1, ⟨[_], rfl, by show 1 ≤ j + 1 - i; omega⟩, fun _ => ⟨by show i < j + 1; omega, by rw [List.length_append]; exact Nat.lt_succ_self _⟩⟩
  · exact rcE (by decide)
theorem rc_ok {b : Nat → Int32} {n s : Nat} {sN : List Int64} (hS : Sto b n s) : ∀ (g md i o : Nat) (Y : List Cd), md ≤ 4 → i ≤ s → tK b n i ≠ 0 → RcOk b n s md i Y g (rc b n sN g md i o Y) := by
  intro g
  induction g with
  | zero => intro md i o Y hm hi h0; unfold rc; intro hg; omega
  | succ g ih =>
    intro md i o Y hm hi h0
    unfold rc
    by_cases m0 : md = 0
    · subst m0
      rw [if_pos rfl]
      split
      · rename_i hk
        have hs := hS.lt hi h0 (by rw [hk]; decide)
        split
        · exact rcE (by decide)
        · rcases adv_cases (b := b) (n := n) (i := i) with ⟨h1, e⟩ | ⟨h1, e⟩ <;> rw [e]
          · exact rcE (by decide)
          · have := ih 0 (i + 1) (o + 1) Y (by decide) hs h1
            show RcOk b n s 0 i Y (g + 1) ((rc b n sN g 0 (i + 1) (o + 1) Y).bind _)
            generalize rc b n sN g 0 (i + 1) (o + 1) Y = R at this
            cases R with
            | error e => intro hg; exact this (by omega)
            | ok r =>
              obtain ⟨a1, a2, a3, ⟨Z, a4, a5⟩, a6⟩ := this
              refine ⟨by show i ≤ r.1; omega, a2, a3, ⟨Z ++ [_], by show r.2 ++ _ = Y ++ (Z ++ _); rw [a4, List.append_assoc], by rw [List.length_append]; show Z.length + 1 ≤ r.1 - i; omega⟩, fun _ => ⟨by show i < r.1; omega, ?_⟩⟩
              show Y.length < (r.2 ++ [_]).length
              rw [List.length_append, a4, List.length_append]
              show Y.length < Y.length + Z.length + 1
              omega
      · split
        · rename_i hk
          have hs := hS.lt hi h0 (by rw [hk]; decide)
          split
          · exact rcE (by decide)
          · rcases adv_cases (b := b) (n := n) (i := i) with ⟨h1, e⟩ | ⟨h1, e⟩ <;> rw [e]
            · exact rcE (by decide)
            · have := ih 3 (i + 1) (o + 1) Y (by decide) hs h1
              show RcOk b n s 0 i Y (g + 1) ((rc b n sN g 3 (i + 1) (o + 1) Y).bind _)
              generalize rc b n sN g 3 (i + 1) (o + 1) Y = R at this
              cases R with
              | error e => intro hg; exact this (by omega)
              | ok r =>
                obtain ⟨a1, a2, a3, ⟨Z, a4, a5⟩, a6⟩ := this
                show RcOk b n s 0 i Y (g + 1) (if tK b n r.1 = 16 then _ else _)
                split
                · rename_i hk2
                  have hs2 := hS.lt a2 a3 (by rw [hk2]; decide)
                  rcases adv_cases (b := b) (n := n) (i := r.1) with ⟨h2, e2⟩ | ⟨h2, e2⟩ <;> rw [e2]
                  · exact rcE (by decide)
                  · refine ⟨by show i ≤ r.1 + 1; omega, hs2, h2, ⟨Z, a4, by show Z.length ≤ r.1 + 1 - i; omega⟩, fun _ => ⟨by show i < r.1 + 1; omega, (a6 (by decide)).2⟩⟩
                · exact rcE (by decide)
        · split
          · rename_i hk
            have hs := hS.lt hi h0 (by rw [hk]; decide)
            rcases adv_cases (b := b) (n := n) (i := i) with ⟨h1, e⟩ | ⟨h1, e⟩ <;> rw [e]
            · exact rcE (by decide)
            · exact rc0_ok hS (Nat.le_succ _) hs h1
          · exact rc0_ok hS (Nat.le_refl _) hi h0
    rw [if_neg m0]
    have two : ∀ (m1 m2 : Nat), (m1 = 0 ∨ m1 = 1) → (m2 = 2 ∨ m2 = 4) → m1 + 1 ≤ md → m2 ≤ md + 1 → (md = 1 ∨ md = 3) → RcOk b n s md i Y (g + 1) ((rc b n sN g m1 i o Y).bind fun r => rc b n sN g m2 r.1 o r.2) := by
      intro m1 m2 h1 h2 h3 h4 h5
      have := ih m1 i o Y (by omega) hi h0
      generalize rc b n sN g m1 i o Y = R at this
      cases R with
      | error e => intro hg; exact this (by omega)
      | ok r =>
        obtain ⟨a1, a2, a3, ⟨Z, a4, a5⟩, a6⟩ := this
        have a7 := a6 (by omega)
        have := ih m2 r.1 o r.2 (by omega) a2 a3
        show RcOk b n s md i Y (g + 1) (rc b n sN g m2 r.1 o r.2)
        generalize rc b n sN g m2 r.1 o r.2 = R2 at this
        cases R2 with
        | error e => intro hg; exact this (by omega)
        | ok r2 =>
          obtain ⟨b1, b2, b3, ⟨V, b4, b5⟩, b6⟩ := this
          refine ⟨by omega, b2, b3, ⟨Z ++ V, by rw [b4, a4, List.append_assoc], by rw [List.length_append]; omega⟩, fun _ => ⟨by omega, ?_⟩⟩
          rw [b4, List.length_append]
          omega
    have lp : ∀ (m1 : Nat) (y : List Cd → Cd), (m1 = 0 ∨ m1 = 1) → (md = 2 ∨ md = 4) → i < s → RcOk b n s md i Y (g + 1) ((adv' b n i).bind fun j => (rc b n sN g m1 j o Y).bind fun r => rc b n sN g md r.1 o (r.2 ++ [y r.2])) := by
      intro m1 y h1 h5 hs
      rcases adv_cases (b := b) (n := n) (i := i) with ⟨k1, e⟩ | ⟨k1, e⟩ <;> rw [e]
      · exact rcE (by decide)
      · have := ih m1 (i + 1) o Y (by omega) hs k1
        show RcOk b n s md i Y (g + 1) ((rc b n sN g m1 (i + 1) o Y).bind fun r => rc b n sN g md r.1 o (r.2 ++ [y r.2]))
        generalize rc b n sN g m1 (i + 1) o Y = R at this
        cases R with
        | error e => intro hg; exact this (by omega)
        | ok r =>
          obtain ⟨a1, a2, a3, ⟨Z, a4, a5⟩, a6⟩ := this
          have := ih md r.1 o (r.2 ++ [y r.2]) hm a2 a3
          show RcOk b n s md i Y (g + 1) (rc b n sN g md r.1 o (r.2 ++ [y r.2]))
          generalize rc b n sN g md r.1 o (r.2 ++ [y r.2]) = R2 at this
          cases R2 with
          | error e => intro hg; exact this (by omega)
          | ok r2 =>
            obtain ⟨b1, b2, b3, ⟨V, b4, b5⟩, b6⟩ := this
            refine ⟨by omega, b2, b3, ⟨Z ++ ([y r.2] ++ V), by rw [b4, a4]; simp only [List.append_assoc], by rw [List.length_append, List.length_append]; show Z.length + (1 + V.length) ≤ _; omega⟩, fun q => by omega⟩
    have stay : RcOk b n s md i Y (g + 1) (.ok (i, Y)) ∨ md = 1 ∨ md = 3 := by
      by_cases q : md = 1 ∨ md = 3
      · exact Or.inr q
      · exact Or.inl ⟨Nat.le_refl _, hi, h0, ⟨[], by rw [List.append_nil], Nat.zero_le _⟩, fun z => by omega⟩
    by_cases m1 : md = 1
    · rw [if_pos m1]; exact two 0 2 (Or.inl rfl) (Or.inl rfl) (by omega) (by omega) (Or.inl m1)
    rw [if_neg m1]
    by_cases m2 : md = 2
    · rw [if_pos m2]
      split
      · rename_i hk
        have hs := hS.lt hi h0 (by rw [hk]; decide)
        have := lp 0 (fun Z => (3, Y.length - 1, Z.length - 1)) (Or.inl rfl) (Or.inl m2) hs
        rw [m2] at this
        rw [m2]
        exact this
      · exact stay.resolve_right (by omega)
    rw [if_neg m2]
    by_cases m3 : md = 3
    · rw [if_pos m3]; exact two 1 4 (Or.inr rfl) (Or.inr rfl) (by omega) (by omega) (Or.inr m3)
    rw [if_neg m3]
    have m4 : md = 4 := by omega
    split
    · rename_i hk
      have hs := hS.lt hi h0 (by rw [hk]; decide)
      have := lp 1 (fun Z => (4, Y.length - 1, Z.length - 1)) (Or.inr rfl) (Or.inr m4) hs
      rw [m4] at this
      rw [m4]
      exact this
    · exact stay.resolve_right (by omega)
