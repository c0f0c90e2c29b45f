/-! which variables sums use: masks -/
/-- what nodes of sums use -/
def usX : List Nd → Int32
  | [] => 0
  | e :: t => (if e.1 = 1 then (1 : Int32) <<< (e.2.1.toInt32 &&& 31) else 0) ||| usX t
theorem usX_app : ∀ (s t : List Nd), usX (s ++ t) = usX s ||| usX t
  | [], t => by show usX t = 0 ||| usX t; rw [Int32.zero_or]
  | e :: s, t => by show _ ||| usX (s ++ t) = (_ ||| usX s) ||| usX t; rw [usX_app s t, Int32.or_assoc]
theorem usX_one {e : Nd} (h : e.1 ≠ 1) : usX [e] = 0 := by show (if e.1 = 1 then _ else (0 : Int32)) ||| (0 : Int32) = 0; rw [if_neg h, Int32.or_zero]
theorem opS_ne {k : Int32} : opS k ≠ 1 := by
  unfold opS
  repeat (first | split | decide)
/-- what a reading adds to a sum's nodes and to what is used -/
def UsR (X : List Nd) (u : Int32) (r : List Nd × Int32) : Prop := ∃ Y, r.1 = X ++ Y ∧ r.2 = u ||| usX Y
theorem UsR.rf {X : List Nd} {u : Int32} : UsR X u (X, u) := ⟨[], (List.append_nil X).symm, (Int32.or_zero).symm⟩
theorem UsR.tr {X : List Nd} {u : Int32} {r s : List Nd × Int32} (h : UsR X u r) (k : UsR r.1 r.2 s) : UsR X u s := by
  obtain ⟨Y, h1, h2⟩ := h
  obtain ⟨Z, k1, k2⟩ := k
  exact ⟨Y ++ Z, by rw [k1, h1, List.append_assoc], by rw [k2, h2, usX_app, Int32.or_assoc]⟩
theorem UsR.no {X : List Nd} {u : Int32} {e : Nd} (h : e.1 ≠ 1) : UsR X u (X ++ [e], u) := ⟨[e], rfl, by rw [usX_one h, Int32.or_zero]⟩
section
variable {b : Nat → Int32} {n : Nat} {sN : List Int64} {mx : List Int32} {vN : List Int64}
theorem rd_us (hv : vN.length < 1000) : ∀ (g md i o : Nat) (X : List Nd) (u : Int32) (r : Nat × List Nd × Int32), rd b n sN mx vN g md i o X u = .ok r → UsR X u r.2 := by
  intro g
  induction g with
  | zero => intro md i o X u r e; unfold rd at e; cases e
  | succ g ih =>
    intro md i o X u r e
    unfold rd at e
    by_cases m0 : md = 0
    · rw [if_pos m0] at e
      by_cases k3 : tK b n i = 3
      · rw [if_pos k3] at e
        obtain ⟨j, -, e⟩ := bind_ok e
        cases e
        exact UsR.no (by show (0 : Nat) ≠ 1; decide)
      rw [if_neg k3] at e
      by_cases k2 : tK b n i = 2
      · rw [if_pos k2] at e
        cases hf : fd vN (tC b n i) with
        | none => rw [hf] at e; cases e
        | some k =>
          rw [hf] at e
          obtain ⟨j, -, e⟩ := bind_ok e
          cases e
          have hk := (fd_some hf).1
          refine ⟨[(1, Int64.ofNat k, 0)], rfl, ?_⟩
          show u ||| _ = u ||| ((if (1 : Nat) = 1 then (1 : Int32) <<< ((Int64.ofNat k).toInt32 &&& 31) else 0) ||| 0)
          rw [if_pos rfl, Int32.or_zero, n64_32 (by omega)]
      rw [if_neg k2] at e
      by_cases k19 : tK b n i = 19
      · rw [if_pos k19] at e
        obtain ⟨j, -, e⟩ := bind_ok e
        by_cases kj : tK b n j = 2
        · rw [if_pos kj] at e
          cases hf : fd sN (tC b n j) with
          | none => rw [hf] at e; cases e
          | some k =>
            rw [hf] at e
            have e : (if mx.getD k 0 = 0 then Except.error (4, tP b n j) else (adv' b n j).bind fun j' => _) = .ok r := e
            by_cases km : mx.getD k 0 = 0
            · rw [if_pos km] at e; cases e
            rw [if_neg km] at e
            obtain ⟨j2, -, e⟩ := bind_ok e
            cases e
            exact UsR.no (by show (2 : Nat) ≠ 1; decide)
        · rw [if_neg kj] at e; cases e
      rw [if_neg k19] at e
      by_cases k21 : tK b n i = 21
      · rw [if_pos k21] at e
        by_cases ko : o = 15
        · rw [if_pos ko] at e; cases e
        rw [if_neg ko] at e
        obtain ⟨j, -, e⟩ := bind_ok e
        obtain ⟨q, e1, e⟩ := bind_ok e
        cases e
        exact (ih _ _ _ _ _ _ e1).tr (UsR.no (by show (3 : Nat) ≠ 1; decide))
      rw [if_neg k21] at e
      by_cases k15 : tK b n i = 15
      · rw [if_pos k15] at e
        by_cases ko : o = 15
        · rw [if_pos ko] at e; cases e
        rw [if_neg ko] at e
        obtain ⟨j, -, e⟩ := bind_ok e
        obtain ⟨q, e1, e⟩ := bind_ok e
        by_cases k16 : tK b n q.1 = 16
        · rw [if_pos k16] at e
          obtain ⟨j2, -, e⟩ := bind_ok e
          cases e
          have z := ih _ _ _ _ _ _ e1
          exact z
        · rw [if_neg k16] at e; cases e
      · rw [if_neg k15] at e; cases e
    rw [if_neg m0] at e
    by_cases m1 : md = 1
    · rw [if_pos m1] at e
      obtain ⟨q, e1, e⟩ := bind_ok e
      exact (ih _ _ _ _ _ _ e1).tr (ih _ _ _ _ _ _ e)
    rw [if_neg m1] at e
    by_cases m2 : md = 2
    · rw [if_pos m2] at e
      by_cases kk : tK b n i = 22 ∨ tK b n i = 23 ∨ tK b n i = 24
      · rw [if_pos kk] at e
        obtain ⟨j, -, e⟩ := bind_ok e
        obtain ⟨q, e1, e⟩ := bind_ok e
        exact ((ih _ _ _ _ _ _ e1).tr (UsR.no (e := (opS (tK b n i), Int64.ofNat (X.length - 1), q.2.1.length - 1)) opS_ne)).tr (ih _ _ _ _ _ _ e)
      · rw [if_neg kk] at e; cases e; exact UsR.rf
    rw [if_neg m2] at e
    by_cases m3 : md = 3
    · rw [if_pos m3] at e
      obtain ⟨q, e1, e⟩ := bind_ok e
      exact (ih _ _ _ _ _ _ e1).tr (ih _ _ _ _ _ _ e)
    rw [if_neg m3] at e
    by_cases kk : tK b n i = 20 ∨ tK b n i = 21
    · rw [if_pos kk] at e
      obtain ⟨j, -, e⟩ := bind_ok e
      obtain ⟨q, e1, e⟩ := bind_ok e
      exact ((ih _ _ _ _ _ _ e1).tr (UsR.no (e := (opS (tK b n i), Int64.ofNat (X.length - 1), q.2.1.length - 1)) opS_ne)).tr (ih _ _ _ _ _ _ e)
    · rw [if_neg kk] at e; cases e; exact UsR.rf
end
/-! a sum's nodes are a tree, its last node the root -/
def HvT (τ : Td) : Prop := τ.2.2.2.1.length ≤ 6 ∧ τ.1.length ≤ 16
def PxX (X : List Nd) : Nat → Nat → Nat → Prop
  | 0, _, _ => False
  | g + 1, f, c => c < X.length ∧ ((f = c ∧ (((X.getD c nd0).1 = 0 ∧ ∃ b n i, tK b n i = 3 ∧ (X.getD c nd0).2.1 = tC b n i) ∨ ((X.getD c nd0).1 = 1 ∧ ∃ k, k < 6 ∧ (X.getD c nd0).2.1 = Int64.ofNat k) ∨ ((X.getD c nd0).1 = 2 ∧ ∃ k, k < 16 ∧ (X.getD c nd0).2.1 = Int64.ofNat k)))
    ∨ ((X.getD c nd0).1 = 3 ∧ f < c ∧ (X.getD c nd0).2.1 = Int64.ofNat (c - 1) ∧ PxX X g f (c - 1))
    ∨ ((4 ≤ (X.getD c nd0).1 ∧ (X.getD c nd0).1 ≤ 8) ∧ ∃ e, e + 1 < c ∧ (X.getD c nd0).2.1 = Int64.ofNat e ∧ (X.getD c nd0).2.2 = c - 1 ∧ PxX X g f e ∧ PxX X g (e + 1) (c - 1)))
def PxE (X : List Nd) (f c : Nat) : Prop := ∃ g, PxX X g f c
def NeY (X Y : List Nd) : Prop := 0 < Y.length ∧ PxE (X ++ Y) X.length (X.length + Y.length - 1)
section
variable {X Y : List Nd} {f c : Nat}
theorem gd_app {c : Nat} (h : c < X.length) : (X ++ Y).getD c nd0 = X.getD c nd0 := by
  rw [List.getD_eq_getElem?_getD, List.getD_eq_getElem?_getD, List.getElem?_append_left h]
theorem PxX.st : ∀ (g g' f c : Nat), g ≤ g' → PxX X g f c → PxX (X ++ Y) g' f c := by
  intro g
  induction g with
  | zero => intro g' f c _ h; exact h.elim
  | succ g ih =>
    intro g' f c hg h
    cases g' with
    | zero => omega
    | succ g' =>
      have hg : g ≤ g' := by omega
      obtain ⟨h1, h⟩ := h
      refine ⟨by rw [List.length_append]; omega, ?_⟩
      rw [gd_app h1]
      rcases h with h | ⟨a1, a2, a3, a4⟩ | ⟨a1, e, a2, a3, a4, a5, a6⟩
      · exact Or.inl h
      · exact Or.inr (Or.inl ⟨a1, a2, a3, ih g' _ _ hg a4⟩)
      · exact Or.inr (Or.inr ⟨a1, e, a2, a3, a4, ih g' _ _ hg a5, ih g' _ _ hg a6⟩)
theorem PxE.app (h : PxE X f c) : PxE (X ++ Y) f c := by
  obtain ⟨g, h⟩ := h
  exact ⟨g, PxX.st g g f c (Nat.le_refl _) h⟩
theorem gd_last {d : Nd} : (X ++ [d]).getD X.length nd0 = d := by
  rw [List.getD_eq_getElem?_getD, List.getElem?_append_right (Nat.le_refl _), Nat.sub_self]
  rfl
theorem PxE.lf {d : Nd} (hd : (d.1 = 0 ∧ ∃ b n i, tK b n i = 3 ∧ d.2.1 = tC b n i) ∨ (d.1 = 1 ∧ ∃ k, k < 6 ∧ d.2.1 = Int64.ofNat k) ∨ (d.1 = 2 ∧ ∃ k, k < 16 ∧ d.2.1 = Int64.ofNat k)) : PxE (X ++ [d]) X.length X.length := by
  refine ⟨1, by rw [List.length_append]; exact Nat.lt_succ_self _, Or.inl ⟨rfl, ?_⟩⟩
  rw [gd_last]
  exact hd
theorem PxE.un {v : Int64} {w : Nat} (h : PxE X f (X.length - 1)) (hf : f < X.length) (e : v = Int64.ofNat (X.length - 1)) : PxE (X ++ [(3, v, w)]) f X.length := by
  obtain ⟨g, h⟩ := h
  refine ⟨g + 1, by rw [List.length_append]; exact Nat.lt_succ_self _, Or.inr (Or.inl ?_)⟩
  rw [gd_last]
  exact ⟨rfl, hf, e, PxX.st g g _ _ (Nat.le_refl _) h⟩
theorem PxE.bi {o : Nat} (h1 : PxE X f (X.length - 1)) (h2 : PxE (X ++ Y) X.length ((X ++ Y).length - 1)) (hX : 0 < X.length) (hY : 0 < Y.length) (ho : 4 ≤ o ∧ o ≤ 8) : PxE (X ++ Y ++ [(o, Int64.ofNat (X.length - 1), (X ++ Y).length - 1)]) f (X ++ Y).length := by
  obtain ⟨g1, h1⟩ := h1
  obtain ⟨g2, h2⟩ := h2
  have hl : (X ++ Y).length = X.length + Y.length := List.length_append
  refine ⟨max g1 g2 + 1, by rw [List.length_append (as := X ++ Y)]; exact Nat.lt_succ_self _, Or.inr (Or.inr ?_)⟩
  rw [gd_last]
  refine ⟨ho, X.length - 1, by omega, rfl, rfl, ?_, ?_⟩
  · rw [List.append_assoc]
    exact PxX.st g1 _ _ _ (by omega) h1
  · have e : X.length - 1 + 1 = X.length := by omega
    rw [e]
    exact PxX.st g2 _ _ _ (by omega) h2
end
section
variable {b : Nat → Int32} {n : Nat} {sN : List Int64} {mx : List Int32} {vN : List Int64}
theorem opS_in {k : Int32} : 4 ≤ opS k ∧ opS k ≤ 8 := by
  unfold opS
  repeat (first | split | decide)
theorem rd_px (hv : vN.length ≤ 6) (hs : sN.length ≤ 16) : ∀ (g md i o : Nat) (X : List Nd) (u : Int32) (r : Nat × List Nd × Int32), rd b n sN mx vN g md i o X u = .ok r → (md = 0 ∨ md = 1 ∨ md = 3 → X.length < r.2.1.length ∧ PxE r.2.1 X.length (r.2.1.length - 1)) ∧ (md = 2 ∨ 4 ≤ md → ∀ f, 0 < X.length → PxE X f (X.length - 1) → PxE r.2.1 f (r.2.1.length - 1)) := by
  intro g
  induction g with
  | zero => intro md i o X u r e; unfold rd at e; cases e
  | succ g ih =>
    intro md i o X u r e
    have lf : ∀ d : Nd, ((d.1 = 0 ∧ ∃ b n i, tK b n i = 3 ∧ d.2.1 = tC b n i) ∨ (d.1 = 1 ∧ ∃ k, k < 6 ∧ d.2.1 = Int64.ofNat k) ∨ (d.1 = 2 ∧ ∃ k, k < 16 ∧ d.2.1 = Int64.ofNat k)) → X.length < (X ++ [d]).length ∧ PxE (X ++ [d]) X.length ((X ++ [d]).length - 1) := fun d hd => by
      have e : (X ++ [d]).length - 1 = X.length := by rw [List.length_append]; rfl
      rw [e]
      exact ⟨by rw [List.length_append]; exact Nat.lt_succ_self _, PxE.lf hd⟩
    unfold rd at e
    by_cases m0 : md = 0
    · rw [if_pos m0] at e
      refine ⟨fun _ => ?_, fun z => absurd m0 (by omega)⟩
      by_cases k3 : tK b n i = 3
      · rw [if_pos k3] at e
        obtain ⟨j, -, e⟩ := bind_ok e
        cases e
        exact lf _ (Or.inl ⟨rfl, b, n, i, k3, rfl⟩)
      rw [if_neg k3] at e
      by_cases k2 : tK b n i = 2
      · rw [if_pos k2] at e
        cases hf : fd vN (tC b n i) with
        | none => rw [hf] at e; cases e
        | some k =>
          rw [hf] at e
          obtain ⟨j, -, e⟩ := bind_ok e
          cases e
          exact lf _ (Or.inr (Or.inl ⟨rfl, k, Nat.lt_of_lt_of_le (fd_some hf).1 hv, rfl⟩))
      rw [if_neg k2] at e
      by_cases k19 : tK b n i = 19
      · rw [if_pos k19] at e
        obtain ⟨j, -, e⟩ := bind_ok e
        by_cases kj : tK b n j = 2
        · rw [if_pos kj] at e
          cases hf : fd sN (tC b n j) with
          | none => rw [hf] at e; cases e
          | some k =>
            rw [hf] at e
            have e : (if mx.getD k 0 = 0 then Except.error (4, tP b n j) else (adv' b n j).bind fun j' => _) = .ok r := e
            by_cases km : mx.getD k 0 = 0
            · rw [if_pos km] at e; cases e
            rw [if_neg km] at e
            obtain ⟨j2, -, e⟩ := bind_ok e
            cases e
            exact lf _ (Or.inr (Or.inr ⟨rfl, k, Nat.lt_of_lt_of_le (fd_some hf).1 hs, rfl⟩))
        · rw [if_neg kj] at e; cases e
      rw [if_neg k19] at e
      by_cases k21 : tK b n i = 21
      · rw [if_pos k21] at e
        by_cases ko : o = 15
        · rw [if_pos ko] at e; cases e
        rw [if_neg ko] at e
        obtain ⟨j, -, e⟩ := bind_ok e
        obtain ⟨q, e1, e⟩ := bind_ok e
        cases e
        obtain ⟨a1, a2⟩ := (ih _ _ _ _ _ _ e1).1 (Or.inl rfl)
        show X.length < (q.2.1 ++ [_]).length ∧ PxE (q.2.1 ++ [_]) X.length ((q.2.1 ++ [_]).length - 1)
        rw [List.length_append]
        exact ⟨by show _ < q.2.1.length + 1; omega, PxE.un a2 a1 rfl⟩
      rw [if_neg k21] at e
      by_cases k15 : tK b n i = 15
      · rw [if_pos k15] at e
        by_cases ko : o = 15
        · rw [if_pos ko] at e; cases e
        rw [if_neg ko] at e
        obtain ⟨j, -, e⟩ := bind_ok e
        obtain ⟨q, e1, e⟩ := bind_ok e
        by_cases k16 : tK b n q.1 = 16
        · rw [if_pos k16] at e
          obtain ⟨j2, -, e⟩ := bind_ok e
          cases e
          exact (ih _ _ _ _ _ _ e1).1 (Or.inr (Or.inr rfl))
        · rw [if_neg k16] at e; cases e
      · rw [if_neg k15] at e; cases e
    rw [if_neg m0] at e
    have two : ∀ (md1 i1 o1 : Nat) (X1 : List Nd) (u1 : Int32) (r1 : Nat × List Nd × Int32), rd b n sN mx vN g md1 i1 o1 X1 u1 = .ok r1 → ∃ Y, r1.2.1 = X1 ++ Y := fun md1 i1 o1 X1 u1 r1 e1 => by
      obtain ⟨Y, h1, -⟩ := rd_us (by omega) _ _ _ _ _ _ _ e1
      exact ⟨Y, h1⟩
    have op : ∀ (md1 mdr j : Nat) (q r : Nat × List Nd × Int32) (k : Int32) (f : Nat), (md1 = 0 ∨ md1 = 1) → (mdr = 2 ∨ mdr = 4) → rd b n sN mx vN g md1 j o X u = .ok q → rd b n sN mx vN g mdr q.1 o (q.2.1 ++ [(opS k, Int64.ofNat (X.length - 1), q.2.1.length - 1)]) q.2.2 = .ok r → 0 < X.length → PxE X f (X.length - 1) → PxE r.2.1 f (r.2.1.length - 1) := fun md1 mdr j q r k f h1 h2 e1 e2 hX hp => by
      obtain ⟨a1, a2⟩ := (ih _ _ _ _ _ _ e1).1 (by omega)
      obtain ⟨Y, hY⟩ := two _ _ _ _ _ _ e1
      rw [hY] at a1 a2 e2
      rw [List.length_append] at a1
      have hb := PxE.bi hp a2 hX (by omega) (opS_in (k := k))
      refine (ih _ _ _ _ _ _ e2).2 (by omega) f (by rw [List.length_append]; exact Nat.succ_pos _) ?_
      have el : (X ++ Y ++ [(opS k, Int64.ofNat (X.length - 1), (X ++ Y).length - 1)]).length - 1 = (X ++ Y).length := by rw [List.length_append (as := X ++ Y)]; rfl
      rw [el]
      exact hb
    by_cases m1 : md = 1
    · rw [if_pos m1] at e
      obtain ⟨q, e1, e⟩ := bind_ok e
      refine ⟨fun _ => ?_, fun z => absurd m1 (by omega)⟩
      obtain ⟨a1, a2⟩ := (ih _ _ _ _ _ _ e1).1 (Or.inl rfl)
      obtain ⟨Y, hY⟩ := two _ _ _ _ _ _ e
      exact ⟨by rw [hY, List.length_append]; omega, (ih _ _ _ _ _ _ e).2 (Or.inl rfl) _ (by omega) a2⟩
    rw [if_neg m1] at e
    by_cases m2 : md = 2
    · rw [if_pos m2] at e
      refine ⟨fun z => absurd m2 (by omega), fun _ f hX hp => ?_⟩
      by_cases kk : tK b n i = 22 ∨ tK b n i = 23 ∨ tK b n i = 24
      · rw [if_pos kk] at e
        obtain ⟨j, -, e⟩ := bind_ok e
        obtain ⟨q, e1, e⟩ := bind_ok e
        exact op 0 2 j q r _ f (Or.inl rfl) (Or.inl rfl) e1 e hX hp
      · rw [if_neg kk] at e; cases e; exact hp
    rw [if_neg m2] at e
    by_cases m3 : md = 3
    · rw [if_pos m3] at e
      obtain ⟨q, e1, e⟩ := bind_ok e
      refine ⟨fun _ => ?_, fun z => absurd m3 (by omega)⟩
      obtain ⟨a1, a2⟩ := (ih _ _ _ _ _ _ e1).1 (Or.inr (Or.inl rfl))
      obtain ⟨Y, hY⟩ := two _ _ _ _ _ _ e
      exact ⟨by rw [hY, List.length_append]; omega, (ih _ _ _ _ _ _ e).2 (Or.inr (Nat.le_refl _)) _ (by omega) a2⟩
    rw [if_neg m3] at e
    refine ⟨fun z => by omega, fun _ f hX hp => ?_⟩
    by_cases kk : tK b n i = 20 ∨ tK b n i = 21
    · rw [if_pos kk] at e
      obtain ⟨j, -, e⟩ := bind_ok e
      obtain ⟨q, e1, e⟩ := bind_ok e
      exact op 1 4 j q r _ f (Or.inr rfl) (Or.inr rfl) e1 e hX hp
    · rw [if_neg kk] at e; cases e; exact hp
end
