/-! sums node by node: which nodes stand on a stack, and how high it grows -/
def KdN (X : List Nd) (k : Nat) : Prop := ((X.getD k nd0).1 = 0 ∧ ∃ v, v < 1000000 ∧ (X.getD k nd0).2.1 = Int64.ofNat v) ∨ ((X.getD k nd0).1 = 1 ∧ ∃ v, v < 6 ∧ (X.getD k nd0).2.1 = Int64.ofNat v) ∨ ((X.getD k nd0).1 = 2 ∧ ∃ v, v < 16 ∧ (X.getD k nd0).2.1 = Int64.ofNat v)
def SpN (X : List Nd) (k : Nat) (s s' : List Nat) : Prop := (KdN X k ∧ s' = k :: s) ∨ ((X.getD k nd0).1 = 3 ∧ ∃ e s0, s = e :: s0 ∧ (X.getD k nd0).2.1 = Int64.ofNat e ∧ s' = k :: s0) ∨ ((4 ≤ (X.getD k nd0).1 ∧ (X.getD k nd0).1 ≤ 8) ∧ ∃ a e s0, s = a :: e :: s0 ∧ (X.getD k nd0).2.1 = Int64.ofNat e ∧ (X.getD k nd0).2.2 = a ∧ s' = k :: s0)
def GdS (X : List Nd) (D : Nat) : Nat → Nat → List Nat → List Nat → Prop
  | 0, _, s, t => s = t
  | n + 1, k, s, t => ∃ s', SpN X k s s' ∧ s'.length ≤ D ∧ GdS X D n (k + 1) s' t
section
variable {X Y : List Nd} {D D' n n' k : Nat} {s t u : List Nat}
theorem SpN.app (hk : k < X.length) (h : SpN X k s t) : SpN (X ++ Y) k s t := by
  unfold SpN KdN at h ⊢
  rw [gd_app hk]
  exact h
theorem GdS.app : ∀ (n k : Nat) (s t : List Nat), k + n ≤ X.length → GdS X D n k s t → GdS (X ++ Y) D n k s t
  | 0, _, _, _, _, h => h
  | n + 1, k, s, t, hk, ⟨s', h1, h2, h3⟩ => ⟨s', h1.app (by omega), h2, GdS.app n (k + 1) s' t (by omega) h3⟩
theorem GdS.mo (hD : D ≤ D') : ∀ (n k : Nat) (s t : List Nat), GdS X D n k s t → GdS X D' n k s t
  | 0, _, _, _, h => h
  | n + 1, k, s, t, ⟨s', h1, h2, h3⟩ => ⟨s', h1, Nat.le_trans h2 hD, GdS.mo hD n (k + 1) s' t h3⟩
theorem GdS.tr : ∀ (n n' k : Nat) (s t u : List Nat), GdS X D n k s t → GdS X D n' (k + n) t u → GdS X D (n + n') k s u
  | 0, n', k, s, t, u, h, g => by
    have h : s = t := h
    rw [h, Nat.zero_add]; exact g
  | n + 1, n', k, s, t, u, ⟨s', h1, h2, h3⟩, g => by
    rw [Nat.add_right_comm]
    exact ⟨s', h1, h2, GdS.tr n n' (k + 1) s' t u h3 (by rw [Nat.add_assoc, Nat.add_comm 1 n]; exact g)⟩
theorem GdS.one (h : SpN X k s t) (hl : t.length ≤ D) : GdS X D 1 k s t := ⟨t, h, hl, rfl⟩
end
def Dpo (md o : Nat) : Nat := (if md = 0 then 31 else if md = 1 ∨ md = 2 then 32 else 33) - 2 * o
section
variable {b : Nat → Int32} {n : Nat} {sN : List Int64} {mx : List Int32} {vN : List Int64}
theorem rd_gd (hB : By b) (hv : vN.length ≤ 6) (hs : sN.length ≤ 16) : ∀ (g md i o : Nat) (X : List Nd) (u : Int32) (r : Nat × List Nd × Int32), o ≤ 15 → rd b n sN mx vN g md i o X u = .ok r → (md = 0 ∨ md = 1 ∨ md = 3 → X.length < r.2.1.length ∧ ∀ s, GdS r.2.1 (s.length + Dpo md o) (r.2.1.length - X.length) X.length s ((r.2.1.length - 1) :: s)) ∧ (md = 2 ∨ md = 4 → 0 < X.length → ∀ s, GdS r.2.1 (s.length + Dpo md o) (r.2.1.length - X.length) X.length ((X.length - 1) :: s) ((r.2.1.length - 1) :: s)) := by
  intro g
  induction g with
  | zero => intro md i o X u r _ e; unfold rd at e; cases e
  | succ g ih =>
    intro md i o X u r ho e
    have lf : ∀ d : Nd, KdN (X ++ [d]) X.length → X.length < (X ++ [d]).length ∧ ∀ s, GdS (X ++ [d]) (s.length + Dpo 0 o) ((X ++ [d]).length - X.length) X.length s (((X ++ [d]).length - 1) :: s) := fun d hd => by
      have e : (X ++ [d]).length = X.length + 1 := by rw [List.length_append]; rfl
      rw [e]
      refine ⟨Nat.lt_succ_self _, fun s => ?_⟩
      rw [Nat.add_sub_cancel, Nat.add_sub_cancel_left]
      refine GdS.one (Or.inl ⟨hd, rfl⟩) ?_
      show s.length + 1 ≤ s.length + (31 - 2 * o)
      omega
    unfold rd at e
    by_cases m0 : md = 0
    · rw [if_pos m0] at e
      rw [m0]
      refine ⟨fun _ => ?_, fun z => absurd z (by decide)⟩
      by_cases k3 : tK b n i = 3
      · rw [if_pos k3] at e
        obtain ⟨j, -, e⟩ := bind_ok e
        cases e
        refine lf _ ?_
        unfold KdN
        rw [gd_last]
        obtain ⟨-, -, v, v1, v2, -⟩ := num_val2 (p := tP b n i) hB k3
        exact Or.inl ⟨rfl, v, v1, v2⟩
      rw [if_neg k3] at e
      by_cases k2 : tK b n i = 2
      · rw [if_pos k2] at e
        cases hf : fd vN (tC b n i) with
        | none => rw [hf] at e; cases e
        | some k =>
          rw [hf] at e
          obtain ⟨j, -, e⟩ := bind_ok e
          cases e
          refine lf _ ?_
          unfold KdN
          rw [gd_last]
          exact Or.inr (Or.inl ⟨rfl, k, Nat.lt_of_lt_of_le (fd_some hf).1 hv, rfl⟩)
      rw [if_neg k2] at e
      by_cases k19 : tK b n i = 19
      · rw [if_pos k19] at e
        obtain ⟨j, -, e⟩ := bind_ok e
        by_cases kj : tK b n j = 2
        · rw [if_pos kj] at e
          cases hf : fd sN (tC b n j) with
          | none => rw [hf] at e; cases e
          | some k =>
            rw [hf] at e
            have e : (if mx.getD k 0 = 0 then Except.error (4, tP b n j) else (adv' b n j).bind fun j' => _) = .ok r := e
            by_cases km : mx.getD k 0 = 0
            · rw [if_pos km] at e; cases e
            rw [if_neg km] at e
            obtain ⟨j2, -, e⟩ := bind_ok e
            cases e
            refine lf _ ?_
            unfold KdN
            rw [gd_last]
            exact Or.inr (Or.inr ⟨rfl, k, Nat.lt_of_lt_of_le (fd_some hf).1 hs, rfl⟩)
        · rw [if_neg kj] at e; cases e
      rw [if_neg k19] at e
      by_cases k21 : tK b n i = 21
      · rw [if_pos k21] at e
        by_cases ko : o = 15
        · rw [if_pos ko] at e; cases e
        rw [if_neg ko] at e
        obtain ⟨j, -, e⟩ := bind_ok e
        obtain ⟨q, e1, e⟩ := bind_ok e
        cases e
        obtain ⟨a1, a2⟩ := (ih _ _ _ _ _ _ (by omega) e1).1 (Or.inl rfl)
        show X.length < (q.2.1 ++ [(3, Int64.ofNat (q.2.1.length - 1), 0)]).length ∧ ∀ s, GdS (q.2.1 ++ [(3, Int64.ofNat (q.2.1.length - 1), 0)]) (s.length + Dpo 0 o) ((q.2.1 ++ [(3, Int64.ofNat (q.2.1.length - 1), 0)]).length - X.length) X.length s (((q.2.1 ++ [(3, Int64.ofNat (q.2.1.length - 1), 0)]).length - 1) :: s)
        have e : (q.2.1 ++ [((3, Int64.ofNat (q.2.1.length - 1), 0) : Nd)]).length = q.2.1.length + 1 := by rw [List.length_append]; rfl
        rw [e]
        refine ⟨by omega, fun s => ?_⟩
        have e2 : q.2.1.length + 1 - X.length = (q.2.1.length - X.length) + 1 := by omega
        rw [e2]
        refine GdS.tr _ _ _ _ _ _ (GdS.mo (D := s.length + Dpo 0 (o + 1)) (by show s.length + (31 - 2 * (o + 1)) ≤ s.length + (31 - 2 * o); omega) _ _ _ _ (GdS.app _ _ _ _ (by omega) (a2 s))) ?_
        have e3 : X.length + (q.2.1.length - X.length) = q.2.1.length := by omega
        rw [e3]
        refine GdS.one (Or.inr (Or.inl ?_)) (by show s.length + 1 ≤ s.length + (31 - 2 * o); omega)
        rw [gd_last]
        exact ⟨rfl, _, s, rfl, rfl, by rw [Nat.add_sub_cancel]⟩
      rw [if_neg k21] at e
      by_cases k15 : tK b n i = 15
      · rw [if_pos k15] at e
        by_cases ko : o = 15
        · rw [if_pos ko] at e; cases e
        rw [if_neg ko] at e
        obtain ⟨j, -, e⟩ := bind_ok e
        obtain ⟨q, e1, e⟩ := bind_ok e
        by_cases k16 : tK b n q.1 = 16
        · rw [if_pos k16] at e
          obtain ⟨j2, -, e⟩ := bind_ok e
          cases e
          obtain ⟨a1, a2⟩ := (ih _ _ _ _ _ _ (by omega) e1).1 (Or.inr (Or.inr rfl))
          refine ⟨a1, fun s => GdS.mo ?_ _ _ _ _ (a2 s)⟩
          show s.length + (33 - 2 * (o + 1)) ≤ s.length + (31 - 2 * o)
          omega
        · rw [if_neg k16] at e; cases e
      · rw [if_neg k15] at e; cases e
    rw [if_neg m0] at e
    have two : ∀ (md1 i1 o1 : Nat) (X1 : List Nd) (u1 : Int32) (r1 : Nat × List Nd × Int32), rd b n sN mx vN g md1 i1 o1 X1 u1 = .ok r1 → ∃ Y, r1.2.1 = X1 ++ Y := fun md1 i1 o1 X1 u1 r1 e1 => by
      obtain ⟨Y, h1, -⟩ := rd_us (by omega) _ _ _ _ _ _ _ e1
      exact ⟨Y, h1⟩
    have op : ∀ (md1 mdr j : Nat) (q r : Nat × List Nd × Int32) (k : Int32), (md1 = 0 ∧ mdr = 2 ∨ md1 = 1 ∧ mdr = 4) → rd b n sN mx vN g md1 j o X u = .ok q → rd b n sN mx vN g mdr q.1 o (q.2.1 ++ [(opS k, Int64.ofNat (X.length - 1), q.2.1.length - 1)]) q.2.2 = .ok r → 0 < X.length → ∀ s, GdS r.2.1 (s.length + Dpo mdr o) (r.2.1.length - X.length) X.length ((X.length - 1) :: s) ((r.2.1.length - 1) :: s) := fun md1 mdr j q r k h12 e1 e2 hX s => by
      obtain ⟨a1, a2⟩ := (ih _ _ _ _ _ _ ho e1).1 (by omega)
      obtain ⟨Y, hY⟩ := two _ _ _ _ _ _ e2
      obtain ⟨U, hU⟩ := two _ _ _ _ _ _ e1
      have el : (q.2.1 ++ [((opS k, Int64.ofNat (X.length - 1), q.2.1.length - 1) : Nd)]).length = q.2.1.length + 1 := by rw [List.length_append]; rfl
      have g2 := (ih _ _ _ _ _ _ ho e2).2 (by omega) (by rw [el]; exact Nat.succ_pos _) s
      rw [el, Nat.add_sub_cancel] at g2
      have lr : r.2.1.length = q.2.1.length + 1 + Y.length := by rw [hY, List.length_append, el]
      have e4 : r.2.1.length - X.length = (q.2.1.length - X.length) + (1 + (r.2.1.length - (q.2.1.length + 1))) := by omega
      rw [e4]
      have dl : Dpo md1 o + 1 ≤ Dpo mdr o := by
        rcases h12 with ⟨z1, z2⟩ | ⟨z1, z2⟩
        · rw [z1, z2]; show 31 - 2 * o + 1 ≤ 32 - 2 * o; omega
        · rw [z1, z2]; show 32 - 2 * o + 1 ≤ 33 - 2 * o; omega
      refine GdS.tr _ _ _ _ ((q.2.1.length - 1) :: (X.length - 1) :: s) _ ?_ (GdS.tr 1 _ _ _ (q.2.1.length :: s) _ ?_ ?_)
      · have a3 := a2 ((X.length - 1) :: s)
        rw [hY]
        rw [List.append_assoc]
        refine GdS.app _ _ _ _ (by omega) (GdS.mo ?_ _ _ _ _ a3)
        show s.length + 1 + Dpo md1 o ≤ s.length + Dpo mdr o
        omega
      · have e5 : X.length + (q.2.1.length - X.length) = q.2.1.length := by omega
        rw [e5]
        refine GdS.one (Or.inr (Or.inr ?_)) (by show s.length + 1 ≤ s.length + Dpo mdr o; omega)
        rw [hY, gd_app (by rw [el]; exact Nat.lt_succ_self _), gd_last]
        exact ⟨opS_in, _, _, s, rfl, rfl, rfl, rfl⟩
      · have e5 : X.length + (q.2.1.length - X.length) + 1 = q.2.1.length + 1 := by omega
        rw [e5]
        exact g2
    have cat : ∀ (md1 mdr : Nat) (q r : Nat × List Nd × Int32), (md1 = 0 ∧ mdr = 2 ∨ md1 = 1 ∧ mdr = 4) → rd b n sN mx vN g md1 i o X u = .ok q → rd b n sN mx vN g mdr q.1 o q.2.1 q.2.2 = .ok r → X.length < r.2.1.length ∧ ∀ s, GdS r.2.1 (s.length + Dpo mdr o) (r.2.1.length - X.length) X.length s ((r.2.1.length - 1) :: s) := fun md1 mdr q r h12 e1 e2 => by
      obtain ⟨a1, a2⟩ := (ih _ _ _ _ _ _ ho e1).1 (by omega)
      obtain ⟨Y, hY⟩ := two _ _ _ _ _ _ e2
      have lr : r.2.1.length = q.2.1.length + Y.length := by rw [hY, List.length_append]
      refine ⟨by omega, fun s => ?_⟩
      have g2 := (ih _ _ _ _ _ _ ho e2).2 (by omega) (by omega) s
      have e4 : r.2.1.length - X.length = (q.2.1.length - X.length) + (r.2.1.length - q.2.1.length) := by omega
      rw [e4]
      have dl : Dpo md1 o ≤ Dpo mdr o := by
        rcases h12 with ⟨z1, z2⟩ | ⟨z1, z2⟩
        · rw [z1, z2]; show 31 - 2 * o ≤ 32 - 2 * o; omega
        · rw [z1, z2]; show 32 - 2 * o ≤ 33 - 2 * o; omega
      refine GdS.tr _ _ _ _ ((q.2.1.length - 1) :: s) _ ?_ ?_
      · have a3 := a2 s
        rw [hY]
        exact GdS.app _ _ _ _ (by omega) (GdS.mo (by omega) _ _ _ _ a3)
      · have e5 : X.length + (q.2.1.length - X.length) = q.2.1.length := by omega
        rw [e5]
        exact g2
    have nil : (i, X, u) = r → (md = 2 ∨ md = 4) → ∀ s, GdS r.2.1 (s.length + Dpo md o) (r.2.1.length - X.length) X.length ((X.length - 1) :: s) ((r.2.1.length - 1) :: s) := fun e _ s => by
      rw [← e]
      show GdS X _ (X.length - X.length) _ _ _
      rw [Nat.sub_self]
      exact rfl
    by_cases m1 : md = 1
    · rw [if_pos m1] at e
      obtain ⟨q, e1, e⟩ := bind_ok e
      rw [m1]
      refine ⟨fun _ => ?_, fun z => absurd z (by decide)⟩
      exact cat 0 2 q r (Or.inl ⟨rfl, rfl⟩) e1 e
    rw [if_neg m1] at e
    by_cases m2 : md = 2
    · rw [if_pos m2] at e
      refine ⟨fun z => absurd m2 (by omega), fun _ hX s => ?_⟩
      by_cases kk : tK b n i = 22 ∨ tK b n i = 23 ∨ tK b n i = 24
      · rw [if_pos kk] at e
        obtain ⟨j, -, e⟩ := bind_ok e
        obtain ⟨q, e1, e⟩ := bind_ok e
        rw [m2]
        exact op 0 2 j q r _ (Or.inl ⟨rfl, rfl⟩) e1 e hX s
      · rw [if_neg kk] at e; exact nil (Except.ok.inj e) (Or.inl m2) s
    rw [if_neg m2] at e
    by_cases m3 : md = 3
    · rw [if_pos m3] at e
      obtain ⟨q, e1, e⟩ := bind_ok e
      rw [m3]
      refine ⟨fun _ => ?_, fun z => absurd z (by decide)⟩
      exact cat 1 4 q r (Or.inr ⟨rfl, rfl⟩) e1 e
    rw [if_neg m3] at e
    refine ⟨fun z => absurd z (by omega), fun m4 hX s => ?_⟩
    have m4 : md = 4 := by omega
    by_cases kk : tK b n i = 20 ∨ tK b n i = 21
    · rw [if_pos kk] at e
      obtain ⟨j, -, e⟩ := bind_ok e
      obtain ⟨q, e1, e⟩ := bind_ok e
      rw [m4]
      exact op 1 4 j q r _ (Or.inr ⟨rfl, rfl⟩) e1 e hX s
    · rw [if_neg kk] at e; exact nil (Except.ok.inj e) (Or.inr m4) s
end
