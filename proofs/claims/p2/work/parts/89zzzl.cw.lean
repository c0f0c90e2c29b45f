/-! conditions: each node refers to nodes of its own condition -/
def NdW (S f k : Nat) (d : Cd) : Prop := d.1 ≤ 4 ∧ (d.1 ≤ 1 → d.2.1 < S) ∧ (2 ≤ d.1 → f ≤ d.2.1 ∧ d.2.1 < k) ∧ (3 ≤ d.1 → f ≤ d.2.2 ∧ d.2.2 < k)
def WcR (S : Nat) (Y : List Cd) (f c : Nat) : Prop := ∀ k, f ≤ k → k ≤ c → NdW S f k (Y.getD k (0, 0, 0))
def WcF (S : Nat) (Y : List Cd) (f : Nat) : Prop := ∀ k, f ≤ k → k < Y.length → NdW S f k (Y.getD k (0, 0, 0))
theorem gdA {α : Type} {Y V : List α} {k : Nat} {d0 : α} (h : k < Y.length) : (Y ++ V).getD k d0 = Y.getD k d0 := by
  rw [List.getD_eq_getElem?_getD, List.getD_eq_getElem?_getD, List.getElem?_append_left h]
theorem gdB {α : Type} {Y V : List α} {d d0 : α} : (Y ++ d :: V).getD Y.length d0 = d := by
  rw [List.getD_eq_getElem?_getD, List.getElem?_append_right (Nat.le_refl _), Nat.sub_self]; rfl
theorem gdC {α : Type} {Y V : List α} {k : Nat} {d0 : α} : (Y ++ V).getD (Y.length + k) d0 = V.getD k d0 := by
  rw [List.getD_eq_getElem?_getD, List.getD_eq_getElem?_getD, List.getElem?_append_right (Nat.le_add_right _ _), Nat.add_sub_cancel_left]
theorem WcF.app {S f : Nat} {Y : List Cd} {d : Cd} (h : WcF S Y f) (w : NdW S f Y.length d) : WcF S (Y ++ [d]) f := by
  intro k h1 h2
  rw [List.length_append] at h2
  have h2 : k < Y.length + 1 := h2
  by_cases e : k = Y.length
  · rw [e, gdB]; exact w
  · rw [gdA (by omega)]; exact h k h1 (by omega)
theorem WcR.app {S f c : Nat} {Y V : List Cd} (h : WcR S Y f c) (hc : c < Y.length) : WcR S (Y ++ V) f c := by
  intro k h1 h2
  rw [gdA (by omega)]; exact h k h1 h2
section
variable {b : Nat → Int32} {n : Nat} {sN : List Int64}
theorem rc0_w {p j : Nat} {Y : List Cd} {r : Nat × List Cd} {f : Nat} (hp : p ≤ 1) (h : WcF sN.length Y f) (e : rc0 b n sN p j Y = .ok r) : WcF sN.length r.2 f ∧ (∃ V, r.2 = Y ++ V) ∧ Y.length < r.2.length := by
  unfold rc0 at e
  by_cases k2 : tK b n j = 2
  · rw [if_pos k2] at e
    cases ef : fd sN (tC b n j) with
    | none => rw [ef] at e; cases e
    | some k =>
      rw [ef] at e
      obtain ⟨j', -, e⟩ := bind_ok e
      cases e
      refine ⟨h.app ⟨by show p ≤ 4; omega, fun _ => (fd_some ef).1, fun z => absurd z (by show ¬ 2 ≤ p; omega), fun z => absurd z (by show ¬ 3 ≤ p; omega)⟩, ⟨[_], rfl⟩, ?_⟩
      show Y.length < (Y ++ [_]).length
      rw [List.length_append]; exact Nat.lt_succ_self _
  · rw [if_neg k2] at e; cases e
theorem rc_w : ∀ (g md i o : Nat) (Y : List Cd) (f : Nat) (r : Nat × List Cd), md ≤ 4 → f ≤ Y.length → (md = 2 ∨ md = 4 → f < Y.length) → WcF sN.length Y f → rc b n sN g md i o Y = .ok r → WcF sN.length r.2 f ∧ (∃ V, r.2 = Y ++ V) ∧ (md = 0 ∨ md = 1 ∨ md = 3 → Y.length < r.2.length) := by
  intro g
  induction g with
  | zero => intro md i o Y f r _ _ _ _ e; unfold rc at e; cases e
  | succ g ih =>
    intro md i o Y f r hm hf hl hW e
    unfold rc at e
    by_cases m0 : md = 0
    · rw [if_pos m0] at e
      by_cases k61 : tK b n i = 61
      · rw [if_pos k61] at e
        by_cases o15 : o = 15
        · rw [if_pos o15] at e; cases e
        rw [if_neg o15] at e
        obtain ⟨j, -, e⟩ := bind_ok e
        obtain ⟨q, eq, e⟩ := bind_ok e
        cases e
        obtain ⟨a1, ⟨V, a2⟩, a3⟩ := ih 0 j (o + 1) Y f q (by decide) hf (fun z => by omega) hW eq
        have a3 := a3 (Or.inl rfl)
        refine ⟨a1.app ⟨by show 2 ≤ 4; decide, fun z => absurd z (by show ¬ 2 ≤ 1; decide), fun _ => ⟨by show f ≤ q.2.length - 1; omega, by show q.2.length - 1 < q.2.length; omega⟩, fun z => absurd z (by show ¬ 3 ≤ 2; decide)⟩, ⟨V ++ [_], by show q.2 ++ _ = _; rw [a2, List.append_assoc]⟩, fun _ => ?_⟩
        show Y.length < (q.2 ++ [_]).length
        rw [List.length_append]; omega
      rw [if_neg k61] at e
      by_cases k15 : tK b n i = 15
      · rw [if_pos k15] at e
        by_cases o15 : o = 15
        · rw [if_pos o15] at e; cases e
        rw [if_neg o15] at e
        obtain ⟨j, -, e⟩ := bind_ok e
        obtain ⟨q, eq, e⟩ := bind_ok e
        have a := ih 3 j (o + 1) Y f q (by decide) hf (fun z => by omega) hW eq
        by_cases k16 : tK b n q.1 = 16
        · rw [if_pos k16] at e
          obtain ⟨j2, -, e⟩ := bind_ok e
          cases e
          exact ⟨a.1, a.2.1, fun _ => a.2.2 (Or.inr (Or.inr rfl))⟩
        · rw [if_neg k16] at e; cases e
      rw [if_neg k15] at e
      by_cases k62 : tK b n i = 62
      · rw [if_pos k62] at e
        obtain ⟨j, -, e⟩ := bind_ok e
        have a := rc0_w (by decide) hW e
        exact ⟨a.1, a.2.1, fun _ => a.2.2⟩
      · rw [if_neg k62] at e
        have a := rc0_w (by decide) hW e
        exact ⟨a.1, a.2.1, fun _ => a.2.2⟩
    rw [if_neg m0] at e
    have two : ∀ (m1 m2 : Nat), (m1 = 0 ∨ m1 = 1) → (m2 = 2 ∨ m2 = 4) → ((rc b n sN g m1 i o Y).bind fun r => rc b n sN g m2 r.1 o r.2) = .ok r → WcF sN.length r.2 f ∧ (∃ V, r.2 = Y ++ V) ∧ Y.length < r.2.length := by
      intro m1 m2 h1 h2 e
      obtain ⟨q, eq, e⟩ := bind_ok e
      obtain ⟨a1, ⟨V, a2⟩, a3⟩ := ih m1 i o Y f q (by omega) hf (fun z => by omega) hW eq
      have a3 := a3 (by omega)
      obtain ⟨c1, ⟨U, c2⟩, c3⟩ := ih m2 q.1 o q.2 f r (by omega) (by omega) (fun _ => by omega) a1 e
      refine ⟨c1, ⟨V ++ U, by rw [c2, a2, List.append_assoc]⟩, ?_⟩
      rw [c2, List.length_append]; omega
    have lp : ∀ (m1 m2 s : Nat), (m1 = 0 ∨ m1 = 1) → (m2 = 2 ∨ m2 = 4) → (s = 3 ∨ s = 4) → f < Y.length → ((adv' b n i).bind fun j => (rc b n sN g m1 j o Y).bind fun r => rc b n sN g m2 r.1 o (r.2 ++ [(s, Y.length - 1, r.2.length - 1)])) = .ok r → WcF sN.length r.2 f ∧ (∃ V, r.2 = Y ++ V) := by
      intro m1 m2 s h1 h2 h3 hl e
      obtain ⟨j, -, e⟩ := bind_ok e
      obtain ⟨q, eq, e⟩ := bind_ok e
      obtain ⟨a1, ⟨V, a2⟩, a3⟩ := ih m1 j o Y f q (by omega) hf (fun z => by omega) hW eq
      have a3 := a3 (by omega)
      have a4 : WcF sN.length (q.2 ++ [(s, Y.length - 1, q.2.length - 1)]) f := a1.app ⟨by show s ≤ 4; omega, fun z => absurd z (by show ¬ s ≤ 1; omega), fun _ => ⟨by show f ≤ Y.length - 1; omega, by show Y.length - 1 < q.2.length; omega⟩, fun _ => ⟨by show f ≤ q.2.length - 1; omega, by show q.2.length - 1 < q.2.length; omega⟩⟩
      have a5 : (q.2 ++ [(s, Y.length - 1, q.2.length - 1)]).length = q.2.length + 1 := List.length_append
      obtain ⟨c1, ⟨U, c2⟩, c3⟩ := ih m2 q.1 o (q.2 ++ [(s, Y.length - 1, q.2.length - 1)]) f r (by omega) (by omega) (fun _ => by omega) a4 e
      exact ⟨c1, ⟨V ++ ([(s, Y.length - 1, q.2.length - 1)] ++ U), by rw [c2, a2]; simp only [List.append_assoc]⟩⟩
    by_cases m1 : md = 1
    · rw [if_pos m1] at e
      have a := two 0 2 (Or.inl rfl) (Or.inl rfl) e
      exact ⟨a.1, a.2.1, fun _ => a.2.2⟩
    rw [if_neg m1] at e
    by_cases m2 : md = 2
    · rw [if_pos m2] at e
      by_cases k59 : tK b n i = 59
      · rw [if_pos k59] at e
        have a := lp 0 2 3 (Or.inl rfl) (Or.inl rfl) (Or.inl rfl) (hl (Or.inl m2)) e
        exact ⟨a.1, a.2, fun z => by omega⟩
      · rw [if_neg k59] at e
        cases e
        exact ⟨hW, ⟨[], (List.append_nil _).symm⟩, fun z => by omega⟩
    rw [if_neg m2] at e
    by_cases m3 : md = 3
    · rw [if_pos m3] at e
      have a := two 1 4 (Or.inr rfl) (Or.inr rfl) e
      exact ⟨a.1, a.2.1, fun _ => a.2.2⟩
    rw [if_neg m3] at e
    by_cases k60 : tK b n i = 60
    · rw [if_pos k60] at e
      have a := lp 1 4 4 (Or.inr rfl) (Or.inr rfl) (Or.inr rfl) (hl (Or.inr (by omega))) e
      exact ⟨a.1, a.2, fun z => by omega⟩
    · rw [if_neg k60] at e
      cases e
      exact ⟨hW, ⟨[], (List.append_nil _).symm⟩, fun z => by omega⟩
end
