/-! a child's wires, a node's codes: reference against class -/
section
variable {W : Wo} {R : RMo} {I : RIn} {ρ : Plc → Nat} {hv : Nat → Nat} {cv ck : Nat → Nat → Nat} {co cc : Nat → Nat} {r : Nat → Nat → Prop} {y x i : Nat}
/-- wires and codes of y and x -/
def Mw (r : Nat → Nat → Prop) (ρ : Plc → Nat) (cv : Nat → Nat → Nat) (y x : Nat) : Prop := ∀ c, c ≤ 3 → r (ρ (c, y, 0)) (cv c x)
def Mk (r : Nat → Nat → Prop) (ρ : Plc → Nat) (ck : Nat → Nat → Nat) (km y x : Nat) : Prop := ∀ n, n < km → r (ρ (4, y, n)) (ck x n)
theorem L_ar (hc : Cg r) (hG : frM R) (hy : inR R y) (hP : PkR W R y x) (hE : CEq (woV W) hv cv ck co cc x) (hi : i < (moG R y).length) (hm : hv x = hvM (iSet I) (moK R y)) (hw : Mw r ρ cv y x) (hl : (woV W x).1 = 4 ∨ (woV W x).1 = 7 → r (lokR R I ρ y) (cc x)) (hk : ∀ j, i = j + 1 → r (ρ (4, (moG R y).getD j 0, 0)) (ck ((chV W x).getD j 0) 0)) (h6 : (woV W x).1 = 6 → r (v3O (ρ (0, y, 0)) (ρ (4, (moG R y).getD i 0, 0))) (co x)) (h9 : (woV W x).1 = 9 → r (v3O (ρ (3, y, 0)) (ρ (4, (moG R y).getD i 0, 2))) (co x)) : ∀ c, c ≤ 3 → r (enR R I ρ c ((moG R y).getD i 0)) (cv c ((chV W x).getD i 0)) := by
  obtain ⟨k1, k2, k3, k4, -⟩ := kid_up hG hy hi
  obtain ⟨d, ed⟩ : ∃ d, d = (moG R y).getD i 0 := ⟨_, rfl⟩
  rw [← ed] at k1 k2 k3 k4 h6 h9 ⊢
  have w0 := hw 0 (by decide)
  have w1 := hw 1 (by decide)
  have w2 := hw 2 (by decide)
  have w3 := hw 3 (by decide)
  -- the kinds
  have kk : ((woV W x).1 = 4 ∧ ((moS R).2 80 y = 4 ∨ (moS R).2 80 y = 5)) ∨ ((woV W x).1 = 5 ∧ (moS R).2 80 y = 6) ∨ ((woV W x).1 = 6 ∧ (moS R).2 80 y = 7) ∨ ((woV W x).1 = 7 ∧ (moS R).2 80 y = 8) ∨ ((woV W x).1 = 8 ∧ (moS R).2 80 y = 9) ∨ ((woV W x).1 = 9 ∧ (moS R).2 80 y = 10) := by
    have no : moG R y = [] → False := fun e => by rw [e] at hi; exact absurd hi (Nat.not_lt_zero _)
    rcases hP with ⟨a, b, -⟩ | ⟨-, -, -, e⟩ | ⟨-, -, -, e⟩ | ⟨-, -, -, e⟩ | ⟨-, -, -, e⟩ | ⟨a, b, -⟩ | ⟨a, b, -⟩ | ⟨a, b, -⟩ | ⟨a, b, -⟩ | ⟨a, b, -⟩
    · exact Or.inr (Or.inl ⟨a, b⟩)
    · exact (no e).elim
    · exact (no e).elim
    · exact (no e).elim
    · exact (no e).elim
    · exact Or.inl ⟨a, b⟩
    · exact Or.inr (Or.inr (Or.inl ⟨a, b⟩))
    · exact Or.inr (Or.inr (Or.inr (Or.inl ⟨a, b⟩)))
    · exact Or.inr (Or.inr (Or.inr (Or.inr (Or.inl ⟨a, b⟩))))
    · exact Or.inr (Or.inr (Or.inr (Or.inr (Or.inr ⟨a, b⟩))))
  have il : i < (chV W x).length := by
    rcases hP with ⟨-, -, -, e⟩ | ⟨-, -, -, e⟩ | ⟨-, -, -, e⟩ | ⟨-, -, -, e⟩ | ⟨-, -, -, e⟩ | ⟨-, -, c1, c2, d1, e1, e⟩ | ⟨-, -, c, d', e1, e⟩ | ⟨-, -, c, d', e1, e⟩ | ⟨-, -, -, e⟩ | ⟨-, -, c, d', e1, e⟩
    · omega
    · rw [e] at hi; exact absurd hi (Nat.not_lt_zero _)
    · rw [e] at hi; exact absurd hi (Nat.not_lt_zero _)
    · rw [e] at hi; exact absurd hi (Nat.not_lt_zero _)
    · rw [e] at hi; exact absurd hi (Nat.not_lt_zero _)
    · rw [e1]
      show i < 2
      rcases e with ⟨e, -⟩ | ⟨d2, e⟩
      · rw [e] at hi; have hi : i < 1 := hi; omega
      · rw [e] at hi; exact hi
    · rw [e1]; rw [e] at hi; exact hi
    · rw [e1]; rw [e] at hi; exact hi
    · omega
    · rw [e1]; rw [e] at hi; exact hi
  obtain ⟨q0, q1, q2, q3⟩ := hE.1 i il
  have q0 : cv 0 ((chV W x).getD i 0) = arG (woV W x).1 (decide (i = 0)) (cv 0 x) (cc x) (aC (woV W) hv cv ck cc x i 0) (co x) := q0
  have q1 : cv 1 ((chV W x).getD i 0) = arR (woV W x).1 (cv 1 x) (hv x) (cc x) := q1
  have q2 : cv 2 ((chV W x).getD i 0) = arS (woV W x).1 (cv 2 x) (cv 1 x) (hv x) (cc x) := q2
  have q3 : cv 3 ((chV W x).getD i 0) = arK (woV W x).1 (cv 3 x) (co x) := q3
  -- what the reference does, by rows
  have z0 : enR R I ρ 0 d = (if (moS R).2 80 y = 4 ∨ (moS R).2 80 y = 5 then v3A (ρ (0, y, 0)) (if (moS R).2 85 d = -1 then lokR R I ρ y else v3N (lokR R I ρ y)) else if (moS R).2 80 y = 6 then (if (moS R).2 85 d = -1 then ρ (0, y, 0) else ρ (4, ((moS R).2 85 d).toNatClampNeg, 0)) else if (moS R).2 80 y = 7 then v3O (ρ (0, y, 0)) (ρ (4, d, 0)) else ρ (0, y, 0)) := by
    unfold enR
    rw [if_neg k1, if_pos rfl, k2]
  have z1 : enR R I ρ 1 d = (if (moS R).2 80 y = 8 then v3A (hdV (iSet I) (moK R y) (ρ (1, y, 0))) (v3N (lokR R I ρ y)) else ρ (1, y, 0)) := by
    unfold enR
    rw [if_neg k1, if_neg (by decide), if_pos rfl, k2]
  have z2 : enR R I ρ 2 d = (if (moS R).2 80 y = 8 then v3O (ρ (2, y, 0)) (v3A (hdV (iSet I) (moK R y) (ρ (1, y, 0))) (lokR R I ρ y)) else ρ (2, y, 0)) := by
    unfold enR
    rw [if_neg k1, if_neg (by decide), if_neg (by decide), if_pos rfl, k2]
  have z3 : enR R I ρ 3 d = (if (moS R).2 80 y = 10 then v3O (ρ (3, y, 0)) (ρ (4, d, 2)) else ρ (3, y, 0)) := by
    unfold enR
    rw [if_neg k1, if_neg (by decide), if_neg (by decide), if_neg (by decide), k2]
  have a1 : (moS R).2 80 y ≠ 8 → (woV W x).1 ≠ 7 → r (enR R I ρ 1 d) (cv 1 ((chV W x).getD i 0)) := fun n1 n2 => by
    rw [z1, if_neg n1, q1]; unfold arR; rw [if_neg n2]; exact w1
  have a2 : (moS R).2 80 y ≠ 8 → (woV W x).1 ≠ 7 → r (enR R I ρ 2 d) (cv 2 ((chV W x).getD i 0)) := fun n1 n2 => by
    rw [z2, if_neg n1, q2]; unfold arS; rw [if_neg n2]; exact w2
  have a3 : (moS R).2 80 y ≠ 10 → (woV W x).1 ≠ 9 → r (enR R I ρ 3 d) (cv 3 ((chV W x).getD i 0)) := fun n1 n2 => by
    rw [z3, if_neg n1, q3]; unfold arK; rw [if_neg n2]; exact w3
  have a0 : ((moS R).2 80 y = 8 ∨ (moS R).2 80 y = 9 ∨ (moS R).2 80 y = 10) → ((woV W x).1 = 7 ∨ (woV W x).1 = 8 ∨ (woV W x).1 = 9) → r (enR R I ρ 0 d) (cv 0 ((chV W x).getD i 0)) := fun n1 n2 => by
    have m1 : ¬ ((moS R).2 80 y = 4 ∨ (moS R).2 80 y = 5) ∧ ¬ (moS R).2 80 y = 6 ∧ ¬ (moS R).2 80 y = 7 := by
      rcases n1 with e | e | e <;> rw [e] <;> decide
    have m2 : ¬ (woV W x).1 = 4 ∧ ¬ (woV W x).1 = 5 ∧ ¬ (woV W x).1 = 6 := by
      rcases n2 with e | e | e <;> rw [e] <;> decide
    rw [z0, q0]
    unfold arG
    rw [if_neg m1.1, if_neg m1.2.1, if_neg m1.2.2, if_neg m2.1, if_neg m2.2.1, if_neg m2.2.2]
    exact w0
  have all : r (enR R I ρ 0 d) (cv 0 ((chV W x).getD i 0)) → r (enR R I ρ 1 d) (cv 1 ((chV W x).getD i 0)) → r (enR R I ρ 2 d) (cv 2 ((chV W x).getD i 0)) → r (enR R I ρ 3 d) (cv 3 ((chV W x).getD i 0)) → ∀ c, c ≤ 3 → r (enR R I ρ c d) (cv c ((chV W x).getD i 0)) := fun b0 b1 b2 b3 c c3 => by
    have : c = 0 ∨ c = 1 ∨ c = 2 ∨ c = 3 := by omega
    rcases this with e | e | e | e <;> rw [e]
    · exact b0
    · exact b1
    · exact b2
    · exact b3
  rcases kk with ⟨a, b⟩ | ⟨a, b⟩ | ⟨a, b⟩ | ⟨a, b⟩ | ⟨a, b⟩ | ⟨a, b⟩
  · have hl := hl (Or.inl a)
    refine all ?_ (a1 (by rcases b with e | e <;> rw [e] <;> decide) (by rw [a]; decide)) (a2 (by rcases b with e | e <;> rw [e] <;> decide) (by rw [a]; decide)) (a3 (by rcases b with e | e <;> rw [e] <;> decide) (by rw [a]; decide))
    rw [z0, if_pos b, q0]
    unfold arG
    rw [if_pos a]
    by_cases z : i = 0
    · rw [if_pos (k3.mpr z), if_pos (show decide (i = 0) = true by rw [z]; rfl)]
      exact hc.2.1 _ _ _ _ w0 hl
    · rw [if_neg (fun e => z (k3.mp e)), if_neg (show ¬ decide (i = 0) = true by rw [decide_eq_true_eq]; exact z)]
      exact hc.2.1 _ _ _ _ w0 (hc.2.2.2 _ _ hl)
  · refine all ?_ (a1 (by rw [b]; decide) (by rw [a]; decide)) (a2 (by rw [b]; decide) (by rw [a]; decide)) (a3 (by rw [b]; decide) (by rw [a]; decide))
    have zz : enR R I ρ 0 d = (if (moS R).2 85 d = -1 then ρ (0, y, 0) else ρ (4, ((moS R).2 85 d).toNatClampNeg, 0)) := by rw [z0, if_neg (by rw [b]; decide), if_pos b]
    have qq : cv 0 ((chV W x).getD i 0) = aC (woV W) hv cv ck cc x i 0 := by
      rw [q0]
      unfold arG
      rw [if_neg (by rw [a]; decide), if_pos a]
    rw [zz, qq]
    unfold aC
    rw [a]
    cases i with
    | zero =>
      rw [if_pos (k3.mpr rfl)]
      show r _ (enV 5 _ 0 (cv 0 x) (cv 1 x) (hv x))
      exact w0
    | succ j =>
      rw [if_neg (fun e => absurd (k3.mp e) (Nat.succ_ne_zero _)), k4 j rfl, (acV5 (fun n hn => by unfold enV; rw [if_neg (by decide), if_neg (by decide), if_pos (Or.inr (Or.inr rfl)), if_neg hn])).1 j]
      exact hk j rfl
  · refine all ?_ (a1 (by rw [b]; decide) (by rw [a]; decide)) (a2 (by rw [b]; decide) (by rw [a]; decide)) (a3 (by rw [b]; decide) (by rw [a]; decide))
    have zz : enR R I ρ 0 d = v3O (ρ (0, y, 0)) (ρ (4, d, 0)) := by rw [z0, if_neg (by rw [b]; decide), if_neg (by rw [b]; decide), if_pos b]
    have qq : cv 0 ((chV W x).getD i 0) = co x := by
      rw [q0]
      unfold arG
      rw [if_neg (by rw [a]; decide), if_neg (by rw [a]; decide), if_pos a]
    rw [zz, qq]
    exact h6 a
  · have hl := hl (Or.inr a)
    have hr1 : r (hdV (iSet I) (moK R y) (ρ (1, y, 0))) (v3A (cv 1 x) (hv x)) := by
      unfold hdV
      rw [hm]
      exact hc.2.1 _ _ _ _ w1 (hc.1 _)
    refine all (a0 (Or.inl b) (Or.inl a)) ?_ ?_ (a3 (by rw [b]; decide) (by rw [a]; decide))
    · rw [z1, if_pos b, q1]
      unfold arR
      rw [if_pos a]
      exact hc.2.1 _ _ _ _ hr1 (hc.2.2.2 _ _ hl)
    · rw [z2, if_pos b, q2]
      unfold arS
      rw [if_pos a]
      exact hc.2.2.1 _ _ _ _ w2 (hc.2.1 _ _ _ _ hr1 hl)
  · exact all (a0 (Or.inr (Or.inl b)) (Or.inr (Or.inl a))) (a1 (by rw [b]; decide) (by rw [a]; decide)) (a2 (by rw [b]; decide) (by rw [a]; decide)) (a3 (by rw [b]; decide) (by rw [a]; decide))
  · refine all (a0 (Or.inr (Or.inr b)) (Or.inr (Or.inr a))) (a1 (by rw [b]; decide) (by rw [a]; decide)) (a2 (by rw [b]; decide) (by rw [a]; decide)) ?_
    rw [z3, if_pos b, q3]
    unfold arK
    rw [if_pos a]
    exact h9 a
end
theorem v3A_as {a c d : Nat} : v3A (v3A a c) d = v3A a (v3A c d) := by
  unfold v3A
  by_cases z : a = 0 ∨ c = 0 ∨ d = 0
  · have l : (if (if a = 0 ∨ c = 0 then 0 else if a = 1 ∧ c = 1 then 1 else 2) = 0 ∨ d = 0 then 0 else if (if a = 0 ∨ c = 0 then 0 else if a = 1 ∧ c = 1 then 1 else 2) = 1 ∧ d = 1 then 1 else 2) = 0 := by
      by_cases y : a = 0 ∨ c = 0
      · rw [if_pos y]; rfl
      · rw [if_pos (Or.inr (by omega))]
    rw [l]
    by_cases y : c = 0 ∨ d = 0
    · rw [if_pos y, if_pos (Or.inr rfl)]
    · rw [if_pos (Or.inl (by omega))]
  · rw [if_neg (show ¬ (a = 0 ∨ c = 0) by omega), if_neg (show ¬ (c = 0 ∨ d = 0) by omega)]
    by_cases y : a = 1 ∧ c = 1 ∧ d = 1
    · rw [y.1, y.2.1, y.2.2]; rfl
    · by_cases u : a = 1 ∧ c = 1
      · rw [if_pos u, if_neg (show ¬ ((1 : Nat) = 0 ∨ d = 0) by omega), if_neg (show ¬ ((1 : Nat) = 1 ∧ d = 1) by omega), if_neg (show ¬ (c = 1 ∧ d = 1) by omega), if_neg (show ¬ (a = 0 ∨ (2 : Nat) = 0) by omega), if_neg (show ¬ (a = 1 ∧ (2 : Nat) = 1) by omega)]
      · rw [if_neg u, if_neg (show ¬ ((2 : Nat) = 0 ∨ d = 0) by omega), if_neg (show ¬ ((2 : Nat) = 1 ∧ d = 1) by omega)]
        by_cases t : c = 1 ∧ d = 1
        · rw [if_pos t, if_neg (show ¬ (a = 0 ∨ (1 : Nat) = 0) by omega), if_neg (show ¬ (a = 1 ∧ (1 : Nat) = 1) by omega)]
        · rw [if_neg t, if_neg (show ¬ (a = 0 ∨ (2 : Nat) = 0) by omega), if_neg (show ¬ (a = 1 ∧ (2 : Nat) = 1) by omega)]
theorem oI_le {f : Nat → Nat} : ∀ n, oI f n ≤ 2
  | 0 => Nat.zero_le _
  | _ + 1 => v3O_le _ _
theorem aI_le {f : Nat → Nat} : ∀ n, aI f n ≤ 2
  | 0 => by show 1 ≤ 2; decide
  | _ + 1 => v3A_le _ _
theorem v3O_x0 {a : Nat} (h : a ≤ 2) : v3O a 0 = a := by
  have : a = 0 ∨ a = 1 ∨ a = 2 := by omega
  rcases this with e | e | e <;> subst e <;> rfl
section
variable {R : RMo} {I : RIn} {ρ : Plc → Nat} {y n : Nat}
theorem kid_nx (hG : frM R) (hy : inR R y) (h1 : 1 ≤ (moG R y).length) : (moS R).2 84 ((moG R y).getD 0 0) = -1 ↔ (moG R y).length = 1 := by
  obtain ⟨⟨m4, s7⟩, g1, -⟩ := hG
  obtain ⟨hy1, hy2⟩ := id hy
  obtain ⟨⟨-, -, l3, l4, l5⟩, -, l6⟩ := g1 y hy.1 hy.2
  refine ⟨fun z => ?_, fun z => ?_⟩
  · by_cases e : (moG R y).length = 1
    · exact e
    · have q : (moS R).2 84 ((moG R y).getD 0 0) = Int32.ofNat ((moG R y).getD 1 0) := (l3 0 (by omega)).1
      rw [q] at z
      have := l6 _ (gd_in (l := moG R y) (i := 1) (by omega))
      exact absurd z (nm32 (by omega))
  · obtain ⟨d, ed⟩ : ∃ d, moG R y = [d] := List.length_eq_one_iff.mp z
    have ne : moG R y ≠ [] := fun e => by rw [e] at z; exact absurd z (by decide)
    have q := (l5 ne).1
    rw [ed] at q ⊢
    exact q
theorem rsR_if (h2 : ∀ j, ρ j ≤ 2) (c : Nat) : rsR R I ρ y c = if iSet I &&& moK R y ≠ 0 ∧ iSet I &&& moK R c = 0 then ρ (1, y, 0) else 0 := by
  unfold rsR hvM
  by_cases z : iSet I &&& moK R y = 0
  · rw [if_pos z, v3A_0.2, v3A_0.1, if_neg (show ¬ (iSet I &&& moK R y ≠ 0 ∧ iSet I &&& moK R c = 0) from fun q => q.1 z)]
  · rw [if_neg z, (v3A_1 (h2 _)).2]
    by_cases q : iSet I &&& moK R c = 0
    · rw [if_pos q, if_pos (show iSet I &&& moK R y ≠ 0 ∧ iSet I &&& moK R c = 0 from ⟨z, q⟩)]
      show v3A _ 1 = _
      rw [(v3A_1 (h2 _)).2]
    · rw [if_neg q, if_neg (show ¬ (iSet I &&& moK R y ≠ 0 ∧ iSet I &&& moK R c = 0) from fun p => q p.2)]
      show v3A _ 0 = _
      rw [v3A_0.2]
theorem alF_A : ∀ k, alF R I ρ y n k = v3A (orR R ρ y n) (aI (fun i => rcV (rsR R I ρ y ((moG R y).getD i 0)) (fun j => ρ (4, (moG R y).getD i 0, j)) (n + 1)) k)
  | 0 => ((v3A_1 (oI_le _)).2).symm
  | k + 1 => by
    show v3A (alF R I ρ y n k) _ = v3A _ (v3A _ _)
    rw [alF_A k, v3A_as]
end
section
variable {W : Wo} {R : RMo} {I : RIn} {ρ : Plc → Nat} {hv : Nat → Nat} {cv ck : Nat → Nat → Nat} {co cc : Nat → Nat} {r : Nat → Nat → Prop} {y x n : Nat}
theorem L_cd (hc : Cg r) (hG : frM R) (hy : inR R y) (hP : PkR W R y x) (hE : CEq (woV W) hv cv ck co cc x) (hE2 : ∀ c, c ∈ chV W x → CEq (woV W) hv cv ck co cc c) (cb : ∀ c j, ck c j ≤ 2) (hm : hv x = hvM (iSet I) (moK R y)) (hmk : ∀ i, i < (moG R y).length → hv ((chV W x).getD i 0) = hvM (iSet I) (moK R ((moG R y).getD i 0))) (hw : Mw r ρ cv y x) (hl : (woV W x).1 = 4 ∨ (woV W x).1 = 7 → r (lokR R I ρ y) (cc x)) (hk : ∀ i, i < (moG R y).length → Mk r ρ ck (moC R) ((moG R y).getD i 0) ((chV W x).getD i 0)) (hz : ∀ i, i < (chV W x).length → ∀ j, moC R ≤ j → j < 20 → ck ((chV W x).getD i 0) j = 0) (h3 : 3 ≤ moC R ∧ moC R ≤ 20) (hnu : (woV W x).1 = 3 → moN R y = (woV W x).2.2.1 ∧ ∃ v, v < 20 ∧ (woV W x).2.2.1 = Int32.ofNat v) (hn : n < moC R) : r (cdR R I ρ y n) (ck x n) := by
  have n20 : n < 20 := by omega
  have w0 := hw 0 (by decide)
  have w1 := hw 1 (by decide)
  have eC : ck x n = if (woV W x).1 = 8 then jbC (woV W) hv cv ck x n else aC (woV W) hv cv ck cc x (chV W x).length n := hE.2 n n20
  have hr1 : r (hdV (iSet I) (moK R y) (ρ (1, y, 0))) (v3A (cv 1 x) (hv x)) := by
    unfold hdV
    rw [hm]
    exact hc.2.1 _ _ _ _ w1 (hc.1 _)
  have leaf : chV W x = [] → (woV W x).1 ≠ 8 → ck x n = enV (woV W x).1 (woV W x).2.2.1.toNatClampNeg n (cv 0 x) (cv 1 x) (hv x) := fun e k8 => by
    rw [eC, if_neg k8, e]; rfl
  rcases hP with ⟨a, b, b1, b2⟩ | ⟨a, b1, b, b2⟩ | ⟨a, b1, b, b2⟩ | ⟨a, b1, b, b2⟩ | ⟨a, b1, b, b2⟩ | ⟨a, b, c1, c2, d1, b1, b2⟩ | ⟨a, b, c, d, b1, b2⟩ | ⟨a, b, c, d, b1, b2⟩ | ⟨a, b, b1, b2⟩ | ⟨a, b, c, d, b1, b2⟩
  · -- a row
    have eR : cdR R I ρ y n = (if n = 0 then ρ (4, (moG R y).getLastD 0, 0) else orR R ρ y n) := by
      unfold cdR
      rw [if_neg (by rw [b]; decide), if_neg (by rw [b]; decide), if_neg (by rw [b]; decide), if_pos b]
    rw [eR, eC, if_neg (show ¬ (woV W x).1 = 8 by rw [a]; decide)]
    unfold aC
    rw [a]
    have q5 := acV5 (rs := cv 1 x) (hv := hv x) (cd := cc x) (a0 := fun n => enV 5 (woV W x).2.2.1.toNatClampNeg n (cv 0 x) (cv 1 x) (hv x)) (K := fun i n => ck ((woV W x).2.2.2.getD i 0) n) (fun n hn => by
      show enV 5 _ n _ _ _ = 0
      unfold enV
      rw [if_neg (by decide), if_neg (by decide), if_pos (Or.inr (Or.inr rfl)), if_neg hn])
    by_cases z : n = 0
    · rw [if_pos z, z]
      obtain ⟨j, ej⟩ : ∃ j, (chV W x).length = j + 1 := ⟨(chV W x).length - 1, by omega⟩
      rw [ej, q5.1 j]
      have el : (moG R y).getLastD 0 = (moG R y).getD j 0 := by
        have e1 : (moG R y).length = j + 1 := by omega
        rw [List.getLastD_eq_getLast?, List.getLast?_eq_getElem?, e1, List.getD_eq_getElem?_getD]
        rfl
      rw [el]
      exact hk j (by omega) 0 (by omega)
    · rw [if_neg z, q5.2 _ n z]
      unfold orR
      rw [b2]
      exact hc.oi _ (fun k hkk => hk k (by omega) n hn)
  · have eR : cdR R I ρ y n = (if n = 0 then ρ (0, y, 0) else 0) := by
      unfold cdR
      rw [if_neg (by rw [b]; decide), if_neg (by rw [b]; decide), if_neg (by rw [b]; decide), if_neg (by rw [b]; decide), if_neg (by rw [b]; decide), if_neg (by rw [b]; decide), if_neg (by rw [b]; decide), if_neg (by rw [b]; decide)]
    have eK : ck x n = if n = 0 then cv 0 x else 0 := by
      rw [leaf b1 (by rw [a]; decide), a]
      unfold enV
      rw [if_neg (by decide), if_neg (by decide), if_pos (Or.inl rfl)]
    rw [eR, eK]
    by_cases z : n = 0
    · rw [if_pos z, if_pos z]; exact w0
    · rw [if_neg z, if_neg z]; exact hc.1 _
  · have eR : cdR R I ρ y n = (if n = 1 then ρ (0, y, 0) else if n = 0 then hdV (iSet I) (moK R y) (ρ (1, y, 0)) else 0) := by
      unfold cdR
      rw [if_pos b]
    have eK : ck x n = if n = 0 then v3A (cv 1 x) (hv x) else if n = 1 then cv 0 x else 0 := by
      rw [leaf b1 (by rw [a]; decide), a]
      unfold enV
      rw [if_pos rfl]
    rw [eR, eK]
    by_cases z : n = 0
    · rw [if_neg (show ¬ n = 1 by omega), if_pos z, if_pos z]; exact hr1
    · by_cases z1 : n = 1
      · rw [if_pos z1, if_neg z, if_pos z1]; exact w0
      · rw [if_neg z1, if_neg z, if_neg z, if_neg z1]; exact hc.1 _
  · have eR : cdR R I ρ y n = (if n = 0 then ρ (0, y, 0) else 0) := by
      unfold cdR
      rw [if_neg (by rw [b]; decide), if_neg (by rw [b]; decide), if_neg (by rw [b]; decide), if_neg (by rw [b]; decide), if_neg (by rw [b]; decide), if_neg (by rw [b]; decide), if_neg (by rw [b]; decide), if_neg (by rw [b]; decide)]
    have eK : ck x n = if n = 0 then cv 0 x else 0 := by
      rw [leaf b1 (by rw [a]; decide), a]
      unfold enV
      rw [if_neg (by decide), if_neg (by decide), if_pos (Or.inr (Or.inl rfl))]
    rw [eR, eK]
    by_cases z : n = 0
    · rw [if_pos z, if_pos z]; exact w0
    · rw [if_neg z, if_neg z]; exact hc.1 _
  · obtain ⟨u1, v, u2, u3⟩ := hnu a
    have eR : cdR R I ρ y n = (if Int32.ofNat n = Int32.ofNat v then ρ (0, y, 0) else 0) := by
      unfold cdR
      rw [if_neg (by rw [b]; decide), if_pos b, u1, u3]
    have eK : ck x n = if n = v then cv 0 x else 0 := by
      rw [leaf b1 (by rw [a]; decide), a, u3, lt32 (show v < 2147483648 by omega)]
      unfold enV
      rw [if_neg (by decide), if_pos rfl]
    rw [eR, eK]
    by_cases z : n = v
    · rw [if_pos (show Int32.ofNat n = Int32.ofNat v by rw [z]), if_pos z]; exact w0
    · rw [if_neg (show ¬ Int32.ofNat n = Int32.ofNat v from fun e => z (inj32 (by omega) (by omega) e)), if_neg z]; exact hc.1 _
  · -- a choice
    have hl := hl (Or.inl a)
    have k8 : (woV W x).1 ≠ 8 := by rw [a]; decide
    have k4 : ∀ (t : Nat) (p q : Nat → Nat), lvV 4 t p q (cv 1 x) (hv x) (cc x) = v3O (p t) (q t) := fun t p q => by unfold lvV; rw [if_pos rfl]
    have eC2 : ck x n = v3O (v3O 0 (ck c1 n)) (ck c2 n) := by
      rw [eC, if_neg k8, b1]
      unfold aC
      rw [show ([c1, c2] : List Nat).length = 1 + 1 from rfl, acS k8, a, k4]
      have e0 : (woV W x).2.2.2 = [c1, c2] := b1
      rw [acS (by decide), k4, e0]
      rfl
    have kx := kid_nx hG hy
    have eR : cdR R I ρ y n = (if n = 0 ∧ (moS R).2 84 ((moG R y).getD 0 0) = -1 then v3O (orR R ρ y n) (v3A (ρ (0, y, 0)) (v3N (lokR R I ρ y))) else orR R ρ y n) := by
      unfold cdR
      rw [if_neg (by rcases b with e | e <;> rw [e] <;> decide), if_neg (by rcases b with e | e <;> rw [e] <;> decide), if_pos b]
    rw [eR, eC2]
    rcases b2 with ⟨b2, t1, t2⟩ | ⟨d2, b2⟩
    · have kx := (kx (by rw [b2]; simp)).mpr (by rw [b2]; rfl)
      have m1 : r (ρ (4, d1, n)) (ck c1 n) := by
        have q := hk 0 (by rw [b2]; simp) n hn
        rw [b2, b1] at q
        exact q
      have m2 : orR R ρ y n = v3O 0 (ρ (4, d1, n)) := by unfold orR; rw [b2]; rfl
      have m3 : ck c2 n = if n = 0 then v3A (cv 0 x) (v3N (cc x)) else 0 := by
        have q : CEk (woV W) hv cv ck cc c2 n := (hE2 c2 (by rw [b1]; exact List.mem_cons_of_mem _ List.mem_cons_self)).2 n n20
        unfold CEk aC at q
        rw [t1, if_neg (by decide), show (woV W c2).2.2.2 = [] from t2] at q
        have q : ck c2 n = enV 0 _ n (cv 0 c2) (cv 1 c2) (hv c2) := q
        unfold enV at q
        rw [if_neg (by decide), if_neg (by decide), if_pos (Or.inl rfl)] at q
        rw [q]
        have p : CEa (woV W) hv cv ck co cc x 1 := hE.1 1 (by show 1 < (chV W x).length; rw [b1]; simp)
        have p := p.1
        have e0 : (woV W x).2.2.2 = [c1, c2] := b1
        rw [e0] at p
        have p : cv 0 c2 = arG (woV W x).1 false (cv 0 x) (cc x) _ (co x) := p
        rw [p]
        unfold arG
        rw [if_pos a]
        rfl
      rw [m2, m3]
      by_cases z : n = 0
      · rw [if_pos ⟨z, kx⟩, if_pos z]
        exact hc.2.2.1 _ _ _ _ (hc.2.2.1 _ _ _ _ (hc.1 _) m1) (hc.2.1 _ _ _ _ w0 (hc.2.2.2 _ _ hl))
      · rw [if_neg (fun q => z q.1), if_neg z, v3O_x0 (v3O_le _ _)]
        exact hc.2.2.1 _ _ _ _ (hc.1 _) m1
    · have kx : ¬ (moS R).2 84 ((moG R y).getD 0 0) = -1 := fun e => by
        have := (kx (by rw [b2]; simp)).mp e
        rw [b2] at this
        exact absurd this (by simp)
      rw [if_neg (fun q => kx q.2)]
      have q0 := hk 0 (by rw [b2]; simp) n hn
      have q1 := hk 1 (by rw [b2]; simp) n hn
      rw [b2, b1] at q0 q1
      unfold orR
      rw [b2]
      exact hc.2.2.1 _ _ _ _ (hc.2.2.1 _ _ _ _ (hc.1 _) q0) q1
  · -- a loop
    have q0 := hk 0 (by rw [b2]; simp) n hn
    rw [b2, b1] at q0
    have eR : cdR R I ρ y n = (if n = 0 then 0 else ρ (4, d, n)) := by
      unfold cdR
      rw [if_neg (by rw [b]; decide), if_neg (by rw [b]; decide), if_neg (by rw [b]; decide), if_neg (by rw [b]; decide), if_pos b, b2]
      rfl
    have eK : ck x n = if n = 0 then 0 else v3O (enV 6 (woV W x).2.2.1.toNatClampNeg n (cv 0 x) (cv 1 x) (hv x)) (ck c n) := by
      have e0 : (woV W x).2.2.2 = [c] := b1
      rw [eC, if_neg (show ¬ (woV W x).1 = 8 by rw [a]; decide), b1]
      unfold aC
      rw [show ([c] : List Nat).length = 0 + 1 from rfl, acS (by rw [a]; decide), a, e0]
      unfold lvV
      rw [if_neg (by decide), if_neg (by decide), if_pos rfl]
      rfl
    rw [eR, eK]
    by_cases z : n = 0
    · rw [if_pos z, if_pos z]; exact hc.1 _
    · rw [if_neg z, if_neg z]
      show r _ (v3O 0 (ck c n))
      rw [v3O_0 (cb _ _)]
      exact q0
  · -- suspended
    have hl := hl (Or.inr a)
    have q0 := hk 0 (by rw [b2]; simp) n hn
    rw [b2, b1] at q0
    have e0 : (woV W x).2.2.2 = [c] := b1
    have eR : cdR R I ρ y n = (if n = 1 then v3O (ρ (4, d, 1)) (v3A (hdV (iSet I) (moK R y) (ρ (1, y, 0))) (lokR R I ρ y)) else ρ (4, d, n)) := by
      unfold cdR
      rw [if_neg (by rw [b]; decide), if_neg (by rw [b]; decide), if_neg (by rw [b]; decide), if_neg (by rw [b]; decide), if_neg (by rw [b]; decide), if_pos b, b2]
      rfl
    have eK : ck x n = if n = 1 then v3O (v3O 0 (ck c 1)) (v3A (v3A (cv 1 x) (hv x)) (cc x)) else v3O 0 (ck c n) := by
      rw [eC, if_neg (show ¬ (woV W x).1 = 8 by rw [a]; decide), b1]
      unfold aC
      rw [show ([c] : List Nat).length = 0 + 1 from rfl, acS (by rw [a]; decide), a, e0]
      unfold lvV
      rw [if_neg (by decide), if_neg (by decide), if_neg (by decide), if_pos rfl]
      rfl
    rw [eR, eK]
    by_cases z : n = 1
    · rw [if_pos z, if_pos z]
      show r _ (v3O (v3O 0 (ck c 1)) _)
      rw [v3O_0 (cb _ _)]
      rw [z] at q0
      exact hc.2.2.1 _ _ _ _ q0 (hc.2.1 _ _ _ _ hr1 hl)
    · rw [if_neg z, if_neg z]
      show r _ (v3O 0 (ck c n))
      rw [v3O_0 (cb _ _)]
      exact q0
  · -- branches
    have eR : cdR R I ρ y n = alF R I ρ y n (moG R y).length := by
      unfold cdR
      rw [if_neg (by rw [b]; decide), if_neg (by rw [b]; decide), if_neg (by rw [b]; decide), if_neg (by rw [b]; decide), if_neg (by rw [b]; decide), if_neg (by rw [b]; decide), if_pos b]
    rw [eR, eC, if_pos a, alF_A]
    unfold jbC
    have e0 : (woV W x).2.2.2 = chV W x := rfl
    rw [e0, ← b2]
    refine hc.2.1 _ _ _ _ ?_ (hc.ai _ (fun i hi => hc.rc ?_ _ (fun j hj => hk i hi j (by omega))))
    · unfold orR
      exact hc.oi _ (fun i hi => hk i hi n hn)
    · show r (rsR R I ρ y ((moG R y).getD i 0)) _
      unfold rsR
      rw [hm, hmk i hi]
      exact hc.2.1 _ _ _ _ (hc.2.1 _ _ _ _ w1 (hc.1 _)) (hc.1 _)
  · -- a trap
    have q0 : ∀ j, j < moC R → r (ρ (4, d, j)) (ck c j) := fun j hj => by
      have q := hk 0 (by rw [b2]; simp) j hj
      rw [b2, b1] at q
      exact q
    have e0 : (woV W x).2.2.2 = [c] := b1
    have eR : cdR R I ρ y n = (if n = 0 then v3O (ρ (4, d, 0)) (ρ (4, d, 2)) else if n = 1 then ρ (4, d, 1) else if n + 1 < moC R then ρ (4, d, n + 1) else 0) := by
      unfold cdR
      rw [if_neg (by rw [b]; decide), if_neg (by rw [b]; decide), if_neg (by rw [b]; decide), if_neg (by rw [b]; decide), if_neg (by rw [b]; decide), if_neg (by rw [b]; decide), if_neg (by rw [b]; decide), if_pos b, b2]
      rfl
    have eK : ck x n = if n = 0 then v3O (ck c 0) (ck c 2) else if n = 1 then ck c 1 else if n ≤ 18 then ck c (n + 1) else enV 9 (woV W x).2.2.1.toNatClampNeg n (cv 0 x) (cv 1 x) (hv x) := by
      rw [eC, if_neg (show ¬ (woV W x).1 = 8 by rw [a]; decide), b1]
      unfold aC
      rw [show ([c] : List Nat).length = 0 + 1 from rfl, acS (by rw [a]; decide), a, e0]
      unfold lvV
      rw [if_neg (by decide), if_neg (by decide), if_neg (by decide), if_neg (by decide)]
      rfl
    rw [eR, eK]
    by_cases z : n = 0
    · rw [if_pos z, if_pos z]
      exact hc.2.2.1 _ _ _ _ (q0 0 (by omega)) (q0 2 (by omega))
    rw [if_neg z, if_neg z]
    by_cases z1 : n = 1
    · rw [if_pos z1, if_pos z1]
      exact q0 1 (by omega)
    rw [if_neg z1, if_neg z1]
    by_cases z2 : n + 1 < moC R
    · rw [if_pos z2, if_pos (show n ≤ 18 by omega)]
      exact q0 (n + 1) z2
    · rw [if_neg z2]
      by_cases z3 : n ≤ 18
      · rw [if_pos z3]
        have q := hz 0 (by rw [b1]; simp) (n + 1) (by omega) (by omega)
        rw [b1] at q
        have q : ck c (n + 1) = 0 := q
        show r 0 (ck c (n + 1))
        rw [q]
        exact hc.1 _
      · rw [if_neg z3]
        show r 0 (enV 9 _ n _ _ _)
        unfold enV
        rw [if_neg (by decide), if_neg (by decide), if_neg (by decide)]
        exact hc.1 _
end
