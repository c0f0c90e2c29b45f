/-! a node of the reference and its node of the class: one step -/
def PkR (W : Wo) (R : RMo) (y x : Nat) : Prop :=
  ((woV W x).1 = 5 ∧ (moS R).2 80 y = 6 ∧ 2 ≤ (moG R y).length ∧ (moG R y).length = (chV W x).length)
  ∨ ((woV W x).1 = 0 ∧ chV W x = [] ∧ (moS R).2 80 y = 0 ∧ moG R y = [])
  ∨ ((woV W x).1 = 1 ∧ chV W x = [] ∧ (moS R).2 80 y = 2 ∧ moG R y = [])
  ∨ ((woV W x).1 = 2 ∧ chV W x = [] ∧ (moS R).2 80 y = 1 ∧ moG R y = [])
  ∨ ((woV W x).1 = 3 ∧ chV W x = [] ∧ (moS R).2 80 y = 3 ∧ moG R y = [])
  ∨ ((woV W x).1 = 4 ∧ ((moS R).2 80 y = 4 ∨ (moS R).2 80 y = 5) ∧ ∃ c1 c2 d1, chV W x = [c1, c2] ∧ ((moG R y = [d1] ∧ (woV W c2).1 = 0 ∧ chV W c2 = []) ∨ ∃ d2, moG R y = [d1, d2]))
  ∨ ((woV W x).1 = 6 ∧ (moS R).2 80 y = 7 ∧ ∃ c d, chV W x = [c] ∧ moG R y = [d])
  ∨ ((woV W x).1 = 7 ∧ (moS R).2 80 y = 8 ∧ ∃ c d, chV W x = [c] ∧ moG R y = [d])
  ∨ ((woV W x).1 = 8 ∧ (moS R).2 80 y = 9 ∧ 1 ≤ (moG R y).length ∧ (moG R y).length = (chV W x).length)
  ∨ ((woV W x).1 = 9 ∧ (moS R).2 80 y = 10 ∧ ∃ c d, chV W x = [c] ∧ moG R y = [d])
def cs1 (W : Wo) (x : Nat) : Prop := (woV W x).1 = 5 ∧ (chV W x).length = 1
def vwM (R : RMo) : Vwr := vwR (moS R) (moG R)
def hiM (R : RMo) : Nat := 700 * moM R + (moS R).1
theorem RpN.pk {W : Wo} {R : RMo} {zn fn g y x p p' : Nat} {cx : List (Option Nat)} (h : RpN W (moM R) zn fn (vwM R) (hiM R) g cx y x p p') (hne : ¬ cs1 W x) : PkR W R y x := by
  cases g with
  | zero => unfold RpN at h; exact h.elim
  | succ g =>
    unfold RpN at h
    obtain ⟨-, h⟩ := h
    unfold PkR
    rcases h with ⟨a, c, b1, b2⟩ | ⟨a, b1, b2, b3⟩ | ⟨a, b1, b2, b3, -⟩ | ⟨a, -, b1, b2, b3, -⟩ | ⟨a, b1, b2, b3, -⟩ | ⟨a, b1, b2, b3, -⟩ | ⟨a, b1, c1, c2, d1, pm, b2, b3, b4⟩ | ⟨a, b1, c, d, b2, b3, b4⟩ | ⟨a, b1, b5, c, d, b2, b3, b4⟩ | ⟨a, b1, b2, b3⟩ | ⟨a, b1, c, d, t, b2, b3, b4, b5⟩
    · exact absurd ⟨a, by show (woV W x).2.2.2.length = 1; rw [b1]; rfl⟩ hne
    · exact Or.inl ⟨a, b1, b2, RpLs.ln _ _ _ _ b3⟩
    · exact Or.inr (Or.inl ⟨a, b1, b2, b3⟩)
    · exact Or.inr (Or.inr (Or.inl ⟨a, b1, b2, b3⟩))
    · exact Or.inr (Or.inr (Or.inr (Or.inl ⟨a, b1, b2, b3⟩)))
    · exact Or.inr (Or.inr (Or.inr (Or.inr (Or.inl ⟨a, b1, b2, b3⟩))))
    · refine Or.inr (Or.inr (Or.inr (Or.inr (Or.inr (Or.inl ⟨a, ?_, c1, c2, d1, b2, ?_⟩)))))
      · rcases b1 with q | q
        · exact Or.inl q.1
        · exact Or.inr q.1
      · rcases b4 with ⟨q1, q2, q3, -⟩ | ⟨d2, q, -⟩
        · exact Or.inl ⟨q1, q2, q3⟩
        · exact Or.inr ⟨d2, q⟩
    · exact Or.inr (Or.inr (Or.inr (Or.inr (Or.inr (Or.inr (Or.inl ⟨a, b1, c, d, b2, b3⟩))))))
    · exact Or.inr (Or.inr (Or.inr (Or.inr (Or.inr (Or.inr (Or.inr (Or.inl ⟨a, b1, c, d, b2, b3⟩)))))))
    · exact Or.inr (Or.inr (Or.inr (Or.inr (Or.inr (Or.inr (Or.inr (Or.inr (Or.inl ⟨a, b1, b2, RpLs.ln _ _ _ _ b3⟩))))))))
    · exact Or.inr (Or.inr (Or.inr (Or.inr (Or.inr (Or.inr (Or.inr (Or.inr (Or.inr ⟨a, b1, c, d, b2, b3⟩))))))))
/-! the class's equations of wires -/
section
variable (V : Vw) (hv : Nat → Nat) (cv ck : Nat → Nat → Nat) (co cc : Nat → Nat)
def aC (x i n : Nat) : Nat := acV (V x).1 (cv 1 x) (hv x) (cc x) (fun n => enV (V x).1 (V x).2.2.1.toNatClampNeg n (cv 0 x) (cv 1 x) (hv x)) (fun i n => ck ((V x).2.2.2.getD i 0) n) i n
def jbC (x n : Nat) : Nat := v3A (oI (fun i => ck ((V x).2.2.2.getD i 0) n) (V x).2.2.2.length) (aI (fun i => rcV (v3A (v3A (cv 1 x) (hv x)) (v3N (hv ((V x).2.2.2.getD i 0)))) (fun j => ck ((V x).2.2.2.getD i 0) j) (n + 1)) (V x).2.2.2.length)
def CEa (x i : Nat) : Prop := cv 0 ((V x).2.2.2.getD i 0) = arG (V x).1 (decide (i = 0)) (cv 0 x) (cc x) (aC V hv cv ck cc x i 0) (co x) ∧ cv 1 ((V x).2.2.2.getD i 0) = arR (V x).1 (cv 1 x) (hv x) (cc x) ∧ cv 2 ((V x).2.2.2.getD i 0) = arS (V x).1 (cv 2 x) (cv 1 x) (hv x) (cc x) ∧ cv 3 ((V x).2.2.2.getD i 0) = arK (V x).1 (cv 3 x) (co x)
def CEk (x n : Nat) : Prop := ck x n = if (V x).1 = 8 then jbC V hv cv ck x n else aC V hv cv ck cc x (V x).2.2.2.length n
def CEq (x : Nat) : Prop := (∀ i, i < (V x).2.2.2.length → CEa V hv cv ck co cc x i) ∧ ∀ n, n < 20 → CEk V hv cv ck cc x n
end
theorem acS {k : Int32} {rs hv cd i : Nat} {a0 : Nat → Nat} {K : Nat → Nat → Nat} (h : k ≠ 8) (n : Nat) : acV k rs hv cd a0 K (i + 1) n = lvV k n (acV k rs hv cd a0 K i) (K i) rs hv cd := by
  show (if k = 8 then acV k rs hv cd a0 K i n else lvV k n (acV k rs hv cd a0 K i) (K i) rs hv cd) = lvV k n (acV k rs hv cd a0 K i) (K i) rs hv cd
  rw [if_neg h]
theorem acV5 {rs hv cd : Nat} {a0 : Nat → Nat} {K : Nat → Nat → Nat} (h : ∀ n, n ≠ 0 → a0 n = 0) : (∀ i, acV 5 rs hv cd a0 K (i + 1) 0 = K i 0) ∧ ∀ i n, n ≠ 0 → acV 5 rs hv cd a0 K i n = oI (fun j => K j n) i := by
  refine ⟨fun i => ?_, fun i n hn => ?_⟩
  · rw [acS (by decide)]
    unfold lvV
    rw [if_neg (by decide), if_pos rfl, if_pos rfl]
  · induction i with
    | zero => exact h n hn
    | succ i ih =>
      rw [acS (by decide)]
      show lvV 5 n (acV 5 rs hv cd a0 K i) (K i) rs hv cd = v3O (oI (fun j => K j n) i) (K i n)
      unfold lvV
      rw [if_neg (by decide), if_pos rfl, if_neg hn, ih]
/-! children of the reference's node -/
section
variable {R : RMo} {I : RIn} {ρ : Plc → Nat} {y i : Nat}
def frM (R : RMo) : Prop := RgB (moM R) (moS R) (moG R)
theorem kid_up (hG : frM R) (hy : inR R y) (hi : i < (moG R y).length) : (moS R).2 86 ((moG R y).getD i 0) ≠ -1 ∧ upR R ((moG R y).getD i 0) = y ∧ ((moS R).2 85 ((moG R y).getD i 0) = -1 ↔ i = 0) ∧ (∀ j, i = j + 1 → ((moS R).2 85 ((moG R y).getD i 0)).toNatClampNeg = (moG R y).getD j 0) ∧ inR R ((moG R y).getD i 0) := by
  obtain ⟨⟨m4, s7⟩, g1, -⟩ := hG
  obtain ⟨hy1, hy2⟩ := id hy
  obtain ⟨⟨-, -, l3, l4, l5⟩, -, l6⟩ := g1 y hy.1 hy.2
  have mem : (moG R y).getD i 0 ∈ moG R y := gd_in hi
  have e86 := l4 _ mem
  have y31 : y < 100000 := by omega
  have b6 := l6 _ mem
  refine ⟨by rw [e86]; exact nm32 (by omega), by unfold upR; rw [e86]; exact lt32 (by omega), ⟨fun z => ?_, fun z => ?_⟩, fun j hj => ?_, b6⟩
  · cases i with
    | zero => rfl
    | succ j =>
      have e := (l3 j hi).2
      rw [e] at z
      have := l6 _ (gd_in (l := moG R y) (i := j) (by omega))
      exact absurd z (nm32 (by omega))
  · subst z
    have ne : moG R y ≠ [] := fun e => by rw [e] at hi; exact absurd hi (Nat.not_lt_zero _)
    have q := (l5 ne).2
    have e : (moG R y).headD 0 = (moG R y).getD 0 0 := by cases moG R y <;> rfl
    rw [e] at q
    exact q
  · subst hj
    rw [(l3 j hi).2]
    have := l6 _ (gd_in (l := moG R y) (i := j) (by omega))
    exact lt32 (by omega)
end
