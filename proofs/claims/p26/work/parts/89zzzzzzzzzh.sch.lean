section
/-! the class's Search: its rows, and the methods that only look at them -/
def ScO (M : Mem) (x c t : Nat) (a : Nat → Nat) : Prop := (ok M x 7 ∧ mR M x 0 = some c ∧ mI M x 1 = Int32.ofNat (2 ^ t) ∧ t ≤ 5) ∧ (∀ f, 5 ≤ f → f ≤ 12 → mR M x f = some (a f) ∧ ok M (a f) 21 ∧ mL M (a f) = if f = 9 ∨ f = 10 then 48 * 2 ^ t else 48) ∧ ∀ f g, 5 ≤ f → f ≤ 12 → 5 ≤ g → g ≤ 12 → a f = a g → f = g
def ScC (M : Mem) (x t n : Nat) (a : Nat → Nat) : Prop := (mI M x 3 = Int32.ofNat n ∧ n ≤ 48) ∧ (∀ s, s < 48 → ∃ q, q < 48 ∧ mAI M (a 7) s = Int32.ofNat q) ∧ ∀ j, j < 48 * 2 ^ t → mAI M (a 9) j < 0 ∨ ∃ q, q < 48 ∧ mAI M (a 9) j = Int32.ofNat q
abbrev f23 (f : Nat) : Prop := f = 2 ∨ f = 3
section
variable {M M' M1 : Mem} {x c t n s h : Nat} {a : Nat → Nat} {Q : Option Value → Mem → Prop} {S : Nat → Prop}
theorem nn_of {y : Int32} (z : ¬ y < 0) : ∃ q, y = Int32.ofNat q ∧ q < 2147483648 := by
  have b1 := Int32.toInt_lt y
  have b2 := Int32.le_toInt y
  refine ⟨y.toNatClampNeg, ?_, ?_⟩
  · ((try simp only [Int32.toNatClampNeg, Int32.lt_iff_toInt_lt, Int32.le_iff_toInt_le, ← Int32.toInt_inj, j_add, j_sub, j_neg, j_mul, j_nat, Int32.reduceToInt, vp_in] at z ⊢); omega)
  · ((try simp only [Int32.toNatClampNeg, Int32.lt_iff_toInt_lt, Int32.le_iff_toInt_le, ← Int32.toInt_inj, j_add, j_sub, j_neg, j_mul, j_nat, Int32.reduceToInt, vp_in] at z ⊢); omega)
theorem ScO.gm {fs : Nat → Prop} (h : ScO M x c t a) (k : GmF x fs S M M') (h1 : ¬ fs 1) : ScO M' x c t a := by
  obtain ⟨⟨a1, a2, a3, a4⟩, b, d⟩ := h
  exact ⟨⟨k.ok a1, by rw [k.2.1.2.1]; exact a2, by rw [k.2.2.2.1 1 h1]; exact a3, a4⟩, fun f f1 f2 => ⟨by rw [k.2.1.2.1]; exact (b f f1 f2).1, k.ok (b f f1 f2).2.1, by rw [k.1.2.2.2]; exact (b f f1 f2).2.2⟩, d⟩
theorem ScO.l48 (h : ScO M x c t a) {f : Nat} (f1 : 5 ≤ f) (f2 : f ≤ 12) (f3 : f ≠ 9) (f4 : f ≠ 10) : mL M (a f) = 48 := by
  rw [(h.2.1 f f1 f2).2.2, if_neg (by omega)]
theorem ScO.lm (h : ScO M x c t a) {f : Nat} (f3 : f = 9 ∨ f = 10) : mL M (a f) = 48 * 2 ^ t := by
  rw [(h.2.1 f (by omega) (by omega)).2.2, if_pos f3]
theorem GmF.cpn {g b c n : Nat} {fs : Nat → Prop} (hc : S c) (e : M' = wCp M b c 0 0 n) : GmF g fs S M M' := by
  rw [e]
  exact ⟨⟨rfl, rfl, rfl, rfl⟩, ⟨rfl, rfl, rfl, rfl⟩, fun _ _ => rfl, fun _ _ => rfl, fun c' z => va_up_ne _ _ (fun y => z (by rw [y]; exact hc))⟩
theorem S_befM {bc : Nat} (ox : ok M x 2) (e8 : mR M x 8 = some bc) (ob : ok M bc 21) (lb : mL M bc = 16) (K : ∀ r : Int32, Q (some (.int r)) M) : E (h + 1) mdX0_beforeMask [.ref x] M Q := by
  have main : ∀ d i (y : Int32), i + d = 16 → T (h + 1) mdX0_beforeMask 4 [(0, .ref x), (1, .int y), (2, .int (Int32.ofNat i))] [] M Q := by
    intro d
    induction d with
    | zero =>
      intro i y hi
      have e : i = 16 := hi
      subst e
      refine VX0_beforeMask_4 ?_
      unfold DX0_beforeMask_4
      exact ⟨ox, bc, e8, ob, fun _ => K _, fun z => absurd (by rw [lb]; exact Int32.le_rfl) z⟩
    | succ d ih =>
      intro i y hi
      refine VX0_beforeMask_4 ?_
      unfold DX0_beforeMask_4 DX0_beforeMask_28
      rw [succ32]
      exact ⟨ox, bc, e8, ob, fun z => absurd ((le32 (by rw [lb]; decide) (by omega)).mp z) (by rw [lb]; omega), fun _ => ⟨bc, e8, ob, by rw [lb]; exact vp_of (by omega) (by decide), fun _ => ih (i + 1) _ (by omega), fun _ => ih (i + 1) _ (by omega)⟩⟩
  refine KX0_beforeMask ?_
  unfold DX0_beforeMask_0
  exact main 16 0 0 (by omega)
theorem S_hasSt {y : Int32} (hO : ScO M x c t a) (hC : ScC M x t n a) (K1 : ∀ q, q < n → y = Int32.ofNat q → Q (some (.int 1)) M) (K0 : Q (some (.int 0)) M) : E (h + 1) mdX5_hasState [.ref x, .int y] M Q := by
  refine KX5_hasState ?_
  unfold DX5_hasState_0 DX5_hasState_16 DX5_hasState_17
  refine ⟨fun _ => ⟨Or.inl rfl, K0⟩, fun z => ⟨hO.1.1, fun _ => ⟨Or.inl rfl, K0⟩, fun w => ⟨Or.inr rfl, ?_⟩⟩⟩
  rw [hC.1.1] at w
  obtain ⟨q, hq⟩ := nn_of z
  rw [hq.1] at w
  exact K1 q (by
    rcases Nat.lt_or_ge q n with y | y
    · exact y
    · exact absurd ((le32 (by have := hC.1.2; omega) hq.2).mpr y) w) hq.1
theorem S_grpOf {y : Int32} (hO : ScO M x c t a) (hy : y < 0 ∨ ∃ q, q < 48 ∧ y = Int32.ofNat q) (K : ∀ r : Int32, Q (some (.int r)) M) : E (h + 1) mdX5_groupOf [.ref x, .int y] M Q := by
  refine KX5_groupOf ?_
  unfold DX5_groupOf_0 DX5_groupOf_14
  refine ⟨fun z => ⟨hO.1.1, a 11, (hO.2.1 11 (by decide) (by decide)).1, (hO.2.1 11 (by decide) (by decide)).2.1, ?_, K _⟩, fun _ => K _⟩
  rcases hy with hy | ⟨q, q1, q2⟩
  · exact absurd hy (Int32.not_lt.mpr z)
  · rw [q2, hO.l48 (by decide) (by decide) (by decide) (by decide)]; exact vp_of q1 (by decide)
theorem ix_mv {t s v : Nat} (ht : t ≤ 5) (hs : s < 48) (hv : v < 2 ^ t) : Int32.ofNat s * Int32.ofNat (2 ^ t) + Int32.ofNat v = Int32.ofNat (s * 2 ^ t + v) ∧ s * 2 ^ t + v < 48 * 2 ^ t ∧ 48 * 2 ^ t ≤ 1536 := by
  obtain ⟨p1, p2⟩ := pw_le ht
  have h1 : s * 2 ^ t + 2 ^ t ≤ 48 * 2 ^ t := by
    have : (s + 1) * 2 ^ t ≤ 48 * 2 ^ t := Nat.mul_le_mul_right _ hs
    rw [Nat.succ_mul] at this
    exact this
  exact ⟨by rw [Int32.ofNat_add, Int32.ofNat_mul], by omega, by omega⟩
theorem S_mvAl {p q : Nat} (hO : ScO M x c t a) (hC : ScC M x t n a) (oc : ok M c 3) (hp : p < 48) (hq : q < 48) (K : ∀ r : Int32, Q (some (.int r)) M) : E (h + 2) mdX5_moveAlike [.ref x, .int (Int32.ofNat p), .int (Int32.ofNat q)] M Q := by
  obtain ⟨⟨ox, e0, e1, t5⟩, hf, -⟩ := id hO
  obtain ⟨p1, p2⟩ := pw_le t5
  have main : ∀ d v, v + d = 2 ^ t → T (h + 2) mdX5_moveAlike 2 [(0, .ref x), (1, .int (Int32.ofNat p)), (2, .int (Int32.ofNat q)), (3, .int (Int32.ofNat v))] [] M Q := by
    intro d
    induction d with
    | zero =>
      intro v hv
      have ev : v = 2 ^ t := hv
      subst ev
      refine VX5_moveAlike_2 (h := h + 1) ?_
      unfold DX5_moveAlike_2
      rw [e1]
      exact ⟨ox, fun _ => ⟨Or.inr rfl, K _⟩, fun z => absurd Int32.le_rfl z⟩
    | succ d ih =>
      intro v hv
      obtain ⟨i1, i2, i3⟩ := ix_mv (s := p) (v := v) t5 hp (by omega)
      obtain ⟨j1, j2, -⟩ := ix_mv (s := q) (v := v) t5 hq (by omega)
      have l1 : (Int32.ofNat (p * 2 ^ t + v)).toNatClampNeg = p * 2 ^ t + v := lt32 (by omega)
      have l2 : (Int32.ofNat (q * 2 ^ t + v)).toNatClampNeg = q * 2 ^ t + v := lt32 (by omega)
      have v1 : ∀ {f : Nat}, f = 9 ∨ f = 10 → vp_in (Int32.ofNat (p * 2 ^ t + v)) (mL M (a f)) := fun hf9 => by rw [hO.lm hf9]; exact vp_of i2 (by omega)
      have v2 : ∀ {f : Nat}, f = 9 ∨ f = 10 → vp_in (Int32.ofNat (q * 2 ^ t + v)) (mL M (a f)) := fun hf9 => by rw [hO.lm hf9]; exact vp_of j2 (by omega)
      refine VX5_moveAlike_2 (h := h + 1) ?_
      unfold DX5_moveAlike_2
      rw [e1, i1, j1, l1, l2, succ32]
      refine ⟨ox, fun z => absurd ((le32 (by omega) (by omega)).mp z) (by omega), fun _ => ⟨a 10, (hf 10 (by decide) (by decide)).1, (hf 10 (by decide) (by decide)).2.1, v1 (Or.inr rfl), a 10, (hf 10 (by decide) (by decide)).1, (hf 10 (by decide) (by decide)).2.1, v2 (Or.inr rfl), c, e0, oc, fun _ => ⟨a 9, (hf 9 (by decide) (by decide)).1, (hf 9 (by decide) (by decide)).2.1, v1 (Or.inl rfl), S_grpOf (h := h) hO (hC.2.2 _ i2) (fun r11 _ => ⟨r11, rfl, a 9, (hf 9 (by decide) (by decide)).1, (hf 9 (by decide) (by decide)).2.1, v2 (Or.inl rfl), S_grpOf (h := h) hO (hC.2.2 _ j2) (fun r15 _ => ⟨r15, rfl, fun _ => ih (v + 1) (by omega), fun _ => ⟨Or.inl rfl, K _⟩⟩)⟩)⟩, fun _ => ⟨Or.inl rfl, K _⟩⟩⟩
  refine KX5_moveAlike (h := h + 1) ?_
  unfold DX5_moveAlike_0
  exact main (2 ^ t) 0 (by omega)
theorem S_lstAl (hO : ScO M x c t a) (hC : ScC M x t n a) (oc : ok M c 3) (hs : s < 48) (K : ∀ r : Int32, Q (some (.int r)) M) : E (h + 3) mdX5_leastAlike [.ref x, .int (Int32.ofNat s)] M Q := by
  obtain ⟨⟨ox, e0, e1, t5⟩, hf, -⟩ := id hO
  have main : ∀ d i, i + d = s → T (h + 3) mdX5_leastAlike 2 [(0, .ref x), (1, .int (Int32.ofNat s)), (2, .int (Int32.ofNat i))] [] M Q := by
    intro d
    induction d with
    | zero =>
      intro i hi
      have e : i = s := hi
      subst e
      refine VX5_leastAlike_2 (h := h + 2) ?_
      unfold DX5_leastAlike_2
      exact ⟨fun _ => K _, fun z => absurd Int32.le_rfl z⟩
    | succ d ih =>
      intro i hi
      have vi : ∀ {f : Nat}, 11 ≤ f → f ≤ 12 → vp_in (Int32.ofNat i) (mL M (a f)) := fun f1 f2 => by rw [hO.l48 (by omega) f2 (by omega) (by omega)]; exact vp_of (by omega) (by decide)
      have vs : ∀ {f : Nat}, 11 ≤ f → f ≤ 12 → vp_in (Int32.ofNat s) (mL M (a f)) := fun f1 f2 => by rw [hO.l48 (by omega) f2 (by omega) (by omega)]; exact vp_of (by omega) (by decide)
      refine VX5_leastAlike_2 (h := h + 2) ?_
      unfold DX5_leastAlike_2 DX5_leastAlike_43
      rw [succ32]
      have nx := ih (i + 1) (by omega)
      exact ⟨fun z => absurd ((le32 (by omega) (by omega)).mp z) (by omega), fun _ => ⟨ox, a 12, (hf 12 (by decide) (by decide)).1, (hf 12 (by decide) (by decide)).2.1, vi (by decide) (by decide), fun _ => nx, fun _ => ⟨a 11, (hf 11 (by decide) (by decide)).1, (hf 11 (by decide) (by decide)).2.1, vi (by decide) (by decide), a 11, (hf 11 (by decide) (by decide)).1, (hf 11 (by decide) (by decide)).2.1, vs (by decide) (by decide), fun _ => nx, fun _ => S_mvAl (h := h) hO hC oc (by omega) hs (fun r _ => ⟨r, rfl, fun _ => nx, fun _ => K _⟩)⟩⟩⟩
  refine KX5_leastAlike (h := h + 2) ?_
  unfold DX5_leastAlike_0
  exact main s 0 (by omega)
theorem S_stpsTo (hO : ScO M x c t a) (hC : ScC M x t n a) (hs : s < 48) (K : ∀ r, r ≤ 48 → Q (some (.int (Int32.ofNat r))) M) : E (h + 1) mdX5_stepsTo [.ref x, .int (Int32.ofNat s)] M Q := by
  obtain ⟨⟨ox, e0, e1, t5⟩, hf, -⟩ := id hO
  have main : ∀ d k s, k + d = 48 → s < 48 → T (h + 1) mdX5_stepsTo 4 [(0, .ref x), (2, .int (Int32.ofNat k)), (3, .int (Int32.ofNat s))] [] M Q := by
    intro d
    induction d with
    | zero =>
      intro k s hk hs
      have e : k = 48 := hk
      subst e
      refine VX5_stepsTo_4 ?_
      unfold DX5_stepsTo_4 DX5_stepsTo_27
      exact ⟨fun _ => K _ (by omega), fun _ => ⟨fun _ => K _ (by omega), fun z => absurd Int32.le_rfl z⟩⟩
    | succ d ih =>
      intro k s hk hs
      refine VX5_stepsTo_4 ?_
      unfold DX5_stepsTo_4 DX5_stepsTo_27
      rw [lt32 (show s < 2147483648 by omega), succ32]
      refine ⟨fun _ => K _ (by omega), fun _ => ⟨fun _ => K _ (by omega), fun z => ⟨ox, a 7, (hf 7 (by decide) (by decide)).1, (hf 7 (by decide) (by decide)).2.1, by rw [hO.l48 (by decide) (by decide) (by decide) (by decide)]; exact vp_of hs (by decide), ?_⟩⟩⟩
      obtain ⟨q, q1, q2⟩ := hC.2.1 s hs
      rw [q2]
      exact ih (k + 1) q (by omega) q1
  refine KX5_stepsTo ?_
  unfold DX5_stepsTo_0
  exact main 48 0 s (by omega) hs
theorem S_stpTo {y : Int32} (hO : ScO M x c t a) (hC : ScC M x t n a) (hs : s < 48) (K : ∀ r : Int32, Q (some (.int r)) M) : E (h + 1) mdX5_stepTo [.ref x, .int (Int32.ofNat s), .int y] M Q := by
  obtain ⟨⟨ox, e0, e1, t5⟩, hf, -⟩ := id hO
  have d31 : ∀ s, s < 48 → DX5_stepTo_31 h x (Int32.ofNat s) M Q := fun s hs => by
    unfold DX5_stepTo_31
    exact ⟨ox, a 8, (hf 8 (by decide) (by decide)).1, (hf 8 (by decide) (by decide)).2.1, by rw [hO.l48 (by decide) (by decide) (by decide) (by decide)]; exact vp_of hs (by decide), K _⟩
  have main : ∀ d k s, k + d = 48 → s < 48 → T (h + 1) mdX5_stepTo 5 [(0, .ref x), (2, .int y), (3, .int (Int32.ofNat s)), (4, .int (Int32.ofNat k))] [] M Q := by
    intro d
    induction d with
    | zero =>
      intro k s hk hs
      have e : k = 48 := hk
      subst e
      refine VX5_stepTo_5 ?_
      unfold DX5_stepTo_5
      exact ⟨fun _ => d31 s hs, fun _ => ⟨fun _ => d31 s hs, fun z => absurd Int32.le_rfl z⟩⟩
    | succ d ih =>
      intro k s hk hs
      refine VX5_stepTo_5 ?_
      unfold DX5_stepTo_5
      rw [lt32 (show s < 2147483648 by omega), succ32]
      refine ⟨fun _ => d31 s hs, fun _ => ⟨fun _ => d31 s hs, fun z => ⟨ox, a 7, (hf 7 (by decide) (by decide)).1, (hf 7 (by decide) (by decide)).2.1, by rw [hO.l48 (by decide) (by decide) (by decide) (by decide)]; exact vp_of hs (by decide), ?_⟩⟩⟩
      obtain ⟨q, q1, q2⟩ := hC.2.1 s hs
      rw [q2]
      exact ih (k + 1) q (by omega) q1
  refine KX5_stepTo ?_
  unfold DX5_stepTo_0
  exact main 48 0 s (by omega) hs
theorem S_fstAg {y z : Int32} (hO : ScO M x c t a) (hC : ScC M x t n a) (K : ∀ r : Int32, Q (some (.int r)) M) : E (h + 1) mdX5_firstAgainst [.ref x, .int y, .int z] M Q := by
  obtain ⟨⟨ox, e0, e1, t5⟩, hf, -⟩ := id hO
  obtain ⟨p1, p2⟩ := pw_le t5
  obtain ⟨c1, c2⟩ := hC.1
  have main : ∀ d s, s + d = n → T (h + 1) mdX5_firstAgainst 2 [(0, .ref x), (1, .int y), (2, .int z), (3, .int (Int32.ofNat s))] [] M Q := by
    intro d
    induction d with
    | zero =>
      intro s hs
      have e : s = n := hs
      subst e
      refine VX5_firstAgainst_2 ?_
      unfold DX5_firstAgainst_2
      rw [c1]
      exact ⟨ox, fun _ => K _, fun z => absurd Int32.le_rfl z⟩
    | succ d ih =>
      intro s hs
      have l13 : ∀ e v, v + e = 2 ^ t → T (h + 1) mdX5_firstAgainst 13 [(0, .ref x), (1, .int y), (2, .int z), (3, .int (Int32.ofNat s)), (4, .int (Int32.ofNat v))] [] M Q := by
        intro e
        induction e with
        | zero =>
          intro v hv
          have ev : v = 2 ^ t := hv
          subst ev
          refine VX5_firstAgainst_13 ?_
          unfold DX5_firstAgainst_13
          rw [e1, succ32]
          exact ⟨ox, fun _ => ih (s + 1) (by omega), fun z => absurd Int32.le_rfl z⟩
        | succ e ihe =>
          intro v hv
          obtain ⟨i1, i2, i3⟩ := ix_mv (s := s) (v := v) t5 (by omega) (by omega)
          refine VX5_firstAgainst_13 ?_
          unfold DX5_firstAgainst_13 DX5_firstAgainst_60
          rw [e1, i1, succ32, succ32]
          have nx := ihe (v + 1) (by omega)
          exact ⟨ox, fun z => absurd ((le32 (by omega) (by omega)).mp z) (by omega), fun _ => ⟨a 10, (hf 10 (by decide) (by decide)).1, (hf 10 (by decide) (by decide)).2.1, by rw [hO.lm (Or.inr rfl)]; exact vp_of i2 (by omega), fun _ => nx, fun _ => ⟨fun _ => nx, fun _ => K _⟩⟩⟩
      refine VX5_firstAgainst_2 ?_
      unfold DX5_firstAgainst_2
      rw [c1]
      exact ⟨ox, fun z => absurd ((le32 (by omega) (by omega)).mp z) (by omega), fun _ => l13 (2 ^ t) 0 (by omega)⟩
  refine KX5_firstAgainst ?_
  unfold DX5_firstAgainst_0
  exact main n 0 (by omega)
end
end
section
/-! the class's Search: reach, groupAlike -/
def rwF (a : Nat → Nat) (r : Nat) : Prop := ∃ f, 5 ≤ f ∧ f ≤ 12 ∧ r = a f
section
variable {M M' M1 : Mem} {x c t n s h : Nat} {a : Nat → Nat} {Q : Option Value → Mem → Prop} {S : Nat → Prop}
theorem pw_1 {t : Nat} (h : t ≤ 5) : (1 : Int32) <<< (Int32.ofNat t &&& 31) = Int32.ofNat (2 ^ t) := by
  have : ∀ t : Fin 6, (1 : Int32) <<< (Int32.ofNat t.val &&& 31) = Int32.ofNat (2 ^ t.val) := by decide
  exact this ⟨t, by omega⟩
theorem nn32 {n : Nat} (h : n ≤ 48) : ¬ Int32.ofNat n < 0 := fun z => by
  have := (ltn32 (a := n) (b := 0) (by omega) (by decide)).mp z
  omega
theorem ScC.k (h : ScC M x t n a) (e3 : mI M' x 3 = mI M x 3) (e7 : mAI M' (a 7) = mAI M (a 7)) (e9 : mAI M' (a 9) = mAI M (a 9)) : ScC M' x t n a := by
  unfold ScC
  rw [e3, e7, e9]
  exact h
theorem ScO.ne (h : ScO M x c t a) {f g : Nat} (f1 : 5 ≤ f) (f2 : f ≤ 12) (g1 : 5 ≤ g) (g2 : g ≤ 12) (hn : f ≠ g) : a f ≠ a g := fun z => hn (h.2.2 f g f1 f2 g1 g2 z)
theorem ScC.nx {k : Nat} {v : Int32} (h : ScC M x t n a) (hO : ScO M x c t a) (hv : v < 0 ∨ ∃ q, q < 48 ∧ v = Int32.ofNat q) (e : M' = wAI M (a 9) k v) : ScC M' x t n a := by
  obtain ⟨c1, c2, c3⟩ := h
  refine ⟨by rw [e]; exact c1, ?_, fun j hj => ?_⟩
  · rw [aiN e (hO.ne (by decide) (by decide) (by decide) (by decide) (by decide))]; exact c2
  · rw [e, mAI_wAI]
    by_cases z : j = k
    · rw [if_pos ⟨rfl, z⟩]; exact hv
    · rw [if_neg (fun y => z y.2)]; exact c3 j hj
theorem S_reach {v w b : Int32} (hO : ScO M x c t a) (hC : ScC M x t n a) (hs : s < 48) (K : ∀ M' n' (r : Int32), GmF x f23 (rwF a) M M' → ScC M' x t n' a → n ≤ n' → (mI M' x 2 = mI M x 2 ∨ mI M' x 2 = 1) → (r < 0 ∨ ∃ q, q < 48 ∧ r = Int32.ofNat q) → Q (some (.int r)) M') : E (h + 1) mdX5_reach [.ref x, .int (Int32.ofNat s), .int v, .int w, .int b] M Q := by
  obtain ⟨⟨ox, e0, e1, t5⟩, hf, hd⟩ := id hO
  obtain ⟨⟨c1, c2⟩, c3, c4⟩ := id hC
  have hEnd : ∀ k (y : Int32), n ≤ k → k ≤ 48 → DX5_reach_12 h x (Int32.ofNat s) v w y (Int32.ofNat k) M Q := by
    intro k y hk hk8
    have ln : (Int32.ofNat n).toNatClampNeg = n := lt32 (by omega)
    unfold DX5_reach_12
    rw [c1]
    refine ⟨ox, fun _ => ⟨fun z => ?_, fun z => ⟨Or.inr rfl, fun M15 e15 => ?_⟩⟩, fun z => absurd ((le32 (by omega) (by omega)).mpr hk) z⟩
    · have nlt : n < 48 := (ltn32 (a := n) (b := 48) (by omega) (by decide)).mp z
      have vn : ∀ {M1 : Mem} {f : Nat}, ScO M1 x c t a → 5 ≤ f → f ≤ 8 → vp_in (Int32.ofNat n) (mL M1 (a f)) := fun hO1 f1 f2 => by rw [hO1.l48 f1 (by omega) (by omega) (by omega)]; exact vp_of nlt (by decide)
      refine ⟨a 5, (hf 5 (by decide) (by decide)).1, (hf 5 (by decide) (by decide)).2.1, vn hO (by decide) (by decide), fun M4 e4 => ?_⟩
      have k4 : GmF x f23 (rwF a) M M4 := GmF.a ⟨5, by decide, by decide, rfl⟩ e4
      have O4 := hO.gm k4 (by decide)
      have i4 : mI M4 x 3 = Int32.ofNat n := by rw [e4]; exact c1
      rw [i4]
      refine ⟨a 6, (O4.2.1 6 (by decide) (by decide)).1, (O4.2.1 6 (by decide) (by decide)).2.1, vn O4 (by decide) (by decide), fun M7 e7 => ?_⟩
      have k7 : GmF x f23 (rwF a) M M7 := k4.tr (GmF.a ⟨6, by decide, by decide, rfl⟩ e7)
      have O7 := hO.gm k7 (by decide)
      have i7 : mI M7 x 3 = Int32.ofNat n := by rw [e7]; exact i4
      rw [i7]
      refine ⟨a 7, (O7.2.1 7 (by decide) (by decide)).1, (O7.2.1 7 (by decide) (by decide)).2.1, vn O7 (by decide) (by decide), fun M10 e10 => ?_⟩
      have k10 : GmF x f23 (rwF a) M M10 := k7.tr (GmF.a ⟨7, by decide, by decide, rfl⟩ e10)
      have O10 := hO.gm k10 (by decide)
      have i10 : mI M10 x 3 = Int32.ofNat n := by rw [e10]; exact i7
      rw [i10]
      refine ⟨a 8, (O10.2.1 8 (by decide) (by decide)).1, (O10.2.1 8 (by decide) (by decide)).2.1, vn O10 (by decide) (by decide), fun M13 e13 M14 e14 => ?_⟩
      have i13 : mI M13 x 3 = Int32.ofNat n := by rw [e13]; exact i10
      rw [i13, succ32] at e14
      have k14 : GmF x f23 (rwF a) M M14 := (k10.tr (GmF.a ⟨8, by decide, by decide, rfl⟩ e13)).tr (GmF.i (Or.inr rfl) e14)
      have i14 : mI M14 x 3 = Int32.ofNat (n + 1) := by rw [e14, mI_wI, if_pos ⟨rfl, rfl⟩]
      have a14 : mAI M14 = mAI M13 := by rw [e14]; rfl
      rw [i14, ← succ32, Int32.add_sub_cancel]
      refine K M14 (n + 1) _ k14 ⟨⟨i14, by omega⟩, fun q hq => ?_, fun j hj => ?_⟩ (by omega) (Or.inl ?_) (Or.inr ⟨n, nlt, rfl⟩)
      · rw [a14, aiN e13 (hO.ne (by decide) (by decide) (by decide) (by decide) (by decide)), e10, mAI_wAI]
        by_cases z : q = n
        · rw [if_pos ⟨rfl, by rw [ln]; exact z⟩]; exact ⟨s, hs, rfl⟩
        · rw [if_neg (fun y => z (by rw [← ln]; exact y.2)), aiN e7 (hO.ne (by decide) (by decide) (by decide) (by decide) (by decide)), aiN e4 (hO.ne (by decide) (by decide) (by decide) (by decide) (by decide))]; exact c3 q hq
      · rw [a14, aiN e13 (hO.ne (by decide) (by decide) (by decide) (by decide) (by decide)), aiN e10 (hO.ne (by decide) (by decide) (by decide) (by decide) (by decide)), aiN e7 (hO.ne (by decide) (by decide) (by decide) (by decide) (by decide)), aiN e4 (hO.ne (by decide) (by decide) (by decide) (by decide) (by decide))]; exact c4 j hj
      · rw [e14, mI_wI, if_neg (fun y => absurd y.2 (by decide)), e13, e10, e7, e4]; rfl
    · refine K M15 n _ (GmF.i (Or.inl rfl) e15) (hC.k ?_ ?_ ?_) (Nat.le_refl _) (Or.inr ?_) (Or.inl (by decide))
      · rw [e15, mI_wI, if_neg (fun y => absurd y.2 (by decide))]
      · rw [e15]; rfl
      · rw [e15]; rfl
      · rw [e15, mI_wI, if_pos ⟨rfl, rfl⟩]
  have main : ∀ d k (y : Int32), k + d = 48 → T (h + 1) mdX5_reach 12 [(0, .ref x), (1, .int (Int32.ofNat s)), (2, .int v), (3, .int w), (5, .int y), (6, .int (Int32.ofNat k))] [] M Q := by
    intro d
    induction d with
    | zero =>
      intro k y hk
      have ek : k = 48 := hk
      exact VX5_reach_12 (hEnd k y (by omega) (by omega))
    | succ d ih =>
      intro k y hk
      by_cases z : n ≤ k
      · exact VX5_reach_12 (hEnd k y z (by omega))
      · have vk : ∀ {f : Nat}, 5 ≤ f → f ≤ 8 → vp_in (Int32.ofNat k) (mL M (a f)) := fun f1 f2 => by rw [hO.l48 f1 (by omega) (by omega) (by omega)]; exact vp_of (by omega) (by decide)
        refine VX5_reach_12 ?_
        unfold DX5_reach_12 DX5_reach_47
        rw [c1, succ32]
        have nx := ih (k + 1) y (by omega)
        exact ⟨ox, fun w => absurd ((le32 (by omega) (by omega)).mp w) z, fun _ => ⟨a 5, (hf 5 (by decide) (by decide)).1, (hf 5 (by decide) (by decide)).2.1, vk (by decide) (by decide), fun _ => nx, fun _ => ⟨a 6, (hf 6 (by decide) (by decide)).1, (hf 6 (by decide) (by decide)).2.1, vk (by decide) (by decide), fun _ => nx, fun _ => K M n _ GmF.rf hC (Nat.le_refl _) (Or.inl rfl) (Or.inr ⟨k, by omega, rfl⟩)⟩⟩⟩
  refine KX5_reach ?_
  unfold DX5_reach_0
  exact ⟨ox, main 47 1 _ (by omega)⟩
theorem S_grpAl (hO : ScO M x c t a) (hC : ScC M x t n a) (oc : ok M c 3) (K : ∀ M', GmF x noP (fun r => r = a 11 ∨ r = a 12) M M' → Q none M') : E (h + 4) mdX5_groupAlike [.ref x] M Q := by
  obtain ⟨c1, c2⟩ := hC.1
  have keep : ∀ M1, GmF x noP (fun r => r = a 11 ∨ r = a 12) M M1 → ScO M1 x c t a ∧ ScC M1 x t n a ∧ ok M1 c 3 := fun M1 k => ⟨hO.gm k (fun z => z), hC.k (k.2.2.2.1 3 (fun z => z)) (k.2.2.2.2 (a 7) (fun z => z.elim (hO.ne (by decide) (by decide) (by decide) (by decide) (by decide)) (hO.ne (by decide) (by decide) (by decide) (by decide) (by decide)))) (k.2.2.2.2 (a 9) (fun z => z.elim (hO.ne (by decide) (by decide) (by decide) (by decide) (by decide)) (hO.ne (by decide) (by decide) (by decide) (by decide) (by decide)))), k.ok oc⟩
  have ln : (Int32.ofNat n).toNatClampNeg = n := lt32 (by omega)
  have l4 : ∀ d r (x1 : Int32) M1, r + d = 49 → GmF x noP (fun r => r = a 11 ∨ r = a 12) M M1 → T (h + 4) mdX5_groupAlike 4 [(0, .ref x), (1, .int x1), (2, .int (Int32.ofNat r))] [] M1 Q := by
    intro d
    induction d with
    | zero =>
      intro r x1 M1 hr k1
      have er : r = 49 := hr
      subst er
      refine VX5_groupAlike_4 (h := h + 3) ?_
      unfold DX5_groupAlike_4 DX5_groupAlike_91
      exact ⟨fun _ => K M1 k1, fun z => absurd (by decide) z⟩
    | succ d ih =>
      intro r x1 M1 hr k1
      have l18 : ∀ e s (x1 : Int32) M2, s + e = n → GmF x noP (fun r => r = a 11 ∨ r = a 12) M M2 → T (h + 4) mdX5_groupAlike 18 [(0, .ref x), (1, .int x1), (2, .int (Int32.ofNat r)), (3, .int (Int32.ofNat s))] [] M2 Q := by
        intro e
        induction e with
        | zero =>
          intro s x1 M2 hs k2
          have es : s = n := hs
          subst es
          obtain ⟨O2, C2, oc2⟩ := keep M2 k2
          refine VX5_groupAlike_18 (h := h + 3) ?_
          unfold DX5_groupAlike_18
          rw [C2.1.1, ln, succ32]
          refine ⟨O2.1.1, fun _ => ⟨a 12, (O2.2.1 12 (by decide) (by decide)).1, a 11, (O2.2.1 11 (by decide) (by decide)).1, (O2.2.1 12 (by decide) (by decide)).2.1, (O2.2.1 11 (by decide) (by decide)).2.1, ⟨by decide, by decide, nn32 c2, ?_, ?_⟩, fun M6 e6 => ih (r + 1) x1 M6 (by omega) (k2.tr (GmF.cpn (Or.inl rfl) e6))⟩, fun z => absurd Int32.le_rfl z⟩
          · rw [O2.l48 (by decide) (by decide) (by decide) (by decide)]; show 0 + s ≤ 48; omega
          · rw [O2.l48 (by decide) (by decide) (by decide) (by decide)]; show 0 + s ≤ 48; omega
        | succ e ihe =>
          intro s x1 M2 hs k2
          obtain ⟨O2, C2, oc2⟩ := keep M2 k2
          have ls : (Int32.ofNat s).toNatClampNeg = s := lt32 (by omega)
          refine VX5_groupAlike_18 (h := h + 3) ?_
          unfold DX5_groupAlike_18 DX5_groupAlike_56 DX5_groupAlike_61
          rw [C2.1.1, succ32, succ32]
          refine ⟨O2.1.1, fun z => absurd ((le32 (by omega) (by omega)).mp z) (by omega), fun _ => ⟨a 12, (O2.2.1 12 (by decide) (by decide)).1, S_lstAl (h := h) O2 C2 oc2 (by omega) (fun r9 _ => ⟨r9, rfl, (O2.2.1 12 (by decide) (by decide)).2.1, by rw [O2.l48 (by decide) (by decide) (by decide) (by decide)]; exact vp_of (by omega) (by decide), fun M11 e11 => ?_⟩)⟩⟩
          have k11 : GmF x noP (fun r => r = a 11 ∨ r = a 12) M M11 := k2.tr (GmF.a (Or.inr rfl) e11)
          obtain ⟨O11, -, -⟩ := keep M11 k11
          have v11 : ∀ {f : Nat}, 11 ≤ f → f ≤ 12 → vp_in (Int32.ofNat s) (mL M11 (a f)) := fun f1 f2 => by rw [O11.l48 (by omega) f2 (by omega) (by omega)]; exact vp_of (by omega) (by decide)
          exact ⟨fun _ => ihe (s + 1) _ M11 (by omega) k11, fun _ => ⟨a 12, (O11.2.1 12 (by decide) (by decide)).1, (O11.2.1 12 (by decide) (by decide)).2.1, v11 (by decide) (by decide), a 11, (O11.2.1 11 (by decide) (by decide)).1, (O11.2.1 11 (by decide) (by decide)).2.1, v11 (by decide) (by decide), fun _ => ihe (s + 1) _ M11 (by omega) k11, fun _ => ihe (s + 1) _ M11 (by omega) k11⟩⟩
      refine VX5_groupAlike_4 (h := h + 3) ?_
      unfold DX5_groupAlike_4 DX5_groupAlike_91
      exact ⟨fun z => absurd ((ltn32 (a := 48) (by decide) (by omega)).mp z) (by omega), fun _ => ⟨fun _ => K M1 k1, fun _ => l18 n 0 0 M1 (by omega) k1⟩⟩
  refine KX5_groupAlike (h := h + 3) ?_
  unfold DX5_groupAlike_0
  exact l4 49 0 1 M (by omega) GmF.rf
end
end
section
/-! the class's Search: workState -/
section
variable {M M' : Mem} {x lc rc ya na sc a3 b3 Sn : Nat} {is : List Int32} {N : Nt} {Y Z : Nat → Int32} {S : Nat → Prop}
theorem CtL.fr (hL : CtL M x lc rc ya na sc a3 b3 Sn is N Y Z) (k : fr S M M') (h1 : ¬ S x) (h2 : ¬ S lc) (h3 : ¬ S rc) (h4 : ¬ S ya) (h5 : ¬ S na) (h6 : ¬ S sc) (h7 : ¬ S a3) (h8 : ok M b3 24 → ¬ S b3) (h0 : ∀ c, c < mN M → S c → mK M c ≠ 0) : CtL M' x lc rc ya na sc a3 b3 Sn is N Y Z := by
  obtain ⟨⟨hC, ⟨a1, a2, a3', a4⟩, ⟨b1, b2, b3', b4⟩, ⟨c1, c2⟩, d, e⟩, ⟨f1, f2, f3, f4, f5, f6⟩, ⟨g1, g2, g3⟩⟩ := hL
  have rx := k.2 x hC.1.1 h1
  have rl := k.2 lc hC.2.2.1.1 h2
  have rr := k.2 rc hC.2.2.2.2.1.1 h3
  have ry := k.2 ya a2.1 h4
  have rn := k.2 na b2.1 h5
  have rs := k.2 sc f2.1 h6
  exact ⟨⟨hC.fr k.1 rx rl rr, ⟨by rw [rx.2.2.1]; exact a1, ok_E a2 k.1, by rw [(k.1.2.2 _ a2.1).2]; exact a3', by rw [(k.1.2.2 _ a2.1).2]; exact a4⟩, ⟨by rw [rx.2.2.1]; exact b1, ok_E b2 k.1, by rw [(k.1.2.2 _ b2.1).2]; exact b3', by rw [(k.1.2.2 _ b2.1).2]; exact b4⟩, ⟨by rw [ry.2.2.2.1]; exact c1, by rw [rn.2.2.2.1]; exact c2⟩, d, e⟩, ⟨by rw [rx.2.2.1]; exact f1, ok_E f2 k.1, by rw [(k.1.2.2 _ f2.1).2]; exact f3, by rw [rs.2.2.2.1]; exact f4, f5, f6⟩, ⟨by rw [rx.2.2.1]; exact g1, ali_fr4 g2 k h7 h8 h0, g3⟩⟩
end
section
variable {M M' : Mem} {n0 n1 lc rc cc pb ib b1 b2 ya0 na0 ya na pz : Nat} {τ : Td} {σ : PS} {Ψ : Wg} {hl : List Int32} {ps : List Nat}
theorem MoM.ar (h : MoM M n0 τ σ Ψ hl lc rc cc pb ib b1 b2 ya na pz ps) (hz : MoZ n0 n1 lc rc cc pb ib b1 b2 ps) (hb : mN M < mBig) (k : ArF (fun c => c = ya ∨ c = na) M M') : MoM M' n0 τ σ Ψ hl lc rc cc pb ib b1 b2 ya na pz ps := by
  obtain ⟨-, -, -, -, -, ⟨⟨hCi, ⟨d1, d2, d3⟩, ⟨d4, d5, d6, d7⟩, -⟩, -⟩, -⟩ := id h
  obtain ⟨⟨k1, k2, k3, k4⟩, ⟨k5, k6, k7, k8, k9⟩, k10⟩ := id k
  have e : mE M M' := k.e
  refine h.mu (ow := fun _ => n0) (S := noP) hz (fun _ _ _ => rfl) (fun a z => z.elim) (fun a z => z.elim) hb ⟨⟨e, fun a _ hn => ⟨by rw [k5], by rw [k6], by rw [k7], k10 a (fun z => hn ?_), by rw [k8], by rw [k9]⟩⟩, ⟨by rw [k5], fun f _ => by rw [k7]⟩, ⟨by rw [k5], fun f _ _ => by rw [k7], by rw [k7]; exact d1, by rw [k7]; exact d4⟩, ⟨fun f _ _ => by rw [k5], by rw [k7]⟩, ⟨ok_E d2 e, ok_E d5 e, by rw [k4]; exact d3, by rw [k4]; exact d6, by rw [k4]; exact d7⟩, Or.inl ⟨rfl, rfl⟩⟩
  rcases z with z | z
  · exact Or.inr (Or.inr (Or.inr (Or.inr (Or.inl z))))
  · exact Or.inr (Or.inr (Or.inr (Or.inr (Or.inr (Or.inl z)))))
theorem MoM.out {S : Nat → Prop} (h : MoM M n0 τ σ Ψ hl lc rc cc pb ib b1 b2 ya na pz ps) (hz : MoZ n0 n1 lc rc cc pb ib b1 b2 ps) (hb : mN M < mBig) (k : fr S M M') (hS : ∀ r, S r → ¬ (n0 ≤ r ∧ r < n1)) (h0 : ∀ r, S r → mK M r ≠ 0) : MoM M' n0 τ σ Ψ hl lc rc cc pb ib b1 b2 ya na pz ps := by
  have how : ∀ a, n0 ≤ a → a < n1 → (fun a => if n0 ≤ a ∧ a < n1 then n0 else n0 + 1) a = n0 := fun a h1 h2 => if_pos ⟨h1, h2⟩
  have hS' : ∀ a, S a → (fun a => if n0 ≤ a ∧ a < n1 then n0 else n0 + 1) a ≠ n0 := fun a z => by
    show (if n0 ≤ a ∧ a < n1 then n0 else n0 + 1) ≠ n0
    rw [if_neg (hS a z)]
    omega
  exact h.mu (ow := fun a => if n0 ≤ a ∧ a < n1 then n0 else n0 + 1) hz how hS' h0 hb (MuF.of h hz how hS' k)
end
section
variable {τ : Td} {m : Nat} {σ : PS} {root : Nat} {γ : Gh} {g0 n0 n1 gw : Nat} {Z0 P : Nat → Nat → Int32} {zp : Int32} {Ψ1 Ψ2 : Wg} {R : RMo} {zn fn y0 q0 : Nat} {lc rc cc pb ib b1 b2 ya0 na0 pz x t n s h : Nat} {hl : List Int32} {ps : List Nat} {a : Nat → Nat} {M : Mem} {Q : Option Value → Mem → Prop}
theorem S_setBl {x lc rc ya na c9 c10 c11 pz l : Nat} {N : Nt} {Y Z : Nat → Int32} {v : Int32} (hL : CrL M x lc rc ya na N Y Z) (hC : CoL N.length Y Z) (hl : l < 32) (hE : CeS M x c9 c10 c11 pz N.length) (K : ∀ r : Int32, Q (some (.int r)) M) : E (h + 3) mdX0_setBehind [.ref x, .int (Int32.ofNat l), .int v] M Q := by
  obtain ⟨⟨a1, a2⟩, ⟨b1, b2, b3, b4⟩, ⟨d1, d2, d3, d4⟩, ⟨e1, e2, e3, e4⟩, -⟩ := hE
  have hl5 := hL.2.2.2.2.2
  exact S_setB (h := h) (l := l) (g := fun p => (mAI M c9 p).toNatClampNeg) (s := fun p => (mAI M c10 p).toNatClampNeg) (k := fun p => (mAI M c11 p).toNatClampNeg) hL hC hl a1 a2 ⟨b1, b2, b3⟩ ⟨d1, d2, d3⟩ ⟨e1, e2, e3⟩ (fun p hp => of_cl hl5 (b4 p hp)) (fun p hp => of_cl hl5 (d4 p hp)) (fun p hp => of_cl hl5 (e4 p hp)) (K _)
/-- what a search may change of what was there -/
def SeF (n0 ya0 na0 x : Nat) (a : Nat → Nat) (r : Nat) : Prop := r = n0 + 8 ∨ r = ya0 ∨ r = na0 ∨ r = x ∨ rwF a r
/-- new rows for the lanes, or none -/
def LnN (ya0 na0 ya na len : Nat) (M M' : Mem) : Prop := (ya = ya0 ∧ na = na0 ∧ mN M' = mN M ∧ mS M' = mS M) ∨ (ya = mN M ∧ na = mN M + 1 ∧ mN M' = mN M + 2 ∧ mS M' = mS M + 2 * len ∧ mL M ya0 < len)
set_option maxHeartbeats 1000000 in
theorem S_wkSt (hW : MdW τ m σ root γ g0 n0 gw Z0 P zp Ψ1 Ψ2) (hT : TwT (woS τ m σ γ) R zn fn y0 root q0) (hR : MdR τ m σ R) (h16 : τ.1.length ≤ 16) (hz : MoZ n0 n1 lc rc cc pb ib b1 b2 ps) (hM : MoM M n0 τ σ Ψ2 hl lc rc cc pb ib b1 b2 ya0 na0 pz ps) (hO : ScO M x n0 t a) (hC : ScC M x t n a) (ht : (inL τ.2.1).length + (ifS σ).length = t) (hs : s < n) (hx : ∀ r, r = x ∨ rwF a r → ¬ (n0 ≤ r ∧ r < n1) ∧ r ≠ ya0 ∧ r ≠ na0) (hbig : mN M + 2 < mBig) (e2 : mI M x 2 = 0) (K : ∀ M' n' ya na, fr (SeF n0 ya0 na0 x a) M M' → MoM M' n0 τ σ Ψ2 hl lc rc cc pb ib b1 b2 ya na pz ps → ScO M' x n0 t a → ScC M' x t n' a → n ≤ n' → (mI M' x 2 = 0 ∨ mI M' x 2 = 1) → Ψ2.1.length ≤ mL M' ya → LnN ya0 na0 ya na Ψ2.1.length M M' → Q none M') : E (h + 5) mdX5_workState [.ref x, .int (Int32.ofNat s)] M Q := by
  obtain ⟨⟨ox, e0, e1, t5⟩, hf, hd⟩ := id hO
  obtain ⟨p1, p2⟩ := pw_le t5
  have n48 := hC.1.2
  have on0 : ok M n0 3 := hM.1.1.1
  have cs := hM.2.2.2.2.2.1
  have oy : ok M ya0 21 := cs.1.2.1.2.1
  have on : ok M na0 21 := cs.1.2.2.1.2.1
  have oxx : ok M (n0 + 8) 2 := cs.1.1.1
  have osm : ok M (n0 + 22) 8 := hM.1.2.1.1.1
  have kne : ∀ {a b p q : Nat}, ok M a p → ok M b q → p ≠ q → a ≠ b := fun {a b p q} o1 o2 hp e => by
    rw [e] at o1
    exact hp (o1.2.symm.trans o2.2)
  have n25 := hz.1
  obtain ⟨l1, l2, l3, l4⟩ := hW.ln
  have ls : (Int32.ofNat s).toNatClampNeg = s := lt32 (by omega)
  have v48 : ∀ {M1 : Mem} {f : Nat}, ScO M1 x n0 t a → 5 ≤ f → f ≤ 8 → vp_in (Int32.ofNat s) (mL M1 (a f)) := fun hO1 f1 f2 => by rw [hO1.l48 f1 (by omega) (by omega) (by omega)]; exact vp_of (by omega) (by decide)
  have fin : ∀ (v0 v1 v2 : Int32), DX5_workState_30 (h + 4) x (Int32.ofNat s) (n0 + 8) (n0 + 8) v0 v1 v2 M Q := by
    intro v0 v1 v2
    unfold DX5_workState_30
    refine ⟨oxx, S_stW (h := h) (R := R) (Is := fun _ => (v0, fun s => if btL v1 s = true then 1 else 0, fun _ => 0, if v2 = 0 then 0 else 1, fun _ => 0)) (ift := fun _ _ => 0) hW hT cs h16 hbig (fun _ => rfl) (fun _ _ _ => rfl) (fun _ => ?_) (fun M2 ya na Y2 Z2 L2 St T2 _ => ⟨rfl, ?_⟩)⟩
    · have e : iFi (v0, fun s => if btL v1 s = true then 1 else 0, fun _ => 0, if v2 = 0 then 0 else 1, fun _ => 0) = if v2 = 0 then 0 else 1 := rfl
      rw [e]
      by_cases z : v2 = 0
      · rw [if_pos z, if_neg (by decide)]
      · rw [if_neg z, if_pos rfl]
    have F2 := St.1
    have ng : LnN ya0 na0 ya na Ψ2.1.length M M2 := St.2.2
    have b2' : mN M2 < mBig := by rcases ng with ⟨-, -, e, -⟩ | ⟨-, -, e, -⟩ <;> omega
    have yl : (ya = ya0 ∧ na = na0) ∨ (mN M ≤ ya ∧ mN M ≤ na ∧ ya ≠ na) := by
      rcases ng with ⟨e, e', -⟩ | ⟨e, e', -⟩
      · exact Or.inl ⟨e, e'⟩
      · exact Or.inr ⟨by omega, by omega, by omega⟩
    have rn0 := F2.2 n0 on0.1 (fun z => by
      rcases z with z | z | z
      · omega
      · exact kne on0 oy (by decide) z
      · exact kne on0 on (by decide) z)
    have rsm := F2.2 (n0 + 22) osm.1 (fun z => by
      rcases z with z | z | z
      · omega
      · exact kne osm oy (by decide) z
      · exact kne osm on (by decide) z)
    have M2' : MoM M2 n0 τ σ Ψ2 hl lc rc cc pb ib b1 b2 ya na pz ps := by
      refine hM.mu (ow := fun _ => n0) (S := noP) hz (fun _ _ _ => rfl) (fun a z => z.elim) (fun a z => z.elim) (by omega) ⟨F2.more (fun a _ z => ?_), ⟨rn0.1, fun f _ => by rw [rn0.2.2.1]⟩, ⟨St.2.1.1, St.2.1.2.2, L2.1.2.1.1, L2.1.2.2.1.1⟩, ⟨fun f _ _ => by rw [rsm.1], rsm.2.2.1⟩, ⟨L2.1.2.1.2.1, L2.1.2.2.1.2.1, L2.1.2.1.2.2.2, L2.1.2.2.1.2.2.2, fun _ => L2.1.2.2.1.2.2.1⟩, yl⟩
      rcases z with z | z | z
      · exact Or.inr (Or.inr (Or.inr (Or.inl z)))
      · exact Or.inr (Or.inr (Or.inr (Or.inr (Or.inl z))))
      · exact Or.inr (Or.inr (Or.inr (Or.inr (Or.inr (Or.inl z)))))
    -- the search's own cells are apart
    have okr : ∀ {r : Nat}, r = x ∨ rwF a r → ∃ q, ok M r q ∧ (q = 7 ∨ q = 21) := fun {r} z => by
      rcases z with z | ⟨f, f1, f2, z⟩
      · exact ⟨7, by rw [z]; exact ox, Or.inl rfl⟩
      · exact ⟨21, by rw [z]; exact (hf f f1 f2).2.1, Or.inr rfl⟩
    have nyr : ∀ {r : Nat}, r = x ∨ rwF a r → r ≠ ya ∧ r ≠ na := fun {r} z => by
      obtain ⟨q, o, -⟩ := okr z
      obtain ⟨-, h1, h2⟩ := hx r z
      have := o.1
      rcases yl with ⟨e, e'⟩ | ⟨e, e', -⟩
      · rw [e, e']; exact ⟨h1, h2⟩
      · omega
    have rS : ∀ {r : Nat}, r = x ∨ rwF a r → sameRow M M2 r := fun {r} z => by
      obtain ⟨q, o, -⟩ := okr z
      obtain ⟨h0, h1, h2⟩ := hx r z
      exact F2.2 r o.1 (fun y => by
        rcases y with y | y | y
        · exact h0 (by omega)
        · exact h1 y
        · exact h2 y)
    have O2 : ScO M2 x n0 t a := by
      have rx := rS (r := x) (Or.inl rfl)
      refine ⟨⟨ok_E ox F2.1, by rw [rx.2.2.1]; exact e0, by rw [rx.1]; exact e1, t5⟩, fun f f1 f2 => ⟨by rw [rx.2.2.1]; exact (hf f f1 f2).1, ok_E (hf f f1 f2).2.1 F2.1, by rw [(F2.1.2.2 _ (hf f f1 f2).2.1.1).2]; exact (hf f f1 f2).2.2⟩, hd⟩
    have C2 : ScC M2 x t n a := hC.k (by rw [(rS (r := x) (Or.inl rfl)).1]) (rS (Or.inr ⟨7, by decide, by decide, rfl⟩)).2.2.2.1 (rS (Or.inr ⟨9, by decide, by decide, rfl⟩)).2.2.2.1
    have b22 : mI M2 x 2 = 0 := by rw [(rS (r := x) (Or.inl rfl)).1]; exact e2
    -- what telling and settling leave alone
    have stA : ∀ {M3 : Mem}, ArF (fun c => c = ya ∨ c = na) M2 M3 → MoM M3 n0 τ σ Ψ2 hl lc rc cc pb ib b1 b2 ya na pz ps ∧ ScO M3 x n0 t a ∧ ScC M3 x t n a ∧ mI M3 x 2 = 0 ∧ mR M3 x = mR M2 x := fun {M3} k => by
      refine ⟨M2'.ar hz b2' k, ⟨⟨ok_E O2.1.1 k.e, by rw [k.2.1.2.2.1]; exact O2.1.2.1, by rw [k.2.1.1]; exact O2.1.2.2.1, t5⟩, fun f f1 f2 => ⟨by rw [k.2.1.2.2.1]; exact (O2.2.1 f f1 f2).1, ok_E (O2.2.1 f f1 f2).2.1 k.e, by rw [k.1.2.2.2]; exact (O2.2.1 f f1 f2).2.2⟩, hd⟩, C2.k (by rw [k.2.1.1]) (k.2.2 _ (fun z => ?_)) (k.2.2 _ (fun z => ?_)), by rw [k.2.1.1]; exact b22, by rw [k.2.1.2.2.1]⟩
      · have := nyr (r := a 7) (Or.inr ⟨7, by decide, by decide, rfl⟩)
        exact z.elim this.1 this.2
      · have := nyr (r := a 9) (Or.inr ⟨9, by decide, by decide, rfl⟩)
        exact z.elim this.1 this.2
    -- MOVE by MOVE
    have l131 : ∀ M3 Y3 Z3, ArF (fun c => c = ya ∨ c = na) M2 M3 → CtL M3 (n0 + 8) lc rc ya na (n0 + 20) (n0 + 15) ib τ.1.length (ifS σ) Ψ2.1 Y3 Z3 → TdV Ψ2.1.length (tbR R Ψ2) Y3 Z3 → DX5_workState_131 (h + 4) x (Int32.ofNat s) (n0 + 8) M3 Q := by
      intro M3 Y3 Z3 k3 L3 V3
      unfold DX5_workState_131
      refine ⟨L3.1.1.1, S_settle (h := h + 1) (hW.nts hT hR cs.2.1 L3.1.1.2.2.2.2.2.2.2.2.1) L3.1 V3.j (fun M4 Y4 Z4 L4 A4 J4 _ _ => ⟨rfl, S_stuck (h := h + 3) L4 (fun r4 _ _ => ⟨r4, rfl, ?_⟩)⟩)⟩
      have L4' : CtL M4 (n0 + 8) lc rc ya na (n0 + 20) (n0 + 15) ib τ.1.length (ifS σ) Ψ2.1 Y4 Z4 := L3.ar A4 L4
      have k4 : ArF (fun c => c = ya ∨ c = na) M2 M4 := k3.tr A4
      obtain ⟨Mo4, O4, C4, b4, -⟩ := stA k4
      have bg4 : mN M4 < mBig := by rw [k4.1.1]; exact b2'
      have k4n : ∀ {r : Nat}, r = x ∨ rwF a r → mK M4 r ≠ 0 := fun {r} z => by
        obtain ⟨q, o, hq⟩ := okr z
        rw [k4.1.2.2.1, (F2.1.2.2 r o.1).1, o.2]
        rcases hq with e | e <;> rw [e] <;> decide
      have FK4 : fr (SeF n0 ya0 na0 x a) M M4 := (F2.more (fun c _ z => by
        rcases z with z | z | z
        · exact Or.inl z
        · exact Or.inr (Or.inl z)
        · exact Or.inr (Or.inr (Or.inl z)))).tr (S1 := fun c => c = ya ∨ c = na) ⟨k4.e, fun c _ hc => ⟨by rw [k4.2.1.1], by rw [k4.2.1.2.1], by rw [k4.2.1.2.2.1], k4.2.2 c hc, by rw [k4.2.1.2.2.2.1], by rw [k4.2.1.2.2.2.2]⟩⟩ (fun c hc z => by
        rcases yl with ⟨e, e'⟩ | ⟨e, e', -⟩
        · rcases z with z | z
          · exact Or.inr (Or.inl (z.trans e))
          · exact Or.inr (Or.inr (Or.inl (z.trans e')))
        · omega)
      have izx : ∀ {r q : Nat}, ok M4 r q → inZ n0 n1 r → ¬ (r = x ∨ rwF a r) := fun {r q} o hi z => by
        rcases hi with hi | hi
        · exact (hx r z).1 hi
        · have := o.1; omega
      have st : ∀ {Mi : Mem}, GmF x f23 (rwF a) M4 Mi → MoM Mi n0 τ σ Ψ2 hl lc rc cc pb ib b1 b2 ya na pz ps ∧ CtL Mi (n0 + 8) lc rc ya na (n0 + 20) (n0 + 15) ib τ.1.length (ifS σ) Ψ2.1 Y4 Z4 ∧ ScO Mi x n0 t a := fun {Mi} k => by
        have i25 : ∀ c, c < 25 → inZ n0 n1 (n0 + c) := fun c hc => Or.inl ⟨by omega, by omega⟩
        refine ⟨Mo4.out hz bg4 k.fr (fun r z => (hx r z).1) (fun r z => k4n z), L4'.fr k.fr (izx L4'.1.1.1 (i25 8 (by decide))) (izx L4'.1.1.2.2.1 hz.2.1) (izx L4'.1.1.2.2.2.2.1 hz.2.2.1) (fun z => (nyr z).1 rfl) (fun z => (nyr z).2 rfl) (izx L4'.2.1.2.1 (i25 20 (by decide))) (izx L4'.2.2.2.1.ok1 (i25 15 (by decide))) (fun o => izx o hz.2.2.2.2.2.1) (fun c _ z => k4n z), O4.gm k (by decide)⟩
      have KK : ∀ Mi ni, GmF x f23 (rwF a) M4 Mi → ScC Mi x t ni a → n ≤ ni → (mI Mi x 2 = 0 ∨ mI Mi x 2 = 1) → Q none Mi := fun Mi ni k hCi hn hb => by
        obtain ⟨Mo, Lo, Oo⟩ := st k
        refine K Mi ni ya na (FK4.tr k.fr (fun c _ z => Or.inr (Or.inr (Or.inr z)))) Mo Oo hCi hn hb Lo.1.2.1.2.2.1 ?_
        unfold LnN
        rw [k.1.1, k.1.2.1, k4.1.1, k4.1.2.1]
        exact ng
      have l143 : ∀ d v Mi ni, v + d = 2 ^ t → GmF x f23 (rwF a) M4 Mi → ScC Mi x t ni a → n ≤ ni → (mI Mi x 2 = 0 ∨ mI Mi x 2 = 1) → T (h + 5) mdX5_workState 143 [(0, .ref x), (1, .int (Int32.ofNat s)), (2, .ref (n0 + 8)), (3, .int r4), (4, .int (Int32.ofNat v))] [] Mi Q := by
        intro d
        induction d with
        | zero =>
          intro v Mi ni hv ki Ci hn hb
          have ev : v = 2 ^ t := hv
          subst ev
          obtain ⟨-, -, Oi⟩ := st ki
          refine VX5_workState_143 (h := h + 4) ?_
          unfold DX5_workState_143 DX5_workState_264
          rw [Oi.1.2.2.1]
          exact ⟨Oi.1.1, fun _ => KK Mi ni ki Ci hn hb, fun z => absurd Int32.le_rfl z⟩
        | succ d ih =>
          intro v Mi ni hv ki Ci hn hb
          obtain ⟨Moi, Li, Oi⟩ := st ki
          have ni48 := Ci.1.2
          obtain ⟨i1, i2, i3⟩ := ix_mv (s := s) (v := v) t5 (by omega) (by omega)
          have l1' : (Int32.ofNat (s * 2 ^ t + v)).toNatClampNeg = s * 2 ^ t + v := lt32 (by omega)
          have vat : ∀ {Mj : Mem} {f : Nat}, ScO Mj x n0 t a → f = 9 ∨ f = 10 → vp_in (Int32.ofNat (s * 2 ^ t + v)) (mL Mj (a f)) := fun hO1 hf9 => by rw [hO1.lm hf9]; exact vp_of i2 (by omega)
          have v32 : v < 32 := by omega
          refine VX5_workState_143 (h := h + 4) ?_
          unfold DX5_workState_143 DX5_workState_264 DX5_workState_258
          rw [Oi.1.2.2.1, i1, l1', succ32]
          refine ⟨Oi.1.1, fun z => absurd ((le32 (by omega) (by omega)).mp z) (by omega), fun _ => ⟨fun _ => KK Mi ni ki Ci hn hb, fun b0 => ⟨fun _ => ?_, fun _ => ⟨a 9, (Oi.2.1 9 (by decide) (by decide)).1, (Oi.2.1 9 (by decide) (by decide)).2.1, vat Oi (Or.inl rfl), fun M21 e21 => ?_⟩⟩⟩⟩
          · refine ⟨a 10, (Oi.2.1 10 (by decide) (by decide)).1, Li.1.1.1, S_shown (h := h + 1) (g := sgT τ.1.length) Li.1 J4.1 v32 Li.2.1.1 Li.2.1.2.1 Li.2.1.2.2.1 (fun q hq => ⟨Li.2.1.2.2.2.1 q hq, ?_⟩) (fun _ => ⟨_, rfl, (Oi.2.1 10 (by decide) (by decide)).2.1, vat Oi (Or.inr rfl), fun M7 e7 => ?_⟩)⟩
            · unfold sgT
              by_cases y : q < τ.1.length
              · rw [if_pos y]; omega
              · rw [if_neg y]; omega
            have k7 : GmF x f23 (rwF a) M4 M7 := ki.tr (GmF.a ⟨10, by decide, by decide, rfl⟩ e7)
            obtain ⟨Mo7, L7, O7⟩ := st k7
            have C7 : ScC M7 x t ni a := Ci.k (by rw [e7]; rfl) (aiN e7 (hO.ne (by decide) (by decide) (by decide) (by decide) (by decide))) (aiN e7 (hO.ne (by decide) (by decide) (by decide) (by decide) (by decide)))
            have b7 : mI M7 x 2 = 0 := by rw [e7]; exact b0
            have ce := Mo7.2.2.2.2.2.2.1
            obtain ⟨q16, q1, q2⟩ := ce.2.2.2.2
            -- a MOVE's lead is written
            have f257 : ∀ (r : Int32) Mj nj, GmF x f23 (rwF a) M4 Mj → ScC Mj x t nj a → n ≤ nj → (mI Mj x 2 = 0 ∨ mI Mj x 2 = 1) → (r < 0 ∨ ∃ q, q < 48 ∧ r = Int32.ofNat q) → DX5_workState_257 (h + 4) x (Int32.ofNat s) (n0 + 8) r4 (Int32.ofNat v) (a 9) (Int32.ofNat (s * 2 ^ t + v)) r Mj Q := by
              intro r Mj nj kj Cj hnj hbj hr
              obtain ⟨-, -, Oj⟩ := st kj
              unfold DX5_workState_257 DX5_workState_258
              rw [succ32]
              refine ⟨(Oj.2.1 9 (by decide) (by decide)).2.1, vat Oj (Or.inl rfl), fun M2' e2' => ?_⟩
              exact ih (v + 1) M2' nj (by omega) (kj.tr (GmF.a ⟨9, by decide, by decide, rfl⟩ e2')) (Cj.nx Oj hr e2') hnj (by rw [e2']; exact hbj)
            rw [q2]
            refine S_isOn (h := h + 2) L7.1 J4.1 q1 v32 (fun _ => ⟨_, rfl, a 9, (O7.2.1 9 (by decide) (by decide)).1, fun _ => ⟨a 5, (O7.2.1 5 (by decide) (by decide)).1, (O7.2.1 5 (by decide) (by decide)).2.1, v48 O7 (by decide) (by decide), S_setBl (h := h + 1) L7.1 J4.1 v32 ce (fun r14 _ => ⟨r14, rfl, a 10, (O7.2.1 10 (by decide) (by decide)).1, (O7.2.1 10 (by decide) (by decide)).2.1, vat O7 (Or.inr rfl), S_reach (h := h + 3) O7 C7 (by omega) (fun M17 n17 r18 k17 C17 hn17 b17 hr18 _ => ⟨r18, rfl, f257 r18 M17 n17 (k7.tr k17) C17 (by omega) (by rw [b7] at b17; exact b17) hr18⟩)⟩)⟩, fun _ => f257 (-1) M7 ni k7 C7 hn (Or.inl b7) (Or.inl (by decide))⟩)
          · exact ih (v + 1) M21 ni (by omega) (ki.tr (GmF.a ⟨9, by decide, by decide, rfl⟩ e21)) (Ci.nx Oi (Or.inl (by decide)) e21) hn (by rw [e21]; exact hb)
      exact l143 (2 ^ t) 0 M4 n (by omega) GmF.rf C4 (Nat.le_refl _) (Or.inl b4)
    -- the ifs
    have l80 : ∀ d i M3 Y3 Z3, i + d = (ifS σ).length → ArF (fun c => c = ya ∨ c = na) M2 M3 → CtL M3 (n0 + 8) lc rc ya na (n0 + 20) (n0 + 15) ib τ.1.length (ifS σ) Ψ2.1 Y3 Z3 → TdV Ψ2.1.length (tbR R Ψ2) Y3 Z3 → T (h + 5) mdX5_workState 80 [(0, .ref x), (1, .int (Int32.ofNat s)), (2, .ref (n0 + 8)), (3, .int (Int32.ofNat i))] [] M3 Q := by
      intro d
      induction d with
      | zero =>
        intro i M3 Y3 Z3 hi k3 L3 V3
        have ei : i = (ifS σ).length := hi
        obtain ⟨Mo3, O3, -, -, -⟩ := stA k3
        refine VX5_workState_80 (h := h + 4) ?_
        unfold DX5_workState_80
        refine ⟨O3.1.1, n0, O3.1.2.1, Mo3.1.1.1, ?_⟩
        rw [Mo3.2.2.2.2.2.2.2.2.2.2.2.2.1, ← ei]
        exact ⟨fun _ => l131 M3 Y3 Z3 k3 L3 V3, fun z => absurd Int32.le_rfl z⟩
      | succ d ih =>
        intro i M3 Y3 Z3 hi k3 L3 V3
        obtain ⟨Mo3, O3, -, -, -⟩ := stA k3
        have e14 := Mo3.2.2.2.2.2.2.2.2.2.2.2.2.1
        have e10 := Mo3.1.1.2.2.2.2
        refine VX5_workState_80 (h := h + 4) ?_
        unfold DX5_workState_80
        rw [succ32]
        refine ⟨O3.1.1, n0, O3.1.2.1, Mo3.1.1.1, ?_⟩
        rw [e14]
        refine ⟨fun z => absurd ((le32 (by omega) (by omega)).mp z) (by omega), fun _ => ⟨n0, O3.1.2.1, Mo3.1.1.1, fun _ => l131 M3 Y3 Z3 k3 L3 V3, fun z => ⟨n0, O3.1.2.1, Mo3.1.1.1, ?_, L3.1.1.1, ?_⟩⟩⟩
        · rw [e10, add32]; exact vp_of (by omega) (by decide)
        · refine S_tfW (h := h) hW L3 V3.1 (by omega) (fun M5 Y5 Z5 q L5 A5 q1 q2 q3 T5 _ => ⟨rfl, ih (i + 1) M5 Y5 Z5 (by omega) (k3.tr A5) L5 (V3.tl T5 ?_)⟩)
          rw [tb_r q3 q2]; rfl
    -- the inputs
    have l35 : ∀ d i M3 Y3 Z3, i + d = (inL τ.2.1).length → ArF (fun c => c = ya ∨ c = na) M2 M3 → CtL M3 (n0 + 8) lc rc ya na (n0 + 20) (n0 + 15) ib τ.1.length (ifS σ) Ψ2.1 Y3 Z3 → TdV Ψ2.1.length (tbR R Ψ2) Y3 Z3 → T (h + 5) mdX5_workState 35 [(0, .ref x), (1, .int (Int32.ofNat s)), (2, .ref (n0 + 8)), (3, .int (Int32.ofNat i))] [] M3 Q := by
      intro d
      induction d with
      | zero =>
        intro i M3 Y3 Z3 hi k3 L3 V3
        have ei : i = (inL τ.2.1).length := hi
        obtain ⟨Mo3, O3, -, -, -⟩ := stA k3
        refine VX5_workState_35 (h := h + 4) ?_
        unfold DX5_workState_35 DX5_workState_78
        refine ⟨O3.1.1, n0, O3.1.2.1, Mo3.1.1.1, ?_⟩
        rw [Mo3.1.1.2.2.2.2, ← ei]
        exact ⟨fun _ => l80 (ifS σ).length 0 M3 Y3 Z3 (by omega) k3 L3 V3, fun z => absurd Int32.le_rfl z⟩
      | succ d ih =>
        intro i M3 Y3 Z3 hi k3 L3 V3
        obtain ⟨Mo3, O3, -, -, -⟩ := stA k3
        have li : (Int32.ofNat i).toNatClampNeg = i := lt32 (by omega)
        obtain ⟨s1, s2, s3, s4⟩ := Mo3.2.2.2.1 i (by omega)
        refine VX5_workState_35 (h := h + 4) ?_
        unfold DX5_workState_35 DX5_workState_78
        rw [succ32, li]
        refine ⟨O3.1.1, n0, O3.1.2.1, Mo3.1.1.1, ?_⟩
        rw [Mo3.1.1.2.2.2.2]
        refine ⟨fun z => absurd ((le32 (by omega) (by omega)).mp z) (by omega), fun _ => ⟨fun _ => l80 (ifS σ).length 0 M3 Y3 Z3 (by omega) k3 L3 V3, fun z => ⟨n0, O3.1.2.1, Mo3.1.1.1, n0 + 4, Mo3.1.1.2.2.2.1, Mo3.1.2.2.2.1, ?_, ?_, L3.1.1.1, ?_⟩⟩⟩
        · rw [Mo3.1.2.2.2.2.1]; exact vp_of (by have := Mo3.1.2.2.2.2.2.1; omega) (by decide)
        · exact vp_of (by omega) (by decide)
        · rw [s4]
          refine S_tiW (h := h + 2) hW h16 L3 V3.1 s2 (fun M5 Y5 Z5 L5 A5 T5 _ => ⟨rfl, ih (i + 1) M5 Y5 Z5 (by omega) (k3.tr A5) L5 (V3.tl T5 ?_)⟩)
          rw [tb_r (hW.sg s2) (by omega), decide_eq_true ((hR.2.2.2.2 s1 s2).mpr s3)]; rfl
    exact l35 (inL τ.2.1).length 0 M2 Y2 Z2 (by omega) ArF.rf L2 T2.v
  refine KX5_workState (h := h + 4) ?_
  unfold DX5_workState_0
  rw [ls]
  exact ⟨ox, n0, e0, on0, n0 + 8, hM.2.2.2.2.1, a 5, (hf 5 (by decide) (by decide)).1, (hf 5 (by decide) (by decide)).2.1, v48 hO (by decide) (by decide), a 6, (hf 6 (by decide) (by decide)).1, (hf 6 (by decide) (by decide)).2.1, v48 hO (by decide) (by decide), fun _ => fin _ _ _, fun _ => fin _ _ _⟩
end
end
section
/-! the class's Search: its constructor, explore -/
def smA (ln : Nat → Nat) : Nat → Nat
  | 0 => 0
  | i + 1 => smA ln i + ln i
/-- i rows of x are made -/
def AcR (x : Nat) (ln : Nat → Nat) (M0 M : Mem) (i : Nat) : Prop := (mN M = mN M0 + i ∧ mS M = mS M0 + smA ln i ∧ fr (fun c => c = x) M0 M ∧ mI M = mI M0) ∧ (∀ j, j < i → mR M x (5 + j) = some (mN M0 + j) ∧ ok M (mN M0 + j) 21 ∧ mL M (mN M0 + j) = ln j ∧ ∀ k, mAI M (mN M0 + j) k = 0) ∧ ∀ f, f < 5 → mR M x f = mR M0 x f
section
variable {M0 M M8 M' : Mem} {x i : Nat} {ln : Nat → Nat}
theorem AcR.rf : AcR x ln M M 0 := ⟨⟨rfl, rfl, fr.rf, rfl⟩, fun j hj => absurd hj (Nat.not_lt_zero _), fun _ _ => rfl⟩
theorem AcR.st {q w : Nat} (h : AcR x ln M0 M i) (hx : x < mN M0) (hw : w = ln i) (eq : q = mN M) (e8 : M8 = nwA M 21 w) (e : M' = wR M8 x (5 + i) (some q)) : AcR x ln M0 M' (i + 1) := by
  obtain ⟨⟨a1, a2, a3, a4⟩, b, d⟩ := h
  have f1 : fr (fun c => c = x) M M8 := by rw [e8]; exact fr_nwA
  have f2 : fr (fun c => c = x) M8 M' := by rw [e]; exact fr_wR rfl
  have f3 := f1.tr f2 (fun _ _ z => z)
  have rr : ∀ f, f ≠ 5 + i → mR M' x f = mR M x f := fun f hf => by
    rw [e, mR_wR, if_neg (fun z => hf z.2), e8]
    exact congrFun (show mR M x = mR M x from rfl) f
  have k8 : mK M8 (mN M) = 21 := by rw [e8]; exact va_up_self _ _ _
  have l8 : mL M8 (mN M) = w := by rw [e8]; exact va_up_self _ _ _
  have z8 : mAI M8 (mN M) = fun _ => 0 := by rw [e8]; exact va_up_self _ _ _
  have n8 : mN M8 = mN M + 1 := by rw [e8]; rfl
  refine ⟨⟨?_, ?_, a3.tr f3 (fun _ _ z => z), ?_⟩, fun j hj => ?_, fun f hf => by rw [rr f (by omega)]; exact d f hf⟩
  · rw [e]; show mN M8 = _; omega
  · rw [e, e8]; show mS M + w = _; rw [a2, hw]; show _ = mS M0 + (smA ln i + ln i); omega
  · rw [e, e8]; exact a4
  · by_cases z : j = i
    · subst z
      rw [← a1]
      refine ⟨by rw [e, mR_wR, if_pos ⟨rfl, rfl⟩, eq], ⟨by rw [e]; show _ < mN M8; omega, by rw [e]; exact k8⟩, by rw [e]; exact l8.trans hw, fun k => by rw [e]; show mAI M8 (mN M) k = 0; rw [z8]⟩
    · obtain ⟨b1, b2, b3, b4⟩ := b j (by omega)
      have r := f3.2 (mN M0 + j) b2.1 (fun y => by omega)
      refine ⟨by rw [rr _ (by omega)]; exact b1, ok_E b2 f3.1, by rw [(f3.1.2.2 _ b2.1).2]; exact b3, fun k => by rw [r.2.2.2.1]; exact b4 k⟩
end
section
variable {M : Mem} {x n0 I F bc h : Nat} {Q : Option Value → Mem → Prop}
/-- a search as it is made -/
theorem S_sini (ox : ok M x 7) (on : ok M n0 3) (e10 : mI M n0 10 = Int32.ofNat I) (e14 : mI M n0 14 = Int32.ofNat F) (hI : I ≤ 4) (hF : F ≤ 100) (e7 : mR M n0 7 = some (n0 + 8)) (oc : ok M (n0 + 8) 2) (e8 : mR M (n0 + 8) 8 = some bc) (ob : ok M bc 21) (lb : mL M bc = 16)
    (K0 : ∀ M', 5 < I + F → fr (fun c => c = x) M M' → ok M' x 7 → mI M' x 2 = 1 → mN M' = mN M + 8 → mS M' ≤ mS M + 3360 → Q none M')
    (K1 : ∀ M' a, I + F ≤ 5 → fr (fun c => c = x) M M' → ScO M' x n0 (I + F) a → (∀ f, 5 ≤ f → f ≤ 12 → mN M ≤ a f ∧ ∀ k, mAI M' (a f) k = 0) → mI M' x 2 = 0 → mN M' = mN M + 8 → mS M' ≤ mS M + 3360 → Q none M') : E (h + 2) mdX5_init [.ref x, .ref n0] M Q := by
  have nx : n0 ≠ x := fun e => by rw [e] at on; exact absurd (on.2.symm.trans ox.2) (by decide)
  have nx8 : n0 + 8 ≠ x := fun e => by rw [e] at oc; exact absurd (oc.2.symm.trans ox.2) (by decide)
  have nbx : bc ≠ x := fun e => by rw [e] at ob; exact absurd (ob.2.symm.trans ox.2) (by decide)
  have d64 : ∀ (w mv : Nat) Ma, (w = 0 ∨ w = 48) → mv ≤ 32 → fr (fun c => c = x) M Ma → mN Ma = mN M → mS Ma = mS M → mI Ma x 1 = Int32.ofNat mv → (∀ M' , AcR x (fun j => if j = 4 ∨ j = 5 then w * mv else w) Ma M' 8 ∨ (∃ v, AcR x (fun j => if j = 4 ∨ j = 5 then w * mv else w) (wI Ma x 4 v) M' 8) → Q none M') → DX5_init_64 (h + 1) x n0 (Int32.ofNat w) Ma Q := by
    intro w mv Ma hw hm fa na sa e1 K
    have w48 : w ≤ 48 := by omega
    have wm : w * mv ≤ 1536 := by
      have := Nat.mul_le_mul w48 hm
      omega
    have lw : (Int32.ofNat w).toNatClampNeg = w := lt32 (by omega)
    have lwm : (Int32.ofNat (w * mv)).toNatClampNeg = w * mv := lt32 (by omega)
    have nw : ¬ Int32.ofNat w < 0 := nn32 w48
    have nwm : ¬ Int32.ofNat (w * mv) < 0 := fun z => by
      have := (ltn32 (a := w * mv) (b := 0) (by omega) (by decide)).mp z
      omega
    have rn := fa.2 n0 on.1 nx
    have rc := fa.2 (n0 + 8) oc.1 nx8
    unfold DX5_init_64
    refine ⟨ok_E on fa.1, n0 + 8, by rw [rn.2.2.1]; exact e7, ok_E oc fa.1, S_befM (h := h) (ok_E oc fa.1) (by rw [rc.2.2.1]; exact e8) (ok_E ob fa.1) (by rw [(fa.1.2.2 _ ob.1).2]; exact lb) (fun r5 _ => ⟨r5, rfl, ok_E ox fa.1, fun M7 e7' => ?_⟩)⟩
    have x7 : x < mN M7 := by rw [e7']; show x < mN Ma; rw [na]; exact ox.1
    have i1 : mI M7 x 1 = Int32.ofNat mv := by rw [e7', mI_wI, if_neg (fun y => absurd y.2 (by decide))]; exact e1
    have s0 : AcR x (fun j => if j = 4 ∨ j = 5 then w * mv else w) M7 M7 0 := AcR.rf
    rw [lw]
    refine ⟨nw, by omega, fun q9 M8 eq9 e8' M10 e10' => ⟨nw, by omega, fun q12 M11 eq12 e11 M13 e13 => ⟨nw, by omega, fun q15 M14 eq15 e14' M16 e16 => ⟨nw, by omega, fun q18 M17 eq18 e17 M19 e19 => ?_⟩⟩⟩⟩
    have s1 := s0.st x7 (w := w) rfl eq9 e8' e10'
    have s2 := s1.st x7 (w := w) rfl eq12 e11 e13
    have s3 := s2.st x7 (w := w) rfl eq15 e14' e16
    have s4 := s3.st x7 (w := w) rfl eq18 e17 e19
    rw [s4.1.2.2.2, i1, mul32, lwm]
    refine ⟨nwm, by omega, fun q21 M20 eq21 e20 M22 e22 => ?_⟩
    have s5 := s4.st x7 (w := w * mv) rfl eq21 e20 e22
    rw [s5.1.2.2.2, i1, mul32, lwm]
    refine ⟨nwm, by omega, fun q24 M23 eq24 e23 M25 e25 => ⟨nw, by omega, fun q27 M26 eq27 e26 M28 e28 => ⟨nw, by omega, fun q30 M29 eq30 e29 M31 e31 => ?_⟩⟩⟩
    have s6 := s5.st x7 (w := w * mv) rfl eq24 e23 e25
    have s7 := s6.st x7 (w := w) rfl eq27 e26 e28
    have s8 := s7.st x7 (w := w) rfl eq30 e29 e31
    exact K M31 (Or.inr ⟨r5, by rw [← e7']; exact s8⟩)
  have base : ∀ (M2 : Mem), M2 = wR M x 0 (some n0) → fr (fun c => c = x) M M2 ∧ mN M2 = mN M ∧ mS M2 = mS M ∧ mR M2 x 0 = some n0 := fun M2 e2 => ⟨by rw [e2]; exact fr_wR rfl, by rw [e2]; rfl, by rw [e2]; rfl, by rw [e2, mR_wR, if_pos ⟨rfl, rfl⟩]⟩
  refine KX5_init (h := h + 1) ?_
  unfold DX5_init_0
  refine ⟨ox, fun M2 e2 => ?_⟩
  obtain ⟨f2, n2, s2, r2⟩ := base M2 e2
  have i2 : mI M2 = mI M := by rw [e2]; rfl
  rw [i2, e10, e14, add32]
  have o2 : ok M2 x 7 := ok_E ox f2.1
  refine ⟨ok_E on f2.1, fun z5 => ?_, fun z5 => ?_⟩
  · have le5 : I + F ≤ 5 := (le32 (a := I + F) (b := 5) (by omega) (by decide)).mp z5
    unfold DX5_init_30 DX5_init_48
    refine ⟨o2, Or.inl rfl, fun M3 e3 => ⟨by rw [e3]; exact o2, fun _ => ⟨by rw [e3]; exact o2, fun M4 e4 => ?_⟩, fun y => absurd (by rw [e3, mI_wI, if_pos ⟨rfl, rfl⟩]) y⟩⟩
    have e3' := e3
    rw [pw_1 le5] at e4
    have o4 : ok M4 x 7 := by rw [e4, e3]; exact o2
    have b4 : mI M4 x 2 = 0 := by rw [e4, mI_wI, if_neg (fun y => absurd y.2 (by decide)), e3, mI_wI, if_pos ⟨rfl, rfl⟩]
    have f4 : fr (fun c => c = x) M M4 := (f2.tr (M2 := M3) (by rw [e3]; exact fr_wI rfl) (fun _ _ z => z)).tr (M2 := M4) (by rw [e4]; exact fr_wI (S := fun c => c = x) rfl) (fun _ _ z => z)
    have r4 : mR M4 x 0 = some n0 := by rw [e4, e3]; exact r2
    obtain ⟨p1, p2⟩ := pw_le le5
    refine ⟨o4, fun _ => ?_, fun y => absurd b4 y⟩
    refine d64 48 (2 ^ (I + F)) M4 (Or.inr rfl) p2 f4 (by rw [e4, e3]; exact n2) (by rw [e4, e3]; exact s2) (by rw [e4, mI_wI, if_pos ⟨rfl, rfl⟩]) (fun M' hA => ?_)
    have main : ∀ Mb, fr (fun c => c = x) M Mb → mN Mb = mN M → mS Mb = mS M → mI Mb x 2 = 0 → mI Mb x 1 = Int32.ofNat (2 ^ (I + F)) → mR Mb x 0 = some n0 → AcR x (fun j => if j = 4 ∨ j = 5 then 48 * 2 ^ (I + F) else 48) Mb M' 8 → Q none M' := by
      intro Mb fb nb sb i2b i1b r0b hA
      obtain ⟨⟨a1, a2, a3, a4⟩, b, d⟩ := hA
      have sm : smA (fun j => if j = 4 ∨ j = 5 then 48 * 2 ^ (I + F) else 48) 8 ≤ 3360 := by
        show 0 + 48 + 48 + 48 + 48 + 48 * 2 ^ (I + F) + 48 * 2 ^ (I + F) + 48 + 48 ≤ 3360
        omega
      refine K1 M' (fun f => mN M + (f - 5)) le5 (fb.tr a3 (fun _ _ z => z)) ⟨⟨ok_E (ok_E ox fb.1) a3.1, by rw [d 0 (by decide)]; exact r0b, by rw [a4]; exact i1b, le5⟩, fun f f1 f2 => ?_, fun f g f1 f2 g1 g2 z => ?_⟩ (fun f f1 f2 => ⟨Nat.le_add_right _ _, ?_⟩) (by rw [a4]; exact i2b) (by rw [a1, nb]) (by rw [a2, sb]; omega)
      · obtain ⟨b1, b2, b3, -⟩ := b (f - 5) (by omega)
        rw [nb, show 5 + (f - 5) = f by omega] at b1
        rw [nb] at b2 b3
        refine ⟨b1, b2, b3.trans ?_⟩
        by_cases y : f = 9 ∨ f = 10
        · rw [if_pos y]; exact if_pos (by omega)
        · rw [if_neg y]; exact if_neg (by omega)
      · have z : mN M + (f - 5) = mN M + (g - 5) := z
        omega
      · have := (b (f - 5) (by omega)).2.2.2
        rw [nb] at this
        exact this
    rcases hA with hA | ⟨v, hA⟩
    · exact main M4 f4 (by rw [e4, e3]; exact n2) (by rw [e4, e3]; exact s2) b4 (by rw [e4, mI_wI, if_pos ⟨rfl, rfl⟩]) r4 hA
    · exact main (wI M4 x 4 v) (f4.tr (fr_wI (S := fun c => c = x) rfl) (fun _ _ z => z)) (by rw [e4, e3]; exact n2) (by rw [e4, e3]; exact s2) (by rw [mI_wI, if_neg (fun y => absurd y.2 (by decide))]; exact b4) (by rw [mI_wI, if_neg (fun y => absurd y.2 (by decide)), e4, mI_wI, if_pos ⟨rfl, rfl⟩]) r4 hA
  · have gt5 : 5 < I + F := by
      rcases Nat.lt_or_ge 5 (I + F) with y | y
      · exact y
      · exact absurd ((le32 (a := I + F) (b := 5) (by omega) (by decide)).mpr y) z5
    unfold DX5_init_30 DX5_init_48
    refine ⟨o2, Or.inr rfl, fun M3 e3 => ⟨by rw [e3]; exact o2, fun y => ?_, fun _ => ⟨by rw [e3]; exact o2, fun M4 e4 => ?_⟩⟩⟩
    · rw [e3, mI_wI, if_pos ⟨rfl, rfl⟩] at y
      exact absurd y (by decide)
    have o4 : ok M4 x 7 := by rw [e4, e3]; exact o2
    have b4 : mI M4 x 2 = 1 := by rw [e4, mI_wI, if_neg (fun y => absurd y.2 (by decide)), e3, mI_wI, if_pos ⟨rfl, rfl⟩]
    have f4 : fr (fun c => c = x) M M4 := (f2.tr (M2 := M3) (by rw [e3]; exact fr_wI rfl) (fun _ _ z => z)).tr (M2 := M4) (by rw [e4]; exact fr_wI (S := fun c => c = x) rfl) (fun _ _ z => z)
    refine ⟨o4, fun y => ?_, fun _ => ?_⟩
    · rw [b4] at y; exact absurd y (by decide)
    refine d64 0 1 M4 (Or.inl rfl) (by decide) f4 (by rw [e4, e3]; exact n2) (by rw [e4, e3]; exact s2) (by rw [e4, mI_wI, if_pos ⟨rfl, rfl⟩]; rfl) (fun M' hA => ?_)
    have main : ∀ Mb, fr (fun c => c = x) M Mb → mN Mb = mN M → mS Mb = mS M → mI Mb x 2 = 1 → AcR x (fun j => if j = 4 ∨ j = 5 then 0 * 1 else 0) Mb M' 8 → Q none M' := by
      intro Mb fb nb sb i2b hA
      obtain ⟨⟨a1, a2, a3, a4⟩, b, d⟩ := hA
      exact K0 M' gt5 (fb.tr a3 (fun _ _ z => z)) (ok_E (ok_E ox fb.1) a3.1) (by rw [a4]; exact i2b) (by rw [a1, nb]) (by rw [a2, sb]; exact Nat.add_le_add_left (show smA (fun j => if j = 4 ∨ j = 5 then 0 * 1 else 0) 8 ≤ 3360 by decide) _)
    rcases hA with hA | ⟨v, hA⟩
    · exact main M4 f4 (by rw [e4, e3]; exact n2) (by rw [e4, e3]; exact s2) b4 hA
    · exact main (wI M4 x 4 v) (f4.tr (fr_wI (S := fun c => c = x) rfl) (fun _ _ z => z)) (by rw [e4, e3]; exact n2) (by rw [e4, e3]; exact s2) (by rw [mI_wI, if_neg (fun y => absurd y.2 (by decide))]; exact b4) hA
end
section
variable {τ : Td} {m : Nat} {σ : PS} {root : Nat} {γ : Gh} {g0 n0 n1 gw : Nat} {Z0 P : Nat → Nat → Int32} {zp : Int32} {Ψ1 Ψ2 : Wg} {R : RMo} {zn fn y0 q0 : Nat} {lc rc cc pb ib b1 b2 ya0 na0 pz x t h : Nat} {hl : List Int32} {ps : List Nat} {a : Nat → Nat} {M : Mem} {Q : Option Value → Mem → Prop}
/-- new rows for the lanes that are then long enough, or none -/
def LnP (ya0 na0 ya na len : Nat) (M M' : Mem) : Prop := (ya = ya0 ∧ na = na0 ∧ mN M' = mN M ∧ mS M' = mS M) ∨ (ya = mN M ∧ na = mN M + 1 ∧ mN M' = mN M + 2 ∧ mS M' = mS M + 2 * len ∧ mL M ya0 < len ∧ len ≤ mL M' ya)
theorem S_expl (hW : MdW τ m σ root γ g0 n0 gw Z0 P zp Ψ1 Ψ2) (hT : TwT (woS τ m σ γ) R zn fn y0 root q0) (hR : MdR τ m σ R) (h16 : τ.1.length ≤ 16) (hz : MoZ n0 n1 lc rc cc pb ib b1 b2 ps) (hM : MoM M n0 τ σ Ψ2 hl lc rc cc pb ib b1 b2 ya0 na0 pz ps) (hO : ScO M x n0 t a) (hC : (∀ s, s < 48 → ∃ q, q < 48 ∧ mAI M (a 7) s = Int32.ofNat q) ∧ ∀ j, j < 48 * 2 ^ t → mAI M (a 9) j < 0 ∨ ∃ q, q < 48 ∧ mAI M (a 9) j = Int32.ofNat q) (ht : (inL τ.2.1).length + (ifS σ).length = t) (hx : ∀ r, r = x ∨ rwF a r → ¬ (n0 ≤ r ∧ r < n1) ∧ r ≠ ya0 ∧ r ≠ na0) (hbig : mN M + 4 < mBig) (e2 : mI M x 2 = 0) (K : ∀ M' n' ya na, fr (SeF n0 ya0 na0 x a) M M' → MoM M' n0 τ σ Ψ2 hl lc rc cc pb ib b1 b2 ya na pz ps → ScO M' x n0 t a → ScC M' x t n' a → 1 ≤ n' → (mI M' x 2 = 0 ∨ mI M' x 2 = 1) → LnP ya0 na0 ya na Ψ2.1.length M M' → Q none M') : E (h + 6) mdX5_explore [.ref x] M Q := by
  have okr : ∀ {r : Nat}, r = x ∨ rwF a r → ok M r 7 ∨ ok M r 21 := fun {r} z => by
    rcases z with z | ⟨f, f1, f2, z⟩
    · exact Or.inl (by rw [z]; exact hO.1.1)
    · exact Or.inr (by rw [z]; exact (hO.2.1 f f1 f2).2.1)
  have d50 : ∀ M1 n1' ya na, fr (SeF n0 ya0 na0 x a) M M1 → MoM M1 n0 τ σ Ψ2 hl lc rc cc pb ib b1 b2 ya na pz ps → ScO M1 x n0 t a → ScC M1 x t n1' a → 1 ≤ n1' → (mI M1 x 2 = 0 ∨ mI M1 x 2 = 1) → LnP ya0 na0 ya na Ψ2.1.length M M1 → DX5_explore_50 (h + 5) x M1 Q := by
    intro M1 n1' ya na k1 Mo1 O1 C1 h1 b1 N1
    have bg : mN M1 < mBig := by rcases N1 with ⟨-, -, e, -⟩ | ⟨-, -, e, -⟩ <;> omega
    unfold DX5_explore_50 DX5_explore_61
    refine ⟨O1.1.1, fun _ => K M1 n1' ya na k1 Mo1 O1 C1 h1 b1 N1, fun _ => S_grpAl (h := h + 1) O1 C1 Mo1.1.1.1 (fun M2 k2 _ => ⟨rfl, ?_⟩)⟩
    have sub : ∀ r, (r = x ∨ (r = a 11 ∨ r = a 12)) → r = x ∨ rwF a r := fun r z => by
      rcases z with z | z | z
      · exact Or.inl z
      · exact Or.inr ⟨11, by decide, by decide, z⟩
      · exact Or.inr ⟨12, by decide, by decide, z⟩
    refine K M2 n1' ya na (k1.tr k2.fr (fun c _ z => Or.inr (Or.inr (Or.inr (sub c z))))) (Mo1.out hz bg k2.fr (fun r z => (hx r (sub r z)).1) (fun r z => ?_)) (O1.gm k2 (fun z => z)) (C1.k (k2.2.2.2.1 3 (fun z => z)) (k2.2.2.2.2 _ (fun z => z.elim (hO.ne (by decide) (by decide) (by decide) (by decide) (by decide)) (hO.ne (by decide) (by decide) (by decide) (by decide) (by decide)))) (k2.2.2.2.2 _ (fun z => z.elim (hO.ne (by decide) (by decide) (by decide) (by decide) (by decide)) (hO.ne (by decide) (by decide) (by decide) (by decide) (by decide))))) h1 (by rw [k2.2.2.2.1 2 (fun z => z)]; exact b1) ?_
    · rcases okr (sub r z) with o | o
      · rw [(ok_E o k1.1).2]; decide
      · rw [(ok_E o k1.1).2]; decide
    · unfold LnP
      rw [k2.1.1, k2.1.2.1, k2.1.2.2.2]
      exact N1
  have l18 : ∀ d s M1 n1' ya na, s + d = 48 → fr (SeF n0 ya0 na0 x a) M M1 → MoM M1 n0 τ σ Ψ2 hl lc rc cc pb ib b1 b2 ya na pz ps → ScO M1 x n0 t a → ScC M1 x t n1' a → 1 ≤ n1' → (mI M1 x 2 = 0 ∨ mI M1 x 2 = 1) → LnP ya0 na0 ya na Ψ2.1.length M M1 → T (h + 6) mdX5_explore 18 [(0, .ref x), (1, .int (Int32.ofNat s))] [] M1 Q := by
    intro d
    induction d with
    | zero =>
      intro s M1 n1' ya na hs k1 Mo1 O1 C1 h1 b1 N1
      have es : s = 48 := hs
      subst es
      refine VX5_explore_18 (h := h + 5) ?_
      unfold DX5_explore_18
      exact ⟨fun _ => d50 M1 n1' ya na k1 Mo1 O1 C1 h1 b1 N1, fun z => absurd Int32.le_rfl z⟩
    | succ d ih =>
      intro s M1 n1' ya na hs k1 Mo1 O1 C1 h1 b1 N1
      refine VX5_explore_18 (h := h + 5) ?_
      unfold DX5_explore_18
      rw [C1.1.1, succ32]
      refine ⟨fun z => absurd ((le32 (a := 48) (by decide) (by omega)).mp z) (by omega), fun _ => ⟨O1.1.1, fun _ => d50 M1 n1' ya na k1 Mo1 O1 C1 h1 b1 N1, fun z => ⟨fun _ => d50 M1 n1' ya na k1 Mo1 O1 C1 h1 b1 N1, fun b0 => ?_⟩⟩⟩
      have sn : s < n1' := by
        rcases Nat.lt_or_ge s n1' with y | y
        · exact y
        · exact absurd ((le32 (by have := C1.1.2; omega) (by omega)).mpr y) z
      have yl : ∀ {r : Nat}, r < mN M → r ≠ ya0 → r ≠ na0 → r ≠ ya ∧ r ≠ na := fun {r} hr h1 h2 => by
        rcases N1 with ⟨e, e', -⟩ | ⟨e, e', -⟩
        · rw [e, e']; exact ⟨h1, h2⟩
        · omega
      have rlt : ∀ {r : Nat}, r = x ∨ rwF a r → r < mN M := fun z => (okr z).elim (fun o => o.1) (fun o => o.1)
      refine S_wkSt (h := h) hW hT hR h16 hz Mo1 O1 C1 ht sn (fun r z => ⟨(hx r z).1, yl (rlt z) (hx r z).2.1 (hx r z).2.2⟩) (by rcases N1 with ⟨-, -, e, -⟩ | ⟨-, -, e, -⟩ <;> omega) b0 (fun M2 n2 ya' na' k2 Mo2 O2 C2 hn2 bb2 ll2 N2 _ => ⟨rfl, ih (s + 1) M2 n2 ya' na' (by omega) (k1.tr k2 (fun c hc z => ?_)) Mo2 O2 C2 (by omega) bb2 ?_⟩)
      · unfold SeF at z ⊢
        rcases N1 with ⟨e, e', -⟩ | ⟨e, e', -⟩
        · rw [e, e'] at z; exact z
        · rcases z with z | z | z | z
          · exact Or.inl z
          · omega
          · omega
          · exact Or.inr (Or.inr (Or.inr z))
      · rcases N1 with ⟨e, e', e3, e4⟩ | ⟨e, e', e3, e4, e5, e6⟩
        · rcases N2 with ⟨q, q', q3, q4⟩ | ⟨q, q', q3, q4, q5⟩
          · exact Or.inl ⟨q.trans e, q'.trans e', q3.trans e3, q4.trans e4⟩
          · refine Or.inr ⟨by omega, by omega, by omega, by omega, ?_, ll2⟩
            rw [e, (k1.1.2.2 ya0 hM.2.2.2.2.2.1.1.2.1.2.1.1).2] at q5
            exact q5
        · rcases N2 with ⟨q, q', q3, q4⟩ | ⟨q, q', q3, q4, q5⟩
          · exact Or.inr ⟨q.trans e, q'.trans e', by omega, by omega, e5, ll2⟩
          · omega
  refine KX5_explore (h := h + 5) ?_
  unfold DX5_explore_0 DX5_explore_13
  refine ⟨hO.1.1, fun _ => ⟨hO.1.1, fun M2 e2' => ?_⟩, fun z => absurd e2 z⟩
  have k2 : GmF x f23 noP M M2 := GmF.i (Or.inr rfl) e2'
  have i3 : mI M2 x 3 = Int32.ofNat 1 := by rw [e2', mI_wI, if_pos ⟨rfl, rfl⟩]; rfl
  have a2 : mAI M2 = mAI M := by rw [e2']; rfl
  refine l18 48 0 M2 1 ya0 na0 (by omega) (k2.fr.more (fun c _ z => z.elim (fun y => Or.inr (Or.inr (Or.inr (Or.inl y)))) (fun y => y.elim))) (hM.out hz (by omega) k2.fr (fun r z => z.elim (fun y => (hx r (Or.inl y)).1) (fun y => y.elim)) (fun r z => z.elim (fun y => by rw [y, hO.1.1.2]; decide) (fun y => y.elim))) (hO.gm k2 (by decide)) ⟨⟨i3, by decide⟩, by rw [a2]; exact hC.1, by rw [a2]; exact hC.2⟩ (Nat.le_refl _) (Or.inl ?_) (Or.inl ⟨rfl, rfl, k2.1.1, k2.1.2.1⟩)
  rw [e2', mI_wI, if_neg (fun y => absurd y.2 (by decide))]; exact e2
/-- a search that is beyond from the first on -/
theorem S_expB (ox : ok M x 7) (e2 : mI M x 2 = 1) (K : ∀ M', GmF x f23 noP M M' → mI M' x 2 = 1 → Q none M') : E (h + 1) mdX5_explore [.ref x] M Q := by
  refine KX5_explore ?_
  unfold DX5_explore_0 DX5_explore_13
  refine ⟨ox, fun z => absurd (e2.symm.trans z) (by decide), fun _ => ⟨ox, fun M2 e2' => ?_⟩⟩
  have k2 : GmF x f23 noP M M2 := GmF.i (Or.inr rfl) e2'
  have i3 : mI M2 x 3 = 0 := by rw [e2', mI_wI, if_pos ⟨rfl, rfl⟩]
  have i2 : mI M2 x 2 = 1 := by rw [e2', mI_wI, if_neg (fun y => absurd y.2 (by decide))]; exact e2
  refine VX5_explore_18 ?_
  unfold DX5_explore_18 DX5_explore_50 DX5_explore_61
  refine ⟨fun z => absurd z (by decide), fun _ => ⟨k2.ok ox, fun _ => ⟨k2.ok ox, fun _ => K M2 k2 i2, fun z => absurd (i2.symm.trans z) (by decide)⟩, fun z => absurd (by rw [i3]; exact Int32.le_rfl) z⟩⟩
end
end
section
/-! what variables begin with -/
/-- numbers that variables begin with -/
def BeO (τ : Td) : Prop := ∀ k, ∃ v : Nat, v < 1000000 ∧ (τ.2.2.2.2.getD k 0 = Int64.ofNat v ∨ τ.2.2.2.2.getD k 0 = -(Int64.ofNat v))
theorem be_app {l : List Int64} {x : Int64} {k : Nat} (h : ∀ k, ∃ v : Nat, v < 1000000 ∧ (l.getD k 0 = Int64.ofNat v ∨ l.getD k 0 = -(Int64.ofNat v))) (hx : ∃ v : Nat, v < 1000000 ∧ (x = Int64.ofNat v ∨ x = -(Int64.ofNat v))) : ∃ v : Nat, v < 1000000 ∧ ((l ++ [x]).getD k 0 = Int64.ofNat v ∨ (l ++ [x]).getD k 0 = -(Int64.ofNat v)) := by
  rcases Nat.lt_trichotomy k l.length with q | q | q
  · rw [show (l ++ [x]).getD k 0 = l.getD k 0 from by rw [List.getD_eq_getElem?_getD, List.getD_eq_getElem?_getD, List.getElem?_append_left q]]
    exact h k
  · rw [show (l ++ [x]).getD k 0 = x from by rw [q, List.getD_eq_getElem?_getD, List.getElem?_append_right (Nat.le_refl _), Nat.sub_self]; rfl]
    exact hx
  · refine ⟨0, by decide, Or.inl ?_⟩
    rw [List.getD_eq_getElem?_getD, List.getElem?_eq_none (by rw [List.length_append]; show l.length + 1 ≤ k; omega)]
    rfl
theorem tc_num {b : Nat → Int32} {n i : Nat} (hB : By b) (k : tK b n i = 3) : ∃ v, v < 1000000 ∧ tC b n i = Int64.ofNat v := by
  obtain ⟨-, -, v, v1, v2, -⟩ := num_val2 (p := tP b n i) hB k
  exact ⟨v, v1, v2⟩
theorem td_be {b : Nat → Int32} {n : Nat} (hB : By b) : ∀ (g i : Nat) (τ : Td) (r : Nat × Td), BeO τ → td b n g i τ = .ok r → BeO r.2 := by
  intro g
  induction g with
  | zero => intro i τ r _ h; unfold td at h; cases h
  | succ g ih =>
    intro i τ r hM h
    unfold td at h
    by_cases k1 : tK b n i = 36
    · rw [if_pos k1] at h
      obtain ⟨j, -, h⟩ := bind_ok h
      obtain ⟨k, -, h⟩ := bind_ok h
      obtain ⟨q, hq, h⟩ := bind_ok h
      obtain ⟨l, -, h⟩ := bind_ok h
      refine ih _ _ _ ?_ h
      intro x
      refine be_app (l := τ.2.2.2.2) hM ?_
      unfold tdV at hq
      obtain ⟨p, -, hq⟩ := bind_ok hq
      by_cases k3 : tK b n p = 21
      · rw [if_pos k3] at hq
        obtain ⟨y, -, hq⟩ := bind_ok hq
        by_cases k4 : tK b n y = 3
        · rw [if_pos k4] at hq
          obtain ⟨w, -, hq⟩ := bind_ok hq
          cases hq
          obtain ⟨v, v1, v2⟩ := tc_num hB k4
          exact ⟨v, v1, Or.inr (by rw [v2])⟩
        · rw [if_neg k4] at hq; cases hq
      · rw [if_neg k3] at hq
        by_cases k4 : tK b n p = 3
        · rw [if_pos k4] at hq
          obtain ⟨w, -, hq⟩ := bind_ok hq
          cases hq
          obtain ⟨v, v1, v2⟩ := tc_num hB k4
          exact ⟨v, v1, Or.inl v2⟩
        · rw [if_neg k4] at hq; cases hq
    rw [if_neg k1] at h
    by_cases k2 : tK b n i = 30 ∨ tK b n i = 31 ∨ tK b n i = 32
    · rw [if_pos k2] at h
      obtain ⟨j, -, h⟩ := bind_ok h
      obtain ⟨k, -, h⟩ := bind_ok h
      obtain ⟨q, -, h⟩ := bind_ok h
      obtain ⟨l, -, h⟩ := bind_ok h
      refine ih _ _ _ ?_ h
      exact fun k => hM k
    · rw [if_neg k2] at h
      cases h
      exact hM
theorem rdm_be {b : Nat → Int32} {n m : Nat} {A : Nat → Nat → Int32} {B : Nat → Int64} {Zt : Nat → Nat → Int32} {r : Nat × Td × PS × Nat} (hB : By b) (e : rdM b n m A B Zt = .ok r) : BeO r.2.1 := by
  unfold rdM at e
  by_cases k0 : tK b n 0 = 0
  · rw [if_pos k0] at e; cases e
  · rw [if_neg k0] at e
    obtain ⟨q, hq, e⟩ := bind_ok e
    obtain ⟨w, -, e⟩ := bind_ok e
    cases e
    exact td_be hB 900 0 td0 q (fun k => ⟨0, by decide, Or.inl (by cases k <;> rfl)⟩) hq
/-- such a number is one that may be told -/
theorem BeO.inG {τ : Td} (h : BeO τ) (k : Nat) : InG ((τ.2.2.2.2.getD k 0).toInt32).toInt64 := by
  obtain ⟨v, v1, v2 | v2⟩ := h k
  · rw [v2]; exact (InG.n v1).cut
  · rw [v2]; exact (InG.n v1).neg.cut
end
section
/-! searches in the middle: the STATES that a module can come to, and which are alike -/
/-- what a MOVE comes to: nothing, where wires stay unknown; else what is shown, whether it ends, the pauses set behind it -/
abbrev OcT : Type := Option (Int32 × Bool × Int32)
/-- from pauses set, signals before, first or not, MOVE -/
abbrev CoT : Type := Int32 → Int32 → Bool → Nat → OcT → Prop
/-- STATES: pauses set, signals before, whence, by which MOVE; leads; shows -/
abbrev SqT : Type := Int32 × Int32 × Nat × Nat
abbrev XsT : Type := List SqT × (Nat → Nat → Int32) × (Nat → Nat → Int32)
def sq0 : SqT := (0, 0, 0, 0)
def xs00 : XsT := ([sq0], fun _ _ => 0, fun _ _ => 0)
def stX (X : XsT) (s : Nat) : SqT := X.1.getD s sq0
/-- the first STATE from k on with these pauses and signals -/
def fnX (L : List SqT) (p b : Int32) : Nat → Nat → Option Nat
  | 0, _ => none
  | d + 1, k => if (L.getD k sq0).1 = p ∧ (L.getD k sq0).2.1 = b then some k else fnX L p b d (k + 1)
def fdX (L : List SqT) (p b : Int32) : Option Nat := fnX L p b (L.length - 1) 1
def pt2 (f : Nat → Nat → Int32) (s v : Nat) (x : Int32) : Nat → Nat → Int32 := fun a b => if a = s ∧ b = v then x else f a b
/-- a MOVE that goes on: to a STATE that is known, to a new one, or beyond -/
def stpG (X : XsT) (s v : Nat) (w b p : Int32) : Option Nat → XsT × Bool
  | some q => ((X.1, pt2 X.2.1 s v (Int32.ofNat q), pt2 X.2.2 s v w), false)
  | none => if X.1.length < 48 then ((X.1 ++ [(p, b, s, v)], pt2 X.2.1 s v (Int32.ofNat X.1.length), pt2 X.2.2 s v w), false) else (X, true)
/-- one MOVE; true: beyond -/
def stpX (ask : Int32) (X : XsT) (s v : Nat) : OcT → XsT × Bool
  | none => ((X.1, pt2 X.2.1 s v (-2), pt2 X.2.2 s v 0), false)
  | some (w, true, _) => ((X.1, pt2 X.2.1 s v (-1), pt2 X.2.2 s v w), false)
  | some (w, false, p) => stpG X s v w (w &&& ask) p (fdX X.1 p (w &&& ask))
section
variable {ask w p : Int32} {X : XsT} {s v q : Nat}
theorem stp_f (h : fdX X.1 p (w &&& ask) = some q) : stpX ask X s v (some (w, false, p)) = ((X.1, pt2 X.2.1 s v (Int32.ofNat q), pt2 X.2.2 s v w), false) := by
  show stpG X s v w (w &&& ask) p (fdX X.1 p (w &&& ask)) = _
  rw [h]
  rfl
theorem stp_g (h : fdX X.1 p (w &&& ask) = none) (l : X.1.length < 48) : stpX ask X s v (some (w, false, p)) = ((X.1 ++ [(p, w &&& ask, s, v)], pt2 X.2.1 s v (Int32.ofNat X.1.length), pt2 X.2.2 s v w), false) := by
  show stpG X s v w (w &&& ask) p (fdX X.1 p (w &&& ask)) = _
  rw [h]
  exact if_pos l
theorem stp_b (h : fdX X.1 p (w &&& ask) = none) (l : ¬ X.1.length < 48) : stpX ask X s v (some (w, false, p)) = (X, true) := by
  show stpG X s v w (w &&& ask) p (fdX X.1 p (w &&& ask)) = _
  rw [h]
  exact if_neg l
end
/-- behind k MOVES -/
def RnX (C : CoT) (ask : Int32) (t : Nat) : Nat → XsT → Bool → Prop
  | 0, X, b => X = xs00 ∧ b = false
  | k + 1, X', b' => ∃ X o, RnX C ask t k X false ∧ k / 2 ^ t < X.1.length ∧ C (stX X (k / 2 ^ t)).1 (stX X (k / 2 ^ t)).2.1 (decide (k / 2 ^ t = 0)) (k % 2 ^ t) o ∧ (X', b') = stpX ask X (k / 2 ^ t) (k % 2 ^ t) o
def UqC (C : CoT) : Prop := ∀ p b f v o o', C p b f v o → C p b f v o' → o = o'
/-- the search is over -/
def FnX (C : CoT) (ask : Int32) (t : Nat) (X : XsT) (b : Bool) : Prop := ∃ k, RnX C ask t k X b ∧ (b = true ∨ k = X.1.length * 2 ^ t)
section
variable {C : CoT} {ask : Int32} {t : Nat} {L : List SqT} {p b : Int32}
theorem fnX_s : ∀ (d k q : Nat), fnX L p b d k = some q → k ≤ q ∧ q < k + d ∧ (L.getD q sq0).1 = p ∧ (L.getD q sq0).2.1 = b ∧ ∀ r, k ≤ r → r < q → ¬ ((L.getD r sq0).1 = p ∧ (L.getD r sq0).2.1 = b)
  | 0, _, _, e => by cases e
  | d + 1, k, q, e => by
    unfold fnX at e
    by_cases z : (L.getD k sq0).1 = p ∧ (L.getD k sq0).2.1 = b
    · rw [if_pos z] at e
      cases e
      exact ⟨Nat.le_refl _, by omega, z.1, z.2, fun r h1 h2 => by omega⟩
    · rw [if_neg z] at e
      obtain ⟨a1, a2, a3, a4, a5⟩ := fnX_s d (k + 1) q e
      refine ⟨by omega, by omega, a3, a4, fun r h1 h2 => ?_⟩
      by_cases y : r = k
      · rw [y]; exact z
      · exact a5 r (by omega) h2
theorem fnX_n : ∀ (d k : Nat), fnX L p b d k = none → ∀ r, k ≤ r → r < k + d → ¬ ((L.getD r sq0).1 = p ∧ (L.getD r sq0).2.1 = b)
  | 0, _, _, r, h1, h2 => by omega
  | d + 1, k, e, r, h1, h2 => by
    unfold fnX at e
    by_cases z : (L.getD k sq0).1 = p ∧ (L.getD k sq0).2.1 = b
    · rw [if_pos z] at e; cases e
    · rw [if_neg z] at e
      by_cases y : r = k
      · rw [y]; exact z
      · exact fnX_n d (k + 1) e r (by omega) (by omega)
/-- found, told by what is found -/
theorem fdX_of {q : Nat} (q1 : 1 ≤ q) (q2 : q < L.length) (e1 : (L.getD q sq0).1 = p) (e2 : (L.getD q sq0).2.1 = b) (hn : ∀ r, 1 ≤ r → r < q → ¬ ((L.getD r sq0).1 = p ∧ (L.getD r sq0).2.1 = b)) : fdX L p b = some q := by
  cases e : fdX L p b with
  | none => exact absurd ⟨e1, e2⟩ (fnX_n _ _ e q q1 (by omega))
  | some r =>
    obtain ⟨a1, a2, a3, a4, a5⟩ := fnX_s _ _ _ e
    rcases Nat.lt_trichotomy q r with z | z | z
    · exact absurd ⟨e1, e2⟩ (a5 q q1 z)
    · rw [z]
    · exact absurd ⟨a3, a4⟩ (hn r a1 z)
theorem fdX_no (hn : ∀ r, 1 ≤ r → r < L.length → ¬ ((L.getD r sq0).1 = p ∧ (L.getD r sq0).2.1 = b)) : fdX L p b = none := by
  cases e : fdX L p b with
  | none => rfl
  | some r =>
    obtain ⟨a1, a2, a3, a4, -⟩ := fnX_s _ _ _ e
    exact absurd ⟨a3, a4⟩ (hn r a1 (by omega))
theorem RnX.uq (hC : UqC C) : ∀ (k : Nat) (X Y : XsT) (a b : Bool), RnX C ask t k X a → RnX C ask t k Y b → X = Y ∧ a = b
  | 0, X, Y, a, b, h1, h2 => ⟨h1.1.trans h2.1.symm, h1.2.trans h2.2.symm⟩
  | k + 1, X, Y, a, b, ⟨X1, o1, r1, l1, c1, e1⟩, ⟨X2, o2, r2, l2, c2, e2⟩ => by
    obtain ⟨e, -⟩ := RnX.uq hC k X1 X2 false false r1 r2
    subst e
    have eo := hC _ _ _ _ _ _ c1 c2
    subst eo
    have e := e1.trans e2.symm
    exact ⟨congrArg Prod.fst e, congrArg Prod.snd e⟩
/-- a run of more MOVES goes through the shorter one -/
theorem RnX.sh : ∀ (d k : Nat) (X : XsT) (b : Bool), RnX C ask t (k + (d + 1)) X b → ∃ Y, RnX C ask t k Y false ∧ k / 2 ^ t < Y.1.length
  | 0, k, X, b, ⟨Y, o, r, l, _⟩ => ⟨Y, r, l⟩
  | d + 1, k, X, b, ⟨Y, o, r, _⟩ => RnX.sh d k Y false r
theorem FnX.uq (hC : UqC C) {X Y : XsT} {a b : Bool} (h1 : FnX C ask t X a) (h2 : FnX C ask t Y b) : X = Y ∧ a = b := by
  obtain ⟨k, r1, f1⟩ := h1
  obtain ⟨l, r2, f2⟩ := h2
  have tp : 0 < 2 ^ t := Nat.two_pow_pos t
  have no : ∀ {k l : Nat} {X Y : XsT} {a b : Bool}, RnX C ask t k X a → (a = true ∨ k = X.1.length * 2 ^ t) → RnX C ask t l Y b → k < l → False := by
    intro k l X Y a b r1 f1 r2 hl
    obtain ⟨d, rfl⟩ : ∃ d, l = k + (d + 1) := ⟨l - k - 1, by omega⟩
    obtain ⟨Z, r3, l3⟩ := RnX.sh d k Y b r2
    obtain ⟨e, ea⟩ := RnX.uq hC k X Z a false r1 r3
    subst e
    rcases f1 with f | f
    · rw [f] at ea; cases ea
    · rw [f, Nat.mul_div_cancel _ tp] at l3
      omega
  rcases Nat.lt_trichotomy k l with z | z | z
  · exact (no r1 f1 r2 z).elim
  · subst z; exact RnX.uq hC k X Y a b r1 r2
  · exact (no r2 f2 r1 z).elim
/-- leads are STATES that are there, or none; a STATE but the first comes from an earlier one -/
def OkX (t : Nat) (X : XsT) : Prop := (1 ≤ X.1.length ∧ X.1.length ≤ 48) ∧ (∀ s v, X.2.1 s v = -1 ∨ X.2.1 s v = -2 ∨ ∃ q, q < X.1.length ∧ X.2.1 s v = Int32.ofNat q) ∧ ∀ s, 1 ≤ s → s < X.1.length → (stX X s).2.2.1 < s ∧ (stX X s).2.2.2 < 2 ^ t
theorem OkX.s0 : OkX t xs00 := ⟨⟨by decide, by decide⟩, fun _ _ => Or.inr (Or.inr ⟨0, by decide, rfl⟩), fun s h1 h2 => by have h2 : s < 1 := h2; omega⟩
theorem pt2_o {f : Nat → Nat → Int32} {s v n : Nat} {x : Int32} (h : ∀ s v, f s v = -1 ∨ f s v = -2 ∨ ∃ q, q < n ∧ f s v = Int32.ofNat q) (hx : x = -1 ∨ x = -2 ∨ ∃ q, q < n ∧ x = Int32.ofNat q) : ∀ a b, pt2 f s v x a b = -1 ∨ pt2 f s v x a b = -2 ∨ ∃ q, q < n ∧ pt2 f s v x a b = Int32.ofNat q := by
  intro a b
  unfold pt2
  by_cases z : a = s ∧ b = v
  · rw [if_pos z]; exact hx
  · rw [if_neg z]; exact h a b
theorem OkX.st {X : XsT} {s v : Nat} (h : OkX t X) (hs : s < X.1.length) (hv : v < 2 ^ t) (o : OcT) : OkX t (stpX ask X s v o).1 := by
  obtain ⟨⟨a1, a2⟩, b, c⟩ := h
  rcases o with _ | ⟨w, e, p⟩
  · exact ⟨⟨a1, a2⟩, pt2_o b (Or.inr (Or.inl rfl)), c⟩
  cases e with
  | true => exact ⟨⟨a1, a2⟩, pt2_o b (Or.inl rfl), c⟩
  | false =>
    cases ef : fdX X.1 p (w &&& ask) with
    | some q =>
      obtain ⟨q1, q2, -⟩ := fnX_s _ _ _ ef
      have q3 : q < X.1.length := by omega
      rw [stp_f ef]
      exact ⟨⟨a1, a2⟩, pt2_o b (Or.inr (Or.inr ⟨q, q3, rfl⟩)), c⟩
    | none =>
      by_cases z : X.1.length < 48
      · rw [stp_g ef z]
        have ln : (X.1 ++ [(p, w &&& ask, s, v)]).length = X.1.length + 1 := by rw [List.length_append]; rfl
        refine ⟨⟨by show 1 ≤ (X.1 ++ [(p, w &&& ask, s, v)]).length; omega, by show (X.1 ++ [(p, w &&& ask, s, v)]).length ≤ 48; omega⟩, ?_, fun r r1 r2 => ?_⟩
        · show ∀ a b, pt2 X.2.1 s v (Int32.ofNat X.1.length) a b = -1 ∨ pt2 X.2.1 s v (Int32.ofNat X.1.length) a b = -2 ∨ ∃ q, q < (X.1 ++ [(p, w &&& ask, s, v)]).length ∧ pt2 X.2.1 s v (Int32.ofNat X.1.length) a b = Int32.ofNat q
          rw [ln]
          refine pt2_o (fun a d => ?_) (Or.inr (Or.inr ⟨X.1.length, by omega, rfl⟩))
          rcases b a d with y | y | ⟨q, q1, q2⟩
          · exact Or.inl y
          · exact Or.inr (Or.inl y)
          · exact Or.inr (Or.inr ⟨q, by omega, q2⟩)
        · have r2 : r < (X.1 ++ [(p, w &&& ask, s, v)]).length := r2
          show ((X.1 ++ [(p, w &&& ask, s, v)]).getD r sq0).2.2.1 < r ∧ ((X.1 ++ [(p, w &&& ask, s, v)]).getD r sq0).2.2.2 < 2 ^ t
          by_cases y : r < X.1.length
          · have := c r r1 y
            unfold stX at this
            rw [List.getD_eq_getElem?_getD, List.getElem?_append_left y, ← List.getD_eq_getElem?_getD]
            exact this
          · have er : r = X.1.length := by omega
            rw [er, List.getD_eq_getElem?_getD, List.getElem?_append_right (Nat.le_refl _), Nat.sub_self]
            exact ⟨hs, hv⟩
      · rw [stp_b ef z]
        exact ⟨⟨a1, a2⟩, b, c⟩
theorem RnX.ok : ∀ (k : Nat) (X : XsT) (b : Bool), RnX C ask t k X b → OkX t X
  | 0, X, b, h => by rw [h.1]; exact OkX.s0
  | k + 1, X, b, ⟨Y, o, r, l, _, e⟩ => by
    have h := RnX.ok k Y false r
    have e1 : X = (stpX ask Y (k / 2 ^ t) (k % 2 ^ t) o).1 := congrArg Prod.fst e
    rw [e1]
    exact h.st l (Nat.mod_lt _ (Nat.two_pow_pos t)) o
end
/-! classes -/
section
variable {X : XsT} {o : Int32} {t n : Nat} {G H G' H' : Nat → Nat}
/-- where a lead goes, by classes -/
def gO (G : Nat → Nat) (d : Int32) : Int32 := if d < 0 then d else Int32.ofNat (G d.toNatClampNeg)
def alK (X : XsT) (o : Int32) (t : Nat) (G : Nat → Nat) (a b : Nat) : Prop := G a = G b ∧ ∀ v, v < 2 ^ t → gO G (X.2.1 a v) = gO G (X.2.1 b v) ∧ X.2.2 a v &&& o = X.2.2 b v &&& o
theorem alK.rf {a : Nat} : alK X o t G a a := ⟨rfl, fun _ _ => ⟨rfl, rfl⟩⟩
theorem alK.sy {a b : Nat} (h : alK X o t G a b) : alK X o t G b a := ⟨h.1.symm, fun v hv => ⟨(h.2 v hv).1.symm, (h.2 v hv).2.symm⟩⟩
theorem alK.tr {a b c : Nat} (h : alK X o t G a b) (k : alK X o t G b c) : alK X o t G a c := ⟨h.1.trans k.1, fun v hv => ⟨(h.2 v hv).1.trans (k.2 v hv).1, (h.2 v hv).2.trans (k.2 v hv).2⟩⟩
/-- classes parted once -/
def Nx1 (X : XsT) (o : Int32) (t n : Nat) (G G' : Nat → Nat) : Prop := ∀ s, s < n → G' s ≤ s ∧ alK X o t G (G' s) s ∧ ∀ c, c < G' s → ¬ alK X o t G c s
def GRn (X : XsT) (o : Int32) (t n : Nat) : Nat → (Nat → Nat) → Prop
  | 0, G => ∀ s, s < n → G s = 0
  | r + 1, G' => ∃ G, GRn X o t n r G ∧ Nx1 X o t n G G'
/-- parted until nothing parts -/
def GFn (X : XsT) (o : Int32) (t n : Nat) (G : Nat → Nat) : Prop := ∃ r, GRn X o t n r G ∧ Nx1 X o t n G G
theorem alK.cg (hX : OkX t X) (hn : n = X.1.length) (e : ∀ s, s < n → G s = H s) {a b : Nat} (ha : a < n) (hb : b < n) (h : alK X o t G a b) : alK X o t H a b := by
  have g : ∀ s v, gO G (X.2.1 s v) = gO H (X.2.1 s v) := fun s v => by
    unfold gO
    rcases hX.2.1 s v with z | z | ⟨q, q1, q2⟩
    · rw [z, if_pos (by decide), if_pos (by decide)]
    · rw [z, if_pos (by decide), if_pos (by decide)]
    · have q48 := hX.1.2
      rw [q2, lt32 (by omega), e q (by omega)]
  exact ⟨by rw [← e a ha, ← e b hb]; exact h.1, fun v hv => ⟨by rw [← g, ← g]; exact (h.2 v hv).1, (h.2 v hv).2⟩⟩
theorem Nx1.cg (hX : OkX t X) (hn : n = X.1.length) (e : ∀ s, s < n → G s = H s) (h : Nx1 X o t n G G') (h2 : Nx1 X o t n H H') : ∀ s, s < n → G' s = H' s := by
  intro s hs
  obtain ⟨a1, a2, a3⟩ := h s hs
  obtain ⟨b1, b2, b3⟩ := h2 s hs
  rcases Nat.lt_trichotomy (G' s) (H' s) with z | z | z
  · exact absurd (a2.cg hX hn e (by omega) hs) (b3 _ z)
  · exact z
  · exact absurd (b2.cg hX hn (fun s hs => (e s hs).symm) (by omega) hs) (a3 _ z)
theorem GRn.uq (hX : OkX t X) (hn : n = X.1.length) : ∀ (r : Nat) (G H : Nat → Nat), GRn X o t n r G → GRn X o t n r H → ∀ s, s < n → G s = H s
  | 0, G, H, h1, h2 => fun s hs => (h1 s hs).trans (h2 s hs).symm
  | r + 1, G, H, ⟨G0, g1, g2⟩, ⟨H0, h1, h2⟩ => Nx1.cg hX hn (GRn.uq hX hn r G0 H0 g1 h1) g2 h2
/-- from stable classes on nothing changes -/
theorem GRn.st (hX : OkX t X) (hn : n = X.1.length) {r : Nat} (h : GRn X o t n r G) (hs : Nx1 X o t n G G) : ∀ (d : Nat) (H : Nat → Nat), GRn X o t n (r + d) H → ∀ s, s < n → G s = H s
  | 0, H, h2 => GRn.uq hX hn r G H h h2
  | d + 1, H, ⟨H0, h1, h2⟩ => Nx1.cg hX hn (GRn.st hX hn h hs d H0 h1) hs h2
theorem GFn.uq (hX : OkX t X) (hn : n = X.1.length) (h1 : GFn X o t n G) (h2 : GFn X o t n H) : ∀ s, s < n → G s = H s := by
  obtain ⟨r, a1, a2⟩ := h1
  obtain ⟨q, b1, b2⟩ := h2
  rcases Nat.le_total r q with z | z
  · obtain ⟨d, rfl⟩ : ∃ d, q = r + d := ⟨q - r, by omega⟩
    exact GRn.st hX hn a1 a2 d H b1
  · obtain ⟨d, rfl⟩ : ∃ d, r = q + d := ⟨r - q, by omega⟩
    exact fun s hs => (GRn.st hX hn b1 b2 d G a1 s hs).symm
/-- classes are their least members; a parting leaves least members so -/
def ReG (n : Nat) (G : Nat → Nat) : Prop := ∀ s, s < n → G s ≤ s ∧ G (G s) = G s
theorem Nx1.re (h : Nx1 X o t n G G') : ReG n G' := fun s hs => by
  obtain ⟨a1, a2, a3⟩ := h s hs
  refine ⟨a1, ?_⟩
  obtain ⟨b1, b2, b3⟩ := h (G' s) (by omega)
  rcases Nat.lt_or_ge (G' (G' s)) (G' s) with z | z
  · exact absurd (b2.tr a2) (a3 _ z)
  · omega
theorem GRn.re : ∀ (r : Nat) (G : Nat → Nat), 1 ≤ n → GRn X o t n r G → ReG n G
  | 0, G, hn, h => fun s hs => ⟨by rw [h s hs]; exact Nat.zero_le _, by rw [h s hs, h 0 (by omega)]⟩
  | r + 1, G, _, ⟨_, _, h⟩ => h.re
/-- how many classes there are -/
def cnG (G : Nat → Nat) : Nat → Nat
  | 0 => 0
  | n + 1 => cnG G n + (if G n = n then 1 else 0)
theorem cnG_le : ∀ n, cnG G n ≤ n
  | 0 => Nat.le_refl _
  | n + 1 => by
    have := cnG_le n
    show cnG G n + (if G n = n then 1 else 0) ≤ n + 1
    split <;> omega
theorem cnG_mo : ∀ n, (∀ s, s < n → G s = s → G' s = s) → cnG G n ≤ cnG G' n
  | 0, _ => Nat.le_refl _
  | n + 1, h => by
    have h1 := cnG_mo n (fun s hs => h s (by omega))
    show cnG G n + (if G n = n then 1 else 0) ≤ cnG G' n + (if G' n = n then 1 else 0)
    by_cases z : G n = n
    · rw [if_pos z, if_pos (h n (by omega) z)]; omega
    · rw [if_neg z]; omega
theorem cnG_lt : ∀ n, (∀ s, s < n → G s = s → G' s = s) → (∃ s, s < n ∧ G s ≠ s ∧ G' s = s) → cnG G n < cnG G' n
  | 0, _, ⟨s, hs, _⟩ => absurd hs (Nat.not_lt_zero _)
  | n + 1, h, ⟨s, hs, n1, n2⟩ => by
    have h1 := cnG_mo n (fun s hs => h s (by omega))
    show cnG G n + (if G n = n then 1 else 0) < cnG G' n + (if G' n = n then 1 else 0)
    by_cases z : s = n
    · subst z
      rw [if_neg n1, if_pos n2]; omega
    · have h2 := cnG_lt n (fun s hs => h s (by omega)) ⟨s, by omega, n1, n2⟩
      by_cases y : G n = n
      · rw [if_pos y, if_pos (h n (by omega) y)]; omega
      · rw [if_neg y]; omega
/-- a parting that changes something makes more classes -/
theorem Nx1.mo (hG : ReG n G) (h : Nx1 X o t n G G') (hc : ∃ s, s < n ∧ G' s ≠ G s) : cnG G n < cnG G' n := by
  have kp : ∀ s, s < n → G s = s → G' s = s := fun s hs e => by
    obtain ⟨a1, a2, -⟩ := h s hs
    have g := (hG (G' s) (by omega)).1
    have := a2.1
    omega
  refine cnG_lt n kp ?_
  -- the least one that changes
  have lst : ∀ m, m ≤ n → (∃ s, s < m ∧ G' s ≠ G s) → ∃ s, s < n ∧ G' s ≠ G s ∧ ∀ r, r < s → G' r = G r := by
    intro m
    induction m with
    | zero => intro _ ⟨s, hs, _⟩; exact absurd hs (Nat.not_lt_zero _)
    | succ m ih =>
      intro hm ⟨s, hs, ne⟩
      by_cases z : ∃ s, s < m ∧ G' s ≠ G s
      · exact ih (by omega) z
      · refine ⟨s, by omega, ne, fun r hr => Classical.byContradiction (fun y => z ⟨r, by omega, y⟩)⟩
  obtain ⟨s, hs, ne, hl⟩ := lst n (Nat.le_refl _) hc
  obtain ⟨a1, a2, a3⟩ := h s hs
  have e : G' s = s := by
    rcases Nat.lt_or_ge (G' s) s with z | z
    · have e1 := hl (G' s) z
      have e2 := (h.re s hs).2
      have e3 := a2.1
      rw [e2] at e1
      exact absurd (e1.trans e3) ne
    · omega
  exact ⟨s, hs, fun y => ne (by rw [e, y]), e⟩
end
end
section
/-! the reference's search, exactly: what a MOVE comes to -/
/-- the node y stays set -/
def sNd (R : RMo) (p : Int32) (ρ : Plc → Nat) (y : Nat) : Bool := decide ((moS R).2 80 y = 2 ∧ ρ (3, y, 0) = 0 ∧ (ρ (0, y, 0) = 1 ∨ (ρ (2, y, 0) = 1 ∧ ¬ p &&& moK R y = 0)))
/-- pauses set behind a beat, by the first n nodes -/
def sNw (R : RMo) (p : Int32) (ρ : Plc → Nat) : Nat → Int32
  | 0 => 0
  | n + 1 => if sNd R p ρ (700 * moM R + n) = true then sNw R p ρ n ||| moK R (700 * moM R + n) else sNw R p ρ n
/-- what is shown, by signals -/
def sGn (R : RMo) (ρ : Plc → Nat) : Int32 := shM (fun s => decide (ρ (5, s, 0) = 1)) (moQ R)
/-- the inputs of a MOVE -/
def inC (R : RMo) (il : List Nat) (p b : Int32) (f : Bool) (v : Nat) : RIn := (p, fun s => b01 b s, fun q => b01 (Int32.ofNat v >>> (Int32.ofNat il.length &&& 31)) (ifC R (q - 40 * moM R)), if f = true then 1 else 0, gvI (Int32.ofNat v &&& (((1 : Int32) <<< (Int32.ofNat il.length &&& 31)) - 1)) il)
def ocR (R : RMo) (y : Nat) (p : Int32) (ρ : Plc → Nat) : OcT := some (sGn R ρ, decide (ρ (4, y, 0) = 1), sNw R p ρ (moS R).1)
/-- what a MOVE comes to, by the reference's equations -/
def CorR (R : RMo) (il : List Nat) (y : Nat) : CoT := fun p b f v o => ∃ ρ, (∀ j, ρ j ≤ 2) ∧ JF (FrR R (inC R il p b f v)) ρ ∧ (∀ i, FrR R (inC R il p b f v) ρ i = ρ i) ∧ ((KnR R ρ ∧ o = ocR R y p ρ) ∨ (¬ KnR R ρ ∧ o = none))
theorem lq_an {a b : Nat} (h : lq3 a b) (k : lq3 b a) : a = b := by
  rcases h with h | h
  · rcases k with k | k
    · rw [h, k]
    · exact k.symm
  · exact h
theorem CorR.uq {R : RMo} {il : List Nat} {y : Nat} : UqC (CorR R il y) := by
  rintro p b f v o o' ⟨ρ, -, j1, f1, h1⟩ ⟨ρ', -, j2, f2, h2⟩
  have e : ρ = ρ' := funext (fun i => lq_an (j1.le FrR_mo f2 i) (j2.le FrR_mo f1 i))
  subst e
  rcases h1 with ⟨k1, h1⟩ | ⟨k1, h1⟩
  · rcases h2 with ⟨-, h2⟩ | ⟨k2, -⟩
    · rw [h1, h2]
    · exact absurd k1 k2
  · rcases h2 with ⟨k2, -⟩ | ⟨-, h2⟩
    · exact absurd k2 k1
    · rw [h1, h2]
section
variable {R : RMo} {I : RIn} {sl : List Nat} {M M' : Mem} {ρ : Plc → Nat} {h : Nat} {p : Int32} {Q : Option Value → Mem → Prop}
theorem R_prNx (hS : RmS R sl M) (F : Fix M) (em : mI M 29 84 = Int32.ofNat (moM R)) (hV : RSv R ρ M) (K : Q (some (.int (sGn R ρ))) M) : E (h + 1) mdX11_presentNow [.ref 29] M Q := by
  have m4 := hS.1.1
  have q16 := hS.1.2.2.1
  have e34 := hS.2.2.2.2.2.2.2.2.2.1
  have main : ∀ d s, s + d = moQ R → T (h + 1) mdX11_presentNow 4 [(0, .ref 29), (1, .int (shM (fun s => decide (ρ (5, s, 0) = 1)) s)), (2, .int (Int32.ofNat s))] [] M Q := by
    intro d
    induction d with
    | zero =>
      intro s hs
      have es : s = moQ R := hs
      subst es
      refine VX11_presentNow_4 ?_
      unfold DX11_presentNow_4
      rw [em, lt32 (show moM R < 2147483648 by omega)]
      refine ⟨ok29 F, 34, rf29_8 F, ok34 F, by rw [ln34 F]; exact vp_of (by omega) (by decide), fun _ => K, fun z => absurd ?_ z⟩
      rw [e34]
      exact Int32.le_rfl
    | succ d ih =>
      intro s hs
      have nx := ih (s + 1) (by omega)
      have e5 : mAI M 100 s = Int32.ofNat (ρ (5, s, 0)) := hV.2.2.2.2 s (by omega)
      have le2 := hV.1 (5, s, 0)
      refine VX11_presentNow_4 ?_
      unfold DX11_presentNow_4 DX11_presentNow_35
      rw [em, lt32 (show moM R < 2147483648 by omega), succ32, lt32 (show s < 2147483648 by omega)]
      refine ⟨ok29 F, 34, rf29_8 F, ok34 F, by rw [ln34 F]; exact vp_of (by omega) (by decide), fun z => ?_, fun _ => ⟨100, rf29_82 F, ok100 F, by rw [ln100 F]; exact vp_of (by omega) (by decide), fun z => ?_, fun z => ?_⟩⟩
      · rw [e34] at z
        have := (le32 (by omega) (by omega)).mp z
        omega
      · have ne : ¬ decide (ρ (5, s, 0) = 1) = true := by
          rw [decide_eq_true_eq]
          intro y
          exact z (by rw [e5, y]; rfl)
        have e : shM (fun s => decide (ρ (5, s, 0) = 1)) (s + 1) = shM (fun s => decide (ρ (5, s, 0) = 1)) s ||| 0 := by
          show (if decide (ρ (5, s, 0) = 1) = true then _ else _) = _
          rw [if_neg ne, Int32.or_zero]
        rw [← e]; exact nx
      · have y : decide (ρ (5, s, 0) = 1) = true := by
          rw [decide_eq_true_eq]
          rw [e5] at z
          exact inj32 (by omega) (by decide) z
        have e : shM (fun s => decide (ρ (5, s, 0) = 1)) (s + 1) = shM (fun s => decide (ρ (5, s, 0) = 1)) s ||| ((1 : Int32) <<< (Int32.ofNat s &&& 31)) := by
          show (if decide (ρ (5, s, 0) = 1) = true then _ else _) = _
          rw [if_pos y]
        rw [← e]; exact nx
  refine KX11_presentNow ?_
  unfold DX11_presentNow_0
  exact main (moQ R) 0 (by omega)
theorem R_stNx (hS : RmS R sl M) (F : Fix M) (em : mI M 29 84 = Int32.ofNat (moM R)) (ep : mI M 29 85 = p) (hV : RSv R ρ M) (K : Q (some (.int (sNw R p ρ (moS R).1))) M) : E (h + 1) mdX11_setNow [.ref 29] M Q := by
  have m4 := hS.1.1
  have e79 := hS.2.2.2.2.2.1
  have s7 : (moS R).1 ≤ 700 := hS.1.2.1.1.2
  have e700 : 700 * Int32.ofNat (moM R) = Int32.ofNat (700 * moM R) := by rw [Int32.ofNat_mul]; rfl
  have e7s : Int32.ofNat (700 * moM R) + Int32.ofNat (moS R).1 = Int32.ofNat (700 * moM R + (moS R).1) := (Int32.ofNat_add _ _).symm
  have main : ∀ d n, n + d = (moS R).1 → T (h + 1) mdX11_setNow 11 [(0, .ref 29), (1, .int (sNw R p ρ n)), (2, .int (Int32.ofNat (700 * moM R + n)))] [] M Q := by
    intro d
    induction d with
    | zero =>
      intro n hn
      have en : n = (moS R).1 := hn
      subst en
      refine VX11_setNow_11 ?_
      unfold DX11_setNow_11
      rw [em, lt32 (show moM R < 2147483648 by omega)]
      refine ⟨ok29 F, 79, rf29_61 F, ok79 F, by rw [ln79 F]; exact vp_of (by omega) (by decide), fun _ => K, fun z => absurd ?_ z⟩
      rw [e79, e700, e7s]
      exact Int32.le_rfl
    | succ d ih =>
      intro n hn
      have nx := ih (n + 1) (by omega)
      obtain ⟨y, ey⟩ : ∃ y, y = 700 * moM R + n := ⟨_, rfl⟩
      have hy : inR R y := by unfold inR; omega
      have v28 : ∀ {k : Nat}, k = 2800 → vp_in (Int32.ofNat y) k := fun e => by rw [e]; exact vp_of (by omega) (by decide)
      have v7 : ∀ {k : Nat}, k = 700 → vp_in (Int32.ofNat (y - 700 * moM R)) k := fun e => by rw [e]; exact vp_of (by omega) (by decide)
      have ly : (Int32.ofNat y).toNatClampNeg = y := lt32 (by omega)
      have l7 : (Int32.ofNat (y - 700 * moM R)).toNatClampNeg = y - 700 * moM R := lt32 (by omega)
      have e80 : mAI M 80 y = (moS R).2 80 y := hS.2.1 80 y (by decide) (by decide) hy
      have e87 : mAI M 87 y = moK R y := (hS.2.2.1 y hy).1
      have ec : ∀ c, c ≤ 3 → mAI M (95 + c) (y - 700 * moM R) = Int32.ofNat (ρ (c, y, 0)) ∧ ρ (c, y, 0) ≤ 2 := fun c hc => ⟨hV.2.2.1 c y hc hy, hV.1 _⟩
      have e0 := ec 0 (by decide)
      have e2 := ec 2 (by decide)
      have e3 := ec 3 (by decide)
      have i1 : ∀ {q : Nat}, q ≤ 2 → Int32.ofNat q = 1 → q = 1 := fun hq e => inj32 (by omega) (by decide) (e.trans (show (1 : Int32) = Int32.ofNat 1 from rfl))
      have i0 : ∀ {q : Nat}, q ≤ 2 → Int32.ofNat q = 0 → q = 0 := fun hq e => inj32 (by omega) (by decide) (e.trans (show (0 : Int32) = Int32.ofNat 0 from rfl))
      -- it stays, or not
      have f118 : ¬ sNd R p ρ y = true → DX11_setNow_118 h 29 (sNw R p ρ n) (Int32.ofNat y) M Q := fun no => by
        unfold DX11_setNow_118
        have e : sNw R p ρ (n + 1) = sNw R p ρ n := by
          show (if sNd R p ρ (700 * moM R + n) = true then _ else _) = _
          rw [← ey, if_neg no]
        rw [succ32, ← e, ey, show 700 * moM R + n + 1 = 700 * moM R + (n + 1) by omega]
        exact nx
      have f109 : sNd R p ρ y = true → DX11_setNow_109 h 29 (sNw R p ρ n) (Int32.ofNat y) M Q := fun yes => by
        unfold DX11_setNow_109 DX11_setNow_118
        have e : sNw R p ρ (n + 1) = sNw R p ρ n ||| moK R y := by
          show (if sNd R p ρ (700 * moM R + n) = true then _ ||| moK R (700 * moM R + n) else _) = _
          rw [← ey, if_pos yes]
        refine ⟨ok29 F, 87, rf29_69 F, ok87 F, v28 (ln87 F), ?_⟩
        rw [ly, e87, ← e, succ32, ey, show 700 * moM R + n + 1 = 700 * moM R + (n + 1) by omega]
        exact nx
      have sd : sNd R p ρ y = true ↔ ((moS R).2 80 y = 2 ∧ ρ (3, y, 0) = 0 ∧ (ρ (0, y, 0) = 1 ∨ (ρ (2, y, 0) = 1 ∧ ¬ p &&& moK R y = 0))) := by unfold sNd; rw [decide_eq_true_eq]
      have f73 : ∀ b : Int32, (b = 0 ↔ ¬ (ρ (2, y, 0) = 1 ∧ ¬ p &&& moK R y = 0)) → DX11_setNow_73 h 29 (sNw R p ρ n) (Int32.ofNat y) (Int32.ofNat (y - 700 * moM R)) b M Q := fun b hb => by
        unfold DX11_setNow_73
        rw [ly, l7]
        refine ⟨ok29 F, 80, rf29_62 F, ok80 F, v28 (ln80 F), fun z => f118 (fun w => z (by rw [e80]; exact (sd.mp w).1)), fun z => ⟨98, rf29_80 F, ok98 F, v7 (ln98 F), fun z2 => f118 (fun w => z2 ?_), fun z2 => ⟨95, rf29_77 F, ok95 F, v7 (ln95 F), fun z3 => f109 (sd.mpr ⟨by rw [← e80]; exact z, i0 e3.2 (by rw [← e3.1]; exact z2), Or.inl (i1 e0.2 (by rw [← e0.1]; exact z3))⟩), fun z3 => ⟨fun z4 => f118 (fun w => ?_), fun z4 => f109 (sd.mpr ⟨by rw [← e80]; exact z, i0 e3.2 (by rw [← e3.1]; exact z2), Or.inr ?_⟩)⟩⟩⟩⟩
        · have e3' : mAI M 98 (y - 700 * moM R) = Int32.ofNat (ρ (3, y, 0)) := e3.1
          rw [e3', (sd.mp w).2.1]; rfl
        · have e0' : mAI M 95 (y - 700 * moM R) = Int32.ofNat (ρ (0, y, 0)) := e0.1
          rcases (sd.mp w).2.2 with q | q
          · exact z3 (by rw [e0', q]; rfl)
          · exact hb.mp z4 q
        · exact Classical.byContradiction (fun w => z4 (hb.mpr w))
      refine VX11_setNow_11 ?_
      unfold DX11_setNow_11 DX11_setNow_72
      rw [← ey, em, lt32 (show moM R < 2147483648 by omega), ix700 (by omega) (by omega), ep, ly, l7]
      have e2' : mAI M 97 (y - 700 * moM R) = Int32.ofNat (ρ (2, y, 0)) := e2.1
      refine ⟨ok29 F, 79, rf29_61 F, ok79 F, by rw [ln79 F]; exact vp_of (by omega) (by decide), fun z => ?_, fun _ => ⟨97, rf29_79 F, ok97 F, v7 (ln97 F), fun z => f73 0 ⟨fun _ w => z (by rw [e2', w.1]; rfl), fun _ => rfl⟩, fun z => ⟨87, rf29_69 F, ok87 F, v28 (ln87 F), fun z2 => f73 0 ⟨fun _ w => w.2 (by rw [← e87]; exact z2), fun _ => rfl⟩, fun z2 => f73 1 ⟨fun w => absurd w (by decide), fun w => absurd ⟨i1 e2.2 (by rw [← e2']; exact z), by rw [← e87]; exact z2⟩ w⟩⟩⟩⟩
      rw [e79, e700, e7s] at z
      have := (le32 (by omega) (by omega)).mp z
      omega
  refine KX11_setNow ?_
  unfold DX11_setNow_0
  rw [em, e700]
  exact ⟨ok29 F, main (moS R).1 0 (by omega)⟩
end
/-! the reference's move1, exactly -/
/-- what the rows say of k MOVES -/
def TiR (M : Mem) (m t : Nat) (Y : XsT) (k : Nat) : Prop := (∀ s, s < Y.1.length → mAI M 124 (48 * m + s) = (stX Y s).1 ∧ mAI M 125 (48 * m + s) = (stX Y s).2.1) ∧ (∀ s, 1 ≤ s → s < Y.1.length → mAI M 126 (48 * m + s) = Int32.ofNat (stX Y s).2.2.1 ∧ mAI M 127 (48 * m + s) = Int32.ofNat (stX Y s).2.2.2) ∧ ∀ s v, s < 48 → v < 2 ^ t → s * 2 ^ t + v < k → mAI M 129 (32 * (48 * m + s) + v) = Y.2.1 s v ∧ mAI M 130 (32 * (48 * m + s) + v) = Y.2.2 s v
theorem mv_inj {w s v s' v' : Nat} (hv : v < w) (hv' : v' < w) (e : s' * w + v' = s * w + v) : s' = s ∧ v' = v := by
  rcases Nat.lt_trichotomy s' s with z | z | z
  · have : (s' + 1) * w ≤ s * w := Nat.mul_le_mul_right _ z
    rw [Nat.succ_mul] at this
    omega
  · subst z; exact ⟨rfl, by omega⟩
  · have : (s + 1) * w ≤ s' * w := Nat.mul_le_mul_right _ z
    rw [Nat.succ_mul] at this
    omega
theorem stX_l {L : List SqT} {q : SqT} {a b : Nat → Nat → Int32} {s : Nat} (hs : s < L.length) : stX (L ++ [q], a, b) s = L.getD s sq0 := by
  show (L ++ [q]).getD s sq0 = _
  rw [List.getD_eq_getElem?_getD, List.getElem?_append_left hs, ← List.getD_eq_getElem?_getD]
theorem stX_r {L : List SqT} {q : SqT} {a b : Nat → Nat → Int32} : stX (L ++ [q], a, b) L.length = q := by
  show (L ++ [q]).getD L.length sq0 = _
  rw [List.getD_eq_getElem?_getD, List.getElem?_append_right (Nat.le_refl _), Nat.sub_self]
  rfl
section
variable {M M1 M' : Mem} {m t s v k at0 : Nat} {Y : XsT} {d w : Int32}
/-- leads and shows of one MOVE more -/
theorem TiR.pt (hT : TiR M m t Y (s * 2 ^ t + v)) (hs : s < 48) (hv : v < 2 ^ t) (t5 : t ≤ 5) (ha : at0 = 32 * (48 * m + s) + v) (r : ∀ c, 124 ≤ c → c ≤ 127 → mAI M' c = mAI M c) (e1 : ∀ j, mAI M' 129 j = if j = at0 then d else mAI M 129 j) (e2 : ∀ j, mAI M' 130 j = if j = at0 then w else mAI M 130 j) : TiR M' m t (Y.1, pt2 Y.2.1 s v d, pt2 Y.2.2 s v w) (s * 2 ^ t + v + 1) := by
  obtain ⟨a, b, c⟩ := hT
  obtain ⟨p1, p2⟩ := pw_le t5
  refine ⟨fun q hq => by rw [r 124 (by decide) (by decide), r 125 (by decide) (by decide)]; exact a q hq, fun q h1 h2 => by rw [r 126 (by decide) (by decide), r 127 (by decide) (by decide)]; exact b q h1 h2, fun s' v' hs' hv' hk => ?_⟩
  show mAI M' 129 (32 * (48 * m + s') + v') = pt2 Y.2.1 s v d s' v' ∧ mAI M' 130 (32 * (48 * m + s') + v') = pt2 Y.2.2 s v w s' v'
  unfold pt2
  rw [e1, e2]
  by_cases z : s' = s ∧ v' = v
  · have ea : 32 * (48 * m + s') + v' = at0 := by rw [ha, z.1, z.2]
    rw [if_pos ea, if_pos ea, if_pos z, if_pos z]
    exact ⟨rfl, rfl⟩
  · have ne : ¬ 32 * (48 * m + s') + v' = at0 := fun y => z (by omega)
    rw [if_neg ne, if_neg ne, if_neg z, if_neg z]
    refine c s' v' hs' hv' ?_
    rcases Nat.lt_or_ge (s' * 2 ^ t + v') (s * 2 ^ t + v) with y | y
    · exact y
    · exact absurd (mv_inj hv hv' (by omega)) z
/-- a STATE more -/
theorem TiR.nw {p b : Int32} (hT : TiR M m t Y k) (l48 : Y.1.length < 48) (e4 : ∀ j, mAI M' 124 j = if j = 48 * m + Y.1.length then p else mAI M 124 j) (e5 : ∀ j, mAI M' 125 j = if j = 48 * m + Y.1.length then b else mAI M 125 j) (e6 : ∀ j, mAI M' 126 j = if j = 48 * m + Y.1.length then Int32.ofNat s else mAI M 126 j) (e7 : ∀ j, mAI M' 127 j = if j = 48 * m + Y.1.length then Int32.ofNat v else mAI M 127 j) (r9 : mAI M' 129 = mAI M 129) (r0 : mAI M' 130 = mAI M 130) : TiR M' m t (Y.1 ++ [(p, b, s, v)], Y.2.1, Y.2.2) k := by
  obtain ⟨a, c, d⟩ := hT
  have ln : (Y.1 ++ [(p, b, s, v)]).length = Y.1.length + 1 := by rw [List.length_append]; rfl
  refine ⟨fun q hq => ?_, fun q h1 hq => ?_, fun s' v' hs' hv' hk => by rw [r9, r0]; exact d s' v' hs' hv' hk⟩
  · have hq : q < (Y.1 ++ [(p, b, s, v)]).length := hq
    rw [e4, e5]
    by_cases z : q = Y.1.length
    · rw [z, if_pos rfl, if_pos rfl, stX_r]; exact ⟨rfl, rfl⟩
    · rw [if_neg (by omega), if_neg (by omega), stX_l (by omega)]; exact a q (by omega)
  · have hq : q < (Y.1 ++ [(p, b, s, v)]).length := hq
    rw [e6, e7]
    by_cases z : q = Y.1.length
    · rw [z, if_pos rfl, if_pos rfl, stX_r]; exact ⟨rfl, rfl⟩
    · rw [if_neg (by omega), if_neg (by omega), stX_l (by omega)]; exact c q h1 (by omega)
theorem TiR.rw (hT : TiR M m t Y k) (r : ∀ c, 124 ≤ c → c ≤ 130 → c ≠ 128 → mAI M' c = mAI M c) : TiR M' m t Y k := by
  unfold TiR at hT ⊢
  rw [r 124 (by decide) (by decide) (by decide), r 125 (by decide) (by decide) (by decide), r 126 (by decide) (by decide) (by decide), r 127 (by decide) (by decide) (by decide), r 129 (by decide) (by decide) (by decide), r 130 (by decide) (by decide) (by decide)]
  exact hT
theorem wr_j {c k : Nat} {x : Int32} (e : M' = wAI M c k x) : ∀ j, mAI M' c j = if j = k then x else mAI M c j := fun j => by
  rw [e, mAI_wAI]
  by_cases z : j = k
  · rw [if_pos ⟨rfl, z⟩, if_pos z]
  · rw [if_neg (fun y => z y.2), if_neg z]
end
section
variable {M M1 M' : Mem} {s v h t y : Nat} {Q : Option Value → Mem → Prop} {R : RMo} {sl il : List Nat} {X : List Nd} {np : Nat} {a : Int32} {Y : XsT}
theorem inM_c {p b : Int32} {f : Bool} (e5 : mI M 29 85 = p) (e6 : mI M 29 86 = b) (e7 : mI M 29 87 = Int32.ofNat v &&& (((1 : Int32) <<< (Int32.ofNat il.length &&& 31)) - 1)) (e8 : mI M 29 88 = Int32.ofNat v >>> (Int32.ofNat il.length &&& 31)) (e9 : mI M 29 89 = if f = true then 1 else 0) : inM R il M = inC R il p b f v := by
  unfold inM inC
  rw [e5, e6, e7, e8, e9]
  cases f <;> rfl
theorem R_mv1x (hB : RbM R sl il X np M) (F : Fix M) (em : mI M 29 84 = Int32.ofNat (moM R)) (hr : SrI M (moM R) Y.1.length) (hL : LdO M) (hs : s < Y.1.length) (t5 : t ≤ 5) (hv : v < 2 ^ t) (e1 : mAI M 122 (moM R) = 1) (hy : inR R y) (ey0 : mAI M 91 (moM R) = Int32.ofNat y) (hX : TiR M (moM R) t Y (s * 2 ^ t + v)) (K : ∀ M' o, SkF (moM R) M M' → CorR R il y (stX Y s).1 (stX Y s).2.1 (decide (s = 0)) v o → SrI M' (moM R) (stpX a Y s v o).1.1.length → LdO M' → mI M' 29 84 = Int32.ofNat (moM R) → mAI M' 122 (moM R) = (if (stpX a Y s v o).2 = true then 2 else 1) → ((stpX a Y s v o).2 = false → TiR M' (moM R) t (stpX a Y s v o).1 (s * 2 ^ t + v + 1)) → Q none M') : E (h + 6) mdX11_move1 [.ref 29, .int (Int32.ofNat (moM R)), .int (Int32.ofNat s), .int (Int32.ofNat v), .int a] M Q := by
  have m4 : moM R < 4 := hB.1.1.1
  have n48 : Y.1.length ≤ 48 := hr.2.1.2
  obtain ⟨n, en⟩ : ∃ n, n = Y.1.length := ⟨_, rfl⟩
  have hr0 : SrI M (moM R) n := by rw [en]; exact hr
  obtain ⟨p1, p2⟩ := pw_le t5
  have v32 : v < 32 := by omega
  have lm : (Int32.ofNat (moM R)).toNatClampNeg = moM R := lt32 (by omega)
  have e48 : 48 * Int32.ofNat (moM R) + Int32.ofNat s = Int32.ofNat (48 * moM R + s) := by rw [Int32.ofNat_add, Int32.ofNat_mul]; rfl
  have l48 : (Int32.ofNat (48 * moM R + s)).toNatClampNeg = 48 * moM R + s := lt32 (by omega)
  have eat : 32 * Int32.ofNat (48 * moM R + s) + Int32.ofNat v = Int32.ofNat (32 * (48 * moM R + s) + v) := ix32
  have vm : ∀ {k : Nat}, k = 4 → vp_in (Int32.ofNat (moM R)) k := fun e => by rw [e]; exact vp_of (by omega) (by decide)
  have v48 : ∀ {k : Nat}, k = 192 → vp_in (Int32.ofNat (48 * moM R + s)) k := fun e => by rw [e]; exact vp_of (by omega) (by decide)
  obtain ⟨at0, hat⟩ : ∃ at0, at0 = 32 * (48 * moM R + s) + v := ⟨_, rfl⟩
  have at1 : 1536 * moM R ≤ at0 ∧ at0 < 1536 * moM R + 1536 := by omega
  have vat : ∀ {k : Nat}, k = 6144 → vp_in (Int32.ofNat at0) k := fun e => by rw [e]; exact vp_of (by omega) (by decide)
  have lat : (Int32.ofNat at0).toNatClampNeg = at0 := lt32 (by omega)
  obtain ⟨e35, -⟩ := hB.2.2.1.1
  have body : ∀ f : Bool, f = decide (s = 0) → ∀ w : Int32, w = (if f = true then 1 else 0) → ∀ M13, SkF (moM R) M M13 → mI M13 29 84 = Int32.ofNat (moM R) → mAI M13 = mAI M → mI M13 29 85 = (stX Y s).1 → mI M13 29 86 = (stX Y s).2.1 → mI M13 29 87 = Int32.ofNat v &&& (((1 : Int32) <<< (Int32.ofNat il.length &&& 31)) - 1) → mI M13 29 88 = Int32.ofNat v >>> (Int32.ofNat il.length &&& 31) → DX11_move1_81 (h + 5) 29 (Int32.ofNat (moM R)) (Int32.ofNat s) (Int32.ofNat v) a (Int32.ofNat at0) 29 w M13 Q := by
    intro f hf w hw M13 k13 e13 r13 g5 g6 g7 g8
    have F13 := k13.fix F
    unfold DX11_move1_81 DX11_move1_277
    have hw01 : w = 0 ∨ w = 1 := by
      rw [hw]
      cases f with
      | true => exact Or.inr rfl
      | false => exact Or.inl rfl
    refine ⟨ok29 F13, hw01, fun M2 e2 => ?_⟩
    have k2 : SkF (moM R) M M2 := k13.tr (SkF.i (by omega) e2)
    have F2 := k2.fix F
    have B2 := hB.sk k2
    have i2 : ∀ f, f ≠ 89 → mI M2 29 f = mI M13 29 f := fun f hf => by rw [e2, mI_wI, if_neg (fun y => hf y.2)]
    have em2 : mI M2 29 84 = Int32.ofNat (moM R) := by rw [i2 84 (by decide)]; exact e13
    have r2 : mAI M2 = mAI M := by rw [e2]; exact r13
    have eI : inM R il M2 = inC R il (stX Y s).1 (stX Y s).2.1 f v := inM_c (by rw [i2 85 (by decide)]; exact g5) (by rw [i2 86 (by decide)]; exact g6) (by rw [i2 87 (by decide)]; exact g7) (by rw [i2 88 (by decide)]; exact g8) (by rw [e2, mI_wI, if_pos ⟨rfl, rfl⟩]; exact hw)
    obtain ⟨hI, hbf⟩ := inM_b (il := il) F2 em2
    obtain ⟨g1, g2, g3, g4, g5'⟩ := B2.2.2.1
    obtain ⟨n1, n2, n3, n4⟩ := B2.2.1
    refine ⟨ok29 F2, R_solve (h := h) hI hbf B2.1 n1 n2 n3 n4 (inM_l g1 g2 g3 g4 g5') (fun ρ M4 r5 k4 V4 jF fx hkn _ => ⟨r5, rfl, fun nz => ?_, fun z0 => ?_⟩)⟩
    · have kn : KnR R ρ := by
        rcases hkn with ⟨-, q⟩ | ⟨q, -⟩
        · exact q
        · exact absurd q nz
      have k4' : SkF (moM R) M M4 := k2.tr (SkF.rb k4)
      have F4 := k4'.fix F
      have B4 := hB.sk k4'
      have i4 : ∀ f, 84 ≤ f → f ≤ 89 → mI M4 29 f = mI M2 29 f := fun f h1 h2 => k4.2.2.2.1 f (by omega)
      have em4 : mI M4 29 84 = Int32.ofNat (moM R) := by rw [i4 84 (by decide) (by decide)]; exact em2
      have r4 : ∀ c, 102 ≤ c → mAI M4 c = mAI M c := fun c hc => by rw [k4.2.2.2.2 c (fun y => by omega), r2]
      have cor : CorR R il y (stX Y s).1 (stX Y s).2.1 (decide (s = 0)) v (ocR R y (stX Y s).1 ρ) := by
        rw [eI, hf] at jF fx
        exact ⟨ρ, V4.1, jF, fx, Or.inl ⟨kn, rfl⟩⟩
      refine ⟨130, rf29_122 F4, R_prNx (h := h + 4) B4.1 F4 em4 V4 (fun _ => ⟨_, rfl, ok130 F4, vat (ln130 F4), fun M10 e10 => ?_⟩)⟩
      rw [lat] at e10
      have k10 : SkF (moM R) M M10 := k4'.tr (SkF.ai (c := 130) (k := at0) (by unfold skA; omega) e10)
      have F10 := k10.fix F
      have B10 := hB.sk k10
      have em10 : mI M10 29 84 = Int32.ofNat (moM R) := by rw [e10]; exact em4
      have ep10 : mI M10 29 85 = (stX Y s).1 := by rw [e10]; show mI M4 29 85 = _; rw [i4 85 (by decide) (by decide), i2 85 (by decide)]; exact g5
      have r10 : ∀ c, 102 ≤ c → c ≠ 130 → mAI M10 c = mAI M c := fun c hc hc2 => by rw [e10]; exact (up2_row hc2).trans (r4 c hc)
      have w10 : ∀ j, mAI M10 130 j = if j = at0 then sGn R ρ else mAI M 130 j := fun j => by rw [wr_j e10 j, r4 130 (by decide)]
      have q10 : ∀ c, c ≤ 101 → mAI M10 c = mAI M4 c := fun c hc => by rw [e10]; exact up2_row (by omega)
      have V10 : RSv R ρ M10 := by
        obtain ⟨a1, a2, a3, a4, a5⟩ := V4
        exact ⟨a1, a2, fun c y hc hy => by rw [q10 (95 + c) (by omega)]; exact a3 c y hc hy, fun y n hy hn => by rw [q10 99 (by decide)]; exact a4 y n hy hn, fun s hs => by rw [q10 100 (by decide)]; exact a5 s hs⟩
      have hr10 : SrI M10 (moM R) n := hr0.k (r10 123 (by decide) (by decide)) (r10 126 (by decide) (by decide))
      have hL10 : LdO M10 := hL.k (r10 129 (by decide) (by decide))
      have e122 : mAI M10 122 (moM R) = 1 := by rw [r10 122 (by decide) (by decide)]; exact e1
      have ey : mAI M10 91 (moM R) = Int32.ofNat y := by rw [k10.row (Or.inl (by decide))]; exact ey0
      rw [em10, lm]
      refine ⟨91, rf29_73 F10, ok91 F10, vm (ln91 F10), ?_⟩
      rw [ey]
      have y2 := V10.1 (4, y, 0)
      refine R_k (h := h + 4) (n := 0) B10.1 (inM_b (il := il) F10 em10).1 V10 hy (by have := B10.1.1.2.2.2.1; omega) (fun _ => ⟨_, rfl, fun nk => ?_, fun yk => ?_⟩)
      · -- it goes on
        have nd : decide (ρ (4, y, 0) = 1) = false := by
          rw [decide_eq_false_iff_not]
          intro q
          exact nk (by rw [q]; rfl)
        have eo : ocR R y (stX Y s).1 ρ = some (sGn R ρ, false, sNw R (stX Y s).1 ρ (moS R).1) := by unfold ocR; rw [nd]
        rw [eo] at cor
        obtain ⟨pp, hpp⟩ : ∃ pp, pp = sNw R (stX Y s).1 ρ (moS R).1 := ⟨_, rfl⟩
        rw [← hpp] at cor
        refine R_stNx (h := h + 4) B10.1 F10 em10 ep10 V10 (fun _ => ⟨_, rfl, 130, rf29_122 F10, ok130 F10, vat (ln130 F10), ?_⟩)
        rw [← hpp, lat, show mAI M10 130 at0 = sGn R ρ from by rw [w10 at0, if_pos rfl]]
        have q124 : ∀ q, q < n → mAI M10 124 (48 * moM R + q) = (Y.1.getD q sq0).1 ∧ mAI M10 125 (48 * moM R + q) = (Y.1.getD q sq0).2.1 := fun q hq => by
          rw [r10 124 (by decide) (by decide), r10 125 (by decide) (by decide)]
          exact hX.1 q (by omega)
        -- a MOVE that leads to STATE q
        have fin : ∀ q M5 n', q < 48 → SkF (moM R) M M5 → SrI M5 (moM R) n' → n' = (stpX a Y s v (some (sGn R ρ, false, pp))).1.1.length → (stpX a Y s v (some (sGn R ρ, false, pp))).2 = false → LdO M5 → mI M5 29 84 = Int32.ofNat (moM R) → mAI M5 122 (moM R) = 1 → (∀ M6, (∀ c, 124 ≤ c → c ≤ 130 → c ≠ 129 → mAI M6 c = mAI M5 c) → (∀ j, mAI M6 129 j = if j = at0 then Int32.ofNat q else mAI M5 129 j) → TiR M6 (moM R) t (stpX a Y s v (some (sGn R ρ, false, pp))).1 (s * 2 ^ t + v + 1)) → ∀ z : Int32, z = Int32.ofNat q → ok M5 29 13 ∧ ∃ b2, mR M5 29 121 = some b2 ∧ ok M5 b2 21 ∧ vp_in (Int32.ofNat at0) (mL M5 b2) ∧ ∀ M4, M4 = wAI M5 b2 at0 z → Q none M4 := by
          intro q M5 n' hq k5 hr5 hn5 hf5 hL5 em5 e5 hT5 z ez
          have F5 := k5.fix F
          refine ⟨ok29 F5, 129, rf29_121 F5, ok129 F5, vat (ln129 F5), fun M6 e6 => ?_⟩
          refine K M6 _ (k5.tr (SkF.ai (c := 129) (k := at0) (by unfold skA; omega) e6)) cor (by rw [← hn5]; exact hr5.k (aiN e6 (by decide)) (aiN e6 (by decide))) (hL5.ai (Or.inr ⟨q, hq, ez⟩) e6) (by rw [e6]; exact em5) ?_ (fun _ => hT5 M6 (fun c _ _ h3 => aiN e6 h3) (fun j => by rw [wr_j e6 j, ez]))
          rw [hf5, if_neg (by decide), e6, mAI_wAI, if_neg (fun y => absurd y.1 (by decide))]; exact e5
        refine R_stO (h := h + 4) F10 m4 hr10.1 (by omega) (fun q q1 q2 m1 m2 mn _ => ⟨Int32.ofNat q, rfl, fun _ => ?_, fun z => ?_⟩) (fun mn _ => ⟨-1, rfl, fun z => absurd rfl z, fun _ => ?_⟩)
        · have fd : fdX Y.1 pp (sGn R ρ &&& a) = some q := fdX_of q1 (by omega) (by rw [← (q124 q q2).1]; exact m1) (by rw [← (q124 q q2).2]; exact m2) (fun r h1 h2 hh => mn r h1 h2 (by rw [(q124 r (by omega)).1, (q124 r (by omega)).2]; exact hh))
          have es : stpX a Y s v (some (sGn R ρ, false, pp)) = ((Y.1, pt2 Y.2.1 s v (Int32.ofNat q), pt2 Y.2.2 s v (sGn R ρ)), false) := stp_f fd
          refine fin q M10 n (by omega) k10 hr10 (by rw [es]; exact en) (by rw [es]) hL10 em10 e122 (fun M6 r6 w6 => ?_) _ rfl
          rw [es]
          exact hX.pt (M' := M6) (by omega) hv t5 hat (fun c h1 h2 => by rw [r6 c h1 (by omega) (by omega), r10 c (by omega) (by omega)]) (fun j => by rw [w6 j, r10 129 (by decide) (by decide)]) (fun j => by rw [r6 130 (by decide) (by decide) (by decide)]; exact w10 j)
        · exact absurd z (oi_ne (k := q) (by omega))
        · have fd : fdX Y.1 pp (sGn R ρ &&& a) = none := fdX_no (fun r h1 h2 hh => mn r h1 (by omega) (by rw [(q124 r (by omega)).1, (q124 r (by omega)).2]; exact hh))
          refine ⟨123, rf29_115 F10, ok123 F10, vm (ln123 F10), fun z => ?_, fun z => ?_⟩
          · have nlt : n < 48 := by
              rcases Nat.lt_or_ge n 48 with y | y
              · exact y
              · exact absurd (by rw [hr10.1, show n = 48 by omega]; rfl) z
            have es : stpX a Y s v (some (sGn R ρ, false, pp)) = ((Y.1 ++ [(pp, sGn R ρ &&& a, s, v)], pt2 Y.2.1 s v (Int32.ofNat Y.1.length), pt2 Y.2.2 s v (sGn R ρ)), false) := stp_g fd (by omega)
            have e48n : 48 * Int32.ofNat (moM R) + Int32.ofNat n = Int32.ofNat (48 * moM R + n) := by rw [Int32.ofNat_add, Int32.ofNat_mul]; rfl
            have v48n : ∀ {k : Nat}, k = 192 → vp_in (Int32.ofNat (48 * moM R + n)) k := fun e => by rw [e]; exact vp_of (by omega) (by decide)
            have l48n : (Int32.ofNat (48 * moM R + n)).toNatClampNeg = 48 * moM R + n := lt32 (by omega)
            refine ⟨123, rf29_115 F10, ok123 F10, vm (ln123 F10), 123, rf29_115 F10, ok123 F10, vm (ln123 F10), vm (ln123 F10), fun M27 e27 => ?_⟩
            rw [hr10.1, succ32] at e27
            rw [hr10.1, e48n]
            have k27 : SkF (moM R) M M27 := k10.tr (SkF.ai (c := 123) (k := moM R) (by unfold skA; omega) e27)
            have F27 := k27.fix F
            refine ⟨124, rf29_116 F27, ok124 F27, v48n (ln124 F27), fun M30 e30 => ?_⟩
            rw [l48n] at e30
            have k30 : SkF (moM R) M M30 := k27.tr (SkF.ai (c := 124) (k := 48 * moM R + n) (by unfold skA; omega) e30)
            have F30 := k30.fix F
            have x30 : mAI M30 130 at0 = sGn R ρ := by rw [aiN e30 (by decide), aiN e27 (by decide), w10 at0, if_pos rfl]
            refine ⟨125, rf29_117 F30, 130, rf29_122 F30, ok130 F30, vat (ln130 F30), ok125 F30, v48n (ln125 F30), fun M35 e35' => ?_⟩
            rw [l48n, x30] at e35'
            have k35 : SkF (moM R) M M35 := k30.tr (SkF.ai (c := 125) (k := 48 * moM R + n) (by unfold skA; omega) e35')
            have F35 := k35.fix F
            refine ⟨126, rf29_118 F35, ok126 F35, v48n (ln126 F35), fun M38 e38 => ?_⟩
            rw [l48n] at e38
            have k38 : SkF (moM R) M M38 := k35.tr (SkF.ai (c := 126) (k := 48 * moM R + n) (by unfold skA; omega) e38)
            have F38 := k38.fix F
            refine ⟨127, rf29_119 F38, ok127 F38, v48n (ln127 F38), fun M41 e41 => ?_⟩
            rw [l48n] at e41
            have k41 : SkF (moM R) M M41 := k38.tr (SkF.ai (c := 127) (k := 48 * moM R + n) (by unfold skA; omega) e41)
            have hr38 : SrI M38 (moM R) (n + 1) := hr10.nw (v := 0) nlt (by omega) (by rw [e27]; rfl) ⟨(aiN e35' (by decide)).trans (aiN e30 (by decide)), (aiN e35' (by decide)).trans (aiN e30 (by decide))⟩ e38
            have r41' : ∀ c, c = 129 ∨ c = 122 ∨ c = 130 → mAI M41 c = mAI M10 c := fun c hc => (aiN e41 (by omega)).trans ((aiN e38 (by omega)).trans ((aiN e35' (by omega)).trans ((aiN e30 (by omega)).trans (aiN e27 (by omega)))))
            refine fin n M41 (n + 1) nlt k41 (hr38.k (aiN e41 (by decide)) (aiN e41 (by decide))) (by rw [es]; show n + 1 = (Y.1 ++ [(pp, sGn R ρ &&& a, s, v)]).length; rw [List.length_append, en]; rfl) (by rw [es]) (hL10.k (r41' 129 (Or.inl rfl))) (by rw [e41, e38, e35', e30, e27]; exact em10) (by rw [r41' 122 (Or.inr (Or.inl rfl))]; exact e122) (fun M6 r6 w6 => ?_) _ rfl
            rw [es]
            have T6 : TiR M6 (moM R) t (Y.1, pt2 Y.2.1 s v (Int32.ofNat n), pt2 Y.2.2 s v (sGn R ρ)) (s * 2 ^ t + v + 1) → True := fun _ => trivial
            clear T6
            -- first the leads, then the STATE
            have T10 : TiR (wAI M10 129 at0 (Int32.ofNat n)) (moM R) t (Y.1, pt2 Y.2.1 s v (Int32.ofNat n), pt2 Y.2.2 s v (sGn R ρ)) (s * 2 ^ t + v + 1) := hX.pt (by omega) hv t5 hat (fun c h1 h2 => by rw [mAI_wAI_ne (by omega), r10 c (by omega) (by omega)]) (fun j => by rw [wr_j rfl j, r10 129 (by decide) (by decide)]) (fun j => by rw [mAI_wAI_ne (by decide)]; exact w10 j)
            obtain ⟨Z, eZ⟩ : ∃ Z, Z = wAI M10 129 at0 (Int32.ofNat n) := ⟨_, rfl⟩
            rw [← eZ] at T10
            have rz : ∀ c, c ≠ 129 → mAI Z c = mAI M10 c := fun c hc => aiN eZ hc
            rw [← en]
            refine TiR.nw (Y := (Y.1, pt2 Y.2.1 s v (Int32.ofNat n), pt2 Y.2.2 s v (sGn R ρ))) T10 (by show Y.1.length < 48; omega) (fun j => ?_) (fun j => ?_) (fun j => ?_) (fun j => ?_) (funext fun j => ?_) ?_
            · show _ = if j = 48 * moM R + Y.1.length then _ else _
              rw [r6 124 (by decide) (by decide) (by decide), aiN e41 (by decide), aiN e38 (by decide), aiN e35' (by decide), wr_j e30 j, ← en, rz 124 (by decide), aiN e27 (by decide)]
            · show _ = if j = 48 * moM R + Y.1.length then _ else _
              rw [r6 125 (by decide) (by decide) (by decide), aiN e41 (by decide), aiN e38 (by decide), wr_j e35' j, ← en, rz 125 (by decide), aiN e30 (by decide), aiN e27 (by decide)]
            · show _ = if j = 48 * moM R + Y.1.length then _ else _
              rw [r6 126 (by decide) (by decide) (by decide), aiN e41 (by decide), wr_j e38 j, ← en, rz 126 (by decide), aiN e35' (by decide), aiN e30 (by decide), aiN e27 (by decide)]
            · show _ = if j = 48 * moM R + Y.1.length then _ else _
              rw [r6 127 (by decide) (by decide) (by decide), wr_j e41 j, ← en, rz 127 (by decide), aiN e38 (by decide), aiN e35' (by decide), aiN e30 (by decide), aiN e27 (by decide)]
            · rw [w6 j, r41' 129 (Or.inl rfl), wr_j eZ j]
            · rw [r6 130 (by decide) (by decide) (by decide), r41' 130 (Or.inr (Or.inr rfl)), rz 130 (by decide)]
          · have n8 : ¬ n < 48 := fun y => by
              rw [hr10.1] at z
              have := inj32 (a := n) (b := 48) (by omega) (by decide) z
              omega
            have es : stpX a Y s v (some (sGn R ρ, false, pp)) = (Y, true) := stp_b fd (by omega)
            refine ⟨122, rf29_114 F10, ok122 F10, vm (ln122 F10), fun M44 e44 => ?_⟩
            refine K M44 _ (k10.tr (SkF.ai (c := 122) (k := moM R) (by unfold skA; omega) e44)) cor (by rw [es, ← en]; exact hr10.k (aiN e44 (by decide)) (aiN e44 (by decide))) (hL10.k (aiN e44 (by decide))) (by rw [e44]; exact em10) ?_ (fun q => by rw [es] at q; cases q)
            rw [es, if_pos rfl, e44, mAI_wAI, if_pos ⟨rfl, rfl⟩]
      · -- it ends
        have yd : decide (ρ (4, y, 0) = 1) = true := decide_eq_true (inj32 (by omega) (by decide) (yk.trans (show (1 : Int32) = Int32.ofNat 1 from rfl)))
        have eo : ocR R y (stX Y s).1 ρ = some (sGn R ρ, true, sNw R (stX Y s).1 ρ (moS R).1) := by unfold ocR; rw [yd]
        rw [eo] at cor
        refine ⟨129, rf29_121 F10, ok129 F10, vat (ln129 F10), fun M47 e47 => ?_⟩
        rw [lat] at e47
        refine K M47 _ (k10.tr (SkF.ai (c := 129) (k := at0) (by unfold skA; omega) e47)) cor (by show SrI M47 (moM R) Y.1.length; rw [← en]; exact hr10.k (aiN e47 (by decide)) (aiN e47 (by decide))) (hL10.ai (Or.inl (by decide)) e47) (by rw [e47]; exact em10) ?_ (fun _ => hX.pt (by omega) hv t5 hat (fun c h1 h2 => by rw [aiN e47 (by omega), r10 c (by omega) (by omega)]) (fun j => by rw [wr_j e47 j, r10 129 (by decide) (by decide)]) (fun j => by rw [aiN e47 (by decide)]; exact w10 j))
        show _ = if (false = true) then (2 : Int32) else 1
        rw [if_neg (by decide), e47, mAI_wAI, if_neg (fun y => absurd y.1 (by decide))]; exact e122
    · -- wires stay unknown
      have kn : ¬ KnR R ρ := by
        rcases hkn with ⟨q, -⟩ | ⟨-, q⟩
        · rw [q] at z0; exact absurd z0 (by decide)
        · exact q
      have cor : CorR R il y (stX Y s).1 (stX Y s).2.1 (decide (s = 0)) v none := by
        rw [eI, hf] at jF fx
        exact ⟨ρ, V4.1, jF, fx, Or.inr ⟨kn, rfl⟩⟩
      have k4' : SkF (moM R) M M4 := k2.tr (SkF.rb k4)
      have F4 := k4'.fix F
      have em4 : mI M4 29 84 = Int32.ofNat (moM R) := by rw [k4.2.2.2.1 84 (by decide)]; exact em2
      have r4 : ∀ c, 102 ≤ c → mAI M4 c = mAI M c := fun c hc => by rw [k4.2.2.2.2 c (fun y => by omega), r2]
      have hr4 : SrI M4 (moM R) n := hr0.k (r4 123 (by decide)) (r4 126 (by decide))
      have hL4 : LdO M4 := hL.k (r4 129 (by decide))
      have e122 : mAI M4 122 (moM R) = 1 := by rw [r4 122 (by decide)]; exact e1
      refine ⟨129, rf29_121 F4, ok129 F4, vat (ln129 F4), fun M50 e50 => ?_⟩
      rw [lat] at e50
      have k50 : SkF (moM R) M M50 := k4'.tr (SkF.ai (c := 129) (k := at0) (by unfold skA; omega) e50)
      have F50 := k50.fix F
      refine ⟨130, rf29_122 F50, ok130 F50, vat (ln130 F50), fun M53 e53 => ?_⟩
      rw [lat] at e53
      refine K M53 none (k50.tr (SkF.ai (c := 130) (k := at0) (by unfold skA; omega) e53)) cor (by show SrI M53 (moM R) Y.1.length; rw [← en]; exact hr4.k ((aiN e53 (by decide)).trans (aiN e50 (by decide))) ((aiN e53 (by decide)).trans (aiN e50 (by decide)))) ((hL4.ai (Or.inl (by decide)) e50).k (aiN e53 (by decide))) (by rw [e53, e50]; exact em4) ?_ (fun _ => hX.pt (by omega) hv t5 hat (fun c h1 h2 => by rw [aiN e53 (by omega), aiN e50 (by omega), r4 c (by omega)]) (fun j => by rw [aiN e53 (by decide), wr_j e50 j, r4 129 (by decide)]) (fun j => by rw [wr_j e53 j, aiN e50 (by decide), r4 130 (by decide)]))
      show _ = if (false = true) then (2 : Int32) else 1
      rw [if_neg (by decide), e53, mAI_wAI, if_neg (fun y => absurd y.1 (by decide)), e50, mAI_wAI, if_neg (fun y => absurd y.1 (by decide))]; exact e122
  obtain ⟨x4, x5⟩ := hX.1 s hs
  refine KX11_move1 (h := h + 5) ?_
  unfold DX11_move1_0
  rw [e48, eat, ← hat, l48, lm]
  refine ⟨ok29 F, 124, rf29_116 F, ok124 F, v48 (ln124 F), fun M4 e4 => ?_⟩
  have k4 : SkF (moM R) M M4 := SkF.i (by omega) e4
  have F4 := k4.fix F
  refine ⟨125, rf29_117 F4, ok125 F4, v48 (ln125 F4), fun M7 e7 => ?_⟩
  have k7 : SkF (moM R) M M7 := k4.tr (SkF.i (by omega) e7)
  have F7 := k7.fix F
  refine ⟨35, rf29_9 F7, ok35 F7, vm (ln35 F7), fun M10 e10 => ?_⟩
  have k10 : SkF (moM R) M M10 := k7.tr (SkF.i (by omega) e10)
  have F10 := k10.fix F
  refine ⟨35, rf29_9 F10, ok35 F10, vm (ln35 F10), fun M13 e13 => ?_⟩
  have k13 : SkF (moM R) M M13 := k10.tr (SkF.i (by omega) e13)
  rw [show mAI M 124 (48 * moM R + s) = (stX Y s).1 from x4] at e4
  rw [show mAI M4 125 (48 * moM R + s) = (stX Y s).2.1 from by rw [e4]; exact x5] at e7
  rw [show mAI M7 35 (moM R) = Int32.ofNat il.length from by rw [e7, e4]; exact e35] at e10
  rw [show mAI M10 35 (moM R) = Int32.ofNat il.length from by rw [e10, e7, e4]; exact e35] at e13
  have em13 : mI M13 29 84 = Int32.ofNat (moM R) := by
    rw [e13, mI_wI, if_neg (fun y => absurd y.2 (by decide)), e10, mI_wI, if_neg (fun y => absurd y.2 (by decide)), e7, mI_wI, if_neg (fun y => absurd y.2 (by decide)), e4, mI_wI, if_neg (fun y => absurd y.2 (by decide))]
    exact em
  have g5 : mI M13 29 85 = (stX Y s).1 := by
    rw [e13, mI_wI, if_neg (fun y => absurd y.2 (by decide)), e10, mI_wI, if_neg (fun y => absurd y.2 (by decide)), e7, mI_wI, if_neg (fun y => absurd y.2 (by decide)), e4, mI_wI, if_pos ⟨rfl, rfl⟩]
  have g6 : mI M13 29 86 = (stX Y s).2.1 := by
    rw [e13, mI_wI, if_neg (fun y => absurd y.2 (by decide)), e10, mI_wI, if_neg (fun y => absurd y.2 (by decide)), e7, mI_wI, if_pos ⟨rfl, rfl⟩]
  have g7 : mI M13 29 87 = Int32.ofNat v &&& (((1 : Int32) <<< (Int32.ofNat il.length &&& 31)) - 1) := by
    rw [e13, mI_wI, if_neg (fun y => absurd y.2 (by decide)), e10, mI_wI, if_pos ⟨rfl, rfl⟩]
  have g8 : mI M13 29 88 = Int32.ofNat v >>> (Int32.ofNat il.length &&& 31) := by
    rw [e13, mI_wI, if_pos ⟨rfl, rfl⟩]
  have r13 : mAI M13 = mAI M := by rw [e13, e10, e7, e4]; rfl
  refine ⟨fun z => ?_, fun z => ?_⟩
  · have ns : ¬ s = 0 := fun y => z (by rw [y]; rfl)
    exact body false (by rw [decide_eq_false ns]) 0 rfl M13 k13 em13 r13 g5 g6 g7 g8
  · have s0 : s = 0 := inj32 (by omega) (by decide) (z.trans (show (0 : Int32) = Int32.ofNat 0 from rfl))
    exact body true (by rw [decide_eq_true s0]) 1 rfl M13 k13 em13 r13 g5 g6 g7 g8
end
end
