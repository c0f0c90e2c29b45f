/-! the class's Search: its rows, and the methods that only look at them -/
def ScO (M : Mem) (x c t : Nat) (a : Nat → Nat) : Prop := (ok M x 7 ∧ mR M x 0 = some c ∧ mI M x 1 = Int32.ofNat (2 ^ t) ∧ t ≤ 5) ∧ (∀ f, 5 ≤ f → f ≤ 12 → mR M x f = some (a f) ∧ ok M (a f) 21 ∧ mL M (a f) = if f = 9 ∨ f = 10 then 48 * 2 ^ t else 48) ∧ ∀ f g, 5 ≤ f → f ≤ 12 → 5 ≤ g → g ≤ 12 → a f = a g → f = g
def ScC (M : Mem) (x t n : Nat) (a : Nat → Nat) : Prop := (mI M x 3 = Int32.ofNat n ∧ n ≤ 48) ∧ (∀ s, s < 48 → ∃ q, q < 48 ∧ mAI M (a 7) s = Int32.ofNat q) ∧ ∀ j, j < 48 * 2 ^ t → mAI M (a 9) j < 0 ∨ ∃ q, q < 48 ∧ mAI M (a 9) j = Int32.ofNat q
abbrev f23 (f : Nat) : Prop := f = 2 ∨ f = 3
section
variable {M M' M1 : Mem} {x c t n s h : Nat} {a : Nat → Nat} {Q : Option Value → Mem → Prop} {S : Nat → Prop}
theorem nn_of {y : Int32} (z : ¬ y < 0) : ∃ q, y = Int32.ofNat q ∧ q < 2147483648 := by
  have b1 := Int32.toInt_lt y
  have b2 := Int32.le_toInt y
  refine ⟨y.toNatClampNeg, ?_, ?_⟩
  · ((try simp only [Int32.toNatClampNeg, Int32.lt_iff_toInt_lt, Int32.le_iff_toInt_le, ← Int32.toInt_inj, j_add, j_sub, j_neg, j_mul, j_nat, Int32.reduceToInt, vp_in] at z ⊢); omega)
  · ((try simp only [Int32.toNatClampNeg, Int32.lt_iff_toInt_lt, Int32.le_iff_toInt_le, ← Int32.toInt_inj, j_add, j_sub, j_neg, j_mul, j_nat, Int32.reduceToInt, vp_in] at z ⊢); omega)
theorem ScO.gm {fs : Nat → Prop} (h : ScO M x c t a) (k : GmF x fs S M M') (h1 : ¬ fs 1) : ScO M' x c t a := by
  obtain ⟨⟨a1, a2, a3, a4⟩, b, d⟩ := h
  exact ⟨⟨k.ok a1, by rw [k.2.1.2.1]; exact a2, by rw [k.2.2.2.1 1 h1]; exact a3, a4⟩, fun f f1 f2 => ⟨by rw [k.2.1.2.1]; exact (b f f1 f2).1, k.ok (b f f1 f2).2.1, by rw [k.1.2.2.2]; exact (b f f1 f2).2.2⟩, d⟩
theorem ScO.l48 (h : ScO M x c t a) {f : Nat} (f1 : 5 ≤ f) (f2 : f ≤ 12) (f3 : f ≠ 9) (f4 : f ≠ 10) : mL M (a f) = 48 := by
  rw [(h.2.1 f f1 f2).2.2, if_neg (by omega)]
theorem ScO.lm (h : ScO M x c t a) {f : Nat} (f3 : f = 9 ∨ f = 10) : mL M (a f) = 48 * 2 ^ t := by
  rw [(h.2.1 f (by omega) (by omega)).2.2, if_pos f3]
theorem GmF.cpn {g b c n : Nat} {fs : Nat → Prop} (hc : S c) (e : M' = wCp M b c 0 0 n) : GmF g fs S M M' := by
  rw [e]
  exact ⟨⟨rfl, rfl, rfl, rfl⟩, ⟨rfl, rfl, rfl, rfl⟩, fun _ _ => rfl, fun _ _ => rfl, fun c' z => va_up_ne _ _ (fun y => z (by rw [y]; exact hc))⟩
theorem S_befM {bc : Nat} (ox : ok M x 2) (e8 : mR M x 8 = some bc) (ob : ok M bc 21) (lb : mL M bc = 16) (K : ∀ r : Int32, Q (some (.int r)) M) : E (h + 1) mdX0_beforeMask [.ref x] M Q := by
  have main : ∀ d i (y : Int32), i + d = 16 → T (h + 1) mdX0_beforeMask 4 [(0, .ref x), (1, .int y), (2, .int (Int32.ofNat i))] [] M Q := by
    intro d
    induction d with
    | zero =>
      intro i y hi
      have e : i = 16 := hi
      subst e
      refine VX0_beforeMask_4 ?_
      unfold DX0_beforeMask_4
      exact ⟨ox, bc, e8, ob, fun _ => K _, fun z => absurd (by rw [lb]; exact Int32.le_rfl) z⟩
    | succ d ih =>
      intro i y hi
      refine VX0_beforeMask_4 ?_
      unfold DX0_beforeMask_4 DX0_beforeMask_28
      rw [succ32]
      exact ⟨ox, bc, e8, ob, fun z => absurd ((le32 (by rw [lb]; decide) (by omega)).mp z) (by rw [lb]; omega), fun _ => ⟨bc, e8, ob, by rw [lb]; exact vp_of (by omega) (by decide), fun _ => ih (i + 1) _ (by omega), fun _ => ih (i + 1) _ (by omega)⟩⟩
  refine KX0_beforeMask ?_
  unfold DX0_beforeMask_0
  exact main 16 0 0 (by omega)
theorem S_hasSt {y : Int32} (hO : ScO M x c t a) (hC : ScC M x t n a) (K1 : ∀ q, q < n → y = Int32.ofNat q → Q (some (.int 1)) M) (K0 : Q (some (.int 0)) M) : E (h + 1) mdX5_hasState [.ref x, .int y] M Q := by
  refine KX5_hasState ?_
  unfold DX5_hasState_0 DX5_hasState_16 DX5_hasState_17
  refine ⟨fun _ => ⟨Or.inl rfl, K0⟩, fun z => ⟨hO.1.1, fun _ => ⟨Or.inl rfl, K0⟩, fun w => ⟨Or.inr rfl, ?_⟩⟩⟩
  rw [hC.1.1] at w
  obtain ⟨q, hq⟩ := nn_of z
  rw [hq.1] at w
  exact K1 q (by
    rcases Nat.lt_or_ge q n with y | y
    · exact y
    · exact absurd ((le32 (by have := hC.1.2; omega) hq.2).mpr y) w) hq.1
theorem S_grpOf {y : Int32} (hO : ScO M x c t a) (hy : y < 0 ∨ ∃ q, q < 48 ∧ y = Int32.ofNat q) (K : ∀ r : Int32, Q (some (.int r)) M) : E (h + 1) mdX5_groupOf [.ref x, .int y] M Q := by
  refine KX5_groupOf ?_
  unfold DX5_groupOf_0 DX5_groupOf_14
  refine ⟨fun z => ⟨hO.1.1, a 11, (hO.2.1 11 (by decide) (by decide)).1, (hO.2.1 11 (by decide) (by decide)).2.1, ?_, K _⟩, fun _ => K _⟩
  rcases hy with hy | ⟨q, q1, q2⟩
  · exact absurd hy (Int32.not_lt.mpr z)
  · rw [q2, hO.l48 (by decide) (by decide) (by decide) (by decide)]; exact vp_of q1 (by decide)
theorem ix_mv {t s v : Nat} (ht : t ≤ 5) (hs : s < 48) (hv : v < 2 ^ t) : Int32.ofNat s * Int32.ofNat (2 ^ t) + Int32.ofNat v = Int32.ofNat (s * 2 ^ t + v) ∧ s * 2 ^ t + v < 48 * 2 ^ t ∧ 48 * 2 ^ t ≤ 1536 := by
  obtain ⟨p1, p2⟩ := pw_le ht
  have h1 : s * 2 ^ t + 2 ^ t ≤ 48 * 2 ^ t := by
    have : (s + 1) * 2 ^ t ≤ 48 * 2 ^ t := Nat.mul_le_mul_right _ hs
    rw [Nat.succ_mul] at this
    exact this
  exact ⟨by rw [Int32.ofNat_add, Int32.ofNat_mul], by omega, by omega⟩
theorem S_mvAl {p q : Nat} (hO : ScO M x c t a) (hC : ScC M x t n a) (oc : ok M c 3) (hp : p < 48) (hq : q < 48) (K : ∀ r : Int32, Q (some (.int r)) M) : E (h + 2) mdX5_moveAlike [.ref x, .int (Int32.ofNat p), .int (Int32.ofNat q)] M Q := by
  obtain ⟨⟨ox, e0, e1, t5⟩, hf, -⟩ := id hO
  obtain ⟨p1, p2⟩ := pw_le t5
  have main : ∀ d v, v + d = 2 ^ t → T (h + 2) mdX5_moveAlike 2 [(0, .ref x), (1, .int (Int32.ofNat p)), (2, .int (Int32.ofNat q)), (3, .int (Int32.ofNat v))] [] M Q := by
    intro d
    induction d with
    | zero =>
      intro v hv
      have ev : v = 2 ^ t := hv
      subst ev
      refine VX5_moveAlike_2 (h := h + 1) ?_
      unfold DX5_moveAlike_2
      rw [e1]
      exact ⟨ox, fun _ => ⟨Or.inr rfl, K _⟩, fun z => absurd Int32.le_rfl z⟩
    | succ d ih =>
      intro v hv
      obtain ⟨i1, i2, i3⟩ := ix_mv (s := p) (v := v) t5 hp (by omega)
      obtain ⟨j1, j2, -⟩ := ix_mv (s := q) (v := v) t5 hq (by omega)
      have l1 : (Int32.ofNat (p * 2 ^ t + v)).toNatClampNeg = p * 2 ^ t + v := lt32 (by omega)
      have l2 : (Int32.ofNat (q * 2 ^ t + v)).toNatClampNeg = q * 2 ^ t + v := lt32 (by omega)
      have v1 : ∀ {f : Nat}, f = 9 ∨ f = 10 → vp_in (Int32.ofNat (p * 2 ^ t + v)) (mL M (a f)) := fun hf9 => by rw [hO.lm hf9]; exact vp_of i2 (by omega)
      have v2 : ∀ {f : Nat}, f = 9 ∨ f = 10 → vp_in (Int32.ofNat (q * 2 ^ t + v)) (mL M (a f)) := fun hf9 => by rw [hO.lm hf9]; exact vp_of j2 (by omega)
      refine VX5_moveAlike_2 (h := h + 1) ?_
      unfold DX5_moveAlike_2
      rw [e1, i1, j1, l1, l2, succ32]
      refine ⟨ox, fun z => absurd ((le32 (by omega) (by omega)).mp z) (by omega), fun _ => ⟨a 10, (hf 10 (by decide) (by decide)).1, (hf 10 (by decide) (by decide)).2.1, v1 (Or.inr rfl), a 10, (hf 10 (by decide) (by decide)).1, (hf 10 (by decide) (by decide)).2.1, v2 (Or.inr rfl), c, e0, oc, fun _ => ⟨a 9, (hf 9 (by decide) (by decide)).1, (hf 9 (by decide) (by decide)).2.1, v1 (Or.inl rfl), S_grpOf (h := h) hO (hC.2.2 _ i2) (fun r11 _ => ⟨r11, rfl, a 9, (hf 9 (by decide) (by decide)).1, (hf 9 (by decide) (by decide)).2.1, v2 (Or.inl rfl), S_grpOf (h := h) hO (hC.2.2 _ j2) (fun r15 _ => ⟨r15, rfl, fun _ => ih (v + 1) (by omega), fun _ => ⟨Or.inl rfl, K _⟩⟩)⟩)⟩, fun _ => ⟨Or.inl rfl, K _⟩⟩⟩
  refine KX5_moveAlike (h := h + 1) ?_
  unfold DX5_moveAlike_0
  exact main (2 ^ t) 0 (by omega)
theorem S_lstAl (hO : ScO M x c t a) (hC : ScC M x t n a) (oc : ok M c 3) (hs : s < 48) (K : ∀ r : Int32, Q (some (.int r)) M) : E (h + 3) mdX5_leastAlike [.ref x, .int (Int32.ofNat s)] M Q := by
  obtain ⟨⟨ox, e0, e1, t5⟩, hf, -⟩ := id hO
  have main : ∀ d i, i + d = s → T (h + 3) mdX5_leastAlike 2 [(0, .ref x), (1, .int (Int32.ofNat s)), (2, .int (Int32.ofNat i))] [] M Q := by
    intro d
    induction d with
    | zero =>
      intro i hi
      have e : i = s := hi
      subst e
      refine VX5_leastAlike_2 (h := h + 2) ?_
      unfold DX5_leastAlike_2
      exact ⟨fun _ => K _, fun z => absurd Int32.le_rfl z⟩
    | succ d ih =>
      intro i hi
      have vi : ∀ {f : Nat}, 11 ≤ f → f ≤ 12 → vp_in (Int32.ofNat i) (mL M (a f)) := fun f1 f2 => by rw [hO.l48 (by omega) f2 (by omega) (by omega)]; exact vp_of (by omega) (by decide)
      have vs : ∀ {f : Nat}, 11 ≤ f → f ≤ 12 → vp_in (Int32.ofNat s) (mL M (a f)) := fun f1 f2 => by rw [hO.l48 (by omega) f2 (by omega) (by omega)]; exact vp_of (by omega) (by decide)
      refine VX5_leastAlike_2 (h := h + 2) ?_
      unfold DX5_leastAlike_2 DX5_leastAlike_43
      rw [succ32]
      have nx := ih (i + 1) (by omega)
      exact ⟨fun z => absurd ((le32 (by omega) (by omega)).mp z) (by omega), fun _ => ⟨ox, a 12, (hf 12 (by decide) (by decide)).1, (hf 12 (by decide) (by decide)).2.1, vi (by decide) (by decide), fun _ => nx, fun _ => ⟨a 11, (hf 11 (by decide) (by decide)).1, (hf 11 (by decide) (by decide)).2.1, vi (by decide) (by decide), a 11, (hf 11 (by decide) (by decide)).1, (hf 11 (by decide) (by decide)).2.1, vs (by decide) (by decide), fun _ => nx, fun _ => S_mvAl (h := h) hO hC oc (by omega) hs (fun r _ => ⟨r, rfl, fun _ => nx, fun _ => K _⟩)⟩⟩⟩
  refine KX5_leastAlike (h := h + 2) ?_
  unfold DX5_leastAlike_0
  exact main s 0 (by omega)
theorem S_stpsTo (hO : ScO M x c t a) (hC : ScC M x t n a) (hs : s < 48) (K : ∀ r, r ≤ 48 → Q (some (.int (Int32.ofNat r))) M) : E (h + 1) mdX5_stepsTo [.ref x, .int (Int32.ofNat s)] M Q := by
  obtain ⟨⟨ox, e0, e1, t5⟩, hf, -⟩ := id hO
  have main : ∀ d k s, k + d = 48 → s < 48 → T (h + 1) mdX5_stepsTo 4 [(0, .ref x), (2, .int (Int32.ofNat k)), (3, .int (Int32.ofNat s))] [] M Q := by
    intro d
    induction d with
    | zero =>
      intro k s hk hs
      have e : k = 48 := hk
      subst e
      refine VX5_stepsTo_4 ?_
      unfold DX5_stepsTo_4 DX5_stepsTo_27
      exact ⟨fun _ => K _ (by omega), fun _ => ⟨fun _ => K _ (by omega), fun z => absurd Int32.le_rfl z⟩⟩
    | succ d ih =>
      intro k s hk hs
      refine VX5_stepsTo_4 ?_
      unfold DX5_stepsTo_4 DX5_stepsTo_27
      rw [lt32 (show s < 2147483648 by omega), succ32]
      refine ⟨fun _ => K _ (by omega), fun _ => ⟨fun _ => K _ (by omega), fun z => ⟨ox, a 7, (hf 7 (by decide) (by decide)).1, (hf 7 (by decide) (by decide)).2.1, by rw [hO.l48 (by decide) (by decide) (by decide) (by decide)]; exact vp_of hs (by decide), ?_⟩⟩⟩
      obtain ⟨q, q1, q2⟩ := hC.2.1 s hs
      rw [q2]
      exact ih (k + 1) q (by omega) q1
  refine KX5_stepsTo ?_
  unfold DX5_stepsTo_0
  exact main 48 0 s (by omega) hs
theorem S_stpTo {y : Int32} (hO : ScO M x c t a) (hC : ScC M x t n a) (hs : s < 48) (K : ∀ r : Int32, Q (some (.int r)) M) : E (h + 1) mdX5_stepTo [.ref x, .int (Int32.ofNat s), .int y] M Q := by
  obtain ⟨⟨ox, e0, e1, t5⟩, hf, -⟩ := id hO
  have d31 : ∀ s, s < 48 → DX5_stepTo_31 h x (Int32.ofNat s) M Q := fun s hs => by
    unfold DX5_stepTo_31
    exact ⟨ox, a 8, (hf 8 (by decide) (by decide)).1, (hf 8 (by decide) (by decide)).2.1, by rw [hO.l48 (by decide) (by decide) (by decide) (by decide)]; exact vp_of hs (by decide), K _⟩
  have main : ∀ d k s, k + d = 48 → s < 48 → T (h + 1) mdX5_stepTo 5 [(0, .ref x), (2, .int y), (3, .int (Int32.ofNat s)), (4, .int (Int32.ofNat k))] [] M Q := by
    intro d
    induction d with
    | zero =>
      intro k s hk hs
      have e : k = 48 := hk
      subst e
      refine VX5_stepTo_5 ?_
      unfold DX5_stepTo_5
      exact ⟨fun _ => d31 s hs, fun _ => ⟨fun _ => d31 s hs, fun z => absurd Int32.le_rfl z⟩⟩
    | succ d ih =>
      intro k s hk hs
      refine VX5_stepTo_5 ?_
      unfold DX5_stepTo_5
      rw [lt32 (show s < 2147483648 by omega), succ32]
      refine ⟨fun _ => d31 s hs, fun _ => ⟨fun _ => d31 s hs, fun z => ⟨ox, a 7, (hf 7 (by decide) (by decide)).1, (hf 7 (by decide) (by decide)).2.1, by rw [hO.l48 (by decide) (by decide) (by decide) (by decide)]; exact vp_of hs (by decide), ?_⟩⟩⟩
      obtain ⟨q, q1, q2⟩ := hC.2.1 s hs
      rw [q2]
      exact ih (k + 1) q (by omega) q1
  refine KX5_stepTo ?_
  unfold DX5_stepTo_0
  exact main 48 0 s (by omega) hs
theorem S_fstAg {y z : Int32} (hO : ScO M x c t a) (hC : ScC M x t n a) (K : ∀ r : Int32, Q (some (.int r)) M) : E (h + 1) mdX5_firstAgainst [.ref x, .int y, .int z] M Q := by
  obtain ⟨⟨ox, e0, e1, t5⟩, hf, -⟩ := id hO
  obtain ⟨p1, p2⟩ := pw_le t5
  obtain ⟨c1, c2⟩ := hC.1
  have main : ∀ d s, s + d = n → T (h + 1) mdX5_firstAgainst 2 [(0, .ref x), (1, .int y), (2, .int z), (3, .int (Int32.ofNat s))] [] M Q := by
    intro d
    induction d with
    | zero =>
      intro s hs
      have e : s = n := hs
      subst e
      refine VX5_firstAgainst_2 ?_
      unfold DX5_firstAgainst_2
      rw [c1]
      exact ⟨ox, fun _ => K _, fun z => absurd Int32.le_rfl z⟩
    | succ d ih =>
      intro s hs
      have l13 : ∀ e v, v + e = 2 ^ t → T (h + 1) mdX5_firstAgainst 13 [(0, .ref x), (1, .int y), (2, .int z), (3, .int (Int32.ofNat s)), (4, .int (Int32.ofNat v))] [] M Q := by
        intro e
        induction e with
        | zero =>
          intro v hv
          have ev : v = 2 ^ t := hv
          subst ev
          refine VX5_firstAgainst_13 ?_
          unfold DX5_firstAgainst_13
          rw [e1, succ32]
          exact ⟨ox, fun _ => ih (s + 1) (by omega), fun z => absurd Int32.le_rfl z⟩
        | succ e ihe =>
          intro v hv
          obtain ⟨i1, i2, i3⟩ := ix_mv (s := s) (v := v) t5 (by omega) (by omega)
          refine VX5_firstAgainst_13 ?_
          unfold DX5_firstAgainst_13 DX5_firstAgainst_60
          rw [e1, i1, succ32, succ32]
          have nx := ihe (v + 1) (by omega)
          exact ⟨ox, fun z => absurd ((le32 (by omega) (by omega)).mp z) (by omega), fun _ => ⟨a 10, (hf 10 (by decide) (by decide)).1, (hf 10 (by decide) (by decide)).2.1, by rw [hO.lm (Or.inr rfl)]; exact vp_of i2 (by omega), fun _ => nx, fun _ => ⟨fun _ => nx, fun _ => K _⟩⟩⟩
      refine VX5_firstAgainst_2 ?_
      unfold DX5_firstAgainst_2
      rw [c1]
      exact ⟨ox, fun z => absurd ((le32 (by omega) (by omega)).mp z) (by omega), fun _ => l13 (2 ^ t) 0 (by omega)⟩
  refine KX5_firstAgainst ?_
  unfold DX5_firstAgainst_0
  exact main n 0 (by omega)
end
