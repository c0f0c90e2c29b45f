section
/-! the class's Search: its rows, and the methods that only look at them -/
def ScO (M : Mem) (x c t : Nat) (a : Nat → Nat) : Prop := (ok M x 7 ∧ mR M x 0 = some c ∧ mI M x 1 = Int32.ofNat (2 ^ t) ∧ t ≤ 5) ∧ (∀ f, 5 ≤ f → f ≤ 12 → mR M x f = some (a f) ∧ ok M (a f) 21 ∧ mL M (a f) = if f = 9 ∨ f = 10 then 48 * 2 ^ t else 48) ∧ ∀ f g, 5 ≤ f → f ≤ 12 → 5 ≤ g → g ≤ 12 → a f = a g → f = g
def ScC (M : Mem) (x t n : Nat) (a : Nat → Nat) : Prop := (mI M x 3 = Int32.ofNat n ∧ n ≤ 48) ∧ (∀ s, s < 48 → ∃ q, q < 48 ∧ mAI M (a 7) s = Int32.ofNat q) ∧ ∀ j, j < 48 * 2 ^ t → mAI M (a 9) j < 0 ∨ ∃ q, q < 48 ∧ mAI M (a 9) j = Int32.ofNat q
abbrev f23 (f : Nat) : Prop := f = 2 ∨ f = 3
section
variable {M M' M1 : Mem} {x c t n s h : Nat} {a : Nat → Nat} {Q : Option Value → Mem → Prop} {S : Nat → Prop}
theorem nn_of {y : Int32} (z : ¬ y < 0) : ∃ q, y = Int32.ofNat q ∧ q < 2147483648 := by
  have b1 := Int32.toInt_lt y
  have b2 := Int32.le_toInt y
  refine ⟨y.toNatClampNeg, ?_, ?_⟩
  · ((try simp only [Int32.toNatClampNeg, Int32.lt_iff_toInt_lt, Int32.le_iff_toInt_le, ← Int32.toInt_inj, j_add, j_sub, j_neg, j_mul, j_nat, Int32.reduceToInt, vp_in] at z ⊢); omega)
  · ((try simp only [Int32.toNatClampNeg, Int32.lt_iff_toInt_lt, Int32.le_iff_toInt_le, ← Int32.toInt_inj, j_add, j_sub, j_neg, j_mul, j_nat, Int32.reduceToInt, vp_in] at z ⊢); omega)
theorem ScO.gm {fs : Nat → Prop} (h : ScO M x c t a) (k : GmF x fs S M M') (h1 : ¬ fs 1) : ScO M' x c t a := by
  obtain ⟨⟨a1, a2, a3, a4⟩, b, d⟩ := h
  exact ⟨⟨k.ok a1, by rw [k.2.1.2.1]; exact a2, by rw [k.2.2.2.1 1 h1]; exact a3, a4⟩, fun f f1 f2 => ⟨by rw [k.2.1.2.1]; exact (b f f1 f2).1, k.ok (b f f1 f2).2.1, by rw [k.1.2.2.2]; exact (b f f1 f2).2.2⟩, d⟩
theorem ScO.l48 (h : ScO M x c t a) {f : Nat} (f1 : 5 ≤ f) (f2 : f ≤ 12) (f3 : f ≠ 9) (f4 : f ≠ 10) : mL M (a f) = 48 := by
  rw [(h.2.1 f f1 f2).2.2, if_neg (by omega)]
theorem ScO.lm (h : ScO M x c t a) {f : Nat} (f3 : f = 9 ∨ f = 10) : mL M (a f) = 48 * 2 ^ t := by
  rw [(h.2.1 f (by omega) (by omega)).2.2, if_pos f3]
theorem GmF.cpn {g b c n : Nat} {fs : Nat → Prop} (hc : S c) (e : M' = wCp M b c 0 0 n) : GmF g fs S M M' := by
  rw [e]
  exact ⟨⟨rfl, rfl, rfl, rfl⟩, ⟨rfl, rfl, rfl, rfl⟩, fun _ _ => rfl, fun _ _ => rfl, fun c' z => va_up_ne _ _ (fun y => z (by rw [y]; exact hc))⟩
theorem S_befM {bc : Nat} (ox : ok M x 2) (e8 : mR M x 8 = some bc) (ob : ok M bc 21) (lb : mL M bc = 16) (K : ∀ r : Int32, Q (some (.int r)) M) : E (h + 1) mdX0_beforeMask [.ref x] M Q := by
  have main : ∀ d i (y : Int32), i + d = 16 → T (h + 1) mdX0_beforeMask 4 [(0, .ref x), (1, .int y), (2, .int (Int32.ofNat i))] [] M Q := by
    intro d
    induction d with
    | zero =>
      intro i y hi
      have e : i = 16 := hi
      subst e
      refine VX0_beforeMask_4 ?_
      unfold DX0_beforeMask_4
      exact ⟨ox, bc, e8, ob, fun _ => K _, fun z => absurd (by rw [lb]; exact Int32.le_rfl) z⟩
    | succ d ih =>
      intro i y hi
      refine VX0_beforeMask_4 ?_
      unfold DX0_beforeMask_4 DX0_beforeMask_28
      rw [succ32]
      exact ⟨ox, bc, e8, ob, fun z => absurd ((le32 (by rw [lb]; decide) (by omega)).mp z) (by rw [lb]; omega), fun _ => ⟨bc, e8, ob, by rw [lb]; exact vp_of (by omega) (by decide), fun _ => ih (i + 1) _ (by omega), fun _ => ih (i + 1) _ (by omega)⟩⟩
  refine KX0_beforeMask ?_
  unfold DX0_beforeMask_0
  exact main 16 0 0 (by omega)
theorem S_hasSt {y : Int32} (hO : ScO M x c t a) (hC : ScC M x t n a) (K1 : ∀ q, q < n → y = Int32.ofNat q → Q (some (.int 1)) M) (K0 : Q (some (.int 0)) M) : E (h + 1) mdX5_hasState [.ref x, .int y] M Q := by
  refine KX5_hasState ?_
  unfold DX5_hasState_0 DX5_hasState_16 DX5_hasState_17
  refine ⟨fun _ => ⟨Or.inl rfl, K0⟩, fun z => ⟨hO.1.1, fun _ => ⟨Or.inl rfl, K0⟩, fun w => ⟨Or.inr rfl, ?_⟩⟩⟩
  rw [hC.1.1] at w
  obtain ⟨q, hq⟩ := nn_of z
  rw [hq.1] at w
  exact K1 q (by
    rcases Nat.lt_or_ge q n with y | y
    · exact y
    · exact absurd ((le32 (by have := hC.1.2; omega) hq.2).mpr y) w) hq.1
theorem S_grpOf {y : Int32} (hO : ScO M x c t a) (hy : y < 0 ∨ ∃ q, q < 48 ∧ y = Int32.ofNat q) (K : ∀ r : Int32, Q (some (.int r)) M) : E (h + 1) mdX5_groupOf [.ref x, .int y] M Q := by
  refine KX5_groupOf ?_
  unfold DX5_groupOf_0 DX5_groupOf_14
  refine ⟨fun z => ⟨hO.1.1, a 11, (hO.2.1 11 (by decide) (by decide)).1, (hO.2.1 11 (by decide) (by decide)).2.1, ?_, K _⟩, fun _ => K _⟩
  rcases hy with hy | ⟨q, q1, q2⟩
  · exact absurd hy (Int32.not_lt.mpr z)
  · rw [q2, hO.l48 (by decide) (by decide) (by decide) (by decide)]; exact vp_of q1 (by decide)
theorem ix_mv {t s v : Nat} (ht : t ≤ 5) (hs : s < 48) (hv : v < 2 ^ t) : Int32.ofNat s * Int32.ofNat (2 ^ t) + Int32.ofNat v = Int32.ofNat (s * 2 ^ t + v) ∧ s * 2 ^ t + v < 48 * 2 ^ t ∧ 48 * 2 ^ t ≤ 1536 := by
  obtain ⟨p1, p2⟩ := pw_le ht
  have h1 : s * 2 ^ t + 2 ^ t ≤ 48 * 2 ^ t := by
    have : (s + 1) * 2 ^ t ≤ 48 * 2 ^ t := Nat.mul_le_mul_right _ hs
    rw [Nat.succ_mul] at this
    exact this
  exact ⟨by rw [Int32.ofNat_add, Int32.ofNat_mul], by omega, by omega⟩
theorem S_mvAl {p q : Nat} (hO : ScO M x c t a) (hC : ScC M x t n a) (oc : ok M c 3) (hp : p < 48) (hq : q < 48) (K : ∀ r : Int32, Q (some (.int r)) M) : E (h + 2) mdX5_moveAlike [.ref x, .int (Int32.ofNat p), .int (Int32.ofNat q)] M Q := by
  obtain ⟨⟨ox, e0, e1, t5⟩, hf, -⟩ := id hO
  obtain ⟨p1, p2⟩ := pw_le t5
  have main : ∀ d v, v + d = 2 ^ t → T (h + 2) mdX5_moveAlike 2 [(0, .ref x), (1, .int (Int32.ofNat p)), (2, .int (Int32.ofNat q)), (3, .int (Int32.ofNat v))] [] M Q := by
    intro d
    induction d with
    | zero =>
      intro v hv
      have ev : v = 2 ^ t := hv
      subst ev
      refine VX5_moveAlike_2 (h := h + 1) ?_
      unfold DX5_moveAlike_2
      rw [e1]
      exact ⟨ox, fun _ => ⟨Or.inr rfl, K _⟩, fun z => absurd Int32.le_rfl z⟩
    | succ d ih =>
      intro v hv
      obtain ⟨i1, i2, i3⟩ := ix_mv (s := p) (v := v) t5 hp (by omega)
      obtain ⟨j1, j2, -⟩ := ix_mv (s := q) (v := v) t5 hq (by omega)
      have l1 : (Int32.ofNat (p * 2 ^ t + v)).toNatClampNeg = p * 2 ^ t + v := lt32 (by omega)
      have l2 : (Int32.ofNat (q * 2 ^ t + v)).toNatClampNeg = q * 2 ^ t + v := lt32 (by omega)
      have v1 : ∀ {f : Nat}, f = 9 ∨ f = 10 → vp_in (Int32.ofNat (p * 2 ^ t + v)) (mL M (a f)) := fun hf9 => by rw [hO.lm hf9]; exact vp_of i2 (by omega)
      have v2 : ∀ {f : Nat}, f = 9 ∨ f = 10 → vp_in (Int32.ofNat (q * 2 ^ t + v)) (mL M (a f)) := fun hf9 => by rw [hO.lm hf9]; exact vp_of j2 (by omega)
      refine VX5_moveAlike_2 (h := h + 1) ?_
      unfold DX5_moveAlike_2
      rw [e1, i1, j1, l1, l2, succ32]
      refine ⟨ox, fun z => absurd ((le32 (by omega) (by omega)).mp z) (by omega), fun _ => ⟨a 10, (hf 10 (by decide) (by decide)).1, (hf 10 (by decide) (by decide)).2.1, v1 (Or.inr rfl), a 10, (hf 10 (by decide) (by decide)).1, (hf 10 (by decide) (by decide)).2.1, v2 (Or.inr rfl), c, e0, oc, fun _ => ⟨a 9, (hf 9 (by decide) (by decide)).1, (hf 9 (by decide) (by decide)).2.1, v1 (Or.inl rfl), S_grpOf (h := h) hO (hC.2.2 _ i2) (fun r11 _ => ⟨r11, rfl, a 9, (hf 9 (by decide) (by decide)).1, (hf 9 (by decide) (by decide)).2.1, v2 (Or.inl rfl), S_grpOf (h := h) hO (hC.2.2 _ j2) (fun r15 _ => ⟨r15, rfl, fun _ => ih (v + 1) (by omega), fun _ => ⟨Or.inl rfl, K _⟩⟩)⟩)⟩, fun _ => ⟨Or.inl rfl, K _⟩⟩⟩
  refine KX5_moveAlike (h := h + 1) ?_
  unfold DX5_moveAlike_0
  exact main (2 ^ t) 0 (by omega)
theorem S_lstAl (hO : ScO M x c t a) (hC : ScC M x t n a) (oc : ok M c 3) (hs : s < 48) (K : ∀ r : Int32, Q (some (.int r)) M) : E (h + 3) mdX5_leastAlike [.ref x, .int (Int32.ofNat s)] M Q := by
  obtain ⟨⟨ox, e0, e1, t5⟩, hf, -⟩ := id hO
  have main : ∀ d i, i + d = s → T (h + 3) mdX5_leastAlike 2 [(0, .ref x), (1, .int (Int32.ofNat s)), (2, .int (Int32.ofNat i))] [] M Q := by
    intro d
    induction d with
    | zero =>
      intro i hi
      have e : i = s := hi
      subst e
      refine VX5_leastAlike_2 (h := h + 2) ?_
      unfold DX5_leastAlike_2
      exact ⟨fun _ => K _, fun z => absurd Int32.le_rfl z⟩
    | succ d ih =>
      intro i hi
      have vi : ∀ {f : Nat}, 11 ≤ f → f ≤ 12 → vp_in (Int32.ofNat i) (mL M (a f)) := fun f1 f2 => by rw [hO.l48 (by omega) f2 (by omega) (by omega)]; exact vp_of (by omega) (by decide)
      have vs : ∀ {f : Nat}, 11 ≤ f → f ≤ 12 → vp_in (Int32.ofNat s) (mL M (a f)) := fun f1 f2 => by rw [hO.l48 (by omega) f2 (by omega) (by omega)]; exact vp_of (by omega) (by decide)
      refine VX5_leastAlike_2 (h := h + 2) ?_
      unfold DX5_leastAlike_2 DX5_leastAlike_43
      rw [succ32]
      have nx := ih (i + 1) (by omega)
      exact ⟨fun z => absurd ((le32 (by omega) (by omega)).mp z) (by omega), fun _ => ⟨ox, a 12, (hf 12 (by decide) (by decide)).1, (hf 12 (by decide) (by decide)).2.1, vi (by decide) (by decide), fun _ => nx, fun _ => ⟨a 11, (hf 11 (by decide) (by decide)).1, (hf 11 (by decide) (by decide)).2.1, vi (by decide) (by decide), a 11, (hf 11 (by decide) (by decide)).1, (hf 11 (by decide) (by decide)).2.1, vs (by decide) (by decide), fun _ => nx, fun _ => S_mvAl (h := h) hO hC oc (by omega) hs (fun r _ => ⟨r, rfl, fun _ => nx, fun _ => K _⟩)⟩⟩⟩
  refine KX5_leastAlike (h := h + 2) ?_
  unfold DX5_leastAlike_0
  exact main s 0 (by omega)
theorem S_stpsTo (hO : ScO M x c t a) (hC : ScC M x t n a) (hs : s < 48) (K : ∀ r, r ≤ 48 → Q (some (.int (Int32.ofNat r))) M) : E (h + 1) mdX5_stepsTo [.ref x, .int (Int32.ofNat s)] M Q := by
  obtain ⟨⟨ox, e0, e1, t5⟩, hf, -⟩ := id hO
  have main : ∀ d k s, k + d = 48 → s < 48 → T (h + 1) mdX5_stepsTo 4 [(0, .ref x), (2, .int (Int32.ofNat k)), (3, .int (Int32.ofNat s))] [] M Q := by
    intro d
    induction d with
    | zero =>
      intro k s hk hs
      have e : k = 48 := hk
      subst e
      refine VX5_stepsTo_4 ?_
      unfold DX5_stepsTo_4 DX5_stepsTo_27
      exact ⟨fun _ => K _ (by omega), fun _ => ⟨fun _ => K _ (by omega), fun z => absurd Int32.le_rfl z⟩⟩
    | succ d ih =>
      intro k s hk hs
      refine VX5_stepsTo_4 ?_
      unfold DX5_stepsTo_4 DX5_stepsTo_27
      rw [lt32 (show s < 2147483648 by omega), succ32]
      refine ⟨fun _ => K _ (by omega), fun _ => ⟨fun _ => K _ (by omega), fun z => ⟨ox, a 7, (hf 7 (by decide) (by decide)).1, (hf 7 (by decide) (by decide)).2.1, by rw [hO.l48 (by decide) (by decide) (by decide) (by decide)]; exact vp_of hs (by decide), ?_⟩⟩⟩
      obtain ⟨q, q1, q2⟩ := hC.2.1 s hs
      rw [q2]
      exact ih (k + 1) q (by omega) q1
  refine KX5_stepsTo ?_
  unfold DX5_stepsTo_0
  exact main 48 0 s (by omega) hs
theorem S_stpTo {y : Int32} (hO : ScO M x c t a) (hC : ScC M x t n a) (hs : s < 48) (K : ∀ r : Int32, Q (some (.int r)) M) : E (h + 1) mdX5_stepTo [.ref x, .int (Int32.ofNat s), .int y] M Q := by
  obtain ⟨⟨ox, e0, e1, t5⟩, hf, -⟩ := id hO
  have d31 : ∀ s, s < 48 → DX5_stepTo_31 h x (Int32.ofNat s) M Q := fun s hs => by
    unfold DX5_stepTo_31
    exact ⟨ox, a 8, (hf 8 (by decide) (by decide)).1, (hf 8 (by decide) (by decide)).2.1, by rw [hO.l48 (by decide) (by decide) (by decide) (by decide)]; exact vp_of hs (by decide), K _⟩
  have main : ∀ d k s, k + d = 48 → s < 48 → T (h + 1) mdX5_stepTo 5 [(0, .ref x), (2, .int y), (3, .int (Int32.ofNat s)), (4, .int (Int32.ofNat k))] [] M Q := by
    intro d
    induction d with
    | zero =>
      intro k s hk hs
      have e : k = 48 := hk
      subst e
      refine VX5_stepTo_5 ?_
      unfold DX5_stepTo_5
      exact ⟨fun _ => d31 s hs, fun _ => ⟨fun _ => d31 s hs, fun z => absurd Int32.le_rfl z⟩⟩
    | succ d ih =>
      intro k s hk hs
      refine VX5_stepTo_5 ?_
      unfold DX5_stepTo_5
      rw [lt32 (show s < 2147483648 by omega), succ32]
      refine ⟨fun _ => d31 s hs, fun _ => ⟨fun _ => d31 s hs, fun z => ⟨ox, a 7, (hf 7 (by decide) (by decide)).1, (hf 7 (by decide) (by decide)).2.1, by rw [hO.l48 (by decide) (by decide) (by decide) (by decide)]; exact vp_of hs (by decide), ?_⟩⟩⟩
      obtain ⟨q, q1, q2⟩ := hC.2.1 s hs
      rw [q2]
      exact ih (k + 1) q (by omega) q1
  refine KX5_stepTo ?_
  unfold DX5_stepTo_0
  exact main 48 0 s (by omega) hs
theorem S_fstAg {y z : Int32} (hO : ScO M x c t a) (hC : ScC M x t n a) (K : ∀ r : Int32, Q (some (.int r)) M) : E (h + 1) mdX5_firstAgainst [.ref x, .int y, .int z] M Q := by
  obtain ⟨⟨ox, e0, e1, t5⟩, hf, -⟩ := id hO
  obtain ⟨p1, p2⟩ := pw_le t5
  obtain ⟨c1, c2⟩ := hC.1
  have main : ∀ d s, s + d = n → T (h + 1) mdX5_firstAgainst 2 [(0, .ref x), (1, .int y), (2, .int z), (3, .int (Int32.ofNat s))] [] M Q := by
    intro d
    induction d with
    | zero =>
      intro s hs
      have e : s = n := hs
      subst e
      refine VX5_firstAgainst_2 ?_
      unfold DX5_firstAgainst_2
      rw [c1]
      exact ⟨ox, fun _ => K _, fun z => absurd Int32.le_rfl z⟩
    | succ d ih =>
      intro s hs
      have l13 : ∀ e v, v + e = 2 ^ t → T (h + 1) mdX5_firstAgainst 13 [(0, .ref x), (1, .int y), (2, .int z), (3, .int (Int32.ofNat s)), (4, .int (Int32.ofNat v))] [] M Q := by
        intro e
        induction e with
        | zero =>
          intro v hv
          have ev : v = 2 ^ t := hv
          subst ev
          refine VX5_firstAgainst_13 ?_
          unfold DX5_firstAgainst_13
          rw [e1, succ32]
          exact ⟨ox, fun _ => ih (s + 1) (by omega), fun z => absurd Int32.le_rfl z⟩
        | succ e ihe =>
          intro v hv
          obtain ⟨i1, i2, i3⟩ := ix_mv (s := s) (v := v) t5 (by omega) (by omega)
          refine VX5_firstAgainst_13 ?_
          unfold DX5_firstAgainst_13 DX5_firstAgainst_60
          rw [e1, i1, succ32, succ32]
          have nx := ihe (v + 1) (by omega)
          exact ⟨ox, fun z => absurd ((le32 (by omega) (by omega)).mp z) (by omega), fun _ => ⟨a 10, (hf 10 (by decide) (by decide)).1, (hf 10 (by decide) (by decide)).2.1, by rw [hO.lm (Or.inr rfl)]; exact vp_of i2 (by omega), fun _ => nx, fun _ => ⟨fun _ => nx, fun _ => K _⟩⟩⟩
      refine VX5_firstAgainst_2 ?_
      unfold DX5_firstAgainst_2
      rw [c1]
      exact ⟨ox, fun z => absurd ((le32 (by omega) (by omega)).mp z) (by omega), fun _ => l13 (2 ^ t) 0 (by omega)⟩
  refine KX5_firstAgainst ?_
  unfold DX5_firstAgainst_0
  exact main n 0 (by omega)
end
end
section
/-! the class's Search: reach, groupAlike -/
def rwF (a : Nat → Nat) (r : Nat) : Prop := ∃ f, 5 ≤ f ∧ f ≤ 12 ∧ r = a f
section
variable {M M' M1 : Mem} {x c t n s h : Nat} {a : Nat → Nat} {Q : Option Value → Mem → Prop} {S : Nat → Prop}
theorem pw_1 {t : Nat} (h : t ≤ 5) : (1 : Int32) <<< (Int32.ofNat t &&& 31) = Int32.ofNat (2 ^ t) := by
  have : ∀ t : Fin 6, (1 : Int32) <<< (Int32.ofNat t.val &&& 31) = Int32.ofNat (2 ^ t.val) := by decide
  exact this ⟨t, by omega⟩
theorem nn32 {n : Nat} (h : n ≤ 48) : ¬ Int32.ofNat n < 0 := fun z => by
  have := (ltn32 (a := n) (b := 0) (by omega) (by decide)).mp z
  omega
theorem ScC.k (h : ScC M x t n a) (e3 : mI M' x 3 = mI M x 3) (e7 : mAI M' (a 7) = mAI M (a 7)) (e9 : mAI M' (a 9) = mAI M (a 9)) : ScC M' x t n a := by
  unfold ScC
  rw [e3, e7, e9]
  exact h
theorem ScO.ne (h : ScO M x c t a) {f g : Nat} (f1 : 5 ≤ f) (f2 : f ≤ 12) (g1 : 5 ≤ g) (g2 : g ≤ 12) (hn : f ≠ g) : a f ≠ a g := fun z => hn (h.2.2 f g f1 f2 g1 g2 z)
theorem ScC.nx {k : Nat} {v : Int32} (h : ScC M x t n a) (hO : ScO M x c t a) (hv : v < 0 ∨ ∃ q, q < 48 ∧ v = Int32.ofNat q) (e : M' = wAI M (a 9) k v) : ScC M' x t n a := by
  obtain ⟨c1, c2, c3⟩ := h
  refine ⟨by rw [e]; exact c1, ?_, fun j hj => ?_⟩
  · rw [aiN e (hO.ne (by decide) (by decide) (by decide) (by decide) (by decide))]; exact c2
  · rw [e, mAI_wAI]
    by_cases z : j = k
    · rw [if_pos ⟨rfl, z⟩]; exact hv
    · rw [if_neg (fun y => z y.2)]; exact c3 j hj
theorem S_reach {v w b : Int32} (hO : ScO M x c t a) (hC : ScC M x t n a) (hs : s < 48) (K : ∀ M' n' (r : Int32), GmF x f23 (rwF a) M M' → ScC M' x t n' a → n ≤ n' → (mI M' x 2 = mI M x 2 ∨ mI M' x 2 = 1) → (r < 0 ∨ ∃ q, q < 48 ∧ r = Int32.ofNat q) → Q (some (.int r)) M') : E (h + 1) mdX5_reach [.ref x, .int (Int32.ofNat s), .int v, .int w, .int b] M Q := by
  obtain ⟨⟨ox, e0, e1, t5⟩, hf, hd⟩ := id hO
  obtain ⟨⟨c1, c2⟩, c3, c4⟩ := id hC
  have hEnd : ∀ k (y : Int32), n ≤ k → k ≤ 48 → DX5_reach_12 h x (Int32.ofNat s) v w y (Int32.ofNat k) M Q := by
    intro k y hk hk8
    have ln : (Int32.ofNat n).toNatClampNeg = n := lt32 (by omega)
    unfold DX5_reach_12
    rw [c1]
    refine ⟨ox, fun _ => ⟨fun z => ?_, fun z => ⟨Or.inr rfl, fun M15 e15 => ?_⟩⟩, fun z => absurd ((le32 (by omega) (by omega)).mpr hk) z⟩
    · have nlt : n < 48 := (ltn32 (a := n) (b := 48) (by omega) (by decide)).mp z
      have vn : ∀ {M1 : Mem} {f : Nat}, ScO M1 x c t a → 5 ≤ f → f ≤ 8 → vp_in (Int32.ofNat n) (mL M1 (a f)) := fun hO1 f1 f2 => by rw [hO1.l48 f1 (by omega) (by omega) (by omega)]; exact vp_of nlt (by decide)
      refine ⟨a 5, (hf 5 (by decide) (by decide)).1, (hf 5 (by decide) (by decide)).2.1, vn hO (by decide) (by decide), fun M4 e4 => ?_⟩
      have k4 : GmF x f23 (rwF a) M M4 := GmF.a ⟨5, by decide, by decide, rfl⟩ e4
      have O4 := hO.gm k4 (by decide)
      have i4 : mI M4 x 3 = Int32.ofNat n := by rw [e4]; exact c1
      rw [i4]
      refine ⟨a 6, (O4.2.1 6 (by decide) (by decide)).1, (O4.2.1 6 (by decide) (by decide)).2.1, vn O4 (by decide) (by decide), fun M7 e7 => ?_⟩
      have k7 : GmF x f23 (rwF a) M M7 := k4.tr (GmF.a ⟨6, by decide, by decide, rfl⟩ e7)
      have O7 := hO.gm k7 (by decide)
      have i7 : mI M7 x 3 = Int32.ofNat n := by rw [e7]; exact i4
      rw [i7]
      refine ⟨a 7, (O7.2.1 7 (by decide) (by decide)).1, (O7.2.1 7 (by decide) (by decide)).2.1, vn O7 (by decide) (by decide), fun M10 e10 => ?_⟩
      have k10 : GmF x f23 (rwF a) M M10 := k7.tr (GmF.a ⟨7, by decide, by decide, rfl⟩ e10)
      have O10 := hO.gm k10 (by decide)
      have i10 : mI M10 x 3 = Int32.ofNat n := by rw [e10]; exact i7
      rw [i10]
      refine ⟨a 8, (O10.2.1 8 (by decide) (by decide)).1, (O10.2.1 8 (by decide) (by decide)).2.1, vn O10 (by decide) (by decide), fun M13 e13 M14 e14 => ?_⟩
      have i13 : mI M13 x 3 = Int32.ofNat n := by rw [e13]; exact i10
      rw [i13, succ32] at e14
      have k14 : GmF x f23 (rwF a) M M14 := (k10.tr (GmF.a ⟨8, by decide, by decide, rfl⟩ e13)).tr (GmF.i (Or.inr rfl) e14)
      have i14 : mI M14 x 3 = Int32.ofNat (n + 1) := by rw [e14, mI_wI, if_pos ⟨rfl, rfl⟩]
      have a14 : mAI M14 = mAI M13 := by rw [e14]; rfl
      rw [i14, ← succ32, Int32.add_sub_cancel]
      refine K M14 (n + 1) _ k14 ⟨⟨i14, by omega⟩, fun q hq => ?_, fun j hj => ?_⟩ (by omega) (Or.inl ?_) (Or.inr ⟨n, nlt, rfl⟩)
      · rw [a14, aiN e13 (hO.ne (by decide) (by decide) (by decide) (by decide) (by decide)), e10, mAI_wAI]
        by_cases z : q = n
        · rw [if_pos ⟨rfl, by rw [ln]; exact z⟩]; exact ⟨s, hs, rfl⟩
        · rw [if_neg (fun y => z (by rw [← ln]; exact y.2)), aiN e7 (hO.ne (by decide) (by decide) (by decide) (by decide) (by decide)), aiN e4 (hO.ne (by decide) (by decide) (by decide) (by decide) (by decide))]; exact c3 q hq
      · rw [a14, aiN e13 (hO.ne (by decide) (by decide) (by decide) (by decide) (by decide)), aiN e10 (hO.ne (by decide) (by decide) (by decide) (by decide) (by decide)), aiN e7 (hO.ne (by decide) (by decide) (by decide) (by decide) (by decide)), aiN e4 (hO.ne (by decide) (by decide) (by decide) (by decide) (by decide))]; exact c4 j hj
      · rw [e14, mI_wI, if_neg (fun y => absurd y.2 (by decide)), e13, e10, e7, e4]; rfl
    · refine K M15 n _ (GmF.i (Or.inl rfl) e15) (hC.k ?_ ?_ ?_) (Nat.le_refl _) (Or.inr ?_) (Or.inl (by decide))
      · rw [e15, mI_wI, if_neg (fun y => absurd y.2 (by decide))]
      · rw [e15]; rfl
      · rw [e15]; rfl
      · rw [e15, mI_wI, if_pos ⟨rfl, rfl⟩]
  have main : ∀ d k (y : Int32), k + d = 48 → T (h + 1) mdX5_reach 12 [(0, .ref x), (1, .int (Int32.ofNat s)), (2, .int v), (3, .int w), (5, .int y), (6, .int (Int32.ofNat k))] [] M Q := by
    intro d
    induction d with
    | zero =>
      intro k y hk
      have ek : k = 48 := hk
      exact VX5_reach_12 (hEnd k y (by omega) (by omega))
    | succ d ih =>
      intro k y hk
      by_cases z : n ≤ k
      · exact VX5_reach_12 (hEnd k y z (by omega))
      · have vk : ∀ {f : Nat}, 5 ≤ f → f ≤ 8 → vp_in (Int32.ofNat k) (mL M (a f)) := fun f1 f2 => by rw [hO.l48 f1 (by omega) (by omega) (by omega)]; exact vp_of (by omega) (by decide)
        refine VX5_reach_12 ?_
        unfold DX5_reach_12 DX5_reach_47
        rw [c1, succ32]
        have nx := ih (k + 1) y (by omega)
        exact ⟨ox, fun w => absurd ((le32 (by omega) (by omega)).mp w) z, fun _ => ⟨a 5, (hf 5 (by decide) (by decide)).1, (hf 5 (by decide) (by decide)).2.1, vk (by decide) (by decide), fun _ => nx, fun _ => ⟨a 6, (hf 6 (by decide) (by decide)).1, (hf 6 (by decide) (by decide)).2.1, vk (by decide) (by decide), fun _ => nx, fun _ => K M n _ GmF.rf hC (Nat.le_refl _) (Or.inl rfl) (Or.inr ⟨k, by omega, rfl⟩)⟩⟩⟩
  refine KX5_reach ?_
  unfold DX5_reach_0
  exact ⟨ox, main 47 1 _ (by omega)⟩
theorem S_grpAl (hO : ScO M x c t a) (hC : ScC M x t n a) (oc : ok M c 3) (K : ∀ M', GmF x noP (fun r => r = a 11 ∨ r = a 12) M M' → Q none M') : E (h + 4) mdX5_groupAlike [.ref x] M Q := by
  obtain ⟨c1, c2⟩ := hC.1
  have keep : ∀ M1, GmF x noP (fun r => r = a 11 ∨ r = a 12) M M1 → ScO M1 x c t a ∧ ScC M1 x t n a ∧ ok M1 c 3 := fun M1 k => ⟨hO.gm k (fun z => z), hC.k (k.2.2.2.1 3 (fun z => z)) (k.2.2.2.2 (a 7) (fun z => z.elim (hO.ne (by decide) (by decide) (by decide) (by decide) (by decide)) (hO.ne (by decide) (by decide) (by decide) (by decide) (by decide)))) (k.2.2.2.2 (a 9) (fun z => z.elim (hO.ne (by decide) (by decide) (by decide) (by decide) (by decide)) (hO.ne (by decide) (by decide) (by decide) (by decide) (by decide)))), k.ok oc⟩
  have ln : (Int32.ofNat n).toNatClampNeg = n := lt32 (by omega)
  have l4 : ∀ d r (x1 : Int32) M1, r + d = 49 → GmF x noP (fun r => r = a 11 ∨ r = a 12) M M1 → T (h + 4) mdX5_groupAlike 4 [(0, .ref x), (1, .int x1), (2, .int (Int32.ofNat r))] [] M1 Q := by
    intro d
    induction d with
    | zero =>
      intro r x1 M1 hr k1
      have er : r = 49 := hr
      subst er
      refine VX5_groupAlike_4 (h := h + 3) ?_
      unfold DX5_groupAlike_4 DX5_groupAlike_91
      exact ⟨fun _ => K M1 k1, fun z => absurd (by decide) z⟩
    | succ d ih =>
      intro r x1 M1 hr k1
      have l18 : ∀ e s (x1 : Int32) M2, s + e = n → GmF x noP (fun r => r = a 11 ∨ r = a 12) M M2 → T (h + 4) mdX5_groupAlike 18 [(0, .ref x), (1, .int x1), (2, .int (Int32.ofNat r)), (3, .int (Int32.ofNat s))] [] M2 Q := by
        intro e
        induction e with
        | zero =>
          intro s x1 M2 hs k2
          have es : s = n := hs
          subst es
          obtain ⟨O2, C2, oc2⟩ := keep M2 k2
          refine VX5_groupAlike_18 (h := h + 3) ?_
          unfold DX5_groupAlike_18
          rw [C2.1.1, ln, succ32]
          refine ⟨O2.1.1, fun _ => ⟨a 12, (O2.2.1 12 (by decide) (by decide)).1, a 11, (O2.2.1 11 (by decide) (by decide)).1, (O2.2.1 12 (by decide) (by decide)).2.1, (O2.2.1 11 (by decide) (by decide)).2.1, ⟨by decide, by decide, nn32 c2, ?_, ?_⟩, fun M6 e6 => ih (r + 1) x1 M6 (by omega) (k2.tr (GmF.cpn (Or.inl rfl) e6))⟩, fun z => absurd Int32.le_rfl z⟩
          · rw [O2.l48 (by decide) (by decide) (by decide) (by decide)]; show 0 + s ≤ 48; omega
          · rw [O2.l48 (by decide) (by decide) (by decide) (by decide)]; show 0 + s ≤ 48; omega
        | succ e ihe =>
          intro s x1 M2 hs k2
          obtain ⟨O2, C2, oc2⟩ := keep M2 k2
          have ls : (Int32.ofNat s).toNatClampNeg = s := lt32 (by omega)
          refine VX5_groupAlike_18 (h := h + 3) ?_
          unfold DX5_groupAlike_18 DX5_groupAlike_56 DX5_groupAlike_61
          rw [C2.1.1, succ32, succ32]
          refine ⟨O2.1.1, fun z => absurd ((le32 (by omega) (by omega)).mp z) (by omega), fun _ => ⟨a 12, (O2.2.1 12 (by decide) (by decide)).1, S_lstAl (h := h) O2 C2 oc2 (by omega) (fun r9 _ => ⟨r9, rfl, (O2.2.1 12 (by decide) (by decide)).2.1, by rw [O2.l48 (by decide) (by decide) (by decide) (by decide)]; exact vp_of (by omega) (by decide), fun M11 e11 => ?_⟩)⟩⟩
          have k11 : GmF x noP (fun r => r = a 11 ∨ r = a 12) M M11 := k2.tr (GmF.a (Or.inr rfl) e11)
          obtain ⟨O11, -, -⟩ := keep M11 k11
          have v11 : ∀ {f : Nat}, 11 ≤ f → f ≤ 12 → vp_in (Int32.ofNat s) (mL M11 (a f)) := fun f1 f2 => by rw [O11.l48 (by omega) f2 (by omega) (by omega)]; exact vp_of (by omega) (by decide)
          exact ⟨fun _ => ihe (s + 1) _ M11 (by omega) k11, fun _ => ⟨a 12, (O11.2.1 12 (by decide) (by decide)).1, (O11.2.1 12 (by decide) (by decide)).2.1, v11 (by decide) (by decide), a 11, (O11.2.1 11 (by decide) (by decide)).1, (O11.2.1 11 (by decide) (by decide)).2.1, v11 (by decide) (by decide), fun _ => ihe (s + 1) _ M11 (by omega) k11, fun _ => ihe (s + 1) _ M11 (by omega) k11⟩⟩
      refine VX5_groupAlike_4 (h := h + 3) ?_
      unfold DX5_groupAlike_4 DX5_groupAlike_91
      exact ⟨fun z => absurd ((ltn32 (a := 48) (by decide) (by omega)).mp z) (by omega), fun _ => ⟨fun _ => K M1 k1, fun _ => l18 n 0 0 M1 (by omega) k1⟩⟩
  refine KX5_groupAlike (h := h + 3) ?_
  unfold DX5_groupAlike_0
  exact l4 49 0 1 M (by omega) GmF.rf
end
end
section
/-! the class's Search: workState -/
section
variable {M M' : Mem} {x lc rc ya na sc a3 b3 Sn : Nat} {is : List Int32} {N : Nt} {Y Z : Nat → Int32} {S : Nat → Prop}
theorem CtL.fr (hL : CtL M x lc rc ya na sc a3 b3 Sn is N Y Z) (k : fr S M M') (h1 : ¬ S x) (h2 : ¬ S lc) (h3 : ¬ S rc) (h4 : ¬ S ya) (h5 : ¬ S na) (h6 : ¬ S sc) (h7 : ¬ S a3) (h8 : ok M b3 24 → ¬ S b3) (h0 : ∀ c, c < mN M → S c → mK M c ≠ 0) : CtL M' x lc rc ya na sc a3 b3 Sn is N Y Z := by
  obtain ⟨⟨hC, ⟨a1, a2, a3', a4⟩, ⟨b1, b2, b3', b4⟩, ⟨c1, c2⟩, d, e⟩, ⟨f1, f2, f3, f4, f5, f6⟩, ⟨g1, g2, g3⟩⟩ := hL
  have rx := k.2 x hC.1.1 h1
  have rl := k.2 lc hC.2.2.1.1 h2
  have rr := k.2 rc hC.2.2.2.2.1.1 h3
  have ry := k.2 ya a2.1 h4
  have rn := k.2 na b2.1 h5
  have rs := k.2 sc f2.1 h6
  exact ⟨⟨hC.fr k.1 rx rl rr, ⟨by rw [rx.2.2.1]; exact a1, ok_E a2 k.1, by rw [(k.1.2.2 _ a2.1).2]; exact a3', by rw [(k.1.2.2 _ a2.1).2]; exact a4⟩, ⟨by rw [rx.2.2.1]; exact b1, ok_E b2 k.1, by rw [(k.1.2.2 _ b2.1).2]; exact b3', by rw [(k.1.2.2 _ b2.1).2]; exact b4⟩, ⟨by rw [ry.2.2.2.1]; exact c1, by rw [rn.2.2.2.1]; exact c2⟩, d, e⟩, ⟨by rw [rx.2.2.1]; exact f1, ok_E f2 k.1, by rw [(k.1.2.2 _ f2.1).2]; exact f3, by rw [rs.2.2.2.1]; exact f4, f5, f6⟩, ⟨by rw [rx.2.2.1]; exact g1, ali_fr4 g2 k h7 h8 h0, g3⟩⟩
end
section
variable {M M' : Mem} {n0 n1 lc rc cc pb ib b1 b2 ya0 na0 ya na pz : Nat} {τ : Td} {σ : PS} {Ψ : Wg} {hl : List Int32} {ps : List Nat}
theorem MoM.ar (h : MoM M n0 τ σ Ψ hl lc rc cc pb ib b1 b2 ya na pz ps) (hz : MoZ n0 n1 lc rc cc pb ib b1 b2 ps) (hb : mN M < mBig) (k : ArF (fun c => c = ya ∨ c = na) M M') : MoM M' n0 τ σ Ψ hl lc rc cc pb ib b1 b2 ya na pz ps := by
  obtain ⟨-, -, -, -, -, ⟨⟨hCi, ⟨d1, d2, d3⟩, ⟨d4, d5, d6, d7⟩, -⟩, -⟩, -⟩ := id h
  obtain ⟨⟨k1, k2, k3, k4⟩, ⟨k5, k6, k7, k8, k9⟩, k10⟩ := id k
  have e : mE M M' := k.e
  refine h.mu (ow := fun _ => n0) (S := noP) hz (fun _ _ _ => rfl) (fun a z => z.elim) (fun a z => z.elim) hb ⟨⟨e, fun a _ hn => ⟨by rw [k5], by rw [k6], by rw [k7], k10 a (fun z => hn ?_), by rw [k8], by rw [k9]⟩⟩, ⟨by rw [k5], fun f _ => by rw [k7]⟩, ⟨by rw [k5], fun f _ _ => by rw [k7], by rw [k7]; exact d1, by rw [k7]; exact d4⟩, ⟨fun f _ _ => by rw [k5], by rw [k7]⟩, ⟨ok_E d2 e, ok_E d5 e, by rw [k4]; exact d3, by rw [k4]; exact d6, by rw [k4]; exact d7⟩, Or.inl ⟨rfl, rfl⟩⟩
  rcases z with z | z
  · exact Or.inr (Or.inr (Or.inr (Or.inr (Or.inl z))))
  · exact Or.inr (Or.inr (Or.inr (Or.inr (Or.inr (Or.inl z)))))
theorem MoM.out {S : Nat → Prop} (h : MoM M n0 τ σ Ψ hl lc rc cc pb ib b1 b2 ya na pz ps) (hz : MoZ n0 n1 lc rc cc pb ib b1 b2 ps) (hb : mN M < mBig) (k : fr S M M') (hS : ∀ r, S r → ¬ (n0 ≤ r ∧ r < n1)) (h0 : ∀ r, S r → mK M r ≠ 0) : MoM M' n0 τ σ Ψ hl lc rc cc pb ib b1 b2 ya na pz ps := by
  have how : ∀ a, n0 ≤ a → a < n1 → (fun a => if n0 ≤ a ∧ a < n1 then n0 else n0 + 1) a = n0 := fun a h1 h2 => if_pos ⟨h1, h2⟩
  have hS' : ∀ a, S a → (fun a => if n0 ≤ a ∧ a < n1 then n0 else n0 + 1) a ≠ n0 := fun a z => by
    show (if n0 ≤ a ∧ a < n1 then n0 else n0 + 1) ≠ n0
    rw [if_neg (hS a z)]
    omega
  exact h.mu (ow := fun a => if n0 ≤ a ∧ a < n1 then n0 else n0 + 1) hz how hS' h0 hb (MuF.of h hz how hS' k)
end
section
variable {τ : Td} {m : Nat} {σ : PS} {root : Nat} {γ : Gh} {g0 n0 n1 gw : Nat} {Z0 P : Nat → Nat → Int32} {zp : Int32} {Ψ1 Ψ2 : Wg} {R : RMo} {zn fn y0 q0 : Nat} {lc rc cc pb ib b1 b2 ya0 na0 pz x t n s h : Nat} {hl : List Int32} {ps : List Nat} {a : Nat → Nat} {M : Mem} {Q : Option Value → Mem → Prop}
theorem S_setBl {x lc rc ya na c9 c10 c11 pz l : Nat} {N : Nt} {Y Z : Nat → Int32} {v : Int32} (hL : CrL M x lc rc ya na N Y Z) (hC : CoL N.length Y Z) (hl : l < 32) (hE : CeS M x c9 c10 c11 pz N.length) (K : ∀ r : Int32, Q (some (.int r)) M) : E (h + 3) mdX0_setBehind [.ref x, .int (Int32.ofNat l), .int v] M Q := by
  obtain ⟨⟨a1, a2⟩, ⟨b1, b2, b3, b4⟩, ⟨d1, d2, d3, d4⟩, ⟨e1, e2, e3, e4⟩, -⟩ := hE
  have hl5 := hL.2.2.2.2.2
  exact S_setB (h := h) (l := l) (g := fun p => (mAI M c9 p).toNatClampNeg) (s := fun p => (mAI M c10 p).toNatClampNeg) (k := fun p => (mAI M c11 p).toNatClampNeg) hL hC hl a1 a2 ⟨b1, b2, b3⟩ ⟨d1, d2, d3⟩ ⟨e1, e2, e3⟩ (fun p hp => of_cl hl5 (b4 p hp)) (fun p hp => of_cl hl5 (d4 p hp)) (fun p hp => of_cl hl5 (e4 p hp)) (K _)
/-- what a search may change of what was there -/
def SeF (n0 ya0 na0 x : Nat) (a : Nat → Nat) (r : Nat) : Prop := r = n0 + 8 ∨ r = ya0 ∨ r = na0 ∨ r = x ∨ rwF a r
/-- new rows for the lanes, or none -/
def LnN (ya0 na0 ya na len : Nat) (M M' : Mem) : Prop := (ya = ya0 ∧ na = na0 ∧ mN M' = mN M ∧ mS M' = mS M) ∨ (ya = mN M ∧ na = mN M + 1 ∧ mN M' = mN M + 2 ∧ mS M' = mS M + 2 * len ∧ mL M ya0 < len)
set_option maxHeartbeats 1000000 in
theorem S_wkSt (hW : MdW τ m σ root γ g0 n0 gw Z0 P zp Ψ1 Ψ2) (hT : TwT (woS τ m σ γ) R zn fn y0 root q0) (hR : MdR τ m σ R) (h16 : τ.1.length ≤ 16) (hz : MoZ n0 n1 lc rc cc pb ib b1 b2 ps) (hM : MoM M n0 τ σ Ψ2 hl lc rc cc pb ib b1 b2 ya0 na0 pz ps) (hO : ScO M x n0 t a) (hC : ScC M x t n a) (ht : (inL τ.2.1).length + (ifS σ).length = t) (hs : s < n) (hx : ∀ r, r = x ∨ rwF a r → ¬ (n0 ≤ r ∧ r < n1) ∧ r ≠ ya0 ∧ r ≠ na0) (hbig : mN M + 2 < mBig) (e2 : mI M x 2 = 0) (K : ∀ M' n' ya na, fr (SeF n0 ya0 na0 x a) M M' → MoM M' n0 τ σ Ψ2 hl lc rc cc pb ib b1 b2 ya na pz ps → ScO M' x n0 t a → ScC M' x t n' a → n ≤ n' → (mI M' x 2 = 0 ∨ mI M' x 2 = 1) → Ψ2.1.length ≤ mL M' ya → LnN ya0 na0 ya na Ψ2.1.length M M' → Q none M') : E (h + 5) mdX5_workState [.ref x, .int (Int32.ofNat s)] M Q := by
  obtain ⟨⟨ox, e0, e1, t5⟩, hf, hd⟩ := id hO
  obtain ⟨p1, p2⟩ := pw_le t5
  have n48 := hC.1.2
  have on0 : ok M n0 3 := hM.1.1.1
  have cs := hM.2.2.2.2.2.1
  have oy : ok M ya0 21 := cs.1.2.1.2.1
  have on : ok M na0 21 := cs.1.2.2.1.2.1
  have oxx : ok M (n0 + 8) 2 := cs.1.1.1
  have osm : ok M (n0 + 22) 8 := hM.1.2.1.1.1
  have kne : ∀ {a b p q : Nat}, ok M a p → ok M b q → p ≠ q → a ≠ b := fun {a b p q} o1 o2 hp e => by
    rw [e] at o1
    exact hp (o1.2.symm.trans o2.2)
  have n25 := hz.1
  obtain ⟨l1, l2, l3, l4⟩ := hW.ln
  have ls : (Int32.ofNat s).toNatClampNeg = s := lt32 (by omega)
  have v48 : ∀ {M1 : Mem} {f : Nat}, ScO M1 x n0 t a → 5 ≤ f → f ≤ 8 → vp_in (Int32.ofNat s) (mL M1 (a f)) := fun hO1 f1 f2 => by rw [hO1.l48 f1 (by omega) (by omega) (by omega)]; exact vp_of (by omega) (by decide)
  have fin : ∀ (v0 v1 v2 : Int32), DX5_workState_30 (h + 4) x (Int32.ofNat s) (n0 + 8) (n0 + 8) v0 v1 v2 M Q := by
    intro v0 v1 v2
    unfold DX5_workState_30
    refine ⟨oxx, S_stW (h := h) (R := R) (Is := fun _ => (v0, fun s => if btL v1 s = true then 1 else 0, fun _ => 0, if v2 = 0 then 0 else 1, fun _ => 0)) (ift := fun _ _ => 0) hW hT cs h16 hbig (fun _ => rfl) (fun _ _ _ => rfl) (fun _ => ?_) (fun M2 ya na Y2 Z2 L2 St T2 _ => ⟨rfl, ?_⟩)⟩
    · have e : iFi (v0, fun s => if btL v1 s = true then 1 else 0, fun _ => 0, if v2 = 0 then 0 else 1, fun _ => 0) = if v2 = 0 then 0 else 1 := rfl
      rw [e]
      by_cases z : v2 = 0
      · rw [if_pos z, if_neg (by decide)]
      · rw [if_neg z, if_pos rfl]
    have F2 := St.1
    have ng : LnN ya0 na0 ya na Ψ2.1.length M M2 := St.2.2
    have b2' : mN M2 < mBig := by rcases ng with ⟨-, -, e, -⟩ | ⟨-, -, e, -⟩ <;> omega
    have yl : (ya = ya0 ∧ na = na0) ∨ (mN M ≤ ya ∧ mN M ≤ na ∧ ya ≠ na) := by
      rcases ng with ⟨e, e', -⟩ | ⟨e, e', -⟩
      · exact Or.inl ⟨e, e'⟩
      · exact Or.inr ⟨by omega, by omega, by omega⟩
    have rn0 := F2.2 n0 on0.1 (fun z => by
      rcases z with z | z | z
      · omega
      · exact kne on0 oy (by decide) z
      · exact kne on0 on (by decide) z)
    have rsm := F2.2 (n0 + 22) osm.1 (fun z => by
      rcases z with z | z | z
      · omega
      · exact kne osm oy (by decide) z
      · exact kne osm on (by decide) z)
    have M2' : MoM M2 n0 τ σ Ψ2 hl lc rc cc pb ib b1 b2 ya na pz ps := by
      refine hM.mu (ow := fun _ => n0) (S := noP) hz (fun _ _ _ => rfl) (fun a z => z.elim) (fun a z => z.elim) (by omega) ⟨F2.more (fun a _ z => ?_), ⟨rn0.1, fun f _ => by rw [rn0.2.2.1]⟩, ⟨St.2.1.1, St.2.1.2.2, L2.1.2.1.1, L2.1.2.2.1.1⟩, ⟨fun f _ _ => by rw [rsm.1], rsm.2.2.1⟩, ⟨L2.1.2.1.2.1, L2.1.2.2.1.2.1, L2.1.2.1.2.2.2, L2.1.2.2.1.2.2.2, fun _ => L2.1.2.2.1.2.2.1⟩, yl⟩
      rcases z with z | z | z
      · exact Or.inr (Or.inr (Or.inr (Or.inl z)))
      · exact Or.inr (Or.inr (Or.inr (Or.inr (Or.inl z))))
      · exact Or.inr (Or.inr (Or.inr (Or.inr (Or.inr (Or.inl z)))))
    -- the search's own cells are apart
    have okr : ∀ {r : Nat}, r = x ∨ rwF a r → ∃ q, ok M r q ∧ (q = 7 ∨ q = 21) := fun {r} z => by
      rcases z with z | ⟨f, f1, f2, z⟩
      · exact ⟨7, by rw [z]; exact ox, Or.inl rfl⟩
      · exact ⟨21, by rw [z]; exact (hf f f1 f2).2.1, Or.inr rfl⟩
    have nyr : ∀ {r : Nat}, r = x ∨ rwF a r → r ≠ ya ∧ r ≠ na := fun {r} z => by
      obtain ⟨q, o, -⟩ := okr z
      obtain ⟨-, h1, h2⟩ := hx r z
      have := o.1
      rcases yl with ⟨e, e'⟩ | ⟨e, e', -⟩
      · rw [e, e']; exact ⟨h1, h2⟩
      · omega
    have rS : ∀ {r : Nat}, r = x ∨ rwF a r → sameRow M M2 r := fun {r} z => by
      obtain ⟨q, o, -⟩ := okr z
      obtain ⟨h0, h1, h2⟩ := hx r z
      exact F2.2 r o.1 (fun y => by
        rcases y with y | y | y
        · exact h0 (by omega)
        · exact h1 y
        · exact h2 y)
    have O2 : ScO M2 x n0 t a := by
      have rx := rS (r := x) (Or.inl rfl)
      refine ⟨⟨ok_E ox F2.1, by rw [rx.2.2.1]; exact e0, by rw [rx.1]; exact e1, t5⟩, fun f f1 f2 => ⟨by rw [rx.2.2.1]; exact (hf f f1 f2).1, ok_E (hf f f1 f2).2.1 F2.1, by rw [(F2.1.2.2 _ (hf f f1 f2).2.1.1).2]; exact (hf f f1 f2).2.2⟩, hd⟩
    have C2 : ScC M2 x t n a := hC.k (by rw [(rS (r := x) (Or.inl rfl)).1]) (rS (Or.inr ⟨7, by decide, by decide, rfl⟩)).2.2.2.1 (rS (Or.inr ⟨9, by decide, by decide, rfl⟩)).2.2.2.1
    have b22 : mI M2 x 2 = 0 := by rw [(rS (r := x) (Or.inl rfl)).1]; exact e2
    -- what telling and settling leave alone
    have stA : ∀ {M3 : Mem}, ArF (fun c => c = ya ∨ c = na) M2 M3 → MoM M3 n0 τ σ Ψ2 hl lc rc cc pb ib b1 b2 ya na pz ps ∧ ScO M3 x n0 t a ∧ ScC M3 x t n a ∧ mI M3 x 2 = 0 ∧ mR M3 x = mR M2 x := fun {M3} k => by
      refine ⟨M2'.ar hz b2' k, ⟨⟨ok_E O2.1.1 k.e, by rw [k.2.1.2.2.1]; exact O2.1.2.1, by rw [k.2.1.1]; exact O2.1.2.2.1, t5⟩, fun f f1 f2 => ⟨by rw [k.2.1.2.2.1]; exact (O2.2.1 f f1 f2).1, ok_E (O2.2.1 f f1 f2).2.1 k.e, by rw [k.1.2.2.2]; exact (O2.2.1 f f1 f2).2.2⟩, hd⟩, C2.k (by rw [k.2.1.1]) (k.2.2 _ (fun z => ?_)) (k.2.2 _ (fun z => ?_)), by rw [k.2.1.1]; exact b22, by rw [k.2.1.2.2.1]⟩
      · have := nyr (r := a 7) (Or.inr ⟨7, by decide, by decide, rfl⟩)
        exact z.elim this.1 this.2
      · have := nyr (r := a 9) (Or.inr ⟨9, by decide, by decide, rfl⟩)
        exact z.elim this.1 this.2
    -- MOVE by MOVE
    have l131 : ∀ M3 Y3 Z3, ArF (fun c => c = ya ∨ c = na) M2 M3 → CtL M3 (n0 + 8) lc rc ya na (n0 + 20) (n0 + 15) ib τ.1.length (ifS σ) Ψ2.1 Y3 Z3 → TdV Ψ2.1.length (tbR R Ψ2) Y3 Z3 → DX5_workState_131 (h + 4) x (Int32.ofNat s) (n0 + 8) M3 Q := by
      intro M3 Y3 Z3 k3 L3 V3
      unfold DX5_workState_131
      refine ⟨L3.1.1.1, S_settle (h := h + 1) (hW.nts hT hR cs.2.1 L3.1.1.2.2.2.2.2.2.2.2.1) L3.1 V3.j (fun M4 Y4 Z4 L4 A4 J4 _ _ => ⟨rfl, S_stuck (h := h + 3) L4 (fun r4 _ _ => ⟨r4, rfl, ?_⟩)⟩)⟩
      have L4' : CtL M4 (n0 + 8) lc rc ya na (n0 + 20) (n0 + 15) ib τ.1.length (ifS σ) Ψ2.1 Y4 Z4 := L3.ar A4 L4
      have k4 : ArF (fun c => c = ya ∨ c = na) M2 M4 := k3.tr A4
      obtain ⟨Mo4, O4, C4, b4, -⟩ := stA k4
      have bg4 : mN M4 < mBig := by rw [k4.1.1]; exact b2'
      have k4n : ∀ {r : Nat}, r = x ∨ rwF a r → mK M4 r ≠ 0 := fun {r} z => by
        obtain ⟨q, o, hq⟩ := okr z
        rw [k4.1.2.2.1, (F2.1.2.2 r o.1).1, o.2]
        rcases hq with e | e <;> rw [e] <;> decide
      have FK4 : fr (SeF n0 ya0 na0 x a) M M4 := (F2.more (fun c _ z => by
        rcases z with z | z | z
        · exact Or.inl z
        · exact Or.inr (Or.inl z)
        · exact Or.inr (Or.inr (Or.inl z)))).tr (S1 := fun c => c = ya ∨ c = na) ⟨k4.e, fun c _ hc => ⟨by rw [k4.2.1.1], by rw [k4.2.1.2.1], by rw [k4.2.1.2.2.1], k4.2.2 c hc, by rw [k4.2.1.2.2.2.1], by rw [k4.2.1.2.2.2.2]⟩⟩ (fun c hc z => by
        rcases yl with ⟨e, e'⟩ | ⟨e, e', -⟩
        · rcases z with z | z
          · exact Or.inr (Or.inl (z.trans e))
          · exact Or.inr (Or.inr (Or.inl (z.trans e')))
        · omega)
      have izx : ∀ {r q : Nat}, ok M4 r q → inZ n0 n1 r → ¬ (r = x ∨ rwF a r) := fun {r q} o hi z => by
        rcases hi with hi | hi
        · exact (hx r z).1 hi
        · have := o.1; omega
      have st : ∀ {Mi : Mem}, GmF x f23 (rwF a) M4 Mi → MoM Mi n0 τ σ Ψ2 hl lc rc cc pb ib b1 b2 ya na pz ps ∧ CtL Mi (n0 + 8) lc rc ya na (n0 + 20) (n0 + 15) ib τ.1.length (ifS σ) Ψ2.1 Y4 Z4 ∧ ScO Mi x n0 t a := fun {Mi} k => by
        have i25 : ∀ c, c < 25 → inZ n0 n1 (n0 + c) := fun c hc => Or.inl ⟨by omega, by omega⟩
        refine ⟨Mo4.out hz bg4 k.fr (fun r z => (hx r z).1) (fun r z => k4n z), L4'.fr k.fr (izx L4'.1.1.1 (i25 8 (by decide))) (izx L4'.1.1.2.2.1 hz.2.1) (izx L4'.1.1.2.2.2.2.1 hz.2.2.1) (fun z => (nyr z).1 rfl) (fun z => (nyr z).2 rfl) (izx L4'.2.1.2.1 (i25 20 (by decide))) (izx L4'.2.2.2.1.ok1 (i25 15 (by decide))) (fun o => izx o hz.2.2.2.2.2.1) (fun c _ z => k4n z), O4.gm k (by decide)⟩
      have KK : ∀ Mi ni, GmF x f23 (rwF a) M4 Mi → ScC Mi x t ni a → n ≤ ni → (mI Mi x 2 = 0 ∨ mI Mi x 2 = 1) → Q none Mi := fun Mi ni k hCi hn hb => by
        obtain ⟨Mo, Lo, Oo⟩ := st k
        refine K Mi ni ya na (FK4.tr k.fr (fun c _ z => Or.inr (Or.inr (Or.inr z)))) Mo Oo hCi hn hb Lo.1.2.1.2.2.1 ?_
        unfold LnN
        rw [k.1.1, k.1.2.1, k4.1.1, k4.1.2.1]
        exact ng
      have l143 : ∀ d v Mi ni, v + d = 2 ^ t → GmF x f23 (rwF a) M4 Mi → ScC Mi x t ni a → n ≤ ni → (mI Mi x 2 = 0 ∨ mI Mi x 2 = 1) → T (h + 5) mdX5_workState 143 [(0, .ref x), (1, .int (Int32.ofNat s)), (2, .ref (n0 + 8)), (3, .int r4), (4, .int (Int32.ofNat v))] [] Mi Q := by
        intro d
        induction d with
        | zero =>
          intro v Mi ni hv ki Ci hn hb
          have ev : v = 2 ^ t := hv
          subst ev
          obtain ⟨-, -, Oi⟩ := st ki
          refine VX5_workState_143 (h := h + 4) ?_
          unfold DX5_workState_143 DX5_workState_264
          rw [Oi.1.2.2.1]
          exact ⟨Oi.1.1, fun _ => KK Mi ni ki Ci hn hb, fun z => absurd Int32.le_rfl z⟩
        | succ d ih =>
          intro v Mi ni hv ki Ci hn hb
          obtain ⟨Moi, Li, Oi⟩ := st ki
          have ni48 := Ci.1.2
          obtain ⟨i1, i2, i3⟩ := ix_mv (s := s) (v := v) t5 (by omega) (by omega)
          have l1' : (Int32.ofNat (s * 2 ^ t + v)).toNatClampNeg = s * 2 ^ t + v := lt32 (by omega)
          have vat : ∀ {Mj : Mem} {f : Nat}, ScO Mj x n0 t a → f = 9 ∨ f = 10 → vp_in (Int32.ofNat (s * 2 ^ t + v)) (mL Mj (a f)) := fun hO1 hf9 => by rw [hO1.lm hf9]; exact vp_of i2 (by omega)
          have v32 : v < 32 := by omega
          refine VX5_workState_143 (h := h + 4) ?_
          unfold DX5_workState_143 DX5_workState_264 DX5_workState_258
          rw [Oi.1.2.2.1, i1, l1', succ32]
          refine ⟨Oi.1.1, fun z => absurd ((le32 (by omega) (by omega)).mp z) (by omega), fun _ => ⟨fun _ => KK Mi ni ki Ci hn hb, fun b0 => ⟨fun _ => ?_, fun _ => ⟨a 9, (Oi.2.1 9 (by decide) (by decide)).1, (Oi.2.1 9 (by decide) (by decide)).2.1, vat Oi (Or.inl rfl), fun M21 e21 => ?_⟩⟩⟩⟩
          · refine ⟨a 10, (Oi.2.1 10 (by decide) (by decide)).1, Li.1.1.1, S_shown (h := h + 1) (g := sgT τ.1.length) Li.1 J4.1 v32 Li.2.1.1 Li.2.1.2.1 Li.2.1.2.2.1 (fun q hq => ⟨Li.2.1.2.2.2.1 q hq, ?_⟩) (fun _ => ⟨_, rfl, (Oi.2.1 10 (by decide) (by decide)).2.1, vat Oi (Or.inr rfl), fun M7 e7 => ?_⟩)⟩
            · unfold sgT
              by_cases y : q < τ.1.length
              · rw [if_pos y]; omega
              · rw [if_neg y]; omega
            have k7 : GmF x f23 (rwF a) M4 M7 := ki.tr (GmF.a ⟨10, by decide, by decide, rfl⟩ e7)
            obtain ⟨Mo7, L7, O7⟩ := st k7
            have C7 : ScC M7 x t ni a := Ci.k (by rw [e7]; rfl) (aiN e7 (hO.ne (by decide) (by decide) (by decide) (by decide) (by decide))) (aiN e7 (hO.ne (by decide) (by decide) (by decide) (by decide) (by decide)))
            have b7 : mI M7 x 2 = 0 := by rw [e7]; exact b0
            have ce := Mo7.2.2.2.2.2.2.1
            obtain ⟨q16, q1, q2⟩ := ce.2.2.2.2
            -- a MOVE's lead is written
            have f257 : ∀ (r : Int32) Mj nj, GmF x f23 (rwF a) M4 Mj → ScC Mj x t nj a → n ≤ nj → (mI Mj x 2 = 0 ∨ mI Mj x 2 = 1) → (r < 0 ∨ ∃ q, q < 48 ∧ r = Int32.ofNat q) → DX5_workState_257 (h + 4) x (Int32.ofNat s) (n0 + 8) r4 (Int32.ofNat v) (a 9) (Int32.ofNat (s * 2 ^ t + v)) r Mj Q := by
              intro r Mj nj kj Cj hnj hbj hr
              obtain ⟨-, -, Oj⟩ := st kj
              unfold DX5_workState_257 DX5_workState_258
              rw [succ32]
              refine ⟨(Oj.2.1 9 (by decide) (by decide)).2.1, vat Oj (Or.inl rfl), fun M2' e2' => ?_⟩
              exact ih (v + 1) M2' nj (by omega) (kj.tr (GmF.a ⟨9, by decide, by decide, rfl⟩ e2')) (Cj.nx Oj hr e2') hnj (by rw [e2']; exact hbj)
            rw [q2]
            refine S_isOn (h := h + 2) L7.1 J4.1 q1 v32 (fun _ => ⟨_, rfl, a 9, (O7.2.1 9 (by decide) (by decide)).1, fun _ => ⟨a 5, (O7.2.1 5 (by decide) (by decide)).1, (O7.2.1 5 (by decide) (by decide)).2.1, v48 O7 (by decide) (by decide), S_setBl (h := h + 1) L7.1 J4.1 v32 ce (fun r14 _ => ⟨r14, rfl, a 10, (O7.2.1 10 (by decide) (by decide)).1, (O7.2.1 10 (by decide) (by decide)).2.1, vat O7 (Or.inr rfl), S_reach (h := h + 3) O7 C7 (by omega) (fun M17 n17 r18 k17 C17 hn17 b17 hr18 _ => ⟨r18, rfl, f257 r18 M17 n17 (k7.tr k17) C17 (by omega) (by rw [b7] at b17; exact b17) hr18⟩)⟩)⟩, fun _ => f257 (-1) M7 ni k7 C7 hn (Or.inl b7) (Or.inl (by decide))⟩)
          · exact ih (v + 1) M21 ni (by omega) (ki.tr (GmF.a ⟨9, by decide, by decide, rfl⟩ e21)) (Ci.nx Oi (Or.inl (by decide)) e21) hn (by rw [e21]; exact hb)
      exact l143 (2 ^ t) 0 M4 n (by omega) GmF.rf C4 (Nat.le_refl _) (Or.inl b4)
    -- the ifs
    have l80 : ∀ d i M3 Y3 Z3, i + d = (ifS σ).length → ArF (fun c => c = ya ∨ c = na) M2 M3 → CtL M3 (n0 + 8) lc rc ya na (n0 + 20) (n0 + 15) ib τ.1.length (ifS σ) Ψ2.1 Y3 Z3 → TdV Ψ2.1.length (tbR R Ψ2) Y3 Z3 → T (h + 5) mdX5_workState 80 [(0, .ref x), (1, .int (Int32.ofNat s)), (2, .ref (n0 + 8)), (3, .int (Int32.ofNat i))] [] M3 Q := by
      intro d
      induction d with
      | zero =>
        intro i M3 Y3 Z3 hi k3 L3 V3
        have ei : i = (ifS σ).length := hi
        obtain ⟨Mo3, O3, -, -, -⟩ := stA k3
        refine VX5_workState_80 (h := h + 4) ?_
        unfold DX5_workState_80
        refine ⟨O3.1.1, n0, O3.1.2.1, Mo3.1.1.1, ?_⟩
        rw [Mo3.2.2.2.2.2.2.2.2.2.2.2.2.1, ← ei]
        exact ⟨fun _ => l131 M3 Y3 Z3 k3 L3 V3, fun z => absurd Int32.le_rfl z⟩
      | succ d ih =>
        intro i M3 Y3 Z3 hi k3 L3 V3
        obtain ⟨Mo3, O3, -, -, -⟩ := stA k3
        have e14 := Mo3.2.2.2.2.2.2.2.2.2.2.2.2.1
        have e10 := Mo3.1.1.2.2.2.2
        refine VX5_workState_80 (h := h + 4) ?_
        unfold DX5_workState_80
        rw [succ32]
        refine ⟨O3.1.1, n0, O3.1.2.1, Mo3.1.1.1, ?_⟩
        rw [e14]
        refine ⟨fun z => absurd ((le32 (by omega) (by omega)).mp z) (by omega), fun _ => ⟨n0, O3.1.2.1, Mo3.1.1.1, fun _ => l131 M3 Y3 Z3 k3 L3 V3, fun z => ⟨n0, O3.1.2.1, Mo3.1.1.1, ?_, L3.1.1.1, ?_⟩⟩⟩
        · rw [e10, add32]; exact vp_of (by omega) (by decide)
        · refine S_tfW (h := h) hW L3 V3.1 (by omega) (fun M5 Y5 Z5 q L5 A5 q1 q2 q3 T5 _ => ⟨rfl, ih (i + 1) M5 Y5 Z5 (by omega) (k3.tr A5) L5 (V3.tl T5 ?_)⟩)
          rw [tb_r q3 q2]; rfl
    -- the inputs
    have l35 : ∀ d i M3 Y3 Z3, i + d = (inL τ.2.1).length → ArF (fun c => c = ya ∨ c = na) M2 M3 → CtL M3 (n0 + 8) lc rc ya na (n0 + 20) (n0 + 15) ib τ.1.length (ifS σ) Ψ2.1 Y3 Z3 → TdV Ψ2.1.length (tbR R Ψ2) Y3 Z3 → T (h + 5) mdX5_workState 35 [(0, .ref x), (1, .int (Int32.ofNat s)), (2, .ref (n0 + 8)), (3, .int (Int32.ofNat i))] [] M3 Q := by
      intro d
      induction d with
      | zero =>
        intro i M3 Y3 Z3 hi k3 L3 V3
        have ei : i = (inL τ.2.1).length := hi
        obtain ⟨Mo3, O3, -, -, -⟩ := stA k3
        refine VX5_workState_35 (h := h + 4) ?_
        unfold DX5_workState_35 DX5_workState_78
        refine ⟨O3.1.1, n0, O3.1.2.1, Mo3.1.1.1, ?_⟩
        rw [Mo3.1.1.2.2.2.2, ← ei]
        exact ⟨fun _ => l80 (ifS σ).length 0 M3 Y3 Z3 (by omega) k3 L3 V3, fun z => absurd Int32.le_rfl z⟩
      | succ d ih =>
        intro i M3 Y3 Z3 hi k3 L3 V3
        obtain ⟨Mo3, O3, -, -, -⟩ := stA k3
        have li : (Int32.ofNat i).toNatClampNeg = i := lt32 (by omega)
        obtain ⟨s1, s2, s3, s4⟩ := Mo3.2.2.2.1 i (by omega)
        refine VX5_workState_35 (h := h + 4) ?_
        unfold DX5_workState_35 DX5_workState_78
        rw [succ32, li]
        refine ⟨O3.1.1, n0, O3.1.2.1, Mo3.1.1.1, ?_⟩
        rw [Mo3.1.1.2.2.2.2]
        refine ⟨fun z => absurd ((le32 (by omega) (by omega)).mp z) (by omega), fun _ => ⟨fun _ => l80 (ifS σ).length 0 M3 Y3 Z3 (by omega) k3 L3 V3, fun z => ⟨n0, O3.1.2.1, Mo3.1.1.1, n0 + 4, Mo3.1.1.2.2.2.1, Mo3.1.2.2.2.1, ?_, ?_, L3.1.1.1, ?_⟩⟩⟩
        · rw [Mo3.1.2.2.2.2.1]; exact vp_of (by have := Mo3.1.2.2.2.2.2.1; omega) (by decide)
        · exact vp_of (by omega) (by decide)
        · rw [s4]
          refine S_tiW (h := h + 2) hW h16 L3 V3.1 s2 (fun M5 Y5 Z5 L5 A5 T5 _ => ⟨rfl, ih (i + 1) M5 Y5 Z5 (by omega) (k3.tr A5) L5 (V3.tl T5 ?_)⟩)
          rw [tb_r (hW.sg s2) (by omega), decide_eq_true ((hR.2.2.2.2 s1 s2).mpr s3)]; rfl
    exact l35 (inL τ.2.1).length 0 M2 Y2 Z2 (by omega) ArF.rf L2 T2.v
  refine KX5_workState (h := h + 4) ?_
  unfold DX5_workState_0
  rw [ls]
  exact ⟨ox, n0, e0, on0, n0 + 8, hM.2.2.2.2.1, a 5, (hf 5 (by decide) (by decide)).1, (hf 5 (by decide) (by decide)).2.1, v48 hO (by decide) (by decide), a 6, (hf 6 (by decide) (by decide)).1, (hf 6 (by decide) (by decide)).2.1, v48 hO (by decide) (by decide), fun _ => fin _ _ _, fun _ => fin _ _ _⟩
end
end
section
/-! the class's Search: its constructor, explore -/
def smA (ln : Nat → Nat) : Nat → Nat
  | 0 => 0
  | i + 1 => smA ln i + ln i
/-- i rows of x are made -/
def AcR (x : Nat) (ln : Nat → Nat) (M0 M : Mem) (i : Nat) : Prop := (mN M = mN M0 + i ∧ mS M = mS M0 + smA ln i ∧ fr (fun c => c = x) M0 M ∧ mI M = mI M0) ∧ (∀ j, j < i → mR M x (5 + j) = some (mN M0 + j) ∧ ok M (mN M0 + j) 21 ∧ mL M (mN M0 + j) = ln j ∧ ∀ k, mAI M (mN M0 + j) k = 0) ∧ ∀ f, f < 5 → mR M x f = mR M0 x f
section
variable {M0 M M8 M' : Mem} {x i : Nat} {ln : Nat → Nat}
theorem AcR.rf : AcR x ln M M 0 := ⟨⟨rfl, rfl, fr.rf, rfl⟩, fun j hj => absurd hj (Nat.not_lt_zero _), fun _ _ => rfl⟩
theorem AcR.st {q w : Nat} (h : AcR x ln M0 M i) (hx : x < mN M0) (hw : w = ln i) (eq : q = mN M) (e8 : M8 = nwA M 21 w) (e : M' = wR M8 x (5 + i) (some q)) : AcR x ln M0 M' (i + 1) := by
  obtain ⟨⟨a1, a2, a3, a4⟩, b, d⟩ := h
  have f1 : fr (fun c => c = x) M M8 := by rw [e8]; exact fr_nwA
  have f2 : fr (fun c => c = x) M8 M' := by rw [e]; exact fr_wR rfl
  have f3 := f1.tr f2 (fun _ _ z => z)
  have rr : ∀ f, f ≠ 5 + i → mR M' x f = mR M x f := fun f hf => by
    rw [e, mR_wR, if_neg (fun z => hf z.2), e8]
    exact congrFun (show mR M x = mR M x from rfl) f
  have k8 : mK M8 (mN M) = 21 := by rw [e8]; exact va_up_self _ _ _
  have l8 : mL M8 (mN M) = w := by rw [e8]; exact va_up_self _ _ _
  have z8 : mAI M8 (mN M) = fun _ => 0 := by rw [e8]; exact va_up_self _ _ _
  have n8 : mN M8 = mN M + 1 := by rw [e8]; rfl
  refine ⟨⟨?_, ?_, a3.tr f3 (fun _ _ z => z), ?_⟩, fun j hj => ?_, fun f hf => by rw [rr f (by omega)]; exact d f hf⟩
  · rw [e]; show mN M8 = _; omega
  · rw [e, e8]; show mS M + w = _; rw [a2, hw]; show _ = mS M0 + (smA ln i + ln i); omega
  · rw [e, e8]; exact a4
  · by_cases z : j = i
    · subst z
      rw [← a1]
      refine ⟨by rw [e, mR_wR, if_pos ⟨rfl, rfl⟩, eq], ⟨by rw [e]; show _ < mN M8; omega, by rw [e]; exact k8⟩, by rw [e]; exact l8.trans hw, fun k => by rw [e]; show mAI M8 (mN M) k = 0; rw [z8]⟩
    · obtain ⟨b1, b2, b3, b4⟩ := b j (by omega)
      have r := f3.2 (mN M0 + j) b2.1 (fun y => by omega)
      refine ⟨by rw [rr _ (by omega)]; exact b1, ok_E b2 f3.1, by rw [(f3.1.2.2 _ b2.1).2]; exact b3, fun k => by rw [r.2.2.2.1]; exact b4 k⟩
end
section
variable {M : Mem} {x n0 I F bc h : Nat} {Q : Option Value → Mem → Prop}
/-- a search as it is made -/
theorem S_sini (ox : ok M x 7) (on : ok M n0 3) (e10 : mI M n0 10 = Int32.ofNat I) (e14 : mI M n0 14 = Int32.ofNat F) (hI : I ≤ 4) (hF : F ≤ 100) (e7 : mR M n0 7 = some (n0 + 8)) (oc : ok M (n0 + 8) 2) (e8 : mR M (n0 + 8) 8 = some bc) (ob : ok M bc 21) (lb : mL M bc = 16)
    (K0 : ∀ M', 5 < I + F → fr (fun c => c = x) M M' → ok M' x 7 → mI M' x 2 = 1 → mN M' = mN M + 8 → mS M' ≤ mS M + 3360 → Q none M')
    (K1 : ∀ M' a, I + F ≤ 5 → fr (fun c => c = x) M M' → ScO M' x n0 (I + F) a → (∀ f, 5 ≤ f → f ≤ 12 → mN M ≤ a f ∧ ∀ k, mAI M' (a f) k = 0) → mI M' x 2 = 0 → mN M' = mN M + 8 → mS M' ≤ mS M + 3360 → Q none M') : E (h + 2) mdX5_init [.ref x, .ref n0] M Q := by
  have nx : n0 ≠ x := fun e => by rw [e] at on; exact absurd (on.2.symm.trans ox.2) (by decide)
  have nx8 : n0 + 8 ≠ x := fun e => by rw [e] at oc; exact absurd (oc.2.symm.trans ox.2) (by decide)
  have nbx : bc ≠ x := fun e => by rw [e] at ob; exact absurd (ob.2.symm.trans ox.2) (by decide)
  have d64 : ∀ (w mv : Nat) Ma, (w = 0 ∨ w = 48) → mv ≤ 32 → fr (fun c => c = x) M Ma → mN Ma = mN M → mS Ma = mS M → mI Ma x 1 = Int32.ofNat mv → (∀ M' , AcR x (fun j => if j = 4 ∨ j = 5 then w * mv else w) Ma M' 8 ∨ (∃ v, AcR x (fun j => if j = 4 ∨ j = 5 then w * mv else w) (wI Ma x 4 v) M' 8) → Q none M') → DX5_init_64 (h + 1) x n0 (Int32.ofNat w) Ma Q := by
    intro w mv Ma hw hm fa na sa e1 K
    have w48 : w ≤ 48 := by omega
    have wm : w * mv ≤ 1536 := by
      have := Nat.mul_le_mul w48 hm
      omega
    have lw : (Int32.ofNat w).toNatClampNeg = w := lt32 (by omega)
    have lwm : (Int32.ofNat (w * mv)).toNatClampNeg = w * mv := lt32 (by omega)
    have nw : ¬ Int32.ofNat w < 0 := nn32 w48
    have nwm : ¬ Int32.ofNat (w * mv) < 0 := fun z => by
      have := (ltn32 (a := w * mv) (b := 0) (by omega) (by decide)).mp z
      omega
    have rn := fa.2 n0 on.1 nx
    have rc := fa.2 (n0 + 8) oc.1 nx8
    unfold DX5_init_64
    refine ⟨ok_E on fa.1, n0 + 8, by rw [rn.2.2.1]; exact e7, ok_E oc fa.1, S_befM (h := h) (ok_E oc fa.1) (by rw [rc.2.2.1]; exact e8) (ok_E ob fa.1) (by rw [(fa.1.2.2 _ ob.1).2]; exact lb) (fun r5 _ => ⟨r5, rfl, ok_E ox fa.1, fun M7 e7' => ?_⟩)⟩
    have x7 : x < mN M7 := by rw [e7']; show x < mN Ma; rw [na]; exact ox.1
    have i1 : mI M7 x 1 = Int32.ofNat mv := by rw [e7', mI_wI, if_neg (fun y => absurd y.2 (by decide))]; exact e1
    have s0 : AcR x (fun j => if j = 4 ∨ j = 5 then w * mv else w) M7 M7 0 := AcR.rf
    rw [lw]
    refine ⟨nw, by omega, fun q9 M8 eq9 e8' M10 e10' => ⟨nw, by omega, fun q12 M11 eq12 e11 M13 e13 => ⟨nw, by omega, fun q15 M14 eq15 e14' M16 e16 => ⟨nw, by omega, fun q18 M17 eq18 e17 M19 e19 => ?_⟩⟩⟩⟩
    have s1 := s0.st x7 (w := w) rfl eq9 e8' e10'
    have s2 := s1.st x7 (w := w) rfl eq12 e11 e13
    have s3 := s2.st x7 (w := w) rfl eq15 e14' e16
    have s4 := s3.st x7 (w := w) rfl eq18 e17 e19
    rw [s4.1.2.2.2, i1, mul32, lwm]
    refine ⟨nwm, by omega, fun q21 M20 eq21 e20 M22 e22 => ?_⟩
    have s5 := s4.st x7 (w := w * mv) rfl eq21 e20 e22
    rw [s5.1.2.2.2, i1, mul32, lwm]
    refine ⟨nwm, by omega, fun q24 M23 eq24 e23 M25 e25 => ⟨nw, by omega, fun q27 M26 eq27 e26 M28 e28 => ⟨nw, by omega, fun q30 M29 eq30 e29 M31 e31 => ?_⟩⟩⟩
    have s6 := s5.st x7 (w := w * mv) rfl eq24 e23 e25
    have s7 := s6.st x7 (w := w) rfl eq27 e26 e28
    have s8 := s7.st x7 (w := w) rfl eq30 e29 e31
    exact K M31 (Or.inr ⟨r5, by rw [← e7']; exact s8⟩)
  have base : ∀ (M2 : Mem), M2 = wR M x 0 (some n0) → fr (fun c => c = x) M M2 ∧ mN M2 = mN M ∧ mS M2 = mS M ∧ mR M2 x 0 = some n0 := fun M2 e2 => ⟨by rw [e2]; exact fr_wR rfl, by rw [e2]; rfl, by rw [e2]; rfl, by rw [e2, mR_wR, if_pos ⟨rfl, rfl⟩]⟩
  refine KX5_init (h := h + 1) ?_
  unfold DX5_init_0
  refine ⟨ox, fun M2 e2 => ?_⟩
  obtain ⟨f2, n2, s2, r2⟩ := base M2 e2
  have i2 : mI M2 = mI M := by rw [e2]; rfl
  rw [i2, e10, e14, add32]
  have o2 : ok M2 x 7 := ok_E ox f2.1
  refine ⟨ok_E on f2.1, fun z5 => ?_, fun z5 => ?_⟩
  · have le5 : I + F ≤ 5 := (le32 (a := I + F) (b := 5) (by omega) (by decide)).mp z5
    unfold DX5_init_30 DX5_init_48
    refine ⟨o2, Or.inl rfl, fun M3 e3 => ⟨by rw [e3]; exact o2, fun _ => ⟨by rw [e3]; exact o2, fun M4 e4 => ?_⟩, fun y => absurd (by rw [e3, mI_wI, if_pos ⟨rfl, rfl⟩]) y⟩⟩
    have e3' := e3
    rw [pw_1 le5] at e4
    have o4 : ok M4 x 7 := by rw [e4, e3]; exact o2
    have b4 : mI M4 x 2 = 0 := by rw [e4, mI_wI, if_neg (fun y => absurd y.2 (by decide)), e3, mI_wI, if_pos ⟨rfl, rfl⟩]
    have f4 : fr (fun c => c = x) M M4 := (f2.tr (M2 := M3) (by rw [e3]; exact fr_wI rfl) (fun _ _ z => z)).tr (M2 := M4) (by rw [e4]; exact fr_wI (S := fun c => c = x) rfl) (fun _ _ z => z)
    have r4 : mR M4 x 0 = some n0 := by rw [e4, e3]; exact r2
    obtain ⟨p1, p2⟩ := pw_le le5
    refine ⟨o4, fun _ => ?_, fun y => absurd b4 y⟩
    refine d64 48 (2 ^ (I + F)) M4 (Or.inr rfl) p2 f4 (by rw [e4, e3]; exact n2) (by rw [e4, e3]; exact s2) (by rw [e4, mI_wI, if_pos ⟨rfl, rfl⟩]) (fun M' hA => ?_)
    have main : ∀ Mb, fr (fun c => c = x) M Mb → mN Mb = mN M → mS Mb = mS M → mI Mb x 2 = 0 → mI Mb x 1 = Int32.ofNat (2 ^ (I + F)) → mR Mb x 0 = some n0 → AcR x (fun j => if j = 4 ∨ j = 5 then 48 * 2 ^ (I + F) else 48) Mb M' 8 → Q none M' := by
      intro Mb fb nb sb i2b i1b r0b hA
      obtain ⟨⟨a1, a2, a3, a4⟩, b, d⟩ := hA
      have sm : smA (fun j => if j = 4 ∨ j = 5 then 48 * 2 ^ (I + F) else 48) 8 ≤ 3360 := by
        show 0 + 48 + 48 + 48 + 48 + 48 * 2 ^ (I + F) + 48 * 2 ^ (I + F) + 48 + 48 ≤ 3360
        omega
      refine K1 M' (fun f => mN M + (f - 5)) le5 (fb.tr a3 (fun _ _ z => z)) ⟨⟨ok_E (ok_E ox fb.1) a3.1, by rw [d 0 (by decide)]; exact r0b, by rw [a4]; exact i1b, le5⟩, fun f f1 f2 => ?_, fun f g f1 f2 g1 g2 z => ?_⟩ (fun f f1 f2 => ⟨Nat.le_add_right _ _, ?_⟩) (by rw [a4]; exact i2b) (by rw [a1, nb]) (by rw [a2, sb]; omega)
      · obtain ⟨b1, b2, b3, -⟩ := b (f - 5) (by omega)
        rw [nb, show 5 + (f - 5) = f by omega] at b1
        rw [nb] at b2 b3
        refine ⟨b1, b2, b3.trans ?_⟩
        by_cases y : f = 9 ∨ f = 10
        · rw [if_pos y]; exact if_pos (by omega)
        · rw [if_neg y]; exact if_neg (by omega)
      · have z : mN M + (f - 5) = mN M + (g - 5) := z
        omega
      · have := (b (f - 5) (by omega)).2.2.2
        rw [nb] at this
        exact this
    rcases hA with hA | ⟨v, hA⟩
    · exact main M4 f4 (by rw [e4, e3]; exact n2) (by rw [e4, e3]; exact s2) b4 (by rw [e4, mI_wI, if_pos ⟨rfl, rfl⟩]) r4 hA
    · exact main (wI M4 x 4 v) (f4.tr (fr_wI (S := fun c => c = x) rfl) (fun _ _ z => z)) (by rw [e4, e3]; exact n2) (by rw [e4, e3]; exact s2) (by rw [mI_wI, if_neg (fun y => absurd y.2 (by decide))]; exact b4) (by rw [mI_wI, if_neg (fun y => absurd y.2 (by decide)), e4, mI_wI, if_pos ⟨rfl, rfl⟩]) r4 hA
  · have gt5 : 5 < I + F := by
      rcases Nat.lt_or_ge 5 (I + F) with y | y
      · exact y
      · exact absurd ((le32 (a := I + F) (b := 5) (by omega) (by decide)).mpr y) z5
    unfold DX5_init_30 DX5_init_48
    refine ⟨o2, Or.inr rfl, fun M3 e3 => ⟨by rw [e3]; exact o2, fun y => ?_, fun _ => ⟨by rw [e3]; exact o2, fun M4 e4 => ?_⟩⟩⟩
    · rw [e3, mI_wI, if_pos ⟨rfl, rfl⟩] at y
      exact absurd y (by decide)
    have o4 : ok M4 x 7 := by rw [e4, e3]; exact o2
    have b4 : mI M4 x 2 = 1 := by rw [e4, mI_wI, if_neg (fun y => absurd y.2 (by decide)), e3, mI_wI, if_pos ⟨rfl, rfl⟩]
    have f4 : fr (fun c => c = x) M M4 := (f2.tr (M2 := M3) (by rw [e3]; exact fr_wI rfl) (fun _ _ z => z)).tr (M2 := M4) (by rw [e4]; exact fr_wI (S := fun c => c = x) rfl) (fun _ _ z => z)
    refine ⟨o4, fun y => ?_, fun _ => ?_⟩
    · rw [b4] at y; exact absurd y (by decide)
    refine d64 0 1 M4 (Or.inl rfl) (by decide) f4 (by rw [e4, e3]; exact n2) (by rw [e4, e3]; exact s2) (by rw [e4, mI_wI, if_pos ⟨rfl, rfl⟩]; rfl) (fun M' hA => ?_)
    have main : ∀ Mb, fr (fun c => c = x) M Mb → mN Mb = mN M → mS Mb = mS M → mI Mb x 2 = 1 → AcR x (fun j => if j = 4 ∨ j = 5 then 0 * 1 else 0) Mb M' 8 → Q none M' := by
      intro Mb fb nb sb i2b hA
      obtain ⟨⟨a1, a2, a3, a4⟩, b, d⟩ := hA
      exact K0 M' gt5 (fb.tr a3 (fun _ _ z => z)) (ok_E (ok_E ox fb.1) a3.1) (by rw [a4]; exact i2b) (by rw [a1, nb]) (by rw [a2, sb]; exact Nat.add_le_add_left (show smA (fun j => if j = 4 ∨ j = 5 then 0 * 1 else 0) 8 ≤ 3360 by decide) _)
    rcases hA with hA | ⟨v, hA⟩
    · exact main M4 f4 (by rw [e4, e3]; exact n2) (by rw [e4, e3]; exact s2) b4 hA
    · exact main (wI M4 x 4 v) (f4.tr (fr_wI (S := fun c => c = x) rfl) (fun _ _ z => z)) (by rw [e4, e3]; exact n2) (by rw [e4, e3]; exact s2) (by rw [mI_wI, if_neg (fun y => absurd y.2 (by decide))]; exact b4) hA
end
section
variable {τ : Td} {m : Nat} {σ : PS} {root : Nat} {γ : Gh} {g0 n0 n1 gw : Nat} {Z0 P : Nat → Nat → Int32} {zp : Int32} {Ψ1 Ψ2 : Wg} {R : RMo} {zn fn y0 q0 : Nat} {lc rc cc pb ib b1 b2 ya0 na0 pz x t h : Nat} {hl : List Int32} {ps : List Nat} {a : Nat → Nat} {M : Mem} {Q : Option Value → Mem → Prop}
/-- new rows for the lanes that are then long enough, or none -/
def LnP (ya0 na0 ya na len : Nat) (M M' : Mem) : Prop := (ya = ya0 ∧ na = na0 ∧ mN M' = mN M ∧ mS M' = mS M) ∨ (ya = mN M ∧ na = mN M + 1 ∧ mN M' = mN M + 2 ∧ mS M' = mS M + 2 * len ∧ mL M ya0 < len ∧ len ≤ mL M' ya)
theorem S_expl (hW : MdW τ m σ root γ g0 n0 gw Z0 P zp Ψ1 Ψ2) (hT : TwT (woS τ m σ γ) R zn fn y0 root q0) (hR : MdR τ m σ R) (h16 : τ.1.length ≤ 16) (hz : MoZ n0 n1 lc rc cc pb ib b1 b2 ps) (hM : MoM M n0 τ σ Ψ2 hl lc rc cc pb ib b1 b2 ya0 na0 pz ps) (hO : ScO M x n0 t a) (hC : (∀ s, s < 48 → ∃ q, q < 48 ∧ mAI M (a 7) s = Int32.ofNat q) ∧ ∀ j, j < 48 * 2 ^ t → mAI M (a 9) j < 0 ∨ ∃ q, q < 48 ∧ mAI M (a 9) j = Int32.ofNat q) (ht : (inL τ.2.1).length + (ifS σ).length = t) (hx : ∀ r, r = x ∨ rwF a r → ¬ (n0 ≤ r ∧ r < n1) ∧ r ≠ ya0 ∧ r ≠ na0) (hbig : mN M + 4 < mBig) (e2 : mI M x 2 = 0) (K : ∀ M' n' ya na, fr (SeF n0 ya0 na0 x a) M M' → MoM M' n0 τ σ Ψ2 hl lc rc cc pb ib b1 b2 ya na pz ps → ScO M' x n0 t a → ScC M' x t n' a → 1 ≤ n' → (mI M' x 2 = 0 ∨ mI M' x 2 = 1) → LnP ya0 na0 ya na Ψ2.1.length M M' → Q none M') : E (h + 6) mdX5_explore [.ref x] M Q := by
  have okr : ∀ {r : Nat}, r = x ∨ rwF a r → ok M r 7 ∨ ok M r 21 := fun {r} z => by
    rcases z with z | ⟨f, f1, f2, z⟩
    · exact Or.inl (by rw [z]; exact hO.1.1)
    · exact Or.inr (by rw [z]; exact (hO.2.1 f f1 f2).2.1)
  have d50 : ∀ M1 n1' ya na, fr (SeF n0 ya0 na0 x a) M M1 → MoM M1 n0 τ σ Ψ2 hl lc rc cc pb ib b1 b2 ya na pz ps → ScO M1 x n0 t a → ScC M1 x t n1' a → 1 ≤ n1' → (mI M1 x 2 = 0 ∨ mI M1 x 2 = 1) → LnP ya0 na0 ya na Ψ2.1.length M M1 → DX5_explore_50 (h + 5) x M1 Q := by
    intro M1 n1' ya na k1 Mo1 O1 C1 h1 b1 N1
    have bg : mN M1 < mBig := by rcases N1 with ⟨-, -, e, -⟩ | ⟨-, -, e, -⟩ <;> omega
    unfold DX5_explore_50 DX5_explore_61
    refine ⟨O1.1.1, fun _ => K M1 n1' ya na k1 Mo1 O1 C1 h1 b1 N1, fun _ => S_grpAl (h := h + 1) O1 C1 Mo1.1.1.1 (fun M2 k2 _ => ⟨rfl, ?_⟩)⟩
    have sub : ∀ r, (r = x ∨ (r = a 11 ∨ r = a 12)) → r = x ∨ rwF a r := fun r z => by
      rcases z with z | z | z
      · exact Or.inl z
      · exact Or.inr ⟨11, by decide, by decide, z⟩
      · exact Or.inr ⟨12, by decide, by decide, z⟩
    refine K M2 n1' ya na (k1.tr k2.fr (fun c _ z => Or.inr (Or.inr (Or.inr (sub c z))))) (Mo1.out hz bg k2.fr (fun r z => (hx r (sub r z)).1) (fun r z => ?_)) (O1.gm k2 (fun z => z)) (C1.k (k2.2.2.2.1 3 (fun z => z)) (k2.2.2.2.2 _ (fun z => z.elim (hO.ne (by decide) (by decide) (by decide) (by decide) (by decide)) (hO.ne (by decide) (by decide) (by decide) (by decide) (by decide)))) (k2.2.2.2.2 _ (fun z => z.elim (hO.ne (by decide) (by decide) (by decide) (by decide) (by decide)) (hO.ne (by decide) (by decide) (by decide) (by decide) (by decide))))) h1 (by rw [k2.2.2.2.1 2 (fun z => z)]; exact b1) ?_
    · rcases okr (sub r z) with o | o
      · rw [(ok_E o k1.1).2]; decide
      · rw [(ok_E o k1.1).2]; decide
    · unfold LnP
      rw [k2.1.1, k2.1.2.1, k2.1.2.2.2]
      exact N1
  have l18 : ∀ d s M1 n1' ya na, s + d = 48 → fr (SeF n0 ya0 na0 x a) M M1 → MoM M1 n0 τ σ Ψ2 hl lc rc cc pb ib b1 b2 ya na pz ps → ScO M1 x n0 t a → ScC M1 x t n1' a → 1 ≤ n1' → (mI M1 x 2 = 0 ∨ mI M1 x 2 = 1) → LnP ya0 na0 ya na Ψ2.1.length M M1 → T (h + 6) mdX5_explore 18 [(0, .ref x), (1, .int (Int32.ofNat s))] [] M1 Q := by
    intro d
    induction d with
    | zero =>
      intro s M1 n1' ya na hs k1 Mo1 O1 C1 h1 b1 N1
      have es : s = 48 := hs
      subst es
      refine VX5_explore_18 (h := h + 5) ?_
      unfold DX5_explore_18
      exact ⟨fun _ => d50 M1 n1' ya na k1 Mo1 O1 C1 h1 b1 N1, fun z => absurd Int32.le_rfl z⟩
    | succ d ih =>
      intro s M1 n1' ya na hs k1 Mo1 O1 C1 h1 b1 N1
      refine VX5_explore_18 (h := h + 5) ?_
      unfold DX5_explore_18
      rw [C1.1.1, succ32]
      refine ⟨fun z => absurd ((le32 (a := 48) (by decide) (by omega)).mp z) (by omega), fun _ => ⟨O1.1.1, fun _ => d50 M1 n1' ya na k1 Mo1 O1 C1 h1 b1 N1, fun z => ⟨fun _ => d50 M1 n1' ya na k1 Mo1 O1 C1 h1 b1 N1, fun b0 => ?_⟩⟩⟩
      have sn : s < n1' := by
        rcases Nat.lt_or_ge s n1' with y | y
        · exact y
        · exact absurd ((le32 (by have := C1.1.2; omega) (by omega)).mpr y) z
      have yl : ∀ {r : Nat}, r < mN M → r ≠ ya0 → r ≠ na0 → r ≠ ya ∧ r ≠ na := fun {r} hr h1 h2 => by
        rcases N1 with ⟨e, e', -⟩ | ⟨e, e', -⟩
        · rw [e, e']; exact ⟨h1, h2⟩
        · omega
      have rlt : ∀ {r : Nat}, r = x ∨ rwF a r → r < mN M := fun z => (okr z).elim (fun o => o.1) (fun o => o.1)
      refine S_wkSt (h := h) hW hT hR h16 hz Mo1 O1 C1 ht sn (fun r z => ⟨(hx r z).1, yl (rlt z) (hx r z).2.1 (hx r z).2.2⟩) (by rcases N1 with ⟨-, -, e, -⟩ | ⟨-, -, e, -⟩ <;> omega) b0 (fun M2 n2 ya' na' k2 Mo2 O2 C2 hn2 bb2 ll2 N2 _ => ⟨rfl, ih (s + 1) M2 n2 ya' na' (by omega) (k1.tr k2 (fun c hc z => ?_)) Mo2 O2 C2 (by omega) bb2 ?_⟩)
      · unfold SeF at z ⊢
        rcases N1 with ⟨e, e', -⟩ | ⟨e, e', -⟩
        · rw [e, e'] at z; exact z
        · rcases z with z | z | z | z
          · exact Or.inl z
          · omega
          · omega
          · exact Or.inr (Or.inr (Or.inr z))
      · rcases N1 with ⟨e, e', e3, e4⟩ | ⟨e, e', e3, e4, e5, e6⟩
        · rcases N2 with ⟨q, q', q3, q4⟩ | ⟨q, q', q3, q4, q5⟩
          · exact Or.inl ⟨q.trans e, q'.trans e', q3.trans e3, q4.trans e4⟩
          · refine Or.inr ⟨by omega, by omega, by omega, by omega, ?_, ll2⟩
            rw [e, (k1.1.2.2 ya0 hM.2.2.2.2.2.1.1.2.1.2.1.1).2] at q5
            exact q5
        · rcases N2 with ⟨q, q', q3, q4⟩ | ⟨q, q', q3, q4, q5⟩
          · exact Or.inr ⟨q.trans e, q'.trans e', by omega, by omega, e5, ll2⟩
          · omega
  refine KX5_explore (h := h + 5) ?_
  unfold DX5_explore_0 DX5_explore_13
  refine ⟨hO.1.1, fun _ => ⟨hO.1.1, fun M2 e2' => ?_⟩, fun z => absurd e2 z⟩
  have k2 : GmF x f23 noP M M2 := GmF.i (Or.inr rfl) e2'
  have i3 : mI M2 x 3 = Int32.ofNat 1 := by rw [e2', mI_wI, if_pos ⟨rfl, rfl⟩]; rfl
  have a2 : mAI M2 = mAI M := by rw [e2']; rfl
  refine l18 48 0 M2 1 ya0 na0 (by omega) (k2.fr.more (fun c _ z => z.elim (fun y => Or.inr (Or.inr (Or.inr (Or.inl y)))) (fun y => y.elim))) (hM.out hz (by omega) k2.fr (fun r z => z.elim (fun y => (hx r (Or.inl y)).1) (fun y => y.elim)) (fun r z => z.elim (fun y => by rw [y, hO.1.1.2]; decide) (fun y => y.elim))) (hO.gm k2 (by decide)) ⟨⟨i3, by decide⟩, by rw [a2]; exact hC.1, by rw [a2]; exact hC.2⟩ (Nat.le_refl _) (Or.inl ?_) (Or.inl ⟨rfl, rfl, k2.1.1, k2.1.2.1⟩)
  rw [e2', mI_wI, if_neg (fun y => absurd y.2 (by decide))]; exact e2
/-- a search that is beyond from the first on -/
theorem S_expB (ox : ok M x 7) (e2 : mI M x 2 = 1) (K : ∀ M', GmF x f23 noP M M' → mI M' x 2 = 1 → Q none M') : E (h + 1) mdX5_explore [.ref x] M Q := by
  refine KX5_explore ?_
  unfold DX5_explore_0 DX5_explore_13
  refine ⟨ox, fun z => absurd (e2.symm.trans z) (by decide), fun _ => ⟨ox, fun M2 e2' => ?_⟩⟩
  have k2 : GmF x f23 noP M M2 := GmF.i (Or.inr rfl) e2'
  have i3 : mI M2 x 3 = 0 := by rw [e2', mI_wI, if_pos ⟨rfl, rfl⟩]
  have i2 : mI M2 x 2 = 1 := by rw [e2', mI_wI, if_neg (fun y => absurd y.2 (by decide))]; exact e2
  refine VX5_explore_18 ?_
  unfold DX5_explore_18 DX5_explore_50 DX5_explore_61
  refine ⟨fun z => absurd z (by decide), fun _ => ⟨k2.ok ox, fun _ => ⟨k2.ok ox, fun _ => K M2 k2 i2, fun z => absurd (i2.symm.trans z) (by decide)⟩, fun z => absurd (by rw [i3]; exact Int32.le_rfl) z⟩⟩
end
end
section
/-! what variables begin with -/
/-- numbers that variables begin with -/
def BeO (τ : Td) : Prop := ∀ k, ∃ v : Nat, v < 1000000 ∧ (τ.2.2.2.2.getD k 0 = Int64.ofNat v ∨ τ.2.2.2.2.getD k 0 = -(Int64.ofNat v))
theorem be_app {l : List Int64} {x : Int64} {k : Nat} (h : ∀ k, ∃ v : Nat, v < 1000000 ∧ (l.getD k 0 = Int64.ofNat v ∨ l.getD k 0 = -(Int64.ofNat v))) (hx : ∃ v : Nat, v < 1000000 ∧ (x = Int64.ofNat v ∨ x = -(Int64.ofNat v))) : ∃ v : Nat, v < 1000000 ∧ ((l ++ [x]).getD k 0 = Int64.ofNat v ∨ (l ++ [x]).getD k 0 = -(Int64.ofNat v)) := by
  rcases Nat.lt_trichotomy k l.length with q | q | q
  · rw [show (l ++ [x]).getD k 0 = l.getD k 0 from by rw [List.getD_eq_getElem?_getD, List.getD_eq_getElem?_getD, List.getElem?_append_left q]]
    exact h k
  · rw [show (l ++ [x]).getD k 0 = x from by rw [q, List.getD_eq_getElem?_getD, List.getElem?_append_right (Nat.le_refl _), Nat.sub_self]; rfl]
    exact hx
  · refine ⟨0, by decide, Or.inl ?_⟩
    rw [List.getD_eq_getElem?_getD, List.getElem?_eq_none (by rw [List.length_append]; show l.length + 1 ≤ k; omega)]
    rfl
theorem tc_num {b : Nat → Int32} {n i : Nat} (hB : By b) (k : tK b n i = 3) : ∃ v, v < 1000000 ∧ tC b n i = Int64.ofNat v := by
  obtain ⟨-, -, v, v1, v2, -⟩ := num_val2 (p := tP b n i) hB k
  exact ⟨v, v1, v2⟩
theorem td_be {b : Nat → Int32} {n : Nat} (hB : By b) : ∀ (g i : Nat) (τ : Td) (r : Nat × Td), BeO τ → td b n g i τ = .ok r → BeO r.2 := by
  intro g
  induction g with
  | zero => intro i τ r _ h; unfold td at h; cases h
  | succ g ih =>
    intro i τ r hM h
    unfold td at h
    by_cases k1 : tK b n i = 36
    · rw [if_pos k1] at h
      obtain ⟨j, -, h⟩ := bind_ok h
      obtain ⟨k, -, h⟩ := bind_ok h
      obtain ⟨q, hq, h⟩ := bind_ok h
      obtain ⟨l, -, h⟩ := bind_ok h
      refine ih _ _ _ ?_ h
      intro x
      refine be_app (l := τ.2.2.2.2) hM ?_
      unfold tdV at hq
      obtain ⟨p, -, hq⟩ := bind_ok hq
      by_cases k3 : tK b n p = 21
      · rw [if_pos k3] at hq
        obtain ⟨y, -, hq⟩ := bind_ok hq
        by_cases k4 : tK b n y = 3
        · rw [if_pos k4] at hq
          obtain ⟨w, -, hq⟩ := bind_ok hq
          cases hq
          obtain ⟨v, v1, v2⟩ := tc_num hB k4
          exact ⟨v, v1, Or.inr (by rw [v2])⟩
        · rw [if_neg k4] at hq; cases hq
      · rw [if_neg k3] at hq
        by_cases k4 : tK b n p = 3
        · rw [if_pos k4] at hq
          obtain ⟨w, -, hq⟩ := bind_ok hq
          cases hq
          obtain ⟨v, v1, v2⟩ := tc_num hB k4
          exact ⟨v, v1, Or.inl v2⟩
        · rw [if_neg k4] at hq; cases hq
    rw [if_neg k1] at h
    by_cases k2 : tK b n i = 30 ∨ tK b n i = 31 ∨ tK b n i = 32
    · rw [if_pos k2] at h
      obtain ⟨j, -, h⟩ := bind_ok h
      obtain ⟨k, -, h⟩ := bind_ok h
      obtain ⟨q, -, h⟩ := bind_ok h
      obtain ⟨l, -, h⟩ := bind_ok h
      refine ih _ _ _ ?_ h
      exact fun k => hM k
    · rw [if_neg k2] at h
      cases h
      exact hM
theorem rdm_be {b : Nat → Int32} {n m : Nat} {A : Nat → Nat → Int32} {B : Nat → Int64} {Zt : Nat → Nat → Int32} {r : Nat × Td × PS × Nat} (hB : By b) (e : rdM b n m A B Zt = .ok r) : BeO r.2.1 := by
  unfold rdM at e
  by_cases k0 : tK b n 0 = 0
  · rw [if_pos k0] at e; cases e
  · rw [if_neg k0] at e
    obtain ⟨q, hq, e⟩ := bind_ok e
    obtain ⟨w, -, e⟩ := bind_ok e
    cases e
    exact td_be hB 900 0 td0 q (fun k => ⟨0, by decide, Or.inl (by cases k <;> rfl)⟩) hq
/-- such a number is one that may be told -/
theorem BeO.inG {τ : Td} (h : BeO τ) (k : Nat) : InG ((τ.2.2.2.2.getD k 0).toInt32).toInt64 := by
  obtain ⟨v, v1, v2 | v2⟩ := h k
  · rw [v2]; exact (InG.n v1).cut
  · rw [v2]; exact (InG.n v1).neg.cut
end
section
/-! the class as a whole: modules, governors, whose each cell is -/
/-- a module's search: not made, beyond, or made -/
def SeS (ow : Nat → Nat) (M : Mem) (n0 t ya na : Nat) : Prop := mR M n0 17 = none ∨ ∃ x, mR M n0 17 = some x ∧ ok M x 7 ∧ ow x = n0 ∧ (mI M x 2 = 1 ∨ (mI M x 2 = 0 ∧ ∃ a n, ScO M x n0 t a ∧ ScC M x t n a ∧ 1 ≤ n ∧ ∀ f, 5 ≤ f → f ≤ 12 → ow (a f) = n0 ∧ a f ≠ ya ∧ a f ≠ na))
/-- module n0 of the class -/
def CmX (ow : Nat → Nat) (M : Mem) (n0 : Nat) (τ : Td) (σ : PS) : Prop := ∃ (m root : Nat) (γ : Gh) (g0 gw : Nat) (Z0 P : Nat → Nat → Int32) (zp : Int32) (Ψ1 Ψ2 : Wg) (R : RMo) (zn fn y0 q0 : Nat) (hl : List Int32) (lc rc cc pb ib b1 b2 ya na pz n1 : Nat) (ps : List Nat), (MdW τ m σ root γ g0 n0 gw Z0 P zp Ψ1 Ψ2 ∧ TwT (woS τ m σ γ) R zn fn y0 root q0 ∧ MdR τ m σ R ∧ τ.1.length ≤ 16 ∧ σ.2.2.1.length ≤ 810 ∧ (ifS σ).length ≤ 80 ∧ τ.2.2.2.1.length ≤ 6 ∧ (trS σ).2.1 ≤ 24 ∧ BeO τ) ∧ MoM M n0 τ σ Ψ2 hl lc rc cc pb ib b1 b2 ya na pz ps ∧ MoZ n0 n1 lc rc cc pb ib b1 b2 ps ∧ (n1 ≤ mN M ∧ (∀ a, n0 ≤ a → a < n1 → ow a = n0) ∧ ow ya = n0 ∧ ow na = n0) ∧ SeS ow M n0 ((inL τ.2.1).length + (ifS σ).length) ya na
/-- governor g of module c with nP parts -/
def GoX (ow : Nat → Nat) (M : Mem) (g c nP : Nat) : Prop := ∃ nw nx kp gn wr ks, GvS M g c nw nx kp gn wr nP ks ∧ GvR M g nw nx gn ks ∧ ow g = g ∧ ∀ r, grR nw nx wr gn ks r ∨ r = kp → ow r = g
section
variable {ow ow' : Nat → Nat} {M M' : Mem} {n0 t ya na g c nP : Nat} {τ : Td} {σ : PS} {S : Nat → Prop}
theorem ScO.fr {x t : Nat} {a : Nat → Nat} (h : ScO M x c t a) (k : fr S M M') (hx : ¬ S x) : ScO M' x c t a := by
  obtain ⟨⟨a1, a2, a3, a4⟩, b, d⟩ := h
  have r := k.2 x a1.1 hx
  exact ⟨⟨ok_E a1 k.1, by rw [r.2.2.1]; exact a2, by rw [r.1]; exact a3, a4⟩, fun f f1 f2 => ⟨by rw [r.2.2.1]; exact (b f f1 f2).1, ok_E (b f f1 f2).2.1 k.1, by rw [(k.1.2.2 _ (b f f1 f2).2.1.1).2]; exact (b f f1 f2).2.2⟩, d⟩
theorem SeS.fr (h : SeS ow M n0 t ya na) (k : fr S M M') (on : n0 < mN M) (hr : mR M' n0 17 = mR M n0 17) (hx : ∀ x, mR M n0 17 = some x → ok M x 7 → ow x = n0 → ¬ S x) (ha : ∀ r, ok M r 21 → ow r = n0 → r ≠ ya → r ≠ na → ¬ S r) {ya' na' : Nat} (hy : ∀ r, ok M r 21 → r ≠ ya → r ≠ na → r ≠ ya' ∧ r ≠ na') : SeS ow M' n0 t ya' na' := by
  rcases h with h | ⟨x, h1, h2, h3, h4⟩
  · exact Or.inl (by rw [hr]; exact h)
  · have nx := hx x h1 h2 h3
    have rx := k.2 x h2.1 nx
    refine Or.inr ⟨x, by rw [hr]; exact h1, ok_E h2 k.1, h3, ?_⟩
    rcases h4 with h4 | ⟨h4, a, n, hO, hC, hn, ho⟩
    · exact Or.inl (by rw [rx.1]; exact h4)
    · have ra : ∀ f, 5 ≤ f → f ≤ 12 → sameRow M M' (a f) := fun f f1 f2 => k.2 _ (hO.2.1 f f1 f2).2.1.1 (ha _ (hO.2.1 f f1 f2).2.1 (ho f f1 f2).1 (ho f f1 f2).2.1 (ho f f1 f2).2.2)
      refine Or.inr ⟨by rw [rx.1]; exact h4, a, n, hO.fr k nx, hC.k (by rw [rx.1]) (ra 7 (by decide) (by decide)).2.2.2.1 (ra 9 (by decide) (by decide)).2.2.2.1, hn, fun f f1 f2 => ⟨(ho f f1 f2).1, hy _ (hO.2.1 f f1 f2).2.1 (ho f f1 f2).2.1 (ho f f1 f2).2.2⟩⟩
theorem CmX.on (h : CmX ow M n0 τ σ) : ok M n0 3 := by
  obtain ⟨m, root, γ, g0, gw, Z0, P, zp, Ψ1, Ψ2, R, zn, fn, y0, q0, hl, lc, rc, cc, pb, ib, b1, b2, ya, na, pz, n1, ps, hp, hM, hz, hs⟩ := h
  exact hM.1.1.1
/-- a call that leaves the module's cells alone -/
theorem CmX.out (h : CmX ow M n0 τ σ) (hb : mN M < mBig) (k : fr S M M') (hS : ∀ a, S a → ow a ≠ n0) (h0 : ∀ a, S a → mK M a ≠ 0) : CmX ow M' n0 τ σ := by
  obtain ⟨m, root, γ, g0, gw, Z0, P, zp, Ψ1, Ψ2, R, zn, fn, y0, q0, hl, lc, rc, cc, pb, ib, b1, b2, ya, na, pz, n1, ps, hp, hM, hz, ⟨z1, z2, z3, z4⟩, hs⟩ := h
  have on := hM.1.1.1
  have rn := k.2 n0 on.1 (fun z => hS _ z (z2 n0 (Nat.le_refl _) (by have := hz.1; omega)))
  exact ⟨m, root, γ, g0, gw, Z0, P, zp, Ψ1, Ψ2, R, zn, fn, y0, q0, hl, lc, rc, cc, pb, ib, b1, b2, ya, na, pz, n1, ps, hp, hM.mu hz z2 hS h0 hb (MuF.of hM hz z2 hS k), hz, ⟨Nat.le_trans z1 k.1.1, z2, z3, z4⟩, hs.fr k on.1 (by rw [rn.2.2.1]) (fun x _ _ h3 z => hS _ z h3) (fun r _ h3 _ _ z => hS _ z h3) (fun r _ h1 h2 => ⟨h1, h2⟩)⟩
/-- new cells get their owners -/
theorem CmX.own (h : CmX ow M n0 τ σ) (ho : ∀ a, a < mN M → ow' a = ow a) : CmX ow' M n0 τ σ := by
  obtain ⟨m, root, γ, g0, gw, Z0, P, zp, Ψ1, Ψ2, R, zn, fn, y0, q0, hl, lc, rc, cc, pb, ib, b1, b2, ya, na, pz, n1, ps, hp, hM, hz, ⟨z1, z2, z3, z4⟩, hs⟩ := h
  have oy : ok M ya 21 := hM.2.2.2.2.2.1.1.2.1.2.1
  have on : ok M na 21 := hM.2.2.2.2.2.1.1.2.2.1.2.1
  refine ⟨m, root, γ, g0, gw, Z0, P, zp, Ψ1, Ψ2, R, zn, fn, y0, q0, hl, lc, rc, cc, pb, ib, b1, b2, ya, na, pz, n1, ps, hp, hM, hz, ⟨z1, fun a h1 h2 => by rw [ho a (by omega)]; exact z2 a h1 h2, by rw [ho _ oy.1]; exact z3, by rw [ho _ on.1]; exact z4⟩, ?_⟩
  rcases hs with h | ⟨x, h1, h2, h3, h4⟩
  · exact Or.inl h
  · refine Or.inr ⟨x, h1, h2, by rw [ho _ h2.1]; exact h3, ?_⟩
    rcases h4 with h4 | ⟨h4, a, n, hO, hC, hn, hq⟩
    · exact Or.inl h4
    · exact Or.inr ⟨h4, a, n, hO, hC, hn, fun f f1 f2 => ⟨by rw [ho _ (hO.2.1 f f1 f2).2.1.1]; exact (hq f f1 f2).1, (hq f f1 f2).2⟩⟩
theorem GoX.out (h : GoX ow M g c nP) (k : fr S M M') (hS : ∀ a, S a → ow a ≠ g) : GoX ow M' g c nP := by
  obtain ⟨nw, nx, kp, gn, wr, ks, h1, h2, h3, h4⟩ := h
  obtain ⟨a1, a2⟩ := gv_fr h1 h2 k (fun z => hS _ z h3) (fun r hr z => hS _ z (h4 r hr))
  exact ⟨nw, nx, kp, gn, wr, ks, a1, a2, h3, h4⟩
theorem GoX.own (h : GoX ow M g c nP) (ho : ∀ a, a < mN M → ow' a = ow a) : GoX ow' M g c nP := by
  obtain ⟨nw, nx, kp, gn, wr, ks, h1, h2, h3, h4⟩ := h
  refine ⟨nw, nx, kp, gn, wr, ks, h1, h2, by rw [ho _ h1.1.1.1]; exact h3, fun r hr => ?_⟩
  have hlt : r < mN M := by
    rcases hr with (z | z | z | z | ⟨i, hi, z⟩) | z <;> rw [z]
    · exact h1.2.1.1.1.1
    · exact h1.2.1.2.1.1.1
    · exact h1.2.1.2.2.2.1.1
    · exact h1.2.1.2.2.1.1.1
    · exact (h1.2.2.1.2.2 i hi).2.1.1
    · exact h1.2.2.1.1.1
  rw [ho r hlt]
  exact h4 r hr
end
/-- the whole of it: modules ms, governors gs, the rows mb, gb of their lists; ga: what each module was read as; gm: each governor's module -/
def CvS (ow : Nat → Nat) (ga : Nat → Td × PS) (gm : Nat → Nat) (M : Mem) (ms gs : List Nat) (mb gb : Nat) : Prop := Fix M ∧ (ALp M 2 mb 3 ms ∧ ms.length ≤ 4) ∧ (ALp M 3 gb 4 gs ∧ gs.length ≤ 8) ∧ ((mb = mBig + 5 ∨ (132 ≤ mb ∧ mb < mN M ∧ ow mb = 2)) ∧ (gb = mBig + 5 ∨ (132 ≤ gb ∧ gb < mN M ∧ ow gb = 3))) ∧ (∀ a, a < 132 → ow a = 0) ∧ (∀ i j, i < ms.length → j < ms.length → ms.getD i 0 = ms.getD j 0 → i = j) ∧ (∀ i j, i < gs.length → j < gs.length → gs.getD i 0 = gs.getD j 0 → i = j) ∧ (∀ i, i < ms.length → 132 ≤ ms.getD i 0 ∧ CmX ow M (ms.getD i 0) (ga (ms.getD i 0)).1 (ga (ms.getD i 0)).2) ∧ ∀ i, i < gs.length → 132 ≤ gs.getD i 0 ∧ ∃ j, j < ms.length ∧ gm (gs.getD i 0) = ms.getD j 0 ∧ GoX ow M (gs.getD i 0) (ms.getD j 0) (npS (ga (ms.getD j 0)).2)
section
variable {ow : Nat → Nat} {ga : Nat → Td × PS} {gm : Nat → Nat} {M M' : Mem} {ms gs : List Nat} {mb gb h : Nat} {S : Nat → Prop} {Q : Option Value → Mem → Prop} {x : Int32}
/-- a call that touches only cells ahead of all modules, and not the lists -/
theorem CvS.out (hC : CvS ow ga gm M ms gs mb gb) (hb : mN M < mBig) (k : fr S M M') (F : Fix M') (hS : ∀ a, S a → a < 132 ∧ a ≠ 2 ∧ a ≠ 3 ∧ mK M a ≠ 0) : CvS ow ga gm M' ms gs mb gb := by
  obtain ⟨-, ⟨a1, a2⟩, ⟨b1, b2⟩, ⟨c1, c2⟩, d, e1, e2, f, g⟩ := hC
  have n2 : ¬ S 2 := fun z => (hS 2 z).2.1 rfl
  have n3 : ¬ S 3 := fun z => (hS 3 z).2.2.1 rfl
  have nl : ∀ {r : Nat}, (r = mBig + 5 ∨ (132 ≤ r ∧ r < mN M ∧ (ow r = 2 ∨ ow r = 3))) → ok M r 24 → ¬ S r := fun {r} h1 h2 z => by
    have := (hS r z).1
    rcases h1 with h1 | h1
    · have := h2.1; omega
    · omega
  have hn : ∀ {c : Nat}, 132 ≤ c → ∀ a, S a → ow a ≠ c := fun {c} hc a z e => by
    rw [d a (hS a z).1] at e
    omega
  refine ⟨F, ⟨alp_fr3 a1 k n2 (nl (c1.imp id (fun z => ⟨z.1, z.2.1, Or.inl z.2.2⟩))), a2⟩, ⟨alp_fr3 b1 k n3 (nl (c2.imp id (fun z => ⟨z.1, z.2.1, Or.inr z.2.2⟩))), b2⟩, ⟨c1.imp id (fun z => ⟨z.1, Nat.lt_of_lt_of_le z.2.1 k.1.1, z.2.2⟩), c2.imp id (fun z => ⟨z.1, Nat.lt_of_lt_of_le z.2.1 k.1.1, z.2.2⟩)⟩, d, e1, e2, fun i hi => ⟨(f i hi).1, (f i hi).2.out hb k (hn (f i hi).1) (fun a z => (hS a z).2.2.2)⟩, fun i hi => ?_⟩
  obtain ⟨h1, j, h2, h3, h4⟩ := g i hi
  exact ⟨h1, j, h2, h3, h4.out k (hn h1)⟩
theorem S_modAt (hC : CvS ow ga gm M ms gs mb gb) (K0 : (∀ i, i < ms.length → x ≠ Int32.ofNat i) → Q (some .null) M) (K1 : ∀ i, i < ms.length → x = Int32.ofNat i → Q (some (.ref (ms.getD i 0))) M) : E (h + 4) mdX10_moduleAt [.ref 0, .int x] M Q := by
  obtain ⟨F, ⟨hA, h4⟩, -, -, -, -, -, hm, -⟩ := id hC
  refine KX10_moduleAt (h := h + 3) ?_
  unfold DX10_moduleAt_0 DX10_moduleAt_15 DX10_moduleAt_30
  refine ⟨fun z => K0 (fun i hi e => ?_), fun z => ⟨ok0 F, 2, rf0_2 F, hA.1, S_alSize (h := h + 2) hA (fun _ => ⟨_, rfl, fun y => ?_, fun y => K0 (fun i hi e => ?_)⟩)⟩⟩
  · rw [e] at z
    exact nn32 (by omega) z
  · obtain ⟨i, e, hi⟩ := nn_of z
    rw [e] at y ⊢
    have hl : i < ms.length := (ltn32 hi (by omega)).mp y
    exact ⟨2, rf0_2 F, hA.1, S_get (h := h) hA hl (fun _ => ⟨_, rfl, (hm i hl).2.on, K1 i hl e⟩)⟩
  · rw [e] at y
    exact y ((ltn32 (by omega) (by omega)).mpr hi)
theorem S_govAt (hC : CvS ow ga gm M ms gs mb gb) (K0 : (∀ i, i < gs.length → x ≠ Int32.ofNat i) → Q (some .null) M) (K1 : ∀ i, i < gs.length → x = Int32.ofNat i → Q (some (.ref (gs.getD i 0))) M) : E (h + 4) mdX10_governorAt [.ref 0, .int x] M Q := by
  obtain ⟨F, -, ⟨hA, h8⟩, -, -, -, -, -, hg⟩ := id hC
  refine KX10_governorAt (h := h + 3) ?_
  unfold DX10_governorAt_0 DX10_governorAt_15 DX10_governorAt_30
  refine ⟨fun z => K0 (fun i hi e => ?_), fun z => ⟨ok0 F, 3, rf0_3 F, hA.1, S_alSize (h := h + 2) hA (fun _ => ⟨_, rfl, fun y => ?_, fun y => K0 (fun i hi e => ?_)⟩)⟩⟩
  · rw [e] at z
    exact nn32 (by omega) z
  · obtain ⟨i, e, hi⟩ := nn_of z
    rw [e] at y ⊢
    have hl : i < gs.length := (ltn32 hi (by omega)).mp y
    obtain ⟨-, j, -, -, nw, nx, kp, gn, wr, ks, hv, -⟩ := hg i hl
    exact ⟨3, rf0_3 F, hA.1, S_get (h := h) hA hl (fun _ => ⟨_, rfl, hv.1.1, K1 i hl e⟩)⟩
  · rw [e] at y
    exact y ((ltn32 (by omega) (by omega)).mpr hi)
end
end
section
/-! the class's calls on governors -/
section
variable {ow : Nat → Nat} {ga : Nat → Td × PS} {gm : Nat → Nat} {M M' : Mem} {ms gs : List Nat} {mb gb h n0 : Nat} {S Wp : Nat → Prop} {Q : Option Value → Mem → Prop} {x y z w : Int32} {τ : Td} {σ : PS}
theorem CvS.fix (hC : CvS ow ga gm M ms gs mb gb) (k : fr S M M') (hS : ∀ a, S a → 132 ≤ a) : Fix M' := by
  have F := hC.1
  have r : ∀ a, a < 132 → sameRow M M' a := fun a ha => k.2 a (by have := F.1; omega) (fun z => by have := hS a z; omega)
  exact F.of_fr (S := S) k.1 (fun e he => by rw [(r e.1 (tRS_lt e he)).2.2.1]) (r 19 (by decide)).2.2.2.2.1
/-- a call that touches only cells of the owners Wp -/
theorem CvS.own (hC : CvS ow ga gm M ms gs mb gb) (hb : mN M < mBig) (k : fr S M M') (hS : ∀ a, S a → Wp (ow a) ∧ mK M a ≠ 0) (hW : ∀ v, Wp v → 132 ≤ v) (hm : ∀ i, i < ms.length → Wp (ms.getD i 0) → CmX ow M' (ms.getD i 0) (ga (ms.getD i 0)).1 (ga (ms.getD i 0)).2) (hg : ∀ i j, i < gs.length → j < ms.length → gm (gs.getD i 0) = ms.getD j 0 → Wp (gs.getD i 0) → GoX ow M' (gs.getD i 0) (ms.getD j 0) (npS (ga (ms.getD j 0)).2)) : CvS ow ga gm M' ms gs mb gb := by
  obtain ⟨-, ⟨a1, a2⟩, ⟨b1, b2⟩, ⟨c1, c2⟩, d, e1, e2, f, g⟩ := id hC
  have h132 : ∀ a, S a → 132 ≤ a := fun a z => by
    rcases Nat.lt_or_ge a 132 with y | y
    · have := hW _ (hS a z).1
      rw [d a y] at this
      omega
    · exact y
  have n2 : ∀ {r : Nat}, r < 132 → ¬ S r := fun hr z => by have := h132 _ z; omega
  have nl : ∀ {r : Nat}, (r = mBig + 5 ∨ (132 ≤ r ∧ r < mN M ∧ (ow r = 2 ∨ ow r = 3))) → ok M r 24 → ¬ S r := fun {r} h1 h2 z => by
    have := hW _ (hS r z).1
    rcases h1 with h1 | ⟨-, -, h1 | h1⟩
    · have := h2.1; omega
    · omega
    · omega
  refine ⟨hC.fix k h132, ⟨alp_fr3 a1 k (n2 (by decide)) (nl (c1.imp id (fun z => ⟨z.1, z.2.1, Or.inl z.2.2⟩))), a2⟩, ⟨alp_fr3 b1 k (n2 (by decide)) (nl (c2.imp id (fun z => ⟨z.1, z.2.1, Or.inr z.2.2⟩))), b2⟩, ⟨c1.imp id (fun z => ⟨z.1, Nat.lt_of_lt_of_le z.2.1 k.1.1, z.2.2⟩), c2.imp id (fun z => ⟨z.1, Nat.lt_of_lt_of_le z.2.1 k.1.1, z.2.2⟩)⟩, d, e1, e2, fun i hi => ⟨(f i hi).1, ?_⟩, fun i hi => ?_⟩
  · by_cases q : Wp (ms.getD i 0)
    · exact hm i hi q
    · exact (f i hi).2.out hb k (fun a z e => q (by rw [← e]; exact (hS a z).1)) (fun a z => (hS a z).2)
  · obtain ⟨h1, j, h2, h3, h4⟩ := g i hi
    refine ⟨h1, j, h2, h3, ?_⟩
    by_cases q : Wp (gs.getD i 0)
    · exact hg i j hi h2 h3 q
    · exact h4.out k (fun a z e => q (by rw [← e]; exact (hS a z).1))
/-- what governors' calls ask of a module -/
theorem CmX.fl (hX : CmX ow M n0 τ σ) : ∃ I pb ps, (mI M n0 9 = Int32.ofNat τ.1.length ∧ τ.1.length ≤ 16) ∧ (mI M n0 10 = Int32.ofNat I ∧ I ≤ 4) ∧ (mI M n0 12 = Int32.ofNat τ.2.2.2.1.length ∧ τ.2.2.2.1.length ≤ 6) ∧ (mI M n0 13 = Int32.ofNat (trS σ).2.1 ∧ (trS σ).2.1 ≤ 24) ∧ mR M n0 6 = some (n0 + 7) ∧ ALp M (n0 + 7) pb 5 ps ∧ ps.length = npS σ ∧ npS σ ≤ 40 := by
  obtain ⟨m, root, γ, g0, gw, Z0, P, zp, Ψ1, Ψ2, R, zn, fn, y0, q0, hl, lc, rc, cc, pb, ib, b1, b2, ya, na, pz, n1, ps, hp, hM, hz, -⟩ := hX
  obtain ⟨hP, ⟨p1, p2, p3, p4⟩, -, -, -, -, -, -, ⟨g1, -, g3, g4, -⟩⟩ := hM
  exact ⟨_, pb, ps, ⟨g1, hp.2.2.2.1⟩, ⟨hP.1.2.2.2.2, hP.2.2.2.2.2.1⟩, ⟨g3, hp.2.2.2.2.2.2.1⟩, ⟨g4, hp.2.2.2.2.2.2.2.1⟩, p1, p2, p3, p4⟩
theorem S_hasSg {S : Nat} (on : ok M n0 3) (e9 : mI M n0 9 = Int32.ofNat S) (hS : S ≤ 16) (K1 : ∀ i, i < S → x = Int32.ofNat i → Q (some (.int 1)) M) (K0 : (∀ i, i < S → x ≠ Int32.ofNat i) → Q (some (.int 0)) M) : E (h + 1) mdX1_hasSignal [.ref n0, .int x] M Q := by
  refine KX1_hasSignal ?_
  unfold DX1_hasSignal_0 DX1_hasSignal_16 DX1_hasSignal_17
  rw [e9]
  refine ⟨fun z => ⟨Or.inl rfl, K0 (fun i hi e => ?_)⟩, fun z => ⟨on, fun y => ⟨Or.inl rfl, K0 (fun i hi e => ?_)⟩, fun y => ⟨Or.inr rfl, ?_⟩⟩⟩
  · rw [e] at z; exact nn32 (by omega) z
  · rw [e] at y; have := (le32 (by omega) (by omega)).mp y; omega
  · obtain ⟨i, e, hi⟩ := nn_of z
    rw [e] at y
    refine K1 i ?_ e
    rcases Nat.lt_or_ge i S with q | q
    · exact q
    · exact absurd ((le32 (by omega) hi).mpr q) y
theorem S_hasPt {pb : Nat} {ps : List Nat} (on : ok M n0 3) (e6 : mR M n0 6 = some (n0 + 7)) (hA : ALp M (n0 + 7) pb 5 ps) (hl : ps.length ≤ 40) (K1 : ∀ i, i < ps.length → x = Int32.ofNat i → Q (some (.int 1)) M) (K0 : (∀ i, i < ps.length → x ≠ Int32.ofNat i) → Q (some (.int 0)) M) : E (h + 2) mdX1_hasPart [.ref n0, .int x] M Q := by
  refine KX1_hasPart (h := h + 1) ?_
  unfold DX1_hasPart_0 DX1_hasPart_19 DX1_hasPart_20
  refine ⟨fun z => ⟨Or.inl rfl, K0 (fun i hi e => ?_)⟩, fun z => ⟨on, n0 + 7, e6, hA.1, S_alSize (h := h) hA (fun _ => ⟨_, rfl, fun y => ⟨Or.inl rfl, K0 (fun i hi e => ?_)⟩, fun y => ⟨Or.inr rfl, ?_⟩⟩)⟩⟩
  · rw [e] at z; exact nn32 (by omega) z
  · rw [e] at y; have := (le32 (by omega) (by omega)).mp y; omega
  · obtain ⟨i, e, hi⟩ := nn_of z
    rw [e] at y
    refine K1 i ?_ e
    rcases Nat.lt_or_ge i ps.length with q | q
    · exact q
    · exact absurd ((le32 (by omega) hi).mpr q) y
/-- a governor and its module -/
theorem CvS.gv (hC : CvS ow ga gm M ms gs mb gb) {i : Nat} (hi : i < gs.length) : ∃ j nw nx kp gn wr ks, j < ms.length ∧ gm (gs.getD i 0) = ms.getD j 0 ∧ 132 ≤ gs.getD i 0 ∧ GvS M (gs.getD i 0) (ms.getD j 0) nw nx kp gn wr (npS (ga (ms.getD j 0)).2) ks ∧ GvR M (gs.getD i 0) nw nx gn ks ∧ ow (gs.getD i 0) = gs.getD i 0 ∧ (∀ r, grR nw nx wr gn ks r ∨ r = kp → ow r = gs.getD i 0) ∧ CmX ow M (ms.getD j 0) (ga (ms.getD j 0)).1 (ga (ms.getD j 0)).2 := by
  obtain ⟨h1, j, h2, h3, nw, nx, kp, gn, wr, ks, h4, h5, h6, h7⟩ := hC.2.2.2.2.2.2.2.2 i hi
  exact ⟨j, nw, nx, kp, gn, wr, ks, h2, h3, h1, h4, h5, h6, h7, (hC.2.2.2.2.2.2.2.1 j h2).2⟩
theorem G_present (hC : CvS ow ga gm M ms gs mb gb) (K : ∀ r : Int32, Q (some (.int r)) M) : E (h + 5) mdX10_present [.ref 0, .int x, .int y] M Q := by
  refine KX10_present (h := h + 4) ?_
  unfold DX10_present_0 DX10_present_21
  refine ⟨ok0 hC.1, S_govAt (h := h) hC (fun _ _ => ⟨none, rfl, fun _ => K _, fun b e => absurd e (by simp)⟩) (fun i hi _ _ => ⟨some _, rfl, fun e => absurd e (by simp), fun b e => ?_⟩)⟩
  cases e
  obtain ⟨j, nw, nx, kp, gn, wr, ks, hj, -, -, hv, hr, -, -, hm⟩ := hC.gv hi
  obtain ⟨I, pb, ps, ⟨e9, h9⟩, -⟩ := hm.fl
  exact ⟨hv.1.1, _, hv.1.2.1, hm.on, S_hasSg (h := h + 3) hm.on e9 h9 (fun _ _ _ _ => ⟨1, rfl, fun _ => K _, fun z => absurd z (by decide)⟩) (fun _ _ => ⟨0, rfl, fun z => absurd rfl z, fun _ => K _⟩)⟩
theorem G_value (hC : CvS ow ga gm M ms gs mb gb) (K : ∀ r : Int32, Q (some (.int r)) M) : E (h + 5) mdX10_value [.ref 0, .int x, .int y] M Q := by
  refine KX10_value (h := h + 4) ?_
  unfold DX10_value_0 DX10_value_21
  refine ⟨ok0 hC.1, S_govAt (h := h) hC (fun _ _ => ⟨none, rfl, fun _ => K _, fun b e => absurd e (by simp)⟩) (fun i hi _ _ => ⟨some _, rfl, fun e => absurd e (by simp), fun b e => ?_⟩)⟩
  cases e
  obtain ⟨j, nw, nx, kp, gn, wr, ks, hj, -, -, hv, hr, -, -, hm⟩ := hC.gv hi
  obtain ⟨I, pb, ps, ⟨e9, h9⟩, -⟩ := hm.fl
  refine ⟨hv.1.1, _, hv.1.2.1, hm.on, S_hasSg (h := h + 3) hm.on e9 h9 (fun q hq eq _ => ⟨1, rfl, fun _ => ⟨nw, hv.1.2.2.1, hv.2.1.1.1, ?_, K _⟩, fun z => absurd z (by decide)⟩) (fun _ _ => ⟨0, rfl, fun z => absurd rfl z, fun _ => K _⟩)⟩
  rw [eq, hv.2.1.1.2, show (4 : Int32) + Int32.ofNat q = Int32.ofNat (4 + q) from by rw [Int32.ofNat_add]; rfl]
  exact vp_of (by omega) (by decide)
theorem G_variable (hC : CvS ow ga gm M ms gs mb gb) (K : ∀ r : Int32, Q (some (.int r)) M) : E (h + 5) mdX10_variable [.ref 0, .int x, .int y] M Q := by
  refine KX10_variable (h := h + 4) ?_
  unfold DX10_variable_0 DX10_variable_25
  refine ⟨ok0 hC.1, S_govAt (h := h) hC (fun _ _ => ⟨none, rfl, fun _ => K _, fun b e => absurd e (by simp)⟩) (fun i hi _ _ => ⟨some _, rfl, fun e => absurd e (by simp), fun b e => ?_⟩)⟩
  cases e
  obtain ⟨j, nw, nx, kp, gn, wr, ks, hj, -, -, hv, hr, -, -, hm⟩ := hC.gv hi
  obtain ⟨I, pb, ps, -, -, ⟨e12, h12⟩, -⟩ := hm.fl
  refine ⟨fun _ => K _, fun z => ⟨hv.1.1, _, hv.1.2.1, hm.on, fun q => ⟨nw, hv.1.2.2.1, hv.2.1.1.1, ?_, K _⟩, fun _ => K _⟩⟩
  obtain ⟨v, ev, hv2⟩ := nn_of z
  rw [e12, ev] at q
  have := (ltn32 hv2 (by omega)).mp q
  rw [ev, hv.2.1.1.2, show (20 : Int32) + Int32.ofNat v = Int32.ofNat (20 + v) from by rw [Int32.ofNat_add]; rfl]
  exact vp_of (by omega) (by decide)
theorem G_paused (hC : CvS ow ga gm M ms gs mb gb) (K : ∀ r : Int32, Q (some (.int r)) M) : E (h + 5) mdX10_paused [.ref 0, .int x, .int y] M Q := by
  refine KX10_paused (h := h + 4) ?_
  unfold DX10_paused_0 DX10_paused_25
  refine ⟨ok0 hC.1, S_govAt (h := h) hC (fun _ _ => ⟨none, rfl, fun _ => K _, fun b e => absurd e (by simp)⟩) (fun i hi _ _ => ⟨some _, rfl, fun e => absurd e (by simp), fun b e => ?_⟩)⟩
  cases e
  obtain ⟨j, nw, nx, kp, gn, wr, ks, hj, -, -, hv, hr, -, -, hm⟩ := hC.gv hi
  exact ⟨fun _ => K _, fun z => ⟨hv.1.1, _, hv.1.2.1, hm.on, fun q => ⟨nw, hv.1.2.2.1, hv.2.1.1.1, by rw [hv.2.1.1.2]; exact vp_of (n := 0) (by decide) (by decide), K _⟩, fun _ => K _⟩⟩
theorem G_wire (hC : CvS ow ga gm M ms gs mb gb) (K : ∀ r : Int32, Q (some (.int r)) M) : E (h + 5) mdX10_wire [.ref 0, .int x, .int y, .int z] M Q := by
  refine KX10_wire (h := h + 4) ?_
  unfold DX10_wire_0 DX10_wire_24 DX10_wire_35
  refine ⟨ok0 hC.1, S_govAt (h := h) hC (fun _ _ => ⟨none, rfl, fun _ => K _, fun b e => absurd e (by simp)⟩) (fun i hi _ _ => ⟨some _, rfl, fun e => absurd e (by simp), fun b e => ?_⟩)⟩
  cases e
  obtain ⟨j, nw, nx, kp, gn, wr, ks, hj, -, -, hv, hr, -, -, hm⟩ := hC.gv hi
  obtain ⟨I, pb, ps, -, -, -, -, e6, hA, hl, h40⟩ := hm.fl
  refine ⟨hv.1.1, _, hv.1.2.1, hm.on, S_hasPt (h := h + 2) hm.on e6 hA (by omega) (fun q hq eq _ => ⟨1, rfl, fun _ => ⟨fun _ => K _, fun _ => ⟨fun _ => ?_, fun _ => K _⟩⟩, fun z => absurd z (by decide)⟩) (fun _ _ => ⟨0, rfl, fun z => absurd rfl z, fun _ => K _⟩)⟩
  rw [eq]
  exact S_wire (h := h + 3) hv (by omega) h40 (fun r _ => ⟨r, rfl, K _⟩)
theorem G_same (hC : CvS ow ga gm M ms gs mb gb) (K : ∀ r : Int32, Q (some (.int r)) M) : E (h + 5) mdX10_same [.ref 0, .int x, .int y] M Q := by
  refine KX10_same (h := h + 4) ?_
  unfold DX10_same_0 DX10_same_22 DX10_same_53
  have two : ∀ o3 : Option Nat, (o3 = none ∨ ∃ i, i < gs.length ∧ o3 = some (gs.getD i 0)) → E (h + 4) mdX10_governorAt [.ref 0, .int y] M (fun r M4 => mE M M4 → ∃ o5 : Option Nat, r = some (va_rf o5) ∧ (o3 = none → Q (some (.int (-1))) M4) ∧ (∀ b6, o3 = some b6 → (o5 = none → Q (some (.int (-1))) M4) ∧ (∀ b7, o5 = some b7 → ok M4 b6 4 ∧ ok M4 b7 4 ∧ ((mI M4 b6 1) = (mI M4 b7 1) → E (h + 4) mdX2_likeOther [.ref b6, .ref b7] M4 (fun r M10 => mE M4 M10 → ∃ r11 : Int32, r = some (.int r11) ∧ (r11 = 0 → Q (some (.int 0)) M10) ∧ (¬ (r11 = 0) → Q (some (.int 1)) M10))) ∧ (¬ ((mI M4 b6 1) = (mI M4 b7 1)) → Q (some (.int (-2))) M4)))) := by
    intro o3 ho
    refine S_govAt (h := h) hC (fun _ _ => ⟨none, rfl, fun _ => K _, fun b6 _ => ⟨fun _ => K _, fun b e => absurd e (by simp)⟩⟩) (fun i hi _ _ => ⟨some _, rfl, fun _ => K _, fun b6 e6 => ⟨fun _ => K _, fun b e => ?_⟩⟩)
    cases e
    rcases ho with ho | ⟨q, hq, ho⟩
    · rw [ho] at e6; exact absurd e6 (by simp)
    · rw [ho] at e6
      cases e6
      obtain ⟨j, nw, nx, kp, gn, wr, ks, hj, -, -, hv, hr, -⟩ := hC.gv hi
      obtain ⟨j2, nw2, nx2, kp2, gn2, wr2, ks2, hj2, -, -, hv2, hr2, -⟩ := hC.gv hq
      exact ⟨hv2.1.1, hv.1.1, fun _ => S_like (h := h + 3) hv2 hv (fun r _ _ => ⟨r, rfl, fun _ => K _, fun _ => K _⟩), fun _ => K _⟩
  exact ⟨ok0 hC.1, S_govAt (h := h) hC (fun _ _ => ⟨none, rfl, two none (Or.inl rfl)⟩) (fun i hi _ _ => ⟨some _, rfl, two _ (Or.inr ⟨i, hi, rfl⟩)⟩)⟩
/-- governor i alone has changed -/
theorem CvS.gm1 (hC : CvS ow ga gm M ms gs mb gb) (hb : mN M < mBig) {i : Nat} (hi : i < gs.length) {fs R : Nat → Prop} (k : GmF (gs.getD i 0) fs R M M') (hR : ∀ r, R r → ow r = gs.getD i 0 ∧ mK M r ≠ 0) (hG : ∀ j, j < ms.length → gm (gs.getD i 0) = ms.getD j 0 → GoX ow M' (gs.getD i 0) (ms.getD j 0) (npS (ga (ms.getD j 0)).2)) : CvS ow ga gm M' ms gs mb gb := by
  obtain ⟨j, nw, nx, kp, gn, wr, ks, hj, e1, e2, hv, hr, ho, -, -⟩ := hC.gv hi
  refine hC.own (Wp := fun v => v = gs.getD i 0) hb k.fr (fun a z => ?_) (fun v z => by rw [z]; exact e2) (fun q hq z => ?_) (fun q q2 hq hq2 e z => ?_)
  · rcases z with z | z
    · rw [z]; exact ⟨ho, by rw [hv.1.1.2]; decide⟩
    · exact hR a z
  · exfalso
    have := (hC.2.2.2.2.2.2.2.1 q hq).2.on
    rw [z, ] at this
    exact absurd (this.2.symm.trans hv.1.1.2) (by decide)
  · have : q = i := hC.2.2.2.2.2.2.1 q i hq hi z
    subst this
    exact hG q2 hq2 e
theorem G_give (hC : CvS ow ga gm M ms gs mb gb) (hb : mN M < mBig) (K : ∀ M' (r : Int32), CvS ow ga gm M' ms gs mb gb → fr (fun a => ∃ i, i < gs.length ∧ ow a = gs.getD i 0) M M' → (mN M' = mN M ∧ mS M' = mS M) → (∀ q, q < gs.length → mI M' (gs.getD q 0) 5 = mI M (gs.getD q 0) 5) → Q (some (.int r)) M') : E (h + 5) mdX10_give [.ref 0, .int x, .int y, .int z, .int w] M Q := by
  have K0 : ∀ r, Q (some (.int r)) M := fun r => K M r hC fr.rf ⟨rfl, rfl⟩ (fun _ _ => rfl)
  refine KX10_give (h := h + 4) ?_
  unfold DX10_give_0 DX10_give_28 DX10_give_44
  refine ⟨ok0 hC.1, S_govAt (h := h) hC (fun _ _ => ⟨none, rfl, fun _ => K0 _, fun b e => absurd e (by simp)⟩) (fun i hi _ _ => ⟨some _, rfl, fun e => absurd e (by simp), fun b e => ?_⟩)⟩
  cases e
  obtain ⟨j, nw, nx, kp, gn, wr, ks, hj, ej, e2, hv, hr, ho, hrow, hm⟩ := hC.gv hi
  obtain ⟨I, pb, ps, -, ⟨e10, h10⟩, -⟩ := hm.fl
  refine ⟨fun _ => K0 _, fun q0 => ⟨hv.1.1, _, hv.1.2.1, hm.on, fun q1 => ⟨fun _ => K0 _, fun q2 => ⟨fun q3 => S_hasE (h := h + 3) hv (fun r9 _ _ => ⟨r9, rfl, fun _ => ?_, fun _ => K0 _⟩), fun _ => K0 _⟩⟩, fun _ => K0 _⟩⟩
  obtain ⟨v, ev, hv2⟩ := nn_of q0
  rw [e10, ev] at q1
  have v4 := (ltn32 hv2 (by omega)).mp q1
  rw [ev]
  refine S_take (h := h + 3) hv hr (by omega) ?_ (fun M10 k10 R10 _ => ⟨rfl, K M10 _ (hC.gm1 hb hi k10 (fun r er => ⟨hrow r (Or.inl (Or.inr (Or.inr (Or.inr (Or.inl er))))), by rw [er, hv.2.1.2.2.1.1.2]; decide⟩) (fun j2 hj2 e => ?_)) (k10.fr.more (fun a _ z => ?_)) ⟨k10.1.1, k10.1.2.1⟩ (fun q hq => ?_)⟩)
  · refine InG.o ?_ ?_
    · rw [Int32.toInt_toInt64]
      have := Int32.not_lt.mp q2
      rw [Int32.le_iff_toInt_le] at this
      exact this
    · rw [Int32.toInt_toInt64]
      rw [Int32.le_iff_toInt_le] at q3
      exact q3
  · have : j2 = j := hC.2.2.2.2.2.1 j2 j hj2 hj (e.symm.trans ej)
    subst this
    exact ⟨nw, nx, kp, gn, wr, ks, hv.gm k10, R10, ho, hrow⟩
  · rcases z with z | z
    · exact ⟨i, hi, by rw [z]; exact ho⟩
    · exact ⟨i, hi, hrow a (Or.inl (Or.inr (Or.inr (Or.inr (Or.inl z)))))⟩
  · by_cases z : gs.getD q 0 = gs.getD i 0
    · rw [z, k10.2.2.2.1 5 (by decide)]
    · rw [k10.2.2.1 _ z]
end
end
section
/-! the class's keep, back, beat -/
section
variable {ow : Nat → Nat} {ga : Nat → Td × PS} {gm : Nat → Nat} {M M' : Mem} {ms gs : List Nat} {mb gb h n0 : Nat} {Q : Option Value → Mem → Prop} {x : Int32}
theorem ge132 (hC : CvS ow ga gm M ms gs mb gb) {a v : Nat} (hv : 132 ≤ v) (e : ow a = v) : 132 ≤ a := by
  rcases Nat.lt_or_ge a 132 with y | y
  · rw [hC.2.2.2.2.1 a y] at e; omega
  · exact y
theorem G_keep (hC : CvS ow ga gm M ms gs mb gb) (hb : mN M < mBig) (K0 : (∀ i, i < gs.length → x ≠ Int32.ofNat i) → Q (some (.int (-1))) M) (K3 : ∀ i, i < gs.length → x = Int32.ofNat i → mI M (gs.getD i 0) 5 = Int32.ofNat 3 → Q (some (.int (-3))) M) (K : ∀ i q M', i < gs.length → x = Int32.ofNat i → q < 3 → mI M (gs.getD i 0) 5 = Int32.ofNat q → CvS ow ga gm M' ms gs mb gb → fr (fun a => ∃ i, i < gs.length ∧ ow a = gs.getD i 0) M M' → (mN M' = mN M ∧ mS M' = mS M) → mI M' (gs.getD i 0) 5 = Int32.ofNat (q + 1) → (∀ j, j < gs.length → j ≠ i → mI M' (gs.getD j 0) 5 = mI M (gs.getD j 0) 5) → Q (some (.int (Int32.ofNat (q + 1)))) M') : E (h + 5) mdX10_keep [.ref 0, .int x] M Q := by
  refine KX10_keep (h := h + 4) ?_
  unfold DX10_keep_0
  refine ⟨ok0 hC.1, S_govAt (h := h) hC (fun ne _ => ⟨none, rfl, fun _ => K0 ne, fun b e => absurd e (by simp)⟩) (fun i hi ex _ => ⟨some _, rfl, fun e => absurd e (by simp), fun b e => ?_⟩)⟩
  cases e
  obtain ⟨j, nw, nx, kp, gn, wr, ks, hj, ej, e2, hv, hr, ho, hrow, hm⟩ := hC.gv hi
  obtain ⟨q, q3, eq⟩ := hr.2.2.2.2
  refine ⟨hv.1.1, fun z => ?_, fun z => K3 i hi ex ?_⟩
  · rw [eq] at z
    have lt : q < 3 := (ltn32 (a := q) (b := 3) (by omega) (by decide)).mp z
    refine S_store (h := h + 3) hv hr eq lt (fun M6 k6 R6 e6 _ => ⟨rfl, ?_⟩)
    rw [e6]
    refine K i q M6 hi ex lt eq (hC.gm1 hb hi k6 (fun r er => ⟨hrow r (Or.inl (Or.inr (Or.inr (Or.inr (Or.inr ⟨q, lt, er⟩))))), by rw [er, (hv.2.2.1.2.2 q lt).2.1.2]; decide⟩) (fun j2 hj2 e => ?_)) (k6.fr.more (fun a _ z => ?_)) ⟨k6.1.1, k6.1.2.1⟩ e6 (fun j2 hj2 ne => ?_)
    · have : j2 = j := hC.2.2.2.2.2.1 j2 j hj2 hj (e.symm.trans ej)
      subst this
      exact ⟨nw, nx, kp, gn, wr, ks, hv.gm k6, R6, ho, hrow⟩
    · rcases z with z | z
      · exact ⟨i, hi, by rw [z]; exact ho⟩
      · exact ⟨i, hi, hrow a (Or.inl (Or.inr (Or.inr (Or.inr (Or.inr ⟨q, lt, z⟩)))))⟩
    · rw [k6.2.2.1 _ (fun z => ne (hC.2.2.2.2.2.2.1 j2 i hj2 hi z))]
  · rw [eq] at z ⊢
    have : ¬ q < 3 := fun y => z ((ltn32 (a := q) (b := 3) (by omega) (by decide)).mpr y)
    rw [show q = 3 by omega]
theorem G_back (hC : CvS ow ga gm M ms gs mb gb) (hb : mN M < mBig) (K0 : (∀ i, i < gs.length → x ≠ Int32.ofNat i) → Q (some (.int (-1))) M) (K3 : ∀ i, i < gs.length → x = Int32.ofNat i → mI M (gs.getD i 0) 5 = Int32.ofNat 0 → Q (some (.int (-2))) M) (K : ∀ i q M', i < gs.length → x = Int32.ofNat i → q < 3 → mI M (gs.getD i 0) 5 = Int32.ofNat (q + 1) → CvS ow ga gm M' ms gs mb gb → fr (fun a => ∃ i, i < gs.length ∧ ow a = gs.getD i 0) M M' → (mN M' = mN M ∧ mS M' = mS M) → mI M' (gs.getD i 0) 5 = Int32.ofNat q → (∀ j, j < gs.length → j ≠ i → mI M' (gs.getD j 0) 5 = mI M (gs.getD j 0) 5) → Q (some (.int (Int32.ofNat q))) M') : E (h + 5) mdX10_back [.ref 0, .int x] M Q := by
  refine KX10_back (h := h + 4) ?_
  unfold DX10_back_0
  refine ⟨ok0 hC.1, S_govAt (h := h) hC (fun ne _ => ⟨none, rfl, fun _ => K0 ne, fun b e => absurd e (by simp)⟩) (fun i hi ex _ => ⟨some _, rfl, fun e => absurd e (by simp), fun b e => ?_⟩)⟩
  cases e
  obtain ⟨j, nw, nx, kp, gn, wr, ks, hj, ej, e2, hv, hr, ho, hrow, hm⟩ := hC.gv hi
  obtain ⟨q, q3, eq⟩ := hr.2.2.2.2
  obtain ⟨I, pb, ps, -, -, -, -, -, -, hl, h40⟩ := hm.fl
  refine ⟨hv.1.1, fun z => ?_, fun z => K3 i hi ex z⟩
  rw [eq] at z
  obtain ⟨q, rfl⟩ : ∃ q', q = q' + 1 := by
    cases q with
    | zero => exact absurd rfl z
    | succ q => exact ⟨q, rfl⟩
  refine S_rest (h := h + 2) hv hr h40 eq (by omega) (fun M6 k6 R6 e6 _ => ⟨rfl, ?_⟩)
  rw [e6]
  have rw4 : ∀ r, (r = nw ∨ r = wr) → grR nw nx wr gn ks r := fun r er => er.elim (fun y => Or.inl y) (fun y => Or.inr (Or.inr (Or.inl y)))
  refine K i q M6 hi ex (by omega) eq (hC.gm1 hb hi k6 (fun r er => ⟨hrow r (Or.inl (rw4 r er)), ?_⟩) (fun j2 hj2 e => ?_)) (k6.fr.more (fun a _ z => ?_)) ⟨k6.1.1, k6.1.2.1⟩ e6 (fun j2 hj2 ne => ?_)
  · rcases er with er | er
    · rw [er, hv.2.1.1.1.2]; decide
    · rw [er, hv.2.1.2.2.2.1.2]; decide
  · have : j2 = j := hC.2.2.2.2.2.1 j2 j hj2 hj (e.symm.trans ej)
    subst this
    exact ⟨nw, nx, kp, gn, wr, ks, hv.gm k6, R6, ho, hrow⟩
  · rcases z with z | z
    · exact ⟨i, hi, by rw [z]; exact ho⟩
    · exact ⟨i, hi, hrow a (Or.inl (rw4 a z))⟩
  · rw [k6.2.2.1 _ (fun z => ne (hC.2.2.2.2.2.2.1 j2 i hj2 hi z))]
/-- how much room the lanes of module n0 still want -/
def lnS (M : Mem) (n0 : Nat) : Nat := match mR M (n0 + 8) 2 with
  | some ya => if mL M ya < (mI M (n0 + 8) 4).toNatClampNeg then 2 * (mI M (n0 + 8) 4).toNatClampNeg else 0
  | none => 0
def lnN (M : Mem) (n0 : Nat) : Nat := match mR M (n0 + 8) 2 with
  | some ya => if mL M ya < (mI M (n0 + 8) 4).toNatClampNeg then 2 else 0
  | none => 0
theorem CvS.owN {ow' : Nat → Nat} (hC : CvS ow ga gm M ms gs mb gb) (ho : ∀ a, a < mN M → ow' a = ow a) : CvS ow' ga gm M ms gs mb gb := by
  obtain ⟨F, a, b, ⟨c1, c2⟩, d, e1, e2, f, g⟩ := hC
  refine ⟨F, a, b, ⟨c1.imp id (fun z => ⟨z.1, z.2.1, by rw [ho _ z.2.1]; exact z.2.2⟩), c2.imp id (fun z => ⟨z.1, z.2.1, by rw [ho _ z.2.1]; exact z.2.2⟩)⟩, fun a ha => by rw [ho a (by have := F.1; omega)]; exact d a ha, e1, e2, fun i hi => ⟨(f i hi).1, (f i hi).2.own ho⟩, fun i hi => ?_⟩
  obtain ⟨h1, j, h2, h3, h4⟩ := g i hi
  exact ⟨h1, j, h2, h3, h4.own ho⟩
theorem ln_at {ya na len lc rc : Nat} {N : Nt} (hc : CirP M (n0 + 8) lc rc N) (h2 : mR M (n0 + 8) 2 = some ya) (hl : N.length = len) (hlt : len < 100000) : lnS M n0 = (if mL M ya < len then 2 * len else 0) ∧ lnN M n0 = if mL M ya < len then 2 else 0 := by
  have e : (mI M (n0 + 8) 4).toNatClampNeg = len := by rw [hc.2.2.2.2.2.1, hl]; exact lt32 (by omega)
  unfold lnS lnN
  rw [h2, e]
  exact ⟨rfl, rfl⟩
theorem ln_fr {S : Nat → Prop} {τ : Td} {σ : PS} (hX : CmX ow M n0 τ σ) (k : fr S M M') (hS : ∀ a, S a → ow a ≠ n0) : lnS M' n0 = lnS M n0 ∧ lnN M' n0 = lnN M n0 ∧ mR M' n0 = mR M n0 := by
  obtain ⟨m, root, γ, g0, gw, Z0, P, zp, Ψ1, Ψ2, R, zn, fn, y0, q0, hl, lc, rc, cc, pb, ib, b1, b2, ya, na, pz, n1, ps, hp, hM, hz, ⟨z1, z2, z3, z4⟩, hs⟩ := hX
  have n25 := hz.1
  have oxx : ok M (n0 + 8) 2 := hM.2.2.2.2.2.1.1.1.1
  have oy : ok M ya 21 := hM.2.2.2.2.2.1.1.2.1.2.1
  have r8 := k.2 (n0 + 8) oxx.1 (fun z => hS _ z (z2 _ (by omega) (by omega)))
  have r0 := k.2 n0 hM.1.1.1.1 (fun z => hS _ z (z2 _ (by omega) (by omega)))
  have e2 := hM.2.2.2.2.2.1.1.2.1.1
  refine ⟨?_, ?_, r0.2.2.1⟩
  · unfold lnS
    rw [r8.2.2.1, r8.1, e2]
    show (if mL M' ya < _ then _ else 0) = if mL M ya < _ then _ else 0
    rw [(k.1.2.2 ya oy.1).2]
  · unfold lnN
    rw [r8.2.2.1, r8.1, e2]
    show (if mL M' ya < _ then 2 else 0) = if mL M ya < _ then 2 else 0
    rw [(k.1.2.2 ya oy.1).2]
set_option maxHeartbeats 1000000 in
theorem G_beat (hC : CvS ow ga gm M ms gs mb gb) (hb : mN M + 4 < mBig) (K0 : ∀ r : Int32, Q (some (.int r)) M) (K : ∀ M' ow' c (r : Int32), (∃ j, j < ms.length ∧ c = ms.getD j 0) → (∀ a, a < mN M → ow' a = ow a) → CvS ow' ga gm M' ms gs mb gb → fr (fun a => 132 ≤ a) M M' → (mN M' + lnN M' c ≤ mN M + lnN M c ∧ mS M' + lnS M' c ≤ mS M + lnS M c) → (∀ j, j < ms.length → ms.getD j 0 ≠ c → lnS M' (ms.getD j 0) = lnS M (ms.getD j 0) ∧ lnN M' (ms.getD j 0) = lnN M (ms.getD j 0)) → (∀ j, j < ms.length → mR M' (ms.getD j 0) 17 = mR M (ms.getD j 0) 17) → (∀ q, q < gs.length → mI M' (gs.getD q 0) 5 = mI M (gs.getD q 0) 5) → Q (some (.int r)) M') : E (h + 9) mdX10_beat [.ref 0, .int x] M Q := by
  refine KX10_beat (h := h + 8) ?_
  unfold DX10_beat_0
  refine ⟨ok0 hC.1, S_govAt (h := h + 4) hC (fun ne _ => ⟨none, rfl, fun _ => K0 _, fun b e => absurd e (by simp)⟩) (fun i hi ex _ => ⟨some _, rfl, fun e => absurd e (by simp), fun b e => ?_⟩)⟩
  cases e
  obtain ⟨j0, -, -, -, -, -, -, hj0, ej0, -⟩ := hC.gv hi
  obtain ⟨ow', how'⟩ : ∃ ow' : Nat → Nat, ow' = fun a => if a < mN M then ow a else ms.getD j0 0 := ⟨_, rfl⟩
  have hag : ∀ a, a < mN M → ow' a = ow a := fun a ha => by rw [how']; exact if_pos ha
  have hnew : ∀ a, mN M ≤ a → ow' a = ms.getD j0 0 := fun a ha => by rw [how']; exact if_neg (by omega)
  have hC0 := hC
  replace hC := hC.owN hag
  have K := fun M' c r => K M' ow' c r
  clear how'
  obtain ⟨j, nw, nx, kp, gn, wr, ks, hj, ej, e2, hv, hr, ho, hrow, hm⟩ := hC.gv hi
  rw [show ms.getD j0 0 = ms.getD j 0 from ej0.symm.trans ej] at hnew
  have hn := (hC.2.2.2.2.2.2.2.1 j hj).1
  generalize hn0 : ms.getD j 0 = n0 at hv hm hn hnew ej
  generalize hgg : gs.getD i 0 = g at hv hr ho hrow e2 ej
  obtain ⟨m, root, γ, g0, gw, Z0, P, zp, Ψ1, Ψ2, R, zn, fn, y0, q0, hl, lc, rc, cc, pb, ib, b1, b2, ya, na, pz, n1, ps, ⟨hW, hT, hR, h16, hX, hif, hva, hpz⟩, hM, hz, ⟨z1, z2, z3, z4⟩, hs⟩ := id hm
  refine ⟨hv.1.1, S_hasE (h := h + 7) hv (fun r7 _ _ => ⟨r7, rfl, fun _ => ?_, fun _ => K0 _⟩)⟩
  have n25 := hz.1
  have cs := hM.2.2.2.2.2.1
  have oy : ok M ya 21 := cs.1.2.1.2.1
  have on : ok M na 21 := cs.1.2.2.1.2.1
  have gne : g ≠ n0 := fun e => by
    have := hM.1.1.1
    rw [← e] at this
    exact absurd (this.2.symm.trans hv.1.1.2) (by decide)
  -- rows of the governor and of the module are apart
  have owm : ∀ {r q : Nat}, ok M r q → inZ n0 n1 r → ow' r = n0 := fun {r q} o hi2 => by
    rcases hi2 with y | y
    · exact z2 r y.1 y.2
    · have := o.1; omega
  have i25 : ∀ c, c < 25 → inZ n0 n1 (n0 + c) := fun c hc => Or.inl ⟨by omega, by omega⟩
  have ce := hM.2.2.2.2.2.2.1
  have mrow : ∀ r, mrR cc (n0 + 4) lc rc (n0 + 20) (n0 + 17) (n0 + 18) (n0 + 19) r → ow' r = n0 := fun r hr2 => by
    unfold mrR at hr2
    rcases hr2 with e | e | e | e | e | e | e | e <;> rw [e]
    · exact owm hM.1.2.1.1.2.2.1 hz.2.2.2.1
    · exact owm hM.1.2.2.2.1 (i25 4 (by decide))
    · exact owm cs.1.1.2.2.1 hz.2.1
    · exact owm cs.1.1.2.2.2.2.1 hz.2.2.1
    · exact owm cs.2.2.2.1.2.1 (i25 20 (by decide))
    · exact owm ce.2.1.2.1 (i25 17 (by decide))
    · exact owm ce.2.2.1.2.1 (i25 18 (by decide))
    · exact owm ce.2.2.2.1.2.1 (i25 19 (by decide))
  have dj : DjR (grR nw nx wr gn ks) (mrR cc (n0 + 4) lc rc (n0 + 20) (n0 + 17) (n0 + 18) (n0 + 19)) ya na := by
    refine ⟨fun r hr2 => ⟨fun e => ?_, fun e => ?_, fun e => ?_⟩, hM.2.2.2.2.2.2.2.1⟩
    · have := hrow r (Or.inl hr2); rw [e, z3] at this; exact gne this.symm
    · have := hrow r (Or.inl hr2); rw [e, z4] at this; exact gne this.symm
    · have := hrow r (Or.inl hr2); rw [mrow r e] at this; exact gne this.symm
  have hB : BtS M g n0 nw nx kp gn wr ks (n0 + 22) cc (n0 + 24) (n0 + 3) (n0 + 4) (inL (ga n0).1.2.1).length (coS (ga n0).2) (ga n0).2.2.2.1 (n0 + 7) pb ps (ga n0).1.1.length (ga n0).1.2.1 (ifS (ga n0).2) Ψ2.1.length := by
    refine ⟨?_, hM.1, ⟨hM.2.1.1, hM.2.1.2.1, by have := hM.2.1; omega⟩, fun q hq => (hM.2.2.1 q hq).1, hM.2.2.2.1⟩
    rw [hM.2.1.2.2.1]
    exact hv
  refine S_react (h := h) hW hT hR h16 hX (by omega) hB hM.2.2.2.2.1 cs ce hr dj (fun M8 ya' na' nw' nx' r9 rf hv8 hr8 _ => ⟨r9, rfl, ?_⟩)
  obtain ⟨f8, ⟨x1, x2, x3, x4, x5⟩, ⟨s1, s2, s3, s4⟩, k5, nn, ⟨o1, l1, l2, o2, l3, l4⟩, sw⟩ := rf
  have e8 := f8.1
  -- owners of new cells
  have dn : ∀ {r : Nat}, r = g ∨ r = n0 + 22 ∨ r = n0 + 24 ∨ r = n0 + 8 ∨ r = ya ∨ r = na ∨ r = nw ∨ r = nx ∨ r = wr → (ow' r = g ∨ ow' r = n0) ∧ mK M r ≠ 0 := fun {r} zz => by
    have osm : ok M (n0 + 22) 8 := hM.1.2.1.1.1
    have ost : ok M (n0 + 24) 23 := hM.1.2.1.2.1.2.1
    have oxx : ok M (n0 + 8) 2 := cs.1.1.1
    rcases zz with e | e | e | e | e | e | e | e | e <;> rw [e]
    · exact ⟨Or.inl ho, by rw [hv.1.1.2]; decide⟩
    · exact ⟨Or.inr (owm osm (i25 22 (by decide))), by rw [osm.2]; decide⟩
    · exact ⟨Or.inr (owm ost (i25 24 (by decide))), by rw [ost.2]; decide⟩
    · exact ⟨Or.inr (owm oxx (i25 8 (by decide))), by rw [oxx.2]; decide⟩
    · exact ⟨Or.inr z3, by rw [oy.2]; decide⟩
    · exact ⟨Or.inr z4, by rw [on.2]; decide⟩
    · exact ⟨Or.inl (hrow nw (Or.inl (Or.inl rfl))), by rw [hv.2.1.1.1.2]; decide⟩
    · exact ⟨Or.inl (hrow nx (Or.inl (Or.inr (Or.inl rfl)))), by rw [hv.2.1.2.1.1.2]; decide⟩
    · exact ⟨Or.inl (hrow wr (Or.inl (Or.inr (Or.inr (Or.inl rfl))))), by rw [hv.2.1.2.2.2.1.2]; decide⟩
  have ogr : ∀ {r q : Nat}, ok M r q → q ≠ 4 → q ≠ 8 → q ≠ 23 → q ≠ 2 → q ≠ 21 → ¬ (r = g ∨ r = n0 + 22 ∨ r = n0 + 24 ∨ r = n0 + 8 ∨ r = ya ∨ r = na ∨ r = nw ∨ r = nx ∨ r = wr) := fun {r q} o h4 h8 h23 h2 h21 zz => by
    have e := o.2
    rcases zz with y | y | y | y | y | y | y | y | y <;> rw [y] at e
    · exact h4 (e.symm.trans hv.1.1.2)
    · exact h8 (e.symm.trans hM.1.2.1.1.1.2)
    · exact h23 (e.symm.trans hM.1.2.1.2.1.2.1.2)
    · exact h2 (e.symm.trans cs.1.1.1.2)
    · exact h21 (e.symm.trans oy.2)
    · exact h21 (e.symm.trans on.2)
    · exact h21 (e.symm.trans hv.2.1.1.1.2)
    · exact h21 (e.symm.trans hv.2.1.2.1.1.2)
    · exact h21 (e.symm.trans hv.2.1.2.2.2.1.2)
  have on0 : ok M n0 3 := hM.1.1.1
  have rn0 := f8.2 n0 on0.1 (ogr on0 (by decide) (by decide) (by decide) (by decide) (by decide))
  have yl : (ya' = ya ∧ na' = na) ∨ (mN M ≤ ya' ∧ mN M ≤ na' ∧ ya' ≠ na') := by
    rcases nn with ⟨e, e', -⟩ | ⟨e, e', -⟩
    · exact Or.inl ⟨e, e'⟩
    · exact Or.inr ⟨by omega, by omega, by omega⟩
  have M8' : MoM M8 n0 (ga n0).1 (ga n0).2 Ψ2 hl lc rc cc pb ib b1 b2 ya' na' pz ps := by
    refine hM.mu (S := fun a => a = g ∨ a = nw ∨ a = nx ∨ a = wr) hz z2 (fun a zz e => ?_) (fun a zz => ?_) (by omega) ⟨f8.more (fun a _ zz => ?_), ⟨rn0.1, fun f _ => by rw [rn0.2.2.1]⟩, ⟨x1, x3, x4, x5⟩, ⟨s1, s2⟩, ⟨o1, o2, l2, l4, fun _ => l3⟩, yl⟩
    · rcases zz with y | y | y | y <;> rw [y] at e
      · exact gne (ho.symm.trans e)
      · exact gne ((hrow nw (Or.inl (Or.inl rfl))).symm.trans e)
      · exact gne ((hrow nx (Or.inl (Or.inr (Or.inl rfl)))).symm.trans e)
      · exact gne ((hrow wr (Or.inl (Or.inr (Or.inr (Or.inl rfl))))).symm.trans e)
    · rcases zz with y | y | y | y
      · exact (dn (Or.inl y)).2
      · exact (dn (Or.inr (Or.inr (Or.inr (Or.inr (Or.inr (Or.inr (Or.inl y)))))))).2
      · exact (dn (Or.inr (Or.inr (Or.inr (Or.inr (Or.inr (Or.inr (Or.inr (Or.inl y))))))))).2
      · exact (dn (Or.inr (Or.inr (Or.inr (Or.inr (Or.inr (Or.inr (Or.inr (Or.inr y))))))))).2
    · rcases zz with y | y | y | y | y | y | y | y | y
      · exact Or.inr (Or.inr (Or.inr (Or.inr (Or.inr (Or.inr (Or.inl y))))))
      · exact Or.inr (Or.inl y)
      · exact Or.inr (Or.inr (Or.inl y))
      · exact Or.inr (Or.inr (Or.inr (Or.inl y)))
      · exact Or.inr (Or.inr (Or.inr (Or.inr (Or.inl y))))
      · exact Or.inr (Or.inr (Or.inr (Or.inr (Or.inr (Or.inl y)))))
      · exact Or.inr (Or.inr (Or.inr (Or.inr (Or.inr (Or.inr (Or.inr (Or.inl y)))))))
      · exact Or.inr (Or.inr (Or.inr (Or.inr (Or.inr (Or.inr (Or.inr (Or.inr (Or.inl y))))))))
      · exact Or.inr (Or.inr (Or.inr (Or.inr (Or.inr (Or.inr (Or.inr (Or.inr (Or.inr y))))))))
  have oww : ow' ya' = n0 ∧ ow' na' = n0 := by
    rcases nn with ⟨e, e', -⟩ | ⟨e, e', -⟩
    · rw [e, e']; exact ⟨z3, z4⟩
    · exact ⟨hnew _ (by omega), hnew _ (by omega)⟩
  have X8 : CmX ow' M8 n0 (ga n0).1 (ga n0).2 := by
    refine ⟨m, root, γ, g0, gw, Z0, P, zp, Ψ1, Ψ2, R, zn, fn, y0, q0, hl, lc, rc, cc, pb, ib, b1, b2, ya', na', pz, n1, ps, ⟨hW, hT, hR, h16, hX, hif, hva, hpz⟩, M8', hz, ⟨Nat.le_trans z1 e8.1, z2, oww.1, oww.2⟩, hs.fr f8 on0.1 (by rw [rn0.2.2.1]) (fun q _ o7 _ => ogr o7 (by decide) (by decide) (by decide) (by decide) (by decide)) (fun r o21 er ny nn2 zz => ?_) (fun r o21 h1 h2 => ?_)⟩
    · have e := o21.2
      rcases zz with y | y | y | y | y | y | y | y | y
      · rw [y, hv.1.1.2] at e; exact absurd e (by decide)
      · rw [y, hM.1.2.1.1.1.2] at e; exact absurd e (by decide)
      · rw [y, hM.1.2.1.2.1.2.1.2] at e; exact absurd e (by decide)
      · rw [y, cs.1.1.1.2] at e; exact absurd e (by decide)
      · exact ny y
      · exact nn2 y
      · rw [y, hrow nw (Or.inl (Or.inl rfl))] at er; exact gne er
      · rw [y, hrow nx (Or.inl (Or.inr (Or.inl rfl)))] at er; exact gne er
      · rw [y, hrow wr (Or.inl (Or.inr (Or.inr (Or.inl rfl))))] at er; exact gne er
    · rcases yl with ⟨e, e'⟩ | ⟨e, e', -⟩
      · rw [e, e']; exact ⟨h1, h2⟩
      · have := o21.1; omega
  have G8 : GoX ow' M8 g n0 (npS (ga n0).2) := by
    refine ⟨nw', nx', kp, gn, wr, ks, ?_, hr8, ho, fun r hr2 => ?_⟩
    · rw [← hM.2.1.2.2.1]; exact hv8
    · rcases sw with ⟨e, e'⟩ | ⟨e, e'⟩
      · rw [e, e'] at hr2; exact hrow r hr2
      · rw [e, e'] at hr2
        refine hrow r ?_
        rcases hr2 with (y | y | y) | y
        · exact Or.inl (Or.inr (Or.inl y))
        · exact Or.inl (Or.inl y)
        · exact Or.inl (Or.inr (Or.inr y))
        · exact Or.inr y
  have kn : ∀ {c : Nat}, c ≠ g → c ≠ n0 → ∀ a, (a = g ∨ a = n0 + 22 ∨ a = n0 + 24 ∨ a = n0 + 8 ∨ a = ya ∨ a = na ∨ a = nw ∨ a = nx ∨ a = wr) → ow' a ≠ c := fun {c} h1 h2 a zz e => by
    rcases (dn zz).1 with y | y
    · exact h1 (e.symm.trans y)
    · exact h2 (e.symm.trans y)
  have msg : ∀ q, q < ms.length → ms.getD q 0 ≠ g := fun q hq e => by
    have := (hC.2.2.2.2.2.2.2.1 q hq).2.on
    rw [e] at this
    exact absurd (this.2.symm.trans hv.1.1.2) (by decide)
  have gsn : ∀ q, q < gs.length → gs.getD q 0 ≠ n0 := fun q hq e => by
    obtain ⟨_, _, _, _, _, _, _, _, _, _, hvq, _⟩ := hC.gv hq
    have o := hvq.1.1
    rw [e] at o
    exact absurd (o.2.symm.trans on0.2) (by decide)
  refine K M8 n0 r9 ⟨j, hj, hn0.symm⟩ hag (hC.own (Wp := fun v => v = g ∨ v = n0) (by omega) f8 (fun a zz => dn zz) (fun v zz => zz.elim (fun y => by rw [y]; exact e2) (fun y => by rw [y]; exact hn)) (fun q hq zz => ?_) (fun q q2 hq hq2 eq2 zz => ?_)) (f8.more (fun a _ zz => ?_)) ?_ (fun q hq ne => ?_) (fun q hq => ?_) (fun q hq => ?_)
  · rcases zz with y | y
    · exact absurd y (msg q hq)
    · rw [y]; exact X8
  · rcases zz with y | y
    · rw [y] at eq2 ⊢
      rw [← eq2, ej]
      exact G8
    · exact absurd y (gsn q hq)
  · rcases (dn zz).1 with y | y
    · exact ge132 hC e2 y
    · exact ge132 hC hn y
  · have lt := hW.2.2.2.2.2.2.2.2.1
    obtain ⟨a1, a2⟩ := ln_at (n0 := n0) (na := na) cs.1.1 cs.1.2.1.1 rfl lt
    obtain ⟨c1, c2⟩ := ln_at (n0 := n0) (na := na) M8'.2.2.2.2.2.1.1.1 M8'.2.2.2.2.2.1.1.2.1.1 rfl lt
    have nlt8 : ¬ mL M8 ya' < Ψ2.1.length := by omega
    rw [if_neg nlt8] at c1 c2
    rw [a1, a2, c1, c2]
    rcases nn with ⟨-, -, e3, e4⟩ | ⟨-, -, e3, e4, e5⟩
    · rw [e3, e4]; exact ⟨Nat.le_add_right _ _, Nat.le_add_right _ _⟩
    · rw [e3, e4, if_pos e5, if_pos e5]; exact ⟨Nat.le_refl _, Nat.le_refl _⟩
  · obtain ⟨a1, a2, -⟩ := ln_fr (hC.2.2.2.2.2.2.2.1 q hq).2 f8 (kn (msg q hq) ne)
    exact ⟨a1, a2⟩
  · by_cases ne : ms.getD q 0 = n0
    · rw [ne, rn0.2.2.1]
    · obtain ⟨-, -, a3⟩ := ln_fr (hC.2.2.2.2.2.2.2.1 q hq).2 f8 (kn (msg q hq) ne)
      rw [a3]
  · by_cases ne : gs.getD q 0 = g
    · rw [ne]; exact k5
    · obtain ⟨_, _, _, _, _, _, _, _, _, _, hvq, _, hoq, _⟩ := hC.gv hq
      have hvq := hvq.1.1
      rw [(f8.2 _ hvq.1 (fun zz => kn ne (gsn q hq) _ zz hoq)).1]
end
end
