/-! a solution of the reference's equations, and wires of the class with the same signals and open nets: they match -/
section
variable (W : Wo) (R : RMo) (I : RIn) (hv : Nat → Nat) (cv ck : Nat → Nat → Nat) (co cc : Nat → Nat)
/-- what is known of a pair, whatever the wires -/
def SbA (y x : Nat) : Prop := hv x = hvM (iSet I) (moK R y) ∧ ((woV W x).1 = 3 → moN R y = (woV W x).2.2.1 ∧ ∃ v, v < moC R ∧ (woV W x).2.2.1 = Int32.ofNat v) ∧ CEq (woV W) hv cv ck co cc x ∧ ∀ c, c ∈ chV W x → CEq (woV W) hv cv ck co cc c
end
section
variable {W : Wo} {R : RMo} {I : RIn} {ρ : Plc → Nat} {hv : Nat → Nat} {cv ck : Nat → Nat → Nat} {co cc : Nat → Nat} {zn fn : Nat}
/-- a row of one part says what the part says -/
theorem C_one {x c : Nat} (hc : cs1 W x) (he : chV W x = [c]) (hE : CEq (woV W) hv cv ck co cc x) (cb : ∀ c j, ck c j ≤ 2) : (∀ q, q ≤ 3 → cv q c = cv q x) ∧ ∀ n, n < 20 → ck x n = ck c n := by
  have k5 := hc.1
  have e0 : (woV W x).2.2.2 = [c] := he
  refine ⟨fun q hq => ?_, fun n hn => ?_⟩
  · have p : CEa (woV W) hv cv ck co cc x 0 := hE.1 0 (by rw [e0]; simp)
    obtain ⟨p0, p1, p2, p3⟩ := p
    rw [e0, k5] at p0 p1 p2 p3
    have p0 : cv 0 c = aC (woV W) hv cv ck cc x 0 0 := p0
    have a0 : aC (woV W) hv cv ck cc x 0 0 = cv 0 x := by
      show enV (woV W x).1 _ 0 _ _ _ = _
      rw [k5]; rfl
    rw [a0] at p0
    have : q = 0 ∨ q = 1 ∨ q = 2 ∨ q = 3 := by omega
    rcases this with e | e | e | e <;> rw [e]
    · exact p0
    · exact p1
    · exact p2
    · exact p3
  · have p : CEk (woV W) hv cv ck cc x n := hE.2 n hn
    unfold CEk aC at p
    rw [k5, if_neg (by decide), e0] at p
    have q5 := acV5 (rs := cv 1 x) (hv := hv x) (cd := cc x) (a0 := fun n => enV 5 (woV W x).2.2.1.toNatClampNeg n (cv 0 x) (cv 1 x) (hv x)) (K := fun i n => ck (([c] : List Nat).getD i 0) n) (fun n hn => by
      show enV 5 _ n _ _ _ = 0
      unfold enV
      rw [if_neg (by decide), if_neg (by decide), if_pos (Or.inr (Or.inr rfl)), if_neg hn])
    by_cases z : n = 0
    · rw [p, z]; exact q5.1 0
    · rw [p]
      refine (q5.2 1 n z).trans ?_
      show v3O 0 (ck c n) = _
      exact v3O_0 (cb _ _)
/-- codes that no exit has are 0 -/
theorem C_z (hG : frM R) (cb : ∀ c j, ck c j ≤ 2) (h3 : 3 ≤ moC R) : ∀ (g : Nat) (cx : List (Option Nat)) (y x p p' : Nat), RpN W (moM R) zn fn (vwM R) (hiM R) g cx y x p p' → (∀ d c, DsR W R y x d c → SbA W R I hv cv ck co cc d c) → ∀ n, moC R ≤ n → n < 20 → ck x n = 0 := by
  intro g
  induction g with
  | zero => intro cx y x p p' h; unfold RpN at h; exact h.elim
  | succ g ih =>
    intro cx y x p p' h hS n n1 n2
    have hy : inR R y := h.in
    obtain ⟨-, hnu, hE, hE2⟩ := hS y x DsR.rf
    by_cases hne : cs1 W x
    · obtain ⟨c, e, k⟩ := h.one hne
      rw [(C_one hne e hE cb).2 n n2]
      exact ih cx y c p p' k (fun d c' q => hS d c' ((DsR.one hy hne e).tr q)) n n1 n2
    have hP := h.pk hne
    have kd : ∀ i, i < (moG R y).length → ∀ j, moC R ≤ j → j < 20 → ck ((chV W x).getD i 0) j = 0 := fun i hi j j1 j2 => by
      obtain ⟨cx', q, q', k⟩ := h.kid hne i hi
      exact ih cx' _ _ q q' k (fun d c' z => hS d c' ((DsR.kid hy hne hP hi).tr z)) j j1 j2
    have p : CEk (woV W) hv cv ck cc x n := hE.2 n n2
    have e0 : (woV W x).2.2.2 = chV W x := rfl
    unfold CEk aC at p
    rw [p]
    have n0 : n ≠ 0 := by omega
    have n1' : n ≠ 1 := by omega
    have en0 : ∀ (k : Int32) (cd : Nat) (a b c : Nat), k ≠ 3 → enV k cd n a b c = 0 := fun k cd a b c k3 => by
      unfold enV
      by_cases z1 : k = 1
      · rw [if_pos z1, if_neg n0, if_neg n1']
      rw [if_neg z1, if_neg k3]
      by_cases z2 : k = 0 ∨ k = 2 ∨ k = 5
      · rw [if_pos z2, if_neg n0]
      · rw [if_neg z2]
    rcases id hP with ⟨a, b, b1, b2⟩ | ⟨a, b1, b, b2⟩ | ⟨a, b1, b, b2⟩ | ⟨a, b1, b, b2⟩ | ⟨a, b1, b, b2⟩ | ⟨a, b, c1, c2, d1, b1, b2⟩ | ⟨a, b, c, d, b1, b2⟩ | ⟨a, b, c, d, b1, b2⟩ | ⟨a, b, b1, b2⟩ | ⟨a, b, c, d, b1, b2⟩
    · rw [a, if_neg (by decide), (acV5 (fun t ht => by unfold enV; rw [if_neg (by decide), if_neg (by decide), if_pos (Or.inr (Or.inr rfl)), if_neg ht])).2 _ n n0, e0]
      have z : ∀ k, k ≤ (chV W x).length → oI (fun j => ck ((chV W x).getD j 0) n) k = 0 := by
        intro k
        induction k with
        | zero => intro _; rfl
        | succ k ihk =>
          intro hk
          show v3O (oI (fun j => ck ((chV W x).getD j 0) n) k) (ck ((chV W x).getD k 0) n) = 0
          rw [ihk (by omega), kd k (by omega) n n1 n2]; rfl
      exact z _ (Nat.le_refl _)
    · rw [a, if_neg (by decide), e0, b1]; exact en0 0 _ _ _ _ (by decide)
    · rw [a, if_neg (by decide), e0, b1]; exact en0 1 _ _ _ _ (by decide)
    · rw [a, if_neg (by decide), e0, b1]; exact en0 2 _ _ _ _ (by decide)
    · obtain ⟨-, v, v1, v2⟩ := hnu a
      rw [a, if_neg (by decide), e0, b1, v2, lt32 (show v < 2147483648 by omega)]
      show enV 3 v n _ _ _ = 0
      unfold enV
      rw [if_neg (by decide), if_pos rfl, if_neg (by omega)]
    · rw [a, if_neg (by decide), e0, b1, show ([c1, c2] : List Nat).length = 1 + 1 from rfl, acS (by decide)]
      unfold lvV
      rw [if_pos rfl, acS (by decide)]
      unfold lvV
      rw [if_pos rfl]
      have k1 : ck c1 n = 0 := by
        have := kd 0 (by rcases b2 with ⟨q, -⟩ | ⟨d2, q⟩ <;> rw [q] <;> simp) n n1 n2
        rw [b1] at this
        exact this
      have k2 : ck c2 n = 0 := by
        rcases b2 with ⟨-, t1, t2⟩ | ⟨d2, q⟩
        · have q : CEk (woV W) hv cv ck cc c2 n := (hE2 c2 (by rw [b1]; exact List.mem_cons_of_mem _ List.mem_cons_self)).2 n n2
          unfold CEk aC at q
          rw [t1, if_neg (by decide), show (woV W c2).2.2.2 = [] from t2] at q
          rw [q]
          exact en0 0 _ _ _ _ (by decide)
        · have := kd 1 (by rw [q]; simp) n n1 n2
          rw [b1] at this
          exact this
      show v3O (v3O (enV 4 _ n _ _ _) (ck c1 n)) (ck c2 n) = 0
      rw [en0 4 _ _ _ _ (by decide), k1, k2]; rfl
    · have k1 : ck c n = 0 := by
        have := kd 0 (by rw [b2]; simp) n n1 n2
        rw [b1] at this
        exact this
      rw [a, if_neg (by decide), e0, b1, show ([c] : List Nat).length = 0 + 1 from rfl, acS (by decide)]
      unfold lvV
      rw [if_neg (by decide), if_neg (by decide), if_pos rfl, if_neg n0]
      show v3O (enV 6 _ n _ _ _) (ck c n) = 0
      rw [en0 6 _ _ _ _ (by decide), k1]; rfl
    · have k1 : ck c n = 0 := by
        have := kd 0 (by rw [b2]; simp) n n1 n2
        rw [b1] at this
        exact this
      rw [a, if_neg (by decide), e0, b1, show ([c] : List Nat).length = 0 + 1 from rfl, acS (by decide)]
      unfold lvV
      rw [if_neg (by decide), if_neg (by decide), if_neg (by decide), if_pos rfl, if_neg n1']
      show v3O (enV 7 _ n _ _ _) (ck c n) = 0
      rw [en0 7 _ _ _ _ (by decide), k1]; rfl
    · rw [a, if_pos rfl]
      unfold jbC
      rw [e0]
      have z : ∀ k, k ≤ (chV W x).length → oI (fun j => ck ((chV W x).getD j 0) n) k = 0 := by
        intro k
        induction k with
        | zero => intro _; rfl
        | succ k ihk =>
          intro hk
          show v3O (oI (fun j => ck ((chV W x).getD j 0) n) k) (ck ((chV W x).getD k 0) n) = 0
          rw [ihk (by omega), kd k (by omega) n n1 n2]; rfl
      rw [z _ (Nat.le_refl _), v3A_0.1]
    · rw [a, if_neg (by decide), e0, b1, show ([c] : List Nat).length = 0 + 1 from rfl, acS (by decide)]
      unfold lvV
      rw [if_neg (by decide), if_neg (by decide), if_neg (by decide), if_neg (by decide)]
      unfold ltV
      rw [if_neg n0, if_neg n1']
      by_cases z : n ≤ 18
      · rw [if_pos z]
        have := kd 0 (by rw [b2]; simp) (n + 1) (by omega) (by omega)
        rw [b1] at this
        exact this
      · rw [if_neg z]; exact en0 9 _ _ _ _ (by decide)
/-- a child that the reference has not -/
theorem mis_z {y x i j : Nat} (hP : PkR W R y x) (hE2 : ∀ c, c ∈ chV W x → CEq (woV W) hv cv ck co cc c) (hi : i < (chV W x).length) (hn : ¬ i < (moG R y).length) (j0 : j ≠ 0) (j2 : j < 20) : ck ((chV W x).getD i 0) j = 0 := by
  rcases hP with ⟨-, -, -, e⟩ | ⟨-, e, -⟩ | ⟨-, e, -⟩ | ⟨-, e, -⟩ | ⟨-, e, -⟩ | ⟨-, -, c1, c2, d1, e1, e⟩ | ⟨-, -, c, d', e1, e⟩ | ⟨-, -, c, d', e1, e⟩ | ⟨-, -, -, e⟩ | ⟨-, -, c, d', e1, e⟩
  · omega
  · rw [e] at hi; exact absurd hi (Nat.not_lt_zero _)
  · rw [e] at hi; exact absurd hi (Nat.not_lt_zero _)
  · rw [e] at hi; exact absurd hi (Nat.not_lt_zero _)
  · rw [e] at hi; exact absurd hi (Nat.not_lt_zero _)
  · rcases e with ⟨e, t1, t2⟩ | ⟨d2, e⟩
    · rw [e] at hn
      rw [e1] at hi ⊢
      have hn : ¬ i < 1 := hn
      have hi : i < 2 := hi
      have ei : i = 1 := by omega
      subst ei
      show ck c2 j = 0
      have q : CEk (woV W) hv cv ck cc c2 j := (hE2 c2 (by rw [e1]; exact List.mem_cons_of_mem _ List.mem_cons_self)).2 j j2
      unfold CEk aC at q
      rw [t1, if_neg (by decide), show (woV W c2).2.2.2 = [] from t2] at q
      have q : ck c2 j = enV 0 _ j (cv 0 c2) (cv 1 c2) (hv c2) := q
      rw [q]
      unfold enV
      rw [if_neg (by decide), if_neg (by decide), if_pos (Or.inl rfl), if_neg j0]
    · rw [e] at hn; rw [e1] at hi; exact absurd hi hn
  · rw [e] at hn; rw [e1] at hi; exact absurd hi hn
  · rw [e] at hn; rw [e1] at hi; exact absurd hi hn
  · omega
  · rw [e] at hn; rw [e1] at hi; exact absurd hi hn
theorem one_6 {y x : Nat} (hP : PkR W R y x) (k6 : (woV W x).1 = 6) (no : ∀ {d : Nat}, moG R y = [d] → False) : False := by
  rcases hP with ⟨a, -⟩ | ⟨a, -⟩ | ⟨a, -⟩ | ⟨a, -⟩ | ⟨a, -⟩ | ⟨a, -⟩ | ⟨-, -, c, d', e1, e⟩ | ⟨a, -⟩ | ⟨a, -⟩ | ⟨a, -⟩
  rotate_left 6
  · exact no e
  all_goals (rw [k6] at a; exact absurd a (by decide))
theorem one_9 {y x : Nat} (hP : PkR W R y x) (k9 : (woV W x).1 = 9) (no : ∀ {d : Nat}, moG R y = [d] → False) : False := by
  rcases hP with ⟨a, -⟩ | ⟨a, -⟩ | ⟨a, -⟩ | ⟨a, -⟩ | ⟨a, -⟩ | ⟨a, -⟩ | ⟨a, -⟩ | ⟨a, -⟩ | ⟨a, -⟩ | ⟨-, -, c, d', e1, e⟩
  rotate_left 9
  · exact no e
  all_goals (rw [k9] at a; exact absurd a (by decide))
theorem opn_6 {y x : Nat} (hG : frM R) (hy : inR R y) (hP : PkR W R y x) (hi : 0 < (moG R y).length) (hfx : ∀ i, FrR R I ρ i = ρ i) (k6 : (woV W x).1 = 6) : v3O (ρ (0, y, 0)) (ρ (4, (moG R y).getD 0 0, 0)) = ρ (0, (moG R y).getD 0 0, 0) := by
  obtain ⟨k1, k2, -, -, hd⟩ := kid_up hG hy hi
  have b : (moS R).2 80 y = 7 := by
    rcases hP with ⟨a, -⟩ | ⟨a, -⟩ | ⟨a, -⟩ | ⟨a, -⟩ | ⟨a, -⟩ | ⟨a, -⟩ | ⟨-, b, -⟩ | ⟨a, -⟩ | ⟨a, -⟩ | ⟨a, -⟩
    rotate_left 6
    · exact b
    all_goals (rw [k6] at a; exact absurd a (by decide))
  rw [← hfx (0, (moG R y).getD 0 0, 0)]
  show _ = FrA R I ρ 0 _ 0
  unfold FrA
  rw [if_pos (by decide), if_pos ⟨hd, rfl⟩]
  unfold enR
  rw [if_neg k1, if_pos rfl, k2, if_neg (by rw [b]; decide), if_neg (by rw [b]; decide), if_pos b]
theorem opn_9 {y x : Nat} (hG : frM R) (hy : inR R y) (hP : PkR W R y x) (hi : 0 < (moG R y).length) (hfx : ∀ i, FrR R I ρ i = ρ i) (k9 : (woV W x).1 = 9) : v3O (ρ (3, y, 0)) (ρ (4, (moG R y).getD 0 0, 2)) = ρ (3, (moG R y).getD 0 0, 0) := by
  obtain ⟨k1, k2, -, -, hd⟩ := kid_up hG hy hi
  have b : (moS R).2 80 y = 10 := by
    rcases hP with ⟨a, -⟩ | ⟨a, -⟩ | ⟨a, -⟩ | ⟨a, -⟩ | ⟨a, -⟩ | ⟨a, -⟩ | ⟨a, -⟩ | ⟨a, -⟩ | ⟨a, -⟩ | ⟨-, b, -⟩
    rotate_left 9
    · exact b
    all_goals (rw [k9] at a; exact absurd a (by decide))
  rw [← hfx (3, (moG R y).getD 0 0, 0)]
  show _ = FrA R I ρ 3 _ 0
  unfold FrA
  rw [if_pos (by decide), if_pos ⟨hd, rfl⟩]
  unfold enR
  rw [if_neg k1, if_neg (by decide), if_neg (by decide), if_neg (by decide), k2, if_pos b]
/-- what is known of a pair when wires meet a solution -/
def SbE (W : Wo) (R : RMo) (I : RIn) (ρ : Plc → Nat) (hv : Nat → Nat) (cv ck : Nat → Nat → Nat) (co cc : Nat → Nat) (y x : Nat) : Prop := SbA W R I hv cv ck co cc y x ∧ ((woV W x).1 = 4 ∨ (woV W x).1 = 7 → lokR R I ρ y = cc x) ∧ ((woV W x).1 = 6 → co x = ρ (0, (moG R y).getD 0 0, 0)) ∧ ((woV W x).1 = 9 → co x = ρ (3, (moG R y).getD 0 0, 0))
def MtE (R : RMo) (ρ : Plc → Nat) (cv ck : Nat → Nat → Nat) (y x : Nat) : Prop := Mw (fun a c => a = c) ρ cv y x ∧ Mk (fun a c => a = c) ρ ck (moC R) y x
theorem M_t (hG : frM R) (hfx : ∀ i, FrR R I ρ i = ρ i) (cb : ∀ c j, ck c j ≤ 2) (h3 : 3 ≤ moC R ∧ moC R ≤ 20) : ∀ (g : Nat) (cx : List (Option Nat)) (y x p p' : Nat), RpN W (moM R) zn fn (vwM R) (hiM R) g cx y x p p' → (∀ d c, DsR W R y x d c → SbE W R I ρ hv cv ck co cc d c) → Mw (fun a c => a = c) ρ cv y x → ∀ d c, DsR W R y x d c → MtE R ρ cv ck d c := by
  intro g
  induction g with
  | zero => intro cx y x p p' h; unfold RpN at h; exact h.elim
  | succ g ih =>
    intro cx y x p p' h hS hw
    have hy : inR R y := h.in
    obtain ⟨⟨hm, hnu, hE, hE2⟩, hl, ho6, ho9⟩ := hS y x DsR.rf
    by_cases hne : cs1 W x
    · obtain ⟨c, e, k⟩ := h.one hne
      have o := C_one hne e hE cb
      have q := ih cx y c p p' k (fun d c' z => hS d c' ((DsR.one hy hne e).tr z)) (fun j hj => (hw j hj).trans (o.1 j hj).symm)
      intro d c' z
      rcases z.cs with ⟨z1, z2⟩ | ⟨-, c2, z1, z2⟩ | ⟨z1, -⟩
      · rw [z1, z2]
        refine ⟨hw, fun n hn => ?_⟩
        rw [o.2 n (by omega)]
        exact (q y c DsR.rf).2 n hn
      · rw [e] at z1
        cases z1
        exact q d c' z2
      · exact absurd hne z1
    have hP := h.pk hne
    have kd : ∀ i, i < (moG R y).length → ∀ d c, DsR W R ((moG R y).getD i 0) ((chV W x).getD i 0) d c → MtE R ρ cv ck d c := by
      intro i
      induction i with
      | zero =>
        intro hi
        obtain ⟨cx', q, q', k⟩ := h.kid hne 0 hi
        have hd := (kid_up hG hy hi).2.2.2.2
        refine ih cx' _ _ q q' k (fun d c' z => hS d c' ((DsR.kid hy hne hP hi).tr z)) (fun c c3 => ?_)
        have fx : ρ (c, (moG R y).getD 0 0, 0) = enR R I ρ c ((moG R y).getD 0 0) := by
          rw [← hfx (c, (moG R y).getD 0 0, 0)]
          show FrA R I ρ c _ 0 = _
          unfold FrA
          rw [if_pos c3, if_pos ⟨hd, rfl⟩]
        rw [fx]
        refine L_ar Cg_eq hG hy hP hE hi hm hw hl (fun j hj => absurd hj (by omega)) (fun k6 => ?_) (fun k9 => ?_) c c3
        · rw [ho6 k6]
          exact opn_6 hG hy hP hi hfx k6
        · rw [ho9 k9]
          exact opn_9 hG hy hP hi hfx k9
      | succ i ihi =>
        intro hi
        obtain ⟨cx', q, q', k⟩ := h.kid hne (i + 1) hi
        have hd := (kid_up hG hy hi).2.2.2.2
        have pv := (ihi (by omega) _ _ DsR.rf).2 0 (by omega)
        have no1 : ∀ {c d : Nat}, moG R y = [d] → False := fun {c d} e => by rw [e] at hi; exact absurd hi (by simp)
        refine ih cx' _ _ q q' k (fun d c' z => hS d c' ((DsR.kid hy hne hP hi).tr z)) (fun c c3 => ?_)
        have fx : ρ (c, (moG R y).getD (i + 1) 0, 0) = enR R I ρ c ((moG R y).getD (i + 1) 0) := by
          rw [← hfx (c, (moG R y).getD (i + 1) 0, 0)]
          show FrA R I ρ c _ 0 = _
          unfold FrA
          rw [if_pos c3, if_pos ⟨hd, rfl⟩]
        rw [fx]
        refine L_ar Cg_eq hG hy hP hE hi hm hw hl (fun j hj => ?_) (fun k6 => ?_) (fun k9 => ?_) c c3
        · have e : j = i := by omega
          rw [e]; exact pv
        · exact (one_6 hP k6 (no1 (c := 0))).elim
        · exact (one_9 hP k9 (no1 (c := 0))).elim
    intro d c' z
    rcases z.cs with ⟨z1, z2⟩ | ⟨z1, -⟩ | ⟨-, i, i1, i2, z1⟩
    · rw [z1, z2]
      refine ⟨hw, fun n hn => ?_⟩
      have fx : ρ (4, y, n) = cdR R I ρ y n := by
        rw [← hfx (4, y, n)]
        show FrA R I ρ 4 y n = _
        unfold FrA
        rw [if_neg (by decide), if_pos rfl, if_pos ⟨hy, hn⟩]
      show ρ (4, y, n) = ck x n
      rw [fx]
      refine L_cd Cg_eq hG hy hP hE hE2 cb hm (fun i hi => ?_) hw hl (fun i hi => (kd i hi _ _ DsR.rf).2) (fun i hi j j1 j2 => ?_) h3 (fun k3 => ?_) hn
      · exact (hS _ _ (DsR.kid hy hne hP hi)).1.1
      · by_cases z : i < (moG R y).length
        · obtain ⟨cx', q, q', k⟩ := h.kid hne i z
          exact C_z (I := I) hG cb h3.1 g cx' _ _ q q' k (fun d c' q => (hS d c' ((DsR.kid hy hne hP z).tr q)).1) j j1 j2
        · exact mis_z hP hE2 hi z (by omega) j2
      · obtain ⟨u1, v, u2, u3⟩ := hnu k3
        exact ⟨u1, v, by omega, u3⟩
    · exact absurd z1 hne
    · exact kd i i1 d c' z1
end
