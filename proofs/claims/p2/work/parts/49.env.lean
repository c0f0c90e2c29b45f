/-! what a module's text has told: signals, variables; looking up names -/
def fd : List Int64 → Int64 → Option Nat
  | [], _ => none
  | x :: l, c => if x = c then some 0 else (fd l c).map (fun k => k + 1)
def oi (o : Option Nat) : Int32 := match o with
  | none => -1
  | some k => Int32.ofNat k
theorem fd_some {c : Int64} : ∀ {l : List Int64} {k : Nat}, fd l c = some k → k < l.length ∧ l.getD k 0 = c := by
  intro l
  induction l with
  | nil => intro k h; cases h
  | cons x l ih =>
    intro k h
    unfold fd at h
    by_cases hx : x = c
    · rw [if_pos hx] at h
      cases h
      exact ⟨Nat.zero_lt_succ _, hx⟩
    · rw [if_neg hx] at h
      obtain ⟨j, hj, rfl⟩ := Option.map_eq_some_iff.mp h
      obtain ⟨a1, a2⟩ := ih hj
      exact ⟨Nat.succ_lt_succ a1, a2⟩
theorem oi_ne {k : Nat} (h : k < 1000) : oi (some k) ≠ -1 := by
  show Int32.ofNat k ≠ -1
  intro z
  have := congrArg Int32.toInt z
  rw [ti32 (by omega)] at this
  have e : (-1 : Int32).toInt = -1 := by decide
  rw [e] at this
  omega
/-- the rows of a module: names, roles, how its numbers come together; variables -/
def EnvC (M : Mem) (n0 : Nat) (sN : List Int64) (ro mx : List Int32) (vN : List Int64) : Prop :=
  ok M n0 3 ∧ (sN.length ≤ 16 ∧ ro.length = sN.length ∧ mx.length = sN.length ∧ vN.length ≤ 6) ∧ mI M n0 9 = Int32.ofNat sN.length ∧ mI M n0 12 = Int32.ofNat vN.length ∧
  mR M n0 0 = some (n0 + 1) ∧ (ok M (n0 + 1) 23 ∧ mL M (n0 + 1) = 16 ∧ ∀ j, j < sN.length → mAJ M (n0 + 1) j = sN.getD j 0) ∧
  mR M n0 1 = some (n0 + 2) ∧ (ok M (n0 + 2) 21 ∧ mL M (n0 + 2) = 16 ∧ ∀ j, j < sN.length → mAI M (n0 + 2) j = ro.getD j 0) ∧
  mR M n0 2 = some (n0 + 3) ∧ (ok M (n0 + 3) 21 ∧ mL M (n0 + 3) = 16 ∧ ∀ j, j < sN.length → mAI M (n0 + 3) j = mx.getD j 0) ∧
  mR M n0 4 = some (n0 + 5) ∧ (ok M (n0 + 5) 23 ∧ mL M (n0 + 5) = 6 ∧ ∀ j, j < vN.length → mAJ M (n0 + 5) j = vN.getD j 0) ∧
  mR M n0 8 = some (n0 + 22)
theorem EnvC.fr {M M' : Mem} {n0 : Nat} {sN : List Int64} {ro mx : List Int32} {vN : List Int64} (h : EnvC M n0 sN ro mx vN) (hE : mE M M') (hs : ∀ a, n0 ≤ a → a ≤ n0 + 5 → sameRow M M' a) : EnvC M' n0 sN ro mx vN := by
  obtain ⟨h1, h2, h3, h4, h5, ⟨a1, a2, a3⟩, h6, ⟨b1, b2, b3⟩, h7, ⟨c1, c2, c3⟩, h8, ⟨d1, d2, d3⟩, h9⟩ := h
  have s0 := hs n0 (Nat.le_refl _) (by omega)
  have s1 := hs (n0 + 1) (by omega) (by omega)
  have s2 := hs (n0 + 2) (by omega) (by omega)
  have s3 := hs (n0 + 3) (by omega) (by omega)
  have s5 := hs (n0 + 5) (by omega) (by omega)
  refine ⟨ok_E h1 hE, h2, by rw [s0.1]; exact h3, by rw [s0.1]; exact h4, by rw [s0.2.2.1]; exact h5, ⟨ok_E a1 hE, (hE.2.2 _ a1.1).2.trans a2, fun j hj => by rw [s1.2.2.2.2.1]; exact a3 j hj⟩, by rw [s0.2.2.1]; exact h6, ⟨ok_E b1 hE, (hE.2.2 _ b1.1).2.trans b2, fun j hj => by rw [s2.2.2.2.1]; exact b3 j hj⟩, by rw [s0.2.2.1]; exact h7, ⟨ok_E c1 hE, (hE.2.2 _ c1.1).2.trans c2, fun j hj => by rw [s3.2.2.2.1]; exact c3 j hj⟩, by rw [s0.2.2.1]; exact h8, ⟨ok_E d1 hE, (hE.2.2 _ d1.1).2.trans d2, fun j hj => by rw [s5.2.2.2.2.1]; exact d3 j hj⟩, by rw [s0.2.2.1]; exact h9⟩
def oj (j : Nat) (o : Option Nat) : Int32 := match o with
  | none => -1
  | some k => Int32.ofNat (j + k)
theorem oj_map {j : Nat} {o : Option Nat} : oj j (o.map (fun k => k + 1)) = oj (j + 1) o := by
  cases o with
  | none => rfl
  | some k => show Int32.ofNat (j + (k + 1)) = Int32.ofNat (j + 1 + k); congr 1; omega
theorem sig_loop {h n0 N : Nat} {c : Int64} {M : Mem} {Q : Option Value → Mem → Prop} (o0 : ok M n0 3) (hN : mI M n0 9 = Int32.ofNat N) (h16 : N ≤ 16) (r0 : mR M n0 0 = some (n0 + 1)) (o1 : ok M (n0 + 1) 23) (l1 : mL M (n0 + 1) = 16) : ∀ (l : List Int64) (j : Nat), j + l.length = N → (∀ m, m < l.length → mAJ M (n0 + 1) (j + m) = l.getD m 0) → Q (some (.int (oj j (fd l c)))) M → T (h + 1) mdX1_signalNamed 2 [(0, .ref n0), (1, .long c), (3, .int (Int32.ofNat j))] [] M Q := by
  intro l
  induction l with
  | nil =>
    intro j hj _ H
    refine VX1_signalNamed_2 ?_
    unfold DX1_signalNamed_2
    have hj : j = N := hj
    rw [hN]
    refine ⟨o0, fun _ => H, fun hc => absurd ((le32 (by omega) (by omega)).mpr (by omega)) hc⟩
  | cons x l ih =>
    intro j hj hv H
    have hj : j + (l.length + 1) = N := hj
    refine VX1_signalNamed_2 ?_
    unfold DX1_signalNamed_2
    rw [hN, lt32 (by omega), succ32]
    have v0 : mAJ M (n0 + 1) j = x := hv 0 (Nat.zero_lt_succ _)
    unfold fd at H
    refine ⟨o0, fun hc => absurd ((le32 (by omega) (by omega)).mp hc) (by omega), fun _ => ⟨n0 + 1, r0, o1, by rw [l1]; exact vp_of (by omega) (by decide), fun hc => ?_, fun hc => ?_⟩⟩
    · rw [v0, lgz] at hc
      rw [if_neg hc, oj_map] at H
      refine ih (j + 1) (by omega) (fun m hm => ?_) H
      have := hv (m + 1) (Nat.succ_lt_succ hm)
      rw [show j + 1 + m = j + (m + 1) by omega, this]
      rfl
    · rw [v0, lgz] at hc
      rw [if_pos hc] at H
      exact H
theorem S_sigNamed {h n0 : Nat} {c : Int64} {M : Mem} {sN : List Int64} {ro mx : List Int32} {vN : List Int64} {Q : Option Value → Mem → Prop} (hE : EnvC M n0 sN ro mx vN) (H : Q (some (.int (oi (fd sN c)))) M) : E (h + 1) mdX1_signalNamed [.ref n0, .long c] M Q := by
  obtain ⟨h1, h2, h3, h4, h5, ⟨a1, a2, a3⟩, -⟩ := hE
  refine KX1_signalNamed ?_
  unfold DX1_signalNamed_0
  refine sig_loop h1 h3 h2.1 h5 a1 a2 sN 0 (Nat.zero_add _) (fun m hm => by rw [Nat.zero_add]; exact a3 m hm) ?_
  have e : oj 0 (fd sN c) = oi (fd sN c) := by cases fd sN c with
    | none => rfl
    | some k => show Int32.ofNat (0 + k) = Int32.ofNat k; rw [Nat.zero_add]
  rw [e]
  exact H
theorem var_loop {h n0 N : Nat} {c : Int64} {M : Mem} {Q : Option Value → Mem → Prop} (o0 : ok M n0 3) (hN : mI M n0 12 = Int32.ofNat N) (h6 : N ≤ 6) (r0 : mR M n0 4 = some (n0 + 5)) (o1 : ok M (n0 + 5) 23) (l1 : mL M (n0 + 5) = 6) : ∀ (l : List Int64) (j : Nat), j + l.length = N → (∀ m, m < l.length → mAJ M (n0 + 5) (j + m) = l.getD m 0) → Q (some (.int (oj j (fd l c)))) M → T (h + 1) mdX1_variableNamed 2 [(0, .ref n0), (1, .long c), (3, .int (Int32.ofNat j))] [] M Q := by
  intro l
  induction l with
  | nil =>
    intro j hj _ H
    refine VX1_variableNamed_2 ?_
    unfold DX1_variableNamed_2
    have hj : j = N := hj
    rw [hN]
    refine ⟨o0, fun _ => H, fun hc => absurd ((le32 (by omega) (by omega)).mpr (by omega)) hc⟩
  | cons x l ih =>
    intro j hj hv H
    have hj : j + (l.length + 1) = N := hj
    refine VX1_variableNamed_2 ?_
    unfold DX1_variableNamed_2
    rw [hN, lt32 (by omega), succ32]
    have v0 : mAJ M (n0 + 5) j = x := hv 0 (Nat.zero_lt_succ _)
    unfold fd at H
    refine ⟨o0, fun hc => absurd ((le32 (by omega) (by omega)).mp hc) (by omega), fun _ => ⟨n0 + 5, r0, o1, by rw [l1]; exact vp_of (by omega) (by decide), fun hc => ?_, fun hc => ?_⟩⟩
    · rw [v0, lgz] at hc
      rw [if_neg hc, oj_map] at H
      refine ih (j + 1) (by omega) (fun m hm => ?_) H
      have := hv (m + 1) (Nat.succ_lt_succ hm)
      rw [show j + 1 + m = j + (m + 1) by omega, this]
      rfl
    · rw [v0, lgz] at hc
      rw [if_pos hc] at H
      exact H
theorem S_varNamed {h n0 : Nat} {c : Int64} {M : Mem} {sN : List Int64} {ro mx : List Int32} {vN : List Int64} {Q : Option Value → Mem → Prop} (hE : EnvC M n0 sN ro mx vN) (H : Q (some (.int (oi (fd vN c)))) M) : E (h + 1) mdX1_variableNamed [.ref n0, .long c] M Q := by
  obtain ⟨h1, h2, h3, h4, h5, -, -, -, -, -, h8, ⟨a1, a2, a3⟩, -⟩ := hE
  refine KX1_variableNamed ?_
  unfold DX1_variableNamed_0
  refine var_loop h1 h4 h2.2.2.2 h8 a1 a2 vN 0 (Nat.zero_add _) (fun m hm => by rw [Nat.zero_add]; exact a3 m hm) ?_
  have e : oj 0 (fd vN c) = oi (fd vN c) := by cases fd vN c with
    | none => rfl
    | some k => show Int32.ofNat (0 + k) = Int32.ofNat k; rw [Nat.zero_add]
  rw [e]
  exact H
