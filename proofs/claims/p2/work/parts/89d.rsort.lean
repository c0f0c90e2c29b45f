/-! the reference: the sort of a part -/
def soI (k : Int32) : Int32 := if soK k = 99 then -1 else Int32.ofNat (soK k)
def opSo (so : Nat) : Prop := so = 5 ∨ so = 6 ∨ (8 ≤ so ∧ so ≤ 12) ∨ so = 14 ∨ so = 16
def paSo (so : Nat) : Nat := if so = 11 then 3 else if so = 1 ∨ so = 2 ∨ so = 4 ∨ so = 7 ∨ so = 8 ∨ so = 9 then 1 else 0
theorem soK_cases {k : Int32} (h : soK k ≠ 99) : k = 37 ∨ k = 38 ∨ k = 39 ∨ k = 40 ∨ k = 41 ∨ k = 42 ∨ k = 44 ∨ k = 47 ∨ k = 49 ∨ k = 50 ∨ k = 52 ∨ k = 53 ∨ k = 55 ∨ k = 57 ∨ k = 58 ∨ k = 2 ∨ k = 17 := by
  by_cases h0 : k = 37
  · exact Or.inl h0
  by_cases h1 : k = 38
  · simp [h1]
  by_cases h2 : k = 39
  · simp [h2]
  by_cases h3 : k = 40
  · simp [h3]
  by_cases h4 : k = 41
  · simp [h4]
  by_cases h5 : k = 42
  · simp [h5]
  by_cases h6 : k = 44
  · simp [h6]
  by_cases h7 : k = 47
  · simp [h7]
  by_cases h8 : k = 49
  · simp [h8]
  by_cases h9 : k = 50
  · simp [h9]
  by_cases h10 : k = 52
  · simp [h10]
  by_cases h11 : k = 53
  · simp [h11]
  by_cases h12 : k = 55
  · simp [h12]
  by_cases h13 : k = 57
  · simp [h13]
  by_cases h14 : k = 58
  · simp [h14]
  by_cases h15 : k = 2
  · simp [h15]
  by_cases h16 : k = 17
  · simp [h16]
  exact absurd (by unfold soK; rw [if_neg h0, if_neg h1, if_neg h2, if_neg h3, if_neg h4, if_neg h5, if_neg h6, if_neg h7, if_neg h8, if_neg h9, if_neg h10, if_neg h11, if_neg h12, if_neg h13, if_neg h14, if_neg h15, if_neg h16]) h
theorem soK_facts {k : Int32} (h : soK k ≠ 99) : soK k ≤ 16 ∧ (opnK k = true ↔ opSo (soK k)) ∧ paK k = paSo (soK k) ∧ soI k = Int32.ofNat (soK k) ∧ (soK k = 14 ↔ k = 58) ∧ (soK k = 15 ↔ k = 2) := by
  unfold opSo
  rcases soK_cases h with z | z | z | z | z | z | z | z | z | z | z | z | z | z | z | z | z <;> rw [z] <;> decide
section
variable {b : Nat → Int32} {n m : Nat} {M : Mem} {i h : Nat} {Q : Option Value → Mem → Prop}
theorem so50 {v : Int64} {kk : Int32} (hv : ∀ j, j < 33 → (v = key27.getD j 0 ↔ kk = 30 + Int32.ofNat j)) (h2 : kk ≠ 2) (h17 : kk ≠ 17) (H : Q (some (.int (soI kk))) M) : DX11_sortOf_50 h v M Q := by
  have e : ∀ (j : Nat) (c : Int64) (k : Int32), j < 33 → key27.getD j 0 = c → 30 + Int32.ofNat j = k → ((lg_cmp v c = 0) ↔ kk = k) := by
    intro j c k hj hc hk
    rw [lgz, ← hc, ← hk]
    exact hv j hj
  have e0 := e 7 5649913681 37 (by decide) (by decide) (by decide)
  have e1 := e 8 8538566 38 (by decide) (by decide) (by decide)
  have e2 := e 9 158537 39 (by decide) (by decide) (by decide)
  have e3 := e 10 108155 40 (by decide) (by decide) (by decide)
  have e4 := e 11 7672808363 41 (by decide) (by decide) (by decide)
  have e5 := e 12 247552 42 (by decide) (by decide) (by decide)
  have e6 := e 14 6460043375 44 (by decide) (by decide) (by decide)
  have e7 := e 17 985142 47 (by decide) (by decide) (by decide)
  have e8 := e 19 582248 49 (by decide) (by decide) (by decide)
  have e9 := e 20 456392 50 (by decide) (by decide) (by decide)
  have e10 := e 22 7672732672 52 (by decide) (by decide) (by decide)
  have e11 := e 23 3094387 53 (by decide) (by decide) (by decide)
  have e12 := e 25 406825 55 (by decide) (by decide) (by decide)
  have e13 := e 27 116174 57 (by decide) (by decide) (by decide)
  have e14 := e 28 249 58 (by decide) (by decide) (by decide)
  have go : ∀ (k x : Int32), kk = k → soI k = x → Q (some (.int x)) M := fun k x q w => by rw [← w, ← q]; exact H
  unfold DX11_sortOf_50 DX11_sortOf_241
  refine ⟨fun n0 => ⟨fun n1 => ⟨fun n2 => ⟨fun n3 => ⟨fun n4 => ⟨fun n5 => ⟨fun n6 => ⟨fun n7 => ⟨fun n8 => ⟨fun n9 => ⟨fun n10 => ⟨fun n11 => ⟨fun n12 => ⟨fun n13 => ⟨fun n14 => ?_, fun q => go 58 14 (e14.mp q) (by decide)⟩, fun q => go 57 13 (e13.mp q) (by decide)⟩, fun q => go 55 12 (e12.mp q) (by decide)⟩, fun q => go 53 11 (e11.mp q) (by decide)⟩, fun q => go 52 10 (e10.mp q) (by decide)⟩, fun q => go 50 9 (e9.mp q) (by decide)⟩, fun q => go 49 8 (e8.mp q) (by decide)⟩, fun q => go 47 7 (e7.mp q) (by decide)⟩, fun q => go 44 6 (e6.mp q) (by decide)⟩, fun q => go 42 5 (e5.mp q) (by decide)⟩, fun q => go 41 4 (e4.mp q) (by decide)⟩, fun q => go 40 3 (e3.mp q) (by decide)⟩, fun q => go 39 2 (e2.mp q) (by decide)⟩, fun q => go 38 1 (e1.mp q) (by decide)⟩, fun q => go 37 0 (e0.mp q) (by decide)⟩
  have z : soK kk = 99 := by
    unfold soK
    rw [if_neg (fun q => n0 (e0.mpr q)), if_neg (fun q => n1 (e1.mpr q)), if_neg (fun q => n2 (e2.mpr q)), if_neg (fun q => n3 (e3.mpr q)), if_neg (fun q => n4 (e4.mpr q)), if_neg (fun q => n5 (e5.mpr q)), if_neg (fun q => n6 (e6.mpr q)), if_neg (fun q => n7 (e7.mpr q)), if_neg (fun q => n8 (e8.mpr q)), if_neg (fun q => n9 (e9.mpr q)), if_neg (fun q => n10 (e10.mpr q)), if_neg (fun q => n11 (e11.mpr q)), if_neg (fun q => n12 (e12.mpr q)), if_neg (fun q => n13 (e13.mpr q)), if_neg (fun q => n14 (e14.mpr q)), if_neg h2, if_neg h17]
  have : soI kk = -1 := by unfold soI; rw [if_pos z]
  rw [this] at H
  exact H
theorem key_nz : ∀ j, j < 33 → (0 : Int64) ≠ key27.getD j 0 := by decide
theorem P_sortOf (hT : Tk b n M i) (H : Q (some (.int (soI (tK b n i)))) M) : E (h + 3) mdX11_sortOf [.ref 29] M Q := by
  obtain ⟨F, hB, ⟨r1, r2, r3⟩, h5, h8⟩ := id hT
  have sk := fun (j : Nat) (hj : j < 33) => said_key (b := b) (n := n) (p := tP b n i) hB hj
  refine KX11_sortOf ?_
  unfold DX11_sortOf_0
  refine ⟨ok29 F, K_sign (h := h + 1) (k := 17) hT (by decide) (by decide) (fun q _ => ⟨_, rfl, fun z => absurd z (by decide), fun _ => ?_⟩) (fun q17 _ => ⟨_, rfl, fun _ => K_name (h := h) hT (fun q _ => ⟨_, rfl, fun z => absurd z (by decide), fun _ => ?_⟩) (fun q2 _ => ⟨_, rfl, fun _ => ?_, fun z => absurd rfl z⟩), fun z => absurd rfl z⟩)⟩
  · rw [q] at H; exact H
  · rw [q] at H; exact H
  · rw [h5, lt32 (by omega)]
    refine ⟨31, rf29_2 F, ok31 F, by rw [ln31 F]; exact vp_of (by omega) (by decide), ?_⟩
    rw [r1]
    refine ⟨fun ns => so50 (kk := tK b n i) (fun j hj => ⟨fun z => absurd z (key_nz j hj), fun z => absurd ((sk j hj).mpr z).1 ns⟩) q2 q17 H, fun ys => ⟨33, rf29_4 F, ok33 F, by rw [ln33 F]; exact vp_of (by omega) (by decide), ?_⟩⟩
    rw [r3]
    exact so50 (kk := tK b n i) (fun j hj => ⟨fun z => (sk j hj).mp ⟨ys, z⟩, fun z => ((sk j hj).mpr z).2⟩) q2 q17 H
theorem in_op : ∀ so : Fin 17, ((8 : Int64) ≤ (Int32.ofNat so).toInt64 ∧ (Int32.ofNat so).toInt64 ≤ 12) ↔ (8 ≤ so.val ∧ so.val ≤ 12) := by decide
theorem in_p1 : ∀ so : Fin 17, ((1 : Int64) ≤ (Int32.ofNat so).toInt64 ∧ (Int32.ofNat so).toInt64 ≤ 2) ↔ (1 ≤ so.val ∧ so.val ≤ 2) := by decide
theorem in_p7 : ∀ so : Fin 17, ((7 : Int64) ≤ (Int32.ofNat so).toInt64 ∧ (Int32.ofNat so).toInt64 ≤ 9) ↔ (7 ≤ so.val ∧ so.val ≤ 9) := by decide
theorem P_isOp {so : Nat} (hs : so ≤ 16) (H1 : opSo so → Q (some (.int 1)) M) (H0 : ¬ opSo so → Q (some (.int 0)) M) : E (h + 2) mdX11_isOpening [.int (Int32.ofNat so)] M Q := by
  have e : ∀ c, c < 100 → ((Int32.ofNat so = Int32.ofNat c) ↔ so = c) := fun c hc => z32 (by omega) (by omega)
  have io := in_op ⟨so, by omega⟩
  unfold opSo at H1 H0
  refine KX11_isOpening ?_
  unfold DX11_isOpening_0 DX11_isOpening_37 DX11_isOpening_42
  have e5 := e 5 (by decide)
  have e6 := e 6 (by decide)
  have e14 := e 14 (by decide)
  have e16 := e 16 (by decide)
  refine ⟨fun q => ⟨Or.inr rfl, H1 (Or.inl (e5.mp q))⟩, fun n5 => ⟨fun q => ⟨Or.inr rfl, H1 (Or.inr (Or.inl (e6.mp q)))⟩, fun n6 => S_in (fun _ => ⟨_, rfl, fun q => ⟨Or.inr rfl, H1 ?_⟩, fun q => ⟨fun q14 => ⟨Or.inr rfl, H1 (Or.inr (Or.inr (Or.inr (Or.inl (e14.mp q14)))))⟩, fun n14 => ⟨fun n16 => ⟨Or.inl rfl, H0 ?_⟩, fun q16 => ⟨Or.inr rfl, H1 (Or.inr (Or.inr (Or.inr (Or.inr (e16.mp q16)))))⟩⟩⟩⟩)⟩⟩
  · by_cases w : (8 : Int64) ≤ (Int32.ofNat so).toInt64 ∧ (Int32.ofNat so).toInt64 ≤ 12
    · exact Or.inr (Or.inr (Or.inl (io.mp w)))
    · rw [if_neg w] at q; exact absurd rfl q
  · have w : ¬ ((8 : Int64) ≤ (Int32.ofNat so).toInt64 ∧ (Int32.ofNat so).toInt64 ≤ 12) := fun w => by rw [if_pos w] at q; exact absurd q (by decide)
    intro z
    rcases z with z | z | z | z | z
    · exact n5 (e5.mpr z)
    · exact n6 (e6.mpr z)
    · exact w (io.mpr z)
    · exact n14 (e14.mpr z)
    · exact n16 (e16.mpr z)
theorem P_pausesOf {so : Nat} (hs : so ≤ 16) (H : Q (some (.int (Int32.ofNat (paSo so)))) M) : E (h + 2) mdX11_pausesOf [.int (Int32.ofNat so)] M Q := by
  have e : ∀ c, c < 100 → ((Int32.ofNat so = Int32.ofNat c) ↔ so = c) := fun c hc => z32 (by omega) (by omega)
  have i1 := in_p1 ⟨so, by omega⟩
  have i7 := in_p7 ⟨so, by omega⟩
  have e11 := e 11 (by decide)
  have e4 := e 4 (by decide)
  have one : so ≠ 11 → (so = 1 ∨ so = 2 ∨ so = 4 ∨ so = 7 ∨ so = 8 ∨ so = 9) → Q (some (.int 1)) M := fun a c => by
    unfold paSo at H; rw [if_neg a, if_pos c] at H; exact H
  refine KX11_pausesOf ?_
  unfold DX11_pausesOf_0 DX11_pausesOf_41 DX11_pausesOf_46
  refine ⟨fun n11 => S_in (fun _ => ⟨_, rfl, fun q => one (fun z => n11 (e11.mpr z)) ?_, fun q => ⟨fun q4 => one (fun z => n11 (e11.mpr z)) (Or.inr (Or.inr (Or.inl (e4.mp q4)))), fun n4 => S_in (fun _ => ⟨_, rfl, fun q7 => ?_, fun q7 => one (fun z => n11 (e11.mpr z)) ?_⟩)⟩⟩), fun q => ?_⟩
  · by_cases w : (1 : Int64) ≤ (Int32.ofNat so).toInt64 ∧ (Int32.ofNat so).toInt64 ≤ 2
    · have := i1.mp w
      have : 1 ≤ so ∧ so ≤ 2 := this
      omega
    · rw [if_neg w] at q; exact absurd rfl q
  · have w1 : ¬ ((1 : Int64) ≤ (Int32.ofNat so).toInt64 ∧ (Int32.ofNat so).toInt64 ≤ 2) := fun w => by rw [if_pos w] at q; exact absurd q (by decide)
    have w7 : ¬ ((7 : Int64) ≤ (Int32.ofNat so).toInt64 ∧ (Int32.ofNat so).toInt64 ≤ 9) := fun w => by rw [if_pos w] at q7; exact absurd q7 (by decide)
    have x1 : ¬ (1 ≤ so ∧ so ≤ 2) := fun z => w1 (i1.mpr z)
    have x7 : ¬ (7 ≤ so ∧ so ≤ 9) := fun z => w7 (i7.mpr z)
    have x4 : so ≠ 4 := fun z => n4 (e4.mpr z)
    have x11 : so ≠ 11 := fun z => n11 (e11.mpr z)
    unfold paSo at H
    rw [if_neg x11, if_neg (by omega)] at H
    exact H
  · by_cases w : (7 : Int64) ≤ (Int32.ofNat so).toInt64 ∧ (Int32.ofNat so).toInt64 ≤ 9
    · have : 7 ≤ so ∧ so ≤ 9 := i7.mp w
      omega
    · rw [if_neg w] at q7; exact absurd rfl q7
  · have x := e11.mp q
    unfold paSo at H
    rw [if_pos x] at H
    exact H
end
