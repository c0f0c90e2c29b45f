/-! conditions in the middle: their literals say what their nodes say -/
section
variable {S f : Nat} {sg : Nat → Nat} {N : Nt} {bf : Nat → Nat} {Y : List Cd} {Z : List Nat} {Ro : List (Nat × Nat)} {d : Cd}
theorem rlC.lt {l k x : Nat} (h : rlC Ro l k x) (hR : RoK N Ro) : l < 2 * N.length := by
  have h1 := h.1
  have h2 := h.2.1
  rw [hR.1] at h2
  omega
theorem nd_ci (h : ciC S sg N bf Y Z Ro) (w : NdW S f Y.length d) : ∃ t z, (ndL sg (N, bf, Z) d).2.2 = Z ++ [z] ∧ ciC S sg (ndL sg (N, bf, Z) d).1 (ndL sg (N, bf, Z) d).2.1 (Y ++ [d]) (Z ++ [z]) (Ro ++ t) := by
  obtain ⟨hn, hZ, hz, hs⟩ := h
  obtain ⟨w0, w1, w2, w3⟩ := w
  have zl : ∀ {N' : Nt} {z : Nat}, N.length ≤ N'.length → z < 2 * N'.length → ∀ k, k < (Z ++ [z]).length → (Z ++ [z]).getD k 0 < 2 * N'.length := by
    intro N' z h1 h2 k hk
    rw [List.length_append] at hk
    have hk : k < Z.length + 1 := hk
    by_cases e : k = Z.length
    · rw [e, gdB]; exact h2
    · rw [gdA (by omega)]
      have := hz k (by omega)
      omega
  have len : ∀ z : Nat, (Z ++ [z]).length = (Y ++ [d]).length := fun z => by rw [List.length_append, List.length_append, hZ]; rfl
  have n1 := hn.2.1
  unfold ndL
  by_cases e0 : d.1 = 0
  · rw [if_pos e0]
    have q := hn.2.2.1 d.2.1 (w1 (by omega))
    refine ⟨[], sg d.2.1, rfl, by rw [List.append_nil]; exact hn, len _, zl (Nat.le_refl _) (q.lt hn.1), hs.app hZ ⟨[], (List.append_nil _).symm⟩ (fun _ _ => rfl) (fun v sv bv hv h1 h2 h3 => ?_)⟩
    rw [h1 _ (w1 (by omega))]
    unfold cvD
    rw [if_pos e0]
  rw [if_neg e0]
  by_cases e1 : d.1 = 1
  · rw [if_pos e1]
    have cv : ∀ (sv bv : Nat → Nat) (V : List Nat), cvD sv bv V d = bv d.2.1 := fun sv bv V => by unfold cvD; rw [if_neg e0, if_pos e1]
    by_cases hb : bf d.2.1 = 0
    · have eb : bfL N bf d.2.1 = ((frL N).1, upF bf d.2.1 (2 * N.length), 2 * N.length) := if_pos hb
      rw [eb]
      have e2 : upF bf d.2.1 (2 * N.length) d.2.1 = 2 * N.length := if_pos rfl
      have e3 : ∀ s, s ≠ d.2.1 → upF bf d.2.1 (2 * N.length) s = bf s := fun s hs => if_neg hs
      have ln : (frL N).1.length = N.length + 1 := List.length_append
      refine ⟨[(4, d.2.1)], 2 * N.length, rfl, ⟨hn.1.fre (by decide), by show 1 ≤ (frL N).1.length; omega, fun s hs => (hn.2.2.1 s hs).app, fun s hs => ?_⟩, len _, zl (by show N.length ≤ (frL N).1.length; omega) (by show 2 * N.length < 2 * (frL N).1.length; omega), hs.app hZ ⟨[_], rfl⟩ (fun s ne => e3 s (fun z => ne (by rw [z]; exact hb))) (fun v sv bv hv h1 h2 h3 => ?_)⟩
      · by_cases q : s = d.2.1
        · subst q
          show rlC _ (upF bf d.2.1 (2 * N.length) d.2.1) 4 d.2.1
          rw [e2]
          have hl := hn.1.1
          refine ⟨by omega, by rw [List.length_append]; show 2 * N.length / 2 < Ro.length + 1; omega, ?_⟩
          rw [show 2 * N.length / 2 = Ro.length by omega]
          exact gdB
        · have hs : upF bf d.2.1 (2 * N.length) s ≠ 0 := hs
          show rlC _ (upF bf d.2.1 (2 * N.length) s) 4 s
          rw [e3 s q] at hs ⊢
          exact (hn.2.2.2 s hs).app
      · rw [cv]
        have q := h2 d.2.1 (by show upF bf d.2.1 (2 * N.length) d.2.1 ≠ 0; rw [e2]; omega)
        have q : lvN v (upF bf d.2.1 (2 * N.length) d.2.1) = bv d.2.1 := q
        rw [e2] at q
        exact q
    · have eb : bfL N bf d.2.1 = (N, bf, bf d.2.1) := if_neg hb
      rw [eb]
      refine ⟨[], bf d.2.1, rfl, by rw [List.append_nil]; exact hn, len _, zl (Nat.le_refl _) ((hn.2.2.2 _ hb).lt hn.1), hs.app hZ ⟨[], (List.append_nil _).symm⟩ (fun _ _ => rfl) (fun v sv bv hv h1 h2 h3 => ?_)⟩
      rw [cv]
      exact h2 _ hb
  rw [if_neg e1]
  obtain ⟨r1, r2⟩ := w2 (by omega)
  have z1 := hz d.2.1 (by omega)
  by_cases e2 : d.1 = 2
  · rw [if_pos e2]
    refine ⟨[], nlt (Z.getD d.2.1 0), rfl, by rw [List.append_nil]; exact hn, len _, zl (Nat.le_refl _) (nlt_lt z1), hs.app hZ ⟨[], (List.append_nil _).symm⟩ (fun _ _ => rfl) (fun v sv bv hv h1 h2 h3 => ?_)⟩
    rw [lv_n hv.2.1, h3 _ r2]
    unfold cvD
    rw [if_neg e0, if_neg e1, if_pos e2]
  rw [if_neg e2]
  obtain ⟨r3, r4⟩ := w3 (by omega)
  have z2 := hz d.2.2 (by omega)
  by_cases e3 : d.1 = 3
  · rw [if_pos e3]
    obtain ⟨t, h1, h2⟩ := hn.and z1 z2
    obtain ⟨u, h3, h4⟩ := an_pre (N := N) (a := Z.getD d.2.1 0) (c := Z.getD d.2.2 0)
    refine ⟨t, (anL N (Z.getD d.2.1 0) (Z.getD d.2.2 0)).2, rfl, h1, len _, zl (by show N.length ≤ (anL N (Z.getD d.2.1 0) (Z.getD d.2.2 0)).1.length; rw [h3, List.length_append]; omega) h2, hs.app hZ ⟨u, h3⟩ (fun _ _ => rfl) (fun v sv bv hv g1 g2 g3 => ?_)⟩
    rw [lv_an z1 hv, g3 _ r2, g3 _ r4]
    unfold cvD
    rw [if_neg e0, if_neg e1, if_neg e2, if_pos e3]
  rw [if_neg e3]
  obtain ⟨t, h1, h2⟩ := hn.and (nlt_lt z1) (nlt_lt z2)
  obtain ⟨u, h3, h4⟩ := an_pre (N := N) (a := nlt (Z.getD d.2.1 0)) (c := nlt (Z.getD d.2.2 0))
  refine ⟨t, (orL N (Z.getD d.2.1 0) (Z.getD d.2.2 0)).2, rfl, h1, len _, zl (by show N.length ≤ (anL N (nlt (Z.getD d.2.1 0)) (nlt (Z.getD d.2.2 0))).1.length; rw [h3, List.length_append]; omega) (nlt_lt h2), hs.app hZ ⟨u, h3⟩ (fun _ _ => rfl) (fun v sv bv hv g1 g2 g3 => ?_)⟩
  rw [lv_or z1 hv, g3 _ r2, g3 _ r4]
  unfold cvD
  rw [if_neg e0, if_neg e1, if_neg e2, if_neg e3]
theorem cy_ci : ∀ (V : List Cd) (N : Nt) (bf : Nat → Nat) (Y : List Cd) (Z : List Nat) (Ro : List (Nat × Nat)), ciC S sg N bf Y Z Ro → (∀ k, k < V.length → NdW S f (Y.length + k) (V.getD k (0, 0, 0))) → ∃ t D, (cyL sg (N, bf, Z) V).2.2 = Z ++ D ∧ ciC S sg (cyL sg (N, bf, Z) V).1 (cyL sg (N, bf, Z) V).2.1 (Y ++ V) (Z ++ D) (Ro ++ t)
  | [], N, bf, Y, Z, Ro, h, _ => ⟨[], [], (List.append_nil _).symm, by rw [List.append_nil, List.append_nil, List.append_nil]; exact h⟩
  | d :: V, N, bf, Y, Z, Ro, h, w => by
    obtain ⟨t1, z, e1, c1⟩ := nd_ci (d := d) h (w 0 (Nat.zero_lt_succ _))
    have e : cyL sg (N, bf, Z) (d :: V) = cyL sg (ndL sg (N, bf, Z) d) V := rfl
    rw [e]
    generalize ndL sg (N, bf, Z) d = R at e1 c1
    obtain ⟨N1, bf1, Z1⟩ := R
    have e1 : Z1 = Z ++ [z] := e1
    subst e1
    obtain ⟨t2, D, e2, c2⟩ := cy_ci V N1 bf1 (Y ++ [d]) (Z ++ [z]) (Ro ++ t1) c1 (fun k hk => by
      have q := w (k + 1) (Nat.succ_lt_succ hk)
      rw [List.length_append]
      show NdW S f (Y.length + 1 + k) _
      rw [show Y.length + 1 + k = Y.length + (k + 1) by omega]
      exact q)
    refine ⟨t1 ++ t2, z :: D, ?_, ?_⟩
    · rw [e2, List.append_assoc]; rfl
    · rw [List.append_assoc, List.append_assoc, List.append_assoc] at c2
      exact c2
theorem nd_sh {R D : List Nat} (hR : R.length = f) (hZ : Z.length = f) (w : NdW S f (f + D.length) d) : ∃ N1 bf1 z, ndL sg (N, bf, R ++ D) d = (N1, bf1, R ++ (D ++ [z])) ∧ ndL sg (N, bf, Z ++ D) d = (N1, bf1, Z ++ (D ++ [z])) := by
  have g : ∀ k, f ≤ k → (R ++ D).getD k 0 = (Z ++ D).getD k 0 := by
    intro k hk
    have q1 : (R ++ D).getD (R.length + (k - f)) 0 = D.getD (k - f) 0 := gdC
    have q2 : (Z ++ D).getD (Z.length + (k - f)) 0 = D.getD (k - f) 0 := gdC
    rw [show R.length + (k - f) = k by omega] at q1
    rw [show Z.length + (k - f) = k by omega] at q2
    rw [q1, q2]
  obtain ⟨w0, w1, w2, w3⟩ := w
  unfold ndL
  by_cases e0 : d.1 = 0
  · rw [if_pos e0, if_pos e0]
    exact ⟨_, _, _, by rw [List.append_assoc], by rw [List.append_assoc]⟩
  rw [if_neg e0, if_neg e0]
  by_cases e1 : d.1 = 1
  · rw [if_pos e1, if_pos e1]
    exact ⟨_, _, _, by rw [List.append_assoc], by rw [List.append_assoc]⟩
  rw [if_neg e1, if_neg e1]
  have r1 := g _ (w2 (by omega)).1
  by_cases e2 : d.1 = 2
  · rw [if_pos e2, if_pos e2]
    refine ⟨_, _, _, by rw [List.append_assoc], ?_⟩
    rw [List.append_assoc]
    show (N, bf, Z ++ (D ++ [nlt ((Z ++ D).getD d.2.1 0)])) = (N, bf, Z ++ (D ++ [nlt ((R ++ D).getD d.2.1 0)]))
    rw [r1]
  rw [if_neg e2, if_neg e2]
  have r2 := g _ (w3 (by omega)).1
  by_cases e3 : d.1 = 3
  · rw [if_pos e3, if_pos e3]
    refine ⟨_, _, _, by rw [List.append_assoc], ?_⟩
    rw [List.append_assoc]
    show ((anL N ((Z ++ D).getD d.2.1 0) ((Z ++ D).getD d.2.2 0)).1, bf, Z ++ (D ++ [(anL N ((Z ++ D).getD d.2.1 0) ((Z ++ D).getD d.2.2 0)).2])) = ((anL N ((R ++ D).getD d.2.1 0) ((R ++ D).getD d.2.2 0)).1, bf, Z ++ (D ++ [(anL N ((R ++ D).getD d.2.1 0) ((R ++ D).getD d.2.2 0)).2]))
    rw [r1, r2]
  rw [if_neg e3, if_neg e3]
  refine ⟨_, _, _, by rw [List.append_assoc], ?_⟩
  rw [List.append_assoc]
  show ((orL N ((Z ++ D).getD d.2.1 0) ((Z ++ D).getD d.2.2 0)).1, bf, Z ++ (D ++ [(orL N ((Z ++ D).getD d.2.1 0) ((Z ++ D).getD d.2.2 0)).2])) = ((orL N ((R ++ D).getD d.2.1 0) ((R ++ D).getD d.2.2 0)).1, bf, Z ++ (D ++ [(orL N ((R ++ D).getD d.2.1 0) ((R ++ D).getD d.2.2 0)).2]))
  rw [r1, r2]
theorem cy_sh {R Z : List Nat} (hR : R.length = f) (hZ : Z.length = f) : ∀ (V : List Cd) (N : Nt) (bf : Nat → Nat) (D : List Nat), (∀ k, k < V.length → NdW S f (f + D.length + k) (V.getD k (0, 0, 0))) → ∃ N1 bf1 D1, cyL sg (N, bf, R ++ D) V = (N1, bf1, R ++ D1) ∧ cyL sg (N, bf, Z ++ D) V = (N1, bf1, Z ++ D1)
  | [], N, bf, D, _ => ⟨N, bf, D, rfl, rfl⟩
  | d :: V, N, bf, D, w => by
    obtain ⟨N1, bf1, z, e1, e2⟩ := nd_sh (d := d) (sg := sg) (N := N) (bf := bf) hR hZ (w 0 (Nat.zero_lt_succ _))
    have a1 : cyL sg (N, bf, R ++ D) (d :: V) = cyL sg (ndL sg (N, bf, R ++ D) d) V := rfl
    have a2 : cyL sg (N, bf, Z ++ D) (d :: V) = cyL sg (ndL sg (N, bf, Z ++ D) d) V := rfl
    rw [a1, a2, e1, e2]
    refine cy_sh hR hZ V N1 bf1 (D ++ [z]) (fun k hk => ?_)
    have q := w (k + 1) (Nat.succ_lt_succ hk)
    rw [List.length_append]
    show NdW S f (f + (D.length + 1) + k) _
    rw [show f + (D.length + 1) + k = f + D.length + (k + 1) by omega]
    exact q
end
/-- a reading's conditions: literals Z, roles of nets -/
def cdI (τ : Td) (σ : PS) (Z : List Nat) (Ro : List (Nat × Nat)) : Prop := ciC τ.1.length (sgT τ.1.length) σ.2.1.2.2.1 σ.2.1.2.2.2.1 σ.2.2.2 Z Ro
section
variable {b : Nat → Int32} {n m : Nat} {τ : Td} {j i o : Nat} {σ : PS} {Z : List Nat} {Ro : List (Nat × Nat)}
/-- what reading a condition changes -/
def CoX (m j : Nat) (σ σ' : PS) (V : List Cd) : Prop := σ'.2.2.2 = σ.2.2.2 ++ V ∧ 0 < V.length ∧ σ'.1.1 = σ.1.1 ∧ σ'.1.2.1 = up2 (up2 σ.1.2.1 62 (40 * m + j) (Int32.ofNat (410 * m + σ.2.2.2.length))) 63 (40 * m + j) (Int32.ofNat (410 * m + (σ'.2.2.2.length - 1))) ∧ σ'.2.1.1 = σ.2.1.1 ∧ trS σ' = trS σ ∧ σ'.2.1.2.2.2.2 = σ.2.1.2.2.2.2 ∧ σ'.2.2.1 = σ.2.2.1
theorem co_ci {r : Nat × PS × Nat} (h : cdI τ σ Z Ro) (e : coM b n m τ j i o σ = .ok r) : ∃ t D V, cdI τ r.2.1 (Z ++ D) (Ro ++ t) ∧ CoX m j σ r.2.1 V ∧ WcR τ.1.length r.2.1.2.2.2 σ.2.2.2.length (r.2.1.2.2.2.length - 1) ∧ r.2.2 = (Z ++ D).getD (r.2.1.2.2.2.length - 1) 0 := by
  unfold coM at e
  obtain ⟨q, eq, e⟩ := bind_ok e
  cases e
  obtain ⟨a1, ⟨V, a2⟩, a3⟩ := rc_w (sN := τ.1) 6000 3 i o σ.2.2.2 σ.2.2.2.length q (by decide) (Nat.le_refl _) (fun z => by omega) (fun k h1 h2 => by omega) eq
  have a3 := a3 (Or.inr (Or.inr rfl))
  have hl : q.2.length = σ.2.2.2.length + V.length := by rw [a2, List.length_append]
  have ed : q.2.drop σ.2.2.2.length = V := by rw [a2, List.drop_left]
  have wV : ∀ k, k < V.length → NdW τ.1.length σ.2.2.2.length (σ.2.2.2.length + k) (V.getD k (0, 0, 0)) := by
    intro k hk
    have := a1 (σ.2.2.2.length + k) (Nat.le_add_right _ _) (by omega)
    rw [a2, gdC] at this
    exact this
  obtain ⟨N1, bf1, D1, c1, c2⟩ := cy_sh (sg := sgT τ.1.length) (R := List.replicate σ.2.2.2.length 0) (Z := Z) (f := σ.2.2.2.length) List.length_replicate h.2.1 V σ.2.1.2.2.1 σ.2.1.2.2.2.1 [] (fun k hk => by exact wV k hk)
  rw [List.append_nil] at c1 c2
  obtain ⟨t, D, d1, d2⟩ := cy_ci (f := σ.2.2.2.length) V _ _ _ _ _ h wV
  rw [c2] at d1 d2
  have hD : D1 = D := List.append_cancel_left d1
  subst hD
  rw [ed, c1]
  refine ⟨t, D1, V, ?_, ⟨a2, by omega, rfl, rfl, rfl, rfl, rfl, rfl⟩, fun k h1 h2 => a1 k h1 (by have h2 : k ≤ q.2.length - 1 := h2; omega), ?_⟩
  · show ciC _ _ N1 bf1 q.2 (Z ++ D1) _
    rw [a2]
    exact d2
  · show (List.replicate σ.2.2.2.length 0 ++ D1).getD (q.2.length - 1) 0 = (Z ++ D1).getD (q.2.length - 1) 0
    have q1 : (List.replicate σ.2.2.2.length 0 ++ D1).getD ((List.replicate σ.2.2.2.length 0).length + (V.length - 1)) 0 = D1.getD (V.length - 1) 0 := gdC
    have q2 : (Z ++ D1).getD (Z.length + (V.length - 1)) 0 = D1.getD (V.length - 1) 0 := gdC
    rw [List.length_replicate] at q1
    have hz := h.2.1
    rw [show σ.2.2.2.length + (V.length - 1) = q.2.length - 1 by omega] at q1
    rw [show Z.length + (V.length - 1) = q.2.length - 1 by omega] at q2
    rw [q1, q2]
end
