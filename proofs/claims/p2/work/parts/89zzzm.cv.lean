/-! three truths; nets and what their literals say -/
def v3A (a c : Nat) : Nat := if a = 0 ∨ c = 0 then 0 else if a = 1 ∧ c = 1 then 1 else 2
def v3O (a c : Nat) : Nat := if a = 1 ∨ c = 1 then 1 else if a = 0 ∧ c = 0 then 0 else 2
def v3N (a : Nat) : Nat := if a = 2 then 2 else 1 - a
def lvN (v : Nat → Nat) (l : Nat) : Nat := if l % 2 = 0 then v (l / 2) else v3N (v (l / 2))
/-- a valuation that goes with the nets; those that hold themselves are free -/
def cnC (N : Nt) (v : Nat → Nat) : Prop := v 0 = 0 ∧ (∀ n, v n ≤ 2) ∧ ∀ n, n < N.length → (N.getD n (0, 0)).1 ≠ 2 * n → v n = v3A (lvN v (N.getD n (0, 0)).1) (lvN v (N.getD n (0, 0)).2)
theorem v3N_le (a : Nat) : v3N a ≤ 2 := by unfold v3N; split <;> omega
theorem v3A_le (a c : Nat) : v3A a c ≤ 2 := by unfold v3A; split; omega; split <;> omega
theorem v3O_le (a c : Nat) : v3O a c ≤ 2 := by unfold v3O; split; omega; split <;> omega
theorem v3N_N {a : Nat} (h : a ≤ 2) : v3N (v3N a) = a := by
  have : a = 0 ∨ a = 1 ∨ a = 2 := by omega
  rcases this with e | e | e <;> subst e <;> rfl
theorem v3A_s {a : Nat} (h : a ≤ 2) : v3A a a = a := by
  have : a = 0 ∨ a = 1 ∨ a = 2 := by omega
  rcases this with e | e | e <;> subst e <;> rfl
theorem v3A_1 {a : Nat} (h : a ≤ 2) : v3A 1 a = a ∧ v3A a 1 = a := by
  have : a = 0 ∨ a = 1 ∨ a = 2 := by omega
  rcases this with e | e | e <;> subst e <;> exact ⟨rfl, rfl⟩
theorem v3A_0 {a : Nat} : v3A 0 a = 0 ∧ v3A a 0 = 0 := ⟨if_pos (Or.inl rfl), if_pos (Or.inr rfl)⟩
theorem v3_or {a c : Nat} (h : a ≤ 2) (k : c ≤ 2) : v3N (v3A (v3N a) (v3N c)) = v3O a c := by
  have : a = 0 ∨ a = 1 ∨ a = 2 := by omega
  have : c = 0 ∨ c = 1 ∨ c = 2 := by omega
  rcases ‹a = 0 ∨ a = 1 ∨ a = 2› with e | e | e <;> rcases this with z | z | z <;> subst e <;> subst z <;> rfl
section
variable {N : Nt} {v : Nat → Nat} {a c l : Nat}
theorem lv_le (h : ∀ n, v n ≤ 2) : lvN v l ≤ 2 := by
  unfold lvN
  split
  · exact h _
  · exact v3N_le _
theorem lv_0 (h : cnC N v) : lvN v 0 = 0 := by
  show (if 0 % 2 = 0 then v (0 / 2) else _) = 0
  rw [if_pos (by decide)]; exact h.1
theorem lv_1 (h : cnC N v) : lvN v 1 = 1 := by
  show (if 1 % 2 = 0 then v (1 / 2) else v3N (v (1 / 2))) = 1
  rw [if_neg (by decide)]
  have e : v (1 / 2) = 0 := h.1
  rw [e]; rfl
theorem lv_n (h : ∀ n, v n ≤ 2) : lvN v (nlt l) = v3N (lvN v l) := by
  unfold lvN nlt
  by_cases e : l % 2 = 0
  · rw [if_pos e, if_pos e, if_neg (by omega), show (l + 1) / 2 = l / 2 by omega]
  · rw [if_neg e, if_neg e, if_pos (by omega), show (l - 1) / 2 = l / 2 by omega, v3N_N (h _)]
theorem lv_2 {k : Nat} : lvN v (2 * k) = v k := by
  unfold lvN
  rw [if_pos (by omega), show 2 * k / 2 = k by omega]
theorem cnC.pre {t : Nt} (h : cnC (N ++ t) v) : cnC N v := by
  refine ⟨h.1, h.2.1, fun k hk ne => ?_⟩
  have q := h.2.2 k (by rw [List.length_append]; omega)
  rw [gdA hk] at q
  exact q ne
theorem an_pre : ∃ t, (anL N a c).1 = N ++ t ∧ t.length ≤ 1 := by
  unfold anL
  split
  · exact ⟨[], (List.append_nil _).symm, Nat.zero_le _⟩
  · split
    · exact ⟨[], (List.append_nil _).symm, Nat.zero_le _⟩
    · split
      · exact ⟨[], (List.append_nil _).symm, Nat.zero_le _⟩
      · exact ⟨[_], rfl, Nat.le_refl _⟩
theorem lv_an (ha : a < 2 * N.length) (h : cnC (anL N a c).1 v) : lvN v (anL N a c).2 = v3A (lvN v a) (lvN v c) := by
  unfold anL at h ⊢
  by_cases e1 : a = 0 ∨ c = 0
  · rw [if_pos e1] at h ⊢
    rcases e1 with e | e
    · rw [e, lv_0 h, v3A_0.1]
    · rw [e, lv_0 h, v3A_0.2]
  rw [if_neg e1] at h ⊢
  by_cases e2 : a = 1 ∨ a = c
  · rw [if_pos e2] at h ⊢
    rcases e2 with e | e
    · rw [e, lv_1 h, (v3A_1 (lv_le h.2.1)).1]
    · rw [e, v3A_s (lv_le h.2.1)]
  rw [if_neg e2] at h ⊢
  by_cases e3 : c = 1
  · rw [if_pos e3] at h ⊢
    rw [e3, lv_1 h, (v3A_1 (lv_le h.2.1)).2]
  rw [if_neg e3] at h ⊢
  have q := h.2.2 N.length (by show N.length < (N ++ [(a, c)]).length; rw [List.length_append]; exact Nat.lt_succ_self _)
  have e : (N ++ [(a, c)]).getD N.length (0, 0) = (a, c) := gdB
  have q : ((N ++ [(a, c)]).getD N.length (0, 0)).1 ≠ 2 * N.length → v N.length = _ := q
  rw [e] at q
  show lvN v (2 * N.length) = _
  rw [lv_2]
  exact q (by show a ≠ _; omega)
theorem lv_or (ha : a < 2 * N.length) (h : cnC (orL N a c).1 v) : lvN v (orL N a c).2 = v3O (lvN v a) (lvN v c) := by
  have h' : cnC (anL N (nlt a) (nlt c)).1 v := h
  show lvN v (nlt (anL N (nlt a) (nlt c)).2) = _
  rw [lv_n h.2.1, lv_an (nlt_lt ha) h', lv_n h.2.1, lv_n h.2.1, v3_or (lv_le h.2.1) (lv_le h.2.1)]
end
/-! conditions have values -/
def cvD (sv bv : Nat → Nat) (V : List Nat) (d : Cd) : Nat := if d.1 = 0 then sv d.2.1 else if d.1 = 1 then bv d.2.1 else if d.1 = 2 then v3N (V.getD d.2.1 0) else if d.1 = 3 then v3A (V.getD d.2.1 0) (V.getD d.2.2 0) else v3O (V.getD d.2.1 0) (V.getD d.2.2 0)
def cvL (sv bv : Nat → Nat) (Y : List Cd) : List Nat := Y.foldl (fun V d => V ++ [cvD sv bv V d]) []
section
variable {sv bv : Nat → Nat} {Y : List Cd} {d : Cd}
theorem cvL_app : cvL sv bv (Y ++ [d]) = cvL sv bv Y ++ [cvD sv bv (cvL sv bv Y) d] := List.foldl_append
theorem cvF_len : ∀ (Y : List Cd) (V : List Nat), (Y.foldl (fun V d => V ++ [cvD sv bv V d]) V).length = V.length + Y.length
  | [], V => rfl
  | d :: Y, V => by
    show (Y.foldl (fun V d => V ++ [cvD sv bv V d]) (V ++ [cvD sv bv V d])).length = V.length + (Y.length + 1)
    rw [cvF_len Y, List.length_append]
    show V.length + 1 + Y.length = _
    omega
theorem cvL_len : (cvL sv bv Y).length = Y.length := by
  unfold cvL
  rw [cvF_len]
  exact Nat.zero_add _
theorem cvL_pre : ∀ (V Y : List Cd), ∃ t, cvL sv bv (Y ++ V) = cvL sv bv Y ++ t
  | [], Y => ⟨[], by rw [List.append_nil, List.append_nil]⟩
  | d :: V, Y => by
    obtain ⟨t, e⟩ := cvL_pre V (Y ++ [d])
    rw [cvL_app, List.append_assoc, List.append_assoc] at e
    exact ⟨_, e⟩
end
/-- roles of nets: 0 an and, 1 the 0, 2 the first beat, 3 a signal, 4 a 'pre', 5 an if, 6 held pauses, 7 a loop's GO, 8 a trap's KILL -/
def RoK (N : Nt) (Ro : List (Nat × Nat)) : Prop := Ro.length = N.length ∧ ∀ n, n < N.length → ((Ro.getD n (0, 0)).1 = 0 → (N.getD n (0, 0)).1 < 2 * n ∧ (N.getD n (0, 0)).2 < 2 * n) ∧ ((Ro.getD n (0, 0)).1 ≠ 0 → N.getD n (0, 0) = (2 * n, 2 * n))
def rlC (Ro : List (Nat × Nat)) (l k x : Nat) : Prop := l % 2 = 0 ∧ l / 2 < Ro.length ∧ Ro.getD (l / 2) (0, 0) = (k, x)
def niC (S : Nat) (sg : Nat → Nat) (N : Nt) (bf : Nat → Nat) (Ro : List (Nat × Nat)) : Prop := RoK N Ro ∧ 1 ≤ N.length ∧ (∀ s, s < S → rlC Ro (sg s) 3 s) ∧ ∀ s, bf s ≠ 0 → rlC Ro (bf s) 4 s
def smC (S : Nat) (sg : Nat → Nat) (N : Nt) (bf : Nat → Nat) (Y : List Cd) (Z : List Nat) : Prop := ∀ v sv bv, cnC N v → (∀ s, s < S → lvN v (sg s) = sv s) → (∀ s, bf s ≠ 0 → lvN v (bf s) = bv s) → ∀ k, k < Y.length → lvN v (Z.getD k 0) = (cvL sv bv Y).getD k 0
def ciC (S : Nat) (sg : Nat → Nat) (N : Nt) (bf : Nat → Nat) (Y : List Cd) (Z : List Nat) (Ro : List (Nat × Nat)) : Prop := niC S sg N bf Ro ∧ Z.length = Y.length ∧ (∀ k, k < Z.length → Z.getD k 0 < 2 * N.length) ∧ smC S sg N bf Y Z
section
variable {S f : Nat} {sg : Nat → Nat} {N : Nt} {bf bf' : Nat → Nat} {Y : List Cd} {Z : List Nat} {Ro t : List (Nat × Nat)} {d : Cd}
theorem rlC.app {l k x : Nat} (h : rlC Ro l k x) : rlC (Ro ++ t) l k x := ⟨h.1, by rw [List.length_append]; have := h.2.1; omega, by rw [gdA h.2.1]; exact h.2.2⟩
theorem RoK.and {a c : Nat} (h : RoK N Ro) (ha : a < 2 * N.length) (hc : c < 2 * N.length) : RoK (N ++ [(a, c)]) (Ro ++ [(0, 0)]) := by
  refine ⟨by rw [List.length_append, List.length_append, h.1]; rfl, fun k hk => ?_⟩
  rw [List.length_append] at hk
  have hk : k < N.length + 1 := hk
  by_cases e : k = N.length
  · subst e
    rw [gdB]
    exact ⟨fun _ => ⟨ha, hc⟩, fun z => absurd (by rw [← h.1, gdB]) z⟩
  · have e1 : (N ++ [(a, c)]).getD k (0, 0) = N.getD k (0, 0) := gdA (by omega)
    have e2 : (Ro ++ [(0, 0)]).getD k (0, 0) = Ro.getD k (0, 0) := gdA (by rw [h.1]; omega)
    rw [e1, e2]
    exact h.2 k (by omega)
theorem RoK.fre {k x : Nat} (h : RoK N Ro) (hk : k ≠ 0) : RoK (N ++ [(2 * N.length, 2 * N.length)]) (Ro ++ [(k, x)]) := by
  refine ⟨by rw [List.length_append, List.length_append, h.1]; rfl, fun i hi => ?_⟩
  rw [List.length_append] at hi
  have hi : i < N.length + 1 := hi
  by_cases e : i = N.length
  · subst e
    rw [gdB]
    exact ⟨fun z => absurd z (by rw [← h.1, gdB]; exact hk), fun _ => rfl⟩
  · have e1 : (N ++ [(2 * N.length, 2 * N.length)]).getD i (0, 0) = N.getD i (0, 0) := gdA (by omega)
    have e2 : (Ro ++ [(k, x)]).getD i (0, 0) = Ro.getD i (0, 0) := gdA (by rw [h.1]; omega)
    rw [e1, e2]
    exact h.2 i (by omega)
theorem niC.and {a c : Nat} (h : niC S sg N bf Ro) (ha : a < 2 * N.length) (hc : c < 2 * N.length) : ∃ t, niC S sg (anL N a c).1 bf (Ro ++ t) ∧ (anL N a c).2 < 2 * (anL N a c).1.length := by
  unfold anL
  split
  · exact ⟨[], by rw [List.append_nil]; exact h, by show 0 < 2 * N.length; have := h.2.1; omega⟩
  · split
    · exact ⟨[], by rw [List.append_nil]; exact h, hc⟩
    · split
      · exact ⟨[], by rw [List.append_nil]; exact h, ha⟩
      · refine ⟨[(0, 0)], ⟨h.1.and ha hc, by rw [List.length_append]; have := h.2.1; omega, fun s hs => (h.2.2.1 s hs).app, fun s hs => (h.2.2.2 s hs).app⟩, ?_⟩
        show 2 * N.length < 2 * (N ++ [_]).length
        rw [List.length_append]
        show _ < 2 * (N.length + 1)
        omega
theorem smC.app {N' : Nt} {z : Nat} (h : smC S sg N bf Y Z) (hZ : Z.length = Y.length) (hN : ∃ t, N' = N ++ t) (hb : ∀ s, bf s ≠ 0 → bf' s = bf s) (hz : ∀ v sv bv, cnC N' v → (∀ s, s < S → lvN v (sg s) = sv s) → (∀ s, bf' s ≠ 0 → lvN v (bf' s) = bv s) → (∀ k, k < Y.length → lvN v (Z.getD k 0) = (cvL sv bv Y).getD k 0) → lvN v z = cvD sv bv (cvL sv bv Y) d) : smC S sg N' bf' (Y ++ [d]) (Z ++ [z]) := by
  intro v sv bv hv hs hb' k hk
  have hb2 : ∀ s, bf s ≠ 0 → lvN v (bf s) = bv s := fun s ne => by rw [← hb s ne]; exact hb' s (by rw [hb s ne]; exact ne)
  have hv1 : cnC N v := by
    obtain ⟨t, e⟩ := hN
    rw [e] at hv
    exact hv.pre
  have old := h v sv bv hv1 hs hb2
  rw [List.length_append] at hk
  have hk : k < Y.length + 1 := hk
  rw [cvL_app]
  by_cases e : k = Y.length
  · subst e
    rw [← hZ, gdB, hZ]
    have : (cvL sv bv Y ++ [cvD sv bv (cvL sv bv Y) d]).getD Y.length 0 = cvD sv bv (cvL sv bv Y) d := by
      have q : (cvL sv bv Y ++ [cvD sv bv (cvL sv bv Y) d]).getD (cvL sv bv Y).length 0 = cvD sv bv (cvL sv bv Y) d := gdB
      rw [cvL_len] at q
      exact q
    rw [this]
    exact hz v sv bv hv hs hb' old
  · rw [gdA (by omega), gdA (by rw [cvL_len]; omega)]
    exact old k (by omega)
end
