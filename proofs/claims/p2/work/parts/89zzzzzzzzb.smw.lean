/-! a sum is worked: what its nodes come to; the reference -/
def i6n (x : Int64) : Nat := x.toInt32.toNatClampNeg
theorem i6n_of {e : Nat} (h : e < 2147483648) : i6n (Int64.ofNat e) = e := by
  unfold i6n
  rw [Int64.toInt32_ofNat']
  exact lt32 h
def opWk (t : Nat) (a c : Int64) : Int32 × Int64 := if t = 3 then (0, -a) else if t = 4 then (0, a * c) else if t = 5 then (if c = 0 then (1, 0) else (0, a / c)) else if t = 6 then (if c = 0 then (1, 0) else (0, a - a / c * c)) else if t = 7 then (0, a + c) else (0, a - c)
/-- what a node comes to: 0 and its number, or why it can't be worked -/
def ndW (d : Nd) (vr sg w : Nat → Int64) : Int32 × Int64 := if d.1 = 0 then (0, d.2.1) else if d.1 = 1 then (0, vr (i6n d.2.1)) else if d.1 = 2 then (0, sg (i6n d.2.1)) else opWk d.1 (w (i6n d.2.1)) (w d.2.2)
def ndC (d : Nd) (vr sg w : Nat → Int64) : Int32 × Int64 := if (ndW d vr sg w).1 = 0 ∧ ¬ ((-1000000000 : Int64) ≤ (ndW d vr sg w).2 ∧ (ndW d vr sg w).2 ≤ 1000000000) then (2, (ndW d vr sg w).2) else ndW d vr sg w
/-- n nodes from k on -/
def wkZ (X : List Nd) (vr sg : Nat → Int64) : Nat → Nat → (Nat → Int64) → Int32 × (Nat → Int64)
  | 0, _, w => (0, w)
  | n + 1, k, w => if (ndC (X.getD k nd0) vr sg w).1 = 0 then wkZ X vr sg n (k + 1) (va_up w k (ndC (X.getD k nd0) vr sg w).2) else ((ndC (X.getD k nd0) vr sg w).1, va_up w k (ndC (X.getD k nd0) vr sg w).2)
/-- a sum: why it can't be worked, its number -/
def smV (X : List Nd) (vr sg : Nat → Int64) (f c : Nat) : Int32 × Int64 := ((wkZ X vr sg (c + 1 - f) f (fun _ => 0)).1, if (wkZ X vr sg (c + 1 - f) f (fun _ => 0)).1 = 0 then (wkZ X vr sg (c + 1 - f) f (fun _ => 0)).2 c else 0)
section
variable {X : List Nd} {vr sg w w' : Nat → Int64} {k n : Nat} {s t : List Nat}
theorem opWk_1 {t : Nat} {a c : Int64} : (opWk t a c).1 = 0 ∨ opWk t a c = (1, 0) := by
  unfold opWk
  by_cases h3 : t = 3
  · rw [if_pos h3]; exact Or.inl rfl
  rw [if_neg h3]
  by_cases h4 : t = 4
  · rw [if_pos h4]; exact Or.inl rfl
  rw [if_neg h4]
  by_cases hc : c = 0
  · rw [if_pos hc, if_pos hc]
    by_cases h5 : t = 5
    · rw [if_pos h5]; exact Or.inr rfl
    rw [if_neg h5]
    by_cases h6 : t = 6
    · rw [if_pos h6]; exact Or.inr rfl
    rw [if_neg h6]
    by_cases h7 : t = 7
    · rw [if_pos h7]; exact Or.inl rfl
    rw [if_neg h7]; exact Or.inl rfl
  · rw [if_neg hc, if_neg hc]
    by_cases h5 : t = 5
    · rw [if_pos h5]; exact Or.inl rfl
    rw [if_neg h5]
    by_cases h6 : t = 6
    · rw [if_pos h6]; exact Or.inl rfl
    rw [if_neg h6]
    by_cases h7 : t = 7
    · rw [if_pos h7]; exact Or.inl rfl
    rw [if_neg h7]; exact Or.inl rfl
theorem ndW_1 {d : Nd} : (ndW d vr sg w).1 = 0 ∨ ndW d vr sg w = (1, 0) := by
  unfold ndW
  by_cases h0 : d.1 = 0
  · rw [if_pos h0]; exact Or.inl rfl
  rw [if_neg h0]
  by_cases h1 : d.1 = 1
  · rw [if_pos h1]; exact Or.inl rfl
  rw [if_neg h1]
  by_cases h2 : d.1 = 2
  · rw [if_pos h2]; exact Or.inl rfl
  rw [if_neg h2]
  exact opWk_1
theorem SpN.ix (h : SpN X k s t) : (X.getD k nd0).1 ≤ 8 := by
  rcases h with ⟨h | h | h, -⟩ | ⟨h, -⟩ | ⟨h, -⟩ <;> omega
/-- a node sees only what stands on the stack -/
theorem SpN.nd (h : SpN X k s t) (hb : ∀ e ∈ s, e < 2147483648) (hw : ∀ e ∈ s, w e = w' e) : ndW (X.getD k nd0) vr sg w = ndW (X.getD k nd0) vr sg w' := by
  unfold ndW
  rcases h with ⟨⟨h, -⟩ | ⟨h, -⟩ | ⟨h, -⟩, -⟩ | ⟨h, e, s0, hs, he, -⟩ | ⟨h, a, e, s0, hs, he, ha, -⟩
  · rw [if_pos h, if_pos h]
  · rw [if_neg (by omega), if_pos h, if_neg (by omega), if_pos h]
  · rw [if_neg (by omega), if_neg (by omega), if_pos h, if_neg (by omega), if_neg (by omega), if_pos h]
  · have i : e ∈ s := by rw [hs]; exact List.mem_cons_self
    rw [if_neg (by omega), if_neg (by omega), if_neg (by omega), if_neg (by omega), if_neg (by omega), if_neg (by omega), h, he, i6n_of (hb e i), hw e i]
    rfl
  · have i : e ∈ s := by rw [hs]; exact List.mem_cons_of_mem _ List.mem_cons_self
    have j : a ∈ s := by rw [hs]; exact List.mem_cons_self
    rw [if_neg (by omega), if_neg (by omega), if_neg (by omega), if_neg (by omega), if_neg (by omega), if_neg (by omega), he, i6n_of (hb e i), hw e i, ha, hw a j]
theorem SpN.sb (h : SpN X k s t) : ∃ s0, t = k :: s0 ∧ ∀ e ∈ s0, e ∈ s := by
  rcases h with ⟨-, e⟩ | ⟨-, e, s0, hs, -, ht⟩ | ⟨-, a, e, s0, hs, -, -, ht⟩
  · exact ⟨s, e, fun e he => he⟩
  · exact ⟨s0, ht, fun y hy => by rw [hs]; exact List.mem_cons_of_mem _ hy⟩
  · exact ⟨s0, ht, fun y hy => by rw [hs]; exact List.mem_cons_of_mem _ (List.mem_cons_of_mem _ hy)⟩
theorem ndC_cg {d : Nd} (h : ndW d vr sg w = ndW d vr sg w') : ndC d vr sg w = ndC d vr sg w' := by
  unfold ndC
  rw [h]
theorem wk_ind {D : Nat} : ∀ (n k : Nat) (s t : List Nat) (w w' : Nat → Int64), GdS X D n k s t → k + n ≤ 2147483648 → (∀ e ∈ s, e < k) → (∀ e ∈ s, w e = w' e) → (wkZ X vr sg n k w).1 = (wkZ X vr sg n k w').1 ∧ ((wkZ X vr sg n k w).1 = 0 → ∀ e ∈ t, (wkZ X vr sg n k w).2 e = (wkZ X vr sg n k w').2 e)
  | 0, k, s, t, w, w', hg, _, _, hw => by
    have hg : s = t := hg
    exact ⟨rfl, fun _ e he => hw e (by rw [hg]; exact he)⟩
  | n + 1, k, s, t, w, w', ⟨s', h1, h2, h3⟩, hn, hb, hw => by
    have e := ndC_cg (h1.nd (vr := vr) (sg := sg) (fun e he => by have := hb e he; omega) hw)
    obtain ⟨s0, e0, i0⟩ := h1.sb
    unfold wkZ
    rw [← e]
    by_cases z : (ndC (X.getD k nd0) vr sg w).1 = 0
    · rw [if_pos z, if_pos z]
      refine wk_ind n (k + 1) s' t _ _ h3 (by omega) (fun y hy => ?_) (fun y hy => ?_)
      · rw [e0] at hy
        rcases List.mem_cons.mp hy with q | q
        · omega
        · have := hb y (i0 y q); omega
      · rw [e0] at hy
        rcases List.mem_cons.mp hy with q | q
        · rw [q, va_up_self, va_up_self]
        · have := hb y (i0 y q)
          rw [va_up_ne _ _ (by omega), va_up_ne _ _ (by omega)]
          exact hw y (i0 y q)
    · rw [if_neg z, if_neg z]
      exact ⟨rfl, fun q => absurd q z⟩
end
section
variable {M : Mem} {h m : Nat} {X : List Nd} {Q : Option Value → Mem → Prop}
theorem R_57 {K t : Nat} {a c : Int64} (F : Fix M) (hK : K < 3240) (e : mAI M 49 K = Int32.ofNat t) (h3 : 3 ≤ t) (h8 : t ≤ 8) (H0 : (opWk t a c).1 = 0 → Q (some (.long (opWk t a c).2)) M) (H1 : ¬ (opWk t a c).1 = 0 → Q (some (.long 0)) (wI M 29 111 1)) : DX11_workedNode_57 h 29 (Int32.ofNat K) a c M Q := by
  have vK : vp_in (Int32.ofNat K) (mL M 49) := by rw [ln49 F]; exact vp_of hK (by decide)
  unfold DX11_workedNode_57 DX11_workedNode_171
  rw [lt32 (show K < 2147483648 by omega)]
  refine ⟨ok29 F, 49, rf29_25 F, ok49 F, vK, ?_⟩
  have ht : t = 3 ∨ t = 4 ∨ t = 5 ∨ t = 6 ∨ t = 7 ∨ t = 8 := by omega
  rcases ht with rfl | rfl | rfl | rfl | rfl | rfl
  · rw [e]
    exact ⟨fun z => absurd z (by decide), fun z => absurd z (by decide), fun _ => H0 rfl, fun z => absurd z (by decide), fun z => absurd z (by decide), fun z => absurd z (by decide), fun z => absurd z (by decide), fun z => absurd z (by decide), fun z => absurd z (by decide)⟩
  · rw [e]
    exact ⟨fun z => absurd z (by decide), fun z => absurd z (by decide), fun z => absurd z (by decide), fun _ => H0 rfl, fun z => absurd z (by decide), fun z => absurd z (by decide), fun z => absurd z (by decide), fun z => absurd z (by decide), fun z => absurd z (by decide)⟩
  · unfold opWk at H0 H1
    rw [if_neg (by decide), if_neg (by decide), if_pos rfl] at H0 H1
    refine ⟨fun z => by rw [e] at z; exact absurd z (by decide), fun z => by rw [e] at z; exact absurd z (by decide), fun z => by rw [e] at z; exact absurd z (by decide), fun z => by rw [e] at z; exact absurd z (by decide), fun _ => ⟨fun z => ?_, fun z M10 e10 => ?_⟩, fun z => by rw [e] at z; exact absurd z (by decide), fun z => by rw [e] at z; exact absurd z (by decide), fun z => by rw [e] at z; exact absurd z (by decide), fun z => by rw [e] at z; exact absurd z (by decide)⟩
    · rw [lgz] at z
      rw [if_neg z] at H0
      exact ⟨49, rf29_25 F, ok49 F, vK, fun y => absurd e y, fun _ => ⟨z, H0 rfl⟩⟩
    · rw [lgz] at z
      rw [if_pos z] at H1
      rw [e10]
      exact H1 (by decide)
  · unfold opWk at H0 H1
    rw [if_neg (by decide), if_neg (by decide), if_neg (by decide), if_pos rfl] at H0 H1
    refine ⟨fun z => by rw [e] at z; exact absurd z (by decide), fun z => by rw [e] at z; exact absurd z (by decide), fun z => by rw [e] at z; exact absurd z (by decide), fun z => by rw [e] at z; exact absurd z (by decide), fun z => by rw [e] at z; exact absurd z (by decide), fun _ => ⟨fun z => ?_, fun z M10 e10 => ?_⟩, fun z => by rw [e] at z; exact absurd z (by decide), fun z => by rw [e] at z; exact absurd z (by decide), fun z => by rw [e] at z; exact absurd z (by decide)⟩
    · rw [lgz] at z
      rw [if_neg z] at H0
      exact ⟨49, rf29_25 F, ok49 F, vK, fun _ => ⟨z, H0 rfl⟩, fun y => by rw [e] at y; exact absurd y (by decide)⟩
    · rw [lgz] at z
      rw [if_pos z] at H1
      rw [e10]
      exact H1 (by decide)
  · rw [e]
    exact ⟨fun z => absurd z (by decide), fun z => absurd z (by decide), fun z => absurd z (by decide), fun z => absurd z (by decide), fun z => absurd z (by decide), fun z => absurd z (by decide), fun _ => H0 rfl, fun z => absurd z (by decide), fun z => absurd z (by decide)⟩
  · rw [e]
    exact ⟨fun z => absurd z (by decide), fun z => absurd z (by decide), fun z => absurd z (by decide), fun z => absurd z (by decide), fun z => absurd z (by decide), fun z => absurd z (by decide), fun z => absurd z (by decide), fun _ => H0 rfl, fun z => absurd z (by decide)⟩
theorem R_wkN {k : Nat} {s s' : List Nat} (F : Fix M) (h4 : m < 4) (hX : XR M m X) (hk : k < X.length) (hl : X.length ≤ 810) (hs : SpN X k s s') (hb : ∀ e ∈ s, e < 810) (H0 : (ndW (X.getD k nd0) (mAJ M 120) (mAJ M 119) (fun e => mAJ M 118 (810 * m + e))).1 = 0 → Q (some (.long (ndW (X.getD k nd0) (mAJ M 120) (mAJ M 119) (fun e => mAJ M 118 (810 * m + e))).2)) M) (H1 : ¬ (ndW (X.getD k nd0) (mAJ M 120) (mAJ M 119) (fun e => mAJ M 118 (810 * m + e))).1 = 0 → Q (some (.long 0)) (wI M 29 111 1)) : E (h + 1) mdX11_workedNode [.ref 29, .int (Int32.ofNat (810 * m + k))] M Q := by
  obtain ⟨e49, e50, e51⟩ := hX.2 k hk
  have hK : 810 * m + k < 3240 := by omega
  have v49 : vp_in (Int32.ofNat (810 * m + k)) (mL M 49) := by rw [ln49 F]; exact vp_of hK (by decide)
  have v50 : vp_in (Int32.ofNat (810 * m + k)) (mL M 50) := by rw [ln50 F]; exact vp_of hK (by decide)
  have v51 : vp_in (Int32.ofNat (810 * m + k)) (mL M 51) := by rw [ln51 F]; exact vp_of hK (by decide)
  have lk : (Int32.ofNat (810 * m + k)).toNatClampNeg = 810 * m + k := lt32 (by omega)
  have t8 := hs.ix
  unfold SpN KdN at hs
  generalize X.getD k nd0 = d at *
  refine KX11_workedNode ?_
  unfold DX11_workedNode_0 DX11_workedNode_31
  rw [lk]
  rcases hs with ⟨hkd, -⟩ | ⟨ht, e, s0, hs0, hd, -⟩ | ⟨ht, a, e, s0, hs0, hd, ha, -⟩
  · rcases hkd with ⟨ht, v, hv, hd⟩ | ⟨ht, v, hv, hd⟩ | ⟨ht, v, hv, hd⟩
    · have ea : mAJ M 50 (810 * m + k) = Int64.ofNat v := by rw [e50]; unfold xa; rw [if_pos (by omega), hd]
      rw [ht] at e49
      unfold ndW at H0
      rw [if_pos ht, hd] at H0
      refine ⟨ok29 F, 49, rf29_25 F, ok49 F, v49, fun z => by rw [e49] at z; exact absurd z (by decide), fun _ => ⟨50, rf29_26 F, ok50 F, v50, ok29 F, 49, rf29_25 F, ok49 F, v49, fun _ => ?_, fun z => by rw [e49] at z; exact absurd (by decide) z⟩⟩
      rw [ea]
      unfold DX11_workedNode_57
      rw [lk]
      refine ⟨ok29 F, 49, rf29_25 F, ok49 F, v49, ?_⟩
      rw [e49]
      exact ⟨fun z => absurd z (by decide), fun z => absurd z (by decide), fun z => absurd z (by decide), fun z => absurd z (by decide), fun z => absurd z (by decide), fun z => absurd z (by decide), fun z => absurd z (by decide), fun z => absurd z (by decide), fun _ => H0 rfl⟩
    · have ea : mAJ M 50 (810 * m + k) = Int64.ofNat v := by rw [e50]; unfold xa; rw [if_pos (by omega), hd]
      rw [ht] at e49
      unfold ndW at H0
      rw [if_neg (by omega), if_pos ht, hd] at H0
      refine ⟨ok29 F, 49, rf29_25 F, ok49 F, v49, fun z => by rw [e49] at z; exact absurd z (by decide), fun _ => ⟨50, rf29_26 F, ok50 F, v50, ok29 F, 49, rf29_25 F, ok49 F, v49, fun _ => ?_, fun z => by rw [e49] at z; exact absurd (by decide) z⟩⟩
      rw [ea]
      unfold DX11_workedNode_57
      rw [lk]
      refine ⟨ok29 F, 49, rf29_25 F, ok49 F, v49, ?_⟩
      rw [e49]
      exact ⟨fun _ => ⟨120, rf29_110 F, ok120 F, by rw [ln120 F, Int64.toInt32_ofNat']; exact vp_of hv (by decide), H0 rfl⟩, fun z => absurd z (by decide), fun z => absurd z (by decide), fun z => absurd z (by decide), fun z => absurd z (by decide), fun z => absurd z (by decide), fun z => absurd z (by decide), fun z => absurd z (by decide), fun z => absurd z (by decide)⟩
    · have ea : mAJ M 50 (810 * m + k) = Int64.ofNat v := by rw [e50]; unfold xa; rw [if_pos (by omega), hd]
      rw [ht] at e49
      unfold ndW at H0
      rw [if_neg (by omega), if_neg (by omega), if_pos ht, hd] at H0
      refine ⟨ok29 F, 49, rf29_25 F, ok49 F, v49, fun z => by rw [e49] at z; exact absurd z (by decide), fun _ => ⟨50, rf29_26 F, ok50 F, v50, ok29 F, 49, rf29_25 F, ok49 F, v49, fun _ => ?_, fun z => by rw [e49] at z; exact absurd (by decide) z⟩⟩
      rw [ea]
      unfold DX11_workedNode_57
      rw [lk]
      refine ⟨ok29 F, 49, rf29_25 F, ok49 F, v49, ?_⟩
      rw [e49]
      exact ⟨fun z => absurd z (by decide), fun _ => ⟨119, rf29_109 F, ok119 F, by rw [ln119 F, Int64.toInt32_ofNat']; exact vp_of hv (by decide), H0 rfl⟩, fun z => absurd z (by decide), fun z => absurd z (by decide), fun z => absurd z (by decide), fun z => absurd z (by decide), fun z => absurd z (by decide), fun z => absurd z (by decide), fun z => absurd z (by decide)⟩
  · have e8 := hb e (by rw [hs0]; exact List.mem_cons_self)
    have ea : mAJ M 50 (810 * m + k) = Int64.ofNat (810 * m + e) := by rw [e50]; unfold xa; rw [if_neg (by omega), hd, ← Int64.ofNat_add, Nat.add_comm]
    have le : (Int32.ofNat (810 * m + e)).toNatClampNeg = 810 * m + e := lt32 (by omega)
    unfold ndW at H0 H1
    rw [if_neg (by omega), if_neg (by omega), if_neg (by omega), ht, hd, i6n_of (by omega)] at H0 H1
    rw [ht] at e49
    refine ⟨ok29 F, 49, rf29_25 F, ok49 F, v49, fun _ => ⟨118, rf29_108 F, 50, rf29_26 F, ok50 F, v50, ok118 F, by rw [ea, Int64.toInt32_ofNat', ln118 F]; exact vp_of (by omega) (by decide), ok29 F, 49, rf29_25 F, ok49 F, v49, fun _ => ?_, fun z => by rw [e49] at z; exact absurd (by decide) z⟩, fun z => by rw [e49] at z; exact absurd (by decide) z⟩
    rw [ea, Int64.toInt32_ofNat', le]
    exact R_57 F hK e49 (by decide) (by decide) H0 H1
  · have e8 := hb e (by rw [hs0]; exact List.mem_cons_of_mem _ List.mem_cons_self)
    have a8 := hb a (by rw [hs0]; exact List.mem_cons_self)
    have ea : mAJ M 50 (810 * m + k) = Int64.ofNat (810 * m + e) := by rw [e50]; unfold xa; rw [if_neg (by omega), hd, ← Int64.ofNat_add, Nat.add_comm]
    have eb : mAI M 51 (810 * m + k) = Int32.ofNat (810 * m + a) := by rw [e51]; unfold xb; rw [if_neg (by omega), ha]
    have le : (Int32.ofNat (810 * m + e)).toNatClampNeg = 810 * m + e := lt32 (by omega)
    have la : (Int32.ofNat (810 * m + a)).toNatClampNeg = 810 * m + a := lt32 (by omega)
    have i3 : (3 : Int32) ≤ Int32.ofNat d.1 ↔ 3 ≤ d.1 := le32 (a := 3) (by decide) (by omega)
    have j3 : Int32.ofNat d.1 ≤ 3 ↔ d.1 ≤ 3 := le32 (b := 3) (by omega) (by decide)
    unfold ndW at H0 H1
    rw [if_neg (by omega), if_neg (by omega), if_neg (by omega), hd, i6n_of (by omega), ha] at H0 H1
    refine ⟨ok29 F, 49, rf29_25 F, ok49 F, v49, fun _ => ⟨118, rf29_108 F, 50, rf29_26 F, ok50 F, v50, ok118 F, by rw [ea, Int64.toInt32_ofNat', ln118 F]; exact vp_of (by omega) (by decide), ok29 F, 49, rf29_25 F, ok49 F, v49, fun z => ?_, fun _ => ⟨118, rf29_108 F, 51, rf29_27 F, ok51 F, v51, ok118 F, by rw [eb, ln118 F]; exact vp_of (by omega) (by decide), ?_⟩⟩, fun z => ?_⟩
    · rw [e49, j3] at z
      omega
    · rw [ea, Int64.toInt32_ofNat', le, eb, la]
      exact R_57 F hK e49 (by omega) (by omega) H0 H1
    · rw [e49, i3] at z
      omega
end
/-- what the reference may write: its fields fs, its rows cs, js -/
def RfF (fs cs js : Nat → Prop) (M M' : Mem) : Prop := (mN M' = mN M ∧ mS M' = mS M ∧ mK M' = mK M ∧ mL M' = mL M) ∧ (mJ M' = mJ M ∧ mR M' = mR M ∧ mAR M' = mAR M) ∧ (∀ a, a ≠ 29 → mI M' a = mI M a) ∧ (∀ f, ¬ fs f → mI M' 29 f = mI M 29 f) ∧ (∀ c, ¬ cs c → mAI M' c = mAI M c) ∧ ∀ c, ¬ js c → mAJ M' c = mAJ M c
def noP : Nat → Prop := fun _ => False
section
variable {fs cs js fs' cs' js' : Nat → Prop} {M M1 M2 M' : Mem}
theorem RfF.rf : RfF fs cs js M M := ⟨⟨rfl, rfl, rfl, rfl⟩, ⟨rfl, rfl, rfl⟩, fun _ _ => rfl, fun _ _ => rfl, fun _ _ => rfl, fun _ _ => rfl⟩
theorem RfF.tr (a : RfF fs cs js M M1) (b : RfF fs cs js M1 M2) : RfF fs cs js M M2 := by
  obtain ⟨⟨a1, a2, a3, a4⟩, ⟨a5, a6, a7⟩, a8, a9, a10, a11⟩ := a
  obtain ⟨⟨b1, b2, b3, b4⟩, ⟨b5, b6, b7⟩, b8, b9, b10, b11⟩ := b
  exact ⟨⟨b1.trans a1, b2.trans a2, b3.trans a3, b4.trans a4⟩, ⟨b5.trans a5, b6.trans a6, b7.trans a7⟩, fun a h => (b8 a h).trans (a8 a h), fun f h => (b9 f h).trans (a9 f h), fun c h => (b10 c h).trans (a10 c h), fun c h => (b11 c h).trans (a11 c h)⟩
theorem RfF.mo (a : RfF fs cs js M M') (h1 : ∀ f, fs f → fs' f) (h2 : ∀ c, cs c → cs' c) (h3 : ∀ c, js c → js' c) : RfF fs' cs' js' M M' := ⟨a.1, a.2.1, a.2.2.1, fun f h => a.2.2.2.1 f (fun z => h (h1 f z)), fun c h => a.2.2.2.2.1 c (fun z => h (h2 c z)), fun c h => a.2.2.2.2.2 c (fun z => h (h3 c z))⟩
theorem RfF.i {f : Nat} {v : Int32} (hf : fs f) (e : M' = wI M 29 f v) : RfF fs cs js M M' := by
  rw [e]
  exact ⟨⟨rfl, rfl, rfl, rfl⟩, ⟨rfl, rfl, rfl⟩, fun a h => up2_row h, fun g h => up2_ne (fun z => h (by rw [z.2]; exact hf)), fun _ _ => rfl, fun _ _ => rfl⟩
theorem RfF.ai {c k : Nat} {v : Int32} (hc : cs c) (e : M' = wAI M c k v) : RfF fs cs js M M' := by
  rw [e]
  exact ⟨⟨rfl, rfl, rfl, rfl⟩, ⟨rfl, rfl, rfl⟩, fun _ _ => rfl, fun _ _ => rfl, fun g h => up2_row (fun z => h (by rw [z]; exact hc)), fun _ _ => rfl⟩
theorem RfF.aj {c k : Nat} {v : Int64} (hc : js c) (e : M' = wAJ M c k v) : RfF fs cs js M M' := by
  rw [e]
  exact ⟨⟨rfl, rfl, rfl, rfl⟩, ⟨rfl, rfl, rfl⟩, fun _ _ => rfl, fun _ _ => rfl, fun _ _ => rfl, fun g h => up2_row (fun z => h (by rw [z]; exact hc))⟩
theorem RfF.e (h : RfF fs cs js M M') : mE M M' := ⟨by rw [h.1.1]; exact Nat.le_refl _, by rw [h.1.2.1]; exact Nat.le_refl _, fun a _ => ⟨by rw [h.1.2.2.1], by rw [h.1.2.2.2]⟩⟩
theorem RfF.fix (h : RfF fs cs js M M') (F : Fix M) (h19 : ¬ js 19) : Fix M' := F.of_fr (S := fun _ => True) h.e (fun e he => by rw [h.2.1.2.1]) (by rw [h.2.2.2.2.2 19 h19])
theorem RbF.rff (h : RbF M M') : RfF (fun f => f = 83) (fun c => 95 ≤ c ∧ c ≤ 101) noP M M' := ⟨h.1, ⟨h.2.1.1, h.2.1.2.1, h.2.1.2.2.2⟩, h.2.2.1, h.2.2.2.1, h.2.2.2.2, fun _ _ => by rw [h.2.1.2.2.1]⟩
end
/-- what working a sum writes in the reference -/
abbrev WkF (M M' : Mem) : Prop := RfF (fun f => f = 111) noP (fun c => c = 118) M M'
section
variable {M : Mem} {h m : Nat} {X : List Nd} {Q : Option Value → Mem → Prop}
theorem XR.wk {M' : Mem} (hX : XR M m X) (k : WkF M M') : XR M' m X := by
  unfold XR at hX ⊢
  rw [k.2.2.2.2.1 48 (fun z => z), k.2.2.2.2.1 49 (fun z => z), k.2.2.2.2.1 51 (fun z => z), k.2.2.2.2.2 50 (by decide)]
  exact hX
theorem R_wkE {c k : Int32} (F : Fix M) (hf : ¬ mI M 29 111 = 0) (H : Q (some (.long 0)) M) : T (h + 2) mdX11_work 2 [(0, .ref 29), (2, .int c), (3, .int k)] [] M Q := by
  have q : DX11_work_61 (h + 1) 29 c M Q := by
    unfold DX11_work_61 DX11_work_78
    exact ⟨ok29 F, fun _ => H, fun z => absurd z hf⟩
  refine VX11_work_2 ?_
  unfold DX11_work_2
  exact ⟨fun _ => q, fun _ => ⟨ok29 F, fun _ => q, fun z => absurd z hf⟩⟩
theorem R_wkL {c : Nat} (h4 : m < 4) (hl : X.length ≤ 810) (hc : c < X.length) : ∀ (n k : Nat) (s : List Nat) (M : Mem) (Q : Option Value → Mem → Prop), GdS X 40 n k s [c] → k + n = c + 1 → (∀ e ∈ s, e < k) → Fix M → XR M m X → mI M 29 111 = 0 → (∀ M', WkF M M' → mI M' 29 111 = (wkZ X (mAJ M 120) (mAJ M 119) n k (fun e => mAJ M 118 (810 * m + e))).1 → Q (some (.long (if (wkZ X (mAJ M 120) (mAJ M 119) n k (fun e => mAJ M 118 (810 * m + e))).1 = 0 then (wkZ X (mAJ M 120) (mAJ M 119) n k (fun e => mAJ M 118 (810 * m + e))).2 c else 0))) M') → T (h + 2) mdX11_work 2 [(0, .ref 29), (2, .int (Int32.ofNat (810 * m + c))), (3, .int (Int32.ofNat (810 * m + k)))] [] M Q := by
  intro n
  induction n with
  | zero =>
    intro k s M Q hg hk hb F hX hf K
    have q := K M RfF.rf (by rw [hf]; rfl)
    unfold wkZ at q
    rw [if_pos rfl] at q
    have lt : Int32.ofNat (810 * m + c) < Int32.ofNat (810 * m + k) := (ltn32 (by omega) (by omega)).mpr (by omega)
    refine VX11_work_2 ?_
    unfold DX11_work_2 DX11_work_61 DX11_work_78
    refine ⟨fun _ => ⟨ok29 F, fun z => absurd hf z, fun _ => ⟨118, rf29_108 F, ok118 F, by rw [ln118 F]; exact vp_of (by omega) (by decide), ?_⟩⟩, fun z => absurd lt z⟩
    rw [lt32 (show 810 * m + c < 2147483648 by omega)]
    exact q
  | succ n ih =>
    intro k s M Q hg hk hb F hX hf K
    obtain ⟨s', h1, h2, h3⟩ := hg
    obtain ⟨s0, e0, i0⟩ := h1.sb
    have nlt : ¬ Int32.ofNat (810 * m + c) < Int32.ofNat (810 * m + k) := fun z => by
      have := (ltn32 (a := 810 * m + c) (b := 810 * m + k) (by omega) (by omega)).mp z
      omega
    have lk : (Int32.ofNat (810 * m + k)).toNatClampNeg = 810 * m + k := lt32 (by omega)
    have v118 : vp_in (Int32.ofNat (810 * m + k)) (mL M 118) := by rw [ln118 F]; exact vp_of (by omega) (by decide)
    have upw : ∀ v : Int64, (fun e => mAJ (wAJ M 118 (810 * m + k) v) 118 (810 * m + e)) = va_up (fun e => mAJ M 118 (810 * m + e)) k v := fun v => by
      funext e
      show up2 (mAJ M) 118 (810 * m + k) v 118 (810 * m + e) = _
      by_cases z : e = k
      · rw [z, up2_eq, va_up_self]
      · rw [up2_ne (fun q => z (by omega)), va_up_ne _ _ z]
    obtain ⟨w, ew⟩ : ∃ w, w = fun e => mAJ M 118 (810 * m + e) := ⟨_, rfl⟩
    obtain ⟨d, ed⟩ : ∃ d, d = X.getD k nd0 := ⟨_, rfl⟩
    unfold wkZ at K
    rw [← ew, ← ed] at K
    refine VX11_work_2 ?_
    unfold DX11_work_2
    refine ⟨fun z => absurd z nlt, fun _ => ⟨ok29 F, fun z => absurd hf z, fun _ => ⟨118, rf29_108 F, R_wkN (h := h) F h4 hX (by omega) hl h1 (fun e he => by have := hb e he; omega) ?_ ?_⟩⟩⟩
    · rw [← ew, ← ed]
      intro n0 _
      refine ⟨_, rfl, ok118 F, v118, fun M6 e6 => ?_⟩
      rw [lk] at e6
      have k6 : WkF M M6 := RfF.aj rfl e6
      have F6 : Fix M6 := k6.fix F (by decide)
      have f6 : mI M6 29 111 = 0 := by rw [e6]; exact hf
      have u6 : mAJ M6 118 (810 * m + k) = (ndW d (mAJ M 120) (mAJ M 119) w).2 := by rw [e6]; exact up2_eq
      refine ⟨fun z => absurd f6 z, fun _ => ⟨118, rf29_108 F6, ok118 F6, by rw [ln118 F6]; exact vp_of (by omega) (by decide), ?_⟩⟩
      rw [lk, u6]
      refine S_in (h := h) (fun _ => ⟨_, rfl, fun hr => ?_, fun hr M11 e11 => ?_⟩)
      · have ir : (-1000000000 : Int64) ≤ (ndW d (mAJ M 120) (mAJ M 119) w).2 ∧ (ndW d (mAJ M 120) (mAJ M 119) w).2 ≤ 1000000000 := by
          by_cases z : (-1000000000 : Int64) ≤ (ndW d (mAJ M 120) (mAJ M 119) w).2 ∧ (ndW d (mAJ M 120) (mAJ M 119) w).2 ≤ 1000000000
          · exact z
          · rw [if_neg z] at hr; exact absurd rfl hr
        have ec : ndC d (mAJ M 120) (mAJ M 119) w = ndW d (mAJ M 120) (mAJ M 119) w := by
          unfold ndC
          rw [if_neg (fun z => z.2 ir)]
        rw [ec, if_pos n0] at K
        unfold DX11_work_55
        rw [succ32, Nat.add_assoc]
        refine ih (k + 1) s' M6 Q h3 (by omega) (fun y hy => ?_) F6 (hX.wk k6) f6 (fun M' k' e1 => ?_)
        · rw [e0] at hy
          rcases List.mem_cons.mp hy with q | q
          · omega
          · have := hb y (i0 y q); omega
        · rw [k6.2.2.2.2.2 120 (by decide), k6.2.2.2.2.2 119 (by decide)] at e1 ⊢
          have e9 : (fun e => mAJ M6 118 (810 * m + e)) = va_up w k (ndW d (mAJ M 120) (mAJ M 119) w).2 := by rw [e6, upw, ew]
          rw [e9] at e1 ⊢
          exact K M' (k6.tr k') e1
      · have ir : ¬ ((-1000000000 : Int64) ≤ (ndW d (mAJ M 120) (mAJ M 119) w).2 ∧ (ndW d (mAJ M 120) (mAJ M 119) w).2 ≤ 1000000000) := fun z => by
          rw [if_pos z] at hr; exact absurd hr (by decide)
        have ec : ndC d (mAJ M 120) (mAJ M 119) w = (2, (ndW d (mAJ M 120) (mAJ M 119) w).2) := by
          unfold ndC
          rw [if_pos ⟨n0, ir⟩]
        rw [ec, if_neg (show ¬ (2 : Int32) = 0 by decide), if_neg (show ¬ (2 : Int32) = 0 by decide)] at K
        have k11 : WkF M6 M11 := RfF.i rfl e11
        have f11 : mI M11 29 111 = 2 := by rw [e11, mI_wI, if_pos ⟨rfl, rfl⟩]
        unfold DX11_work_55
        exact R_wkE (k11.fix F6 (by decide)) (by rw [f11]; decide) (K M11 (k6.tr k11) f11)
    · rw [← ew, ← ed]
      intro n0 _
      have n1 := (ndW_1 (d := d) (vr := mAJ M 120) (sg := mAJ M 119) (w := w)).resolve_left n0
      have ec : ndC d (mAJ M 120) (mAJ M 119) w = (1, 0) := by
        unfold ndC
        rw [if_neg (fun z => n0 z.1), n1]
      rw [ec, if_neg (show ¬ (1 : Int32) = 0 by decide), if_neg (show ¬ (1 : Int32) = 0 by decide)] at K
      obtain ⟨M3, e3⟩ : ∃ z, z = wI M 29 111 1 := ⟨_, rfl⟩
      rw [← e3]
      have k3 : WkF M M3 := RfF.i rfl e3
      have F3 : Fix M3 := k3.fix F (by decide)
      refine ⟨0, rfl, ok118 F3, by rw [ln118 F3]; exact vp_of (by omega) (by decide), fun M6 e6 => ?_⟩
      have k6 : WkF M3 M6 := RfF.aj rfl e6
      have f6 : mI M6 29 111 = 1 := by
        rw [e6]
        show mI M3 29 111 = 1
        rw [e3, mI_wI, if_pos ⟨rfl, rfl⟩]
      have nz : ¬ mI M6 29 111 = 0 := by rw [f6]; decide
      unfold DX11_work_55
      exact ⟨fun _ => R_wkE (k6.fix F3 (by decide)) nz (K M6 (k3.tr k6) f6), fun z => absurd z nz⟩
/-- a sum is worked by the reference -/
theorem R_work {f c : Nat} (h4 : m < 4) (hl : X.length ≤ 810) (hc : f ≤ c ∧ c < X.length) (hg : GdS X 40 (c + 1 - f) f [] [c]) (F : Fix M) (hX : XR M m X) (hf : mI M 29 111 = 0) (K : ∀ M', WkF M M' → mI M' 29 111 = (smV X (mAJ M 120) (mAJ M 119) f c).1 → Q (some (.long (smV X (mAJ M 120) (mAJ M 119) f c).2)) M') : E (h + 3) mdX11_work [.ref 29, .int (Int32.ofNat (810 * m + f)), .int (Int32.ofNat (810 * m + c))] M Q := by
  refine KX11_work ?_
  unfold DX11_work_0
  refine R_wkL (h := h + 1) h4 hl hc.2 (c + 1 - f) f [] M Q hg (by omega) (fun e he => absurd he List.not_mem_nil) F hX hf (fun M' k e1 => ?_)
  obtain ⟨i1, i2⟩ := wk_ind (X := X) (vr := mAJ M 120) (sg := mAJ M 119) (c + 1 - f) f [] [c] (fun e => mAJ M 118 (810 * m + e)) (fun _ => 0) hg (by omega) (fun e he => absurd he List.not_mem_nil) (fun e he => absurd he List.not_mem_nil)
  have q := K M' k (by rw [e1, i1]; rfl)
  unfold smV at q
  rw [← i1] at q
  by_cases z : (wkZ X (mAJ M 120) (mAJ M 119) (c + 1 - f) f (fun e => mAJ M 118 (810 * m + e))).1 = 0
  · rw [if_pos z] at q ⊢
    rw [i2 z c List.mem_cons_self]
    exact q
  · rw [if_neg z] at q ⊢
    exact q
/-- one that has failed is not worked on -/
theorem R_workX {f c : Int32} (F : Fix M) (hf : ¬ mI M 29 111 = 0) (K : Q (some (.long 0)) M) : E (h + 3) mdX11_work [.ref 29, .int f, .int c] M Q := by
  refine KX11_work ?_
  unfold DX11_work_0
  exact R_wkE F hf K
end
