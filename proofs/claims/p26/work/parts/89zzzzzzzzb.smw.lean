section
/-! a sum is worked: what its nodes come to; the reference -/
def i6n (x : Int64) : Nat := x.toInt32.toNatClampNeg
theorem i6n_of {e : Nat} (h : e < 2147483648) : i6n (Int64.ofNat e) = e := by
  unfold i6n
  rw [Int64.toInt32_ofNat']
  exact lt32 h
def opWk (t : Nat) (a c : Int64) : Int32 × Int64 := if t = 3 then (0, -a) else if t = 4 then (0, a * c) else if t = 5 then (if c = 0 then (1, 0) else (0, a / c)) else if t = 6 then (if c = 0 then (1, 0) else (0, a - a / c * c)) else if t = 7 then (0, a + c) else (0, a - c)
/-- what a node comes to: 0 and its number, or why it can't be worked -/
def ndW (d : Nd) (vr sg w : Nat → Int64) : Int32 × Int64 := if d.1 = 0 then (0, d.2.1) else if d.1 = 1 then (0, vr (i6n d.2.1)) else if d.1 = 2 then (0, sg (i6n d.2.1)) else opWk d.1 (w (i6n d.2.1)) (w d.2.2)
def ndC (d : Nd) (vr sg w : Nat → Int64) : Int32 × Int64 := if (ndW d vr sg w).1 = 0 ∧ ¬ ((-1000000000 : Int64) ≤ (ndW d vr sg w).2 ∧ (ndW d vr sg w).2 ≤ 1000000000) then (2, (ndW d vr sg w).2) else ndW d vr sg w
/-- n nodes from k on -/
def wkZ (X : List Nd) (vr sg : Nat → Int64) : Nat → Nat → (Nat → Int64) → Int32 × (Nat → Int64)
  | 0, _, w => (0, w)
  | n + 1, k, w => if (ndC (X.getD k nd0) vr sg w).1 = 0 then wkZ X vr sg n (k + 1) (va_up w k (ndC (X.getD k nd0) vr sg w).2) else ((ndC (X.getD k nd0) vr sg w).1, va_up w k (ndC (X.getD k nd0) vr sg w).2)
/-- a sum: why it can't be worked, its number -/
def smV (X : List Nd) (vr sg : Nat → Int64) (f c : Nat) : Int32 × Int64 := ((wkZ X vr sg (c + 1 - f) f (fun _ => 0)).1, if (wkZ X vr sg (c + 1 - f) f (fun _ => 0)).1 = 0 then (wkZ X vr sg (c + 1 - f) f (fun _ => 0)).2 c else 0)
section
variable {X : List Nd} {vr sg w w' : Nat → Int64} {k n : Nat} {s t : List Nat}
theorem opWk_1 {t : Nat} {a c : Int64} : (opWk t a c).1 = 0 ∨ opWk t a c = (1, 0) := by
  unfold opWk
  by_cases h3 : t = 3
  · rw [if_pos h3]; exact Or.inl rfl
  rw [if_neg h3]
  by_cases h4 : t = 4
  · rw [if_pos h4]; exact Or.inl rfl
  rw [if_neg h4]
  by_cases hc : c = 0
  · rw [if_pos hc, if_pos hc]
    by_cases h5 : t = 5
    · rw [if_pos h5]; exact Or.inr rfl
    rw [if_neg h5]
    by_cases h6 : t = 6
    · rw [if_pos h6]; exact Or.inr rfl
    rw [if_neg h6]
    by_cases h7 : t = 7
    · rw [if_pos h7]; exact Or.inl rfl
    rw [if_neg h7]; exact Or.inl rfl
  · rw [if_neg hc, if_neg hc]
    by_cases h5 : t = 5
    · rw [if_pos h5]; exact Or.inl rfl
    rw [if_neg h5]
    by_cases h6 : t = 6
    · rw [if_pos h6]; exact Or.inl rfl
    rw [if_neg h6]
    by_cases h7 : t = 7
    · rw [if_pos h7]; exact Or.inl rfl
    rw [if_neg h7]; exact Or.inl rfl
theorem ndW_1 {d : Nd} : (ndW d vr sg w).1 = 0 ∨ ndW d vr sg w = (1, 0) := by
  unfold ndW
  by_cases h0 : d.1 = 0
  · rw [if_pos h0]; exact Or.inl rfl
  rw [if_neg h0]
  by_cases h1 : d.1 = 1
  · rw [if_pos h1]; exact Or.inl rfl
  rw [if_neg h1]
  by_cases h2 : d.1 = 2
  · rw [if_pos h2]; exact Or.inl rfl
  rw [if_neg h2]
  exact opWk_1
theorem SpN.ix (h : SpN X k s t) : (X.getD k nd0).1 ≤ 8 := by
  rcases h with ⟨h | h | h, -⟩ | ⟨h, -⟩ | ⟨h, -⟩ <;> omega
/-- a node sees only what stands on the stack -/
theorem SpN.nd (h : SpN X k s t) (hb : ∀ e ∈ s, e < 2147483648) (hw : ∀ e ∈ s, w e = w' e) : ndW (X.getD k nd0) vr sg w = ndW (X.getD k nd0) vr sg w' := by
  unfold ndW
  rcases h with ⟨⟨h, -⟩ | ⟨h, -⟩ | ⟨h, -⟩, -⟩ | ⟨h, e, s0, hs, he, -⟩ | ⟨h, a, e, s0, hs, he, ha, -⟩
  · rw [if_pos h, if_pos h]
  · rw [if_neg (by omega), if_pos h, if_neg (by omega), if_pos h]
  · rw [if_neg (by omega), if_neg (by omega), if_pos h, if_neg (by omega), if_neg (by omega), if_pos h]
  · have i : e ∈ s := by rw [hs]; exact List.mem_cons_self
    rw [if_neg (by omega), if_neg (by omega), if_neg (by omega), if_neg (by omega), if_neg (by omega), if_neg (by omega), h, he, i6n_of (hb e i), hw e i]
    rfl
  · have i : e ∈ s := by rw [hs]; exact List.mem_cons_of_mem _ List.mem_cons_self
    have j : a ∈ s := by rw [hs]; exact List.mem_cons_self
    rw [if_neg (by omega), if_neg (by omega), if_neg (by omega), if_neg (by omega), if_neg (by omega), if_neg (by omega), he, i6n_of (hb e i), hw e i, ha, hw a j]
theorem SpN.sb (h : SpN X k s t) : ∃ s0, t = k :: s0 ∧ ∀ e ∈ s0, e ∈ s := by
  rcases h with ⟨-, e⟩ | ⟨-, e, s0, hs, -, ht⟩ | ⟨-, a, e, s0, hs, -, -, ht⟩
  · exact ⟨s, e, fun e he => he⟩
  · exact ⟨s0, ht, fun y hy => by rw [hs]; exact List.mem_cons_of_mem _ hy⟩
  · exact ⟨s0, ht, fun y hy => by rw [hs]; exact List.mem_cons_of_mem _ (List.mem_cons_of_mem _ hy)⟩
theorem ndC_cg {d : Nd} (h : ndW d vr sg w = ndW d vr sg w') : ndC d vr sg w = ndC d vr sg w' := by
  unfold ndC
  rw [h]
theorem wk_ind {D : Nat} : ∀ (n k : Nat) (s t : List Nat) (w w' : Nat → Int64), GdS X D n k s t → k + n ≤ 2147483648 → (∀ e ∈ s, e < k) → (∀ e ∈ s, w e = w' e) → (wkZ X vr sg n k w).1 = (wkZ X vr sg n k w').1 ∧ ((wkZ X vr sg n k w).1 = 0 → ∀ e ∈ t, (wkZ X vr sg n k w).2 e = (wkZ X vr sg n k w').2 e)
  | 0, k, s, t, w, w', hg, _, _, hw => by
    have hg : s = t := hg
    exact ⟨rfl, fun _ e he => hw e (by rw [hg]; exact he)⟩
  | n + 1, k, s, t, w, w', ⟨s', h1, h2, h3⟩, hn, hb, hw => by
    have e := ndC_cg (h1.nd (vr := vr) (sg := sg) (fun e he => by have := hb e he; omega) hw)
    obtain ⟨s0, e0, i0⟩ := h1.sb
    unfold wkZ
    rw [← e]
    by_cases z : (ndC (X.getD k nd0) vr sg w).1 = 0
    · rw [if_pos z, if_pos z]
      refine wk_ind n (k + 1) s' t _ _ h3 (by omega) (fun y hy => ?_) (fun y hy => ?_)
      · rw [e0] at hy
        rcases List.mem_cons.mp hy with q | q
        · omega
        · have := hb y (i0 y q); omega
      · rw [e0] at hy
        rcases List.mem_cons.mp hy with q | q
        · rw [q, va_up_self, va_up_self]
        · have := hb y (i0 y q)
          rw [va_up_ne _ _ (by omega), va_up_ne _ _ (by omega)]
          exact hw y (i0 y q)
    · rw [if_neg z, if_neg z]
      exact ⟨rfl, fun q => absurd q z⟩
end
section
variable {M : Mem} {h m : Nat} {X : List Nd} {Q : Option Value → Mem → Prop}
theorem R_57 {K t : Nat} {a c : Int64} (F : Fix M) (hK : K < 3240) (e : mAI M 49 K = Int32.ofNat t) (h3 : 3 ≤ t) (h8 : t ≤ 8) (H0 : (opWk t a c).1 = 0 → Q (some (.long (opWk t a c).2)) M) (H1 : ¬ (opWk t a c).1 = 0 → Q (some (.long 0)) (wI M 29 111 1)) : DX11_workedNode_57 h 29 (Int32.ofNat K) a c M Q := by
  have vK : vp_in (Int32.ofNat K) (mL M 49) := by rw [ln49 F]; exact vp_of hK (by decide)
  unfold DX11_workedNode_57 DX11_workedNode_171
  rw [lt32 (show K < 2147483648 by omega)]
  refine ⟨ok29 F, 49, rf29_25 F, ok49 F, vK, ?_⟩
  have ht : t = 3 ∨ t = 4 ∨ t = 5 ∨ t = 6 ∨ t = 7 ∨ t = 8 := by omega
  rcases ht with rfl | rfl | rfl | rfl | rfl | rfl
  · rw [e]
    exact ⟨fun z => absurd z (by decide), fun z => absurd z (by decide), fun _ => H0 rfl, fun z => absurd z (by decide), fun z => absurd z (by decide), fun z => absurd z (by decide), fun z => absurd z (by decide), fun z => absurd z (by decide), fun z => absurd z (by decide)⟩
  · rw [e]
    exact ⟨fun z => absurd z (by decide), fun z => absurd z (by decide), fun z => absurd z (by decide), fun _ => H0 rfl, fun z => absurd z (by decide), fun z => absurd z (by decide), fun z => absurd z (by decide), fun z => absurd z (by decide), fun z => absurd z (by decide)⟩
  · unfold opWk at H0 H1
    rw [if_neg (by decide), if_neg (by decide), if_pos rfl] at H0 H1
    refine ⟨fun z => by rw [e] at z; exact absurd z (by decide), fun z => by rw [e] at z; exact absurd z (by decide), fun z => by rw [e] at z; exact absurd z (by decide), fun z => by rw [e] at z; exact absurd z (by decide), fun _ => ⟨fun z => ?_, fun z M10 e10 => ?_⟩, fun z => by rw [e] at z; exact absurd z (by decide), fun z => by rw [e] at z; exact absurd z (by decide), fun z => by rw [e] at z; exact absurd z (by decide), fun z => by rw [e] at z; exact absurd z (by decide)⟩
    · rw [lgz] at z
      rw [if_neg z] at H0
      exact ⟨49, rf29_25 F, ok49 F, vK, fun y => absurd e y, fun _ => ⟨z, H0 rfl⟩⟩
    · rw [lgz] at z
      rw [if_pos z] at H1
      rw [e10]
      exact H1 (by decide)
  · unfold opWk at H0 H1
    rw [if_neg (by decide), if_neg (by decide), if_neg (by decide), if_pos rfl] at H0 H1
    refine ⟨fun z => by rw [e] at z; exact absurd z (by decide), fun z => by rw [e] at z; exact absurd z (by decide), fun z => by rw [e] at z; exact absurd z (by decide), fun z => by rw [e] at z; exact absurd z (by decide), fun z => by rw [e] at z; exact absurd z (by decide), fun _ => ⟨fun z => ?_, fun z M10 e10 => ?_⟩, fun z => by rw [e] at z; exact absurd z (by decide), fun z => by rw [e] at z; exact absurd z (by decide), fun z => by rw [e] at z; exact absurd z (by decide)⟩
    · rw [lgz] at z
      rw [if_neg z] at H0
      exact ⟨49, rf29_25 F, ok49 F, vK, fun _ => ⟨z, H0 rfl⟩, fun y => by rw [e] at y; exact absurd y (by decide)⟩
    · rw [lgz] at z
      rw [if_pos z] at H1
      rw [e10]
      exact H1 (by decide)
  · rw [e]
    exact ⟨fun z => absurd z (by decide), fun z => absurd z (by decide), fun z => absurd z (by decide), fun z => absurd z (by decide), fun z => absurd z (by decide), fun z => absurd z (by decide), fun _ => H0 rfl, fun z => absurd z (by decide), fun z => absurd z (by decide)⟩
  · rw [e]
    exact ⟨fun z => absurd z (by decide), fun z => absurd z (by decide), fun z => absurd z (by decide), fun z => absurd z (by decide), fun z => absurd z (by decide), fun z => absurd z (by decide), fun z => absurd z (by decide), fun _ => H0 rfl, fun z => absurd z (by decide)⟩
theorem R_wkN {k : Nat} {s s' : List Nat} (F : Fix M) (h4 : m < 4) (hX : XR M m X) (hk : k < X.length) (hl : X.length ≤ 810) (hs : SpN X k s s') (hb : ∀ e ∈ s, e < 810) (H0 : (ndW (X.getD k nd0) (mAJ M 120) (mAJ M 119) (fun e => mAJ M 118 (810 * m + e))).1 = 0 → Q (some (.long (ndW (X.getD k nd0) (mAJ M 120) (mAJ M 119) (fun e => mAJ M 118 (810 * m + e))).2)) M) (H1 : ¬ (ndW (X.getD k nd0) (mAJ M 120) (mAJ M 119) (fun e => mAJ M 118 (810 * m + e))).1 = 0 → Q (some (.long 0)) (wI M 29 111 1)) : E (h + 1) mdX11_workedNode [.ref 29, .int (Int32.ofNat (810 * m + k))] M Q := by
  obtain ⟨e49, e50, e51⟩ := hX.2 k hk
  have hK : 810 * m + k < 3240 := by omega
  have v49 : vp_in (Int32.ofNat (810 * m + k)) (mL M 49) := by rw [ln49 F]; exact vp_of hK (by decide)
  have v50 : vp_in (Int32.ofNat (810 * m + k)) (mL M 50) := by rw [ln50 F]; exact vp_of hK (by decide)
  have v51 : vp_in (Int32.ofNat (810 * m + k)) (mL M 51) := by rw [ln51 F]; exact vp_of hK (by decide)
  have lk : (Int32.ofNat (810 * m + k)).toNatClampNeg = 810 * m + k := lt32 (by omega)
  have t8 := hs.ix
  unfold SpN KdN at hs
  generalize X.getD k nd0 = d at *
  refine KX11_workedNode ?_
  unfold DX11_workedNode_0 DX11_workedNode_31
  rw [lk]
  rcases hs with ⟨hkd, -⟩ | ⟨ht, e, s0, hs0, hd, -⟩ | ⟨ht, a, e, s0, hs0, hd, ha, -⟩
  · rcases hkd with ⟨ht, v, hv, hd⟩ | ⟨ht, v, hv, hd⟩ | ⟨ht, v, hv, hd⟩
    · have ea : mAJ M 50 (810 * m + k) = Int64.ofNat v := by rw [e50]; unfold xa; rw [if_pos (by omega), hd]
      rw [ht] at e49
      unfold ndW at H0
      rw [if_pos ht, hd] at H0
      refine ⟨ok29 F, 49, rf29_25 F, ok49 F, v49, fun z => by rw [e49] at z; exact absurd z (by decide), fun _ => ⟨50, rf29_26 F, ok50 F, v50, ok29 F, 49, rf29_25 F, ok49 F, v49, fun _ => ?_, fun z => by rw [e49] at z; exact absurd (by decide) z⟩⟩
      rw [ea]
      unfold DX11_workedNode_57
      rw [lk]
      refine ⟨ok29 F, 49, rf29_25 F, ok49 F, v49, ?_⟩
      rw [e49]
      exact ⟨fun z => absurd z (by decide), fun z => absurd z (by decide), fun z => absurd z (by decide), fun z => absurd z (by decide), fun z => absurd z (by decide), fun z => absurd z (by decide), fun z => absurd z (by decide), fun z => absurd z (by decide), fun _ => H0 rfl⟩
    · have ea : mAJ M 50 (810 * m + k) = Int64.ofNat v := by rw [e50]; unfold xa; rw [if_pos (by omega), hd]
      rw [ht] at e49
      unfold ndW at H0
      rw [if_neg (by omega), if_pos ht, hd] at H0
      refine ⟨ok29 F, 49, rf29_25 F, ok49 F, v49, fun z => by rw [e49] at z; exact absurd z (by decide), fun _ => ⟨50, rf29_26 F, ok50 F, v50, ok29 F, 49, rf29_25 F, ok49 F, v49, fun _ => ?_, fun z => by rw [e49] at z; exact absurd (by decide) z⟩⟩
      rw [ea]
      unfold DX11_workedNode_57
      rw [lk]
      refine ⟨ok29 F, 49, rf29_25 F, ok49 F, v49, ?_⟩
      rw [e49]
      exact ⟨fun _ => ⟨120, rf29_110 F, ok120 F, by rw [ln120 F, Int64.toInt32_ofNat']; exact vp_of hv (by decide), H0 rfl⟩, fun z => absurd z (by decide), fun z => absurd z (by decide), fun z => absurd z (by decide), fun z => absurd z (by decide), fun z => absurd z (by decide), fun z => absurd z (by decide), fun z => absurd z (by decide), fun z => absurd z (by decide)⟩
    · have ea : mAJ M 50 (810 * m + k) = Int64.ofNat v := by rw [e50]; unfold xa; rw [if_pos (by omega), hd]
      rw [ht] at e49
      unfold ndW at H0
      rw [if_neg (by omega), if_neg (by omega), if_pos ht, hd] at H0
      refine ⟨ok29 F, 49, rf29_25 F, ok49 F, v49, fun z => by rw [e49] at z; exact absurd z (by decide), fun _ => ⟨50, rf29_26 F, ok50 F, v50, ok29 F, 49, rf29_25 F, ok49 F, v49, fun _ => ?_, fun z => by rw [e49] at z; exact absurd (by decide) z⟩⟩
      rw [ea]
      unfold DX11_workedNode_57
      rw [lk]
      refine ⟨ok29 F, 49, rf29_25 F, ok49 F, v49, ?_⟩
      rw [e49]
      exact ⟨fun z => absurd z (by decide), fun _ => ⟨119, rf29_109 F, ok119 F, by rw [ln119 F, Int64.toInt32_ofNat']; exact vp_of hv (by decide), H0 rfl⟩, fun z => absurd z (by decide), fun z => absurd z (by decide), fun z => absurd z (by decide), fun z => absurd z (by decide), fun z => absurd z (by decide), fun z => absurd z (by decide), fun z => absurd z (by decide)⟩
  · have e8 := hb e (by rw [hs0]; exact List.mem_cons_self)
    have ea : mAJ M 50 (810 * m + k) = Int64.ofNat (810 * m + e) := by rw [e50]; unfold xa; rw [if_neg (by omega), hd, ← Int64.ofNat_add, Nat.add_comm]
    have le : (Int32.ofNat (810 * m + e)).toNatClampNeg = 810 * m + e := lt32 (by omega)
    unfold ndW at H0 H1
    rw [if_neg (by omega), if_neg (by omega), if_neg (by omega), ht, hd, i6n_of (by omega)] at H0 H1
    rw [ht] at e49
    refine ⟨ok29 F, 49, rf29_25 F, ok49 F, v49, fun _ => ⟨118, rf29_108 F, 50, rf29_26 F, ok50 F, v50, ok118 F, by rw [ea, Int64.toInt32_ofNat', ln118 F]; exact vp_of (by omega) (by decide), ok29 F, 49, rf29_25 F, ok49 F, v49, fun _ => ?_, fun z => by rw [e49] at z; exact absurd (by decide) z⟩, fun z => by rw [e49] at z; exact absurd (by decide) z⟩
    rw [ea, Int64.toInt32_ofNat', le]
    exact R_57 F hK e49 (by decide) (by decide) H0 H1
  · have e8 := hb e (by rw [hs0]; exact List.mem_cons_of_mem _ List.mem_cons_self)
    have a8 := hb a (by rw [hs0]; exact List.mem_cons_self)
    have ea : mAJ M 50 (810 * m + k) = Int64.ofNat (810 * m + e) := by rw [e50]; unfold xa; rw [if_neg (by omega), hd, ← Int64.ofNat_add, Nat.add_comm]
    have eb : mAI M 51 (810 * m + k) = Int32.ofNat (810 * m + a) := by rw [e51]; unfold xb; rw [if_neg (by omega), ha]
    have le : (Int32.ofNat (810 * m + e)).toNatClampNeg = 810 * m + e := lt32 (by omega)
    have la : (Int32.ofNat (810 * m + a)).toNatClampNeg = 810 * m + a := lt32 (by omega)
    have i3 : (3 : Int32) ≤ Int32.ofNat d.1 ↔ 3 ≤ d.1 := le32 (a := 3) (by decide) (by omega)
    have j3 : Int32.ofNat d.1 ≤ 3 ↔ d.1 ≤ 3 := le32 (b := 3) (by omega) (by decide)
    unfold ndW at H0 H1
    rw [if_neg (by omega), if_neg (by omega), if_neg (by omega), hd, i6n_of (by omega), ha] at H0 H1
    refine ⟨ok29 F, 49, rf29_25 F, ok49 F, v49, fun _ => ⟨118, rf29_108 F, 50, rf29_26 F, ok50 F, v50, ok118 F, by rw [ea, Int64.toInt32_ofNat', ln118 F]; exact vp_of (by omega) (by decide), ok29 F, 49, rf29_25 F, ok49 F, v49, fun z => ?_, fun _ => ⟨118, rf29_108 F, 51, rf29_27 F, ok51 F, v51, ok118 F, by rw [eb, ln118 F]; exact vp_of (by omega) (by decide), ?_⟩⟩, fun z => ?_⟩
    · rw [e49, j3] at z
      omega
    · rw [ea, Int64.toInt32_ofNat', le, eb, la]
      exact R_57 F hK e49 (by omega) (by omega) H0 H1
    · rw [e49, i3] at z
      omega
end
/-- what the reference may write: its fields fs, its rows cs, js -/
def RfF (fs cs js : Nat → Prop) (M M' : Mem) : Prop := (mN M' = mN M ∧ mS M' = mS M ∧ mK M' = mK M ∧ mL M' = mL M) ∧ (mJ M' = mJ M ∧ mR M' = mR M ∧ mAR M' = mAR M) ∧ (∀ a, a ≠ 29 → mI M' a = mI M a) ∧ (∀ f, ¬ fs f → mI M' 29 f = mI M 29 f) ∧ (∀ c, ¬ cs c → mAI M' c = mAI M c) ∧ ∀ c, ¬ js c → mAJ M' c = mAJ M c
def noP : Nat → Prop := fun _ => False
section
variable {fs cs js fs' cs' js' : Nat → Prop} {M M1 M2 M' : Mem}
theorem RfF.rf : RfF fs cs js M M := ⟨⟨rfl, rfl, rfl, rfl⟩, ⟨rfl, rfl, rfl⟩, fun _ _ => rfl, fun _ _ => rfl, fun _ _ => rfl, fun _ _ => rfl⟩
theorem RfF.tr (a : RfF fs cs js M M1) (b : RfF fs cs js M1 M2) : RfF fs cs js M M2 := by
  obtain ⟨⟨a1, a2, a3, a4⟩, ⟨a5, a6, a7⟩, a8, a9, a10, a11⟩ := a
  obtain ⟨⟨b1, b2, b3, b4⟩, ⟨b5, b6, b7⟩, b8, b9, b10, b11⟩ := b
  exact ⟨⟨b1.trans a1, b2.trans a2, b3.trans a3, b4.trans a4⟩, ⟨b5.trans a5, b6.trans a6, b7.trans a7⟩, fun a h => (b8 a h).trans (a8 a h), fun f h => (b9 f h).trans (a9 f h), fun c h => (b10 c h).trans (a10 c h), fun c h => (b11 c h).trans (a11 c h)⟩
theorem RfF.mo (a : RfF fs cs js M M') (h1 : ∀ f, fs f → fs' f) (h2 : ∀ c, cs c → cs' c) (h3 : ∀ c, js c → js' c) : RfF fs' cs' js' M M' := ⟨a.1, a.2.1, a.2.2.1, fun f h => a.2.2.2.1 f (fun z => h (h1 f z)), fun c h => a.2.2.2.2.1 c (fun z => h (h2 c z)), fun c h => a.2.2.2.2.2 c (fun z => h (h3 c z))⟩
theorem RfF.i {f : Nat} {v : Int32} (hf : fs f) (e : M' = wI M 29 f v) : RfF fs cs js M M' := by
  rw [e]
  exact ⟨⟨rfl, rfl, rfl, rfl⟩, ⟨rfl, rfl, rfl⟩, fun a h => up2_row h, fun g h => up2_ne (fun z => h (by rw [z.2]; exact hf)), fun _ _ => rfl, fun _ _ => rfl⟩
theorem RfF.ai {c k : Nat} {v : Int32} (hc : cs c) (e : M' = wAI M c k v) : RfF fs cs js M M' := by
  rw [e]
  exact ⟨⟨rfl, rfl, rfl, rfl⟩, ⟨rfl, rfl, rfl⟩, fun _ _ => rfl, fun _ _ => rfl, fun g h => up2_row (fun z => h (by rw [z]; exact hc)), fun _ _ => rfl⟩
theorem RfF.aj {c k : Nat} {v : Int64} (hc : js c) (e : M' = wAJ M c k v) : RfF fs cs js M M' := by
  rw [e]
  exact ⟨⟨rfl, rfl, rfl, rfl⟩, ⟨rfl, rfl, rfl⟩, fun _ _ => rfl, fun _ _ => rfl, fun _ _ => rfl, fun g h => up2_row (fun z => h (by rw [z]; exact hc))⟩
theorem RfF.e (h : RfF fs cs js M M') : mE M M' := ⟨by rw [h.1.1]; exact Nat.le_refl _, by rw [h.1.2.1]; exact Nat.le_refl _, fun a _ => ⟨by rw [h.1.2.2.1], by rw [h.1.2.2.2]⟩⟩
theorem RfF.fix (h : RfF fs cs js M M') (F : Fix M) (h19 : ¬ js 19) : Fix M' := F.of_fr (S := fun _ => True) h.e (fun e he => by rw [h.2.1.2.1]) (by rw [h.2.2.2.2.2 19 h19])
theorem RbF.rff (h : RbF M M') : RfF (fun f => f = 83) (fun c => 95 ≤ c ∧ c ≤ 101) noP M M' := ⟨h.1, ⟨h.2.1.1, h.2.1.2.1, h.2.1.2.2.2⟩, h.2.2.1, h.2.2.2.1, h.2.2.2.2, fun _ _ => by rw [h.2.1.2.2.1]⟩
end
/-- what working a sum writes in the reference -/
abbrev WkF (M M' : Mem) : Prop := RfF (fun f => f = 111) noP (fun c => c = 118) M M'
section
variable {M : Mem} {h m : Nat} {X : List Nd} {Q : Option Value → Mem → Prop}
theorem XR.wk {M' : Mem} (hX : XR M m X) (k : WkF M M') : XR M' m X := by
  unfold XR at hX ⊢
  rw [k.2.2.2.2.1 48 (fun z => z), k.2.2.2.2.1 49 (fun z => z), k.2.2.2.2.1 51 (fun z => z), k.2.2.2.2.2 50 (by decide)]
  exact hX
theorem R_wkE {c k : Int32} (F : Fix M) (hf : ¬ mI M 29 111 = 0) (H : Q (some (.long 0)) M) : T (h + 2) mdX11_work 2 [(0, .ref 29), (2, .int c), (3, .int k)] [] M Q := by
  have q : DX11_work_61 (h + 1) 29 c M Q := by
    unfold DX11_work_61 DX11_work_78
    exact ⟨ok29 F, fun _ => H, fun z => absurd z hf⟩
  refine VX11_work_2 ?_
  unfold DX11_work_2
  exact ⟨fun _ => q, fun _ => ⟨ok29 F, fun _ => q, fun z => absurd z hf⟩⟩
theorem R_wkL {c : Nat} (h4 : m < 4) (hl : X.length ≤ 810) (hc : c < X.length) : ∀ (n k : Nat) (s : List Nat) (M : Mem) (Q : Option Value → Mem → Prop), GdS X 40 n k s [c] → k + n = c + 1 → (∀ e ∈ s, e < k) → Fix M → XR M m X → mI M 29 111 = 0 → (∀ M', WkF M M' → mI M' 29 111 = (wkZ X (mAJ M 120) (mAJ M 119) n k (fun e => mAJ M 118 (810 * m + e))).1 → Q (some (.long (if (wkZ X (mAJ M 120) (mAJ M 119) n k (fun e => mAJ M 118 (810 * m + e))).1 = 0 then (wkZ X (mAJ M 120) (mAJ M 119) n k (fun e => mAJ M 118 (810 * m + e))).2 c else 0))) M') → T (h + 2) mdX11_work 2 [(0, .ref 29), (2, .int (Int32.ofNat (810 * m + c))), (3, .int (Int32.ofNat (810 * m + k)))] [] M Q := by
  intro n
  induction n with
  | zero =>
    intro k s M Q hg hk hb F hX hf K
    have q := K M RfF.rf (by rw [hf]; rfl)
    unfold wkZ at q
    rw [if_pos rfl] at q
    have lt : Int32.ofNat (810 * m + c) < Int32.ofNat (810 * m + k) := (ltn32 (by omega) (by omega)).mpr (by omega)
    refine VX11_work_2 ?_
    unfold DX11_work_2 DX11_work_61 DX11_work_78
    refine ⟨fun _ => ⟨ok29 F, fun z => absurd hf z, fun _ => ⟨118, rf29_108 F, ok118 F, by rw [ln118 F]; exact vp_of (by omega) (by decide), ?_⟩⟩, fun z => absurd lt z⟩
    rw [lt32 (show 810 * m + c < 2147483648 by omega)]
    exact q
  | succ n ih =>
    intro k s M Q hg hk hb F hX hf K
    obtain ⟨s', h1, h2, h3⟩ := hg
    obtain ⟨s0, e0, i0⟩ := h1.sb
    have nlt : ¬ Int32.ofNat (810 * m + c) < Int32.ofNat (810 * m + k) := fun z => by
      have := (ltn32 (a := 810 * m + c) (b := 810 * m + k) (by omega) (by omega)).mp z
      omega
    have lk : (Int32.ofNat (810 * m + k)).toNatClampNeg = 810 * m + k := lt32 (by omega)
    have v118 : vp_in (Int32.ofNat (810 * m + k)) (mL M 118) := by rw [ln118 F]; exact vp_of (by omega) (by decide)
    have upw : ∀ v : Int64, (fun e => mAJ (wAJ M 118 (810 * m + k) v) 118 (810 * m + e)) = va_up (fun e => mAJ M 118 (810 * m + e)) k v := fun v => by
      funext e
      show up2 (mAJ M) 118 (810 * m + k) v 118 (810 * m + e) = _
      by_cases z : e = k
      · rw [z, up2_eq, va_up_self]
      · rw [up2_ne (fun q => z (by omega)), va_up_ne _ _ z]
    obtain ⟨w, ew⟩ : ∃ w, w = fun e => mAJ M 118 (810 * m + e) := ⟨_, rfl⟩
    obtain ⟨d, ed⟩ : ∃ d, d = X.getD k nd0 := ⟨_, rfl⟩
    unfold wkZ at K
    rw [← ew, ← ed] at K
    refine VX11_work_2 ?_
    unfold DX11_work_2
    refine ⟨fun z => absurd z nlt, fun _ => ⟨ok29 F, fun z => absurd hf z, fun _ => ⟨118, rf29_108 F, R_wkN (h := h) F h4 hX (by omega) hl h1 (fun e he => by have := hb e he; omega) ?_ ?_⟩⟩⟩
    · rw [← ew, ← ed]
      intro n0 _
      refine ⟨_, rfl, ok118 F, v118, fun M6 e6 => ?_⟩
      rw [lk] at e6
      have k6 : WkF M M6 := RfF.aj rfl e6
      have F6 : Fix M6 := k6.fix F (by decide)
      have f6 : mI M6 29 111 = 0 := by rw [e6]; exact hf
      have u6 : mAJ M6 118 (810 * m + k) = (ndW d (mAJ M 120) (mAJ M 119) w).2 := by rw [e6]; exact up2_eq
      refine ⟨fun z => absurd f6 z, fun _ => ⟨118, rf29_108 F6, ok118 F6, by rw [ln118 F6]; exact vp_of (by omega) (by decide), ?_⟩⟩
      rw [lk, u6]
      refine S_in (h := h) (fun _ => ⟨_, rfl, fun hr => ?_, fun hr M11 e11 => ?_⟩)
      · have ir : (-1000000000 : Int64) ≤ (ndW d (mAJ M 120) (mAJ M 119) w).2 ∧ (ndW d (mAJ M 120) (mAJ M 119) w).2 ≤ 1000000000 := by
          by_cases z : (-1000000000 : Int64) ≤ (ndW d (mAJ M 120) (mAJ M 119) w).2 ∧ (ndW d (mAJ M 120) (mAJ M 119) w).2 ≤ 1000000000
          · exact z
          · rw [if_neg z] at hr; exact absurd rfl hr
        have ec : ndC d (mAJ M 120) (mAJ M 119) w = ndW d (mAJ M 120) (mAJ M 119) w := by
          unfold ndC
          rw [if_neg (fun z => z.2 ir)]
        rw [ec, if_pos n0] at K
        unfold DX11_work_55
        rw [succ32, Nat.add_assoc]
        refine ih (k + 1) s' M6 Q h3 (by omega) (fun y hy => ?_) F6 (hX.wk k6) f6 (fun M' k' e1 => ?_)
        · rw [e0] at hy
          rcases List.mem_cons.mp hy with q | q
          · omega
          · have := hb y (i0 y q); omega
        · rw [k6.2.2.2.2.2 120 (by decide), k6.2.2.2.2.2 119 (by decide)] at e1 ⊢
          have e9 : (fun e => mAJ M6 118 (810 * m + e)) = va_up w k (ndW d (mAJ M 120) (mAJ M 119) w).2 := by rw [e6, upw, ew]
          rw [e9] at e1 ⊢
          exact K M' (k6.tr k') e1
      · have ir : ¬ ((-1000000000 : Int64) ≤ (ndW d (mAJ M 120) (mAJ M 119) w).2 ∧ (ndW d (mAJ M 120) (mAJ M 119) w).2 ≤ 1000000000) := fun z => by
          rw [if_pos z] at hr; exact absurd hr (by decide)
        have ec : ndC d (mAJ M 120) (mAJ M 119) w = (2, (ndW d (mAJ M 120) (mAJ M 119) w).2) := by
          unfold ndC
          rw [if_pos ⟨n0, ir⟩]
        rw [ec, if_neg (show ¬ (2 : Int32) = 0 by decide), if_neg (show ¬ (2 : Int32) = 0 by decide)] at K
        have k11 : WkF M6 M11 := RfF.i rfl e11
        have f11 : mI M11 29 111 = 2 := by rw [e11, mI_wI, if_pos ⟨rfl, rfl⟩]
        unfold DX11_work_55
        exact R_wkE (k11.fix F6 (by decide)) (by rw [f11]; decide) (K M11 (k6.tr k11) f11)
    · rw [← ew, ← ed]
      intro n0 _
      have n1 := (ndW_1 (d := d) (vr := mAJ M 120) (sg := mAJ M 119) (w := w)).resolve_left n0
      have ec : ndC d (mAJ M 120) (mAJ M 119) w = (1, 0) := by
        unfold ndC
        rw [if_neg (fun z => n0 z.1), n1]
      rw [ec, if_neg (show ¬ (1 : Int32) = 0 by decide), if_neg (show ¬ (1 : Int32) = 0 by decide)] at K
      obtain ⟨M3, e3⟩ : ∃ z, z = wI M 29 111 1 := ⟨_, rfl⟩
      rw [← e3]
      have k3 : WkF M M3 := RfF.i rfl e3
      have F3 : Fix M3 := k3.fix F (by decide)
      refine ⟨0, rfl, ok118 F3, by rw [ln118 F3]; exact vp_of (by omega) (by decide), fun M6 e6 => ?_⟩
      have k6 : WkF M3 M6 := RfF.aj rfl e6
      have f6 : mI M6 29 111 = 1 := by
        rw [e6]
        show mI M3 29 111 = 1
        rw [e3, mI_wI, if_pos ⟨rfl, rfl⟩]
      have nz : ¬ mI M6 29 111 = 0 := by rw [f6]; decide
      unfold DX11_work_55
      exact ⟨fun _ => R_wkE (k6.fix F3 (by decide)) nz (K M6 (k3.tr k6) f6), fun z => absurd z nz⟩
/-- a sum is worked by the reference -/
theorem R_work {f c : Nat} (h4 : m < 4) (hl : X.length ≤ 810) (hc : f ≤ c ∧ c < X.length) (hg : GdS X 40 (c + 1 - f) f [] [c]) (F : Fix M) (hX : XR M m X) (hf : mI M 29 111 = 0) (K : ∀ M', WkF M M' → mI M' 29 111 = (smV X (mAJ M 120) (mAJ M 119) f c).1 → Q (some (.long (smV X (mAJ M 120) (mAJ M 119) f c).2)) M') : E (h + 3) mdX11_work [.ref 29, .int (Int32.ofNat (810 * m + f)), .int (Int32.ofNat (810 * m + c))] M Q := by
  refine KX11_work ?_
  unfold DX11_work_0
  refine R_wkL (h := h + 1) h4 hl hc.2 (c + 1 - f) f [] M Q hg (by omega) (fun e he => absurd he List.not_mem_nil) F hX hf (fun M' k e1 => ?_)
  obtain ⟨i1, i2⟩ := wk_ind (X := X) (vr := mAJ M 120) (sg := mAJ M 119) (c + 1 - f) f [] [c] (fun e => mAJ M 118 (810 * m + e)) (fun _ => 0) hg (by omega) (fun e he => absurd he List.not_mem_nil) (fun e he => absurd he List.not_mem_nil)
  have q := K M' k (by rw [e1, i1]; rfl)
  unfold smV at q
  rw [← i1] at q
  by_cases z : (wkZ X (mAJ M 120) (mAJ M 119) (c + 1 - f) f (fun e => mAJ M 118 (810 * m + e))).1 = 0
  · rw [if_pos z] at q ⊢
    rw [i2 z c List.mem_cons_self]
    exact q
  · rw [if_neg z] at q ⊢
    exact q
/-- one that has failed is not worked on -/
theorem R_workX {f c : Int32} (F : Fix M) (hf : ¬ mI M 29 111 = 0) (K : Q (some (.long 0)) M) : E (h + 3) mdX11_work [.ref 29, .int f, .int c] M Q := by
  refine KX11_work ?_
  unfold DX11_work_0
  exact R_wkE F hf K
end
end
section
/-! a sum is worked: the class -/
def InG (v : Int64) : Prop := (-1000000000 : Int64) ≤ v ∧ v ≤ 1000000000
theorem InG.t {v : Int64} (h : InG v) : -1000000000 ≤ v.toInt ∧ v.toInt ≤ 1000000000 := by
  obtain ⟨h1, h2⟩ := h
  rw [Int64.le_iff_toInt_le] at h1 h2
  have e1 : (-1000000000 : Int64).toInt = -1000000000 := by decide
  have e2 : (1000000000 : Int64).toInt = 1000000000 := by decide
  rw [e1] at h1
  rw [e2] at h2
  exact ⟨h1, h2⟩
theorem InG.o {v : Int64} (h1 : -1000000000 ≤ v.toInt) (h2 : v.toInt ≤ 1000000000) : InG v := by
  have e1 : (-1000000000 : Int64).toInt = -1000000000 := by decide
  have e2 : (1000000000 : Int64).toInt = 1000000000 := by decide
  refine ⟨?_, ?_⟩
  · rw [Int64.le_iff_toInt_le, e1]; exact h1
  · rw [Int64.le_iff_toInt_le, e2]; exact h2
theorem InG.neg {v : Int64} (h : InG v) : InG (-v) := by
  obtain ⟨h1, h2⟩ := h.t
  have e : (-v).toInt = -v.toInt := by
    rw [Int64.toInt_neg]
    exact Int.bmod_eq_of_le (by omega) (by omega)
  exact InG.o (by rw [e]; omega) (by rw [e]; omega)
theorem c3264 {v : Nat} (h : v < 2147483648) : (Int32.ofNat v).toInt64 = Int64.ofNat v := by
  refine Int64.toInt_inj.mp ?_
  rw [Int32.toInt_toInt64, ti32 h, Int64.toInt_ofNat_of_lt (by omega)]
theorem InG.n {v : Nat} (h : v < 1000000) : InG (Int64.ofNat v) := InG.o (by rw [Int64.toInt_ofNat_of_lt (by omega)]; omega) (by rw [Int64.toInt_ofNat_of_lt (by omega)]; omega)
/-- what working a sum writes in the class: fields 3, 4 of the object sc, its stack -/
def WcZ (sc stc : Nat) (M M' : Mem) : Prop := (mN M' = mN M ∧ mS M' = mS M ∧ mK M' = mK M ∧ mL M' = mL M) ∧ (mJ M' = mJ M ∧ mR M' = mR M ∧ mAI M' = mAI M ∧ mAR M' = mAR M) ∧ (∀ a, a ≠ sc → mI M' a = mI M a) ∧ (∀ f, f ≠ 3 → f ≠ 4 → mI M' sc f = mI M sc f) ∧ ∀ a, a ≠ stc → mAJ M' a = mAJ M a
section
variable {M M1 M2 M' : Mem} {sc stc cc rw : Nat}
theorem WcZ.rf : WcZ sc stc M M := ⟨⟨rfl, rfl, rfl, rfl⟩, ⟨rfl, rfl, rfl, rfl⟩, fun _ _ => rfl, fun _ _ _ => rfl, fun _ _ => rfl⟩
theorem WcZ.tr (a : WcZ sc stc M M1) (b : WcZ sc stc M1 M2) : WcZ sc stc M M2 := by
  obtain ⟨⟨a1, a2, a3, a4⟩, ⟨a5, a6, a7, a8⟩, a9, a10, a11⟩ := a
  obtain ⟨⟨b1, b2, b3, b4⟩, ⟨b5, b6, b7, b8⟩, b9, b10, b11⟩ := b
  exact ⟨⟨b1.trans a1, b2.trans a2, b3.trans a3, b4.trans a4⟩, ⟨b5.trans a5, b6.trans a6, b7.trans a7, b8.trans a8⟩, fun a h => (b9 a h).trans (a9 a h), fun f h k => (b10 f h k).trans (a10 f h k), fun a h => (b11 a h).trans (a11 a h)⟩
theorem WcZ.i {f : Nat} {v : Int32} (hf : f = 3 ∨ f = 4) (e : M' = wI M sc f v) : WcZ sc stc M M' := by
  rw [e]
  exact ⟨⟨rfl, rfl, rfl, rfl⟩, ⟨rfl, rfl, rfl, rfl⟩, fun a h => up2_row h, fun g h k => up2_ne (fun z => by omega), fun _ _ => rfl⟩
theorem WcZ.j {k : Nat} {v : Int64} (e : M' = wAJ M stc k v) : WcZ sc stc M M' := by
  rw [e]
  exact ⟨⟨rfl, rfl, rfl, rfl⟩, ⟨rfl, rfl, rfl, rfl⟩, fun _ _ => rfl, fun _ _ _ => rfl, fun a h => up2_row h⟩
theorem WcZ.e (h : WcZ sc stc M M') : mE M M' := ⟨by rw [h.1.1]; exact Nat.le_refl _, by rw [h.1.2.1]; exact Nat.le_refl _, fun a _ => ⟨by rw [h.1.2.2.1], by rw [h.1.2.2.2]⟩⟩
theorem WcZ.ok {a k : Nat} (h : WcZ sc stc M M') (o : ok M a k) : ok M' a k := ok_E o h.e
/-- the object of a module's sums, with its codes -/
def SmO (M : Mem) (sc cc stc : Nat) (cs : List Int32) : Prop := SumP M sc cc cs ∧ (mR M sc 2 = some stc ∧ ok M stc 23 ∧ mL M stc = 64) ∧ cs.length < 100000
theorem SmO.wc {cs : List Int32} (h : SmO M sc cc stc cs) (k : WcZ sc stc M M') : SmO M' sc cc stc cs := by
  obtain ⟨⟨a1, a2, a3, a4, a5, a6, a7, a8⟩, ⟨b1, b2, b3⟩, c⟩ := h
  obtain ⟨⟨k1, k2, k3, k4⟩, ⟨k5, k6, k7, k8⟩, k9, k10, k11⟩ := id k
  refine ⟨⟨k.ok a1, by rw [k6]; exact a2, k.ok a3, by rw [k10 1 (by decide) (by decide)]; exact a4, by rw [k4]; exact a5, by rw [k4]; exact a6, by rw [k4]; exact a7, fun j hj => by rw [k7]; exact a8 j hj⟩, ⟨by rw [k6]; exact b1, k.ok b2, by rw [k4]; exact b3⟩, c⟩
/-- the row of numbers that a sum is worked by -/
def RwI (M : Mem) (rw : Nat) (vr sg : Nat → Int64) : Prop := (ok M rw 21 ∧ mL M rw = 26) ∧ (∀ v, v < 6 → (mAI M rw (20 + v)).toInt64 = vr v ∧ InG (vr v)) ∧ ∀ v, v < 16 → (mAI M rw (4 + v)).toInt64 = sg v ∧ InG (sg v)
theorem RwI.wc {vr sg : Nat → Int64} (h : RwI M rw vr sg) (k : WcZ sc stc M M') : RwI M' rw vr sg := by
  obtain ⟨⟨a1, a2⟩, b, c⟩ := h
  unfold RwI
  rw [k.1.2.2.2, k.2.1.2.2.1]
  exact ⟨⟨k.ok a1, a2⟩, b, c⟩
/-- the stack: nodes s from its top on -/
def StS (M : Mem) (sc stc : Nat) (s : List Nat) (w : Nat → Int64) : Prop := mI M sc 3 = Int32.ofNat s.length ∧ ∀ j, j < s.length → mAJ M stc (s.length - 1 - j) = w (s.getD j 0)
end
section
variable {M : Mem} {sc stc cc rw h : Nat} {cs : List Int32} {Q : Option Value → Mem → Prop}
theorem S_push {op x : Int32} {v : Int64} {hg : Nat} (hO : SmO M sc cc stc cs) (hr : ok M rw 21 ∧ mL M rw = 26) (hh : mI M sc 3 = Int32.ofNat hg) (h64 : hg < 64) (hop : (op = 1 ∧ v = x.toInt64) ∨ (op = 2 ∧ ∃ j, j < 6 ∧ x = Int32.ofNat j ∧ v = (mAI M rw (20 + j)).toInt64) ∨ (op = 3 ∧ ∃ j, j < 16 ∧ x = Int32.ofNat j ∧ v = (mAI M rw (4 + j)).toInt64)) (K : ∀ M', M' = wI (wAJ M stc hg v) sc 3 (Int32.ofNat (hg + 1)) → Q none M') : E (h + 1) mdX6_push [.ref sc, .int op, .int x, .ref rw] M Q := by
  obtain ⟨⟨o8, -⟩, ⟨f2, os, ls⟩, -⟩ := hO
  have vh : vp_in (Int32.ofNat hg) (mL M stc) := by rw [ls]; exact vp_of h64 (by decide)
  have lh : (Int32.ofNat hg).toNatClampNeg = hg := lt32 (by omega)
  have lth : Int32.ofNat hg < Int32.ofNat (mL M stc) := by rw [ls]; exact (ltn32 (by omega) (by decide)).mpr h64
  have d74 : ∀ M2, M2 = wAJ M stc hg v → DX6_push_74 h sc M2 Q := fun M2 e2 => by
    unfold DX6_push_74
    refine ⟨by rw [e2]; exact o8, fun M3 e3 => K M3 ?_⟩
    rw [e3, ← succ32, ← hh, e2]
    rfl
  have d73 : ∀ {u : Int64}, u = v → DX6_push_73 h sc stc (mI M sc 3) u M Q := fun eu => by
    unfold DX6_push_73
    rw [hh, lh, eu]
    exact ⟨os, vh, d74⟩
  have d28 : ∀ {s0 : Int32} {i : Nat}, ¬ op = 1 → s0 = Int32.ofNat i → i < 26 → v = (mAI M rw i).toInt64 → DX6_push_28 h sc op x rw s0 M Q := fun {s0 i} n1 es hi ev => by
    unfold DX6_push_28
    refine ⟨fun _ => ⟨o8, stc, f2, hr.1, fun z => ?_, fun _ => ⟨?_, ?_⟩⟩, fun z => absurd z n1⟩
    · rw [hr.2, es] at z
      have := (le32 (a := 26) (by decide) (by omega)).mp z
      omega
    · rw [hr.2, es]; exact vp_of hi (by decide)
    · rw [es, lt32 (show i < 2147483648 by omega)]
      exact d73 ev.symm
  refine KX6_push ?_
  unfold DX6_push_0
  rw [hh]
  refine ⟨o8, stc, f2, os, fun _ => ?_, fun z => absurd lth z⟩
  rcases hop with ⟨e1, ev⟩ | ⟨e1, j, hj, ex, ev⟩ | ⟨e1, j, hj, ex, ev⟩
  · have one : ∀ {s0 : Int32}, DX6_push_28 h sc op x rw s0 M Q := fun {s0} => by
      unfold DX6_push_28
      refine ⟨fun z => absurd e1 z, fun _ => ⟨o8, stc, f2, os, by rw [hh]; exact vh, fun M7 e7 => ?_⟩⟩
      rw [hh, lh, ← ev] at e7
      exact d74 M7 e7
    exact ⟨fun _ => one, fun _ => one⟩
  · refine ⟨fun z => absurd e1 z, fun _ => d28 (i := 20 + j) (by rw [e1]; decide) ?_ (by omega) ev⟩
    rw [ex]
    exact add32 (a := 20)
  · refine ⟨fun _ => d28 (i := 4 + j) (by rw [e1]; decide) ?_ (by omega) ev, fun z => by rw [e1] at z; exact absurd z (by decide)⟩
    rw [ex]
    exact add32 (a := 4)
theorem sub1 {g : Nat} : Int32.ofNat (g + 1) - 1 = Int32.ofNat g := by rw [← succ32, Int32.add_sub_cancel]
theorem S_neg {hg : Nat} (hO : SmO M sc cc stc cs) (hh : mI M sc 3 = Int32.ofNat (hg + 1)) (h64 : hg < 64) (K : ∀ M', M' = wAJ M stc hg (-(mAJ M stc hg)) → Q none M') : E (h + 1) mdX6_negate [.ref sc] M Q := by
  obtain ⟨⟨o8, -⟩, ⟨f2, os, ls⟩, -⟩ := hO
  have vh : vp_in (Int32.ofNat hg) (mL M stc) := by rw [ls]; exact vp_of h64 (by decide)
  have lh : (Int32.ofNat hg).toNatClampNeg = hg := lt32 (by omega)
  refine KX6_negate ?_
  unfold DX6_negate_0 DX6_negate_30
  rw [hh, sub1]
  refine ⟨o8, fun z => ?_, fun _ => ⟨stc, f2, stc, f2, os, vh, os, vh, fun M6 e6 => K M6 ?_⟩⟩
  · have := (le32 (b := 0) (by omega) (by decide)).mp z
    omega
  · rw [e6, lh]
theorem S_rng {v : Int64} (H : Q (some (.int (if (-1000000000 : Int64) ≤ v ∧ v ≤ 1000000000 then 1 else 0))) M) : E (h + 1) mdX6_isInRange [.long v] M Q := by
  refine KX6_isInRange ?_
  unfold DX6_isInRange_0 DX6_isInRange_20 DX6_isInRange_21
  have k1 : (lg_cmp v (-1000000000) < 0) ↔ ¬ ((-1000000000 : Int64) ≤ v) := by
    rw [← lg_cmp_ge v (-1000000000)]; exact ⟨fun h => Int32.not_le.mpr h, fun h => Int32.not_le.mp h⟩
  have k2 : (0 < lg_cmp v 1000000000) ↔ ¬ (v ≤ 1000000000) := by
    rw [← lg_cmp_le v 1000000000]; exact ⟨fun h => Int32.not_le.mpr h, fun h => Int32.not_le.mp h⟩
  refine ⟨fun h1 => ⟨Or.inl rfl, ?_⟩, fun h1 => ⟨fun h2 => ⟨Or.inl rfl, ?_⟩, fun h2 => ⟨Or.inr rfl, ?_⟩⟩⟩
  · rwa [if_neg (fun z => k1.mp h1 z.1)] at H
  · rwa [if_neg (fun z => k2.mp h2 z.2)] at H
  · rwa [if_pos ⟨Classical.not_not.mp (fun z => h1 (k1.mpr z)), Classical.not_not.mp (fun z => h2 (k2.mpr z))⟩] at H
/-- the class's operation for a node -/
def opC (t : Nat) : Int32 := if t = 4 then 7 else if t = 5 then 8 else if t = 6 then 9 else if t = 7 then 5 else 6
theorem S_cmb {t : Nat} {a c : Int64} (h4 : 4 ≤ t) (h8 : t ≤ 8) (hz : (opWk t a c).1 = 0) (H : Q (some (.long (opWk t a c).2)) M) : E (h + 1) mdX6_combined [.int (opC t), .long a, .long c] M Q := by
  refine KX6_combined ?_
  unfold DX6_combined_0 DX6_combined_57 DX6_combined_71
  have ht : t = 4 ∨ t = 5 ∨ t = 6 ∨ t = 7 ∨ t = 8 := by omega
  rcases ht with rfl | rfl | rfl | rfl | rfl
  · exact ⟨fun z => absurd z (by decide), fun z => absurd z (by decide), fun _ => H, fun z => absurd z (by decide), fun z => absurd z (by decide)⟩
  · unfold opWk at hz H
    rw [if_neg (by decide), if_neg (by decide), if_pos rfl] at hz H
    have nz : ¬ c = 0 := fun z => by rw [if_pos z] at hz; exact absurd hz (by decide)
    rw [if_neg nz] at H
    exact ⟨fun z => absurd z (by decide), fun z => absurd z (by decide), fun z => absurd z (by decide), fun _ => ⟨fun _ => ⟨nz, H⟩, fun z => absurd (lgz.mp z) nz⟩, fun z => absurd z (by decide)⟩
  · unfold opWk at hz H
    rw [if_neg (by decide), if_neg (by decide), if_neg (by decide), if_pos rfl] at hz H
    have nz : ¬ c = 0 := fun z => by rw [if_pos z] at hz; exact absurd hz (by decide)
    rw [if_neg nz] at H
    exact ⟨fun z => absurd z (by decide), fun z => absurd z (by decide), fun z => absurd z (by decide), fun z => absurd z (by decide), fun _ => ⟨fun _ => ⟨nz, H⟩, fun z => absurd (lgz.mp z) nz⟩⟩
  · exact ⟨fun _ => H, fun z => absurd z (by decide), fun z => absurd z (by decide), fun z => absurd z (by decide), fun z => absurd z (by decide)⟩
  · exact ⟨fun z => absurd z (by decide), fun _ => H, fun z => absurd z (by decide), fun z => absurd z (by decide), fun z => absurd z (by decide)⟩
/-- two numbers come together; M2: one is taken off -/
theorem S_comb {t hg : Nat} (hO : SmO M sc cc stc cs) (hh : mI M sc 3 = Int32.ofNat (hg + 2)) (h64 : hg + 1 < 64) (h4 : 4 ≤ t) (h8 : t ≤ 8) (K : ∀ M2, M2 = wI M sc 3 (Int32.ofNat (hg + 1)) → ((¬ (opWk t (mAJ M stc hg) (mAJ M stc (hg + 1))).1 = 0 → Q none (wI M2 sc 4 1)) ∧ ((opWk t (mAJ M stc hg) (mAJ M stc (hg + 1))).1 = 0 → ((InG (opWk t (mAJ M stc hg) (mAJ M stc (hg + 1))).2 → Q none (wAJ M2 stc hg (opWk t (mAJ M stc hg) (mAJ M stc (hg + 1))).2)) ∧ (¬ InG (opWk t (mAJ M stc hg) (mAJ M stc (hg + 1))).2 → Q none (wI M2 sc 4 2)))))) : E (h + 2) mdX6_combine [.ref sc, .int (opC t)] M Q := by
  obtain ⟨⟨o8, -⟩, ⟨f2, os, ls⟩, -⟩ := hO
  have vh : vp_in (Int32.ofNat hg) (mL M stc) := by rw [ls]; exact vp_of (by omega) (by decide)
  have vh1 : vp_in (Int32.ofNat (hg + 1)) (mL M stc) := by rw [ls]; exact vp_of (by omega) (by decide)
  have lh : (Int32.ofNat hg).toNatClampNeg = hg := lt32 (by omega)
  have lh1 : (Int32.ofNat (hg + 1)).toNatClampNeg = hg + 1 := lt32 (by omega)
  have g2 : (2 : Int32) ≤ Int32.ofNat (hg + 2) := (le32 (a := 2) (by decide) (by omega)).mpr (by omega)
  obtain ⟨M2, e2⟩ : ∃ z, z = wI M sc 3 (Int32.ofNat (hg + 1)) := ⟨_, rfl⟩
  obtain ⟨K1, K2⟩ := K M2 e2
  have i3 : mI M2 sc 3 = Int32.ofNat (hg + 1) := by rw [e2]; exact up2_eq
  have k2 : WcZ sc stc M M2 := WcZ.i (Or.inl rfl) e2
  have r2 : mR M2 = mR M := k2.2.1.2.1
  have j2 : mAJ M2 = mAJ M := by rw [e2]; rfl
  have l2 : mL M2 = mL M := k2.1.2.2.2
  have main : (opWk t (mAJ M stc hg) (mAJ M stc (hg + 1))).1 = 0 → DX6_combine_60 (h + 1) sc (opC t) (mAJ M stc (hg + 1)) (mAJ M stc hg) M2 Q := fun hz => by
    unfold DX6_combine_60
    refine S_cmb (h := h) h4 h8 hz (fun _ => ⟨_, rfl, S_rng (h := h) (fun _ => ⟨_, rfl, fun hr => ?_, fun hr => ?_⟩)⟩)
    · have ir : InG (opWk t (mAJ M stc hg) (mAJ M stc (hg + 1))).2 := by
        by_cases z : (-1000000000 : Int64) ≤ (opWk t (mAJ M stc hg) (mAJ M stc (hg + 1))).2 ∧ (opWk t (mAJ M stc hg) (mAJ M stc (hg + 1))).2 ≤ 1000000000
        · exact z
        · rw [if_neg z] at hr; exact absurd rfl hr
      rw [i3, sub1, lh]
      refine ⟨k2.ok o8, stc, by rw [r2]; exact f2, k2.ok os, by rw [l2]; exact vh, fun M8 e8 => ?_⟩
      rw [e8]
      exact (K2 hz).1 ir
    · refine ⟨k2.ok o8, fun M10 e10 => ?_⟩
      rw [e10]
      refine (K2 hz).2 (fun ir => ?_)
      unfold InG at ir
      rw [if_pos ir] at hr
      exact absurd hr (by decide)
  refine KX6_combine (h := h + 1) ?_
  unfold DX6_combine_0
  rw [hh]
  refine ⟨o8, fun _ M2' e2' => ?_, fun z => absurd g2 z⟩
  have em : M2' = M2 := by
    rw [e2', e2]
    have : Int32.ofNat (hg + 2) - 1 = Int32.ofNat (hg + 1) := sub1
    rw [this]
  rw [em, i3, sub1, lh, lh1]
  refine ⟨stc, by rw [r2]; exact f2, k2.ok os, by rw [l2]; exact vh1, stc, by rw [r2]; exact f2, k2.ok os, by rw [l2]; exact vh, ?_⟩
  rw [j2]
  have ht : t = 4 ∨ t = 5 ∨ t = 6 ∨ t = 7 ∨ t = 8 := by omega
  have dv : t = 5 ∨ t = 6 → ¬ mAJ M stc (hg + 1) = 0 → (opWk t (mAJ M stc hg) (mAJ M stc (hg + 1))).1 = 0 := fun z nz => by
    unfold opWk
    rcases z with rfl | rfl
    · rw [if_neg (by decide), if_neg (by decide), if_pos rfl, if_neg nz]
    · rw [if_neg (by decide), if_neg (by decide), if_neg (by decide), if_pos rfl, if_neg nz]
  have dz : t = 5 ∨ t = 6 → mAJ M stc (hg + 1) = 0 → ¬ (opWk t (mAJ M stc hg) (mAJ M stc (hg + 1))).1 = 0 := fun z nz => by
    unfold opWk
    rcases z with rfl | rfl
    · rw [if_neg (by decide), if_neg (by decide), if_pos rfl, if_pos nz]; decide
    · rw [if_neg (by decide), if_neg (by decide), if_neg (by decide), if_pos rfl, if_pos nz]; decide
  refine ⟨fun z => main ?_, fun z => ⟨fun y => main ?_, fun y M7 e7 => ?_⟩⟩
  · rcases ht with rfl | rfl | rfl | rfl | rfl
    · rfl
    · exact absurd z (by decide)
    · exact absurd z (by decide)
    · rfl
    · rfl
  · have t56 : t = 5 ∨ t = 6 := by
      rcases ht with rfl | rfl | rfl | rfl | rfl
      · exact absurd (by decide) z
      · exact Or.inl rfl
      · exact Or.inr rfl
      · exact absurd (by decide) z
      · exact absurd (by decide) z
    exact dv t56 (fun q => y (lgz.mpr q))
  · have t56 : t = 5 ∨ t = 6 := by
      rcases ht with rfl | rfl | rfl | rfl | rfl
      · exact absurd (by decide) z
      · exact Or.inl rfl
      · exact Or.inr rfl
      · exact absurd (by decide) z
      · exact absurd (by decide) z
    rw [e7]
    exact K1 (dz t56 (lgz.mp y))
end
end
section
/-! a sum is worked: the class's loop over its codes -/
section
variable {X : List Nd} {k n : Nat} {s t : List Nat} {w : Nat → Int64} {M M' : Mem} {sc stc cc rw h : Nat} {cs : List Int32} {Q : Option Value → Mem → Prop} {vr sg : Nat → Int64}
theorem gA0 {pr r : List Int32} {x : Int32} : (pr ++ x :: r).getD pr.length 0 = x := by
  rw [List.getD_eq_getElem?_getD, List.getElem?_append_right (Nat.le_refl _), Nat.sub_self]
  rfl
theorem gA1 {pr r : List Int32} {x y : Int32} : (pr ++ x :: y :: r).getD (pr.length + 1) 0 = y := by
  rw [List.getD_eq_getElem?_getD, List.getElem?_append_right (Nat.le_succ _), show pr.length.succ - pr.length = 1 by omega]
  rfl
theorem drop_nd (hk : k < X.length) : (X.drop k).take (n + 1) = X.getD k nd0 :: (X.drop (k + 1)).take n := by
  rw [List.drop_eq_getElem_cons hk, List.take_succ_cons, List.getD_eq_getElem?_getD, List.getElem?_eq_getElem hk]
  rfl
theorem cdL_cons {d : Nd} {L : List Nd} : cdL (d :: L) = cdN d ++ cdL L := by
  unfold cdL
  rw [List.flatMap_cons]
theorem cdN_b {d : Nd} (h4 : 4 ≤ d.1) (h8 : d.1 ≤ 8) : cdN d = [opC d.1] := by
  unfold cdN opC
  have ht : d.1 = 4 ∨ d.1 = 5 ∨ d.1 = 6 ∨ d.1 = 7 ∨ d.1 = 8 := by omega
  rcases ht with e | e | e | e | e <;> rw [e] <;> rfl
theorem opC_3 {t : Nat} (h4 : 4 ≤ t) (h8 : t ≤ 8) : ¬ opC t = 0 ∧ 3 < opC t ∧ ¬ opC t = 4 := by
  have ht : t = 4 ∨ t = 5 ∨ t = 6 ∨ t = 7 ∨ t = 8 := by omega
  rcases ht with e | e | e | e | e <;> rw [e] <;> decide
/-- behind a failure, or at the end -/
theorem S_wk122 {r : Int32} (hO : SmO M sc cc stc cs) (H : (mI M sc 4 = 0 ∧ mI M sc 3 = 1 ∧ r = (mAJ M stc 0).toInt32) ∨ (¬ mI M sc 4 = 0 ∧ r = 0)) (K : Q (some (.int r)) M) : DX6_work_122 h sc M Q := by
  obtain ⟨⟨o8, -⟩, ⟨f2, os, ls⟩, -⟩ := hO
  unfold DX6_work_122 DX6_work_146 DX6_work_147
  rcases H with ⟨h1, h2, h3⟩ | ⟨h1, h3⟩
  · refine ⟨o8, fun z => ?_, fun _ => ⟨fun z => absurd h1 z, fun _ => ⟨stc, f2, os, by rw [ls]; exact vp_of (n := 0) (by decide) (by decide), ?_⟩⟩⟩
    · rw [h2] at z; exact absurd z (by decide)
    · rw [h3] at K; exact K
  · rw [h3] at K
    exact ⟨o8, fun _ => K, fun _ => ⟨fun _ => K, fun z => absurd z h1⟩⟩
theorem S_wkX {p : Nat} (hO : SmO M sc cc stc cs) (hp : p < 200000) (hf : ¬ mI M sc 4 = 0) (K : Q (some (.int 0)) M) : T (h + 3) mdX6_work 12 [(0, .ref sc), (2, .ref rw), (3, .int (Int32.ofNat p))] [] M Q := by
  have q : DX6_work_122 (h + 2) sc M Q := S_wk122 hO (Or.inr ⟨hf, rfl⟩) K
  obtain ⟨⟨o8, f0, oc, i1, l1, -, l2, hc⟩, -, cl⟩ := hO
  refine VX6_work_12 (h := h + 2) ?_
  unfold DX6_work_12
  refine ⟨fun z => q, fun _ => ⟨o8, fun _ => q, fun z => ⟨cc, f0, oc, ?_, fun _ => q, fun _ => ⟨fun _ => q, fun y => absurd y hf⟩⟩⟩⟩
  rw [i1, le32 (by omega) (by omega)] at z
  exact vp_of (by omega) (by omega)
theorem StS.top {e : Nat} (h : StS M sc stc (e :: s) w) : mI M sc 3 = Int32.ofNat (s.length + 1) ∧ mAJ M stc s.length = w e := by
  refine ⟨h.1, ?_⟩
  have := h.2 0 (Nat.succ_pos _)
  exact this
theorem StS.low {e j : Nat} (h : StS M sc stc (e :: s) w) (hj : j < s.length) : mAJ M stc (s.length - 1 - j) = w (s.getD j 0) := by
  have := h.2 (j + 1) (Nat.succ_lt_succ hj)
  have e1 : (e :: s).length - 1 - (j + 1) = s.length - 1 - j := by show s.length + 1 - 1 - (j + 1) = _; omega
  rw [e1] at this
  exact this
/-- node k on top of s0 -/
theorem StS.put {s0 : List Nat} {v : Int64} (hk : ∀ e ∈ s0, e < k) (e3 : mI M' sc 3 = Int32.ofNat (s0.length + 1)) (et : mAJ M' stc s0.length = v) (el : ∀ j, j < s0.length → mAJ M' stc (s0.length - 1 - j) = w (s0.getD j 0)) : StS M' sc stc (k :: s0) (va_up w k v) := by
  refine ⟨e3, fun j hj => ?_⟩
  cases j with
  | zero =>
    show mAJ M' stc s0.length = va_up w k v k
    rw [va_up_self]
    exact et
  | succ j =>
    have hj : j < s0.length := Nat.lt_of_succ_lt_succ hj
    have e1 : (k :: s0).length - 1 - (j + 1) = s0.length - 1 - j := by show s0.length + 1 - 1 - (j + 1) = _; omega
    rw [e1, el j hj]
    show w (s0.getD j 0) = va_up w k v (s0.getD j 0)
    have := hk _ (gd_in hj)
    rw [va_up_ne _ _ (by omega)]
theorem S_wkL {c : Nat} {po : List Int32} (hl : X.length ≤ 810) : ∀ (n k : Nat) (pr : List Int32) (s : List Nat) (w : Nat → Int64) (M : Mem) (Q : Option Value → Mem → Prop), cs = pr ++ (cdL ((X.drop k).take n) ++ 0 :: po) → GdS X 40 n k s [c] → k + n ≤ X.length → s.length ≤ 40 → (∀ e ∈ s, e < k) → (∀ e ∈ s, InG (w e)) → SmO M sc cc stc cs → RwI M rw vr sg → mI M sc 4 = 0 → StS M sc stc s w → (∀ M', WcZ sc stc M M' → mI M' sc 4 = (wkZ X vr sg n k w).1 → ((wkZ X vr sg n k w).1 = 0 → InG ((wkZ X vr sg n k w).2 c)) → Q (some (.int (if (wkZ X vr sg n k w).1 = 0 then ((wkZ X vr sg n k w).2 c).toInt32 else 0))) M') → T (h + 3) mdX6_work 12 [(0, .ref sc), (2, .ref rw), (3, .int (Int32.ofNat pr.length))] [] M Q := by
  intro n
  induction n with
  | zero =>
    intro k pr s w M Q ecs hg hkn hs40 hb hi hO hr hf hS K
    have hg : s = [c] := hg
    subst hg
    have q := K M WcZ.rf (by rw [hf]; rfl) (fun _ => hi c List.mem_cons_self)
    unfold wkZ at q
    rw [if_pos rfl] at q
    have ecs : cs = pr ++ 0 :: po := ecs
    obtain ⟨⟨o8, f0, oc, i1, l1, -, l2, hc⟩, -, cl⟩ := id hO
    have pl : pr.length < cs.length := by rw [ecs, List.length_append]; exact Nat.lt_add_of_pos_right (Nat.succ_pos _)
    obtain ⟨t1, t2⟩ := hS.top
    have e : DX6_work_122 (h + 2) sc M Q := S_wk122 hO (Or.inl ⟨hf, t1, rfl⟩) (by rw [show mAJ M stc 0 = w c from t2]; exact q)
    refine VX6_work_12 (h := h + 2) ?_
    unfold DX6_work_12
    rw [lt32 (show pr.length < 2147483648 by omega)]
    refine ⟨fun _ => e, fun _ => ⟨o8, fun _ => e, fun z => ⟨cc, f0, oc, vp_of (by omega) (by omega), fun _ => e, fun z => ?_⟩⟩⟩
    refine absurd ?_ z
    rw [hc _ pl, ecs, gA0]
  | succ n ih =>
    intro k pr s w M Q ecs hg hkn hs40 hb hi hO hr hf hS K
    obtain ⟨s', h1, h2, h3⟩ := hg
    obtain ⟨s0, e0, i0⟩ := h1.sb
    obtain ⟨⟨o8, f0, oc, i1, l1, -, l2, hc⟩, -, cl⟩ := id hO
    rw [drop_nd (by omega), cdL_cons] at ecs
    have hbs : ∀ e ∈ s0, e < k := fun e he => hb e (i0 e he)
    obtain ⟨d, ed⟩ : ∃ d, d = X.getD k nd0 := ⟨_, rfl⟩
    unfold wkZ at K
    unfold SpN KdN at h1
    rw [← ed] at ecs h1 K
    obtain ⟨L, eL⟩ : ∃ L, L = cdL ((X.drop (k + 1)).take n) ++ 0 :: po := ⟨_, rfl⟩
    have ecs : cs = pr ++ (cdN d ++ L) := by rw [ecs, eL, List.append_assoc]
    have n0 : ¬ Int32.ofNat pr.length < 0 := fun z => by
      have pl : pr.length ≤ cs.length := by rw [ecs, List.length_append]; exact Nat.le_add_right _ _
      have := (ltn32 (b := 0) (by omega) (by decide)).mp z
      omega
    have lp : (Int32.ofNat pr.length).toNatClampNeg = pr.length := lt32 (by
      have pl : pr.length ≤ cs.length := by rw [ecs, List.length_append]; exact Nat.le_add_right _ _
      omega)
    -- the node's number is v: on
    have go : ∀ (pr' : List Int32) (M1 : Mem) (v : Int64), ndC d vr sg w = (0, v) → InG v → cs = pr' ++ L → WcZ sc stc M M1 → mI M1 sc 4 = 0 → StS M1 sc stc s' (va_up w k v) → T (h + 3) mdX6_work 12 [(0, .ref sc), (2, .ref rw), (3, .int (Int32.ofNat pr'.length))] [] M1 Q := fun pr' M1 v ec iv ecs' k1 f1 S1 => by
      rw [ec, if_pos rfl] at K
      refine ih (k + 1) pr' s' (va_up w k v) M1 Q (by rw [ecs', eL]) h3 (by omega) h2 (fun y hy => ?_) (fun y hy => ?_) (hO.wc k1) (hr.wc k1) f1 S1 (fun M' k' e1 e2 => K M' (k1.tr k') e1 e2)
      · rw [e0] at hy
        rcases List.mem_cons.mp hy with q | q
        · omega
        · have := hbs y q; omega
      · rw [e0] at hy
        rcases List.mem_cons.mp hy with q | q
        · rw [q, va_up_self]; exact iv
        · have := hbs y q
          rw [va_up_ne _ _ (by omega)]
          exact hi y (i0 y q)
    have bad : ∀ (p : Nat) (M1 : Mem) (f : Int32) (v : Int64), ndC d vr sg w = (f, v) → ¬ f = 0 → p < 200000 → WcZ sc stc M M1 → mI M1 sc 4 = f → T (h + 3) mdX6_work 12 [(0, .ref sc), (2, .ref rw), (3, .int (Int32.ofNat p))] [] M1 Q := fun p M1 f v ec nf hp k1 f1 => by
      rw [ec, if_neg nf, if_neg nf] at K
      exact S_wkX (hO.wc k1) hp (by rw [f1]; exact nf) (K M1 k1 f1 (fun z => absurd z nf))
    refine VX6_work_12 (h := h + 2) ?_
    rcases h1 with ⟨hkd, es⟩ | ⟨ht, e, s1, hs1, hd, es⟩ | ⟨ht, a, e, s1, hs1, hd, ha, es⟩
    · have es0 : s0 = s := by rw [es] at e0; exact (List.cons.inj e0).2.symm
      have hl41 : s.length < 64 := by omega
      -- a leaf of codes op, x
      have leaf : ∀ (op x : Int32) (v : Int64), cdN d = [op, x] → ndC d vr sg w = (0, v) → InG v → ¬ op = 0 → ¬ 3 < op → ((op = 1 ∧ v = x.toInt64) ∨ (op = 2 ∧ ∃ j, j < 6 ∧ x = Int32.ofNat j ∧ v = (mAI M rw (20 + j)).toInt64) ∨ (op = 3 ∧ ∃ j, j < 16 ∧ x = Int32.ofNat j ∧ v = (mAI M rw (4 + j)).toInt64)) → DX6_work_12 (h + 2) sc rw (Int32.ofNat pr.length) M Q := by
        intro op x v ecd ec iv z0 z3 hop
        unfold DX6_work_12
        rw [lp]
        rw [ecd] at ecs
        have ecs : cs = pr ++ op :: x :: L := ecs
        have pl : pr.length + 2 ≤ cs.length := by rw [ecs, List.length_append]; show _ ≤ pr.length + (L.length + 1 + 1); omega
        have c0 : mAI M cc pr.length = op := by rw [hc _ (by omega), ecs, gA0]
        have c1 : mAI M cc (pr.length + 1) = x := by rw [hc _ (by omega), ecs, gA1]
        have vp : vp_in (Int32.ofNat pr.length) (mL M cc) := vp_of (by omega) (by omega)
        have vp1 : vp_in (Int32.ofNat (pr.length + 1)) (mL M cc) := vp_of (by omega) (by omega)
        refine ⟨fun z => absurd z n0, fun _ => ⟨o8, fun z => ?_, fun _ => ⟨cc, f0, oc, vp, fun z => absurd (c0 ▸ z) z0, fun _ => ⟨fun z => absurd hf z, fun _ => ⟨cc, f0, oc, vp, fun z => absurd (c0 ▸ z) z3, fun _ => ⟨cc, f0, oc, vp, fun z => ?_, fun _ => ⟨cc, f0, oc, by rw [succ32]; exact vp1, ?_⟩⟩⟩⟩⟩⟩⟩
        · rw [i1, le32 (by omega) (by omega)] at z; omega
        · rw [i1, succ32, le32 (by omega) (by omega)] at z; omega
        · rw [succ32, lt32 (show pr.length + 1 < 2147483648 by omega), c0, c1]
          unfold DX6_work_79
          refine ⟨o8, S_push (h := h + 1) hO hr.1 hS.1 hl41 hop (fun M1 e1 _ => ⟨rfl, ?_⟩)⟩
          unfold DX6_work_116
          have e2 : Int32.ofNat pr.length + 1 + 1 = Int32.ofNat (pr ++ [op, x]).length := by
            rw [succ32, succ32, List.length_append]
            rfl
          rw [e2]
          have k1 : WcZ sc stc M M1 := by
            rw [e1]
            exact (WcZ.j rfl).tr (WcZ.i (Or.inl rfl) rfl)
          refine go (pr ++ [op, x]) M1 v ec iv ?_ k1 ?_ ?_
          · rw [ecs, List.append_assoc]; rfl
          · rw [e1, mI_wI, if_neg (by omega)]; exact hf
          · rw [es]
            refine StS.put hb ?_ ?_ (fun j hj => ?_)
            · rw [e1]; exact up2_eq
            · rw [e1]; exact up2_eq
            · rw [e1]
              show up2 (mAJ M) stc s.length v stc (s.length - 1 - j) = _
              rw [up2_ne (fun z => by omega)]
              exact hS.2 j hj
      have ndl : ∀ v, ndW d vr sg w = (0, v) → InG v → ndC d vr sg w = (0, v) := fun v e iv => by
        unfold ndC
        rw [e, if_neg (fun z => z.2 iv)]
      rcases hkd with ⟨ht, v, hv, hd⟩ | ⟨ht, v, hv, hd⟩ | ⟨ht, v, hv, hd⟩
      · have e1 : ndW d vr sg w = (0, Int64.ofNat v) := by unfold ndW; rw [if_pos ht, hd]
        refine leaf 1 (Int32.ofNat v) (Int64.ofNat v) ?_ (ndl _ e1 (InG.n hv)) (InG.n hv) (by decide) (by decide) (Or.inl ⟨rfl, (c3264 (by omega)).symm⟩)
        unfold cdN
        rw [if_pos ht, hd, Int64.toInt32_ofNat']
      · obtain ⟨q1, q2⟩ := hr.2.1 v hv
        have e1 : ndW d vr sg w = (0, vr v) := by unfold ndW; rw [if_neg (by omega), if_pos ht, hd, i6n_of (by omega)]
        refine leaf 2 (Int32.ofNat v) (vr v) ?_ (ndl _ e1 q2) q2 (by decide) (by decide) (Or.inr (Or.inl ⟨rfl, v, hv, rfl, q1.symm⟩))
        unfold cdN
        rw [if_neg (by omega), if_pos ht, hd, Int64.toInt32_ofNat']
      · obtain ⟨q1, q2⟩ := hr.2.2 v hv
        have e1 : ndW d vr sg w = (0, sg v) := by unfold ndW; rw [if_neg (by omega), if_neg (by omega), if_pos ht, hd, i6n_of (by omega)]
        refine leaf 3 (Int32.ofNat v) (sg v) ?_ (ndl _ e1 q2) q2 (by decide) (by decide) (Or.inr (Or.inr ⟨rfl, v, hv, rfl, q1.symm⟩))
        unfold cdN
        rw [if_neg (by omega), if_neg (by omega), if_pos ht, hd, Int64.toInt32_ofNat']
    · unfold DX6_work_12
      rw [lp]
      have ecd : cdN d = [4] := by unfold cdN; rw [if_neg (by omega), if_neg (by omega), if_neg (by omega), if_pos ht]
      rw [ecd] at ecs
      have ecs : cs = pr ++ 4 :: L := ecs
      have pl : pr.length + 1 ≤ cs.length := by rw [ecs, List.length_append]; show _ ≤ pr.length + (L.length + 1); omega
      have c0 : mAI M cc pr.length = 4 := by rw [hc _ (by omega), ecs, gA0]
      have vp : vp_in (Int32.ofNat pr.length) (mL M cc) := vp_of (by omega) (by omega)
      have ek := hb e (by rw [hs1]; exact List.mem_cons_self)
      have ie := hi e (by rw [hs1]; exact List.mem_cons_self)
      rw [hs1] at hS
      obtain ⟨t1, t2⟩ := hS.top
      have s41 : s1.length < 40 := by rw [hs1] at hs40; exact hs40
      have e1 : ndW d vr sg w = (0, -(w e)) := by
        unfold ndW opWk
        rw [if_neg (by omega), if_neg (by omega), if_neg (by omega), if_pos ht, hd, i6n_of (by omega)]
      have ec : ndC d vr sg w = (0, -(w e)) := by
        unfold ndC
        rw [e1, if_neg (fun z => z.2 ie.neg)]
      have es0 : s0 = s1 := by rw [es] at e0; exact (List.cons.inj e0).2.symm
      refine ⟨fun z => absurd z n0, fun _ => ⟨o8, fun z => ?_, fun _ => ⟨cc, f0, oc, vp, fun z => absurd (c0 ▸ z) (by decide), fun _ => ⟨fun z => absurd hf z, fun _ => ⟨cc, f0, oc, vp, fun _ => ⟨cc, f0, oc, vp, fun z => absurd c0 z, fun _ => ?_⟩, fun z => ?_⟩⟩⟩⟩⟩
      · rw [i1, le32 (by omega) (by omega)] at z; omega
      · refine S_neg (h := h + 1) hO t1 (by omega) (fun M1 em _ => ⟨rfl, ?_⟩)
        unfold DX6_work_116
        have e2 : Int32.ofNat pr.length + 1 = Int32.ofNat (pr ++ [4]).length := by
          rw [succ32, List.length_append]
          rfl
        rw [e2]
        refine go (pr ++ [4]) M1 (-(w e)) ec ie.neg ?_ (WcZ.j em) ?_ ?_
        · rw [ecs, List.append_assoc]; rfl
        · rw [em]; exact hf
        · rw [es]
          refine StS.put (fun y hy => hbs y (by rw [es0]; exact hy)) ?_ ?_ (fun j hj => ?_)
          · rw [em]; exact t1
          · rw [em]
            show up2 (mAJ M) stc s1.length _ stc s1.length = _
            rw [up2_eq, t2]
          · rw [em]
            show up2 (mAJ M) stc s1.length _ stc (s1.length - 1 - j) = _
            rw [up2_ne (fun z => by omega)]
            exact hS.low hj
      · rw [c0] at z
        exact absurd (by decide) z
    · unfold DX6_work_12
      rw [lp]
      obtain ⟨z0, z3, z4⟩ := opC_3 ht.1 ht.2
      have ecd : cdN d = [opC d.1] := cdN_b ht.1 ht.2
      rw [ecd] at ecs
      have ecs : cs = pr ++ opC d.1 :: L := ecs
      have pl : pr.length + 1 ≤ cs.length := by rw [ecs, List.length_append]; show _ ≤ pr.length + (L.length + 1); omega
      have c0 : mAI M cc pr.length = opC d.1 := by rw [hc _ (by omega), ecs, gA0]
      have vp : vp_in (Int32.ofNat pr.length) (mL M cc) := vp_of (by omega) (by omega)
      have ek := hb e (by rw [hs1]; exact List.mem_cons_of_mem _ List.mem_cons_self)
      rw [hs1] at hS
      obtain ⟨t1, t2⟩ := hS.top
      have t3 : mAJ M stc s1.length = w e := by
        have := hS.low (j := 0) (Nat.succ_pos _)
        exact this
      have t2 : mAJ M stc (s1.length + 1) = w a := t2
      have s41 : s1.length + 2 ≤ 40 := by rw [hs1] at hs40; exact hs40
      have e1 : ndW d vr sg w = opWk d.1 (w e) (w a) := by
        unfold ndW
        rw [if_neg (by omega), if_neg (by omega), if_neg (by omega), hd, i6n_of (by omega), ha]
      have es0 : s0 = s1 := by rw [es] at e0; exact (List.cons.inj e0).2.symm
      refine ⟨fun z => absurd z n0, fun _ => ⟨o8, fun z => ?_, fun _ => ⟨cc, f0, oc, vp, fun z => absurd (c0 ▸ z) z0, fun _ => ⟨fun z => absurd hf z, fun _ => ⟨cc, f0, oc, vp, fun _ => ⟨cc, f0, oc, vp, fun _ => ⟨cc, f0, oc, vp, ?_⟩, fun z => absurd (c0 ▸ z) z4⟩, fun z => ?_⟩⟩⟩⟩⟩
      · rw [i1, le32 (by omega) (by omega)] at z; omega
      · rw [c0]
        refine S_comb (h := h) (t := d.1) hO t1 (by omega) ht.1 ht.2 (fun M2 em => ?_)
        rw [t2, t3, ← e1]
        have k2 : WcZ sc stc M M2 := WcZ.i (Or.inl rfl) em
        refine ⟨fun nz _ => ⟨rfl, ?_⟩, fun ez => ⟨fun ir _ => ⟨rfl, ?_⟩, fun ir _ => ⟨rfl, ?_⟩⟩⟩
        · unfold DX6_work_116
          rw [succ32]
          have n1 := (ndW_1 (d := d) (vr := vr) (sg := sg) (w := w)).resolve_left nz
          refine bad _ _ 1 0 ?_ (by decide) (by omega) (k2.tr (WcZ.i (Or.inr rfl) rfl)) up2_eq
          unfold ndC
          rw [if_neg (fun z => nz z.1), n1]
        · unfold DX6_work_116
          have e2 : Int32.ofNat pr.length + 1 = Int32.ofNat (pr ++ [opC d.1]).length := by
            rw [succ32, List.length_append]
            rfl
          rw [e2]
          refine go (pr ++ [opC d.1]) _ (ndW d vr sg w).2 ?_ ir ?_ (k2.tr (WcZ.j rfl)) ?_ ?_
          · unfold ndC
            rw [if_neg (fun z => z.2 ir), ← ez]
          · rw [ecs, List.append_assoc]; rfl
          · show mI M2 sc 4 = 0
            rw [em, mI_wI, if_neg (by omega)]; exact hf
          · rw [es]
            refine StS.put (fun y hy => hbs y (by rw [es0]; exact hy)) ?_ ?_ (fun j hj => ?_)
            · show mI M2 sc 3 = _
              rw [em]; exact up2_eq
            · exact up2_eq
            · show up2 (mAJ M2) stc s1.length _ stc (s1.length - 1 - j) = _
              rw [up2_ne (fun z => by omega), em]
              have := hS.low (j := j + 1) (Nat.succ_lt_succ hj)
              have e9 : (e :: s1).length - 1 - (j + 1) = s1.length - 1 - j := by show s1.length + 1 - 1 - (j + 1) = _; omega
              rw [e9] at this
              exact this
        · unfold DX6_work_116
          rw [succ32]
          refine bad _ _ 2 (ndW d vr sg w).2 ?_ (by decide) (by omega) (k2.tr (WcZ.i (Or.inr rfl) rfl)) up2_eq
          unfold ndC
          rw [if_pos ⟨ez, ir⟩]
      · rw [c0] at z
        exact absurd z3 z
/-- a sum is worked by the class -/
theorem S_work {f c : Nat} {pr po : List Int32} (hl : X.length ≤ 810) (hc : f ≤ c ∧ c < X.length) (hg : GdS X 40 (c + 1 - f) f [] [c]) (ecs : cs = pr ++ (cdL ((X.drop f).take (c + 1 - f)) ++ 0 :: po)) (hO : SmO M sc cc stc cs) (hr : RwI M rw vr sg) (K : ∀ M', WcZ sc stc M M' → mI M' sc 4 = (smV X vr sg f c).1 → InG (smV X vr sg f c).2 → Q (some (.int ((smV X vr sg f c).2).toInt32)) M') : E (h + 4) mdX6_work [.ref sc, .int (Int32.ofNat pr.length), .ref rw] M Q := by
  refine KX6_work (h := h + 3) ?_
  unfold DX6_work_0
  refine ⟨hO.1.1, fun M2 e2 M3 e3 => ?_⟩
  have k3 : WcZ sc stc M M3 := by
    rw [e3, e2]
    exact (WcZ.i (Or.inr rfl) rfl).tr (WcZ.i (Or.inl rfl) rfl)
  have i4 : mI M3 sc 4 = 0 := by rw [e3, mI_wI, if_neg (by omega), e2]; exact up2_eq
  have i3 : mI M3 sc 3 = 0 := by rw [e3]; exact up2_eq
  refine S_wkL (h := h + 1) (c := c) (po := po) hl (c + 1 - f) f pr [] (fun _ => 0) M3 Q ecs hg (by omega) (by decide) (fun e he => absurd he List.not_mem_nil) (fun e he => absurd he List.not_mem_nil) (hO.wc k3) (hr.wc k3) i4 ⟨i3, fun j hj => absurd hj (Nat.not_lt_zero _)⟩ (fun M' k' e1 e4 => ?_)
  have q := K M' (k3.tr k') e1
  unfold smV at q
  by_cases z : (wkZ X vr sg (c + 1 - f) f (fun _ => 0)).1 = 0
  · rw [if_pos z] at q ⊢
    exact q (e4 z)
  · rw [if_neg z] at q ⊢
    exact q (InG.n (v := 0) (by decide))
end
end
section
/-! what is read of parts, against the tokens: no more room than tokens pay for -/
section
variable {b : Nat → Int32} {n : Nat}
theorem rd_le {sN : List Int64} {mx : List Int32} {vN : List Int64} : ∀ (g md i o : Nat) (X : List Nd) (u : Int32) (r : Nat × List Nd × Int32), rd b n sN mx vN g md i o X u = .ok r → i ≤ r.1 := by
  intro g
  induction g with
  | zero => intro md i o X u r e; unfold rd at e; cases e
  | succ g ih =>
    intro md i o X u r e
    unfold rd at e
    by_cases m0 : md = 0
    · rw [if_pos m0] at e
      by_cases k1 : tK b n i = 3
      · rw [if_pos k1] at e
        obtain ⟨j, hj, e⟩ := bind_ok e
        cases e
        have := adv_i hj
        show i ≤ j
        omega
      rw [if_neg k1] at e
      by_cases k2 : tK b n i = 2
      · rw [if_pos k2] at e
        cases h2 : fd vN (tC b n i) with
        | none => rw [h2] at e; cases e
        | some k =>
          rw [h2] at e
          obtain ⟨j, hj, e⟩ := bind_ok e
          cases e
          have := adv_i hj
          show i ≤ j
          omega
      rw [if_neg k2] at e
      by_cases k3 : tK b n i = 19
      · rw [if_pos k3] at e
        obtain ⟨j, hj, e⟩ := bind_ok e
        have a1 := adv_i hj
        by_cases k4 : tK b n j = 2
        · rw [if_pos k4] at e
          cases h2 : fd sN (tC b n j) with
          | none => rw [h2] at e; cases e
          | some k =>
            rw [h2] at e
            have e : (if mx.getD k 0 = 0 then Except.error (4, tP b n j) else (adv' b n j).bind fun j' => .ok (j', X ++ [(2, Int64.ofNat k, 0)], u)) = .ok r := e
            by_cases k5 : mx.getD k 0 = 0
            · rw [if_pos k5] at e; cases e
            rw [if_neg k5] at e
            obtain ⟨j', hj', e⟩ := bind_ok e
            cases e
            have := adv_i hj'
            show i ≤ j'
            omega
        · rw [if_neg k4] at e; cases e
      rw [if_neg k3] at e
      by_cases k6 : tK b n i = 21
      · rw [if_pos k6] at e
        by_cases k7 : o = 15
        · rw [if_pos k7] at e; cases e
        rw [if_neg k7] at e
        obtain ⟨j, hj, e⟩ := bind_ok e
        obtain ⟨q, hq, e⟩ := bind_ok e
        cases e
        have := adv_i hj
        have := ih _ _ _ _ _ _ hq
        show i ≤ q.1
        omega
      rw [if_neg k6] at e
      by_cases k8 : tK b n i = 15
      · rw [if_pos k8] at e
        by_cases k7 : o = 15
        · rw [if_pos k7] at e; cases e
        rw [if_neg k7] at e
        obtain ⟨j, hj, e⟩ := bind_ok e
        obtain ⟨q, hq, e⟩ := bind_ok e
        have := adv_i hj
        have := ih _ _ _ _ _ _ hq
        by_cases k9 : tK b n q.1 = 16
        · rw [if_pos k9] at e
          obtain ⟨j', hj', e⟩ := bind_ok e
          cases e
          have := adv_i hj'
          show i ≤ j'
          omega
        · rw [if_neg k9] at e; cases e
      · rw [if_neg k8] at e; cases e
    rw [if_neg m0] at e
    by_cases m1 : md = 1
    · rw [if_pos m1] at e
      obtain ⟨q, hq, e⟩ := bind_ok e
      have := ih _ _ _ _ _ _ hq
      have := ih _ _ _ _ _ _ e
      omega
    rw [if_neg m1] at e
    by_cases m2 : md = 2
    · rw [if_pos m2] at e
      by_cases k1 : tK b n i = 22 ∨ tK b n i = 23 ∨ tK b n i = 24
      · rw [if_pos k1] at e
        obtain ⟨j, hj, e⟩ := bind_ok e
        obtain ⟨q, hq, e⟩ := bind_ok e
        have := adv_i hj
        have := ih _ _ _ _ _ _ hq
        have a3 := ih _ _ _ _ _ _ e
        omega
      · rw [if_neg k1] at e; cases e; exact Nat.le_refl _
    rw [if_neg m2] at e
    by_cases m3 : md = 3
    · rw [if_pos m3] at e
      obtain ⟨q, hq, e⟩ := bind_ok e
      have := ih _ _ _ _ _ _ hq
      have := ih _ _ _ _ _ _ e
      omega
    rw [if_neg m3] at e
    by_cases k1 : tK b n i = 20 ∨ tK b n i = 21
    · rw [if_pos k1] at e
      obtain ⟨j, hj, e⟩ := bind_ok e
      obtain ⟨q, hq, e⟩ := bind_ok e
      have := adv_i hj
      have := ih _ _ _ _ _ _ hq
      have a3 := ih _ _ _ _ _ _ e
      omega
    · rw [if_neg k1] at e; cases e; exact Nat.le_refl _
theorem rc0_lt {sN : List Int64} {p i : Nat} {Y : List Cd} {r : Nat × List Cd} (e : rc0 b n sN p i Y = .ok r) : i < r.1 := by
  unfold rc0 at e
  by_cases k1 : tK b n i = 2
  · rw [if_pos k1] at e
    cases h2 : fd sN (tC b n i) with
    | none => rw [h2] at e; cases e
    | some k =>
      rw [h2] at e
      obtain ⟨j, hj, e⟩ := bind_ok e
      cases e
      have := adv_i hj
      show i < j
      omega
  · rw [if_neg k1] at e; cases e
theorem rc_lt {sN : List Int64} : ∀ (g md i o : Nat) (Y : List Cd) (r : Nat × List Cd), md = 0 ∨ md = 1 ∨ md = 3 → rc b n sN g md i o Y = .ok r → i < r.1 := by
  intro g
  induction g with
  | zero => intro md i o Y r _ e; unfold rc at e; cases e
  | succ g ih =>
    intro md i o Y r hm e
    unfold rc at e
    by_cases m0 : md = 0
    · rw [if_pos m0] at e
      by_cases k1 : tK b n i = 61
      · rw [if_pos k1] at e
        by_cases k7 : o = 15
        · rw [if_pos k7] at e; cases e
        rw [if_neg k7] at e
        obtain ⟨j, hj, e⟩ := bind_ok e
        obtain ⟨q, hq, e⟩ := bind_ok e
        cases e
        have := adv_i hj
        have := rc_le _ _ _ _ _ _ hq
        show i < q.1
        omega
      rw [if_neg k1] at e
      by_cases k2 : tK b n i = 15
      · rw [if_pos k2] at e
        by_cases k7 : o = 15
        · rw [if_pos k7] at e; cases e
        rw [if_neg k7] at e
        obtain ⟨j, hj, e⟩ := bind_ok e
        obtain ⟨q, hq, e⟩ := bind_ok e
        have := adv_i hj
        have := rc_le _ _ _ _ _ _ hq
        by_cases k9 : tK b n q.1 = 16
        · rw [if_pos k9] at e
          obtain ⟨j', hj', e⟩ := bind_ok e
          cases e
          have := adv_i hj'
          show i < j'
          omega
        · rw [if_neg k9] at e; cases e
      rw [if_neg k2] at e
      by_cases k3 : tK b n i = 62
      · rw [if_pos k3] at e
        obtain ⟨j, hj, e⟩ := bind_ok e
        have := adv_i hj
        have := rc0_le e
        omega
      · rw [if_neg k3] at e; exact rc0_lt e
    rw [if_neg m0] at e
    by_cases m1 : md = 1
    · rw [if_pos m1] at e
      obtain ⟨q, hq, e⟩ := bind_ok e
      have := ih _ _ _ _ _ (Or.inl rfl) hq
      have := rc_le _ _ _ _ _ _ e
      omega
    have m3 : md = 3 := by omega
    rw [if_neg m1, if_neg (by omega), if_pos m3] at e
    obtain ⟨q, hq, e⟩ := bind_ok e
    have := ih _ _ _ _ _ (Or.inr (Or.inl rfl)) hq
    have := rc_le _ _ _ _ _ _ e
    omega
end
section
variable {b : Nat → Int32} {n m : Nat} {τ : Td} {j i o f1 f2 fo x aw lit y : Nat} {k : Int32} {w : Int64} {K : List KE} {σ : PS}
theorem su_i {r : Nat × PS} (e : suM b n m τ j f1 f2 fo i o σ = .ok r) : i ≤ r.1 := by
  unfold suM at e
  obtain ⟨q, eq, e⟩ := bind_ok e
  cases e
  exact rd_le _ _ _ _ _ _ _ eq
theorem co_i {r : Nat × PS × Nat} (e : coM b n m τ j i o σ = .ok r) : i < r.1 := by
  unfold coM at e
  obtain ⟨q, eq, e⟩ := bind_ok e
  cases e
  exact rc_lt _ _ _ _ _ _ (Or.inr (Or.inr rfl)) eq
theorem at_i {r : Nat × PS × Nat × Bool} (e : atM b n m τ j i o σ = .ok r) : i < r.1 := by
  unfold atM at e
  obtain ⟨q, eq, e⟩ := bind_ok e
  obtain ⟨z, ez, e⟩ := bind_ok e
  cases e
  have := im_l eq
  have := co_i ez
  show i < z.1
  omega
theorem em_i {r : Nat × PS × Nat} (e : emM b n m τ k j i o σ = .ok r) : i ≤ r.1 := by
  unfold emM at e
  by_cases h1 : tK b n i = 2
  · rw [if_pos h1] at e
    cases h2 : fd τ.1 (tC b n i) with
    | none => rw [h2] at e; cases e
    | some s =>
      rw [h2] at e
      have e : (if τ.2.1.getD s 0 = 30 then Except.error (4, tP b n i) else (adv' b n i).bind fun i2 => _) = .ok r := e
      by_cases h3 : τ.2.1.getD s 0 = 30
      · rw [if_pos h3] at e; cases e
      rw [if_neg h3] at e
      obtain ⟨i2, hi2, e⟩ := bind_ok e
      have := adv_i hi2
      by_cases h4 : τ.2.2.1.getD s 0 = 0
      · rw [if_pos h4] at e
        by_cases h5 : k = 40 ∧ tK b n i2 = 15
        · rw [if_pos h5] at e; cases e
        · rw [if_neg h5] at e; cases e; show i ≤ i2; omega
      rw [if_neg h4] at e
      by_cases h5 : k = 40 ∧ tK b n i2 = 15
      · rw [if_pos h5] at e
        by_cases h6 : o = 15
        · rw [if_pos h6] at e; cases e
        rw [if_neg h6] at e
        obtain ⟨i3, hi3, e⟩ := bind_ok e
        obtain ⟨z, e1, e⟩ := bind_ok e
        obtain ⟨i4, hi4, e⟩ := bind_ok e
        cases e
        have := adv_i hi3
        have := su_i e1
        have := ex_i hi4
        show i ≤ i4
        omega
      · rw [if_neg h5] at e; cases e
  · rw [if_neg h1] at e; cases e
theorem lf_i {r : Nat × PS × Nat} (e : lfM b n m τ k w j i K σ = .ok r) : i ≤ r.1 := by
  unfold lfM at e
  by_cases k1 : k = 38
  · rw [if_pos k1] at e; cases e; exact Nat.le_refl _
  rw [if_neg k1] at e
  by_cases k2 : k = 39
  · rw [if_pos k2] at e; cases e; exact Nat.le_refl _
  rw [if_neg k2] at e
  by_cases k3 : k = 40
  · rw [if_pos k3] at e
    obtain ⟨z, e1, e⟩ := bind_ok e
    have y := em_i e1
    cases e; exact y
  rw [if_neg k3] at e
  by_cases k4 : k = 41
  · rw [if_pos k4] at e
    obtain ⟨z, e1, e⟩ := bind_ok e
    have y := em_i e1
    cases e; exact y
  rw [if_neg k4] at e
  by_cases k5 : k = 47
  · rw [if_pos k5] at e
    obtain ⟨z, e1, e⟩ := bind_ok e
    cases e; exact Nat.le_of_lt (at_i e1)
  rw [if_neg k5] at e
  by_cases k6 : k = 57
  · rw [if_pos k6] at e
    by_cases h1 : tK b n i = 2
    · rw [if_pos h1] at e
      cases h2 : trW K (tC b n i) with
      | none => rw [h2] at e; cases e
      | some q =>
        rw [h2] at e
        obtain ⟨i2, hi2, e⟩ := bind_ok e
        cases e
        have := adv_i hi2
        show i ≤ i2
        omega
    · rw [if_neg h1] at e; cases e
  rw [if_neg k6] at e
  by_cases k7 : k = 2
  · rw [if_pos k7] at e
    obtain ⟨i2, hi2, e⟩ := bind_ok e
    obtain ⟨z, e1, e⟩ := bind_ok e
    cases e
    have := ex_i hi2
    have := su_i e1
    show i ≤ z.1
    omega
  rw [if_neg k7] at e
  cases e; exact Nat.le_refl _
/-- tokens that the head, the tail of a part take at the least -/
def hdT (k : Int32) : Nat := if k = 44 ∨ k = 53 then 2 else if k = 50 then 1 else if k = 58 then 2 else 0
def tlT (k : Int32) : Nat := if k = 49 ∨ k = 50 ∨ k = 52 then 3 else 1
theorem hd_i {r : Nat × PS × Nat × Bool × Nat × Option Int64} (e : hdM b n m τ k j i K σ = .ok r) : i + hdT k ≤ r.1 := by
  unfold hdM at e
  by_cases k1 : k = 44
  · rw [if_pos k1] at e
    obtain ⟨z, e1, e⟩ := bind_ok e
    obtain ⟨i2, hi2, e⟩ := bind_ok e
    cases e
    have := co_i e1
    have := ex_i hi2
    rw [k1]
    show i + 2 ≤ i2
    omega
  rw [if_neg k1] at e
  by_cases k2 : k = 49
  · rw [if_pos k2] at e; cases e; rw [k2]; exact Nat.le_refl _
  rw [if_neg k2] at e
  by_cases k3 : k = 50
  · rw [if_pos k3] at e
    obtain ⟨i2, hi2, e⟩ := bind_ok e
    cases e
    have := ex_i hi2
    rw [k3]
    show i + 1 ≤ i2
    omega
  rw [if_neg k3] at e
  by_cases k4 : k = 53
  · rw [if_pos k4] at e
    obtain ⟨z, e1, e⟩ := bind_ok e
    obtain ⟨i2, hi2, e⟩ := bind_ok e
    cases e
    have := at_i e1
    have := ex_i hi2
    rw [k4]
    show i + 2 ≤ i2
    omega
  rw [if_neg k4] at e
  by_cases k5 : k = 55
  · rw [if_pos k5] at e
    by_cases h1 : tK b n i = 2
    · rw [if_pos h1] at e
      by_cases h2 : toT (tC b n i) τ = true ∨ (trW K (tC b n i)).isSome = true
      · rw [if_pos h2] at e; cases e
      rw [if_neg h2] at e
      obtain ⟨i2, hi2, e⟩ := bind_ok e
      obtain ⟨i3, hi3, e⟩ := bind_ok e
      cases e
      have := adv_i hi2
      have := ex_i hi3
      rw [k5]
      show i + 0 ≤ i3
      omega
    · rw [if_neg h1] at e; cases e
  rw [if_neg k5] at e
  by_cases k6 : k = 58
  · rw [if_pos k6] at e
    obtain ⟨z, e1, e⟩ := bind_ok e
    have a1 := su_i e1
    by_cases h1 : 7 ≤ tK b n z.1 ∧ tK b n z.1 ≤ 12
    · rw [if_pos h1] at e
      obtain ⟨i2, hi2, e⟩ := bind_ok e
      obtain ⟨q, e2, e⟩ := bind_ok e
      obtain ⟨i3, hi3, e⟩ := bind_ok e
      have a2 := adv_i hi2
      have a3 := su_i e2
      have a4 := ex_i hi3
      cases e
      rw [k6]
      show i + 2 ≤ i3
      omega
    · rw [if_neg h1] at e; cases e
  rw [if_neg k6] at e
  have e0 : hdT k = 0 := by
    unfold hdT
    rw [if_neg (fun z => z.elim k1 k4), if_neg k3, if_neg k6]
  by_cases k7 : k = 17
  · rw [if_pos k7] at e
    cases e; rw [e0]; exact Nat.le_refl _
  rw [if_neg k7] at e
  cases e; rw [e0]; exact Nat.le_refl _
theorem tl_i {r : Nat × PS × Nat} (e : tlM b n m τ k j aw lit x i o σ = .ok r) : i + tlT k ≤ r.1 := by
  unfold tlM at e
  by_cases k1 : k = 42
  · rw [if_pos k1] at e
    obtain ⟨i2, hi2, e⟩ := bind_ok e
    have := ex_i hi2
    cases e
    rw [k1]
    show i + 1 ≤ i2
    omega
  rw [if_neg k1] at e
  by_cases k2 : k = 49
  · rw [if_pos k2] at e
    obtain ⟨i2, hi2, e⟩ := bind_ok e
    obtain ⟨z, e1, e⟩ := bind_ok e
    obtain ⟨i3, hi3, e⟩ := bind_ok e
    have := ex_i hi2
    have := at_i e1
    have := ex_i hi3
    rw [k2]
    by_cases h1 : z.2.2.2 = true
    · rw [if_pos h1] at e
      cases e
      show i + 3 ≤ i3
      omega
    · rw [if_neg h1] at e
      cases e
      show i + 3 ≤ i3
      omega
  rw [if_neg k2] at e
  by_cases k3 : k = 50
  · rw [if_pos k3] at e
    obtain ⟨i2, hi2, e⟩ := bind_ok e
    obtain ⟨z, e1, e⟩ := bind_ok e
    obtain ⟨i3, hi3, e⟩ := bind_ok e
    have := ex_i hi2
    have := at_i e1
    have := ex_i hi3
    cases e
    rw [k3]
    show i + 3 ≤ i3
    omega
  rw [if_neg k3] at e
  by_cases k4 : k = 52
  · rw [if_pos k4] at e
    obtain ⟨i2, hi2, e⟩ := bind_ok e
    obtain ⟨z, e1, e⟩ := bind_ok e
    obtain ⟨i3, hi3, e⟩ := bind_ok e
    have := ex_i hi2
    have := co_i e1
    have := ex_i hi3
    cases e
    rw [k4]
    show i + 3 ≤ i3
    omega
  rw [if_neg k4] at e
  have e0 : tlT k = 1 := by
    unfold tlT
    rw [if_neg]
    rintro (z | z | z)
    · exact k2 z
    · exact k3 z
    · exact k4 z
  by_cases k5 : k = 53
  · rw [if_pos k5] at e
    obtain ⟨i2, hi2, e⟩ := bind_ok e
    have := ex_i hi2
    cases e
    rw [e0]
    show i + 1 ≤ i2
    omega
  rw [if_neg k5] at e
  obtain ⟨i2, hi2, e⟩ := bind_ok e
  have := ex_i hi2
  cases e
  rw [e0]
  show i + 1 ≤ i2
  omega
theorem ch_i {r : Nat × PS × Nat} (e : chM b n lit x y i σ = .ok r) : i + 1 ≤ r.1 := by
  unfold chM at e
  obtain ⟨i2, hi2, e⟩ := bind_ok e
  have := ex_i hi2
  cases e
  show i + 1 ≤ i2
  omega
end
/-- the room that a part takes, by its sort; all of the first q parts -/
def kpS (s : Int32) : Nat := if s = 8 then 2278 else if s = 9 then 2862 else if s = 11 then 2514 else if s = 14 then 440 else if s = 16 then 648 else 358
def skS (m : Nat) (A : Nat → Nat → Int32) : Nat → Nat
  | 0 => 0
  | q + 1 => skS m A q + kpS (A 58 (40 * m + q))
def phS (m : Nat) (σ : PS) : Nat := skS m σ.1.2.1 (npS σ) + 648 * σ.1.1 4
/-- from token i to i' no more room is taken than tokens and pauses pay for -/
def PhR (m i : Nat) (σ : PS) (i' : Nat) (σ' : PS) : Prop := phS m σ' + 660 * i + 286 * σ.1.1 1 ≤ phS m σ + 660 * i' + 286 * σ'.1.1 1
section
variable {b : Nat → Int32} {n s m : Nat} {τ : Td} {σ σ1 σ2 : PS} {i i1 i2 : Nat}
theorem skS_cg {A B : Nat → Nat → Int32} : ∀ q, (∀ j, j < q → A 58 (40 * m + j) = B 58 (40 * m + j)) → skS m A q = skS m B q
  | 0, _ => rfl
  | q + 1, h => by
    show skS m A q + kpS (A 58 (40 * m + q)) = skS m B q + kpS (B 58 (40 * m + q))
    rw [skS_cg q (fun j hj => h j (by omega)), h q (Nat.lt_succ_self q)]
/-- the same parts, rows, pauses -/
def PhE (σ σ' : PS) : Prop := σ'.1.1 = σ.1.1 ∧ σ'.1.2.1 58 = σ.1.2.1 58
theorem PhE.e (h : PhE σ σ1) : phS m σ1 = phS m σ ∧ σ1.1.1 1 = σ.1.1 1 := by
  unfold phS npS
  rw [h.1, skS_cg (m := m) (A := σ1.1.2.1) (B := σ.1.2.1) _ (fun j _ => by rw [h.2])]
  exact ⟨rfl, rfl⟩
theorem Hd.pe {j : Nat} (h : Hd m j σ σ1) : PhE σ σ1 := ⟨h.1, by funext k; exact h.2.1 58 k (Or.inl (by decide))⟩
theorem ph_bg {k : Int32} {pl q d : Nat} {wh : Int32} : phS m (bgP m k pl q d wh σ) = phS m σ + kpS (Int32.ofNat (soK k)) ∧ (bgP m k pl q d wh σ).1.1 1 = σ.1.1 1 + paK k := by
  have a0 := bg_k (m := m) (k := k) (pl := pl) (q := q) (d := d) (wh := wh) (σ := σ)
  have a1 : (bgP m k pl q d wh σ).1.1 1 = σ.1.1 1 + paK k := by simp [bgP, va_up]
  have a4 : (bgP m k pl q d wh σ).1.1 4 = σ.1.1 4 := by simp [bgP, va_up]
  refine ⟨?_, a1⟩
  unfold phS
  rw [a0.2.1, a4]
  show skS m _ (npS σ) + kpS ((bgP m k pl q d wh σ).1.2.1 58 (40 * m + npS σ)) + _ = _
  rw [a0.2.2.2.1.1, skS_cg (m := m) (A := (bgP m k pl q d wh σ).1.2.1) (B := σ.1.2.1) _ (fun j hj => a0.1.1 58 (Or.inl rfl) j hj)]
  omega
theorem ph_rw {p : Nat} {q0 : Option Nat} : phS m (rwP p q0 σ) = phS m σ + 648 ∧ (rwP p q0 σ).1.1 1 = σ.1.1 1 := by
  have a0 : npS (rwP p q0 σ) = npS σ := by simp [npS, rwP, va_up]
  have a1 : (rwP p q0 σ).1.1 1 = σ.1.1 1 := by simp [rwP, va_up]
  have a4 : (rwP p q0 σ).1.1 4 = σ.1.1 4 + 1 := by simp [rwP, va_up]
  have a5 : (rwP p q0 σ).1.2.1 58 = σ.1.2.1 58 := by
    funext k
    cases q0 <;> simp [rwP, up2]
  refine ⟨?_, a1⟩
  unfold phS
  rw [a0, a4, skS_cg (m := m) (A := (rwP p q0 σ).1.2.1) (B := σ.1.2.1) _ (fun j _ => by rw [a5])]
  omega
theorem fi_pe {j x : Nat} : PhE σ (fiP m j x σ) := ⟨rfl, by funext k; simp [fiP, raP, up2]⟩
theorem br_pe {j a x : Nat} {g u : Int32} : PhE σ (brP σ j a x g u) := by
  unfold brP
  split <;> exact ⟨rfl, rfl⟩
theorem soV8 {k : Int32} (h : Int32.ofNat (soK k) = 8) : k = 49 := by
  unfold soK at h
  by_cases k0 : k = 37
  · rw [if_pos k0] at h; exact absurd h (by decide)
  rw [if_neg k0] at h
  by_cases k1 : k = 38
  · rw [if_pos k1] at h; exact absurd h (by decide)
  rw [if_neg k1] at h
  by_cases k2 : k = 39
  · rw [if_pos k2] at h; exact absurd h (by decide)
  rw [if_neg k2] at h
  by_cases k3 : k = 40
  · rw [if_pos k3] at h; exact absurd h (by decide)
  rw [if_neg k3] at h
  by_cases k4 : k = 41
  · rw [if_pos k4] at h; exact absurd h (by decide)
  rw [if_neg k4] at h
  by_cases k5 : k = 42
  · rw [if_pos k5] at h; exact absurd h (by decide)
  rw [if_neg k5] at h
  by_cases k6 : k = 44
  · rw [if_pos k6] at h; exact absurd h (by decide)
  rw [if_neg k6] at h
  by_cases k7 : k = 47
  · rw [if_pos k7] at h; exact absurd h (by decide)
  rw [if_neg k7] at h
  by_cases k8 : k = 49
  · exact k8
  rw [if_neg k8] at h
  by_cases k9 : k = 50
  · rw [if_pos k9] at h; exact absurd h (by decide)
  rw [if_neg k9] at h
  by_cases k10 : k = 52
  · rw [if_pos k10] at h; exact absurd h (by decide)
  rw [if_neg k10] at h
  by_cases k11 : k = 53
  · rw [if_pos k11] at h; exact absurd h (by decide)
  rw [if_neg k11] at h
  by_cases k12 : k = 55
  · rw [if_pos k12] at h; exact absurd h (by decide)
  rw [if_neg k12] at h
  by_cases k13 : k = 57
  · rw [if_pos k13] at h; exact absurd h (by decide)
  rw [if_neg k13] at h
  by_cases k14 : k = 58
  · rw [if_pos k14] at h; exact absurd h (by decide)
  rw [if_neg k14] at h
  by_cases k15 : k = 2
  · rw [if_pos k15] at h; exact absurd h (by decide)
  rw [if_neg k15] at h
  by_cases k16 : k = 17
  · rw [if_pos k16] at h; exact absurd h (by decide)
  rw [if_neg k16] at h
  exact absurd h (by decide)
theorem soV9 {k : Int32} (h : Int32.ofNat (soK k) = 9) : k = 50 := by
  unfold soK at h
  by_cases k0 : k = 37
  · rw [if_pos k0] at h; exact absurd h (by decide)
  rw [if_neg k0] at h
  by_cases k1 : k = 38
  · rw [if_pos k1] at h; exact absurd h (by decide)
  rw [if_neg k1] at h
  by_cases k2 : k = 39
  · rw [if_pos k2] at h; exact absurd h (by decide)
  rw [if_neg k2] at h
  by_cases k3 : k = 40
  · rw [if_pos k3] at h; exact absurd h (by decide)
  rw [if_neg k3] at h
  by_cases k4 : k = 41
  · rw [if_pos k4] at h; exact absurd h (by decide)
  rw [if_neg k4] at h
  by_cases k5 : k = 42
  · rw [if_pos k5] at h; exact absurd h (by decide)
  rw [if_neg k5] at h
  by_cases k6 : k = 44
  · rw [if_pos k6] at h; exact absurd h (by decide)
  rw [if_neg k6] at h
  by_cases k7 : k = 47
  · rw [if_pos k7] at h; exact absurd h (by decide)
  rw [if_neg k7] at h
  by_cases k8 : k = 49
  · rw [if_pos k8] at h; exact absurd h (by decide)
  rw [if_neg k8] at h
  by_cases k9 : k = 50
  · exact k9
  rw [if_neg k9] at h
  by_cases k10 : k = 52
  · rw [if_pos k10] at h; exact absurd h (by decide)
  rw [if_neg k10] at h
  by_cases k11 : k = 53
  · rw [if_pos k11] at h; exact absurd h (by decide)
  rw [if_neg k11] at h
  by_cases k12 : k = 55
  · rw [if_pos k12] at h; exact absurd h (by decide)
  rw [if_neg k12] at h
  by_cases k13 : k = 57
  · rw [if_pos k13] at h; exact absurd h (by decide)
  rw [if_neg k13] at h
  by_cases k14 : k = 58
  · rw [if_pos k14] at h; exact absurd h (by decide)
  rw [if_neg k14] at h
  by_cases k15 : k = 2
  · rw [if_pos k15] at h; exact absurd h (by decide)
  rw [if_neg k15] at h
  by_cases k16 : k = 17
  · rw [if_pos k16] at h; exact absurd h (by decide)
  rw [if_neg k16] at h
  exact absurd h (by decide)
theorem soV11 {k : Int32} (h : Int32.ofNat (soK k) = 11) : k = 53 := by
  unfold soK at h
  by_cases k0 : k = 37
  · rw [if_pos k0] at h; exact absurd h (by decide)
  rw [if_neg k0] at h
  by_cases k1 : k = 38
  · rw [if_pos k1] at h; exact absurd h (by decide)
  rw [if_neg k1] at h
  by_cases k2 : k = 39
  · rw [if_pos k2] at h; exact absurd h (by decide)
  rw [if_neg k2] at h
  by_cases k3 : k = 40
  · rw [if_pos k3] at h; exact absurd h (by decide)
  rw [if_neg k3] at h
  by_cases k4 : k = 41
  · rw [if_pos k4] at h; exact absurd h (by decide)
  rw [if_neg k4] at h
  by_cases k5 : k = 42
  · rw [if_pos k5] at h; exact absurd h (by decide)
  rw [if_neg k5] at h
  by_cases k6 : k = 44
  · rw [if_pos k6] at h; exact absurd h (by decide)
  rw [if_neg k6] at h
  by_cases k7 : k = 47
  · rw [if_pos k7] at h; exact absurd h (by decide)
  rw [if_neg k7] at h
  by_cases k8 : k = 49
  · rw [if_pos k8] at h; exact absurd h (by decide)
  rw [if_neg k8] at h
  by_cases k9 : k = 50
  · rw [if_pos k9] at h; exact absurd h (by decide)
  rw [if_neg k9] at h
  by_cases k10 : k = 52
  · rw [if_pos k10] at h; exact absurd h (by decide)
  rw [if_neg k10] at h
  by_cases k11 : k = 53
  · exact k11
  rw [if_neg k11] at h
  by_cases k12 : k = 55
  · rw [if_pos k12] at h; exact absurd h (by decide)
  rw [if_neg k12] at h
  by_cases k13 : k = 57
  · rw [if_pos k13] at h; exact absurd h (by decide)
  rw [if_neg k13] at h
  by_cases k14 : k = 58
  · rw [if_pos k14] at h; exact absurd h (by decide)
  rw [if_neg k14] at h
  by_cases k15 : k = 2
  · rw [if_pos k15] at h; exact absurd h (by decide)
  rw [if_neg k15] at h
  by_cases k16 : k = 17
  · rw [if_pos k16] at h; exact absurd h (by decide)
  rw [if_neg k16] at h
  exact absurd h (by decide)
theorem soV16 {k : Int32} (h : Int32.ofNat (soK k) = 16) : k = 17 := by
  unfold soK at h
  by_cases k0 : k = 37
  · rw [if_pos k0] at h; exact absurd h (by decide)
  rw [if_neg k0] at h
  by_cases k1 : k = 38
  · rw [if_pos k1] at h; exact absurd h (by decide)
  rw [if_neg k1] at h
  by_cases k2 : k = 39
  · rw [if_pos k2] at h; exact absurd h (by decide)
  rw [if_neg k2] at h
  by_cases k3 : k = 40
  · rw [if_pos k3] at h; exact absurd h (by decide)
  rw [if_neg k3] at h
  by_cases k4 : k = 41
  · rw [if_pos k4] at h; exact absurd h (by decide)
  rw [if_neg k4] at h
  by_cases k5 : k = 42
  · rw [if_pos k5] at h; exact absurd h (by decide)
  rw [if_neg k5] at h
  by_cases k6 : k = 44
  · rw [if_pos k6] at h; exact absurd h (by decide)
  rw [if_neg k6] at h
  by_cases k7 : k = 47
  · rw [if_pos k7] at h; exact absurd h (by decide)
  rw [if_neg k7] at h
  by_cases k8 : k = 49
  · rw [if_pos k8] at h; exact absurd h (by decide)
  rw [if_neg k8] at h
  by_cases k9 : k = 50
  · rw [if_pos k9] at h; exact absurd h (by decide)
  rw [if_neg k9] at h
  by_cases k10 : k = 52
  · rw [if_pos k10] at h; exact absurd h (by decide)
  rw [if_neg k10] at h
  by_cases k11 : k = 53
  · rw [if_pos k11] at h; exact absurd h (by decide)
  rw [if_neg k11] at h
  by_cases k12 : k = 55
  · rw [if_pos k12] at h; exact absurd h (by decide)
  rw [if_neg k12] at h
  by_cases k13 : k = 57
  · rw [if_pos k13] at h; exact absurd h (by decide)
  rw [if_neg k13] at h
  by_cases k14 : k = 58
  · rw [if_pos k14] at h; exact absurd h (by decide)
  rw [if_neg k14] at h
  by_cases k15 : k = 2
  · rw [if_pos k15] at h; exact absurd h (by decide)
  rw [if_neg k15] at h
  by_cases k16 : k = 17
  · exact k16
  rw [if_neg k16] at h
  exact absurd h (by decide)
theorem kpo_of {k : Int32} : kpS (Int32.ofNat (soK k)) = if k = 49 then 2278 else if k = 50 then 2862 else if k = 53 then 2514 else if k = 58 then 440 else if k = 17 then 648 else 358 := by
  by_cases k1 : k = 49
  · rw [if_pos k1, k1]; decide
  by_cases k2 : k = 50
  · rw [if_neg k1, if_pos k2, k2]; decide
  by_cases k3 : k = 53
  · rw [if_neg k1, if_neg k2, if_pos k3, k3]; decide
  by_cases k4 : k = 58
  · rw [if_neg k1, if_neg k2, if_neg k3, if_pos k4, k4]; decide
  by_cases k5 : k = 17
  · rw [if_neg k1, if_neg k2, if_neg k3, if_neg k4, if_pos k5, k5]; decide
  rw [if_neg k1, if_neg k2, if_neg k3, if_neg k4, if_neg k5]
  unfold kpS
  rw [if_neg (fun z => k1 (soV8 z)), if_neg (fun z => k2 (soV9 z)), if_neg (fun z => k3 (soV11 z)), if_neg (fun z => k4 (so14 z)), if_neg (fun z => k5 (soV16 z))]
theorem opn_k {k : Int32} (h : opnK k = true) : k = 42 ∨ k = 44 ∨ k = 49 ∨ k = 50 ∨ k = 52 ∨ k = 53 ∨ k = 55 ∨ k = 58 ∨ k = 17 := by
  unfold opnK at h
  simp only [Bool.or_eq_true, beq_iff_eq] at h
  rcases h with (((((((h | h) | h) | h) | h) | h) | h) | h) | h
  · exact Or.inl h
  · exact Or.inr (Or.inl h)
  · exact Or.inr (Or.inr (Or.inl h))
  · exact Or.inr (Or.inr (Or.inr (Or.inl h)))
  · exact Or.inr (Or.inr (Or.inr (Or.inr (Or.inl h))))
  · exact Or.inr (Or.inr (Or.inr (Or.inr (Or.inr (Or.inl h)))))
  · exact Or.inr (Or.inr (Or.inr (Or.inr (Or.inr (Or.inr (Or.inl h))))))
  · exact Or.inr (Or.inr (Or.inr (Or.inr (Or.inr (Or.inr (Or.inr (Or.inl h)))))))
  · exact Or.inr (Or.inr (Or.inr (Or.inr (Or.inr (Or.inr (Or.inr (Or.inr h)))))))
theorem kp_lf {k : Int32} (h : opnK k = false) : kpS (Int32.ofNat (soK k)) ≤ 358 := by
  rw [kpo_of, if_neg (fun z => by rw [z] at h; exact absurd h (by decide)), if_neg (fun z => by rw [z] at h; exact absurd h (by decide)), if_neg (fun z => by rw [z] at h; exact absurd h (by decide)), if_neg (fun z => by rw [z] at h; exact absurd h (by decide)), if_neg (fun z => by rw [z] at h; exact absurd h (by decide))]
  exact Nat.le_refl _
theorem kp_tl {k : Int32} (h : opnK k = true) (h17 : k ≠ 17) (hc : ¬ (k = 44 ∨ k = 58)) : kpS (Int32.ofNat (soK k)) + 648 ≤ 660 * (1 + hdT k + tlT k) + 286 * paK k := by
  rcases opn_k h with z | z | z | z | z | z | z | z | z
  · rw [z]; decide
  · exact absurd (Or.inl z) hc
  · rw [z]; decide
  · rw [z]; decide
  · rw [z]; decide
  · rw [z]; decide
  · rw [z]; decide
  · exact absurd (Or.inr z) hc
  · exact absurd z h17
theorem kp_ch {k : Int32} (h : k = 44 ∨ k = 58) : kpS (Int32.ofNat (soK k)) + 648 ≤ 660 * (2 + hdT k) + 286 * paK k := by
  rcases h with z | z <;> rw [z] <;> decide
theorem rp_tok (hS : Sto b n s) (g : Nat) : (∀ K i σ r, i ≤ s ∧ tK b n i ≠ 0 ∧ RpI m 0 K σ 0 0 → rp b n m τ g 0 K i σ 0 0 0 0 0 0 = .ok r → PhR m i σ r.1 r.2.1) := by
  refine (rp_ind (τ := τ) (m := m) hS (fun _ i σ r => PhR m i σ r.1 r.2.1) (fun _ i σ r => PhR m i σ r.1 r.2.1) (fun _ i σ _ r => PhR m i σ r.1 r.2.1) (fun _ i σ _ _ _ _ _ _ r => PhR m i σ r.1 r.2.1 ∧ phS m r.2.1 + 660 * (i + 1) + 286 * σ.1.1 1 ≤ phS m σ + 660 * r.1 + 286 * r.2.1.1.1 1) ?_ ?_ ?_ ?_ ?_ ?_ ?_ ?_ ?_ ?_ g).1
  · intro K i σ q r _ _ h2 _ h1
    have a : phS m (trP1 σ (mkT (trS σ) 5).1) = phS m σ := rfl
    have c : phS m (hgP q.2.1 (mkT (trS σ) 5).2 q.2.2) = phS m q.2.1 := rfl
    have a1 : (trP1 σ (mkT (trS σ) 5).1).1.1 1 = σ.1.1 1 := rfl
    have c1 : (hgP q.2.1 (mkT (trS σ) 5).2 q.2.2).1.1 1 = q.2.1.1.1 1 := rfl
    unfold PhR at *
    rw [a, a1] at h2
    rw [c, c1] at h1
    omega
  · intro K i σ a1 q r _ _ _ h2 _ h1
    have c : phS m (hgP q.2.1 a1 q.2.2) = phS m q.2.1 := rfl
    have c1 : (hgP q.2.1 a1 q.2.2).1.1 1 = q.2.1.1.1 1 := rfl
    unfold PhR at *
    rw [c, c1] at h1
    omega
  · intro K i σ a1 _ _
    unfold PhR
    exact Nat.le_refl _
  · intro K i σ u _ ho e hN _
    have a := ph_bg (m := m) (k := tK b n i) (pl := tP b n i) (q := sqK K) (d := K.length) (wh := whK (tK b n i) (tC b n i) τ) (σ := σ)
    have c := hN.1.pe.e (m := m)
    have d := (fi_pe (m := m) (j := npS σ) (x := u.2.2) (σ := u.2.1)).e (m := m)
    have f := lf_i e
    have g := kp_lf ho
    show phS m (fiP m (npS σ) u.2.2 u.2.1) + 660 * i + 286 * σ.1.1 1 ≤ phS m σ + 660 * u.1 + 286 * (fiP m (npS σ) u.2.2 u.2.1).1.1 1
    rw [d.1, d.2, c.1, c.2, a.1, a.2]
    omega
  · intro K i σ h q _ hk e hN _ h3 _
    have a := ph_bg (m := m) (k := tK b n i) (pl := tP b n i) (q := sqK K) (d := K.length) (wh := whK (tK b n i) (tC b n i) τ) (σ := σ)
    have c := hN.pe.e (m := m)
    have w := ph_rw (m := m) (σ := h.2.1) (p := 40 * m + npS σ) (q0 := none)
    have f := hd_i e
    have g : kpS (Int32.ofNat (soK (tK b n i))) = 648 := by rw [hk]; decide
    have d := (fi_pe (m := m) (j := npS σ) (x := q.2.2) (σ := guP q.2.1 (giS σ ||| giS q.2.1) (usS σ ||| usS q.2.1))).e (m := m)
    have d0 : phS m (guP q.2.1 (giS σ ||| giS q.2.1) (usS σ ||| usS q.2.1)) = phS m q.2.1 := rfl
    have d1 : (guP q.2.1 (giS σ ||| giS q.2.1) (usS σ ||| usS q.2.1)).1.1 1 = q.2.1.1.1 1 := rfl
    obtain ⟨-, h3⟩ := h3
    rw [w.1, w.2, c.1, c.2, a.1, a.2] at h3
    show phS m (fiP m (npS σ) q.2.2 (guP q.2.1 (giS σ ||| giS q.2.1) (usS σ ||| usS q.2.1))) + 660 * i + 286 * σ.1.1 1 ≤ phS m σ + 660 * q.1 + 286 * (fiP m (npS σ) q.2.2 (guP q.2.1 (giS σ ||| giS q.2.1) (usS σ ||| usS q.2.1))).1.1 1
    rw [d.1, d.2, d0, d1]
    omega
  · intro K i σ h q u _ ho h17 hc e hN _ h0 e2 hN2 _
    have a := ph_bg (m := m) (k := tK b n i) (pl := tP b n i) (q := sqK K) (d := K.length) (wh := whK (tK b n i) (tC b n i) τ) (σ := σ)
    have c := hN.pe.e (m := m)
    have w := ph_rw (m := m) (σ := h.2.1) (p := 40 * m + npS σ) (q0 := none)
    have f := hd_i e
    have f2 := tl_i e2
    have c2 := hN2.1.pe.e (m := m)
    have d := (fi_pe (m := m) (j := npS σ) (x := u.2.2) (σ := u.2.1)).e (m := m)
    have g := kp_tl ho h17 hc
    unfold PhR at h0
    rw [w.1, w.2, c.1, c.2, a.1, a.2] at h0
    show phS m (fiP m (npS σ) u.2.2 u.2.1) + 660 * i + 286 * σ.1.1 1 ≤ phS m σ + 660 * u.1 + 286 * (fiP m (npS σ) u.2.2 u.2.1).1.1 1
    rw [d.1, d.2, c2.1, c2.2]
    omega
  · intro K i σ h q t u _ ho hc e hN _ h0 _ _ ht e2 hN2 _
    have a := ph_bg (m := m) (k := tK b n i) (pl := tP b n i) (q := sqK K) (d := K.length) (wh := whK (tK b n i) (tC b n i) τ) (σ := σ)
    have c := hN.pe.e (m := m)
    have w := ph_rw (m := m) (σ := h.2.1) (p := 40 * m + npS σ) (q0 := none)
    have w2 := ph_rw (m := m) (σ := q.2.1) (p := 40 * m + npS σ) (q0 := some (h.2.1.1.1 4))
    have f := hd_i e
    have f2 := ch_i e2
    have c2 := hN2.1.pe.e (m := m)
    have d := (fi_pe (m := m) (j := npS σ) (x := u.2.2) (σ := u.2.1)).e (m := m)
    have g := kp_ch hc
    unfold PhR at h0 ht
    rw [w.1, w.2, c.1, c.2, a.1, a.2] at h0
    rw [w2.1, w2.2] at ht
    show phS m (fiP m (npS σ) u.2.2 u.2.1) + 660 * i + 286 * σ.1.1 1 ≤ phS m σ + 660 * u.1 + 286 * (fiP m (npS σ) u.2.2 u.2.1).1.1 1
    rw [d.1, d.2, c2.1, c2.2]
    omega
  · intro K i σ h q u _ ho hc e hN _ h0 _ e2 hN2 _
    have a := ph_bg (m := m) (k := tK b n i) (pl := tP b n i) (q := sqK K) (d := K.length) (wh := whK (tK b n i) (tC b n i) τ) (σ := σ)
    have c := hN.pe.e (m := m)
    have w := ph_rw (m := m) (σ := h.2.1) (p := 40 * m + npS σ) (q0 := none)
    have f := hd_i e
    have f2 := ch_i e2
    have c2 := hN2.1.pe.e (m := m)
    have c3 : phS m (trP1 q.2.1 (mkT (trS q.2.1) 0).1) = phS m q.2.1 := rfl
    have c4 : (trP1 q.2.1 (mkT (trS q.2.1) 0).1).1.1 1 = q.2.1.1.1 1 := rfl
    have d := (fi_pe (m := m) (j := npS σ) (x := u.2.2) (σ := u.2.1)).e (m := m)
    have g := kp_ch hc
    unfold PhR at h0
    rw [w.1, w.2, c.1, c.2, a.1, a.2] at h0
    show phS m (fiP m (npS σ) u.2.2 u.2.1) + 660 * i + 286 * σ.1.1 1 ≤ phS m σ + 660 * u.1 + 286 * (fiP m (npS σ) u.2.2 u.2.1).1.1 1
    rw [d.1, d.2, c2.1, c2.2, c3, c4]
    omega
  · intro K i σ a1 a2 a3 a4 c1 c2 q r _ _ h0 _ _ _ h3
    have a : phS m (guP σ 0 0) = phS m σ := rfl
    have a' : (guP σ 0 0).1.1 1 = σ.1.1 1 := rfl
    have d := (br_pe (σ := q.2.1) (j := a2) (a := a1) (x := q.2.2) (g := c1) (u := c2)).e (m := m)
    have w := ph_rw (m := m) (σ := brP q.2.1 a2 a1 q.2.2 c1 c2) (p := 40 * m + a2) (q0 := some a3)
    unfold PhR at *
    rw [a, a'] at h0
    rw [w.1, w.2, d.1, d.2] at h3
    omega
  · intro K i σ a1 a2 a3 a4 c1 c2 q _ _ h0 _
    have a : phS m (guP σ 0 0) = phS m σ := rfl
    have a' : (guP σ 0 0).1.1 1 = σ.1.1 1 := rfl
    have d := (br_pe (σ := q.2.1) (j := a2) (a := a1) (x := q.2.2) (g := c1) (u := c2)).e (m := m)
    unfold PhR at *
    rw [a, a'] at h0
    show (phS m (brP q.2.1 a2 a1 q.2.2 c1 c2) + 660 * i + 286 * σ.1.1 1 ≤ phS m σ + 660 * (q.1 + 1) + 286 * (brP q.2.1 a2 a1 q.2.2 c1 c2).1.1 1) ∧ phS m (brP q.2.1 a2 a1 q.2.2 c1 c2) + 660 * (i + 1) + 286 * σ.1.1 1 ≤ phS m σ + 660 * (q.1 + 1) + 286 * (brP q.2.1 a2 a1 q.2.2 c1 c2).1.1 1
    rw [d.1, d.2]
    omega
end
end
section
/-! how much room the nodes of a reading take -/
/-- the room that a node of kind k with c children takes: ten for a net, eighteen for a held mask -/
def swK (k : Int32) (c : Nat) : Nat := 10 * (eW k + c * (aW k + lW k) + (if k = 8 then 62 * c + 42 else 0)) + 18 * (eH k + c * (aH k + lH k) + (if k = 8 then c + 1 else 0))
def swN (V : Vw) (z : Nat) : Nat := swK (V z).1 (V z).2.2.2.length
def wtG (V : Vw) (g x : Nat) : Nat := smL (swN V) (noL (fun z => (V z).2.2.2) g x)
section
variable {V : Vw} {lo hi x y z : Nat} {k l d : Int32} {cs : List Nat}
theorem smL_fm {f : Nat → Nat} {h : Nat → List Nat} : ∀ (L : List Nat), smL f (L.flatMap h) = smL (fun a => smL f (h a)) L
  | [] => rfl
  | a :: t => by
    rw [List.flatMap_cons, smL_ap, smL_fm t]
    rfl
theorem smL_le {f h : Nat → Nat} : ∀ (L : List Nat), (∀ a, a ∈ L → f a ≤ h a) → smL f L ≤ smL h L
  | [], _ => Nat.le_refl _
  | a :: t, q => Nat.add_le_add (q a List.mem_cons_self) (smL_le t (fun b hb => q b (List.mem_cons_of_mem _ hb)))
theorem wt_nd (h : ndS V lo hi x k l cs) (g : Nat) : wtG V g x ≤ swK k cs.length + smL (wtG V (g - 1)) cs := by
  cases g with
  | zero => exact Nat.zero_le _
  | succ g =>
    show swN V x + smL (swN V) ((V x).2.2.2.flatMap (noL (fun z => (V z).2.2.2) g)) ≤ _
    unfold swN
    rw [h.2.1, h.2.2.2, smL_fm]
    exact Nat.le_refl _
theorem wt_lf (h : lfS V lo hi x k d) (g : Nat) : wtG V g x ≤ swK k 0 := by
  cases g with
  | zero => exact Nat.zero_le _
  | succ g =>
    show swN V x + smL (swN V) ((V x).2.2.2.flatMap (noL (fun z => (V z).2.2.2) g)) ≤ _
    unfold swN
    rw [h.2.1, h.2.2.2]
    exact Nat.le_refl _
theorem wt_1 {c : Nat} (h : ndS V lo hi x k l [y]) (hy : ∀ g, wtG V g y ≤ c) (g : Nat) : wtG V g x ≤ swK k 1 + c := by
  have a := wt_nd h g
  have b : smL (wtG V (g - 1)) [y] = wtG V (g - 1) y + 0 := rfl
  have := hy (g - 1)
  rw [b] at a
  show _ ≤ swK k 1 + c
  have e : [y].length = 1 := rfl
  rw [e] at a
  omega
theorem wt_2 {c e : Nat} (h : ndS V lo hi x k l [y, z]) (hy : ∀ g, wtG V g y ≤ c) (hz : ∀ g, wtG V g z ≤ e) (g : Nat) : wtG V g x ≤ swK k 2 + c + e := by
  have a := wt_nd h g
  have b : smL (wtG V (g - 1)) [y, z] = wtG V (g - 1) y + (wtG V (g - 1) z + 0) := rfl
  have := hy (g - 1)
  have := hz (g - 1)
  rw [b] at a
  have e : [y, z].length = 2 := rfl
  rw [e] at a
  omega
theorem swk0 : swK 0 0 = 10 := by decide
theorem swk1 : swK 1 0 = 58 := by decide
theorem swk2 : swK 2 0 = 20 := by decide
theorem swk3 : swK 3 0 = 10 := by decide
theorem swk4 : swK 4 2 = 30 := by decide
theorem swk52 : swK 5 2 = 10 := by decide
theorem swk6 : swK 6 1 = 20 := by decide
theorem swk7 : swK 7 1 = 136 := by decide
theorem swk82 : swK 8 2 = 1724 := by decide
theorem swk9 : swK 9 1 = 20 := by decide
theorem swk5 (c : Nat) : swK 5 c = 10 := by
  have e1 : eW 5 = 1 := by decide
  have e2 : aW 5 = 0 := by decide
  have e3 : lW 5 = 0 := by decide
  have e4 : eH 5 = 0 := by decide
  have e5 : aH 5 = 0 := by decide
  have e6 : lH 5 = 0 := by decide
  unfold swK
  rw [e1, e2, e3, e4, e5, e6, if_neg (by decide), if_neg (by decide)]
  simp
theorem swk8 (c : Nat) : swK 8 c = 448 + 638 * c := by
  have e1 : eW 8 = 1 := by decide
  have e2 : aW 8 = 0 := by decide
  have e3 : lW 8 = 0 := by decide
  have e4 : eH 8 = 0 := by decide
  have e5 : aH 8 = 0 := by decide
  have e6 : lH 8 = 0 := by decide
  unfold swK
  rw [e1, e2, e3, e4, e5, e6, if_pos rfl, if_pos rfl, Nat.add_zero, Nat.mul_zero]
  omega
theorem wt_ha {p : Nat} (h : haS V lo hi x p) (g : Nat) : wtG V g x ≤ 78 := by
  obtain ⟨y, h1, h2⟩ := h
  have := wt_1 h1 (wt_lf h2) g
  rw [swk6, swk1] at this
  exact this
theorem wt_st {v p : Nat} (h : stS V lo hi x v p) (g : Nat) : wtG V g x ≤ 108 := by
  obtain ⟨sq, e, pa, h1, h2, h3, h4⟩ := h
  have := wt_1 h1 (wt_2 h2 (wt_lf h3) (wt_lf h4)) g
  rw [swk6, swk52, swk2, swk1] at this
  exact this
theorem wt_wa {im : Bool} {p : Nat} (h : waS V lo hi x l im p) (g : Nat) : wtG V g x ≤ 138 := by
  obtain ⟨sq, pa, ch, ex, no, h1, h2, h3, h4, h5, h6⟩ := h
  have a := wt_2 h4 (wt_lf h5) (wt_lf h6)
  cases im with
  | true =>
    rw [if_pos rfl] at h2
    have := wt_1 h1 (wt_2 h2 a (wt_lf h3)) g
    rw [swk6, swk52, swk1, swk4, swk3, swk0] at this
    exact this
  | false =>
    rw [if_neg (by decide)] at h2
    have := wt_1 h1 (wt_2 h2 (wt_lf h3) a) g
    rw [swk6, swk52, swk1, swk4, swk3, swk0] at this
    exact this
theorem wt_aw {im : Bool} {p : Nat} (h : awS V lo hi x l im p) (g : Nat) : wtG V g x ≤ 158 := by
  obtain ⟨y, h1, h2⟩ := h
  have := wt_1 h1 (wt_wa h2) g
  rw [swk9] at this
  exact this
theorem wt_wk {body c : Nat} {im : Bool} {p : Nat} (h : wkS V lo hi x body l im p) (hb : ∀ g, wtG V g body ≤ c) (g : Nat) : wtG V g x ≤ 1902 + c := by
  obtain ⟨par, sq, wa, ex, h1, h2, h3, h4, h5⟩ := h
  have := wt_1 h1 (wt_2 h2 (wt_2 h3 hb (wt_lf h4)) (wt_wa h5)) g
  rw [swk9, swk82, swk52, swk3] at this
  omega
theorem wt_ab {body c : Nat} {p : Nat} (h : abS V lo hi x body l p) (hb : ∀ g, wtG V g body ≤ c) (g : Nat) : wtG V g x ≤ 2038 + c := by
  obtain ⟨y, h1, h2⟩ := h
  have := wt_wk h2 (wt_1 h1 hb) g
  rw [swk7] at this
  omega
theorem wt_ai {body c : Nat} {im : Bool} {p : Nat} (h : aiS V lo hi x body l im p) (hb : ∀ g, wtG V g body ≤ c) (g : Nat) : wtG V g x ≤ 2078 + c := by
  unfold aiS at h
  by_cases e : im = true
  · rw [if_pos e] at h
    obtain ⟨no, y, h1, h2, h3⟩ := h
    have := wt_2 h1 (wt_lf h2) (wt_ab h3 hb) g
    rw [swk4, swk0] at this
    omega
  · rw [if_neg e] at h
    have := wt_ab h hb g
    omega
theorem wt_ev {body aw c : Nat} {p2 p3 : Nat} (h : evS V lo hi x body aw l p2 p3) (ha : ∀ g, wtG V g aw ≤ 158) (hb : ∀ g, wtG V g body ≤ c) (g : Nat) : wtG V g x ≤ 2314 + c := by
  obtain ⟨lp, ab, sq, ha', h1, h2, h3, h4, h5⟩ := h
  have := wt_2 h1 ha (wt_1 h2 (wt_ab h3 (wt_2 h4 hb (wt_ha h5)))) g
  rw [swk52, swk6] at this
  omega
end
/-- what the nodes of a part take, by its sort, and of the first q parts -/
def k0S (s : Int32) : Nat := if s = 8 then 2078 else if s = 9 then 1902 else if s = 11 then 2314 else if s = 14 then 40 else if s = 16 then 448 else 158
def s0S (m : Nat) (A : Nat → Nat → Int32) : Nat → Nat
  | 0 => 0
  | q + 1 => s0S m A q + k0S (A 58 (40 * m + q))
theorem s0_sk {m : Nat} {A : Nat → Nat → Int32} : ∀ q, s0S m A q + 200 * q + 200 * ifU (A 58) m q ≤ skS m A q
  | 0 => Nat.le_refl _
  | q + 1 => by
    have h := s0_sk (m := m) (A := A) q
    show s0S m A q + k0S (A 58 (40 * m + q)) + 200 * (q + 1) + 200 * (ifU (A 58) m (q + 1)) ≤ skS m A q + kpS (A 58 (40 * m + q))
    have e : ifU (A 58) m (q + 1) = ifU (A 58) m q + (if A 58 (40 * m + q) = 14 then 1 else 0) := rfl
    rw [e]
    generalize A 58 (40 * m + q) = s
    unfold k0S kpS
    by_cases h1 : s = 8
    · rw [if_pos h1, if_pos h1, if_neg (by rw [h1]; decide)]; omega
    rw [if_neg h1, if_neg h1]
    by_cases h2 : s = 9
    · rw [if_pos h2, if_pos h2, if_neg (by rw [h2]; decide)]; omega
    rw [if_neg h2, if_neg h2]
    by_cases h3 : s = 11
    · rw [if_pos h3, if_pos h3, if_neg (by rw [h3]; decide)]; omega
    rw [if_neg h3, if_neg h3]
    by_cases h4 : s = 14
    · rw [if_pos h4, if_pos h4, if_pos h4]; omega
    rw [if_neg h4, if_neg h4, if_neg h4]
    by_cases h5 : s = 16
    · rw [if_pos h5, if_pos h5]; omega
    rw [if_neg h5, if_neg h5]
    omega
theorem k0_of {k : Int32} : k0S (Int32.ofNat (soK k)) = if k = 49 then 2078 else if k = 50 then 1902 else if k = 53 then 2314 else if k = 58 then 40 else if k = 17 then 448 else 158 := by
  by_cases k1 : k = 49
  · rw [if_pos k1, k1]; decide
  by_cases k2 : k = 50
  · rw [if_neg k1, if_pos k2, k2]; decide
  by_cases k3 : k = 53
  · rw [if_neg k1, if_neg k2, if_pos k3, k3]; decide
  by_cases k4 : k = 58
  · rw [if_neg k1, if_neg k2, if_neg k3, if_pos k4, k4]; decide
  by_cases k5 : k = 17
  · rw [if_neg k1, if_neg k2, if_neg k3, if_neg k4, if_pos k5, k5]; decide
  rw [if_neg k1, if_neg k2, if_neg k3, if_neg k4, if_neg k5]
  unfold k0S
  rw [if_neg (fun z => k1 (soV8 z)), if_neg (fun z => k2 (soV9 z)), if_neg (fun z => k3 (soV11 z)), if_neg (fun z => k4 (so14 z)), if_neg (fun z => k5 (soV16 z))]
section
variable {W : Wo} {m zn fn lo hi : Nat}
/-- a part: what its own nodes take, above those of its rows -/
theorem wt_pk {k : Int32} {K : List KE} {j p pb x : Nat} {ys : List Nat} {c : Nat} (h : PkS W m zn fn lo hi k K j p pb x ys) (h17 : k ≠ 17) (hc : ∀ g, smL (wtG (woV W) g) ys ≤ c) (g : Nat) : wtG (woV W) g x ≤ k0S (Int32.ofNat (soK k)) + c := by
  have one : ∀ {y : Nat}, ys = [y] → ∀ g, wtG (woV W) g y ≤ c := fun e g => by
    have := hc g
    rw [e] at this
    exact this
  rw [k0_of]
  unfold PkS at h
  by_cases k1 : k = 38
  · rw [if_pos k1] at h
    have := wt_lf h.1 g
    rw [swk1] at this
    rw [k1]
    show _ ≤ 158 + c
    omega
  rw [if_neg k1] at h
  by_cases k2 : k = 39
  · rw [if_pos k2] at h
    have := wt_ha h.1 g
    rw [k2]
    show _ ≤ 158 + c
    omega
  rw [if_neg k2] at h
  by_cases k3 : k = 40
  · rw [if_pos k3] at h
    obtain ⟨⟨v, -, h⟩, -⟩ := h
    have := wt_lf h g
    rw [swk2] at this
    rw [k3]
    show _ ≤ 158 + c
    omega
  rw [if_neg k3] at h
  by_cases k4 : k = 41
  · rw [if_pos k4] at h
    obtain ⟨⟨v, -, h⟩, -⟩ := h
    have := wt_st h g
    rw [k4]
    show _ ≤ 158 + c
    omega
  rw [if_neg k4] at h
  by_cases k5 : k = 47
  · rw [if_pos k5] at h
    obtain ⟨⟨l, im, -, -, h⟩, -⟩ := h
    have := wt_aw h g
    rw [k5]
    show _ ≤ 158 + c
    omega
  rw [if_neg k5] at h
  by_cases k6 : k = 57
  · rw [if_pos k6] at h
    obtain ⟨⟨v, e, -, -, -, h⟩, -⟩ := h
    have := wt_lf h g
    rw [swk3] at this
    rw [k6]
    show _ ≤ 158 + c
    omega
  rw [if_neg k6] at h
  by_cases k7 : k = 42
  · rw [if_pos k7] at h
    obtain ⟨y, e, h⟩ := h
    have := wt_1 h (one e) g
    rw [swk6] at this
    rw [k7]
    show _ ≤ 158 + c
    omega
  rw [if_neg k7] at h
  have cho : ∀ {l : Int32} {y z : Nat}, ndS (woV W) lo hi x 4 l [y, z] → (ys = [y, z] ∨ ys = [y] ∧ lfS (woV W) lo hi z 0 0) → wtG (woV W) g x ≤ 40 + c := fun {l y z} h1 h2 => by
    have a := wt_nd h1 g
    have b : smL (wtG (woV W) (g - 1)) [y, z] = wtG (woV W) (g - 1) y + (wtG (woV W) (g - 1) z + 0) := rfl
    have e : [y, z].length = 2 := rfl
    rw [b, e, swk4] at a
    have q := hc (g - 1)
    rcases h2 with h2 | ⟨h2, h3⟩
    · rw [h2, b] at q; omega
    · have := wt_lf h3 (g - 1)
      have b1 : smL (wtG (woV W) (g - 1)) [y] = wtG (woV W) (g - 1) y + 0 := rfl
      rw [h2, b1] at q
      rw [swk0] at this
      omega
  by_cases k8 : k = 44
  · rw [if_pos k8] at h
    obtain ⟨y, z, l, -, h1, h2⟩ := h
    have := cho h1 h2
    rw [k8]
    show _ ≤ 158 + c
    omega
  rw [if_neg k8] at h
  by_cases k9 : k = 58
  · rw [if_pos k9] at h
    obtain ⟨y, z, f, -, -, h1, h2⟩ := h
    have := cho h1 h2
    rw [k9]
    show _ ≤ 40 + c
    omega
  rw [if_neg k9] at h
  by_cases k10 : k = 49
  · rw [if_pos k10] at h
    obtain ⟨y, l, im, e, -, -, h⟩ := h
    have := wt_ai h (one e) g
    rw [k10]
    show _ ≤ 2078 + c
    omega
  rw [if_neg k10] at h
  by_cases k11 : k = 50
  · rw [if_pos k11] at h
    obtain ⟨y, l, im, e, -, -, h⟩ := h
    have := wt_wk h (one e) g
    rw [k11]
    show _ ≤ 1902 + c
    omega
  rw [if_neg k11] at h
  by_cases k12 : k = 52
  · rw [if_pos k12] at h
    obtain ⟨y, l, e, -, h⟩ := h
    have := wt_1 h (one e) g
    rw [swk7] at this
    rw [k12]
    show _ ≤ 158 + c
    omega
  rw [if_neg k12] at h
  by_cases k13 : k = 53
  · rw [if_pos k13] at h
    obtain ⟨y, l, im, aw, e, -, -, h1, h2⟩ := h
    have := wt_ev h2 (wt_aw h1) (one e) g
    rw [k13]
    show _ ≤ 2314 + c
    omega
  rw [if_neg k13] at h
  by_cases k14 : k = 55
  · rw [if_pos k14] at h
    obtain ⟨y, e, h⟩ := h
    have := wt_1 h (one e) g
    rw [swk9] at this
    rw [k14]
    show _ ≤ 158 + c
    omega
  rw [if_neg k14, if_neg h17] at h
  rw [if_neg k10, if_neg k11, if_neg k13, if_neg k9, if_neg h17]
  have := wt_lf h.1 g
  rw [swk0] at this
  omega
theorem TT.wt : ∀ (g0 md : Nat) (K : List KE) (a2 a3 a4 : Nat) (c1 c2 : Int32) (fl : Bool) (j j' r r' p p' : Nat) (L : List (Nat × Nat)), md ≤ 3 → TT W m zn fn lo hi g0 md K a2 a3 a4 c1 c2 fl j j' r r' p p' L → ∀ g, smL (wtG (woV W) g) (L.map Prod.snd) + (if md = 3 then 638 * L.length else 0) + s0S m (woA W) j + 648 * r ≤ s0S m (woA W) j' + 648 * r' + (if md = 0 then 10 else if md = 3 then 648 else 0) := by
  intro g0
  induction g0 with
  | zero => intro md K a2 a3 a4 c1 c2 fl j j' r r' p p' L _ h; unfold TT at h; exact h.elim
  | succ g0 ih =>
    intro md K a2 a3 a4 c1 c2 fl j j' r r' p p' L hm h g
    unfold TT at h
    by_cases m0 : md = 0
    · rw [if_pos m0] at h
      obtain ⟨x, jm, rm, pm, T, y, e, h1, h2, h3, -⟩ := h
      have a := ih 2 _ _ _ _ _ _ _ _ _ _ _ _ _ _ (by decide) h1 (g - 1)
      have c := ih 1 _ _ _ _ _ _ _ _ _ _ _ _ _ _ (by decide) h2 (g - 1)
      have d := wt_nd h3 g
      rw [swk5] at d
      have d1 : smL (wtG (woV W) (g - 1)) (x :: T.map Prod.snd) = wtG (woV W) (g - 1) x + smL (wtG (woV W) (g - 1)) (T.map Prod.snd) := rfl
      rw [d1] at d
      have a1 : smL (wtG (woV W) (g - 1)) ([(j, x)].map Prod.snd) = wtG (woV W) (g - 1) x + 0 := rfl
      rw [a1, if_neg (by decide), if_neg (by decide), if_neg (by decide)] at a
      rw [if_neg (by decide), if_neg (by decide), if_neg (by decide)] at c
      rw [e, if_neg (by omega), if_pos m0]
      have e1 : smL (wtG (woV W) g) ([((0 : Nat), y)].map Prod.snd) = wtG (woV W) g y + 0 := rfl
      rw [e1]
      omega
    rw [if_neg m0] at h
    by_cases m1 : md = 1
    · rw [if_pos m1] at h
      rw [if_neg (by omega), if_neg m0, if_neg (by omega)]
      rcases h with ⟨e, e1, e2, -⟩ | ⟨x, jm, rm, pm, T, e, h1, h2⟩
      · rw [e, e1, e2]
        show 0 + 0 + _ + _ ≤ _
        omega
      · have a := ih 2 _ _ _ _ _ _ _ _ _ _ _ _ _ _ (by decide) h1 g
        have c := ih 1 _ _ _ _ _ _ _ _ _ _ _ _ _ _ (by decide) h2 g
        have a1 : smL (wtG (woV W) g) ([(j, x)].map Prod.snd) = wtG (woV W) g x + 0 := rfl
        rw [a1, if_neg (by decide), if_neg (by decide), if_neg (by decide)] at a
        rw [if_neg (by decide), if_neg (by decide), if_neg (by decide)] at c
        have e1 : smL (wtG (woV W) g) (((j, x) :: T).map Prod.snd) = wtG (woV W) g x + smL (wtG (woV W) g) (T.map Prod.snd) := rfl
        rw [e, e1]
        omega
    rw [if_neg m1] at h
    by_cases m2 : md = 2
    · rw [if_pos m2] at h
      obtain ⟨k, x, ys, pb, ff, e, hp, hk, -, -, h⟩ := h
      rw [if_neg (by omega), if_neg m0, if_neg (by omega), e]
      have e1 : smL (wtG (woV W) g) ([(j, x)].map Prod.snd) = wtG (woV W) g x + 0 := rfl
      rw [e1]
      have ej : s0S m (woA W) (j + 1) = s0S m (woA W) j + k0S (Int32.ofNat (soK k)) := by
        show s0S m (woA W) j + k0S (woA W 58 (40 * m + j)) = _
        rw [hp.2.1]
      rcases h with ⟨ho, ej', er, -, -⟩ | ⟨k17, -, T, et, h1⟩ | ⟨ho, h17, -, t, jm, rm, pm, y, -, h1, h2⟩
      · have h17 : k ≠ 17 := fun z => by rw [z] at ho; exact absurd ho (by decide)
        have y0 : ∀ g, smL (wtG (woV W) g) ys ≤ 0 := by
          have : ys = [] := by
            unfold PkS at hk
            have ne : ∀ c : Int32, opnK c = true → k ≠ c := fun c hc z => by rw [z, hc] at ho; exact absurd ho (by decide)
            rw [if_neg (ne 42 (by decide)), if_neg (ne 44 (by decide)), if_neg (ne 58 (by decide)), if_neg (ne 49 (by decide)), if_neg (ne 50 (by decide)), if_neg (ne 52 (by decide)), if_neg (ne 53 (by decide)), if_neg (ne 55 (by decide)), if_neg (ne 17 (by decide))] at hk
            repeat' split at hk
            all_goals exact hk.2
          intro g
          rw [this]
          exact Nat.le_refl _
        have := wt_pk hk h17 y0 g
        rw [ej', ej, er]
        omega
      · have a := ih 3 _ _ _ _ _ _ _ _ _ _ _ _ _ _ (by decide) h1 (g - 1)
        rw [if_pos rfl, if_neg (by decide), if_pos rfl, ← et] at a
        have hn : ndS (woV W) lo hi x 8 0 ys := by
          unfold PkS at hk
          rw [k17] at hk
          exact hk
        have d := wt_nd hn g
        rw [swk8] at d
        have l1 : ys.length = T.length := by rw [et, List.length_map]
        have e17 : k0S (Int32.ofNat (soK k)) = 448 := by rw [k17]; decide
        rw [e17] at ej
        rw [l1] at d
        omega
      · rcases h2 with ⟨ey, e2, e3, -, -⟩ | ⟨k4, -, -, z, ey, h3⟩
        · have hc : ∀ g, smL (wtG (woV W) g) ys ≤ s0S m (woA W) jm + 648 * rm + 10 - (s0S m (woA W) (j + 1) + 648 * (r + 1)) := fun g => by
            have a := ih 0 _ _ _ _ _ _ _ _ _ _ _ _ _ _ (by decide) h1 g
            rw [if_neg (by decide), if_pos rfl] at a
            have a1 : smL (wtG (woV W) g) ([((0 : Nat), y)].map Prod.snd) = wtG (woV W) g y + 0 := rfl
            rw [a1] at a
            rw [ey]
            show wtG (woV W) g y + 0 ≤ _
            omega
          have a := ih 0 _ _ _ _ _ _ _ _ _ _ _ _ _ _ (by decide) h1 0
          rw [if_neg (by decide), if_pos rfl] at a
          have := wt_pk hk h17 hc g
          rw [e2, e3]
          omega
        · have hc : ∀ g, smL (wtG (woV W) g) ys ≤ s0S m (woA W) j' + 648 * r' + 20 - (s0S m (woA W) (j + 1) + 648 * (r + 1) + 648) := fun g => by
            have a := ih 0 _ _ _ _ _ _ _ _ _ _ _ _ _ _ (by decide) h1 g
            have c := ih 0 _ _ _ _ _ _ _ _ _ _ _ _ _ _ (by decide) h3 g
            rw [if_neg (by decide), if_pos rfl] at a c
            have a1 : smL (wtG (woV W) g) ([((0 : Nat), y)].map Prod.snd) = wtG (woV W) g y + 0 := rfl
            have c1 : smL (wtG (woV W) g) ([((0 : Nat), z)].map Prod.snd) = wtG (woV W) g z + 0 := rfl
            rw [a1] at a
            rw [c1] at c
            rw [ey]
            show wtG (woV W) g y + (wtG (woV W) g z + 0) ≤ _
            omega
          have a := ih 0 _ _ _ _ _ _ _ _ _ _ _ _ _ _ (by decide) h1 0
          have c := ih 0 _ _ _ _ _ _ _ _ _ _ _ _ _ _ (by decide) h3 0
          rw [if_neg (by decide), if_pos rfl] at a c
          have := wt_pk hk h17 hc g
          omega
    rw [if_neg m2] at h
    have m3 : md = 3 := by omega
    rw [if_pos m3, if_neg m0, if_pos m3]
    obtain ⟨jm, rm, pm, y, h1, h2⟩ := h
    have a := ih 0 _ _ _ _ _ _ _ _ _ _ _ _ _ _ (by decide) h1 g
    rw [if_neg (by decide), if_pos rfl] at a
    have a1 : smL (wtG (woV W) g) ([((0 : Nat), y)].map Prod.snd) = wtG (woV W) g y + 0 := rfl
    rw [a1] at a
    rcases h2 with ⟨e, e1, e2, -⟩ | ⟨T, f2, e, -, -, h3⟩
    · rw [e, e1, e2]
      show wtG (woV W) g y + 0 + 638 * 1 + _ + _ ≤ _
      omega
    · have c := ih 3 _ _ _ _ _ _ _ _ _ _ _ _ _ _ (by decide) h3 g
      rw [if_pos rfl, if_neg (by decide), if_pos rfl] at c
      have e1 : smL (wtG (woV W) g) (((a3, y) :: T).map Prod.snd) = wtG (woV W) g y + smL (wtG (woV W) g) (T.map Prod.snd) := rfl
      have e2 : ((a3, y) :: T).length = T.length + 1 := rfl
      rw [e, e1, e2]
      omega
end
end
