/-! the reference goes through its nodes: steps, codes of exits -/
/-- nodes S, steps so far, how many codes -/
def GoM (m : Nat) (A : Nat → Nat → Int32) (pn : Nat → Int32) (S : RBs) (sl : List Nat) (km : Nat) (M : Mem) : Prop := BuM m A pn S M ∧ (mAI M 94 m = Int32.ofNat sl.length ∧ ∀ i, i < sl.length → mAI M 93 (1400 * m + i) = Int32.ofNat (sl.getD i 0)) ∧ mAI M 92 m = Int32.ofNat km
section
variable {m : Nat} {A : Nat → Nat → Int32} {pn : Nat → Int32} {S : RBs} {G : Nat → List Nat} {M M' : Mem} {h : Nat} {Q : Option Value → Mem → Prop} {sl : List Nat} {km n : Nat}
theorem BuM.fr9 (hB : BuM m A pn S M) (g : RGb m M M') (h79 : mAI M' 79 = mAI M 79) (h80 : ∀ c, 80 ≤ c → c ≤ 90 → mAI M' c = mAI M c) : BuM m A pn S M' := by
  obtain ⟨F, b1, b2, b3, b4, b5, b6⟩ := hB
  refine ⟨g.fix F (by decide), b1, by rw [g.fI (by decide)]; exact b2, by rw [h79]; exact b3, fun c c1 c2 => by rw [h80 c c1 (by omega)]; exact b4 c c1 c2, fun c c1 c2 c3 => ?_, by rw [h80 90 (by decide) (by decide)]; exact b6⟩
  have hc : c ∉ csB := by
    intro hc
    have : c = 79 ∨ c = 80 ∨ c = 81 ∨ c = 82 ∨ c = 83 ∨ c = 84 ∨ c = 85 ∨ c = 86 ∨ c = 87 ∨ c = 88 ∨ c = 89 ∨ c = 90 ∨ c = 92 ∨ c = 93 ∨ c = 94 := by simpa [csB] using hc
    omega
  rw [g.fA hc]
  exact b5 c c1 c2 c3
theorem G_step {v : Bool} (hG : GoM m A pn S sl km M) (hn : n < 2800) (hl : sl.length < 1400) (K : ∀ M', GoM m A pn S (sl ++ [2 * n + v.toNat]) km M' → RGb m M M' → Q none M') : E (h + 1) mdX11_step [.ref 29, .int (Int32.ofNat n), .int (bI v)] M Q := by
  obtain ⟨hB, ⟨g1, g2⟩, g3⟩ := id hG
  obtain ⟨F, h4, b2, b3, b4, b5, b6⟩ := id hB
  have lm : (Int32.ofNat m).toNatClampNeg = m := lt32 (by omega)
  have ex : (1400 : Int32) * Int32.ofNat m + Int32.ofNat sl.length = Int32.ofNat (1400 * m + sl.length) := by rw [Int32.ofNat_add, Int32.ofNat_mul]; rfl
  have le : (Int32.ofNat (1400 * m + sl.length)).toNatClampNeg = 1400 * m + sl.length := lt32 (by omega)
  have v94 : ∀ {M : Mem}, Fix M → vp_in (Int32.ofNat m) (mL M 94) := fun F => by rw [ln94 F]; exact vp_of h4 (by decide)
  have fin : ∀ w : Int32, (2 : Int32) * Int32.ofNat n + w = Int32.ofNat (2 * n + v.toNat) → DX11_step_34 h 29 93 (Int32.ofNat (1400 * m + sl.length)) ((2 : Int32) * Int32.ofNat n) w M Q := by
    intro w ew
    unfold DX11_step_34
    rw [le, ew]
    refine ⟨ok93 F, by rw [ln93 F]; exact vp_of (by omega) (by decide), fun M2 e2 => ?_⟩
    have G2 : RGb m M M2 := by rw [e2]; exact RG.ai (by decide) (by rw [show szA 93 = 1400 by decide]; omega)
    have F2 : Fix M2 := G2.fix F (by decide)
    have eA : mAI M2 = up2 (mAI M) 93 (1400 * m + sl.length) (Int32.ofNat (2 * n + v.toNat)) := by rw [e2]; rfl
    have i19 : mI M2 29 19 = Int32.ofNat m := by rw [G2.fI (by decide)]; exact b2
    rw [i19, lm]
    have e94 : mAI M2 94 m = Int32.ofNat sl.length := by rw [eA, up2_ne (fun z => absurd z.1 (by decide))]; exact g1
    refine ⟨ok29 F2, 94, rf29_76 F2, ok94 F2, v94 F2, v94 F2, fun M6 e6 => ?_⟩
    rw [e94, succ32] at e6
    have G6 : RGb m M2 M6 := by rw [e6]; exact RG.ai (by decide) (by rw [show szA 94 = 1 by decide]; omega)
    have eA6 : mAI M6 = up2 (mAI M2) 94 m (Int32.ofNat (sl.length + 1)) := by rw [e6]; rfl
    have row : ∀ c, c ≠ 93 → c ≠ 94 → mAI M6 c = mAI M c := fun c c1 c2 => by rw [eA6, up2_row c2, eA, up2_row c1]
    refine K M6 ⟨hB.fr9 (G2.tr G6) (row 79 (by decide) (by decide)) (fun c c1 c2 => row c (by omega) (by omega)), ⟨?_, fun i hi => ?_⟩, by rw [row 92 (by decide) (by decide)]; exact g3⟩ (G2.tr G6)
    · rw [eA6, List.length_append]; exact up2_eq
    · rw [List.length_append] at hi
      have hi : i < sl.length + 1 := hi
      rw [eA6, up2_ne (fun z => absurd z.1 (by decide)), eA]
      by_cases e : i = sl.length
      · rw [e, gdB]; exact up2_eq
      · rw [up2_ne (fun z => by omega), gdA (by omega)]
        exact g2 i (by omega)
  refine KX11_step ?_
  unfold DX11_step_0
  rw [b2, lm]
  refine ⟨ok29 F, 93, rf29_75 F, 94, rf29_76 F, ok94 F, v94 F, ?_⟩
  rw [g1, ex]
  cases v with
  | false => exact ⟨fun _ => fin 0 (by rw [Int32.add_zero, Int32.ofNat_add, Int32.ofNat_mul]; simp), fun z => absurd rfl z⟩
  | true => exact ⟨fun z => absurd z (by decide), fun _ => fin 1 (by rw [Int32.ofNat_add, Int32.ofNat_mul]; rfl)⟩
/-- the traps that are met upward from n, n among them -/
def TrC (m : Nat) (S : RBs) (pn : Nat → Int32) : Nat → Nat → List (Option Nat) → Prop
  | 0, _, _ => False
  | k + 1, n, cx => (700 * m ≤ n ∧ n < 700 * m + S.1) ∧ if S.2 80 n = 10 then ∃ t cx', cx = t :: cx' ∧ ((t = none ∧ S.2 81 n = -1) ∨ ∃ e, e < 160 ∧ t = some e ∧ S.2 81 n = Int32.ofNat e ∧ pn e = Int32.ofNat n) ∧ (cx' = [] ∨ ∃ x, prB m S n x ∧ TrC m S pn k x cx') else (cx = [] ∨ ∃ x, prB m S n x ∧ TrC m S pn k x cx)
theorem TrC_get {ρ : Nat → Nat} (hr : ∀ z x, prB m S z x → ρ z < ρ x) : ∀ (k n : Nat) (cx : List (Option Nat)) (v e : Nat), TrC m S pn k n cx → cx[v]? = some (some e) → ∃ n', n' < 700 * m + S.1 ∧ pn e = Int32.ofNat n' ∧ ρ n ≤ ρ n' := by
  intro k
  induction k with
  | zero => intro n cx v e h; exact h.elim
  | succ k ih =>
    intro n cx v e h hv
    obtain ⟨hn, h⟩ := h
    by_cases h10 : S.2 80 n = 10
    · rw [if_pos h10] at h
      obtain ⟨t, cx', e1, e2, e3⟩ := h
      subst e1
      cases v with
      | zero =>
        have hv : some t = some (some e) := hv
        cases hv
        rcases e2 with ⟨z, -⟩ | ⟨e', -, z, -, z2⟩
        · cases z
        · cases z
          exact ⟨n, hn.2, z2, Nat.le_refl _⟩
      | succ v =>
        have hv : cx'[v]? = some (some e) := hv
        rcases e3 with z | ⟨x, z1, z2⟩
        · rw [z] at hv; cases hv
        · obtain ⟨n', q1, q2, q3⟩ := ih x cx' v e z2 hv
          have := hr n x z1
          exact ⟨n', q1, q2, by omega⟩
    · rw [if_neg h10] at h
      rcases h with z | ⟨x, z1, z2⟩
      · rw [z] at hv; cases hv
      · obtain ⟨n', q1, q2, q3⟩ := ih x cx v e z2 hv
        have := hr n x z1
        exact ⟨n', q1, q2, by omega⟩
/-- the target of an exit: the nearest trap, or the v-th, which is part e's -/
def exT1 (pn : Nat → Int32) (cx : List (Option Nat)) (v : Nat) (x4 : Int32) : Prop := (x4 = -1 ∧ v = 0 ∧ cx ≠ []) ∨ ∃ e, cx[v]? = some (some e) ∧ x4 = pn e ∧ pn e ≠ -1
theorem co_loop {ρ : Nat → Nat} (hr : ∀ z x, prB m S z x → ρ z < ρ x) (hB : BuM m A pn S M) (h7 : S.1 ≤ 700) : ∀ (k n : Nat) (cx : List (Option Nat)) (v cd : Nat) (x4 : Int32), TrC m S pn k n cx → exT1 pn cx v x4 → Q (some (.int (Int32.ofNat (cd + v)))) M → T (h + 1) mdX11_codeOf 41 [(0, .ref 29), (2, .int (Int32.ofNat cd)), (3, .int (Int32.ofNat n)), (4, .int x4)] [] M Q := by
  obtain ⟨F, h4, b2, b3, b4, b5, b6⟩ := id hB
  intro k
  induction k with
  | zero => intro n cx v cd x4 h; exact h.elim
  | succ k ih =>
    intro n cx v cd x4 ht hx H
    obtain ⟨hn, ht⟩ := ht
    have ln : (Int32.ofNat n).toNatClampNeg = n := lt32 (by omega)
    have vn : ∀ {k : Nat}, k = 2800 → vp_in (Int32.ofNat n) k := fun e => by rw [e]; exact vp_of (by omega) (by decide)
    have m80 : mAI M 80 n = S.2 80 n := by rw [b4 80 (by decide) (by decide)]
    -- upward
    have up : ∀ (x cd' v' : Nat) (cx' : List (Option Nat)) (s1 : Int32), prB m S n x → TrC m S pn k x cx' → exT1 pn cx' v' x4 → Int32.ofNat cd + s1 = Int32.ofNat cd' → cd' + v' = cd + v → DX11_codeOf_81 h 29 (Int32.ofNat n) x4 (Int32.ofNat cd) s1 M Q := by
      intro x cd' v' cx' s1 hp hc hx' e1 e2
      unfold DX11_codeOf_81
      rw [ln, e1]
      have m86 : mAI M 86 n = Int32.ofNat x := by rw [b4 86 (by decide) (by decide)]; exact hp.2.2
      refine ⟨ok29 F, 86, rf29_68 F, ok86 F, vn (ln86 F), ?_⟩
      rw [m86]
      exact ih x cx' v' cd' x4 hc hx' (by rw [e2]; exact H)
    refine VX11_codeOf_41 ?_
    unfold DX11_codeOf_41 DX11_codeOf_93
    rw [ln]
    refine ⟨ok29 F, 80, rf29_62 F, ok80 F, vn (ln80 F), ?_⟩
    rw [m80]
    by_cases h10 : S.2 80 n = 10
    · rw [if_pos h10] at ht
      obtain ⟨t, cx', e1, e2, e3⟩ := ht
      subst e1
      refine ⟨fun z => absurd h10 z, fun _ => ?_⟩
      rcases hx with ⟨q1, q2, q3⟩ | ⟨e, q1, q2, q3⟩
      · refine ⟨fun _ => ?_, fun z => absurd q1 z⟩
        rw [q2] at H
        exact H
      · refine ⟨fun z => absurd (q2.symm.trans z) q3, fun _ => ?_⟩
        cases v with
        | zero =>
          have hv : some t = some (some e) := q1
          cases hv
          rcases e2 with ⟨z, -⟩ | ⟨e', -, z, -, z2⟩
          · cases z
          · cases z
            refine ⟨fun _ => H, fun z => absurd ?_ z⟩
            rw [q2, z2]
        | succ v =>
          have hv : cx'[v]? = some (some e) := q1
          rcases e3 with z | ⟨x, z1, z2⟩
          · rw [z] at hv; cases hv
          · obtain ⟨n', p1, p2, p3⟩ := TrC_get hr k x cx' v e z2 hv
            have := hr n x z1
            refine ⟨fun w => ?_, fun _ => ?_⟩
            · rw [q2, p2] at w
              have en : n = n' := inj32 (by omega) (by omega) w
              rw [← en] at p3
              omega
            · unfold DX11_codeOf_64
              rw [ln]
              refine ⟨ok29 F, 80, rf29_62 F, ok80 F, vn (ln80 F), ?_⟩
              rw [m80]
              exact ⟨fun z => absurd h10 z, fun _ => up x (cd + 1) v cx' 1 z1 z2 (Or.inr ⟨e, hv, q2, q3⟩) succ32 (by omega)⟩
    · rw [if_neg h10] at ht
      refine ⟨fun _ => ?_, fun z => absurd z h10⟩
      have hne : cx ≠ [] := by
        rcases hx with ⟨-, -, q3⟩ | ⟨e, q1, -⟩
        · exact q3
        · intro z; rw [z] at q1; cases q1
      rcases ht with z | ⟨x, z1, z2⟩
      · exact absurd z hne
      · unfold DX11_codeOf_64
        rw [ln]
        refine ⟨ok29 F, 80, rf29_62 F, ok80 F, vn (ln80 F), ?_⟩
        rw [m80]
        exact ⟨fun _ => up x cd v cx 0 z1 z2 hx (Int32.add_zero _) rfl, fun z => absurd z h10⟩
end
