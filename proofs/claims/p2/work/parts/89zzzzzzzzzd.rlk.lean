/-! the reference's look, and its whole state -/
/-- a module's search: not made, beyond, or made -/
def SrG (M : Mem) (m : Nat) : Prop := mAI M 122 m = 0 ∨ mAI M 122 m = 2 ∨ (mAI M 122 m = 1 ∧ ∃ n t f, SrI M m n ∧ FrE M m t ∧ t ≤ 5 ∧ ClF M m n f)
/-- the reference as a whole: mods modules, govs governors -/
def RvS (M : Mem) (mods govs : Nat) : Prop := RGs M mods govs ∧ LdO M ∧ ∀ m, m < mods → (∃ R sl il X np, moM R = m ∧ RbM R sl il X np M) ∧ SrG M m ∧ ∃ f, f ≤ 100 ∧ mAI M 56 m = Int32.ofNat f
/-- only the reference's own cells change -/
abbrev RrF (M M' : Mem) : Prop := RfF (fun f => (83 ≤ f ∧ f ≤ 89) ∨ f = 123 ∨ f = 124) (fun c => (95 ≤ c ∧ c ≤ 101) ∨ (122 ≤ c ∧ c ≤ 131)) noP M M'
section
variable {M M1 M' : Mem} {m i n s t h mods govs : Nat} {Q : Option Value → Mem → Prop} {R : RMo} {sl il : List Nat} {X : List Nd} {np : Nat}
theorem SkF.rr (k : SkF m M M') : RrF M M' := RfF.mo k.1 (fun _ z => Or.inl z) (fun c z => z) (fun c z => z)
theorem SrG.ne (hG : SrG M m) (hi : m ≠ i) (k : SkF i M M') : SrG M' m := by
  have a1 : ∀ c, c = 122 ∨ c = 123 → mAI M' c m = mAI M c m := fun c hc => k.2 c m (by omega) (by omega) (by unfold skA; omega)
  have a2 : ∀ c s, s < 48 → c = 126 ∨ c = 128 → mAI M' c (48 * m + s) = mAI M c (48 * m + s) := fun c s hs hc => k.2 c _ (by omega) (by omega) (by unfold skA; omega)
  rcases hG with g | g | ⟨g, n, t, f, ⟨b1, b2, b3, b4⟩, b5, b6, b7⟩
  · exact Or.inl (by rw [a1 122 (by omega)]; exact g)
  · exact Or.inr (Or.inl (by rw [a1 122 (by omega)]; exact g))
  · refine Or.inr (Or.inr ⟨by rw [a1 122 (by omega)]; exact g, n, t, f, ⟨by rw [a1 123 (by omega)]; exact b1, b2, ?_, fun s s1 s2 => ?_⟩, b5.sk k, b6, fun s hs => ?_⟩)
    · have := a2 126 0 (by decide) (by omega)
      rw [Nat.add_zero] at this
      rw [this]; exact b3
    · rw [a2 126 s (by omega) (by omega)]; exact b4 s s1 s2
    · rw [a2 128 s (by omega) (by omega)]; exact b7 s hs
theorem R_look {S : Nat} (hB : RbM R sl il X np M) (F : Fix M) (hL : LdO M) (hG : SrG M (moM R)) (hf : FrE M (moM R) t) (t9 : t ≤ 1000) (eS : mAI M 34 (moM R) = Int32.ofNat S) (hS : S ≤ 16) (K : ∀ M', SkF (moM R) M M' → LdO M' → SrG M' (moM R) → mAI M' 122 (moM R) ≠ 0 → Q none M') : E (h + 7) mdX11_look [.ref 29, .int (Int32.ofNat (moM R))] M Q := by
  have m4 : moM R < 4 := hB.1.1.1
  have lm : (Int32.ofNat (moM R)).toNatClampNeg = moM R := lt32 (by omega)
  have vm : ∀ {k : Nat}, k = 4 → vp_in (Int32.ofNat (moM R)) k := fun e => by rw [e]; exact vp_of (by omega) (by decide)
  have e480 : 48 * Int32.ofNat (moM R) = Int32.ofNat (48 * moM R) := by rw [Int32.ofNat_mul]; rfl
  have v48 : ∀ {k : Nat}, k = 192 → vp_in (Int32.ofNat (48 * moM R)) k := fun e => by rw [e]; exact vp_of (by omega) (by decide)
  have l48 : (Int32.ofNat (48 * moM R)).toNatClampNeg = 48 * moM R := lt32 (by omega)
  -- its end
  have d194 : ∀ M1 n1, t ≤ 5 → SkF (moM R) M M1 → SrI M1 (moM R) n1 → LdO M1 → (mAI M1 122 (moM R) = 1 ∨ mAI M1 122 (moM R) = 2) → DX11_look_194 (h + 6) 29 (Int32.ofNat (moM R)) M1 Q := by
    intro M1 n1 t5 k1 r1 L1 e1
    have F1 := k1.fix F
    unfold DX11_look_194 DX11_look_209
    rw [lm]
    refine ⟨ok29 F1, 122, rf29_114 F1, ok122 F1, vm (ln122 F1), fun z => ?_, fun z => ?_⟩
    · have e2 := e1.resolve_left z
      exact K M1 k1 L1 (Or.inr (Or.inl e2)) (by rw [e2]; decide)
    · refine R_part1 (h := h + 3) F1 m4 r1 L1 (hf.sk k1) t5 (by rw [k1.row (Or.inl (by decide))]; exact eS) hS (fun M2 f k2 r2 C2 _ _ => ⟨rfl, ?_⟩)
      have e2 : mAI M2 122 (moM R) = 1 := by rw [r2 122 (by omega)]; exact z
      exact K M2 (k1.tr k2) (L1.k (r2 129 (by omega))) (Or.inr (Or.inr ⟨e2, n1, t, f, r1.k (r2 123 (by omega)) (r2 126 (by omega)), (hf.sk k1).sk k2, t5, C2⟩)) (by rw [e2]; decide)
  -- STATE by STATE
  have l130 : ∀ (x2 : Int32) d s M1 n1, t ≤ 5 → s + d = 48 → SkF (moM R) M M1 → SrI M1 (moM R) n1 → LdO M1 → mI M1 29 84 = Int32.ofNat (moM R) → (mAI M1 122 (moM R) = 1 ∨ mAI M1 122 (moM R) = 2) → T (h + 7) mdX11_look 130 [(0, .ref 29), (1, .int (Int32.ofNat (moM R))), (2, .int x2), (3, .int (Int32.ofNat s))] [] M1 Q := by
    intro x2 d
    induction d with
    | zero =>
      intro s M1 n1 t5 hs k1 r1 L1 g1 e1
      have F1 := k1.fix F
      have n48 := r1.2.1.2
      refine VX11_look_130 (h := h + 6) ?_
      unfold DX11_look_130
      refine ⟨ok29 F1, 123, rf29_115 F1, ok123 F1, vm (ln123 F1), ?_⟩
      rw [lm, r1.1]
      have hs8 : s = 48 := hs
      exact ⟨fun _ => d194 M1 n1 t5 k1 r1 L1 e1, fun z => absurd ((le32 (a := n1) (b := s) (by omega) (by omega)).mpr (by omega)) z⟩
    | succ d ih =>
      intro s M1 n1 t5 hs k1 r1 L1 g1 e1
      have F1 := k1.fix F
      have n48 := r1.2.1.2
      obtain ⟨p1, p2⟩ := pw_le t5
      have l153 : ∀ e v M2 n2, v + e = 2 ^ t → n1 ≤ n2 → SkF (moM R) M M2 → SrI M2 (moM R) n2 → LdO M2 → mI M2 29 84 = Int32.ofNat (moM R) → s < n2 → (mAI M2 122 (moM R) = 1 ∨ mAI M2 122 (moM R) = 2) → T (h + 7) mdX11_look 153 [(0, .ref 29), (1, .int (Int32.ofNat (moM R))), (2, .int x2), (3, .int (Int32.ofNat s)), (4, .int (Int32.ofNat v))] [] M2 Q := by
        intro e
        induction e with
        | zero =>
          intro v M2 n2 hv hn k2 r2 L2 g2 sn e2
          have F2 := k2.fix F
          have ev : v = 2 ^ t := by omega
          subst ev
          refine VX11_look_153 (h := h + 6) ?_
          unfold DX11_look_153 DX11_look_188
          rw [succ32]
          exact ⟨ok29 F2, R_moves (h := h + 5) F2 m4 (hf.sk k2) t5 (fun _ => ⟨_, rfl, fun _ => ih (s + 1) M2 n2 t5 (by omega) k2 r2 L2 g2 e2, fun z => absurd Int32.le_rfl z⟩)⟩
        | succ e ihe =>
          intro v M2 n2 hv hn k2 r2 L2 g2 sn e2
          have F2 := k2.fix F
          have nle : ¬ Int32.ofNat (2 ^ t) ≤ Int32.ofNat v := fun z => by
            have := (le32 (by omega) (by omega)).mp z
            omega
          refine VX11_look_153 (h := h + 6) ?_
          unfold DX11_look_153 DX11_look_188
          rw [succ32, succ32]
          refine ⟨ok29 F2, R_moves (h := h + 5) F2 m4 (hf.sk k2) t5 (fun _ => ⟨_, rfl, fun z => absurd z nle, fun _ => ⟨122, rf29_114 F2, ok122 F2, vm (ln122 F2), fun _ => ih (s + 1) M2 n2 t5 (by omega) k2 r2 L2 g2 e2, fun z => ?_⟩⟩)⟩
          rw [lm] at z
          exact R_mv1 (h := h) (hB.sk k2) F2 g2 r2 L2 sn (by omega) z (fun M3 n3 k3 r3 hn3 L3 g3 e3 _ => ⟨rfl, ihe (v + 1) M3 n3 (by omega) (by omega) (k2.tr k3) r3 L3 g3 (by omega) e3⟩)
      refine VX11_look_130 (h := h + 6) ?_
      unfold DX11_look_130
      refine ⟨ok29 F1, 123, rf29_115 F1, ok123 F1, vm (ln123 F1), ?_⟩
      rw [lm, r1.1]
      refine ⟨fun _ => d194 M1 n1 t5 k1 r1 L1 e1, fun z => ⟨122, rf29_114 F1, ok122 F1, vm (ln122 F1), fun _ => d194 M1 n1 t5 k1 r1 L1 e1, fun _ => ?_⟩⟩
      have sn : s < n1 := by
        rcases Nat.lt_or_ge s n1 with y | y
        · exact y
        · exact absurd ((le32 (by omega) (by omega)).mpr y) z
      exact l153 (2 ^ t) 0 M1 n1 (by omega) (Nat.le_refl _) k1 r1 L1 g1 sn e1
  refine KX11_look (h := h + 6) ?_
  unfold DX11_look_0
  refine ⟨ok29 F, 122, rf29_114 F, ok122 F, vm (ln122 F), ?_⟩
  rw [lm]
  refine ⟨fun z => ⟨122, rf29_114 F, ok122 F, vm (ln122 F), fun M6 e6 => ?_⟩, fun z => K M SkF.rf hL hG (fun y => z (by rw [y]; decide))⟩
  have k6 : SkF (moM R) M M6 := SkF.ai (c := 122) (k := moM R) (by unfold skA; omega) e6
  have F6 := k6.fix F
  obtain ⟨i, f, f1, f2, f3⟩ := hf.sk k6
  refine ⟨35, rf29_9 F6, ok35 F6, vm (ln35 F6), 56, rf29_36 F6, ok56 F6, vm (ln56 F6), ?_⟩
  rw [f1, f2, add32, f3]
  refine ⟨fun z5 => ?_, fun z5 => ⟨122, rf29_114 F6, ok122 F6, vm (ln122 F6), fun M13 e13 => ?_⟩⟩
  · have t5 : t ≤ 5 := (le32 (a := t) (b := 5) (by omega) (by decide)).mp z5
    have q6 : ∀ c, c ≠ 122 → mAI M6 c = mAI M c := fun c hc => aiN e6 hc
    have l46 : ∀ d s (x2 : Int32), s + d = S → T (h + 7) mdX11_look 46 [(0, .ref 29), (1, .int (Int32.ofNat (moM R))), (2, .int x2), (3, .int (Int32.ofNat s))] [] M6 Q := by
      intro d
      induction d with
      | zero =>
        intro s x2 hs
        have es : s = S := by omega
        subst es
        refine VX11_look_46 (h := h + 6) ?_
        unfold DX11_look_46
        refine ⟨ok29 F6, 34, rf29_8 F6, ok34 F6, vm (ln34 F6), ?_⟩
        rw [lm, q6 34 (by decide), eS, e480, l48]
        refine ⟨fun _ M7 e7 => ?_, fun z => absurd Int32.le_rfl z⟩
        have k7 : SkF (moM R) M M7 := k6.tr (SkF.i (by omega) e7)
        have F7 := k7.fix F
        refine ⟨123, rf29_115 F7, ok123 F7, vm (ln123 F7), fun M8 e8 => ?_⟩
        have k8 : SkF (moM R) M M8 := k7.tr (SkF.ai (c := 123) (k := moM R) (by unfold skA; omega) e8)
        have F8 := k8.fix F
        refine ⟨124, rf29_116 F8, ok124 F8, v48 (ln124 F8), fun M10 e10 => ?_⟩
        have k10 : SkF (moM R) M M10 := k8.tr (SkF.ai (c := 124) (k := 48 * moM R) (by unfold skA; omega) e10)
        have F10 := k10.fix F
        refine ⟨125, rf29_117 F10, ok125 F10, v48 (ln125 F10), fun M12 e12 => ?_⟩
        have k12 : SkF (moM R) M M12 := k10.tr (SkF.ai (c := 125) (k := 48 * moM R) (by unfold skA; omega) e12)
        have F12 := k12.fix F
        refine ⟨126, rf29_118 F12, ok126 F12, v48 (ln126 F12), fun M16 e16 => ?_⟩
        have k16 : SkF (moM R) M M16 := k12.tr (SkF.ai (c := 126) (k := 48 * moM R) (by unfold skA; omega) e16)
        refine l130 x2 48 0 M16 1 t5 (by omega) k16 ⟨?_, ⟨by omega, by omega⟩, ?_, fun s s1 s2 => by omega⟩ (hL.k ?_) ?_ (Or.inl ?_)
        · rw [e16, mAI_wAI, if_neg (fun y => absurd y.1 (by decide)), e12, mAI_wAI, if_neg (fun y => absurd y.1 (by decide)), e10, mAI_wAI, if_neg (fun y => absurd y.1 (by decide)), e8, mAI_wAI, if_pos ⟨rfl, rfl⟩]; rfl
        · rw [e16, mAI_wAI, if_pos ⟨rfl, rfl⟩]
        · exact (aiN e16 (by decide)).trans ((aiN e12 (by decide)).trans ((aiN e10 (by decide)).trans ((aiN e8 (by decide)).trans ((show mAI M7 129 = mAI M6 129 from by rw [e7]; rfl).trans (aiN e6 (by decide))))))
        · rw [e16, e12, e10, e8]
          show mI M7 29 84 = _
          rw [e7, mI_wI, if_pos ⟨rfl, rfl⟩]
        · rw [e16, mAI_wAI, if_neg (fun y => absurd y.1 (by decide)), e12, mAI_wAI, if_neg (fun y => absurd y.1 (by decide)), e10, mAI_wAI, if_neg (fun y => absurd y.1 (by decide)), e8, mAI_wAI, if_neg (fun y => absurd y.1 (by decide)), e7]
          show mAI M6 122 _ = _
          rw [e6, mAI_wAI, if_pos ⟨rfl, rfl⟩]
      | succ d ih =>
        intro s x2 hs
        have e16 : 16 * Int32.ofNat (moM R) + Int32.ofNat s = Int32.ofNat (16 * moM R + s) := by rw [Int32.ofNat_add, Int32.ofNat_mul]; rfl
        refine VX11_look_46 (h := h + 6) ?_
        unfold DX11_look_46 DX11_look_78
        refine ⟨ok29 F6, 34, rf29_8 F6, ok34 F6, vm (ln34 F6), ?_⟩
        rw [lm, q6 34 (by decide), eS, e16, succ32]
        exact ⟨fun z => absurd ((le32 (by omega) (by omega)).mp z) (by omega), fun _ => ⟨40, rf29_14 F6, ok40 F6, by rw [ln40 F6]; exact vp_of (by omega) (by decide), fun _ => ih (s + 1) _ (by omega), fun _ => ih (s + 1) _ (by omega)⟩⟩
    exact l46 S 0 0 (by omega)
  · have e2 : mAI M13 122 (moM R) = 2 := by rw [e13, mAI_wAI, if_pos ⟨rfl, rfl⟩]
    exact K M13 (k6.tr (SkF.ai (c := 122) (k := moM R) (by unfold skA; omega) e13)) ((hL.k (aiN e6 (by decide))).k (aiN e13 (by decide))) (Or.inr (Or.inl e2)) (by rw [e2]; decide)
theorem RGs.sk (hR : RGs M mods govs) (k : SkF i M M') : RGs M' mods govs := by
  obtain ⟨F, ⟨a1, a2, a3⟩, ⟨b1, b2⟩, c, d, e⟩ := hR
  have f : ∀ j, ¬ (83 ≤ j ∧ j ≤ 89) → mI M' 29 j = mI M 29 j := fun j hj => k.1.2.2.2.1 j hj
  have r : ∀ c, c < 95 ∨ (102 ≤ c ∧ c < 122) → mAI M' c = mAI M c := fun c hc => k.row hc
  refine ⟨k.fix F, ⟨by rw [f 18 (by omega)]; exact a1, a2, fun j => by rw [r 103 (by omega)]; exact a3 j⟩, ⟨by rw [f 91 (by omega)]; exact b1, b2⟩, ?_, ?_, ?_⟩
  · rw [r 102 (by omega)]; exact c
  · rw [r 110 (by omega)]; exact d
  · rw [r 34 (by omega), r 35 (by omega), r 36 (by omega), r 54 (by omega), r 55 (by omega)]; exact e
theorem RvS.sk (hR : RvS M mods govs) (k : SkF i M M') (L : LdO M') (G : SrG M' i) : RvS M' mods govs := by
  obtain ⟨a, b, c⟩ := hR
  refine ⟨a.sk k, L, fun m hm => ?_⟩
  obtain ⟨⟨R, sl, il, X, np, e, hB⟩, g, f, f1, f2⟩ := c m hm
  refine ⟨⟨R, sl, il, X, np, e, hB.sk k⟩, ?_, f, f1, by rw [k.row (Or.inl (by decide))]; exact f2⟩
  by_cases z : m = i
  · rw [z]; exact G
  · exact g.ne z k
theorem R_lkm (hR : RvS M mods govs) (hi : i < mods) (K : ∀ M', SkF i M M' → RvS M' mods govs → mAI M' 122 i ≠ 0 → Q none M') : E (h + 7) mdX11_look [.ref 29, .int (Int32.ofNat i)] M Q := by
  obtain ⟨a, b, c⟩ := id hR
  obtain ⟨⟨R, sl, il, X, np, e, hB⟩, g, f, f1, f2⟩ := c i hi
  subst e
  obtain ⟨⟨k, k1, k2⟩, ⟨k3, k4, k5⟩, -⟩ := a.2.2.2.2.2 (moM R) hi
  exact R_look (h := h) hB a.1 b g ⟨k3, f, k5, f2, rfl⟩ (by omega) k2 k1 (fun M' kk L G nz => K M' kk (hR.sk kk L G) nz)
theorem R_isSd {x : Int32} (hR : RvS M mods govs) (K0 : ∀ M', RvS M' mods govs → RrF M M' → mI M' 29 123 = mI M 29 123 → mI M' 29 124 = mI M 29 124 → Q (some (.int 0)) M') (K1 : ∀ i M', i < mods → x = Int32.ofNat i → RvS M' mods govs → SkF i M M' → mAI M' 122 i = 1 → Q (some (.int 1)) M') : E (h + 8) mdX11_isSearched [.ref 29, .int x] M Q := by
  have F := hR.1.1
  refine KX11_isSearched (h := h + 7) ?_
  unfold DX11_isSearched_0 DX11_isSearched_30
  refine ⟨ok29 F, R_isMod (h := h + 5) hR.1 (fun i hi e _ => ⟨1, rfl, fun _ => ?_, fun z => absurd z (by decide)⟩) (fun _ _ => ⟨0, rfl, fun z => absurd rfl z, fun _ => ⟨Or.inl rfl, K0 M hR RfF.rf rfl rfl⟩⟩)⟩
  rw [e]
  refine R_lkm (h := h) hR hi (fun M4 k4 R4 nz _ => ⟨rfl, ?_⟩)
  have F4 := R4.1.1
  have i4 : i < 4 := Nat.lt_of_lt_of_le hi hR.1.2.1.2.1
  have f : ∀ j, ¬ (83 ≤ j ∧ j ≤ 89) → mI M4 29 j = mI M 29 j := fun j hj => k4.1.2.2.2.1 j hj
  refine ⟨122, rf29_114 F4, ok122 F4, by rw [ln122 F4]; exact vp_of (by omega) (by decide), ?_⟩
  rw [lt32 (show i < 2147483648 by omega)]
  exact ⟨fun _ => ⟨Or.inl rfl, K0 M4 R4 k4.rr (f 123 (by omega)) (f 124 (by omega))⟩, fun z => ⟨Or.inr rfl, K1 i M4 hi e R4 k4 z⟩⟩
end
