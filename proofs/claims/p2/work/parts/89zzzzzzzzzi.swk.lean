/-! the class's Search: reach, groupAlike -/
def rwF (a : Nat → Nat) (r : Nat) : Prop := ∃ f, 5 ≤ f ∧ f ≤ 12 ∧ r = a f
section
variable {M M' M1 : Mem} {x c t n s h : Nat} {a : Nat → Nat} {Q : Option Value → Mem → Prop} {S : Nat → Prop}
theorem pw_1 {t : Nat} (h : t ≤ 5) : (1 : Int32) <<< (Int32.ofNat t &&& 31) = Int32.ofNat (2 ^ t) := by
  have : ∀ t : Fin 6, (1 : Int32) <<< (Int32.ofNat t.val &&& 31) = Int32.ofNat (2 ^ t.val) := by decide
  exact this ⟨t, by omega⟩
theorem nn32 {n : Nat} (h : n ≤ 48) : ¬ Int32.ofNat n < 0 := fun z => by
  have := (ltn32 (a := n) (b := 0) (by omega) (by decide)).mp z
  omega
theorem ScC.k (h : ScC M x t n a) (e3 : mI M' x 3 = mI M x 3) (e7 : mAI M' (a 7) = mAI M (a 7)) (e9 : mAI M' (a 9) = mAI M (a 9)) : ScC M' x t n a := by
  unfold ScC
  rw [e3, e7, e9]
  exact h
theorem ScO.ne (h : ScO M x c t a) {f g : Nat} (f1 : 5 ≤ f) (f2 : f ≤ 12) (g1 : 5 ≤ g) (g2 : g ≤ 12) (hn : f ≠ g) : a f ≠ a g := fun z => hn (h.2.2 f g f1 f2 g1 g2 z)
theorem ScC.nx {k : Nat} {v : Int32} (h : ScC M x t n a) (hO : ScO M x c t a) (hv : v < 0 ∨ ∃ q, q < 48 ∧ v = Int32.ofNat q) (e : M' = wAI M (a 9) k v) : ScC M' x t n a := by
  obtain ⟨c1, c2, c3⟩ := h
  refine ⟨by rw [e]; exact c1, ?_, fun j hj => ?_⟩
  · rw [aiN e (hO.ne (by decide) (by decide) (by decide) (by decide) (by decide))]; exact c2
  · rw [e, mAI_wAI]
    by_cases z : j = k
    · rw [if_pos ⟨rfl, z⟩]; exact hv
    · rw [if_neg (fun y => z y.2)]; exact c3 j hj
theorem S_reach {v w b : Int32} (hO : ScO M x c t a) (hC : ScC M x t n a) (hs : s < 48) (K : ∀ M' n' (r : Int32), GmF x f23 (rwF a) M M' → ScC M' x t n' a → n ≤ n' → (mI M' x 2 = mI M x 2 ∨ mI M' x 2 = 1) → (r < 0 ∨ ∃ q, q < 48 ∧ r = Int32.ofNat q) → Q (some (.int r)) M') : E (h + 1) mdX5_reach [.ref x, .int (Int32.ofNat s), .int v, .int w, .int b] M Q := by
  obtain ⟨⟨ox, e0, e1, t5⟩, hf, hd⟩ := id hO
  obtain ⟨⟨c1, c2⟩, c3, c4⟩ := id hC
  have hEnd : ∀ k (y : Int32), n ≤ k → k ≤ 48 → DX5_reach_12 h x (Int32.ofNat s) v w y (Int32.ofNat k) M Q := by
    intro k y hk hk8
    have ln : (Int32.ofNat n).toNatClampNeg = n := lt32 (by omega)
    unfold DX5_reach_12
    rw [c1]
    refine ⟨ox, fun _ => ⟨fun z => ?_, fun z => ⟨Or.inr rfl, fun M15 e15 => ?_⟩⟩, fun z => absurd ((le32 (by omega) (by omega)).mpr hk) z⟩
    · have nlt : n < 48 := (ltn32 (a := n) (b := 48) (by omega) (by decide)).mp z
      have vn : ∀ {M1 : Mem} {f : Nat}, ScO M1 x c t a → 5 ≤ f → f ≤ 8 → vp_in (Int32.ofNat n) (mL M1 (a f)) := fun hO1 f1 f2 => by rw [hO1.l48 f1 (by omega) (by omega) (by omega)]; exact vp_of nlt (by decide)
      refine ⟨a 5, (hf 5 (by decide) (by decide)).1, (hf 5 (by decide) (by decide)).2.1, vn hO (by decide) (by decide), fun M4 e4 => ?_⟩
      have k4 : GmF x f23 (rwF a) M M4 := GmF.a ⟨5, by decide, by decide, rfl⟩ e4
      have O4 := hO.gm k4 (by decide)
      have i4 : mI M4 x 3 = Int32.ofNat n := by rw [e4]; exact c1
      rw [i4]
      refine ⟨a 6, (O4.2.1 6 (by decide) (by decide)).1, (O4.2.1 6 (by decide) (by decide)).2.1, vn O4 (by decide) (by decide), fun M7 e7 => ?_⟩
      have k7 : GmF x f23 (rwF a) M M7 := k4.tr (GmF.a ⟨6, by decide, by decide, rfl⟩ e7)
      have O7 := hO.gm k7 (by decide)
      have i7 : mI M7 x 3 = Int32.ofNat n := by rw [e7]; exact i4
      rw [i7]
      refine ⟨a 7, (O7.2.1 7 (by decide) (by decide)).1, (O7.2.1 7 (by decide) (by decide)).2.1, vn O7 (by decide) (by decide), fun M10 e10 => ?_⟩
      have k10 : GmF x f23 (rwF a) M M10 := k7.tr (GmF.a ⟨7, by decide, by decide, rfl⟩ e10)
      have O10 := hO.gm k10 (by decide)
      have i10 : mI M10 x 3 = Int32.ofNat n := by rw [e10]; exact i7
      rw [i10]
      refine ⟨a 8, (O10.2.1 8 (by decide) (by decide)).1, (O10.2.1 8 (by decide) (by decide)).2.1, vn O10 (by decide) (by decide), fun M13 e13 M14 e14 => ?_⟩
      have i13 : mI M13 x 3 = Int32.ofNat n := by rw [e13]; exact i10
      rw [i13, succ32] at e14
      have k14 : GmF x f23 (rwF a) M M14 := (k10.tr (GmF.a ⟨8, by decide, by decide, rfl⟩ e13)).tr (GmF.i (Or.inr rfl) e14)
      have i14 : mI M14 x 3 = Int32.ofNat (n + 1) := by rw [e14, mI_wI, if_pos ⟨rfl, rfl⟩]
      have a14 : mAI M14 = mAI M13 := by rw [e14]; rfl
      rw [i14, ← succ32, Int32.add_sub_cancel]
      refine K M14 (n + 1) _ k14 ⟨⟨i14, by omega⟩, fun q hq => ?_, fun j hj => ?_⟩ (by omega) (Or.inl ?_) (Or.inr ⟨n, nlt, rfl⟩)
      · rw [a14, aiN e13 (hO.ne (by decide) (by decide) (by decide) (by decide) (by decide)), e10, mAI_wAI]
        by_cases z : q = n
        · rw [if_pos ⟨rfl, by rw [ln]; exact z⟩]; exact ⟨s, hs, rfl⟩
        · rw [if_neg (fun y => z (by rw [← ln]; exact y.2)), aiN e7 (hO.ne (by decide) (by decide) (by decide) (by decide) (by decide)), aiN e4 (hO.ne (by decide) (by decide) (by decide) (by decide) (by decide))]; exact c3 q hq
      · rw [a14, aiN e13 (hO.ne (by decide) (by decide) (by decide) (by decide) (by decide)), aiN e10 (hO.ne (by decide) (by decide) (by decide) (by decide) (by decide)), aiN e7 (hO.ne (by decide) (by decide) (by decide) (by decide) (by decide)), aiN e4 (hO.ne (by decide) (by decide) (by decide) (by decide) (by decide))]; exact c4 j hj
      · rw [e14, mI_wI, if_neg (fun y => absurd y.2 (by decide)), e13, e10, e7, e4]; rfl
    · refine K M15 n _ (GmF.i (Or.inl rfl) e15) (hC.k ?_ ?_ ?_) (Nat.le_refl _) (Or.inr ?_) (Or.inl (by decide))
      · rw [e15, mI_wI, if_neg (fun y => absurd y.2 (by decide))]
      · rw [e15]; rfl
      · rw [e15]; rfl
      · rw [e15, mI_wI, if_pos ⟨rfl, rfl⟩]
  have main : ∀ d k (y : Int32), k + d = 48 → T (h + 1) mdX5_reach 12 [(0, .ref x), (1, .int (Int32.ofNat s)), (2, .int v), (3, .int w), (5, .int y), (6, .int (Int32.ofNat k))] [] M Q := by
    intro d
    induction d with
    | zero =>
      intro k y hk
      have ek : k = 48 := hk
      exact VX5_reach_12 (hEnd k y (by omega) (by omega))
    | succ d ih =>
      intro k y hk
      by_cases z : n ≤ k
      · exact VX5_reach_12 (hEnd k y z (by omega))
      · have vk : ∀ {f : Nat}, 5 ≤ f → f ≤ 8 → vp_in (Int32.ofNat k) (mL M (a f)) := fun f1 f2 => by rw [hO.l48 f1 (by omega) (by omega) (by omega)]; exact vp_of (by omega) (by decide)
        refine VX5_reach_12 ?_
        unfold DX5_reach_12 DX5_reach_47
        rw [c1, succ32]
        have nx := ih (k + 1) y (by omega)
        exact ⟨ox, fun w => absurd ((le32 (by omega) (by omega)).mp w) z, fun _ => ⟨a 5, (hf 5 (by decide) (by decide)).1, (hf 5 (by decide) (by decide)).2.1, vk (by decide) (by decide), fun _ => nx, fun _ => ⟨a 6, (hf 6 (by decide) (by decide)).1, (hf 6 (by decide) (by decide)).2.1, vk (by decide) (by decide), fun _ => nx, fun _ => K M n _ GmF.rf hC (Nat.le_refl _) (Or.inl rfl) (Or.inr ⟨k, by omega, rfl⟩)⟩⟩⟩
  refine KX5_reach ?_
  unfold DX5_reach_0
  exact ⟨ox, main 47 1 _ (by omega)⟩
theorem S_grpAl (hO : ScO M x c t a) (hC : ScC M x t n a) (oc : ok M c 3) (K : ∀ M', GmF x noP (fun r => r = a 11 ∨ r = a 12) M M' → Q none M') : E (h + 4) mdX5_groupAlike [.ref x] M Q := by
  obtain ⟨c1, c2⟩ := hC.1
  have keep : ∀ M1, GmF x noP (fun r => r = a 11 ∨ r = a 12) M M1 → ScO M1 x c t a ∧ ScC M1 x t n a ∧ ok M1 c 3 := fun M1 k => ⟨hO.gm k (fun z => z), hC.k (k.2.2.2.1 3 (fun z => z)) (k.2.2.2.2 (a 7) (fun z => z.elim (hO.ne (by decide) (by decide) (by decide) (by decide) (by decide)) (hO.ne (by decide) (by decide) (by decide) (by decide) (by decide)))) (k.2.2.2.2 (a 9) (fun z => z.elim (hO.ne (by decide) (by decide) (by decide) (by decide) (by decide)) (hO.ne (by decide) (by decide) (by decide) (by decide) (by decide)))), k.ok oc⟩
  have ln : (Int32.ofNat n).toNatClampNeg = n := lt32 (by omega)
  have l4 : ∀ d r (x1 : Int32) M1, r + d = 49 → GmF x noP (fun r => r = a 11 ∨ r = a 12) M M1 → T (h + 4) mdX5_groupAlike 4 [(0, .ref x), (1, .int x1), (2, .int (Int32.ofNat r))] [] M1 Q := by
    intro d
    induction d with
    | zero =>
      intro r x1 M1 hr k1
      have er : r = 49 := hr
      subst er
      refine VX5_groupAlike_4 (h := h + 3) ?_
      unfold DX5_groupAlike_4 DX5_groupAlike_91
      exact ⟨fun _ => K M1 k1, fun z => absurd (by decide) z⟩
    | succ d ih =>
      intro r x1 M1 hr k1
      have l18 : ∀ e s (x1 : Int32) M2, s + e = n → GmF x noP (fun r => r = a 11 ∨ r = a 12) M M2 → T (h + 4) mdX5_groupAlike 18 [(0, .ref x), (1, .int x1), (2, .int (Int32.ofNat r)), (3, .int (Int32.ofNat s))] [] M2 Q := by
        intro e
        induction e with
        | zero =>
          intro s x1 M2 hs k2
          have es : s = n := hs
          subst es
          obtain ⟨O2, C2, oc2⟩ := keep M2 k2
          refine VX5_groupAlike_18 (h := h + 3) ?_
          unfold DX5_groupAlike_18
          rw [C2.1.1, ln, succ32]
          refine ⟨O2.1.1, fun _ => ⟨a 12, (O2.2.1 12 (by decide) (by decide)).1, a 11, (O2.2.1 11 (by decide) (by decide)).1, (O2.2.1 12 (by decide) (by decide)).2.1, (O2.2.1 11 (by decide) (by decide)).2.1, ⟨by decide, by decide, nn32 c2, ?_, ?_⟩, fun M6 e6 => ih (r + 1) x1 M6 (by omega) (k2.tr (GmF.cpn (Or.inl rfl) e6))⟩, fun z => absurd Int32.le_rfl z⟩
          · rw [O2.l48 (by decide) (by decide) (by decide) (by decide)]; show 0 + s ≤ 48; omega
          · rw [O2.l48 (by decide) (by decide) (by decide) (by decide)]; show 0 + s ≤ 48; omega
        | succ e ihe =>
          intro s x1 M2 hs k2
          obtain ⟨O2, C2, oc2⟩ := keep M2 k2
          have ls : (Int32.ofNat s).toNatClampNeg = s := lt32 (by omega)
          refine VX5_groupAlike_18 (h := h + 3) ?_
          unfold DX5_groupAlike_18 DX5_groupAlike_56 DX5_groupAlike_61
          rw [C2.1.1, succ32, succ32]
          refine ⟨O2.1.1, fun z => absurd ((le32 (by omega) (by omega)).mp z) (by omega), fun _ => ⟨a 12, (O2.2.1 12 (by decide) (by decide)).1, S_lstAl (h := h) O2 C2 oc2 (by omega) (fun r9 _ => ⟨r9, rfl, (O2.2.1 12 (by decide) (by decide)).2.1, by rw [O2.l48 (by decide) (by decide) (by decide) (by decide)]; exact vp_of (by omega) (by decide), fun M11 e11 => ?_⟩)⟩⟩
          have k11 : GmF x noP (fun r => r = a 11 ∨ r = a 12) M M11 := k2.tr (GmF.a (Or.inr rfl) e11)
          obtain ⟨O11, -, -⟩ := keep M11 k11
          have v11 : ∀ {f : Nat}, 11 ≤ f → f ≤ 12 → vp_in (Int32.ofNat s) (mL M11 (a f)) := fun f1 f2 => by rw [O11.l48 (by omega) f2 (by omega) (by omega)]; exact vp_of (by omega) (by decide)
          exact ⟨fun _ => ihe (s + 1) _ M11 (by omega) k11, fun _ => ⟨a 12, (O11.2.1 12 (by decide) (by decide)).1, (O11.2.1 12 (by decide) (by decide)).2.1, v11 (by decide) (by decide), a 11, (O11.2.1 11 (by decide) (by decide)).1, (O11.2.1 11 (by decide) (by decide)).2.1, v11 (by decide) (by decide), fun _ => ihe (s + 1) _ M11 (by omega) k11, fun _ => ihe (s + 1) _ M11 (by omega) k11⟩⟩
      refine VX5_groupAlike_4 (h := h + 3) ?_
      unfold DX5_groupAlike_4 DX5_groupAlike_91
      exact ⟨fun z => absurd ((ltn32 (a := 48) (by decide) (by omega)).mp z) (by omega), fun _ => ⟨fun _ => K M1 k1, fun _ => l18 n 0 0 M1 (by omega) k1⟩⟩
  refine KX5_groupAlike (h := h + 3) ?_
  unfold DX5_groupAlike_0
  exact l4 49 0 1 M (by omega) GmF.rf
end
