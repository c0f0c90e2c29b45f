/-! the reference reads a sum: its loop against rd -/
def EndJ (Lm : Nat) (b : Nat → Int32) (n s m : Nat) (sN : List Int64) (ro mx : List Int32) (vN : List Int64) (M : Mem) (o pr : Nat) (σ0 ν : List Nat) (K : Mem → Prop) (Kx : Mem → Prop) (R : Except (Int32 × Nat) (Nat × List Nd × Int32)) : Prop := match R with
  | .ok r => ∀ M' π r' X', (∀ e ∈ π, 4 ≤ e.1 ∧ e.1 ≤ Lm) → SR b n s m sN ro mx vN (0, 0) M' r.1 o pr (π.map Prod.fst ++ σ0) (r' :: (π.map Prod.snd ++ ν)) X' → jf π r' X' = (r.2.1.length - 1, r.2.1) → (tK b n r.1 ≠ 22 ∧ tK b n r.1 ≠ 23 ∧ tK b n r.1 ≠ 24 ∧ (Lm = 8 → tK b n r.1 ≠ 20 ∧ tK b n r.1 ≠ 21)) → RFm m M M' → K M'
  | .error e => ∀ M', TXr M' e.1 e.2 → RFm m M M' → Kx M'
theorem dec32 {a : Nat} (h : a < 100000) : Int32.ofNat (a + 1) - 1 = Int32.ofNat a := sub32 (c := 1) (by omega) (by omega)
section
variable {b : Nat → Int32} {n s m : Nat} {sN : List Int64} {ro mx : List Int32} {vN : List Int64} {h : Nat} {Q : Option Value → Mem → Prop}
theorem EndJ.fr {Lm : Nat} {M M1 : Mem} {o pr : Nat} {σ0 ν : List Nat} {K Kx : Mem → Prop} {R : Except (Int32 × Nat) (Nat × List Nd × Int32)} (hE : EndJ Lm b n s m sN ro mx vN M o pr σ0 ν K Kx R) (F : RFm m M M1) : EndJ Lm b n s m sN ro mx vN M1 o pr σ0 ν K Kx R := by
  cases R with
  | error e => exact fun M' T' F' => hE M' T' (F.tr F')
  | ok r => exact fun M' π r' X' a1 a2 a3 a4 F' => hE M' π r' X' a1 a2 a3 a4 (F.tr F')
theorem EndO.fr {M M1 : Mem} {o k pr : Nat} {σ0 ν : List Nat} {K Kx : Mem → Prop} {R : Except (Int32 × Nat) (Nat × List Nd × Int32)} (hE : EndO b n s m sN ro mx vN M o k pr σ0 ν K Kx R) (F : RFm m M M1) : EndO b n s m sN ro mx vN M1 o k pr σ0 ν K Kx R := by
  cases R with
  | error e => exact fun M' T' F' => hE M' T' (F.tr F')
  | ok r => exact fun M' a1 F' => hE M' a1 (F.tr F')
theorem XL {M : Mem} {f : Int32} {p : Nat} {x1 x2 : Int32} (hT : TXr M f p) (H : Q (some (.int 0)) M) : T (h + 5) mdX11_readSum 19 [(0, .ref 29), (1, .int x1), (2, .int x2)] [] M Q := by
  obtain ⟨F, h6, hp, h7⟩ := hT
  have n0 : ¬ mI M 29 6 = 0 := by rw [h6]; intro z; rw [z] at hp; exact absurd hp (by decide)
  have nl : ¬ mI M 29 6 ≤ 0 := by rw [h6]; exact Int32.not_le.mpr hp
  refine VX11_readSum_19 ?_
  unfold DX11_readSum_19 DX11_readSum_264 DX11_readSum_292
  refine ⟨fun _ => ⟨ok29 F, fun _ => ⟨ok29 F, fun z => absurd z nl, fun _ => H⟩, fun z => absurd z n0⟩, fun _ => ⟨ok29 F, fun _ => ⟨ok29 F, fun _ => ⟨ok29 F, fun z => absurd z nl, fun _ => H⟩, fun z => absurd z n0⟩, fun z => absurd z n0⟩⟩
theorem B_join {L : Nat} {σb νb : List Nat} {π : List (Nat × Nat)} {r : Nat} {X : List Nd} {M : Mem} {i o pr : Nat} (hL : L = 6 ∨ L = 8) (hb : top? σb (fun x => x < 4 ∨ L < x)) (hπ : ∀ e ∈ π, 4 ≤ e.1 ∧ e.1 ≤ L) (h100 : ∀ x ∈ σb, x < 100) (hR : SR b n s m sN ro mx vN (0, 0) M i o pr (π.map Prod.fst ++ σb) (r :: (π.map Prod.snd ++ νb)) X) (H : ∀ M', SR b n s m sN ro mx vN (0, 0) M' i o pr σb ((jf π r X).1 :: νb) (jf π r X).2 → RFm m M M' → Q none M') : E (h + 3) mdX11_joinSums [.ref 29, .int (Int32.ofNat L)] M Q := by
  refine E.of (by decide) (Nat.le_of_ble_eq_true rfl) (fun _ _ _ => trivial) ?_
  show T _ _ 0 [(0, .ref 29), (1, .int (Int32.ofNat L))] [] M _
  exact B_joinT hL hb π r X M i hπ h100 hR H
/-- an operator: pending ones are joined, it is put on the stack, its token is taken -/
theorem B_op {L op : Nat} {σb νb : List Nat} {π : List (Nat × Nat)} {r : Nat} {X : List Nd} {M : Mem} {i o pr : Nat} (hB : By b) (hs : i < s) (hL : L = 6 ∨ L = 8) (hop : op < 10) (hb : top? σb (fun x => x < 4 ∨ L < x)) (hπ : ∀ e ∈ π, 4 ≤ e.1 ∧ e.1 ≤ L) (h100 : ∀ x ∈ σb, x < 100) (hR : SR b n s m sN ro mx vN (0, 0) M i o pr (π.map Prod.fst ++ σb) (r :: (π.map Prod.snd ++ νb)) X) (H1 : tK b n (i + 1) ≠ 0 → ∀ M', SR b n s m sN ro mx vN (0, 0) M' (i + 1) o pr (op :: σb) ((jf π r X).1 :: νb) (jf π r X).2 → RFm m M M' → T (h + 5) mdX11_readSum 19 [(0, .ref 29), (1, .int 1), (2, .int 1)] [] M' Q) (H0 : tK b n (i + 1) = 0 → ∀ M', TXr M' 1 (tP b n (i + 1)) → RFm m M M' → T (h + 5) mdX11_readSum 19 [(0, .ref 29), (1, .int 1), (2, .int 1)] [] M' Q) : DX11_readSum_109 (h + 4) 29 1 (Int32.ofNat op) 29 (Int32.ofNat L) M Q := by
  unfold DX11_readSum_109
  have F := hR.1.1
  refine ⟨ok29 F, B_join (h := h + 1) hL hb hπ h100 hR (fun M2 R2 F2 _ => ⟨rfl, ok29 R2.1.1, 52, rf29_28 R2.1.1, ok52 R2.1.1, ?_⟩)⟩
  obtain ⟨h1, h2, h3, h4, h5, h6, h7, h8, h9, h10⟩ := id R2
  rw [h7.1, lt32 (by omega)]
  refine ⟨by rw [ln52 h1.1]; exact vp_of (by omega) (by decide), fun A a C c => ?_⟩
  have iA : mI A 29 29 = Int32.ofNat σb.length := by rw [a, mI_wAI]; exact h7.1
  rw [iA, succ32] at c
  have stC : St C 52 29 0 (op :: σb) := h7.push (x := op) (by rw [c, a, Nat.zero_add])
  have frC : RFm m M2 C := by rw [c, a]; exact (RFm.st (Or.inl rfl)).tr (RFm.i (by decide))
  have g : ∀ f, f ≠ 29 → mI C 29 f = mI M2 29 f := by intro f hf; rw [c, a]; simp [hf, mNwI, mSwI, mKwI, mIwI, mJwI, mRwI, mLwI, mAIwI, mAJwI, mARwI, mNwJ, mSwJ, mKwJ, mIwJ, mJwJ, mRwJ, mLwJ, mAIwJ, mAJwJ, mARwJ, mNwR, mSwR, mKwR, mIwR, mJwR, mRwR, mLwR, mAIwR, mAJwR, mARwR, mNwAI, mSwAI, mKwAI, mIwAI, mJwAI, mRwAI, mLwAI, mAIwAI, mAJwAI, mARwAI, mNwAJ, mSwAJ, mKwAJ, mIwAJ, mJwAJ, mRwAJ, mLwAJ, mAIwAJ, mAJwAJ, mARwAJ, mNwAR, mSwAR, mKwAR, mIwAR, mJwAR, mRwAR, mLwAR, mAIwAR, mAJwAR, mARwAR, okkwI, okkwJ, okkwR, okkwAI, okkwAJ, okkwAR]
  have k : ∀ q, q ≠ 52 → mAI C q = mAI M2 q := by intro q hq; rw [c, mAI_wI, a, mAI_wAI_ne hq]
  have kJ : mAJ C = mAJ M2 := by rw [c, a]; rfl
  refine B_take (pr := pr) (o := o) (h1.fr frC) ⟨h2.1, h2.2.1, hs⟩ ((g 5 (by decide)).trans h3) ((g 6 (by decide)).trans h4.1) ((g 33 (by decide)).trans h5) ((g 32 (by decide)).trans h6) stC (h8.fr (g 31 (by decide)) (k 53 (by decide))) (h9.fr (k 48 (by decide)) (k 49 (by decide)) (by rw [kJ]) (k 51 (by decide))) ⟨by show _ + (σb.length + 1) ≤ _; omega, by omega, h10.2.2.1, by omega, h10.2.2.2.2⟩ hB (fun k1 M' R' F' _ => ⟨rfl, H1 k1 M' R' ((F2.tr frC).tr F')⟩) (fun k1 M' T' F' _ => ⟨rfl, H0 k1 M' (T'.x (by decide)) ((F2.tr frC).tr F')⟩)
theorem opc {b : Nat → Int32} {n i : Nat} : (if tK b n i = 20 then (7 : Int32) else if tK b n i = 21 then 8 else if tK b n i = 22 then 4 else if tK b n i = 23 then 5 else if tK b n i = 24 then 6 else -1) = if tK b n i = 20 ∨ tK b n i = 21 ∨ tK b n i = 22 ∨ tK b n i = 23 ∨ tK b n i = 24 then Int32.ofNat (opS (tK b n i)) else -1 := by
  generalize tK b n i = t
  by_cases h0 : t = 20
  · subst h0; decide
  by_cases h1 : t = 21
  · subst h1; decide
  by_cases h2 : t = 22
  · subst h2; decide
  by_cases h3 : t = 23
  · subst h3; decide
  by_cases h4 : t = 24
  · subst h4; decide
  rw [if_neg h0, if_neg h1, if_neg h2, if_neg h3, if_neg h4, if_neg (by rintro (z | z | z | z | z) <;> first | exact h0 z | exact h1 z | exact h2 z | exact h3 z | exact h4 z)]
/-- the loop at an operator -/
theorem B_atOp {L : Nat} {σb νb : List Nat} {π : List (Nat × Nat)} {r : Nat} {X : List Nd} {M : Mem} {i o pr : Nat} (hB : By b) (hs : i < s) (hk : (L = 6 ∧ (tK b n i = 22 ∨ tK b n i = 23 ∨ tK b n i = 24)) ∨ (L = 8 ∧ (tK b n i = 20 ∨ tK b n i = 21))) (hb : top? σb (fun x => x < 4 ∨ L < x)) (hπ : ∀ e ∈ π, 4 ≤ e.1 ∧ e.1 ≤ L) (h100 : ∀ x ∈ σb, x < 100) (hR : SR b n s m sN ro mx vN (0, 0) M i o pr (π.map Prod.fst ++ σb) (r :: (π.map Prod.snd ++ νb)) X) (H1 : tK b n (i + 1) ≠ 0 → ∀ M', SR b n s m sN ro mx vN (0, 0) M' (i + 1) o pr (opS (tK b n i) :: σb) ((jf π r X).1 :: νb) (jf π r X).2 → RFm m M M' → T (h + 5) mdX11_readSum 19 [(0, .ref 29), (1, .int 1), (2, .int 1)] [] M' Q) (H0 : tK b n (i + 1) = 0 → ∀ M', TXr M' 1 (tP b n (i + 1)) → RFm m M M' → T (h + 5) mdX11_readSum 19 [(0, .ref 29), (1, .int 1), (2, .int 1)] [] M' Q) : T (h + 5) mdX11_readSum 19 [(0, .ref 29), (1, .int 0), (2, .int 1)] [] M Q := by
  have F := hR.1.1
  have h6 : mI M 29 6 = 0 := hR.2.2.2.1.1
  have any : tK b n i = 20 ∨ tK b n i = 21 ∨ tK b n i = 22 ∨ tK b n i = 23 ∨ tK b n i = 24 := by
    rcases hk with ⟨-, q | q | q⟩ | ⟨-, q | q⟩
    · exact Or.inr (Or.inr (Or.inl q))
    · exact Or.inr (Or.inr (Or.inr (Or.inl q)))
    · exact Or.inr (Or.inr (Or.inr (Or.inr q)))
    · exact Or.inl q
    · exact Or.inr (Or.inl q)
  have o9 : opS (tK b n i) < 9 ∧ (L = 8 ↔ 7 ≤ opS (tK b n i)) := by
    rcases hk with ⟨l, q | q | q⟩ | ⟨l, q | q⟩ <;> (rw [q, l]; decide)
  have L8 : L = 6 ∨ L = 8 := by rcases hk with ⟨l, -⟩ | ⟨l, -⟩ <;> omega
  have ge : ((7 : Int32) ≤ Int32.ofNat (opS (tK b n i))) ↔ 7 ≤ opS (tK b n i) := le32 (a := 7) (by decide) (by omega)
  have ne : ¬ Int32.ofNat (opS (tK b n i)) = -1 := oi_ne (by omega)
  refine VX11_readSum_19 ?_
  unfold DX11_readSum_19
  refine ⟨fun z => absurd z (by decide), fun _ => ⟨ok29 F, fun z => absurd h6 z, fun _ => ⟨fun _ => B_operator hR hB ?_, fun z => absurd rfl z⟩⟩⟩
  rw [opc, if_pos any]
  refine fun _ => ⟨_, rfl, fun z => absurd z ne, fun _ => B_operator hR hB ?_⟩
  rw [opc, if_pos any]
  refine fun _ => ⟨_, rfl, fun q => ?_, fun q => ?_⟩
  · have l : L = 8 := o9.2.mpr (ge.mp q)
    rw [l] at hb hπ L8
    exact B_op hB hs L8 (by omega) hb hπ h100 hR H1 H0
  · have l : L = 6 := L8.resolve_right (fun z => q (ge.mpr (o9.2.mp z)))
    rw [l] at hb hπ L8
    exact B_op hB hs L8 (by omega) hb hπ h100 hR H1 H0
/-- the loop behind an operand, at no operator -/
theorem B_noOp {σ ν : List Nat} {X : List Nd} {M : Mem} {i o pr : Nat} (hB : By b) (hR : SR b n s m sN ro mx vN (0, 0) M i o pr σ ν X) (hk : ¬ (tK b n i = 20 ∨ tK b n i = 21 ∨ tK b n i = 22 ∨ tK b n i = 23 ∨ tK b n i = 24)) (Hend : (pr = 0 ∨ tK b n i ≠ 16) → T (h + 5) mdX11_readSum 19 [(0, .ref 29), (1, .int 0), (2, .int 0)] [] M Q) (Hcl : pr ≠ 0 → tK b n i = 16 → E (h + 4) mdX11_joinSums [.ref 29, .int 8] M (fun r M6 => mE M M6 → r = none ∧ ∀ M7, M7 = wI M6 29 29 ((mI M6 29 29) - 1) → ∀ M8, M8 = wI M7 29 32 ((mI M7 29 32) - 1) → ∀ M9, M9 = wI M8 29 33 ((mI M8 29 33) - 1) → E (h + 4) mdX11_take [.ref 29] M9 (fun r M10 => mE M9 M10 → r = none ∧ T (h + 5) mdX11_readSum 199 [(0, .ref 29), (1, .int 0), (2, .int 1)] [] M10 Q))) : T (h + 5) mdX11_readSum 19 [(0, .ref 29), (1, .int 0), (2, .int 1)] [] M Q := by
  have F := hR.1.1
  have h6 : mI M 29 6 = 0 := hR.2.2.2.1.1
  have h32 : mI M 29 32 = Int32.ofNat pr := hR.2.2.2.2.2.1
  have hi := hR.2.1
  have h10 := hR.2.2.2.2.2.2.2.2.2
  have lp : (Int32.ofNat pr ≤ 0) ↔ pr ≤ 0 := le32 (b := 0) (by omega) (by decide)
  refine VX11_readSum_19 ?_
  unfold DX11_readSum_19 DX11_readSum_259
  refine ⟨fun z => absurd z (by decide), fun _ => ⟨ok29 F, fun z => absurd h6 z, fun _ => ⟨fun _ => B_operator hR hB ?_, fun z => absurd rfl z⟩⟩⟩
  rw [opc, if_neg hk]
  refine fun _ => ⟨_, rfl, fun _ => ⟨fun q => ?_, fun q => ?_⟩, fun z => absurd rfl z⟩
  · rw [h32, lp] at q
    exact Hend (Or.inl (by omega))
  · rw [h32, lp] at q
    refine B_said hR hB (k := 16) (by decide) rfl (fun _ => ⟨_, rfl, fun q2 => ?_, fun q2 => ?_⟩)
    · exact Hend (Or.inr (by intro z; rw [if_pos z] at q2; exact absurd q2 (by decide)))
    · refine Hcl (by omega) ?_
      by_cases z : tK b n i = 16
      · exact z
      · rw [if_neg z] at q2; exact absurd rfl q2
/-- the loop is left with a bracket unclosed -/
theorem B_left {σ ν : List Nat} {X : List Nd} {M : Mem} {i o pr : Nat} {x1 : Int32} (hR : SR b n s m sN ro mx vN (0, 0) M i o pr σ ν X) (hp : pr ≠ 0) (H : ∀ M', TXr M' 2 (tP b n i) → RFm m M M' → Q (some (.int 0)) M') : T (h + 5) mdX11_readSum 19 [(0, .ref 29), (1, .int x1), (2, .int 0)] [] M Q := by
  have F := hR.1.1
  have h6 : mI M 29 6 = 0 := hR.2.2.2.1.1
  have h32 : mI M 29 32 = Int32.ofNat pr := hR.2.2.2.2.2.1
  have hi := hR.2.1
  have h10 := hR.2.2.2.2.2.2.2.2.2
  obtain ⟨-, h5, h8⟩ := hR.tok
  have lp : (Int32.ofNat pr ≤ 0) ↔ pr ≤ 0 := le32 (b := 0) (by omega) (by decide)
  refine VX11_readSum_19 ?_
  unfold DX11_readSum_19 DX11_readSum_264 DX11_readSum_292
  refine ⟨fun _ => ⟨ok29 F, fun z => absurd h6 z, fun _ => ⟨fun q => ?_, fun _ => ?_⟩⟩, fun z => absurd rfl z⟩
  · rw [h32, lp] at q; omega
  · rw [h5, lt32 (by omega)]
    refine ⟨32, rf29_3 F, ok32 F, by rw [ln32 F]; exact vp_of h8 (by decide), B_fails hR (by decide) (fun M' T' F' _ => ⟨rfl, ok29 T'.1, fun z => ?_, fun _ => H M' T' F'⟩)⟩
    rw [T'.2.1] at z
    exact absurd z (by decide)
end
