section
/-! the reference reads a condition: its loop against rc -/
def EndD (Lm : Nat) (b : Nat → Int32) (n s m : Nat) (sN : List Int64) (ro mx : List Int32) (vN : List Int64) (M : Mem) (o pr : Nat) (σ0 ν : List Nat) (K : Mem → Prop) (Kx : Mem → Prop) (R : Except (Int32 × Nat) (Nat × List Cd)) : Prop := match R with
  | .ok r => ∀ M' π r' Y', (∀ e ∈ π, 3 ≤ e.1 ∧ e.1 ≤ Lm) → SC b n s m sN ro mx vN (0, 0) M' r.1 o pr (π.map Prod.fst ++ σ0) (r' :: (π.map Prod.snd ++ ν)) Y' → jc π r' Y' = (r.2.length - 1, r.2) → (tK b n r.1 ≠ 59 ∧ (Lm = 4 → tK b n r.1 ≠ 60)) → RFc m M M' → K M'
  | .error e => ∀ M', TXr M' e.1 e.2 → RFc m M M' → Kx M'
section
variable {b : Nat → Int32} {n s m : Nat} {sN : List Int64} {ro mx : List Int32} {vN : List Int64} {h : Nat} {Q : Option Value → Mem → Prop}
theorem EndD.fr {Lm : Nat} {M M1 : Mem} {o pr : Nat} {σ0 ν : List Nat} {K Kx : Mem → Prop} {R : Except (Int32 × Nat) (Nat × List Cd)} (hE : EndD Lm b n s m sN ro mx vN M o pr σ0 ν K Kx R) (F : RFc m M M1) : EndD Lm b n s m sN ro mx vN M1 o pr σ0 ν K Kx R := by
  cases R with
  | error e => exact fun M' T' F' => hE M' T' (F.tr F')
  | ok r => exact fun M' π r' Y' a1 a2 a3 a4 F' => hE M' π r' Y' a1 a2 a3 a4 (F.tr F')
theorem EndC.fr {M M1 : Mem} {o k pr : Nat} {σ0 ν : List Nat} {K Kx : Mem → Prop} {R : Except (Int32 × Nat) (Nat × List Cd)} (hE : EndC b n s m sN ro mx vN M o k pr σ0 ν K Kx R) (F : RFc m M M1) : EndC b n s m sN ro mx vN M1 o k pr σ0 ν K Kx R := by
  cases R with
  | error e => exact fun M' T' F' => hE M' T' (F.tr F')
  | ok r => exact fun M' a1 F' => hE M' a1 (F.tr F')
theorem YL {M : Mem} {f : Int32} {p : Nat} {x1 x2 : Int32} (hT : TXr M f p) (H : Q (some (.int 0)) M) : T (h + 5) mdX11_readCond 19 [(0, .ref 29), (1, .int x1), (2, .int x2)] [] M Q := by
  obtain ⟨F, h6, hp, h7⟩ := hT
  have n0 : ¬ mI M 29 6 = 0 := by rw [h6]; intro z; rw [z] at hp; exact absurd hp (by decide)
  have nl : ¬ mI M 29 6 ≤ 0 := by rw [h6]; exact Int32.not_le.mpr hp
  refine VX11_readCond_19 ?_
  unfold DX11_readCond_19 DX11_readCond_264 DX11_readCond_292
  refine ⟨fun _ => ⟨ok29 F, fun _ => ⟨ok29 F, fun z => absurd z nl, fun _ => H⟩, fun z => absurd z n0⟩, fun _ => ⟨ok29 F, fun _ => ⟨ok29 F, fun _ => ⟨ok29 F, fun z => absurd z nl, fun _ => H⟩, fun z => absurd z n0⟩, fun z => absurd z n0⟩⟩
theorem G_join {L : Nat} {σb νb : List Nat} {π : List (Nat × Nat)} {r : Nat} {Y : List Cd} {M : Mem} {i o pr : Nat} (hz : ∀ i, n ≤ i → b i = 0) (hL : L = 3 ∨ L = 4) (hb : top? σb (fun x => x < 3 ∨ L < x)) (hπ : ∀ e ∈ π, 3 ≤ e.1 ∧ e.1 ≤ L) (h100 : ∀ x ∈ σb, x < 100) (hR : SC b n s m sN ro mx vN (0, 0) M i o pr (π.map Prod.fst ++ σb) (r :: (π.map Prod.snd ++ νb)) Y) (H : ∀ M', SC b n s m sN ro mx vN (0, 0) M' i o pr σb ((jc π r Y).1 :: νb) (jc π r Y).2 → RFc m M M' → Q none M') : E (h + 3) mdX11_joinConds [.ref 29, .int (Int32.ofNat L)] M Q := by
  refine E.of (by decide) (Nat.le_of_ble_eq_true rfl) (fun _ _ _ => trivial) ?_
  show T _ _ 0 [(0, .ref 29), (1, .int (Int32.ofNat L))] [] M _
  exact G_joinT hz hL hb π r Y M i hπ h100 hR H
/-- the loop at 'and' or 'or' -/
theorem G_atOp {L : Nat} {σb νb : List Nat} {π : List (Nat × Nat)} {r : Nat} {Y : List Cd} {M : Mem} {i o pr : Nat} (hz : ∀ i, n ≤ i → b i = 0) (hB : By b) (hs : i < s) (hk : (L = 3 ∧ tK b n i = 59) ∨ (L = 4 ∧ tK b n i = 60)) (hb : top? σb (fun x => x < 3 ∨ L < x)) (hπ : ∀ e ∈ π, 3 ≤ e.1 ∧ e.1 ≤ L) (h100 : ∀ x ∈ σb, x < 100) (hR : SC b n s m sN ro mx vN (0, 0) M i o pr (π.map Prod.fst ++ σb) (r :: (π.map Prod.snd ++ νb)) Y) (H1 : tK b n (i + 1) ≠ 0 → ∀ M', SC b n s m sN ro mx vN (0, 0) M' (i + 1) o pr (L :: σb) ((jc π r Y).1 :: νb) (jc π r Y).2 → RFc m M M' → T (h + 5) mdX11_readCond 19 [(0, .ref 29), (1, .int 1), (2, .int 1)] [] M' Q) (H0 : tK b n (i + 1) = 0 → ∀ M', TXr M' 1 (tP b n (i + 1)) → RFc m M M' → T (h + 5) mdX11_readCond 19 [(0, .ref 29), (1, .int 1), (2, .int 1)] [] M' Q) : T (h + 5) mdX11_readCond 19 [(0, .ref 29), (1, .int 0), (2, .int 1)] [] M Q := by
  have F := hR.1.1
  have h6 : mI M 29 6 = 0 := hR.2.2.2.1.1
  have tk := hR.tk hB
  have L4 : L = 3 ∨ L = 4 := by rcases hk with ⟨l, -⟩ | ⟨l, -⟩ <;> omega
  have hw : wdK (tK b n i) := by rcases hk with ⟨-, q⟩ | ⟨-, q⟩ <;> (rw [q]; exact Or.inr (by decide))
  have hbt := bt_word hz hB hw
  -- from the joining on
  have go : ∀ (x3 : Int32), (x3 = 0 ∧ L = 4 ∨ x3 = 1 ∧ L = 3) → DX11_readCond_155 (h + 4) 29 1 x3 29 (Int32.ofNat L) M Q := by
    intro x3 hx3
    unfold DX11_readCond_155
    refine ⟨ok29 F, G_join (h := h + 1) hz L4 hb hπ h100 hR (fun M2 R2 F2 _ => ⟨rfl, ok29 R2.1.1, 52, rf29_28 R2.1.1, ?_⟩)⟩
    obtain ⟨g1, g2, g3, g4, g5, g6, g7, g8, g9, g10⟩ := id R2
    have fin : DX11_readCond_175 (h + 4) 29 1 52 (mI M2 29 29) (Int32.ofNat L) M2 Q := by
      unfold DX11_readCond_175
      rw [g7.1, lt32 (by omega)]
      refine ⟨ok52 g1.1, by rw [ln52 g1.1]; exact vp_of (by omega) (by decide), fun A a => ?_⟩
      have FA : Fix A := by rw [a]; exact g1.1.ai
      refine ⟨ok29 FA, fun C c => ?_⟩
      have iA : mI A 29 29 = Int32.ofNat σb.length := by rw [a, mI_wAI]; exact g7.1
      rw [iA, succ32] at c
      have stC : St C 52 29 0 (L :: σb) := g7.push (x := L) (by rw [c, a, Nat.zero_add])
      have frC : RFc m M2 C := by rw [c, a]; exact (RFc.st (Or.inl rfl)).tr (RFc.i (by decide))
      have g : ∀ f, f ≠ 29 → mI C 29 f = mI M2 29 f := by intro f hf; rw [c, a]; simp [hf, mNwI, mSwI, mKwI, mIwI, mJwI, mRwI, mLwI, mAIwI, mAJwI, mARwI, mNwJ, mSwJ, mKwJ, mIwJ, mJwJ, mRwJ, mLwJ, mAIwJ, mAJwJ, mARwJ, mNwR, mSwR, mKwR, mIwR, mJwR, mRwR, mLwR, mAIwR, mAJwR, mARwR, mNwAI, mSwAI, mKwAI, mIwAI, mJwAI, mRwAI, mLwAI, mAIwAI, mAJwAI, mARwAI, mNwAJ, mSwAJ, mKwAJ, mIwAJ, mJwAJ, mRwAJ, mLwAJ, mAIwAJ, mAJwAJ, mARwAJ, mNwAR, mSwAR, mKwAR, mIwAR, mJwAR, mRwAR, mLwAR, mAIwAR, mAJwAR, mARwAR, okkwI, okkwJ, okkwR, okkwAI, okkwAJ, okkwAR]
      have k : ∀ q, q ≠ 52 → mAI C q = mAI M2 q := by intro q hq; rw [c, mAI_wI, a, mAI_wAI_ne hq]
      refine G_take (h := h + 2) (pr := pr) (o := o) (g1.frc frC) ⟨g2.1, g2.2.1, hs⟩ ((g 5 (by decide)).trans g3) ((g 6 (by decide)).trans g4.1) ((g 33 (by decide)).trans g5) ((g 32 (by decide)).trans g6) stC (g8.fr (g 31 (by decide)) (k 53 (by decide))) (g9.fr (k 40 (by decide)) (k 44 (by decide)) (k 45 (by decide)) (k 46 (by decide)) (k 47 (by decide))) ⟨⟨?_, by show σb.length + 1 ≤ _; omega⟩, by omega, g10.2.2.1, by omega, g10.2.2.2.2⟩ hB (fun k1 M' R' F' _ => ⟨rfl, H1 k1 M' R' ((F2.tr frC).tr F')⟩) (fun k1 M' T' F' _ => ⟨rfl, H0 k1 M' (T'.x (by decide)) ((F2.tr frC).tr F')⟩)
      rw [wt_cons, if_neg (by omega)]
      have := g10.1.1
      omega
    rcases hx3 with ⟨x0, l⟩ | ⟨x1, l⟩
    · refine ⟨fun _ => ?_, fun z => absurd x0 z⟩
      rw [l] at fin; exact fin
    · refine ⟨fun z => absurd (x1.symm.trans z) (by decide), fun _ => ?_⟩
      rw [l] at fin; exact fin
  have go2 : DX11_readCond_136 (h + 4) 29 1 M Q := by
    unfold DX11_readCond_136
    refine ⟨ok29 F, K_key tk (j := 29) (k := 59) (by decide) rfl rfl (fun q _ => ⟨_, rfl, fun z => absurd z (by decide), fun _ => ?_⟩) (fun q _ => ⟨_, rfl, fun _ => ?_, fun z => absurd rfl z⟩)⟩
    · have l : L = 3 := by
        rcases hk with ⟨l, -⟩ | ⟨-, z⟩
        · exact l
        · rw [z] at q; exact absurd q (by decide)
      have := go 1 (Or.inr ⟨rfl, l⟩)
      rw [l] at this; exact this
    · have l : L = 4 := by
        rcases hk with ⟨-, z⟩ | ⟨l, -⟩
        · exact absurd z q
        · exact l
      have := go 0 (Or.inl ⟨rfl, l⟩)
      rw [l] at this; exact this
  refine VX11_readCond_19 ?_
  unfold DX11_readCond_19
  refine ⟨fun z => absurd z (by decide), fun _ => ⟨ok29 F, fun z => absurd h6 z, fun _ => ⟨fun _ => ?_, fun z => absurd rfl z⟩⟩⟩
  refine K_key tk (j := 29) (k := 59) (by decide) rfl rfl (fun q _ => ⟨_, rfl, fun _ => go2, fun z => absurd z (by decide)⟩) (fun q _ => ⟨_, rfl, fun z => absurd rfl z, fun _ => ?_⟩)
  refine K_key tk (j := 30) (k := 60) (by decide) rfl rfl (fun q _ => ⟨_, rfl, fun z => absurd z (by decide), fun _ => go2⟩) (fun q2 _ => ?_)
  exfalso
  rcases hk with ⟨-, z⟩ | ⟨-, z⟩
  · exact q z
  · exact q2 z
theorem G_noOp {σ ν : List Nat} {Y : List Cd} {M : Mem} {i o pr : Nat} (hB : By b) (hR : SC b n s m sN ro mx vN (0, 0) M i o pr σ ν Y) (hk : tK b n i ≠ 59 ∧ tK b n i ≠ 60) (Hend : (pr = 0 ∨ tK b n i ≠ 16) → T (h + 5) mdX11_readCond 19 [(0, .ref 29), (1, .int 0), (2, .int 0)] [] M Q) (Hcl : pr ≠ 0 → tK b n i = 16 → E (h + 4) mdX11_joinConds [.ref 29, .int 4] M (fun r M6 => mE M M6 → r = none ∧ ∀ M7, M7 = wI M6 29 29 ((mI M6 29 29) - 1) → ∀ M8, M8 = wI M7 29 32 ((mI M7 29 32) - 1) → ∀ M9, M9 = wI M8 29 33 ((mI M8 29 33) - 1) → E (h + 4) mdX11_take [.ref 29] M9 (fun r M10 => mE M9 M10 → r = none ∧ E (h + 4) mdX11_closeNots [.ref 29] M10 (fun r M13 => mE M10 M13 → r = none ∧ T (h + 5) mdX11_readCond 19 [(0, .ref 29), (1, .int 0), (2, .int 1)] [] M13 Q)))) : T (h + 5) mdX11_readCond 19 [(0, .ref 29), (1, .int 0), (2, .int 1)] [] M Q := by
  have F := hR.1.1
  have h6 : mI M 29 6 = 0 := hR.2.2.2.1.1
  have h32 : mI M 29 32 = Int32.ofNat pr := hR.2.2.2.2.2.1
  have hi := hR.2.1
  have tk := hR.tk hB
  have h10 := hR.2.2.2.2.2.2.2.2.2
  have lp : (Int32.ofNat pr ≤ 0) ↔ pr ≤ 0 := le32 (b := 0) (by omega) (by decide)
  refine VX11_readCond_19 ?_
  unfold DX11_readCond_19 DX11_readCond_259
  refine ⟨fun z => absurd z (by decide), fun _ => ⟨ok29 F, fun z => absurd h6 z, fun _ => ⟨fun _ => ?_, fun z => absurd rfl z⟩⟩⟩
  refine K_key tk (j := 29) (k := 59) (by decide) rfl rfl (fun q => absurd q hk.1) (fun q _ => ⟨_, rfl, fun z => absurd rfl z, fun _ => ?_⟩)
  refine K_key tk (j := 30) (k := 60) (by decide) rfl rfl (fun q => absurd q hk.2) (fun q2 _ => ⟨_, rfl, fun _ => ⟨fun q => ?_, fun q => ?_⟩, fun z => absurd rfl z⟩)
  · rw [h32, lp] at q
    exact Hend (Or.inl (by omega))
  · rw [h32, lp] at q
    refine K_sign tk (k := 16) (by decide) rfl (fun q2 _ => ⟨_, rfl, fun z => absurd z (by decide), fun _ => Hcl (by omega) q2⟩) (fun q2 _ => ⟨_, rfl, fun _ => Hend (Or.inr q2), fun z => absurd rfl z⟩)
theorem G_left {σ ν : List Nat} {Y : List Cd} {M : Mem} {i o pr : Nat} {x1 : Int32} (hB : By b) (hR : SC b n s m sN ro mx vN (0, 0) M i o pr σ ν Y) (hp : pr ≠ 0) (H : ∀ M', TXr M' 2 (tP b n i) → RFc m M M' → Q (some (.int 0)) M') : T (h + 5) mdX11_readCond 19 [(0, .ref 29), (1, .int x1), (2, .int 0)] [] M Q := by
  have F := hR.1.1
  have h6 : mI M 29 6 = 0 := hR.2.2.2.1.1
  have h32 : mI M 29 32 = Int32.ofNat pr := hR.2.2.2.2.2.1
  have hi := hR.2.1
  have h10 := hR.2.2.2.2.2.2.2.2.2
  obtain ⟨-, -, -, h5, h8⟩ := hR.tk hB
  have lp : (Int32.ofNat pr ≤ 0) ↔ pr ≤ 0 := le32 (b := 0) (by omega) (by decide)
  refine VX11_readCond_19 ?_
  unfold DX11_readCond_19 DX11_readCond_264 DX11_readCond_292
  refine ⟨fun _ => ⟨ok29 F, fun z => absurd h6 z, fun _ => ⟨fun q => ?_, fun _ => ?_⟩⟩, fun z => absurd rfl z⟩
  · rw [h32, lp] at q; omega
  · rw [h5, lt32 (by omega)]
    refine ⟨32, rf29_3 F, ok32 F, by rw [ln32 F]; exact vp_of h8 (by decide), G_fails hR hB (by decide) (fun M' T' F' _ => ⟨rfl, ok29 T'.1, fun z => ?_, fun _ => H M' T' F'⟩)⟩
    rw [T'.2.1] at z
    exact absurd z (by decide)
theorem G_rc (hz : ∀ i, n ≤ i → b i = 0) (hB : By b) (hS : Sto b n s) : ∀ (g : Nat),
    (∀ (M : Mem) (i o k pr : Nat) (σ0 ν : List Nat) (Y : List Cd), 6 * (s + 1 - i) ≤ g → tK b n i ≠ 0 → top? σ0 (fun x => x ≠ 2) → (∀ x ∈ σ0, x < 100) → SC b n s m sN ro mx vN (0, 0) M i (o + k) pr (List.replicate k 2 ++ σ0) ν Y → EndC b n s m sN ro mx vN M o k pr σ0 ν (fun M' => T (h + 5) mdX11_readCond 19 [(0, .ref 29), (1, .int 0), (2, .int 1)] [] M' Q) (fun M' => Q (some (.int 0)) M') (rc b n sN g 0 i (o + k) Y) → T (h + 5) mdX11_readCond 19 [(0, .ref 29), (1, .int 1), (2, .int 1)] [] M Q) ∧
    (∀ (M : Mem) (i o pr : Nat) (σ0 ν : List Nat) (Y : List Cd), 6 * (s + 1 - i) + 1 ≤ g → tK b n i ≠ 0 → top? σ0 (fun x => x ≠ 2 ∧ (x < 3 ∨ 3 < x)) → (∀ x ∈ σ0, x < 100) → SC b n s m sN ro mx vN (0, 0) M i o pr σ0 ν Y → EndD 3 b n s m sN ro mx vN M o pr σ0 ν (fun M' => T (h + 5) mdX11_readCond 19 [(0, .ref 29), (1, .int 0), (2, .int 1)] [] M' Q) (fun M' => Q (some (.int 0)) M') (rc b n sN g 1 i o Y) → T (h + 5) mdX11_readCond 19 [(0, .ref 29), (1, .int 1), (2, .int 1)] [] M Q) ∧
    (∀ (M : Mem) (i o pr : Nat) (σ0 ν : List Nat) (π : List (Nat × Nat)) (r : Nat) (Y : List Cd), 6 * (s + 1 - i) + 2 ≤ g → tK b n i ≠ 0 → top? σ0 (fun x => x ≠ 2 ∧ (x < 3 ∨ 3 < x)) → (∀ x ∈ σ0, x < 100) → (∀ e ∈ π, 3 ≤ e.1 ∧ e.1 ≤ 3) → SC b n s m sN ro mx vN (0, 0) M i o pr (π.map Prod.fst ++ σ0) (r :: (π.map Prod.snd ++ ν)) Y → (jc π r Y).1 = (jc π r Y).2.length - 1 → EndD 3 b n s m sN ro mx vN M o pr σ0 ν (fun M' => T (h + 5) mdX11_readCond 19 [(0, .ref 29), (1, .int 0), (2, .int 1)] [] M' Q) (fun M' => Q (some (.int 0)) M') (rc b n sN g 2 i o (jc π r Y).2) → T (h + 5) mdX11_readCond 19 [(0, .ref 29), (1, .int 0), (2, .int 1)] [] M Q) ∧
    (∀ (M : Mem) (i o pr : Nat) (σ0 ν : List Nat) (Y : List Cd), 6 * (s + 1 - i) + 3 ≤ g → tK b n i ≠ 0 → top? σ0 (fun x => x ≠ 2 ∧ (x < 3 ∨ 4 < x)) → (∀ x ∈ σ0, x < 100) → SC b n s m sN ro mx vN (0, 0) M i o pr σ0 ν Y → EndD 4 b n s m sN ro mx vN M o pr σ0 ν (fun M' => T (h + 5) mdX11_readCond 19 [(0, .ref 29), (1, .int 0), (2, .int 1)] [] M' Q) (fun M' => Q (some (.int 0)) M') (rc b n sN g 3 i o Y) → T (h + 5) mdX11_readCond 19 [(0, .ref 29), (1, .int 1), (2, .int 1)] [] M Q) ∧
    (∀ (M : Mem) (i o pr : Nat) (σ0 ν : List Nat) (π : List (Nat × Nat)) (r : Nat) (Y : List Cd), 6 * (s + 1 - i) + 4 ≤ g → tK b n i ≠ 0 → tK b n i ≠ 59 → top? σ0 (fun x => x ≠ 2 ∧ (x < 3 ∨ 4 < x)) → (∀ x ∈ σ0, x < 100) → (∀ e ∈ π, 3 ≤ e.1 ∧ e.1 ≤ 4) → SC b n s m sN ro mx vN (0, 0) M i o pr (π.map Prod.fst ++ σ0) (r :: (π.map Prod.snd ++ ν)) Y → (jc π r Y).1 = (jc π r Y).2.length - 1 → EndD 4 b n s m sN ro mx vN M o pr σ0 ν (fun M' => T (h + 5) mdX11_readCond 19 [(0, .ref 29), (1, .int 0), (2, .int 1)] [] M' Q) (fun M' => Q (some (.int 0)) M') (rc b n sN g 4 i o (jc π r Y).2) → T (h + 5) mdX11_readCond 19 [(0, .ref 29), (1, .int 0), (2, .int 1)] [] M Q) := by
  intro g
  induction g with
  | zero =>
    refine ⟨?_, ?_, ?_, ?_, ?_⟩
    · intro M i o k pr σ0 ν Y hg _ _ _ hR _; have := hR.2.1; omega
    · intro M i o pr σ0 ν Y hg _ _ _ hR _; have := hR.2.1; omega
    · intro M i o pr σ0 ν π r Y hg _ _ _ _ hR _ _; have := hR.2.1; omega
    · intro M i o pr σ0 ν Y hg _ _ _ hR _; have := hR.2.1; omega
    · intro M i o pr σ0 ν π r Y hg _ _ _ _ _ hR _ _; have := hR.2.1; omega
  | succ g ih =>
    obtain ⟨ih0, ih1, ih2, ih3, ih4⟩ := ih
    refine ⟨?_, ?_, ?_, ?_, ?_⟩
    · intro M i o k pr σ0 ν Y hg h0 ht h100 hR hE
      have F := hR.1.1
      have hi := hR.2.1
      have h6 : mI M 29 6 = 0 := hR.2.2.2.1.1
      have tk := hR.tk hB
      unfold rc at hE
      rw [if_pos rfl] at hE
      refine VX11_readCond_19 ?_
      unfold DX11_readCond_19 DX11_readCond_99
      refine ⟨fun z => absurd z (by decide), fun _ => ⟨ok29 F, fun z => absurd h6 z, fun _ => ⟨fun z => absurd z (by decide), fun _ => ?_⟩⟩⟩
      refine K_key tk (j := 31) (k := 61) (by decide) rfl rfl (fun k61 _ => ⟨_, rfl, fun z => absurd z (by decide), fun _ => ?_⟩) (fun n61 _ => ⟨_, rfl, fun _ => ?_, fun z => absurd rfl z⟩)
      · rw [if_pos k61] at hE
        have hs := hS.lt hi.2.2 h0 (by rw [k61]; decide)
        refine G_opening (h := h + 1) (op := 2) hz hR hB hs (by rw [k61]; decide) (Or.inl ⟨rfl, by rw [k61]; exact Or.inr (by decide)⟩) (fun ho k1 M1 R1 F1 _ => ⟨rfl, ?_⟩) (fun ho k1 M1 T1 F1 _ => ⟨rfl, ?_⟩) (fun ho M1 T1 F1 _ => ⟨rfl, ?_⟩)
        · rw [if_neg (by omega : ¬ o + k = 15), adv_ok' k1] at hE
          have hE : EndC b n s m sN ro mx vN M o k pr σ0 ν (fun M' => T (h + 5) mdX11_readCond 19 [(0, .ref 29), (1, .int 0), (2, .int 1)] [] M' Q) (fun M' => Q (some (.int 0)) M') ((rc b n sN g 0 (i + 1) (o + k + 1) Y).bind fun r => .ok (r.1, r.2 ++ [(2, r.2.length - 1, 0)])) := hE
          rw [if_neg (by decide), Nat.add_zero] at R1
          refine ih0 M1 (i + 1) o (k + 1) pr σ0 ν Y (by omega) k1 ht h100 R1 ?_
          have e : o + (k + 1) = o + k + 1 := rfl
          rw [e]
          generalize rc b n sN g 0 (i + 1) (o + k + 1) Y = R at hE
          cases R with
          | error e => exact fun M' T' F' => hE M' T' (F1.tr F')
          | ok r =>
            intro M2 R2 F2
            refine hE M2 ?_ (F1.tr F2)
            have e2 : (r.2 ++ [(2, r.2.length - 1, 0)] : List Cd).length - 1 = r.2.length := by rw [List.length_append]; rfl
            show SC b n s m sN ro mx vN (0, 0) M2 r.1 o pr σ0 ((nc k ((r.2 ++ [(2, r.2.length - 1, 0)] : List Cd).length - 1) (r.2 ++ [(2, r.2.length - 1, 0)])).1 :: ν) (nc k ((r.2 ++ [(2, r.2.length - 1, 0)] : List Cd).length - 1) (r.2 ++ [(2, r.2.length - 1, 0)])).2
            rw [e2]
            exact R2
        · rw [if_neg (by omega : ¬ o + k = 15), adv_er' k1] at hE
          exact YL T1 (hE M1 T1 F1)
        · rw [if_pos ho] at hE
          exact YL T1 (hE M1 T1 F1)
      rw [if_neg n61] at hE
      refine K_sign tk (k := 15) (by decide) rfl (fun k15 _ => ⟨_, rfl, fun z => absurd z (by decide), fun _ => ?_⟩) (fun n15 _ => ⟨_, rfl, fun _ => ?_, fun z => absurd rfl z⟩)
      · rw [if_pos k15] at hE
        have hs := hS.lt hi.2.2 h0 (by rw [k15]; decide)
        refine G_opening (h := h + 1) (op := 5) hz hR hB hs (by rw [k15]; decide) (Or.inr rfl) (fun ho k1 M1 R1 F1 _ => ⟨rfl, ?_⟩) (fun ho k1 M1 T1 F1 _ => ⟨rfl, ?_⟩) (fun ho M1 T1 F1 _ => ⟨rfl, ?_⟩)
        · rw [if_neg (by omega : ¬ o + k = 15), adv_ok' k1] at hE
          have hE : EndC b n s m sN ro mx vN M o k pr σ0 ν (fun M' => T (h + 5) mdX11_readCond 19 [(0, .ref 29), (1, .int 0), (2, .int 1)] [] M' Q) (fun M' => Q (some (.int 0)) M') ((rc b n sN g 3 (i + 1) (o + k + 1) Y).bind fun r => if tK b n r.1 = 16 then (adv' b n r.1).bind fun j' => .ok (j', r.2) else .error (2, tP b n r.1)) := hE
          rw [if_pos rfl] at R1
          have h101 : ∀ x ∈ 5 :: (List.replicate k 2 ++ σ0), x < 100 := by
            intro x hx
            rcases List.mem_cons.mp hx with z | z
            · omega
            · rcases List.mem_append.mp z with z | z
              · have := List.eq_of_mem_replicate z; omega
              · exact h100 x z
          refine ih3 M1 (i + 1) (o + k + 1) (pr + 1) (5 :: (List.replicate k 2 ++ σ0)) ν Y (by omega) k1 (top_cons ⟨by decide, Or.inr (by decide)⟩) h101 R1 ?_
          have hok := rc_ok (sN := sN) hS g 3 (i + 1) (o + k + 1) Y (by decide) hs k1
          generalize rc b n sN g 3 (i + 1) (o + k + 1) Y = R at hE hok
          cases R with
          | error e => exact fun M' T' F' => hE M' T' (F1.tr F')
          | ok r =>
            intro M2 π r' Y' hπ R2 ej hst F2
            have hE : EndC b n s m sN ro mx vN M o k pr σ0 ν (fun M' => T (h + 5) mdX11_readCond 19 [(0, .ref 29), (1, .int 0), (2, .int 1)] [] M' Q) (fun M' => Q (some (.int 0)) M') (if tK b n r.1 = 16 then (adv' b n r.1).bind fun j' => .ok (j', r.2) else .error (2, tP b n r.1)) := hE
            obtain ⟨a1, a2, a3, -, -⟩ := hok
            refine G_noOp hB R2 ⟨hst.1, hst.2 rfl⟩ (fun hend => ?_) (fun _ k16 => ?_)
            · have n16 : tK b n r.1 ≠ 16 := hend.resolve_left (by omega)
              rw [if_neg n16] at hE
              exact G_left hB R2 (by omega) (fun M' T' F' => hE M' T' ((F1.tr F2).tr F'))
            · rw [if_pos k16] at hE
              have hs2 := hS.lt a2 a3 (by rw [k16]; decide)
              refine G_join (h := h + 1) (L := 4) hz (Or.inr rfl) (top_cons (Or.inr (by decide))) hπ h101 R2 (fun M3 R3 F3 _ => ⟨rfl, fun M4 e4 M5 e5 M6 e6 => ?_⟩)
              rw [ej] at R3
              dsimp only at R3
              obtain ⟨g1, g2, g3, g4, g5, g6, g7, g8, g9, g10⟩ := id R3
              have i3 : mI M3 29 29 = Int32.ofNat ((List.replicate k 2 ++ σ0).length + 1) := g7.1
              have hlb : (List.replicate k 2 ++ σ0).length + 1 ≤ r.1 := g10.1.2
              rw [i3, dec32 (by omega)] at e4
              have i4 : mI M4 29 32 = Int32.ofNat (pr + 1) := by rw [e4]; simp [g6, mNwI, mSwI, mKwI, mIwI, mJwI, mRwI, mLwI, mAIwI, mAJwI, mARwI, mNwJ, mSwJ, mKwJ, mIwJ, mJwJ, mRwJ, mLwJ, mAIwJ, mAJwJ, mARwJ, mNwR, mSwR, mKwR, mIwR, mJwR, mRwR, mLwR, mAIwR, mAJwR, mARwR, mNwAI, mSwAI, mKwAI, mIwAI, mJwAI, mRwAI, mLwAI, mAIwAI, mAJwAI, mARwAI, mNwAJ, mSwAJ, mKwAJ, mIwAJ, mJwAJ, mRwAJ, mLwAJ, mAIwAJ, mAJwAJ, mARwAJ, mNwAR, mSwAR, mKwAR, mIwAR, mJwAR, mRwAR, mLwAR, mAIwAR, mAJwAR, mARwAR, okkwI, okkwJ, okkwR, okkwAI, okkwAJ, okkwAR]
              have hpr := g10.2.2.2.1
              rw [i4, dec32 (by omega)] at e5
              have i5 : mI M5 29 33 = Int32.ofNat (o + k + 1) := by rw [e5, e4]; simp [g5, mNwI, mSwI, mKwI, mIwI, mJwI, mRwI, mLwI, mAIwI, mAJwI, mARwI, mNwJ, mSwJ, mKwJ, mIwJ, mJwJ, mRwJ, mLwJ, mAIwJ, mAJwJ, mARwJ, mNwR, mSwR, mKwR, mIwR, mJwR, mRwR, mLwR, mAIwR, mAJwR, mARwR, mNwAI, mSwAI, mKwAI, mIwAI, mJwAI, mRwAI, mLwAI, mAIwAI, mAJwAI, mARwAI, mNwAJ, mSwAJ, mKwAJ, mIwAJ, mJwAJ, mRwAJ, mLwAJ, mAIwAJ, mAJwAJ, mARwAJ, mNwAR, mSwAR, mKwAR, mIwAR, mJwAR, mRwAR, mLwAR, mAIwAR, mAJwAR, mARwAR, okkwI, okkwJ, okkwR, okkwAI, okkwAJ, okkwAR]
              have ho2 := g10.2.2.1
              rw [i5, dec32 (by omega)] at e6
              have fr6 : RFc m M3 M6 := by rw [e6, e5, e4]; exact ((RFc.i (by decide)).tr (RFc.i (by decide))).tr (RFc.i (by decide))
              have w5 : wt (5 :: (List.replicate k 2 ++ σ0)) = wt (List.replicate k 2 ++ σ0) := by rw [wt_cons, if_pos rfl]; rfl
              have b5 := g10.1.1
              rw [w5] at b5
              have R6 : SC b n s m sN ro mx vN (0, 0) M6 r.1 (o + k) pr (List.replicate k 2 ++ σ0) ((r.2.length - 1) :: ν) r.2 := by
                refine SC.opPop (M := M3) (x := 5) g1 g2 g3 g4 g7 g8 g9 ⟨⟨b5, by omega⟩, g10.2.1, by omega, by omega, g10.2.2.2.2⟩ fr6 ?_ ?_ ?_ ?_ ?_ ?_ ?_ ?_
                · rw [e6, e5, e4]; simp [mNwI, mSwI, mKwI, mIwI, mJwI, mRwI, mLwI, mAIwI, mAJwI, mARwI, mNwJ, mSwJ, mKwJ, mIwJ, mJwJ, mRwJ, mLwJ, mAIwJ, mAJwJ, mARwJ, mNwR, mSwR, mKwR, mIwR, mJwR, mRwR, mLwR, mAIwR, mAJwR, mARwR, mNwAI, mSwAI, mKwAI, mIwAI, mJwAI, mRwAI, mLwAI, mAIwAI, mAJwAI, mARwAI, mNwAJ, mSwAJ, mKwAJ, mIwAJ, mJwAJ, mRwAJ, mLwAJ, mAIwAJ, mAJwAJ, mARwAJ, mNwAR, mSwAR, mKwAR, mIwAR, mJwAR, mRwAR, mLwAR, mAIwAR, mAJwAR, mARwAR, okkwI, okkwJ, okkwR, okkwAI, okkwAJ, okkwAR]
                · rw [e6, e5, e4]; simp [mNwI, mSwI, mKwI, mIwI, mJwI, mRwI, mLwI, mAIwI, mAJwI, mARwI, mNwJ, mSwJ, mKwJ, mIwJ, mJwJ, mRwJ, mLwJ, mAIwJ, mAJwJ, mARwJ, mNwR, mSwR, mKwR, mIwR, mJwR, mRwR, mLwR, mAIwR, mAJwR, mARwR, mNwAI, mSwAI, mKwAI, mIwAI, mJwAI, mRwAI, mLwAI, mAIwAI, mAJwAI, mARwAI, mNwAJ, mSwAJ, mKwAJ, mIwAJ, mJwAJ, mRwAJ, mLwAJ, mAIwAJ, mAJwAJ, mARwAJ, mNwAR, mSwAR, mKwAR, mIwAR, mJwAR, mRwAR, mLwAR, mAIwAR, mAJwAR, mARwAR, okkwI, okkwJ, okkwR, okkwAI, okkwAJ, okkwAR]
                · rw [e6, e5, e4]; simp [mNwI, mSwI, mKwI, mIwI, mJwI, mRwI, mLwI, mAIwI, mAJwI, mARwI, mNwJ, mSwJ, mKwJ, mIwJ, mJwJ, mRwJ, mLwJ, mAIwJ, mAJwJ, mARwJ, mNwR, mSwR, mKwR, mIwR, mJwR, mRwR, mLwR, mAIwR, mAJwR, mARwR, mNwAI, mSwAI, mKwAI, mIwAI, mJwAI, mRwAI, mLwAI, mAIwAI, mAJwAI, mARwAI, mNwAJ, mSwAJ, mKwAJ, mIwAJ, mJwAJ, mRwAJ, mLwAJ, mAIwAJ, mAJwAJ, mARwAJ, mNwAR, mSwAR, mKwAR, mIwAR, mJwAR, mRwAR, mLwAR, mAIwAR, mAJwAR, mARwAR, okkwI, okkwJ, okkwR, okkwAI, okkwAJ, okkwAR]
                · rw [e6, e5, e4]; simp [mNwI, mSwI, mKwI, mIwI, mJwI, mRwI, mLwI, mAIwI, mAJwI, mARwI, mNwJ, mSwJ, mKwJ, mIwJ, mJwJ, mRwJ, mLwJ, mAIwJ, mAJwJ, mARwJ, mNwR, mSwR, mKwR, mIwR, mJwR, mRwR, mLwR, mAIwR, mAJwR, mARwR, mNwAI, mSwAI, mKwAI, mIwAI, mJwAI, mRwAI, mLwAI, mAIwAI, mAJwAI, mARwAI, mNwAJ, mSwAJ, mKwAJ, mIwAJ, mJwAJ, mRwAJ, mLwAJ, mAIwAJ, mAJwAJ, mARwAJ, mNwAR, mSwAR, mKwAR, mIwAR, mJwAR, mRwAR, mLwAR, mAIwAR, mAJwAR, mARwAR, okkwI, okkwJ, okkwR, okkwAI, okkwAJ, okkwAR]
                · rw [e6, e5, e4]; simp [mNwI, mSwI, mKwI, mIwI, mJwI, mRwI, mLwI, mAIwI, mAJwI, mARwI, mNwJ, mSwJ, mKwJ, mIwJ, mJwJ, mRwJ, mLwJ, mAIwJ, mAJwJ, mARwJ, mNwR, mSwR, mKwR, mIwR, mJwR, mRwR, mLwR, mAIwR, mAJwR, mARwR, mNwAI, mSwAI, mKwAI, mIwAI, mJwAI, mRwAI, mLwAI, mAIwAI, mAJwAI, mARwAI, mNwAJ, mSwAJ, mKwAJ, mIwAJ, mJwAJ, mRwAJ, mLwAJ, mAIwAJ, mAJwAJ, mARwAJ, mNwAR, mSwAR, mKwAR, mIwAR, mJwAR, mRwAR, mLwAR, mAIwAR, mAJwAR, mARwAR, okkwI, okkwJ, okkwR, okkwAI, okkwAJ, okkwAR]
                · rw [e6, e5, e4]; simp [mNwI, mSwI, mKwI, mIwI, mJwI, mRwI, mLwI, mAIwI, mAJwI, mARwI, mNwJ, mSwJ, mKwJ, mIwJ, mJwJ, mRwJ, mLwJ, mAIwJ, mAJwJ, mARwJ, mNwR, mSwR, mKwR, mIwR, mJwR, mRwR, mLwR, mAIwR, mAJwR, mARwR, mNwAI, mSwAI, mKwAI, mIwAI, mJwAI, mRwAI, mLwAI, mAIwAI, mAJwAI, mARwAI, mNwAJ, mSwAJ, mKwAJ, mIwAJ, mJwAJ, mRwAJ, mLwAJ, mAIwAJ, mAJwAJ, mARwAJ, mNwAR, mSwAR, mKwAR, mIwAR, mJwAR, mRwAR, mLwAR, mAIwAR, mAJwAR, mARwAR, okkwI, okkwJ, okkwR, okkwAI, okkwAJ, okkwAR]
                · rw [e6, e5, e4]; simp [mNwI, mSwI, mKwI, mIwI, mJwI, mRwI, mLwI, mAIwI, mAJwI, mARwI, mNwJ, mSwJ, mKwJ, mIwJ, mJwJ, mRwJ, mLwJ, mAIwJ, mAJwJ, mARwJ, mNwR, mSwR, mKwR, mIwR, mJwR, mRwR, mLwR, mAIwR, mAJwR, mARwR, mNwAI, mSwAI, mKwAI, mIwAI, mJwAI, mRwAI, mLwAI, mAIwAI, mAJwAI, mARwAI, mNwAJ, mSwAJ, mKwAJ, mIwAJ, mJwAJ, mRwAJ, mLwAJ, mAIwAJ, mAJwAJ, mARwAJ, mNwAR, mSwAR, mKwAR, mIwAR, mJwAR, mRwAR, mLwAR, mAIwAR, mAJwAR, mARwAR, okkwI, okkwJ, okkwR, okkwAI, okkwAJ, okkwAR]
                · rw [e6, e5, e4]; rfl
              obtain ⟨f1, f2, f3, f4, f5, f6, f7, f8, f9, f10⟩ := id R6
              have hm := bt_mono (i := r.1) hz (by rw [k16]; decide)
              refine G_take (h := h + 2) (pr := pr) (o := o + k) f1 ⟨f2.1, f2.2.1, hs2⟩ f3 f4.1 f5 f6 f7 f8 f9 ⟨⟨by omega, by omega⟩, by omega, f10.2.2.1, by omega, f10.2.2.2.2⟩ hB (fun k2 M7 R7 F7 _ => ⟨rfl, ?_⟩) (fun k2 M7 R7 F7 _ => ⟨rfl, ?_⟩)
              · rw [adv_ok' k2] at hE
                exact G_nots (h := h + 2) hz ht h100 R7 (fun M' R' F' _ => ⟨rfl, hE M' R' (((((F1.tr F2).tr F3).tr fr6).tr F7).tr F')⟩)
              · rw [adv_er' k2] at hE
                refine G_nots (h := h + 2) hz ht h100 R7 (fun M' R' F' _ => ⟨rfl, ?_⟩)
                have T' := R'.x (by decide)
                exact YL T' (hE M' T' (((((F1.tr F2).tr F3).tr fr6).tr F7).tr F'))
        · rw [if_neg (by omega : ¬ o + k = 15), adv_er' k1] at hE
          exact YL T1 (hE M1 T1 F1)
        · rw [if_pos ho] at hE
          exact YL T1 (hE M1 T1 F1)
      rw [if_neg n15] at hE
      refine K_key tk (j := 32) (k := 62) (by decide) rfl rfl (fun k62 _ => ⟨_, rfl, fun z => absurd z (by decide), fun _ => ?_⟩) (fun n62 _ => ⟨_, rfl, fun _ => ?_, fun z => absurd rfl z⟩)
      · rw [if_pos k62] at hE
        have hs := hS.lt hi.2.2 h0 (by rw [k62]; decide)
        obtain ⟨f1, f2, f3, f4, f5, f6, f7, f8, f9, f10⟩ := id hR
        have hm := bt_mono (i := i) hz (by rw [k62]; decide)
        refine G_take (h := h + 2) (pr := pr) (o := o + k) f1 ⟨f2.1, f2.2.1, hs⟩ f3 f4.1 f5 f6 f7 f8 f9 ⟨⟨by omega, by omega⟩, by omega, f10.2.2.1, by omega, f10.2.2.2.2⟩ hB (fun k1 M1 R1 F1 _ => ⟨rfl, fun z => absurd R1.2.2.2.1.1 z, fun _ => ?_⟩) (fun k1 M1 R1 F1 _ => ⟨rfl, fun _ => ?_, fun z => ?_⟩)
        · rw [adv_ok' k1] at hE
          have hE : EndC b n s m sN ro mx vN M o k pr σ0 ν (fun M' => T (h + 5) mdX11_readCond 19 [(0, .ref 29), (1, .int 0), (2, .int 1)] [] M' Q) (fun M' => Q (some (.int 0)) M') (rc0 b n sN 1 (i + 1) Y) := hE
          refine G_operand (h := h) (p := 1) hz R1 hB hS k1 ht h100 (by decide) ?_
          generalize rc0 b n sN 1 (i + 1) Y = R at hE
          cases R with
          | error e => exact fun M' T' F' _ => ⟨rfl, YL T' (hE M' T' (F1.tr F'))⟩
          | ok r => exact fun M' R' F' _ => ⟨rfl, hE M' R' (F1.tr F')⟩
        · rw [adv_er' k1] at hE
          exact YL (R1.x (by decide)) (hE M1 (R1.x (by decide)) F1)
        · rw [R1.2.2.2.1.1] at z
          exact absurd z (by show ¬ (1 : Int32) = 0; decide)
      · rw [if_neg n62] at hE
        refine G_operand (h := h) (p := 0) hz hR hB hS h0 ht h100 (by decide) ?_
        generalize rc0 b n sN 0 i Y = R at hE
        cases R with
        | error e => exact fun M' T' F' _ => ⟨rfl, YL T' (hE M' T' F')⟩
        | ok r => exact fun M' R' F' _ => ⟨rfl, hE M' R' F'⟩
    · intro M i o pr σ0 ν Y hg h0 ht h100 hR hE
      have hi := hR.2.1
      unfold rc at hE
      rw [if_neg (by decide), if_pos rfl] at hE
      refine ih0 M i o 0 pr σ0 ν Y (by omega) h0 (top_imp ht (fun x q => q.1)) h100 (by simpa using hR) ?_
      rw [Nat.add_zero]
      have hok := rc_ok (sN := sN) hS g 0 i o Y (by decide) hi.2.2 h0
      generalize rc b n sN g 0 i o Y = R at hE hok
      cases R with
      | error e => exact fun M' T' F' => hE M' T' F'
      | ok r =>
        intro M2 R2 F2
        obtain ⟨a1, a2, a3, -, a5⟩ := hok
        exact ih2 M2 r.1 o pr σ0 ν [] (r.2.length - 1) r.2 (by have := (a5 (by decide)).1; omega) a3 ht h100 (fun e he => absurd he List.not_mem_nil) R2 rfl (EndD.fr hE F2)
    · intro M i o pr σ0 ν π r Y hg h0 ht h100 hπ hR ej hE
      have hi := hR.2.1
      unfold rc at hE
      rw [if_neg (by decide), if_neg (by decide), if_pos rfl] at hE
      by_cases hk : tK b n i = 59
      · rw [if_pos hk] at hE
        have hs := hS.lt hi.2.2 h0 (by rw [hk]; decide)
        refine G_atOp (L := 3) hz hB hs (Or.inl ⟨rfl, hk⟩) (top_imp ht (fun x q => q.2)) hπ h100 hR (fun k1 M1 R1 F1 => ?_) (fun k1 M1 T1 F1 => ?_)
        · rw [adv_ok' k1] at hE
          have hE : EndD 3 b n s m sN ro mx vN M o pr σ0 ν (fun M' => T (h + 5) mdX11_readCond 19 [(0, .ref 29), (1, .int 0), (2, .int 1)] [] M' Q) (fun M' => Q (some (.int 0)) M') ((rc b n sN g 0 (i + 1) o (jc π r Y).2).bind fun r' => rc b n sN g 2 r'.1 o (r'.2 ++ [(3, (jc π r Y).2.length - 1, r'.2.length - 1)])) := hE
          rw [← ej] at hE
          generalize jc π r Y = J at hE R1
          refine ih0 M1 (i + 1) o 0 pr (3 :: σ0) (J.1 :: ν) J.2 (by omega) k1 (top_cons (by decide)) (fun x hx => ?_) R1 ?_
          · rcases List.mem_cons.mp hx with z | z
            · omega
            · exact h100 x z
          rw [Nat.add_zero]
          have hok := rc_ok (sN := sN) hS g 0 (i + 1) o J.2 (by decide) hs k1
          generalize rc b n sN g 0 (i + 1) o J.2 = R at hE hok
          cases R with
          | error e => exact fun M' T' F' => hE M' T' (F1.tr F')
          | ok r2 =>
            intro M2 R2 F2
            obtain ⟨a1, a2, a3, -, a5⟩ := hok
            refine ih2 M2 r2.1 o pr σ0 ν [(3, J.1)] (r2.2.length - 1) r2.2 (by omega) a3 ht h100 (fun e he => ?_) R2 ?_ ?_
            · rw [List.mem_singleton.mp he]; exact ⟨Nat.le_refl _, Nat.le_refl _⟩
            · show r2.2.length = (r2.2 ++ [_]).length - 1
              rw [List.length_append]; rfl
            · exact EndD.fr (M := M) hE (F1.tr F2)
        · rw [adv_er' k1] at hE
          exact YL T1 (hE M1 T1 F1)
      · rw [if_neg hk] at hE
        exact hE M π r Y hπ hR (Prod.ext ej rfl) ⟨hk, fun z => absurd z (by decide)⟩ RFc.rf
    · intro M i o pr σ0 ν Y hg h0 ht h100 hR hE
      have hi := hR.2.1
      unfold rc at hE
      rw [if_neg (by decide), if_neg (by decide), if_neg (by decide), if_pos rfl] at hE
      refine ih1 M i o pr σ0 ν Y (by omega) h0 (top_imp ht (fun x q => ⟨q.1, by omega⟩)) h100 hR ?_
      have hok := rc_ok (sN := sN) hS g 1 i o Y (by decide) hi.2.2 h0
      generalize rc b n sN g 1 i o Y = R at hE hok
      cases R with
      | error e => exact fun M' T' F' => hE M' T' F'
      | ok r =>
        intro M2 π r' Y' hπ R2 ej hst F2
        obtain ⟨a1, a2, a3, -, a5⟩ := hok
        have e1 : (jc π r' Y').2 = r.2 := by rw [ej]
        refine ih4 M2 r.1 o pr σ0 ν π r' Y' (by have := (a5 (by decide)).1; omega) a3 hst.1 ht h100 (fun e he => ⟨(hπ e he).1, by have := (hπ e he).2; omega⟩) R2 (by rw [ej]) ?_
        rw [e1]
        exact EndD.fr hE F2
    · intro M i o pr σ0 ν π r Y hg h0 hnt ht h100 hπ hR ej hE
      have hi := hR.2.1
      unfold rc at hE
      rw [if_neg (by decide), if_neg (by decide), if_neg (by decide), if_neg (by decide)] at hE
      by_cases hk : tK b n i = 60
      · rw [if_pos hk] at hE
        have hs := hS.lt hi.2.2 h0 (by rw [hk]; decide)
        refine G_atOp (L := 4) hz hB hs (Or.inr ⟨rfl, hk⟩) (top_imp ht (fun x q => q.2)) hπ h100 hR (fun k1 M1 R1 F1 => ?_) (fun k1 M1 T1 F1 => ?_)
        · rw [adv_ok' k1] at hE
          have hE : EndD 4 b n s m sN ro mx vN M o pr σ0 ν (fun M' => T (h + 5) mdX11_readCond 19 [(0, .ref 29), (1, .int 0), (2, .int 1)] [] M' Q) (fun M' => Q (some (.int 0)) M') ((rc b n sN g 1 (i + 1) o (jc π r Y).2).bind fun r' => rc b n sN g 4 r'.1 o (r'.2 ++ [(4, (jc π r Y).2.length - 1, r'.2.length - 1)])) := hE
          rw [← ej] at hE
          generalize jc π r Y = J at hE R1
          refine ih1 M1 (i + 1) o pr (4 :: σ0) (J.1 :: ν) J.2 (by omega) k1 (top_cons (by decide)) (fun x hx => ?_) R1 ?_
          · rcases List.mem_cons.mp hx with z | z
            · omega
            · exact h100 x z
          have hok := rc_ok (sN := sN) hS g 1 (i + 1) o J.2 (by decide) hs k1
          generalize rc b n sN g 1 (i + 1) o J.2 = R at hE hok
          cases R with
          | error e => exact fun M' T' F' => hE M' T' (F1.tr F')
          | ok r2 =>
            intro M2 π2 r' Y' hπ2 R2 ej2 hst F2
            obtain ⟨a1, a2, a3, -, a5⟩ := hok
            have ea : jc (π2 ++ [(4, J.1)]) r' Y' = (r2.2.length, r2.2 ++ [(4, J.1, r2.2.length - 1)]) := by rw [jc_app, ej2]
            have m1 : (π2 ++ [(4, J.1)]).map Prod.fst ++ σ0 = π2.map Prod.fst ++ 4 :: σ0 := by simp
            have m2 : (π2 ++ [(4, J.1)]).map Prod.snd ++ ν = π2.map Prod.snd ++ J.1 :: ν := by simp
            refine ih4 M2 r2.1 o pr σ0 ν (π2 ++ [(4, J.1)]) r' Y' (by omega) a3 hst.1 ht h100 (fun e he => ?_) (by rw [m1, m2]; exact R2) ?_ ?_
            · rcases List.mem_append.mp he with z | z
              · exact ⟨(hπ2 e z).1, by have := (hπ2 e z).2; omega⟩
              · rw [List.mem_singleton.mp z]; exact ⟨by show 3 ≤ 4; decide, by show 4 ≤ 4; decide⟩
            · rw [ea]
              show r2.2.length = (r2.2 ++ [_]).length - 1
              rw [List.length_append]; rfl
            · rw [ea]
              exact EndD.fr (M := M) hE (F1.tr F2)
        · rw [adv_er' k1] at hE
          exact YL T1 (hE M1 T1 F1)
      · rw [if_neg hk] at hE
        exact hE M π r Y hπ hR (Prod.ext ej rfl) ⟨hnt, fun _ => hk⟩ RFc.rf
/-- the reference between its readings, by its conditions -/
def BC (b : Nat → Int32) (n s m : Nat) (sN : List Int64) (ro mx : List Int32) (vN : List Int64) (M : Mem) (i o : Nat) (Y : List Cd) : Prop := CoR b n s m sN ro mx vN M ∧ (n ≤ 800 ∧ s ≤ n ∧ i ≤ s) ∧ mI M 29 5 = Int32.ofNat i ∧ mI M 29 6 = 0 ∧ mI M 29 33 = Int32.ofNat o ∧ YR sN.length M m Y ∧ (2 * Y.length ≤ bt b n i ∧ o ≤ 15)
def EndB (b : Nat → Int32) (n s m : Nat) (sN : List Int64) (ro mx : List Int32) (vN : List Int64) (M : Mem) (o : Nat) (Q : Option Value → Mem → Prop) (R : Except (Int32 × Nat) (Nat × List Cd)) : Prop := match R with
  | .ok r => ∀ M', BC b n s m sN ro mx vN M' r.1 o r.2 → RFc m M M' → Q (some (.int (Int32.ofNat (410 * m + (r.2.length - 1))))) M'
  | .error e => ∀ M', TXr M' e.1 e.2 → RFc m M M' → Q (some (.int 0)) M'
theorem SC.br {M : Mem} {i o pr : Nat} {σ ν : List Nat} {Y : List Cd} (h : SC b n s m sN ro mx vN (0, 0) M i o pr σ ν Y) : BC b n s m sN ro mx vN M i o Y := by
  obtain ⟨h1, h2, h3, h4, h5, h6, h7, h8, h9, h10⟩ := h
  exact ⟨h1, h2, h3, h4.1, h5, h9, by omega, h10.2.2.1⟩
theorem G_readCond {M : Mem} {i o : Nat} {Y : List Cd} {g : Nat} (hz : ∀ i, n ≤ i → b i = 0) (hB : By b) (hS : Sto b n s) (hR : BC b n s m sN ro mx vN M i o Y) (h0 : tK b n i ≠ 0) (hg : 6 * (s + 1 - i) + 3 ≤ g) (hE : EndB b n s m sN ro mx vN M o Q (rc b n sN g 3 i o Y)) : E (h + 5) mdX11_readCond [.ref 29] M Q := by
  obtain ⟨h1, h2, h3, h4, h5, h6, h7⟩ := hR
  have F := h1.1
  refine KX11_readCond ?_
  unfold DX11_readCond_0
  refine ⟨ok29 F, fun M2 e2 M3 e3 M4 e4 => ?_⟩
  have fr : RFc m M M4 := by rw [e4, e3, e2]; exact ((RFc.i (by decide)).tr (RFc.i (by decide))).tr (RFc.i (by decide))
  have w0 : wt [] = 0 := rfl
  have R4 : SC b n s m sN ro mx vN (0, 0) M4 i o 0 [] [] Y := by
    refine ⟨h1.frc fr, h2, by rw [e4, e3, e2]; simp [h3, mNwI, mSwI, mKwI, mIwI, mJwI, mRwI, mLwI, mAIwI, mAJwI, mARwI, mNwJ, mSwJ, mKwJ, mIwJ, mJwJ, mRwJ, mLwJ, mAIwJ, mAJwJ, mARwJ, mNwR, mSwR, mKwR, mIwR, mJwR, mRwR, mLwR, mAIwR, mAJwR, mARwR, mNwAI, mSwAI, mKwAI, mIwAI, mJwAI, mRwAI, mLwAI, mAIwAI, mAJwAI, mARwAI, mNwAJ, mSwAJ, mKwAJ, mIwAJ, mJwAJ, mRwAJ, mLwAJ, mAIwAJ, mAJwAJ, mARwAJ, mNwAR, mSwAR, mKwAR, mIwAR, mJwAR, mRwAR, mLwAR, mAIwAR, mAJwAR, mARwAR, okkwI, okkwJ, okkwR, okkwAI, okkwAJ, okkwAR], ⟨by rw [e4, e3, e2]; simp [h4, mNwI, mSwI, mKwI, mIwI, mJwI, mRwI, mLwI, mAIwI, mAJwI, mARwI, mNwJ, mSwJ, mKwJ, mIwJ, mJwJ, mRwJ, mLwJ, mAIwJ, mAJwJ, mARwJ, mNwR, mSwR, mKwR, mIwR, mJwR, mRwR, mLwR, mAIwR, mAJwR, mARwR, mNwAI, mSwAI, mKwAI, mIwAI, mJwAI, mRwAI, mLwAI, mAIwAI, mAJwAI, mARwAI, mNwAJ, mSwAJ, mKwAJ, mIwAJ, mJwAJ, mRwAJ, mLwAJ, mAIwAJ, mAJwAJ, mARwAJ, mNwAR, mSwAR, mKwAR, mIwAR, mJwAR, mRwAR, mLwAR, mAIwAR, mAJwAR, mARwAR, okkwI, okkwJ, okkwR, okkwAI, okkwAJ, okkwAR], Or.inl rfl⟩, by rw [e4, e3, e2]; simp [h5, mNwI, mSwI, mKwI, mIwI, mJwI, mRwI, mLwI, mAIwI, mAJwI, mARwI, mNwJ, mSwJ, mKwJ, mIwJ, mJwJ, mRwJ, mLwJ, mAIwJ, mAJwJ, mARwJ, mNwR, mSwR, mKwR, mIwR, mJwR, mRwR, mLwR, mAIwR, mAJwR, mARwR, mNwAI, mSwAI, mKwAI, mIwAI, mJwAI, mRwAI, mLwAI, mAIwAI, mAJwAI, mARwAI, mNwAJ, mSwAJ, mKwAJ, mIwAJ, mJwAJ, mRwAJ, mLwAJ, mAIwAJ, mAJwAJ, mARwAJ, mNwAR, mSwAR, mKwAR, mIwAR, mJwAR, mRwAR, mLwAR, mAIwAR, mAJwAR, mARwAR, okkwI, okkwJ, okkwR, okkwAI, okkwAJ, okkwAR], by rw [e4, e3, e2]; simp [mNwI, mSwI, mKwI, mIwI, mJwI, mRwI, mLwI, mAIwI, mAJwI, mARwI, mNwJ, mSwJ, mKwJ, mIwJ, mJwJ, mRwJ, mLwJ, mAIwJ, mAJwJ, mARwJ, mNwR, mSwR, mKwR, mIwR, mJwR, mRwR, mLwR, mAIwR, mAJwR, mARwR, mNwAI, mSwAI, mKwAI, mIwAI, mJwAI, mRwAI, mLwAI, mAIwAI, mAJwAI, mARwAI, mNwAJ, mSwAJ, mKwAJ, mIwAJ, mJwAJ, mRwAJ, mLwAJ, mAIwAJ, mAJwAJ, mARwAJ, mNwAR, mSwAR, mKwAR, mIwAR, mJwAR, mRwAR, mLwAR, mAIwAR, mAJwAR, mARwAR, okkwI, okkwJ, okkwR, okkwAI, okkwAJ, okkwAR], ⟨by rw [e4, e3, e2]; simp [mNwI, mSwI, mKwI, mIwI, mJwI, mRwI, mLwI, mAIwI, mAJwI, mARwI, mNwJ, mSwJ, mKwJ, mIwJ, mJwJ, mRwJ, mLwJ, mAIwJ, mAJwJ, mARwJ, mNwR, mSwR, mKwR, mIwR, mJwR, mRwR, mLwR, mAIwR, mAJwR, mARwR, mNwAI, mSwAI, mKwAI, mIwAI, mJwAI, mRwAI, mLwAI, mAIwAI, mAJwAI, mARwAI, mNwAJ, mSwAJ, mKwAJ, mIwAJ, mJwAJ, mRwAJ, mLwAJ, mAIwAJ, mAJwAJ, mARwAJ, mNwAR, mSwAR, mKwAR, mIwAR, mJwAR, mRwAR, mLwAR, mAIwAR, mAJwAR, mARwAR, okkwI, okkwJ, okkwR, okkwAI, okkwAJ, okkwAR], fun j hj => absurd hj (Nat.not_lt_zero _)⟩, ⟨by rw [e4, e3, e2]; simp [mNwI, mSwI, mKwI, mIwI, mJwI, mRwI, mLwI, mAIwI, mAJwI, mARwI, mNwJ, mSwJ, mKwJ, mIwJ, mJwJ, mRwJ, mLwJ, mAIwJ, mAJwJ, mARwJ, mNwR, mSwR, mKwR, mIwR, mJwR, mRwR, mLwR, mAIwR, mAJwR, mARwR, mNwAI, mSwAI, mKwAI, mIwAI, mJwAI, mRwAI, mLwAI, mAIwAI, mAJwAI, mARwAI, mNwAJ, mSwAJ, mKwAJ, mIwAJ, mJwAJ, mRwAJ, mLwAJ, mAIwAJ, mAJwAJ, mARwAJ, mNwAR, mSwAR, mKwAR, mIwAR, mJwAR, mRwAR, mLwAR, mAIwAR, mAJwAR, mARwAR, okkwI, okkwJ, okkwR, okkwAI, okkwAJ, okkwAR], fun j hj => absurd hj (Nat.not_lt_zero _)⟩, h6.fr (by rw [e4, e3, e2]; rfl) (by rw [e4, e3, e2]; rfl) (by rw [e4, e3, e2]; rfl) (by rw [e4, e3, e2]; rfl) (by rw [e4, e3, e2]; rfl), ⟨by rw [w0]; omega, Nat.zero_le _⟩, Nat.zero_le _, h7.2, Nat.zero_le _, fun x hx => absurd hx List.not_mem_nil⟩
  refine (G_rc (h := h) hz hB hS g).2.2.2.1 M4 i o 0 [] [] Y hg h0 trivial (fun x hx => absurd hx List.not_mem_nil) R4 ?_
  have hok := rc_ok (sN := sN) hS g 3 i o Y (by decide) h2.2.2 h0
  generalize rc b n sN g 3 i o Y = R at hE hok
  cases R with
  | error e => exact fun M' T' F' => hE M' T' (fr.tr F')
  | ok r =>
    intro M5 π r' Y' hπ R5 ej hst F5
    refine G_noOp hB R5 ⟨hst.1, hst.2 rfl⟩ (fun _ => ?_) (fun z => absurd rfl z)
    have FF := R5.1.1
    have h6 : mI M5 29 6 = 0 := R5.2.2.2.1.1
    have h32 : mI M5 29 32 = Int32.ofNat 0 := R5.2.2.2.2.2.1
    refine VX11_readCond_19 ?_
    unfold DX11_readCond_19 DX11_readCond_264 DX11_readCond_292
    refine ⟨fun _ => ⟨ok29 FF, fun z => absurd h6 z, fun _ => ⟨fun _ => ⟨ok29 FF, fun _ => ?_, fun z => absurd (by rw [h6]; decide) z⟩, fun z => absurd (by rw [h32]; decide) z⟩⟩, fun z => absurd rfl z⟩
    refine G_join (h := h + 1) (L := 4) hz (Or.inr rfl) (σb := []) trivial hπ (fun x hx => absurd hx List.not_mem_nil) R5 (fun M6 R6 F6 _ => ⟨rfl, 53, rf29_30 R6.1.1, ok53 R6.1.1, by rw [ln53 R6.1.1]; exact vp_of (n := 0) (by decide) (by decide), ?_⟩)
    rw [ej] at R6
    dsimp only at R6
    have tp : mAI M6 53 0 = Int32.ofNat (410 * m + (r.2.length - 1)) := R6.2.2.2.2.2.2.2.1.top
    have e0 : (0 : Int32).toNatClampNeg = 0 := by decide
    rw [e0, tp]
    exact hE M6 R6.br ((fr.tr F5).tr F6)
end
end
section
/-! the circuit: nets as a list of pairs of literals; literals as numbers -/
abbrev Nt : Type := List (Nat × Nat)
def nlt (a : Nat) : Nat := if a % 2 = 0 then a + 1 else a - 1
def anL (N : Nt) (a b : Nat) : Nt × Nat := if a = 0 ∨ b = 0 then (N, 0) else if a = 1 ∨ a = b then (N, b) else if b = 1 then (N, a) else (N ++ [(a, b)], 2 * N.length)
def orL (N : Nt) (a b : Nat) : Nt × Nat := ((anL N (nlt a) (nlt b)).1, nlt (anL N (nlt a) (nlt b)).2)
def frL (N : Nt) : Nt × Nat := (N ++ [(2 * N.length, 2 * N.length)], 2 * N.length)
def clL (N : Nt) (l x : Nat) : Nt := N.set (l / 2) (x, x)
theorem nlt_lt {a n : Nat} (h : a < 2 * n) : nlt a < 2 * n := by unfold nlt; split <;> omega
theorem nlt_nlt {a : Nat} : nlt (nlt a) = a := by unfold nlt; split <;> split <;> omega
theorem nxor {a : Nat} : a ^^^ 1 = nlt a := by
  have h1 : (a ^^^ 1) / 2 = a / 2 := by rw [Nat.xor_div_two]; exact Nat.xor_zero _
  have h2 : ((a ^^^ 1) % 2 = 1) ↔ ¬ (a % 2 = 1 ↔ 1 % 2 = 1) := Nat.xor_mod_two_eq_one
  unfold nlt
  split
  · have : (a ^^^ 1) % 2 = 1 := h2.mpr (by omega)
    omega
  · have : ¬ (a ^^^ 1) % 2 = 1 := fun z => (h2.mp z) (by omega)
    omega
theorem xor32 {a : Nat} (h : a < 2147483648) : Int32.ofNat a ^^^ 1 = Int32.ofNat (nlt a) := by
  refine Int32.toBitVec_inj.mp ?_
  rw [Int32.toBitVec_xor, Int32.toBitVec_ofNat', Int32.toBitVec_ofNat']
  refine BitVec.eq_of_toNat_eq ?_
  rw [BitVec.toNat_xor, BitVec.toNat_ofNat, BitVec.toNat_ofNat, Nat.mod_eq_of_lt (by omega), Nat.mod_eq_of_lt (by unfold nlt; split <;> omega)]
  exact nxor
theorem S_not {h a : Nat} {M : Mem} {Q : Option Value → Mem → Prop} (ha : a < 2147483648) (H : Q (some (.int (Int32.ofNat (nlt a)))) M) : E (h + 1) mdX0_not [.int (Int32.ofNat a)] M Q := by
  refine KX0_not ?_
  unfold DX0_not_0
  rw [xor32 ha]
  exact H
def CirP (M : Mem) (x lc rc : Nat) (N : Nt) : Prop := ok M x 2 ∧ mR M x 0 = some lc ∧ ok M lc 21 ∧ mR M x 1 = some rc ∧ ok M rc 21 ∧ mI M x 4 = Int32.ofNat N.length ∧ (1 ≤ N.length ∧ N.length ≤ mL M lc ∧ mL M rc = mL M lc ∧ 64 ≤ mL M lc ∧ mL M lc ≤ 64 + 2 * N.length) ∧ (∀ j, j < N.length → mAI M lc j = Int32.ofNat (N.getD j (0, 0)).1 ∧ mAI M rc j = Int32.ofNat (N.getD j (0, 0)).2) ∧ (∀ e ∈ N, e.1 < 2 * N.length ∧ e.2 < 2 * N.length) ∧ (x ≠ lc ∧ x ≠ rc ∧ lc ≠ rc)
def CirF (M M' : Mem) (x lc rc lc' rc' : Nat) (N N' : Nt) : Prop := fr (fun c => c = x ∨ c = lc ∨ c = rc) M M' ∧ (∀ f, f ≠ 4 → mI M' x f = mI M x f) ∧ (∀ f, f ≠ 0 → f ≠ 1 → mR M' x f = mR M x f) ∧ mJ M' x = mJ M x ∧ (mN M' + 2 * N.length ≤ mN M + 2 * N'.length ∧ 32 * mN M' + mL M lc ≤ 32 * mN M + mL M' lc') ∧ mS M' + 4 * mL M lc = mS M + 4 * mL M' lc' ∧ (lc' = lc ∨ mN M ≤ lc') ∧ (rc' = rc ∨ mN M ≤ rc') ∧ mN M ≤ mN M'
theorem CirF.rf {M : Mem} {x lc rc : Nat} {N : Nt} : CirF M M x lc rc lc rc N N := ⟨fr.rf, fun _ _ => rfl, fun _ _ _ => rfl, rfl, ⟨Nat.le_refl _, Nat.le_refl _⟩, rfl, Or.inl rfl, Or.inl rfl, Nat.le_refl _⟩
theorem CirF.tr {M M1 M2 : Mem} {x lc rc lc1 rc1 lc2 rc2 : Nat} {N N1 N2 : Nt} (h : CirF M M1 x lc rc lc1 rc1 N N1) (k : CirF M1 M2 x lc1 rc1 lc2 rc2 N1 N2) : CirF M M2 x lc rc lc2 rc2 N N2 := by
  obtain ⟨a1, a2, a3, a4, a5, a6, a7, a8, a9⟩ := h
  obtain ⟨b1, b2, b3, b4, b5, b6, b7, b8, b9⟩ := k
  refine ⟨a1.tr b1 (fun a ha z => ?_), fun f q => (b2 f q).trans (a2 f q), fun f q1 q2 => (b3 f q1 q2).trans (a3 f q1 q2), b4.trans a4, by omega, by omega, by omega, by omega, by omega⟩
  rcases z with z | z | z
  · exact Or.inl z
  · rcases a7 with q | q
    · exact Or.inr (Or.inl (z.trans q))
    · omega
  · rcases a8 with q | q
    · exact Or.inr (Or.inr (z.trans q))
    · omega
theorem getD_appN {N : Nt} {e : Nat × Nat} {j : Nat} (h : j < N.length + 1) : (N ++ [e]).getD j (0, 0) = if j = N.length then e else N.getD j (0, 0) := by
  rw [List.getD_eq_getElem?_getD, List.getD_eq_getElem?_getD]
  by_cases hj : j = N.length
  · rw [if_pos hj, hj, List.getElem?_append_right (Nat.le_refl _), Nat.sub_self]; rfl
  · rw [if_neg hj, List.getElem?_append_left (by omega)]
theorem wf_app {N : Nt} {a b : Nat} (h : ∀ e ∈ N, e.1 < 2 * N.length ∧ e.2 < 2 * N.length) (ha : a < 2 * N.length + 2) (hb : b < 2 * N.length + 2) : ∀ e ∈ N ++ [(a, b)], e.1 < 2 * (N ++ [(a, b)]).length ∧ e.2 < 2 * (N ++ [(a, b)]).length := by
  intro e he
  rw [List.length_append]
  show e.1 < 2 * (N.length + 1) ∧ e.2 < 2 * (N.length + 1)
  rcases List.mem_append.mp he with q | q
  · have := h e q; omega
  · rw [List.mem_singleton.mp q]; exact ⟨by show a < _; omega, by show b < _; omega⟩
/-- a row is copied into one of twice its length, which takes its place in field k of x -/
def Grw (M M' : Mem) (x k lc L : Nat) : Prop := fr (fun c => c = x) M M' ∧ (∀ f, mI M' x f = mI M x f) ∧ (∀ f, f ≠ k → mR M' x f = mR M x f) ∧ mJ M' x = mJ M x ∧ mR M' x k = some (mN M) ∧ ok M' (mN M) 21 ∧ mL M' (mN M) = L * 2 ∧ (∀ j, j < L → mAI M' (mN M) j = mAI M lc j) ∧ mN M' = mN M + 1 ∧ mS M' = mS M + L * 2
theorem S_grow {h x k lc L : Nat} {M : Mem} {Q : Mem → Prop} (hx : x < mN M) (ol : ok M lc 21) (hL : mL M lc = L) (h0 : 0 < L) (hlim : L < 10000000) (H : ∀ M', Grw M M' x k lc L → Q M') : E (h + 2) mdJ7_copyOf_59c91 [.ref lc, .int (Int32.ofNat (L * 2))] M (fun r M5 => mE M M5 → ∃ b6 : Nat, r = some (.ref b6) ∧ ∀ M7, M7 = wR M5 x k (some b6) → Q M7) := by
  refine S_copyI ol (by omega) (by omega) (by omega) (fun _ => ⟨_, rfl, fun M7 e7 => H M7 ?_⟩)
  rw [hL] at e7
  have nx : x ≠ mN M := Nat.ne_of_lt hx
  have nlc : lc ≠ mN M := Nat.ne_of_lt ol.1
  refine ⟨?_, fun f => by rw [e7]; rfl, fun f hf => by rw [e7, mR_wR, if_neg (fun z => hf z.2)]; rfl, by rw [e7]; rfl, by rw [e7, mR_wR, if_pos ⟨rfl, rfl⟩], by rw [e7]; exact ok_newA (n := L * 2), by rw [e7]; exact va_up_self _ _ _, fun j hj => ?_, by rw [e7]; rfl, by rw [e7]; rfl⟩
  · rw [e7]
    refine (fr_nwA).tr (S1 := fun c => c = x ∨ c = mN M) fr_cpw (fun a ha z => ?_)
    rcases z with z | z
    · exact z
    · omega
  · rw [e7]
    show va_up (mAI (nwA M 21 (L * 2))) (mN M) (va_cpy (mAI (nwA M 21 (L * 2)) lc) _ 0 0 L) (mN M) j = mAI M lc j
    rw [va_up_self]
    unfold va_cpy
    rw [if_pos ⟨Nat.zero_le _, by omega⟩, Nat.zero_add, Nat.sub_zero]
    show va_up (mAI M) (mN M) _ lc j = _
    rw [va_up_ne _ _ nlc]
theorem S_addNet {h x lc rc a b : Nat} {N : Nt} {M : Mem} {Q : Option Value → Mem → Prop} (hP : CirP M x lc rc N) (hlim : N.length < 100000) (ha : a < 2 * N.length + 2) (hb : b < 2 * N.length + 2) (H : ∀ M' lc' rc', CirP M' x lc' rc' (N ++ [(a, b)]) → CirF M M' x lc rc lc' rc' N (N ++ [(a, b)]) → Q (some (.int (Int32.ofNat N.length))) M') : E (h + 3) mdX0_addNet [.ref x, .int (Int32.ofNat a), .int (Int32.ofNat b)] M Q := by
  obtain ⟨o1, r1, o2, r2, o3, i1, ⟨l0, l1, l2, l3, l4⟩, v, wf, ⟨d1, d2, d3⟩⟩ := hP
  -- the pair is put down where there is room
  have put : ∀ (M1 : Mem) (lc' rc' : Nat) (Q1 : Option Value → Mem → Prop), ok M1 x 2 → mR M1 x 0 = some lc' → ok M1 lc' 21 → mR M1 x 1 = some rc' → ok M1 rc' 21 → mI M1 x 4 = Int32.ofNat N.length → N.length < mL M1 lc' → mL M1 rc' = mL M1 lc' → mL M1 lc' ≤ 64 + 2 * (N.length + 1) → 64 ≤ mL M1 lc' → (∀ j, j < N.length → mAI M1 lc' j = Int32.ofNat (N.getD j (0, 0)).1 ∧ mAI M1 rc' j = Int32.ofNat (N.getD j (0, 0)).2) → x ≠ lc' → x ≠ rc' → lc' ≠ rc' → (∀ M', CirP M' x lc' rc' (N ++ [(a, b)]) → M' = wI (wAI (wAI M1 lc' N.length (Int32.ofNat a)) rc' N.length (Int32.ofNat b)) x 4 (Int32.ofNat (N.length + 1)) → Q1 (some (.int (Int32.ofNat N.length))) M') → DX0_addNet_46 (h + 2) x (Int32.ofNat a) (Int32.ofNat b) M1 Q1 := by
    intro M1 lc' rc' Q1 p1 p2 p3 p4 p5 p6 p7 p8 p9 p64 pv q1 q2 q3 K
    unfold DX0_addNet_46
    refine ⟨p1, lc', p2, p3, by rw [p6]; exact vp_of p7 (by omega), fun M4 e4 => ?_⟩
    rw [p6, lt32 (by omega)] at e4
    refine ⟨rc', by rw [e4]; exact p4, by rw [e4]; exact p5, by rw [e4]; show vp_in (mI M1 x 4) (mL M1 rc'); rw [p6, p8]; exact vp_of p7 (by omega), fun M7 e7 M8 e8 => ?_⟩
    have i4 : mI M4 x 4 = Int32.ofNat N.length := by rw [e4, mI_wAI]; exact p6
    rw [i4, lt32 (by omega)] at e7
    have i7 : mI M7 x 4 = Int32.ofNat N.length := by rw [e7, mI_wAI]; exact i4
    rw [i7, succ32, e7, e4] at e8
    have i8 : mI M8 x 4 = Int32.ofNat (N.length + 1) := by rw [e8]; exact mI_own _ _ _ _
    rw [i8, dec32 (by omega)]
    refine K M8 ⟨by rw [e8]; exact p1, by rw [e8]; exact p2, by rw [e8]; exact p3, by rw [e8]; exact p4, by rw [e8]; exact p5, by rw [i8, List.length_append]; rfl, ?_, fun j hj => ?_, wf_app wf ha hb, q1, q2, q3⟩ e8
    · rw [e8, List.length_append]
      exact ⟨Nat.le_add_left _ _, p7, p8, p64, p9⟩
    · rw [List.length_append] at hj
      have hj : j < N.length + 1 := hj
      rw [getD_appN hj, e8, mAI_wI]
      by_cases q : j = N.length
      · rw [if_pos q]
        exact ⟨by rw [mAI_wAI, if_neg (fun z => q3 z.1), mAI_wAI, if_pos ⟨rfl, q⟩], by rw [mAI_wAI, if_pos ⟨rfl, q⟩]⟩
      · rw [if_neg q]
        exact ⟨by rw [mAI_wAI, if_neg (fun z => q z.2), mAI_wAI, if_neg (fun z => q z.2)]; exact (pv j (by omega)).1, by rw [mAI_wAI, if_neg (fun z => q z.2), mAI_wAI, if_neg (fun z => q z.2)]; exact (pv j (by omega)).2⟩
  refine KX0_addNet ?_
  unfold DX0_addNet_0
  refine ⟨o1, lc, r1, o2, fun hc => ?_, fun hc => ?_⟩
  · rw [i1] at hc
    have hlt : N.length < mL M lc := by
      have : N.length ≠ mL M lc := fun z => hc (by rw [z])
      omega
    refine put M lc rc Q o1 r1 o2 r2 o3 i1 hlt l2 (by omega) l3 v d1 d2 d3 (fun M' P' e => H M' lc rc P' ?_)
    refine ⟨?_, fun f hf => by rw [e, mI_wI, if_neg (fun z => hf z.2)]; rfl, fun f _ _ => by rw [e]; rfl, by rw [e]; rfl, by rw [e, List.length_append]; show mN M + 2 * N.length ≤ mN M + 2 * (N.length + 1) ∧ 32 * mN M + mL M lc ≤ 32 * mN M + mL M lc; omega, by rw [e]; rfl, Or.inl rfl, Or.inl rfl, by rw [e]; exact Nat.le_refl _⟩
    rw [e]
    exact ((fr_wAI (S := fun c => c = x ∨ c = lc ∨ c = rc) (Or.inr (Or.inl rfl))).tr (fr_wAI (S := fun c => c = x ∨ c = lc ∨ c = rc) (Or.inr (Or.inr rfl))) (fun _ _ z => z)).tr (fr_wI (S := fun c => c = x ∨ c = lc ∨ c = rc) (Or.inl rfl)) (fun _ _ z => z)
  · rw [i1] at hc
    have heq : N.length = mL M lc := inj32 (by omega) (by omega) hc
    have e2 : ∀ {M1 : Mem}, mI M1 x 4 = Int32.ofNat N.length → mI M1 x 4 * 2 = Int32.ofNat (mL M lc * 2) := fun e => by rw [e, heq, Int32.ofNat_mul]; rfl
    refine ⟨lc, r1, ?_⟩
    rw [e2 i1]
    refine S_grow o1.1 o2 rfl (by omega) (by omega) (fun M1 G1 => ?_)
    obtain ⟨f1, f2, f3, f4, f5, f6, f7, f8, f9, f10⟩ := G1
    have n1 := o1.1
    have n2 := o2.1
    have n3 := o3.1
    have r21 : mR M1 x 1 = some rc := (f3 1 (by decide)).trans r2
    have i11 : mI M1 x 4 = Int32.ofNat N.length := (f2 4).trans i1
    have o31 : ok M1 rc 21 := ok_E o3 f1.1
    have l31 : mL M1 rc = mL M lc := ((f1.1.2.2 rc n3).2).trans l2
    refine ⟨rc, r21, ?_⟩
    rw [e2 i11]
    refine S_grow (h := h) (by omega) o31 l31 (by omega) (by omega) (fun M2 G2 => ?_)
    obtain ⟨g1, g2, g3, g4, g5, g6, g7, g8, g9, g10⟩ := G2
    have row1 : ∀ a, a < mN M → a ≠ x → sameRow M M2 a := fun a ha hx => (f1.2 a ha hx).tr (g1.2 a (by omega) hx)
    have o62 : ok M2 (mN M) 21 := ok_E f6 g1.1
    have l72 : mL M2 (mN M) = mL M lc * 2 := ((g1.1.2.2 (mN M) f6.1).2).trans f7
    have nR := g1.2 (mN M) (by omega) (by omega)
    refine put M2 (mN M) (mN M1) Q (ok_E (ok_E o1 f1.1) g1.1) ((g3 0 (by decide)).trans f5) o62 g5 g6 ((g2 4).trans i11) (by rw [l72]; omega) (by rw [l72]; exact g7) (by rw [l72]; omega) (by rw [l72]; omega) (fun j hj => ⟨?_, ?_⟩) (by omega) (by omega) (by omega) (fun M' P' e => H M' (mN M) (mN M1) P' ?_)
    · rw [nR.2.2.2.1, f8 j (by omega)]; exact (v j hj).1
    · rw [g8 j (by omega), (f1.2 rc n3 (fun z => d2 z.symm)).2.2.2.1]; exact (v j hj).2
    · refine ⟨?_, fun f hf => by rw [e, mI_wI, if_neg (fun z => hf z.2)]; exact (g2 f).trans (f2 f), fun f q0 q1 => by rw [e]; exact (g3 f q1).trans (f3 f q0), by rw [e]; exact g4.trans f4, by rw [e, List.length_append]; show mN M2 + 2 * N.length ≤ mN M + 2 * (N.length + 1) ∧ 32 * mN M2 + mL M lc ≤ 32 * mN M + mL M2 (mN M); rw [l72]; omega, by rw [e]; show mS M2 + 4 * mL M lc = mS M + 4 * mL M2 (mN M); rw [l72]; omega, Or.inr (Nat.le_refl _), Or.inr (by omega), by rw [e]; show mN M ≤ mN M2; omega⟩
      have fM : fr (fun c => c = x ∨ c = lc ∨ c = rc) M M2 := (f1.tr g1 (fun _ _ z => z)).more (fun a _ z => Or.inl z)
      refine fM.tr (S1 := fun c => c = x ∨ c = mN M ∨ c = mN M1) ?_ (fun a ha z => ?_)
      · rw [e]
        exact ((fr_wAI (S := fun c => c = x ∨ c = mN M ∨ c = mN M1) (Or.inr (Or.inl rfl))).tr (fr_wAI (S := fun c => c = x ∨ c = mN M ∨ c = mN M1) (Or.inr (Or.inr rfl))) (fun _ _ z => z)).tr (fr_wI (S := fun c => c = x ∨ c = mN M ∨ c = mN M1) (Or.inl rfl)) (fun _ _ z => z)
      · rcases z with z | z | z
        · exact Or.inl z
        · omega
        · omega
theorem anL_len {N : Nt} {a b : Nat} : N.length ≤ (anL N a b).1.length ∧ (anL N a b).1.length ≤ N.length + 1 := by
  unfold anL
  repeat' split
  all_goals (try rw [List.length_append])
  all_goals (show _ ≤ _ ∧ _ ≤ _; simp)
theorem anL_lt {N : Nt} {a b : Nat} (h1 : 1 ≤ N.length) (ha : a < 2 * N.length) (hb : b < 2 * N.length) : (anL N a b).2 < 2 * (anL N a b).1.length := by
  unfold anL
  split
  · show 0 < 2 * N.length; omega
  · split
    · exact hb
    · split
      · exact ha
      · show 2 * N.length < 2 * (N ++ [(a, b)]).length
        rw [List.length_append]; show 2 * N.length < 2 * (N.length + 1); omega
theorem z32 {a : Nat} {k : Nat} (ha : a < 2147483648) (hk : k < 2147483648) : (Int32.ofNat a = Int32.ofNat k) ↔ a = k := ⟨fun z => inj32 ha hk z, fun z => by rw [z]⟩
theorem S_and {h x lc rc a b : Nat} {N : Nt} {M : Mem} {Q : Option Value → Mem → Prop} (hP : CirP M x lc rc N) (hlim : N.length < 100000) (ha : a < 2 * N.length) (hb : b < 2 * N.length) (H : ∀ M' lc' rc', CirP M' x lc' rc' (anL N a b).1 → CirF M M' x lc rc lc' rc' N (anL N a b).1 → Q (some (.int (Int32.ofNat (anL N a b).2))) M') : E (h + 4) mdX0_and [.ref x, .int (Int32.ofNat a), .int (Int32.ofNat b)] M Q := by
  have za := z32 (a := a) (k := 0) (by omega) (by decide)
  have zb := z32 (a := b) (k := 0) (by omega) (by decide)
  have oa := z32 (a := a) (k := 1) (by omega) (by decide)
  have ob := z32 (a := b) (k := 1) (by omega) (by decide)
  have ab := z32 (a := a) (k := b) (by omega) (by omega)
  have stay : (anL N a b).1 = N → Q (some (.int (Int32.ofNat (anL N a b).2))) M := fun e => H M lc rc (by rw [e]; exact hP) (by rw [e]; exact CirF.rf)
  unfold anL at H stay
  refine KX0_and ?_
  unfold DX0_and_0 DX0_and_8 DX0_and_20 DX0_and_39
  refine ⟨fun q => ?_, fun q0 => ⟨fun q1 => ⟨fun q => ?_, fun q2 => ⟨fun q3 => ⟨fun q4 => ?_, fun q => ?_⟩, fun q => ?_⟩⟩, fun q => ?_⟩⟩
  · have c : a = 0 ∨ b = 0 := Or.inl (za.mp q)
    rw [if_pos c] at stay; exact stay rfl
  · have c : ¬ (a = 0 ∨ b = 0) := by rintro (z | z) <;> first | exact q0 (za.mpr z) | exact q1 (zb.mpr z)
    rw [if_neg c, if_pos (Or.inl (oa.mp q))] at stay; exact stay rfl
  · have c : ¬ (a = 0 ∨ b = 0) := by rintro (z | z) <;> first | exact q0 (za.mpr z) | exact q1 (zb.mpr z)
    have c2 : ¬ (a = 1 ∨ a = b) := by rintro (z | z) <;> first | exact q2 (oa.mpr z) | exact q3 (ab.mpr z)
    have c3 : ¬ b = 1 := fun z => q4 (ob.mpr z)
    rw [if_neg c, if_neg c2, if_neg c3] at H
    refine ⟨hP.1, S_addNet hP hlim (by omega) (by omega) (fun M' lc' rc' P' F' _ => ⟨_, rfl, ?_⟩)⟩
    rw [show (2 : Int32) * Int32.ofNat N.length = Int32.ofNat (2 * N.length) from by rw [show (2 : Int32) = Int32.ofNat 2 from rfl, mul32]]
    exact H M' lc' rc' P' F'
  · have c : ¬ (a = 0 ∨ b = 0) := by rintro (z | z) <;> first | exact q0 (za.mpr z) | exact q1 (zb.mpr z)
    have c2 : ¬ (a = 1 ∨ a = b) := by rintro (z | z) <;> first | exact q2 (oa.mpr z) | exact q3 (ab.mpr z)
    rw [if_neg c, if_neg c2, if_pos (ob.mp q)] at stay; exact stay rfl
  · have c : ¬ (a = 0 ∨ b = 0) := by rintro (z | z) <;> first | exact q0 (za.mpr z) | exact q1 (zb.mpr z)
    rw [if_neg c, if_pos (Or.inr (ab.mp q))] at stay; exact stay rfl
  · have c : a = 0 ∨ b = 0 := Or.inr (zb.mp q)
    rw [if_pos c] at stay; exact stay rfl
theorem S_or {h x lc rc a b : Nat} {N : Nt} {M : Mem} {Q : Option Value → Mem → Prop} (hP : CirP M x lc rc N) (hlim : N.length < 100000) (ha : a < 2 * N.length) (hb : b < 2 * N.length) (H : ∀ M' lc' rc', CirP M' x lc' rc' (orL N a b).1 → CirF M M' x lc rc lc' rc' N (orL N a b).1 → Q (some (.int (Int32.ofNat (orL N a b).2))) M') : E (h + 5) mdX0_or [.ref x, .int (Int32.ofNat a), .int (Int32.ofNat b)] M Q := by
  refine KX0_or ?_
  unfold DX0_or_0
  have ha' := nlt_lt ha
  have hb' := nlt_lt hb
  have l1 := hP.2.2.2.2.2.2.1.1
  have hl := anL_lt l1 ha' hb'
  have hlen := anL_len (N := N) (a := nlt a) (b := nlt b)
  refine S_not (h := h + 3) (by omega) (fun _ => ⟨_, rfl, S_not (h := h + 3) (by omega) (fun _ => ⟨_, rfl, hP.1, S_and hP hlim ha' hb' (fun M' lc' rc' P' F' _ => ⟨_, rfl, S_not (h := h + 3) (by omega) (fun _ => ⟨_, rfl, H M' lc' rc' P' F'⟩)⟩)⟩)⟩)
theorem orL_len {N : Nt} {a b : Nat} : N.length ≤ (orL N a b).1.length ∧ (orL N a b).1.length ≤ N.length + 1 := anL_len
theorem orL_lt {N : Nt} {a b : Nat} (h1 : 1 ≤ N.length) (ha : a < 2 * N.length) (hb : b < 2 * N.length) : (orL N a b).2 < 2 * (orL N a b).1.length := nlt_lt (anL_lt h1 (nlt_lt ha) (nlt_lt hb))
theorem S_fresh {h x lc rc : Nat} {N : Nt} {M : Mem} {Q : Option Value → Mem → Prop} (hP : CirP M x lc rc N) (hlim : N.length < 100000) (H : ∀ M' lc' rc', CirP M' x lc' rc' (frL N).1 → CirF M M' x lc rc lc' rc' N (frL N).1 → Q (some (.int (Int32.ofNat (2 * N.length)))) M') : E (h + 4) mdX0_fresh [.ref x] M Q := by
  refine KX0_fresh ?_
  unfold DX0_fresh_0
  have e : (2 : Int32) * mI M x 4 = Int32.ofNat (2 * N.length) := by rw [hP.2.2.2.2.2.1, show (2 : Int32) = Int32.ofNat 2 from rfl, mul32]
  rw [e]
  exact ⟨hP.1, S_addNet hP hlim (by omega) (by omega) (fun M' lc' rc' P' F' _ => ⟨_, rfl, H M' lc' rc' P' F'⟩)⟩
end
section
/-! the class reads conditions -/
section
variable {b : Nat → Int32} {n s : Nat} {M : Mem} {i o h : Nat} {Q : Option Value → Mem → Prop}
theorem A_accept {c : Int32} (hT : TI b n s M i o) (hS : Sto b n s) (hc1 : c ≠ 1) (H1 : tK b n i = c → tK b n (i + 1) ≠ 0 → ∀ M', TI b n s M' (i + 1) o → TFr M M' → Q (some (.int 1)) M') (H0 : tK b n i = c → tK b n (i + 1) = 0 → ∀ M', TF M' 1 (tP b n (i + 1)) → TFr M M' → Q (some (.int 1)) M') (H2 : tK b n i ≠ c → Q (some (.int 0)) M) : E (h + 2) mdX7_accept [.ref 15, .int c] M Q := by
  refine S_accept hT.1 hT.c0 (fun q => ?_) (fun q => H2 (by rw [← hT.kind]; exact q))
  rw [hT.kind] at q
  have hs := hS.lt hT.2.1.2.2 hT.2.2.2.2.2.2.2.2.2 (by rw [q]; exact hc1)
  by_cases hk1 : tK b n (i + 1) = 0
  · exact H0 q hk1 _ ((hT.adv hs).2 hk1) TFr.adv
  · exact H1 q hk1 _ ((hT.adv hs).1 hk1) TFr.adv
theorem F_accept {c f : Int32} {p : Nat} (hT : TF M f p) (hc : c ≠ 0) (H : Q (some (.int 0)) M) : E (h + 2) mdX7_accept [.ref 15, .int c] M Q :=
  S_accept hT.1 hT.2.1 (fun q => absurd (q.symm.trans hT.2.2.2.2.2) hc) (fun _ => H)
theorem A_told {n0 : Nat} {sN : List Int64} {ro mx : List Int32} {vN : List Int64} (h1 : TI b n s M i o) (h2 : EnvC M n0 sN ro mx vN) (h6 : mR M 14 7 = some n0) (hB : By b) (H1 : tK b n i = 2 → ∀ k, fd sN (tC b n i) = some k → k < sN.length → Q (some (.int (Int32.ofNat k))) M) (H0 : tK b n i = 2 → fd sN (tC b n i) = none → ∀ M', TF M' 4 (tP b n i) → TFr M M' → Q (some (.int (-1))) M') (H2 : tK b n i ≠ 2 → ∀ M', TF M' 2 (tP b n i) → TFr M M' → Q (some (.int (-1))) M') : E (h + 2) mdX4_toldSignal [.ref 14] M Q := by
  have F := h1.1
  refine KX4_toldSignal ?_
  unfold DX4_toldSignal_0 DX4_toldSignal_49
  refine ⟨ok14 F, 15, rf14_0 F, ok15 F, fun hk => ?_, fun hk => ?_⟩
  · rw [h1.kind] at hk
    refine ⟨n0, h6, 15, rf14_0 F, ok15 F, h2.1, ?_⟩
    rw [h1.word hB hk]
    refine S_sigNamed h2 (fun _ => ⟨_, rfl, fun hc => ?_, fun hc => ?_⟩)
    · cases e : fd sN (tC b n i) with
      | none => rw [e] at hc; exact absurd rfl hc
      | some k => exact H1 hk k e (fd_some e).1
    · cases e : fd sN (tC b n i) with
      | none => exact ⟨15, rf14_0 F, ok15 F, A_fail h1 (by decide) (fun M' hT' hF' _ => ⟨rfl, H0 hk e M' hT' hF'⟩)⟩
      | some k =>
        rw [e] at hc
        exact absurd hc (oi_ne (by have := (fd_some e).1; have := h2.2.1.1; omega))
  · rw [h1.kind] at hk
    exact ⟨15, rf14_0 F, ok15 F, A_fail h1 (by decide) (fun M' hT' hF' _ => ⟨rfl, H2 hk M' hT' hF'⟩)⟩
theorem X_told {f : Int32} {p : Nat} (hT : TF M f p) (H : Q (some (.int (-1))) M) : E (h + 2) mdX4_toldSignal [.ref 14] M Q := by
  have F := hT.1
  refine KX4_toldSignal ?_
  unfold DX4_toldSignal_0
  refine ⟨ok14 F, 15, rf14_0 F, ok15 F, fun hk => ?_, fun hk => ⟨15, rf14_0 F, ok15 F, F_fail hT (fun _ => ⟨rfl, H⟩)⟩⟩
  rw [hT.2.2.2.2.2] at hk
  exact absurd hk (by decide)
end
/-- a module's circuit while it is read: nets, the literals of signals and of what stands behind pre -/
def CB (n0 : Nat) (sN : List Int64) (ro mx : List Int32) (vN : List Int64) (M : Mem) (N : Nt) (lc rc : Nat) (sg bf : Nat → Nat) : Prop :=
  EnvC M n0 sN ro mx vN ∧ CirP M (n0 + 8) lc rc N ∧ (lc = n0 + 9 ∨ n0 + 25 ≤ lc) ∧ (rc = n0 + 10 ∨ n0 + 25 ≤ rc) ∧ mR M n0 7 = some (n0 + 8) ∧ mR M (n0 + 8) 13 = some (n0 + 20) ∧ (ok M (n0 + 20) 21 ∧ mL M (n0 + 20) = 16 ∧ ∀ k, k < 16 → mAI M (n0 + 20) k = Int32.ofNat (sg k) ∧ sg k < 2 * N.length) ∧ mR M (n0 + 8) 8 = some (n0 + 16) ∧ (ok M (n0 + 16) 21 ∧ mL M (n0 + 16) = 16 ∧ ∀ k, k < 16 → mAI M (n0 + 16) k = Int32.ofNat (bf k) ∧ bf k < 2 * N.length) ∧ mR M 14 7 = some n0 ∧ 132 ≤ n0 ∧ n0 + 25 ≤ mN M
/-- what reading a condition may change -/
def CdF (n0 : Nat) (M M' : Mem) (lc rc lc' rc' : Nat) (N N' : Nt) : Prop := fr (fun c => c = 15 ∨ c = n0 + 8 ∨ c = n0 + 16 ∨ c = lc ∨ c = rc) M M' ∧ mR M' 15 = mR M 15 ∧ (∀ f, f ≠ 4 → mI M' (n0 + 8) f = mI M (n0 + 8) f) ∧ (∀ f, f ≠ 0 → f ≠ 1 → mR M' (n0 + 8) f = mR M (n0 + 8) f) ∧ mJ M' (n0 + 8) = mJ M (n0 + 8) ∧ mN M' + 2 * N.length ≤ mN M + 2 * N'.length ∧ mS M' + 4 * mL M lc = mS M + 4 * mL M' lc' ∧ (lc' = lc ∨ mN M ≤ lc') ∧ (rc' = rc ∨ mN M ≤ rc') ∧ N.length ≤ N'.length
theorem CdF.rf {n0 lc rc : Nat} {M : Mem} {N : Nt} : CdF n0 M M lc rc lc rc N N := ⟨fr.rf, rfl, fun _ _ => rfl, fun _ _ _ => rfl, rfl, Nat.le_refl _, rfl, Or.inl rfl, Or.inl rfl, Nat.le_refl _⟩
theorem CdF.tr {n0 : Nat} {M M1 M2 : Mem} {lc rc lc1 rc1 lc2 rc2 : Nat} {N N1 N2 : Nt} (h : CdF n0 M M1 lc rc lc1 rc1 N N1) (k : CdF n0 M1 M2 lc1 rc1 lc2 rc2 N1 N2) : CdF n0 M M2 lc rc lc2 rc2 N N2 := by
  obtain ⟨a1, a0, a2, a3, a4, a5, a6, a7, a8, a9⟩ := h
  obtain ⟨b1, b0, b2, b3, b4, b5, b6, b7, b8, b9⟩ := k
  have hn := a1.1.1
  refine ⟨a1.tr b1 (fun a ha z => ?_), b0.trans a0, fun f q => (b2 f q).trans (a2 f q), fun f q1 q2 => (b3 f q1 q2).trans (a3 f q1 q2), b4.trans a4, by omega, by omega, by omega, by omega, by omega⟩
  rcases z with z | z | z | z | z
  · exact Or.inl z
  · exact Or.inr (Or.inl z)
  · exact Or.inr (Or.inr (Or.inl z))
  · rcases a7 with q | q
    · exact Or.inr (Or.inr (Or.inr (Or.inl (z.trans q))))
    · omega
  · rcases a8 with q | q
    · exact Or.inr (Or.inr (Or.inr (Or.inr (z.trans q))))
    · omega
theorem CdF.t {n0 lc rc : Nat} {M M' : Mem} {N : Nt} (h : TFr M M') (hn : 132 ≤ n0) : CdF n0 M M' lc rc lc rc N N := by
  obtain ⟨a1, a2, a3, a4, a5, a6, a7, a8, a9⟩ := id h
  exact ⟨h.fr.more (fun a _ z => Or.inl z), by rw [a5], fun f _ => by rw [(a9 _ (by omega)).1], fun f _ _ => by rw [a5], (a9 _ (by omega)).2, by rw [a1]; exact Nat.le_refl _, by rw [a2, a4], Or.inl rfl, Or.inl rfl, Nat.le_refl _⟩
theorem CdF.c {n0 lc rc lc' rc' : Nat} {M M' : Mem} {N N' : Nt} (h : CirF M M' (n0 + 8) lc rc lc' rc' N N') (hn : 132 ≤ n0) (h15 : lc ≠ 15 ∧ rc ≠ 15) (hm : 132 ≤ mN M) (hl : N.length ≤ N'.length) : CdF n0 M M' lc rc lc' rc' N N' := by
  obtain ⟨a1, a2, a3, a4, a5, a6, a7, a8, a9⟩ := h
  refine ⟨a1.more (fun a _ z => ?_), (a1.2 15 (by omega) (by rintro (z | z | z) <;> omega)).2.2.1, a2, a3, a4, a5.1, a6, a7, a8, hl⟩
  rcases z with z | z | z
  · exact Or.inr (Or.inl z)
  · exact Or.inr (Or.inr (Or.inr (Or.inl z)))
  · exact Or.inr (Or.inr (Or.inr (Or.inr z)))
theorem CirP.fr {M M' : Mem} {x lc rc : Nat} {N : Nt} (h : CirP M x lc rc N) (hE : mE M M') (h1 : sameRow M M' x) (h2 : sameRow M M' lc) (h3 : sameRow M M' rc) : CirP M' x lc rc N := by
  obtain ⟨o1, r1, o2, r2, o3, i1, ⟨l0, l1, l2, l3, l4⟩, v, wf, d⟩ := h
  have e2 := (hE.2.2 lc o2.1).2
  have e3 := (hE.2.2 rc o3.1).2
  exact ⟨ok_E o1 hE, by rw [h1.2.2.1]; exact r1, ok_E o2 hE, by rw [h1.2.2.1]; exact r2, ok_E o3 hE, by rw [h1.1]; exact i1, ⟨l0, by rw [e2]; exact l1, by rw [e2, e3]; exact l2, by rw [e2]; exact l3, by rw [e2]; exact l4⟩, fun j hj => by rw [h2.2.2.2.1, h3.2.2.2.1]; exact v j hj, wf, d⟩
section
variable {b : Nat → Int32} {n s n0 : Nat} {sN : List Int64} {ro mx : List Int32} {vN : List Int64} {M M' : Mem} {i o : Nat} {N N' : Nt} {lc rc lc' rc' : Nat} {sg bf : Nat → Nat} {h : Nat} {Q : Option Value → Mem → Prop}
theorem CB.t (h : CB n0 sN ro mx vN M N lc rc sg bf) (k : TFr M M') : CB n0 sN ro mx vN M' N lc rc sg bf := by
  obtain ⟨h1, h2, h3, h4, h5, h6, ⟨s1, s2, s3⟩, h7, ⟨b1, b2, b3⟩, h8, h9, h10⟩ := h
  have row : ∀ a, a ≠ 15 → sameRow M M' a := fun a ha => k.row ha
  exact ⟨h1.t k h9, h2.fr k.e (row _ (by omega)) (row _ (by omega)) (row _ (by omega)), h3, h4, by rw [(row n0 (by omega)).2.2.1]; exact h5, by rw [(row (n0 + 8) (by omega)).2.2.1]; exact h6, ⟨ok_E s1 k.e, (k.e.2.2 _ s1.1).2.trans s2, fun q hq => by rw [(row (n0 + 20) (by omega)).2.2.2.1]; exact s3 q hq⟩, by rw [(row (n0 + 8) (by omega)).2.2.1]; exact h7, ⟨ok_E b1 k.e, (k.e.2.2 _ b1.1).2.trans b2, fun q hq => by rw [(row (n0 + 16) (by omega)).2.2.2.1]; exact b3 q hq⟩, by rw [(row 14 (by decide)).2.2.1]; exact h8, h9, by rw [k.1]; exact h10⟩
theorem CB.c (h : CB n0 sN ro mx vN M N lc rc sg bf) (hP : CirP M' (n0 + 8) lc' rc' N') (k : CirF M M' (n0 + 8) lc rc lc' rc' N N') (hl : N.length ≤ N'.length) : CB n0 sN ro mx vN M' N' lc' rc' sg bf := by
  obtain ⟨h1, h2, h3, h4, h5, h6, ⟨s1, s2, s3⟩, h7, ⟨b1, b2, b3⟩, h8, h9, h10⟩ := h
  obtain ⟨k1, k2, k3, k4, k5, k6, k7, k8, k9⟩ := k
  have row : ∀ a, a < mN M → a ≠ n0 + 8 → a ≠ lc → a ≠ rc → sameRow M M' a := fun a ha q1 q2 q3 => k1.2 a ha (by rintro (z | z | z) <;> first | exact q1 z | exact q2 z | exact q3 z)
  have r20 := row (n0 + 20) (by omega) (by omega) (by omega) (by omega)
  have r16 := row (n0 + 16) (by omega) (by omega) (by omega) (by omega)
  refine ⟨h1.fr k1.1 (fun a q1 q2 => row a (by omega) (by omega) (by omega) (by omega)), hP, by omega, by omega, by rw [(row n0 (by omega) (by omega) (by omega) (by omega)).2.2.1]; exact h5, by rw [k3 13 (by decide) (by decide)]; exact h6, ⟨ok_E s1 k1.1, (k1.1.2.2 _ s1.1).2.trans s2, fun q hq => by rw [r20.2.2.2.1]; exact ⟨(s3 q hq).1, by have := (s3 q hq).2; omega⟩⟩, by rw [k3 8 (by decide) (by decide)]; exact h7, ⟨ok_E b1 k1.1, (k1.1.2.2 _ b1.1).2.trans b2, fun q hq => by rw [r16.2.2.2.1]; exact ⟨(b3 q hq).1, by have := (b3 q hq).2; omega⟩⟩, by rw [(row 14 (by omega) (by omega) (by omega) (by omega)).2.2.1]; exact h8, h9, by omega⟩
theorem TI.c (h : TI b n s M i o) (hC : CB n0 sN ro mx vN M N lc rc sg bf) (k : CirF M M' (n0 + 8) lc rc lc' rc' N N') : TI b n s M' i o := by
  obtain ⟨h1, h2, h3, h4, h5, h6, hs, h7, hb, h8, h9, h10⟩ := hC
  have row : ∀ a, a < 132 → sameRow M M' a := fun a ha => k.1.2 a (by omega) (by rintro (z | z | z) <;> omega)
  have F' : Fix M' := by
    refine h.1.of_fr (S := fun _ => True) k.1.1 (fun e he => ?_) (row 19 (by decide)).2.2.2.2.1
    have := tRS_lt e he
    rw [(row e.1 (by omega)).2.2.1]
  exact h.fr F' (row 15 (by decide)).1 (row 15 (by decide)).2.1 (row 16 (by decide)).2.2.2.1 (row 17 (by decide)).2.2.2.1 (row 18 (by decide)).2.2.2.2.1
theorem TF.c {f : Int32} {p : Nat} (h : TF M f p) (hC : CB n0 sN ro mx vN M N lc rc sg bf) (k : CirF M M' (n0 + 8) lc rc lc' rc' N N') : TF M' f p := by
  obtain ⟨h1, h2, h3, h4, h5, h6, hs, h7, hb, h8, h9, h10⟩ := hC
  have row : ∀ a, a < 132 → sameRow M M' a := fun a ha => k.1.2 a (by omega) (by rintro (z | z | z) <;> omega)
  have F' : Fix M' := by
    refine h.1.of_fr (S := fun _ => True) k.1.1 (fun e he => ?_) (row 19 (by decide)).2.2.2.2.1
    have := tRS_lt e he
    rw [(row e.1 (by omega)).2.2.1]
  exact h.fr F' (row 15 (by decide)).1
def upF (f : Nat → Nat) (k v : Nat) : Nat → Nat := fun j => if j = k then v else f j
theorem CB.w16 {k v : Nat} (h : CB n0 sN ro mx vN M N lc rc sg bf) (hk : k < 16) (hv : v < 2 * N.length) (e : M' = wAI M (n0 + 16) k (Int32.ofNat v)) : CB n0 sN ro mx vN M' N lc rc sg (upF bf k v) ∧ CdF n0 M M' lc rc lc rc N N := by
  obtain ⟨h1, h2, h3, h4, h5, h6, ⟨s1, s2, s3⟩, h7, ⟨b1, b2, b3⟩, h8, h9, h10⟩ := h
  have row : ∀ a, a ≠ n0 + 16 → sameRow M M' a := fun a ha => by rw [e]; exact ⟨rfl, rfl, rfl, up2_row ha, rfl, rfl⟩
  have hE : mE M M' := by rw [e]; exact mE_wAI
  refine ⟨⟨h1.fr hE (fun a q1 q2 => row a (by omega)), h2.fr hE (row _ (by omega)) (row _ (by omega)) (row _ (by omega)), h3, h4, by rw [e]; exact h5, by rw [e]; exact h6, ⟨ok_E s1 hE, (hE.2.2 _ s1.1).2.trans s2, fun q hq => by rw [(row (n0 + 20) (by omega)).2.2.2.1]; exact s3 q hq⟩, by rw [e]; exact h7, ⟨ok_E b1 hE, (hE.2.2 _ b1.1).2.trans b2, fun q hq => ?_⟩, by rw [e]; exact h8, h9, by rw [e]; exact h10⟩, ?_⟩
  · rw [e, mAI_wAI]
    unfold upF
    by_cases z : q = k
    · rw [if_pos ⟨rfl, z⟩, if_pos z]; exact ⟨rfl, hv⟩
    · rw [if_neg (fun y => z y.2), if_neg z]; exact b3 q hq
  · refine ⟨by rw [e]; exact fr_wAI (S := fun c => c = 15 ∨ c = n0 + 8 ∨ c = n0 + 16 ∨ c = lc ∨ c = rc) (Or.inr (Or.inr (Or.inl rfl))), by rw [e]; rfl, fun f _ => by rw [e]; rfl, fun f _ _ => by rw [e]; rfl, by rw [e]; rfl, by rw [e]; exact Nat.le_refl _, by rw [e]; rfl, Or.inl rfl, Or.inl rfl, Nat.le_refl _⟩
/-- the literal of 'pre' of a signal -/
def bfL (N : Nt) (bf : Nat → Nat) (k : Nat) : Nt × (Nat → Nat) × Nat := if bf k = 0 then ((frL N).1, upF bf k (2 * N.length), 2 * N.length) else (N, bf, bf k)
theorem S_beforeOf {k : Nat} (hC : CB n0 sN ro mx vN M N lc rc sg bf) (hT : TI b n s M i o) (hk : k < 16) (hlim : N.length < 100000) (H : ∀ M' lc' rc', TI b n s M' i o → CB n0 sN ro mx vN M' (bfL N bf k).1 lc' rc' sg (bfL N bf k).2.1 → CdF n0 M M' lc rc lc' rc' N (bfL N bf k).1 → Q (some (.int (Int32.ofNat (bfL N bf k).2.2))) M') : E (h + 5) mdX0_beforeOf [.ref (n0 + 8), .int (Int32.ofNat k)] M Q := by
  obtain ⟨h1, h2, h3, h4, h5, h6, hs, h7, ⟨b1, b2, b3⟩, h8, h9, h10⟩ := id hC
  have hm := hT.1.1
  refine KX0_beforeOf ?_
  unfold DX0_beforeOf_0 DX0_beforeOf_19
  have z := z32 (a := bf k) (k := 0) (by have := (b3 k hk).2; omega) (by decide)
  have vp : ∀ {M : Mem}, mL M (n0 + 16) = 16 → vp_in (Int32.ofNat k) (mL M (n0 + 16)) := fun e => by rw [e]; exact vp_of hk (by decide)
  unfold bfL at H
  rw [lt32 (by omega)]
  refine ⟨h2.1, n0 + 16, h7, b1, vp b2, fun q => ?_, fun q => ⟨n0 + 16, h7, S_fresh h2 hlim (fun M1 lc1 rc1 P1 F1 _ => ⟨_, rfl, ?_⟩)⟩⟩
  · rw [(b3 k hk).1] at q
    rw [if_neg (fun y => q (z.mpr y))] at H
    refine ⟨h2.1, n0 + 16, h7, b1, vp b2, ?_⟩
    rw [(b3 k hk).1]
    exact H M lc rc hT hC CdF.rf
  · rw [(b3 k hk).1] at q
    rw [if_pos (z.mp q)] at H
    have hl : N.length ≤ (frL N).1.length := by show _ ≤ (N ++ [_]).length; rw [List.length_append]; exact Nat.le_add_right _ _
    have C1 := hC.c P1 F1 hl
    have T1 := hT.c hC F1
    obtain ⟨-, -, -, -, -, -, -, g7, ⟨g1, g2, g3⟩, -⟩ := id C1
    refine ⟨g1, vp g2, fun M2 e2 => ?_⟩
    have hv : 2 * N.length < 2 * (frL N).1.length := by show _ < 2 * (N ++ [_]).length; rw [List.length_append]; show 2 * N.length < 2 * (N.length + 1); omega
    obtain ⟨C2, D2⟩ := C1.w16 hk hv e2
    have T2 : TI b n s M2 i o := by
      have row : ∀ a, a ≠ n0 + 16 → sameRow M1 M2 a := fun a ha => by rw [e2]; exact ⟨rfl, rfl, rfl, up2_row ha, rfl, rfl⟩
      exact T1.fr (by rw [e2]; exact T1.1.ai) (row 15 (by omega)).1 (row 15 (by omega)).2.1 (row 16 (by omega)).2.2.2.1 (row 17 (by omega)).2.2.2.1 (row 18 (by omega)).2.2.2.2.1
    obtain ⟨q1, q2, q3, q4, q5, q6, qs, q7, ⟨c1, c2, c3⟩, -⟩ := id C2
    refine ⟨q2.1, n0 + 16, q7, c1, vp c2, ?_⟩
    rw [(c3 k hk).1]
    have e3 : upF bf k (2 * N.length) k = 2 * N.length := by unfold upF; rw [if_pos rfl]
    rw [e3]
    exact H M2 lc1 rc1 T2 C2 ((CdF.c F1 h9 ⟨by omega, by omega⟩ (by omega) hl).tr D2)
end
/-- a node of a condition as the class makes it: nets, literals behind pre, the literal of each node -/
def ndL (sg : Nat → Nat) (S : Nt × (Nat → Nat) × List Nat) (d : Cd) : Nt × (Nat → Nat) × List Nat :=
  if d.1 = 0 then (S.1, S.2.1, S.2.2 ++ [sg d.2.1])
  else if d.1 = 1 then ((bfL S.1 S.2.1 d.2.1).1, (bfL S.1 S.2.1 d.2.1).2.1, S.2.2 ++ [(bfL S.1 S.2.1 d.2.1).2.2])
  else if d.1 = 2 then (S.1, S.2.1, S.2.2 ++ [nlt (S.2.2.getD d.2.1 0)])
  else if d.1 = 3 then ((anL S.1 (S.2.2.getD d.2.1 0) (S.2.2.getD d.2.2 0)).1, S.2.1, S.2.2 ++ [(anL S.1 (S.2.2.getD d.2.1 0) (S.2.2.getD d.2.2 0)).2])
  else ((orL S.1 (S.2.2.getD d.2.1 0) (S.2.2.getD d.2.2 0)).1, S.2.1, S.2.2 ++ [(orL S.1 (S.2.2.getD d.2.1 0) (S.2.2.getD d.2.2 0)).2])
def cyL (sg : Nat → Nat) (S : Nt × (Nat → Nat) × List Nat) (Z : List Cd) : Nt × (Nat → Nat) × List Nat := Z.foldl (ndL sg) S
theorem cyL_app {sg : Nat → Nat} {S : Nt × (Nat → Nat) × List Nat} {Z V : List Cd} : cyL sg S (Z ++ V) = cyL sg (cyL sg S Z) V := List.foldl_append
theorem ndL_len {sg : Nat → Nat} {S : Nt × (Nat → Nat) × List Nat} {d : Cd} : S.1.length ≤ (ndL sg S d).1.length ∧ (ndL sg S d).1.length ≤ S.1.length + 1 ∧ (ndL sg S d).2.2.length = S.2.2.length + 1 := by
  unfold ndL
  split
  · exact ⟨Nat.le_refl _, Nat.le_succ _, by rw [List.length_append]; rfl⟩
  · split
    · refine ⟨?_, ?_, by rw [List.length_append]; rfl⟩
      · unfold bfL; split
        · show _ ≤ (S.1 ++ [_]).length; rw [List.length_append]; exact Nat.le_add_right _ _
        · exact Nat.le_refl _
      · unfold bfL; split
        · show (S.1 ++ [_]).length ≤ _; rw [List.length_append]; exact Nat.le_refl _
        · exact Nat.le_succ _
    · split
      · exact ⟨Nat.le_refl _, Nat.le_succ _, by rw [List.length_append]; rfl⟩
      · split
        · exact ⟨anL_len.1, anL_len.2, by rw [List.length_append]; rfl⟩
        · exact ⟨orL_len.1, orL_len.2, by rw [List.length_append]; rfl⟩
theorem cyL_len {sg : Nat → Nat} : ∀ (Z : List Cd) (S : Nt × (Nat → Nat) × List Nat), S.1.length ≤ (cyL sg S Z).1.length ∧ (cyL sg S Z).1.length ≤ S.1.length + Z.length ∧ (cyL sg S Z).2.2.length = S.2.2.length + Z.length := by
  intro Z
  induction Z with
  | nil => intro S; exact ⟨Nat.le_refl _, Nat.le_refl _, rfl⟩
  | cons d Z ih =>
    intro S
    have h1 := @ndL_len sg S d
    have h2 := ih (ndL sg S d)
    show S.1.length ≤ (cyL sg (ndL sg S d) Z).1.length ∧ (cyL sg (ndL sg S d) Z).1.length ≤ S.1.length + (Z.length + 1) ∧ (cyL sg (ndL sg S d) Z).2.2.length = S.2.2.length + (Z.length + 1)
    omega
end
section
/-! the class reads conditions: readNot, readAnd, readCondition against rc -/
abbrev LsT : Type := Nt × (Nat → Nat) × List Nat
def LsB (S : LsT) : Prop := ∀ x ∈ S.2.2, x < 2 * S.1.length
theorem getD_lt {l : List Nat} {n k : Nat} (h : ∀ x ∈ l, x < n) (h0 : 0 < n) : l.getD k 0 < n := by
  rw [List.getD_eq_getElem?_getD]
  by_cases hk : k < l.length
  · rw [List.getElem?_eq_getElem hk]; exact h _ (List.getElem_mem hk)
  · rw [List.getElem?_eq_none (by omega)]; exact h0
theorem getD_last {l : List Nat} {x : Nat} {k : Nat} (h : k = l.length) : (l ++ [x]).getD k 0 = x := by
  rw [List.getD_eq_getElem?_getD, h, List.getElem?_append_right (Nat.le_refl _), Nat.sub_self]; rfl
theorem getD_left {l r : List Nat} {k : Nat} (h : k < l.length) : (l ++ r).getD k 0 = l.getD k 0 := by
  rw [List.getD_eq_getElem?_getD, List.getD_eq_getElem?_getD, List.getElem?_append_left h]
theorem ndL_pre {sg : Nat → Nat} {S : LsT} {d : Cd} : ∃ x, (ndL sg S d).2.2 = S.2.2 ++ [x] := by
  unfold ndL
  repeat' split
  all_goals exact ⟨_, rfl⟩
theorem cyL_pre {sg : Nat → Nat} : ∀ (Z : List Cd) (S : LsT), ∃ V, (cyL sg S Z).2.2 = S.2.2 ++ V := by
  intro Z
  induction Z with
  | nil => intro S; exact ⟨[], (List.append_nil _).symm⟩
  | cons d Z ih =>
    intro S
    obtain ⟨x, hx⟩ := @ndL_pre sg S d
    obtain ⟨V, hV⟩ := ih (ndL sg S d)
    exact ⟨[x] ++ V, by show (cyL sg (ndL sg S d) Z).2.2 = _; rw [hV, hx, List.append_assoc]⟩
theorem cyL_getD {sg : Nat → Nat} {Z : List Cd} {S : LsT} {k : Nat} (h : k < S.2.2.length) : (cyL sg S Z).2.2.getD k 0 = S.2.2.getD k 0 := by
  obtain ⟨V, hV⟩ := cyL_pre (sg := sg) Z S
  rw [hV, getD_left h]
section
variable {b : Nat → Int32} {n s n0 : Nat} {sN : List Int64} {ro mx : List Int32} {vN : List Int64} {sg : Nat → Nat} {h : Nat} {Q : Option Value → Mem → Prop}
theorem X_not {M : Mem} {f : Int32} {p : Nat} (hT : TF M f p) (H : Q (some (.int 0)) M) : E (h + 3) mdX4_readNot [.ref 14] M Q := by
  have F := hT.1
  have k := hT.2.2.2.2.2
  refine KX4_readNot ?_
  unfold DX4_readNot_0
  refine ⟨ok14 F, 15, rf14_0 F, ok15 F, fun _ => ⟨15, rf14_0 F, ok15 F, fun _ => ⟨15, rf14_0 F, ok15 F, ?_⟩, fun hc => absurd (k ▸ hc) (by decide)⟩, fun hc => absurd (k ▸ hc) (by decide)⟩
  exact F_accept hT (by decide) (fun _ => ⟨_, rfl, X_told hT (fun _ => ⟨_, rfl, 15, rf14_0 F, ok15 F, F_adv hT (fun _ => ⟨rfl, fun z => absurd rfl z, fun _ => H⟩)⟩)⟩)
theorem X_andL {M : Mem} {f : Int32} {p : Nat} {x c : Int32} (hT : TF M f p) (H : Q (some (.int x)) M) : T (h + 3) mdX4_readAnd 7 [(0, .ref 14), (1, .int x), (2, .int c)] [] M Q := by
  have F := hT.1
  refine VX4_readAnd_7 ?_
  unfold DX4_readAnd_7 DX4_readAnd_48
  exact ⟨fun _ => H, fun _ => ⟨ok14 F, 15, rf14_0 F, ok15 F, F_accept hT (by decide) (fun _ => ⟨_, rfl, fun _ => H, fun z => absurd rfl z⟩)⟩⟩
theorem X_and {M : Mem} {f : Int32} {p : Nat} (hT : TF M f p) (H : Q (some (.int 0)) M) : E (h + 4) mdX4_readAnd [.ref 14] M Q := by
  refine KX4_readAnd ?_
  unfold DX4_readAnd_0
  exact ⟨ok14 hT.1, X_not hT (fun _ => ⟨_, rfl, X_andL (h := h + 1) hT H⟩)⟩
theorem X_condL {M : Mem} {f : Int32} {p : Nat} {x c : Int32} (hT : TF M f p) (H : Q (some (.int x)) M) : T (h + 3) mdX4_readCondition 7 [(0, .ref 14), (1, .int x), (2, .int c)] [] M Q := by
  have F := hT.1
  refine VX4_readCondition_7 ?_
  unfold DX4_readCondition_7 DX4_readCondition_48
  exact ⟨fun _ => H, fun _ => ⟨ok14 F, 15, rf14_0 F, ok15 F, F_accept hT (by decide) (fun _ => ⟨_, rfl, fun _ => H, fun z => absurd rfl z⟩)⟩⟩
theorem X_cond {M : Mem} {f : Int32} {p : Nat} (hT : TF M f p) (H : Q (some (.int 0)) M) : E (h + 5) mdX4_readCondition [.ref 14] M Q := by
  refine KX4_readCondition ?_
  unfold DX4_readCondition_0
  exact ⟨ok14 hT.1, X_and hT (fun _ => ⟨_, rfl, X_condL (h := h + 2) hT H⟩)⟩
def EndK (b : Nat → Int32) (n s n0 : Nat) (sN : List Int64) (ro mx : List Int32) (vN : List Int64) (sg : Nat → Nat) (M : Mem) (i o : Nat) (Y : List Cd) (S : LsT) (lc rc : Nat) (Q : Option Value → Mem → Prop) (R : Except (Int32 × Nat) (Nat × List Cd)) : Prop := match R with
  | .ok r => ∀ M' lc' rc', TI b n s M' r.1 o → CB n0 sN ro mx vN M' (cyL sg S (r.2.drop Y.length)).1 lc' rc' sg (cyL sg S (r.2.drop Y.length)).2.1 → LsB (cyL sg S (r.2.drop Y.length)) → CdF n0 M M' lc rc lc' rc' S.1 (cyL sg S (r.2.drop Y.length)).1 → Q (some (.int (Int32.ofNat ((cyL sg S (r.2.drop Y.length)).2.2.getD (r.2.length - 1) 0)))) M'
  | .error e => ∀ M' lc' rc' N' bf' v, TF M' e.1 e.2 → CB n0 sN ro mx vN M' N' lc' rc' sg bf' → CdF n0 M M' lc rc lc' rc' S.1 N' → N'.length ≤ S.1.length + (s + 1 - i) → v < 2 * N'.length → Q (some (.int (Int32.ofNat v))) M'
theorem CB.n1 {M : Mem} {N : Nt} {lc rc : Nat} {bf : Nat → Nat} (h : CB n0 sN ro mx vN M N lc rc sg bf) : 1 ≤ N.length := h.2.1.2.2.2.2.2.2.1.1
theorem CB.lim {M : Mem} {N : Nt} {lc rc : Nat} {bf : Nat → Nat} (h : CB n0 sN ro mx vN M N lc rc sg bf) : lc ≠ 15 ∧ rc ≠ 15 ∧ 132 ≤ n0 ∧ 132 ≤ mN M := by
  obtain ⟨h1, h2, h3, h4, h5, h6, hs, h7, hb, h8, h9, h10⟩ := h
  omega
/-- 'and' or 'or' behind a fault: the nets may grow by one -/
theorem X_joinA {M : Mem} {f : Int32} {p x v c : Nat} {N : Nt} {lc rc : Nat} {bf : Nat → Nat} (hT : TF M f p) (hC : CB n0 sN ro mx vN M N lc rc sg bf) (hx : x < 2 * N.length) (hv : v < 2 * N.length) (hlim : N.length < 100000) (H : ∀ M' lc' rc' N' w, TF M' f p → CB n0 sN ro mx vN M' N' lc' rc' sg bf → CdF n0 M M' lc rc lc' rc' N N' → N'.length ≤ N.length + 1 → w < 2 * N'.length → Q (some (.int (Int32.ofNat w))) M') : E (h + 4) mdX0_and [.ref (n0 + 8), .int (Int32.ofNat x), .int (Int32.ofNat v)] M (fun r M12 => mE M M12 → ∃ r13 : Int32, r = some (.int r13) ∧ T (h + 5) mdX4_readAnd 7 [(0, .ref 14), (1, .int r13), (2, .int (Int32.ofNat c + 1))] [] M12 Q) := by
  have n1 := hC.n1
  have lm := hC.lim
  have ll := anL_len (N := N) (a := x) (b := v)
  refine S_and hC.2.1 hlim hx hv (fun M' lc' rc' P' F' _ => ⟨_, rfl, X_andL (h := h + 2) (hT.c hC F') ?_⟩)
  exact H M' lc' rc' _ _ (hT.c hC F') (hC.c P' F' ll.1) (CdF.c F' lm.2.2.1 ⟨lm.1, lm.2.1⟩ lm.2.2.2 ll.1) ll.2 (anL_lt n1 hx hv)
theorem X_joinO {M : Mem} {f : Int32} {p x v c : Nat} {N : Nt} {lc rc : Nat} {bf : Nat → Nat} (hT : TF M f p) (hC : CB n0 sN ro mx vN M N lc rc sg bf) (hx : x < 2 * N.length) (hv : v < 2 * N.length) (hlim : N.length < 100000) (H : ∀ M' lc' rc' N' w, TF M' f p → CB n0 sN ro mx vN M' N' lc' rc' sg bf → CdF n0 M M' lc rc lc' rc' N N' → N'.length ≤ N.length + 1 → w < 2 * N'.length → Q (some (.int (Int32.ofNat w))) M') : E (h + 5) mdX0_or [.ref (n0 + 8), .int (Int32.ofNat x), .int (Int32.ofNat v)] M (fun r M12 => mE M M12 → ∃ r13 : Int32, r = some (.int r13) ∧ T (h + 6) mdX4_readCondition 7 [(0, .ref 14), (1, .int r13), (2, .int (Int32.ofNat c + 1))] [] M12 Q) := by
  have n1 := hC.n1
  have lm := hC.lim
  have ll := orL_len (N := N) (a := x) (b := v)
  refine S_or hC.2.1 hlim hx hv (fun M' lc' rc' P' F' _ => ⟨_, rfl, X_condL (h := h + 3) (hT.c hC F') ?_⟩)
  exact H M' lc' rc' _ _ (hT.c hC F') (hC.c P' F' ll.1) (CdF.c F' lm.2.2.1 ⟨lm.1, lm.2.1⟩ lm.2.2.2 ll.1) ll.2 (orL_lt n1 hx hv)
/-- one node more -/
theorem LsB.snoc {S : LsT} {N : Nt} {bf : Nat → Nat} {x : Nat} (h : LsB S) (hN : S.1.length ≤ N.length) (hx : x < 2 * N.length) : LsB (N, bf, S.2.2 ++ [x]) := by
  intro y hy
  rcases List.mem_append.mp hy with q | q
  · have := h y q; show y < 2 * N.length; omega
  · rw [List.mem_singleton.mp q]; exact hx
/-- an operand: rc0 -/
theorem C_operand (hB : By b) (hS : Sto b n s) {M : Mem} {i o p : Nat} {Y : List Cd} {S : LsT} {lc rc : Nat} (hp : p < 2) (hlim : S.1.length < 90000) (hT : TI b n s M i o) (hC : CB n0 sN ro mx vN M S.1 lc rc sg S.2.1) (hL : S.2.2.length = Y.length) (hb : LsB S) (hE : EndK b n s n0 sN ro mx vN sg M i o Y S lc rc Q (rc0 b n sN p i Y)) : E (h + 5) mdX4_toldSignal [.ref 14] M (fun r M10 => mE M M10 → ∃ r11 : Int32, r = some (.int r11) ∧ ∃ b12 : Nat, mR M10 14 0 = some b12 ∧ ok M10 b12 9 ∧ E (h + 5) mdX7_advance [.ref b12] M10 (fun r M14 => mE M10 M14 → r = none ∧ (¬ r11 = (-1) → (Int32.ofNat p = 0 → ∃ b15 : Nat, mR M14 14 7 = some b15 ∧ ok M14 b15 3 ∧ ∃ b17 : Nat, mR M14 b15 7 = some b17 ∧ ok M14 b17 2 ∧ ∃ b19 : Nat, mR M14 b17 13 = some b19 ∧ ok M14 b19 21 ∧ vp_in r11 (mL M14 b19) ∧ DX4_readNot_179 (h + 5) (mAI M14 b19 (r11 : Int32).toNatClampNeg) M14 Q) ∧
  (¬ (Int32.ofNat p = 0) → ∃ b21 : Nat, mR M14 14 7 = some b21 ∧ ok M14 b21 3 ∧ ∃ b23 : Nat, mR M14 b21 7 = some b23 ∧ ok M14 b23 2 ∧ E (h + 5) mdX0_beforeOf [.ref b23, .int r11] M14 (fun r M25 => mE M14 M25 → ∃ r26 : Int32, r = some (.int r26) ∧ DX4_readNot_179 (h + 5) r26 M25 Q))) ∧
  (r11 = (-1) → Q (some (.int 0)) M14))) := by
  unfold DX4_readNot_179
  unfold rc0 at hE
  have hi := hT.2.1
  have n1 := hC.n1
  have lm := hC.lim
  refine A_told (h := h + 3) hT hC.1 hC.2.2.2.2.2.2.2.2.2.1 hB (fun hk k e hkl _ => ⟨_, rfl, 15, rf14_0 hT.1, ok15 hT.1, ?_⟩) (fun hk e M1 T1 F1 _ => ⟨_, rfl, 15, rf14_0 T1.1, ok15 T1.1, F_adv T1 (fun _ => ⟨rfl, fun z => absurd rfl z, fun _ => ?_⟩)⟩) (fun hk M1 T1 F1 _ => ⟨_, rfl, 15, rf14_0 T1.1, ok15 T1.1, F_adv T1 (fun _ => ⟨rfl, fun z => absurd rfl z, fun _ => ?_⟩)⟩)
  · have hs := hS.lt hi.2.2 hT.2.2.2.2.2.2.2.2.2 (by rw [hk]; decide)
    rw [if_pos hk, e] at hE
    have hE : EndK b n s n0 sN ro mx vN sg M i o Y S lc rc Q ((adv' b n i).bind fun j' => .ok (j', Y ++ [(p, k, 0)])) := hE
    have hk16 : k < 16 := by have := hC.1.2.1.1; omega
    have ne : ¬ Int32.ofNat k = -1 := oi_ne (by omega)
    refine A_adv hT hs (fun k1 M2 T2 F2 _ => ⟨rfl, fun _ => ⟨fun q => ?_, fun q => ?_⟩, fun z => absurd z ne⟩) (fun k1 M2 T2 F2 _ => ⟨rfl, fun _ => ⟨fun q => ?_, fun q => ?_⟩, fun z => absurd z ne⟩)
    · have p0 : p = 0 := inj32 (b := 0) (by omega) (by decide) q
      rw [adv_ok' k1] at hE
      have C2 := hC.t F2
      obtain ⟨g1, g2, g3, g4, g5, g6, ⟨s1, s2, s3⟩, g7, gb, g8, g9, g10⟩ := id C2
      refine ⟨n0, g8, g1.1, n0 + 8, g5, g2.1, n0 + 20, g6, s1, by rw [s2]; exact vp_of hk16 (by decide), ?_⟩
      rw [lt32 (by omega), (s3 k hk16).1]
      have ed : (Y ++ [((p, k, 0) : Cd)]).drop Y.length = [(p, k, 0)] := List.drop_left
      have el : (Y ++ [((p, k, 0) : Cd)]).length - 1 = Y.length := by rw [List.length_append]; rfl
      have ec : cyL sg S [((p, k, 0) : Cd)] = (S.1, S.2.1, S.2.2 ++ [sg k]) := by show ndL sg S (p, k, 0) = _; unfold ndL; rw [if_pos p0]
      have hE := hE M2 lc rc
      dsimp only at hE
      rw [ed, ec, el] at hE
      have := hE T2 C2 (hb.snoc (Nat.le_refl _) (s3 k hk16).2) (CdF.t F2 g9)
      rw [getD_last hL.symm] at this
      exact this
    · have p1 : p = 1 := by
        have : p ≠ 0 := fun z => q (by rw [z]; rfl)
        omega
      rw [adv_ok' k1] at hE
      have C2 := hC.t F2
      obtain ⟨g1, g2, g3, g4, g5, g6, ⟨s1, s2, s3⟩, g7, gb, g8, g9, g10⟩ := id C2
      refine ⟨n0, g8, g1.1, n0 + 8, g5, g2.1, S_beforeOf C2 T2 hk16 (by omega) (fun M3 lc3 rc3 T3 C3 F3 _ => ⟨_, rfl, ?_⟩)⟩
      have ed : (Y ++ [((p, k, 0) : Cd)]).drop Y.length = [(p, k, 0)] := List.drop_left
      have el : (Y ++ [((p, k, 0) : Cd)]).length - 1 = Y.length := by rw [List.length_append]; rfl
      have ec : cyL sg S [((p, k, 0) : Cd)] = ((bfL S.1 S.2.1 k).1, (bfL S.1 S.2.1 k).2.1, S.2.2 ++ [(bfL S.1 S.2.1 k).2.2]) := by show ndL sg S (p, k, 0) = _; unfold ndL; rw [if_neg (by show ¬ p = 0; omega), if_pos p1]
      have hE := hE M3 lc3 rc3
      dsimp only at hE
      rw [ed, ec, el] at hE
      have hv : (bfL S.1 S.2.1 k).2.2 < 2 * (bfL S.1 S.2.1 k).1.length := by
        unfold bfL
        split
        · show _ < 2 * (S.1 ++ [_]).length; rw [List.length_append]; show 2 * S.1.length < 2 * (S.1.length + 1); omega
        · exact (gb.2.2 k hk16).2
      have := hE T3 C3 (hb.snoc F3.2.2.2.2.2.2.2.2.2 hv) ((CdF.t F2 g9).tr F3)
      rw [getD_last hL.symm] at this
      exact this
    · have p0 : p = 0 := inj32 (b := 0) (by omega) (by decide) q
      rw [adv_er' k1] at hE
      have C2 := hC.t F2
      obtain ⟨g1, g2, g3, g4, g5, g6, ⟨s1, s2, s3⟩, g7, gb, g8, g9, g10⟩ := id C2
      refine ⟨n0, g8, g1.1, n0 + 8, g5, g2.1, n0 + 20, g6, s1, by rw [s2]; exact vp_of hk16 (by decide), ?_⟩
      rw [lt32 (by omega), (s3 k hk16).1]
      exact hE M2 lc rc _ _ _ T2 C2 (CdF.t F2 g9) (by omega) (s3 k hk16).2
    · have p1 : p = 1 := by
        have : p ≠ 0 := fun z => q (by rw [z]; rfl)
        omega
      rw [adv_er' k1] at hE
      have C2 := hC.t F2
      obtain ⟨g1, g2, g3, g4, g5, g6, ⟨s1, s2, s3⟩, g7, ⟨b1, b2, b3⟩, g8, g9, g10⟩ := id C2
      refine ⟨n0, g8, g1.1, n0 + 8, g5, g2.1, ?_⟩
      refine KX0_beforeOf ?_
      unfold DX0_beforeOf_0 DX0_beforeOf_19
      have z := z32 (a := S.2.1 k) (k := 0) (by have := (b3 k hk16).2; omega) (by decide)
      have vp : ∀ {M : Mem}, mL M (n0 + 16) = 16 → vp_in (Int32.ofNat k) (mL M (n0 + 16)) := fun e => by rw [e]; exact vp_of hk16 (by decide)
      rw [lt32 (by omega)]
      refine ⟨g2.1, n0 + 16, g7, b1, vp b2, fun q => ⟨g2.1, n0 + 16, g7, b1, vp b2, fun _ => ⟨_, rfl, ?_⟩⟩, fun q => ⟨n0 + 16, g7, S_fresh g2 (by omega) (fun M3 lc3 rc3 P3 F3 _ => ⟨_, rfl, ?_⟩)⟩⟩
      · rw [(b3 k hk16).1]
        exact hE M2 lc rc _ _ _ T2 C2 (CdF.t F2 g9) (by omega) (b3 k hk16).2
      · have hl : S.1.length ≤ (frL S.1).1.length := by show _ ≤ (S.1 ++ [_]).length; rw [List.length_append]; exact Nat.le_add_right _ _
        have C3 := C2.c P3 F3 hl
        have T3 := T2.c C2 F3
        obtain ⟨-, f2, -, -, -, -, -, f7, ⟨d1, d2, d3⟩, -⟩ := id C3
        refine ⟨d1, vp d2, fun M4 e4 => ?_⟩
        have hlen : (frL S.1).1.length = S.1.length + 1 := by show (S.1 ++ [_]).length = _; rw [List.length_append]; rfl
        obtain ⟨C4, D4⟩ := C3.w16 (v := 2 * S.1.length) hk16 (by omega) e4
        have T4 : TF M4 1 (tP b n (i + 1)) := T3.fr (by rw [e4]; exact T3.1.ai) (by rw [e4]; rfl)
        obtain ⟨-, q2, -, -, -, -, -, q7, ⟨c1, c2, c3⟩, -⟩ := id C4
        refine ⟨q2.1, n0 + 16, q7, c1, vp c2, fun _ => ⟨_, rfl, ?_⟩⟩
        rw [(c3 k hk16).1]
        exact hE M4 lc3 rc3 _ _ _ T4 C4 (((CdF.t F2 g9).tr (CdF.c F3 g9 ⟨by omega, by omega⟩ (by omega) hl)).tr D4) (by omega) (c3 k hk16).2
  · rw [if_pos hk, e] at hE
    exact hE M1 lc rc _ _ 0 T1 (hC.t F1) (CdF.t F1 lm.2.2.1) (by omega) (by omega)
  · rw [if_neg hk] at hE
    exact hE M1 lc rc _ _ 0 T1 (hC.t F1) (CdF.t F1 lm.2.2.1) (by omega) (by omega)
end
end
section
/-! the class reads conditions: all of it -/
section
variable {b : Nat → Int32} {n s n0 : Nat} {sN : List Int64} {ro mx : List Int32} {vN : List Int64} {sg : Nat → Nat}
theorem drop_snoc {α : Type} {Y X : List α} {d : α} {Z : List α} (h : X = Y ++ Z) : (X ++ [d]).drop Y.length = X.drop Y.length ++ [d] := by
  rw [h, List.append_assoc, List.drop_left, List.drop_left]
theorem drop_len {α : Type} {Y X : List α} {Z : List α} (h : X = Y ++ Z) : (X.drop Y.length).length = X.length - Y.length ∧ Y.length ≤ X.length ∧ Z.length = X.length - Y.length := by
  rw [h, List.drop_left, List.length_append]
  exact ⟨by omega, by omega, by omega⟩
set_option maxHeartbeats 2000000 in
theorem C_rc (hB : By b) (hS : Sto b n s) : ∀ (g : Nat),
    (∀ (M : Mem) (i o : Nat) (Y : List Cd) (S : LsT) (lc rr H : Nat) (Q : Option Value → Mem → Prop), 6 * (s + 1 - i) ≤ g → 7 + 3 * (16 - o) ≤ H → o ≤ 15 → S.1.length + (s + 1 - i) ≤ 50000 → TI b n s M i o → CB n0 sN ro mx vN M S.1 lc rr sg S.2.1 → S.2.2.length = Y.length → LsB S → EndK b n s n0 sN ro mx vN sg M i o Y S lc rr Q (rc b n sN g 0 i o Y) → E H mdX4_readNot [.ref 14] M Q) ∧
    (∀ (M : Mem) (i o : Nat) (Y : List Cd) (S : LsT) (lc rr H : Nat) (Q : Option Value → Mem → Prop), 6 * (s + 1 - i) + 1 ≤ g → 8 + 3 * (16 - o) ≤ H → o ≤ 15 → S.1.length + (s + 1 - i) ≤ 50000 → TI b n s M i o → CB n0 sN ro mx vN M S.1 lc rr sg S.2.1 → S.2.2.length = Y.length → LsB S → EndK b n s n0 sN ro mx vN sg M i o Y S lc rr Q (rc b n sN g 1 i o Y) → E H mdX4_readAnd [.ref 14] M Q) ∧
    (∀ (M : Mem) (i o c : Nat) (Y : List Cd) (S : LsT) (lc rr H : Nat) (Q : Option Value → Mem → Prop), 6 * (s + 1 - i) + 2 ≤ g → 8 + 3 * (16 - o) ≤ H → o ≤ 15 → c ≤ i → S.1.length + (s + 1 - i) ≤ 50000 → TI b n s M i o → CB n0 sN ro mx vN M S.1 lc rr sg S.2.1 → S.2.2.length = Y.length → 0 < Y.length → LsB S → EndK b n s n0 sN ro mx vN sg M i o Y S lc rr Q (rc b n sN g 2 i o Y) → T H mdX4_readAnd 7 [(0, .ref 14), (1, .int (Int32.ofNat (S.2.2.getD (Y.length - 1) 0))), (2, .int (Int32.ofNat c))] [] M Q) ∧
    (∀ (M : Mem) (i o : Nat) (Y : List Cd) (S : LsT) (lc rr H : Nat) (Q : Option Value → Mem → Prop), 6 * (s + 1 - i) + 3 ≤ g → 9 + 3 * (16 - o) ≤ H → o ≤ 15 → S.1.length + (s + 1 - i) ≤ 50000 → TI b n s M i o → CB n0 sN ro mx vN M S.1 lc rr sg S.2.1 → S.2.2.length = Y.length → LsB S → EndK b n s n0 sN ro mx vN sg M i o Y S lc rr Q (rc b n sN g 3 i o Y) → E H mdX4_readCondition [.ref 14] M Q) ∧
    (∀ (M : Mem) (i o c : Nat) (Y : List Cd) (S : LsT) (lc rr H : Nat) (Q : Option Value → Mem → Prop), 6 * (s + 1 - i) + 4 ≤ g → 9 + 3 * (16 - o) ≤ H → o ≤ 15 → c ≤ i → S.1.length + (s + 1 - i) ≤ 50000 → TI b n s M i o → CB n0 sN ro mx vN M S.1 lc rr sg S.2.1 → S.2.2.length = Y.length → 0 < Y.length → LsB S → EndK b n s n0 sN ro mx vN sg M i o Y S lc rr Q (rc b n sN g 4 i o Y) → T H mdX4_readCondition 7 [(0, .ref 14), (1, .int (Int32.ofNat (S.2.2.getD (Y.length - 1) 0))), (2, .int (Int32.ofNat c))] [] M Q) := by
  intro g
  induction g with
  | zero =>
    refine ⟨?_, ?_, ?_, ?_, ?_⟩
    · intro M i o Y S lc rr H Q hg _ _ _ hT _ _ _ _; have := hT.2.1; omega
    · intro M i o Y S lc rr H Q hg _ _ _ hT _ _ _ _; have := hT.2.1; omega
    · intro M i o c Y S lc rr H Q hg _ _ _ _ hT _ _ _ _ _; have := hT.2.1; omega
    · intro M i o Y S lc rr H Q hg _ _ _ hT _ _ _ _; have := hT.2.1; omega
    · intro M i o c Y S lc rr H Q hg _ _ _ _ hT _ _ _ _ _; have := hT.2.1; omega
  | succ g ih =>
    obtain ⟨ih0, ih1, ih2, ih3, ih4⟩ := ih
    refine ⟨?_, ?_, ?_, ?_, ?_⟩
    · intro M i o Y S lc rr H Q hg hh ho hl hT hC hL hb hE
      obtain ⟨H', rfl⟩ : ∃ H', H = H' + 5 + 1 := ⟨H - 6, by omega⟩
      have F := hT.1
      have hi := hT.2.1
      have h0 := hT.2.2.2.2.2.2.2.2.2
      have n1 := hC.n1
      have lm := hC.lim
      unfold rc at hE
      rw [if_pos rfl] at hE
      -- the ends behind 'not' and behind a bracket
      have bad44 : ∀ (M1 : Mem) (e : Int32 × Nat) (lc1 rc1 : Nat) (N1 : Nt) (bf1 : Nat → Nat) (v : Nat), TF M1 e.1 e.2 → CB n0 sN ro mx vN M1 N1 lc1 rc1 sg bf1 → CdF n0 M M1 lc rr lc1 rc1 S.1 N1 → N1.length ≤ S.1.length + (s + 1 - i) → v < 2 * N1.length → EndK b n s n0 sN ro mx vN sg M i o Y S lc rr Q (.error e) → DX4_readNot_44 (H' + 5) 14 (Int32.ofNat v) M1 Q := by
        intro M1 e lc1 rc1 N1 bf1 v T1 C1 F1 hl1 hv K
        unfold DX4_readNot_44
        refine ⟨ok14 T1.1, 15, rf14_0 T1.1, ok15 T1.1, F_closes T1 (fun M2 T2 F2 _ => ⟨rfl, S_not (by omega) (fun _ => ⟨_, rfl, ?_⟩)⟩)⟩
        exact K M2 lc1 rc1 N1 bf1 _ T2 (C1.t F2) (F1.tr (CdF.t F2 lm.2.2.1)) hl1 (nlt_lt hv)
      have bad101 : ∀ (M1 : Mem) (e : Int32 × Nat) (lc1 rc1 : Nat) (N1 : Nt) (bf1 : Nat → Nat) (v : Nat), TF M1 e.1 e.2 → CB n0 sN ro mx vN M1 N1 lc1 rc1 sg bf1 → CdF n0 M M1 lc rr lc1 rc1 S.1 N1 → N1.length ≤ S.1.length + (s + 1 - i) → v < 2 * N1.length → EndK b n s n0 sN ro mx vN sg M i o Y S lc rr Q (.error e) → DX4_readNot_101 (H' + 5) 14 (Int32.ofNat v) M1 Q := by
        intro M1 e lc1 rc1 N1 bf1 v T1 C1 F1 hl1 hv K
        unfold DX4_readNot_101
        refine ⟨ok14 T1.1, 15, rf14_0 T1.1, ok15 T1.1, F_expect T1 (by decide) (fun _ => ⟨rfl, 15, rf14_0 T1.1, ok15 T1.1, F_closes T1 (fun M2 T2 F2 _ => ⟨rfl, ?_⟩)⟩)⟩
        exact K M2 lc1 rc1 N1 bf1 v T2 (C1.t F2) (F1.tr (CdF.t F2 lm.2.2.1)) hl1 hv
      refine KX4_readNot ?_
      unfold DX4_readNot_0
      refine ⟨ok14 F, 15, rf14_0 F, ok15 F, fun n61 => ⟨15, rf14_0 F, ok15 F, fun n15 => ⟨15, rf14_0 F, ok15 F, ?_⟩, fun k15 => ⟨15, rf14_0 F, ok15 F, ?_⟩⟩, fun k61 => ⟨15, rf14_0 F, ok15 F, ?_⟩⟩
      · rw [hT.kind] at n61 n15
        rw [if_neg n61, if_neg n15] at hE
        refine A_accept (h := H' + 3) hT hS (by decide) (fun k62 k1 M1 T1 F1 _ => ⟨_, rfl, ?_⟩) (fun k62 k1 M1 T1 F1 _ => ⟨_, rfl, ?_⟩) (fun n62 _ => ⟨_, rfl, ?_⟩)
        · rw [if_pos k62, adv_ok' k1] at hE
          have hE : EndK b n s n0 sN ro mx vN sg M i o Y S lc rr Q (rc0 b n sN 1 (i + 1) Y) := hE
          refine C_operand (h := H') (p := 1) (Y := Y) (S := S) hB hS (by decide) (by omega) T1 (hC.t F1) hL hb ?_
          generalize rc0 b n sN 1 (i + 1) Y = R at hE
          cases R with
          | error e => exact fun M' lc' rc' N' bf' v a1 a2 a3 a4 a5 => hE M' lc' rc' N' bf' v a1 a2 ((CdF.t F1 lm.2.2.1).tr a3) (by omega) a5
          | ok r => exact fun M' lc' rc' a1 a2 a3 a4 => hE M' lc' rc' a1 a2 a3 ((CdF.t F1 lm.2.2.1).tr a4)
        · rw [if_pos k62, adv_er' k1] at hE
          exact X_told (h := H' + 3) T1 (fun _ => ⟨_, rfl, 15, rf14_0 T1.1, ok15 T1.1, F_adv T1 (fun _ => ⟨rfl, fun z => absurd rfl z, fun _ => hE M1 lc rr _ _ 0 T1 (hC.t F1) (CdF.t F1 lm.2.2.1) (by omega) (by omega)⟩)⟩)
        · rw [if_neg n62] at hE
          exact C_operand (h := H') (p := 0) (Y := Y) (S := S) hB hS (by decide) (by omega) hT hC hL hb hE
      · rw [hT.kind] at k15 n61
        rw [if_neg n61, if_pos k15] at hE
        have hs := hS.lt hi.2.2 h0 (by rw [k15]; decide)
        refine A_opens (h := H' + 3) hT ho (fun h15 M1 T1 F1 _ => ⟨rfl, 15, rf14_0 T1.1, ok15 T1.1, ?_⟩) (fun h15 M1 T1 F1 _ => ⟨rfl, 15, rf14_0 T1.1, ok15 T1.1, F_adv T1 (fun _ => ⟨rfl, 15, rf14_0 T1.1, ok15 T1.1, fun _ => ?_, fun hc => absurd (T1.2.2.1 ▸ hc) (by decide)⟩)⟩)
        · rw [if_neg (by omega : ¬ o = 15)] at hE
          refine A_adv T1 hs (fun k1 M2 T2 F2 _ => ⟨rfl, 15, rf14_0 T2.1, ok15 T2.1, fun hc => absurd T2.2.2.2.2.2.2.2.2.1 hc, fun _ => ?_⟩) (fun k1 M2 T2 F2 _ => ⟨rfl, 15, rf14_0 T2.1, ok15 T2.1, fun _ => ?_, fun hc => absurd (T2.2.2.1 ▸ hc) (by decide)⟩)
          · rw [adv_ok' k1] at hE
            have hE : EndK b n s n0 sN ro mx vN sg M i o Y S lc rr Q ((rc b n sN g 3 (i + 1) (o + 1) Y).bind fun r => if tK b n r.1 = 16 then (adv' b n r.1).bind fun j' => .ok (j', r.2) else .error (2, tP b n r.1)) := hE
            have C2 := (hC.t F1).t F2
            have G2 : CdF n0 M M2 lc rr lc rr S.1 S.1 := CdF.t (F1.tr F2) lm.2.2.1
            refine ih3 M2 (i + 1) (o + 1) Y S lc rr (H' + 5) _ (by omega) (by omega) (by omega) (by omega) T2 C2 hL hb ?_
            have hok := rc_ok (sN := sN) hS g 3 (i + 1) (o + 1) Y (by decide) (by omega) k1
            generalize rc b n sN g 3 (i + 1) (o + 1) Y = R at hE hok
            cases R with
            | error e => exact fun M3 lc3 rc3 N3 bf3 v T3 C3 F3 hl3 hv _ => ⟨_, rfl, bad101 M3 e lc3 rc3 N3 bf3 v T3 C3 (G2.tr F3) (by omega) hv hE⟩
            | ok r =>
              obtain ⟨a1, a2, a3, ⟨Z, a4, a5⟩, -⟩ := hok
              intro M3 lc3 rc3 T3 C3 L3 F3
              have hE : EndK b n s n0 sN ro mx vN sg M i o Y S lc rr Q (if tK b n r.1 = 16 then (adv' b n r.1).bind fun j' => .ok (j', r.2) else .error (2, tP b n r.1)) := hE
              have hcl := cyL_len (sg := sg) (r.2.drop Y.length) S
              have hdl := drop_len a4
              have hv3 : (cyL sg S (r.2.drop Y.length)).2.2.getD (r.2.length - 1) 0 < 2 * (cyL sg S (r.2.drop Y.length)).1.length := getD_lt L3 (by omega)
              have n3 := C3.n1
              refine fun _ => ⟨_, rfl, ?_⟩
              unfold DX4_readNot_101
              refine ⟨ok14 T3.1, 15, rf14_0 T3.1, ok15 T3.1, A_expect T3 (by decide) (fun q1 q2 M4 T4 F4 _ => ⟨rfl, 15, rf14_0 T4.1, ok15 T4.1, A_closes T4 (by omega) (fun M5 T5 F5 _ => ⟨rfl, ?_⟩)⟩) (fun q1 q2 M4 T4 F4 _ => ⟨rfl, 15, rf14_0 T4.1, ok15 T4.1, F_closes T4 (fun M5 T5 F5 _ => ⟨rfl, ?_⟩)⟩) (fun q1 M4 T4 F4 _ => ⟨rfl, 15, rf14_0 T4.1, ok15 T4.1, F_closes T4 (fun M5 T5 F5 _ => ⟨rfl, ?_⟩)⟩) hS.2.2.1⟩
              · rw [if_pos q1, adv_ok' q2] at hE
                exact hE M5 lc3 rc3 T5 ((C3.t F4).t F5) L3 ((G2.tr F3).tr (CdF.t (F4.tr F5) lm.2.2.1))
              · rw [if_pos q1, adv_er' q2] at hE
                exact hE M5 lc3 rc3 _ _ _ T5 ((C3.t F4).t F5) ((G2.tr F3).tr (CdF.t (F4.tr F5) lm.2.2.1)) (by omega) hv3
              · rw [if_neg q1] at hE
                exact hE M5 lc3 rc3 _ _ _ T5 ((C3.t F4).t F5) ((G2.tr F3).tr (CdF.t (F4.tr F5) lm.2.2.1)) (by omega) hv3
          · rw [adv_er' k1] at hE
            exact bad101 M2 (1, tP b n (i + 1)) lc rr S.1 S.2.1 0 T2 ((hC.t F1).t F2) (CdF.t (F1.tr F2) lm.2.2.1) (by omega) (by omega) hE
        · rw [if_pos h15] at hE
          exact bad101 M1 (6, tP b n i) lc rr S.1 S.2.1 0 T1 (hC.t F1) (CdF.t F1 lm.2.2.1) (by omega) (by omega) hE
      · rw [hT.kind] at k61
        rw [if_pos k61] at hE
        have hs := hS.lt hi.2.2 h0 (by rw [k61]; decide)
        refine A_opens (h := H' + 3) hT ho (fun h15 M1 T1 F1 _ => ⟨rfl, 15, rf14_0 T1.1, ok15 T1.1, ?_⟩) (fun h15 M1 T1 F1 _ => ⟨rfl, 15, rf14_0 T1.1, ok15 T1.1, F_adv T1 (fun _ => ⟨rfl, 15, rf14_0 T1.1, ok15 T1.1, fun _ => ?_, fun hc => absurd (T1.2.2.1 ▸ hc) (by decide)⟩)⟩)
        · rw [if_neg (by omega : ¬ o = 15)] at hE
          refine A_adv T1 hs (fun k1 M2 T2 F2 _ => ⟨rfl, 15, rf14_0 T2.1, ok15 T2.1, fun hc => absurd T2.2.2.2.2.2.2.2.2.1 hc, fun _ => ?_⟩) (fun k1 M2 T2 F2 _ => ⟨rfl, 15, rf14_0 T2.1, ok15 T2.1, fun _ => ?_, fun hc => absurd (T2.2.2.1 ▸ hc) (by decide)⟩)
          · rw [adv_ok' k1] at hE
            have hE : EndK b n s n0 sN ro mx vN sg M i o Y S lc rr Q ((rc b n sN g 0 (i + 1) (o + 1) Y).bind fun r => .ok (r.1, r.2 ++ [(2, r.2.length - 1, 0)])) := hE
            have C2 := (hC.t F1).t F2
            have G2 : CdF n0 M M2 lc rr lc rr S.1 S.1 := CdF.t (F1.tr F2) lm.2.2.1
            refine ih0 M2 (i + 1) (o + 1) Y S lc rr (H' + 5) _ (by omega) (by omega) (by omega) (by omega) T2 C2 hL hb ?_
            have hok := rc_ok (sN := sN) hS g 0 (i + 1) (o + 1) Y (by decide) (by omega) k1
            generalize rc b n sN g 0 (i + 1) (o + 1) Y = R at hE hok
            cases R with
            | error e => exact fun M3 lc3 rc3 N3 bf3 v T3 C3 F3 hl3 hv _ => ⟨_, rfl, bad44 M3 e lc3 rc3 N3 bf3 v T3 C3 (G2.tr F3) (by omega) hv hE⟩
            | ok r =>
              obtain ⟨a1, a2, a3, ⟨Z, a4, a5⟩, -⟩ := hok
              intro M3 lc3 rc3 T3 C3 L3 F3
              have hcl := cyL_len (sg := sg) (r.2.drop Y.length) S
              have hdl := drop_len a4
              have hv3 : (cyL sg S (r.2.drop Y.length)).2.2.getD (r.2.length - 1) 0 < 2 * (cyL sg S (r.2.drop Y.length)).1.length := getD_lt L3 (by have := C3.n1; omega)
              have ec : cyL sg S ((r.2 ++ [((2, r.2.length - 1, 0) : Cd)]).drop Y.length) = ((cyL sg S (r.2.drop Y.length)).1, (cyL sg S (r.2.drop Y.length)).2.1, (cyL sg S (r.2.drop Y.length)).2.2 ++ [nlt ((cyL sg S (r.2.drop Y.length)).2.2.getD (r.2.length - 1) 0)]) := by
                rw [drop_snoc a4, cyL_app]
                rfl
              have el : (r.2 ++ [((2, r.2.length - 1, 0) : Cd)]).length - 1 = r.2.length := by rw [List.length_append]; rfl
              refine fun _ => ⟨_, rfl, ?_⟩
              unfold DX4_readNot_44
              refine ⟨ok14 T3.1, 15, rf14_0 T3.1, ok15 T3.1, A_closes T3 (by omega) (fun M4 T4 F4 _ => ⟨rfl, S_not (by omega) (fun _ => ⟨_, rfl, ?_⟩)⟩)⟩
              have hE := hE M4 lc3 rc3
              dsimp only at hE
              rw [ec, el] at hE
              have := hE T4 (C3.t F4) (L3.snoc (Nat.le_refl _) (nlt_lt hv3)) ((G2.tr F3).tr (CdF.t F4 lm.2.2.1))
              rw [getD_last (by omega)] at this
              exact this
          · rw [adv_er' k1] at hE
            exact bad44 M2 (1, tP b n (i + 1)) lc rr S.1 S.2.1 0 T2 ((hC.t F1).t F2) (CdF.t (F1.tr F2) lm.2.2.1) (by omega) (by omega) hE
        · rw [if_pos h15] at hE
          exact bad44 M1 (6, tP b n i) lc rr S.1 S.2.1 0 T1 (hC.t F1) (CdF.t F1 lm.2.2.1) (by omega) (by omega) hE
    · intro M i o Y S lc rr H Q hg hh ho hl hT hC hL hb hE
      obtain ⟨H', rfl⟩ : ∃ H', H = H' + 3 + 1 := ⟨H - 4, by omega⟩
      have hi := hT.2.1
      have h0 := hT.2.2.2.2.2.2.2.2.2
      unfold rc at hE
      rw [if_neg (by decide), if_pos rfl] at hE
      refine KX4_readAnd ?_
      unfold DX4_readAnd_0
      refine ⟨ok14 hT.1, ih0 M i o Y S lc rr (H' + 3) _ (by omega) (by omega) ho (by omega) hT hC hL hb ?_⟩
      have hok := rc_ok (sN := sN) hS g 0 i o Y (by decide) hi.2.2 h0
      generalize rc b n sN g 0 i o Y = R at hE hok
      cases R with
      | error e => exact fun M3 lc3 rc3 N3 bf3 v T3 C3 F3 hl3 hv _ => ⟨_, rfl, X_andL (h := H' + 1) T3 (hE M3 lc3 rc3 N3 bf3 v T3 C3 F3 hl3 hv)⟩
      | ok r =>
        obtain ⟨a1, a2, a3, ⟨Z, a4, a5⟩, a6⟩ := hok
        have a6 := a6 (by decide)
        intro M3 lc3 rc3 T3 C3 L3 F3
        have hcl := cyL_len (sg := sg) (r.2.drop Y.length) S
        have hdl := drop_len a4
        refine fun _ => ⟨_, rfl, ih2 M3 r.1 o 0 r.2 (cyL sg S (r.2.drop Y.length)) lc3 rc3 (H' + 3 + 1) Q (by omega) (by omega) ho (Nat.zero_le _) (by omega) T3 C3 (by omega) (by omega) L3 ?_⟩
        have hE : EndK b n s n0 sN ro mx vN sg M i o Y S lc rr Q (rc b n sN g 2 r.1 o r.2) := hE
        have hok2 := rc_ok (sN := sN) hS g 2 r.1 o r.2 (by decide) a2 a3
        generalize rc b n sN g 2 r.1 o r.2 = R2 at hE hok2
        cases R2 with
        | error e => exact fun M4 lc4 rc4 N4 bf4 v T4 C4 F4 hl4 hv => hE M4 lc4 rc4 N4 bf4 v T4 C4 (F3.tr F4) (by omega) hv
        | ok r2 =>
          obtain ⟨b1, b2, b3, ⟨V, b4, b5⟩, -⟩ := hok2
          intro M4 lc4 rc4 T4 C4 L4 F4
          have ec : cyL sg (cyL sg S (r.2.drop Y.length)) (r2.2.drop r.2.length) = cyL sg S (r2.2.drop Y.length) := by
            rw [← cyL_app]
            congr 1
            rw [b4, List.drop_left, a4, List.append_assoc, List.drop_left, List.drop_left]
          rw [ec] at C4 L4 F4 ⊢
          exact hE M4 lc4 rc4 T4 C4 L4 (F3.tr F4)
    · intro M i o c Y S lc rr H Q hg hh ho hc hl hT hC hL hY hb hE
      obtain ⟨H', rfl⟩ : ∃ H', H = H' + 4 + 1 := ⟨H - 5, by omega⟩
      have F := hT.1
      have hi := hT.2.1
      have h0 := hT.2.2.2.2.2.2.2.2.2
      have lm := hC.lim
      have n1 := hC.n1
      have hn := hS.2.1
      have hx : S.2.2.getD (Y.length - 1) 0 < 2 * S.1.length := getD_lt hb (by omega)
      unfold rc at hE
      rw [if_neg (by decide), if_neg (by decide), if_pos rfl] at hE
      refine VX4_readAnd_7 ?_
      unfold DX4_readAnd_7 DX4_readAnd_48
      refine ⟨fun z => ?_, fun _ => ⟨ok14 F, 15, rf14_0 F, ok15 F, A_accept (h := H' + 2) hT hS (by decide) (fun hk k1 M1 T1 F1 _ => ⟨_, rfl, fun z => absurd z (by decide), fun _ => ?_⟩) (fun hk k1 M1 T1 F1 _ => ⟨_, rfl, fun z => absurd z (by decide), fun _ => ?_⟩) (fun hk _ => ⟨_, rfl, fun _ => ?_, fun z => absurd rfl z⟩)⟩⟩
      · have c800 := (le32 (a := 800) (b := c) (by decide) (by omega)).mp z
        have : i = s := by omega
        have hk : tK b n i ≠ 59 := by
          subst this
          rcases hS.2.2.1 with q | q <;> (rw [q]; decide)
        rw [if_neg hk] at hE
        have hE := hE M lc rr
        dsimp only at hE
        rw [List.drop_length] at hE
        exact hE hT hC hb CdF.rf
      · rw [if_pos hk, adv_ok' k1] at hE
        have hs := hS.lt hi.2.2 h0 (by rw [hk]; decide)
        have hE : EndK b n s n0 sN ro mx vN sg M i o Y S lc rr Q ((rc b n sN g 0 (i + 1) o Y).bind fun r => rc b n sN g 2 r.1 o (r.2 ++ [(3, Y.length - 1, r.2.length - 1)])) := hE
        have C1 := hC.t F1
        obtain ⟨g1, g2, g3, g4, g5, -, -, -, -, g8, -⟩ := id C1
        refine ⟨n0, g8, g1.1, n0 + 8, g5, ih0 M1 (i + 1) o Y S lc rr (H' + 4) _ (by omega) (by omega) ho (by omega) T1 C1 hL hb ?_⟩
        have hok := rc_ok (sN := sN) hS g 0 (i + 1) o Y (by decide) hs k1
        generalize rc b n sN g 0 (i + 1) o Y = R at hE hok
        cases R with
        | error e => exact fun M3 lc3 rc3 N3 bf3 v T3 C3 F3 hl3 hv _ => ⟨_, rfl, C3.2.1.1, X_joinA (h := H') T3 C3 (by have := F3.2.2.2.2.2.2.2.2.2; omega) hv (by omega) (fun M4 lc4 rc4 N4 w T4 C4 F4 hl4 hw => hE M4 lc4 rc4 N4 bf3 w T4 C4 (((CdF.t F1 lm.2.2.1).tr F3).tr F4) (by omega) hw)⟩
        | ok r =>
          obtain ⟨a1, a2, a3, ⟨Z, a4, a5⟩, a6⟩ := hok
          have a6 := a6 (by decide)
          intro M3 lc3 rc3 T3 C3 L3 F3
          have hcl := cyL_len (sg := sg) (r.2.drop Y.length) S
          have hdl := drop_len a4
          have n3 := C3.n1
          have hy : (cyL sg S (r.2.drop Y.length)).2.2.getD (r.2.length - 1) 0 < 2 * (cyL sg S (r.2.drop Y.length)).1.length := getD_lt L3 (by omega)
          have ex : (cyL sg S (r.2.drop Y.length)).2.2.getD (Y.length - 1) 0 = S.2.2.getD (Y.length - 1) 0 := cyL_getD (by omega)
          have hx3 : S.2.2.getD (Y.length - 1) 0 < 2 * (cyL sg S (r.2.drop Y.length)).1.length := by omega
          have ll := anL_len (N := (cyL sg S (r.2.drop Y.length)).1) (a := S.2.2.getD (Y.length - 1) 0) (b := (cyL sg S (r.2.drop Y.length)).2.2.getD (r.2.length - 1) 0)
          have hE : EndK b n s n0 sN ro mx vN sg M i o Y S lc rr Q (rc b n sN g 2 r.1 o (r.2 ++ [(3, Y.length - 1, r.2.length - 1)])) := hE
          have ec : cyL sg S ((r.2 ++ [((3, Y.length - 1, r.2.length - 1) : Cd)]).drop Y.length) = ((anL (cyL sg S (r.2.drop Y.length)).1 (S.2.2.getD (Y.length - 1) 0) ((cyL sg S (r.2.drop Y.length)).2.2.getD (r.2.length - 1) 0)).1, (cyL sg S (r.2.drop Y.length)).2.1, (cyL sg S (r.2.drop Y.length)).2.2 ++ [(anL (cyL sg S (r.2.drop Y.length)).1 (S.2.2.getD (Y.length - 1) 0) ((cyL sg S (r.2.drop Y.length)).2.2.getD (r.2.length - 1) 0)).2]) := by
            rw [drop_snoc a4, cyL_app, ← ex]
            rfl
          generalize hnd : (r.2 ++ [((3, Y.length - 1, r.2.length - 1) : Cd)]) = Y2 at hE ec
          have lY2 : Y2.length = r.2.length + 1 := by rw [← hnd, List.length_append]; rfl
          have pY2 : Y2 = Y ++ (Z ++ [(3, Y.length - 1, r.2.length - 1)]) := by rw [← hnd, a4, List.append_assoc]
          refine fun _ => ⟨_, rfl, C3.2.1.1, S_and (h := H') C3.2.1 (by omega) hx3 hy (fun M4 lc4 rc4 P4 F4 _ => ⟨_, rfl, ?_⟩)⟩
          have T4 := T3.c C3 F4
          have C4 := C3.c P4 F4 ll.1
          have lm3 := C3.lim
          have D4 := CdF.c F4 lm3.2.2.1 ⟨lm3.1, lm3.2.1⟩ lm3.2.2.2 ll.1
          have L4 := L3.snoc (N := (anL (cyL sg S (r.2.drop Y.length)).1 (S.2.2.getD (Y.length - 1) 0) ((cyL sg S (r.2.drop Y.length)).2.2.getD (r.2.length - 1) 0)).1) (bf := (cyL sg S (r.2.drop Y.length)).2.1) ll.1 (anL_lt n3 hx3 hy)
          rw [← ec] at L4
          have q1 : (cyL sg S (Y2.drop Y.length)).1 = (anL (cyL sg S (r.2.drop Y.length)).1 (S.2.2.getD (Y.length - 1) 0) ((cyL sg S (r.2.drop Y.length)).2.2.getD (r.2.length - 1) 0)).1 := by rw [ec]
          have q2 : (cyL sg S (Y2.drop Y.length)).2.1 = (cyL sg S (r.2.drop Y.length)).2.1 := by rw [ec]
          have q3 : (cyL sg S (Y2.drop Y.length)).2.2.getD (Y2.length - 1) 0 = (anL (cyL sg S (r.2.drop Y.length)).1 (S.2.2.getD (Y.length - 1) 0) ((cyL sg S (r.2.drop Y.length)).2.2.getD (r.2.length - 1) 0)).2 := by rw [ec]; exact getD_last (by omega)
          rw [← q1] at C4 D4 ll
          rw [← q2] at C4
          rw [← q3, succ32]
          have hcl2 := cyL_len (sg := sg) (Y2.drop Y.length) S
          have hdl2 := drop_len pY2
          refine ih2 M4 r.1 o (c + 1) Y2 (cyL sg S (Y2.drop Y.length)) lc4 rc4 (H' + 4 + 1) Q (by omega) (by omega) ho (by omega) (by omega) T4 C4 (by omega) (by omega) L4 ?_
          have hok2 := rc_ok (sN := sN) hS g 2 r.1 o Y2 (by decide) a2 a3
          generalize rc b n sN g 2 r.1 o Y2 = R2 at hE hok2
          have G4 := ((CdF.t (lc := lc) (rc := rr) (N := S.1) F1 lm.2.2.1).tr F3).tr D4
          cases R2 with
          | error e => exact fun M5 lc5 rc5 N5 bf5 v T5 C5 F5 hl5 hv => hE M5 lc5 rc5 N5 bf5 v T5 C5 (G4.tr F5) (by omega) hv
          | ok r2 =>
            obtain ⟨b1, b2, b3, ⟨V, b4, b5⟩, -⟩ := hok2
            intro M5 lc5 rc5 T5 C5 L5 F5
            have ec2 : cyL sg (cyL sg S (Y2.drop Y.length)) (r2.2.drop Y2.length) = cyL sg S (r2.2.drop Y.length) := by
              rw [← cyL_app]
              congr 1
              rw [b4, List.drop_left, pY2, List.append_assoc, List.drop_left, List.drop_left]
            rw [ec2] at C5 L5 F5 ⊢
            exact hE M5 lc5 rc5 T5 C5 L5 (G4.tr F5)
      · rw [if_pos hk, adv_er' k1] at hE
        have C1 := hC.t F1
        obtain ⟨g1, g2, g3, g4, g5, -, -, -, -, g8, -⟩ := id C1
        refine ⟨n0, g8, g1.1, n0 + 8, g5, X_not (h := H' + 1) T1 (fun _ => ⟨_, rfl, C1.2.1.1, X_joinA (h := H') (v := 0) T1 C1 hx (by omega) (by omega) (fun M4 lc4 rc4 N4 w T4 C4 F4 hl4 hw => hE M4 lc4 rc4 N4 _ w T4 C4 ((CdF.t F1 lm.2.2.1).tr F4) (by omega) hw)⟩)⟩
      · rw [if_neg hk] at hE
        have hE := hE M lc rr
        dsimp only at hE
        rw [List.drop_length] at hE
        exact hE hT hC hb CdF.rf
    · intro M i o Y S lc rr H Q hg hh ho hl hT hC hL hb hE
      obtain ⟨H', rfl⟩ : ∃ H', H = H' + 4 + 1 := ⟨H - 5, by omega⟩
      have hi := hT.2.1
      have h0 := hT.2.2.2.2.2.2.2.2.2
      unfold rc at hE
      rw [if_neg (by decide), if_neg (by decide), if_neg (by decide), if_pos rfl] at hE
      refine KX4_readCondition ?_
      unfold DX4_readCondition_0
      refine ⟨ok14 hT.1, ih1 M i o Y S lc rr (H' + 4) _ (by omega) (by omega) ho (by omega) hT hC hL hb ?_⟩
      have hok := rc_ok (sN := sN) hS g 1 i o Y (by decide) hi.2.2 h0
      generalize rc b n sN g 1 i o Y = R at hE hok
      cases R with
      | error e => exact fun M3 lc3 rc3 N3 bf3 v T3 C3 F3 hl3 hv _ => ⟨_, rfl, X_condL (h := H' + 2) T3 (hE M3 lc3 rc3 N3 bf3 v T3 C3 F3 hl3 hv)⟩
      | ok r =>
        obtain ⟨a1, a2, a3, ⟨Z, a4, a5⟩, a6⟩ := hok
        have a6 := a6 (by decide)
        intro M3 lc3 rc3 T3 C3 L3 F3
        have hcl := cyL_len (sg := sg) (r.2.drop Y.length) S
        have hdl := drop_len a4
        refine fun _ => ⟨_, rfl, ih4 M3 r.1 o 0 r.2 (cyL sg S (r.2.drop Y.length)) lc3 rc3 (H' + 4 + 1) Q (by omega) (by omega) ho (Nat.zero_le _) (by omega) T3 C3 (by omega) (by omega) L3 ?_⟩
        have hE : EndK b n s n0 sN ro mx vN sg M i o Y S lc rr Q (rc b n sN g 4 r.1 o r.2) := hE
        have hok2 := rc_ok (sN := sN) hS g 4 r.1 o r.2 (by decide) a2 a3
        generalize rc b n sN g 4 r.1 o r.2 = R2 at hE hok2
        cases R2 with
        | error e => exact fun M4 lc4 rc4 N4 bf4 v T4 C4 F4 hl4 hv => hE M4 lc4 rc4 N4 bf4 v T4 C4 (F3.tr F4) (by omega) hv
        | ok r2 =>
          obtain ⟨b1, b2, b3, ⟨V, b4, b5⟩, -⟩ := hok2
          intro M4 lc4 rc4 T4 C4 L4 F4
          have ec : cyL sg (cyL sg S (r.2.drop Y.length)) (r2.2.drop r.2.length) = cyL sg S (r2.2.drop Y.length) := by
            rw [← cyL_app]
            congr 1
            rw [b4, List.drop_left, a4, List.append_assoc, List.drop_left, List.drop_left]
          rw [ec] at C4 L4 F4 ⊢
          exact hE M4 lc4 rc4 T4 C4 L4 (F3.tr F4)
    · intro M i o c Y S lc rr H Q hg hh ho hc hl hT hC hL hY hb hE
      obtain ⟨H', rfl⟩ : ∃ H', H = H' + 5 + 1 := ⟨H - 6, by omega⟩
      have F := hT.1
      have hi := hT.2.1
      have h0 := hT.2.2.2.2.2.2.2.2.2
      have lm := hC.lim
      have n1 := hC.n1
      have hn := hS.2.1
      have hx : S.2.2.getD (Y.length - 1) 0 < 2 * S.1.length := getD_lt hb (by omega)
      unfold rc at hE
      rw [if_neg (by decide), if_neg (by decide), if_neg (by decide), if_neg (by decide)] at hE
      refine VX4_readCondition_7 ?_
      unfold DX4_readCondition_7 DX4_readCondition_48
      refine ⟨fun z => ?_, fun _ => ⟨ok14 F, 15, rf14_0 F, ok15 F, A_accept (h := H' + 3) hT hS (by decide) (fun hk k1 M1 T1 F1 _ => ⟨_, rfl, fun z => absurd z (by decide), fun _ => ?_⟩) (fun hk k1 M1 T1 F1 _ => ⟨_, rfl, fun z => absurd z (by decide), fun _ => ?_⟩) (fun hk _ => ⟨_, rfl, fun _ => ?_, fun z => absurd rfl z⟩)⟩⟩
      · have c800 := (le32 (a := 800) (b := c) (by decide) (by omega)).mp z
        have : i = s := by omega
        have hk : tK b n i ≠ 60 := by
          subst this
          rcases hS.2.2.1 with q | q <;> (rw [q]; decide)
        rw [if_neg hk] at hE
        have hE := hE M lc rr
        dsimp only at hE
        rw [List.drop_length] at hE
        exact hE hT hC hb CdF.rf
      · rw [if_pos hk, adv_ok' k1] at hE
        have hs := hS.lt hi.2.2 h0 (by rw [hk]; decide)
        have hE : EndK b n s n0 sN ro mx vN sg M i o Y S lc rr Q ((rc b n sN g 1 (i + 1) o Y).bind fun r => rc b n sN g 4 r.1 o (r.2 ++ [(4, Y.length - 1, r.2.length - 1)])) := hE
        have C1 := hC.t F1
        obtain ⟨g1, g2, g3, g4, g5, -, -, -, -, g8, -⟩ := id C1
        refine ⟨n0, g8, g1.1, n0 + 8, g5, ih1 M1 (i + 1) o Y S lc rr (H' + 5) _ (by omega) (by omega) ho (by omega) T1 C1 hL hb ?_⟩
        have hok := rc_ok (sN := sN) hS g 1 (i + 1) o Y (by decide) hs k1
        generalize rc b n sN g 1 (i + 1) o Y = R at hE hok
        cases R with
        | error e => exact fun M3 lc3 rc3 N3 bf3 v T3 C3 F3 hl3 hv _ => ⟨_, rfl, C3.2.1.1, X_joinO (h := H') T3 C3 (by have := F3.2.2.2.2.2.2.2.2.2; omega) hv (by omega) (fun M4 lc4 rc4 N4 w T4 C4 F4 hl4 hw => hE M4 lc4 rc4 N4 bf3 w T4 C4 (((CdF.t F1 lm.2.2.1).tr F3).tr F4) (by omega) hw)⟩
        | ok r =>
          obtain ⟨a1, a2, a3, ⟨Z, a4, a5⟩, a6⟩ := hok
          have a6 := a6 (by decide)
          intro M3 lc3 rc3 T3 C3 L3 F3
          have hcl := cyL_len (sg := sg) (r.2.drop Y.length) S
          have hdl := drop_len a4
          have n3 := C3.n1
          have hy : (cyL sg S (r.2.drop Y.length)).2.2.getD (r.2.length - 1) 0 < 2 * (cyL sg S (r.2.drop Y.length)).1.length := getD_lt L3 (by omega)
          have ex : (cyL sg S (r.2.drop Y.length)).2.2.getD (Y.length - 1) 0 = S.2.2.getD (Y.length - 1) 0 := cyL_getD (by omega)
          have hx3 : S.2.2.getD (Y.length - 1) 0 < 2 * (cyL sg S (r.2.drop Y.length)).1.length := by omega
          have ll := orL_len (N := (cyL sg S (r.2.drop Y.length)).1) (a := S.2.2.getD (Y.length - 1) 0) (b := (cyL sg S (r.2.drop Y.length)).2.2.getD (r.2.length - 1) 0)
          have hE : EndK b n s n0 sN ro mx vN sg M i o Y S lc rr Q (rc b n sN g 4 r.1 o (r.2 ++ [(4, Y.length - 1, r.2.length - 1)])) := hE
          have ec : cyL sg S ((r.2 ++ [((4, Y.length - 1, r.2.length - 1) : Cd)]).drop Y.length) = ((orL (cyL sg S (r.2.drop Y.length)).1 (S.2.2.getD (Y.length - 1) 0) ((cyL sg S (r.2.drop Y.length)).2.2.getD (r.2.length - 1) 0)).1, (cyL sg S (r.2.drop Y.length)).2.1, (cyL sg S (r.2.drop Y.length)).2.2 ++ [(orL (cyL sg S (r.2.drop Y.length)).1 (S.2.2.getD (Y.length - 1) 0) ((cyL sg S (r.2.drop Y.length)).2.2.getD (r.2.length - 1) 0)).2]) := by
            rw [drop_snoc a4, cyL_app, ← ex]
            rfl
          generalize hnd : (r.2 ++ [((4, Y.length - 1, r.2.length - 1) : Cd)]) = Y2 at hE ec
          have lY2 : Y2.length = r.2.length + 1 := by rw [← hnd, List.length_append]; rfl
          have pY2 : Y2 = Y ++ (Z ++ [(4, Y.length - 1, r.2.length - 1)]) := by rw [← hnd, a4, List.append_assoc]
          refine fun _ => ⟨_, rfl, C3.2.1.1, S_or (h := H') C3.2.1 (by omega) hx3 hy (fun M4 lc4 rc4 P4 F4 _ => ⟨_, rfl, ?_⟩)⟩
          have T4 := T3.c C3 F4
          have C4 := C3.c P4 F4 ll.1
          have lm3 := C3.lim
          have D4 := CdF.c F4 lm3.2.2.1 ⟨lm3.1, lm3.2.1⟩ lm3.2.2.2 ll.1
          have L4 := L3.snoc (N := (orL (cyL sg S (r.2.drop Y.length)).1 (S.2.2.getD (Y.length - 1) 0) ((cyL sg S (r.2.drop Y.length)).2.2.getD (r.2.length - 1) 0)).1) (bf := (cyL sg S (r.2.drop Y.length)).2.1) ll.1 (orL_lt n3 hx3 hy)
          rw [← ec] at L4
          have q1 : (cyL sg S (Y2.drop Y.length)).1 = (orL (cyL sg S (r.2.drop Y.length)).1 (S.2.2.getD (Y.length - 1) 0) ((cyL sg S (r.2.drop Y.length)).2.2.getD (r.2.length - 1) 0)).1 := by rw [ec]
          have q2 : (cyL sg S (Y2.drop Y.length)).2.1 = (cyL sg S (r.2.drop Y.length)).2.1 := by rw [ec]
          have q3 : (cyL sg S (Y2.drop Y.length)).2.2.getD (Y2.length - 1) 0 = (orL (cyL sg S (r.2.drop Y.length)).1 (S.2.2.getD (Y.length - 1) 0) ((cyL sg S (r.2.drop Y.length)).2.2.getD (r.2.length - 1) 0)).2 := by rw [ec]; exact getD_last (by omega)
          rw [← q1] at C4 D4 ll
          rw [← q2] at C4
          rw [← q3, succ32]
          have hcl2 := cyL_len (sg := sg) (Y2.drop Y.length) S
          have hdl2 := drop_len pY2
          refine ih4 M4 r.1 o (c + 1) Y2 (cyL sg S (Y2.drop Y.length)) lc4 rc4 (H' + 5 + 1) Q (by omega) (by omega) ho (by omega) (by omega) T4 C4 (by omega) (by omega) L4 ?_
          have hok2 := rc_ok (sN := sN) hS g 4 r.1 o Y2 (by decide) a2 a3
          generalize rc b n sN g 4 r.1 o Y2 = R2 at hE hok2
          have G4 := ((CdF.t (lc := lc) (rc := rr) (N := S.1) F1 lm.2.2.1).tr F3).tr D4
          cases R2 with
          | error e => exact fun M5 lc5 rc5 N5 bf5 v T5 C5 F5 hl5 hv => hE M5 lc5 rc5 N5 bf5 v T5 C5 (G4.tr F5) (by omega) hv
          | ok r2 =>
            obtain ⟨b1, b2, b3, ⟨V, b4, b5⟩, -⟩ := hok2
            intro M5 lc5 rc5 T5 C5 L5 F5
            have ec2 : cyL sg (cyL sg S (Y2.drop Y.length)) (r2.2.drop Y2.length) = cyL sg S (r2.2.drop Y.length) := by
              rw [← cyL_app]
              congr 1
              rw [b4, List.drop_left, pY2, List.append_assoc, List.drop_left, List.drop_left]
            rw [ec2] at C5 L5 F5 ⊢
            exact hE M5 lc5 rc5 T5 C5 L5 (G4.tr F5)
      · rw [if_pos hk, adv_er' k1] at hE
        have C1 := hC.t F1
        obtain ⟨g1, g2, g3, g4, g5, -, -, -, -, g8, -⟩ := id C1
        refine ⟨n0, g8, g1.1, n0 + 8, g5, X_and (h := H' + 1) T1 (fun _ => ⟨_, rfl, C1.2.1.1, X_joinO (h := H') (v := 0) T1 C1 hx (by omega) (by omega) (fun M4 lc4 rc4 N4 w T4 C4 F4 hl4 hw => hE M4 lc4 rc4 N4 _ w T4 C4 ((CdF.t F1 lm.2.2.1).tr F4) (by omega) hw)⟩)⟩
      · rw [if_neg hk] at hE
        have hE := hE M lc rr
        dsimp only at hE
        rw [List.drop_length] at hE
        exact hE hT hC hb CdF.rf
end
end
