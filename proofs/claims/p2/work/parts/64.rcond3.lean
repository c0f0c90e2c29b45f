/-! the reference reads a condition: its loop against rc -/
def EndD (Lm : Nat) (b : Nat → Int32) (n s m : Nat) (sN : List Int64) (ro mx : List Int32) (vN : List Int64) (M : Mem) (o pr : Nat) (σ0 ν : List Nat) (K : Mem → Prop) (Kx : Mem → Prop) (R : Except (Int32 × Nat) (Nat × List Cd)) : Prop := match R with
  | .ok r => ∀ M' π r' Y', (∀ e ∈ π, 3 ≤ e.1 ∧ e.1 ≤ Lm) → SC b n s m sN ro mx vN (0, 0) M' r.1 o pr (π.map Prod.fst ++ σ0) (r' :: (π.map Prod.snd ++ ν)) Y' → jc π r' Y' = (r.2.length - 1, r.2) → (tK b n r.1 ≠ 59 ∧ (Lm = 4 → tK b n r.1 ≠ 60)) → RFc m M M' → K M'
  | .error e => ∀ M', TXr M' e.1 e.2 → RFc m M M' → Kx M'
section
variable {b : Nat → Int32} {n s m : Nat} {sN : List Int64} {ro mx : List Int32} {vN : List Int64} {h : Nat} {Q : Option Value → Mem → Prop}
theorem EndD.fr {Lm : Nat} {M M1 : Mem} {o pr : Nat} {σ0 ν : List Nat} {K Kx : Mem → Prop} {R : Except (Int32 × Nat) (Nat × List Cd)} (hE : EndD Lm b n s m sN ro mx vN M o pr σ0 ν K Kx R) (F : RFc m M M1) : EndD Lm b n s m sN ro mx vN M1 o pr σ0 ν K Kx R := by
  cases R with
  | error e => exact fun M' T' F' => hE M' T' (F.tr F')
  | ok r => exact fun M' π r' Y' a1 a2 a3 a4 F' => hE M' π r' Y' a1 a2 a3 a4 (F.tr F')
theorem EndC.fr {M M1 : Mem} {o k pr : Nat} {σ0 ν : List Nat} {K Kx : Mem → Prop} {R : Except (Int32 × Nat) (Nat × List Cd)} (hE : EndC b n s m sN ro mx vN M o k pr σ0 ν K Kx R) (F : RFc m M M1) : EndC b n s m sN ro mx vN M1 o k pr σ0 ν K Kx R := by
  cases R with
  | error e => exact fun M' T' F' => hE M' T' (F.tr F')
  | ok r => exact fun M' a1 F' => hE M' a1 (F.tr F')
theorem YL {M : Mem} {f : Int32} {p : Nat} {x1 x2 : Int32} (hT : TXr M f p) (H : Q (some (.int 0)) M) : T (h + 5) mdX11_readCond 19 [(0, .ref 29), (1, .int x1), (2, .int x2)] [] M Q := by
  obtain ⟨F, h6, hp, h7⟩ := hT
  have n0 : ¬ mI M 29 6 = 0 := by rw [h6]; intro z; rw [z] at hp; exact absurd hp (by decide)
  have nl : ¬ mI M 29 6 ≤ 0 := by rw [h6]; exact Int32.not_le.mpr hp
  refine VX11_readCond_19 ?_
  unfold DX11_readCond_19 DX11_readCond_264 DX11_readCond_292
  refine ⟨fun _ => ⟨ok29 F, fun _ => ⟨ok29 F, fun z => absurd z nl, fun _ => H⟩, fun z => absurd z n0⟩, fun _ => ⟨ok29 F, fun _ => ⟨ok29 F, fun _ => ⟨ok29 F, fun z => absurd z nl, fun _ => H⟩, fun z => absurd z n0⟩, fun z => absurd z n0⟩⟩
theorem G_join {L : Nat} {σb νb : List Nat} {π : List (Nat × Nat)} {r : Nat} {Y : List Cd} {M : Mem} {i o pr : Nat} (hz : ∀ i, n ≤ i → b i = 0) (hL : L = 3 ∨ L = 4) (hb : top? σb (fun x => x < 3 ∨ L < x)) (hπ : ∀ e ∈ π, 3 ≤ e.1 ∧ e.1 ≤ L) (h100 : ∀ x ∈ σb, x < 100) (hR : SC b n s m sN ro mx vN (0, 0) M i o pr (π.map Prod.fst ++ σb) (r :: (π.map Prod.snd ++ νb)) Y) (H : ∀ M', SC b n s m sN ro mx vN (0, 0) M' i o pr σb ((jc π r Y).1 :: νb) (jc π r Y).2 → RFc m M M' → Q none M') : E (h + 3) mdX11_joinConds [.ref 29, .int (Int32.ofNat L)] M Q := by
  refine E.of (by decide) (Nat.le_of_ble_eq_true rfl) (fun _ _ _ => trivial) ?_
  show T _ _ 0 [(0, .ref 29), (1, .int (Int32.ofNat L))] [] M _
  exact G_joinT hz hL hb π r Y M i hπ h100 hR H
/-- the loop at 'and' or 'or' -/
theorem G_atOp {L : Nat} {σb νb : List Nat} {π : List (Nat × Nat)} {r : Nat} {Y : List Cd} {M : Mem} {i o pr : Nat} (hz : ∀ i, n ≤ i → b i = 0) (hB : By b) (hs : i < s) (hk : (L = 3 ∧ tK b n i = 59) ∨ (L = 4 ∧ tK b n i = 60)) (hb : top? σb (fun x => x < 3 ∨ L < x)) (hπ : ∀ e ∈ π, 3 ≤ e.1 ∧ e.1 ≤ L) (h100 : ∀ x ∈ σb, x < 100) (hR : SC b n s m sN ro mx vN (0, 0) M i o pr (π.map Prod.fst ++ σb) (r :: (π.map Prod.snd ++ νb)) Y) (H1 : tK b n (i + 1) ≠ 0 → ∀ M', SC b n s m sN ro mx vN (0, 0) M' (i + 1) o pr (L :: σb) ((jc π r Y).1 :: νb) (jc π r Y).2 → RFc m M M' → T (h + 5) mdX11_readCond 19 [(0, .ref 29), (1, .int 1), (2, .int 1)] [] M' Q) (H0 : tK b n (i + 1) = 0 → ∀ M', TXr M' 1 (tP b n (i + 1)) → RFc m M M' → T (h + 5) mdX11_readCond 19 [(0, .ref 29), (1, .int 1), (2, .int 1)] [] M' Q) : T (h + 5) mdX11_readCond 19 [(0, .ref 29), (1, .int 0), (2, .int 1)] [] M Q := by
  have F := hR.1.1
  have h6 : mI M 29 6 = 0 := hR.2.2.2.1.1
  have tk := hR.tk hB
  have L4 : L = 3 ∨ L = 4 := by rcases hk with ⟨l, -⟩ | ⟨l, -⟩ <;> omega
  have hw : wdK (tK b n i) := by rcases hk with ⟨-, q⟩ | ⟨-, q⟩ <;> (rw [q]; exact Or.inr (by decide))
  have hbt := bt_word hz hB hw
  -- from the joining on
  have go : ∀ (x3 : Int32), (x3 = 0 ∧ L = 4 ∨ x3 = 1 ∧ L = 3) → DX11_readCond_155 (h + 4) 29 1 x3 29 (Int32.ofNat L) M Q := by
    intro x3 hx3
    unfold DX11_readCond_155
    refine ⟨ok29 F, G_join (h := h + 1) hz L4 hb hπ h100 hR (fun M2 R2 F2 _ => ⟨rfl, ok29 R2.1.1, 52, rf29_28 R2.1.1, ?_⟩)⟩
    obtain ⟨g1, g2, g3, g4, g5, g6, g7, g8, g9, g10⟩ := id R2
    have fin : DX11_readCond_175 (h + 4) 29 1 52 (mI M2 29 29) (Int32.ofNat L) M2 Q := by
      unfold DX11_readCond_175
      rw [g7.1, lt32 (by omega)]
      refine ⟨ok52 g1.1, by rw [ln52 g1.1]; exact vp_of (by omega) (by decide), fun A a => ?_⟩
      have FA : Fix A := by rw [a]; exact g1.1.ai
      refine ⟨ok29 FA, fun C c => ?_⟩
      have iA : mI A 29 29 = Int32.ofNat σb.length := by rw [a, mI_wAI]; exact g7.1
      rw [iA, succ32] at c
      have stC : St C 52 29 0 (L :: σb) := g7.push (x := L) (by rw [c, a, Nat.zero_add])
      have frC : RFc m M2 C := by rw [c, a]; exact (RFc.st (Or.inl rfl)).tr (RFc.i (by decide))
      have g : ∀ f, f ≠ 29 → mI C 29 f = mI M2 29 f := by intro f hf; rw [c, a]; simp [hf, mNwI, mSwI, mKwI, mIwI, mJwI, mRwI, mLwI, mAIwI, mAJwI, mARwI, mNwJ, mSwJ, mKwJ, mIwJ, mJwJ, mRwJ, mLwJ, mAIwJ, mAJwJ, mARwJ, mNwR, mSwR, mKwR, mIwR, mJwR, mRwR, mLwR, mAIwR, mAJwR, mARwR, mNwAI, mSwAI, mKwAI, mIwAI, mJwAI, mRwAI, mLwAI, mAIwAI, mAJwAI, mARwAI, mNwAJ, mSwAJ, mKwAJ, mIwAJ, mJwAJ, mRwAJ, mLwAJ, mAIwAJ, mAJwAJ, mARwAJ, mNwAR, mSwAR, mKwAR, mIwAR, mJwAR, mRwAR, mLwAR, mAIwAR, mAJwAR, mARwAR, okkwI, okkwJ, okkwR, okkwAI, okkwAJ, okkwAR]
      have k : ∀ q, q ≠ 52 → mAI C q = mAI M2 q := by intro q hq; rw [c, mAI_wI, a, mAI_wAI_ne hq]
      refine G_take (h := h + 2) (pr := pr) (o := o) (g1.frc frC) ⟨g2.1, g2.2.1, hs⟩ ((g 5 (by decide)).trans g3) ((g 6 (by decide)).trans g4.1) ((g 33 (by decide)).trans g5) ((g 32 (by decide)).trans g6) stC (g8.fr (g 31 (by decide)) (k 53 (by decide))) (g9.fr (k 40 (by decide)) (k 44 (by decide)) (k 45 (by decide)) (k 46 (by decide)) (k 47 (by decide))) ⟨⟨?_, by show σb.length + 1 ≤ _; omega⟩, by omega, g10.2.2.1, by omega, g10.2.2.2.2⟩ hB (fun k1 M' R' F' _ => ⟨rfl, H1 k1 M' R' ((F2.tr frC).tr F')⟩) (fun k1 M' T' F' _ => ⟨rfl, H0 k1 M' (T'.x (by decide)) ((F2.tr frC).tr F')⟩)
      rw [wt_cons, if_neg (by omega)]
      have := g10.1.1
      omega
    rcases hx3 with ⟨x0, l⟩ | ⟨x1, l⟩
    · refine ⟨fun _ => ?_, fun z => absurd x0 z⟩
      rw [l] at fin; exact fin
    · refine ⟨fun z => absurd (x1.symm.trans z) (by decide), fun _ => ?_⟩
      rw [l] at fin; exact fin
  have go2 : DX11_readCond_136 (h + 4) 29 1 M Q := by
    unfold DX11_readCond_136
    refine ⟨ok29 F, K_key tk (j := 29) (k := 59) (by decide) rfl rfl (fun q _ => ⟨_, rfl, fun z => absurd z (by decide), fun _ => ?_⟩) (fun q _ => ⟨_, rfl, fun _ => ?_, fun z => absurd rfl z⟩)⟩
    · have l : L = 3 := by
        rcases hk with ⟨l, -⟩ | ⟨-, z⟩
        · exact l
        · rw [z] at q; exact absurd q (by decide)
      have := go 1 (Or.inr ⟨rfl, l⟩)
      rw [l] at this; exact this
    · have l : L = 4 := by
        rcases hk with ⟨-, z⟩ | ⟨l, -⟩
        · exact absurd z q
        · exact l
      have := go 0 (Or.inl ⟨rfl, l⟩)
      rw [l] at this; exact this
  refine VX11_readCond_19 ?_
  unfold DX11_readCond_19
  refine ⟨fun z => absurd z (by decide), fun _ => ⟨ok29 F, fun z => absurd h6 z, fun _ => ⟨fun _ => ?_, fun z => absurd rfl z⟩⟩⟩
  refine K_key tk (j := 29) (k := 59) (by decide) rfl rfl (fun q _ => ⟨_, rfl, fun _ => go2, fun z => absurd z (by decide)⟩) (fun q _ => ⟨_, rfl, fun z => absurd rfl z, fun _ => ?_⟩)
  refine K_key tk (j := 30) (k := 60) (by decide) rfl rfl (fun q _ => ⟨_, rfl, fun z => absurd z (by decide), fun _ => go2⟩) (fun q2 _ => ?_)
  exfalso
  rcases hk with ⟨-, z⟩ | ⟨-, z⟩
  · exact q z
  · exact q2 z
theorem G_noOp {σ ν : List Nat} {Y : List Cd} {M : Mem} {i o pr : Nat} (hB : By b) (hR : SC b n s m sN ro mx vN (0, 0) M i o pr σ ν Y) (hk : tK b n i ≠ 59 ∧ tK b n i ≠ 60) (Hend : (pr = 0 ∨ tK b n i ≠ 16) → T (h + 5) mdX11_readCond 19 [(0, .ref 29), (1, .int 0), (2, .int 0)] [] M Q) (Hcl : pr ≠ 0 → tK b n i = 16 → E (h + 4) mdX11_joinConds [.ref 29, .int 4] M (fun r M6 => mE M M6 → r = none ∧ ∀ M7, M7 = wI M6 29 29 ((mI M6 29 29) - 1) → ∀ M8, M8 = wI M7 29 32 ((mI M7 29 32) - 1) → ∀ M9, M9 = wI M8 29 33 ((mI M8 29 33) - 1) → E (h + 4) mdX11_take [.ref 29] M9 (fun r M10 => mE M9 M10 → r = none ∧ E (h + 4) mdX11_closeNots [.ref 29] M10 (fun r M13 => mE M10 M13 → r = none ∧ T (h + 5) mdX11_readCond 19 [(0, .ref 29), (1, .int 0), (2, .int 1)] [] M13 Q)))) : T (h + 5) mdX11_readCond 19 [(0, .ref 29), (1, .int 0), (2, .int 1)] [] M Q := by
  have F := hR.1.1
  have h6 : mI M 29 6 = 0 := hR.2.2.2.1.1
  have h32 : mI M 29 32 = Int32.ofNat pr := hR.2.2.2.2.2.1
  have hi := hR.2.1
  have tk := hR.tk hB
  have h10 := hR.2.2.2.2.2.2.2.2.2
  have lp : (Int32.ofNat pr ≤ 0) ↔ pr ≤ 0 := le32 (b := 0) (by omega) (by decide)
  refine VX11_readCond_19 ?_
  unfold DX11_readCond_19 DX11_readCond_259
  refine ⟨fun z => absurd z (by decide), fun _ => ⟨ok29 F, fun z => absurd h6 z, fun _ => ⟨fun _ => ?_, fun z => absurd rfl z⟩⟩⟩
  refine K_key tk (j := 29) (k := 59) (by decide) rfl rfl (fun q => absurd q hk.1) (fun q _ => ⟨_, rfl, fun z => absurd rfl z, fun _ => ?_⟩)
  refine K_key tk (j := 30) (k := 60) (by decide) rfl rfl (fun q => absurd q hk.2) (fun q2 _ => ⟨_, rfl, fun _ => ⟨fun q => ?_, fun q => ?_⟩, fun z => absurd rfl z⟩)
  · rw [h32, lp] at q
    exact Hend (Or.inl (by omega))
  · rw [h32, lp] at q
    refine K_sign tk (k := 16) (by decide) rfl (fun q2 _ => ⟨_, rfl, fun z => absurd z (by decide), fun _ => Hcl (by omega) q2⟩) (fun q2 _ => ⟨_, rfl, fun _ => Hend (Or.inr q2), fun z => absurd rfl z⟩)
theorem G_left {σ ν : List Nat} {Y : List Cd} {M : Mem} {i o pr : Nat} {x1 : Int32} (hB : By b) (hR : SC b n s m sN ro mx vN (0, 0) M i o pr σ ν Y) (hp : pr ≠ 0) (H : ∀ M', TXr M' 2 (tP b n i) → RFc m M M' → Q (some (.int 0)) M') : T (h + 5) mdX11_readCond 19 [(0, .ref 29), (1, .int x1), (2, .int 0)] [] M Q := by
  have F := hR.1.1
  have h6 : mI M 29 6 = 0 := hR.2.2.2.1.1
  have h32 : mI M 29 32 = Int32.ofNat pr := hR.2.2.2.2.2.1
  have hi := hR.2.1
  have h10 := hR.2.2.2.2.2.2.2.2.2
  obtain ⟨-, -, -, h5, h8⟩ := hR.tk hB
  have lp : (Int32.ofNat pr ≤ 0) ↔ pr ≤ 0 := le32 (b := 0) (by omega) (by decide)
  refine VX11_readCond_19 ?_
  unfold DX11_readCond_19 DX11_readCond_264 DX11_readCond_292
  refine ⟨fun _ => ⟨ok29 F, fun z => absurd h6 z, fun _ => ⟨fun q => ?_, fun _ => ?_⟩⟩, fun z => absurd rfl z⟩
  · rw [h32, lp] at q; omega
  · rw [h5, lt32 (by omega)]
    refine ⟨32, rf29_3 F, ok32 F, by rw [ln32 F]; exact vp_of h8 (by decide), G_fails hR hB (by decide) (fun M' T' F' _ => ⟨rfl, ok29 T'.1, fun z => ?_, fun _ => H M' T' F'⟩)⟩
    rw [T'.2.1] at z
    exact absurd z (by decide)
theorem G_rc (hz : ∀ i, n ≤ i → b i = 0) (hB : By b) (hS : Sto b n s) : ∀ (g : Nat),
    (∀ (M : Mem) (i o k pr : Nat) (σ0 ν : List Nat) (Y : List Cd), 6 * (s + 1 - i) ≤ g → tK b n i ≠ 0 → top? σ0 (fun x => x ≠ 2) → (∀ x ∈ σ0, x < 100) → SC b n s m sN ro mx vN (0, 0) M i (o + k) pr (List.replicate k 2 ++ σ0) ν Y → EndC b n s m sN ro mx vN M o k pr σ0 ν (fun M' => T (h + 5) mdX11_readCond 19 [(0, .ref 29), (1, .int 0), (2, .int 1)] [] M' Q) (fun M' => Q (some (.int 0)) M') (rc b n sN g 0 i (o + k) Y) → T (h + 5) mdX11_readCond 19 [(0, .ref 29), (1, .int 1), (2, .int 1)] [] M Q) ∧
    (∀ (M : Mem) (i o pr : Nat) (σ0 ν : List Nat) (Y : List Cd), 6 * (s + 1 - i) + 1 ≤ g → tK b n i ≠ 0 → top? σ0 (fun x => x ≠ 2 ∧ (x < 3 ∨ 3 < x)) → (∀ x ∈ σ0, x < 100) → SC b n s m sN ro mx vN (0, 0) M i o pr σ0 ν Y → EndD 3 b n s m sN ro mx vN M o pr σ0 ν (fun M' => T (h + 5) mdX11_readCond 19 [(0, .ref 29), (1, .int 0), (2, .int 1)] [] M' Q) (fun M' => Q (some (.int 0)) M') (rc b n sN g 1 i o Y) → T (h + 5) mdX11_readCond 19 [(0, .ref 29), (1, .int 1), (2, .int 1)] [] M Q) ∧
    (∀ (M : Mem) (i o pr : Nat) (σ0 ν : List Nat) (π : List (Nat × Nat)) (r : Nat) (Y : List Cd), 6 * (s + 1 - i) + 2 ≤ g → tK b n i ≠ 0 → top? σ0 (fun x => x ≠ 2 ∧ (x < 3 ∨ 3 < x)) → (∀ x ∈ σ0, x < 100) → (∀ e ∈ π, 3 ≤ e.1 ∧ e.1 ≤ 3) → SC b n s m sN ro mx vN (0, 0) M i o pr (π.map Prod.fst ++ σ0) (r :: (π.map Prod.snd ++ ν)) Y → (jc π r Y).1 = (jc π r Y).2.length - 1 → EndD 3 b n s m sN ro mx vN M o pr σ0 ν (fun M' => T (h + 5) mdX11_readCond 19 [(0, .ref 29), (1, .int 0), (2, .int 1)] [] M' Q) (fun M' => Q (some (.int 0)) M') (rc b n sN g 2 i o (jc π r Y).2) → T (h + 5) mdX11_readCond 19 [(0, .ref 29), (1, .int 0), (2, .int 1)] [] M Q) ∧
    (∀ (M : Mem) (i o pr : Nat) (σ0 ν : List Nat) (Y : List Cd), 6 * (s + 1 - i) + 3 ≤ g → tK b n i ≠ 0 → top? σ0 (fun x => x ≠ 2 ∧ (x < 3 ∨ 4 < x)) → (∀ x ∈ σ0, x < 100) → SC b n s m sN ro mx vN (0, 0) M i o pr σ0 ν Y → EndD 4 b n s m sN ro mx vN M o pr σ0 ν (fun M' => T (h + 5) mdX11_readCond 19 [(0, .ref 29), (1, .int 0), (2, .int 1)] [] M' Q) (fun M' => Q (some (.int 0)) M') (rc b n sN g 3 i o Y) → T (h + 5) mdX11_readCond 19 [(0, .ref 29), (1, .int 1), (2, .int 1)] [] M Q) ∧
    (∀ (M : Mem) (i o pr : Nat) (σ0 ν : List Nat) (π : List (Nat × Nat)) (r : Nat) (Y : List Cd), 6 * (s + 1 - i) + 4 ≤ g → tK b n i ≠ 0 → tK b n i ≠ 59 → top? σ0 (fun x => x ≠ 2 ∧ (x < 3 ∨ 4 < x)) → (∀ x ∈ σ0, x < 100) → (∀ e ∈ π, 3 ≤ e.1 ∧ e.1 ≤ 4) → SC b n s m sN ro mx vN (0, 0) M i o pr (π.map Prod.fst ++ σ0) (r :: (π.map Prod.snd ++ ν)) Y → (jc π r Y).1 = (jc π r Y).2.length - 1 → EndD 4 b n s m sN ro mx vN M o pr σ0 ν (fun M' => T (h + 5) mdX11_readCond 19 [(0, .ref 29), (1, .int 0), (2, .int 1)] [] M' Q) (fun M' => Q (some (.int 0)) M') (rc b n sN g 4 i o (jc π r Y).2) → T (h + 5) mdX11_readCond 19 [(0, .ref 29), (1, .int 0), (2, .int 1)] [] M Q) := by
  intro g
  induction g with
  | zero =>
    refine ⟨?_, ?_, ?_, ?_, ?_⟩
    · intro M i o k pr σ0 ν Y hg _ _ _ hR _; have := hR.2.1; omega
    · intro M i o pr σ0 ν Y hg _ _ _ hR _; have := hR.2.1; omega
    · intro M i o pr σ0 ν π r Y hg _ _ _ _ hR _ _; have := hR.2.1; omega
    · intro M i o pr σ0 ν Y hg _ _ _ hR _; have := hR.2.1; omega
    · intro M i o pr σ0 ν π r Y hg _ _ _ _ _ hR _ _; have := hR.2.1; omega
  | succ g ih =>
    obtain ⟨ih0, ih1, ih2, ih3, ih4⟩ := ih
    refine ⟨?_, ?_, ?_, ?_, ?_⟩
    · intro M i o k pr σ0 ν Y hg h0 ht h100 hR hE
      have F := hR.1.1
      have hi := hR.2.1
      have h6 : mI M 29 6 = 0 := hR.2.2.2.1.1
      have tk := hR.tk hB
      unfold rc at hE
      rw [if_pos rfl] at hE
      refine VX11_readCond_19 ?_
      unfold DX11_readCond_19 DX11_readCond_99
      refine ⟨fun z => absurd z (by decide), fun _ => ⟨ok29 F, fun z => absurd h6 z, fun _ => ⟨fun z => absurd z (by decide), fun _ => ?_⟩⟩⟩
      refine K_key tk (j := 31) (k := 61) (by decide) rfl rfl (fun k61 _ => ⟨_, rfl, fun z => absurd z (by decide), fun _ => ?_⟩) (fun n61 _ => ⟨_, rfl, fun _ => ?_, fun z => absurd rfl z⟩)
      · rw [if_pos k61] at hE
        have hs := hS.lt hi.2.2 h0 (by rw [k61]; decide)
        refine G_opening (h := h + 1) (op := 2) hz hR hB hs (by rw [k61]; decide) (Or.inl ⟨rfl, by rw [k61]; exact Or.inr (by decide)⟩) (fun ho k1 M1 R1 F1 _ => ⟨rfl, ?_⟩) (fun ho k1 M1 T1 F1 _ => ⟨rfl, ?_⟩) (fun ho M1 T1 F1 _ => ⟨rfl, ?_⟩)
        · rw [if_neg (by omega : ¬ o + k = 15), adv_ok' k1] at hE
          have hE : EndC b n s m sN ro mx vN M o k pr σ0 ν (fun M' => T (h + 5) mdX11_readCond 19 [(0, .ref 29), (1, .int 0), (2, .int 1)] [] M' Q) (fun M' => Q (some (.int 0)) M') ((rc b n sN g 0 (i + 1) (o + k + 1) Y).bind fun r => .ok (r.1, r.2 ++ [(2, r.2.length - 1, 0)])) := hE
          rw [if_neg (by decide), Nat.add_zero] at R1
          refine ih0 M1 (i + 1) o (k + 1) pr σ0 ν Y (by omega) k1 ht h100 R1 ?_
          have e : o + (k + 1) = o + k + 1 := rfl
          rw [e]
          generalize rc b n sN g 0 (i + 1) (o + k + 1) Y = R at hE
          cases R with
          | error e => exact fun M' T' F' => hE M' T' (F1.tr F')
          | ok r =>
            intro M2 R2 F2
            refine hE M2 ?_ (F1.tr F2)
            have e2 : (r.2 ++ [(2, r.2.length - 1, 0)] : List Cd).length - 1 = r.2.length := by rw [List.length_append]; rfl
            show SC b n s m sN ro mx vN (0, 0) M2 r.1 o pr σ0 ((nc k ((r.2 ++ [(2, r.2.length - 1, 0)] : List Cd).length - 1) (r.2 ++ [(2, r.2.length - 1, 0)])).1 :: ν) (nc k ((r.2 ++ [(2, r.2.length - 1, 0)] : List Cd).length - 1) (r.2 ++ [(2, r.2.length - 1, 0)])).2
            rw [e2]
            exact R2
        · rw [if_neg (by omega : ¬ o + k = 15), adv_er' k1] at hE
          exact YL T1 (hE M1 T1 F1)
        · rw [if_pos ho] at hE
          exact YL T1 (hE M1 T1 F1)
      rw [if_neg n61] at hE
      refine K_sign tk (k := 15) (by decide) rfl (fun k15 _ => ⟨_, rfl, fun z => absurd z (by decide), fun _ => ?_⟩) (fun n15 _ => ⟨_, rfl, fun _ => ?_, fun z => absurd rfl z⟩)
      · rw [if_pos k15] at hE
        have hs := hS.lt hi.2.2 h0 (by rw [k15]; decide)
        refine G_opening (h := h + 1) (op := 5) hz hR hB hs (by rw [k15]; decide) (Or.inr rfl) (fun ho k1 M1 R1 F1 _ => ⟨rfl, ?_⟩) (fun ho k1 M1 T1 F1 _ => ⟨rfl, ?_⟩) (fun ho M1 T1 F1 _ => ⟨rfl, ?_⟩)
        · rw [if_neg (by omega : ¬ o + k = 15), adv_ok' k1] at hE
          have hE : EndC b n s m sN ro mx vN M o k pr σ0 ν (fun M' => T (h + 5) mdX11_readCond 19 [(0, .ref 29), (1, .int 0), (2, .int 1)] [] M' Q) (fun M' => Q (some (.int 0)) M') ((rc b n sN g 3 (i + 1) (o + k + 1) Y).bind fun r => if tK b n r.1 = 16 then (adv' b n r.1).bind fun j' => .ok (j', r.2) else .error (2, tP b n r.1)) := hE
          rw [if_pos rfl] at R1
          have h101 : ∀ x ∈ 5 :: (List.replicate k 2 ++ σ0), x < 100 := by
            intro x hx
            rcases List.mem_cons.mp hx with z | z
            · omega
            · rcases List.mem_append.mp z with z | z
              · have := List.eq_of_mem_replicate z; omega
              · exact h100 x z
          refine ih3 M1 (i + 1) (o + k + 1) (pr + 1) (5 :: (List.replicate k 2 ++ σ0)) ν Y (by omega) k1 (top_cons ⟨by decide, Or.inr (by decide)⟩) h101 R1 ?_
          have hok := rc_ok (sN := sN) hS g 3 (i + 1) (o + k + 1) Y (by decide) hs k1
          generalize rc b n sN g 3 (i + 1) (o + k + 1) Y = R at hE hok
          cases R with
          | error e => exact fun M' T' F' => hE M' T' (F1.tr F')
          | ok r =>
            intro M2 π r' Y' hπ R2 ej hst F2
            have hE : EndC b n s m sN ro mx vN M o k pr σ0 ν (fun M' => T (h + 5) mdX11_readCond 19 [(0, .ref 29), (1, .int 0), (2, .int 1)] [] M' Q) (fun M' => Q (some (.int 0)) M') (if tK b n r.1 = 16 then (adv' b n r.1).bind fun j' => .ok (j', r.2) else .error (2, tP b n r.1)) := hE
            obtain ⟨a1, a2, a3, -, -⟩ := hok
            refine G_noOp hB R2 ⟨hst.1, hst.2 rfl⟩ (fun hend => ?_) (fun _ k16 => ?_)
            · have n16 : tK b n r.1 ≠ 16 := hend.resolve_left (by omega)
              rw [if_neg n16] at hE
              exact G_left hB R2 (by omega) (fun M' T' F' => hE M' T' ((F1.tr F2).tr F'))
            · rw [if_pos k16] at hE
              have hs2 := hS.lt a2 a3 (by rw [k16]; decide)
              refine G_join (h := h + 1) (L := 4) hz (Or.inr rfl) (top_cons (Or.inr (by decide))) hπ h101 R2 (fun M3 R3 F3 _ => ⟨rfl, fun M4 e4 M5 e5 M6 e6 => ?_⟩)
              rw [ej] at R3
              dsimp only at R3
              obtain ⟨g1, g2, g3, g4, g5, g6, g7, g8, g9, g10⟩ := id R3
              have i3 : mI M3 29 29 = Int32.ofNat ((List.replicate k 2 ++ σ0).length + 1) := g7.1
              have hlb : (List.replicate k 2 ++ σ0).length + 1 ≤ r.1 := g10.1.2
              rw [i3, dec32 (by omega)] at e4
              have i4 : mI M4 29 32 = Int32.ofNat (pr + 1) := by rw [e4]; simp [g6, mNwI, mSwI, mKwI, mIwI, mJwI, mRwI, mLwI, mAIwI, mAJwI, mARwI, mNwJ, mSwJ, mKwJ, mIwJ, mJwJ, mRwJ, mLwJ, mAIwJ, mAJwJ, mARwJ, mNwR, mSwR, mKwR, mIwR, mJwR, mRwR, mLwR, mAIwR, mAJwR, mARwR, mNwAI, mSwAI, mKwAI, mIwAI, mJwAI, mRwAI, mLwAI, mAIwAI, mAJwAI, mARwAI, mNwAJ, mSwAJ, mKwAJ, mIwAJ, mJwAJ, mRwAJ, mLwAJ, mAIwAJ, mAJwAJ, mARwAJ, mNwAR, mSwAR, mKwAR, mIwAR, mJwAR, mRwAR, mLwAR, mAIwAR, mAJwAR, mARwAR, okkwI, okkwJ, okkwR, okkwAI, okkwAJ, okkwAR]
              have hpr := g10.2.2.2.1
              rw [i4, dec32 (by omega)] at e5
              have i5 : mI M5 29 33 = Int32.ofNat (o + k + 1) := by rw [e5, e4]; simp [g5, mNwI, mSwI, mKwI, mIwI, mJwI, mRwI, mLwI, mAIwI, mAJwI, mARwI, mNwJ, mSwJ, mKwJ, mIwJ, mJwJ, mRwJ, mLwJ, mAIwJ, mAJwJ, mARwJ, mNwR, mSwR, mKwR, mIwR, mJwR, mRwR, mLwR, mAIwR, mAJwR, mARwR, mNwAI, mSwAI, mKwAI, mIwAI, mJwAI, mRwAI, mLwAI, mAIwAI, mAJwAI, mARwAI, mNwAJ, mSwAJ, mKwAJ, mIwAJ, mJwAJ, mRwAJ, mLwAJ, mAIwAJ, mAJwAJ, mARwAJ, mNwAR, mSwAR, mKwAR, mIwAR, mJwAR, mRwAR, mLwAR, mAIwAR, mAJwAR, mARwAR, okkwI, okkwJ, okkwR, okkwAI, okkwAJ, okkwAR]
              have ho2 := g10.2.2.1
              rw [i5, dec32 (by omega)] at e6
              have fr6 : RFc m M3 M6 := by rw [e6, e5, e4]; exact ((RFc.i (by decide)).tr (RFc.i (by decide))).tr (RFc.i (by decide))
              have w5 : wt (5 :: (List.replicate k 2 ++ σ0)) = wt (List.replicate k 2 ++ σ0) := by rw [wt_cons, if_pos rfl]; rfl
              have b5 := g10.1.1
              rw [w5] at b5
              have R6 : SC b n s m sN ro mx vN (0, 0) M6 r.1 (o + k) pr (List.replicate k 2 ++ σ0) ((r.2.length - 1) :: ν) r.2 := by
                refine SC.opPop (M := M3) (x := 5) g1 g2 g3 g4 g7 g8 g9 ⟨⟨b5, by omega⟩, g10.2.1, by omega, by omega, g10.2.2.2.2⟩ fr6 ?_ ?_ ?_ ?_ ?_ ?_ ?_ ?_
                · rw [e6, e5, e4]; simp [mNwI, mSwI, mKwI, mIwI, mJwI, mRwI, mLwI, mAIwI, mAJwI, mARwI, mNwJ, mSwJ, mKwJ, mIwJ, mJwJ, mRwJ, mLwJ, mAIwJ, mAJwJ, mARwJ, mNwR, mSwR, mKwR, mIwR, mJwR, mRwR, mLwR, mAIwR, mAJwR, mARwR, mNwAI, mSwAI, mKwAI, mIwAI, mJwAI, mRwAI, mLwAI, mAIwAI, mAJwAI, mARwAI, mNwAJ, mSwAJ, mKwAJ, mIwAJ, mJwAJ, mRwAJ, mLwAJ, mAIwAJ, mAJwAJ, mARwAJ, mNwAR, mSwAR, mKwAR, mIwAR, mJwAR, mRwAR, mLwAR, mAIwAR, mAJwAR, mARwAR, okkwI, okkwJ, okkwR, okkwAI, okkwAJ, okkwAR]
                · rw [e6, e5, e4]; simp [mNwI, mSwI, mKwI, mIwI, mJwI, mRwI, mLwI, mAIwI, mAJwI, mARwI, mNwJ, mSwJ, mKwJ, mIwJ, mJwJ, mRwJ, mLwJ, mAIwJ, mAJwJ, mARwJ, mNwR, mSwR, mKwR, mIwR, mJwR, mRwR, mLwR, mAIwR, mAJwR, mARwR, mNwAI, mSwAI, mKwAI, mIwAI, mJwAI, mRwAI, mLwAI, mAIwAI, mAJwAI, mARwAI, mNwAJ, mSwAJ, mKwAJ, mIwAJ, mJwAJ, mRwAJ, mLwAJ, mAIwAJ, mAJwAJ, mARwAJ, mNwAR, mSwAR, mKwAR, mIwAR, mJwAR, mRwAR, mLwAR, mAIwAR, mAJwAR, mARwAR, okkwI, okkwJ, okkwR, okkwAI, okkwAJ, okkwAR]
                · rw [e6, e5, e4]; simp [mNwI, mSwI, mKwI, mIwI, mJwI, mRwI, mLwI, mAIwI, mAJwI, mARwI, mNwJ, mSwJ, mKwJ, mIwJ, mJwJ, mRwJ, mLwJ, mAIwJ, mAJwJ, mARwJ, mNwR, mSwR, mKwR, mIwR, mJwR, mRwR, mLwR, mAIwR, mAJwR, mARwR, mNwAI, mSwAI, mKwAI, mIwAI, mJwAI, mRwAI, mLwAI, mAIwAI, mAJwAI, mARwAI, mNwAJ, mSwAJ, mKwAJ, mIwAJ, mJwAJ, mRwAJ, mLwAJ, mAIwAJ, mAJwAJ, mARwAJ, mNwAR, mSwAR, mKwAR, mIwAR, mJwAR, mRwAR, mLwAR, mAIwAR, mAJwAR, mARwAR, okkwI, okkwJ, okkwR, okkwAI, okkwAJ, okkwAR]
                · rw [e6, e5, e4]; simp [mNwI, mSwI, mKwI, mIwI, mJwI, mRwI, mLwI, mAIwI, mAJwI, mARwI, mNwJ, mSwJ, mKwJ, mIwJ, mJwJ, mRwJ, mLwJ, mAIwJ, mAJwJ, mARwJ, mNwR, mSwR, mKwR, mIwR, mJwR, mRwR, mLwR, mAIwR, mAJwR, mARwR, mNwAI, mSwAI, mKwAI, mIwAI, mJwAI, mRwAI, mLwAI, mAIwAI, mAJwAI, mARwAI, mNwAJ, mSwAJ, mKwAJ, mIwAJ, mJwAJ, mRwAJ, mLwAJ, mAIwAJ, mAJwAJ, mARwAJ, mNwAR, mSwAR, mKwAR, mIwAR, mJwAR, mRwAR, mLwAR, mAIwAR, mAJwAR, mARwAR, okkwI, okkwJ, okkwR, okkwAI, okkwAJ, okkwAR]
                · rw [e6, e5, e4]; simp [mNwI, mSwI, mKwI, mIwI, mJwI, mRwI, mLwI, mAIwI, mAJwI, mARwI, mNwJ, mSwJ, mKwJ, mIwJ, mJwJ, mRwJ, mLwJ, mAIwJ, mAJwJ, mARwJ, mNwR, mSwR, mKwR, mIwR, mJwR, mRwR, mLwR, mAIwR, mAJwR, mARwR, mNwAI, mSwAI, mKwAI, mIwAI, mJwAI, mRwAI, mLwAI, mAIwAI, mAJwAI, mARwAI, mNwAJ, mSwAJ, mKwAJ, mIwAJ, mJwAJ, mRwAJ, mLwAJ, mAIwAJ, mAJwAJ, mARwAJ, mNwAR, mSwAR, mKwAR, mIwAR, mJwAR, mRwAR, mLwAR, mAIwAR, mAJwAR, mARwAR, okkwI, okkwJ, okkwR, okkwAI, okkwAJ, okkwAR]
                · rw [e6, e5, e4]; simp [mNwI, mSwI, mKwI, mIwI, mJwI, mRwI, mLwI, mAIwI, mAJwI, mARwI, mNwJ, mSwJ, mKwJ, mIwJ, mJwJ, mRwJ, mLwJ, mAIwJ, mAJwJ, mARwJ, mNwR, mSwR, mKwR, mIwR, mJwR, mRwR, mLwR, mAIwR, mAJwR, mARwR, mNwAI, mSwAI, mKwAI, mIwAI, mJwAI, mRwAI, mLwAI, mAIwAI, mAJwAI, mARwAI, mNwAJ, mSwAJ, mKwAJ, mIwAJ, mJwAJ, mRwAJ, mLwAJ, mAIwAJ, mAJwAJ, mARwAJ, mNwAR, mSwAR, mKwAR, mIwAR, mJwAR, mRwAR, mLwAR, mAIwAR, mAJwAR, mARwAR, okkwI, okkwJ, okkwR, okkwAI, okkwAJ, okkwAR]
                · rw [e6, e5, e4]; simp [mNwI, mSwI, mKwI, mIwI, mJwI, mRwI, mLwI, mAIwI, mAJwI, mARwI, mNwJ, mSwJ, mKwJ, mIwJ, mJwJ, mRwJ, mLwJ, mAIwJ, mAJwJ, mARwJ, mNwR, mSwR, mKwR, mIwR, mJwR, mRwR, mLwR, mAIwR, mAJwR, mARwR, mNwAI, mSwAI, mKwAI, mIwAI, mJwAI, mRwAI, mLwAI, mAIwAI, mAJwAI, mARwAI, mNwAJ, mSwAJ, mKwAJ, mIwAJ, mJwAJ, mRwAJ, mLwAJ, mAIwAJ, mAJwAJ, mARwAJ, mNwAR, mSwAR, mKwAR, mIwAR, mJwAR, mRwAR, mLwAR, mAIwAR, mAJwAR, mARwAR, okkwI, okkwJ, okkwR, okkwAI, okkwAJ, okkwAR]
                · rw [e6, e5, e4]; rfl
              obtain ⟨f1, f2, f3, f4, f5, f6, f7, f8, f9, f10⟩ := id R6
              have hm := bt_mono (i := r.1) hz (by rw [k16]; decide)
              refine G_take (h := h + 2) (pr := pr) (o := o + k) f1 ⟨f2.1, f2.2.1, hs2⟩ f3 f4.1 f5 f6 f7 f8 f9 ⟨⟨by omega, by omega⟩, by omega, f10.2.2.1, by omega, f10.2.2.2.2⟩ hB (fun k2 M7 R7 F7 _ => ⟨rfl, ?_⟩) (fun k2 M7 R7 F7 _ => ⟨rfl, ?_⟩)
              · rw [adv_ok' k2] at hE
                exact G_nots (h := h + 2) hz ht h100 R7 (fun M' R' F' _ => ⟨rfl, hE M' R' (((((F1.tr F2).tr F3).tr fr6).tr F7).tr F')⟩)
              · rw [adv_er' k2] at hE
                refine G_nots (h := h + 2) hz ht h100 R7 (fun M' R' F' _ => ⟨rfl, ?_⟩)
                have T' := R'.x (by decide)
                exact YL T' (hE M' T' (((((F1.tr F2).tr F3).tr fr6).tr F7).tr F'))
        · rw [if_neg (by omega : ¬ o + k = 15), adv_er' k1] at hE
          exact YL T1 (hE M1 T1 F1)
        · rw [if_pos ho] at hE
          exact YL T1 (hE M1 T1 F1)
      rw [if_neg n15] at hE
      refine K_key tk (j := 32) (k := 62) (by decide) rfl rfl (fun k62 _ => ⟨_, rfl, fun z => absurd z (by decide), fun _ => ?_⟩) (fun n62 _ => ⟨_, rfl, fun _ => ?_, fun z => absurd rfl z⟩)
      · rw [if_pos k62] at hE
        have hs := hS.lt hi.2.2 h0 (by rw [k62]; decide)
        obtain ⟨f1, f2, f3, f4, f5, f6, f7, f8, f9, f10⟩ := id hR
        have hm := bt_mono (i := i) hz (by rw [k62]; decide)
        refine G_take (h := h + 2) (pr := pr) (o := o + k) f1 ⟨f2.1, f2.2.1, hs⟩ f3 f4.1 f5 f6 f7 f8 f9 ⟨⟨by omega, by omega⟩, by omega, f10.2.2.1, by omega, f10.2.2.2.2⟩ hB (fun k1 M1 R1 F1 _ => ⟨rfl, fun z => absurd R1.2.2.2.1.1 z, fun _ => ?_⟩) (fun k1 M1 R1 F1 _ => ⟨rfl, fun _ => ?_, fun z => ?_⟩)
        · rw [adv_ok' k1] at hE
          have hE : EndC b n s m sN ro mx vN M o k pr σ0 ν (fun M' => T (h + 5) mdX11_readCond 19 [(0, .ref 29), (1, .int 0), (2, .int 1)] [] M' Q) (fun M' => Q (some (.int 0)) M') (rc0 b n sN 1 (i + 1) Y) := hE
          refine G_operand (h := h) (p := 1) hz R1 hB hS k1 ht h100 (by decide) ?_
          generalize rc0 b n sN 1 (i + 1) Y = R at hE
          cases R with
          | error e => exact fun M' T' F' _ => ⟨rfl, YL T' (hE M' T' (F1.tr F'))⟩
          | ok r => exact fun M' R' F' _ => ⟨rfl, hE M' R' (F1.tr F')⟩
        · rw [adv_er' k1] at hE
          exact YL (R1.x (by decide)) (hE M1 (R1.x (by decide)) F1)
        · rw [R1.2.2.2.1.1] at z
          exact absurd z (by show ¬ (1 : Int32) = 0; decide)
      · rw [if_neg n62] at hE
        refine G_operand (h := h) (p := 0) hz hR hB hS h0 ht h100 (by decide) ?_
        generalize rc0 b n sN 0 i Y = R at hE
        cases R with
        | error e => exact fun M' T' F' _ => ⟨rfl, YL T' (hE M' T' F')⟩
        | ok r => exact fun M' R' F' _ => ⟨rfl, hE M' R' F'⟩
    · intro M i o pr σ0 ν Y hg h0 ht h100 hR hE
      have hi := hR.2.1
      unfold rc at hE
      rw [if_neg (by decide), if_pos rfl] at hE
      refine ih0 M i o 0 pr σ0 ν Y (by omega) h0 (top_imp ht (fun x q => q.1)) h100 (by simpa using hR) ?_
      rw [Nat.add_zero]
      have hok := rc_ok (sN := sN) hS g 0 i o Y (by decide) hi.2.2 h0
      generalize rc b n sN g 0 i o Y = R at hE hok
      cases R with
      | error e => exact fun M' T' F' => hE M' T' F'
      | ok r =>
        intro M2 R2 F2
        obtain ⟨a1, a2, a3, -, a5⟩ := hok
        exact ih2 M2 r.1 o pr σ0 ν [] (r.2.length - 1) r.2 (by have := (a5 (by decide)).1; omega) a3 ht h100 (fun e he => absurd he List.not_mem_nil) R2 rfl (EndD.fr hE F2)
    · intro M i o pr σ0 ν π r Y hg h0 ht h100 hπ hR ej hE
      have hi := hR.2.1
      unfold rc at hE
      rw [if_neg (by decide), if_neg (by decide), if_pos rfl] at hE
      by_cases hk : tK b n i = 59
      · rw [if_pos hk] at hE
        have hs := hS.lt hi.2.2 h0 (by rw [hk]; decide)
        refine G_atOp (L := 3) hz hB hs (Or.inl ⟨rfl, hk⟩) (top_imp ht (fun x q => q.2)) hπ h100 hR (fun k1 M1 R1 F1 => ?_) (fun k1 M1 T1 F1 => ?_)
        · rw [adv_ok' k1] at hE
          have hE : EndD 3 b n s m sN ro mx vN M o pr σ0 ν (fun M' => T (h + 5) mdX11_readCond 19 [(0, .ref 29), (1, .int 0), (2, .int 1)] [] M' Q) (fun M' => Q (some (.int 0)) M') ((rc b n sN g 0 (i + 1) o (jc π r Y).2).bind fun r' => rc b n sN g 2 r'.1 o (r'.2 ++ [(3, (jc π r Y).2.length - 1, r'.2.length - 1)])) := hE
          rw [← ej] at hE
          generalize jc π r Y = J at hE R1
          refine ih0 M1 (i + 1) o 0 pr (3 :: σ0) (J.1 :: ν) J.2 (by omega) k1 (top_cons (by decide)) (fun x hx => ?_) R1 ?_
          · rcases List.mem_cons.mp hx with z | z
            · omega
            · exact h100 x z
          rw [Nat.add_zero]
          have hok := rc_ok (sN := sN) hS g 0 (i + 1) o J.2 (by decide) hs k1
          generalize rc b n sN g 0 (i + 1) o J.2 = R at hE hok
          cases R with
          | error e => exact fun M' T' F' => hE M' T' (F1.tr F')
          | ok r2 =>
            intro M2 R2 F2
            obtain ⟨a1, a2, a3, -, a5⟩ := hok
            refine ih2 M2 r2.1 o pr σ0 ν [(3, J.1)] (r2.2.length - 1) r2.2 (by omega) a3 ht h100 (fun e he => ?_) R2 ?_ ?_
            · rw [List.mem_singleton.mp he]; exact ⟨Nat.le_refl _, Nat.le_refl _⟩
            · show r2.2.length = (r2.2 ++ [_]).length - 1
              rw [List.length_append]; rfl
            · exact EndD.fr (M := M) hE (F1.tr F2)
        · rw [adv_er' k1] at hE
          exact YL T1 (hE M1 T1 F1)
      · rw [if_neg hk] at hE
        exact hE M π r Y hπ hR (Prod.ext ej rfl) ⟨hk, fun z => absurd z (by decide)⟩ RFc.rf
    · intro M i o pr σ0 ν Y hg h0 ht h100 hR hE
      have hi := hR.2.1
      unfold rc at hE
      rw [if_neg (by decide), if_neg (by decide), if_neg (by decide), if_pos rfl] at hE
      refine ih1 M i o pr σ0 ν Y (by omega) h0 (top_imp ht (fun x q => ⟨q.1, by omega⟩)) h100 hR ?_
      have hok := rc_ok (sN := sN) hS g 1 i o Y (by decide) hi.2.2 h0
      generalize rc b n sN g 1 i o Y = R at hE hok
      cases R with
      | error e => exact fun M' T' F' => hE M' T' F'
      | ok r =>
        intro M2 π r' Y' hπ R2 ej hst F2
        obtain ⟨a1, a2, a3, -, a5⟩ := hok
        have e1 : (jc π r' Y').2 = r.2 := by rw [ej]
        refine ih4 M2 r.1 o pr σ0 ν π r' Y' (by have := (a5 (by decide)).1; omega) a3 hst.1 ht h100 (fun e he => ⟨(hπ e he).1, by have := (hπ e he).2; omega⟩) R2 (by rw [ej]) ?_
        rw [e1]
        exact EndD.fr hE F2
    · intro M i o pr σ0 ν π r Y hg h0 hnt ht h100 hπ hR ej hE
      have hi := hR.2.1
      unfold rc at hE
      rw [if_neg (by decide), if_neg (by decide), if_neg (by decide), if_neg (by decide)] at hE
      by_cases hk : tK b n i = 60
      · rw [if_pos hk] at hE
        have hs := hS.lt hi.2.2 h0 (by rw [hk]; decide)
        refine G_atOp (L := 4) hz hB hs (Or.inr ⟨rfl, hk⟩) (top_imp ht (fun x q => q.2)) hπ h100 hR (fun k1 M1 R1 F1 => ?_) (fun k1 M1 T1 F1 => ?_)
        · rw [adv_ok' k1] at hE
          have hE : EndD 4 b n s m sN ro mx vN M o pr σ0 ν (fun M' => T (h + 5) mdX11_readCond 19 [(0, .ref 29), (1, .int 0), (2, .int 1)] [] M' Q) (fun M' => Q (some (.int 0)) M') ((rc b n sN g 1 (i + 1) o (jc π r Y).2).bind fun r' => rc b n sN g 4 r'.1 o (r'.2 ++ [(4, (jc π r Y).2.length - 1, r'.2.length - 1)])) := hE
          rw [← ej] at hE
          generalize jc π r Y = J at hE R1
          refine ih1 M1 (i + 1) o pr (4 :: σ0) (J.1 :: ν) J.2 (by omega) k1 (top_cons (by decide)) (fun x hx => ?_) R1 ?_
          · rcases List.mem_cons.mp hx with z | z
            · omega
            · exact h100 x z
          have hok := rc_ok (sN := sN) hS g 1 (i + 1) o J.2 (by decide) hs k1
          generalize rc b n sN g 1 (i + 1) o J.2 = R at hE hok
          cases R with
          | error e => exact fun M' T' F' => hE M' T' (F1.tr F')
          | ok r2 =>
            intro M2 π2 r' Y' hπ2 R2 ej2 hst F2
            obtain ⟨a1, a2, a3, -, a5⟩ := hok
            have ea : jc (π2 ++ [(4, J.1)]) r' Y' = (r2.2.length, r2.2 ++ [(4, J.1, r2.2.length - 1)]) := by rw [jc_app, ej2]
            have m1 : (π2 ++ [(4, J.1)]).map Prod.fst ++ σ0 = π2.map Prod.fst ++ 4 :: σ0 := by simp
            have m2 : (π2 ++ [(4, J.1)]).map Prod.snd ++ ν = π2.map Prod.snd ++ J.1 :: ν := by simp
            refine ih4 M2 r2.1 o pr σ0 ν (π2 ++ [(4, J.1)]) r' Y' (by omega) a3 hst.1 ht h100 (fun e he => ?_) (by rw [m1, m2]; exact R2) ?_ ?_
            · rcases List.mem_append.mp he with z | z
              · exact ⟨(hπ2 e z).1, by have := (hπ2 e z).2; omega⟩
              · rw [List.mem_singleton.mp z]; exact ⟨by show 3 ≤ 4; decide, by show 4 ≤ 4; decide⟩
            · rw [ea]
              show r2.2.length = (r2.2 ++ [_]).length - 1
              rw [List.length_append]; rfl
            · rw [ea]
              exact EndD.fr (M := M) hE (F1.tr F2)
        · rw [adv_er' k1] at hE
          exact YL T1 (hE M1 T1 F1)
      · rw [if_neg hk] at hE
        exact hE M π r Y hπ hR (Prod.ext ej rfl) ⟨hnt, fun _ => hk⟩ RFc.rf
/-- the reference between its readings, by its conditions -/
def BC (b : Nat → Int32) (n s m : Nat) (sN : List Int64) (ro mx : List Int32) (vN : List Int64) (M : Mem) (i o : Nat) (Y : List Cd) : Prop := CoR b n s m sN ro mx vN M ∧ (n ≤ 800 ∧ s ≤ n ∧ i ≤ s) ∧ mI M 29 5 = Int32.ofNat i ∧ mI M 29 6 = 0 ∧ mI M 29 33 = Int32.ofNat o ∧ YR sN.length M m Y ∧ (2 * Y.length ≤ bt b n i ∧ o ≤ 15)
def EndB (b : Nat → Int32) (n s m : Nat) (sN : List Int64) (ro mx : List Int32) (vN : List Int64) (M : Mem) (o : Nat) (Q : Option Value → Mem → Prop) (R : Except (Int32 × Nat) (Nat × List Cd)) : Prop := match R with
  | .ok r => ∀ M', BC b n s m sN ro mx vN M' r.1 o r.2 → RFc m M M' → Q (some (.int (Int32.ofNat (410 * m + (r.2.length - 1))))) M'
  | .error e => ∀ M', TXr M' e.1 e.2 → RFc m M M' → Q (some (.int 0)) M'
theorem SC.br {M : Mem} {i o pr : Nat} {σ ν : List Nat} {Y : List Cd} (h : SC b n s m sN ro mx vN (0, 0) M i o pr σ ν Y) : BC b n s m sN ro mx vN M i o Y := by
  obtain ⟨h1, h2, h3, h4, h5, h6, h7, h8, h9, h10⟩ := h
  exact ⟨h1, h2, h3, h4.1, h5, h9, by omega, h10.2.2.1⟩
theorem G_readCond {M : Mem} {i o : Nat} {Y : List Cd} {g : Nat} (hz : ∀ i, n ≤ i → b i = 0) (hB : By b) (hS : Sto b n s) (hR : BC b n s m sN ro mx vN M i o Y) (h0 : tK b n i ≠ 0) (hg : 6 * (s + 1 - i) + 3 ≤ g) (hE : EndB b n s m sN ro mx vN M o Q (rc b n sN g 3 i o Y)) : E (h + 5) mdX11_readCond [.ref 29] M Q := by
  obtain ⟨h1, h2, h3, h4, h5, h6, h7⟩ := hR
  have F := h1.1
  refine KX11_readCond ?_
  unfold DX11_readCond_0
  refine ⟨ok29 F, fun M2 e2 M3 e3 M4 e4 => ?_⟩
  have fr : RFc m M M4 := by rw [e4, e3, e2]; exact ((RFc.i (by decide)).tr (RFc.i (by decide))).tr (RFc.i (by decide))
  have w0 : wt [] = 0 := rfl
  have R4 : SC b n s m sN ro mx vN (0, 0) M4 i o 0 [] [] Y := by
    refine ⟨h1.frc fr, h2, by rw [e4, e3, e2]; simp [h3, mNwI, mSwI, mKwI, mIwI, mJwI, mRwI, mLwI, mAIwI, mAJwI, mARwI, mNwJ, mSwJ, mKwJ, mIwJ, mJwJ, mRwJ, mLwJ, mAIwJ, mAJwJ, mARwJ, mNwR, mSwR, mKwR, mIwR, mJwR, mRwR, mLwR, mAIwR, mAJwR, mARwR, mNwAI, mSwAI, mKwAI, mIwAI, mJwAI, mRwAI, mLwAI, mAIwAI, mAJwAI, mARwAI, mNwAJ, mSwAJ, mKwAJ, mIwAJ, mJwAJ, mRwAJ, mLwAJ, mAIwAJ, mAJwAJ, mARwAJ, mNwAR, mSwAR, mKwAR, mIwAR, mJwAR, mRwAR, mLwAR, mAIwAR, mAJwAR, mARwAR, okkwI, okkwJ, okkwR, okkwAI, okkwAJ, okkwAR], ⟨by rw [e4, e3, e2]; simp [h4, mNwI, mSwI, mKwI, mIwI, mJwI, mRwI, mLwI, mAIwI, mAJwI, mARwI, mNwJ, mSwJ, mKwJ, mIwJ, mJwJ, mRwJ, mLwJ, mAIwJ, mAJwJ, mARwJ, mNwR, mSwR, mKwR, mIwR, mJwR, mRwR, mLwR, mAIwR, mAJwR, mARwR, mNwAI, mSwAI, mKwAI, mIwAI, mJwAI, mRwAI, mLwAI, mAIwAI, mAJwAI, mARwAI, mNwAJ, mSwAJ, mKwAJ, mIwAJ, mJwAJ, mRwAJ, mLwAJ, mAIwAJ, mAJwAJ, mARwAJ, mNwAR, mSwAR, mKwAR, mIwAR, mJwAR, mRwAR, mLwAR, mAIwAR, mAJwAR, mARwAR, okkwI, okkwJ, okkwR, okkwAI, okkwAJ, okkwAR], Or.inl rfl⟩, by rw [e4, e3, e2]; simp [h5, mNwI, mSwI, mKwI, mIwI, mJwI, mRwI, mLwI, mAIwI, mAJwI, mARwI, mNwJ, mSwJ, mKwJ, mIwJ, mJwJ, mRwJ, mLwJ, mAIwJ, mAJwJ, mARwJ, mNwR, mSwR, mKwR, mIwR, mJwR, mRwR, mLwR, mAIwR, mAJwR, mARwR, mNwAI, mSwAI, mKwAI, mIwAI, mJwAI, mRwAI, mLwAI, mAIwAI, mAJwAI, mARwAI, mNwAJ, mSwAJ, mKwAJ, mIwAJ, mJwAJ, mRwAJ, mLwAJ, mAIwAJ, mAJwAJ, mARwAJ, mNwAR, mSwAR, mKwAR, mIwAR, mJwAR, mRwAR, mLwAR, mAIwAR, mAJwAR, mARwAR, okkwI, okkwJ, okkwR, okkwAI, okkwAJ, okkwAR], by rw [e4, e3, e2]; simp [mNwI, mSwI, mKwI, mIwI, mJwI, mRwI, mLwI, mAIwI, mAJwI, mARwI, mNwJ, mSwJ, mKwJ, mIwJ, mJwJ, mRwJ, mLwJ, mAIwJ, mAJwJ, mARwJ, mNwR, mSwR, mKwR, mIwR, mJwR, mRwR, mLwR, mAIwR, mAJwR, mARwR, mNwAI, mSwAI, mKwAI, mIwAI, mJwAI, mRwAI, mLwAI, mAIwAI, mAJwAI, mARwAI, mNwAJ, mSwAJ, mKwAJ, mIwAJ, mJwAJ, mRwAJ, mLwAJ, mAIwAJ, mAJwAJ, mARwAJ, mNwAR, mSwAR, mKwAR, mIwAR, mJwAR, mRwAR, mLwAR, mAIwAR, mAJwAR, mARwAR, okkwI, okkwJ, okkwR, okkwAI, okkwAJ, okkwAR], ⟨by rw [e4, e3, e2]; simp [mNwI, mSwI, mKwI, mIwI, mJwI, mRwI, mLwI, mAIwI, mAJwI, mARwI, mNwJ, mSwJ, mKwJ, mIwJ, mJwJ, mRwJ, mLwJ, mAIwJ, mAJwJ, mARwJ, mNwR, mSwR, mKwR, mIwR, mJwR, mRwR, mLwR, mAIwR, mAJwR, mARwR, mNwAI, mSwAI, mKwAI, mIwAI, mJwAI, mRwAI, mLwAI, mAIwAI, mAJwAI, mARwAI, mNwAJ, mSwAJ, mKwAJ, mIwAJ, mJwAJ, mRwAJ, mLwAJ, mAIwAJ, mAJwAJ, mARwAJ, mNwAR, mSwAR, mKwAR, mIwAR, mJwAR, mRwAR, mLwAR, mAIwAR, mAJwAR, mARwAR, okkwI, okkwJ, okkwR, okkwAI, okkwAJ, okkwAR], fun j hj => absurd hj (Nat.not_lt_zero _)⟩, ⟨by rw [e4, e3, e2]; simp [mNwI, mSwI, mKwI, mIwI, mJwI, mRwI, mLwI, mAIwI, mAJwI, mARwI, mNwJ, mSwJ, mKwJ, mIwJ, mJwJ, mRwJ, mLwJ, mAIwJ, mAJwJ, mARwJ, mNwR, mSwR, mKwR, mIwR, mJwR, mRwR, mLwR, mAIwR, mAJwR, mARwR, mNwAI, mSwAI, mKwAI, mIwAI, mJwAI, mRwAI, mLwAI, mAIwAI, mAJwAI, mARwAI, mNwAJ, mSwAJ, mKwAJ, mIwAJ, mJwAJ, mRwAJ, mLwAJ, mAIwAJ, mAJwAJ, mARwAJ, mNwAR, mSwAR, mKwAR, mIwAR, mJwAR, mRwAR, mLwAR, mAIwAR, mAJwAR, mARwAR, okkwI, okkwJ, okkwR, okkwAI, okkwAJ, okkwAR], fun j hj => absurd hj (Nat.not_lt_zero _)⟩, h6.fr (by rw [e4, e3, e2]; rfl) (by rw [e4, e3, e2]; rfl) (by rw [e4, e3, e2]; rfl) (by rw [e4, e3, e2]; rfl) (by rw [e4, e3, e2]; rfl), ⟨by rw [w0]; omega, Nat.zero_le _⟩, Nat.zero_le _, h7.2, Nat.zero_le _, fun x hx => absurd hx List.not_mem_nil⟩
  refine (G_rc (h := h) hz hB hS g).2.2.2.1 M4 i o 0 [] [] Y hg h0 trivial (fun x hx => absurd hx List.not_mem_nil) R4 ?_
  have hok := rc_ok (sN := sN) hS g 3 i o Y (by decide) h2.2.2 h0
  generalize rc b n sN g 3 i o Y = R at hE hok
  cases R with
  | error e => exact fun M' T' F' => hE M' T' (fr.tr F')
  | ok r =>
    intro M5 π r' Y' hπ R5 ej hst F5
    refine G_noOp hB R5 ⟨hst.1, hst.2 rfl⟩ (fun _ => ?_) (fun z => absurd rfl z)
    have FF := R5.1.1
    have h6 : mI M5 29 6 = 0 := R5.2.2.2.1.1
    have h32 : mI M5 29 32 = Int32.ofNat 0 := R5.2.2.2.2.2.1
    refine VX11_readCond_19 ?_
    unfold DX11_readCond_19 DX11_readCond_264 DX11_readCond_292
    refine ⟨fun _ => ⟨ok29 FF, fun z => absurd h6 z, fun _ => ⟨fun _ => ⟨ok29 FF, fun _ => ?_, fun z => absurd (by rw [h6]; decide) z⟩, fun z => absurd (by rw [h32]; decide) z⟩⟩, fun z => absurd rfl z⟩
    refine G_join (h := h + 1) (L := 4) hz (Or.inr rfl) (σb := []) trivial hπ (fun x hx => absurd hx List.not_mem_nil) R5 (fun M6 R6 F6 _ => ⟨rfl, 53, rf29_30 R6.1.1, ok53 R6.1.1, by rw [ln53 R6.1.1]; exact vp_of (n := 0) (by decide) (by decide), ?_⟩)
    rw [ej] at R6
    dsimp only at R6
    have tp : mAI M6 53 0 = Int32.ofNat (410 * m + (r.2.length - 1)) := R6.2.2.2.2.2.2.2.1.top
    have e0 : (0 : Int32).toNatClampNeg = 0 := by decide
    rw [e0, tp]
    exact hE M6 R6.br ((fr.tr F5).tr F6)
end
