section
/-! the reference reads a sum: all of it -/
section
variable {b : Nat → Int32} {n s m : Nat} {sN : List Int64} {ro mx : List Int32} {vN : List Int64} {h : Nat} {Q : Option Value → Mem → Prop}
theorem adv_ok' {b : Nat → Int32} {n i : Nat} (k : tK b n (i + 1) ≠ 0) : adv' b n i = .ok (i + 1) := by unfold adv'; rw [if_neg k]
theorem adv_er' {b : Nat → Int32} {n i : Nat} (k : tK b n (i + 1) = 0) : adv' b n i = .error (1, tP b n (i + 1)) := by unfold adv'; rw [if_pos k]
theorem top_cons {x : Nat} {l : List Nat} {P : Nat → Prop} (h : P x) : top? (x :: l) P := h
theorem top_imp {l : List Nat} {P R : Nat → Prop} (h : top? l P) (k : ∀ x, P x → R x) : top? l R := by
  cases l with
  | nil => trivial
  | cons x l => exact k x h
theorem B_rd (hB : By b) (hS : Sto b n s) : ∀ (g : Nat),
    (∀ (M : Mem) (i o k pr : Nat) (σ0 ν : List Nat) (X : List Nd) (u : Int32), 6 * (s + 1 - i) ≤ g → tK b n i ≠ 0 → top? σ0 (fun x => x ≠ 3) → (∀ x ∈ σ0, x < 100) → SR b n s m sN ro mx vN (0, 0) M i (o + k) pr (List.replicate k 3 ++ σ0) ν X → EndO b n s m sN ro mx vN M o k pr σ0 ν (fun M' => T (h + 5) mdX11_readSum 19 [(0, .ref 29), (1, .int 0), (2, .int 1)] [] M' Q) (fun M' => Q (some (.int 0)) M') (rd b n sN mx vN g 0 i (o + k) X u) → T (h + 5) mdX11_readSum 19 [(0, .ref 29), (1, .int 1), (2, .int 1)] [] M Q) ∧
    (∀ (M : Mem) (i o pr : Nat) (σ0 ν : List Nat) (X : List Nd) (u : Int32), 6 * (s + 1 - i) + 1 ≤ g → tK b n i ≠ 0 → top? σ0 (fun x => x ≠ 3 ∧ (x < 4 ∨ 6 < x)) → (∀ x ∈ σ0, x < 100) → SR b n s m sN ro mx vN (0, 0) M i o pr σ0 ν X → EndJ 6 b n s m sN ro mx vN M o pr σ0 ν (fun M' => T (h + 5) mdX11_readSum 19 [(0, .ref 29), (1, .int 0), (2, .int 1)] [] M' Q) (fun M' => Q (some (.int 0)) M') (rd b n sN mx vN g 1 i o X u) → T (h + 5) mdX11_readSum 19 [(0, .ref 29), (1, .int 1), (2, .int 1)] [] M Q) ∧
    (∀ (M : Mem) (i o pr : Nat) (σ0 ν : List Nat) (π : List (Nat × Nat)) (r : Nat) (X : List Nd) (u : Int32), 6 * (s + 1 - i) + 2 ≤ g → tK b n i ≠ 0 → top? σ0 (fun x => x ≠ 3 ∧ (x < 4 ∨ 6 < x)) → (∀ x ∈ σ0, x < 100) → (∀ e ∈ π, 4 ≤ e.1 ∧ e.1 ≤ 6) → SR b n s m sN ro mx vN (0, 0) M i o pr (π.map Prod.fst ++ σ0) (r :: (π.map Prod.snd ++ ν)) X → (jf π r X).1 = (jf π r X).2.length - 1 → EndJ 6 b n s m sN ro mx vN M o pr σ0 ν (fun M' => T (h + 5) mdX11_readSum 19 [(0, .ref 29), (1, .int 0), (2, .int 1)] [] M' Q) (fun M' => Q (some (.int 0)) M') (rd b n sN mx vN g 2 i o (jf π r X).2 u) → T (h + 5) mdX11_readSum 19 [(0, .ref 29), (1, .int 0), (2, .int 1)] [] M Q) ∧
    (∀ (M : Mem) (i o pr : Nat) (σ0 ν : List Nat) (X : List Nd) (u : Int32), 6 * (s + 1 - i) + 3 ≤ g → tK b n i ≠ 0 → top? σ0 (fun x => x ≠ 3 ∧ (x < 4 ∨ 8 < x)) → (∀ x ∈ σ0, x < 100) → SR b n s m sN ro mx vN (0, 0) M i o pr σ0 ν X → EndJ 8 b n s m sN ro mx vN M o pr σ0 ν (fun M' => T (h + 5) mdX11_readSum 19 [(0, .ref 29), (1, .int 0), (2, .int 1)] [] M' Q) (fun M' => Q (some (.int 0)) M') (rd b n sN mx vN g 3 i o X u) → T (h + 5) mdX11_readSum 19 [(0, .ref 29), (1, .int 1), (2, .int 1)] [] M Q) ∧
    (∀ (M : Mem) (i o pr : Nat) (σ0 ν : List Nat) (π : List (Nat × Nat)) (r : Nat) (X : List Nd) (u : Int32), 6 * (s + 1 - i) + 4 ≤ g → tK b n i ≠ 0 → tK b n i ≠ 22 ∧ tK b n i ≠ 23 ∧ tK b n i ≠ 24 → top? σ0 (fun x => x ≠ 3 ∧ (x < 4 ∨ 8 < x)) → (∀ x ∈ σ0, x < 100) → (∀ e ∈ π, 4 ≤ e.1 ∧ e.1 ≤ 8) → SR b n s m sN ro mx vN (0, 0) M i o pr (π.map Prod.fst ++ σ0) (r :: (π.map Prod.snd ++ ν)) X → (jf π r X).1 = (jf π r X).2.length - 1 → EndJ 8 b n s m sN ro mx vN M o pr σ0 ν (fun M' => T (h + 5) mdX11_readSum 19 [(0, .ref 29), (1, .int 0), (2, .int 1)] [] M' Q) (fun M' => Q (some (.int 0)) M') (rd b n sN mx vN g 4 i o (jf π r X).2 u) → T (h + 5) mdX11_readSum 19 [(0, .ref 29), (1, .int 0), (2, .int 1)] [] M Q) := by
  intro g
  induction g with
  | zero =>
    refine ⟨?_, ?_, ?_, ?_, ?_⟩
    · intro M i o k pr σ0 ν X u hg _ _ _ hR _; have := hR.2.1; omega
    · intro M i o pr σ0 ν X u hg _ _ _ hR _; have := hR.2.1; omega
    · intro M i o pr σ0 ν π r X u hg _ _ _ _ hR _ _; have := hR.2.1; omega
    · intro M i o pr σ0 ν X u hg _ _ _ hR _; have := hR.2.1; omega
    · intro M i o pr σ0 ν π r X u hg _ _ _ _ _ hR _ _; have := hR.2.1; omega
  | succ g ih =>
    obtain ⟨ih0, ih1, ih2, ih3, ih4⟩ := ih
    refine ⟨?_, ?_, ?_, ?_, ?_⟩
    · -- an operand
      intro M i o k pr σ0 ν X u hg h0 ht h100 hR hE
      have F := hR.1.1
      have hi := hR.2.1
      have h6 : mI M 29 6 = 0 := hR.2.2.2.1.1
      refine VX11_readSum_19 ?_
      unfold DX11_readSum_19
      refine ⟨fun z => absurd z (by decide), fun _ => ⟨ok29 F, fun z => absurd h6 z, fun _ => ⟨fun z => absurd z (by decide), fun _ => ?_⟩⟩⟩
      refine B_said hR hB (k := 21) (by decide) rfl (fun _ => ⟨_, rfl, fun q => ?_, fun q => ?_⟩)
      · have n21 : tK b n i ≠ 21 := by intro z; rw [if_pos z] at q; exact absurd q (by decide)
        refine B_said hR hB (k := 15) (by decide) rfl (fun _ => ⟨_, rfl, fun q => ?_, fun q => ?_⟩)
        · have n15 : tK b n i ≠ 15 := by intro z; rw [if_pos z] at q; exact absurd q (by decide)
          refine B_readOperand (h := h) hR hB hS h0 ht h100 n21 n15 (g := g) (u := u) ?_
          generalize rd b n sN mx vN (g + 1) 0 i (o + k) X u = R at hE
          cases R with
          | error e => exact fun M' T' F' _ => ⟨rfl, XL T' (hE M' T' F')⟩
          | ok r => exact fun M' R' F' _ => ⟨rfl, hE M' R' F'⟩
        · have k15 : tK b n i = 15 := by
            by_cases z : tK b n i = 15
            · exact z
            · rw [if_neg z] at q; exact absurd rfl q
          have hs := hS.lt hi.2.2 h0 (by rw [k15]; decide)
          unfold rd at hE
          rw [if_pos rfl, if_neg (by rw [k15]; decide), if_neg (by rw [k15]; decide), if_neg (by rw [k15]; decide), if_neg (by rw [k15]; decide), if_pos k15] at hE
          refine B_opening (h := h + 1) (op := 9) hR hB hs (Or.inr rfl) (fun ho k1 M1 R1 F1 _ => ⟨rfl, ?_⟩) (fun ho k1 M1 T1 F1 _ => ⟨rfl, ?_⟩) (fun ho M1 T1 F1 _ => ⟨rfl, ?_⟩)
          · rw [if_neg (by omega : ¬ o + k = 15), adv_ok' k1] at hE
            have hE : EndO b n s m sN ro mx vN M o k pr σ0 ν (fun M' => T (h + 5) mdX11_readSum 19 [(0, .ref 29), (1, .int 0), (2, .int 1)] [] M' Q) (fun M' => Q (some (.int 0)) M') ((rd b n sN mx vN g 3 (i + 1) (o + k + 1) X u).bind fun r => if tK b n r.1 = 16 then (adv' b n r.1).bind fun j' => .ok (j', r.2) else .error (2, tP b n r.1)) := hE
            rw [if_pos rfl] at R1
            have h101 : ∀ x ∈ 9 :: (List.replicate k 3 ++ σ0), x < 100 := by
              intro x hx
              rcases List.mem_cons.mp hx with z | z
              · omega
              · rcases List.mem_append.mp z with z | z
                · have := List.eq_of_mem_replicate z; omega
                · exact h100 x z
            refine ih3 M1 (i + 1) (o + k + 1) (pr + 1) (9 :: (List.replicate k 3 ++ σ0)) ν X u (by omega) k1 (top_cons ⟨by decide, Or.inr (by decide)⟩) h101 R1 ?_
            have hok := rd_ok (sN := sN) (mx := mx) (vN := vN) hS g 3 (i + 1) (o + k + 1) X u (by decide) hs k1
            generalize rd b n sN mx vN g 3 (i + 1) (o + k + 1) X u = R at hE hok
            cases R with
            | error e => exact fun M' T' F' => hE M' T' (F1.tr F')
            | ok r =>
              intro M2 π r' X' hπ R2 ej hst F2
              have hE : EndO b n s m sN ro mx vN M o k pr σ0 ν (fun M' => T (h + 5) mdX11_readSum 19 [(0, .ref 29), (1, .int 0), (2, .int 1)] [] M' Q) (fun M' => Q (some (.int 0)) M') (if tK b n r.1 = 16 then (adv' b n r.1).bind fun j' => .ok (j', r.2) else .error (2, tP b n r.1)) := hE
              obtain ⟨a1, a2, a3, -, -⟩ := hok
              have s8 := hst.2.2.2 rfl
              refine B_noOp hB R2 (by rintro (z | z | z | z | z) <;> first | exact s8.1 z | exact s8.2 z | exact hst.1 z | exact hst.2.1 z | exact hst.2.2.1 z) (fun hend => ?_) (fun _ k16 => ?_)
              · have n16 : tK b n r.1 ≠ 16 := hend.resolve_left (by omega)
                rw [if_neg n16] at hE
                exact B_left R2 (by omega) (fun M' T' F' => hE M' T' ((F1.tr F2).tr F'))
              · rw [if_pos k16] at hE
                have hs2 := hS.lt a2 a3 (by rw [k16]; decide)
                refine B_join (h := h + 1) (L := 8) (Or.inr rfl) (top_cons (Or.inr (by decide))) hπ h101 R2 (fun M3 R3 F3 _ => ⟨rfl, fun M4 e4 M5 e5 M6 e6 => ?_⟩)
                rw [ej] at R3
                dsimp only at R3
                obtain ⟨g1, g2, g3, g4, g5, g6, g7, g8, g9, g10⟩ := id R3
                have hl9 : (9 :: (List.replicate k 3 ++ σ0)).length = (List.replicate k 3 ++ σ0).length + 1 := rfl
                have i3 : mI M3 29 29 = Int32.ofNat ((List.replicate k 3 ++ σ0).length + 1) := g7.1
                have hlb : (List.replicate k 3 ++ σ0).length + 1 ≤ r.1 := by have := g10.1; omega
                rw [i3, dec32 (by omega)] at e4
                have i4 : mI M4 29 32 = Int32.ofNat (pr + 1) := by rw [e4]; simp [g6, mNwI, mSwI, mKwI, mIwI, mJwI, mRwI, mLwI, mAIwI, mAJwI, mARwI, mNwJ, mSwJ, mKwJ, mIwJ, mJwJ, mRwJ, mLwJ, mAIwJ, mAJwJ, mARwJ, mNwR, mSwR, mKwR, mIwR, mJwR, mRwR, mLwR, mAIwR, mAJwR, mARwR, mNwAI, mSwAI, mKwAI, mIwAI, mJwAI, mRwAI, mLwAI, mAIwAI, mAJwAI, mARwAI, mNwAJ, mSwAJ, mKwAJ, mIwAJ, mJwAJ, mRwAJ, mLwAJ, mAIwAJ, mAJwAJ, mARwAJ, mNwAR, mSwAR, mKwAR, mIwAR, mJwAR, mRwAR, mLwAR, mAIwAR, mAJwAR, mARwAR, okkwI, okkwJ, okkwR, okkwAI, okkwAJ, okkwAR]
                have hpr := g10.2.2.2.1
                rw [i4, dec32 (by omega)] at e5
                have i5 : mI M5 29 33 = Int32.ofNat (o + k + 1) := by rw [e5, e4]; simp [g5, mNwI, mSwI, mKwI, mIwI, mJwI, mRwI, mLwI, mAIwI, mAJwI, mARwI, mNwJ, mSwJ, mKwJ, mIwJ, mJwJ, mRwJ, mLwJ, mAIwJ, mAJwJ, mARwJ, mNwR, mSwR, mKwR, mIwR, mJwR, mRwR, mLwR, mAIwR, mAJwR, mARwR, mNwAI, mSwAI, mKwAI, mIwAI, mJwAI, mRwAI, mLwAI, mAIwAI, mAJwAI, mARwAI, mNwAJ, mSwAJ, mKwAJ, mIwAJ, mJwAJ, mRwAJ, mLwAJ, mAIwAJ, mAJwAJ, mARwAJ, mNwAR, mSwAR, mKwAR, mIwAR, mJwAR, mRwAR, mLwAR, mAIwAR, mAJwAR, mARwAR, okkwI, okkwJ, okkwR, okkwAI, okkwAJ, okkwAR]
                have ho2 := g10.2.2.1
                rw [i5, dec32 (by omega)] at e6
                have fr6 : RFm m M3 M6 := by rw [e6, e5, e4]; exact ((RFm.i (by decide)).tr (RFm.i (by decide))).tr (RFm.i (by decide))
                have R6 : SR b n s m sN ro mx vN (0, 0) M6 r.1 (o + k) pr (List.replicate k 3 ++ σ0) ((r.2.1.length - 1) :: ν) r.2.1 := by
                  refine SR.opPop (M := M3) (x := 9) g1 g2 g3 g4 g7 g8 g9 ⟨by omega, g10.2.1, by omega, by omega, g10.2.2.2.2⟩ fr6 ?_ ?_ ?_ ?_ ?_ ?_ ?_ ?_ ?_
                  · rw [e6, e5, e4]; simp [mNwI, mSwI, mKwI, mIwI, mJwI, mRwI, mLwI, mAIwI, mAJwI, mARwI, mNwJ, mSwJ, mKwJ, mIwJ, mJwJ, mRwJ, mLwJ, mAIwJ, mAJwJ, mARwJ, mNwR, mSwR, mKwR, mIwR, mJwR, mRwR, mLwR, mAIwR, mAJwR, mARwR, mNwAI, mSwAI, mKwAI, mIwAI, mJwAI, mRwAI, mLwAI, mAIwAI, mAJwAI, mARwAI, mNwAJ, mSwAJ, mKwAJ, mIwAJ, mJwAJ, mRwAJ, mLwAJ, mAIwAJ, mAJwAJ, mARwAJ, mNwAR, mSwAR, mKwAR, mIwAR, mJwAR, mRwAR, mLwAR, mAIwAR, mAJwAR, mARwAR, okkwI, okkwJ, okkwR, okkwAI, okkwAJ, okkwAR]
                  · rw [e6, e5, e4]; simp [mNwI, mSwI, mKwI, mIwI, mJwI, mRwI, mLwI, mAIwI, mAJwI, mARwI, mNwJ, mSwJ, mKwJ, mIwJ, mJwJ, mRwJ, mLwJ, mAIwJ, mAJwJ, mARwJ, mNwR, mSwR, mKwR, mIwR, mJwR, mRwR, mLwR, mAIwR, mAJwR, mARwR, mNwAI, mSwAI, mKwAI, mIwAI, mJwAI, mRwAI, mLwAI, mAIwAI, mAJwAI, mARwAI, mNwAJ, mSwAJ, mKwAJ, mIwAJ, mJwAJ, mRwAJ, mLwAJ, mAIwAJ, mAJwAJ, mARwAJ, mNwAR, mSwAR, mKwAR, mIwAR, mJwAR, mRwAR, mLwAR, mAIwAR, mAJwAR, mARwAR, okkwI, okkwJ, okkwR, okkwAI, okkwAJ, okkwAR]
                  · rw [e6, e5, e4]; simp [mNwI, mSwI, mKwI, mIwI, mJwI, mRwI, mLwI, mAIwI, mAJwI, mARwI, mNwJ, mSwJ, mKwJ, mIwJ, mJwJ, mRwJ, mLwJ, mAIwJ, mAJwJ, mARwJ, mNwR, mSwR, mKwR, mIwR, mJwR, mRwR, mLwR, mAIwR, mAJwR, mARwR, mNwAI, mSwAI, mKwAI, mIwAI, mJwAI, mRwAI, mLwAI, mAIwAI, mAJwAI, mARwAI, mNwAJ, mSwAJ, mKwAJ, mIwAJ, mJwAJ, mRwAJ, mLwAJ, mAIwAJ, mAJwAJ, mARwAJ, mNwAR, mSwAR, mKwAR, mIwAR, mJwAR, mRwAR, mLwAR, mAIwAR, mAJwAR, mARwAR, okkwI, okkwJ, okkwR, okkwAI, okkwAJ, okkwAR]
                  · rw [e6, e5, e4]; simp [mNwI, mSwI, mKwI, mIwI, mJwI, mRwI, mLwI, mAIwI, mAJwI, mARwI, mNwJ, mSwJ, mKwJ, mIwJ, mJwJ, mRwJ, mLwJ, mAIwJ, mAJwJ, mARwJ, mNwR, mSwR, mKwR, mIwR, mJwR, mRwR, mLwR, mAIwR, mAJwR, mARwR, mNwAI, mSwAI, mKwAI, mIwAI, mJwAI, mRwAI, mLwAI, mAIwAI, mAJwAI, mARwAI, mNwAJ, mSwAJ, mKwAJ, mIwAJ, mJwAJ, mRwAJ, mLwAJ, mAIwAJ, mAJwAJ, mARwAJ, mNwAR, mSwAR, mKwAR, mIwAR, mJwAR, mRwAR, mLwAR, mAIwAR, mAJwAR, mARwAR, okkwI, okkwJ, okkwR, okkwAI, okkwAJ, okkwAR]
                  · rw [e6, e5, e4]; simp [mNwI, mSwI, mKwI, mIwI, mJwI, mRwI, mLwI, mAIwI, mAJwI, mARwI, mNwJ, mSwJ, mKwJ, mIwJ, mJwJ, mRwJ, mLwJ, mAIwJ, mAJwJ, mARwJ, mNwR, mSwR, mKwR, mIwR, mJwR, mRwR, mLwR, mAIwR, mAJwR, mARwR, mNwAI, mSwAI, mKwAI, mIwAI, mJwAI, mRwAI, mLwAI, mAIwAI, mAJwAI, mARwAI, mNwAJ, mSwAJ, mKwAJ, mIwAJ, mJwAJ, mRwAJ, mLwAJ, mAIwAJ, mAJwAJ, mARwAJ, mNwAR, mSwAR, mKwAR, mIwAR, mJwAR, mRwAR, mLwAR, mAIwAR, mAJwAR, mARwAR, okkwI, okkwJ, okkwR, okkwAI, okkwAJ, okkwAR]
                  · rw [e6, e5, e4]; simp [mNwI, mSwI, mKwI, mIwI, mJwI, mRwI, mLwI, mAIwI, mAJwI, mARwI, mNwJ, mSwJ, mKwJ, mIwJ, mJwJ, mRwJ, mLwJ, mAIwJ, mAJwJ, mARwJ, mNwR, mSwR, mKwR, mIwR, mJwR, mRwR, mLwR, mAIwR, mAJwR, mARwR, mNwAI, mSwAI, mKwAI, mIwAI, mJwAI, mRwAI, mLwAI, mAIwAI, mAJwAI, mARwAI, mNwAJ, mSwAJ, mKwAJ, mIwAJ, mJwAJ, mRwAJ, mLwAJ, mAIwAJ, mAJwAJ, mARwAJ, mNwAR, mSwAR, mKwAR, mIwAR, mJwAR, mRwAR, mLwAR, mAIwAR, mAJwAR, mARwAR, okkwI, okkwJ, okkwR, okkwAI, okkwAJ, okkwAR]
                  · rw [e6, e5, e4]; simp [mNwI, mSwI, mKwI, mIwI, mJwI, mRwI, mLwI, mAIwI, mAJwI, mARwI, mNwJ, mSwJ, mKwJ, mIwJ, mJwJ, mRwJ, mLwJ, mAIwJ, mAJwJ, mARwJ, mNwR, mSwR, mKwR, mIwR, mJwR, mRwR, mLwR, mAIwR, mAJwR, mARwR, mNwAI, mSwAI, mKwAI, mIwAI, mJwAI, mRwAI, mLwAI, mAIwAI, mAJwAI, mARwAI, mNwAJ, mSwAJ, mKwAJ, mIwAJ, mJwAJ, mRwAJ, mLwAJ, mAIwAJ, mAJwAJ, mARwAJ, mNwAR, mSwAR, mKwAR, mIwAR, mJwAR, mRwAR, mLwAR, mAIwAR, mAJwAR, mARwAR, okkwI, okkwJ, okkwR, okkwAI, okkwAJ, okkwAR]
                  · rw [e6, e5, e4]; rfl
                  · rw [e6, e5, e4]; rfl
                obtain ⟨f1, f2, f3, f4, f5, f6, f7, f8, f9, f10⟩ := id R6
                refine B_take (h := h + 2) (pr := pr) (o := o + k) f1 ⟨f2.1, f2.2.1, hs2⟩ f3 f4.1 f5 f6 f7 f8 f9 ⟨by omega, by omega, f10.2.2.1, by omega, f10.2.2.2.2⟩ hB (fun k2 M7 R7 F7 _ => ⟨rfl, ?_⟩) (fun k2 M7 R7 F7 _ => ⟨rfl, ?_⟩)
                · rw [adv_ok' k2] at hE
                  exact neg199 (h := h + 3) ht h100 k M7 (r.1 + 1) o (r.2.1.length - 1) r.2.1 R7 (fun M' R' F' => hE M' R' (((((F1.tr F2).tr F3).tr fr6).tr F7).tr F'))
                · rw [adv_er' k2] at hE
                  refine neg199 (h := h + 3) ht h100 k M7 (r.1 + 1) o (r.2.1.length - 1) r.2.1 R7 (fun M' R' F' => ?_)
                  have T' := R'.x (by decide)
                  exact XL T' (hE M' T' (((((F1.tr F2).tr F3).tr fr6).tr F7).tr F'))
          · rw [if_neg (by omega : ¬ o + k = 15), adv_er' k1] at hE
            exact XL T1 (hE M1 T1 F1)
          · rw [if_pos ho] at hE
            exact XL T1 (hE M1 T1 F1)
      · have k21 : tK b n i = 21 := by
          by_cases z : tK b n i = 21
          · exact z
          · rw [if_neg z] at q; exact absurd rfl q
        have hs := hS.lt hi.2.2 h0 (by rw [k21]; decide)
        unfold rd at hE
        rw [if_pos rfl, if_neg (by rw [k21]; decide), if_neg (by rw [k21]; decide), if_neg (by rw [k21]; decide), if_pos k21] at hE
        refine B_opening (h := h + 1) (op := 3) hR hB hs (Or.inl rfl) (fun ho k1 M1 R1 F1 _ => ⟨rfl, ?_⟩) (fun ho k1 M1 T1 F1 _ => ⟨rfl, ?_⟩) (fun ho M1 T1 F1 _ => ⟨rfl, ?_⟩)
        · rw [if_neg (by omega : ¬ o + k = 15), adv_ok' k1] at hE
          have hE : EndO b n s m sN ro mx vN M o k pr σ0 ν (fun M' => T (h + 5) mdX11_readSum 19 [(0, .ref 29), (1, .int 0), (2, .int 1)] [] M' Q) (fun M' => Q (some (.int 0)) M') ((rd b n sN mx vN g 0 (i + 1) (o + k + 1) X u).bind fun r => .ok (r.1, r.2.1 ++ [(3, Int64.ofNat (r.2.1.length - 1), 0)], r.2.2)) := hE
          rw [if_neg (by decide), Nat.add_zero] at R1
          refine ih0 M1 (i + 1) o (k + 1) pr σ0 ν X u (by omega) k1 ht h100 R1 ?_
          have e : o + (k + 1) = o + k + 1 := rfl
          rw [e]
          generalize rd b n sN mx vN g 0 (i + 1) (o + k + 1) X u = R at hE
          cases R with
          | error e => exact fun M' T' F' => hE M' T' (F1.tr F')
          | ok r =>
            intro M2 R2 F2
            refine hE M2 ?_ (F1.tr F2)
            have e2 : (r.2.1 ++ [(3, Int64.ofNat (r.2.1.length - 1), 0)] : List Nd).length - 1 = r.2.1.length := by rw [List.length_append]; rfl
            show SR b n s m sN ro mx vN (0, 0) M2 r.1 o pr σ0 ((ng k ((r.2.1 ++ [(3, Int64.ofNat (r.2.1.length - 1), 0)] : List Nd).length - 1) (r.2.1 ++ [(3, Int64.ofNat (r.2.1.length - 1), 0)])).1 :: ν) (ng k ((r.2.1 ++ [(3, Int64.ofNat (r.2.1.length - 1), 0)] : List Nd).length - 1) (r.2.1 ++ [(3, Int64.ofNat (r.2.1.length - 1), 0)])).2
            rw [e2]
            exact R2
        · rw [if_neg (by omega : ¬ o + k = 15), adv_er' k1] at hE
          exact XL T1 (hE M1 T1 F1)
        · rw [if_pos ho] at hE
          exact XL T1 (hE M1 T1 F1)
    · -- times
      intro M i o pr σ0 ν X u hg h0 ht h100 hR hE
      have hi := hR.2.1
      unfold rd at hE
      rw [if_neg (by decide), if_pos rfl] at hE
      refine ih0 M i o 0 pr σ0 ν X u (by omega) h0 (top_imp ht (fun x q => q.1)) h100 (by simpa using hR) ?_
      rw [Nat.add_zero]
      have hok := rd_ok (sN := sN) (mx := mx) (vN := vN) hS g 0 i o X u (by decide) hi.2.2 h0
      generalize rd b n sN mx vN g 0 i o X u = R at hE hok
      cases R with
      | error e => exact fun M' T' F' => hE M' T' F'
      | ok r =>
        intro M2 R2 F2
        obtain ⟨a1, a2, a3, -, a5⟩ := hok
        exact ih2 M2 r.1 o pr σ0 ν [] (r.2.1.length - 1) r.2.1 r.2.2 (by have := (a5 (by decide)).1; omega) a3 ht h100 (fun e he => absurd he List.not_mem_nil) R2 rfl (EndJ.fr hE F2)
    · -- times: the loop
      intro M i o pr σ0 ν π r X u hg h0 ht h100 hπ hR ej hE
      have hi := hR.2.1
      unfold rd at hE
      rw [if_neg (by decide), if_neg (by decide), if_pos rfl] at hE
      by_cases hk : tK b n i = 22 ∨ tK b n i = 23 ∨ tK b n i = 24
      · rw [if_pos hk] at hE
        have hs := hS.lt hi.2.2 h0 (by rcases hk with q | q | q <;> (rw [q]; decide))
        have o46 : 4 ≤ opS (tK b n i) ∧ opS (tK b n i) ≤ 6 := by rcases hk with q | q | q <;> (rw [q]; decide)
        refine B_atOp (L := 6) hB hs (Or.inl ⟨rfl, hk⟩) (top_imp ht (fun x q => q.2)) hπ h100 hR (fun k1 M1 R1 F1 => ?_) (fun k1 M1 T1 F1 => ?_)
        · rw [adv_ok' k1] at hE
          have hE : EndJ 6 b n s m sN ro mx vN M o pr σ0 ν (fun M' => T (h + 5) mdX11_readSum 19 [(0, .ref 29), (1, .int 0), (2, .int 1)] [] M' Q) (fun M' => Q (some (.int 0)) M') ((rd b n sN mx vN g 0 (i + 1) o (jf π r X).2 u).bind fun r' => rd b n sN mx vN g 2 r'.1 o (r'.2.1 ++ [(opS (tK b n i), Int64.ofNat ((jf π r X).2.length - 1), r'.2.1.length - 1)]) r'.2.2) := hE
          rw [← ej] at hE
          generalize jf π r X = J at hE R1
          refine ih0 M1 (i + 1) o 0 pr (opS (tK b n i) :: σ0) (J.1 :: ν) J.2 u (by omega) k1 (top_cons (by omega)) (fun x hx => ?_) R1 ?_
          · rcases List.mem_cons.mp hx with z | z
            · omega
            · exact h100 x z
          rw [Nat.add_zero]
          have hok := rd_ok (sN := sN) (mx := mx) (vN := vN) hS g 0 (i + 1) o J.2 u (by decide) hs k1
          generalize rd b n sN mx vN g 0 (i + 1) o J.2 u = R at hE hok
          cases R with
          | error e => exact fun M' T' F' => hE M' T' (F1.tr F')
          | ok r2 =>
            intro M2 R2 F2
            obtain ⟨a1, a2, a3, -, a5⟩ := hok
            refine ih2 M2 r2.1 o pr σ0 ν [(opS (tK b n i), J.1)] (r2.2.1.length - 1) r2.2.1 r2.2.2 (by omega) a3 ht h100 (fun e he => ?_) R2 ?_ ?_
            · rw [List.mem_singleton.mp he]; exact o46
            · show r2.2.1.length = (r2.2.1 ++ [_]).length - 1
              rw [List.length_append]; rfl
            · exact EndJ.fr (M := M) hE (F1.tr F2)
        · rw [adv_er' k1] at hE
          exact XL T1 (hE M1 T1 F1)
      · rw [if_neg hk] at hE
        refine hE M π r X hπ hR (Prod.ext ej rfl) ⟨fun z => hk (Or.inl z), fun z => hk (Or.inr (Or.inl z)), fun z => hk (Or.inr (Or.inr z)), fun z => absurd z (by decide)⟩ RFm.rf
    · -- a sum
      intro M i o pr σ0 ν X u hg h0 ht h100 hR hE
      have hi := hR.2.1
      unfold rd at hE
      rw [if_neg (by decide), if_neg (by decide), if_neg (by decide), if_pos rfl] at hE
      refine ih1 M i o pr σ0 ν X u (by omega) h0 (top_imp ht (fun x q => ⟨q.1, by omega⟩)) h100 hR ?_
      have hok := rd_ok (sN := sN) (mx := mx) (vN := vN) hS g 1 i o X u (by decide) hi.2.2 h0
      generalize rd b n sN mx vN g 1 i o X u = R at hE hok
      cases R with
      | error e => exact fun M' T' F' => hE M' T' F'
      | ok r =>
        intro M2 π r' X' hπ R2 ej hst F2
        obtain ⟨a1, a2, a3, -, a5⟩ := hok
        have e1 : (jf π r' X').2 = r.2.1 := by rw [ej]
        refine ih4 M2 r.1 o pr σ0 ν π r' X' r.2.2 (by have := (a5 (by decide)).1; omega) a3 ⟨hst.1, hst.2.1, hst.2.2.1⟩ ht h100 (fun e he => ⟨(hπ e he).1, by have := (hπ e he).2; omega⟩) R2 (by rw [ej]) ?_
        rw [e1]
        exact EndJ.fr hE F2
    · -- a sum: the loop
      intro M i o pr σ0 ν π r X u hg h0 hnt ht h100 hπ hR ej hE
      have hi := hR.2.1
      unfold rd at hE
      rw [if_neg (by decide), if_neg (by decide), if_neg (by decide), if_neg (by decide)] at hE
      by_cases hk : tK b n i = 20 ∨ tK b n i = 21
      · rw [if_pos hk] at hE
        have hs := hS.lt hi.2.2 h0 (by rcases hk with q | q <;> (rw [q]; decide))
        have o78 : 7 ≤ opS (tK b n i) ∧ opS (tK b n i) ≤ 8 := by rcases hk with q | q <;> (rw [q]; decide)
        refine B_atOp (L := 8) hB hs (Or.inr ⟨rfl, hk⟩) (top_imp ht (fun x q => q.2)) hπ h100 hR (fun k1 M1 R1 F1 => ?_) (fun k1 M1 T1 F1 => ?_)
        · rw [adv_ok' k1] at hE
          have hE : EndJ 8 b n s m sN ro mx vN M o pr σ0 ν (fun M' => T (h + 5) mdX11_readSum 19 [(0, .ref 29), (1, .int 0), (2, .int 1)] [] M' Q) (fun M' => Q (some (.int 0)) M') ((rd b n sN mx vN g 1 (i + 1) o (jf π r X).2 u).bind fun r' => rd b n sN mx vN g 4 r'.1 o (r'.2.1 ++ [(opS (tK b n i), Int64.ofNat ((jf π r X).2.length - 1), r'.2.1.length - 1)]) r'.2.2) := hE
          rw [← ej] at hE
          generalize jf π r X = J at hE R1
          refine ih1 M1 (i + 1) o pr (opS (tK b n i) :: σ0) (J.1 :: ν) J.2 u (by omega) k1 (top_cons (by omega)) (fun x hx => ?_) R1 ?_
          · rcases List.mem_cons.mp hx with z | z
            · omega
            · exact h100 x z
          have hok := rd_ok (sN := sN) (mx := mx) (vN := vN) hS g 1 (i + 1) o J.2 u (by decide) hs k1
          generalize rd b n sN mx vN g 1 (i + 1) o J.2 u = R at hE hok
          cases R with
          | error e => exact fun M' T' F' => hE M' T' (F1.tr F')
          | ok r2 =>
            intro M2 π2 r' X' hπ2 R2 ej2 hst F2
            obtain ⟨a1, a2, a3, -, a5⟩ := hok
            have ea : jf (π2 ++ [(opS (tK b n i), J.1)]) r' X' = (r2.2.1.length, r2.2.1 ++ [(opS (tK b n i), Int64.ofNat J.1, r2.2.1.length - 1)]) := by rw [jf_app, ej2]
            have m1 : (π2 ++ [(opS (tK b n i), J.1)]).map Prod.fst ++ σ0 = π2.map Prod.fst ++ opS (tK b n i) :: σ0 := by simp
            have m2 : (π2 ++ [(opS (tK b n i), J.1)]).map Prod.snd ++ ν = π2.map Prod.snd ++ J.1 :: ν := by simp
            refine ih4 M2 r2.1 o pr σ0 ν (π2 ++ [(opS (tK b n i), J.1)]) r' X' r2.2.2 (by omega) a3 ⟨hst.1, hst.2.1, hst.2.2.1⟩ ht h100 (fun e he => ?_) (by rw [m1, m2]; exact R2) ?_ ?_
            · rcases List.mem_append.mp he with z | z
              · exact ⟨(hπ2 e z).1, by have := (hπ2 e z).2; omega⟩
              · rw [List.mem_singleton.mp z]; exact ⟨by show 4 ≤ opS (tK b n i); omega, o78.2⟩
            · rw [ea]
              show r2.2.1.length = (r2.2.1 ++ [_]).length - 1
              rw [List.length_append]; rfl
            · rw [ea]
              exact EndJ.fr (M := M) hE (F1.tr F2)
        · rw [adv_er' k1] at hE
          exact XL T1 (hE M1 T1 F1)
      · rw [if_neg hk] at hE
        refine hE M π r X hπ hR (Prod.ext ej rfl) ⟨hnt.1, hnt.2.1, hnt.2.2, fun _ => ⟨fun z => hk (Or.inl z), fun z => hk (Or.inr z)⟩⟩ RFm.rf
/-- the reference between its readings: i-th token, o opened, the nodes so far -/
def BR (b : Nat → Int32) (n s m : Nat) (sN : List Int64) (ro mx : List Int32) (vN : List Int64) (M : Mem) (i o : Nat) (X : List Nd) : Prop := CoR b n s m sN ro mx vN M ∧ (n ≤ 800 ∧ s ≤ n ∧ i ≤ s) ∧ mI M 29 5 = Int32.ofNat i ∧ mI M 29 6 = 0 ∧ mI M 29 33 = Int32.ofNat o ∧ XR M m X ∧ (X.length ≤ i ∧ o ≤ 15)
def EndR (b : Nat → Int32) (n s m : Nat) (sN : List Int64) (ro mx : List Int32) (vN : List Int64) (M : Mem) (o : Nat) (Q : Option Value → Mem → Prop) (R : Except (Int32 × Nat) (Nat × List Nd × Int32)) : Prop := match R with
  | .ok r => ∀ M', BR b n s m sN ro mx vN M' r.1 o r.2.1 → RFm m M M' → Q (some (.int (Int32.ofNat (810 * m + (r.2.1.length - 1))))) M'
  | .error e => ∀ M', TXr M' e.1 e.2 → RFm m M M' → Q (some (.int 0)) M'
theorem SR.br {M : Mem} {i o pr : Nat} {σ ν : List Nat} {X : List Nd} (h : SR b n s m sN ro mx vN (0, 0) M i o pr σ ν X) : BR b n s m sN ro mx vN M i o X := by
  obtain ⟨h1, h2, h3, h4, h5, h6, h7, h8, h9, h10⟩ := h
  exact ⟨h1, h2, h3, h4.1, h5, h9, by omega, h10.2.2.1⟩
theorem B_readSum {M : Mem} {i o : Nat} {X : List Nd} {u : Int32} {g : Nat} (hB : By b) (hS : Sto b n s) (hR : BR b n s m sN ro mx vN M i o X) (h0 : tK b n i ≠ 0) (hg : 6 * (s + 1 - i) + 3 ≤ g) (hE : EndR b n s m sN ro mx vN M o Q (rd b n sN mx vN g 3 i o X u)) : E (h + 5) mdX11_readSum [.ref 29] M Q := by
  obtain ⟨h1, h2, h3, h4, h5, h6, h7⟩ := hR
  have F := h1.1
  refine KX11_readSum ?_
  unfold DX11_readSum_0
  refine ⟨ok29 F, fun M2 e2 M3 e3 M4 e4 => ?_⟩
  have fr : RFm m M M4 := by rw [e4, e3, e2]; exact ((RFm.i (by decide)).tr (RFm.i (by decide))).tr (RFm.i (by decide))
  have R4 : SR b n s m sN ro mx vN (0, 0) M4 i o 0 [] [] X := by
    refine ⟨h1.fr fr, h2, by rw [e4, e3, e2]; simp [h3, mNwI, mSwI, mKwI, mIwI, mJwI, mRwI, mLwI, mAIwI, mAJwI, mARwI, mNwJ, mSwJ, mKwJ, mIwJ, mJwJ, mRwJ, mLwJ, mAIwJ, mAJwJ, mARwJ, mNwR, mSwR, mKwR, mIwR, mJwR, mRwR, mLwR, mAIwR, mAJwR, mARwR, mNwAI, mSwAI, mKwAI, mIwAI, mJwAI, mRwAI, mLwAI, mAIwAI, mAJwAI, mARwAI, mNwAJ, mSwAJ, mKwAJ, mIwAJ, mJwAJ, mRwAJ, mLwAJ, mAIwAJ, mAJwAJ, mARwAJ, mNwAR, mSwAR, mKwAR, mIwAR, mJwAR, mRwAR, mLwAR, mAIwAR, mAJwAR, mARwAR, okkwI, okkwJ, okkwR, okkwAI, okkwAJ, okkwAR], ⟨by rw [e4, e3, e2]; simp [h4, mNwI, mSwI, mKwI, mIwI, mJwI, mRwI, mLwI, mAIwI, mAJwI, mARwI, mNwJ, mSwJ, mKwJ, mIwJ, mJwJ, mRwJ, mLwJ, mAIwJ, mAJwJ, mARwJ, mNwR, mSwR, mKwR, mIwR, mJwR, mRwR, mLwR, mAIwR, mAJwR, mARwR, mNwAI, mSwAI, mKwAI, mIwAI, mJwAI, mRwAI, mLwAI, mAIwAI, mAJwAI, mARwAI, mNwAJ, mSwAJ, mKwAJ, mIwAJ, mJwAJ, mRwAJ, mLwAJ, mAIwAJ, mAJwAJ, mARwAJ, mNwAR, mSwAR, mKwAR, mIwAR, mJwAR, mRwAR, mLwAR, mAIwAR, mAJwAR, mARwAR, okkwI, okkwJ, okkwR, okkwAI, okkwAJ, okkwAR], Or.inl rfl⟩, by rw [e4, e3, e2]; simp [h5, mNwI, mSwI, mKwI, mIwI, mJwI, mRwI, mLwI, mAIwI, mAJwI, mARwI, mNwJ, mSwJ, mKwJ, mIwJ, mJwJ, mRwJ, mLwJ, mAIwJ, mAJwJ, mARwJ, mNwR, mSwR, mKwR, mIwR, mJwR, mRwR, mLwR, mAIwR, mAJwR, mARwR, mNwAI, mSwAI, mKwAI, mIwAI, mJwAI, mRwAI, mLwAI, mAIwAI, mAJwAI, mARwAI, mNwAJ, mSwAJ, mKwAJ, mIwAJ, mJwAJ, mRwAJ, mLwAJ, mAIwAJ, mAJwAJ, mARwAJ, mNwAR, mSwAR, mKwAR, mIwAR, mJwAR, mRwAR, mLwAR, mAIwAR, mAJwAR, mARwAR, okkwI, okkwJ, okkwR, okkwAI, okkwAJ, okkwAR], by rw [e4, e3, e2]; simp [mNwI, mSwI, mKwI, mIwI, mJwI, mRwI, mLwI, mAIwI, mAJwI, mARwI, mNwJ, mSwJ, mKwJ, mIwJ, mJwJ, mRwJ, mLwJ, mAIwJ, mAJwJ, mARwJ, mNwR, mSwR, mKwR, mIwR, mJwR, mRwR, mLwR, mAIwR, mAJwR, mARwR, mNwAI, mSwAI, mKwAI, mIwAI, mJwAI, mRwAI, mLwAI, mAIwAI, mAJwAI, mARwAI, mNwAJ, mSwAJ, mKwAJ, mIwAJ, mJwAJ, mRwAJ, mLwAJ, mAIwAJ, mAJwAJ, mARwAJ, mNwAR, mSwAR, mKwAR, mIwAR, mJwAR, mRwAR, mLwAR, mAIwAR, mAJwAR, mARwAR, okkwI, okkwJ, okkwR, okkwAI, okkwAJ, okkwAR], ⟨by rw [e4, e3, e2]; simp [mNwI, mSwI, mKwI, mIwI, mJwI, mRwI, mLwI, mAIwI, mAJwI, mARwI, mNwJ, mSwJ, mKwJ, mIwJ, mJwJ, mRwJ, mLwJ, mAIwJ, mAJwJ, mARwJ, mNwR, mSwR, mKwR, mIwR, mJwR, mRwR, mLwR, mAIwR, mAJwR, mARwR, mNwAI, mSwAI, mKwAI, mIwAI, mJwAI, mRwAI, mLwAI, mAIwAI, mAJwAI, mARwAI, mNwAJ, mSwAJ, mKwAJ, mIwAJ, mJwAJ, mRwAJ, mLwAJ, mAIwAJ, mAJwAJ, mARwAJ, mNwAR, mSwAR, mKwAR, mIwAR, mJwAR, mRwAR, mLwAR, mAIwAR, mAJwAR, mARwAR, okkwI, okkwJ, okkwR, okkwAI, okkwAJ, okkwAR], fun j hj => absurd hj (Nat.not_lt_zero _)⟩, ⟨by rw [e4, e3, e2]; simp [mNwI, mSwI, mKwI, mIwI, mJwI, mRwI, mLwI, mAIwI, mAJwI, mARwI, mNwJ, mSwJ, mKwJ, mIwJ, mJwJ, mRwJ, mLwJ, mAIwJ, mAJwJ, mARwJ, mNwR, mSwR, mKwR, mIwR, mJwR, mRwR, mLwR, mAIwR, mAJwR, mARwR, mNwAI, mSwAI, mKwAI, mIwAI, mJwAI, mRwAI, mLwAI, mAIwAI, mAJwAI, mARwAI, mNwAJ, mSwAJ, mKwAJ, mIwAJ, mJwAJ, mRwAJ, mLwAJ, mAIwAJ, mAJwAJ, mARwAJ, mNwAR, mSwAR, mKwAR, mIwAR, mJwAR, mRwAR, mLwAR, mAIwAR, mAJwAR, mARwAR, okkwI, okkwJ, okkwR, okkwAI, okkwAJ, okkwAR], fun j hj => absurd hj (Nat.not_lt_zero _)⟩, h6.fr (by rw [e4, e3, e2]; rfl) (by rw [e4, e3, e2]; rfl) (by rw [e4, e3, e2]; rfl) (by rw [e4, e3, e2]; rfl), by show X.length + 0 ≤ i; omega, Nat.zero_le _, h7.2, Nat.zero_le _, fun x hx => absurd hx List.not_mem_nil⟩
  refine (B_rd (h := h) hB hS g).2.2.2.1 M4 i o 0 [] [] X u hg h0 trivial (fun x hx => absurd hx List.not_mem_nil) R4 ?_
  have hok := rd_ok (sN := sN) (mx := mx) (vN := vN) hS g 3 i o X u (by decide) h2.2.2 h0
  generalize rd b n sN mx vN g 3 i o X u = R at hE hok
  cases R with
  | error e => exact fun M' T' F' => hE M' T' (fr.tr F')
  | ok r =>
    intro M5 π r' X' hπ R5 ej hst F5
    obtain ⟨a1, a2, a3, -, a5⟩ := hok
    have a5 := (a5 (by decide)).2
    have s8 := hst.2.2.2 rfl
    refine B_noOp hB R5 (by rintro (z | z | z | z | z) <;> first | exact s8.1 z | exact s8.2 z | exact hst.1 z | exact hst.2.1 z | exact hst.2.2.1 z) (fun _ => ?_) (fun z => absurd rfl z)
    have FF := R5.1.1
    have h6 : mI M5 29 6 = 0 := R5.2.2.2.1.1
    have h32 : mI M5 29 32 = Int32.ofNat 0 := R5.2.2.2.2.2.1
    refine VX11_readSum_19 ?_
    unfold DX11_readSum_19 DX11_readSum_264 DX11_readSum_292
    refine ⟨fun _ => ⟨ok29 FF, fun z => absurd h6 z, fun _ => ⟨fun _ => ⟨ok29 FF, fun _ => ?_, fun z => absurd (by rw [h6]; decide) z⟩, fun z => absurd (by rw [h32]; decide) z⟩⟩, fun z => absurd rfl z⟩
    refine B_join (h := h + 1) (L := 8) (Or.inr rfl) (σb := []) trivial hπ (fun x hx => absurd hx List.not_mem_nil) R5 (fun M6 R6 F6 _ => ⟨rfl, 53, rf29_30 R6.1.1, ok53 R6.1.1, by rw [ln53 R6.1.1]; exact vp_of (n := 0) (by decide) (by decide), ?_⟩)
    rw [ej] at R6
    dsimp only at R6
    have tp := R6.2.2.2.2.2.2.2.1.top
    have e0 : (0 : Int32).toNatClampNeg = 0 := by decide
    have tp : mAI M6 53 0 = Int32.ofNat (810 * m + (r.2.1.length - 1)) := tp
    rw [e0, tp]
    exact hE M6 R6.br ((fr.tr F5).tr F6)
end
end
section
/-! words stand apart: how many nodes conditions can have -/
def wdK (k : Int32) : Prop := k = 2 ∨ 30 ≤ k
def bt (b : Nat → Int32) (n i : Nat) : Nat := if isL (b (tP b n i)) = true then tP b n i else tP b n i + 1
theorem runF_end {p : Int32 → Bool} {b : Nat → Int32} : ∀ (k a : Nat), runF p b k a < a + k → p (b (runF p b k a)) = false := by
  intro k
  induction k with
  | zero => intro a h; exact absurd h (by unfold runF; omega)
  | succ k ih =>
    intro a h
    unfold runF at h ⊢
    by_cases hp : p (b a) = true
    · rw [if_pos hp] at h ⊢
      exact ih (a + 1) (by omega)
    · rw [if_neg hp]
      exact eq_false_of_ne_true hp
theorem key_lt : ∀ j : Fin 33, (30 : Int32) ≤ 30 + Int32.ofNat j := by decide +kernel
theorem sk_lt : ∀ k ∈ sKs, ¬ (k = 2 ∨ (30 : Int32) ≤ k) := by decide +kernel
theorem wdK_L {b : Nat → Int32} {n p : Nat} (hB : By b) (h : wdK (ckK b n p)) : WD b n p := by
  rcases tok_cases (n := n) (p := p) hB with ⟨-, e, -⟩ | ⟨w, -, -⟩ | ⟨-, -, e, -⟩ | ⟨-, e, -⟩ | ⟨-, e⟩
  · rw [e] at h; exact absurd h (by unfold wdK; decide)
  · exact w
  · rw [e] at h; exact absurd h (by unfold wdK; decide)
  · exact absurd h (sk_lt _ e)
  · rw [e] at h; exact absurd h (by unfold wdK; decide)
theorem tP_next {b : Nat → Int32} {n i : Nat} (hz : ∀ i, n ≤ i → b i = 0) : ckE b n (tP b n i) ≤ tP b n (i + 1) ∧ tP b n (i + 1) ≤ n := tP_b (tPos_le hz (i + 1))
theorem bt_mono {b : Nat → Int32} {n i : Nat} (hz : ∀ i, n ≤ i → b i = 0) (h1 : tK b n i ≠ 1) : bt b n i ≤ bt b n (i + 1) := by
  have h3 : tP b n i < n := Nat.lt_of_not_le (fun z => h1 (tK_fin z))
  have h4 := (tP_next (i := i) hz).1
  have h5 := ckE_gt (b := b) h3
  unfold bt
  split <;> split <;> omega
theorem bt_word {b : Nat → Int32} {n i : Nat} (hz : ∀ i, n ≤ i → b i = 0) (hB : By b) (h : wdK (tK b n i)) : bt b n i + 2 ≤ bt b n (i + 1) := by
  have w := wdK_L hB h
  have h4 := tP_next (i := i) hz
  have h5 := ckE_gt (b := b) w.1
  have eE : ckE b n (tP b n i) = rnE isL b n (tP b n i) := by unfold ckE; rw [if_neg (Nat.not_le.mpr w.1), if_pos w.2.1]
  unfold bt
  rw [if_pos w.2.1]
  split
  · rename_i hL
    have : tP b n (i + 1) ≠ ckE b n (tP b n i) := by
      intro z
      have hlt : rnE isL b n (tP b n i) < tP b n i + (n - tP b n i) := by
        have : tP b n (i + 1) ≠ n := by
          intro q
          rw [q, hz n (Nat.le_refl _)] at hL
          exact absurd hL (by decide)
        have := w.1
        omega
      have := runF_end _ _ hlt
      rw [z, eE] at hL
      exact absurd (hL.symm.trans this) (by decide)
    omega
  · omega
theorem bt_le {b : Nat → Int32} {n i : Nat} (hz : ∀ i, n ≤ i → b i = 0) : bt b n i ≤ n + 1 := by
  have := (tP_b (tPos_le hz i)).2
  unfold bt
  split <;> omega
/-! conditions, in the middle: nodes in postfix order (0 signal, 1 pre, 2 not, 3 and, 4 or) -/
abbrev Cd : Type := Nat × Nat × Nat
def rc0 (b : Nat → Int32) (n : Nat) (sN : List Int64) (p j : Nat) (Y : List Cd) : Except (Int32 × Nat) (Nat × List Cd) :=
  if tK b n j = 2 then (match fd sN (tC b n j) with
    | none => .error (4, tP b n j)
    | some k => (adv' b n j).bind fun j' => .ok (j', Y ++ [(p, k, 0)]))
  else .error (2, tP b n j)
def rc (b : Nat → Int32) (n : Nat) (sN : List Int64) : Nat → Nat → Nat → Nat → List Cd → Except (Int32 × Nat) (Nat × List Cd)
  | 0, _, _, _, _ => .error (0, 0)
  | g + 1, md, i, o, Y =>
    if md = 0 then
      if tK b n i = 61 then (if o = 15 then .error (6, tP b n i) else (adv' b n i).bind fun j => (rc b n sN g 0 j (o + 1) Y).bind fun r => .ok (r.1, r.2 ++ [(2, r.2.length - 1, 0)]))
      else if tK b n i = 15 then (if o = 15 then .error (6, tP b n i) else (adv' b n i).bind fun j => (rc b n sN g 3 j (o + 1) Y).bind fun r => if tK b n r.1 = 16 then (adv' b n r.1).bind fun j' => .ok (j', r.2) else .error (2, tP b n r.1))
      else if tK b n i = 62 then (adv' b n i).bind fun j => rc0 b n sN 1 j Y
      else rc0 b n sN 0 i Y
    else if md = 1 then (rc b n sN g 0 i o Y).bind fun r => rc b n sN g 2 r.1 o r.2
    else if md = 2 then (if tK b n i = 59 then (adv' b n i).bind fun j => (rc b n sN g 0 j o Y).bind fun r => rc b n sN g 2 r.1 o (r.2 ++ [(3, Y.length - 1, r.2.length - 1)]) else .ok (i, Y))
    else if md = 3 then (rc b n sN g 1 i o Y).bind fun r => rc b n sN g 4 r.1 o r.2
    else (if tK b n i = 60 then (adv' b n i).bind fun j => (rc b n sN g 1 j o Y).bind fun r => rc b n sN g 4 r.1 o (r.2 ++ [(4, Y.length - 1, r.2.length - 1)]) else .ok (i, Y))
def RcOk (b : Nat → Int32) (n s md i : Nat) (Y : List Cd) (g : Nat) (R : Except (Int32 × Nat) (Nat × List Cd)) : Prop := match R with
  | .error e => 6 * (s + 1 - i) + md ≤ g → e.1 ≠ 0
  | .ok r => i ≤ r.1 ∧ r.1 ≤ s ∧ tK b n r.1 ≠ 0 ∧ (∃ Z, r.2 = Y ++ Z ∧ Z.length ≤ r.1 - i) ∧ (md = 0 ∨ md = 1 ∨ md = 3 → i < r.1 ∧ Y.length < r.2.length)
theorem rcE {b : Nat → Int32} {n s md i : Nat} {Y : List Cd} {g : Nat} {c : Int32} {p : Nat} (h : c ≠ 0) : RcOk b n s md i Y g (.error (c, p)) := fun _ => h
theorem rc0_ok {b : Nat → Int32} {n s : Nat} {sN : List Int64} (hS : Sto b n s) {p i j : Nat} {Y : List Cd} {g : Nat} (hj : i ≤ j) (h1 : j ≤ s) (h0 : tK b n j ≠ 0) : RcOk b n s 0 i Y g (rc0 b n sN p j Y) := by
  unfold rc0
  split
  · rename_i hk
    have hs := hS.lt h1 h0 (by rw [hk]; decide)
    split
    · exact rcE (by decide)
    · rcases adv_cases (b := b) (n := n) (i := j) with ⟨k1, e⟩ | ⟨k1, e⟩ <;> rw [e]
      · exact rcE (by decide)
      · exact ⟨by show i ≤ j + 1; omega, hs, k1, ⟨[_], rfl, by show 1 ≤ j + 1 - i; omega⟩, fun _ => ⟨by show i < j + 1; omega, by rw [List.length_append]; exact Nat.lt_succ_self _⟩⟩
  · exact rcE (by decide)
theorem rc_ok {b : Nat → Int32} {n s : Nat} {sN : List Int64} (hS : Sto b n s) : ∀ (g md i o : Nat) (Y : List Cd), md ≤ 4 → i ≤ s → tK b n i ≠ 0 → RcOk b n s md i Y g (rc b n sN g md i o Y) := by
  intro g
  induction g with
  | zero => intro md i o Y hm hi h0; unfold rc; intro hg; omega
  | succ g ih =>
    intro md i o Y hm hi h0
    unfold rc
    by_cases m0 : md = 0
    · subst m0
      rw [if_pos rfl]
      split
      · rename_i hk
        have hs := hS.lt hi h0 (by rw [hk]; decide)
        split
        · exact rcE (by decide)
        · rcases adv_cases (b := b) (n := n) (i := i) with ⟨h1, e⟩ | ⟨h1, e⟩ <;> rw [e]
          · exact rcE (by decide)
          · have := ih 0 (i + 1) (o + 1) Y (by decide) hs h1
            show RcOk b n s 0 i Y (g + 1) ((rc b n sN g 0 (i + 1) (o + 1) Y).bind _)
            generalize rc b n sN g 0 (i + 1) (o + 1) Y = R at this
            cases R with
            | error e => intro hg; exact this (by omega)
            | ok r =>
              obtain ⟨a1, a2, a3, ⟨Z, a4, a5⟩, a6⟩ := this
              refine ⟨by show i ≤ r.1; omega, a2, a3, ⟨Z ++ [_], by show r.2 ++ _ = Y ++ (Z ++ _); rw [a4, List.append_assoc], by rw [List.length_append]; show Z.length + 1 ≤ r.1 - i; omega⟩, fun _ => ⟨by show i < r.1; omega, ?_⟩⟩
              show Y.length < (r.2 ++ [_]).length
              rw [List.length_append, a4, List.length_append]
              show Y.length < Y.length + Z.length + 1
              omega
      · split
        · rename_i hk
          have hs := hS.lt hi h0 (by rw [hk]; decide)
          split
          · exact rcE (by decide)
          · rcases adv_cases (b := b) (n := n) (i := i) with ⟨h1, e⟩ | ⟨h1, e⟩ <;> rw [e]
            · exact rcE (by decide)
            · have := ih 3 (i + 1) (o + 1) Y (by decide) hs h1
              show RcOk b n s 0 i Y (g + 1) ((rc b n sN g 3 (i + 1) (o + 1) Y).bind _)
              generalize rc b n sN g 3 (i + 1) (o + 1) Y = R at this
              cases R with
              | error e => intro hg; exact this (by omega)
              | ok r =>
                obtain ⟨a1, a2, a3, ⟨Z, a4, a5⟩, a6⟩ := this
                show RcOk b n s 0 i Y (g + 1) (if tK b n r.1 = 16 then _ else _)
                split
                · rename_i hk2
                  have hs2 := hS.lt a2 a3 (by rw [hk2]; decide)
                  rcases adv_cases (b := b) (n := n) (i := r.1) with ⟨h2, e2⟩ | ⟨h2, e2⟩ <;> rw [e2]
                  · exact rcE (by decide)
                  · refine ⟨by show i ≤ r.1 + 1; omega, hs2, h2, ⟨Z, a4, by show Z.length ≤ r.1 + 1 - i; omega⟩, fun _ => ⟨by show i < r.1 + 1; omega, (a6 (by decide)).2⟩⟩
                · exact rcE (by decide)
        · split
          · rename_i hk
            have hs := hS.lt hi h0 (by rw [hk]; decide)
            rcases adv_cases (b := b) (n := n) (i := i) with ⟨h1, e⟩ | ⟨h1, e⟩ <;> rw [e]
            · exact rcE (by decide)
            · exact rc0_ok hS (Nat.le_succ _) hs h1
          · exact rc0_ok hS (Nat.le_refl _) hi h0
    rw [if_neg m0]
    have two : ∀ (m1 m2 : Nat), (m1 = 0 ∨ m1 = 1) → (m2 = 2 ∨ m2 = 4) → m1 + 1 ≤ md → m2 ≤ md + 1 → (md = 1 ∨ md = 3) → RcOk b n s md i Y (g + 1) ((rc b n sN g m1 i o Y).bind fun r => rc b n sN g m2 r.1 o r.2) := by
      intro m1 m2 h1 h2 h3 h4 h5
      have := ih m1 i o Y (by omega) hi h0
      generalize rc b n sN g m1 i o Y = R at this
      cases R with
      | error e => intro hg; exact this (by omega)
      | ok r =>
        obtain ⟨a1, a2, a3, ⟨Z, a4, a5⟩, a6⟩ := this
        have a7 := a6 (by omega)
        have := ih m2 r.1 o r.2 (by omega) a2 a3
        show RcOk b n s md i Y (g + 1) (rc b n sN g m2 r.1 o r.2)
        generalize rc b n sN g m2 r.1 o r.2 = R2 at this
        cases R2 with
        | error e => intro hg; exact this (by omega)
        | ok r2 =>
          obtain ⟨b1, b2, b3, ⟨V, b4, b5⟩, b6⟩ := this
          refine ⟨by omega, b2, b3, ⟨Z ++ V, by rw [b4, a4, List.append_assoc], by rw [List.length_append]; omega⟩, fun _ => ⟨by omega, ?_⟩⟩
          rw [b4, List.length_append]
          omega
    have lp : ∀ (m1 : Nat) (y : List Cd → Cd), (m1 = 0 ∨ m1 = 1) → (md = 2 ∨ md = 4) → i < s → RcOk b n s md i Y (g + 1) ((adv' b n i).bind fun j => (rc b n sN g m1 j o Y).bind fun r => rc b n sN g md r.1 o (r.2 ++ [y r.2])) := by
      intro m1 y h1 h5 hs
      rcases adv_cases (b := b) (n := n) (i := i) with ⟨k1, e⟩ | ⟨k1, e⟩ <;> rw [e]
      · exact rcE (by decide)
      · have := ih m1 (i + 1) o Y (by omega) hs k1
        show RcOk b n s md i Y (g + 1) ((rc b n sN g m1 (i + 1) o Y).bind fun r => rc b n sN g md r.1 o (r.2 ++ [y r.2]))
        generalize rc b n sN g m1 (i + 1) o Y = R at this
        cases R with
        | error e => intro hg; exact this (by omega)
        | ok r =>
          obtain ⟨a1, a2, a3, ⟨Z, a4, a5⟩, a6⟩ := this
          have := ih md r.1 o (r.2 ++ [y r.2]) hm a2 a3
          show RcOk b n s md i Y (g + 1) (rc b n sN g md r.1 o (r.2 ++ [y r.2]))
          generalize rc b n sN g md r.1 o (r.2 ++ [y r.2]) = R2 at this
          cases R2 with
          | error e => intro hg; exact this (by omega)
          | ok r2 =>
            obtain ⟨b1, b2, b3, ⟨V, b4, b5⟩, b6⟩ := this
            refine ⟨by omega, b2, b3, ⟨Z ++ ([y r.2] ++ V), by rw [b4, a4]; simp only [List.append_assoc], by rw [List.length_append, List.length_append]; show Z.length + (1 + V.length) ≤ _; omega⟩, fun q => by omega⟩
    have stay : RcOk b n s md i Y (g + 1) (.ok (i, Y)) ∨ md = 1 ∨ md = 3 := by
      by_cases q : md = 1 ∨ md = 3
      · exact Or.inr q
      · exact Or.inl ⟨Nat.le_refl _, hi, h0, ⟨[], by rw [List.append_nil], Nat.zero_le _⟩, fun z => by omega⟩
    by_cases m1 : md = 1
    · rw [if_pos m1]; exact two 0 2 (Or.inl rfl) (Or.inl rfl) (by omega) (by omega) (Or.inl m1)
    rw [if_neg m1]
    by_cases m2 : md = 2
    · rw [if_pos m2]
      split
      · rename_i hk
        have hs := hS.lt hi h0 (by rw [hk]; decide)
        have := lp 0 (fun Z => (3, Y.length - 1, Z.length - 1)) (Or.inl rfl) (Or.inl m2) hs
        rw [m2] at this
        rw [m2]
        exact this
      · exact stay.resolve_right (by omega)
    rw [if_neg m2]
    by_cases m3 : md = 3
    · rw [if_pos m3]; exact two 1 4 (Or.inr rfl) (Or.inr rfl) (by omega) (by omega) (Or.inr m3)
    rw [if_neg m3]
    have m4 : md = 4 := by omega
    split
    · rename_i hk
      have hs := hS.lt hi h0 (by rw [hk]; decide)
      have := lp 1 (fun Z => (4, Y.length - 1, Z.length - 1)) (Or.inr rfl) (Or.inr m4) hs
      rw [m4] at this
      rw [m4]
      exact this
    · exact stay.resolve_right (by omega)
end
section
/-! the reference reads conditions: its stacks -/
def RFc (m : Nat) (M M' : Mem) : Prop := mN M' = mN M ∧ mS M' = mS M ∧ mK M' = mK M ∧ mL M' = mL M ∧ mR M' = mR M ∧ mAR M' = mAR M ∧ mJ M' = mJ M ∧ (∀ a, a ≠ 29 → mI M' a = mI M a) ∧ (∀ f, f ∉ [5, 6, 7, 29, 31, 32, 33] → mI M' 29 f = mI M 29 f) ∧ (∀ a, a ∉ [40, 44, 45, 46, 47, 52, 53] → mAI M' a = mAI M a) ∧ mAJ M' = mAJ M ∧ (∀ j, j ≠ m → mAI M' 44 j = mAI M 44 j) ∧ (∀ k, k < 410 * m → mAI M' 45 k = mAI M 45 k ∧ mAI M' 46 k = mAI M 46 k ∧ mAI M' 47 k = mAI M 47 k) ∧ (∀ k, k < 16 * m → mAI M' 40 k = mAI M 40 k)
theorem RFc.rf {m : Nat} {M : Mem} : RFc m M M := ⟨rfl, rfl, rfl, rfl, rfl, rfl, rfl, fun _ _ => rfl, fun _ _ => rfl, fun _ _ => rfl, rfl, fun _ _ => rfl, fun _ _ => ⟨rfl, rfl, rfl⟩, fun _ _ => rfl⟩
theorem RFc.tr {m : Nat} {M M1 M2 : Mem} (h : RFc m M M1) (k : RFc m M1 M2) : RFc m M M2 := by
  obtain ⟨a1, a2, a3, a4, a5, a6, a7, a8, a9, aA, aB, aC, aD, aE⟩ := h
  obtain ⟨b1, b2, b3, b4, b5, b6, b7, b8, b9, bA, bB, bC, bD, bE⟩ := k
  exact ⟨b1.trans a1, b2.trans a2, b3.trans a3, b4.trans a4, b5.trans a5, b6.trans a6, b7.trans a7, fun a q => (b8 a q).trans (a8 a q), fun f q => (b9 f q).trans (a9 f q), fun a q => (bA a q).trans (aA a q), bB.trans aB, fun j q => (bC j q).trans (aC j q), fun k q => ⟨(bD k q).1.trans (aD k q).1, (bD k q).2.1.trans (aD k q).2.1, (bD k q).2.2.trans (aD k q).2.2⟩, fun k q => (bE k q).trans (aE k q)⟩
theorem RFc.i {m f : Nat} {M : Mem} {v : Int32} (hf : f ∈ [5, 6, 7, 29, 31, 32, 33]) : RFc m M (wI M 29 f v) := ⟨rfl, rfl, rfl, rfl, rfl, rfl, rfl, fun a q => up2_row q, fun g q => by rw [mI_wI, if_neg (fun z : 29 = 29 ∧ g = f => q (by rw [z.2]; exact hf))], fun _ _ => rfl, rfl, fun _ _ => rfl, fun _ _ => ⟨rfl, rfl, rfl⟩, fun _ _ => rfl⟩
theorem RFc.st {m c k : Nat} {M : Mem} {v : Int32} (hc : c = 52 ∨ c = 53) : RFc m M (wAI M c k v) := ⟨rfl, rfl, rfl, rfl, rfl, rfl, rfl, fun _ _ => rfl, fun _ _ => rfl, fun a q => up2_row (by rintro rfl; rcases hc with rfl | rfl <;> exact q (by decide)), rfl, fun j _ => by rw [mAI_wAI, if_neg (by rintro ⟨z, -⟩; omega)], fun j _ => ⟨by rw [mAI_wAI, if_neg (by rintro ⟨z, -⟩; omega)], by rw [mAI_wAI, if_neg (by rintro ⟨z, -⟩; omega)], by rw [mAI_wAI, if_neg (by rintro ⟨z, -⟩; omega)]⟩, fun j _ => by rw [mAI_wAI, if_neg (by rintro ⟨z, -⟩; omega)]⟩
theorem RFc.e {m : Nat} {M M' : Mem} (h : RFc m M M') : mE M M' := ⟨Nat.le_of_eq h.1.symm, Nat.le_of_eq h.2.1.symm, fun a _ => ⟨by rw [h.2.2.1], by rw [h.2.2.2.1]⟩⟩
theorem RFc.fix {m : Nat} {M M' : Mem} (h : RFc m M M') (F : Fix M) : Fix M' := F.of_fr (S := fun _ => True) h.e (fun e _ => by rw [h.2.2.2.2.1]) (by rw [h.2.2.2.2.2.2.2.2.2.2.1])
theorem CoR.frc {b : Nat → Int32} {n s m : Nat} {sN : List Int64} {ro mx : List Int32} {vN : List Int64} {M M' : Mem} (h : CoR b n s m sN ro mx vN M) (k : RFc m M M') : CoR b n s m sN ro mx vN M' := by
  obtain ⟨h1, h2, h3⟩ := h
  have kI := k.2.2.2.2.2.2.2.2.1
  have kA := k.2.2.2.2.2.2.2.2.2.1
  have kJ := k.2.2.2.2.2.2.2.2.2.2.1
  refine ⟨k.fix h1, fun j hj => ?_, ?_⟩
  · obtain ⟨r1, r2, r3⟩ := h2 j hj
    exact ⟨by rw [kA 31 (by decide)]; exact r1, by rw [kA 32 (by decide)]; exact r2, by rw [kJ]; exact r3⟩
  · obtain ⟨e1, e2, e3, e4, e5, e6, e7, e8, e9⟩ := h3
    exact ⟨by rw [kI 19 (by decide)]; exact e1, e2, e3, by rw [kA 34 (by decide)]; exact e4, by rw [kA 36 (by decide)]; exact e5, by rw [kJ]; exact e6, by rw [kA 38 (by decide)]; exact e7, by rw [kA 39 (by decide)]; exact e8, by rw [kJ]; exact e9⟩
def cd0 : Cd := (0, 0, 0)
def ya (m : Nat) (d : Cd) : Int32 := if d.1 < 2 then Int32.ofNat d.2.1 else Int32.ofNat (410 * m + d.2.1)
def yb (m : Nat) (d : Cd) : Int32 := if d.1 ≤ 2 then 0 else Int32.ofNat (410 * m + d.2.2)
/-- is signal k asked for by some pre -/
def pq (Y : List Cd) (k : Nat) : Bool := Y.any (fun e => decide (e.1 = 1 ∧ e.2.1 = k))
def YR (L : Nat) (M : Mem) (m : Nat) (Y : List Cd) : Prop := mAI M 44 m = Int32.ofNat Y.length ∧ (∀ k, k < Y.length → mAI M 45 (410 * m + k) = Int32.ofNat (Y.getD k cd0).1 ∧ mAI M 46 (410 * m + k) = ya m (Y.getD k cd0) ∧ mAI M 47 (410 * m + k) = yb m (Y.getD k cd0)) ∧ ∀ k, k < L → mAI M 40 (16 * m + k) = if pq Y k = true then 1 else 0
theorem YR.fr {L m : Nat} {Y : List Cd} {M M' : Mem} (h : YR L M m Y) (h40 : mAI M' 40 = mAI M 40) (h44 : mAI M' 44 = mAI M 44) (h45 : mAI M' 45 = mAI M 45) (h46 : mAI M' 46 = mAI M 46) (h47 : mAI M' 47 = mAI M 47) : YR L M' m Y := ⟨by rw [h44]; exact h.1, fun k hk => by rw [h45, h46, h47]; exact h.2.1 k hk, fun k hk => by rw [h40]; exact h.2.2 k hk⟩
/-- operators that stand for a word -/
def wt (σ : List Nat) : Nat := (σ.filter (fun x => decide (x ≠ 5))).length
theorem wt_cons {x : Nat} {σ : List Nat} : wt (x :: σ) = wt σ + (if x = 5 then 0 else 1) := by
  unfold wt
  by_cases h : x = 5
  · rw [List.filter_cons_of_neg (by simp [h]), if_pos h]; rfl
  · rw [List.filter_cons_of_pos (by simp [h]), if_neg h]; rfl
def SC (b : Nat → Int32) (n s m : Nat) (sN : List Int64) (ro mx : List Int32) (vN : List Int64) (w : Int32 × Int32) (M : Mem) (i o pr : Nat) (σ ν : List Nat) (Y : List Cd) : Prop := CoR b n s m sN ro mx vN M ∧ (n ≤ 800 ∧ s ≤ n ∧ i ≤ s) ∧ mI M 29 5 = Int32.ofNat i ∧ W6 M w ∧ mI M 29 33 = Int32.ofNat o ∧ mI M 29 32 = Int32.ofNat pr ∧ St M 52 29 0 σ ∧ St M 53 31 (410 * m) ν ∧ YR sN.length M m Y ∧ ((2 * (Y.length + wt σ) ≤ bt b n i ∧ σ.length ≤ i) ∧ ν.length ≤ i ∧ o ≤ 15 ∧ pr ≤ i ∧ ∀ x ∈ ν, x < Y.length)
section
variable {b : Nat → Int32} {n s m : Nat} {sN : List Int64} {ro mx : List Int32} {vN : List Int64} {w : Int32 × Int32} {M : Mem} {i o pr : Nat} {σ ν : List Nat} {Y : List Cd} {h : Nat} {Q : Option Value → Mem → Prop}
theorem G_popped {x : Nat} (hR : SC b n s m sN ro mx vN w M i o pr σ (x :: ν) Y) (H : ∀ M', SC b n s m sN ro mx vN w M' i o pr σ ν Y → RFc m M M' → Q (some (.int (Int32.ofNat (410 * m + x)))) M') : E (h + 1) mdX11_popped [.ref 29] M Q := by
  obtain ⟨h1, h2, h3, h4, h5, h6, h7, h8, h9, h10⟩ := hR
  have F := h1.1
  have hl : ν.length + 1 ≤ i := h10.2.1
  refine KX11_popped ?_
  unfold DX11_popped_0
  have e31 : mI M 29 31 = Int32.ofNat (ν.length + 1) := h8.1
  rw [e31, dec32 (by omega)]
  refine ⟨ok29 F, fun M2 e2 => ?_⟩
  have F2 : Fix M2 := by rw [e2]; exact F.i
  have i2 : mI M2 29 31 = Int32.ofNat ν.length := by rw [e2]; exact mI_own _ _ _ _
  have t2 : mAI M2 53 ν.length = Int32.ofNat (410 * m + x) := by rw [e2, mAI_wI]; exact h8.top
  rw [i2, lt32 (by omega)]
  refine ⟨53, rf29_30 F2, ok53 F2, by rw [ln53 F2]; exact vp_of (by omega) (by decide), ?_⟩
  rw [t2]
  have fr : RFc m M M2 := by rw [e2]; exact RFc.i (by decide)
  exact H M2 ⟨h1.frc fr, h2, by rw [e2]; simp [h3, mNwI, mSwI, mKwI, mIwI, mJwI, mRwI, mLwI, mAIwI, mAJwI, mARwI, mNwJ, mSwJ, mKwJ, mIwJ, mJwJ, mRwJ, mLwJ, mAIwJ, mAJwJ, mARwJ, mNwR, mSwR, mKwR, mIwR, mJwR, mRwR, mLwR, mAIwR, mAJwR, mARwR, mNwAI, mSwAI, mKwAI, mIwAI, mJwAI, mRwAI, mLwAI, mAIwAI, mAJwAI, mARwAI, mNwAJ, mSwAJ, mKwAJ, mIwAJ, mJwAJ, mRwAJ, mLwAJ, mAIwAJ, mAJwAJ, mARwAJ, mNwAR, mSwAR, mKwAR, mIwAR, mJwAR, mRwAR, mLwAR, mAIwAR, mAJwAR, mARwAR, okkwI, okkwJ, okkwR, okkwAI, okkwAJ, okkwAR], h4.fr (by rw [e2]; simp [mNwI, mSwI, mKwI, mIwI, mJwI, mRwI, mLwI, mAIwI, mAJwI, mARwI, mNwJ, mSwJ, mKwJ, mIwJ, mJwJ, mRwJ, mLwJ, mAIwJ, mAJwJ, mARwJ, mNwR, mSwR, mKwR, mIwR, mJwR, mRwR, mLwR, mAIwR, mAJwR, mARwR, mNwAI, mSwAI, mKwAI, mIwAI, mJwAI, mRwAI, mLwAI, mAIwAI, mAJwAI, mARwAI, mNwAJ, mSwAJ, mKwAJ, mIwAJ, mJwAJ, mRwAJ, mLwAJ, mAIwAJ, mAJwAJ, mARwAJ, mNwAR, mSwAR, mKwAR, mIwAR, mJwAR, mRwAR, mLwAR, mAIwAR, mAJwAR, mARwAR, okkwI, okkwJ, okkwR, okkwAI, okkwAJ, okkwAR]) (by rw [e2]; simp [mNwI, mSwI, mKwI, mIwI, mJwI, mRwI, mLwI, mAIwI, mAJwI, mARwI, mNwJ, mSwJ, mKwJ, mIwJ, mJwJ, mRwJ, mLwJ, mAIwJ, mAJwJ, mARwJ, mNwR, mSwR, mKwR, mIwR, mJwR, mRwR, mLwR, mAIwR, mAJwR, mARwR, mNwAI, mSwAI, mKwAI, mIwAI, mJwAI, mRwAI, mLwAI, mAIwAI, mAJwAI, mARwAI, mNwAJ, mSwAJ, mKwAJ, mIwAJ, mJwAJ, mRwAJ, mLwAJ, mAIwAJ, mAJwAJ, mARwAJ, mNwAR, mSwAR, mKwAR, mIwAR, mJwAR, mRwAR, mLwAR, mAIwAR, mAJwAR, mARwAR, okkwI, okkwJ, okkwR, okkwAI, okkwAJ, okkwAR]), by rw [e2]; simp [h5, mNwI, mSwI, mKwI, mIwI, mJwI, mRwI, mLwI, mAIwI, mAJwI, mARwI, mNwJ, mSwJ, mKwJ, mIwJ, mJwJ, mRwJ, mLwJ, mAIwJ, mAJwJ, mARwJ, mNwR, mSwR, mKwR, mIwR, mJwR, mRwR, mLwR, mAIwR, mAJwR, mARwR, mNwAI, mSwAI, mKwAI, mIwAI, mJwAI, mRwAI, mLwAI, mAIwAI, mAJwAI, mARwAI, mNwAJ, mSwAJ, mKwAJ, mIwAJ, mJwAJ, mRwAJ, mLwAJ, mAIwAJ, mAJwAJ, mARwAJ, mNwAR, mSwAR, mKwAR, mIwAR, mJwAR, mRwAR, mLwAR, mAIwAR, mAJwAR, mARwAR, okkwI, okkwJ, okkwR, okkwAI, okkwAJ, okkwAR], by rw [e2]; simp [h6, mNwI, mSwI, mKwI, mIwI, mJwI, mRwI, mLwI, mAIwI, mAJwI, mARwI, mNwJ, mSwJ, mKwJ, mIwJ, mJwJ, mRwJ, mLwJ, mAIwJ, mAJwJ, mARwJ, mNwR, mSwR, mKwR, mIwR, mJwR, mRwR, mLwR, mAIwR, mAJwR, mARwR, mNwAI, mSwAI, mKwAI, mIwAI, mJwAI, mRwAI, mLwAI, mAIwAI, mAJwAI, mARwAI, mNwAJ, mSwAJ, mKwAJ, mIwAJ, mJwAJ, mRwAJ, mLwAJ, mAIwAJ, mAJwAJ, mARwAJ, mNwAR, mSwAR, mKwAR, mIwAR, mJwAR, mRwAR, mLwAR, mAIwAR, mAJwAR, mARwAR, okkwI, okkwJ, okkwR, okkwAI, okkwAJ, okkwAR], h7.fr (by rw [e2]; simp [mNwI, mSwI, mKwI, mIwI, mJwI, mRwI, mLwI, mAIwI, mAJwI, mARwI, mNwJ, mSwJ, mKwJ, mIwJ, mJwJ, mRwJ, mLwJ, mAIwJ, mAJwJ, mARwJ, mNwR, mSwR, mKwR, mIwR, mJwR, mRwR, mLwR, mAIwR, mAJwR, mARwR, mNwAI, mSwAI, mKwAI, mIwAI, mJwAI, mRwAI, mLwAI, mAIwAI, mAJwAI, mARwAI, mNwAJ, mSwAJ, mKwAJ, mIwAJ, mJwAJ, mRwAJ, mLwAJ, mAIwAJ, mAJwAJ, mARwAJ, mNwAR, mSwAR, mKwAR, mIwAR, mJwAR, mRwAR, mLwAR, mAIwAR, mAJwAR, mARwAR, okkwI, okkwJ, okkwR, okkwAI, okkwAJ, okkwAR]) (by rw [e2]; rfl), h8.pop e2, h9.fr (by rw [e2]; rfl) (by rw [e2]; rfl) (by rw [e2]; rfl) (by rw [e2]; rfl) (by rw [e2]; rfl), h10.1, by omega, h10.2.2.1, h10.2.2.2.1, fun y hy => h10.2.2.2.2 y (List.mem_cons_of_mem _ hy)⟩ fr
/-- a node is put down behind the others -/
theorem G_cond {d : Cd} {va vb : Int32} (h1 : CoR b n s m sN ro mx vN M) (h9 : YR 0 M m Y) (hx : Y.length < 410) (ha : va = ya m d) (hb : vb = yb m d) (hp : ∀ k, k < sN.length → mAI M 40 (16 * m + k) = if pq (Y ++ [d]) k = true then 1 else 0) (H : ∀ M', YR sN.length M' m (Y ++ [d]) → (∀ f, mI M' 29 f = mI M 29 f) → mAI M' 52 = mAI M 52 → mAI M' 53 = mAI M 53 → CoR b n s m sN ro mx vN M' → RFc m M M' → Q (some (.int (Int32.ofNat (410 * m + Y.length)))) M') : E (h + 1) mdX11_cond [.ref 29, .int (Int32.ofNat d.1), .int va, .int vb] M Q := by
  have F := h1.1
  have hm := h1.2.2.2.1
  have e19 : mI M 29 19 = Int32.ofNat m := h1.2.2.1
  refine KX11_cond ?_
  unfold DX11_cond_0
  have ek : (410 : Int32) * Int32.ofNat m + Int32.ofNat Y.length = Int32.ofNat (410 * m + Y.length) := by
    rw [show (410 : Int32) = Int32.ofNat 410 from rfl, mul32, add32]
  rw [e19, lt32 (by omega)]
  refine ⟨ok29 F, 44, rf29_20 F, ok44 F, by rw [ln44 F]; exact vp_of hm (by decide), 44, rf29_20 F, ok44 F, by rw [ln44 F]; exact vp_of hm (by decide), by rw [ln44 F]; exact vp_of hm (by decide), fun A a => ?_⟩
  rw [h9.1, succ32] at a
  rw [h9.1, ek, lt32 (by omega)]
  have FA : Fix A := by rw [a]; exact F.ai
  refine ⟨45, rf29_21 FA, ok45 FA, by rw [ln45 FA]; exact vp_of (by omega) (by decide), fun B bb => ?_⟩
  have FB : Fix B := by rw [bb]; exact FA.ai
  refine ⟨46, rf29_22 FB, ok46 FB, by rw [ln46 FB]; exact vp_of (by omega) (by decide), fun C c => ?_⟩
  have FC : Fix C := by rw [c]; exact FB.ai
  refine ⟨47, rf29_23 FC, ok47 FC, by rw [ln47 FC]; exact vp_of (by omega) (by decide), fun D dd => ?_⟩
  have eD : D = wAI (wAI (wAI (wAI M 44 m (Int32.ofNat (Y.length + 1))) 45 (410 * m + Y.length) (Int32.ofNat d.1)) 46 (410 * m + Y.length) va) 47 (410 * m + Y.length) vb := by rw [dd, c, bb, a]
  have iD : ∀ f, mI D 29 f = mI M 29 f := fun f => by rw [eD]; rfl
  have sd : ∀ q, q ≠ 44 → q ≠ 45 → q ≠ 46 → q ≠ 47 → mAI D q = mAI M q := fun q q1 q2 q3 q4 => by rw [eD, mAI_wAI_ne q4, mAI_wAI_ne q3, mAI_wAI_ne q2, mAI_wAI_ne q1]
  have fr : RFc m M D := by
    refine ⟨by rw [eD]; rfl, by rw [eD]; rfl, by rw [eD]; rfl, by rw [eD]; rfl, by rw [eD]; rfl, by rw [eD]; rfl, by rw [eD]; rfl, fun a _ => by rw [eD]; rfl, fun f _ => iD f, fun a q => ?_, by rw [eD]; rfl, fun j q => ?_, fun k q => ⟨?_, ?_, ?_⟩, fun k q => by rw [sd 40 (by decide) (by decide) (by decide) (by decide)]⟩
    · exact sd a (by rintro rfl; exact q (by decide)) (by rintro rfl; exact q (by decide)) (by rintro rfl; exact q (by decide)) (by rintro rfl; exact q (by decide))
    · rw [eD, mAI_wAI, if_neg (by omega), mAI_wAI, if_neg (by omega), mAI_wAI, if_neg (by omega), mAI_wAI, if_neg (by omega)]
    · rw [eD, mAI_wAI, if_neg (by omega), mAI_wAI, if_neg (by omega), mAI_wAI, if_neg (by omega), mAI_wAI, if_neg (by omega)]
    · rw [eD, mAI_wAI, if_neg (by omega), mAI_wAI, if_neg (by omega), mAI_wAI, if_neg (by omega), mAI_wAI, if_neg (by omega)]
    · rw [eD, mAI_wAI, if_neg (by omega), mAI_wAI, if_neg (by omega), mAI_wAI, if_neg (by omega), mAI_wAI, if_neg (by omega)]
  have xr : YR sN.length D m (Y ++ [d]) := by
    refine ⟨?_, fun k hk => ?_, fun k hk => ?_⟩
    · rw [eD, mAI_wAI, if_neg (by omega), mAI_wAI, if_neg (by omega), mAI_wAI, if_neg (by omega), mAI_wAI, if_pos ⟨rfl, rfl⟩, List.length_append]; rfl
    · rw [List.length_append] at hk
      have hk : k < Y.length + 1 := hk
      have eg : (Y ++ [d]).getD k cd0 = if k = Y.length then d else Y.getD k cd0 := by
        rw [List.getD_eq_getElem?_getD, List.getD_eq_getElem?_getD]
        by_cases q : k = Y.length
        · rw [if_pos q, q, List.getElem?_append_right (Nat.le_refl _), Nat.sub_self]; rfl
        · rw [if_neg q, List.getElem?_append_left (by omega)]
      rw [eg]
      by_cases q : k = Y.length
      · rw [if_pos q, q]
        refine ⟨?_, ?_, ?_⟩
        · rw [eD, mAI_wAI, if_neg (by omega), mAI_wAI, if_neg (by omega), mAI_wAI, if_pos ⟨rfl, rfl⟩]
        · rw [eD, mAI_wAI, if_neg (by omega), mAI_wAI, if_pos ⟨rfl, rfl⟩, ha]
        · rw [eD, mAI_wAI, if_pos ⟨rfl, rfl⟩, hb]
      · rw [if_neg q]
        obtain ⟨x1, x2, x3⟩ := h9.2.1 k (by omega)
        refine ⟨?_, ?_, ?_⟩
        · rw [eD, mAI_wAI, if_neg (by omega), mAI_wAI, if_neg (by omega), mAI_wAI, if_neg (by omega), mAI_wAI, if_neg (by omega)]; exact x1
        · rw [eD, mAI_wAI, if_neg (by omega), mAI_wAI, if_neg (by omega), mAI_wAI, if_neg (by omega), mAI_wAI, if_neg (by omega)]; exact x2
        · rw [eD, mAI_wAI, if_neg (by omega), mAI_wAI, if_neg (by omega), mAI_wAI, if_neg (by omega), mAI_wAI, if_neg (by omega)]; exact x3
    · rw [sd 40 (by decide) (by decide) (by decide) (by decide)]
      exact hp k hk
  exact H D xr iD (sd 52 (by decide) (by decide) (by decide) (by decide)) (sd 53 (by decide) (by decide) (by decide) (by decide)) (h1.frc fr) fr
end
def jc : List (Nat × Nat) → Nat → List Cd → Nat × List Cd
  | [], r, Y => (r, Y)
  | e :: π, r, Y => jc π Y.length (Y ++ [(e.1, e.2, r)])
theorem jc_app {e : Nat × Nat} : ∀ (π : List (Nat × Nat)) (r : Nat) (Y : List Cd), jc (π ++ [e]) r Y = ((jc π r Y).2.length, (jc π r Y).2 ++ [(e.1, e.2, (jc π r Y).1)]) := by
  intro π
  induction π with
  | nil => intro r Y; rfl
  | cons a π ih => intro r Y; exact ih _ _
def nc : Nat → Nat → List Cd → Nat × List Cd
  | 0, r, Y => (r, Y)
  | k + 1, r, Y => nc k Y.length (Y ++ [(2, r, 0)])
section
variable {b : Nat → Int32} {n s m : Nat} {sN : List Int64} {ro mx : List Int32} {vN : List Int64} {w : Int32 × Int32} {o pr : Nat} {h : Nat} {Q : Option Value → Mem → Prop}
theorem SC.opPop {M M' : Mem} {i : Nat} {x : Nat} {σ ν : List Nat} {Y : List Cd} {o' pr' : Nat} (h1 : CoR b n s m sN ro mx vN M) (h2 : n ≤ 800 ∧ s ≤ n ∧ i ≤ s) (h3 : mI M 29 5 = Int32.ofNat i) (h4 : W6 M w) (h7 : St M 52 29 0 (x :: σ)) (h8 : St M 53 31 (410 * m) ν) (h9 : YR sN.length M m Y) (h10 : (2 * (Y.length + wt σ) ≤ bt b n i ∧ σ.length ≤ i) ∧ ν.length ≤ i ∧ o' ≤ 15 ∧ pr' ≤ i ∧ ∀ x ∈ ν, x < Y.length) (fr : RFc m M M') (e5 : mI M' 29 5 = mI M 29 5) (e6 : mI M' 29 6 = mI M 29 6) (e7 : mI M' 29 7 = mI M 29 7) (e29 : mI M' 29 29 = Int32.ofNat σ.length) (e31 : mI M' 29 31 = mI M 29 31) (e33 : mI M' 29 33 = Int32.ofNat o') (e32 : mI M' 29 32 = Int32.ofNat pr') (eA : mAI M' = mAI M) : SC b n s m sN ro mx vN w M' i o' pr' σ ν Y := by
  refine ⟨h1.frc fr, h2, e5.trans h3, h4.fr e6 e7, e33, e32, ⟨e29, fun j hj => ?_⟩, h8.fr e31 (by rw [eA]), h9.fr (by rw [eA]) (by rw [eA]) (by rw [eA]) (by rw [eA]) (by rw [eA]), h10⟩
  have := h7.2 j (Nat.lt_succ_of_lt hj)
  rw [rev_app (Nat.lt_succ_of_lt hj), if_neg (by omega)] at this
  rw [eA]
  exact this
/-- a new node takes the place of others on the stack; the operator on top goes -/
theorem G_node {M : Mem} {i x : Nat} {σ N : List Nat} {Y : List Cd} {d : Cd} {va vb : Int32} {K : Mem → Prop} (hz : ∀ i, n ≤ i → b i = 0) (R2 : SC b n s m sN ro mx vN w M i o pr (x :: σ) N Y) (hx5 : x ≠ 5) (hN : N.length + 1 ≤ i) (ha : va = ya m d) (hb : vb = yb m d) (hd : d.1 ≠ 1) (H : ∀ M5, (∀ f, f ≠ 31 → mI M5 29 f = mI M 29 f) → (∀ M', mI M' 29 5 = mI M5 29 5 → mI M' 29 6 = mI M5 29 6 → mI M' 29 7 = mI M5 29 7 → mI M' 29 29 = Int32.ofNat σ.length → mI M' 29 31 = mI M5 29 31 → (∀ o', o' ≤ 15 → mI M' 29 33 = Int32.ofNat o' → mI M' 29 32 = Int32.ofNat pr → mAI M' = mAI M5 → RFc m M5 M' → SC b n s m sN ro mx vN w M' i o' pr σ (Y.length :: N) (Y ++ [d]))) → RFc m M M5 → K M5) :
    E (h + 1) mdX11_cond [.ref 29, .int (Int32.ofNat d.1), .int va, .int vb] M (fun r M6 => mE M M6 → ∃ r7 : Int32, r = some (.int r7) ∧ E (h + 1) mdX11_pushed [.ref 29, .int r7] M6 (fun r M8 => mE M6 M8 → r = none ∧ K M8)) := by
  have hi := R2.2.1
  obtain ⟨h1, h2, h3, h4, h5, h6, h7, h8, h9, h10⟩ := id R2
  have hw : wt (x :: σ) = wt σ + 1 := by rw [wt_cons, if_neg hx5]
  have hbl := bt_le (b := b) (n := n) (i := i) hz
  have hYl : Y.length < 410 := by have := h10.1.1; rw [hw] at this; omega
  refine G_cond (d := d) h1 ⟨h9.1, h9.2.1, fun k hk => absurd hk (Nat.not_lt_zero _)⟩ hYl ha hb (fun k hk => by rw [h9.2.2 k hk, show pq (Y ++ [d]) k = pq Y k by unfold pq; rw [List.any_append]; simp [hd]]) (fun M3 x3 i3 s52 s53 c3 F3 _ => ⟨_, rfl, ?_⟩)
  refine KX11_pushed ?_
  unfold DX11_pushed_0
  have e31 : mI M3 29 31 = Int32.ofNat N.length := (i3 31).trans h8.1
  rw [e31, lt32 (by omega)]
  have FF := c3.1
  refine ⟨ok29 FF, 53, rf29_30 FF, ok53 FF, by rw [ln53 FF]; exact vp_of (by omega) (by decide), fun M4 e4 M5 e5 => ?_⟩
  have i4 : mI M4 29 31 = Int32.ofNat N.length := by rw [e4, mI_wAI]; exact e31
  rw [i4, succ32, e4] at e5
  have g : ∀ f, f ≠ 31 → mI M5 29 f = mI M 29 f := by intro f hf; rw [e5]; simp [hf, i3, mNwI, mSwI, mKwI, mIwI, mJwI, mRwI, mLwI, mAIwI, mAJwI, mARwI, mNwJ, mSwJ, mKwJ, mIwJ, mJwJ, mRwJ, mLwJ, mAIwJ, mAJwJ, mARwJ, mNwR, mSwR, mKwR, mIwR, mJwR, mRwR, mLwR, mAIwR, mAJwR, mARwR, mNwAI, mSwAI, mKwAI, mIwAI, mJwAI, mRwAI, mLwAI, mAIwAI, mAJwAI, mARwAI, mNwAJ, mSwAJ, mKwAJ, mIwAJ, mJwAJ, mRwAJ, mLwAJ, mAIwAJ, mAJwAJ, mARwAJ, mNwAR, mSwAR, mKwAR, mIwAR, mJwAR, mRwAR, mLwAR, mAIwAR, mAJwAR, mARwAR, okkwI, okkwJ, okkwR, okkwAI, okkwAJ, okkwAR]
  have st3 : St M3 53 31 (410 * m) N := h8.fr (i3 31) s53
  have st5 : St M5 53 31 (410 * m) (Y.length :: N) := st3.push e5
  have F5 : RFc m M3 M5 := by rw [e5]; exact (RFc.st (Or.inr rfl)).tr (RFc.i (by decide))
  have a52 : mAI M5 52 = mAI M 52 := by rw [e5, mAI_wI, mAI_wAI_ne (by decide)]; exact s52
  have ops5 : St M5 52 29 0 (x :: σ) := h7.fr (g 29 (by decide)) a52
  have rw5 : ∀ q, q ≠ 53 → mAI M5 q = mAI M3 q := fun q hq => by rw [e5, mAI_wI]; exact mAI_wAI_ne hq
  have x5 : YR sN.length M5 m (Y ++ [d]) := x3.fr (rw5 40 (by decide)) (rw5 44 (by decide)) (rw5 45 (by decide)) (rw5 46 (by decide)) (rw5 47 (by decide))
  refine fun _ => ⟨rfl, H M5 g (fun M' q5 q6 q7 q29 q31 o' ho' q33 q32 qA fr => ?_) (F3.tr F5)⟩
  have hl : σ.length + 1 ≤ i := h10.1.2
  refine SC.opPop (M := M5) (x := x) (c3.frc F5) hi ((g 5 (by decide)).trans h3) (h4.fr (g 6 (by decide)) (g 7 (by decide))) ops5 st5 x5 ⟨⟨?_, by omega⟩, hN, ho', h10.2.2.2.1, fun y hy => ?_⟩ fr q5 q6 q7 q29 q31 q33 q32 qA
  · have := h10.1.1
    rw [hw] at this
    rw [List.length_append]
    show 2 * (Y.length + 1 + wt σ) ≤ _
    omega
  · rw [List.length_append]
    show y < Y.length + 1
    rcases List.mem_cons.mp hy with q | q
    · omega
    · have := h10.2.2.2.2 y q
      omega
theorem G_joinT {L : Nat} {σb νb : List Nat} (hz : ∀ i, n ≤ i → b i = 0) (hL : L = 3 ∨ L = 4) (hb : top? σb (fun x => x < 3 ∨ L < x)) : ∀ (π : List (Nat × Nat)) (r : Nat) (Y : List Cd) (M : Mem) (i : Nat), (∀ e ∈ π, 3 ≤ e.1 ∧ e.1 ≤ L) → (∀ x ∈ σb, x < 100) → SC b n s m sN ro mx vN w M i o pr (π.map Prod.fst ++ σb) (r :: (π.map Prod.snd ++ νb)) Y → (∀ M', SC b n s m sN ro mx vN w M' i o pr σb ((jc π r Y).1 :: νb) (jc π r Y).2 → RFc m M M' → Q none M') → T (h + 3) mdX11_joinConds 0 [(0, .ref 29), (1, .int (Int32.ofNat L))] [] M Q := by
  intro π
  have hL9 : L < 5 := by omega
  induction π with
  | nil =>
    intro r Y M i _ h100 hR H
    have hR : SC b n s m sN ro mx vN w M i o pr σb (r :: νb) Y := hR
    have F := hR.1.1
    have HQ : Q none M := H M hR RFc.rf
    have hi := hR.2.1
    have h7 := hR.2.2.2.2.2.2.1
    have h10 := hR.2.2.2.2.2.2.2.2.2
    clear H hR
    refine VX11_joinConds_0 ?_
    unfold DX11_joinConds_0 DX11_joinConds_81
    rw [h7.1]
    cases σb with
    | nil => exact ⟨ok29 F, fun _ => HQ, fun hc => absurd (by decide) hc⟩
    | cons x σ =>
      have hl : σ.length + 1 ≤ i := h10.1.2
      have e1 : Int32.ofNat (x :: σ).length - 1 = Int32.ofNat σ.length := sub32 (c := 1) (a := σ.length + 1) (by omega) (by omega)
      have tp := h7.top
      rw [Nat.zero_add] at tp
      have hx : x < 100 := h100 x List.mem_cons_self
      rw [e1, lt32 (by omega)]
      refine ⟨ok29 F, fun _ => HQ, fun _ => ⟨52, rf29_28 F, ok52 F, by rw [ln52 F]; exact vp_of (by omega) (by decide), fun _ => HQ, fun q => ⟨52, rf29_28 F, ok52 F, by rw [ln52 F]; exact vp_of (by omega) (by decide), fun _ => HQ, fun q2 => ?_⟩⟩⟩
      exfalso
      rw [tp] at q q2
      rcases hb with z | z
      · exact q ((ltn32 (b := 3) (by omega) (by decide)).mpr z)
      · exact q2 ((ltn32 (by omega) (by omega)).mpr z)
  | cons e π ih =>
    intro r Y M i hπ h100 hR H
    obtain ⟨q4, qL⟩ := hπ e List.mem_cons_self
    have hR : SC b n s m sN ro mx vN w M i o pr (e.1 :: (π.map Prod.fst ++ σb)) (r :: e.2 :: (π.map Prod.snd ++ νb)) Y := hR
    have F := hR.1.1
    have hi := hR.2.1
    have h7 := hR.2.2.2.2.2.2.1
    have h10 := hR.2.2.2.2.2.2.2.2.2
    have hl : (π.map Prod.fst ++ σb).length + 1 ≤ i := h10.1.2
    generalize hS : π.map Prod.fst ++ σb = S at *
    generalize hN : π.map Prod.snd ++ νb = N at *
    refine VX11_joinConds_0 ?_
    unfold DX11_joinConds_0
    have e29 : mI M 29 29 = Int32.ofNat (S.length + 1) := h7.1
    have e1 : Int32.ofNat (S.length + 1) - 1 = Int32.ofNat S.length := sub32 (c := 1) (by omega) (by omega)
    have tp := h7.top
    rw [Nat.zero_add] at tp
    rw [e29, e1, lt32 (by omega)]
    refine ⟨ok29 F, fun hc => ?_, fun _ => ⟨52, rf29_28 F, ok52 F, by rw [ln52 F]; exact vp_of (by omega) (by decide), fun hc => ?_, fun _ => ⟨52, rf29_28 F, ok52 F, by rw [ln52 F]; exact vp_of (by omega) (by decide), fun hc => ?_, fun _ => ?_⟩⟩⟩
    · exact absurd ((le32 (b := 0) (by omega) (by decide)).mp hc) (by omega)
    · rw [tp] at hc
      exact absurd ((ltn32 (b := 3) (by omega) (by decide)).mp hc) (by omega)
    · rw [tp] at hc
      exact absurd ((ltn32 (by omega) (by omega)).mp hc) (by omega)
    refine G_popped hR (fun M1 R1 F1 _ => ⟨_, rfl, G_popped R1 (fun M2 R2 F2 _ => ⟨_, rfl, 52, rf29_28 R2.1.1, ok52 R2.1.1, ?_⟩)⟩)
    have e29b : mI M2 29 29 = Int32.ofNat (S.length + 1) := R2.2.2.2.2.2.2.1.1
    have tp2 := R2.2.2.2.2.2.2.1.top
    rw [Nat.zero_add] at tp2
    rw [e29b, e1, lt32 (by omega), tp2]
    refine ⟨by rw [ln52 R2.1.1]; exact vp_of (by omega) (by decide), ?_⟩
    have hN2 : N.length + 2 ≤ i := h10.2.1
    refine G_node (d := (e.1, e.2, r)) hz R2 (by omega) (by omega) ?_ ?_ (by show e.1 ≠ 1; omega) (fun M5 g fin F5 M6 e6 => ?_)
    · unfold ya; rw [if_neg (by show ¬ e.1 < 2; omega)]
    · unfold yb; rw [if_neg (by show ¬ e.1 ≤ 2; omega)]
    rw [(g 29 (by decide)).trans e29b, e1] at e6
    have F6 : RFc m M5 M6 := by rw [e6]; exact RFc.i (by decide)
    have SC6 := fin M6 (by rw [e6]; simp [mNwI, mSwI, mKwI, mIwI, mJwI, mRwI, mLwI, mAIwI, mAJwI, mARwI, mNwJ, mSwJ, mKwJ, mIwJ, mJwJ, mRwJ, mLwJ, mAIwJ, mAJwJ, mARwJ, mNwR, mSwR, mKwR, mIwR, mJwR, mRwR, mLwR, mAIwR, mAJwR, mARwR, mNwAI, mSwAI, mKwAI, mIwAI, mJwAI, mRwAI, mLwAI, mAIwAI, mAJwAI, mARwAI, mNwAJ, mSwAJ, mKwAJ, mIwAJ, mJwAJ, mRwAJ, mLwAJ, mAIwAJ, mAJwAJ, mARwAJ, mNwAR, mSwAR, mKwAR, mIwAR, mJwAR, mRwAR, mLwAR, mAIwAR, mAJwAR, mARwAR, okkwI, okkwJ, okkwR, okkwAI, okkwAJ, okkwAR]) (by rw [e6]; simp [mNwI, mSwI, mKwI, mIwI, mJwI, mRwI, mLwI, mAIwI, mAJwI, mARwI, mNwJ, mSwJ, mKwJ, mIwJ, mJwJ, mRwJ, mLwJ, mAIwJ, mAJwJ, mARwJ, mNwR, mSwR, mKwR, mIwR, mJwR, mRwR, mLwR, mAIwR, mAJwR, mARwR, mNwAI, mSwAI, mKwAI, mIwAI, mJwAI, mRwAI, mLwAI, mAIwAI, mAJwAI, mARwAI, mNwAJ, mSwAJ, mKwAJ, mIwAJ, mJwAJ, mRwAJ, mLwAJ, mAIwAJ, mAJwAJ, mARwAJ, mNwAR, mSwAR, mKwAR, mIwAR, mJwAR, mRwAR, mLwAR, mAIwAR, mAJwAR, mARwAR, okkwI, okkwJ, okkwR, okkwAI, okkwAJ, okkwAR]) (by rw [e6]; simp [mNwI, mSwI, mKwI, mIwI, mJwI, mRwI, mLwI, mAIwI, mAJwI, mARwI, mNwJ, mSwJ, mKwJ, mIwJ, mJwJ, mRwJ, mLwJ, mAIwJ, mAJwJ, mARwJ, mNwR, mSwR, mKwR, mIwR, mJwR, mRwR, mLwR, mAIwR, mAJwR, mARwR, mNwAI, mSwAI, mKwAI, mIwAI, mJwAI, mRwAI, mLwAI, mAIwAI, mAJwAI, mARwAI, mNwAJ, mSwAJ, mKwAJ, mIwAJ, mJwAJ, mRwAJ, mLwAJ, mAIwAJ, mAJwAJ, mARwAJ, mNwAR, mSwAR, mKwAR, mIwAR, mJwAR, mRwAR, mLwAR, mAIwAR, mAJwAR, mARwAR, okkwI, okkwJ, okkwR, okkwAI, okkwAJ, okkwAR]) (by rw [e6]; simp [mNwI, mSwI, mKwI, mIwI, mJwI, mRwI, mLwI, mAIwI, mAJwI, mARwI, mNwJ, mSwJ, mKwJ, mIwJ, mJwJ, mRwJ, mLwJ, mAIwJ, mAJwJ, mARwJ, mNwR, mSwR, mKwR, mIwR, mJwR, mRwR, mLwR, mAIwR, mAJwR, mARwR, mNwAI, mSwAI, mKwAI, mIwAI, mJwAI, mRwAI, mLwAI, mAIwAI, mAJwAI, mARwAI, mNwAJ, mSwAJ, mKwAJ, mIwAJ, mJwAJ, mRwAJ, mLwAJ, mAIwAJ, mAJwAJ, mARwAJ, mNwAR, mSwAR, mKwAR, mIwAR, mJwAR, mRwAR, mLwAR, mAIwAR, mAJwAR, mARwAR, okkwI, okkwJ, okkwR, okkwAI, okkwAJ, okkwAR]) (by rw [e6]; simp [mNwI, mSwI, mKwI, mIwI, mJwI, mRwI, mLwI, mAIwI, mAJwI, mARwI, mNwJ, mSwJ, mKwJ, mIwJ, mJwJ, mRwJ, mLwJ, mAIwJ, mAJwJ, mARwJ, mNwR, mSwR, mKwR, mIwR, mJwR, mRwR, mLwR, mAIwR, mAJwR, mARwR, mNwAI, mSwAI, mKwAI, mIwAI, mJwAI, mRwAI, mLwAI, mAIwAI, mAJwAI, mARwAI, mNwAJ, mSwAJ, mKwAJ, mIwAJ, mJwAJ, mRwAJ, mLwAJ, mAIwAJ, mAJwAJ, mARwAJ, mNwAR, mSwAR, mKwAR, mIwAR, mJwAR, mRwAR, mLwAR, mAIwAR, mAJwAR, mARwAR, okkwI, okkwJ, okkwR, okkwAI, okkwAJ, okkwAR]) o h10.2.2.1 (by rw [e6]; simp [g, R2.2.2.2.2.1, mNwI, mSwI, mKwI, mIwI, mJwI, mRwI, mLwI, mAIwI, mAJwI, mARwI, mNwJ, mSwJ, mKwJ, mIwJ, mJwJ, mRwJ, mLwJ, mAIwJ, mAJwJ, mARwJ, mNwR, mSwR, mKwR, mIwR, mJwR, mRwR, mLwR, mAIwR, mAJwR, mARwR, mNwAI, mSwAI, mKwAI, mIwAI, mJwAI, mRwAI, mLwAI, mAIwAI, mAJwAI, mARwAI, mNwAJ, mSwAJ, mKwAJ, mIwAJ, mJwAJ, mRwAJ, mLwAJ, mAIwAJ, mAJwAJ, mARwAJ, mNwAR, mSwAR, mKwAR, mIwAR, mJwAR, mRwAR, mLwAR, mAIwAR, mAJwAR, mARwAR, okkwI, okkwJ, okkwR, okkwAI, okkwAJ, okkwAR]) (by rw [e6]; simp [g, R2.2.2.2.2.2.1, mNwI, mSwI, mKwI, mIwI, mJwI, mRwI, mLwI, mAIwI, mAJwI, mARwI, mNwJ, mSwJ, mKwJ, mIwJ, mJwJ, mRwJ, mLwJ, mAIwJ, mAJwJ, mARwJ, mNwR, mSwR, mKwR, mIwR, mJwR, mRwR, mLwR, mAIwR, mAJwR, mARwR, mNwAI, mSwAI, mKwAI, mIwAI, mJwAI, mRwAI, mLwAI, mAIwAI, mAJwAI, mARwAI, mNwAJ, mSwAJ, mKwAJ, mIwAJ, mJwAJ, mRwAJ, mLwAJ, mAIwAJ, mAJwAJ, mARwAJ, mNwAR, mSwAR, mKwAR, mIwAR, mJwAR, mRwAR, mLwAR, mAIwAR, mAJwAR, mARwAR, okkwI, okkwJ, okkwR, okkwAI, okkwAJ, okkwAR]) (by rw [e6]; rfl) F6
    subst hS hN
    exact ih Y.length (Y ++ [(e.1, e.2, r)]) M6 i (fun y hy => hπ y (List.mem_cons_of_mem _ hy)) h100 SC6 (fun M7 R7 F7 => H M7 R7 ((((F1.tr F2).tr F5).tr F6).tr F7))
theorem G_notsT {σ0 ν0 : List Nat} (hz : ∀ i, n ≤ i → b i = 0) (ht : top? σ0 (fun x => x ≠ 2)) (h100 : ∀ x ∈ σ0, x < 100) : ∀ (k : Nat) (M : Mem) (i o r : Nat) (Y : List Cd), SC b n s m sN ro mx vN w M i (o + k) pr (List.replicate k 2 ++ σ0) (r :: ν0) Y → (∀ M', SC b n s m sN ro mx vN w M' i o pr σ0 ((nc k r Y).1 :: ν0) (nc k r Y).2 → RFc m M M' → Q none M') → T (h + 2) mdX11_closeNots 0 [(0, .ref 29)] [] M Q := by
  intro k
  induction k with
  | zero =>
    intro M i o r Y hR H
    have hR : SC b n s m sN ro mx vN w M i o pr σ0 (r :: ν0) Y := by simpa using hR
    have HQ := H M hR RFc.rf
    have F := hR.1.1
    have hi := hR.2.1
    have h7 := hR.2.2.2.2.2.2.1
    have h10 := hR.2.2.2.2.2.2.2.2.2
    refine VX11_closeNots_0 ?_
    unfold DX11_closeNots_0 DX11_closeNots_59
    rw [h7.1]
    cases σ0 with
    | nil => exact ⟨ok29 F, fun _ => HQ, fun hc => absurd (by decide) hc⟩
    | cons x σ =>
      have hl : σ.length + 1 ≤ i := h10.1.2
      have tp := h7.top
      rw [Nat.zero_add] at tp
      have hx := h100 x List.mem_cons_self
      rw [show Int32.ofNat (x :: σ).length - 1 = Int32.ofNat σ.length from sub32 (c := 1) (a := σ.length + 1) (by omega) (by omega), lt32 (by omega)]
      refine ⟨ok29 F, fun _ => HQ, fun _ => ⟨52, rf29_28 F, ok52 F, by rw [ln52 F]; exact vp_of (by omega) (by decide), fun _ => HQ, fun q => ?_⟩⟩
      rw [tp] at q
      exact absurd (inj32 (b := 2) (by omega) (by decide) q) ht
  | succ k ih =>
    intro M i o r Y hR H
    have hR : SC b n s m sN ro mx vN w M i (o + k + 1) pr (2 :: (List.replicate k 2 ++ σ0)) (r :: ν0) Y := hR
    have F := hR.1.1
    have hi := hR.2.1
    have h7 := hR.2.2.2.2.2.2.1
    have h10 := hR.2.2.2.2.2.2.2.2.2
    have ihk := ih
    clear ih
    generalize hS : List.replicate k 2 ++ σ0 = S at hR h7 h10
    have hl : S.length + 1 ≤ i := h10.1.2
    have e29 : mI M 29 29 = Int32.ofNat (S.length + 1) := h7.1
    have e1 : Int32.ofNat (S.length + 1) - 1 = Int32.ofNat S.length := sub32 (c := 1) (by omega) (by omega)
    have tp := h7.top
    rw [Nat.zero_add] at tp
    have hN2 : ν0.length + 1 ≤ i := h10.2.1
    have ho := h10.2.2.1
    refine VX11_closeNots_0 ?_
    unfold DX11_closeNots_0
    rw [e29, e1, lt32 (by omega)]
    refine ⟨ok29 F, fun hc => ?_, fun _ => ⟨52, rf29_28 F, ok52 F, by rw [ln52 F]; exact vp_of (by omega) (by decide), fun hc => ?_, fun _ => ?_⟩⟩
    · exact absurd ((le32 (b := 0) (by omega) (by decide)).mp hc) (by omega)
    · rw [tp] at hc; exact absurd rfl hc
    · refine G_popped hR (fun M2 R2 F2 _ => ⟨_, rfl, ?_⟩)
      refine G_node (d := (2, r, 0)) hz R2 (by decide) hN2 rfl rfl (by show (2 : Nat) ≠ 1; decide) (fun M5 g fin F5 M6 e6 M7 e7 => ?_)
      rw [(g 29 (by decide)).trans R2.2.2.2.2.2.2.1.1, show Int32.ofNat (2 :: S).length - 1 = Int32.ofNat S.length from e1] at e6
      have i6 : mI M6 29 33 = Int32.ofNat (o + k + 1) := by rw [e6]; simp [g, R2.2.2.2.2.1, mNwI, mSwI, mKwI, mIwI, mJwI, mRwI, mLwI, mAIwI, mAJwI, mARwI, mNwJ, mSwJ, mKwJ, mIwJ, mJwJ, mRwJ, mLwJ, mAIwJ, mAJwJ, mARwJ, mNwR, mSwR, mKwR, mIwR, mJwR, mRwR, mLwR, mAIwR, mAJwR, mARwR, mNwAI, mSwAI, mKwAI, mIwAI, mJwAI, mRwAI, mLwAI, mAIwAI, mAJwAI, mARwAI, mNwAJ, mSwAJ, mKwAJ, mIwAJ, mJwAJ, mRwAJ, mLwAJ, mAIwAJ, mAJwAJ, mARwAJ, mNwAR, mSwAR, mKwAR, mIwAR, mJwAR, mRwAR, mLwAR, mAIwAR, mAJwAR, mARwAR, okkwI, okkwJ, okkwR, okkwAI, okkwAJ, okkwAR]
      rw [i6, dec32 (by omega), e6] at e7
      have F7 : RFc m M5 M7 := by rw [e7]; exact (RFc.i (by decide)).tr (RFc.i (by decide))
      have SC7 := fin M7 (by rw [e7]; simp [mNwI, mSwI, mKwI, mIwI, mJwI, mRwI, mLwI, mAIwI, mAJwI, mARwI, mNwJ, mSwJ, mKwJ, mIwJ, mJwJ, mRwJ, mLwJ, mAIwJ, mAJwJ, mARwJ, mNwR, mSwR, mKwR, mIwR, mJwR, mRwR, mLwR, mAIwR, mAJwR, mARwR, mNwAI, mSwAI, mKwAI, mIwAI, mJwAI, mRwAI, mLwAI, mAIwAI, mAJwAI, mARwAI, mNwAJ, mSwAJ, mKwAJ, mIwAJ, mJwAJ, mRwAJ, mLwAJ, mAIwAJ, mAJwAJ, mARwAJ, mNwAR, mSwAR, mKwAR, mIwAR, mJwAR, mRwAR, mLwAR, mAIwAR, mAJwAR, mARwAR, okkwI, okkwJ, okkwR, okkwAI, okkwAJ, okkwAR]) (by rw [e7]; simp [mNwI, mSwI, mKwI, mIwI, mJwI, mRwI, mLwI, mAIwI, mAJwI, mARwI, mNwJ, mSwJ, mKwJ, mIwJ, mJwJ, mRwJ, mLwJ, mAIwJ, mAJwJ, mARwJ, mNwR, mSwR, mKwR, mIwR, mJwR, mRwR, mLwR, mAIwR, mAJwR, mARwR, mNwAI, mSwAI, mKwAI, mIwAI, mJwAI, mRwAI, mLwAI, mAIwAI, mAJwAI, mARwAI, mNwAJ, mSwAJ, mKwAJ, mIwAJ, mJwAJ, mRwAJ, mLwAJ, mAIwAJ, mAJwAJ, mARwAJ, mNwAR, mSwAR, mKwAR, mIwAR, mJwAR, mRwAR, mLwAR, mAIwAR, mAJwAR, mARwAR, okkwI, okkwJ, okkwR, okkwAI, okkwAJ, okkwAR]) (by rw [e7]; simp [mNwI, mSwI, mKwI, mIwI, mJwI, mRwI, mLwI, mAIwI, mAJwI, mARwI, mNwJ, mSwJ, mKwJ, mIwJ, mJwJ, mRwJ, mLwJ, mAIwJ, mAJwJ, mARwJ, mNwR, mSwR, mKwR, mIwR, mJwR, mRwR, mLwR, mAIwR, mAJwR, mARwR, mNwAI, mSwAI, mKwAI, mIwAI, mJwAI, mRwAI, mLwAI, mAIwAI, mAJwAI, mARwAI, mNwAJ, mSwAJ, mKwAJ, mIwAJ, mJwAJ, mRwAJ, mLwAJ, mAIwAJ, mAJwAJ, mARwAJ, mNwAR, mSwAR, mKwAR, mIwAR, mJwAR, mRwAR, mLwAR, mAIwAR, mAJwAR, mARwAR, okkwI, okkwJ, okkwR, okkwAI, okkwAJ, okkwAR]) (by rw [e7]; simp [mNwI, mSwI, mKwI, mIwI, mJwI, mRwI, mLwI, mAIwI, mAJwI, mARwI, mNwJ, mSwJ, mKwJ, mIwJ, mJwJ, mRwJ, mLwJ, mAIwJ, mAJwJ, mARwJ, mNwR, mSwR, mKwR, mIwR, mJwR, mRwR, mLwR, mAIwR, mAJwR, mARwR, mNwAI, mSwAI, mKwAI, mIwAI, mJwAI, mRwAI, mLwAI, mAIwAI, mAJwAI, mARwAI, mNwAJ, mSwAJ, mKwAJ, mIwAJ, mJwAJ, mRwAJ, mLwAJ, mAIwAJ, mAJwAJ, mARwAJ, mNwAR, mSwAR, mKwAR, mIwAR, mJwAR, mRwAR, mLwAR, mAIwAR, mAJwAR, mARwAR, okkwI, okkwJ, okkwR, okkwAI, okkwAJ, okkwAR]) (by rw [e7]; simp [mNwI, mSwI, mKwI, mIwI, mJwI, mRwI, mLwI, mAIwI, mAJwI, mARwI, mNwJ, mSwJ, mKwJ, mIwJ, mJwJ, mRwJ, mLwJ, mAIwJ, mAJwJ, mARwJ, mNwR, mSwR, mKwR, mIwR, mJwR, mRwR, mLwR, mAIwR, mAJwR, mARwR, mNwAI, mSwAI, mKwAI, mIwAI, mJwAI, mRwAI, mLwAI, mAIwAI, mAJwAI, mARwAI, mNwAJ, mSwAJ, mKwAJ, mIwAJ, mJwAJ, mRwAJ, mLwAJ, mAIwAJ, mAJwAJ, mARwAJ, mNwAR, mSwAR, mKwAR, mIwAR, mJwAR, mRwAR, mLwAR, mAIwAR, mAJwAR, mARwAR, okkwI, okkwJ, okkwR, okkwAI, okkwAJ, okkwAR]) (o + k) (by omega) (by rw [e7]; simp [mNwI, mSwI, mKwI, mIwI, mJwI, mRwI, mLwI, mAIwI, mAJwI, mARwI, mNwJ, mSwJ, mKwJ, mIwJ, mJwJ, mRwJ, mLwJ, mAIwJ, mAJwJ, mARwJ, mNwR, mSwR, mKwR, mIwR, mJwR, mRwR, mLwR, mAIwR, mAJwR, mARwR, mNwAI, mSwAI, mKwAI, mIwAI, mJwAI, mRwAI, mLwAI, mAIwAI, mAJwAI, mARwAI, mNwAJ, mSwAJ, mKwAJ, mIwAJ, mJwAJ, mRwAJ, mLwAJ, mAIwAJ, mAJwAJ, mARwAJ, mNwAR, mSwAR, mKwAR, mIwAR, mJwAR, mRwAR, mLwAR, mAIwAR, mAJwAR, mARwAR, okkwI, okkwJ, okkwR, okkwAI, okkwAJ, okkwAR]) (by rw [e7]; simp [g, R2.2.2.2.2.2.1, mNwI, mSwI, mKwI, mIwI, mJwI, mRwI, mLwI, mAIwI, mAJwI, mARwI, mNwJ, mSwJ, mKwJ, mIwJ, mJwJ, mRwJ, mLwJ, mAIwJ, mAJwJ, mARwJ, mNwR, mSwR, mKwR, mIwR, mJwR, mRwR, mLwR, mAIwR, mAJwR, mARwR, mNwAI, mSwAI, mKwAI, mIwAI, mJwAI, mRwAI, mLwAI, mAIwAI, mAJwAI, mARwAI, mNwAJ, mSwAJ, mKwAJ, mIwAJ, mJwAJ, mRwAJ, mLwAJ, mAIwAJ, mAJwAJ, mARwAJ, mNwAR, mSwAR, mKwAR, mIwAR, mJwAR, mRwAR, mLwAR, mAIwAR, mAJwAR, mARwAR, okkwI, okkwJ, okkwR, okkwAI, okkwAJ, okkwAR]) (by rw [e7]; rfl) F7
      exact ihk M7 i o Y.length (Y ++ [(2, r, 0)]) (by rw [hS]; exact SC7) (fun M' R' F' => H M' R' (((F2.tr F5).tr F7).tr F'))
end
end
section
/-! the reference looks at its token -/
section
variable {b : Nat → Int32} {n i : Nat} {M : Mem} {h : Nat} {Q : Option Value → Mem → Prop}
/-- the token that stands -/
def Tk (b : Nat → Int32) (n : Nat) (M : Mem) (i : Nat) : Prop := Fix M ∧ By b ∧ RkR M b n i ∧ mI M 29 5 = Int32.ofNat i ∧ i < 802
theorem K_sign {k : Int32} {v : Int64} (hT : Tk b n M i) (hk : k ∈ sKs) (hv : v = sv k) (H1 : tK b n i = k → Q (some (.int 1)) M) (H0 : tK b n i ≠ k → Q (some (.int 0)) M) : E (h + 1) mdX11_isSaid [.ref 29, .int 3, .long v] M Q := by
  obtain ⟨F, hB, ⟨r1, r2, r3⟩, h5, h8⟩ := hT
  refine R_isSaid F h5 h8 ?_
  rw [r1, r3, hv]
  have e := said_sign (b := b) (n := n) (p := tP b n i) hB hk
  by_cases q : tK b n i = k
  · rw [if_pos (e.mpr q)]; exact H1 q
  · rw [if_neg (fun z => q (e.mp z))]; exact H0 q
theorem K_key {k : Int32} {v : Int64} {j : Nat} (hT : Tk b n M i) (hj : j < 33) (hk : k = 30 + Int32.ofNat j) (hv : v = key27.getD j 0) (H1 : tK b n i = k → Q (some (.int 1)) M) (H0 : tK b n i ≠ k → Q (some (.int 0)) M) : E (h + 1) mdX11_isSaid [.ref 29, .int 1, .long v] M Q := by
  obtain ⟨F, hB, ⟨r1, r2, r3⟩, h5, h8⟩ := hT
  refine R_isSaid F h5 h8 ?_
  rw [r1, r3, hv]
  have e := said_key (b := b) (n := n) (p := tP b n i) hB hj
  rw [← hk] at e
  by_cases q : tK b n i = k
  · rw [if_pos (e.mpr q)]; exact H1 q
  · rw [if_neg (fun z => q (e.mp z))]; exact H0 q
theorem K_name (hT : Tk b n M i) (H1 : tK b n i = 2 → Q (some (.int 1)) M) (H0 : tK b n i ≠ 2 → Q (some (.int 0)) M) : E (h + 2) mdX11_isName [.ref 29] M Q := by
  obtain ⟨F, hB, r, h5, h8⟩ := hT
  refine R_isName F hB h5 h8 r ?_
  by_cases q : tK b n i = 2
  · rw [if_pos q]; exact H1 q
  · rw [if_neg q]; exact H0 q
theorem Tk.nm (hT : Tk b n M i) (hk : tK b n i = 2) : NmR b n (tC b n i) (mAJ M 33 i) := ⟨tP b n i, name_WD hT.2.1 hk, rfl, hT.2.2.1.2.2⟩
/-- a fault here: the two fields are written -/
theorem K_fails {c : Int32} (hT : Tk b n M i) (h6 : mI M 29 6 = 0) (hc : 0 < c) (H : ∀ M', M' = wI (wI M 29 6 c) 29 7 (Int32.ofNat (tP b n i)) → TXr M' c (tP b n i) → Q none M') : E (h + 1) mdX11_fails [.ref 29, .int c, .int (mAI M 32 i)] M Q := by
  obtain ⟨F, hB, ⟨r1, r2, r3⟩, h5, h8⟩ := hT
  refine R_fails F ?_
  have e : flF M c (mAI M 32 i) = wI (wI M 29 6 c) 29 7 (Int32.ofNat (tP b n i)) := by unfold flF; rw [if_pos h6, r2]
  rw [e]
  exact H _ rfl ⟨F.i.i, by simp [mNwI, mSwI, mKwI, mIwI, mJwI, mRwI, mLwI, mAIwI, mAJwI, mARwI, mNwJ, mSwJ, mKwJ, mIwJ, mJwJ, mRwJ, mLwJ, mAIwJ, mAJwJ, mARwJ, mNwR, mSwR, mKwR, mIwR, mJwR, mRwR, mLwR, mAIwR, mAJwR, mARwR, mNwAI, mSwAI, mKwAI, mIwAI, mJwAI, mRwAI, mLwAI, mAIwAI, mAJwAI, mARwAI, mNwAJ, mSwAJ, mKwAJ, mIwAJ, mJwAJ, mRwAJ, mLwAJ, mAIwAJ, mAJwAJ, mARwAJ, mNwAR, mSwAR, mKwAR, mIwAR, mJwAR, mRwAR, mLwAR, mAIwAR, mAJwAR, mARwAR, okkwI, okkwJ, okkwR, okkwAI, okkwAJ, okkwAR], hc, by simp [mNwI, mSwI, mKwI, mIwI, mJwI, mRwI, mLwI, mAIwI, mAJwI, mARwI, mNwJ, mSwJ, mKwJ, mIwJ, mJwJ, mRwJ, mLwJ, mAIwJ, mAJwJ, mARwJ, mNwR, mSwR, mKwR, mIwR, mJwR, mRwR, mLwR, mAIwR, mAJwR, mARwR, mNwAI, mSwAI, mKwAI, mIwAI, mJwAI, mRwAI, mLwAI, mAIwAI, mAJwAI, mARwAI, mNwAJ, mSwAJ, mKwAJ, mIwAJ, mJwAJ, mRwAJ, mLwAJ, mAIwAJ, mAJwAJ, mARwAJ, mNwAR, mSwAR, mKwAR, mIwAR, mJwAR, mRwAR, mLwAR, mAIwAR, mAJwAR, mARwAR, okkwI, okkwJ, okkwR, okkwAI, okkwAJ, okkwAR]⟩
/-- the token is taken: what is written -/
theorem K_take {s : Nat} (hT : Tk b n M i) (hs : i < s) (hR : ∀ j, j ≤ s → RkR M b n j) (h8 : s < 802) (h6 : mI M 29 6 = 0) (H1 : tK b n (i + 1) ≠ 0 → Q none (wI M 29 5 (Int32.ofNat (i + 1)))) (H0 : tK b n (i + 1) = 0 → Q none (wI (wI (wI M 29 5 (Int32.ofNat (i + 1))) 29 6 1) 29 7 (Int32.ofNat (tP b n (i + 1))))) : E (h + 2) mdX11_take [.ref 29] M Q := by
  obtain ⟨F, hB, -, h5, -⟩ := hT
  have e : mI M 29 5 + 1 = Int32.ofNat (i + 1) := by rw [h5, succ32]
  refine R_take F (by rw [e]; exact vp_of (by omega) (by decide)) ?_
  unfold takF
  rw [e, lt32 (by omega)]
  obtain ⟨r1, r2, r3⟩ := hR (i + 1) (by omega)
  have rel : rS b n (tP b n (i + 1)) = 4 ↔ tK b n (i + 1) = 0 := (rS_rel hB).2
  by_cases hk : tK b n (i + 1) = 0
  · rw [if_pos (r1.trans (rel.mpr hk)), r2]
    have e2 : flF (wI M 29 5 (Int32.ofNat (i + 1))) 1 (Int32.ofNat (tP b n (i + 1))) = wI (wI (wI M 29 5 (Int32.ofNat (i + 1))) 29 6 1) 29 7 (Int32.ofNat (tP b n (i + 1))) := by
      unfold flF; rw [if_pos (by simp [h6, mNwI, mSwI, mKwI, mIwI, mJwI, mRwI, mLwI, mAIwI, mAJwI, mARwI, mNwJ, mSwJ, mKwJ, mIwJ, mJwJ, mRwJ, mLwJ, mAIwJ, mAJwJ, mARwJ, mNwR, mSwR, mKwR, mIwR, mJwR, mRwR, mLwR, mAIwR, mAJwR, mARwR, mNwAI, mSwAI, mKwAI, mIwAI, mJwAI, mRwAI, mLwAI, mAIwAI, mAJwAI, mARwAI, mNwAJ, mSwAJ, mKwAJ, mIwAJ, mJwAJ, mRwAJ, mLwAJ, mAIwAJ, mAJwAJ, mARwAJ, mNwAR, mSwAR, mKwAR, mIwAR, mJwAR, mRwAR, mLwAR, mAIwAR, mAJwAR, mARwAR, okkwI, okkwJ, okkwR, okkwAI, okkwAJ, okkwAR])]
    rw [e2]
    exact H0 hk
  · rw [if_neg (fun z => hk (rel.mp (r1.symm.trans z)))]
    exact H1 hk
end
section
variable {b : Nat → Int32} {n s m : Nat} {sN : List Int64} {ro mx : List Int32} {vN : List Int64} {M : Mem} {i o pr : Nat} {σ ν : List Nat} {Y : List Cd} {h : Nat} {Q : Option Value → Mem → Prop}
theorem SC.tk {w : Int32 × Int32} (hR : SC b n s m sN ro mx vN w M i o pr σ ν Y) (hB : By b) : Tk b n M i := ⟨hR.1.1, hB, hR.1.2.1 i hR.2.1.2.2, hR.2.2.1, by have := hR.2.1; omega⟩
theorem SC.x {f : Int32} {p : Nat} (h : SC b n s m sN ro mx vN (f, Int32.ofNat p) M i o pr σ ν Y) (hf : 0 < f) : TXr M f p := ⟨h.1.1, h.2.2.2.1.1, hf, h.2.2.2.1.2.resolve_left (fun z => by
  have z : f = 0 := z
  rw [z] at hf
  exact absurd hf (by decide))⟩
theorem G_fails {c : Int32} (hR : SC b n s m sN ro mx vN (0, 0) M i o pr σ ν Y) (hB : By b) (hc : 0 < c) (H : ∀ M', TXr M' c (tP b n i) → RFc m M M' → Q none M') : E (h + 1) mdX11_fails [.ref 29, .int c, .int (mAI M 32 i)] M Q :=
  K_fails (hR.tk hB) hR.2.2.2.1.1 hc (fun M' e T' => H M' T' (by rw [e]; exact (RFc.i (by decide)).tr (RFc.i (by decide))))
theorem G_take (h1 : CoR b n s m sN ro mx vN M) (hi : n ≤ 800 ∧ s ≤ n ∧ i < s) (h3 : mI M 29 5 = Int32.ofNat i) (h4 : mI M 29 6 = 0) (h5 : mI M 29 33 = Int32.ofNat o) (h6 : mI M 29 32 = Int32.ofNat pr) (h7 : St M 52 29 0 σ) (h8 : St M 53 31 (410 * m) ν) (h9 : YR sN.length M m Y) (h10 : (2 * (Y.length + wt σ) ≤ bt b n (i + 1) ∧ σ.length ≤ i + 1) ∧ ν.length ≤ i + 1 ∧ o ≤ 15 ∧ pr ≤ i + 1 ∧ ∀ x ∈ ν, x < Y.length) (hB : By b) (H1 : tK b n (i + 1) ≠ 0 → ∀ M', SC b n s m sN ro mx vN (0, 0) M' (i + 1) o pr σ ν Y → RFc m M M' → Q none M') (H0 : tK b n (i + 1) = 0 → ∀ M', SC b n s m sN ro mx vN (1, Int32.ofNat (tP b n (i + 1))) M' (i + 1) o pr σ ν Y → RFc m M M' → Q none M') : E (h + 2) mdX11_take [.ref 29] M Q := by
  have fr : RFc m M (wI M 29 5 (Int32.ofNat (i + 1))) := RFc.i (by decide)
  have fr2 : RFc m M (wI (wI (wI M 29 5 (Int32.ofNat (i + 1))) 29 6 1) 29 7 (Int32.ofNat (tP b n (i + 1)))) := (fr.tr (RFc.i (by decide))).tr (RFc.i (by decide))
  refine K_take (s := s) ⟨h1.1, hB, h1.2.1 i (by omega), h3, by omega⟩ hi.2.2 h1.2.1 (by omega) h4 (fun hk => ?_) (fun hk => ?_)
  · exact H1 hk _ ⟨h1.frc fr, ⟨hi.1, hi.2.1, hi.2.2⟩, by simp [mNwI, mSwI, mKwI, mIwI, mJwI, mRwI, mLwI, mAIwI, mAJwI, mARwI, mNwJ, mSwJ, mKwJ, mIwJ, mJwJ, mRwJ, mLwJ, mAIwJ, mAJwJ, mARwJ, mNwR, mSwR, mKwR, mIwR, mJwR, mRwR, mLwR, mAIwR, mAJwR, mARwR, mNwAI, mSwAI, mKwAI, mIwAI, mJwAI, mRwAI, mLwAI, mAIwAI, mAJwAI, mARwAI, mNwAJ, mSwAJ, mKwAJ, mIwAJ, mJwAJ, mRwAJ, mLwAJ, mAIwAJ, mAJwAJ, mARwAJ, mNwAR, mSwAR, mKwAR, mIwAR, mJwAR, mRwAR, mLwAR, mAIwAR, mAJwAR, mARwAR, okkwI, okkwJ, okkwR, okkwAI, okkwAJ, okkwAR], ⟨by simp [h4, mNwI, mSwI, mKwI, mIwI, mJwI, mRwI, mLwI, mAIwI, mAJwI, mARwI, mNwJ, mSwJ, mKwJ, mIwJ, mJwJ, mRwJ, mLwJ, mAIwJ, mAJwJ, mARwJ, mNwR, mSwR, mKwR, mIwR, mJwR, mRwR, mLwR, mAIwR, mAJwR, mARwR, mNwAI, mSwAI, mKwAI, mIwAI, mJwAI, mRwAI, mLwAI, mAIwAI, mAJwAI, mARwAI, mNwAJ, mSwAJ, mKwAJ, mIwAJ, mJwAJ, mRwAJ, mLwAJ, mAIwAJ, mAJwAJ, mARwAJ, mNwAR, mSwAR, mKwAR, mIwAR, mJwAR, mRwAR, mLwAR, mAIwAR, mAJwAR, mARwAR, okkwI, okkwJ, okkwR, okkwAI, okkwAJ, okkwAR], Or.inl rfl⟩, by simp [h5, mNwI, mSwI, mKwI, mIwI, mJwI, mRwI, mLwI, mAIwI, mAJwI, mARwI, mNwJ, mSwJ, mKwJ, mIwJ, mJwJ, mRwJ, mLwJ, mAIwJ, mAJwJ, mARwJ, mNwR, mSwR, mKwR, mIwR, mJwR, mRwR, mLwR, mAIwR, mAJwR, mARwR, mNwAI, mSwAI, mKwAI, mIwAI, mJwAI, mRwAI, mLwAI, mAIwAI, mAJwAI, mARwAI, mNwAJ, mSwAJ, mKwAJ, mIwAJ, mJwAJ, mRwAJ, mLwAJ, mAIwAJ, mAJwAJ, mARwAJ, mNwAR, mSwAR, mKwAR, mIwAR, mJwAR, mRwAR, mLwAR, mAIwAR, mAJwAR, mARwAR, okkwI, okkwJ, okkwR, okkwAI, okkwAJ, okkwAR], by simp [h6, mNwI, mSwI, mKwI, mIwI, mJwI, mRwI, mLwI, mAIwI, mAJwI, mARwI, mNwJ, mSwJ, mKwJ, mIwJ, mJwJ, mRwJ, mLwJ, mAIwJ, mAJwJ, mARwJ, mNwR, mSwR, mKwR, mIwR, mJwR, mRwR, mLwR, mAIwR, mAJwR, mARwR, mNwAI, mSwAI, mKwAI, mIwAI, mJwAI, mRwAI, mLwAI, mAIwAI, mAJwAI, mARwAI, mNwAJ, mSwAJ, mKwAJ, mIwAJ, mJwAJ, mRwAJ, mLwAJ, mAIwAJ, mAJwAJ, mARwAJ, mNwAR, mSwAR, mKwAR, mIwAR, mJwAR, mRwAR, mLwAR, mAIwAR, mAJwAR, mARwAR, okkwI, okkwJ, okkwR, okkwAI, okkwAJ, okkwAR], h7.fr (by simp [mNwI, mSwI, mKwI, mIwI, mJwI, mRwI, mLwI, mAIwI, mAJwI, mARwI, mNwJ, mSwJ, mKwJ, mIwJ, mJwJ, mRwJ, mLwJ, mAIwJ, mAJwJ, mARwJ, mNwR, mSwR, mKwR, mIwR, mJwR, mRwR, mLwR, mAIwR, mAJwR, mARwR, mNwAI, mSwAI, mKwAI, mIwAI, mJwAI, mRwAI, mLwAI, mAIwAI, mAJwAI, mARwAI, mNwAJ, mSwAJ, mKwAJ, mIwAJ, mJwAJ, mRwAJ, mLwAJ, mAIwAJ, mAJwAJ, mARwAJ, mNwAR, mSwAR, mKwAR, mIwAR, mJwAR, mRwAR, mLwAR, mAIwAR, mAJwAR, mARwAR, okkwI, okkwJ, okkwR, okkwAI, okkwAJ, okkwAR]) rfl, h8.fr (by simp [mNwI, mSwI, mKwI, mIwI, mJwI, mRwI, mLwI, mAIwI, mAJwI, mARwI, mNwJ, mSwJ, mKwJ, mIwJ, mJwJ, mRwJ, mLwJ, mAIwJ, mAJwJ, mARwJ, mNwR, mSwR, mKwR, mIwR, mJwR, mRwR, mLwR, mAIwR, mAJwR, mARwR, mNwAI, mSwAI, mKwAI, mIwAI, mJwAI, mRwAI, mLwAI, mAIwAI, mAJwAI, mARwAI, mNwAJ, mSwAJ, mKwAJ, mIwAJ, mJwAJ, mRwAJ, mLwAJ, mAIwAJ, mAJwAJ, mARwAJ, mNwAR, mSwAR, mKwAR, mIwAR, mJwAR, mRwAR, mLwAR, mAIwAR, mAJwAR, mARwAR, okkwI, okkwJ, okkwR, okkwAI, okkwAJ, okkwAR]) rfl, h9.fr rfl rfl rfl rfl rfl, h10⟩ fr
  · exact H0 hk _ ⟨h1.frc fr2, ⟨hi.1, hi.2.1, hi.2.2⟩, by simp [mNwI, mSwI, mKwI, mIwI, mJwI, mRwI, mLwI, mAIwI, mAJwI, mARwI, mNwJ, mSwJ, mKwJ, mIwJ, mJwJ, mRwJ, mLwJ, mAIwJ, mAJwJ, mARwJ, mNwR, mSwR, mKwR, mIwR, mJwR, mRwR, mLwR, mAIwR, mAJwR, mARwR, mNwAI, mSwAI, mKwAI, mIwAI, mJwAI, mRwAI, mLwAI, mAIwAI, mAJwAI, mARwAI, mNwAJ, mSwAJ, mKwAJ, mIwAJ, mJwAJ, mRwAJ, mLwAJ, mAIwAJ, mAJwAJ, mARwAJ, mNwAR, mSwAR, mKwAR, mIwAR, mJwAR, mRwAR, mLwAR, mAIwAR, mAJwAR, mARwAR, okkwI, okkwJ, okkwR, okkwAI, okkwAJ, okkwAR], ⟨by simp [mNwI, mSwI, mKwI, mIwI, mJwI, mRwI, mLwI, mAIwI, mAJwI, mARwI, mNwJ, mSwJ, mKwJ, mIwJ, mJwJ, mRwJ, mLwJ, mAIwJ, mAJwJ, mARwJ, mNwR, mSwR, mKwR, mIwR, mJwR, mRwR, mLwR, mAIwR, mAJwR, mARwR, mNwAI, mSwAI, mKwAI, mIwAI, mJwAI, mRwAI, mLwAI, mAIwAI, mAJwAI, mARwAI, mNwAJ, mSwAJ, mKwAJ, mIwAJ, mJwAJ, mRwAJ, mLwAJ, mAIwAJ, mAJwAJ, mARwAJ, mNwAR, mSwAR, mKwAR, mIwAR, mJwAR, mRwAR, mLwAR, mAIwAR, mAJwAR, mARwAR, okkwI, okkwJ, okkwR, okkwAI, okkwAJ, okkwAR], Or.inr (by simp [mNwI, mSwI, mKwI, mIwI, mJwI, mRwI, mLwI, mAIwI, mAJwI, mARwI, mNwJ, mSwJ, mKwJ, mIwJ, mJwJ, mRwJ, mLwJ, mAIwJ, mAJwJ, mARwJ, mNwR, mSwR, mKwR, mIwR, mJwR, mRwR, mLwR, mAIwR, mAJwR, mARwR, mNwAI, mSwAI, mKwAI, mIwAI, mJwAI, mRwAI, mLwAI, mAIwAI, mAJwAI, mARwAI, mNwAJ, mSwAJ, mKwAJ, mIwAJ, mJwAJ, mRwAJ, mLwAJ, mAIwAJ, mAJwAJ, mARwAJ, mNwAR, mSwAR, mKwAR, mIwAR, mJwAR, mRwAR, mLwAR, mAIwAR, mAJwAR, mARwAR, okkwI, okkwJ, okkwR, okkwAI, okkwAJ, okkwAR])⟩, by simp [h5, mNwI, mSwI, mKwI, mIwI, mJwI, mRwI, mLwI, mAIwI, mAJwI, mARwI, mNwJ, mSwJ, mKwJ, mIwJ, mJwJ, mRwJ, mLwJ, mAIwJ, mAJwJ, mARwJ, mNwR, mSwR, mKwR, mIwR, mJwR, mRwR, mLwR, mAIwR, mAJwR, mARwR, mNwAI, mSwAI, mKwAI, mIwAI, mJwAI, mRwAI, mLwAI, mAIwAI, mAJwAI, mARwAI, mNwAJ, mSwAJ, mKwAJ, mIwAJ, mJwAJ, mRwAJ, mLwAJ, mAIwAJ, mAJwAJ, mARwAJ, mNwAR, mSwAR, mKwAR, mIwAR, mJwAR, mRwAR, mLwAR, mAIwAR, mAJwAR, mARwAR, okkwI, okkwJ, okkwR, okkwAI, okkwAJ, okkwAR], by simp [h6, mNwI, mSwI, mKwI, mIwI, mJwI, mRwI, mLwI, mAIwI, mAJwI, mARwI, mNwJ, mSwJ, mKwJ, mIwJ, mJwJ, mRwJ, mLwJ, mAIwJ, mAJwJ, mARwJ, mNwR, mSwR, mKwR, mIwR, mJwR, mRwR, mLwR, mAIwR, mAJwR, mARwR, mNwAI, mSwAI, mKwAI, mIwAI, mJwAI, mRwAI, mLwAI, mAIwAI, mAJwAI, mARwAI, mNwAJ, mSwAJ, mKwAJ, mIwAJ, mJwAJ, mRwAJ, mLwAJ, mAIwAJ, mAJwAJ, mARwAJ, mNwAR, mSwAR, mKwAR, mIwAR, mJwAR, mRwAR, mLwAR, mAIwAR, mAJwAR, mARwAR, okkwI, okkwJ, okkwR, okkwAI, okkwAJ, okkwAR], h7.fr (by simp [mNwI, mSwI, mKwI, mIwI, mJwI, mRwI, mLwI, mAIwI, mAJwI, mARwI, mNwJ, mSwJ, mKwJ, mIwJ, mJwJ, mRwJ, mLwJ, mAIwJ, mAJwJ, mARwJ, mNwR, mSwR, mKwR, mIwR, mJwR, mRwR, mLwR, mAIwR, mAJwR, mARwR, mNwAI, mSwAI, mKwAI, mIwAI, mJwAI, mRwAI, mLwAI, mAIwAI, mAJwAI, mARwAI, mNwAJ, mSwAJ, mKwAJ, mIwAJ, mJwAJ, mRwAJ, mLwAJ, mAIwAJ, mAJwAJ, mARwAJ, mNwAR, mSwAR, mKwAR, mIwAR, mJwAR, mRwAR, mLwAR, mAIwAR, mAJwAR, mARwAR, okkwI, okkwJ, okkwR, okkwAI, okkwAJ, okkwAR]) rfl, h8.fr (by simp [mNwI, mSwI, mKwI, mIwI, mJwI, mRwI, mLwI, mAIwI, mAJwI, mARwI, mNwJ, mSwJ, mKwJ, mIwJ, mJwJ, mRwJ, mLwJ, mAIwJ, mAJwJ, mARwJ, mNwR, mSwR, mKwR, mIwR, mJwR, mRwR, mLwR, mAIwR, mAJwR, mARwR, mNwAI, mSwAI, mKwAI, mIwAI, mJwAI, mRwAI, mLwAI, mAIwAI, mAJwAI, mARwAI, mNwAJ, mSwAJ, mKwAJ, mIwAJ, mJwAJ, mRwAJ, mLwAJ, mAIwAJ, mAJwAJ, mARwAJ, mNwAR, mSwAR, mKwAR, mIwAR, mJwAR, mRwAR, mLwAR, mAIwAR, mAJwAR, mARwAR, okkwI, okkwJ, okkwR, okkwAI, okkwAJ, okkwAR]) rfl, h9.fr rfl rfl rfl rfl rfl, h10⟩ fr2
theorem G_opening {op : Nat} (hz : ∀ i, n ≤ i → b i = 0) (hR : SC b n s m sN ro mx vN (0, 0) M i o pr σ ν Y) (hB : By b) (hs : i < s) (h1' : tK b n i ≠ 1) (hop : op = 2 ∧ wdK (tK b n i) ∨ op = 5) (H1 : o < 15 → tK b n (i + 1) ≠ 0 → ∀ M', SC b n s m sN ro mx vN (0, 0) M' (i + 1) (o + 1) (pr + (if op = 5 then 1 else 0)) (op :: σ) ν Y → RFc m M M' → Q none M') (H0 : o < 15 → tK b n (i + 1) = 0 → ∀ M', TXr M' 1 (tP b n (i + 1)) → RFc m M M' → Q none M') (H6 : o = 15 → ∀ M', TXr M' 6 (tP b n i) → RFc m M M' → Q none M') : E (h + 3) mdX11_opening [.ref 29, .int (Int32.ofNat op)] M Q := by
  obtain ⟨h1, h2, h3, h4, h5, h6, h7, h8, h9, h10⟩ := id hR
  have F := h1.1
  have hop' : op = 2 ∨ op = 5 := by omega
  have hbt : 2 * (Y.length + wt (op :: σ)) ≤ bt b n (i + 1) := by
    rw [wt_cons]
    have := h10.1.1
    rcases hop with ⟨q, w⟩ | q
    · have := bt_word hz hB w
      rw [if_neg (by omega)]; omega
    · have := bt_mono hz h1'
      rw [if_pos q]; omega
  refine KX11_opening ?_
  unfold DX11_opening_0 DX11_opening_73 DX11_opening_78 DX11_opening_86
  rw [h5, succ32]
  have e15 : (Int32.ofNat o = 15) ↔ o = 15 := ⟨fun z => inj32 (b := 15) (by omega) (by decide) z, fun z => by rw [z]; rfl⟩
  refine ⟨ok29 F, fun hc => ?_, fun hc => ?_⟩
  · have ho : o < 15 := by
      have : o ≠ 15 := fun z => hc (e15.mpr z)
      have := h10.2.2.1
      omega
    intro A a
    have FA : Fix A := by rw [a]; exact F.i
    have iA : mI A 29 29 = Int32.ofNat σ.length := by rw [a]; simp [h7.1, mNwI, mSwI, mKwI, mIwI, mJwI, mRwI, mLwI, mAIwI, mAJwI, mARwI, mNwJ, mSwJ, mKwJ, mIwJ, mJwJ, mRwJ, mLwJ, mAIwJ, mAJwJ, mARwJ, mNwR, mSwR, mKwR, mIwR, mJwR, mRwR, mLwR, mAIwR, mAJwR, mARwR, mNwAI, mSwAI, mKwAI, mIwAI, mJwAI, mRwAI, mLwAI, mAIwAI, mAJwAI, mARwAI, mNwAJ, mSwAJ, mKwAJ, mIwAJ, mJwAJ, mRwAJ, mLwAJ, mAIwAJ, mAJwAJ, mARwAJ, mNwAR, mSwAR, mKwAR, mIwAR, mJwAR, mRwAR, mLwAR, mAIwAR, mAJwAR, mARwAR, okkwI, okkwJ, okkwR, okkwAI, okkwAJ, okkwAR]
    rw [iA, lt32 (by omega)]
    refine ⟨52, rf29_28 FA, ok52 FA, by rw [ln52 FA]; exact vp_of (by omega) (by decide), fun B bb C c => ?_⟩
    have iB : mI B 29 29 = Int32.ofNat σ.length := by rw [bb, mI_wAI]; exact iA
    rw [iB, succ32] at c
    have iC : mI C 29 32 = Int32.ofNat pr := by rw [c, bb, a]; simp [h6, mNwI, mSwI, mKwI, mIwI, mJwI, mRwI, mLwI, mAIwI, mAJwI, mARwI, mNwJ, mSwJ, mKwJ, mIwJ, mJwJ, mRwJ, mLwJ, mAIwJ, mAJwJ, mARwJ, mNwR, mSwR, mKwR, mIwR, mJwR, mRwR, mLwR, mAIwR, mAJwR, mARwR, mNwAI, mSwAI, mKwAI, mIwAI, mJwAI, mRwAI, mLwAI, mAIwAI, mAJwAI, mARwAI, mNwAJ, mSwAJ, mKwAJ, mIwAJ, mJwAJ, mRwAJ, mLwAJ, mAIwAJ, mAJwAJ, mARwAJ, mNwAR, mSwAR, mKwAR, mIwAR, mJwAR, mRwAR, mLwAR, mAIwAR, mAJwAR, mARwAR, okkwI, okkwJ, okkwR, okkwAI, okkwAJ, okkwAR]
    have FC : Fix C := by rw [c, bb, a]; exact F.i.ai.i
    have frC : RFc m M C := by rw [c, bb, a]; exact ((RFc.i (by decide)).tr (RFc.st (Or.inl rfl))).tr (RFc.i (by decide))
    have stC : St C 52 29 0 (op :: σ) := (h7.fr (M' := A) (by rw [a]; simp [mNwI, mSwI, mKwI, mIwI, mJwI, mRwI, mLwI, mAIwI, mAJwI, mARwI, mNwJ, mSwJ, mKwJ, mIwJ, mJwJ, mRwJ, mLwJ, mAIwJ, mAJwJ, mARwJ, mNwR, mSwR, mKwR, mIwR, mJwR, mRwR, mLwR, mAIwR, mAJwR, mARwR, mNwAI, mSwAI, mKwAI, mIwAI, mJwAI, mRwAI, mLwAI, mAIwAI, mAJwAI, mARwAI, mNwAJ, mSwAJ, mKwAJ, mIwAJ, mJwAJ, mRwAJ, mLwAJ, mAIwAJ, mAJwAJ, mARwAJ, mNwAR, mSwAR, mKwAR, mIwAR, mJwAR, mRwAR, mLwAR, mAIwAR, mAJwAR, mARwAR, okkwI, okkwJ, okkwR, okkwAI, okkwAJ, okkwAR]) (by rw [a]; rfl)).push (x := op) (by rw [c, bb, Nat.zero_add])
    have rC : ∀ q, q ≠ 52 → mAI C q = mAI M q := fun q hq => by rw [c, mAI_wI, bb, mAI_wAI_ne hq, a]; rfl
    have fin : ∀ (D : Mem) (q : Nat), q ≤ 1 → D = wI C 29 32 (Int32.ofNat pr + Int32.ofNat q) → (if op = 5 then 1 else 0) = q → ok D 29 13 ∧ E (h + 2) mdX11_take [.ref 29] D (fun r M4 => mE D M4 → r = none ∧ Q none M4) := by
      intro D q hq d eq
      rw [add32] at d
      have frD : RFc m M D := by rw [d]; exact frC.tr (RFc.i (by decide))
      have rD : ∀ q, q ≠ 52 → mAI D q = mAI M q := fun q hq => by rw [d, mAI_wI]; exact rC q hq
      refine ⟨ok29 (frD.fix F), G_take (pr := pr + q) (o := o + 1) (σ := op :: σ) (ν := ν) (Y := Y) (h1.frc frD) ⟨h2.1, h2.2.1, hs⟩ (by rw [d, c, bb, a]; simp [h3, mNwI, mSwI, mKwI, mIwI, mJwI, mRwI, mLwI, mAIwI, mAJwI, mARwI, mNwJ, mSwJ, mKwJ, mIwJ, mJwJ, mRwJ, mLwJ, mAIwJ, mAJwJ, mARwJ, mNwR, mSwR, mKwR, mIwR, mJwR, mRwR, mLwR, mAIwR, mAJwR, mARwR, mNwAI, mSwAI, mKwAI, mIwAI, mJwAI, mRwAI, mLwAI, mAIwAI, mAJwAI, mARwAI, mNwAJ, mSwAJ, mKwAJ, mIwAJ, mJwAJ, mRwAJ, mLwAJ, mAIwAJ, mAJwAJ, mARwAJ, mNwAR, mSwAR, mKwAR, mIwAR, mJwAR, mRwAR, mLwAR, mAIwAR, mAJwAR, mARwAR, okkwI, okkwJ, okkwR, okkwAI, okkwAJ, okkwAR]) (by rw [d, c, bb, a]; simp [show mI M 29 6 = 0 from h4.1, mNwI, mSwI, mKwI, mIwI, mJwI, mRwI, mLwI, mAIwI, mAJwI, mARwI, mNwJ, mSwJ, mKwJ, mIwJ, mJwJ, mRwJ, mLwJ, mAIwJ, mAJwJ, mARwJ, mNwR, mSwR, mKwR, mIwR, mJwR, mRwR, mLwR, mAIwR, mAJwR, mARwR, mNwAI, mSwAI, mKwAI, mIwAI, mJwAI, mRwAI, mLwAI, mAIwAI, mAJwAI, mARwAI, mNwAJ, mSwAJ, mKwAJ, mIwAJ, mJwAJ, mRwAJ, mLwAJ, mAIwAJ, mAJwAJ, mARwAJ, mNwAR, mSwAR, mKwAR, mIwAR, mJwAR, mRwAR, mLwAR, mAIwAR, mAJwAR, mARwAR, okkwI, okkwJ, okkwR, okkwAI, okkwAJ, okkwAR]) (by rw [d, c, bb, a]; simp [mNwI, mSwI, mKwI, mIwI, mJwI, mRwI, mLwI, mAIwI, mAJwI, mARwI, mNwJ, mSwJ, mKwJ, mIwJ, mJwJ, mRwJ, mLwJ, mAIwJ, mAJwJ, mARwJ, mNwR, mSwR, mKwR, mIwR, mJwR, mRwR, mLwR, mAIwR, mAJwR, mARwR, mNwAI, mSwAI, mKwAI, mIwAI, mJwAI, mRwAI, mLwAI, mAIwAI, mAJwAI, mARwAI, mNwAJ, mSwAJ, mKwAJ, mIwAJ, mJwAJ, mRwAJ, mLwAJ, mAIwAJ, mAJwAJ, mARwAJ, mNwAR, mSwAR, mKwAR, mIwAR, mJwAR, mRwAR, mLwAR, mAIwAR, mAJwAR, mARwAR, okkwI, okkwJ, okkwR, okkwAI, okkwAJ, okkwAR]) (by rw [d]; simp [mNwI, mSwI, mKwI, mIwI, mJwI, mRwI, mLwI, mAIwI, mAJwI, mARwI, mNwJ, mSwJ, mKwJ, mIwJ, mJwJ, mRwJ, mLwJ, mAIwJ, mAJwJ, mARwJ, mNwR, mSwR, mKwR, mIwR, mJwR, mRwR, mLwR, mAIwR, mAJwR, mARwR, mNwAI, mSwAI, mKwAI, mIwAI, mJwAI, mRwAI, mLwAI, mAIwAI, mAJwAI, mARwAI, mNwAJ, mSwAJ, mKwAJ, mIwAJ, mJwAJ, mRwAJ, mLwAJ, mAIwAJ, mAJwAJ, mARwAJ, mNwAR, mSwAR, mKwAR, mIwAR, mJwAR, mRwAR, mLwAR, mAIwAR, mAJwAR, mARwAR, okkwI, okkwJ, okkwR, okkwAI, okkwAJ, okkwAR]) (stC.fr (by rw [d]; simp [mNwI, mSwI, mKwI, mIwI, mJwI, mRwI, mLwI, mAIwI, mAJwI, mARwI, mNwJ, mSwJ, mKwJ, mIwJ, mJwJ, mRwJ, mLwJ, mAIwJ, mAJwJ, mARwJ, mNwR, mSwR, mKwR, mIwR, mJwR, mRwR, mLwR, mAIwR, mAJwR, mARwR, mNwAI, mSwAI, mKwAI, mIwAI, mJwAI, mRwAI, mLwAI, mAIwAI, mAJwAI, mARwAI, mNwAJ, mSwAJ, mKwAJ, mIwAJ, mJwAJ, mRwAJ, mLwAJ, mAIwAJ, mAJwAJ, mARwAJ, mNwAR, mSwAR, mKwAR, mIwAR, mJwAR, mRwAR, mLwAR, mAIwAR, mAJwAR, mARwAR, okkwI, okkwJ, okkwR, okkwAI, okkwAJ, okkwAR]) (by rw [d]; rfl)) (h8.fr (by rw [d, c, bb, a]; simp [mNwI, mSwI, mKwI, mIwI, mJwI, mRwI, mLwI, mAIwI, mAJwI, mARwI, mNwJ, mSwJ, mKwJ, mIwJ, mJwJ, mRwJ, mLwJ, mAIwJ, mAJwJ, mARwJ, mNwR, mSwR, mKwR, mIwR, mJwR, mRwR, mLwR, mAIwR, mAJwR, mARwR, mNwAI, mSwAI, mKwAI, mIwAI, mJwAI, mRwAI, mLwAI, mAIwAI, mAJwAI, mARwAI, mNwAJ, mSwAJ, mKwAJ, mIwAJ, mJwAJ, mRwAJ, mLwAJ, mAIwAJ, mAJwAJ, mARwAJ, mNwAR, mSwAR, mKwAR, mIwAR, mJwAR, mRwAR, mLwAR, mAIwAR, mAJwAR, mARwAR, okkwI, okkwJ, okkwR, okkwAI, okkwAJ, okkwAR]) (rD 53 (by decide))) (h9.fr (rD 40 (by decide)) (rD 44 (by decide)) (rD 45 (by decide)) (rD 46 (by decide)) (rD 47 (by decide))) ⟨⟨hbt, by show σ.length + 1 ≤ i + 1; omega⟩, by omega, by omega, by omega, h10.2.2.2.2⟩ hB (fun k1 M' R' F' _ => ⟨rfl, H1 ho k1 M' (by rw [eq]; exact R') (frD.tr F')⟩) (fun k1 M' T' F' _ => ⟨rfl, H0 ho k1 M' (T'.x (by decide)) (frD.tr F')⟩)⟩
    rw [iC]
    refine ⟨fun hc5 => ?_, fun h5' => ⟨fun h9 => ?_, fun h9 => ?_⟩⟩
    · have hop5 : op = 5 := inj32 (b := 5) (by omega) (by decide) hc5
      exact ⟨ok29 FC, fun D d => fin D 1 (by omega) d (by rw [if_pos hop5])⟩
    · have hop5 : op ≠ 5 := fun z => h5' (by rw [z]; rfl)
      exact ⟨ok29 FC, fun D d => fin D 0 (by omega) d (by rw [if_neg hop5])⟩
    · exfalso
      have := inj32 (b := 9) (by omega) (by decide) h9
      omega
  · rw [h3, lt32 (by omega)]
    exact ⟨32, rf29_3 F, ok32 F, by rw [ln32 F]; exact vp_of (by omega) (by decide), G_fails hR hB (by decide) (fun M' T' F' _ => ⟨rfl, H6 (e15.mp hc) M' T' F'⟩)⟩
theorem G_nots {w : Int32 × Int32} {k r : Nat} {σ0 ν0 : List Nat} (hz : ∀ i, n ≤ i → b i = 0) (ht : top? σ0 (fun x => x ≠ 2)) (h100 : ∀ x ∈ σ0, x < 100) (hR : SC b n s m sN ro mx vN w M i (o + k) pr (List.replicate k 2 ++ σ0) (r :: ν0) Y) (H : ∀ M', SC b n s m sN ro mx vN w M' i o pr σ0 ((nc k r Y).1 :: ν0) (nc k r Y).2 → RFc m M M' → Q none M') : E (h + 2) mdX11_closeNots [.ref 29] M Q := by
  refine E.of (by decide) (Nat.le_of_ble_eq_true rfl) (fun _ _ _ => trivial) ?_
  show T _ _ 0 [(0, .ref 29)] [] M _
  exact G_notsT hz ht h100 k M i o r Y hR H
def EndC (b : Nat → Int32) (n s m : Nat) (sN : List Int64) (ro mx : List Int32) (vN : List Int64) (M : Mem) (o k pr : Nat) (σ0 ν : List Nat) (K : Mem → Prop) (Kx : Mem → Prop) (R : Except (Int32 × Nat) (Nat × List Cd)) : Prop := match R with
  | .ok r => ∀ M', SC b n s m sN ro mx vN (0, 0) M' r.1 o pr σ0 ((nc k (r.2.length - 1) r.2).1 :: ν) (nc k (r.2.length - 1) r.2).2 → RFc m M M' → K M'
  | .error e => ∀ M', TXr M' e.1 e.2 → RFc m M M' → Kx M'
theorem pq_app {Y : List Cd} {p k : Nat} (j : Nat) : pq (Y ++ [(p, k, 0)]) j = (pq Y j || decide (p = 1 ∧ k = j)) := by
  unfold pq; rw [List.any_append]; simp
theorem bool_nar0 : vp_nar .boolean (0 : Int32) = 0 := by decide
theorem bool_nar1 : vp_nar .boolean (1 : Int32) = 1 := by decide
set_option maxHeartbeats 400000 in
/-- an operand of a condition, and the nots ahead of it -/
theorem G_operand {k p : Nat} {σ0 : List Nat} (hz : ∀ i, n ≤ i → b i = 0) (hR : SC b n s m sN ro mx vN (0, 0) M i (o + k) pr (List.replicate k 2 ++ σ0) ν Y) (hB : By b) (hS : Sto b n s) (h0 : tK b n i ≠ 0) (ht : top? σ0 (fun x => x ≠ 2)) (h100 : ∀ x ∈ σ0, x < 100) (hp : p < 2) (H : EndC b n s m sN ro mx vN M o k pr σ0 ν (fun M' => Q none M') (fun M' => Q none M') (rc0 b n sN p i Y)) : E (h + 4) mdX11_condOperand [.ref 29, .int (Int32.ofNat p)] M Q := by
  obtain ⟨h1, h2, h3, h4, h5, h6, h7, h8, h9, h10⟩ := id hR
  have F := h1.1
  have tk := hR.tk hB
  have h8' : i < 802 := by omega
  have v32 : vp_in (Int32.ofNat i) (mL M 32) := by rw [ln32 F]; exact vp_of h8' (by decide)
  have v33 : vp_in (Int32.ofNat i) (mL M 33) := by rw [ln33 F]; exact vp_of h8' (by decide)
  unfold rc0 at H
  refine KX11_condOperand ?_
  unfold DX11_condOperand_0 DX11_condOperand_24 DX11_condOperand_105 DX11_condOperand_110 DX11_condOperand_122 DX11_condOperand_138
  refine ⟨ok29 F, K_name tk (fun k2 _ => ⟨_, rfl, fun z => absurd z (by decide), fun _ => ?_⟩) (fun k2 _ => ⟨_, rfl, fun _ => ⟨ok29 F, K_name tk (fun z => absurd z k2) (fun _ _ => ⟨_, rfl, fun z => absurd rfl z, fun _ => ?_⟩)⟩, fun z => absurd rfl z⟩)⟩
  · rw [if_pos k2] at H
    have hs := hS.lt h2.2.2 h0 (by rw [k2]; decide)
    rw [h3, lt32 (by omega)]
    refine ⟨33, rf29_4 F, ok33 F, v33, R_sigNamed F h1.2.2 (tk.nm k2) (fun _ => ⟨_, rfl, ok29 F, K_name tk (fun _ _ => ⟨_, rfl, fun _ => ⟨fun qv => ?_, fun qv => ?_⟩, fun z => absurd z (by decide)⟩) (fun z => absurd k2 z)⟩)⟩
    · cases e : fd sN (tC b n i) with
      | none => rw [e] at qv; exact absurd rfl qv
      | some j =>
        rw [e] at H
        have H : EndC b n s m sN ro mx vN M o k pr σ0 ν (fun M' => Q none M') (fun M' => Q none M') ((adv' b n i).bind fun j' => .ok (j', Y ++ [(p, j, 0)])) := H
        have hj := (fd_some e).1
        obtain ⟨c1, c2, c3, c4, c5, c6, c7, c8, c9⟩ := h1.2.2
        have e16 : (16 : Int32) * mI M 29 19 + oi (some j) = Int32.ofNat (16 * m + j) := by
          rw [c1, show (16 : Int32) = Int32.ofNat 16 from rfl, mul32]; exact add32
        rw [e16, lt32 (by omega)]
        have v40 : ∀ {M : Mem}, Fix M → vp_in (Int32.ofNat (16 * m + j)) (mL M 40) := fun F => by rw [ln40 F]; exact vp_of (by omega) (by decide)
        have hw : wdK (tK b n i) := Or.inl k2
        have hbt := bt_word hz hB hw
        have hbl := bt_le (b := b) (n := n) (i := i) hz
        -- what is left behind the mark of the signal
        have rest : ∀ (A : Mem) (v : Int32), A = wAI M 40 (16 * m + j) v → v = (if pq (Y ++ [(p, j, 0)]) j = true then 1 else 0) → ok A 29 13 ∧ E (h + 3) mdX11_cond [.ref 29, .int (Int32.ofNat p), .int (Int32.ofNat j), .int 0] A (fun r M2 => mE A M2 → ∃ r3 : Int32, r = some (.int r3) ∧ ok M2 29 13 ∧ E (h + 3) mdX11_pushed [.ref 29, .int r3] M2 (fun r M5 => mE M2 M5 → r = none ∧ ok M5 29 13 ∧ E (h + 3) mdX11_take [.ref 29] M5 (fun r M7 => mE M5 M7 → r = none ∧ E (h + 3) mdX11_closeNots [.ref 29] M7 (fun r M8 => mE M7 M8 → r = none ∧ Q none M8)))) := by
          intro A v eA ev
          have fA : RFc m M A := by
            rw [eA]
            refine ⟨rfl, rfl, rfl, rfl, rfl, rfl, rfl, fun _ _ => rfl, fun _ _ => rfl, fun a q => up2_row (by rintro rfl; exact q (by decide)), rfl, fun q _ => by rw [mAI_wAI, if_neg (by omega)], fun q _ => ⟨by rw [mAI_wAI, if_neg (by omega)], by rw [mAI_wAI, if_neg (by omega)], by rw [mAI_wAI, if_neg (by omega)]⟩, fun q _ => by rw [mAI_wAI, if_neg (by omega)]⟩
          have FA := fA.fix F
          have rA : ∀ q, q ≠ 40 → mAI A q = mAI M q := fun q hq => by rw [eA]; exact mAI_wAI_ne hq
          have c40 : ∀ q, q < sN.length → mAI A 40 (16 * m + q) = if pq (Y ++ [(p, j, 0)]) q = true then 1 else 0 := by
            intro q hq
            rw [eA, mAI_wAI]
            by_cases hqj : q = j
            · rw [if_pos ⟨rfl, by omega⟩, ev, hqj]
            · rw [if_neg (by rintro ⟨-, z⟩; omega), h9.2.2 q hq, pq_app]
              have : decide (p = 1 ∧ j = q) = false := decide_eq_false (fun z => hqj z.2.symm)
              rw [this, Bool.or_false]
          have hYl : Y.length < 410 := by have := h10.1.1; omega
          have yA : YR 0 A m Y := ⟨by rw [rA 44 (by decide)]; exact h9.1, fun q hq => by rw [rA 45 (by decide), rA 46 (by decide), rA 47 (by decide)]; exact h9.2.1 q hq, fun q hq => absurd hq (Nat.not_lt_zero _)⟩
          refine ⟨ok29 FA, G_cond (d := (p, j, 0)) (h1.frc fA) yA hYl (by unfold ya; rw [if_pos (by show p < 2; exact hp)]) (by unfold yb; rw [if_pos (by show p ≤ 2; omega)]) c40 (fun D xD iD0 s52 s53 cD fD _ => ⟨_, rfl, ok29 cD.1, KX11_pushed ?_⟩)⟩
          have iD : ∀ f, mI D 29 f = mI M 29 f := fun f => (iD0 f).trans (by rw [eA]; rfl)
          have FD := cD.1
          unfold DX11_pushed_0
          have e31 : mI D 29 31 = Int32.ofNat ν.length := (iD 31).trans h8.1
          rw [e31, lt32 (by omega)]
          refine ⟨ok29 FD, 53, rf29_30 FD, ok53 FD, by rw [ln53 FD]; exact vp_of (by omega) (by decide), fun M4 e4 M5 e5 => ?_⟩
          have i4 : mI M4 29 31 = Int32.ofNat ν.length := by rw [e4, mI_wAI]; exact e31
          rw [i4, succ32, e4] at e5
          have g : ∀ f, f ≠ 31 → mI M5 29 f = mI M 29 f := by intro f hf; rw [e5]; simp [hf, iD, mNwI, mSwI, mKwI, mIwI, mJwI, mRwI, mLwI, mAIwI, mAJwI, mARwI, mNwJ, mSwJ, mKwJ, mIwJ, mJwJ, mRwJ, mLwJ, mAIwJ, mAJwJ, mARwJ, mNwR, mSwR, mKwR, mIwR, mJwR, mRwR, mLwR, mAIwR, mAJwR, mARwR, mNwAI, mSwAI, mKwAI, mIwAI, mJwAI, mRwAI, mLwAI, mAIwAI, mAJwAI, mARwAI, mNwAJ, mSwAJ, mKwAJ, mIwAJ, mJwAJ, mRwAJ, mLwAJ, mAIwAJ, mAJwAJ, mARwAJ, mNwAR, mSwAR, mKwAR, mIwAR, mJwAR, mRwAR, mLwAR, mAIwAR, mAJwAR, mARwAR, okkwI, okkwJ, okkwR, okkwAI, okkwAJ, okkwAR]
          have st5 : St M5 53 31 (410 * m) (Y.length :: ν) := (h8.fr (iD 31) (s53.trans (rA 53 (by decide)))).push e5
          have F5 : RFc m D M5 := by rw [e5]; exact (RFc.st (Or.inr rfl)).tr (RFc.i (by decide))
          have r5 : ∀ q, q ≠ 53 → mAI M5 q = mAI D q := fun q hq => by rw [e5, mAI_wI]; exact mAI_wAI_ne hq
          have ops5 : St M5 52 29 0 (List.replicate k 2 ++ σ0) := h7.fr (g 29 (by decide)) ((r5 52 (by decide)).trans (s52.trans (rA 52 (by decide))))
          have x5 : YR sN.length M5 m (Y ++ [(p, j, 0)]) := xD.fr (r5 40 (by decide)) (r5 44 (by decide)) (r5 45 (by decide)) (r5 46 (by decide)) (r5 47 (by decide))
          refine fun _ => ⟨rfl, ok29 (F5.fix FD), G_take (h := h + 1) (pr := pr) (o := o + k) (cD.frc F5) ⟨h2.1, h2.2.1, hs⟩ ((g 5 (by decide)).trans h3) ((g 6 (by decide)).trans h4.1) ((g 33 (by decide)).trans h5) ((g 32 (by decide)).trans h6) ops5 st5 x5 ⟨⟨?_, by omega⟩, by show ν.length + 1 ≤ i + 1; omega, h10.2.2.1, by omega, fun y hy => ?_⟩ hB (fun k1 M6 R6 F6 _ => ⟨rfl, ?_⟩) (fun k1 M6 R6 F6 _ => ⟨rfl, ?_⟩)⟩
          · rw [List.length_append]
            show 2 * (Y.length + 1 + _) ≤ _
            have := h10.1.1
            omega
          · rw [List.length_append]
            show y < Y.length + 1
            rcases List.mem_cons.mp hy with q | q
            · omega
            · have := h10.2.2.2.2 y q
              omega
          · rw [adv_ok' k1] at H
            refine G_nots (h := h + 1) hz ht h100 R6 (fun M' R' F' _ => ⟨rfl, H M' ?_ ((((fA.tr fD).tr F5).tr F6).tr F')⟩)
            have e2 : (Y ++ [((p, j, 0) : Cd)]).length - 1 = Y.length := by rw [List.length_append]; rfl
            show SC b n s m sN ro mx vN (0, 0) M' (i + 1) o pr σ0 ((nc k ((Y ++ [((p, j, 0) : Cd)]).length - 1) (Y ++ [(p, j, 0)])).1 :: ν) (nc k ((Y ++ [((p, j, 0) : Cd)]).length - 1) (Y ++ [(p, j, 0)])).2
            rw [e2]
            exact R'
          · rw [adv_er' k1] at H
            exact G_nots (h := h + 1) hz ht h100 R6 (fun M' R' F' _ => ⟨rfl, H M' (R'.x (by decide)) ((((fA.tr fD).tr F5).tr F6).tr F')⟩)
        have old := h9.2.2 j hj
        refine ⟨40, rf29_14 F, 40, rf29_14 F, ok40 F, v40 F, fun q0 => ?_, fun q0 => ⟨fun qp => ?_, fun qp => ?_⟩⟩
        all_goals rw [old] at q0
        · have pj : pq Y j = true := by
            by_cases z : pq Y j = true
            · exact z
            · rw [if_neg z] at q0; exact absurd rfl q0
          refine ⟨ok40 F, v40 F, fun A eA => ?_⟩
          have ev : vp_nar .boolean (1 : Int32) = (if pq (Y ++ [(p, j, 0)]) j = true then 1 else 0) := by rw [pq_app, pj, Bool.true_or, if_pos rfl]; exact bool_nar1
          have := rest A _ eA ev
          refine ⟨fun qp => ?_, fun qp => ?_⟩
          · have p0 : p = 0 := inj32 (b := 0) (by omega) (by decide) qp
            rw [p0] at this; exact this
          · have p1 : p = 1 := by
              have : p ≠ 0 := fun z => qp (by rw [z]; rfl)
              omega
            rw [p1] at this; exact this
        · have p0 : p = 0 := inj32 (b := 0) (by omega) (by decide) qp
          have pj : pq Y j = false := by
            cases z : pq Y j with
            | true => rw [z, if_pos rfl] at q0; exact absurd q0 (by decide)
            | false => rfl
          refine ⟨ok40 F, v40 F, fun A eA => ?_⟩
          have ev : vp_nar .boolean (0 : Int32) = (if pq (Y ++ [(p, j, 0)]) j = true then 1 else 0) := by rw [pq_app, pj, p0, if_neg (by simp)]; exact bool_nar0
          have := rest A _ eA ev
          refine ⟨fun _ => ?_, fun z => absurd qp z⟩
          rw [p0] at this; exact this
        · have p1 : p = 1 := by
            have : p ≠ 0 := fun z => qp (by rw [z]; rfl)
            omega
          refine ⟨ok40 F, v40 F, fun A eA => ?_⟩
          have ev : vp_nar .boolean (1 : Int32) = (if pq (Y ++ [(p, j, 0)]) j = true then 1 else 0) := by
            rw [pq_app, decide_eq_true (show p = 1 ∧ j = j from ⟨p1, rfl⟩), Bool.or_true, if_pos rfl]; exact bool_nar1
          have := rest A _ eA ev
          refine ⟨fun z => absurd z qp, fun _ => ?_⟩
          rw [p1] at this; exact this
    · cases e : fd sN (tC b n i) with
      | none =>
        rw [e] at H
        rw [h3, lt32 (by omega)]
        exact ⟨32, rf29_3 F, ok32 F, v32, G_fails hR hB (by decide) (fun M' T' F' _ => ⟨rfl, H M' T' F'⟩)⟩
      | some j =>
        rw [e] at qv
        exact absurd qv (oi_ne (by have := (fd_some e).1; have := h1.2.2.2.2.1.1; omega))
  · rw [if_neg k2] at H
    rw [h3, lt32 (by omega)]
    exact ⟨32, rf29_3 F, ok32 F, v32, G_fails hR hB (by decide) (fun M' T' F' _ => ⟨rfl, H M' T' F'⟩)⟩
end
end
