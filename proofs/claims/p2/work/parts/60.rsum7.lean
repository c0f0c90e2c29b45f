/-! the reference reads a sum: all of it -/
section
variable {b : Nat → Int32} {n s m : Nat} {sN : List Int64} {ro mx : List Int32} {vN : List Int64} {h : Nat} {Q : Option Value → Mem → Prop}
theorem adv_ok' {b : Nat → Int32} {n i : Nat} (k : tK b n (i + 1) ≠ 0) : adv' b n i = .ok (i + 1) := by unfold adv'; rw [if_neg k]
theorem adv_er' {b : Nat → Int32} {n i : Nat} (k : tK b n (i + 1) = 0) : adv' b n i = .error (1, tP b n (i + 1)) := by unfold adv'; rw [if_pos k]
theorem top_cons {x : Nat} {l : List Nat} {P : Nat → Prop} (h : P x) : top? (x :: l) P := h
theorem top_imp {l : List Nat} {P R : Nat → Prop} (h : top? l P) (k : ∀ x, P x → R x) : top? l R := by
  cases l with
  | nil => trivial
  | cons x l => exact k x h
theorem B_rd (hB : By b) (hS : Sto b n s) : ∀ (g : Nat),
    (∀ (M : Mem) (i o k pr : Nat) (σ0 ν : List Nat) (X : List Nd) (u : Int32), 6 * (s + 1 - i) ≤ g → tK b n i ≠ 0 → top? σ0 (fun x => x ≠ 3) → (∀ x ∈ σ0, x < 100) → SR b n s m sN ro mx vN (0, 0) M i (o + k) pr (List.replicate k 3 ++ σ0) ν X → EndO b n s m sN ro mx vN M o k pr σ0 ν (fun M' => T (h + 5) mdX11_readSum 19 [(0, .ref 29), (1, .int 0), (2, .int 1)] [] M' Q) (fun M' => Q (some (.int 0)) M') (rd b n sN mx vN g 0 i (o + k) X u) → T (h + 5) mdX11_readSum 19 [(0, .ref 29), (1, .int 1), (2, .int 1)] [] M Q) ∧
    (∀ (M : Mem) (i o pr : Nat) (σ0 ν : List Nat) (X : List Nd) (u : Int32), 6 * (s + 1 - i) + 1 ≤ g → tK b n i ≠ 0 → top? σ0 (fun x => x ≠ 3 ∧ (x < 4 ∨ 6 < x)) → (∀ x ∈ σ0, x < 100) → SR b n s m sN ro mx vN (0, 0) M i o pr σ0 ν X → EndJ 6 b n s m sN ro mx vN M o pr σ0 ν (fun M' => T (h + 5) mdX11_readSum 19 [(0, .ref 29), (1, .int 0), (2, .int 1)] [] M' Q) (fun M' => Q (some (.int 0)) M') (rd b n sN mx vN g 1 i o X u) → T (h + 5) mdX11_readSum 19 [(0, .ref 29), (1, .int 1), (2, .int 1)] [] M Q) ∧
    (∀ (M : Mem) (i o pr : Nat) (σ0 ν : List Nat) (π : List (Nat × Nat)) (r : Nat) (X : List Nd) (u : Int32), 6 * (s + 1 - i) + 2 ≤ g → tK b n i ≠ 0 → top? σ0 (fun x => x ≠ 3 ∧ (x < 4 ∨ 6 < x)) → (∀ x ∈ σ0, x < 100) → (∀ e ∈ π, 4 ≤ e.1 ∧ e.1 ≤ 6) → SR b n s m sN ro mx vN (0, 0) M i o pr (π.map Prod.fst ++ σ0) (r :: (π.map Prod.snd ++ ν)) X → (jf π r X).1 = (jf π r X).2.length - 1 → EndJ 6 b n s m sN ro mx vN M o pr σ0 ν (fun M' => T (h + 5) mdX11_readSum 19 [(0, .ref 29), (1, .int 0), (2, .int 1)] [] M' Q) (fun M' => Q (some (.int 0)) M') (rd b n sN mx vN g 2 i o (jf π r X).2 u) → T (h + 5) mdX11_readSum 19 [(0, .ref 29), (1, .int 0), (2, .int 1)] [] M Q) ∧
    (∀ (M : Mem) (i o pr : Nat) (σ0 ν : List Nat) (X : List Nd) (u : Int32), 6 * (s + 1 - i) + 3 ≤ g → tK b n i ≠ 0 → top? σ0 (fun x => x ≠ 3 ∧ (x < 4 ∨ 8 < x)) → (∀ x ∈ σ0, x < 100) → SR b n s m sN ro mx vN (0, 0) M i o pr σ0 ν X → EndJ 8 b n s m sN ro mx vN M o pr σ0 ν (fun M' => T (h + 5) mdX11_readSum 19 [(0, .ref 29), (1, .int 0), (2, .int 1)] [] M' Q) (fun M' => Q (some (.int 0)) M') (rd b n sN mx vN g 3 i o X u) → T (h + 5) mdX11_readSum 19 [(0, .ref 29), (1, .int 1), (2, .int 1)] [] M Q) ∧
    (∀ (M : Mem) (i o pr : Nat) (σ0 ν : List Nat) (π : List (Nat × Nat)) (r : Nat) (X : List Nd) (u : Int32), 6 * (s + 1 - i) + 4 ≤ g → tK b n i ≠ 0 → tK b n i ≠ 22 ∧ tK b n i ≠ 23 ∧ tK b n i ≠ 24 → top? σ0 (fun x => x ≠ 3 ∧ (x < 4 ∨ 8 < x)) → (∀ x ∈ σ0, x < 100) → (∀ e ∈ π, 4 ≤ e.1 ∧ e.1 ≤ 8) → SR b n s m sN ro mx vN (0, 0) M i o pr (π.map Prod.fst ++ σ0) (r :: (π.map Prod.snd ++ ν)) X → (jf π r X).1 = (jf π r X).2.length - 1 → EndJ 8 b n s m sN ro mx vN M o pr σ0 ν (fun M' => T (h + 5) mdX11_readSum 19 [(0, .ref 29), (1, .int 0), (2, .int 1)] [] M' Q) (fun M' => Q (some (.int 0)) M') (rd b n sN mx vN g 4 i o (jf π r X).2 u) → T (h + 5) mdX11_readSum 19 [(0, .ref 29), (1, .int 0), (2, .int 1)] [] M Q) := by
  intro g
  induction g with
  | zero =>
    refine ⟨?_, ?_, ?_, ?_, ?_⟩
    · intro M i o k pr σ0 ν X u hg _ _ _ hR _; have := hR.2.1; omega
    · intro M i o pr σ0 ν X u hg _ _ _ hR _; have := hR.2.1; omega
    · intro M i o pr σ0 ν π r X u hg _ _ _ _ hR _ _; have := hR.2.1; omega
    · intro M i o pr σ0 ν X u hg _ _ _ hR _; have := hR.2.1; omega
    · intro M i o pr σ0 ν π r X u hg _ _ _ _ _ hR _ _; have := hR.2.1; omega
  | succ g ih =>
    obtain ⟨ih0, ih1, ih2, ih3, ih4⟩ := ih
    refine ⟨?_, ?_, ?_, ?_, ?_⟩
    · -- an operand
      intro M i o k pr σ0 ν X u hg h0 ht h100 hR hE
      have F := hR.1.1
      have hi := hR.2.1
      have h6 : mI M 29 6 = 0 := hR.2.2.2.1.1
      refine VX11_readSum_19 ?_
      unfold DX11_readSum_19
      refine ⟨fun z => absurd z (by decide), fun _ => ⟨ok29 F, fun z => absurd h6 z, fun _ => ⟨fun z => absurd z (by decide), fun _ => ?_⟩⟩⟩
      refine B_said hR hB (k := 21) (by decide) rfl (fun _ => ⟨_, rfl, fun q => ?_, fun q => ?_⟩)
      · have n21 : tK b n i ≠ 21 := by intro z; rw [if_pos z] at q; exact absurd q (by decide)
        refine B_said hR hB (k := 15) (by decide) rfl (fun _ => ⟨_, rfl, fun q => ?_, fun q => ?_⟩)
        · have n15 : tK b n i ≠ 15 := by intro z; rw [if_pos z] at q; exact absurd q (by decide)
          refine B_readOperand (h := h) hR hB hS h0 ht h100 n21 n15 (g := g) (u := u) ?_
          generalize rd b n sN mx vN (g + 1) 0 i (o + k) X u = R at hE
          cases R with
          | error e => exact fun M' T' F' _ => ⟨rfl, XL T' (hE M' T' F')⟩
          | ok r => exact fun M' R' F' _ => ⟨rfl, hE M' R' F'⟩
        · have k15 : tK b n i = 15 := by
            by_cases z : tK b n i = 15
            · exact z
            · rw [if_neg z] at q; exact absurd rfl q
          have hs := hS.lt hi.2.2 h0 (by rw [k15]; decide)
          unfold rd at hE
          rw [if_pos rfl, if_neg (by rw [k15]; decide), if_neg (by rw [k15]; decide), if_neg (by rw [k15]; decide), if_neg (by rw [k15]; decide), if_pos k15] at hE
          refine B_opening (h := h + 1) (op := 9) hR hB hs (Or.inr rfl) (fun ho k1 M1 R1 F1 _ => ⟨rfl, ?_⟩) (fun ho k1 M1 T1 F1 _ => ⟨rfl, ?_⟩) (fun ho M1 T1 F1 _ => ⟨rfl, ?_⟩)
          · rw [if_neg (by omega : ¬ o + k = 15), adv_ok' k1] at hE
            have hE : EndO b n s m sN ro mx vN M o k pr σ0 ν (fun M' => T (h + 5) mdX11_readSum 19 [(0, .ref 29), (1, .int 0), (2, .int 1)] [] M' Q) (fun M' => Q (some (.int 0)) M') ((rd b n sN mx vN g 3 (i + 1) (o + k + 1) X u).bind fun r => if tK b n r.1 = 16 then (adv' b n r.1).bind fun j' => .ok (j', r.2) else .error (2, tP b n r.1)) := hE
            rw [if_pos rfl] at R1
            have h101 : ∀ x ∈ 9 :: (List.replicate k 3 ++ σ0), x < 100 := by
              intro x hx
              rcases List.mem_cons.mp hx with z | z
              · omega
              · rcases List.mem_append.mp z with z | z
                · have := List.eq_of_mem_replicate z; omega
                · exact h100 x z
            refine ih3 M1 (i + 1) (o + k + 1) (pr + 1) (9 :: (List.replicate k 3 ++ σ0)) ν X u (by omega) k1 (top_cons ⟨by decide, Or.inr (by decide)⟩) h101 R1 ?_
            have hok := rd_ok (sN := sN) (mx := mx) (vN := vN) hS g 3 (i + 1) (o + k + 1) X u (by decide) hs k1
            generalize rd b n sN mx vN g 3 (i + 1) (o + k + 1) X u = R at hE hok
            cases R with
            | error e => exact fun M' T' F' => hE M' T' (F1.tr F')
            | ok r =>
              intro M2 π r' X' hπ R2 ej hst F2
              have hE : EndO b n s m sN ro mx vN M o k pr σ0 ν (fun M' => T (h + 5) mdX11_readSum 19 [(0, .ref 29), (1, .int 0), (2, .int 1)] [] M' Q) (fun M' => Q (some (.int 0)) M') (if tK b n r.1 = 16 then (adv' b n r.1).bind fun j' => .ok (j', r.2) else .error (2, tP b n r.1)) := hE
              obtain ⟨a1, a2, a3, -, -⟩ := hok
              have s8 := hst.2.2.2 rfl
              refine B_noOp hB R2 (by rintro (z | z | z | z | z) <;> first | exact s8.1 z | exact s8.2 z | exact hst.1 z | exact hst.2.1 z | exact hst.2.2.1 z) (fun hend => ?_) (fun _ k16 => ?_)
              · have n16 : tK b n r.1 ≠ 16 := hend.resolve_left (by omega)
                rw [if_neg n16] at hE
                exact B_left R2 (by omega) (fun M' T' F' => hE M' T' ((F1.tr F2).tr F'))
              · rw [if_pos k16] at hE
                have hs2 := hS.lt a2 a3 (by rw [k16]; decide)
                refine B_join (h := h + 1) (L := 8) (Or.inr rfl) (top_cons (Or.inr (by decide))) hπ h101 R2 (fun M3 R3 F3 _ => ⟨rfl, fun M4 e4 M5 e5 M6 e6 => ?_⟩)
                rw [ej] at R3
                dsimp only at R3
                obtain ⟨g1, g2, g3, g4, g5, g6, g7, g8, g9, g10⟩ := id R3
                have hl9 : (9 :: (List.replicate k 3 ++ σ0)).length = (List.replicate k 3 ++ σ0).length + 1 := rfl
                have i3 : mI M3 29 29 = Int32.ofNat ((List.replicate k 3 ++ σ0).length + 1) := g7.1
                have hlb : (List.replicate k 3 ++ σ0).length + 1 ≤ r.1 := by have := g10.1; omega
                rw [i3, dec32 (by omega)] at e4
                have i4 : mI M4 29 32 = Int32.ofNat (pr + 1) := by rw [e4]; simp [g6, mNwI, mSwI, mKwI, mIwI, mJwI, mRwI, mLwI, mAIwI, mAJwI, mARwI, mNwJ, mSwJ, mKwJ, mIwJ, mJwJ, mRwJ, mLwJ, mAIwJ, mAJwJ, mARwJ, mNwR, mSwR, mKwR, mIwR, mJwR, mRwR, mLwR, mAIwR, mAJwR, mARwR, mNwAI, mSwAI, mKwAI, mIwAI, mJwAI, mRwAI, mLwAI, mAIwAI, mAJwAI, mARwAI, mNwAJ, mSwAJ, mKwAJ, mIwAJ, mJwAJ, mRwAJ, mLwAJ, mAIwAJ, mAJwAJ, mARwAJ, mNwAR, mSwAR, mKwAR, mIwAR, mJwAR, mRwAR, mLwAR, mAIwAR, mAJwAR, mARwAR, okkwI, okkwJ, okkwR, okkwAI, okkwAJ, okkwAR]
                have hpr := g10.2.2.2.1
                rw [i4, dec32 (by omega)] at e5
                have i5 : mI M5 29 33 = Int32.ofNat (o + k + 1) := by rw [e5, e4]; simp [g5, mNwI, mSwI, mKwI, mIwI, mJwI, mRwI, mLwI, mAIwI, mAJwI, mARwI, mNwJ, mSwJ, mKwJ, mIwJ, mJwJ, mRwJ, mLwJ, mAIwJ, mAJwJ, mARwJ, mNwR, mSwR, mKwR, mIwR, mJwR, mRwR, mLwR, mAIwR, mAJwR, mARwR, mNwAI, mSwAI, mKwAI, mIwAI, mJwAI, mRwAI, mLwAI, mAIwAI, mAJwAI, mARwAI, mNwAJ, mSwAJ, mKwAJ, mIwAJ, mJwAJ, mRwAJ, mLwAJ, mAIwAJ, mAJwAJ, mARwAJ, mNwAR, mSwAR, mKwAR, mIwAR, mJwAR, mRwAR, mLwAR, mAIwAR, mAJwAR, mARwAR, okkwI, okkwJ, okkwR, okkwAI, okkwAJ, okkwAR]
                have ho2 := g10.2.2.1
                rw [i5, dec32 (by omega)] at e6
                have fr6 : RFm m M3 M6 := by rw [e6, e5, e4]; exact ((RFm.i (by decide)).tr (RFm.i (by decide))).tr (RFm.i (by decide))
                have R6 : SR b n s m sN ro mx vN (0, 0) M6 r.1 (o + k) pr (List.replicate k 3 ++ σ0) ((r.2.1.length - 1) :: ν) r.2.1 := by
                  refine SR.opPop (M := M3) (x := 9) g1 g2 g3 g4 g7 g8 g9 ⟨by omega, g10.2.1, by omega, by omega, g10.2.2.2.2⟩ fr6 ?_ ?_ ?_ ?_ ?_ ?_ ?_ ?_ ?_
                  · rw [e6, e5, e4]; simp [mNwI, mSwI, mKwI, mIwI, mJwI, mRwI, mLwI, mAIwI, mAJwI, mARwI, mNwJ, mSwJ, mKwJ, mIwJ, mJwJ, mRwJ, mLwJ, mAIwJ, mAJwJ, mARwJ, mNwR, mSwR, mKwR, mIwR, mJwR, mRwR, mLwR, mAIwR, mAJwR, mARwR, mNwAI, mSwAI, mKwAI, mIwAI, mJwAI, mRwAI, mLwAI, mAIwAI, mAJwAI, mARwAI, mNwAJ, mSwAJ, mKwAJ, mIwAJ, mJwAJ, mRwAJ, mLwAJ, mAIwAJ, mAJwAJ, mARwAJ, mNwAR, mSwAR, mKwAR, mIwAR, mJwAR, mRwAR, mLwAR, mAIwAR, mAJwAR, mARwAR, okkwI, okkwJ, okkwR, okkwAI, okkwAJ, okkwAR]
                  · rw [e6, e5, e4]; simp [mNwI, mSwI, mKwI, mIwI, mJwI, mRwI, mLwI, mAIwI, mAJwI, mARwI, mNwJ, mSwJ, mKwJ, mIwJ, mJwJ, mRwJ, mLwJ, mAIwJ, mAJwJ, mARwJ, mNwR, mSwR, mKwR, mIwR, mJwR, mRwR, mLwR, mAIwR, mAJwR, mARwR, mNwAI, mSwAI, mKwAI, mIwAI, mJwAI, mRwAI, mLwAI, mAIwAI, mAJwAI, mARwAI, mNwAJ, mSwAJ, mKwAJ, mIwAJ, mJwAJ, mRwAJ, mLwAJ, mAIwAJ, mAJwAJ, mARwAJ, mNwAR, mSwAR, mKwAR, mIwAR, mJwAR, mRwAR, mLwAR, mAIwAR, mAJwAR, mARwAR, okkwI, okkwJ, okkwR, okkwAI, okkwAJ, okkwAR]
                  · rw [e6, e5, e4]; simp [mNwI, mSwI, mKwI, mIwI, mJwI, mRwI, mLwI, mAIwI, mAJwI, mARwI, mNwJ, mSwJ, mKwJ, mIwJ, mJwJ, mRwJ, mLwJ, mAIwJ, mAJwJ, mARwJ, mNwR, mSwR, mKwR, mIwR, mJwR, mRwR, mLwR, mAIwR, mAJwR, mARwR, mNwAI, mSwAI, mKwAI, mIwAI, mJwAI, mRwAI, mLwAI, mAIwAI, mAJwAI, mARwAI, mNwAJ, mSwAJ, mKwAJ, mIwAJ, mJwAJ, mRwAJ, mLwAJ, mAIwAJ, mAJwAJ, mARwAJ, mNwAR, mSwAR, mKwAR, mIwAR, mJwAR, mRwAR, mLwAR, mAIwAR, mAJwAR, mARwAR, okkwI, okkwJ, okkwR, okkwAI, okkwAJ, okkwAR]
                  · rw [e6, e5, e4]; simp [mNwI, mSwI, mKwI, mIwI, mJwI, mRwI, mLwI, mAIwI, mAJwI, mARwI, mNwJ, mSwJ, mKwJ, mIwJ, mJwJ, mRwJ, mLwJ, mAIwJ, mAJwJ, mARwJ, mNwR, mSwR, mKwR, mIwR, mJwR, mRwR, mLwR, mAIwR, mAJwR, mARwR, mNwAI, mSwAI, mKwAI, mIwAI, mJwAI, mRwAI, mLwAI, mAIwAI, mAJwAI, mARwAI, mNwAJ, mSwAJ, mKwAJ, mIwAJ, mJwAJ, mRwAJ, mLwAJ, mAIwAJ, mAJwAJ, mARwAJ, mNwAR, mSwAR, mKwAR, mIwAR, mJwAR, mRwAR, mLwAR, mAIwAR, mAJwAR, mARwAR, okkwI, okkwJ, okkwR, okkwAI, okkwAJ, okkwAR]
                  · rw [e6, e5, e4]; simp [mNwI, mSwI, mKwI, mIwI, mJwI, mRwI, mLwI, mAIwI, mAJwI, mARwI, mNwJ, mSwJ, mKwJ, mIwJ, mJwJ, mRwJ, mLwJ, mAIwJ, mAJwJ, mARwJ, mNwR, mSwR, mKwR, mIwR, mJwR, mRwR, mLwR, mAIwR, mAJwR, mARwR, mNwAI, mSwAI, mKwAI, mIwAI, mJwAI, mRwAI, mLwAI, mAIwAI, mAJwAI, mARwAI, mNwAJ, mSwAJ, mKwAJ, mIwAJ, mJwAJ, mRwAJ, mLwAJ, mAIwAJ, mAJwAJ, mARwAJ, mNwAR, mSwAR, mKwAR, mIwAR, mJwAR, mRwAR, mLwAR, mAIwAR, mAJwAR, mARwAR, okkwI, okkwJ, okkwR, okkwAI, okkwAJ, okkwAR]
                  · rw [e6, e5, e4]; simp [mNwI, mSwI, mKwI, mIwI, mJwI, mRwI, mLwI, mAIwI, mAJwI, mARwI, mNwJ, mSwJ, mKwJ, mIwJ, mJwJ, mRwJ, mLwJ, mAIwJ, mAJwJ, mARwJ, mNwR, mSwR, mKwR, mIwR, mJwR, mRwR, mLwR, mAIwR, mAJwR, mARwR, mNwAI, mSwAI, mKwAI, mIwAI, mJwAI, mRwAI, mLwAI, mAIwAI, mAJwAI, mARwAI, mNwAJ, mSwAJ, mKwAJ, mIwAJ, mJwAJ, mRwAJ, mLwAJ, mAIwAJ, mAJwAJ, mARwAJ, mNwAR, mSwAR, mKwAR, mIwAR, mJwAR, mRwAR, mLwAR, mAIwAR, mAJwAR, mARwAR, okkwI, okkwJ, okkwR, okkwAI, okkwAJ, okkwAR]
                  · rw [e6, e5, e4]; simp [mNwI, mSwI, mKwI, mIwI, mJwI, mRwI, mLwI, mAIwI, mAJwI, mARwI, mNwJ, mSwJ, mKwJ, mIwJ, mJwJ, mRwJ, mLwJ, mAIwJ, mAJwJ, mARwJ, mNwR, mSwR, mKwR, mIwR, mJwR, mRwR, mLwR, mAIwR, mAJwR, mARwR, mNwAI, mSwAI, mKwAI, mIwAI, mJwAI, mRwAI, mLwAI, mAIwAI, mAJwAI, mARwAI, mNwAJ, mSwAJ, mKwAJ, mIwAJ, mJwAJ, mRwAJ, mLwAJ, mAIwAJ, mAJwAJ, mARwAJ, mNwAR, mSwAR, mKwAR, mIwAR, mJwAR, mRwAR, mLwAR, mAIwAR, mAJwAR, mARwAR, okkwI, okkwJ, okkwR, okkwAI, okkwAJ, okkwAR]
                  · rw [e6, e5, e4]; rfl
                  · rw [e6, e5, e4]; rfl
                obtain ⟨f1, f2, f3, f4, f5, f6, f7, f8, f9, f10⟩ := id R6
                refine B_take (h := h + 2) (pr := pr) (o := o + k) f1 ⟨f2.1, f2.2.1, hs2⟩ f3 f4.1 f5 f6 f7 f8 f9 ⟨by omega, by omega, f10.2.2.1, by omega, f10.2.2.2.2⟩ hB (fun k2 M7 R7 F7 _ => ⟨rfl, ?_⟩) (fun k2 M7 R7 F7 _ => ⟨rfl, ?_⟩)
                · rw [adv_ok' k2] at hE
                  exact neg199 (h := h + 3) ht h100 k M7 (r.1 + 1) o (r.2.1.length - 1) r.2.1 R7 (fun M' R' F' => hE M' R' (((((F1.tr F2).tr F3).tr fr6).tr F7).tr F'))
                · rw [adv_er' k2] at hE
                  refine neg199 (h := h + 3) ht h100 k M7 (r.1 + 1) o (r.2.1.length - 1) r.2.1 R7 (fun M' R' F' => ?_)
                  have T' := R'.x (by decide)
                  exact XL T' (hE M' T' (((((F1.tr F2).tr F3).tr fr6).tr F7).tr F'))
          · rw [if_neg (by omega : ¬ o + k = 15), adv_er' k1] at hE
            exact XL T1 (hE M1 T1 F1)
          · rw [if_pos ho] at hE
            exact XL T1 (hE M1 T1 F1)
      · have k21 : tK b n i = 21 := by
          by_cases z : tK b n i = 21
          · exact z
          · rw [if_neg z] at q; exact absurd rfl q
        have hs := hS.lt hi.2.2 h0 (by rw [k21]; decide)
        unfold rd at hE
        rw [if_pos rfl, if_neg (by rw [k21]; decide), if_neg (by rw [k21]; decide), if_neg (by rw [k21]; decide), if_pos k21] at hE
        refine B_opening (h := h + 1) (op := 3) hR hB hs (Or.inl rfl) (fun ho k1 M1 R1 F1 _ => ⟨rfl, ?_⟩) (fun ho k1 M1 T1 F1 _ => ⟨rfl, ?_⟩) (fun ho M1 T1 F1 _ => ⟨rfl, ?_⟩)
        · rw [if_neg (by omega : ¬ o + k = 15), adv_ok' k1] at hE
          have hE : EndO b n s m sN ro mx vN M o k pr σ0 ν (fun M' => T (h + 5) mdX11_readSum 19 [(0, .ref 29), (1, .int 0), (2, .int 1)] [] M' Q) (fun M' => Q (some (.int 0)) M') ((rd b n sN mx vN g 0 (i + 1) (o + k + 1) X u).bind fun r => .ok (r.1, r.2.1 ++ [(3, Int64.ofNat (r.2.1.length - 1), 0)], r.2.2)) := hE
          rw [if_neg (by decide), Nat.add_zero] at R1
          refine ih0 M1 (i + 1) o (k + 1) pr σ0 ν X u (by omega) k1 ht h100 R1 ?_
          have e : o + (k + 1) = o + k + 1 := rfl
          rw [e]
          generalize rd b n sN mx vN g 0 (i + 1) (o + k + 1) X u = R at hE
          cases R with
          | error e => exact fun M' T' F' => hE M' T' (F1.tr F')
          | ok r =>
            intro M2 R2 F2
            refine hE M2 ?_ (F1.tr F2)
            have e2 : (r.2.1 ++ [(3, Int64.ofNat (r.2.1.length - 1), 0)] : List Nd).length - 1 = r.2.1.length := by rw [List.length_append]; rfl
            show SR b n s m sN ro mx vN (0, 0) M2 r.1 o pr σ0 ((ng k ((r.2.1 ++ [(3, Int64.ofNat (r.2.1.length - 1), 0)] : List Nd).length - 1) (r.2.1 ++ [(3, Int64.ofNat (r.2.1.length - 1), 0)])).1 :: ν) (ng k ((r.2.1 ++ [(3, Int64.ofNat (r.2.1.length - 1), 0)] : List Nd).length - 1) (r.2.1 ++ [(3, Int64.ofNat (r.2.1.length - 1), 0)])).2
            rw [e2]
            exact R2
        · rw [if_neg (by omega : ¬ o + k = 15), adv_er' k1] at hE
          exact XL T1 (hE M1 T1 F1)
        · rw [if_pos ho] at hE
          exact XL T1 (hE M1 T1 F1)
    · -- times
      intro M i o pr σ0 ν X u hg h0 ht h100 hR hE
      have hi := hR.2.1
      unfold rd at hE
      rw [if_neg (by decide), if_pos rfl] at hE
      refine ih0 M i o 0 pr σ0 ν X u (by omega) h0 (top_imp ht (fun x q => q.1)) h100 (by simpa using hR) ?_
      rw [Nat.add_zero]
      have hok := rd_ok (sN := sN) (mx := mx) (vN := vN) hS g 0 i o X u (by decide) hi.2.2 h0
      generalize rd b n sN mx vN g 0 i o X u = R at hE hok
      cases R with
      | error e => exact fun M' T' F' => hE M' T' F'
      | ok r =>
        intro M2 R2 F2
        obtain ⟨a1, a2, a3, -, a5⟩ := hok
        exact ih2 M2 r.1 o pr σ0 ν [] (r.2.1.length - 1) r.2.1 r.2.2 (by have := (a5 (by decide)).1; omega) a3 ht h100 (fun e he => absurd he List.not_mem_nil) R2 rfl (EndJ.fr hE F2)
    · -- times: the loop
      intro M i o pr σ0 ν π r X u hg h0 ht h100 hπ hR ej hE
      have hi := hR.2.1
      unfold rd at hE
      rw [if_neg (by decide), if_neg (by decide), if_pos rfl] at hE
      by_cases hk : tK b n i = 22 ∨ tK b n i = 23 ∨ tK b n i = 24
      · rw [if_pos hk] at hE
        have hs := hS.lt hi.2.2 h0 (by rcases hk with q | q | q <;> (rw [q]; decide))
        have o46 : 4 ≤ opS (tK b n i) ∧ opS (tK b n i) ≤ 6 := by rcases hk with q | q | q <;> (rw [q]; decide)
        refine B_atOp (L := 6) hB hs (Or.inl ⟨rfl, hk⟩) (top_imp ht (fun x q => q.2)) hπ h100 hR (fun k1 M1 R1 F1 => ?_) (fun k1 M1 T1 F1 => ?_)
        · rw [adv_ok' k1] at hE
          have hE : EndJ 6 b n s m sN ro mx vN M o pr σ0 ν (fun M' => T (h + 5) mdX11_readSum 19 [(0, .ref 29), (1, .int 0), (2, .int 1)] [] M' Q) (fun M' => Q (some (.int 0)) M') ((rd b n sN mx vN g 0 (i + 1) o (jf π r X).2 u).bind fun r' => rd b n sN mx vN g 2 r'.1 o (r'.2.1 ++ [(opS (tK b n i), Int64.ofNat ((jf π r X).2.length - 1), r'.2.1.length - 1)]) r'.2.2) := hE
          rw [← ej] at hE
          generalize jf π r X = J at hE R1
          refine ih0 M1 (i + 1) o 0 pr (opS (tK b n i) :: σ0) (J.1 :: ν) J.2 u (by omega) k1 (top_cons (by omega)) (fun x hx => ?_) R1 ?_
          · rcases List.mem_cons.mp hx with z | z
            · omega
            · exact h100 x z
          rw [Nat.add_zero]
          have hok := rd_ok (sN := sN) (mx := mx) (vN := vN) hS g 0 (i + 1) o J.2 u (by decide) hs k1
          generalize rd b n sN mx vN g 0 (i + 1) o J.2 u = R at hE hok
          cases R with
          | error e => exact fun M' T' F' => hE M' T' (F1.tr F')
          | ok r2 =>
            intro M2 R2 F2
            obtain ⟨a1, a2, a3, -, a5⟩ := hok
            refine ih2 M2 r2.1 o pr σ0 ν [(opS (tK b n i), J.1)] (r2.2.1.length - 1) r2.2.1 r2.2.2 (by omega) a3 ht h100 (fun e he => ?_) R2 ?_ ?_
            · rw [List.mem_singleton.mp he]; exact o46
            · show r2.2.1.length = (r2.2.1 ++ [_]).length - 1
              rw [List.length_append]; rfl
            · exact EndJ.fr (M := M) hE (F1.tr F2)
        · rw [adv_er' k1] at hE
          exact XL T1 (hE M1 T1 F1)
      · rw [if_neg hk] at hE
        refine hE M π r X hπ hR (Prod.ext ej rfl) ⟨fun z => hk (Or.inl z), fun z => hk (Or.inr (Or.inl z)), fun z => hk (Or.inr (Or.inr z)), fun z => absurd z (by decide)⟩ RFm.rf
    · -- a sum
      intro M i o pr σ0 ν X u hg h0 ht h100 hR hE
      have hi := hR.2.1
      unfold rd at hE
      rw [if_neg (by decide), if_neg (by decide), if_neg (by decide), if_pos rfl] at hE
      refine ih1 M i o pr σ0 ν X u (by omega) h0 (top_imp ht (fun x q => ⟨q.1, by omega⟩)) h100 hR ?_
      have hok := rd_ok (sN := sN) (mx := mx) (vN := vN) hS g 1 i o X u (by decide) hi.2.2 h0
      generalize rd b n sN mx vN g 1 i o X u = R at hE hok
      cases R with
      | error e => exact fun M' T' F' => hE M' T' F'
      | ok r =>
        intro M2 π r' X' hπ R2 ej hst F2
        obtain ⟨a1, a2, a3, -, a5⟩ := hok
        have e1 : (jf π r' X').2 = r.2.1 := by rw [ej]
        refine ih4 M2 r.1 o pr σ0 ν π r' X' r.2.2 (by have := (a5 (by decide)).1; omega) a3 ⟨hst.1, hst.2.1, hst.2.2.1⟩ ht h100 (fun e he => ⟨(hπ e he).1, by have := (hπ e he).2; omega⟩) R2 (by rw [ej]) ?_
        rw [e1]
        exact EndJ.fr hE F2
    · -- a sum: the loop
      intro M i o pr σ0 ν π r X u hg h0 hnt ht h100 hπ hR ej hE
      have hi := hR.2.1
      unfold rd at hE
      rw [if_neg (by decide), if_neg (by decide), if_neg (by decide), if_neg (by decide)] at hE
      by_cases hk : tK b n i = 20 ∨ tK b n i = 21
      · rw [if_pos hk] at hE
        have hs := hS.lt hi.2.2 h0 (by rcases hk with q | q <;> (rw [q]; decide))
        have o78 : 7 ≤ opS (tK b n i) ∧ opS (tK b n i) ≤ 8 := by rcases hk with q | q <;> (rw [q]; decide)
        refine B_atOp (L := 8) hB hs (Or.inr ⟨rfl, hk⟩) (top_imp ht (fun x q => q.2)) hπ h100 hR (fun k1 M1 R1 F1 => ?_) (fun k1 M1 T1 F1 => ?_)
        · rw [adv_ok' k1] at hE
          have hE : EndJ 8 b n s m sN ro mx vN M o pr σ0 ν (fun M' => T (h + 5) mdX11_readSum 19 [(0, .ref 29), (1, .int 0), (2, .int 1)] [] M' Q) (fun M' => Q (some (.int 0)) M') ((rd b n sN mx vN g 1 (i + 1) o (jf π r X).2 u).bind fun r' => rd b n sN mx vN g 4 r'.1 o (r'.2.1 ++ [(opS (tK b n i), Int64.ofNat ((jf π r X).2.length - 1), r'.2.1.length - 1)]) r'.2.2) := hE
          rw [← ej] at hE
          generalize jf π r X = J at hE R1
          refine ih1 M1 (i + 1) o pr (opS (tK b n i) :: σ0) (J.1 :: ν) J.2 u (by omega) k1 (top_cons (by omega)) (fun x hx => ?_) R1 ?_
          · rcases List.mem_cons.mp hx with z | z
            · omega
            · exact h100 x z
          have hok := rd_ok (sN := sN) (mx := mx) (vN := vN) hS g 1 (i + 1) o J.2 u (by decide) hs k1
          generalize rd b n sN mx vN g 1 (i + 1) o J.2 u = R at hE hok
          cases R with
          | error e => exact fun M' T' F' => hE M' T' (F1.tr F')
          | ok r2 =>
            intro M2 π2 r' X' hπ2 R2 ej2 hst F2
            obtain ⟨a1, a2, a3, -, a5⟩ := hok
            have ea : jf (π2 ++ [(opS (tK b n i), J.1)]) r' X' = (r2.2.1.length, r2.2.1 ++ [(opS (tK b n i), Int64.ofNat J.1, r2.2.1.length - 1)]) := by rw [jf_app, ej2]
            have m1 : (π2 ++ [(opS (tK b n i), J.1)]).map Prod.fst ++ σ0 = π2.map Prod.fst ++ opS (tK b n i) :: σ0 := by simp
            have m2 : (π2 ++ [(opS (tK b n i), J.1)]).map Prod.snd ++ ν = π2.map Prod.snd ++ J.1 :: ν := by simp
            refine ih4 M2 r2.1 o pr σ0 ν (π2 ++ [(opS (tK b n i), J.1)]) r' X' r2.2.2 (by omega) a3 ⟨hst.1, hst.2.1, hst.2.2.1⟩ ht h100 (fun e he => ?_) (by rw [m1, m2]; exact R2) ?_ ?_
            · rcases List.mem_append.mp he with z | z
              · exact ⟨(hπ2 e z).1, by have := (hπ2 e z).2; omega⟩
              · rw [List.mem_singleton.mp z]; exact ⟨by show 4 ≤ opS (tK b n i); omega, o78.2⟩
            · rw [ea]
              show r2.2.1.length = (r2.2.1 ++ [_]).length - 1
              rw [List.length_append]; rfl
            · rw [ea]
              exact EndJ.fr (M := M) hE (F1.tr F2)
        · rw [adv_er' k1] at hE
          exact XL T1 (hE M1 T1 F1)
      · rw [if_neg hk] at hE
        refine hE M π r X hπ hR (Prod.ext ej rfl) ⟨hnt.1, hnt.2.1, hnt.2.2, fun _ => ⟨fun z => hk (Or.inl z), fun z => hk (Or.inr z)⟩⟩ RFm.rf
/-- the reference between its readings: i-th token, o opened, the nodes so far -/
def BR (b : Nat → Int32) (n s m : Nat) (sN : List Int64) (ro mx : List Int32) (vN : List Int64) (M : Mem) (i o : Nat) (X : List Nd) : Prop := CoR b n s m sN ro mx vN M ∧ (n ≤ 800 ∧ s ≤ n ∧ i ≤ s) ∧ mI M 29 5 = Int32.ofNat i ∧ mI M 29 6 = 0 ∧ mI M 29 33 = Int32.ofNat o ∧ XR M m X ∧ (X.length ≤ i ∧ o ≤ 15)
def EndR (b : Nat → Int32) (n s m : Nat) (sN : List Int64) (ro mx : List Int32) (vN : List Int64) (M : Mem) (o : Nat) (Q : Option Value → Mem → Prop) (R : Except (Int32 × Nat) (Nat × List Nd × Int32)) : Prop := match R with
  | .ok r => ∀ M', BR b n s m sN ro mx vN M' r.1 o r.2.1 → RFm m M M' → Q (some (.int (Int32.ofNat (810 * m + (r.2.1.length - 1))))) M'
  | .error e => ∀ M', TXr M' e.1 e.2 → RFm m M M' → Q (some (.int 0)) M'
theorem SR.br {M : Mem} {i o pr : Nat} {σ ν : List Nat} {X : List Nd} (h : SR b n s m sN ro mx vN (0, 0) M i o pr σ ν X) : BR b n s m sN ro mx vN M i o X := by
  obtain ⟨h1, h2, h3, h4, h5, h6, h7, h8, h9, h10⟩ := h
  exact ⟨h1, h2, h3, h4.1, h5, h9, by omega, h10.2.2.1⟩
theorem B_readSum {M : Mem} {i o : Nat} {X : List Nd} {u : Int32} {g : Nat} (hB : By b) (hS : Sto b n s) (hR : BR b n s m sN ro mx vN M i o X) (h0 : tK b n i ≠ 0) (hg : 6 * (s + 1 - i) + 3 ≤ g) (hE : EndR b n s m sN ro mx vN M o Q (rd b n sN mx vN g 3 i o X u)) : E (h + 5) mdX11_readSum [.ref 29] M Q := by
  obtain ⟨h1, h2, h3, h4, h5, h6, h7⟩ := hR
  have F := h1.1
  refine KX11_readSum ?_
  unfold DX11_readSum_0
  refine ⟨ok29 F, fun M2 e2 M3 e3 M4 e4 => ?_⟩
  have fr : RFm m M M4 := by rw [e4, e3, e2]; exact ((RFm.i (by decide)).tr (RFm.i (by decide))).tr (RFm.i (by decide))
  have R4 : SR b n s m sN ro mx vN (0, 0) M4 i o 0 [] [] X := by
    refine ⟨h1.fr fr, h2, by rw [e4, e3, e2]; simp [h3, mNwI, mSwI, mKwI, mIwI, mJwI, mRwI, mLwI, mAIwI, mAJwI, mARwI, mNwJ, mSwJ, mKwJ, mIwJ, mJwJ, mRwJ, mLwJ, mAIwJ, mAJwJ, mARwJ, mNwR, mSwR, mKwR, mIwR, mJwR, mRwR, mLwR, mAIwR, mAJwR, mARwR, mNwAI, mSwAI, mKwAI, mIwAI, mJwAI, mRwAI, mLwAI, mAIwAI, mAJwAI, mARwAI, mNwAJ, mSwAJ, mKwAJ, mIwAJ, mJwAJ, mRwAJ, mLwAJ, mAIwAJ, mAJwAJ, mARwAJ, mNwAR, mSwAR, mKwAR, mIwAR, mJwAR, mRwAR, mLwAR, mAIwAR, mAJwAR, mARwAR, okkwI, okkwJ, okkwR, okkwAI, okkwAJ, okkwAR], ⟨by rw [e4, e3, e2]; simp [h4, mNwI, mSwI, mKwI, mIwI, mJwI, mRwI, mLwI, mAIwI, mAJwI, mARwI, mNwJ, mSwJ, mKwJ, mIwJ, mJwJ, mRwJ, mLwJ, mAIwJ, mAJwJ, mARwJ, mNwR, mSwR, mKwR, mIwR, mJwR, mRwR, mLwR, mAIwR, mAJwR, mARwR, mNwAI, mSwAI, mKwAI, mIwAI, mJwAI, mRwAI, mLwAI, mAIwAI, mAJwAI, mARwAI, mNwAJ, mSwAJ, mKwAJ, mIwAJ, mJwAJ, mRwAJ, mLwAJ, mAIwAJ, mAJwAJ, mARwAJ, mNwAR, mSwAR, mKwAR, mIwAR, mJwAR, mRwAR, mLwAR, mAIwAR, mAJwAR, mARwAR, okkwI, okkwJ, okkwR, okkwAI, okkwAJ, okkwAR], Or.inl rfl⟩, by rw [e4, e3, e2]; simp [h5, mNwI, mSwI, mKwI, mIwI, mJwI, mRwI, mLwI, mAIwI, mAJwI, mARwI, mNwJ, mSwJ, mKwJ, mIwJ, mJwJ, mRwJ, mLwJ, mAIwJ, mAJwJ, mARwJ, mNwR, mSwR, mKwR, mIwR, mJwR, mRwR, mLwR, mAIwR, mAJwR, mARwR, mNwAI, mSwAI, mKwAI, mIwAI, mJwAI, mRwAI, mLwAI, mAIwAI, mAJwAI, mARwAI, mNwAJ, mSwAJ, mKwAJ, mIwAJ, mJwAJ, mRwAJ, mLwAJ, mAIwAJ, mAJwAJ, mARwAJ, mNwAR, mSwAR, mKwAR, mIwAR, mJwAR, mRwAR, mLwAR, mAIwAR, mAJwAR, mARwAR, okkwI, okkwJ, okkwR, okkwAI, okkwAJ, okkwAR], by rw [e4, e3, e2]; simp [mNwI, mSwI, mKwI, mIwI, mJwI, mRwI, mLwI, mAIwI, mAJwI, mARwI, mNwJ, mSwJ, mKwJ, mIwJ, mJwJ, mRwJ, mLwJ, mAIwJ, mAJwJ, mARwJ, mNwR, mSwR, mKwR, mIwR, mJwR, mRwR, mLwR, mAIwR, mAJwR, mARwR, mNwAI, mSwAI, mKwAI, mIwAI, mJwAI, mRwAI, mLwAI, mAIwAI, mAJwAI, mARwAI, mNwAJ, mSwAJ, mKwAJ, mIwAJ, mJwAJ, mRwAJ, mLwAJ, mAIwAJ, mAJwAJ, mARwAJ, mNwAR, mSwAR, mKwAR, mIwAR, mJwAR, mRwAR, mLwAR, mAIwAR, mAJwAR, mARwAR, okkwI, okkwJ, okkwR, okkwAI, okkwAJ, okkwAR], ⟨by rw [e4, e3, e2]; simp [mNwI, mSwI, mKwI, mIwI, mJwI, mRwI, mLwI, mAIwI, mAJwI, mARwI, mNwJ, mSwJ, mKwJ, mIwJ, mJwJ, mRwJ, mLwJ, mAIwJ, mAJwJ, mARwJ, mNwR, mSwR, mKwR, mIwR, mJwR, mRwR, mLwR, mAIwR, mAJwR, mARwR, mNwAI, mSwAI, mKwAI, mIwAI, mJwAI, mRwAI, mLwAI, mAIwAI, mAJwAI, mARwAI, mNwAJ, mSwAJ, mKwAJ, mIwAJ, mJwAJ, mRwAJ, mLwAJ, mAIwAJ, mAJwAJ, mARwAJ, mNwAR, mSwAR, mKwAR, mIwAR, mJwAR, mRwAR, mLwAR, mAIwAR, mAJwAR, mARwAR, okkwI, okkwJ, okkwR, okkwAI, okkwAJ, okkwAR], fun j hj => absurd hj (Nat.not_lt_zero _)⟩, ⟨by rw [e4, e3, e2]; simp [mNwI, mSwI, mKwI, mIwI, mJwI, mRwI, mLwI, mAIwI, mAJwI, mARwI, mNwJ, mSwJ, mKwJ, mIwJ, mJwJ, mRwJ, mLwJ, mAIwJ, mAJwJ, mARwJ, mNwR, mSwR, mKwR, mIwR, mJwR, mRwR, mLwR, mAIwR, mAJwR, mARwR, mNwAI, mSwAI, mKwAI, mIwAI, mJwAI, mRwAI, mLwAI, mAIwAI, mAJwAI, mARwAI, mNwAJ, mSwAJ, mKwAJ, mIwAJ, mJwAJ, mRwAJ, mLwAJ, mAIwAJ, mAJwAJ, mARwAJ, mNwAR, mSwAR, mKwAR, mIwAR, mJwAR, mRwAR, mLwAR, mAIwAR, mAJwAR, mARwAR, okkwI, okkwJ, okkwR, okkwAI, okkwAJ, okkwAR], fun j hj => absurd hj (Nat.not_lt_zero _)⟩, h6.fr (by rw [e4, e3, e2]; rfl) (by rw [e4, e3, e2]; rfl) (by rw [e4, e3, e2]; rfl) (by rw [e4, e3, e2]; rfl), by show X.length + 0 ≤ i; omega, Nat.zero_le _, h7.2, Nat.zero_le _, fun x hx => absurd hx List.not_mem_nil⟩
  refine (B_rd (h := h) hB hS g).2.2.2.1 M4 i o 0 [] [] X u hg h0 trivial (fun x hx => absurd hx List.not_mem_nil) R4 ?_
  have hok := rd_ok (sN := sN) (mx := mx) (vN := vN) hS g 3 i o X u (by decide) h2.2.2 h0
  generalize rd b n sN mx vN g 3 i o X u = R at hE hok
  cases R with
  | error e => exact fun M' T' F' => hE M' T' (fr.tr F')
  | ok r =>
    intro M5 π r' X' hπ R5 ej hst F5
    obtain ⟨a1, a2, a3, -, a5⟩ := hok
    have a5 := (a5 (by decide)).2
    have s8 := hst.2.2.2 rfl
    refine B_noOp hB R5 (by rintro (z | z | z | z | z) <;> first | exact s8.1 z | exact s8.2 z | exact hst.1 z | exact hst.2.1 z | exact hst.2.2.1 z) (fun _ => ?_) (fun z => absurd rfl z)
    have FF := R5.1.1
    have h6 : mI M5 29 6 = 0 := R5.2.2.2.1.1
    have h32 : mI M5 29 32 = Int32.ofNat 0 := R5.2.2.2.2.2.1
    refine VX11_readSum_19 ?_
    unfold DX11_readSum_19 DX11_readSum_264 DX11_readSum_292
    refine ⟨fun _ => ⟨ok29 FF, fun z => absurd h6 z, fun _ => ⟨fun _ => ⟨ok29 FF, fun _ => ?_, fun z => absurd (by rw [h6]; decide) z⟩, fun z => absurd (by rw [h32]; decide) z⟩⟩, fun z => absurd rfl z⟩
    refine B_join (h := h + 1) (L := 8) (Or.inr rfl) (σb := []) trivial hπ (fun x hx => absurd hx List.not_mem_nil) R5 (fun M6 R6 F6 _ => ⟨rfl, 53, rf29_30 R6.1.1, ok53 R6.1.1, by rw [ln53 R6.1.1]; exact vp_of (n := 0) (by decide) (by decide), ?_⟩)
    rw [ej] at R6
    dsimp only at R6
    have tp := R6.2.2.2.2.2.2.2.1.top
    have e0 : (0 : Int32).toNatClampNeg = 0 := by decide
    have tp : mAI M6 53 0 = Int32.ofNat (810 * m + (r.2.1.length - 1)) := tp
    rw [e0, tp]
    exact hE M6 R6.br ((fr.tr F5).tr F6)
end
