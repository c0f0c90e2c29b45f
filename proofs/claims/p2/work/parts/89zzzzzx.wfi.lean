/-! the weaver's finish: signals are closed -/
/-- the module's signals, as the weaver finds them -/
def FnB (n0 S : Nat) (ro : List Int32) (M0 : Mem) : Prop := ok M0 n0 3 ∧ (mI M0 n0 9 = Int32.ofNat S ∧ S ≤ 16) ∧ (mR M0 n0 1 = some (n0 + 2) ∧ ok M0 (n0 + 2) 21 ∧ mL M0 (n0 + 2) = 16 ∧ ∀ j, j < S → mAI M0 (n0 + 2) j = ro.getD j 0) ∧ (mR M0 (n0 + 8) 13 = some (n0 + 20) ∧ ok M0 (n0 + 20) 21 ∧ mL M0 (n0 + 20) = 16 ∧ ∀ j, j < S → mAI M0 (n0 + 20) j = Int32.ofNat (2 * (2 + j)))
/-- signals below s are closed -/
def FiQ (ro : List Int32) (em : Nat → Int32) (s : Nat) (Ψ Ψ' : Wg) : Prop := Ψ'.2 = Ψ.2 ∧ Ψ'.1.length = Ψ.1.length ∧ (∀ n, n < Ψ.1.length → (∀ t, t < s → ro.getD t 0 ≠ 30 → n ≠ 2 + t) → Ψ'.1.getD n (0, 0) = Ψ.1.getD n (0, 0)) ∧ ∀ t, t < s → ro.getD t 0 ≠ 30 → ∃ l, em t = Int32.ofNat l ∧ l < 2 * Ψ.1.length ∧ Ψ'.1.getD (2 + t) (0, 0) = (l, l)
section
variable {n0 l0 r0 N0 S x : Nat} {ro : List Int32} {Θ : TrT} {M0 M : Mem} {Ψ : Wg} {h : Nat} {Q : Option Value → Mem → Prop} {P : Nat → Nat → Int32} {zp : Int32}
theorem W_fin1 (hB : WvB n0 l0 r0 M0) (hW : WvP n0 l0 r0 N0 Θ M0 Ψ M) (hP : RwP n0 P zp M) (hlim : Ψ.1.length < 99000) (hF : FnB n0 S ro M0) (hro : ∀ t, t < S → 2 + t < Ψ.1.length ∧ (Ψ.2.1.getD (2 + t) (0, 0)).1 ≠ 0 ∧ (Ψ.2.1.getD (2 + t) (0, 0)).1 ≠ 6) (hem : ∀ s, s < 16 → okI Ψ (P (n0 + 21) s)) (hx : x < 640) (e16 : mI M0 n0 16 = Int32.ofNat x) (K : ∀ M' Ψ', WvP n0 l0 r0 N0 Θ M0 Ψ' M' → RwP n0 P zp M' → mI M' (n0 + 8) 16 = P 28 (x * 20) → FiQ ro (P (n0 + 21)) S Ψ Ψ' → T (h + 2) mdX9_finish 73 [(0, .ref 21), (1, .ref n0), (2, .int 0)] [] M' Q) : E (h + 2) mdX9_finish [.ref 21, .ref n0] M Q := by
  obtain ⟨o3, ⟨f9, S16⟩, ⟨f1, o2, l2, r2⟩, ⟨f13, o20, l20, r20⟩⟩ := hF
  obtain ⟨⟨n1, n2⟩, n3, ⟨-, -, -, -, -, f14⟩, -, ⟨n9, n10⟩, -⟩ := id hB
  have w28 : wvC n0 28 := Or.inl (by omega)
  have w21 : wvC n0 (n0 + 21) := Or.inr (Or.inr rfl)
  -- rows of the module that the weaver leaves alone
  have keep : ∀ {Ψi : Wg} {Mi : Mem}, WvP n0 l0 r0 N0 Θ M0 Ψi Mi → ∀ c, c = n0 ∨ c = n0 + 2 ∨ c = n0 + 20 → sameRow M0 Mi c ∧ mE M0 Mi := by
    intro Ψi Mi W c hc
    obtain ⟨lc, rc, b1, b2, hl, hH⟩ := W
    have f := hH.2.2.2.2.2.1.1
    refine ⟨f.2 c (by omega) (fun z => ?_), f.1⟩
    unfold wvS at z
    unfold LrB at n3
    omega
  obtain ⟨F, hT, h8, o8, hRo, -⟩ := hW.sees hB
  have k0 := keep hW n0 (Or.inl rfl)
  have e16' : mI M n0 16 = Int32.ofNat x := by rw [k0.1.1]; exact e16
  have e20 : Int32.ofNat x * 20 = Int32.ofNat (x * 20) := by rw [Int32.ofNat_mul]; rfl
  have g28 : mAI M 28 (x * 20) = P 28 (x * 20) := hP.1 28 _ w28
  refine KX9_finish (h := h + 1) ?_
  unfold DX9_finish_0
  rw [e16', e20, lt32 (show x * 20 < 2147483648 by omega)]
  refine ⟨ok21 F, n0 + 8, h8, 28, rf21_7 F, ok_E o3 k0.2, ok28 F, by rw [ln28 F]; exact vp_of (by omega) (by decide), o8, fun M7 e7 => ?_⟩
  rw [g28] at e7
  have W7 := hW.wi hB (Or.inr rfl) e7
  have P7 : RwP n0 P zp M7 := ⟨fun c j hc => by rw [e7]; exact hP.1 c j hc, by rw [e7, mI_wI, if_neg (by omega)]; exact hP.2⟩
  have i16 : mI M7 (n0 + 8) 16 = P 28 (x * 20) := by rw [e7]; exact mI_own _ _ _ _
  have main : ∀ (d s : Nat) (M1 : Mem) (Ψ1 : Wg), s + d = S → WvP n0 l0 r0 N0 Θ M0 Ψ1 M1 → RwP n0 P zp M1 → mI M1 (n0 + 8) 16 = P 28 (x * 20) → FiQ ro (P (n0 + 21)) s Ψ Ψ1 → T (h + 2) mdX9_finish 21 [(0, .ref 21), (1, .ref n0), (2, .int (Int32.ofNat s))] [] M1 Q := by
    intro d
    induction d with
    | zero =>
      intro s M1 Ψ1 hs W1 R1 q1 q2
      have e : s = S := by omega
      subst e
      have kn := keep W1 n0 (Or.inl rfl)
      refine VX9_finish_21 (h := h + 1) ?_
      unfold DX9_finish_21
      rw [show mI M1 n0 9 = Int32.ofNat s by rw [kn.1.1]; exact f9]
      exact ⟨ok_E o3 kn.2, fun _ => K M1 Ψ1 W1 R1 q1 q2, fun z => absurd Int32.le_rfl z⟩
    | succ d ih =>
      intro s M1 Ψ1 hs W1 R1 q1 q2
      obtain ⟨F1, -, h81, o81, hRo1, -, hRf1, hE1⟩ := W1.sees hB
      have kn := keep W1 n0 (Or.inl rfl)
      have kr := keep W1 (n0 + 2) (Or.inr (Or.inl rfl))
      have ks := keep W1 (n0 + 20) (Or.inr (Or.inr rfl))
      have ls : (Int32.ofNat s).toNatClampNeg = s := lt32 (by omega)
      have vs : ∀ {k : Nat}, k = 16 → vp_in (Int32.ofNat s) k := fun e => by rw [e]; exact vp_of (by omega) (by decide)
      have nle : ¬ Int32.ofNat S ≤ Int32.ofNat s := fun z => by
        have := (le32 (by omega) (by omega)).mp z
        omega
      have gr : mAI M1 (n0 + 2) s = ro.getD s 0 := by rw [kr.1.2.2.2.1]; exact r2 s (by omega)
      have gs : mAI M1 (n0 + 20) s = Int32.ofNat (2 * (2 + s)) := by rw [ks.1.2.2.2.1]; exact r20 s (by omega)
      have ge : mAI M1 (n0 + 21) s = P (n0 + 21) s := R1.1 _ s w21
      have ff : ∀ {f v : Nat}, f ≠ 0 → f ≠ 1 → mR M0 (n0 + 8) f = some v → mR M1 (n0 + 8) f = some v := fun z1 z2 e => by rw [hRf1 _ z1 z2]; exact e
      have nx : ∀ M2 Ψ2, WvP n0 l0 r0 N0 Θ M0 Ψ2 M2 → RwP n0 P zp M2 → mI M2 (n0 + 8) 16 = P 28 (x * 20) → FiQ ro (P (n0 + 21)) (s + 1) Ψ Ψ2 → DX9_finish_65 (h + 1) 21 n0 (Int32.ofNat s) M2 Q := by
        intro M2 Ψ2 W2 R2 p1 p2
        unfold DX9_finish_65
        rw [succ32]
        exact ih (s + 1) M2 Ψ2 (by omega) W2 R2 p1 p2
      refine VX9_finish_21 (h := h + 1) ?_
      unfold DX9_finish_21
      rw [show mI M1 n0 9 = Int32.ofNat S by rw [kn.1.1]; exact f9, ls]
      refine ⟨ok_E o3 kn.2, fun z => absurd z nle, fun _ => ⟨n0 + 2, by rw [kn.1.2.2.1]; exact f1, ok_E o2 hE1, vs ((hE1.2.2 _ o2.1).2.trans l2), ?_⟩⟩
      rw [gr]
      refine ⟨fun e => nx M1 Ψ1 W1 R1 q1 ⟨q2.1, q2.2.1, fun n hn hh => q2.2.2.1 n hn (fun t ht => hh t (by omega)), fun t ht e2 => ?_⟩, fun e => ?_⟩
      · by_cases y : t = s
        · rw [y] at e2; exact absurd e e2
        · exact q2.2.2.2 t (by omega) e2
      · refine ⟨ok21 F1, n0 + 8, h81, n0 + 8, h81, o81, n0 + 20, ff (by decide) (by decide) f13, ok_E o20 hE1, vs ((hE1.2.2 _ o20.1).2.trans l20), n0 + 8, h81, o81, n0 + 21, ff (by decide) (by decide) f14, ok_E n9 hE1, vs ((hE1.2.2 _ n9.1).2.trans n10), o81, ?_⟩
        rw [gs, ge]
        obtain ⟨l, el, hl⟩ := hem s (by omega)
        rw [el]
        obtain ⟨y1, y2⟩ := hro s (by omega)
        have len1 := q2.2.1
        have rol : (Ψ1.2.1.getD (2 + s) (0, 0)).1 ≠ 0 ∧ (Ψ1.2.1.getD (2 + s) (0, 0)).1 ≠ 6 := by rw [q2.1]; exact y2
        refine W_close (h := h) hB W1 (by omega) (by omega) rol (by omega) (fun M2 Ψ2 W2 O2 G2 L2 d2 e2 _ => ⟨rfl, nx M2 Ψ2 W2 (R1.ob O2) ((O2.2.2 16 (Or.inr rfl)).trans q1) ⟨e2.trans q2.1, L2.trans len1, fun n hn hh => ?_, fun t ht et => ?_⟩⟩)
        · rw [G2.2.1 n (by omega) (fun z => hh s (by omega) e z)]
          exact q2.2.2.1 n hn (fun t ht => hh t (by omega))
        · by_cases z : t = s
          · rw [z]
            exact ⟨l, el, hl, d2⟩
          · obtain ⟨l', p1, p2, p3⟩ := q2.2.2.2 t (by omega) et
            have := (hro t (by omega)).1
            exact ⟨l', p1, p2, by rw [G2.2.1 (2 + t) (by omega) (fun y => z (by omega))]; exact p3⟩
  exact main S 0 M7 Ψ (by omega) W7 P7 i16 ⟨rfl, rfl, fun _ _ _ => rfl, fun t ht => absurd ht (Nat.not_lt_zero _)⟩
end
