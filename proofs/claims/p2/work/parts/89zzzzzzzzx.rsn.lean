/-! the reference's beat: what is set behind it -/
section
variable {R : RMo} {sl : List Nat} {M : Mem} {h : Nat} {Q : Option Value → Mem → Prop}
theorem R_setNow (hS : RmS R sl M) (F : Fix M) (em : mI M 29 84 = Int32.ofNat (moM R)) (K : ∀ r : Int32, Q (some (.int r)) M) : E (h + 1) mdX11_setNow [.ref 29] M Q := by
  have m4 := hS.1.1
  have e79 := hS.2.2.2.2.2.1
  have s7 : (moS R).1 ≤ 700 := hS.1.2.1.1.2
  have e700 : 700 * Int32.ofNat (moM R) = Int32.ofNat (700 * moM R) := by rw [Int32.ofNat_mul]; rfl
  have e7s : Int32.ofNat (700 * moM R) + Int32.ofNat (moS R).1 = Int32.ofNat (700 * moM R + (moS R).1) := (Int32.ofNat_add _ _).symm
  have main : ∀ d y (w : Int32), y + d = 700 * moM R + (moS R).1 → 700 * moM R ≤ y → T (h + 1) mdX11_setNow 11 [(0, .ref 29), (1, .int w), (2, .int (Int32.ofNat y))] [] M Q := by
    intro d
    induction d with
    | zero =>
      intro y w hy1 hy2
      refine VX11_setNow_11 ?_
      unfold DX11_setNow_11
      rw [em, lt32 (show moM R < 2147483648 by omega)]
      refine ⟨ok29 F, 79, rf29_61 F, ok79 F, by rw [ln79 F]; exact vp_of (by omega) (by decide), fun _ => K w, fun z => absurd ?_ z⟩
      rw [e79, e700, e7s, show y = 700 * moM R + (moS R).1 by omega]
      exact Int32.le_rfl
    | succ d ih =>
      intro y w hy1 hy2
      have v28 : ∀ {k : Nat}, k = 2800 → vp_in (Int32.ofNat y) k := fun e => by rw [e]; exact vp_of (by omega) (by decide)
      have v7 : ∀ {k : Nat}, k = 700 → vp_in (Int32.ofNat (y - 700 * moM R)) k := fun e => by rw [e]; exact vp_of (by omega) (by decide)
      have f118 : ∀ w2 : Int32, DX11_setNow_118 h 29 w2 (Int32.ofNat y) M Q := fun w2 => by
        unfold DX11_setNow_118
        rw [succ32]
        exact ih (y + 1) w2 (by omega) (by omega)
      have f109 : ∀ w2 : Int32, DX11_setNow_109 h 29 w2 (Int32.ofNat y) M Q := fun w2 => by
        unfold DX11_setNow_109
        exact ⟨ok29 F, 87, rf29_69 F, ok87 F, v28 (ln87 F), f118 _⟩
      have f73 : ∀ b : Int32, DX11_setNow_73 h 29 w (Int32.ofNat y) (Int32.ofNat (y - 700 * moM R)) b M Q := fun b => by
        unfold DX11_setNow_73
        exact ⟨ok29 F, 80, rf29_62 F, ok80 F, v28 (ln80 F), fun _ => f118 _, fun _ => ⟨98, rf29_80 F, ok98 F, v7 (ln98 F), fun _ => f118 _, fun _ => ⟨95, rf29_77 F, ok95 F, v7 (ln95 F), fun _ => f109 _, fun _ => ⟨fun _ => f118 _, fun _ => f109 _⟩⟩⟩⟩
      refine VX11_setNow_11 ?_
      unfold DX11_setNow_11 DX11_setNow_72
      rw [em, lt32 (show moM R < 2147483648 by omega), ix700 hy2 (by omega)]
      refine ⟨ok29 F, 79, rf29_61 F, ok79 F, by rw [ln79 F]; exact vp_of (by omega) (by decide), fun z => ?_, fun _ => ⟨97, rf29_79 F, ok97 F, v7 (ln97 F), fun _ => f73 _, fun _ => ⟨87, rf29_69 F, ok87 F, v28 (ln87 F), fun _ => f73 _, fun _ => f73 _⟩⟩⟩
      rw [e79, e700, e7s] at z
      have := (le32 (by omega) (by omega)).mp z
      omega
  refine KX11_setNow ?_
  unfold DX11_setNow_0
  rw [em, e700]
  exact ⟨ok29 F, main (moS R).1 (700 * moM R) 0 rfl (Nat.le_refl _)⟩
end
