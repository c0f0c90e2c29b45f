/-! the reference: rows of parts -/
def nsF (M : Mem) (q : Nat) : Mem := wAI (wAI (wAI (wI M 29 53 (Int32.ofNat (q + 1))) 73 q (-1)) 74 q (-1)) 75 q (-1)
theorem R_newSeq {h q : Nat} {M : Mem} {Q : Option Value → Mem → Prop} (F : Fix M) (hq : mI M 29 53 = Int32.ofNat q) (hl : q < 100) (H : ∀ M', M' = nsF M q → Fix M' → Q (some (.int (Int32.ofNat q))) M') : E (h + 1) mdX11_newSeq [.ref 29] M Q := by
  refine KX11_newSeq ?_
  unfold DX11_newSeq_0
  rw [hq, succ32, lt32 (by omega)]
  have hv : ∀ {M : Mem} {c : Nat}, mL M c = 100 → vp_in (Int32.ofNat q) (mL M c) := fun e => by rw [e]; exact vp_of hl (by decide)
  refine ⟨ok29 F, fun A a => ?_⟩
  have FA : Fix A := by rw [a]; exact F.i
  refine ⟨73, rf29_54 FA, ok73 FA, hv (ln73 FA), fun B b => ?_⟩
  have FB : Fix B := by rw [b]; exact FA.ai
  refine ⟨74, rf29_55 FB, ok74 FB, hv (ln74 FB), fun C c => ?_⟩
  have FC : Fix C := by rw [c]; exact FB.ai
  refine ⟨75, rf29_56 FC, ok75 FC, hv (ln75 FC), fun D d => ?_⟩
  exact H D (by rw [d, c, b, a]; rfl) (by rw [d]; exact FC.ai)
