/-! a module on both sides: solutions meet -/
section
variable {τ : Td} {m : Nat} {σ : PS} {root : Nat} {γ : Gh} {g0 n0 gw : Nat} {Z0 P : Nat → Nat → Int32} {zp : Int32} {Ψ1 Ψ2 : Wg} {I : RIn} {ift : Nat → Nat} {y g km : Nat} {pn mk nu co : Nat → Int32} {S : RBs} {G : Nat → List Nat} {sl : List Nat} {M' : Mem} {ρ : Plc → Nat} {v : Nat → Nat}
theorem s30 {a : Int32} : a - 30 = 0 ↔ a = 30 := by
  refine ⟨fun e => ?_, fun e => by rw [e]; rfl⟩
  have := Int32.sub_add_cancel a 30
  rw [e] at this
  rw [← this]
  rfl
theorem mkR_ok : MdR τ m σ (mkR τ m σ S G mk nu km) := ⟨rfl, rfl, rfl, rfl, fun s _ => s30⟩
/-- what an if's number has to do with its part -/
def IfH (τ : Td) (m : Nat) (σ : PS) (γ : Gh) (R : RMo) (I : RIn) (ift : Nat → Nat) : Prop := ∀ d j f, inR R d → (moS R).2 80 d = 5 → j < 40 → (moS R).2 81 d = Int32.ofNat (40 * m + j) → woP (woS τ m σ γ) j 4 = Int32.ofNat f → f < (ifS σ).length → iTr I (40 * m + j) = ift f
/-- both sides of a solved beat -/
def MeT (τ : Td) (m : Nat) (σ : PS) (root : Nat) (γ : Gh) (P : Nat → Nat → Int32) (Ψ : Wg) (R : RMo) (y : Nat) (ρ : Plc → Nat) (v : Nat → Nat) : Prop := (∀ d c, DsR (woS τ m σ γ) R y root d c → MtE R ρ (cvW P v) (ckW P v) d c) ∧ (∀ s, s < τ.1.length → ρ (5, s, 0) = v (2 + s)) ∧ ((∀ n, n < Ψ.1.length → v n ≠ 2) ↔ KnR R ρ)
theorem B_meet (h : MdW τ m σ root γ g0 n0 gw Z0 P zp Ψ1 Ψ2) (hb : BuW τ m σ root γ pn S G mk nu co sl km g y M') (hB : InB (mkR τ m σ S G mk nu km) I ift) (h16 : τ.1.length ≤ 16) (hy41 : σ.2.2.2.length ≤ 410) (hIf : IfH τ m σ γ (mkR τ m σ S G mk nu km) I ift) (h2 : ∀ j, ρ j ≤ 2) (hfx : ∀ i, FrR (mkR τ m σ S G mk nu km) I ρ i = ρ i) (hJ : JF (FrR (mkR τ m σ S G mk nu km) I) ρ) (vx : ∀ n, FcN Ψ2.1 (tbR (mkR τ m σ S G mk nu km) Ψ2) (tvR I ift Ψ2) v n = v n) (vJ : JF (FcN Ψ2.1 (tbR (mkR τ m σ S G mk nu km) Ψ2) (tvR I ift Ψ2)) v) : MeT τ m σ root γ P Ψ2 (mkR τ m σ S G mk nu km) y ρ v := by
  have hT := hb.tw
  have hE := h.1
  have hX := h.2.1
  have hU := hb.tu hE hX
  have hC := h.cl hT mkR_ok hB h16 hy41 hIf
  have hK := hb.pr
  have h3 : 3 ≤ moC (mkR τ m σ S G mk nu km) ∧ moC (mkR τ m σ S G mk nu km) ≤ 20 := hb.2.2.2.2.1.2.2
  obtain ⟨q1, q2⟩ := J_eq hT hU hC hK h3 h2 hfx hJ vx vJ
  exact ⟨q1, q2, J_st hT hC h3 h2 hfx vx q1 q2⟩
/-- parts: node of the reference and node of the class -/
theorem B_part (hb : BuW τ m σ root γ pn S G mk nu co sl km g y M') (hM : MeT τ m σ root γ P Ψ2 (mkR τ m σ S G mk nu km) y ρ v) {i : Nat} (hi : i < npS σ) : ∃ yi xi, (pn (40 * m + i) = Int32.ofNat yi ∧ σ.2.1.1 i 1 = Int32.ofNat xi) ∧ inR (mkR τ m σ S G mk nu km) yi ∧ ρ (0, yi, 0) = lV v (P 22 xi) ∧ (∀ n, n < 3 → ρ (4, yi, n) = lV v (P 28 (xi * 20 + n))) ∧ mk yi = (trS σ).2.2 12 xi := by
  have h3 : 3 ≤ km ∧ km ≤ 20 := hb.2.2.2.2.1.2.2
  have hK := hb.pr
  obtain ⟨e, he, yi, xi, ⟨p1, p2⟩, p3, p4⟩ := hb.2.2.2.2.2.1 i (Nat.zero_le _) hi
  have ee : e = (y, root) := List.mem_singleton.mp he
  rw [ee] at p4
  have dd : DsR (woS τ m σ γ) (mkR τ m σ S G mk nu km) y root yi xi := p4
  obtain ⟨m1, m2⟩ := hM.1 yi xi dd
  exact ⟨yi, xi, ⟨p1, p2⟩, p3, m1 0 (by decide), fun n hn => m2 n (by show n < km; omega), (hK yi xi dd).1.symm⟩
theorem B_root (hb : BuW τ m σ root γ pn S G mk nu co sl km g y M') (hM : MeT τ m σ root γ P Ψ2 (mkR τ m σ S G mk nu km) y ρ v) : ρ (4, y, 0) = lV v (P 28 (root * 20)) := by
  have h3 : 3 ≤ km ∧ km ≤ 20 := hb.2.2.2.2.1.2.2
  exact (hM.1 y root DsR.rf).2 0 (by show 0 < km; omega)
end
