/-! a woven module: what its nets are -/
section
variable {G : Nat → List Nat}
theorem noL_fu : ∀ (g x : Nat), FtN G g x → ∀ k, noL G (g + k) x = noL G g x
  | 0, _, h, _ => False.elim h
  | g + 1, x, h, k => by
    rw [show g + 1 + k = (g + k) + 1 by omega]
    show x :: (G x).flatMap (noL G (g + k)) = x :: (G x).flatMap (noL G g)
    have e : (G x).flatMap (noL G (g + k)) = (G x).flatMap (noL G g) := by
      have : ∀ l : List Nat, (∀ c ∈ l, FtN G g c) → l.flatMap (noL G (g + k)) = l.flatMap (noL G g) := by
        intro l
        induction l with
        | nil => intro _; rfl
        | cons a t ih =>
          intro hl
          rw [List.flatMap_cons, List.flatMap_cons, noL_fu g a (hl a List.mem_cons_self) k, ih (fun c hc => hl c (List.mem_cons_of_mem _ hc))]
      exact this (G x) h
    rw [e]
theorem noL_2 {g g' x : Nat} (h : FtN G g x) (h' : FtN G g' x) : noL G g x = noL G g' x := by
  by_cases z : g ≤ g'
  · have := noL_fu g x h (g' - g)
    rw [show g + (g' - g) = g' by omega] at this
    exact this.symm
  · have := noL_fu g' x h' (g - g')
    rw [show g' + (g - g') = g by omega] at this
    exact this
theorem noL_ch2 {Θ : TrT} (hb : ∀ y, 1 ≤ y → y < Θ.1 → ∀ c ∈ G y, 1 ≤ c ∧ c < Θ.1) : ∀ (g x : Nat), 1 ≤ x ∧ x < Θ.1 → noL (chR Θ G) g x = noL G g x
  | 0, _, _ => rfl
  | g + 1, x, hx => by
    show x :: (chR Θ G x).flatMap (noL (chR Θ G) g) = x :: (G x).flatMap (noL G g)
    rw [chR_in hx]
    have : ∀ l : List Nat, (∀ c ∈ l, 1 ≤ c ∧ c < Θ.1) → l.flatMap (noL (chR Θ G) g) = l.flatMap (noL G g) := by
      intro l
      induction l with
      | nil => intro _; rfl
      | cons a t ih =>
        intro hl
        rw [List.flatMap_cons, List.flatMap_cons, noL_ch2 hb g a (hl a List.mem_cons_self), ih (fun c hc => hl c (List.mem_cons_of_mem _ hc))]
    rw [this (G x) (fun c hc => hb x hx.1 hx.2 c hc)]
end
def roN (Ψ : Wg) (n : Nat) : Nat × Nat := Ψ.2.1.getD n (0, 0)
/-- told nets, by their roles -/
def tbR (R : RMo) (Ψ : Wg) (n : Nat) : Bool := decide (n < 2) || decide ((roN Ψ n).1 = 4) || decide ((roN Ψ n).1 = 5) || decide ((roN Ψ n).1 = 6) || (decide ((roN Ψ n).1 = 3) && decide (moT R (roN Ψ n).2 = 0))
def tvR (I : RIn) (ift : Nat → Nat) (Ψ : Wg) (n : Nat) : Nat := if n = 0 then 0 else if n = 1 then (if iFi I = 1 then 1 else 0) else if (roN Ψ n).1 = 3 then iGv I (roN Ψ n).2 else if (roN Ψ n).1 = 4 then iBf I (roN Ψ n).2 else if (roN Ψ n).1 = 5 then ift (roN Ψ n).2 else HVm I (Ψ.2.2.getD (roN Ψ n).2 0)
section
variable {R : RMo} {I : RIn} {ift : Nat → Nat} {Ψ : Wg} {n s : Nat}
theorem tb_lt (h : n < 2) : tbR R Ψ n = true := by unfold tbR; rw [decide_eq_true h]; rfl
theorem tb_r {k x : Nat} (h : roN Ψ n = (k, x)) (hn : 2 ≤ n) : tbR R Ψ n = (decide (k = 4) || decide (k = 5) || decide (k = 6) || (decide (k = 3) && decide (moT R x = 0))) := by
  unfold tbR
  rw [h, decide_eq_false (show ¬ n < 2 by omega), Bool.false_or]
theorem tv_r {k x : Nat} (h : roN Ψ n = (k, x)) (hn : 2 ≤ n) : tvR I ift Ψ n = if k = 3 then iGv I x else if k = 4 then iBf I x else if k = 5 then ift x else HVm I (Ψ.2.2.getD x 0) := by
  unfold tvR
  rw [if_neg (show ¬ n = 0 by omega), if_neg (show ¬ n = 1 by omega), h]
theorem HVm_le {v : Int32} : HVm I v < 2 := by
  unfold HVm hvM
  split <;> decide
end
/-- a module that was read and woven: state, ghosts, nets before and behind -/
def MdW (τ : Td) (m : Nat) (σ : PS) (root : Nat) (γ : Gh) (g0 n0 gw : Nat) (Z0 P : Nat → Nat → Int32) (zp : Int32) (Ψ1 Ψ2 : Wg) : Prop := RdE τ m σ root γ g0 ∧ RdX τ σ root γ ∧ FtN (chR (trS σ) γ.1) gw root ∧ (∀ s, Z0 (n0 + 21) s = 0) ∧ WkQ (trS σ) (chR (trS σ) γ.1) n0 gw root (σ.2.1.2.2.1, m6R γ.2.2, []) (up4 Z0 root 2 3 0 0) 0 Ψ1 P zp ∧ FiQ τ.2.1 (P (n0 + 21)) τ.1.length Ψ1 Ψ2 ∧ RoW Ψ1 ∧ RoW Ψ2 ∧ Ψ2.1.length < 100000 ∧ (trS σ).2.2 5 root ≠ 8 ∧ (132 ≤ n0)
section
variable {τ : Td} {m : Nat} {σ : PS} {root : Nat} {γ : Gh} {g0 n0 gw : Nat} {Z0 P : Nat → Nat → Int32} {zp : Int32} {Ψ1 Ψ2 : Wg} {w : Nat → Nat} {HV : Int32 → Nat}
/-- what goes with the nets goes with them before signals were closed -/
theorem MdW.g1 (h : MdW τ m σ root γ g0 n0 gw Z0 P zp Ψ1 Ψ2) (k : gW Ψ2 w HV) : gW Ψ1 w HV := by
  obtain ⟨hE, hX, -, -, hk, ⟨q1, q2, q3, q4⟩, r1, r2, -⟩ := h
  obtain ⟨⟨a1, a2, a3⟩, a4, a5⟩ := k
  have e1 : Ψ2.2.1 = Ψ1.2.1 := by rw [q1]
  have e2 : Ψ2.2.2 = Ψ1.2.2 := by rw [q1]
  refine ⟨⟨a1, a2, fun n hn r0 => ?_⟩, a4, fun n i hn ri => ?_⟩
  · have q := a3 n (by omega) (by rw [e1]; exact r0)
    rw [q3 n hn (fun t ht h0 e => ?_)] at q
    · exact q
    · -- a signal's net has a role
      have sg := hE.1.2.1.1.2.2.1 t ht
      obtain ⟨-, s2, s3⟩ := sg
      unfold sgT at s2 s3
      rw [if_pos ht, show (4 + 2 * t) / 2 = 2 + t by omega] at s2 s3
      have gr := hk.1.1.2.2.1 (2 + t) (by show 2 + t < σ.2.1.2.2.1.length; have := hE.1.2.1.1.1.1; omega)
      have gr : Ψ1.2.1.getD (2 + t) (0, 0) = (m6R γ.2.2).getD (2 + t) (0, 0) := gr
      rw [m6_gd s2, s3, if_neg (show ¬ (3 : Nat) = 6 by decide)] at gr
      rw [e, gr] at r0
      exact absurd (show (3 : Nat) = 0 from r0) (by decide)
  · rw [← e2]
    exact a5 n i (by rw [e1]; exact hn) (by rw [e1]; exact ri)
/-- roles of the nets of the reading -/
theorem MdW.ro (h : MdW τ m σ root γ g0 n0 gw Z0 P zp Ψ1 Ψ2) {n : Nat} (hn : n < σ.2.1.2.2.1.length) : roN Ψ2 n = (m6R γ.2.2).getD n (0, 0) := by
  obtain ⟨hE, hX, -, -, hk, ⟨q1, -⟩, -⟩ := h
  unfold roN
  rw [q1]
  exact hk.1.1.2.2.1 n hn
theorem MdW.ln (h : MdW τ m σ root γ g0 n0 gw Z0 P zp Ψ1 Ψ2) : σ.2.1.2.2.1.length ≤ Ψ2.1.length ∧ Ψ2.1.length = Ψ1.1.length ∧ γ.2.2.length = σ.2.1.2.2.1.length ∧ 2 + τ.1.length ≤ σ.2.1.2.2.1.length := by
  obtain ⟨hE, hX, -, -, hk, ⟨-, q2, -⟩, -⟩ := h
  refine ⟨?_, q2, hE.1.2.1.1.1.1, hX.2.2.2.2.1.2.2.1⟩
  rw [q2]
  exact hk.1.1.1
/-- nets of the reading that hold themselves -/
theorem MdW.old (h : MdW τ m σ root γ g0 n0 gw Z0 P zp Ψ1 Ψ2) {n : Nat} (h2 : 2 ≤ n) (hn : n < σ.2.1.2.2.1.length) : (roN Ψ2 n).1 = 0 ∨ (∃ s, s < τ.1.length ∧ n = 2 + s ∧ roN Ψ2 n = (3, s)) ∨ (∃ s, s < τ.1.length ∧ σ.2.1.2.2.2.1 s = 2 * n ∧ roN Ψ2 n = (4, s)) ∨ ∃ f, f < (ifS σ).length ∧ (ifS σ).getD f 0 = Int32.ofNat (2 * n) ∧ roN Ψ2 n = (5, f) := by
  have er := h.ro hn
  obtain ⟨l1, l2, l3, l4⟩ := h.ln
  obtain ⟨hE, hX, -, -, hk, -, -, -, big, -⟩ := id h
  have ni := hE.1.2.1.1
  have rk := ni.1
  have gd := fun {k : Nat} (hk : k < σ.2.1.2.2.1.length) => m6_gd (Ro := γ.2.2) (k := k) (by omega)
  rcases hX.2.2.2.2.1.1 n hn with q | q | ⟨s, s1, s2⟩ | ⟨f, f1, f2⟩
  · refine Or.inl ?_
    have r0 : (γ.2.2.getD n (0, 0)).1 = 0 := by
      by_cases z : (γ.2.2.getD n (0, 0)).1 = 0
      · exact z
      · have := (rk.2 n hn).2 z
        rw [this] at q
        exact absurd rfl q
    rw [er, gd hn, if_neg (by rw [r0]; decide)]
    exact r0
  · refine Or.inr (Or.inl ⟨n - 2, by omega, by omega, ?_⟩)
    obtain ⟨-, s2, s3⟩ := ni.2.2.1 (n - 2) (by omega)
    unfold sgT at s2 s3
    rw [if_pos (by omega), show (4 + 2 * (n - 2)) / 2 = n by omega] at s2 s3
    rw [er, gd hn, s3, if_neg (show ¬ (3 : Nat) = 6 by decide)]
  · refine Or.inr (Or.inr (Or.inl ⟨s, s1, s2, ?_⟩))
    obtain ⟨-, r2, r3⟩ := ni.2.2.2 s (by omega)
    rw [s2, show 2 * n / 2 = n by omega] at r2 r3
    rw [er, gd hn, r3, if_neg (show ¬ (4 : Nat) = 6 by decide)]
  · refine Or.inr (Or.inr (Or.inr ⟨f, f1, f2, ?_⟩))
    obtain ⟨l, e1, e2, e3, e4⟩ := hE.1.2.2 f f1
    have el : l = 2 * n := inj32 (by omega) (by omega) (e1.symm.trans f2)
    rw [el, show 2 * n / 2 = n by omega] at e4
    rw [er, gd hn, e4, if_neg (show ¬ (5 : Nat) = 6 by decide)]
end
