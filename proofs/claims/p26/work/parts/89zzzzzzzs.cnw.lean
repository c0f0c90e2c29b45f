section
/-! a woven module: what its nets are -/
section
variable {G : Nat → List Nat}
theorem noL_fu : ∀ (g x : Nat), FtN G g x → ∀ k, noL G (g + k) x = noL G g x
  | 0, _, h, _ => False.elim h
  | g + 1, x, h, k => by
    rw [show g + 1 + k = (g + k) + 1 by omega]
    show x :: (G x).flatMap (noL G (g + k)) = x :: (G x).flatMap (noL G g)
    have e : (G x).flatMap (noL G (g + k)) = (G x).flatMap (noL G g) := by
      have : ∀ l : List Nat, (∀ c ∈ l, FtN G g c) → l.flatMap (noL G (g + k)) = l.flatMap (noL G g) := by
        intro l
        induction l with
        | nil => intro _; rfl
        | cons a t ih =>
          intro hl
          rw [List.flatMap_cons, List.flatMap_cons, noL_fu g a (hl a List.mem_cons_self) k, ih (fun c hc => hl c (List.mem_cons_of_mem _ hc))]
      exact this (G x) h
    rw [e]
theorem noL_2 {g g' x : Nat} (h : FtN G g x) (h' : FtN G g' x) : noL G g x = noL G g' x := by
  by_cases z : g ≤ g'
  · have := noL_fu g x h (g' - g)
    rw [show g + (g' - g) = g' by omega] at this
    exact this.symm
  · have := noL_fu g' x h' (g - g')
    rw [show g' + (g - g') = g by omega] at this
    exact this
theorem noL_ch2 {Θ : TrT} (hb : ∀ y, 1 ≤ y → y < Θ.1 → ∀ c ∈ G y, 1 ≤ c ∧ c < Θ.1) : ∀ (g x : Nat), 1 ≤ x ∧ x < Θ.1 → noL (chR Θ G) g x = noL G g x
  | 0, _, _ => rfl
  | g + 1, x, hx => by
    show x :: (chR Θ G x).flatMap (noL (chR Θ G) g) = x :: (G x).flatMap (noL G g)
    rw [chR_in hx]
    have : ∀ l : List Nat, (∀ c ∈ l, 1 ≤ c ∧ c < Θ.1) → l.flatMap (noL (chR Θ G) g) = l.flatMap (noL G g) := by
      intro l
      induction l with
      | nil => intro _; rfl
      | cons a t ih =>
        intro hl
        rw [List.flatMap_cons, List.flatMap_cons, noL_ch2 hb g a (hl a List.mem_cons_self), ih (fun c hc => hl c (List.mem_cons_of_mem _ hc))]
    rw [this (G x) (fun c hc => hb x hx.1 hx.2 c hc)]
end
def roN (Ψ : Wg) (n : Nat) : Nat × Nat := Ψ.2.1.getD n (0, 0)
/-- told nets, by their roles -/
def tbR (R : RMo) (Ψ : Wg) (n : Nat) : Bool := decide (n < 2) || decide ((roN Ψ n).1 = 4) || decide ((roN Ψ n).1 = 5) || decide ((roN Ψ n).1 = 6) || (decide ((roN Ψ n).1 = 3) && decide (moT R (roN Ψ n).2 = 0))
def tvR (I : RIn) (ift : Nat → Nat) (Ψ : Wg) (n : Nat) : Nat := if n = 0 then 0 else if n = 1 then (if iFi I = 1 then 1 else 0) else if (roN Ψ n).1 = 3 then iGv I (roN Ψ n).2 else if (roN Ψ n).1 = 4 then iBf I (roN Ψ n).2 else if (roN Ψ n).1 = 5 then ift (roN Ψ n).2 else HVm I (Ψ.2.2.getD (roN Ψ n).2 0)
section
variable {R : RMo} {I : RIn} {ift : Nat → Nat} {Ψ : Wg} {n s : Nat}
theorem tb_lt (h : n < 2) : tbR R Ψ n = true := by unfold tbR; rw [decide_eq_true h]; rfl
theorem tb_r {k x : Nat} (h : roN Ψ n = (k, x)) (hn : 2 ≤ n) : tbR R Ψ n = (decide (k = 4) || decide (k = 5) || decide (k = 6) || (decide (k = 3) && decide (moT R x = 0))) := by
  unfold tbR
  rw [h, decide_eq_false (show ¬ n < 2 by omega), Bool.false_or]
theorem tv_r {k x : Nat} (h : roN Ψ n = (k, x)) (hn : 2 ≤ n) : tvR I ift Ψ n = if k = 3 then iGv I x else if k = 4 then iBf I x else if k = 5 then ift x else HVm I (Ψ.2.2.getD x 0) := by
  unfold tvR
  rw [if_neg (show ¬ n = 0 by omega), if_neg (show ¬ n = 1 by omega), h]
theorem HVm_le {v : Int32} : HVm I v < 2 := by
  unfold HVm hvM
  split <;> decide
end
/-- a module that was read and woven: state, ghosts, nets before and behind -/
def MdW (τ : Td) (m : Nat) (σ : PS) (root : Nat) (γ : Gh) (g0 n0 gw : Nat) (Z0 P : Nat → Nat → Int32) (zp : Int32) (Ψ1 Ψ2 : Wg) : Prop := RdE τ m σ root γ g0 ∧ RdX τ σ root γ ∧ FtN (chR (trS σ) γ.1) gw root ∧ (∀ s, Z0 (n0 + 21) s = 0) ∧ WkQ (trS σ) (chR (trS σ) γ.1) n0 gw root (σ.2.1.2.2.1, m6R γ.2.2, []) (up4 Z0 root 2 3 0 0) 0 Ψ1 P zp ∧ FiQ τ.2.1 (P (n0 + 21)) τ.1.length Ψ1 Ψ2 ∧ RoW Ψ1 ∧ RoW Ψ2 ∧ Ψ2.1.length < 100000 ∧ (trS σ).2.2 5 root ≠ 8 ∧ (132 ≤ n0)
section
variable {τ : Td} {m : Nat} {σ : PS} {root : Nat} {γ : Gh} {g0 n0 gw : Nat} {Z0 P : Nat → Nat → Int32} {zp : Int32} {Ψ1 Ψ2 : Wg} {w : Nat → Nat} {HV : Int32 → Nat}
/-- what goes with the nets goes with them before signals were closed -/
theorem MdW.g1 (h : MdW τ m σ root γ g0 n0 gw Z0 P zp Ψ1 Ψ2) (k : gW Ψ2 w HV) : gW Ψ1 w HV := by
  obtain ⟨hE, hX, -, -, hk, ⟨q1, q2, q3, q4⟩, r1, r2, -⟩ := h
  obtain ⟨⟨a1, a2, a3⟩, a4, a5⟩ := k
  have e1 : Ψ2.2.1 = Ψ1.2.1 := by rw [q1]
  have e2 : Ψ2.2.2 = Ψ1.2.2 := by rw [q1]
  refine ⟨⟨a1, a2, fun n hn r0 => ?_⟩, a4, fun n i hn ri => ?_⟩
  · have q := a3 n (by omega) (by rw [e1]; exact r0)
    rw [q3 n hn (fun t ht h0 e => ?_)] at q
    · exact q
    · -- a signal's net has a role
      have sg := hE.1.2.1.1.2.2.1 t ht
      obtain ⟨-, s2, s3⟩ := sg
      unfold sgT at s2 s3
      rw [if_pos ht, show (4 + 2 * t) / 2 = 2 + t by omega] at s2 s3
      have gr := hk.1.1.2.2.1 (2 + t) (by show 2 + t < σ.2.1.2.2.1.length; have := hE.1.2.1.1.1.1; omega)
      have gr : Ψ1.2.1.getD (2 + t) (0, 0) = (m6R γ.2.2).getD (2 + t) (0, 0) := gr
      rw [m6_gd s2, s3, if_neg (show ¬ (3 : Nat) = 6 by decide)] at gr
      rw [e, gr] at r0
      exact absurd (show (3 : Nat) = 0 from r0) (by decide)
  · rw [← e2]
    exact a5 n i (by rw [e1]; exact hn) (by rw [e1]; exact ri)
/-- roles of the nets of the reading -/
theorem MdW.ro (h : MdW τ m σ root γ g0 n0 gw Z0 P zp Ψ1 Ψ2) {n : Nat} (hn : n < σ.2.1.2.2.1.length) : roN Ψ2 n = (m6R γ.2.2).getD n (0, 0) := by
  obtain ⟨hE, hX, -, -, hk, ⟨q1, -⟩, -⟩ := h
  unfold roN
  rw [q1]
  exact hk.1.1.2.2.1 n hn
theorem MdW.ln (h : MdW τ m σ root γ g0 n0 gw Z0 P zp Ψ1 Ψ2) : σ.2.1.2.2.1.length ≤ Ψ2.1.length ∧ Ψ2.1.length = Ψ1.1.length ∧ γ.2.2.length = σ.2.1.2.2.1.length ∧ 2 + τ.1.length ≤ σ.2.1.2.2.1.length := by
  obtain ⟨hE, hX, -, -, hk, ⟨-, q2, -⟩, -⟩ := h
  refine ⟨?_, q2, hE.1.2.1.1.1.1, hX.2.2.2.2.1.2.2.1⟩
  rw [q2]
  exact hk.1.1.1
/-- nets of the reading that hold themselves -/
theorem MdW.old (h : MdW τ m σ root γ g0 n0 gw Z0 P zp Ψ1 Ψ2) {n : Nat} (h2 : 2 ≤ n) (hn : n < σ.2.1.2.2.1.length) : (roN Ψ2 n).1 = 0 ∨ (∃ s, s < τ.1.length ∧ n = 2 + s ∧ roN Ψ2 n = (3, s)) ∨ (∃ s, s < τ.1.length ∧ σ.2.1.2.2.2.1 s = 2 * n ∧ roN Ψ2 n = (4, s)) ∨ ∃ f, f < (ifS σ).length ∧ (ifS σ).getD f 0 = Int32.ofNat (2 * n) ∧ roN Ψ2 n = (5, f) := by
  have er := h.ro hn
  obtain ⟨l1, l2, l3, l4⟩ := h.ln
  obtain ⟨hE, hX, -, -, hk, -, -, -, big, -⟩ := id h
  have ni := hE.1.2.1.1
  have rk := ni.1
  have gd := fun {k : Nat} (hk : k < σ.2.1.2.2.1.length) => m6_gd (Ro := γ.2.2) (k := k) (by omega)
  rcases hX.2.2.2.2.1.1 n hn with q | q | ⟨s, s1, s2⟩ | ⟨f, f1, f2⟩
  · refine Or.inl ?_
    have r0 : (γ.2.2.getD n (0, 0)).1 = 0 := by
      by_cases z : (γ.2.2.getD n (0, 0)).1 = 0
      · exact z
      · have := (rk.2 n hn).2 z
        rw [this] at q
        exact absurd rfl q
    rw [er, gd hn, if_neg (by rw [r0]; decide)]
    exact r0
  · refine Or.inr (Or.inl ⟨n - 2, by omega, by omega, ?_⟩)
    obtain ⟨-, s2, s3⟩ := ni.2.2.1 (n - 2) (by omega)
    unfold sgT at s2 s3
    rw [if_pos (by omega), show (4 + 2 * (n - 2)) / 2 = n by omega] at s2 s3
    rw [er, gd hn, s3, if_neg (show ¬ (3 : Nat) = 6 by decide)]
  · refine Or.inr (Or.inr (Or.inl ⟨s, s1, s2, ?_⟩))
    obtain ⟨-, r2, r3⟩ := ni.2.2.2 s (by omega)
    rw [s2, show 2 * n / 2 = n by omega] at r2 r3
    rw [er, gd hn, r3, if_neg (show ¬ (4 : Nat) = 6 by decide)]
  · refine Or.inr (Or.inr (Or.inr ⟨f, f1, f2, ?_⟩))
    obtain ⟨l, e1, e2, e3, e4⟩ := hE.1.2.2 f f1
    have el : l = 2 * n := inj32 (by omega) (by omega) (e1.symm.trans f2)
    rw [el, show 2 * n / 2 = n by omega] at e4
    rw [er, gd hn, e4, if_neg (show ¬ (5 : Nat) = 6 by decide)]
end
end
section
/-! a woven module's nets are what ClW says -/
/-- module and reference's module go together -/
def MdR (τ : Td) (m : Nat) (σ : PS) (R : RMo) : Prop := moM R = m ∧ moQ R = τ.1.length ∧ moY R = σ.2.2.2 ∧ moA R = σ.1.2.1 ∧ ∀ s, s < τ.1.length → (moT R s = 0 ↔ τ.2.1.getD s 0 = 30)
/-- inputs of a beat are 0 or 1 -/
def InB (R : RMo) (I : RIn) (ift : Nat → Nat) : Prop := (∀ s, s < moQ R → iGv I s < 2) ∧ (∀ s, iBf I s < 2) ∧ ∀ f, ift f < 2
section
variable {τ : Td} {m : Nat} {σ : PS} {root : Nat} {γ : Gh} {g0 n0 gw : Nat} {Z0 P : Nat → Nat → Int32} {zp : Int32} {Ψ1 Ψ2 : Wg} {w : Nat → Nat} {R : RMo} {I : RIn} {ift : Nat → Nat} {zn fn y0 g : Nat}
/-- all nodes below the root -/
theorem MdW.L (h : MdW τ m σ root γ g0 n0 gw Z0 P zp Ψ1 Ψ2) (hT : TwT (woS τ m σ γ) R zn fn y0 root g) : noL (chR (trS σ) γ.1) gw root = noL (chV (woS τ m σ γ)) g root ∧ ∀ z, z ∈ noL (chV (woS τ m σ γ)) g root → 1 ≤ z ∧ z < (trS σ).1 := by
  obtain ⟨hE, hX, ft, -⟩ := h
  obtain ⟨-, -, -, ⟨p', hR⟩, -⟩ := hT
  have hx := hE.2.2.2.2.1
  have bd : ∀ y, 1 ≤ y → y < (trS σ).1 → ∀ c ∈ γ.1 y, 1 ≤ c ∧ c < (trS σ).1 := fun y y1 y2 c hc => (hE.1.1.2.1 y y1 y2).2.2.1 c hc
  have ft2 : FtN γ.1 g root := RpN.ft g [] y0 root 0 p' hR
  have e1 := noL_ch2 (Θ := trS σ) (G := γ.1) bd g root hx
  have e2 := noL_2 ft (ft_R g root ft2)
  refine ⟨e2.trans e1, fun z hz => ?_⟩
  have hz : z ∈ noL γ.1 g root := hz
  exact noL_bd bd g root hx z hz
theorem MdW.nd (h : MdW τ m σ root γ g0 n0 gw Z0 P zp Ψ1 Ψ2) {z : Nat} (hz : z ∈ noL (chR (trS σ) γ.1) gw root) : NdQ (trS σ) (chR (trS σ) γ.1) Ψ1 P z := by
  obtain ⟨-, -, -, -, ⟨-, -, k3, k4, -⟩, -, -, -, -, k8, -⟩ := h
  by_cases e : z = root
  · rw [e]; exact ⟨k3, fun y => absurd y k8⟩
  · exact k4 z hz e
/-- the class's equations -/
theorem MdW.ce (h : MdW τ m σ root γ g0 n0 gw Z0 P zp Ψ1 Ψ2) (hT : TwT (woS τ m σ γ) R zn fn y0 root g) (k : gW Ψ2 w (HVm I)) {z : Nat} (hz : z ∈ noL (chV (woS τ m σ γ)) g root) : CEq (woV (woS τ m σ γ)) (hvW (trS σ) (HVm I)) (cvW P w) (ckW P w) (coW P w) (ccW (trS σ) w) z := by
  obtain ⟨eL, inb⟩ := h.L hT
  have k1 := h.g1 k
  have zi := inb z hz
  rw [← eL] at hz
  obtain ⟨⟨-, -, hi⟩, hj⟩ := h.nd hz
  obtain ⟨h1, h2⟩ := hi w (HVm I) k1
  have ez : chR (trS σ) γ.1 z = γ.1 z := chR_in zi
  rw [ez] at h1
  refine ⟨fun i hi' => ?_, fun n hn => ?_⟩
  · have q := h1 i hi'
    unfold ArN acN at q
    rw [ez] at q
    exact q
  · show ckW P w z n = if (trS σ).2.2 5 z = 8 then jbC (woV (woS τ m σ γ)) (hvW (trS σ) (HVm I)) (cvW P w) (ckW P w) z n else aC (woV (woS τ m σ γ)) (hvW (trS σ) (HVm I)) (cvW P w) (ckW P w) (ccW (trS σ) w) z (γ.1 z).length n
    by_cases k8 : (trS σ).2.2 5 z = 8
    · rw [if_pos k8]
      have q := hj k8 w (HVm I) k1 n hn
      unfold jbV at q
      rw [ez] at q
      exact q
    · rw [if_neg k8]
      have q := h2 k8 n hn
      unfold acN at q
      rw [ez] at q
      exact q
theorem MdW.sg (h : MdW τ m σ root γ g0 n0 gw Z0 P zp Ψ1 Ψ2) {s : Nat} (hs : s < τ.1.length) : roN Ψ2 (2 + s) = (3, s) := by
  obtain ⟨l1, l2, l3, l4⟩ := h.ln
  rcases h.old (n := 2 + s) (by omega) (by omega) with q | ⟨t, t1, t2, t3⟩ | ⟨t, t1, t2, t3⟩ | ⟨f, f1, f2, f3⟩
  · obtain ⟨hE, -⟩ := id h
    obtain ⟨-, s2, s3⟩ := hE.1.2.1.1.2.2.1 s hs
    unfold sgT at s2 s3
    rw [if_pos hs, show (4 + 2 * s) / 2 = 2 + s by omega] at s2 s3
    rw [h.ro (by omega), m6_gd s2, s3, if_neg (show ¬ (3 : Nat) = 6 by decide)] at q
    exact absurd (show (3 : Nat) = 0 from q) (by decide)
  · rw [t3, show t = s by omega]
  · obtain ⟨hE, -⟩ := id h
    obtain ⟨-, s2, s3⟩ := hE.1.2.1.1.2.2.1 s hs
    unfold sgT at s2 s3
    rw [if_pos hs, show (4 + 2 * s) / 2 = 2 + s by omega] at s2 s3
    rw [h.ro (by omega), m6_gd s2, s3, if_neg (show ¬ (3 : Nat) = 6 by decide)] at t3
    exact absurd (show (3 : Nat) = 4 from congrArg Prod.fst t3) (by decide)
  · obtain ⟨hE, -⟩ := id h
    obtain ⟨-, s2, s3⟩ := hE.1.2.1.1.2.2.1 s hs
    unfold sgT at s2 s3
    rw [if_pos hs, show (4 + 2 * s) / 2 = 2 + s by omega] at s2 s3
    rw [h.ro (by omega), m6_gd s2, s3, if_neg (show ¬ (3 : Nat) = 6 by decide)] at f3
    exact absurd (show (3 : Nat) = 5 from congrArg Prod.fst f3) (by decide)
/-- the first two nets -/
theorem MdW.r2 (h : MdW τ m σ root γ g0 n0 gw Z0 P zp Ψ1 Ψ2) {l : Nat} (hl : l < 2) : roN Ψ2 l = (1, 0) ∨ roN Ψ2 l = (2, 0) := by
  obtain ⟨l1, l2, l3, l4⟩ := h.ln
  obtain ⟨hE, hX, -⟩ := id h
  obtain ⟨t, et⟩ := hX.2.2.2.2.2.1
  have q := h.ro (n := l) (by omega)
  rw [m6_gd (by omega), et, gdA (by rw [roI_len]; omega)] at q
  have : l = 0 ∨ l = 1 := by omega
  rcases this with e | e
  · rw [e] at q ⊢; exact Or.inl q
  · rw [e] at q ⊢; exact Or.inr q
/-- the open net of a node -/
theorem MdW.op (h : MdW τ m σ root γ g0 n0 gw Z0 P zp Ψ1 Ψ2) (hT : TwT (woS τ m σ γ) R zn fn y0 root g) {z : Nat} (hz : z ∈ noL (chV (woS τ m σ γ)) g root) (hk : (trS σ).2.2 5 z = 6 ∨ (trS σ).2.2 5 z = 9) : ∃ l, P 26 z = Int32.ofNat (2 * l) ∧ (2 ≤ l ∧ l < Ψ2.1.length) ∧ roN Ψ2 l = (if (trS σ).2.2 5 z = 6 then 7 else 8, z) ∧ ClQ Ψ2 l (clO (woS τ m σ γ) P z) := by
  obtain ⟨eL, inb⟩ := h.L hT
  obtain ⟨l1, l2, l3, l4⟩ := h.ln
  have zi := inb z hz
  have ez : chR (trS σ) γ.1 z = γ.1 z := chR_in zi
  -- it has a child
  have ne : 0 < (γ.1 z).length := by
    obtain ⟨hG, hA, hy, ⟨p', hR⟩, hall⟩ := id hT
    rcases cov_b g [] y0 root 0 p' hR z hz with ⟨d, n, dn⟩ | ⟨k0, -⟩
    · obtain ⟨g', cx', q, q', kk⟩ := DsI.rp n (y0, root) g [] 0 p' dn hR
      have kk : RpN (woS τ m σ γ) (moM R) zn fn (vwM R) (hiM R) g' cx' d z q q' := kk
      have hne : ¬ cs1 (woS τ m σ γ) z := fun y => by
        have y1 : (trS σ).2.2 5 z = 5 := y.1
        rcases hk with e | e <;> (rw [e] at y1; exact absurd y1 (by decide))
      have no : ∀ {a : Int32}, (trS σ).2.2 5 z = a → a ≠ 6 → a ≠ 9 → False := fun {a} e n6 n9 => by
        rcases hk with y | y
        · exact n6 (e.symm.trans y)
        · exact n9 (e.symm.trans y)
      rcases kk.pk hne with ⟨a, -⟩ | ⟨a, -⟩ | ⟨a, -⟩ | ⟨a, -⟩ | ⟨a, -⟩ | ⟨a, -⟩ | ⟨-, -, c, d', e, -⟩ | ⟨a, -⟩ | ⟨a, -⟩ | ⟨-, -, c, d', e, -⟩
      · exact (no a (by decide) (by decide)).elim
      · exact (no a (by decide) (by decide)).elim
      · exact (no a (by decide) (by decide)).elim
      · exact (no a (by decide) (by decide)).elim
      · exact (no a (by decide) (by decide)).elim
      · exact (no a (by decide) (by decide)).elim
      · have e : γ.1 z = [c] := e
        rw [e]; simp
      · exact (no a (by decide) (by decide)).elim
      · exact (no a (by decide) (by decide)).elim
      · have e : γ.1 z = [c] := e
        rw [e]; simp
    · have k0 : (trS σ).2.2 5 z = 0 := k0
      rcases hk with e | e <;> (rw [e] at k0; exact absurd k0 (by decide))
  rw [← eL] at hz
  obtain ⟨⟨-, op, -⟩, -⟩ := h.nd hz
  obtain ⟨l, q1, q2, ⟨-, q4, q5⟩, q6⟩ := op hk
  rw [show 2 * l / 2 = l by omega] at q4 q5
  have cl := q6 (by rw [ez]; exact ne)
  obtain ⟨hE, hX, -, -, hk', ⟨f1, f2, f3, f4⟩, r1, r2, big, -⟩ := id h
  have e1 : Ψ2.2.1 = Ψ1.2.1 := by rw [f1]
  have rl : roN Ψ2 l = (if (trS σ).2.2 5 z = 6 then 7 else 8, z) := by unfold roN; rw [e1]; exact q5
  have rl78 : (roN Ψ2 l).1 = 7 ∨ (roN Ψ2 l).1 = 8 := by
    rw [rl]
    by_cases y : (trS σ).2.2 5 z = 6
    · rw [if_pos y]; exact Or.inl rfl
    · rw [if_neg y]; exact Or.inr rfl
  -- it is none of the reading's
  have new : σ.2.1.2.2.1.length ≤ l := by
    by_cases y : l < σ.2.1.2.2.1.length
    · by_cases y2 : 2 ≤ l
      · rcases h.old y2 y with q | ⟨t, -, -, q⟩ | ⟨t, -, -, q⟩ | ⟨t, -, -, q⟩
        · omega
        · rw [q] at rl78; exact absurd rl78 (by show ¬ ((3 : Nat) = 7 ∨ (3 : Nat) = 8); decide)
        · rw [q] at rl78; exact absurd rl78 (by show ¬ ((4 : Nat) = 7 ∨ (4 : Nat) = 8); decide)
        · rw [q] at rl78; exact absurd rl78 (by show ¬ ((5 : Nat) = 7 ∨ (5 : Nat) = 8); decide)
      · rcases h.r2 (l := l) (by omega) with q | q
        · rw [q] at rl78; exact absurd rl78 (by show ¬ ((1 : Nat) = 7 ∨ (1 : Nat) = 8); decide)
        · rw [q] at rl78; exact absurd rl78 (by show ¬ ((2 : Nat) = 7 ∨ (2 : Nat) = 8); decide)
    · omega
  refine ⟨l, q1, ⟨by omega, by omega⟩, rl, ?_⟩
  obtain ⟨lc, c1, c2, c3⟩ := cl
  refine ⟨lc, ?_, by omega, fun w HV k => ?_⟩
  · rw [f3 l q2 (fun t ht _ e => by omega)]; exact c1
  · rw [c3 w HV (h.g1 k)]
    unfold clF clO
    rw [ez]
    rfl
/-- every net is one of these -/
theorem MdW.nt (h : MdW τ m σ root γ g0 n0 gw Z0 P zp Ψ1 Ψ2) (hT : TwT (woS τ m σ γ) R zn fn y0 root g) (hR : MdR τ m σ R) (hb : InB R I ift) (h16 : τ.1.length ≤ 16) {n : Nat} (hn : n < Ψ2.1.length) : NtK (woS τ m σ γ) R I Ψ2 P (noL (chV (woS τ m σ γ)) g root) (tbR R Ψ2) (tvR I ift Ψ2) n := by
  obtain ⟨eL, inb⟩ := h.L hT
  obtain ⟨l1, l2, l3, l4⟩ := h.ln
  obtain ⟨hE, hX, ft, z21, hk', ⟨f1, f2, f3, f4⟩, r1, r2, big, -, n132⟩ := id h
  obtain ⟨m1, m2, m3, m4, m5⟩ := hR
  obtain ⟨b1, b2, b3⟩ := hb
  have e1 : Ψ2.2.1 = Ψ1.2.1 := by rw [f1]
  by_cases n2 : n < 2
  · -- the 0, the first beat
    have rr := h.r2 n2
    have nz : (Ψ2.2.1.getD n (0, 0)).1 ≠ 0 := by
      have e : Ψ2.2.1.getD n (0, 0) = roN Ψ2 n := rfl
      rw [e]
      rcases rr with q | q <;> rw [q]
      · exact (by decide : (1 : Nat) ≠ 0)
      · exact (by decide : (2 : Nat) ≠ 0)
    refine Or.inr (Or.inl ⟨nz, tb_lt n2, ?_, fun i ri => ?_⟩)
    · unfold tvR
      by_cases z : n = 0
      · rw [if_pos z]; decide
      · rw [if_neg z, if_pos (show n = 1 by omega)]
        split <;> decide
    · have e : roN Ψ2 n = (6, i) := ri
      rcases rr with q | q <;> rw [q] at e
      · exact absurd (show (1 : Nat) = 6 from congrArg Prod.fst e) (by decide)
      · exact absurd (show (2 : Nat) = 6 from congrArg Prod.fst e) (by decide)
  have h2 : 2 ≤ n := by omega
  have told : ∀ {k x : Nat}, roN Ψ2 n = (k, x) → k ≠ 0 → tbR R Ψ2 n = true → tvR I ift Ψ2 n < 2 → (k = 6 → tvR I ift Ψ2 n = HVm I (Ψ2.2.2.getD x 0)) → NtK (woS τ m σ γ) R I Ψ2 P (noL (chV (woS τ m σ γ)) g root) (tbR R Ψ2) (tvR I ift Ψ2) n := fun {k x} er k0 t1 t2 t3 => by
    refine Or.inr (Or.inl ⟨?_, t1, t2, fun i ri => ?_⟩)
    · show (roN Ψ2 n).1 ≠ 0
      rw [er]; exact k0
    · have ri : roN Ψ2 n = (6, i) := ri
      rw [er] at ri
      rw [t3 (congrArg Prod.fst ri), show x = i from congrArg Prod.snd ri]
  have and0 : (roN Ψ2 n).1 = 0 → NtK (woS τ m σ γ) R I Ψ2 P (noL (chV (woS τ m σ γ)) g root) (tbR R Ψ2) (tvR I ift Ψ2) n := fun e => by
    refine Or.inl ⟨e, ?_⟩
    rw [tb_r (k := 0) (x := (roN Ψ2 n).2) (by rw [← e]) h2]
    rfl
  by_cases old : n < σ.2.1.2.2.1.length
  · rcases h.old h2 old with q | ⟨s, s1, s2, s3⟩ | ⟨s, s1, s2, s3⟩ | ⟨f, q1, q2, q3⟩
    · exact and0 q
    · by_cases t0 : moT R s = 0
      · refine told s3 (by decide) ?_ ?_ (fun z => absurd z (by decide))
        · rw [tb_r s3 h2, decide_eq_true t0]; rfl
        · rw [tv_r s3 h2, if_pos rfl]; exact b1 s (by omega)
      · refine Or.inr (Or.inr (Or.inl ⟨?_, s, by omega, t0, s2, s3, ?_⟩))
        · rw [tb_r s3 h2, decide_eq_false t0]; rfl
        · -- a signal that is emitted
          have r30 : τ.2.1.getD s 0 ≠ 30 := fun e => t0 ((m5 s s1).mpr e)
          obtain ⟨l, c1, c2, c3⟩ := f4 s s1 r30
          rw [s2]
          refine ⟨l, c3, by omega, fun w HV k => ?_⟩
          have ex := hk'.2.2.2.2.2.2.2.1 w HV (h.g1 k) s (by omega)
          rw [c1, lV_of (by omega)] at ex
          have u0 : up4 Z0 root 2 3 0 0 (n0 + 21) s = 0 := by
            unfold up4
            by_cases hj : s = root
            · rw [if_pos hj, if_neg (by omega), if_neg (by omega), if_neg (by omega), if_neg (by omega)]; exact z21 s
            · rw [if_neg hj]; exact z21 s
          have v0 : lV w 0 = 0 := by
            have e : (0 : Int32) = Int32.ofNat 0 := rfl
            rw [e, lV_of (by decide), lR_0 k.1]
          rw [ex, u0, v0, eL]
          rfl
    · refine told s3 (by decide) (by rw [tb_r s3 h2]; rfl) ?_ (fun z => absurd z (by decide))
      rw [tv_r s3 h2, if_neg (by decide), if_pos rfl]; exact b2 s
    · refine told q3 (by decide) (by rw [tb_r q3 h2]; rfl) ?_ (fun z => absurd z (by decide))
      rw [tv_r q3 h2, if_neg (by decide), if_neg (by decide), if_pos rfl]; exact b3 f
  · -- new nets
    rcases hk'.1.2 n (by show σ.2.1.2.2.1.length ≤ n; omega) (by omega) with q | ⟨z, z1, z2, z3⟩
    · unfold r06 at q
      rw [← e1] at q
      rcases q with q | q
      · exact and0 q
      · have er : roN Ψ2 n = (6, (roN Ψ2 n).2) := by
          have q : (roN Ψ2 n).1 = 6 := q
          rw [← q]
        refine told er (by decide) (by rw [tb_r er h2]; rfl) ?_ (fun _ => ?_)
        · rw [tv_r er h2, if_neg (by decide), if_neg (by decide), if_neg (by decide)]; exact HVm_le
        · rw [tv_r er h2, if_neg (by decide), if_neg (by decide), if_neg (by decide)]
    · rw [eL] at z1
      obtain ⟨l, p1, p2, p3, p4⟩ := h.op hT z1 z2
      have el : n = l := by
        have := inj32 (a := 2 * n) (b := 2 * l) (by omega) (by omega) (z3.symm.trans p1)
        omega
      rw [← el] at p3 p4
      refine Or.inr (Or.inr (Or.inr ⟨?_, z, z1, ?_, z3, p4⟩))
      · rw [tb_r p3 h2]
        by_cases y : (trS σ).2.2 5 z = 6
        · rw [if_pos y]; rfl
        · rw [if_neg y]; rfl
      · by_cases y : (trS σ).2.2 5 z = 6
        · rw [if_pos y] at p3
          exact Or.inl ⟨y, p3⟩
        · rw [if_neg y] at p3
          rcases z2 with q | q
          · exact absurd q y
          · exact Or.inr ⟨q, p3⟩
end
end
section
/-! a woven module's nets are what ClW says: conditions, root, all of it -/
section
variable {τ : Td} {m : Nat} {σ : PS} {root : Nat} {γ : Gh} {g0 n0 gw : Nat} {Z0 P : Nat → Nat → Int32} {zp : Int32} {Ψ1 Ψ2 : Wg} {w : Nat → Nat} {R : RMo} {I : RIn} {ift : Nat → Nat} {y0 g : Nat}
/-- what goes with the woven nets goes with those of the reading -/
theorem MdW.cn (h : MdW τ m σ root γ g0 n0 gw Z0 P zp Ψ1 Ψ2) (k : gW Ψ2 w (HVm I)) : cnC σ.2.1.2.2.1 w := by
  obtain ⟨l1, l2, l3, l4⟩ := h.ln
  have k1 := h.g1 k
  obtain ⟨hE, hX, -, -, hk, ⟨f1, f2, f3, f4⟩, r1, r2, -⟩ := id h
  refine ⟨k.1.1, k.1.2.1, fun n hn ne => ?_⟩
  have rk := hE.1.2.1.1.1.2 n hn
  have r0 : (γ.2.2.getD n (0, 0)).1 = 0 := by
    by_cases z : (γ.2.2.getD n (0, 0)).1 = 0
    · exact z
    · rw [rk.2 z] at ne; exact absurd rfl ne
  have ro : (Ψ1.2.1.getD n (0, 0)).1 = 0 := by
    have q : Ψ1.2.1.getD n (0, 0) = (m6R γ.2.2).getD n (0, 0) := hk.1.1.2.2.1 n hn
    rw [q, m6_gd (by omega), if_neg (by rw [r0]; decide)]
    exact r0
  have q := k1.1.2.2 n (by omega) ro
  have e : Ψ1.1.getD n (0, 0) = σ.2.1.2.2.1.getD n (0, 0) := hk.1.1.2.1 n hn (fun z => by have z : σ.2.1.2.2.1.length ≤ n := z; omega)
  rw [e] at q
  exact q
/-- a condition's literal says what the reference works -/
theorem MdW.cd (h : MdW τ m σ root γ g0 n0 gw Z0 P zp Ψ1 Ψ2) (hb : InB R I ift) (k : gT I Ψ2 (tbR R Ψ2) (tvR I ift Ψ2) w) {c : Nat} (hc : c < σ.2.2.2.length) : lvN w (γ.2.1.getD c 0) = (cvL (fun s => w (2 + s)) (iBf I) σ.2.2.2).getD c 0 := by
  obtain ⟨l1, l2, l3, l4⟩ := h.ln
  obtain ⟨hE, hX, -, -, -, -, -, -, big, -⟩ := id h
  have sm := hE.1.2.1.2.2.2
  refine sm w (fun s => w (2 + s)) (iBf I) (h.cn k.1) (fun s hs => ?_) (fun s hs => ?_) c hc
  · unfold sgT
    rw [if_pos hs, show 4 + 2 * s = 2 * (2 + s) by omega, lv_2]
  · obtain ⟨b1, b2, b3⟩ := hE.1.2.1.1.2.2.2 s hs
    obtain ⟨n, en⟩ : ∃ n, σ.2.1.2.2.2.1 s = 2 * n := ⟨σ.2.1.2.2.2.1 s / 2, by omega⟩
    rw [en, show 2 * n / 2 = n by omega] at b2 b3
    rw [en, lv_2]
    have er : roN Ψ2 n = (4, s) := by rw [h.ro (by omega), m6_gd b2, b3, if_neg (show ¬ (4 : Nat) = 6 by decide)]
    have n2 : 2 ≤ n := by
      by_cases z : n < 2
      · rcases h.r2 z with q | q
        · rw [er] at q; exact absurd (show (4 : Nat) = 1 from congrArg Prod.fst q) (by decide)
        · rw [er] at q; exact absurd (show (4 : Nat) = 2 from congrArg Prod.fst q) (by decide)
      · omega
    rw [k.2 n (by omega) (by rw [tb_r er n2]; rfl), tv_r er n2, if_neg (by decide), if_pos rfl]
theorem MdW.cl (h : MdW τ m σ root γ g0 n0 gw Z0 P zp Ψ1 Ψ2) (hT : TwT (woS τ m σ γ) R σ.2.2.2.length (ifS σ).length y0 root g) (hR : MdR τ m σ R) (hb : InB R I ift) (h16 : τ.1.length ≤ 16) (hy41 : σ.2.2.2.length ≤ 410) (hIf : ∀ d j f c, inR R d → (moS R).2 80 d = 5 → j < 40 → (moS R).2 81 d = Int32.ofNat (40 * m + j) → woP (woS τ m σ γ) j 4 = Int32.ofNat f → f < (ifS σ).length → woA (woS τ m σ γ) 58 (40 * m + j) = 14 → woP (woS τ m σ γ) j 1 = Int32.ofNat c → 1 ≤ c → c < (trS σ).1 → iTr I (40 * m + j) = ift f) : ClW (woS τ m σ γ) R I Ψ2 P (trS σ) (noL (chV (woS τ m σ γ)) g root) (tbR R Ψ2) (tvR I ift Ψ2) y0 root := by
  obtain ⟨eL, inb⟩ := h.L hT
  obtain ⟨l1, l2, l3, l4⟩ := h.ln
  obtain ⟨hE, hX, ft, z21, hk', ⟨f1, f2, f3, f4⟩, r1, r2, big, -, n132⟩ := id h
  obtain ⟨m1, m2, m3, m4, m5⟩ := id hR
  obtain ⟨hG, hA, hy, ⟨p', hRp⟩, hall⟩ := id hT
  refine ⟨⟨r2, big, by omega⟩, fun n hn => h.nt hT hR hb h16 hn, ⟨tb_lt (by decide), if_pos rfl⟩, fun z hz => ⟨?_, fun hk => ?_⟩, fun w k z hz => h.ce hT k hz, fun w k => ⟨fun c hc => ?_, fun d c hd hk => ?_⟩, fun s hs t0 => ?_, fun s hs t0 => ?_, fun d hd d0 => ?_⟩
  · rw [← eL] at hz
    obtain ⟨⟨⟨o1, o2⟩, -⟩, -⟩ := h.nd hz
    have up : ∀ {v : Int32}, okI Ψ1 v → okI Ψ2 v := fun {v} ⟨l, e, hl⟩ => ⟨l, e, by omega⟩
    exact ⟨fun c c1 c2 => up (o1 c c1 c2), fun n hn => up (o2 n hn)⟩
  · obtain ⟨l, p1, ⟨p2, p2'⟩, p3, -⟩ := h.op hT hz hk
    refine ⟨l, p1, p2', ?_, p3⟩
    rw [tb_r p3 p2]
    by_cases y : (trS σ).2.2 5 z = 6
    · rw [if_pos y]; rfl
    · rw [if_neg y]; rfl
  · -- the root
    have sb := hk'.2.2.2.2.2.1
    have w1 : w 1 = if iFi I = 1 then 1 else 0 := by
      rw [k.2 1 (by omega) (tb_lt (by decide))]
      unfold tvR
      rw [if_neg (by decide), if_pos rfl]
    have q4 : up4 Z0 root 2 3 0 0 22 root = 2 ∧ up4 Z0 root 2 3 0 0 23 root = 3 ∧ up4 Z0 root 2 3 0 0 24 root = 0 ∧ up4 Z0 root 2 3 0 0 25 root = 0 := by unfold up4; simp
    have v0 : lV w 0 = 0 := by
      have e : (0 : Int32) = Int32.ofNat 0 := rfl
      rw [e, lV_of (by decide), lR_0 k.1.1]
    unfold cvW
    have : c = 0 ∨ c = 1 ∨ c = 2 ∨ c = 3 := by omega
    rcases this with e | e | e | e <;> rw [e]
    · rw [sb 22 (by decide) (by decide), q4.1]
      show lvN w (2 * 1) = _
      rw [lv_2, w1]
      rfl
    · rw [sb 23 (by decide) (by decide), q4.2.1]
      show v3N (w 1) = _
      have e1 : rtV I 1 = if iFi I = 1 then 0 else 1 := rfl
      rw [w1, e1]
      by_cases y : iFi I = 1
      · rw [if_pos y, if_pos y]; rfl
      · rw [if_neg y, if_neg y]; rfl
    · rw [sb 24 (by decide) (by decide), q4.2.2.1, v0]; rfl
    · rw [sb 25 (by decide) (by decide), q4.2.2.2, v0]; rfl
  · -- conditions
    obtain ⟨n, dn⟩ := id hd
    obtain ⟨g', cx', q, q', kk⟩ := DsI.rp n (y0, root) g [] 0 p' dn hRp
    have kk : RpN (woS τ m σ γ) (moM R) σ.2.2.2.length (ifS σ).length (vwM R) (hiM R) g' cx' d c q q' := kk
    have di : inR R d := kk.in
    have big4 := hG.1.1
    -- a condition
    have con : ∀ j, j < 40 → (moS R).2 81 d = Int32.ofNat (40 * moM R + j) → (moS R).2 80 d ≠ 5 → CdW (woS τ m σ γ) (moM R) σ.2.2.2.length (40 * moM R + j) ((woV (woS τ m σ γ) c).2.1) → lokS R I (fun s => w (2 + s)) d = ccW (trS σ) w c := fun j j1 j2 n5 cdw => by
      obtain ⟨f, c0, c1, c2, c3, c4, c5, c6⟩ := cdw
      unfold lokS
      rw [if_neg n5, j2, lt32 (by omega), m3]
      have c4 : σ.1.2.1 63 (40 * moM R + j) = Int32.ofNat (410 * moM R + c0) := c4
      have zl := hE.1.2.1.2.2.1 c0 (by rw [hE.1.2.1.2.1]; exact c2)
      show (cvL (fun s => w (2 + s)) (iBf I) σ.2.2.2).getD ((moA R 63 (40 * moM R + j)).toNatClampNeg - 410 * moM R) 0 = lV w ((trS σ).2.2 10 c)
      have c6 : (trS σ).2.2 10 c = Int32.ofNat (γ.2.1.getD c0 0) := c6
      rw [c6, lV_of (by omega), h.cd hb k c2, m4, c4]
      rw [lt32 (by omega), show 410 * moM R + c0 - 410 * moM R = c0 by omega]
    cases g' with
    | zero => unfold RpN at kk; exact kk.elim
    | succ g' =>
      unfold RpN at kk
      obtain ⟨-, kk⟩ := kk
      have no : ∀ {a : Int32}, (woV (woS τ m σ γ) c).1 = a → a ≠ 4 → a ≠ 7 → False := fun {a} e n4 n7 => by
        rcases hk with y | y
        · exact n4 (e.symm.trans y)
        · exact n7 (e.symm.trans y)
      rcases kk with ⟨a, -⟩ | ⟨a, -⟩ | ⟨a, -⟩ | ⟨a, -⟩ | ⟨a, -⟩ | ⟨a, -⟩ | ⟨a, b1, -⟩ | ⟨a, -⟩ | ⟨a, b1, ⟨j, j1, j2, j3⟩, -⟩ | ⟨a, -⟩ | ⟨a, -⟩
      · exact (no a (by decide) (by decide)).elim
      · exact (no a (by decide) (by decide)).elim
      · exact (no a (by decide) (by decide)).elim
      · exact (no a (by decide) (by decide)).elim
      · exact (no a (by decide) (by decide)).elim
      · exact (no a (by decide) (by decide)).elim
      · rcases b1 with ⟨so, j, j1, j2, j3⟩ | ⟨so, j, f, j1, j2, j3, j4, j5, j6, j7⟩
        · have so : (moS R).2 80 d = 4 := so
          exact con j j1 j2 (by rw [so]; decide) j3
        · have so : (moS R).2 80 d = 5 := so
          have cb := inb c (ds_no (RpN.ft g [] y0 root 0 p' hRp) n d c dn)
          have j2 : (moS R).2 81 d = Int32.ofNat (40 * moM R + j) := j2
          unfold lokS
          rw [if_pos so, j2, lt32 (by omega), m1, hIf d j f c di so j1 (by rw [← m1]; exact j2) j4 j3 (by rw [m1] at j6; exact j6) j7 cb.1 cb.2]
          show ift f = lV w ((trS σ).2.2 10 c)
          have j5 : (trS σ).2.2 10 c = (ifS σ).getD f 0 := j5
          obtain ⟨l, e1, e2, e3, e4⟩ := hE.1.2.2 f j3
          obtain ⟨n, en⟩ : ∃ n, l = 2 * n := ⟨l / 2, by omega⟩
          rw [en] at e1 e3 e4
          rw [show 2 * n / 2 = n by omega] at e3 e4
          have er : roN Ψ2 n = (5, f) := by rw [h.ro (by omega), m6_gd e3, e4, if_neg (show ¬ (5 : Nat) = 6 by decide)]
          have n2 : 2 ≤ n := by
            by_cases z : n < 2
            · rcases h.r2 z with q | q
              · rw [er] at q; exact absurd (show (5 : Nat) = 1 from congrArg Prod.fst q) (by decide)
              · rw [er] at q; exact absurd (show (5 : Nat) = 2 from congrArg Prod.fst q) (by decide)
            · omega
          rw [j5, e1, lV_of (by omega), lv_2, k.2 n (by omega) (by rw [tb_r er n2]; rfl), tv_r er n2, if_neg (by decide), if_neg (by decide), if_pos rfl]
      · exact (no a (by decide) (by decide)).elim
      · have b1 : (moS R).2 80 d = 8 := b1
        exact con j j1 j2 (by rw [b1]; decide) j3
      · exact (no a (by decide) (by decide)).elim
      · exact (no a (by decide) (by decide)).elim
  · have er := h.sg (s := s) (by omega)
    rw [tb_r er (by omega), tv_r er (by omega), if_pos rfl, decide_eq_true t0]
    exact ⟨rfl, rfl⟩
  · have er := h.sg (s := s) (by omega)
    refine ⟨?_, er⟩
    rw [tb_r er (by omega), decide_eq_false t0]
    rfl
  · rw [m3] at hd
    rw [m2]
    exact hX.2.2.2.2.1.2.2.2.2 d hd (by omega)
end
end
section
/-! what the reference has built, as its equations want it -/
def mkR (τ : Td) (m : Nat) (σ : PS) (S : RBs) (G : Nat → List Nat) (mk nu : Nat → Int32) (km : Nat) : RMo := (m, S, G, σ.1.2.1, mk, nu, km, σ.2.2.2, τ.1.length, fun s => τ.2.1.getD s 0 - 30)
section
variable {τ : Td} {m : Nat} {σ : PS} {root : Nat} {γ : Gh} {g0 g y p' np km : Nat} {pn mk nu co : Nat → Int32} {S : RBs} {G : Nat → List Nat} {sl : List Nat} {M' : Mem}
/-- the reference's module, built -/
def BuW (τ : Td) (m : Nat) (σ : PS) (root : Nat) (γ : Gh) (pn : Nat → Int32) (S : RBs) (G : Nat → List Nat) (mk nu co : Nat → Int32) (sl : List Nat) (km g y : Nat) (M' : Mem) : Prop := BuR (woS τ m σ γ) ((trS σ).2.2 12) m σ.2.2.2.length (ifS σ).length σ.1.2.1 pn S G mk nu co sl km g y root (trS σ).2.1 (npS σ) M'
theorem BuW.tw (h : BuW τ m σ root γ pn S G mk nu co sl km g y M') : TwT (woS τ m σ γ) (mkR τ m σ S G mk nu km) σ.2.2.2.length (ifS σ).length y root g := by
  obtain ⟨h1, h2, ⟨h3, h3'⟩, h4, h5, h6, h7⟩ := h
  exact ⟨h2, rfl, ⟨h3.1, h3.2⟩, ⟨_, h4⟩, fun z hz => h7 z hz.1 hz.2⟩
theorem BuW.pr (h : BuW τ m σ root γ pn S G mk nu co sl km g y M') : PrK (woS τ m σ γ) (mkR τ m σ S G mk nu km) (trS σ) y root := by
  intro d c hd
  obtain ⟨n, hd⟩ := hd
  obtain ⟨h1, h2, h3, h4, ⟨h5, -⟩, h6, h7⟩ := h
  obtain ⟨g', v⟩ := DsI.vl n (y, root) g hd h5
  have v := VlN.hd (S0 := S) (G := G) v
  obtain ⟨v1, v2, v3, v4, -⟩ := v
  refine ⟨v1.symm, fun k3 => ⟨v3 (Or.inr k3), ?_⟩⟩
  obtain ⟨u, u1, u2⟩ := v4 k3
  exact ⟨2 + u, by show 2 + u < km; omega, u1⟩
theorem BuW.tu (hE : RdE τ m σ root γ g0) (hX : RdX τ σ root γ) (h : BuW τ m σ root γ pn S G mk nu co sl km g y M') : TrU (woS τ m σ γ) (mkR τ m σ S G mk nu km) y root := by
  obtain ⟨-, -, -, ⟨p', hR⟩, -⟩ := h.tw
  have ft : FtN γ.1 g root := RpN.ft g [] y root 0 p' hR
  have hx := hE.2.2.2.2.1
  have bd : ∀ z, 1 ≤ z → z < (trS σ).1 → ∀ c ∈ γ.1 z, 1 ≤ c ∧ c < (trS σ).1 := fun z z1 z2 c hc => (hE.1.1.2.1 z z1 z2).2.2.1 c hc
  have par : ∀ z a, 1 ≤ a ∧ a < (trS σ).1 → z ∈ γ.1 a → (trS σ).2.2 9 z = Int32.ofNat a ∧ a < 640 := fun z a ha hz => by
    have w := (hE.1.1.2.1 a ha.1 ha.2).1
    have := hE.1.1.1.2
    exact ⟨w.2.2.2.1 z hz, by omega⟩
  refine ⟨fun a => 1 ≤ a ∧ a < (trS σ).1, fun d c hd => ?_, fun z a b ha hb za zb => ?_, fun a ha => ?_, fun a ha hz => ?_⟩
  · obtain ⟨n, hd⟩ := hd
    have q : c ∈ noL γ.1 g root := ds_no (W := woS τ m σ γ) ft n d c hd
    exact noL_bd bd g root hx c q
  · obtain ⟨a1, a2⟩ := par z a ha za
    obtain ⟨b1, b2⟩ := par z b hb zb
    exact inj32 (by omega) (by omega) (a1.symm.trans b1)
  · exact (hE.1.1.2.1 a ha.1 ha.2).2.1
  · obtain ⟨a1, a2⟩ := par root a ha hz
    rw [hX.1] at a1
    have := inj32 (a := 0) (b := a) (by decide) (by omega) a1
    omega
theorem BuW.st (h : BuW τ m σ root γ pn S G mk nu co sl km g y M') : StL (mkR τ m σ S G mk nu km) sl := by
  obtain ⟨h1, h2, h3, h4, ⟨h5, ⟨s1, s2, s3⟩, s4⟩, h6, h7⟩ := h
  have h7' := h2.1.2
  refine ⟨fun s hs => ?_, fun z hz => s3 z hz.1 hz.2, ?_⟩
  · obtain ⟨a1, a2⟩ := s2 s hs
    refine ⟨s / 2, ⟨?_, ?_⟩, by omega⟩
    · show 700 * m ≤ s / 2
      omega
    · show s / 2 < 700 * m + S.1
      omega
  · have := nodup_iv (a := 1400 * m) (n := 2 * S.1) s1 (fun z hz => by have := s2 z hz; omega)
    omega
theorem BuW.nl (hE : RdE τ m σ root γ g0) (hM : EmN τ (trS σ)) (h : BuW τ m σ root γ pn S G mk nu co sl km g y M') : NdL (mkR τ m σ S G mk nu km) ∧ EmL (mkR τ m σ S G mk nu km) := by
  have hT := h.tw
  have hU := hT
  obtain ⟨hG, hA, hy, ⟨p', hR⟩, hall⟩ := hT
  have h4 : m < 4 := hG.1.1
  have ft : FtN γ.1 g root := RpN.ft g [] y root 0 p' hR
  have hx := hE.2.2.2.2.1
  have bd : ∀ z, 1 ≤ z → z < (trS σ).1 → ∀ c ∈ γ.1 z, 1 ≤ c ∧ c < (trS σ).1 := fun z z1 z2 c hc => (hE.1.1.2.1 z z1 z2).2.2.1 c hc
  obtain ⟨R, eR⟩ : ∃ R, R = mkR τ m σ S G mk nu km := ⟨_, rfl⟩
  rw [← eR] at hG hA hy hR hall ⊢
  have eM : moM R = m := by rw [eR]; rfl
  have eQ : moQ R = τ.1.length := by rw [eR]; rfl
  have eY : moY R = σ.2.2.2 := by rw [eR]; rfl
  have eA : moA R = σ.1.2.1 := by rw [eR]; rfl
  have eT : ∀ s, moT R s = τ.2.1.getD s 0 - 30 := fun s => by rw [eR]; rfl
  -- every node has its pair
  have pair : ∀ z, inR R z → ∃ x cx g' q q', (1 ≤ x ∧ x < (trS σ).1) ∧ ¬ cs1 (woS τ m σ γ) x ∧ RpN (woS τ m σ γ) (moM R) σ.2.2.2.length (ifS σ).length (vwM R) (hiM R) (g' + 1) cx z x q q' := fun z hz => by
    obtain ⟨k, ak⟩ := hall z hz
    obtain ⟨x, cx, g', q, q', ⟨n, d1⟩, d2, d3⟩ := cov_a hG hR k z ak hz
    have xm : x ∈ noL γ.1 g root := ds_no (W := woS τ m σ γ) ft n z x d1
    have xb := noL_bd bd g root hx x xm
    cases g' with
    | zero => unfold RpN at d3; exact d3.elim
    | succ g' => exact ⟨x, cx, g', q, q', xb, d2, d3⟩
  have cdr : ∀ {j : Nat} {l : Int32}, j < 40 → CdW (woS τ m σ γ) (moM R) σ.2.2.2.length (40 * moM R + j) l → ∃ f c, CdR R (40 * moM R + j) f c := fun {j l} hj cw => by
    obtain ⟨f, c, c1, c2, c3, c4, c5, -⟩ := cw
    refine ⟨f, c, ⟨by omega, by omega⟩, c1, by rw [eY]; exact c2, by rw [eA]; exact c3, by rw [eA]; exact c4, ?_⟩
    rw [eQ, eY]
    exact c5
  have em : ∀ z, inR R z → (moS R).2 80 z = 1 → ∃ s, s < moQ R ∧ moA R 60 ((moS R).2 81 z).toNatClampNeg = Int32.ofNat s ∧ moT R s ≠ 0 := fun z hz k1 => by
    obtain ⟨x, cx, g', q, q', xb, d2, d3⟩ := pair z hz
    obtain ⟨m1, m2⟩ := d3.em hA (by omega) d2
    have k2 := m1.mp k1
    obtain ⟨s, s1, s2, s3⟩ := hM x xb.1 xb.2 k2
    refine ⟨s, by omega, by rw [m2 k2]; exact s2, fun e => s3 ?_⟩
    rw [eT] at e
    have : τ.2.1.getD s 0 = 30 := by
      have := Int32.sub_add_cancel (τ.2.1.getD s 0) 30
      rw [e] at this
      rw [← this]
      rfl
    exact this
  refine ⟨fun z hz => ?_, em⟩
  obtain ⟨x, cx, g', q, q', xb, d2, d3⟩ := pair z hz
  have hP := d3.pk d2
  have kd : ∃ t, t ≤ 10 ∧ (moS R).2 80 z = Int32.ofNat t := by
    rcases hP with ⟨-, b, -⟩ | ⟨-, -, b, -⟩ | ⟨-, -, b, -⟩ | ⟨-, -, b, -⟩ | ⟨-, -, b, -⟩ | ⟨-, b | b, -⟩ | ⟨-, b, -⟩ | ⟨-, b, -⟩ | ⟨-, b, -⟩ | ⟨-, b, -⟩
    · exact ⟨6, by decide, b⟩
    · exact ⟨0, by decide, b⟩
    · exact ⟨2, by decide, b⟩
    · exact ⟨1, by decide, b⟩
    · exact ⟨3, by decide, b⟩
    · exact ⟨4, by decide, b⟩
    · exact ⟨5, by decide, b⟩
    · exact ⟨7, by decide, b⟩
    · exact ⟨8, by decide, b⟩
    · exact ⟨9, by decide, b⟩
    · exact ⟨10, by decide, b⟩
  have ne : (moS R).2 80 z = 4 ∨ (moS R).2 80 z = 5 ∨ (moS R).2 80 z = 6 ∨ (moS R).2 80 z = 7 ∨ (moS R).2 80 z = 8 ∨ (moS R).2 80 z = 10 → moG R z ≠ [] := fun hk e => by
    have no : ∀ {a : Int32}, (moS R).2 80 z = a → a ≠ 4 → a ≠ 5 → a ≠ 6 → a ≠ 7 → a ≠ 8 → a ≠ 10 → False := fun {a} ea n4 n5 n6 n7 n8 n10 => by
      rcases hk with y | y | y | y | y | y
      · exact n4 (ea.symm.trans y)
      · exact n5 (ea.symm.trans y)
      · exact n6 (ea.symm.trans y)
      · exact n7 (ea.symm.trans y)
      · exact n8 (ea.symm.trans y)
      · exact n10 (ea.symm.trans y)
    rcases hP with ⟨-, -, b, -⟩ | ⟨-, -, b, -⟩ | ⟨-, -, b, -⟩ | ⟨-, -, b, -⟩ | ⟨-, -, b, -⟩ | ⟨-, -, c1, c2, d1, -, ⟨b, -⟩ | ⟨e2, b⟩⟩ | ⟨-, -, c, d, -, b⟩ | ⟨-, -, c, d, -, b⟩ | ⟨-, -, b, -⟩ | ⟨-, -, c, d, -, b⟩
    · rw [e] at b; exact absurd b (by decide)
    · exact no b (by decide) (by decide) (by decide) (by decide) (by decide) (by decide)
    · exact no b (by decide) (by decide) (by decide) (by decide) (by decide) (by decide)
    · exact no b (by decide) (by decide) (by decide) (by decide) (by decide) (by decide)
    · exact no b (by decide) (by decide) (by decide) (by decide) (by decide) (by decide)
    · rw [e] at b; cases b
    · rw [e] at b; cases b
    · rw [e] at b; cases b
    · rw [e] at b; cases b
    · rw [e] at b; exact absurd b (by decide)
    · rw [e] at b; cases b
  refine ⟨kd, fun hk => ?_, fun hk => ?_, fun k1 => ?_, ne⟩
  · unfold RpN at d3
    obtain ⟨-, d3⟩ := d3
    have no : ∀ {a : Int32}, (vwM R z).1 = a → a ≠ 5 → a ≠ 1 → False := fun {a} ea n5 n1 => by
      have ea : (moS R).2 80 z = a := ea
      rcases hk with y | y
      · exact n5 (ea.symm.trans y)
      · exact n1 (ea.symm.trans y)
    rcases d3 with ⟨a, c, b1, -⟩ | ⟨-, b, -⟩ | ⟨-, -, b, -⟩ | ⟨-, -, -, b, -⟩ | ⟨-, -, -, -, ⟨j, j1, j2, -⟩, -⟩ | ⟨-, -, b, -⟩ | ⟨-, b, -⟩ | ⟨-, b, -⟩ | ⟨-, b, -⟩ | ⟨-, b, -⟩ | ⟨-, b, -⟩
    · exact absurd ⟨a, by show (woV (woS τ m σ γ) x).2.2.2.length = 1; rw [b1]; rfl⟩ d2
    · exact (no b (by decide) (by decide)).elim
    · exact (no b (by decide) (by decide)).elim
    · exact (no b (by decide) (by decide)).elim
    · exact ⟨j, j1, j2⟩
    · exact (no b (by decide) (by decide)).elim
    · rcases b with ⟨so, -⟩ | ⟨so, j, f, j1, j2, -⟩
      · exact (no so (by decide) (by decide)).elim
      · exact ⟨j, j1, j2⟩
    · exact (no b (by decide) (by decide)).elim
    · exact (no b (by decide) (by decide)).elim
    · exact (no b (by decide) (by decide)).elim
    · exact (no b (by decide) (by decide)).elim
  · unfold RpN at d3
    obtain ⟨-, d3⟩ := d3
    have no : ∀ {a : Int32}, (vwM R z).1 = a → a ≠ 4 → a ≠ 8 → False := fun {a} ea n5 n1 => by
      have ea : (moS R).2 80 z = a := ea
      rcases hk with y | y
      · exact n5 (ea.symm.trans y)
      · exact n1 (ea.symm.trans y)
    rcases d3 with ⟨a, c, b1, -⟩ | ⟨-, b, -⟩ | ⟨-, -, b, -⟩ | ⟨-, -, -, b, -⟩ | ⟨-, -, b, -⟩ | ⟨-, -, b, -⟩ | ⟨-, b, -⟩ | ⟨-, b, -⟩ | ⟨-, -, ⟨j, j1, j2, j3⟩, -⟩ | ⟨-, b, -⟩ | ⟨-, b, -⟩
    · exact absurd ⟨a, by show (woV (woS τ m σ γ) x).2.2.2.length = 1; rw [b1]; rfl⟩ d2
    · exact (no b (by decide) (by decide)).elim
    · exact (no b (by decide) (by decide)).elim
    · exact (no b (by decide) (by decide)).elim
    · exact (no b (by decide) (by decide)).elim
    · exact (no b (by decide) (by decide)).elim
    · rcases b with ⟨so, j, j1, j2, j3⟩ | ⟨so, -⟩
      · obtain ⟨f, c, q⟩ := cdr j1 j3
        exact ⟨j, f, c, j1, j2, q⟩
      · exact (no so (by decide) (by decide)).elim
    · exact (no b (by decide) (by decide)).elim
    · obtain ⟨f, c, q⟩ := cdr j1 j3
      exact ⟨j, f, c, j1, j2, q⟩
    · exact (no b (by decide) (by decide)).elim
    · exact (no b (by decide) (by decide)).elim
  · obtain ⟨s, s1, s2, -⟩ := em z hz k1
    exact ⟨s, s1, s2⟩
end
end
section
/-! a module on both sides: solutions meet -/
section
variable {τ : Td} {m : Nat} {σ : PS} {root : Nat} {γ : Gh} {g0 n0 gw : Nat} {Z0 P : Nat → Nat → Int32} {zp : Int32} {Ψ1 Ψ2 : Wg} {I : RIn} {ift : Nat → Nat} {y g km : Nat} {pn mk nu co : Nat → Int32} {S : RBs} {G : Nat → List Nat} {sl : List Nat} {M' : Mem} {ρ : Plc → Nat} {v : Nat → Nat}
theorem s30 {a : Int32} : a - 30 = 0 ↔ a = 30 := by
  refine ⟨fun e => ?_, fun e => by rw [e]; rfl⟩
  have := Int32.sub_add_cancel a 30
  rw [e] at this
  rw [← this]
  rfl
theorem mkR_ok : MdR τ m σ (mkR τ m σ S G mk nu km) := ⟨rfl, rfl, rfl, rfl, fun s _ => s30⟩
/-- what an if's number has to do with its part -/
def IfH (τ : Td) (m : Nat) (σ : PS) (γ : Gh) (R : RMo) (I : RIn) (ift : Nat → Nat) : Prop := ∀ d j f c, inR R d → (moS R).2 80 d = 5 → j < 40 → (moS R).2 81 d = Int32.ofNat (40 * m + j) → woP (woS τ m σ γ) j 4 = Int32.ofNat f → f < (ifS σ).length → woA (woS τ m σ γ) 58 (40 * m + j) = 14 → woP (woS τ m σ γ) j 1 = Int32.ofNat c → 1 ≤ c → c < (trS σ).1 → iTr I (40 * m + j) = ift f
/-- both sides of a solved beat -/
def MeT (τ : Td) (m : Nat) (σ : PS) (root : Nat) (γ : Gh) (P : Nat → Nat → Int32) (Ψ : Wg) (R : RMo) (y : Nat) (ρ : Plc → Nat) (v : Nat → Nat) : Prop := (∀ d c, DsR (woS τ m σ γ) R y root d c → MtE R ρ (cvW P v) (ckW P v) d c) ∧ (∀ s, s < τ.1.length → ρ (5, s, 0) = v (2 + s)) ∧ ((∀ n, n < Ψ.1.length → v n ≠ 2) ↔ KnR R ρ)
theorem B_meet (h : MdW τ m σ root γ g0 n0 gw Z0 P zp Ψ1 Ψ2) (hb : BuW τ m σ root γ pn S G mk nu co sl km g y M') (hB : InB (mkR τ m σ S G mk nu km) I ift) (h16 : τ.1.length ≤ 16) (hy41 : σ.2.2.2.length ≤ 410) (hIf : IfH τ m σ γ (mkR τ m σ S G mk nu km) I ift) (h2 : ∀ j, ρ j ≤ 2) (hfx : ∀ i, FrR (mkR τ m σ S G mk nu km) I ρ i = ρ i) (hJ : JF (FrR (mkR τ m σ S G mk nu km) I) ρ) (vx : ∀ n, FcN Ψ2.1 (tbR (mkR τ m σ S G mk nu km) Ψ2) (tvR I ift Ψ2) v n = v n) (vJ : JF (FcN Ψ2.1 (tbR (mkR τ m σ S G mk nu km) Ψ2) (tvR I ift Ψ2)) v) : MeT τ m σ root γ P Ψ2 (mkR τ m σ S G mk nu km) y ρ v := by
  have hT := hb.tw
  have hE := h.1
  have hX := h.2.1
  have hU := hb.tu hE hX
  have hC := h.cl hT mkR_ok hB h16 hy41 hIf
  have hK := hb.pr
  have h3 : 3 ≤ moC (mkR τ m σ S G mk nu km) ∧ moC (mkR τ m σ S G mk nu km) ≤ 20 := hb.2.2.2.2.1.2.2
  obtain ⟨q1, q2⟩ := J_eq hT hU hC hK h3 h2 hfx hJ vx vJ
  exact ⟨q1, q2, J_st hT hC h3 h2 hfx vx q1 q2⟩
/-- parts: node of the reference and node of the class -/
theorem B_part (hb : BuW τ m σ root γ pn S G mk nu co sl km g y M') (hM : MeT τ m σ root γ P Ψ2 (mkR τ m σ S G mk nu km) y ρ v) {i : Nat} (hi : i < npS σ) : ∃ yi xi, (pn (40 * m + i) = Int32.ofNat yi ∧ σ.2.1.1 i 1 = Int32.ofNat xi) ∧ inR (mkR τ m σ S G mk nu km) yi ∧ ρ (0, yi, 0) = lV v (P 22 xi) ∧ (∀ n, n < 3 → ρ (4, yi, n) = lV v (P 28 (xi * 20 + n))) ∧ mk yi = (trS σ).2.2 12 xi := by
  have h3 : 3 ≤ km ∧ km ≤ 20 := hb.2.2.2.2.1.2.2
  have hK := hb.pr
  obtain ⟨e, he, yi, xi, ⟨p1, p2⟩, p3, p4⟩ := hb.2.2.2.2.2.1 i (Nat.zero_le _) hi
  have ee : e = (y, root) := List.mem_singleton.mp he
  rw [ee] at p4
  have dd : DsR (woS τ m σ γ) (mkR τ m σ S G mk nu km) y root yi xi := p4
  obtain ⟨m1, m2⟩ := hM.1 yi xi dd
  exact ⟨yi, xi, ⟨p1, p2⟩, p3, m1 0 (by decide), fun n hn => m2 n (by show n < km; omega), (hK yi xi dd).1.symm⟩
theorem B_root (hb : BuW τ m σ root γ pn S G mk nu co sl km g y M') (hM : MeT τ m σ root γ P Ψ2 (mkR τ m σ S G mk nu km) y ρ v) : ρ (4, y, 0) = lV v (P 28 (root * 20)) := by
  have h3 : 3 ≤ km ∧ km ≤ 20 := hb.2.2.2.2.1.2.2
  exact (hM.1 y root DsR.rf).2 0 (by show 0 < km; omega)
end
end
section
/-! sums node by node: which nodes stand on a stack, and how high it grows -/
def KdN (X : List Nd) (k : Nat) : Prop := ((X.getD k nd0).1 = 0 ∧ ∃ v, v < 1000000 ∧ (X.getD k nd0).2.1 = Int64.ofNat v) ∨ ((X.getD k nd0).1 = 1 ∧ ∃ v, v < 6 ∧ (X.getD k nd0).2.1 = Int64.ofNat v) ∨ ((X.getD k nd0).1 = 2 ∧ ∃ v, v < 16 ∧ (X.getD k nd0).2.1 = Int64.ofNat v)
def SpN (X : List Nd) (k : Nat) (s s' : List Nat) : Prop := (KdN X k ∧ s' = k :: s) ∨ ((X.getD k nd0).1 = 3 ∧ ∃ e s0, s = e :: s0 ∧ (X.getD k nd0).2.1 = Int64.ofNat e ∧ s' = k :: s0) ∨ ((4 ≤ (X.getD k nd0).1 ∧ (X.getD k nd0).1 ≤ 8) ∧ ∃ a e s0, s = a :: e :: s0 ∧ (X.getD k nd0).2.1 = Int64.ofNat e ∧ (X.getD k nd0).2.2 = a ∧ s' = k :: s0)
def GdS (X : List Nd) (D : Nat) : Nat → Nat → List Nat → List Nat → Prop
  | 0, _, s, t => s = t
  | n + 1, k, s, t => ∃ s', SpN X k s s' ∧ s'.length ≤ D ∧ GdS X D n (k + 1) s' t
section
variable {X Y : List Nd} {D D' n n' k : Nat} {s t u : List Nat}
theorem SpN.app (hk : k < X.length) (h : SpN X k s t) : SpN (X ++ Y) k s t := by
  unfold SpN KdN at h ⊢
  rw [gd_app hk]
  exact h
theorem GdS.app : ∀ (n k : Nat) (s t : List Nat), k + n ≤ X.length → GdS X D n k s t → GdS (X ++ Y) D n k s t
  | 0, _, _, _, _, h => h
  | n + 1, k, s, t, hk, ⟨s', h1, h2, h3⟩ => ⟨s', h1.app (by omega), h2, GdS.app n (k + 1) s' t (by omega) h3⟩
theorem GdS.mo (hD : D ≤ D') : ∀ (n k : Nat) (s t : List Nat), GdS X D n k s t → GdS X D' n k s t
  | 0, _, _, _, h => h
  | n + 1, k, s, t, ⟨s', h1, h2, h3⟩ => ⟨s', h1, Nat.le_trans h2 hD, GdS.mo hD n (k + 1) s' t h3⟩
theorem GdS.tr : ∀ (n n' k : Nat) (s t u : List Nat), GdS X D n k s t → GdS X D n' (k + n) t u → GdS X D (n + n') k s u
  | 0, n', k, s, t, u, h, g => by
    have h : s = t := h
    rw [h, Nat.zero_add]; exact g
  | n + 1, n', k, s, t, u, ⟨s', h1, h2, h3⟩, g => by
    rw [Nat.add_right_comm]
    exact ⟨s', h1, h2, GdS.tr n n' (k + 1) s' t u h3 (by rw [Nat.add_assoc, Nat.add_comm 1 n]; exact g)⟩
theorem GdS.one (h : SpN X k s t) (hl : t.length ≤ D) : GdS X D 1 k s t := ⟨t, h, hl, rfl⟩
end
def Dpo (md o : Nat) : Nat := (if md = 0 then 31 else if md = 1 ∨ md = 2 then 32 else 33) - 2 * o
section
variable {b : Nat → Int32} {n : Nat} {sN : List Int64} {mx : List Int32} {vN : List Int64}
theorem rd_gd (hB : By b) (hv : vN.length ≤ 6) (hs : sN.length ≤ 16) : ∀ (g md i o : Nat) (X : List Nd) (u : Int32) (r : Nat × List Nd × Int32), o ≤ 15 → rd b n sN mx vN g md i o X u = .ok r → (md = 0 ∨ md = 1 ∨ md = 3 → X.length < r.2.1.length ∧ ∀ s, GdS r.2.1 (s.length + Dpo md o) (r.2.1.length - X.length) X.length s ((r.2.1.length - 1) :: s)) ∧ (md = 2 ∨ md = 4 → 0 < X.length → ∀ s, GdS r.2.1 (s.length + Dpo md o) (r.2.1.length - X.length) X.length ((X.length - 1) :: s) ((r.2.1.length - 1) :: s)) := by
  intro g
  induction g with
  | zero => intro md i o X u r _ e; unfold rd at e; cases e
  | succ g ih =>
    intro md i o X u r ho e
    have lf : ∀ d : Nd, KdN (X ++ [d]) X.length → X.length < (X ++ [d]).length ∧ ∀ s, GdS (X ++ [d]) (s.length + Dpo 0 o) ((X ++ [d]).length - X.length) X.length s (((X ++ [d]).length - 1) :: s) := fun d hd => by
      have e : (X ++ [d]).length = X.length + 1 := by rw [List.length_append]; rfl
      rw [e]
      refine ⟨Nat.lt_succ_self _, fun s => ?_⟩
      rw [Nat.add_sub_cancel, Nat.add_sub_cancel_left]
      refine GdS.one (Or.inl ⟨hd, rfl⟩) ?_
      show s.length + 1 ≤ s.length + (31 - 2 * o)
      omega
    unfold rd at e
    by_cases m0 : md = 0
    · rw [if_pos m0] at e
      rw [m0]
      refine ⟨fun _ => ?_, fun z => absurd z (by decide)⟩
      by_cases k3 : tK b n i = 3
      · rw [if_pos k3] at e
        obtain ⟨j, -, e⟩ := bind_ok e
        cases e
        refine lf _ ?_
        unfold KdN
        rw [gd_last]
        obtain ⟨-, -, v, v1, v2, -⟩ := num_val2 (p := tP b n i) hB k3
        exact Or.inl ⟨rfl, v, v1, v2⟩
      rw [if_neg k3] at e
      by_cases k2 : tK b n i = 2
      · rw [if_pos k2] at e
        cases hf : fd vN (tC b n i) with
        | none => rw [hf] at e; cases e
        | some k =>
          rw [hf] at e
          obtain ⟨j, -, e⟩ := bind_ok e
          cases e
          refine lf _ ?_
          unfold KdN
          rw [gd_last]
          exact Or.inr (Or.inl ⟨rfl, k, Nat.lt_of_lt_of_le (fd_some hf).1 hv, rfl⟩)
      rw [if_neg k2] at e
      by_cases k19 : tK b n i = 19
      · rw [if_pos k19] at e
        obtain ⟨j, -, e⟩ := bind_ok e
        by_cases kj : tK b n j = 2
        · rw [if_pos kj] at e
          cases hf : fd sN (tC b n j) with
          | none => rw [hf] at e; cases e
          | some k =>
            rw [hf] at e
            have e : (if mx.getD k 0 = 0 then Except.error (4, tP b n j) else (adv' b n j).bind fun j' => _) = .ok r := e
            by_cases km : mx.getD k 0 = 0
            · rw [if_pos km] at e; cases e
            rw [if_neg km] at e
            obtain ⟨j2, -, e⟩ := bind_ok e
            cases e
            refine lf _ ?_
            unfold KdN
            rw [gd_last]
            exact Or.inr (Or.inr ⟨rfl, k, Nat.lt_of_lt_of_le (fd_some hf).1 hs, rfl⟩)
        · rw [if_neg kj] at e; cases e
      rw [if_neg k19] at e
      by_cases k21 : tK b n i = 21
      · rw [if_pos k21] at e
        by_cases ko : o = 15
        · rw [if_pos ko] at e; cases e
        rw [if_neg ko] at e
        obtain ⟨j, -, e⟩ := bind_ok e
        obtain ⟨q, e1, e⟩ := bind_ok e
        cases e
        obtain ⟨a1, a2⟩ := (ih _ _ _ _ _ _ (by omega) e1).1 (Or.inl rfl)
        show X.length < (q.2.1 ++ [(3, Int64.ofNat (q.2.1.length - 1), 0)]).length ∧ ∀ s, GdS (q.2.1 ++ [(3, Int64.ofNat (q.2.1.length - 1), 0)]) (s.length + Dpo 0 o) ((q.2.1 ++ [(3, Int64.ofNat (q.2.1.length - 1), 0)]).length - X.length) X.length s (((q.2.1 ++ [(3, Int64.ofNat (q.2.1.length - 1), 0)]).length - 1) :: s)
        have e : (q.2.1 ++ [((3, Int64.ofNat (q.2.1.length - 1), 0) : Nd)]).length = q.2.1.length + 1 := by rw [List.length_append]; rfl
        rw [e]
        refine ⟨by omega, fun s => ?_⟩
        have e2 : q.2.1.length + 1 - X.length = (q.2.1.length - X.length) + 1 := by omega
        rw [e2]
        refine GdS.tr _ _ _ _ _ _ (GdS.mo (D := s.length + Dpo 0 (o + 1)) (by show s.length + (31 - 2 * (o + 1)) ≤ s.length + (31 - 2 * o); omega) _ _ _ _ (GdS.app _ _ _ _ (by omega) (a2 s))) ?_
        have e3 : X.length + (q.2.1.length - X.length) = q.2.1.length := by omega
        rw [e3]
        refine GdS.one (Or.inr (Or.inl ?_)) (by show s.length + 1 ≤ s.length + (31 - 2 * o); omega)
        rw [gd_last]
        exact ⟨rfl, _, s, rfl, rfl, by rw [Nat.add_sub_cancel]⟩
      rw [if_neg k21] at e
      by_cases k15 : tK b n i = 15
      · rw [if_pos k15] at e
        by_cases ko : o = 15
        · rw [if_pos ko] at e; cases e
        rw [if_neg ko] at e
        obtain ⟨j, -, e⟩ := bind_ok e
        obtain ⟨q, e1, e⟩ := bind_ok e
        by_cases k16 : tK b n q.1 = 16
        · rw [if_pos k16] at e
          obtain ⟨j2, -, e⟩ := bind_ok e
          cases e
          obtain ⟨a1, a2⟩ := (ih _ _ _ _ _ _ (by omega) e1).1 (Or.inr (Or.inr rfl))
          refine ⟨a1, fun s => GdS.mo ?_ _ _ _ _ (a2 s)⟩
          show s.length + (33 - 2 * (o + 1)) ≤ s.length + (31 - 2 * o)
          omega
        · rw [if_neg k16] at e; cases e
      · rw [if_neg k15] at e; cases e
    rw [if_neg m0] at e
    have two : ∀ (md1 i1 o1 : Nat) (X1 : List Nd) (u1 : Int32) (r1 : Nat × List Nd × Int32), rd b n sN mx vN g md1 i1 o1 X1 u1 = .ok r1 → ∃ Y, r1.2.1 = X1 ++ Y := fun md1 i1 o1 X1 u1 r1 e1 => by
      obtain ⟨Y, h1, -⟩ := rd_us (by omega) _ _ _ _ _ _ _ e1
      exact ⟨Y, h1⟩
    have op : ∀ (md1 mdr j : Nat) (q r : Nat × List Nd × Int32) (k : Int32), (md1 = 0 ∧ mdr = 2 ∨ md1 = 1 ∧ mdr = 4) → rd b n sN mx vN g md1 j o X u = .ok q → rd b n sN mx vN g mdr q.1 o (q.2.1 ++ [(opS k, Int64.ofNat (X.length - 1), q.2.1.length - 1)]) q.2.2 = .ok r → 0 < X.length → ∀ s, GdS r.2.1 (s.length + Dpo mdr o) (r.2.1.length - X.length) X.length ((X.length - 1) :: s) ((r.2.1.length - 1) :: s) := fun md1 mdr j q r k h12 e1 e2 hX s => by
      obtain ⟨a1, a2⟩ := (ih _ _ _ _ _ _ ho e1).1 (by omega)
      obtain ⟨Y, hY⟩ := two _ _ _ _ _ _ e2
      obtain ⟨U, hU⟩ := two _ _ _ _ _ _ e1
      have el : (q.2.1 ++ [((opS k, Int64.ofNat (X.length - 1), q.2.1.length - 1) : Nd)]).length = q.2.1.length + 1 := by rw [List.length_append]; rfl
      have g2 := (ih _ _ _ _ _ _ ho e2).2 (by omega) (by rw [el]; exact Nat.succ_pos _) s
      rw [el, Nat.add_sub_cancel] at g2
      have lr : r.2.1.length = q.2.1.length + 1 + Y.length := by rw [hY, List.length_append, el]
      have e4 : r.2.1.length - X.length = (q.2.1.length - X.length) + (1 + (r.2.1.length - (q.2.1.length + 1))) := by omega
      rw [e4]
      have dl : Dpo md1 o + 1 ≤ Dpo mdr o := by
        rcases h12 with ⟨z1, z2⟩ | ⟨z1, z2⟩
        · rw [z1, z2]; show 31 - 2 * o + 1 ≤ 32 - 2 * o; omega
        · rw [z1, z2]; show 32 - 2 * o + 1 ≤ 33 - 2 * o; omega
      refine GdS.tr _ _ _ _ ((q.2.1.length - 1) :: (X.length - 1) :: s) _ ?_ (GdS.tr 1 _ _ _ (q.2.1.length :: s) _ ?_ ?_)
      · have a3 := a2 ((X.length - 1) :: s)
        rw [hY]
        rw [List.append_assoc]
        refine GdS.app _ _ _ _ (by omega) (GdS.mo ?_ _ _ _ _ a3)
        show s.length + 1 + Dpo md1 o ≤ s.length + Dpo mdr o
        omega
      · have e5 : X.length + (q.2.1.length - X.length) = q.2.1.length := by omega
        rw [e5]
        refine GdS.one (Or.inr (Or.inr ?_)) (by show s.length + 1 ≤ s.length + Dpo mdr o; omega)
        rw [hY, gd_app (by rw [el]; exact Nat.lt_succ_self _), gd_last]
        exact ⟨opS_in, _, _, s, rfl, rfl, rfl, rfl⟩
      · have e5 : X.length + (q.2.1.length - X.length) + 1 = q.2.1.length + 1 := by omega
        rw [e5]
        exact g2
    have cat : ∀ (md1 mdr : Nat) (q r : Nat × List Nd × Int32), (md1 = 0 ∧ mdr = 2 ∨ md1 = 1 ∧ mdr = 4) → rd b n sN mx vN g md1 i o X u = .ok q → rd b n sN mx vN g mdr q.1 o q.2.1 q.2.2 = .ok r → X.length < r.2.1.length ∧ ∀ s, GdS r.2.1 (s.length + Dpo mdr o) (r.2.1.length - X.length) X.length s ((r.2.1.length - 1) :: s) := fun md1 mdr q r h12 e1 e2 => by
      obtain ⟨a1, a2⟩ := (ih _ _ _ _ _ _ ho e1).1 (by omega)
      obtain ⟨Y, hY⟩ := two _ _ _ _ _ _ e2
      have lr : r.2.1.length = q.2.1.length + Y.length := by rw [hY, List.length_append]
      refine ⟨by omega, fun s => ?_⟩
      have g2 := (ih _ _ _ _ _ _ ho e2).2 (by omega) (by omega) s
      have e4 : r.2.1.length - X.length = (q.2.1.length - X.length) + (r.2.1.length - q.2.1.length) := by omega
      rw [e4]
      have dl : Dpo md1 o ≤ Dpo mdr o := by
        rcases h12 with ⟨z1, z2⟩ | ⟨z1, z2⟩
        · rw [z1, z2]; show 31 - 2 * o ≤ 32 - 2 * o; omega
        · rw [z1, z2]; show 32 - 2 * o ≤ 33 - 2 * o; omega
      refine GdS.tr _ _ _ _ ((q.2.1.length - 1) :: s) _ ?_ ?_
      · have a3 := a2 s
        rw [hY]
        exact GdS.app _ _ _ _ (by omega) (GdS.mo (by omega) _ _ _ _ a3)
      · have e5 : X.length + (q.2.1.length - X.length) = q.2.1.length := by omega
        rw [e5]
        exact g2
    have nil : (i, X, u) = r → (md = 2 ∨ md = 4) → ∀ s, GdS r.2.1 (s.length + Dpo md o) (r.2.1.length - X.length) X.length ((X.length - 1) :: s) ((r.2.1.length - 1) :: s) := fun e _ s => by
      rw [← e]
      show GdS X _ (X.length - X.length) _ _ _
      rw [Nat.sub_self]
      exact rfl
    by_cases m1 : md = 1
    · rw [if_pos m1] at e
      obtain ⟨q, e1, e⟩ := bind_ok e
      rw [m1]
      refine ⟨fun _ => ?_, fun z => absurd z (by decide)⟩
      exact cat 0 2 q r (Or.inl ⟨rfl, rfl⟩) e1 e
    rw [if_neg m1] at e
    by_cases m2 : md = 2
    · rw [if_pos m2] at e
      refine ⟨fun z => absurd m2 (by omega), fun _ hX s => ?_⟩
      by_cases kk : tK b n i = 22 ∨ tK b n i = 23 ∨ tK b n i = 24
      · rw [if_pos kk] at e
        obtain ⟨j, -, e⟩ := bind_ok e
        obtain ⟨q, e1, e⟩ := bind_ok e
        rw [m2]
        exact op 0 2 j q r _ (Or.inl ⟨rfl, rfl⟩) e1 e hX s
      · rw [if_neg kk] at e; exact nil (Except.ok.inj e) (Or.inl m2) s
    rw [if_neg m2] at e
    by_cases m3 : md = 3
    · rw [if_pos m3] at e
      obtain ⟨q, e1, e⟩ := bind_ok e
      rw [m3]
      refine ⟨fun _ => ?_, fun z => absurd z (by decide)⟩
      exact cat 1 4 q r (Or.inr ⟨rfl, rfl⟩) e1 e
    rw [if_neg m3] at e
    refine ⟨fun z => absurd z (by omega), fun m4 hX s => ?_⟩
    have m4 : md = 4 := by omega
    by_cases kk : tK b n i = 20 ∨ tK b n i = 21
    · rw [if_pos kk] at e
      obtain ⟨j, -, e⟩ := bind_ok e
      obtain ⟨q, e1, e⟩ := bind_ok e
      rw [m4]
      exact op 1 4 j q r _ (Or.inr ⟨rfl, rfl⟩) e1 e hX s
    · rw [if_neg kk] at e; exact nil (Except.ok.inj e) (Or.inr m4) s
end
end
section
/-! what is to be worked for each part: the reference's cells and the class's fields -/
def coS (σ : PS) : List Int32 := σ.2.1.2.2.2.2.2.1
/-- a sum of part j -/
def SuA (m : Nat) (A PA : Nat → Nat → Int32) (X : List Nd) (cs : List Int32) (j c1 c2 fo : Nat) : Prop := ∃ f c, (f ≤ c ∧ c < X.length) ∧ A c1 (40 * m + j) = Int32.ofNat (810 * m + f) ∧ A c2 (40 * m + j) = Int32.ofNat (810 * m + c) ∧ GdS X 40 (c + 1 - f) f [] [c] ∧ ∃ pr po, PA j fo = Int32.ofNat pr.length ∧ cs = pr ++ (cdL ((X.drop f).take (c + 1 - f)) ++ 0 :: po)
def ifU (f : Nat → Int32) (m : Nat) : Nat → Nat
  | 0 => 0
  | j + 1 => ifU f m j + (if f (40 * m + j) = 14 then 1 else 0)
theorem ifU_cg {f g : Nat → Int32} {m : Nat} : ∀ {j : Nat}, (∀ i, i < j → f (40 * m + i) = g (40 * m + i)) → ifU f m j = ifU g m j
  | 0, _ => rfl
  | j + 1, h => by
    unfold ifU
    rw [ifU_cg (j := j) (fun i hi => h i (by omega)), h j (by omega)]
theorem ifU_mo {f : Nat → Int32} {m : Nat} : ∀ {j i : Nat}, i ≤ j → ifU f m i ≤ ifU f m j
  | 0, i, h => by rw [Nat.le_zero.mp h]; exact Nat.le_refl _
  | j + 1, i, h => by
    rcases Nat.lt_or_eq_of_le h with q | q
    · exact Nat.le_trans (ifU_mo (j := j) (Nat.le_of_lt_succ q)) (Nat.le_add_right _ _)
    · rw [q]; exact Nat.le_refl _
def TkP (τ : Td) (m : Nat) (A PA : Nat → Nat → Int32) (X : List Nd) (cs : List Int32) (j : Nat) : Prop :=
  (PA j 3 = 0 ∧ A 58 (40 * m + j) ≠ 14 ∧ A 58 (40 * m + j) ≠ 15 ∧ (A 58 (40 * m + j) = 3 → A 65 (40 * m + j) = -1))
  ∨ (PA j 3 = 1 ∧ A 58 (40 * m + j) = 3 ∧ (∃ s, s < τ.1.length ∧ τ.2.2.1.getD s 0 ≠ 0 ∧ A 60 (40 * m + j) = Int32.ofNat s ∧ PA j 4 = Int32.ofNat s) ∧ SuA m A PA X cs j 64 65 5)
  ∨ (PA j 3 = 2 ∧ A 58 (40 * m + j) = 15 ∧ (∃ v, v < τ.2.2.2.1.length ∧ A 60 (40 * m + j) = Int32.ofNat v ∧ PA j 4 = Int32.ofNat v) ∧ SuA m A PA X cs j 64 65 5)
  ∨ (PA j 3 = 3 ∧ A 58 (40 * m + j) = 14 ∧ PA j 4 = Int32.ofNat (ifU (A 58) m j) ∧ SuA m A PA X cs j 64 65 5 ∧ SuA m A PA X cs j 66 67 6 ∧ ∃ t : Int32, (7 ≤ t ∧ t ≤ 12) ∧ PA j 7 = t ∧ A 68 (40 * m + j) = t - 7)
def TkI (τ : Td) (m : Nat) (σ : PS) : Prop := (∀ j, j < npS σ → TkP τ m σ.1.2.1 σ.2.1.1 σ.2.2.1 (coS σ) j) ∧ σ.1.1 2 = ifU (σ.1.2.1 58) m (npS σ)
def tsC (c : Nat) : Prop := c = 58 ∨ c = 60 ∨ (64 ≤ c ∧ c ≤ 68)
/-- of parts below np nothing changes -/
def TsR (m np : Nat) (σ σ' : PS) : Prop := (∀ c, tsC c → ∀ j, j < np → σ'.1.2.1 c (40 * m + j) = σ.1.2.1 c (40 * m + j)) ∧ (∀ j, j < np → ∀ f, 3 ≤ f → σ'.2.1.1 j f = σ.2.1.1 j f) ∧ (∃ Y, σ'.2.2.1 = σ.2.2.1 ++ Y) ∧ ∃ ds, coS σ' = coS σ ++ ds
section
variable {τ : Td} {m np j : Nat} {σ σ' σ1 σ2 : PS}
theorem TsR.rf : TsR m np σ σ := ⟨fun _ _ _ _ => rfl, fun _ _ _ _ => rfl, ⟨[], (List.append_nil _).symm⟩, [], (List.append_nil _).symm⟩
theorem TsR.tr (h : TsR m np σ σ1) (k : TsR m np σ1 σ2) : TsR m np σ σ2 := by
  obtain ⟨a1, a2, ⟨Y, a3⟩, ds, a4⟩ := h
  obtain ⟨b1, b2, ⟨Y', b3⟩, ds', b4⟩ := k
  exact ⟨fun c hc j hj => (b1 c hc j hj).trans (a1 c hc j hj), fun j hj f hf => (b2 j hj f hf).trans (a2 j hj f hf), ⟨Y ++ Y', by rw [b3, a3, List.append_assoc]⟩, ds ++ ds', by rw [b4, a4, List.append_assoc]⟩
theorem SuA.st {c1 c2 fo : Nat} (h : SuA m σ.1.2.1 σ.2.1.1 σ.2.2.1 (coS σ) j c1 c2 fo) (k : TsR m np σ σ') (hj : j < np) (h1 : tsC c1) (h2 : tsC c2) (h3 : 3 ≤ fo) : SuA m σ'.1.2.1 σ'.2.1.1 σ'.2.2.1 (coS σ') j c1 c2 fo := by
  obtain ⟨f, c, ⟨hf, hc⟩, e1, e2, g, pr, po, e3, e4⟩ := h
  obtain ⟨a1, a2, ⟨Y, a3⟩, ds, a4⟩ := k
  refine ⟨f, c, ⟨hf, ?_⟩, (a1 c1 h1 j hj).trans e1, (a1 c2 h2 j hj).trans e2, ?_, pr, po ++ ds, (a2 j hj fo h3).trans e3, ?_⟩
  · rw [a3, List.length_append]; omega
  · rw [a3]; exact GdS.app _ _ _ _ (by omega) g
  · rw [a4, e4, a3, List.drop_append_of_le_length (by omega), List.take_append_of_le_length (by rw [List.length_drop]; omega), List.append_assoc, List.append_assoc]
    rfl
theorem TkP.st (h : TkP τ m σ.1.2.1 σ.2.1.1 σ.2.2.1 (coS σ) j) (k : TsR m np σ σ') (hj : j < np) : TkP τ m σ'.1.2.1 σ'.2.1.1 σ'.2.2.1 (coS σ') j := by
  have c58 := k.1 58 (Or.inl rfl) j hj
  have c60 := k.1 60 (Or.inr (Or.inl rfl)) j hj
  have c65 := k.1 65 (Or.inr (Or.inr ⟨by decide, by decide⟩)) j hj
  have c68 := k.1 68 (Or.inr (Or.inr ⟨by decide, by decide⟩)) j hj
  have p3 := k.2.1 j hj 3 (by decide)
  have p4 := k.2.1 j hj 4 (by decide)
  have p7 := k.2.1 j hj 7 (by decide)
  have t64 : tsC 64 := Or.inr (Or.inr ⟨by decide, by decide⟩)
  have t65 : tsC 65 := Or.inr (Or.inr ⟨by decide, by decide⟩)
  have t66 : tsC 66 := Or.inr (Or.inr ⟨by decide, by decide⟩)
  have t67 : tsC 67 := Or.inr (Or.inr ⟨by decide, by decide⟩)
  unfold TkP at h ⊢
  rw [c58, c60, c65, c68, p3, p4, p7]
  rcases h with q | ⟨q1, q2, q3, q4⟩ | ⟨q1, q2, q3, q4⟩ | ⟨q1, q2, q3, q4, q5, q6⟩
  · exact Or.inl q
  · exact Or.inr (Or.inl ⟨q1, q2, q3, q4.st k hj t64 t65 (by decide)⟩)
  · exact Or.inr (Or.inr (Or.inl ⟨q1, q2, q3, q4.st k hj t64 t65 (by decide)⟩))
  · refine Or.inr (Or.inr (Or.inr ⟨q1, q2, ?_, q4.st k hj t64 t65 (by decide), q5.st k hj t66 t67 (by decide), q6⟩))
    rw [q3, ifU_cg (fun i hi => (k.1 58 (Or.inl rfl) i (by omega)))]
theorem TkI.st (h : TkI τ m σ) (k : TsR m (npS σ) σ σ') (e0 : npS σ' = npS σ) (e2 : σ'.1.1 2 = σ.1.1 2) : TkI τ m σ' := by
  refine ⟨fun j hj => (h.1 j (by omega)).st k (by omega), ?_⟩
  rw [e2, h.2, e0]
  exact ifU_cg (fun i hi => (k.1 58 (Or.inl rfl) i hi).symm)
theorem TkI.nw (h : TkI τ m σ) (k : TsR m (npS σ) σ σ') (e0 : npS σ' = npS σ + 1) (e2 : σ'.1.1 2 = σ.1.1 2 + (if σ'.1.2.1 58 (40 * m + npS σ) = 14 then 1 else 0)) (hn : TkP τ m σ'.1.2.1 σ'.2.1.1 σ'.2.2.1 (coS σ') (npS σ)) : TkI τ m σ' := by
  refine ⟨fun j hj => ?_, ?_⟩
  · by_cases z : j = npS σ
    · rw [z]; exact hn
    · exact (h.1 j (by omega)).st k (by omega)
  · rw [e2, h.2, e0, ifU_cg (g := σ'.1.2.1 58) (fun i hi => (k.1 58 (Or.inl rfl) i hi).symm)]
    rfl
end
/-! a relation kept by every part as it begins, and by every other step -/
section
variable {b : Nat → Int32} {n m : Nat} {τ : Td}
theorem rp_gen2 (P : PS → PS → Prop) (rf : ∀ σ, P σ σ) (tr : ∀ σ σ1 σ2, P σ σ1 → P σ1 σ2 → P σ σ2) (hlf : ∀ k w pl q i (K : List KE) σ r, K.length ≤ 15 → (k = 2 → fd τ.2.2.2.1 w ≠ none) → opnK k = false → lfM b n m τ k w (npS σ) i K (bgP m k pl q K.length (whK k w τ) σ) = .ok r → P σ r.2.1) (hhd : ∀ k w pl q i (K : List KE) σ r, K.length ≤ 14 → opnK k = true → hdM b n m τ k (npS σ) i K (bgP m k pl q K.length (whK k w τ) σ) = .ok r → P σ r.2.1) (htl : ∀ k j aw lit x i o σ r, tlM b n m τ k j aw lit x i o σ = .ok r → P σ r.2.1) (hch : ∀ lit x y i σ r, chM b n lit x y i σ = .ok r → P σ r.2.1) (hmk : ∀ σ k, k ≠ 2 → P σ (trP1 σ (mkT (trS σ) k).1)) (hhg : ∀ σ a c, P σ (hgP σ a c)) (hgu : ∀ σ g u, P σ (guP σ g u)) (hpa : ∀ σ j, P σ (paP σ j 2 8)) (hrw : ∀ σ p q, P σ (rwP p q σ)) (hfi : ∀ σ j x, P σ (fiP m j x σ)) : ∀ (g md : Nat) (K : List KE) (i : Nat) (σ : PS) (a1 a2 a3 a4 : Nat) (c1 c2 : Int32) (r : Nat × PS × Nat), md ≤ 3 → K.length ≤ 15 → (md = 3 → K.length ≤ 14) → rp b n m τ g md K i σ a1 a2 a3 a4 c1 c2 = .ok r → P σ r.2.1 := by
  have hbr : ∀ σ j a x g u, P σ (brP σ j a x g u) := fun σ j a x g u => by
    unfold brP
    refine tr _ _ _ ?_ (hgu _ _ _)
    refine tr _ _ _ ?_ (hhg _ _ _)
    split
    · exact rf _
    · exact hpa _ _
  intro g
  induction g with
  | zero => intro md K i σ a1 a2 a3 a4 c1 c2 r _ _ _ e; unfold rp at e; cases e
  | succ g ih =>
    intro md K i σ a1 a2 a3 a4 c1 c2 r hm hK hK3 e
    by_cases m2 : md = 2
    · subst m2
      rw [rp_bd] at e
      obtain ⟨u0, eok, e⟩ := bind_ok e
      obtain ⟨i1, -, e⟩ := bind_ok e
      obtain ⟨u, eb, e⟩ := bind_ok e
      cases e
      refine tr _ _ _ ?_ (hfi u.2.1 (npS σ) u.2.2)
      have hw2 : tK b n i = 2 → fd τ.2.2.2.1 (tC b n i) ≠ none := fun z1 z2 => by
        unfold okK at eok
        rw [if_pos ⟨z1, z2⟩] at eok
        cases eok
      have h14 : opnK (tK b n i) = true → K.length ≤ 14 := fun z => by
        unfold okK at eok
        by_cases c1 : tK b n i = 2 ∧ fd τ.2.2.2.1 (tC b n i) = none
        · rw [if_pos c1] at eok; cases eok
        rw [if_neg c1] at eok
        by_cases c2 : soK (tK b n i) = 99
        · rw [if_pos c2] at eok; cases eok
        rw [if_neg c2] at eok
        by_cases c3 : 40 ≤ npS σ ∨ 24 < σ.1.1 1 + paK (tK b n i)
        · rw [if_pos c3] at eok; cases eok
        rw [if_neg c3] at eok
        by_cases c4 : opnK (tK b n i) = true ∧ K.length = 15
        · rw [if_pos c4] at eok; cases eok
        have : K.length ≠ 15 := fun q => c4 ⟨z, q⟩
        omega
      generalize tK b n i = k at eb hw2 h14
      generalize tC b n i = w at eb hw2
      unfold bdM at eb
      by_cases ko : opnK k = false
      · rw [if_pos ko] at eb
        exact hlf _ _ _ _ _ _ _ _ hK hw2 ko eb
      rw [if_neg ko] at eb
      have ko : opnK k = true := by
        cases q : opnK k with
        | false => exact absurd q ko
        | true => rfl
      have h14 := h14 ko
      obtain ⟨h, eh, eb⟩ := bind_ok eb
      have q2 := tr _ _ _ (hhd _ _ _ _ _ _ _ _ h14 ko eh) (hrw h.2.1 (40 * m + npS σ) none)
      by_cases k17 : k = 17
      · rw [if_pos k17] at eb
        obtain ⟨q, e1, eb⟩ := bind_ok eb
        cases eb
        exact tr _ _ _ (tr _ _ _ q2 (ih 3 _ _ _ _ _ _ _ _ _ q (by decide) hK (fun _ => h14) e1)) (hgu _ _ _)
      rw [if_neg k17] at eb
      obtain ⟨q, e1, eb⟩ := bind_ok eb
      have hq := tr _ _ _ q2 (ih 0 _ _ _ _ _ _ _ _ _ q (by decide) (by show K.length + 1 ≤ 15; omega) (fun z => absurd z (by decide)) e1)
      by_cases k4 : k = 44 ∨ k = 58
      · rw [if_pos k4] at eb
        by_cases k46 : tK b n q.1 = 46
        · rw [if_pos k46] at eb
          obtain ⟨i2, -, eb⟩ := bind_ok eb
          obtain ⟨t, e2, eb⟩ := bind_ok eb
          have ht := ih 0 _ _ _ _ _ _ _ _ _ t (by decide) (by show K.length + 1 ≤ 15; omega) (fun z => absurd z (by decide)) e2
          exact tr _ _ _ (tr _ _ _ (tr _ _ _ hq (hrw _ _ _)) ht) (hch _ _ _ _ _ _ eb)
        · rw [if_neg k46] at eb
          exact tr _ _ _ (tr _ _ _ hq (hmk q.2.1 0 (by decide))) (hch _ _ _ _ _ _ eb)
      rw [if_neg k4] at eb
      exact tr _ _ _ hq (htl _ _ _ _ _ _ _ _ _ eb)
    by_cases m0 : md = 0
    · subst m0
      unfold rp at e
      rw [if_pos rfl] at e
      obtain ⟨q, e1, e⟩ := bind_ok e
      have hq := tr _ _ _ (hmk σ 5 (by decide)) (ih 2 _ _ _ _ _ _ _ _ _ q (by decide) hK (fun z => absurd z (by decide)) e1)
      exact tr _ _ _ (tr _ _ _ hq (hhg _ _ _)) (ih 1 _ _ _ _ _ _ _ _ _ r (by decide) hK (fun z => absurd z (by decide)) e)
    by_cases m1 : md = 1
    · subst m1
      unfold rp at e
      rw [if_neg (by decide), if_pos rfl] at e
      by_cases h13 : tK b n i = 13
      · rw [if_pos h13] at e
        obtain ⟨j, -, e⟩ := bind_ok e
        obtain ⟨q, e1, e⟩ := bind_ok e
        have hq := ih 2 _ _ _ _ _ _ _ _ _ q (by decide) hK (fun z => absurd z (by decide)) e1
        exact tr _ _ _ (tr _ _ _ hq (hhg _ _ _)) (ih 1 _ _ _ _ _ _ _ _ _ r (by decide) hK (fun z => absurd z (by decide)) e)
      · rw [if_neg h13] at e; cases e; exact rf _
    · have m3 : md = 3 := by omega
      subst m3
      have h14 := hK3 rfl
      unfold rp at e
      rw [if_neg m0, if_neg m1, if_neg m2] at e
      obtain ⟨q, e1, e⟩ := bind_ok e
      have hq := tr _ _ _ (hgu σ 0 0) (ih 0 _ _ _ _ _ _ _ _ _ q (by decide) (by show K.length + 1 ≤ 15; omega) (fun z => absurd z (by decide)) e1)
      have bn := tr _ _ _ hq (hbr q.2.1 a2 a1 q.2.2 c1 c2)
      by_cases h6 : tK b n q.1 = 6
      · rw [if_pos h6] at e
        by_cases h8 : a4 = 8
        · rw [if_pos h8] at e; cases e
        rw [if_neg h8] at e
        obtain ⟨j, -, e⟩ := bind_ok e
        have h3 := ih 3 _ _ _ _ _ _ _ _ _ r (by decide) hK (fun _ => h14) e
        exact tr _ _ _ (tr _ _ _ bn (hrw _ _ _)) h3
      · rw [if_neg h6] at e
        obtain ⟨j, -, e⟩ := bind_ok e
        cases e
        exact bn
end
end
section
/-! tasks of parts: leaves and heads -/
section
variable {b : Nat → Int32} {n m : Nat} {τ : Td} {j i o f1 f2 fo x aw lit y : Nat} {k : Int32} {w : Int64} {K : List KE} {σ σ1 σ2 : PS}
theorem so14 (h : Int32.ofNat (soK k) = 14) : k = 58 := by
  unfold soK at h
  by_cases k0 : k = 37
  · rw [if_pos k0] at h; exact absurd h (by decide)
  rw [if_neg k0] at h
  by_cases k1 : k = 38
  · rw [if_pos k1] at h; exact absurd h (by decide)
  rw [if_neg k1] at h
  by_cases k2 : k = 39
  · rw [if_pos k2] at h; exact absurd h (by decide)
  rw [if_neg k2] at h
  by_cases k3 : k = 40
  · rw [if_pos k3] at h; exact absurd h (by decide)
  rw [if_neg k3] at h
  by_cases k4 : k = 41
  · rw [if_pos k4] at h; exact absurd h (by decide)
  rw [if_neg k4] at h
  by_cases k5 : k = 42
  · rw [if_pos k5] at h; exact absurd h (by decide)
  rw [if_neg k5] at h
  by_cases k6 : k = 44
  · rw [if_pos k6] at h; exact absurd h (by decide)
  rw [if_neg k6] at h
  by_cases k7 : k = 47
  · rw [if_pos k7] at h; exact absurd h (by decide)
  rw [if_neg k7] at h
  by_cases k8 : k = 49
  · rw [if_pos k8] at h; exact absurd h (by decide)
  rw [if_neg k8] at h
  by_cases k9 : k = 50
  · rw [if_pos k9] at h; exact absurd h (by decide)
  rw [if_neg k9] at h
  by_cases k10 : k = 52
  · rw [if_pos k10] at h; exact absurd h (by decide)
  rw [if_neg k10] at h
  by_cases k11 : k = 53
  · rw [if_pos k11] at h; exact absurd h (by decide)
  rw [if_neg k11] at h
  by_cases k12 : k = 55
  · rw [if_pos k12] at h; exact absurd h (by decide)
  rw [if_neg k12] at h
  by_cases k13 : k = 57
  · rw [if_pos k13] at h; exact absurd h (by decide)
  rw [if_neg k13] at h
  by_cases k14 : k = 58
  · exact k14
  rw [if_neg k14] at h
  by_cases k15 : k = 2
  · rw [if_pos k15] at h; exact absurd h (by decide)
  rw [if_neg k15] at h
  by_cases k16 : k = 17
  · rw [if_pos k16] at h; exact absurd h (by decide)
  rw [if_neg k16] at h
  exact absurd h (by decide)
theorem so3 (h : Int32.ofNat (soK k) = 3) : k = 40 := by
  unfold soK at h
  by_cases k0 : k = 37
  · rw [if_pos k0] at h; exact absurd h (by decide)
  rw [if_neg k0] at h
  by_cases k1 : k = 38
  · rw [if_pos k1] at h; exact absurd h (by decide)
  rw [if_neg k1] at h
  by_cases k2 : k = 39
  · rw [if_pos k2] at h; exact absurd h (by decide)
  rw [if_neg k2] at h
  by_cases k3 : k = 40
  · exact k3
  rw [if_neg k3] at h
  by_cases k4 : k = 41
  · rw [if_pos k4] at h; exact absurd h (by decide)
  rw [if_neg k4] at h
  by_cases k5 : k = 42
  · rw [if_pos k5] at h; exact absurd h (by decide)
  rw [if_neg k5] at h
  by_cases k6 : k = 44
  · rw [if_pos k6] at h; exact absurd h (by decide)
  rw [if_neg k6] at h
  by_cases k7 : k = 47
  · rw [if_pos k7] at h; exact absurd h (by decide)
  rw [if_neg k7] at h
  by_cases k8 : k = 49
  · rw [if_pos k8] at h; exact absurd h (by decide)
  rw [if_neg k8] at h
  by_cases k9 : k = 50
  · rw [if_pos k9] at h; exact absurd h (by decide)
  rw [if_neg k9] at h
  by_cases k10 : k = 52
  · rw [if_pos k10] at h; exact absurd h (by decide)
  rw [if_neg k10] at h
  by_cases k11 : k = 53
  · rw [if_pos k11] at h; exact absurd h (by decide)
  rw [if_neg k11] at h
  by_cases k12 : k = 55
  · rw [if_pos k12] at h; exact absurd h (by decide)
  rw [if_neg k12] at h
  by_cases k13 : k = 57
  · rw [if_pos k13] at h; exact absurd h (by decide)
  rw [if_neg k13] at h
  by_cases k14 : k = 58
  · rw [if_pos k14] at h; exact absurd h (by decide)
  rw [if_neg k14] at h
  by_cases k15 : k = 2
  · rw [if_pos k15] at h; exact absurd h (by decide)
  rw [if_neg k15] at h
  by_cases k16 : k = 17
  · rw [if_pos k16] at h; exact absurd h (by decide)
  rw [if_neg k16] at h
  exact absurd h (by decide)
theorem su_y (hB : By b) (hv : HvT τ) (ho : o ≤ 15) {r : Nat × PS} (e : suM b n m τ j f1 f2 fo i o σ = .ok r) : ∃ Y, 0 < Y.length ∧ GdS (σ.2.2.1 ++ Y) 40 Y.length σ.2.2.1.length [] [σ.2.2.1.length + Y.length - 1] ∧ r.2.2.2.1 = σ.2.2.1 ++ Y ∧ coS r.2 = coS σ ++ (cdL Y ++ [0]) ∧ r.2.1.1 = σ.1.1 ∧ r.2.1.2.1 = up2 (up2 σ.1.2.1 f1 (40 * m + j) (Int32.ofNat (810 * m + σ.2.2.1.length))) f2 (40 * m + j) (Int32.ofNat (810 * m + (σ.2.2.1.length + Y.length - 1))) ∧ r.2.2.1.1 = up2 σ.2.1.1 j fo (Int32.ofNat (coS σ).length) := by
  unfold suM at e
  obtain ⟨q, e1, e⟩ := bind_ok e
  cases e
  obtain ⟨Y, eY, -⟩ := rd_us (by have := hv.1; omega) _ _ _ _ _ _ _ e1
  obtain ⟨a1, a2⟩ := (rd_gd hB hv.1 hv.2 _ _ _ _ _ _ _ ho e1).1 (Or.inr (Or.inr rfl))
  have a3 := a2 []
  have lY : q.2.1.length = σ.2.2.1.length + Y.length := by rw [eY, List.length_append]
  rw [lY, Nat.add_sub_cancel_left, eY] at a3
  refine ⟨Y, by omega, GdS.mo ?_ _ _ _ _ a3, eY, ?_, rfl, ?_, rfl⟩
  · show 0 + (33 - 2 * o) ≤ 40
    omega
  · show σ.2.1.2.2.2.2.2.1 ++ cdL (q.2.1.drop σ.2.2.1.length) ++ [0] = _
    rw [eY, List.drop_left, List.append_assoc]
    rfl
  · show up2 (up2 σ.1.2.1 f1 (40 * m + j) (Int32.ofNat (810 * m + σ.2.2.1.length))) f2 (40 * m + j) (Int32.ofNat (810 * m + (q.2.1.length - 1))) = _
    rw [lY]
/-- nothing but a target, or a condition -/
def Nv (m j : Nat) (σ σ1 : PS) : Prop := σ1.1.1 = σ.1.1 ∧ (∀ c x, tsC c → (c = 60 → x ≠ 40 * m + j) → σ1.1.2.1 c x = σ.1.2.1 c x) ∧ (∀ i f, 3 ≤ f → σ1.2.1.1 i f = σ.2.1.1 i f) ∧ σ1.2.2.1 = σ.2.2.1 ∧ coS σ1 = coS σ
theorem Nv.rf : Nv m j σ σ := ⟨rfl, fun _ _ _ _ => rfl, fun _ _ _ => rfl, rfl, rfl⟩
theorem Nv.t1 {T : TrT} (h : Nv m j σ σ1) : Nv m j σ (trP1 σ1 T) := h
theorem nv_t1 {T : TrT} {i x : Nat} {r : Nat × PS × Nat} (h : Nv m j σ σ1) (e : (Except.ok (i, trP1 σ1 T, x) : Except (Int32 × Nat) (Nat × PS × Nat)) = .ok r) : Nv m j σ r.2.1 := by
  have e := Except.ok.inj e
  rw [← e]
  exact h.t1
theorem nv_co {r : Nat × PS × Nat} (e : coM b n m τ j i o σ = .ok r) : Nv m y σ r.2.1 := by
  unfold coM at e
  obtain ⟨q, e1, e⟩ := bind_ok e
  cases e
  refine ⟨rfl, fun c x hc _ => ?_, fun _ _ _ => rfl, rfl, rfl⟩
  show up2 (up2 σ.1.2.1 62 _ _) 63 _ _ c x = _
  rw [up2_row (by unfold tsC at hc; omega), up2_row (by unfold tsC at hc; omega)]
theorem nv_at {r : Nat × PS × Nat × Bool} (e : atM b n m τ j i o σ = .ok r) : Nv m y σ r.2.1 := by
  unfold atM at e
  obtain ⟨q, -, e⟩ := bind_ok e
  obtain ⟨t, e1, e⟩ := bind_ok e
  cases e
  have h := nv_co (y := y) e1
  by_cases z : q.2 = true
  · rw [if_pos z] at h
    obtain ⟨a1, a2, a3, a4, a5⟩ := h
    refine ⟨a1, fun c x hc h60 => (a2 c x hc h60).trans ?_, a3, a4, a5⟩
    show up2 σ.1.2.1 61 _ _ c x = _
    rw [up2_row (by unfold tsC at hc; omega)]
  · rw [if_neg z] at h; exact h
/-- what a beginning part is -/
theorem bg_k {pl q d : Nat} {wh : Int32} : TsR m (npS σ) σ (bgP m k pl q d wh σ) ∧ npS (bgP m k pl q d wh σ) = npS σ + 1 ∧ (bgP m k pl q d wh σ).1.1 2 = σ.1.1 2 + (if k = 58 then 1 else 0) ∧ ((bgP m k pl q d wh σ).1.2.1 58 (40 * m + npS σ) = Int32.ofNat (soK k) ∧ (bgP m k pl q d wh σ).1.2.1 60 (40 * m + npS σ) = wh ∧ (bgP m k pl q d wh σ).1.2.1 65 (40 * m + npS σ) = -1) ∧ (bgP m k pl q d wh σ).2.1.1 (npS σ) 3 = 0 := by
  have hl : ∀ (A : Nat → Nat → Int32) (p : Nat) c x, tsC c → lkA p q A c x = A c x := fun A p c x hc => by
    unfold lkA
    unfold tsC at hc
    split
    · rw [up2_row (by omega)]
    · rw [up2_row (by omega)]
  have ha : ∀ c x, tsC c → (bgP m k pl q d wh σ).1.2.1 c x = up2 (up2 (up2 (up2 (up2 (up2 (up2 (up2 (up2 σ.1.2.1 58 (40 * m + npS σ) (Int32.ofNat (soK k))) 59 (40 * m + npS σ) (Int32.ofNat pl)) 60 (40 * m + npS σ) wh) 61 (40 * m + npS σ) 0) 63 (40 * m + npS σ) (-1)) 65 (40 * m + npS σ) (-1)) 67 (40 * m + npS σ) (-1)) 69 (40 * m + npS σ) (-1)) 70 (40 * m + npS σ) (-1) c x := fun c x hc => by
    show bgA (40 * m + npS σ) (soK k) pl q wh σ.1.2.1 c x = _
    unfold bgA
    rw [up2_row (show c ≠ 74 by unfold tsC at hc; omega), hl _ _ _ _ hc]
  refine ⟨⟨fun c hc j hj => ?_, fun j hj f _ => ?_, ⟨[], (List.append_nil _).symm⟩, [], (List.append_nil _).symm⟩, ?_, ?_, ⟨?_, ?_, ?_⟩, ?_⟩
  · rw [ha c _ hc]
    have hn : ∀ c', ¬ (c = c' ∧ 40 * m + j = 40 * m + npS σ) := fun c' z => by omega
    rw [up2_ne (hn _), up2_ne (hn _), up2_ne (hn _), up2_ne (hn _), up2_ne (hn _), up2_ne (hn _), up2_ne (hn _), up2_ne (hn _), up2_ne (hn _)]
  · show va_up σ.2.1.1 (npS σ) _ j f = _
    unfold va_up
    rw [if_neg (show ¬ j = npS σ by omega)]
  · rfl
  · show va_up (va_up (va_up (va_up σ.1.1 0 (σ.1.1 0 + 1)) 1 (σ.1.1 1 + paK k)) 2 (σ.1.1 2 + (if k = 58 then 1 else 0))) 3 (if d + 1 ≤ σ.1.1 3 then σ.1.1 3 else d + 1) 2 = _
    unfold va_up
    rw [if_neg (by decide), if_pos rfl]
  · rw [ha 58 _ (Or.inl rfl), up2_row (by decide), up2_row (by decide), up2_row (by decide), up2_row (by decide), up2_row (by decide), up2_row (by decide), up2_row (by decide), up2_row (by decide), up2_eq]
  · rw [ha 60 _ (Or.inr (Or.inl rfl)), up2_row (by decide), up2_row (by decide), up2_row (by decide), up2_row (by decide), up2_row (by decide), up2_row (by decide), up2_eq]
  · rw [ha 65 _ (Or.inr (Or.inr ⟨by decide, by decide⟩)), up2_row (by decide), up2_row (by decide), up2_row (by decide), up2_eq]
  · show va_up σ.2.1.1 (npS σ) _ (npS σ) 3 = _
    unfold va_up
    rw [if_pos rfl]
    rfl
theorem Nv.ts (h : Nv m j σ σ1) : TsR m j σ σ1 := ⟨fun c hc i hi => h.2.1 c _ hc (fun _ => by omega), fun i _ f hf => h.2.2.1 i f hf, ⟨[], by rw [List.append_nil]; exact h.2.2.2.1⟩, [], by rw [List.append_nil]; exact h.2.2.2.2⟩
/-- an idle part -/
theorem tk_idle {pl q d : Nat} {wh : Int32} (hT : TkI τ m σ) (h : Nv m (npS σ) (bgP m k pl q d wh σ) σ1) (h58 : k ≠ 58) (h2 : k ≠ 2) : TkI τ m σ1 := by
  obtain ⟨a1, a2, a3, ⟨a4, a5, a6⟩, a7⟩ := bg_k (m := m) (k := k) (pl := pl) (q := q) (d := d) (wh := wh) (σ := σ)
  have e58 : σ1.1.2.1 58 (40 * m + npS σ) = Int32.ofNat (soK k) := (h.2.1 58 _ (Or.inl rfl) (fun z => absurd z (by decide))).trans a4
  have e65 : σ1.1.2.1 65 (40 * m + npS σ) = -1 := (h.2.1 65 _ (Or.inr (Or.inr ⟨by decide, by decide⟩)) (fun z => absurd z (by decide))).trans a6
  refine hT.nw (a1.tr h.ts) ?_ ?_ (Or.inl ⟨(h.2.2.1 _ 3 (Nat.le_refl _)).trans a7, ?_, ?_, fun _ => e65⟩)
  · show σ1.1.1 0 = _
    rw [h.1]; exact a2
  · rw [h.1, a3, if_neg h58, e58, if_neg (fun z => h58 (so14 z))]
  · rw [e58]; exact fun z => h58 (so14 z)
  · rw [e58]; exact fun z => h2 (so15 z)
/-- a new sum -/
theorem SuA.nw {A PA : Nat → Nat → Int32} {X Y Z : List Nd} {cs ds : List Int32} {c1 c2 : Nat} (hY : 0 < Y.length) (g : GdS (X ++ Y) 40 Y.length X.length [] [X.length + Y.length - 1]) (e1 : A c1 (40 * m + j) = Int32.ofNat (810 * m + X.length)) (e2 : A c2 (40 * m + j) = Int32.ofNat (810 * m + (X.length + Y.length - 1))) (e3 : PA j fo = Int32.ofNat cs.length) : SuA m A PA (X ++ Y ++ Z) (cs ++ (cdL Y ++ [0]) ++ ds) j c1 c2 fo := by
  refine ⟨X.length, X.length + Y.length - 1, ⟨by omega, by rw [List.length_append, List.length_append]; omega⟩, e1, e2, ?_, cs, ds, e3, ?_⟩
  · have e : X.length + Y.length - 1 + 1 - X.length = Y.length := by omega
    rw [e]
    exact GdS.app _ _ _ _ (by rw [List.length_append]; omega) g
  · have e : X.length + Y.length - 1 + 1 - X.length = Y.length := by omega
    rw [e, List.append_assoc X, List.drop_left, List.take_left, List.append_assoc, List.append_assoc]
    rfl
theorem emM_c {r : Nat × PS × Nat} (hB : By b) (hv : HvT τ) (ho : o ≤ 15) (e : emM b n m τ k j i o σ = .ok r) : Nv m j σ r.2.1 ∨ (k = 40 ∧ ∃ s Y, s < τ.1.length ∧ τ.2.2.1.getD s 0 ≠ 0 ∧ 0 < Y.length ∧ GdS (σ.2.2.1 ++ Y) 40 Y.length σ.2.2.1.length [] [σ.2.2.1.length + Y.length - 1] ∧ r.2.1.2.2.1 = σ.2.2.1 ++ Y ∧ coS r.2.1 = coS σ ++ (cdL Y ++ [0]) ∧ r.2.1.1.1 = σ.1.1 ∧ r.2.1.1.2.1 = up2 (up2 (up2 σ.1.2.1 60 (40 * m + j) (Int32.ofNat s)) 64 (40 * m + j) (Int32.ofNat (810 * m + σ.2.2.1.length))) 65 (40 * m + j) (Int32.ofNat (810 * m + (σ.2.2.1.length + Y.length - 1))) ∧ r.2.1.2.1.1 = up2 (up2 (up2 σ.2.1.1 j 3 1) j 4 (Int32.ofNat s)) j 5 (Int32.ofNat (coS σ).length)) := by
  unfold emM at e
  by_cases h1 : tK b n i = 2
  · rw [if_pos h1] at e
    cases h2 : fd τ.1 (tC b n i) with
    | none => rw [h2] at e; cases e
    | some s =>
      rw [h2] at e
      have e : (if τ.2.1.getD s 0 = 30 then Except.error (4, tP b n i) else (adv' b n i).bind fun i2 => _) = .ok r := e
      by_cases h3 : τ.2.1.getD s 0 = 30
      · rw [if_pos h3] at e; cases e
      rw [if_neg h3] at e
      obtain ⟨i2, -, e⟩ := bind_ok e
      by_cases h4 : τ.2.2.1.getD s 0 = 0
      · rw [if_pos h4] at e
        by_cases h5 : k = 40 ∧ tK b n i2 = 15
        · rw [if_pos h5] at e; cases e
        · rw [if_neg h5] at e; cases e
          refine Or.inl ⟨rfl, fun c x hc h60 => ?_, fun _ _ _ => rfl, rfl, rfl⟩
          show up2 σ.1.2.1 60 (40 * m + j) (Int32.ofNat s) c x = _
          rw [up2_ne (fun z => h60 z.1 z.2)]
      · rw [if_neg h4] at e
        by_cases h5 : k = 40 ∧ tK b n i2 = 15
        · rw [if_pos h5] at e
          by_cases h6 : o = 15
          · rw [if_pos h6] at e; cases e
          rw [if_neg h6] at e
          obtain ⟨i3, -, e⟩ := bind_ok e
          obtain ⟨q, e1, e⟩ := bind_ok e
          obtain ⟨i4, -, e⟩ := bind_ok e
          cases e
          obtain ⟨Y, a1, a2, a3, a4, a5, a6, a7⟩ := su_y hB hv (by omega) e1
          exact Or.inr ⟨h5.1, s, Y, (fd_some h2).1, h4, a1, a2, a3, a4, a5, a6, a7⟩
        · rw [if_neg h5] at e; cases e
  · rw [if_neg h1] at e; cases e
theorem tk_lf {pl q : Nat} (hB : By b) (hv : HvT τ) (hK : K.length ≤ 15) (hw : k = 2 → fd τ.2.2.2.1 w ≠ none) (hop : opnK k = false) {r : Nat × PS × Nat} (e : lfM b n m τ k w (npS σ) i K (bgP m k pl q K.length (whK k w τ) σ) = .ok r) (hT : TkI τ m σ) : TkI τ m r.2.1 := by
  have h58 : k ≠ 58 := fun z => by rw [z] at hop; exact absurd hop (by decide)
  have hbg := bg_k (m := m) (k := k) (pl := pl) (q := q) (d := K.length) (wh := whK k w τ) (σ := σ)
  have hid : k ≠ 2 → Nv m (npS σ) (bgP m k pl q K.length (whK k w τ) σ) r.2.1 → TkI τ m r.2.1 := fun h2 h => tk_idle hT h h58 h2
  have hemi : ∀ {u : Nat × PS × Nat}, k ≠ 2 → emM b n m τ k (npS σ) i K.length (bgP m k pl q K.length (whK k w τ) σ) = .ok u → (∃ T, r.2.1 = trP1 u.2.1 T) → TkI τ m r.2.1 := fun {u} h2 e1 ⟨T, er⟩ => by
    rcases emM_c hB hv hK e1 with hh | ⟨k40, s, Y, s1, s2, a1, a2, a3, a4, a5, a6, a7⟩
    · exact hid h2 (by rw [er]; exact hh.t1)
    · obtain ⟨b1, b2, b3, ⟨b4, b5, b6⟩, b7⟩ := hbg
      rw [er]
      generalize bgP m k pl q K.length (whK k w τ) σ = s0 at *
      have t1 : TsR m (npS σ) s0 (trP1 u.2.1 T) := by
        refine ⟨fun c hc j hj => ?_, fun j hj f _ => ?_, ⟨Y, a3⟩, _, a4⟩
        · show u.2.1.1.2.1 c (40 * m + j) = _
          rw [a6, up2_ne (fun z => by omega), up2_ne (fun z => by omega), up2_ne (fun z => by omega)]
        · show u.2.1.2.1.1 j f = _
          rw [a7, up2_ne (fun z => by omega), up2_ne (fun z => by omega), up2_ne (fun z => by omega)]
      have c58 : (trP1 u.2.1 T).1.2.1 58 (40 * m + npS σ) = 3 := by
        show u.2.1.1.2.1 58 (40 * m + npS σ) = _
        rw [a6, up2_row (by decide), up2_row (by decide), up2_row (by decide), b4, k40]
        decide
      refine hT.nw (b1.tr t1) ?_ ?_ (Or.inr (Or.inl ⟨?_, c58, ⟨s, s1, s2, ?_, ?_⟩, ?_⟩))
      · show u.2.1.1.1 0 = _
        rw [a5]; exact b2
      · rw [c58]
        show u.2.1.1.1 2 = _
        rw [a5, b3, if_neg h58]
        rfl
      · show u.2.1.2.1.1 (npS σ) 3 = _
        rw [a7, up2_ne (fun z => by omega), up2_ne (fun z => by omega), up2_eq]
      · show u.2.1.1.2.1 60 (40 * m + npS σ) = _
        rw [a6, up2_row (by decide), up2_row (by decide), up2_eq]
      · show u.2.1.2.1.1 (npS σ) 4 = _
        rw [a7, up2_ne (fun z => by omega), up2_eq]
      · have eX : (trP1 u.2.1 T).2.2.1 = s0.2.2.1 ++ Y ++ [] := by rw [List.append_nil]; exact a3
        have eC : coS (trP1 u.2.1 T) = coS s0 ++ (cdL Y ++ [0]) ++ [] := by rw [List.append_nil]; exact a4
        rw [eX, eC]
        refine SuA.nw a1 a2 ?_ ?_ ?_
        · show u.2.1.1.2.1 64 (40 * m + npS σ) = _
          rw [a6, up2_row (by decide), up2_eq]
        · show u.2.1.1.2.1 65 (40 * m + npS σ) = _
          rw [a6, up2_eq]
        · show u.2.1.2.1.1 (npS σ) 5 = _
          rw [a7, up2_eq]
  unfold lfM at e
  by_cases k1 : k = 38
  · rw [if_pos k1] at e; exact hid (by rw [k1]; decide) (nv_t1 Nv.rf e)
  rw [if_neg k1] at e
  by_cases k2 : k = 39
  · rw [if_pos k2] at e; exact hid (by rw [k2]; decide) (nv_t1 Nv.rf e)
  rw [if_neg k2] at e
  by_cases k3 : k = 40
  · rw [if_pos k3] at e
    obtain ⟨u, e1, e⟩ := bind_ok e
    rw [← k3] at e1
    refine hemi (by rw [k3]; decide) e1 ?_
    have e := Except.ok.inj e
    rw [← e]
    exact ⟨_, rfl⟩
  rw [if_neg k3] at e
  by_cases k4 : k = 41
  · rw [if_pos k4] at e
    obtain ⟨u, e1, e⟩ := bind_ok e
    rw [← k4] at e1
    refine hemi (by rw [k4]; decide) e1 ?_
    have e := Except.ok.inj e
    rw [← e]
    exact ⟨_, rfl⟩
  rw [if_neg k4] at e
  by_cases k5 : k = 47
  · rw [if_pos k5] at e
    obtain ⟨u, e1, e⟩ := bind_ok e
    exact hid (by rw [k5]; decide) (nv_t1 (nv_at e1) e)
  rw [if_neg k5] at e
  by_cases k6 : k = 57
  · rw [if_pos k6] at e
    by_cases h1 : tK b n i = 2
    · rw [if_pos h1] at e
      cases h2 : trW K (tC b n i) with
      | none => rw [h2] at e; cases e
      | some t =>
        rw [h2] at e
        obtain ⟨i2, -, e⟩ := bind_ok e
        refine hid (by rw [k6]; decide) (nv_t1 (σ1 := raP (bgP m k pl q K.length (whK k w τ) σ) (up2 (bgP m k pl q K.length (whK k w τ) σ).1.2.1 60 (40 * m + npS σ) (Int32.ofNat t.2))) ⟨rfl, fun c x hc h60 => ?_, fun _ _ _ => rfl, rfl, rfl⟩ e)
        show up2 _ 60 (40 * m + npS σ) (Int32.ofNat t.2) c x = _
        rw [up2_ne (fun z => h60 z.1 z.2)]
    · rw [if_neg h1] at e; cases e
  rw [if_neg k6] at e
  by_cases k7 : k = 2
  · rw [if_pos k7] at e
    obtain ⟨i2, -, e⟩ := bind_ok e
    obtain ⟨u, e1, e⟩ := bind_ok e
    cases hf : fd τ.2.2.2.1 w with
    | none => exact absurd hf (hw k7)
    | some v =>
      have hwh : whK k w τ = Int32.ofNat v := by
        unfold whK
        rw [if_pos k7, hf]
        rfl
      obtain ⟨b1, b2, b3, ⟨b4, b5, b6⟩, b7⟩ := hbg
      have b5 := b5.trans hwh
      rw [hf] at e1
      obtain ⟨Y, a1, a2, a3, a4, a5, a6, a7⟩ := su_y hB hv hK e1
      have e := Except.ok.inj e
      rw [← e]
      show TkI τ m (trP1 u.2 (mkT (trS u.2) 0).1)
      generalize (mkT (trS u.2) 0).1 = T
      generalize bgP m k pl q K.length (whK k w τ) σ = s0 at *
      have a3 : u.2.2.2.1 = s0.2.2.1 ++ Y := a3
      have a2 : GdS (s0.2.2.1 ++ Y) 40 Y.length s0.2.2.1.length [] [s0.2.2.1.length + Y.length - 1] := a2
      have a4 : coS u.2 = coS s0 ++ (cdL Y ++ [0]) := a4
      have a5 : u.2.1.1 = s0.1.1 := a5
      have a6 : u.2.1.2.1 = up2 (up2 s0.1.2.1 64 (40 * m + npS σ) (Int32.ofNat (810 * m + s0.2.2.1.length))) 65 (40 * m + npS σ) (Int32.ofNat (810 * m + (s0.2.2.1.length + Y.length - 1))) := a6
      have a7 : u.2.2.1.1 = up2 (up2 (up2 s0.2.1.1 (npS σ) 3 2) (npS σ) 4 (Int32.ofNat v)) (npS σ) 5 (Int32.ofNat (coS s0).length) := a7
      have t1 : TsR m (npS σ) s0 (trP1 u.2 T) := by
        refine ⟨fun c hc j hj => ?_, fun j hj f _ => ?_, ⟨Y, a3⟩, _, a4⟩
        · show u.2.1.2.1 c (40 * m + j) = _
          rw [a6, up2_ne (fun z => by omega), up2_ne (fun z => by omega)]
        · show u.2.2.1.1 j f = _
          rw [a7, up2_ne (fun z => by omega), up2_ne (fun z => by omega), up2_ne (fun z => by omega)]
      have c58 : (trP1 u.2 T).1.2.1 58 (40 * m + npS σ) = 15 := by
        show u.2.1.2.1 58 (40 * m + npS σ) = _
        rw [a6, up2_row (by decide), up2_row (by decide), b4, k7]
        decide
      refine hT.nw (b1.tr t1) ?_ ?_ (Or.inr (Or.inr (Or.inl ⟨?_, c58, ⟨v, (fd_some hf).1, ?_, ?_⟩, ?_⟩)))
      · show u.2.1.1 0 = _
        rw [a5]; exact b2
      · rw [c58]
        show u.2.1.1 2 = _
        rw [a5, b3, if_neg h58]
        rfl
      · show u.2.2.1.1 (npS σ) 3 = _
        rw [a7, up2_ne (fun z => by omega), up2_ne (fun z => by omega), up2_eq]
      · show u.2.1.2.1 60 (40 * m + npS σ) = _
        rw [a6, up2_row (by decide), up2_row (by decide)]; exact b5
      · show u.2.2.1.1 (npS σ) 4 = _
        rw [a7, up2_ne (fun z => by omega), up2_eq]
      · have eX : (trP1 u.2 T).2.2.1 = s0.2.2.1 ++ Y ++ [] := by rw [List.append_nil]; exact a3
        have eC : coS (trP1 u.2 T) = coS s0 ++ (cdL Y ++ [0]) ++ [] := by rw [List.append_nil]; exact a4
        rw [eX, eC]
        refine SuA.nw a1 a2 ?_ ?_ ?_
        · show u.2.1.2.1 64 (40 * m + npS σ) = _
          rw [a6, up2_row (by decide), up2_eq]
        · show u.2.1.2.1 65 (40 * m + npS σ) = _
          rw [a6, up2_eq]
        · show u.2.2.1.1 (npS σ) 5 = _
          rw [a7, up2_eq]
  rw [if_neg k7] at e
  exact hid k7 (nv_t1 Nv.rf e)
theorem tk_hd {pl q : Nat} (hB : By b) (hv : HvT τ) (hK : K.length ≤ 14) (hop : opnK k = true) {r : Nat × PS × Nat × Bool × Nat × Option Int64} (e : hdM b n m τ k (npS σ) i K (bgP m k pl q K.length (whK k w τ) σ) = .ok r) (hT : TkI τ m σ) : TkI τ m r.2.1 := by
  have h2 : k ≠ 2 := fun z => by rw [z] at hop; exact absurd hop (by decide)
  have hbg := bg_k (m := m) (k := k) (pl := pl) (q := q) (d := K.length) (wh := whK k w τ) (σ := σ)
  have hid : k ≠ 58 → Nv m (npS σ) (bgP m k pl q K.length (whK k w τ) σ) r.2.1 → TkI τ m r.2.1 := fun h58 h => tk_idle hT h h58 h2
  unfold hdM at e
  by_cases k1 : k = 44
  · rw [if_pos k1] at e
    obtain ⟨y, e1, e⟩ := bind_ok e
    obtain ⟨i2, -, e⟩ := bind_ok e
    have h := nv_co (y := npS σ) e1
    cases e; exact hid (by rw [k1]; decide) h
  rw [if_neg k1] at e
  by_cases k2 : k = 49
  · rw [if_pos k2] at e; cases e; exact hid (by rw [k2]; decide) Nv.rf
  rw [if_neg k2] at e
  by_cases k3 : k = 50
  · rw [if_pos k3] at e
    obtain ⟨i2, -, e⟩ := bind_ok e
    cases e; exact hid (by rw [k3]; decide) Nv.rf
  rw [if_neg k3] at e
  by_cases k4 : k = 53
  · rw [if_pos k4] at e
    obtain ⟨y, e1, e⟩ := bind_ok e
    obtain ⟨i2, -, e⟩ := bind_ok e
    have h := nv_at (y := npS σ) e1
    cases e; exact hid (by rw [k4]; decide) h
  rw [if_neg k4] at e
  by_cases k5 : k = 55
  · rw [if_pos k5] at e
    by_cases h1 : tK b n i = 2
    · rw [if_pos h1] at e
      by_cases h3 : toT (tC b n i) τ = true ∨ (trW K (tC b n i)).isSome = true
      · rw [if_pos h3] at e; cases e
      rw [if_neg h3] at e
      obtain ⟨i2, -, e⟩ := bind_ok e
      obtain ⟨i3, -, e⟩ := bind_ok e
      cases e; exact hid (by rw [k5]; decide) Nv.rf
    · rw [if_neg h1] at e; cases e
  rw [if_neg k5] at e
  by_cases k6 : k = 58
  · rw [if_pos k6] at e
    obtain ⟨u, e1, e⟩ := bind_ok e
    by_cases h1 : 7 ≤ tK b n u.1 ∧ tK b n u.1 ≤ 12
    · rw [if_pos h1] at e
      obtain ⟨i2, -, e⟩ := bind_ok e
      obtain ⟨v, e2, e⟩ := bind_ok e
      obtain ⟨i3, -, e⟩ := bind_ok e
      obtain ⟨b1, b2, b3, ⟨b4, b5, b6⟩, b7⟩ := hbg
      obtain ⟨Y, a1, a2, a3, a4, a5, a6, a7⟩ := su_y hB hv (by omega) e1
      obtain ⟨V, c1, c2, c3, c4, c5, c6, c7⟩ := su_y hB hv (by omega) e2
      have e := Except.ok.inj e
      rw [← e]
      generalize tK b n u.1 = t at *
      generalize bgP m k pl q K.length (whK k w τ) σ = s0 at *
      have a3 : u.2.2.2.1 = s0.2.2.1 ++ Y := a3
      have a2 : GdS (s0.2.2.1 ++ Y) 40 Y.length s0.2.2.1.length [] [s0.2.2.1.length + Y.length - 1] := a2
      have a4 : coS u.2 = coS s0 ++ (cdL Y ++ [0]) := a4
      have a5 : u.2.1.1 = s0.1.1 := a5
      have a6 : u.2.1.2.1 = up2 (up2 s0.1.2.1 64 (40 * m + npS σ) (Int32.ofNat (810 * m + s0.2.2.1.length))) 65 (40 * m + npS σ) (Int32.ofNat (810 * m + (s0.2.2.1.length + Y.length - 1))) := a6
      have a7 : u.2.2.1.1 = up2 (up2 (up2 s0.2.1.1 (npS σ) 3 3) (npS σ) 4 (Int32.ofNat (s0.1.1 2 - 1))) (npS σ) 5 (Int32.ofNat (coS s0).length) := a7
      have c2 : GdS (u.2.2.2.1 ++ V) 40 V.length u.2.2.2.1.length [] [u.2.2.2.1.length + V.length - 1] := c2
      have c3 : v.2.2.2.1 = u.2.2.2.1 ++ V := c3
      have c4 : coS v.2 = coS u.2 ++ (cdL V ++ [0]) := c4
      have c5 : v.2.1.1 = u.2.1.1 := c5
      have c6 : v.2.1.2.1 = up2 (up2 (up2 u.2.1.2.1 68 (40 * m + npS σ) (t - 7)) 66 (40 * m + npS σ) (Int32.ofNat (810 * m + u.2.2.2.1.length))) 67 (40 * m + npS σ) (Int32.ofNat (810 * m + (u.2.2.2.1.length + V.length - 1))) := c6
      have c7 : v.2.2.1.1 = up2 (up2 u.2.2.1.1 (npS σ) 7 t) (npS σ) 6 (Int32.ofNat (coS u.2).length) := c7
      have hA : ∀ c, c ≠ 64 → c ≠ 65 → c ≠ 66 → c ≠ 67 → c ≠ 68 → v.2.1.2.1 c = s0.1.2.1 c := fun c z1 z2 z3 z4 z5 => by
        rw [c6, up2_row z4, up2_row z3, up2_row z5, a6, up2_row z2, up2_row z1]
      have t1 : TsR m (npS σ) s0 v.2 := by
        refine ⟨fun c hc j hj => ?_, fun j hj f _ => ?_, ⟨Y ++ V, by rw [c3, a3, List.append_assoc]⟩, _, by rw [c4, a4, List.append_assoc]⟩
        · rw [c6, up2_ne (fun z => by omega), up2_ne (fun z => by omega), up2_ne (fun z => by omega), a6, up2_ne (fun z => by omega), up2_ne (fun z => by omega)]
        · rw [c7, up2_ne (fun z => by omega), up2_ne (fun z => by omega), a7, up2_ne (fun z => by omega), up2_ne (fun z => by omega), up2_ne (fun z => by omega)]
      have c58 : v.2.1.2.1 58 (40 * m + npS σ) = 14 := by
        rw [hA 58 (by decide) (by decide) (by decide) (by decide) (by decide), b4, k6]
        decide
      have hN : TkI τ m v.2 := by
        refine hT.nw (b1.tr t1) ?_ ?_ (Or.inr (Or.inr (Or.inr ⟨?_, c58, ?_, ?_, ?_, t, h1, ?_, ?_⟩)))
        · show v.2.1.1 0 = _
          rw [c5, a5]; exact b2
        · rw [c58, if_pos rfl, c5, a5, b3, if_pos k6]
        · rw [c7, up2_ne (fun z => by omega), up2_ne (fun z => by omega), a7, up2_ne (fun z => by omega), up2_ne (fun z => by omega), up2_eq]
        · rw [c7, up2_ne (fun z => by omega), up2_ne (fun z => by omega), a7, up2_ne (fun z => by omega), up2_eq, b3, if_pos k6, Nat.add_sub_cancel, hT.2, ifU_cg (fun i hi => ((b1.tr t1).1 58 (Or.inl rfl) i hi).symm)]
        · have eX : v.2.2.2.1 = s0.2.2.1 ++ Y ++ V := by rw [c3, a3]
          have eC : coS v.2 = coS s0 ++ (cdL Y ++ [0]) ++ (cdL V ++ [0]) := by rw [c4, a4]
          rw [eX, eC]
          refine SuA.nw a1 a2 ?_ ?_ ?_
          · rw [c6, up2_row (by decide), up2_row (by decide), up2_row (by decide), a6, up2_row (by decide), up2_eq]
          · rw [c6, up2_row (by decide), up2_row (by decide), up2_row (by decide), a6, up2_eq]
          · rw [c7, up2_ne (fun z => by omega), up2_ne (fun z => by omega), a7, up2_eq]
        · have eX : v.2.2.2.1 = u.2.2.2.1 ++ V ++ [] := by rw [List.append_nil]; exact c3
          have eC : coS v.2 = coS u.2 ++ (cdL V ++ [0]) ++ [] := by rw [List.append_nil]; exact c4
          rw [eX, eC]
          refine SuA.nw c1 c2 ?_ ?_ ?_
          · rw [c6, up2_row (by decide), up2_eq]
          · rw [c6, up2_eq]
          · rw [c7, up2_eq]
        · rw [c7, up2_ne (fun z => by omega), up2_eq]
        · rw [c6, up2_row (by decide), up2_row (by decide), up2_eq]
      exact hN
    · rw [if_neg h1] at e; cases e
  rw [if_neg k6] at e
  by_cases k7 : k = 17
  · rw [if_pos k7] at e
    cases e; exact hid k6 Nv.rf.t1
  rw [if_neg k7] at e
  cases e; exact hid k6 Nv.rf
end
end
section
/-! tasks of parts: all that is read -/
/-- nothing that tasks need -/
def Nw0 (σ σ1 : PS) : Prop := (σ1.1.1 0 = σ.1.1 0 ∧ σ1.1.1 2 = σ.1.1 2) ∧ (∀ c x, tsC c → σ1.1.2.1 c x = σ.1.2.1 c x) ∧ (∀ i f, 3 ≤ f → σ1.2.1.1 i f = σ.2.1.1 i f) ∧ σ1.2.2.1 = σ.2.2.1 ∧ coS σ1 = coS σ
section
variable {b : Nat → Int32} {n m : Nat} {τ : Td} {σ σ1 σ2 : PS}
theorem Nw0.rf : Nw0 σ σ := ⟨⟨rfl, rfl⟩, fun _ _ _ => rfl, fun _ _ _ => rfl, rfl, rfl⟩
theorem Nw0.tr (h : Nw0 σ σ1) (k : Nw0 σ1 σ2) : Nw0 σ σ2 := ⟨⟨k.1.1.trans h.1.1, k.1.2.trans h.1.2⟩, fun c x hc => (k.2.1 c x hc).trans (h.2.1 c x hc), fun i f hf => (k.2.2.1 i f hf).trans (h.2.2.1 i f hf), k.2.2.2.1.trans h.2.2.2.1, k.2.2.2.2.trans h.2.2.2.2⟩
theorem Nw0.of (h : ∀ y, Nv m y σ σ1) : Nw0 σ σ1 := by
  refine ⟨⟨by rw [(h 0).1], by rw [(h 0).1]⟩, fun c x hc => (h (x + 1)).2.1 c x hc (fun _ => by omega), (h 0).2.2.1, (h 0).2.2.2.1, (h 0).2.2.2.2⟩
theorem Nw0.tk (h : Nw0 σ σ1) (hT : TkI τ m σ) : TkI τ m σ1 := hT.st ⟨fun c hc j _ => h.2.1 c _ hc, fun j _ f hf => h.2.2.1 j f hf, ⟨[], by rw [List.append_nil]; exact h.2.2.2.1⟩, [], by rw [List.append_nil]; exact h.2.2.2.2⟩ h.1.1 h.1.2
theorem Nw0.t1 {T : TrT} (h : Nw0 σ σ1) : Nw0 σ (trP1 σ1 T) := h
theorem Nw0.pa {j f : Nat} {v : Int32} (h : Nw0 σ σ1) (hf : f < 3) : Nw0 σ (paP σ1 j f v) := by
  refine ⟨h.1, h.2.1, fun i f' hf' => ?_, h.2.2.2⟩
  show up2 σ1.2.1.1 j f v i f' = _
  rw [up2_ne (fun z => by omega)]
  exact h.2.2.1 i f' hf'
theorem Nw0.ra {A : Nat → Nat → Int32} (h : Nw0 σ σ1) (hA : ∀ c x, tsC c → A c x = σ1.1.2.1 c x) : Nw0 σ (raP σ1 A) := ⟨h.1, fun c x hc => (hA c x hc).trans (h.2.1 c x hc), h.2.2⟩
theorem nw_tl {k : Int32} {j aw lit x i o : Nat} {r : Nat × PS × Nat} (e : tlM b n m τ k j aw lit x i o σ = .ok r) : Nw0 σ r.2.1 := by
  unfold tlM at e
  by_cases k1 : k = 42
  · rw [if_pos k1] at e
    obtain ⟨i2, -, e⟩ := bind_ok e
    have e := Except.ok.inj e
    rw [← e]
    refine Nw0.t1 ?_
    by_cases z : (trS σ).2.2 13 x &&& 1 = 0
    · rw [if_pos z]; exact Nw0.rf
    · rw [if_neg z]; exact Nw0.rf.pa (by decide)
  rw [if_neg k1] at e
  by_cases k2 : k = 49
  · rw [if_pos k2] at e
    obtain ⟨i2, -, e⟩ := bind_ok e
    obtain ⟨u, e1, e⟩ := bind_ok e
    obtain ⟨i3, -, e⟩ := bind_ok e
    have h : Nw0 σ u.2.1 := Nw0.of (fun y => nv_at e1)
    by_cases z : u.2.2.2 = true
    · rw [if_pos z] at e
      have e := Except.ok.inj e
      rw [← e]
      exact h.t1
    · rw [if_neg z] at e
      have e := Except.ok.inj e
      rw [← e]
      exact h.t1
  rw [if_neg k2] at e
  by_cases k3 : k = 50
  · rw [if_pos k3] at e
    obtain ⟨i2, -, e⟩ := bind_ok e
    obtain ⟨u, e1, e⟩ := bind_ok e
    obtain ⟨i3, -, e⟩ := bind_ok e
    have h : Nw0 σ u.2.1 := Nw0.of (fun y => nv_at e1)
    have e := Except.ok.inj e
    rw [← e]
    exact h.t1
  rw [if_neg k3] at e
  by_cases k4 : k = 52
  · rw [if_pos k4] at e
    obtain ⟨i2, -, e⟩ := bind_ok e
    obtain ⟨u, e1, e⟩ := bind_ok e
    obtain ⟨i3, -, e⟩ := bind_ok e
    have h : Nw0 σ u.2.1 := Nw0.of (fun y => nv_co e1)
    have e := Except.ok.inj e
    rw [← e]
    exact h.t1
  rw [if_neg k4] at e
  by_cases k5 : k = 53
  · rw [if_pos k5] at e
    obtain ⟨i2, -, e⟩ := bind_ok e
    have e := Except.ok.inj e
    rw [← e]
    exact Nw0.rf.t1
  rw [if_neg k5] at e
  obtain ⟨i2, -, e⟩ := bind_ok e
  have e := Except.ok.inj e
  rw [← e]
  exact Nw0.rf.t1
theorem nw_rw {p : Nat} {q : Option Nat} : Nw0 σ (rwP p q σ) := by
  refine ⟨⟨rfl, rfl⟩, fun c x hc => ?_, fun _ _ _ => rfl, rfl, rfl⟩
  have h1 : c ≠ 69 := by unfold tsC at hc; omega
  have h2 : c ≠ 73 := by unfold tsC at hc; omega
  have h3 : c ≠ 74 := by unfold tsC at hc; omega
  have h4 : c ≠ 75 := by unfold tsC at hc; omega
  cases q with
  | none =>
    show up2 (up2 (up2 (up2 σ.1.2.1 73 _ _) 74 _ _) 75 _ _) 69 _ _ c x = _
    rw [up2_row h1, up2_row h4, up2_row h3, up2_row h2]
  | some q =>
    show up2 (up2 (up2 (up2 σ.1.2.1 73 _ _) 74 _ _) 75 _ _) 75 _ _ c x = _
    rw [up2_row h4, up2_row h4, up2_row h3, up2_row h2]
theorem nw_fi {j x : Nat} : Nw0 σ (fiP m j x σ) := by
  unfold fiP
  refine Nw0.ra (Nw0.rf.pa (by decide)) (fun c y hc => ?_)
  have h1 : c ≠ 71 := by unfold tsC at hc; omega
  show up2 σ.1.2.1 71 _ _ c y = σ.1.2.1 c y
  rw [up2_row h1]
theorem rp_tk (hB : By b) (hv : HvT τ) {g md : Nat} {K : List KE} {i : Nat} {a1 a2 a3 a4 : Nat} {c1 c2 : Int32} {r : Nat × PS × Nat} (hm : md ≤ 3) (hK : K.length ≤ 15) (h3 : md = 3 → K.length ≤ 14) (e : rp b n m τ g md K i σ a1 a2 a3 a4 c1 c2 = .ok r) (hT : TkI τ m σ) : TkI τ m r.2.1 := by
  refine rp_gen2 (b := b) (n := n) (m := m) (τ := τ) (fun s t => TkI τ m s → TkI τ m t) (fun _ h => h) (fun _ _ _ h1 h2 h => h2 (h1 h)) ?_ ?_ ?_ ?_ ?_ ?_ ?_ ?_ ?_ ?_ g md K i σ a1 a2 a3 a4 c1 c2 r hm hK h3 e hT
  · exact fun k w pl q i K s r hK hw ho e h => tk_lf hB hv hK hw ho e h
  · exact fun k w pl q i K s r hK ho e h => tk_hd hB hv hK ho e h
  · exact fun k j aw lit x i o s r e h => (nw_tl e).tk h
  · intro lit x y i s r e h
    unfold chM at e
    obtain ⟨i2, -, e⟩ := bind_ok e
    have e := Except.ok.inj e
    rw [← e]
    exact (Nw0.rf (σ := s)).t1.tk h
  · exact fun s k _ h => (Nw0.rf (σ := s)).t1.tk h
  · exact fun s a c h => (show Nw0 s (hgP s a c) from Nw0.rf).tk h
  · exact fun s g u h => (show Nw0 s (guP s g u) from Nw0.rf).tk h
  · exact fun s j h => ((Nw0.rf (σ := s)).pa (by decide)).tk h
  · exact fun s p q h => nw_rw.tk h
  · exact fun s j x h => nw_fi.tk h
end
/-- a whole reading: the tasks of its parts -/
theorem rdm_tk {b : Nat → Int32} {n m : Nat} {A : Nat → Nat → Int32} {B : Nat → Int64} {Zt : Nat → Nat → Int32} {r : Nat × Td × PS × Nat} (hB : By b) (hv : HvT r.2.1) (e : rdM b n m A B Zt = .ok r) : TkI r.2.1 m r.2.2.1 := by
  unfold rdM at e
  by_cases k0 : tK b n 0 = 0
  · rw [if_pos k0] at e; cases e
  rw [if_neg k0] at e
  obtain ⟨q, et, e⟩ := bind_ok e
  obtain ⟨p, eq, e⟩ := bind_ok e
  cases e
  unfold rdQ at eq
  obtain ⟨u, eu, ep⟩ := bind_ok eq
  have up : u = p := by
    by_cases z : tK b n u.1 = 1
    · rw [if_pos z] at ep; cases ep; rfl
    · rw [if_neg z] at ep; cases ep
  subst up
  exact rp_tk hB hv (by decide) (by decide) (fun z => absurd z (by decide)) eu ⟨fun j hj => absurd hj (Nat.not_lt_zero _), rfl⟩
end
