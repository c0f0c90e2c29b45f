/-! a woven module is told: which nets, and what they come to -/
/-- nets told so far -/
def dnR (Ψ : Wg) (ins : Nat → Prop) (F : Nat) (j : Nat) : Prop := j < 2 ∨ (roN Ψ j).1 = 4 ∨ (roN Ψ j).1 = 6 ∨ (∃ s, ins s ∧ roN Ψ j = (3, s)) ∨ ∃ f, f < F ∧ roN Ψ j = (5, f)
section
variable {len n : Nat} {tb : Nat → Bool} {tv : Nat → Nat → Nat} {dn dn' : Nat → Prop} {Y Z : Nat → Int32}
theorem TdI.mo (h : TdI len tb tv dn Y Z) (hd : ∀ j, j < len → dn' j → dn j) : TdI len tb tv dn' Y Z := ⟨h.1, fun l hl j hj => ⟨(h.2 l hl j hj).1, fun q => (h.2 l hl j hj).2 (hd j hj q)⟩⟩
end
section
variable {τ : Td} {m : Nat} {σ : PS} {root : Nat} {γ : Gh} {g0 n0 gw : Nat} {Z0 P : Nat → Nat → Int32} {zp : Int32} {Ψ1 Ψ2 : Wg} {R : RMo} {I : RIn} {ift : Nat → Nat} {zn fn y0 g : Nat}
/-- roles of the nets that the weaver made -/
theorem MdW.nw (h : MdW τ m σ root γ g0 n0 gw Z0 P zp Ψ1 Ψ2) (hT : TwT (woS τ m σ γ) R zn fn y0 root g) {n : Nat} (h1 : σ.2.1.2.2.1.length ≤ n) (hn : n < Ψ2.1.length) : (roN Ψ2 n).1 = 0 ∨ (roN Ψ2 n).1 = 6 ∨ (roN Ψ2 n).1 = 7 ∨ (roN Ψ2 n).1 = 8 := by
  obtain ⟨eL, -⟩ := h.L hT
  obtain ⟨l1, l2, l3, l4⟩ := h.ln
  obtain ⟨-, -, -, -, hk', ⟨f1, -⟩, -, -, big, -⟩ := id h
  have e1 : Ψ2.2.1 = Ψ1.2.1 := by rw [f1]
  rcases hk'.1.2 n (by show σ.2.1.2.2.1.length ≤ n; omega) (by omega) with q | ⟨z, z1, z2, z3⟩
  · unfold r06 at q
    rw [← e1] at q
    rcases q with q | q
    · exact Or.inl q
    · exact Or.inr (Or.inl q)
  · rw [eL] at z1
    obtain ⟨l, p1, p2, p3, -⟩ := h.op hT z1 z2
    have el : n = l := by
      have := inj32 (a := 2 * n) (b := 2 * l) (by omega) (by omega) (z3.symm.trans p1)
      omega
    rw [← el] at p3
    rw [p3]
    by_cases y : (trS σ).2.2 5 z = 6
    · rw [if_pos y]; exact Or.inr (Or.inr (Or.inl rfl))
    · rw [if_neg y]; exact Or.inr (Or.inr (Or.inr rfl))
theorem MdW.r3 (h : MdW τ m σ root γ g0 n0 gw Z0 P zp Ψ1 Ψ2) (hT : TwT (woS τ m σ γ) R zn fn y0 root g) {n s : Nat} (hn : n < Ψ2.1.length) (e : roN Ψ2 n = (3, s)) : n = 2 + s ∧ s < τ.1.length := by
  by_cases n2 : n < 2
  · rcases h.r2 n2 with q | q <;> rw [q] at e
    · exact absurd (show (1 : Nat) = 3 from congrArg Prod.fst e) (by decide)
    · exact absurd (show (2 : Nat) = 3 from congrArg Prod.fst e) (by decide)
  by_cases old : n < σ.2.1.2.2.1.length
  · rcases h.old (by omega) old with q | ⟨t, t1, t2, t3⟩ | ⟨t, t1, t2, t3⟩ | ⟨f, f1, f2, f3⟩
    · rw [e] at q; exact absurd (show (3 : Nat) = 0 from q) (by decide)
    · rw [e] at t3
      have : s = t := congrArg Prod.snd t3
      rw [this]; exact ⟨t2, t1⟩
    · rw [e] at t3; exact absurd (show (3 : Nat) = 4 from congrArg Prod.fst t3) (by decide)
    · rw [e] at f3; exact absurd (show (3 : Nat) = 5 from congrArg Prod.fst f3) (by decide)
  · have q := h.nw hT (by omega) hn
    rw [e] at q
    rcases q with q | q | q | q
    · exact absurd (show (3 : Nat) = 0 from q) (by decide)
    · exact absurd (show (3 : Nat) = 6 from q) (by decide)
    · exact absurd (show (3 : Nat) = 7 from q) (by decide)
    · exact absurd (show (3 : Nat) = 8 from q) (by decide)
theorem MdW.r4 (h : MdW τ m σ root γ g0 n0 gw Z0 P zp Ψ1 Ψ2) (hT : TwT (woS τ m σ γ) R zn fn y0 root g) {n s : Nat} (hn : n < Ψ2.1.length) (e : roN Ψ2 n = (4, s)) : σ.2.1.2.2.2.1 s = 2 * n ∧ s < τ.1.length ∧ n < σ.2.1.2.2.1.length := by
  by_cases n2 : n < 2
  · rcases h.r2 n2 with q | q <;> rw [q] at e
    · exact absurd (show (1 : Nat) = 4 from congrArg Prod.fst e) (by decide)
    · exact absurd (show (2 : Nat) = 4 from congrArg Prod.fst e) (by decide)
  by_cases old : n < σ.2.1.2.2.1.length
  · rcases h.old (by omega) old with q | ⟨t, t1, t2, t3⟩ | ⟨t, t1, t2, t3⟩ | ⟨f, f1, f2, f3⟩
    · rw [e] at q; exact absurd (show (4 : Nat) = 0 from q) (by decide)
    · rw [e] at t3; exact absurd (show (4 : Nat) = 3 from congrArg Prod.fst t3) (by decide)
    · rw [e] at t3
      have : s = t := congrArg Prod.snd t3
      rw [this]; exact ⟨t2, t1, old⟩
    · rw [e] at f3; exact absurd (show (4 : Nat) = 5 from congrArg Prod.fst f3) (by decide)
  · have q := h.nw hT (by omega) hn
    rw [e] at q
    rcases q with q | q | q | q
    · exact absurd (show (4 : Nat) = 0 from q) (by decide)
    · exact absurd (show (4 : Nat) = 6 from q) (by decide)
    · exact absurd (show (4 : Nat) = 7 from q) (by decide)
    · exact absurd (show (4 : Nat) = 8 from q) (by decide)
theorem MdW.r5 (h : MdW τ m σ root γ g0 n0 gw Z0 P zp Ψ1 Ψ2) (hT : TwT (woS τ m σ γ) R zn fn y0 root g) {n s : Nat} (hn : n < Ψ2.1.length) (e : roN Ψ2 n = (5, s)) : s < (ifS σ).length ∧ (ifS σ).getD s 0 = Int32.ofNat (2 * n) ∧ n < σ.2.1.2.2.1.length := by
  by_cases n2 : n < 2
  · rcases h.r2 n2 with q | q <;> rw [q] at e
    · exact absurd (show (1 : Nat) = 5 from congrArg Prod.fst e) (by decide)
    · exact absurd (show (2 : Nat) = 5 from congrArg Prod.fst e) (by decide)
  by_cases old : n < σ.2.1.2.2.1.length
  · rcases h.old (by omega) old with q | ⟨t, t1, t2, t3⟩ | ⟨t, t1, t2, t3⟩ | ⟨f, f1, f2, f3⟩
    · rw [e] at q; exact absurd (show (5 : Nat) = 0 from q) (by decide)
    · rw [e] at t3; exact absurd (show (5 : Nat) = 3 from congrArg Prod.fst t3) (by decide)
    · rw [e] at t3; exact absurd (show (5 : Nat) = 4 from congrArg Prod.fst t3) (by decide)
    · rw [e] at f3
      have : s = f := congrArg Prod.snd f3
      rw [this]; exact ⟨f1, f2, old⟩
  · have q := h.nw hT (by omega) hn
    rw [e] at q
    rcases q with q | q | q | q
    · exact absurd (show (5 : Nat) = 0 from q) (by decide)
    · exact absurd (show (5 : Nat) = 6 from q) (by decide)
    · exact absurd (show (5 : Nat) = 7 from q) (by decide)
    · exact absurd (show (5 : Nat) = 8 from q) (by decide)
/-- the other way round: the net of a literal of the reading -/
theorem MdW.lt (h : MdW τ m σ root γ g0 n0 gw Z0 P zp Ψ1 Ψ2) {l k x : Nat} (e : rlC γ.2.2 l k x) (k3 : k = 4 ∨ k = 5) : l = 2 * (l / 2) ∧ 2 ≤ l / 2 ∧ l / 2 < Ψ2.1.length ∧ roN Ψ2 (l / 2) = (k, x) := by
  obtain ⟨l1, l2, l3, l4⟩ := h.ln
  obtain ⟨e1, e2, e3⟩ := e
  have er : roN Ψ2 (l / 2) = (k, x) := by
    rw [h.ro (by omega), m6_gd e2, e3, if_neg (show ¬ k = 6 by omega)]
  refine ⟨by omega, ?_, by omega, er⟩
  by_cases n2 : l / 2 < 2
  · rcases h.r2 n2 with q | q <;> rw [q] at er
    · have : (1 : Nat) = k := congrArg Prod.fst er
      omega
    · have : (2 : Nat) = k := congrArg Prod.fst er
      omega
  · omega
theorem MdW.hd (h : MdW τ m σ root γ g0 n0 gw Z0 P zp Ψ1 Ψ2) {hl : List Int32} (hq : HlQ Ψ2 hl) {i : Nat} (hi : i < Ψ2.2.2.length) : ∃ n, hl.getD i 0 = Int32.ofNat (2 * n) ∧ 2 ≤ n ∧ n < Ψ2.1.length ∧ roN Ψ2 n = (6, i) := by
  obtain ⟨l, e1, e2, e3, e4⟩ := hq.1 i hi
  have hr : Ψ2.2.1.length = Ψ2.1.length := h.2.2.2.2.2.2.2.1.1
  have er : roN Ψ2 (l / 2) = (6, i) := e4
  refine ⟨l / 2, by rw [e1, show 2 * (l / 2) = l by omega], ?_, by omega, er⟩
  by_cases n2 : l / 2 < 2
  · rcases h.r2 n2 with q | q <;> rw [q] at er
    · exact absurd (show (1 : Nat) = 6 from congrArg Prod.fst er) (by decide)
    · exact absurd (show (2 : Nat) = 6 from congrArg Prod.fst er) (by decide)
  · omega
/-- what is told is all that is to be told -/
theorem MdW.al (h : MdW τ m σ root γ g0 n0 gw Z0 P zp Ψ1 Ψ2) (hT : TwT (woS τ m σ γ) R zn fn y0 root g) (hR : MdR τ m σ R) {j : Nat} (hj : j < Ψ2.1.length) (ht : tbR R Ψ2 j = true) : dnR Ψ2 (fun s => s < τ.1.length ∧ τ.2.1.getD s 0 = 30) (ifS σ).length j := by
  by_cases j2 : j < 2
  · exact Or.inl j2
  have er : roN Ψ2 j = ((roN Ψ2 j).1, (roN Ψ2 j).2) := rfl
  rw [tb_r er (by omega)] at ht
  simp only [Bool.or_eq_true, Bool.and_eq_true, decide_eq_true_eq] at ht
  rcases ht with ((q | q) | q) | ⟨q1, q2⟩
  · exact Or.inr (Or.inl q)
  · have e5 : roN Ψ2 j = (5, (roN Ψ2 j).2) := by rw [← q]
    exact Or.inr (Or.inr (Or.inr (Or.inr ⟨_, (h.r5 hT hj e5).1, e5⟩)))
  · exact Or.inr (Or.inr (Or.inl q))
  · have e3 : roN Ψ2 j = (3, (roN Ψ2 j).2) := by rw [← q1]
    have l := (h.r3 hT hj e3).2
    exact Or.inr (Or.inr (Or.inr (Or.inl ⟨_, ⟨l, (hR.2.2.2.2 _ l).mp q2⟩, e3⟩)))
/-- told nets hold themselves -/
theorem MdW.ns (h : MdW τ m σ root γ g0 n0 gw Z0 P zp Ψ1 Ψ2) (hT : TwT (woS τ m σ γ) R zn fn y0 root g) (hR : MdR τ m σ R) {hl : List Int32} (hq : HlQ Ψ2 hl) {j : Nat} (hj : j < Ψ2.1.length) (ht : tbR R Ψ2 j = true) : Ψ2.1.getD j (0, 0) = (2 * j, 2 * j) := by
  obtain ⟨l1, l2, l3, l4⟩ := h.ln
  obtain ⟨hE, hX, -, -, hk, ⟨q1, q2, q3, q4⟩, -, -, big, -⟩ := id h
  have keep : j < σ.2.1.2.2.1.length → (∀ t, t < τ.1.length → τ.2.1.getD t 0 ≠ 30 → j ≠ 2 + t) → Ψ2.1.getD j (0, 0) = σ.2.1.2.2.1.getD j (0, 0) := fun hn hh => by
    rw [q3 j (by omega) hh]
    exact hk.1.1.2.1 j hn (fun (z : σ.2.1.2.2.1.length ≤ j) => by omega)
  have nx := hX.2.2.2.2.1.2.2.2.1
  have rk := hE.1.2.1.1.1
  have role : ∀ {k x : Nat}, j < σ.2.1.2.2.1.length → roN Ψ2 j = (k, x) → k ≠ 0 → k ≠ 3 → Ψ2.1.getD j (0, 0) = (2 * j, 2 * j) := fun {k x} hn er k0 k3 => by
    rw [keep hn (fun t ht _ e => ?_)]
    · refine (rk.2 j hn).2 (fun z => ?_)
      have q := h.ro hn
      rw [m6_gd (by omega), if_neg (by rw [z]; decide), er] at q
      rw [← q] at z
      exact k0 z
    · have q := h.sg ht
      rw [← e, er] at q
      exact k3 (congrArg Prod.fst q)
  rcases h.al hT hR hj ht with q | q | q | ⟨s, ⟨s1, s2⟩, s3⟩ | ⟨f, f1, f2⟩
  · rw [keep (by omega) (fun t _ _ => by omega)]
    exact nx j (by omega)
  · have er : roN Ψ2 j = (4, (roN Ψ2 j).2) := by rw [← q]
    exact role (h.r4 hT hj er).2.2 er (by decide) (by decide)
  · have er : roN Ψ2 j = (6, (roN Ψ2 j).2) := by rw [← q]
    exact (hq.2 j _ hj er).2
  · obtain ⟨e, -⟩ := h.r3 hT hj s3
    rw [keep (by omega) (fun t t1 t2 e2 => ?_)]
    · exact nx j (by omega)
    · have : t = s := by omega
      rw [this] at t2
      exact t2 s2
  · exact role (h.r5 hT hj f2).2.2 f2 (by decide) (by decide)
theorem MdW.nts (h : MdW τ m σ root γ g0 n0 gw Z0 P zp Ψ1 Ψ2) (hT : TwT (woS τ m σ γ) R zn fn y0 root g) (hR : MdR τ m σ R) {hl : List Int32} (hq : HlQ Ψ2 hl) (wf : ∀ e ∈ Ψ2.1, e.1 < 2 * Ψ2.1.length ∧ e.2 < 2 * Ψ2.1.length) : NtS Ψ2.1 (tbR R Ψ2) := ⟨fun j hj ht => h.ns hT hR hq hj ht, tb_lt (by decide), wf⟩
end
