section
/-! a woven module is told: which nets, and what they come to -/
/-- nets told so far -/
def dnR (Ψ : Wg) (ins : Nat → Prop) (F : Nat) (j : Nat) : Prop := j < 2 ∨ (roN Ψ j).1 = 4 ∨ (roN Ψ j).1 = 6 ∨ (∃ s, ins s ∧ roN Ψ j = (3, s)) ∨ ∃ f, f < F ∧ roN Ψ j = (5, f)
section
variable {len n : Nat} {tb : Nat → Bool} {tv : Nat → Nat → Nat} {dn dn' : Nat → Prop} {Y Z : Nat → Int32}
theorem TdI.mo (h : TdI len tb tv dn Y Z) (hd : ∀ j, j < len → dn' j → dn j) : TdI len tb tv dn' Y Z := ⟨h.1, fun l hl j hj => ⟨(h.2 l hl j hj).1, fun q => (h.2 l hl j hj).2 (hd j hj q)⟩⟩
end
section
variable {τ : Td} {m : Nat} {σ : PS} {root : Nat} {γ : Gh} {g0 n0 gw : Nat} {Z0 P : Nat → Nat → Int32} {zp : Int32} {Ψ1 Ψ2 : Wg} {R : RMo} {I : RIn} {ift : Nat → Nat} {zn fn y0 g : Nat}
/-- roles of the nets that the weaver made -/
theorem MdW.nw (h : MdW τ m σ root γ g0 n0 gw Z0 P zp Ψ1 Ψ2) (hT : TwT (woS τ m σ γ) R zn fn y0 root g) {n : Nat} (h1 : σ.2.1.2.2.1.length ≤ n) (hn : n < Ψ2.1.length) : (roN Ψ2 n).1 = 0 ∨ (roN Ψ2 n).1 = 6 ∨ (roN Ψ2 n).1 = 7 ∨ (roN Ψ2 n).1 = 8 := by
  obtain ⟨eL, -⟩ := h.L hT
  obtain ⟨l1, l2, l3, l4⟩ := h.ln
  obtain ⟨-, -, -, -, hk', ⟨f1, -⟩, -, -, big, -⟩ := id h
  have e1 : Ψ2.2.1 = Ψ1.2.1 := by rw [f1]
  rcases hk'.1.2 n (by show σ.2.1.2.2.1.length ≤ n; omega) (by omega) with q | ⟨z, z1, z2, z3⟩
  · unfold r06 at q
    rw [← e1] at q
    rcases q with q | q
    · exact Or.inl q
    · exact Or.inr (Or.inl q)
  · rw [eL] at z1
    obtain ⟨l, p1, p2, p3, -⟩ := h.op hT z1 z2
    have el : n = l := by
      have := inj32 (a := 2 * n) (b := 2 * l) (by omega) (by omega) (z3.symm.trans p1)
      omega
    rw [← el] at p3
    rw [p3]
    by_cases y : (trS σ).2.2 5 z = 6
    · rw [if_pos y]; exact Or.inr (Or.inr (Or.inl rfl))
    · rw [if_neg y]; exact Or.inr (Or.inr (Or.inr rfl))
theorem MdW.r3 (h : MdW τ m σ root γ g0 n0 gw Z0 P zp Ψ1 Ψ2) (hT : TwT (woS τ m σ γ) R zn fn y0 root g) {n s : Nat} (hn : n < Ψ2.1.length) (e : roN Ψ2 n = (3, s)) : n = 2 + s ∧ s < τ.1.length := by
  by_cases n2 : n < 2
  · rcases h.r2 n2 with q | q <;> rw [q] at e
    · exact absurd (show (1 : Nat) = 3 from congrArg Prod.fst e) (by decide)
    · exact absurd (show (2 : Nat) = 3 from congrArg Prod.fst e) (by decide)
  by_cases old : n < σ.2.1.2.2.1.length
  · rcases h.old (by omega) old with q | ⟨t, t1, t2, t3⟩ | ⟨t, t1, t2, t3⟩ | ⟨f, f1, f2, f3⟩
    · rw [e] at q; exact absurd (show (3 : Nat) = 0 from q) (by decide)
    · rw [e] at t3
      have : s = t := congrArg Prod.snd t3
      rw [this]; exact ⟨t2, t1⟩
    · rw [e] at t3; exact absurd (show (3 : Nat) = 4 from congrArg Prod.fst t3) (by decide)
    · rw [e] at f3; exact absurd (show (3 : Nat) = 5 from congrArg Prod.fst f3) (by decide)
  · have q := h.nw hT (by omega) hn
    rw [e] at q
    rcases q with q | q | q | q
    · exact absurd (show (3 : Nat) = 0 from q) (by decide)
    · exact absurd (show (3 : Nat) = 6 from q) (by decide)
    · exact absurd (show (3 : Nat) = 7 from q) (by decide)
    · exact absurd (show (3 : Nat) = 8 from q) (by decide)
theorem MdW.r4 (h : MdW τ m σ root γ g0 n0 gw Z0 P zp Ψ1 Ψ2) (hT : TwT (woS τ m σ γ) R zn fn y0 root g) {n s : Nat} (hn : n < Ψ2.1.length) (e : roN Ψ2 n = (4, s)) : σ.2.1.2.2.2.1 s = 2 * n ∧ s < τ.1.length ∧ n < σ.2.1.2.2.1.length := by
  by_cases n2 : n < 2
  · rcases h.r2 n2 with q | q <;> rw [q] at e
    · exact absurd (show (1 : Nat) = 4 from congrArg Prod.fst e) (by decide)
    · exact absurd (show (2 : Nat) = 4 from congrArg Prod.fst e) (by decide)
  by_cases old : n < σ.2.1.2.2.1.length
  · rcases h.old (by omega) old with q | ⟨t, t1, t2, t3⟩ | ⟨t, t1, t2, t3⟩ | ⟨f, f1, f2, f3⟩
    · rw [e] at q; exact absurd (show (4 : Nat) = 0 from q) (by decide)
    · rw [e] at t3; exact absurd (show (4 : Nat) = 3 from congrArg Prod.fst t3) (by decide)
    · rw [e] at t3
      have : s = t := congrArg Prod.snd t3
      rw [this]; exact ⟨t2, t1, old⟩
    · rw [e] at f3; exact absurd (show (4 : Nat) = 5 from congrArg Prod.fst f3) (by decide)
  · have q := h.nw hT (by omega) hn
    rw [e] at q
    rcases q with q | q | q | q
    · exact absurd (show (4 : Nat) = 0 from q) (by decide)
    · exact absurd (show (4 : Nat) = 6 from q) (by decide)
    · exact absurd (show (4 : Nat) = 7 from q) (by decide)
    · exact absurd (show (4 : Nat) = 8 from q) (by decide)
theorem MdW.r5 (h : MdW τ m σ root γ g0 n0 gw Z0 P zp Ψ1 Ψ2) (hT : TwT (woS τ m σ γ) R zn fn y0 root g) {n s : Nat} (hn : n < Ψ2.1.length) (e : roN Ψ2 n = (5, s)) : s < (ifS σ).length ∧ (ifS σ).getD s 0 = Int32.ofNat (2 * n) ∧ n < σ.2.1.2.2.1.length := by
  by_cases n2 : n < 2
  · rcases h.r2 n2 with q | q <;> rw [q] at e
    · exact absurd (show (1 : Nat) = 5 from congrArg Prod.fst e) (by decide)
    · exact absurd (show (2 : Nat) = 5 from congrArg Prod.fst e) (by decide)
  by_cases old : n < σ.2.1.2.2.1.length
  · rcases h.old (by omega) old with q | ⟨t, t1, t2, t3⟩ | ⟨t, t1, t2, t3⟩ | ⟨f, f1, f2, f3⟩
    · rw [e] at q; exact absurd (show (5 : Nat) = 0 from q) (by decide)
    · rw [e] at t3; exact absurd (show (5 : Nat) = 3 from congrArg Prod.fst t3) (by decide)
    · rw [e] at t3; exact absurd (show (5 : Nat) = 4 from congrArg Prod.fst t3) (by decide)
    · rw [e] at f3
      have : s = f := congrArg Prod.snd f3
      rw [this]; exact ⟨f1, f2, old⟩
  · have q := h.nw hT (by omega) hn
    rw [e] at q
    rcases q with q | q | q | q
    · exact absurd (show (5 : Nat) = 0 from q) (by decide)
    · exact absurd (show (5 : Nat) = 6 from q) (by decide)
    · exact absurd (show (5 : Nat) = 7 from q) (by decide)
    · exact absurd (show (5 : Nat) = 8 from q) (by decide)
/-- the other way round: the net of a literal of the reading -/
theorem MdW.lt (h : MdW τ m σ root γ g0 n0 gw Z0 P zp Ψ1 Ψ2) {l k x : Nat} (e : rlC γ.2.2 l k x) (k3 : k = 4 ∨ k = 5) : l = 2 * (l / 2) ∧ 2 ≤ l / 2 ∧ l / 2 < Ψ2.1.length ∧ roN Ψ2 (l / 2) = (k, x) := by
  obtain ⟨l1, l2, l3, l4⟩ := h.ln
  obtain ⟨e1, e2, e3⟩ := e
  have er : roN Ψ2 (l / 2) = (k, x) := by
    rw [h.ro (by omega), m6_gd e2, e3, if_neg (show ¬ k = 6 by omega)]
  refine ⟨by omega, ?_, by omega, er⟩
  by_cases n2 : l / 2 < 2
  · rcases h.r2 n2 with q | q <;> rw [q] at er
    · have : (1 : Nat) = k := congrArg Prod.fst er
      omega
    · have : (2 : Nat) = k := congrArg Prod.fst er
      omega
  · omega
theorem MdW.hd (h : MdW τ m σ root γ g0 n0 gw Z0 P zp Ψ1 Ψ2) {hl : List Int32} (hq : HlQ Ψ2 hl) {i : Nat} (hi : i < Ψ2.2.2.length) : ∃ n, hl.getD i 0 = Int32.ofNat (2 * n) ∧ 2 ≤ n ∧ n < Ψ2.1.length ∧ roN Ψ2 n = (6, i) := by
  obtain ⟨l, e1, e2, e3, e4⟩ := hq.1 i hi
  have hr : Ψ2.2.1.length = Ψ2.1.length := h.2.2.2.2.2.2.2.1.1
  have er : roN Ψ2 (l / 2) = (6, i) := e4
  refine ⟨l / 2, by rw [e1, show 2 * (l / 2) = l by omega], ?_, by omega, er⟩
  by_cases n2 : l / 2 < 2
  · rcases h.r2 n2 with q | q <;> rw [q] at er
    · exact absurd (show (1 : Nat) = 6 from congrArg Prod.fst er) (by decide)
    · exact absurd (show (2 : Nat) = 6 from congrArg Prod.fst er) (by decide)
  · omega
/-- what is told is all that is to be told -/
theorem MdW.al (h : MdW τ m σ root γ g0 n0 gw Z0 P zp Ψ1 Ψ2) (hT : TwT (woS τ m σ γ) R zn fn y0 root g) (hR : MdR τ m σ R) {j : Nat} (hj : j < Ψ2.1.length) (ht : tbR R Ψ2 j = true) : dnR Ψ2 (fun s => s < τ.1.length ∧ τ.2.1.getD s 0 = 30) (ifS σ).length j := by
  by_cases j2 : j < 2
  · exact Or.inl j2
  have er : roN Ψ2 j = ((roN Ψ2 j).1, (roN Ψ2 j).2) := rfl
  rw [tb_r er (by omega)] at ht
  simp only [Bool.or_eq_true, Bool.and_eq_true, decide_eq_true_eq] at ht
  rcases ht with ((q | q) | q) | ⟨q1, q2⟩
  · exact Or.inr (Or.inl q)
  · have e5 : roN Ψ2 j = (5, (roN Ψ2 j).2) := by rw [← q]
    exact Or.inr (Or.inr (Or.inr (Or.inr ⟨_, (h.r5 hT hj e5).1, e5⟩)))
  · exact Or.inr (Or.inr (Or.inl q))
  · have e3 : roN Ψ2 j = (3, (roN Ψ2 j).2) := by rw [← q1]
    have l := (h.r3 hT hj e3).2
    exact Or.inr (Or.inr (Or.inr (Or.inl ⟨_, ⟨l, (hR.2.2.2.2 _ l).mp q2⟩, e3⟩)))
/-- told nets hold themselves -/
theorem MdW.ns (h : MdW τ m σ root γ g0 n0 gw Z0 P zp Ψ1 Ψ2) (hT : TwT (woS τ m σ γ) R zn fn y0 root g) (hR : MdR τ m σ R) {hl : List Int32} (hq : HlQ Ψ2 hl) {j : Nat} (hj : j < Ψ2.1.length) (ht : tbR R Ψ2 j = true) : Ψ2.1.getD j (0, 0) = (2 * j, 2 * j) := by
  obtain ⟨l1, l2, l3, l4⟩ := h.ln
  obtain ⟨hE, hX, -, -, hk, ⟨q1, q2, q3, q4⟩, -, -, big, -⟩ := id h
  have keep : j < σ.2.1.2.2.1.length → (∀ t, t < τ.1.length → τ.2.1.getD t 0 ≠ 30 → j ≠ 2 + t) → Ψ2.1.getD j (0, 0) = σ.2.1.2.2.1.getD j (0, 0) := fun hn hh => by
    rw [q3 j (by omega) hh]
    exact hk.1.1.2.1 j hn (fun (z : σ.2.1.2.2.1.length ≤ j) => by omega)
  have nx := hX.2.2.2.2.1.2.2.2.1
  have rk := hE.1.2.1.1.1
  have role : ∀ {k x : Nat}, j < σ.2.1.2.2.1.length → roN Ψ2 j = (k, x) → k ≠ 0 → k ≠ 3 → Ψ2.1.getD j (0, 0) = (2 * j, 2 * j) := fun {k x} hn er k0 k3 => by
    rw [keep hn (fun t ht _ e => ?_)]
    · refine (rk.2 j hn).2 (fun z => ?_)
      have q := h.ro hn
      rw [m6_gd (by omega), if_neg (by rw [z]; decide), er] at q
      rw [← q] at z
      exact k0 z
    · have q := h.sg ht
      rw [← e, er] at q
      exact k3 (congrArg Prod.fst q)
  rcases h.al hT hR hj ht with q | q | q | ⟨s, ⟨s1, s2⟩, s3⟩ | ⟨f, f1, f2⟩
  · rw [keep (by omega) (fun t _ _ => by omega)]
    exact nx j (by omega)
  · have er : roN Ψ2 j = (4, (roN Ψ2 j).2) := by rw [← q]
    exact role (h.r4 hT hj er).2.2 er (by decide) (by decide)
  · have er : roN Ψ2 j = (6, (roN Ψ2 j).2) := by rw [← q]
    exact (hq.2 j _ hj er).2
  · obtain ⟨e, -⟩ := h.r3 hT hj s3
    rw [keep (by omega) (fun t t1 t2 e2 => ?_)]
    · exact nx j (by omega)
    · have : t = s := by omega
      rw [this] at t2
      exact t2 s2
  · exact role (h.r5 hT hj f2).2.2 f2 (by decide) (by decide)
theorem MdW.nts (h : MdW τ m σ root γ g0 n0 gw Z0 P zp Ψ1 Ψ2) (hT : TwT (woS τ m σ γ) R zn fn y0 root g) (hR : MdR τ m σ R) {hl : List Int32} (hq : HlQ Ψ2 hl) (wf : ∀ e ∈ Ψ2.1, e.1 < 2 * Ψ2.1.length ∧ e.2 < 2 * Ψ2.1.length) : NtS Ψ2.1 (tbR R Ψ2) := ⟨fun j hj ht => h.ns hT hR hq hj ht, tb_lt (by decide), wf⟩
end
end
section
/-! a woven module's circuit stands and is told -/
/-- the circuit of a woven module in memory -/
def CsW (M : Mem) (x lc rc ya na a1 a2 b1 b2 bc sc a3 b3 : Nat) (τ : Td) (σ : PS) (Ψ : Wg) (hl : List Int32) : Prop := CrS M x lc rc ya na a1 a2 b1 b2 bc Ψ.1 Ψ.2.2 hl ∧ HlQ Ψ hl ∧ (∀ s, s < 16 → mAI M bc s = Int32.ofNat (σ.2.1.2.2.2.1 s)) ∧ (mR M x 13 = some sc ∧ ok M sc 21 ∧ mL M sc = 16 ∧ (∀ s, s < 16 → mAI M sc s = Int32.ofNat (sgT τ.1.length s)) ∧ sc ≠ ya ∧ sc ≠ na) ∧ (mR M x 7 = some a3 ∧ ALi M a3 b3 (ifS σ) ∧ (ifS σ).length < 200000)
/-- the circuit while it is told: lanes Y, Z -/
def CtL (M : Mem) (x lc rc ya na sc a3 b3 S : Nat) (is : List Int32) (N : Nt) (Y Z : Nat → Int32) : Prop := CrL M x lc rc ya na N Y Z ∧ (mR M x 13 = some sc ∧ ok M sc 21 ∧ mL M sc = 16 ∧ (∀ s, s < 16 → mAI M sc s = Int32.ofNat (sgT S s)) ∧ sc ≠ ya ∧ sc ≠ na) ∧ (mR M x 7 = some a3 ∧ ALi M a3 b3 is ∧ is.length < 200000)
/-- what is known is told -/
def TdV (len : Nat) (tb : Nat → Bool) (Y Z : Nat → Int32) : Prop := CoL len Y Z ∧ ∀ l, l < 32 → ∀ j, j < len → laV len Y Z l j = 2 ∨ tb j = true
section
variable {M M' : Mem} {x lc rc ya na ya0 na0 sc a1 a2 a3 b1 b2 b3 bc S sm stc n len : Nat} {is : List Int32} {N : Nt} {Y Z Y' Z' : Nat → Int32} {tb : Nat → Bool} {tv : Nat → Nat → Nat} {dn : Nat → Prop} {w : Int32}
theorem TdI.v (h : TdI len tb tv dn Y Z) : TdV len tb Y Z := ⟨h.1, fun l hl j hj => by
  rcases (h.2 l hl j hj).1 with e | e
  · exact Or.inl e
  · exact Or.inr e.1⟩
theorem TdV.tl (h : TdV len tb Y Z) (k : TlL len n w Y Z Y' Z') (hb : tb n = true) : TdV len tb Y' Z' := by
  refine ⟨k.1, fun l hl j hj => ?_⟩
  by_cases e : j = n
  · rw [e]; exact Or.inr hb
  · rw [k.2 l hl j, if_neg e]; exact h.2 l hl j hj
theorem TdV.j (h : TdV N.length tb Y Z) : LnJ N tb (laV N.length Y Z) Y Z := by
  refine ⟨h.1, fun l hl => ⟨JF.st0 (fun j => ?_), fun j hj ht => rfl⟩⟩
  by_cases hj : j < N.length
  · rcases h.2 l hl j hj with e | e
    · exact Or.inl e
    · refine Or.inr (fun u => ?_)
      unfold FcN
      rw [if_pos hj, if_pos e]
  · refine Or.inl ?_
    unfold laV
    rw [if_neg hj]
theorem WcZ.fr (k : WcZ sm stc M M') : fr (fun c => c = sm ∨ c = stc) M M' := ⟨k.e, fun c _ hc => ⟨k.2.2.1 c (fun z => hc (Or.inl z)), by rw [k.2.1.1], by rw [k.2.1.2.1], by rw [k.2.1.2.2.1], k.2.2.2.2 c (fun z => hc (Or.inr z)), by rw [k.2.1.2.2.2]⟩⟩
theorem ALi.wc {a b : Nat} {xs : List Int32} (hA : ALi M a b xs) (k : WcZ sm stc M M') (o8 : mK M sm = 8) (o23 : mK M stc = 23) : ALi M' a b xs := by
  have kk : ∀ {c q : Nat}, (c = sm ∨ c = stc) → mK M c = q → q = 8 ∨ q = 23 := fun {c q} z e => by
    rcases z with z | z
    · rw [z, o8] at e; exact Or.inl e.symm
    · rw [z, o23] at e; exact Or.inr e.symm
  refine hA.fr k.fr (fun z => ?_) (fun hb z => ?_) (fun c _ z w => ?_)
  · rcases kk z hA.ok1.2 with q | q <;> exact absurd q (by decide)
  · rcases kk z hb with q | q <;> exact absurd q (by decide)
  · rcases kk z w with q | q <;> exact absurd q (by decide)
theorem CirP.wc (hC : CirP M x lc rc N) (k : WcZ sm stc M M') (ne : x ≠ sm) : CirP M' x lc rc N := by
  obtain ⟨o1, c1, o2, c2, o3, i1, q, v, r⟩ := hC
  exact ⟨k.ok o1, by rw [k.2.1.2.1]; exact c1, k.ok o2, by rw [k.2.1.2.1]; exact c2, k.ok o3, by rw [k.2.2.1 x ne]; exact i1, by rw [k.1.2.2.2]; exact q, by rw [k.2.1.2.2.1]; exact v, r⟩
theorem CrL.wc (hL : CrL M x lc rc ya na N Y Z) (k : WcZ sm stc M M') (ne : x ≠ sm) : CrL M' x lc rc ya na N Y Z := by
  obtain ⟨c, ⟨a1, a2, a3, a4⟩, ⟨b1, b2, b3, b4⟩, ⟨e1, e2⟩, r⟩ := hL
  exact ⟨c.wc k ne, ⟨by rw [k.2.1.2.1]; exact a1, k.ok a2, by rw [k.1.2.2.2]; exact a3, by rw [k.1.2.2.2]; exact a4⟩, ⟨by rw [k.2.1.2.1]; exact b1, k.ok b2, by rw [k.1.2.2.2]; exact b3, by rw [k.1.2.2.2]; exact b4⟩, ⟨by rw [k.2.1.2.2.1]; exact e1, by rw [k.2.1.2.2.1]; exact e2⟩, r⟩
theorem CtL.wc (hL : CtL M x lc rc ya na sc a3 b3 S is N Y Z) (k : WcZ sm stc M M') (o8 : ok M sm 8) (o23 : mK M stc = 23) : CtL M' x lc rc ya na sc a3 b3 S is N Y Z := by
  obtain ⟨c, ⟨s1, s2, s3, s4, s5⟩, ⟨t1, t2, t3⟩⟩ := hL
  have ne : x ≠ sm := fun z => by
    have := c.1.1.2
    rw [z, o8.2] at this
    exact absurd this (by decide)
  exact ⟨c.wc k ne, ⟨by rw [k.2.1.2.1]; exact s1, k.ok s2, by rw [k.1.2.2.2]; exact s3, by rw [k.2.1.2.2.1]; exact s4, s5⟩, ⟨by rw [k.2.1.2.1]; exact t1, t2.wc k o8.2 o23, t3⟩⟩
theorem CtL.ar (hL : CtL M x lc rc ya na sc a3 b3 S is N Y Z) (k : ArF (fun c => c = ya ∨ c = na) M M') (L : CrL M' x lc rc ya na N Y' Z') : CtL M' x lc rc ya na sc a3 b3 S is N Y' Z' := by
  obtain ⟨c, ⟨s1, s2, s3, s4, s5, s6⟩, ⟨t1, t2, t3⟩⟩ := hL
  exact ⟨L, ⟨by rw [k.2.1.2.2.1]; exact s1, ok_E s2 k.e, by rw [k.1.2.2.2]; exact s3, by rw [k.2.2 sc (fun z => z.elim s5 s6)]; exact s4, s5, s6⟩, ⟨by rw [k.2.1.2.2.1]; exact t1, ali_ar t2 k c.2.1.2.1.2 c.2.2.1.2.1.2, t3⟩⟩
end
section
variable {M : Mem} {x lc rc ya0 na0 a1 a2 a3 b1 b2 b3 bc sc h : Nat} {hl : List Int32} {Q : Option Value → Mem → Prop} {τ : Td} {m : Nat} {σ : PS} {root : Nat} {γ : Gh} {g0 n0 gw : Nat} {Z0 P : Nat → Nat → Int32} {zp : Int32} {Ψ1 Ψ2 : Wg} {R : RMo} {Is : Nat → RIn} {ift : Nat → Nat → Nat} {zn fn y0 g : Nat} {x1 x2 x3 : Int32}
theorem S_stW (hW : MdW τ m σ root γ g0 n0 gw Z0 P zp Ψ1 Ψ2) (hT : TwT (woS τ m σ γ) R zn fn y0 root g) (hc : CsW M x lc rc ya0 na0 a1 a2 b1 b2 bc sc a3 b3 τ σ Ψ2 hl) (h16 : τ.1.length ≤ 16) (hbig : mN M + 2 < mBig) (i1 : ∀ l, iSet (Is l) = x1) (i2 : ∀ l s, s < 16 → iBf (Is l) s = if btL x2 s = true then 1 else 0) (i3 : ∀ l, (if iFi (Is l) = 1 then 1 else 0) = if x3 = 0 then 0 else 1) (K : ∀ M' ya na Y' Z', CtL M' x lc rc ya na sc a3 b3 τ.1.length (ifS σ) Ψ2.1 Y' Z' → StF M M' x ya0 na0 ya na Ψ2.1.length → TdI Ψ2.1.length (tbR R Ψ2) (fun l => tvR (Is l) (ift l) Ψ2) (dnR Ψ2 (fun _ => False) 0) Y' Z' → Q none M') : E (h + 4) mdX0_stand [.ref x, .int x1, .int x2, .int x3] M Q := by
  obtain ⟨hC, hq, hb, ⟨s1, s2, s3, s4, s5, s6⟩, ⟨t1, t2, t3⟩⟩ := hc
  have big : Ψ2.1.length < 100000 := hW.2.2.2.2.2.2.2.2.1
  refine S_stand (h := h) (tb := tbR R Ψ2) (tv := fun l => tvR (Is l) (ift l) Ψ2) hC hbig ⟨tb_lt (by decide), fun l => ?_⟩ ⟨tb_lt (by decide), fun l => ?_⟩ (fun i hi => ?_) (fun s hs => ?_) (fun M' ya na Y' Z' L St T => K M' ya na Y' Z' ?_ St (T.mo (fun j hj d => ?_)))
  · unfold tvR; rw [if_pos rfl]
  · show tvR (Is l) (ift l) Ψ2 1 = _
    unfold tvR
    rw [if_neg (by decide), if_pos rfl]
    exact i3 l
  · obtain ⟨n, e1, e2, e3, e4⟩ := hW.hd hq hi
    refine ⟨n, e1, e3, by rw [tb_r e4 e2]; rfl, fun l => ?_⟩
    show tvR (Is l) (ift l) Ψ2 n = _
    rw [tv_r e4 e2, if_neg (by decide), if_neg (by decide), if_neg (by decide)]
    unfold HVm
    rw [i1 l]
  · rw [hb s hs]
    by_cases z : σ.2.1.2.2.2.1 s = 0
    · rw [z]; exact Or.inl rfl
    · have r := hW.1.1.2.1.1.2.2.2 s z
      obtain ⟨e1, e2, e3, e4⟩ := hW.lt r (Or.inl rfl)
      refine Or.inr ⟨_, by rw [← e1], by omega, e3, by rw [tb_r e4 e2]; rfl, fun l => ?_⟩
      show tvR (Is l) (ift l) Ψ2 _ = _
      rw [tv_r e4 e2, if_neg (by decide), if_pos rfl]
      exact i2 l s hs
  · have sx : sc ≠ x := fun e => by
      have := hC.1.1.2
      rw [← e, s2.2] at this
      exact absurd this (by decide)
    have F := St.1
    have row := F.2 sc s2.1 (fun z => by
      rcases z with z | z | z
      · exact sx z
      · exact s5 z
      · exact s6 z)
    have o1 := hC.1.1
    have oy := hC.2.1.2.1
    have on := hC.2.2.1.2.1
    have kk : ∀ {c q : Nat}, (c = x ∨ c = ya0 ∨ c = na0) → mK M c = q → q = 2 ∨ q = 21 := fun {c q} z e => by
      rcases z with z | z | z
      · rw [z, o1.2] at e; exact Or.inl e.symm
      · rw [z, oy.2] at e; exact Or.inr e.symm
      · rw [z, on.2] at e; exact Or.inr e.symm
    have A' : ALi M' a3 b3 (ifS σ) := t2.fr F (fun z => by rcases kk z t2.ok1.2 with q | q <;> exact absurd q (by decide)) (fun hb z => by rcases kk z hb with q | q <;> exact absurd q (by decide)) (fun c _ z w => by rcases kk z w with q | q <;> exact absurd q (by decide))
    have lt := s2.1
    have sn : sc ≠ ya ∧ sc ≠ na := by
      rcases St.2.2 with ⟨q1, q2, -⟩ | ⟨q1, q2, -⟩
      · rw [q1, q2]; exact ⟨s5, s6⟩
      · omega
    exact ⟨L, ⟨by rw [St.2.1.2.2 13 (by decide) (by decide)]; exact s1, ok_E s2 F.1, by rw [(F.1.2.2 sc s2.1).2]; exact s3, by rw [row.2.2.2.1]; exact s4, sn⟩, ⟨by rw [St.2.1.2.2 7 (by decide) (by decide)]; exact t1, A', t3⟩⟩
  · rcases d with q | q | q | ⟨s, q, -⟩ | ⟨f, q, -⟩
    · have : j = 0 ∨ j = 1 := by omega
      rcases this with e | e
      · exact Or.inl e
      · exact Or.inr (Or.inl e)
    · have er : roN Ψ2 j = (4, (roN Ψ2 j).2) := by rw [← q]
      obtain ⟨q1, q2, q3⟩ := hW.r4 hT hj er
      refine Or.inr (Or.inr (Or.inr ⟨(roN Ψ2 j).2, by omega, by rw [hb _ (by omega), q1], ?_⟩))
      by_cases j0 : j < 2
      · rcases hW.r2 j0 with y | y <;> rw [y] at q
        · exact absurd (show (1 : Nat) = 4 from q) (by decide)
        · exact absurd (show (2 : Nat) = 4 from q) (by decide)
      · omega
    · have er : roN Ψ2 j = (6, (roN Ψ2 j).2) := by rw [← q]
      have q1 := (hq.2 j _ hj er).1
      have q2 := hW.2.2.2.2.2.2.2.1.2.2 j _ hj er
      exact Or.inr (Or.inr (Or.inl ⟨_, q2, q1⟩))
    · exact absurd q (fun z => z)
    · exact absurd q (Nat.not_lt_zero _)
/-- an input is told -/
theorem S_tiW {M : Mem} {ya na s : Nat} {w : Int32} {Y Z : Nat → Int32} (hW : MdW τ m σ root γ g0 n0 gw Z0 P zp Ψ1 Ψ2) (h16 : τ.1.length ≤ 16) (hL : CtL M x lc rc ya na sc a3 b3 τ.1.length (ifS σ) Ψ2.1 Y Z) (hC : CoL Ψ2.1.length Y Z) (hs : s < τ.1.length) (K : ∀ M' Y' Z', CtL M' x lc rc ya na sc a3 b3 τ.1.length (ifS σ) Ψ2.1 Y' Z' → ArF (fun c => c = ya ∨ c = na) M M' → TlL Ψ2.1.length (2 + s) w Y Z Y' Z' → Q none M') : E (h + 2) mdX0_tellInput [.ref x, .int (Int32.ofNat s), .int w] M Q := by
  obtain ⟨l1, l2, l3, l4⟩ := hW.ln
  obtain ⟨-, ⟨s1, s2, s3, s4, -⟩, -⟩ := id hL
  refine S_tellIn (h := h) hL.1 hC s1 s2 s3 (by omega) (by rw [s4 s (by omega)]; unfold sgT; rw [if_pos hs, show 4 + 2 * s = 2 * (2 + s) by omega]) (by omega) (fun M' Y' Z' L' A' T' => K M' Y' Z' (hL.ar A' L') A' T')
/-- an if is told -/
theorem S_tfW {M : Mem} {ya na f : Nat} {w : Int32} {Y Z : Nat → Int32} (hW : MdW τ m σ root γ g0 n0 gw Z0 P zp Ψ1 Ψ2) (hL : CtL M x lc rc ya na sc a3 b3 τ.1.length (ifS σ) Ψ2.1 Y Z) (hC : CoL Ψ2.1.length Y Z) (hf : f < (ifS σ).length) (K : ∀ M' Y' Z' n, CtL M' x lc rc ya na sc a3 b3 τ.1.length (ifS σ) Ψ2.1 Y' Z' → ArF (fun c => c = ya ∨ c = na) M M' → n < Ψ2.1.length → 2 ≤ n → roN Ψ2 n = (5, f) → TlL Ψ2.1.length n w Y Z Y' Z' → Q none M') : E (h + 4) mdX0_tellIf [.ref x, .int (Int32.ofNat f), .int w] M Q := by
  obtain ⟨l, e1, e2⟩ := hW.1.1.2.2 f hf
  obtain ⟨q1, q2, q3, q4⟩ := hW.lt e2 (Or.inr rfl)
  refine S_tellIf (h := h) (n := l / 2) hL.1 hC hL.2.2.1 hL.2.2.2.1 hf hL.2.2.2.2 (by rw [e1, ← q1]) q3 (fun M' Y' Z' L' A' T' => K M' Y' Z' (l / 2) (hL.ar A' L') A' q3 q2 q4 T')
end
end
section
/-! a governor of the class within a beat: what changes, what stays -/
/-- numbers of g (fields fs) and of the sums' object, rows of S, the sums' stack change -/
def BgF (g sm stc : Nat) (fs S : Nat → Prop) (M M' : Mem) : Prop := (mN M' = mN M ∧ mS M' = mS M ∧ mK M' = mK M ∧ mL M' = mL M) ∧ (mJ M' = mJ M ∧ mR M' = mR M ∧ mAR M' = mAR M) ∧ (∀ a, a ≠ g → a ≠ sm → mI M' a = mI M a) ∧ (∀ f, ¬ fs f → mI M' g f = mI M g f) ∧ (∀ f, f ≠ 3 → f ≠ 4 → mI M' sm f = mI M sm f) ∧ (∀ r, ¬ S r → mAI M' r = mAI M r) ∧ ∀ r, r ≠ stc → mAJ M' r = mAJ M r
/-- what a beat asks of governor and plan -/
def BtS (M : Mem) (g c nw nx kp gn wr : Nat) (ks : Nat → Nat) (sm cc stc mx ia I : Nat) (cs : List Int32) (X : List Nd) (pl pb : Nat) (ps : List Nat) (S : Nat) (ro is : List Int32) (len : Nat) : Prop := GvS M g c nw nx kp gn wr ps.length ks ∧ PlS M c sm cc stc mx ia I cs ∧ (mR M c 6 = some pl ∧ ALp M pl pb 5 ps ∧ ps.length ≤ 40) ∧ (∀ j, j < ps.length → PtK M X cs (ps.getD j 0) ∧ (mI M (ps.getD j 0) 3 = 3 → ∃ f, f < is.length ∧ mI M (ps.getD j 0) 4 = Int32.ofNat f) ∧ ∀ f, 9 ≤ f → f ≤ 12 → ∃ a, a < 2 * len ∧ mI M (ps.getD j 0) f = Int32.ofNat a) ∧ ∀ j, j < I → ∃ s, s < S ∧ ro.getD s 0 = 30 ∧ mAI M ia j = Int32.ofNat s
section
variable {g sm stc : Nat} {fs fs' S S' : Nat → Prop} {M M1 M' : Mem}
theorem BgF.rf : BgF g sm stc fs S M M := ⟨⟨rfl, rfl, rfl, rfl⟩, ⟨rfl, rfl, rfl⟩, fun _ _ _ => rfl, fun _ _ => rfl, fun _ _ _ => rfl, fun _ _ => rfl, fun _ _ => rfl⟩
theorem BgF.tr (a : BgF g sm stc fs S M M1) (b : BgF g sm stc fs S M1 M') : BgF g sm stc fs S M M' := by
  obtain ⟨⟨a1, a2, a3, a4⟩, ⟨b1, b2, b3⟩, c1, c2, c3, c4, c5⟩ := a
  obtain ⟨⟨d1, d2, d3, d4⟩, ⟨e1, e2, e3⟩, f1, f2, f3, f4, f5⟩ := b
  exact ⟨⟨d1.trans a1, d2.trans a2, d3.trans a3, d4.trans a4⟩, ⟨e1.trans b1, e2.trans b2, e3.trans b3⟩, fun a z1 z2 => (f1 a z1 z2).trans (c1 a z1 z2), fun f z => (f2 f z).trans (c2 f z), fun f z1 z2 => (f3 f z1 z2).trans (c3 f z1 z2), fun r z => (f4 r z).trans (c4 r z), fun r z => (f5 r z).trans (c5 r z)⟩
theorem BgF.mo (h : BgF g sm stc fs S M M') (h1 : ∀ f, fs f → fs' f) (h2 : ∀ c, S c → S' c) : BgF g sm stc fs' S' M M' := ⟨h.1, h.2.1, h.2.2.1, fun f z => h.2.2.2.1 f (fun y => z (h1 f y)), h.2.2.2.2.1, fun c z => h.2.2.2.2.2.1 c (fun y => z (h2 c y)), h.2.2.2.2.2.2⟩
theorem BgF.wc (hne : g ≠ sm) (k : WcZ sm stc M M') : BgF g sm stc fs S M M' := ⟨k.1, ⟨k.2.1.1, k.2.1.2.1, k.2.1.2.2.2⟩, fun a _ z => k.2.2.1 a z, fun f _ => by rw [k.2.2.1 g hne], fun f z1 z2 => k.2.2.2.1 f z1 z2, fun r _ => by rw [k.2.1.2.2.1], fun r z => k.2.2.2.2 r z⟩
theorem BgF.gm (hne : g ≠ sm) (k : GmF g fs S M M') : BgF g sm stc fs S M M' := ⟨k.1, ⟨k.2.1.1, k.2.1.2.1, k.2.1.2.2.2⟩, fun a z _ => k.2.2.1 a z, fun f z => k.2.2.2.1 f z, fun f _ _ => by rw [k.2.2.1 sm (fun z => hne z.symm)], fun r z => k.2.2.2.2 r z, fun r _ => by rw [k.2.1.2.2.1]⟩
theorem BgF.ar (k : ArF S M M') : BgF g sm stc fs S M M' := ⟨k.1, ⟨k.2.1.2.1, k.2.1.2.2.1, k.2.1.2.2.2.2⟩, fun a _ _ => by rw [k.2.1.1], fun f _ => by rw [k.2.1.1], fun f _ _ => by rw [k.2.1.1], fun r z => k.2.2 r z, fun r _ => by rw [k.2.1.2.2.2.1]⟩
theorem BgF.bw {nx : Nat} (k : BwF g sm stc nx M M') : BgF g sm stc (fun f => f = 9 ∨ f = 12 ∨ f = 13) (fun r => r = nx) M M' := ⟨k.1, k.2.1, k.2.2.1, fun f z => k.2.2.2.1 f (fun y => z (Or.inl y)) (fun y => z (Or.inr (Or.inl y))) (fun y => z (Or.inr (Or.inr y))), k.2.2.2.2.1, k.2.2.2.2.2.1, k.2.2.2.2.2.2⟩
theorem BgF.e (k : BgF g sm stc fs S M M') : mE M M' := ⟨by rw [k.1.1]; exact Nat.le_refl _, by rw [k.1.2.1]; exact Nat.le_refl _, fun a _ => ⟨by rw [k.1.2.2.1], by rw [k.1.2.2.2]⟩⟩
theorem BgF.ok {a q : Nat} (k : BgF g sm stc fs S M M') (o : ok M a q) : ok M' a q := ok_E o k.e
theorem BgF.fr (k : BgF g sm stc fs S M M') : fr (fun c => c = g ∨ c = sm ∨ c = stc ∨ S c) M M' := ⟨k.e, fun c _ hc => ⟨k.2.2.1 c (fun z => hc (Or.inl z)) (fun z => hc (Or.inr (Or.inl z))), by rw [k.2.1.1], by rw [k.2.1.2.1], k.2.2.2.2.2.1 c (fun z => hc (Or.inr (Or.inr (Or.inr z)))), k.2.2.2.2.2.2 c (fun z => hc (Or.inr (Or.inr (Or.inl z)))), by rw [k.2.1.2.2]⟩⟩
variable {c nw nx kp gn wr nP cc mx ia I x lc rc ya na sc a3 b3 Sn : Nat} {ks : Nat → Nat} {cs is ro : List Int32} {X : List Nd} {pl pb len : Nat} {ps : List Nat} {N : Nt} {Y Z : Nat → Int32}
theorem GvS.bg (hS : GvS M g c nw nx kp gn wr nP ks) (k : BgF g sm stc fs S M M') : GvS M' g c nw nx kp gn wr nP ks := by
  obtain ⟨⟨a1, a2, a3, a4, a5, a6, a7⟩, ⟨⟨b1, b2⟩, ⟨b3, b4⟩, ⟨b5, b6⟩, ⟨b7, b8⟩⟩, ⟨c1, c2, c3⟩, d⟩ := hS
  have r := k.2.1.2.1
  have l := k.1.2.2.2
  exact ⟨⟨k.ok a1, by rw [r]; exact a2, by rw [r]; exact a3, by rw [r]; exact a4, by rw [r]; exact a5, by rw [r]; exact a6, by rw [r]; exact a7⟩, ⟨⟨k.ok b1, by rw [l]; exact b2⟩, ⟨k.ok b3, by rw [l]; exact b4⟩, ⟨k.ok b5, by rw [l]; exact b6⟩, ⟨k.ok b7, by rw [l]; exact b8⟩⟩, ⟨k.ok c1, by rw [l]; exact c2, fun i hi => ⟨by rw [k.2.1.2.2]; exact (c3 i hi).1, k.ok (c3 i hi).2.1, by rw [l]; exact (c3 i hi).2.2⟩⟩, d⟩
theorem PlS.bg (hP : PlS M c sm cc stc mx ia I cs) (og : ok M g 4) (n1 : ¬ S cc) (n2 : ¬ S ia) (k : BgF g sm stc fs S M M') : PlS M' c sm cc stc mx ia I cs := by
  obtain ⟨⟨a1, a2, a3, a4, a5⟩, b, ⟨c1, c2⟩, ⟨d1, d2, d3, d4⟩⟩ := hP
  have r := k.2.1.2.1
  have l := k.1.2.2.2
  have ne : c ≠ sm := fun z => by
    have q := b.1.1.2
    rw [← z, a1.2] at q
    exact absurd q (by decide)
  have ng : c ≠ g := fun z => by
    have q := a1.2
    rw [z, og.2] at q
    exact absurd q (by decide)
  obtain ⟨⟨s1, s2, s3, s4, s5, s6, s7, s8⟩, ⟨t1, t2, t3⟩, t4⟩ := b
  exact ⟨⟨k.ok a1, by rw [r]; exact a2, by rw [r]; exact a3, by rw [r]; exact a4, by rw [k.2.2.1 c ng ne]; exact a5⟩, ⟨⟨k.ok s1, by rw [r]; exact s2, k.ok s3, by rw [k.2.2.2.2.1 1 (by decide) (by decide)]; exact s4, by rw [l]; exact s5, by rw [l]; exact s6, by rw [l]; exact s7, fun j hj => by rw [k.2.2.2.2.2.1 cc n1]; exact s8 j hj⟩, ⟨by rw [r]; exact t1, k.ok t2, by rw [l]; exact t3⟩, t4⟩, ⟨k.ok c1, by rw [l]; exact c2⟩, ⟨k.ok d1, by rw [l]; exact d2, d3, fun j hj => by rw [k.2.2.2.2.2.1 ia n2]; exact d4 j hj⟩⟩
theorem SuPt.bg {p f : Nat} (hs : SuPt M X cs p f) (h1 : p ≠ g) (h2 : p ≠ sm) (k : BgF g sm stc fs S M M') : SuPt M' X cs p f := by
  obtain ⟨a, c, pr, po, q1, q2, q3, q4⟩ := hs
  exact ⟨a, c, pr, po, q1, q2, q3, by rw [k.2.2.1 p h1 h2]; exact q4⟩
theorem PtK.nn {p : Nat} (hp : PtK M X cs p) (og : ok M g 4) (os : ok M sm 8) : p ≠ g ∧ p ≠ sm := by
  have o := hp.1
  refine ⟨fun z => ?_, fun z => ?_⟩
  · have w := o.2
    rw [z, og.2] at w
    exact absurd w (by decide)
  · have w := o.2
    rw [z, os.2] at w
    exact absurd w (by decide)
theorem PtK.bg {p : Nat} (hp : PtK M X cs p) (og : ok M g 4) (os : ok M sm 8) (k : BgF g sm stc fs S M M') : PtK M' X cs p := by
  obtain ⟨h1, h2⟩ := hp.nn og os
  obtain ⟨o, q⟩ := hp
  refine ⟨k.ok o, ?_⟩
  rw [k.2.2.1 p h1 h2]
  rcases q with q | ⟨q1, q2, q3⟩ | ⟨q1, q2, q3⟩ | ⟨q1, q2, q3⟩
  · exact Or.inl q
  · exact Or.inr (Or.inl ⟨q1, q2, q3.bg h1 h2 k⟩)
  · exact Or.inr (Or.inr (Or.inl ⟨q1, q2, q3.bg h1 h2 k⟩))
  · exact Or.inr (Or.inr (Or.inr ⟨q1, q2.bg h1 h2 k, q3.bg h1 h2 k⟩))
/-- no cell that changes has this kind -/
theorem bgf_kd {a q : Nat} (og : ok M g 4) (os : ok M sm 8) (o23 : mK M stc = 23) (h21 : ∀ r, S r → mK M r = 21) (e : mK M a = q) (hq : q ≠ 4 ∧ q ≠ 8 ∧ q ≠ 23 ∧ q ≠ 21) : ¬ (a = g ∨ a = sm ∨ a = stc ∨ S a) := by
  rintro (z | z | z | z)
  · rw [z, og.2] at e; exact hq.1 e.symm
  · rw [z, os.2] at e; exact hq.2.1 e.symm
  · rw [z, o23] at e; exact hq.2.2.1 e.symm
  · rw [h21 a z] at e; exact hq.2.2.2 e.symm
theorem ALp.bg {a b ci : Nat} {l : List Nat} (hA : ALp M a b ci l) (og : ok M g 4) (os : ok M sm 8) (o23 : mK M stc = 23) (h21 : ∀ r, S r → mK M r = 21) (k : BgF g sm stc fs S M M') : ALp M' a b ci l := hA.fr k.fr (bgf_kd og os o23 h21 hA.1.2 ⟨by decide, by decide, by decide, by decide⟩) (fun e => bgf_kd og os o23 h21 e ⟨by decide, by decide, by decide, by decide⟩)
theorem ALi.bg {a b : Nat} {xs : List Int32} (hA : ALi M a b xs) (og : ok M g 4) (os : ok M sm 8) (o23 : mK M stc = 23) (h21 : ∀ r, S r → mK M r = 21) (k : BgF g sm stc fs S M M') : ALi M' a b xs := hA.fr k.fr (bgf_kd og os o23 h21 hA.ok1.2 ⟨by decide, by decide, by decide, by decide⟩) (fun e => bgf_kd og os o23 h21 e ⟨by decide, by decide, by decide, by decide⟩) (fun a _ z e => bgf_kd og os o23 h21 e ⟨by decide, by decide, by decide, by decide⟩ z)
theorem BtS.bg (hB : BtS M g c nw nx kp gn wr ks sm cc stc mx ia I cs X pl pb ps Sn ro is len) (h21 : ∀ r, S r → mK M r = 21) (n1 : ¬ S cc) (n2 : ¬ S ia) (k : BgF g sm stc fs S M M') : BtS M' g c nw nx kp gn wr ks sm cc stc mx ia I cs X pl pb ps Sn ro is len := by
  obtain ⟨hS, hP, ⟨p1, p2, p3⟩, hp, hi⟩ := hB
  have og := hS.1.1
  have os := hP.2.1.1.1
  have o23 := hP.2.1.2.1.2.1.2
  refine ⟨hS.bg k, hP.bg og n1 n2 k, ⟨by rw [k.2.1.2.1]; exact p1, p2.bg og os o23 h21 k, p3⟩, fun j hj => ?_, fun j hj => by rw [k.2.2.2.2.2.1 ia n2]; exact hi j hj⟩
  obtain ⟨q1, q2, q3⟩ := hp j hj
  obtain ⟨e1, e2⟩ := q1.nn og os
  exact ⟨q1.bg og os k, by rw [k.2.2.1 _ e1 e2]; exact q2, by rw [k.2.2.1 _ e1 e2]; exact q3⟩
theorem CrL.bg (hL : CrL M x lc rc ya na N Y Z) (og : ok M g 4) (os : ok M sm 8) (hn : ∀ r, S r → r ≠ lc ∧ r ≠ rc ∧ r ≠ ya ∧ r ≠ na) (k : BgF g sm stc fs S M M') : CrL M' x lc rc ya na N Y Z := by
  obtain ⟨⟨o1, c1, o2, c2, o3, i1, q, v, r⟩, ⟨a1, a2, a3, a4⟩, ⟨b1, b2, b3, b4⟩, ⟨e1, e2⟩, t⟩ := hL
  have xg : x ≠ g := fun z => by
    have := o1.2
    rw [z, og.2] at this
    exact absurd this (by decide)
  have xs : x ≠ sm := fun z => by
    have := o1.2
    rw [z, os.2] at this
    exact absurd this (by decide)
  have l := k.1.2.2.2
  have rr := k.2.1.2.1
  have row : ∀ {r : Nat}, (r = lc ∨ r = rc ∨ r = ya ∨ r = na) → mAI M' r = mAI M r := fun {r} z => k.2.2.2.2.2.1 r (fun y => by
    obtain ⟨y1, y2, y3, y4⟩ := hn r y
    rcases z with z | z | z | z
    · exact y1 z
    · exact y2 z
    · exact y3 z
    · exact y4 z)
  exact ⟨⟨k.ok o1, by rw [rr]; exact c1, k.ok o2, by rw [rr]; exact c2, k.ok o3, by rw [k.2.2.1 x xg xs]; exact i1, by rw [l]; exact q, by rw [row (Or.inl rfl), row (Or.inr (Or.inl rfl))]; exact v, r⟩, ⟨by rw [rr]; exact a1, k.ok a2, by rw [l]; exact a3, by rw [l]; exact a4⟩, ⟨by rw [rr]; exact b1, k.ok b2, by rw [l]; exact b3, by rw [l]; exact b4⟩, ⟨by rw [row (Or.inr (Or.inr (Or.inl rfl)))]; exact e1, by rw [row (Or.inr (Or.inr (Or.inr rfl)))]; exact e2⟩, t⟩
theorem CtL.bg (hL : CtL M x lc rc ya na sc a3 b3 Sn is N Y Z) (og : ok M g 4) (os : ok M sm 8) (o23 : mK M stc = 23) (h21 : ∀ r, S r → mK M r = 21) (hn : ∀ r, S r → r ≠ lc ∧ r ≠ rc ∧ r ≠ ya ∧ r ≠ na) (ns : ¬ S sc) (k : BgF g sm stc fs S M M') : CtL M' x lc rc ya na sc a3 b3 Sn is N Y Z := by
  obtain ⟨c, ⟨s1, s2, s3, s4, s5⟩, ⟨t1, t2, t3⟩⟩ := hL
  have rr := k.2.1.2.1
  exact ⟨c.bg og os hn k, ⟨by rw [rr]; exact s1, k.ok s2, by rw [k.1.2.2.2]; exact s3, by rw [k.2.2.2.2.2.1 sc ns]; exact s4, s5⟩, ⟨by rw [rr]; exact t1, t2.bg og os o23 h21 k, t3⟩⟩
end
end
section
/-! a governor's beat: moves are told, wires are recorded -/
/-- rows of a governor; rows of a module -/
def grR (nw nx wr gn : Nat) (ks : Nat → Nat) (r : Nat) : Prop := r = nw ∨ r = nx ∨ r = wr ∨ r = gn ∨ ∃ i, i < 3 ∧ r = ks i
def mrR (cc ia lc rc sc c9 c10 c11 : Nat) (r : Nat) : Prop := r = cc ∨ r = ia ∨ r = lc ∨ r = rc ∨ r = sc ∨ r = c9 ∨ r = c10 ∨ r = c11
def DjR (gr mr : Nat → Prop) (ya na : Nat) : Prop := (∀ r, gr r → r ≠ ya ∧ r ≠ na ∧ ¬ mr r) ∧ ∀ r, mr r → r ≠ ya ∧ r ≠ na
section
variable {M : Mem} {g c nw nx kp gn wr sm cc stc mx ia I pl pb x lc rc ya na sc a3 b3 c9 c10 c11 h : Nat} {ks : Nat → Nat} {cs : List Int32} {X : List Nd} {ps : List Nat} {Y Z : Nat → Int32} {Q : Option Value → Mem → Prop} {τ : Td} {m : Nat} {σ : PS} {root : Nat} {γ : Gh} {g0 n0 gw : Nat} {Z0 P : Nat → Nat → Int32} {zp : Int32} {Ψ1 Ψ2 : Wg} {R : RMo}
theorem S_tellMv (hW : MdW τ m σ root γ g0 n0 gw Z0 P zp Ψ1 Ψ2) (hR : MdR τ m σ R) (h16 : τ.1.length ≤ 16) (hX : X.length ≤ 810) (hB : BtS M g c nw nx kp gn wr ks sm cc stc mx ia I cs X pl pb ps τ.1.length τ.2.1 (ifS σ) Ψ2.1.length) (hL : CtL M x lc rc ya na sc a3 b3 τ.1.length (ifS σ) Ψ2.1 Y Z) (hV : TdV Ψ2.1.length (tbR R Ψ2) Y Z) (rw1 : RoG M nw) (dj : DjR (grR nw nx wr gn ks) (mrR cc ia lc rc sc c9 c10 c11) ya na) (K : ∀ M' Y' Z', BgF g sm stc (fun _ => False) (fun r => r = ya ∨ r = na) M M' → CtL M' x lc rc ya na sc a3 b3 τ.1.length (ifS σ) Ψ2.1 Y' Z' → TdV Ψ2.1.length (tbR R Ψ2) Y' Z' → Q none M') : E (h + 6) mdX2_tellMoves [.ref g, .ref x] M Q := by
  obtain ⟨hS, hP, ⟨p1, p2, p3⟩, -, -⟩ := id hB
  have og := hS.1.1
  have os := hP.2.1.1.1
  have o23 := hP.2.1.2.1.2.1.2
  have gs := hS.nsm os
  have I4 : I ≤ 4 := hP.2.2.2.2.2.1
  have h21 : ∀ r, (r = ya ∨ r = na) → mK M r = 21 := fun r z => by
    rcases z with z | z <;> rw [z]
    · exact hL.1.2.1.2.1.2
    · exact hL.1.2.2.1.2.1.2
  have ncc : ¬ (cc = ya ∨ cc = na) := fun z => z.elim (dj.2 cc (Or.inl rfl)).1 (dj.2 cc (Or.inl rfl)).2
  have nia : ¬ (ia = ya ∨ ia = na) := fun z => z.elim (dj.2 ia (Or.inr (Or.inl rfl))).1 (dj.2 ia (Or.inr (Or.inl rfl))).2
  have nnw : ¬ (nw = ya ∨ nw = na) := fun z => z.elim (dj.1 nw (Or.inl rfl)).1 (dj.1 nw (Or.inl rfl)).2.1
  have l2 : ∀ d i M1 Y1 Z1, i + d = ps.length → BgF g sm stc (fun _ => False) (fun r => r = ya ∨ r = na) M M1 → CtL M1 x lc rc ya na sc a3 b3 τ.1.length (ifS σ) Ψ2.1 Y1 Z1 → TdV Ψ2.1.length (tbR R Ψ2) Y1 Z1 → T (h + 6) mdX2_tellMoves 50 [(0, .ref g), (1, .ref x), (2, .int (Int32.ofNat i))] [] M1 Q := by
    intro d
    induction d with
    | zero =>
      intro i M1 Y1 Z1 hi k1 L1 V1
      obtain ⟨S1, P1, ⟨q1, q2, -⟩, -⟩ := hB.bg h21 ncc nia k1
      refine VX2_tellMoves_50 (h := h + 5) ?_
      unfold DX2_tellMoves_50
      refine ⟨S1.1.1, c, S1.1.2.1, P1.1.1, pl, q1, q2.1, S_alSize (h := h + 4) q2 (fun _ => ⟨_, rfl, fun _ => K M1 Y1 Z1 k1 L1 V1, fun z => absurd ?_ z⟩)⟩
      rw [show i = ps.length by omega]
      exact Int32.le_rfl
    | succ d ih =>
      intro i M1 Y1 Z1 hi k1 L1 V1
      have B1 := hB.bg h21 ncc nia k1
      obtain ⟨S1, P1, ⟨q1, q2, -⟩, hp, -⟩ := id B1
      obtain ⟨t1, t2, -⟩ := hp i (by omega)
      refine VX2_tellMoves_50 (h := h + 5) ?_
      unfold DX2_tellMoves_50 DX2_tellMoves_108
      rw [succ32]
      refine ⟨S1.1.1, c, S1.1.2.1, P1.1.1, pl, q1, q2.1, S_alSize (h := h + 4) q2 (fun _ => ⟨_, rfl, fun z => ?_, fun _ => ⟨c, S1.1.2.1, P1.1.1, pl, q1, q2.1, S_get (h := h + 2) q2 (by omega) (fun _ => ⟨_, rfl, t1.1, fun _ => ih (i + 1) M1 Y1 Z1 (by omega) k1 L1 V1, fun e3 => ?_⟩)⟩⟩)⟩
      · have := (le32 (by omega) (by omega)).mp z
        omega
      have hq : SuPt M1 X cs (ps.getD i 0) 5 ∧ SuPt M1 X cs (ps.getD i 0) 6 := by
        rcases t1.2 with q | q | q | q
        · rw [q] at e3; exact absurd e3 (by decide)
        · rw [q.1] at e3; exact absurd e3 (by decide)
        · rw [q.1] at e3; exact absurd e3 (by decide)
        · exact q.2
      obtain ⟨f, f1, f2⟩ := t2 e3
      refine S_isSo (h := h) hX S1 P1 (rw1.k (k1.2.2.2.2.2.1 nw nnw)) t1.1 hq.1 hq.2 (fun M15 r15 k15 _ _ => ⟨r15, rfl, ?_⟩)
      have kk : BgF g sm stc (fun _ => False) (fun r => r = ya ∨ r = na) M M15 := k1.tr (BgF.wc gs k15)
      have L15 := L1.wc k15 P1.2.1.1.1 P1.2.1.2.1.2.1.2
      have fin : ∀ w : Int32, DX2_tellMoves_105 (h + 5) g x (Int32.ofNat i) x (mI M1 (ps.getD i 0) 4) w M15 Q := by
        intro w
        unfold DX2_tellMoves_105 DX2_tellMoves_108
        rw [f2, succ32]
        refine ⟨L15.1.1.1, S_tfW (h := h + 1) hW L15 V1.1 f1 (fun M2 Y2 Z2 n L2 A2 n1 n2 n3 T2 _ => ⟨rfl, ih (i + 1) M2 Y2 Z2 (by omega) (kk.tr (BgF.ar A2)) L2 (V1.tl T2 ?_)⟩)⟩
        rw [tb_r n3 n2]; rfl
      exact ⟨fun _ => fin _, fun _ => fin _⟩
  have l1 : ∀ d i M1 Y1 Z1, i + d = I → BgF g sm stc (fun _ => False) (fun r => r = ya ∨ r = na) M M1 → CtL M1 x lc rc ya na sc a3 b3 τ.1.length (ifS σ) Ψ2.1 Y1 Z1 → TdV Ψ2.1.length (tbR R Ψ2) Y1 Z1 → T (h + 6) mdX2_tellMoves 2 [(0, .ref g), (1, .ref x), (2, .int (Int32.ofNat i))] [] M1 Q := by
    intro d
    induction d with
    | zero =>
      intro i M1 Y1 Z1 hi k1 L1 V1
      obtain ⟨S1, P1, -⟩ := hB.bg h21 ncc nia k1
      refine VX2_tellMoves_2 (h := h + 5) ?_
      unfold DX2_tellMoves_2
      refine ⟨S1.1.1, c, S1.1.2.1, P1.1.1, fun _ => l2 ps.length 0 M1 Y1 Z1 (by omega) k1 L1 V1, fun z => absurd ?_ z⟩
      rw [P1.1.2.2.2.2, show i = I by omega]
      exact Int32.le_rfl
    | succ d ih =>
      intro i M1 Y1 Z1 hi k1 L1 V1
      obtain ⟨S1, P1, -, -, hin⟩ := hB.bg h21 ncc nia k1
      obtain ⟨s, s1, s2, s3⟩ := hin i (by omega)
      refine VX2_tellMoves_2 (h := h + 5) ?_
      unfold DX2_tellMoves_2
      refine ⟨S1.1.1, c, S1.1.2.1, P1.1.1, fun z => ?_, fun _ => ⟨c, S1.1.2.1, P1.1.1, ia, P1.1.2.2.2.1, P1.2.2.2.1, by rw [P1.2.2.2.2.1]; exact vp_of (by omega) (by decide), ?_⟩⟩
      · rw [P1.1.2.2.2.2] at z
        have := (le32 (by omega) (by omega)).mp z
        omega
      have fin : ∀ w : Int32, DX2_tellMoves_39 (h + 5) g x (Int32.ofNat i) x (mAI M1 ia (Int32.ofNat i).toNatClampNeg) w M1 Q := by
        intro w
        unfold DX2_tellMoves_39
        rw [lt32 (show i < 2147483648 by omega), s3, succ32]
        refine ⟨L1.1.1.1, S_tiW (h := h + 3) hW h16 L1 V1.1 s1 (fun M2 Y2 Z2 L2 A2 T2 _ => ⟨rfl, ih (i + 1) M2 Y2 Z2 (by omega) (k1.tr (BgF.ar A2)) L2 (V1.tl T2 ?_)⟩)⟩
        rw [tb_r (hW.sg s1) (by omega), decide_eq_true ((hR.2.2.2.2 s s1).mpr s2)]; rfl
      exact ⟨fun _ => fin _, fun _ => fin _⟩
  refine KX2_tellMoves (h := h + 5) ?_
  unfold DX2_tellMoves_0
  exact l1 I 0 M Y Z (by omega) BgF.rf hL hV
theorem S_recW {Sn : Nat} {ro is : List Int32} {N : Nt} (hB : BtS M g c nw nx kp gn wr ks sm cc stc mx ia I cs X pl pb ps Sn ro is N.length) (hL : CtL M x lc rc ya na sc a3 b3 Sn is N Y Z) (hC : CoL N.length Y Z) (dj : DjR (grR nw nx wr gn ks) (mrR cc ia lc rc sc c9 c10 c11) ya na) (K : ∀ M', BgF g sm stc (fun _ => False) (fun r => r = wr) M M' → CtL M' x lc rc ya na sc a3 b3 Sn is N Y Z → Q none M') : E (h + 4) mdX2_recordWires [.ref g, .ref x] M Q := by
  obtain ⟨hS, hP, ⟨p1, p2, p3⟩, -, -⟩ := id hB
  have og := hS.1.1
  have os := hP.2.1.1.1
  have o23 := hP.2.1.2.1.2.1.2
  have gs := hS.nsm os
  obtain ⟨w1, w2, w3⟩ := dj.1 wr (Or.inr (Or.inr (Or.inl rfl)))
  have h21 : ∀ r, r = wr → mK M r = 21 := fun r z => by rw [z]; exact hS.2.1.2.2.2.1.2
  have ncc : ¬ (cc = wr) := fun z => w3 (Or.inl z.symm)
  have nia : ¬ (ia = wr) := fun z => w3 (Or.inr (Or.inl z.symm))
  have hn : ∀ r, r = wr → r ≠ lc ∧ r ≠ rc ∧ r ≠ ya ∧ r ≠ na := fun r z => by
    rw [z]
    exact ⟨fun y => w3 (Or.inr (Or.inr (Or.inl y))), fun y => w3 (Or.inr (Or.inr (Or.inr (Or.inl y)))), w1, w2⟩
  have nsc : ¬ (sc = wr) := fun z => w3 (Or.inr (Or.inr (Or.inr (Or.inr (Or.inl z.symm)))))
  have main : ∀ d i M1, i + d = ps.length → BgF g sm stc (fun _ => False) (fun r => r = wr) M M1 → T (h + 4) mdX2_recordWires 2 [(0, .ref g), (1, .ref x), (2, .int (Int32.ofNat i))] [] M1 Q := by
    intro d
    induction d with
    | zero =>
      intro i M1 hi k1
      obtain ⟨S1, -⟩ := hB.bg h21 ncc nia k1
      refine VX2_recordWires_2 (h := h + 3) ?_
      unfold DX2_recordWires_2
      refine ⟨S1.1.1, wr, S1.1.2.2.2.2.2.2, S1.2.1.2.2.2.1, fun _ => K M1 k1 (hL.bg og os o23 h21 hn nsc k1), fun z => absurd ?_ z⟩
      rw [S1.2.1.2.2.2.2, show i = ps.length by omega]
      exact Int32.le_rfl
    | succ d ih =>
      intro i M1 hi k1
      obtain ⟨S1, P1, ⟨q1, q2, -⟩, hp, -⟩ := hB.bg h21 ncc nia k1
      have L1 := hL.bg og os o23 h21 hn nsc k1
      obtain ⟨t1, -, t3⟩ := hp i (by omega)
      obtain ⟨u9, v9, e9⟩ := t3 9 (by decide) (by decide)
      obtain ⟨u10, v10, e10⟩ := t3 10 (by decide) (by decide)
      obtain ⟨u11, v11, e11⟩ := t3 11 (by decide) (by decide)
      obtain ⟨u12, v12, e12⟩ := t3 12 (by decide) (by decide)
      have fin : ∀ w : Int32, DX2_recordWires_45 (h + 3) g x (Int32.ofNat i) (ps.getD i 0) w M1 Q := by
        intro w
        unfold DX2_recordWires_45
        rw [succ32, e9]
        refine ⟨S1.1.1, wr, S1.1.2.2.2.2.2.2, t1.1, L1.1.1.1, S_truth (h := h) L1.1 hC v9 (fun _ => ⟨_, rfl, ?_⟩)⟩
        rw [e10]
        refine S_truth (h := h) L1.1 hC v10 (fun _ => ⟨_, rfl, ?_⟩)
        rw [e11]
        refine S_truth (h := h) L1.1 hC v11 (fun _ => ⟨_, rfl, ?_⟩)
        rw [e12]
        refine S_truth (h := h) L1.1 hC v12 (fun _ => ⟨_, rfl, S1.2.1.2.2.2.1, by rw [S1.2.1.2.2.2.2]; exact vp_of (by omega) (by omega), fun M14 e14 => ?_⟩)
        have k14 : GmF g (fun _ => False) (fun r => r = wr) M1 M14 := GmF.a rfl e14
        exact ih (i + 1) M14 (by omega) (k1.tr (BgF.gm gs k14))
      refine VX2_recordWires_2 (h := h + 3) ?_
      unfold DX2_recordWires_2
      refine ⟨S1.1.1, wr, S1.1.2.2.2.2.2.2, S1.2.1.2.2.2.1, fun z => ?_, fun _ => ⟨c, S1.1.2.1, P1.1.1, pl, q1, q2.1, S_get (h := h) q2 (by omega) (fun _ => ⟨_, rfl, t1.1, nw, S1.1.2.2.1, S1.2.1.1.1, by rw [S1.2.1.1.2]; exact vp_of (n := 0) (by decide) (by decide), fun _ => fin _, fun _ => fin _⟩)⟩⟩
      rw [S1.2.1.2.2.2.2] at z
      have := (le32 (by omega) (by omega)).mp z
      omega
  refine KX2_recordWires (h := h + 3) ?_
  unfold DX2_recordWires_0
  exact main ps.length 0 M (by omega) BgF.rf
end
end
section
/-! a governor's beat, worked to its end -/
/-- what the circuit is asked behind a beat: pauses and the end -/
def CeS (M : Mem) (x c9 c10 c11 pz len : Nat) : Prop := (mI M x 12 = Int32.ofNat pz ∧ pz ≤ 24) ∧ (mR M x 9 = some c9 ∧ ok M c9 21 ∧ mL M c9 = 24 ∧ ∀ p, p < pz → ∃ a, a < 2 * len ∧ mAI M c9 p = Int32.ofNat a) ∧ (mR M x 10 = some c10 ∧ ok M c10 21 ∧ mL M c10 = 24 ∧ ∀ p, p < pz → ∃ a, a < 2 * len ∧ mAI M c10 p = Int32.ofNat a) ∧ (mR M x 11 = some c11 ∧ ok M c11 21 ∧ mL M c11 = 24 ∧ ∀ p, p < pz → ∃ a, a < 2 * len ∧ mAI M c11 p = Int32.ofNat a) ∧ ∃ a, a < 2 * len ∧ mI M x 16 = Int32.ofNat a
section
variable {M M' : Mem} {g c nw nx kp gn wr sm cc stc mx ia I pl pb x lc rc ya na sc a3 b3 c9 c10 c11 pz h len Sn : Nat} {ks : Nat → Nat} {cs is ro : List Int32} {X : List Nd} {ps : List Nat} {Y Z : Nat → Int32} {N : Nt} {Q : Option Value → Mem → Prop} {fs S : Nat → Prop}
theorem CeS.bg (hE : CeS M x c9 c10 c11 pz len) (ox : ok M x 2) (og : ok M g 4) (os : ok M sm 8) (hn : ∀ r, S r → r ≠ c9 ∧ r ≠ c10 ∧ r ≠ c11) (k : BgF g sm stc fs S M M') : CeS M' x c9 c10 c11 pz len := by
  obtain ⟨⟨a1, a2⟩, ⟨b1, b2, b3, b4⟩, ⟨d1, d2, d3, d4⟩, ⟨e1, e2, e3, e4⟩, f⟩ := hE
  have xg : x ≠ g := fun z => by
    have := ox.2
    rw [z, og.2] at this
    exact absurd this (by decide)
  have xs : x ≠ sm := fun z => by
    have := ox.2
    rw [z, os.2] at this
    exact absurd this (by decide)
  have i := k.2.2.1 x xg xs
  have l := k.1.2.2.2
  have r := k.2.1.2.1
  have w := k.2.2.2.2.2.1
  exact ⟨⟨by rw [i]; exact a1, a2⟩, ⟨by rw [r]; exact b1, k.ok b2, by rw [l]; exact b3, by rw [w c9 (fun z => (hn c9 z).1 rfl)]; exact b4⟩, ⟨by rw [r]; exact d1, k.ok d2, by rw [l]; exact d3, by rw [w c10 (fun z => (hn c10 z).2.1 rfl)]; exact d4⟩, ⟨by rw [r]; exact e1, k.ok e2, by rw [l]; exact e3, by rw [w c11 (fun z => (hn c11 z).2.2 rfl)]; exact e4⟩, by rw [i]; exact f⟩
theorem of_cl {len : Nat} {v : Int32} (hl : len < 100000) (h : ∃ a, a < 2 * len ∧ v = Int32.ofNat a) : v = Int32.ofNat v.toNatClampNeg ∧ v.toNatClampNeg < 2 * len := by
  obtain ⟨a, h1, h2⟩ := h
  have e : v.toNatClampNeg = a := by rw [h2]; exact lt32 (by omega)
  rw [e]
  exact ⟨h2, h1⟩
theorem S_setB0 {v : Int32} (hL : CrL M x lc rc ya na N Y Z) (hC : CoL N.length Y Z) (hE : CeS M x c9 c10 c11 pz N.length) (K : ∀ r : Int32, Q (some (.int r)) M) : E (h + 3) mdX0_setBehind [.ref x, .int (Int32.ofNat 0), .int v] M Q := by
  obtain ⟨⟨a1, a2⟩, ⟨b1, b2, b3, b4⟩, ⟨d1, d2, d3, d4⟩, ⟨e1, e2, e3, e4⟩, -⟩ := hE
  have hl := hL.2.2.2.2.2
  exact S_setB (h := h) (l := 0) (g := fun p => (mAI M c9 p).toNatClampNeg) (s := fun p => (mAI M c10 p).toNatClampNeg) (k := fun p => (mAI M c11 p).toNatClampNeg) hL hC (by decide) a1 a2 ⟨b1, b2, b3⟩ ⟨d1, d2, d3⟩ ⟨e1, e2, e3⟩ (fun p hp => of_cl hl (b4 p hp)) (fun p hp => of_cl hl (d4 p hp)) (fun p hp => of_cl hl (e4 p hp)) (K _)
/-- the fields that a beat's work changes -/
def fsB (f : Nat) : Prop := f = 9 ∨ f = 10 ∨ f = 11 ∨ f = 12 ∨ f = 13
theorem S_wkBt (hX : X.length ≤ 810) (h16 : Sn ≤ 16) (hSN : 2 + Sn ≤ N.length) (hB : BtS M g c nw nx kp gn wr ks sm cc stc mx ia I cs X pl pb ps Sn ro is N.length) (hL : CtL M x lc rc ya na sc a3 b3 Sn is N Y Z) (hC : CoL N.length Y Z) (hE : CeS M x c9 c10 c11 pz N.length) (hG : GvR M g nw nx gn ks) (dj : DjR (grR nw nx wr gn ks) (mrR cc ia lc rc sc c9 c10 c11) ya na) (K : ∀ M1 M', BgF g sm stc fsB (fun r => r = nx) M M1 → RoG M1 nx → (M' = M1 ∨ M' = wR (wR M1 g 2 (some nx)) g 3 (some nw)) → Q none M') : E (h + 7) mdX2_workBeat [.ref g, .ref x] M Q := by
  obtain ⟨hS, hP, ⟨p1, p2, p3⟩, -, -⟩ := id hB
  have og := hS.1.1
  have os := hP.2.1.1.1
  have o23 := hP.2.1.2.1.2.1.2
  have gs := hS.nsm os
  obtain ⟨w1, w2, w3⟩ := dj.1 nx (Or.inr (Or.inl rfl))
  have nwx : nw ≠ nx := hS.2.2.2.1
  have ngx : gn ≠ nx := hS.2.2.2.2.2.1
  have h21 : ∀ r, r = nx → mK M r = 21 := fun r z => by rw [z]; exact hS.2.1.2.1.1.2
  have ncc : ¬ (cc = nx) := fun z => w3 (Or.inl z.symm)
  have nia : ¬ (ia = nx) := fun z => w3 (Or.inr (Or.inl z.symm))
  have hn : ∀ r, r = nx → r ≠ lc ∧ r ≠ rc ∧ r ≠ ya ∧ r ≠ na := fun r z => by
    rw [z]
    exact ⟨fun y => w3 (Or.inr (Or.inr (Or.inl y))), fun y => w3 (Or.inr (Or.inr (Or.inr (Or.inl y)))), w1, w2⟩
  have nsc : ¬ (sc = nx) := fun z => w3 (Or.inr (Or.inr (Or.inr (Or.inr (Or.inl z.symm)))))
  have n9 : ∀ r, r = nx → r ≠ c9 ∧ r ≠ c10 ∧ r ≠ c11 := fun r z => by
    rw [z]
    exact ⟨fun y => w3 (Or.inr (Or.inr (Or.inr (Or.inr (Or.inr (Or.inl y)))))), fun y => w3 (Or.inr (Or.inr (Or.inr (Or.inr (Or.inr (Or.inr (Or.inl y))))))), fun y => w3 (Or.inr (Or.inr (Or.inr (Or.inr (Or.inr (Or.inr (Or.inr y)))))))⟩
  have v26 : ∀ {k n : Nat}, k = 26 → n < 26 → vp_in (Int32.ofNat n) k := fun e hn => by rw [e]; exact vp_of hn (by decide)
  -- the beat's end
  have f196 : ∀ (s : Int32) M1, BgF g sm stc fsB (fun r => r = nx) M M1 → RoG M1 nx → DX2_workBeat_196 (h + 6) g g s M1 Q := by
    intro s M1 k1 r1
    unfold DX2_workBeat_196
    refine ⟨k1.ok og, fun M2 e2 => ?_⟩
    have k2 : BgF g sm stc fsB (fun r => r = nx) M M2 := k1.tr (BgF.gm gs (GmF.i (Or.inr (Or.inr (Or.inl rfl))) e2))
    have S2 := hS.bg k2
    refine ⟨S2.1.1, nw, S2.1.2.2.1, nx, S2.1.2.2.2.1, fun M6 e6 M7 e7 => K M2 M7 k2 (r1.k (by rw [e2]; rfl)) (Or.inr ?_)⟩
    rw [e7, e6]
  have f108 : ∀ M1, BgF g sm stc fsB (fun r => r = nx) M M1 → RoG M1 nx → DX2_workBeat_108 (h + 6) g x M1 Q := by
    intro M1 k1 r1
    have S1 := hS.bg k1
    have L1 := hL.bg og os o23 h21 hn nsc k1
    unfold DX2_workBeat_108
    refine ⟨S1.1.1, fun _ => ⟨L1.1.1.1, S_shown (h := h + 3) (l := 0) (g := fun s => sgT Sn s) L1.1 hC (by decide) L1.2.1.1 L1.2.1.2.1 L1.2.1.2.2.1 (fun s hs => ⟨L1.2.1.2.2.2.1 s hs, ?_⟩) (fun _ => ⟨_, rfl, fun M5 e5 => ?_⟩)⟩, fun _ M26 e26 => K M26 M26 (k1.tr (BgF.gm gs (GmF.i (Or.inr (Or.inr (Or.inl rfl))) e26))) (r1.k (by rw [e26]; rfl)) (Or.inl rfl)⟩
    · show sgT Sn s < _
      unfold sgT
      split <;> omega
    have k5 : BgF g sm stc fsB (fun r => r = nx) M M5 := k1.tr (BgF.gm gs (GmF.i (Or.inr (Or.inl rfl)) e5))
    have S5 := hS.bg k5
    have L5 := hL.bg og os o23 h21 hn nsc k5
    have E5 := hE.bg hL.1.1.1 og os n9 k5
    have r5 : RoG M5 nx := r1.k (by rw [e5]; rfl)
    refine ⟨nx, S5.1.2.2.2.1, nw, S5.1.2.2.1, S5.2.1.1.1, v26 (n := 0) S5.2.1.1.2 (by decide), S_setB0 (h := h + 3) L5.1 hC E5 (fun r10 _ => ⟨r10, rfl, S5.2.1.2.1.1, v26 (n := 0) S5.2.1.2.1.2 (by decide), fun M12 e12 => ?_⟩)⟩
    have k12 : BgF g sm stc fsB (fun r => r = nx) M M12 := k5.tr (BgF.gm gs (GmF.a rfl e12))
    have S12 := hS.bg k12
    have r12 : RoG M12 nx := r5.up (fun z => absurd z (by decide)) e12
    refine ⟨nx, S12.1.2.2.2.1, S12.2.1.2.1.1, v26 (n := 1) S12.2.1.2.1.2 (by decide), fun M15 e15 => ?_⟩
    have k15 : BgF g sm stc fsB (fun r => r = nx) M M15 := k12.tr (BgF.gm gs (GmF.a rfl e15))
    have S15 := hS.bg k15
    have r15 : RoG M15 nx := r12.up (fun z => absurd z (by decide)) e15
    refine ⟨nx, S15.1.2.2.2.1, S15.2.1.2.1.1, v26 (n := 2) S15.2.1.2.1.2 (by decide), v26 (n := 2) S15.2.1.2.1.2 (by decide), fun M18 e18 => ?_⟩
    have k18 : BgF g sm stc fsB (fun r => r = nx) M M18 := k15.tr (BgF.gm gs (GmF.a rfl e18))
    have S18 := hS.bg k18
    have L18 := hL.bg og os o23 h21 hn nsc k18
    have r18 : RoG M18 nx := r15.up (fun z => absurd z (by decide)) e18
    obtain ⟨a, a1, a2⟩ := (hE.bg hL.1.1.1 og os n9 k18).2.2.2.2
    rw [a2]
    refine ⟨nx, S18.1.2.2.2.1, S_truth (h := h + 3) L18.1 hC a1 (fun _ => ⟨_, rfl, S18.2.1.2.1.1, v26 (n := 3) S18.2.1.2.1.2 (by decide), fun M23 e23 => ?_⟩)⟩
    have k23 : BgF g sm stc fsB (fun r => r = nx) M M23 := k18.tr (BgF.gm gs (GmF.a rfl e23))
    have S23 := hS.bg k23
    have r23 : RoG M23 nx := r18.up (fun z => absurd z (by decide)) e23
    exact ⟨nx, S23.1.2.2.2.1, S23.2.1.2.1.1, v26 (n := 3) S23.2.1.2.1.2 (by decide), fun _ => f196 _ M23 k23 r23, fun _ => f196 _ M23 k23 r23⟩
  have main : ∀ d i M1, i + d = ps.length → BgF g sm stc fsB (fun r => r = nx) M M1 → RoG M1 nx → T (h + 7) mdX2_workBeat 26 [(0, .ref g), (1, .ref x), (2, .int (Int32.ofNat i))] [] M1 Q := by
    intro d
    induction d with
    | zero =>
      intro i M1 hi k1 r1
      obtain ⟨S1, P1, ⟨q1, q2, -⟩, -⟩ := hB.bg h21 ncc nia k1
      refine VX2_workBeat_26 (h := h + 6) ?_
      unfold DX2_workBeat_26
      refine ⟨S1.1.1, c, S1.1.2.1, P1.1.1, pl, q1, q2.1, S_alSize (h := h + 5) q2 (fun _ => ⟨_, rfl, fun _ => f108 M1 k1 r1, fun z => absurd ?_ z⟩)⟩
      rw [show i = ps.length by omega]
      exact Int32.le_rfl
    | succ d ih =>
      intro i M1 hi k1 r1
      obtain ⟨S1, P1, ⟨q1, q2, -⟩, hp, -⟩ := hB.bg h21 ncc nia k1
      have L1 := hL.bg og os o23 h21 hn nsc k1
      obtain ⟨t1, -, t3⟩ := hp i (by omega)
      obtain ⟨u9, v9, e9⟩ := t3 9 (by decide) (by decide)
      have nx1 : ∀ Ma, BgF g sm stc fsB (fun r => r = nx) M Ma → RoG Ma nx → DX2_workBeat_102 (h + 6) g x (Int32.ofNat i) Ma Q := fun Ma ka ra => by
        unfold DX2_workBeat_102
        rw [succ32]
        exact ih (i + 1) Ma (by omega) ka ra
      have f99 : ∀ (s : Int32) Ma, BgF g sm stc fsB (fun r => r = nx) M Ma → RoG Ma nx → DX2_workBeat_99 (h + 6) g x (Int32.ofNat i) g s Ma Q := by
        intro s Ma ka ra
        unfold DX2_workBeat_99
        exact ⟨ka.ok og, fun M2 e2 => nx1 M2 (ka.tr (BgF.gm gs (GmF.i (Or.inr (Or.inr (Or.inr (Or.inr rfl)))) e2))) (ra.k (by rw [e2]; rfl))⟩
      refine VX2_workBeat_26 (h := h + 6) ?_
      unfold DX2_workBeat_26
      refine ⟨S1.1.1, c, S1.1.2.1, P1.1.1, pl, q1, q2.1, S_alSize (h := h + 5) q2 (fun _ => ⟨_, rfl, fun z => ?_, fun _ => ⟨fun _ => f108 M1 k1 r1, fun _ => ⟨c, S1.1.2.1, P1.1.1, pl, q1, q2.1, S_get (h := h + 3) q2 (by omega) (fun _ => ⟨_, rfl, t1.1, fun _ => nx1 M1 k1 r1, fun n0 => ⟨L1.1.1.1, ?_⟩⟩)⟩⟩⟩)⟩
      · have := (le32 (by omega) (by omega)).mp z
        omega
      rw [e9]
      refine S_isOn (h := h + 4) (l := 0) L1.1 hC v9 (by decide) (fun _ => ⟨_, rfl, fun _ => nx1 M1 k1 r1, fun _ => ?_⟩)
      refine S_wkPt (h := h) hX S1 P1 (hG.1.k (k1.2.2.2.2.2.1 nw nwx)) r1 t1 n0 (fun M18 b18 r18 _ => ⟨rfl, ?_⟩)
      have k18 : BgF g sm stc fsB (fun r => r = nx) M M18 := k1.tr ((BgF.bw b18).mo (fun f z => by unfold fsB; omega) (fun r z => z))
      exact ⟨fun _ => f99 _ M18 k18 r18, fun _ => f99 _ M18 k18 r18⟩
  refine KX2_workBeat (h := h + 6) ?_
  unfold DX2_workBeat_0
  refine ⟨og, nw, hS.1.2.2.1, nx, hS.1.2.2.2.1, hS.2.1.1.1, hS.2.1.2.1.1, ⟨by decide, by decide, by decide, by rw [hS.2.1.1.2]; decide, by rw [hS.2.1.2.1.2]; decide⟩, fun M6 e6 => ?_⟩
  have k6 : BgF g sm stc fsB (fun r => r = nx) M M6 := BgF.gm gs (GmF.cp rfl e6)
  obtain ⟨S6, P6, -⟩ := hB.bg h21 ncc nia k6
  have r6 : RoG M6 nx := fun k x1 x2 => by
    have : mAI M6 nx k = mAI M nw k := by
      rw [e6]
      show va_up (mAI M) nx (va_cpy (mAI M nw) (mAI M nx) 0 0 26) nx k = _
      rw [va_up_self]
      unfold va_cpy
      rw [if_pos ⟨Nat.zero_le _, by omega⟩, Nat.zero_add, Nat.sub_zero]
    rw [this]
    exact hG.1 k x1 x2
  refine S_takG (h := h + 5) S6 P6 (fun z => nia z.symm) r6 (fun j hj => by rw [k6.2.2.2.2.2.1 gn ngx]; exact hG.2.2.2.1 j hj) (fun M7 k7 r7 _ => ⟨rfl, fun M8 e8 => ?_⟩)
  have k8 : BgF g sm stc fsB (fun r => r = nx) M M8 := (k6.tr ((BgF.gm gs k7).mo (fun f z => z.elim) (fun r z => z))).tr (BgF.gm gs (GmF.i (Or.inl rfl) e8))
  exact main ps.length 0 M8 (by omega) k8 (r7.k (by rw [e8]; rfl))
end
end
section
/-! a governor's beat, whole -/
/-- what a beat leaves -/
def ReF (g sm stc x ya0 na0 nw nx wr len : Nat) (M : Mem) (ya na nw' nx' : Nat) (M' : Mem) : Prop := fr (fun a => a = g ∨ a = sm ∨ a = stc ∨ a = x ∨ a = ya0 ∨ a = na0 ∨ a = nw ∨ a = nx ∨ a = wr) M M' ∧ (mI M' x = mI M x ∧ mJ M' x = mJ M x ∧ (∀ f, f ≠ 2 → f ≠ 3 → mR M' x f = mR M x f) ∧ mR M' x 2 = some ya ∧ mR M' x 3 = some na) ∧ ((∀ f, f ≠ 3 → f ≠ 4 → mI M' sm f = mI M sm f) ∧ mR M' sm = mR M sm ∧ mR M' stc = mR M stc ∧ mI M' stc = mI M stc) ∧ mI M' g 5 = mI M g 5 ∧ ((ya = ya0 ∧ na = na0 ∧ mN M' = mN M ∧ mS M' = mS M) ∨ (ya = mN M ∧ na = mN M + 1 ∧ mN M' = mN M + 2 ∧ mS M' = mS M + 2 * len ∧ mL M ya0 < len)) ∧ (ok M' ya 21 ∧ len ≤ mL M' ya ∧ mL M' ya < 1000000 ∧ ok M' na 21 ∧ len ≤ mL M' na ∧ mL M' na < 1000000) ∧ (nw' = nw ∧ nx' = nx ∨ nw' = nx ∧ nx' = nw)
section
variable {M M' M1 : Mem} {g sm stc x ya0 na0 nw nx wr len ya na nw' nx' c kp gn nP : Nat} {ks : Nat → Nat} {X : List Nd} {cs : List Int32}
theorem PtK.row {p : Nat} (hp : PtK M X cs p) (e : mI M' p = mI M p) (o : ok M' p 5) : PtK M' X cs p := by
  have sp : ∀ {f : Nat}, SuPt M X cs p f → SuPt M' X cs p f := fun {f} hs => by
    obtain ⟨a, c, pr, po, q1, q2, q3, q4⟩ := hs
    exact ⟨a, c, pr, po, q1, q2, q3, by rw [e]; exact q4⟩
  refine ⟨o, ?_⟩
  rw [e]
  rcases hp.2 with q | ⟨q1, q2, q3⟩ | ⟨q1, q2, q3⟩ | ⟨q1, q2, q3⟩
  · exact Or.inl q
  · exact Or.inr (Or.inl ⟨q1, q2, sp q3⟩)
  · exact Or.inr (Or.inr (Or.inl ⟨q1, q2, sp q3⟩))
  · exact Or.inr (Or.inr (Or.inr ⟨q1, sp q2, sp q3⟩))
/-- a number of the governor is written -/
theorem ReF.gi (h : ReF g sm stc x ya0 na0 nw nx wr len M ya na nw' nx' M1) (k : GmF g (fun f => f = 6) noP M1 M') (xg : x ≠ g) (sg : sm ≠ g) (tg : stc ≠ g) : ReF g sm stc x ya0 na0 nw nx wr len M ya na nw' nx' M' := by
  obtain ⟨f, ⟨a1, a2, a3, a4, a5⟩, ⟨b1, b2, b3, b4⟩, c1, d1, ⟨e1, e2, e3, e4, e5, e6⟩, h1⟩ := h
  have l := k.1.2.2.2
  have r := k.2.1.2.1
  refine ⟨f.tr k.fr (fun a _ z => z.elim (fun z => Or.inl z) (fun z => z.elim)), ⟨by rw [k.2.2.1 x xg]; exact a1, by rw [k.2.1.1]; exact a2, by rw [r]; exact a3, by rw [r]; exact a4, by rw [r]; exact a5⟩, ⟨by rw [k.2.2.1 sm sg]; exact b1, by rw [r]; exact b2, by rw [r]; exact b3, by rw [k.2.2.1 stc tg]; exact b4⟩, by rw [k.2.2.2.1 5 (by decide)]; exact c1, by rw [k.1.1, k.1.2.1]; exact d1, ⟨k.ok e1, by rw [l]; exact e2, by rw [l]; exact e3, k.ok e4, by rw [l]; exact e5, by rw [l]; exact e6⟩, h1⟩
/-- now and next are changed for each other -/
theorem ReF.sw {p q : Option Nat} (h : ReF g sm stc x ya0 na0 nw nx wr len M ya na nw' nx' M1) (e : M' = wR (wR M1 g 2 p) g 3 q) (xg : x ≠ g) (sg : sm ≠ g) (tg : stc ≠ g) : ReF g sm stc x ya0 na0 nw nx wr len M ya na nw' nx' M' := by
  obtain ⟨f, ⟨a1, a2, a3, a4, a5⟩, ⟨b1, b2, b3, b4⟩, c1, d1, ⟨e1, e2, e3, e4, e5, e6⟩, h1⟩ := h
  have rx : ∀ a, a ≠ g → mR M' a = mR M1 a := fun a ha => by
    rw [e]
    funext f
    rw [mR_wR, if_neg (fun z => ha z.1), mR_wR, if_neg (fun z => ha z.1)]
  have fr1 : fr (fun a => a = g) M1 M' := by
    rw [e]
    exact (fr_wR (S := fun a => a = g) rfl).tr (fr_wR (S := fun a => a = g) rfl) (fun _ _ z => z)
  refine ⟨f.tr fr1 (fun a _ z => Or.inl z), ⟨by rw [e]; exact a1, by rw [e]; exact a2, by rw [rx x xg]; exact a3, by rw [rx x xg]; exact a4, by rw [rx x xg]; exact a5⟩, ⟨by rw [e]; exact b1, by rw [rx sm sg]; exact b2, by rw [rx stc tg]; exact b3, by rw [e]; exact b4⟩, by rw [e]; exact c1, by rw [e]; exact d1, by rw [e]; exact ⟨e1, e2, e3, e4, e5, e6⟩, h1⟩
theorem GvS.sw (hS : GvS M g c nw nx kp gn wr nP ks) (e : M' = wR (wR M g 2 (some nx)) g 3 (some nw)) : GvS M' g c nx nw kp gn wr nP ks := by
  obtain ⟨⟨a1, a2, a3, a4, a5, a6, a7⟩, ⟨b1, b2, b3, b4⟩, c1, ⟨d1, d2, d3, d4, d5, d6, d7⟩⟩ := hS
  have r : ∀ f, f ≠ 2 → f ≠ 3 → mR M' g f = mR M g f := fun f f2 f3 => by
    rw [e, mR_wR, if_neg (fun z => f3 z.2), mR_wR, if_neg (fun z => f2 z.2)]
  have r2 : mR M' g 2 = some nx := by rw [e, mR_wR, if_neg (fun z => absurd z.2 (by decide)), mR_wR, if_pos ⟨rfl, rfl⟩]
  have r3 : mR M' g 3 = some nw := by rw [e, mR_wR, if_pos ⟨rfl, rfl⟩]
  refine ⟨⟨by rw [e]; exact a1, by rw [r 0 (by decide) (by decide)]; exact a2, r2, r3, by rw [r 4 (by decide) (by decide)]; exact a5, by rw [r 7 (by decide) (by decide)]; exact a6, by rw [r 8 (by decide) (by decide)]; exact a7⟩, by rw [e]; exact ⟨b2, b1, b3, b4⟩, by rw [e]; exact c1, ⟨fun z => d1 z.symm, d3, d2, d5, d4, d6, fun i hi => ⟨(d7 i hi).2.1, (d7 i hi).1, (d7 i hi).2.2⟩⟩⟩
end
section
variable {M : Mem} {g c nw nx kp gn wr sm cc stc mx ia I pl pb x lc rc ya0 na0 a1 a2 b1 b2 bc sc a3 b3 c9 c10 c11 pz h : Nat} {ks : Nat → Nat} {cs hl : List Int32} {X : List Nd} {ps : List Nat} {Q : Option Value → Mem → Prop} {τ : Td} {m : Nat} {σ : PS} {root : Nat} {γ : Gh} {g0 n0 gw : Nat} {Z0 P : Nat → Nat → Int32} {zp : Int32} {Ψ1 Ψ2 : Wg} {R : RMo} {zn fn y0 q0 : Nat}
theorem S_react (hW : MdW τ m σ root γ g0 n0 gw Z0 P zp Ψ1 Ψ2) (hT : TwT (woS τ m σ γ) R zn fn y0 root q0) (hR : MdR τ m σ R) (h16 : τ.1.length ≤ 16) (hX : X.length ≤ 810) (hbig : mN M + 2 < mBig) (hB : BtS M g c nw nx kp gn wr ks sm cc stc mx ia I cs X pl pb ps τ.1.length τ.2.1 (ifS σ) Ψ2.1.length) (hx : mR M c 7 = some x) (hc : CsW M x lc rc ya0 na0 a1 a2 b1 b2 bc sc a3 b3 τ σ Ψ2 hl) (hE : CeS M x c9 c10 c11 pz Ψ2.1.length) (hG : GvR M g nw nx gn ks) (dj : DjR (grR nw nx wr gn ks) (mrR cc ia lc rc sc c9 c10 c11) ya0 na0) (K : ∀ M' ya na nw' nx' (r : Int32), ReF g sm stc x ya0 na0 nw nx wr Ψ2.1.length M ya na nw' nx' M' → GvS M' g c nw' nx' kp gn wr ps.length ks → GvR M' g nw' nx' gn ks → Q (some (.int r)) M') : E (h + 8) mdX2_react [.ref g] M Q := by
  obtain ⟨hS, hP, ⟨p1, p2, p3⟩, -, -⟩ := id hB
  have og := hS.1.1
  have os := hP.2.1.1.1
  have ot := hP.2.1.2.1.2.1
  have gs := hS.nsm os
  have ox := hc.1.1.1
  have kne : ∀ {a b p q : Nat}, ok M a p → ok M b q → p ≠ q → a ≠ b := fun {a b p q} o1 o2 hp e => by
    rw [e] at o1
    exact hp (o1.2.symm.trans o2.2)
  have onw := hS.2.1.1.1
  have onx := hS.2.1.2.1.1
  have ogn := hS.2.1.2.2.1.1
  have owr := hS.2.1.2.2.2.1
  have oy := hc.1.2.1.2.1
  have on := hc.1.2.2.1.2.1
  obtain ⟨l1, l2, l3, l4⟩ := hW.ln
  -- behind forgetting
  refine KX2_react (h := h + 7) ?_
  unfold DX2_react_0
  refine ⟨og, c, hS.1.2.1, hP.1.1, x, hx, S_forg (h := h + 6) hS (fun M5 k5 _ _ => ⟨rfl, ?_⟩)⟩
  have kb5 : BgF g sm stc (fun f => f = 10 ∨ f = 12 ∨ f = 13) noP M M5 := BgF.gm gs k5
  have np21 : ∀ r, noP r → mK M r = 21 := fun r z => z.elim
  have B5 := hB.bg np21 (fun z => z) (fun z => z) kb5
  have S5 := B5.1
  have E5 : CeS M5 x c9 c10 c11 pz Ψ2.1.length := hE.bg ox og os (fun r z => z.elim) kb5
  have G5 : GvR M5 g nw nx gn ks := hG.i k5 (by omega)
  have c5 : CsW M5 x lc rc ya0 na0 a1 a2 b1 b2 bc sc a3 b3 τ σ Ψ2 hl := by
    obtain ⟨⟨⟨o1, q1, o2, q2, o3, i1, qq, v, r⟩, ⟨r1, r2, r3⟩, ⟨s1, s2, s3, s4⟩, n, gg, f15, ⟨u1, u2, u3, u4, u5⟩, ⟨w1, w2, w3, w4⟩⟩, hq, hb, ⟨t1, t2, t3, t4, t5⟩, ⟨z1, z2, z3⟩⟩ := id hc
    have xg := kne ox og (by decide)
    have l := kb5.1.2.2.2
    have rr := kb5.2.1.2.1
    have ai : ∀ r, mAI M5 r = mAI M r := fun r => kb5.2.2.2.2.2.1 r (fun z => z)
    have ii : mI M5 x = mI M x := kb5.2.2.1 x xg (kne ox os (by decide))
    exact ⟨⟨⟨kb5.ok o1, by rw [rr]; exact q1, kb5.ok o2, by rw [rr]; exact q2, kb5.ok o3, by rw [ii]; exact i1, by rw [l]; exact qq, by rw [ai, ai]; exact v, r⟩, ⟨by rw [rr]; exact r1, kb5.ok r2, by rw [l]; exact r3⟩, ⟨by rw [rr]; exact s1, kb5.ok s2, by rw [l]; exact s3, by rw [l]; exact s4⟩, n, gg, by rw [ii]; exact f15, ⟨by rw [rr]; exact u1, by rw [rr]; exact u2, u3.bg og os ot.2 np21 kb5, u4.bg og os ot.2 np21 kb5, u5⟩, ⟨by rw [rr]; exact w1, kb5.ok w2, by rw [l]; exact w3, w4⟩⟩, hq, by rw [ai]; exact hb, ⟨by rw [rr]; exact t1, kb5.ok t2, by rw [l]; exact t3, by rw [ai]; exact t4, t5⟩, ⟨by rw [rr]; exact z1, z2.bg og os ot.2 np21 kb5, z3⟩⟩
  have n5 : mN M5 = mN M := kb5.1.1
  have fin : ∀ (v0 v1 v2 : Int32), DX2_react_39 (h + 7) g x x v0 v1 v2 M5 Q := by
    intro v0 v1 v2
    unfold DX2_react_39
    refine ⟨kb5.ok ox, S_stW (h := h + 3) (R := R) (Is := fun _ => (v0, fun s => if btL v1 s = true then 1 else 0, fun _ => 0, if v2 = 0 then 0 else 1, fun _ => 0)) (ift := fun _ _ => 0) hW hT c5 h16 (by omega) (fun _ => rfl) (fun _ _ _ => rfl) (fun _ => ?_) (fun M2 ya na Y2 Z2 L2 St T2 _ => ⟨rfl, ?_⟩)⟩
    · have e : iFi (v0, fun s => if btL v1 s = true then 1 else 0, fun _ => 0, if v2 = 0 then 0 else 1, fun _ => 0) = if v2 = 0 then 0 else 1 := rfl
      rw [e]
      by_cases z : v2 = 0
      · rw [if_pos z, if_neg (by decide)]
      · rw [if_neg z, if_pos rfl]
    -- the circuit stands
    have F2 := St.1
    have o5 : ∀ {a q : Nat}, ok M a q → ok M5 a q := fun z => kb5.ok z
    have row : ∀ {a : Nat}, ok M a 21 → a ≠ ya0 → a ≠ na0 → sameRow M5 M2 a := fun {a} o n1 n2 => F2.2 a (o5 o).1 (fun z => by
      rcases z with z | z | z
      · exact kne o ox (by decide) z
      · exact n1 z
      · exact n2 z)
    have rowk : ∀ {a q : Nat}, ok M a q → q ≠ 2 → q ≠ 21 → sameRow M5 M2 a := fun {a q} o n1 n2 => F2.2 a (o5 o).1 (fun z => by
      rcases z with z | z | z
      · exact kne o ox n1 z
      · exact kne o oy n2 z
      · exact kne o on n2 z)
    have o2 : ∀ {a q : Nat}, ok M a q → ok M2 a q := fun z => ok_E (o5 z) F2.1
    have len2 : ∀ {a q : Nat}, ok M a q → mL M2 a = mL M a := fun {a q} z => by
      rw [(F2.1.2.2 a (o5 z).1).2, kb5.1.2.2.2]
    have gr : ∀ {r : Nat}, grR nw nx wr gn ks r → r ≠ ya0 ∧ r ≠ na0 := fun z => ⟨(dj.1 _ z).1, (dj.1 _ z).2.1⟩
    have oks : ∀ i, i < 3 → ok M (ks i) 21 := fun i hi => (hS.2.2.1.2.2 i hi).2.1
    have gro : ∀ {r : Nat}, grR nw nx wr gn ks r → ok M r 21 := fun z => by
      rcases z with z | z | z | z | ⟨i, hi, z⟩ <;> rw [z]
      · exact onw
      · exact onx
      · exact owr
      · exact ogn
      · exact oks i hi
    have grr : ∀ {r : Nat}, grR nw nx wr gn ks r → mAI M2 r = mAI M5 r := fun z => (row (gro z) (gr z).1 (gr z).2).2.2.2.1
    obtain ⟨⟨y1, y2, y3, y4, y5, y6, y7⟩, ⟨⟨y8, y9⟩, ⟨y10, y11⟩, ⟨y12, y13⟩, ⟨y14, y15⟩⟩, ⟨y16, y17, y18⟩, y19⟩ := id S5
    have rg := rowk og (by decide) (by decide)
    have S2 : GvS M2 g c nw nx kp gn wr ps.length ks := by
      have kpo := hS.2.2.1.1
      refine ⟨⟨o2 og, by rw [rg.2.2.1]; exact y2, by rw [rg.2.2.1]; exact y3, by rw [rg.2.2.1]; exact y4, by rw [rg.2.2.1]; exact y5, by rw [rg.2.2.1]; exact y6, by rw [rg.2.2.1]; exact y7⟩, ⟨⟨o2 onw, by rw [len2 onw]; exact hS.2.1.1.2⟩, ⟨o2 onx, by rw [len2 onx]; exact hS.2.1.2.1.2⟩, ⟨o2 ogn, by rw [len2 ogn]; exact hS.2.1.2.2.1.2⟩, ⟨o2 owr, by rw [len2 owr]; exact hS.2.1.2.2.2.2⟩⟩, ⟨o2 kpo, by rw [len2 kpo]; exact hS.2.2.1.2.1, fun i hi => ⟨by rw [(rowk kpo (by decide) (by decide)).2.2.2.2.2]; exact (y18 i hi).1, o2 (oks i hi), by rw [len2 (oks i hi)]; exact (hS.2.2.1.2.2 i hi).2.2⟩⟩, y19⟩
    have mr : ∀ {r : Nat}, mrR cc ia lc rc sc c9 c10 c11 r → r ≠ ya0 ∧ r ≠ na0 := fun z => dj.2 _ z
    have occ := hP.2.1.1.2.2.1
    have oia := hP.2.2.2.1
    have omx := hP.2.2.1.1
    have P2 : PlS M2 c sm cc stc mx ia I cs := by
      obtain ⟨⟨d1, d2, d3, d4, d5⟩, ⟨⟨e1, e2, e3, e4, e5, e6, e7, e8⟩, ⟨f1, f2, f3⟩, f4⟩, ⟨j1, j2⟩, ⟨k1, k2, k3, k4⟩⟩ := id B5.2.1
      have rc' := rowk hP.1.1 (by decide) (by decide)
      have rs := rowk os (by decide) (by decide)
      have rcc := row occ (mr (Or.inl rfl)).1 (mr (Or.inl rfl)).2
      have ria := row oia (mr (Or.inr (Or.inl rfl))).1 (mr (Or.inr (Or.inl rfl))).2
      have l5 : ∀ {a q : Nat}, ok M a q → mL M2 a = mL M5 a := fun {a q} z => (F2.1.2.2 a (o5 z).1).2
      exact ⟨⟨o2 hP.1.1, by rw [rc'.2.2.1]; exact d2, by rw [rc'.2.2.1]; exact d3, by rw [rc'.2.2.1]; exact d4, by rw [rc'.1]; exact d5⟩, ⟨⟨o2 os, by rw [rs.2.2.1]; exact e2, o2 occ, by rw [rs.1]; exact e4, by rw [l5 occ]; exact e5, by rw [l5 occ]; exact e6, by rw [l5 occ]; exact e7, by rw [rcc.2.2.2.1]; exact e8⟩, ⟨by rw [rs.2.2.1]; exact f1, o2 ot, by rw [l5 ot]; exact f3⟩, f4⟩, ⟨o2 omx, by rw [l5 omx]; exact j2⟩, ⟨o2 oia, by rw [l5 oia]; exact k2, k3, by rw [ria.2.2.2.1]; exact k4⟩⟩
    have B2 : BtS M2 g c nw nx kp gn wr ks sm cc stc mx ia I cs X pl pb ps τ.1.length τ.2.1 (ifS σ) Ψ2.1.length := by
      obtain ⟨-, -, ⟨u1, u2, u3⟩, u4, u5⟩ := id B5
      have ria := row oia (mr (Or.inr (Or.inl rfl))).1 (mr (Or.inr (Or.inl rfl))).2
      have kk : ∀ {d q : Nat}, (d = x ∨ d = ya0 ∨ d = na0) → mK M5 d = q → q = 2 ∨ q = 21 := fun {d q} z e => by
        rcases z with z | z | z
        · rw [z, (o5 ox).2] at e; exact Or.inl e.symm
        · rw [z, (o5 oy).2] at e; exact Or.inr e.symm
        · rw [z, (o5 on).2] at e; exact Or.inr e.symm
      refine ⟨S2, P2, ⟨by rw [(rowk hP.1.1 (by decide) (by decide)).2.2.1]; exact u1, u2.fr F2 (fun z => by rcases kk z u2.1.2 with q | q <;> exact absurd q (by decide)) (fun hb z => by rcases kk z hb with q | q <;> exact absurd q (by decide)), u3⟩, fun j hj => ?_, by rw [ria.2.2.2.1]; exact u5⟩
      obtain ⟨v1, v2, v3⟩ := u4 j hj
      have rp := rowk (hB.2.2.2.1 j hj).1.1 (by decide) (by decide)
      exact ⟨v1.row rp.1 (o2 (hB.2.2.2.1 j hj).1.1), by rw [rp.1]; exact v2, by rw [rp.1]; exact v3⟩
    have o9 := hE.2.1.2.1
    have o10 := hE.2.2.1.2.1
    have o11 := hE.2.2.2.1.2.1
    have r9 := mr (r := c9) (Or.inr (Or.inr (Or.inr (Or.inr (Or.inr (Or.inl rfl))))))
    have r10 := mr (r := c10) (Or.inr (Or.inr (Or.inr (Or.inr (Or.inr (Or.inr (Or.inl rfl)))))))
    have r11 := mr (r := c11) (Or.inr (Or.inr (Or.inr (Or.inr (Or.inr (Or.inr (Or.inr rfl)))))))
    have E2 : CeS M2 x c9 c10 c11 pz Ψ2.1.length := by
      obtain ⟨⟨d1, d2⟩, ⟨e1, e2, e3, e4⟩, ⟨f1, f2, f3, f4⟩, ⟨j1, j2, j3, j4⟩, k1⟩ := id E5
      have ix := St.2.1.1
      have rx := St.2.1.2.2
      have l5 : ∀ {a q : Nat}, ok M a q → mL M2 a = mL M5 a := fun {a q} z => (F2.1.2.2 a (o5 z).1).2
      exact ⟨⟨by rw [ix]; exact d1, d2⟩, ⟨by rw [rx 9 (by decide) (by decide)]; exact e1, o2 o9, by rw [l5 o9]; exact e3, by rw [(row o9 r9.1 r9.2).2.2.2.1]; exact e4⟩, ⟨by rw [rx 10 (by decide) (by decide)]; exact f1, o2 o10, by rw [l5 o10]; exact f3, by rw [(row o10 r10.1 r10.2).2.2.2.1]; exact f4⟩, ⟨by rw [rx 11 (by decide) (by decide)]; exact j1, o2 o11, by rw [l5 o11]; exact j3, by rw [(row o11 r11.1 r11.2).2.2.2.1]; exact j4⟩, by rw [ix]; exact k1⟩
    have mro : ∀ {r : Nat}, mrR cc ia lc rc sc c9 c10 c11 r → r < mN M := fun z => by
      rcases z with z | z | z | z | z | z | z | z <;> rw [z]
      · exact occ.1
      · exact oia.1
      · exact hc.1.1.2.2.1.1
      · exact hc.1.1.2.2.2.2.1.1
      · exact hc.2.2.2.1.2.1.1
      · exact o9.1
      · exact o10.1
      · exact o11.1
    have ynew : (ya = ya0 ∧ na = na0) ∨ (ya = mN M ∧ na = mN M + 1) := by
      rcases St.2.2 with ⟨q1, q2, -⟩ | ⟨q1, q2, -⟩
      · exact Or.inl ⟨q1, q2⟩
      · rw [n5] at q1 q2; exact Or.inr ⟨q1, q2⟩
    have dj2 : DjR (grR nw nx wr gn ks) (mrR cc ia lc rc sc c9 c10 c11) ya na := by
      rcases ynew with ⟨q1, q2⟩ | ⟨q1, q2⟩
      · rw [q1, q2]; exact dj
      · refine ⟨fun r z => ?_, fun r z => ?_⟩
        · have := (gro z).1
          exact ⟨by omega, by omega, (dj.1 r z).2.2⟩
        · have := mro z
          omega
    have G2 : GvR M2 g nw nx gn ks := by
      obtain ⟨d1, d2, d3, d4, q, d5, d6⟩ := id G5
      exact ⟨d1.k (grr (Or.inl rfl)), d2.k (grr (Or.inr (Or.inl rfl))), fun i hi => (d3 i hi).k (grr (Or.inr (Or.inr (Or.inr (Or.inr ⟨i, hi, rfl⟩))))), fun j hj => by rw [grr (Or.inr (Or.inr (Or.inr (Or.inl rfl))))]; exact d4 j hj, q, d5, by rw [rg.1]; exact d6⟩
    -- what follows in the governor
    have h21 : ∀ r, (r = ya ∨ r = na ∨ r = wr ∨ r = nx) → mK M2 r = 21 := fun r z => by
      rcases z with z | z | z | z <;> rw [z]
      · exact L2.1.2.1.2.1.2
      · exact L2.1.2.2.1.2.1.2
      · exact (o2 owr).2
      · exact (o2 onx).2
    have fin2 : ∀ M1 M10, BgF g sm stc fsB (fun r => r = ya ∨ r = na ∨ r = wr ∨ r = nx) M2 M1 → RoG M1 nx → (M10 = M1 ∨ M10 = wR (wR M1 g 2 (some nx)) g 3 (some nw)) → DX2_react_76 (h + 7) g M10 Q := by
      intro M1 M10 kC r1 e10
      have S1 := S2.bg kC
      have o1 : ∀ {a q : Nat}, ok M a q → ok M1 a q := fun z => kC.ok (o2 z)
      have xg := kne ox og (by decide)
      have xs := kne ox os (by decide)
      have st : ∀ {r : Nat}, grR nw nx wr gn ks r → r ≠ wr → r ≠ nx → mAI M1 r = mAI M2 r := fun {r} z n1 n2 => kC.2.2.2.2.2.1 r (fun y => by
        obtain ⟨z1, z2, -⟩ := dj2.1 r z
        rcases y with y | y | y | y
        · exact z1 y
        · exact z2 y
        · exact n1 y
        · exact n2 y)
      obtain ⟨t1, t2, t3, t4, t5, t6, t7⟩ := hS.2.2.2
      have G1 : GvR M1 g nw nx gn ks := by
        obtain ⟨d1, d2, d3, d4, q, d5, d6⟩ := id G2
        exact ⟨d1.k (st (Or.inl rfl) (fun z => t4 z.symm) t1), r1, fun i hi => (d3 i hi).k (st (Or.inr (Or.inr (Or.inr (Or.inr ⟨i, hi, rfl⟩)))) (t7 i hi).2.2.2 (t7 i hi).2.1), fun j hj => by rw [st (Or.inr (Or.inr (Or.inr (Or.inl rfl)))) (fun z => t6 z.symm) t3]; exact d4 j hj, q, d5, by rw [kC.2.2.2.1 5 (by unfold fsB; omega)]; exact d6⟩
      have fA : fr (fun a => a = g ∨ a = sm ∨ a = stc ∨ a = x ∨ a = ya0 ∨ a = na0 ∨ a = nw ∨ a = nx ∨ a = wr) M M5 := kb5.fr.more (fun a _ z => by
        rcases z with z | z | z | z
        · exact Or.inl z
        · exact Or.inr (Or.inl z)
        · exact Or.inr (Or.inr (Or.inl z))
        · exact z.elim)
      have fB := fA.tr F2 (fun a _ z => by
        rcases z with z | z | z
        · exact Or.inr (Or.inr (Or.inr (Or.inl z)))
        · exact Or.inr (Or.inr (Or.inr (Or.inr (Or.inl z))))
        · exact Or.inr (Or.inr (Or.inr (Or.inr (Or.inr (Or.inl z))))))
      have fC := fB.tr kC.fr (fun a ha z => by
        rcases z with z | z | z | z | z | z | z
        · exact Or.inl z
        · exact Or.inr (Or.inl z)
        · exact Or.inr (Or.inr (Or.inl z))
        · rcases ynew with ⟨q1, q2⟩ | ⟨q1, q2⟩
          · exact Or.inr (Or.inr (Or.inr (Or.inr (Or.inl (z.trans q1)))))
          · omega
        · rcases ynew with ⟨q1, q2⟩ | ⟨q1, q2⟩
          · exact Or.inr (Or.inr (Or.inr (Or.inr (Or.inr (Or.inl (z.trans q2))))))
          · omega
        · exact Or.inr (Or.inr (Or.inr (Or.inr (Or.inr (Or.inr (Or.inr (Or.inr z)))))))
        · exact Or.inr (Or.inr (Or.inr (Or.inr (Or.inr (Or.inr (Or.inr (Or.inl z))))))))
      have rs := rowk os (by decide) (by decide)
      have rt := rowk ot (by decide) (by decide)
      have sg := kne os og (by decide)
      have tg := kne ot og (by decide)
      have ts := kne ot os (by decide)
      have L1 : CrL M1 x lc rc ya na Ψ2.1 (mAI M1 ya) (mAI M1 na) ∨ True := Or.inr trivial
      have ly : ok M1 ya 21 ∧ Ψ2.1.length ≤ mL M1 ya ∧ mL M1 ya < 1000000 := ⟨kC.ok L2.1.2.1.2.1, by rw [kC.1.2.2.2]; exact L2.1.2.1.2.2.1, by rw [kC.1.2.2.2]; exact L2.1.2.1.2.2.2⟩
      have ln : ok M1 na 21 ∧ Ψ2.1.length ≤ mL M1 na ∧ mL M1 na < 1000000 := ⟨kC.ok L2.1.2.2.1.2.1, by rw [kC.1.2.2.2]; exact L2.1.2.2.1.2.2.1, by rw [kC.1.2.2.2]; exact L2.1.2.2.1.2.2.2⟩
      have base : ∀ nw' nx', (nw' = nw ∧ nx' = nx ∨ nw' = nx ∧ nx' = nw) → ReF g sm stc x ya0 na0 nw nx wr Ψ2.1.length M ya na nw' nx' M1 := by
        intro nw' nx' hh
        refine ⟨fC, ⟨?_, ?_, fun f f2 f3 => ?_, ?_, ?_⟩, ⟨fun f f3 f4 => ?_, ?_, ?_, ?_⟩, ?_, ?_, ⟨ly.1, ly.2.1, ly.2.2, ln.1, ln.2.1, ln.2.2⟩, hh⟩
        · rw [kC.2.2.1 x xg xs, St.2.1.1, kb5.2.2.1 x xg xs]
        · rw [kC.2.1.1, St.2.1.2.1, kb5.2.1.1]
        · rw [kC.2.1.2.1, St.2.1.2.2 f f2 f3, kb5.2.1.2.1]
        · rw [kC.2.1.2.1]; exact L2.1.2.1.1
        · rw [kC.2.1.2.1]; exact L2.1.2.2.1.1
        · rw [kC.2.2.2.2.1 f f3 f4, rs.1, kb5.2.2.2.2.1 f f3 f4]
        · rw [kC.2.1.2.1, rs.2.2.1, kb5.2.1.2.1]
        · rw [kC.2.1.2.1, rt.2.2.1, kb5.2.1.2.1]
        · rw [kC.2.2.1 stc tg ts, rt.1, kb5.2.2.1 stc tg ts]
        · rw [kC.2.2.2.1 5 (by unfold fsB; omega), rg.1, kb5.2.2.2.1 5 (by omega)]
        · rw [kC.1.1, kC.1.2.1]
          have s5 : mS M5 = mS M := kb5.1.2.1
          rcases St.2.2 with ⟨q1, q2, q3, q4⟩ | ⟨q1, q2, q3, q4, q5⟩
          · exact Or.inl ⟨q1, q2, by rw [q3, n5], by rw [q4, s5]⟩
          · exact Or.inr ⟨by rw [q1, n5], by rw [q2, n5], by rw [q3, n5], by rw [q4, s5], by rw [← kb5.1.2.2.2]; exact q5⟩
      unfold DX2_react_76
      rcases e10 with e10 | e10
      · rw [e10]
        refine ⟨o1 og, fun M7 e7 => ?_⟩
        have k7 : GmF g (fun f => f = 6) noP M1 M7 := GmF.i rfl e7
        refine K M7 ya na nw nx _ ((base nw nx (Or.inl ⟨rfl, rfl⟩)).gi k7 xg sg tg) (S1.gm k7) (G1.i k7 (by omega))
      · have w1 : ok M10 g 4 := by rw [e10]; exact o1 og
        refine ⟨w1, fun M7 e7 => ?_⟩
        have k7 : GmF g (fun f => f = 6) noP M10 M7 := GmF.i rfl e7
        have S10 : GvS M10 g c nx nw kp gn wr ps.length ks := S1.sw e10
        have G10 : GvR M10 g nx nw gn ks := by
          obtain ⟨d1, d2, d3, d4, d5⟩ := id G1
          rw [e10]
          exact ⟨d2, d1, d3, d4, d5⟩
        exact K M7 ya na nx nw _ (((base nx nw (Or.inr ⟨rfl, rfl⟩)).sw e10 xg sg tg).gi k7 xg sg tg) (S10.gm k7) (G10.i k7 (by omega))
    -- moves, wires, work
    have ncc := mr (r := cc) (Or.inl rfl)
    refine ⟨o2 og, S_tellMv (h := h + 1) hW hR h16 hX B2 L2 T2.v G2.1 dj2 (fun M4 Y4 Z4 k4 L4 V4 _ => ⟨rfl, L4.1.1.1, S_settle (h := h + 4) (hW.nts hT hR hc.2.1 L4.1.1.2.2.2.2.2.2.2.2.1) L4.1 V4.j (fun M6 Y6 Z6 L6 A6 J6 _ _ => ⟨rfl, ?_⟩)⟩)⟩
    have k6 : BgF g sm stc (fun _ => False) (fun r => r = ya ∨ r = na) M2 M6 := k4.tr (BgF.ar A6)
    have L6' := L4.ar A6 L6
    have og2 := o2 og
    have os2 := o2 os
    have h6 : ∀ r, (r = ya ∨ r = na) → mK M2 r = 21 := fun r z => h21 r (by rcases z with z | z; exact Or.inl z; exact Or.inr (Or.inl z))
    have m2 : ∀ {r : Nat}, mrR cc ia lc rc sc c9 c10 c11 r → ¬ (r = ya ∨ r = na) := fun z y => y.elim (dj2.2 _ z).1 (dj2.2 _ z).2
    have B6 := B2.bg h6 (m2 (Or.inl rfl)) (m2 (Or.inr (Or.inl rfl))) k6
    have E6 := E2.bg L2.1.1.1 og2 os2 (fun r z => ⟨fun y => m2 (Or.inr (Or.inr (Or.inr (Or.inr (Or.inr (Or.inl rfl)))))) (y ▸ z), fun y => m2 (Or.inr (Or.inr (Or.inr (Or.inr (Or.inr (Or.inr (Or.inl rfl))))))) (y ▸ z), fun y => m2 (Or.inr (Or.inr (Or.inr (Or.inr (Or.inr (Or.inr (Or.inr rfl))))))) (y ▸ z)⟩) k6
    refine S_recW (h := h + 3) B6 L6' J6.1 dj2 (fun M7 k7 L7 _ => ⟨rfl, S_stuck (h := h + 6) L7.1 (fun r9 _ _ => ⟨r9, rfl, ?_⟩)⟩)
    obtain ⟨-, -, wmr⟩ := dj2.1 wr (Or.inr (Or.inr (Or.inl rfl)))
    have k7' : BgF g sm stc fsB (fun r => r = ya ∨ r = na ∨ r = wr ∨ r = nx) M2 M7 := (k6.mo (fun f z => z.elim) (fun r z => by rcases z with z | z; exact Or.inl z; exact Or.inr (Or.inl z))).tr (k7.mo (fun f z => z.elim) (fun r z => Or.inr (Or.inr (Or.inl z))))
    have B7 := B6.bg (fun r z => by rw [z]; exact B6.1.2.1.2.2.2.1.2) (fun z => wmr (Or.inl z.symm)) (fun z => wmr (Or.inr (Or.inl z.symm))) k7
    have E7 := E6.bg L6'.1.1.1 B6.1.1.1 B6.2.1.2.1.1.1 (fun r z => by
      rw [z]
      exact ⟨fun y => wmr (Or.inr (Or.inr (Or.inr (Or.inr (Or.inr (Or.inl y)))))), fun y => wmr (Or.inr (Or.inr (Or.inr (Or.inr (Or.inr (Or.inr (Or.inl y))))))), fun y => wmr (Or.inr (Or.inr (Or.inr (Or.inr (Or.inr (Or.inr (Or.inr y)))))))⟩) k7
    obtain ⟨t1, t2, t3, t4, t5, t6, t7⟩ := hS.2.2.2
    have rr : ∀ {r : Nat}, grR nw nx wr gn ks r → r ≠ wr → mAI M7 r = mAI M2 r := fun {r} z n1 => by
      rw [k7.2.2.2.2.2.1 r n1, k6.2.2.2.2.2.1 r (fun y => y.elim (dj2.1 r z).1 (dj2.1 r z).2.1)]
    have G7 : GvR M7 g nw nx gn ks := by
      obtain ⟨d1, d2, d3, d4, q, d5, d6⟩ := id G2
      exact ⟨d1.k (rr (Or.inl rfl) (fun z => t4 z.symm)), d2.k (rr (Or.inr (Or.inl rfl)) (fun z => t5 z.symm)), fun i hi => (d3 i hi).k (rr (Or.inr (Or.inr (Or.inr (Or.inr ⟨i, hi, rfl⟩)))) (t7 i hi).2.2.2), fun j hj => by rw [rr (Or.inr (Or.inr (Or.inr (Or.inl rfl)))) (fun z => t6 z.symm)]; exact d4 j hj, q, d5, by rw [k7'.2.2.2.1 5 (by unfold fsB; omega)]; exact d6⟩
    refine ⟨fun _ => S_wkBt (h := h) hX h16 (by omega) B7 L7 J6.1 E7 G7 dj2 (fun M1 M10 kb r1 e10 _ => ⟨rfl, fin2 M1 M10 (k7'.tr (kb.mo (fun f z => z) (fun r z => Or.inr (Or.inr (Or.inr z))))) r1 e10⟩), fun _ M11 e11 => fin2 M11 M11 (k7'.tr (BgF.gm gs (GmF.i (Or.inr (Or.inr (Or.inl rfl))) e11))) (G7.2.1.k (by rw [e11]; rfl)) (Or.inl rfl)⟩
  exact ⟨nw, S5.1.2.2.1, S5.2.1.1.1, by rw [S5.2.1.1.2]; exact vp_of (n := 0) (by decide) (by decide), nw, S5.1.2.2.1, S5.2.1.1.1, by rw [S5.2.1.1.2]; exact vp_of (n := 1) (by decide) (by decide), nw, S5.1.2.2.1, S5.2.1.1.1, by rw [S5.2.1.1.2]; exact vp_of (n := 2) (by decide) (by decide), fun _ => fin _ _ _, fun _ => fin _ _ _⟩
end
end
section
/-! the reference's beat: what is present, the wires kept -/
section
variable {R : RMo} {I : RIn} {sl : List Nat} {M M' : Mem} {ρ : Plc → Nat} {h np i : Nat} {Q : Option Value → Mem → Prop}
theorem RmS.br (hS : RmS R sl M) (r : ∀ c, c < 95 → mAI M' c = mAI M c) : RmS R sl M' := by
  obtain ⟨a, b, c, d, e, f1, f2, f3, f4, f5, f6⟩ := hS
  exact ⟨a, fun q y h1 h2 hy => by rw [r q (by omega)]; exact b q y h1 h2 hy, fun y hy => by rw [r 87 (by decide), r 88 (by decide)]; exact c y hy, fun q p h1 h2 h3 h4 => by rw [r q (by omega)]; exact d q p h1 h2 h3 h4, fun k hk => by rw [r 45 (by decide), r 46 (by decide), r 47 (by decide)]; exact e k hk, by rw [r 79 (by decide)]; exact f1, by rw [r 92 (by decide)]; exact f2, by rw [r 94 (by decide)]; exact f3, fun j hj => by rw [r 93 (by decide)]; exact f4 j hj, by rw [r 34 (by decide)]; exact f5, fun s hs => by rw [r 38 (by decide)]; exact f6 s hs⟩
theorem RbI.br (hI : RbI R I M) (F : Fix M') (k : ∀ f, 84 ≤ f → f ≤ 89 → mI M' 29 f = mI M 29 f) : RbI R I M' := by
  obtain ⟨i1, i2, i3, i4, i5, i6⟩ := hI
  exact ⟨F, by rw [k 84 (by decide) (by decide)]; exact i2, by rw [k 85 (by decide) (by decide)]; exact i3, fun s hs => by rw [k 86 (by decide) (by decide)]; exact i4 s hs, by rw [k 89 (by decide) (by decide)]; exact i5, fun j hj => by rw [k 88 (by decide) (by decide)]; exact i6 j hj⟩
/-- what is present now -/
theorem R_prNow (hS : RmS R sl M) (F : Fix M) (em : mI M 29 84 = Int32.ofNat (moM R)) (K : ∀ r : Int32, Q (some (.int r)) M) : E (h + 1) mdX11_presentNow [.ref 29] M Q := by
  have m4 := hS.1.1
  have q16 := hS.1.2.2.1
  have e34 := hS.2.2.2.2.2.2.2.2.2.1
  have main : ∀ d s (w : Int32), s + d = moQ R → T (h + 1) mdX11_presentNow 4 [(0, .ref 29), (1, .int w), (2, .int (Int32.ofNat s))] [] M Q := by
    intro d
    induction d with
    | zero =>
      intro s w hs
      refine VX11_presentNow_4 ?_
      unfold DX11_presentNow_4
      rw [em, lt32 (show moM R < 2147483648 by omega)]
      refine ⟨ok29 F, 34, rf29_8 F, ok34 F, by rw [ln34 F]; exact vp_of (by omega) (by decide), fun _ => K w, fun z => absurd ?_ z⟩
      rw [e34, show s = moQ R by omega]
      exact Int32.le_rfl
    | succ d ih =>
      intro s w hs
      refine VX11_presentNow_4 ?_
      unfold DX11_presentNow_4 DX11_presentNow_35
      rw [em, lt32 (show moM R < 2147483648 by omega), succ32]
      refine ⟨ok29 F, 34, rf29_8 F, ok34 F, by rw [ln34 F]; exact vp_of (by omega) (by decide), fun z => ?_, fun _ => ⟨100, rf29_82 F, ok100 F, by rw [ln100 F]; exact vp_of (by omega) (by decide), fun _ => ih (s + 1) _ (by omega), fun _ => ih (s + 1) _ (by omega)⟩⟩
      rw [e34] at z
      have := (le32 (by omega) (by omega)).mp z
      omega
  refine KX11_presentNow ?_
  unfold DX11_presentNow_0
  exact main (moQ R) 0 0 (by omega)
/-- the wires of a governor are kept -/
theorem R_kpW (hS : RmS R sl M) (hI : RbI R I M) (hV : RSv R ρ M) (hi : i < 8) (enp : mAI M 54 (moM R) = Int32.ofNat np) (np40 : np ≤ 40) (hn : ∀ j, j < np → ∃ y, inR R y ∧ mAI M 90 (40 * moM R + j) = Int32.ofNat y) (K : ∀ M', RfF noP (fun c => c = 117) noP M M' → Q none M') : E (h + 2) mdX11_keepWires [.ref 29, .int (Int32.ofNat i)] M Q := by
  have m4 := hS.1.1
  have c3 := hS.1.2.2.2.1
  have main : ∀ d j M1, j + d = np → RfF noP (fun c => c = 117) noP M M1 → T (h + 2) mdX11_keepWires 2 [(0, .ref 29), (1, .int (Int32.ofNat i)), (2, .int (Int32.ofNat j))] [] M1 Q := by
    intro d
    induction d with
    | zero =>
      intro j M1 hj k1
      have F1 := RfF.fix k1 hI.1 (fun z => z)
      have e1 : mI M1 29 84 = Int32.ofNat (moM R) := by rw [k1.2.2.2.1 84 (fun z => z)]; exact hI.2.1
      have e2 : mAI M1 54 (moM R) = Int32.ofNat np := by rw [k1.2.2.2.2.1 54 (by decide)]; exact enp
      refine VX11_keepWires_2 (h := h + 1) ?_
      unfold DX11_keepWires_2
      rw [e1, lt32 (show moM R < 2147483648 by omega)]
      refine ⟨ok29 F1, 54, rf29_34 F1, ok54 F1, by rw [ln54 F1]; exact vp_of (by omega) (by decide), fun _ => K M1 k1, fun z => absurd ?_ z⟩
      rw [e2, show j = np by omega]
      exact Int32.le_rfl
    | succ d ih =>
      intro j M1 hj k1
      have F1 := RfF.fix k1 hI.1 (fun z => z)
      have e1 : mI M1 29 84 = Int32.ofNat (moM R) := by rw [k1.2.2.2.1 84 (fun z => z)]; exact hI.2.1
      have e2 : mAI M1 54 (moM R) = Int32.ofNat np := by rw [k1.2.2.2.2.1 54 (by decide)]; exact enp
      obtain ⟨y, hy, ey⟩ := hn j (by omega)
      obtain ⟨b1, b2, b3⟩ := hy.b hS
      have ey1 : mAI M1 90 (40 * moM R + j) = Int32.ofNat y := by rw [k1.2.2.2.2.1 90 (by decide)]; exact ey
      have e40 : 40 * Int32.ofNat (moM R) + Int32.ofNat j = Int32.ofNat (40 * moM R + j) := by rw [Int32.ofNat_add, Int32.ofNat_mul]; rfl
      have e200 : 200 * Int32.ofNat i + 5 * Int32.ofNat j = Int32.ofNat (200 * i + 5 * j) := by rw [Int32.ofNat_add, Int32.ofNat_mul, Int32.ofNat_mul]; rfl
      have ad : ∀ q : Nat, Int32.ofNat (200 * i + 5 * j) + Int32.ofNat q = Int32.ofNat (200 * i + 5 * j + q) := fun q => (Int32.ofNat_add _ _).symm
      have v117 : ∀ {q : Nat} {Ma : Mem}, Fix Ma → q < 5 → vp_in (Int32.ofNat (200 * i + 5 * j + q)) (mL Ma 117) := fun F hq => by rw [ln117 F]; exact vp_of (by omega) (by decide)
      have at' : ∀ {Ma : Mem}, RfF noP (fun c => c = 117) noP M Ma → Fix Ma ∧ RmS R sl Ma ∧ RbI R I Ma ∧ RSv R ρ Ma := fun {Ma} ka => by
        have Fa := RfF.fix ka hI.1 (fun z => z)
        exact ⟨Fa, hS.br (fun c hc => ka.2.2.2.2.1 c (by omega)), hI.br Fa (fun f _ _ => ka.2.2.2.1 f (fun z => z)), hV.rm (fun c _ _ => ka.2.2.2.2.1 c (by omega))⟩
      have f90 : ∀ (w : Int32) Ma, RfF noP (fun c => c = 117) noP M Ma → DX11_keepWires_90 (h + 1) 29 (Int32.ofNat i) (Int32.ofNat j) (Int32.ofNat y) (Int32.ofNat (200 * i + 5 * j)) 117 (Int32.ofNat (200 * i + 5 * j) + Int32.ofNat 1) w Ma Q := by
        intro w Ma ka
        unfold DX11_keepWires_90
        obtain ⟨Fa, -⟩ := at' ka
        rw [succ32]
        refine ⟨ok117 Fa, by rw [ad]; exact v117 Fa (by decide), fun M2 e2 => ?_⟩
        have k2 : RfF noP (fun c => c = 117) noP M M2 := ka.tr (RfF.ai rfl e2)
        obtain ⟨F2, S2, I2, V2⟩ := at' k2
        refine ⟨ok29 F2, 117, rf29_107 F2, R_k (h := h) (n := 0) S2 I2 V2 hy (by omega) (fun _ => ⟨_, rfl, ok117 F2, by rw [show (2 : Int32) = Int32.ofNat 2 from rfl, ad]; exact v117 F2 (by decide), fun M8 e8 => ?_⟩)⟩
        have k8 : RfF noP (fun c => c = 117) noP M M8 := k2.tr (RfF.ai rfl e8)
        obtain ⟨F8, S8, I8, V8⟩ := at' k8
        refine ⟨117, rf29_107 F8, R_k (h := h) (n := 1) S8 I8 V8 hy (by omega) (fun _ => ⟨_, rfl, ok117 F8, by rw [show (3 : Int32) = Int32.ofNat 3 from rfl, ad]; exact v117 F8 (by decide), fun M13 e13 => ?_⟩)⟩
        have k13 : RfF noP (fun c => c = 117) noP M M13 := k8.tr (RfF.ai rfl e13)
        obtain ⟨F13, S13, I13, V13⟩ := at' k13
        refine ⟨117, rf29_107 F13, R_k (h := h) (n := 2) S13 I13 V13 hy (by omega) (fun _ => ⟨_, rfl, ok117 F13, by rw [show (4 : Int32) = Int32.ofNat 4 from rfl, ad]; exact v117 F13 (by decide), fun M18 e18 => ih (j + 1) M18 (by omega) (k13.tr (RfF.ai rfl e18))⟩)⟩
      refine VX11_keepWires_2 (h := h + 1) ?_
      unfold DX11_keepWires_2
      rw [e1, lt32 (show moM R < 2147483648 by omega), e40, e200, lt32 (show 40 * moM R + j < 2147483648 by omega)]
      refine ⟨ok29 F1, 54, rf29_34 F1, ok54 F1, by rw [ln54 F1]; exact vp_of (by omega) (by decide), fun z => ?_, fun _ => ⟨90, rf29_72 F1, ok90 F1, by rw [ln90 F1]; exact vp_of (by omega) (by decide), ?_⟩⟩
      · rw [e2] at z
        have := (le32 (by omega) (by omega)).mp z
        omega
      rw [ey1, ix700 b3 (by omega), lt32 (show y < 2147483648 by omega)]
      refine ⟨117, rf29_107 F1, 95, rf29_77 F1, ok95 F1, by rw [ln95 F1]; exact vp_of (by omega) (by decide), ok117 F1, v117 (q := 0) F1 (by decide), fun M10 e10 => ?_⟩
      have k10 : RfF noP (fun c => c = 117) noP M M10 := k1.tr (RfF.ai rfl e10)
      obtain ⟨F10, -⟩ := at' k10
      exact ⟨117, rf29_107 F10, 87, rf29_69 F10, ok87 F10, by rw [ln87 F10]; exact vp_of (by omega) (by decide), fun _ => f90 _ M10 k10, fun _ => f90 _ M10 k10⟩
  refine KX11_keepWires (h := h + 1) ?_
  unfold DX11_keepWires_0
  exact main np 0 M (by omega) RfF.rf
end
end
section
/-! the reference's beat: what is set behind it -/
section
variable {R : RMo} {sl : List Nat} {M : Mem} {h : Nat} {Q : Option Value → Mem → Prop}
theorem R_setNow (hS : RmS R sl M) (F : Fix M) (em : mI M 29 84 = Int32.ofNat (moM R)) (K : ∀ r : Int32, Q (some (.int r)) M) : E (h + 1) mdX11_setNow [.ref 29] M Q := by
  have m4 := hS.1.1
  have e79 := hS.2.2.2.2.2.1
  have s7 : (moS R).1 ≤ 700 := hS.1.2.1.1.2
  have e700 : 700 * Int32.ofNat (moM R) = Int32.ofNat (700 * moM R) := by rw [Int32.ofNat_mul]; rfl
  have e7s : Int32.ofNat (700 * moM R) + Int32.ofNat (moS R).1 = Int32.ofNat (700 * moM R + (moS R).1) := (Int32.ofNat_add _ _).symm
  have main : ∀ d y (w : Int32), y + d = 700 * moM R + (moS R).1 → 700 * moM R ≤ y → T (h + 1) mdX11_setNow 11 [(0, .ref 29), (1, .int w), (2, .int (Int32.ofNat y))] [] M Q := by
    intro d
    induction d with
    | zero =>
      intro y w hy1 hy2
      refine VX11_setNow_11 ?_
      unfold DX11_setNow_11
      rw [em, lt32 (show moM R < 2147483648 by omega)]
      refine ⟨ok29 F, 79, rf29_61 F, ok79 F, by rw [ln79 F]; exact vp_of (by omega) (by decide), fun _ => K w, fun z => absurd ?_ z⟩
      rw [e79, e700, e7s, show y = 700 * moM R + (moS R).1 by omega]
      exact Int32.le_rfl
    | succ d ih =>
      intro y w hy1 hy2
      have v28 : ∀ {k : Nat}, k = 2800 → vp_in (Int32.ofNat y) k := fun e => by rw [e]; exact vp_of (by omega) (by decide)
      have v7 : ∀ {k : Nat}, k = 700 → vp_in (Int32.ofNat (y - 700 * moM R)) k := fun e => by rw [e]; exact vp_of (by omega) (by decide)
      have f118 : ∀ w2 : Int32, DX11_setNow_118 h 29 w2 (Int32.ofNat y) M Q := fun w2 => by
        unfold DX11_setNow_118
        rw [succ32]
        exact ih (y + 1) w2 (by omega) (by omega)
      have f109 : ∀ w2 : Int32, DX11_setNow_109 h 29 w2 (Int32.ofNat y) M Q := fun w2 => by
        unfold DX11_setNow_109
        exact ⟨ok29 F, 87, rf29_69 F, ok87 F, v28 (ln87 F), f118 _⟩
      have f73 : ∀ b : Int32, DX11_setNow_73 h 29 w (Int32.ofNat y) (Int32.ofNat (y - 700 * moM R)) b M Q := fun b => by
        unfold DX11_setNow_73
        exact ⟨ok29 F, 80, rf29_62 F, ok80 F, v28 (ln80 F), fun _ => f118 _, fun _ => ⟨98, rf29_80 F, ok98 F, v7 (ln98 F), fun _ => f118 _, fun _ => ⟨95, rf29_77 F, ok95 F, v7 (ln95 F), fun _ => f109 _, fun _ => ⟨fun _ => f118 _, fun _ => f109 _⟩⟩⟩⟩
      refine VX11_setNow_11 ?_
      unfold DX11_setNow_11 DX11_setNow_72
      rw [em, lt32 (show moM R < 2147483648 by omega), ix700 hy2 (by omega)]
      refine ⟨ok29 F, 79, rf29_61 F, ok79 F, by rw [ln79 F]; exact vp_of (by omega) (by decide), fun z => ?_, fun _ => ⟨97, rf29_79 F, ok97 F, v7 (ln97 F), fun _ => f73 _, fun _ => ⟨87, rf29_69 F, ok87 F, v28 (ln87 F), fun _ => f73 _, fun _ => f73 _⟩⟩⟩
      rw [e79, e700, e7s] at z
      have := (le32 (by omega) (by omega)).mp z
      omega
  refine KX11_setNow ?_
  unfold DX11_setNow_0
  rw [em, e700]
  exact ⟨ok29 F, main (moS R).1 (700 * moM R) 0 rfl (Nat.le_refl _)⟩
end
end
section
/-! the inputs of a beat, as the reference's memory says them -/
theorem and1 (v : Int32) : v &&& 1 = 0 ∨ v &&& 1 = 1 := by
  have e : v &&& 1 = Int32.ofBitVec (v.toBitVec &&& 1#32) := rfl
  rw [e]
  have h : v.toBitVec &&& 1#32 = 0#32 ∨ v.toBitVec &&& 1#32 = 1#32 := by
    generalize v.toBitVec = b
    have h2 : (b &&& 1#32).toNat = b.toNat % 2 := by rw [BitVec.toNat_and]; exact Nat.and_one_is_mod _
    by_cases z : b.toNat % 2 = 0
    · exact Or.inl (BitVec.eq_of_toNat_eq (by rw [h2, z]; rfl))
    · exact Or.inr (BitVec.eq_of_toNat_eq (by rw [h2, show b.toNat % 2 = 1 by omega]; rfl))
  rcases h with h | h <;> rw [h]
  · exact Or.inl rfl
  · exact Or.inr rfl
def b01 (x : Int32) (k : Nat) : Nat := if (x >>> (Int32.ofNat k &&& 31)) &&& 1 = 0 then 0 else 1
theorem b01_e {x : Int32} {k : Nat} : (x >>> (Int32.ofNat k &&& 31)) &&& 1 = Int32.ofNat (b01 x k) ∧ b01 x k ≤ 1 := by
  unfold b01
  rcases and1 (x >>> (Int32.ofNat k &&& 31)) with h | h
  · rw [if_pos h, h]; exact ⟨rfl, by decide⟩
  · rw [if_neg (by rw [h]; decide), h]; exact ⟨rfl, by decide⟩
def gvI (x : Int32) (il : List Nat) (s : Nat) : Nat := if s = il.getD 0 0 then b01 x 0 else if s = il.getD 1 0 then b01 x 1 else if s = il.getD 2 0 then b01 x 2 else b01 x 3
/-- the inputs of a beat -/
def inM (R : RMo) (il : List Nat) (M : Mem) : RIn := (mI M 29 85, fun s => b01 (mI M 29 86) s, fun p => b01 (mI M 29 88) (ifC R (p - 40 * moM R)), if mI M 29 89 = 0 then 0 else 1, gvI (mI M 29 87) il)
section
variable {R : RMo} {il : List Nat} {M : Mem}
theorem inM_b (F : Fix M) (em : mI M 29 84 = Int32.ofNat (moM R)) : RbI R (inM R il M) M ∧ ∀ s, iBf (inM R il M) s ≤ 1 := by
  refine ⟨⟨F, em, rfl, fun s _ => b01_e, ?_, fun j _ => ?_⟩, fun s => b01_e.2⟩
  · have e : iFi (inM R il M) = if mI M 29 89 = 0 then 0 else 1 := rfl
    rw [e]
    by_cases z : mI M 29 89 = 0
    · rw [if_pos z]; exact ⟨fun _ => by decide, fun _ => z⟩
    · rw [if_neg z]; exact ⟨fun y => absurd y z, fun y => absurd rfl y⟩
  · have e : iTr (inM R il M) (40 * moM R + j) = b01 (mI M 29 88) (ifC R (40 * moM R + j - 40 * moM R)) := rfl
    rw [e, show 40 * moM R + j - 40 * moM R = j by omega]
    exact b01_e
theorem gvI_e {x : Int32} {j : Nat} (h4 : il.length ≤ 4) (hd : ∀ j k, j < il.length → k < il.length → il.getD j 0 = il.getD k 0 → j = k) (hj : j < il.length) : gvI x il (il.getD j 0) = b01 x j := by
  have ne : ∀ k, k < j → ¬ il.getD j 0 = il.getD k 0 := fun k hk e => by
    have := hd j k hj (by omega) e
    omega
  unfold gvI
  have : j = 0 ∨ j = 1 ∨ j = 2 ∨ j = 3 := by omega
  rcases this with e | e | e | e
  · rw [e, if_pos rfl]
  · rw [e] at ne ⊢
    rw [if_neg (ne 0 (by decide)), if_pos rfl]
  · rw [e] at ne ⊢
    rw [if_neg (ne 0 (by decide)), if_neg (ne 1 (by decide)), if_pos rfl]
  · rw [e] at ne ⊢
    rw [if_neg (ne 0 (by decide)), if_neg (ne 1 (by decide)), if_neg (ne 2 (by decide))]
theorem inM_l (h1 : mAI M 35 (moM R) = Int32.ofNat il.length ∧ il.length ≤ 4) (h2 : ∀ j, j < il.length → mAI M 41 (4 * moM R + j) = Int32.ofNat (il.getD j 0)) (h3 : ∀ j k, j < il.length → k < il.length → il.getD j 0 = il.getD k 0 → j = k) (h4 : ∀ j, j < il.length → il.getD j 0 < moQ R ∧ moT R (il.getD j 0) = 0) (h5 : ∀ s, s < moQ R → moT R s = 0 → ∃ j, j < il.length ∧ il.getD j 0 = s) : InL R (inM R il M) il M := by
  refine ⟨h1, h2, h3, h4, h5, fun j hj => ?_⟩
  have e : iGv (inM R il M) (il.getD j 0) = gvI (mI M 29 87) il (il.getD j 0) := rfl
  rw [e, gvI_e h1.2 h3 hj]
  exact b01_e
end
end
section
/-! the reference's beat, whole -/
/-- what a beat asks of a module of the reference -/
def RbM (R : RMo) (sl il : List Nat) (X : List Nd) (np : Nat) (M : Mem) : Prop := RmS R sl M ∧ (NdL R ∧ EmL R ∧ SgL R ∧ StL R sl) ∧ ((mAI M 35 (moM R) = Int32.ofNat il.length ∧ il.length ≤ 4) ∧ (∀ j, j < il.length → mAI M 41 (4 * moM R + j) = Int32.ofNat (il.getD j 0)) ∧ (∀ j k, j < il.length → k < il.length → il.getD j 0 = il.getD k 0 → j = k) ∧ (∀ j, j < il.length → il.getD j 0 < moQ R ∧ moT R (il.getD j 0) = 0) ∧ ∀ s, s < moQ R → moT R s = 0 → ∃ j, j < il.length ∧ il.getD j 0 = s) ∧ RpM M X (moM R) np ∧ (∀ j, j < np → ∃ y, inR R y ∧ mAI M 90 (40 * moM R + j) = Int32.ofNat y) ∧ ∃ y, inR R y ∧ mAI M 91 (moM R) = Int32.ofNat y
/-- what a beat of the reference writes -/
abbrev BtR (M M' : Mem) : Prop := RfF (fun f => (83 ≤ f ∧ f ≤ 89) ∨ f = 111 ∨ f = 113) (fun c => 95 ≤ c ∧ c ≠ 102 ∧ c ≠ 110 ∧ c < 122) (fun c => 95 ≤ c ∧ c ≠ 112 ∧ c < 122) M M'
section
variable {M M' : Mem} {R : RMo} {sl il : List Nat} {X : List Nd} {np mods govs h : Nat} {Q : Option Value → Mem → Prop} {x : Int32}
theorem RbM.br {fs cs js : Nat → Prop} (hB : RbM R sl il X np M) (k : RfF fs cs js M M') (hc : ∀ c, cs c → 95 ≤ c) (hj : ∀ c, js c → 95 ≤ c) : RbM R sl il X np M' := by
  obtain ⟨a, b, ⟨c1, c2, c3⟩, d, e, f⟩ := hB
  have r : ∀ c, c < 95 → mAI M' c = mAI M c := fun c hc2 => k.2.2.2.2.1 c (fun z => by have := hc c z; omega)
  exact ⟨a.br r, b, ⟨by rw [r 35 (by decide)]; exact c1, by rw [r 41 (by decide)]; exact c2, c3⟩, d.br k hc hj, by rw [r 90 (by decide)]; exact e, by rw [r 91 (by decide)]; exact f⟩
theorem BtR.fix (k : BtR M M') (F : Fix M) : Fix M' := RfF.fix k F (by omega)
theorem RbM.bt (hB : RbM R sl il X np M) (k : BtR M M') : RbM R sl il X np M' := hB.br k (fun c z => z.1) (fun c z => z.1)
theorem R_beat (hR : RGs M mods govs) (hm : ∀ m, m < mods → ∃ R sl il X np, moM R = m ∧ RbM R sl il X np M) (K0 : ∀ r : Int32, Q (some (.int r)) M) (K : ∀ M' (r : Int32), BtR M M' → Bo M' → Q (some (.int r)) M') : E (h + 6) mdX11_beat [.ref 29, .int x] M Q := by
  obtain ⟨F, ⟨-, hmm, hBo⟩, ⟨-, hg⟩, gm, -⟩ := id hR
  refine KX11_beat (h := h + 5) ?_
  unfold DX11_beat_0
  refine ⟨ok29 F, R_isGov (h := h + 3) hR (fun i hi e _ => ⟨1, rfl, fun _ => ?_, fun z => absurd z (by decide)⟩) (fun _ _ => ⟨0, rfl, fun z => absurd rfl z, fun _ => K0 _⟩)⟩
  obtain ⟨m, hm2, em⟩ := gm i hi
  obtain ⟨R, sl, il, X, np, eR, hB⟩ := hm m hm2
  subst eR
  have m4 : moM R < 4 := hB.1.1.1
  have s7 : (moS R).1 ≤ 700 := hB.1.1.2.1.1.2
  have np40 : np ≤ 40 := hB.2.2.2.1.2.2.1.2
  have v8 : ∀ {k : Nat}, k = 8 ∨ k = 32 → vp_in (Int32.ofNat i) k := fun e => by
    rcases e with e | e <;> rw [e] <;> exact vp_of (by omega) (by decide)
  have li : (Int32.ofNat i).toNatClampNeg = i := lt32 (by omega)
  have boK : ∀ {M1 M2 : Mem} {c k : Nat} {v : Int32}, Bo M1 → c ≠ 103 → M2 = wAI M1 c k v → Bo M2 := fun {M1 M2 c k v} hb hc e2 j => by
    rw [e2, mAI_wAI, if_neg (fun z => hc z.1.symm)]; exact hb j
  have boR : ∀ {M1 M2 : Mem}, Bo M1 → mAI M2 103 = mAI M1 103 → Bo M2 := fun {M1 M2} hb e2 j => by rw [e2]; exact hb j
  rw [e]
  -- the end of it
  have l346 : ∀ d q M1, q + d = 6 → BtR M M1 → Bo M1 → mI M1 29 84 = Int32.ofNat (moM R) → (∃ ρ, RSv R ρ M1) → T (h + 6) mdX11_beat 346 [(0, .ref 29), (1, .int (Int32.ofNat i)), (4, .int (Int32.ofNat q))] [] M1 Q := by
    intro d
    induction d with
    | zero =>
      intro q M1 hq k1 b1 e1 V1
      have F1 := k1.fix F
      have B1 := hB.bt k1
      have q6 : q = 6 := by omega
      subst q6
      refine VX11_beat_346 (h := h + 5) ?_
      unfold DX11_beat_346
      refine ⟨fun _ => ⟨ok29 F1, 116, rf29_106 F1, R_prNow (h := h + 4) B1.1 F1 e1 (fun r4 _ => ⟨r4, rfl, ok116 F1, v8 (by rw [ln116 F1]; decide), fun M6 e6 => ?_⟩)⟩, fun z => absurd Int32.le_rfl z⟩
      have k6 : BtR M M6 := k1.tr (RfF.ai (by omega) e6)
      have F6 := k6.fix F
      have b6 := boK b1 (by decide) e6
      refine ⟨106, rf29_96 F6, 116, rf29_106 F6, ok116 F6, v8 (by rw [ln116 F6]; decide), ok106 F6, v8 (by rw [ln106 F6]; decide), fun M11 e11 => ?_⟩
      have k11 : BtR M M11 := k6.tr (RfF.ai (by omega) e11)
      have F11 := k11.fix F
      have b11 := boK b6 (by decide) e11
      have e84 : mI M11 29 84 = Int32.ofNat (moM R) := by rw [e11, e6]; exact e1
      refine ⟨105, rf29_95 F11, R_setNow (h := h + 4) (hB.bt k11).1 F11 e84 (fun r14 _ => ⟨r14, rfl, ok105 F11, v8 (by rw [ln105 F11]; decide), fun M16 e16 => ?_⟩)⟩
      have k16 : BtR M M16 := k11.tr (RfF.ai (by omega) e16)
      have F16 := k16.fix F
      have b16 := boK b11 (by decide) e16
      refine ⟨103, rf29_93 F16, ok103 F16, v8 (by rw [ln103 F16]; decide), fun M19 e19 => ?_⟩
      have k19 : BtR M M19 := k16.tr (RfF.ai (by omega) e19)
      have F19 := k19.fix F
      have b19 : Bo M19 := fun j => by
        rw [e19, mAI_wAI]
        by_cases z : (103 : Nat) = 103 ∧ j = (Int32.ofNat i).toNatClampNeg
        · rw [if_pos z]; exact Or.inl rfl
        · rw [if_neg z]; exact b16 j
      refine ⟨109, rf29_99 F19, ok109 F19, v8 (by rw [ln109 F19]; decide), v8 (by rw [ln109 F19]; decide), fun M22 e22 => ?_⟩
      have k22 : BtR M M22 := k19.tr (RfF.ai (by omega) e22)
      have F22 := k22.fix F
      have b22 := boK b19 (by decide) e22
      have B22 := hB.bt k22
      have e84b : mI M22 29 84 = Int32.ofNat (moM R) := by rw [e22, e19, e16]; exact e84
      obtain ⟨ρ, V1⟩ := V1
      have V22 : RSv R ρ M22 := V1.rm (fun c c1 c2 => by rw [e22, mAI_wAI_ne (by omega), e19, mAI_wAI_ne (by omega), e16, mAI_wAI_ne (by omega), e11, mAI_wAI_ne (by omega), e6, mAI_wAI_ne (by omega)])
      obtain ⟨y, hy, ey⟩ := B22.2.2.2.2.2
      rw [e84b, lt32 (show moM R < 2147483648 by omega)]
      refine ⟨104, rf29_94 F22, 91, rf29_73 F22, ok91 F22, by rw [ln91 F22]; exact vp_of (by omega) (by decide), ?_⟩
      rw [ey]
      have f475 : ∀ (s : Int32) Ma, BtR M Ma → Bo Ma → DX11_beat_475 (h + 5) 29 (Int32.ofNat i) 113 (Int32.ofNat i) s Ma Q := by
        intro s Ma ka ba
        have Fa := ka.fix F
        unfold DX11_beat_475
        refine ⟨ok113 Fa, v8 (by rw [ln113 Fa]; decide), fun M2 e2 => ?_⟩
        have k2 : BtR M M2 := ka.tr (RfF.ai (by omega) e2)
        have F2 := k2.fix F
        exact ⟨ok29 F2, 113, rf29_103 F2, ok113 F2, v8 (by rw [ln113 F2]; decide), K M2 _ k2 (boK ba (by decide) e2)⟩
      have f455 : ∀ (s : Int32), DX11_beat_455 (h + 5) 29 (Int32.ofNat i) 104 (Int32.ofNat i) s M22 Q := by
        intro s
        unfold DX11_beat_455
        refine ⟨ok104 F22, v8 (by rw [ln104 F22]; decide), fun M2 e2 => ?_⟩
        have k2 : BtR M M2 := k22.tr (RfF.ai (by omega) e2)
        have F2 := k2.fix F
        have b2 := boK b22 (by decide) e2
        exact ⟨ok29 F2, 113, rf29_103 F2, 104, rf29_94 F2, ok104 F2, v8 (by rw [ln104 F2]; decide), fun _ => f475 _ M2 k2 b2, fun _ => f475 _ M2 k2 b2⟩
      refine R_k (h := h + 4) (n := 0) B22.1 (inM_b (il := il) F22 e84b).1 V22 hy (by have := B22.1.1.2.2.2.1; omega) (fun _ => ⟨_, rfl, fun _ => f455 _, fun _ => f455 _⟩)
    | succ d ih =>
      intro q M1 hq k1 b1 e1 V1
      have F1 := k1.fix F
      refine VX11_beat_346 (h := h + 5) ?_
      unfold DX11_beat_346
      have e6 : 6 * Int32.ofNat i + Int32.ofNat q = Int32.ofNat (6 * i + q) := by rw [Int32.ofNat_add, Int32.ofNat_mul]; rfl
      rw [succ32, e6]
      refine ⟨fun z => ?_, fun _ => ⟨ok29 F1, 108, rf29_98 F1, 120, rf29_110 F1, ok120 F1, by rw [ln120 F1]; exact vp_of (by omega) (by decide), ok108 F1, by rw [ln108 F1]; exact vp_of (by omega) (by decide), fun M33 e33 => ih (q + 1) M33 (by omega) (k1.tr (RfF.aj (by omega) e33)) (boR b1 (by rw [e33]; rfl)) (by rw [e33]; exact e1) ?_⟩⟩
      · have := (le32 (a := 6) (by decide) (by omega)).mp z
        omega
      · obtain ⟨ρ, V⟩ := V1
        exact ⟨ρ, V.rm (fun c _ _ => by rw [e33]; rfl)⟩
  have l311 : ∀ d q M1, q + d = 16 → BtR M M1 → Bo M1 → mI M1 29 84 = Int32.ofNat (moM R) → (∃ ρ, RSv R ρ M1) → T (h + 6) mdX11_beat 311 [(0, .ref 29), (1, .int (Int32.ofNat i)), (4, .int (Int32.ofNat q))] [] M1 Q := by
    intro d
    induction d with
    | zero =>
      intro q M1 hq k1 b1 e1 V1
      have q6 : q = 16 := by omega
      subst q6
      refine VX11_beat_311 (h := h + 5) ?_
      unfold DX11_beat_311
      exact ⟨fun _ => l346 6 0 M1 (by omega) k1 b1 e1 V1, fun z => absurd Int32.le_rfl z⟩
    | succ d ih =>
      intro q M1 hq k1 b1 e1 V1
      have F1 := k1.fix F
      refine VX11_beat_311 (h := h + 5) ?_
      unfold DX11_beat_311
      have e6 : 16 * Int32.ofNat i + Int32.ofNat q = Int32.ofNat (16 * i + q) := by rw [Int32.ofNat_add, Int32.ofNat_mul]; rfl
      rw [succ32, e6]
      refine ⟨fun z => ?_, fun _ => ⟨ok29 F1, 107, rf29_97 F1, 119, rf29_109 F1, ok119 F1, by rw [ln119 F1]; exact vp_of (by omega) (by decide), ok107 F1, by rw [ln107 F1]; exact vp_of (by omega) (by decide), fun M33 e33 => ih (q + 1) M33 (by omega) (k1.tr (RfF.aj (by omega) e33)) (boR b1 (by rw [e33]; rfl)) (by rw [e33]; exact e1) ?_⟩⟩
      · have := (le32 (a := 16) (by decide) (by omega)).mp z
        omega
      · obtain ⟨ρ, V⟩ := V1
        exact ⟨ρ, V.rm (fun c _ _ => by rw [e33]; rfl)⟩
  have l191 : ∀ d q M1, q + d = il.length → BtR M M1 → Bo M1 → mI M1 29 84 = Int32.ofNat (moM R) → (∃ ρ, RSv R ρ M1) → T (h + 6) mdX11_beat 191 [(0, .ref 29), (1, .int (Int32.ofNat i)), (3, .int (Int32.ofNat q))] [] M1 Q := by
    intro d
    induction d with
    | zero =>
      intro q M1 hq k1 b1 e1 V1
      have F1 := k1.fix F
      have B1 := hB.bt k1
      obtain ⟨c1, c2⟩ := B1.2.2.1.1
      refine VX11_beat_191 (h := h + 5) ?_
      unfold DX11_beat_191
      rw [e1, lt32 (show moM R < 2147483648 by omega)]
      refine ⟨ok29 F1, 35, rf29_9 F1, ok35 F1, by rw [ln35 F1]; exact vp_of (by omega) (by decide), fun _ => R_wkPts (h := h + 1) F1 B1.2.2.2.1 e1 (fun j hj => ?_) (fun M4 r5 k4 _ => ⟨r5, rfl, ?_⟩), fun z => absurd ?_ z⟩
      · obtain ⟨y, hy, ey⟩ := B1.2.2.2.2.1 j hj
        exact ⟨y, hy.1, by have := hy.2; omega, ey⟩
      · have k4' : BtR M M4 := k1.tr (RfF.mo k4 (fun f z => by omega) (fun c z => by omega) (fun c z => by omega))
        have F4 := k4'.fix F
        have b4 := boR b1 (k4.2.2.2.2.1 103 (by decide))
        obtain ⟨ρ, V⟩ := V1
        refine ⟨fun _ => l311 16 0 M4 (by omega) k4' b4 (by rw [k4.2.2.2.1 84 (by omega)]; exact e1) ⟨ρ, V.rm (fun c _ _ => k4.2.2.2.2.1 c (by omega))⟩, fun _ => ⟨114, rf29_104 F4, ok114 F4, v8 (by rw [ln114 F4]; decide), fun M8 e8 => ?_⟩⟩
        have k8 : BtR M M8 := k4'.tr (RfF.ai (by omega) e8)
        have F8 := k8.fix F
        refine ⟨115, rf29_105 F8, ok115 F8, v8 (by rw [ln115 F8]; decide), fun M11 e11 => ?_⟩
        have k11 : BtR M M11 := k8.tr (RfF.ai (by omega) e11)
        have F11 := k11.fix F
        exact ⟨113, rf29_103 F11, ok113 F11, v8 (by rw [ln113 F11]; decide), fun M14 e14 => K M14 _ (k11.tr (RfF.ai (by omega) e14)) (boK (boK (boK b4 (by decide) e8) (by decide) e11) (by decide) e14)⟩
      · rw [c1, show q = il.length by omega]
        exact Int32.le_rfl
    | succ d ih =>
      intro q M1 hq k1 b1 e1 V1
      have F1 := k1.fix F
      have B1 := hB.bt k1
      obtain ⟨⟨c1, c2⟩, c3, -, c5, -⟩ := B1.2.2.1
      have q16 : moQ R ≤ 16 := hB.1.1.2.2.1
      obtain ⟨s1, -⟩ := c5 q (by omega)
      have f266 : ∀ Ma, BtR M Ma → Bo Ma → mI Ma 29 84 = Int32.ofNat (moM R) → (∃ ρ, RSv R ρ Ma) → DX11_beat_266 (h + 5) 29 (Int32.ofNat i) (Int32.ofNat q) Ma Q := fun Ma ka ba ea Va => by
        unfold DX11_beat_266
        rw [succ32]
        exact ih (q + 1) Ma (by omega) ka ba ea Va
      have e4 : 4 * Int32.ofNat (moM R) + Int32.ofNat q = Int32.ofNat (4 * moM R + q) := by rw [Int32.ofNat_add, Int32.ofNat_mul]; rfl
      have e4i : 4 * Int32.ofNat i + Int32.ofNat q = Int32.ofNat (4 * i + q) := by rw [Int32.ofNat_add, Int32.ofNat_mul]; rfl
      have e16 : ∀ s : Nat, 16 * Int32.ofNat (moM R) + Int32.ofNat s = Int32.ofNat (16 * moM R + s) := fun s => by rw [Int32.ofNat_add, Int32.ofNat_mul]; rfl
      refine VX11_beat_191 (h := h + 5) ?_
      unfold DX11_beat_191
      rw [e1, lt32 (show moM R < 2147483648 by omega), e4, e4i, lt32 (show 4 * moM R + q < 2147483648 by omega)]
      refine ⟨ok29 F1, 35, rf29_9 F1, ok35 F1, by rw [ln35 F1]; exact vp_of (by omega) (by decide), fun z => ?_, fun _ => ⟨41, rf29_15 F1, ok41 F1, by rw [ln41 F1]; exact vp_of (by omega) (by decide), ?_⟩⟩
      · rw [c1] at z
        have := (le32 (by omega) (by omega)).mp z
        omega
      rw [c3 q (by omega), e16]
      refine ⟨fun _ => f266 M1 k1 b1 e1 V1, fun _ => ⟨39, rf29_13 F1, ok39 F1, by rw [ln39 F1]; exact vp_of (by omega) (by decide), fun _ => f266 M1 k1 b1 e1 V1, fun _ => ⟨119, rf29_109 F1, 112, rf29_102 F1, ok112 F1, by rw [ln112 F1]; exact vp_of (by omega) (by decide), ok119 F1, by rw [ln119 F1]; exact vp_of (by omega) (by decide), fun M23 e23 => f266 M23 (k1.tr (RfF.aj (by omega) e23)) (boR b1 (by rw [e23]; rfl)) (by rw [e23]; exact e1) ?_⟩⟩⟩
      obtain ⟨ρ, V⟩ := V1
      exact ⟨ρ, V.rm (fun c _ _ => by rw [e23]; rfl)⟩
  have l105 : ∀ d q M1, q + d = 6 → BtR M M1 → Bo M1 → mI M1 29 84 = Int32.ofNat (moM R) → T (h + 6) mdX11_beat 105 [(0, .ref 29), (1, .int (Int32.ofNat i)), (2, .int (Int32.ofNat q))] [] M1 Q := by
    intro d
    induction d with
    | zero =>
      intro q M1 hq k1 b1 e1
      have q6 : q = 6 := by omega
      subst q6
      have F1 := k1.fix F
      have B1 := hB.bt k1
      refine VX11_beat_105 (h := h + 5) ?_
      unfold DX11_beat_105
      refine ⟨fun _ => ⟨ok29 F1, R_wkIfs (h := h + 1) F1 B1.2.2.2.1 e1 (fun M2 k2 _ => ⟨rfl, ?_⟩)⟩, fun z => absurd Int32.le_rfl z⟩
      have k2' : BtR M M2 := k1.tr (RfF.mo k2 (fun f z => by omega) (fun c z => by omega) (fun c z => by omega))
      have F2 := k2'.fix F
      have B2 := hB.bt k2'
      have e2 : mI M2 29 84 = Int32.ofNat (moM R) := by rw [k2.2.2.2.1 84 (by omega)]; exact e1
      have b2 := boR b1 (k2.2.2.2.2.1 103 (by decide))
      obtain ⟨hI, hbf⟩ := inM_b (il := il) F2 e2
      obtain ⟨g1, g2, g3, g4, g5⟩ := B2.2.2.1
      obtain ⟨n1, n2, n3, n4⟩ := B2.2.1
      refine R_solve (h := h) hI hbf B2.1 n1 n2 n3 n4 (inM_l g1 g2 g3 g4 g5) (fun ρ M3 r4 k3 V3 _ _ _ _ => ⟨r4, rfl, ?_⟩)
      have k3' : BtR M M3 := k2'.tr (RfF.mo k3.rff (fun f z => by omega) (fun c z => by omega) (fun c z => z.elim))
      have B3 := hB.bt k3'
      have I3 := k3.bi hI
      have b3 := boR b2 (k3.2.2.2.2 103 (by omega))
      refine R_kpW (h := h + 3) B3.1 I3 V3 (by omega) B3.2.2.2.1.2.2.1.1 np40 B3.2.2.2.2.1 (fun M5 k5 _ => ⟨rfl, ?_⟩)
      have k5' : BtR M M5 := k3'.tr (RfF.mo k5 (fun f z => z.elim) (fun c z => by omega) (fun c z => z.elim))
      have F5 := k5'.fix F
      have b5 := boR b3 (k5.2.2.2.2.1 103 (by decide))
      have e5 : mI M5 29 84 = Int32.ofNat (moM R) := by rw [k5.2.2.2.1 84 (fun z => z)]; exact I3.2.1
      have V5 : RSv R ρ M5 := V3.rm (fun c _ _ => k5.2.2.2.2.1 c (by omega))
      refine ⟨111, rf29_101 F5, ok111 F5, v8 (by rw [ln111 F5]; decide), fun M8 e8 => ?_⟩
      have k8 : BtR M M8 := k5'.tr (RfF.ai (by omega) e8)
      have F8 := k8.fix F
      refine ⟨116, rf29_106 F8, ok116 F8, v8 (by rw [ln116 F8]; decide), fun M11 e11 => ?_⟩
      have k11 : BtR M M11 := k8.tr (RfF.ai (by omega) e11)
      have F11 := k11.fix F
      refine ⟨114, rf29_104 F11, ok114 F11, v8 (by rw [ln114 F11]; decide), fun M14 e14 => ?_⟩
      have k14 : BtR M M14 := k11.tr (RfF.ai (by omega) e14)
      have F14 := k14.fix F
      refine ⟨115, rf29_105 F14, ok115 F14, v8 (by rw [ln115 F14]; decide), fun M17 e17 => ?_⟩
      have k17 : BtR M M17 := k14.tr (RfF.ai (by omega) e17)
      have F17 := k17.fix F
      have b17 := boK (boK (boK (boK b5 (by decide) e8) (by decide) e11) (by decide) e14) (by decide) e17
      have V17 : RSv R ρ M17 := V5.rm (fun c c1 c2 => by rw [e17, mAI_wAI_ne (by omega), e14, mAI_wAI_ne (by omega), e11, mAI_wAI_ne (by omega), e8, mAI_wAI_ne (by omega)])
      exact ⟨fun _ => l191 il.length 0 M17 (by omega) k17 b17 (by rw [e17, e14, e11, e8]; exact e5) ⟨ρ, V17⟩, fun _ => ⟨113, rf29_103 F17, ok113 F17, v8 (by rw [ln113 F17]; decide), fun M20 e20 => K M20 _ (k17.tr (RfF.ai (by omega) e20)) (boK b17 (by decide) e20)⟩⟩
    | succ d ih =>
      intro q M1 hq k1 b1 e1
      have F1 := k1.fix F
      refine VX11_beat_105 (h := h + 5) ?_
      unfold DX11_beat_105
      have e6 : 6 * Int32.ofNat i + Int32.ofNat q = Int32.ofNat (6 * i + q) := by rw [Int32.ofNat_add, Int32.ofNat_mul]; rfl
      rw [succ32, e6]
      refine ⟨fun z => ?_, fun _ => ⟨ok29 F1, 120, rf29_110 F1, 108, rf29_98 F1, ok108 F1, by rw [ln108 F1]; exact vp_of (by omega) (by decide), ok120 F1, by rw [ln120 F1]; exact vp_of (by omega) (by decide), fun M33 e33 => ih (q + 1) M33 (by omega) (k1.tr (RfF.aj (by omega) e33)) (boR b1 (by rw [e33]; rfl)) (by rw [e33]; exact e1)⟩⟩
      have := (le32 (a := 6) (by decide) (by omega)).mp z
      omega
  have l74 : ∀ d q M1, q + d = 16 → BtR M M1 → Bo M1 → mI M1 29 84 = Int32.ofNat (moM R) → T (h + 6) mdX11_beat 74 [(0, .ref 29), (1, .int (Int32.ofNat i)), (2, .int (Int32.ofNat q))] [] M1 Q := by
    intro d
    induction d with
    | zero =>
      intro q M1 hq k1 b1 e1
      have q6 : q = 16 := by omega
      subst q6
      refine VX11_beat_74 (h := h + 5) ?_
      unfold DX11_beat_74
      exact ⟨fun _ => l105 6 0 M1 (by omega) k1 b1 e1, fun z => absurd Int32.le_rfl z⟩
    | succ d ih =>
      intro q M1 hq k1 b1 e1
      have F1 := k1.fix F
      refine VX11_beat_74 (h := h + 5) ?_
      unfold DX11_beat_74
      have e6 : 16 * Int32.ofNat i + Int32.ofNat q = Int32.ofNat (16 * i + q) := by rw [Int32.ofNat_add, Int32.ofNat_mul]; rfl
      rw [succ32, e6]
      refine ⟨fun z => ?_, fun _ => ⟨ok29 F1, 119, rf29_109 F1, 107, rf29_97 F1, ok107 F1, by rw [ln107 F1]; exact vp_of (by omega) (by decide), ok119 F1, by rw [ln119 F1]; exact vp_of (by omega) (by decide), fun M33 e33 => ih (q + 1) M33 (by omega) (k1.tr (RfF.aj (by omega) e33)) (boR b1 (by rw [e33]; rfl)) (by rw [e33]; exact e1)⟩⟩
      have := (le32 (a := 16) (by decide) (by omega)).mp z
      omega
  refine ⟨104, rf29_94 F, ok104 F, v8 (by rw [ln104 F]; decide), fun _ => ⟨102, rf29_92 F, ok102 F, v8 (by rw [ln102 F]; decide), fun M8 e8 => ?_⟩, fun _ => K0 _⟩
  rw [li, em] at e8
  have k8 : BtR M M8 := RfF.i (by omega) e8
  have F8 := k8.fix F
  have m8 : mI M8 29 84 = Int32.ofNat (moM R) := by rw [e8, mI_wI, if_pos ⟨rfl, rfl⟩]
  refine ⟨105, rf29_95 F8, ok105 F8, v8 (by rw [ln105 F8]; decide), fun M11 e11 => ?_⟩
  have k11 : BtR M M11 := k8.tr (RfF.i (by omega) e11)
  have F11 := k11.fix F
  refine ⟨106, rf29_96 F11, ok106 F11, v8 (by rw [ln106 F11]; decide), fun M14 e14 => ?_⟩
  have k14 : BtR M M14 := k11.tr (RfF.i (by omega) e14)
  have F14 := k14.fix F
  refine ⟨111, rf29_101 F14, ok111 F14, v8 (by rw [ln111 F14]; decide), fun M17 e17 => ?_⟩
  have k17 : BtR M M17 := k14.tr (RfF.i (by omega) e17)
  have F17 := k17.fix F
  have b17 : Bo M17 := boR hBo (by rw [e17, e14, e11, e8]; rfl)
  refine ⟨103, rf29_93 F17, ok103 F17, v8 (by rw [ln103 F17]; decide), b17 _, fun M20 e20 => ?_⟩
  have k20 : BtR M M20 := k17.tr (RfF.i (by omega) e20)
  have w : ∀ {M1 M2 : Mem} {f : Nat} {v : Int32}, f ≠ 84 → M2 = wI M1 29 f v → mI M2 29 84 = mI M1 29 84 := fun hf e2 => by rw [e2, mI_wI, if_neg (fun z => hf z.2.symm)]
  exact l74 16 0 M20 (by omega) k20 (boR b17 (by rw [e20]; rfl)) (by rw [w (by decide) e20, w (by decide) e17, w (by decide) e14, w (by decide) e11]; exact m8)
end
end
section
/-! the reference's search: what it keeps of a module, moves, stateOf, move1 -/
/-- what a MOVE leads to: a STATE or none -/
def LdO (M : Mem) : Prop := ∀ j, mAI M 129 j < 0 ∨ ∃ c, c < 48 ∧ mAI M 129 j = Int32.ofNat c
/-- n STATES of module m, each but the first come to from an earlier one -/
def SrI (M : Mem) (m n : Nat) : Prop := mAI M 123 m = Int32.ofNat n ∧ (1 ≤ n ∧ n ≤ 48) ∧ mAI M 126 (48 * m) = -1 ∧ ∀ s, 1 ≤ s → s < n → ∃ c, c < s ∧ mAI M 126 (48 * m + s) = Int32.ofNat c
/-- how many MOVES a module has: 2 to the t -/
def FrE (M : Mem) (m t : Nat) : Prop := ∃ i f, mAI M 35 m = Int32.ofNat i ∧ mAI M 56 m = Int32.ofNat f ∧ i + f = t
/-- places of module m in the rows of searches -/
def skA (m c j : Nat) : Prop := ((c = 122 ∨ c = 123) ∧ j = m) ∨ ((124 ≤ c ∧ c ≤ 128) ∧ 48 * m ≤ j ∧ j < 48 * m + 48) ∨ ((c = 129 ∨ c = 130) ∧ 1536 * m ≤ j ∧ j < 1536 * m + 1536)
/-- what a search of module m writes -/
def SkF (m : Nat) (M M' : Mem) : Prop := RfF (fun f => 83 ≤ f ∧ f ≤ 89) (fun c => (95 ≤ c ∧ c ≤ 101) ∨ (122 ≤ c ∧ c ≤ 131)) noP M M' ∧ ∀ c j, 122 ≤ c → c ≤ 130 → ¬ skA m c j → mAI M' c j = mAI M c j
section
variable {M M1 M' : Mem} {m n s t h : Nat} {Q : Option Value → Mem → Prop}
theorem aiN {a k c : Nat} {v : Int32} (e : M' = wAI M a k v) (h : c ≠ a) : mAI M' c = mAI M c := by rw [e]; exact up2_row h
theorem ix32 {q v : Nat} : 32 * Int32.ofNat q + Int32.ofNat v = Int32.ofNat (32 * q + v) := by rw [Int32.ofNat_add, Int32.ofNat_mul]; rfl
theorem ix48 {q v : Nat} : 48 * Int32.ofNat q + Int32.ofNat v = Int32.ofNat (48 * q + v) := by rw [Int32.ofNat_add, Int32.ofNat_mul]; rfl
theorem SkF.rf : SkF m M M := ⟨RfF.rf, fun _ _ _ _ _ => rfl⟩
theorem SkF.tr (a : SkF m M M1) (b : SkF m M1 M') : SkF m M M' := ⟨a.1.tr b.1, fun c j h1 h2 h3 => (b.2 c j h1 h2 h3).trans (a.2 c j h1 h2 h3)⟩
theorem SkF.i {f : Nat} {v : Int32} (hf : 83 ≤ f ∧ f ≤ 89) (e : M' = wI M 29 f v) : SkF m M M' := ⟨RfF.i hf e, fun c j _ _ _ => by rw [e]; rfl⟩
theorem SkF.ai {c k : Nat} {v : Int32} (hc : skA m c k) (e : M' = wAI M c k v) : SkF m M M' := by
  refine ⟨RfF.ai (Or.inr (by unfold skA at hc; omega)) e, fun d j _ _ hn => ?_⟩
  rw [e, mAI_wAI, if_neg (fun z => hn (by rw [z.1, z.2]; exact hc))]
theorem SkF.ai9 {k : Nat} {v : Int32} (e : M' = wAI M 131 k v) : SkF m M M' := by
  refine ⟨RfF.ai (Or.inr (by omega)) e, fun d j _ hd _ => ?_⟩
  rw [e, mAI_wAI, if_neg (fun z => by have := z.1; omega)]
theorem SkF.rb (k : RbF M M') : SkF m M M' := ⟨⟨k.1, ⟨k.2.1.1, k.2.1.2.1, k.2.1.2.2.2⟩, k.2.2.1, fun f z => k.2.2.2.1 f (fun y => z (by omega)), fun c z => k.2.2.2.2 c (fun y => z (Or.inl y)), fun c _ => by rw [k.2.1.2.2.1]⟩, fun c j h1 _ _ => by rw [k.2.2.2.2 c (fun y => by omega)]⟩
theorem SkF.fix (k : SkF m M M') (F : Fix M) : Fix M' := k.1.fix F (fun z => z)
theorem SkF.row (k : SkF m M M') {c : Nat} (hc : c < 95 ∨ (102 ≤ c ∧ c < 122)) : mAI M' c = mAI M c := k.1.2.2.2.2.1 c (fun z => by omega)
theorem RbM.sk {R : RMo} {sl il : List Nat} {X : List Nd} {np : Nat} (hB : RbM R sl il X np M) (k : SkF m M M') : RbM R sl il X np M' := hB.br k.1 (fun c z => by omega) (fun c z => z.elim)
theorem FrE.sk (hf : FrE M m t) {m' : Nat} (k : SkF m' M M') : FrE M' m t := by
  unfold FrE
  rw [k.row (Or.inl (by decide)), k.row (Or.inl (by decide))]
  exact hf
theorem pw_32 {i f : Nat} (h : i + f ≤ 5) : (1 : Int32) <<< ((Int32.ofNat i + Int32.ofNat f) &&& 31) = Int32.ofNat (2 ^ (i + f)) := by
  rw [add32]
  generalize i + f = t at h
  have : ∀ t : Fin 6, (1 : Int32) <<< (Int32.ofNat t.val &&& 31) = Int32.ofNat (2 ^ t.val) := by decide
  exact this ⟨t, by omega⟩
theorem pw_le {t : Nat} (h : t ≤ 5) : 1 ≤ 2 ^ t ∧ 2 ^ t ≤ 32 := ⟨Nat.one_le_two_pow, Nat.le_trans (Nat.pow_le_pow_right (by decide) h) (by decide)⟩
theorem R_moves (F : Fix M) (h4 : m < 4) (hf : FrE M m t) (h5 : t ≤ 5) (K : Q (some (.int (Int32.ofNat (2 ^ t)))) M) : E (h + 1) mdX11_moves [.ref 29, .int (Int32.ofNat m)] M Q := by
  obtain ⟨i, f, e1, e2, e3⟩ := hf
  have lm : (Int32.ofNat m).toNatClampNeg = m := lt32 (by omega)
  refine KX11_moves ?_
  unfold DX11_moves_0
  refine ⟨ok29 F, 35, rf29_9 F, ok35 F, by rw [ln35 F]; exact vp_of (by omega) (by decide), 56, rf29_36 F, ok56 F, by rw [ln56 F]; exact vp_of (by omega) (by decide), ?_⟩
  rw [lm, e1, e2, pw_32 (by omega), e3]
  exact K
theorem R_stO {p b : Int32} (F : Fix M) (h4 : m < 4) (e : mAI M 123 m = Int32.ofNat n) (hn : n ≤ 48) (K : ∀ s, 1 ≤ s → s < n → mAI M 124 (48 * m + s) = p → mAI M 125 (48 * m + s) = b → (∀ q, 1 ≤ q → q < s → ¬ (mAI M 124 (48 * m + q) = p ∧ mAI M 125 (48 * m + q) = b)) → Q (some (.int (Int32.ofNat s))) M) (K0 : (∀ q, 1 ≤ q → q < n → ¬ (mAI M 124 (48 * m + q) = p ∧ mAI M 125 (48 * m + q) = b)) → Q (some (.int (-1))) M) : E (h + 1) mdX11_stateOf [.ref 29, .int (Int32.ofNat m), .int p, .int b] M Q := by
  have lm : (Int32.ofNat m).toNatClampNeg = m := lt32 (by omega)
  have main : ∀ d s, s + d = 48 → 1 ≤ s → (∀ q, 1 ≤ q → q < s → ¬ (mAI M 124 (48 * m + q) = p ∧ mAI M 125 (48 * m + q) = b)) → T (h + 1) mdX11_stateOf 3 [(0, .ref 29), (1, .int (Int32.ofNat m)), (2, .int p), (3, .int b), (4, .int (Int32.ofNat s))] [] M Q := by
    intro d
    induction d with
    | zero =>
      intro s hs h1 hq
      refine VX11_stateOf_3 ?_
      unfold DX11_stateOf_3
      refine ⟨ok29 F, 123, rf29_115 F, ok123 F, by rw [ln123 F]; exact vp_of (by omega) (by decide), ?_⟩
      rw [lm, e]
      exact ⟨fun _ => K0 (fun q q1 q2 => hq q q1 (by omega)), fun z => absurd ((le32 (by omega) (by omega)).mpr (by omega)) z⟩
    | succ d ih =>
      intro s hs h1 hq
      have e48 : 48 * Int32.ofNat m + Int32.ofNat s = Int32.ofNat (48 * m + s) := by rw [Int32.ofNat_add, Int32.ofNat_mul]; rfl
      have l48 : (Int32.ofNat (48 * m + s)).toNatClampNeg = 48 * m + s := lt32 (by omega)
      have v48 : ∀ {k : Nat}, k = 192 → vp_in (Int32.ofNat (48 * m + s)) k := fun e => by rw [e]; exact vp_of (by omega) (by decide)
      refine VX11_stateOf_3 ?_
      unfold DX11_stateOf_3 DX11_stateOf_49
      refine ⟨ok29 F, 123, rf29_115 F, ok123 F, by rw [ln123 F]; exact vp_of (by omega) (by decide), ?_⟩
      rw [lm, e, e48, l48, succ32]
      refine ⟨fun z => K0 (fun q q1 q2 => hq q q1 (by have := (le32 (by omega) (by omega)).mp z; omega)), fun z => ⟨124, rf29_116 F, ok124 F, v48 (ln124 F), ?_⟩⟩
      have sn : s < n := by
        rcases Nat.lt_or_ge s n with y | y
        · exact y
        · exact absurd ((le32 (by omega) (by omega)).mpr y) z
      have nx : ¬ (mAI M 124 (48 * m + s) = p ∧ mAI M 125 (48 * m + s) = b) → ∀ q, 1 ≤ q → q < s + 1 → ¬ (mAI M 124 (48 * m + q) = p ∧ mAI M 125 (48 * m + q) = b) := fun y q q1 q2 => by
        by_cases qs : q = s
        · rw [qs]; exact y
        · exact hq q q1 (by omega)
      refine ⟨fun y => ih (s + 1) (by omega) (by omega) (nx (fun w => y w.1)), fun y => ⟨125, rf29_117 F, ok125 F, v48 (ln125 F), fun y2 => ih (s + 1) (by omega) (by omega) (nx (fun w => y2 w.2)), fun y2 => K s h1 sn y y2 hq⟩⟩
  refine KX11_stateOf ?_
  unfold DX11_stateOf_0
  exact main 47 1 (by omega) (by omega) (fun q q1 q2 => by omega)
/-- a value that a MOVE may lead to -/
theorem LdO.ai {k : Nat} {v : Int32} (h : LdO M) (hv : v < 0 ∨ ∃ c, c < 48 ∧ v = Int32.ofNat c) (e : M' = wAI M 129 k v) : LdO M' := by
  intro j
  rw [e, mAI_wAI]
  by_cases z : j = k
  · rw [if_pos ⟨rfl, z⟩]; exact hv
  · rw [if_neg (fun y => z y.2)]; exact h j
theorem LdO.k (h : LdO M) (e : mAI M' 129 = mAI M 129) : LdO M' := fun j => by rw [e]; exact h j
theorem SrI.k (h : SrI M m n) (e1 : mAI M' 123 = mAI M 123) (e2 : mAI M' 126 = mAI M 126) : SrI M' m n := by
  unfold SrI
  rw [e1, e2]
  exact h
theorem SrI.nw {M2 M3 : Mem} {v : Int32} (h : SrI M m n) (hn : n < 48) (hs : s < n) (e1 : mAI M1 = up2 (mAI M) 123 m (Int32.ofNat (n + 1))) (e2 : mAI M2 126 = mAI M1 126 ∧ mAI M2 123 = mAI M1 123) (e3 : M3 = wAI M2 126 (48 * m + n) (Int32.ofNat s)) : SrI M3 m (n + 1) := by
  obtain ⟨a1, ⟨a2, a3⟩, a4, a5⟩ := h
  have r3 : mAI M3 123 = mAI M2 123 := aiN e3 (by decide)
  have r1 : mAI M1 126 = mAI M 126 := by rw [e1]; exact up2_row (a := 123) (show (126 : Nat) ≠ 123 by decide)
  refine ⟨by rw [r3, e2.2, e1]; exact if_pos ⟨rfl, rfl⟩, ⟨by omega, by omega⟩, ?_, fun q q1 q2 => ?_⟩
  · rw [e3, mAI_wAI, if_neg (fun z => by have := z.2; omega), e2.1, r1]; exact a4
  · rw [e3, mAI_wAI]
    by_cases z : q = n
    · rw [if_pos ⟨rfl, by omega⟩]; exact ⟨s, by omega, rfl⟩
    · rw [if_neg (fun y => by have := y.2; omega), e2.1, r1]; exact a5 q q1 (by omega)
end
end
