/-! a woven module's circuit stands and is told -/
/-- the circuit of a woven module in memory -/
def CsW (M : Mem) (x lc rc ya na a1 a2 b1 b2 bc sc a3 b3 : Nat) (τ : Td) (σ : PS) (Ψ : Wg) (hl : List Int32) : Prop := CrS M x lc rc ya na a1 a2 b1 b2 bc Ψ.1 Ψ.2.2 hl ∧ HlQ Ψ hl ∧ (∀ s, s < 16 → mAI M bc s = Int32.ofNat (σ.2.1.2.2.2.1 s)) ∧ (mR M x 13 = some sc ∧ ok M sc 21 ∧ mL M sc = 16 ∧ (∀ s, s < 16 → mAI M sc s = Int32.ofNat (sgT τ.1.length s)) ∧ sc ≠ ya ∧ sc ≠ na) ∧ (mR M x 7 = some a3 ∧ ALi M a3 b3 (ifS σ) ∧ (ifS σ).length < 200000)
/-- the circuit while it is told: lanes Y, Z -/
def CtL (M : Mem) (x lc rc ya na sc a3 b3 S : Nat) (is : List Int32) (N : Nt) (Y Z : Nat → Int32) : Prop := CrL M x lc rc ya na N Y Z ∧ (mR M x 13 = some sc ∧ ok M sc 21 ∧ mL M sc = 16 ∧ (∀ s, s < 16 → mAI M sc s = Int32.ofNat (sgT S s)) ∧ sc ≠ ya ∧ sc ≠ na) ∧ (mR M x 7 = some a3 ∧ ALi M a3 b3 is ∧ is.length < 200000)
/-- what is known is told -/
def TdV (len : Nat) (tb : Nat → Bool) (Y Z : Nat → Int32) : Prop := CoL len Y Z ∧ ∀ l, l < 32 → ∀ j, j < len → laV len Y Z l j = 2 ∨ tb j = true
section
variable {M M' : Mem} {x lc rc ya na ya0 na0 sc a1 a2 a3 b1 b2 b3 bc S sm stc n len : Nat} {is : List Int32} {N : Nt} {Y Z Y' Z' : Nat → Int32} {tb : Nat → Bool} {tv : Nat → Nat → Nat} {dn : Nat → Prop} {w : Int32}
theorem TdI.v (h : TdI len tb tv dn Y Z) : TdV len tb Y Z := ⟨h.1, fun l hl j hj => by
  rcases (h.2 l hl j hj).1 with e | e
  · exact Or.inl e
  · exact Or.inr e.1⟩
theorem TdV.tl (h : TdV len tb Y Z) (k : TlL len n w Y Z Y' Z') (hb : tb n = true) : TdV len tb Y' Z' := by
  refine ⟨k.1, fun l hl j hj => ?_⟩
  by_cases e : j = n
  · rw [e]; exact Or.inr hb
  · rw [k.2 l hl j, if_neg e]; exact h.2 l hl j hj
theorem TdV.j (h : TdV N.length tb Y Z) : LnJ N tb (laV N.length Y Z) Y Z := by
  refine ⟨h.1, fun l hl => ⟨JF.st0 (fun j => ?_), fun j hj ht => rfl⟩⟩
  by_cases hj : j < N.length
  · rcases h.2 l hl j hj with e | e
    · exact Or.inl e
    · refine Or.inr (fun u => ?_)
      unfold FcN
      rw [if_pos hj, if_pos e]
  · refine Or.inl ?_
    unfold laV
    rw [if_neg hj]
theorem WcZ.fr (k : WcZ sm stc M M') : fr (fun c => c = sm ∨ c = stc) M M' := ⟨k.e, fun c _ hc => ⟨k.2.2.1 c (fun z => hc (Or.inl z)), by rw [k.2.1.1], by rw [k.2.1.2.1], by rw [k.2.1.2.2.1], k.2.2.2.2 c (fun z => hc (Or.inr z)), by rw [k.2.1.2.2.2]⟩⟩
theorem ALi.wc {a b : Nat} {xs : List Int32} (hA : ALi M a b xs) (k : WcZ sm stc M M') (o8 : mK M sm = 8) (o23 : mK M stc = 23) : ALi M' a b xs := by
  have kk : ∀ {c q : Nat}, (c = sm ∨ c = stc) → mK M c = q → q = 8 ∨ q = 23 := fun {c q} z e => by
    rcases z with z | z
    · rw [z, o8] at e; exact Or.inl e.symm
    · rw [z, o23] at e; exact Or.inr e.symm
  refine hA.fr k.fr (fun z => ?_) (fun hb z => ?_) (fun c _ z w => ?_)
  · rcases kk z hA.ok1.2 with q | q <;> exact absurd q (by decide)
  · rcases kk z hb with q | q <;> exact absurd q (by decide)
  · rcases kk z w with q | q <;> exact absurd q (by decide)
theorem CirP.wc (hC : CirP M x lc rc N) (k : WcZ sm stc M M') (ne : x ≠ sm) : CirP M' x lc rc N := by
  obtain ⟨o1, c1, o2, c2, o3, i1, q, v, r⟩ := hC
  exact ⟨k.ok o1, by rw [k.2.1.2.1]; exact c1, k.ok o2, by rw [k.2.1.2.1]; exact c2, k.ok o3, by rw [k.2.2.1 x ne]; exact i1, by rw [k.1.2.2.2]; exact q, by rw [k.2.1.2.2.1]; exact v, r⟩
theorem CrL.wc (hL : CrL M x lc rc ya na N Y Z) (k : WcZ sm stc M M') (ne : x ≠ sm) : CrL M' x lc rc ya na N Y Z := by
  obtain ⟨c, ⟨a1, a2, a3, a4⟩, ⟨b1, b2, b3, b4⟩, ⟨e1, e2⟩, r⟩ := hL
  exact ⟨c.wc k ne, ⟨by rw [k.2.1.2.1]; exact a1, k.ok a2, by rw [k.1.2.2.2]; exact a3, by rw [k.1.2.2.2]; exact a4⟩, ⟨by rw [k.2.1.2.1]; exact b1, k.ok b2, by rw [k.1.2.2.2]; exact b3, by rw [k.1.2.2.2]; exact b4⟩, ⟨by rw [k.2.1.2.2.1]; exact e1, by rw [k.2.1.2.2.1]; exact e2⟩, r⟩
theorem CtL.wc (hL : CtL M x lc rc ya na sc a3 b3 S is N Y Z) (k : WcZ sm stc M M') (o8 : ok M sm 8) (o23 : mK M stc = 23) : CtL M' x lc rc ya na sc a3 b3 S is N Y Z := by
  obtain ⟨c, ⟨s1, s2, s3, s4, s5⟩, ⟨t1, t2, t3⟩⟩ := hL
  have ne : x ≠ sm := fun z => by
    have := c.1.1.2
    rw [z, o8.2] at this
    exact absurd this (by decide)
  exact ⟨c.wc k ne, ⟨by rw [k.2.1.2.1]; exact s1, k.ok s2, by rw [k.1.2.2.2]; exact s3, by rw [k.2.1.2.2.1]; exact s4, s5⟩, ⟨by rw [k.2.1.2.1]; exact t1, t2.wc k o8.2 o23, t3⟩⟩
theorem CtL.ar (hL : CtL M x lc rc ya na sc a3 b3 S is N Y Z) (k : ArF (fun c => c = ya ∨ c = na) M M') (L : CrL M' x lc rc ya na N Y' Z') : CtL M' x lc rc ya na sc a3 b3 S is N Y' Z' := by
  obtain ⟨c, ⟨s1, s2, s3, s4, s5, s6⟩, ⟨t1, t2, t3⟩⟩ := hL
  exact ⟨L, ⟨by rw [k.2.1.2.2.1]; exact s1, ok_E s2 k.e, by rw [k.1.2.2.2]; exact s3, by rw [k.2.2 sc (fun z => z.elim s5 s6)]; exact s4, s5, s6⟩, ⟨by rw [k.2.1.2.2.1]; exact t1, ali_ar t2 k c.2.1.2.1.2 c.2.2.1.2.1.2, t3⟩⟩
end
section
variable {M : Mem} {x lc rc ya0 na0 a1 a2 a3 b1 b2 b3 bc sc h : Nat} {hl : List Int32} {Q : Option Value → Mem → Prop} {τ : Td} {m : Nat} {σ : PS} {root : Nat} {γ : Gh} {g0 n0 gw : Nat} {Z0 P : Nat → Nat → Int32} {zp : Int32} {Ψ1 Ψ2 : Wg} {R : RMo} {Is : Nat → RIn} {ift : Nat → Nat → Nat} {zn fn y0 g : Nat} {x1 x2 x3 : Int32}
theorem S_stW (hW : MdW τ m σ root γ g0 n0 gw Z0 P zp Ψ1 Ψ2) (hT : TwT (woS τ m σ γ) R zn fn y0 root g) (hc : CsW M x lc rc ya0 na0 a1 a2 b1 b2 bc sc a3 b3 τ σ Ψ2 hl) (h16 : τ.1.length ≤ 16) (hbig : mN M + 2 < mBig) (i1 : ∀ l, iSet (Is l) = x1) (i2 : ∀ l s, s < 16 → iBf (Is l) s = if btL x2 s = true then 1 else 0) (i3 : ∀ l, (if iFi (Is l) = 1 then 1 else 0) = if x3 = 0 then 0 else 1) (K : ∀ M' ya na Y' Z', CtL M' x lc rc ya na sc a3 b3 τ.1.length (ifS σ) Ψ2.1 Y' Z' → StF M M' x ya0 na0 ya na Ψ2.1.length → TdI Ψ2.1.length (tbR R Ψ2) (fun l => tvR (Is l) (ift l) Ψ2) (dnR Ψ2 (fun _ => False) 0) Y' Z' → Q none M') : E (h + 4) mdX0_stand [.ref x, .int x1, .int x2, .int x3] M Q := by
  obtain ⟨hC, hq, hb, ⟨s1, s2, s3, s4, s5, s6⟩, ⟨t1, t2, t3⟩⟩ := hc
  have big : Ψ2.1.length < 100000 := hW.2.2.2.2.2.2.2.2.1
  refine S_stand (h := h) (tb := tbR R Ψ2) (tv := fun l => tvR (Is l) (ift l) Ψ2) hC hbig ⟨tb_lt (by decide), fun l => ?_⟩ ⟨tb_lt (by decide), fun l => ?_⟩ (fun i hi => ?_) (fun s hs => ?_) (fun M' ya na Y' Z' L St T => K M' ya na Y' Z' ?_ St (T.mo (fun j hj d => ?_)))
  · unfold tvR; rw [if_pos rfl]
  · show tvR (Is l) (ift l) Ψ2 1 = _
    unfold tvR
    rw [if_neg (by decide), if_pos rfl]
    exact i3 l
  · obtain ⟨n, e1, e2, e3, e4⟩ := hW.hd hq hi
    refine ⟨n, e1, e3, by rw [tb_r e4 e2]; rfl, fun l => ?_⟩
    show tvR (Is l) (ift l) Ψ2 n = _
    rw [tv_r e4 e2, if_neg (by decide), if_neg (by decide), if_neg (by decide)]
    unfold HVm
    rw [i1 l]
  · rw [hb s hs]
    by_cases z : σ.2.1.2.2.2.1 s = 0
    · rw [z]; exact Or.inl rfl
    · have r := hW.1.1.2.1.1.2.2.2 s z
      obtain ⟨e1, e2, e3, e4⟩ := hW.lt r (Or.inl rfl)
      refine Or.inr ⟨_, by rw [← e1], by omega, e3, by rw [tb_r e4 e2]; rfl, fun l => ?_⟩
      show tvR (Is l) (ift l) Ψ2 _ = _
      rw [tv_r e4 e2, if_neg (by decide), if_pos rfl]
      exact i2 l s hs
  · have sx : sc ≠ x := fun e => by
      have := hC.1.1.2
      rw [← e, s2.2] at this
      exact absurd this (by decide)
    have F := St.1
    have row := F.2 sc s2.1 (fun z => by
      rcases z with z | z | z
      · exact sx z
      · exact s5 z
      · exact s6 z)
    have o1 := hC.1.1
    have oy := hC.2.1.2.1
    have on := hC.2.2.1.2.1
    have kk : ∀ {c q : Nat}, (c = x ∨ c = ya0 ∨ c = na0) → mK M c = q → q = 2 ∨ q = 21 := fun {c q} z e => by
      rcases z with z | z | z
      · rw [z, o1.2] at e; exact Or.inl e.symm
      · rw [z, oy.2] at e; exact Or.inr e.symm
      · rw [z, on.2] at e; exact Or.inr e.symm
    have A' : ALi M' a3 b3 (ifS σ) := t2.fr F (fun z => by rcases kk z t2.ok1.2 with q | q <;> exact absurd q (by decide)) (fun hb z => by rcases kk z hb with q | q <;> exact absurd q (by decide)) (fun c _ z w => by rcases kk z w with q | q <;> exact absurd q (by decide))
    have lt := s2.1
    have sn : sc ≠ ya ∧ sc ≠ na := by
      rcases St.2.2 with ⟨q1, q2, -⟩ | ⟨q1, q2, -⟩
      · rw [q1, q2]; exact ⟨s5, s6⟩
      · omega
    exact ⟨L, ⟨by rw [St.2.1.2.2 13 (by decide) (by decide)]; exact s1, ok_E s2 F.1, by rw [(F.1.2.2 sc s2.1).2]; exact s3, by rw [row.2.2.2.1]; exact s4, sn⟩, ⟨by rw [St.2.1.2.2 7 (by decide) (by decide)]; exact t1, A', t3⟩⟩
  · rcases d with q | q | q | ⟨s, q, -⟩ | ⟨f, q, -⟩
    · have : j = 0 ∨ j = 1 := by omega
      rcases this with e | e
      · exact Or.inl e
      · exact Or.inr (Or.inl e)
    · have er : roN Ψ2 j = (4, (roN Ψ2 j).2) := by rw [← q]
      obtain ⟨q1, q2, q3⟩ := hW.r4 hT hj er
      refine Or.inr (Or.inr (Or.inr ⟨(roN Ψ2 j).2, by omega, by rw [hb _ (by omega), q1], ?_⟩))
      by_cases j0 : j < 2
      · rcases hW.r2 j0 with y | y <;> rw [y] at q
        · exact absurd (show (1 : Nat) = 4 from q) (by decide)
        · exact absurd (show (2 : Nat) = 4 from q) (by decide)
      · omega
    · have er : roN Ψ2 j = (6, (roN Ψ2 j).2) := by rw [← q]
      have q1 := (hq.2 j _ hj er).1
      have q2 := hW.2.2.2.2.2.2.2.1.2.2 j _ hj er
      exact Or.inr (Or.inr (Or.inl ⟨_, q2, q1⟩))
    · exact absurd q (fun z => z)
    · exact absurd q (Nat.not_lt_zero _)
/-- an input is told -/
theorem S_tiW {M : Mem} {ya na s : Nat} {w : Int32} {Y Z : Nat → Int32} (hW : MdW τ m σ root γ g0 n0 gw Z0 P zp Ψ1 Ψ2) (h16 : τ.1.length ≤ 16) (hL : CtL M x lc rc ya na sc a3 b3 τ.1.length (ifS σ) Ψ2.1 Y Z) (hC : CoL Ψ2.1.length Y Z) (hs : s < τ.1.length) (K : ∀ M' Y' Z', CtL M' x lc rc ya na sc a3 b3 τ.1.length (ifS σ) Ψ2.1 Y' Z' → ArF (fun c => c = ya ∨ c = na) M M' → TlL Ψ2.1.length (2 + s) w Y Z Y' Z' → Q none M') : E (h + 2) mdX0_tellInput [.ref x, .int (Int32.ofNat s), .int w] M Q := by
  obtain ⟨l1, l2, l3, l4⟩ := hW.ln
  obtain ⟨-, ⟨s1, s2, s3, s4, -⟩, -⟩ := id hL
  refine S_tellIn (h := h) hL.1 hC s1 s2 s3 (by omega) (by rw [s4 s (by omega)]; unfold sgT; rw [if_pos hs, show 4 + 2 * s = 2 * (2 + s) by omega]) (by omega) (fun M' Y' Z' L' A' T' => K M' Y' Z' (hL.ar A' L') A' T')
/-- an if is told -/
theorem S_tfW {M : Mem} {ya na f : Nat} {w : Int32} {Y Z : Nat → Int32} (hW : MdW τ m σ root γ g0 n0 gw Z0 P zp Ψ1 Ψ2) (hL : CtL M x lc rc ya na sc a3 b3 τ.1.length (ifS σ) Ψ2.1 Y Z) (hC : CoL Ψ2.1.length Y Z) (hf : f < (ifS σ).length) (K : ∀ M' Y' Z' n, CtL M' x lc rc ya na sc a3 b3 τ.1.length (ifS σ) Ψ2.1 Y' Z' → ArF (fun c => c = ya ∨ c = na) M M' → n < Ψ2.1.length → 2 ≤ n → roN Ψ2 n = (5, f) → TlL Ψ2.1.length n w Y Z Y' Z' → Q none M') : E (h + 4) mdX0_tellIf [.ref x, .int (Int32.ofNat f), .int w] M Q := by
  obtain ⟨l, e1, e2⟩ := hW.1.1.2.2 f hf
  obtain ⟨q1, q2, q3, q4⟩ := hW.lt e2 (Or.inr rfl)
  refine S_tellIf (h := h) (n := l / 2) hL.1 hC hL.2.2.1 hL.2.2.2.1 hf hL.2.2.2.2 (by rw [e1, ← q1]) q3 (fun M' Y' Z' L' A' T' => K M' Y' Z' (l / 2) (hL.ar A' L') A' q3 q2 q4 T')
end
