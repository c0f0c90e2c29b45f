/-! the class's Search: workState -/
section
variable {M M' : Mem} {x lc rc ya na sc a3 b3 Sn : Nat} {is : List Int32} {N : Nt} {Y Z : Nat → Int32} {S : Nat → Prop}
theorem CtL.fr (hL : CtL M x lc rc ya na sc a3 b3 Sn is N Y Z) (k : fr S M M') (h1 : ¬ S x) (h2 : ¬ S lc) (h3 : ¬ S rc) (h4 : ¬ S ya) (h5 : ¬ S na) (h6 : ¬ S sc) (h7 : ¬ S a3) (h8 : ok M b3 24 → ¬ S b3) (h0 : ∀ c, c < mN M → S c → mK M c ≠ 0) : CtL M' x lc rc ya na sc a3 b3 Sn is N Y Z := by
  obtain ⟨⟨hC, ⟨a1, a2, a3', a4⟩, ⟨b1, b2, b3', b4⟩, ⟨c1, c2⟩, d, e⟩, ⟨f1, f2, f3, f4, f5, f6⟩, ⟨g1, g2, g3⟩⟩ := hL
  have rx := k.2 x hC.1.1 h1
  have rl := k.2 lc hC.2.2.1.1 h2
  have rr := k.2 rc hC.2.2.2.2.1.1 h3
  have ry := k.2 ya a2.1 h4
  have rn := k.2 na b2.1 h5
  have rs := k.2 sc f2.1 h6
  exact ⟨⟨hC.fr k.1 rx rl rr, ⟨by rw [rx.2.2.1]; exact a1, ok_E a2 k.1, by rw [(k.1.2.2 _ a2.1).2]; exact a3', by rw [(k.1.2.2 _ a2.1).2]; exact a4⟩, ⟨by rw [rx.2.2.1]; exact b1, ok_E b2 k.1, by rw [(k.1.2.2 _ b2.1).2]; exact b3', by rw [(k.1.2.2 _ b2.1).2]; exact b4⟩, ⟨by rw [ry.2.2.2.1]; exact c1, by rw [rn.2.2.2.1]; exact c2⟩, d, e⟩, ⟨by rw [rx.2.2.1]; exact f1, ok_E f2 k.1, by rw [(k.1.2.2 _ f2.1).2]; exact f3, by rw [rs.2.2.2.1]; exact f4, f5, f6⟩, ⟨by rw [rx.2.2.1]; exact g1, ali_fr4 g2 k h7 h8 h0, g3⟩⟩
end
section
variable {M M' : Mem} {n0 n1 lc rc cc pb ib b1 b2 ya0 na0 ya na pz : Nat} {τ : Td} {σ : PS} {Ψ : Wg} {hl : List Int32} {ps : List Nat}
theorem MoM.ar (h : MoM M n0 τ σ Ψ hl lc rc cc pb ib b1 b2 ya na pz ps) (hz : MoZ n0 n1 lc rc cc pb ib b1 b2 ps) (hb : mN M < mBig) (k : ArF (fun c => c = ya ∨ c = na) M M') : MoM M' n0 τ σ Ψ hl lc rc cc pb ib b1 b2 ya na pz ps := by
  obtain ⟨-, -, -, -, -, ⟨⟨hCi, ⟨d1, d2, d3⟩, ⟨d4, d5, d6, d7⟩, -⟩, -⟩, -⟩ := id h
  obtain ⟨⟨k1, k2, k3, k4⟩, ⟨k5, k6, k7, k8, k9⟩, k10⟩ := id k
  have e : mE M M' := k.e
  refine h.mu (ow := fun _ => n0) (S := noP) hz (fun _ _ _ => rfl) (fun a z => z.elim) (fun a z => z.elim) hb ⟨⟨e, fun a _ hn => ⟨by rw [k5], by rw [k6], by rw [k7], k10 a (fun z => hn ?_), by rw [k8], by rw [k9]⟩⟩, ⟨by rw [k5], fun f _ => by rw [k7]⟩, ⟨by rw [k5], fun f _ _ => by rw [k7], by rw [k7]; exact d1, by rw [k7]; exact d4⟩, ⟨fun f _ _ => by rw [k5], by rw [k7]⟩, ⟨ok_E d2 e, ok_E d5 e, by rw [k4]; exact d3, by rw [k4]; exact d6, by rw [k4]; exact d7⟩, Or.inl ⟨rfl, rfl⟩⟩
  rcases z with z | z
  · exact Or.inr (Or.inr (Or.inr (Or.inr (Or.inl z))))
  · exact Or.inr (Or.inr (Or.inr (Or.inr (Or.inr (Or.inl z)))))
theorem MoM.out {S : Nat → Prop} (h : MoM M n0 τ σ Ψ hl lc rc cc pb ib b1 b2 ya na pz ps) (hz : MoZ n0 n1 lc rc cc pb ib b1 b2 ps) (hb : mN M < mBig) (k : fr S M M') (hS : ∀ r, S r → ¬ (n0 ≤ r ∧ r < n1)) (h0 : ∀ r, S r → mK M r ≠ 0) : MoM M' n0 τ σ Ψ hl lc rc cc pb ib b1 b2 ya na pz ps := by
  have how : ∀ a, n0 ≤ a → a < n1 → (fun a => if n0 ≤ a ∧ a < n1 then n0 else n0 + 1) a = n0 := fun a h1 h2 => if_pos ⟨h1, h2⟩
  have hS' : ∀ a, S a → (fun a => if n0 ≤ a ∧ a < n1 then n0 else n0 + 1) a ≠ n0 := fun a z => by
    show (if n0 ≤ a ∧ a < n1 then n0 else n0 + 1) ≠ n0
    rw [if_neg (hS a z)]
    omega
  exact h.mu (ow := fun a => if n0 ≤ a ∧ a < n1 then n0 else n0 + 1) hz how hS' h0 hb (MuF.of h hz how hS' k)
end
section
variable {τ : Td} {m : Nat} {σ : PS} {root : Nat} {γ : Gh} {g0 n0 n1 gw : Nat} {Z0 P : Nat → Nat → Int32} {zp : Int32} {Ψ1 Ψ2 : Wg} {R : RMo} {zn fn y0 q0 : Nat} {lc rc cc pb ib b1 b2 ya0 na0 pz x t n s h : Nat} {hl : List Int32} {ps : List Nat} {a : Nat → Nat} {M : Mem} {Q : Option Value → Mem → Prop}
theorem S_setBl {x lc rc ya na c9 c10 c11 pz l : Nat} {N : Nt} {Y Z : Nat → Int32} {v : Int32} (hL : CrL M x lc rc ya na N Y Z) (hC : CoL N.length Y Z) (hl : l < 32) (hE : CeS M x c9 c10 c11 pz N.length) (K : ∀ r : Int32, Q (some (.int r)) M) : E (h + 3) mdX0_setBehind [.ref x, .int (Int32.ofNat l), .int v] M Q := by
  obtain ⟨⟨a1, a2⟩, ⟨b1, b2, b3, b4⟩, ⟨d1, d2, d3, d4⟩, ⟨e1, e2, e3, e4⟩, -⟩ := hE
  have hl5 := hL.2.2.2.2.2
  exact S_setB (h := h) (l := l) (g := fun p => (mAI M c9 p).toNatClampNeg) (s := fun p => (mAI M c10 p).toNatClampNeg) (k := fun p => (mAI M c11 p).toNatClampNeg) hL hC hl a1 a2 ⟨b1, b2, b3⟩ ⟨d1, d2, d3⟩ ⟨e1, e2, e3⟩ (fun p hp => of_cl hl5 (b4 p hp)) (fun p hp => of_cl hl5 (d4 p hp)) (fun p hp => of_cl hl5 (e4 p hp)) (K _)
/-- what a search may change of what was there -/
def SeF (n0 ya0 na0 x : Nat) (a : Nat → Nat) (r : Nat) : Prop := r = n0 + 8 ∨ r = ya0 ∨ r = na0 ∨ r = x ∨ rwF a r
/-- new rows for the lanes, or none -/
def LnN (ya0 na0 ya na len : Nat) (M M' : Mem) : Prop := (ya = ya0 ∧ na = na0 ∧ mN M' = mN M ∧ mS M' = mS M) ∨ (ya = mN M ∧ na = mN M + 1 ∧ mN M' = mN M + 2 ∧ mS M' = mS M + 2 * len ∧ mL M ya0 < len)
set_option maxHeartbeats 1000000 in
theorem S_wkSt (hW : MdW τ m σ root γ g0 n0 gw Z0 P zp Ψ1 Ψ2) (hT : TwT (woS τ m σ γ) R zn fn y0 root q0) (hR : MdR τ m σ R) (h16 : τ.1.length ≤ 16) (hz : MoZ n0 n1 lc rc cc pb ib b1 b2 ps) (hM : MoM M n0 τ σ Ψ2 hl lc rc cc pb ib b1 b2 ya0 na0 pz ps) (hO : ScO M x n0 t a) (hC : ScC M x t n a) (ht : (inL τ.2.1).length + (ifS σ).length = t) (hs : s < n) (hx : ∀ r, r = x ∨ rwF a r → ¬ (n0 ≤ r ∧ r < n1) ∧ r ≠ ya0 ∧ r ≠ na0) (hbig : mN M + 2 < mBig) (e2 : mI M x 2 = 0) (K : ∀ M' n' ya na, fr (SeF n0 ya0 na0 x a) M M' → MoM M' n0 τ σ Ψ2 hl lc rc cc pb ib b1 b2 ya na pz ps → ScO M' x n0 t a → ScC M' x t n' a → n ≤ n' → (mI M' x 2 = 0 ∨ mI M' x 2 = 1) → Ψ2.1.length ≤ mL M' ya → LnN ya0 na0 ya na Ψ2.1.length M M' → Q none M') : E (h + 5) mdX5_workState [.ref x, .int (Int32.ofNat s)] M Q := by
  obtain ⟨⟨ox, e0, e1, t5⟩, hf, hd⟩ := id hO
  obtain ⟨p1, p2⟩ := pw_le t5
  have n48 := hC.1.2
  have on0 : ok M n0 3 := hM.1.1.1
  have cs := hM.2.2.2.2.2.1
  have oy : ok M ya0 21 := cs.1.2.1.2.1
  have on : ok M na0 21 := cs.1.2.2.1.2.1
  have oxx : ok M (n0 + 8) 2 := cs.1.1.1
  have osm : ok M (n0 + 22) 8 := hM.1.2.1.1.1
  have kne : ∀ {a b p q : Nat}, ok M a p → ok M b q → p ≠ q → a ≠ b := fun {a b p q} o1 o2 hp e => by
    rw [e] at o1
    exact hp (o1.2.symm.trans o2.2)
  have n25 := hz.1
  obtain ⟨l1, l2, l3, l4⟩ := hW.ln
  have ls : (Int32.ofNat s).toNatClampNeg = s := lt32 (by omega)
  have v48 : ∀ {M1 : Mem} {f : Nat}, ScO M1 x n0 t a → 5 ≤ f → f ≤ 8 → vp_in (Int32.ofNat s) (mL M1 (a f)) := fun hO1 f1 f2 => by rw [hO1.l48 f1 (by omega) (by omega) (by omega)]; exact vp_of (by omega) (by decide)
  have fin : ∀ (v0 v1 v2 : Int32), DX5_workState_30 (h + 4) x (Int32.ofNat s) (n0 + 8) (n0 + 8) v0 v1 v2 M Q := by
    intro v0 v1 v2
    unfold DX5_workState_30
    refine ⟨oxx, S_stW (h := h) (R := R) (Is := fun _ => (v0, fun s => if btL v1 s = true then 1 else 0, fun _ => 0, if v2 = 0 then 0 else 1, fun _ => 0)) (ift := fun _ _ => 0) hW hT cs h16 hbig (fun _ => rfl) (fun _ _ _ => rfl) (fun _ => ?_) (fun M2 ya na Y2 Z2 L2 St T2 _ => ⟨rfl, ?_⟩)⟩
    · have e : iFi (v0, fun s => if btL v1 s = true then 1 else 0, fun _ => 0, if v2 = 0 then 0 else 1, fun _ => 0) = if v2 = 0 then 0 else 1 := rfl
      rw [e]
      by_cases z : v2 = 0
      · rw [if_pos z, if_neg (by decide)]
      · rw [if_neg z, if_pos rfl]
    have F2 := St.1
    have ng : LnN ya0 na0 ya na Ψ2.1.length M M2 := St.2.2
    have b2' : mN M2 < mBig := by rcases ng with ⟨-, -, e, -⟩ | ⟨-, -, e, -⟩ <;> omega
    have yl : (ya = ya0 ∧ na = na0) ∨ (mN M ≤ ya ∧ mN M ≤ na ∧ ya ≠ na) := by
      rcases ng with ⟨e, e', -⟩ | ⟨e, e', -⟩
      · exact Or.inl ⟨e, e'⟩
      · exact Or.inr ⟨by omega, by omega, by omega⟩
    have rn0 := F2.2 n0 on0.1 (fun z => by
      rcases z with z | z | z
      · omega
      · exact kne on0 oy (by decide) z
      · exact kne on0 on (by decide) z)
    have rsm := F2.2 (n0 + 22) osm.1 (fun z => by
      rcases z with z | z | z
      · omega
      · exact kne osm oy (by decide) z
      · exact kne osm on (by decide) z)
    have M2' : MoM M2 n0 τ σ Ψ2 hl lc rc cc pb ib b1 b2 ya na pz ps := by
      refine hM.mu (ow := fun _ => n0) (S := noP) hz (fun _ _ _ => rfl) (fun a z => z.elim) (fun a z => z.elim) (by omega) ⟨F2.more (fun a _ z => ?_), ⟨rn0.1, fun f _ => by rw [rn0.2.2.1]⟩, ⟨St.2.1.1, St.2.1.2.2, L2.1.2.1.1, L2.1.2.2.1.1⟩, ⟨fun f _ _ => by rw [rsm.1], rsm.2.2.1⟩, ⟨L2.1.2.1.2.1, L2.1.2.2.1.2.1, L2.1.2.1.2.2.2, L2.1.2.2.1.2.2.2, fun _ => L2.1.2.2.1.2.2.1⟩, yl⟩
      rcases z with z | z | z
      · exact Or.inr (Or.inr (Or.inr (Or.inl z)))
      · exact Or.inr (Or.inr (Or.inr (Or.inr (Or.inl z))))
      · exact Or.inr (Or.inr (Or.inr (Or.inr (Or.inr (Or.inl z)))))
    -- the search's own cells are apart
    have okr : ∀ {r : Nat}, r = x ∨ rwF a r → ∃ q, ok M r q ∧ (q = 7 ∨ q = 21) := fun {r} z => by
      rcases z with z | ⟨f, f1, f2, z⟩
      · exact ⟨7, by rw [z]; exact ox, Or.inl rfl⟩
      · exact ⟨21, by rw [z]; exact (hf f f1 f2).2.1, Or.inr rfl⟩
    have nyr : ∀ {r : Nat}, r = x ∨ rwF a r → r ≠ ya ∧ r ≠ na := fun {r} z => by
      obtain ⟨q, o, -⟩ := okr z
      obtain ⟨-, h1, h2⟩ := hx r z
      have := o.1
      rcases yl with ⟨e, e'⟩ | ⟨e, e', -⟩
      · rw [e, e']; exact ⟨h1, h2⟩
      · omega
    have rS : ∀ {r : Nat}, r = x ∨ rwF a r → sameRow M M2 r := fun {r} z => by
      obtain ⟨q, o, -⟩ := okr z
      obtain ⟨h0, h1, h2⟩ := hx r z
      exact F2.2 r o.1 (fun y => by
        rcases y with y | y | y
        · exact h0 (by omega)
        · exact h1 y
        · exact h2 y)
    have O2 : ScO M2 x n0 t a := by
      have rx := rS (r := x) (Or.inl rfl)
      refine ⟨⟨ok_E ox F2.1, by rw [rx.2.2.1]; exact e0, by rw [rx.1]; exact e1, t5⟩, fun f f1 f2 => ⟨by rw [rx.2.2.1]; exact (hf f f1 f2).1, ok_E (hf f f1 f2).2.1 F2.1, by rw [(F2.1.2.2 _ (hf f f1 f2).2.1.1).2]; exact (hf f f1 f2).2.2⟩, hd⟩
    have C2 : ScC M2 x t n a := hC.k (by rw [(rS (r := x) (Or.inl rfl)).1]) (rS (Or.inr ⟨7, by decide, by decide, rfl⟩)).2.2.2.1 (rS (Or.inr ⟨9, by decide, by decide, rfl⟩)).2.2.2.1
    have b22 : mI M2 x 2 = 0 := by rw [(rS (r := x) (Or.inl rfl)).1]; exact e2
    -- what telling and settling leave alone
    have stA : ∀ {M3 : Mem}, ArF (fun c => c = ya ∨ c = na) M2 M3 → MoM M3 n0 τ σ Ψ2 hl lc rc cc pb ib b1 b2 ya na pz ps ∧ ScO M3 x n0 t a ∧ ScC M3 x t n a ∧ mI M3 x 2 = 0 ∧ mR M3 x = mR M2 x := fun {M3} k => by
      refine ⟨M2'.ar hz b2' k, ⟨⟨ok_E O2.1.1 k.e, by rw [k.2.1.2.2.1]; exact O2.1.2.1, by rw [k.2.1.1]; exact O2.1.2.2.1, t5⟩, fun f f1 f2 => ⟨by rw [k.2.1.2.2.1]; exact (O2.2.1 f f1 f2).1, ok_E (O2.2.1 f f1 f2).2.1 k.e, by rw [k.1.2.2.2]; exact (O2.2.1 f f1 f2).2.2⟩, hd⟩, C2.k (by rw [k.2.1.1]) (k.2.2 _ (fun z => ?_)) (k.2.2 _ (fun z => ?_)), by rw [k.2.1.1]; exact b22, by rw [k.2.1.2.2.1]⟩
      · have := nyr (r := a 7) (Or.inr ⟨7, by decide, by decide, rfl⟩)
        exact z.elim this.1 this.2
      · have := nyr (r := a 9) (Or.inr ⟨9, by decide, by decide, rfl⟩)
        exact z.elim this.1 this.2
    -- MOVE by MOVE
    have l131 : ∀ M3 Y3 Z3, ArF (fun c => c = ya ∨ c = na) M2 M3 → CtL M3 (n0 + 8) lc rc ya na (n0 + 20) (n0 + 15) ib τ.1.length (ifS σ) Ψ2.1 Y3 Z3 → TdV Ψ2.1.length (tbR R Ψ2) Y3 Z3 → DX5_workState_131 (h + 4) x (Int32.ofNat s) (n0 + 8) M3 Q := by
      intro M3 Y3 Z3 k3 L3 V3
      unfold DX5_workState_131
      refine ⟨L3.1.1.1, S_settle (h := h + 1) (hW.nts hT hR cs.2.1 L3.1.1.2.2.2.2.2.2.2.2.1) L3.1 V3.j (fun M4 Y4 Z4 L4 A4 J4 _ _ => ⟨rfl, S_stuck (h := h + 3) L4 (fun r4 _ _ => ⟨r4, rfl, ?_⟩)⟩)⟩
      have L4' : CtL M4 (n0 + 8) lc rc ya na (n0 + 20) (n0 + 15) ib τ.1.length (ifS σ) Ψ2.1 Y4 Z4 := L3.ar A4 L4
      have k4 : ArF (fun c => c = ya ∨ c = na) M2 M4 := k3.tr A4
      obtain ⟨Mo4, O4, C4, b4, -⟩ := stA k4
      have bg4 : mN M4 < mBig := by rw [k4.1.1]; exact b2'
      have k4n : ∀ {r : Nat}, r = x ∨ rwF a r → mK M4 r ≠ 0 := fun {r} z => by
        obtain ⟨q, o, hq⟩ := okr z
        rw [k4.1.2.2.1, (F2.1.2.2 r o.1).1, o.2]
        rcases hq with e | e <;> rw [e] <;> decide
      have FK4 : fr (SeF n0 ya0 na0 x a) M M4 := (F2.more (fun c _ z => by
        rcases z with z | z | z
        · exact Or.inl z
        · exact Or.inr (Or.inl z)
        · exact Or.inr (Or.inr (Or.inl z)))).tr (S1 := fun c => c = ya ∨ c = na) ⟨k4.e, fun c _ hc => ⟨by rw [k4.2.1.1], by rw [k4.2.1.2.1], by rw [k4.2.1.2.2.1], k4.2.2 c hc, by rw [k4.2.1.2.2.2.1], by rw [k4.2.1.2.2.2.2]⟩⟩ (fun c hc z => by
        rcases yl with ⟨e, e'⟩ | ⟨e, e', -⟩
        · rcases z with z | z
          · exact Or.inr (Or.inl (z.trans e))
          · exact Or.inr (Or.inr (Or.inl (z.trans e')))
        · omega)
      have izx : ∀ {r q : Nat}, ok M4 r q → inZ n0 n1 r → ¬ (r = x ∨ rwF a r) := fun {r q} o hi z => by
        rcases hi with hi | hi
        · exact (hx r z).1 hi
        · have := o.1; omega
      have st : ∀ {Mi : Mem}, GmF x f23 (rwF a) M4 Mi → MoM Mi n0 τ σ Ψ2 hl lc rc cc pb ib b1 b2 ya na pz ps ∧ CtL Mi (n0 + 8) lc rc ya na (n0 + 20) (n0 + 15) ib τ.1.length (ifS σ) Ψ2.1 Y4 Z4 ∧ ScO Mi x n0 t a := fun {Mi} k => by
        have i25 : ∀ c, c < 25 → inZ n0 n1 (n0 + c) := fun c hc => Or.inl ⟨by omega, by omega⟩
        refine ⟨Mo4.out hz bg4 k.fr (fun r z => (hx r z).1) (fun r z => k4n z), L4'.fr k.fr (izx L4'.1.1.1 (i25 8 (by decide))) (izx L4'.1.1.2.2.1 hz.2.1) (izx L4'.1.1.2.2.2.2.1 hz.2.2.1) (fun z => (nyr z).1 rfl) (fun z => (nyr z).2 rfl) (izx L4'.2.1.2.1 (i25 20 (by decide))) (izx L4'.2.2.2.1.ok1 (i25 15 (by decide))) (fun o => izx o hz.2.2.2.2.2.1) (fun c _ z => k4n z), O4.gm k (by decide)⟩
      have KK : ∀ Mi ni, GmF x f23 (rwF a) M4 Mi → ScC Mi x t ni a → n ≤ ni → (mI Mi x 2 = 0 ∨ mI Mi x 2 = 1) → Q none Mi := fun Mi ni k hCi hn hb => by
        obtain ⟨Mo, Lo, Oo⟩ := st k
        refine K Mi ni ya na (FK4.tr k.fr (fun c _ z => Or.inr (Or.inr (Or.inr z)))) Mo Oo hCi hn hb Lo.1.2.1.2.2.1 ?_
        unfold LnN
        rw [k.1.1, k.1.2.1, k4.1.1, k4.1.2.1]
        exact ng
      have l143 : ∀ d v Mi ni, v + d = 2 ^ t → GmF x f23 (rwF a) M4 Mi → ScC Mi x t ni a → n ≤ ni → (mI Mi x 2 = 0 ∨ mI Mi x 2 = 1) → T (h + 5) mdX5_workState 143 [(0, .ref x), (1, .int (Int32.ofNat s)), (2, .ref (n0 + 8)), (3, .int r4), (4, .int (Int32.ofNat v))] [] Mi Q := by
        intro d
        induction d with
        | zero =>
          intro v Mi ni hv ki Ci hn hb
          have ev : v = 2 ^ t := hv
          subst ev
          obtain ⟨-, -, Oi⟩ := st ki
          refine VX5_workState_143 (h := h + 4) ?_
          unfold DX5_workState_143 DX5_workState_264
          rw [Oi.1.2.2.1]
          exact ⟨Oi.1.1, fun _ => KK Mi ni ki Ci hn hb, fun z => absurd Int32.le_rfl z⟩
        | succ d ih =>
          intro v Mi ni hv ki Ci hn hb
          obtain ⟨Moi, Li, Oi⟩ := st ki
          have ni48 := Ci.1.2
          obtain ⟨i1, i2, i3⟩ := ix_mv (s := s) (v := v) t5 (by omega) (by omega)
          have l1' : (Int32.ofNat (s * 2 ^ t + v)).toNatClampNeg = s * 2 ^ t + v := lt32 (by omega)
          have vat : ∀ {Mj : Mem} {f : Nat}, ScO Mj x n0 t a → f = 9 ∨ f = 10 → vp_in (Int32.ofNat (s * 2 ^ t + v)) (mL Mj (a f)) := fun hO1 hf9 => by rw [hO1.lm hf9]; exact vp_of i2 (by omega)
          have v32 : v < 32 := by omega
          refine VX5_workState_143 (h := h + 4) ?_
          unfold DX5_workState_143 DX5_workState_264 DX5_workState_258
          rw [Oi.1.2.2.1, i1, l1', succ32]
          refine ⟨Oi.1.1, fun z => absurd ((le32 (by omega) (by omega)).mp z) (by omega), fun _ => ⟨fun _ => KK Mi ni ki Ci hn hb, fun b0 => ⟨fun _ => ?_, fun _ => ⟨a 9, (Oi.2.1 9 (by decide) (by decide)).1, (Oi.2.1 9 (by decide) (by decide)).2.1, vat Oi (Or.inl rfl), fun M21 e21 => ?_⟩⟩⟩⟩
          · refine ⟨a 10, (Oi.2.1 10 (by decide) (by decide)).1, Li.1.1.1, S_shown (h := h + 1) (g := sgT τ.1.length) Li.1 J4.1 v32 Li.2.1.1 Li.2.1.2.1 Li.2.1.2.2.1 (fun q hq => ⟨Li.2.1.2.2.2.1 q hq, ?_⟩) (fun _ => ⟨_, rfl, (Oi.2.1 10 (by decide) (by decide)).2.1, vat Oi (Or.inr rfl), fun M7 e7 => ?_⟩)⟩
            · unfold sgT
              by_cases y : q < τ.1.length
              · rw [if_pos y]; omega
              · rw [if_neg y]; omega
            have k7 : GmF x f23 (rwF a) M4 M7 := ki.tr (GmF.a ⟨10, by decide, by decide, rfl⟩ e7)
            obtain ⟨Mo7, L7, O7⟩ := st k7
            have C7 : ScC M7 x t ni a := Ci.k (by rw [e7]; rfl) (aiN e7 (hO.ne (by decide) (by decide) (by decide) (by decide) (by decide))) (aiN e7 (hO.ne (by decide) (by decide) (by decide) (by decide) (by decide)))
            have b7 : mI M7 x 2 = 0 := by rw [e7]; exact b0
            have ce := Mo7.2.2.2.2.2.2.1
            obtain ⟨q16, q1, q2⟩ := ce.2.2.2.2
            -- a MOVE's lead is written
            have f257 : ∀ (r : Int32) Mj nj, GmF x f23 (rwF a) M4 Mj → ScC Mj x t nj a → n ≤ nj → (mI Mj x 2 = 0 ∨ mI Mj x 2 = 1) → (r < 0 ∨ ∃ q, q < 48 ∧ r = Int32.ofNat q) → DX5_workState_257 (h + 4) x (Int32.ofNat s) (n0 + 8) r4 (Int32.ofNat v) (a 9) (Int32.ofNat (s * 2 ^ t + v)) r Mj Q := by
              intro r Mj nj kj Cj hnj hbj hr
              obtain ⟨-, -, Oj⟩ := st kj
              unfold DX5_workState_257 DX5_workState_258
              rw [succ32]
              refine ⟨(Oj.2.1 9 (by decide) (by decide)).2.1, vat Oj (Or.inl rfl), fun M2' e2' => ?_⟩
              exact ih (v + 1) M2' nj (by omega) (kj.tr (GmF.a ⟨9, by decide, by decide, rfl⟩ e2')) (Cj.nx Oj hr e2') hnj (by rw [e2']; exact hbj)
            rw [q2]
            refine S_isOn (h := h + 2) L7.1 J4.1 q1 v32 (fun _ => ⟨_, rfl, a 9, (O7.2.1 9 (by decide) (by decide)).1, fun _ => ⟨a 5, (O7.2.1 5 (by decide) (by decide)).1, (O7.2.1 5 (by decide) (by decide)).2.1, v48 O7 (by decide) (by decide), S_setBl (h := h + 1) L7.1 J4.1 v32 ce (fun r14 _ => ⟨r14, rfl, a 10, (O7.2.1 10 (by decide) (by decide)).1, (O7.2.1 10 (by decide) (by decide)).2.1, vat O7 (Or.inr rfl), S_reach (h := h + 3) O7 C7 (by omega) (fun M17 n17 r18 k17 C17 hn17 b17 hr18 _ => ⟨r18, rfl, f257 r18 M17 n17 (k7.tr k17) C17 (by omega) (by rw [b7] at b17; exact b17) hr18⟩)⟩)⟩, fun _ => f257 (-1) M7 ni k7 C7 hn (Or.inl b7) (Or.inl (by decide))⟩)
          · exact ih (v + 1) M21 ni (by omega) (ki.tr (GmF.a ⟨9, by decide, by decide, rfl⟩ e21)) (Ci.nx Oi (Or.inl (by decide)) e21) hn (by rw [e21]; exact hb)
      exact l143 (2 ^ t) 0 M4 n (by omega) GmF.rf C4 (Nat.le_refl _) (Or.inl b4)
    -- the ifs
    have l80 : ∀ d i M3 Y3 Z3, i + d = (ifS σ).length → ArF (fun c => c = ya ∨ c = na) M2 M3 → CtL M3 (n0 + 8) lc rc ya na (n0 + 20) (n0 + 15) ib τ.1.length (ifS σ) Ψ2.1 Y3 Z3 → TdV Ψ2.1.length (tbR R Ψ2) Y3 Z3 → T (h + 5) mdX5_workState 80 [(0, .ref x), (1, .int (Int32.ofNat s)), (2, .ref (n0 + 8)), (3, .int (Int32.ofNat i))] [] M3 Q := by
      intro d
      induction d with
      | zero =>
        intro i M3 Y3 Z3 hi k3 L3 V3
        have ei : i = (ifS σ).length := hi
        obtain ⟨Mo3, O3, -, -, -⟩ := stA k3
        refine VX5_workState_80 (h := h + 4) ?_
        unfold DX5_workState_80
        refine ⟨O3.1.1, n0, O3.1.2.1, Mo3.1.1.1, ?_⟩
        rw [Mo3.2.2.2.2.2.2.2.2.2.2.2.2.1, ← ei]
        exact ⟨fun _ => l131 M3 Y3 Z3 k3 L3 V3, fun z => absurd Int32.le_rfl z⟩
      | succ d ih =>
        intro i M3 Y3 Z3 hi k3 L3 V3
        obtain ⟨Mo3, O3, -, -, -⟩ := stA k3
        have e14 := Mo3.2.2.2.2.2.2.2.2.2.2.2.2.1
        have e10 := Mo3.1.1.2.2.2.2
        refine VX5_workState_80 (h := h + 4) ?_
        unfold DX5_workState_80
        rw [succ32]
        refine ⟨O3.1.1, n0, O3.1.2.1, Mo3.1.1.1, ?_⟩
        rw [e14]
        refine ⟨fun z => absurd ((le32 (by omega) (by omega)).mp z) (by omega), fun _ => ⟨n0, O3.1.2.1, Mo3.1.1.1, fun _ => l131 M3 Y3 Z3 k3 L3 V3, fun z => ⟨n0, O3.1.2.1, Mo3.1.1.1, ?_, L3.1.1.1, ?_⟩⟩⟩
        · rw [e10, add32]; exact vp_of (by omega) (by decide)
        · refine S_tfW (h := h) hW L3 V3.1 (by omega) (fun M5 Y5 Z5 q L5 A5 q1 q2 q3 T5 _ => ⟨rfl, ih (i + 1) M5 Y5 Z5 (by omega) (k3.tr A5) L5 (V3.tl T5 ?_)⟩)
          rw [tb_r q3 q2]; rfl
    -- the inputs
    have l35 : ∀ d i M3 Y3 Z3, i + d = (inL τ.2.1).length → ArF (fun c => c = ya ∨ c = na) M2 M3 → CtL M3 (n0 + 8) lc rc ya na (n0 + 20) (n0 + 15) ib τ.1.length (ifS σ) Ψ2.1 Y3 Z3 → TdV Ψ2.1.length (tbR R Ψ2) Y3 Z3 → T (h + 5) mdX5_workState 35 [(0, .ref x), (1, .int (Int32.ofNat s)), (2, .ref (n0 + 8)), (3, .int (Int32.ofNat i))] [] M3 Q := by
      intro d
      induction d with
      | zero =>
        intro i M3 Y3 Z3 hi k3 L3 V3
        have ei : i = (inL τ.2.1).length := hi
        obtain ⟨Mo3, O3, -, -, -⟩ := stA k3
        refine VX5_workState_35 (h := h + 4) ?_
        unfold DX5_workState_35 DX5_workState_78
        refine ⟨O3.1.1, n0, O3.1.2.1, Mo3.1.1.1, ?_⟩
        rw [Mo3.1.1.2.2.2.2, ← ei]
        exact ⟨fun _ => l80 (ifS σ).length 0 M3 Y3 Z3 (by omega) k3 L3 V3, fun z => absurd Int32.le_rfl z⟩
      | succ d ih =>
        intro i M3 Y3 Z3 hi k3 L3 V3
        obtain ⟨Mo3, O3, -, -, -⟩ := stA k3
        have li : (Int32.ofNat i).toNatClampNeg = i := lt32 (by omega)
        obtain ⟨s1, s2, s3, s4⟩ := Mo3.2.2.2.1 i (by omega)
        refine VX5_workState_35 (h := h + 4) ?_
        unfold DX5_workState_35 DX5_workState_78
        rw [succ32, li]
        refine ⟨O3.1.1, n0, O3.1.2.1, Mo3.1.1.1, ?_⟩
        rw [Mo3.1.1.2.2.2.2]
        refine ⟨fun z => absurd ((le32 (by omega) (by omega)).mp z) (by omega), fun _ => ⟨fun _ => l80 (ifS σ).length 0 M3 Y3 Z3 (by omega) k3 L3 V3, fun z => ⟨n0, O3.1.2.1, Mo3.1.1.1, n0 + 4, Mo3.1.1.2.2.2.1, Mo3.1.2.2.2.1, ?_, ?_, L3.1.1.1, ?_⟩⟩⟩
        · rw [Mo3.1.2.2.2.2.1]; exact vp_of (by have := Mo3.1.2.2.2.2.2.1; omega) (by decide)
        · exact vp_of (by omega) (by decide)
        · rw [s4]
          refine S_tiW (h := h + 2) hW h16 L3 V3.1 s2 (fun M5 Y5 Z5 L5 A5 T5 _ => ⟨rfl, ih (i + 1) M5 Y5 Z5 (by omega) (k3.tr A5) L5 (V3.tl T5 ?_)⟩)
          rw [tb_r (hW.sg s2) (by omega), decide_eq_true ((hR.2.2.2.2 s1 s2).mpr s3)]; rfl
    exact l35 (inL τ.2.1).length 0 M2 Y2 Z2 (by omega) ArF.rf L2 T2.v
  refine KX5_workState (h := h + 4) ?_
  unfold DX5_workState_0
  rw [ls]
  exact ⟨ox, n0, e0, on0, n0 + 8, hM.2.2.2.2.1, a 5, (hf 5 (by decide) (by decide)).1, (hf 5 (by decide) (by decide)).2.1, v48 hO (by decide) (by decide), a 6, (hf 6 (by decide) (by decide)).1, (hf 6 (by decide) (by decide)).2.1, v48 hO (by decide) (by decide), fun _ => fin _ _ _, fun _ => fin _ _ _⟩
end
