/-! a governor's beat, whole -/
/-- what a beat leaves -/
def ReF (g sm stc x ya0 na0 nw nx wr len : Nat) (M : Mem) (ya na nw' nx' : Nat) (M' : Mem) : Prop := fr (fun a => a = g ∨ a = sm ∨ a = stc ∨ a = x ∨ a = ya0 ∨ a = na0 ∨ a = nw ∨ a = nx ∨ a = wr) M M' ∧ (mI M' x = mI M x ∧ mJ M' x = mJ M x ∧ (∀ f, f ≠ 2 → f ≠ 3 → mR M' x f = mR M x f) ∧ mR M' x 2 = some ya ∧ mR M' x 3 = some na) ∧ ((∀ f, f ≠ 3 → f ≠ 4 → mI M' sm f = mI M sm f) ∧ mR M' sm = mR M sm ∧ mR M' stc = mR M stc ∧ mI M' stc = mI M stc) ∧ mI M' g 5 = mI M g 5 ∧ ((ya = ya0 ∧ na = na0 ∧ mN M' = mN M ∧ mS M' = mS M) ∨ (ya = mN M ∧ na = mN M + 1 ∧ mN M' = mN M + 2 ∧ mS M' = mS M + 2 * len ∧ mL M ya0 < len)) ∧ (ok M' ya 21 ∧ len ≤ mL M' ya ∧ mL M' ya < 1000000 ∧ ok M' na 21 ∧ len ≤ mL M' na ∧ mL M' na < 1000000) ∧ (nw' = nw ∧ nx' = nx ∨ nw' = nx ∧ nx' = nw)
section
variable {M M' M1 : Mem} {g sm stc x ya0 na0 nw nx wr len ya na nw' nx' c kp gn nP : Nat} {ks : Nat → Nat} {X : List Nd} {cs : List Int32}
theorem PtK.row {p : Nat} (hp : PtK M X cs p) (e : mI M' p = mI M p) (o : ok M' p 5) : PtK M' X cs p := by
  have sp : ∀ {f : Nat}, SuPt M X cs p f → SuPt M' X cs p f := fun {f} hs => by
    obtain ⟨a, c, pr, po, q1, q2, q3, q4⟩ := hs
    exact ⟨a, c, pr, po, q1, q2, q3, by rw [e]; exact q4⟩
  refine ⟨o, ?_⟩
  rw [e]
  rcases hp.2 with q | ⟨q1, q2, q3⟩ | ⟨q1, q2, q3⟩ | ⟨q1, q2, q3⟩
  · exact Or.inl q
  · exact Or.inr (Or.inl ⟨q1, q2, sp q3⟩)
  · exact Or.inr (Or.inr (Or.inl ⟨q1, q2, sp q3⟩))
  · exact Or.inr (Or.inr (Or.inr ⟨q1, sp q2, sp q3⟩))
/-- a number of the governor is written -/
theorem ReF.gi (h : ReF g sm stc x ya0 na0 nw nx wr len M ya na nw' nx' M1) (k : GmF g (fun f => f = 6) noP M1 M') (xg : x ≠ g) (sg : sm ≠ g) (tg : stc ≠ g) : ReF g sm stc x ya0 na0 nw nx wr len M ya na nw' nx' M' := by
  obtain ⟨f, ⟨a1, a2, a3, a4, a5⟩, ⟨b1, b2, b3, b4⟩, c1, d1, ⟨e1, e2, e3, e4, e5, e6⟩, h1⟩ := h
  have l := k.1.2.2.2
  have r := k.2.1.2.1
  refine ⟨f.tr k.fr (fun a _ z => z.elim (fun z => Or.inl z) (fun z => z.elim)), ⟨by rw [k.2.2.1 x xg]; exact a1, by rw [k.2.1.1]; exact a2, by rw [r]; exact a3, by rw [r]; exact a4, by rw [r]; exact a5⟩, ⟨by rw [k.2.2.1 sm sg]; exact b1, by rw [r]; exact b2, by rw [r]; exact b3, by rw [k.2.2.1 stc tg]; exact b4⟩, by rw [k.2.2.2.1 5 (by decide)]; exact c1, by rw [k.1.1, k.1.2.1]; exact d1, ⟨k.ok e1, by rw [l]; exact e2, by rw [l]; exact e3, k.ok e4, by rw [l]; exact e5, by rw [l]; exact e6⟩, h1⟩
/-- now and next are changed for each other -/
theorem ReF.sw {p q : Option Nat} (h : ReF g sm stc x ya0 na0 nw nx wr len M ya na nw' nx' M1) (e : M' = wR (wR M1 g 2 p) g 3 q) (xg : x ≠ g) (sg : sm ≠ g) (tg : stc ≠ g) : ReF g sm stc x ya0 na0 nw nx wr len M ya na nw' nx' M' := by
  obtain ⟨f, ⟨a1, a2, a3, a4, a5⟩, ⟨b1, b2, b3, b4⟩, c1, d1, ⟨e1, e2, e3, e4, e5, e6⟩, h1⟩ := h
  have rx : ∀ a, a ≠ g → mR M' a = mR M1 a := fun a ha => by
    rw [e]
    funext f
    rw [mR_wR, if_neg (fun z => ha z.1), mR_wR, if_neg (fun z => ha z.1)]
  have fr1 : fr (fun a => a = g) M1 M' := by
    rw [e]
    exact (fr_wR (S := fun a => a = g) rfl).tr (fr_wR (S := fun a => a = g) rfl) (fun _ _ z => z)
  refine ⟨f.tr fr1 (fun a _ z => Or.inl z), ⟨by rw [e]; exact a1, by rw [e]; exact a2, by rw [rx x xg]; exact a3, by rw [rx x xg]; exact a4, by rw [rx x xg]; exact a5⟩, ⟨by rw [e]; exact b1, by rw [rx sm sg]; exact b2, by rw [rx stc tg]; exact b3, by rw [e]; exact b4⟩, by rw [e]; exact c1, by rw [e]; exact d1, by rw [e]; exact ⟨e1, e2, e3, e4, e5, e6⟩, h1⟩
theorem GvS.sw (hS : GvS M g c nw nx kp gn wr nP ks) (e : M' = wR (wR M g 2 (some nx)) g 3 (some nw)) : GvS M' g c nx nw kp gn wr nP ks := by
  obtain ⟨⟨a1, a2, a3, a4, a5, a6, a7⟩, ⟨b1, b2, b3, b4⟩, c1, ⟨d1, d2, d3, d4, d5, d6, d7⟩⟩ := hS
  have r : ∀ f, f ≠ 2 → f ≠ 3 → mR M' g f = mR M g f := fun f f2 f3 => by
    rw [e, mR_wR, if_neg (fun z => f3 z.2), mR_wR, if_neg (fun z => f2 z.2)]
  have r2 : mR M' g 2 = some nx := by rw [e, mR_wR, if_neg (fun z => absurd z.2 (by decide)), mR_wR, if_pos ⟨rfl, rfl⟩]
  have r3 : mR M' g 3 = some nw := by rw [e, mR_wR, if_pos ⟨rfl, rfl⟩]
  refine ⟨⟨by rw [e]; exact a1, by rw [r 0 (by decide) (by decide)]; exact a2, r2, r3, by rw [r 4 (by decide) (by decide)]; exact a5, by rw [r 7 (by decide) (by decide)]; exact a6, by rw [r 8 (by decide) (by decide)]; exact a7⟩, by rw [e]; exact ⟨b2, b1, b3, b4⟩, by rw [e]; exact c1, ⟨fun z => d1 z.symm, d3, d2, d5, d4, d6, fun i hi => ⟨(d7 i hi).2.1, (d7 i hi).1, (d7 i hi).2.2⟩⟩⟩
end
section
variable {M : Mem} {g c nw nx kp gn wr sm cc stc mx ia I pl pb x lc rc ya0 na0 a1 a2 b1 b2 bc sc a3 b3 c9 c10 c11 pz h : Nat} {ks : Nat → Nat} {cs hl : List Int32} {X : List Nd} {ps : List Nat} {Q : Option Value → Mem → Prop} {τ : Td} {m : Nat} {σ : PS} {root : Nat} {γ : Gh} {g0 n0 gw : Nat} {Z0 P : Nat → Nat → Int32} {zp : Int32} {Ψ1 Ψ2 : Wg} {R : RMo} {zn fn y0 q0 : Nat}
theorem S_react (hW : MdW τ m σ root γ g0 n0 gw Z0 P zp Ψ1 Ψ2) (hT : TwT (woS τ m σ γ) R zn fn y0 root q0) (hR : MdR τ m σ R) (h16 : τ.1.length ≤ 16) (hX : X.length ≤ 810) (hbig : mN M + 2 < mBig) (hB : BtS M g c nw nx kp gn wr ks sm cc stc mx ia I cs X pl pb ps τ.1.length τ.2.1 (ifS σ) Ψ2.1.length) (hx : mR M c 7 = some x) (hc : CsW M x lc rc ya0 na0 a1 a2 b1 b2 bc sc a3 b3 τ σ Ψ2 hl) (hE : CeS M x c9 c10 c11 pz Ψ2.1.length) (hG : GvR M g nw nx gn ks) (dj : DjR (grR nw nx wr gn ks) (mrR cc ia lc rc sc c9 c10 c11) ya0 na0) (K : ∀ M' ya na nw' nx' (r : Int32), ReF g sm stc x ya0 na0 nw nx wr Ψ2.1.length M ya na nw' nx' M' → GvS M' g c nw' nx' kp gn wr ps.length ks → GvR M' g nw' nx' gn ks → Q (some (.int r)) M') : E (h + 8) mdX2_react [.ref g] M Q := by
  obtain ⟨hS, hP, ⟨p1, p2, p3⟩, -, -⟩ := id hB
  have og := hS.1.1
  have os := hP.2.1.1.1
  have ot := hP.2.1.2.1.2.1
  have gs := hS.nsm os
  have ox := hc.1.1.1
  have kne : ∀ {a b p q : Nat}, ok M a p → ok M b q → p ≠ q → a ≠ b := fun {a b p q} o1 o2 hp e => by
    rw [e] at o1
    exact hp (o1.2.symm.trans o2.2)
  have onw := hS.2.1.1.1
  have onx := hS.2.1.2.1.1
  have ogn := hS.2.1.2.2.1.1
  have owr := hS.2.1.2.2.2.1
  have oy := hc.1.2.1.2.1
  have on := hc.1.2.2.1.2.1
  obtain ⟨l1, l2, l3, l4⟩ := hW.ln
  -- behind forgetting
  refine KX2_react (h := h + 7) ?_
  unfold DX2_react_0
  refine ⟨og, c, hS.1.2.1, hP.1.1, x, hx, S_forg (h := h + 6) hS (fun M5 k5 _ _ => ⟨rfl, ?_⟩)⟩
  have kb5 : BgF g sm stc (fun f => f = 10 ∨ f = 12 ∨ f = 13) noP M M5 := BgF.gm gs k5
  have np21 : ∀ r, noP r → mK M r = 21 := fun r z => z.elim
  have B5 := hB.bg np21 (fun z => z) (fun z => z) kb5
  have S5 := B5.1
  have E5 : CeS M5 x c9 c10 c11 pz Ψ2.1.length := hE.bg ox og os (fun r z => z.elim) kb5
  have G5 : GvR M5 g nw nx gn ks := hG.i k5 (by omega)
  have c5 : CsW M5 x lc rc ya0 na0 a1 a2 b1 b2 bc sc a3 b3 τ σ Ψ2 hl := by
    obtain ⟨⟨⟨o1, q1, o2, q2, o3, i1, qq, v, r⟩, ⟨r1, r2, r3⟩, ⟨s1, s2, s3, s4⟩, n, gg, f15, ⟨u1, u2, u3, u4, u5⟩, ⟨w1, w2, w3, w4⟩⟩, hq, hb, ⟨t1, t2, t3, t4, t5⟩, ⟨z1, z2, z3⟩⟩ := id hc
    have xg := kne ox og (by decide)
    have l := kb5.1.2.2.2
    have rr := kb5.2.1.2.1
    have ai : ∀ r, mAI M5 r = mAI M r := fun r => kb5.2.2.2.2.2.1 r (fun z => z)
    have ii : mI M5 x = mI M x := kb5.2.2.1 x xg (kne ox os (by decide))
    exact ⟨⟨⟨kb5.ok o1, by rw [rr]; exact q1, kb5.ok o2, by rw [rr]; exact q2, kb5.ok o3, by rw [ii]; exact i1, by rw [l]; exact qq, by rw [ai, ai]; exact v, r⟩, ⟨by rw [rr]; exact r1, kb5.ok r2, by rw [l]; exact r3⟩, ⟨by rw [rr]; exact s1, kb5.ok s2, by rw [l]; exact s3, by rw [l]; exact s4⟩, n, gg, by rw [ii]; exact f15, ⟨by rw [rr]; exact u1, by rw [rr]; exact u2, u3.bg og os ot.2 np21 kb5, u4.bg og os ot.2 np21 kb5, u5⟩, ⟨by rw [rr]; exact w1, kb5.ok w2, by rw [l]; exact w3, w4⟩⟩, hq, by rw [ai]; exact hb, ⟨by rw [rr]; exact t1, kb5.ok t2, by rw [l]; exact t3, by rw [ai]; exact t4, t5⟩, ⟨by rw [rr]; exact z1, z2.bg og os ot.2 np21 kb5, z3⟩⟩
  have n5 : mN M5 = mN M := kb5.1.1
  have fin : ∀ (v0 v1 v2 : Int32), DX2_react_39 (h + 7) g x x v0 v1 v2 M5 Q := by
    intro v0 v1 v2
    unfold DX2_react_39
    refine ⟨kb5.ok ox, S_stW (h := h + 3) (R := R) (Is := fun _ => (v0, fun s => if btL v1 s = true then 1 else 0, fun _ => 0, if v2 = 0 then 0 else 1, fun _ => 0)) (ift := fun _ _ => 0) hW hT c5 h16 (by omega) (fun _ => rfl) (fun _ _ _ => rfl) (fun _ => ?_) (fun M2 ya na Y2 Z2 L2 St T2 _ => ⟨rfl, ?_⟩)⟩
    · have e : iFi (v0, fun s => if btL v1 s = true then 1 else 0, fun _ => 0, if v2 = 0 then 0 else 1, fun _ => 0) = if v2 = 0 then 0 else 1 := rfl
      rw [e]
      by_cases z : v2 = 0
      · rw [if_pos z, if_neg (by decide)]
      · rw [if_neg z, if_pos rfl]
    -- the circuit stands
    have F2 := St.1
    have o5 : ∀ {a q : Nat}, ok M a q → ok M5 a q := fun z => kb5.ok z
    have row : ∀ {a : Nat}, ok M a 21 → a ≠ ya0 → a ≠ na0 → sameRow M5 M2 a := fun {a} o n1 n2 => F2.2 a (o5 o).1 (fun z => by
      rcases z with z | z | z
      · exact kne o ox (by decide) z
      · exact n1 z
      · exact n2 z)
    have rowk : ∀ {a q : Nat}, ok M a q → q ≠ 2 → q ≠ 21 → sameRow M5 M2 a := fun {a q} o n1 n2 => F2.2 a (o5 o).1 (fun z => by
      rcases z with z | z | z
      · exact kne o ox n1 z
      · exact kne o oy n2 z
      · exact kne o on n2 z)
    have o2 : ∀ {a q : Nat}, ok M a q → ok M2 a q := fun z => ok_E (o5 z) F2.1
    have len2 : ∀ {a q : Nat}, ok M a q → mL M2 a = mL M a := fun {a q} z => by
      rw [(F2.1.2.2 a (o5 z).1).2, kb5.1.2.2.2]
    have gr : ∀ {r : Nat}, grR nw nx wr gn ks r → r ≠ ya0 ∧ r ≠ na0 := fun z => ⟨(dj.1 _ z).1, (dj.1 _ z).2.1⟩
    have oks : ∀ i, i < 3 → ok M (ks i) 21 := fun i hi => (hS.2.2.1.2.2 i hi).2.1
    have gro : ∀ {r : Nat}, grR nw nx wr gn ks r → ok M r 21 := fun z => by
      rcases z with z | z | z | z | ⟨i, hi, z⟩ <;> rw [z]
      · exact onw
      · exact onx
      · exact owr
      · exact ogn
      · exact oks i hi
    have grr : ∀ {r : Nat}, grR nw nx wr gn ks r → mAI M2 r = mAI M5 r := fun z => (row (gro z) (gr z).1 (gr z).2).2.2.2.1
    obtain ⟨⟨y1, y2, y3, y4, y5, y6, y7⟩, ⟨⟨y8, y9⟩, ⟨y10, y11⟩, ⟨y12, y13⟩, ⟨y14, y15⟩⟩, ⟨y16, y17, y18⟩, y19⟩ := id S5
    have rg := rowk og (by decide) (by decide)
    have S2 : GvS M2 g c nw nx kp gn wr ps.length ks := by
      have kpo := hS.2.2.1.1
      refine ⟨⟨o2 og, by rw [rg.2.2.1]; exact y2, by rw [rg.2.2.1]; exact y3, by rw [rg.2.2.1]; exact y4, by rw [rg.2.2.1]; exact y5, by rw [rg.2.2.1]; exact y6, by rw [rg.2.2.1]; exact y7⟩, ⟨⟨o2 onw, by rw [len2 onw]; exact hS.2.1.1.2⟩, ⟨o2 onx, by rw [len2 onx]; exact hS.2.1.2.1.2⟩, ⟨o2 ogn, by rw [len2 ogn]; exact hS.2.1.2.2.1.2⟩, ⟨o2 owr, by rw [len2 owr]; exact hS.2.1.2.2.2.2⟩⟩, ⟨o2 kpo, by rw [len2 kpo]; exact hS.2.2.1.2.1, fun i hi => ⟨by rw [(rowk kpo (by decide) (by decide)).2.2.2.2.2]; exact (y18 i hi).1, o2 (oks i hi), by rw [len2 (oks i hi)]; exact (hS.2.2.1.2.2 i hi).2.2⟩⟩, y19⟩
    have mr : ∀ {r : Nat}, mrR cc ia lc rc sc c9 c10 c11 r → r ≠ ya0 ∧ r ≠ na0 := fun z => dj.2 _ z
    have occ := hP.2.1.1.2.2.1
    have oia := hP.2.2.2.1
    have omx := hP.2.2.1.1
    have P2 : PlS M2 c sm cc stc mx ia I cs := by
      obtain ⟨⟨d1, d2, d3, d4, d5⟩, ⟨⟨e1, e2, e3, e4, e5, e6, e7, e8⟩, ⟨f1, f2, f3⟩, f4⟩, ⟨j1, j2⟩, ⟨k1, k2, k3, k4⟩⟩ := id B5.2.1
      have rc' := rowk hP.1.1 (by decide) (by decide)
      have rs := rowk os (by decide) (by decide)
      have rcc := row occ (mr (Or.inl rfl)).1 (mr (Or.inl rfl)).2
      have ria := row oia (mr (Or.inr (Or.inl rfl))).1 (mr (Or.inr (Or.inl rfl))).2
      have l5 : ∀ {a q : Nat}, ok M a q → mL M2 a = mL M5 a := fun {a q} z => (F2.1.2.2 a (o5 z).1).2
      exact ⟨⟨o2 hP.1.1, by rw [rc'.2.2.1]; exact d2, by rw [rc'.2.2.1]; exact d3, by rw [rc'.2.2.1]; exact d4, by rw [rc'.1]; exact d5⟩, ⟨⟨o2 os, by rw [rs.2.2.1]; exact e2, o2 occ, by rw [rs.1]; exact e4, by rw [l5 occ]; exact e5, by rw [l5 occ]; exact e6, by rw [l5 occ]; exact e7, by rw [rcc.2.2.2.1]; exact e8⟩, ⟨by rw [rs.2.2.1]; exact f1, o2 ot, by rw [l5 ot]; exact f3⟩, f4⟩, ⟨o2 omx, by rw [l5 omx]; exact j2⟩, ⟨o2 oia, by rw [l5 oia]; exact k2, k3, by rw [ria.2.2.2.1]; exact k4⟩⟩
    have B2 : BtS M2 g c nw nx kp gn wr ks sm cc stc mx ia I cs X pl pb ps τ.1.length τ.2.1 (ifS σ) Ψ2.1.length := by
      obtain ⟨-, -, ⟨u1, u2, u3⟩, u4, u5⟩ := id B5
      have ria := row oia (mr (Or.inr (Or.inl rfl))).1 (mr (Or.inr (Or.inl rfl))).2
      have kk : ∀ {d q : Nat}, (d = x ∨ d = ya0 ∨ d = na0) → mK M5 d = q → q = 2 ∨ q = 21 := fun {d q} z e => by
        rcases z with z | z | z
        · rw [z, (o5 ox).2] at e; exact Or.inl e.symm
        · rw [z, (o5 oy).2] at e; exact Or.inr e.symm
        · rw [z, (o5 on).2] at e; exact Or.inr e.symm
      refine ⟨S2, P2, ⟨by rw [(rowk hP.1.1 (by decide) (by decide)).2.2.1]; exact u1, u2.fr F2 (fun z => by rcases kk z u2.1.2 with q | q <;> exact absurd q (by decide)) (fun hb z => by rcases kk z hb with q | q <;> exact absurd q (by decide)), u3⟩, fun j hj => ?_, by rw [ria.2.2.2.1]; exact u5⟩
      obtain ⟨v1, v2, v3⟩ := u4 j hj
      have rp := rowk (hB.2.2.2.1 j hj).1.1 (by decide) (by decide)
      exact ⟨v1.row rp.1 (o2 (hB.2.2.2.1 j hj).1.1), by rw [rp.1]; exact v2, by rw [rp.1]; exact v3⟩
    have o9 := hE.2.1.2.1
    have o10 := hE.2.2.1.2.1
    have o11 := hE.2.2.2.1.2.1
    have r9 := mr (r := c9) (Or.inr (Or.inr (Or.inr (Or.inr (Or.inr (Or.inl rfl))))))
    have r10 := mr (r := c10) (Or.inr (Or.inr (Or.inr (Or.inr (Or.inr (Or.inr (Or.inl rfl)))))))
    have r11 := mr (r := c11) (Or.inr (Or.inr (Or.inr (Or.inr (Or.inr (Or.inr (Or.inr rfl)))))))
    have E2 : CeS M2 x c9 c10 c11 pz Ψ2.1.length := by
      obtain ⟨⟨d1, d2⟩, ⟨e1, e2, e3, e4⟩, ⟨f1, f2, f3, f4⟩, ⟨j1, j2, j3, j4⟩, k1⟩ := id E5
      have ix := St.2.1.1
      have rx := St.2.1.2.2
      have l5 : ∀ {a q : Nat}, ok M a q → mL M2 a = mL M5 a := fun {a q} z => (F2.1.2.2 a (o5 z).1).2
      exact ⟨⟨by rw [ix]; exact d1, d2⟩, ⟨by rw [rx 9 (by decide) (by decide)]; exact e1, o2 o9, by rw [l5 o9]; exact e3, by rw [(row o9 r9.1 r9.2).2.2.2.1]; exact e4⟩, ⟨by rw [rx 10 (by decide) (by decide)]; exact f1, o2 o10, by rw [l5 o10]; exact f3, by rw [(row o10 r10.1 r10.2).2.2.2.1]; exact f4⟩, ⟨by rw [rx 11 (by decide) (by decide)]; exact j1, o2 o11, by rw [l5 o11]; exact j3, by rw [(row o11 r11.1 r11.2).2.2.2.1]; exact j4⟩, by rw [ix]; exact k1⟩
    have mro : ∀ {r : Nat}, mrR cc ia lc rc sc c9 c10 c11 r → r < mN M := fun z => by
      rcases z with z | z | z | z | z | z | z | z <;> rw [z]
      · exact occ.1
      · exact oia.1
      · exact hc.1.1.2.2.1.1
      · exact hc.1.1.2.2.2.2.1.1
      · exact hc.2.2.2.1.2.1.1
      · exact o9.1
      · exact o10.1
      · exact o11.1
    have ynew : (ya = ya0 ∧ na = na0) ∨ (ya = mN M ∧ na = mN M + 1) := by
      rcases St.2.2 with ⟨q1, q2, -⟩ | ⟨q1, q2, -⟩
      · exact Or.inl ⟨q1, q2⟩
      · rw [n5] at q1 q2; exact Or.inr ⟨q1, q2⟩
    have dj2 : DjR (grR nw nx wr gn ks) (mrR cc ia lc rc sc c9 c10 c11) ya na := by
      rcases ynew with ⟨q1, q2⟩ | ⟨q1, q2⟩
      · rw [q1, q2]; exact dj
      · refine ⟨fun r z => ?_, fun r z => ?_⟩
        · have := (gro z).1
          exact ⟨by omega, by omega, (dj.1 r z).2.2⟩
        · have := mro z
          omega
    have G2 : GvR M2 g nw nx gn ks := by
      obtain ⟨d1, d2, d3, d4, q, d5, d6⟩ := id G5
      exact ⟨d1.k (grr (Or.inl rfl)), d2.k (grr (Or.inr (Or.inl rfl))), fun i hi => (d3 i hi).k (grr (Or.inr (Or.inr (Or.inr (Or.inr ⟨i, hi, rfl⟩))))), fun j hj => by rw [grr (Or.inr (Or.inr (Or.inr (Or.inl rfl))))]; exact d4 j hj, q, d5, by rw [rg.1]; exact d6⟩
    -- what follows in the governor
    have h21 : ∀ r, (r = ya ∨ r = na ∨ r = wr ∨ r = nx) → mK M2 r = 21 := fun r z => by
      rcases z with z | z | z | z <;> rw [z]
      · exact L2.1.2.1.2.1.2
      · exact L2.1.2.2.1.2.1.2
      · exact (o2 owr).2
      · exact (o2 onx).2
    have fin2 : ∀ M1 M10, BgF g sm stc fsB (fun r => r = ya ∨ r = na ∨ r = wr ∨ r = nx) M2 M1 → RoG M1 nx → (M10 = M1 ∨ M10 = wR (wR M1 g 2 (some nx)) g 3 (some nw)) → DX2_react_76 (h + 7) g M10 Q := by
      intro M1 M10 kC r1 e10
      have S1 := S2.bg kC
      have o1 : ∀ {a q : Nat}, ok M a q → ok M1 a q := fun z => kC.ok (o2 z)
      have xg := kne ox og (by decide)
      have xs := kne ox os (by decide)
      have st : ∀ {r : Nat}, grR nw nx wr gn ks r → r ≠ wr → r ≠ nx → mAI M1 r = mAI M2 r := fun {r} z n1 n2 => kC.2.2.2.2.2.1 r (fun y => by
        obtain ⟨z1, z2, -⟩ := dj2.1 r z
        rcases y with y | y | y | y
        · exact z1 y
        · exact z2 y
        · exact n1 y
        · exact n2 y)
      obtain ⟨t1, t2, t3, t4, t5, t6, t7⟩ := hS.2.2.2
      have G1 : GvR M1 g nw nx gn ks := by
        obtain ⟨d1, d2, d3, d4, q, d5, d6⟩ := id G2
        exact ⟨d1.k (st (Or.inl rfl) (fun z => t4 z.symm) t1), r1, fun i hi => (d3 i hi).k (st (Or.inr (Or.inr (Or.inr (Or.inr ⟨i, hi, rfl⟩)))) (t7 i hi).2.2.2 (t7 i hi).2.1), fun j hj => by rw [st (Or.inr (Or.inr (Or.inr (Or.inl rfl)))) (fun z => t6 z.symm) t3]; exact d4 j hj, q, d5, by rw [kC.2.2.2.1 5 (by unfold fsB; omega)]; exact d6⟩
      have fA : fr (fun a => a = g ∨ a = sm ∨ a = stc ∨ a = x ∨ a = ya0 ∨ a = na0 ∨ a = nw ∨ a = nx ∨ a = wr) M M5 := kb5.fr.more (fun a _ z => by
        rcases z with z | z | z | z
        · exact Or.inl z
        · exact Or.inr (Or.inl z)
        · exact Or.inr (Or.inr (Or.inl z))
        · exact z.elim)
      have fB := fA.tr F2 (fun a _ z => by
        rcases z with z | z | z
        · exact Or.inr (Or.inr (Or.inr (Or.inl z)))
        · exact Or.inr (Or.inr (Or.inr (Or.inr (Or.inl z))))
        · exact Or.inr (Or.inr (Or.inr (Or.inr (Or.inr (Or.inl z))))))
      have fC := fB.tr kC.fr (fun a ha z => by
        rcases z with z | z | z | z | z | z | z
        · exact Or.inl z
        · exact Or.inr (Or.inl z)
        · exact Or.inr (Or.inr (Or.inl z))
        · rcases ynew with ⟨q1, q2⟩ | ⟨q1, q2⟩
          · exact Or.inr (Or.inr (Or.inr (Or.inr (Or.inl (z.trans q1)))))
          · omega
        · rcases ynew with ⟨q1, q2⟩ | ⟨q1, q2⟩
          · exact Or.inr (Or.inr (Or.inr (Or.inr (Or.inr (Or.inl (z.trans q2))))))
          · omega
        · exact Or.inr (Or.inr (Or.inr (Or.inr (Or.inr (Or.inr (Or.inr (Or.inr z)))))))
        · exact Or.inr (Or.inr (Or.inr (Or.inr (Or.inr (Or.inr (Or.inr (Or.inl z))))))))
      have rs := rowk os (by decide) (by decide)
      have rt := rowk ot (by decide) (by decide)
      have sg := kne os og (by decide)
      have tg := kne ot og (by decide)
      have ts := kne ot os (by decide)
      have L1 : CrL M1 x lc rc ya na Ψ2.1 (mAI M1 ya) (mAI M1 na) ∨ True := Or.inr trivial
      have ly : ok M1 ya 21 ∧ Ψ2.1.length ≤ mL M1 ya ∧ mL M1 ya < 1000000 := ⟨kC.ok L2.1.2.1.2.1, by rw [kC.1.2.2.2]; exact L2.1.2.1.2.2.1, by rw [kC.1.2.2.2]; exact L2.1.2.1.2.2.2⟩
      have ln : ok M1 na 21 ∧ Ψ2.1.length ≤ mL M1 na ∧ mL M1 na < 1000000 := ⟨kC.ok L2.1.2.2.1.2.1, by rw [kC.1.2.2.2]; exact L2.1.2.2.1.2.2.1, by rw [kC.1.2.2.2]; exact L2.1.2.2.1.2.2.2⟩
      have base : ∀ nw' nx', (nw' = nw ∧ nx' = nx ∨ nw' = nx ∧ nx' = nw) → ReF g sm stc x ya0 na0 nw nx wr Ψ2.1.length M ya na nw' nx' M1 := by
        intro nw' nx' hh
        refine ⟨fC, ⟨?_, ?_, fun f f2 f3 => ?_, ?_, ?_⟩, ⟨fun f f3 f4 => ?_, ?_, ?_, ?_⟩, ?_, ?_, ⟨ly.1, ly.2.1, ly.2.2, ln.1, ln.2.1, ln.2.2⟩, hh⟩
        · rw [kC.2.2.1 x xg xs, St.2.1.1, kb5.2.2.1 x xg xs]
        · rw [kC.2.1.1, St.2.1.2.1, kb5.2.1.1]
        · rw [kC.2.1.2.1, St.2.1.2.2 f f2 f3, kb5.2.1.2.1]
        · rw [kC.2.1.2.1]; exact L2.1.2.1.1
        · rw [kC.2.1.2.1]; exact L2.1.2.2.1.1
        · rw [kC.2.2.2.2.1 f f3 f4, rs.1, kb5.2.2.2.2.1 f f3 f4]
        · rw [kC.2.1.2.1, rs.2.2.1, kb5.2.1.2.1]
        · rw [kC.2.1.2.1, rt.2.2.1, kb5.2.1.2.1]
        · rw [kC.2.2.1 stc tg ts, rt.1, kb5.2.2.1 stc tg ts]
        · rw [kC.2.2.2.1 5 (by unfold fsB; omega), rg.1, kb5.2.2.2.1 5 (by omega)]
        · rw [kC.1.1, kC.1.2.1]
          have s5 : mS M5 = mS M := kb5.1.2.1
          rcases St.2.2 with ⟨q1, q2, q3, q4⟩ | ⟨q1, q2, q3, q4, q5⟩
          · exact Or.inl ⟨q1, q2, by rw [q3, n5], by rw [q4, s5]⟩
          · exact Or.inr ⟨by rw [q1, n5], by rw [q2, n5], by rw [q3, n5], by rw [q4, s5], by rw [← kb5.1.2.2.2]; exact q5⟩
      unfold DX2_react_76
      rcases e10 with e10 | e10
      · rw [e10]
        refine ⟨o1 og, fun M7 e7 => ?_⟩
        have k7 : GmF g (fun f => f = 6) noP M1 M7 := GmF.i rfl e7
        refine K M7 ya na nw nx _ ((base nw nx (Or.inl ⟨rfl, rfl⟩)).gi k7 xg sg tg) (S1.gm k7) (G1.i k7 (by omega))
      · have w1 : ok M10 g 4 := by rw [e10]; exact o1 og
        refine ⟨w1, fun M7 e7 => ?_⟩
        have k7 : GmF g (fun f => f = 6) noP M10 M7 := GmF.i rfl e7
        have S10 : GvS M10 g c nx nw kp gn wr ps.length ks := S1.sw e10
        have G10 : GvR M10 g nx nw gn ks := by
          obtain ⟨d1, d2, d3, d4, d5⟩ := id G1
          rw [e10]
          exact ⟨d2, d1, d3, d4, d5⟩
        exact K M7 ya na nx nw _ (((base nx nw (Or.inr ⟨rfl, rfl⟩)).sw e10 xg sg tg).gi k7 xg sg tg) (S10.gm k7) (G10.i k7 (by omega))
    -- moves, wires, work
    have ncc := mr (r := cc) (Or.inl rfl)
    refine ⟨o2 og, S_tellMv (h := h + 1) hW hR h16 hX B2 L2 T2.v G2.1 dj2 (fun M4 Y4 Z4 k4 L4 V4 _ => ⟨rfl, L4.1.1.1, S_settle (h := h + 4) (hW.nts hT hR hc.2.1 L4.1.1.2.2.2.2.2.2.2.2.1) L4.1 V4.j (fun M6 Y6 Z6 L6 A6 J6 _ _ => ⟨rfl, ?_⟩)⟩)⟩
    have k6 : BgF g sm stc (fun _ => False) (fun r => r = ya ∨ r = na) M2 M6 := k4.tr (BgF.ar A6)
    have L6' := L4.ar A6 L6
    have og2 := o2 og
    have os2 := o2 os
    have h6 : ∀ r, (r = ya ∨ r = na) → mK M2 r = 21 := fun r z => h21 r (by rcases z with z | z; exact Or.inl z; exact Or.inr (Or.inl z))
    have m2 : ∀ {r : Nat}, mrR cc ia lc rc sc c9 c10 c11 r → ¬ (r = ya ∨ r = na) := fun z y => y.elim (dj2.2 _ z).1 (dj2.2 _ z).2
    have B6 := B2.bg h6 (m2 (Or.inl rfl)) (m2 (Or.inr (Or.inl rfl))) k6
    have E6 := E2.bg L2.1.1.1 og2 os2 (fun r z => ⟨fun y => m2 (Or.inr (Or.inr (Or.inr (Or.inr (Or.inr (Or.inl rfl)))))) (y ▸ z), fun y => m2 (Or.inr (Or.inr (Or.inr (Or.inr (Or.inr (Or.inr (Or.inl rfl))))))) (y ▸ z), fun y => m2 (Or.inr (Or.inr (Or.inr (Or.inr (Or.inr (Or.inr (Or.inr rfl))))))) (y ▸ z)⟩) k6
    refine S_recW (h := h + 3) B6 L6' J6.1 dj2 (fun M7 k7 L7 _ => ⟨rfl, S_stuck (h := h + 6) L7.1 (fun r9 _ _ => ⟨r9, rfl, ?_⟩)⟩)
    obtain ⟨-, -, wmr⟩ := dj2.1 wr (Or.inr (Or.inr (Or.inl rfl)))
    have k7' : BgF g sm stc fsB (fun r => r = ya ∨ r = na ∨ r = wr ∨ r = nx) M2 M7 := (k6.mo (fun f z => z.elim) (fun r z => by rcases z with z | z; exact Or.inl z; exact Or.inr (Or.inl z))).tr (k7.mo (fun f z => z.elim) (fun r z => Or.inr (Or.inr (Or.inl z))))
    have B7 := B6.bg (fun r z => by rw [z]; exact B6.1.2.1.2.2.2.1.2) (fun z => wmr (Or.inl z.symm)) (fun z => wmr (Or.inr (Or.inl z.symm))) k7
    have E7 := E6.bg L6'.1.1.1 B6.1.1.1 B6.2.1.2.1.1.1 (fun r z => by
      rw [z]
      exact ⟨fun y => wmr (Or.inr (Or.inr (Or.inr (Or.inr (Or.inr (Or.inl y)))))), fun y => wmr (Or.inr (Or.inr (Or.inr (Or.inr (Or.inr (Or.inr (Or.inl y))))))), fun y => wmr (Or.inr (Or.inr (Or.inr (Or.inr (Or.inr (Or.inr (Or.inr y)))))))⟩) k7
    obtain ⟨t1, t2, t3, t4, t5, t6, t7⟩ := hS.2.2.2
    have rr : ∀ {r : Nat}, grR nw nx wr gn ks r → r ≠ wr → mAI M7 r = mAI M2 r := fun {r} z n1 => by
      rw [k7.2.2.2.2.2.1 r n1, k6.2.2.2.2.2.1 r (fun y => y.elim (dj2.1 r z).1 (dj2.1 r z).2.1)]
    have G7 : GvR M7 g nw nx gn ks := by
      obtain ⟨d1, d2, d3, d4, q, d5, d6⟩ := id G2
      exact ⟨d1.k (rr (Or.inl rfl) (fun z => t4 z.symm)), d2.k (rr (Or.inr (Or.inl rfl)) (fun z => t5 z.symm)), fun i hi => (d3 i hi).k (rr (Or.inr (Or.inr (Or.inr (Or.inr ⟨i, hi, rfl⟩)))) (t7 i hi).2.2.2), fun j hj => by rw [rr (Or.inr (Or.inr (Or.inr (Or.inl rfl)))) (fun z => t6 z.symm)]; exact d4 j hj, q, d5, by rw [k7'.2.2.2.1 5 (by unfold fsB; omega)]; exact d6⟩
    refine ⟨fun _ => S_wkBt (h := h) hX h16 (by omega) B7 L7 J6.1 E7 G7 dj2 (fun M1 M10 kb r1 e10 _ => ⟨rfl, fin2 M1 M10 (k7'.tr (kb.mo (fun f z => z) (fun r z => Or.inr (Or.inr (Or.inr z))))) r1 e10⟩), fun _ M11 e11 => fin2 M11 M11 (k7'.tr (BgF.gm gs (GmF.i (Or.inr (Or.inr (Or.inl rfl))) e11))) (G7.2.1.k (by rw [e11]; rfl)) (Or.inl rfl)⟩
  exact ⟨nw, S5.1.2.2.1, S5.2.1.1.1, by rw [S5.2.1.1.2]; exact vp_of (n := 0) (by decide) (by decide), nw, S5.1.2.2.1, S5.2.1.1.1, by rw [S5.2.1.1.2]; exact vp_of (n := 1) (by decide) (by decide), nw, S5.1.2.2.1, S5.2.1.1.1, by rw [S5.2.1.1.2]; exact vp_of (n := 2) (by decide) (by decide), fun _ => fin _ _ _, fun _ => fin _ _ _⟩
end
