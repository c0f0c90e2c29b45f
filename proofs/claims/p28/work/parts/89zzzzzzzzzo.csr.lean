section
/-! the class's calls on searches -/
def srS (M : Mem) (n0 : Nat) : Nat := if mR M n0 17 = none then 3373 else 0
def srN (M : Mem) (n0 : Nat) : Nat := if mR M n0 17 = none then 9 else 0
/-- room: what one module may still want is used up -/
def RmU (ms : List Nat) (M M' : Mem) : Prop := ∃ c, (∀ j, j < ms.length → ms.getD j 0 ≠ c → lnS M' (ms.getD j 0) = lnS M (ms.getD j 0) ∧ lnN M' (ms.getD j 0) = lnN M (ms.getD j 0) ∧ mR M' (ms.getD j 0) 17 = mR M (ms.getD j 0) 17) ∧ mN M' + (lnN M' c + srN M' c) ≤ mN M + (lnN M c + srN M c) ∧ mS M' + (lnS M' c + srS M' c) ≤ mS M + (lnS M c + srS M c) ∧ ((∃ j, j < ms.length ∧ ms.getD j 0 = c) ∨ (mN M' = mN M ∧ mS M' = mS M ∧ ∀ j, j < ms.length → lnS M' (ms.getD j 0) = lnS M (ms.getD j 0) ∧ lnN M' (ms.getD j 0) = lnN M (ms.getD j 0) ∧ mR M' (ms.getD j 0) 17 = mR M (ms.getD j 0) 17))
theorem RmU.rf {ms : List Nat} {M : Mem} : RmU ms M M := ⟨0, fun _ _ _ => ⟨rfl, rfl, rfl⟩, Nat.le_refl _, Nat.le_refl _, Or.inr ⟨rfl, rfl, fun _ _ => ⟨rfl, rfl, rfl⟩⟩⟩
section
variable {ow : Nat → Nat} {ga : Nat → Td × PS} {gm : Nat → Nat} {M M' : Mem} {ms gs : List Nat} {mb gb h n0 : Nat} {Q : Option Value → Mem → Prop} {x y z w : Int32}
/-- what a call over a search leaves -/
def SrP (ow ow' : Nat → Nat) (ms gs : List Nat) (M M' : Mem) : Prop := (∀ a, a < mN M → ow' a = ow a) ∧ fr (fun a => 132 ≤ a) M M' ∧ RmU ms M M' ∧ ∀ q, q < gs.length → mI M' (gs.getD q 0) 5 = mI M (gs.getD q 0) 5
theorem SrP.rf : SrP ow ow ms gs M M := ⟨fun _ _ => rfl, fr.rf, RmU.rf, fun _ _ => rfl⟩
set_option maxHeartbeats 1000000 in
theorem G_srOf (hC : CvS ow ga gm M ms gs mb gb) (hb : mN M + 20 < mBig) (K0 : ∀ M' ow', SrP ow ow' ms gs M M' → CvS ow' ga gm M' ms gs mb gb → Q (some .null) M') (K1 : ∀ M' ow' i s t a n, SrP ow ow' ms gs M M' → CvS ow' ga gm M' ms gs mb gb → i < ms.length → x = Int32.ofNat i → ScO M' s (ms.getD i 0) t a → ScC M' s t n a → 1 ≤ n → Q (some (.ref s)) M') : E (h + 7) mdX10_searchOf [.ref 0, .int x] M Q := by
  -- its end
  have d38 : ∀ M' ow' i s, SrP ow ow' ms gs M M' → CvS ow' ga gm M' ms gs mb gb → i < ms.length → x = Int32.ofNat i → mR M' (ms.getD i 0) 17 = some s → DX10_searchOf_38 (h + 6) (some (ms.getD i 0)) M' Q := by
    intro M' ow' i s hP hC' hi ex e17
    obtain ⟨m, root, γ, g0, gw, Z0, P, zp, Ψ1, Ψ2, R, zn, fn, y0, q0, hl, lc, rc, cc, pb, ib, b1, b2, ya, na, pz, n1, ps, hp, hM, hz, hq, hs⟩ := (hC'.2.2.2.2.2.2.2.1 i hi).2
    rcases hs with e | ⟨s', f1, f2, f3, f4⟩
    · rw [e17] at e; exact absurd e (by simp)
    · rw [e17] at f1
      cases f1
      unfold DX10_searchOf_38 DX10_searchOf_56
      refine ⟨_, rfl, hM.1.1.1, s, e17, f2, fun e => ?_, fun e => K0 M' ow' hP hC'⟩
      rw [e17]
      rcases f4 with f4 | ⟨-, a, n, f5, f6, f7, -⟩
      · rw [f4] at e; exact absurd e (by decide)
      · exact K1 M' ow' i s _ a n hP hC' hi ex f5 f6 f7
  refine KX10_searchOf (h := h + 6) ?_
  unfold DX10_searchOf_0
  refine ⟨ok0 hC.1, S_modAt (h := h + 2) hC (fun _ _ => ⟨none, rfl, fun _ => K0 M ow SrP.rf hC, fun b e => absurd e (by simp)⟩) (fun i hi ex _ => ⟨some _, rfl, fun e => absurd e (by simp), fun b e => ?_⟩)⟩
  cases e
  have hn := (hC.2.2.2.2.2.2.2.1 i hi).1
  refine ⟨(hC.2.2.2.2.2.2.2.1 i hi).2.on, fun e17 q8 M7 eq8 e7 => ?_, fun s e17 => d38 M ow i s SrP.rf hC hi ex e17⟩
  obtain ⟨ow', how'⟩ : ∃ ow' : Nat → Nat, ow' = fun a => if a < mN M then ow a else ms.getD i 0 := ⟨_, rfl⟩
  have hag : ∀ a, a < mN M → ow' a = ow a := fun a ha => by rw [how']; exact if_pos ha
  have hnew : ∀ a, mN M ≤ a → ow' a = ms.getD i 0 := fun a ha => by rw [how']; exact if_neg (by omega)
  have hC' := hC.owN hag
  clear how'
  have d38 := fun M' s => d38 M' ow' i s
  have hm := (hC'.2.2.2.2.2.2.2.1 i hi).2
  generalize hn0 : ms.getD i 0 = n0 at hm hn hnew e17 d38
  obtain ⟨m, root, γ, g0, gw, Z0, P, zp, Ψ1, Ψ2, R, zn, fn, y0, q0, hl, lc, rc, cc, pb, ib, b1, b2, ya, na, pz, n1, ps, ⟨hW, hT, hR, h16, hX, hif, hva, hpz⟩, hM, hz, ⟨z1, z2, z3, z4⟩, hs⟩ := id hm
  have n25 := hz.1
  have on0 : ok M n0 3 := hM.1.1.1
  have cs := hM.2.2.2.2.2.1
  have oxx : ok M (n0 + 8) 2 := cs.1.1.1
  have oy : ok M ya 21 := cs.1.2.1.2.1
  have on : ok M na 21 := cs.1.2.2.1.2.1
  have f7 : fr (fun _ => False) M M7 := by rw [e7]; exact fr_nwO
  have o7 : ok M7 q8 7 := by rw [eq8, e7]; exact ⟨Nat.lt_succ_self _, va_up_self _ _ _⟩
  have n7 : mN M7 = mN M + 1 := by rw [e7]; rfl
  have s7 : mS M7 = mS M + 13 := by rw [e7]; rfl
  have r7 : ∀ {a q : Nat}, ok M a q → sameRow M M7 a := fun o => f7.2 _ o.1 (fun z => z)
  have lenM : ∀ {M1 : Mem} {a q : Nat}, mE M M1 → ok M a q → mL M1 a = mL M a := fun e o => (e.2.2 _ o.1).2
  -- the module once it has its search
  have toM10 : ∀ M9 M10, fr (fun c => c = q8) M7 M9 → M10 = wR M9 n0 17 (some q8) → fr (fun a => a = n0) M M10 ∧ MoM M10 n0 (ga n0).1 (ga n0).2 Ψ2 hl lc rc cc pb ib b1 b2 ya na pz ps ∧ mR M10 n0 17 = some q8 := by
    intro M9 M10 f9 e10
    have f79 : fr (fun a => a = n0) M M9 := (f7.more (fun a _ z => z.elim)).tr f9 (fun a ha z => by omega)
    have f10 : fr (fun a => a = n0) M M10 := f79.tr (M2 := M10) (by rw [e10]; exact fr_wR (S := fun a => a = n0) rfl) (fun _ _ z => z)
    have r9 : sameRow M M9 n0 := (r7 on0).tr (f9.2 n0 (by rw [n7]; have := on0.1; omega) (by have := on0.1; omega))
    have rx := f10.2 (n0 + 8) oxx.1 (by omega)
    have rs := f10.2 (n0 + 22) hM.1.2.1.1.1.1 (by omega)
    refine ⟨f10, ?_, by rw [e10, mR_wR, if_pos ⟨rfl, rfl⟩]⟩
    refine hM.mu (ow := fun _ => n0) (S := noP) hz (fun _ _ _ => rfl) (fun a z => z.elim) (fun a z => z.elim) (by omega) ⟨f10.more (fun a _ z => Or.inl z), ⟨by rw [e10]; exact r9.1, fun f hf => by rw [e10, mR_wR, if_neg (fun z => hf z.2), r9.2.2.1]⟩, ⟨rx.1, fun f _ _ => by rw [rx.2.2.1], by rw [rx.2.2.1]; exact cs.1.2.1.1, by rw [rx.2.2.1]; exact cs.1.2.2.1.1⟩, ⟨fun f _ _ => by rw [rs.1], rs.2.2.1⟩, ⟨ok_E oy f10.1, ok_E on f10.1, by rw [lenM f10.1 oy]; exact cs.1.2.1.2.2, by rw [lenM f10.1 on]; exact cs.1.2.2.1.2.2.1, by rw [lenM f10.1 oy, lenM f10.1 on]; exact cs.1.2.2.1.2.2.2⟩, Or.inl ⟨rfl, rfl⟩⟩
  -- the whole behind it
  have fin : ∀ M13 ya' na', fr (fun a => a = n0 ∨ a = n0 + 8 ∨ a = ya ∨ a = na) M M13 → MoM M13 n0 (ga n0).1 (ga n0).2 Ψ2 hl lc rc cc pb ib b1 b2 ya' na' pz ps → mR M13 n0 17 = some q8 → (ow' ya' = n0 ∧ ow' na' = n0) → SeS ow' M13 n0 ((inL (ga n0).1.2.1).length + (ifS (ga n0).2).length) ya' na' → mN M13 + lnN M13 n0 ≤ mN M + (lnN M n0 + 9) → mS M13 + lnS M13 n0 ≤ mS M + (lnS M n0 + 3373) → DX10_searchOf_38 (h + 6) (some n0) M13 Q := by
    intro M13 ya' na' f13 Mo13 e17' oww S13 hN hS
    have X13 : CmX ow' M13 n0 (ga n0).1 (ga n0).2 := ⟨m, root, γ, g0, gw, Z0, P, zp, Ψ1, Ψ2, R, zn, fn, y0, q0, hl, lc, rc, cc, pb, ib, b1, b2, ya', na', pz, n1, ps, ⟨hW, hT, hR, h16, hX, hif, hva, hpz⟩, Mo13, hz, ⟨Nat.le_trans z1 f13.1.1, z2, oww.1, oww.2⟩, S13⟩
    have dn : ∀ {r : Nat}, r = n0 ∨ r = n0 + 8 ∨ r = ya ∨ r = na → ow' r = n0 ∧ mK M r ≠ 0 := fun {r} zz => by
      rcases zz with e | e | e | e <;> rw [e]
      · exact ⟨z2 n0 (Nat.le_refl _) (by omega), by rw [on0.2]; decide⟩
      · exact ⟨z2 _ (by omega) (by omega), by rw [oxx.2]; decide⟩
      · exact ⟨z3, by rw [oy.2]; decide⟩
      · exact ⟨z4, by rw [on.2]; decide⟩
    have gsn : ∀ q, q < gs.length → gs.getD q 0 ≠ n0 := fun q hq e => by
      obtain ⟨_, _, _, _, _, _, _, _, _, _, hvq, _⟩ := hC.gv hq
      have o := hvq.1.1
      rw [e] at o
      exact absurd (o.2.symm.trans on0.2) (by decide)
    refine d38 M13 q8 ⟨hag, f13.more (fun a _ zz => ge132 hC' hn (dn zz).1), ⟨n0, fun q hq ne => ?_, ?_, ?_, Or.inl ⟨i, hi, hn0⟩⟩, fun q hq => ?_⟩ (hC'.own (Wp := fun v => v = n0) (by omega) f13 (fun a zz => dn zz) (fun v zz => by rw [zz]; exact hn) (fun q hq zz => by rw [zz]; exact X13) (fun q q2 hq hq2 _ zz => absurd zz (gsn q hq))) hi ex e17'
    · obtain ⟨a1, a2, a3⟩ := ln_fr (hC'.2.2.2.2.2.2.2.1 q hq).2 f13 (fun a zz e => ne (e.symm.trans (dn zz).1))
      exact ⟨a1, a2, by rw [a3]⟩
    · unfold srN
      rw [e17', e17, if_pos rfl, if_neg (by simp)]
      exact hN
    · unfold srS
      rw [e17', e17, if_pos rfl, if_neg (by simp)]
      exact hS
    · obtain ⟨_, _, _, _, _, _, _, _, _, _, hvq, _, hoq, _⟩ := hC'.gv hq
      rw [(f13.2 _ hvq.1.1.1 (fun zz => gsn q hq (hoq.symm.trans (dn zz).1))).1]
  have lt := hW.2.2.2.2.2.2.2.2.1
  obtain ⟨a1, a2⟩ := ln_at (n0 := n0) (na := na) cs.1.1 cs.1.2.1.1 rfl lt
  have rn7 := r7 on0
  have rx7 := r7 oxx
  have obc : ok M (n0 + 16) 21 := cs.1.2.2.2.2.2.2.2.2.1
  refine S_sini (h := h + 4) o7 (ok_E on0 f7.1) (by rw [rn7.1]; exact hM.1.1.2.2.2.2) (by rw [rn7.1]; exact hM.2.2.2.2.2.2.2.2.2.2.2.2.1) hM.1.2.2.2.2.2.1 (by omega) (by rw [rn7.2.2.1]; exact hM.2.2.2.2.1) (ok_E oxx f7.1) (by rw [rx7.2.2.1]; exact cs.1.2.2.2.2.2.2.2.1) (ok_E obc f7.1) (by rw [lenM f7.1 obc]; exact cs.1.2.2.2.2.2.2.2.2.2.1) (fun M9 _ f9 o9 b9 n9 s9 _ => ⟨rfl, fun M10 e10 => ?_⟩) (fun M9 a le5 f9 O9 Z9 b9 n9 s9 _ => ⟨rfl, fun M10 e10 => ?_⟩)
  · obtain ⟨f10, Mo10, r17⟩ := toM10 M9 M10 f9 e10
    have o10 : ok M10 q8 7 := by rw [e10]; exact o9
    have b10 : mI M10 q8 2 = 1 := by rw [e10]; exact b9
    refine ⟨q8, r17, o10, S_expB (h := h + 5) o10 b10 (fun M13 k13 b13 _ => ⟨rfl, ?_⟩)⟩
    have f13 : fr (fun a => a = n0 ∨ a = n0 + 8 ∨ a = ya ∨ a = na) M M13 := (f10.more (fun a _ z => Or.inl z)).tr k13.fr (fun a ha z => z.elim (fun y => by omega) (fun y => y.elim))
    have bg : mN M10 < mBig := by rw [e10]; show mN M9 < mBig; omega
    have Mo13 := Mo10.out hz bg k13.fr (fun r zz => zz.elim (fun y => by omega) (fun y => y.elim)) (fun r zz => zz.elim (fun y => by rw [y, o10.2]; decide) (fun y => y.elim))
    have nM : mN M13 = mN M + 9 := by rw [k13.1.1, e10]; show mN M9 = _; omega
    have sM : mS M13 ≤ mS M + 3373 := by rw [k13.1.2.1, e10]; show mS M9 ≤ _; omega
    obtain ⟨c1, c2⟩ := ln_at (n0 := n0) (na := na) Mo13.2.2.2.2.2.1.1.1 Mo13.2.2.2.2.2.1.1.2.1.1 rfl lt
    have ll : mL M13 ya = mL M ya := lenM f13.1 oy
    refine fin M13 ya na f13 Mo13 (by rw [k13.2.1.2.1]; exact r17) ⟨z3, z4⟩ (Or.inr ⟨q8, by rw [k13.2.1.2.1]; exact r17, k13.ok o10, hnew _ (by omega), Or.inl b13⟩) ?_ ?_
    · rw [c2, a2, ll]; omega
    · rw [c1, a1, ll]; omega
  · obtain ⟨f10, Mo10, r17⟩ := toM10 M9 M10 f9 e10
    have qn : q8 ≠ n0 := by have := on0.1; omega
    have f910 : fr (fun c => c = n0) M9 M10 := by rw [e10]; exact fr_wR rfl
    have O10 : ScO M10 q8 n0 _ a := O9.fr f910 qn
    have b10 : mI M10 q8 2 = 0 := by rw [e10]; exact b9
    have aN : ∀ {r : Nat}, r = q8 ∨ rwF a r → mN M ≤ r := fun {r} zz => by
      rcases zz with zz | ⟨f, f1, f2, zz⟩
      · omega
      · have := (Z9 f f1 f2).1; omega
    have a10 : mAI M10 = mAI M9 := by rw [e10]; rfl
    have zr : ∀ f, 5 ≤ f → f ≤ 12 → ∀ k, mAI M10 (a f) k = 0 := fun f f1 f2 k => by rw [a10]; exact (Z9 f f1 f2).2 k
    have n10 : mN M10 = mN M + 9 := by rw [e10]; show mN M9 = _; omega
    refine ⟨q8, r17, O10.1.1, S_expl (h := h) hW hT hR h16 hz Mo10 O10 ⟨fun s hs => ⟨0, by decide, by rw [zr 7 (by decide) (by decide)]; rfl⟩, fun j hj => Or.inr ⟨0, by decide, by rw [zr 9 (by decide) (by decide)]; rfl⟩⟩ rfl (fun r zz => ?_) (by omega) b10 (fun M13 n' ya' na' f13 Mo13 O13 C13 h1 b13 N13 _ => ⟨rfl, ?_⟩)⟩
    · have := aN zz
      have h1 := oy.1
      have h2 := on.1
      exact ⟨by omega, by omega, by omega⟩
    have F13 : fr (fun a => a = n0 ∨ a = n0 + 8 ∨ a = ya ∨ a = na) M M13 := (f10.more (fun a _ z => Or.inl z)).tr f13 (fun c hc zz => by
      rcases zz with zz | zz | zz | zz
      · exact Or.inr (Or.inl zz)
      · exact Or.inr (Or.inr (Or.inl zz))
      · exact Or.inr (Or.inr (Or.inr zz))
      · have := aN zz; omega)
    have rn13 := f13.2 n0 (ok_E on0 f10.1).1 (fun zz => by
      rcases zz with zz | zz | zz | zz
      · omega
      · rw [zz] at on0; exact absurd (on0.2.symm.trans oy.2) (by decide)
      · rw [zz] at on0; exact absurd (on0.2.symm.trans on.2) (by decide)
      · have := aN zz; have := on0.1; omega)
    have e17' : mR M13 n0 17 = some q8 := by rw [rn13.2.2.1]; exact r17
    have oww : ow' ya' = n0 ∧ ow' na' = n0 := by
      rcases N13 with ⟨e, e', -⟩ | ⟨e, e', -⟩
      · rw [e, e']; exact ⟨z3, z4⟩
      · exact ⟨hnew _ (by omega), hnew _ (by omega)⟩
    have apart : ∀ f, 5 ≤ f → f ≤ 12 → a f ≠ ya' ∧ a f ≠ na' := fun f f1 f2 => by
      have q1 := aN (r := a f) (Or.inr ⟨f, f1, f2, rfl⟩)
      have q2 := (O10.2.1 f f1 f2).2.1.1
      have h1 := oy.1
      have h2 := on.1
      rcases N13 with ⟨e, e', -⟩ | ⟨e, e', -⟩ <;> omega
    have S13 : SeS ow' M13 n0 ((inL (ga n0).1.2.1).length + (ifS (ga n0).2).length) ya' na' := by
      refine Or.inr ⟨q8, e17', O13.1.1, hnew _ (by omega), ?_⟩
      rcases b13 with b13 | b13
      · exact Or.inr ⟨b13, a, n', O13, C13, h1, fun f f1 f2 => ⟨hnew _ (aN (Or.inr ⟨f, f1, f2, rfl⟩)), apart f f1 f2⟩⟩
      · exact Or.inl b13
    obtain ⟨c1, c2⟩ := ln_at (n0 := n0) (na := na') Mo13.2.2.2.2.2.1.1.1 Mo13.2.2.2.2.2.1.1.2.1.1 rfl lt
    have s10 : mS M10 ≤ mS M + 3373 := by rw [e10]; show mS M9 ≤ _; omega
    have ll10 : mL M10 ya = mL M ya := lenM f10.1 oy
    have room : mN M13 + lnN M13 n0 ≤ mN M + (lnN M n0 + 9) ∧ mS M13 + lnS M13 n0 ≤ mS M + (lnS M n0 + 3373) := by
      rw [a1, a2, c1, c2]
      rcases N13 with ⟨e, e', e3, e4⟩ | ⟨e, e', e3, e4, e5, e6⟩
      · rw [e, lenM F13.1 oy]
        constructor <;> omega
      · have nl : ¬ mL M13 ya' < Ψ2.1.length := by omega
        rw [ll10] at e5
        rw [if_neg nl, if_neg nl, if_pos e5, if_pos e5]
        constructor <;> omega
    exact fin M13 ya' na' F13 Mo13 e17' oww S13 room.1 room.2
end
end
section
/-! the class's search, move, classOf, way, never, always -/
section
variable {ow : Nat → Nat} {ga : Nat → Td × PS} {gm : Nat → Nat} {M M' : Mem} {ms gs : List Nat} {mb gb h n0 : Nat} {Q : Option Value → Mem → Prop} {x y z w : Int32}
theorem G_search (hC : CvS ow ga gm M ms gs mb gb) (hb : mN M + 20 < mBig) (K : ∀ M' ow' (r : Int32), SrP ow ow' ms gs M M' → CvS ow' ga gm M' ms gs mb gb → Q (some (.int r)) M') : E (h + 8) mdX10_search [.ref 0, .int x] M Q := by
  refine KX10_search (h := h + 7) ?_
  unfold DX10_search_0 DX10_search_29
  refine ⟨ok0 hC.1, S_modAt (h := h + 3) hC (fun _ _ => ⟨none, rfl, fun _ => K M ow _ SrP.rf hC, fun b e => absurd e (by simp)⟩) (fun i hi ex _ => ⟨some _, rfl, fun e => absurd e (by simp), fun b e => ?_⟩)⟩
  exact G_srOf (h := h) hC hb (fun M5 ow' hP hC' _ => ⟨none, rfl, fun _ => K M5 ow' _ hP hC', fun b e => absurd e (by simp)⟩) (fun M5 ow' i s t a n hP hC' hi ex hO hS h1 _ => ⟨some s, rfl, fun e => absurd e (by simp), fun b e => by cases e; exact ⟨hO.1.1, K M5 ow' _ hP hC'⟩⟩)
theorem G_move (hC : CvS ow ga gm M ms gs mb gb) (hb : mN M + 20 < mBig) (K : ∀ M' ow' (r : Int32), SrP ow ow' ms gs M M' → CvS ow' ga gm M' ms gs mb gb → Q (some (.int r)) M') : E (h + 8) mdX10_move [.ref 0, .int x, .int y, .int z, .int w] M Q := by
  refine KX10_move (h := h + 7) ?_
  unfold DX10_move_0 DX10_move_34 DX10_move_84
  refine ⟨ok0 hC.1, G_srOf (h := h) hC hb (fun M5 ow' hP hC' _ => ⟨none, rfl, fun _ => K M5 ow' _ hP hC', fun b e => absurd e (by simp)⟩) (fun M5 ow' i s t a n hP hC' hi ex hO hS h1 _ => ⟨some s, rfl, fun e => absurd e (by simp), fun b e => ?_⟩)⟩
  cases e
  have n48 := hS.1.2
  have KK : ∀ r, Q (some (.int r)) M5 := fun r => K M5 ow' r hP hC'
  refine ⟨hO.1.1, S_hasSt (h := h + 6) hO hS (fun q hq eq _ => ⟨1, rfl, fun z => absurd z (by decide), fun _ => ⟨fun _ => KK _, fun z0 => ⟨fun z1 => ?_, fun _ => KK _⟩⟩⟩) (fun _ => ⟨0, rfl, fun _ => KK _, fun z => absurd rfl z⟩)⟩
  obtain ⟨v, ev, hv⟩ := nn_of z0
  obtain ⟨p1, p2⟩ := pw_le hO.1.2.2.2
  rw [hO.1.2.2.1, ev] at z1
  have vt := (ltn32 hv (by omega)).mp z1
  obtain ⟨i1, i2, i3⟩ := ix_mv (s := q) (v := v) hO.1.2.2.2 (by omega) vt
  rw [hO.1.2.2.1, eq, ev, i1]
  exact ⟨fun _ => ⟨fun _ => KK _, fun _ => ⟨a 10, (hO.2.1 10 (by decide) (by decide)).1, (hO.2.1 10 (by decide) (by decide)).2.1, by rw [hO.lm (Or.inr rfl)]; exact vp_of i2 (by omega), KK _⟩⟩, fun _ => ⟨a 9, (hO.2.1 9 (by decide) (by decide)).1, (hO.2.1 9 (by decide) (by decide)).2.1, by rw [hO.lm (Or.inl rfl)]; exact vp_of i2 (by omega), KK _⟩⟩
theorem G_classOf (hC : CvS ow ga gm M ms gs mb gb) (hb : mN M + 20 < mBig) (K : ∀ M' ow' (r : Int32), SrP ow ow' ms gs M M' → CvS ow' ga gm M' ms gs mb gb → Q (some (.int r)) M') : E (h + 8) mdX10_classOf [.ref 0, .int x, .int y] M Q := by
  refine KX10_classOf (h := h + 7) ?_
  unfold DX10_classOf_0 DX10_classOf_18
  refine ⟨ok0 hC.1, G_srOf (h := h) hC hb (fun M5 ow' hP hC' _ => ⟨none, rfl, fun _ => K M5 ow' _ hP hC', fun b e => absurd e (by simp)⟩) (fun M5 ow' i s t a n hP hC' hi ex hO hS h1 _ => ⟨some s, rfl, fun e => absurd e (by simp), fun b e => ?_⟩)⟩
  cases e
  have n48 := hS.1.2
  have KK : ∀ r, Q (some (.int r)) M5 := fun r => K M5 ow' r hP hC'
  exact ⟨hO.1.1, S_hasSt (h := h + 6) hO hS (fun q hq eq _ => ⟨1, rfl, fun _ => ⟨a 11, (hO.2.1 11 (by decide) (by decide)).1, (hO.2.1 11 (by decide) (by decide)).2.1, by rw [hO.l48 (by decide) (by decide) (by decide) (by decide), eq]; exact vp_of (by omega) (by decide), KK _⟩, fun z => absurd z (by decide)⟩) (fun _ => ⟨0, rfl, fun z => absurd rfl z, fun _ => KK _⟩)⟩
theorem G_way (hC : CvS ow ga gm M ms gs mb gb) (hb : mN M + 20 < mBig) (K : ∀ M' ow' (r : Int32), SrP ow ow' ms gs M M' → CvS ow' ga gm M' ms gs mb gb → Q (some (.int r)) M') : E (h + 8) mdX10_way [.ref 0, .int x, .int y, .int z] M Q := by
  refine KX10_way (h := h + 7) ?_
  unfold DX10_way_0 DX10_way_21 DX10_way_50 DX10_way_67
  refine ⟨ok0 hC.1, G_srOf (h := h) hC hb (fun M5 ow' hP hC' _ => ⟨none, rfl, fun _ => K M5 ow' _ hP hC', fun b e => absurd e (by simp)⟩) (fun M5 ow' i s t a n hP hC' hi ex hO hS h1 _ => ⟨some s, rfl, fun e => absurd e (by simp), fun b e => ?_⟩)⟩
  cases e
  have n48 := hS.1.2
  have KK : ∀ r, Q (some (.int r)) M5 := fun r => K M5 ow' r hP hC'
  refine ⟨hO.1.1, S_hasSt (h := h + 6) hO hS (fun q hq eq _ => ⟨1, rfl, fun _ => ?_, fun z => absurd z (by decide)⟩) (fun _ => ⟨0, rfl, fun z => absurd rfl z, fun _ => KK _⟩)⟩
  rw [eq]
  exact S_stpsTo (h := h + 6) hO hS (by omega) (fun r9 _ _ => ⟨_, rfl, fun _ => ⟨fun _ => KK _, fun _ => ⟨fun _ => S_stpTo (h := h + 6) hO hS (by omega) (fun r11 _ => ⟨r11, rfl, KK _⟩), fun _ => KK _⟩⟩, fun _ => KK _⟩)
/-- judge writes two numbers of cell 0 -/
theorem G_judge (hC : CvS ow ga gm M ms gs mb gb) (hb : mN M < mBig) (K : ∀ M' (r : Int32), CvS ow ga gm M' ms gs mb gb → NuF (fun c => c = 0) M M' → (∀ f, f ≠ 7 → f ≠ 8 → mI M' 0 f = mI M 0 f) → Q (some (.int r)) M') : E (h + 1) mdX10_judge [.ref 0, .int x] M Q := by
  refine KX10_judge ?_
  unfold DX10_judge_0
  refine ⟨fun _ => ⟨by decide, ok0 hC.1, fun M2 e2 => ⟨by decide, fun M3 e3 => ?_⟩⟩, fun _ => K M _ hC NuF.rf (fun _ _ _ => rfl)⟩
  have k3 : NuF (fun c => c = 0) M M3 := by rw [e3, e2]; exact (NuF.w (S := fun c => c = 0) rfl).tr (NuF.w (S := fun c => c = 0) rfl)
  refine K M3 _ (hC.out hb k3.fre (k3.fix hC.1) (fun a z => by rw [z, (ok0 hC.1).2]; decide)) k3 (fun f f7 f8 => ?_)
  rw [e3, mI_wI, if_neg (fun z => f8 z.2), e2, mI_wI, if_neg (fun z => f7 z.2)]
/-- what a call that judges leaves -/
def JuP (ow ow' : Nat → Nat) (ms gs : List Nat) (M M' : Mem) : Prop := ∃ M1, SrP ow ow' ms gs M M1 ∧ NuF (fun c => c = 0) M1 M' ∧ ∀ f, f ≠ 7 → f ≠ 8 → mI M' 0 f = mI M1 0 f
theorem RmU.bd {S : Nat} (k : RmU ms M M') (hl : ∀ c, lnN M c + srN M c ≤ 11) : mN M' ≤ mN M + 11 := by
  obtain ⟨c, -, h1, -⟩ := k
  have := hl c
  omega
theorem ln_le (M : Mem) (c : Nat) : lnN M c + srN M c ≤ 11 := by
  have h1 : lnN M c ≤ 2 := by
    unfold lnN
    cases mR M (c + 8) 2 with
    | none => exact Nat.zero_le _
    | some ya =>
      show (if _ then 2 else 0) ≤ 2
      by_cases q : mL M ya < (mI M (c + 8) 4).toNatClampNeg
      · rw [if_pos q]; exact Nat.le_refl _
      · rw [if_neg q]; exact Nat.zero_le _
  have h2 : srN M c ≤ 9 := by
    unfold srN
    by_cases q : mR M c 17 = none
    · rw [if_pos q]; exact Nat.le_refl _
    · rw [if_neg q]; exact Nat.zero_le _
  omega
theorem SrP.bg {ow' : Nat → Nat} (k : SrP ow ow' ms gs M M') (hb : mN M + 20 < mBig) : mN M' < mBig := by
  have := k.2.2.1.bd (S := 0) (ln_le M)
  omega
theorem G_never (hC : CvS ow ga gm M ms gs mb gb) (hb : mN M + 20 < mBig) (K : ∀ M' ow' (r : Int32), JuP ow ow' ms gs M M' → CvS ow' ga gm M' ms gs mb gb → Q (some (.int r)) M') : E (h + 8) mdX10_never [.ref 0, .int x, .int y] M Q := by
  refine KX10_never (h := h + 7) ?_
  unfold DX10_never_0 DX10_never_21
  refine ⟨ok0 hC.1, G_srOf (h := h) hC hb (fun M5 ow' hP hC' _ => ⟨none, rfl, fun _ => K M5 ow' _ ⟨M5, hP, NuF.rf, fun _ _ _ => rfl⟩ hC', fun b e => absurd e (by simp)⟩) (fun M5 ow' i s t a n hP hC' hi ex hO hS h1 _ => ⟨some s, rfl, fun e => absurd e (by simp), fun b e => ?_⟩)⟩
  cases e
  have KK : ∀ r, Q (some (.int r)) M5 := fun r => K M5 ow' r ⟨M5, hP, NuF.rf, fun _ _ _ => rfl⟩ hC'
  have hm := (hC'.2.2.2.2.2.2.2.1 i hi).2
  obtain ⟨I, pb, ps, ⟨e9, h9⟩, -⟩ := hm.fl
  exact ⟨hO.1.1, _, hO.1.2.1, hm.on, S_hasSg (h := h + 6) hm.on e9 h9 (fun q hq eq _ => ⟨1, rfl, fun _ => S_fstAg (h := h + 6) hO hS (fun r11 _ => ⟨r11, rfl, G_judge (h := h + 6) hC' (hP.bg hb) (fun M12 r13 hC12 k12 f12 _ => ⟨r13, rfl, K M12 ow' r13 ⟨M5, hP, k12, f12⟩ hC12⟩)⟩), fun z => absurd z (by decide)⟩) (fun _ _ => ⟨0, rfl, fun z => absurd rfl z, fun _ => KK _⟩)⟩
theorem G_always (hC : CvS ow ga gm M ms gs mb gb) (hb : mN M + 20 < mBig) (K : ∀ M' ow' (r : Int32), JuP ow ow' ms gs M M' → CvS ow' ga gm M' ms gs mb gb → Q (some (.int r)) M') : E (h + 8) mdX10_always [.ref 0, .int x, .int y, .int z] M Q := by
  refine KX10_always (h := h + 7) ?_
  unfold DX10_always_0 DX10_always_36
  refine ⟨ok0 hC.1, G_srOf (h := h) hC hb (fun M5 ow' hP hC' _ => ⟨none, rfl, fun _ => K M5 ow' _ ⟨M5, hP, NuF.rf, fun _ _ _ => rfl⟩ hC', fun b e => absurd e (by simp)⟩) (fun M5 ow' i s t a n hP hC' hi ex hO hS h1 _ => ⟨some s, rfl, fun e => absurd e (by simp), fun b e => ?_⟩)⟩
  cases e
  have KK : ∀ r, Q (some (.int r)) M5 := fun r => K M5 ow' r ⟨M5, hP, NuF.rf, fun _ _ _ => rfl⟩ hC'
  have hm := (hC'.2.2.2.2.2.2.2.1 i hi).2
  obtain ⟨I, pb, ps, ⟨e9, h9⟩, -⟩ := hm.fl
  exact ⟨hO.1.1, _, hO.1.2.1, hm.on, S_hasSg (h := h + 6) hm.on e9 h9 (fun q hq eq _ => ⟨1, rfl, fun z => absurd z (by decide), fun _ => ⟨_, hO.1.2.1, hm.on, S_hasSg (h := h + 6) hm.on e9 h9 (fun q hq eq _ => ⟨1, rfl, fun _ => S_fstAg (h := h + 6) hO hS (fun r11 _ => ⟨r11, rfl, G_judge (h := h + 6) hC' (hP.bg hb) (fun M12 r13 hC12 k12 f12 _ => ⟨r13, rfl, K M12 ow' r13 ⟨M5, hP, k12, f12⟩ hC12⟩)⟩), fun z => absurd z (by decide)⟩) (fun _ _ => ⟨0, rfl, fun z => absurd rfl z, fun _ => KK _⟩)⟩⟩) (fun _ _ => ⟨0, rfl, fun _ => KK _, fun z => absurd rfl z⟩)⟩
end
end
section
/-! walks of the governor's constructor and of Integer.bitCount -/
theorem ok_nw3 {M : Mem} {a ci n : Nat} (h : ok M a ci) : ok (nw3 M n) a ci := ok_E h mE_nw3
theorem xt_ldcw {h : Nat} {d : MD} {pc : Nat} {lv : List (Nat × Value)} {st : List Value} {M : Mem} {Q : Option Value → Mem → Prop} {index : Nat} {v : Int32} (hd : decode d.2.1 pc = .ok (.ldc_w index, 3)) (hm : Cond.constant d.1.cls index v ∈ TB) (k : T h d (pc + 3) lv (.int v :: st) M Q) : T h d pc lv (st) M Q :=
  k.go (fun p l e R s m args below meth c H locs cells slots Q ad ls hx hb hl0 hw ht kk => lv_ldcw hx hb hw (ht _ hm) hd (kk ls hl0))
theorem ctJ6_265 {d : MD} (hc : d.1.cls = RJ6) : Cond.constant d.1.cls 265 (1431655765) ∈ TB := by rw [hc]; exact tbL tbk_6 16 (by decide +kernel) rfl
theorem ctJ6_266 {d : MD} (hc : d.1.cls = RJ6) : Cond.constant d.1.cls 266 (858993459) ∈ TB := by rw [hc]; exact tbL tbk_6 17 (by decide +kernel) rfl
theorem ctJ6_267 {d : MD} (hc : d.1.cls = RJ6) : Cond.constant d.1.cls 267 (252645135) ∈ TB := by rw [hc]; exact tbL tbk_6 18 (by decide +kernel) rfl
theorem cgX2_20 {d : MD} (hc : d.1.cls = RX2) : Cond.classLink d.1.cls 20 "[[I" ∈ TB := by rw [hc]; exact tbL tbk_6 39 (by decide +kernel) rfl
def DX2_init_73 (h : Nat) (x0 : Nat) (x1 : Nat) (x3 : Int32) (M : Mem) (Q : Option Value → Mem → Prop) : Prop :=
  ok M x1 3 ∧ ((mI M x1 12) ≤ x3 → Q none M) ∧
  (¬ ((mI M x1 12) ≤ x3) → ok M x0 4 ∧ ∃ b3 : Nat, mR M x0 2 = some b3 ∧ ∃ b4 : Nat, mR M x1 5 = some b4 ∧ ok M b4 21 ∧ vp_in x3 (mL M b4) ∧ ok M b3 21 ∧ vp_in (20 + x3) (mL M b3) ∧ ∀ M7 : Mem, M7 = wAI M b3 (20 + x3 : Int32).toNatClampNeg (mAI M b4 (x3 : Int32).toNatClampNeg) →
  T (h + 1) mdX2_init 73 [(0, .ref x0), (1, .ref x1), (3, .int (x3 + 1))] [] M7 Q)
set_option maxRecDepth 20000 in
set_option maxHeartbeats 2000000 in
theorem VX2_init_73 {h : Nat} {x0 : Nat} {x1 : Nat} {x3 : Int32} {M : Mem} {Q : Option Value → Mem → Prop} (H : DX2_init_73 h x0 x1 x3 M Q) : T (h + 1) mdX2_init 73 [(0, .ref x0), (1, .ref x1), (3, .int x3)] [] M Q := by
  unfold DX2_init_73 at H
  refine xt_iload_n (j := 2) dX2_init_73 rfl rfl ?_
  refine xt_aload_n (j := 1) dX2_init_74 rfl rfl ?_
  obtain ⟨ho1, H⟩ := H
  refine xt_getI dX2_init_75 (flX2_55 rfl) ft_3_12 ho1.1 ho1.2 ?_
  refine xt_icmp_ge (tgt := 102) dX2_init_78 (by decide) (fun hc => ?_) (fun hc => ?_)
  · have H := H.1 hc
    exact xt_return dX2_init_102 rfl H
  · have H := H.2 hc
    refine xt_aload_n (j := 0) dX2_init_81 rfl rfl ?_
    obtain ⟨ho2, H⟩ := H
    obtain ⟨b3, hb, H⟩ := H
    refine xt_getR dX2_init_82 (flX2_13 rfl) ft_4_2 ho2.1 ho2.2 hb ?_
    refine xt_bipush (v := 20) dX2_init_85 (by decide) ?_
    refine xt_iload_n (j := 2) dX2_init_87 rfl rfl ?_
    refine xt_iadd dX2_init_88 ?_
    refine xt_aload_n (j := 1) dX2_init_89 rfl rfl ?_
    obtain ⟨b4, hb, H⟩ := H
    refine xt_getR dX2_init_90 (flX2_58 rfl) ft_3_5 ho1.1 ho1.2 hb ?_
    refine xt_iload_n (j := 2) dX2_init_93 rfl rfl ?_
    obtain ⟨ho5, H⟩ := H
    obtain ⟨hi, H⟩ := H
    refine xt_iald dX2_init_94 ho5.1 ho5.2 hi ?_
    obtain ⟨ho6, H⟩ := H
    obtain ⟨hi, H⟩ := H
    obtain ⟨M7, eM7⟩ : ∃ z, z = wAI M b3 (20 + x3 : Int32).toNatClampNeg (mAI M b4 (x3 : Int32).toNatClampNeg) := ⟨_, rfl⟩
    have H := H _ eM7
    refine xt_iast dX2_init_95 ho6.1 ho6.2 hi ?_
    have ho1 : ok M7 x1 3 := by rw [eM7]; exact ho1
    have ho2 : ok M7 x0 4 := by rw [eM7]; exact ho2
    rw [← eM7]
    refine xt_iinc (j := 2) (v := x3 + 1) (lv' := [(3, .int (x3 + 1)), (0, .ref x0), (1, .ref x1)]) dX2_init_96 rfl (by rfl) (by decide) rfl ?_
    refine xt_goto (tgt := 73) dX2_init_99 (by decide) ?_
    exact xt_sub (lv' := [(0, .ref x0), (1, .ref x1), (3, .int (x3 + 1))]) [1, 2, 0] rfl H
def DX2_init_0 (h : Nat) (x0 : Nat) (x1 : Nat) (x2 : Int32) (M : Mem) (Q : Option Value → Mem → Prop) : Prop :=
  ¬ (26 : Int32) < 0 ∧ ((26 : Int32).toNatClampNeg ≤ 100000000) ∧ ∀ (q2 : Nat) (M1 : Mem), q2 = mN M → M1 = nwA M 21 ((26 : Int32).toNatClampNeg) →
  ok M1 x0 4 ∧ ∀ M4 : Mem, M4 = wR M1 x0 2 (some q2) →
  ¬ (26 : Int32) < 0 ∧ ((26 : Int32).toNatClampNeg ≤ 100000000) ∧ ∀ (q6 : Nat) (M5 : Mem), q6 = mN M4 → M5 = nwA M4 21 ((26 : Int32).toNatClampNeg) →
  ∀ M7 : Mem, M7 = wR M5 x0 3 (some q6) →
  ¬ (26 : Int32) < 0 ∧ ((26 : Int32).toNatClampNeg ≤ 1000) ∧ ∀ (q9 : Nat) (M8 : Mem), q9 = mN M7 → M8 = nw3 M7 ((26 : Int32).toNatClampNeg) →
  ∀ M10 : Mem, M10 = wR M8 x0 4 (some q9) →
  ¬ (4 : Int32) < 0 ∧ ((4 : Int32).toNatClampNeg ≤ 100000000) ∧ ∀ (q12 : Nat) (M11 : Mem), q12 = mN M10 → M11 = nwA M10 21 ((4 : Int32).toNatClampNeg) →
  ∀ M13 : Mem, M13 = wR M11 x0 7 (some q12) →
  ∀ M14 : Mem, M14 = wI M13 x0 11 (-1) →
  ∀ M15 : Mem, M15 = wI M14 x0 13 (-1) →
  ∀ M16 : Mem, M16 = wR M15 x0 0 (some x1) →
  ∀ M17 : Mem, M17 = wI M16 x0 1 x2 →
  ok M17 x1 3 ∧ ∃ b19 : Nat, mR M17 x1 6 = some b19 ∧ ok M17 b19 1 ∧ E h mdJx4a65c_size_8abf5 [.ref b19] M17 (fun r M21 => mE M17 M21 → ∃ r22 : Int32, r = some (.int r22) ∧ ¬ (r22 : Int32) < 0 ∧ ((r22 : Int32).toNatClampNeg ≤ 100000000) ∧ ∀ (q24 : Nat) (M23 : Mem), q24 = mN M21 → M23 = nwA M21 21 ((r22 : Int32).toNatClampNeg) →
  ∀ M25 : Mem, M25 = wR M23 x0 8 (some q24) →
  T (h + 1) mdX2_init 73 [(0, .ref x0), (1, .ref x1), (3, .int 0)] [] M25 Q)
set_option maxRecDepth 20000 in
set_option maxHeartbeats 2000000 in
theorem VX2_init_0 {h : Nat} {x0 : Nat} {x1 : Nat} {x2 : Int32} {M : Mem} {Q : Option Value → Mem → Prop} (H : DX2_init_0 h x0 x1 x2 M Q) : T (h + 1) mdX2_init 0 [(0, .ref x0), (1, .ref x1), (2, .int x2)] [] M Q := by
  unfold DX2_init_0 at H
  refine xt_aload_n (j := 0) dX2_init_0 rfl rfl ?_
  refine xt_objInit dX2_init_1 (oiX2_7 rfl) (by decide) (Nat.succ_le_succ (Nat.zero_le _)) ?_
  refine xt_aload_n (j := 0) dX2_init_4 rfl rfl ?_
  refine xt_bipush (v := 26) dX2_init_5 (by decide) ?_
  obtain ⟨hn, hy, H⟩ := H
  obtain ⟨M1, eM1⟩ : ∃ z, z = nwA M 21 ((26 : Int32).toNatClampNeg) := ⟨_, rfl⟩
  obtain ⟨q2, eq2⟩ : ∃ z, z = mN M := ⟨_, rfl⟩
  have H := H _ _ eq2 eM1
  refine xt_newI dX2_init_7 ac_I hn rfl hy ?_
  rw [← eM1, ← eq2]
  obtain ⟨ho3, H⟩ := H
  obtain ⟨M4, eM4⟩ : ∃ z, z = wR M1 x0 2 (some q2) := ⟨_, rfl⟩
  have H := H _ eM4
  refine xt_putR dX2_init_9 (flX2_13 rfl) ft_4_2 rfl ho3.1 ho3.2 ?_
  have ho3 : ok M4 x0 4 := by rw [eM4]; exact ho3
  rw [← eM4]
  refine xt_aload_n (j := 0) dX2_init_12 rfl rfl ?_
  refine xt_bipush (v := 26) dX2_init_13 (by decide) ?_
  obtain ⟨hn, hy, H⟩ := H
  obtain ⟨M5, eM5⟩ : ∃ z, z = nwA M4 21 ((26 : Int32).toNatClampNeg) := ⟨_, rfl⟩
  obtain ⟨q6, eq6⟩ : ∃ z, z = mN M4 := ⟨_, rfl⟩
  have H := H _ _ eq6 eM5
  refine xt_newI dX2_init_15 ac_I hn rfl hy ?_
  have ho3 : ok M5 x0 4 := by rw [eM5]; exact ok_nwA ho3
  rw [← eM5, ← eq6]
  obtain ⟨M7, eM7⟩ : ∃ z, z = wR M5 x0 3 (some q6) := ⟨_, rfl⟩
  have H := H _ eM7
  refine xt_putR dX2_init_17 (flX2_17 rfl) ft_4_3 rfl ho3.1 ho3.2 ?_
  have ho3 : ok M7 x0 4 := by rw [eM7]; exact ho3
  rw [← eM7]
  refine xt_aload_n (j := 0) dX2_init_20 rfl rfl ?_
  refine xt_iconst (v := 3) dX2_init_21 (by decide) ?_
  refine xt_bipush (v := 26) dX2_init_22 (by decide) ?_
  obtain ⟨hn, hy, H⟩ := H
  obtain ⟨M8, eM8⟩ : ∃ z, z = nw3 M7 ((26 : Int32).toNatClampNeg) := ⟨_, rfl⟩
  obtain ⟨q9, eq9⟩ : ∃ z, z = mN M7 := ⟨_, rfl⟩
  have H := H _ _ eq9 eM8
  refine xt_mul2 dX2_init_24 (cgX2_20 rfl) ac_I hn rfl hy ?_
  have ho3 : ok M8 x0 4 := by rw [eM8]; exact ok_nw3 ho3
  rw [← eM8, ← eq9]
  obtain ⟨M10, eM10⟩ : ∃ z, z = wR M8 x0 4 (some q9) := ⟨_, rfl⟩
  have H := H _ eM10
  refine xt_putR dX2_init_28 (flX2_22 rfl) ft_4_4 rfl ho3.1 ho3.2 ?_
  have ho3 : ok M10 x0 4 := by rw [eM10]; exact ho3
  rw [← eM10]
  refine xt_aload_n (j := 0) dX2_init_31 rfl rfl ?_
  refine xt_iconst (v := 4) dX2_init_32 (by decide) ?_
  obtain ⟨hn, hy, H⟩ := H
  obtain ⟨M11, eM11⟩ : ∃ z, z = nwA M10 21 ((4 : Int32).toNatClampNeg) := ⟨_, rfl⟩
  obtain ⟨q12, eq12⟩ : ∃ z, z = mN M10 := ⟨_, rfl⟩
  have H := H _ _ eq12 eM11
  refine xt_newI dX2_init_33 ac_I hn rfl hy ?_
  have ho3 : ok M11 x0 4 := by rw [eM11]; exact ok_nwA ho3
  rw [← eM11, ← eq12]
  obtain ⟨M13, eM13⟩ : ∃ z, z = wR M11 x0 7 (some q12) := ⟨_, rfl⟩
  have H := H _ eM13
  refine xt_putR dX2_init_35 (flX2_25 rfl) ft_4_7 rfl ho3.1 ho3.2 ?_
  have ho3 : ok M13 x0 4 := by rw [eM13]; exact ho3
  rw [← eM13]
  refine xt_aload_n (j := 0) dX2_init_38 rfl rfl ?_
  refine xt_iconst (v := -1) dX2_init_39 (by decide) ?_
  obtain ⟨M14, eM14⟩ : ∃ z, z = wI M13 x0 11 (-1) := ⟨_, rfl⟩
  have H := H _ eM14
  refine xt_putI dX2_init_40 (flX2_28 rfl) ty_4_11 rfl ho3.1 ho3.2 ?_
  have ho3 : ok M14 x0 4 := by rw [eM14]; exact ho3
  rw [← eM14]
  refine xt_aload_n (j := 0) dX2_init_43 rfl rfl ?_
  refine xt_iconst (v := -1) dX2_init_44 (by decide) ?_
  obtain ⟨M15, eM15⟩ : ∃ z, z = wI M14 x0 13 (-1) := ⟨_, rfl⟩
  have H := H _ eM15
  refine xt_putI dX2_init_45 (flX2_32 rfl) ty_4_13 rfl ho3.1 ho3.2 ?_
  have ho3 : ok M15 x0 4 := by rw [eM15]; exact ho3
  rw [← eM15]
  refine xt_aload_n (j := 0) dX2_init_48 rfl rfl ?_
  refine xt_aload_n (j := 1) dX2_init_49 rfl rfl ?_
  obtain ⟨M16, eM16⟩ : ∃ z, z = wR M15 x0 0 (some x1) := ⟨_, rfl⟩
  have H := H _ eM16
  refine xt_putR dX2_init_50 (flX2_35 rfl) ft_4_0 rfl ho3.1 ho3.2 ?_
  have ho3 : ok M16 x0 4 := by rw [eM16]; exact ho3
  rw [← eM16]
  refine xt_aload_n (j := 0) dX2_init_53 rfl rfl ?_
  refine xt_iload_n (j := 2) dX2_init_54 rfl rfl ?_
  obtain ⟨M17, eM17⟩ : ∃ z, z = wI M16 x0 1 x2 := ⟨_, rfl⟩
  have H := H _ eM17
  refine xt_putI dX2_init_55 (flX2_39 rfl) ty_4_1 rfl ho3.1 ho3.2 ?_
  have ho3 : ok M17 x0 4 := by rw [eM17]; exact ho3
  rw [← eM17]
  refine xt_aload_n (j := 0) dX2_init_58 rfl rfl ?_
  refine xt_aload_n (j := 1) dX2_init_59 rfl rfl ?_
  obtain ⟨ho18, H⟩ := H
  obtain ⟨b19, hb, H⟩ := H
  refine xt_getR dX2_init_60 (flX2_42 rfl) ft_3_6 ho18.1 ho18.2 hb ?_
  obtain ⟨ho20, H⟩ := H
  refine xt_callV (h2 := h) (as := []) (st := [.ref x0]) dX2_init_63 (mlX2_46 rfl) rfl ho20.1 ⟨by rw [ho20.2]; rfl, by rw [ho20.2]; decide⟩ (by first | decide | (simp [Value.category]; done)) (Nat.le_refl _) H (fun r M21 HH hE => ?_)
  obtain ⟨r22, hr, H⟩ := HH hE
  subst hr
  have ho3 := ok_E ho3 hE
  have ho18 := ok_E ho18 hE
  show T _ _ _ _ [.int r22, .ref x0] _ _
  obtain ⟨hn, hy, H⟩ := H
  obtain ⟨M23, eM23⟩ : ∃ z, z = nwA M21 21 ((r22 : Int32).toNatClampNeg) := ⟨_, rfl⟩
  obtain ⟨q24, eq24⟩ : ∃ z, z = mN M21 := ⟨_, rfl⟩
  have H := H _ _ eq24 eM23
  refine xt_newI dX2_init_66 ac_I hn rfl hy ?_
  have ho3 : ok M23 x0 4 := by rw [eM23]; exact ok_nwA ho3
  have ho18 : ok M23 x1 3 := by rw [eM23]; exact ok_nwA ho18
  rw [← eM23, ← eq24]
  obtain ⟨M25, eM25⟩ : ∃ z, z = wR M23 x0 8 (some q24) := ⟨_, rfl⟩
  have H := H _ eM25
  refine xt_putR dX2_init_68 (flX2_52 rfl) ft_4_8 rfl ho3.1 ho3.2 ?_
  have ho3 : ok M25 x0 4 := by rw [eM25]; exact ho3
  have ho18 : ok M25 x1 3 := by rw [eM25]; exact ho18
  rw [← eM25]
  refine xt_iconst (v := 0) dX2_init_71 (by decide) ?_
  refine xt_istore_n (lv' := [(3, .int 0), (0, .ref x0), (1, .ref x1), (2, .int x2)]) dX2_init_72 rfl (by decide) rfl ?_
  exact xt_sub (lv' := [(0, .ref x0), (1, .ref x1), (3, .int 0)]) [1, 2, 0] rfl H
theorem KX2_init {h : Nat} {x0 : Nat} {x1 : Nat} {x2 : Int32} {M : Mem} {Q : Option Value → Mem → Prop} (H : DX2_init_0 h x0 x1 x2 M Q) : E (h + 1) mdX2_init [.ref x0, .ref x1, .int x2] M Q := E.of (by decide) (Nat.le_of_ble_eq_true rfl) (fun _ _ _ => trivial) (VX2_init_0 H)
def DJ6_bitCount_0f7a4_0 (h : Nat) (x0 : Int32) (M : Mem) (Q : Option Value → Mem → Prop) : Prop :=
  Q (some (.int ((((((((x0 - ((((x0 : Int32).toUInt32 >>> ((1 : Int32).toUInt32 &&& Int32.toUInt32 31)).toInt32) &&& 1431655765)) &&& 858993459) + ((((x0 - ((((x0 : Int32).toUInt32 >>> ((1 : Int32).toUInt32 &&& Int32.toUInt32 31)).toInt32) &&& 1431655765) : Int32).toUInt32 >>> ((2 : Int32).toUInt32 &&& Int32.toUInt32 31)).toInt32) &&& 858993459)) + (((((x0 - ((((x0 : Int32).toUInt32 >>> ((1 : Int32).toUInt32 &&& Int32.toUInt32 31)).toInt32) &&& 1431655765)) &&& 858993459) + ((((x0 - ((((x0 : Int32).toUInt32 >>> ((1 : Int32).toUInt32 &&& Int32.toUInt32 31)).toInt32) &&& 1431655765) : Int32).toUInt32 >>> ((2 : Int32).toUInt32 &&& Int32.toUInt32 31)).toInt32) &&& 858993459) : Int32).toUInt32 >>> ((4 : Int32).toUInt32 &&& Int32.toUInt32 31)).toInt32)) &&& 252645135) + (((((((x0 - ((((x0 : Int32).toUInt32 >>> ((1 : Int32).toUInt32 &&& Int32.toUInt32 31)).toInt32) &&& 1431655765)) &&& 858993459) + ((((x0 - ((((x0 : Int32).toUInt32 >>> ((1 : Int32).toUInt32 &&& Int32.toUInt32 31)).toInt32) &&& 1431655765) : Int32).toUInt32 >>> ((2 : Int32).toUInt32 &&& Int32.toUInt32 31)).toInt32) &&& 858993459)) + (((((x0 - ((((x0 : Int32).toUInt32 >>> ((1 : Int32).toUInt32 &&& Int32.toUInt32 31)).toInt32) &&& 1431655765)) &&& 858993459) + ((((x0 - ((((x0 : Int32).toUInt32 >>> ((1 : Int32).toUInt32 &&& Int32.toUInt32 31)).toInt32) &&& 1431655765) : Int32).toUInt32 >>> ((2 : Int32).toUInt32 &&& Int32.toUInt32 31)).toInt32) &&& 858993459) : Int32).toUInt32 >>> ((4 : Int32).toUInt32 &&& Int32.toUInt32 31)).toInt32)) &&& 252645135 : Int32).toUInt32 >>> ((8 : Int32).toUInt32 &&& Int32.toUInt32 31)).toInt32)) + ((((((((x0 - ((((x0 : Int32).toUInt32 >>> ((1 : Int32).toUInt32 &&& Int32.toUInt32 31)).toInt32) &&& 1431655765)) &&& 858993459) + ((((x0 - ((((x0 : Int32).toUInt32 >>> ((1 : Int32).toUInt32 &&& Int32.toUInt32 31)).toInt32) &&& 1431655765) : Int32).toUInt32 >>> ((2 : Int32).toUInt32 &&& Int32.toUInt32 31)).toInt32) &&& 858993459)) + (((((x0 - ((((x0 : Int32).toUInt32 >>> ((1 : Int32).toUInt32 &&& Int32.toUInt32 31)).toInt32) &&& 1431655765)) &&& 858993459) + ((((x0 - ((((x0 : Int32).toUInt32 >>> ((1 : Int32).toUInt32 &&& Int32.toUInt32 31)).toInt32) &&& 1431655765) : Int32).toUInt32 >>> ((2 : Int32).toUInt32 &&& Int32.toUInt32 31)).toInt32) &&& 858993459) : Int32).toUInt32 >>> ((4 : Int32).toUInt32 &&& Int32.toUInt32 31)).toInt32)) &&& 252645135) + (((((((x0 - ((((x0 : Int32).toUInt32 >>> ((1 : Int32).toUInt32 &&& Int32.toUInt32 31)).toInt32) &&& 1431655765)) &&& 858993459) + ((((x0 - ((((x0 : Int32).toUInt32 >>> ((1 : Int32).toUInt32 &&& Int32.toUInt32 31)).toInt32) &&& 1431655765) : Int32).toUInt32 >>> ((2 : Int32).toUInt32 &&& Int32.toUInt32 31)).toInt32) &&& 858993459)) + (((((x0 - ((((x0 : Int32).toUInt32 >>> ((1 : Int32).toUInt32 &&& Int32.toUInt32 31)).toInt32) &&& 1431655765)) &&& 858993459) + ((((x0 - ((((x0 : Int32).toUInt32 >>> ((1 : Int32).toUInt32 &&& Int32.toUInt32 31)).toInt32) &&& 1431655765) : Int32).toUInt32 >>> ((2 : Int32).toUInt32 &&& Int32.toUInt32 31)).toInt32) &&& 858993459) : Int32).toUInt32 >>> ((4 : Int32).toUInt32 &&& Int32.toUInt32 31)).toInt32)) &&& 252645135 : Int32).toUInt32 >>> ((8 : Int32).toUInt32 &&& Int32.toUInt32 31)).toInt32) : Int32).toUInt32 >>> ((16 : Int32).toUInt32 &&& Int32.toUInt32 31)).toInt32)) &&& 63))) M
set_option maxRecDepth 20000 in
set_option maxHeartbeats 2000000 in
theorem VJ6_bitCount_0f7a4_0 {h : Nat} {x0 : Int32} {M : Mem} {Q : Option Value → Mem → Prop} (H : DJ6_bitCount_0f7a4_0 h x0 M Q) : T (h + 1) mdJ6_bitCount_0f7a4 0 [(0, .int x0)] [] M Q := by
  unfold DJ6_bitCount_0f7a4_0 at H
  refine xt_iload_n (j := 0) dJ6_bitCount_0f7a4_0 rfl rfl ?_
  refine xt_iload_n (j := 0) dJ6_bitCount_0f7a4_1 rfl rfl ?_
  refine xt_iconst (v := 1) dJ6_bitCount_0f7a4_2 (by decide) ?_
  refine xt_iushr dJ6_bitCount_0f7a4_3 ?_
  refine xt_ldcw (v := 1431655765) dJ6_bitCount_0f7a4_4 (ctJ6_265 rfl) ?_
  refine xt_iand dJ6_bitCount_0f7a4_7 ?_
  refine xt_isub dJ6_bitCount_0f7a4_8 ?_
  refine xt_istore_n (lv' := [(0, .int (x0 - ((((x0 : Int32).toUInt32 >>> ((1 : Int32).toUInt32 &&& Int32.toUInt32 31)).toInt32) &&& 1431655765)))]) dJ6_bitCount_0f7a4_9 rfl (by decide) rfl ?_
  refine xt_iload_n (j := 0) dJ6_bitCount_0f7a4_10 rfl rfl ?_
  refine xt_ldcw (v := 858993459) dJ6_bitCount_0f7a4_11 (ctJ6_266 rfl) ?_
  refine xt_iand dJ6_bitCount_0f7a4_14 ?_
  refine xt_iload_n (j := 0) dJ6_bitCount_0f7a4_15 rfl rfl ?_
  refine xt_iconst (v := 2) dJ6_bitCount_0f7a4_16 (by decide) ?_
  refine xt_iushr dJ6_bitCount_0f7a4_17 ?_
  refine xt_ldcw (v := 858993459) dJ6_bitCount_0f7a4_18 (ctJ6_266 rfl) ?_
  refine xt_iand dJ6_bitCount_0f7a4_21 ?_
  refine xt_iadd dJ6_bitCount_0f7a4_22 ?_
  refine xt_istore_n (lv' := [(0, .int (((x0 - ((((x0 : Int32).toUInt32 >>> ((1 : Int32).toUInt32 &&& Int32.toUInt32 31)).toInt32) &&& 1431655765)) &&& 858993459) + ((((x0 - ((((x0 : Int32).toUInt32 >>> ((1 : Int32).toUInt32 &&& Int32.toUInt32 31)).toInt32) &&& 1431655765) : Int32).toUInt32 >>> ((2 : Int32).toUInt32 &&& Int32.toUInt32 31)).toInt32) &&& 858993459)))]) dJ6_bitCount_0f7a4_23 rfl (by decide) rfl ?_
  refine xt_iload_n (j := 0) dJ6_bitCount_0f7a4_24 rfl rfl ?_
  refine xt_iload_n (j := 0) dJ6_bitCount_0f7a4_25 rfl rfl ?_
  refine xt_iconst (v := 4) dJ6_bitCount_0f7a4_26 (by decide) ?_
  refine xt_iushr dJ6_bitCount_0f7a4_27 ?_
  refine xt_iadd dJ6_bitCount_0f7a4_28 ?_
  refine xt_ldcw (v := 252645135) dJ6_bitCount_0f7a4_29 (ctJ6_267 rfl) ?_
  refine xt_iand dJ6_bitCount_0f7a4_32 ?_
  refine xt_istore_n (lv' := [(0, .int (((((x0 - ((((x0 : Int32).toUInt32 >>> ((1 : Int32).toUInt32 &&& Int32.toUInt32 31)).toInt32) &&& 1431655765)) &&& 858993459) + ((((x0 - ((((x0 : Int32).toUInt32 >>> ((1 : Int32).toUInt32 &&& Int32.toUInt32 31)).toInt32) &&& 1431655765) : Int32).toUInt32 >>> ((2 : Int32).toUInt32 &&& Int32.toUInt32 31)).toInt32) &&& 858993459)) + (((((x0 - ((((x0 : Int32).toUInt32 >>> ((1 : Int32).toUInt32 &&& Int32.toUInt32 31)).toInt32) &&& 1431655765)) &&& 858993459) + ((((x0 - ((((x0 : Int32).toUInt32 >>> ((1 : Int32).toUInt32 &&& Int32.toUInt32 31)).toInt32) &&& 1431655765) : Int32).toUInt32 >>> ((2 : Int32).toUInt32 &&& Int32.toUInt32 31)).toInt32) &&& 858993459) : Int32).toUInt32 >>> ((4 : Int32).toUInt32 &&& Int32.toUInt32 31)).toInt32)) &&& 252645135))]) dJ6_bitCount_0f7a4_33 rfl (by decide) rfl ?_
  refine xt_iload_n (j := 0) dJ6_bitCount_0f7a4_34 rfl rfl ?_
  refine xt_iload_n (j := 0) dJ6_bitCount_0f7a4_35 rfl rfl ?_
  refine xt_bipush (v := 8) dJ6_bitCount_0f7a4_36 (by decide) ?_
  refine xt_iushr dJ6_bitCount_0f7a4_38 ?_
  refine xt_iadd dJ6_bitCount_0f7a4_39 ?_
  refine xt_istore_n (lv' := [(0, .int ((((((x0 - ((((x0 : Int32).toUInt32 >>> ((1 : Int32).toUInt32 &&& Int32.toUInt32 31)).toInt32) &&& 1431655765)) &&& 858993459) + ((((x0 - ((((x0 : Int32).toUInt32 >>> ((1 : Int32).toUInt32 &&& Int32.toUInt32 31)).toInt32) &&& 1431655765) : Int32).toUInt32 >>> ((2 : Int32).toUInt32 &&& Int32.toUInt32 31)).toInt32) &&& 858993459)) + (((((x0 - ((((x0 : Int32).toUInt32 >>> ((1 : Int32).toUInt32 &&& Int32.toUInt32 31)).toInt32) &&& 1431655765)) &&& 858993459) + ((((x0 - ((((x0 : Int32).toUInt32 >>> ((1 : Int32).toUInt32 &&& Int32.toUInt32 31)).toInt32) &&& 1431655765) : Int32).toUInt32 >>> ((2 : Int32).toUInt32 &&& Int32.toUInt32 31)).toInt32) &&& 858993459) : Int32).toUInt32 >>> ((4 : Int32).toUInt32 &&& Int32.toUInt32 31)).toInt32)) &&& 252645135) + (((((((x0 - ((((x0 : Int32).toUInt32 >>> ((1 : Int32).toUInt32 &&& Int32.toUInt32 31)).toInt32) &&& 1431655765)) &&& 858993459) + ((((x0 - ((((x0 : Int32).toUInt32 >>> ((1 : Int32).toUInt32 &&& Int32.toUInt32 31)).toInt32) &&& 1431655765) : Int32).toUInt32 >>> ((2 : Int32).toUInt32 &&& Int32.toUInt32 31)).toInt32) &&& 858993459)) + (((((x0 - ((((x0 : Int32).toUInt32 >>> ((1 : Int32).toUInt32 &&& Int32.toUInt32 31)).toInt32) &&& 1431655765)) &&& 858993459) + ((((x0 - ((((x0 : Int32).toUInt32 >>> ((1 : Int32).toUInt32 &&& Int32.toUInt32 31)).toInt32) &&& 1431655765) : Int32).toUInt32 >>> ((2 : Int32).toUInt32 &&& Int32.toUInt32 31)).toInt32) &&& 858993459) : Int32).toUInt32 >>> ((4 : Int32).toUInt32 &&& Int32.toUInt32 31)).toInt32)) &&& 252645135 : Int32).toUInt32 >>> ((8 : Int32).toUInt32 &&& Int32.toUInt32 31)).toInt32)))]) dJ6_bitCount_0f7a4_40 rfl (by decide) rfl ?_
  refine xt_iload_n (j := 0) dJ6_bitCount_0f7a4_41 rfl rfl ?_
  refine xt_iload_n (j := 0) dJ6_bitCount_0f7a4_42 rfl rfl ?_
  refine xt_bipush (v := 16) dJ6_bitCount_0f7a4_43 (by decide) ?_
  refine xt_iushr dJ6_bitCount_0f7a4_45 ?_
  refine xt_iadd dJ6_bitCount_0f7a4_46 ?_
  refine xt_istore_n (lv' := [(0, .int (((((((x0 - ((((x0 : Int32).toUInt32 >>> ((1 : Int32).toUInt32 &&& Int32.toUInt32 31)).toInt32) &&& 1431655765)) &&& 858993459) + ((((x0 - ((((x0 : Int32).toUInt32 >>> ((1 : Int32).toUInt32 &&& Int32.toUInt32 31)).toInt32) &&& 1431655765) : Int32).toUInt32 >>> ((2 : Int32).toUInt32 &&& Int32.toUInt32 31)).toInt32) &&& 858993459)) + (((((x0 - ((((x0 : Int32).toUInt32 >>> ((1 : Int32).toUInt32 &&& Int32.toUInt32 31)).toInt32) &&& 1431655765)) &&& 858993459) + ((((x0 - ((((x0 : Int32).toUInt32 >>> ((1 : Int32).toUInt32 &&& Int32.toUInt32 31)).toInt32) &&& 1431655765) : Int32).toUInt32 >>> ((2 : Int32).toUInt32 &&& Int32.toUInt32 31)).toInt32) &&& 858993459) : Int32).toUInt32 >>> ((4 : Int32).toUInt32 &&& Int32.toUInt32 31)).toInt32)) &&& 252645135) + (((((((x0 - ((((x0 : Int32).toUInt32 >>> ((1 : Int32).toUInt32 &&& Int32.toUInt32 31)).toInt32) &&& 1431655765)) &&& 858993459) + ((((x0 - ((((x0 : Int32).toUInt32 >>> ((1 : Int32).toUInt32 &&& Int32.toUInt32 31)).toInt32) &&& 1431655765) : Int32).toUInt32 >>> ((2 : Int32).toUInt32 &&& Int32.toUInt32 31)).toInt32) &&& 858993459)) + (((((x0 - ((((x0 : Int32).toUInt32 >>> ((1 : Int32).toUInt32 &&& Int32.toUInt32 31)).toInt32) &&& 1431655765)) &&& 858993459) + ((((x0 - ((((x0 : Int32).toUInt32 >>> ((1 : Int32).toUInt32 &&& Int32.toUInt32 31)).toInt32) &&& 1431655765) : Int32).toUInt32 >>> ((2 : Int32).toUInt32 &&& Int32.toUInt32 31)).toInt32) &&& 858993459) : Int32).toUInt32 >>> ((4 : Int32).toUInt32 &&& Int32.toUInt32 31)).toInt32)) &&& 252645135 : Int32).toUInt32 >>> ((8 : Int32).toUInt32 &&& Int32.toUInt32 31)).toInt32)) + ((((((((x0 - ((((x0 : Int32).toUInt32 >>> ((1 : Int32).toUInt32 &&& Int32.toUInt32 31)).toInt32) &&& 1431655765)) &&& 858993459) + ((((x0 - ((((x0 : Int32).toUInt32 >>> ((1 : Int32).toUInt32 &&& Int32.toUInt32 31)).toInt32) &&& 1431655765) : Int32).toUInt32 >>> ((2 : Int32).toUInt32 &&& Int32.toUInt32 31)).toInt32) &&& 858993459)) + (((((x0 - ((((x0 : Int32).toUInt32 >>> ((1 : Int32).toUInt32 &&& Int32.toUInt32 31)).toInt32) &&& 1431655765)) &&& 858993459) + ((((x0 - ((((x0 : Int32).toUInt32 >>> ((1 : Int32).toUInt32 &&& Int32.toUInt32 31)).toInt32) &&& 1431655765) : Int32).toUInt32 >>> ((2 : Int32).toUInt32 &&& Int32.toUInt32 31)).toInt32) &&& 858993459) : Int32).toUInt32 >>> ((4 : Int32).toUInt32 &&& Int32.toUInt32 31)).toInt32)) &&& 252645135) + (((((((x0 - ((((x0 : Int32).toUInt32 >>> ((1 : Int32).toUInt32 &&& Int32.toUInt32 31)).toInt32) &&& 1431655765)) &&& 858993459) + ((((x0 - ((((x0 : Int32).toUInt32 >>> ((1 : Int32).toUInt32 &&& Int32.toUInt32 31)).toInt32) &&& 1431655765) : Int32).toUInt32 >>> ((2 : Int32).toUInt32 &&& Int32.toUInt32 31)).toInt32) &&& 858993459)) + (((((x0 - ((((x0 : Int32).toUInt32 >>> ((1 : Int32).toUInt32 &&& Int32.toUInt32 31)).toInt32) &&& 1431655765)) &&& 858993459) + ((((x0 - ((((x0 : Int32).toUInt32 >>> ((1 : Int32).toUInt32 &&& Int32.toUInt32 31)).toInt32) &&& 1431655765) : Int32).toUInt32 >>> ((2 : Int32).toUInt32 &&& Int32.toUInt32 31)).toInt32) &&& 858993459) : Int32).toUInt32 >>> ((4 : Int32).toUInt32 &&& Int32.toUInt32 31)).toInt32)) &&& 252645135 : Int32).toUInt32 >>> ((8 : Int32).toUInt32 &&& Int32.toUInt32 31)).toInt32) : Int32).toUInt32 >>> ((16 : Int32).toUInt32 &&& Int32.toUInt32 31)).toInt32)))]) dJ6_bitCount_0f7a4_47 rfl (by decide) rfl ?_
  refine xt_iload_n (j := 0) dJ6_bitCount_0f7a4_48 rfl rfl ?_
  refine xt_bipush (v := 63) dJ6_bitCount_0f7a4_49 (by decide) ?_
  refine xt_iand dJ6_bitCount_0f7a4_51 ?_
  exact xt_ireturn dJ6_bitCount_0f7a4_52 rfl H
theorem KJ6_bitCount_0f7a4 {h : Nat} {x0 : Int32} {M : Mem} {Q : Option Value → Mem → Prop} (H : DJ6_bitCount_0f7a4_0 h x0 M Q) : E (h + 1) mdJ6_bitCount_0f7a4 [.int x0] M Q := E.of (by decide) (Nat.le_of_ble_eq_true rfl) (fun _ _ _ => trivial) (VJ6_bitCount_0f7a4_0 H)
end
section
/-! the governor's constructor, governor() of the class -/
section
variable {M M1 M2 : Mem} {g f q w : Nat}
/-- a row is made and kept in field f of g -/
def StR (g f n w kd : Nat) (M M2 : Mem) : Prop := (mN M2 = mN M + n ∧ mS M2 = mS M + w) ∧ fr (fun c => c = g) M M2 ∧ mI M2 = mI M ∧ mR M2 g f = some (mN M) ∧ (∀ f', f' ≠ f → mR M2 g f' = mR M g f') ∧ ok M2 (mN M) kd
theorem st_row (e1 : M1 = nwA M 21 w) (eq : q = mN M) (e2 : M2 = wR M1 g f (some q)) (hg : g < mN M) : StR g f 1 w 21 M M2 ∧ mL M2 (mN M) = w ∧ ∀ k, mAI M2 (mN M) k = 0 := by
  have f1 : fr (fun c => c = g) M M1 := by rw [e1]; exact fr_nwA
  have f2 : fr (fun c => c = g) M1 M2 := by rw [e2]; exact fr_wR rfl
  have k1 : mK M1 (mN M) = 21 := by rw [e1]; exact va_up_self _ _ _
  have l1 : mL M1 (mN M) = w := by rw [e1]; exact va_up_self _ _ _
  have z1 : mAI M1 (mN M) = fun _ => 0 := by rw [e1]; exact va_up_self _ _ _
  refine ⟨⟨⟨by rw [e2, e1]; rfl, by rw [e2, e1]; rfl⟩, f1.tr f2 (fun _ _ z => z), by rw [e2, e1]; rfl, by rw [e2, mR_wR, if_pos ⟨rfl, rfl⟩, eq], fun f' hf => ?_, ⟨by rw [e2, e1]; exact Nat.lt_succ_self _, by rw [e2]; exact k1⟩⟩, by rw [e2]; exact l1, fun k => by rw [e2]; show mAI M1 (mN M) k = 0; rw [z1]⟩
  rw [e2, mR_wR, if_neg (fun z => hf z.2), e1]
  exact congrFun (show mR M g = mR M g from rfl) f'
theorem st_grd (e1 : M1 = nw3 M 26) (eq : q = mN M) (e2 : M2 = wR M1 g f (some q)) (hg : g < mN M) : StR g f 4 81 25 M M2 ∧ mL M2 (mN M) = 3 ∧ ∀ i, i < 3 → mAR M2 (mN M) i = some (mN M + 1 + i) ∧ ok M2 (mN M + 1 + i) 21 ∧ mL M2 (mN M + 1 + i) = 26 ∧ ∀ k, mAI M2 (mN M + 1 + i) k = 0 := by
  have f1 : fr (fun c => c = g) M M1 := by
    rw [e1]
    refine ⟨mE_nw3, fun b hb _ => ?_⟩
    obtain ⟨-, -, a3, a4, a5, a6, a7, a8⟩ := nw3_old (k := 26) hb
    exact ⟨a6, a7, a8, a3, a4, a5⟩
  have f2 : fr (fun c => c = g) M1 M2 := by rw [e2]; exact fr_wR rfl
  obtain ⟨t1, t2, t3⟩ := nw3_top (M := M) (k := 26)
  refine ⟨⟨⟨by rw [e2, e1]; rfl, by rw [e2, e1]; rfl⟩, f1.tr f2 (fun _ _ z => z), by rw [e2, e1]; rfl, by rw [e2, mR_wR, if_pos ⟨rfl, rfl⟩, eq], fun f' hf => ?_, ⟨by rw [e2, e1]; show mN M < mN M + 4; omega, by rw [e2, e1]; exact t1⟩⟩, by rw [e2, e1]; exact t2, fun i hi => ?_⟩
  · rw [e2, mR_wR, if_neg (fun z => hf z.2), e1]
    exact congrFun (show mR M g = mR M g from rfl) f'
  · obtain ⟨r1, r2, r3⟩ := nw3_row (M := M) (k := 26) hi
    refine ⟨?_, ⟨by rw [e2, e1]; show mN M + 1 + i < mN M + 4; omega, by rw [e2, e1]; exact r1⟩, by rw [e2, e1]; exact r2, fun k => ?_⟩
    · rw [e2, e1]; show mAR (nw3 M 26) (mN M) i = _; rw [t3]
    · rw [e2, e1]; show mAI (nw3 M 26) (mN M + 1 + i) k = 0; rw [r3]
end
section
variable {M : Mem} {g c nP V pb be h : Nat} {ps : List Nat} {Q : Option Value → Mem → Prop} {x : Int32}
theorem S_gini (og : ok M g 4) (oc : ok M c 3) (z5 : mI M g 5 = 0) (e6 : mR M c 6 = some (c + 7)) (hA : ALp M (c + 7) pb 5 ps) (hl : ps.length = nP) (h40 : nP ≤ 40) (e12 : mI M c 12 = Int32.ofNat V) (hV : V ≤ 6) (e5 : mR M c 5 = some be) (ob : ok M be 21) (lb : mL M be = 6) (hbe : ∀ k, k < V → InG (mAI M be k).toInt64) (K : ∀ M' nw nx kp gn wr ks, fr (fun a => a = g) M M' → GvS M' g c nw nx kp gn wr nP ks → GvR M' g nw nx gn ks → (∀ r, grR nw nx wr gn ks r ∨ r = kp → mN M ≤ r) → (mN M' = mN M + 8 ∧ mS M' = mS M + 137 + nP) → mI M' g 5 = 0 → Q none M') : E (h + 2) mdX2_init [.ref g, .ref c, .int x] M Q := by
  have t26 : (26 : Int32).toNatClampNeg = 26 := by decide
  have t4 : (4 : Int32).toNatClampNeg = 4 := by decide
  have cg : c ≠ g := fun e => by rw [e] at oc; exact absurd (oc.2.symm.trans og.2) (by decide)
  have gN := og.1
  refine KX2_init (h := h + 1) ?_
  unfold DX2_init_0
  rw [t26, t4]
  refine ⟨by decide, by decide, fun q2 M1 eq2 e1 => ⟨by rw [e1]; exact ok_nwA og, fun M4 e4 => ⟨by decide, by decide, fun q6 M5 eq6 e5' M7 e7 => ⟨by decide, by decide, fun q9 M8 eq9 e8 M10 e10 => ⟨by decide, by decide, fun q12 M11 eq12 e11 M13 e13 M14 e14 M15 e15 M16 e16 M17 e17 => ?_⟩⟩⟩⟩⟩
  obtain ⟨⟨⟨n4, s4⟩, f4, i4, r4, rr4, o4⟩, l4, z4⟩ := st_row e1 eq2 e4 gN
  obtain ⟨⟨⟨n7, s7⟩, f7, i7, r7, rr7, o7⟩, l7, z7⟩ := st_row e5' eq6 e7 (by omega)
  obtain ⟨⟨⟨n10, s10⟩, f10, i10, r10, rr10, o10⟩, l10, z10⟩ := st_grd e8 eq9 e10 (by omega)
  obtain ⟨⟨⟨n13, s13⟩, f13, i13, r13, rr13, o13⟩, l13, z13⟩ := st_row e11 eq12 e13 (by omega)
  -- its own fields
  have f17 : fr (fun a => a = g) M13 M17 := by
    rw [e17, e16, e15, e14]
    exact (((fr_wI (S := fun a => a = g) rfl).tr (fr_wI (S := fun a => a = g) rfl) (fun _ _ z => z)).tr (fr_wR (S := fun a => a = g) rfl) (fun _ _ z => z)).tr (fr_wI (S := fun a => a = g) rfl) (fun _ _ z => z)
  have n17 : mN M17 = mN M13 ∧ mS M17 = mS M13 := by rw [e17, e16, e15, e14]; exact ⟨rfl, rfl⟩
  have r17 : ∀ f, f ≠ 0 → mR M17 g f = mR M13 g f := fun f hf => by
    rw [e17]
    show mR M16 g f = _
    rw [e16, mR_wR, if_neg (fun z => hf z.2), e15, e14]
    rfl
  have r170 : mR M17 g 0 = some c := by
    rw [e17]
    show mR M16 g 0 = _
    rw [e16, mR_wR, if_pos ⟨rfl, rfl⟩]
  have i17 : mI M17 g 5 = 0 := by
    rw [e17, mI_wI, if_neg (fun z => absurd z.2 (by decide)), e16]
    show mI M15 g 5 = 0
    rw [e15, mI_wI, if_neg (fun z => absurd z.2 (by decide)), e14, mI_wI, if_neg (fun z => absurd z.2 (by decide)), i13, i10, i7, i4]
    exact z5
  have F17 : fr (fun a => a = g) M M17 := (((f4.tr f7 (fun _ _ z => z)).tr f10 (fun _ _ z => z)).tr f13 (fun _ _ z => z)).tr f17 (fun _ _ z => z)
  have A17 : ALp M17 (c + 7) pb 5 ps := alp_fr3 hA F17 (fun z => by
    have := hA.1.2
    rw [z, og.2] at this
    exact absurd this (by decide)) (fun o z => by
    have := o.2
    rw [z, og.2] at this
    exact absurd this (by decide))
  have rc17 := F17.2 c oc.1 cg
  refine ⟨ok_E oc F17.1, c + 7, by rw [rc17.2.2.1]; exact e6, A17.1, S_alSize (h := h) A17 (fun _ => ⟨_, rfl, ?_⟩)⟩
  have lp : (Int32.ofNat ps.length).toNatClampNeg = nP := by rw [hl]; exact lt32 (by omega)
  rw [lp]
  refine ⟨by rw [hl]; exact nn32 (by omega), by omega, fun q24 M23 eq24 e23 M25 e25 => ?_⟩
  obtain ⟨⟨⟨n25, s25⟩, f25, i25, r25, rr25, o25⟩, l25, z25⟩ := st_row e23 eq24 e25 (by have := F17.1.1; omega)
  have F25 := F17.tr f25 (fun _ _ z => z)
  -- rows at the end
  have E7 : mE M4 M25 := ((f7.1.tr f10.1).tr f13.1).tr (f17.1.tr f25.1)
  have E10 : mE M7 M25 := (f10.1.tr f13.1).tr (f17.1.tr f25.1)
  have E13 : mE M10 M25 := f13.1.tr (f17.1.tr f25.1)
  have E17 : mE M13 M25 := f17.1.tr f25.1
  have g7 : fr (fun a => a = g) M4 M25 := (((f7.tr f10 (fun _ _ z => z)).tr f13 (fun _ _ z => z)).tr f17 (fun _ _ z => z)).tr f25 (fun _ _ z => z)
  have g10 : fr (fun a => a = g) M7 M25 := ((f10.tr f13 (fun _ _ z => z)).tr f17 (fun _ _ z => z)).tr f25 (fun _ _ z => z)
  have g13 : fr (fun a => a = g) M10 M25 := (f13.tr f17 (fun _ _ z => z)).tr f25 (fun _ _ z => z)
  have g17 : fr (fun a => a = g) M13 M25 := f17.tr f25 (fun _ _ z => z)
  have hS : GvS M25 g c (mN M) (mN M4) (mN M7) (mN M10) (mN M17) nP (fun i => mN M7 + 1 + i) := by
    refine ⟨⟨ok_E og F25.1, by rw [rr25 0 (by decide)]; exact r170, ?_, ?_, ?_, ?_, r25⟩, ⟨⟨ok_E o4 E7, by rw [(E7.2.2 _ o4.1).2]; exact l4⟩, ⟨ok_E o7 E10, by rw [(E10.2.2 _ o7.1).2]; exact l7⟩, ⟨ok_E o13 E17, by rw [(E17.2.2 _ o13.1).2]; exact l13⟩, ⟨o25, l25⟩⟩, ⟨ok_E o10 E13, by rw [(E13.2.2 _ o10.1).2]; exact l10, fun i hi => ?_⟩, ?_⟩
    · rw [rr25 2 (by decide), r17 2 (by decide), rr13 2 (by decide), rr10 2 (by decide), rr7 2 (by decide)]; exact r4
    · rw [rr25 3 (by decide), r17 3 (by decide), rr13 3 (by decide), rr10 3 (by decide)]; exact r7
    · rw [rr25 4 (by decide), r17 4 (by decide), rr13 4 (by decide)]; exact r10
    · rw [rr25 7 (by decide), r17 7 (by decide)]; exact r13
    · obtain ⟨a1, a2, a3, a4⟩ := z10 i hi
      exact ⟨by rw [(g13.2 _ o10.1 (by omega)).2.2.2.2.2]; exact a1, ok_E a2 E13, by rw [(E13.2.2 _ a2.1).2]; exact a3⟩
    · refine ⟨by omega, by omega, by omega, by omega, by omega, by omega, fun i hi => ⟨?_, ?_, ?_, ?_⟩⟩ <;> (show mN M7 + 1 + i ≠ _) <;> omega
  have g0 : InG (0 : Int32).toInt64 := by unfold InG; decide
  have hRr : GvR M25 g (mN M) (mN M4) (mN M10) (fun i => mN M7 + 1 + i) := by
    refine ⟨fun j _ _ => ?_, fun j _ _ => ?_, fun i hi j _ _ => ?_, fun j _ => ?_, 0, by decide, ?_⟩
    · rw [(g7.2 _ o4.1 (by omega)).2.2.2.1, z4]; exact g0
    · rw [(g10.2 _ o7.1 (by omega)).2.2.2.1, z7]; exact g0
    · obtain ⟨a1, a2, a3, a4⟩ := z10 i hi
      show InG (mAI M25 (mN M7 + 1 + i) j).toInt64
      rw [(g13.2 _ a2.1 (by omega)).2.2.2.1, a4]; exact g0
    · rw [(g17.2 _ o13.1 (by omega)).2.2.2.1, z13]; exact g0
    · rw [i25]; exact i17
  have lo : ∀ r, grR (mN M) (mN M4) (mN M17) (mN M10) (fun i => mN M7 + 1 + i) r ∨ r = mN M7 → mN M ≤ r := fun r hr => by
    rcases hr with (y | y | y | y | ⟨i, hi, y⟩) | y
    · omega
    · omega
    · omega
    · omega
    · have y : r = mN M7 + 1 + i := y
      omega
    · omega
  have rc25 := F25.2 c oc.1 cg
  have rb : be ≠ g := fun e => by rw [e] at ob; exact absurd (ob.2.symm.trans og.2) (by decide)
  have rb25 := F25.2 be ob.1 rb
  -- variables begin
  have main : ∀ d v Mi, v + d = V → GmF g noP (fun r => r = mN M) M25 Mi → RoG Mi (mN M) → T (h + 2) mdX2_init 73 [(0, .ref g), (1, .ref c), (3, .int (Int32.ofNat v))] [] Mi Q := by
    intro d
    induction d with
    | zero =>
      intro v Mi hv ki ri
      have ev : v = V := hv
      subst ev
      refine VX2_init_73 (h := h + 1) ?_
      unfold DX2_init_73
      rw [ki.2.2.1 c cg, rc25.1, e12]
      refine ⟨ki.ok (ok_E oc F25.1), fun _ => ?_, fun z => absurd Int32.le_rfl z⟩
      obtain ⟨-, b2, b3, b4, q, b5, b6⟩ := hRr
      have row : ∀ r, r ≠ mN M → mAI Mi r = mAI M25 r := fun r hr => ki.2.2.2.2 r hr
      refine K Mi (mN M) (mN M4) (mN M7) (mN M10) (mN M17) (fun i => mN M7 + 1 + i) (F25.tr ki.fr (fun a ha z => z.elim id (fun y => by omega))) (hS.gm ki) ⟨ri, b2.k (row _ (by omega)), fun i hi => (b3 i hi).k (row _ (by show mN M7 + 1 + i ≠ _; omega)), by rw [row (mN M10) (by omega)]; exact b4, q, b5, by rw [ki.2.2.2.1 5 (fun z => z)]; exact b6⟩ lo ⟨by rw [ki.1.1]; omega, by rw [ki.1.2.1]; omega⟩ (by rw [ki.2.2.2.1 5 (fun z => z), i25]; exact i17)
    | succ d ih =>
      intro v Mi hv ki ri
      have lv : (Int32.ofNat v).toNatClampNeg = v := lt32 (by omega)
      have e20 : (20 : Int32) + Int32.ofNat v = Int32.ofNat (20 + v) := by rw [Int32.ofNat_add]; rfl
      have l20 : (Int32.ofNat (20 + v)).toNatClampNeg = 20 + v := lt32 (by omega)
      refine VX2_init_73 (h := h + 1) ?_
      unfold DX2_init_73
      rw [ki.2.2.1 c cg, rc25.1, e12, e20, lv, l20, succ32]
      refine ⟨ki.ok (ok_E oc F25.1), fun z => absurd ((le32 (by omega) (by omega)).mp z) (by omega), fun _ => ⟨ki.ok hS.1.1, mN M, by rw [ki.2.1.2.1]; exact hS.1.2.2.1, be, by rw [ki.2.1.2.1, rc25.2.2.1]; exact e5, ki.ok (ok_E ob F25.1), ?_, ki.ok hS.2.1.1.1, ?_, fun M7' e7' => ?_⟩⟩
      · rw [ki.1.2.2.2, (F25.1.2.2 _ ob.1).2, lb]; exact vp_of (by omega) (by decide)
      · rw [ki.1.2.2.2, hS.2.1.1.2]; exact vp_of (by omega) (by decide)
      · have bN := ob.1
        rw [ki.2.2.2.2 be (by omega), rb25.2.2.2.1] at e7'
        exact ih (v + 1) M7' (by omega) (ki.tr (GmF.a rfl e7')) (ri.up (fun _ => hbe v (by omega)) e7')
  exact main V 0 M25 (by omega) GmF.rf hRr.1
end
end
section
/-! the class's governor, told, module, part -/
def ush (x : Int32) (k : Int32) : Int32 := ((x : Int32).toUInt32 >>> ((k : Int32).toUInt32 &&& Int32.toUInt32 31)).toInt32
def bc1 (x : Int32) : Int32 := x - (ush x 1 &&& 1431655765)
def bc2 (x : Int32) : Int32 := (bc1 x &&& 858993459) + (ush (bc1 x) 2 &&& 858993459)
def bc3 (x : Int32) : Int32 := (bc2 x + ush (bc2 x) 4) &&& 252645135
def bc4 (x : Int32) : Int32 := bc3 x + ush (bc3 x) 8
def bcV (x : Int32) : Int32 := (bc4 x + ush (bc4 x) 16) &&& 63
/-- what module() tells -/
def mcX (τ : Td) (σ : PS) (w : Int32) : Int32 := if w = 0 then Int32.ofNat τ.1.length else if w = 1 then Int32.ofNat (inL τ.2.1).length else if w = 2 then bcV (omk τ.2.1) else if w = 3 then Int32.ofNat τ.2.2.2.1.length else if w = 4 then Int32.ofNat (npS σ) else if w = 5 then Int32.ofNat (trS σ).2.1 else if w = 6 then Int32.ofNat (ifS σ).length else if w = 7 then Int32.ofNat (σ.1.1 3) else -1
section
variable {ow : Nat → Nat} {ga : Nat → Td × PS} {gm : Nat → Nat} {M M' : Mem} {ms gs : List Nat} {mb gb h n0 : Nat} {Q : Option Value → Mem → Prop} {x y z w : Int32} {τ : Td} {σ : PS}
theorem S_bitC (K : Q (some (.int (bcV x))) M) : E (h + 1) mdJ6_bitCount_0f7a4 [.int x] M Q := by
  refine KJ6_bitCount_0f7a4 ?_
  unfold DJ6_bitCount_0f7a4_0
  unfold bcV bc4 bc3 bc2 bc1 ush at K
  exact K
theorem CmX.f6 (hX : CmX ow M n0 τ σ) : (mI M n0 9 = Int32.ofNat τ.1.length ∧ mI M n0 10 = Int32.ofNat (inL τ.2.1).length ∧ mI M n0 11 = omk τ.2.1 ∧ mI M n0 12 = Int32.ofNat τ.2.2.2.1.length ∧ mI M n0 13 = Int32.ofNat (trS σ).2.1 ∧ mI M n0 14 = Int32.ofNat (ifS σ).length ∧ mI M n0 15 = Int32.ofNat (σ.1.1 3)) ∧ (∃ be, mR M n0 5 = some be ∧ ok M be 21 ∧ mL M be = 6 ∧ ∀ k, k < τ.2.2.2.1.length → InG (mAI M be k).toInt64) ∧ ∃ pb ps, mR M n0 6 = some (n0 + 7) ∧ ALp M (n0 + 7) pb 5 ps ∧ ps.length = npS σ ∧ npS σ ≤ 40 ∧ ∀ j, j < ps.length → mI M (ps.getD j 0) 0 = σ.2.1.1 j 0 := by
  obtain ⟨m, root, γ, g0, gw, Z0, P, zp, Ψ1, Ψ2, R, zn, fn, y0, q0, hl, lc, rc, cc, pb, ib, b1, b2, ya, na, pz, n1, ps, hp, hM, hz, -⟩ := hX
  obtain ⟨hP, ⟨p1, p2, p3, p4⟩, hpt, -, -, -, -, -, ⟨g1, g2, g3, g4, g5, g6, g7, g8, g9, g10, -, -⟩⟩ := hM
  exact ⟨⟨g1, hP.1.2.2.2.2, g2, g3, g4, g5, g6⟩, ⟨n0 + 6, g7, g8, g9, fun k hk => by rw [g10 k hk]; exact hp.2.2.2.2.2.2.2.2.inG k⟩, pb, ps, p1, p2, p3, p4, fun j hj => (hpt j hj).2⟩
theorem G_told (hC : CvS ow ga gm M ms gs mb gb) (K : ∀ r : Int32, Q (some (.int r)) M) : E (h + 5) mdX10_told [.ref 0, .int x, .int y] M Q := by
  refine KX10_told (h := h + 4) ?_
  unfold DX10_told_0
  refine ⟨ok0 hC.1, S_govAt (h := h) hC (fun _ _ => ⟨none, rfl, fun _ => K _, fun b e => absurd e (by simp)⟩) (fun i hi _ _ => ⟨some _, rfl, fun e => absurd e (by simp), fun b e => ?_⟩)⟩
  cases e
  obtain ⟨j, nw, nx, kp, gn, wr, ks, hj, -, -, hv, hr, -, -, hm⟩ := hC.gv hi
  have o := hv.1.1
  have vv : ∀ k, k < 26 → vp_in (Int32.ofNat k) (mL M nw) := fun k hk => by rw [hv.2.1.1.2]; exact vp_of hk (by decide)
  exact ⟨fun _ => ⟨o, nw, hv.1.2.2.1, hv.2.1.1.1, vv 2 (by decide), K _⟩, fun _ => ⟨o, nw, hv.1.2.2.1, hv.2.1.1.1, vv 0 (by decide), S_bitC (h := h + 3) (fun _ => ⟨_, rfl, K _⟩)⟩, fun _ => ⟨o, nw, hv.1.2.2.1, hv.2.1.1.1, vv 3 (by decide), K _⟩, fun _ => ⟨o, K _⟩, fun _ => ⟨o, K _⟩, fun _ => ⟨o, K _⟩, fun _ => ⟨o, K _⟩, fun _ => ⟨o, K _⟩, fun _ => K _⟩
theorem G_module (hC : CvS ow ga gm M ms gs mb gb) (K0 : (∀ i, i < ms.length → x ≠ Int32.ofNat i) → Q (some (.int (-1))) M) (K : ∀ i, i < ms.length → x = Int32.ofNat i → Q (some (.int (mcX (ga (ms.getD i 0)).1 (ga (ms.getD i 0)).2 w))) M) : E (h + 5) mdX10_module [.ref 0, .int x, .int w] M Q := by
  refine KX10_module (h := h + 4) ?_
  unfold DX10_module_0
  refine ⟨ok0 hC.1, S_modAt (h := h) hC (fun ne _ => ⟨none, rfl, fun _ => K0 ne, fun b e => absurd e (by simp)⟩) (fun i hi ex _ => ⟨some _, rfl, fun e => absurd e (by simp), fun b e => ?_⟩)⟩
  cases e
  have hm := (hC.2.2.2.2.2.2.2.1 i hi).2
  have o := hm.on
  obtain ⟨⟨g9, g10, g11, g12, g13, g14, g15⟩, -, pb, ps, p1, p2, p3, p4, -⟩ := hm.f6
  have KK : ∀ v, mcX (ga (ms.getD i 0)).1 (ga (ms.getD i 0)).2 w = v → Q (some (.int v)) M := fun v e2 => by rw [← e2]; exact K i hi ex
  have out : ((w : Int32).toInt < 0 ∨ 7 < (w : Int32).toInt) → mcX (ga (ms.getD i 0)).1 (ga (ms.getD i 0)).2 w = -1 := fun hw => by
    unfold mcX
    have ne : ∀ k : Int32, 0 ≤ k.toInt → k.toInt ≤ 7 → w ≠ k := fun k k1 k2 z => by rw [z] at hw; omega
    rw [if_neg (ne 0 (by decide) (by decide)), if_neg (ne 1 (by decide) (by decide)), if_neg (ne 2 (by decide) (by decide)), if_neg (ne 3 (by decide) (by decide)), if_neg (ne 4 (by decide) (by decide)), if_neg (ne 5 (by decide) (by decide)), if_neg (ne 6 (by decide) (by decide)), if_neg (ne 7 (by decide) (by decide))]
  refine ⟨fun z => ⟨o, KK _ (by rw [z, g9]; rfl)⟩, fun z => ⟨o, KK _ (by rw [z, g10]; rfl)⟩, fun z => ⟨o, S_bitC (h := h + 3) (fun _ => ⟨_, rfl, KK _ (by rw [z, g11]; rfl)⟩)⟩, fun z => ⟨o, KK _ (by rw [z, g12]; rfl)⟩, fun z => ⟨o, _, p1, p2.1, S_alSize (h := h + 3) p2 (fun _ => ⟨_, rfl, KK _ (by rw [z, p3]; rfl)⟩)⟩, fun z => ⟨o, KK _ (by rw [z, g13]; rfl)⟩, fun z => ⟨o, KK _ (by rw [z, g14]; rfl)⟩, fun z => ⟨o, KK _ (by rw [z, g15]; rfl)⟩, fun z => KK _ (out z)⟩
theorem G_part (hC : CvS ow ga gm M ms gs mb gb) (K0 : (∀ i j, i < ms.length → x = Int32.ofNat i → j < npS (ga (ms.getD i 0)).2 → y ≠ Int32.ofNat j) → Q (some (.int (-1))) M) (K : ∀ i j, i < ms.length → x = Int32.ofNat i → j < npS (ga (ms.getD i 0)).2 → y = Int32.ofNat j → Q (some (.int ((ga (ms.getD i 0)).2.2.1.1 j 0))) M) : E (h + 5) mdX10_part [.ref 0, .int x, .int y] M Q := by
  refine KX10_part (h := h + 4) ?_
  unfold DX10_part_0 DX10_part_18
  have m4 := hC.2.1.2
  refine ⟨ok0 hC.1, S_modAt (h := h) hC (fun ne _ => ⟨none, rfl, fun _ => K0 (fun i j hi e => absurd e (ne i hi)), fun b e => absurd e (by simp)⟩) (fun i hi ex _ => ⟨some _, rfl, fun e => absurd e (by simp), fun b e => ?_⟩)⟩
  cases e
  have hm := (hC.2.2.2.2.2.2.2.1 i hi).2
  have o := hm.on
  obtain ⟨-, -, pb, ps, p1, p2, p3, p4, p5⟩ := hm.f6
  refine ⟨o, S_hasPt (h := h + 2) o p1 p2 (by omega) (fun q hq eq _ => ⟨1, rfl, fun _ => ⟨_, p1, p2.1, ?_⟩, fun z => absurd z (by decide)⟩) (fun ne _ => ⟨0, rfl, fun z => absurd rfl z, fun _ => K0 (fun i2 j hi2 e2 hj e3 => ?_)⟩)⟩
  · rw [eq]
    refine S_get (h := h + 1) p2 hq (fun _ => ⟨_, rfl, ?_, ?_⟩)
    · have := p2.2.2.2.1 (ps.getD q 0) (by rw [List.getD_eq_getElem?_getD, List.getElem?_eq_getElem hq]; exact List.getElem_mem hq)
      rcases this with y | y
      · exact y
      · exact absurd y.1 (by decide)
    · rw [p5 q hq]
      exact K i q hi ex (by omega) eq
  · have : i2 = i := by
      rw [e2] at ex
      exact inj32 (by omega) (by omega) ex
    subst this
    exact ne j (by omega) e3
theorem tRS_l3 : ∀ e ∈ tR ++ tS, e.1 = 2 ∨ e.1 = 3 → e.2.1 ≠ 1 := by decide +kernel
theorem getD_gl {l : List Nat} {v i : Nat} (h : i < l.length) : (l ++ [v]).getD i 0 = l.getD i 0 := by rw [List.getD_eq_getElem?_getD, List.getD_eq_getElem?_getD, List.getElem?_append_left h]
theorem getD_gr {l : List Nat} {v : Nat} : (l ++ [v]).getD l.length 0 = v := by rw [List.getD_eq_getElem?_getD, List.getElem?_append_right (Nat.le_refl _), Nat.sub_self]; rfl
/-- what a new governor leaves -/
def GnP (ow ow' : Nat → Nat) (gm gm' : Nat → Nat) (ms gs : List Nat) (c g : Nat) (M M' : Mem) : Prop := (∀ a, a < mN M → ow' a = ow a) ∧ (∀ q, q < gs.length → gm' (gs.getD q 0) = gm (gs.getD q 0)) ∧ gm' g = c ∧ fr (fun a => a = 3 ∨ 132 ≤ a) M M' ∧ (mN M' ≤ mN M + 10 ∧ mS M' ≤ mS M + 300) ∧ (∀ j, j < ms.length → lnS M' (ms.getD j 0) = lnS M (ms.getD j 0) ∧ lnN M' (ms.getD j 0) = lnN M (ms.getD j 0) ∧ mR M' (ms.getD j 0) 17 = mR M (ms.getD j 0) 17) ∧ mI M' g 5 = 0 ∧ ∀ q, q < gs.length → mI M' (gs.getD q 0) 5 = mI M (gs.getD q 0) 5
theorem G_governor (hC : CvS ow ga gm M ms gs mb gb) (hb : mN M + 20 < mBig) (K0 : (∀ i, i < ms.length → x ≠ Int32.ofNat i) → Q (some (.int (-1))) M) (K8 : ∀ i, i < ms.length → x = Int32.ofNat i → gs.length = 8 → Q (some (.int (-3))) M) (K : ∀ i g M' ow' gm' gb', i < ms.length → x = Int32.ofNat i → gs.length < 8 → CvS ow' ga gm' M' ms (gs ++ [g]) mb gb' → GnP ow ow' gm gm' ms gs (ms.getD i 0) g M M' → Q (some (.int (Int32.ofNat gs.length))) M') : E (h + 7) mdX10_governor [.ref 0, .int x] M Q := by
  have g8 := hC.2.2.1.2
  have F := hC.1
  refine KX10_governor (h := h + 6) ?_
  unfold DX10_governor_0
  refine ⟨ok0 F, S_modAt (h := h + 2) hC (fun ne _ => ⟨none, rfl, fun _ => K0 ne, fun b e => absurd e (by simp)⟩) (fun i hi ex _ => ⟨some _, rfl, fun e => absurd e (by simp), fun b e => ?_⟩)⟩
  cases e
  have hA3 := hC.2.2.1.1
  refine ⟨3, rf0_3 F, hA3.1, S_alSize (h := h + 5) hA3 (fun _ => ⟨_, rfl, fun z8 => ⟨3, rf0_3 F, fun q11 M10 eq11 e10 => ?_⟩, fun z8 => K8 i hi ex ?_⟩)⟩
  rotate_left
  · rcases Nat.lt_or_ge gs.length 8 with y | y
    · exact absurd ((ltn32 (a := gs.length) (b := 8) (by omega) (by decide)).mpr y) z8
    · omega
  have lt8 : gs.length < 8 := (ltn32 (a := gs.length) (b := 8) (by omega) (by decide)).mp z8
  have hm := (hC.2.2.2.2.2.2.2.1 i hi).2
  obtain ⟨⟨-, -, -, g12, -⟩, ⟨be, be1, be2, be3, be4⟩, pb, ps, p1, p2, p3, p4, -⟩ := hm.f6
  obtain ⟨I, pb', ps', -, -, ⟨-, hV⟩, -⟩ := hm.fl
  have f10 : fr (fun _ => False) M M10 := by rw [e10]; exact fr_nwO
  have r10 : ∀ {a q : Nat}, ok M a q → sameRow M M10 a := fun o => f10.2 _ o.1 (fun z => z)
  have og : ok M10 q11 4 := by rw [eq11, e10]; exact ⟨Nat.lt_succ_self _, va_up_self _ _ _⟩
  have n10 : mN M10 = mN M + 1 := by rw [e10]; rfl
  have s10 : mS M10 = mS M + 14 := by rw [e10]; rfl
  have z5 : mI M10 q11 5 = 0 := by rw [eq11, e10]; exact congrFun (va_up_self _ _ _) 5
  have rc := r10 hm.on
  generalize hc : ms.getD i 0 = c at hm g12 be1 p1 p2 rc be4 hV p3 p4
  refine S_gini (h := h + 4) (nP := npS (ga c).2) og (ok_E hm.on f10.1) z5 (by rw [rc.2.2.1]; exact p1) (alp_fr3 p2 f10 (fun z => z) (fun _ z => z)) p3 p4 (by rw [rc.1]; exact g12) hV (by rw [rc.2.2.1]; exact be1) (ok_E be2 f10.1) (by rw [(f10.1.2.2 _ be2.1).2]; exact be3) (fun k hk => by rw [(r10 be2).2.2.2.1]; exact be4 k hk) (fun M12 nw nx kp gn wr ks f12 hv hr hlo ⟨n12, s12⟩ k12 _ => ⟨rfl, ?_⟩)
  have f012 : fr (fun _ => False) M M12 := (f10.more (fun a _ z => z)).tr f12 (fun a ha z => by omega)
  have A12 : ALp M12 3 gb 4 gs := alp_fr3 hA3 f012 (fun z => z) (fun _ z => z)
  have og12 := hv.1.1
  refine ⟨A12.1, S_add (h := h) A12 (by omega) (Or.inr (Or.inr (Or.inl rfl))) (Or.inl og12) (fun M14 gb' A14 F14 _ => ⟨_, rfl, 3, ?_, A14.1, S_alSize (h := h + 5) A14 (fun _ => ⟨_, rfl, ?_⟩)⟩)⟩
  · have F12 : Fix M12 := F.of_fr (S := fun _ => False) f012.1 (fun e he => by rw [(f012.2 e.1 (by have := tRS_lt e he; have := F.1; omega) (fun z => z)).2.2.1]) (f012.2 19 (by have := F.1; omega) (fun z => z)).2.2.2.2.1
    rw [(F14.1.2 0 (by have := F12.1; omega) (by
      rintro (y | ⟨-, y⟩)
      · exact absurd y (by decide)
      · rw [(ok0 F12).2] at y; exact absurd y (by decide))).2.2.1]
    exact rf0_3 F12
  · have e2 : Int32.ofNat (gs ++ [q11]).length - 1 = Int32.ofNat gs.length := by
      rw [List.length_append]
      show Int32.ofNat (gs.length + 1) - 1 = _
      rw [← succ32, Int32.add_sub_cancel]
    rw [e2]
    have qN : q11 = mN M := eq11
    have nM12 : mN M12 = mN M + 9 := by omega
    obtain ⟨-, ⟨A2, m4⟩, -, ⟨c1, c2⟩, d0, i1, i2, hms, hgs⟩ := id hC
    -- the frame
    have f14 : fr (fun a => a = 3 ∨ (a = gb ∧ mK M a = 24)) M M14 := (f012.more (fun a _ z => z.elim)).tr F14.1 (fun a ha z => z.imp id (fun y => ⟨y.1, by rw [← (f012.1.2.2 a ha).1]; exact y.2⟩))
    have own3 : ∀ a, (a = 3 ∨ (a = gb ∧ mK M a = 24)) → a < mN M → ow a < 132 ∧ mK M a ≠ 0 := fun a z ha => by
      rcases z with z | ⟨z, zk⟩
      · rw [z]; exact ⟨by rw [d0 3 (by decide)]; decide, by rw [(ok3 F).2]; decide⟩
      · refine ⟨?_, by rw [zk]; decide⟩
        rw [z] at ha ⊢
        rcases c2 with y | y
        · omega
        · rw [y.2.2]; decide
    obtain ⟨ow', how'⟩ : ∃ ow' : Nat → Nat, ow' = fun a => if a < mN M then ow a else if a = mN M12 then 3 else q11 := ⟨_, rfl⟩
    have hag : ∀ a, a < mN M → ow' a = ow a := fun a ha => by rw [how']; exact if_pos ha
    have hn1 : ow' (mN M12) = 3 := by rw [how']; show (if mN M12 < mN M then _ else if mN M12 = mN M12 then 3 else q11) = 3; rw [if_neg (by omega), if_pos rfl]
    have hn2 : ∀ a, mN M ≤ a → a < mN M12 → ow' a = q11 := fun a h1 h2 => by rw [how']; show (if a < mN M then _ else if a = mN M12 then 3 else q11) = q11; rw [if_neg (by omega), if_neg (by omega)]
    obtain ⟨gm', hgm'⟩ : ∃ gm' : Nat → Nat, gm' = fun a => if a = q11 then c else gm a := ⟨_, rfl⟩
    have gmq : gm' q11 = c := by rw [hgm']; exact if_pos rfl
    have gmo : ∀ a, a ≠ q11 → gm' a = gm a := fun a ha => by rw [hgm']; exact if_neg ha
    clear how' hgm'
    have golt : ∀ q, q < gs.length → gs.getD q 0 < mN M := fun q hq => by
      obtain ⟨_, _, _, _, _, _, _, _, _, _, hvq, _⟩ := hC.gv hq
      exact hvq.1.1.1
    have okg : ∀ q, q < gs.length → ok M (gs.getD q 0) 4 := fun q hq => by
      obtain ⟨_, _, _, _, _, _, _, _, _, _, hvq, _⟩ := hC.gv hq
      exact hvq.1.1
    have fS : fr (fun a => (a = 3 ∨ (a = gb ∧ mK M a = 24)) ∧ a < mN M) M M14 := ⟨f14.1, fun a ha hn => f14.2 a ha (fun z => hn ⟨z, ha⟩)⟩
    have nS : ∀ {v : Nat}, 132 ≤ v → ∀ a, ((a = 3 ∨ (a = gb ∧ mK M a = 24)) ∧ a < mN M) → ow a ≠ v := fun {v} hv2 a z e => by have := (own3 a z.1 z.2).1; omega
    have nS' : ∀ {v : Nat}, 132 ≤ v → ∀ a, ((a = 3 ∨ (a = gb ∧ mK M a = 24)) ∧ a < mN M) → ow' a ≠ v := fun {v} hv2 a z => by rw [hag a z.2]; exact nS hv2 a z
    have k0 : ∀ a, ((a = 3 ∨ (a = gb ∧ mK M a = 24)) ∧ a < mN M) → mK M a ≠ 0 := fun a z => (own3 a z.1 z.2).2
    have F14' : Fix M14 := by
      refine F.of_fr (S := fun _ => False) f14.1 (fun e he => ?_) ?_
      · by_cases y : e.1 = 3
        · rw [y, F14.2.2.2.1 e.2.1 (tRS_l3 e he (Or.inr y)), (f012.2 3 (by have := F.1; omega) (fun z => z)).2.2.1]
        · have lt := tRS_lt e he
          rw [(f14.2 e.1 (by have := F.1; omega) (fun z => z.elim y (fun w2 => by
            rcases c2 with q | q
            · have := w2.1; have := F.1; omega
            · have := w2.1; omega))).2.2.1]
      · exact (f14.2 19 (by have := F.1; omega) (fun z => z.elim (fun y => absurd y (by decide)) (fun w2 => by
          rcases c2 with q | q
          · have := w2.1; have := F.1; omega
          · have := w2.1; omega))).2.2.2.2.1
    have gbx : gb' = mBig + 5 ∨ (132 ≤ gb' ∧ gb' < mN M14 ∧ ow' gb' = 3) := by
      have lt : gb' = mBig + 5 ∨ gb' < mN M14 := by
        rcases A14.2.2.2.2.2 with ⟨e, -⟩ | ⟨o, -⟩
        · exact Or.inl e
        · exact Or.inr o.1
      rcases lt with y | y
      · exact Or.inl y
      · rcases F14.2.2.2.2.1 with e | e
        · rw [e]
          rcases c2 with q | q
          · exact Or.inl q
          · exact Or.inr ⟨q.1, by have := f14.1.1; omega, by rw [hag _ q.2.1]; exact q.2.2⟩
        · rw [e]
          exact Or.inr ⟨by have := F.1; omega, by rw [← e]; exact y, hn1⟩
    have oC : ∀ {a : Nat}, ok M12 a 21 ∨ ok M12 a 25 ∨ ok M12 a 4 → ¬ (a = 3 ∨ (a = gb ∧ mK M12 a = 24)) := fun {a} o z => by
      rcases z with z | ⟨-, zk⟩
      · have k3 : mK M12 3 = 1 := (ok_E (ok3 F) f012.1).2
        rw [z] at o
        rcases o with o | o | o <;> exact absurd (o.2.symm.trans k3) (by decide)
      · rcases o with o | o | o <;> exact absurd (o.2.symm.trans zk) (by decide)
    have okr : ∀ r, grR nw nx wr gn ks r ∨ r = kp → ok M12 r 21 ∨ ok M12 r 25 ∨ ok M12 r 4 := fun r hr2 => by
      rcases hr2 with (y | y | y | y | ⟨q, hq, y⟩) | y <;> rw [y]
      · exact Or.inl hv.2.1.1.1
      · exact Or.inl hv.2.1.2.1.1
      · exact Or.inl hv.2.1.2.2.2.1
      · exact Or.inl hv.2.1.2.2.1.1
      · exact Or.inl (hv.2.2.1.2.2 q hq).2.1
      · exact Or.inr (Or.inl hv.2.2.1.1)
    obtain ⟨hv14, hr14⟩ := gv_fr hv hr F14.1 (oC (Or.inr (Or.inr og12))) (fun r hr2 => oC (okr r hr2))
    have new : GoX ow' M14 q11 c (npS (ga c).2) := by
      refine ⟨nw, nx, kp, gn, wr, ks, hv14, hr14, hn2 _ (by omega) (by omega), fun r hr2 => hn2 r (by have := hlo r hr2; omega) ?_⟩
      rcases okr r hr2 with o | o | o <;> exact o.1
    refine K i q11 M14 ow' gm' gb' hi ex lt8 ⟨F14', ⟨alp_fr3 A2 f14 (fun z => ?_) (fun o z => ?_), m4⟩, ⟨A14, by rw [List.length_append]; exact lt8⟩, ⟨c1.imp id (fun y => ⟨y.1, Nat.lt_of_lt_of_le y.2.1 f14.1.1, by rw [hag _ y.2.1]; exact y.2.2⟩), gbx⟩, fun a ha => by rw [hag a (by have := F.1; omega)]; exact d0 a ha, i1, fun p q hp hq e => ?_, fun q hq => ⟨(hms q hq).1, ((hms q hq).2.own hag).out (by omega) fS (nS' (hms q hq).1) k0⟩, fun q hq => ?_⟩ ⟨hag, fun q hq => gmo _ (fun e => by have := golt q hq; omega), by rw [gmq, hc], f14.more (fun a ha z => ?_), ⟨by have := F14.2.2.2.2.2.1; omega, by have := F14.2.2.2.2.2.2.1; omega⟩, fun q hq => ?_, ?_, fun q hq => ?_⟩
    · rcases z with z | ⟨z, -⟩
      · exact absurd z (by decide)
      · rcases c2 with y | y
        · rw [← z] at y; exact absurd y (by decide)
        · omega
    · rcases z with z | ⟨z, -⟩
      · rw [z] at o; exact absurd (o.2.symm.trans (ok3 F).2) (by decide)
      · have := o.1
        rcases c1 with y | y
        · omega
        · rcases c2 with y2 | y2
          · omega
          · rw [z] at y; rw [y.2.2] at y2; exact absurd y2.2.2 (by decide)
    · rw [List.length_append] at hp hq
      have hp : p < gs.length + 1 := hp
      have hq : q < gs.length + 1 := hq
      by_cases p1' : p < gs.length
      · rw [getD_gl p1'] at e
        by_cases q1 : q < gs.length
        · rw [getD_gl q1] at e; exact i2 p q p1' q1 e
        · rw [show q = gs.length by omega, getD_gr] at e
          have := golt p p1'
          omega
      · rw [show p = gs.length by omega, getD_gr] at e
        by_cases q1 : q < gs.length
        · rw [getD_gl q1] at e
          have := golt q q1
          omega
        · omega
    · rw [List.length_append] at hq
      have hq : q < gs.length + 1 := hq
      by_cases q1 : q < gs.length
      · rw [getD_gl q1]
        obtain ⟨h1, j, h2, h3, h4⟩ := hgs q q1
        exact ⟨h1, j, h2, by rw [gmo _ (fun e => by have := golt q q1; omega)]; exact h3, (h4.own hag).out fS (nS' h1)⟩
      · rw [show q = gs.length by omega, getD_gr]
        refine ⟨by have := F.1; omega, i, hi, by rw [gmq, hc], ?_⟩
        rw [hc]
        exact new
    · rcases z with z | ⟨z, -⟩
      · exact Or.inl z
      · rcases c2 with y | y
        · omega
        · exact Or.inr (by omega)
    · obtain ⟨a1, a2, a3⟩ := ln_fr (hms q hq).2 fS (nS (hms q hq).1)
      exact ⟨a1, a2, by rw [a3]⟩
    · rw [(F14.1.2 q11 og12.1 (oC (Or.inr (Or.inr og12)))).1]; exact k12
    · have o := okg q hq
      rw [(f14.2 _ o.1 (fun z => z.elim (fun y => by rw [y] at o; exact absurd (o.2.symm.trans (ok3 F).2) (by decide)) (fun y => by rw [o.2] at y; exact absurd y.2 (by decide)))).1]
end
end
section
/-! a module of the reference once it is compiled -/
def RoO (τ : Td) : Prop := ∀ k, k < τ.2.1.length → τ.2.1.getD k 0 = 30 ∨ τ.2.1.getD k 0 = 31 ∨ τ.2.1.getD k 0 = 32
theorem ro_app {l : List Int32} {x : Int32} (h : ∀ k, k < l.length → l.getD k 0 = 30 ∨ l.getD k 0 = 31 ∨ l.getD k 0 = 32) (hx : x = 30 ∨ x = 31 ∨ x = 32) : ∀ k, k < (l ++ [x]).length → (l ++ [x]).getD k 0 = 30 ∨ (l ++ [x]).getD k 0 = 31 ∨ (l ++ [x]).getD k 0 = 32 := by
  intro k hk
  rw [List.length_append] at hk
  have hk : k < l.length + 1 := hk
  by_cases q : k < l.length
  · rw [show (l ++ [x]).getD k 0 = l.getD k 0 from by rw [List.getD_eq_getElem?_getD, List.getD_eq_getElem?_getD, List.getElem?_append_left q]]
    exact h k q
  · rw [show (l ++ [x]).getD k 0 = x from by rw [show k = l.length by omega, List.getD_eq_getElem?_getD, List.getElem?_append_right (Nat.le_refl _), Nat.sub_self]; rfl]
    exact hx
theorem td_ro {b : Nat → Int32} {n : Nat} : ∀ (g i : Nat) (τ : Td) (r : Nat × Td), RoO τ → td b n g i τ = .ok r → RoO r.2 := by
  intro g
  induction g with
  | zero => intro i τ r _ h; unfold td at h; cases h
  | succ g ih =>
    intro i τ r hM h
    unfold td at h
    by_cases k1 : tK b n i = 36
    · rw [if_pos k1] at h
      obtain ⟨j, -, h⟩ := bind_ok h
      obtain ⟨k, -, h⟩ := bind_ok h
      obtain ⟨q, hq, h⟩ := bind_ok h
      obtain ⟨l, -, h⟩ := bind_ok h
      refine ih _ _ _ ?_ h
      exact fun k hk => hM k hk
    rw [if_neg k1] at h
    by_cases k2 : tK b n i = 30 ∨ tK b n i = 31 ∨ tK b n i = 32
    · rw [if_pos k2] at h
      obtain ⟨j, -, h⟩ := bind_ok h
      obtain ⟨k, -, h⟩ := bind_ok h
      obtain ⟨q, -, h⟩ := bind_ok h
      obtain ⟨l, -, h⟩ := bind_ok h
      refine ih _ _ _ ?_ h
      exact ro_app (l := τ.2.1) hM k2
    · rw [if_neg k2] at h
      cases h
      exact hM
theorem rdm_ro {b : Nat → Int32} {n m : Nat} {A : Nat → Nat → Int32} {B : Nat → Int64} {Zt : Nat → Nat → Int32} {r : Nat × Td × PS × Nat} (e : rdM b n m A B Zt = .ok r) : RoO r.2.1 := by
  unfold rdM at e
  by_cases k0 : tK b n 0 = 0
  · rw [if_pos k0] at e; cases e
  · rw [if_neg k0] at e
    obtain ⟨q, hq, e⟩ := bind_ok e
    obtain ⟨w, -, e⟩ := bind_ok e
    cases e
    exact td_ro 900 0 td0 q (fun k hk => absurd hk (Nat.not_lt_zero _)) hq
theorem inL_nd (ro : List Int32) : (inL ro).Nodup := List.Pairwise.filter _ List.nodup_range
theorem nd_getD {l : List Nat} (h : l.Nodup) {i j : Nat} (hi : i < l.length) (hj : j < l.length) (e : l.getD i 0 = l.getD j 0) : i = j := by
  rw [List.getD_eq_getElem?_getD, List.getD_eq_getElem?_getD, List.getElem?_eq_getElem hi, List.getElem?_eq_getElem hj] at e
  exact (List.getElem_inj h).mp e
theorem mem_getD {l : List Nat} {v : Nat} (h : v ∈ l) : ∃ i, i < l.length ∧ l.getD i 0 = v := by
  obtain ⟨i, hi, e⟩ := List.getElem_of_mem h
  exact ⟨i, hi, by rw [List.getD_eq_getElem?_getD, List.getElem?_eq_getElem hi]; exact e⟩
section
variable {b : Nat → Int32} {n s m i root g0 km g y : Nat} {τ : Td} {σ : PS} {γ : Gh} {M1 M2 M3 : Mem} {pn : Nat → Int32} {S : RBs} {G : Nat → List Nat} {mk nu co : Nat → Int32} {sl : List Nat} {v : Int32}
theorem rb_mk (hz : ∀ i, n ≤ i → b i = 0) (hR : RPs b n s m τ [] σ M1 i 0) (hT : RTq m τ M1) (hb : BuW τ m σ root γ pn S G mk nu co sl km g y M2) (k : RGd m M1 M2) (hE : RdE τ m σ root γ g0) (hX : RdX τ σ root γ) (hK : TkI τ m σ) (hro : RoO τ) (e3 : M3 = wI M2 29 18 v) : RbM (mkR τ m σ S G mk nu km) sl (inL τ.2.1) σ.2.2.1 (npS σ) M3 := by
  have a3 : mAI M3 = mAI M2 := by rw [e3]; rfl
  have j3 : mAJ M3 = mAJ M2 := by rw [e3]; rfl
  obtain ⟨kN, kS, kK, kL, kR, kAR, kJ, kI, kf, kc, kj, kz⟩ := id k
  have c12 : ∀ c, c < 79 → mAI M2 c = mAI M1 c := fun c hc => kc c (by simp only [csC, List.mem_cons, List.not_mem_nil, or_false]; omega)
  have j12 : ∀ c, mAJ M2 c = mAJ M1 c := fun c => kj c (by simp)
  obtain ⟨⟨⟨F2, m4, -, b79, b80, b58, b90⟩, ⟨b94, b93⟩, b92⟩, hG, ⟨⟨hy1, hy2⟩, e91⟩, -, ⟨-, -, hkm⟩, hPd, -⟩ := id hb
  obtain ⟨hCo, ⟨n8, s8, i8⟩, -, -, -, ⟨hXR, hYR, -, -, ⟨q54, q55, q56, q57⟩, -⟩, ⟨x8, y8, -⟩⟩ := hR
  obtain ⟨-, -, -, -, ⟨S16, Sro, -, V6⟩, E34, E36, -, E38, -⟩ := hCo
  obtain ⟨⟨t35, t4, t41⟩, -⟩ := hT
  have b8 : bt b n i ≤ n + 1 := bt_le hz
  obtain ⟨nl1, nl2⟩ := hb.nl hE hX.2.2.2.2.2.2
  have w80 : ∀ c, 80 ≤ c → c ≤ 86 → (wS S mk nu co).2 c = S.2 c := fun c h1 h2 => by
    show (if c = 87 then mk else if c = 88 then nu else if c = 89 then co else S.2 c) = S.2 c
    rw [if_neg (by omega), if_neg (by omega), if_neg (by omega)]
  have A58 : ∀ c, 58 ≤ c → c ≤ 71 → mAI M3 c = σ.1.2.1 c := fun c h1 h2 => by rw [a3]; exact b58 c h1 (by omega) (by omega)
  have np40 : npS σ ≤ 40 := hE.2.2.2.1.2.2.1
  refine ⟨⟨⟨m4, hG, S16, hkm.1, hkm.2, by show σ.2.2.2.length ≤ 410; omega⟩, fun c y h1 h2 _ => by rw [a3, b80 c h1 (by omega), w80 c h1 h2]; rfl, fun y _ => ⟨by rw [a3, b80 87 (by decide) (by decide)]; rfl, by rw [a3, b80 88 (by decide) (by decide)]; rfl⟩, fun c p h1 h2 _ _ => by rw [A58 c h1 h2]; rfl, ?_, ⟨by rw [a3]; exact b79, by rw [a3]; exact b92, by rw [a3]; exact b94, by rw [a3]; exact b93, ?_, ?_⟩⟩, ⟨nl1, nl2, ?_, hb.st⟩, ⟨⟨?_, t4⟩, ?_, fun j k hj hk e => nd_getD (inL_nd _) hj hk e, fun j hj => ?_, fun q hq hq0 => ?_⟩, ⟨m4, ⟨?_, by omega⟩, ⟨?_, np40⟩, fun j hj => ?_⟩, fun j hj => ?_, ?_⟩
  · rw [a3, c12 45 (by decide), c12 46 (by decide), c12 47 (by decide)]
    exact hYR.2.1
  · rw [a3, c12 34 (by decide)]; exact E34
  · rw [a3, c12 38 (by decide)]; exact E38
  · intro q hq
    have hq : q < τ.1.length := hq
    rcases hro q (by omega) with e | e | e
    · exact ⟨0, by decide, by show τ.2.1.getD q 0 - 30 = _; rw [e]; decide⟩
    · exact ⟨1, by decide, by show τ.2.1.getD q 0 - 30 = _; rw [e]; decide⟩
    · exact ⟨2, by decide, by show τ.2.1.getD q 0 - 30 = _; rw [e]; decide⟩
  · rw [a3, c12 35 (by decide)]; exact t35
  · rw [a3, c12 41 (by decide)]; exact t41
  · obtain ⟨h1, h2⟩ := inL_at hj
    exact ⟨by show _ < τ.1.length; omega, s30.mpr h2⟩
  · have hq : q < τ.1.length := hq
    have q30 : τ.2.1.getD q 0 = 30 := s30.mp hq0
    exact mem_getD (List.mem_filter.mpr ⟨List.mem_range.mpr (by omega), decide_eq_true q30⟩)
  · obtain ⟨x1, x2⟩ := hXR
    refine ⟨by rw [a3]; show mAI M2 48 m = _; rw [c12 48 (by decide)]; exact x1, fun q hq => ?_⟩
    rw [a3, j3, c12 49 (by decide), c12 51 (by decide), j12 50]
    exact x2 q hq
  · rw [a3]; show mAI M2 54 m = _; rw [c12 54 (by decide)]; exact q54
  · have tk := hK.1 j hj
    have suf : ∀ {c1 c2 fo : Nat}, 58 ≤ c1 → c1 ≤ 71 → 58 ≤ c2 → c2 ≤ 71 → SuA m σ.1.2.1 σ.2.1.1 σ.2.2.1 (coS σ) j c1 c2 fo → SuR M3 σ.2.2.1 m j c1 c2 := fun {c1 c2 fo} h1 h2 h3 h4 h => by
      obtain ⟨f, c, hf, u1, u2, u3, -⟩ := h
      exact ⟨f, c, hf, by rw [A58 c1 h1 h2]; exact u1, by rw [A58 c2 h3 h4]; exact u2, u3⟩
    show RtP M3 σ.2.2.1 m j
    unfold RtP
    rw [A58 58 (by decide) (by decide), A58 60 (by decide) (by decide), A58 65 (by decide) (by decide)]
    rcases tk with ⟨-, t1, t2, t3⟩ | ⟨-, t1, ⟨s', u1, -, u2, -⟩, t3⟩ | ⟨-, t1, ⟨v', u1, u2, -⟩, t3⟩ | ⟨-, t1, -, t3, t4', -⟩
    · exact ⟨fun z => absurd z t1, fun z z2 => absurd (t3 z) z2, fun z => absurd z t2⟩
    · exact ⟨fun z => absurd (t1.symm.trans z) (by decide), fun _ _ => ⟨suf (by decide) (by decide) (by decide) (by decide) t3, s', by omega, u2⟩, fun z => absurd (t1.symm.trans z) (by decide)⟩
    · exact ⟨fun z => absurd (t1.symm.trans z) (by decide), fun z => absurd (t1.symm.trans z) (by decide), fun _ => ⟨suf (by decide) (by decide) (by decide) (by decide) t3, v', by omega, u2⟩⟩
    · exact ⟨fun _ => ⟨suf (by decide) (by decide) (by decide) (by decide) t3, suf (by decide) (by decide) (by decide) (by decide) t4'⟩, fun z => absurd (t1.symm.trans z) (by decide), fun z => absurd (t1.symm.trans z) (by decide)⟩
  · obtain ⟨e, he, yi, xi, ⟨p1, -⟩, p3, -⟩ := hPd j (Nat.zero_le _) hj
    exact ⟨yi, p3, by rw [a3, b90]; exact p1⟩
  · exact ⟨y, hy1, by rw [a3]; exact e91⟩
end
end
section
/-! the reference as a whole over compile -/
section
variable {m mods govs : Nat} {fs cs js : List Nat} {M M' M2 M3 : Mem} {R : RMo} {sl il : List Nat} {X : List Nd} {np n t : Nat} {f : Nat → Nat}
theorem sz8z {c : Nat} (h1 : 80 ≤ c) (h2 : c ≤ 89) : szA c = 700 := by
  rcases (show c = 80 ∨ c = 81 ∨ c = 82 ∨ c = 83 ∨ c = 84 ∨ c = 85 ∨ c = 86 ∨ c = 87 ∨ c = 88 ∨ c = 89 by omega) with e | e | e | e | e | e | e | e | e | e <;> rw [e] <;> decide
theorem sz58 {c : Nat} (h1 : 58 ≤ c) (h2 : c ≤ 72) : szA c = 40 := by
  rcases (show c = 58 ∨ c = 59 ∨ c = 60 ∨ c = 61 ∨ c = 62 ∨ c = 63 ∨ c = 64 ∨ c = 65 ∨ c = 66 ∨ c = 67 ∨ c = 68 ∨ c = 69 ∨ c = 70 ∨ c = 71 ∨ c = 72 by omega) with e | e | e | e | e | e | e | e | e | e | e | e | e | e | e <;> rw [e] <;> decide
theorem RG.sg (k : RG m fs cs js M M') {c i z q : Nat} (hz : szA c = z) (hi : i < z * (q + 1)) (hq : q < m) : mAI M' c i = mAI M c i ∧ mAJ M' c i = mAJ M c i := by
  refine k.2.2.2.2.2.2.2.2.2.2.2 c i ?_
  rw [hz]
  exact Nat.lt_of_lt_of_le hi (Nat.mul_le_mul_left _ hq)
theorem RbM.rg (hB : RbM R sl il X np M) (k : RG m fs cs js M M') (hm : moM R < m) : RbM R sl il X np M' := by
  obtain ⟨⟨⟨a1, a2, a3, a4, a5, a6⟩, b1, b2, b3, b4, ⟨c1, c2, c3, c4, c5, c6⟩⟩, d, ⟨⟨e1, e1'⟩, e2, e3, e4, e5⟩, ⟨g1, ⟨⟨g2, g3⟩, g4⟩, ⟨g5, g6⟩, g7⟩, h1, h2⟩ := hB
  have s7 : (moS R).1 ≤ 700 := a2.1.2
  have one : ∀ c, szA c = 1 → mAI M' c (moM R) = mAI M c (moM R) := fun c hc => (k.sg hc (by omega) hm).1
  have p40 : ∀ c j, 58 ≤ c → c ≤ 72 → j < 40 → mAI M' c (40 * moM R + j) = mAI M c (40 * moM R + j) := fun c j h1 h2 hj => (k.sg (sz58 h1 h2) (by omega) hm).1
  have su : ∀ {j c1 c2 : Nat}, j < np → 58 ≤ c1 → c1 ≤ 72 → 58 ≤ c2 → c2 ≤ 72 → SuR M X (moM R) j c1 c2 → SuR M' X (moM R) j c1 c2 := fun {j c1 c2} hj q1 q2 q3 q4 hs => by
    obtain ⟨f, c, u1, u2, u3, u4⟩ := hs
    exact ⟨f, c, u1, by rw [p40 c1 j q1 q2 (by omega)]; exact u2, by rw [p40 c2 j q3 q4 (by omega)]; exact u3, u4⟩
  refine ⟨⟨⟨a1, a2, a3, a4, a5, a6⟩, fun c y q1 q2 hy => ?_, fun y hy => ?_, fun c p q1 q2 q3 q4 => ?_, fun q hq => ?_, ⟨by rw [one 79 (by decide)]; exact c1, by rw [one 92 (by decide)]; exact c2, by rw [one 94 (by decide)]; exact c3, fun q hq => ?_, by rw [one 34 (by decide)]; exact c5, fun q hq => ?_⟩⟩, d, ⟨⟨by rw [one 35 (by decide)]; exact e1, e1'⟩, fun j hj => ?_, e3, e4, e5⟩, ⟨g1, ⟨⟨by rw [one 48 (by decide)]; exact g2, fun q hq => ?_⟩, g4⟩, ⟨by rw [one 54 (by decide)]; exact g5, g6⟩, fun j hj => ?_⟩, fun j hj => ?_, ?_⟩
  · have hy2 := hy.2
    rw [(k.sg (sz8z q1 (by omega)) (by omega) hm).1]; exact b1 c y q1 q2 hy
  · have hy2 := hy.2
    rw [(k.sg (c := 87) (sz8z (by decide) (by decide)) (by omega) hm).1, (k.sg (c := 88) (sz8z (by decide) (by decide)) (by omega) hm).1]; exact b2 y hy
  · rw [(k.sg (sz58 q1 (by omega)) (by omega) hm).1]; exact b3 c p q1 q2 q3 q4
  · rw [(k.sg (c := 45) (z := 410) (by decide) (by omega) hm).1, (k.sg (c := 46) (z := 410) (by decide) (by omega) hm).1, (k.sg (c := 47) (z := 410) (by decide) (by omega) hm).1]; exact b4 q hq
  · have := d.2.2.2.2.2
    rw [(k.sg (c := 93) (z := 1400) (by decide) (by omega) hm).1]; exact c4 q hq
  · rw [(k.sg (c := 38) (z := 16) (by decide) (by omega) hm).1]; exact c6 q hq
  · rw [(k.sg (c := 41) (z := 4) (by decide) (by omega) hm).1]; exact e2 j hj
  · rw [(k.sg (c := 49) (z := 810) (by decide) (by omega) hm).1, (k.sg (c := 50) (z := 810) (by decide) (by omega) hm).2, (k.sg (c := 51) (z := 810) (by decide) (by omega) hm).1]; exact g3 q hq
  · obtain ⟨u1, u2, u3⟩ := g7 j hj
    unfold RtP
    rw [p40 58 j (by decide) (by decide) (by omega), p40 60 j (by decide) (by decide) (by omega), p40 65 j (by decide) (by decide) (by omega)]
    exact ⟨fun z => ⟨su hj (by decide) (by decide) (by decide) (by decide) (u1 z).1, su hj (by decide) (by decide) (by decide) (by decide) (u1 z).2⟩, fun z z2 => ⟨su hj (by decide) (by decide) (by decide) (by decide) (u2 z z2).1, (u2 z z2).2⟩, fun z => ⟨su hj (by decide) (by decide) (by decide) (by decide) (u3 z).1, (u3 z).2⟩⟩
  · rw [(k.sg (c := 90) (z := 40) (by decide) (by omega) hm).1]; exact h1 j hj
  · rw [one 91 (by decide)]; exact h2
theorem FrE.rg {q : Nat} (hf : FrE M q t) (k : RG m fs cs js M M') (hq : q < m) : FrE M' q t := by
  unfold FrE
  rw [(k.sg (c := 35) (z := 1) (by decide) (by omega) hq).1, (k.sg (c := 56) (z := 1) (by decide) (by omega) hq).1]
  exact hf
theorem SrG.rg {q : Nat} (hG : SrG M q) (k : RG m fs cs js M M') (hq : q < m) (hcs : ∀ c ∈ cs, c ≤ 122) : SrG M' q := by
  have e122 : mAI M' 122 q = mAI M 122 q := (k.sg (c := 122) (z := 1) (by decide) (by omega) hq).1
  have rw0 : ∀ c, 123 ≤ c → mAI M' c = mAI M c := fun c hc => k.2.2.2.2.2.2.2.2.2.1 c (fun z => by have := hcs c z; omega)
  unfold SrG SrI ClF
  rw [e122, rw0 123 (by decide), rw0 126 (by decide), rw0 128 (by decide)]
  rcases hG with g | g | ⟨g, n, t, f, b1, b2, b3, b4⟩
  · exact Or.inl g
  · exact Or.inr (Or.inl g)
  · exact Or.inr (Or.inr ⟨g, n, t, f, b1, b2.rg k hq, b3, b4⟩)
/-- compile leaves what was there before -/
theorem RvS.rg (hR : RvS M mods govs) (k : RG mods fs cs js M M') (hcs : ∀ c ∈ cs, c ≤ 122 ∧ c ≠ 102 ∧ c ≠ 103 ∧ c ≠ 110) (h18 : 18 ∉ fs) (h91 : 91 ∉ fs) (F : Fix M') : RvS M' mods govs := by
  obtain ⟨⟨-, ⟨a1, a2, a3⟩, ⟨b1, b2⟩, c, d, e⟩, hL, hm⟩ := hR
  have r : ∀ c, c = 102 ∨ c = 103 ∨ c = 110 ∨ 123 ≤ c → mAI M' c = mAI M c := fun c hc => k.2.2.2.2.2.2.2.2.2.1 c (fun z => by have := hcs c z; omega)
  have i29 : ∀ f, f ∉ fs → mI M' 29 f = mI M 29 f := fun f hf => k.2.2.2.2.2.2.2.2.1 f hf
  refine ⟨⟨F, ⟨by rw [i29 18 h18]; exact a1, a2, fun j => by rw [r 103 (by omega)]; exact a3 j⟩, ⟨by rw [i29 91 h91]; exact b1, b2⟩, by rw [r 102 (by omega)]; exact c, by rw [r 110 (by omega)]; exact d, fun q hq => ?_⟩, hL.k (r 129 (by omega)), fun q hq => ?_⟩
  · have one : ∀ c, szA c = 1 → mAI M' c q = mAI M c q := fun c hc => (k.sg hc (by omega) hq).1
    rw [one 34 (by decide), one 35 (by decide), one 36 (by decide), one 54 (by decide), one 55 (by decide)]
    exact e q hq
  · obtain ⟨⟨R, sl, il, X, np, eR, hB⟩, g, f, f1, f2⟩ := hm q hq
    exact ⟨⟨R, sl, il, X, np, eR, hB.rg k (by rw [eR]; exact hq)⟩, g.rg k hq (fun c z => (hcs c z).1), f, f1, by rw [(k.sg (c := 56) (z := 1) (by decide) (by omega) hq).1]; exact f2⟩
/-- a module more -/
theorem RvS.mo (hR : RvS M2 mods govs) (h4 : mods < 4) (e3 : M3 = wI M2 29 18 (Int32.ofNat (mods + 1))) (hB : RbM R sl il X np M3) (eR : moM R = mods) (e122 : mAI M2 122 mods = 0) (h34 : ∃ k, k ≤ 16 ∧ mAI M2 34 mods = Int32.ofNat k) (h35 : ∃ k, k ≤ 4 ∧ mAI M2 35 mods = Int32.ofNat k) (h36 : ∃ k, k ≤ 6 ∧ mAI M2 36 mods = Int32.ofNat k) (h54 : ∃ k, k ≤ 40 ∧ mAI M2 54 mods = Int32.ofNat k) (h55 : ∃ k, k ≤ 24 ∧ mAI M2 55 mods = Int32.ofNat k) (h56 : ∃ f, f ≤ 100 ∧ mAI M2 56 mods = Int32.ofNat f) : RvS M3 (mods + 1) govs := by
  obtain ⟨⟨F, ⟨a1, a2, a3⟩, ⟨b1, b2⟩, c, d, e⟩, hL, hm⟩ := hR
  have k3 : RfF (fun f => f = 18) noP noP M2 M3 := RfF.i rfl e3
  have r3 : mAI M3 = mAI M2 := by rw [e3]; rfl
  have i3 : ∀ f, f ≠ 18 → mI M3 29 f = mI M2 29 f := fun f hf => k3.2.2.2.1 f hf
  refine ⟨⟨k3.fix F (fun z => z), ⟨by rw [e3, mI_wI, if_pos ⟨rfl, rfl⟩], by omega, fun j => by rw [r3]; exact a3 j⟩, ⟨by rw [i3 91 (by decide)]; exact b1, b2⟩, fun g hg => ?_, by rw [r3]; exact d, fun q hq => ?_⟩, hL.k (by rw [r3]), fun q hq => ?_⟩
  · obtain ⟨q, q1, q2⟩ := c g hg
    exact ⟨q, by omega, by rw [r3]; exact q2⟩
  · rw [r3]
    by_cases z : q = mods
    · rw [z]; exact ⟨h34, h35, h36, h54, h55⟩
    · exact e q (by omega)
  · by_cases z : q = mods
    · subst z
      exact ⟨⟨R, sl, il, X, np, eR, hB⟩, Or.inl (by rw [r3]; exact e122), by rw [r3]; exact h56⟩
    · obtain ⟨⟨R', sl', il', X', np', eR', hB'⟩, g, f, f1, f2⟩ := hm q (by omega)
      refine ⟨⟨R', sl', il', X', np', eR', hB'.br k3 (fun c z => z.elim) (fun c z => z.elim)⟩, ?_, f, f1, by rw [r3]; exact f2⟩
      unfold SrG SrI FrE ClF
      rw [r3]
      exact g
end
end
section
/-! the class as a whole over compile -/
/-- what modules and governors still want, and how often these are kept, stays -/
def KeP (ms gs : List Nat) (M M' : Mem) : Prop := (∀ j, j < ms.length → lnS M' (ms.getD j 0) = lnS M (ms.getD j 0) ∧ lnN M' (ms.getD j 0) = lnN M (ms.getD j 0) ∧ mR M' (ms.getD j 0) 17 = mR M (ms.getD j 0) 17) ∧ ∀ q, q < gs.length → mI M' (gs.getD q 0) 5 = mI M (gs.getD q 0) 5
section
variable {ow : Nat → Nat} {ga : Nat → Td × PS} {gm : Nat → Nat} {M M' M1 M2 : Mem} {ms gs : List Nat} {mb gb h n0 : Nat} {S : Nat → Prop} {Q : Option Value → Mem → Prop}
theorem KeP.rf : KeP ms gs M M := ⟨fun _ _ => ⟨rfl, rfl, rfl⟩, fun _ _ => rfl⟩
theorem KeP.tr (a : KeP ms gs M M1) (b : KeP ms gs M1 M2) : KeP ms gs M M2 := ⟨fun j hj => ⟨(b.1 j hj).1.trans (a.1 j hj).1, (b.1 j hj).2.1.trans (a.1 j hj).2.1, (b.1 j hj).2.2.trans (a.1 j hj).2.2⟩, fun q hq => (b.2 q hq).trans (a.2 q hq)⟩
theorem CvS.ke (hC : CvS ow ga gm M ms gs mb gb) (k : fr S M M') (hS : ∀ a, S a → a < mN M → ow a < 132) : KeP ms gs M M' := by
  have fS : fr (fun a => S a ∧ a < mN M) M M' := ⟨k.1, fun a ha hn => k.2 a ha (fun z => hn ⟨z, ha⟩)⟩
  refine ⟨fun j hj => ?_, fun q hq => ?_⟩
  · obtain ⟨h1, h2⟩ := hC.2.2.2.2.2.2.2.1 j hj
    obtain ⟨a1, a2, a3⟩ := ln_fr h2 fS (fun a z e => by have := hS a z.1 z.2; omega)
    exact ⟨a1, a2, by rw [a3]⟩
  · obtain ⟨_, _, _, _, _, _, _, _, _, g132, hvq, _, hoq, _⟩ := hC.gv hq
    rw [(fS.2 _ hvq.1.1.1 (fun z => by have := hS _ z.1 z.2; omega)).1]
/-- only the reference's cells have changed -/
theorem RfF.fr {fs cs js : Nat → Prop} (k : RfF fs cs js M M') : fr (fun a => a = 29 ∨ cs a ∨ js a) M M' := ⟨k.e, fun a _ hn => ⟨k.2.2.1 a (fun z => hn (Or.inl z)), by rw [k.2.1.1], by rw [k.2.1.2.1], k.2.2.2.2.1 a (fun z => hn (Or.inr (Or.inl z))), k.2.2.2.2.2 a (fun z => hn (Or.inr (Or.inr z))), by rw [k.2.1.2.2]⟩⟩
theorem kd_fix (F : Fix M) {a : Nat} (ha : a < 132) (h29 : 29 ≤ a ∨ a = 0 ∨ (4 ≤ a ∧ a ≤ 28)) : mK M a ≠ 0 := by
  have all : ∀ a : Fin 132, (29 ≤ a.val ∨ a.val = 0 ∨ (4 ≤ a.val ∧ a.val ≤ 28)) → (∃ e ∈ tO, e.1 = a.val ∧ e.2 ≠ 0) ∨ ∃ e ∈ tA ++ tB, e.1 = a.val ∧ e.2.1 ≠ 0 := by decide +kernel
  rcases all ⟨a, ha⟩ h29 with ⟨e, he, e1, e2⟩ | ⟨e, he, e1, e2⟩
  · have e1 : e.1 = a := e1
    have := (F.2.1 e he).2
    rw [e1] at this
    rw [this]; exact e2
  · have e1 : e.1 = a := e1
    have := (F.2.2.1 e he).1.2
    rw [e1] at this
    rw [this]; exact e2
theorem CvS.rr {fs cs js : Nat → Prop} (hC : CvS ow ga gm M ms gs mb gb) (hb : mN M < mBig) (k : RfF fs cs js M M') (hc : ∀ c, cs c ∨ js c → 29 ≤ c ∧ c ≤ 131) : CvS ow ga gm M' ms gs mb gb ∧ KeP ms gs M M' := by
  have f : fr (fun a => 29 ≤ a ∧ a ≤ 131) M M' := (RfF.fr k).more (fun a _ z => by
    rcases z with z | z
    · omega
    · exact hc a z)
  exact ⟨hC.out hb f (k.fix hC.1 (fun z => by have := hc 19 (Or.inr z); omega)) (fun a z => ⟨by omega, by omega, by omega, kd_fix hC.1 (by omega) (Or.inl z.1)⟩), hC.ke f (fun a z _ => by rw [hC.2.2.2.2.1 a (by omega)]; decide)⟩
/-- behind a fault -/
theorem CvS.cf {n : Nat} {f v : Int32} (hC : CvS ow ga gm M ms gs mb gb) (hb : mN M < mBig) (hx : CRx n M M1 f v) (e : M' = wI (wI M1 0 1 0) 0 6 f) : CvS ow ga gm M' ms gs mb gb ∧ KeP ms gs M M' ∧ fr (fun a => a ≤ 28 ∧ a ≠ 2 ∧ a ≠ 3) M M' := by
  obtain ⟨F1, -, -, -, fr1, -⟩ := hx
  have fe : fr (fun a => a = 0 ∨ (4 ≤ a ∧ a ≤ 28)) M M' := (fr1.more (fun a _ z => by omega)).tr (M2 := M') (by rw [e]; exact (fr_wI (S := fun a => a = 0) rfl).tr (fr_wI (S := fun a => a = 0) rfl) (fun _ _ z => z)) (fun a _ z => Or.inl z)
  have F' : Fix M' := by rw [e]; exact F1.i.i
  exact ⟨hC.out hb fe F' (fun a z => ⟨by omega, by omega, by omega, kd_fix hC.1 (by omega) (by omega)⟩), hC.ke fe (fun a z _ => by rw [hC.2.2.2.2.1 a (by omega)]; decide), fe.more (fun a _ z => by omega)⟩
end
end
section
/-! the class has a module more -/
section
variable {ow : Nat → Nat} {ga : Nat → Td × PS} {gm : Nat → Nat} {M M0 M2 Mw M3 M4 : Mem} {ms gs : List Nat} {mb mb' gb : Nat}
variable {b : Nat → Int32} {n s m i root g0 lc rc g S0 : Nat} {τ : Td} {σ : PS} {γ : Gh} {ps : List Nat} {xs : Nat → Nat} {ro : List Int32} {Ro : List (Nat × Nat)} {Θ : TrT} {G : Nat → List Nat} {N : Nt}
/-- what compile changes of what was there -/
theorem cm_fr (F : Fix M) (hRd : CRd b n s τ M M0 M2 i σ ps) (k : NuF (fun c => c = mN M ∨ c = 0) M2 Mw) (wz : WvZ (mN M) lc rc Θ N Mw) (we : WvE (mN M) lc rc S0 ro Θ G N Ro g root ps xs Mw M3) (hF : ALF M3 M4 2 mb mb' ms.length) : fr (fun a => a = 0 ∨ (4 ≤ a ∧ a ≤ 28) ∨ a = 2 ∨ (a = mb ∧ mK M a = 24)) M M4 := by
  obtain ⟨⟨-, ⟨lc0, rc0, cc, pb, ib, hQ⟩, -⟩, -, -, fr0, -⟩ := hRd
  have hLP := hQ.2.2.2.1
  have hFQ := hQ.2.2.2.2.2.1
  obtain ⟨-, -, -, -, -, ⟨pt, -⟩⟩ := hLP
  obtain ⟨Ψ1, Ψ2, P, zp, M1, -, -, -, ⟨lc', rc', b1, b2, hl, -, -, -, -, -, hR, -⟩, -, -, nu, -⟩ := we
  have lrb := wz.1.2.1
  have n132 := F.1
  have f1 : fr (fun a => a = 0 ∨ (4 ≤ a ∧ a ≤ 28) ∨ a = 2 ∨ (a = mb ∧ mK M a = 24)) M M0 := fr0.more (fun a _ z => Or.inr (Or.inl (by omega)))
  have f2 := f1.tr hFQ.1 (fun a ha z => Or.inr (Or.inl (by omega)))
  have f3 := f2.tr k.fre (fun a ha z => z.elim (fun y => by omega) (fun y => Or.inl y))
  have f4 := f3.tr hR.1 (fun a ha z => by
    unfold wvS at z
    obtain ⟨l1, l2⟩ := lrb
    exact Or.inr (Or.inl (by omega)))
  have f5 := f4.tr nu.fre (fun a ha z => by
    obtain ⟨j, hj, e⟩ := z
    have := (pt j hj).2.1
    omega)
  exact f5.tr hF.1 (fun a ha z => z.elim (fun y => Or.inr (Or.inr (Or.inl y))) (fun y => Or.inr (Or.inr (Or.inr ⟨y.1, by rw [← (f5.1.2.2 a ha).1]; exact y.2⟩))))
theorem CvS.mo {gw n1 lc' rc' cc pb ib b1 b2 pz zn fn y0 q0 : Nat} {Z0 P : Nat → Nat → Int32} {zp : Int32} {Ψ1 Ψ2 : Wg} {R : RMo} {hl : List Int32} (hC : CvS ow ga gm M ms gs mb gb) (hb : mN M4 < mBig) (h4 : ms.length < 4) (f4 : fr (fun a => a = 0 ∨ (4 ≤ a ∧ a ≤ 28) ∨ a = 2 ∨ (a = mb ∧ mK M a = 24)) M M4) (hE3 : mE M M3) (A4 : ALp M4 2 mb' 3 (ms ++ [mN M])) (hF : ALF M3 M4 2 mb mb' ms.length) (F4 : Fix M4) (hp : MdW τ m σ root γ g0 (mN M) gw Z0 P zp Ψ1 Ψ2 ∧ TwT (woS τ m σ γ) R zn fn y0 root q0 ∧ MdR τ m σ R ∧ τ.1.length ≤ 16 ∧ σ.2.2.1.length ≤ 810 ∧ (ifS σ).length ≤ 80 ∧ τ.2.2.2.1.length ≤ 6 ∧ (trS σ).2.1 ≤ 24 ∧ BeO τ) (hM : MoM M4 (mN M) τ σ Ψ2 hl lc' rc' cc pb ib b1 b2 (mN M + 11) (mN M + 12) pz ps) (hz : MoZ (mN M) (mN M3) lc' rc' cc pb ib b1 b2 ps) (e17 : mR M4 (mN M) 17 = none) : ∃ ow' ga', (∀ a, a < mN M → ow' a = ow a ∧ ga' a = ga a) ∧ ga' (mN M) = (τ, σ) ∧ CvS ow' ga' gm M4 (ms ++ [mN M]) gs mb' gb ∧ KeP ms gs M M4 := by
  obtain ⟨F, ⟨A2, -⟩, ⟨A3, g8⟩, ⟨c1, c2⟩, d0, i1, i2, hms, hgs⟩ := id hC
  have n132 := F.1
  have n25 := hz.1
  have nM34 : mN M3 ≤ mN M4 := hF.1.1.1
  obtain ⟨ow', how'⟩ : ∃ ow' : Nat → Nat, ow' = fun a => if a < mN M then ow a else if a = mN M3 then 2 else mN M := ⟨_, rfl⟩
  have hag : ∀ a, a < mN M → ow' a = ow a := fun a ha => by rw [how']; exact if_pos ha
  have hn1 : ow' (mN M3) = 2 := by rw [how']; show (if mN M3 < mN M then _ else if mN M3 = mN M3 then 2 else mN M) = 2; rw [if_neg (by omega), if_pos rfl]
  have hn2 : ∀ a, mN M ≤ a → a < mN M3 → ow' a = mN M := fun a h1 h2 => by rw [how']; show (if a < mN M then _ else if a = mN M3 then 2 else mN M) = mN M; rw [if_neg (by omega), if_neg (by omega)]
  obtain ⟨ga', hga'⟩ : ∃ ga' : Nat → Td × PS, ga' = fun a => if a = mN M then (τ, σ) else ga a := ⟨_, rfl⟩
  have gaq : ga' (mN M) = (τ, σ) := by rw [hga']; exact if_pos rfl
  have gao : ∀ a, a < mN M → ga' a = ga a := fun a ha => by rw [hga']; exact if_neg (by omega)
  clear how' hga'
  have own : ∀ a, (a = 0 ∨ (4 ≤ a ∧ a ≤ 28) ∨ a = 2 ∨ (a = mb ∧ mK M a = 24)) → a < mN M → ow a < 132 ∧ mK M a ≠ 0 := fun a z ha => by
    rcases z with z | z | z | ⟨z, zk⟩
    · exact ⟨by rw [d0 a (by omega)]; decide, kd_fix F (by omega) (by omega)⟩
    · exact ⟨by rw [d0 a (by omega)]; decide, kd_fix F (by omega) (by omega)⟩
    · exact ⟨by rw [d0 a (by omega)]; decide, by rw [z, (ok2 F).2]; decide⟩
    · refine ⟨?_, by rw [zk]; decide⟩
      rcases c1 with y | y
      · omega
      · rw [z, y.2.2]; decide
  have fS : fr (fun a => (a = 0 ∨ (4 ≤ a ∧ a ≤ 28) ∨ a = 2 ∨ (a = mb ∧ mK M a = 24)) ∧ a < mN M) M M4 := ⟨f4.1, fun a ha hn => f4.2 a ha (fun z => hn ⟨z, ha⟩)⟩
  have nS' : ∀ {v : Nat}, 132 ≤ v → ∀ a, ((a = 0 ∨ (4 ≤ a ∧ a ≤ 28) ∨ a = 2 ∨ (a = mb ∧ mK M a = 24)) ∧ a < mN M) → ow' a ≠ v := fun {v} hv a z e => by
    have := (own a z.1 z.2).1
    rw [hag a z.2] at e
    omega
  have k0 : ∀ a, ((a = 0 ∨ (4 ≤ a ∧ a ≤ 28) ∨ a = 2 ∨ (a = mb ∧ mK M a = 24)) ∧ a < mN M) → mK M a ≠ 0 := fun a z => (own a z.1 z.2).2
  have mlt : ∀ q, q < ms.length → ms.getD q 0 < mN M := fun q hq => (hms q hq).2.on.1
  have mbx : mb' = mBig + 5 ∨ (132 ≤ mb' ∧ mb' < mN M4 ∧ ow' mb' = 2) := by
    have lt : mb' = mBig + 5 ∨ mb' < mN M4 := by
      rcases A4.2.2.2.2.2 with ⟨e, -⟩ | ⟨o, -⟩
      · exact Or.inl e
      · exact Or.inr o.1
    rcases lt with y | y
    · exact Or.inl y
    · rcases hF.2.2.2.2.1 with e | e
      · rw [e]
        rcases c1 with q | q
        · exact Or.inl q
        · exact Or.inr ⟨q.1, by have := f4.1.1; omega, by rw [hag _ q.2.1]; exact q.2.2⟩
      · rw [e]
        exact Or.inr ⟨by omega, by rw [← e]; exact y, hn1⟩
  have X4 : CmX ow' M4 (mN M) τ σ := ⟨m, root, γ, g0, gw, Z0, P, zp, Ψ1, Ψ2, R, zn, fn, y0, q0, hl, lc', rc', cc, pb, ib, b1, b2, mN M + 11, mN M + 12, pz, mN M3, ps, hp, hM, hz, ⟨nM34, hn2, hn2 _ (by omega) (by omega), hn2 _ (by omega) (by omega)⟩, Or.inl e17⟩
  refine ⟨ow', ga', fun a ha => ⟨hag a ha, gao a ha⟩, gaq, ⟨F4, ⟨A4, by rw [List.length_append]; exact h4⟩, ⟨alp_fr3 A3 f4 (fun z => ?_) (fun o z => ?_), g8⟩, ⟨mbx, c2.imp id (fun y => ⟨y.1, Nat.lt_of_lt_of_le y.2.1 f4.1.1, by rw [hag _ y.2.1]; exact y.2.2⟩)⟩, fun a ha => by rw [hag a (by omega)]; exact d0 a ha, fun p q hp hq e => ?_, i2, fun q hq => ?_, fun q hq => ?_⟩, hC.ke f4 (fun a z ha => (own a z ha).1)⟩
  · rcases z with z | z | z | ⟨z, -⟩
    · exact absurd z (by decide)
    · omega
    · exact absurd z (by decide)
    · rcases c1 with y | y
      · rw [← z] at y; exact absurd y (by decide)
      · omega
  · have := o.1
    rcases c2 with y2 | y2
    · omega
    · rcases z with z | z | z | ⟨z, -⟩
      · omega
      · omega
      · omega
      · rcases c1 with y | y
        · omega
        · rw [z, y.2.2] at y2; exact absurd y2.2.2 (by decide)
  · rw [List.length_append] at hp hq
    have hp : p < ms.length + 1 := hp
    have hq : q < ms.length + 1 := hq
    by_cases p1' : p < ms.length
    · rw [getD_gl p1'] at e
      by_cases q1 : q < ms.length
      · rw [getD_gl q1] at e; exact i1 p q p1' q1 e
      · rw [show q = ms.length by omega, getD_gr] at e
        have := mlt p p1'
        omega
    · rw [show p = ms.length by omega, getD_gr] at e
      by_cases q1 : q < ms.length
      · rw [getD_gl q1] at e
        have := mlt q q1
        omega
      · omega
  · rw [List.length_append] at hq
    have hq : q < ms.length + 1 := hq
    by_cases q1 : q < ms.length
    · rw [getD_gl q1, gao _ (mlt q q1)]
      exact ⟨(hms q q1).1, ((hms q q1).2.own hag).out (by have := f4.1.1; omega) fS (nS' (hms q q1).1) k0⟩
    · rw [show q = ms.length by omega, getD_gr, gaq]
      exact ⟨n132, X4⟩
  · obtain ⟨h1, j, h2, h3, hx⟩ := hgs q hq
    refine ⟨h1, j, by rw [List.length_append]; exact Nat.lt_succ_of_lt h2, by rw [getD_gl h2]; exact h3, ?_⟩
    rw [getD_gl h2, gao _ (mlt j h2)]
    exact (hx.own hag).out fS (nS' h1)
end
end
section
/-! lists cleared; the class's clear -/
/-- clear leaves all but the list's size and its row's places -/
def ClN (M M' : Mem) : Prop := mN M' = mN M ∧ mS M' = mS M ∧ mR M' = mR M ∧ mAI M' = mAI M ∧ mAJ M' = mAJ M ∧ mJ M' = mJ M ∧ mK M' = mK M ∧ mL M' = mL M
theorem ClN.tr {M M1 M2 : Mem} (h : ClN M M1) (k : ClN M1 M2) : ClN M M2 := by
  obtain ⟨a1, a2, a3, a4, a5, a6, a7, a8⟩ := h
  obtain ⟨b1, b2, b3, b4, b5, b6, b7, b8⟩ := k
  exact ⟨b1.trans a1, b2.trans a2, b3.trans a3, b4.trans a4, b5.trans a5, b6.trans a6, b7.trans a7, b8.trans a8⟩
theorem clr_loop {h a b n : Nat} {Q : Option Value → Mem → Prop} : ∀ (k i : Nat) (M : Mem), n = i + k → n ≤ 100000 → ok M b 24 → n ≤ mL M b → mL M b ≤ 1000000 → (∀ M', fr (fun c => c = b) M M' → ClN M M' → mI M' = mI M → Q none M') → T h mdJx4a65c_clear_da8c8 27 [(3, .int (Int32.ofNat i)), (2, .int (Int32.ofNat n)), (1, .ref b), (0, .ref a)] [] M Q := by
  intro k
  induction k with
  | zero =>
    intro i M hn hl ob hL hm H
    refine xt_iload_n (j := 0) dJx4a65c_clear_da8c8_27 rfl rfl ?_
    refine xt_iload_n (j := 1) dJx4a65c_clear_da8c8_28 rfl rfl ?_
    refine xt_icmp_ge (tgt := 42) dJx4a65c_clear_da8c8_29 (by decide) (fun hc => ?_) (fun hc => ?_)
    · exact xt_return dJx4a65c_clear_da8c8_42 rfl (H M fr.rf ⟨rfl, rfl, rfl, rfl, rfl, rfl, rfl, rfl⟩ rfl)
    · exact absurd ((le32 (by omega) (by omega)).mpr (by omega)) hc
  | succ k ih =>
    intro i M hn hl ob hL hm H
    refine xt_iload_n (j := 0) dJx4a65c_clear_da8c8_27 rfl rfl ?_
    refine xt_iload_n (j := 1) dJx4a65c_clear_da8c8_28 rfl rfl ?_
    refine xt_icmp_ge (tgt := 42) dJx4a65c_clear_da8c8_29 (by decide) (fun hc => ?_) (fun hc => ?_)
    · have := (le32 (by omega) (by omega)).mp hc
      omega
    refine xt_aload_n (j := 2) dJx4a65c_clear_da8c8_32 rfl rfl ?_
    refine xt_iload_n (j := 0) dJx4a65c_clear_da8c8_33 rfl rfl ?_
    refine xt_null dJx4a65c_clear_da8c8_34 ?_
    refine xt_aastN dJx4a65c_clear_da8c8_35 ob (vp_of (by omega) (by omega)) ?_
    refine xt_iinc (j := 0) (v := Int32.ofNat (i + 1)) (lv' := [(3, .int (Int32.ofNat (i + 1))), (2, .int (Int32.ofNat n)), (1, .ref b), (0, .ref a)]) dJx4a65c_clear_da8c8_36 rfl (succ32 ..) (by show (_ : Nat) < 4; decide) rfl ?_
    refine xt_goto (tgt := 27) dJx4a65c_clear_da8c8_39 (by decide) ?_
    refine ih (i + 1) _ (by omega) hl ob hL hm (fun M' f' e' i' => H M' ((fr_wAR (S := fun c => c = b) rfl).tr f' (fun _ _ z => z)) (ClN.tr ⟨rfl, rfl, rfl, rfl, rfl, rfl, rfl, rfl⟩ e') i')
section
variable {h a b ci : Nat} {l : List Nat} {M : Mem} {Q : Option Value → Mem → Prop}
theorem S_clear (hA : ALp M a b ci l) (H : ∀ M', ALp M' a b ci [] → fr (fun c => c = a ∨ (c = b ∧ mK M c = 24)) M M' → ClN M M' → (∀ f, f ≠ 0 → f ≠ 2 → mI M' a f = mI M a f) → Q none M') : E (h + 1) mdJx4a65c_clear_da8c8 [.ref a] M Q := by
  obtain ⟨ha, hs, hl, hel, hr, hb⟩ := hA
  rcases hb with ⟨q1, q2⟩ | ⟨ob, hlen, hpos, hmx, hg⟩
  · subst q2
    refine S_clear0 ha hr hs (H _ ⟨ha, up2_eq, hl, fun v hv => absurd hv (by simp), hr, Or.inl ⟨q1, rfl⟩⟩ ((fr_wI (S := fun c => c = a ∨ (c = b ∧ mK M c = 24)) (Or.inl rfl)).tr (fr_wI (S := fun c => c = a ∨ (c = b ∧ mK M c = 24)) (Or.inl rfl)) (fun _ _ z => z)) ⟨rfl, rfl, rfl, rfl, rfl, rfl, rfl, rfl⟩ (fun f f0 f2 => ?_))
    rw [mI_wI, if_neg (fun z => f2 z.2), mI_wI, if_neg (fun z => f0 z.2)]
  · refine E.of (by decide) (Nat.le_of_ble_eq_true rfl) (fun _ _ _ => trivial) ?_
    show T _ _ 0 [(0, .ref a)] [] M _
    refine xt_aload_n (j := 0) dJx4a65c_clear_da8c8_0 rfl rfl ?_
    refine xt_dup dJx4a65c_clear_da8c8_1 rfl ?_
    refine xt_mcG dJx4a65c_clear_da8c8_2 rfl ha ?_
    refine xt_iconst (v := 1) dJx4a65c_clear_da8c8_5 (by decide) ?_
    refine xt_iadd dJx4a65c_clear_da8c8_6 ?_
    refine xt_mcP dJx4a65c_clear_da8c8_7 rfl ha ?_
    have s2 : mI (wI M a 0 (mI M a 0 + 1)) a 2 = Int32.ofNat l.length := (up2_ne (by simp)).trans hs
    refine xt_aload_n (j := 0) dJx4a65c_clear_da8c8_10 rfl rfl ?_
    refine xt_getR (b := b) dJx4a65c_clear_da8c8_11 (flJx4a65c_9 rfl) ft_1_1 ha.1 ha.2 hr ?_
    refine xt_astore_n (i := 1) (lv' := [(1, .ref b), (0, .ref a)]) dJx4a65c_clear_da8c8_14 rfl (by show (_ : Nat) < 4; decide) rfl ?_
    refine xt_aload_n (j := 1) dJx4a65c_clear_da8c8_15 rfl rfl ?_
    refine xt_getI dJx4a65c_clear_da8c8_16 (flJx4a65c_48 rfl) ft_1_2 ha.1 ha.2 ?_
    rw [s2]
    refine xt_istore_n (i := 2) (lv' := [(2, .int (Int32.ofNat l.length)), (1, .ref b), (0, .ref a)]) dJx4a65c_clear_da8c8_19 rfl (by show (_ : Nat) < 4; decide) rfl ?_
    refine xt_aload_n (j := 2) dJx4a65c_clear_da8c8_20 rfl rfl ?_
    refine xt_iconst (v := 0) dJx4a65c_clear_da8c8_21 (by decide) ?_
    refine xt_dup_x1 dJx4a65c_clear_da8c8_22 rfl rfl ?_
    refine xt_putI dJx4a65c_clear_da8c8_23 (flJx4a65c_48 rfl) rfl rfl ha.1 ha.2 ?_
    refine xt_istore_n (i := 3) (lv' := [(3, .int 0), (2, .int (Int32.ofNat l.length)), (1, .ref b), (0, .ref a)]) dJx4a65c_clear_da8c8_26 rfl (by show (_ : Nat) < 4; decide) rfl ?_
    obtain ⟨M1, e1⟩ : ∃ z, z = wI (wI M a 0 (mI M a 0 + 1)) a 2 0 := ⟨_, rfl⟩
    rw [← e1]
    have f1 : fr (fun c => c = a) M M1 := by rw [e1]; exact (fr_wI (S := fun c => c = a) rfl).tr (fr_wI (S := fun c => c = a) rfl) (fun _ _ z => z)
    have c1 : ClN M M1 := by rw [e1]; exact ⟨rfl, rfl, rfl, rfl, rfl, rfl, rfl, rfl⟩
    have i1 : mI M1 a 2 = 0 ∧ ∀ f, f ≠ 0 → f ≠ 2 → mI M1 a f = mI M a f := by
      rw [e1]
      exact ⟨up2_eq, fun f f0 f2 => by rw [mI_wI, if_neg (fun z => f2 z.2), mI_wI, if_neg (fun z => f0 z.2)]⟩
    have ob1 : ok M1 b 24 := ok_E ob f1.1
    have l1 : mL M1 b = mL M b := by rw [c1.2.2.2.2.2.2.2]
    clear e1
    refine clr_loop (n := l.length) l.length 0 M1 (by omega) hl ob1 (by omega) (by omega) (fun M' f' c' i' => ?_)
    have c2 := c1.tr c'
    refine H M' ⟨ok_E (ok_E ha f1.1) f'.1, by rw [i']; exact i1.1, Nat.zero_le _, fun v hv => absurd hv (by simp), by rw [c2.2.2.1]; exact hr, Or.inr ⟨ok_E ob1 f'.1, Nat.zero_le _, by rw [c2.2.2.2.2.2.2.2]; exact hpos, by rw [c2.2.2.2.2.2.2.2]; exact hmx, fun i hi => absurd hi (Nat.not_lt_zero _)⟩⟩ ((f1.more (fun _ _ z => Or.inl z)).tr f' (fun c _ z => Or.inr ⟨z, by rw [z]; exact ob.2⟩)) c2 (fun f f0 f2 => by rw [i']; exact i1.2 f f0 f2)
end
section
variable {ow : Nat → Nat} {ga : Nat → Td × PS} {gm : Nat → Nat} {M M' : Mem} {ms gs : List Nat} {mb gb h : Nat} {Q : Option Value → Mem → Prop}
/-- the class's clear: how many modules there were -/
theorem G_clear (hC : CvS ow ga gm M ms gs mb gb) (hb : mN M < mBig) (H : ∀ M', CvS ow ga gm M' [] [] mb gb → ClN M M' → fr (fun c => c = 2 ∨ c = 3 ∨ 132 ≤ c) M M' → Q (some (.int (Int32.ofNat ms.length))) M') : E (h + 2) mdX10_clear [.ref 0] M Q := by
  obtain ⟨F, ⟨a1, a2⟩, ⟨b1, b2⟩, ⟨c1, c2⟩, d, -, -, -, -⟩ := hC
  refine KX10_clear (h := h + 1) ?_
  unfold DX10_clear_0
  refine ⟨ok0 F, 2, rf0_2 F, a1.1, S_alSize (h := h) a1 (fun _ => ⟨_, rfl, 2, rf0_2 F, a1.1, S_clear (h := h) a1 (fun M1 A1 f1 e1 i1 _ => ⟨rfl, ?_⟩)⟩)⟩
  have fx : ∀ {N N' : Mem}, Fix N → mE N N' → ClN N N' → Fix N' := fun F k e => F.of_fr (S := fun _ => True) k (fun e' _ => by rw [e.2.2.1]) (by rw [e.2.2.2.2.1])
  have F1 := fx F f1.1 e1
  have nB : (132 : Nat) < mBig := by unfold mBig; omega
  have hm : 132 ≤ mb := by
    rcases c1 with y | y
    · omega
    · exact y.1
  have hg : 132 ≤ gb := by
    rcases c2 with y | y
    · omega
    · exact y.1
  have ne : gb < mN M → gb ≠ mb := fun y z => by
    rcases c2 with q | q
    · omega
    · rcases c1 with w | w
      · omega
      · rw [z, w.2.2] at q; exact absurd q.2.2 (by decide)
  have n1 : mN M1 = mN M := e1.1
  have b1' : ALp M1 3 gb 4 gs := alp_fr3 b1 f1 (fun z => by
    rcases z with z | ⟨z, -⟩
    · exact absurd z (by decide)
    · omega) (fun o z => by
    rcases z with z | ⟨z, -⟩
    · omega
    · exact ne o.1 z)
  refine ⟨3, rf0_3 F1, b1'.1, S_clear (h := h) b1' (fun M2 A2 f2 e2 i2 _ => ⟨rfl, ?_⟩)⟩
  have F2 := fx F1 f2.1 e2
  have n2 : mN M2 = mN M1 := e2.1
  have A1' : ALp M2 2 mb 3 [] := alp_fr3 A1 f2 (fun z => by
    rcases z with z | ⟨z, -⟩
    · exact absurd z (by decide)
    · omega) (fun o z => by
    rcases z with z | ⟨z, -⟩
    · omega
    · exact ne (by have := o.1; omega) z.symm)
  refine H M2 ⟨F2, ⟨A1', Nat.zero_le _⟩, ⟨A2, Nat.zero_le _⟩, ⟨by rw [n2, n1]; exact c1, by rw [n2, n1]; exact c2⟩, d, fun i j hi => absurd hi (Nat.not_lt_zero _), fun i j hi => absurd hi (Nat.not_lt_zero _), fun i hi => absurd hi (Nat.not_lt_zero _), fun i hi => absurd hi (Nat.not_lt_zero _)⟩ (e1.tr e2) ((f1.more (fun c _ z => ?_)).tr f2 (fun c _ z => ?_))
  · rcases z with z | ⟨z, -⟩
    · exact Or.inl z
    · exact Or.inr (Or.inr (by omega))
  · rcases z with z | ⟨z, -⟩
    · exact Or.inr (Or.inl z)
    · exact Or.inr (Or.inr (by omega))
end
end
