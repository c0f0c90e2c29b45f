/-! the class's calls on searches -/
def srS (M : Mem) (n0 : Nat) : Nat := if mR M n0 17 = none then 3373 else 0
def srN (M : Mem) (n0 : Nat) : Nat := if mR M n0 17 = none then 9 else 0
/-- room: what one module may still want is used up -/
def RmU (ms : List Nat) (M M' : Mem) : Prop := ∃ c, (∀ j, j < ms.length → ms.getD j 0 ≠ c → lnS M' (ms.getD j 0) = lnS M (ms.getD j 0) ∧ lnN M' (ms.getD j 0) = lnN M (ms.getD j 0) ∧ mR M' (ms.getD j 0) 17 = mR M (ms.getD j 0) 17) ∧ mN M' + (lnN M' c + srN M' c) ≤ mN M + (lnN M c + srN M c) ∧ mS M' + (lnS M' c + srS M' c) ≤ mS M + (lnS M c + srS M c) ∧ ((∃ j, j < ms.length ∧ ms.getD j 0 = c) ∨ (mN M' = mN M ∧ mS M' = mS M ∧ ∀ j, j < ms.length → lnS M' (ms.getD j 0) = lnS M (ms.getD j 0) ∧ lnN M' (ms.getD j 0) = lnN M (ms.getD j 0) ∧ mR M' (ms.getD j 0) 17 = mR M (ms.getD j 0) 17))
theorem RmU.rf {ms : List Nat} {M : Mem} : RmU ms M M := ⟨0, fun _ _ _ => ⟨rfl, rfl, rfl⟩, Nat.le_refl _, Nat.le_refl _, Or.inr ⟨rfl, rfl, fun _ _ => ⟨rfl, rfl, rfl⟩⟩⟩
section
variable {ow : Nat → Nat} {ga : Nat → Td × PS} {gm : Nat → Nat} {M M' : Mem} {ms gs : List Nat} {mb gb h n0 : Nat} {Q : Option Value → Mem → Prop} {x y z w : Int32}
/-- what a call over a search leaves -/
def SrP (ow ow' : Nat → Nat) (ms gs : List Nat) (M M' : Mem) : Prop := (∀ a, a < mN M → ow' a = ow a) ∧ fr (fun a => 132 ≤ a) M M' ∧ RmU ms M M' ∧ ∀ q, q < gs.length → mI M' (gs.getD q 0) 5 = mI M (gs.getD q 0) 5
theorem SrP.rf : SrP ow ow ms gs M M := ⟨fun _ _ => rfl, fr.rf, RmU.rf, fun _ _ => rfl⟩
set_option maxHeartbeats 1000000 in
theorem G_srOf (hC : CvS ow ga gm M ms gs mb gb) (hb : mN M + 20 < mBig) (K0 : ∀ M' ow', SrP ow ow' ms gs M M' → CvS ow' ga gm M' ms gs mb gb → Q (some .null) M') (K1 : ∀ M' ow' i s t a n, SrP ow ow' ms gs M M' → CvS ow' ga gm M' ms gs mb gb → i < ms.length → x = Int32.ofNat i → ScO M' s (ms.getD i 0) t a → ScC M' s t n a → 1 ≤ n → Q (some (.ref s)) M') : E (h + 7) mdX10_searchOf [.ref 0, .int x] M Q := by
  -- its end
  have d38 : ∀ M' ow' i s, SrP ow ow' ms gs M M' → CvS ow' ga gm M' ms gs mb gb → i < ms.length → x = Int32.ofNat i → mR M' (ms.getD i 0) 17 = some s → DX10_searchOf_38 (h + 6) (some (ms.getD i 0)) M' Q := by
    intro M' ow' i s hP hC' hi ex e17
    obtain ⟨m, root, γ, g0, gw, Z0, P, zp, Ψ1, Ψ2, R, zn, fn, y0, q0, hl, lc, rc, cc, pb, ib, b1, b2, ya, na, pz, n1, ps, hp, hM, hz, hq, hs⟩ := (hC'.2.2.2.2.2.2.2.1 i hi).2
    rcases hs with e | ⟨s', f1, f2, f3, f4⟩
    · rw [e17] at e; exact absurd e (by simp)
    · rw [e17] at f1
      cases f1
      unfold DX10_searchOf_38 DX10_searchOf_56
      refine ⟨_, rfl, hM.1.1.1, s, e17, f2, fun e => ?_, fun e => K0 M' ow' hP hC'⟩
      rw [e17]
      rcases f4 with f4 | ⟨-, a, n, f5, f6, f7, -⟩
      · rw [f4] at e; exact absurd e (by decide)
      · exact K1 M' ow' i s _ a n hP hC' hi ex f5 f6 f7
  refine KX10_searchOf (h := h + 6) ?_
  unfold DX10_searchOf_0
  refine ⟨ok0 hC.1, S_modAt (h := h + 2) hC (fun _ _ => ⟨none, rfl, fun _ => K0 M ow SrP.rf hC, fun b e => absurd e (by simp)⟩) (fun i hi ex _ => ⟨some _, rfl, fun e => absurd e (by simp), fun b e => ?_⟩)⟩
  cases e
  have hn := (hC.2.2.2.2.2.2.2.1 i hi).1
  refine ⟨(hC.2.2.2.2.2.2.2.1 i hi).2.on, fun e17 q8 M7 eq8 e7 => ?_, fun s e17 => d38 M ow i s SrP.rf hC hi ex e17⟩
  obtain ⟨ow', how'⟩ : ∃ ow' : Nat → Nat, ow' = fun a => if a < mN M then ow a else ms.getD i 0 := ⟨_, rfl⟩
  have hag : ∀ a, a < mN M → ow' a = ow a := fun a ha => by rw [how']; exact if_pos ha
  have hnew : ∀ a, mN M ≤ a → ow' a = ms.getD i 0 := fun a ha => by rw [how']; exact if_neg (by omega)
  have hC' := hC.owN hag
  clear how'
  have d38 := fun M' s => d38 M' ow' i s
  have hm := (hC'.2.2.2.2.2.2.2.1 i hi).2
  generalize hn0 : ms.getD i 0 = n0 at hm hn hnew e17 d38
  obtain ⟨m, root, γ, g0, gw, Z0, P, zp, Ψ1, Ψ2, R, zn, fn, y0, q0, hl, lc, rc, cc, pb, ib, b1, b2, ya, na, pz, n1, ps, ⟨hW, hT, hR, h16, hX, hif, hva, hpz⟩, hM, hz, ⟨z1, z2, z3, z4⟩, hs⟩ := id hm
  have n25 := hz.1
  have on0 : ok M n0 3 := hM.1.1.1
  have cs := hM.2.2.2.2.2.1
  have oxx : ok M (n0 + 8) 2 := cs.1.1.1
  have oy : ok M ya 21 := cs.1.2.1.2.1
  have on : ok M na 21 := cs.1.2.2.1.2.1
  have f7 : fr (fun _ => False) M M7 := by rw [e7]; exact fr_nwO
  have o7 : ok M7 q8 7 := by rw [eq8, e7]; exact ⟨Nat.lt_succ_self _, va_up_self _ _ _⟩
  have n7 : mN M7 = mN M + 1 := by rw [e7]; rfl
  have s7 : mS M7 = mS M + 13 := by rw [e7]; rfl
  have r7 : ∀ {a q : Nat}, ok M a q → sameRow M M7 a := fun o => f7.2 _ o.1 (fun z => z)
  have lenM : ∀ {M1 : Mem} {a q : Nat}, mE M M1 → ok M a q → mL M1 a = mL M a := fun e o => (e.2.2 _ o.1).2
  -- the module once it has its search
  have toM10 : ∀ M9 M10, fr (fun c => c = q8) M7 M9 → M10 = wR M9 n0 17 (some q8) → fr (fun a => a = n0) M M10 ∧ MoM M10 n0 (ga n0).1 (ga n0).2 Ψ2 hl lc rc cc pb ib b1 b2 ya na pz ps ∧ mR M10 n0 17 = some q8 := by
    intro M9 M10 f9 e10
    have f79 : fr (fun a => a = n0) M M9 := (f7.more (fun a _ z => z.elim)).tr f9 (fun a ha z => by omega)
    have f10 : fr (fun a => a = n0) M M10 := f79.tr (M2 := M10) (by rw [e10]; exact fr_wR (S := fun a => a = n0) rfl) (fun _ _ z => z)
    have r9 : sameRow M M9 n0 := (r7 on0).tr (f9.2 n0 (by rw [n7]; have := on0.1; omega) (by have := on0.1; omega))
    have rx := f10.2 (n0 + 8) oxx.1 (by omega)
    have rs := f10.2 (n0 + 22) hM.1.2.1.1.1.1 (by omega)
    refine ⟨f10, ?_, by rw [e10, mR_wR, if_pos ⟨rfl, rfl⟩]⟩
    refine hM.mu (ow := fun _ => n0) (S := noP) hz (fun _ _ _ => rfl) (fun a z => z.elim) (fun a z => z.elim) (by omega) ⟨f10.more (fun a _ z => Or.inl z), ⟨by rw [e10]; exact r9.1, fun f hf => by rw [e10, mR_wR, if_neg (fun z => hf z.2), r9.2.2.1]⟩, ⟨rx.1, fun f _ _ => by rw [rx.2.2.1], by rw [rx.2.2.1]; exact cs.1.2.1.1, by rw [rx.2.2.1]; exact cs.1.2.2.1.1⟩, ⟨fun f _ _ => by rw [rs.1], rs.2.2.1⟩, ⟨ok_E oy f10.1, ok_E on f10.1, by rw [lenM f10.1 oy]; exact cs.1.2.1.2.2, by rw [lenM f10.1 on]; exact cs.1.2.2.1.2.2.1, by rw [lenM f10.1 oy, lenM f10.1 on]; exact cs.1.2.2.1.2.2.2⟩, Or.inl ⟨rfl, rfl⟩⟩
  -- the whole behind it
  have fin : ∀ M13 ya' na', fr (fun a => a = n0 ∨ a = n0 + 8 ∨ a = ya ∨ a = na) M M13 → MoM M13 n0 (ga n0).1 (ga n0).2 Ψ2 hl lc rc cc pb ib b1 b2 ya' na' pz ps → mR M13 n0 17 = some q8 → (ow' ya' = n0 ∧ ow' na' = n0) → SeS ow' M13 n0 ((inL (ga n0).1.2.1).length + (ifS (ga n0).2).length) ya' na' → mN M13 + lnN M13 n0 ≤ mN M + (lnN M n0 + 9) → mS M13 + lnS M13 n0 ≤ mS M + (lnS M n0 + 3373) → DX10_searchOf_38 (h + 6) (some n0) M13 Q := by
    intro M13 ya' na' f13 Mo13 e17' oww S13 hN hS
    have X13 : CmX ow' M13 n0 (ga n0).1 (ga n0).2 := ⟨m, root, γ, g0, gw, Z0, P, zp, Ψ1, Ψ2, R, zn, fn, y0, q0, hl, lc, rc, cc, pb, ib, b1, b2, ya', na', pz, n1, ps, ⟨hW, hT, hR, h16, hX, hif, hva, hpz⟩, Mo13, hz, ⟨Nat.le_trans z1 f13.1.1, z2, oww.1, oww.2⟩, S13⟩
    have dn : ∀ {r : Nat}, r = n0 ∨ r = n0 + 8 ∨ r = ya ∨ r = na → ow' r = n0 ∧ mK M r ≠ 0 := fun {r} zz => by
      rcases zz with e | e | e | e <;> rw [e]
      · exact ⟨z2 n0 (Nat.le_refl _) (by omega), by rw [on0.2]; decide⟩
      · exact ⟨z2 _ (by omega) (by omega), by rw [oxx.2]; decide⟩
      · exact ⟨z3, by rw [oy.2]; decide⟩
      · exact ⟨z4, by rw [on.2]; decide⟩
    have gsn : ∀ q, q < gs.length → gs.getD q 0 ≠ n0 := fun q hq e => by
      obtain ⟨_, _, _, _, _, _, _, _, _, _, hvq, _⟩ := hC.gv hq
      have o := hvq.1.1
      rw [e] at o
      exact absurd (o.2.symm.trans on0.2) (by decide)
    refine d38 M13 q8 ⟨hag, f13.more (fun a _ zz => ge132 hC' hn (dn zz).1), ⟨n0, fun q hq ne => ?_, ?_, ?_, Or.inl ⟨i, hi, hn0⟩⟩, fun q hq => ?_⟩ (hC'.own (Wp := fun v => v = n0) (by omega) f13 (fun a zz => dn zz) (fun v zz => by rw [zz]; exact hn) (fun q hq zz => by rw [zz]; exact X13) (fun q q2 hq hq2 _ zz => absurd zz (gsn q hq))) hi ex e17'
    · obtain ⟨a1, a2, a3⟩ := ln_fr (hC'.2.2.2.2.2.2.2.1 q hq).2 f13 (fun a zz e => ne (e.symm.trans (dn zz).1))
      exact ⟨a1, a2, by rw [a3]⟩
    · unfold srN
      rw [e17', e17, if_pos rfl, if_neg (by simp)]
      exact hN
    · unfold srS
      rw [e17', e17, if_pos rfl, if_neg (by simp)]
      exact hS
    · obtain ⟨_, _, _, _, _, _, _, _, _, _, hvq, _, hoq, _⟩ := hC'.gv hq
      rw [(f13.2 _ hvq.1.1.1 (fun zz => gsn q hq (hoq.symm.trans (dn zz).1))).1]
  have lt := hW.2.2.2.2.2.2.2.2.1
  obtain ⟨a1, a2⟩ := ln_at (n0 := n0) (na := na) cs.1.1 cs.1.2.1.1 rfl lt
  have rn7 := r7 on0
  have rx7 := r7 oxx
  have obc : ok M (n0 + 16) 21 := cs.1.2.2.2.2.2.2.2.2.1
  refine S_sini (h := h + 4) o7 (ok_E on0 f7.1) (by rw [rn7.1]; exact hM.1.1.2.2.2.2) (by rw [rn7.1]; exact hM.2.2.2.2.2.2.2.2.2.2.2.2.1) hM.1.2.2.2.2.2.1 (by omega) (by rw [rn7.2.2.1]; exact hM.2.2.2.2.1) (ok_E oxx f7.1) (by rw [rx7.2.2.1]; exact cs.1.2.2.2.2.2.2.2.1) (ok_E obc f7.1) (by rw [lenM f7.1 obc]; exact cs.1.2.2.2.2.2.2.2.2.2.1) (fun M9 _ f9 o9 b9 n9 s9 _ => ⟨rfl, fun M10 e10 => ?_⟩) (fun M9 a le5 f9 O9 Z9 b9 n9 s9 _ => ⟨rfl, fun M10 e10 => ?_⟩)
  · obtain ⟨f10, Mo10, r17⟩ := toM10 M9 M10 f9 e10
    have o10 : ok M10 q8 7 := by rw [e10]; exact o9
    have b10 : mI M10 q8 2 = 1 := by rw [e10]; exact b9
    refine ⟨q8, r17, o10, S_expB (h := h + 5) o10 b10 (fun M13 k13 b13 _ => ⟨rfl, ?_⟩)⟩
    have f13 : fr (fun a => a = n0 ∨ a = n0 + 8 ∨ a = ya ∨ a = na) M M13 := (f10.more (fun a _ z => Or.inl z)).tr k13.fr (fun a ha z => z.elim (fun y => by omega) (fun y => y.elim))
    have bg : mN M10 < mBig := by rw [e10]; show mN M9 < mBig; omega
    have Mo13 := Mo10.out hz bg k13.fr (fun r zz => zz.elim (fun y => by omega) (fun y => y.elim)) (fun r zz => zz.elim (fun y => by rw [y, o10.2]; decide) (fun y => y.elim))
    have nM : mN M13 = mN M + 9 := by rw [k13.1.1, e10]; show mN M9 = _; omega
    have sM : mS M13 ≤ mS M + 3373 := by rw [k13.1.2.1, e10]; show mS M9 ≤ _; omega
    obtain ⟨c1, c2⟩ := ln_at (n0 := n0) (na := na) Mo13.2.2.2.2.2.1.1.1 Mo13.2.2.2.2.2.1.1.2.1.1 rfl lt
    have ll : mL M13 ya = mL M ya := lenM f13.1 oy
    refine fin M13 ya na f13 Mo13 (by rw [k13.2.1.2.1]; exact r17) ⟨z3, z4⟩ (Or.inr ⟨q8, by rw [k13.2.1.2.1]; exact r17, k13.ok o10, hnew _ (by omega), Or.inl b13⟩) ?_ ?_
    · rw [c2, a2, ll]; omega
    · rw [c1, a1, ll]; omega
  · obtain ⟨f10, Mo10, r17⟩ := toM10 M9 M10 f9 e10
    have qn : q8 ≠ n0 := by have := on0.1; omega
    have f910 : fr (fun c => c = n0) M9 M10 := by rw [e10]; exact fr_wR rfl
    have O10 : ScO M10 q8 n0 _ a := O9.fr f910 qn
    have b10 : mI M10 q8 2 = 0 := by rw [e10]; exact b9
    have aN : ∀ {r : Nat}, r = q8 ∨ rwF a r → mN M ≤ r := fun {r} zz => by
      rcases zz with zz | ⟨f, f1, f2, zz⟩
      · omega
      · have := (Z9 f f1 f2).1; omega
    have a10 : mAI M10 = mAI M9 := by rw [e10]; rfl
    have zr : ∀ f, 5 ≤ f → f ≤ 12 → ∀ k, mAI M10 (a f) k = 0 := fun f f1 f2 k => by rw [a10]; exact (Z9 f f1 f2).2 k
    have n10 : mN M10 = mN M + 9 := by rw [e10]; show mN M9 = _; omega
    refine ⟨q8, r17, O10.1.1, S_expl (h := h) hW hT hR h16 hz Mo10 O10 ⟨fun s hs => ⟨0, by decide, by rw [zr 7 (by decide) (by decide)]; rfl⟩, fun j hj => Or.inr ⟨0, by decide, by rw [zr 9 (by decide) (by decide)]; rfl⟩⟩ rfl (fun r zz => ?_) (by omega) b10 (fun M13 n' ya' na' f13 Mo13 O13 C13 h1 b13 N13 _ => ⟨rfl, ?_⟩)⟩
    · have := aN zz
      have h1 := oy.1
      have h2 := on.1
      exact ⟨by omega, by omega, by omega⟩
    have F13 : fr (fun a => a = n0 ∨ a = n0 + 8 ∨ a = ya ∨ a = na) M M13 := (f10.more (fun a _ z => Or.inl z)).tr f13 (fun c hc zz => by
      rcases zz with zz | zz | zz | zz
      · exact Or.inr (Or.inl zz)
      · exact Or.inr (Or.inr (Or.inl zz))
      · exact Or.inr (Or.inr (Or.inr zz))
      · have := aN zz; omega)
    have rn13 := f13.2 n0 (ok_E on0 f10.1).1 (fun zz => by
      rcases zz with zz | zz | zz | zz
      · omega
      · rw [zz] at on0; exact absurd (on0.2.symm.trans oy.2) (by decide)
      · rw [zz] at on0; exact absurd (on0.2.symm.trans on.2) (by decide)
      · have := aN zz; have := on0.1; omega)
    have e17' : mR M13 n0 17 = some q8 := by rw [rn13.2.2.1]; exact r17
    have oww : ow' ya' = n0 ∧ ow' na' = n0 := by
      rcases N13 with ⟨e, e', -⟩ | ⟨e, e', -⟩
      · rw [e, e']; exact ⟨z3, z4⟩
      · exact ⟨hnew _ (by omega), hnew _ (by omega)⟩
    have apart : ∀ f, 5 ≤ f → f ≤ 12 → a f ≠ ya' ∧ a f ≠ na' := fun f f1 f2 => by
      have q1 := aN (r := a f) (Or.inr ⟨f, f1, f2, rfl⟩)
      have q2 := (O10.2.1 f f1 f2).2.1.1
      have h1 := oy.1
      have h2 := on.1
      rcases N13 with ⟨e, e', -⟩ | ⟨e, e', -⟩ <;> omega
    have S13 : SeS ow' M13 n0 ((inL (ga n0).1.2.1).length + (ifS (ga n0).2).length) ya' na' := by
      refine Or.inr ⟨q8, e17', O13.1.1, hnew _ (by omega), ?_⟩
      rcases b13 with b13 | b13
      · exact Or.inr ⟨b13, a, n', O13, C13, h1, fun f f1 f2 => ⟨hnew _ (aN (Or.inr ⟨f, f1, f2, rfl⟩)), apart f f1 f2⟩⟩
      · exact Or.inl b13
    obtain ⟨c1, c2⟩ := ln_at (n0 := n0) (na := na') Mo13.2.2.2.2.2.1.1.1 Mo13.2.2.2.2.2.1.1.2.1.1 rfl lt
    have s10 : mS M10 ≤ mS M + 3373 := by rw [e10]; show mS M9 ≤ _; omega
    have ll10 : mL M10 ya = mL M ya := lenM f10.1 oy
    have room : mN M13 + lnN M13 n0 ≤ mN M + (lnN M n0 + 9) ∧ mS M13 + lnS M13 n0 ≤ mS M + (lnS M n0 + 3373) := by
      rw [a1, a2, c1, c2]
      rcases N13 with ⟨e, e', e3, e4⟩ | ⟨e, e', e3, e4, e5, e6⟩
      · rw [e, lenM F13.1 oy]
        constructor <;> omega
      · have nl : ¬ mL M13 ya' < Ψ2.1.length := by omega
        rw [ll10] at e5
        rw [if_neg nl, if_neg nl, if_pos e5, if_pos e5]
        constructor <;> omega
    exact fin M13 ya' na' F13 Mo13 e17' oww S13 room.1 room.2
end
