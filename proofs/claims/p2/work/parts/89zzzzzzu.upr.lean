/-! what the reference comes to lies below any solution of the class's wires -/
section
variable {W : Wo} {R : RMo} {I : RIn} {ρ : Plc → Nat} {hv : Nat → Nat} {cv ck : Nat → Nat → Nat} {co cc cs : Nat → Nat} {zn fn y0 x0 : Nat}
/-- root's wires -/
def rtV (I : RIn) (c : Nat) : Nat := if c = 0 then (if iFi I = 1 then 1 else 0) else if c = 1 then (if iFi I = 1 then 0 else 1) else 0
/-- the class's wires, all of them -/
def CSo (W : Wo) (R : RMo) (I : RIn) (hv : Nat → Nat) (cv ck : Nat → Nat → Nat) (co cc cs : Nat → Nat) (y0 x0 : Nat) : Prop := (∀ d c, DsR W R y0 x0 d c → SbA W R I hv cv ck co cc d c ∧ ((woV W c).1 = 6 → co c = v3O (cv 0 c) (ck ((chV W c).getD 0 0) 0)) ∧ ((woV W c).1 = 9 → co c = v3O (cv 3 c) (ck ((chV W c).getD 0 0) 2))) ∧ (∀ c, c ≤ 3 → cv c x0 = rtV I c) ∧ (∀ c j, ck c j ≤ 2) ∧ ∀ s, s < moQ R → moT R s = 0 → cs s = iGv I s
theorem U_p {g p' : Nat} (hG : frM R) (h3 : 3 ≤ moC R ∧ moC R ≤ 20) (hy0 : inR R y0 ∧ (moS R).2 86 y0 = -1) (hR : RpN W (moM R) zn fn (vwM R) (hiM R) g [] y0 x0 0 p') (hS : CSo W R I hv cv ck co cc cs y0 x0) (hcc : ∀ u : Plc → Nat, (∀ s, s < moQ R → lq3 (u (5, s, 0)) (cs s)) → ∀ d c, DsR W R y0 x0 d c → (woV W c).1 = 4 ∨ (woV W c).1 = 7 → lq3 (lokR R I u d) (cc c)) (hem : ∀ u : Plc → Nat, (∀ d c, DsR W R y0 x0 d c → lq3 (u (0, d, 0)) (cv 0 c)) → ∀ s, s < moQ R → moT R s ≠ 0 → lq3 (emR R u s (moS R).1) (cs s)) (hJ : JF (FrR R I) ρ) : (∀ d c, DsR W R y0 x0 d c → Mw lq3 ρ cv d c ∧ Mk lq3 ρ ck (moC R) d c) ∧ ∀ s, s < moQ R → lq3 (ρ (5, s, 0)) (cs s) := by
  obtain ⟨hS, hrt, cb, hin⟩ := hS
  have B := hJ.2 (fun i a => (i.1 ≤ 3 → i.2.2 = 0 → ∀ x, DsR W R y0 x0 i.2.1 x → lq3 a (cv i.1 x)) ∧ (i.1 = 4 → i.2.2 < moC R → ∀ x, DsR W R y0 x0 i.2.1 x → lq3 a (ck x i.2.2)) ∧ (i.1 = 5 → i.2.2 = 0 → i.2.1 < moQ R → lq3 a (cs i.2.1))) (fun i => ⟨fun _ _ _ _ => Or.inl rfl, fun _ _ _ _ => Or.inl rfl, fun _ _ _ => Or.inl rfl⟩) (fun u hu i => ?_)
  · refine ⟨fun d c h => ⟨fun q hq => (B (q, d, 0)).1 hq rfl c h, fun n hn => (B (4, d, n)).2.1 rfl hn c h⟩, fun s hs => (B (5, s, 0)).2.2 rfl rfl hs⟩
  obtain ⟨c, y, n⟩ := i
  have hw : ∀ d x, DsR W R y0 x0 d x → Mw lq3 u cv d x := fun d x h q hq => (hu (q, d, 0)).1 hq rfl x h
  have hk : ∀ d x, DsR W R y0 x0 d x → Mk lq3 u ck (moC R) d x := fun d x h q hq => (hu (4, d, q)).2.1 rfl hq x h
  have hl := hcc u (fun s hs => (hu (5, s, 0)).2.2 rfl rfl hs)
  have rp : ∀ d x, DsR W R y0 x0 d x → ∃ g' cx' q q', RpN W (moM R) zn fn (vwM R) (hiM R) g' cx' d x q q' := fun d x h => by
    obtain ⟨k, h⟩ := h
    exact DsI.rp k (y0, x0) g [] 0 p' h hR
  refine ⟨fun c3 n0 x hx => ?_, fun c4 nk x hx => ?_, fun c5 n0 ys => ?_⟩
  · -- wires
    have c3 : c ≤ 3 := c3
    have n0 : n = 0 := n0
    have iy : inR R y := by
      obtain ⟨g', cx', q, q', k⟩ := rp y x hx
      exact k.in
    show lq3 (FrA R I u c y n) (cv c x)
    unfold FrA
    rw [if_pos c3, if_pos ⟨iy, n0⟩]
    have main : ∀ k y x, DsI W (moM R) (vwM R) (hiM R) k (y0, x0) (y, x) → lq3 (enR R I u c y) (cv c x) := by
      intro k
      induction k with
      | zero =>
        intro y x h
        have h : (y0, x0) = (y, x) := h
        cases h
        rw [hrt c c3]
        unfold enR rtV
        rw [if_pos hy0.2]
        exact lq3.rf
      | succ k ih =>
        intro y x h
        obtain ⟨⟨y', x'⟩, h1, z⟩ := DsI.sn k _ _ h
        have hp : DsR W R y0 x0 y' x' := ⟨k, h1⟩
        obtain ⟨⟨hm, hnu, hE, hE2⟩, o6, o9⟩ := hS y' x' hp
        obtain ⟨iy', z⟩ := z
        rcases z with ⟨a1, a2, a3⟩ | ⟨a1, a2⟩
        · have a3 : y = y' := a3
          subst a3
          have o := C_one ⟨a1, by show (chV W x').length = 1; rw [a2]; rfl⟩ a2 hE cb
          have q := ih y x' h1
          rw [← o.1 c c3] at q
          exact q
        · obtain ⟨g', cx', q, q', kk⟩ := rp y' x' hp
          have hP := kk.pk a1
          obtain ⟨i, i1, i2, i3, i4⟩ := zip_ix a2
          have i1 : i < (moG R y').length := i1
          have i3 : y = (moG R y').getD i 0 := i3
          rw [i3, i4]
          have kid := fun j (hj : j < (moG R y').length) => hk _ _ (hp.tr (DsR.kid kk.in a1 hP hj))
          refine L_ar Cg_lq hG iy' hP hE i1 hm (hw y' x' hp) (hl y' x' hp) (fun j hj => kid j (by omega) 0 (by omega)) (fun k6 => ?_) (fun k9 => ?_) c c3
          · rw [o6 k6]
            have e : i = 0 := Nat.eq_zero_of_not_pos (fun pos => one_6 hP k6 (fun {d} e => by rw [e] at i1; have i1 : i < 1 := i1; omega))
            rw [e]
            exact v3O_mo (hw y' x' hp 0 (by decide)) (kid 0 (by omega) 0 (by omega))
          · rw [o9 k9]
            have e : i = 0 := Nat.eq_zero_of_not_pos (fun pos => one_9 hP k9 (fun {d} e => by rw [e] at i1; have i1 : i < 1 := i1; omega))
            rw [e]
            exact v3O_mo (hw y' x' hp 3 (by decide)) (kid 0 (by omega) 2 (by omega))
    obtain ⟨k, h⟩ := hx
    exact main k y x h
  · -- codes
    have c4 : c = 4 := c4
    have nk : n < moC R := nk
    obtain ⟨g', cx', q, q', kk⟩ := rp y x hx
    show lq3 (FrA R I u c y n) (ck x n)
    unfold FrA
    rw [if_neg (by omega), if_pos c4, if_pos ⟨kk.in, nk⟩]
    have main : ∀ g' cx' x q q', RpN W (moM R) zn fn (vwM R) (hiM R) g' cx' y x q q' → DsR W R y0 x0 y x → lq3 (cdR R I u y n) (ck x n) := by
      intro g'
      induction g' with
      | zero => intro cx' x q q' h; unfold RpN at h; exact h.elim
      | succ g' ih =>
        intro cx' x q q' h hp
        obtain ⟨⟨hm, hnu, hE, hE2⟩, -, -⟩ := hS y x hp
        by_cases hne : cs1 W x
        · obtain ⟨c', e, k⟩ := h.one hne
          rw [(C_one hne e hE cb).2 n (by omega)]
          exact ih cx' c' q q' k (hp.tr (DsR.one h.in hne e))
        · have hP := h.pk hne
          have kp := fun i (hi : i < (moG R y).length) => hp.tr (DsR.kid h.in hne hP hi)
          refine L_cd Cg_lq hG h.in hP hE hE2 cb hm (fun i hi => (hS _ _ (kp i hi)).1.1) (hw y x hp) (hl y x hp) (fun i hi => hk _ _ (kp i hi)) (fun i hi j j1 j2 => ?_) h3 (fun k3 => ?_) nk
          · by_cases z : i < (moG R y).length
            · obtain ⟨cx2, q1, q2, k⟩ := h.kid hne i z
              exact C_z (I := I) hG cb h3.1 g' cx2 _ _ q1 q2 k (fun d c' q => (hS d c' ((kp i z).tr q)).1) j j1 j2
            · exact mis_z hP hE2 hi z (by omega) j2
          · obtain ⟨u1, v, u2, u3⟩ := hnu k3
            exact ⟨u1, v, by omega, u3⟩
    exact main g' cx' x q q' kk hx
  · -- signals
    have c5 : c = 5 := c5
    have n0 : n = 0 := n0
    have ys : y < moQ R := ys
    show lq3 (FrA R I u c y n) (cs y)
    unfold FrA
    rw [if_neg (by omega), if_neg (by omega), if_pos ⟨c5, ys, n0⟩]
    by_cases z : moT R y = 0
    · rw [if_pos z, hin y ys z]; exact lq3.rf
    · rw [if_neg z]
      exact hem u (fun d c h => hw d c h 0 (by decide)) y ys z
end
