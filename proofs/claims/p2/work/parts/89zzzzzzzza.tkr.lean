/-! tasks of parts: all that is read -/
/-- nothing that tasks need -/
def Nw0 (σ σ1 : PS) : Prop := (σ1.1.1 0 = σ.1.1 0 ∧ σ1.1.1 2 = σ.1.1 2) ∧ (∀ c x, tsC c → σ1.1.2.1 c x = σ.1.2.1 c x) ∧ (∀ i f, 3 ≤ f → σ1.2.1.1 i f = σ.2.1.1 i f) ∧ σ1.2.2.1 = σ.2.2.1 ∧ coS σ1 = coS σ
section
variable {b : Nat → Int32} {n m : Nat} {τ : Td} {σ σ1 σ2 : PS}
theorem Nw0.rf : Nw0 σ σ := ⟨⟨rfl, rfl⟩, fun _ _ _ => rfl, fun _ _ _ => rfl, rfl, rfl⟩
theorem Nw0.tr (h : Nw0 σ σ1) (k : Nw0 σ1 σ2) : Nw0 σ σ2 := ⟨⟨k.1.1.trans h.1.1, k.1.2.trans h.1.2⟩, fun c x hc => (k.2.1 c x hc).trans (h.2.1 c x hc), fun i f hf => (k.2.2.1 i f hf).trans (h.2.2.1 i f hf), k.2.2.2.1.trans h.2.2.2.1, k.2.2.2.2.trans h.2.2.2.2⟩
theorem Nw0.of (h : ∀ y, Nv m y σ σ1) : Nw0 σ σ1 := by
  refine ⟨⟨by rw [(h 0).1], by rw [(h 0).1]⟩, fun c x hc => (h (x + 1)).2.1 c x hc (fun _ => by omega), (h 0).2.2.1, (h 0).2.2.2.1, (h 0).2.2.2.2⟩
theorem Nw0.tk (h : Nw0 σ σ1) (hT : TkI τ m σ) : TkI τ m σ1 := hT.st ⟨fun c hc j _ => h.2.1 c _ hc, fun j _ f hf => h.2.2.1 j f hf, ⟨[], by rw [List.append_nil]; exact h.2.2.2.1⟩, [], by rw [List.append_nil]; exact h.2.2.2.2⟩ h.1.1 h.1.2
theorem Nw0.t1 {T : TrT} (h : Nw0 σ σ1) : Nw0 σ (trP1 σ1 T) := h
theorem Nw0.pa {j f : Nat} {v : Int32} (h : Nw0 σ σ1) (hf : f < 3) : Nw0 σ (paP σ1 j f v) := by
  refine ⟨h.1, h.2.1, fun i f' hf' => ?_, h.2.2.2⟩
  show up2 σ1.2.1.1 j f v i f' = _
  rw [up2_ne (fun z => by omega)]
  exact h.2.2.1 i f' hf'
theorem Nw0.ra {A : Nat → Nat → Int32} (h : Nw0 σ σ1) (hA : ∀ c x, tsC c → A c x = σ1.1.2.1 c x) : Nw0 σ (raP σ1 A) := ⟨h.1, fun c x hc => (hA c x hc).trans (h.2.1 c x hc), h.2.2⟩
theorem nw_tl {k : Int32} {j aw lit x i o : Nat} {r : Nat × PS × Nat} (e : tlM b n m τ k j aw lit x i o σ = .ok r) : Nw0 σ r.2.1 := by
  unfold tlM at e
  by_cases k1 : k = 42
  · rw [if_pos k1] at e
    obtain ⟨i2, -, e⟩ := bind_ok e
    have e := Except.ok.inj e
    rw [← e]
    refine Nw0.t1 ?_
    by_cases z : (trS σ).2.2 13 x &&& 1 = 0
    · rw [if_pos z]; exact Nw0.rf
    · rw [if_neg z]; exact Nw0.rf.pa (by decide)
  rw [if_neg k1] at e
  by_cases k2 : k = 49
  · rw [if_pos k2] at e
    obtain ⟨i2, -, e⟩ := bind_ok e
    obtain ⟨u, e1, e⟩ := bind_ok e
    obtain ⟨i3, -, e⟩ := bind_ok e
    have h : Nw0 σ u.2.1 := Nw0.of (fun y => nv_at e1)
    by_cases z : u.2.2.2 = true
    · rw [if_pos z] at e
      have e := Except.ok.inj e
      rw [← e]
      exact h.t1
    · rw [if_neg z] at e
      have e := Except.ok.inj e
      rw [← e]
      exact h.t1
  rw [if_neg k2] at e
  by_cases k3 : k = 50
  · rw [if_pos k3] at e
    obtain ⟨i2, -, e⟩ := bind_ok e
    obtain ⟨u, e1, e⟩ := bind_ok e
    obtain ⟨i3, -, e⟩ := bind_ok e
    have h : Nw0 σ u.2.1 := Nw0.of (fun y => nv_at e1)
    have e := Except.ok.inj e
    rw [← e]
    exact h.t1
  rw [if_neg k3] at e
  by_cases k4 : k = 52
  · rw [if_pos k4] at e
    obtain ⟨i2, -, e⟩ := bind_ok e
    obtain ⟨u, e1, e⟩ := bind_ok e
    obtain ⟨i3, -, e⟩ := bind_ok e
    have h : Nw0 σ u.2.1 := Nw0.of (fun y => nv_co e1)
    have e := Except.ok.inj e
    rw [← e]
    exact h.t1
  rw [if_neg k4] at e
  by_cases k5 : k = 53
  · rw [if_pos k5] at e
    obtain ⟨i2, -, e⟩ := bind_ok e
    have e := Except.ok.inj e
    rw [← e]
    exact Nw0.rf.t1
  rw [if_neg k5] at e
  obtain ⟨i2, -, e⟩ := bind_ok e
  have e := Except.ok.inj e
  rw [← e]
  exact Nw0.rf.t1
theorem nw_rw {p : Nat} {q : Option Nat} : Nw0 σ (rwP p q σ) := by
  refine ⟨⟨rfl, rfl⟩, fun c x hc => ?_, fun _ _ _ => rfl, rfl, rfl⟩
  have h1 : c ≠ 69 := by unfold tsC at hc; omega
  have h2 : c ≠ 73 := by unfold tsC at hc; omega
  have h3 : c ≠ 74 := by unfold tsC at hc; omega
  have h4 : c ≠ 75 := by unfold tsC at hc; omega
  cases q with
  | none =>
    show up2 (up2 (up2 (up2 σ.1.2.1 73 _ _) 74 _ _) 75 _ _) 69 _ _ c x = _
    rw [up2_row h1, up2_row h4, up2_row h3, up2_row h2]
  | some q =>
    show up2 (up2 (up2 (up2 σ.1.2.1 73 _ _) 74 _ _) 75 _ _) 75 _ _ c x = _
    rw [up2_row h4, up2_row h4, up2_row h3, up2_row h2]
theorem nw_fi {j x : Nat} : Nw0 σ (fiP m j x σ) := by
  unfold fiP
  refine Nw0.ra (Nw0.rf.pa (by decide)) (fun c y hc => ?_)
  have h1 : c ≠ 71 := by unfold tsC at hc; omega
  show up2 σ.1.2.1 71 _ _ c y = σ.1.2.1 c y
  rw [up2_row h1]
theorem rp_tk (hB : By b) (hv : HvT τ) {g md : Nat} {K : List KE} {i : Nat} {a1 a2 a3 a4 : Nat} {c1 c2 : Int32} {r : Nat × PS × Nat} (hm : md ≤ 3) (hK : K.length ≤ 15) (h3 : md = 3 → K.length ≤ 14) (e : rp b n m τ g md K i σ a1 a2 a3 a4 c1 c2 = .ok r) (hT : TkI τ m σ) : TkI τ m r.2.1 := by
  refine rp_gen2 (b := b) (n := n) (m := m) (τ := τ) (fun s t => TkI τ m s → TkI τ m t) (fun _ h => h) (fun _ _ _ h1 h2 h => h2 (h1 h)) ?_ ?_ ?_ ?_ ?_ ?_ ?_ ?_ ?_ ?_ g md K i σ a1 a2 a3 a4 c1 c2 r hm hK h3 e hT
  · exact fun k w pl q i K s r hK hw ho e h => tk_lf hB hv hK hw ho e h
  · exact fun k w pl q i K s r hK ho e h => tk_hd hB hv hK ho e h
  · exact fun k j aw lit x i o s r e h => (nw_tl e).tk h
  · intro lit x y i s r e h
    unfold chM at e
    obtain ⟨i2, -, e⟩ := bind_ok e
    have e := Except.ok.inj e
    rw [← e]
    exact (Nw0.rf (σ := s)).t1.tk h
  · exact fun s k _ h => (Nw0.rf (σ := s)).t1.tk h
  · exact fun s a c h => (show Nw0 s (hgP s a c) from Nw0.rf).tk h
  · exact fun s g u h => (show Nw0 s (guP s g u) from Nw0.rf).tk h
  · exact fun s j h => ((Nw0.rf (σ := s)).pa (by decide)).tk h
  · exact fun s p q h => nw_rw.tk h
  · exact fun s j x h => nw_fi.tk h
end
/-- a whole reading: the tasks of its parts -/
theorem rdm_tk {b : Nat → Int32} {n m : Nat} {A : Nat → Nat → Int32} {B : Nat → Int64} {Zt : Nat → Nat → Int32} {r : Nat × Td × PS × Nat} (hB : By b) (hv : HvT r.2.1) (e : rdM b n m A B Zt = .ok r) : TkI r.2.1 m r.2.2.1 := by
  unfold rdM at e
  by_cases k0 : tK b n 0 = 0
  · rw [if_pos k0] at e; cases e
  rw [if_neg k0] at e
  obtain ⟨q, et, e⟩ := bind_ok e
  obtain ⟨p, eq, e⟩ := bind_ok e
  cases e
  unfold rdQ at eq
  obtain ⟨u, eu, ep⟩ := bind_ok eq
  have up : u = p := by
    by_cases z : tK b n u.1 = 1
    · rw [if_pos z] at ep; cases ep; rfl
    · rw [if_neg z] at ep; cases ep
  subst up
  exact rp_tk hB hv (by decide) (by decide) (fun z => absurd z (by decide)) eu ⟨fun j hj => absurd hj (Nat.not_lt_zero _), rfl⟩
