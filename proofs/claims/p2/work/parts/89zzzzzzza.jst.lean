/-! stuck: some net is not known where some wire of the reference is not -/
section
variable {W : Wo} {R : RMo} {I : RIn} {Ψ : Wg} {P : Nat → Nat → Int32} {Θ : TrT} {tb : Nat → Bool} {tv : Nat → Nat} {zn fn g y0 x0 : Nat} {ρ : Plc → Nat} {v : Nat → Nat}
theorem lvN_k {l : Nat} (h : v (l / 2) ≠ 2) : lvN v l ≠ 2 := by
  unfold lvN
  by_cases z : l % 2 = 0
  · rw [if_pos z]; exact h
  · rw [if_neg z]
    unfold v3N
    rw [if_neg h]
    omega
theorem v3A_k {a c : Nat} (ha : a ≤ 2) (hc : c ≤ 2) (h : a ≠ 2) (k : c ≠ 2) : v3A a c ≠ 2 := by
  unfold v3A
  by_cases z : a = 0 ∨ c = 0
  · rw [if_pos z]; decide
  · rw [if_neg z, if_pos (show a = 1 ∧ c = 1 by omega)]; decide
theorem v3O_k {a c : Nat} (ha : a ≤ 2) (hc : c ≤ 2) (h : a ≠ 2) (k : c ≠ 2) : v3O a c ≠ 2 := by
  unfold v3O
  by_cases z : a = 1 ∨ c = 1
  · rw [if_pos z]; decide
  · rw [if_neg z, if_pos (show a = 0 ∧ c = 0 by omega)]; decide
def KnR (R : RMo) (ρ : Plc → Nat) : Prop := ∀ y, inR R y → (∀ q, q ≤ 3 → ρ (q, y, 0) ≠ 2) ∧ ∀ n, n < moC R → ρ (4, y, n) ≠ 2
theorem J_st (hT : TwT W R zn fn y0 x0 g) (hC : ClW W R I Ψ P Θ (noL (chV W) g x0) tb tv y0 x0) (h3 : 3 ≤ moC R ∧ moC R ≤ 20) (h2 : ∀ j, ρ j ≤ 2) (hfx : ∀ i, FrR R I ρ i = ρ i) (vx : ∀ n, FcN Ψ.1 tb tv v n = v n) (hM : ∀ d c, DsR W R y0 x0 d c → MtE R ρ (cvW P v) (ckW P v) d c) (hs : ∀ s, s < moQ R → ρ (5, s, 0) = v (2 + s)) : (∀ n, n < Ψ.1.length → v n ≠ 2) ↔ KnR R ρ := by
  have gv := J_v hC vx
  obtain ⟨hG, hA, hy, ⟨p', hR⟩, hall⟩ := id hT
  have ft := RpN.ft g [] y0 x0 0 p' hR
  obtain ⟨⟨hRo, hl, hq⟩, hN, -, hO, -⟩ := id hC
  have le := gv.1.1.2.1
  refine ⟨fun h y iy => ?_, fun h => ?_⟩
  · obtain ⟨k, ak⟩ := hall y iy
    obtain ⟨x, cx, g', q, q', d1, d2, d3⟩ := cov_a hG hR k y ak iy
    have xl : x ∈ noL (chV W) g x0 := by
      obtain ⟨n, d1⟩ := d1
      exact ds_no ft n y x d1
    obtain ⟨⟨o1, o2⟩, -⟩ := hO x xl
    have kn : ∀ {r : Int32}, okI Ψ r → lV v r ≠ 2 := fun {r} ⟨l, e, hl2⟩ => by
      rw [e, lV_of (by omega)]
      exact lvN_k (h _ (by omega))
    obtain ⟨m1, m2⟩ := hM y x d1
    refine ⟨fun q hq => ?_, fun n hn => ?_⟩
    · rw [m1 q hq]; exact kn (o1 (22 + q) (by omega) (by omega))
    · rw [m2 n hn]; exact kn (o2 n (by omega))
  · have main : ∀ b n, n < b → n < Ψ.1.length → v n ≠ 2 := by
      intro b
      induction b with
      | zero => intro n hb; exact absurd hb (Nat.not_lt_zero _)
      | succ b ih =>
        intro n hb hn
        have sq : ∀ {f : (Nat → Nat) → Nat}, ClQ Ψ n f → tb n = false → v n = f v := fun {f} c tf => by
          obtain ⟨lc, c1, -, c3⟩ := c
          rw [← c3 v _ gv.1, ← vx n]
          unfold FcN
          rw [if_pos hn, if_neg (by rw [tf]; decide), c1]
          exact v3A_s (lv_le le)
        rcases id (hN n hn) with ⟨a, tf⟩ | ⟨-, a, t2, -⟩ | ⟨tf, t, t1, t2, t3, t4, t5⟩ | ⟨tf, z, z1, z2, z3, z4⟩
        · obtain ⟨q1, q2⟩ := hRo.2.1 n hn a
          rw [gv.1.1.2.2 n hn a]
          exact v3A_k (lv_le le) (lv_le le) (lvN_k (ih _ (by omega) (by omega))) (lvN_k (ih _ (by omega) (by omega)))
        · rw [gv.2 n hn a]; omega
        · rw [t3, ← hs t t1, ← hfx (5, t, 0)]
          show FrA R I ρ 5 t 0 ≠ 2
          unfold FrA
          rw [if_neg (by decide), if_neg (by decide), if_pos ⟨rfl, t1, rfl⟩, if_neg t2]
          intro e2
          obtain ⟨e1, e0, -⟩ := emR_e (R := R) (u := ρ) (s := t) (moS R).1
          have z0 : emR R ρ t (moS R).1 = 0 := e0.mpr (fun j j1 j2 => by
            have k := (h (700 * moM R + j) ⟨by omega, by omega⟩).1 0 (by decide)
            have k2 := h2 (0, 700 * moM R + j, 0)
            have k1 : ρ (0, 700 * moM R + j, 0) ≠ 1 := fun z => by
              have := e1.mpr ⟨j, j1, j2, z⟩
              omega
            omega)
          omega
        · rw [sq z4 tf]
          have kz : (woV W z).1 = 6 ∨ (woV W z).1 = 9 := by
            rcases z2 with ⟨e, -⟩ | ⟨e, -⟩
            · exact Or.inl e
            · exact Or.inr e
          rcases cov_b g [] y0 x0 0 p' hR z z1 with ⟨d, dd⟩ | ⟨k0, -⟩
          · obtain ⟨n', dn⟩ := id dd
            obtain ⟨g', cx', q, q', kk⟩ := DsI.rp n' (y0, x0) g [] 0 p' dn hR
            have hne : ¬ cs1 W z := fun y => by
              have := y.1
              rcases kz with e | e <;> (rw [e] at this; exact absurd this (by decide))
            have kk : RpN W (moM R) zn fn (vwM R) (hiM R) g' cx' d z q q' := kk
            have hP := kk.pk hne
            have l0 : 0 < (moG R d).length := by
              rcases hP with ⟨-, -, e, -⟩ | ⟨a, -⟩ | ⟨a, -⟩ | ⟨a, -⟩ | ⟨a, -⟩ | ⟨a, -⟩ | ⟨-, -, c1, d1, -, e⟩ | ⟨-, -, c1, d1, -, e⟩ | ⟨-, -, e, -⟩ | ⟨-, -, c1, d1, -, e⟩
              · omega
              · rcases kz with e | e <;> (rw [e] at a; exact absurd a (by decide))
              · rcases kz with e | e <;> (rw [e] at a; exact absurd a (by decide))
              · rcases kz with e | e <;> (rw [e] at a; exact absurd a (by decide))
              · rcases kz with e | e <;> (rw [e] at a; exact absurd a (by decide))
              · rcases kz with e | e <;> (rw [e] at a; exact absurd a (by decide))
              · rw [e]; simp
              · rw [e]; simp
              · omega
              · rw [e]; simp
            have kid := kid_up hG kk.in l0
            have md := hM d z dd
            have mk := hM _ _ (dd.tr (DsR.kid kk.in hne hP l0))
            have b1 := h d kk.in
            have b2 := h _ kid.2.2.2.2
            unfold clO
            by_cases k6 : (woV W z).1 = 6
            · rw [if_pos k6, ← md.1 0 (by decide), ← mk.2 0 (by omega)]
              exact v3O_k (h2 _) (h2 _) (b1.1 0 (by decide)) (b2.2 0 (by omega))
            · rw [if_neg k6, ← md.1 3 (by decide), ← mk.2 2 (by omega)]
              exact v3O_k (h2 _) (h2 _) (b1.1 3 (by decide)) (b2.2 2 (by omega))
          · rcases kz with e | e <;> (rw [e] at k0; exact absurd k0 (by decide))
    intro n hn
    exact main (n + 1) n (by omega) hn
end
