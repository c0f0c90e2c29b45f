/-! what the reference has built, as its equations want it -/
def mkR (τ : Td) (m : Nat) (σ : PS) (S : RBs) (G : Nat → List Nat) (mk nu : Nat → Int32) (km : Nat) : RMo := (m, S, G, σ.1.2.1, mk, nu, km, σ.2.2.2, τ.1.length, fun s => τ.2.1.getD s 0 - 30)
section
variable {τ : Td} {m : Nat} {σ : PS} {root : Nat} {γ : Gh} {g0 g y p' np km : Nat} {pn mk nu co : Nat → Int32} {S : RBs} {G : Nat → List Nat} {sl : List Nat} {M' : Mem}
/-- the reference's module, built -/
def BuW (τ : Td) (m : Nat) (σ : PS) (root : Nat) (γ : Gh) (pn : Nat → Int32) (S : RBs) (G : Nat → List Nat) (mk nu co : Nat → Int32) (sl : List Nat) (km g y : Nat) (M' : Mem) : Prop := BuR (woS τ m σ γ) ((trS σ).2.2 12) m σ.2.2.2.length (ifS σ).length σ.1.2.1 pn S G mk nu co sl km g y root (trS σ).2.1 (npS σ) M'
theorem BuW.tw (h : BuW τ m σ root γ pn S G mk nu co sl km g y M') : TwT (woS τ m σ γ) (mkR τ m σ S G mk nu km) σ.2.2.2.length (ifS σ).length y root g := by
  obtain ⟨h1, h2, ⟨h3, h3'⟩, h4, h5, h6, h7⟩ := h
  exact ⟨h2, rfl, ⟨h3.1, h3.2⟩, ⟨_, h4⟩, fun z hz => h7 z hz.1 hz.2⟩
theorem BuW.pr (h : BuW τ m σ root γ pn S G mk nu co sl km g y M') : PrK (woS τ m σ γ) (mkR τ m σ S G mk nu km) (trS σ) y root := by
  intro d c hd
  obtain ⟨n, hd⟩ := hd
  obtain ⟨h1, h2, h3, h4, ⟨h5, -⟩, h6, h7⟩ := h
  obtain ⟨g', v⟩ := DsI.vl n (y, root) g hd h5
  have v := VlN.hd (S0 := S) (G := G) v
  obtain ⟨v1, v2, v3, v4, -⟩ := v
  refine ⟨v1.symm, fun k3 => ⟨v3 (Or.inr k3), ?_⟩⟩
  obtain ⟨u, u1, u2⟩ := v4 k3
  exact ⟨2 + u, by show 2 + u < km; omega, u1⟩
theorem BuW.tu (hE : RdE τ m σ root γ g0) (hX : RdX τ σ root γ) (h : BuW τ m σ root γ pn S G mk nu co sl km g y M') : TrU (woS τ m σ γ) (mkR τ m σ S G mk nu km) y root := by
  obtain ⟨-, -, -, ⟨p', hR⟩, -⟩ := h.tw
  have ft : FtN γ.1 g root := RpN.ft g [] y root 0 p' hR
  have hx := hE.2.2.2.2.1
  have bd : ∀ z, 1 ≤ z → z < (trS σ).1 → ∀ c ∈ γ.1 z, 1 ≤ c ∧ c < (trS σ).1 := fun z z1 z2 c hc => (hE.1.1.2.1 z z1 z2).2.2.1 c hc
  have par : ∀ z a, 1 ≤ a ∧ a < (trS σ).1 → z ∈ γ.1 a → (trS σ).2.2 9 z = Int32.ofNat a ∧ a < 640 := fun z a ha hz => by
    have w := (hE.1.1.2.1 a ha.1 ha.2).1
    have := hE.1.1.1.2
    exact ⟨w.2.2.2.1 z hz, by omega⟩
  refine ⟨fun a => 1 ≤ a ∧ a < (trS σ).1, fun d c hd => ?_, fun z a b ha hb za zb => ?_, fun a ha => ?_, fun a ha hz => ?_⟩
  · obtain ⟨n, hd⟩ := hd
    have q : c ∈ noL γ.1 g root := ds_no (W := woS τ m σ γ) ft n d c hd
    exact noL_bd bd g root hx c q
  · obtain ⟨a1, a2⟩ := par z a ha za
    obtain ⟨b1, b2⟩ := par z b hb zb
    exact inj32 (by omega) (by omega) (a1.symm.trans b1)
  · exact (hE.1.1.2.1 a ha.1 ha.2).2.1
  · obtain ⟨a1, a2⟩ := par root a ha hz
    rw [hX.1] at a1
    have := inj32 (a := 0) (b := a) (by decide) (by omega) a1
    omega
theorem BuW.st (h : BuW τ m σ root γ pn S G mk nu co sl km g y M') : StL (mkR τ m σ S G mk nu km) sl := by
  obtain ⟨h1, h2, h3, h4, ⟨h5, ⟨s1, s2, s3⟩, s4⟩, h6, h7⟩ := h
  have h7' := h2.1.2
  refine ⟨fun s hs => ?_, fun z hz => s3 z hz.1 hz.2, ?_⟩
  · obtain ⟨a1, a2⟩ := s2 s hs
    refine ⟨s / 2, ⟨?_, ?_⟩, by omega⟩
    · show 700 * m ≤ s / 2
      omega
    · show s / 2 < 700 * m + S.1
      omega
  · have := nodup_iv (a := 1400 * m) (n := 2 * S.1) s1 (fun z hz => by have := s2 z hz; omega)
    omega
theorem BuW.nl (hE : RdE τ m σ root γ g0) (hM : EmN τ (trS σ)) (h : BuW τ m σ root γ pn S G mk nu co sl km g y M') : NdL (mkR τ m σ S G mk nu km) ∧ EmL (mkR τ m σ S G mk nu km) := by
  have hT := h.tw
  have hU := hT
  obtain ⟨hG, hA, hy, ⟨p', hR⟩, hall⟩ := hT
  have h4 : m < 4 := hG.1.1
  have ft : FtN γ.1 g root := RpN.ft g [] y root 0 p' hR
  have hx := hE.2.2.2.2.1
  have bd : ∀ z, 1 ≤ z → z < (trS σ).1 → ∀ c ∈ γ.1 z, 1 ≤ c ∧ c < (trS σ).1 := fun z z1 z2 c hc => (hE.1.1.2.1 z z1 z2).2.2.1 c hc
  obtain ⟨R, eR⟩ : ∃ R, R = mkR τ m σ S G mk nu km := ⟨_, rfl⟩
  rw [← eR] at hG hA hy hR hall ⊢
  have eM : moM R = m := by rw [eR]; rfl
  have eQ : moQ R = τ.1.length := by rw [eR]; rfl
  have eY : moY R = σ.2.2.2 := by rw [eR]; rfl
  have eA : moA R = σ.1.2.1 := by rw [eR]; rfl
  have eT : ∀ s, moT R s = τ.2.1.getD s 0 - 30 := fun s => by rw [eR]; rfl
  -- every node has its pair
  have pair : ∀ z, inR R z → ∃ x cx g' q q', (1 ≤ x ∧ x < (trS σ).1) ∧ ¬ cs1 (woS τ m σ γ) x ∧ RpN (woS τ m σ γ) (moM R) σ.2.2.2.length (ifS σ).length (vwM R) (hiM R) (g' + 1) cx z x q q' := fun z hz => by
    obtain ⟨k, ak⟩ := hall z hz
    obtain ⟨x, cx, g', q, q', ⟨n, d1⟩, d2, d3⟩ := cov_a hG hR k z ak hz
    have xm : x ∈ noL γ.1 g root := ds_no (W := woS τ m σ γ) ft n z x d1
    have xb := noL_bd bd g root hx x xm
    cases g' with
    | zero => unfold RpN at d3; exact d3.elim
    | succ g' => exact ⟨x, cx, g', q, q', xb, d2, d3⟩
  have cdr : ∀ {j : Nat} {l : Int32}, j < 40 → CdW (woS τ m σ γ) (moM R) σ.2.2.2.length (40 * moM R + j) l → ∃ f c, CdR R (40 * moM R + j) f c := fun {j l} hj cw => by
    obtain ⟨f, c, c1, c2, c3, c4, c5, -⟩ := cw
    refine ⟨f, c, ⟨by omega, by omega⟩, c1, by rw [eY]; exact c2, by rw [eA]; exact c3, by rw [eA]; exact c4, ?_⟩
    rw [eQ, eY]
    exact c5
  have em : ∀ z, inR R z → (moS R).2 80 z = 1 → ∃ s, s < moQ R ∧ moA R 60 ((moS R).2 81 z).toNatClampNeg = Int32.ofNat s ∧ moT R s ≠ 0 := fun z hz k1 => by
    obtain ⟨x, cx, g', q, q', xb, d2, d3⟩ := pair z hz
    obtain ⟨m1, m2⟩ := d3.em hA (by omega) d2
    have k2 := m1.mp k1
    obtain ⟨s, s1, s2, s3⟩ := hM x xb.1 xb.2 k2
    refine ⟨s, by omega, by rw [m2 k2]; exact s2, fun e => s3 ?_⟩
    rw [eT] at e
    have : τ.2.1.getD s 0 = 30 := by
      have := Int32.sub_add_cancel (τ.2.1.getD s 0) 30
      rw [e] at this
      rw [← this]
      rfl
    exact this
  refine ⟨fun z hz => ?_, em⟩
  obtain ⟨x, cx, g', q, q', xb, d2, d3⟩ := pair z hz
  have hP := d3.pk d2
  have kd : ∃ t, t ≤ 10 ∧ (moS R).2 80 z = Int32.ofNat t := by
    rcases hP with ⟨-, b, -⟩ | ⟨-, -, b, -⟩ | ⟨-, -, b, -⟩ | ⟨-, -, b, -⟩ | ⟨-, -, b, -⟩ | ⟨-, b | b, -⟩ | ⟨-, b, -⟩ | ⟨-, b, -⟩ | ⟨-, b, -⟩ | ⟨-, b, -⟩
    · exact ⟨6, by decide, b⟩
    · exact ⟨0, by decide, b⟩
    · exact ⟨2, by decide, b⟩
    · exact ⟨1, by decide, b⟩
    · exact ⟨3, by decide, b⟩
    · exact ⟨4, by decide, b⟩
    · exact ⟨5, by decide, b⟩
    · exact ⟨7, by decide, b⟩
    · exact ⟨8, by decide, b⟩
    · exact ⟨9, by decide, b⟩
    · exact ⟨10, by decide, b⟩
  have ne : (moS R).2 80 z = 4 ∨ (moS R).2 80 z = 5 ∨ (moS R).2 80 z = 6 ∨ (moS R).2 80 z = 7 ∨ (moS R).2 80 z = 8 ∨ (moS R).2 80 z = 10 → moG R z ≠ [] := fun hk e => by
    have no : ∀ {a : Int32}, (moS R).2 80 z = a → a ≠ 4 → a ≠ 5 → a ≠ 6 → a ≠ 7 → a ≠ 8 → a ≠ 10 → False := fun {a} ea n4 n5 n6 n7 n8 n10 => by
      rcases hk with y | y | y | y | y | y
      · exact n4 (ea.symm.trans y)
      · exact n5 (ea.symm.trans y)
      · exact n6 (ea.symm.trans y)
      · exact n7 (ea.symm.trans y)
      · exact n8 (ea.symm.trans y)
      · exact n10 (ea.symm.trans y)
    rcases hP with ⟨-, -, b, -⟩ | ⟨-, -, b, -⟩ | ⟨-, -, b, -⟩ | ⟨-, -, b, -⟩ | ⟨-, -, b, -⟩ | ⟨-, -, c1, c2, d1, -, ⟨b, -⟩ | ⟨e2, b⟩⟩ | ⟨-, -, c, d, -, b⟩ | ⟨-, -, c, d, -, b⟩ | ⟨-, -, b, -⟩ | ⟨-, -, c, d, -, b⟩
    · rw [e] at b; exact absurd b (by decide)
    · exact no b (by decide) (by decide) (by decide) (by decide) (by decide) (by decide)
    · exact no b (by decide) (by decide) (by decide) (by decide) (by decide) (by decide)
    · exact no b (by decide) (by decide) (by decide) (by decide) (by decide) (by decide)
    · exact no b (by decide) (by decide) (by decide) (by decide) (by decide) (by decide)
    · rw [e] at b; cases b
    · rw [e] at b; cases b
    · rw [e] at b; cases b
    · rw [e] at b; cases b
    · rw [e] at b; exact absurd b (by decide)
    · rw [e] at b; cases b
  refine ⟨kd, fun hk => ?_, fun hk => ?_, fun k1 => ?_, ne⟩
  · unfold RpN at d3
    obtain ⟨-, d3⟩ := d3
    have no : ∀ {a : Int32}, (vwM R z).1 = a → a ≠ 5 → a ≠ 1 → False := fun {a} ea n5 n1 => by
      have ea : (moS R).2 80 z = a := ea
      rcases hk with y | y
      · exact n5 (ea.symm.trans y)
      · exact n1 (ea.symm.trans y)
    rcases d3 with ⟨a, c, b1, -⟩ | ⟨-, b, -⟩ | ⟨-, -, b, -⟩ | ⟨-, -, -, b, -⟩ | ⟨-, -, -, -, ⟨j, j1, j2, -⟩, -⟩ | ⟨-, -, b, -⟩ | ⟨-, b, -⟩ | ⟨-, b, -⟩ | ⟨-, b, -⟩ | ⟨-, b, -⟩ | ⟨-, b, -⟩
    · exact absurd ⟨a, by show (woV (woS τ m σ γ) x).2.2.2.length = 1; rw [b1]; rfl⟩ d2
    · exact (no b (by decide) (by decide)).elim
    · exact (no b (by decide) (by decide)).elim
    · exact (no b (by decide) (by decide)).elim
    · exact ⟨j, j1, j2⟩
    · exact (no b (by decide) (by decide)).elim
    · rcases b with ⟨so, -⟩ | ⟨so, j, f, j1, j2, -⟩
      · exact (no so (by decide) (by decide)).elim
      · exact ⟨j, j1, j2⟩
    · exact (no b (by decide) (by decide)).elim
    · exact (no b (by decide) (by decide)).elim
    · exact (no b (by decide) (by decide)).elim
    · exact (no b (by decide) (by decide)).elim
  · unfold RpN at d3
    obtain ⟨-, d3⟩ := d3
    have no : ∀ {a : Int32}, (vwM R z).1 = a → a ≠ 4 → a ≠ 8 → False := fun {a} ea n5 n1 => by
      have ea : (moS R).2 80 z = a := ea
      rcases hk with y | y
      · exact n5 (ea.symm.trans y)
      · exact n1 (ea.symm.trans y)
    rcases d3 with ⟨a, c, b1, -⟩ | ⟨-, b, -⟩ | ⟨-, -, b, -⟩ | ⟨-, -, -, b, -⟩ | ⟨-, -, b, -⟩ | ⟨-, -, b, -⟩ | ⟨-, b, -⟩ | ⟨-, b, -⟩ | ⟨-, -, ⟨j, j1, j2, j3⟩, -⟩ | ⟨-, b, -⟩ | ⟨-, b, -⟩
    · exact absurd ⟨a, by show (woV (woS τ m σ γ) x).2.2.2.length = 1; rw [b1]; rfl⟩ d2
    · exact (no b (by decide) (by decide)).elim
    · exact (no b (by decide) (by decide)).elim
    · exact (no b (by decide) (by decide)).elim
    · exact (no b (by decide) (by decide)).elim
    · exact (no b (by decide) (by decide)).elim
    · rcases b with ⟨so, j, j1, j2, j3⟩ | ⟨so, -⟩
      · obtain ⟨f, c, q⟩ := cdr j1 j3
        exact ⟨j, f, c, j1, j2, q⟩
      · exact (no so (by decide) (by decide)).elim
    · exact (no b (by decide) (by decide)).elim
    · obtain ⟨f, c, q⟩ := cdr j1 j3
      exact ⟨j, f, c, j1, j2, q⟩
    · exact (no b (by decide) (by decide)).elim
    · exact (no b (by decide) (by decide)).elim
  · obtain ⟨s, s1, s2, -⟩ := em z hz k1
    exact ⟨s, s1, s2⟩
end
