/-! every node is as the weaver may meet it -/
theorem hd_gd0 {l : List Nat} : l.headD 0 = l.getD 0 0 := by cases l <;> rfl
section
variable {Θ : TrT} {G : Nat → List Nat} {z nb : Nat}
theorem TG.chl (hT : TG Θ G) (hz : 1 ≤ z ∧ z < Θ.1) (hf : ∃ g, FtN G g z) : ChL Θ z (G z) ∧ ∀ i, i < (G z).length → Θ.2.2 9 ((G z).getD i 0) = Int32.ofNat z := by
  obtain ⟨⟨t1, t2⟩, t3, -⟩ := hT
  obtain ⟨⟨l6, l7, l8, l9, l8e⟩, nd, bd, -⟩ := t3 z hz.1 hz.2
  obtain ⟨ρ, hr⟩ := ft_rho (G := G)
  refine ⟨⟨by rw [l6, hd_gd0], fun i hi => ?_, fun i hi => ?_, fun i j hi hj e => gd_inj nd hi hj e, ?_⟩, fun i hi => l9 _ (gd_mem hi)⟩
  · by_cases y : i + 1 < (G z).length
    · exact l8 i y
    · have e : i = (G z).length - 1 := by omega
      have ne : G z ≠ [] := fun q => by rw [q] at hi; exact absurd hi (Nat.not_lt_zero _)
      have q := l8e ne
      rw [gl_eq _ _ ne, ← e] at q
      rw [q, show i + 1 = (G z).length by omega, gd_end]; rfl
  · have q := bd _ (gd_mem hi)
    refine ⟨q.1, by omega, fun e => ?_⟩
    have m := gd_mem hi
    rw [e] at m
    have := hr z z ⟨m, hf⟩
    omega
  · have := nodup_iv (a := 1) (n := Θ.1 - 1) nd (fun s hs => by have := bd s hs; omega)
    omega
/-- by kind, code, condition, children -/
theorem sh_of (hT : TG Θ G) (hA : CdA Θ) (hz : 1 ≤ z ∧ z < Θ.1) (hf : ∃ g, FtN G g z) (c1 : Θ.2.2 5 z = 1 → ∃ p, p < 24 ∧ Θ.2.2 11 z = Int32.ofNat p) (c3 : Θ.2.2 5 z = 3 → ∃ v, v < 16 ∧ Θ.2.2 11 z = 2 + Int32.ofNat v) (cc : Θ.2.2 5 z = 4 ∨ Θ.2.2 5 z = 7 → ∃ l, Θ.2.2 10 z = Int32.ofNat l ∧ l < 2 * nb) (ck : G z ≠ [] → Θ.2.2 5 z = 4 ∨ Θ.2.2 5 z = 5 ∨ Θ.2.2 5 z = 6 ∨ Θ.2.2 5 z = 7 ∨ Θ.2.2 5 z = 8 ∨ Θ.2.2 5 z = 9) (cl : Θ.2.2 5 z = 6 ∨ Θ.2.2 5 z = 9 → (G z).length ≤ 1) : ShN Θ G nb z := by
  obtain ⟨h1, h2⟩ := hT.chl hz hf
  refine ⟨⟨hz.1, hz.2, by have := hT.1.2; omega⟩, ?_, cc, h1, h2, ck, cl⟩
  by_cases k1 : Θ.2.2 5 z = 1
  · obtain ⟨p, p1, p2⟩ := c1 k1
    exact ⟨p, p2, by omega, fun _ => p1, fun y => absurd (k1.symm.trans y) (by decide), fun y => absurd (k1.symm.trans y) (by decide)⟩
  by_cases k3 : Θ.2.2 5 z = 3
  · obtain ⟨v, v1, v2⟩ := c3 k3
    exact ⟨2 + v, by rw [v2, Int32.ofNat_add]; rfl, by omega, fun y => absurd y k1, fun y => absurd (k3.symm.trans y) (by decide), fun _ => by omega⟩
  · obtain ⟨cd, d1, d2, d3⟩ := hA.2 z hz.1 hz.2 k1 k3
    exact ⟨cd, d1, d2, fun y => absurd y k1, d3, fun y => absurd y k3⟩
end
section
variable {W : Wo} {m zn fn hi : Nat} {u : Vwr}
theorem rl_le {R : Nat → Nat → Nat → Nat → Prop} (h : ∀ d c p q, R d c p q → p ≤ q) : ∀ (ds cs : List Nat) (p p' : Nat), RpLs R ds cs p p' → p ≤ p' ∧ ∀ c, c ∈ cs → ∃ d q q', R d c q q' ∧ q' ≤ p'
  | [], [], p, p', k => by
    have k : p' = p := k
    exact ⟨by omega, fun c hc => absurd hc List.not_mem_nil⟩
  | d :: ds, c :: cs, p, p', ⟨pm, k1, k2⟩ => by
    obtain ⟨q1, q2⟩ := rl_le h ds cs pm p' k2
    have := h _ _ _ _ k1
    refine ⟨by omega, fun e he => ?_⟩
    rcases List.mem_cons.mp he with y | y
    · rw [y]; exact ⟨d, p, pm, k1, q1⟩
    · exact q2 e y
  | [], _ :: _, _, _, k => False.elim k
  | _ :: _, [], _, _, k => False.elim k
theorem RpN.le : ∀ (g : Nat) (cx : List (Option Nat)) (y x p p' : Nat), RpN W m zn fn u hi g cx y x p p' → p ≤ p'
  | 0, _, _, _, _, _, k => by unfold RpN at k; exact k.elim
  | g + 1, cx, y, x, p, p', k => by
    unfold RpN at k
    obtain ⟨-, k⟩ := k
    rcases k with ⟨a1, c', b1, b2⟩ | ⟨a1, b1, b2, b3⟩ | ⟨-, -, -, -, e⟩ | ⟨-, -, -, -, -, e⟩ | ⟨-, -, -, -, -, e⟩ | ⟨-, -, -, -, -, e⟩ | ⟨a1, b1, c1, c2, d1, pm, b2, b3, b4⟩ | ⟨a1, b1, c', d, b2, b3, b4⟩ | ⟨a1, b1, b5, c', d, b2, b3, b4⟩ | ⟨a1, b1, b2, b3⟩ | ⟨a1, b1, c', d, t, b2, b3, b4, b5⟩
    · exact RpN.le g _ _ _ _ _ b2
    · exact (rl_le (fun d c p q h => RpN.le g _ _ _ _ _ h) _ _ _ _ b3).1
    · omega
    · omega
    · omega
    · omega
    · have q1 := RpN.le g _ _ _ _ _ b3
      rcases b4 with ⟨-, -, -, e⟩ | ⟨d2, -, b5⟩
      · omega
      · have := RpN.le g _ _ _ _ _ b5
        omega
    · exact RpN.le g _ _ _ _ _ b4
    · exact RpN.le g _ _ _ _ _ b4
    · exact (rl_le (fun d c p q h => RpN.le g _ _ _ _ _ h) _ _ _ _ b3).1
    · exact RpN.le g _ _ _ _ _ b5
end
section
variable {τ : Td} {m hi : Nat} {σ : PS} {γ : Gh} {u : Vwr}
theorem cd_lit {P : Nat} {l : Int32} (hg : giT τ σ γ) (h : CdW (woS τ m σ γ) m σ.2.2.2.length P l) : ∃ k, l = Int32.ofNat k ∧ k < 2 * σ.2.1.2.2.1.length := by
  obtain ⟨f, c, -, hc, -, -, -, e⟩ := h
  obtain ⟨-, z1, z2, -⟩ := hg.2.1
  exact ⟨_, e, z2 c (by rw [z1]; exact hc)⟩
theorem if_lit {f : Nat} {l : Int32} (hg : giT τ σ γ) (hf : f < (ifS σ).length) (e : l = woF (woS τ m σ γ) f) : ∃ k, l = Int32.ofNat k ∧ k < 2 * σ.2.1.2.2.1.length := by
  obtain ⟨k, e1, e2, e3, -⟩ := hg.2.2 f hf
  have hr := hg.2.1.1.1.1
  have e : l = (ifS σ).getD f 0 := e
  exact ⟨k, e.trans e1, by rw [hr] at e3; omega⟩
theorem RpN.sh (hg : giT τ σ γ) (hA : CdA (trS σ)) : ∀ (g : Nat) (cx : List (Option Nat)) (y x p p' : Nat), RpN (woS τ m σ γ) m σ.2.2.2.length (ifS σ).length u hi g cx y x p p' → p' ≤ 24 → 1 ≤ x ∧ x < (trS σ).1 → ∀ z, z ∈ noL γ.1 g x → ShN (trS σ) γ.1 σ.2.1.2.2.1.length z
  | 0, _, _, _, _, _, k, _, _, _, _ => by unfold RpN at k; exact k.elim
  | g + 1, cx, y, x, p, p', k, hp, hx, z, hz => by
    have ft : FtN γ.1 (g + 1) x := RpN.ft (g + 1) _ _ _ _ _ k
    have kk := k
    unfold RpN at k
    obtain ⟨-, k⟩ := k
    have bd : ∀ c, c ∈ γ.1 x → 1 ≤ c ∧ c < (trS σ).1 := (hg.1.2.1 x hx.1 hx.2).2.2.1
    have self : ((trS σ).2.2 5 x = 1 → ∃ p, p < 24 ∧ (trS σ).2.2 11 x = Int32.ofNat p) → ((trS σ).2.2 5 x = 3 → ∃ v, v < 16 ∧ (trS σ).2.2 11 x = 2 + Int32.ofNat v) → ((trS σ).2.2 5 x = 4 ∨ (trS σ).2.2 5 x = 7 → ∃ l, (trS σ).2.2 10 x = Int32.ofNat l ∧ l < 2 * σ.2.1.2.2.1.length) → (γ.1 x ≠ [] → (trS σ).2.2 5 x = 4 ∨ (trS σ).2.2 5 x = 5 ∨ (trS σ).2.2 5 x = 6 ∨ (trS σ).2.2 5 x = 7 ∨ (trS σ).2.2 5 x = 8 ∨ (trS σ).2.2 5 x = 9) → ((trS σ).2.2 5 x = 6 ∨ (trS σ).2.2 5 x = 9 → (γ.1 x).length ≤ 1) → ShN (trS σ) γ.1 σ.2.1.2.2.1.length x := fun c1 c3 cc ck cl => sh_of hg.1 hA hx ⟨_, ft⟩ c1 c3 cc ck cl
    have sub : (∀ c, c ∈ γ.1 x → ∀ z, z ∈ noL γ.1 g c → ShN (trS σ) γ.1 σ.2.1.2.2.1.length z) → ShN (trS σ) γ.1 σ.2.1.2.2.1.length x → ShN (trS σ) γ.1 σ.2.1.2.2.1.length z := fun h1 h2 => by
      rcases List.mem_cons.mp hz with e | e
      · rw [e]; exact h2
      · obtain ⟨c, m1, m2⟩ := List.mem_flatMap.mp e
        exact h1 c m1 z m2
    have no : ∀ {a b : Int32} {q : Prop}, (trS σ).2.2 5 x = a → a ≠ b → (trS σ).2.2 5 x = b → q := fun e n f => absurd (e.symm.trans f) n
    rcases k with ⟨a1, c', b1, b2⟩ | ⟨a1, b1, b2, b3⟩ | ⟨a1, a2, -⟩ | ⟨a1, a4, a2, -, -, e⟩ | ⟨a1, a2, -⟩ | ⟨a1, a2, -, -, ⟨v, v1, v2, -⟩, -⟩ | ⟨a1, b1, c1, c2, d1, pm, b2, b3, b4⟩ | ⟨a1, b1, c', d, b2, b3, b4⟩ | ⟨a1, b1, ⟨j, j1, j2, j3⟩, c', d, b2, b3, b4⟩ | ⟨a1, b1, b2, b3⟩ | ⟨a1, b1, c', d, t, b2, b3, b4, b5⟩
    · have a1 : (trS σ).2.2 5 x = 5 := a1
      have b1 : γ.1 x = [c'] := b1
      refine sub (fun c hc z hz => ?_) (self (no a1 (by decide)) (no a1 (by decide)) (fun q => q.elim (no a1 (by decide)) (no a1 (by decide))) (fun _ => Or.inr (Or.inl a1)) (fun q => q.elim (no a1 (by decide)) (no a1 (by decide))))
      have hb := bd c hc
      rw [b1] at hc
      rw [List.mem_singleton.mp hc] at hz hb
      exact RpN.sh hg hA g _ _ _ _ _ b2 hp hb z hz
    · have a1 : (trS σ).2.2 5 x = 5 := a1
      refine sub (fun c hc z hz => ?_) (self (no a1 (by decide)) (no a1 (by decide)) (fun q => q.elim (no a1 (by decide)) (no a1 (by decide))) (fun _ => Or.inr (Or.inl a1)) (fun q => q.elim (no a1 (by decide)) (no a1 (by decide))))
      obtain ⟨d, q, q', w1, w2⟩ := (rl_le (fun d c p q h => RpN.le g _ _ _ _ _ h) _ _ _ _ b3).2 c hc
      exact RpN.sh hg hA g _ _ _ _ _ w1 (by omega) (bd c hc) z hz
    · have a1 : (trS σ).2.2 5 x = 0 := a1
      have a2 : γ.1 x = [] := a2
      exact sub (fun c hc => by rw [a2] at hc; exact absurd hc List.not_mem_nil) (self (no a1 (by decide)) (no a1 (by decide)) (fun q => q.elim (no a1 (by decide)) (no a1 (by decide))) (fun q => absurd a2 q) (fun q => q.elim (no a1 (by decide)) (no a1 (by decide))))
    · have a1 : (trS σ).2.2 5 x = 1 := a1
      have a2 : γ.1 x = [] := a2
      exact sub (fun c hc => by rw [a2] at hc; exact absurd hc List.not_mem_nil) (self (fun _ => ⟨p, by omega, a4⟩) (no a1 (by decide)) (fun q => q.elim (no a1 (by decide)) (no a1 (by decide))) (fun q => absurd a2 q) (fun q => q.elim (no a1 (by decide)) (no a1 (by decide))))
    · have a1 : (trS σ).2.2 5 x = 2 := a1
      have a2 : γ.1 x = [] := a2
      exact sub (fun c hc => by rw [a2] at hc; exact absurd hc List.not_mem_nil) (self (no a1 (by decide)) (no a1 (by decide)) (fun q => q.elim (no a1 (by decide)) (no a1 (by decide))) (fun q => absurd a2 q) (fun q => q.elim (no a1 (by decide)) (no a1 (by decide))))
    · have a1 : (trS σ).2.2 5 x = 3 := a1
      have a2 : γ.1 x = [] := a2
      exact sub (fun c hc => by rw [a2] at hc; exact absurd hc List.not_mem_nil) (self (no a1 (by decide)) (fun _ => ⟨v, v1, v2⟩) (fun q => q.elim (no a1 (by decide)) (no a1 (by decide))) (fun q => absurd a2 q) (fun q => q.elim (no a1 (by decide)) (no a1 (by decide))))
    · have a1 : (trS σ).2.2 5 x = 4 := a1
      have b2 : γ.1 x = [c1, c2] := b2
      refine sub (fun c hc z hz => ?_) (self (no a1 (by decide)) (no a1 (by decide)) (fun _ => ?_) (fun _ => Or.inl a1) (fun q => q.elim (no a1 (by decide)) (no a1 (by decide))))
      · have hb := bd c hc
        rw [b2] at hc
        have q1 := RpN.le g _ _ _ _ _ b3
        rcases List.mem_cons.mp hc with e | e
        · rw [e] at hz hb
          have hpm : pm ≤ 24 := by
            rcases b4 with ⟨-, -, -, e⟩ | ⟨d2, -, b5⟩
            · omega
            · have := RpN.le g _ _ _ _ _ b5
              omega
          exact RpN.sh hg hA g _ _ _ _ _ b3 hpm hb z hz
        · rw [List.mem_singleton.mp e] at hz hb
          rcases b4 with ⟨-, f1, f2, -⟩ | ⟨d2, -, b5⟩
          · have f1 : (trS σ).2.2 5 c2 = 0 := f1
            have f2 : γ.1 c2 = [] := f2
            have no2 : ∀ {b : Int32} {q : Prop}, (0 : Int32) ≠ b → (trS σ).2.2 5 c2 = b → q := fun n f => absurd (f1.symm.trans f) n
            have e2 : z = c2 := by
              cases g with
              | zero => exact absurd hz List.not_mem_nil
              | succ g =>
                rcases List.mem_cons.mp hz with e | e
                · exact e
                · rw [f2] at e; exact absurd e List.not_mem_nil
            rw [e2]
            exact sh_of hg.1 hA hb ⟨1, fun c hc => by rw [f2] at hc; exact absurd hc List.not_mem_nil⟩ (no2 (by decide)) (no2 (by decide)) (fun q => q.elim (no2 (by decide)) (no2 (by decide))) (fun q => absurd f2 q) (fun q => q.elim (no2 (by decide)) (no2 (by decide)))
          · exact RpN.sh hg hA g _ _ _ _ _ b5 hp hb z hz
      · rcases b1 with ⟨-, j, -, -, w⟩ | ⟨-, j, f, -, -, w1, -, w2⟩
        · exact cd_lit hg w
        · exact if_lit hg w1 w2
    · have a1 : (trS σ).2.2 5 x = 6 := a1
      have b2 : γ.1 x = [c'] := b2
      refine sub (fun c hc z hz => ?_) (self (no a1 (by decide)) (no a1 (by decide)) (fun q => q.elim (no a1 (by decide)) (no a1 (by decide))) (fun _ => Or.inr (Or.inr (Or.inl a1))) (fun _ => by rw [b2]; exact Nat.le_refl _))
      have hb := bd c hc
      rw [b2] at hc
      rw [List.mem_singleton.mp hc] at hz hb
      exact RpN.sh hg hA g _ _ _ _ _ b4 hp hb z hz
    · have a1 : (trS σ).2.2 5 x = 7 := a1
      have b2 : γ.1 x = [c'] := b2
      refine sub (fun c hc z hz => ?_) (self (no a1 (by decide)) (no a1 (by decide)) (fun _ => cd_lit hg j3) (fun _ => Or.inr (Or.inr (Or.inr (Or.inl a1)))) (fun q => q.elim (no a1 (by decide)) (no a1 (by decide))))
      have hb := bd c hc
      rw [b2] at hc
      rw [List.mem_singleton.mp hc] at hz hb
      exact RpN.sh hg hA g _ _ _ _ _ b4 hp hb z hz
    · have a1 : (trS σ).2.2 5 x = 8 := a1
      refine sub (fun c hc z hz => ?_) (self (no a1 (by decide)) (no a1 (by decide)) (fun q => q.elim (no a1 (by decide)) (no a1 (by decide))) (fun _ => Or.inr (Or.inr (Or.inr (Or.inr (Or.inl a1))))) (fun q => q.elim (no a1 (by decide)) (no a1 (by decide))))
      obtain ⟨d, q, q', w1, w2⟩ := (rl_le (fun d c p q h => RpN.le g _ _ _ _ _ h) _ _ _ _ b3).2 c hc
      exact RpN.sh hg hA g _ _ _ _ _ w1 (by omega) (bd c hc) z hz
    · have a1 : (trS σ).2.2 5 x = 9 := a1
      have b2 : γ.1 x = [c'] := b2
      refine sub (fun c hc z hz => ?_) (self (no a1 (by decide)) (no a1 (by decide)) (fun q => q.elim (no a1 (by decide)) (no a1 (by decide))) (fun _ => Or.inr (Or.inr (Or.inr (Or.inr (Or.inr a1))))) (fun _ => by rw [b2]; exact Nat.le_refl _))
      have hb := bd c hc
      rw [b2] at hc
      rw [List.mem_singleton.mp hc] at hz hb
      exact RpN.sh hg hA g _ _ _ _ _ b5 hp hb z hz
end
