/-! a text read to its end: what the weaver wants of it -/
section
variable {b : Nat → Int32} {n s m i : Nat} {τ : Td} {A : Nat → Nat → Int32} {B : Nat → Int64} {Zt : Nat → Nat → Int32} {σ : PS} {γ : Gh} {root g0 : Nat}
/-- beside RdE -/
def RdX (τ : Td) (σ : PS) (root : Nat) (γ : Gh) : Prop := (trS σ).2.2 9 root = 0 ∧ (trS σ).2.2 5 0 = 0 ∧ CdA (trS σ) ∧ τ.1.length + 2 ≤ γ.2.2.length ∧ NxI τ.1.length σ.2.1.2.2.1 σ.2.1.2.2.2.1 (ifS σ) σ.2.2.2 ∧ (∃ t, γ.2.2 = roI τ.1.length ++ t) ∧ EmN τ (trS σ)
theorem rd_all2 {r : Nat × PS × Nat} (hB : By b) (hS : Sto b n s) (h4 : m < 4) (hv : HvT τ) (hi : i ≤ s) (hk : tK b n i ≠ 0) (hZ : Zt 5 0 = 0) (e : rdQ b n m τ i (σI A B (cl0 Zt τ)) = .ok r) (hX : r.2.1.2.2.1.length < 900) : ∃ γ g, RdE τ m r.2.1 r.2.2 γ g ∧ RdX τ r.2.1 r.2.2 γ := by
  unfold rdQ at e
  obtain ⟨q, e1, e2⟩ := bind_ok e
  have er : q = r := by
    by_cases z : tK b n q.1 = 1
    · rw [if_pos z] at e2; cases e2; rfl
    · rw [if_neg z] at e2; cases e2
  subst er
  have ok0 := rp_ok (τ := τ) (m := m) hS 6000 0 [] i (σI A B (cl0 Zt τ)) 0 0 0 0 0 0 (by decide) hi hk σI_ok
  rw [e1] at ok0
  obtain ⟨-, -, -, ⟨-, pk, rw4, -⟩, -⟩ := ok0
  have cn := rp_cnt 6000 0 [] i (σI A B (cl0 Zt τ)) 0 0 0 0 0 0 q (by decide) e1 0 (by rw [if_pos (Or.inl rfl)]; exact (by decide : 1 + (0 + 1) ≤ 2 * 0 + 11 * 0 + 1 + 4))
  have pu := rp_pau 6000 0 [] i (σI A B (cl0 Zt τ)) 0 0 0 0 0 0 q (by decide) e1 0 (Nat.le_refl 0)
  have k5 := rp_k5 6000 0 [] i (σI A B (cl0 Zt τ)) 0 0 0 0 0 0 q (by decide) e1 (Nat.le_refl 1)
  have cd := rp_cd hv.2 6000 0 [] i (σI A B (cl0 Zt τ)) 0 0 0 0 0 0 q (by decide) e1 ⟨Nat.le_refl 1, fun x x1 x2 => by have x2 : x < 1 := x2; omega⟩
  have em := rp_em 6000 0 [] i (σI A B (cl0 Zt τ)) 0 0 0 0 0 0 q (by decide) e1 ⟨Nat.le_refl 1, fun x x1 x2 => by have x2 : x < 1 := x2; omega⟩
  have nx := rp_nx 6000 0 [] i (σI A B (cl0 Zt τ)) 0 0 0 0 0 0 q (by decide) e1 ⟨fun n hn => Or.inr (Or.inl (by have hn : n < (NT τ.1.length).length := hn; rw [NT_len] at hn; omega)), fun _ _ => rfl, by show 2 + τ.1.length ≤ (NT τ.1.length).length; rw [NT_len]; omega, fun n hn => NT_gd (by omega), fun d hd => absurd hd List.not_mem_nil⟩
  have n6 : (trS q.2.1).1 ≤ 400 := by
    unfold alR at cn
    have a1 := pk.1
    have a2 := pk.2.1
    have a3 : q.2.1.1.1 4 ≤ npS q.2.1 := rw4
    omega
  have p24 : (trS q.2.1).2.1 ≤ 24 := by
    have a2 := pk.2.1
    have pu : (trS q.2.1).2.1 + 0 ≤ q.2.1.1.1 1 := pu
    have a2 : q.2.1.1.1 1 ≤ 24 := a2
    omega
  obtain ⟨γ', g, g1, g2, g3, g4, g5, g6⟩ := rp_tree hB hS h4 hv 6000 [] i _ q ⟨hi, hk, σI_ok⟩ e1 _ gi_0 rfl (by omega) hX (by
    show up2 (up2 (up2 A 73 0 (-1)) 74 0 (-1)) 75 0 (-1) 73 0 = -1
    rw [up2_row (by decide), up2_row (by decide), up2_eq])
  have gx := ((rp_X (τ := τ) hS h4 hv 6000).1 [] i _ q ⟨hi, hk, σI_ok⟩ e1 hX).2 hX
  refine ⟨γ', g, ⟨g1, g3, g6, ⟨n6, p24, pk.1, rw4⟩, ⟨g5.1, g5.2.1⟩, fun k hk => gx.2.2 k (Nat.zero_le _) hk⟩, g5.2.2, k5.2.trans hZ, cd, ?_, nx, g2.2.2.1, em.n⟩
  obtain ⟨-, -, ⟨t, et⟩, -⟩ := g2
  have et : γ'.2.2 = roI τ.1.length ++ t := et
  rw [et, List.length_append, roI_len]
  omega
/-- children of nodes only -/
def chR (Θ : TrT) (G : Nat → List Nat) (x : Nat) : List Nat := if 1 ≤ x ∧ x < Θ.1 then G x else []
theorem chR_in {Θ : TrT} {G : Nat → List Nat} {x : Nat} (h : 1 ≤ x ∧ x < Θ.1) : chR Θ G x = G x := if_pos h
theorem chR_sub {Θ : TrT} {G : Nat → List Nat} {x c : Nat} (h : c ∈ chR Θ G x) : (1 ≤ x ∧ x < Θ.1) ∧ c ∈ G x := by
  unfold chR at h
  by_cases z : 1 ≤ x ∧ x < Θ.1
  · rw [if_pos z] at h; exact ⟨z, h⟩
  · rw [if_neg z] at h; exact absurd h List.not_mem_nil
theorem ft_R {Θ : TrT} {G : Nat → List Nat} : ∀ (g x : Nat), FtN G g x → FtN (chR Θ G) g x
  | 0, _, h => False.elim h
  | g + 1, x, h => fun c hc => ft_R g c (h c (chR_sub hc).2)
theorem noL_R {Θ : TrT} {G : Nat → List Nat} : ∀ (g x z : Nat), z ∈ noL (chR Θ G) g x → z ∈ noL G g x
  | 0, _, _, h => absurd h List.not_mem_nil
  | g + 1, x, z, h => by
    rcases List.mem_cons.mp h with e | e
    · rw [e]; exact List.mem_cons_self
    · obtain ⟨c, m1, m2⟩ := List.mem_flatMap.mp e
      exact List.mem_cons_of_mem _ (List.mem_flatMap.mpr ⟨c, (chR_sub m1).2, noL_R g c z m2⟩)
theorem TG.R {Θ : TrT} {G : Nat → List Nat} (h : TG Θ G) : TG Θ (chR Θ G) := by
  obtain ⟨h1, h2, h3⟩ := h
  refine ⟨h1, fun x x1 x2 => ?_, h3⟩
  rw [chR_in ⟨x1, x2⟩]
  exact h2 x x1 x2
/-- roles but for those of masks -/
def m6R (Ro : List (Nat × Nat)) : List (Nat × Nat) := Ro.map (fun e => if e.1 = 6 then (99, e.2) else e)
theorem m6_gd {Ro : List (Nat × Nat)} {k : Nat} (hk : k < Ro.length) : (m6R Ro).getD k (0, 0) = if (Ro.getD k (0, 0)).1 = 6 then (99, (Ro.getD k (0, 0)).2) else Ro.getD k (0, 0) := by
  unfold m6R
  rw [List.getD_eq_getElem?_getD, List.getElem?_map, List.getElem?_eq_getElem hk, List.getD_eq_getElem?_getD, List.getElem?_eq_getElem hk]
  rfl
theorem m6_row {N : Nt} {Ro : List (Nat × Nat)} (h : RoK N Ro) : RoW (N, m6R Ro, []) := by
  obtain ⟨h1, h2⟩ := h
  have ln : (m6R Ro).length = N.length := by unfold m6R; rw [List.length_map]; exact h1
  refine ⟨ln, fun k hk r0 => ?_, fun k i hk ri => ?_⟩
  · have hk : k < N.length := hk
    have r0 : ((m6R Ro).getD k (0, 0)).1 = 0 := r0
    rw [m6_gd (by omega)] at r0
    by_cases z : (Ro.getD k (0, 0)).1 = 6
    · rw [if_pos z] at r0; exact absurd (show (99 : Nat) = 0 from r0) (by decide)
    · rw [if_neg z] at r0; exact (h2 k hk).1 r0
  · have hk : k < N.length := hk
    have ri : (m6R Ro).getD k (0, 0) = (6, i) := ri
    rw [m6_gd (by omega)] at ri
    by_cases z : (Ro.getD k (0, 0)).1 = 6
    · rw [if_pos z] at ri; exact absurd (show (99 : Nat) = 6 from congrArg Prod.fst ri) (by decide)
    · rw [if_neg z] at ri; exact absurd (congrArg Prod.fst ri) z
/-- all that the weaver wants of the tree and the nets -/
theorem RdE.wv (hE : RdE τ m σ root γ g0) (hX : RdX τ σ root γ) : ∃ g, FtN (chR (trS σ) γ.1) g root ∧ (noL (chR (trS σ) γ.1) g root).Nodup ∧ (∀ z, z ∈ noL (chR (trS σ) γ.1) g root → ShN (trS σ) (chR (trS σ) γ.1) σ.2.1.2.2.1.length z) ∧ (noL (chR (trS σ) γ.1) g root).length ≤ 400 ∧ (∀ z y y', z ∈ chR (trS σ) γ.1 y → z ∈ chR (trS σ) γ.1 y' → y = y') ∧ (trS σ).2.2 8 root = 0 ∧ (trS σ).2.2 5 root ≠ 8 ∧ RoW (σ.2.1.2.2.1, m6R γ.2.2, []) ∧ 2 ≤ σ.2.1.2.2.1.length ∧ ∀ t, t < τ.1.length → 2 + t < σ.2.1.2.2.1.length ∧ ((m6R γ.2.2).getD (2 + t) (0, 0)).1 ≠ 0 ∧ ((m6R γ.2.2).getD (2 + t) (0, 0)).1 ≠ 6 := by
  obtain ⟨hg, hif, tt, ⟨n4, p24, -, -⟩, hx, -⟩ := hE
  obtain ⟨p9, k0, hA, hl, -⟩ := hX
  have rk : RoK σ.2.1.2.2.1 γ.2.2 := hg.2.1.1.1
  have gd := TT.gd (nb := σ.2.1.2.2.1.length) (fun P l c => cd_lit hg c) (fun f hf => if_lit hg hf rfl) _ _ _ _ _ _ _ _ _ _ _ _ _ _ _ _ (by decide) tt p24 root (List.mem_singleton.mpr rfl)
  obtain ⟨g, ft, ks⟩ := gd
  have ft : FtN γ.1 g root := ft
  have fR : FtN (chR (trS σ) γ.1) g root := ft_R g root ft
  have par : ∀ z y, z ∈ chR (trS σ) γ.1 y → (trS σ).2.2 9 z = Int32.ofNat y ∧ y < 640 := fun z y h => by
    obtain ⟨q1, q2⟩ := chR_sub h
    have w := (hg.1.2.1 y q1.1 q1.2).1
    exact ⟨w.2.2.2.1 z q2, by omega⟩
  have hf : ∀ z y y', z ∈ chR (trS σ) γ.1 y → z ∈ chR (trS σ) γ.1 y' → y = y' := fun z y y' h h' => by
    obtain ⟨a1, a2⟩ := par z y h
    obtain ⟨b1, b2⟩ := par z y' h'
    exact inj32 (by omega) (by omega) (a1.symm.trans b1)
  have hn : ∀ y, (chR (trS σ) γ.1 y).Nodup := fun y => by
    by_cases z : 1 ≤ y ∧ y < (trS σ).1
    · rw [chR_in z]; exact (hg.1.2.1 y z.1 z.2).2.1
    · unfold chR; rw [if_neg z]; exact List.nodup_nil
  have nd := noL_nd hf hn g root fR
  have bd : ∀ y, 1 ≤ y → y < (trS σ).1 → ∀ c ∈ chR (trS σ) γ.1 y, 1 ≤ c ∧ c < (trS σ).1 := fun y y1 y2 c hc => (hg.1.2.1 y y1 y2).2.2.1 c (chR_sub hc).2
  have inb := noL_bd bd g root hx
  have ftz : ∀ (g x z : Nat), FtN (chR (trS σ) γ.1) g x → z ∈ noL (chR (trS σ) γ.1) g x → ∃ g', FtN (chR (trS σ) γ.1) g' z := by
    intro g
    induction g with
    | zero => intro x z h; exact False.elim h
    | succ g ih =>
      intro x z h hz
      rcases List.mem_cons.mp hz with e | e
      · rw [e]; exact ⟨g + 1, h⟩
      · obtain ⟨c, m1, m2⟩ := List.mem_flatMap.mp e
        exact ih c z (h c m1) m2
  refine ⟨g, fR, nd, fun z hz => ?_, ?_, hf, hg.1.2.2 root hx.1 hx.2 p9, ?_, m6_row rk, ?_, fun t ht => ?_⟩
  · obtain ⟨c1, c3, cc, ck, cl⟩ := ks z (noL_R g root z hz)
    have zi := inb z hz
    have ez : chR (trS σ) γ.1 z = γ.1 z := chR_in zi
    refine sh_of hg.1.R hA zi (ftz g root z fR hz) c1 c3 cc ?_ ?_
    · rw [ez]; exact ck
    · rw [ez]; exact cl
  · have := nodup_iv (a := 1) (n := (trS σ).1 - 1) nd (fun z hz => by have := inb z hz; omega)
    omega
  · unfold TTs at tt
    cases g0 with
    | zero => unfold TT at tt; exact tt.elim
    | succ g0 =>
      unfold TT at tt
      rw [if_pos rfl] at tt
      obtain ⟨x, jm, rm, pm, T, y, eL, -, -, nd5, -⟩ := tt
      have ey : root = y := congrArg Prod.snd (List.cons.inj eL).1
      rw [ey]
      have k : (trS σ).2.2 5 y = 5 := nd5.2.1
      rw [k]; decide
  · have := rk.1
    omega
  · have r := hg.2.1.1.2.2.1 t ht
    obtain ⟨r1, r2, r3⟩ := r
    unfold sgT at r2 r3
    rw [if_pos ht, show (4 + 2 * t) / 2 = 2 + t by omega] at r2 r3
    have := rk.1
    refine ⟨by omega, ?_⟩
    rw [m6_gd r2, r3, if_neg (show ¬ (3 : Nat) = 6 by decide)]
    exact ⟨(by decide : (3 : Nat) ≠ 0), (by decide : (3 : Nat) ≠ 6)⟩
end
