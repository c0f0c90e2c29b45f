/-! the class's tree is finite: its nodes as a list -/
def FtN (G : Nat → List Nat) : Nat → Nat → Prop
  | 0, _ => False
  | g + 1, x => ∀ c ∈ G x, FtN G g c
/-- the nodes at and below x -/
def noL (G : Nat → List Nat) : Nat → Nat → List Nat
  | 0, _ => []
  | g + 1, x => x :: (G x).flatMap (noL G g)
theorem le_nat {P : Nat → Prop} (h : ∃ n, P n) : ∃ n, P n ∧ ∀ k, k < n → ¬ P k := by
  obtain ⟨n, hn⟩ := h
  have main : ∀ d n, n ≤ d → P n → ∃ n, P n ∧ ∀ k, k < n → ¬ P k := by
    intro d
    induction d with
    | zero =>
      intro n hd hn
      have e : n = 0 := by omega
      exact ⟨n, hn, fun k hk => by omega⟩
    | succ d ih =>
      intro n hd hn
      by_cases z : ∃ k, k < n ∧ P k
      · obtain ⟨k, k1, k2⟩ := z
        exact ih k (by omega) k2
      · exact ⟨n, hn, fun k hk hp => z ⟨k, hk, hp⟩⟩
  exact main n n (Nat.le_refl _) hn
section
variable {G : Nat → List Nat}
def paF (G : Nat → List Nat) (z x : Nat) : Prop := z ∈ G x ∧ ∃ g, FtN G g x
theorem ft_rho : ∃ ρ : Nat → Nat, ∀ z x, paF G z x → ρ z < ρ x := by
  have h : ∀ x, ∃ r, (∃ g, FtN G g x) → FtN G r x ∧ ∀ k, k < r → ¬ FtN G k x := fun x => by
    by_cases z : ∃ g, FtN G g x
    · obtain ⟨r, r1, r2⟩ := le_nat z
      exact ⟨r, fun _ => ⟨r1, r2⟩⟩
    · exact ⟨0, fun y => absurd y z⟩
  obtain ⟨ρ, hr⟩ := Classical.axiomOfChoice h
  refine ⟨ρ, fun z x ⟨hz, hx⟩ => ?_⟩
  have h1 := (hr x hx).1
  cases e : ρ x with
  | zero => rw [e] at h1; exact False.elim h1
  | succ g =>
    rw [e] at h1
    have h2 := h1 z hz
    have h3 := (hr z ⟨g, h2⟩).2
    have : ¬ g < ρ z := fun w => h3 g w h2
    omega
theorem FtN.mo : ∀ (g g' x : Nat), g ≤ g' → FtN G g x → FtN G g' x
  | 0, _, _, _, h => False.elim h
  | g + 1, 0, _, h, _ => absurd h (by omega)
  | g + 1, g' + 1, x, h, k => fun c hc => FtN.mo g g' c (by omega) (k c hc)
theorem noL_in : ∀ (g x z : Nat), FtN G g x → z ∈ noL G g x → inS (paF G) z x
  | 0, _, _, h, _ => False.elim h
  | g + 1, x, z, h, k => by
    rcases List.mem_cons.mp k with w | w
    · rw [w]; exact inS.rf
    · obtain ⟨c, c1, c2⟩ := List.mem_flatMap.mp w
      exact (noL_in g c z (h c c1) c2).up ⟨c1, g + 1, h⟩
theorem noL_nd (hf : ∀ z x x', z ∈ G x → z ∈ G x' → x = x') (hn : ∀ x, (G x).Nodup) : ∀ (g x : Nat), FtN G g x → (noL G g x).Nodup := by
  obtain ⟨ρ, hr⟩ := ft_rho (G := G)
  have hp : ∀ z x x', paF G z x → paF G z x' → x = x' := fun z x x' h h' => hf z x x' h.1 h'.1
  intro g
  induction g with
  | zero => intro x h; exact False.elim h
  | succ g ih =>
    intro x h
    have fl : ∀ l : List Nat, l.Nodup → (∀ c ∈ l, c ∈ G x) → (l.flatMap (noL G g)).Nodup := by
      intro l
      induction l with
      | nil => intro _ _; exact List.nodup_nil
      | cons c cs ih2 =>
        intro hl hc
        rw [List.flatMap_cons]
        have c1 := hc c List.mem_cons_self
        refine List.nodup_append.mpr ⟨ih c (h c c1), ih2 (List.nodup_cons.mp hl).2 (fun d hd => hc d (List.mem_cons_of_mem _ hd)), fun a ha b hb e => ?_⟩
        subst e
        obtain ⟨d, d1, d2⟩ := List.mem_flatMap.mp hb
        have d3 := hc d (List.mem_cons_of_mem _ d1)
        have ne : c ≠ d := fun w => (List.nodup_cons.mp hl).1 (by rw [w]; exact d1)
        exact sub_dj hp hr (z := a) (y := x) (c1 := c) (c2 := d) ⟨c1, g + 1, h⟩ ⟨d3, g + 1, h⟩ ne (noL_in g c a (h c c1) ha) (noL_in g d a (h d d3) d2)
    refine List.nodup_cons.mpr ⟨fun w => ?_, fl (G x) (hn x) (fun _ z => z)⟩
    obtain ⟨c, c1, c2⟩ := List.mem_flatMap.mp w
    exact sub_no hr (y := x) (c := c) ⟨c1, g + 1, h⟩ (noL_in g c x (h c c1) c2)
theorem noL_bd {N : Nat} (hb : ∀ x, 1 ≤ x → x < N → ∀ c ∈ G x, 1 ≤ c ∧ c < N) : ∀ (g x : Nat), 1 ≤ x ∧ x < N → ∀ z ∈ noL G g x, 1 ≤ z ∧ z < N
  | 0, _, _, _, k => absurd k List.not_mem_nil
  | g + 1, x, h, z, k => by
    rcases List.mem_cons.mp k with w | w
    · rw [w]; exact h
    · obtain ⟨c, c1, c2⟩ := List.mem_flatMap.mp w
      exact noL_bd hb g c (hb x h.1 h.2 c c1) z c2
end
section
variable {W : Wo} {m zn fn hi : Nat} {u : Vwr}
theorem rl_mem2 {R : Nat → Nat → Nat → Nat → Prop} : ∀ (ds cs : List Nat) (p p' : Nat), RpLs R ds cs p p' → ∀ c ∈ cs, ∃ d q q', R d c q q'
  | d :: ds, c :: cs, p, p', ⟨pm, k1, k2⟩, e, h => by
    rcases List.mem_cons.mp h with w | w
    · rw [w]; exact ⟨d, p, pm, k1⟩
    · exact rl_mem2 ds cs pm p' k2 e w
  | [], [], _, _, _, _, h => absurd h List.not_mem_nil
  | [], _ :: _, _, _, k, _, _ => False.elim k
  | _ :: _, [], _, _, k, _, _ => False.elim k
theorem RpN.ft : ∀ (g : Nat) (cx : List (Option Nat)) (y x p p' : Nat), RpN W m zn fn u hi g cx y x p p' → FtN (chV W) g x
  | 0, _, _, _, _, _, k => by unfold RpN at k; exact k.elim
  | g + 1, cx, y, x, p, p', k => by
    unfold RpN at k
    obtain ⟨-, k⟩ := k
    intro c hc
    have hc : c ∈ (woV W x).2.2.2 := hc
    rcases k with ⟨a1, c', b1, b2⟩ | ⟨a1, b1, b2, b3⟩ | ⟨a1, a2, -⟩ | ⟨a1, -, a2, -⟩ | ⟨a1, a2, -⟩ | ⟨a1, a2, -⟩ | ⟨a1, b1, c1, c2, d1, pm, b2, b3, b4⟩ | ⟨a1, b1, c', d, b2, b3, b4⟩ | ⟨a1, b1, b5, c', d, b2, b3, b4⟩ | ⟨a1, b1, b2, b3⟩ | ⟨a1, b1, c', d, t, b2, b3, b4, b5⟩
    · rw [b1] at hc
      rw [List.mem_singleton.mp hc]
      exact RpN.ft g _ _ _ _ _ b2
    · obtain ⟨d, q, q', w⟩ := rl_mem2 _ _ _ _ b3 c hc
      exact RpN.ft g _ _ _ _ _ w
    · rw [a2] at hc; exact absurd hc List.not_mem_nil
    · rw [a2] at hc; exact absurd hc List.not_mem_nil
    · rw [a2] at hc; exact absurd hc List.not_mem_nil
    · rw [a2] at hc; exact absurd hc List.not_mem_nil
    · rw [b2] at hc
      have f1 := RpN.ft g _ _ _ _ _ b3
      rcases List.mem_cons.mp hc with w | w
      · rw [w]; exact f1
      · rw [List.mem_singleton.mp w]
        rcases b4 with ⟨-, -, e, -⟩ | ⟨d2, -, b5⟩
        · cases g with
          | zero => exact False.elim f1
          | succ g =>
            intro z hz
            have hz : z ∈ (woV W c2).2.2.2 := hz
            rw [e] at hz
            exact absurd hz List.not_mem_nil
        · exact RpN.ft g _ _ _ _ _ b5
    · rw [b2] at hc
      rw [List.mem_singleton.mp hc]
      exact RpN.ft g _ _ _ _ _ b4
    · rw [b2] at hc
      rw [List.mem_singleton.mp hc]
      exact RpN.ft g _ _ _ _ _ b4
    · obtain ⟨d, q, q', w⟩ := rl_mem2 _ _ _ _ b3 c hc
      exact RpN.ft g _ _ _ _ _ w
    · rw [b2] at hc
      rw [List.mem_singleton.mp hc]
      exact RpN.ft g _ _ _ _ _ b5
end
