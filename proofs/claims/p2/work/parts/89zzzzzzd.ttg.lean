/-! a reading's tree is finite, and every node of it may be woven -/
section
variable {G : Nat → List Nat} {S : Nat → Prop}
theorem noL_mo : ∀ (g g' x : Nat), g ≤ g' → FtN G g x → noL G g' x = noL G g x
  | 0, _, _, _, h => False.elim h
  | g + 1, 0, _, h, _ => absurd h (by omega)
  | g + 1, g' + 1, x, h, k => by
    show x :: (G x).flatMap (noL G g') = x :: (G x).flatMap (noL G g)
    have e : ∀ l : List Nat, (∀ c, c ∈ l → c ∈ G x) → l.flatMap (noL G g') = l.flatMap (noL G g) := by
      intro l
      induction l with
      | nil => intro _; rfl
      | cons c cs ih =>
        intro hc
        rw [List.flatMap_cons, List.flatMap_cons, ih (fun d hd => hc d (List.mem_cons_of_mem _ hd)), noL_mo g g' c (by omega) (k c (hc c List.mem_cons_self))]
    rw [e (G x) (fun _ z => z)]
/-- finite below x, all nodes with S -/
def GdN (G : Nat → List Nat) (S : Nat → Prop) (x : Nat) : Prop := ∃ g, FtN G g x ∧ ∀ z, z ∈ noL G g x → S z
theorem gdn_l : ∀ (l : List Nat), (∀ c, c ∈ l → GdN G S c) → ∃ g, ∀ c, c ∈ l → FtN G g c ∧ ∀ z, z ∈ noL G g c → S z
  | [], _ => ⟨0, fun c hc => absurd hc List.not_mem_nil⟩
  | d :: l, h => by
    obtain ⟨g1, h1⟩ := gdn_l l (fun c hc => h c (List.mem_cons_of_mem _ hc))
    obtain ⟨g2, h2, h3⟩ := h d List.mem_cons_self
    refine ⟨max g1 g2, fun c hc => ?_⟩
    rcases List.mem_cons.mp hc with e | e
    · rw [e]
      exact ⟨FtN.mo g2 _ d (Nat.le_max_right _ _) h2, fun z hz => h3 z (by rw [noL_mo g2 _ d (Nat.le_max_right _ _) h2] at hz; exact hz)⟩
    · have q := h1 c e
      exact ⟨FtN.mo g1 _ c (Nat.le_max_left _ _) q.1, fun z hz => q.2 z (by rw [noL_mo g1 _ c (Nat.le_max_left _ _) q.1] at hz; exact hz)⟩
theorem GdN.nd {x : Nat} (hs : S x) (hc : ∀ c, c ∈ G x → GdN G S c) : GdN G S x := by
  obtain ⟨g, h⟩ := gdn_l (G x) hc
  refine ⟨g + 1, fun c hc => (h c hc).1, fun z hz => ?_⟩
  rcases List.mem_cons.mp hz with e | e
  · rw [e]; exact hs
  · obtain ⟨c, m1, m2⟩ := List.mem_flatMap.mp e
    exact (h c m1).2 z m2
end
def litN (nb : Nat) (l : Int32) : Prop := ∃ k, l = Int32.ofNat k ∧ k < 2 * nb
/-- what a node's kind asks -/
def KsN (W : Wo) (nb z : Nat) : Prop := ((woV W z).1 = 1 → ∃ p, p < 24 ∧ (woV W z).2.2.1 = Int32.ofNat p) ∧ ((woV W z).1 = 3 → ∃ v, v < 16 ∧ (woV W z).2.2.1 = 2 + Int32.ofNat v) ∧ ((woV W z).1 = 4 ∨ (woV W z).1 = 7 → litN nb (woV W z).2.1) ∧ ((woV W z).2.2.2 ≠ [] → (woV W z).1 = 4 ∨ (woV W z).1 = 5 ∨ (woV W z).1 = 6 ∨ (woV W z).1 = 7 ∨ (woV W z).1 = 8 ∨ (woV W z).1 = 9) ∧ ((woV W z).1 = 6 ∨ (woV W z).1 = 9 → (woV W z).2.2.2.length ≤ 1)
abbrev GdW (W : Wo) (nb x : Nat) : Prop := GdN (chV W) (KsN W nb) x
section
variable {W : Wo} {nb lo hi x : Nat} {k d l : Int32} {cs : List Nat}
theorem gw_lf (h : lfS (woV W) lo hi x k d) (k1 : k = 1 → ∃ p, p < 24 ∧ d = Int32.ofNat p) (k3 : k = 3 → ∃ v, v < 16 ∧ d = 2 + Int32.ofNat v) (kc : k ≠ 4 ∧ k ≠ 7) : GdW W nb x := by
  obtain ⟨-, h1, h2, h3⟩ := h
  refine GdN.nd ⟨?_, ?_, ?_, ?_, ?_⟩ (fun c hc => ?_)
  · rw [h1, h2]; exact k1
  · rw [h1, h2]; exact k3
  · rw [h1]; exact fun q => q.elim (fun e => absurd e kc.1) (fun e => absurd e kc.2)
  · exact fun q => absurd h3 q
  · intro _; rw [h3]; exact Nat.zero_le _
  · have hc : c ∈ (woV W x).2.2.2 := hc
    rw [h3] at hc; exact absurd hc List.not_mem_nil
theorem gw_nd (h : ndS (woV W) lo hi x k l cs) (hk : k = 4 ∨ k = 5 ∨ k = 6 ∨ k = 7 ∨ k = 8 ∨ k = 9) (kc : k = 4 ∨ k = 7 → litN nb l) (kl : k = 6 ∨ k = 9 → cs.length ≤ 1) (hc : ∀ c, c ∈ cs → GdW W nb c) : GdW W nb x := by
  obtain ⟨-, h1, h2, h3⟩ := h
  refine GdN.nd ⟨?_, ?_, ?_, ?_, ?_⟩ (fun c hm => ?_)
  · rw [h1]; intro e; rw [e] at hk; exact absurd hk (by decide)
  · rw [h1]; intro e; rw [e] at hk; exact absurd hk (by decide)
  · rw [h1, h2]; exact kc
  · rw [h1]; exact fun _ => hk
  · rw [h1, h3]; exact kl
  · have hm : c ∈ (woV W x).2.2.2 := hm
    rw [h3] at hm; exact hc c hm
theorem gw_1 {y : Nat} (h : GdW W nb y) : ∀ c, c ∈ [y] → GdW W nb c := fun c hc => by rw [List.mem_singleton.mp hc]; exact h
theorem gw_2 {y z : Nat} (h : GdW W nb y) (k : GdW W nb z) : ∀ c, c ∈ [y, z] → GdW W nb c := fun c hc => by
  rcases List.mem_cons.mp hc with e | e
  · rw [e]; exact h
  · rw [List.mem_singleton.mp e]; exact k
theorem gw_p {p : Nat} (h : lfS (woV W) lo hi x 1 (Int32.ofNat p)) (hp : p < 24) : GdW W nb x := gw_lf h (fun _ => ⟨p, hp, rfl⟩) (fun e => absurd e (by decide)) ⟨by decide, by decide⟩
theorem gw_0 (h : lfS (woV W) lo hi x 0 0) : GdW W nb x := gw_lf h (fun e => absurd e (by decide)) (fun e => absurd e (by decide)) ⟨by decide, by decide⟩
theorem gw_e {v : Nat} (h : lfS (woV W) lo hi x 2 (Int32.ofNat v)) : GdW W nb x := gw_lf h (fun e => absurd e (by decide)) (fun e => absurd e (by decide)) ⟨by decide, by decide⟩
theorem gw_x (h : lfS (woV W) lo hi x 3 2) : GdW W nb x := gw_lf h (fun e => absurd e (by decide)) (fun _ => ⟨0, by decide, rfl⟩) ⟨by decide, by decide⟩
theorem gw_6 {y : Nat} (h : ndS (woV W) lo hi x 6 0 [y]) (k : GdW W nb y) : GdW W nb x := gw_nd h (Or.inr (Or.inr (Or.inl rfl))) (fun e => absurd e (by decide)) (fun _ => Nat.le_refl _) (gw_1 k)
theorem gw_9 {y : Nat} (h : ndS (woV W) lo hi x 9 0 [y]) (k : GdW W nb y) : GdW W nb x := gw_nd h (Or.inr (Or.inr (Or.inr (Or.inr (Or.inr rfl))))) (fun e => absurd e (by decide)) (fun _ => Nat.le_refl _) (gw_1 k)
theorem gw_5 (h : ndS (woV W) lo hi x 5 0 cs) (k : ∀ c, c ∈ cs → GdW W nb c) : GdW W nb x := gw_nd h (Or.inr (Or.inl rfl)) (fun e => absurd e (by decide)) (fun e => absurd e (by decide)) k
theorem gw_8 (h : ndS (woV W) lo hi x 8 0 cs) (k : ∀ c, c ∈ cs → GdW W nb c) : GdW W nb x := gw_nd h (Or.inr (Or.inr (Or.inr (Or.inr (Or.inl rfl))))) (fun e => absurd e (by decide)) (fun e => absurd e (by decide)) k
theorem gw_4 (h : ndS (woV W) lo hi x 4 l cs) (hl : litN nb l) (k : ∀ c, c ∈ cs → GdW W nb c) : GdW W nb x := gw_nd h (Or.inl rfl) (fun _ => hl) (fun e => absurd e (by decide)) k
theorem gw_7 (h : ndS (woV W) lo hi x 7 l cs) (hl : litN nb l) (k : ∀ c, c ∈ cs → GdW W nb c) : GdW W nb x := gw_nd h (Or.inr (Or.inr (Or.inr (Or.inl rfl)))) (fun _ => hl) (fun e => absurd e (by decide)) k
theorem gw_ha {p : Nat} (h : haS (woV W) lo hi x p) (hp : p < 24) : GdW W nb x := by
  obtain ⟨y, h1, h2⟩ := h
  exact gw_6 h1 (gw_p h2 hp)
theorem gw_st {v p : Nat} (h : stS (woV W) lo hi x v p) (hp : p < 24) : GdW W nb x := by
  obtain ⟨sq, e, pa, h1, h2, h3, h4⟩ := h
  exact gw_6 h1 (gw_5 h2 (gw_2 (gw_e h3) (gw_p h4 hp)))
theorem gw_wa {im : Bool} {p : Nat} (h : waS (woV W) lo hi x l im p) (hl : litN nb l) (hp : p < 24) : GdW W nb x := by
  obtain ⟨sq, pa, ch, ex, no, h1, h2, h3, h4, h5, h6⟩ := h
  have c1 : GdW W nb ch := gw_4 h4 hl (gw_2 (gw_x h5) (gw_0 h6))
  refine gw_6 h1 (gw_5 h2 ?_)
  cases im with
  | true => exact gw_2 c1 (gw_p h3 hp)
  | false => exact gw_2 (gw_p h3 hp) c1
theorem gw_aw {im : Bool} {p : Nat} (h : awS (woV W) lo hi x l im p) (hl : litN nb l) (hp : p < 24) : GdW W nb x := by
  obtain ⟨y, h1, h2⟩ := h
  exact gw_9 h1 (gw_wa h2 hl hp)
theorem gw_wk {im : Bool} {p body : Nat} (h : wkS (woV W) lo hi x body l im p) (hl : litN nb l) (hp : p < 24) (hb : GdW W nb body) : GdW W nb x := by
  obtain ⟨par, sq, wa, ex, h1, h2, h3, h4, h5⟩ := h
  exact gw_9 h1 (gw_8 h2 (gw_2 (gw_5 h3 (gw_2 hb (gw_x h4))) (gw_wa h5 hl hp)))
theorem gw_ab {p body : Nat} (h : abS (woV W) lo hi x body l p) (hl : litN nb l) (hp : p < 24) (hb : GdW W nb body) : GdW W nb x := by
  obtain ⟨y, h1, h2⟩ := h
  exact gw_wk h2 hl hp (gw_7 h1 hl (gw_1 hb))
theorem gw_ai {im : Bool} {p body : Nat} (h : aiS (woV W) lo hi x body l im p) (hl : litN nb l) (hp : p < 24) (hb : GdW W nb body) : GdW W nb x := by
  unfold aiS at h
  cases im with
  | true =>
    rw [if_pos rfl] at h
    obtain ⟨no, y, h1, h2, h3⟩ := h
    exact gw_4 h1 hl (gw_2 (gw_0 h2) (gw_ab h3 hl hp hb))
  | false =>
    rw [if_neg (by decide)] at h
    exact gw_ab h hl hp hb
theorem gw_ev {p2 p3 body aw : Nat} (h : evS (woV W) lo hi x body aw l p2 p3) (hl : litN nb l) (h2 : p2 < 24) (h3 : p3 < 24) (ha : GdW W nb aw) (hb : GdW W nb body) : GdW W nb x := by
  obtain ⟨lp, ab, sq, hq, e1, e2, e3, e4, e5⟩ := h
  exact gw_5 e1 (gw_2 ha (gw_6 e2 (gw_ab e3 hl h3 (gw_5 e4 (gw_2 hb (gw_ha e5 h2))))))
end
section
variable {W : Wo} {nb m zn fn lo hi x j p pb : Nat} {k : Int32} {K : List KE} {ys : List Nat}
theorem gw_pk (hcl : ∀ P l, CdW W m zn P l → litN nb l) (hif : ∀ f, f < fn → litN nb (woF W f)) (h : PkS W m zn fn lo hi k K j p pb x ys) (hp : pb + (paK k - hpK k) ≤ 24) (hpp : opnK k = false → pb = p) (h53 : k = 53 → p < pb) (hys : ∀ c, c ∈ ys → GdW W nb c) : GdW W nb x := by
  unfold PkS at h
  by_cases k1 : k = 38
  · rw [if_pos k1] at h; rw [k1] at hp hpp; have := hpp rfl; have hp : pb + 1 ≤ 24 := hp; exact gw_p h.1 (by omega)
  rw [if_neg k1] at h
  by_cases k2 : k = 39
  · rw [if_pos k2] at h; rw [k2] at hp hpp; have := hpp rfl; have hp : pb + 1 ≤ 24 := hp; exact gw_ha h.1 (by omega)
  rw [if_neg k2] at h
  by_cases k3 : k = 40
  · rw [if_pos k3] at h; obtain ⟨⟨v, -, h⟩, -⟩ := h; exact gw_e h
  rw [if_neg k3] at h
  by_cases k4 : k = 41
  · rw [if_pos k4] at h; rw [k4] at hp hpp; have := hpp rfl; have hp : pb + 1 ≤ 24 := hp; obtain ⟨⟨v, -, h⟩, -⟩ := h; exact gw_st h (by omega)
  rw [if_neg k4] at h
  by_cases k5 : k = 47
  · rw [if_pos k5] at h; rw [k5] at hp hpp; have := hpp rfl; have hp : pb + 1 ≤ 24 := hp; obtain ⟨⟨l, im, c, -, h⟩, -⟩ := h; exact gw_aw h (hcl _ _ c) (by omega)
  rw [if_neg k5] at h
  by_cases k6 : k = 57
  · rw [if_pos k6] at h; obtain ⟨⟨v, e, v1, -, -, h⟩, -⟩ := h; exact gw_lf h (fun e => absurd e (by decide)) (fun _ => ⟨v, v1, rfl⟩) ⟨by decide, by decide⟩
  rw [if_neg k6] at h
  by_cases k7 : k = 42
  · rw [if_pos k7] at h; obtain ⟨y, e, h⟩ := h; rw [e] at hys; exact gw_6 h (hys y List.mem_cons_self)
  rw [if_neg k7] at h
  by_cases k8 : k = 44
  · rw [if_pos k8] at h; obtain ⟨y, z, l, c, h, e⟩ := h
    refine gw_4 h (hcl _ _ c) ?_
    rcases e with e | ⟨e, e0⟩
    · rw [e] at hys; exact hys
    · rw [e] at hys; exact gw_2 (hys y List.mem_cons_self) (gw_0 e0)
  rw [if_neg k8] at h
  by_cases k9 : k = 58
  · rw [if_pos k9] at h; obtain ⟨y, z, f, f1, -, h, e⟩ := h
    refine gw_4 h (hif f f1) ?_
    rcases e with e | ⟨e, e0⟩
    · rw [e] at hys; exact hys
    · rw [e] at hys; exact gw_2 (hys y List.mem_cons_self) (gw_0 e0)
  rw [if_neg k9] at h
  by_cases k10 : k = 49
  · rw [if_pos k10] at h; rw [k10] at hp; have hp : pb + 1 ≤ 24 := hp; obtain ⟨y, l, im, e, c, -, h⟩ := h; rw [e] at hys; exact gw_ai h (hcl _ _ c) (by omega) (hys y List.mem_cons_self)
  rw [if_neg k10] at h
  by_cases k11 : k = 50
  · rw [if_pos k11] at h; rw [k11] at hp; have hp : pb + 1 ≤ 24 := hp; obtain ⟨y, l, im, e, c, -, h⟩ := h; rw [e] at hys; exact gw_wk h (hcl _ _ c) (by omega) (hys y List.mem_cons_self)
  rw [if_neg k11] at h
  by_cases k12 : k = 52
  · rw [if_pos k12] at h; obtain ⟨y, l, e, c, h⟩ := h; rw [e] at hys; exact gw_7 h (hcl _ _ c) hys
  rw [if_neg k12] at h
  by_cases k13 : k = 53
  · rw [if_pos k13] at h; have h5 := h53 k13; rw [k13] at hp; have hp : pb + 2 ≤ 24 := hp; obtain ⟨y, l, im, aw, e, c, -, ha, h⟩ := h; rw [e] at hys; exact gw_ev h (hcl _ _ c) (by omega) (by omega) (gw_aw ha (hcl _ _ c) (by omega)) (hys y List.mem_cons_self)
  rw [if_neg k13] at h
  by_cases k14 : k = 55
  · rw [if_pos k14] at h; obtain ⟨y, e, h⟩ := h; rw [e] at hys; exact gw_9 h (hys y List.mem_cons_self)
  rw [if_neg k14] at h
  by_cases k15 : k = 17
  · rw [if_pos k15] at h; exact gw_8 h hys
  rw [if_neg k15] at h
  exact gw_0 h.1
theorem TT.gd (hcl : ∀ P l, CdW W m zn P l → litN nb l) (hif : ∀ f, f < fn → litN nb (woF W f)) : ∀ (g md : Nat) (K : List KE) (a2 a3 a4 : Nat) (c1 c2 : Int32) (fl : Bool) (j j' r r' p p' : Nat) (L : List (Nat × Nat)), md ≤ 3 → TT W m zn fn lo hi g md K a2 a3 a4 c1 c2 fl j j' r r' p p' L → p' ≤ 24 → ∀ c, c ∈ L.map Prod.snd → GdW W nb c := by
  intro g
  induction g with
  | zero => intro md K a2 a3 a4 c1 c2 fl j j' r r' p p' L _ h; unfold TT at h; exact h.elim
  | succ g ih =>
    intro md K a2 a3 a4 c1 c2 fl j j' r r' p p' L hm h hp c hc
    unfold TT at h
    have le : ∀ {md : Nat} {K : List KE} {a2 a3 a4 : Nat} {c1 c2 : Int32} {fl : Bool} {j j' r r' p p' : Nat} {L : List (Nat × Nat)}, md ≤ 3 → TT W m zn fn lo hi g md K a2 a3 a4 c1 c2 fl j j' r r' p p' L → p ≤ p' := fun hm t => (TT.le _ _ _ _ _ _ _ _ _ _ _ _ _ _ _ _ hm t).2.2.1
    by_cases m0 : md = 0
    · rw [if_pos m0] at h
      obtain ⟨x, jm, rm, pm, T, y, eL, t2, t1, nd, -⟩ := h
      rw [eL] at hc
      rw [List.mem_singleton.mp hc]
      have l1 := le (by decide) t1
      refine gw_5 nd (fun d hd => ?_)
      rcases List.mem_cons.mp hd with e | e
      · exact ih _ _ _ _ _ _ _ _ _ _ _ _ _ _ _ (by decide) t2 (by omega) d (by rw [e]; exact List.mem_singleton.mpr rfl)
      · exact ih _ _ _ _ _ _ _ _ _ _ _ _ _ _ _ (by decide) t1 hp d e
    rw [if_neg m0] at h
    by_cases m1 : md = 1
    · rw [if_pos m1] at h
      rcases h with ⟨eL, -⟩ | ⟨x, jm, rm, pm, T, eL, t2, t1⟩
      · rw [eL] at hc; exact absurd hc List.not_mem_nil
      have l1 := le (by decide) t1
      rw [eL] at hc
      rcases List.mem_cons.mp hc with e | e
      · exact ih _ _ _ _ _ _ _ _ _ _ _ _ _ _ _ (by decide) t2 (by omega) c (by rw [e]; exact List.mem_singleton.mpr rfl)
      · exact ih _ _ _ _ _ _ _ _ _ _ _ _ _ _ _ (by decide) t1 hp c e
    rw [if_neg m1] at h
    by_cases m2 : md = 2
    · rw [if_pos m2] at h
      obtain ⟨k, x, ys, pb, ff, eL, -, pk, -, ep, h⟩ := h
      rw [eL] at hc
      rw [List.mem_singleton.mp hc]
      rcases h with ⟨ko, -, -, epb, -⟩ | ⟨k17, -, T, ey, t3⟩ | ⟨ko, -, -, t, jm, rm, pm, y, -, t0, h⟩
      · refine gw_pk hcl hif pk (by omega) (fun _ => epb) (fun e => ?_) (fun d hd => ?_)
        · rw [e] at ko; exact absurd ko (by decide)
        · unfold PkS at pk
          exfalso
          have nk : ∀ q : Int32, opnK q = true → k ≠ q := fun q hq e => by rw [e, hq] at ko; exact absurd ko (by decide)
          by_cases k1 : k = 38
          · rw [if_pos k1] at pk; rw [pk.2] at hd; exact absurd hd List.not_mem_nil
          rw [if_neg k1] at pk
          by_cases k2 : k = 39
          · rw [if_pos k2] at pk; rw [pk.2] at hd; exact absurd hd List.not_mem_nil
          rw [if_neg k2] at pk
          by_cases k3 : k = 40
          · rw [if_pos k3] at pk; rw [pk.2] at hd; exact absurd hd List.not_mem_nil
          rw [if_neg k3] at pk
          by_cases k4 : k = 41
          · rw [if_pos k4] at pk; rw [pk.2] at hd; exact absurd hd List.not_mem_nil
          rw [if_neg k4] at pk
          by_cases k5 : k = 47
          · rw [if_pos k5] at pk; rw [pk.2] at hd; exact absurd hd List.not_mem_nil
          rw [if_neg k5] at pk
          by_cases k6 : k = 57
          · rw [if_pos k6] at pk; rw [pk.2] at hd; exact absurd hd List.not_mem_nil
          rw [if_neg k6, if_neg (nk 42 rfl), if_neg (nk 44 rfl), if_neg (nk 58 rfl), if_neg (nk 49 rfl), if_neg (nk 50 rfl), if_neg (nk 52 rfl), if_neg (nk 53 rfl), if_neg (nk 55 rfl), if_neg (nk 17 rfl)] at pk
          rw [pk.2] at hd; exact absurd hd List.not_mem_nil
      · have l3 := le (by decide) t3
        refine gw_pk hcl hif pk (by omega) (fun e => ?_) (fun e => ?_) (fun d hd => ?_)
        · rw [k17] at e; exact absurd e (by decide)
        · rw [k17] at e; exact absurd e (by decide)
        · rw [ey] at hd
          exact ih _ _ _ _ _ _ _ _ _ _ _ _ _ _ _ (by decide) t3 (by omega) d hd
      · have l0 := le (by decide) t0
        rcases h with ⟨ey, -, -, epb, -⟩ | ⟨-, -, -, z, ey, t0'⟩
        · refine gw_pk hcl hif pk (by omega) (fun e => ?_) (fun e => ?_) (fun d hd => ?_)
          · rw [e] at ko; exact absurd ko (by decide)
          · rw [e] at l0; have l0 : p + 1 ≤ pm := l0; omega
          · rw [ey] at hd
            exact ih _ _ _ _ _ _ _ _ _ _ _ _ _ _ _ (by decide) t0 (by omega) d hd
        · have l0' := le (by decide) t0'
          refine gw_pk hcl hif pk (by omega) (fun e => ?_) (fun e => ?_) (fun d hd => ?_)
          · rw [e] at ko; exact absurd ko (by decide)
          · rw [e] at l0; have l0 : p + 1 ≤ pm := l0; omega
          · rw [ey] at hd
            rcases List.mem_cons.mp hd with e | e
            · exact ih _ _ _ _ _ _ _ _ _ _ _ _ _ _ _ (by decide) t0 (by omega) d (by rw [e]; exact List.mem_singleton.mpr rfl)
            · exact ih _ _ _ _ _ _ _ _ _ _ _ _ _ _ _ (by decide) t0' (by omega) d e
    rw [if_neg m2] at h
    obtain ⟨jm, rm, pm, y, t0, h⟩ := h
    rcases h with ⟨eL, -, -, ep, -⟩ | ⟨T, f2, eL, -, -, t3⟩
    · rw [eL] at hc
      exact ih _ _ _ _ _ _ _ _ _ _ _ _ _ _ _ (by decide) t0 (by omega) c hc
    · have l3 := le (by decide) t3
      rw [eL] at hc
      rcases List.mem_cons.mp hc with e | e
      · exact ih _ _ _ _ _ _ _ _ _ _ _ _ _ _ _ (by decide) t0 (by omega) c (by rw [e]; exact List.mem_singleton.mpr rfl)
      · exact ih _ _ _ _ _ _ _ _ _ _ _ _ _ _ _ (by decide) t3 hp c e
end
