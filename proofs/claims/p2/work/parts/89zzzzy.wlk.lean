/-! the reference goes through its nodes: by kinds -/
theorem cb1 : ∀ k : Fin 20, cbI ((1 : Int32) <<< (Int32.ofNat k.val &&& 31)) := by
  intro k
  have h : ∀ k : Fin 20, ((1 : Int32) <<< (Int32.ofNat k.val &&& 31)).toBitVec.toNat < 1048576 := by decide +kernel
  exact h k
theorem pj_fold : ∀ (r : List Int32) (a : Int32), cbI a → (∀ c ∈ r, cbI c) → r.foldl pjF a = r.foldl (fun h c => aoT 8 h c False) a ∧ cbI (r.foldl pjF a)
  | [], a, h, _ => ⟨rfl, h⟩
  | c :: r, a, h, hr => by
    have hc := hr c List.mem_cons_self
    obtain ⟨q1, q2⟩ := pj_fold r (pjF a c) (cb_pj h hc) (fun z hz => hr z (List.mem_cons_of_mem _ hz))
    refine ⟨?_, q2⟩
    show r.foldl pjF (pjF a c) = r.foldl (fun h c => aoT 8 h c False) (aoT 8 a c False)
    rw [q1, pj_ao h hc]
theorem se_fold : ∀ (r : List Int32) (a : Int32), cbI a → (∀ c ∈ r, cbI c) → r.foldl seF a = r.foldl (fun h c => aoT 5 h c False) a ∧ cbI (r.foldl seF a)
  | [], a, h, _ => ⟨rfl, h⟩
  | c :: r, a, h, hr => by
    have hc := hr c List.mem_cons_self
    obtain ⟨q1, q2⟩ := se_fold r (seF a c) (cb_se h hc) (fun z hz => hr z (List.mem_cons_of_mem _ hz))
    refine ⟨?_, q2⟩
    show r.foldl seF (seF a c) = r.foldl (fun h c => aoT 5 h c False) (aoT 5 a c False)
    rw [q1, se_ao (p := False)]
section
variable {m : Nat} {A : Nat → Nat → Int32} {pn : Nat → Int32} {S0 : RBs} {G : Nat → List Nat} {W : Wo} {hm : Nat → Int32} {N zn fn g y x p p' : Nat} {mk nu co : Nat → Int32} {sl : List Nat} {km : Nat} {M : Mem} {h : Nat} {Q : Option Value → Mem → Prop} {ρ : Nat → Nat} {cx : List (Option Nat)}
theorem TrC_e : ∀ (k n : Nat) (cx : List (Option Nat)) (v e : Nat), TrC m S0 pn k n cx → cx[v]? = some (some e) → e < 160 := by
  intro k
  induction k with
  | zero => intro n cx v e h; exact h.elim
  | succ k ih =>
    intro n cx v e h hv
    obtain ⟨hn, h⟩ := h
    by_cases h10 : S0.2 80 n = 10
    · rw [if_pos h10] at h
      obtain ⟨t, cx', e1, e2, e3⟩ := h
      subst e1
      cases v with
      | zero =>
        have hv : some t = some (some e) := hv
        cases hv
        rcases e2 with ⟨z, -⟩ | ⟨e', z0, z, -⟩
        · cases z
        · cases z; exact z0
      | succ v =>
        have hv : cx'[v]? = some (some e) := hv
        rcases e3 with z | ⟨x, z1, z2⟩
        · rw [z] at hv; cases hv
        · exact ih x cx' v e z2 hv
    · rw [if_neg h10] at h
      rcases h with z | ⟨x, z1, z2⟩
      · rw [z] at hv; cases hv
      · exact ih x cx v e z2 hv
/-- a node without children, behind the looks at pause and exit -/
theorem w_leaf {mk1 nu1 : Nat → Int32} {km1 : Nat} {M1 : Mem} {x1 : Int32} (hR : RgB m S0 G) (hr : ∀ z x, prB m S0 z x → ρ z < ρ x) (hy : 700 * m ≤ y ∧ y < 700 * m + S0.1) (hg : G y = []) (hl : ¬ (S0.2 80 y = 4 ∨ S0.2 80 y = 5 ∨ S0.2 80 y = 6 ∨ S0.2 80 y = 7 ∨ S0.2 80 y = 8 ∨ S0.2 80 y = 9 ∨ S0.2 80 y = 10)) (hs : stI m S0 sl y) (hG : GW m A pn S0 mk1 nu1 co (sl ++ [2 * y]) km1 M1) (a : ∀ z, z ≠ y → nu1 z = nu z ∧ mk1 z = mk z) (b : mk1 y = hm x) (c : (woV W x).2.2.2 = []) (d : (woV W x).1 = 1 ∨ (woV W x).1 = 3 → nu1 y = (woV W x).2.2.1) (d3 : (woV W x).1 = 3 → ∃ v, (woV W x).2.2.1 = Int32.ofNat (2 + v) ∧ 2 + v + 1 ≤ km1) (e : rcS (S0.2 80 y) (nu1 y) [] = woC W x) (e2 : cbI (woC W x)) (k : km ≤ km1 ∧ km1 ≤ 20) (K : ∀ mk' nu' co' sl' km' M', PoW W hm m S0 G mk nu co sl km mk' nu' co' sl' km' (g + 1) y x → GW m A pn S0 mk' nu' co' sl' km' M' → RGb m M1 M' → aftT h S0 y x1 M' Q) : DX11_goThrough_148 (h + 3) 29 x1 (Int32.ofNat y) 1 M1 Q := by
  obtain ⟨-, -, n1, n2⟩ := hs.len hR hy
  refine L_148 hG hR hy (fun _ => ?_) (fun c r e => by rw [hg] at e; cases e)
  refine w_fin hR hr hG hy (fun z => absurd z hl) (fun z hz => ?_) b ⟨fun z => by rw [c] at z; exact absurd z.2 (by decide), ?_⟩ d d3 (by rw [hg]; exact e) e2 ⟨[2 * y], rfl, fun s w => ?_⟩ n1 n2 (List.mem_append_right _ (List.mem_singleton.mpr rfl)) (fun w => ?_) (fun q hq => by rw [hg] at hq; exact absurd hq (List.not_mem_nil)) k K
  · have zy : z ≠ y := fun w => hz (by rw [w]; exact inS.rf)
    exact ⟨(a z zy).1, rfl, (a z zy).2⟩
  · rw [hg]; trivial
  · rw [List.mem_singleton] at w
    rw [w, show 2 * y / 2 = y by omega]
    exact inS.rf
  · rcases List.mem_append.mp w with w | w
    · exact hs.2.2 _ w (by rw [show (2 * y + 1) / 2 = y by omega]; exact inS.rf)
    · rw [List.mem_singleton] at w
      omega
/-- a node with children -/
theorem w_node {cs : List Nat} {cx' : List (Option Nat)} {d : Nat} {r : List Nat} (hR : RgB m S0 G) (hr : ∀ z x, prB m S0 z x → ρ z < ρ x) (ih : GoH W hm m N zn fn A pn S0 G h Q g) (hy : 700 * m ≤ y ∧ y < 700 * m + S0.1) (h2 : S0.2 80 y ≠ 2) (h3 : S0.2 80 y ≠ 3) (hg : G y = d :: r) (hp : RpLs (RpN W m zn fn (vwR S0 G) (700 * m + S0.1) g cx') (G y) cs p p') (htr : cx' = [] ∨ ∃ k, TrC m S0 pn k y cx') (hcs : ∀ c ∈ cs, 1 ≤ c ∧ c < N) (hx1 : ¬ ((woV W x).1 = 5 ∧ (woV W x).2.2.2.length = 1)) (hx2 : (woV W x).1 ≠ 1 ∧ (woV W x).1 ≠ 3) (hz : ∀ R : Nat → Nat → Prop, ZipP R (G y) cs → ZipP R (G y) (woV W x).2.2.2) (hmx : hm x = (cs.map hm).foldl (fun a c => a ||| c) 0) (hco : ∀ w : Int32, (∀ c ∈ cs, cbI (woC W c)) → rcS (S0.2 80 y) w (cs.map (woC W)) = woC W x ∧ cbI (woC W x)) (hG : GW m A pn S0 mk nu co sl km M) (hs : stI m S0 sl y) (hm0 : ∀ z, inS (prB m S0) z y → mk z = 0) (hk : km ≤ 20) (K : ∀ mk' nu' co' sl' km' M', PoW W hm m S0 G mk nu co sl km mk' nu' co' sl' km' (g + 1) y x → GW m A pn S0 mk' nu' co' sl' km' M' → RGb m M M' → aftT h S0 y (Int32.ofNat p') M' Q) : goT h (Int32.ofNat p) (Int32.ofNat y) 1 M Q := by
  have h4 := hR.1.1
  have h7 := hR.1.2
  obtain ⟨l1, l2, n1, n2⟩ := hs.len hR hy
  obtain ⟨lk, nd, ch⟩ := hR.2.1 y hy.1 hy.2
  refine L_ent hG hR hy l1 (fun _ M1 g1 r1 => L_78n g1 hR hy h3 (L_148 g1 hR hy (fun e => by rw [hg] at e; cases e) (fun c t e => ?_))) (fun w => absurd w h2)
  have up : ∀ q, q ∈ G y → ∀ z, inS (prB m S0) z q → inS (prB m S0) z y := fun q hq z hz => hz.up (hR.pr hy hq)
  have kt : kidT h y (G y) (Int32.ofNat p) M1 Q := by
    refine kids hR hr ih hy htr (G y) cs p p' mk nu co (sl ++ [2 * y]) km M1 hp (fun _ hq => hq) nd ?_ hcs g1 n1 n2 (fun q hq s hs1 => ?_) (fun q hq z hz1 => hm0 z (up q hq z hz1)) hk (fun mk' nu' co' sl' km' M2 kp g2 r2 => ?_)
    · rw [hg] at lk ⊢
      exact lk.nx
    · rcases List.mem_append.mp hs1 with w | w
      · exact fun hz1 => hs.2.2 s w (up q hq _ hz1)
      · rw [List.mem_singleton] at w
        rw [w, show 2 * y / 2 = y by omega]
        exact sub_no hr (hR.pr hy hq)
    · obtain ⟨k1, k2, k3, k4, k5, ⟨⟨t', u1, u2⟩, k7, k8, k9⟩, k10⟩ := kp
      obtain ⟨c1, c2⟩ := hco (nu' y) k5
      refine L_back g2 (by omega) (w_fin (km := km) (nu := nu) (co := co) (mk := mk) (sl := sl) hR hr g2 hy (fun _ w => by rw [hg] at w; cases w) (fun z hz1 => ?_) ?_ ⟨hx1, hz _ k3⟩ (fun w => ?_) (fun w => absurd w hx2.2) (by rw [k4]; exact c1) c2 ⟨[2 * y] ++ t', by rw [u1, List.append_assoc], fun s hs1 => ?_⟩ k7 k8 (by rw [u1]; exact List.mem_append_left _ (List.mem_append_right _ (List.mem_singleton.mpr rfl))) (fun w => ?_) k9 k10 (fun mk3 nu3 co3 sl3 km3 M3 po g3 r3 => K mk3 nu3 co3 sl3 km3 M3 po g3 ((r1.tr r2).tr r3)))
      · obtain ⟨a1, a2, a3⟩ := k1 z (fun q hq w => hz1 (up q hq z w))
        exact ⟨a1, a2, a3 (fun w => hz1 (by rw [w]; exact inS.rf))⟩
      · rw [k2, hm0 y inS.rf, hmx]
      · rcases w with w | w
        · exact absurd w hx2.1
        · exact absurd w hx2.2
      · rcases List.mem_append.mp hs1 with w | w
        · rw [List.mem_singleton] at w
          rw [w, show 2 * y / 2 = y by omega]
          exact inS.rf
        · obtain ⟨q, q1, q2⟩ := u2 s w
          exact up q q1 _ q2
      · rw [u1] at w
        rcases List.mem_append.mp w with w | w
        · rcases List.mem_append.mp w with w | w
          · exact hs.2.2 _ w (by rw [show (2 * y + 1) / 2 = y by omega]; exact inS.rf)
          · rw [List.mem_singleton] at w
            omega
        · obtain ⟨q, q1, q2⟩ := u2 _ w
          rw [show (2 * y + 1) / 2 = y by omega] at q2
          exact sub_no hr (hR.pr hy q1) q2
  rw [e] at kt
  exact kt
end
