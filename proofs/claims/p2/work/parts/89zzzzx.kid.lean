/-! the reference goes through its nodes: the end of a node, its children -/
section
variable {m : Nat} {A : Nat → Nat → Int32} {pn : Nat → Int32} {S0 : RBs} {G : Nat → List Nat} {W : Wo} {hm : Nat → Int32} {N zn fn g y x p p' : Nat} {mk nu co mk1 nu1 co1 : Nat → Int32} {sl sl1 : List Nat} {km km1 : Nat} {M M1 : Mem} {h : Nat} {Q : Option Value → Mem → Prop} {x1 : Int32} {ρ : Nat → Nat} {cx : List (Option Nat)}
theorem upM_eq {u : Nat} (hp : prB m S0 y u) : upM m S0 mk y u = mk u ||| mk y := by
  obtain ⟨-, h1, h2⟩ := hp
  unfold upM
  rw [if_neg (by rw [h2]; exact nm32 h1), h2, lt32 (by omega), va_up_self]
theorem upM_ne {z : Nat} (hR : RgB m S0 G) (hy : 700 * m ≤ y ∧ y < 700 * m + S0.1) (hp : ¬ prB m S0 y z) : upM m S0 mk y z = mk z := by
  have h4 := hR.1.1
  have h7 := hR.1.2
  unfold upM
  rcases hR.2.2.2.1 y hy.1 hy.2 with w | ⟨u, w1, w2, -⟩
  · rw [if_pos w]
  · rw [if_neg (by rw [w2]; exact nm32 (by omega)), w2, lt32 (by omega), va_up_ne _ _ (fun e => hp ⟨hy, by omega, by rw [e]; exact w2⟩)]
theorem w_fin (hR : RgB m S0 G) (hr : ∀ z x, prB m S0 z x → ρ z < ρ x) (hG : GW m A pn S0 mk1 nu1 co1 sl1 km1 M1) (hy : 700 * m ≤ y ∧ y < 700 * m + S0.1) (hl : S0.2 80 y = 4 ∨ S0.2 80 y = 5 ∨ S0.2 80 y = 6 ∨ S0.2 80 y = 7 ∨ S0.2 80 y = 8 ∨ S0.2 80 y = 9 ∨ S0.2 80 y = 10 → G y ≠ []) (a : ∀ z, ¬ inS (prB m S0) z y → nu1 z = nu z ∧ co1 z = co z ∧ mk1 z = mk z) (b : mk1 y = hm x) (c : ¬ ((woV W x).1 = 5 ∧ (woV W x).2.2.2.length = 1) ∧ ZipP (VlN W (vwR S0 G) (Vok W hm mk1 nu1 co1 km1) g) (G y) (woV W x).2.2.2) (d : (woV W x).1 = 1 ∨ (woV W x).1 = 3 → nu1 y = (woV W x).2.2.1) (d3 : (woV W x).1 = 3 → ∃ v, (woV W x).2.2.1 = Int32.ofNat (2 + v) ∧ 2 + v + 1 ≤ km1) (e : rcS (S0.2 80 y) (nu1 y) ((G y).map co1) = woC W x) (e2 : cbI (woC W x)) (f : ∃ t, sl1 = sl ++ t ∧ ∀ s ∈ t, inS (prB m S0) (s / 2) y) (f2 : sl1.Nodup) (f3 : ∀ s ∈ sl1, 1400 * m ≤ s ∧ s < 1400 * m + 2 * S0.1) (f4 : 2 * y ∈ sl1) (f5 : 2 * y + 1 ∉ sl1) (f6 : ∀ c ∈ G y, ∀ z, inS (prB m S0) z c → 2 * z ∈ sl1 ∧ 2 * z + 1 ∈ sl1) (k : km ≤ km1 ∧ km1 ≤ 20) (K : ∀ mk' nu' co' sl' km' M', PoW W hm m S0 G mk nu co sl km mk' nu' co' sl' km' (g + 1) y x → GW m A pn S0 mk' nu' co' sl' km' M' → RGb m M1 M' → aftT h S0 y x1 M' Q) : DX11_goThrough_172 (h + 3) 29 x1 (Int32.ofNat y) M1 Q := by
  have h7 := hR.1.2
  have irr : ¬ prB m S0 y y := fun w => Nat.lt_irrefl _ (hr y y w)
  have nd : (sl1 ++ [2 * y + 1]).Nodup := by
    rw [List.nodup_append]
    refine ⟨f2, by simp, fun a ha b hb => ?_⟩
    rw [List.mem_singleton] at hb
    intro w
    exact f5 (by rw [← hb, ← w]; exact ha)
  have rg : ∀ s ∈ sl1 ++ [2 * y + 1], 1400 * m ≤ s ∧ s < 1400 * m + 2 * S0.1 := fun s hs => by
    rcases List.mem_append.mp hs with w | w
    · exact f3 s w
    · rw [List.mem_singleton] at w
      omega
  have len := nodup_iv nd rg
  rw [List.length_append] at len
  have len : sl1.length + 1 ≤ 2 * S0.1 := len
  refine L_leave hG hR hy hl (by omega) (fun M' g' r' => ?_)
  rw [e] at g'
  refine K _ _ _ _ _ M' ⟨fun z hz => ?_, fun u hu => ?_, ⟨⟨?_, va_up_self _ _ _, d, d3, e2⟩, Or.inr ⟨c.1, zip_st _ _ (fun q w hq kq => ?_) c.2⟩⟩, ⟨?_, nd, rg, fun z hz => ?_⟩, k⟩ g' r'
  · obtain ⟨a1, a2, a3⟩ := a z hz
    refine ⟨a1, ?_, fun hp => (upM_ne hR hy hp).trans a3⟩
    rw [va_up_ne _ _ (fun w => hz (by rw [w]; exact inS.rf))]
    exact a2
  · rw [upM_eq hu, b, (a u (sub_no hr hu)).2.2]
  · rw [upM_ne hR hy irr]; exact b
  · have hq : q ∈ G y := hq
    have pr := hR.pr hy hq
    refine VlN.st hR g q w pr.1 (fun z v hz kv => ?_) kq
    obtain ⟨v1, v2, v3, v4, v5⟩ := kv
    have zy : z ≠ y := fun w => sub_no hr pr (by rw [w] at hz; exact hz)
    refine ⟨?_, ?_, v3, v4, v5⟩
    · rw [upM_ne hR hy (fun hp => ?_)]
      · exact v1
      · obtain ⟨kz, hz⟩ := hz
        have r1 := anc_rho hr kz z q hz
        have r2 := hr q y pr
        have r3 := hr y z hp
        omega
    · rw [va_up_ne _ _ zy]; exact v2
  · obtain ⟨t, t1, t2⟩ := f
    refine ⟨t ++ [2 * y + 1], by rw [t1, List.append_assoc], fun s hs => ?_⟩
    rcases List.mem_append.mp hs with w | w
    · exact t2 s w
    · rw [List.mem_singleton] at w
      rw [w, show (2 * y + 1) / 2 = y by omega]
      exact inS.rf
  · rcases hz.ch hR with w | ⟨q, q1, q2⟩
    · rw [w]
      exact ⟨List.mem_append_left _ f4, List.mem_append_right _ (List.mem_singleton.mpr rfl)⟩
    · obtain ⟨s1, s2⟩ := f6 q q1 z q2
      exact ⟨List.mem_append_left _ s1, List.mem_append_left _ s2⟩
/-- the walk, at fuel g -/
def GoH (W : Wo) (hm : Nat → Int32) (m N zn fn : Nat) (A : Nat → Nat → Int32) (pn : Nat → Int32) (S0 : RBs) (G : Nat → List Nat) (h : Nat) (Q : Option Value → Mem → Prop) (g : Nat) : Prop := ∀ (cx : List (Option Nat)) (y x p p' : Nat) (mk nu co : Nat → Int32) (sl : List Nat) (km : Nat) (M : Mem), RpN W m zn fn (vwR S0 G) (700 * m + S0.1) g cx y x p p' → 1 ≤ x ∧ x < N → GW m A pn S0 mk nu co sl km M → (cx = [] ∨ ∃ k u, prB m S0 y u ∧ TrC m S0 pn k u cx) → stI m S0 sl y → (∀ z, inS (prB m S0) z y → mk z = 0) → km ≤ 20 → (∀ mk' nu' co' sl' km' M', PoW W hm m S0 G mk nu co sl km mk' nu' co' sl' km' g y x → GW m A pn S0 mk' nu' co' sl' km' M' → RGb m M M' → aftT h S0 y (Int32.ofNat p') M' Q) → goT h (Int32.ofNat p) (Int32.ofNat y) 1 M Q
def kidT (h y : Nat) (ds : List Nat) (x1 : Int32) (M : Mem) (Q : Option Value → Mem → Prop) : Prop := match ds with
  | [] => goT h x1 (Int32.ofNat y) 0 M Q
  | d :: _ => goT h x1 (Int32.ofNat d) 1 M Q
/-- what the walk of children ds, which stand for cs, has done -/
def KdP (W : Wo) (hm : Nat → Int32) (m : Nat) (S0 : RBs) (G : Nat → List Nat) (y : Nat) (mk nu co : Nat → Int32) (sl : List Nat) (km : Nat) (mk' nu' co' : Nat → Int32) (sl' : List Nat) (km' g : Nat) (ds cs : List Nat) : Prop := (∀ z, (∀ d ∈ ds, ¬ inS (prB m S0) z d) → nu' z = nu z ∧ co' z = co z ∧ (z ≠ y → mk' z = mk z)) ∧ mk' y = (cs.map hm).foldl (fun a c => a ||| c) (mk y) ∧ ZipP (VlN W (vwR S0 G) (Vok W hm mk' nu' co' km') g) ds cs ∧ ds.map co' = cs.map (woC W) ∧ (∀ c ∈ cs, cbI (woC W c)) ∧ ((∃ t, sl' = sl ++ t ∧ ∀ s ∈ t, ∃ d, d ∈ ds ∧ inS (prB m S0) (s / 2) d) ∧ sl'.Nodup ∧ (∀ s ∈ sl', 1400 * m ≤ s ∧ s < 1400 * m + 2 * S0.1) ∧ ∀ d ∈ ds, ∀ z, inS (prB m S0) z d → 2 * z ∈ sl' ∧ 2 * z + 1 ∈ sl') ∧ (km ≤ km' ∧ km' ≤ 20)
theorem kids (hR : RgB m S0 G) (hr : ∀ z x, prB m S0 z x → ρ z < ρ x) (ih : GoH W hm m N zn fn A pn S0 G h Q g) (hy : 700 * m ≤ y ∧ y < 700 * m + S0.1) (htr : cx = [] ∨ ∃ k, TrC m S0 pn k y cx) : ∀ (ds cs : List Nat) (p p' : Nat) (mk nu co : Nat → Int32) (sl : List Nat) (km : Nat) (M : Mem), RpLs (RpN W m zn fn (vwR S0 G) (700 * m + S0.1) g cx) ds cs p p' → (∀ d ∈ ds, d ∈ G y) → ds.Nodup → (match ds with | [] => True | d :: r => NxC S0.2 d r) → (∀ c ∈ cs, 1 ≤ c ∧ c < N) → GW m A pn S0 mk nu co sl km M → sl.Nodup → (∀ s ∈ sl, 1400 * m ≤ s ∧ s < 1400 * m + 2 * S0.1) → (∀ d ∈ ds, ∀ s ∈ sl, ¬ inS (prB m S0) (s / 2) d) → (∀ d ∈ ds, ∀ z, inS (prB m S0) z d → mk z = 0) → km ≤ 20 → (∀ mk' nu' co' sl' km' M', KdP W hm m S0 G y mk nu co sl km mk' nu' co' sl' km' g ds cs → GW m A pn S0 mk' nu' co' sl' km' M' → RGb m M M' → goT h (Int32.ofNat p') (Int32.ofNat y) 0 M' Q) → kidT h y ds (Int32.ofNat p) M Q := by
  have hf : ∀ z x x', prB m S0 z x → prB m S0 z x' → x = x' := fun z x x' a b => prB_f a b
  intro ds
  induction ds with
  | nil =>
    intro cs p p' mk nu co sl km M hp _ _ _ _ hG s1 s2 _ _ hk K
    cases cs with
    | cons _ _ => exact hp.elim
    | nil =>
      have hp : p' = p := hp
      subst hp
      exact K mk nu co sl km M ⟨fun z _ => ⟨rfl, rfl, fun _ => rfl⟩, rfl, trivial, rfl, fun c hc => absurd hc (List.not_mem_nil), ⟨⟨[], (List.append_nil _).symm, fun s hs => absurd hs (List.not_mem_nil)⟩, s1, s2, fun d hd => absurd hd (List.not_mem_nil)⟩, Nat.le_refl _, hk⟩ hG RG.rf
  | cons d r ihr =>
    intro cs p p' mk nu co sl km M hp hds hnd hnx hcs hG s1 s2 s3 hz hk K
    cases cs with
    | nil => exact hp.elim
    | cons c cs =>
      obtain ⟨pm, hp1, hp2⟩ := hp
      have hd := hds d List.mem_cons_self
      have pr := hR.pr hy hd
      have nd := List.nodup_cons.mp hnd
      show goT h (Int32.ofNat p) (Int32.ofNat d) 1 M Q
      refine ih cx d c p pm mk nu co sl km M hp1 (hcs c List.mem_cons_self) hG ?_ ⟨s1, s2, s3 d List.mem_cons_self⟩ (hz d List.mem_cons_self) hk (fun mk1 nu1 co1 sl1 km1 M1 po g1 r1 => ?_)
      · rcases htr with w | ⟨k, w⟩
        · exact Or.inl w
        · exact Or.inr ⟨k, y, pr, w⟩
      obtain ⟨q1, q2, q3, ⟨⟨t, t1, t2⟩, q5, q6, q7⟩, q8⟩ := po
      have pz : ∀ z, prB m S0 d z → z = y := fun z hz => hf d z y hz pr
      -- nothing of a sibling or of y lies within d
      have dj : ∀ e, e ∈ r → ∀ z, inS (prB m S0) z e → ¬ inS (prB m S0) z d := fun e he z hz1 hz2 => sub_dj hf hr pr (hR.pr hy (hds e (List.mem_cons_of_mem _ he))) (fun w => nd.1 (by rw [w]; exact he)) hz2 hz1
      have ye : ∀ e, e ∈ r → ∀ z, inS (prB m S0) z e → z ≠ y := fun e he z hz1 w => sub_no hr (hR.pr hy (hds e (List.mem_cons_of_mem _ he))) (by rw [w] at hz1; exact hz1)
      have yd : ¬ inS (prB m S0) y d := sub_no hr pr
      have nxt : kidT h y r (Int32.ofNat pm) M1 Q := by
        refine ihr cs pm p' mk1 nu1 co1 sl1 km1 M1 hp2 (fun e he => hds e (List.mem_cons_of_mem _ he)) nd.2 ?_ (fun e he => hcs e (List.mem_cons_of_mem _ he)) g1 q5 q6 (fun e he s hs => ?_) (fun e he z hz1 => ?_) q8.2 (fun mk2 nu2 co2 sl2 km2 M2 kp g2 r2 => K mk2 nu2 co2 sl2 km2 M2 ?_ g2 (r1.tr r2))
        · cases r with
          | nil => trivial
          | cons e r => exact hnx.2
        · rw [t1] at hs
          rcases List.mem_append.mp hs with w | w
          · exact s3 e (List.mem_cons_of_mem _ he) s w
          · exact fun hz1 => dj e he _ hz1 (t2 s w)
        · rw [(q1 z (dj e he z hz1)).2.2 (fun hp => ye e he z hz1 (pz z hp))]
          exact hz e (List.mem_cons_of_mem _ he) z hz1
        · obtain ⟨k1, k2, k3, k4, k5, ⟨⟨t', u1, u2⟩, k7, k8, k9⟩, k10⟩ := kp
          have nr : ∀ z, inS (prB m S0) z d → ∀ e ∈ r, ¬ inS (prB m S0) z e := fun z hz1 e he hz2 => dj e he z hz2 hz1
          have dv := q3.hd
          refine ⟨fun z hz1 => ?_, ?_, ⟨?_, k3⟩, ?_, fun e he => ?_, ⟨⟨t ++ t', by rw [u1, t1, List.append_assoc], fun s hs => ?_⟩, k7, k8, fun e he z hz1 => ?_⟩, by omega⟩
          · obtain ⟨a1, a2, a3⟩ := k1 z (fun e he => hz1 e (List.mem_cons_of_mem _ he))
            obtain ⟨b1, b2, b3⟩ := q1 z (hz1 d List.mem_cons_self)
            exact ⟨a1.trans b1, a2.trans b2, fun zy => (a3 zy).trans (b3 (fun hp => zy (pz z hp)))⟩
          · rw [k2, q2 y pr]
            rfl
          · refine VlN.st hR g d c pr.1 (fun z w hz1 kv => ?_) q3
            obtain ⟨v1, v2, v3, v4, v5⟩ := kv
            obtain ⟨a1, a2, a3⟩ := k1 z (nr z hz1)
            have zy : z ≠ y := fun w => yd (by rw [w] at hz1; exact hz1)
            refine ⟨(a3 zy).trans v1, a2.trans v2, fun w => a1.trans (v3 w), fun w => ?_, v5⟩
            obtain ⟨v, w1, w2⟩ := v4 w
            exact ⟨v, w1, by omega⟩
          · have e1 : co2 d = woC W c := ((k1 d (nr d inS.rf)).2.1).trans dv.2.1
            rw [List.map_cons, List.map_cons, e1, k4]
          · rcases List.mem_cons.mp he with w | w
            · rw [w]; exact dv.2.2.2.2
            · exact k5 e w
          · rcases List.mem_append.mp hs with w | w
            · exact ⟨d, List.mem_cons_self, t2 s w⟩
            · obtain ⟨e, e1, e2⟩ := u2 s w
              exact ⟨e, List.mem_cons_of_mem _ e1, e2⟩
          · rcases List.mem_cons.mp he with w | w
            · rw [w] at hz1
              obtain ⟨a1, a2⟩ := q7 z hz1
              rw [u1]
              exact ⟨List.mem_append_left _ a1, List.mem_append_left _ a2⟩
            · exact k9 e w z hz1
      unfold aftT
      cases r with
      | nil =>
        have hnx : S0.2 84 d = -1 := hnx
        rw [if_pos hnx, if_pos hnx, pr.2.2]
        exact nxt
      | cons e r =>
        have hnx : S0.2 84 d = Int32.ofNat e ∧ NxC S0.2 e r := hnx
        have he := (hR.pr hy (hds e (by simp))).1
        have h4 := hR.1.1
        have h7 := hR.1.2
        have ne : S0.2 84 d ≠ -1 := by rw [hnx.1]; exact nm32 (by omega)
        rw [if_neg ne, if_neg ne, hnx.1]
        exact nxt
end
