section
/-! the reference goes through all its nodes -/
theorem RpLs.len {R : Nat → Nat → Nat → Nat → Prop} : ∀ (ds cs : List Nat) (p p' : Nat), RpLs R ds cs p p' → ds.length = cs.length
  | [], [], _, _, _ => rfl
  | d :: ds, c :: cs, p, p', ⟨pm, _, k2⟩ => by
    show ds.length + 1 = cs.length + 1
    rw [RpLs.len ds cs pm p' k2]
  | [], _ :: _, _, _, k => k.elim
  | _ :: _, [], _, _, k => k.elim
theorem he_n {k : Int32} (hk : k ≠ 1) (d : Int32) (hm : Nat → Int32) : heG (heV k d) (List.map hm []) = 0 := by
  show heV k d = 0
  exact if_neg hk
theorem he_1 (d : Int32) (hm : Nat → Int32) : heG (heV 1 d) (List.map hm []) = (1 : Int32) <<< (d &&& 31) := by
  show heV 1 d = _
  exact if_pos rfl
theorem ao_n {k : Int32} (hk : k = 0 ∨ k = 5 ∨ k = 2) (d : Int32) (hm : Nat → Int32) : aoG k (leV k d) (List.map hm []) = 1 := by
  show leV k d = 1
  exact if_pos hk
theorem ao_1 (d : Int32) (hm : Nat → Int32) : aoG 1 (leV 1 d) (List.map hm []) = 2 := by
  show leV 1 d = 2
  exact (if_neg (by decide)).trans (if_pos rfl)
theorem ao_3 (d : Int32) (hm : Nat → Int32) : aoG 3 (leV 3 d) (List.map hm []) = (1 : Int32) <<< (d &&& 31) := by
  show leV 3 d = _
  exact ((if_neg (by decide)).trans (if_neg (by decide))).trans (if_pos rfl)
theorem cb_1 : cbI 1 := by show (1 : Int32).toBitVec.toNat < 1048576; decide
section
variable {m : Nat} {A : Nat → Nat → Int32} {pn : Nat → Int32} {S0 : RBs} {G : Nat → List Nat} {W : Wo} {hm : Nat → Int32} {N zn fn : Nat} {h : Nat} {Q : Option Value → Mem → Prop} {ρ : Nat → Nat}
theorem walk_all (hR : RgB m S0 G) (hr : ∀ z x, prB m S0 z x → ρ z < ρ x) (hA : woA W = A) (hC : ClE W hm N) (hT : ∀ z, 700 * m ≤ z → z < 700 * m + S0.1 → S0.2 80 z = 10 → S0.2 81 z = -1 ∨ ∃ P, P < 160 ∧ S0.2 81 z = Int32.ofNat P ∧ pn P = Int32.ofNat z) : ∀ g, GoH W hm m N zn fn A pn S0 G h Q g := by
  have h4 := hR.1.1
  have h7 := hR.1.2
  intro g
  induction g with
  | zero => intro cx y x p p' mk nu co sl km M hp; unfold RpN at hp; exact hp.elim
  | succ g ih =>
    intro cx y x p p' mk nu co sl km M hp hx hG htr hs hm0 hk K
    obtain ⟨c1, c2, c3⟩ := hC x hx.1 hx.2
    unfold RpN at hp
    obtain ⟨hy, hp⟩ := hp
    obtain ⟨l1, -, -, -⟩ := hs.len hR hy
    have my : mk y = 0 := hm0 y inS.rf
    have trk : S0.2 80 y ≠ 10 → cx = [] ∨ ∃ k, TrC m S0 pn k y cx := fun n10 => by
      rcases htr with w | ⟨k, u, w1, w2⟩
      · exact Or.inl w
      · exact Or.inr ⟨k + 1, hy, by rw [if_neg n10]; exact Or.inr ⟨u, w1, w2⟩⟩
    rcases hp with ⟨k5, c, e1, r1⟩ | ⟨k5, s6, l2, r1⟩ | ⟨k0, e0, s0, g0, ep⟩ | ⟨k1, e1, e0, s2, g0, ep⟩ | ⟨k2, e0, s1, g0, -, ep⟩ | ⟨k3, e0, s3, g0, ⟨v, v0, v1, v2⟩, ep⟩ | ⟨k4, cw, a1, a2, d1, pm, e1, r1, r2⟩ | ⟨k6, s7, c, d, e1, g1, r1⟩ | ⟨k7, s8, -, c, d, e1, g1, r1⟩ | ⟨k8, s9, l9, r1⟩ | ⟨k9, s10, c, d, t, e1, g1, et, r1⟩
    · -- a row of one
      rw [k5, e1] at c1 c2
      have hmc : hm x = hm c := by
        rw [c1]
        show (heV 5 _) ||| hm c = hm c
        have : ∀ d, heV 5 d = 0 := fun d => if_neg (by decide)
        rw [this, Int32.zero_or]
      have hwc : woC W x = woC W c := by
        rw [c2]
        have : ∀ d, leV 5 d = 1 := fun d => if_pos (by decide)
        rw [this]
        show aoT 5 1 (woC W c) True = _
        rw [← se_ao]
        unfold seF
        rw [if_neg (by decide), show (1 : Int32) &&& (-2) = 0 by decide, Int32.zero_or]
      refine ih cx y c p p' mk nu co sl km M r1 (c3 c (by rw [e1]; exact List.mem_cons_self)) hG htr hs hm0 hk (fun mk' nu' co' sl' km' M' po g' r' => K mk' nu' co' sl' km' M' ?_ g' r')
      obtain ⟨q1, q2, q3, q4, q5⟩ := po
      have dv := q3.hd
      refine ⟨q1, fun u hu => by rw [hmc]; exact q2 u hu, ⟨⟨by rw [hmc]; exact dv.1, by rw [hwc]; exact dv.2.1, fun w => ?_, fun w => ?_, by rw [hwc]; exact dv.2.2.2.2⟩, Or.inl ⟨k5, c, e1, q3⟩⟩, q4, q5⟩
      · rw [k5] at w; exact absurd w (by decide)
      · rw [k5] at w; exact absurd w (by decide)
    · -- a row of more
      have s6 : S0.2 80 y = 6 := s6
      have l2 : 2 ≤ (G y).length := l2
      have r1 : RpLs (RpN W m zn fn (vwR S0 G) (700 * m + S0.1) g cx) (G y) (woV W x).2.2.2 p p' := r1
      have ll := RpLs.len _ _ _ _ r1
      obtain ⟨d, r, hg⟩ : ∃ d r, G y = d :: r := by
        cases hg : G y with
        | nil => rw [hg] at l2; exact absurd l2 (by decide)
        | cons d r => exact ⟨d, r, rfl⟩
      rw [k5] at c1 c2
      refine w_node hR hr ih hy (by rw [s6]; decide) (by rw [s6]; decide) hg r1 (trk (by rw [s6]; decide)) c3 (fun w => by rw [← ll] at w; omega) (by rw [k5]; decide) (fun R w => w) ?_ (fun w hc => ?_) hG hs hm0 hk K
      · rw [c1]
        have : ∀ d, heV 5 d = 0 := fun d => if_neg (by decide)
        rw [this]
        rfl
      · rw [s6, c2]
        have : ∀ d, leV 5 d = 1 := fun d => if_pos (by decide)
        rw [this]
        have hr6 : ∀ l, rcS 6 w l = l.foldl seF 1 := fun l => rfl
        rw [hr6]
        cases hcs : (woV W x).2.2.2 with
        | nil => rw [hcs] at ll; rw [hg] at ll; cases ll
        | cons c r' =>
          rw [hcs] at hc
          have hc1 := hc c List.mem_cons_self
          obtain ⟨f1, f2⟩ := se_fold (r'.map (woC W)) (seF 1 (woC W c)) (cb_se cb_1 hc1) (fun z hz => by
            obtain ⟨q, q1, q2⟩ := List.mem_map.mp hz
            rw [← q2]
            exact hc q (List.mem_cons_of_mem _ q1))
          have e2 : (List.map (woC W) (c :: r')).foldl seF 1 = (r'.map (woC W)).foldl seF (seF 1 (woC W c)) := rfl
          have e3 : aoG 5 1 (List.map (woC W) (c :: r')) = (r'.map (woC W)).foldl (fun h c => aoT 5 h c False) (aoT 5 1 (woC W c) True) := rfl
          rw [e2, e3, ← se_ao (p := True), ← f1]
          exact ⟨rfl, f2⟩
    · -- nothing
      have s0 : S0.2 80 y = 0 := s0
      have g0 : G y = [] := g0
      subst ep
      rw [k0, e0] at c1 c2
      have b : hm x = 0 := by rw [c1]; exact he_n (by decide) _ _
      have e : woC W x = 1 := by rw [c2]; exact ao_n (by decide) _ _
      refine L_ent hG hR hy l1 (fun _ M1 g1 r1 => L_78n g1 hR hy (by rw [s0]; decide) (w_leaf hR hr hy g0 (by rw [s0]; decide) hs g1 (fun _ _ => ⟨rfl, rfl⟩) (by rw [b]; exact my) e0 (fun w => ?_) (fun w => ?_) (by rw [s0, e]; rfl) (by rw [e]; exact cb_1) ⟨Nat.le_refl _, hk⟩ (fun mk3 nu3 co3 sl3 km3 M3 po g3 r3 => K mk3 nu3 co3 sl3 km3 M3 po g3 (r1.tr r3)))) (fun w => absurd w (by rw [s0]; decide))
      · rw [k0] at w; exact absurd w (by decide)
      · rw [k0] at w; exact absurd w (by decide)
    · -- a pause
      have s2 : S0.2 80 y = 2 := s2
      have g0 : G y = [] := g0
      subst ep
      rw [k1, e0, e1] at c1 c2
      have b : hm x = (1 : Int32) <<< (Int32.ofNat p &&& 31) := by rw [c1]; exact he_1 _ _
      have e : woC W x = 2 := by rw [c2]; exact ao_1 _ _
      refine L_ent hG hR hy l1 (fun w => absurd s2 w) (fun _ M1 g1 r1 => ?_)
      rw [succ32]
      refine L_78n g1 hR hy (by rw [s2]; decide) (w_leaf hR hr hy g0 (by rw [s2]; decide) hs g1 (fun z zy => ⟨va_up_ne _ _ zy, va_up_ne _ _ zy⟩) (by rw [va_up_self, b]) e0 (fun _ => by rw [va_up_self, e1]) (fun w => ?_) (by rw [s2, e]; rfl) (by rw [e]; show (2 : Int32).toBitVec.toNat < 1048576; decide) ⟨Nat.le_refl _, hk⟩ (fun mk3 nu3 co3 sl3 km3 M3 po g3 r3 => K mk3 nu3 co3 sl3 km3 M3 po g3 (r1.tr r3)))
      rw [k1] at w; exact absurd w (by decide)
    · -- an emit
      have s1 : S0.2 80 y = 1 := s1
      have g0 : G y = [] := g0
      subst ep
      rw [k2, e0] at c1 c2
      have b : hm x = 0 := by rw [c1]; exact he_n (by decide) _ _
      have e : woC W x = 1 := by rw [c2]; exact ao_n (by decide) _ _
      refine L_ent hG hR hy l1 (fun _ M1 g1 r1 => L_78n g1 hR hy (by rw [s1]; decide) (w_leaf hR hr hy g0 (by rw [s1]; decide) hs g1 (fun _ _ => ⟨rfl, rfl⟩) (by rw [b]; exact my) e0 (fun w => ?_) (fun w => ?_) (by rw [s1, e]; rfl) (by rw [e]; exact cb_1) ⟨Nat.le_refl _, hk⟩ (fun mk3 nu3 co3 sl3 km3 M3 po g3 r3 => K mk3 nu3 co3 sl3 km3 M3 po g3 (r1.tr r3)))) (fun w => absurd w (by rw [s1]; decide))
      · rw [k2] at w; exact absurd w (by decide)
      · rw [k2] at w; exact absurd w (by decide)
    · -- an exit
      have s3 : S0.2 80 y = 3 := s3
      have g0 : G y = [] := g0
      subst ep
      have ec : (woV W x).2.2.1 = Int32.ofNat (2 + v) := by rw [v1, Int32.ofNat_add]; rfl
      rw [k3, e0, ec] at c1 c2
      have b : hm x = 0 := by rw [c1]; exact he_n (by decide) _ _
      have e : woC W x = (1 : Int32) <<< (Int32.ofNat (2 + v) &&& 31) := by rw [c2]; exact ao_3 _ _
      have hne : cx ≠ [] := by
        rcases v2 with ⟨-, -, w⟩ | ⟨j, e, -, -, -, w⟩
        · exact w
        · intro z; rw [z] at w; cases w
      obtain ⟨kk, u, pr, tr⟩ : ∃ k u, prB m S0 y u ∧ TrC m S0 pn k u cx := by
        rcases htr with w | w
        · exact absurd w hne
        · exact w
      have he : (S0.2 81 y = -1 ∧ v = 0 ∧ cx ≠ []) ∨ ∃ j e, j < 40 ∧ e < 160 ∧ S0.2 81 y = Int32.ofNat (40 * m + j) ∧ A 60 (40 * m + j) = Int32.ofNat e ∧ cx[v]? = some (some e) := by
        rcases v2 with w | ⟨j, e, w1, w2, w3, w4⟩
        · exact Or.inl w
        · exact Or.inr ⟨j, e, w1, TrC_e kk u cx v e tr w4, w2, by rw [← hA]; exact w3, w4⟩
      refine L_ent hG hR hy l1 (fun _ M1 g1 r1 => L_78x hr g1 hR hy s3 pr tr he (by omega) (by omega) (fun M2 g2 r2 => w_leaf hR hr hy g0 (by rw [s3]; decide) hs g2 (fun z zy => ⟨va_up_ne _ _ zy, rfl⟩) (by rw [b]; exact my) e0 (fun _ => by rw [va_up_self, ec]) (fun _ => ⟨v, ec, Nat.le_max_right _ _⟩) (by rw [s3, va_up_self, e]; rfl) (by rw [e]; exact cb1 ⟨2 + v, by omega⟩) ⟨Nat.le_max_left _ _, by omega⟩ (fun mk3 nu3 co3 sl3 km3 M3 po g3 r3 => K mk3 nu3 co3 sl3 km3 M3 po g3 ((r1.tr r2).tr r3)))) (fun w => absurd w (by rw [s3]; decide))
    · -- a choice
      have hso : S0.2 80 y = 4 ∨ S0.2 80 y = 5 := by
        rcases cw with ⟨w, -⟩ | ⟨w, -⟩
        · exact Or.inl w
        · exact Or.inr w
      rw [k4, e1] at c1 c2
      have m1 := c3 a1 (by rw [e1]; exact List.mem_cons_self)
      have m2 := c3 a2 (by rw [e1]; simp)
      have c1 : hm x = (0 ||| hm a1) ||| hm a2 := by
        rw [c1]
        have : ∀ d, heV 4 d = 0 := fun d => if_neg (by decide)
        rw [this]
        rfl
      have c2 : woC W x = woC W a1 ||| woC W a2 := by
        rw [c2]
        have : ∀ d, leV 4 d = 0 := fun d => ((if_neg (by decide)).trans (if_neg (by decide))).trans (if_neg (by decide))
        rw [this]
        have q : ∀ (a c : Int32) (p : Prop) [Decidable p], aoT 4 a c p = a ||| c := fun a c p _ => (((if_neg (by decide)).trans (if_neg (by decide))).trans (if_neg (by decide))).trans (if_neg (by decide))
        show aoT 4 (aoT 4 0 (woC W a1) True) (woC W a2) False = _
        rw [q, q, Int32.zero_or]
      have ne : ∀ k : Int32, k ≠ 4 → k ≠ 5 → S0.2 80 y ≠ k := fun k n4 n5 w => by
        rcases hso with z | z
        · exact n4 (w.symm.trans z)
        · exact n5 (w.symm.trans z)
      have hrc : ∀ (w : Int32) (l : List Int32), rcS (S0.2 80 y) w l = l.headD 0 ||| (match l.tail with | [] => 1 | b :: _ => b) := fun w l => by
        unfold rcS
        rw [if_neg (ne 2 (by decide) (by decide)), if_neg (ne 3 (by decide) (by decide)), if_pos hso]
        rfl
      have hx1 : ¬ ((woV W x).1 = 5 ∧ (woV W x).2.2.2.length = 1) := fun w => by rw [k4] at w; exact absurd w.1 (by decide)
      rcases r2 with ⟨g1, n1, n2, ep⟩ | ⟨d2, g1, r2⟩
      · have g1 : G y = [d1] := g1
        subst ep
        obtain ⟨q1, q2, -⟩ := hC a2 m2.1 m2.2
        rw [n1, n2] at q1 q2
        have z1 : hm a2 = 0 := by rw [q1]; exact he_n (by decide) _ _
        have z2 : woC W a2 = 1 := by rw [q2]; exact ao_n (by decide) _ _
        refine w_node (cs := [a1]) hR hr ih hy (ne 2 (by decide) (by decide)) (ne 3 (by decide) (by decide)) g1 (by rw [g1]; exact ⟨p', r1, rfl⟩) (trk (ne 10 (by decide) (by decide))) (fun c hc => by rw [List.mem_singleton] at hc; rw [hc]; exact m1) hx1 (by rw [k4]; decide) (fun R w => by rw [g1] at w ⊢; rw [e1]; exact ⟨w.1, trivial⟩) (by rw [c1, z1, Int32.or_zero]; rfl) (fun w hc => ?_) hG hs hm0 hk K
        rw [hrc, c2, z2]
        exact ⟨rfl, cb_or (hc a1 List.mem_cons_self) cb_1⟩
      · have g1 : G y = [d1, d2] := g1
        refine w_node (cs := [a1, a2]) hR hr ih hy (ne 2 (by decide) (by decide)) (ne 3 (by decide) (by decide)) g1 (by rw [g1]; exact ⟨pm, r1, p', r2, rfl⟩) (trk (ne 10 (by decide) (by decide))) (fun c hc => by rw [← e1] at hc; exact c3 c hc) hx1 (by rw [k4]; decide) (fun R w => by rw [e1]; exact w) (by rw [c1]; rfl) (fun w hc => ?_) hG hs hm0 hk K
        rw [hrc, c2]
        exact ⟨rfl, cb_or (hc a1 List.mem_cons_self) (hc a2 (by simp))⟩
    · -- a loop
      have s7 : S0.2 80 y = 7 := s7
      have g1 : G y = [d] := g1
      rw [k6, e1] at c1 c2
      refine w_node (cs := [c]) hR hr ih hy (by rw [s7]; decide) (by rw [s7]; decide) g1 (by rw [g1]; exact ⟨p', r1, rfl⟩) (trk (by rw [s7]; decide)) (fun q hq => by rw [← e1] at hq; exact c3 q hq) (fun w => by rw [k6] at w; exact absurd w.1 (by decide)) (by rw [k6]; decide) (fun R w => by rw [e1]; exact w) ?_ (fun w hc => ?_) hG hs hm0 hk K
      · rw [c1]
        have : ∀ d, heV 6 d = 0 := fun d => if_neg (by decide)
        rw [this]
        rfl
      · rw [s7, c2]
        have q : ∀ z, aoG 6 z [woC W c] = woC W c &&& (-2) := fun z => rfl
        rw [List.map_cons, List.map_nil, q]
        exact ⟨rfl, cb_and (hc c List.mem_cons_self)⟩
    · -- a suspend
      have s8 : S0.2 80 y = 8 := s8
      have g1 : G y = [d] := g1
      rw [k7, e1] at c1 c2
      refine w_node (cs := [c]) hR hr ih hy (by rw [s8]; decide) (by rw [s8]; decide) g1 (by rw [g1]; exact ⟨p', r1, rfl⟩) (trk (by rw [s8]; decide)) (fun q hq => by rw [← e1] at hq; exact c3 q hq) (fun w => by rw [k7] at w; exact absurd w.1 (by decide)) (by rw [k7]; decide) (fun R w => by rw [e1]; exact w) ?_ (fun w hc => ?_) hG hs hm0 hk K
      · rw [c1]
        have : ∀ d, heV 7 d = 0 := fun d => if_neg (by decide)
        rw [this]
        rfl
      · rw [s8, c2]
        have l0 : ∀ d, leV 7 d = 0 := fun d => ((if_neg (by decide)).trans (if_neg (by decide))).trans (if_neg (by decide))
        rw [l0]
        have q : ∀ (a c : Int32) (p : Prop) [Decidable p], aoT 7 a c p = a ||| c := fun a c p _ => (((if_neg (by decide)).trans (if_neg (by decide))).trans (if_neg (by decide))).trans (if_neg (by decide))
        have q2 : aoG 7 0 (List.map (woC W) [c]) = woC W c := by
          show aoT 7 0 (woC W c) True = _
          rw [q, Int32.zero_or]
        rw [q2]
        exact ⟨rfl, hc c List.mem_cons_self⟩
    · -- branches
      have s9 : S0.2 80 y = 9 := s9
      have l9 : 1 ≤ (G y).length := l9
      have r1 : RpLs (RpN W m zn fn (vwR S0 G) (700 * m + S0.1) g cx) (G y) (woV W x).2.2.2 p p' := r1
      have ll := RpLs.len _ _ _ _ r1
      obtain ⟨d, r, hg⟩ : ∃ d r, G y = d :: r := by
        cases hg : G y with
        | nil => rw [hg] at l9; exact absurd l9 (by decide)
        | cons d r => exact ⟨d, r, rfl⟩
      rw [k8] at c1 c2
      refine w_node hR hr ih hy (by rw [s9]; decide) (by rw [s9]; decide) hg r1 (trk (by rw [s9]; decide)) c3 (fun w => by rw [k8] at w; exact absurd w.1 (by decide)) (by rw [k8]; decide) (fun R w => w) ?_ (fun w hc => ?_) hG hs hm0 hk K
      · rw [c1]
        have : ∀ d, heV 8 d = 0 := fun d => if_neg (by decide)
        rw [this]
        rfl
      · rw [s9, c2]
        have hr9 : ∀ l, rcS 9 w l = l.tail.foldl pjF (l.headD 0) := fun l => rfl
        rw [hr9]
        cases hcs : (woV W x).2.2.2 with
        | nil => rw [hcs] at ll; rw [hg] at ll; cases ll
        | cons c r' =>
          rw [hcs] at hc
          have hc1 := hc c List.mem_cons_self
          obtain ⟨f1, f2⟩ := pj_fold (r'.map (woC W)) (woC W c) hc1 (fun z hz => by
            obtain ⟨q, q1, q2⟩ := List.mem_map.mp hz
            rw [← q2]
            exact hc q (List.mem_cons_of_mem _ q1))
          have a0 : ∀ z, aoT 8 z (woC W c) True = woC W c := fun z => rfl
          have e3 : ∀ z, aoG 8 z (List.map (woC W) (c :: r')) = (r'.map (woC W)).foldl (fun h c => aoT 8 h c False) (aoT 8 z (woC W c) True) := fun z => rfl
          rw [e3, a0, ← f1]
          exact ⟨rfl, f2⟩
    · -- a trap
      have s10 : S0.2 80 y = 10 := s10
      have g1 : G y = [d] := g1
      have et : (t = none ∧ S0.2 81 y = -1) ∨ ∃ j, j < 40 ∧ t = some (40 * m + j) ∧ S0.2 81 y = Int32.ofNat (40 * m + j) := et
      rw [k9, e1] at c1 c2
      have htc : ∃ k, TrC m S0 pn k y (t :: cx) := by
        have ht : (t = none ∧ S0.2 81 y = -1) ∨ ∃ e, e < 160 ∧ t = some e ∧ S0.2 81 y = Int32.ofNat e ∧ pn e = Int32.ofNat y := by
          rcases et with w | ⟨j, j1, j2, j3⟩
          · exact Or.inl w
          · refine Or.inr ⟨40 * m + j, by omega, j2, j3, ?_⟩
            rcases hT y hy.1 hy.2 s10 with w | ⟨P, p1, p2, p3⟩
            · exact absurd (j3.symm.trans w) (nm32 (by omega))
            · have : P = 40 * m + j := inj32 (by omega) (by omega) (p2.symm.trans j3)
              rw [← this]; exact p3
        rcases htr with w | ⟨k, u, w1, w2⟩
        · exact ⟨1, hy, by rw [if_pos s10]; exact ⟨t, cx, rfl, ht, Or.inl w⟩⟩
        · exact ⟨k + 1, hy, by rw [if_pos s10]; exact ⟨t, cx, rfl, ht, Or.inr ⟨u, w1, w2⟩⟩⟩
      refine w_node (cs := [c]) hR hr ih hy (by rw [s10]; decide) (by rw [s10]; decide) g1 (by rw [g1]; exact ⟨p', r1, rfl⟩) (Or.inr htc) (fun q hq => by rw [← e1] at hq; exact c3 q hq) (fun w => by rw [k9] at w; exact absurd w.1 (by decide)) (by rw [k9]; decide) (fun R w => by rw [e1]; exact w) ?_ (fun w hc => ?_) hG hs hm0 hk K
      · rw [c1]
        have : ∀ d, heV 9 d = 0 := fun d => if_neg (by decide)
        rw [this]
        rfl
      · rw [s10, c2]
        have q : ∀ z, aoG 9 z (List.map (woC W) [c]) = aoT 9 z (woC W c) True := fun z => rfl
        have q2 : ∀ l, rcS 10 w l = trF (l.headD 0) := fun l => rfl
        rw [q, q2, ← tr_ao (p := True) (hc c List.mem_cons_self)]
        exact ⟨rfl, cb_tr (hc c List.mem_cons_self)⟩
end
end
section
/-! the reference's goThrough and build, whole -/
/-- what going through leaves: masks, numbers, codes as the class's; the steps -/
def GoR (W : Wo) (hm : Nat → Int32) (m : Nat) (S : RBs) (G : Nat → List Nat) (mk nu co : Nat → Int32) (sl : List Nat) (km g y x : Nat) : Prop := VlN W (vwR S G) (Vok W hm mk nu co km) g y x ∧ (sl.Nodup ∧ (∀ s ∈ sl, 1400 * m ≤ s ∧ s < 1400 * m + 2 * S.1) ∧ ∀ z, 700 * m ≤ z → z < 700 * m + S.1 → 2 * z ∈ sl ∧ 2 * z + 1 ∈ sl) ∧ 3 ≤ km ∧ km ≤ 20
section
variable {m : Nat} {A : Nat → Nat → Int32} {pn : Nat → Int32} {S : RBs} {G : Nat → List Nat} {W : Wo} {hm : Nat → Int32} {N zn fn g y x p' : Nat} {M M' : Mem} {h : Nat} {Q : Option Value → Mem → Prop}
theorem inS_in {z : Nat} (hy : 700 * m ≤ y ∧ y < 700 * m + S.1) (h : inS (prB m S) z y) : 700 * m ≤ z ∧ z < 700 * m + S.1 := by
  obtain ⟨k, h⟩ := h
  cases k with
  | zero =>
    have h : z = y := h
    rw [h]; exact hy
  | succ k =>
    obtain ⟨x, h1, -⟩ := h
    exact h1.1
theorem wS_id : wS S (S.2 87) (S.2 88) (S.2 89) = S := by
  have : (wS S (S.2 87) (S.2 88) (S.2 89)).2 = S.2 := by
    funext c
    show (if c = 87 then S.2 87 else if c = 88 then S.2 88 else if c = 89 then S.2 89 else S.2 c) = S.2 c
    by_cases e1 : c = 87
    · rw [if_pos e1, e1]
    · rw [if_neg e1]
      by_cases e2 : c = 88
      · rw [if_pos e2, e2]
      · rw [if_neg e2]
        by_cases e3 : c = 89
        · rw [if_pos e3, e3]
        · rw [if_neg e3]
  exact Prod.ext rfl this
theorem G_go (hB : BuM m A pn S M) (hR : RgB m S G) (hz : mz0 m S) (h1 : rtC m S ≤ 1) (hy : frN m S y) (e91 : mAI M 91 m = Int32.ofNat y) (hA : woA W = A) (hC : ClE W hm N) (hT : ∀ z, 700 * m ≤ z → z < 700 * m + S.1 → S.2 80 z = 10 → S.2 81 z = -1 ∨ ∃ P, P < 160 ∧ S.2 81 z = Int32.ofNat P ∧ pn P = Int32.ofNat z) (hp : RpN W m zn fn (vwR S G) (700 * m + S.1) g [] y x 0 p') (hx : 1 ≤ x ∧ x < N) (K : ∀ mk nu co sl km M', GoR W hm m S G mk nu co sl km g y x → GW m A pn S mk nu co sl km M' → RGb m M M' → Q none M') : E (h + 4) mdX11_goThrough [.ref 29] M Q := by
  obtain ⟨F, h4, b2, b3, b4, b5, b6⟩ := id hB
  have lm : (Int32.ofNat m).toNatClampNeg = m := lt32 (by omega)
  have vm : ∀ {k : Nat}, k = 4 → vp_in (Int32.ofNat m) k := fun e => by rw [e]; exact vp_of h4 (by decide)
  refine KX11_goThrough ?_
  unfold DX11_goThrough_0
  rw [b2]
  refine ⟨ok29 F, 94, rf29_76 F, ok94 F, vm (ln94 F), fun M4 e4 => ?_⟩
  rw [lm] at e4
  have r4 : RGb m M M4 := by rw [e4]; exact RG.ai (by decide) (by rw [show szA 94 = 1 by decide]; omega)
  have F4 := r4.fix F (by decide)
  have i4 : mI M4 29 19 = Int32.ofNat m := by rw [r4.fI (by decide)]; exact b2
  rw [i4]
  refine ⟨92, rf29_74 F4, ok92 F4, vm (ln92 F4), fun M7 e7 => ?_⟩
  rw [lm] at e7
  have r7 : RGb m M4 M7 := by rw [e7]; exact RG.ai (by decide) (by rw [show szA 92 = 1 by decide]; omega)
  have F7 := r7.fix F4 (by decide)
  have i7 : mI M7 29 19 = Int32.ofNat m := by rw [r7.fI (by decide)]; exact i4
  have eA : mAI M7 = up2 (up2 (mAI M) 94 m 0) 92 m 3 := by rw [e7, e4]; rfl
  have m91 : mAI M7 91 m = Int32.ofNat y := by rw [eA, up2_row (by decide), up2_row (by decide)]; exact e91
  rw [i7, lm]
  refine ⟨91, rf29_73 F7, ok91 F7, vm (ln91 F7), ?_⟩
  rw [m91]
  have hB7 : BuM m A pn S M7 := hB.fr9 (r4.tr r7) (by rw [eA, up2_row (by decide), up2_row (by decide)]) (fun c c1 c2 => by rw [eA, up2_row (by omega), up2_row (by omega)])
  obtain ⟨ρ, hr⟩ := hR.rho
  have hG : GW m A pn S (S.2 87) (S.2 88) (S.2 89) [] 3 M7 := by
    refine ⟨by rw [wS_id]; exact hB7, ⟨?_, fun i hi => absurd hi (Nat.not_lt_zero _)⟩, ?_⟩
    · rw [eA, up2_row (by decide), up2_eq]; rfl
    · rw [eA, up2_eq]; rfl
  have s84 : S.2 84 y = -1 := (hR.2.2.1 y hy.1.1 hy.1.2 hy.2).1
  have all := rch_all hR h1 hy
  refine walk_all (h := h) (Q := Q) hR hr hA hC hT g [] y x 0 p' _ _ _ [] 3 M7 hp hx hG (Or.inl rfl) ⟨List.nodup_nil, fun s hs => absurd hs (List.not_mem_nil), fun s hs => absurd hs (List.not_mem_nil)⟩ (fun z zi => hz z ?_ ?_) (by decide) (fun mk nu co sl km M' po g' r' => ?_)
  · exact (inS_in hy.1 zi).1
  · exact (inS_in hy.1 zi).2
  · unfold aftT
    rw [if_pos s84, if_pos s84, hy.2]
    refine VX11_goThrough_34 ?_
    unfold DX11_goThrough_34
    obtain ⟨q1, q2, q3, ⟨q4, q5, q6, q7⟩, q8⟩ := po
    exact ⟨fun _ => K mk nu co sl km M' ⟨q3, ⟨q5, q6, fun z z1 z2 => q7 z (all z z1 z2)⟩, q8⟩ g' ((r4.tr r7).tr r'), fun z => absurd rfl z⟩
abbrev csC : List Nat := [79, 80, 81, 82, 83, 84, 85, 86, 87, 88, 89, 90, 91, 92, 93, 94]
abbrev RGd (m : Nat) (M M' : Mem) : Prop := RG m [] csC [] M M'
theorem RGb.d (g : RGb m M M') : RGd m M M' := RG.more g (fun _ z => z) (fun f hf => by
  have : ∀ f ∈ csB, f ∈ csC := by decide
  exact this f hf) (fun _ z => z)
/-- what build leaves behind -/
def BuR (W : Wo) (hm : Nat → Int32) (m zn fn : Nat) (A : Nat → Nat → Int32) (pn : Nat → Int32) (S : RBs) (G : Nat → List Nat) (mk nu co : Nat → Int32) (sl : List Nat) (km g y x p' np : Nat) (M' : Mem) : Prop := GW m A pn S mk nu co sl km M' ∧ RgB m S G ∧ (frN m S y ∧ mAI M' 91 m = Int32.ofNat y) ∧ RpN W m zn fn (vwR S G) (700 * m + S.1) g [] y x 0 p' ∧ GoR W hm m S G mk nu co sl km g y x ∧ PdZ W m pn S G [(y, x)] 0 np ∧ (∀ z, 700 * m ≤ z → z < 700 * m + S.1 → inS (prB m S) z y)
theorem BuM.w91 {v : Int32} (hB : BuM m A pn S M) : BuM m A pn S (wAI M 91 m v) ∧ RGd m M (wAI M 91 m v) := by
  obtain ⟨F, b1, b2, b3, b4, b5, b6⟩ := hB
  have g : RGd m M (wAI M 91 m v) := RG.ai (by decide) (by rw [show szA 91 = 1 by decide]; omega)
  have e : mAI (wAI M 91 m v) = up2 (mAI M) 91 m v := rfl
  exact ⟨⟨g.fix F (by decide), b1, by rw [g.fI (by decide)]; exact b2, by rw [e, up2_row (by decide)]; exact b3, fun c c1 c2 => by rw [e, up2_row (by omega)]; exact b4 c c1 c2, fun c c1 c2 c3 => by rw [e, up2_row (by omega)]; exact b5 c c1 c2 c3, by rw [e, up2_row (by decide)]; exact b6⟩, g⟩
theorem B_build {lo hw g0 np r' : Nat} (hA : woA W = A) (hC : ClE W hm N) (ht : TT W m zn fn lo hw g0 0 [] 0 0 0 0 0 false 0 np 1 r' 0 p' [(0, x)]) (hx : 1 ≤ x ∧ x < N) (hnp : np ≤ 40) (hr' : r' ≤ 100) (hc : csT 0 np 1 r' 0 p' < 700) (e54 : mAI M 54 m = Int32.ofNat np) (hB : BuM m A pn S M) (hS : S.1 = 0) (K : ∀ pn' S' G' mk nu co sl km g y M', BuR W hm m zn fn A pn' S' G' mk nu co sl km g y x p' np M' → RGd m M M' → Q none M') : E (h + 7) mdX11_build [.ref 29, .int 0] M Q := by
  obtain ⟨F, h4, b2, b3, b4, b5, b6⟩ := id hB
  have lm : (Int32.ofNat m).toNatClampNeg = m := lt32 (by omega)
  have hR : RgB m S (fun _ => []) := by
    have no : ∀ z, 700 * m ≤ z → z < 700 * m + S.1 → False := fun z z1 z2 => by omega
    exact ⟨⟨h4, by omega⟩, fun z z1 z2 => (no z z1 z2).elim, fun z z1 z2 => (no z z1 z2).elim, fun z z1 z2 => (no z z1 z2).elim, fun _ => 0, fun z z1 z2 => (no z z1 z2).elim⟩
  have rt0 : rtC m S = 0 := by unfold rtC; rw [hS]; rfl
  refine KX11_build ?_
  unfold DX11_build_0
  rw [b2, lm]
  refine ⟨ok29 F, 54, rf29_34 F, ok54 F, by rw [ln54 F]; exact vp_of h4 (by decide), ?_⟩
  have ex : (40 : Int32) * Int32.ofNat m + Int32.ofNat np - 1 = Int32.ofNat (40 * m + np) + (-1) := by
    rw [Int32.ofNat_add, Int32.ofNat_mul, Int32.sub_eq_add_neg]; rfl
  rw [e54, ex]
  refine (bl_all (h := h) (x1 := 0) (Q := Q) hA h4 g0).2.1 [] 0 np 1 r' 0 p' x M S _ pn ht hnp hr' hB hR (by omega) (fun M1 S1 G1 pn1 ds o1 w1 z1 => ?_)
  obtain ⟨c1, c2, c3, c4, ⟨c5, c6, c7⟩, c8⟩ := id o1
  have h7 := c3.1.2
  unfold bLp
  refine VX11_build_20 ?_
  unfold DX11_build_20
  rw [c1.2.2.1]
  have lt : Int32.ofNat (40 * m + 0) + (-1) < 40 * Int32.ofNat m := by
    have : m = 0 ∨ m = 1 ∨ m = 2 ∨ m = 3 := by omega
    rcases this with e | e | e | e <;> subst e <;> decide
  refine ⟨ok29 c1.1, fun _ => ⟨91, rf29_73 c1.1, ?_⟩, fun z => absurd lt z⟩
  have z0 : (0 : Int32) = Int32.ofNat 0 := rfl
  rw [z0]
  have w1 : RowR W m zn fn lo hw A pn1 S1 G1 S.1 0 (cxK []) x 0 p' ds := w1 pn1 (fun _ _ _ => rfl)
  refine B_row (h := h + 4) c1 c3 (by omega) (by decide) w1 c4.1 (fun M2 S2 G2 y g d1 d2 d3 d4 _ => ⟨_, rfl, ok91 d1.1.1, by rw [ln91 d1.1.1]; exact vp_of h4 (by decide), fun M6 e6 => ?_⟩)
  rw [lm] at e6
  obtain ⟨f1, f2, f3, f4, f5, f6, f7, f8⟩ := id d1
  obtain ⟨g1, g2⟩ := f1.w91 (v := Int32.ofNat y)
  rw [← e6] at g1 g2
  have mz : mz0 m S2 := f4.2.2 (c4.2.2 (fun z z1 z2 => by omega))
  have r1 : rtC m S2 ≤ 1 := by omega
  have e91 : mAI M6 91 m = Int32.ofNat y := by rw [e6]; exact up2_eq
  have hT : ∀ z, 700 * m ≤ z → z < 700 * m + S2.1 → S2.2 80 z = 10 → S2.2 81 z = -1 ∨ ∃ P, P < 160 ∧ S2.2 81 z = Int32.ofNat P ∧ pn1 P = Int32.ofNat z := fun z q1 q2 q3 => by
    by_cases e : z < 700 * m + S1.1
    · have v := (f4.2.1 z q1 e).1
      have v80 : S2.2 80 z = S1.2 80 z := congrArg (fun w => w.1) v
      have v81 : S2.2 81 z = S1.2 81 z := congrArg (fun w => w.2.1) v
      rw [v80] at q3
      rw [v81]
      rcases c7 z (by omega) e q3 with w | ⟨P, w1, w2, w3⟩
      · exact Or.inl w
      · exact Or.inr ⟨P, by omega, w2, w3⟩
    · exact Or.inl (f8 z (by omega) q2 q3)
  refine G_go (h := h + 2) g1 f3 mz r1 f5 e91 hA hC hT d3 hx (fun mk nu co sl km M7 go gw r7 _ => ⟨rfl, K pn1 S2 G2 mk nu co sl km g y M7 ⟨gw, f3, ⟨f5, by rw [r7.fA (by decide)]; exact e91⟩, d3, go, ?_, rch_all f3 r1 f5⟩ (((c2.d).tr f2.d).tr (g2.tr r7.d))⟩)
  intro i i1 i2
  obtain ⟨e, he, yi, xi, a1, a3, a4⟩ := z1 i i1 i2
  exact ⟨(y, x), List.mem_singleton.mpr rfl, yi, xi, a1, ⟨a3.1, by have := f4.1; omega⟩, (d4 e he).tr (f4.dsn a4)⟩
end
end
section
/-! the reference looks behind: what sums use -/
theorem PxX.so {X : List Nd} : ∀ (g f c : Nat), PxX X g f c → (f ≤ c ∧ c < X.length) ∧ ∀ k, f ≤ k → k ≤ c → (X.getD k nd0).1 ≤ 8 := by
  intro g
  induction g with
  | zero => intro f c h; exact h.elim
  | succ g ih =>
    intro f c h
    obtain ⟨h1, h⟩ := h
    rcases h with ⟨e, h⟩ | ⟨a1, a2, a3, a4⟩ | ⟨a1, e, a2, a3, a4, a5, a6⟩
    · refine ⟨⟨by omega, h1⟩, fun k k1 k2 => ?_⟩
      have : k = c := by omega
      rw [this]
      rcases h with ⟨w, -⟩ | ⟨w, -⟩ | ⟨w, -⟩ <;> rw [w] <;> decide
    · obtain ⟨b1, b2⟩ := ih _ _ a4
      refine ⟨⟨by omega, h1⟩, fun k k1 k2 => ?_⟩
      by_cases e : k = c
      · rw [e, a1]; decide
      · exact b2 k k1 (by omega)
    · obtain ⟨b1, b2⟩ := ih _ _ a5
      obtain ⟨c1, c2⟩ := ih _ _ a6
      refine ⟨⟨by omega, h1⟩, fun k k1 k2 => ?_⟩
      by_cases q : k = c
      · rw [q]; exact a1.2
      · by_cases q2 : k ≤ e
        · exact b2 k k1 q2
        · exact c2 k (by omega) (by omega)
section
variable {m : Nat} {A : Nat → Nat → Int32} {X : List Nd} {M : Mem} {h : Nat} {Q : Option Value → Mem → Prop} {k f c : Nat}
theorem U_loop (F : Fix M) (h4 : m < 4) (hX : XR M m X) (hl : X.length ≤ 810) (hc : c < X.length) (hs : ∀ k, f ≤ k → k ≤ c → (X.getD k nd0).1 ≤ 8) : ∀ (d k : Nat) (a : Int32), k + d = c + 1 → f ≤ k → Q (some (.int (a ||| usX ((X.drop k).take d)))) M → T (h + 1) mdX11_usesIn 5 [(0, .ref 29), (2, .int (Int32.ofNat (810 * m + c))), (3, .int a), (4, .int (Int32.ofNat (810 * m + k)))] [] M Q := by
  intro d
  induction d with
  | zero =>
    intro k a hk hfk H
    refine VX11_usesIn_5 ?_
    unfold DX11_usesIn_5 DX11_usesIn_50
    have H : Q (some (.int a)) M := by
      have e : a ||| usX ((X.drop k).take 0) = a := by rw [List.take_zero]; exact Int32.or_zero
      rw [e] at H
      exact H
    have lt : Int32.ofNat (810 * m + c) < Int32.ofNat (810 * m + k) := (ltn32 (by omega) (by omega)).mpr (by omega)
    exact ⟨fun _ => H, fun _ => ⟨fun _ => H, fun z => absurd lt z⟩⟩
  | succ d ih =>
    intro k a hk hfk H
    refine VX11_usesIn_5 ?_
    unfold DX11_usesIn_5 DX11_usesIn_42
    have nlt : ¬ Int32.ofNat (810 * m + c) < Int32.ofNat (810 * m + k) := fun z => by
      have := (ltn32 (by omega) (by omega)).mp z
      omega
    have lk : (Int32.ofNat (810 * m + k)).toNatClampNeg = 810 * m + k := lt32 (by omega)
    obtain ⟨-, x2⟩ := hX
    obtain ⟨e1, e2, -⟩ := x2 k (by omega)
    have vk : ∀ {n : Nat}, n = 3240 → vp_in (Int32.ofNat (810 * m + k)) n := fun e => by rw [e]; exact vp_of (by omega) (by decide)
    have hd : (X.drop k).take (d + 1) = X.getD k nd0 :: (X.drop (k + 1)).take d := by
      have : X.drop k = X[k] :: X.drop (k + 1) := List.drop_eq_getElem_cons (by omega)
      rw [this, List.take_succ_cons]
      have e : X.getD k nd0 = X[k] := by rw [List.getD_eq_getElem?_getD, List.getElem?_eq_getElem (by omega)]; rfl
      rw [e]
    rw [hd] at H
    have st : Int32.ofNat (810 * m + k) + 1 = Int32.ofNat (810 * m + (k + 1)) := by rw [succ32]; rfl
    rw [lk]
    refine ⟨fun z => absurd z (nm32 (by omega)), fun _ => ⟨fun z => absurd z nlt, fun _ => ⟨ok29 F, 49, rf29_25 F, ok49 F, vk (ln49 F), ?_⟩⟩⟩
    rw [e1, st]
    by_cases q : (X.getD k nd0).1 = 1
    · refine ⟨fun z => absurd (by rw [q]; rfl) z, fun _ => ⟨50, rf29_26 F, ok50 F, vk (ln50 F), ?_⟩⟩
      rw [e2]
      have ea : xa m (X.getD k nd0) = (X.getD k nd0).2.1 := if_pos (by rw [q]; decide)
      rw [ea]
      have eu : usX (X.getD k nd0 :: (X.drop (k + 1)).take d) = ((1 : Int32) <<< ((X.getD k nd0).2.1.toInt32 &&& 31)) ||| usX ((X.drop (k + 1)).take d) := by
        show (if (X.getD k nd0).1 = 1 then _ else (0 : Int32)) ||| _ = _
        rw [if_pos q]
      rw [eu, ← Int32.or_assoc] at H
      exact ih (k + 1) _ (by omega) (by omega) H
    · have eu : usX (X.getD k nd0 :: (X.drop (k + 1)).take d) = usX ((X.drop (k + 1)).take d) := by
        show (if (X.getD k nd0).1 = 1 then _ else (0 : Int32)) ||| _ = _
        rw [if_neg q, Int32.zero_or]
      rw [eu] at H
      refine ⟨fun _ => ih (k + 1) _ (by omega) (by omega) (by rw [Int32.or_zero]; exact H), fun z => ?_⟩
      have w := hs k hfk (by omega)
      exact absurd (inj32 (by omega) (by decide) (z.trans rfl)) q
theorem U_in (F : Fix M) (h4 : m < 4) (hX : XR M m X) (hl : X.length ≤ 810) (hp : PxE X f c) (H : Q (some (.int (usX ((X.drop f).take (c + 1 - f))))) M) : E (h + 1) mdX11_usesIn [.ref 29, .int (Int32.ofNat (810 * m + f)), .int (Int32.ofNat (810 * m + c))] M Q := by
  obtain ⟨g, hp⟩ := hp
  obtain ⟨⟨h1, h2⟩, h3⟩ := PxX.so _ _ _ hp
  refine KX11_usesIn ?_
  unfold DX11_usesIn_0
  exact U_loop F h4 hX hl h2 h3 (c + 1 - f) f 0 (by omega) (Nat.le_refl _) (by rw [Int32.zero_or]; exact H)
theorem U_no {x : Int32} (H : Q (some (.int 0)) M) : E (h + 1) mdX11_usesIn [.ref 29, .int x, .int (-1)] M Q := by
  refine KX11_usesIn ?_
  unfold DX11_usesIn_0
  refine VX11_usesIn_5 ?_
  unfold DX11_usesIn_5 DX11_usesIn_50
  exact ⟨fun _ => H, fun z => absurd rfl z⟩
theorem U_si {c1 c2 : Nat} (F : Fix M) (h4 : m < 4) (hX : XR M m X) (hl : X.length ≤ 810) (hs : SuI A X m c1 c2 k) (H : Q (some (.int (usI A X m c1 c2 k))) M) : E (h + 1) mdX11_usesIn [.ref 29, .int (A c1 (40 * m + k)), .int (A c2 (40 * m + k))] M Q := by
  unfold usI at H
  rcases hs with e | ⟨f, c, a1, a2, a3, a4, a5⟩
  · rw [if_pos e] at H
    rw [e]
    exact U_no H
  · rw [a4, if_neg (nm32 (by omega)), a3, lt32 (by omega), lt32 (by omega)] at H
    rw [a3, a4]
    have e3 : 810 * m + f - 810 * m = f := by omega
    have e4 : 810 * m + c + 1 - (810 * m + f) = c + 1 - f := by omega
    rw [e3, e4] at H
    exact U_in F h4 hX hl a5 H
theorem U_of (F : Fix M) (h4 : m < 4) (hX : XR M m X) (hl : X.length ≤ 810) (hA : ∀ c, 58 ≤ c → c ≤ 75 → c ≠ 72 → mAI M c = A c) (hk : k < 40) (s1 : SuI A X m 64 65 k) (s2 : SuI A X m 66 67 k) (H : Q (some (.int (uvK A X m k))) M) : E (h + 2) mdX11_usesOf [.ref 29, .int (Int32.ofNat (40 * m + k))] M Q := by
  have l40 := lt40 h4 hk
  refine KX11_usesOf ?_
  unfold DX11_usesOf_0
  rw [l40]
  refine ⟨ok29 F, 64, rf29_44 F, ok64 F, ix40 h4 hk (ln64 F), 65, rf29_45 F, ok65 F, ix40 h4 hk (ln65 F), ?_⟩
  rw [hA 64 (by decide) (by decide) (by decide), hA 65 (by decide) (by decide) (by decide)]
  refine U_si F h4 hX hl s1 (fun _ => ⟨_, rfl, 66, rf29_46 F, ok66 F, ix40 h4 hk (ln66 F), 67, rf29_47 F, ok67 F, ix40 h4 hk (ln67 F), ?_⟩)
  rw [hA 66 (by decide) (by decide) (by decide), hA 67 (by decide) (by decide) (by decide)]
  exact U_si F h4 hX hl s2 (fun _ => ⟨_, rfl, H⟩)
end
end
section
/-! the reference looks behind: branches that disturb each other -/
section
variable {W : Wo} {m zn fn lo hi : Nat}
theorem TT.pe {g : Nat} {K : List KE} {a2 a3 a4 : Nat} {c1 c2 : Int32} {fl : Bool} {j j' r r' p p' : Nat} {L : List (Nat × Nat)} (h : TT W m zn fn lo hi g 2 K a2 a3 a4 c1 c2 fl j j' r r' p p' L) : woA W 71 (40 * m + j) = Int32.ofNat (40 * m + j') := by
  cases g with
  | zero => unfold TT at h; exact h.elim
  | succ g =>
    unfold TT at h
    rw [if_neg (by decide), if_neg (by decide), if_pos rfl] at h
    obtain ⟨k, x, ys, pb, ff, -, ⟨-, -, -, e, -⟩, -⟩ := h
    exact e
theorem TT.e1 : ∀ (g : Nat) (K : List KE) (a2 a3 a4 : Nat) (c1 c2 : Int32) (fl : Bool) (j j' r r' p p' : Nat) (L : List (Nat × Nat)), TT W m zn fn lo hi g 1 K a2 a3 a4 c1 c2 fl j j' r r' p p' L → (L = [] ∧ j' = j) ∨ ∃ q, (∀ a, (L.map fun e => 40 * m + e.1).getLastD a = 40 * m + q) ∧ (j ≤ q ∧ q < j') ∧ woA W 71 (40 * m + q) = Int32.ofNat (40 * m + j') := by
  intro g
  induction g with
  | zero => intro K a2 a3 a4 c1 c2 fl j j' r r' p p' L h; unfold TT at h; exact h.elim
  | succ g ih =>
    intro K a2 a3 a4 c1 c2 fl j j' r r' p p' L h
    unfold TT at h
    rw [if_neg (by decide), if_pos rfl] at h
    rcases h with ⟨e1, e2, -⟩ | ⟨x, jm, rm, pm, T, e1, t2, t1⟩
    · exact Or.inl ⟨e1, e2⟩
    · have l2 := TT.le _ _ _ _ _ _ _ _ _ _ _ _ _ _ _ _ (by decide) t2
      have lt := l2.2.2.2 (by decide)
      have e := t2.pe
      right
      rw [e1]
      rcases ih _ _ _ _ _ _ _ _ _ _ _ _ _ _ t1 with ⟨z1, z2⟩ | ⟨q, q1, q2, q3⟩
      · rw [z1, z2]
        exact ⟨j, fun _ => rfl, ⟨Nat.le_refl _, lt⟩, e⟩
      · refine ⟨q, fun a => ?_, ⟨by omega, q2.2⟩, q3⟩
        rw [List.map_cons, List.getLastD_cons]
        exact q1 _
/-- the first and the last part of a row, and where the last one ends -/
theorem TT.rowe {g : Nat} {K : List KE} {a2 a3 a4 : Nat} {c1 c2 : Int32} {fl : Bool} {j j' r r' p p' : Nat} {L : List (Nat × Nat)} (h : TT W m zn fn lo hi g 0 K a2 a3 a4 c1 c2 fl j j' r r' p p' L) : ∃ q, woA W 73 (sqK K) = Int32.ofNat (40 * m + j) ∧ woA W 74 (sqK K) = Int32.ofNat (40 * m + q) ∧ (j ≤ q ∧ q < j') ∧ woA W 71 (40 * m + q) = Int32.ofNat (40 * m + j') := by
  cases g with
  | zero => unfold TT at h; exact h.elim
  | succ g =>
    unfold TT at h
    rw [if_pos rfl] at h
    obtain ⟨x, jm, rm, pm, T, y, -, t2, t1, -, ⟨w1, w2, -⟩⟩ := h
    have l2 := TT.le _ _ _ _ _ _ _ _ _ _ _ _ _ _ _ _ (by decide) t2
    have lt := l2.2.2.2 (by decide)
    have e := t2.pe
    rcases TT.e1 _ _ _ _ _ _ _ _ _ _ _ _ _ _ _ t1 with ⟨z1, z2⟩ | ⟨q, q1, q2, q3⟩
    · rw [z1] at w2
      rw [z2]
      exact ⟨j, w1, w2, ⟨Nat.le_refl _, lt⟩, e⟩
    · rw [q1] at w2
      exact ⟨q, w1, w2, ⟨by omega, q2.2⟩, q3⟩
/-- what is known of part i -/
def PrI (W : Wo) (m zn fn lo hi np i : Nat) : Prop := ∃ k K p pb x ys ff i2, PcS W m k i i2 x ∧ PkS W m zn fn lo hi k K i p pb x ys ∧ ltK W k i ys ff ∧ i2 ≤ np ∧ (k = 17 → ∃ g r r' T, (r < 100 ∧ r' ≤ 100) ∧ woA W 69 (40 * m + i) = Int32.ofNat r ∧ ys = T.map Prod.snd ∧ TT W m zn fn lo hi g 3 K i r 1 0 0 ff (i + 1) i2 (r + 1) r' p pb T)
theorem TT.prt {np : Nat} : ∀ (g md : Nat) (K : List KE) (a2 a3 a4 : Nat) (c1 c2 : Int32) (fl : Bool) (j j' r r' p p' : Nat) (L : List (Nat × Nat)), md ≤ 3 → TT W m zn fn lo hi g md K a2 a3 a4 c1 c2 fl j j' r r' p p' L → j' ≤ np → r' ≤ 100 → ∀ i, j ≤ i → i < j' → PrI W m zn fn lo hi np i := by
  intro g
  induction g with
  | zero => intro md K a2 a3 a4 c1 c2 fl j j' r r' p p' L _ h; unfold TT at h; exact h.elim
  | succ g ih =>
    intro md K a2 a3 a4 c1 c2 fl j j' r r' p p' L hm h hj hr i i1 i2
    unfold TT at h
    have le : ∀ {md : Nat} {K : List KE} {a2 a3 a4 : Nat} {c1 c2 : Int32} {fl : Bool} {j j' r r' p p' : Nat} {L : List (Nat × Nat)}, md ≤ 3 → TT W m zn fn lo hi g md K a2 a3 a4 c1 c2 fl j j' r r' p p' L → j ≤ j' ∧ r ≤ r' ∧ p ≤ p' ∧ (md ≠ 1 → j < j') := fun hm t => TT.le _ _ _ _ _ _ _ _ _ _ _ _ _ _ _ _ hm t
    by_cases m0 : md = 0
    · rw [if_pos m0] at h
      obtain ⟨x, jm, rm, pm, T, y, -, t2, t1, -, -⟩ := h
      have l2 := le (by decide) t2
      have l1 := le (by decide) t1
      by_cases e : i < jm
      · exact ih _ _ _ _ _ _ _ _ _ _ _ _ _ _ _ (by decide) t2 (by omega) (by omega) i i1 e
      · exact ih _ _ _ _ _ _ _ _ _ _ _ _ _ _ _ (by decide) t1 hj hr i (by omega) i2
    rw [if_neg m0] at h
    by_cases m1 : md = 1
    · rw [if_pos m1] at h
      rcases h with ⟨-, e2, -⟩ | ⟨x, jm, rm, pm, T, -, t2, t1⟩
      · omega
      have l2 := le (by decide) t2
      have l1 := le (by decide) t1
      by_cases e : i < jm
      · exact ih _ _ _ _ _ _ _ _ _ _ _ _ _ _ _ (by decide) t2 (by omega) (by omega) i i1 e
      · exact ih _ _ _ _ _ _ _ _ _ _ _ _ _ _ _ (by decide) t1 hj hr i (by omega) i2
    rw [if_neg m1] at h
    by_cases m2 : md = 2
    · rw [if_pos m2] at h
      obtain ⟨k, x, ys, pb, ff, -, pc, pk, lt, -, h⟩ := h
      by_cases e : i = j
      · subst e
        refine ⟨k, K, p, pb, x, ys, ff, j', pc, pk, lt, hj, fun k17 => ?_⟩
        rcases h with ⟨ko, -⟩ | ⟨-, e69, T, ey, t3⟩ | ⟨-, kn, -⟩
        · rw [k17] at ko; exact absurd ko (by decide)
        · have l3 := le (by decide) t3
          exact ⟨g, r, r', T, ⟨by omega, hr⟩, e69, ey, t3⟩
        · exact absurd k17 kn
      · rcases h with ⟨-, ej, -⟩ | ⟨-, -, T, -, t3⟩ | ⟨-, -, -, t, jm, rm, pm, y, -, t0, h⟩
        · omega
        · exact ih _ _ _ _ _ _ _ _ _ _ _ _ _ _ _ (by decide) t3 hj hr i (by omega) i2
        · have l0 := le (by decide) t0
          rcases h with ⟨-, ej, er, -⟩ | ⟨-, -, -, z, -, t0'⟩
          · exact ih _ _ _ _ _ _ _ _ _ _ _ _ _ _ _ (by decide) t0 (by omega) (by omega) i (by omega) (by omega)
          · have l0' := le (by decide) t0'
            by_cases e2 : i < jm
            · exact ih _ _ _ _ _ _ _ _ _ _ _ _ _ _ _ (by decide) t0 (by omega) (by omega) i (by omega) e2
            · exact ih _ _ _ _ _ _ _ _ _ _ _ _ _ _ _ (by decide) t0' hj hr i (by omega) i2
    rw [if_neg m2] at h
    obtain ⟨jm, rm, pm, y, t0, h⟩ := h
    have l0 := le (by decide) t0
    rcases h with ⟨-, ej, er, -⟩ | ⟨T, f2, -, -, -, t3⟩
    · exact ih _ _ _ _ _ _ _ _ _ _ _ _ _ _ _ (by decide) t0 (by omega) (by omega) i i1 (by omega)
    · have l3 := le (by decide) t3
      by_cases e : i < jm
      · exact ih _ _ _ _ _ _ _ _ _ _ _ _ _ _ _ (by decide) t0 (by omega) (by omega) i i1 e
      · exact ih _ _ _ _ _ _ _ _ _ _ _ _ _ _ _ (by decide) t3 hj hr i (by omega) i2
end
/-- the memory that is looked at -/
def LbM (m np : Nat) (A : Nat → Nat → Int32) (X : List Nd) (M : Mem) : Prop := Fix M ∧ m < 4 ∧ XR M m X ∧ X.length ≤ 810 ∧ (∀ c, 58 ≤ c → c ≤ 75 → c ≠ 72 → mAI M c = A c) ∧ (∀ k, k < np → SuI A X m 64 65 k ∧ SuI A X m 66 67 k) ∧ np ≤ 40
section
variable {m np : Nat} {A : Nat → Nat → Int32} {X : List Nd} {M : Mem} {h : Nat} {Q : Option Value → Mem → Prop} {W : Wo} {zn fn lo hi : Nat}
theorem C_in {c1 c2 s0 : Int32} {rr q jm : Nat} (hL : LbM m np A X M) (hr : rr < 100) (hq : q < 40) (hj : jm ≤ np) (e74 : A 74 rr = Int32.ofNat (40 * m + q)) (e71 : A 71 (40 * m + q) = Int32.ofNat (40 * m + jm)) : ∀ (d k : Nat) (g u : Int32), k + d = jm → (∀ s1 : Int32, s1 = (if s0 = 0 ∧ (g ||| orF (gvK A m) k jm) &&& (c1 ||| c2) = 0 ∧ (u ||| orF (uvK A X m) k jm) &&& c1 = 0 then 0 else 1) → T (h + 3) mdX11_clashes 15 [(0, .ref 29), (2, .int (c1 ||| (g ||| orF (gvK A m) k jm))), (3, .int (c2 ||| (u ||| orF (uvK A X m) k jm))), (4, .int s1), (5, .int (A 75 rr))] [] M Q) → T (h + 3) mdX11_clashes 36 [(0, .ref 29), (2, .int c1), (3, .int c2), (4, .int s0), (5, .int (Int32.ofNat rr)), (6, .int g), (7, .int u), (8, .int (Int32.ofNat (40 * m + k)))] [] M Q := by
  obtain ⟨F, h4, hX, hl, hA, hs, hn⟩ := hL
  have lr : (Int32.ofNat rr).toNatClampNeg = rr := lt32 (by omega)
  have lq : (Int32.ofNat (40 * m + q)).toNatClampNeg = 40 * m + q := lt40 h4 hq
  have vr : ∀ {k : Nat}, k = 100 → vp_in (Int32.ofNat rr) k := fun e => by rw [e]; exact vp_of hr (by decide)
  have m74 : mAI M 74 rr = Int32.ofNat (40 * m + q) := by rw [hA 74 (by decide) (by decide) (by decide)]; exact e74
  have m71 : mAI M 71 (40 * m + q) = Int32.ofNat (40 * m + jm) := by rw [hA 71 (by decide) (by decide) (by decide)]; exact e71
  have m75 : mAI M 75 rr = A 75 rr := by rw [hA 75 (by decide) (by decide) (by decide)]
  intro d
  induction d with
  | zero =>
    intro k g u hk K
    have ek : k = jm := by omega
    subst ek
    rw [orF_rf, orF_rf, Int32.or_zero, Int32.or_zero] at K
    refine VX11_clashes_36 ?_
    unfold DX11_clashes_36 DX11_clashes_121 DX11_clashes_126
    rw [lr]
    refine ⟨ok29 F, 71, rf29_51 F, 74, rf29_55 F, ok74 F, vr (ln74 F), ok71 F, by rw [m74]; exact ix40 h4 hq (ln71 F), ?_⟩
    rw [m74, lq, m71]
    have fin : ∀ s1 : Int32, s1 = (if s0 = 0 ∧ g &&& (c1 ||| c2) = 0 ∧ u &&& c1 = 0 then 0 else 1) → ok M 29 13 ∧ ∃ b2 : Nat, mR M 29 56 = some b2 ∧ ok M b2 21 ∧ vp_in (Int32.ofNat rr) (mL M b2) ∧ T (h + 2 + 1) mdX11_clashes 15 [(0, .ref 29), (2, .int (c1 ||| g)), (3, .int (c2 ||| u)), (4, .int s1), (5, .int (mAI M b2 rr))] [] M Q := fun s1 e => ⟨ok29 F, 75, rf29_56 F, ok75 F, vr (ln75 F), by rw [m75]; exact K s1 e⟩
    refine ⟨fun _ => ⟨fun z => fin 1 ?_, fun z => ⟨fun z2 => fin 1 ?_, fun z2 => ⟨fun z3 => fin 0 ?_, fun z3 => fin 1 ?_⟩⟩⟩, fun z => absurd Int32.le_rfl z⟩
    · rw [if_neg (fun w => z w.1)]
    · rw [if_neg (fun w => z2 w.2.1)]
    · rw [if_pos ⟨z, z2, z3⟩]
    · rw [if_neg (fun w => z3 w.2.2)]
  | succ d ih =>
    intro k g u hk K
    have hk40 : k < 40 := by omega
    have lk : (Int32.ofNat (40 * m + k)).toNatClampNeg = 40 * m + k := lt40 h4 hk40
    have e1 : orF (gvK A m) k jm = gvK A m k ||| orF (gvK A m) (k + 1) jm := by rw [orF_tr (f := gvK A m) (x := k) (y := k + 1) (z := jm) (by omega) (by omega), orF_one]
    have e2 : orF (uvK A X m) k jm = uvK A X m k ||| orF (uvK A X m) (k + 1) jm := by rw [orF_tr (f := uvK A X m) (x := k) (y := k + 1) (z := jm) (by omega) (by omega), orF_one]
    rw [e1, e2, ← Int32.or_assoc, ← Int32.or_assoc] at K
    have nxt := ih (k + 1) (g ||| gvK A m k) (u ||| uvK A X m k) (by omega) K
    have nle : ¬ Int32.ofNat (40 * m + jm) ≤ Int32.ofNat (40 * m + k) := fun z => by
      have := (le32 (by omega) (by omega)).mp z
      omega
    have m58 : mAI M 58 (40 * m + k) = A 58 (40 * m + k) := by rw [hA 58 (by decide) (by decide) (by decide)]
    have m60 : mAI M 60 (40 * m + k) = A 60 (40 * m + k) := by rw [hA 60 (by decide) (by decide) (by decide)]
    have st : Int32.ofNat (40 * m + k) + 1 = Int32.ofNat (40 * m + (k + 1)) := by rw [succ32]; rfl
    have go : ∀ s1 : Int32, g ||| s1 = g ||| gvK A m k → DX11_clashes_80 (h + 2) 29 c1 c2 s0 (Int32.ofNat rr) u (Int32.ofNat (40 * m + k)) g s1 M Q := fun s1 e => by
      unfold DX11_clashes_80
      refine ⟨ok29 F, U_of (h := h) F h4 hX hl hA hk40 (hs k (by omega)).1 (hs k (by omega)).2 (fun _ => ⟨_, rfl, ?_⟩)⟩
      rw [e, st]
      exact nxt
    refine VX11_clashes_36 ?_
    unfold DX11_clashes_36
    rw [lr]
    refine ⟨ok29 F, 71, rf29_51 F, 74, rf29_55 F, ok74 F, vr (ln74 F), ok71 F, by rw [m74]; exact ix40 h4 hq (ln71 F), ?_⟩
    rw [m74, lq, m71, lk]
    refine ⟨fun z => absurd z nle, fun _ => ⟨58, rf29_38 F, ok58 F, ix40 h4 hk40 (ln58 F), ?_⟩⟩
    rw [m58]
    refine ⟨fun z => go 0 ?_, fun z => ⟨60, rf29_40 F, ok60 F, ix40 h4 hk40 (ln60 F), ?_⟩⟩
    · unfold gvK; rw [if_neg z]
    · rw [m60]
      exact go _ (by unfold gvK; rw [if_pos z])
theorem C_out (hL : LbM m np A X M) (hA : woA W = A) (hG : woG W = orF (gvK A m)) (hU : woU W = orF (uvK A X m)) : ∀ (g : Nat) (K : List KE) (a2 a3 a4 : Nat) (c1 c2 : Int32) (fl : Bool) (j j' r r' p p' : Nat) (L : List (Nat × Nat)) (s0 : Int32), TT W m zn fn lo hi g 3 K a2 a3 a4 c1 c2 fl j j' r r' p p' L → a3 < r → r' ≤ 100 → j' ≤ np → Q (some (.int (if s0 = 0 ∧ fl = false then 0 else 1))) M → T (h + 3) mdX11_clashes 15 [(0, .ref 29), (2, .int c1), (3, .int c2), (4, .int s0), (5, .int (Int32.ofNat a3))] [] M Q := by
  obtain ⟨F, h4, hX, hl, hAA, hs, hn⟩ := id hL
  intro g
  induction g with
  | zero => intro K a2 a3 a4 c1 c2 fl j j' r r' p p' L s0 h; unfold TT at h; exact h.elim
  | succ g ih =>
    intro K a2 a3 a4 c1 c2 fl j j' r r' p p' L s0 h ha hr hj H
    have ler := (TT.le _ _ _ _ _ _ _ _ _ _ _ _ _ _ _ _ (by decide) h).2.1
    unfold TT at h
    rw [if_neg (by decide), if_neg (by decide), if_neg (by decide)] at h
    obtain ⟨jm, rm, pm, y, t0, h⟩ := h
    have l0 := TT.le _ _ _ _ _ _ _ _ _ _ _ _ _ _ _ _ (by decide) t0
    obtain ⟨q, w1, w2, w3, w4⟩ := t0.rowe
    have w1 : woA W 73 a3 = Int32.ofNat (40 * m + j) := w1
    have w2 : woA W 74 a3 = Int32.ofNat (40 * m + q) := w2
    rw [hA] at w1 w2 w4 h
    rw [hG, hU] at h
    have ha3 : a3 < 100 := by omega
    have la : (Int32.ofNat a3).toNatClampNeg = a3 := lt32 (by omega)
    have m73 : mAI M 73 a3 = Int32.ofNat (40 * m + j) := by rw [hAA 73 (by decide) (by decide) (by decide)]; exact w1
    have jmn : jm ≤ np := by
      rcases h with ⟨-, ej, -⟩ | ⟨T, f2, -, -, -, t3⟩
      · omega
      · have l3 := TT.le _ _ _ _ _ _ _ _ _ _ _ _ _ _ _ _ (by decide) t3
        omega
    refine VX11_clashes_15 ?_
    unfold DX11_clashes_15
    rw [la]
    refine ⟨fun z => absurd z (nm32 (by omega)), fun _ => ⟨ok29 F, 73, rf29_54 F, ok73 F, by rw [ln73 F]; exact vp_of ha3 (by decide), ?_⟩⟩
    rw [m73]
    refine C_in hL ha3 (by omega) jmn w2 w4 (jm - j) j 0 0 (by omega) (fun s1 e1 => ?_)
    rw [Int32.zero_or, Int32.zero_or] at e1 ⊢
    rcases h with ⟨-, ej, er, -, e75, ef⟩ | ⟨T, f2, -, e75, ef, t3⟩
    · rw [e75]
      refine VX11_clashes_15 ?_
      unfold DX11_clashes_15
      refine ⟨fun _ => ⟨?_, ?_⟩, fun z => absurd rfl z⟩
      · rw [e1]
        split
        · exact Or.inl rfl
        · exact Or.inr rfl
      · rw [e1]
        rw [ef] at H
        have : (if s0 = 0 ∧ (!decide (orF (gvK A m) j jm &&& (c1 ||| c2) = 0 ∧ orF (uvK A X m) j jm &&& c1 = 0)) = false then (0 : Int32) else 1) = (if s0 = 0 ∧ orF (gvK A m) j jm &&& (c1 ||| c2) = 0 ∧ orF (uvK A X m) j jm &&& c1 = 0 then 0 else 1) := by
          by_cases z : s0 = 0 ∧ orF (gvK A m) j jm &&& (c1 ||| c2) = 0 ∧ orF (uvK A X m) j jm &&& c1 = 0
          · rw [if_pos z, if_pos ⟨z.1, by rw [decide_eq_true z.2]; rfl⟩]
          · rw [if_neg z, if_neg (fun w => z ⟨w.1, of_decide_eq_true (by simpa using w.2)⟩)]
        rw [this] at H
        exact H
    · rw [e75]
      have l3 := TT.le _ _ _ _ _ _ _ _ _ _ _ _ _ _ _ _ (by decide) t3
      refine ih _ _ _ _ _ _ _ _ _ _ _ _ _ _ s1 t3 (by omega) hr hj ?_
      rw [ef] at H
      have : (if s0 = 0 ∧ (!decide (orF (gvK A m) j jm &&& (c1 ||| c2) = 0 ∧ orF (uvK A X m) j jm &&& c1 = 0) || f2) = false then (0 : Int32) else 1) = (if s1 = 0 ∧ f2 = false then 0 else 1) := by
        rw [e1]
        by_cases z : s0 = 0 ∧ orF (gvK A m) j jm &&& (c1 ||| c2) = 0 ∧ orF (uvK A X m) j jm &&& c1 = 0
        · rw [if_pos z, decide_eq_true z.2]
          cases f2 with
          | false => rw [if_pos ⟨z.1, rfl⟩, if_pos ⟨rfl, rfl⟩]
          | true => rw [if_neg (fun w => absurd w.2 (by decide)), if_neg (fun w => absurd w.2 (by decide))]
        · rw [if_neg z, if_neg (c := (1 : Int32) = 0 ∧ f2 = false) (fun w => absurd w.1 (by decide)), if_neg]
          intro w
          apply z
          refine ⟨w.1, ?_⟩
          cases f2 with
          | false => exact of_decide_eq_true (by simpa using w.2)
          | true => exact absurd w.2 (by simp)
      rw [this] at H
      exact H
end
end
section
/-! the reference looks behind, whole -/
section
variable {W : Wo} {m zn fn hi : Nat} {u : Vwr}
theorem zp_mem {R : Nat → Nat → Prop} : ∀ (ds cs : List Nat) (e : Nat × Nat), ZipP R ds cs → e ∈ ds.zip cs → R e.1 e.2
  | d :: ds, c :: cs, e, k, h => by
    rw [List.zip_cons_cons] at h
    rcases List.mem_cons.mp h with w | w
    · rw [w]; exact k.1
    · exact zp_mem ds cs e k.2 w
  | [], _, _, _, h => by rw [List.zip_nil_left] at h; exact absurd h (List.not_mem_nil)
  | _ :: _, [], _, _, h => by rw [List.zip_nil_right] at h; exact absurd h (List.not_mem_nil)
theorem rl_mem {R : Nat → Nat → Nat → Nat → Prop} : ∀ (ds cs : List Nat) (p p' : Nat) (e : Nat × Nat), RpLs R ds cs p p' → e ∈ ds.zip cs → ∃ q q', R e.1 e.2 q q'
  | d :: ds, c :: cs, p, p', e, ⟨pm, k1, k2⟩, h => by
    rw [List.zip_cons_cons] at h
    rcases List.mem_cons.mp h with w | w
    · rw [w]; exact ⟨p, pm, k1⟩
    · exact rl_mem ds cs pm p' e k2 w
  | [], _, _, _, _, _, h => by rw [List.zip_nil_left] at h; exact absurd h (List.not_mem_nil)
  | _ :: _, [], _, _, _, k, _ => False.elim k
theorem DsI.vl {V : Nat → Nat → Prop} {b : Nat × Nat} : ∀ (n : Nat) (a : Nat × Nat) (g : Nat), DsI W m u hi n a b → VlN W u V g a.1 a.2 → ∃ g', VlN W u V g' b.1 b.2
  | 0, a, g, h, k => by
    have h : a = b := h
    rw [← h]; exact ⟨g, k⟩
  | n + 1, a, 0, h, k => False.elim k
  | n + 1, a, g + 1, ⟨c, ⟨_, z⟩, h⟩, ⟨_, k⟩ => by
    rcases z with ⟨z1, z2, z3⟩ | ⟨z1, z2⟩
    · have z2 : (woV W a.2).2.2.2 = [c.2] := z2
      rcases k with ⟨-, c', k2, k3⟩ | ⟨k1, -⟩
      · rw [z2] at k2
        have e : c.2 = c' := (List.cons.inj k2).1
        rw [← e, ← z3] at k3
        exact DsI.vl n c g h k3
      · exact absurd ⟨z1, by rw [z2]; rfl⟩ k1
    · rcases k with ⟨k1, c', k2, -⟩ | ⟨-, k2⟩
      · exact absurd ⟨k1, by unfold chV; rw [k2]; rfl⟩ z1
      · exact DsI.vl n c g h (zp_mem _ _ c k2 z2)
theorem DsI.bd {hm : Nat → Int32} {N : Nat} {b : Nat × Nat} (hC : ClE W hm N) : ∀ (n : Nat) (a : Nat × Nat), DsI W m u hi n a b → 1 ≤ a.2 ∧ a.2 < N → 1 ≤ b.2 ∧ b.2 < N
  | 0, a, h, k => by
    have h : a = b := h
    rw [← h]; exact k
  | n + 1, a, ⟨c, ⟨_, z⟩, h⟩, k => by
    have hc := (hC a.2 k.1 k.2).2.2
    rcases z with ⟨-, z2, -⟩ | ⟨-, z2⟩
    · have z2 : (woV W a.2).2.2.2 = [c.2] := z2
      rw [z2] at hc
      exact DsI.bd hC n c h (hc c.2 (List.mem_singleton.mpr rfl))
    · exact DsI.bd hC n c h (hc c.2 (List.of_mem_zip z2).2)
theorem DsI.rp {b : Nat × Nat} : ∀ (n : Nat) (a : Nat × Nat) (g : Nat) (cx : List (Option Nat)) (p p' : Nat), DsI W m u hi n a b → RpN W m zn fn u hi g cx a.1 a.2 p p' → ∃ g' cx' q q', RpN W m zn fn u hi g' cx' b.1 b.2 q q'
  | 0, a, g, cx, p, p', h, k => by
    have h : a = b := h
    rw [← h]; exact ⟨g, cx, p, p', k⟩
  | n + 1, a, 0, _, _, _, h, k => by unfold RpN at k; exact k.elim
  | n + 1, a, g + 1, cx, p, p', ⟨c, ⟨_, z⟩, h⟩, k => by
    unfold RpN at k
    obtain ⟨-, k⟩ := k
    have nk : ∀ kk : Int32, (woV W a.2).1 = kk → kk ≠ 5 → c ∈ (u a.1).2.2.zip (woV W a.2).2.2.2 := fun kk e ne => by
      rcases z with ⟨z1, -⟩ | ⟨-, z2⟩
      · exact absurd (e.symm.trans z1) ne
      · exact z2
    have go : ∀ {cx' : List (Option Nat)} {q q' : Nat}, RpN W m zn fn u hi g cx' c.1 c.2 q q' → ∃ g' cx' q q', RpN W m zn fn u hi g' cx' b.1 b.2 q q' := fun k => DsI.rp n c g _ _ _ h k
    rcases k with ⟨a1, c', b1, b2⟩ | ⟨a1, b1, b2, b3⟩ | ⟨a1, a2, -⟩ | ⟨a1, -, a2, -⟩ | ⟨a1, a2, -⟩ | ⟨a1, a2, -⟩ | ⟨a1, b1, c1, c2, d1, pm, b2, b3, b4⟩ | ⟨a1, b1, c', d, b2, b3, b4⟩ | ⟨a1, b1, b5, c', d, b2, b3, b4⟩ | ⟨a1, b1, b2, b3⟩ | ⟨a1, b1, c', d, t, b2, b3, b4, b5⟩
    · rcases z with ⟨-, z2, z3⟩ | ⟨z1, -⟩
      · have z2 : (woV W a.2).2.2.2 = [c.2] := z2
        rw [b1] at z2
        have e : c' = c.2 := (List.cons.inj z2).1
        rw [e, ← z3] at b2
        exact go b2
      · exact absurd ⟨a1, by unfold chV; rw [b1]; rfl⟩ z1
    · have ln := RpLs.ln _ _ _ _ b3
      rcases z with ⟨-, z2, -⟩ | ⟨-, z2⟩
      · have z2 : (woV W a.2).2.2.2 = [c.2] := z2
        rw [z2] at ln
        have ln : (u a.1).2.2.length = 1 := ln
        omega
      · obtain ⟨q, q', w⟩ := rl_mem _ _ _ _ c b3 z2
        exact go w
    · have w := nk 0 a1 (by decide)
      rw [a2, List.zip_nil_right] at w
      exact absurd w List.not_mem_nil
    · have w := nk 1 a1 (by decide)
      rw [a2, List.zip_nil_right] at w
      exact absurd w List.not_mem_nil
    · have w := nk 2 a1 (by decide)
      rw [a2, List.zip_nil_right] at w
      exact absurd w List.not_mem_nil
    · have w := nk 3 a1 (by decide)
      rw [a2, List.zip_nil_right] at w
      exact absurd w List.not_mem_nil
    · have w := nk 4 a1 (by decide)
      rw [b2] at w
      rcases b4 with ⟨e, -⟩ | ⟨d2, e, b5⟩
      · rw [e] at w
        have w : c ∈ [(d1, c1)] := w
        rw [List.mem_singleton.mp w] at go
        exact go b3
      · rw [e] at w
        have w : c ∈ [(d1, c1), (d2, c2)] := w
        rcases List.mem_cons.mp w with w | w
        · rw [w] at go; exact go b3
        · rw [List.mem_singleton.mp w] at go; exact go b5
    · have w := nk 6 a1 (by decide)
      rw [b2, b3] at w
      have w : c ∈ [(d, c')] := w
      rw [List.mem_singleton.mp w] at go
      exact go b4
    · have w := nk 7 a1 (by decide)
      rw [b2, b3] at w
      have w : c ∈ [(d, c')] := w
      rw [List.mem_singleton.mp w] at go
      exact go b4
    · obtain ⟨q, q', w⟩ := rl_mem _ _ _ _ c b3 (nk 8 a1 (by decide))
      exact go w
    · have w := nk 9 a1 (by decide)
      rw [b2, b3] at w
      have w : c ∈ [(d, c')] := w
      rw [List.mem_singleton.mp w] at go
      exact go b5
end
theorem soK_5 {k : Int32} (h : soK k = 5) : k = 42 := by
  unfold soK at h
  by_cases e0 : k = 37
  · rw [if_pos e0] at h; exact absurd h (by decide)
  rw [if_neg e0] at h
  by_cases e1 : k = 38
  · rw [if_pos e1] at h; exact absurd h (by decide)
  rw [if_neg e1] at h
  by_cases e2 : k = 39
  · rw [if_pos e2] at h; exact absurd h (by decide)
  rw [if_neg e2] at h
  by_cases e3 : k = 40
  · rw [if_pos e3] at h; exact absurd h (by decide)
  rw [if_neg e3] at h
  by_cases e4 : k = 41
  · rw [if_pos e4] at h; exact absurd h (by decide)
  rw [if_neg e4] at h
  by_cases e5 : k = 42
  · exact e5
  rw [if_neg e5] at h
  by_cases e6 : k = 44
  · rw [if_pos e6] at h; exact absurd h (by decide)
  rw [if_neg e6] at h
  by_cases e7 : k = 47
  · rw [if_pos e7] at h; exact absurd h (by decide)
  rw [if_neg e7] at h
  by_cases e8 : k = 49
  · rw [if_pos e8] at h; exact absurd h (by decide)
  rw [if_neg e8] at h
  by_cases e9 : k = 50
  · rw [if_pos e9] at h; exact absurd h (by decide)
  rw [if_neg e9] at h
  by_cases e10 : k = 52
  · rw [if_pos e10] at h; exact absurd h (by decide)
  rw [if_neg e10] at h
  by_cases e11 : k = 53
  · rw [if_pos e11] at h; exact absurd h (by decide)
  rw [if_neg e11] at h
  by_cases e12 : k = 55
  · rw [if_pos e12] at h; exact absurd h (by decide)
  rw [if_neg e12] at h
  by_cases e13 : k = 57
  · rw [if_pos e13] at h; exact absurd h (by decide)
  rw [if_neg e13] at h
  by_cases e14 : k = 58
  · rw [if_pos e14] at h; exact absurd h (by decide)
  rw [if_neg e14] at h
  by_cases e15 : k = 2
  · rw [if_pos e15] at h; exact absurd h (by decide)
  rw [if_neg e15] at h
  by_cases e16 : k = 17
  · rw [if_pos e16] at h; exact absurd h (by decide)
  rw [if_neg e16] at h
  exact absurd h (by decide)
theorem soK_16 {k : Int32} (h : soK k = 16) : k = 17 := by
  unfold soK at h
  by_cases e0 : k = 37
  · rw [if_pos e0] at h; exact absurd h (by decide)
  rw [if_neg e0] at h
  by_cases e1 : k = 38
  · rw [if_pos e1] at h; exact absurd h (by decide)
  rw [if_neg e1] at h
  by_cases e2 : k = 39
  · rw [if_pos e2] at h; exact absurd h (by decide)
  rw [if_neg e2] at h
  by_cases e3 : k = 40
  · rw [if_pos e3] at h; exact absurd h (by decide)
  rw [if_neg e3] at h
  by_cases e4 : k = 41
  · rw [if_pos e4] at h; exact absurd h (by decide)
  rw [if_neg e4] at h
  by_cases e5 : k = 42
  · rw [if_pos e5] at h; exact absurd h (by decide)
  rw [if_neg e5] at h
  by_cases e6 : k = 44
  · rw [if_pos e6] at h; exact absurd h (by decide)
  rw [if_neg e6] at h
  by_cases e7 : k = 47
  · rw [if_pos e7] at h; exact absurd h (by decide)
  rw [if_neg e7] at h
  by_cases e8 : k = 49
  · rw [if_pos e8] at h; exact absurd h (by decide)
  rw [if_neg e8] at h
  by_cases e9 : k = 50
  · rw [if_pos e9] at h; exact absurd h (by decide)
  rw [if_neg e9] at h
  by_cases e10 : k = 52
  · rw [if_pos e10] at h; exact absurd h (by decide)
  rw [if_neg e10] at h
  by_cases e11 : k = 53
  · rw [if_pos e11] at h; exact absurd h (by decide)
  rw [if_neg e11] at h
  by_cases e12 : k = 55
  · rw [if_pos e12] at h; exact absurd h (by decide)
  rw [if_neg e12] at h
  by_cases e13 : k = 57
  · rw [if_pos e13] at h; exact absurd h (by decide)
  rw [if_neg e13] at h
  by_cases e14 : k = 58
  · rw [if_pos e14] at h; exact absurd h (by decide)
  rw [if_neg e14] at h
  by_cases e15 : k = 2
  · rw [if_pos e15] at h; exact absurd h (by decide)
  rw [if_neg e15] at h
  by_cases e16 : k = 17
  · exact e16
  rw [if_neg e16] at h
  exact absurd h (by decide)
theorem soK_le {k : Int32} : soK k ≤ 99 := by
  unfold soK
  by_cases e0 : k = 37
  · rw [if_pos e0]; decide
  rw [if_neg e0]
  by_cases e1 : k = 38
  · rw [if_pos e1]; decide
  rw [if_neg e1]
  by_cases e2 : k = 39
  · rw [if_pos e2]; decide
  rw [if_neg e2]
  by_cases e3 : k = 40
  · rw [if_pos e3]; decide
  rw [if_neg e3]
  by_cases e4 : k = 41
  · rw [if_pos e4]; decide
  rw [if_neg e4]
  by_cases e5 : k = 42
  · rw [if_pos e5]; decide
  rw [if_neg e5]
  by_cases e6 : k = 44
  · rw [if_pos e6]; decide
  rw [if_neg e6]
  by_cases e7 : k = 47
  · rw [if_pos e7]; decide
  rw [if_neg e7]
  by_cases e8 : k = 49
  · rw [if_pos e8]; decide
  rw [if_neg e8]
  by_cases e9 : k = 50
  · rw [if_pos e9]; decide
  rw [if_neg e9]
  by_cases e10 : k = 52
  · rw [if_pos e10]; decide
  rw [if_neg e10]
  by_cases e11 : k = 53
  · rw [if_pos e11]; decide
  rw [if_neg e11]
  by_cases e12 : k = 55
  · rw [if_pos e12]; decide
  rw [if_neg e12]
  by_cases e13 : k = 57
  · rw [if_pos e13]; decide
  rw [if_neg e13]
  by_cases e14 : k = 58
  · rw [if_pos e14]; decide
  rw [if_neg e14]
  by_cases e15 : k = 2
  · rw [if_pos e15]; decide
  rw [if_neg e15]
  by_cases e16 : k = 17
  · rw [if_pos e16]; decide
  rw [if_neg e16]
  decide
section
variable {m np : Nat} {A : Nat → Nat → Int32} {X : List Nd} {M : Mem} {h : Nat} {Q : Option Value → Mem → Prop} {W : Wo} {zn fn lo hw : Nat} {hm : Nat → Int32} {pn mk nu co : Nat → Int32} {S : RBs} {G : Nat → List Nat} {sl : List Nat} {km g y x p' N : Nat}
theorem L_clash {i i2 g r r' p pb : Nat} {K : List KE} {ff : Bool} {T : List (Nat × Nat)} (hL : LbM m np A X M) (hA : woA W = A) (hG : woG W = orF (gvK A m)) (hU : woU W = orF (uvK A X m)) (hi : i < 40) (hr : r < 100 ∧ r' ≤ 100) (e69 : woA W 69 (40 * m + i) = Int32.ofNat r) (t : TT W m zn fn lo hw g 3 K i r 1 0 0 ff (i + 1) i2 (r + 1) r' p pb T) (h2 : i2 ≤ np) (H : Q (some (.int (if ff = false then 0 else 1))) M) : E (h + 3) mdX11_clashes [.ref 29, .int (Int32.ofNat (40 * m + i))] M Q := by
  obtain ⟨F, h4, hX, hl, hAA, hs, hn⟩ := id hL
  refine KX11_clashes ?_
  unfold DX11_clashes_0
  rw [lt40 h4 hi]
  refine ⟨ok29 F, 69, rf29_49 F, ok69 F, ix40 h4 hi (ln69 F), ?_⟩
  rw [hAA 69 (by decide) (by decide) (by decide), ← hA, e69]
  refine C_out (h := h) hL hA hG hU g K i r 1 0 0 ff (i + 1) i2 (r + 1) r' p pb T 0 t (by omega) hr.2 h2 ?_
  cases ff with
  | false => exact H
  | true => exact H
theorem L_dead {v : Int32} (F : Fix M) (h4 : m < 4) (i19 : mI M 29 19 = Int32.ofNat m) (i6 : mI M 29 6 ≠ 0) (H : Q none M) : T (h + 1) mdX11_lookBehind 8 [(0, .ref 29), (1, .int v)] [] M Q := by
  refine VX11_lookBehind_8 ?_
  unfold DX11_lookBehind_8 DX11_lookBehind_119
  rw [i19]
  exact ⟨ok29 F, 54, rf29_34 F, ok54 F, by rw [ln54 F]; exact vp_of h4 (by decide), fun _ => H, fun _ => ⟨fun _ => H, fun z => absurd z i6⟩⟩
/-- what looking behind knows -/
def LkP (W : Wo) (hm : Nat → Int32) (m zn fn lo hw : Nat) (A : Nat → Nat → Int32) (X : List Nd) (np N : Nat) (M : Mem) : Prop := LbM m np A X M ∧ woA W = A ∧ woG W = orF (gvK A m) ∧ woU W = orF (uvK A X m) ∧ (∀ i, i < np → PrI W m zn fn lo hw np i) ∧ ClE W hm N ∧ hw ≤ N ∧ N ≤ 1000 ∧ mI M 29 6 = 0 ∧ mAI M 54 m = Int32.ofNat np
theorem L_look (hP : LkP W hm m zn fn lo hw A X np N M) (hR : BuR W hm m zn fn A pn S G mk nu co sl km g y x p' np M) (hx : 1 ≤ x ∧ x < N) (H0 : (∀ i, i < np → woP W i 2 = 0) → Q none M) (H1 : ∀ j pl, j < np → (∀ i, i < j → woP W i 2 = 0) → woP W j 2 ≠ 0 → woP W j 0 = Int32.ofNat pl → Q none (wI (wI M 29 6 (woP W j 2)) 29 7 (Int32.ofNat pl))) : E (h + 4) mdX11_lookBehind [.ref 29] M Q := by
  obtain ⟨hL, hA, hG, hU, hp, hC, hwN, hN, i6, e54⟩ := hP
  obtain ⟨F, h4, hX, hl, hAA, hs, hn⟩ := id hL
  obtain ⟨⟨hB, -⟩, rg, -, rp, ⟨go, -, -⟩, pd, -⟩ := id hR
  have i19 : mI M 29 19 = Int32.ofNat m := hB.2.2.1
  have e90 : mAI M 90 = pn := hB.2.2.2.2.2.2
  have e82 : mAI M 82 = S.2 82 := hB.2.2.2.2.1 82 (by decide) (by decide)
  have e89 : mAI M 89 = co := hB.2.2.2.2.1 89 (by decide) (by decide)
  have lm : (Int32.ofNat m).toNatClampNeg = m := lt32 (by omega)
  have x40 : ∀ k : Nat, (40 : Int32) * Int32.ofNat m + Int32.ofNat k = Int32.ofNat (40 * m + k) := fun k => by rw [Int32.ofNat_add, Int32.ofNat_mul]; rfl
  have main : ∀ (d i : Nat), i + d = np → (∀ k, k < i → woP W k 2 = 0) → T (h + 4) mdX11_lookBehind 8 [(0, .ref 29), (1, .int (Int32.ofNat (40 * m + i)))] [] M Q := by
    intro d
    induction d with
    | zero =>
      intro i hi h0
      have ei : i = np := by omega
      subst ei
      refine VX11_lookBehind_8 ?_
      unfold DX11_lookBehind_8 DX11_lookBehind_119
      rw [i19, lm]
      refine ⟨ok29 F, 54, rf29_34 F, ok54 F, by rw [ln54 F]; exact vp_of h4 (by decide), ?_⟩
      rw [e54, x40]
      exact ⟨fun _ => H0 h0, fun z => absurd Int32.le_rfl z⟩
    | succ d ih =>
      intro i hi h0
      have i40 : i < 40 := by omega
      have li : (Int32.ofNat (40 * m + i)).toNatClampNeg = 40 * m + i := lt40 h4 i40
      have st : Int32.ofNat (40 * m + i) + 1 = Int32.ofNat (40 * m + (i + 1)) := by rw [succ32]; rfl
      obtain ⟨k, K, p, pb, xi, ys, ff, i2, pc, pk, lt, li2, c17⟩ := hp i (by omega)
      obtain ⟨-, s58, ⟨pl, s59, s0⟩, -, s1⟩ := pc
      rw [hA] at s58 s59
      have m58 : mAI M 58 (40 * m + i) = Int32.ofNat (soK k) := by rw [hAA 58 (by decide) (by decide) (by decide)]; exact s58
      have m59 : mAI M 59 (40 * m + i) = Int32.ofNat pl := by rw [hAA 59 (by decide) (by decide) (by decide)]; exact s59
      have nxt : woP W i 2 = 0 → DX11_lookBehind_113 (h + 3) 29 (Int32.ofNat (40 * m + i)) M Q := fun e => by
        unfold DX11_lookBehind_113
        rw [st]
        refine ih (i + 1) (by omega) (fun j hj => ?_)
        by_cases ej : j = i
        · rw [ej]; exact e
        · exact h0 j (by omega)
      have bad : ∀ c : Int32, c ≠ 0 → woP W i 2 = c → E (h + 3) mdX11_fails [.ref 29, .int c, .int (Int32.ofNat pl)] M (fun r M8 => mE M M8 → r = none ∧ DX11_lookBehind_113 (h + 3) 29 (Int32.ofNat (40 * m + i)) M8 Q) := fun c nc e => by
        refine R_fails (h := h + 2) F (fun _ => ⟨rfl, ?_⟩)
        unfold flF
        rw [if_pos i6]
        have q := H1 i pl (by omega) h0 (by rw [e]; exact nc) s0
        rw [e] at q
        unfold DX11_lookBehind_113
        obtain ⟨M9, e9⟩ : ∃ M9, M9 = wI (wI M 29 6 c) 29 7 (Int32.ofNat pl) := ⟨_, rfl⟩
        have F9 : Fix M9 := by rw [e9]; exact F.i.i
        have a19 : mI M9 29 19 = Int32.ofNat m := by rw [e9, ← i19]; rfl
        have a6 : mI M9 29 6 ≠ 0 := by
          have : mI M9 29 6 = c := by rw [e9, mI_wI, if_neg (by decide), mI_wI, if_pos ⟨rfl, rfl⟩]
          rw [this]; exact nc
        rw [← e9] at q ⊢
        exact L_dead F9 h4 a19 a6 q
      have n16 : k ≠ 17 → ¬ Int32.ofNat (soK k) = 16 := fun nk z => nk (soK_16 (inj32 (by have := @soK_le k; omega) (by decide) z))
      have n5 : k ≠ 42 → ¬ Int32.ofNat (soK k) = 5 := fun nk z => nk (soK_5 (inj32 (by have := @soK_le k; omega) (by decide) z))
      have to82 : (k = 42 → woP W i 2 = 0) → DX11_lookBehind_82 (h + 3) 29 (Int32.ofNat (40 * m + i)) M Q := fun e42 => by
        unfold DX11_lookBehind_82
        rw [li]
        refine ⟨ok29 F, 58, rf29_38 F, ok58 F, ix40 h4 i40 (ln58 F), ?_⟩
        rw [m58]
        refine ⟨fun z => nxt ?_, fun z => ?_⟩
        · by_cases k42 : k = 42
          · exact e42 k42
          · unfold ltK at lt
            by_cases k17 : k = 17
            · rw [k17] at z; exact absurd rfl z
            · rw [lt, if_neg k42, if_neg k17]
        · have k17 : k = 17 := by
            by_cases w : k = 17
            · exact w
            · exact absurd z (n16 w)
          unfold ltK at lt
          rw [k17, if_neg (by decide), if_pos rfl] at lt
          obtain ⟨g3, r, r', T3, hr, e69, -, t3⟩ := c17 k17
          refine L_clash (h := h) hL hA hG hU i40 hr e69 t3 li2 (fun _ => ⟨_, rfl, fun r0 => nxt ?_, fun r0 => ⟨59, rf29_39 F, ok59 F, ix40 h4 i40 (ln59 F), ?_⟩⟩)
          · cases ff with
            | false => exact lt
            | true => exact absurd r0 (by decide)
          · rw [m59]
            cases ff with
            | false => exact absurd rfl r0
            | true => exact bad 8 (by decide) lt
      refine VX11_lookBehind_8 ?_
      unfold DX11_lookBehind_8
      rw [i19, lm, li]
      have nle : ¬ Int32.ofNat (40 * m + np) ≤ Int32.ofNat (40 * m + i) := fun z => by
        have := (le32 (by omega) (by omega)).mp z
        omega
      refine ⟨ok29 F, 54, rf29_34 F, ok54 F, by rw [ln54 F]; exact vp_of h4 (by decide), ?_⟩
      rw [e54, x40]
      refine ⟨fun z => absurd z nle, fun _ => ⟨fun z => absurd i6 z, fun _ => ⟨58, rf29_38 F, ok58 F, ix40 h4 i40 (ln58 F), ?_⟩⟩⟩
      rw [m58]
      refine ⟨fun z => to82 (fun e => ?_), fun z => ?_⟩
      · rw [e] at z; exact absurd rfl z
      · have k42 : k = 42 := by
          by_cases w : k = 42
          · exact w
          · exact absurd z (n5 w)
        obtain ⟨e, he, yi, xj, ⟨a1, a2⟩, a3, a4⟩ := pd i (Nat.zero_le _) (by omega)
        rw [List.mem_singleton.mp he] at a4
        obtain ⟨n, a4⟩ := a4
        have bx := DsI.bd hC n _ a4 hx
        have bx : 1 ≤ xj ∧ xj < N := bx
        unfold PkS at pk
        rw [k42] at pk
        have pk : ∃ y, ys = [y] ∧ ndS (woV W) lo hw xi 6 0 [y] := pk
        obtain ⟨c, ey, nd⟩ := pk
        have exx : xj = xi := inj32 (by omega) (by have := nd.1.2; omega) (a2.symm.trans s1)
        obtain ⟨g1, cx1, q, q', rp1⟩ := DsI.rp n _ _ _ _ _ a4 rp
        obtain ⟨g2, vl1⟩ := DsI.vl n _ _ a4 go
        have rp1 : RpN W m zn fn (vwR S G) (700 * m + S.1) g1 cx1 yi xj q q' := rp1
        have vl1 : VlN W (vwR S G) (Vok W hm mk nu co km) g2 yi xj := vl1
        rw [exx] at rp1 vl1
        cases g1 with
        | zero => unfold RpN at rp1; exact rp1.elim
        | succ g1 =>
        cases g2 with
        | zero => exact False.elim vl1
        | succ g2 =>
        have kd : (woV W xi).1 = 6 := nd.2.1
        have kc : (woV W xi).2.2.2 = [c] := nd.2.2.2
        have gd : ∃ d, G yi = [d] := by
          unfold RpN at rp1
          obtain ⟨-, k⟩ := rp1
          rw [kd] at k
          rcases k with ⟨a1, -⟩ | ⟨a1, -⟩ | ⟨a1, -⟩ | ⟨a1, -⟩ | ⟨a1, -⟩ | ⟨a1, -⟩ | ⟨a1, -⟩ | ⟨-, -, c', d, -, b3, -⟩ | ⟨a1, -⟩ | ⟨a1, -⟩ | ⟨a1, -⟩
          iterate 7 exact absurd a1 (by decide)
          · exact ⟨d, b3⟩
          iterate 3 exact absurd a1 (by decide)
        obtain ⟨d, gd⟩ := gd
        obtain ⟨lk, -, dr⟩ := rg.2.1 yi a3.1 a3.2
        rw [gd] at lk dr
        have hd := dr d (List.mem_singleton.mpr rfl)
        have s82 : S.2 82 yi = Int32.ofNat d := lk.1
        have vk : Vok W hm mk nu co km d c := by
          obtain ⟨-, k⟩ := vl1
          rcases k with ⟨k1, -⟩ | ⟨-, k2⟩
          · rw [kd] at k1; exact absurd k1 (by decide)
          · rw [kc, show (vwR S G yi).2.2 = [d] from gd] at k2
            have k2 := k2.1
            cases g2 with
            | zero => exact False.elim k2
            | succ g2 => exact k2.1
        have cd : co d = woC W c := vk.2.1
        unfold ltK at lt
        rw [k42, if_pos rfl, ey] at lt
        have lt : woP W i 2 = if woC W c &&& 1 = 0 then 0 else 7 := lt
        have ly : (Int32.ofNat yi).toNatClampNeg = yi := lt32 (by have := rg.1.2; omega)
        have ld : (Int32.ofNat d).toNatClampNeg = d := lt32 (by have := rg.1.2; omega)
        have m90 : mAI M 90 (40 * m + i) = Int32.ofNat yi := by rw [e90]; exact a1
        have m82 : mAI M 82 yi = Int32.ofNat d := by rw [e82]; exact s82
        have m89 : mAI M 89 d = woC W c := by rw [e89]; exact cd
        refine ⟨89, rf29_71 F, 82, rf29_64 F, 90, rf29_72 F, ok90 F, ix40 h4 i40 (ln90 F), ok82 F, ?_⟩
        rw [m90, ly, m82, ld, m89]
        refine ⟨by rw [ln82 F]; exact vp_of (by have := rg.1.2; omega) (by decide), ok89 F, by rw [ln89 F]; exact vp_of (by have := rg.1.2; omega) (by decide), fun w => to82 (fun _ => ?_), fun w => ⟨59, rf29_39 F, ok59 F, ix40 h4 i40 (ln59 F), ?_⟩⟩
        · rw [lt, if_pos w]
        · rw [m59]
          rw [if_neg w] at lt
          exact bad 7 (by decide) lt
  refine KX11_lookBehind ?_
  unfold DX11_lookBehind_0
  rw [i19]
  refine ⟨ok29 F, ?_⟩
  have e0 : (40 : Int32) * Int32.ofNat m = Int32.ofNat (40 * m + 0) := by rw [Nat.add_zero, Int32.ofNat_mul]; rfl
  rw [e0]
  exact main np 0 (by omega) (fun k hk => absurd hk (Nat.not_lt_zero _))
end
end
section
/-! how many pauses the parts make at most -/
section
variable {Θ : TrT} {c d v x aw : Nat} {k l : Int32} {im : Bool}
theorem nq_mk : (mkT Θ k).1.2.1 = Θ.2.1 := by unfold mkT; split <;> rfl
theorem nq_wr : (wrT Θ k c).1.2.1 = Θ.2.1 := hgT_n.2.trans nq_mk
theorem nq_pr : (prT Θ k c d).1.2.1 = Θ.2.1 := hgT_n.2.trans (hgT_n.2.trans nq_mk)
theorem nq_pa : (paT Θ).1.2.1 = Θ.2.1 + 1 := by show (mkT Θ 1).1.2.1 + 1 = _; rw [nq_mk]
theorem nq_em : (emT Θ v).1.2.1 = Θ.2.1 := nq_mk
theorem nq_ex : (exT Θ v).1.2.1 = Θ.2.1 := nq_mk
theorem nq_ch : (chT Θ l c d).1.2.1 = Θ.2.1 := nq_pr
theorem nq_su : (suT Θ c l).1.2.1 = Θ.2.1 := nq_wr
theorem nq_ha : (haT Θ).1.2.1 = Θ.2.1 + 1 := nq_wr.trans nq_pa
theorem nq_st : (stT Θ v).1.2.1 = Θ.2.1 + 1 := nq_wr.trans (nq_pr.trans (nq_pa.trans (congrArg (fun z => z + 1) nq_em)))
theorem nq_w1 : (wt1 Θ).1.2.1 = Θ.2.1 + 1 := nq_mk.trans (nq_ex.trans nq_pa)
theorem nq_w2 : (wt2 Θ l).1.2.1 = Θ.2.1 + 1 := nq_ch.trans nq_w1
theorem nq_w3 : (wt3 Θ l im).1.2.1 = Θ.2.1 + 1 := by
  cases im with
  | true => exact nq_pr.trans nq_w2
  | false => exact nq_pr.trans nq_w2
theorem nq_wa : (waT Θ l im).1.2.1 = Θ.2.1 + 1 := nq_wr.trans nq_w3
theorem nq_aw : (awT Θ l im).1.2.1 = Θ.2.1 + 1 := nq_wr.trans nq_wa
theorem nq_k1 : (wk1 Θ c).1.2.1 = Θ.2.1 := nq_pr.trans nq_ex
theorem nq_k2 : (wk2 Θ c l im).1.2.1 = Θ.2.1 + 1 := by
  have a : (wk2 Θ c l im).1.2.1 = (wk1 Θ c).1.2.1 + 1 := nq_wa
  rw [nq_k1] at a; exact a
theorem nq_wk : (wkT Θ c l im).1.2.1 = Θ.2.1 + 1 := nq_wr.trans (nq_pr.trans nq_k2)
theorem nq_ab : (abT Θ c l).1.2.1 = Θ.2.1 + 1 := by
  have a : (abT Θ c l).1.2.1 = (suT Θ c l).1.2.1 + 1 := by unfold abT; exact nq_wk
  rw [nq_su] at a; exact a
theorem nq_ev : (evT Θ x aw l).1.2.1 = Θ.2.1 + 2 := by
  have a1 : (evT Θ x aw l).1.2.1 = (ev3 Θ x l).1.2.1 := by unfold evT; exact nq_pr
  have a2 : (ev3 Θ x l).1.2.1 = (ev2 Θ x l).1.2.1 := by unfold ev3; exact nq_wr
  have a3 : (ev2 Θ x l).1.2.1 = (ev1 Θ x).1.2.1 + 1 := by unfold ev2; exact nq_ab
  have a4 : (ev1 Θ x).1.2.1 = (haT Θ).1.2.1 := by unfold ev1; exact nq_pr
  have a5 := nq_ha (Θ := Θ)
  omega
end
section
variable {b : Nat → Int32} {n m : Nat} {τ : Td} {j i o f1 f2 fo x aw lit y : Nat} {k : Int32} {w : Int64} {K : List KE} {σ σ1 σ2 : PS}
/-- counters the same, at most q pauses more -/
def Cq (q : Nat) (σ σ' : PS) : Prop := σ'.1.1 = σ.1.1 ∧ (trS σ').2.1 ≤ (trS σ).2.1 + q
theorem Sx.cq {q : Nat} {r : TrT} (h : Sx σ σ1) (g : r.2.1 = (trS σ1).2.1 + q) : Cq q σ (trP1 σ1 r) := ⟨h.1, by rw [h.2] at g; exact Nat.le_of_eq g⟩
theorem Cq.mo {q q1 : Nat} (h : Cq q σ σ1) (g : q ≤ q1) : Cq q1 σ σ1 := ⟨h.1, by have := h.2; omega⟩
theorem Cq.al {q R : Nat} (h : Cq q σ σ1) (g : (trS σ).2.1 + (R + q) ≤ σ.1.1 1) : (trS σ1).2.1 + R ≤ σ1.1.1 1 := by
  rw [h.1]
  have := h.2
  omega
theorem br_q {j a x : Nat} {g u : Int32} : (brP σ j a x g u).1 = σ.1 ∧ (trS (brP σ j a x g u)).2.1 = (trS σ).2.1 := by
  unfold brP
  split
  · exact ⟨rfl, hgT_n.2⟩
  · exact ⟨rfl, hgT_n.2⟩
theorem pb_bg {k : Int32} {pl q d : Nat} {wh : Int32} : (bgP m k pl q d wh σ).1.1 1 = σ.1.1 1 + paK k ∧ trS (bgP m k pl q d wh σ) = trS σ := ⟨by simp [bgP, va_up], rfl⟩
theorem pb_rw {p : Nat} {q0 : Option Nat} : (rwP p q0 σ).1.1 1 = σ.1.1 1 ∧ trS (rwP p q0 σ) = trS σ := ⟨by simp [rwP, va_up], rfl⟩
theorem Sx.c0 {r : TrT} (h : Sx σ σ1) (g : r.2.1 = (trS σ1).2.1) : Cq 0 σ (trP1 σ1 r) := ⟨h.1, by rw [h.2] at g; exact Nat.le_of_eq g⟩
theorem lf_q {r : Nat × PS × Nat} (e : lfM b n m τ k w j i K σ = .ok r) : Cq (paK k) σ r.2.1 := by
  unfold lfM at e
  by_cases k1 : k = 38
  · rw [if_pos k1] at e; cases e; exact (Sx.rf.cq nq_pa).mo (by rw [k1]; decide)
  rw [if_neg k1] at e
  by_cases k2 : k = 39
  · rw [if_pos k2] at e; cases e; exact (Sx.rf.cq nq_ha).mo (by rw [k2]; decide)
  rw [if_neg k2] at e
  by_cases k3 : k = 40
  · rw [if_pos k3] at e
    obtain ⟨y, e1, e⟩ := bind_ok e
    cases e; exact ((em_x e1).c0 nq_em).mo (by omega)
  rw [if_neg k3] at e
  by_cases k4 : k = 41
  · rw [if_pos k4] at e
    obtain ⟨y, e1, e⟩ := bind_ok e
    cases e; exact ((em_x e1).cq nq_st).mo (by rw [k4]; decide)
  rw [if_neg k4] at e
  by_cases k5 : k = 47
  · rw [if_pos k5] at e
    obtain ⟨y, e1, e⟩ := bind_ok e
    cases e; exact ((at_x e1).cq nq_aw).mo (by rw [k5]; decide)
  rw [if_neg k5] at e
  by_cases k6 : k = 57
  · rw [if_pos k6] at e
    by_cases h1 : tK b n i = 2
    · rw [if_pos h1] at e
      cases h2 : trW K (tC b n i) with
      | none => rw [h2] at e; cases e
      | some q =>
        rw [h2] at e
        obtain ⟨i2, -, e⟩ := bind_ok e
        cases e; exact (Sx.c0 (σ1 := raP σ (up2 σ.1.2.1 60 (40 * m + j) (Int32.ofNat q.2))) ⟨rfl, rfl⟩ nq_ex).mo (by omega)
    · rw [if_neg h1] at e; cases e
  rw [if_neg k6] at e
  by_cases k7 : k = 2
  · rw [if_pos k7] at e
    obtain ⟨i2, -, e⟩ := bind_ok e
    obtain ⟨y, e1, e⟩ := bind_ok e
    have q := su_x e1
    cases e; exact (Sx.c0 (σ := σ) ⟨q.1, q.2⟩ nq_mk).mo (by omega)
  rw [if_neg k7] at e
  cases e; exact (Sx.rf.c0 nq_mk).mo (by omega)
theorem hd_q {r : Nat × PS × Nat × Bool × Nat × Option Int64} (e : hdM b n m τ k j i K σ = .ok r) : Cq (hpK k) σ r.2.1 := by
  unfold hdM at e
  by_cases k1 : k = 44
  · rw [if_pos k1] at e
    obtain ⟨y, e1, e⟩ := bind_ok e
    obtain ⟨i2, -, e⟩ := bind_ok e
    have q := co_x e1
    cases e; exact ⟨q.1, by rw [q.2]; omega⟩
  rw [if_neg k1] at e
  by_cases k2 : k = 49
  · rw [if_pos k2] at e; cases e; exact ⟨rfl, Nat.le_add_right _ _⟩
  rw [if_neg k2] at e
  by_cases k3 : k = 50
  · rw [if_pos k3] at e
    obtain ⟨i2, -, e⟩ := bind_ok e
    cases e; exact ⟨rfl, Nat.le_add_right _ _⟩
  rw [if_neg k3] at e
  by_cases k4 : k = 53
  · rw [if_pos k4] at e
    obtain ⟨y, e1, e⟩ := bind_ok e
    obtain ⟨i2, -, e⟩ := bind_ok e
    cases e; exact ((at_x e1).cq nq_aw).mo (by rw [k4]; decide)
  rw [if_neg k4] at e
  by_cases k5 : k = 55
  · rw [if_pos k5] at e
    by_cases h1 : tK b n i = 2
    · rw [if_pos h1] at e
      by_cases h2 : toT (tC b n i) τ = true ∨ (trW K (tC b n i)).isSome = true
      · rw [if_pos h2] at e; cases e
      rw [if_neg h2] at e
      obtain ⟨i2, -, e⟩ := bind_ok e
      obtain ⟨i3, -, e⟩ := bind_ok e
      cases e; exact ⟨rfl, Nat.le_add_right _ _⟩
    · rw [if_neg h1] at e; cases e
  rw [if_neg k5] at e
  by_cases k6 : k = 58
  · rw [if_pos k6] at e
    obtain ⟨y, e1, e⟩ := bind_ok e
    have q := su_x e1
    by_cases h1 : 7 ≤ tK b n y.1 ∧ tK b n y.1 ≤ 12
    · rw [if_pos h1] at e
      obtain ⟨i2, -, e⟩ := bind_ok e
      obtain ⟨z, e2, e⟩ := bind_ok e
      obtain ⟨i3, -, e⟩ := bind_ok e
      have q2 := su_x e2
      have g1 : z.2.1.1 = σ.1.1 := q2.1.trans q.1
      have g2 : trS z.2 = trS σ := q2.2.trans q.2
      cases e; exact ⟨g1, Nat.le_trans (Nat.le_of_eq (congrArg (fun t : TrT => t.2.1) g2)) (Nat.le_add_right _ _)⟩
    · rw [if_neg h1] at e; cases e
  rw [if_neg k6] at e
  by_cases k7 : k = 17
  · rw [if_pos k7] at e
    cases e; exact (Sx.rf.c0 nq_mk).mo (by rw [k7]; decide)
  rw [if_neg k7] at e
  cases e; exact ⟨rfl, Nat.le_add_right _ _⟩
theorem tl_q {r : Nat × PS × Nat} {q : Nat} (e : tlM b n m τ k j aw lit x i o σ = .ok r) (hq : paK k ≤ q + hpK k) : Cq q σ r.2.1 := by
  unfold tlM at e
  by_cases k1 : k = 42
  · rw [if_pos k1] at e
    obtain ⟨i2, -, e⟩ := bind_ok e
    cases e
    by_cases h1 : (trS σ).2.2 13 x &&& 1 = 0
    · rw [if_pos h1]; exact (Sx.rf.c0 nq_wr).mo (by omega)
    · rw [if_neg h1]; exact (Sx.c0 (σ := σ) (σ1 := paP σ j 2 7) ⟨rfl, rfl⟩ nq_wr).mo (by omega)
  rw [if_neg k1] at e
  by_cases k2 : k = 49
  · rw [if_pos k2] at e
    have hq : 1 ≤ q := by rw [k2] at hq; exact hq
    obtain ⟨i2, -, e⟩ := bind_ok e
    obtain ⟨y, e1, e⟩ := bind_ok e
    obtain ⟨i3, -, e⟩ := bind_ok e
    have g := at_x e1
    by_cases h1 : y.2.2.2 = true
    · rw [if_pos h1] at e
      have b1 := nq_ab (Θ := trS y.2.1) (c := x) (l := Int32.ofNat y.2.2.1)
      have b2 := nq_mk (Θ := (abT (trS y.2.1) x (Int32.ofNat y.2.2.1)).1) (k := 0)
      have b3 := nq_ch (Θ := (mkT (abT (trS y.2.1) x (Int32.ofNat y.2.2.1)).1 0).1) (l := Int32.ofNat y.2.2.1) (c := (mkT (abT (trS y.2.1) x (Int32.ofNat y.2.2.1)).1 0).2) (d := (abT (trS y.2.1) x (Int32.ofNat y.2.2.1)).2)
      cases e
      exact (g.cq (q := 1) (by omega)).mo hq
    · rw [if_neg h1] at e
      cases e
      exact (g.cq nq_ab).mo (by omega)
  rw [if_neg k2] at e
  by_cases k3 : k = 50
  · rw [if_pos k3] at e
    have hq : 1 ≤ q := by rw [k3] at hq; exact hq
    obtain ⟨i2, -, e⟩ := bind_ok e
    obtain ⟨y, e1, e⟩ := bind_ok e
    obtain ⟨i3, -, e⟩ := bind_ok e
    cases e
    exact ((at_x e1).cq nq_wk).mo (by omega)
  rw [if_neg k3] at e
  by_cases k4 : k = 52
  · rw [if_pos k4] at e
    obtain ⟨i2, -, e⟩ := bind_ok e
    obtain ⟨y, e1, e⟩ := bind_ok e
    obtain ⟨i3, -, e⟩ := bind_ok e
    cases e
    exact ((co_x e1).c0 nq_su).mo (by omega)
  rw [if_neg k4] at e
  by_cases k5 : k = 53
  · rw [if_pos k5] at e
    have hq : 3 ≤ q + 1 := by rw [k5] at hq; exact hq
    obtain ⟨i2, -, e⟩ := bind_ok e
    cases e
    exact (Sx.rf.cq nq_ev).mo (by omega)
  rw [if_neg k5] at e
  obtain ⟨i2, -, e⟩ := bind_ok e
  cases e
  exact (Sx.rf.c0 nq_wr).mo (by omega)
theorem ch_q {r : Nat × PS × Nat} (e : chM b n lit x y i σ = .ok r) : Cq 0 σ r.2.1 := by
  unfold chM at e
  obtain ⟨i2, -, e⟩ := bind_ok e
  cases e
  exact Sx.rf.c0 nq_ch
theorem hp_pa (k : Int32) : hpK k ≤ paK k := by
  unfold hpK paK
  by_cases k1 : k = 53
  · rw [if_pos k1, if_pos k1]; decide
  · rw [if_neg k1]; exact Nat.zero_le _
/-- no more pauses in the tree than counted -/
theorem rp_pau : ∀ (g md : Nat) (K : List KE) (i : Nat) (σ : PS) (a1 a2 a3 a4 : Nat) (c1 c2 : Int32) (r : Nat × PS × Nat), md ≤ 3 → rp b n m τ g md K i σ a1 a2 a3 a4 c1 c2 = .ok r → ∀ R, (trS σ).2.1 + R ≤ σ.1.1 1 → (trS r.2.1).2.1 + R ≤ r.2.1.1.1 1 := by
  intro g
  induction g with
  | zero => intro md K i σ a1 a2 a3 a4 c1 c2 r _ e; unfold rp at e; cases e
  | succ g ih =>
    intro md K i σ a1 a2 a3 a4 c1 c2 r hm e R hR
    by_cases m2 : md = 2
    · subst m2
      rw [rp_bd] at e
      obtain ⟨u0, -, e⟩ := bind_ok e
      obtain ⟨i1, -, e⟩ := bind_ok e
      obtain ⟨u, eb, e⟩ := bind_ok e
      cases e
      show (trS u.2.1).2.1 + R ≤ u.2.1.1.1 1
      generalize tK b n i = k at eb
      generalize tC b n i = w at eb
      generalize npS σ = j at eb
      have q1 := pb_bg (m := m) (σ := σ) (k := k) (pl := tP b n i) (q := sqK K) (d := K.length) (wh := whK k w τ)
      generalize bgP m k (tP b n i) (sqK K) K.length (whK k w τ) σ = s0 at eb q1
      have hR0 : (trS s0).2.1 + (R + paK k) ≤ s0.1.1 1 := by rw [q1.1, q1.2]; omega
      unfold bdM at eb
      by_cases ko : opnK k = false
      · rw [if_pos ko] at eb
        exact (lf_q eb).al hR0
      rw [if_neg ko] at eb
      obtain ⟨h, eh, eb⟩ := bind_ok eb
      have hp := hp_pa k
      obtain ⟨Q, hQ⟩ : ∃ Q, Q + hpK k = paK k := ⟨paK k - hpK k, by omega⟩
      have hR1 : (trS h.2.1).2.1 + (R + Q) ≤ h.2.1.1.1 1 := (hd_q eh).al (by omega)
      have q2 := pb_rw (σ := h.2.1) (p := 40 * m + j) (q0 := none)
      have hR2 : (trS (rwP (40 * m + j) none h.2.1)).2.1 + (R + Q) ≤ (rwP (40 * m + j) none h.2.1).1.1 1 := by rw [q2.1, q2.2]; exact hR1
      by_cases k17 : k = 17
      · rw [if_pos k17] at eb
        obtain ⟨q, e1, eb⟩ := bind_ok eb
        cases eb
        have := ih 3 _ _ _ _ _ _ _ _ _ q (by decide) e1 (R + Q) hR2
        show (trS q.2.1).2.1 + R ≤ q.2.1.1.1 1
        omega
      rw [if_neg k17] at eb
      obtain ⟨q, e1, eb⟩ := bind_ok eb
      have hq := ih 0 _ _ _ _ _ _ _ _ _ q (by decide) e1 (R + Q) hR2
      by_cases k4 : k = 44 ∨ k = 58
      · rw [if_pos k4] at eb
        by_cases k46 : tK b n q.1 = 46
        · rw [if_pos k46] at eb
          obtain ⟨i2, -, eb⟩ := bind_ok eb
          obtain ⟨t, e2, eb⟩ := bind_ok eb
          have q3 := pb_rw (σ := q.2.1) (p := 40 * m + j) (q0 := some (h.2.1.1.1 4))
          have ht := ih 0 _ _ _ _ _ _ _ _ _ t (by decide) e2 (R + Q) (by rw [q3.1, q3.2]; exact hq)
          exact (ch_q eb).al (by omega)
        · rw [if_neg k46] at eb
          have c1 : Cq 0 q.2.1 (trP1 q.2.1 (mkT (trS q.2.1) 0).1) := Sx.rf.c0 nq_mk
          exact (ch_q eb).al (c1.al (by omega))
      rw [if_neg k4] at eb
      exact (tl_q eb (by omega)).al hq
    by_cases m0 : md = 0
    · subst m0
      unfold rp at e
      rw [if_pos rfl] at e
      obtain ⟨q, e1, e⟩ := bind_ok e
      have c1 : Cq 0 σ (trP1 σ (mkT (trS σ) 5).1) := Sx.rf.c0 nq_mk
      have hq := ih 2 _ _ _ _ _ _ _ _ _ q (by decide) e1 R (c1.al (by omega))
      exact ih 1 _ _ _ _ _ _ _ _ _ r (by decide) e R (by show (hgT _ _ _).2.1 + _ ≤ q.2.1.1.1 1; rw [hgT_n.2]; exact hq)
    by_cases m1 : md = 1
    · subst m1
      unfold rp at e
      rw [if_neg (by decide), if_pos rfl] at e
      by_cases h13 : tK b n i = 13
      · rw [if_pos h13] at e
        obtain ⟨j, -, e⟩ := bind_ok e
        obtain ⟨q, e1, e⟩ := bind_ok e
        have hq := ih 2 _ _ _ _ _ _ _ _ _ q (by decide) e1 R hR
        exact ih 1 _ _ _ _ _ _ _ _ _ r (by decide) e R (by show (hgT _ _ _).2.1 + _ ≤ q.2.1.1.1 1; rw [hgT_n.2]; exact hq)
      · rw [if_neg h13] at e; cases e; exact hR
    · have m3 : md = 3 := by omega
      subst m3
      unfold rp at e
      rw [if_neg m0, if_neg m1, if_neg m2] at e
      obtain ⟨q, e1, e⟩ := bind_ok e
      have hq := ih 0 _ _ _ _ _ _ _ _ _ q (by decide) e1 R hR
      have bn := br_q (σ := q.2.1) (j := a2) (a := a1) (x := q.2.2) (g := c1) (u := c2)
      by_cases h6 : tK b n q.1 = 6
      · rw [if_pos h6] at e
        by_cases h8 : a4 = 8
        · rw [if_pos h8] at e; cases e
        rw [if_neg h8] at e
        obtain ⟨j, -, e⟩ := bind_ok e
        have q3 := pb_rw (σ := brP q.2.1 a2 a1 q.2.2 c1 c2) (p := 40 * m + a2) (q0 := some a3)
        exact ih 3 _ _ _ _ _ _ _ _ _ r (by decide) e R (by rw [q3.1, q3.2, bn.2, bn.1]; exact hq)
      · rw [if_neg h6] at e
        obtain ⟨j, -, e⟩ := bind_ok e
        cases e
        show (trS (brP q.2.1 a2 a1 q.2.2 c1 c2)).2.1 + R ≤ (brP q.2.1 a2 a1 q.2.2 c1 c2).1.1 1
        rw [bn.2, bn.1]; exact hq
end
end
section
/-! a text read to its end: what is known of it; the reference's compile to its end -/
def roI (L : Nat) : List (Nat × Nat) := (1, 0) :: (2, 0) :: (List.range L).map (fun s => (3, s))
theorem NT_gd {L k : Nat} (h : k < L + 2) : (NT L).getD k (0, 0) = (2 * k, 2 * k) := by
  unfold NT
  rw [List.getD_eq_getElem?_getD, List.getElem?_map, List.getElem?_range h]
  rfl
theorem roI_len {L : Nat} : (roI L).length = L + 2 := by unfold roI; simp
theorem roI_gd {L s : Nat} (h : s < L) : (roI L).getD (s + 2) (0, 0) = (3, s) := by
  show ((List.range L).map (fun s => (3, s))).getD s (0, 0) = (3, s)
  rw [List.getD_eq_getElem?_getD, List.getElem?_map, List.getElem?_range h]
  rfl
theorem roI_n0 {L k : Nat} (h : k < L + 2) : ((roI L).getD k (0, 0)).1 ≠ 0 := by
  match k, h with
  | 0, _ => exact (by decide : (1 : Nat) ≠ 0)
  | 1, _ => exact (by decide : (2 : Nat) ≠ 0)
  | s + 2, h => rw [roI_gd (by omega)]; exact (by decide : (3 : Nat) ≠ 0)
section
variable {b : Nat → Int32} {n s m i : Nat} {τ : Td} {A : Nat → Nat → Int32} {B : Nat → Int64} {Zt : Nat → Nat → Int32} {σ : PS} {γ : Gh} {M : Mem} {h root g0 : Nat} {Q : Option Value → Mem → Prop}
theorem gi_0 : giT τ (σI A B (cl0 Zt τ)) (fun _ => [], [], roI τ.1.length) := by
  refine ⟨⟨⟨Nat.le_refl 1, (by decide : 1 ≤ 640)⟩, fun x h1 h2 => ?_, fun c h1 h2 => ?_⟩, ?_, fun f hf => absurd hf (Nat.not_lt_zero _)⟩
  · have h2 : x < 1 := h2
    omega
  · have h2 : c < 1 := h2
    omega
  · refine ⟨⟨⟨roI_len.trans NT_len.symm, fun n hn => ?_⟩, ?_, fun s hs => ?_, fun s z => absurd rfl z⟩, rfl, fun k hk => absurd hk (Nat.not_lt_zero _), fun v sv bv _ _ _ k hk => absurd hk (Nat.not_lt_zero _)⟩
    · have hn : n < (NT τ.1.length).length := hn
      rw [NT_len] at hn
      exact ⟨fun z => absurd z (roI_n0 hn), fun _ => NT_gd hn⟩
    · show 1 ≤ (NT τ.1.length).length
      rw [NT_len]; omega
    · unfold rlC sgT
      rw [if_pos hs]
      refine ⟨by omega, ?_, ?_⟩
      · show (4 + 2 * s) / 2 < (roI τ.1.length).length
        rw [roI_len]; omega
      · rw [show (4 + 2 * s) / 2 = s + 2 by omega]
        exact roI_gd hs
/-- what is known of a text that was read to its end -/
def RdE (τ : Td) (m : Nat) (σ : PS) (root : Nat) (γ : Gh) (g : Nat) : Prop := giT τ σ γ ∧ (ifS σ).length = σ.1.1 2 ∧ TTs τ m σ γ 1 g 0 [] 0 0 0 0 0 false 0 (npS σ) 1 (σ.1.1 4) 0 (trS σ).2.1 [(0, root)] ∧ ((trS σ).1 ≤ 400 ∧ (trS σ).2.1 ≤ 24 ∧ npS σ ≤ 40 ∧ σ.1.1 4 ≤ npS σ) ∧ (1 ≤ root ∧ root < (trS σ).1) ∧ ∀ k, k < npS σ → SuI σ.1.2.1 σ.2.2.1 m 64 65 k ∧ SuI σ.1.2.1 σ.2.2.1 m 66 67 k
theorem rd_all {r : Nat × PS × Nat} (hB : By b) (hS : Sto b n s) (h4 : m < 4) (hv : HvT τ) (hi : i ≤ s) (hk : tK b n i ≠ 0) (e : rdQ b n m τ i (σI A B (cl0 Zt τ)) = .ok r) (hX : r.2.1.2.2.1.length < 900) : ∃ γ g, RdE τ m r.2.1 r.2.2 γ g := by
  unfold rdQ at e
  obtain ⟨q, e1, e2⟩ := bind_ok e
  have er : q = r := by
    by_cases z : tK b n q.1 = 1
    · rw [if_pos z] at e2; cases e2; rfl
    · rw [if_neg z] at e2; cases e2
  subst er
  have ok0 := rp_ok (τ := τ) (m := m) hS 6000 0 [] i (σI A B (cl0 Zt τ)) 0 0 0 0 0 0 (by decide) hi hk σI_ok
  rw [e1] at ok0
  obtain ⟨-, -, -, ⟨-, pk, rw4, -⟩, -⟩ := ok0
  have cn := rp_cnt 6000 0 [] i (σI A B (cl0 Zt τ)) 0 0 0 0 0 0 q (by decide) e1 0 (by rw [if_pos (Or.inl rfl)]; exact (by decide : 1 + (0 + 1) ≤ 2 * 0 + 11 * 0 + 1 + 4))
  have pu := rp_pau 6000 0 [] i (σI A B (cl0 Zt τ)) 0 0 0 0 0 0 q (by decide) e1 0 (Nat.le_refl 0)
  have n6 : (trS q.2.1).1 ≤ 400 := by
    unfold alR at cn
    have a1 := pk.1
    have a2 := pk.2.1
    have a3 : q.2.1.1.1 4 ≤ npS q.2.1 := rw4
    omega
  have p24 : (trS q.2.1).2.1 ≤ 24 := by
    have a2 := pk.2.1
    have pu : (trS q.2.1).2.1 + 0 ≤ q.2.1.1.1 1 := pu
    have a2 : q.2.1.1.1 1 ≤ 24 := a2
    omega
  obtain ⟨γ', g, g1, g2, g3, g4, g5, g6⟩ := rp_tree hB hS h4 hv 6000 [] i _ q ⟨hi, hk, σI_ok⟩ e1 _ gi_0 rfl (by omega) hX (by
    show up2 (up2 (up2 A 73 0 (-1)) 74 0 (-1)) 75 0 (-1) 73 0 = -1
    rw [up2_row (by decide), up2_row (by decide), up2_eq])
  have gx := ((rp_X (τ := τ) hS h4 hv 6000).1 [] i _ q ⟨hi, hk, σI_ok⟩ e1 hX).2 hX
  exact ⟨γ', g, g1, g3, g6, ⟨n6, p24, pk.1, rw4⟩, ⟨g5.1, g5.2.1⟩, fun k hk => gx.2.2 k (Nat.zero_le _) hk⟩
theorem RdE.cle (hE : RdE τ m σ root γ g0) : ClE (woS τ m σ γ) ((trS σ).2.2 12) (trS σ).1 := fun x x1 x2 => by
  have q := hE.1.1.2.1 x x1 x2
  exact ⟨q.2.2.2.1, q.2.2.2.2, q.2.2.1⟩
abbrev RGe (m : Nat) (M M' : Mem) : Prop := RG m [6, 7] csC [] M M'
theorem R_188 (hR : RPs b n s m τ [] σ M i 0) (e79 : mAI M 79 m = 0) (hE : RdE τ m σ root γ g0) (H0 : (∀ j, j < npS σ → σ.2.1.1 j 2 = 0) → ∀ pn S G mk nu co sl km g y M2 M3, BuR (woS τ m σ γ) ((trS σ).2.2 12) m σ.2.2.2.length (ifS σ).length σ.1.2.1 pn S G mk nu co sl km g y root (trS σ).2.1 (npS σ) M2 → RGd m M M2 → M3 = wI M2 29 18 (mI M 29 18 + 1) → Q (some (.int (mI M 29 18))) M3) (H1 : ∀ j pl M3, j < npS σ → (∀ q, q < j → σ.2.1.1 q 2 = 0) → σ.2.1.1 j 2 ≠ 0 → σ.2.1.1 j 0 = Int32.ofNat pl → TXr M3 (σ.2.1.1 j 2) pl → RGe m M M3 → Q (some (.int (-10 - Int32.ofNat pl))) M3) : DX11_compile_188 (h + 15) 29 0 M Q := by
  obtain ⟨⟨F, -, i19, h4, -⟩, ⟨n8, sn, is⟩, -, i6, -, ⟨hX, -, hA, -, ⟨e54, -⟩, -⟩, ⟨xl, -⟩⟩ := id hR
  have hC := hE.cle
  obtain ⟨g1, g3, tt, ⟨n4, p24, np40, r4⟩, hx, su⟩ := id hE
  have hB0 : BuM m σ.1.2.1 (mAI M 90) (0, mAI M) M := ⟨F, h4, i19, e79, fun _ _ _ => rfl, hA, rfl⟩
  unfold DX11_compile_188
  refine ⟨ok29 F, fun z => absurd i6 z, fun _ => ?_⟩
  refine B_build (h := h + 8) (W := woS τ m σ γ) rfl hC tt hx np40 (by omega) (by unfold csT; omega) e54 hB0 rfl (fun pn' S' G' mk nu co sl km g y M2 bu gd _ => ⟨rfl, ?_⟩)
  have F2 : Fix M2 := bu.1.1.1
  have i62 : mI M2 29 6 = 0 := by rw [gd.fI (by decide)]; exact i6
  have i18 : mI M2 29 18 = mI M 29 18 := gd.fI (by decide)
  have pr : ∀ i, i < npS σ → PrI (woS τ m σ γ) m σ.2.2.2.length (ifS σ).length 1 (trS σ).1 (npS σ) i := fun i hi => TT.prt g0 0 _ _ _ _ _ _ _ _ _ _ _ _ _ _ (by decide) tt (Nat.le_refl _) (by omega) i (Nat.zero_le _) hi
  have LP : LkP (woS τ m σ γ) ((trS σ).2.2 12) m σ.2.2.2.length (ifS σ).length 1 (trS σ).1 σ.1.2.1 σ.2.2.1 (npS σ) (trS σ).1 M2 := by
    refine ⟨⟨F2, h4, ?_, by omega, bu.1.1.2.2.2.2.2.1, su, np40⟩, rfl, rfl, rfl, pr, hC, Nat.le_refl _, by omega, i62, ?_⟩
    · unfold XR
      rw [gd.fA (c := 48) (by decide), gd.fA (c := 49) (by decide), gd.fA (c := 51) (by decide), gd.fJ (c := 50) (by decide)]
      exact hX
    · rw [gd.fA (c := 54) (by decide)]; exact e54
  refine L_look (h := h + 11) LP bu hx (fun z _ => ⟨rfl, ?_⟩) (fun j pl hj z nz ez _ => ⟨rfl, ?_⟩)
  · unfold DX11_compile_205
    refine ⟨ok29 F2, fun _ M3 e3 => ?_, fun w => absurd (by rw [i62]; exact Int32.le_rfl) w⟩
    rw [i18] at e3
    have q := H0 z pn' S' G' mk nu co sl km g y M2 M3 bu gd e3
    have e18 : mI M3 29 18 - 1 = mI M 29 18 := by
      have : mI M3 29 18 = mI M 29 18 + 1 := by rw [e3]; exact mI_own _ _ _ _
      rw [this, Int32.add_sub_cancel]
    rw [e18]; exact q
  · have c78 : σ.2.1.1 j 2 = 0 ∨ σ.2.1.1 j 2 = 7 ∨ σ.2.1.1 j 2 = 8 := by
      obtain ⟨k, K, p, pb, xi, ys, ff, i2, -, -, lt, -⟩ := pr j hj
      have lt : σ.2.1.1 j 2 = _ := lt
      rw [lt]
      split
      · split
        · exact Or.inl rfl
        · exact Or.inr (Or.inl rfl)
      · split
        · split
          · exact Or.inr (Or.inr rfl)
          · exact Or.inl rfl
        · exact Or.inl rfl
    have pos : 0 < σ.2.1.1 j 2 := by
      rcases c78 with w | w | w
      · exact absurd w nz
      · rw [w]; decide
      · rw [w]; decide
    show DX11_compile_205 (h + 15) 29 (wI (wI M2 29 6 (σ.2.1.1 j 2)) 29 7 (Int32.ofNat pl)) Q
    obtain ⟨tx, -⟩ := TXf6 (m := m) (p := pl) (c := σ.2.1.1 j 2) F2 pos
    have g3 : RGe m M2 (wI (wI M2 29 6 (σ.2.1.1 j 2)) 29 7 (Int32.ofNat pl)) := (RG.i (by decide)).tr (RG.i (by decide))
    have g2 : RGe m M M2 := RG.more gd (fun _ z => absurd z List.not_mem_nil) (fun _ z => z) (fun _ z => z)
    have q := H1 j pl _ hj z nz ez tx (g2.tr g3)
    obtain ⟨M3, e3⟩ : ∃ M3, M3 = wI (wI M2 29 6 (σ.2.1.1 j 2)) 29 7 (Int32.ofNat pl) := ⟨_, rfl⟩
    rw [← e3] at tx q ⊢
    unfold DX11_compile_205
    refine ⟨ok29 tx.1, fun w => ?_, fun _ => ?_⟩
    · rw [tx.2.1] at w
      exact absurd pos (Int32.not_lt.mpr w)
    · rw [tx.2.2.2]; exact q
end
end
section
/-! the class's tree is finite: its nodes as a list -/
def FtN (G : Nat → List Nat) : Nat → Nat → Prop
  | 0, _ => False
  | g + 1, x => ∀ c ∈ G x, FtN G g c
/-- the nodes at and below x -/
def noL (G : Nat → List Nat) : Nat → Nat → List Nat
  | 0, _ => []
  | g + 1, x => x :: (G x).flatMap (noL G g)
theorem le_nat {P : Nat → Prop} (h : ∃ n, P n) : ∃ n, P n ∧ ∀ k, k < n → ¬ P k := by
  obtain ⟨n, hn⟩ := h
  have main : ∀ d n, n ≤ d → P n → ∃ n, P n ∧ ∀ k, k < n → ¬ P k := by
    intro d
    induction d with
    | zero =>
      intro n hd hn
      have e : n = 0 := by omega
      exact ⟨n, hn, fun k hk => by omega⟩
    | succ d ih =>
      intro n hd hn
      by_cases z : ∃ k, k < n ∧ P k
      · obtain ⟨k, k1, k2⟩ := z
        exact ih k (by omega) k2
      · exact ⟨n, hn, fun k hk hp => z ⟨k, hk, hp⟩⟩
  exact main n n (Nat.le_refl _) hn
section
variable {G : Nat → List Nat}
def paF (G : Nat → List Nat) (z x : Nat) : Prop := z ∈ G x ∧ ∃ g, FtN G g x
theorem ft_rho : ∃ ρ : Nat → Nat, ∀ z x, paF G z x → ρ z < ρ x := by
  have h : ∀ x, ∃ r, (∃ g, FtN G g x) → FtN G r x ∧ ∀ k, k < r → ¬ FtN G k x := fun x => by
    by_cases z : ∃ g, FtN G g x
    · obtain ⟨r, r1, r2⟩ := le_nat z
      exact ⟨r, fun _ => ⟨r1, r2⟩⟩
    · exact ⟨0, fun y => absurd y z⟩
  obtain ⟨ρ, hr⟩ := Classical.axiomOfChoice h
  refine ⟨ρ, fun z x ⟨hz, hx⟩ => ?_⟩
  have h1 := (hr x hx).1
  cases e : ρ x with
  | zero => rw [e] at h1; exact False.elim h1
  | succ g =>
    rw [e] at h1
    have h2 := h1 z hz
    have h3 := (hr z ⟨g, h2⟩).2
    have : ¬ g < ρ z := fun w => h3 g w h2
    omega
theorem FtN.mo : ∀ (g g' x : Nat), g ≤ g' → FtN G g x → FtN G g' x
  | 0, _, _, _, h => False.elim h
  | g + 1, 0, _, h, _ => absurd h (by omega)
  | g + 1, g' + 1, x, h, k => fun c hc => FtN.mo g g' c (by omega) (k c hc)
theorem noL_in : ∀ (g x z : Nat), FtN G g x → z ∈ noL G g x → inS (paF G) z x
  | 0, _, _, h, _ => False.elim h
  | g + 1, x, z, h, k => by
    rcases List.mem_cons.mp k with w | w
    · rw [w]; exact inS.rf
    · obtain ⟨c, c1, c2⟩ := List.mem_flatMap.mp w
      exact (noL_in g c z (h c c1) c2).up ⟨c1, g + 1, h⟩
theorem noL_nd (hf : ∀ z x x', z ∈ G x → z ∈ G x' → x = x') (hn : ∀ x, (G x).Nodup) : ∀ (g x : Nat), FtN G g x → (noL G g x).Nodup := by
  obtain ⟨ρ, hr⟩ := ft_rho (G := G)
  have hp : ∀ z x x', paF G z x → paF G z x' → x = x' := fun z x x' h h' => hf z x x' h.1 h'.1
  intro g
  induction g with
  | zero => intro x h; exact False.elim h
  | succ g ih =>
    intro x h
    have fl : ∀ l : List Nat, l.Nodup → (∀ c ∈ l, c ∈ G x) → (l.flatMap (noL G g)).Nodup := by
      intro l
      induction l with
      | nil => intro _ _; exact List.nodup_nil
      | cons c cs ih2 =>
        intro hl hc
        rw [List.flatMap_cons]
        have c1 := hc c List.mem_cons_self
        refine List.nodup_append.mpr ⟨ih c (h c c1), ih2 (List.nodup_cons.mp hl).2 (fun d hd => hc d (List.mem_cons_of_mem _ hd)), fun a ha b hb e => ?_⟩
        subst e
        obtain ⟨d, d1, d2⟩ := List.mem_flatMap.mp hb
        have d3 := hc d (List.mem_cons_of_mem _ d1)
        have ne : c ≠ d := fun w => (List.nodup_cons.mp hl).1 (by rw [w]; exact d1)
        exact sub_dj hp hr (z := a) (y := x) (c1 := c) (c2 := d) ⟨c1, g + 1, h⟩ ⟨d3, g + 1, h⟩ ne (noL_in g c a (h c c1) ha) (noL_in g d a (h d d3) d2)
    refine List.nodup_cons.mpr ⟨fun w => ?_, fl (G x) (hn x) (fun _ z => z)⟩
    obtain ⟨c, c1, c2⟩ := List.mem_flatMap.mp w
    exact sub_no hr (y := x) (c := c) ⟨c1, g + 1, h⟩ (noL_in g c x (h c c1) c2)
theorem noL_bd {N : Nat} (hb : ∀ x, 1 ≤ x → x < N → ∀ c ∈ G x, 1 ≤ c ∧ c < N) : ∀ (g x : Nat), 1 ≤ x ∧ x < N → ∀ z ∈ noL G g x, 1 ≤ z ∧ z < N
  | 0, _, _, _, k => absurd k List.not_mem_nil
  | g + 1, x, h, z, k => by
    rcases List.mem_cons.mp k with w | w
    · rw [w]; exact h
    · obtain ⟨c, c1, c2⟩ := List.mem_flatMap.mp w
      exact noL_bd hb g c (hb x h.1 h.2 c c1) z c2
end
section
variable {W : Wo} {m zn fn hi : Nat} {u : Vwr}
theorem rl_mem2 {R : Nat → Nat → Nat → Nat → Prop} : ∀ (ds cs : List Nat) (p p' : Nat), RpLs R ds cs p p' → ∀ c ∈ cs, ∃ d q q', R d c q q'
  | d :: ds, c :: cs, p, p', ⟨pm, k1, k2⟩, e, h => by
    rcases List.mem_cons.mp h with w | w
    · rw [w]; exact ⟨d, p, pm, k1⟩
    · exact rl_mem2 ds cs pm p' k2 e w
  | [], [], _, _, _, _, h => absurd h List.not_mem_nil
  | [], _ :: _, _, _, k, _, _ => False.elim k
  | _ :: _, [], _, _, k, _, _ => False.elim k
theorem RpN.ft : ∀ (g : Nat) (cx : List (Option Nat)) (y x p p' : Nat), RpN W m zn fn u hi g cx y x p p' → FtN (chV W) g x
  | 0, _, _, _, _, _, k => by unfold RpN at k; exact k.elim
  | g + 1, cx, y, x, p, p', k => by
    unfold RpN at k
    obtain ⟨-, k⟩ := k
    intro c hc
    have hc : c ∈ (woV W x).2.2.2 := hc
    rcases k with ⟨a1, c', b1, b2⟩ | ⟨a1, b1, b2, b3⟩ | ⟨a1, a2, -⟩ | ⟨a1, -, a2, -⟩ | ⟨a1, a2, -⟩ | ⟨a1, a2, -⟩ | ⟨a1, b1, c1, c2, d1, pm, b2, b3, b4⟩ | ⟨a1, b1, c', d, b2, b3, b4⟩ | ⟨a1, b1, b5, c', d, b2, b3, b4⟩ | ⟨a1, b1, b2, b3⟩ | ⟨a1, b1, c', d, t, b2, b3, b4, b5⟩
    · rw [b1] at hc
      rw [List.mem_singleton.mp hc]
      exact RpN.ft g _ _ _ _ _ b2
    · obtain ⟨d, q, q', w⟩ := rl_mem2 _ _ _ _ b3 c hc
      exact RpN.ft g _ _ _ _ _ w
    · rw [a2] at hc; exact absurd hc List.not_mem_nil
    · rw [a2] at hc; exact absurd hc List.not_mem_nil
    · rw [a2] at hc; exact absurd hc List.not_mem_nil
    · rw [a2] at hc; exact absurd hc List.not_mem_nil
    · rw [b2] at hc
      have f1 := RpN.ft g _ _ _ _ _ b3
      rcases List.mem_cons.mp hc with w | w
      · rw [w]; exact f1
      · rw [List.mem_singleton.mp w]
        rcases b4 with ⟨-, -, e, -⟩ | ⟨d2, -, b5⟩
        · cases g with
          | zero => exact False.elim f1
          | succ g =>
            intro z hz
            have hz : z ∈ (woV W c2).2.2.2 := hz
            rw [e] at hz
            exact absurd hz List.not_mem_nil
        · exact RpN.ft g _ _ _ _ _ b5
    · rw [b2] at hc
      rw [List.mem_singleton.mp hc]
      exact RpN.ft g _ _ _ _ _ b4
    · rw [b2] at hc
      rw [List.mem_singleton.mp hc]
      exact RpN.ft g _ _ _ _ _ b4
    · obtain ⟨d, q, q', w⟩ := rl_mem2 _ _ _ _ b3 c hc
      exact RpN.ft g _ _ _ _ _ w
    · rw [b2] at hc
      rw [List.mem_singleton.mp hc]
      exact RpN.ft g _ _ _ _ _ b5
end
end
section
/-! the weaver: nets, the roles of nets, the masks held -/
abbrev Wg : Type := Nt × List (Nat × Nat) × List Int32
/-- a valuation that goes with the and-nets -/
def cnR (N : Nt) (Ro : List (Nat × Nat)) (w : Nat → Nat) : Prop := w 0 = 0 ∧ (∀ n, w n ≤ 2) ∧ ∀ n, n < N.length → (Ro.getD n (0, 0)).1 = 0 → w n = v3A (lvN w (N.getD n (0, 0)).1) (lvN w (N.getD n (0, 0)).2)
/-- HV tells whether one of some pauses is set -/
def hdR (Ro : List (Nat × Nat)) (H : List Int32) (w : Nat → Nat) (HV : Int32 → Nat) : Prop := HV 0 = 0 ∧ ∀ n i, n < Ro.length → Ro.getD n (0, 0) = (6, i) → w n = HV (H.getD i 0)
def gW (Ψ : Wg) (w : Nat → Nat) (HV : Int32 → Nat) : Prop := cnR Ψ.1 Ψ.2.1 w ∧ hdR Ψ.2.1 Ψ.2.2 w HV
def RoW (Ψ : Wg) : Prop := Ψ.2.1.length = Ψ.1.length ∧ (∀ n, n < Ψ.1.length → (Ψ.2.1.getD n (0, 0)).1 = 0 → (Ψ.1.getD n (0, 0)).1 < 2 * n ∧ (Ψ.1.getD n (0, 0)).2 < 2 * n) ∧ ∀ n i, n < Ψ.1.length → Ψ.2.1.getD n (0, 0) = (6, i) → i < Ψ.2.2.length
/-- an and, or held pauses -/
def r06 (Ψ : Wg) (n : Nat) : Prop := (Ψ.2.1.getD n (0, 0)).1 = 0 ∨ (Ψ.2.1.getD n (0, 0)).1 = 6
/-- nets are only added, those of C are closed; new ones are ands or held pauses, or of C -/
def Gr (C : Nat → Prop) (Ψ Ψ' : Wg) : Prop := Ψ.1.length ≤ Ψ'.1.length ∧ (∀ n, n < Ψ.1.length → ¬ C n → Ψ'.1.getD n (0, 0) = Ψ.1.getD n (0, 0)) ∧ (∀ n, n < Ψ.1.length → Ψ'.2.1.getD n (0, 0) = Ψ.2.1.getD n (0, 0)) ∧ (∃ t, Ψ'.2.2 = Ψ.2.2 ++ t) ∧ ∀ n, Ψ.1.length ≤ n → n < Ψ'.1.length → ¬ C n → r06 Ψ' n
def nwN (Ψ : Wg) (n : Nat) : Prop := Ψ.1.length ≤ n
def lV (w : Nat → Nat) (v : Int32) : Nat := lvN w v.toNatClampNeg
def okI (Ψ : Wg) (v : Int32) : Prop := ∃ l, v = Int32.ofNat l ∧ l < 2 * Ψ.1.length
section
variable {Ψ Ψ1 Ψ2 : Wg} {C C1 : Nat → Prop} {w : Nat → Nat} {HV : Int32 → Nat} {N : Nt} {Ro : List (Nat × Nat)} {a c l : Nat} {v : Int32}
theorem Gr.rf : Gr C Ψ Ψ := ⟨Nat.le_refl _, fun _ _ _ => rfl, fun _ _ => rfl, ⟨[], (List.append_nil _).symm⟩, fun n z1 z2 => absurd z2 (Nat.not_lt.mpr z1)⟩
theorem Gr.tr (h : Gr C Ψ Ψ1) (k : Gr C1 Ψ1 Ψ2) (hC : ∀ n, n < Ψ.1.length ∨ Ψ1.1.length ≤ n → C1 n → C n) : Gr C Ψ Ψ2 := by
  obtain ⟨h1, h2, h3, ⟨t, h4⟩, h5⟩ := h
  obtain ⟨k1, k2, k3, ⟨u, k4⟩, k5⟩ := k
  refine ⟨by omega, fun n hn hc => (k2 n (by omega) (fun z => hc (hC n (Or.inl hn) z))).trans (h2 n hn hc), fun n hn => (k3 n (by omega)).trans (h3 n hn), ⟨t ++ u, by rw [k4, h4, List.append_assoc]⟩, fun n n1 n2 hc => ?_⟩
  by_cases z : n < Ψ1.1.length
  · have q := h5 n n1 z hc
    unfold r06 at q ⊢
    rw [k3 n z]
    exact q
  · exact k5 n (by omega) n2 (fun y => hc (hC n (Or.inr (by omega)) y))
theorem Gr.more (h : Gr C Ψ Ψ1) (hC : ∀ n, n < Ψ.1.length ∨ Ψ.1.length ≤ n → C n → C1 n) : Gr C1 Ψ Ψ1 := ⟨h.1, fun n hn hc => h.2.1 n hn (fun z => hc (hC n (Or.inl hn) z)), h.2.2.1, h.2.2.2.1, fun n n1 n2 hc => h.2.2.2.2 n n1 n2 (fun z => hc (hC n (Or.inr n1) z))⟩
theorem okI.gr (h : okI Ψ v) (k : Gr C Ψ Ψ1) : okI Ψ1 v := by
  obtain ⟨l, h1, h2⟩ := h
  exact ⟨l, h1, by have := k.1; omega⟩
/-- what goes with the later goes with the earlier -/
theorem gW.bk (g : gW Ψ1 w HV) (k : Gr C Ψ Ψ1) (hR : RoW Ψ) (hR1 : RoW Ψ1) (hC : ∀ n, n < Ψ.1.length → C n → (Ψ.2.1.getD n (0, 0)).1 ≠ 0) : gW Ψ w HV := by
  obtain ⟨⟨g1, g2, g3⟩, g4, g5⟩ := g
  obtain ⟨k1, k2, k3, ⟨t, k4⟩, -⟩ := k
  refine ⟨⟨g1, g2, fun n hn r0 => ?_⟩, g4, fun n i hn ri => ?_⟩
  · have q := g3 n (by omega) (by rw [k3 n hn]; exact r0)
    rw [k2 n hn (fun z => hC n hn z r0)] at q
    exact q
  · rw [hR.1] at hn
    have q := g5 n i (by rw [hR1.1]; omega) (by rw [k3 n hn]; exact ri)
    rw [k4, gdA (hR.2.2 n i hn ri)] at q
    exact q
theorem lR_0 (h : cnR N Ro w) : lvN w 0 = 0 := by
  show (if 0 % 2 = 0 then w (0 / 2) else _) = 0
  rw [if_pos (by decide)]; exact h.1
theorem lR_1 (h : cnR N Ro w) : lvN w 1 = 1 := by
  show (if 1 % 2 = 0 then w (1 / 2) else v3N (w (1 / 2))) = 1
  rw [if_neg (by decide)]
  have e : w (1 / 2) = 0 := h.1
  rw [e]; rfl
theorem lV_of (h : l < 2147483648) : lV w (Int32.ofNat l) = lvN w l := by unfold lV; rw [lt32 h]
theorem lV_le (h : cnR N Ro w) : lV w v ≤ 2 := lv_le h.2.1
/-- roles behind an and -/
def roA (N : Nt) (Ro : List (Nat × Nat)) (a c : Nat) : List (Nat × Nat) := if (anL N a c).1.length = N.length then Ro else Ro ++ [(0, 0)]
theorem an_cs : (anL N a c).1 = N ∨ ((anL N a c).1 = N ++ [(a, c)] ∧ (anL N a c).2 = 2 * N.length ∧ roA N Ro a c = Ro ++ [(0, 0)]) := by
  unfold roA anL
  by_cases e1 : a = 0 ∨ c = 0
  · rw [if_pos e1]; exact Or.inl rfl
  rw [if_neg e1]
  by_cases e2 : a = 1 ∨ a = c
  · rw [if_pos e2]; exact Or.inl rfl
  rw [if_neg e2]
  by_cases e3 : c = 1
  · rw [if_pos e3]; exact Or.inl rfl
  rw [if_neg e3]
  refine Or.inr ⟨rfl, rfl, ?_⟩
  rw [if_neg (by show ¬ (N ++ [(a, c)]).length = N.length; rw [List.length_append]; show ¬ N.length + 1 = N.length; omega)]
theorem lR_an (hr : Ro.length = N.length) (h : cnR (anL N a c).1 (roA N Ro a c) w) : lvN w (anL N a c).2 = v3A (lvN w a) (lvN w c) := by
  have l0 := lR_0 h
  have l1 := lR_1 h
  have l2 := h.2.1
  by_cases e1 : a = 0 ∨ c = 0
  · unfold anL
    rw [if_pos e1]
    rcases e1 with e | e
    · rw [e, l0, v3A_0.1]
    · rw [e, l0, v3A_0.2]
  by_cases e2 : a = 1 ∨ a = c
  · unfold anL
    rw [if_neg e1, if_pos e2]
    rcases e2 with e | e
    · rw [e, l1, (v3A_1 (lv_le l2)).1]
    · rw [e, v3A_s (lv_le l2)]
  by_cases e3 : c = 1
  · unfold anL
    rw [if_neg e1, if_neg e2, if_pos e3]
    rw [e3, l1, (v3A_1 (lv_le l2)).2]
  have e : anL N a c = (N ++ [(a, c)], 2 * N.length) := by unfold anL; rw [if_neg e1, if_neg e2, if_neg e3]
  have er : roA N Ro a c = Ro ++ [(0, 0)] := by
    unfold roA
    rw [e, if_neg (by show ¬ (N ++ [(a, c)]).length = N.length; rw [List.length_append]; show ¬ N.length + 1 = N.length; omega)]
  rw [er] at h
  rw [e] at h ⊢
  have q := h.2.2 N.length (by show N.length < (N ++ [(a, c)]).length; rw [List.length_append]; exact Nat.lt_succ_self _)
  have e5 : (N ++ [(a, c)]).getD N.length (0, 0) = (a, c) := gdB
  have e6 : (Ro ++ [(0, 0)]).getD N.length (0, 0) = (0, 0) := by rw [← hr]; exact gdB
  rw [e6] at q
  have q := q rfl
  have q : w N.length = v3A (lvN w ((N ++ [(a, c)]).getD N.length (0, 0)).1) (lvN w ((N ++ [(a, c)]).getD N.length (0, 0)).2) := q
  rw [e5] at q
  show lvN w (2 * N.length) = _
  rw [lv_2]
  exact q
theorem RoW.an {H : List Int32} (h : RoW (N, Ro, H)) (ha : a < 2 * N.length) (hc : c < 2 * N.length) : RoW ((anL N a c).1, roA N Ro a c, H) ∧ Gr noN (N, Ro, H) ((anL N a c).1, roA N Ro a c, H) ∧ (anL N a c).1.length ≤ N.length + 1 := by
  obtain ⟨h1, h2, h3⟩ := id h
  have h1 : Ro.length = N.length := h1
  rcases an_cs (N := N) (Ro := Ro) (a := a) (c := c) with e | ⟨e, -, er⟩
  · have er : roA N Ro a c = Ro := by unfold roA; rw [if_pos (by rw [e])]
    rw [e, er]
    exact ⟨h, Gr.rf, Nat.le_succ _⟩
  · rw [e, er]
    have ln : (N ++ [(a, c)]).length = N.length + 1 := by rw [List.length_append]; rfl
    refine ⟨⟨by rw [List.length_append, h1, ln]; rfl, fun n hn r0 => ?_, fun n i hn ri => ?_⟩, ⟨by show N.length ≤ (N ++ [(a, c)]).length; omega, fun n hn _ => gdA hn, fun n hn => gdA (by rw [h1]; exact hn), ⟨[], (List.append_nil _).symm⟩, fun n n1 n2 _ => Or.inl ?_⟩, by omega⟩
    · have hn : n < (N ++ [(a, c)]).length := hn
      rw [ln] at hn
      by_cases z : n = N.length
      · rw [z]
        show ((N ++ [(a, c)]).getD N.length (0, 0)).1 < _ ∧ _
        rw [gdB]
        exact ⟨ha, hc⟩
      · have r0 : ((Ro ++ [(0, 0)]).getD n (0, 0)).1 = 0 := r0
        rw [gdA (by omega)] at r0
        show ((N ++ [(a, c)]).getD n (0, 0)).1 < _ ∧ _
        rw [gdA (by omega)]
        exact h2 n (by show n < N.length; omega) r0
    · have hn : n < (N ++ [(a, c)]).length := hn
      rw [ln] at hn
      have ri : (Ro ++ [(0, 0)]).getD n (0, 0) = (6, i) := ri
      by_cases z : n = N.length
      · rw [z, ← h1, gdB] at ri
        exact absurd (show (0 : Nat) = 6 from congrArg Prod.fst ri) (by decide)
      · rw [gdA (by omega)] at ri
        exact h3 n i (by show n < N.length; omega) ri
    · have n1 : N.length ≤ n := n1
      have n2 : n < (N ++ [(a, c)]).length := n2
      show ((Ro ++ [(0, 0)]).getD n (0, 0)).1 = 0
      rw [show n = Ro.length by omega, gdB]
theorem RoW.fre {H H' : List Int32} {k x : Nat} (h : RoW (N, Ro, H)) (hk : k ≠ 0) (hH : ∃ t, H' = H ++ t) (h6 : k = 6 → x < H'.length) : RoW (N ++ [(2 * N.length, 2 * N.length)], Ro ++ [(k, x)], H') ∧ Gr (fun n => k ≠ 6 ∧ n = N.length) (N, Ro, H) (N ++ [(2 * N.length, 2 * N.length)], Ro ++ [(k, x)], H') := by
  obtain ⟨h1, h2, h3⟩ := id h
  obtain ⟨t, hH⟩ := hH
  have h1 : Ro.length = N.length := h1
  have ln : (N ++ [(2 * N.length, 2 * N.length)]).length = N.length + 1 := by rw [List.length_append]; rfl
  refine ⟨⟨by rw [List.length_append, h1, ln]; rfl, fun n hn r0 => ?_, fun n i hn ri => ?_⟩, ⟨by show N.length ≤ (N ++ [(2 * N.length, 2 * N.length)]).length; omega, fun n hn _ => gdA hn, fun n hn => gdA (by rw [h1]; exact hn), ⟨t, hH⟩, fun n n1 n2 hc => ?_⟩⟩
  · have hn : n < (N ++ [(2 * N.length, 2 * N.length)]).length := hn
    rw [ln] at hn
    have r0 : ((Ro ++ [(k, x)]).getD n (0, 0)).1 = 0 := r0
    by_cases z : n = N.length
    · rw [z, ← h1, gdB] at r0
      exact absurd r0 hk
    · rw [gdA (by omega)] at r0
      show ((N ++ [(2 * N.length, 2 * N.length)]).getD n (0, 0)).1 < _ ∧ _
      rw [gdA (by omega)]
      exact h2 n (by show n < N.length; omega) r0
  · have hn : n < (N ++ [(2 * N.length, 2 * N.length)]).length := hn
    rw [ln] at hn
    have ri : (Ro ++ [(k, x)]).getD n (0, 0) = (6, i) := ri
    by_cases z : n = N.length
    · rw [z, ← h1, gdB] at ri
      have e1 : k = 6 := congrArg Prod.fst ri
      have e2 : x = i := congrArg Prod.snd ri
      show i < H'.length
      rw [← e2]; exact h6 e1
    · rw [gdA (by omega)] at ri
      have := h3 n i (by show n < N.length; omega) ri
      have : i < H.length := this
      show i < H'.length
      rw [hH, List.length_append]; omega
  · have n1 : N.length ≤ n := n1
    have n2 : n < (N ++ [(2 * N.length, 2 * N.length)]).length := n2
    have en : n = Ro.length := by omega
    refine Or.inr ?_
    show ((Ro ++ [(k, x)]).getD n (0, 0)).1 = 6
    rw [en, gdB]
    show k = 6
    by_cases z : k = 6
    · exact z
    · exact absurd ⟨z, by omega⟩ hc
end
section
variable {N : Nt} {Ro : List (Nat × Nat)} {a c k x : Nat}
theorem an_6 (h1 : Ro.length = N.length) : ∀ n i, n < (anL N a c).1.length → (roA N Ro a c).getD n (0, 0) = (6, i) → n < N.length := by
  intro n i hn ri
  rcases an_cs (N := N) (Ro := Ro) (a := a) (c := c) with e | ⟨e, -, er⟩
  · rw [e] at hn; exact hn
  · rw [e, List.length_append] at hn
    have hn : n < N.length + 1 := hn
    rw [er] at ri
    by_cases z : n = N.length
    · rw [z, ← h1, gdB] at ri
      exact absurd (show (0 : Nat) = 6 from congrArg Prod.fst ri) (by decide)
    · omega
theorem fre_6 {y : Nat × Nat} (h1 : Ro.length = N.length) (hk : k ≠ 6) : ∀ n i, n < (N ++ [y]).length → (Ro ++ [(k, x)]).getD n (0, 0) = (6, i) → n < N.length := by
  intro n i hn ri
  rw [List.length_append] at hn
  have hn : n < N.length + 1 := hn
  by_cases z : n = N.length
  · rw [z, ← h1, gdB] at ri
    exact absurd (congrArg Prod.fst ri) hk
  · omega
end
def LcW (l0 : Nat) (M0 : Mem) (lc : Nat) : Prop := lc = l0 ∨ mN M0 ≤ lc
def LrB (n0 l0 r0 : Nat) : Prop := (l0 = n0 + 9 ∨ n0 + 25 ≤ l0) ∧ (r0 = n0 + 10 ∨ n0 + 25 ≤ r0)
def BbW (M0 : Mem) (b1 b2 : Nat) : Prop := (b1 = mBig + 5 ∨ mN M0 ≤ b1) ∧ (b2 = mBig + 5 ∨ mN M0 ≤ b2) ∧ (b1 = b2 → b1 = mBig + 5)
def farC (n0 lc : Nat) : Prop := 132 ≤ lc ∧ lc ≠ n0 + 8 ∧ lc ≠ n0 + 13 ∧ lc ≠ n0 + 14 ∧ ¬ (n0 + 16 ≤ lc ∧ lc ≤ n0 + 21)
theorem LcW.far {l0 n0 r0 lc rc : Nat} {M0 : Mem} (h : LcW l0 M0 lc) (h' : LcW r0 M0 rc) (k : LrB n0 l0 r0) (n1 : 132 ≤ n0) (n2 : n0 + 25 ≤ mN M0) : farC n0 lc ∧ farC n0 rc := by
  unfold LcW LrB farC at *
  omega
theorem LcW.nx {l0 lc lc' : Nat} {M0 M : Mem} (h : LcW l0 M0 lc) (k : lc' = lc ∨ mN M ≤ lc') (m : mN M0 ≤ mN M) : LcW l0 M0 lc' := by
  unfold LcW at *
  omega
theorem LcW.is {l0 lc c : Nat} {M0 : Mem} (h : LcW l0 M0 lc) (e : c = lc) (hc : c < mN M0) : c = l0 := by
  unfold LcW at *
  omega
/-- the module as the weaving begins -/
def WvB (n0 l0 r0 : Nat) (M0 : Mem) : Prop := (132 ≤ n0 ∧ n0 + 25 ≤ mN M0) ∧ LrB n0 l0 r0 ∧ (mR M0 (n0 + 8) 5 = some (n0 + 13) ∧ mR M0 (n0 + 8) 6 = some (n0 + 14) ∧ mR M0 (n0 + 8) 9 = some (n0 + 17) ∧ mR M0 (n0 + 8) 10 = some (n0 + 18) ∧ mR M0 (n0 + 8) 11 = some (n0 + 19) ∧ mR M0 (n0 + 8) 14 = some (n0 + 21)) ∧ (∀ c, c = 17 ∨ c = 18 ∨ c = 19 → ok M0 (n0 + c) 21 ∧ mL M0 (n0 + c) = 24) ∧ (ok M0 (n0 + 21) 21 ∧ mL M0 (n0 + 21) = 16) ∧ (ok M0 l0 21 ∧ ok M0 r0 21) ∧ mN M0 ≤ 2000000
/-- what the weaving may change -/
def wvS (n0 l0 r0 c : Nat) : Prop := (21 ≤ c ∧ c ≤ 28) ∨ c = n0 + 8 ∨ c = l0 ∨ c = r0 ∨ c = n0 + 13 ∨ c = n0 + 14 ∨ (n0 + 17 ≤ c ∧ c ≤ n0 + 19) ∨ c = n0 + 21
def WvR (n0 l0 r0 : Nat) (M0 M : Mem) : Prop := fr (wvS n0 l0 r0) M0 M ∧ (∀ f, f ≠ 4 → f ≠ 12 → f ≠ 16 → mI M (n0 + 8) f = mI M0 (n0 + 8) f) ∧ (∀ f, f ≠ 0 → f ≠ 1 → mR M (n0 + 8) f = mR M0 (n0 + 8) f)
theorem Lb_E {a b : Nat} {xs : List Int32} {M M' : Mem} (h : ALi M a b xs) (k : mE M M') : Lb M' b = Lb M b := by
  obtain ⟨l, h1, -⟩ := h
  unfold Lb
  rcases h1.2.2.2.2.2 with ⟨q, -⟩ | ⟨q, -⟩
  · rw [if_neg (by omega), if_neg (by omega)]
  · rw [(k.2.2 b q.1).2]
/-- one if it is not 0; how many of the first ones are not -/
def nz (v : Int32) : Nat := if v = 0 then 0 else 1
def szN (f : Nat → Int32) : Nat → Nat
  | 0 => 0
  | n + 1 => szN f n + nz (f n)
/-- how many codes of node z may come -/
def nk (P : Nat → Nat → Int32) (z : Nat) : Nat := szN (fun n => P 28 (z * 20 + n)) 20
theorem nz_le {v : Int32} : nz v ≤ 1 := by unfold nz; split <;> omega
theorem nz_0 : nz 0 = 0 := rfl
theorem sz_mo {f g : Nat → Int32} : ∀ n, (∀ k, k < n → nz (f k) ≤ nz (g k)) → szN f n ≤ szN g n
  | 0, _ => Nat.le_refl _
  | n + 1, h => Nat.add_le_add (sz_mo n (fun k hk => h k (by omega))) (h n (Nat.lt_succ_self n))
theorem sz_cg {f g : Nat → Int32} (n : Nat) (h : ∀ k, k < n → f k = g k) : szN f n = szN g n := Nat.le_antisymm (sz_mo n (fun k hk => by rw [h k hk]; exact Nat.le_refl _)) (sz_mo n (fun k hk => by rw [h k hk]; exact Nat.le_refl _))
theorem sz_le {f : Nat → Int32} : ∀ n, szN f n ≤ n
  | 0 => Nat.le_refl _
  | n + 1 => Nat.add_le_add (sz_le n) nz_le
theorem sz_up {f : Nat → Int32} {j : Nat} {v : Int32} : ∀ n, j < n → szN (va_up f j v) n + nz (f j) = szN f n + nz v
  | 0, h => absurd h (Nat.not_lt_zero _)
  | n + 1, h => by
    show szN (va_up f j v) n + nz (va_up f j v n) + nz (f j) = szN f n + nz (f n) + nz v
    by_cases z : n = j
    · have e : szN (va_up f j v) n = szN f n := sz_cg n (fun k hk => va_up_ne _ _ (by omega))
      rw [e, z, va_up_self]; omega
    · have q := sz_up (f := f) (j := j) (v := v) n (by omega)
      rw [va_up_ne _ _ z]; omega
theorem sz_u1 {f : Nat → Int32} {j : Nat} {v : Int32} (n : Nat) : szN (va_up f j v) n ≤ szN f n + 1 := by
  by_cases h : j < n
  · have := sz_up (f := f) (v := v) n h
    have := nz_le (v := v)
    omega
  · have e : szN (va_up f j v) n = szN f n := sz_cg n (fun k hk => va_up_ne _ _ (by omega))
    omega
theorem sz_0 : ∀ n, szN (fun _ => 0) n = 0
  | 0 => rfl
  | n + 1 => by show szN (fun _ => 0) n + nz 0 = 0; rw [sz_0 n]; rfl
theorem sz_sh {f g : Nat → Int32} : ∀ n, (∀ k, 2 ≤ k → k < n + 2 → f k = g (k + 1)) → szN f (n + 2) + szN g 3 = szN f 2 + szN g (n + 3)
  | 0, _ => rfl
  | n + 1, h => by
    have q := sz_sh n (fun k k1 k2 => h k k1 (by omega))
    show szN f (n + 2) + nz (f (n + 2)) + szN g 3 = szN f 2 + (szN g (n + 3) + nz (g (n + 3)))
    have e : f (n + 2) = g (n + 3) := h (n + 2) (by omega) (by omega)
    rw [e]
    omega
def RmW (M0 M : Mem) (l0 lc N0 b1 b2 : Nat) (Ψ : Wg) : Prop := (mN M + 6 * N0 ≤ mN M0 + 6 * Ψ.1.length ∧ 32 * mN M + mL M0 l0 ≤ 32 * mN M0 + mL M lc + 128 * Ψ.2.2.length) ∧ (mS M + 4 * mL M0 l0 ≤ mS M0 + 4 * mL M lc + 4 * Lb M b1 + 4 * Lb M b2 + 2 * Ψ.2.2.length ∧ Lb M b1 ≤ 10 + 2 * Ψ.2.2.length ∧ Lb M b2 ≤ 10 + 2 * Ψ.2.2.length) ∧ Ψ.2.2.length ≤ Ψ.1.length
/-- which literal tells of which held pauses; nobody closes these nets -/
def HlQ (Ψ : Wg) (hl : List Int32) : Prop := (∀ i, i < Ψ.2.2.length → ∃ l, hl.getD i 0 = Int32.ofNat l ∧ rlC Ψ.2.1 l 6 i) ∧ ∀ n i, n < Ψ.1.length → Ψ.2.1.getD n (0, 0) = (6, i) → hl.getD i 0 = Int32.ofNat (2 * n) ∧ Ψ.1.getD n (0, 0) = (2 * n, 2 * n)
def WvH (n0 l0 r0 N0 : Nat) (Θ : TrT) (M0 : Mem) (Ψ : Wg) (M : Mem) (lc rc b1 b2 : Nat) (hl : List Int32) : Prop := (Fix M ∧ TrP M Θ ∧ mR M 21 8 = some (n0 + 8)) ∧ CirP M (n0 + 8) lc rc Ψ.1 ∧ (LcW l0 M0 lc ∧ LcW r0 M0 rc) ∧ (ALi M (n0 + 13) b1 Ψ.2.2 ∧ ALi M (n0 + 14) b2 hl ∧ hl.length = Ψ.2.2.length) ∧ BbW M0 b1 b2 ∧ WvR n0 l0 r0 M0 M ∧ RoW Ψ ∧ HlQ Ψ hl ∧ RmW M0 M l0 lc N0 b1 b2 Ψ
def WvP (n0 l0 r0 N0 : Nat) (Θ : TrT) (M0 : Mem) (Ψ : Wg) (M : Mem) : Prop := ∃ lc rc b1 b2 hl, WvH n0 l0 r0 N0 Θ M0 Ψ M lc rc b1 b2 hl
/-- wires, pauses and what is emitted, as they were -/
def ObE (n0 : Nat) (M M' : Mem) : Prop := (∀ c, 22 ≤ c → c ≤ 28 → mAI M' c = mAI M c) ∧ (∀ c, n0 + 17 ≤ c → c ≤ n0 + 21 → mAI M' c = mAI M c) ∧ ∀ f, f = 12 ∨ f = 16 → mI M' (n0 + 8) f = mI M (n0 + 8) f
theorem ObE.rf {n0 : Nat} {M : Mem} : ObE n0 M M := ⟨fun _ _ _ => rfl, fun _ _ _ => rfl, fun _ _ => rfl⟩
theorem ObE.tr {n0 : Nat} {M M1 M2 : Mem} (h : ObE n0 M M1) (k : ObE n0 M1 M2) : ObE n0 M M2 := ⟨fun c z1 z2 => (k.1 c z1 z2).trans (h.1 c z1 z2), fun c z1 z2 => (k.2.1 c z1 z2).trans (h.2.1 c z1 z2), fun f hf => (k.2.2 f hf).trans (h.2.2 f hf)⟩
section
variable {n0 l0 r0 N0 : Nat} {Θ : TrT} {M0 M M' : Mem} {Ψ Ψ' : Wg} {lc rc b1 b2 lc' rc' : Nat} {hl : List Int32} {h : Nat} {Q : Option Value → Mem → Prop}
theorem WvR.tr {S1 : Nat → Prop} (hF : WvR n0 l0 r0 M0 M) (k : fr S1 M M') (hS : ∀ c, c < mN M0 → S1 c → wvS n0 l0 r0 c) (hI : ∀ f, f ≠ 4 → f ≠ 12 → f ≠ 16 → mI M' (n0 + 8) f = mI M (n0 + 8) f) (hRr : ∀ f, f ≠ 0 → f ≠ 1 → mR M' (n0 + 8) f = mR M (n0 + 8) f) : WvR n0 l0 r0 M0 M' := ⟨hF.1.tr k hS, fun f z1 z2 z3 => (hI f z1 z2 z3).trans (hF.2.1 f z1 z2 z3), fun f z1 z2 => (hRr f z1 z2).trans (hF.2.2 f z1 z2)⟩
/-- low cells as they were -/
theorem low_fix (F : Fix M) (hE : mE M M') (row : ∀ c, c < 132 → c ≠ 21 → sameRow M M' c) (h21 : mR M' 21 = mR M 21) : Fix M' := by
  refine F.of_fr (S := fun _ => True) hE (fun e he => ?_) (row 19 (by decide) (by decide)).2.2.2.2.1
  have := tRS_lt e he
  by_cases z : e.1 = 21
  · rw [z, h21]
  · rw [(row e.1 (by omega) z).2.2.1]
theorem TrP.low (hT : TrP M Θ) (row : ∀ c, c < 14 → sameRow M M' c) : TrP M' Θ := by
  obtain ⟨t1, t2, t3, t4, t5⟩ := hT
  exact ⟨by rw [(row 4 (by decide)).1]; exact t1, by rw [(row 4 (by decide)).1]; exact t2, t3, fun c c1 c2 => by rw [(row c (by omega)).2.2.2.1]; exact t4 c c1 c2, t5⟩
theorem WvH.cirC {C : Nat → Prop} (hB : WvB n0 l0 r0 M0) (hW : WvH n0 l0 r0 N0 Θ M0 Ψ M lc rc b1 b2 hl) (hP : CirP M' (n0 + 8) lc' rc' Ψ'.1) (k : CirF M M' (n0 + 8) lc rc lc' rc' Ψ.1 Ψ'.1) (hR : RoW Ψ') (hG : Gr C Ψ Ψ') (e2 : Ψ'.2.2 = Ψ.2.2) (h6 : ∀ n i, n < Ψ'.1.length → Ψ'.2.1.getD n (0, 0) = (6, i) → n < Ψ.1.length ∧ Ψ'.1.getD n (0, 0) = Ψ.1.getD n (0, 0)) : WvH n0 l0 r0 N0 Θ M0 Ψ' M' lc' rc' b1 b2 hl ∧ ObE n0 M M' := by
  obtain ⟨⟨F, hT, h8⟩, hC, ⟨hlc, hrc⟩, ⟨hA1, hA2, hAl⟩, hbb, hF, hRo, hh, hm⟩ := hW
  obtain ⟨⟨n1, n2⟩, n3, -, -, -, ⟨n5, n6⟩, -⟩ := hB
  obtain ⟨k1, k2, k3, k4, k5, k6, k7, k8, k9⟩ := k
  have mM := hF.1.1.1
  obtain ⟨⟨p1, p2, p3, p4, p5⟩, ⟨s1, s2, s3, s4, s5⟩⟩ := hlc.far hrc n3 n1 n2
  have hlc' := hlc.nx k7 mM
  have hrc' := hrc.nx k8 mM
  clear k7 k8
  have row : ∀ c, c < mN M → c ≠ n0 + 8 → c ≠ lc → c ≠ rc → sameRow M M' c := fun c z z1 z2 z3 => k1.2 c z (by rintro (y | y | y) <;> first | exact z1 y | exact z2 y | exact z3 y)
  have rlow : ∀ c, c < 132 → sameRow M M' c := fun c z => row c (by omega) (by omega) (by omega) (by omega)
  have ol := hC.2.2.1
  have orr := hC.2.2.2.2.1
  have ox := hC.1
  have kk : ∀ {c q : Nat}, (c = n0 + 8 ∨ c = lc ∨ c = rc) → mK M c = q → q = 2 ∨ q = 21 := by
    intro c q z e
    rcases z with z | z | z
    · rw [z, ox.2] at e; exact Or.inl e.symm
    · rw [z, ol.2] at e; exact Or.inr e.symm
    · rw [z, orr.2] at e; exact Or.inr e.symm
  have al : ∀ {a b : Nat} {xs : List Int32}, a = n0 + 13 ∨ a = n0 + 14 → ALi M a b xs → ALi M' a b xs := by
    intro a b xs ha hA
    refine hA.fr k1 (fun z => by omega) (fun hb z => ?_) (fun c _ z w => ?_)
    · rcases kk z hb with q | q <;> exact absurd q (by decide)
    · rcases kk z w with q | q <;> exact absurd q (by decide)
  refine ⟨⟨⟨low_fix F k1.1 (fun c z _ => rlow c z) (rlow 21 (by decide)).2.2.1, hT.low (fun c z => rlow c (by omega)), by rw [(rlow 21 (by decide)).2.2.1]; exact h8⟩, hP, ⟨hlc', hrc'⟩, ⟨by rw [e2]; exact al (Or.inl rfl) hA1, al (Or.inr rfl) hA2, by rw [e2]; exact hAl⟩, hbb, hF.tr k1 (fun c hc z => ?_) (fun f z1 _ _ => k2 f z1) k3, hR, ⟨fun i hi => ?_, fun n i hn ri => ?_⟩, ?_⟩, ⟨fun c z1 z2 => (rlow c (by omega)).2.2.2.1, fun c z1 z2 => (row c (by omega) (by omega) (fun y => p5 ⟨by omega, by omega⟩) (fun y => s5 ⟨by omega, by omega⟩)).2.2.2.1, fun f hf => k2 f (by omega)⟩⟩
  · unfold wvS
    rcases z with z | z | z
    · exact Or.inr (Or.inl z)
    · exact Or.inr (Or.inr (Or.inl (hlc.is z hc)))
    · exact Or.inr (Or.inr (Or.inr (Or.inl (hrc.is z hc))))
  · rw [e2] at hi
    obtain ⟨l, q1, q2, q3, q4⟩ := hh.1 i hi
    have := hRo.1
    have := hR.1
    have := hG.1
    exact ⟨l, q1, q2, by omega, by rw [hG.2.2.1 _ (by omega)]; exact q4⟩
  · obtain ⟨n1, n2⟩ := h6 n i hn ri
    rw [n2]
    rw [hG.2.2.1 n n1] at ri
    exact hh.2 n i n1 ri
  · have := hG.1
    have L1 := Lb_E hA1 k1.1
    have L2 := Lb_E hA2 k1.1
    unfold RmW at hm ⊢
    rw [e2, L1, L2]
    clear hlc' hrc' hlc hrc
    omega
theorem WvH.cir (hB : WvB n0 l0 r0 M0) (hW : WvH n0 l0 r0 N0 Θ M0 Ψ M lc rc b1 b2 hl) (hP : CirP M' (n0 + 8) lc' rc' Ψ'.1) (k : CirF M M' (n0 + 8) lc rc lc' rc' Ψ.1 Ψ'.1) (hR : RoW Ψ') (hG : Gr noN Ψ Ψ') (e2 : Ψ'.2.2 = Ψ.2.2) (h6 : ∀ n i, n < Ψ'.1.length → Ψ'.2.1.getD n (0, 0) = (6, i) → n < Ψ.1.length) : WvH n0 l0 r0 N0 Θ M0 Ψ' M' lc' rc' b1 b2 hl ∧ ObE n0 M M' := WvH.cirC hB hW hP k hR hG e2 (fun n i hn ri => ⟨h6 n i hn ri, hG.2.1 n (h6 n i hn ri) (fun z => z)⟩)
end
end
