/-! the reference goes through all its nodes -/
theorem RpLs.len {R : Nat → Nat → Nat → Nat → Prop} : ∀ (ds cs : List Nat) (p p' : Nat), RpLs R ds cs p p' → ds.length = cs.length
  | [], [], _, _, _ => rfl
  | d :: ds, c :: cs, p, p', ⟨pm, _, k2⟩ => by
    show ds.length + 1 = cs.length + 1
    rw [RpLs.len ds cs pm p' k2]
  | [], _ :: _, _, _, k => k.elim
  | _ :: _, [], _, _, k => k.elim
theorem he_n {k : Int32} (hk : k ≠ 1) (d : Int32) (hm : Nat → Int32) : heG (heV k d) (List.map hm []) = 0 := by
  show heV k d = 0
  exact if_neg hk
theorem he_1 (d : Int32) (hm : Nat → Int32) : heG (heV 1 d) (List.map hm []) = (1 : Int32) <<< (d &&& 31) := by
  show heV 1 d = _
  exact if_pos rfl
theorem ao_n {k : Int32} (hk : k = 0 ∨ k = 5 ∨ k = 2) (d : Int32) (hm : Nat → Int32) : aoG k (leV k d) (List.map hm []) = 1 := by
  show leV k d = 1
  exact if_pos hk
theorem ao_1 (d : Int32) (hm : Nat → Int32) : aoG 1 (leV 1 d) (List.map hm []) = 2 := by
  show leV 1 d = 2
  exact (if_neg (by decide)).trans (if_pos rfl)
theorem ao_3 (d : Int32) (hm : Nat → Int32) : aoG 3 (leV 3 d) (List.map hm []) = (1 : Int32) <<< (d &&& 31) := by
  show leV 3 d = _
  exact ((if_neg (by decide)).trans (if_neg (by decide))).trans (if_pos rfl)
theorem cb_1 : cbI 1 := by show (1 : Int32).toBitVec.toNat < 1048576; decide
section
variable {m : Nat} {A : Nat → Nat → Int32} {pn : Nat → Int32} {S0 : RBs} {G : Nat → List Nat} {W : Wo} {hm : Nat → Int32} {N zn fn : Nat} {h : Nat} {Q : Option Value → Mem → Prop} {ρ : Nat → Nat}
theorem walk_all (hR : RgB m S0 G) (hr : ∀ z x, prB m S0 z x → ρ z < ρ x) (hA : woA W = A) (hC : ClE W hm N) (hT : ∀ z, 700 * m ≤ z → z < 700 * m + S0.1 → S0.2 80 z = 10 → S0.2 81 z = -1 ∨ ∃ P, P < 160 ∧ S0.2 81 z = Int32.ofNat P ∧ pn P = Int32.ofNat z) : ∀ g, GoH W hm m N zn fn A pn S0 G h Q g := by
  have h4 := hR.1.1
  have h7 := hR.1.2
  intro g
  induction g with
  | zero => intro cx y x p p' mk nu co sl km M hp; unfold RpN at hp; exact hp.elim
  | succ g ih =>
    intro cx y x p p' mk nu co sl km M hp hx hG htr hs hm0 hk K
    obtain ⟨c1, c2, c3⟩ := hC x hx.1 hx.2
    unfold RpN at hp
    obtain ⟨hy, hp⟩ := hp
    obtain ⟨l1, -, -, -⟩ := hs.len hR hy
    have my : mk y = 0 := hm0 y inS.rf
    have trk : S0.2 80 y ≠ 10 → cx = [] ∨ ∃ k, TrC m S0 pn k y cx := fun n10 => by
      rcases htr with w | ⟨k, u, w1, w2⟩
      · exact Or.inl w
      · exact Or.inr ⟨k + 1, hy, by rw [if_neg n10]; exact Or.inr ⟨u, w1, w2⟩⟩
    rcases hp with ⟨k5, c, e1, r1⟩ | ⟨k5, s6, l2, r1⟩ | ⟨k0, e0, s0, g0, ep⟩ | ⟨k1, e1, e0, s2, g0, ep⟩ | ⟨k2, e0, s1, g0, -, ep⟩ | ⟨k3, e0, s3, g0, ⟨v, v0, v1, v2⟩, ep⟩ | ⟨k4, cw, a1, a2, d1, pm, e1, r1, r2⟩ | ⟨k6, s7, c, d, e1, g1, r1⟩ | ⟨k7, s8, -, c, d, e1, g1, r1⟩ | ⟨k8, s9, l9, r1⟩ | ⟨k9, s10, c, d, t, e1, g1, et, r1⟩
    · -- a row of one
      rw [k5, e1] at c1 c2
      have hmc : hm x = hm c := by
        rw [c1]
        show (heV 5 _) ||| hm c = hm c
        have : ∀ d, heV 5 d = 0 := fun d => if_neg (by decide)
        rw [this, Int32.zero_or]
      have hwc : woC W x = woC W c := by
        rw [c2]
        have : ∀ d, leV 5 d = 1 := fun d => if_pos (by decide)
        rw [this]
        show aoT 5 1 (woC W c) True = _
        rw [← se_ao]
        unfold seF
        rw [if_neg (by decide), show (1 : Int32) &&& (-2) = 0 by decide, Int32.zero_or]
      refine ih cx y c p p' mk nu co sl km M r1 (c3 c (by rw [e1]; exact List.mem_cons_self)) hG htr hs hm0 hk (fun mk' nu' co' sl' km' M' po g' r' => K mk' nu' co' sl' km' M' ?_ g' r')
      obtain ⟨q1, q2, q3, q4, q5⟩ := po
      have dv := q3.hd
      refine ⟨q1, fun u hu => by rw [hmc]; exact q2 u hu, ⟨⟨by rw [hmc]; exact dv.1, by rw [hwc]; exact dv.2.1, fun w => ?_, fun w => ?_, by rw [hwc]; exact dv.2.2.2.2⟩, Or.inl ⟨k5, c, e1, q3⟩⟩, q4, q5⟩
      · rw [k5] at w; exact absurd w (by decide)
      · rw [k5] at w; exact absurd w (by decide)
    · -- a row of more
      have s6 : S0.2 80 y = 6 := s6
      have l2 : 2 ≤ (G y).length := l2
      have r1 : RpLs (RpN W m zn fn (vwR S0 G) (700 * m + S0.1) g cx) (G y) (woV W x).2.2.2 p p' := r1
      have ll := RpLs.len _ _ _ _ r1
      obtain ⟨d, r, hg⟩ : ∃ d r, G y = d :: r := by
        cases hg : G y with
        | nil => rw [hg] at l2; exact absurd l2 (by decide)
        | cons d r => exact ⟨d, r, rfl⟩
      rw [k5] at c1 c2
      refine w_node hR hr ih hy (by rw [s6]; decide) (by rw [s6]; decide) hg r1 (trk (by rw [s6]; decide)) c3 (fun w => by rw [← ll] at w; omega) (by rw [k5]; decide) (fun R w => w) ?_ (fun w hc => ?_) hG hs hm0 hk K
      · rw [c1]
        have : ∀ d, heV 5 d = 0 := fun d => if_neg (by decide)
        rw [this]
        rfl
      · rw [s6, c2]
        have : ∀ d, leV 5 d = 1 := fun d => if_pos (by decide)
        rw [this]
        have hr6 : ∀ l, rcS 6 w l = l.foldl seF 1 := fun l => rfl
        rw [hr6]
        cases hcs : (woV W x).2.2.2 with
        | nil => rw [hcs] at ll; rw [hg] at ll; cases ll
        | cons c r' =>
          rw [hcs] at hc
          have hc1 := hc c List.mem_cons_self
          obtain ⟨f1, f2⟩ := se_fold (r'.map (woC W)) (seF 1 (woC W c)) (cb_se cb_1 hc1) (fun z hz => by
            obtain ⟨q, q1, q2⟩ := List.mem_map.mp hz
            rw [← q2]
            exact hc q (List.mem_cons_of_mem _ q1))
          have e2 : (List.map (woC W) (c :: r')).foldl seF 1 = (r'.map (woC W)).foldl seF (seF 1 (woC W c)) := rfl
          have e3 : aoG 5 1 (List.map (woC W) (c :: r')) = (r'.map (woC W)).foldl (fun h c => aoT 5 h c False) (aoT 5 1 (woC W c) True) := rfl
          rw [e2, e3, ← se_ao (p := True), ← f1]
          exact ⟨rfl, f2⟩
    · -- nothing
      have s0 : S0.2 80 y = 0 := s0
      have g0 : G y = [] := g0
      subst ep
      rw [k0, e0] at c1 c2
      have b : hm x = 0 := by rw [c1]; exact he_n (by decide) _ _
      have e : woC W x = 1 := by rw [c2]; exact ao_n (by decide) _ _
      refine L_ent hG hR hy l1 (fun _ M1 g1 r1 => L_78n g1 hR hy (by rw [s0]; decide) (w_leaf hR hr hy g0 (by rw [s0]; decide) hs g1 (fun _ _ => ⟨rfl, rfl⟩) (by rw [b]; exact my) e0 (fun w => ?_) (fun w => ?_) (by rw [s0, e]; rfl) (by rw [e]; exact cb_1) ⟨Nat.le_refl _, hk⟩ (fun mk3 nu3 co3 sl3 km3 M3 po g3 r3 => K mk3 nu3 co3 sl3 km3 M3 po g3 (r1.tr r3)))) (fun w => absurd w (by rw [s0]; decide))
      · rw [k0] at w; exact absurd w (by decide)
      · rw [k0] at w; exact absurd w (by decide)
    · -- a pause
      have s2 : S0.2 80 y = 2 := s2
      have g0 : G y = [] := g0
      subst ep
      rw [k1, e0, e1] at c1 c2
      have b : hm x = (1 : Int32) <<< (Int32.ofNat p &&& 31) := by rw [c1]; exact he_1 _ _
      have e : woC W x = 2 := by rw [c2]; exact ao_1 _ _
      refine L_ent hG hR hy l1 (fun w => absurd s2 w) (fun _ M1 g1 r1 => ?_)
      rw [succ32]
      refine L_78n g1 hR hy (by rw [s2]; decide) (w_leaf hR hr hy g0 (by rw [s2]; decide) hs g1 (fun z zy => ⟨va_up_ne _ _ zy, va_up_ne _ _ zy⟩) (by rw [va_up_self, b]) e0 (fun _ => by rw [va_up_self, e1]) (fun w => ?_) (by rw [s2, e]; rfl) (by rw [e]; show (2 : Int32).toBitVec.toNat < 1048576; decide) ⟨Nat.le_refl _, hk⟩ (fun mk3 nu3 co3 sl3 km3 M3 po g3 r3 => K mk3 nu3 co3 sl3 km3 M3 po g3 (r1.tr r3)))
      rw [k1] at w; exact absurd w (by decide)
    · -- an emit
      have s1 : S0.2 80 y = 1 := s1
      have g0 : G y = [] := g0
      subst ep
      rw [k2, e0] at c1 c2
      have b : hm x = 0 := by rw [c1]; exact he_n (by decide) _ _
      have e : woC W x = 1 := by rw [c2]; exact ao_n (by decide) _ _
      refine L_ent hG hR hy l1 (fun _ M1 g1 r1 => L_78n g1 hR hy (by rw [s1]; decide) (w_leaf hR hr hy g0 (by rw [s1]; decide) hs g1 (fun _ _ => ⟨rfl, rfl⟩) (by rw [b]; exact my) e0 (fun w => ?_) (fun w => ?_) (by rw [s1, e]; rfl) (by rw [e]; exact cb_1) ⟨Nat.le_refl _, hk⟩ (fun mk3 nu3 co3 sl3 km3 M3 po g3 r3 => K mk3 nu3 co3 sl3 km3 M3 po g3 (r1.tr r3)))) (fun w => absurd w (by rw [s1]; decide))
      · rw [k2] at w; exact absurd w (by decide)
      · rw [k2] at w; exact absurd w (by decide)
    · -- an exit
      have s3 : S0.2 80 y = 3 := s3
      have g0 : G y = [] := g0
      subst ep
      have ec : (woV W x).2.2.1 = Int32.ofNat (2 + v) := by rw [v1, Int32.ofNat_add]; rfl
      rw [k3, e0, ec] at c1 c2
      have b : hm x = 0 := by rw [c1]; exact he_n (by decide) _ _
      have e : woC W x = (1 : Int32) <<< (Int32.ofNat (2 + v) &&& 31) := by rw [c2]; exact ao_3 _ _
      have hne : cx ≠ [] := by
        rcases v2 with ⟨-, -, w⟩ | ⟨j, e, -, -, -, w⟩
        · exact w
        · intro z; rw [z] at w; cases w
      obtain ⟨kk, u, pr, tr⟩ : ∃ k u, prB m S0 y u ∧ TrC m S0 pn k u cx := by
        rcases htr with w | w
        · exact absurd w hne
        · exact w
      have he : (S0.2 81 y = -1 ∧ v = 0 ∧ cx ≠ []) ∨ ∃ j e, j < 40 ∧ e < 160 ∧ S0.2 81 y = Int32.ofNat (40 * m + j) ∧ A 60 (40 * m + j) = Int32.ofNat e ∧ cx[v]? = some (some e) := by
        rcases v2 with w | ⟨j, e, w1, w2, w3, w4⟩
        · exact Or.inl w
        · exact Or.inr ⟨j, e, w1, TrC_e kk u cx v e tr w4, w2, by rw [← hA]; exact w3, w4⟩
      refine L_ent hG hR hy l1 (fun _ M1 g1 r1 => L_78x hr g1 hR hy s3 pr tr he (by omega) (by omega) (fun M2 g2 r2 => w_leaf hR hr hy g0 (by rw [s3]; decide) hs g2 (fun z zy => ⟨va_up_ne _ _ zy, rfl⟩) (by rw [b]; exact my) e0 (fun _ => by rw [va_up_self, ec]) (fun _ => ⟨v, ec, Nat.le_max_right _ _⟩) (by rw [s3, va_up_self, e]; rfl) (by rw [e]; exact cb1 ⟨2 + v, by omega⟩) ⟨Nat.le_max_left _ _, by omega⟩ (fun mk3 nu3 co3 sl3 km3 M3 po g3 r3 => K mk3 nu3 co3 sl3 km3 M3 po g3 ((r1.tr r2).tr r3)))) (fun w => absurd w (by rw [s3]; decide))
    · -- a choice
      have hso : S0.2 80 y = 4 ∨ S0.2 80 y = 5 := by
        rcases cw with ⟨w, -⟩ | ⟨w, -⟩
        · exact Or.inl w
        · exact Or.inr w
      rw [k4, e1] at c1 c2
      have m1 := c3 a1 (by rw [e1]; exact List.mem_cons_self)
      have m2 := c3 a2 (by rw [e1]; simp)
      have c1 : hm x = (0 ||| hm a1) ||| hm a2 := by
        rw [c1]
        have : ∀ d, heV 4 d = 0 := fun d => if_neg (by decide)
        rw [this]
        rfl
      have c2 : woC W x = woC W a1 ||| woC W a2 := by
        rw [c2]
        have : ∀ d, leV 4 d = 0 := fun d => ((if_neg (by decide)).trans (if_neg (by decide))).trans (if_neg (by decide))
        rw [this]
        have q : ∀ (a c : Int32) (p : Prop) [Decidable p], aoT 4 a c p = a ||| c := fun a c p _ => (((if_neg (by decide)).trans (if_neg (by decide))).trans (if_neg (by decide))).trans (if_neg (by decide))
        show aoT 4 (aoT 4 0 (woC W a1) True) (woC W a2) False = _
        rw [q, q, Int32.zero_or]
      have ne : ∀ k : Int32, k ≠ 4 → k ≠ 5 → S0.2 80 y ≠ k := fun k n4 n5 w => by
        rcases hso with z | z
        · exact n4 (w.symm.trans z)
        · exact n5 (w.symm.trans z)
      have hrc : ∀ (w : Int32) (l : List Int32), rcS (S0.2 80 y) w l = l.headD 0 ||| (match l.tail with | [] => 1 | b :: _ => b) := fun w l => by
        unfold rcS
        rw [if_neg (ne 2 (by decide) (by decide)), if_neg (ne 3 (by decide) (by decide)), if_pos hso]
        rfl
      have hx1 : ¬ ((woV W x).1 = 5 ∧ (woV W x).2.2.2.length = 1) := fun w => by rw [k4] at w; exact absurd w.1 (by decide)
      rcases r2 with ⟨g1, n1, n2, ep⟩ | ⟨d2, g1, r2⟩
      · have g1 : G y = [d1] := g1
        subst ep
        obtain ⟨q1, q2, -⟩ := hC a2 m2.1 m2.2
        rw [n1, n2] at q1 q2
        have z1 : hm a2 = 0 := by rw [q1]; exact he_n (by decide) _ _
        have z2 : woC W a2 = 1 := by rw [q2]; exact ao_n (by decide) _ _
        refine w_node (cs := [a1]) hR hr ih hy (ne 2 (by decide) (by decide)) (ne 3 (by decide) (by decide)) g1 (by rw [g1]; exact ⟨p', r1, rfl⟩) (trk (ne 10 (by decide) (by decide))) (fun c hc => by rw [List.mem_singleton] at hc; rw [hc]; exact m1) hx1 (by rw [k4]; decide) (fun R w => by rw [g1] at w ⊢; rw [e1]; exact ⟨w.1, trivial⟩) (by rw [c1, z1, Int32.or_zero]; rfl) (fun w hc => ?_) hG hs hm0 hk K
        rw [hrc, c2, z2]
        exact ⟨rfl, cb_or (hc a1 List.mem_cons_self) cb_1⟩
      · have g1 : G y = [d1, d2] := g1
        refine w_node (cs := [a1, a2]) hR hr ih hy (ne 2 (by decide) (by decide)) (ne 3 (by decide) (by decide)) g1 (by rw [g1]; exact ⟨pm, r1, p', r2, rfl⟩) (trk (ne 10 (by decide) (by decide))) (fun c hc => by rw [← e1] at hc; exact c3 c hc) hx1 (by rw [k4]; decide) (fun R w => by rw [e1]; exact w) (by rw [c1]; rfl) (fun w hc => ?_) hG hs hm0 hk K
        rw [hrc, c2]
        exact ⟨rfl, cb_or (hc a1 List.mem_cons_self) (hc a2 (by simp))⟩
    · -- a loop
      have s7 : S0.2 80 y = 7 := s7
      have g1 : G y = [d] := g1
      rw [k6, e1] at c1 c2
      refine w_node (cs := [c]) hR hr ih hy (by rw [s7]; decide) (by rw [s7]; decide) g1 (by rw [g1]; exact ⟨p', r1, rfl⟩) (trk (by rw [s7]; decide)) (fun q hq => by rw [← e1] at hq; exact c3 q hq) (fun w => by rw [k6] at w; exact absurd w.1 (by decide)) (by rw [k6]; decide) (fun R w => by rw [e1]; exact w) ?_ (fun w hc => ?_) hG hs hm0 hk K
      · rw [c1]
        have : ∀ d, heV 6 d = 0 := fun d => if_neg (by decide)
        rw [this]
        rfl
      · rw [s7, c2]
        have q : ∀ z, aoG 6 z [woC W c] = woC W c &&& (-2) := fun z => rfl
        rw [List.map_cons, List.map_nil, q]
        exact ⟨rfl, cb_and (hc c List.mem_cons_self)⟩
    · -- a suspend
      have s8 : S0.2 80 y = 8 := s8
      have g1 : G y = [d] := g1
      rw [k7, e1] at c1 c2
      refine w_node (cs := [c]) hR hr ih hy (by rw [s8]; decide) (by rw [s8]; decide) g1 (by rw [g1]; exact ⟨p', r1, rfl⟩) (trk (by rw [s8]; decide)) (fun q hq => by rw [← e1] at hq; exact c3 q hq) (fun w => by rw [k7] at w; exact absurd w.1 (by decide)) (by rw [k7]; decide) (fun R w => by rw [e1]; exact w) ?_ (fun w hc => ?_) hG hs hm0 hk K
      · rw [c1]
        have : ∀ d, heV 7 d = 0 := fun d => if_neg (by decide)
        rw [this]
        rfl
      · rw [s8, c2]
        have l0 : ∀ d, leV 7 d = 0 := fun d => ((if_neg (by decide)).trans (if_neg (by decide))).trans (if_neg (by decide))
        rw [l0]
        have q : ∀ (a c : Int32) (p : Prop) [Decidable p], aoT 7 a c p = a ||| c := fun a c p _ => (((if_neg (by decide)).trans (if_neg (by decide))).trans (if_neg (by decide))).trans (if_neg (by decide))
        have q2 : aoG 7 0 (List.map (woC W) [c]) = woC W c := by
          show aoT 7 0 (woC W c) True = _
          rw [q, Int32.zero_or]
        rw [q2]
        exact ⟨rfl, hc c List.mem_cons_self⟩
    · -- branches
      have s9 : S0.2 80 y = 9 := s9
      have l9 : 1 ≤ (G y).length := l9
      have r1 : RpLs (RpN W m zn fn (vwR S0 G) (700 * m + S0.1) g cx) (G y) (woV W x).2.2.2 p p' := r1
      have ll := RpLs.len _ _ _ _ r1
      obtain ⟨d, r, hg⟩ : ∃ d r, G y = d :: r := by
        cases hg : G y with
        | nil => rw [hg] at l9; exact absurd l9 (by decide)
        | cons d r => exact ⟨d, r, rfl⟩
      rw [k8] at c1 c2
      refine w_node hR hr ih hy (by rw [s9]; decide) (by rw [s9]; decide) hg r1 (trk (by rw [s9]; decide)) c3 (fun w => by rw [k8] at w; exact absurd w.1 (by decide)) (by rw [k8]; decide) (fun R w => w) ?_ (fun w hc => ?_) hG hs hm0 hk K
      · rw [c1]
        have : ∀ d, heV 8 d = 0 := fun d => if_neg (by decide)
        rw [this]
        rfl
      · rw [s9, c2]
        have hr9 : ∀ l, rcS 9 w l = l.tail.foldl pjF (l.headD 0) := fun l => rfl
        rw [hr9]
        cases hcs : (woV W x).2.2.2 with
        | nil => rw [hcs] at ll; rw [hg] at ll; cases ll
        | cons c r' =>
          rw [hcs] at hc
          have hc1 := hc c List.mem_cons_self
          obtain ⟨f1, f2⟩ := pj_fold (r'.map (woC W)) (woC W c) hc1 (fun z hz => by
            obtain ⟨q, q1, q2⟩ := List.mem_map.mp hz
            rw [← q2]
            exact hc q (List.mem_cons_of_mem _ q1))
          have a0 : ∀ z, aoT 8 z (woC W c) True = woC W c := fun z => rfl
          have e3 : ∀ z, aoG 8 z (List.map (woC W) (c :: r')) = (r'.map (woC W)).foldl (fun h c => aoT 8 h c False) (aoT 8 z (woC W c) True) := fun z => rfl
          rw [e3, a0, ← f1]
          exact ⟨rfl, f2⟩
    · -- a trap
      have s10 : S0.2 80 y = 10 := s10
      have g1 : G y = [d] := g1
      have et : (t = none ∧ S0.2 81 y = -1) ∨ ∃ j, j < 40 ∧ t = some (40 * m + j) ∧ S0.2 81 y = Int32.ofNat (40 * m + j) := et
      rw [k9, e1] at c1 c2
      have htc : ∃ k, TrC m S0 pn k y (t :: cx) := by
        have ht : (t = none ∧ S0.2 81 y = -1) ∨ ∃ e, e < 160 ∧ t = some e ∧ S0.2 81 y = Int32.ofNat e ∧ pn e = Int32.ofNat y := by
          rcases et with w | ⟨j, j1, j2, j3⟩
          · exact Or.inl w
          · refine Or.inr ⟨40 * m + j, by omega, j2, j3, ?_⟩
            rcases hT y hy.1 hy.2 s10 with w | ⟨P, p1, p2, p3⟩
            · exact absurd (j3.symm.trans w) (nm32 (by omega))
            · have : P = 40 * m + j := inj32 (by omega) (by omega) (p2.symm.trans j3)
              rw [← this]; exact p3
        rcases htr with w | ⟨k, u, w1, w2⟩
        · exact ⟨1, hy, by rw [if_pos s10]; exact ⟨t, cx, rfl, ht, Or.inl w⟩⟩
        · exact ⟨k + 1, hy, by rw [if_pos s10]; exact ⟨t, cx, rfl, ht, Or.inr ⟨u, w1, w2⟩⟩⟩
      refine w_node (cs := [c]) hR hr ih hy (by rw [s10]; decide) (by rw [s10]; decide) g1 (by rw [g1]; exact ⟨p', r1, rfl⟩) (Or.inr htc) (fun q hq => by rw [← e1] at hq; exact c3 q hq) (fun w => by rw [k9] at w; exact absurd w.1 (by decide)) (by rw [k9]; decide) (fun R w => by rw [e1]; exact w) ?_ (fun w hc => ?_) hG hs hm0 hk K
      · rw [c1]
        have : ∀ d, heV 9 d = 0 := fun d => if_neg (by decide)
        rw [this]
        rfl
      · rw [s10, c2]
        have q : ∀ z, aoG 9 z (List.map (woC W) [c]) = aoT 9 z (woC W c) True := fun z => rfl
        have q2 : ∀ l, rcS 10 w l = trF (l.headD 0) := fun l => rfl
        rw [q, q2, ← tr_ao (p := True) (hc c List.mem_cons_self)]
        exact ⟨rfl, cb_tr (hc c List.mem_cons_self)⟩
end
