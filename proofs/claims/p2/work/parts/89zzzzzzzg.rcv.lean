/-! conditions worked by the reference -/
section
variable {sv bv : Nat → Nat} {Y : List Cd}
theorem cvL_at {k : Nat} (hk : k < Y.length) (h2 : 2 ≤ (Y.getD k cd0).1 → (Y.getD k cd0).2.1 < k) (h3 : 3 ≤ (Y.getD k cd0).1 → (Y.getD k cd0).2.2 < k) : (cvL sv bv Y).getD k 0 = cvD sv bv (cvL sv bv Y) (Y.getD k cd0) := by
  obtain ⟨d, ed⟩ : ∃ d, d = Y.getD k cd0 := ⟨_, rfl⟩
  rw [← ed] at h2 h3 ⊢
  have eY : Y = Y.take k ++ [d] ++ Y.drop (k + 1) := by
    rw [List.append_assoc]
    have e1 : [d] ++ Y.drop (k + 1) = Y.drop k := by
      rw [List.drop_eq_getElem_cons hk, ed, List.getD_eq_getElem?_getD, List.getElem?_eq_getElem hk]
      rfl
    rw [e1, List.take_append_drop]
  obtain ⟨t, et⟩ := cvL_pre (sv := sv) (bv := bv) (Y.drop (k + 1)) (Y.take k ++ [d])
  rw [← eY, cvL_app] at et
  have ln : (cvL sv bv (Y.take k)).length = k := by rw [cvL_len, List.length_take]; omega
  have at1 : ∀ j, j < k → (cvL sv bv Y).getD j 0 = (cvL sv bv (Y.take k)).getD j 0 := fun j hj => by
    rw [et, List.append_assoc, gdA (by omega)]
  have at2 : (cvL sv bv Y).getD k 0 = cvD sv bv (cvL sv bv (Y.take k)) d := by
    rw [et, List.append_assoc]
    have q := gdB (Y := cvL sv bv (Y.take k)) (V := t) (d := cvD sv bv (cvL sv bv (Y.take k)) d) (d0 := 0)
    rw [ln] at q
    exact q
  rw [at2]
  unfold cvD
  by_cases e0 : d.1 = 0
  · rw [if_pos e0, if_pos e0]
  rw [if_neg e0, if_neg e0]
  by_cases e1 : d.1 = 1
  · rw [if_pos e1, if_pos e1]
  rw [if_neg e1, if_neg e1]
  rw [at1 d.2.1 (h2 (by omega))]
  by_cases e2 : d.1 = 2
  · rw [if_pos e2, if_pos e2]
  rw [if_neg e2, if_neg e2, at1 d.2.2 (h3 (by omega))]
theorem cvF_le (h1 : ∀ s, sv s ≤ 2) (h2 : ∀ s, bv s ≤ 2) : ∀ (Y : List Cd) (V : List Nat), (∀ k, V.getD k 0 ≤ 2) → ∀ k, (Y.foldl (fun V d => V ++ [cvD sv bv V d]) V).getD k 0 ≤ 2
  | [], _, hV, k => hV k
  | d :: Y, V, hV, k => by
    refine cvF_le h1 h2 Y (V ++ [cvD sv bv V d]) (fun j => ?_) k
    by_cases z : j < V.length
    · rw [gdA z]; exact hV j
    · obtain ⟨q, eq⟩ : ∃ q, j = V.length + q := ⟨j - V.length, by omega⟩
      rw [eq, gdC]
      cases q with
      | zero =>
        show cvD sv bv V d ≤ 2
        unfold cvD
        by_cases e0 : d.1 = 0
        · rw [if_pos e0]; exact h1 _
        rw [if_neg e0]
        by_cases e1 : d.1 = 1
        · rw [if_pos e1]; exact h2 _
        rw [if_neg e1]
        by_cases e2 : d.1 = 2
        · rw [if_pos e2]; exact v3N_le _
        rw [if_neg e2]
        by_cases e3 : d.1 = 3
        · rw [if_pos e3]; exact v3A_le _ _
        · rw [if_neg e3]; exact v3O_le _ _
      | succ q => exact Nat.zero_le _
theorem cvL_le (h1 : ∀ s, sv s ≤ 2) (h2 : ∀ s, bv s ≤ 2) (k : Nat) : (cvL sv bv Y).getD k 0 ≤ 2 := cvF_le h1 h2 Y [] (fun _ => Nat.zero_le _) k
end
/-- part p has the condition f .. c -/
def CdR (R : RMo) (p f c : Nat) : Prop := (40 * moM R ≤ p ∧ p < 40 * moM R + 40) ∧ f ≤ c ∧ c < (moY R).length ∧ moA R 62 p = Int32.ofNat (410 * moM R + f) ∧ moA R 63 p = Int32.ofNat (410 * moM R + c) ∧ WcR (moQ R) (moY R) f c
section
variable {R : RMo} {I : RIn} {sl : List Nat} {ρ : Plc → Nat} {M M1 M' : Mem} {h p f c : Nat} {Q : Option Value → Mem → Prop}
theorem ArF.rb {S : Nat → Prop} (h : ArF S M M') (hs : ∀ c, S c → 95 ≤ c ∧ c ≤ 101) : RbF M M' := ⟨h.1, ⟨h.2.1.2.1, h.2.1.2.2.1, h.2.1.2.2.2⟩, fun a _ => by rw [h.2.1.1], fun g _ => by rw [h.2.1.1], fun c hc => h.2.2 c (fun z => hc (hs c z))⟩
theorem cnd_at (hC : CdR R p f c) (h4 : moM R < 4) (h41 : (moY R).length ≤ 410) : cndR R I ρ p = (cvL (fun s => ρ (5, s, 0)) (iBf I) (moY R)).getD c 0 := by
  obtain ⟨-, -, h2, -, h3, -⟩ := hC
  unfold cndR
  rw [h3, lt32 (by omega), show 410 * moM R + c - 410 * moM R = c by omega]
theorem R_cond (hS : RmS R sl M) (hI : RbI R I M) (hb : ∀ s, iBf I s ≤ 1) (hV : RSv R ρ M) (hC : CdR R p f c) (H : ∀ M', ArF (fun c => c = 101) M M' → Q (some (.int (Int32.ofNat (cndR R I ρ p)))) M') : E (h + 2) mdX11_condValue [.ref 29, .int (Int32.ofNat p)] M Q := by
  obtain ⟨⟨h4, hG, q16, c3, c20, y41⟩, -, -, sA, sY, -⟩ := id hS
  rw [cnd_at (I := I) (ρ := ρ) hC h4 y41] at H
  obtain ⟨⟨p1, p2⟩, fc, cl, a62, a63, wc⟩ := hC
  obtain ⟨cv, ecv⟩ : ∃ cv, cv = cvL (fun s => ρ (5, s, 0)) (iBf I) (moY R) := ⟨_, rfl⟩
  rw [← ecv] at H
  have le : ∀ k, cv.getD k 0 ≤ 2 := fun k => by rw [ecv]; exact cvL_le (fun s => hV.1 _) (fun s => by have := hb s; omega) k
  have lp : (Int32.ofNat p).toNatClampNeg = p := lt32 (by omega)
  have main : ∀ (d k : Nat) (M1 : Mem), k + d = c + 1 → f ≤ k → ArF (fun c => c = 101) M M1 → (∀ j, f ≤ j → j < k → mAI M1 101 (410 * moM R + j) = Int32.ofNat (cv.getD j 0)) → T (h + 2) mdX11_condValue 7 [(0, .ref 29), (1, .int (Int32.ofNat p)), (2, .int (Int32.ofNat (410 * moM R + k)))] [] M1 Q := by
    intro d
    induction d with
    | zero =>
      intro k M1 hd fk A1 hk
      have F1 : Fix M1 := (A1.rb (fun c z => by omega)).fix hI.1
      have r63 : mAI M1 63 p = Int32.ofNat (410 * moM R + c) := by rw [A1.2.2 63 (by decide), sA 63 p (by decide) (by decide) p1 p2]; exact a63
      refine VX11_condValue_7 (h := h + 1) ?_
      unfold DX11_condValue_7
      rw [lp, lt32 (show 410 * moM R + k < 2147483648 by omega)]
      refine ⟨ok29 F1, 63, rf29_43 F1, ok63 F1, by rw [ln63 F1]; exact vp_of (by omega) (by decide), ?_⟩
      rw [r63]
      refine ⟨fun _ => ⟨101, rf29_90 F1, 63, rf29_43 F1, ok63 F1, by rw [ln63 F1]; exact vp_of (by omega) (by decide), ok101 F1, ?_⟩, fun z => absurd ((ltn32 (by omega) (by omega)).mpr (by omega)) z⟩
      rw [r63, lt32 (show 410 * moM R + c < 2147483648 by omega), hk c fc (by omega)]
      exact ⟨by rw [ln101 F1]; exact vp_of (by omega) (by decide), H M1 A1⟩
    | succ d ih =>
      intro k M1 hd fk A1 hk
      have kc : k ≤ c := by omega
      have kl : k < (moY R).length := by omega
      have rb := A1.rb (fun c z => by omega)
      have F1 : Fix M1 := rb.fix hI.1
      have S1 := rb.rm hS
      have I1 := rb.bi hI
      have V1 : RSv R ρ M1 := hV.rm (fun c c1 c2 => A1.2.2 c (by omega))
      obtain ⟨s45, s46, s47⟩ := S1.2.2.2.2.1 k kl
      have r63 : mAI M1 63 p = Int32.ofNat (410 * moM R + c) := by rw [A1.2.2 63 (by decide), sA 63 p (by decide) (by decide) p1 p2]; exact a63
      obtain ⟨w4, w1, w2, w3⟩ := wc k fk kc
      have w1 : ((moY R).getD k cd0).1 ≤ 1 → ((moY R).getD k cd0).2.1 < moQ R := w1
      have w2 : 2 ≤ ((moY R).getD k cd0).1 → f ≤ ((moY R).getD k cd0).2.1 ∧ ((moY R).getD k cd0).2.1 < k := w2
      have w3 : 3 ≤ ((moY R).getD k cd0).1 → f ≤ ((moY R).getD k cd0).2.2 ∧ ((moY R).getD k cd0).2.2 < k := w3
      have w4 : ((moY R).getD k cd0).1 ≤ 4 := w4
      have at_k := cvL_at (sv := fun s => ρ (5, s, 0)) (bv := iBf I) kl (fun z => (w2 z).2) (fun z => (w3 z).2)
      rw [← ecv] at at_k
      obtain ⟨t, a, e, et⟩ : ∃ t a e, (moY R).getD k cd0 = (t, a, e) := ⟨_, _, _, rfl⟩
      rw [et] at s45 s46 s47 w1 w2 w3 w4 at_k
      have s45 : mAI M1 45 (410 * moM R + k) = Int32.ofNat t := s45
      have w1 : t ≤ 1 → a < moQ R := w1
      have w2 : 2 ≤ t → f ≤ a ∧ a < k := w2
      have w3 : 3 ≤ t → f ≤ e ∧ e < k := w3
      have w4 : t ≤ 4 := w4
      have lk : (Int32.ofNat (410 * moM R + k)).toNatClampNeg = 410 * moM R + k := lt32 (by omega)
      have vk : ∀ {z : Nat}, z = 1640 → vp_in (Int32.ofNat (410 * moM R + k)) z := fun ez => by rw [ez]; exact vp_of (by omega) (by decide)
      -- the node's value is written
      have fin : ∀ (x : Int32) (M2 : Mem), x = Int32.ofNat (cv.getD k 0) → M2 = wAI M1 101 (410 * moM R + k) x → DX11_condValue_182 (h + 1) 29 (Int32.ofNat p) (Int32.ofNat (410 * moM R + k)) M2 Q := fun x M2 ex e2 => by
        unfold DX11_condValue_182
        rw [succ32, show 410 * moM R + k + 1 = 410 * moM R + (k + 1) by omega]
        refine ih (k + 1) M2 (by omega) (by omega) (A1.tr (ArF.up rfl e2)) (fun j j1 j2 => ?_)
        rw [e2, mAI_wAI]
        by_cases z : j = k
        · rw [if_pos ⟨rfl, by rw [z]⟩, z]; exact ex
        · rw [if_neg (fun q => z (by omega))]; exact hk j j1 (by omega)
      refine VX11_condValue_7 (h := h + 1) ?_
      unfold DX11_condValue_7
      rw [lp, lk]
      refine ⟨ok29 F1, 63, rf29_43 F1, ok63 F1, by rw [ln63 F1]; exact vp_of (by omega) (by decide), ?_⟩
      rw [r63]
      refine ⟨fun z => ?_, fun _ => ⟨45, rf29_21 F1, ok45 F1, vk (ln45 F1), ?_⟩⟩
      · have := (ltn32 (by omega) (by omega)).mp z
        omega
      rw [s45]
      have i46 : ∀ {z : Nat}, 2 ≤ t → z = 1640 → mAI M1 46 (410 * moM R + k) = Int32.ofNat (410 * moM R + a) ∧ (Int32.ofNat (410 * moM R + a)).toNatClampNeg = 410 * moM R + a ∧ vp_in (Int32.ofNat (410 * moM R + a)) z ∧ mAI M1 101 (410 * moM R + a) = Int32.ofNat (cv.getD a 0) := fun {z} ht ez => by
        obtain ⟨a1, a2⟩ := w2 ht
        refine ⟨by rw [s46]; unfold ya; rw [if_neg (show ¬ t < 2 by omega)], lt32 (by omega), by rw [ez]; exact vp_of (by omega) (by decide), hk a a1 a2⟩
      have i47 : ∀ {z : Nat}, 3 ≤ t → z = 1640 → mAI M1 47 (410 * moM R + k) = Int32.ofNat (410 * moM R + e) ∧ (Int32.ofNat (410 * moM R + e)).toNatClampNeg = 410 * moM R + e ∧ vp_in (Int32.ofNat (410 * moM R + e)) z ∧ mAI M1 101 (410 * moM R + e) = Int32.ofNat (cv.getD e 0) := fun {z} ht ez => by
        obtain ⟨a1, a2⟩ := w3 ht
        refine ⟨by rw [s47]; unfold yb; rw [if_neg (show ¬ t ≤ 2 by omega)], lt32 (by omega), by rw [ez]; exact vp_of (by omega) (by decide), hk e a1 a2⟩
      have : t = 0 ∨ t = 1 ∨ t = 2 ∨ t = 3 ∨ t = 4 := by omega
      rcases this with z | z | z | z | z
      · subst z
        have aq := w1 (by decide)
        have e46 : mAI M1 46 (410 * moM R + k) = Int32.ofNat a := by rw [s46]; rfl
        refine ⟨fun _ => ⟨101, rf29_90 F1, 100, rf29_82 F1, 46, rf29_22 F1, ok46 F1, vk (ln46 F1), ok100 F1, ?_⟩, fun q => absurd q (by decide), fun q => absurd q (by decide), fun q => absurd q (by decide), fun q => absurd q (by decide)⟩
        rw [e46, lt32 (show a < 2147483648 by omega), V1.2.2.2.2 a aq]
        exact ⟨by rw [ln100 F1]; exact vp_of (by omega) (by decide), ok101 F1, vk (ln101 F1), fun M16 e16 => fin _ M16 (by rw [at_k]; rfl) e16⟩
      · subst z
        have aq := w1 (by decide)
        have e46 : mAI M1 46 (410 * moM R + k) = Int32.ofNat a := by rw [s46]; rfl
        refine ⟨fun q => absurd q (by decide), fun _ => ⟨101, rf29_90 F1, 46, rf29_22 F1, ok46 F1, vk (ln46 F1), ok101 F1, vk (ln101 F1), fun M21 e21 => fin _ M21 ?_ e21⟩, fun q => absurd q (by decide), fun q => absurd q (by decide), fun q => absurd q (by decide)⟩
        rw [e46, (I1.2.2.2.1 a (by omega)).1, at_k]
        rfl
      · subst z
        obtain ⟨g1, g2, g3, g4⟩ := i46 (by decide) (ln101 F1)
        refine ⟨fun q => absurd q (by decide), fun q => absurd q (by decide), fun _ => ⟨101, rf29_90 F1, 101, rf29_90 F1, 46, rf29_22 F1, ok46 F1, vk (ln46 F1), ok101 F1, ?_⟩, fun q => absurd q (by decide), fun q => absurd q (by decide)⟩
        rw [g1, g2, g4]
        exact ⟨g3, R_other (h := h) (le _) (fun _ => ⟨_, rfl, ok101 F1, vk (ln101 F1), fun M30 e30 => fin _ M30 (by rw [at_k]; rfl) e30⟩)⟩
      · subst z
        obtain ⟨g1, g2, g3, g4⟩ := i46 (by decide) (ln101 F1)
        obtain ⟨k1, k2, k3, k4⟩ := i47 (by decide) (ln101 F1)
        refine ⟨fun q => absurd q (by decide), fun q => absurd q (by decide), fun q => absurd q (by decide), fun _ => ⟨101, rf29_90 F1, 101, rf29_90 F1, 46, rf29_22 F1, ok46 F1, vk (ln46 F1), ok101 F1, ?_⟩, fun q => absurd q (by decide)⟩
        rw [g1, g2, g4]
        refine ⟨g3, 101, rf29_90 F1, 47, rf29_23 F1, ok47 F1, vk (ln47 F1), ok101 F1, ?_⟩
        rw [k1, k2, k4]
        exact ⟨k3, R_both (h := h) (le _) (le _) (fun _ => ⟨_, rfl, ok101 F1, vk (ln101 F1), fun M43 e43 => fin _ M43 (by rw [at_k]; rfl) e43⟩)⟩
      · subst z
        obtain ⟨g1, g2, g3, g4⟩ := i46 (by decide) (ln101 F1)
        obtain ⟨k1, k2, k3, k4⟩ := i47 (by decide) (ln101 F1)
        refine ⟨fun q => absurd q (by decide), fun q => absurd q (by decide), fun q => absurd q (by decide), fun q => absurd q (by decide), fun _ => ⟨101, rf29_90 F1, 101, rf29_90 F1, 46, rf29_22 F1, ok46 F1, vk (ln46 F1), ok101 F1, ?_⟩⟩
        rw [g1, g2, g4]
        refine ⟨g3, 101, rf29_90 F1, 47, rf29_23 F1, ok47 F1, vk (ln47 F1), ok101 F1, ?_⟩
        rw [k1, k2, k4]
        exact ⟨k3, R_either (h := h) (le _) (le _) (fun _ => ⟨_, rfl, ok101 F1, vk (ln101 F1), fun M56 e56 => fin _ M56 (by rw [at_k]; rfl) e56⟩)⟩
  refine KX11_condValue (h := h + 1) ?_
  unfold DX11_condValue_0
  rw [lp]
  have F := hI.1
  have r62 : mAI M 62 p = Int32.ofNat (410 * moM R + f) := by rw [sA 62 p (by decide) (by decide) p1 p2]; exact a62
  refine ⟨ok29 F, 62, rf29_42 F, ok62 F, by rw [ln62 F]; exact vp_of (by omega) (by decide), ?_⟩
  rw [r62]
  exact main (c + 1 - f) f M (by omega) (Nat.le_refl _) ArF.rf (fun j j1 j2 => by omega)
end
