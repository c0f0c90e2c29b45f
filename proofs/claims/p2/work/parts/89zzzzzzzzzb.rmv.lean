/-! the reference's move1 -/
section
variable {M M1 M' : Mem} {n s v h : Nat} {Q : Option Value → Mem → Prop} {R : RMo} {sl il : List Nat} {X : List Nd} {np : Nat} {a : Int32}
theorem R_mv1 (hB : RbM R sl il X np M) (F : Fix M) (em : mI M 29 84 = Int32.ofNat (moM R)) (hr : SrI M (moM R) n) (hL : LdO M) (hs : s < n) (hv : v < 32) (e1 : mAI M 122 (moM R) = 1) (K : ∀ M' n', SkF (moM R) M M' → SrI M' (moM R) n' → n ≤ n' → LdO M' → mI M' 29 84 = Int32.ofNat (moM R) → (mAI M' 122 (moM R) = 1 ∨ mAI M' 122 (moM R) = 2) → Q none M') : E (h + 6) mdX11_move1 [.ref 29, .int (Int32.ofNat (moM R)), .int (Int32.ofNat s), .int (Int32.ofNat v), .int a] M Q := by
  have m4 : moM R < 4 := hB.1.1.1
  have n48 : n ≤ 48 := hr.2.1.2
  have lm : (Int32.ofNat (moM R)).toNatClampNeg = moM R := lt32 (by omega)
  have e48 : 48 * Int32.ofNat (moM R) + Int32.ofNat s = Int32.ofNat (48 * moM R + s) := by rw [Int32.ofNat_add, Int32.ofNat_mul]; rfl
  have eat : 32 * Int32.ofNat (48 * moM R + s) + Int32.ofNat v = Int32.ofNat (32 * (48 * moM R + s) + v) := ix32
  have vm : ∀ {k : Nat}, k = 4 → vp_in (Int32.ofNat (moM R)) k := fun e => by rw [e]; exact vp_of (by omega) (by decide)
  have v48 : ∀ {k : Nat}, k = 192 → vp_in (Int32.ofNat (48 * moM R + s)) k := fun e => by rw [e]; exact vp_of (by omega) (by decide)
  obtain ⟨at0, hat⟩ : ∃ at0, at0 = 32 * (48 * moM R + s) + v := ⟨_, rfl⟩
  have at1 : 1536 * moM R ≤ at0 ∧ at0 < 1536 * moM R + 1536 := by omega
  have vat : ∀ {k : Nat}, k = 6144 → vp_in (Int32.ofNat at0) k := fun e => by rw [e]; exact vp_of (by omega) (by decide)
  have lat : (Int32.ofNat at0).toNatClampNeg = at0 := lt32 (by omega)
  have body : ∀ w : Int32, (w = 0 ∨ w = 1) → ∀ M13, SkF (moM R) M M13 → mI M13 29 84 = Int32.ofNat (moM R) → mAI M13 = mAI M → DX11_move1_81 (h + 5) 29 (Int32.ofNat (moM R)) (Int32.ofNat s) (Int32.ofNat v) a (Int32.ofNat at0) 29 w M13 Q := by
    intro w hw M13 k13 e13 r13
    have F13 := k13.fix F
    unfold DX11_move1_81 DX11_move1_277
    refine ⟨ok29 F13, hw, fun M2 e2 => ?_⟩
    have k2 : SkF (moM R) M M2 := k13.tr (SkF.i (by omega) e2)
    have F2 := k2.fix F
    have B2 := hB.sk k2
    have em2 : mI M2 29 84 = Int32.ofNat (moM R) := by rw [e2, mI_wI, if_neg (fun y => absurd y.2 (by decide))]; exact e13
    have r2 : mAI M2 = mAI M := by rw [e2]; exact r13
    obtain ⟨hI, hbf⟩ := inM_b (il := il) F2 em2
    obtain ⟨g1, g2, g3, g4, g5⟩ := B2.2.2.1
    obtain ⟨n1, n2, n3, n4⟩ := B2.2.1
    refine ⟨ok29 F2, R_solve (h := h) hI hbf B2.1 n1 n2 n3 n4 (inM_l g1 g2 g3 g4 g5) (fun ρ M4 r5 k4 V4 _ _ _ _ => ⟨r5, rfl, fun _ => ?_, fun _ => ?_⟩)⟩
    · have k4' : SkF (moM R) M M4 := k2.tr (SkF.rb k4)
      have F4 := k4'.fix F
      have B4 := hB.sk k4'
      have em4 : mI M4 29 84 = Int32.ofNat (moM R) := by rw [k4.2.2.2.1 84 (by decide)]; exact em2
      have r4 : ∀ c, 102 ≤ c → mAI M4 c = mAI M c := fun c hc => by rw [k4.2.2.2.2 c (fun y => by omega), r2]
      refine ⟨130, rf29_122 F4, R_prNow (h := h + 4) B4.1 F4 em4 (fun r8 _ => ⟨r8, rfl, ok130 F4, vat (ln130 F4), fun M10 e10 => ?_⟩)⟩
      rw [lat] at e10
      have k10 : SkF (moM R) M M10 := k4'.tr (SkF.ai (c := 130) (k := at0) (by unfold skA; omega) e10)
      have F10 := k10.fix F
      have B10 := hB.sk k10
      have em10 : mI M10 29 84 = Int32.ofNat (moM R) := by rw [e10]; exact em4
      have r10 : ∀ c, 102 ≤ c → c ≠ 130 → mAI M10 c = mAI M c := fun c hc hc2 => by rw [e10]; exact (up2_row hc2).trans (r4 c hc)
      have q10 : ∀ c, c ≤ 101 → mAI M10 c = mAI M4 c := fun c hc => by rw [e10]; exact up2_row (by omega)
      have V10 : RSv R ρ M10 := by
        obtain ⟨a1, a2, a3, a4, a5⟩ := V4
        exact ⟨a1, a2, fun c y hc hy => by rw [q10 (95 + c) (by omega)]; exact a3 c y hc hy, fun y n hy hn => by rw [q10 99 (by decide)]; exact a4 y n hy hn, fun s hs => by rw [q10 100 (by decide)]; exact a5 s hs⟩
      have hr10 : SrI M10 (moM R) n := hr.k (r10 123 (by decide) (by decide)) (r10 126 (by decide) (by decide))
      have hL10 : LdO M10 := hL.k (r10 129 (by decide) (by decide))
      have e122 : mAI M10 122 (moM R) = 1 := by rw [r10 122 (by decide) (by decide)]; exact e1
      obtain ⟨y, hy, ey⟩ := B10.2.2.2.2.2
      rw [em10, lm]
      refine ⟨91, rf29_73 F10, ok91 F10, vm (ln91 F10), ?_⟩
      rw [ey]
      refine R_k (h := h + 4) (n := 0) B10.1 (inM_b (il := il) F10 em10).1 V10 hy (by have := B10.1.1.2.2.2.1; omega) (fun _ => ⟨_, rfl, fun _ => ?_, fun _ => ?_⟩)
      · refine R_setNow (h := h + 4) B10.1 F10 em10 (fun r16 _ => ⟨r16, rfl, 130, rf29_122 F10, ok130 F10, vat (ln130 F10), ?_⟩)
        -- a MOVE that leads to STATE q
        have fin : ∀ q M5 n', q < 48 → SkF (moM R) M M5 → SrI M5 (moM R) n' → n ≤ n' → LdO M5 → mI M5 29 84 = Int32.ofNat (moM R) → mAI M5 122 (moM R) = 1 → ∀ z : Int32, z = Int32.ofNat q → ok M5 29 13 ∧ ∃ b2, mR M5 29 121 = some b2 ∧ ok M5 b2 21 ∧ vp_in (Int32.ofNat at0) (mL M5 b2) ∧ ∀ M4, M4 = wAI M5 b2 (Int32.ofNat at0).toNatClampNeg z → Q none M4 := by
          intro q M5 n' hq k5 hr5 hn5 hL5 em5 e5 z ez
          have F5 := k5.fix F
          refine ⟨ok29 F5, 129, rf29_121 F5, ok129 F5, vat (ln129 F5), fun M6 e6 => ?_⟩
          rw [lat] at e6
          refine K M6 n' (k5.tr (SkF.ai (c := 129) (k := at0) (by unfold skA; omega) e6)) (hr5.k (aiN e6 (by decide)) (aiN e6 (by decide))) hn5 (hL5.ai (Or.inr ⟨q, hq, ez⟩) e6) (by rw [e6]; exact em5) (Or.inl ?_)
          rw [e6, mAI_wAI, if_neg (fun y => absurd y.1 (by decide))]; exact e5
        refine R_stO (h := h + 4) F10 m4 hr10.1 n48 (fun q q1 q2 _ _ _ _ => ⟨Int32.ofNat q, rfl, fun _ => fin q M10 n (by omega) k10 hr10 (Nat.le_refl _) hL10 em10 e122 _ rfl, fun z => ?_⟩) (fun _ _ => ⟨-1, rfl, fun z => absurd rfl z, fun _ => ?_⟩)
        · exact absurd z (oi_ne (k := q) (by omega))
        · refine ⟨123, rf29_115 F10, ok123 F10, vm (ln123 F10), fun z => ?_, fun _ => ?_⟩
          · have nlt : n < 48 := by
              rcases Nat.lt_or_ge n 48 with y | y
              · exact y
              · exact absurd (by rw [hr10.1, show n = 48 by omega]; rfl) z
            have e48n : 48 * Int32.ofNat (moM R) + Int32.ofNat n = Int32.ofNat (48 * moM R + n) := by rw [Int32.ofNat_add, Int32.ofNat_mul]; rfl
            have v48n : ∀ {k : Nat}, k = 192 → vp_in (Int32.ofNat (48 * moM R + n)) k := fun e => by rw [e]; exact vp_of (by omega) (by decide)
            have l48n : (Int32.ofNat (48 * moM R + n)).toNatClampNeg = 48 * moM R + n := lt32 (by omega)
            refine ⟨123, rf29_115 F10, ok123 F10, vm (ln123 F10), 123, rf29_115 F10, ok123 F10, vm (ln123 F10), vm (ln123 F10), fun M27 e27 => ?_⟩
            rw [hr10.1, succ32] at e27
            rw [hr10.1, e48n]
            have k27 : SkF (moM R) M M27 := k10.tr (SkF.ai (c := 123) (k := moM R) (by unfold skA; omega) e27)
            have F27 := k27.fix F
            refine ⟨124, rf29_116 F27, ok124 F27, v48n (ln124 F27), fun M30 e30 => ?_⟩
            rw [l48n] at e30
            have k30 : SkF (moM R) M M30 := k27.tr (SkF.ai (c := 124) (k := 48 * moM R + n) (by unfold skA; omega) e30)
            have F30 := k30.fix F
            refine ⟨125, rf29_117 F30, 130, rf29_122 F30, ok130 F30, vat (ln130 F30), ok125 F30, v48n (ln125 F30), fun M35 e35 => ?_⟩
            rw [l48n] at e35
            have k35 : SkF (moM R) M M35 := k30.tr (SkF.ai (c := 125) (k := 48 * moM R + n) (by unfold skA; omega) e35)
            have F35 := k35.fix F
            refine ⟨126, rf29_118 F35, ok126 F35, v48n (ln126 F35), fun M38 e38 => ?_⟩
            rw [l48n] at e38
            have k38 : SkF (moM R) M M38 := k35.tr (SkF.ai (c := 126) (k := 48 * moM R + n) (by unfold skA; omega) e38)
            have F38 := k38.fix F
            refine ⟨127, rf29_119 F38, ok127 F38, v48n (ln127 F38), fun M41 e41 => ?_⟩
            rw [l48n] at e41
            have k41 : SkF (moM R) M M41 := k38.tr (SkF.ai (c := 127) (k := 48 * moM R + n) (by unfold skA; omega) e41)
            have hr38 : SrI M38 (moM R) (n + 1) := hr10.nw (v := 0) nlt hs (by rw [e27]; rfl) ⟨(aiN e35 (by decide)).trans (aiN e30 (by decide)), (aiN e35 (by decide)).trans (aiN e30 (by decide))⟩ e38
            have r41' : ∀ c, c = 129 ∨ c = 122 → mAI M41 c = mAI M10 c := fun c hc => (aiN e41 (by omega)).trans ((aiN e38 (by omega)).trans ((aiN e35 (by omega)).trans ((aiN e30 (by omega)).trans (aiN e27 (by omega)))))
            exact fin n M41 (n + 1) nlt k41 (hr38.k (aiN e41 (by decide)) (aiN e41 (by decide))) (by omega) (hL10.k (r41' 129 (Or.inl rfl))) (by rw [e41, e38, e35, e30, e27]; exact em10) (by rw [r41' 122 (Or.inr rfl)]; exact e122) _ rfl
          · refine ⟨122, rf29_114 F10, ok122 F10, vm (ln122 F10), fun M44 e44 => ?_⟩
            refine K M44 n (k10.tr (SkF.ai (c := 122) (k := moM R) (by unfold skA; omega) e44)) (hr10.k (aiN e44 (by decide)) (aiN e44 (by decide))) (Nat.le_refl _) (hL10.k (aiN e44 (by decide))) (by rw [e44]; exact em10) (Or.inr ?_)
            rw [e44, mAI_wAI, if_pos ⟨rfl, rfl⟩]
      · refine ⟨129, rf29_121 F10, ok129 F10, vat (ln129 F10), fun M47 e47 => ?_⟩
        rw [lat] at e47
        refine K M47 n (k10.tr (SkF.ai (c := 129) (k := at0) (by unfold skA; omega) e47)) (hr10.k (aiN e47 (by decide)) (aiN e47 (by decide))) (Nat.le_refl _) (hL10.ai (Or.inl (by decide)) e47) (by rw [e47]; exact em10) (Or.inl ?_)
        rw [e47, mAI_wAI, if_neg (fun y => absurd y.1 (by decide))]; exact e122
    · have k4' : SkF (moM R) M M4 := k2.tr (SkF.rb k4)
      have F4 := k4'.fix F
      have em4 : mI M4 29 84 = Int32.ofNat (moM R) := by rw [k4.2.2.2.1 84 (by decide)]; exact em2
      have r4 : ∀ c, 102 ≤ c → mAI M4 c = mAI M c := fun c hc => by rw [k4.2.2.2.2 c (fun y => by omega), r2]
      have hr4 : SrI M4 (moM R) n := hr.k (r4 123 (by decide)) (r4 126 (by decide))
      have hL4 : LdO M4 := hL.k (r4 129 (by decide))
      have e122 : mAI M4 122 (moM R) = 1 := by rw [r4 122 (by decide)]; exact e1
      refine ⟨129, rf29_121 F4, ok129 F4, vat (ln129 F4), fun M50 e50 => ?_⟩
      rw [lat] at e50
      have k50 : SkF (moM R) M M50 := k4'.tr (SkF.ai (c := 129) (k := at0) (by unfold skA; omega) e50)
      have F50 := k50.fix F
      refine ⟨130, rf29_122 F50, ok130 F50, vat (ln130 F50), fun M53 e53 => ?_⟩
      rw [lat] at e53
      refine K M53 n (k50.tr (SkF.ai (c := 130) (k := at0) (by unfold skA; omega) e53)) (hr4.k ((aiN e53 (by decide)).trans (aiN e50 (by decide))) ((aiN e53 (by decide)).trans (aiN e50 (by decide)))) (Nat.le_refl _) ((hL4.ai (Or.inl (by decide)) e50).k (aiN e53 (by decide))) (by rw [e53, e50]; exact em4) (Or.inl ?_)
      rw [e53, mAI_wAI, if_neg (fun y => absurd y.1 (by decide)), e50, mAI_wAI, if_neg (fun y => absurd y.1 (by decide))]; exact e122
  refine KX11_move1 (h := h + 5) ?_
  unfold DX11_move1_0
  rw [e48, eat, ← hat]
  refine ⟨ok29 F, 124, rf29_116 F, ok124 F, v48 (ln124 F), fun M4 e4 => ?_⟩
  have k4 : SkF (moM R) M M4 := SkF.i (by omega) e4
  have F4 := k4.fix F
  refine ⟨125, rf29_117 F4, ok125 F4, v48 (ln125 F4), fun M7 e7 => ?_⟩
  have k7 : SkF (moM R) M M7 := k4.tr (SkF.i (by omega) e7)
  have F7 := k7.fix F
  refine ⟨35, rf29_9 F7, ok35 F7, vm (ln35 F7), fun M10 e10 => ?_⟩
  have k10 : SkF (moM R) M M10 := k7.tr (SkF.i (by omega) e10)
  have F10 := k10.fix F
  refine ⟨35, rf29_9 F10, ok35 F10, vm (ln35 F10), fun M13 e13 => ?_⟩
  have k13 : SkF (moM R) M M13 := k10.tr (SkF.i (by omega) e13)
  have em13 : mI M13 29 84 = Int32.ofNat (moM R) := by
    rw [e13, mI_wI, if_neg (fun y => absurd y.2 (by decide)), e10, mI_wI, if_neg (fun y => absurd y.2 (by decide)), e7, mI_wI, if_neg (fun y => absurd y.2 (by decide)), e4, mI_wI, if_neg (fun y => absurd y.2 (by decide))]
    exact em
  have r13 : mAI M13 = mAI M := by rw [e13, e10, e7, e4]; rfl
  exact ⟨fun _ => body 0 (Or.inl rfl) M13 k13 em13 r13, fun _ => body 1 (Or.inr rfl) M13 k13 em13 r13⟩
end
