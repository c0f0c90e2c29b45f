section
/-! the reference's move1 -/
section
variable {M M1 M' : Mem} {n s v h : Nat} {Q : Option Value → Mem → Prop} {R : RMo} {sl il : List Nat} {X : List Nd} {np : Nat} {a : Int32}
theorem R_mv1 (hB : RbM R sl il X np M) (F : Fix M) (em : mI M 29 84 = Int32.ofNat (moM R)) (hr : SrI M (moM R) n) (hL : LdO M) (hs : s < n) (hv : v < 32) (e1 : mAI M 122 (moM R) = 1) (K : ∀ M' n', SkF (moM R) M M' → SrI M' (moM R) n' → n ≤ n' → LdO M' → mI M' 29 84 = Int32.ofNat (moM R) → (mAI M' 122 (moM R) = 1 ∨ mAI M' 122 (moM R) = 2) → Q none M') : E (h + 6) mdX11_move1 [.ref 29, .int (Int32.ofNat (moM R)), .int (Int32.ofNat s), .int (Int32.ofNat v), .int a] M Q := by
  have m4 : moM R < 4 := hB.1.1.1
  have n48 : n ≤ 48 := hr.2.1.2
  have lm : (Int32.ofNat (moM R)).toNatClampNeg = moM R := lt32 (by omega)
  have e48 : 48 * Int32.ofNat (moM R) + Int32.ofNat s = Int32.ofNat (48 * moM R + s) := by rw [Int32.ofNat_add, Int32.ofNat_mul]; rfl
  have eat : 32 * Int32.ofNat (48 * moM R + s) + Int32.ofNat v = Int32.ofNat (32 * (48 * moM R + s) + v) := ix32
  have vm : ∀ {k : Nat}, k = 4 → vp_in (Int32.ofNat (moM R)) k := fun e => by rw [e]; exact vp_of (by omega) (by decide)
  have v48 : ∀ {k : Nat}, k = 192 → vp_in (Int32.ofNat (48 * moM R + s)) k := fun e => by rw [e]; exact vp_of (by omega) (by decide)
  obtain ⟨at0, hat⟩ : ∃ at0, at0 = 32 * (48 * moM R + s) + v := ⟨_, rfl⟩
  have at1 : 1536 * moM R ≤ at0 ∧ at0 < 1536 * moM R + 1536 := by omega
  have vat : ∀ {k : Nat}, k = 6144 → vp_in (Int32.ofNat at0) k := fun e => by rw [e]; exact vp_of (by omega) (by decide)
  have lat : (Int32.ofNat at0).toNatClampNeg = at0 := lt32 (by omega)
  have body : ∀ w : Int32, (w = 0 ∨ w = 1) → ∀ M13, SkF (moM R) M M13 → mI M13 29 84 = Int32.ofNat (moM R) → mAI M13 = mAI M → DX11_move1_81 (h + 5) 29 (Int32.ofNat (moM R)) (Int32.ofNat s) (Int32.ofNat v) a (Int32.ofNat at0) 29 w M13 Q := by
    intro w hw M13 k13 e13 r13
    have F13 := k13.fix F
    unfold DX11_move1_81 DX11_move1_277
    refine ⟨ok29 F13, hw, fun M2 e2 => ?_⟩
    have k2 : SkF (moM R) M M2 := k13.tr (SkF.i (by omega) e2)
    have F2 := k2.fix F
    have B2 := hB.sk k2
    have em2 : mI M2 29 84 = Int32.ofNat (moM R) := by rw [e2, mI_wI, if_neg (fun y => absurd y.2 (by decide))]; exact e13
    have r2 : mAI M2 = mAI M := by rw [e2]; exact r13
    obtain ⟨hI, hbf⟩ := inM_b (il := il) F2 em2
    obtain ⟨g1, g2, g3, g4, g5⟩ := B2.2.2.1
    obtain ⟨n1, n2, n3, n4⟩ := B2.2.1
    refine ⟨ok29 F2, R_solve (h := h) hI hbf B2.1 n1 n2 n3 n4 (inM_l g1 g2 g3 g4 g5) (fun ρ M4 r5 k4 V4 _ _ _ _ => ⟨r5, rfl, fun _ => ?_, fun _ => ?_⟩)⟩
    · have k4' : SkF (moM R) M M4 := k2.tr (SkF.rb k4)
      have F4 := k4'.fix F
      have B4 := hB.sk k4'
      have em4 : mI M4 29 84 = Int32.ofNat (moM R) := by rw [k4.2.2.2.1 84 (by decide)]; exact em2
      have r4 : ∀ c, 102 ≤ c → mAI M4 c = mAI M c := fun c hc => by rw [k4.2.2.2.2 c (fun y => by omega), r2]
      refine ⟨130, rf29_122 F4, R_prNow (h := h + 4) B4.1 F4 em4 (fun r8 _ => ⟨r8, rfl, ok130 F4, vat (ln130 F4), fun M10 e10 => ?_⟩)⟩
      rw [lat] at e10
      have k10 : SkF (moM R) M M10 := k4'.tr (SkF.ai (c := 130) (k := at0) (by unfold skA; omega) e10)
      have F10 := k10.fix F
      have B10 := hB.sk k10
      have em10 : mI M10 29 84 = Int32.ofNat (moM R) := by rw [e10]; exact em4
      have r10 : ∀ c, 102 ≤ c → c ≠ 130 → mAI M10 c = mAI M c := fun c hc hc2 => by rw [e10]; exact (up2_row hc2).trans (r4 c hc)
      have q10 : ∀ c, c ≤ 101 → mAI M10 c = mAI M4 c := fun c hc => by rw [e10]; exact up2_row (by omega)
      have V10 : RSv R ρ M10 := by
        obtain ⟨a1, a2, a3, a4, a5⟩ := V4
        exact ⟨a1, a2, fun c y hc hy => by rw [q10 (95 + c) (by omega)]; exact a3 c y hc hy, fun y n hy hn => by rw [q10 99 (by decide)]; exact a4 y n hy hn, fun s hs => by rw [q10 100 (by decide)]; exact a5 s hs⟩
      have hr10 : SrI M10 (moM R) n := hr.k (r10 123 (by decide) (by decide)) (r10 126 (by decide) (by decide))
      have hL10 : LdO M10 := hL.k (r10 129 (by decide) (by decide))
      have e122 : mAI M10 122 (moM R) = 1 := by rw [r10 122 (by decide) (by decide)]; exact e1
      obtain ⟨y, hy, ey⟩ := B10.2.2.2.2.2
      rw [em10, lm]
      refine ⟨91, rf29_73 F10, ok91 F10, vm (ln91 F10), ?_⟩
      rw [ey]
      refine R_k (h := h + 4) (n := 0) B10.1 (inM_b (il := il) F10 em10).1 V10 hy (by have := B10.1.1.2.2.2.1; omega) (fun _ => ⟨_, rfl, fun _ => ?_, fun _ => ?_⟩)
      · refine R_setNow (h := h + 4) B10.1 F10 em10 (fun r16 _ => ⟨r16, rfl, 130, rf29_122 F10, ok130 F10, vat (ln130 F10), ?_⟩)
        -- a MOVE that leads to STATE q
        have fin : ∀ q M5 n', q < 48 → SkF (moM R) M M5 → SrI M5 (moM R) n' → n ≤ n' → LdO M5 → mI M5 29 84 = Int32.ofNat (moM R) → mAI M5 122 (moM R) = 1 → ∀ z : Int32, z = Int32.ofNat q → ok M5 29 13 ∧ ∃ b2, mR M5 29 121 = some b2 ∧ ok M5 b2 21 ∧ vp_in (Int32.ofNat at0) (mL M5 b2) ∧ ∀ M4, M4 = wAI M5 b2 (Int32.ofNat at0).toNatClampNeg z → Q none M4 := by
          intro q M5 n' hq k5 hr5 hn5 hL5 em5 e5 z ez
          have F5 := k5.fix F
          refine ⟨ok29 F5, 129, rf29_121 F5, ok129 F5, vat (ln129 F5), fun M6 e6 => ?_⟩
          rw [lat] at e6
          refine K M6 n' (k5.tr (SkF.ai (c := 129) (k := at0) (by unfold skA; omega) e6)) (hr5.k (aiN e6 (by decide)) (aiN e6 (by decide))) hn5 (hL5.ai (Or.inr ⟨q, hq, ez⟩) e6) (by rw [e6]; exact em5) (Or.inl ?_)
          rw [e6, mAI_wAI, if_neg (fun y => absurd y.1 (by decide))]; exact e5
        refine R_stO (h := h + 4) F10 m4 hr10.1 n48 (fun q q1 q2 _ _ _ _ => ⟨Int32.ofNat q, rfl, fun _ => fin q M10 n (by omega) k10 hr10 (Nat.le_refl _) hL10 em10 e122 _ rfl, fun z => ?_⟩) (fun _ _ => ⟨-1, rfl, fun z => absurd rfl z, fun _ => ?_⟩)
        · exact absurd z (oi_ne (k := q) (by omega))
        · refine ⟨123, rf29_115 F10, ok123 F10, vm (ln123 F10), fun z => ?_, fun _ => ?_⟩
          · have nlt : n < 48 := by
              rcases Nat.lt_or_ge n 48 with y | y
              · exact y
              · exact absurd (by rw [hr10.1, show n = 48 by omega]; rfl) z
            have e48n : 48 * Int32.ofNat (moM R) + Int32.ofNat n = Int32.ofNat (48 * moM R + n) := by rw [Int32.ofNat_add, Int32.ofNat_mul]; rfl
            have v48n : ∀ {k : Nat}, k = 192 → vp_in (Int32.ofNat (48 * moM R + n)) k := fun e => by rw [e]; exact vp_of (by omega) (by decide)
            have l48n : (Int32.ofNat (48 * moM R + n)).toNatClampNeg = 48 * moM R + n := lt32 (by omega)
            refine ⟨123, rf29_115 F10, ok123 F10, vm (ln123 F10), 123, rf29_115 F10, ok123 F10, vm (ln123 F10), vm (ln123 F10), fun M27 e27 => ?_⟩
            rw [hr10.1, succ32] at e27
            rw [hr10.1, e48n]
            have k27 : SkF (moM R) M M27 := k10.tr (SkF.ai (c := 123) (k := moM R) (by unfold skA; omega) e27)
            have F27 := k27.fix F
            refine ⟨124, rf29_116 F27, ok124 F27, v48n (ln124 F27), fun M30 e30 => ?_⟩
            rw [l48n] at e30
            have k30 : SkF (moM R) M M30 := k27.tr (SkF.ai (c := 124) (k := 48 * moM R + n) (by unfold skA; omega) e30)
            have F30 := k30.fix F
            refine ⟨125, rf29_117 F30, 130, rf29_122 F30, ok130 F30, vat (ln130 F30), ok125 F30, v48n (ln125 F30), fun M35 e35 => ?_⟩
            rw [l48n] at e35
            have k35 : SkF (moM R) M M35 := k30.tr (SkF.ai (c := 125) (k := 48 * moM R + n) (by unfold skA; omega) e35)
            have F35 := k35.fix F
            refine ⟨126, rf29_118 F35, ok126 F35, v48n (ln126 F35), fun M38 e38 => ?_⟩
            rw [l48n] at e38
            have k38 : SkF (moM R) M M38 := k35.tr (SkF.ai (c := 126) (k := 48 * moM R + n) (by unfold skA; omega) e38)
            have F38 := k38.fix F
            refine ⟨127, rf29_119 F38, ok127 F38, v48n (ln127 F38), fun M41 e41 => ?_⟩
            rw [l48n] at e41
            have k41 : SkF (moM R) M M41 := k38.tr (SkF.ai (c := 127) (k := 48 * moM R + n) (by unfold skA; omega) e41)
            have hr38 : SrI M38 (moM R) (n + 1) := hr10.nw (v := 0) nlt hs (by rw [e27]; rfl) ⟨(aiN e35 (by decide)).trans (aiN e30 (by decide)), (aiN e35 (by decide)).trans (aiN e30 (by decide))⟩ e38
            have r41' : ∀ c, c = 129 ∨ c = 122 → mAI M41 c = mAI M10 c := fun c hc => (aiN e41 (by omega)).trans ((aiN e38 (by omega)).trans ((aiN e35 (by omega)).trans ((aiN e30 (by omega)).trans (aiN e27 (by omega)))))
            exact fin n M41 (n + 1) nlt k41 (hr38.k (aiN e41 (by decide)) (aiN e41 (by decide))) (by omega) (hL10.k (r41' 129 (Or.inl rfl))) (by rw [e41, e38, e35, e30, e27]; exact em10) (by rw [r41' 122 (Or.inr rfl)]; exact e122) _ rfl
          · refine ⟨122, rf29_114 F10, ok122 F10, vm (ln122 F10), fun M44 e44 => ?_⟩
            refine K M44 n (k10.tr (SkF.ai (c := 122) (k := moM R) (by unfold skA; omega) e44)) (hr10.k (aiN e44 (by decide)) (aiN e44 (by decide))) (Nat.le_refl _) (hL10.k (aiN e44 (by decide))) (by rw [e44]; exact em10) (Or.inr ?_)
            rw [e44, mAI_wAI, if_pos ⟨rfl, rfl⟩]
      · refine ⟨129, rf29_121 F10, ok129 F10, vat (ln129 F10), fun M47 e47 => ?_⟩
        rw [lat] at e47
        refine K M47 n (k10.tr (SkF.ai (c := 129) (k := at0) (by unfold skA; omega) e47)) (hr10.k (aiN e47 (by decide)) (aiN e47 (by decide))) (Nat.le_refl _) (hL10.ai (Or.inl (by decide)) e47) (by rw [e47]; exact em10) (Or.inl ?_)
        rw [e47, mAI_wAI, if_neg (fun y => absurd y.1 (by decide))]; exact e122
    · have k4' : SkF (moM R) M M4 := k2.tr (SkF.rb k4)
      have F4 := k4'.fix F
      have em4 : mI M4 29 84 = Int32.ofNat (moM R) := by rw [k4.2.2.2.1 84 (by decide)]; exact em2
      have r4 : ∀ c, 102 ≤ c → mAI M4 c = mAI M c := fun c hc => by rw [k4.2.2.2.2 c (fun y => by omega), r2]
      have hr4 : SrI M4 (moM R) n := hr.k (r4 123 (by decide)) (r4 126 (by decide))
      have hL4 : LdO M4 := hL.k (r4 129 (by decide))
      have e122 : mAI M4 122 (moM R) = 1 := by rw [r4 122 (by decide)]; exact e1
      refine ⟨129, rf29_121 F4, ok129 F4, vat (ln129 F4), fun M50 e50 => ?_⟩
      rw [lat] at e50
      have k50 : SkF (moM R) M M50 := k4'.tr (SkF.ai (c := 129) (k := at0) (by unfold skA; omega) e50)
      have F50 := k50.fix F
      refine ⟨130, rf29_122 F50, ok130 F50, vat (ln130 F50), fun M53 e53 => ?_⟩
      rw [lat] at e53
      refine K M53 n (k50.tr (SkF.ai (c := 130) (k := at0) (by unfold skA; omega) e53)) (hr4.k ((aiN e53 (by decide)).trans (aiN e50 (by decide))) ((aiN e53 (by decide)).trans (aiN e50 (by decide)))) (Nat.le_refl _) ((hL4.ai (Or.inl (by decide)) e50).k (aiN e53 (by decide))) (by rw [e53, e50]; exact em4) (Or.inl ?_)
      rw [e53, mAI_wAI, if_neg (fun y => absurd y.1 (by decide)), e50, mAI_wAI, if_neg (fun y => absurd y.1 (by decide))]; exact e122
  refine KX11_move1 (h := h + 5) ?_
  unfold DX11_move1_0
  rw [e48, eat, ← hat]
  refine ⟨ok29 F, 124, rf29_116 F, ok124 F, v48 (ln124 F), fun M4 e4 => ?_⟩
  have k4 : SkF (moM R) M M4 := SkF.i (by omega) e4
  have F4 := k4.fix F
  refine ⟨125, rf29_117 F4, ok125 F4, v48 (ln125 F4), fun M7 e7 => ?_⟩
  have k7 : SkF (moM R) M M7 := k4.tr (SkF.i (by omega) e7)
  have F7 := k7.fix F
  refine ⟨35, rf29_9 F7, ok35 F7, vm (ln35 F7), fun M10 e10 => ?_⟩
  have k10 : SkF (moM R) M M10 := k7.tr (SkF.i (by omega) e10)
  have F10 := k10.fix F
  refine ⟨35, rf29_9 F10, ok35 F10, vm (ln35 F10), fun M13 e13 => ?_⟩
  have k13 : SkF (moM R) M M13 := k10.tr (SkF.i (by omega) e13)
  have em13 : mI M13 29 84 = Int32.ofNat (moM R) := by
    rw [e13, mI_wI, if_neg (fun y => absurd y.2 (by decide)), e10, mI_wI, if_neg (fun y => absurd y.2 (by decide)), e7, mI_wI, if_neg (fun y => absurd y.2 (by decide)), e4, mI_wI, if_neg (fun y => absurd y.2 (by decide))]
    exact em
  have r13 : mAI M13 = mAI M := by rw [e13, e10, e7, e4]; rfl
  exact ⟨fun _ => body 0 (Or.inl rfl) M13 k13 em13 r13, fun _ => body 1 (Or.inr rfl) M13 k13 em13 r13⟩
end
end
section
/-! the reference's areAlike and part1 -/
/-- two STATES' MOVES v are alike -/
def alV (M : Mem) (m : Nat) (o : Int32) (a b v : Nat) : Prop := ((¬ mAI M 129 (32 * (48 * m + a) + v) < 0 ∧ ¬ mAI M 129 (32 * (48 * m + b) + v) < 0 ∧ mAI M 128 (48 * m + (mAI M 129 (32 * (48 * m + a) + v)).toNatClampNeg) = mAI M 128 (48 * m + (mAI M 129 (32 * (48 * m + b) + v)).toNatClampNeg)) ∨ (mAI M 129 (32 * (48 * m + a) + v) < 0 ∧ mAI M 129 (32 * (48 * m + a) + v) = mAI M 129 (32 * (48 * m + b) + v))) ∧ mAI M 130 (32 * (48 * m + a) + v) &&& o = mAI M 130 (32 * (48 * m + b) + v) &&& o
def alkR (M : Mem) (m t : Nat) (o : Int32) (a b : Nat) : Prop := mAI M 128 (48 * m + a) = mAI M 128 (48 * m + b) ∧ ∀ v, v < 2 ^ t → alV M m o a b v
section
variable {M M1 M' : Mem} {m n s t h a b : Nat} {o : Int32} {Q : Option Value → Mem → Prop}
theorem alV.rf {v : Nat} : alV M m o a a v := by
  refine ⟨?_, rfl⟩
  by_cases z : mAI M 129 (32 * (48 * m + a) + v) < 0
  · exact Or.inr ⟨z, rfl⟩
  · exact Or.inl ⟨z, z, rfl⟩
theorem LdO.at {j : Nat} (h : LdO M) (hz : ¬ mAI M 129 j < 0) : ∃ c, c < 48 ∧ mAI M 129 j = Int32.ofNat c := (h j).resolve_left hz
theorem R_alike (F : Fix M) (h4 : m < 4) (hL : LdO M) (hf : FrE M m t) (t5 : t ≤ 5) (ha : a < 48) (hb : b < 48) (K : ∀ r : Int32, (r = 0 ∨ r = 1) → (r = 1 ↔ alkR M m t o a b) → Q (some (.int r)) M) : E (h + 2) mdX11_areAlike [.ref 29, .int (Int32.ofNat m), .int (Int32.ofNat a), .int (Int32.ofNat b), .int o] M Q := by
  obtain ⟨p1, p2⟩ := pw_le t5
  have e48 : ∀ q : Nat, 48 * Int32.ofNat m + Int32.ofNat q = Int32.ofNat (48 * m + q) := fun q => by rw [Int32.ofNat_add, Int32.ofNat_mul]; rfl
  have l48 : ∀ q : Nat, q < 48 → (Int32.ofNat (48 * m + q)).toNatClampNeg = 48 * m + q := fun q hq => lt32 (by omega)
  have v48 : ∀ {k : Nat} (q : Nat), q < 48 → k = 192 → vp_in (Int32.ofNat (48 * m + q)) k := fun q hq e => by rw [e]; exact vp_of (by omega) (by decide)
  have main : ∀ d v (r : Int32), v + d = 2 ^ t → (r = 0 ∨ r = 1) → (r = 1 ↔ (mAI M 128 (48 * m + a) = mAI M 128 (48 * m + b) ∧ ∀ u, u < v → alV M m o a b u)) → T (h + 2) mdX11_areAlike 35 [(0, .ref 29), (1, .int (Int32.ofNat m)), (2, .int (Int32.ofNat a)), (3, .int (Int32.ofNat b)), (4, .int o), (5, .int r), (6, .int (Int32.ofNat v))] [] M Q := by
    intro d
    induction d with
    | zero =>
      intro v r hv hr hi
      have ev : v = 2 ^ t := by omega
      subst ev
      refine VX11_areAlike_35 (h := h + 1) ?_
      unfold DX11_areAlike_35 DX11_areAlike_210
      exact ⟨ok29 F, R_moves (h := h) F h4 hf t5 (fun _ => ⟨_, rfl, fun _ => ⟨hr, K r hr hi⟩, fun z => absurd Int32.le_rfl z⟩)⟩
    | succ d ih =>
      intro v r hv hr hi
      have nle : ¬ Int32.ofNat (2 ^ t) ≤ Int32.ofNat v := fun z => by
        have := (le32 (by omega) (by omega)).mp z
        omega
      refine VX11_areAlike_35 (h := h + 1) ?_
      unfold DX11_areAlike_35 DX11_areAlike_210
      refine ⟨ok29 F, R_moves (h := h) F h4 hf t5 (fun _ => ⟨_, rfl, fun z => absurd z nle, fun _ => ⟨fun z => ⟨hr, K r hr ⟨fun y => ?_, fun y => ?_⟩⟩, fun nz => ?_⟩⟩)⟩
      · rw [z] at y; exact absurd y (by decide)
      · exact hi.mpr ⟨y.1, fun u hu => y.2 u (by omega)⟩
      have r1 : r = 1 := hr.resolve_left nz
      obtain ⟨i1, i2⟩ := hi.mp r1
      have ea : 32 * Int32.ofNat (48 * m + a) + Int32.ofNat v = Int32.ofNat (32 * (48 * m + a) + v) := ix32
      have eb : 32 * Int32.ofNat (48 * m + b) + Int32.ofNat v = Int32.ofNat (32 * (48 * m + b) + v) := ix32
      have la : (Int32.ofNat (32 * (48 * m + a) + v)).toNatClampNeg = 32 * (48 * m + a) + v := lt32 (by omega)
      have lb : (Int32.ofNat (32 * (48 * m + b) + v)).toNatClampNeg = 32 * (48 * m + b) + v := lt32 (by omega)
      have va : ∀ {k : Nat}, k = 6144 → vp_in (Int32.ofNat (32 * (48 * m + a) + v)) k := fun e => by rw [e]; exact vp_of (by omega) (by decide)
      have vb : ∀ {k : Nat}, k = 6144 → vp_in (Int32.ofNat (32 * (48 * m + b) + v)) k := fun e => by rw [e]; exact vp_of (by omega) (by decide)
      have go : ∀ q : Int32, (q = 0 ∨ q = 1) → (q = 1 ↔ alV M m o a b v) → T (h + 2) mdX11_areAlike 35 [(0, .ref 29), (1, .int (Int32.ofNat m)), (2, .int (Int32.ofNat a)), (3, .int (Int32.ofNat b)), (4, .int o), (5, .int q), (6, .int (Int32.ofNat v + 1))] [] M Q := by
        intro q hq hqi
        rw [succ32]
        refine ih (v + 1) q (by omega) hq ⟨fun y => ⟨i1, fun u hu => ?_⟩, fun y => hqi.mpr (y.2 v (by omega))⟩
        by_cases z : u = v
        · rw [z]; exact hqi.mp y
        · exact i2 u (by omega)
      have d201 : ¬ alV M m o a b v → DX11_areAlike_201 (h + 1) 29 (Int32.ofNat m) (Int32.ofNat a) (Int32.ofNat b) o (Int32.ofNat v) M Q := fun na => by
        unfold DX11_areAlike_201 DX11_areAlike_202
        exact go 0 (Or.inl rfl) ⟨fun z => absurd z (by decide), fun z => absurd z na⟩
      have d174 : ((¬ mAI M 129 (32 * (48 * m + a) + v) < 0 ∧ ¬ mAI M 129 (32 * (48 * m + b) + v) < 0 ∧ mAI M 128 (48 * m + (mAI M 129 (32 * (48 * m + a) + v)).toNatClampNeg) = mAI M 128 (48 * m + (mAI M 129 (32 * (48 * m + b) + v)).toNatClampNeg)) ∨ (mAI M 129 (32 * (48 * m + a) + v) < 0 ∧ mAI M 129 (32 * (48 * m + a) + v) = mAI M 129 (32 * (48 * m + b) + v))) → DX11_areAlike_174 (h + 1) 29 (Int32.ofNat m) (Int32.ofNat a) (Int32.ofNat b) o (Int32.ofNat v) (Int32.ofNat (32 * (48 * m + a) + v)) (Int32.ofNat (32 * (48 * m + b) + v)) M Q := fun w => by
        unfold DX11_areAlike_174 DX11_areAlike_202
        rw [la, lb]
        exact ⟨ok29 F, 130, rf29_122 F, ok130 F, va (ln130 F), 130, rf29_122 F, ok130 F, vb (ln130 F), fun ne => d201 (fun y => ne y.2), fun eq => go 1 (Or.inr rfl) ⟨fun _ => ⟨w, eq⟩, fun _ => rfl⟩⟩
      have d140 : ¬ (¬ mAI M 129 (32 * (48 * m + a) + v) < 0 ∧ ¬ mAI M 129 (32 * (48 * m + b) + v) < 0 ∧ mAI M 128 (48 * m + (mAI M 129 (32 * (48 * m + a) + v)).toNatClampNeg) = mAI M 128 (48 * m + (mAI M 129 (32 * (48 * m + b) + v)).toNatClampNeg)) → DX11_areAlike_139 (h + 1) 29 (Int32.ofNat m) (Int32.ofNat a) (Int32.ofNat b) o (Int32.ofNat v) (Int32.ofNat (32 * (48 * m + a) + v)) (Int32.ofNat (32 * (48 * m + b) + v)) M Q := fun w => by
        unfold DX11_areAlike_139 DX11_areAlike_140
        rw [la, lb]
        refine ⟨fun z => absurd rfl z, fun _ => ⟨ok29 F, 129, rf29_121 F, ok129 F, va (ln129 F), fun z0 => d201 (fun y => ?_), fun z0 => ⟨129, rf29_121 F, ok129 F, va (ln129 F), 129, rf29_121 F, ok129 F, vb (ln129 F), fun ne => d201 (fun y => ?_), fun eq => d174 (Or.inr ⟨Int32.not_le.mp z0, eq⟩)⟩⟩⟩
        · rcases y.1 with y | y
          · exact w y
          · exact absurd y.1 (Int32.not_lt.mpr z0)
        · rcases y.1 with y | y
          · exact w y
          · exact ne y.2
      rw [e48, e48, ea, eb, la, lb]
      refine ⟨129, rf29_121 F, ok129 F, va (ln129 F), fun z1 => d140 (fun y => y.1 z1), fun z1 => ⟨129, rf29_121 F, ok129 F, vb (ln129 F), fun z2 => d140 (fun y => y.2.1 z2), fun z2 => ?_⟩⟩
      obtain ⟨c1, c1l, c1e⟩ := hL.at z1
      obtain ⟨c2, c2l, c2e⟩ := hL.at z2
      have q1 : (mAI M 129 (32 * (48 * m + a) + v)).toNatClampNeg = c1 := by rw [c1e]; exact lt32 (by omega)
      have q2 : (mAI M 129 (32 * (48 * m + b) + v)).toNatClampNeg = c2 := by rw [c2e]; exact lt32 (by omega)
      refine ⟨128, rf29_120 F, 129, rf29_121 F, ok129 F, va (ln129 F), ok128 F, by rw [c1e, e48]; exact v48 c1 c1l (ln128 F), 128, rf29_120 F, 129, rf29_121 F, ok129 F, vb (ln129 F), ok128 F, by rw [c2e, e48]; exact v48 c2 c2l (ln128 F), ?_⟩
      have i1' : (48 * Int32.ofNat m + mAI M 129 (32 * (48 * m + a) + v)).toNatClampNeg = 48 * m + (mAI M 129 (32 * (48 * m + a) + v)).toNatClampNeg := by rw [q1, c1e, e48]; exact l48 c1 c1l
      have i2' : (48 * Int32.ofNat m + mAI M 129 (32 * (48 * m + b) + v)).toNatClampNeg = 48 * m + (mAI M 129 (32 * (48 * m + b) + v)).toNatClampNeg := by rw [q2, c2e, e48]; exact l48 c2 c2l
      rw [i1', i2']
      refine ⟨fun ne => d140 (fun y => ne y.2.2), fun eq => ?_⟩
      unfold DX11_areAlike_140
      exact ⟨fun _ => d174 (Or.inl ⟨z1, z2, eq⟩), fun z => absurd z (by decide)⟩
  refine KX11_areAlike (h := h + 1) ?_
  unfold DX11_areAlike_0 DX11_areAlike_30
  rw [e48, e48, l48 a ha, l48 b hb]
  refine ⟨ok29 F, 128, rf29_120 F, ok128 F, v48 a ha (ln128 F), 128, rf29_120 F, ok128 F, v48 b hb (ln128 F), fun ne => ?_, fun eq => ?_⟩
  · exact main (2 ^ t) 0 0 (by omega) (Or.inl rfl) ⟨fun z => absurd z (by decide), fun z => absurd z.1 ne⟩
  · exact main (2 ^ t) 0 1 (by omega) (Or.inr rfl) ⟨fun _ => ⟨eq, fun u hu => absurd hu (Nat.not_lt_zero _)⟩, fun _ => rfl⟩
/-- how far classes are from being parted wholly -/
def wgS (f : Nat → Nat) : Nat → Nat
  | 0 => 0
  | n + 1 => wgS f n + (n - f n)
theorem wgS_le {f g : Nat → Nat} : ∀ n, (∀ s, s < n → f s ≤ g s ∧ g s ≤ s) → wgS g n ≤ wgS f n
  | 0, _ => Nat.le_refl _
  | n + 1, h => by
    have h1 := wgS_le n (fun s hs => h s (by omega))
    have h2 := h n (by omega)
    show wgS g n + (n - g n) ≤ wgS f n + (n - f n)
    omega
theorem wgS_lt {f g : Nat → Nat} : ∀ n, (∀ s, s < n → f s ≤ g s ∧ g s ≤ s) → (∃ s, s < n ∧ f s < g s) → wgS g n < wgS f n
  | 0, _, ⟨s, hs, _⟩ => absurd hs (Nat.not_lt_zero _)
  | n + 1, h, ⟨s, hs, hl⟩ => by
    have h1 := wgS_le n (fun s hs => h s (by omega))
    have h2 := h n (by omega)
    show wgS g n + (n - g n) < wgS f n + (n - f n)
    by_cases z : s = n
    · subst z; omega
    · have := wgS_lt n (fun s hs => h s (by omega)) ⟨s, by omega, hl⟩
      omega
/-- classes of n STATES -/
def ClF (M : Mem) (m n : Nat) (f : Nat → Nat) : Prop := ∀ s, s < n → mAI M 128 (48 * m + s) = Int32.ofNat (f s) ∧ f s ≤ s
theorem R_part1 {S : Nat} (F : Fix M) (h4 : m < 4) (hr : SrI M m n) (hL : LdO M) (hf : FrE M m t) (t5 : t ≤ 5) (eS : mAI M 34 m = Int32.ofNat S) (hS : S ≤ 16) (K : ∀ M' f, SkF m M M' → (∀ c, c ≤ 127 ∨ c = 129 ∨ c = 130 → mAI M' c = mAI M c) → ClF M' m n f → mI M' 29 = mI M 29 → Q none M') : E (h + 3) mdX11_part1 [.ref 29, .int (Int32.ofNat m)] M Q := by
  have n48 : n ≤ 48 := hr.2.1.2
  have lm : (Int32.ofNat m).toNatClampNeg = m := lt32 (by omega)
  have vm : ∀ {k : Nat}, k = 4 → vp_in (Int32.ofNat m) k := fun e => by rw [e]; exact vp_of (by omega) (by decide)
  have e48 : ∀ q : Nat, 48 * Int32.ofNat m + Int32.ofNat q = Int32.ofNat (48 * m + q) := fun q => by rw [Int32.ofNat_add, Int32.ofNat_mul]; rfl
  have l48 : ∀ q : Nat, q < 48 → (Int32.ofNat (48 * m + q)).toNatClampNeg = 48 * m + q := fun q hq => lt32 (by omega)
  have v48 : ∀ {k : Nat} (q : Nat), q < 48 → k = 192 → vp_in (Int32.ofNat (48 * m + q)) k := fun q hq e => by rw [e]; exact vp_of (by omega) (by decide)
  have v1 : ∀ {k : Nat} (q : Nat), q < 48 → k = 48 → vp_in (Int32.ofNat q) k := fun q hq e => by rw [e]; exact vp_of (by omega) (by decide)
  -- what stays
  have st : ∀ M1, (∀ c, c ≤ 127 ∨ c = 129 ∨ c = 130 → mAI M1 c = mAI M c) → SkF m M M1 → Fix M1 ∧ mAI M1 123 m = Int32.ofNat n ∧ LdO M1 ∧ FrE M1 m t := fun M1 r1 k1 => ⟨k1.fix F, by rw [r1 123 (by omega)]; exact hr.1, hL.k (r1 129 (by omega)), hf.sk k1⟩
  have r128 : ∀ {M1 M2 : Mem} {k : Nat} {v : Int32} {b : Nat}, (∀ c, c ≤ 127 ∨ c = 129 ∨ c = 130 → mAI M1 c = mAI M c) → (b = 128 ∨ b = 131) → M2 = wAI M1 b k v → ∀ c, c ≤ 127 ∨ c = 129 ∨ c = 130 → mAI M2 c = mAI M c := fun {M1 M2 k v b} r1 hb e c hc => by
    rw [e]
    exact (up2_row (by omega)).trans (r1 c hc)
  have rnd : ∀ (x2 : Int32) (f : Nat → Nat) M1, (∀ c, c ≤ 127 ∨ c = 129 ∨ c = 130 → mAI M1 c = mAI M c) → SkF m M M1 → mI M1 29 = mI M 29 → ClF M1 m n f → (∀ g M5 (x3 : Int32), (∀ s, s < n → f s ≤ g s ∧ g s ≤ s) → (x3 = 0 ∨ (x3 = 1 ∧ ∃ s, s < n ∧ f s < g s)) → (∀ c, c ≤ 127 ∨ c = 129 ∨ c = 130 → mAI M5 c = mAI M c) → SkF m M M5 → mI M5 29 = mI M 29 → ClF M5 m n g → T (h + 3) mdX11_part1 77 [(0, .ref 29), (1, .int (Int32.ofNat m)), (2, .int x2), (3, .int x3)] [] M5 Q) → T (h + 3) mdX11_part1 86 [(0, .ref 29), (1, .int (Int32.ofNat m)), (2, .int x2), (3, .int 0), (4, .int (Int32.ofNat 0))] [] M1 Q := by
    intro x2 f M1 r1 k1 g1 hC H
    -- the new classes are laid down
    have l137 : ∀ d s (x3 : Int32) (g : Nat → Nat) M3, s + d = n → (∀ q, q < n → f q ≤ g q ∧ g q ≤ q) → (∀ c, c ≤ 127 ∨ c = 129 ∨ c = 130 → mAI M3 c = mAI M c) → SkF m M M3 → mI M3 29 = mI M 29 → (∀ q, q < n → mAI M3 131 q = Int32.ofNat (g q)) → (∀ q, q < n → mAI M3 128 (48 * m + q) = Int32.ofNat (if q < s then g q else f q)) → (x3 = 0 ∨ (x3 = 1 ∧ ∃ q, q < n ∧ f q < g q)) → T (h + 3) mdX11_part1 137 [(0, .ref 29), (1, .int (Int32.ofNat m)), (2, .int x2), (3, .int x3), (4, .int (Int32.ofNat s))] [] M3 Q := by
      intro d
      induction d with
      | zero =>
        intro s x3 g M3 hs fg r3 k3 g3 n3 c3 hx
        obtain ⟨F3, e3, -, -⟩ := st M3 r3 k3
        refine VX11_part1_137 (h := h + 2) ?_
        unfold DX11_part1_137
        refine ⟨ok29 F3, 123, rf29_115 F3, ok123 F3, vm (ln123 F3), ?_⟩
        rw [lm, e3]
        refine ⟨fun _ => H g M3 x3 fg hx r3 k3 g3 (fun q hq => ⟨?_, (fg q hq).2⟩), fun z => absurd ((le32 (by omega) (by omega)).mpr (by omega)) z⟩
        rw [c3 q hq, if_pos (by omega)]
      | succ d ih =>
        intro s x3 g M3 hs fg r3 k3 g3 n3 c3 hx
        obtain ⟨F3, e3, -, -⟩ := st M3 r3 k3
        have sn : s < n := by omega
        have lq : (Int32.ofNat s).toNatClampNeg = s := lt32 (by omega)
        have nx : ∀ x3 : Int32, (x3 = 0 ∨ (x3 = 1 ∧ ∃ q, q < n ∧ f q < g q)) → DX11_part1_179 (h + 2) 29 (Int32.ofNat m) x2 (Int32.ofNat s) x3 M3 Q := by
          intro x3 hx
          unfold DX11_part1_179
          rw [e48, l48 s (by omega), lq, succ32]
          refine ⟨ok29 F3, 128, rf29_120 F3, 131, rf29_125 F3, ok131 F3, v1 s (by omega) (ln131 F3), ok128 F3, v48 s (by omega) (ln128 F3), fun M6 e6 => ?_⟩
          rw [n3 s sn] at e6
          refine ih (s + 1) x3 g M6 (by omega) fg (r128 r3 (Or.inl rfl) e6) (k3.tr (SkF.ai (c := 128) (k := 48 * m + s) (by unfold skA; omega) e6)) (by rw [e6]; exact g3) (fun q hq => ?_) (fun q hq => ?_) hx
          · rw [e6, mAI_wAI, if_neg (fun y => absurd y.1 (by decide))]; exact n3 q hq
          · rw [e6, mAI_wAI]
            by_cases z : q = s
            · rw [if_pos ⟨rfl, by omega⟩, if_pos (by omega), z]
            · rw [if_neg (fun y => z (by have := y.2; omega)), c3 q hq]
              by_cases y : q < s
              · rw [if_pos y, if_pos (by omega)]
              · rw [if_neg y, if_neg (by omega)]
        refine VX11_part1_137 (h := h + 2) ?_
        unfold DX11_part1_137 DX11_part1_174
        refine ⟨ok29 F3, 123, rf29_115 F3, ok123 F3, vm (ln123 F3), ?_⟩
        rw [lm, e3, e48, l48 s (by omega), lq]
        refine ⟨fun z => absurd ((le32 (by omega) (by omega)).mp z) (by omega), fun _ => ⟨fun z => nx 1 (Or.inr ⟨rfl, (hx.resolve_left z).2⟩), fun z => ⟨128, rf29_120 F3, ok128 F3, v48 s (by omega) (ln128 F3), 131, rf29_125 F3, ok131 F3, v1 s (by omega) (ln131 F3), fun _ => nx 0 (Or.inl rfl), fun y => nx 1 (Or.inr ⟨rfl, s, sn, ?_⟩)⟩⟩⟩
        rw [n3 s sn, c3 s sn, if_neg (Nat.lt_irrefl s)] at y
        have q := fg s sn
        rcases Nat.lt_or_ge (f s) (g s) with w | w
        · exact w
        · exact absurd (by rw [show f s = g s by omega]) y
    -- the new classes are found
    have l86 : ∀ d s (g : Nat → Nat) M3, s + d = n → (∀ q, q < s → f q ≤ g q ∧ g q ≤ q) → (∀ c, c ≤ 127 ∨ c = 129 ∨ c = 130 → mAI M3 c = mAI M c) → mAI M3 128 = mAI M1 128 → SkF m M M3 → mI M3 29 = mI M 29 → (∀ q, q < s → mAI M3 131 q = Int32.ofNat (g q)) → T (h + 3) mdX11_part1 86 [(0, .ref 29), (1, .int (Int32.ofNat m)), (2, .int x2), (3, .int 0), (4, .int (Int32.ofNat s))] [] M3 Q := by
      intro d
      induction d with
      | zero =>
        intro s g M3 hs fg r3 q3 k3 g3 n3
        have es : s = n := by omega
        subst es
        obtain ⟨F3, e3, -, -⟩ := st M3 r3 k3
        refine VX11_part1_86 (h := h + 2) ?_
        unfold DX11_part1_86
        refine ⟨ok29 F3, 123, rf29_115 F3, ok123 F3, vm (ln123 F3), ?_⟩
        rw [lm, e3]
        refine ⟨fun _ => l137 s 0 0 g M3 (by omega) fg r3 k3 g3 n3 (fun q hq => ?_) (Or.inl rfl), fun z => absurd Int32.le_rfl z⟩
        rw [q3, if_neg (Nat.not_lt_zero _)]
        exact (hC q hq).1
      | succ d ih =>
        intro s g M3 hs fg r3 q3 k3 g3 n3
        have sn : s < n := by omega
        obtain ⟨F3, e3, hL3, hf3⟩ := st M3 r3 k3
        have lq : (Int32.ofNat s).toNatClampNeg = s := lt32 (by omega)
        have l100 : ∀ e c, c + e = s → T (h + 3) mdX11_part1 100 [(0, .ref 29), (1, .int (Int32.ofNat m)), (2, .int x2), (3, .int 0), (4, .int (Int32.ofNat s)), (5, .int (Int32.ofNat c))] [] M3 Q := by
          intro e
          induction e with
          | zero =>
            intro c hc
            have ec : c = s := by omega
            subst ec
            refine VX11_part1_100 (h := h + 2) ?_
            unfold DX11_part1_100
            refine ⟨ok29 F3, R_alike (h := h) F3 h4 hL3 hf3 t5 (by omega) (by omega) (fun r hr hi _ => ⟨r, rfl, fun _ => ⟨131, rf29_125 F3, ok131 F3, v1 c (by omega) (ln131 F3), fun M6 e6 => ?_⟩, fun z => ?_⟩)⟩
            · rw [lq] at e6
              rw [succ32]
              refine ih (c + 1) (fun q => if q = c then c else g q) M6 (by omega) (fun q hq => ?_) (r128 r3 (Or.inr rfl) e6) ((aiN e6 (by decide)).trans q3) (k3.tr (SkF.ai9 e6)) (by rw [e6]; exact g3) (fun q hq => ?_)
              · by_cases z : q = c
                · rw [if_pos z, z]; exact ⟨(hC c sn).2, Nat.le_refl _⟩
                · rw [if_neg z]; exact fg q (by omega)
              · rw [e6, mAI_wAI]
                by_cases z : q = c
                · rw [if_pos ⟨rfl, z⟩, if_pos z]
                · rw [if_neg (fun y => z y.2), if_neg z]; exact n3 q (by omega)
            · rw [hi.mpr ⟨rfl, fun v _ => alV.rf⟩] at z
              exact absurd z (by decide)
          | succ e ihe =>
            intro c hc
            refine VX11_part1_100 (h := h + 2) ?_
            unfold DX11_part1_100
            refine ⟨ok29 F3, R_alike (h := h) F3 h4 hL3 hf3 t5 (by omega) (by omega) (fun r hr hi _ => ⟨r, rfl, fun z => ⟨131, rf29_125 F3, ok131 F3, v1 s (by omega) (ln131 F3), fun M6 e6 => ?_⟩, fun z => ?_⟩)⟩
            · rw [lq] at e6
              rw [succ32]
              have al := (hi.mp (hr.resolve_left z)).1
              rw [q3, (hC c (by omega)).1, (hC s sn).1] at al
              have e9 : f c = f s := by
                have b1 := (hC c (by omega)).2
                have b2 := (hC s sn).2
                exact inj32 (by omega) (by omega) al
              refine ih (s + 1) (fun q => if q = s then c else g q) M6 (by omega) (fun q hq => ?_) (r128 r3 (Or.inr rfl) e6) ((aiN e6 (by decide)).trans q3) (k3.tr (SkF.ai9 e6)) (by rw [e6]; exact g3) (fun q hq => ?_)
              · by_cases z : q = s
                · rw [if_pos z, z, ← e9]; exact ⟨(hC c (by omega)).2, by omega⟩
                · rw [if_neg z]; exact fg q (by omega)
              · rw [e6, mAI_wAI]
                by_cases z : q = s
                · rw [if_pos ⟨rfl, z⟩, if_pos z]
                · rw [if_neg (fun y => z y.2), if_neg z]; exact n3 q (by omega)
            · rw [succ32]
              exact ihe (c + 1) (by omega)
        refine VX11_part1_86 (h := h + 2) ?_
        unfold DX11_part1_86
        refine ⟨ok29 F3, 123, rf29_115 F3, ok123 F3, vm (ln123 F3), ?_⟩
        rw [lm, e3]
        exact ⟨fun z => absurd ((le32 (by omega) (by omega)).mp z) (by omega), fun _ => l100 s 0 (by omega)⟩
    exact l86 n 0 (fun _ => 0) M1 (by omega) (fun q hq => absurd hq (Nat.not_lt_zero _)) r1 rfl k1 g1 (fun q hq => absurd hq (Nat.not_lt_zero _))
  have l77 : ∀ w (x2 x3 : Int32) (f : Nat → Nat) M1, wgS f n ≤ w → (∀ c, c ≤ 127 ∨ c = 129 ∨ c = 130 → mAI M1 c = mAI M c) → SkF m M M1 → mI M1 29 = mI M 29 → ClF M1 m n f → T (h + 3) mdX11_part1 77 [(0, .ref 29), (1, .int (Int32.ofNat m)), (2, .int x2), (3, .int x3)] [] M1 Q := by
    intro w
    induction w with
    | zero =>
      intro x2 x3 f M1 hw r1 k1 g1 hC
      refine VX11_part1_77 (h := h + 2) ?_
      unfold DX11_part1_77
      refine ⟨fun _ => K M1 f k1 r1 hC g1, fun _ => rnd x2 f M1 r1 k1 g1 hC (fun g M5 x5 fg hx r5 k5 g5 C5 => ?_)⟩
      rcases hx with hx | ⟨-, hq⟩
      · rw [hx]
        refine VX11_part1_77 (h := h + 2) ?_
        unfold DX11_part1_77
        exact ⟨fun _ => K M5 g k5 r5 C5 g5, fun z => absurd rfl z⟩
      · exact absurd (wgS_lt n fg hq) (by omega)
    | succ w ih =>
      intro x2 x3 f M1 hw r1 k1 g1 hC
      refine VX11_part1_77 (h := h + 2) ?_
      unfold DX11_part1_77
      refine ⟨fun _ => K M1 f k1 r1 hC g1, fun _ => rnd x2 f M1 r1 k1 g1 hC (fun g M5 x5 fg hx r5 k5 g5 C5 => ?_)⟩
      rcases hx with hx | ⟨-, hq⟩
      · rw [hx]
        refine VX11_part1_77 (h := h + 2) ?_
        unfold DX11_part1_77
        exact ⟨fun _ => K M5 g k5 r5 C5 g5, fun z => absurd rfl z⟩
      · exact ih x2 x5 g M5 (by have := wgS_lt n fg hq; omega) r5 k5 g5 C5
  have l47 : ∀ d s (x2 : Int32) M1, s + d = n → (∀ c, c ≤ 127 ∨ c = 129 ∨ c = 130 → mAI M1 c = mAI M c) → SkF m M M1 → mI M1 29 = mI M 29 → (∀ q, q < s → mAI M1 128 (48 * m + q) = Int32.ofNat 0) → T (h + 3) mdX11_part1 47 [(0, .ref 29), (1, .int (Int32.ofNat m)), (2, .int x2), (3, .int (Int32.ofNat s))] [] M1 Q := by
    intro d
    induction d with
    | zero =>
      intro s x2 M1 hs r1 k1 g1 c1
      have es : s = n := by omega
      subst es
      obtain ⟨F1, e1, -, -⟩ := st M1 r1 k1
      refine VX11_part1_47 (h := h + 2) ?_
      unfold DX11_part1_47
      refine ⟨ok29 F1, 123, rf29_115 F1, ok123 F1, vm (ln123 F1), ?_⟩
      rw [lm, e1]
      exact ⟨fun _ => l77 _ x2 1 (fun _ => 0) M1 (Nat.le_refl _) r1 k1 g1 (fun q hq => ⟨c1 q hq, Nat.zero_le _⟩), fun z => absurd Int32.le_rfl z⟩
    | succ d ih =>
      intro s x2 M1 hs r1 k1 g1 c1
      obtain ⟨F1, e1, -, -⟩ := st M1 r1 k1
      refine VX11_part1_47 (h := h + 2) ?_
      unfold DX11_part1_47
      refine ⟨ok29 F1, 123, rf29_115 F1, ok123 F1, vm (ln123 F1), ?_⟩
      rw [lm, e1, e48, l48 s (by omega), succ32]
      refine ⟨fun z => absurd ((le32 (by omega) (by omega)).mp z) (by omega), fun _ => ⟨128, rf29_120 F1, ok128 F1, v48 s (by omega) (ln128 F1), fun M6 e6 => ?_⟩⟩
      refine ih (s + 1) x2 M6 (by omega) (r128 r1 (Or.inl rfl) e6) (k1.tr (SkF.ai (c := 128) (k := 48 * m + s) (by unfold skA; omega) e6)) (by rw [e6]; exact g1) (fun q hq => ?_)
      rw [e6, mAI_wAI]
      by_cases z : q = s
      · rw [if_pos ⟨rfl, by omega⟩]; rfl
      · rw [if_neg (fun y => z (by have := y.2; omega))]; exact c1 q (by omega)
  have l4 : ∀ d s (x2 : Int32), s + d = S → T (h + 3) mdX11_part1 4 [(0, .ref 29), (1, .int (Int32.ofNat m)), (2, .int x2), (3, .int (Int32.ofNat s))] [] M Q := by
    intro d
    induction d with
    | zero =>
      intro s x2 hs
      have es : s = S := by omega
      subst es
      refine VX11_part1_4 (h := h + 2) ?_
      unfold DX11_part1_4
      refine ⟨ok29 F, 34, rf29_8 F, ok34 F, vm (ln34 F), ?_⟩
      rw [lm, eS]
      exact ⟨fun _ => l47 n 0 x2 M (by omega) (fun _ _ => rfl) SkF.rf rfl (fun q hq => absurd hq (Nat.not_lt_zero _)), fun z => absurd Int32.le_rfl z⟩
    | succ d ih =>
      intro s x2 hs
      have e16 : 16 * Int32.ofNat m + Int32.ofNat s = Int32.ofNat (16 * m + s) := by rw [Int32.ofNat_add, Int32.ofNat_mul]; rfl
      refine VX11_part1_4 (h := h + 2) ?_
      unfold DX11_part1_4 DX11_part1_37
      refine ⟨ok29 F, 34, rf29_8 F, ok34 F, vm (ln34 F), ?_⟩
      rw [lm, eS, e16, succ32]
      exact ⟨fun z => absurd ((le32 (by omega) (by omega)).mp z) (by omega), fun _ => ⟨38, rf29_12 F, ok38 F, by rw [ln38 F]; exact vp_of (by omega) (by decide), fun _ => ih (s + 1) _ (by omega), fun _ => ih (s + 1) _ (by omega)⟩⟩
  refine KX11_part1 (h := h + 2) ?_
  unfold DX11_part1_0
  exact l4 S 0 0 (by omega)
end
end
section
/-! the reference's look, and its whole state -/
/-- a module's search: not made, beyond, or made -/
def SrG (M : Mem) (m : Nat) : Prop := mAI M 122 m = 0 ∨ mAI M 122 m = 2 ∨ (mAI M 122 m = 1 ∧ ∃ n t f, SrI M m n ∧ FrE M m t ∧ t ≤ 5 ∧ ClF M m n f)
/-- the reference as a whole: mods modules, govs governors -/
def RvS (M : Mem) (mods govs : Nat) : Prop := RGs M mods govs ∧ LdO M ∧ ∀ m, m < mods → (∃ R sl il X np, moM R = m ∧ RbM R sl il X np M) ∧ SrG M m ∧ ∃ f, f ≤ 100 ∧ mAI M 56 m = Int32.ofNat f
/-- only the reference's own cells change -/
abbrev RrF (M M' : Mem) : Prop := RfF (fun f => (83 ≤ f ∧ f ≤ 89) ∨ f = 123 ∨ f = 124) (fun c => (95 ≤ c ∧ c ≤ 101) ∨ (122 ≤ c ∧ c ≤ 131)) noP M M'
section
variable {M M1 M' : Mem} {m i n s t h mods govs : Nat} {Q : Option Value → Mem → Prop} {R : RMo} {sl il : List Nat} {X : List Nd} {np : Nat}
theorem SkF.rr (k : SkF m M M') : RrF M M' := RfF.mo k.1 (fun _ z => Or.inl z) (fun c z => z) (fun c z => z)
theorem SrG.ne (hG : SrG M m) (hi : m ≠ i) (k : SkF i M M') : SrG M' m := by
  have a1 : ∀ c, c = 122 ∨ c = 123 → mAI M' c m = mAI M c m := fun c hc => k.2 c m (by omega) (by omega) (by unfold skA; omega)
  have a2 : ∀ c s, s < 48 → c = 126 ∨ c = 128 → mAI M' c (48 * m + s) = mAI M c (48 * m + s) := fun c s hs hc => k.2 c _ (by omega) (by omega) (by unfold skA; omega)
  rcases hG with g | g | ⟨g, n, t, f, ⟨b1, b2, b3, b4⟩, b5, b6, b7⟩
  · exact Or.inl (by rw [a1 122 (by omega)]; exact g)
  · exact Or.inr (Or.inl (by rw [a1 122 (by omega)]; exact g))
  · refine Or.inr (Or.inr ⟨by rw [a1 122 (by omega)]; exact g, n, t, f, ⟨by rw [a1 123 (by omega)]; exact b1, b2, ?_, fun s s1 s2 => ?_⟩, b5.sk k, b6, fun s hs => ?_⟩)
    · have := a2 126 0 (by decide) (by omega)
      rw [Nat.add_zero] at this
      rw [this]; exact b3
    · rw [a2 126 s (by omega) (by omega)]; exact b4 s s1 s2
    · rw [a2 128 s (by omega) (by omega)]; exact b7 s hs
theorem R_look {S : Nat} (hB : RbM R sl il X np M) (F : Fix M) (hL : LdO M) (hG : SrG M (moM R)) (hf : FrE M (moM R) t) (t9 : t ≤ 1000) (eS : mAI M 34 (moM R) = Int32.ofNat S) (hS : S ≤ 16) (K : ∀ M', SkF (moM R) M M' → LdO M' → SrG M' (moM R) → mAI M' 122 (moM R) ≠ 0 → Q none M') : E (h + 7) mdX11_look [.ref 29, .int (Int32.ofNat (moM R))] M Q := by
  have m4 : moM R < 4 := hB.1.1.1
  have lm : (Int32.ofNat (moM R)).toNatClampNeg = moM R := lt32 (by omega)
  have vm : ∀ {k : Nat}, k = 4 → vp_in (Int32.ofNat (moM R)) k := fun e => by rw [e]; exact vp_of (by omega) (by decide)
  have e480 : 48 * Int32.ofNat (moM R) = Int32.ofNat (48 * moM R) := by rw [Int32.ofNat_mul]; rfl
  have v48 : ∀ {k : Nat}, k = 192 → vp_in (Int32.ofNat (48 * moM R)) k := fun e => by rw [e]; exact vp_of (by omega) (by decide)
  have l48 : (Int32.ofNat (48 * moM R)).toNatClampNeg = 48 * moM R := lt32 (by omega)
  -- its end
  have d194 : ∀ M1 n1, t ≤ 5 → SkF (moM R) M M1 → SrI M1 (moM R) n1 → LdO M1 → (mAI M1 122 (moM R) = 1 ∨ mAI M1 122 (moM R) = 2) → DX11_look_194 (h + 6) 29 (Int32.ofNat (moM R)) M1 Q := by
    intro M1 n1 t5 k1 r1 L1 e1
    have F1 := k1.fix F
    unfold DX11_look_194 DX11_look_209
    rw [lm]
    refine ⟨ok29 F1, 122, rf29_114 F1, ok122 F1, vm (ln122 F1), fun z => ?_, fun z => ?_⟩
    · have e2 := e1.resolve_left z
      exact K M1 k1 L1 (Or.inr (Or.inl e2)) (by rw [e2]; decide)
    · refine R_part1 (h := h + 3) F1 m4 r1 L1 (hf.sk k1) t5 (by rw [k1.row (Or.inl (by decide))]; exact eS) hS (fun M2 f k2 r2 C2 _ _ => ⟨rfl, ?_⟩)
      have e2 : mAI M2 122 (moM R) = 1 := by rw [r2 122 (by omega)]; exact z
      exact K M2 (k1.tr k2) (L1.k (r2 129 (by omega))) (Or.inr (Or.inr ⟨e2, n1, t, f, r1.k (r2 123 (by omega)) (r2 126 (by omega)), (hf.sk k1).sk k2, t5, C2⟩)) (by rw [e2]; decide)
  -- STATE by STATE
  have l130 : ∀ (x2 : Int32) d s M1 n1, t ≤ 5 → s + d = 48 → SkF (moM R) M M1 → SrI M1 (moM R) n1 → LdO M1 → mI M1 29 84 = Int32.ofNat (moM R) → (mAI M1 122 (moM R) = 1 ∨ mAI M1 122 (moM R) = 2) → T (h + 7) mdX11_look 130 [(0, .ref 29), (1, .int (Int32.ofNat (moM R))), (2, .int x2), (3, .int (Int32.ofNat s))] [] M1 Q := by
    intro x2 d
    induction d with
    | zero =>
      intro s M1 n1 t5 hs k1 r1 L1 g1 e1
      have F1 := k1.fix F
      have n48 := r1.2.1.2
      refine VX11_look_130 (h := h + 6) ?_
      unfold DX11_look_130
      refine ⟨ok29 F1, 123, rf29_115 F1, ok123 F1, vm (ln123 F1), ?_⟩
      rw [lm, r1.1]
      have hs8 : s = 48 := hs
      exact ⟨fun _ => d194 M1 n1 t5 k1 r1 L1 e1, fun z => absurd ((le32 (a := n1) (b := s) (by omega) (by omega)).mpr (by omega)) z⟩
    | succ d ih =>
      intro s M1 n1 t5 hs k1 r1 L1 g1 e1
      have F1 := k1.fix F
      have n48 := r1.2.1.2
      obtain ⟨p1, p2⟩ := pw_le t5
      have l153 : ∀ e v M2 n2, v + e = 2 ^ t → n1 ≤ n2 → SkF (moM R) M M2 → SrI M2 (moM R) n2 → LdO M2 → mI M2 29 84 = Int32.ofNat (moM R) → s < n2 → (mAI M2 122 (moM R) = 1 ∨ mAI M2 122 (moM R) = 2) → T (h + 7) mdX11_look 153 [(0, .ref 29), (1, .int (Int32.ofNat (moM R))), (2, .int x2), (3, .int (Int32.ofNat s)), (4, .int (Int32.ofNat v))] [] M2 Q := by
        intro e
        induction e with
        | zero =>
          intro v M2 n2 hv hn k2 r2 L2 g2 sn e2
          have F2 := k2.fix F
          have ev : v = 2 ^ t := by omega
          subst ev
          refine VX11_look_153 (h := h + 6) ?_
          unfold DX11_look_153 DX11_look_188
          rw [succ32]
          exact ⟨ok29 F2, R_moves (h := h + 5) F2 m4 (hf.sk k2) t5 (fun _ => ⟨_, rfl, fun _ => ih (s + 1) M2 n2 t5 (by omega) k2 r2 L2 g2 e2, fun z => absurd Int32.le_rfl z⟩)⟩
        | succ e ihe =>
          intro v M2 n2 hv hn k2 r2 L2 g2 sn e2
          have F2 := k2.fix F
          have nle : ¬ Int32.ofNat (2 ^ t) ≤ Int32.ofNat v := fun z => by
            have := (le32 (by omega) (by omega)).mp z
            omega
          refine VX11_look_153 (h := h + 6) ?_
          unfold DX11_look_153 DX11_look_188
          rw [succ32, succ32]
          refine ⟨ok29 F2, R_moves (h := h + 5) F2 m4 (hf.sk k2) t5 (fun _ => ⟨_, rfl, fun z => absurd z nle, fun _ => ⟨122, rf29_114 F2, ok122 F2, vm (ln122 F2), fun _ => ih (s + 1) M2 n2 t5 (by omega) k2 r2 L2 g2 e2, fun z => ?_⟩⟩)⟩
          rw [lm] at z
          exact R_mv1 (h := h) (hB.sk k2) F2 g2 r2 L2 sn (by omega) z (fun M3 n3 k3 r3 hn3 L3 g3 e3 _ => ⟨rfl, ihe (v + 1) M3 n3 (by omega) (by omega) (k2.tr k3) r3 L3 g3 (by omega) e3⟩)
      refine VX11_look_130 (h := h + 6) ?_
      unfold DX11_look_130
      refine ⟨ok29 F1, 123, rf29_115 F1, ok123 F1, vm (ln123 F1), ?_⟩
      rw [lm, r1.1]
      refine ⟨fun _ => d194 M1 n1 t5 k1 r1 L1 e1, fun z => ⟨122, rf29_114 F1, ok122 F1, vm (ln122 F1), fun _ => d194 M1 n1 t5 k1 r1 L1 e1, fun _ => ?_⟩⟩
      have sn : s < n1 := by
        rcases Nat.lt_or_ge s n1 with y | y
        · exact y
        · exact absurd ((le32 (by omega) (by omega)).mpr y) z
      exact l153 (2 ^ t) 0 M1 n1 (by omega) (Nat.le_refl _) k1 r1 L1 g1 sn e1
  refine KX11_look (h := h + 6) ?_
  unfold DX11_look_0
  refine ⟨ok29 F, 122, rf29_114 F, ok122 F, vm (ln122 F), ?_⟩
  rw [lm]
  refine ⟨fun z => ⟨122, rf29_114 F, ok122 F, vm (ln122 F), fun M6 e6 => ?_⟩, fun z => K M SkF.rf hL hG (fun y => z (by rw [y]; decide))⟩
  have k6 : SkF (moM R) M M6 := SkF.ai (c := 122) (k := moM R) (by unfold skA; omega) e6
  have F6 := k6.fix F
  obtain ⟨i, f, f1, f2, f3⟩ := hf.sk k6
  refine ⟨35, rf29_9 F6, ok35 F6, vm (ln35 F6), 56, rf29_36 F6, ok56 F6, vm (ln56 F6), ?_⟩
  rw [f1, f2, add32, f3]
  refine ⟨fun z5 => ?_, fun z5 => ⟨122, rf29_114 F6, ok122 F6, vm (ln122 F6), fun M13 e13 => ?_⟩⟩
  · have t5 : t ≤ 5 := (le32 (a := t) (b := 5) (by omega) (by decide)).mp z5
    have q6 : ∀ c, c ≠ 122 → mAI M6 c = mAI M c := fun c hc => aiN e6 hc
    have l46 : ∀ d s (x2 : Int32), s + d = S → T (h + 7) mdX11_look 46 [(0, .ref 29), (1, .int (Int32.ofNat (moM R))), (2, .int x2), (3, .int (Int32.ofNat s))] [] M6 Q := by
      intro d
      induction d with
      | zero =>
        intro s x2 hs
        have es : s = S := by omega
        subst es
        refine VX11_look_46 (h := h + 6) ?_
        unfold DX11_look_46
        refine ⟨ok29 F6, 34, rf29_8 F6, ok34 F6, vm (ln34 F6), ?_⟩
        rw [lm, q6 34 (by decide), eS, e480, l48]
        refine ⟨fun _ M7 e7 => ?_, fun z => absurd Int32.le_rfl z⟩
        have k7 : SkF (moM R) M M7 := k6.tr (SkF.i (by omega) e7)
        have F7 := k7.fix F
        refine ⟨123, rf29_115 F7, ok123 F7, vm (ln123 F7), fun M8 e8 => ?_⟩
        have k8 : SkF (moM R) M M8 := k7.tr (SkF.ai (c := 123) (k := moM R) (by unfold skA; omega) e8)
        have F8 := k8.fix F
        refine ⟨124, rf29_116 F8, ok124 F8, v48 (ln124 F8), fun M10 e10 => ?_⟩
        have k10 : SkF (moM R) M M10 := k8.tr (SkF.ai (c := 124) (k := 48 * moM R) (by unfold skA; omega) e10)
        have F10 := k10.fix F
        refine ⟨125, rf29_117 F10, ok125 F10, v48 (ln125 F10), fun M12 e12 => ?_⟩
        have k12 : SkF (moM R) M M12 := k10.tr (SkF.ai (c := 125) (k := 48 * moM R) (by unfold skA; omega) e12)
        have F12 := k12.fix F
        refine ⟨126, rf29_118 F12, ok126 F12, v48 (ln126 F12), fun M16 e16 => ?_⟩
        have k16 : SkF (moM R) M M16 := k12.tr (SkF.ai (c := 126) (k := 48 * moM R) (by unfold skA; omega) e16)
        refine l130 x2 48 0 M16 1 t5 (by omega) k16 ⟨?_, ⟨by omega, by omega⟩, ?_, fun s s1 s2 => by omega⟩ (hL.k ?_) ?_ (Or.inl ?_)
        · rw [e16, mAI_wAI, if_neg (fun y => absurd y.1 (by decide)), e12, mAI_wAI, if_neg (fun y => absurd y.1 (by decide)), e10, mAI_wAI, if_neg (fun y => absurd y.1 (by decide)), e8, mAI_wAI, if_pos ⟨rfl, rfl⟩]; rfl
        · rw [e16, mAI_wAI, if_pos ⟨rfl, rfl⟩]
        · exact (aiN e16 (by decide)).trans ((aiN e12 (by decide)).trans ((aiN e10 (by decide)).trans ((aiN e8 (by decide)).trans ((show mAI M7 129 = mAI M6 129 from by rw [e7]; rfl).trans (aiN e6 (by decide))))))
        · rw [e16, e12, e10, e8]
          show mI M7 29 84 = _
          rw [e7, mI_wI, if_pos ⟨rfl, rfl⟩]
        · rw [e16, mAI_wAI, if_neg (fun y => absurd y.1 (by decide)), e12, mAI_wAI, if_neg (fun y => absurd y.1 (by decide)), e10, mAI_wAI, if_neg (fun y => absurd y.1 (by decide)), e8, mAI_wAI, if_neg (fun y => absurd y.1 (by decide)), e7]
          show mAI M6 122 _ = _
          rw [e6, mAI_wAI, if_pos ⟨rfl, rfl⟩]
      | succ d ih =>
        intro s x2 hs
        have e16 : 16 * Int32.ofNat (moM R) + Int32.ofNat s = Int32.ofNat (16 * moM R + s) := by rw [Int32.ofNat_add, Int32.ofNat_mul]; rfl
        refine VX11_look_46 (h := h + 6) ?_
        unfold DX11_look_46 DX11_look_78
        refine ⟨ok29 F6, 34, rf29_8 F6, ok34 F6, vm (ln34 F6), ?_⟩
        rw [lm, q6 34 (by decide), eS, e16, succ32]
        exact ⟨fun z => absurd ((le32 (by omega) (by omega)).mp z) (by omega), fun _ => ⟨40, rf29_14 F6, ok40 F6, by rw [ln40 F6]; exact vp_of (by omega) (by decide), fun _ => ih (s + 1) _ (by omega), fun _ => ih (s + 1) _ (by omega)⟩⟩
    exact l46 S 0 0 (by omega)
  · have e2 : mAI M13 122 (moM R) = 2 := by rw [e13, mAI_wAI, if_pos ⟨rfl, rfl⟩]
    exact K M13 (k6.tr (SkF.ai (c := 122) (k := moM R) (by unfold skA; omega) e13)) ((hL.k (aiN e6 (by decide))).k (aiN e13 (by decide))) (Or.inr (Or.inl e2)) (by rw [e2]; decide)
theorem RGs.sk (hR : RGs M mods govs) (k : SkF i M M') : RGs M' mods govs := by
  obtain ⟨F, ⟨a1, a2, a3⟩, ⟨b1, b2⟩, c, d, e⟩ := hR
  have f : ∀ j, ¬ (83 ≤ j ∧ j ≤ 89) → mI M' 29 j = mI M 29 j := fun j hj => k.1.2.2.2.1 j hj
  have r : ∀ c, c < 95 ∨ (102 ≤ c ∧ c < 122) → mAI M' c = mAI M c := fun c hc => k.row hc
  refine ⟨k.fix F, ⟨by rw [f 18 (by omega)]; exact a1, a2, fun j => by rw [r 103 (by omega)]; exact a3 j⟩, ⟨by rw [f 91 (by omega)]; exact b1, b2⟩, ?_, ?_, ?_⟩
  · rw [r 102 (by omega)]; exact c
  · rw [r 110 (by omega)]; exact d
  · rw [r 34 (by omega), r 35 (by omega), r 36 (by omega), r 54 (by omega), r 55 (by omega)]; exact e
theorem RvS.sk (hR : RvS M mods govs) (k : SkF i M M') (L : LdO M') (G : SrG M' i) : RvS M' mods govs := by
  obtain ⟨a, b, c⟩ := hR
  refine ⟨a.sk k, L, fun m hm => ?_⟩
  obtain ⟨⟨R, sl, il, X, np, e, hB⟩, g, f, f1, f2⟩ := c m hm
  refine ⟨⟨R, sl, il, X, np, e, hB.sk k⟩, ?_, f, f1, by rw [k.row (Or.inl (by decide))]; exact f2⟩
  by_cases z : m = i
  · rw [z]; exact G
  · exact g.ne z k
theorem R_lkm (hR : RvS M mods govs) (hi : i < mods) (K : ∀ M', SkF i M M' → RvS M' mods govs → mAI M' 122 i ≠ 0 → Q none M') : E (h + 7) mdX11_look [.ref 29, .int (Int32.ofNat i)] M Q := by
  obtain ⟨a, b, c⟩ := id hR
  obtain ⟨⟨R, sl, il, X, np, e, hB⟩, g, f, f1, f2⟩ := c i hi
  subst e
  obtain ⟨⟨k, k1, k2⟩, ⟨k3, k4, k5⟩, -⟩ := a.2.2.2.2.2 (moM R) hi
  exact R_look (h := h) hB a.1 b g ⟨k3, f, k5, f2, rfl⟩ (by omega) k2 k1 (fun M' kk L G nz => K M' kk (hR.sk kk L G) nz)
theorem R_isSd {x : Int32} (hR : RvS M mods govs) (K0 : ∀ M', RvS M' mods govs → RrF M M' → mI M' 29 123 = mI M 29 123 → mI M' 29 124 = mI M 29 124 → Q (some (.int 0)) M') (K1 : ∀ i M', i < mods → x = Int32.ofNat i → RvS M' mods govs → SkF i M M' → mAI M' 122 i = 1 → Q (some (.int 1)) M') : E (h + 8) mdX11_isSearched [.ref 29, .int x] M Q := by
  have F := hR.1.1
  refine KX11_isSearched (h := h + 7) ?_
  unfold DX11_isSearched_0 DX11_isSearched_30
  refine ⟨ok29 F, R_isMod (h := h + 5) hR.1 (fun i hi e _ => ⟨1, rfl, fun _ => ?_, fun z => absurd z (by decide)⟩) (fun _ _ => ⟨0, rfl, fun z => absurd rfl z, fun _ => ⟨Or.inl rfl, K0 M hR RfF.rf rfl rfl⟩⟩)⟩
  rw [e]
  refine R_lkm (h := h) hR hi (fun M4 k4 R4 nz _ => ⟨rfl, ?_⟩)
  have F4 := R4.1.1
  have i4 : i < 4 := Nat.lt_of_lt_of_le hi hR.1.2.1.2.1
  have f : ∀ j, ¬ (83 ≤ j ∧ j ≤ 89) → mI M4 29 j = mI M 29 j := fun j hj => k4.1.2.2.2.1 j hj
  refine ⟨122, rf29_114 F4, ok122 F4, by rw [ln122 F4]; exact vp_of (by omega) (by decide), ?_⟩
  rw [lt32 (show i < 2147483648 by omega)]
  exact ⟨fun _ => ⟨Or.inl rfl, K0 M4 R4 k4.rr (f 123 (by omega)) (f 124 (by omega))⟩, fun z => ⟨Or.inr rfl, K1 i M4 hi e R4 k4 z⟩⟩
end
end
section
/-! the reference's calls over searches and modules -/
/-- k steps back from STATE s lies the first -/
def DpW (M : Mem) (m : Nat) : Nat → Nat → Prop
  | 0, s => s = 0
  | k + 1, s => ∃ c, c < s ∧ mAI M 126 (48 * m + s) = Int32.ofNat c ∧ DpW M m k c
def cntO (f : Nat → Int32) (a : Nat) : Nat → Nat
  | 0 => 0
  | n + 1 => cntO f a n + (if f (a + n) = 1 then 1 else 0)
/-- what module() tells of module i -/
def mdV (M : Mem) (i : Nat) (S : Nat) (w : Int32) : Int32 := if w = 0 then mAI M 34 i else if w = 1 then mAI M 35 i else if w = 2 then Int32.ofNat (cntO (mAI M 38) (16 * i) S) else if w = 3 then mAI M 36 i else if w = 4 then mAI M 54 i else if w = 5 then mAI M 55 i else if w = 6 then mAI M 56 i else if w = 7 then mAI M 57 i else -1
section
variable {M M1 M' : Mem} {m i n s t h mods govs : Nat} {Q : Option Value → Mem → Prop} {x y z w : Int32}
theorem DpW.ex (hr : SrI M m n) : ∀ s, s < n → ∃ k, k ≤ s ∧ DpW M m k s := by
  intro s
  induction s using Nat.strongRecOn with
  | ind s ih =>
    intro hs
    by_cases z : s = 0
    · exact ⟨0, Nat.zero_le _, z⟩
    · obtain ⟨c, c1, c2⟩ := hr.2.2.2 s (by omega) hs
      obtain ⟨k, k1, k2⟩ := ih c c1 (by omega)
      exact ⟨k + 1, by omega, c, c1, c2, k2⟩
theorem SrG.one (hG : SrG M m) (e : mAI M 122 m = 1) : ∃ n t f, SrI M m n ∧ FrE M m t ∧ t ≤ 5 ∧ ClF M m n f := by
  rcases hG with g | g | g
  · rw [e] at g; exact absurd g (by decide)
  · rw [e] at g; exact absurd g (by decide)
  · exact g.2
theorem RvS.lt (hR : RvS M mods govs) (hi : i < mods) : i < 4 := Nat.lt_of_lt_of_le hi hR.1.2.1.2.1
theorem R_search (hR : RvS M mods govs) (K : ∀ M' (r : Int32), RvS M' mods govs → RrF M M' → mI M' 29 123 = mI M 29 123 → mI M' 29 124 = mI M 29 124 → Q (some (.int r)) M') : E (h + 8) mdX11_search [.ref 29, .int x] M Q := by
  have F := hR.1.1
  refine KX11_search (h := h + 7) ?_
  unfold DX11_search_0 DX11_search_36
  refine ⟨ok29 F, R_isMod (h := h + 5) hR.1 (fun i hi e _ => ⟨1, rfl, fun _ => ?_, fun z => absurd z (by decide)⟩) (fun _ _ => ⟨0, rfl, fun z => absurd rfl z, fun _ => K M _ hR RfF.rf rfl rfl⟩)⟩
  rw [e]
  refine R_lkm (h := h) hR hi (fun M4 k4 R4 nz _ => ⟨rfl, ?_⟩)
  have F4 := R4.1.1
  have i4 := hR.lt hi
  have vi : ∀ {k : Nat}, k = 4 → vp_in (Int32.ofNat i) k := fun e => by rw [e]; exact vp_of (by omega) (by decide)
  have f : ∀ j, ¬ (83 ≤ j ∧ j ≤ 89) → mI M4 29 j = mI M 29 j := fun j hj => k4.1.2.2.2.1 j hj
  exact ⟨122, rf29_114 F4, ok122 F4, vi (ln122 F4), fun _ => K M4 _ R4 k4.rr (f 123 (by omega)) (f 124 (by omega)), fun _ => ⟨123, rf29_115 F4, ok123 F4, vi (ln123 F4), K M4 _ R4 k4.rr (f 123 (by omega)) (f 124 (by omega))⟩⟩
theorem R_move (hR : RvS M mods govs) (K : ∀ M' (r : Int32), RvS M' mods govs → RrF M M' → mI M' 29 123 = mI M 29 123 → mI M' 29 124 = mI M 29 124 → Q (some (.int r)) M') : E (h + 9) mdX11_move [.ref 29, .int x, .int y, .int z, .int w] M Q := by
  have F := hR.1.1
  refine KX11_move (h := h + 8) ?_
  unfold DX11_move_0 DX11_move_54 DX11_move_92
  refine ⟨ok29 F, R_isSd (h := h) hR (fun M2 R2 k2 f1 f2 _ => ⟨0, rfl, fun _ => K M2 _ R2 k2 f1 f2, fun z => absurd rfl z⟩) (fun i M2 hi e R2 k2 e2 _ => ⟨1, rfl, fun z => absurd z (by decide), fun _ => ?_⟩)⟩
  rw [e]
  have F2 := R2.1.1
  have i4 := hR.lt hi
  have vi : ∀ {k : Nat}, k = 4 → vp_in (Int32.ofNat i) k := fun e => by rw [e]; exact vp_of (by omega) (by decide)
  have f : ∀ j, ¬ (83 ≤ j ∧ j ≤ 89) → mI M2 29 j = mI M 29 j := fun j hj => k2.1.2.2.2.1 j hj
  have KK : ∀ r, Q (some (.int r)) M2 := fun r => K M2 r R2 k2.rr (f 123 (by omega)) (f 124 (by omega))
  obtain ⟨n, t, g, hr, hf, t5, hC⟩ := (R2.2.2 i hi).2.1.one e2
  obtain ⟨p1, p2⟩ := pw_le t5
  have n48 := hr.2.1.2
  refine ⟨123, rf29_115 F2, ok123 F2, vi (ln123 F2), ?_⟩
  rw [lt32 (show i < 2147483648 by omega), hr.1]
  refine S_inN (h := h + 7) (by omega) (fun s hs es _ => ⟨1, rfl, fun z => absurd z (by decide), fun _ => ?_⟩) (fun _ _ => ⟨0, rfl, fun _ => KK _, fun z => absurd rfl z⟩)
  refine R_moves (h := h + 7) F2 i4 hf t5 (fun _ => ⟨_, rfl, ?_⟩)
  refine S_inN (h := h + 7) (by omega) (fun v hv ev _ => ⟨1, rfl, fun z => absurd z (by decide), fun _ => ?_⟩) (fun _ _ => ⟨0, rfl, fun _ => KK _, fun z => absurd rfl z⟩)
  have e2 : (1 : Int64) = (Int32.ofNat 2 - 1).toInt64 := by decide
  rw [e2]
  have eat : 32 * (48 * Int32.ofNat i + y) + z = Int32.ofNat (32 * (48 * i + s) + v) := by rw [es, ev, ix48, ix32]
  have vat : ∀ {k : Nat}, k = 6144 → vp_in (Int32.ofNat (32 * (48 * i + s) + v)) k := fun e => by rw [e]; exact vp_of (by omega) (by decide)
  rw [eat]
  exact S_inN (h := h + 7) (by decide) (fun _ _ _ _ => ⟨1, rfl, fun _ => ⟨fun _ => ⟨130, rf29_122 F2, ok130 F2, vat (ln130 F2), KK _⟩, fun _ => ⟨129, rf29_121 F2, ok129 F2, vat (ln129 F2), KK _⟩⟩, fun z => absurd z (by decide)⟩) (fun _ _ => ⟨0, rfl, fun z => absurd rfl z, fun _ => KK _⟩)
theorem R_classOf (hR : RvS M mods govs) (K : ∀ M' (r : Int32), RvS M' mods govs → RrF M M' → mI M' 29 123 = mI M 29 123 → mI M' 29 124 = mI M 29 124 → Q (some (.int r)) M') : E (h + 9) mdX11_classOf [.ref 29, .int x, .int y] M Q := by
  have F := hR.1.1
  refine KX11_classOf (h := h + 8) ?_
  unfold DX11_classOf_0 DX11_classOf_40 DX11_classOf_42
  refine ⟨ok29 F, R_isSd (h := h) hR (fun M2 R2 k2 f1 f2 _ => ⟨0, rfl, fun _ => K M2 _ R2 k2 f1 f2, fun z => absurd rfl z⟩) (fun i M2 hi e R2 k2 e2 _ => ⟨1, rfl, fun z => absurd z (by decide), fun _ => ?_⟩)⟩
  rw [e]
  have F2 := R2.1.1
  have i4 := hR.lt hi
  have vi : ∀ {k : Nat}, k = 4 → vp_in (Int32.ofNat i) k := fun e => by rw [e]; exact vp_of (by omega) (by decide)
  have f : ∀ j, ¬ (83 ≤ j ∧ j ≤ 89) → mI M2 29 j = mI M 29 j := fun j hj => k2.1.2.2.2.1 j hj
  have KK : ∀ r, Q (some (.int r)) M2 := fun r => K M2 r R2 k2.rr (f 123 (by omega)) (f 124 (by omega))
  obtain ⟨n, t, g, hr, hf, t5, hC⟩ := (R2.2.2 i hi).2.1.one e2
  have n48 := hr.2.1.2
  refine ⟨123, rf29_115 F2, ok123 F2, vi (ln123 F2), ?_⟩
  rw [lt32 (show i < 2147483648 by omega), hr.1]
  refine S_inN (h := h + 7) (by omega) (fun s hs es _ => ⟨1, rfl, fun z => absurd z (by decide), fun _ => ⟨128, rf29_120 F2, ok128 F2, ?_, KK _⟩⟩) (fun _ _ => ⟨0, rfl, fun _ => KK _, fun z => absurd rfl z⟩)
  have e48 : 48 * Int32.ofNat i + Int32.ofNat s = Int32.ofNat (48 * i + s) := by rw [Int32.ofNat_add, Int32.ofNat_mul]; rfl
  rw [es, e48, ln128 F2]
  exact vp_of (by omega) (by decide)
theorem R_way (hR : RvS M mods govs) (K : ∀ M' (r : Int32), RvS M' mods govs → RrF M M' → mI M' 29 123 = mI M 29 123 → mI M' 29 124 = mI M 29 124 → Q (some (.int r)) M') : E (h + 9) mdX11_way [.ref 29, .int x, .int y, .int z] M Q := by
  have F := hR.1.1
  refine KX11_way (h := h + 8) ?_
  unfold DX11_way_0 DX11_way_26
  refine ⟨ok29 F, R_isSd (h := h) hR (fun M2 R2 k2 f1 f2 _ => ⟨0, rfl, fun _ => K M2 _ R2 k2 f1 f2, fun z => absurd rfl z⟩) (fun i M2 hi e R2 k2 e2 _ => ⟨1, rfl, fun z => absurd z (by decide), fun _ => ?_⟩)⟩
  rw [e]
  have F2 := R2.1.1
  have i4 := hR.lt hi
  have vi : ∀ {k : Nat}, k = 4 → vp_in (Int32.ofNat i) k := fun e => by rw [e]; exact vp_of (by omega) (by decide)
  have f : ∀ j, ¬ (83 ≤ j ∧ j ≤ 89) → mI M2 29 j = mI M 29 j := fun j hj => k2.1.2.2.2.1 j hj
  have KK : ∀ r, Q (some (.int r)) M2 := fun r => K M2 r R2 k2.rr (f 123 (by omega)) (f 124 (by omega))
  obtain ⟨n, t, g, hr, hf, t5, hC⟩ := (R2.2.2 i hi).2.1.one e2
  have n48 := hr.2.1.2
  have e48 : ∀ s : Nat, 48 * Int32.ofNat i + Int32.ofNat s = Int32.ofNat (48 * i + s) := fun s => by rw [Int32.ofNat_add, Int32.ofNat_mul]; rfl
  have v48 : ∀ {k : Nat} (s : Nat), s < n → k = 192 → vp_in (Int32.ofNat (48 * i + s)) k := fun s hs e => by rw [e]; exact vp_of (by omega) (by decide)
  have l48 : ∀ s, s < n → (Int32.ofNat (48 * i + s)).toNatClampNeg = 48 * i + s := fun s hs => lt32 (by omega)
  refine ⟨123, rf29_115 F2, ok123 F2, vi (ln123 F2), ?_⟩
  rw [lt32 (show i < 2147483648 by omega), hr.1]
  refine S_inN (h := h + 7) (by omega) (fun s hs es _ => ⟨1, rfl, fun _ => ?_, fun z => absurd z (by decide)⟩) (fun _ _ => ⟨0, rfl, fun z => absurd rfl z, fun _ => KK _⟩)
  rw [es]
  -- back to the STATE asked for
  have l105 : ∀ k q j, j < 1000 → DpW M2 i (k + 1) q → q < n → k < 100 → T (h + 9) mdX11_way 105 [(0, .ref 29), (1, .int (Int32.ofNat i)), (3, .int (Int32.ofNat j)), (5, .int (Int32.ofNat q)), (6, .int (Int32.ofNat k))] [] M2 Q := by
    intro k
    induction k with
    | zero =>
      intro q j j9 hd hq hk
      refine VX11_way_105 (h := h + 8) ?_
      unfold DX11_way_105
      rw [e48]
      refine ⟨fun _ => ⟨ok29 F2, 127, rf29_119 F2, ok127 F2, v48 q hq (ln127 F2), KK _⟩, fun y => ⟨ok29 F2, 126, rf29_118 F2, ok126 F2, v48 q hq (ln126 F2), ?_⟩⟩
      exact absurd ((le32 (a := 0) (by decide) (by omega)).mpr (Nat.zero_le _)) y
    | succ k ih =>
      intro q j j9 hd hq hk
      refine VX11_way_105 (h := h + 8) ?_
      unfold DX11_way_105
      rw [e48, l48 q hq]
      refine ⟨fun _ => ⟨ok29 F2, 127, rf29_119 F2, ok127 F2, v48 q hq (ln127 F2), KK _⟩, fun y => ⟨ok29 F2, 126, rf29_118 F2, ok126 F2, v48 q hq (ln126 F2), ?_⟩⟩
      obtain ⟨c, c1, c2, c3⟩ := hd
      rw [c2, show Int32.ofNat (k + 1) + (-1) = Int32.ofNat k from by rw [← succ32, Int32.add_assoc]; exact Int32.add_zero _]
      exact ih c j j9 c3 (by omega) (by omega)
  have l35 : ∀ k q k', DpW M2 i k q → q < n → k + k' < 100 → DpW M2 i (k + k') s → T (h + 9) mdX11_way 35 [(0, .ref 29), (1, .int (Int32.ofNat i)), (2, .int (Int32.ofNat s)), (3, .int z), (4, .int (Int32.ofNat k')), (5, .int (Int32.ofNat q))] [] M2 Q := by
    intro k
    induction k with
    | zero =>
      intro q k' hd hq hk hs2
      have q0 : q = 0 := hd
      subst q0
      refine VX11_way_35 (h := h + 8) ?_
      unfold DX11_way_35
      rw [e48, l48 0 hq]
      refine ⟨ok29 F2, 126, rf29_118 F2, ok126 F2, v48 0 hq (ln126 F2), fun _ => ⟨fun nz => ?_, fun _ => KK _⟩, fun y => absurd hr.2.2.1 y⟩
      rw [Nat.zero_add] at hs2
      refine S_inN (h := h + 7) (by omega) (fun j hj ej _ => ⟨1, rfl, fun _ => ?_, fun z => absurd z (by decide)⟩) (fun _ _ => ⟨0, rfl, fun z => absurd rfl z, fun _ => KK _⟩)
      rw [ej]
      obtain ⟨k1, rfl⟩ : ∃ k1, k' = k1 + 1 := ⟨k' - 1, by omega⟩
      rw [show Int32.ofNat (k1 + 1) - 1 = Int32.ofNat k1 from by rw [← succ32, Int32.add_sub_cancel]]
      exact l105 k1 s j (by omega) hs2 hs (by omega)
    | succ k ih =>
      intro q k' hd hq hk hs2
      obtain ⟨c, c1, c2, c3⟩ := hd
      refine VX11_way_35 (h := h + 8) ?_
      unfold DX11_way_35
      rw [e48, l48 q hq, succ32]
      refine ⟨ok29 F2, 126, rf29_118 F2, ok126 F2, v48 q hq (ln126 F2), fun y => ?_, fun _ => ⟨126, rf29_118 F2, ok126 F2, v48 q hq (ln126 F2), ?_⟩⟩
      · rw [c2] at y
        exact absurd y (oi_ne (k := c) (by omega))
      · rw [c2]
        exact ih c (k' + 1) c3 (by omega) (by omega) (by rw [show k + (k' + 1) = k + 1 + k' by omega]; exact hs2)
  obtain ⟨k, k1, k2⟩ := DpW.ex hr s hs
  exact l35 k s 0 k2 hs (by omega) (by rw [Nat.add_zero]; exact k2)
/-- what seeks writes -/
abbrev AgF (M M' : Mem) : Prop := RfF (fun f => f = 123 ∨ f = 124) noP noP M M'
theorem RvS.ag (hR : RvS M mods govs) (k : AgF M M') : RvS M' mods govs := by
  obtain ⟨⟨F, ⟨a1, a2, a3⟩, ⟨b1, b2⟩, c, d, e⟩, g, q⟩ := hR
  have f : ∀ j, ¬ (j = 123 ∨ j = 124) → mI M' 29 j = mI M 29 j := fun j hj => k.2.2.2.1 j hj
  have r : mAI M' = mAI M := by funext c; exact k.2.2.2.2.1 c (fun z => z)
  refine ⟨⟨RfF.fix k F (fun z => z), ⟨by rw [f 18 (by omega)]; exact a1, a2, fun j => by rw [r]; exact a3 j⟩, ⟨by rw [f 91 (by omega)]; exact b1, b2⟩, by rw [r]; exact c, by rw [r]; exact d, by rw [r]; exact e⟩, g.k (by rw [r]), fun m hm => ?_⟩
  obtain ⟨⟨R, sl, il, X, np, e, hB⟩, g, f, f1, f2⟩ := q m hm
  refine ⟨⟨R, sl, il, X, np, e, hB.br k (fun c z => z.elim) (fun c z => z.elim)⟩, ?_, f, f1, by rw [r]; exact f2⟩
  unfold SrG SrI FrE ClF
  rw [r]
  exact g
theorem R_seek (hR : RvS M mods govs) (hi : i < mods) (e2 : mAI M 122 i = 1) (K : ∀ M' (r : Int32), AgF M M' → RvS M' mods govs → Q (some (.int r)) M') : E (h + 2) mdX11_seek [.ref 29, .int (Int32.ofNat i), .int x, .int y] M Q := by
  have i4 := hR.lt hi
  have vi : ∀ {k : Nat}, k = 4 → vp_in (Int32.ofNat i) k := fun e => by rw [e]; exact vp_of (by omega) (by decide)
  have li : (Int32.ofNat i).toNatClampNeg = i := lt32 (by omega)
  obtain ⟨n, t, g, hr, hf, t5, hC⟩ := (hR.2.2 i hi).2.1.one e2
  obtain ⟨p1, p2⟩ := pw_le t5
  have n48 := hr.2.1.2
  have rw0 : ∀ {M1 : Mem}, AgF M M1 → mAI M1 = mAI M := fun k => by funext c; exact k.2.2.2.2.1 c (fun z => z)
  have d121 : ∀ M1, AgF M M1 → DX11_seek_121 (h + 1) 29 M1 Q := fun M1 k1 => by
    unfold DX11_seek_121 DX11_seek_134
    exact ⟨ok29 (hR.ag k1).1.1, fun _ => K M1 _ k1 (hR.ag k1), fun _ => K M1 _ k1 (hR.ag k1)⟩
  have l13 : ∀ d s M1, s + d = n → AgF M M1 → T (h + 2) mdX11_seek 13 [(0, .ref 29), (1, .int (Int32.ofNat i)), (2, .int x), (3, .int y), (4, .int (Int32.ofNat s))] [] M1 Q := by
    intro d
    induction d with
    | zero =>
      intro s M1 hs k1
      have es : s = n := by omega
      subst es
      have F1 := (hR.ag k1).1.1
      refine VX11_seek_13 (h := h + 1) ?_
      unfold DX11_seek_13
      refine ⟨ok29 F1, 123, rf29_115 F1, ok123 F1, vi (ln123 F1), ?_⟩
      rw [li, rw0 k1, hr.1]
      exact ⟨fun _ => d121 M1 k1, fun z => absurd Int32.le_rfl z⟩
    | succ d ih =>
      intro s M1 hs k1
      have F1 := (hR.ag k1).1.1
      have l35 : ∀ e v M2, v + e = 2 ^ t → AgF M M2 → T (h + 2) mdX11_seek 35 [(0, .ref 29), (1, .int (Int32.ofNat i)), (2, .int x), (3, .int y), (4, .int (Int32.ofNat s)), (5, .int (Int32.ofNat v))] [] M2 Q := by
        intro e
        induction e with
        | zero =>
          intro v M2 hv k2
          have ev : v = 2 ^ t := by omega
          subst ev
          have F2 := (hR.ag k2).1.1
          have hf2 : FrE M2 i t := by unfold FrE; rw [rw0 k2]; exact hf
          refine VX11_seek_35 (h := h + 1) ?_
          unfold DX11_seek_35 DX11_seek_115
          rw [succ32]
          exact ⟨ok29 F2, R_moves (h := h) F2 i4 hf2 t5 (fun _ => ⟨_, rfl, fun _ => ih (s + 1) M2 (by omega) k2, fun z => absurd Int32.le_rfl z⟩)⟩
        | succ e ihe =>
          intro v M2 hv k2
          have F2 := (hR.ag k2).1.1
          have hf2 : FrE M2 i t := by unfold FrE; rw [rw0 k2]; exact hf
          have nle : ¬ Int32.ofNat (2 ^ t) ≤ Int32.ofNat v := fun z => by
            have := (le32 (by omega) (by omega)).mp z
            omega
          have eat : 32 * (48 * Int32.ofNat i + Int32.ofNat s) + Int32.ofNat v = Int32.ofNat (32 * (48 * i + s) + v) := by rw [ix48, ix32]
          have vat : ∀ {k : Nat}, k = 6144 → vp_in (Int32.ofNat (32 * (48 * i + s) + v)) k := fun e => by rw [e]; exact vp_of (by omega) (by decide)
          have d97 : DX11_seek_97 (h + 1) 29 (Int32.ofNat i) x y (Int32.ofNat s) (Int32.ofNat v) M2 Q := by
            unfold DX11_seek_97 DX11_seek_109
            rw [succ32]
            exact ⟨ok29 F2, fun M3 e3 M4 e4 => ihe (v + 1) M4 (by omega) ((k2.tr (RfF.i (Or.inl rfl) e3)).tr (RfF.i (Or.inr rfl) e4))⟩
          refine VX11_seek_35 (h := h + 1) ?_
          unfold DX11_seek_35 DX11_seek_115 DX11_seek_109
          rw [succ32, succ32, eat]
          exact ⟨ok29 F2, R_moves (h := h) F2 i4 hf2 t5 (fun _ => ⟨_, rfl, fun z => absurd z nle, fun _ => ⟨fun _ => ih (s + 1) M2 (by omega) k2, fun _ => ⟨130, rf29_122 F2, ok130 F2, vat (ln130 F2), fun _ => ihe (v + 1) M2 (by omega) k2, fun _ => ⟨fun _ => d97, fun _ => ⟨fun _ => ihe (v + 1) M2 (by omega) k2, fun _ => d97⟩⟩⟩⟩⟩)⟩
      refine VX11_seek_13 (h := h + 1) ?_
      unfold DX11_seek_13
      refine ⟨ok29 F1, 123, rf29_115 F1, ok123 F1, vi (ln123 F1), ?_⟩
      rw [li, rw0 k1, hr.1]
      exact ⟨fun _ => d121 M1 k1, fun _ => ⟨fun _ => d121 M1 k1, fun _ => l35 (2 ^ t) 0 M1 (by omega) k1⟩⟩
  refine KX11_seek (h := h + 1) ?_
  unfold DX11_seek_0
  exact ⟨ok29 hR.1.1, fun M2 e2 M3 e3 => l13 n 0 M3 (by omega) ((RfF.i (Or.inl rfl) e2).tr (RfF.i (Or.inr rfl) e3))⟩
theorem R_seeks (hR : RvS M mods govs) (hi : i < mods) (e2 : mAI M 122 i = 1) (K : ∀ M' (r : Int32), AgF M M' → RvS M' mods govs → Q (some (.int r)) M') : E (h + 3) mdX11_seeks [.ref 29, .int (Int32.ofNat i), .int x, .int y] M Q := by
  refine KX11_seeks (h := h + 2) ?_
  unfold DX11_seeks_0 DX11_seeks_39
  refine ⟨ok29 hR.1.1, R_seek (h := h) hR hi e2 (fun M2 r k2 R2 _ => ⟨r, rfl, fun _ => K M2 r k2 R2, fun _ M4 e4 M5 e5 => ?_⟩)⟩
  have k5 : AgF M M5 := k2.tr ((RfF.i (Or.inl rfl) e4).tr (RfF.i (Or.inr rfl) e5))
  exact K M5 r k5 (hR.ag k5)
theorem AgF.rr (k : AgF M M') : RrF M M' := RfF.mo k (fun _ z => Or.inr z) (fun c z => z.elim) (fun c z => z.elim)
theorem R_never (hR : RvS M mods govs) (K : ∀ M' (r : Int32), RvS M' mods govs → RrF M M' → Q (some (.int r)) M') : E (h + 9) mdX11_never [.ref 29, .int x, .int y] M Q := by
  have F := hR.1.1
  refine KX11_never (h := h + 8) ?_
  unfold DX11_never_0 DX11_never_36 DX11_never_38
  refine ⟨ok29 F, R_isSd (h := h) hR (fun M2 R2 k2 _ _ _ => ⟨0, rfl, fun _ => K M2 _ R2 k2, fun z => absurd rfl z⟩) (fun i M2 hi e R2 k2 e2 _ => ⟨1, rfl, fun z => absurd z (by decide), fun _ => ?_⟩)⟩
  rw [e]
  have F2 := R2.1.1
  have i4 := hR.lt hi
  obtain ⟨⟨S, s1, s2⟩, -⟩ := R2.1.2.2.2.2.2 i hi
  refine ⟨34, rf29_8 F2, ok34 F2, by rw [ln34 F2]; exact vp_of (by omega) (by decide), ?_⟩
  rw [lt32 (show i < 2147483648 by omega), s2]
  exact S_inN (h := h + 7) (by omega) (fun s hs es _ => ⟨1, rfl, fun z => absurd z (by decide), fun _ => R_seeks (h := h + 5) R2 hi e2 (fun M8 r k8 R8 _ => ⟨r, rfl, K M8 r R8 (RfF.tr k2.rr k8.rr)⟩)⟩) (fun _ _ => ⟨0, rfl, fun _ => K M2 _ R2 k2.rr, fun z => absurd rfl z⟩)
theorem R_always (hR : RvS M mods govs) (K : ∀ M' (r : Int32), RvS M' mods govs → RrF M M' → Q (some (.int r)) M') : E (h + 9) mdX11_always [.ref 29, .int x, .int y, .int z] M Q := by
  have F := hR.1.1
  refine KX11_always (h := h + 8) ?_
  unfold DX11_always_0 DX11_always_54 DX11_always_56
  refine ⟨ok29 F, R_isSd (h := h) hR (fun M2 R2 k2 _ _ _ => ⟨0, rfl, fun _ => K M2 _ R2 k2, fun z => absurd rfl z⟩) (fun i M2 hi e R2 k2 e2 _ => ⟨1, rfl, fun z => absurd z (by decide), fun _ => ?_⟩)⟩
  rw [e]
  have F2 := R2.1.1
  have i4 := hR.lt hi
  obtain ⟨⟨S, s1, s2⟩, -⟩ := R2.1.2.2.2.2.2 i hi
  refine ⟨34, rf29_8 F2, ok34 F2, by rw [ln34 F2]; exact vp_of (by omega) (by decide), ?_⟩
  rw [lt32 (show i < 2147483648 by omega), s2]
  refine S_inN (h := h + 7) (by omega) (fun s hs es _ => ⟨1, rfl, fun z => absurd z (by decide), fun _ => ⟨34, rf29_8 F2, ok34 F2, by rw [ln34 F2]; exact vp_of (by omega) (by decide), ?_⟩⟩) (fun _ _ => ⟨0, rfl, fun _ => K M2 _ R2 k2.rr, fun z => absurd rfl z⟩)
  rw [s2]
  exact S_inN (h := h + 7) (by omega) (fun s hs es _ => ⟨1, rfl, fun z => absurd z (by decide), fun _ => R_seeks (h := h + 5) R2 hi e2 (fun M8 r k8 R8 _ => ⟨r, rfl, K M8 r R8 (RfF.tr k2.rr k8.rr)⟩)⟩) (fun _ _ => ⟨0, rfl, fun _ => K M2 _ R2 k2.rr, fun z => absurd rfl z⟩)
theorem R_module (hR : RGs M mods govs) (K0 : (∀ i, i < mods → x ≠ Int32.ofNat i) → Q (some (.int (-1))) M) (K : ∀ i S, i < mods → x = Int32.ofNat i → mAI M 34 i = Int32.ofNat S → S ≤ 16 → Q (some (.int (mdV M i S w))) M) : E (h + 3) mdX11_module [.ref 29, .int x, .int w] M Q := by
  have F := hR.1
  refine KX11_module (h := h + 2) ?_
  unfold DX11_module_0
  refine ⟨ok29 F, R_isMod (h := h) hR (fun i hi e _ => ⟨1, rfl, fun _ => ?_, fun z => absurd z (by decide)⟩) (fun ne _ => ⟨0, rfl, fun z => absurd rfl z, fun _ => K0 ne⟩)⟩
  have i4 : i < 4 := Nat.lt_of_lt_of_le hi hR.2.1.2.1
  have vi : ∀ {k : Nat}, k = 4 → vp_in (Int32.ofNat i) k := fun e => by rw [e]; exact vp_of (by omega) (by decide)
  have li : (Int32.ofNat i).toNatClampNeg = i := lt32 (by omega)
  obtain ⟨⟨S, s1, s2⟩, -⟩ := hR.2.2.2.2.2 i hi
  have KK : ∀ v, mdV M i S w = v → Q (some (.int v)) M := fun v e2 => by rw [← e2]; exact K i S hi e s2 s1
  rw [e, li]
  have l75 : ∀ d s, s + d = S → w = 2 → T (h + 3) mdX11_module 75 [(0, .ref 29), (1, .int (Int32.ofNat i)), (3, .int (Int32.ofNat (cntO (mAI M 38) (16 * i) s))), (4, .int (Int32.ofNat s))] [] M Q := by
    intro d
    induction d with
    | zero =>
      intro s hs e2
      have es : s = S := by omega
      subst es
      refine VX11_module_75 (h := h + 2) ?_
      unfold DX11_module_75
      refine ⟨ok29 F, 34, rf29_8 F, ok34 F, vi (ln34 F), ?_⟩
      rw [li, s2]
      exact ⟨fun _ => KK _ (by rw [e2]; rfl), fun z => absurd Int32.le_rfl z⟩
    | succ d ih =>
      intro s hs e2
      have e16 : 16 * Int32.ofNat i + Int32.ofNat s = Int32.ofNat (16 * i + s) := by rw [Int32.ofNat_add, Int32.ofNat_mul]; rfl
      have l16 : (Int32.ofNat (16 * i + s)).toNatClampNeg = 16 * i + s := lt32 (by omega)
      refine VX11_module_75 (h := h + 2) ?_
      unfold DX11_module_75 DX11_module_108
      refine ⟨ok29 F, 34, rf29_8 F, ok34 F, vi (ln34 F), ?_⟩
      rw [li, s2, e16, l16, succ32]
      have nx := ih (s + 1) (by omega) e2
      refine ⟨fun z => absurd ((le32 (by omega) (by omega)).mp z) (by omega), fun _ => ⟨38, rf29_12 F, ok38 F, by rw [ln38 F]; exact vp_of (by omega) (by decide), fun z => ?_, fun z => ?_⟩⟩
      · rw [show cntO (mAI M 38) (16 * i) (s + 1) = cntO (mAI M 38) (16 * i) s from by show _ + _ = _; rw [if_neg z, Nat.add_zero]] at nx
        rw [Int32.add_zero]
        exact nx
      · rw [show cntO (mAI M 38) (16 * i) (s + 1) = cntO (mAI M 38) (16 * i) s + 1 from by show _ + _ = _; rw [if_pos z], ← succ32] at nx
        exact nx
  have out : ((w : Int32).toInt < 0 ∨ 7 < (w : Int32).toInt) → mdV M i S w = -1 := fun hw => by
    unfold mdV
    have ne : ∀ k : Int32, 0 ≤ k.toInt → k.toInt ≤ 7 → w ≠ k := fun k k1 k2 z => by rw [z] at hw; omega
    rw [if_neg (ne 0 (by decide) (by decide)), if_neg (ne 1 (by decide) (by decide)), if_neg (ne 2 (by decide) (by decide)), if_neg (ne 3 (by decide) (by decide)), if_neg (ne 4 (by decide) (by decide)), if_neg (ne 5 (by decide) (by decide)), if_neg (ne 6 (by decide) (by decide)), if_neg (ne 7 (by decide) (by decide))]
  refine ⟨fun z => ⟨34, rf29_8 F, ok34 F, vi (ln34 F), KK _ (by rw [z]; rfl)⟩, fun z => ⟨35, rf29_9 F, ok35 F, vi (ln35 F), KK _ (by rw [z]; rfl)⟩, fun z => l75 S 0 (by omega) z, fun z => ⟨36, rf29_10 F, ok36 F, vi (ln36 F), KK _ (by rw [z]; rfl)⟩, fun z => ⟨54, rf29_34 F, ok54 F, vi (ln54 F), KK _ (by rw [z]; rfl)⟩, fun z => ⟨55, rf29_35 F, ok55 F, vi (ln55 F), KK _ (by rw [z]; rfl)⟩, fun z => ⟨56, rf29_36 F, ok56 F, vi (ln56 F), KK _ (by rw [z]; rfl)⟩, fun z => ⟨57, rf29_37 F, ok57 F, vi (ln57 F), KK _ (by rw [z]; rfl)⟩, fun z => KK _ (out z)⟩
theorem R_prtC (hR : RGs M mods govs) (K0 : (∀ i j k, i < mods → x = Int32.ofNat i → mAI M 54 i = Int32.ofNat k → k ≤ 40 → j < k → y ≠ Int32.ofNat j) → Q (some (.int (-1))) M) (K : ∀ i j k, i < mods → x = Int32.ofNat i → mAI M 54 i = Int32.ofNat k → k ≤ 40 → j < k → y = Int32.ofNat j → Q (some (.int (mAI M 59 (40 * i + j)))) M) : E (h + 3) mdX11_part [.ref 29, .int x, .int y] M Q := by
  have F := hR.1
  refine KX11_part (h := h + 2) ?_
  unfold DX11_part_0 DX11_part_40 DX11_part_41
  refine ⟨ok29 F, R_isMod (h := h) hR (fun i hi e _ => ⟨1, rfl, fun z => absurd z (by decide), fun _ => ?_⟩) (fun ne _ => ⟨0, rfl, fun _ => K0 (fun i j k hi e => absurd e (ne i hi)), fun z => absurd rfl z⟩)⟩
  have i4 : i < 4 := Nat.lt_of_lt_of_le hi hR.2.1.2.1
  obtain ⟨-, -, -, ⟨k, k1, k2⟩, -⟩ := hR.2.2.2.2.2 i hi
  rw [e]
  refine ⟨54, rf29_34 F, ok54 F, by rw [ln54 F]; exact vp_of (by omega) (by decide), ?_⟩
  rw [lt32 (show i < 2147483648 by omega), k2]
  refine S_inN (h := h + 1) (by omega) (fun j hj ej _ => ⟨1, rfl, fun z => absurd z (by decide), fun _ => ⟨59, rf29_39 F, ok59 F, ?_, ?_⟩⟩) (fun ne _ => ⟨0, rfl, fun _ => K0 (fun i2 j k2' hi2 e2 q1 q2 q3 => ?_), fun z => absurd rfl z⟩)
  · have e40 : 40 * Int32.ofNat i + Int32.ofNat j = Int32.ofNat (40 * i + j) := by rw [Int32.ofNat_add, Int32.ofNat_mul]; rfl
    rw [ej, e40, ln59 F]
    exact vp_of (by omega) (by decide)
  · have e40 : 40 * Int32.ofNat i + Int32.ofNat j = Int32.ofNat (40 * i + j) := by rw [Int32.ofNat_add, Int32.ofNat_mul]; rfl
    rw [ej, e40, lt32 (show 40 * i + j < 2147483648 by omega)]
    exact K i j k hi e k2 k1 hj ej
  · have e3 : i = i2 := by
      rw [e] at e2
      exact inj32 (by omega) (by have := Nat.lt_of_lt_of_le hi2 hR.2.1.2.1; omega) e2
    subst e3
    have e4 : k = k2' := inj32 (by omega) (by omega) (k2.symm.trans q1)
    subst e4
    exact ne j q3
end
end
section
/-! a module of the class as it lies in memory once it is compiled -/
def MoM (M : Mem) (n0 : Nat) (τ : Td) (σ : PS) (Ψ : Wg) (hl : List Int32) (lc rc cc pb ib b1 b2 ya na pz : Nat) (ps : List Nat) : Prop :=
  PlS M n0 (n0 + 22) cc (n0 + 24) (n0 + 3) (n0 + 4) (inL τ.2.1).length (coS σ) ∧ (mR M n0 6 = some (n0 + 7) ∧ ALp M (n0 + 7) pb 5 ps ∧ ps.length = npS σ ∧ npS σ ≤ 40) ∧ (∀ j, j < ps.length → (PtK M σ.2.2.1 (coS σ) (ps.getD j 0) ∧ (mI M (ps.getD j 0) 3 = 3 → ∃ f, f < (ifS σ).length ∧ mI M (ps.getD j 0) 4 = Int32.ofNat f) ∧ ∀ f, 9 ≤ f → f ≤ 12 → ∃ a, a < 2 * Ψ.1.length ∧ mI M (ps.getD j 0) f = Int32.ofNat a) ∧ mI M (ps.getD j 0) 0 = σ.2.1.1 j 0) ∧ (∀ j, j < (inL τ.2.1).length → ∃ s, s < τ.1.length ∧ τ.2.1.getD s 0 = 30 ∧ mAI M (n0 + 4) j = Int32.ofNat s) ∧ mR M n0 7 = some (n0 + 8) ∧ CsW M (n0 + 8) lc rc ya na (n0 + 13) (n0 + 14) b1 b2 (n0 + 16) (n0 + 20) (n0 + 15) ib τ σ Ψ hl ∧ CeS M (n0 + 8) (n0 + 17) (n0 + 18) (n0 + 19) pz Ψ.1.length ∧ (∀ r, mrR cc (n0 + 4) lc rc (n0 + 20) (n0 + 17) (n0 + 18) (n0 + 19) r → r ≠ ya ∧ r ≠ na) ∧ (mI M n0 9 = Int32.ofNat τ.1.length ∧ mI M n0 11 = omk τ.2.1 ∧ mI M n0 12 = Int32.ofNat τ.2.2.2.1.length ∧ mI M n0 13 = Int32.ofNat (trS σ).2.1 ∧ mI M n0 14 = Int32.ofNat (ifS σ).length ∧ mI M n0 15 = Int32.ofNat (σ.1.1 3) ∧ mR M n0 5 = some (n0 + 6) ∧ ok M (n0 + 6) 21 ∧ mL M (n0 + 6) = 6 ∧ (∀ k, k < τ.2.2.2.1.length → mAI M (n0 + 6) k = (τ.2.2.2.2.getD k 0).toInt32) ∧ n0 + 6 ≠ ya ∧ n0 + 6 ≠ na)
/-- a cell of those from n0 to n1, or none of the memory's -/
def inZ (n0 n1 a : Nat) : Prop := (n0 ≤ a ∧ a < n1) ∨ mBig ≤ a
def MoZ (n0 n1 lc rc cc pb ib b1 b2 : Nat) (ps : List Nat) : Prop := n0 + 25 ≤ n1 ∧ inZ n0 n1 lc ∧ inZ n0 n1 rc ∧ inZ n0 n1 cc ∧ inZ n0 n1 pb ∧ inZ n0 n1 ib ∧ inZ n0 n1 b1 ∧ inZ n0 n1 b2 ∧ ∀ j, j < ps.length → n0 ≤ ps.getD j 0 ∧ ps.getD j 0 < n1
section
variable {M M' : Mem} {S : Nat → Prop} {a b : Nat}
theorem ali_fr4 {xs : List Int32} (hA : ALi M a b xs) (k : fr S M M') (na : ¬ S a) (nb : ok M b 24 → ¬ S b) (h0 : ∀ c, c < mN M → S c → mK M c ≠ 0) : ALi M' a b xs := by
  obtain ⟨l, h1, h2, h3⟩ := hA
  refine ⟨l, alp_fr3 h1 k na nb, h2, fun i hi => ?_⟩
  rcases h3 i hi with ⟨o, e⟩ | q
  · exact Or.inl ⟨ok_E o k.1, by rw [(k.2 _ o.1 (fun z => h0 _ o.1 z o.2)).1]; exact e⟩
  · exact Or.inr q
theorem zp_ok {Θ : TrT} : ∀ (L : List Nat) (v : Int32) (p : Nat), v = Int32.ofNat p → p ≤ 24 → (∀ z ∈ L, Θ.2.2 5 z = 1 → ∃ cd, Θ.2.2 11 z = Int32.ofNat cd ∧ cd < 24) → ∃ p', zpV Θ L v = Int32.ofNat p' ∧ p' ≤ 24
  | [], v, p, e, hp, _ => ⟨p, e, hp⟩
  | z :: L, v, p, e, hp, h => by
    show ∃ p', zpV Θ L (if Θ.2.2 5 z = 1 then mx12 v (Θ.2.2 11 z).toNatClampNeg else v) = Int32.ofNat p' ∧ p' ≤ 24
    by_cases k : Θ.2.2 5 z = 1
    · rw [if_pos k]
      obtain ⟨cd, c1, c2⟩ := h z List.mem_cons_self k
      have q : (Θ.2.2 11 z).toNatClampNeg = cd := by rw [c1]; exact lt32 (by omega)
      unfold mx12
      rw [q, succ32]
      by_cases y : v < Int32.ofNat (cd + 1)
      · rw [if_pos y]; exact zp_ok L _ (cd + 1) rfl (by omega) (fun z hz => h z (List.mem_cons_of_mem _ hz))
      · rw [if_neg y]; exact zp_ok L v p e hp (fun z hz => h z (List.mem_cons_of_mem _ hz))
    · rw [if_neg k]; exact zp_ok L v p e hp (fun z hz => h z (List.mem_cons_of_mem _ hz))
theorem ps_ok {Θ : TrT} {Ψ : Wg} {P : Nat → Nat → Int32} {c j : Nat} : ∀ (L : List Nat) (v : Int32), okI Ψ v → (∀ z ∈ L, okI Ψ (P c z)) → okI Ψ (psV Θ P c j L v)
  | [], v, e, _ => e
  | z :: L, v, e, h => by
    show okI Ψ (psV Θ P c j L (if Θ.2.2 5 z = 1 ∧ Θ.2.2 11 z = Int32.ofNat j then P c z else v))
    by_cases k : Θ.2.2 5 z = 1 ∧ Θ.2.2 11 z = Int32.ofNat j
    · rw [if_pos k]; exact ps_ok L _ (h z List.mem_cons_self) (fun z hz => h z (List.mem_cons_of_mem _ hz))
    · rw [if_neg k]; exact ps_ok L _ e (fun z hz => h z (List.mem_cons_of_mem _ hz))
theorem inL_at {ro : List Int32} {j : Nat} (hj : j < (inL ro).length) : (inL ro).getD j 0 < ro.length ∧ ro.getD ((inL ro).getD j 0) 0 = 30 := by
  have h : (inL ro).getD j 0 ∈ inL ro := by rw [List.getD_eq_getElem?_getD, List.getElem?_eq_getElem hj]; exact List.getElem_mem hj
  unfold inL at h
  rw [List.mem_filter] at h
  exact ⟨List.mem_range.mp h.1, of_decide_eq_true h.2⟩
end
section
variable {b : Nat → Int32} {n s m i root g0 lc rc g mb mb' q : Nat} {τ : Td} {σ : PS} {γ : Gh} {M M0 M2 Mw M3 M4 : Mem} {ps : List Nat} {xs : Nat → Nat}
set_option maxHeartbeats 1000000 in
theorem mo_mk (hC : CRd b n s τ M M0 M2 i σ ps) (hE : RdE τ m σ root γ g0) (hX : RdX τ σ root γ) (hK : TkI τ m σ) (k : NuF (fun c => c = mN M ∨ c = 0) M2 Mw) (kf : (∀ f, f ≠ 13 → f ≠ 16 → mI Mw (mN M) f = mI M2 (mN M) f) ∧ mI Mw (mN M) 13 = Int32.ofNat (trS σ).2.1) (wz : WvZ (mN M) lc rc (trS σ) σ.2.1.2.2.1 Mw) (we : WvE (mN M) lc rc τ.1.length τ.2.1 (trS σ) (chR (trS σ) γ.1) σ.2.1.2.2.1 (m6R γ.2.2) g root ps xs Mw M3) (ft : FtN (chR (trS σ) γ.1) g root) (hin : ∀ j, j < npS σ → xs j ∈ noL (chR (trS σ) γ.1) g root) (hF : ALF M3 M4 2 mb mb' q) (hmb : mb = mBig + 5 ∨ mb < mN M) : ∃ P zp Ψ1 Ψ2 hl lc' rc' cc pb ib b1 b2 pz, MdW τ m σ root γ g0 (mN M) g (mAI Mw) P zp Ψ1 Ψ2 ∧ MoM M4 (mN M) τ σ Ψ2 hl lc' rc' cc pb ib b1 b2 (mN M + 11) (mN M + 12) pz ps ∧ MoZ (mN M) (mN M3) lc' rc' cc pb ib b1 b2 ps ∧ mR M4 (mN M) 17 = none ∧ (mL M4 (mN M + 11) = 0 ∧ mL M4 (mN M + 12) = 0) ∧ mI M3 (mN M + 8) 4 = Int32.ofNat Ψ2.1.length ∧ (∀ j, j < (inL τ.2.1).length → mAI M4 (mN M + 4) j = Int32.ofNat ((inL τ.2.1).getD j 0)) ∧ (∀ c, 17 ≤ c → c ≤ 19 → mAI M4 (mN M + c) = P (mN M + c)) ∧ mI M4 (mN M + 8) 16 = P 28 (root * 20) ∧ zp = Int32.ofNat pz := by
  obtain ⟨⟨hTI, ⟨lc0, rc0, cc, pb, ib, hQ⟩, c1, c2, c3, c4⟩, ⟨lcT, rcT, hCT⟩, hMd, -, -, -⟩ := hC
  obtain ⟨hCB, ⟨hSm, hcc, hcl, hcr⟩, -, hLP, hRd, hFQ, -, ⟨r6, r8, r87⟩, ⟨hps, hp40, hx80⟩⟩ := hQ
  obtain ⟨hEn, hCi, hl1, hr1, c7, c13, ⟨s1, s2, s3⟩, c8, ⟨u1, u2, u3⟩, -, n132, hN25⟩ := hCB
  obtain ⟨e3, ⟨eS, eR, eM, eV⟩, e9, e12, -, -, -, -, er2, ⟨mx1, mx2, -⟩, -⟩ := hEn
  obtain ⟨-, -, -, ⟨m9, m10, m11⟩, -, ⟨-, -⟩, ⟨y1, y2, y3⟩, ⟨z1, z2, z3⟩, ⟨st1, st2, st3⟩, m17, m0⟩ := hMd
  obtain ⟨q1, q2, q3, q4, q5, q6, q7, -⟩ := hFQ
  obtain ⟨-, ⟨ct1, ct2, ct3, ct4, ct5, ct6⟩, ct7, ⟨cb1, cb2, cb3, -, cb5⟩, -⟩ := hCT
  obtain ⟨Ψ1, Ψ2, P, zp, M1, wk, fi, ro1, ⟨lc', rc', b1, b2, hl, -, C1, ⟨w1, w2⟩, ⟨A1, A2, al⟩, ⟨bb1, bb2, -⟩, hR, ro2, hq, rm⟩, rw, i16, nu, hp⟩ := we
  obtain ⟨hA, hI, hpb, hib, -, ⟨pt, pd⟩⟩ := hLP
  obtain ⟨⟨-, nW⟩, lrb, ⟨wr5, wr6, wr9, wr10, wr11, wr14⟩, w17, -, ⟨ol0, or0⟩, nb⟩ := wz.1
  have hCw : CirP Mw (mN M + 8) lc rc σ.2.1.2.2.1 := wz.2.2.2.1
  have i80 := hTI.2.1
  have nM : mN Mw = mN M2 := k.1.1
  have bg : mN M2 < mBig := by rw [← nM]; exact Nat.lt_of_le_of_lt nb (by decide)
  have el : lc0 = lc := by
    have e2 := hCw.2.1
    rw [k.2.1.2.1] at e2
    exact Option.some.inj (hCi.2.1.symm.trans e2)
  have er : rc0 = rc := by
    have e2 := hCw.2.2.2.1
    rw [k.2.1.2.1] at e2
    exact Option.some.inj (hCi.2.2.2.1.symm.trans e2)
  subst el; subst er
  have olc : ok M2 lc0 21 := hCi.2.2.1
  have orc : ok M2 rc0 21 := hCi.2.2.2.2.1
  obtain ⟨pw1, pw2⟩ := lrb
  -- the frames
  have f1 : fr (fun a => a = mN M ∨ a = 0 ∨ wvS (mN M) lc0 rc0 a) M2 M1 := (k.fre.more (fun a _ z => z.elim Or.inl (fun y => Or.inr (Or.inl y)))).tr hR.1 (fun a _ z => Or.inr (Or.inr z))
  have g4 : fr (fun a => (∃ j, j < ps.length ∧ a = ps.getD j 0) ∨ a = 2 ∨ (a = mb ∧ mK M1 a = 24)) M1 M4 := (nu.fre.more (fun a _ z => Or.inl z)).tr hF.1 (fun a ha z => z.elim (fun y => Or.inr (Or.inl y)) (fun y => Or.inr (Or.inr ⟨y.1, by rw [← (nu.e.2.2 a ha).1]; exact y.2⟩)))
  have pl : ∀ j, j < ps.length → mN M + 25 ≤ ps.getD j 0 ∧ ps.getD j 0 < mN M2 ∧ mK M2 (ps.getD j 0) = 5 := fun j hj => ⟨(pt j hj).2.1, (pt j hj).1.1, (pt j hj).1.2⟩
  have o1 : ∀ {a t : Nat}, ok M2 a t → ok M1 a t := fun o => ok_E o f1.1
  have o4 : ∀ {a t : Nat}, ok M1 a t → ok M4 a t := fun o => ok_E o g4.1
  have o02 : ∀ {a t : Nat}, ok M0 a t → ok M2 a t := fun o => ok_E o q1.1
  have row1 : ∀ {a t : Nat}, ok M2 a t → mN M < a → a ≠ mN M + 8 → a ≠ lc0 → a ≠ rc0 → a ≠ mN M + 13 → a ≠ mN M + 14 → (a < mN M + 17 ∨ mN M + 19 < a) → a ≠ mN M + 21 → sameRow M2 M1 a := fun {a t} o h1 h2 h3 h4 h5 h6 h7 h8 => f1.2 a o.1 (by unfold wvS; omega)
  have row4 : ∀ {a t : Nat}, ok M1 a t → t ≠ 5 → t ≠ 24 → a ≠ 2 → sameRow M1 M4 a := fun {a t} o h1 h2 h3 => g4.2 a o.1 (fun z => by
    rcases z with ⟨j, hj, e⟩ | z | z
    · have := (o1 (pt j hj).1).2
      rw [← e, o.2] at this
      exact h1 this
    · exact h3 z
    · exact h2 (o.2.symm.trans z.2))
  have rowx : sameRow M1 M4 (mN M + 8) := row4 C1.1 (by decide) (by decide) (by omega)
  have rowc : sameRow M1 M4 (mN M) := row4 (o1 e3) (by decide) (by decide) (by omega)
  have len1 : ∀ {a t : Nat}, ok M2 a t → mL M1 a = mL M2 a := fun {a t} o => (f1.1.2.2 a o.1).2
  have len4 : ∀ {a t : Nat}, ok M1 a t → mL M4 a = mL M1 a := fun {a t} o => (g4.1.2.2 a o.1).2
  have len0 : ∀ {a t : Nat}, ok M0 a t → mL M2 a = mL M0 a := fun {a t} o => (q1.1.2.2 a o.1).2
  -- rows of M2 that stay to the end
  have row24 : ∀ {a t : Nat}, ok M2 a t → mN M < a → a ≠ mN M + 8 → a ≠ lc0 → a ≠ rc0 → a ≠ mN M + 13 → a ≠ mN M + 14 → (a < mN M + 17 ∨ mN M + 19 < a) → a ≠ mN M + 21 → t ≠ 5 → t ≠ 24 → sameRow M2 M4 a := fun {a t} o h1 h2 h3 h4 h5 h6 h7 h8 h9 h10 => (row1 o h1 h2 h3 h4 h5 h6 h7 h8).tr (row4 (o1 o) h9 h10 (by omega))
  -- the module's own fields
  have nI1 : ∀ f, mI M1 (mN M) f = mI Mw (mN M) f := fun f => by rw [(hR.1.2 (mN M) (by rw [nM]; exact e3.1) (by unfold wvS; omega)).1]
  have nI : ∀ f, f ≠ 13 → f ≠ 16 → mI M4 (mN M) f = mI M2 (mN M) f := fun f h1 h2 => by rw [rowc.1, nI1, kf.1 f h1 h2]
  have nR : mR M4 (mN M) = mR M2 (mN M) := by rw [rowc.2.2.1, (hR.1.2 (mN M) (by rw [nM]; exact e3.1) (by unfold wvS; omega)).2.2.1, k.2.1.2.1]
  -- the circuit's own fields
  have xI : ∀ f, f ≠ 4 → f ≠ 12 → f ≠ 16 → mI M4 (mN M + 8) f = mI M0 (mN M + 8) f := fun f h1 h2 h3 => by rw [rowx.1, hR.2.1 f h1 h2 h3, k.2.2 _ (by omega), q4 f h1]
  have xR : ∀ f, f ≠ 0 → f ≠ 1 → mR M4 (mN M + 8) f = mR M2 (mN M + 8) f := fun f h1 h2 => by rw [rowx.2.2.1, hR.2.2 f h1 h2, k.2.1.2.1]
  have xR0 : ∀ f, f ≠ 0 → f ≠ 1 → mR M4 (mN M + 8) f = mR M0 (mN M + 8) f := fun f h1 h2 => by rw [xR f h1 h2, q5 f h1 h2]
  have row02 : ∀ {a t : Nat}, ok M0 a t → mN M < a → a < mN M + 25 → a ≠ mN M + 7 → a ≠ mN M + 8 → a ≠ mN M + 9 → a ≠ mN M + 10 → a ≠ mN M + 15 → a ≠ mN M + 16 → a ≠ mN M + 22 → a ≠ mN M + 23 → sameRow M0 M2 a := fun {a t} o h1 h2 h3 h4 h5 h6 h7 h8 h9 h10 => q1.2 a o.1 (by omega)
  have lens : Ψ2.1.length = Ψ1.1.length := fi.2.1
  obtain ⟨g', ft', nd', sh', ln', -, -, k5, -, n2, -⟩ := hE.wv hX
  have eL : noL (chR (trS σ) γ.1) g root = noL (chR (trS σ) γ.1) g' root := noL_2 ft ft'
  have lt : Ψ2.1.length < 100000 := by
    have a1 := wk.2.1.1
    rw [eL] at a1
    have a1 : Ψ1.1.length + 62 * _ + 113 ≤ σ.2.1.2.2.1.length + 115 * _ := a1
    omega
  have ge2 : 2 ≤ Ψ2.1.length := by
    have a1 : σ.2.1.2.2.1.length ≤ Ψ1.1.length := wk.1.1.1
    omega
  have hW : MdW τ m σ root γ g0 (mN M) g (mAI Mw) P zp Ψ1 Ψ2 := ⟨hE, hX, ft, wz.2.2.2.2.2.2.2.2, wk, fi, ro1, ro2, lt, k5, n132⟩
  have okN : ∀ z, z ∈ noL (chR (trS σ) γ.1) g root → OkR Ψ1 P z := fun z hz => (hW.nd hz).1.1
  have rt : root ∈ noL (chR (trS σ) γ.1) g root := noL_hd ft
  have lit : ∀ {v : Int32}, okI Ψ1 v → ∃ a, a < 2 * Ψ2.1.length ∧ v = Int32.ofNat a := fun {v} h => by
    obtain ⟨a, a1, a2⟩ := h
    exact ⟨a, by rw [lens]; exact a2, a1⟩
  -- PlS
  have occ : ok M2 cc 21 := hSm.2.2.1
  have osm : ok M2 (mN M + 22) 8 := hSm.1
  have rsm := row24 osm (by omega) (by omega) (by omega) (by omega) (by omega) (by omega) (by omega) (by omega) (by decide) (by decide)
  have rcc := row24 occ (by omega) (by omega) hcl hcr (by omega) (by omega) (by omega) (by omega) (by decide) (by decide)
  have E24 : mE M2 M4 := f1.1.tr g4.1
  have r4i := (row02 ct4 (by omega) (by omega) (by omega) (by omega) (by omega) (by omega) (by omega) (by omega) (by omega) (by omega)).tr (row24 (o02 ct4) (by omega) (by omega) (by omega) (by omega) (by omega) (by omega) (by omega) (by omega) (by decide) (by decide))
  have hP : PlS M4 (mN M) (mN M + 22) cc (mN M + 24) (mN M + 3) (mN M + 4) (inL τ.2.1).length (coS σ) := by
    refine ⟨⟨o4 (o1 e3), by rw [nR]; exact r8, by rw [nR]; exact er2, by rw [nR, q3]; exact ct3, by rw [nI 10 (by decide) (by decide), q2 10 (by decide) (by decide)]; exact ct1⟩, ⟨hSm.fr E24 rsm rcc, ⟨by rw [rsm.2.2.1, q7 2 (by decide)]; exact st1, o4 (o1 (o02 st2)), by rw [len4 (o1 (o02 st2)), len1 (o02 st2), len0 st2]; exact st3⟩, ?_⟩, ⟨o4 (o1 mx1), by rw [len4 (o1 mx1), len1 mx1]; exact mx2⟩, ⟨o4 (o1 (o02 ct4)), by rw [len4 (o1 (o02 ct4)), len1 (o02 ct4), len0 ct4]; exact ct5, ct2, fun j hj => ?_⟩⟩
    · have : (coS σ).length ≤ 3 * i := c2
      omega
    · refine ⟨(inL τ.2.1).getD j 0, ?_, by rw [r4i.2.2.2.1]; exact ct6 j hj⟩
      have := (inL_at hj).1
      omega
  -- CsW
  have rlc : sameRow M1 M4 lc' := row4 C1.2.2.1 (by decide) (by decide) (by rcases w1 with z | z <;> omega)
  have rrc : sameRow M1 M4 rc' := row4 C1.2.2.2.2.1 (by decide) (by decide) (by rcases w2 with z | z <;> omega)
  have C4 : CirP M4 (mN M + 8) lc' rc' Ψ2.1 := C1.fr g4.1 rowx rlc rrc
  have n5a : ∀ {a : Nat}, mN M < a → a < mN M + 25 → ¬ ((∃ j, j < ps.length ∧ a = ps.getD j 0) ∨ a = 2 ∨ (a = mb ∧ mK M1 a = 24)) := fun {a} h1 h2 z => by
    rcases z with ⟨j, hj, e⟩ | z | ⟨z, -⟩
    · have := (pl j hj).1; omega
    · omega
    · rcases hmb with y | y
      · rw [z, y] at h2; have := n132; have h3 : mN M + 25 ≤ mN M2 := hN25; omega
      · omega
  have n5b : ∀ {a : Nat}, (a = mBig + 5 ∨ mN Mw ≤ a) → ok M1 a 24 → ¬ ((∃ j, j < ps.length ∧ a = ps.getD j 0) ∨ a = 2 ∨ (a = mb ∧ mK M1 a = 24)) := fun {a} h1 h2 z => by
    have b1 : mN M1 < mBig := by
      have := rm.1.1
      have h3 : σ.2.1.2.2.1.length ≤ Ψ2.1.length := by have : σ.2.1.2.2.1.length ≤ Ψ1.1.length := wk.1.1.1; omega
      have h4 : mN M1 + 6 * σ.2.1.2.2.1.length ≤ mN Mw + 6 * Ψ2.1.length := this
      have : mBig = 1099511627776 := rfl
      omega
    have a1 := h2.1
    rcases z with ⟨j, hj, e⟩ | z | ⟨z, -⟩
    · have := (pl j hj).2.1; omega
    · omega
    · rcases hmb with y | y <;> omega
  have h50 : ∀ c, c < mN M1 → ((∃ j, j < ps.length ∧ c = ps.getD j 0) ∨ c = 2 ∨ (c = mb ∧ mK M1 c = 24)) → mK M1 c ≠ 0 := fun c hc z => by
    rcases z with ⟨j, hj, e⟩ | z | ⟨-, z⟩
    · rw [e, (o1 (pt j hj).1).2]; decide
    · rw [z, (ok_E (ok2 hTI.1) f1.1).2]; decide
    · rw [z]; decide
  have A14 : ALi M4 (mN M + 13) b1 Ψ2.2.2 := ali_fr4 A1 g4 (n5a (by omega) (by omega)) (n5b bb1) h50
  have A24 : ALi M4 (mN M + 14) b2 hl := ali_fr4 A2 g4 (n5a (by omega) (by omega)) (n5b bb2) h50
  -- lists of M2
  have s1n : ∀ {a : Nat}, mN M < a → a ≠ mN M + 8 → a ≠ lc0 → a ≠ rc0 → a ≠ mN M + 13 → a ≠ mN M + 14 → (a < mN M + 17 ∨ mN M + 19 < a) → a ≠ mN M + 21 → ¬ (a = mN M ∨ a = 0 ∨ wvS (mN M) lc0 rc0 a) := fun {a} h1 h2 h3 h4 h5 h6 h7 h8 => by unfold wvS; omega
  have k1n : ∀ {a : Nat}, ok M2 a 24 → (a = mBig + 5 ∨ mN M + 25 ≤ a) → ¬ (a = mN M ∨ a = 0 ∨ wvS (mN M) lc0 rc0 a) := fun {a} h1 h2 => by
    have a1 := h1.1
    have h3 : a ≠ lc0 := fun e => by rw [e] at h1; exact absurd h1.2 (by rw [olc.2]; decide)
    have h4 : a ≠ rc0 := fun e => by rw [e] at h1; exact absurd h1.2 (by rw [orc.2]; decide)
    exact s1n (by omega) (by omega) h3 h4 (by omega) (by omega) (by omega) (by omega)
  have k2n : ∀ {a : Nat}, ok M1 a 24 → a < mN M2 → mN M + 25 ≤ a → ¬ ((∃ j, j < ps.length ∧ a = ps.getD j 0) ∨ a = 2 ∨ (a = mb ∧ mK M1 a = 24)) := fun {a} h1 h2 h3 z => by
    rcases z with ⟨j, hj, e⟩ | z | ⟨z, -⟩
    · rw [e] at h1; exact absurd h1.2 (by rw [(o1 (pt j hj).1).2]; decide)
    · omega
    · rcases hmb with y | y <;> omega
  have h10 : ∀ c, c < mN M2 → (c = mN M ∨ c = 0 ∨ wvS (mN M) lc0 rc0 c) → mK M2 c ≠ 0 := fun c hc z => by
    have F2 := hTI.1
    have kw : ∀ {c t : Nat}, ok M0 c t ∨ ok M2 c t → mK M2 c = t := fun h => h.elim (fun y => (o02 y).2) (fun y => y.2)
    rcases z with z | z | z
    · rw [z, e3.2]; decide
    · rw [z, (ok0 F2).2]; decide
    · unfold wvS at z
      rcases z with z | z | z | z | z | z | z | z
      · have hc7 : c = 21 ∨ c = 22 ∨ c = 23 ∨ c = 24 ∨ c = 25 ∨ c = 26 ∨ c = 27 ∨ c = 28 := by omega
        rcases hc7 with e | e | e | e | e | e | e | e <;> rw [e]
        · rw [(ok21 F2).2]; decide
        · rw [(ok22 F2).2]; decide
        · rw [(ok23 F2).2]; decide
        · rw [(ok24 F2).2]; decide
        · rw [(ok25 F2).2]; decide
        · rw [(ok26 F2).2]; decide
        · rw [(ok27 F2).2]; decide
        · rw [(ok28 F2).2]; decide
      · rw [z, hCi.1.2]; decide
      · rw [z, olc.2]; decide
      · rw [z, orc.2]; decide
      · have := wz.2.2.2.2.1.1.ok1
        rw [z, ← k.1.2.2.1, this.2]; decide
      · have := wz.2.2.2.2.1.2.ok1
        rw [z, ← k.1.2.2.1, this.2]; decide
      · obtain ⟨j, rfl⟩ : ∃ j, c = mN M + j := ⟨c - mN M, by omega⟩
        have := (w17 j (by omega)).1
        rw [← k.1.2.2.1, this.2]; decide
      · have := wz.1.2.2.2.2.1.1
        rw [z, ← k.1.2.2.1, this.2]; decide
  have ex : ∀ {a : Nat} {bb : Nat}, mR M2 a 1 = some bb → True := fun _ => trivial
  have A7 : ALp M4 (mN M + 7) pb 5 ps := by
    have a1 : ALp M1 (mN M + 7) pb 5 ps := alp_fr3 hA f1 (s1n (by omega) (by omega) (by omega) (by omega) (by omega) (by omega) (by omega) (by omega)) (fun o => k1n o hpb)
    exact alp_fr3 a1 g4 (n5a (by omega) (by omega)) (fun o => by
      rcases hpb with y | y
      · intro z
        have b2 := hA.2.2.2.2.2
        rcases b2 with ⟨-, e⟩ | ⟨b2, -⟩
        · exact n5b (Or.inl y) o z
        · exact n5b (Or.inl y) o z
      · rcases hA.2.2.2.2.2 with ⟨e, -⟩ | ⟨b2, -⟩
        · exact n5b (Or.inl e) o
        · exact k2n o b2.1 y)
  have A15 : ALi M4 (mN M + 15) ib (ifS σ) := by
    have a1 : ALi M1 (mN M + 15) ib (ifS σ) := ali_fr4 hI f1 (s1n (by omega) (by omega) (by omega) (by omega) (by omega) (by omega) (by omega) (by omega)) (fun o => k1n o hib) h10
    obtain ⟨l, ⟨-, -, -, -, -, d6⟩, -⟩ := hI
    exact ali_fr4 a1 g4 (n5a (by omega) (by omega)) (fun o => by
      rcases d6 with ⟨e, -⟩ | ⟨b2, -⟩
      · exact n5b (Or.inl e) o
      · rcases hib with y | y
        · exact n5b (Or.inl y) o
        · exact k2n o b2.1 y) h50
  have r11 := (row02 y2 (by omega) (by omega) (by omega) (by omega) (by omega) (by omega) (by omega) (by omega) (by omega) (by omega)).tr (row24 (o02 y2) (by omega) (by omega) (by omega) (by omega) (by omega) (by omega) (by omega) (by omega) (by decide) (by decide))
  have L11 : mL M4 (mN M + 11) = 0 := by rw [len4 (o1 (o02 y2)), len1 (o02 y2), len0 y2]; exact y3
  have L12 : mL M4 (mN M + 12) = 0 := by rw [len4 (o1 (o02 z2)), len1 (o02 z2), len0 z2]; exact z3
  have r16 := row24 u1 (by omega) (by omega) (by omega) (by omega) (by omega) (by omega) (by omega) (by omega) (by decide) (by decide)
  have r20 := row24 s1 (by omega) (by omega) (by omega) (by omega) (by omega) (by omega) (by omega) (by omega) (by decide) (by decide)
  have nl : lc' ≠ mN M + 11 ∧ lc' ≠ mN M + 12 := by rcases w1 with z | z <;> omega
  have nr : rc' ≠ mN M + 11 ∧ rc' ≠ mN M + 12 := by rcases w2 with z | z <;> omega
  have hC4 : CsW M4 (mN M + 8) lc' rc' (mN M + 11) (mN M + 12) (mN M + 13) (mN M + 14) b1 b2 (mN M + 16) (mN M + 20) (mN M + 15) ib τ σ Ψ2 hl := by
    refine ⟨⟨C4, ⟨by rw [xR0 2 (by decide) (by decide)]; exact y1, o4 (o1 (o02 y2)), by rw [L11]; decide⟩, ⟨by rw [xR0 3 (by decide) (by decide)]; exact z1, o4 (o1 (o02 z2)), by rw [L12]; decide, fun z => by rw [L11] at z; omega⟩, ⟨by omega, fun z => nl.1 z.symm, fun z => nr.1 z.symm, fun z => nl.2 z.symm, fun z => nr.2 z.symm⟩, ⟨ge2, lt⟩, ?_, ⟨?_, ?_, A14, A24, al, ?_⟩, ⟨by rw [xR 8 (by decide) (by decide)]; exact c8, o4 (o1 u1), by rw [len4 (o1 u1), len1 u1]; exact u2, by omega, by omega⟩⟩, hq, fun t ht => ?_, ⟨by rw [xR 13 (by decide) (by decide)]; exact c13, o4 (o1 s1), by rw [len4 (o1 s1), len1 s1]; exact s2, fun t ht => ?_, by omega, by omega⟩, ⟨by rw [xR 7 (by decide) (by decide)]; exact r87, A15, ?_⟩⟩
    · have := wz.2.2.2.2.2.2.1
      rw [rowx.1, hR.2.1 15 (by decide) (by decide) (by decide)]; exact this
    · rw [rowx.2.2.1, hR.2.2 5 (by decide) (by decide)]; exact wr5
    · rw [rowx.2.2.1, hR.2.2 6 (by decide) (by decide)]; exact wr6
    · have := rm.2.2
      omega
    · rw [r16.2.2.2.1]; exact (u3 t ht).1
    · rw [r20.2.2.2.1]; exact (s3 t ht).1
    · have : (ifS σ).length ≤ 80 := hx80
      omega
  -- CeS
  obtain ⟨pz, zz1, zz2⟩ := zp_ok (Θ := trS σ) (noL (chR (trS σ) γ.1) g root) 0 0 rfl (by omega) (fun z hz k1 => by
    rw [eL] at hz
    obtain ⟨-, ⟨cd, d1, -, d3, -⟩, -⟩ := sh' z hz
    exact ⟨cd, d1, d3 k1⟩)
  have exr := wk.2.2.2.2.2.2
  have P17 : ∀ c p, 17 ≤ c → c ≤ 19 → up4 (mAI Mw) root 2 3 0 0 (mN M + c) p = 0 := fun c p h1 h2 => by
    have o := (w17 c (by omega)).1
    have a1 : mAI Mw (mN M + c) p = 0 := by
      rw [k.2.1.2.2.1]
      have o0 : mN M + c < mN M0 := by
        rcases (show c = 17 ∨ c = 18 ∨ c = 19 by omega) with e | e | e <;> (have := st2.1; omega)
      rw [(q1.2 (mN M + c) o0 (by omega)).2.2.2.1]
      exact m0 c p h1 h2
    unfold up4
    by_cases e : p = root
    · rw [if_pos e, if_neg (by omega), if_neg (by omega), if_neg (by omega), if_neg (by omega)]; exact a1
    · rw [if_neg e]; exact a1
  have ok00 : okI Ψ1 0 := ⟨0, rfl, by omega⟩
  have w17M : ∀ c, c = 17 ∨ c = 18 ∨ c = 19 → ok M1 (mN M + c) 21 ∧ mL M1 (mN M + c) = 24 := fun c hc => ⟨ok_E (w17 c hc).1 hR.1.1, by rw [(hR.1.1.2.2 _ (w17 c hc).1.1).2]; exact (w17 c hc).2⟩
  have rwP : ∀ c, 17 ≤ c → c ≤ 19 → mAI M4 (mN M + c) = P (mN M + c) := fun c h1 h2 => by
    rw [(row4 (w17M c (by omega)).1 (by decide) (by decide) (by omega)).2.2.2.1]
    funext j
    exact rw.1 (mN M + c) j (Or.inr (Or.inl ⟨by omega, by omega⟩))
  have psl : ∀ p, p < 24 → okI Ψ1 (P (mN M + 17) p) ∧ okI Ψ1 (P (mN M + 18) p) ∧ okI Ψ1 (P (mN M + 19) p) := fun p hp2 => by
    obtain ⟨t1, t2, t3⟩ := exr.2.2.1 p hp2
    rw [t1, t2, t3, P17 17 p (by decide) (by decide), P17 18 p (by decide) (by decide), P17 19 p (by decide) (by decide)]
    exact ⟨ps_ok _ _ ok00 (fun z hz => (okN z hz).1 22 (by decide) (by decide)), ps_ok _ _ ok00 (fun z hz => (okN z hz).1 24 (by decide) (by decide)), ps_ok _ _ ok00 (fun z hz => (okN z hz).1 25 (by decide) (by decide))⟩
  have hE4 : CeS M4 (mN M + 8) (mN M + 17) (mN M + 18) (mN M + 19) pz Ψ2.1.length := by
    refine ⟨⟨by rw [rowx.1, rw.2, exr.2.2.2]; exact zz1, zz2⟩, ⟨by rw [xR0 9 (by decide) (by decide)]; exact m9, o4 (w17M 17 (by decide)).1, by rw [len4 (w17M 17 (by decide)).1]; exact (w17M 17 (by decide)).2, fun p hp2 => ?_⟩, ⟨by rw [xR0 10 (by decide) (by decide)]; exact m10, o4 (w17M 18 (by decide)).1, by rw [len4 (w17M 18 (by decide)).1]; exact (w17M 18 (by decide)).2, fun p hp2 => ?_⟩, ⟨by rw [xR0 11 (by decide) (by decide)]; exact m11, o4 (w17M 19 (by decide)).1, by rw [len4 (w17M 19 (by decide)).1]; exact (w17M 19 (by decide)).2, fun p hp2 => ?_⟩, ?_⟩
    · rw [rwP 17 (by decide) (by decide)]; exact lit (psl p (by omega)).1
    · rw [rwP 18 (by decide) (by decide)]; exact lit (psl p (by omega)).2.1
    · rw [rwP 19 (by decide) (by decide)]; exact lit (psl p (by omega)).2.2
    · rw [rowx.1, i16]; exact lit ((okN root rt).2 0 (by decide))
  -- parts
  have hnp : ps.length = npS σ := hps
  have pI : ∀ j, j < ps.length → mI M4 (ps.getD j 0) = mI M3 (ps.getD j 0) := fun j hj => by
    have a1 := (pl j hj).1
    have o3 : ok M3 (ps.getD j 0) 5 := ok_E (o1 (pt j hj).1) nu.e
    rw [(hF.1.2 _ o3.1 (fun z => by
      rcases z with z | ⟨-, z⟩
      · omega
      · rw [o3.2] at z; exact absurd z (by decide))).1]
  have pF : ∀ j, j < ps.length → ∀ f, f < 8 → mI M4 (ps.getD j 0) f = σ.2.1.1 j f := fun j hj f hf => by
    have a1 := (pl j hj).1
    rw [pI j hj, (hp j hj).1 f hf, k.2.2 _ (by omega)]
    exact (pt j hj).2.2 f hf
  have su : ∀ {j c1 c2 fo : Nat}, j < ps.length → fo < 8 → SuA m σ.1.2.1 σ.2.1.1 σ.2.2.1 (coS σ) j c1 c2 fo → SuPt M4 σ.2.2.1 (coS σ) (ps.getD j 0) fo := fun {j c1 c2 fo} hj hf h => by
    obtain ⟨f, c, ⟨h1, h2⟩, -, -, h3, pr, po, h4, h5⟩ := h
    exact ⟨f, c, pr, po, ⟨h1, h2⟩, h3, h5, by rw [pF j hj fo hf]; exact h4⟩
  have hif : (ifS σ).length = σ.1.1 2 := hE.2.1
  have hPt : ∀ j, j < ps.length → (PtK M4 σ.2.2.1 (coS σ) (ps.getD j 0) ∧ (mI M4 (ps.getD j 0) 3 = 3 → ∃ f, f < (ifS σ).length ∧ mI M4 (ps.getD j 0) 4 = Int32.ofNat f) ∧ ∀ f, 9 ≤ f → f ≤ 12 → ∃ a, a < 2 * Ψ2.1.length ∧ mI M4 (ps.getD j 0) f = Int32.ofNat a) ∧ mI M4 (ps.getD j 0) 0 = σ.2.1.1 j 0 := fun j hj => by
    have tk := hK.1 j (by omega)
    refine ⟨⟨⟨o4 (o1 (pt j hj).1), ?_⟩, fun z => ?_, fun f f1 f2 => ?_⟩, pF j hj 0 (by decide)⟩
    · rw [pF j hj 3 (by decide), pF j hj 4 (by decide)]
      rcases tk with t | ⟨t1, -, ⟨s, t2, -, -, t3⟩, t4⟩ | ⟨t1, -, ⟨v, t2, -, t3⟩, t4⟩ | ⟨t1, -, -, t4, t5, -⟩
      · exact Or.inl t.1
      · exact Or.inr (Or.inl ⟨t1, ⟨s, by omega, t3⟩, su hj (by decide) t4⟩)
      · exact Or.inr (Or.inr (Or.inl ⟨t1, ⟨v, by omega, t3⟩, su hj (by decide) t4⟩))
      · exact Or.inr (Or.inr (Or.inr ⟨t1, su hj (by decide) t4, su hj (by decide) t5⟩))
    · rw [pF j hj 3 (by decide)] at z
      rw [pF j hj 4 (by decide)]
      rcases tk with t | t | t | ⟨-, t2, t3, -⟩
      · rw [t.1] at z; exact absurd z (by decide)
      · rw [t.1] at z; exact absurd z (by decide)
      · rw [t.1] at z; exact absurd z (by decide)
      · refine ⟨_, ?_, t3⟩
        rw [hif, hK.2]
        have a1 : ifU (σ.1.2.1 58) m (j + 1) ≤ ifU (σ.1.2.1 58) m (npS σ) := ifU_mo (by omega)
        have a2 : ifU (σ.1.2.1 58) m (j + 1) = ifU (σ.1.2.1 58) m j + 1 := by
          show _ + _ = _
          rw [if_pos t2]
        omega
    · have tp := (hp j hj).2
      have on := okN (xs j) (hin j (by omega))
      rw [pI j hj]
      obtain ⟨-, v9, v10, v11, v12⟩ := tp
      rcases (show f = 9 ∨ f = 10 ∨ f = 11 ∨ f = 12 by omega) with rfl | rfl | rfl | rfl
      · rw [v9]; exact lit (on.1 22 (by decide) (by decide))
      · rw [v10]; exact lit (on.2 0 (by decide))
      · rw [v11]; exact lit (on.2 1 (by decide))
      · rw [v12]; exact lit (on.2 2 (by decide))
  have r6b := (row02 cb2 (by omega) (by omega) (by omega) (by omega) (by omega) (by omega) (by omega) (by omega) (by omega) (by omega)).tr (row24 (o02 cb2) (by omega) (by omega) (by omega) (by omega) (by omega) (by omega) (by omega) (by omega) (by decide) (by decide))
  refine ⟨P, zp, Ψ1, Ψ2, hl, lc', rc', cc, pb, ib, b1, b2, pz, hW, ⟨hP, ⟨by rw [nR]; exact r6, A7, hnp, hE.2.2.2.1.2.2.1⟩, hPt, fun j hj => ?_, by rw [nR]; exact c7, hC4, hE4, fun r hr => ?_, ⟨by rw [nI 9 (by decide) (by decide)]; exact e9, by rw [nI 11 (by decide) (by decide), q2 11 (by decide) (by decide)]; exact ct7, by rw [nI 12 (by decide) (by decide)]; exact e12, by rw [rowc.1, nI1]; exact kf.2, by rw [nI 14 (by decide) (by decide), hif]; exact hRd.2.2.2.2.1, by rw [nI 15 (by decide) (by decide)]; exact hRd.2.2.2.2.2, by rw [nR, q3]; exact cb1, o4 (o1 (o02 cb2)), by rw [len4 (o1 (o02 cb2)), len1 (o02 cb2), len0 cb2]; exact cb3, by rw [r6b.2.2.2.1]; exact cb5, by omega, by omega⟩⟩, ?_, by rw [nR, q3]; exact m17, ⟨L11, L12⟩, ?_, fun j hj => by rw [r4i.2.2.2.1]; exact ct6 j hj, rwP, by rw [rowx.1, i16], exr.2.2.2.trans zz1⟩
  · obtain ⟨a1, a2⟩ := inL_at hj
    exact ⟨_, by omega, a2, by rw [r4i.2.2.2.1]; exact ct6 j hj⟩
  · unfold mrR at hr
    rcases hr with e | e | e | e | e | e | e | e <;> rw [e]
    · omega
    · omega
    · exact nl
    · exact nr
    · omega
    · omega
    · omega
    · omega
  · have E13 : mE M1 M3 := nu.e
    have up : ∀ {a t : Nat}, ok M1 a t → mN M ≤ a → inZ (mN M) (mN M3) a := fun {a t} o h => Or.inl ⟨h, Nat.lt_of_lt_of_le o.1 E13.1⟩
    have lb : ∀ {a aa : Nat} {l : List Int32}, ALi M1 aa a l → (a = mBig + 5 ∨ mN M ≤ a) → inZ (mN M) (mN M3) a := fun {a aa l} hA2 h => by
      obtain ⟨l, ⟨-, -, -, -, -, d6⟩, -⟩ := hA2
      rcases d6 with ⟨e, -⟩ | ⟨o, -⟩
      · exact Or.inr (by omega)
      · rcases h with e | e
        · exact Or.inr (by omega)
        · exact up o e
    refine ⟨?_, up C1.2.2.1 (by rcases w1 with z | z <;> omega), up C1.2.2.2.2.1 (by rcases w2 with z | z <;> omega), up (o1 occ) (by omega), ?_, ?_, lb A1 (bb1.imp id (fun z => by omega)), lb A2 (bb2.imp id (fun z => by omega)), fun j hj => ⟨by have := (pl j hj).1; omega, Nat.lt_of_lt_of_le (o1 (pt j hj).1).1 E13.1⟩⟩
    · have a1 := f1.1.1
      have a2 := E13.1
      omega
    · rcases hA.2.2.2.2.2 with ⟨e, -⟩ | ⟨o, -⟩
      · exact Or.inr (by omega)
      · rcases hpb with e | e
        · exact Or.inr (by omega)
        · exact up (o1 o) (by omega)
    · obtain ⟨l, ⟨-, -, -, -, -, d6⟩, -⟩ := hI
      rcases d6 with ⟨e, -⟩ | ⟨o, -⟩
      · exact Or.inr (by omega)
      · rcases hib with e | e
        · exact Or.inr (by omega)
        · exact up (o1 o) (by omega)
  · rw [(nu.2.2 (mN M + 8) (fun z => by obtain ⟨j, hj, e⟩ := z; have := (pl j hj).1; omega))]
    exact C1.2.2.2.2.2.1
end
end
section
/-! what a module of the class keeps over calls -/
/-- a module's own cells may change so; of the others those of S -/
def MuF (n0 ya0 na0 ya na len : Nat) (S : Nat → Prop) (M M' : Mem) : Prop := fr (fun a => a = n0 ∨ a = n0 + 22 ∨ a = n0 + 24 ∨ a = n0 + 8 ∨ a = ya0 ∨ a = na0 ∨ S a) M M' ∧ (mI M' n0 = mI M n0 ∧ ∀ f, f ≠ 17 → mR M' n0 f = mR M n0 f) ∧ (mI M' (n0 + 8) = mI M (n0 + 8) ∧ (∀ f, f ≠ 2 → f ≠ 3 → mR M' (n0 + 8) f = mR M (n0 + 8) f) ∧ mR M' (n0 + 8) 2 = some ya ∧ mR M' (n0 + 8) 3 = some na) ∧ ((∀ f, f ≠ 3 → f ≠ 4 → mI M' (n0 + 22) f = mI M (n0 + 22) f) ∧ mR M' (n0 + 22) = mR M (n0 + 22)) ∧ (ok M' ya 21 ∧ ok M' na 21 ∧ mL M' ya < 1000000 ∧ mL M' na < 1000000 ∧ (len ≤ mL M' ya → len ≤ mL M' na)) ∧ ((ya = ya0 ∧ na = na0) ∨ (mN M ≤ ya ∧ mN M ≤ na ∧ ya ≠ na))
section
variable {M M' : Mem} {n0 n1 lc rc cc pb ib b1 b2 ya0 na0 ya na pz : Nat} {τ : Td} {σ : PS} {Ψ : Wg} {hl : List Int32} {ps : List Nat} {ow : Nat → Nat} {S : Nat → Prop}
theorem MoM.mu (h : MoM M n0 τ σ Ψ hl lc rc cc pb ib b1 b2 ya0 na0 pz ps) (hz : MoZ n0 n1 lc rc cc pb ib b1 b2 ps) (how : ∀ a, n0 ≤ a → a < n1 → ow a = n0) (hS : ∀ a, S a → ow a ≠ n0) (h0 : ∀ a, S a → mK M a ≠ 0) (hb : mN M < mBig) (k : MuF n0 ya0 na0 ya na Ψ.1.length S M M') : MoM M' n0 τ σ Ψ hl lc rc cc pb ib b1 b2 ya na pz ps := by
  obtain ⟨⟨⟨a1, a2, a3, a4, a5⟩, ⟨hSm, ⟨a6, a7, a8⟩, a9⟩, ⟨a10, a11⟩, ⟨a12, a13, a14, a15⟩⟩, ⟨p1, p2, p3, p4⟩, hPt, hIn, c7, ⟨⟨hCi, ⟨d1, d2, d3⟩, ⟨d4, d5, d6, d7⟩, ⟨d8, d9, d10, d11, d12⟩, d13, d14, ⟨d15, d16, d17, d18, d19, d20⟩, ⟨d21, d22, d23, d24, d25⟩⟩, hq, f1, ⟨f2, f3, f4, f5, f6, f7⟩, ⟨f8, f9, f10⟩⟩, ⟨⟨e1, e2⟩, ⟨e3, e4, e5, e6⟩, ⟨e7, e8, e9, e10⟩, ⟨e11, e12, e13, e14⟩, e15⟩, hmr, ⟨g1, g2, g3, g4, g5, g6, g7, g8, g9, g10, g11, g12⟩⟩ := h
  obtain ⟨z0, z1, z2, z3, z4, z5, z6, z7, z8⟩ := hz
  obtain ⟨kf, ⟨kn1, kn2⟩, ⟨kx1, kx2, kx3, kx4⟩, ⟨ks1, ks2⟩, ⟨ky1, ky2, ky3, ky4, ky5⟩, kd⟩ := k
  have E := kf.1
  have o' : ∀ {a t : Nat}, ok M a t → ok M' a t := fun o => ok_E o E
  have len : ∀ {a t : Nat}, ok M a t → mL M' a = mL M a := fun {a t} o => (E.2.2 a o.1).2
  have out : ∀ {a : Nat}, n0 ≤ a → a < n1 → ¬ S a := fun h1 h2 z => hS _ z (how _ h1 h2)
  have inz : ∀ {a t : Nat}, ok M a t → inZ n0 n1 a → ¬ S a := fun {a t} o h => by
    rcases h with h | h
    · exact out h.1 h.2
    · have := o.1; omega
  have oy : mK M ya0 = 21 := d2.2
  have on : mK M na0 = 21 := d5.2
  -- rows that stay, by kind
  have rowk : ∀ {a t : Nat}, ok M a t → inZ n0 n1 a → t ≠ 3 → t ≠ 8 → t ≠ 23 → t ≠ 2 → t ≠ 21 → sameRow M M' a := fun {a t} o hi h3 h8 h23 h2 h21 => kf.2 a o.1 (fun z => by
    have e := o.2
    rcases z with z | z | z | z | z | z | z
    · rw [z, a1.2] at e; exact h3 e.symm
    · rw [z, hSm.1.2] at e; exact h8 e.symm
    · rw [z, a7.2] at e; exact h23 e.symm
    · rw [z, hCi.1.2] at e; exact h2 e.symm
    · rw [z, oy] at e; exact h21 e.symm
    · rw [z, on] at e; exact h21 e.symm
    · exact inz o hi z)
  have rowi : ∀ {a : Nat}, ok M a 21 → inZ n0 n1 a → a ≠ ya0 → a ≠ na0 → sameRow M M' a := fun {a} o hi n1' n2' => kf.2 a o.1 (fun z => by
    have e := o.2
    rcases z with z | z | z | z | z | z | z
    · rw [z, a1.2] at e; exact absurd e (by decide)
    · rw [z, hSm.1.2] at e; exact absurd e (by decide)
    · rw [z, a7.2] at e; exact absurd e (by decide)
    · rw [z, hCi.1.2] at e; exact absurd e (by decide)
    · exact n1' z
    · exact n2' z
    · exact inz o hi z)
  have iz : ∀ c, c < 25 → inZ n0 n1 (n0 + c) := fun c hc => Or.inl ⟨by omega, by omega⟩
  have mr : ∀ {r : Nat}, mrR cc (n0 + 4) lc rc (n0 + 20) (n0 + 17) (n0 + 18) (n0 + 19) r → r ≠ ya0 ∧ r ≠ na0 := fun z => hmr _ z
  have m1 := mr (r := cc) (Or.inl rfl)
  have m2 := mr (r := n0 + 4) (Or.inr (Or.inl rfl))
  have m3 := mr (r := lc) (Or.inr (Or.inr (Or.inl rfl)))
  have m4 := mr (r := rc) (Or.inr (Or.inr (Or.inr (Or.inl rfl))))
  have m5 := mr (r := n0 + 20) (Or.inr (Or.inr (Or.inr (Or.inr (Or.inl rfl)))))
  have m6 := mr (r := n0 + 17) (Or.inr (Or.inr (Or.inr (Or.inr (Or.inr (Or.inl rfl))))))
  have m7 := mr (r := n0 + 18) (Or.inr (Or.inr (Or.inr (Or.inr (Or.inr (Or.inr (Or.inl rfl)))))))
  have m8 := mr (r := n0 + 19) (Or.inr (Or.inr (Or.inr (Or.inr (Or.inr (Or.inr (Or.inr rfl)))))))
  have rcc := rowi hSm.2.2.1 z3 m1.1 m1.2
  have ria := rowi a12 (iz 4 (by decide)) m2.1 m2.2
  have rlc := rowi hCi.2.2.1 z1 m3.1 m3.2
  have rrc := rowi hCi.2.2.2.2.1 z2 m4.1 m4.2
  have r20 := rowi f3 (iz 20 (by decide)) m5.1 m5.2
  have r17 := rowi e4 (iz 17 (by decide)) m6.1 m6.2
  have r18 := rowi e8 (iz 18 (by decide)) m7.1 m7.2
  have r19 := rowi e12 (iz 19 (by decide)) m8.1 m8.2
  have r16 := rowi d22 (iz 16 (by decide)) d24 d25
  -- lists
  have nK : ∀ {a t : Nat}, ok M a t → inZ n0 n1 a → t ≠ 3 → t ≠ 8 → t ≠ 23 → t ≠ 2 → t ≠ 21 → ¬ (a = n0 ∨ a = n0 + 22 ∨ a = n0 + 24 ∨ a = n0 + 8 ∨ a = ya0 ∨ a = na0 ∨ S a) := fun {a t} o hi h3 h8 h23 h2 h21 z => by
    have e := o.2
    rcases z with z | z | z | z | z | z | z
    · rw [z, a1.2] at e; exact h3 e.symm
    · rw [z, hSm.1.2] at e; exact h8 e.symm
    · rw [z, a7.2] at e; exact h23 e.symm
    · rw [z, hCi.1.2] at e; exact h2 e.symm
    · rw [z, oy] at e; exact h21 e.symm
    · rw [z, on] at e; exact h21 e.symm
    · exact inz o hi z
  have k0 : ∀ c, c < mN M → (c = n0 ∨ c = n0 + 22 ∨ c = n0 + 24 ∨ c = n0 + 8 ∨ c = ya0 ∨ c = na0 ∨ S c) → mK M c ≠ 0 := fun c _ z => by
    rcases z with z | z | z | z | z | z | z
    · rw [z, a1.2]; decide
    · rw [z, hSm.1.2]; decide
    · rw [z, a7.2]; decide
    · rw [z, hCi.1.2]; decide
    · rw [z, oy]; decide
    · rw [z, on]; decide
    · exact h0 c z
  have liA : ∀ {c bb : Nat} {l : List Int32}, ALi M (n0 + c) bb l → c < 25 → inZ n0 n1 bb → ALi M' (n0 + c) bb l := fun {c bb l} hA hc hbb => ali_fr4 hA kf (nK hA.ok1 (iz c hc) (by decide) (by decide) (by decide) (by decide) (by decide)) (fun o => nK o hbb (by decide) (by decide) (by decide) (by decide) (by decide)) k0
  have P' : PlS M' n0 (n0 + 22) cc (n0 + 24) (n0 + 3) (n0 + 4) (inL τ.2.1).length (coS σ) := by
    obtain ⟨s1, s2, s3, s4, s5, s6, s7, s8⟩ := hSm
    exact ⟨⟨o' a1, by rw [kn2 8 (by decide)]; exact a2, by rw [kn2 2 (by decide)]; exact a3, by rw [kn2 3 (by decide)]; exact a4, by rw [kn1]; exact a5⟩, ⟨⟨o' s1, by rw [ks2]; exact s2, o' s3, by rw [ks1 1 (by decide) (by decide)]; exact s4, by rw [len s3]; exact s5, by rw [len s3]; exact s6, by rw [len s3]; exact s7, by rw [rcc.2.2.2.1]; exact s8⟩, ⟨by rw [ks2]; exact a6, o' a7, by rw [len a7]; exact a8⟩, a9⟩, ⟨o' a10, by rw [len a10]; exact a11⟩, ⟨o' a12, by rw [len a12]; exact a13, a14, by rw [ria.2.2.2.1]; exact a15⟩⟩
  have hp' : ∀ j, j < ps.length → sameRow M M' (ps.getD j 0) := fun j hj => rowk (hPt j hj).1.1.1 (Or.inl (z8 j hj)) (by decide) (by decide) (by decide) (by decide) (by decide)
  have C' : CirP M' (n0 + 8) lc rc Ψ.1 := by
    obtain ⟨s1, s2, s3, s4, s5, s6, ⟨s7, s8, s9, s10, s11⟩, s12, s13, s14⟩ := hCi
    exact ⟨o' s1, by rw [kx2 0 (by decide) (by decide)]; exact s2, o' s3, by rw [kx2 1 (by decide) (by decide)]; exact s4, o' s5, by rw [kx1]; exact s6, ⟨s7, by rw [len s3]; exact s8, by rw [len s3, len s5]; exact s9, by rw [len s3]; exact s10, by rw [len s3]; exact s11⟩, by rw [rlc.2.2.2.1, rrc.2.2.2.1]; exact s12, s13, s14⟩
  have nw : ∀ {a : Nat}, ok M a 21 → a ≠ ya0 → a ≠ na0 → a ≠ ya ∧ a ≠ na := fun {a} o h1 h2 => by
    rcases kd with ⟨e1, e2⟩ | ⟨h3, h4, -⟩
    · rw [e1, e2]; exact ⟨h1, h2⟩
    · have := o.1; omega
  have nwl := nw hCi.2.2.1 m3.1 m3.2
  have nwr := nw hCi.2.2.2.2.1 m4.1 m4.2
  have nw6 := nw d22 d24 d25
  have nw20 := nw f3 f6 f7
  have yn : ya ≠ na := by
    rcases kd with ⟨e1, e2⟩ | ⟨-, -, h⟩
    · rw [e1, e2]; exact d8
    · exact h
  refine ⟨P', ⟨by rw [kn2 6 (by decide)]; exact p1, alp_fr3 p2 kf (nK p2.1 (iz 7 (by decide)) (by decide) (by decide) (by decide) (by decide) (by decide)) (fun o => nK o z4 (by decide) (by decide) (by decide) (by decide) (by decide)), p3, p4⟩, fun j hj => ?_, by rw [ria.2.2.2.1]; exact hIn, by rw [kn2 7 (by decide)]; exact c7, ⟨⟨C', ⟨kx3, ky1, ky3⟩, ⟨kx4, ky2, ky4, ky5⟩, ⟨yn, fun z => nwl.1 z.symm, fun z => nwr.1 z.symm, fun z => nwl.2 z.symm, fun z => nwr.2 z.symm⟩, d13, by rw [kx1]; exact d14, ⟨by rw [kx2 5 (by decide) (by decide)]; exact d15, by rw [kx2 6 (by decide) (by decide)]; exact d16, liA d17 (by decide) z6, liA d18 (by decide) z7, d19, d20⟩, ⟨by rw [kx2 8 (by decide) (by decide)]; exact d21, o' d22, by rw [len d22]; exact d23, nw6.1, nw6.2⟩⟩, hq, by rw [r16.2.2.2.1]; exact f1, ⟨by rw [kx2 13 (by decide) (by decide)]; exact f2, o' f3, by rw [len f3]; exact f4, by rw [r20.2.2.2.1]; exact f5, nw20.1, nw20.2⟩, ⟨by rw [kx2 7 (by decide) (by decide)]; exact f8, liA f9 (by decide) z5, f10⟩⟩, ⟨⟨by rw [kx1]; exact e1, e2⟩, ⟨by rw [kx2 9 (by decide) (by decide)]; exact e3, o' e4, by rw [len e4]; exact e5, by rw [r17.2.2.2.1]; exact e6⟩, ⟨by rw [kx2 10 (by decide) (by decide)]; exact e7, o' e8, by rw [len e8]; exact e9, by rw [r18.2.2.2.1]; exact e10⟩, ⟨by rw [kx2 11 (by decide) (by decide)]; exact e11, o' e12, by rw [len e12]; exact e13, by rw [r19.2.2.2.1]; exact e14⟩, by rw [kx1]; exact e15⟩, fun r hr => ?_, ⟨by rw [kn1]; exact g1, by rw [kn1]; exact g2, by rw [kn1]; exact g3, by rw [kn1]; exact g4, by rw [kn1]; exact g5, by rw [kn1]; exact g6, by rw [kn2 5 (by decide)]; exact g7, o' g8, by rw [len g8]; exact g9, by rw [(rowi g8 (iz 6 (by decide)) g11 g12).2.2.2.1]; exact g10, (nw g8 g11 g12).1, (nw g8 g11 g12).2⟩⟩
  · obtain ⟨⟨x1, x2, x3⟩, x4⟩ := hPt j hj
    have r := hp' j hj
    exact ⟨⟨x1.row r.1 (o' x1.1), by rw [r.1]; exact x2, by rw [r.1]; exact x3⟩, by rw [r.1]; exact x4⟩
  · have q := mr hr
    unfold mrR at hr
    rcases hr with e | e | e | e | e | e | e | e <;> rw [e] at q ⊢
    · exact nw hSm.2.2.1 q.1 q.2
    · exact nw a12 q.1 q.2
    · exact nwl
    · exact nwr
    · exact nw20
    · exact nw e4 q.1 q.2
    · exact nw e8 q.1 q.2
    · exact nw e12 q.1 q.2
/-- a call that leaves the module alone -/
theorem MuF.of (h : MoM M n0 τ σ Ψ hl lc rc cc pb ib b1 b2 ya0 na0 pz ps) (hz : MoZ n0 n1 lc rc cc pb ib b1 b2 ps) (how : ∀ a, n0 ≤ a → a < n1 → ow a = n0) (hS : ∀ a, S a → ow a ≠ n0) (k : fr S M M') : MuF n0 ya0 na0 ya0 na0 Ψ.1.length S M M' := by
  obtain ⟨⟨⟨a1, -⟩, ⟨hSm, -⟩, -⟩, -, -, -, -, ⟨⟨hCi, ⟨d1, d2, d3⟩, ⟨d4, d5, d6, d7⟩, -⟩, -⟩, -⟩ := h
  have out : ∀ {a t : Nat}, ok M a t → n0 ≤ a → a < n0 + 25 → sameRow M M' a := fun {a t} o h1 h2 => k.2 a o.1 (fun z => hS _ z (how _ h1 (by have := hz.1; omega)))
  have rn := out a1 (Nat.le_refl _) (by omega)
  have rx := out hCi.1 (by omega) (by omega)
  have rs := out hSm.1 (by omega) (by omega)
  refine ⟨k.more (fun a _ z => Or.inr (Or.inr (Or.inr (Or.inr (Or.inr (Or.inr z)))))), ⟨rn.1, fun f _ => by rw [rn.2.2.1]⟩, ⟨rx.1, fun f _ _ => by rw [rx.2.2.1], by rw [rx.2.2.1]; exact d1, by rw [rx.2.2.1]; exact d4⟩, ⟨fun f _ _ => by rw [rs.1], rs.2.2.1⟩, ⟨ok_E d2 k.1, ok_E d5 k.1, by rw [(k.1.2.2 _ d2.1).2]; exact d3, by rw [(k.1.2.2 _ d5.1).2]; exact d6, ?_⟩, Or.inl ⟨rfl, rfl⟩⟩
  rw [(k.1.2.2 _ d2.1).2, (k.1.2.2 _ d5.1).2]
  exact d7
end
section
variable {M M' : Mem} {g c nw nx kp gn wr nP : Nat} {ks : Nat → Nat} {S : Nat → Prop}
/-- a governor of the class keeps what it has over calls that leave it alone -/
theorem gv_fr (h : GvS M g c nw nx kp gn wr nP ks) (hR : GvR M g nw nx gn ks) (k : fr S M M') (hg : ¬ S g) (hr : ∀ r, grR nw nx wr gn ks r ∨ r = kp → ¬ S r) : GvS M' g c nw nx kp gn wr nP ks ∧ GvR M' g nw nx gn ks := by
  obtain ⟨⟨a1, a2, a3, a4, a5, a6, a7⟩, ⟨⟨b1, b2⟩, ⟨b3, b4⟩, ⟨b5, b6⟩, ⟨b7, b8⟩⟩, ⟨c1, c2, c3⟩, d⟩ := h
  obtain ⟨r1, r2, r3, r4, q, r5, r6⟩ := hR
  have o' : ∀ {a t : Nat}, ok M a t → ok M' a t := fun o => ok_E o k.1
  have len : ∀ {a t : Nat}, ok M a t → mL M' a = mL M a := fun {a t} o => (k.1.2.2 a o.1).2
  have rg := k.2 g a1.1 hg
  have rnw := k.2 nw b1.1 (hr _ (Or.inl (Or.inl rfl)))
  have rnx := k.2 nx b3.1 (hr _ (Or.inl (Or.inr (Or.inl rfl))))
  have rgn := k.2 gn b5.1 (hr _ (Or.inl (Or.inr (Or.inr (Or.inr (Or.inl rfl))))))
  have rkp := k.2 kp c1.1 (hr _ (Or.inr rfl))
  have rks : ∀ i, i < 3 → sameRow M M' (ks i) := fun i hi => k.2 (ks i) (c3 i hi).2.1.1 (hr _ (Or.inl (Or.inr (Or.inr (Or.inr (Or.inr ⟨i, hi, rfl⟩))))))
  refine ⟨⟨⟨o' a1, by rw [rg.2.2.1]; exact a2, by rw [rg.2.2.1]; exact a3, by rw [rg.2.2.1]; exact a4, by rw [rg.2.2.1]; exact a5, by rw [rg.2.2.1]; exact a6, by rw [rg.2.2.1]; exact a7⟩, ⟨⟨o' b1, by rw [len b1]; exact b2⟩, ⟨o' b3, by rw [len b3]; exact b4⟩, ⟨o' b5, by rw [len b5]; exact b6⟩, ⟨o' b7, by rw [len b7]; exact b8⟩⟩, ⟨o' c1, by rw [len c1]; exact c2, fun i hi => ⟨by rw [rkp.2.2.2.2.2]; exact (c3 i hi).1, o' (c3 i hi).2.1, by rw [len (c3 i hi).2.1]; exact (c3 i hi).2.2⟩⟩, d⟩, r1.k rnw.2.2.2.1, r2.k rnx.2.2.2.1, fun i hi => (r3 i hi).k (rks i hi).2.2.2.1, by rw [rgn.2.2.2.1]; exact r4, q, r5, by rw [rg.1]; exact r6⟩
end
end
