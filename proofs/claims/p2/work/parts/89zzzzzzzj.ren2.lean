/-! the reference enters a node: go, res, susp, kill, and a signal that is emitted -/
section
variable {R : RMo} {I : RIn} {sl : List Nat} {ρ : Plc → Nat} {M M1 M' : Mem} {h y : Nat} {Q : Option Value → Mem → Prop}
/-- what is known of the signals that are emitted -/
def EmL (R : RMo) : Prop := ∀ y, inR R y → (moS R).2 80 y = 1 → ∃ s, s < moQ R ∧ moA R 60 ((moS R).2 81 y).toNatClampNeg = Int32.ofNat s ∧ moT R s ≠ 0
theorem SvS.rm {ρ1 : Plc → Nat} (k : SvS R ρ M ρ1 M1) (hS : RmS R sl M) : RmS R sl M1 := k.1.rm hS
theorem en_le (hS : RmS R sl M) (hI : RbI R I M) (hb : ∀ s, iBf I s ≤ 1) (hV : RSv R ρ M) (hL : NdL R) (hy : inR R y) {c : Nat} (hc : c ≤ 3) : enR R I ρ c y ≤ 2 := by
  unfold enR
  by_cases u : (moS R).2 86 y = -1
  · rw [if_pos u]
    by_cases c0 : c = 0
    · rw [if_pos c0]; split <;> decide
    · rw [if_neg c0]
      by_cases c1 : c = 1
      · rw [if_pos c1]; split <;> decide
      · rw [if_neg c1]; decide
  rw [if_neg u]
  by_cases c0 : c = 0
  · rw [if_pos c0]
    by_cases k4 : (moS R).2 80 (upR R y) = 4 ∨ (moS R).2 80 (upR R y) = 5
    · rw [if_pos k4]; exact v3A_le _ _
    rw [if_neg k4]
    by_cases k6 : (moS R).2 80 (upR R y) = 6
    · rw [if_pos k6]
      split
      · exact hV.1 _
      · exact hV.1 _
    rw [if_neg k6]
    by_cases k7 : (moS R).2 80 (upR R y) = 7
    · rw [if_pos k7]; exact v3O_le _ _
    · rw [if_neg k7]; exact hV.1 _
  rw [if_neg c0]
  by_cases c1 : c = 1
  · rw [if_pos c1]
    by_cases k8 : (moS R).2 80 (upR R y) = 8
    · rw [if_pos k8]; exact v3A_le _ _
    · rw [if_neg k8]; exact hV.1 _
  rw [if_neg c1]
  by_cases c2 : c = 2
  · rw [if_pos c2]
    by_cases k8 : (moS R).2 80 (upR R y) = 8
    · rw [if_pos k8]; exact v3O_le _ _
    · rw [if_neg k8]; exact hV.1 _
  rw [if_neg c2]
  by_cases k10 : (moS R).2 80 (upR R y) = 10
  · rw [if_pos k10]; exact v3O_le _ _
  · rw [if_neg k10]; exact hV.1 _
theorem Fr_en (hy : inR R y) {c : Nat} (hc : c ≤ 3) : FrR R I ρ (c, y, 0) = enR R I ρ c y := by
  show FrA R I ρ c y 0 = _
  unfold FrA
  rw [if_pos hc, if_pos ⟨hy, rfl⟩]
theorem R_en343 (hS : RmS R sl M) (hI : RbI R I M) (hb : ∀ s, iBf I s ≤ 1) (hV : RSv R ρ M) (hL : NdL R) (hM : EmL R) (hy : inR R y) (hJ : JF (FrR R I) ρ) (A1 : ArF (fun c => c = 101) M M1) (K : ∀ ρ' M', SvS R ρ M ρ' M' → JF (FrR R I) ρ' → (ρ' = ρ → ∀ c, c ≤ 3 → FrR R I ρ (c, y, 0) = ρ (c, y, 0)) → Q none M') : DX11_enter_343 (h + 1) 29 (Int32.ofNat y) (Int32.ofNat (y - 700 * moM R)) (Int32.ofNat (enR R I ρ 0 y)) (Int32.ofNat (enR R I ρ 1 y)) (Int32.ofNat (enR R I ρ 2 y)) (Int32.ofNat (enR R I ρ 3 y)) M1 Q := by
  obtain ⟨b1, b2, b3⟩ := hy.b hS
  have le : ∀ c, c ≤ 3 → enR R I ρ c y ≤ 2 := fun c hc => en_le hS hI hb hV hL hy hc
  have lq : ∀ c, c ≤ 3 → lq3 (ρ (c, y, 0)) (enR R I ρ c y) := fun c hc => by
    have q := hJ.1 (c, y, 0)
    rw [Fr_en hy hc] at q
    exact q
  have pl : ∀ c, c ≤ 3 → plR R (c, y, 0) := fun c hc => Or.inl ⟨hc, hy, rfl⟩
  have s1 : SvS R ρ M ρ M1 := SvS.ar hV A1
  obtain ⟨ρa, ea⟩ : ∃ ρa, ρa = upP ρ (0, y, 0) (enR R I ρ 0 y) := ⟨_, rfl⟩
  obtain ⟨ρb, eb⟩ : ∃ ρb, ρb = upP ρa (1, y, 0) (enR R I ρ 1 y) := ⟨_, rfl⟩
  obtain ⟨ρc, ec⟩ : ∃ ρc, ρc = upP ρb (2, y, 0) (enR R I ρ 2 y) := ⟨_, rfl⟩
  obtain ⟨ρd, ed⟩ : ∃ ρd, ρd = upP ρc (3, y, 0) (enR R I ρ 3 y) := ⟨_, rfl⟩
  have val : ∀ j, ρd j = if j = (3, y, 0) then enR R I ρ 3 y else if j = (2, y, 0) then enR R I ρ 2 y else if j = (1, y, 0) then enR R I ρ 1 y else if j = (0, y, 0) then enR R I ρ 0 y else ρ j := fun j => by rw [ed, ec, eb, ea]; rfl
  have ne : ∀ {a b : Nat}, a ≠ b → ((a, y, 0) : Plc) ≠ (b, y, 0) := fun n e => n (congrArg Prod.fst e)
  have v0 : ρd (0, y, 0) = enR R I ρ 0 y := by rw [val, if_neg (ne (by decide)), if_neg (ne (by decide)), if_neg (ne (by decide)), if_pos rfl]
  have v1 : ρd (1, y, 0) = enR R I ρ 1 y := by rw [val, if_neg (ne (by decide)), if_neg (ne (by decide)), if_pos rfl]
  have v2 : ρd (2, y, 0) = enR R I ρ 2 y := by rw [val, if_neg (ne (by decide)), if_pos rfl]
  have v3 : ρd (3, y, 0) = enR R I ρ 3 y := by rw [val, if_pos rfl]
  have vv : ∀ c, c ≤ 3 → ρd (c, y, 0) = FrR R I ρ (c, y, 0) := fun c hc => by
    rw [Fr_en hy hc]
    have : c = 0 ∨ c = 1 ∨ c = 2 ∨ c = 3 := by omega
    rcases this with e | e | e | e <;> rw [e]
    · exact v0
    · exact v1
    · exact v2
    · exact v3
  have Jd := hJ.up (v' := ρd) FrR_mo (fun j => by
    by_cases z : ∃ c, c ≤ 3 ∧ j = (c, y, 0)
    · obtain ⟨c, hc, e⟩ := z
      rw [e]; exact Or.inr (vv c hc)
    · refine Or.inl ?_
      have n : ∀ c, c ≤ 3 → j ≠ (c, y, 0) := fun c hc e => z ⟨c, hc, e⟩
      rw [val, if_neg (n 3 (by decide)), if_neg (n 2 (by decide)), if_neg (n 1 (by decide)), if_neg (n 0 (by decide))])
  have la : lq3 (ρa (1, y, 0)) (enR R I ρ 1 y) := by
    rw [ea]; unfold upP; rw [if_neg (ne (by decide))]; exact lq 1 (by decide)
  have lb : lq3 (ρb (2, y, 0)) (enR R I ρ 2 y) := by
    rw [eb, ea]; unfold upP; rw [if_neg (ne (by decide)), if_neg (ne (by decide))]; exact lq 2 (by decide)
  have lc : lq3 (ρc (3, y, 0)) (enR R I ρ 3 y) := by
    rw [ec, eb, ea]; unfold upP; rw [if_neg (ne (by decide)), if_neg (ne (by decide)), if_neg (ne (by decide))]; exact lq 3 (by decide)
  have F1 := s1.1.fix hI.1
  unfold DX11_enter_343 DX11_enter_423
  rw [lt32 (show y < 2147483648 by omega)]
  refine ⟨ok29 F1, 95, rf29_77 F1, R_known (i := (0, y, 0)) (h := h) (s1.rm hS) F1 s1.2.1 (pl 0 (by decide)) (le 0 (by decide)) (lq 0 (by decide)) (fun M3 k3 _ => ⟨rfl, ?_⟩)⟩
  rw [← ea] at k3
  have F3 := k3.1.fix F1
  have S3 := k3.rm (s1.rm hS)
  refine ⟨96, rf29_78 F3, R_known (i := (1, y, 0)) (h := h) S3 F3 k3.2.1 (pl 1 (by decide)) (le 1 (by decide)) la (fun M5 k5 _ => ⟨rfl, ?_⟩)⟩
  rw [← eb] at k5
  have F5 := k5.1.fix F3
  have S5 := k5.rm S3
  refine ⟨97, rf29_79 F5, R_known (i := (2, y, 0)) (h := h) S5 F5 k5.2.1 (pl 2 (by decide)) (le 2 (by decide)) lb (fun M7 k7 _ => ⟨rfl, ?_⟩)⟩
  rw [← ec] at k7
  have F7 := k7.1.fix F5
  have S7 := k7.rm S5
  refine ⟨98, rf29_80 F7, R_known (i := (3, y, 0)) (h := h) S7 F7 k7.2.1 (pl 3 (by decide)) (le 3 (by decide)) lc (fun M9 k9 _ => ⟨rfl, ?_⟩)⟩
  rw [← ed] at k9
  have F9 := k9.1.fix F7
  have S9 := k9.rm S7
  have kk : SvS R ρ M ρd M9 := ((((s1.tr k3).tr k5).tr k7).tr k9)
  have done : Q none M9 := K ρd M9 kk Jd.1 (fun e c hc => by rw [← vv c hc, e])
  have e80 : mAI M9 80 y = (moS R).2 80 y := S9.2.1 80 y (by decide) (by decide) hy
  refine ⟨80, rf29_62 F9, ok80 F9, by rw [ln80 F9]; exact vp_of (by omega) (by decide), fun _ => done, fun z1 => ⟨fun _ => done, fun z2 => ?_⟩⟩
  rw [e80] at z1
  have g1 : enR R I ρ 0 y = 1 := (t1_ (le 0 (by decide))).mp z2
  obtain ⟨s, s1', s2, s3⟩ := hM y hy z1
  obtain ⟨j, j1, j2⟩ := (hL y hy).2.1 (Or.inr z1)
  have h4 := hS.1.1
  have q16 := hS.1.2.2.1
  have e81 : mAI M9 81 y = Int32.ofNat (40 * moM R + j) := by rw [S9.2.1 81 y (by decide) (by decide) hy]; exact j2
  rw [j2, lt32 (by omega)] at s2
  have e60 : mAI M9 60 (40 * moM R + j) = Int32.ofNat s := by rw [S9.2.2.2.1 60 (40 * moM R + j) (by decide) (by decide) (by omega) (by omega)]; exact s2
  refine ⟨100, rf29_82 F9, 60, rf29_40 F9, 81, rf29_63 F9, ok81 F9, by rw [ln81 F9]; exact vp_of (by omega) (by decide), ok60 F9, ?_⟩
  rw [e81, lt32 (show 40 * moM R + j < 2147483648 by omega), e60]
  have f1 : FrR R I ρd (5, s, 0) = 1 := by
    show FrA R I ρd 5 s 0 = 1
    unfold FrA
    rw [if_neg (by decide), if_neg (by decide), if_pos ⟨rfl, s1', rfl⟩, if_neg s3]
    obtain ⟨i1, i2⟩ := id hy
    have ed : 700 * moM R + (y - 700 * moM R) = y := by omega
    refine (emR_e (moS R).1).1.mpr ⟨y - 700 * moM R, by omega, ⟨by rw [ed]; exact z1, by rw [ed, j2, lt32 (by omega)]; exact s2⟩, ?_⟩
    rw [ed, v0]; exact g1
  have lq5 : lq3 (ρd (5, s, 0)) 1 := by
    have q := Jd.1.1 (5, s, 0)
    rw [f1] at q
    exact q
  refine ⟨by rw [ln60 F9]; exact vp_of (by omega) (by decide), R_known (i := (5, s, 0)) (a := 1) (h := h) S9 F9 k9.2.1 (Or.inr (Or.inr ⟨rfl, s1', rfl⟩)) (by decide) lq5 (fun M17 k17 _ => ⟨rfl, ?_⟩)⟩
  have J17 := Jd.1.up (v' := upP ρd (5, s, 0) 1) FrR_mo (fun i => by
    unfold upP
    by_cases z : i = (5, s, 0)
    · rw [if_pos z, z]; exact Or.inr f1.symm
    · rw [if_neg z]; exact Or.inl rfl)
  refine K _ M17 (kk.tr k17) J17.1 (fun e c hc => ?_)
  rw [← vv c hc]
  have q := congrFun e (c, y, 0)
  unfold upP at q
  rw [if_neg (fun z => by have := congrArg Prod.fst z; have : c = 5 := this; omega)] at q
  exact q
theorem R_enter (hS : RmS R sl M) (hI : RbI R I M) (hb : ∀ s, iBf I s ≤ 1) (hV : RSv R ρ M) (hL : NdL R) (hM : EmL R) (hy : inR R y) (hJ : JF (FrR R I) ρ) (K : ∀ ρ' M', SvS R ρ M ρ' M' → JF (FrR R I) ρ' → (ρ' = ρ → ∀ c, c ≤ 3 → FrR R I ρ (c, y, 0) = ρ (c, y, 0)) → Q none M') : E (h + 4) mdX11_enter [.ref 29, .int (Int32.ofNat y)] M Q := by
  obtain ⟨b1, b2, b3⟩ := hy.b hS
  have F := hI.1
  have h4 := hS.1.1
  have h7 := hS.1.2.1.1.2
  have ml := hV.1
  have tail : ∀ (M1 : Mem) (a0 a1 a2 a3 : Nat), ArF (fun c => c = 101) M M1 → enR R I ρ 0 y = a0 → enR R I ρ 1 y = a1 → enR R I ρ 2 y = a2 → enR R I ρ 3 y = a3 → DX11_enter_343 (h + 3) 29 (Int32.ofNat y) (Int32.ofNat (y - 700 * moM R)) (Int32.ofNat a0) (Int32.ofNat a1) (Int32.ofNat a2) (Int32.ofNat a3) M1 Q := fun M1 a0 a1 a2 a3 A1 e0 e1 e2 e3 => by
    rw [← e0, ← e1, ← e2, ← e3]
    exact R_en343 (h := h + 2) hS hI hb hV hL hM hy hJ A1 K
  have e86 : mAI M 86 y = (moS R).2 86 y := hS.2.1 86 y (by decide) (by decide) hy
  have e85 : mAI M 85 y = (moS R).2 85 y := hS.2.1 85 y (by decide) (by decide) hy
  have ly : (Int32.ofNat y).toNatClampNeg = y := lt32 (by omega)
  have v28 : ∀ {z : Nat}, z = 2800 → vp_in (Int32.ofNat y) z := fun e => by rw [e]; exact vp_of (by omega) (by decide)
  -- behind the beginning: g and r as a first beat has them
  have go : ∀ (a b : Nat), ((iFi I = 1 ∧ a = 1 ∧ b = 0) ∨ (iFi I ≠ 1 ∧ a = 0 ∧ b = 1)) → DX11_enter_44 (h + 3) 29 (Int32.ofNat y) (Int32.ofNat (y - 700 * moM R)) ((moS R).2 86 y) (Int32.ofNat a) (Int32.ofNat b) M Q := by
    intro a b hab
    unfold DX11_enter_44
    by_cases u : (moS R).2 86 y = -1
    · refine ⟨fun _ => ?_, fun z => absurd u z⟩
      have r0 : ∀ c, enR R I ρ c y = rtV I c := fun c => by unfold enR rtV; rw [if_pos u]
      refine tail M a b 0 0 ArF.rf ?_ ?_ (by rw [r0]; rfl) (by rw [r0]; rfl)
      · rw [r0]
        unfold rtV
        rcases hab with ⟨f, e, -⟩ | ⟨f, e, -⟩
        · rw [if_pos rfl, if_pos f, e]
        · rw [if_pos rfl, if_neg f, e]
      · rw [r0]
        unfold rtV
        rcases hab with ⟨f, -, e⟩ | ⟨f, -, e⟩
        · rw [if_neg (by decide), if_pos rfl, if_pos f, e]
        · rw [if_neg (by decide), if_pos rfl, if_neg f, e]
    · refine ⟨fun z => absurd z u, fun _ => ?_⟩
      obtain ⟨p, pi, pe, pm⟩ : ∃ p, inR R p ∧ (moS R).2 86 y = Int32.ofNat p ∧ y ∈ moG R p := by
        rcases hS.1.2.1.2.2.2.1 y hy.1 hy.2 with e | ⟨p, p1, p2, p3⟩
        · exact absurd e u
        · exact ⟨p, p1, p2, p3⟩
      obtain ⟨d1, d2, d3⟩ := pi.b hS
      have up : upR R y = p := by unfold upR; rw [pe]; exact lt32 (by omega)
      obtain ⟨⟨t, t10, et⟩, -⟩ := hL p pi
      have e80 : mAI M 80 p = Int32.ofNat t := by rw [hS.2.1 80 p (by decide) (by decide) pi, et]
      have lp : (Int32.ofNat p).toNatClampNeg = p := lt32 (by omega)
      have v28p : ∀ {z : Nat}, z = 2800 → vp_in (Int32.ofNat p) z := fun e => by rw [e]; exact vp_of (by omega) (by decide)
      have v70 : ∀ {z : Nat}, z = 700 → vp_in (Int32.ofNat (p - 700 * moM R)) z := fun e => by rw [e]; exact vp_of (by omega) (by decide)
      have r0 : mAI M 95 (p - 700 * moM R) = Int32.ofNat (ρ (0, p, 0)) := hV.2.2.1 0 p (by decide) pi
      have r1 : mAI M 96 (p - 700 * moM R) = Int32.ofNat (ρ (1, p, 0)) := hV.2.2.1 1 p (by decide) pi
      have r2 : mAI M 97 (p - 700 * moM R) = Int32.ofNat (ρ (2, p, 0)) := hV.2.2.1 2 p (by decide) pi
      have r3 : mAI M 98 (p - 700 * moM R) = Int32.ofNat (ρ (3, p, 0)) := hV.2.2.1 3 p (by decide) pi
      -- the four wires by the parent's kind
      have z0 : enR R I ρ 0 y = (if (moS R).2 80 p = 4 ∨ (moS R).2 80 p = 5 then v3A (ρ (0, p, 0)) (if (moS R).2 85 y = -1 then lokR R I ρ p else v3N (lokR R I ρ p)) else if (moS R).2 80 p = 6 then (if (moS R).2 85 y = -1 then ρ (0, p, 0) else ρ (4, ((moS R).2 85 y).toNatClampNeg, 0)) else if (moS R).2 80 p = 7 then v3O (ρ (0, p, 0)) (ρ (4, y, 0)) else ρ (0, p, 0)) := by
        unfold enR
        rw [if_neg u, if_pos rfl, up]
      have z1 : enR R I ρ 1 y = (if (moS R).2 80 p = 8 then v3A (hdV (iSet I) (moK R p) (ρ (1, p, 0))) (v3N (lokR R I ρ p)) else ρ (1, p, 0)) := by
        unfold enR
        rw [if_neg u, if_neg (by decide), if_pos rfl, up]
      have z2 : enR R I ρ 2 y = (if (moS R).2 80 p = 8 then v3O (ρ (2, p, 0)) (v3A (hdV (iSet I) (moK R p) (ρ (1, p, 0))) (lokR R I ρ p)) else ρ (2, p, 0)) := by
        unfold enR
        rw [if_neg u, if_neg (by decide), if_neg (by decide), if_pos rfl, up]
      have z3 : enR R I ρ 3 y = (if (moS R).2 80 p = 10 then v3O (ρ (3, p, 0)) (ρ (4, y, 2)) else ρ (3, p, 0)) := by
        unfold enR
        rw [if_neg u, if_neg (by decide), if_neg (by decide), if_neg (by decide), up]
      rw [et] at z0 z1 z2 z3
      have lle := lok_le hS hI hb hV hL pi
      have tt : t = 0 ∨ t = 1 ∨ t = 2 ∨ t = 3 ∨ t = 4 ∨ t = 5 ∨ t = 6 ∨ t = 7 ∨ t = 8 ∨ t = 9 ∨ t = 10 := by omega
      -- a choice
      have c185 : ∀ M1, ArF (fun c => c = 101) M M1 → (t = 4 ∨ t = 5) → DX11_enter_185 (h + 3) 29 (Int32.ofNat y) (Int32.ofNat (y - 700 * moM R)) (Int32.ofNat (ρ (0, p, 0))) (Int32.ofNat (ρ (1, p, 0))) (Int32.ofNat (ρ (2, p, 0))) (Int32.ofNat (ρ (3, p, 0))) (Int32.ofNat (lokR R I ρ p)) M1 Q := fun M1 A1 ht => by
        have F1 := (A1.rb (fun c z => by omega)).fix F
        have k4 : Int32.ofNat t = 4 ∨ Int32.ofNat t = 5 := by
          rcases ht with e | e <;> rw [e]
          · exact Or.inl rfl
          · exact Or.inr rfl
        have n8 : ¬ Int32.ofNat t = 8 := by rcases ht with e | e <;> rw [e] <;> decide
        have n10 : ¬ Int32.ofNat t = 10 := by rcases ht with e | e <;> rw [e] <;> decide
        rw [if_pos k4] at z0
        rw [if_neg n8] at z1 z2
        rw [if_neg n10] at z3
        have g85 : mAI M1 85 y = (moS R).2 85 y := by rw [A1.2.2 85 (by decide)]; exact e85
        unfold DX11_enter_185 DX11_enter_209
        rw [ly]
        refine ⟨ok29 F1, 85, rf29_67 F1, ok85 F1, v28 (ln85 F1), ?_⟩
        rw [g85]
        refine ⟨fun z => ?_, fun z => ?_⟩
        · rw [if_neg z] at z0
          exact R_other (h := h + 2) lle (fun _ => ⟨_, rfl, R_both (h := h + 2) (ml _) (v3N_le _) (fun _ => ⟨_, rfl, tail M1 _ _ _ _ A1 z0 z1 z2 z3⟩)⟩)
        · rw [if_pos z] at z0
          exact R_both (h := h + 2) (ml _) lle (fun _ => ⟨_, rfl, tail M1 _ _ _ _ A1 z0 z1 z2 z3⟩)
      rw [pe, hI.2.1, ix700 d3 (by omega), lt32 (show p - 700 * moM R < 2147483648 by omega), lp]
      refine ⟨ok29 F, 95, rf29_77 F, ok95 F, v70 (ln95 F), 96, rf29_78 F, ok96 F, v70 (ln96 F), 97, rf29_79 F, ok97 F, v70 (ln97 F), 98, rf29_80 F, ok98 F, v70 (ln98 F), 80, rf29_62 F, ok80 F, v28p (ln80 F), ?_⟩
      rw [r0, r1, r2, r3, e80]
      have oth : (t = 0 ∨ t = 1 ∨ t = 2 ∨ t = 3 ∨ t = 9) → DX11_enter_343 (h + 3) 29 (Int32.ofNat y) (Int32.ofNat (y - 700 * moM R)) (Int32.ofNat (ρ (0, p, 0))) (Int32.ofNat (ρ (1, p, 0))) (Int32.ofNat (ρ (2, p, 0))) (Int32.ofNat (ρ (3, p, 0))) M Q := fun ht => by
        have n : ¬ (Int32.ofNat t = 4 ∨ Int32.ofNat t = 5) ∧ ¬ Int32.ofNat t = 6 ∧ ¬ Int32.ofNat t = 7 ∧ ¬ Int32.ofNat t = 8 ∧ ¬ Int32.ofNat t = 10 := by
          rcases ht with e | e | e | e | e <;> rw [e] <;> decide
        rw [if_neg n.1, if_neg n.2.1, if_neg n.2.2.1] at z0
        rw [if_neg n.2.2.2.1] at z1 z2
        rw [if_neg n.2.2.2.2] at z3
        exact tail M _ _ _ _ ArF.rf z0 z1 z2 z3
      rcases tt with z | z | z | z | z | z | z | z | z | z | z
      · have q := oth (Or.inl z)
        subst z
        exact ⟨fun q => absurd q (by decide), fun q => absurd q (by decide), fun q => absurd q (by decide), fun q => absurd q (by decide), fun q => absurd q (by decide), fun q => absurd q (by decide), fun q => absurd q (by decide), fun _ => q⟩
      · have q := oth (Or.inr (Or.inl z))
        subst z
        exact ⟨fun q => absurd q (by decide), fun q => absurd q (by decide), fun q => absurd q (by decide), fun q => absurd q (by decide), fun q => absurd q (by decide), fun q => absurd q (by decide), fun q => absurd q (by decide), fun _ => q⟩
      · have q := oth (Or.inr (Or.inr (Or.inl z)))
        subst z
        exact ⟨fun q => absurd q (by decide), fun q => absurd q (by decide), fun q => absurd q (by decide), fun q => absurd q (by decide), fun q => absurd q (by decide), fun q => absurd q (by decide), fun q => absurd q (by decide), fun _ => q⟩
      · have q := oth (Or.inr (Or.inr (Or.inr (Or.inl z))))
        subst z
        exact ⟨fun q => absurd q (by decide), fun q => absurd q (by decide), fun q => absurd q (by decide), fun q => absurd q (by decide), fun q => absurd q (by decide), fun q => absurd q (by decide), fun q => absurd q (by decide), fun _ => q⟩
      · have q := fun M1 A1 => c185 M1 A1 (Or.inl z)
        subst z
        refine ⟨fun _ => ⟨80, rf29_62 F, ok80 F, v28p (ln80 F), ?_⟩, fun q => absurd q (by decide), fun q => absurd q (by decide), fun q => absurd q (by decide), fun q => absurd q (by decide), fun q => absurd q (by decide), fun q => absurd q (by decide), fun q => absurd q (by decide)⟩
        rw [e80]
        exact ⟨fun _ => ⟨81, rf29_63 F, ok81 F, v28p (ln81 F), R_lok (h := h + 1) hS hI hb hV hL pi (Or.inl et) (fun M1 A1 _ => ⟨_, rfl, q M1 A1⟩)⟩, fun q => absurd q (by decide)⟩
      · have q := c185 M ArF.rf (Or.inr z)
        subst z
        refine ⟨fun q => absurd q (by decide), fun _ => ⟨80, rf29_62 F, ok80 F, v28p (ln80 F), ?_⟩, fun q => absurd q (by decide), fun q => absurd q (by decide), fun q => absurd q (by decide), fun q => absurd q (by decide), fun q => absurd q (by decide), fun q => absurd q (by decide)⟩
        rw [e80]
        exact ⟨fun q => absurd rfl q, fun _ => ⟨81, rf29_63 F, ok81 F, v28p (ln81 F), R_lok5 (h := h + 2) (ρ := ρ) hS hI hL pi et (fun _ => ⟨_, rfl, q⟩)⟩⟩
      · subst z
        rw [if_neg (by decide), if_pos (show Int32.ofNat 6 = 6 from rfl)] at z0
        rw [if_neg (by decide)] at z1 z2 z3
        unfold DX11_enter_243
        refine ⟨fun q => absurd q (by decide), fun q => absurd q (by decide), fun _ => ⟨85, rf29_67 F, ok85 F, ?_⟩, fun q => absurd q (by decide), fun q => absurd q (by decide), fun q => absurd q (by decide), fun q => absurd q (by decide), fun q => absurd q (by decide)⟩
        rw [ly, e85]
        refine ⟨v28 (ln85 F), fun z => ⟨85, rf29_67 F, ok85 F, v28 (ln85 F), ?_⟩, fun z => ?_⟩
        · rw [if_neg z] at z0
          obtain ⟨i, il, ie⟩ := List.mem_iff_getElem.mp pm
          have ez : (moG R p).getD i 0 = y := by rw [gd_el il]; exact ie
          have kd := kid_up hS.1.2.1 pi il
          rw [ez] at kd
          have i0 : i ≠ 0 := fun e => z (kd.2.2.1.mpr e)
          obtain ⟨j, ej⟩ : ∃ j, i = j + 1 := ⟨i - 1, by omega⟩
          have q4 := kd.2.2.2.1 j ej
          have iz := ((kid_ix hS pi).2 j (by omega)).1
          have w := iz.b hS
          have e85n : (moS R).2 85 y = Int32.ofNat ((moG R p).getD j 0) := by
            obtain ⟨⟨-, -, l3, -, -⟩, -, -⟩ := hS.1.2.1.2.1 p pi.1 pi.2
            have := (l3 j (by omega)).2
            rw [← ej, ez] at this
            exact this
          rw [q4] at z0
          rw [e85, e85n]
          exact R_k (h := h + 2) (n := 0) hS hI hV iz (by have := hS.1.2.2.2.1; omega) (fun _ => ⟨_, rfl, tail M _ _ _ _ ArF.rf z0 z1 z2 z3⟩)
        · rw [if_pos z] at z0
          exact tail M _ _ _ _ ArF.rf z0 z1 z2 z3
      · subst z
        rw [if_neg (by decide), if_neg (by decide), if_pos (show Int32.ofNat 7 = 7 from rfl)] at z0
        rw [if_neg (by decide)] at z1 z2 z3
        exact ⟨fun q => absurd q (by decide), fun q => absurd q (by decide), fun q => absurd q (by decide), fun _ => R_k (h := h + 2) (n := 0) hS hI hV hy (by have := hS.1.2.2.2.1; omega) (fun _ => ⟨_, rfl, R_either (h := h + 2) (ml _) (ml _) (fun _ => ⟨_, rfl, tail M _ _ _ _ ArF.rf z0 z1 z2 z3⟩)⟩), fun q => absurd q (by decide), fun q => absurd q (by decide), fun q => absurd q (by decide), fun q => absurd q (by decide)⟩
      · subst z
        rw [if_neg (by decide), if_neg (by decide), if_neg (by decide)] at z0
        rw [if_pos (show Int32.ofNat 8 = 8 from rfl), hdV_if (ml _)] at z1 z2
        rw [if_neg (by decide)] at z3
        have c296 : ∀ (M1 : Mem) (a : Nat), ArF (fun c => c = 101) M M1 → a ≤ 2 → (if iSet I &&& moK R p = 0 then 0 else ρ (1, p, 0)) = a → DX11_enter_296 (h + 3) 29 (Int32.ofNat y) (Int32.ofNat (y - 700 * moM R)) (Int32.ofNat (ρ (0, p, 0))) (Int32.ofNat (ρ (2, p, 0))) (Int32.ofNat (ρ (3, p, 0))) (Int32.ofNat (lokR R I ρ p)) (Int32.ofNat a) M1 Q := fun M1 a A1 ha ea => by
          rw [ea] at z1 z2
          unfold DX11_enter_296
          exact R_other (h := h + 2) lle (fun _ => ⟨_, rfl, R_both (h := h + 2) ha (v3N_le _) (fun _ => ⟨_, rfl, R_both (h := h + 2) ha lle (fun _ => ⟨_, rfl, R_either (h := h + 2) (ml _) (v3A_le _ _) (fun _ => ⟨_, rfl, tail M1 _ _ _ _ A1 z0 z1 z2 z3⟩)⟩)⟩)⟩)
        refine ⟨fun q => absurd q (by decide), fun q => absurd q (by decide), fun q => absurd q (by decide), fun q => absurd q (by decide), fun _ => ⟨81, rf29_63 F, ok81 F, v28p (ln81 F), R_lok (h := h + 1) hS hI hb hV hL pi (Or.inr et) (fun M1 A1 _ => ⟨_, rfl, ?_⟩)⟩, fun q => absurd q (by decide), fun q => absurd q (by decide), fun q => absurd q (by decide)⟩
        have rb := A1.rb (fun c z => by omega)
        have F1 := rb.fix F
        have I1 := rb.bi hI
        have S1 := rb.rm hS
        have m87 := (S1.2.2.1 p pi).1
        refine ⟨87, rf29_69 F1, ok87 F1, v28p (ln87 F1), ?_⟩
        rw [m87, I1.2.2.1]
        exact ⟨fun z => c296 M1 0 A1 (by decide) (if_pos z), fun z => c296 M1 _ A1 (ml _) (if_neg z)⟩
      · have q := oth (Or.inr (Or.inr (Or.inr (Or.inr z))))
        subst z
        exact ⟨fun q => absurd q (by decide), fun q => absurd q (by decide), fun q => absurd q (by decide), fun q => absurd q (by decide), fun q => absurd q (by decide), fun _ => q, fun q => absurd q (by decide), fun q => absurd q (by decide)⟩
      · subst z
        rw [if_neg (by decide), if_neg (by decide), if_neg (by decide)] at z0
        rw [if_neg (by decide)] at z1 z2
        rw [if_pos (show Int32.ofNat 10 = 10 from rfl)] at z3
        exact ⟨fun q => absurd q (by decide), fun q => absurd q (by decide), fun q => absurd q (by decide), fun q => absurd q (by decide), fun q => absurd q (by decide), fun q => absurd q (by decide), fun _ => R_k (h := h + 2) (n := 2) hS hI hV hy (by have := hS.1.2.2.2.1; omega) (fun _ => ⟨_, rfl, R_either (h := h + 2) (ml _) (ml _) (fun _ => ⟨_, rfl, tail M _ _ _ _ ArF.rf z0 z1 z2 z3⟩)⟩), fun q => absurd q (by decide)⟩
  refine KX11_enter (h := h + 3) ?_
  unfold DX11_enter_0 DX11_enter_30
  rw [ly, hI.2.1, ix700 b3 (by omega)]
  refine ⟨ok29 F, 86, rf29_68 F, ok86 F, v28 (ln86 F), ?_⟩
  rw [e86]
  refine ⟨fun z => ⟨ok29 F, fun _ => go 0 1 (Or.inr ⟨hI.2.2.2.2.1.mp z, rfl, rfl⟩), fun z2 => absurd z z2⟩, fun z => ⟨ok29 F, fun z2 => absurd z2 z, fun _ => go 1 0 (Or.inl ⟨?_, rfl, rfl⟩)⟩⟩
  by_cases f : iFi I = 1
  · exact f
  · exact absurd (hI.2.2.2.2.1.mpr f) z
end
