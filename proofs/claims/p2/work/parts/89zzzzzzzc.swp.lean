/-! the circuit's lanes in memory: lanesOf, isOn, truth, sweep, settle -/
theorem ush31 : ∀ k : Fin 32, (((Int32.ofNat k.val).toUInt32 &&& Int32.toUInt32 31).toBitVec % 32).toNat = k.val := by decide +kernel
theorem ush_b {v : Int32} {k : Nat} (hk : k < 32) : ((v.toUInt32 >>> ((Int32.ofNat k).toUInt32 &&& Int32.toUInt32 31)).toInt32).toBitVec = v.toBitVec >>> k := by
  show (v.toUInt32 >>> ((Int32.ofNat k).toUInt32 &&& Int32.toUInt32 31)).toBitVec = _
  rw [UInt32.toBitVec_shiftRight, BitVec.ushiftRight_eq', ush31 ⟨k, hk⟩]
  rfl
theorem ub_0 {v : Int32} {k : Nat} (hk : k < 32) : (((v.toUInt32 >>> ((Int32.ofNat k).toUInt32 &&& Int32.toUInt32 31)).toInt32) &&& 1 = 0) ↔ btL v k = false := by
  have e1 : ((v.toUInt32 >>> ((Int32.ofNat k).toUInt32 &&& Int32.toUInt32 31)).toInt32) &&& 1 = 0 ↔ (((v.toUInt32 >>> ((Int32.ofNat k).toUInt32 &&& Int32.toUInt32 31)).toInt32) &&& 1).toBitVec = (0 : Int32).toBitVec := ⟨fun e => by rw [e], fun e => Int32.toBitVec_inj.mp e⟩
  rw [e1, Int32.toBitVec_and, ush_b hk]
  have e2 : (1 : Int32).toBitVec = 1#32 := rfl
  have e3 : (0 : Int32).toBitVec = 0#32 := rfl
  unfold btL
  rw [e2, e3, BitVec.and_one_eq_setWidth_ofBool_getLsbD, BitVec.getLsbD_ushiftRight, Nat.add_zero]
  cases v.toBitVec.getLsbD k <;> decide
theorem par32 {a : Nat} (h : a < 2147483648) : (Int32.ofNat a &&& 1 = 0) ↔ a % 2 = 0 := by
  have e : (Int32.ofNat a &&& 1).toBitVec.toNat = a % 2 := by
    rw [Int32.toBitVec_and, Int32.toBitVec_ofNat', BitVec.toNat_and, BitVec.toNat_ofNat, Nat.mod_eq_of_lt (by omega)]
    exact Nat.and_one_is_mod a
  refine ⟨fun z => ?_, fun z => ?_⟩
  · rw [z] at e; exact e.symm
  · refine Int32.toBitVec_inj.mp (BitVec.eq_of_toNat_eq ?_)
    rw [e, z]; rfl
/-- only arrays of S have changed -/
def ArF (S : Nat → Prop) (M M' : Mem) : Prop := (mN M' = mN M ∧ mS M' = mS M ∧ mK M' = mK M ∧ mL M' = mL M) ∧ (mI M' = mI M ∧ mJ M' = mJ M ∧ mR M' = mR M ∧ mAJ M' = mAJ M ∧ mAR M' = mAR M) ∧ ∀ c, ¬ S c → mAI M' c = mAI M c
section
variable {S : Nat → Prop} {M M1 M2 M' : Mem}
theorem ArF.rf : ArF S M M := ⟨⟨rfl, rfl, rfl, rfl⟩, ⟨rfl, rfl, rfl, rfl, rfl⟩, fun _ _ => rfl⟩
theorem ArF.tr (h : ArF S M M1) (k : ArF S M1 M2) : ArF S M M2 := by
  obtain ⟨⟨a1, a2, a3, a4⟩, ⟨a5, a6, a7, a8, a9⟩, a10⟩ := h
  obtain ⟨⟨b1, b2, b3, b4⟩, ⟨b5, b6, b7, b8, b9⟩, b10⟩ := k
  exact ⟨⟨b1.trans a1, b2.trans a2, b3.trans a3, b4.trans a4⟩, ⟨b5.trans a5, b6.trans a6, b7.trans a7, b8.trans a8, b9.trans a9⟩, fun c hc => (b10 c hc).trans (a10 c hc)⟩
theorem ArF.up {c k : Nat} {v : Int32} (hc : S c) (e : M' = wAI M c k v) : ArF S M M' := by
  rw [e]
  exact ⟨⟨rfl, rfl, rfl, rfl⟩, ⟨rfl, rfl, rfl, rfl, rfl⟩, fun d hd => mAI_wAI_ne (fun z => hd (by rw [z]; exact hc))⟩
theorem ArF.more {S' : Nat → Prop} (h : ArF S M M') (hs : ∀ c, S c → S' c) : ArF S' M M' := ⟨h.1, h.2.1, fun c hc => h.2.2 c (fun z => hc (hs c z))⟩
theorem ArF.ok {a k : Nat} (h : ArF S M M') (o : ok M a k) : ok M' a k := ⟨by rw [h.1.1]; exact o.1, by rw [h.1.2.2.1]; exact o.2⟩
theorem ArF.e (h : ArF S M M') : mE M M' := ⟨by rw [h.1.1]; exact Nat.le_refl _, by rw [h.1.2.1]; exact Nat.le_refl _, fun a _ => ⟨by rw [h.1.2.2.1], by rw [h.1.2.2.2]⟩⟩
end
/-- the circuit at x with its lanes Y (where nets are 1), Z (0) -/
def CrL (M : Mem) (x lc rc ya na : Nat) (N : Nt) (Y Z : Nat → Int32) : Prop := CirP M x lc rc N ∧ (mR M x 2 = some ya ∧ ok M ya 21 ∧ N.length ≤ mL M ya ∧ mL M ya < 1000000) ∧ (mR M x 3 = some na ∧ ok M na 21 ∧ N.length ≤ mL M na ∧ mL M na < 1000000) ∧ (mAI M ya = Y ∧ mAI M na = Z) ∧ (ya ≠ na ∧ ya ≠ lc ∧ ya ≠ rc ∧ na ≠ lc ∧ na ≠ rc) ∧ N.length < 100000
section
variable {M M' : Mem} {x lc rc ya na : Nat} {N : Nt} {Y Z Y' Z' : Nat → Int32} {h : Nat} {Q : Option Value → Mem → Prop}
theorem CrL.ar (hL : CrL M x lc rc ya na N Y Z) (k : ArF (fun c => c = ya ∨ c = na) M M') (e1 : mAI M' ya = Y') (e2 : mAI M' na = Z') : CrL M' x lc rc ya na N Y' Z' := by
  obtain ⟨⟨o1, c1, o2, c2, o3, i1, q, v, wf, d⟩, ⟨r1, r2, r3, r4⟩, ⟨s1, s2, s3, s4⟩, -, ⟨n1, n2, n3, n4, n5⟩, n6⟩ := hL
  obtain ⟨⟨a1, a2, a3, a4⟩, ⟨a5, a6, a7, a8, a9⟩, a10⟩ := id k
  have nl : ¬ (lc = ya ∨ lc = na) := fun z => z.elim (fun e => n2 e.symm) (fun e => n4 e.symm)
  have nr : ¬ (rc = ya ∨ rc = na) := fun z => z.elim (fun e => n3 e.symm) (fun e => n5 e.symm)
  refine ⟨⟨k.ok o1, by rw [a7]; exact c1, k.ok o2, by rw [a7]; exact c2, k.ok o3, by rw [a5]; exact i1, by rw [a4]; exact q, fun j hj => ?_, wf, d⟩, ⟨by rw [a7]; exact r1, k.ok r2, by rw [a4]; exact r3, by rw [a4]; exact r4⟩, ⟨by rw [a7]; exact s1, k.ok s2, by rw [a4]; exact s3, by rw [a4]; exact s4⟩, ⟨e1, e2⟩, ⟨n1, n2, n3, n4, n5⟩, n6⟩
  rw [a10 lc nl, a10 rc nr]
  exact v j hj
theorem S_lanes {a : Nat} (hL : CrL M x lc rc ya na N Y Z) (ha : a < 2 * N.length) (H : Q (some (.int (laN Y Z a))) M) : E (h + 1) mdX0_lanesOf [.ref x, .int (Int32.ofNat a)] M Q := by
  obtain ⟨⟨o1, -⟩, ⟨r1, r2, r3, r4⟩, ⟨s1, s2, s3, s4⟩, ⟨y1, y2⟩, -, n6⟩ := hL
  have us : ((Int32.ofNat a).toUInt32 >>> ((1 : Int32).toUInt32 &&& Int32.toUInt32 31)).toInt32 = Int32.ofNat (a / 2) := us1_of (by omega)
  refine KX0_lanesOf ?_
  unfold DX0_lanesOf_0 DX0_lanesOf_25
  rw [us, lt32 (show a / 2 < 2147483648 by omega), par32 (by omega)]
  unfold laN at H
  refine ⟨fun z => ⟨o1, na, s1, s2, vp_of (by omega) (by omega), ?_⟩, fun z => ⟨o1, ya, r1, r2, vp_of (by omega) (by omega), ?_⟩⟩
  · rw [if_neg z] at H
    rw [y2]; exact H
  · rw [if_pos z] at H
    rw [y1]; exact H
theorem S_isOn {a l : Nat} (hL : CrL M x lc rc ya na N Y Z) (hC : CoL N.length Y Z) (ha : a < 2 * N.length) (hl : l < 32) (H : Q (some (.int (if lvN (laV N.length Y Z l) a = 1 then 1 else 0))) M) : E (h + 2) mdX0_isOn [.ref x, .int (Int32.ofNat a), .int (Int32.ofNat l)] M Q := by
  refine KX0_isOn (h := h + 1) ?_
  unfold DX0_isOn_0 DX0_isOn_17
  refine ⟨hL.1.1, S_lanes (h := h) hL ha (fun _ => ⟨_, rfl, ?_⟩)⟩
  rw [ub_0 hl]
  have q := laN_1 (l := l) hC ha hl
  refine ⟨fun z => ?_, fun z => ?_⟩
  · rw [if_neg (fun e => by rw [q.mpr e] at z; exact absurd z (by decide))] at H
    exact ⟨Or.inl rfl, H⟩
  · have e : btL (laN Y Z a) l = true := by
      cases hb : btL (laN Y Z a) l with
      | true => rfl
      | false => exact absurd hb z
    rw [if_pos (q.mp e)] at H
    exact ⟨Or.inr rfl, H⟩
theorem S_truth {a : Nat} (hL : CrL M x lc rc ya na N Y Z) (hC : CoL N.length Y Z) (ha : a < 2 * N.length) (H : Q (some (.int (Int32.ofNat (lvN (laV N.length Y Z 0) a)))) M) : E (h + 3) mdX0_truth [.ref x, .int (Int32.ofNat a)] M Q := by
  have n6 := hL.2.2.2.2.2
  have le : ∀ n, laV N.length Y Z 0 n ≤ 2 := fun n => laV_le
  have b := lv_le (v := laV N.length Y Z 0) (l := a) le
  refine KX0_truth (h := h + 2) ?_
  unfold DX0_truth_0 DX0_truth_28
  refine ⟨hL.1.1, S_isOn (h := h) (l := 0) hL hC ha (by decide) (fun _ => ⟨_, rfl, fun z => ?_, fun z => ?_⟩)⟩
  · have n1 : ¬ lvN (laV N.length Y Z 0) a = 1 := fun e => by rw [if_pos e] at z; exact absurd z (by decide)
    refine S_not (h := h + 1) (by omega) (fun _ => ⟨_, rfl, S_isOn (h := h) (l := 0) hL hC (nlt_lt ha) (by decide) (fun _ => ⟨_, rfl, fun z2 => ?_, fun z2 => ?_⟩)⟩)
    · have n0 : ¬ lvN (laV N.length Y Z 0) a = 0 := fun e => by rw [if_pos ((nlt_lv le).mpr e)] at z2; exact absurd z2 (by decide)
      rw [show lvN (laV N.length Y Z 0) a = 2 by omega] at H
      exact H
    · have e0 : lvN (laV N.length Y Z 0) a = 0 := by
        by_cases y : lvN (laV N.length Y Z 0) (nlt a) = 1
        · exact (nlt_lv le).mp y
        · rw [if_neg y] at z2; exact absurd rfl z2
      rw [e0] at H
      exact H
  · have e1 : lvN (laV N.length Y Z 0) a = 1 := by
      by_cases y : lvN (laV N.length Y Z 0) a = 1
      · exact y
      · rw [if_neg y] at z; exact absurd rfl z
    rw [e1] at H
    exact H
end
/-! a sweep, by lanes -/
section
variable (N : Nt) (tb : Nat → Bool) (tv : Nat → Nat → Nat)
/-- lanes Y, Z on the way to the least solution of every lane -/
def LnJ (Y Z : Nat → Int32) : Prop := CoL N.length Y Z ∧ ∀ l, l < 32 → JF (FcN N tb (tv l)) (laV N.length Y Z l) ∧ ∀ j, j < N.length → tb j = true → laV N.length Y Z l j = tv l j
def LnX (Y Z : Nat → Int32) (l : Nat) : Prop := ∀ n, FcN N tb (tv l) (laV N.length Y Z l) n = laV N.length Y Z l n
def SwI (Y0 Z0 : Nat → Int32) (n : Nat) (f : Int32) (Y Z : Nat → Int32) : Prop := LnJ N tb tv Y Z ∧ (∀ l, l < 32 → Lq (laV N.length Y0 Z0 l) (laV N.length Y Z l) ∧ ((∀ j, laV N.length Y Z l j = laV N.length Y0 Z0 l j) → ∀ j, 1 ≤ j → j < n → FcN N tb (tv l) (laV N.length Y Z l) j = laV N.length Y Z l j)) ∧ ((f = 0 ∧ ∀ l, l < 32 → ∀ j, laV N.length Y Z l j = laV N.length Y0 Z0 l j) ∨ (f = 1 ∧ ∃ l, l < 32 ∧ ∃ j, j < N.length ∧ laV N.length Y0 Z0 l j ≠ laV N.length Y Z l j))
/-- nets that are told hold themselves; literals are nets' -/
def NtS : Prop := (∀ n, n < N.length → tb n = true → N.getD n (0, 0) = (2 * n, 2 * n)) ∧ tb 0 = true ∧ ∀ e ∈ N, e.1 < 2 * N.length ∧ e.2 < 2 * N.length
end
section
variable {N : Nt} {tb : Nat → Bool} {tv : Nat → Nat → Nat} {Y0 Z0 Y Z : Nat → Int32} {n : Nat} {f : Int32}
theorem NtS.in (h : NtS N tb) (hn : n < N.length) : (N.getD n (0, 0)).1 < 2 * N.length ∧ (N.getD n (0, 0)).2 < 2 * N.length := by
  have e : N.getD n (0, 0) ∈ N := by
    rw [List.getD_eq_getElem?_getD, List.getElem?_eq_getElem hn]
    exact List.getElem_mem hn
  exact h.2.2 _ e
/-- what a sweep makes of net n -/
theorem SwI.st (hS : NtS N tb) (h : SwI N tb tv Y0 Z0 n f Y Z) (h1 : 1 ≤ n) (hn : n < N.length) (Y' Z' : Nat → Int32) (eY : Y' = upL Y n (laN Y Z (N.getD n (0, 0)).1 &&& laN Y Z (N.getD n (0, 0)).2)) (eZ : Z' = upL Z n (laN Y Z (nlt (N.getD n (0, 0)).1) ||| laN Y Z (nlt (N.getD n (0, 0)).2))) : ((Y' n = Y n ∧ Z' n = Z n) → SwI N tb tv Y0 Z0 (n + 1) f Y Z) ∧ (¬ (Y' n = Y n ∧ Z' n = Z n) → SwI N tb tv Y0 Z0 (n + 1) 1 Y' Z') := by
  obtain ⟨⟨hC, hJ⟩, hL, hf⟩ := h
  obtain ⟨a1, a2⟩ := hS.in hn
  obtain ⟨cn, up⟩ := la_up hC hn a1 a2
  rw [← eY, ← eZ] at cn up
  have le : ∀ l n, laV N.length Y Z l n ≤ 2 := fun l n => laV_le
  -- the new truth is what the equations say, or the old one where it is told
  have nw : ∀ l, l < 32 → ∀ j, laV N.length Y' Z' l j = if j = n then FcN N tb (tv l) (laV N.length Y Z l) n else laV N.length Y Z l j := fun l hl j => by
    rw [up l hl j]
    by_cases e : j = n
    · rw [if_pos e, if_pos e]
      unfold FcN
      rw [if_pos hn]
      by_cases t : tb n = true
      · rw [if_pos t, hS.1 n hn t, ← (hJ l hl).2 n hn t]
        show v3A (lvN (laV N.length Y Z l) (2 * n)) (lvN (laV N.length Y Z l) (2 * n)) = _
        rw [lv_2, v3A_s (le l n)]
      · rw [if_neg t]
    · rw [if_neg e, if_neg e]
  have ju : ∀ l, l < 32 → JF (FcN N tb (tv l)) (laV N.length Y' Z' l) ∧ Lq (laV N.length Y Z l) (laV N.length Y' Z' l) := fun l hl => (hJ l hl).1.up FcN_mo (fun j => by
    rw [nw l hl j]
    by_cases e : j = n
    · rw [if_pos e, e]; exact Or.inr rfl
    · rw [if_neg e]; exact Or.inl rfl)
  have td : ∀ l, l < 32 → ∀ j, j < N.length → tb j = true → laV N.length Y' Z' l j = tv l j := fun l hl j hj ht => by
    rw [nw l hl j]
    by_cases e : j = n
    · rw [if_pos e, ← e]
      unfold FcN
      rw [if_pos hj, if_pos ht]
    · rw [if_neg e]; exact (hJ l hl).2 j hj ht
  have fx : ∀ l, l < 32 → (∀ j, laV N.length Y' Z' l j = laV N.length Y0 Z0 l j) → (∀ j, laV N.length Y' Z' l j = laV N.length Y Z l j) ∧ ∀ j, 1 ≤ j → j < n + 1 → FcN N tb (tv l) (laV N.length Y Z l) j = laV N.length Y Z l j := fun l hl e => by
    have e1 : ∀ j, laV N.length Y Z l j = laV N.length Y0 Z0 l j := fun j => by
      have q1 := (hL l hl).1 j
      have q2 := (ju l hl).2 j
      rw [e j] at q2
      exact q2.an q1
    have e2 : ∀ j, laV N.length Y' Z' l j = laV N.length Y Z l j := fun j => (e j).trans (e1 j).symm
    refine ⟨e2, fun j j1 j2 => ?_⟩
    by_cases z : j = n
    · have q := nw l hl n
      rw [if_pos rfl, e2 n] at q
      rw [z]; exact q.symm
    · exact (hL l hl).2 e1 j j1 (by omega)
  refine ⟨fun z => ?_, fun z => ?_⟩
  · have YY : Y' = Y := by
      funext j
      by_cases e : j = n
      · rw [e]; exact z.1
      · rw [eY]; unfold upL; rw [if_neg e]
    have ZZ : Z' = Z := by
      funext j
      by_cases e : j = n
      · rw [e]; exact z.2
      · rw [eZ]; unfold upL; rw [if_neg e]
    rw [YY, ZZ] at fx
    exact ⟨⟨hC, hJ⟩, fun l hl => ⟨(hL l hl).1, fun e => (fx l hl e).2⟩, hf⟩
  · refine ⟨⟨cn, fun l hl => ⟨(ju l hl).1, td l hl⟩⟩, fun l hl => ⟨(hL l hl).1.tr (ju l hl).2, fun e j j1 j2 => ?_⟩, Or.inr ⟨rfl, ?_⟩⟩
    · obtain ⟨e2, q⟩ := fx l hl e
      have ef : laV N.length Y' Z' l = laV N.length Y Z l := funext e2
      rw [ef]
      exact q j j1 j2
    · by_cases y : ∃ l, l < 32 ∧ laV N.length Y Z l n ≠ laV N.length Y' Z' l n
      · obtain ⟨l, hl, ne⟩ := y
        refine ⟨l, hl, n, hn, fun e => ne ?_⟩
        have q1 := (hL l hl).1 n
        have q2 := (ju l hl).2 n
        rw [← e] at q2 ⊢
        exact (q1.an q2).symm
      · refine absurd ?_ z
        have q := la_eq cn hC hn (fun l hl => by
          by_cases e : laV N.length Y Z l n = laV N.length Y' Z' l n
          · exact e.symm
          · exact absurd ⟨l, hl, e⟩ y)
        exact q
end
