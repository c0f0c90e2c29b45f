/-! the circuit is told what a beat begins with -/
theorem btL_0 {l : Nat} : btL 0 l = false := by
  unfold btL
  have e : (0 : Int32).toBitVec = 0#32 := rfl
  rw [e, BitVec.getLsbD_zero]
theorem btL_1 {l : Nat} (hl : l < 32) : btL (-1) l = true := by
  unfold btL
  have e : (-1 : Int32).toBitVec = BitVec.allOnes 32 := rfl
  rw [e, BitVec.getLsbD_allOnes]
  exact decide_eq_true hl
theorem btL_n {x : Int32} {l : Nat} (hl : l < 32) : btL (x ^^^ (-1)) l = !btL x l := by
  unfold btL
  have e : (-1 : Int32).toBitVec = BitVec.allOnes 32 := rfl
  rw [Int32.toBitVec_xor, e, BitVec.getLsbD_xor, BitVec.getLsbD_allOnes, decide_eq_true hl, Bool.xor_true]
section
variable {M M' : Mem} {x lc rc ya na : Nat} {N : Nt} {Y Z : Nat → Int32} {h n : Nat} {Q : Option Value → Mem → Prop}
/-- lanes behind a telling -/
def TlL (len n : Nat) (w : Int32) (Y Z Y' Z' : Nat → Int32) : Prop := CoL len Y' Z' ∧ ∀ l, l < 32 → ∀ j, laV len Y' Z' l j = if j = n then (if btL w l = true then 1 else 0) else laV len Y Z l j
theorem TlL.of {len : Nat} {w : Int32} (hC : CoL len Y Z) (hn : n < len) : TlL len n w Y Z (upL Y n w) (upL Z n (w ^^^ (-1))) := by
  refine ⟨fun j l hj hl => ?_, fun l hl j => ?_⟩
  · unfold upL
    by_cases e : j = n
    · rw [if_pos e, if_pos e, btL_n hl]
      cases btL w l <;> simp
    · rw [if_neg e, if_neg e]; exact hC j l hj hl
  · unfold laV upL
    by_cases e : j = n
    · rw [if_pos e, if_pos e, if_pos e, if_pos (by omega), btL_n hl]
      cases btL w l <;> simp
    · rw [if_neg e, if_neg e, if_neg e]
theorem S_tell {w : Int32} (hL : CrL M x lc rc ya na N Y Z) (hC : CoL N.length Y Z) (hn : n < N.length) (K : ∀ M' Y' Z', CrL M' x lc rc ya na N Y' Z' → ArF (fun c => c = ya ∨ c = na) M M' → TlL N.length n w Y Z Y' Z' → Q none M') : E (h + 1) mdX0_tell [.ref x, .int (Int32.ofNat (2 * n)), .int w] M Q := by
  obtain ⟨⟨o1, -⟩, ⟨r1, r2, r3, r4⟩, ⟨s1, s2, s3, s4⟩, ⟨y1, y2⟩, ⟨n1, -⟩, n6⟩ := id hL
  have us : ((Int32.ofNat (2 * n)).toUInt32 >>> ((1 : Int32).toUInt32 &&& Int32.toUInt32 31)).toInt32 = Int32.ofNat n := by
    have := us1_of (l := 2 * n) (by omega)
    rw [show 2 * n / 2 = n by omega] at this
    exact this
  refine KX0_tell ?_
  unfold DX0_tell_0
  rw [us, lt32 (show n < 2147483648 by omega)]
  refine ⟨o1, ya, r1, r2, vp_of (by omega) (by omega), fun M4 e4 => ⟨na, by rw [e4]; exact s1, by rw [e4]; exact s2, by rw [e4]; exact vp_of (show n < mL M na by omega) (show mL M na < 2147483648 by omega), fun M7 e7 => ?_⟩⟩
  have k4 : ArF (fun c => c = ya ∨ c = na) M M4 := ArF.up (Or.inl rfl) e4
  have k7 : ArF (fun c => c = ya ∨ c = na) M4 M7 := ArF.up (Or.inr rfl) e7
  refine K M7 (upL Y n w) (upL Z n (w ^^^ (-1))) (hL.ar (k4.tr k7) ?_ ?_) (k4.tr k7) (TlL.of hC hn)
  · funext j
    rw [e7, mAI_wAI, if_neg (fun z => n1 z.1), e4, mAI_wAI, y1]
    unfold upL
    by_cases z : j = n
    · rw [if_pos ⟨rfl, z⟩, if_pos z]
    · rw [if_neg (fun q => z q.2), if_neg z]
  · funext j
    rw [e7, mAI_wAI]
    unfold upL
    by_cases z : j = n
    · rw [if_pos ⟨rfl, z⟩, if_pos z]
    · rw [if_neg (fun q => z q.2), if_neg z, e4, mAI_wAI, if_neg (fun q => n1 q.1.symm), y2]
/-- stand's loop over the masks: one of them -/
theorem st_get {a1 a2 b1 b2 i : Nat} {xs hl : List Int32} {x1 x2 : Int32} (ox : ok M x 2) (f5 : mR M x 5 = some a1) (f6 : mR M x 6 = some a2) (hA1 : ALi M a1 b1 xs) (hA2 : ALi M a2 b2 hl) (hi : i < xs.length) (hl2 : hl.length = xs.length) (hm : xs.length < 200000) (K : DX0_stand_128 (h + 3) x x1 x2 (Int32.ofNat i) x (hl.getD i 0) (if x1 &&& xs.getD i 0 = 0 then 0 else -1) M Q) : T (h + 4) mdX0_stand 75 [(0, .ref x), (1, .int x1), (2, .int x2), (4, .int (Int32.ofNat i))] [] M Q := by
  obtain ⟨l1, A1, n1, e1⟩ := hA1
  obtain ⟨l2, A2, n2, e2⟩ := hA2
  refine xt_iload (j := 3) dX0_stand_75 rfl ?_
  refine xt_aload_n (j := 0) dX0_stand_77 rfl rfl ?_
  refine xt_getR dX0_stand_78 (flX0_29 rfl) ft_2_5 ox.1 ox.2 f5 ?_
  refine xt_callV (h2 := h + 3) (as := []) (st := [.int (Int32.ofNat i)]) dX0_stand_81 (mlX0_103 rfl) rfl A1.1.1 ⟨by rw [A1.1.2]; rfl, by rw [A1.1.2]; decide⟩ (by simp [Value.category]) (Nat.le_refl _) (S_alSize (h := h + 2) (Q := fun r M' => r = some (.int (Int32.ofNat l1.length)) ∧ M' = M) A1 ⟨rfl, rfl⟩) (fun r M4 HH hE => ?_)
  obtain ⟨hr, hM⟩ := HH
  subst hr
  rw [hM]
  clear hE hM M4
  show T _ _ _ _ [.int (Int32.ofNat l1.length), .int (Int32.ofNat i)] _ _
  refine xt_icmp_ge (tgt := 137) dX0_stand_84 (by decide) (fun hc => ?_) (fun _ => ?_)
  · have := (le32 (by omega) (by omega)).mp hc
    omega
  refine xt_aload_n (j := 0) dX0_stand_87 rfl rfl ?_
  refine xt_aload_n (j := 0) dX0_stand_88 rfl rfl ?_
  refine xt_getR dX0_stand_89 (flX0_33 rfl) ft_2_6 ox.1 ox.2 f6 ?_
  refine xt_iload (j := 3) dX0_stand_92 rfl ?_
  refine xt_callV (h2 := h + 3) (as := [.int (Int32.ofNat i)]) (st := [.ref x]) dX0_stand_94 (mlX0_106 rfl) rfl A2.1.1 ⟨by rw [A2.1.2]; rfl, by rw [A2.1.2]; decide⟩ (by simp [Value.category]) (Nat.le_refl _) (S_get (h := h) (Q := fun r M' => r = some (.ref (l2.getD i 0)) ∧ M' = M) A2 (by omega) ⟨rfl, rfl⟩) (fun r M5 HH hE => ?_)
  obtain ⟨hr, hM⟩ := HH
  subst hr
  rw [hM]
  clear hE hM M5
  show T _ _ _ _ [.ref (l2.getD i 0), .ref x] _ _
  refine xt_unbox (h := h + 2) dX0_stand_97 dX0_stand_100 (ccX0_86 rfl) (mlX0_110 rfl) (e2 i (by omega)) (by simp [Value.category]) ?_
  refine xt_iload_n (j := 1) dX0_stand_103 rfl rfl ?_
  refine xt_aload_n (j := 0) dX0_stand_104 rfl rfl ?_
  refine xt_getR dX0_stand_105 (flX0_29 rfl) ft_2_5 ox.1 ox.2 f5 ?_
  refine xt_iload (j := 3) dX0_stand_108 rfl ?_
  refine xt_callV (h2 := h + 3) (as := [.int (Int32.ofNat i)]) (st := [.int x1, .int (hl.getD i 0), .ref x]) dX0_stand_110 (mlX0_106 rfl) rfl A1.1.1 ⟨by rw [A1.1.2]; rfl, by rw [A1.1.2]; decide⟩ (by simp [Value.category]) (Nat.le_refl _) (S_get (h := h) (Q := fun r M' => r = some (.ref (l1.getD i 0)) ∧ M' = M) A1 (by omega) ⟨rfl, rfl⟩) (fun r M6 HH hE => ?_)
  obtain ⟨hr, hM⟩ := HH
  subst hr
  rw [hM]
  clear hE hM M6
  show T _ _ _ _ [.ref (l1.getD i 0), .int x1, .int (hl.getD i 0), .ref x] _ _
  refine xt_unbox (h := h + 2) dX0_stand_113 dX0_stand_116 (ccX0_86 rfl) (mlX0_110 rfl) (e1 i (by omega)) (by simp [Value.category]) ?_
  refine xt_iand dX0_stand_119 ?_
  refine xt_if_eq (tgt := 127) dX0_stand_120 (by decide) (fun hc => ?_) (fun hc => ?_)
  · rw [if_pos hc] at K
    refine xt_iconst (v := 0) dX0_stand_127 (by decide) ?_
    exact VX0_stand_128 (h := h + 3) K
  · rw [if_neg hc] at K
    refine xt_iconst (v := -1) dX0_stand_123 (by decide) ?_
    refine xt_goto (tgt := 128) dX0_stand_124 (by decide) ?_
    exact VX0_stand_128 (h := h + 3) K
end
