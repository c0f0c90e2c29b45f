/-! feed and end: both tapes alike -/
def tgB (v s : Int32) : Int32 := (v >>> (s &&& 31)) &&& 255
theorem tb255 : ∀ i : Fin 32, (255#32).getLsbD i.val = decide (i.val < 8) := by decide
theorem tb255' {i : Nat} (hi : i < 32) : (255#32).getLsbD i = decide (i < 8) := tb255 ⟨i, hi⟩
theorem byt_b {v : BitVec 32} {s : Nat} (hs : s + 8 ≤ 32) : (((v >>> s).signExtend 8).signExtend 32) &&& 255#32 = (v.sshiftRight s) &&& 255#32 := by
  refine BitVec.eq_of_getLsbD_eq (fun i hi => ?_)
  rw [BitVec.getLsbD_and, BitVec.getLsbD_and, tb255' hi]
  by_cases h8 : i < 8
  · rw [BitVec.getLsbD_signExtend, BitVec.getLsbD_sshiftRight, if_pos h8, BitVec.getLsbD_signExtend, if_pos hi, BitVec.getLsbD_ushiftRight, if_pos (show s + i < 32 by omega)]
    simp [h8, hi]
  · simp [h8]
theorem byt_24 {v : Int32} : byt v 24 &&& 255 = tgB v 24 := by
  unfold byt tgB
  rw [vp_nar_byte]
  exact Int32.toBitVec_inj.mp (by simpa using byt_b (v := v.toBitVec) (s := 24) (by decide))
theorem byt_16 {v : Int32} : byt v 16 &&& 255 = tgB v 16 := by
  unfold byt tgB
  rw [vp_nar_byte]
  exact Int32.toBitVec_inj.mp (by simpa using byt_b (v := v.toBitVec) (s := 16) (by decide))
theorem byt_8 {v : Int32} : byt v 8 &&& 255 = tgB v 8 := by
  unfold byt tgB
  rw [vp_nar_byte]
  exact Int32.toBitVec_inj.mp (by simpa using byt_b (v := v.toBitVec) (s := 8) (by decide))
theorem byt_0 {v : Int32} : byt v 0 &&& 255 = tgB v 0 := by
  unfold byt tgB
  rw [vp_nar_byte]
  exact Int32.toBitVec_inj.mp (by simpa using byt_b (v := v.toBitVec) (s := 0) (by decide))
theorem tgB_by {v s : Int32} : ¬ tgB v s < 0 ∧ ¬ 255 < tgB v s := by
  unfold tgB
  obtain ⟨x, e⟩ : ∃ x, x = v >>> (s &&& 31) := ⟨_, rfl⟩
  rw [← e]
  have h : (x &&& 255).toBitVec.toNat ≤ 255 := by
    rw [Int32.toBitVec_and, BitVec.toNat_and]
    exact Nat.and_le_right
  have h2 : (x &&& 255).toInt = ((x &&& 255).toBitVec.toNat : Int) := by
    show (x &&& 255).toBitVec.toInt = _
    exact BitVec.toInt_eq_toNat_of_lt (by omega)
  have e0 : (0 : Int32).toInt = 0 := by decide
  have e255 : (255 : Int32).toInt = 255 := by decide
  rw [Int32.lt_iff_toInt_lt, Int32.lt_iff_toInt_lt, h2, e0, e255]
  omega
def utF (f : Nat → Int32) (t : Nat) (v : Int32) : Nat → Int32 := fun i => if i = t then v else f i
/-- bytes: t of them, zero behind -/
def TpB (t : Nat) (f : Nat → Int32) : Prop := By f ∧ ∀ i, t ≤ i → f i = 0
def TpC (M : Mem) (t : Nat) (f : Nat → Int32) : Prop := mI M 0 1 = Int32.ofNat t ∧ ∀ i, i < t → mAI M 1 i &&& 255 = f i
def TpR (M : Mem) (t : Nat) (f : Nat → Int32) : Prop := mI M 29 1 = Int32.ofNat t ∧ ∀ i, i < t → mAI M 30 i = f i
def tf4 (f : Nat → Int32) (t : Nat) (v : Int32) : Nat → Int32 := utF (utF (utF (utF f t (tgB v 24)) (t + 1) (tgB v 16)) (t + 2) (tgB v 8)) (t + 3) (tgB v 0)
section
variable {ow : Nat → Nat} {ga : Nat → Td × PS × CoT} {gm : Nat → Nat} {M M1 M2 M' : Mem} {ms gs : List Nat} {mb gb t h k : Nat} {f : Nat → Int32} {v s a b c d e : Int32}
theorem TpB.up {v : Int32} (h : TpB t f) (hv : ¬ v < 0 ∧ ¬ 255 < v) : TpB (t + 1) (utF f t v) := by
  refine ⟨fun i => ?_, fun i hi => ?_⟩
  · unfold utF
    by_cases z : i = t
    · rw [if_pos z]; exact hv
    · rw [if_neg z]; exact h.1 i
  · unfold utF
    rw [if_neg (by omega)]; exact h.2 i (by omega)
theorem TpB.tf4 (h : TpB t f) : TpB (t + 4) (tf4 f t v) := (((h.up tgB_by).up tgB_by).up tgB_by).up tgB_by
/-- a call that touches field 1 of cell 0 and cell 1 -/
def ApF (M M' : Mem) : Prop := fr (fun a => a = 0 ∨ a = 1) M M' ∧ (mN M' = mN M ∧ mS M' = mS M) ∧ ∀ f, f ≠ 1 → mI M' 0 f = mI M 0 f
theorem ApF.tr (a : ApF M M1) (b : ApF M1 M2) : ApF M M2 := ⟨a.1.tr b.1 (fun _ _ z => z), ⟨b.2.1.1.trans a.2.1.1, b.2.1.2.trans a.2.1.2⟩, fun f z => (b.2.2 f z).trans (a.2.2 f z)⟩
theorem ap1_f : ApF M (ap1 M v s) := ⟨(fr_wAI (S := fun a => a = 0 ∨ a = 1) (Or.inr rfl)).tr (fr_wI (S := fun a => a = 0 ∨ a = 1) (Or.inl rfl)) (fun _ _ z => z), ⟨rfl, rfl⟩, fun f z => (mI_wI ..).trans (if_neg (fun y => z y.2))⟩
theorem ap1_t (hT : TpC M t f) (h8 : t < 800) (hb : byt v s &&& 255 = tgB v s) : TpC (ap1 M v s) (t + 1) (utF f t (tgB v s)) := by
  obtain ⟨h1, h2⟩ := hT
  refine ⟨by rw [mI_ap1, h1, succ32], fun i hi => ?_⟩
  have e : mAI (ap1 M v s) 1 i = if 1 = 1 ∧ i = t then byt v s else mAI M 1 i := by
    unfold ap1
    rw [h1, lt32 (by omega), mAI_wI, mAI_wAI]
  rw [e]
  unfold utF
  by_cases z : i = t
  · rw [if_pos ⟨rfl, z⟩, if_pos z, hb]
  · rw [if_neg (fun y => z y.2), if_neg z]
    exact h2 i (by omega)
theorem ap4_t (hT : TpC M t f) (h8 : t + 4 ≤ 800) : TpC (ap4 M v) (t + 4) (tf4 f t v) ∧ ApF M (ap4 M v) :=
  ⟨ap1_t (ap1_t (ap1_t (ap1_t hT (by omega) byt_24) (by omega) byt_16) (by omega) byt_8) (by omega) byt_0, ((ap1_f.tr ap1_f).tr ap1_f).tr ap1_f⟩
abbrev PuF (M M' : Mem) : Prop := RfF (fun f => f = 1) (fun c => c = 30) noP M M'
theorem pu1_f : PuF M (pu1 M v s) := (RfF.ai (fs := fun f => f = 1) (cs := fun c => c = 30) (js := noP) (M' := wAI M 30 (mI M 29 1).toNatClampNeg ((v >>> (s &&& 31)) &&& 255)) (c := 30) rfl rfl).tr (RfF.i (f := 1) rfl rfl)
theorem pu1_t (hT : TpR M t f) (h8 : t < 800) : TpR (pu1 M v s) (t + 1) (utF f t (tgB v s)) := by
  obtain ⟨h1, h2⟩ := hT
  refine ⟨by rw [mI_pu1, h1, succ32], fun i hi => ?_⟩
  have e : mAI (pu1 M v s) 30 i = if 30 = 30 ∧ i = t then tgB v s else mAI M 30 i := by
    unfold pu1 tgB
    rw [h1, lt32 (by omega), mAI_wI, mAI_wAI]
  rw [e]
  unfold utF
  by_cases z : i = t
  · rw [if_pos ⟨rfl, z⟩, if_pos z]
  · rw [if_neg (fun y => z y.2), if_neg z]
    exact h2 i (by omega)
theorem pu4_t (hT : TpR M t f) (h8 : t + 4 ≤ 800) : TpR (pu4 M v) (t + 4) (tf4 f t v) ∧ PuF M (pu4 M v) :=
  ⟨pu1_t (pu1_t (pu1_t (pu1_t hT (by omega)) (by omega)) (by omega)) (by omega), ((pu1_f.tr pu1_f).tr pu1_f).tr pu1_f⟩
def tf20 (f : Nat → Int32) (t : Nat) (a b c d e : Int32) : Nat → Int32 := tf4 (tf4 (tf4 (tf4 (tf4 f t a) (t + 4) b) (t + 4 + 4) c) (t + 4 + 4 + 4) d) (t + 4 + 4 + 4 + 4) e
theorem TpB.tf20 (h : TpB t f) : TpB (t + 20) (tf20 f t a b c d e) := h.tf4.tf4.tf4.tf4.tf4
theorem ap20_t (hT : TpC M t f) (h8 : t + 20 ≤ 800) : TpC (ap20 M a b c d e) (t + 20) (tf20 f t a b c d e) ∧ ApF M (ap20 M a b c d e) := by
  have h1 := ap4_t (v := a) hT (by omega)
  have h2 := ap4_t (v := b) h1.1 (by omega)
  have h3 := ap4_t (v := c) h2.1 (by omega)
  have h4 := ap4_t (v := d) h3.1 (by omega)
  have h5 := ap4_t (v := e) h4.1 (by omega)
  exact ⟨h5.1, (((h1.2.tr h2.2).tr h3.2).tr h4.2).tr h5.2⟩
theorem pu20_t (hT : TpR M t f) (h8 : t + 20 ≤ 800) : TpR (pu20 M a b c d e) (t + 20) (tf20 f t a b c d e) ∧ PuF M (pu20 M a b c d e) := by
  have h1 := pu4_t (v := a) hT (by omega)
  have h2 := pu4_t (v := b) h1.1 (by omega)
  have h3 := pu4_t (v := c) h2.1 (by omega)
  have h4 := pu4_t (v := d) h3.1 (by omega)
  have h5 := pu4_t (v := e) h4.1 (by omega)
  exact ⟨h5.1, (((h1.2.tr h2.2).tr h3.2).tr h4.2).tr h5.2⟩
/-- both tapes change, nothing else -/
theorem IvC.tp {t' : Nat} {f' : Nat → Int32} (h : IvC (Ag M) M ow ga gm ms gs mb gb t f) (hb : mN M < mBig) (kA : ApF M M1) (F1 : Fix M1) (kR : PuF M1 M2) (t8 : t' ≤ 800) (hB : TpB t' f') (tC : TpC M1 t' f') (tR : TpR M2 t' f') : IvC (Ag M2) M2 ow ga gm ms gs mb gb t' f' ∧ mS M2 = mS M ∧ mN M2 = mN M ∧ smS M2 ms = smS M ms ∧ smN M2 ms = smN M ms := by
  obtain ⟨hC, hR, -, h6, hq, hm, h5⟩ := h
  obtain ⟨k1, ⟨k2, k3⟩, k4⟩ := kA
  have n132 := hC.1.1
  have hC1 : CvS ow ga gm M1 ms gs mb gb := hC.out hb k1 F1 (fun a z => ⟨by omega, by omega, by omega, by
    rcases z with z | z
    · exact kd_fix hC.1 (by omega) (by omega)
    · rw [z, (ok1 hC.1).2]; decide⟩)
  have ke1 : KeP ms gs M M1 := hC.ke k1 (fun a z _ => by rw [hC.2.2.2.2.1 a (by omega)]; decide)
  have row : ∀ c, 2 ≤ c → c < 132 → sameRow M M1 c := fun c h1 h2 => k1.2 c (by omega) (by omega)
  obtain ⟨hC2, ke2⟩ := hC1.rr (by rw [k2]; exact hb) kR (fun c z => by
    rcases z with z | z
    · omega
    · exact z.elim)
  have r2 : ∀ c, c ≠ 30 → mAI M2 c = mAI M1 c := fun c z => kR.2.2.2.2.1 c z
  have r : ∀ c, 2 ≤ c → c < 132 → c ≠ 30 → mAI M2 c = mAI M c := fun c z1 z2 z3 => by rw [r2 c z3, (row c z1 z2).2.2.2.1]
  have i29 : ∀ f, f ≠ 1 → mI M2 29 f = mI M 29 f := fun f z => by rw [kR.2.2.2.1 f z, (row 29 (by decide) (by decide)).1]
  have i0 : mI M2 0 = mI M1 0 := kR.2.2.1 0 (by decide)
  have hR2 : RvS M2 ms.length gs.length := by
    obtain ⟨-, ⟨a1, a2, a3⟩, ⟨b1, b2⟩, c, d, -⟩ := id hR.1
    exact hR.kk hC2.1 (i29 18 (by decide)) (by rw [i29 91 (by decide)]; exact b1) b2 (fun j => by rw [r 103 (by decide) (by decide) (by decide)]; exact a3 j) (by rw [r 102 (by decide) (by decide) (by decide)]; exact c) (by rw [r 110 (by decide) (by decide) (by decide)]; exact d) (fun c h1 h2 => r c (by omega) (by omega) (by omega)) (by rw [kR.2.2.2.2.2 50 (fun z => z), (row 50 (by decide) (by decide)).2.2.2.2.1]) (fun c h1 h2 => r c (by omega) (by omega) (by omega))
  obtain ⟨q1, q2⟩ := SaM.sm (ms := ms) (M := M) (M' := M1) ke1.1
  obtain ⟨q3, q4⟩ := SaM.sm (ms := ms) (M := M1) (M' := M2) ke2.1
  refine ⟨⟨hC2, hR2, ⟨⟨t8, hB⟩, ⟨by rw [i0]; exact tC.1, by rw [r2 1 (by decide)]; exact tC.2⟩, tR⟩, by rw [i0, k4 6 (by decide), i29 6 (by decide)]; exact h6, fun q hq' => by rw [ke2.2 q hq', ke1.2 q hq', r 110 (by decide) (by decide) (by decide)]; exact hq q hq', fun j hj => (hm j hj).mv (fun c z1 z2 => r c (by omega) (by omega) (by omega)) (by rw [kR.2.2.2.2.2 50 (fun z => z), (row 50 (by decide) (by decide)).2.2.2.2.1]) (fun c z1 z2 => r c (by omega) (by omega) (by omega)), by rw [r 5 (by decide) (by decide) (by decide)]; exact h5.1, by have z := h5.2; unfold Ag at z ⊢; rw [i0, k4 7 (by decide), k4 8 (by decide), i29 123 (by decide), i29 124 (by decide)]; exact z⟩, by rw [kR.1.2.1, k3], by rw [kR.1.1, k2], by rw [q3, q1], by rw [q4, q2]⟩
theorem A_feed (hk : k ≤ 512) (I : Inv k M) : Pr (h + 230) mdX10_feed mdX11_feed [.int a, .int b, .int c, .int d, .int e] M (Inv (k + 1)) := by
  obtain ⟨ow, ga, gm, ms, gs, mb, gb, t, f, h1, h2⟩ := id I
  have bg := h2.bg hk
  obtain ⟨⟨t8, tB⟩, tC, tR⟩ := id h1.2.2.1
  have F := h1.1.1
  refine S_feed F tC.1 t8 (fun hT => ⟨_, rfl, ?_⟩) (fun hT => ⟨_, rfl, R_feed F tR.1 t8 (fun z => absurd z hT) (fun _ => ⟨rfl, I.up⟩)⟩)
  obtain ⟨tC1, kA⟩ := ap20_t (a := a) (b := b) (c := c) (d := d) (e := e) (show TpC M t f from tC) hT
  have F1 : Fix (ap20 M a b c d e) := F.p4.p4.p4.p4.p4
  generalize ap20 M a b c d e = M1 at tC1 kA F1
  have n132 := F.1
  have i29 : mI M1 29 = mI M 29 := (kA.1.2 29 (by omega) (by omega)).1
  have r30 : mAI M1 30 = mAI M 30 := (kA.1.2 30 (by omega) (by omega)).2.2.2.1
  have tR1 : TpR M1 t f := ⟨by rw [i29]; exact tR.1, by rw [r30]; exact tR.2⟩
  refine R_feed F1 tR1.1 t8 (fun _ => ⟨rfl, ?_⟩) (fun z => absurd hT z)
  obtain ⟨tR2, kR⟩ := pu20_t (a := a) (b := b) (c := c) (d := d) (e := e) tR1 hT
  generalize pu20 M1 a b c d e = M2 at tR2 kR
  obtain ⟨I2, s2, n2, s3, n3⟩ := h1.tp (by omega) kA F1 kR hT (TpB.tf20 tB) tC1 tR2
  exact ⟨ow, ga, gm, ms, gs, mb, gb, t + 20, _, I2, by unfold Rom at h2 ⊢; rw [s2, n2, s3, n3]; omega⟩
theorem A_end (hk : k ≤ 512) (I : Inv k M) : Pr (h + 230) mdX10_end mdX11_end [.int a] M (Inv (k + 1)) := by
  obtain ⟨ow, ga, gm, ms, gs, mb, gb, t, f, h1, h2⟩ := id I
  have bg := h2.bg hk
  obtain ⟨⟨t8, tB⟩, tC, tR⟩ := id h1.2.2.1
  have F := h1.1.1
  have ee : mI M 0 1 = mI M 29 1 := tC.1.trans tR.1.symm
  refine S_end F (fun a0 at' => ⟨_, rfl, ?_⟩) (fun z => ⟨_, rfl, R_end F (fun z1 z2 => ?_) (fun _ => ⟨rfl, I.up⟩)⟩)
  · obtain ⟨n, en, hn⟩ : ∃ n, a = Int32.ofNat n ∧ n ≤ t := by
      obtain ⟨q, e, lt⟩ := nn_of a0
      rw [tC.1, e] at at'
      exact ⟨q, e, (le32 (by omega) (by omega)).mp at'⟩
    have hT1 : TpC (wI M 0 1 a) n (fun i => if i < n then f i else 0) := ⟨(mI_own _ _ _ _).trans en, fun i hi => by rw [mAI_wI]; show _ = if i < n then f i else 0; rw [if_pos hi]; exact tC.2 i (by omega)⟩
    have kA : ApF M (wI M 0 1 a) := ⟨fr_wI (Or.inl rfl), ⟨rfl, rfl⟩, fun f z => (mI_wI ..).trans (if_neg (fun y => z y.2))⟩
    have F1 : Fix (wI M 0 1 a) := F.i
    have i29 : mI (wI M 0 1 a) 29 = mI M 29 := (kA.1.2 29 (by have := F.1; omega) (by omega)).1
    have r30 : mAI (wI M 0 1 a) 30 = mAI M 30 := rfl
    generalize wI M 0 1 a = M1 at hT1 kA F1 i29 r30
    have e1 : mI M1 29 1 = mI M 0 1 := by rw [i29, ee]
    refine R_end F1 (fun _ _ => ⟨by rw [e1], ?_⟩) (fun z => ?_)
    · have kR : PuF M1 (wI M1 29 1 a) := RfF.i (f := 1) rfl rfl
      have hT2 : TpR (wI M1 29 1 a) n (fun i => if i < n then f i else 0) := ⟨(mI_own _ _ _ _).trans en, fun i hi => by rw [mAI_wI, r30]; show _ = if i < n then f i else 0; rw [if_pos hi]; exact tR.2 i (by omega)⟩
      have hB : TpB n (fun i => if i < n then f i else 0) := ⟨fun i => by
        show ¬ (if i < n then f i else 0) < 0 ∧ ¬ 255 < (if i < n then f i else 0)
        by_cases z : i < n
        · rw [if_pos z]; exact tB.1 i
        · rw [if_neg z]; exact ⟨by decide, by decide⟩, fun i hi => if_neg (by omega)⟩
      generalize wI M1 29 1 a = M2 at kR hT2
      obtain ⟨I2, s2, n2, s3, n3⟩ := h1.tp (by omega) kA F1 kR (by omega) hB hT1 hT2
      exact ⟨ow, ga, gm, ms, gs, mb, gb, n, _, I2, by unfold Rom at h2 ⊢; rw [s2, n2, s3, n3]; omega⟩
    · rw [e1] at z
      rcases z with z | z
      · exact absurd z a0
      · exact absurd at' z
  · rw [← ee] at z2
    rcases z with z | z
    · exact absurd z z1
    · exact absurd z2 z
end
