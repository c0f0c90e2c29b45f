/-! the tree: the methods that put nodes together -/
def wrT (Θ : TrT) (k : Int32) (c : Nat) : TrT × Nat := (hgT (mkT Θ k).1 (mkT Θ k).2 c, (mkT Θ k).2)
def prT (Θ : TrT) (k : Int32) (c d : Nat) : TrT × Nat := (hgT (hgT (mkT Θ k).1 (mkT Θ k).2 c) (mkT Θ k).2 d, (mkT Θ k).2)
def paT (Θ : TrT) : TrT × Nat := (((mkT Θ 1).1.1, (mkT Θ 1).1.2.1 + 1, up2 (up2 (up2 (mkT Θ 1).1.2.2 11 (mkT Θ 1).2 (Int32.ofNat Θ.2.1)) 12 (mkT Θ 1).2 ((1 : Int32) <<< (Int32.ofNat Θ.2.1 &&& 31))) 13 (mkT Θ 1).2 2), (mkT Θ 1).2)
def emT (Θ : TrT) (v : Nat) : TrT × Nat := (((mkT Θ 2).1.1, (mkT Θ 2).1.2.1, up2 (up2 (mkT Θ 2).1.2.2 11 (mkT Θ 2).2 (Int32.ofNat v)) 13 (mkT Θ 2).2 1), (mkT Θ 2).2)
def exT (Θ : TrT) (v : Nat) : TrT × Nat := (((mkT Θ 3).1.1, (mkT Θ 3).1.2.1, up2 (up2 (mkT Θ 3).1.2.2 11 (mkT Θ 3).2 (2 + Int32.ofNat v)) 13 (mkT Θ 3).2 ((1 : Int32) <<< ((2 + Int32.ofNat v) &&& 31))), (mkT Θ 3).2)
def cdT (Θ : TrT) (a : Nat) (l : Int32) : TrT := (Θ.1, Θ.2.1, up2 Θ.2.2 10 a l)
def chT (Θ : TrT) (l : Int32) (c d : Nat) : TrT × Nat := (cdT (prT Θ 4 c d).1 (prT Θ 4 c d).2 l, (prT Θ 4 c d).2)
def suT (Θ : TrT) (c : Nat) (l : Int32) : TrT × Nat := (cdT (wrT Θ 7 c).1 (wrT Θ 7 c).2 l, (wrT Θ 7 c).2)
def haT (Θ : TrT) : TrT × Nat := wrT (paT Θ).1 6 (paT Θ).2
def stT (Θ : TrT) (v : Nat) : TrT × Nat := wrT (prT (paT (emT Θ v).1).1 5 (emT Θ v).2 (paT (emT Θ v).1).2).1 6 (prT (paT (emT Θ v).1).1 5 (emT Θ v).2 (paT (emT Θ v).1).2).2
def wt1 (Θ : TrT) : TrT × Nat := mkT (exT (paT Θ).1 0).1 0
def wt2 (Θ : TrT) (l : Int32) : TrT × Nat := chT (wt1 Θ).1 l (exT (paT Θ).1 0).2 (wt1 Θ).2
def wt3 (Θ : TrT) (l : Int32) (im : Bool) : TrT × Nat := if im then prT (wt2 Θ l).1 5 (wt2 Θ l).2 (paT Θ).2 else prT (wt2 Θ l).1 5 (paT Θ).2 (wt2 Θ l).2
def waT (Θ : TrT) (l : Int32) (im : Bool) : TrT × Nat := wrT (wt3 Θ l im).1 6 (wt3 Θ l im).2
def awT (Θ : TrT) (l : Int32) (im : Bool) : TrT × Nat := wrT (waT Θ l im).1 9 (waT Θ l im).2
def wk1 (Θ : TrT) (c : Nat) : TrT × Nat := prT (exT Θ 0).1 5 c (exT Θ 0).2
def wk2 (Θ : TrT) (c : Nat) (l : Int32) (im : Bool) : TrT × Nat := waT (wk1 Θ c).1 l im
def wk3 (Θ : TrT) (c : Nat) (l : Int32) (im : Bool) : TrT × Nat := prT (wk2 Θ c l im).1 8 (wk1 Θ c).2 (wk2 Θ c l im).2
def wkT (Θ : TrT) (c : Nat) (l : Int32) (im : Bool) : TrT × Nat := wrT (wk3 Θ c l im).1 9 (wk3 Θ c l im).2
def abT (Θ : TrT) (c : Nat) (l : Int32) : TrT × Nat := wkT (suT Θ c l).1 (suT Θ c l).2 l false
/-- a step of the tree: the node is one of it, and none goes -/
def Ts (Θ : TrT) (r : TrT × Nat) : Prop := Θ.1 ≤ r.1.1 ∧ r.2 < r.1.1
theorem Ts.tr {Θ : TrT} {r q : TrT × Nat} (h : Ts Θ r) (k : Ts r.1 q) : Ts Θ q := ⟨Nat.le_trans h.1 k.1, k.2⟩
section
variable {M : Mem} {Θ : TrT} {h : Nat} {Q : Option Value → Mem → Prop}
theorem ts_mk {k : Int32} (h1 : 1 ≤ Θ.1) : Ts Θ (mkT Θ k) := ⟨mkT_le, mkT_lt h1⟩
theorem ts_wr {k : Int32} {c : Nat} (h1 : 1 ≤ Θ.1) : Ts Θ (wrT Θ k c) := ⟨by show Θ.1 ≤ (hgT _ _ _).1; rw [hgT_n.1]; exact mkT_le, by show _ < (hgT _ _ _).1; rw [hgT_n.1]; exact mkT_lt h1⟩
theorem ts_pr {k : Int32} {c d : Nat} (h1 : 1 ≤ Θ.1) : Ts Θ (prT Θ k c d) := ⟨by show Θ.1 ≤ (hgT _ _ _).1; rw [hgT_n.1, hgT_n.1]; exact mkT_le, by show _ < (hgT _ _ _).1; rw [hgT_n.1, hgT_n.1]; exact mkT_lt h1⟩
theorem ts_pa (h1 : 1 ≤ Θ.1) : Ts Θ (paT Θ) := ⟨mkT_le, mkT_lt h1⟩
theorem ts_em {v : Nat} (h1 : 1 ≤ Θ.1) : Ts Θ (emT Θ v) := ⟨mkT_le, mkT_lt h1⟩
theorem ts_ex {v : Nat} (h1 : 1 ≤ Θ.1) : Ts Θ (exT Θ v) := ⟨mkT_le, mkT_lt h1⟩
theorem ts_ch {l : Int32} {c d : Nat} (h1 : 1 ≤ Θ.1) : Ts Θ (chT Θ l c d) := ts_pr (k := 4) (c := c) (d := d) h1
theorem ts_su {l : Int32} {c : Nat} (h1 : 1 ≤ Θ.1) : Ts Θ (suT Θ c l) := ts_wr (k := 7) (c := c) h1
theorem Ts.one {r : TrT × Nat} (h : Ts Θ r) (h1 : 1 ≤ Θ.1) : 1 ≤ r.1.1 := Nat.le_trans h1 h.1
theorem ts_ha (h1 : 1 ≤ Θ.1) : Ts Θ (haT Θ) := (ts_pa h1).tr (ts_wr ((ts_pa h1).one h1))
theorem ts_st {v : Nat} (h1 : 1 ≤ Θ.1) : Ts Θ (stT Θ v) := by
  have a := ts_em (v := v) h1
  have b := ts_pa (a.one h1)
  have c := ts_pr (k := 5) (c := (emT Θ v).2) (d := (paT (emT Θ v).1).2) (b.one (a.one h1))
  exact ((a.tr b).tr c).tr (ts_wr (c.one (b.one (a.one h1))))
theorem ts_w1 (h1 : 1 ≤ Θ.1) : Ts Θ (wt1 Θ) := ((ts_pa h1).tr (ts_ex ((ts_pa h1).one h1))).tr (ts_mk ((ts_ex ((ts_pa h1).one h1)).one ((ts_pa h1).one h1)))
theorem ts_w2 {l : Int32} (h1 : 1 ≤ Θ.1) : Ts Θ (wt2 Θ l) := (ts_w1 h1).tr (ts_ch ((ts_w1 h1).one h1))
theorem ts_w3 {l : Int32} {im : Bool} (h1 : 1 ≤ Θ.1) : Ts Θ (wt3 Θ l im) := by
  unfold wt3
  split
  · exact (ts_w2 h1).tr (ts_pr ((ts_w2 h1).one h1))
  · exact (ts_w2 h1).tr (ts_pr ((ts_w2 h1).one h1))
theorem ts_wa {l : Int32} {im : Bool} (h1 : 1 ≤ Θ.1) : Ts Θ (waT Θ l im) := (ts_w3 h1).tr (ts_wr ((ts_w3 h1).one h1))
theorem ts_aw {l : Int32} {im : Bool} (h1 : 1 ≤ Θ.1) : Ts Θ (awT Θ l im) := (ts_wa h1).tr (ts_wr ((ts_wa h1).one h1))
theorem ts_k1 {c : Nat} (h1 : 1 ≤ Θ.1) : Ts Θ (wk1 Θ c) := (ts_ex h1).tr (ts_pr ((ts_ex h1).one h1))
theorem ts_k2 {c : Nat} {l : Int32} {im : Bool} (h1 : 1 ≤ Θ.1) : Ts Θ (wk2 Θ c l im) := (ts_k1 h1).tr (ts_wa ((ts_k1 h1).one h1))
theorem ts_k3 {c : Nat} {l : Int32} {im : Bool} (h1 : 1 ≤ Θ.1) : Ts Θ (wk3 Θ c l im) := (ts_k2 h1).tr (ts_pr ((ts_k2 h1).one h1))
theorem ts_wk {c : Nat} {l : Int32} {im : Bool} (h1 : 1 ≤ Θ.1) : Ts Θ (wkT Θ c l im) := (ts_k3 h1).tr (ts_wr ((ts_k3 h1).one h1))
theorem ts_ab {c : Nat} {l : Int32} (h1 : 1 ≤ Θ.1) : Ts Θ (abT Θ c l) := (ts_su h1).tr (ts_wk ((ts_su h1).one h1))
theorem TrP.one (hT : TrP M Θ) : 1 ≤ Θ.1 ∧ Θ.1 ≤ 640 := hT.2.2.1
/-- one row at a node is written: not the last children -/
theorem TrP.ai {q a : Nat} {v : Int32} (hT : TrP M Θ) (h7 : q ≠ 7) (h5 : 6 ≤ q) (h13 : q ≤ 13) : TrP (wAI M q a v) (Θ.1, Θ.2.1, up2 Θ.2.2 q a v) := by
  obtain ⟨h1, h2, h3, h4, h5', h6⟩ := hT
  refine ⟨h1, h2, h3, fun c c5 c13 => up2_cg (h4 c c5 c13), fun j j1 j2 => ?_, by show up2 Θ.2.2 q a v 5 0 = 0; rw [up2_row (fun z => by omega)]; exact h6⟩
  obtain ⟨x, hx, ex⟩ := h5' j j1 j2
  exact ⟨x, hx, by show up2 Θ.2.2 q a v 7 j = _; rw [up2_row (fun z => h7 z.symm)]; exact ex⟩
theorem S_wr {k : Int32} {c : Nat} (F : Fix M) (hT : TrP M Θ) (hc : c < Θ.1) (H : ∀ M', TrP M' (wrT Θ k c).1 → TrF M M' → Q (some (.int (Int32.ofNat (wrT Θ k c).2))) M') : E (h + 3) mdX8_wrap [.ref 4, .int k, .int (Int32.ofNat c)] M Q := by
  have m := ts_mk (k := k) hT.one.1
  refine KX8_wrap ?_
  unfold DX8_wrap_0
  exact ⟨ok4 F, S_mk F hT (fun M1 T1 F1 _ => ⟨_, rfl, S_hg (h := h) (F1.fix F) T1 m.2 (Nat.lt_of_lt_of_le hc m.1) (fun M2 T2 F2 _ => ⟨rfl, H M2 T2 (F1.tr F2)⟩)⟩)⟩
theorem S_pr {k : Int32} {c d : Nat} (F : Fix M) (hT : TrP M Θ) (hc : c < Θ.1) (hd : d < Θ.1) (H : ∀ M', TrP M' (prT Θ k c d).1 → TrF M M' → Q (some (.int (Int32.ofNat (prT Θ k c d).2))) M') : E (h + 3) mdX8_pair [.ref 4, .int k, .int (Int32.ofNat c), .int (Int32.ofNat d)] M Q := by
  have m := ts_mk (k := k) hT.one.1
  refine KX8_pair ?_
  unfold DX8_pair_0
  exact ⟨ok4 F, S_mk F hT (fun M1 T1 F1 _ => ⟨_, rfl, S_hg (h := h) (F1.fix F) T1 m.2 (Nat.lt_of_lt_of_le hc m.1) (fun M2 T2 F2 _ => ⟨rfl, S_hg (h := h) ((F1.tr F2).fix F) T2 (by rw [hgT_n.1]; exact m.2) (by rw [hgT_n.1]; exact Nat.lt_of_lt_of_le hd m.1) (fun M3 T3 F3 _ => ⟨rfl, H M3 T3 ((F1.tr F2).tr F3)⟩)⟩)⟩)⟩
theorem S_pa (F : Fix M) (hT : TrP M Θ) (H : ∀ M', TrP M' (paT Θ).1 → TrF M M' → Q (some (.int (Int32.ofNat (paT Θ).2))) M') : E (h + 2) mdX8_pauseNode [.ref 4] M Q := by
  have m := ts_mk (k := 1) hT.one.1
  have m2 := m.2
  have hpz : (mkT Θ 1).1.2.1 = Θ.2.1 := by unfold mkT; split <;> rfl
  refine KX8_pauseNode ?_
  unfold DX8_pauseNode_0
  refine ⟨ok4 F, S_mk F hT (fun M1 T1 F1 _ => ⟨_, rfl, ?_⟩)⟩
  have l1 := T1.one
  have vv : ∀ {M : Mem} {q : Nat}, mL M q = 640 → vp_in (Int32.ofNat (mkT Θ 1).2) (mL M q) := fun e => by rw [e]; exact vp_of (by omega) (by decide)
  have G1 := F1.fix F
  have i10 : mI M1 4 10 = Int32.ofNat Θ.2.1 := by rw [T1.2.1, hpz]
  rw [lt32 (by omega), i10]
  refine ⟨11, rf4_6 G1, ok11 G1, vv (ln11 G1), fun A a => ?_⟩
  have GA : Fix A := by rw [a]; exact G1.ai
  have iA : mI A 4 10 = Int32.ofNat Θ.2.1 := by rw [a]; exact i10
  rw [iA]
  refine ⟨12, rf4_7 GA, ok12 GA, vv (ln12 GA), fun B bb => ?_⟩
  have GB : Fix B := by rw [bb]; exact GA.ai
  refine ⟨13, rf4_8 GB, ok13 GB, vv (ln13 GB), fun C c D d => ?_⟩
  have iC : mI C 4 10 = Int32.ofNat Θ.2.1 := by rw [c, bb]; exact iA
  rw [iC, succ32] at d
  have TC : TrP C ((mkT Θ 1).1.1, (mkT Θ 1).1.2.1, up2 (up2 (up2 (mkT Θ 1).1.2.2 11 (mkT Θ 1).2 (Int32.ofNat Θ.2.1)) 12 (mkT Θ 1).2 ((1 : Int32) <<< (Int32.ofNat Θ.2.1 &&& 31))) 13 (mkT Θ 1).2 2) := by
    rw [c, bb, a]
    exact ((T1.ai (q := 11) (by decide) (by decide) (by decide)).ai (q := 12) (by decide) (by decide) (by decide)).ai (q := 13) (by decide) (by decide) (by decide)
  refine H D ?_ ?_
  · obtain ⟨t1, t2, t3, t4, t5⟩ := TC
    refine ⟨by rw [d, mI_wI, if_neg (by decide)]; exact t1, by rw [d, mI_own]; show _ = Int32.ofNat ((mkT Θ 1).1.2.1 + 1); rw [hpz], t3, fun q q5 q13 => by rw [d]; exact t4 q q5 q13, t5⟩
  · rw [d, c, bb, a]
    exact (((F1.tr (TrF.ai (by decide) (by decide))).tr (TrF.ai (by decide) (by decide))).tr (TrF.ai (by decide) (by decide))).tr (TrF.i (Or.inr rfl))
theorem S_em {v : Nat} (F : Fix M) (hT : TrP M Θ) (H : ∀ M', TrP M' (emT Θ v).1 → TrF M M' → Q (some (.int (Int32.ofNat (emT Θ v).2))) M') : E (h + 2) mdX8_emit [.ref 4, .int (Int32.ofNat v)] M Q := by
  have m := ts_mk (k := 2) hT.one.1
  have m2 := m.2
  refine KX8_emit ?_
  unfold DX8_emit_0
  refine ⟨ok4 F, S_mk F hT (fun M1 T1 F1 _ => ⟨_, rfl, ?_⟩)⟩
  have l1 := T1.one
  have vv : ∀ {M : Mem} {q : Nat}, mL M q = 640 → vp_in (Int32.ofNat (mkT Θ 2).2) (mL M q) := fun e => by rw [e]; exact vp_of (by omega) (by decide)
  have G1 := F1.fix F
  rw [lt32 (by omega)]
  refine ⟨11, rf4_6 G1, ok11 G1, vv (ln11 G1), fun A a => ?_⟩
  have GA : Fix A := by rw [a]; exact G1.ai
  refine ⟨13, rf4_8 GA, ok13 GA, vv (ln13 GA), fun C c => ?_⟩
  refine H C ?_ ?_
  · rw [c, a]; exact (T1.ai (q := 11) (by decide) (by decide) (by decide)).ai (q := 13) (by decide) (by decide) (by decide)
  · rw [c, a]; exact (F1.tr (TrF.ai (by decide) (by decide))).tr (TrF.ai (by decide) (by decide))
theorem S_ex {v : Nat} (F : Fix M) (hT : TrP M Θ) (H : ∀ M', TrP M' (exT Θ v).1 → TrF M M' → Q (some (.int (Int32.ofNat (exT Θ v).2))) M') : E (h + 2) mdX8_exit [.ref 4, .int (Int32.ofNat v)] M Q := by
  have m := ts_mk (k := 3) hT.one.1
  have m2 := m.2
  refine KX8_exit ?_
  unfold DX8_exit_0
  refine ⟨ok4 F, S_mk F hT (fun M1 T1 F1 _ => ⟨_, rfl, ?_⟩)⟩
  have l1 := T1.one
  have vv : ∀ {M : Mem} {q : Nat}, mL M q = 640 → vp_in (Int32.ofNat (mkT Θ 3).2) (mL M q) := fun e => by rw [e]; exact vp_of (by omega) (by decide)
  have G1 := F1.fix F
  rw [lt32 (by omega)]
  refine ⟨11, rf4_6 G1, ok11 G1, vv (ln11 G1), fun A a => ?_⟩
  have GA : Fix A := by rw [a]; exact G1.ai
  have eA : mAI A 11 (mkT Θ 3).2 = 2 + Int32.ofNat v := by rw [a]; exact mAI_own _ _ _ _
  refine ⟨13, rf4_8 GA, 11, rf4_6 GA, ok11 GA, vv (ln11 GA), ok13 GA, vv (ln13 GA), fun C c => ?_⟩
  rw [eA] at c
  refine H C ?_ ?_
  · rw [c, a]; exact (T1.ai (q := 11) (by decide) (by decide) (by decide)).ai (q := 13) (by decide) (by decide) (by decide)
  · rw [c, a]; exact (F1.tr (TrF.ai (by decide) (by decide))).tr (TrF.ai (by decide) (by decide))
theorem S_ch {l : Int32} {c d : Nat} (F : Fix M) (hT : TrP M Θ) (hc : c < Θ.1) (hd : d < Θ.1) (H : ∀ M', TrP M' (chT Θ l c d).1 → TrF M M' → Q (some (.int (Int32.ofNat (chT Θ l c d).2))) M') : E (h + 3) mdX8_choice [.ref 4, .int l, .int (Int32.ofNat c), .int (Int32.ofNat d)] M Q := by
  have m := ts_mk (k := 4) hT.one.1
  have m2 := m.2
  refine KX8_choice ?_
  unfold DX8_choice_0
  refine ⟨ok4 F, S_mk F hT (fun M1 T1 F1 _ => ⟨_, rfl, S_hg (h := h) (F1.fix F) T1 m.2 (Nat.lt_of_lt_of_le hc m.1) (fun M2 T2 F2 _ => ⟨rfl, S_hg (h := h) ((F1.tr F2).fix F) T2 (by rw [hgT_n.1]; exact m.2) (by rw [hgT_n.1]; exact Nat.lt_of_lt_of_le hd m.1) (fun M3 T3 F3 _ => ⟨rfl, ?_⟩)⟩)⟩)⟩
  have l1 := T1.one
  have G3 := ((F1.tr F2).tr F3).fix F
  rw [lt32 (by omega)]
  refine ⟨10, rf4_5 G3, ok10 G3, by rw [ln10 G3]; exact vp_of (by omega) (by decide), fun A a => H A ?_ ?_⟩
  · rw [a]; exact T3.ai (q := 10) (by decide) (by decide) (by decide)
  · rw [a]; exact ((F1.tr F2).tr F3).tr (TrF.ai (by decide) (by decide))
theorem S_su {l : Int32} {c : Nat} (F : Fix M) (hT : TrP M Θ) (hc : c < Θ.1) (H : ∀ M', TrP M' (suT Θ c l).1 → TrF M M' → Q (some (.int (Int32.ofNat (suT Θ c l).2))) M') : E (h + 4) mdX8_suspend [.ref 4, .int (Int32.ofNat c), .int l] M Q := by
  have m := ts_wr (k := 7) (c := c) hT.one.1
  refine KX8_suspend ?_
  unfold DX8_suspend_0
  refine ⟨ok4 F, S_wr F hT hc (fun M1 T1 F1 _ => ⟨_, rfl, ?_⟩)⟩
  have l1 := T1.one
  have m2 := m.2
  have G1 := F1.fix F
  rw [lt32 (by omega)]
  refine ⟨10, rf4_5 G1, ok10 G1, by rw [ln10 G1]; exact vp_of (by omega) (by decide), fun A a => H A ?_ ?_⟩
  · rw [a]; exact T1.ai (q := 10) (by decide) (by decide) (by decide)
  · rw [a]; exact F1.tr (TrF.ai (by decide) (by decide))
theorem S_ha (F : Fix M) (hT : TrP M Θ) (H : ∀ M', TrP M' (haT Θ).1 → TrF M M' → Q (some (.int (Int32.ofNat (haT Θ).2))) M') : E (h + 4) mdX8_halt [.ref 4] M Q := by
  refine KX8_halt ?_
  unfold DX8_halt_0
  exact ⟨ok4 F, S_pa (h := h + 1) F hT (fun M1 T1 F1 _ => ⟨_, rfl, S_wr (F1.fix F) T1 (ts_pa hT.one.1).2 (fun M2 T2 F2 _ => ⟨_, rfl, H M2 T2 (F1.tr F2)⟩)⟩)⟩
theorem S_st {v : Nat} (F : Fix M) (hT : TrP M Θ) (H : ∀ M', TrP M' (stT Θ v).1 → TrF M M' → Q (some (.int (Int32.ofNat (stT Θ v).2))) M') : E (h + 4) mdX8_sustain [.ref 4, .int (Int32.ofNat v)] M Q := by
  have a := ts_em (v := v) hT.one.1
  have b := ts_pa (a.one hT.one.1)
  refine KX8_sustain ?_
  unfold DX8_sustain_0
  refine ⟨ok4 F, S_em (h := h + 1) F hT (fun M1 T1 F1 _ => ⟨_, rfl, S_pa (h := h + 1) (F1.fix F) T1 (fun M2 T2 F2 _ => ⟨_, rfl, S_pr ((F1.tr F2).fix F) T2 (Nat.lt_of_lt_of_le a.2 b.1) b.2 (fun M3 T3 F3 _ => ⟨_, rfl, S_wr (((F1.tr F2).tr F3).fix F) T3 (ts_pr T2.one.1).2 (fun M4 T4 F4 _ => ⟨_, rfl, H M4 T4 (((F1.tr F2).tr F3).tr F4)⟩)⟩)⟩)⟩)⟩
def b32 (im : Bool) : Int32 := if im then 1 else 0
theorem S_wa {l : Int32} {im : Bool} (F : Fix M) (hT : TrP M Θ) (H : ∀ M', TrP M' (waT Θ l im).1 → TrF M M' → Q (some (.int (Int32.ofNat (waT Θ l im).2))) M') : E (h + 4) mdX8_watch [.ref 4, .int l, .int (b32 im)] M Q := by
  have p := ts_pa hT.one.1
  have e := ts_ex (v := 0) (p.one hT.one.1)
  have w1 := ts_w1 hT.one.1
  have w2 := ts_w2 (l := l) hT.one.1
  have m1 := ts_mk (k := 0) (e.one (p.one hT.one.1))
  have c2 := ts_ch (l := l) (c := (exT (paT Θ).1 0).2) (d := (wt1 Θ).2) (w1.one hT.one.1)
  refine KX8_watch ?_
  unfold DX8_watch_0 DX8_watch_48
  unfold waT wt3 at H
  refine ⟨ok4 F, S_pa (h := h + 1) F hT (fun M1 T1 F1 _ => ⟨_, rfl, S_ex (h := h + 1) (v := 0) (F1.fix F) T1 (fun M2 T2 F2 _ => ⟨_, rfl, S_mk (h := h + 2) ((F1.tr F2).fix F) T2 (fun M3 T3 F3 _ => ⟨_, rfl, S_ch (Θ := (wt1 Θ).1) (((F1.tr F2).tr F3).fix F) T3 (Nat.lt_of_lt_of_le e.2 m1.1) m1.2 (fun M4 T4 F4 _ => ⟨_, rfl, ?_⟩)⟩)⟩)⟩)⟩
  have G4 := (((F1.tr F2).tr F3).tr F4).fix F
  have hp2 : (paT Θ).2 < (wt2 Θ l).1.1 := Nat.lt_of_lt_of_le p.2 (Nat.le_trans (Nat.le_trans e.1 m1.1) c2.1)
  cases im with
  | false =>
    refine ⟨fun _ => S_pr (Θ := (wt2 Θ l).1) G4 T4 hp2 c2.2 (fun M5 T5 F5 _ => ⟨_, rfl, ok4 (F5.fix G4), S_wr (F5.fix G4) T5 (ts_pr T4.one.1).2 (fun M6 T6 F6 _ => ⟨_, rfl, ?_⟩)⟩), fun z => absurd rfl z⟩
    exact H M6 T6 (((((F1.tr F2).tr F3).tr F4).tr F5).tr F6)
  | true =>
    refine ⟨fun z => absurd z (by decide), fun _ => S_pr (Θ := (wt2 Θ l).1) G4 T4 c2.2 hp2 (fun M5 T5 F5 _ => ⟨_, rfl, ok4 (F5.fix G4), S_wr (F5.fix G4) T5 (ts_pr T4.one.1).2 (fun M6 T6 F6 _ => ⟨_, rfl, ?_⟩)⟩)⟩
    exact H M6 T6 (((((F1.tr F2).tr F3).tr F4).tr F5).tr F6)
theorem S_aw {l : Int32} {im : Bool} (F : Fix M) (hT : TrP M Θ) (H : ∀ M', TrP M' (awT Θ l im).1 → TrF M M' → Q (some (.int (Int32.ofNat (awT Θ l im).2))) M') : E (h + 5) mdX8_await [.ref 4, .int l, .int (b32 im)] M Q := by
  refine KX8_await ?_
  unfold DX8_await_0
  exact ⟨ok4 F, S_wa F hT (fun M1 T1 F1 _ => ⟨_, rfl, S_wr (h := h + 1) (F1.fix F) T1 (ts_wa hT.one.1).2 (fun M2 T2 F2 _ => ⟨_, rfl, H M2 T2 (F1.tr F2)⟩)⟩)⟩
theorem S_wk {l : Int32} {c : Nat} {im : Bool} (F : Fix M) (hT : TrP M Θ) (hc : c < Θ.1) (H : ∀ M', TrP M' (wkT Θ c l im).1 → TrF M M' → Q (some (.int (Int32.ofNat (wkT Θ c l im).2))) M') : E (h + 5) mdX8_weak [.ref 4, .int (Int32.ofNat c), .int l, .int (b32 im)] M Q := by
  have e := ts_ex (v := 0) hT.one.1
  have k1 := ts_pr (k := 5) (c := c) (d := (exT Θ 0).2) (e.one hT.one.1)
  refine KX8_weak ?_
  unfold DX8_weak_0
  refine ⟨ok4 F, S_ex (h := h + 2) (v := 0) F hT (fun M1 T1 F1 _ => ⟨_, rfl, S_pr (h := h + 1) (F1.fix F) T1 (Nat.lt_of_lt_of_le hc e.1) e.2 (fun M2 T2 F2 _ => ⟨_, rfl, S_wa (Θ := (wk1 Θ c).1) ((F1.tr F2).fix F) T2 (fun M3 T3 F3 _ => ⟨_, rfl, ?_⟩)⟩)⟩)⟩
  have w := ts_wa (l := l) (im := im) (k1.one (e.one hT.one.1))
  exact S_pr (h := h + 1) (Θ := (wk2 Θ c l im).1) (((F1.tr F2).tr F3).fix F) T3 (Nat.lt_of_lt_of_le k1.2 w.1) w.2 (fun M4 T4 F4 _ => ⟨_, rfl, S_wr (h := h + 1) ((((F1.tr F2).tr F3).tr F4).fix F) T4 (ts_pr T3.one.1).2 (fun M5 T5 F5 _ => ⟨_, rfl, H M5 T5 ((((F1.tr F2).tr F3).tr F4).tr F5)⟩)⟩)
theorem S_ab {l : Int32} {c : Nat} (F : Fix M) (hT : TrP M Θ) (hc : c < Θ.1) (H : ∀ M', TrP M' (abT Θ c l).1 → TrF M M' → Q (some (.int (Int32.ofNat (abT Θ c l).2))) M') : E (h + 6) mdX8_abort [.ref 4, .int (Int32.ofNat c), .int l] M Q := by
  refine KX8_abort ?_
  unfold DX8_abort_0
  exact ⟨ok4 F, S_su (h := h + 1) F hT hc (fun M1 T1 F1 _ => ⟨_, rfl, S_wk (im := false) (F1.fix F) T1 (ts_su hT.one.1).2 (fun M2 T2 F2 _ => ⟨_, rfl, H M2 T2 (F1.tr F2)⟩)⟩)⟩
theorem S_ceo {a : Nat} (F : Fix M) (hT : TrP M Θ) (ha : a < Θ.1) (H : Q (some (.int (if Θ.2.2 13 a &&& 1 = 0 then 0 else 1))) M) : E (h + 1) mdX8_canEndAtOnce [.ref 4, .int (Int32.ofNat a)] M Q := by
  have l1 := hT.one
  refine KX8_canEndAtOnce ?_
  unfold DX8_canEndAtOnce_0 DX8_canEndAtOnce_16
  rw [lt32 (by omega)]
  refine ⟨ok4 F, 13, rf4_8 F, ok13 F, by rw [ln13 F]; exact vp_of (by omega) (by decide), fun q => ⟨Or.inl rfl, ?_⟩, fun q => ⟨Or.inr rfl, ?_⟩⟩
  · rw [hT.2.2.2.1 13 (by decide) (by decide)] at q
    rw [if_pos q] at H; exact H
  · rw [hT.2.2.2.1 13 (by decide) (by decide)] at q
    rw [if_neg q] at H; exact H
end
