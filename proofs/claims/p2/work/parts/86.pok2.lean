/-! leaves, heads and tails of parts keep to it -/
section
variable {F : Prop} {b : Nat → Int32} {n s i m : Nat} {τ : Td}
/-- with a node that is one of the tree -/
def HdN (m j : Nat) (σ : PS) (r : PS × Nat) : Prop := Hd m j σ r.1 ∧ (1 ≤ (trS σ).1 → r.2 < (trS r.1).1)
theorem HdN.of {j : Nat} {σ σ1 : PS} {r : TrT × Nat} (h : Hd m j σ σ1) (k : 1 ≤ (trS σ1).1 → Ts (trS σ1) r) : HdN m j σ (trP1 σ1 r.1, r.2) := ⟨h.tr (Hd.tree k), fun q => (k (Nat.le_trans q (h.2.2.2 q))).2⟩
theorem lfM_ok {k : Int32} {w : Int64} {j : Nat} {K : List KE} {σ : PS} (hS : Sto b n s) (hi : i ≤ s) (h0 : tK b n i ≠ 0) : FtOk F b n s i (fun _ r => HdN m j σ r) (lfM b n m τ k w j i K σ) := by
  unfold lfM
  by_cases k1 : k = 38
  · rw [if_pos k1]; exact ⟨Nat.le_refl _, hi, h0, HdN.of Hd.rf ts_pa⟩
  rw [if_neg k1]
  by_cases k2 : k = 39
  · rw [if_pos k2]; exact ⟨Nat.le_refl _, hi, h0, HdN.of Hd.rf ts_ha⟩
  rw [if_neg k2]
  by_cases k3 : k = 40
  · rw [if_pos k3]
    exact (emM_ok (F := F) hS hi h0).bd (fun z => z) (fun i2 r t1 t2 t3 t4 => ⟨Nat.le_refl _, t2, t3, HdN.of t4.1 ts_em⟩)
  rw [if_neg k3]
  by_cases k4 : k = 41
  · rw [if_pos k4]
    exact (emM_ok (F := F) hS hi h0).bd (fun z => z) (fun i2 r t1 t2 t3 t4 => ⟨Nat.le_refl _, t2, t3, HdN.of t4.1 ts_st⟩)
  rw [if_neg k4]
  by_cases k5 : k = 47
  · rw [if_pos k5]
    exact (atM_ok (F := F) hS hi h0).bd (fun z => z) (fun i2 r t1 t2 t3 t4 => ⟨Nat.le_refl _, t2, t3, HdN.of t4.1 ts_aw⟩)
  rw [if_neg k5]
  by_cases k6 : k = 57
  · rw [if_pos k6]
    by_cases q : tK b n i = 2
    · rw [if_pos q]
      have hs := hS.lt hi h0 (by rw [q]; decide)
      cases trW K (tC b n i) with
      | none => exact FtOk.err (by decide)
      | some x =>
        refine FtOk.adv hs (fun q1 => ⟨Nat.le_refl _, hs, q1, ?_⟩)
        exact HdN.of (r := exT (trS σ) x.1) (Hd.ra (by decide) (by decide)) (fun z => ts_ex z)
    · rw [if_neg q]; exact FtOk.err (by decide)
  rw [if_neg k6]
  by_cases k7 : k = 2
  · rw [if_pos k7]
    refine FtOk_ex hS hi (by decide) (by decide) (fun _ h3 q4 => ?_)
    exact (suM_ok (F := F) hS h3 q4 (by decide) (by decide)).bd (fun z => z) (fun i2 r t1 t2 t3 t4 => ⟨Nat.le_refl _, t2, t3, HdN.of (((Hd.pa.tr Hd.pa).tr Hd.gu).tr t4.1) ts_mk⟩)
  rw [if_neg k7]
  exact ⟨Nat.le_refl _, hi, h0, HdN.of Hd.rf ts_mk⟩
theorem hdM_ok {k : Int32} {j : Nat} {K : List KE} {σ : PS} (hS : Sto b n s) (hi : i ≤ s) (h0 : tK b n i ≠ 0) : FtOk F b n s i (fun _ r => Hd m j σ r.1 ∧ (1 ≤ (trS σ).1 → r.2.2.2.1 < (trS r.1).1)) (hdM b n m τ k j i K σ) := by
  have one : ∀ {σ' : PS}, Hd m j σ σ' → 1 ≤ (trS σ).1 → 0 < (trS σ').1 := fun h q => Nat.lt_of_lt_of_le q (h.2.2.2 q)
  unfold hdM
  by_cases k1 : k = 44
  · rw [if_pos k1]
    refine (coM_ok (F := F) hS hi h0).bd (fun z => z) (fun i2 r t1 t2 t3 t4 => ?_)
    exact FtOk_ex hS t2 (by decide) (by decide) (fun _ h3 q4 => ⟨Nat.le_refl _, h3, q4, t4.1, one t4.1⟩)
  rw [if_neg k1]
  by_cases k2 : k = 49
  · rw [if_pos k2]; exact ⟨Nat.le_refl _, hi, h0, Hd.rf, fun q => q⟩
  rw [if_neg k2]
  by_cases k3 : k = 50
  · rw [if_pos k3]
    exact FtOk_ex hS hi (by decide) (by decide) (fun _ h3 q4 => ⟨Nat.le_refl _, h3, q4, Hd.rf, fun q => q⟩)
  rw [if_neg k3]
  by_cases k4 : k = 53
  · rw [if_pos k4]
    refine (atM_ok (F := F) hS hi h0).bd (fun z => z) (fun i2 r t1 t2 t3 t4 => ?_)
    refine FtOk_ex hS t2 (by decide) (by decide) (fun _ h3 q4 => ⟨Nat.le_refl _, h3, q4, ?_⟩)
    have z := HdN.of (r := awT (trS r.1) (Int32.ofNat r.2.1) r.2.2) t4.1 ts_aw
    exact ⟨z.1, z.2⟩
  rw [if_neg k4]
  by_cases k5 : k = 55
  · rw [if_pos k5]
    by_cases q : tK b n i = 2
    · rw [if_pos q]
      have hs := hS.lt hi h0 (by rw [q]; decide)
      by_cases q2 : toT (tC b n i) τ = true ∨ (trW K (tC b n i)).isSome = true
      · rw [if_pos q2]; exact FtOk.err (by decide)
      rw [if_neg q2]
      refine FtOk.adv hs (fun q3 => ?_)
      refine FtOk_ex hS hs (by decide) (by decide) (fun _ h3 q4 => ⟨Nat.le_refl _, h3, q4, ?_, fun z => z⟩)
      exact ⟨rfl, fun _ _ _ => rfl, fun x hx => va_up_ne _ _ hx, fun _ => Nat.le_refl _⟩
    · rw [if_neg q]; exact FtOk.err (by decide)
  rw [if_neg k5]
  by_cases k6 : k = 58
  · rw [if_pos k6]
    refine (suM_ok (F := F) hS hi h0 (by decide) (by decide)).bd (fun z => z) (fun i2 r t1 t2 t3 t4 => ?_)
    by_cases q : 7 ≤ tK b n i2 ∧ tK b n i2 ≤ 12
    · rw [if_pos q]
      have hs := hS.lt t2 t3 (fun z => by rw [z] at q; exact absurd q.1 (by decide))
      refine FtOk.adv hs (fun q3 => ?_)
      refine (suM_ok (F := F) hS hs q3 (by decide) (by decide)).bd (fun z => z) (fun i4 r2 u1 u2 u3 u4 => ?_)
      have hh : Hd m j σ r2 := ((((Hd.pa.tr Hd.pa).tr t4.1).tr (Hd.ra (by decide) (by decide))).tr Hd.pa).tr u4.1
      refine FtOk_ex hS u2 (by decide) (by decide) (fun _ h3 q4 => ⟨Nat.le_refl _, h3, q4, ⟨hh.1, hh.2.1, hh.2.2.1, hh.2.2.2⟩, one hh⟩)
    · rw [if_neg q]; exact FtOk.err (by decide)
  rw [if_neg k6]
  by_cases k7 : k = 17
  · rw [if_pos k7]
    have z := HdN.of (m := m) (j := j) (σ := σ) (r := mkT (trS σ) 8) Hd.rf ts_mk
    exact ⟨Nat.le_refl _, hi, h0, z.1, z.2⟩
  rw [if_neg k7]
  exact ⟨Nat.le_refl _, hi, h0, Hd.rf, fun q => q⟩
theorem ts_e1 {Θ : TrT} {x : Nat} (h1 : 1 ≤ Θ.1) : Ts Θ (ev1 Θ x) := (ts_ha h1).tr (ts_pr ((ts_ha h1).one h1))
theorem ts_e2 {Θ : TrT} {x : Nat} {l : Int32} (h1 : 1 ≤ Θ.1) : Ts Θ (ev2 Θ x l) := (ts_e1 h1).tr (ts_ab ((ts_e1 h1).one h1))
theorem ts_e3 {Θ : TrT} {x : Nat} {l : Int32} (h1 : 1 ≤ Θ.1) : Ts Θ (ev3 Θ x l) := (ts_e2 h1).tr (ts_wr ((ts_e2 h1).one h1))
theorem ts_ev {Θ : TrT} {x aw : Nat} {l : Int32} (h1 : 1 ≤ Θ.1) : Ts Θ (evT Θ x aw l) := (ts_e3 h1).tr (ts_pr ((ts_e3 h1).one h1))
theorem tlM_ok {k : Int32} {j aw lit x o : Nat} {σ : PS} (hS : Sto b n s) (hi : i ≤ s) : FtOk F b n s i (fun _ r => HdN m j σ r) (tlM b n m τ k j aw lit x i o σ) := by
  unfold tlM
  by_cases k1 : k = 42
  · rw [if_pos k1]
    refine FtOk_ex hS hi (by decide) (by decide) (fun _ h3 q4 => ⟨Nat.le_refl _, h3, q4, ?_⟩)
    by_cases q : (trS σ).2.2 13 x &&& 1 = 0
    · rw [if_pos q]; exact HdN.of Hd.rf ts_wr
    · rw [if_neg q]; exact HdN.of (r := wrT (trS σ) 6 x) Hd.pa (fun z => ts_wr z)
  rw [if_neg k1]
  by_cases k2 : k = 49
  · rw [if_pos k2]
    refine FtOk_ex hS hi (by decide) (by decide) (fun _ h3 q4 => ?_)
    refine (atM_ok (F := F) hS h3 q4).bd (fun z => z) (fun i2 r t1 t2 t3 t4 => ?_)
    refine FtOk_ex hS t2 (by decide) (by decide) (fun _ h5 q6 => ?_)
    by_cases q : r.2.2 = true
    · rw [if_pos q]
      exact ⟨Nat.le_refl _, h5, q6, HdN.of t4.1 (fun z => ((ts_ab z).tr (ts_mk ((ts_ab z).one z))).tr (ts_ch ((ts_mk ((ts_ab z).one z)).one ((ts_ab z).one z))))⟩
    · rw [if_neg q]; exact ⟨Nat.le_refl _, h5, q6, HdN.of t4.1 ts_ab⟩
  rw [if_neg k2]
  by_cases k3 : k = 50
  · rw [if_pos k3]
    refine FtOk_ex hS hi (by decide) (by decide) (fun _ h3 q4 => ?_)
    refine (atM_ok (F := F) hS h3 q4).bd (fun z => z) (fun i2 r t1 t2 t3 t4 => ?_)
    exact FtOk_ex hS t2 (by decide) (by decide) (fun _ h5 q6 => ⟨Nat.le_refl _, h5, q6, HdN.of t4.1 ts_wk⟩)
  rw [if_neg k3]
  by_cases k4 : k = 52
  · rw [if_pos k4]
    refine FtOk_ex hS hi (by decide) (by decide) (fun _ h3 q4 => ?_)
    refine (coM_ok (F := F) hS h3 q4).bd (fun z => z) (fun i2 r t1 t2 t3 t4 => ?_)
    exact FtOk_ex hS t2 (by decide) (by decide) (fun _ h5 q6 => ⟨Nat.le_refl _, h5, q6, HdN.of t4.1 ts_su⟩)
  rw [if_neg k4]
  by_cases k5 : k = 53
  · rw [if_pos k5]
    exact FtOk_ex hS hi (by decide) (by decide) (fun _ h3 q4 => ⟨Nat.le_refl _, h3, q4, HdN.of Hd.rf ts_ev⟩)
  rw [if_neg k5]
  exact FtOk_ex hS hi (by decide) (by decide) (fun _ h3 q4 => ⟨Nat.le_refl _, h3, q4, HdN.of Hd.rf ts_wr⟩)
theorem chM_ok {lit x y j : Nat} {σ : PS} (hS : Sto b n s) (hi : i ≤ s) : FtOk F b n s i (fun _ r => HdN m j σ r) (chM b n lit x y i σ) := by
  unfold chM
  exact FtOk_ex hS hi (by decide) (by decide) (fun _ h3 q4 => ⟨Nat.le_refl _, h3, q4, HdN.of Hd.rf ts_ch⟩)
end
