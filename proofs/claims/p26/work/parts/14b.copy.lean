/-! System.arraycopy over rows of ints -/
def wCp (M : Mem) (b a sp dp n : Nat) : Mem := (mN M, mS M, mK M, mI M, mJ M, mR M, mL M, va_up (mAI M) a (va_cpy (mAI M b) (mAI M a) sp dp n), mAJ M, mAR M)
def cpw (d : MD) (idx : Nat) : Prop := Cond.methodLink d.1.cls idx arraycopyName ∈ TB ∧ Cond.native arraycopyName ∈ TB ∧ Cond.static arraycopyName ∈ TB ∧ Cond.initialized "java/lang/System" ∈ TB
theorem cE_wCp {M : Mem} {cy : Nat → ClassId} {ad : Nat → Nat} {b a sp dp n c : Nat} (hc : c ≠ a) : cE cy ad (wCp M b a sp dp n) c = cE cy ad M c := by
  unfold cE
  rw [show mAI (wCp M b a sp dp n) c = mAI M c from va_up_ne _ _ hc]
  rfl
theorem xt_cpyI {h : Nat} {d : MD} {pc : Nat} {lv : List (Nat × Value)} {st : List Value} {M : Mem} {Q : Option Value → Mem → Prop} {a b idx : Nat} {sp dp n : Int32} (hd : decode d.2.1 pc = .ok (.invokestatic idx, 3)) (hm : cpw d idx) (hob : ok M b 21) (hoa : ok M a 21) (h1 : ¬ sp < 0) (h2 : ¬ dp < 0) (h3 : ¬ n < 0) (h4 : sp.toNatClampNeg + n.toNatClampNeg ≤ mL M b) (h5 : dp.toNatClampNeg + n.toNatClampNeg ≤ mL M a) (hh : 1 ≤ h) (hc : (st.map fun v => v.category).sum ≤ 8) (kk : T h d (pc + 3) lv st (wCp M b a sp.toNatClampNeg dp.toNatClampNeg n.toNatClampNeg) Q) : T h d pc lv (.int n :: .int dp :: .ref a :: .int sp :: .ref b :: st) M Q := by
  obtain ⟨r, M', hv, hq⟩ := kk
  refine ⟨r, M', ⟨hv.1, fun hbg p l e s m args below meth c D cy A M0 ba sp0 H locs ls X q1 hP hD hS hl => ?_⟩, hq⟩
  have e2 : (mW cy (adf ba sp0) M).set a (adf ba sp0 a, .inl (cy 21, mL M a, .inl (va_cpy (mAI M b) (mAI M a) sp.toNatClampNeg dp.toNatClampNeg n.toNatClampNeg))) = mW cy (adf ba sp0) (wCp M b a sp.toNatClampNeg dp.toNatClampNeg n.toNatClampNeg) := by
    rw [← mW_set (M := M) (M2 := wCp M b a sp.toNatClampNeg dp.toNatClampNeg n.toNatClampNeg) rfl (fun c _ hc2 => cE_wCp hc2), cE_arrI (M := wCp M b a sp.toNatClampNeg dp.toNatClampNeg n.toNatClampNeg) (kd := 21) hoa.2 (by decide) (by decide), show mAI (wCp M b a sp.toNatClampNeg dp.toNatClampNeg n.toNatClampNeg) a = va_cpy (mAI M b) (mAI M a) sp.toNatClampNeg dp.toNatClampNeg n.toNatClampNeg from va_up_self _ _ _]
    rfl
  have hts := X.2.2.2.2.2.2.2.1
  refine va_copyi X.1 X.2.1 (by rw [X.2.2.1, hl.1]) X.2.2.2.1 (hts _ hm.1) (hts _ hm.2.1) (hts _ hm.2.2.1) (hts _ hm.2.2.2) X.2.2.2.2.2.2.2.2.1 hP hD hS b a 1 1 ((mW_at hob.1).trans (by rw [cE_arrI hob.2 (by decide) (by decide)])) ((mW_at hoa.1).trans (by rw [cE_arrI hoa.2 (by decide) (by decide)])) rfl rfl rfl h1 h2 h3 h4 h5 (fun _ _ => rfl) hh (by rw [cat_sum]; show _ + (7 + 11) ≤ 120 * h; omega) hd (fun H1 locs1 hP1 hD1 hS1 => ?_)
  rw [e2] at hP1 hD1
  exact hv.2 hbg p l e s m args below meth c D cy A M0 ba sp0 H1 locs1 ls X q1 hP1 hD1 hS1 hl
theorem cpX2_170 {d : MD} (hc : d.1.cls = RX2) : cpw d 170 := ⟨by rw [hc]; exact tbL tbk_6 212 (by decide +kernel) rfl, tbL tbk_2 140 (by decide +kernel) rfl, tbL tbk_2 139 (by decide +kernel) rfl, tbL tbk_1 18 (by decide +kernel) rfl⟩
theorem cpX5_123 {d : MD} (hc : d.1.cls = RX5) : cpw d 123 := ⟨by rw [hc]; exact tbL tbk_7 156 (by decide +kernel) rfl, tbL tbk_2 140 (by decide +kernel) rfl, tbL tbk_2 139 (by decide +kernel) rfl, tbL tbk_1 18 (by decide +kernel) rfl⟩
theorem cpJ7_150 {d : MD} (hc : d.1.cls = RJ7) : cpw d 150 := ⟨by rw [hc]; exact tbL tbk_2 138 (by decide +kernel) rfl, tbL tbk_2 140 (by decide +kernel) rfl, tbL tbk_2 139 (by decide +kernel) rfl, tbL tbk_1 18 (by decide +kernel) rfl⟩
