section
/-! a new module -/
theorem Sh.al {n0 a k q : Nat} {Mb M M0 M1 M3 M4 : Mem} (h : Sh n0 Mb M M0) (hb : mN M0 < mBig) (hq : q = mN M) (e1 : M1 = nwO M 1 3) (e3 : M3 = wR (wI M1 q 0 0) q 1 (some (mBig + 5))) (e4 : M4 = wR M3 (n0 + a) k (some q)) : Sh n0 Mb M4 (alX M0 a k) := by
  subst e4 e3 e1 hq
  rw [h.1]
  exact (((h.o (by decide)).i).r shf_sp).r (shf_lt hb)
def cp0 : Mem := nwO mem0 3 18
def cp1 : Mem := nfs cp0 0 [(0, 23, 16), (1, 21, 16), (2, 21, 16), (3, 21, 4), (4, 23, 6), (5, 21, 6)]
def cp2 : Mem := alX cp1 0 6
def cp3 : Mem := nwO cp2 2 17
def cp4 : Mem := nfs cp3 8 [(0, 21, 64), (1, 21, 64), (2, 21, 0), (3, 21, 0)]
def cp5 : Mem := wI cp4 8 4 1
def cp6a : Mem := alX cp5 8 5
def cp6b : Mem := alX cp6a 8 6
def cp6 : Mem := alX cp6b 8 7
def cp7 : Mem := nfs cp6 8 [(8, 21, 16), (9, 21, 24), (10, 21, 24), (11, 21, 24), (13, 21, 16), (14, 21, 16)]
def cp8 : Mem := wI (wAI (wAI cp7 9 1 2) 10 1 2) 8 4 2
def cp9 : Mem := wR (wI cp8 8 15 2) 0 7 (some 8)
def cpA : Mem := nwO cp9 8 5
def cpB : Mem := nfs cpA 22 [(0, 21, 16), (2, 23, 64)]
def cpC : Mem := wR cpB 0 8 (some 22)
theorem S_addNetN {h x n Lc Rc : Nat} {a b : Int32} {M : Mem} {Q : Option Value → Mem → Prop} (hx : ok M x 2) (hL : mR M x 0 = some Lc) (oL : ok M Lc 21) (hR : mR M x 1 = some Rc) (oR : ok M Rc 21) (hn : mI M x 4 = Int32.ofNat n) (h1 : n < mL M Lc) (h2 : n < mL M Rc) (l1 : mL M Lc < 2147483648) (l2 : mL M Rc < 2147483648) (H : Q (some (.int (Int32.ofNat n))) (wI (wAI (wAI M Lc n a) Rc n b) x 4 (Int32.ofNat (n + 1)))) : E (h + 1) mdX0_addNet [.ref x, .int a, .int b] M Q := by
  refine KX0_addNet ?_
  unfold DX0_addNet_0 DX0_addNet_46
  refine ⟨hx, Lc, hL, oL, fun _ => ?_, fun hc => ?_⟩
  · refine ⟨hx, Lc, hL, oL, by rw [hn]; exact vp_of h1 l1, fun M4 e4 => ?_⟩
    rw [hn, lt32 (by omega)] at e4
    subst e4
    refine ⟨Rc, hR, oR, ?_, fun M7 e7 M8 e8 => ?_⟩
    · show vp_in (mI M x 4) (mL M Rc)
      rw [hn]; exact vp_of h2 l2
    · have e7 : M7 = wAI (wAI M Lc n a) Rc (mI M x 4).toNatClampNeg b := e7
      rw [hn, lt32 (by omega)] at e7
      subst e7
      have e8 : M8 = wI (wAI (wAI M Lc n a) Rc n b) x 4 (mI M x 4 + 1) := e8
      rw [hn, succ32] at e8
      subst e8
      rw [mI_own]
      have : Int32.ofNat (n + 1) - 1 = Int32.ofNat n := by ((try simp only [Int32.toNatClampNeg, Int32.lt_iff_toInt_lt, Int32.le_iff_toInt_le, ← Int32.toInt_inj, j_add, j_sub, j_neg, j_mul, j_nat, Int32.reduceToInt, vp_in]); omega)
      rw [this]
      exact H
  · rw [hn] at hc
    have := inj32 (by omega) l1 hc
    omega
theorem S_sums0 {h n0 : Nat} {Mb M : Mem} (hS : Sh n0 Mb M cpA) : E (h + 1) mdX6_init [.ref (n0 + 22)] M (fun r M' => r = none ∧ Sh n0 Mb M' cpB) := by
  refine KX6_init ?_
  unfold DX6_init_0
  simp only [e16, e64]
  refine ⟨by decide, by decide, fun q2 M1 hq2 hM1 => ⟨by rw [hM1]; exact ok_nwA (hS.k (by decide) rfl), fun M4 hM4 => ?_⟩⟩
  have m1 := hS.n (by decide) (by decide) hq2 hM1 hM4
  refine ⟨by decide, by decide, fun q6 M5 hq6 hM5 M7 hM7 => ?_⟩
  have m2 := m1.n (by decide) (by decide) hq6 hM5 hM7
  exact ⟨trivial, m2⟩
theorem e0z : (0 : Int32).toNatClampNeg = 0 := by decide
set_option maxRecDepth 4000 in
theorem S_circ0 {h n0 : Nat} {Mb M : Mem} (hS : Sh n0 Mb M cp3) : E (h + 4) mdX0_init [.ref (n0 + 8)] M (fun r M' => r = none ∧ Sh n0 Mb M' (wI cp8 8 15 2)) := by
  refine KX0_init ?_
  unfold DX0_init_0
  simp only [e16, e64, e24, e0z]
  refine ⟨by decide, by decide, fun q2 M1 hq2 hM1 => ⟨by rw [hM1]; exact ok_nwA (hS.k (by decide) rfl), fun M4 hM4 => ?_⟩⟩
  have m := hS.n (by decide) (by decide) hq2 hM1 hM4
  clear hS hM4 hM1 hq2
  refine ⟨by decide, by decide, fun q6 M5 hq6 hM5 M7 hM7 => ?_⟩
  have m := m.n (by decide) (by decide) hq6 hM5 hM7
  clear hM5 hM7 hq6
  refine ⟨by decide, by decide, fun q6 M5 hq6 hM5 M7 hM7 => ?_⟩
  have m := m.n (by decide) (by decide) hq6 hM5 hM7
  clear hM5 hM7 hq6
  refine ⟨by decide, by decide, fun q6 M5 hq6 hM5 M7 hM7 => ?_⟩
  have m : Sh n0 Mb M7 cp4 := m.n (by decide) (by decide) hq6 hM5 hM7
  clear hM5 hM7 hq6
  intro M14 hM14
  have m : Sh n0 Mb M14 cp5 := by rw [hM14]; exact m.i
  clear hM14
  intro q16 M15 hq16 hM15
  refine (C_alInit (M := M15) (a := q16) (by rw [hq16, hM15]; exact ok_newO)).imp (fun r M17 hE hp hE2 => ⟨hp.1, fun M18 hM18 => ?_⟩)
  have m : Sh n0 Mb M18 cp6a := m.al (by decide) hq16 hM15 hp.2 hM18
  clear hM18 hM15 hq16 hp hE hE2
  intro q16 M15 hq16 hM15
  refine (C_alInit (M := M15) (a := q16) (by rw [hq16, hM15]; exact ok_newO)).imp (fun r M17 hE hp hE2 => ⟨hp.1, fun M18 hM18 => ?_⟩)
  have m : Sh n0 Mb M18 cp6b := m.al (by decide) hq16 hM15 hp.2 hM18
  clear hM18 hM15 hq16 hp hE hE2
  intro q16 M15 hq16 hM15
  refine (C_alInit (M := M15) (a := q16) (by rw [hq16, hM15]; exact ok_newO)).imp (fun r M17 hE hp hE2 => ⟨hp.1, fun M18 hM18 => ?_⟩)
  have m : Sh n0 Mb M18 cp6 := m.al (by decide) hq16 hM15 hp.2 hM18
  clear hM18 hM15 hq16 hp hE hE2
  refine ⟨by decide, by decide, fun q6 M5 hq6 hM5 M7 hM7 => ?_⟩
  have m := m.n (by decide) (by decide) hq6 hM5 hM7
  clear hM5 hM7 hq6
  refine ⟨by decide, by decide, fun q6 M5 hq6 hM5 M7 hM7 => ?_⟩
  have m := m.n (by decide) (by decide) hq6 hM5 hM7
  clear hM5 hM7 hq6
  refine ⟨by decide, by decide, fun q6 M5 hq6 hM5 M7 hM7 => ?_⟩
  have m := m.n (by decide) (by decide) hq6 hM5 hM7
  clear hM5 hM7 hq6
  refine ⟨by decide, by decide, fun q6 M5 hq6 hM5 M7 hM7 => ?_⟩
  have m := m.n (by decide) (by decide) hq6 hM5 hM7
  clear hM5 hM7 hq6
  refine ⟨by decide, by decide, fun q6 M5 hq6 hM5 M7 hM7 => ?_⟩
  have m := m.n (by decide) (by decide) hq6 hM5 hM7
  clear hM5 hM7 hq6
  refine ⟨by decide, by decide, fun q6 M5 hq6 hM5 M7 hM7 => ?_⟩
  have m : Sh n0 Mb M7 cp7 := m.n (by decide) (by decide) hq6 hM5 hM7
  clear hM5 hM7 hq6
  refine KX0_fresh ?_
  unfold DX0_fresh_0
  have i4 : mI M7 (n0 + 8) 4 = Int32.ofNat 1 := m.rI (by decide) (by decide) rfl
  have a9 : mL M7 (n0 + 9) = 64 := m.rL (by decide) (by decide) rfl
  have a10 : mL M7 (n0 + 10) = 64 := m.rL (by decide) (by decide) rfl
  refine ⟨m.k (by decide) rfl, ?_⟩
  rw [i4]
  refine S_addNetN (n := 1) (Lc := n0 + 9) (Rc := n0 + 10) (m.k (by decide) rfl) (m.rR (by decide) (by decide) rfl (by decide)) (m.k (by decide) rfl) (m.rR (by decide) (by decide) rfl (by decide)) (m.k (by decide) rfl) i4 (by rw [a9]; decide) (by rw [a10]; decide) (by rw [a9]; decide) (by rw [a10]; decide) (fun _ => ⟨_, rfl, fun _ => ⟨_, rfl, fun M47 e47 => ⟨trivial, ?_⟩⟩⟩)
  subst e47
  exact ((m.ai.ai).i).i
theorem S_comp {h n0 : Nat} {Mb M : Mem} (hS : Sh n0 Mb M cp0) : E (h + 5) mdX1_init [.ref (n0 + 0)] M (fun r M' => r = none ∧ Sh n0 Mb M' cpC) := by
  refine KX1_init ?_
  unfold DX1_init_0
  simp only [e16, e4, e6]
  refine ⟨by decide, by decide, fun q2 M1 hq2 hM1 => ⟨by rw [hM1]; exact ok_nwA (hS.k (by decide) rfl), fun M4 hM4 => ?_⟩⟩
  have m := hS.n (by decide) (by decide) hq2 hM1 hM4
  clear hS hM4 hM1 hq2
  refine ⟨by decide, by decide, fun q6 M5 hq6 hM5 M7 hM7 => ?_⟩
  have m := m.n (by decide) (by decide) hq6 hM5 hM7
  clear hM5 hM7 hq6
  refine ⟨by decide, by decide, fun q6 M5 hq6 hM5 M7 hM7 => ?_⟩
  have m := m.n (by decide) (by decide) hq6 hM5 hM7
  clear hM5 hM7 hq6
  refine ⟨by decide, by decide, fun q6 M5 hq6 hM5 M7 hM7 => ?_⟩
  have m := m.n (by decide) (by decide) hq6 hM5 hM7
  clear hM5 hM7 hq6
  refine ⟨by decide, by decide, fun q6 M5 hq6 hM5 M7 hM7 => ?_⟩
  have m := m.n (by decide) (by decide) hq6 hM5 hM7
  clear hM5 hM7 hq6
  refine ⟨by decide, by decide, fun q6 M5 hq6 hM5 M7 hM7 => ?_⟩
  have m : Sh n0 Mb M7 cp1 := m.n (by decide) (by decide) hq6 hM5 hM7
  clear hM5 hM7 hq6
  intro q16 M15 hq16 hM15
  refine (C_alInit (M := M15) (a := q16) (by rw [hq16, hM15]; exact ok_newO)).imp (fun r M17 hE hp hE2 => ⟨hp.1, fun M18 hM18 => ?_⟩)
  have m : Sh n0 Mb M18 cp2 := m.al (by decide) hq16 hM15 hp.2 hM18
  clear hM18 hM15 hq16 hp hE hE2
  intro q25 M24 hq25 hM24
  have hq25 : q25 = n0 + 8 := hq25.trans m.1
  have m : Sh n0 Mb M24 cp3 := by rw [hM24]; exact m.o (by decide)
  subst hq25
  refine (S_circ0 m).imp (fun r M26 hE hp hE2 => ⟨hp.1, fun M27 hM27 => ?_⟩)
  have m : Sh n0 Mb M27 cp9 := by rw [hM27]; exact hp.2.r (shf_lt (by decide))
  intro q29 M28 hq29 hM28
  have hq29 : q29 = n0 + 22 := hq29.trans m.1
  have m : Sh n0 Mb M28 cpA := by rw [hM28]; exact m.o (by decide)
  subst hq29
  refine (S_sums0 m).imp (fun r M30 hE hp hE2 => ⟨hp.1, fun M31 hM31 => ⟨trivial, ?_⟩⟩)
  rw [hM31]
  exact hp.2.r (shf_lt (by decide))
end
section
/-! lists: modCount under its two names; clear of an empty one -/
theorem wJx_63 : Cond.fieldLink RJx4a65c 63 "java/util/ArrayList" "modCount" "I" ∈ TB := tbL tbk_1 54 (by decide +kernel) rfl
theorem wJx_same : Cond.sameField "java/util/ArrayList" "java/util/AbstractList" "modCount" "I" ∈ TB := tbL tbk_1 55 (by decide +kernel) rfl
section
variable {h : Nat} {d : MD} {pc : Nat} {lv : List (Nat × Value)} {st : List Value} {M : Mem} {Q : Option Value → Mem → Prop}
theorem xt_mcG {a : Nat} (hd : decode d.2.1 pc = .ok (.getfield 63, 3)) (hc : d.1.cls = RJx4a65c) (ha : ok M a 1) (kk : T h d (pc + 3) lv (.int (mI M a 0) :: st) M Q) : T h d pc lv (.ref a :: st) M Q :=
  kk.rd (fun p l e R s m args below meth c D cy ad H locs cells slots Q ls hx hb hw hts hK hP w => va_get (D := D) (own := d.1.cls) (ref := "java/util/ArrayList") (C := (cls 1).1) (T := (cls 1).2.1) (N := (cls 1).2.2) hx hb hts clk_1.2.2.2 hw hK hP a ((mW_at ha.1).trans (by rw [cE_obj ha.2 (by decide)])) clk_1.1 0 (by decide) (hts _ (by rw [hc]; exact wJx_63)) (fun x q => u_same (hts _ wJx_same) x q) ((rg_at (by decide)).trans (by rw [fV, if_pos ft_1_0]; rfl)) hd w)
theorem xt_mcP {a : Nat} {v : Int32} (hd : decode d.2.1 pc = .ok (.putfield 63, 3)) (hc : d.1.cls = RJx4a65c) (ha : ok M a 1) (kk : T h d (pc + 3) lv st (wI M a 0 v) Q) : T h d pc lv (.int v :: .ref a :: st) M Q :=
  kk.wr rfl rfl (fun b _ => ⟨rfl, rfl⟩) (fun p l e R s m args below meth c D cy ad A H locs cells slots Q ls hx hb hw hin hts hK hP hD hS w => by
    have e1 : (mW cy ad M)[a]? = some (ad a, .inr (1, (List.range (cls 1).2.2).map (fV ad M 1 a))) := (mW_at ha.1).trans (by rw [cE_obj ha.2 (by decide)])
    have e2 : (mW cy ad M).set a (ad a, .inr (1, ((List.range (cls 1).2.2).map (fV ad M 1 a)).set 0 (cv ad (.int v)))) = mW cy ad (wI M a 0 v) := by
      rw [rg_set (g2 := fV ad (wI M a 0 v) 1 a) (by rw [fV, if_pos ft_1_0]; show Value.int (up2 (mI M) a 0 v a 0) = _; rw [up2_eq]; rfl) (fun j hj => by unfold fV; show (if _ then Value.int (up2 (mI M) a 0 v a j) else _) = _; rw [up2_ne (fun q => hj q.2)]; rfl), ← mW_set (M := M) (M2 := wI M a 0 v) rfl (fun b _ hb2 => by unfold cE; show (if mK M b < 20 then _ else _) = _; have e : fV ad (wI M a 0 v) (mK M b) b = fV ad M (mK M b) b := by { funext j; unfold fV; show (if _ then Value.int (up2 (mI M) a 0 v b j) else _) = _; rw [up2_row hb2]; rfl }; rw [show mK (wI M a 0 v) b = mK M b from rfl, e]; rfl), cE_obj (M := wI M a 0 v) ha.2 (by decide)]
    have hl : 0 < ((List.range (cls 1).2.2).map (fV ad M 1 a)).length := by simp; decide
    refine va_put (D := D) (own := d.1.cls) (ref := "java/util/ArrayList") (C := (cls 1).1) (T := (cls 1).2.1) (N := (cls 1).2.2) hx hb hts clk_1.2.2.2 (tyC 1) clk_1.2.1 clk_1.2.2.1 hw hK hP hD hS a e1 clk_1.1 0 (by decide) (hts _ (by rw [hc]; exact wJx_63)) (fun x q => u_same (hts _ wJx_same) x q) rfl (clk_1.2.1 0 (by decide)) rfl rfl hl hd (fun H1 locs1 hP1 hD1 hS1 => ?_)
    rw [e2] at hP1 hD1
    exact w H1 locs1 hP1 hD1 hS1)
end
theorem S_clear0 {h a b : Nat} {M : Mem} {Q : Option Value → Mem → Prop} (ha : ok M a 1) (hr : mR M a 1 = some b) (hs : mI M a 2 = 0) (H : Q none (wI (wI M a 0 (mI M a 0 + 1)) a 2 0)) : E (h + 1) mdJx4a65c_clear_da8c8 [.ref a] M Q := by
  refine E.of (by decide) (Nat.le_of_ble_eq_true rfl) (fun _ _ _ => trivial) ?_
  show T _ _ 0 [(0, .ref a)] [] M _
  refine xt_aload_n (j := 0) dJx4a65c_clear_da8c8_0 rfl rfl ?_
  refine xt_dup dJx4a65c_clear_da8c8_1 rfl ?_
  refine xt_mcG dJx4a65c_clear_da8c8_2 rfl ha ?_
  refine xt_iconst (v := 1) dJx4a65c_clear_da8c8_5 (by decide) ?_
  refine xt_iadd dJx4a65c_clear_da8c8_6 ?_
  refine xt_mcP dJx4a65c_clear_da8c8_7 rfl ha ?_
  refine xt_aload_n (j := 0) dJx4a65c_clear_da8c8_10 rfl rfl ?_
  refine xt_getR (b := b) dJx4a65c_clear_da8c8_11 (flJx4a65c_9 rfl) ft_1_1 ha.1 ha.2 hr ?_
  refine xt_astore_n (i := 1) (lv' := [(1, .ref b), (0, .ref a)]) dJx4a65c_clear_da8c8_14 rfl (by show (_ : Nat) < 4; decide) rfl ?_
  refine xt_aload_n (j := 1) dJx4a65c_clear_da8c8_15 rfl rfl ?_
  refine xt_getI dJx4a65c_clear_da8c8_16 (flJx4a65c_48 rfl) ft_1_2 ha.1 ha.2 ?_
  refine xt_istore_n (i := 2) (lv' := [(2, .int (mI (wI M a 0 (mI M a 0 + 1)) a 2)), (1, .ref b), (0, .ref a)]) dJx4a65c_clear_da8c8_19 rfl (by show (_ : Nat) < 4; decide) rfl ?_
  refine xt_aload_n (j := 2) dJx4a65c_clear_da8c8_20 rfl rfl ?_
  refine xt_iconst (v := 0) dJx4a65c_clear_da8c8_21 (by decide) ?_
  refine xt_dup_x1 dJx4a65c_clear_da8c8_22 rfl rfl ?_
  refine xt_putI dJx4a65c_clear_da8c8_23 (flJx4a65c_48 rfl) rfl rfl ha.1 ha.2 ?_
  refine xt_istore_n (i := 3) (lv' := [(3, .int 0), (2, .int (mI (wI M a 0 (mI M a 0 + 1)) a 2)), (1, .ref b), (0, .ref a)]) dJx4a65c_clear_da8c8_26 rfl (by show (_ : Nat) < 4; decide) rfl ?_
  refine xt_iload_n (j := 0) dJx4a65c_clear_da8c8_27 rfl rfl ?_
  refine xt_iload_n (j := 1) dJx4a65c_clear_da8c8_28 rfl rfl ?_
  refine xt_icmp_ge (tgt := 42) dJx4a65c_clear_da8c8_29 (by decide) (fun hc => ?_) (fun hc => ?_)
  · exact xt_return dJx4a65c_clear_da8c8_42 rfl H
  · exact absurd (by rw [show mI (wI M a 0 (mI M a 0 + 1)) a 2 = mI M a 2 from up2_ne (by simp), hs]; decide) hc
end
section
/-! the reference's small methods -/
theorem lgz {x y : Int64} : (lg_cmp x y = 0) ↔ x = y := by
  unfold lg_cmp
  constructor
  · intro h
    by_cases h1 : x > y
    · rw [if_pos h1] at h; exact absurd h (by decide)
    · rw [if_neg h1] at h
      by_cases h2 : x = y
      · exact h2
      · rw [if_neg h2] at h; exact absurd h (by decide)
  · intro h
    subst h
    rw [if_neg (by intro z; exact absurd (Int64.lt_iff_toInt_lt.mp z) (Int.lt_irrefl _)), if_pos rfl]
def TR (M : Mem) (n : Nat) (b : Nat → Int32) : Prop := n ≤ 800 ∧ mI M 29 1 = Int32.ofNat n ∧ (∀ i, i < n → mAI M 30 i = b i) ∧ (∀ i, n ≤ i → b i = 0)
theorem R_byteAt {h n i : Nat} {b : Nat → Int32} {M : Mem} {Q : Option Value → Mem → Prop} (F : Fix M) (hT : TR M n b) (hi : i ≤ 2000) (H : Q (some (.int (b i))) M) : E (h + 1) mdX11_byteAt [.ref 29, .int (Int32.ofNat i)] M Q := by
  obtain ⟨t1, t2, t3, t4⟩ := hT
  refine KX11_byteAt ?_
  unfold DX11_byteAt_0 DX11_byteAt_18
  refine ⟨ok29 F, fun h1 => ?_, fun h1 => ⟨30, rf29_0 F, ok30 F, ?_, ?_⟩⟩
  · rw [t2, le32 (by omega) (by omega)] at h1
    rw [← t4 i h1]; exact H
  · rw [t2, le32 (by omega) (by omega)] at h1
    rw [ln30 F]; exact vp_of (by omega) (by omega)
  · rw [t2, le32 (by omega) (by omega)] at h1
    rw [lt32 (by omega), t3 i (by omega)]; exact H
theorem R_isL {h : Nat} {c : Int32} {M : Mem} {Q : Option Value → Mem → Prop} (H : Q (some (.int (if isL c = true then 1 else 0))) M) : E (h + 1) mdX11_isLetter [.int c] M Q := by
  rw [← isL_ite] at H
  refine KX11_isLetter ?_
  unfold DX11_isLetter_0 DX11_isLetter_16 DX11_isLetter_17
  refine ⟨fun h1 => ⟨Or.inl rfl, ?_⟩, fun h1 => ⟨fun h2 => ⟨Or.inl rfl, ?_⟩, fun h2 => ⟨Or.inr rfl, ?_⟩⟩⟩
  · rwa [if_pos h1] at H
  · rwa [if_neg h1, if_pos h2] at H
  · rwa [if_neg h1, if_neg h2] at H
theorem R_isF {h : Nat} {c : Int32} {M : Mem} {Q : Option Value → Mem → Prop} (H : Q (some (.int (if isF c = true then 1 else 0))) M) : E (h + 1) mdX11_isFigure [.int c] M Q := by
  rw [← isF_ite] at H
  refine KX11_isFigure ?_
  unfold DX11_isFigure_0 DX11_isFigure_16 DX11_isFigure_17
  refine ⟨fun h1 => ⟨Or.inl rfl, ?_⟩, fun h1 => ⟨fun h2 => ⟨Or.inl rfl, ?_⟩, fun h2 => ⟨Or.inr rfl, ?_⟩⟩⟩
  · rwa [if_pos h1] at H
  · rwa [if_neg h1, if_pos h2] at H
  · rwa [if_neg h1, if_neg h2] at H
def flF (M : Mem) (c a : Int32) : Mem := if mI M 29 6 = 0 then wI (wI M 29 6 c) 29 7 a else M
theorem R_fails {h : Nat} {c a : Int32} {M : Mem} {Q : Option Value → Mem → Prop} (F : Fix M) (H : Q none (flF M c a)) : E (h + 1) mdX11_fails [.ref 29, .int c, .int a] M Q := by
  refine KX11_fails ?_
  unfold DX11_fails_0 DX11_fails_17
  unfold flF at H
  refine ⟨ok29 F, fun h1 => ?_, fun h1 M2 e2 M3 e3 => ?_⟩
  · rwa [if_neg h1] at H
  · rw [if_pos h1] at H; subst e2 e3; exact H
theorem Fix.fl {M : Mem} {c a : Int32} (F : Fix M) : Fix (flF M c a) := by
  unfold flF; split
  · exact F.i.i
  · exact F
def takF (M : Mem) : Mem := if mAI M 31 (mI M 29 5 + 1).toNatClampNeg = 4 then flF (wI M 29 5 (mI M 29 5 + 1)) 1 (mAI M 32 (mI M 29 5 + 1).toNatClampNeg) else wI M 29 5 (mI M 29 5 + 1)
theorem R_take {h : Nat} {M : Mem} {Q : Option Value → Mem → Prop} (F : Fix M) (hv : vp_in (mI M 29 5 + 1) 802) (H : Q none (takF M)) : E (h + 2) mdX11_take [.ref 29] M Q := by
  refine KX11_take ?_
  unfold DX11_take_0 DX11_take_37
  unfold takF at H
  refine ⟨ok29 F, fun M2 e2 => ?_⟩
  have e5 : mI M2 29 5 = mI M 29 5 + 1 := by rw [e2]; exact mI_own _ _ _ _
  have F2 : Fix M2 := by rw [e2]; exact F.i
  rw [e5]
  refine ⟨31, rf29_2 F2, ok31 F2, (ln31 F2).symm ▸ hv, fun h1 => ?_, fun h1 => ⟨32, rf29_3 F2, ok32 F2, (ln32 F2).symm ▸ hv, R_fails F2 (fun _ => ⟨rfl, ?_⟩)⟩⟩
  · subst e2
    have h1 : ¬ mAI M 31 (mI M 29 5 + 1).toNatClampNeg = 4 := h1
    rwa [if_neg h1] at H
  · subst e2
    have h1 : mAI M 31 (mI M 29 5 + 1).toNatClampNeg = 4 := h1
    rw [if_pos h1] at H
    exact H
theorem R_isSaid {h j : Nat} {s : Int32} {v : Int64} {M : Mem} {Q : Option Value → Mem → Prop} (F : Fix M) (hj : mI M 29 5 = Int32.ofNat j) (h8 : j < 802) (H : Q (some (.int (if mAI M 31 j = s ∧ mAJ M 33 j = v then 1 else 0))) M) : E (h + 1) mdX11_isSaid [.ref 29, .int s, .long v] M Q := by
  refine KX11_isSaid ?_
  unfold DX11_isSaid_0 DX11_isSaid_31 DX11_isSaid_32
  rw [hj, lt32 (by omega)]
  refine ⟨ok29 F, 31, rf29_2 F, ok31 F, by rw [ln31 F]; exact vp_of h8 (by decide), fun h1 => ⟨Or.inl rfl, ?_⟩, fun h1 => ⟨33, rf29_4 F, ok33 F, by rw [ln33 F]; exact vp_of h8 (by decide), fun h2 => ⟨Or.inl rfl, ?_⟩, fun h2 => ⟨Or.inr rfl, ?_⟩⟩⟩
  · rwa [if_neg (fun z => h1 z.1)] at H
  · rwa [if_neg (fun z => h2 (lgz.mpr z.2))] at H
  · rwa [if_pos ⟨h1, lgz.mp h2⟩] at H
end
section
/-! Tree: begin, make; the reader's tables of kinds -/
theorem Fix.fail {M : Mem} {c : Int32} (F : Fix M) : Fix (failF M c) := by
  unfold failF; split
  · exact F.i.i.i
  · exact F.i
theorem Fix.adv {M : Mem} (F : Fix M) : Fix (advF M) := by
  unfold advF
  split
  · split
    · dsimp only
      split
      · exact F.i.i.j.i.i.i
      · exact F.i.i.j.i
    · exact F
  · exact F
theorem adv_ok {M : Mem} {j : Nat} (h12 : mI M 15 12 = 0) (h7 : mI M 15 7 = Int32.ofNat j) (hj : j < 801) (hk : mAI M 16 j ≠ 0) : advF M = wI (wJ (wI (wI M 15 9 (mAI M 16 j)) 15 10 (mAI M 17 j)) 15 11 (mAJ M 18 j)) 15 7 (Int32.ofNat (j + 1)) := by
  unfold advF
  have h8 : Int32.ofNat j < 801 := (ltn32 (b := 801) (by omega) (by decide)).mpr hj
  rw [if_pos h12, h7, lt32 (by omega), succ32, if_pos h8]
  dsimp only
  rw [if_neg hk]
theorem adv_bad {M : Mem} {j : Nat} (h12 : mI M 15 12 = 0) (h7 : mI M 15 7 = Int32.ofNat j) (hj : j < 801) (hk : mAI M 16 j = 0) : advF M = wI (wI (wI (wJ (wI (wI M 15 9 0) 15 10 (mAI M 17 j)) 15 11 (mAJ M 18 j)) 15 7 (Int32.ofNat (j + 1))) 15 12 1) 15 13 (mAI M 17 j) := by
  unfold advF
  have h8 : Int32.ofNat j < 801 := (ltn32 (b := 801) (by omega) (by decide)).mpr hj
  rw [if_pos h12, h7, lt32 (by omega), succ32, if_pos h8]
  dsimp only
  rw [if_pos hk, hk]
theorem adv_off {M : Mem} (h12 : mI M 15 12 ≠ 0) : advF M = M := by unfold advF; rw [if_neg h12]
theorem S_failV {h : Nat} {c : Int32} {M : Mem} {Q : Option Value → Mem → Prop} (F : Fix M) (H : ∀ M', M' = failF M c → Fix M' → Q none M') : E (h + 1) mdX7_fail [.ref 15, .int c] M Q := S_fail F (H _ rfl F.fail)
theorem S_advV {h : Nat} {M : Mem} {Q : Option Value → Mem → Prop} (F : Fix M) (h0 : ¬ mI M 15 7 < 0) (H : ∀ M', M' = advF M → Fix M' → Q none M') : E (h + 1) mdX7_advance [.ref 15] M Q := S_adv F h0 (H _ rfl F.adv)
theorem S_treeBegin {h : Nat} {M : Mem} {Q : Option Value → Mem → Prop} (F : Fix M) (H : Q none (wI (wI M 4 9 1) 4 10 0)) : E (h + 1) mdX8_begin [.ref 4] M Q := by
  refine KX8_begin ?_
  unfold DX8_begin_0
  refine ⟨ok4 F, fun M2 e2 M3 e3 => ?_⟩
  subst e2 e3
  exact H
def mkF (M : Mem) (n : Nat) (k : Int32) : Mem := wAI (wAI (wAI (wAI (wAI (wAI (wAI (wAI (wAI (wI M 4 9 (Int32.ofNat (n + 1))) 5 n k) 6 n 0) 7 n 0) 8 n 0) 9 n 0) 10 n 0) 11 n 0) 12 n 0) 13 n (if k = 0 ∨ k = 5 then 1 else 0)
theorem Fix.mk {M : Mem} {n : Nat} {k : Int32} (F : Fix M) : Fix (mkF M n k) := F.i.ai.ai.ai.ai.ai.ai.ai.ai.ai
theorem S_make {h n : Nat} {k : Int32} {M : Mem} {Q : Option Value → Mem → Prop} (F : Fix M) (hn : mI M 4 9 = Int32.ofNat n) (h6 : n < 640) (H : Q (some (.int (Int32.ofNat n))) (mkF M n k)) : E (h + 1) mdX8_make [.ref 4, .int k] M Q := by
  refine KX8_make ?_
  unfold DX8_make_0 DX8_make_97 DX8_make_102
  rw [hn, lt32 (by omega), succ32]
  have hv : ∀ {M : Mem} {c : Nat}, mL M c = 640 → vp_in (Int32.ofNat n) (mL M c) := fun e => by rw [e]; exact vp_of h6 (by decide)
  refine ⟨ok4 F, fun _ M2 e2 => ?_, fun hc => absurd ((ltn32 (b := 640) (by omega) (by decide)).mpr h6) hc⟩
  have F0 : Fix M2 := by rw [e2]; exact F.i
  refine ⟨5, rf4_0 F0, ok5 F0, hv (ln5 F0), fun A0 f0 => ?_⟩
  have G0 : Fix A0 := by rw [f0]; exact F0.ai
  refine ⟨6, rf4_1 G0, ok6 G0, hv (ln6 G0), fun A1 f1 => ?_⟩
  have G1 : Fix A1 := by rw [f1]; exact G0.ai
  refine ⟨7, rf4_2 G1, ok7 G1, hv (ln7 G1), fun A2 f2 => ?_⟩
  have G2 : Fix A2 := by rw [f2]; exact G1.ai
  refine ⟨8, rf4_3 G2, ok8 G2, hv (ln8 G2), fun A3 f3 => ?_⟩
  have G3 : Fix A3 := by rw [f3]; exact G2.ai
  refine ⟨9, rf4_4 G3, ok9 G3, hv (ln9 G3), fun A4 f4 => ?_⟩
  have G4 : Fix A4 := by rw [f4]; exact G3.ai
  refine ⟨10, rf4_5 G4, ok10 G4, hv (ln10 G4), fun A5 f5 => ?_⟩
  have G5 : Fix A5 := by rw [f5]; exact G4.ai
  refine ⟨11, rf4_6 G5, ok11 G5, hv (ln11 G5), fun A6 f6 => ?_⟩
  have G6 : Fix A6 := by rw [f6]; exact G5.ai
  refine ⟨12, rf4_7 G6, ok12 G6, hv (ln12 G6), fun A7 f7 => ?_⟩
  have G7 : Fix A7 := by rw [f7]; exact G6.ai
  unfold mkF at H
  refine ⟨13, rf4_8 G7, fun h0 => ⟨ok13 G7, hv (ln13 G7), fun B e => ?_⟩, fun h0 => ⟨fun h5 => ⟨ok13 G7, hv (ln13 G7), fun B e => ?_⟩, fun h5 => ⟨ok13 G7, hv (ln13 G7), fun B e => ?_⟩⟩⟩
  · rw [if_pos (Or.inl h0)] at H
    rw [e, f7, f6, f5, f4, f3, f2, f1, f0, e2]
    exact H
  · rw [if_neg (by intro z; rcases z with z | z; exact h0 z; exact h5 z)] at H
    rw [e, f7, f6, f5, f4, f3, f2, f1, f0, e2]
    exact H
  · rw [if_pos (Or.inr h5)] at H
    rw [e, f7, f6, f5, f4, f3, f2, f1, f0, e2]
    exact H
theorem S_makeV {h n : Nat} {k : Int32} {M : Mem} {Q : Option Value → Mem → Prop} (F : Fix M) (hn : mI M 4 9 = Int32.ofNat n) (h6 : n < 640) (H : ∀ M', M' = mkF M n k → Fix M' → Q (some (.int (Int32.ofNat n))) M') : E (h + 1) mdX8_make [.ref 4, .int k] M Q := S_make F hn h6 (H _ rfl F.mk)
theorem S_standsAlone {h : Nat} {k : Int32} {M : Mem} {Q : Option Value → Mem → Prop} (H : Q (some (.int (if (¬ k < 37 ∧ k ≤ 41) ∨ k = 47 ∨ k = 57 then 1 else 0))) M) : E (h + 1) mdX4_standsAlone [.int k] M Q := by
  refine KX4_standsAlone ?_
  unfold DX4_standsAlone_0 DX4_standsAlone_12 DX4_standsAlone_24 DX4_standsAlone_29
  refine ⟨fun h1 => ⟨fun h2 => ⟨Or.inr rfl, ?_⟩, fun h2 => ⟨fun h3 => ⟨Or.inl rfl, ?_⟩, fun h3 => ⟨Or.inr rfl, ?_⟩⟩⟩, fun h1 => ⟨fun h2 => ⟨Or.inr rfl, ?_⟩, fun h2 => ⟨fun h3 => ⟨Or.inr rfl, ?_⟩, fun h3 => ⟨fun h4 => ⟨Or.inl rfl, ?_⟩, fun h4 => ⟨Or.inr rfl, ?_⟩⟩⟩⟩⟩
  · rwa [if_pos (Or.inr (Or.inl h2))] at H
  · rwa [if_neg (by rintro (z | z | z); exact z.1 h1; exact h2 z; exact h3 z)] at H
  · rwa [if_pos (Or.inr (Or.inr h3))] at H
  · rwa [if_pos (Or.inl ⟨h1, h2⟩)] at H
  · rwa [if_pos (Or.inr (Or.inl h3))] at H
  · rwa [if_neg (by rintro (z | z | z); exact h2 z.2; exact h3 z; exact h4 z)] at H
  · rwa [if_pos (Or.inr (Or.inr h4))] at H
def opK (k : Int32) : Bool := k == 17 || k == 42 || k == 44 || k == 49 || k == 50 || k == 52 || k == 53 || k == 55 || k == 58
theorem S_staysOpen {h : Nat} {k : Int32} {M : Mem} {Q : Option Value → Mem → Prop} (H : Q (some (.int (if opK k = true then 1 else 0))) M) : E (h + 1) mdX4_staysOpen [.int k] M Q := by
  refine KX4_staysOpen ?_
  unfold DX4_staysOpen_0
  refine ⟨fun z => ?_, fun z => ?_, fun z => ?_, fun z => ?_, fun z => ?_, fun z => ?_, fun z => ?_, fun z => ?_, fun z => ?_, fun z => ?_⟩
  · subst z; exact ⟨Or.inr rfl, H⟩
  · subst z; exact ⟨Or.inr rfl, H⟩
  · subst z; exact ⟨Or.inr rfl, H⟩
  · subst z; exact ⟨Or.inr rfl, H⟩
  · subst z; exact ⟨Or.inr rfl, H⟩
  · subst z; exact ⟨Or.inr rfl, H⟩
  · subst z; exact ⟨Or.inr rfl, H⟩
  · subst z; exact ⟨Or.inr rfl, H⟩
  · subst z; exact ⟨Or.inr rfl, H⟩
  · obtain ⟨z1, z2, z3, z4, z5, z6, z7, z8, z9⟩ := z
    have e : opK k = false := by simp [opK, z1, z2, z3, z4, z5, z6, z7, z8, z9]
    rw [e] at H
    exact ⟨Or.inl rfl, H⟩
def pzK (k : Int32) : Nat := if k = 38 ∨ k = 39 ∨ k = 41 ∨ k = 47 ∨ k = 49 ∨ k = 50 then 1 else if k = 53 then 3 else 0
theorem S_pausesOf {h : Nat} {k : Int32} {M : Mem} {Q : Option Value → Mem → Prop} (H : Q (some (.int (Int32.ofNat (pzK k)))) M) : E (h + 1) mdX4_pausesOf [.int k] M Q := by
  refine KX4_pausesOf ?_
  unfold DX4_pausesOf_0
  refine ⟨fun z => ?_, fun z => ?_, fun z => ?_, fun z => ?_, fun z => ?_, fun z => ?_, fun z => ?_, fun z => ?_, fun z => ?_, fun z => ?_, fun z => ?_, fun z => ?_, fun z => ?_, fun z => ?_, fun z => ?_, fun z => ?_, fun z => ?_⟩
  iterate 16 (first | (subst z; exact H))
  have e : pzK k = 0 := by
    unfold pzK
    rw [if_neg (by rintro (q | q | q | q | q | q) <;> subst q <;> revert z <;> decide), if_neg (by intro q; subst q; revert z; decide)]
  rw [e] at H
  exact H
end
section
/-! the reference: rows of parts -/
def nsF (M : Mem) (q : Nat) : Mem := wAI (wAI (wAI (wI M 29 53 (Int32.ofNat (q + 1))) 73 q (-1)) 74 q (-1)) 75 q (-1)
theorem R_newSeq {h q : Nat} {M : Mem} {Q : Option Value → Mem → Prop} (F : Fix M) (hq : mI M 29 53 = Int32.ofNat q) (hl : q < 100) (H : ∀ M', M' = nsF M q → Fix M' → Q (some (.int (Int32.ofNat q))) M') : E (h + 1) mdX11_newSeq [.ref 29] M Q := by
  refine KX11_newSeq ?_
  unfold DX11_newSeq_0
  rw [hq, succ32, lt32 (by omega)]
  have hv : ∀ {M : Mem} {c : Nat}, mL M c = 100 → vp_in (Int32.ofNat q) (mL M c) := fun e => by rw [e]; exact vp_of hl (by decide)
  refine ⟨ok29 F, fun A a => ?_⟩
  have FA : Fix A := by rw [a]; exact F.i
  refine ⟨73, rf29_54 FA, ok73 FA, hv (ln73 FA), fun B b => ?_⟩
  have FB : Fix B := by rw [b]; exact FA.ai
  refine ⟨74, rf29_55 FB, ok74 FB, hv (ln74 FB), fun C c => ?_⟩
  have FC : Fix C := by rw [c]; exact FB.ai
  refine ⟨75, rf29_56 FC, ok75 FC, hv (ln75 FC), fun D d => ?_⟩
  exact H D (by rw [d, c, b, a]; rfl) (by rw [d]; exact FC.ai)
end
section
/-! String.indexOf over SIGNS -/
def sgB (i : Nat) : Int32 := (txB.getD 1 []).getD i 0
def idxF (c : Int32) : Nat → Nat → Int32
  | 0, _ => -1
  | k + 1, i => if sgB i = c then Int32.ofNat i else idxF c k (i + 1)
theorem C_canEnc {h : Nat} {c : Int32} {M : Mem} {Q : Option Value → Mem → Prop} (h0 : ¬ c < 0) (h1 : ¬ 255 < c) (H : Q (some (.int 1)) M) : E (h + 1) mdJ1_canEncode_9a6ad [.int c] M Q := by
  refine E.of (by decide) (Nat.le_of_ble_eq_true rfl) (fun _ _ _ => trivial) ?_
  show T _ _ 0 [(0, .int c)] [] M _
  refine xt_iload_n (j := 0) dJ1_canEncode_9a6ad_0 rfl rfl ?_
  refine xt_if_lt (tgt := 15) dJ1_canEncode_9a6ad_1 (by decide) (fun hc => absurd hc h0) (fun _ => ?_)
  refine xt_iload_n (j := 0) dJ1_canEncode_9a6ad_4 rfl rfl ?_
  refine xt_sipush (v := 255) dJ1_canEncode_9a6ad_5 (by decide) ?_
  refine xt_icmp_gt (tgt := 15) dJ1_canEncode_9a6ad_8 (by decide) (fun hc => absurd hc h1) (fun _ => ?_)
  refine xt_iconst (v := 1) dJ1_canEncode_9a6ad_11 (by decide) ?_
  refine xt_goto (tgt := 16) dJ1_canEncode_9a6ad_12 (by decide) ?_
  exact xt_zreturn dJ1_canEncode_9a6ad_16 rfl (Or.inr rfl) H
theorem idx_loop {h : Nat} {c x : Int32} {M : Mem} {Q : Option Value → Mem → Prop} : ∀ (k i : Nat), i + k = 12 → Q (some (.int (idxF c k i))) M → T (h + 1) mdJ1_indexOfChar_4cfef 7 [(0, .ref (mBig + 4)), (1, .int x), (2, .int 0), (3, .int 12), (4, .int c), (5, .int (Int32.ofNat i))] [] M Q := by
  intro k
  induction k with
  | zero =>
    intro i hi H
    have hi : i = 12 := hi
    subst hi
    refine xt_iload (j := 5) dJ1_indexOfChar_4cfef_7 rfl ?_
    refine xt_iload_n (j := 3) dJ1_indexOfChar_4cfef_9 rfl rfl ?_
    refine xt_icmp_ge (tgt := 31) dJ1_indexOfChar_4cfef_10 (by decide) (fun _ => ?_) (fun hc => absurd (by decide) hc)
    refine xt_iconst (v := -1) dJ1_indexOfChar_4cfef_31 (by decide) ?_
    exact xt_ireturn dJ1_indexOfChar_4cfef_32 rfl H
  | succ k ih =>
    intro i hi H
    refine xt_iload (j := 5) dJ1_indexOfChar_4cfef_7 rfl ?_
    refine xt_iload_n (j := 3) dJ1_indexOfChar_4cfef_9 rfl rfl ?_
    refine xt_icmp_ge (tgt := 31) dJ1_indexOfChar_4cfef_10 (by decide) (fun hc => absurd ((le32 (a := 12) (b := i) (by decide) (by omega)).mp hc) (by omega)) (fun _ => ?_)
    refine xt_aload_n (j := 0) dJ1_indexOfChar_4cfef_13 rfl rfl ?_
    refine xt_iload (j := 5) dJ1_indexOfChar_4cfef_14 rfl ?_
    refine xt_spB (i := 1) dJ1_indexOfChar_4cfef_16 (by decide) (vp_of (k := 12) (by omega) (by decide)) ?_
    rw [lt32 (by omega)]
    refine xt_iload (j := 4) dJ1_indexOfChar_4cfef_17 rfl ?_
    unfold idxF at H
    refine xt_icmp_ne (tgt := 25) dJ1_indexOfChar_4cfef_19 (by decide) (fun hc => ?_) (fun hc => ?_)
    · have hc : ¬ sgB i = c := hc
      rw [if_neg hc] at H
      refine xt_iinc (j := 5) (v := Int32.ofNat i + 1) (lv' := [(5, .int (Int32.ofNat i + 1)), (0, .ref (mBig + 4)), (1, .int x), (2, .int 0), (3, .int 12), (4, .int c)]) dJ1_indexOfChar_4cfef_25 rfl (by rfl) (by show (_ : Nat) < 6; decide) rfl ?_
      refine xt_goto (tgt := 7) dJ1_indexOfChar_4cfef_28 (by decide) ?_
      rw [succ32]
      exact xt_sub (lv' := [(0, .ref (mBig + 4)), (1, .int x), (2, .int 0), (3, .int 12), (4, .int c), (5, .int (Int32.ofNat (i + 1)))]) [1, 2, 3, 4, 5, 0] rfl (ih (i + 1) (by omega) H)
    · have hc : sgB i = c := hc
      rw [if_pos hc] at H
      refine xt_iload (j := 5) dJ1_indexOfChar_4cfef_22 rfl ?_
      exact xt_ireturn dJ1_indexOfChar_4cfef_24 rfl H
theorem C_idxChar {h : Nat} {x : Int32} {M : Mem} {Q : Option Value → Mem → Prop} (H : Q (some (.int (idxF x.toInt8.toInt32 12 0))) M) : E (h + 1) mdJ1_indexOfChar_4cfef [.ref (mBig + 4), .int x, .int 0, .int 12] M Q := by
  refine E.of (by decide) (Nat.le_of_ble_eq_true rfl) (fun _ _ _ => trivial) ?_
  show T _ _ 0 [(0, .ref (mBig + 4)), (1, .int x), (2, .int 0), (3, .int 12)] [] M _
  refine xt_iload_n (j := 1) dJ1_indexOfChar_4cfef_0 rfl rfl ?_
  refine xt_i2b dJ1_indexOfChar_4cfef_1 ?_
  refine xt_istore (i := 4) (lv' := [(4, .int x.toInt8.toInt32), (0, .ref (mBig + 4)), (1, .int x), (2, .int 0), (3, .int 12)]) dJ1_indexOfChar_4cfef_2 (by show (_ : Nat) < 6; decide) rfl ?_
  refine xt_iload_n (j := 3) dJ1_indexOfChar_4cfef_4 rfl rfl ?_
  refine xt_istore (i := 5) (lv' := [(5, .int 0), (4, .int x.toInt8.toInt32), (0, .ref (mBig + 4)), (1, .int x), (2, .int 0), (3, .int 12)]) dJ1_indexOfChar_4cfef_5 (by show (_ : Nat) < 6; decide) rfl ?_
  exact xt_sub (lv' := [(0, .ref (mBig + 4)), (1, .int x), (2, .int 0), (3, .int 12), (4, .int x.toInt8.toInt32), (5, .int 0)]) [2, 3, 4, 5, 1, 0] rfl (idx_loop 12 0 rfl H)
theorem C_idxL {h : Nat} {x : Int32} {M : Mem} {Q : Option Value → Mem → Prop} (h0 : ¬ x < 0) (h1 : ¬ 255 < x) (H : Q (some (.int (idxF x.toInt8.toInt32 12 0))) M) : E (h + 3) mdJ1_indexOf_4cfef [.ref (mBig + 4), .int x, .int 0, .int 12] M Q := by
  refine E.of (by decide) (Nat.le_of_ble_eq_true rfl) (fun _ _ _ => trivial) ?_
  show T _ _ 0 [(0, .ref (mBig + 4)), (1, .int x), (2, .int 0), (3, .int 12)] [] M _
  refine xt_iload_n (j := 1) dJ1_indexOf_4cfef_0 rfl rfl ?_
  refine xt_callS (h2 := h + 2) (as := [.int x]) (st := []) (P := fun r M' => r = some (.int 1) ∧ M' = M) dJ1_indexOf_4cfef_1 (mlJ1_88 rfl) rfl (by decide) (Nat.le_refl _) (C_canEnc h0 h1 ⟨rfl, rfl⟩) (fun r M1 hp hE => ?_)
  obtain ⟨rfl, hp⟩ := hp
  rw [hp]
  show T _ _ _ _ [.int 1] _ _
  refine xt_if_ne (tgt := 9) dJ1_indexOf_4cfef_4 (by decide) (fun _ => ?_) (fun hc => absurd hc (by decide))
  refine xt_iload_n (j := 2) dJ1_indexOf_4cfef_9 rfl rfl ?_
  refine xt_iconst (v := 0) dJ1_indexOf_4cfef_10 (by decide) ?_
  refine xt_mmax dJ1_indexOf_4cfef_11 (mmJ1_92 rfl) (by omega) (by decide) ?_
  rw [if_neg (by decide)]
  refine xt_istore_n (i := 2) (lv' := [(2, .int 0), (0, .ref (mBig + 4)), (1, .int x), (3, .int 12)]) dJ1_indexOf_4cfef_14 rfl (by show (_ : Nat) < 4; decide) rfl ?_
  refine xt_iload_n (j := 3) dJ1_indexOf_4cfef_15 rfl rfl ?_
  refine xt_aload_n (j := 1) dJ1_indexOf_4cfef_16 rfl rfl ?_
  refine xt_spBl (i := 1) dJ1_indexOf_4cfef_17 (by decide) ?_
  refine xt_mmin dJ1_indexOf_4cfef_18 (mmJ1_38 rfl) (by omega) (by decide) ?_
  rw [if_neg (by decide)]
  refine xt_istore_n (i := 3) (lv' := [(3, .int 12), (2, .int 0), (0, .ref (mBig + 4)), (1, .int x)]) dJ1_indexOf_4cfef_21 rfl (by show (_ : Nat) < 4; decide) rfl ?_
  refine xt_iload_n (j := 1) dJ1_indexOf_4cfef_22 rfl rfl ?_
  refine xt_iload_n (j := 0) dJ1_indexOf_4cfef_23 rfl rfl ?_
  refine xt_icmp_lt (tgt := 29) dJ1_indexOf_4cfef_24 (by decide) (fun _ => ?_) (fun hc => absurd (by decide) hc)
  refine xt_aload_n (j := 2) dJ1_indexOf_4cfef_29 rfl rfl ?_
  refine xt_iload_n (j := 3) dJ1_indexOf_4cfef_30 rfl rfl ?_
  refine xt_iload_n (j := 1) dJ1_indexOf_4cfef_31 rfl rfl ?_
  refine xt_iload_n (j := 0) dJ1_indexOf_4cfef_32 rfl rfl ?_
  refine xt_callS (h2 := h + 2) (as := [.ref (mBig + 4), .int x, .int 0, .int 12]) (st := []) (P := fun r M' => r = some (.int (idxF x.toInt8.toInt32 12 0)) ∧ M' = M) dJ1_indexOf_4cfef_33 (mlJ1_95 rfl) rfl (by decide) (Nat.le_refl _) (C_idxChar ⟨rfl, rfl⟩) (fun r M1 hp hE => ?_)
  obtain ⟨rfl, hp⟩ := hp
  rw [hp]
  exact xt_ireturn dJ1_indexOf_4cfef_36 rfl H
theorem C_idx2 {h : Nat} {x : Int32} {M : Mem} {Q : Option Value → Mem → Prop} (h0 : ¬ x < 0) (h1 : ¬ 255 < x) (H : Q (some (.int (idxF x.toInt8.toInt32 12 0))) M) : E (h + 4) mdJ0_indexOf_7cf53 [.ref (mBig + 2), .int x, .int 0] M Q := by
  refine E.of (by decide) (Nat.le_of_ble_eq_true rfl) (fun _ _ _ => trivial) ?_
  show T _ _ 0 [(0, .ref (mBig + 2)), (1, .int x), (2, .int 0)] [] M _
  refine xt_aload_n (j := 0) dJ0_indexOf_7cf53_0 rfl rfl ?_
  refine xt_callX (h2 := h + 3) (j := 2) (as := []) (st := []) (P := fun r M' => r = some (.int 1) ∧ M' = M) dJ0_indexOf_7cf53_1 (mlJ0_492 rfl) rfl (Or.inl ⟨by omega, rfl⟩) (by decide) (Nat.le_refl _) (C_isLatin1 (i := 1) (by decide)) (fun r M1 hp hE => ?_)
  obtain ⟨rfl, hp⟩ := hp
  rw [hp]
  show T _ _ _ _ [.int 1] _ _
  refine xt_if_eq (tgt := 23) dJ0_indexOf_7cf53_4 (by decide) (fun hc => absurd hc (by decide)) (fun _ => ?_)
  refine xt_aload_n (j := 0) dJ0_indexOf_7cf53_7 rfl rfl ?_
  refine xt_strV (i := 1) dJ0_indexOf_7cf53_8 wJ0_9 (by decide) ?_
  refine xt_iload_n (j := 1) dJ0_indexOf_7cf53_11 rfl rfl ?_
  refine xt_iload_n (j := 2) dJ0_indexOf_7cf53_12 rfl rfl ?_
  refine xt_aload_n (j := 0) dJ0_indexOf_7cf53_13 rfl rfl ?_
  refine xt_callX (h2 := h + 3) (j := 2) (as := []) (st := [.int 0, .int x, .ref (mBig + 4)]) (P := fun r M' => r = some (.int 12) ∧ M' = M) dJ0_indexOf_7cf53_14 (mlJ0_505 rfl) rfl (Or.inl ⟨by omega, rfl⟩) (by simp [Value.category]) (Nat.le_refl _) (C_length (i := 1) (by decide)) (fun r M1 hp hE => ?_)
  obtain ⟨rfl, hp⟩ := hp
  rw [hp]
  show T _ _ _ _ [.int 12, .int 0, .int x, .ref (mBig + 4)] _ _
  refine xt_callS (h2 := h + 3) (as := [.ref (mBig + 4), .int x, .int 0, .int 12]) (st := []) (P := fun r M' => r = some (.int (idxF x.toInt8.toInt32 12 0)) ∧ M' = M) dJ0_indexOf_7cf53_17 (mlJ0_637 rfl) rfl (by decide) (Nat.le_refl _) (C_idxL h0 h1 ⟨rfl, rfl⟩) (fun r M1 hp hE => ?_)
  obtain ⟨rfl, hp⟩ := hp
  rw [hp]
  show T _ _ _ _ [.int (idxF x.toInt8.toInt32 12 0)] _ _
  refine xt_goto (tgt := 36) dJ0_indexOf_7cf53_20 (by decide) ?_
  exact xt_ireturn dJ0_indexOf_7cf53_36 rfl H
theorem S_indexOf {h : Nat} {x : Int32} {M : Mem} {Q : Option Value → Mem → Prop} (h0 : ¬ x < 0) (h1 : ¬ 255 < x) (H : Q (some (.int (idxF x.toInt8.toInt32 12 0))) M) : E (h + 5) mdJ0_indexOf_0f7a4 [.ref (mBig + 2), .int x] M Q := by
  refine E.of (by decide) (Nat.le_of_ble_eq_true rfl) (fun _ _ _ => trivial) ?_
  show T _ _ 0 [(0, .ref (mBig + 2)), (1, .int x)] [] M _
  refine xt_aload_n (j := 0) dJ0_indexOf_0f7a4_0 rfl rfl ?_
  refine xt_iload_n (j := 1) dJ0_indexOf_0f7a4_1 rfl rfl ?_
  refine xt_iconst (v := 0) dJ0_indexOf_0f7a4_2 (by decide) ?_
  refine xt_callX (h2 := h + 4) (j := 2) (as := [.int x, .int 0]) (st := []) (P := fun r M' => r = some (.int (idxF x.toInt8.toInt32 12 0)) ∧ M' = M) dJ0_indexOf_0f7a4_3 (mlJ0_633 rfl) rfl (Or.inl ⟨by omega, rfl⟩) (by decide) (Nat.le_refl _) (C_idx2 h0 h1 ⟨rfl, rfl⟩) (fun r M1 hp hE => ?_)
  obtain ⟨rfl, hp⟩ := hp
  rw [hp]
  exact xt_ireturn dJ0_indexOf_0f7a4_6 rfl H
end
section
/-! cutting one token -/
theorem wAI_same {M : Mem} {a k : Nat} {v : Int32} (h : mAI M a k = v) : wAI M a k v = M := by
  subst h; unfold wAI; rw [up2_self]; rfl
theorem wAI_wAI (M : Mem) (a k : Nat) (v w : Int32) : wAI (wAI M a k v) a k w = wAI M a k w := by
  unfold wAI; simp only [mAI, up2_up2]; rfl
theorem mAI_own (M : Mem) (a k : Nat) (v : Int32) : mAI (wAI M a k v) a k = v := up2_eq
def keyK (c : Int64) : Nat → Nat → Int32
  | 0, _ => 2
  | k + 1, j => if keysF j = c then 30 + Int32.ofNat j else keyK c k (j + 1)
theorem key_stop {h i : Nat} {x : Int64} {y : Int32} {M : Mem} {Q : Option Value → Mem → Prop} (F : Fix M) (hi : i < 801) (hk : mAI M 16 i ≠ 2) (H : Q none M) : T (h + 1) mdX7_cutWord 87 [(0, .ref 15), (1, .int (Int32.ofNat i)), (2, .long x), (5, .int y)] [] M Q := by
  refine VX7_cutWord_87 ?_
  unfold DX7_cutWord_87 DX7_cutWord_133
  rw [lt32 (by omega)]
  refine ⟨fun _ => H, fun _ => ⟨ok15 F, 16, rf15_4 F, ok16 F, by rw [ln16 F]; exact vp_of hi (by decide), fun _ => H, fun hc => absurd hc hk⟩⟩
theorem key_loop {h i : Nat} {x : Int64} {M : Mem} {Q : Option Value → Mem → Prop} (F : Fix M) (hi : i < 801) (hk : mAI M 16 i = 2) : ∀ (k j : Nat), j + k = 33 → Q none (wAI M 16 i (keyK x k j)) → T (h + 1) mdX7_cutWord 87 [(0, .ref 15), (1, .int (Int32.ofNat i)), (2, .long x), (5, .int (Int32.ofNat j))] [] M Q := by
  intro k
  induction k with
  | zero =>
    intro j hj H
    have hj : j = 33 := hj
    subst hj
    refine VX7_cutWord_87 ?_
    unfold DX7_cutWord_87 DX7_cutWord_133
    unfold keyK at H
    rw [wAI_same hk] at H
    exact ⟨fun _ => H, fun hc => absurd (by decide) hc⟩
  | succ k ih =>
    intro j hj H
    refine VX7_cutWord_87 ?_
    unfold DX7_cutWord_87 DX7_cutWord_133 DX7_cutWord_127
    rw [lt32 (n := i) (by omega), lt32 (n := j) (by omega), succ32]
    unfold keyK at H
    refine ⟨fun hc => absurd ((le32 (a := 33) (by decide) (by omega)).mp hc) (by omega), fun _ => ⟨ok15 F, 16, rf15_4 F, ok16 F, by rw [ln16 F]; exact vp_of hi (by decide), fun hc => absurd hk hc, fun _ => ⟨19, rf15_1 F, ok19 F, by rw [ln19 F]; exact vp_of (by omega) (by decide), fun hc => ?_, fun hc => ?_⟩⟩⟩
    · rw [F.2.2.2.2, lgz] at hc
      rw [if_neg hc] at H
      exact ih (j + 1) (by omega) H
    · rw [F.2.2.2.2, lgz] at hc
      rw [if_pos hc] at H
      refine ⟨16, rf15_4 F, ok16 F, by rw [ln16 F]; exact vp_of hi (by decide), fun M8 e8 => ?_⟩
      rw [← e8] at H
      refine key_stop (by rw [e8]; exact F.ai) hi ?_ H
      rw [e8, mAI_own]
      intro z
      have z : Int32.ofNat 30 + Int32.ofNat j = Int32.ofNat 2 := z
      rw [add32] at z
      have := inj32 (by omega) (by decide) z
      omega
/-- the end of the run of signs that p tells, from a on, of n signs -/
abbrev rnE (p : Int32 → Bool) (b : Nat → Int32) (n a : Nat) : Nat := runF p b (n - a) a
def cwF (M : Mem) (i a n : Nat) (b : Nat → Int32) : Mem := wAI (wAJ (wI M 15 3 (Int32.ofNat (rnE isL b n a))) 18 i (spellF b (n - a) a 0)) 16 i (if rnE isL b n a - a ≤ 10 then keyK (spellF b (n - a) a 0) 33 0 else 0)
theorem S_cutWord {h n a i : Nat} {b : Nat → Int32} {M : Mem} {Q : Option Value → Mem → Prop} (F : Fix M) (hT : TX M n b) (ha : mI M 15 3 = Int32.ofNat a) (han : a ≤ n) (hi : i < 801) (H : Q none (cwF M i a n b)) : E (h + 2) mdX7_cutWord [.ref 15, .int (Int32.ofNat i)] M Q := by
  refine KX7_cutWord ?_
  unfold DX7_cutWord_0
  have hr := runF_le (p := isL) (b := b) (n - a) a
  have hn := hT.1
  refine word_loop (n - a) a 0 0 M (by omega) F hT ha ?_
  unfold DX7_cutWord_59 DX7_cutWord_83
  rw [lt32 (n := i) (by omega), Nat.zero_add]
  have F1 : Fix (wI M 15 3 (Int32.ofNat (runF isL b (n - a) a))) := F.i
  generalize e1 : wI M 15 3 (Int32.ofNat (runF isL b (n - a) a)) = M1 at F1
  refine ⟨ok15 F1, 18, rf15_6 F1, ok18 F1, by rw [ln18 F1]; exact vp_of hi (by decide), fun M4 e4 => ?_⟩
  have F4 : Fix M4 := by rw [e4]; exact F1.aj (by decide)
  unfold cwF at H
  refine ⟨16, rf15_4 F4, fun hc => ⟨ok16 F4, by rw [ln16 F4]; exact vp_of hi (by decide), fun M2 e2 => ?_⟩, fun hc => ⟨ok16 F4, by rw [ln16 F4]; exact vp_of hi (by decide), fun M2 e2 => ?_⟩⟩
  · have hc : runF isL b (n - a) a - a ≤ 10 := (le32 (b := 10) (by omega) (by decide)).mp hc
    have F2 : Fix M2 := by rw [e2]; exact F4.ai
    refine key_loop F2 hi (by rw [e2]; exact mAI_own _ _ _ _) 33 0 rfl ?_
    rw [if_pos hc] at H
    rw [e2, wAI_wAI, e4, ← e1]
    exact H
  · have hc : ¬ runF isL b (n - a) a - a ≤ 10 := fun z => hc ((le32 (b := 10) (by omega) (by decide)).mpr z)
    have F2 : Fix M2 := by rw [e2]; exact F4.ai
    refine key_stop F2 hi (by rw [e2, mAI_own]; decide) ?_
    rw [if_neg hc] at H
    rw [e2, e4, ← e1]
    exact H
def cnF (M : Mem) (i a n : Nat) (b : Nat → Int32) : Mem := wAI (wAJ (wI M 15 3 (Int32.ofNat (rnE isF b n a))) 18 i (numF b (n - a) a 0)) 16 i (if rnE isF b n a - a ≤ 6 then 3 else 0)
theorem S_cutNum {h n a i : Nat} {b : Nat → Int32} {M : Mem} {Q : Option Value → Mem → Prop} (F : Fix M) (hT : TX M n b) (ha : mI M 15 3 = Int32.ofNat a) (han : a ≤ n) (hi : i < 801) (H : Q none (cnF M i a n b)) : E (h + 2) mdX7_cutNumber [.ref 15, .int (Int32.ofNat i)] M Q := by
  refine KX7_cutNumber ?_
  unfold DX7_cutNumber_0
  have hr := runF_le (p := isF) (b := b) (n - a) a
  have hn := hT.1
  refine num_loop (n - a) a 0 0 M (by omega) F hT ha ?_
  unfold DX7_cutNumber_66 DX7_cutNumber_90
  rw [lt32 (n := i) (by omega), Nat.zero_add]
  have F1 : Fix (wI M 15 3 (Int32.ofNat (runF isF b (n - a) a))) := F.i
  generalize e1 : wI M 15 3 (Int32.ofNat (runF isF b (n - a) a)) = M1 at F1
  refine ⟨ok15 F1, 18, rf15_6 F1, ok18 F1, by rw [ln18 F1]; exact vp_of hi (by decide), fun M4 e4 => ?_⟩
  have F4 : Fix M4 := by rw [e4]; exact F1.aj (by decide)
  unfold cnF at H
  refine ⟨16, rf15_4 F4, fun hc => ⟨ok16 F4, by rw [ln16 F4]; exact vp_of hi (by decide), fun M2 e2 => ?_⟩, fun hc => ⟨ok16 F4, by rw [ln16 F4]; exact vp_of hi (by decide), fun M2 e2 => ?_⟩⟩
  · have hc : runF isF b (n - a) a - a ≤ 6 := (le32 (b := 6) (by omega) (by decide)).mp hc
    rw [if_pos hc] at H
    rw [e2, e4, ← e1]
    exact H
  · have hc : ¬ runF isF b (n - a) a - a ≤ 6 := fun z => hc ((le32 (b := 6) (by omega) (by decide)).mpr z)
    rw [if_neg hc] at H
    rw [e2, e4, ← e1]
    exact H
/-! signs: the kind by the sign and the one behind it, and whether the one behind it belongs to it -/
def sgK (c d : Int32) : Int32 := if ¬ idxF c.toInt8.toInt32 12 0 < 0 then 13 + idxF c.toInt8.toInt32 12 0 else if c = 33 then (if d = 61 then 8 else 0) else if c = 58 then (if d = 61 then 5 else 4) else if c = 60 then (if d = 61 then 10 else 9) else if c = 61 then 7 else if c = 62 then (if d = 61 then 12 else 11) else if c = 124 then (if d = 124 then 6 else 0) else 0
def sgX (c d : Int32) : Nat := if ¬ idxF c.toInt8.toInt32 12 0 < 0 then 0 else if (c = 33 ∨ c = 58 ∨ c = 60 ∨ c = 62) ∧ d = 61 ∨ c = 124 ∧ d = 124 then 1 else 0
theorem S_withNext {h n a : Nat} {b : Nat → Int32} {M : Mem} {x p q : Int32} {Q : Option Value → Mem → Prop} (F : Fix M) (hT : TX M n b) (ha : mI M 15 3 = Int32.ofNat a) (han : a ≤ 1000) (H1 : b a = x → Q (some (.int p)) (wI M 15 3 (Int32.ofNat (a + 1)))) (H0 : b a ≠ x → Q (some (.int q)) M) : E (h + 2) mdX7_withNext [.ref 15, .int x, .int p, .int q] M Q := by
  refine KX7_withNext ?_
  unfold DX7_withNext_0
  rw [ha]
  refine ⟨ok15 F, S_byteAt F hT (by omega) (fun _ => ⟨_, rfl, fun hc M4 e4 => ?_, fun hc => H0 hc⟩)⟩
  rw [ha, succ32] at e4
  rw [e4]
  exact H1 hc
theorem c16 {c : Int32} (h0 : ¬ c < 0) (h1 : ¬ 255 < c) : ((c : Int32).toUInt32 % 65536).toInt32 = c := by
  have hk : ∀ k : Fin 256, ((Int32.ofNat k).toUInt32 % 65536).toInt32 = Int32.ofNat k := by decide +kernel
  have e : c = Int32.ofNat c.toInt.toNat := by
    have q0 : ¬ c.toInt < 0 := fun z => h0 (Int32.lt_iff_toInt_lt.mpr z)
    have q1 : ¬ 255 < c.toInt := fun z => h1 (Int32.lt_iff_toInt_lt.mpr z)
    refine Int32.toInt_inj.mp ?_
    rw [ti32 (by omega)]
    omega
  have q1 : ¬ 255 < c.toInt := fun z => h1 (Int32.lt_iff_toInt_lt.mpr z)
  have := hk ⟨c.toInt.toNat, by omega⟩
  rw [e]
  exact this
theorem S_signKind {h n a : Nat} {b : Nat → Int32} {M : Mem} {Q : Option Value → Mem → Prop} (F : Fix M) (hT : TX M n b) (ha : mI M 15 3 = Int32.ofNat a) (han : a < n) (h0 : ¬ b a < 0) (h1 : ¬ 255 < b a) (H : Q (some (.int (sgK (b a) (b (a + 1))))) (wI M 15 3 (Int32.ofNat (a + 1 + sgX (b a) (b (a + 1)))))) : E (h + 6) mdX7_signKind [.ref 15, .int (b a)] M Q := by
  refine KX7_signKind ?_
  unfold DX7_signKind_0
  rw [ha, succ32, c16 h0 h1]
  have hn := hT.1
  refine ⟨ok15 F, fun M2 e2 => S_indexOf h0 h1 (fun _ => ⟨_, rfl, fun hc => ?_, fun hc => ?_⟩)⟩
  · have F2 : Fix M2 := by rw [e2]; exact F.i
    have T2 : TX M2 n b := by rw [e2]; exact hT.wI3
    have a2 : mI M2 15 3 = Int32.ofNat (a + 1) := by rw [e2]; exact mI_own _ _ _ _
    have g : ∀ (x p q : Int32), (b (a + 1) = x → Q (some (.int p)) (wI M 15 3 (Int32.ofNat (a + 1 + 1)))) → (b (a + 1) ≠ x → Q (some (.int q)) (wI M 15 3 (Int32.ofNat (a + 1)))) → E (h + 5) mdX7_withNext [.ref 15, .int x, .int p, .int q] M2 (fun r M5 => mE M2 M5 → ∃ r6 : Int32, r = some (.int r6) ∧ Q (some (.int r6)) M5) := by
      intro x p q g1 g0
      refine S_withNext F2 T2 a2 (by omega) (fun z => fun _ => ⟨_, rfl, ?_⟩) (fun z => fun _ => ⟨_, rfl, ?_⟩)
      · rw [e2, wI_wI]; exact g1 z
      · rw [e2]; exact g0 z
    unfold sgK sgX at H
    simp only [hc, not_true_eq_false, if_false] at H
    refine ⟨fun z => ?_, fun z => ?_, fun z => ?_, fun z => ?_, fun z => ?_, fun z => ?_, fun z => ?_⟩
    · rw [z] at H
      refine g 61 8 0 (fun y => ?_) (fun y => ?_)
      · simpa [y] using H
      · simpa [y] using H
    · rw [z] at H
      refine g 61 5 4 (fun y => ?_) (fun y => ?_)
      · simpa [y] using H
      · simpa [y] using H
    · rw [z] at H
      refine g 61 10 9 (fun y => ?_) (fun y => ?_)
      · simpa [y] using H
      · simpa [y] using H
    · rw [z] at H
      rw [e2]
      simpa using H
    · rw [z] at H
      refine g 61 12 11 (fun y => ?_) (fun y => ?_)
      · simpa [y] using H
      · simpa [y] using H
    · rw [z] at H
      refine g 124 6 0 (fun y => ?_) (fun y => ?_)
      · simpa [y] using H
      · simpa [y] using H
    · obtain ⟨z1, z2, z3, z4, z5, z6⟩ := z
      rw [e2]
      simpa [z1, z2, z3, z4, z5, z6] using H
  · unfold sgK sgX at H
    rw [if_pos hc, if_pos hc] at H
    rw [e2]
    exact H
end
section
/-! all tokens of a text -/
def ckK (b : Nat → Int32) (n p : Nat) : Int32 := if n ≤ p then 1 else if isL (b p) = true then (if rnE isL b n p - p ≤ 10 then keyK (spellF b (n - p) p 0) 33 0 else 0) else if isF (b p) = true then (if rnE isF b n p - p ≤ 6 then 3 else 0) else sgK (b p) (b (p + 1))
def ckE (b : Nat → Int32) (n p : Nat) : Nat := if n ≤ p then p else if isL (b p) = true then rnE isL b n p else if isF (b p) = true then rnE isF b n p else p + 1 + sgX (b p) (b (p + 1))
def ckC (b : Nat → Int32) (n p : Nat) : Int64 := if isL (b p) = true then spellF b (n - p) p 0 else numF b (n - p) p 0
def ctP (M : Mem) (i p : Nat) : Mem := wAI (wI M 15 3 (Int32.ofNat p)) 17 i (Int32.ofNat p)
def ctF (M : Mem) (i p n : Nat) (b : Nat → Int32) : Mem :=
  if n ≤ p then wAI (ctP M i p) 16 i 1 else if isL (b p) = true then cwF (ctP M i p) i p n b else if isF (b p) = true then cnF (ctP M i p) i p n b else wAI (wI (ctP M i p) 15 3 (Int32.ofNat (p + 1 + sgX (b p) (b (p + 1))))) 16 i (sgK (b p) (b (p + 1)))
theorem isB_or {c : Int32} : isB c = true ↔ c = 32 ∨ c = 10 := by unfold isB; simp
/-- bytes are 0 to 255 -/
def By (b : Nat → Int32) : Prop := ∀ i, ¬ b i < 0 ∧ ¬ 255 < b i
theorem cut_rest {h n p i : Nat} {b : Nat → Int32} {M : Mem} {Q : Option Value → Mem → Prop} (F : Fix M) (hT : TX M n b) (hB : By b) (hp : mI M 15 3 = Int32.ofNat p) (hpn : p ≤ n) (hi : i < 801) (H : Q (some (.int (ckK b n p))) (ctF M i p n b)) : DX7_cut_50 (h + 6) 15 (Int32.ofNat i) M Q := by
  unfold DX7_cut_50 DX7_cut_131
  have hn := hT.1
  rw [hp, lt32 (n := i) (by omega)]
  have vi : ∀ {M : Mem} {c : Nat}, mL M c = 801 → vp_in (Int32.ofNat i) (mL M c) := fun e => by rw [e]; exact vp_of hi (by decide)
  refine ⟨ok15 F, 17, rf15_5 F, ok17 F, vi (ln17 F), fun A a => ?_⟩
  have FA : Fix A := by rw [a]; exact F.ai
  have eA : A = ctP M i p := by rw [a]; unfold ctP; rw [wI_same hp]
  have TA : TX A n b := by rw [a]; exact ⟨hT.1, hT.2.1, fun j hj => by rw [mAI_wAI, if_neg (by omega)]; exact hT.2.2.1 j hj, hT.2.2.2⟩
  have pA : mI A 15 3 = Int32.ofNat p := by rw [a, mI_wAI]; exact hp
  have lA : mI A 15 2 = Int32.ofNat n := TA.2.1
  unfold ckK ctF at H
  rw [← eA] at H
  rw [pA]
  refine S_byteAt FA TA (by omega) (fun _ => ⟨_, rfl, fun hc => ?_, fun hc => ?_⟩)
  · rw [pA, lA, ltn32 (by omega) (by omega)] at hc
    have hnp : ¬ n ≤ p := by omega
    rw [if_neg hnp, if_neg hnp] at H
    refine S_isL2 (fun _ => ⟨_, rfl, fun h0 => ?_, fun h0 => ?_⟩)
    · have h0 : ¬ isL (b p) = true := by intro z; rw [if_pos z] at h0; exact absurd h0 (by decide)
      rw [if_neg h0, if_neg h0] at H
      refine S_isF2 (fun _ => ⟨_, rfl, fun h1 => ?_, fun h1 => ?_⟩)
      · have h1 : ¬ isF (b p) = true := by intro z; rw [if_pos z] at h1; exact absurd h1 (by decide)
        rw [if_neg h1, if_neg h1] at H
        refine ⟨16, rf15_4 FA, S_signKind FA TA pA hc (hB p).1 (hB p).2 (fun _ => ⟨_, rfl, ?_⟩)⟩
        have FB : Fix (wI A 15 3 (Int32.ofNat (p + 1 + sgX (b p) (b (p + 1))))) := FA.i
        generalize eB : wI A 15 3 (Int32.ofNat (p + 1 + sgX (b p) (b (p + 1)))) = B at FB
        rw [eB] at H
        refine ⟨ok16 FB, vi (ln16 FB), fun C c => ?_⟩
        have FC : Fix C := by rw [c]; exact FB.ai
        refine ⟨ok15 FC, 16, rf15_4 FC, ok16 FC, vi (ln16 FC), ?_⟩
        rw [c, mAI_own]
        exact H
      · have h1 : isF (b p) = true := by
          cases e : isF (b p) with
          | true => rfl
          | false => rw [e] at h1; exact absurd rfl h1
        rw [if_pos h1, if_pos h1] at H
        refine S_cutNum FA TA pA hpn hi ?_
        have e9 : mAI (cnF A i p n b) 16 i = (if rnE isF b n p - p ≤ 6 then (3 : Int32) else 0) := mAI_own _ _ _ _
        have FB : Fix (cnF A i p n b) := (FA.i.aj (by decide)).ai
        generalize eB : cnF A i p n b = B at FB H e9
        refine fun _ => ⟨rfl, ok15 FB, 16, rf15_4 FB, ok16 FB, vi (ln16 FB), ?_⟩
        rw [e9]
        exact H
    · have h0 : isL (b p) = true := by
        cases e : isL (b p) with
        | true => rfl
        | false => rw [e] at h0; exact absurd rfl h0
      rw [if_pos h0, if_pos h0] at H
      refine S_cutWord FA TA pA hpn hi ?_
      have e9 : mAI (cwF A i p n b) 16 i = (if rnE isL b n p - p ≤ 10 then keyK (spellF b (n - p) p 0) 33 0 else 0) := mAI_own _ _ _ _
      have FB : Fix (cwF A i p n b) := (FA.i.aj (by decide)).ai
      generalize eB : cwF A i p n b = B at FB H e9
      refine fun _ => ⟨rfl, ok15 FB, 16, rf15_4 FB, ok16 FB, vi (ln16 FB), ?_⟩
      rw [e9]
      exact H
  · rw [pA, lA, ltn32 (by omega) (by omega)] at hc
    have hnp : n ≤ p := by omega
    rw [if_pos hnp, if_pos hnp] at H
    refine ⟨16, rf15_4 FA, ok16 FA, vi (ln16 FA), fun C c => ?_⟩
    have FC : Fix C := by rw [c]; exact FA.ai
    refine ⟨ok15 FC, 16, rf15_4 FC, ok16 FC, vi (ln16 FC), ?_⟩
    rw [c, mAI_own]
    exact H
theorem blank_loop {h n i : Nat} {b : Nat → Int32} {Q : Option Value → Mem → Prop} (hB : By b) (hi : i < 801) : ∀ (k a : Nat) (M : Mem), a + k = n → Fix M → TX M n b → mI M 15 3 = Int32.ofNat a →
    Q (some (.int (ckK b n (runF isB b k a)))) (ctF (wI M 15 3 (Int32.ofNat (runF isB b k a))) i (runF isB b k a) n b) → T (h + 7) mdX7_cut 0 [(0, .ref 15), (1, .int (Int32.ofNat i))] [] M Q := by
  intro k
  induction k with
  | zero =>
    intro a M hk F hT ha H
    have hn := hT.1
    refine VX7_cut_0 ?_
    unfold DX7_cut_0
    rw [hT.2.1, ha]
    refine ⟨ok15 F, fun _ => ?_, fun hc => absurd ((le32 (by omega) (by omega)).mpr (by omega)) hc⟩
    unfold runF at H
    rw [wI_same ha] at H
    exact cut_rest F hT hB ha (by omega) hi H
  | succ k ih =>
    intro a M hk F hT ha H
    have hn := hT.1
    refine VX7_cut_0 ?_
    unfold DX7_cut_0 DX7_cut_37
    rw [hT.2.1, ha]
    refine ⟨ok15 F, fun hc => absurd ((le32 (by omega) (by omega)).mp hc) (by omega), fun _ => ?_⟩
    have go : isB (b a) = true → ok M 15 9 ∧ ∀ M2 : Mem, M2 = wI M 15 3 (mI M 15 3 + 1) → T (h + 7) mdX7_cut 0 [(0, .ref 15), (1, .int (Int32.ofNat i))] [] M2 Q := by
      intro hb
      refine ⟨ok15 F, fun M2 e2 => ?_⟩
      rw [ha, succ32] at e2
      unfold runF at H
      rw [if_pos hb] at H
      refine ih (a + 1) M2 (by omega) (by rw [e2]; exact F.i) (by rw [e2]; exact hT.wI3) (by rw [e2]; exact mI_own _ _ _ _) ?_
      rw [e2, wI_wI]
      exact H
    refine S_byteAt F hT (by omega) (fun _ => ⟨_, rfl, fun hc => go (isB_or.mpr (Or.inl hc)), fun hc => ?_⟩)
    rw [ha]
    refine S_byteAt F hT (by omega) (fun _ => ⟨_, rfl, fun hc2 => ?_, fun hc2 => go (isB_or.mpr (Or.inr hc2))⟩)
    unfold runF at H
    have hb : ¬ isB (b a) = true := fun z => by
      rcases isB_or.mp z with q | q
      · exact hc q
      · exact hc2 q
    rw [if_neg hb, wI_same ha] at H
    exact cut_rest F hT hB ha (by omega) hi H
theorem S_cut {h n a i : Nat} {b : Nat → Int32} {M : Mem} {Q : Option Value → Mem → Prop} (F : Fix M) (hT : TX M n b) (hB : By b) (ha : mI M 15 3 = Int32.ofNat a) (han : a ≤ n) (hi : i < 801) (H : Q (some (.int (ckK b n (rnE isB b n a)))) (ctF (wI M 15 3 (Int32.ofNat (rnE isB b n a))) i (rnE isB b n a) n b)) : E (h + 7) mdX7_cut [.ref 15, .int (Int32.ofNat i)] M Q :=
  KX7_cut (blank_loop hB hi (n - a) a M (by omega) F hT ha H)
/-! what one cut leaves -/
theorem sgX_le {c d : Int32} : sgX c d ≤ 1 := by unfold sgX; split <;> (try split) <;> omega
theorem runF_all {p : Int32 → Bool} {b : Nat → Int32} : ∀ (k a i : Nat), a ≤ i → i < runF p b k a → p (b i) = true := by
  intro k
  induction k with
  | zero => intro a i h1 h2; unfold runF at h2; omega
  | succ k ih =>
    intro a i h1 h2
    unfold runF at h2
    split at h2
    · rename_i h
      by_cases hi : i = a
      · subst hi; exact h
      · exact ih (a + 1) i (by omega) h2
    · omega
theorem runF_pos {p : Int32 → Bool} {b : Nat → Int32} {k a : Nat} (hk : 0 < k) (h : p (b a) = true) : a < runF p b k a := by
  obtain ⟨j, rfl⟩ : ∃ j, k = j + 1 := ⟨k - 1, by omega⟩
  unfold runF
  rw [if_pos h]
  have := (runF_le (p := p) (b := b) j (a + 1)).1
  omega
theorem ckE_gt {b : Nat → Int32} {n p : Nat} (h : p < n) : p < ckE b n p := by
  unfold ckE
  rw [if_neg (by omega)]
  split
  · rename_i q; exact runF_pos (by omega) q
  · split
    · rename_i q; exact runF_pos (by omega) q
    · omega
theorem ckE_le {b : Nat → Int32} {n p : Nat} (h : p ≤ n) (hz : ∀ i, n ≤ i → b i = 0) : ckE b n p ≤ n := by
  unfold ckE
  split
  · omega
  · split
    · have := (runF_le (p := isL) (b := b) (n - p) p).2; unfold rnE; omega
    · split
      · have := (runF_le (p := isF) (b := b) (n - p) p).2; unfold rnE; omega
      · have h1 := @sgX_le (b p) (b (p + 1))
        by_cases hl : p + 1 < n
        · omega
        · have e : b (p + 1) = 0 := hz _ (by omega)
          have : sgX (b p) (b (p + 1)) = 0 := by
            rw [e]
            unfold sgX
            split
            · rfl
            · rw [if_neg (by rintro (⟨-, z⟩ | ⟨-, z⟩) <;> exact absurd z (by decide))]
          omega
end
section
/-! the row of all tokens -/
def tPos (b : Nat → Int32) (n : Nat) : Nat → Nat
  | 0 => 0
  | i + 1 => ckE b n (rnE isB b n (tPos b n i))
def tP (b : Nat → Int32) (n i : Nat) : Nat := rnE isB b n (tPos b n i)
def tK (b : Nat → Int32) (n i : Nat) : Int32 := ckK b n (tP b n i)
def tC (b : Nat → Int32) (n i : Nat) : Int64 := ckC b n (tP b n i)
def TkR (M : Mem) (b : Nat → Int32) (n i : Nat) : Prop := mAI M 16 i = tK b n i ∧ mAI M 17 i = Int32.ofNat (tP b n i) ∧ (tP b n i < n → (isL (b (tP b n i)) = true ∨ isF (b (tP b n i)) = true) → mAJ M 18 i = tC b n i)
theorem tP_b {b : Nat → Int32} {n i : Nat} (h : tPos b n i ≤ n) : tPos b n i ≤ tP b n i ∧ tP b n i ≤ n := by
  have := runF_le (p := isB) (b := b) (n - tPos b n i) (tPos b n i)
  unfold tP rnE
  omega
theorem tPos_le {b : Nat → Int32} {n : Nat} (hz : ∀ i, n ≤ i → b i = 0) : ∀ i, tPos b n i ≤ n := by
  intro i
  induction i with
  | zero => exact Nat.zero_le _
  | succ i ih => exact ckE_le (tP_b ih).2 hz
theorem tK_fin {b : Nat → Int32} {n i : Nat} (h : n ≤ tP b n i) : tK b n i = 1 := by unfold tK ckK; rw [if_pos h]
theorem tPos_ge {b : Nat → Int32} {n : Nat} (hz : ∀ i, n ≤ i → b i = 0) : ∀ i, (∀ j, j < i → tK b n j ≠ 1) → i ≤ tPos b n i := by
  intro i
  induction i with
  | zero => intro _; exact Nat.zero_le _
  | succ i ih =>
    intro h
    have h1 := ih (fun j hj => h j (by omega))
    have h2 := tP_b (tPos_le hz i)
    have h3 : tP b n i < n := Nat.lt_of_not_le (fun z => h i (by omega) (tK_fin z))
    have h4 : tP b n i < tPos b n (i + 1) := ckE_gt h3
    omega
/-- all but the tokens' own rows and the place in the text stays -/
def CFr (M M' : Mem) : Prop := mN M' = mN M ∧ mS M' = mS M ∧ mK M' = mK M ∧ mL M' = mL M ∧ mR M' = mR M ∧ mAR M' = mAR M ∧ mJ M' = mJ M ∧ (∀ a f, ¬ (a = 15 ∧ f = 3) → mI M' a f = mI M a f) ∧ (∀ a, a ≠ 16 → a ≠ 17 → mAI M' a = mAI M a) ∧ (∀ a, a ≠ 18 → mAJ M' a = mAJ M a)
theorem CFr.rf {M : Mem} : CFr M M := ⟨rfl, rfl, rfl, rfl, rfl, rfl, rfl, fun _ _ _ => rfl, fun _ _ _ => rfl, fun _ _ => rfl⟩
theorem CFr.tr {M M1 M2 : Mem} (h : CFr M M1) (k : CFr M1 M2) : CFr M M2 := by
  obtain ⟨a1, a2, a3, a4, a5, a6, a7, a8, a9, aA⟩ := h
  obtain ⟨b1, b2, b3, b4, b5, b6, b7, b8, b9, bA⟩ := k
  exact ⟨b1.trans a1, b2.trans a2, b3.trans a3, b4.trans a4, b5.trans a5, b6.trans a6, b7.trans a7, fun a f q => (b8 a f q).trans (a8 a f q), fun a q r => (b9 a q r).trans (a9 a q r), fun a q => (bA a q).trans (aA a q)⟩
theorem CFr.w3 {M : Mem} {v : Int32} : CFr M (wI M 15 3 v) := ⟨rfl, rfl, rfl, rfl, rfl, rfl, rfl, fun a f q => by rw [mI_wI, if_neg q], fun _ _ _ => rfl, fun _ _ => rfl⟩
theorem CFr.w16 {M : Mem} {i : Nat} {v : Int32} : CFr M (wAI M 16 i v) := ⟨rfl, rfl, rfl, rfl, rfl, rfl, rfl, fun _ _ _ => rfl, fun a q _ => up2_row q, fun _ _ => rfl⟩
theorem CFr.w17 {M : Mem} {i : Nat} {v : Int32} : CFr M (wAI M 17 i v) := ⟨rfl, rfl, rfl, rfl, rfl, rfl, rfl, fun _ _ _ => rfl, fun a _ q => up2_row q, fun _ _ => rfl⟩
theorem CFr.w18 {M : Mem} {i : Nat} {v : Int64} : CFr M (wAJ M 18 i v) := ⟨rfl, rfl, rfl, rfl, rfl, rfl, rfl, fun _ _ _ => rfl, fun _ _ _ => rfl, fun a q => up2_row q⟩
theorem CFr.tx {M M' : Mem} {n : Nat} {b : Nat → Int32} (h : CFr M M') (hT : TX M n b) : TX M' n b := ⟨hT.1, (h.2.2.2.2.2.2.2.1 15 2 (by decide)).trans hT.2.1, fun i hi => by rw [h.2.2.2.2.2.2.2.2.1 1 (by decide) (by decide)]; exact hT.2.2.1 i hi, hT.2.2.2⟩
theorem ct_fr {M : Mem} {i p n : Nat} {b : Nat → Int32} : CFr M (ctF M i p n b) := by
  have h1 : CFr M (ctP M i p) := CFr.w3.tr CFr.w17
  unfold ctF
  split
  · exact h1.tr CFr.w16
  · split
    · exact h1.tr ((CFr.w3.tr CFr.w18).tr CFr.w16)
    · split
      · exact h1.tr ((CFr.w3.tr CFr.w18).tr CFr.w16)
      · exact h1.tr (CFr.w3.tr CFr.w16)
theorem ct_fix {M : Mem} {i p n : Nat} {b : Nat → Int32} (F : Fix M) : Fix (ctF M i p n b) := by
  have h1 : Fix (ctP M i p) := F.i.ai
  unfold ctF
  split
  · exact h1.ai
  · split
    · exact (h1.i.aj (by decide)).ai
    · split
      · exact (h1.i.aj (by decide)).ai
      · exact h1.i.ai
theorem ct_at {M : Mem} {i p n : Nat} {b : Nat → Int32} : mI (ctF M i p n b) 15 3 = Int32.ofNat (ckE b n p) := by
  unfold ctF ckE
  split
  · simp [ctP, mNwI, mSwI, mKwI, mIwI, mJwI, mRwI, mLwI, mAIwI, mAJwI, mARwI, mNwJ, mSwJ, mKwJ, mIwJ, mJwJ, mRwJ, mLwJ, mAIwJ, mAJwJ, mARwJ, mNwR, mSwR, mKwR, mIwR, mJwR, mRwR, mLwR, mAIwR, mAJwR, mARwR, mNwAI, mSwAI, mKwAI, mIwAI, mJwAI, mRwAI, mLwAI, mAIwAI, mAJwAI, mARwAI, mNwAJ, mSwAJ, mKwAJ, mIwAJ, mJwAJ, mRwAJ, mLwAJ, mAIwAJ, mAJwAJ, mARwAJ, mNwAR, mSwAR, mKwAR, mIwAR, mJwAR, mRwAR, mLwAR, mAIwAR, mAJwAR, mARwAR, okkwI, okkwJ, okkwR, okkwAI, okkwAJ, okkwAR]
  · split
    · simp [cwF, mNwI, mSwI, mKwI, mIwI, mJwI, mRwI, mLwI, mAIwI, mAJwI, mARwI, mNwJ, mSwJ, mKwJ, mIwJ, mJwJ, mRwJ, mLwJ, mAIwJ, mAJwJ, mARwJ, mNwR, mSwR, mKwR, mIwR, mJwR, mRwR, mLwR, mAIwR, mAJwR, mARwR, mNwAI, mSwAI, mKwAI, mIwAI, mJwAI, mRwAI, mLwAI, mAIwAI, mAJwAI, mARwAI, mNwAJ, mSwAJ, mKwAJ, mIwAJ, mJwAJ, mRwAJ, mLwAJ, mAIwAJ, mAJwAJ, mARwAJ, mNwAR, mSwAR, mKwAR, mIwAR, mJwAR, mRwAR, mLwAR, mAIwAR, mAJwAR, mARwAR, okkwI, okkwJ, okkwR, okkwAI, okkwAJ, okkwAR]
    · split
      · simp [cnF, mNwI, mSwI, mKwI, mIwI, mJwI, mRwI, mLwI, mAIwI, mAJwI, mARwI, mNwJ, mSwJ, mKwJ, mIwJ, mJwJ, mRwJ, mLwJ, mAIwJ, mAJwJ, mARwJ, mNwR, mSwR, mKwR, mIwR, mJwR, mRwR, mLwR, mAIwR, mAJwR, mARwR, mNwAI, mSwAI, mKwAI, mIwAI, mJwAI, mRwAI, mLwAI, mAIwAI, mAJwAI, mARwAI, mNwAJ, mSwAJ, mKwAJ, mIwAJ, mJwAJ, mRwAJ, mLwAJ, mAIwAJ, mAJwAJ, mARwAJ, mNwAR, mSwAR, mKwAR, mIwAR, mJwAR, mRwAR, mLwAR, mAIwAR, mAJwAR, mARwAR, okkwI, okkwJ, okkwR, okkwAI, okkwAJ, okkwAR]
      · simp [mNwI, mSwI, mKwI, mIwI, mJwI, mRwI, mLwI, mAIwI, mAJwI, mARwI, mNwJ, mSwJ, mKwJ, mIwJ, mJwJ, mRwJ, mLwJ, mAIwJ, mAJwJ, mARwJ, mNwR, mSwR, mKwR, mIwR, mJwR, mRwR, mLwR, mAIwR, mAJwR, mARwR, mNwAI, mSwAI, mKwAI, mIwAI, mJwAI, mRwAI, mLwAI, mAIwAI, mAJwAI, mARwAI, mNwAJ, mSwAJ, mKwAJ, mIwAJ, mJwAJ, mRwAJ, mLwAJ, mAIwAJ, mAJwAJ, mARwAJ, mNwAR, mSwAR, mKwAR, mIwAR, mJwAR, mRwAR, mLwAR, mAIwAR, mAJwAR, mARwAR, okkwI, okkwJ, okkwR, okkwAI, okkwAJ, okkwAR]
theorem ct_k {M : Mem} {i p n : Nat} {b : Nat → Int32} : mAI (ctF M i p n b) 16 i = ckK b n p := by
  unfold ctF ckK
  split
  · simp [mNwI, mSwI, mKwI, mIwI, mJwI, mRwI, mLwI, mAIwI, mAJwI, mARwI, mNwJ, mSwJ, mKwJ, mIwJ, mJwJ, mRwJ, mLwJ, mAIwJ, mAJwJ, mARwJ, mNwR, mSwR, mKwR, mIwR, mJwR, mRwR, mLwR, mAIwR, mAJwR, mARwR, mNwAI, mSwAI, mKwAI, mIwAI, mJwAI, mRwAI, mLwAI, mAIwAI, mAJwAI, mARwAI, mNwAJ, mSwAJ, mKwAJ, mIwAJ, mJwAJ, mRwAJ, mLwAJ, mAIwAJ, mAJwAJ, mARwAJ, mNwAR, mSwAR, mKwAR, mIwAR, mJwAR, mRwAR, mLwAR, mAIwAR, mAJwAR, mARwAR, okkwI, okkwJ, okkwR, okkwAI, okkwAJ, okkwAR]
  · split
    · simp [cwF, mNwI, mSwI, mKwI, mIwI, mJwI, mRwI, mLwI, mAIwI, mAJwI, mARwI, mNwJ, mSwJ, mKwJ, mIwJ, mJwJ, mRwJ, mLwJ, mAIwJ, mAJwJ, mARwJ, mNwR, mSwR, mKwR, mIwR, mJwR, mRwR, mLwR, mAIwR, mAJwR, mARwR, mNwAI, mSwAI, mKwAI, mIwAI, mJwAI, mRwAI, mLwAI, mAIwAI, mAJwAI, mARwAI, mNwAJ, mSwAJ, mKwAJ, mIwAJ, mJwAJ, mRwAJ, mLwAJ, mAIwAJ, mAJwAJ, mARwAJ, mNwAR, mSwAR, mKwAR, mIwAR, mJwAR, mRwAR, mLwAR, mAIwAR, mAJwAR, mARwAR, okkwI, okkwJ, okkwR, okkwAI, okkwAJ, okkwAR]
    · split
      · simp [cnF, mNwI, mSwI, mKwI, mIwI, mJwI, mRwI, mLwI, mAIwI, mAJwI, mARwI, mNwJ, mSwJ, mKwJ, mIwJ, mJwJ, mRwJ, mLwJ, mAIwJ, mAJwJ, mARwJ, mNwR, mSwR, mKwR, mIwR, mJwR, mRwR, mLwR, mAIwR, mAJwR, mARwR, mNwAI, mSwAI, mKwAI, mIwAI, mJwAI, mRwAI, mLwAI, mAIwAI, mAJwAI, mARwAI, mNwAJ, mSwAJ, mKwAJ, mIwAJ, mJwAJ, mRwAJ, mLwAJ, mAIwAJ, mAJwAJ, mARwAJ, mNwAR, mSwAR, mKwAR, mIwAR, mJwAR, mRwAR, mLwAR, mAIwAR, mAJwAR, mARwAR, okkwI, okkwJ, okkwR, okkwAI, okkwAJ, okkwAR]
      · simp [mNwI, mSwI, mKwI, mIwI, mJwI, mRwI, mLwI, mAIwI, mAJwI, mARwI, mNwJ, mSwJ, mKwJ, mIwJ, mJwJ, mRwJ, mLwJ, mAIwJ, mAJwJ, mARwJ, mNwR, mSwR, mKwR, mIwR, mJwR, mRwR, mLwR, mAIwR, mAJwR, mARwR, mNwAI, mSwAI, mKwAI, mIwAI, mJwAI, mRwAI, mLwAI, mAIwAI, mAJwAI, mARwAI, mNwAJ, mSwAJ, mKwAJ, mIwAJ, mJwAJ, mRwAJ, mLwAJ, mAIwAJ, mAJwAJ, mARwAJ, mNwAR, mSwAR, mKwAR, mIwAR, mJwAR, mRwAR, mLwAR, mAIwAR, mAJwAR, mARwAR, okkwI, okkwJ, okkwR, okkwAI, okkwAJ, okkwAR]
theorem ct_p {M : Mem} {i p n : Nat} {b : Nat → Int32} : mAI (ctF M i p n b) 17 i = Int32.ofNat p := by
  unfold ctF
  split
  · simp [ctP, mNwI, mSwI, mKwI, mIwI, mJwI, mRwI, mLwI, mAIwI, mAJwI, mARwI, mNwJ, mSwJ, mKwJ, mIwJ, mJwJ, mRwJ, mLwJ, mAIwJ, mAJwJ, mARwJ, mNwR, mSwR, mKwR, mIwR, mJwR, mRwR, mLwR, mAIwR, mAJwR, mARwR, mNwAI, mSwAI, mKwAI, mIwAI, mJwAI, mRwAI, mLwAI, mAIwAI, mAJwAI, mARwAI, mNwAJ, mSwAJ, mKwAJ, mIwAJ, mJwAJ, mRwAJ, mLwAJ, mAIwAJ, mAJwAJ, mARwAJ, mNwAR, mSwAR, mKwAR, mIwAR, mJwAR, mRwAR, mLwAR, mAIwAR, mAJwAR, mARwAR, okkwI, okkwJ, okkwR, okkwAI, okkwAJ, okkwAR]
  · split
    · simp [cwF, ctP, mNwI, mSwI, mKwI, mIwI, mJwI, mRwI, mLwI, mAIwI, mAJwI, mARwI, mNwJ, mSwJ, mKwJ, mIwJ, mJwJ, mRwJ, mLwJ, mAIwJ, mAJwJ, mARwJ, mNwR, mSwR, mKwR, mIwR, mJwR, mRwR, mLwR, mAIwR, mAJwR, mARwR, mNwAI, mSwAI, mKwAI, mIwAI, mJwAI, mRwAI, mLwAI, mAIwAI, mAJwAI, mARwAI, mNwAJ, mSwAJ, mKwAJ, mIwAJ, mJwAJ, mRwAJ, mLwAJ, mAIwAJ, mAJwAJ, mARwAJ, mNwAR, mSwAR, mKwAR, mIwAR, mJwAR, mRwAR, mLwAR, mAIwAR, mAJwAR, mARwAR, okkwI, okkwJ, okkwR, okkwAI, okkwAJ, okkwAR]
    · split
      · simp [cnF, ctP, mNwI, mSwI, mKwI, mIwI, mJwI, mRwI, mLwI, mAIwI, mAJwI, mARwI, mNwJ, mSwJ, mKwJ, mIwJ, mJwJ, mRwJ, mLwJ, mAIwJ, mAJwJ, mARwJ, mNwR, mSwR, mKwR, mIwR, mJwR, mRwR, mLwR, mAIwR, mAJwR, mARwR, mNwAI, mSwAI, mKwAI, mIwAI, mJwAI, mRwAI, mLwAI, mAIwAI, mAJwAI, mARwAI, mNwAJ, mSwAJ, mKwAJ, mIwAJ, mJwAJ, mRwAJ, mLwAJ, mAIwAJ, mAJwAJ, mARwAJ, mNwAR, mSwAR, mKwAR, mIwAR, mJwAR, mRwAR, mLwAR, mAIwAR, mAJwAR, mARwAR, okkwI, okkwJ, okkwR, okkwAI, okkwAJ, okkwAR]
      · simp [ctP, mNwI, mSwI, mKwI, mIwI, mJwI, mRwI, mLwI, mAIwI, mAJwI, mARwI, mNwJ, mSwJ, mKwJ, mIwJ, mJwJ, mRwJ, mLwJ, mAIwJ, mAJwJ, mARwJ, mNwR, mSwR, mKwR, mIwR, mJwR, mRwR, mLwR, mAIwR, mAJwR, mARwR, mNwAI, mSwAI, mKwAI, mIwAI, mJwAI, mRwAI, mLwAI, mAIwAI, mAJwAI, mARwAI, mNwAJ, mSwAJ, mKwAJ, mIwAJ, mJwAJ, mRwAJ, mLwAJ, mAIwAJ, mAJwAJ, mARwAJ, mNwAR, mSwAR, mKwAR, mIwAR, mJwAR, mRwAR, mLwAR, mAIwAR, mAJwAR, mARwAR, okkwI, okkwJ, okkwR, okkwAI, okkwAJ, okkwAR]
theorem ct_c {M : Mem} {i p n : Nat} {b : Nat → Int32} (hp : p < n) (h : isL (b p) = true ∨ isF (b p) = true) : mAJ (ctF M i p n b) 18 i = ckC b n p := by
  unfold ctF ckC
  rw [if_neg (Nat.not_le.mpr hp)]
  split
  · simp [cwF, ctP, mNwI, mSwI, mKwI, mIwI, mJwI, mRwI, mLwI, mAIwI, mAJwI, mARwI, mNwJ, mSwJ, mKwJ, mIwJ, mJwJ, mRwJ, mLwJ, mAIwJ, mAJwJ, mARwJ, mNwR, mSwR, mKwR, mIwR, mJwR, mRwR, mLwR, mAIwR, mAJwR, mARwR, mNwAI, mSwAI, mKwAI, mIwAI, mJwAI, mRwAI, mLwAI, mAIwAI, mAJwAI, mARwAI, mNwAJ, mSwAJ, mKwAJ, mIwAJ, mJwAJ, mRwAJ, mLwAJ, mAIwAJ, mAJwAJ, mARwAJ, mNwAR, mSwAR, mKwAR, mIwAR, mJwAR, mRwAR, mLwAR, mAIwAR, mAJwAR, mARwAR, okkwI, okkwJ, okkwR, okkwAI, okkwAJ, okkwAR]
  · rename_i q
    rw [if_pos (h.resolve_left q)]
    simp [cnF, ctP, mNwI, mSwI, mKwI, mIwI, mJwI, mRwI, mLwI, mAIwI, mAJwI, mARwI, mNwJ, mSwJ, mKwJ, mIwJ, mJwJ, mRwJ, mLwJ, mAIwJ, mAJwJ, mARwJ, mNwR, mSwR, mKwR, mIwR, mJwR, mRwR, mLwR, mAIwR, mAJwR, mARwR, mNwAI, mSwAI, mKwAI, mIwAI, mJwAI, mRwAI, mLwAI, mAIwAI, mAJwAI, mARwAI, mNwAJ, mSwAJ, mKwAJ, mIwAJ, mJwAJ, mRwAJ, mLwAJ, mAIwAJ, mAJwAJ, mARwAJ, mNwAR, mSwAR, mKwAR, mIwAR, mJwAR, mRwAR, mLwAR, mAIwAR, mAJwAR, mARwAR, okkwI, okkwJ, okkwR, okkwAI, okkwAJ, okkwAR]
theorem ct_o {M : Mem} {i p n j : Nat} {b : Nat → Int32} (hj : j ≠ i) : mAI (ctF M i p n b) 16 j = mAI M 16 j ∧ mAI (ctF M i p n b) 17 j = mAI M 17 j ∧ mAJ (ctF M i p n b) 18 j = mAJ M 18 j := by
  unfold ctF
  split
  · refine ⟨?_, ?_, ?_⟩ <;> simp [ctP, hj, mNwI, mSwI, mKwI, mIwI, mJwI, mRwI, mLwI, mAIwI, mAJwI, mARwI, mNwJ, mSwJ, mKwJ, mIwJ, mJwJ, mRwJ, mLwJ, mAIwJ, mAJwJ, mARwJ, mNwR, mSwR, mKwR, mIwR, mJwR, mRwR, mLwR, mAIwR, mAJwR, mARwR, mNwAI, mSwAI, mKwAI, mIwAI, mJwAI, mRwAI, mLwAI, mAIwAI, mAJwAI, mARwAI, mNwAJ, mSwAJ, mKwAJ, mIwAJ, mJwAJ, mRwAJ, mLwAJ, mAIwAJ, mAJwAJ, mARwAJ, mNwAR, mSwAR, mKwAR, mIwAR, mJwAR, mRwAR, mLwAR, mAIwAR, mAJwAR, mARwAR, okkwI, okkwJ, okkwR, okkwAI, okkwAJ, okkwAR]
  · split
    · refine ⟨?_, ?_, ?_⟩ <;> simp [cwF, ctP, hj, mNwI, mSwI, mKwI, mIwI, mJwI, mRwI, mLwI, mAIwI, mAJwI, mARwI, mNwJ, mSwJ, mKwJ, mIwJ, mJwJ, mRwJ, mLwJ, mAIwJ, mAJwJ, mARwJ, mNwR, mSwR, mKwR, mIwR, mJwR, mRwR, mLwR, mAIwR, mAJwR, mARwR, mNwAI, mSwAI, mKwAI, mIwAI, mJwAI, mRwAI, mLwAI, mAIwAI, mAJwAI, mARwAI, mNwAJ, mSwAJ, mKwAJ, mIwAJ, mJwAJ, mRwAJ, mLwAJ, mAIwAJ, mAJwAJ, mARwAJ, mNwAR, mSwAR, mKwAR, mIwAR, mJwAR, mRwAR, mLwAR, mAIwAR, mAJwAR, mARwAR, okkwI, okkwJ, okkwR, okkwAI, okkwAJ, okkwAR]
    · split
      · refine ⟨?_, ?_, ?_⟩ <;> simp [cnF, ctP, hj, mNwI, mSwI, mKwI, mIwI, mJwI, mRwI, mLwI, mAIwI, mAJwI, mARwI, mNwJ, mSwJ, mKwJ, mIwJ, mJwJ, mRwJ, mLwJ, mAIwJ, mAJwJ, mARwJ, mNwR, mSwR, mKwR, mIwR, mJwR, mRwR, mLwR, mAIwR, mAJwR, mARwR, mNwAI, mSwAI, mKwAI, mIwAI, mJwAI, mRwAI, mLwAI, mAIwAI, mAJwAI, mARwAI, mNwAJ, mSwAJ, mKwAJ, mIwAJ, mJwAJ, mRwAJ, mLwAJ, mAIwAJ, mAJwAJ, mARwAJ, mNwAR, mSwAR, mKwAR, mIwAR, mJwAR, mRwAR, mLwAR, mAIwAR, mAJwAR, mARwAR, okkwI, okkwJ, okkwR, okkwAI, okkwAJ, okkwAR]
      · refine ⟨?_, ?_, ?_⟩ <;> simp [ctP, hj, mNwI, mSwI, mKwI, mIwI, mJwI, mRwI, mLwI, mAIwI, mAJwI, mARwI, mNwJ, mSwJ, mKwJ, mIwJ, mJwJ, mRwJ, mLwJ, mAIwJ, mAJwJ, mARwJ, mNwR, mSwR, mKwR, mIwR, mJwR, mRwR, mLwR, mAIwR, mAJwR, mARwR, mNwAI, mSwAI, mKwAI, mIwAI, mJwAI, mRwAI, mLwAI, mAIwAI, mAJwAI, mARwAI, mNwAJ, mSwAJ, mKwAJ, mIwAJ, mJwAJ, mRwAJ, mLwAJ, mAIwAJ, mAJwAJ, mARwAJ, mNwAR, mSwAR, mKwAR, mIwAR, mJwAR, mRwAR, mLwAR, mAIwAR, mAJwAR, mARwAR, okkwI, okkwJ, okkwR, okkwAI, okkwAJ, okkwAR]
theorem begin_loop {h n : Nat} {b : Nat → Int32} {Q : Option Value → Mem → Prop} {M0 : Mem} (hB : By b)
    (H : ∀ (s : Nat) (M' : Mem), s ≤ n → (tK b n s = 0 ∨ tK b n s = 1) → (∀ j, j < s → tK b n j ≠ 0 ∧ tK b n j ≠ 1) → (∀ j, j ≤ s → TkR M' b n j) → Fix M' → CFr M0 M' → DX7_begin_52 (h + 7) 15 M' Q) :
    ∀ (m i : Nat) (M : Mem) (x : Int32), i + m = n + 1 → x ≠ 0 → x ≠ 1 → Fix M → TX M n b → CFr M0 M → mI M 15 3 = Int32.ofNat (tPos b n i) → (∀ j, j < i → TkR M b n j) → (∀ j, j < i → tK b n j ≠ 0 ∧ tK b n j ≠ 1) →
    T (h + 8) mdX7_begin 22 [(0, .ref 15), (2, .int x), (3, .int (Int32.ofNat i))] [] M Q := by
  intro m
  induction m with
  | zero =>
    intro i M x hi hx0 hx1 F hT hC ha hR hK
    have h1 := tPos_ge hT.2.2.2 i (fun j hj => (hK j hj).2)
    have h2 := tPos_le hT.2.2.2 (b := b) (n := n) i
    omega
  | succ m ih =>
    intro i M x hi hx0 hx1 F hT hC ha hR hK
    have hn := hT.1
    have h1 := tPos_ge hT.2.2.2 i (fun j hj => (hK j hj).2)
    have h2 := tPos_le hT.2.2.2 (b := b) (n := n) i
    refine VX7_begin_22 ?_
    unfold DX7_begin_22
    refine ⟨ok15 F, 16, rf15_4 F, ok16 F, fun hc => ?_, fun _ => ⟨fun hc => absurd hc hx1, fun _ => ⟨fun hc => absurd hc hx0, fun _ => ?_⟩⟩⟩
    · rw [ln16 F, le32 (by decide) (by omega)] at hc
      omega
    refine S_cut F hT hB ha h2 (by omega) ?_
    have F1 : Fix (ctF (wI M 15 3 (Int32.ofNat (rnE isB b n (tPos b n i)))) i (rnE isB b n (tPos b n i)) n b) := ct_fix F.i
    have C1 : CFr M0 (ctF (wI M 15 3 (Int32.ofNat (rnE isB b n (tPos b n i)))) i (rnE isB b n (tPos b n i)) n b) := hC.tr (CFr.w3.tr ct_fr)
    have T1 : TX (ctF (wI M 15 3 (Int32.ofNat (rnE isB b n (tPos b n i)))) i (rnE isB b n (tPos b n i)) n b) n b := (CFr.w3.tr ct_fr).tx hT
    have a1 : mI (ctF (wI M 15 3 (Int32.ofNat (rnE isB b n (tPos b n i)))) i (rnE isB b n (tPos b n i)) n b) 15 3 = Int32.ofNat (tPos b n (i + 1)) := ct_at
    have R1 : ∀ j, j < i + 1 → TkR (ctF (wI M 15 3 (Int32.ofNat (rnE isB b n (tPos b n i)))) i (rnE isB b n (tPos b n i)) n b) b n j := by
      intro j hj
      by_cases hji : j = i
      · subst hji
        exact ⟨ct_k, ct_p, fun q r => ct_c q r⟩
      · obtain ⟨o1, o2, o3⟩ := ct_o (M := wI M 15 3 (Int32.ofNat (rnE isB b n (tPos b n i)))) (i := i) (p := rnE isB b n (tPos b n i)) (n := n) (b := b) hji
        obtain ⟨r1, r2, r3⟩ := hR j (by omega)
        refine ⟨o1.trans r1, o2.trans r2, fun q r => o3.trans (r3 q r)⟩
    generalize ctF (wI M 15 3 (Int32.ofNat (rnE isB b n (tPos b n i)))) i (rnE isB b n (tPos b n i)) n b = N at F1 C1 T1 a1 R1
    refine fun _ => ⟨_, rfl, ?_⟩
    rw [succ32]
    show T (h + 8) mdX7_begin 22 [(0, .ref 15), (2, .int (tK b n i)), (3, .int (Int32.ofNat (i + 1)))] [] N Q
    by_cases hk : tK b n i = 0 ∨ tK b n i = 1
    · have HH := H i N (by omega) hk hK (fun j hj => R1 j (by omega)) F1 C1
      refine VX7_begin_22 ?_
      unfold DX7_begin_22
      refine ⟨ok15 F1, 16, rf15_4 F1, ok16 F1, fun _ => HH, fun _ => ⟨fun _ => HH, fun q => ⟨fun _ => HH, fun q2 => ?_⟩⟩⟩
      rcases hk with k | k
      · exact absurd k q2
      · exact absurd k q
    · refine ih (i + 1) N (tK b n i) (by omega) (fun z => hk (Or.inl z)) (fun z => hk (Or.inr z)) F1 T1 C1 a1 R1 (fun j hj => ?_)
      by_cases hji : j = i
      · subst hji; exact ⟨fun z => hk (Or.inl z), fun z => hk (Or.inr z)⟩
      · exact hK j (by omega)
/-- the memory as the first token has been read -/
def bgF (M : Mem) : Mem := advF (wI (wI (wI (wI M 15 7 0) 15 8 0) 15 12 0) 15 13 0)
theorem S_begin {h n : Nat} {b : Nat → Int32} {M : Mem} {Q : Option Value → Mem → Prop} (F : Fix M) (hn : n ≤ 800) (hm : ∀ i, i < n → (mAI M 1 i) &&& 255 = b i) (hz : ∀ i, n ≤ i → b i = 0) (hB : By b)
    (H : ∀ (s : Nat) (N : Mem), s ≤ n → (tK b n s = 0 ∨ tK b n s = 1) → (∀ j, j < s → tK b n j ≠ 0 ∧ tK b n j ≠ 1) → (∀ j, j ≤ s → TkR N b n j) → Fix N → CFr (wI M 15 2 (Int32.ofNat n)) N → Q none (bgF N)) : E (h + 8) mdX7_begin [.ref 15, .int (Int32.ofNat n)] M Q := by
  refine KX7_begin ?_
  unfold DX7_begin_0
  refine ⟨ok15 F, 1, rf15_0 F, ok1 F, fun M4 e4 M5 e5 => ?_⟩
  have hmin : ¬ Int32.ofNat 800 < Int32.ofNat n := by rw [ltn32 (by decide) (by omega)]; omega
  rw [ln1 F, if_neg hmin] at e4
  have F5 : Fix M5 := by rw [e5, e4]; exact F.i.i
  refine begin_loop (h := h) (M0 := wI M 15 2 (Int32.ofNat n)) hB (fun s N h1 h2 h3 h4 FN CN => ?_) (n + 1) 0 M5 (-1) (by omega) (by decide) (by decide) F5 ⟨hn, by rw [e5, e4]; simp [mNwI, mSwI, mKwI, mIwI, mJwI, mRwI, mLwI, mAIwI, mAJwI, mARwI, mNwJ, mSwJ, mKwJ, mIwJ, mJwJ, mRwJ, mLwJ, mAIwJ, mAJwJ, mARwJ, mNwR, mSwR, mKwR, mIwR, mJwR, mRwR, mLwR, mAIwR, mAJwR, mARwR, mNwAI, mSwAI, mKwAI, mIwAI, mJwAI, mRwAI, mLwAI, mAIwAI, mAJwAI, mARwAI, mNwAJ, mSwAJ, mKwAJ, mIwAJ, mJwAJ, mRwAJ, mLwAJ, mAIwAJ, mAJwAJ, mARwAJ, mNwAR, mSwAR, mKwAR, mIwAR, mJwAR, mRwAR, mLwAR, mAIwAR, mAJwAR, mARwAR, okkwI, okkwJ, okkwR, okkwAI, okkwAJ, okkwAR], fun i hi => by rw [e5, e4]; exact hm i hi, hz⟩ (by rw [e5, e4]; exact CFr.w3) (by rw [e5]; exact mI_own _ _ _ _) (fun j hj => absurd hj (Nat.not_lt_zero j)) (fun j hj => absurd hj (Nat.not_lt_zero j))
  have HH := H s N h1 h2 h3 h4 FN CN
  unfold DX7_begin_52
  refine ⟨ok15 FN, fun A a B bb C c D d => ?_⟩
  refine S_adv (by rw [d, c, bb, a]; exact FN.i.i.i.i) ?_ (fun _ => ⟨rfl, ?_⟩)
  · have : mI D 15 7 = 0 := by rw [d, c, bb, a]; simp [mNwI, mSwI, mKwI, mIwI, mJwI, mRwI, mLwI, mAIwI, mAJwI, mARwI, mNwJ, mSwJ, mKwJ, mIwJ, mJwJ, mRwJ, mLwJ, mAIwJ, mAJwJ, mARwJ, mNwR, mSwR, mKwR, mIwR, mJwR, mRwR, mLwR, mAIwR, mAJwR, mARwR, mNwAI, mSwAI, mKwAI, mIwAI, mJwAI, mRwAI, mLwAI, mAIwAI, mAJwAI, mARwAI, mNwAJ, mSwAJ, mKwAJ, mIwAJ, mJwAJ, mRwAJ, mLwAJ, mAIwAJ, mAJwAJ, mARwAJ, mNwAR, mSwAR, mKwAR, mIwAR, mJwAR, mRwAR, mLwAR, mAIwAR, mAJwAR, mARwAR, okkwI, okkwJ, okkwR, okkwAI, okkwAJ, okkwAR]
    rw [this]; decide
  · rw [d, c, bb, a]
    exact HH
end
section
/-! the reference's tokens -/
def w27 (b : Nat → Int32) (f : Nat) : Nat → Nat → Int64 → Int64
  | 0, _, x => x
  | k + 1, a, x => if isL (b a) = true then w27 b f k (a + 1) (if a - f < 10 then ((27 * x) + ((b a).toInt64)) - 96 else x) else x
def n10 (b : Nat → Int32) (f : Nat) : Nat → Nat → Int64 → Int64
  | 0, _, x => x
  | k + 1, a, x => if isF (b a) = true then n10 b f k (a + 1) (if a - f < 6 then ((10 * x) + ((b a).toInt64)) - 48 else x) else x
theorem sub32 {a c : Nat} (h : c ≤ a) (ha : a < 2147483648) : Int32.ofNat a - Int32.ofNat c = Int32.ofNat (a - c) := by
  refine Int32.toInt_inj.mp ?_
  rw [j_sub, ti32 ha, ti32 (by omega), ti32 (by omega)]
  omega
theorem TR.ai {M : Mem} {n c i : Nat} {b : Nat → Int32} {v : Int32} (h : TR M n b) (hc : c ≠ 30) : TR (wAI M c i v) n b := ⟨h.1, h.2.1, fun j hj => by rw [mAI_wAI, if_neg (fun z => hc z.1.symm)]; exact h.2.2.1 j hj, h.2.2.2⟩
theorem r_word {h n i f : Nat} {b : Nat → Int32} {Q : Option Value → Mem → Prop} {M : Mem} {y : Int32} (F : Fix M) (hT : TR M n b) : ∀ (k a : Nat) (x : Int64), a + k = n → f ≤ a →
    DX11_cut_172 (h + 1) 29 (Int32.ofNat i) (Int32.ofNat (runF isL b k a)) y (w27 b f k a x) 31 (Int32.ofNat i) (if runF isL b k a - f ≤ 10 then 1 else 4) M Q →
    T (h + 2) mdX11_cut 103 [(0, .ref 29), (1, .int (Int32.ofNat i)), (2, .int (Int32.ofNat a)), (3, .int y), (4, .int (Int32.ofNat f)), (7, .long x)] [] M Q := by
  intro k
  have hn := hT.1
  induction k with
  | zero =>
    intro a x hk hf H
    refine VX11_cut_103 ?_
    unfold DX11_cut_103
    have hb : b a = 0 := hT.2.2.2 a (by omega)
    refine ⟨ok29 F, R_byteAt F hT (by omega) (fun _ => ⟨_, rfl, R_isL (fun _ => ⟨_, rfl, fun _ => ⟨31, rf29_2 F, ?_, ?_⟩, fun hc => ?_⟩)⟩)⟩
    · rw [sub32 hf (by omega)]
      intro hc
      have hc : a - f ≤ 10 := (le32 (b := 10) (by omega) (by decide)).mp hc
      unfold runF w27 at H
      rw [if_pos hc] at H
      exact H
    · rw [sub32 hf (by omega)]
      intro hc
      have hc : ¬ a - f ≤ 10 := fun z => hc ((le32 (b := 10) (by omega) (by decide)).mpr z)
      unfold runF w27 at H
      rw [if_neg hc] at H
      exact H
    · rw [hb] at hc
      exact absurd (by decide) hc
  | succ k ih =>
    intro a x hk hf H
    refine VX11_cut_103 ?_
    unfold DX11_cut_103 DX11_cut_145
    rw [sub32 hf (by omega), succ32]
    refine ⟨ok29 F, R_byteAt F hT (by omega) (fun _ => ⟨_, rfl, R_isL (fun _ => ⟨_, rfl, fun h0 => ⟨31, rf29_2 F, ?_, ?_⟩, fun h0 => ⟨?_, ?_⟩⟩)⟩)⟩
    · intro hc
      have h0 : ¬ isL (b a) = true := by intro z; rw [if_pos z] at h0; exact absurd h0 (by decide)
      have hc : a - f ≤ 10 := (le32 (b := 10) (by omega) (by decide)).mp hc
      unfold runF w27 at H
      rw [if_neg h0, if_neg h0, if_pos hc] at H
      exact H
    · intro hc
      have h0 : ¬ isL (b a) = true := by intro z; rw [if_pos z] at h0; exact absurd h0 (by decide)
      have hc : ¬ a - f ≤ 10 := fun z => hc ((le32 (b := 10) (by omega) (by decide)).mpr z)
      unfold runF w27 at H
      rw [if_neg h0, if_neg h0, if_neg hc] at H
      exact H
    · intro hc
      have h0 : isL (b a) = true := by
        cases e : isL (b a) with
        | true => rfl
        | false => rw [e] at h0; exact absurd rfl h0
      have hc : 10 ≤ a - f := (le32 (a := 10) (by decide) (by omega)).mp hc
      unfold runF w27 at H
      rw [if_pos h0, if_pos h0, if_neg (by omega)] at H
      exact ih (a + 1) x (by omega) (by omega) H
    · intro hc
      have h0 : isL (b a) = true := by
        cases e : isL (b a) with
        | true => rfl
        | false => rw [e] at h0; exact absurd rfl h0
      have hc : ¬ 10 ≤ a - f := fun z => hc ((le32 (a := 10) (by decide) (by omega)).mpr z)
      refine R_byteAt F hT (by omega) (fun _ => ⟨_, rfl, ?_⟩)
      have hlt : a - f < 10 := by omega
      unfold runF w27 at H
      rw [if_pos h0, if_pos h0, if_pos hlt] at H
      exact ih (a + 1) _ (by omega) (by omega) H
theorem r_num {h n i f : Nat} {b : Nat → Int32} {Q : Option Value → Mem → Prop} {M : Mem} {y : Int32} (F : Fix M) (hT : TR M n b) : ∀ (k a : Nat) (x : Int64), a + k = n → f ≤ a →
    DX11_cut_253 (h + 1) 29 (Int32.ofNat i) (Int32.ofNat (runF isF b k a)) y (n10 b f k a x) 31 (Int32.ofNat i) (if runF isF b k a - f ≤ 6 then 2 else 4) M Q →
    T (h + 2) mdX11_cut 184 [(0, .ref 29), (1, .int (Int32.ofNat i)), (2, .int (Int32.ofNat a)), (3, .int y), (4, .int (Int32.ofNat f)), (7, .long x)] [] M Q := by
  intro k
  have hn := hT.1
  induction k with
  | zero =>
    intro a x hk hf H
    refine VX11_cut_184 ?_
    unfold DX11_cut_184
    have hb : b a = 0 := hT.2.2.2 a (by omega)
    refine ⟨ok29 F, R_byteAt F hT (by omega) (fun _ => ⟨_, rfl, R_isF (fun _ => ⟨_, rfl, fun _ => ⟨31, rf29_2 F, ?_, ?_⟩, fun hc => ?_⟩)⟩)⟩
    · rw [sub32 hf (by omega)]
      intro hc
      have hc : a - f ≤ 6 := (le32 (b := 6) (by omega) (by decide)).mp hc
      unfold runF n10 at H
      rw [if_pos hc] at H
      exact H
    · rw [sub32 hf (by omega)]
      intro hc
      have hc : ¬ a - f ≤ 6 := fun z => hc ((le32 (b := 6) (by omega) (by decide)).mpr z)
      unfold runF n10 at H
      rw [if_neg hc] at H
      exact H
    · rw [hb] at hc
      exact absurd (by decide) hc
  | succ k ih =>
    intro a x hk hf H
    refine VX11_cut_184 ?_
    unfold DX11_cut_184 DX11_cut_226
    rw [sub32 hf (by omega), succ32]
    refine ⟨ok29 F, R_byteAt F hT (by omega) (fun _ => ⟨_, rfl, R_isF (fun _ => ⟨_, rfl, fun h0 => ⟨31, rf29_2 F, ?_, ?_⟩, fun h0 => ⟨?_, ?_⟩⟩)⟩)⟩
    · intro hc
      have h0 : ¬ isF (b a) = true := by intro z; rw [if_pos z] at h0; exact absurd h0 (by decide)
      have hc : a - f ≤ 6 := (le32 (b := 6) (by omega) (by decide)).mp hc
      unfold runF n10 at H
      rw [if_neg h0, if_neg h0, if_pos hc] at H
      exact H
    · intro hc
      have h0 : ¬ isF (b a) = true := by intro z; rw [if_pos z] at h0; exact absurd h0 (by decide)
      have hc : ¬ a - f ≤ 6 := fun z => hc ((le32 (b := 6) (by omega) (by decide)).mpr z)
      unfold runF n10 at H
      rw [if_neg h0, if_neg h0, if_neg hc] at H
      exact H
    · intro hc
      have h0 : isF (b a) = true := by
        cases e : isF (b a) with
        | true => rfl
        | false => rw [e] at h0; exact absurd rfl h0
      have hc : 6 ≤ a - f := (le32 (a := 6) (by decide) (by omega)).mp hc
      unfold runF n10 at H
      rw [if_pos h0, if_pos h0, if_neg (by omega)] at H
      exact ih (a + 1) x (by omega) (by omega) H
    · intro hc
      have h0 : isF (b a) = true := by
        cases e : isF (b a) with
        | true => rfl
        | false => rw [e] at h0; exact absurd rfl h0
      have hc : ¬ 6 ≤ a - f := fun z => hc ((le32 (a := 6) (by decide) (by omega)).mpr z)
      refine R_byteAt F hT (by omega) (fun _ => ⟨_, rfl, ?_⟩)
      have hlt : a - f < 6 := by omega
      unfold runF n10 at H
      rw [if_pos h0, if_pos h0, if_pos hlt] at H
      exact ih (a + 1) _ (by omega) (by omega) H
def isSg (c : Int32) : Bool := c == 59 || c == 44 || c == 58 || c == 40 || c == 41 || c == 91 || c == 93 || c == 63 || c == 43 || c == 45 || c == 42 || c == 47 || c == 37 || c == 61 || c == 60 || c == 62
theorem R_isSign {h : Nat} {c : Int32} {M : Mem} {Q : Option Value → Mem → Prop} (H : Q (some (.int (if isSg c = true then 1 else 0))) M) : E (h + 1) mdX11_isSign [.int c] M Q := by
  refine KX11_isSign ?_
  unfold DX11_isSign_0 DX11_isSign_96 DX11_isSign_101
  have hz : ¬ c = 59 → ¬ c = 44 → ¬ c = 58 → ¬ c = 40 → ¬ c = 41 → ¬ c = 91 → ¬ c = 93 → ¬ c = 63 → ¬ c = 43 → ¬ c = 45 → ¬ c = 42 → ¬ c = 47 → ¬ c = 37 → ¬ c = 61 → ¬ c = 60 → ¬ c = 62 → Q (some (.int 0)) M := by
    intro z0 z1 z2 z3 z4 z5 z6 z7 z8 z9 z10 z11 z12 z13 z14 z15
    have e : isSg c = false := by simp [isSg, z0, z1, z2, z3, z4, z5, z6, z7, z8, z9, z10, z11, z12, z13, z14, z15]
    rw [e] at H
    exact H
  exact ⟨fun z => ⟨Or.inr rfl, by subst z; exact H⟩, fun z0 => ⟨fun z => ⟨Or.inr rfl, by subst z; exact H⟩, fun z1 => ⟨fun z => ⟨Or.inr rfl, by subst z; exact H⟩, fun z2 => ⟨fun z => ⟨Or.inr rfl, by subst z; exact H⟩, fun z3 => ⟨fun z => ⟨Or.inr rfl, by subst z; exact H⟩, fun z4 => ⟨fun z => ⟨Or.inr rfl, by subst z; exact H⟩, fun z5 => ⟨fun z => ⟨Or.inr rfl, by subst z; exact H⟩, fun z6 => ⟨fun z => ⟨Or.inr rfl, by subst z; exact H⟩, fun z7 => ⟨fun z => ⟨Or.inr rfl, by subst z; exact H⟩, fun z8 => ⟨fun z => ⟨Or.inr rfl, by subst z; exact H⟩, fun z9 => ⟨fun z => ⟨Or.inr rfl, by subst z; exact H⟩, fun z10 => ⟨fun z => ⟨Or.inr rfl, by subst z; exact H⟩, fun z11 => ⟨fun z => ⟨Or.inr rfl, by subst z; exact H⟩, fun z12 => ⟨fun z => ⟨Or.inr rfl, by subst z; exact H⟩, fun z13 => ⟨fun z => ⟨Or.inr rfl, by subst z; exact H⟩, fun z14 => ⟨fun z15 => ⟨Or.inl rfl, hz z0 z1 z2 z3 z4 z5 z6 z7 z8 z9 z10 z11 z12 z13 z14 z15⟩, fun z => ⟨Or.inr rfl, by subst z; exact H⟩⟩⟩⟩⟩⟩⟩⟩⟩⟩⟩⟩⟩⟩⟩⟩⟩
def tw (c d : Int32) : Bool := decide (c = 124 ∧ d = 124) || decide ((c = 58 ∨ c = 33 ∨ c = 60 ∨ c = 62) ∧ d = 61)
def sgS (c d : Int32) : Int32 := if tw c d = true ∨ isSg c = true then 3 else 4
def sgV (c d : Int32) : Int64 := if tw c d = true then (256 * c.toInt64) + d.toInt64 else c.toInt64
theorem r_sgn2 {h i a : Nat} {c d y s : Int32} {M : Mem} {Q : Option Value → Mem → Prop} (F : Fix M) (hi : i < 802) (htw : tw c d = true) (hs : s = 3) (H : DX11_cut_374 h 29 (Int32.ofNat i) (Int32.ofNat (a + 2)) y (sgV c d) (wAI M 31 i (sgS c d)) Q) : DX11_cut_336 h 29 (Int32.ofNat i) (Int32.ofNat a) y c d 1 31 (Int32.ofNat i) s M Q := by
  unfold DX11_cut_336 DX11_cut_359 DX11_cut_372
  rw [lt32 (by omega)]
  unfold sgV sgS at H
  rw [if_pos htw, if_pos (Or.inl htw)] at H
  refine ⟨ok31 F, by rw [ln31 F]; exact vp_of hi (by decide), fun M2 e2 => ⟨fun hc => absurd hc (by decide), fun _ => ⟨fun hc => absurd hc (by decide), fun _ => ?_⟩⟩⟩
  rw [e2, hs]
  have e : Int32.ofNat a + 2 = Int32.ofNat (a + 2) := add32 (c := 2)
  rw [e]
  exact H
theorem r_sgn1 {h i a : Nat} {c d y s : Int32} {M : Mem} {Q : Option Value → Mem → Prop} (F : Fix M) (hi : i < 802) (htw : ¬ tw c d = true) (hs : s = if isSg c = true then 3 else 4) (H : DX11_cut_374 h 29 (Int32.ofNat i) (Int32.ofNat (a + 1)) y (sgV c d) (wAI M 31 i (sgS c d)) Q) : DX11_cut_336 h 29 (Int32.ofNat i) (Int32.ofNat a) y c d 0 31 (Int32.ofNat i) s M Q := by
  unfold DX11_cut_336 DX11_cut_359 DX11_cut_372
  rw [lt32 (by omega)]
  unfold sgV sgS at H
  rw [if_neg htw] at H
  refine ⟨ok31 F, by rw [ln31 F]; exact vp_of hi (by decide), fun M2 e2 => ⟨fun _ => ⟨fun _ => ?_, fun hc => absurd rfl hc⟩, fun hc => absurd rfl hc⟩⟩
  rw [e2, hs, succ32]
  by_cases hg : isSg c = true
  · rw [if_pos hg]
    rw [if_pos (Or.inr hg)] at H
    exact H
  · rw [if_neg hg]
    rw [if_neg (by rintro (z | z); exact htw z; exact hg z)] at H
    exact H
theorem r_sgn {h i a : Nat} {c d y : Int32} {M : Mem} {Q : Option Value → Mem → Prop} (F : Fix M) (hi : i < 802) (H : DX11_cut_374 (h + 1) 29 (Int32.ofNat i) (Int32.ofNat (a + (if tw c d = true then 2 else 1))) y (sgV c d) (wAI M 31 i (sgS c d)) Q) :
    (¬ c = 124 → DX11_cut_271 (h + 1) 29 (Int32.ofNat i) (Int32.ofNat a) y c d M Q) ∧ (c = 124 → (d = 124 → DX11_cut_306 (h + 1) 29 (Int32.ofNat i) (Int32.ofNat a) y c d M Q) ∧ (¬ d = 124 → DX11_cut_271 (h + 1) 29 (Int32.ofNat i) (Int32.ofNat a) y c d M Q)) := by
  have two : tw c d = true → DX11_cut_306 (h + 1) 29 (Int32.ofNat i) (Int32.ofNat a) y c d M Q := by
    intro htw
    rw [if_pos htw] at H
    unfold DX11_cut_306 DX11_cut_311 DX11_cut_331
    exact ⟨ok29 F, 31, rf29_2 F, fun _ => r_sgn2 F hi htw rfl H, fun hc => absurd hc (by decide)⟩
  have one : ¬ tw c d = true → DX11_cut_310 (h + 1) 29 (Int32.ofNat i) (Int32.ofNat a) y c d M Q := by
    intro htw
    rw [if_neg htw] at H
    unfold DX11_cut_310 DX11_cut_311 DX11_cut_331
    refine ⟨ok29 F, 31, rf29_2 F, fun hc => absurd rfl hc, fun _ => R_isSign (fun _ => ⟨_, rfl, fun h0 => ?_, fun h0 => ?_⟩)⟩
    · have h0 : ¬ isSg c = true := by intro z; rw [if_pos z] at h0; exact absurd h0 (by decide)
      exact r_sgn1 F hi htw (by rw [if_neg h0]) H
    · have h0 : isSg c = true := by
        cases e : isSg c with
        | true => rfl
        | false => rw [e] at h0; exact absurd rfl h0
      exact r_sgn1 F hi htw (by rw [if_pos h0]) H
  have twd : ¬ (c = 124 ∧ d = 124) → DX11_cut_271 (h + 1) 29 (Int32.ofNat i) (Int32.ofNat a) y c d M Q := by
    intro hn
    have e2 : tw c d = true ↔ (c = 58 ∨ c = 33 ∨ c = 60 ∨ c = 62) ∧ d = 61 := by unfold tw; simp [hn]
    unfold DX11_cut_271 DX11_cut_299
    have g : (c = 58 ∨ c = 33 ∨ c = 60 ∨ c = 62) → (¬ d = 61 → DX11_cut_310 (h + 1) 29 (Int32.ofNat i) (Int32.ofNat a) y c d M Q) ∧ (d = 61 → DX11_cut_306 (h + 1) 29 (Int32.ofNat i) (Int32.ofNat a) y c d M Q) := fun q => ⟨fun z => one (fun w => z (e2.mp w).2), fun z => two (e2.mpr ⟨q, z⟩)⟩
    refine ⟨fun q => g (Or.inl q), fun q1 => ⟨fun q => g (Or.inr (Or.inl q)), fun q2 => ⟨fun q => g (Or.inr (Or.inr (Or.inl q))), fun q3 => ⟨fun q4 => one (fun w => ?_), fun q => g (Or.inr (Or.inr (Or.inr q)))⟩⟩⟩⟩
    rcases (e2.mp w).1 with r | r | r | r
    · exact q1 r
    · exact q2 r
    · exact q3 r
    · exact q4 r
  refine ⟨fun q => twd (fun z => q z.1), fun q => ⟨fun r => two (by unfold tw; simp [q, r]), fun r => twd (fun z => r z.2)⟩⟩
def rS (b : Nat → Int32) (n p : Nat) : Int32 := if n ≤ p then 0 else if isL (b p) = true then (if rnE isL b n p - p ≤ 10 then 1 else 4) else if isF (b p) = true then (if rnE isF b n p - p ≤ 6 then 2 else 4) else sgS (b p) (b (p + 1))
def rV (b : Nat → Int32) (n p : Nat) : Int64 := if n ≤ p then 0 else if isL (b p) = true then w27 b p (n - p) p 0 else if isF (b p) = true then n10 b p (n - p) p 0 else sgV (b p) (b (p + 1))
def rE (b : Nat → Int32) (n p : Nat) : Nat := if n ≤ p then p else if isL (b p) = true then rnE isL b n p else if isF (b p) = true then rnE isF b n p else p + (if tw (b p) (b (p + 1)) = true then 2 else 1)
def rcF (M : Mem) (i p n : Nat) (b : Nat → Int32) : Mem := wAJ (wAI (wAI M 32 i (Int32.ofNat p)) 31 i (rS b n p)) 33 i (rV b n p)
theorem r_end {h i e : Nat} {v : Int64} {s : Int32} {M M1 : Mem} {Q : Option Value → Mem → Prop} (F : Fix M) (hi : i < 802) (hM1 : M1 = wAI M 31 i s) (hs : s ≠ 0) (H : T (h + 1) mdX11_cut 6 [(0, .ref 29), (1, .int (Int32.ofNat (i + 1))), (2, .int (Int32.ofNat e)), (3, .int (if s = 4 then 0 else 1))] [] (wAJ M1 33 i v) Q) : DX11_cut_374 h 29 (Int32.ofNat i) (Int32.ofNat e) 1 v M1 Q := by
  unfold DX11_cut_374 DX11_cut_400 DX11_cut_401
  rw [lt32 (by omega), succ32]
  have F1 : Fix M1 := by rw [hM1]; exact F.ai
  refine ⟨ok29 F1, 33, rf29_4 F1, ok33 F1, by rw [ln33 F1]; exact vp_of hi (by decide), fun M4 e4 => ⟨fun hc => absurd hc (by decide), fun _ => ?_⟩⟩
  have F4 : Fix M4 := by rw [e4]; exact F1.aj (by decide)
  rw [← e4] at H
  have e31 : mAI M4 31 i = s := by rw [e4, hM1]; simp [mNwI, mSwI, mKwI, mIwI, mJwI, mRwI, mLwI, mAIwI, mAJwI, mARwI, mNwJ, mSwJ, mKwJ, mIwJ, mJwJ, mRwJ, mLwJ, mAIwJ, mAJwJ, mARwJ, mNwR, mSwR, mKwR, mIwR, mJwR, mRwR, mLwR, mAIwR, mAJwR, mARwR, mNwAI, mSwAI, mKwAI, mIwAI, mJwAI, mRwAI, mLwAI, mAIwAI, mAJwAI, mARwAI, mNwAJ, mSwAJ, mKwAJ, mIwAJ, mJwAJ, mRwAJ, mLwAJ, mAIwAJ, mAJwAJ, mARwAJ, mNwAR, mSwAR, mKwAR, mIwAR, mJwAR, mRwAR, mLwAR, mAIwAR, mAJwAR, mARwAR, okkwI, okkwJ, okkwR, okkwAI, okkwAJ, okkwAR]
  refine ⟨31, rf29_2 F4, ok31 F4, by rw [ln31 F4]; exact vp_of hi (by decide), fun hc => ?_, fun hc => ?_⟩
  · rw [e31] at hc
    rw [if_pos hc] at H
    exact H
  · rw [e31] at hc
    rw [if_neg hc] at H
    exact H
end
section
/-! the reference's tokens, one behind another -/
theorem TR.aj {M : Mem} {n c i : Nat} {b : Nat → Int32} {v : Int64} (h : TR M n b) : TR (wAJ M c i v) n b := h
theorem r_at {h n i p : Nat} {b : Nat → Int32} {M : Mem} {Q : Option Value → Mem → Prop} (F : Fix M) (hT : TR M n b) (hi : i < 802) (hp : p ≤ n)
    (H : T (h + 3) mdX11_cut 6 [(0, .ref 29), (1, .int (Int32.ofNat (i + 1))), (2, .int (Int32.ofNat (rE b n p))), (3, .int (if rS b n p = 0 ∨ rS b n p = 4 then 0 else 1))] [] (rcF M i p n b) Q) (hb1 : ¬ b p = 32) (hb2 : ¬ b p = 10) : T (h + 3) mdX11_cut 10 [(0, .ref 29), (1, .int (Int32.ofNat i)), (2, .int (Int32.ofNat p)), (3, .int 1)] [] M Q := by
  have hn := hT.1
  refine VX11_cut_10 ?_
  unfold DX11_cut_10
  rw [succ32, lt32 (n := i) (by omega)]
  refine ⟨ok29 F, R_byteAt F hT (by omega) (fun _ => ⟨_, rfl, fun hc => absurd hc hb1, fun _ => R_byteAt F hT (by omega) (fun _ => ⟨_, rfl, fun _ => R_byteAt F hT (by omega) (fun _ => ⟨_, rfl, R_byteAt F hT (by omega) (fun _ => ⟨_, rfl, 32, rf29_3 F, ok32 F, by rw [ln32 F]; exact vp_of hi (by decide), fun A a => ?_⟩)⟩), fun hc => absurd hc hb2⟩)⟩)⟩
  have FA : Fix A := by rw [a]; exact F.ai
  have TA : TR A n b := by rw [a]; exact hT.ai (by decide)
  rw [TA.2.1, ltn32 (by omega) (by omega)]
  unfold rcF at H
  rw [← a] at H
  refine ⟨fun hlt => ?_, fun hge => ?_⟩
  · have hnp : ¬ n ≤ p := by omega
    refine R_isL (fun _ => ⟨_, rfl, fun h0 => ?_, fun h0 => ?_⟩)
    · have h0 : ¬ isL (b p) = true := by intro z; rw [if_pos z] at h0; exact absurd h0 (by decide)
      refine R_isF (fun _ => ⟨_, rfl, fun h1 => ?_, fun h1 => ?_⟩)
      · have h1 : ¬ isF (b p) = true := by intro z; rw [if_pos z] at h1; exact absurd h1 (by decide)
        have eS : rS b n p = sgS (b p) (b (p + 1)) := by unfold rS; rw [if_neg hnp, if_neg h0, if_neg h1]
        have eV : rV b n p = sgV (b p) (b (p + 1)) := by unfold rV; rw [if_neg hnp, if_neg h0, if_neg h1]
        have eE : rE b n p = p + (if tw (b p) (b (p + 1)) = true then 2 else 1) := by unfold rE; rw [if_neg hnp, if_neg h0, if_neg h1]
        rw [eS, eV, eE] at H
        have n0 : sgS (b p) (b (p + 1)) ≠ 0 := by unfold sgS; split <;> decide
        refine r_sgn FA hi (r_end (M := A) FA hi rfl n0 ?_)
        have e4 : (if sgS (b p) (b (p + 1)) = 0 ∨ sgS (b p) (b (p + 1)) = 4 then (0 : Int32) else 1) = if sgS (b p) (b (p + 1)) = 4 then 0 else 1 := by simp [n0]
        rw [e4] at H
        exact H
      · have h1 : isF (b p) = true := by
          cases e : isF (b p) with
          | true => rfl
          | false => rw [e] at h1; exact absurd rfl h1
        have eS : rS b n p = (if rnE isF b n p - p ≤ 6 then 2 else 4) := by unfold rS; rw [if_neg hnp, if_neg h0, if_pos h1]
        have eV : rV b n p = n10 b p (n - p) p 0 := by unfold rV; rw [if_neg hnp, if_neg h0, if_pos h1]
        have eE : rE b n p = rnE isF b n p := by unfold rE; rw [if_neg hnp, if_neg h0, if_pos h1]
        rw [eS, eV, eE] at H
        refine r_num FA TA (n - p) p 0 (by omega) (Nat.le_refl _) ?_
        have n0 : (if rnE isF b n p - p ≤ 6 then (2 : Int32) else 4) ≠ 0 := by split <;> decide
        unfold DX11_cut_253
        rw [lt32 (by omega)]
        refine ⟨ok31 FA, by rw [ln31 FA]; exact vp_of hi (by decide), fun M2 e2 => ?_⟩
        refine r_end (M := A) FA hi e2 n0 ?_
        have e4 : (if (if rnE isF b n p - p ≤ 6 then (2 : Int32) else 4) = 0 ∨ (if rnE isF b n p - p ≤ 6 then (2 : Int32) else 4) = 4 then (0 : Int32) else 1) = if (if rnE isF b n p - p ≤ 6 then (2 : Int32) else 4) = 4 then 0 else 1 := by simp only [n0, false_or]
        rw [e4] at H
        rw [e2]
        exact H
    · have h0 : isL (b p) = true := by
        cases e : isL (b p) with
        | true => rfl
        | false => rw [e] at h0; exact absurd rfl h0
      have eS : rS b n p = (if rnE isL b n p - p ≤ 10 then 1 else 4) := by unfold rS; rw [if_neg hnp, if_pos h0]
      have eV : rV b n p = w27 b p (n - p) p 0 := by unfold rV; rw [if_neg hnp, if_pos h0]
      have eE : rE b n p = rnE isL b n p := by unfold rE; rw [if_neg hnp, if_pos h0]
      rw [eS, eV, eE] at H
      refine r_word FA TA (n - p) p 0 (by omega) (Nat.le_refl _) ?_
      have n0 : (if rnE isL b n p - p ≤ 10 then (1 : Int32) else 4) ≠ 0 := by split <;> decide
      unfold DX11_cut_172
      rw [lt32 (by omega)]
      refine ⟨ok31 FA, by rw [ln31 FA]; exact vp_of hi (by decide), fun M2 e2 => ?_⟩
      refine r_end (M := A) FA hi e2 n0 ?_
      have e4 : (if (if rnE isL b n p - p ≤ 10 then (1 : Int32) else 4) = 0 ∨ (if rnE isL b n p - p ≤ 10 then (1 : Int32) else 4) = 4 then (0 : Int32) else 1) = if (if rnE isL b n p - p ≤ 10 then (1 : Int32) else 4) = 4 then 0 else 1 := by simp only [n0, false_or]
      rw [e4] at H
      rw [e2]
      exact H
  · have hnp : n ≤ p := by omega
    have hpn : p = n := by omega
    have eS : rS b n p = 0 := by unfold rS; rw [if_pos hnp]
    have eV : rV b n p = 0 := by unfold rV; rw [if_pos hnp]
    have eE : rE b n p = p := by unfold rE; rw [if_pos hnp]
    rw [eS, eV, eE, if_pos (Or.inl rfl)] at H
    refine ⟨31, rf29_2 FA, ok31 FA, by rw [ln31 FA]; exact vp_of hi (by decide), fun B bb => ?_⟩
    have FB : Fix B := by rw [bb]; exact FA.ai
    have iB : mI B 29 1 = Int32.ofNat p := by rw [bb, mI_wAI, TA.2.1, hpn]
    refine ⟨32, rf29_3 FB, ok32 FB, by rw [ln32 FB]; exact vp_of hi (by decide), fun C c => ?_⟩
    have eC : C = B := by rw [c, iB]; exact wAI_same (by rw [bb, a]; simp [mNwI, mSwI, mKwI, mIwI, mJwI, mRwI, mLwI, mAIwI, mAJwI, mARwI, mNwJ, mSwJ, mKwJ, mIwJ, mJwJ, mRwJ, mLwJ, mAIwJ, mAJwJ, mARwJ, mNwR, mSwR, mKwR, mIwR, mJwR, mRwR, mLwR, mAIwR, mAJwR, mARwR, mNwAI, mSwAI, mKwAI, mIwAI, mJwAI, mRwAI, mLwAI, mAIwAI, mAJwAI, mARwAI, mNwAJ, mSwAJ, mKwAJ, mIwAJ, mJwAJ, mRwAJ, mLwAJ, mAIwAJ, mAJwAJ, mARwAJ, mNwAR, mSwAR, mKwAR, mIwAR, mJwAR, mRwAR, mLwAR, mAIwAR, mAJwAR, mARwAR, okkwI, okkwJ, okkwR, okkwAI, okkwAJ, okkwAR])
    rw [eC]
    unfold DX11_cut_374 DX11_cut_400 DX11_cut_401
    rw [lt32 (by omega), succ32]
    refine ⟨ok29 FB, 33, rf29_4 FB, ok33 FB, by rw [ln33 FB]; exact vp_of hi (by decide), fun D d => ⟨fun _ => ?_, fun hc => absurd rfl hc⟩⟩
    rw [d, bb]
    exact H
theorem r_blank {h n i : Nat} {b : Nat → Int32} {M : Mem} {Q : Option Value → Mem → Prop} (F : Fix M) (hT : TR M n b) (hi : i < 802) : ∀ (k a : Nat), a + k = n →
    T (h + 3) mdX11_cut 6 [(0, .ref 29), (1, .int (Int32.ofNat (i + 1))), (2, .int (Int32.ofNat (rE b n (runF isB b k a)))), (3, .int (if rS b n (runF isB b k a) = 0 ∨ rS b n (runF isB b k a) = 4 then 0 else 1))] [] (rcF M i (runF isB b k a) n b) Q → T (h + 3) mdX11_cut 10 [(0, .ref 29), (1, .int (Int32.ofNat i)), (2, .int (Int32.ofNat a)), (3, .int 1)] [] M Q := by
  intro k
  have hn := hT.1
  induction k with
  | zero =>
    intro a hk H
    have hb : b a = 0 := hT.2.2.2 a (by omega)
    unfold runF at H
    exact r_at F hT hi (by omega) H (by rw [hb]; decide) (by rw [hb]; decide)
  | succ k ih =>
    intro a hk H
    unfold runF at H
    by_cases hb : isB (b a) = true
    · rw [if_pos hb] at H
      have hi2 := ih (a + 1) (by omega) H
      refine VX11_cut_10 ?_
      unfold DX11_cut_10 DX11_cut_30
      rw [succ32]
      refine ⟨ok29 F, R_byteAt F hT (by omega) (fun _ => ⟨_, rfl, fun _ => hi2, fun hc => R_byteAt F hT (by omega) (fun _ => ⟨_, rfl, fun hc2 => ?_, fun _ => hi2⟩)⟩)⟩
      rcases isB_or.mp hb with q | q
      · exact absurd q hc
      · exact absurd q hc2
    · rw [if_neg hb] at H
      exact r_at F hT hi (by omega) H (fun z => hb (isB_or.mpr (Or.inl z))) (fun z => hb (isB_or.mpr (Or.inr z)))
/-! both go on at the same place, and stop at the same token -/
theorem sg_fin : ∀ k : Fin 256, (¬ idxF (Int32.ofNat k).toInt8.toInt32 12 0 < 0 → Int32.ofNat k ≠ 33 ∧ Int32.ofNat k ≠ 58 ∧ Int32.ofNat k ≠ 60 ∧ Int32.ofNat k ≠ 62 ∧ Int32.ofNat k ≠ 124 ∧ Int32.ofNat k ≠ 61 ∧ isSg (Int32.ofNat k) = true ∧ 13 + idxF (Int32.ofNat k).toInt8.toInt32 12 0 ≠ 0 ∧ 13 + idxF (Int32.ofNat k).toInt8.toInt32 12 0 ≠ 1) ∧ (idxF (Int32.ofNat k).toInt8.toInt32 12 0 < 0 → isSg (Int32.ofNat k) = true → Int32.ofNat k = 58 ∨ Int32.ofNat k = 60 ∨ Int32.ofNat k = 61 ∨ Int32.ofNat k = 62) := by decide +kernel
theorem by_fin {c : Int32} (h0 : ¬ c < 0) (h1 : ¬ 255 < c) : ∃ k : Fin 256, c = Int32.ofNat k := by
  have q0 : ¬ c.toInt < 0 := fun z => h0 (Int32.lt_iff_toInt_lt.mpr z)
  have q1 : ¬ 255 < c.toInt := fun z => h1 (Int32.lt_iff_toInt_lt.mpr z)
  refine ⟨⟨c.toInt.toNat, by omega⟩, Int32.toInt_inj.mp ?_⟩
  show _ = (Int32.ofNat c.toInt.toNat).toInt
  rw [ti32 (by omega)]
  omega
theorem sg_rel {c d : Int32} (h0 : ¬ c < 0) (h1 : ¬ 255 < c) : (if tw c d = true then 2 else 1) = 1 + sgX c d ∧ (sgK c d = 0 ↔ sgS c d = 4) ∧ sgK c d ≠ 1 := by
  obtain ⟨k, rfl⟩ := by_fin h0 h1
  obtain ⟨f1, f2⟩ := sg_fin k
  generalize Int32.ofNat k = c at *
  have hw : tw c d = true ↔ (c = 124 ∧ d = 124) ∨ ((c = 58 ∨ c = 33 ∨ c = 60 ∨ c = 62) ∧ d = 61) := by unfold tw; simp
  by_cases hx : idxF c.toInt8.toInt32 12 0 < 0
  · have f2 := f2 hx
    unfold sgX sgK sgS
    simp only [hx, not_true_eq_false, if_false]
    by_cases c1 : c = 33
    · subst c1
      have e : isSg 33 = false := by decide
      by_cases hd : d = 61
      · subst hd; decide
      · have : ¬ tw 33 d = true := by rw [hw]; simp [hd]
        simp [this, hd, e]
    by_cases c2 : c = 58
    · subst c2
      have e : isSg 58 = true := by decide
      by_cases hd : d = 61
      · subst hd; decide
      · have : ¬ tw 58 d = true := by rw [hw]; simp [hd]
        simp [this, hd, e]
    by_cases c3 : c = 60
    · subst c3
      have e : isSg 60 = true := by decide
      by_cases hd : d = 61
      · subst hd; decide
      · have : ¬ tw 60 d = true := by rw [hw]; simp [hd]
        simp [this, hd, e]
    by_cases c4 : c = 61
    · subst c4
      have e : isSg 61 = true := by decide
      have : ¬ tw 61 d = true := by rw [hw]; simp
      simp [this, e]
    by_cases c5 : c = 62
    · subst c5
      have e : isSg 62 = true := by decide
      by_cases hd : d = 61
      · subst hd; decide
      · have : ¬ tw 62 d = true := by rw [hw]; simp [hd]
        simp [this, hd, e]
    by_cases c6 : c = 124
    · subst c6
      have e : isSg 124 = false := by decide
      by_cases hd : d = 124
      · subst hd; decide
      · have : ¬ tw 124 d = true := by rw [hw]; simp [hd]
        simp [this, hd, e]
    have e : ¬ isSg c = true := fun z => by
      rcases f2 z with q | q | q | q
      · exact c2 q
      · exact c3 q
      · exact c4 q
      · exact c5 q
    have t : ¬ tw c d = true := by rw [hw]; simp [c1, c2, c3, c5, c6]
    simp [e, t, c1, c2, c3, c4, c5, c6]
  · obtain ⟨g1, g2, g3, g4, g5, g6, g7, g8, g9⟩ := f1 hx
    have t : ¬ tw c d = true := by rw [hw]; simp [g1, g2, g3, g4, g5]
    unfold sgX sgK sgS
    simp only [hx, not_false_eq_true, if_true, t, g7, or_true, if_false]
    refine ⟨rfl, ⟨fun z => absurd z g8, fun z => absurd z (by decide)⟩, g9⟩
theorem rE_eq {b : Nat → Int32} {n p : Nat} (hB : By b) : rE b n p = ckE b n p := by
  unfold rE ckE
  split
  · rfl
  · split
    · rfl
    · split
      · rfl
      · rw [(sg_rel (d := b (p + 1)) (hB p).1 (hB p).2).1]; omega
theorem key_ne : ∀ (k j : Nat) (c : Int64), j + k = 33 → keyK c k j ≠ 0 ∧ keyK c k j ≠ 1 := by
  intro k
  induction k with
  | zero => intro j c _; exact ⟨by unfold keyK; decide, by unfold keyK; decide⟩
  | succ k ih =>
    intro j c hj
    unfold keyK
    split
    · have e : (30 : Int32) + Int32.ofNat j = Int32.ofNat (30 + j) := add32 (a := 30)
      rw [e]
      refine ⟨fun z => ?_, fun z => ?_⟩
      · have := inj32 (b := 0) (by omega) (by decide) z
        omega
      · have := inj32 (b := 1) (by omega) (by decide) z
        omega
    · exact ih (j + 1) c (by omega)
theorem rS_rel {b : Nat → Int32} {n p : Nat} (hB : By b) : (rS b n p = 0 ↔ ckK b n p = 1) ∧ (rS b n p = 4 ↔ ckK b n p = 0) := by
  unfold rS ckK
  split
  · exact ⟨⟨fun _ => rfl, fun _ => rfl⟩, ⟨fun z => absurd z (by decide), fun z => absurd z (by decide)⟩⟩
  · split
    · split
      · have k := key_ne 33 0 (spellF b (n - p) p 0) rfl
        exact ⟨⟨fun z => absurd z (by decide), fun z => absurd z k.2⟩, ⟨fun z => absurd z (by decide), fun z => absurd z k.1⟩⟩
      · exact ⟨⟨fun z => absurd z (by decide), fun z => absurd z (by decide)⟩, ⟨fun _ => rfl, fun _ => rfl⟩⟩
    · split
      · split
        · exact ⟨⟨fun z => absurd z (by decide), fun z => absurd z (by decide)⟩, ⟨fun z => absurd z (by decide), fun z => absurd z (by decide)⟩⟩
        · exact ⟨⟨fun z => absurd z (by decide), fun z => absurd z (by decide)⟩, ⟨fun _ => rfl, fun _ => rfl⟩⟩
      · have g := sg_rel (d := b (p + 1)) (hB p).1 (hB p).2
        refine ⟨⟨fun z => absurd z ?_, fun z => absurd z g.2.2⟩, ⟨fun z => g.2.1.mpr z, fun z => g.2.1.mp z⟩⟩
        unfold sgS
        split <;> decide
/-- what the reference's row has of the i-th token -/
def RkR (M : Mem) (b : Nat → Int32) (n i : Nat) : Prop := mAI M 31 i = rS b n (tP b n i) ∧ mAI M 32 i = Int32.ofNat (tP b n i) ∧ mAJ M 33 i = rV b n (tP b n i)
def RFr (M M' : Mem) : Prop := mN M' = mN M ∧ mS M' = mS M ∧ mK M' = mK M ∧ mL M' = mL M ∧ mR M' = mR M ∧ mAR M' = mAR M ∧ mJ M' = mJ M ∧ mI M' = mI M ∧ (∀ a, a ≠ 31 → a ≠ 32 → mAI M' a = mAI M a) ∧ (∀ a, a ≠ 33 → mAJ M' a = mAJ M a)
theorem RFr.rf {M : Mem} : RFr M M := ⟨rfl, rfl, rfl, rfl, rfl, rfl, rfl, rfl, fun _ _ _ => rfl, fun _ _ => rfl⟩
theorem RFr.tr {M M1 M2 : Mem} (h : RFr M M1) (k : RFr M1 M2) : RFr M M2 := by
  obtain ⟨a1, a2, a3, a4, a5, a6, a7, a8, a9, aA⟩ := h
  obtain ⟨b1, b2, b3, b4, b5, b6, b7, b8, b9, bA⟩ := k
  exact ⟨b1.trans a1, b2.trans a2, b3.trans a3, b4.trans a4, b5.trans a5, b6.trans a6, b7.trans a7, b8.trans a8, fun a q r => (b9 a q r).trans (a9 a q r), fun a q => (bA a q).trans (aA a q)⟩
theorem rc_fr {M : Mem} {i p n : Nat} {b : Nat → Int32} : RFr M (rcF M i p n b) := ⟨rfl, rfl, rfl, rfl, rfl, rfl, rfl, rfl, fun a q r => by unfold rcF; rw [mAI_wAJ]; exact (up2_row q).trans (up2_row r), fun a q => up2_row q⟩
theorem RFr.tx {M M' : Mem} {n : Nat} {b : Nat → Int32} (h : RFr M M') (hT : TR M n b) : TR M' n b := ⟨hT.1, by rw [h.2.2.2.2.2.2.2.1]; exact hT.2.1, fun i hi => by rw [h.2.2.2.2.2.2.2.2.1 30 (by decide) (by decide)]; exact hT.2.2.1 i hi, hT.2.2.2⟩
theorem rcut_loop {h n : Nat} {b : Nat → Int32} {Q : Option Value → Mem → Prop} {M0 : Mem} (hB : By b)
    (H : ∀ (s : Nat) (M' : Mem), s ≤ n → (tK b n s = 0 ∨ tK b n s = 1) → (∀ j, j < s → tK b n j ≠ 0 ∧ tK b n j ≠ 1) → (∀ j, j ≤ s → RkR M' b n j) → Fix M' → RFr M0 M' → Q none M') :
    ∀ (m i : Nat) (M : Mem), i + m = n + 1 → Fix M → TR M n b → RFr M0 M → (∀ j, j < i → RkR M b n j) → (∀ j, j < i → tK b n j ≠ 0 ∧ tK b n j ≠ 1) →
    T (h + 3) mdX11_cut 6 [(0, .ref 29), (1, .int (Int32.ofNat i)), (2, .int (Int32.ofNat (tPos b n i))), (3, .int 1)] [] M Q := by
  intro m
  induction m with
  | zero =>
    intro i M hi F hT hC hR hK
    have h1 := tPos_ge hT.2.2.2 i (fun j hj => (hK j hj).2)
    have h2 := tPos_le hT.2.2.2 (b := b) (n := n) i
    omega
  | succ m ih =>
    intro i M hi F hT hC hR hK
    have hn := hT.1
    have h1 := tPos_ge hT.2.2.2 i (fun j hj => (hK j hj).2)
    have h2 := tPos_le hT.2.2.2 (b := b) (n := n) i
    refine VX11_cut_6 ?_
    unfold DX11_cut_6
    refine ⟨fun hc => absurd hc (by decide), fun _ => r_blank F hT (by omega) (n - tPos b n i) (tPos b n i) (by omega) ?_⟩
    have F1 : Fix (rcF M i (tP b n i) n b) := (F.ai.ai).aj (by decide)
    have C1 : RFr M0 (rcF M i (tP b n i) n b) := hC.tr rc_fr
    have T1 : TR (rcF M i (tP b n i) n b) n b := rc_fr.tx hT
    have R1 : ∀ j, j < i + 1 → RkR (rcF M i (tP b n i) n b) b n j := by
      intro j hj
      by_cases hji : j = i
      · subst hji
        refine ⟨?_, ?_, ?_⟩ <;> simp [rcF, mNwI, mSwI, mKwI, mIwI, mJwI, mRwI, mLwI, mAIwI, mAJwI, mARwI, mNwJ, mSwJ, mKwJ, mIwJ, mJwJ, mRwJ, mLwJ, mAIwJ, mAJwJ, mARwJ, mNwR, mSwR, mKwR, mIwR, mJwR, mRwR, mLwR, mAIwR, mAJwR, mARwR, mNwAI, mSwAI, mKwAI, mIwAI, mJwAI, mRwAI, mLwAI, mAIwAI, mAJwAI, mARwAI, mNwAJ, mSwAJ, mKwAJ, mIwAJ, mJwAJ, mRwAJ, mLwAJ, mAIwAJ, mAJwAJ, mARwAJ, mNwAR, mSwAR, mKwAR, mIwAR, mJwAR, mRwAR, mLwAR, mAIwAR, mAJwAR, mARwAR, okkwI, okkwJ, okkwR, okkwAI, okkwAJ, okkwAR]
      · obtain ⟨r1, r2, r3⟩ := hR j (by omega)
        refine ⟨?_, ?_, ?_⟩
        · simp [rcF, hji, r1, mNwI, mSwI, mKwI, mIwI, mJwI, mRwI, mLwI, mAIwI, mAJwI, mARwI, mNwJ, mSwJ, mKwJ, mIwJ, mJwJ, mRwJ, mLwJ, mAIwJ, mAJwJ, mARwJ, mNwR, mSwR, mKwR, mIwR, mJwR, mRwR, mLwR, mAIwR, mAJwR, mARwR, mNwAI, mSwAI, mKwAI, mIwAI, mJwAI, mRwAI, mLwAI, mAIwAI, mAJwAI, mARwAI, mNwAJ, mSwAJ, mKwAJ, mIwAJ, mJwAJ, mRwAJ, mLwAJ, mAIwAJ, mAJwAJ, mARwAJ, mNwAR, mSwAR, mKwAR, mIwAR, mJwAR, mRwAR, mLwAR, mAIwAR, mAJwAR, mARwAR, okkwI, okkwJ, okkwR, okkwAI, okkwAJ, okkwAR]
        · simp [rcF, hji, r2, mNwI, mSwI, mKwI, mIwI, mJwI, mRwI, mLwI, mAIwI, mAJwI, mARwI, mNwJ, mSwJ, mKwJ, mIwJ, mJwJ, mRwJ, mLwJ, mAIwJ, mAJwJ, mARwJ, mNwR, mSwR, mKwR, mIwR, mJwR, mRwR, mLwR, mAIwR, mAJwR, mARwR, mNwAI, mSwAI, mKwAI, mIwAI, mJwAI, mRwAI, mLwAI, mAIwAI, mAJwAI, mARwAI, mNwAJ, mSwAJ, mKwAJ, mIwAJ, mJwAJ, mRwAJ, mLwAJ, mAIwAJ, mAJwAJ, mARwAJ, mNwAR, mSwAR, mKwAR, mIwAR, mJwAR, mRwAR, mLwAR, mAIwAR, mAJwAR, mARwAR, okkwI, okkwJ, okkwR, okkwAI, okkwAJ, okkwAR]
        · simp [rcF, hji, r3, mNwI, mSwI, mKwI, mIwI, mJwI, mRwI, mLwI, mAIwI, mAJwI, mARwI, mNwJ, mSwJ, mKwJ, mIwJ, mJwJ, mRwJ, mLwJ, mAIwJ, mAJwJ, mARwJ, mNwR, mSwR, mKwR, mIwR, mJwR, mRwR, mLwR, mAIwR, mAJwR, mARwR, mNwAI, mSwAI, mKwAI, mIwAI, mJwAI, mRwAI, mLwAI, mAIwAI, mAJwAI, mARwAI, mNwAJ, mSwAJ, mKwAJ, mIwAJ, mJwAJ, mRwAJ, mLwAJ, mAIwAJ, mAJwAJ, mARwAJ, mNwAR, mSwAR, mKwAR, mIwAR, mJwAR, mRwAR, mLwAR, mAIwAR, mAJwAR, mARwAR, okkwI, okkwJ, okkwR, okkwAI, okkwAJ, okkwAR]
    show T (h + 3) mdX11_cut 6 [(0, .ref 29), (1, .int (Int32.ofNat (i + 1))), (2, .int (Int32.ofNat (rE b n (tP b n i)))), (3, .int (if rS b n (tP b n i) = 0 ∨ rS b n (tP b n i) = 4 then 0 else 1))] [] (rcF M i (tP b n i) n b) Q
    generalize rcF M i (tP b n i) n b = N at F1 C1 T1 R1
    rw [rE_eq hB]
    have rel := rS_rel (b := b) (n := n) (p := tP b n i) hB
    by_cases hk : tK b n i = 0 ∨ tK b n i = 1
    · have hs : rS b n (tP b n i) = 0 ∨ rS b n (tP b n i) = 4 := by
        rcases hk with k | k
        · exact Or.inr (rel.2.mpr k)
        · exact Or.inl (rel.1.mpr k)
      rw [if_pos hs]
      refine VX11_cut_6 ?_
      unfold DX11_cut_6
      exact ⟨fun _ => H i N (by omega) hk hK (fun j hj => R1 j (by omega)) F1 C1, fun hc => absurd rfl hc⟩
    · have hs : ¬ (rS b n (tP b n i) = 0 ∨ rS b n (tP b n i) = 4) := by
        rintro (k | k)
        · exact hk (Or.inr (rel.1.mp k))
        · exact hk (Or.inl (rel.2.mp k))
      rw [if_neg hs]
      refine ih (i + 1) N (by omega) F1 T1 C1 R1 (fun j hj => ?_)
      by_cases hji : j = i
      · subst hji; exact ⟨fun z => hk (Or.inl z), fun z => hk (Or.inr z)⟩
      · exact hK j (by omega)
theorem R_cut {h n : Nat} {b : Nat → Int32} {M : Mem} {Q : Option Value → Mem → Prop} (F : Fix M) (hT : TR M n b) (hB : By b)
    (H : ∀ (s : Nat) (N : Mem), s ≤ n → (tK b n s = 0 ∨ tK b n s = 1) → (∀ j, j < s → tK b n j ≠ 0 ∧ tK b n j ≠ 1) → (∀ j, j ≤ s → RkR N b n j) → Fix N → RFr M N → Q none N) : E (h + 3) mdX11_cut [.ref 29] M Q :=
  KX11_cut (rcut_loop hB H (n + 1) 0 M (by omega) F hT RFr.rf (fun j hj => absurd hj (Nat.not_lt_zero j)) (fun j hj => absurd hj (Nat.not_lt_zero j)))
end
section
/-! words: base 32 in the class, base 27 in the reference -/
def val (B : Nat) (d : Nat → Nat) : Nat → Nat
  | 0 => 0
  | k + 1 => val B d k * B + d k
theorem val_lt {B : Nat} {d : Nat → Nat} : ∀ k, (∀ i, i < k → d i < B) → val B d k < B ^ k := by
  intro k
  induction k with
  | zero => intro _; exact Nat.one_pos
  | succ k ih =>
    intro h
    have h1 := ih (fun i hi => h i (by omega))
    have h2 := h k (by omega)
    unfold val
    rw [Nat.pow_succ]
    have : (val B d k + 1) * B ≤ B ^ k * B := Nat.mul_le_mul_right B h1
    rw [Nat.add_mul] at this
    omega
theorem val_inj {B : Nat} {d d' : Nat → Nat} (hB : 0 < B) : ∀ k k', (∀ i, i < k → 0 < d i ∧ d i < B) → (∀ i, i < k' → 0 < d' i ∧ d' i < B) → val B d k = val B d' k' → k = k' ∧ ∀ i, i < k → d i = d' i := by
  intro k
  induction k with
  | zero =>
    intro k' h h' e
    cases k' with
    | zero => exact ⟨rfl, fun i hi => absurd hi (Nat.not_lt_zero i)⟩
    | succ k' =>
      have := (h' k' (by omega)).1
      unfold val at e
      omega
  | succ k ih =>
    intro k' h h' e
    cases k' with
    | zero =>
      have := (h k (by omega)).1
      unfold val at e
      omega
    | succ k' =>
      have a := h k (by omega)
      have a' := h' k' (by omega)
      unfold val at e
      have e1 : d k = d' k' := by
        have := congrArg (· % B) e
        simp only [Nat.mul_add_mod_self_right, Nat.mod_eq_of_lt a.2, Nat.mod_eq_of_lt a'.2] at this
        exact this
      have e2 : val B d k = val B d' k' := by
        rw [e1] at e
        exact Nat.eq_of_mul_eq_mul_right hB (Nat.add_right_cancel e)
      obtain ⟨r1, r2⟩ := ih k' (fun i hi => h i (by omega)) (fun i hi => h' i (by omega)) e2
      subst r1
      refine ⟨rfl, fun i hi => ?_⟩
      by_cases hik : i = k
      · subst hik; exact e1
      · exact r2 i (by omega)
/-- the letters of the word at p, as 1 to 26 -/
def lt1 (b : Nat → Int32) (p j : Nat) : Nat := (b (p + j)).toInt.toNat - 96
theorem isL_lt {b : Nat → Int32} {p j : Nat} (h : isL (b (p + j)) = true) : 0 < lt1 b p j ∧ lt1 b p j < 27 ∧ (b (p + j)).toInt = (lt1 b p j : Int) + 96 := by
  unfold isL at h
  simp only [Bool.and_eq_true, decide_eq_true_eq, Int32.lt_iff_toInt_lt] at h
  have e1 : (97 : Int32).toInt = 97 := by decide
  have e2 : (122 : Int32).toInt = 122 := by decide
  rw [e1, e2] at h
  unfold lt1
  omega
theorem j64_of {x : Int} {n : Nat} (h : x = n) : Int64.ofInt x = Int64.ofNat n := by subst h; rfl
theorem c64 {c : Int32} : c.toInt64 = Int64.ofInt c.toInt := by rw [← Int64.ofInt_toInt c.toInt64, Int32.toInt_toInt64]
theorem spl_of {x l : Nat} {c : Int32} (hc : c.toInt = (l : Int) + 96) : spl (Int64.ofNat x) c = Int64.ofNat (x * 32 + l) := by
  unfold spl
  rw [c64, hc, Int64.ofNat_add, Int64.ofNat_mul]
  have e : Int64.ofInt ((l : Int) + 96) = Int64.ofNat l + 96 := by rw [Int64.ofInt_add]; rfl
  rw [e]
  show Int64.ofNat x * 32 + (Int64.ofNat l + 96) - 97 + 1 = Int64.ofNat x * 32 + Int64.ofNat l
  generalize Int64.ofNat x * 32 = u
  generalize Int64.ofNat l = w
  have : u + (w + 96) - 97 + 1 = u + w + (96 - 97 + 1) := by
    rw [Int64.sub_eq_add_neg, Int64.sub_eq_add_neg, Int64.add_assoc, Int64.add_assoc, Int64.add_assoc, Int64.add_assoc]
    congr 1
  rw [this]
  have z : (96 - 97 + 1 : Int64) = 0 := by decide
  rw [z, Int64.add_zero]
theorem w27_of {x l : Nat} {c : Int32} (hc : c.toInt = (l : Int) + 96) : ((27 * Int64.ofNat x) + c.toInt64) - 96 = Int64.ofNat (x * 27 + l) := by
  rw [c64, hc, Int64.ofNat_add, Int64.ofNat_mul]
  have e : Int64.ofInt ((l : Int) + 96) = Int64.ofNat l + 96 := by rw [Int64.ofInt_add]; rfl
  rw [e]
  show 27 * Int64.ofNat x + (Int64.ofNat l + 96) - 96 = Int64.ofNat x * 27 + Int64.ofNat l
  rw [Int64.mul_comm 27]
  generalize Int64.ofNat x * 27 = u
  generalize Int64.ofNat l = w
  rw [← Int64.add_assoc, Int64.add_sub_cancel]
theorem spell_val {b : Nat → Int32} {p : Nat} : ∀ (k m : Nat), spellF b k (p + m) (Int64.ofNat (val 32 (lt1 b p) m)) = Int64.ofNat (val 32 (lt1 b p) (m + (runF isL b k (p + m) - (p + m)))) := by
  intro k
  induction k with
  | zero => intro m; unfold spellF runF; rw [Nat.sub_self]; rfl
  | succ k ih =>
    intro m
    unfold spellF runF
    by_cases h : isL (b (p + m)) = true
    · rw [if_pos h, if_pos h, spl_of (isL_lt h).2.2]
      have := ih (m + 1)
      have hr := (runF_le (p := isL) (b := b) k (p + m + 1)).1
      have e : m + 1 + (runF isL b k (p + (m + 1)) - (p + (m + 1))) = m + (runF isL b k (p + m + 1) - (p + m)) := by
        rw [← Nat.add_assoc]; omega
      rw [e] at this
      exact this
    · rw [if_neg h, if_neg h, Nat.sub_self]; rfl
theorem w27_val {b : Nat → Int32} {p : Nat} : ∀ (k m : Nat), runF isL b k (p + m) - p ≤ 10 → w27 b p k (p + m) (Int64.ofNat (val 27 (lt1 b p) m)) = Int64.ofNat (val 27 (lt1 b p) (m + (runF isL b k (p + m) - (p + m)))) := by
  intro k
  induction k with
  | zero => intro m _; unfold w27 runF; rw [Nat.sub_self]; rfl
  | succ k ih =>
    intro m h10
    unfold w27
    unfold runF at h10 ⊢
    by_cases h : isL (b (p + m)) = true
    · rw [if_pos h] at h10 ⊢
      rw [if_pos h]
      have hr := (runF_le (p := isL) (b := b) k (p + m + 1)).1
      have hlt : p + m - p < 10 := by omega
      rw [if_pos hlt, w27_of (isL_lt h).2.2]
      have := ih (m + 1) (by rw [← Nat.add_assoc]; exact h10)
      have e : m + 1 + (runF isL b k (p + (m + 1)) - (p + (m + 1))) = m + (runF isL b k (p + m + 1) - (p + m)) := by
        rw [← Nat.add_assoc]; omega
      rw [e] at this
      exact this
    · rw [if_neg h, if_neg h, Nat.sub_self]; rfl
theorem n64_inj {x y : Nat} (hx : x < 9223372036854775808) (hy : y < 9223372036854775808) (h : Int64.ofNat x = Int64.ofNat y) : x = y := by
  have := congrArg Int64.toInt h
  rw [Int64.toInt_ofNat_of_lt (by exact hx), Int64.toInt_ofNat_of_lt (by exact hy)] at this
  omega
def keyL : List (List Nat) := [[9, 14, 16, 21, 20], [15, 21, 20, 16, 21, 20], [19, 9, 7, 14, 1, 12], [15, 14, 5], [19, 21, 13], [13, 15, 19, 20], [22, 1, 18], [14, 15, 20, 8, 9, 14, 7], [16, 1, 21, 19, 5], [8, 1, 12, 20], [5, 13, 9, 20], [19, 21, 19, 20, 1, 9, 14], [12, 15, 15, 16], [5, 14, 4], [16, 18, 5, 19, 5, 14, 20], [20, 8, 5, 14], [5, 12, 19, 5], [1, 23, 1, 9, 20], [9, 13, 13, 5, 4, 9, 1, 20, 5], [1, 2, 15, 18, 20], [23, 5, 1, 11], [23, 8, 5, 14], [19, 21, 19, 16, 5, 14, 4], [5, 22, 5, 18, 25], [4, 15], [20, 18, 1, 16], [9, 14], [5, 24, 9, 20], [9, 6], [1, 14, 4], [15, 18], [14, 15, 20], [16, 18, 5]]
def kd (j i : Nat) : Nat := (keyL.getD j []).getD i 0
def kl (j : Nat) : Nat := (keyL.getD j []).length
def key27 : List Int64 := [5070782, 226799777, 277560228, 11318, 14431, 267347, 16083, 5649913681, 8538566, 158537, 108155, 7672808363, 247552, 4027, 6460043375, 399641, 107681, 985142, 2682960935045, 582248, 456392, 458690, 7672732672, 3094387, 123, 406825, 257, 116174, 249, 1111, 423, 10631, 12155]
theorem key_tab : ∀ j : Fin 33, keysF j = Int64.ofNat (val 32 (kd j) (kl j)) ∧ key27.getD j 0 = Int64.ofNat (val 27 (kd j) (kl j)) ∧ kl j ≤ 10 ∧ ∀ i : Fin 10, i < kl j → 0 < kd j i ∧ kd j i < 27 := by decide +kernel
end
section
/-! what class and reference say of one token -/
theorem key_inj : ∀ j j' : Fin 33, val 32 (kd j) (kl j) = val 32 (kd j') (kl j') → j = j' := by decide +kernel
theorem key_dig {j : Nat} (hj : j < 33) : kl j ≤ 10 ∧ ∀ i, i < kl j → 0 < kd j i ∧ kd j i < 27 := by
  obtain ⟨-, -, h3, h4⟩ := key_tab ⟨j, hj⟩
  refine ⟨h3, fun i hi => ?_⟩
  have h3 : kl j ≤ 10 := h3
  exact h4 ⟨i, by omega⟩ hi
theorem pow32 {m : Nat} (h : m ≤ 10) : 32 ^ m ≤ 1125899906842624 := Nat.le_trans (Nat.pow_le_pow_right (by decide) h) (by decide)
theorem pow27 {m : Nat} (h : m ≤ 10) : 27 ^ m ≤ 205891132094649 := Nat.le_trans (Nat.pow_le_pow_right (by decide) h) (by decide)
/-- two words, or a word and a key: alike in base 32 just where they are alike in base 27 -/
theorem dig_rel {d d' : Nat → Nat} {m m' : Nat} (h : ∀ i, i < m → 0 < d i ∧ d i < 27) (h' : ∀ i, i < m' → 0 < d' i ∧ d' i < 27) (hm : m ≤ 10) (hm' : m' ≤ 10) : (Int64.ofNat (val 32 d m) = Int64.ofNat (val 32 d' m')) ↔ (Int64.ofNat (val 27 d m) = Int64.ofNat (val 27 d' m')) := by
  have same : ∀ B, m = m' ∧ (∀ i, i < m → d i = d' i) → val B d m = val B d' m' := by
    intro B
    rintro ⟨rfl, e⟩
    clear h h' hm hm'
    induction m with
    | zero => rfl
    | succ m ih => unfold val; rw [ih (fun i hi => e i (by omega)), e m (by omega)]
  have a1 := val_lt (B := 32) (d := d) m (fun i hi => by have := h i hi; omega)
  have a2 := val_lt (B := 32) (d := d') m' (fun i hi => by have := h' i hi; omega)
  have a3 := val_lt (B := 27) (d := d) m (fun i hi => by have := h i hi; omega)
  have a4 := val_lt (B := 27) (d := d') m' (fun i hi => by have := h' i hi; omega)
  have p1 := pow32 hm
  have p2 := pow32 hm'
  have p3 := pow27 hm
  have p4 := pow27 hm'
  constructor
  · intro e
    have e := n64_inj (by omega) (by omega) e
    rw [same 27 (val_inj (by decide) m m' (fun i hi => by have := h i hi; omega) (fun i hi => by have := h' i hi; omega) e)]
  · intro e
    have e := n64_inj (by omega) (by omega) e
    rw [same 32 (val_inj (by decide) m m' h h' e)]
theorem keyK_hit {c : Int64} {i : Nat} (hi : i < 33) (hc : keysF i = c) : ∀ k j, j + k = 33 → j ≤ i → keyK c k j = 30 + Int32.ofNat i := by
  intro k
  induction k with
  | zero => intro j h1 h2; omega
  | succ k ih =>
    intro j h1 h2
    unfold keyK
    by_cases hj : keysF j = c
    · rw [if_pos hj]
      have e := hj.trans hc.symm
      rw [(key_tab ⟨j, by omega⟩).1, (key_tab ⟨i, hi⟩).1] at e
      have dj := key_dig (j := j) (by omega)
      have di := key_dig hi
      have l1 := val_lt (B := 32) (d := kd j) (kl j) (fun q hq => by have := dj.2 q hq; omega)
      have l2 := val_lt (B := 32) (d := kd i) (kl i) (fun q hq => by have := di.2 q hq; omega)
      have p1 := pow32 dj.1
      have p2 := pow32 di.1
      have := key_inj ⟨j, by omega⟩ ⟨i, hi⟩ (n64_inj (by show val 32 (kd j) (kl j) < _; omega) (by show val 32 (kd i) (kl i) < _; omega) e)
      have : j = i := by simpa using this
      rw [this]
    · rw [if_neg hj]
      by_cases hji : j = i
      · subst hji; exact absurd hc hj
      · exact ih (j + 1) (by omega) (by omega)
theorem keyK_miss {c : Int64} (h : ∀ i, i < 33 → keysF i ≠ c) : ∀ k j, j + k = 33 → keyK c k j = 2 := by
  intro k
  induction k with
  | zero => intro j _; rfl
  | succ k ih =>
    intro j h1
    unfold keyK
    rw [if_neg (h j (by omega))]
    exact ih (j + 1) (by omega)
/-- a word of at most ten letters -/
def WD (b : Nat → Int32) (n p : Nat) : Prop := p < n ∧ isL (b p) = true ∧ rnE isL b n p - p ≤ 10
theorem WD_v {b : Nat → Int32} {n p : Nat} (h : WD b n p) : ckC b n p = Int64.ofNat (val 32 (lt1 b p) (rnE isL b n p - p)) ∧ rV b n p = Int64.ofNat (val 27 (lt1 b p) (rnE isL b n p - p)) ∧ ∀ i, i < rnE isL b n p - p → 0 < lt1 b p i ∧ lt1 b p i < 27 := by
  obtain ⟨h1, h2, h3⟩ := h
  have hnp : ¬ n ≤ p := by omega
  refine ⟨?_, ?_, fun i hi => ?_⟩
  · unfold ckC
    rw [if_pos h2]
    have := spell_val (b := b) (p := p) (n - p) 0
    have e0 : Int64.ofNat (val 32 (lt1 b p) 0) = 0 := rfl
    rw [e0] at this
    simpa [rnE] using this
  · unfold rV
    rw [if_neg hnp, if_pos h2]
    have := w27_val (b := b) (p := p) (n - p) 0 (by simpa [rnE] using h3)
    have e0 : Int64.ofNat (val 27 (lt1 b p) 0) = 0 := rfl
    rw [e0] at this
    simpa [rnE] using this
  · have q := isL_lt (runF_all (p := isL) (b := b) (n - p) p (p + i) (by omega) (by unfold rnE at hi; omega))
    exact ⟨q.1, q.2.1⟩
theorem WD_eq {b : Nat → Int32} {n p p' : Nat} (h : WD b n p) (h' : WD b n p') : (ckC b n p = ckC b n p') ↔ (rV b n p = rV b n p') := by
  obtain ⟨a1, a2, a3⟩ := WD_v h
  obtain ⟨b1, b2, b3⟩ := WD_v h'
  rw [a1, a2, b1, b2]
  exact dig_rel a3 b3 h.2.2 h'.2.2
theorem WD_key {b : Nat → Int32} {n p j : Nat} (h : WD b n p) (hj : j < 33) : (keysF j = ckC b n p) ↔ (rV b n p = key27.getD j 0) := by
  obtain ⟨a1, a2, a3⟩ := WD_v h
  obtain ⟨t1, t2, -, -⟩ := key_tab ⟨j, hj⟩
  have t1 : keysF j = Int64.ofNat (val 32 (kd j) (kl j)) := t1
  have t2 : key27.getD j 0 = Int64.ofNat (val 27 (kd j) (kl j)) := t2
  have dj := key_dig hj
  rw [a1, a2, t1, t2, dig_rel dj.2 a3 dj.1 h.2.2]
  exact eq_comm
def sv (k : Int32) : Int64 := if k = 4 then 58 else if k = 5 then 14909 else if k = 6 then 31868 else if k = 7 then 61 else if k = 8 then 8509 else if k = 9 then 60 else if k = 10 then 15421 else if k = 11 then 62 else if k = 12 then 15933 else if k = 13 then 59 else if k = 14 then 44 else if k = 15 then 40 else if k = 16 then 41 else if k = 17 then 91 else if k = 18 then 93 else if k = 19 then 63 else if k = 20 then 43 else if k = 21 then 45 else if k = 22 then 42 else if k = 23 then 47 else if k = 24 then 37 else 0
def sKs : List Int32 := [4, 5, 6, 7, 8, 9, 10, 11, 12, 13, 14, 15, 16, 17, 18, 19, 20, 21, 22, 23, 24]
theorem sv_inj : ∀ k ∈ sKs, ∀ k' ∈ sKs, sv k = sv k' → k = k' := by decide +kernel
theorem sg_fin2 : ∀ k : Fin 256, ¬ idxF (Int32.ofNat k).toInt8.toInt32 12 0 < 0 → 13 + idxF (Int32.ofNat k).toInt8.toInt32 12 0 ∈ sKs ∧ sv (13 + idxF (Int32.ofNat k).toInt8.toInt32 12 0) = (Int32.ofNat k).toInt64 := by decide +kernel
theorem sg_val {c d : Int32} (h0 : ¬ c < 0) (h1 : ¬ 255 < c) (hs : sgS c d = 3) : sgK c d ∈ sKs ∧ sgV c d = sv (sgK c d) := by
  obtain ⟨k, rfl⟩ := by_fin h0 h1
  obtain ⟨f1, f2⟩ := sg_fin k
  have f3 := sg_fin2 k
  generalize Int32.ofNat k = c at *
  have hw : tw c d = true ↔ (c = 124 ∧ d = 124) ∨ ((c = 58 ∨ c = 33 ∨ c = 60 ∨ c = 62) ∧ d = 61) := by unfold tw; simp
  by_cases hx : idxF c.toInt8.toInt32 12 0 < 0
  · have f2 := f2 hx
    have hs : tw c d = true ∨ isSg c = true := by
      unfold sgS at hs
      by_cases q : tw c d = true ∨ isSg c = true
      · exact q
      · rw [if_neg q] at hs; exact absurd hs (by decide)
    have cs : c = 33 ∧ d = 61 ∨ c = 58 ∨ c = 60 ∨ c = 61 ∨ c = 62 ∨ c = 124 ∧ d = 124 := by
      rcases hs with q | q
      · rcases hw.mp q with r | ⟨r | r | r | r, r2⟩
        · exact Or.inr (Or.inr (Or.inr (Or.inr (Or.inr r))))
        · exact Or.inr (Or.inl r)
        · exact Or.inl ⟨r, r2⟩
        · exact Or.inr (Or.inr (Or.inl r))
        · exact Or.inr (Or.inr (Or.inr (Or.inr (Or.inl r))))
      · rcases f2 q with r | r | r | r
        · exact Or.inr (Or.inl r)
        · exact Or.inr (Or.inr (Or.inl r))
        · exact Or.inr (Or.inr (Or.inr (Or.inl r)))
        · exact Or.inr (Or.inr (Or.inr (Or.inr (Or.inl r))))
    unfold sgK sgV
    simp only [hx, not_true_eq_false, if_false]
    rcases cs with ⟨rfl, rfl⟩ | rfl | rfl | rfl | rfl | ⟨rfl, rfl⟩
    · exact ⟨by decide, by decide⟩
    · by_cases hd : d = 61
      · subst hd; exact ⟨by decide, by decide⟩
      · have : ¬ tw 58 d = true := by rw [hw]; simp [hd]
        rw [if_neg this]
        simp only [hd, if_false]
        exact ⟨by show (4 : Int32) ∈ sKs; decide, by show Int32.toInt64 58 = sv 4; decide⟩
    · by_cases hd : d = 61
      · subst hd; exact ⟨by decide, by decide⟩
      · have : ¬ tw 60 d = true := by rw [hw]; simp [hd]
        rw [if_neg this]
        simp only [hd, if_false]
        exact ⟨by show (9 : Int32) ∈ sKs; decide, by show Int32.toInt64 60 = sv 9; decide⟩
    · have : ¬ tw 61 d = true := by rw [hw]; simp
      rw [if_neg this]
      exact ⟨by show (7 : Int32) ∈ sKs; decide, by show Int32.toInt64 61 = sv 7; decide⟩
    · by_cases hd : d = 61
      · subst hd; exact ⟨by decide, by decide⟩
      · have : ¬ tw 62 d = true := by rw [hw]; simp [hd]
        rw [if_neg this]
        simp only [hd, if_false]
        exact ⟨by show (11 : Int32) ∈ sKs; decide, by show Int32.toInt64 62 = sv 11; decide⟩
    · exact ⟨by decide, by decide⟩
  · obtain ⟨g1, g2, g3, g4, g5, g6, g7, g8, g9⟩ := f1 hx
    have t : ¬ tw c d = true := by rw [hw]; simp [g1, g2, g3, g4, g5]
    have f3 := f3 hx
    unfold sgK sgV
    rw [if_pos hx, if_neg t]
    exact ⟨f3.1, f3.2.symm⟩
end
