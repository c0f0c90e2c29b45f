/-! a new module -/
theorem Sh.al {n0 a k q : Nat} {Mb M M0 M1 M3 M4 : Mem} (h : Sh n0 Mb M M0) (hb : mN M0 < mBig) (hq : q = mN M) (e1 : M1 = nwO M 1 3) (e3 : M3 = wR (wI M1 q 0 0) q 1 (some (mBig + 5))) (e4 : M4 = wR M3 (n0 + a) k (some q)) : Sh n0 Mb M4 (alX M0 a k) := by
  subst e4 e3 e1 hq
  rw [h.1]
  exact (((h.o (by decide)).i).r shf_sp).r (shf_lt hb)
def cp0 : Mem := nwO mem0 3 18
def cp1 : Mem := nfs cp0 0 [(0, 23, 16), (1, 21, 16), (2, 21, 16), (3, 21, 4), (4, 23, 6), (5, 21, 6)]
def cp2 : Mem := alX cp1 0 6
def cp3 : Mem := nwO cp2 2 17
def cp4 : Mem := nfs cp3 8 [(0, 21, 64), (1, 21, 64), (2, 21, 0), (3, 21, 0)]
def cp5 : Mem := wI cp4 8 4 1
def cp6a : Mem := alX cp5 8 5
def cp6b : Mem := alX cp6a 8 6
def cp6 : Mem := alX cp6b 8 7
def cp7 : Mem := nfs cp6 8 [(8, 21, 16), (9, 21, 24), (10, 21, 24), (11, 21, 24), (13, 21, 16), (14, 21, 16)]
def cp8 : Mem := wI (wAI (wAI cp7 9 1 2) 10 1 2) 8 4 2
def cp9 : Mem := wR (wI cp8 8 15 2) 0 7 (some 8)
def cpA : Mem := nwO cp9 8 5
def cpB : Mem := nfs cpA 22 [(0, 21, 16), (2, 23, 64)]
def cpC : Mem := wR cpB 0 8 (some 22)
theorem S_addNetN {h x n Lc Rc : Nat} {a b : Int32} {M : Mem} {Q : Option Value → Mem → Prop} (hx : ok M x 2) (hL : mR M x 0 = some Lc) (oL : ok M Lc 21) (hR : mR M x 1 = some Rc) (oR : ok M Rc 21) (hn : mI M x 4 = Int32.ofNat n) (h1 : n < mL M Lc) (h2 : n < mL M Rc) (l1 : mL M Lc < 2147483648) (l2 : mL M Rc < 2147483648) (H : Q (some (.int (Int32.ofNat n))) (wI (wAI (wAI M Lc n a) Rc n b) x 4 (Int32.ofNat (n + 1)))) : E (h + 1) mdX0_addNet [.ref x, .int a, .int b] M Q := by
  refine KX0_addNet ?_
  unfold DX0_addNet_0 DX0_addNet_46
  refine ⟨hx, Lc, hL, oL, fun _ => ?_, fun hc => ?_⟩
  · refine ⟨hx, Lc, hL, oL, by rw [hn]; exact vp_of h1 l1, fun M4 e4 => ?_⟩
    rw [hn, lt32 (by omega)] at e4
    subst e4
    refine ⟨Rc, hR, oR, ?_, fun M7 e7 M8 e8 => ?_⟩
    · show vp_in (mI M x 4) (mL M Rc)
      rw [hn]; exact vp_of h2 l2
    · have e7 : M7 = wAI (wAI M Lc n a) Rc (mI M x 4).toNatClampNeg b := e7
      rw [hn, lt32 (by omega)] at e7
      subst e7
      have e8 : M8 = wI (wAI (wAI M Lc n a) Rc n b) x 4 (mI M x 4 + 1) := e8
      rw [hn, succ32] at e8
      subst e8
      rw [mI_own]
      have : Int32.ofNat (n + 1) - 1 = Int32.ofNat n := by ((try simp only [Int32.toNatClampNeg, Int32.lt_iff_toInt_lt, Int32.le_iff_toInt_le, ← Int32.toInt_inj, j_add, j_sub, j_neg, j_mul, j_nat, Int32.reduceToInt, vp_in]); omega)
      rw [this]
      exact H
  · rw [hn] at hc
    have := inj32 (by omega) l1 hc
    omega
theorem S_sums0 {h n0 : Nat} {Mb M : Mem} (hS : Sh n0 Mb M cpA) : E (h + 1) mdX6_init [.ref (n0 + 22)] M (fun r M' => r = none ∧ Sh n0 Mb M' cpB) := by
  refine KX6_init ?_
  unfold DX6_init_0
  simp only [e16, e64]
  refine ⟨by decide, by decide, fun q2 M1 hq2 hM1 => ⟨by rw [hM1]; exact ok_nwA (hS.k (by decide) rfl), fun M4 hM4 => ?_⟩⟩
  have m1 := hS.n (by decide) (by decide) hq2 hM1 hM4
  refine ⟨by decide, by decide, fun q6 M5 hq6 hM5 M7 hM7 => ?_⟩
  have m2 := m1.n (by decide) (by decide) hq6 hM5 hM7
  exact ⟨trivial, m2⟩
theorem e0z : (0 : Int32).toNatClampNeg = 0 := by decide
set_option maxRecDepth 4000 in
theorem S_circ0 {h n0 : Nat} {Mb M : Mem} (hS : Sh n0 Mb M cp3) : E (h + 4) mdX0_init [.ref (n0 + 8)] M (fun r M' => r = none ∧ Sh n0 Mb M' (wI cp8 8 15 2)) := by
  refine KX0_init ?_
  unfold DX0_init_0
  simp only [e16, e64, e24, e0z]
  refine ⟨by decide, by decide, fun q2 M1 hq2 hM1 => ⟨by rw [hM1]; exact ok_nwA (hS.k (by decide) rfl), fun M4 hM4 => ?_⟩⟩
  have m := hS.n (by decide) (by decide) hq2 hM1 hM4
  clear hS hM4 hM1 hq2
  refine ⟨by decide, by decide, fun q6 M5 hq6 hM5 M7 hM7 => ?_⟩
  have m := m.n (by decide) (by decide) hq6 hM5 hM7
  clear hM5 hM7 hq6
  refine ⟨by decide, by decide, fun q6 M5 hq6 hM5 M7 hM7 => ?_⟩
  have m := m.n (by decide) (by decide) hq6 hM5 hM7
  clear hM5 hM7 hq6
  refine ⟨by decide, by decide, fun q6 M5 hq6 hM5 M7 hM7 => ?_⟩
  have m : Sh n0 Mb M7 cp4 := m.n (by decide) (by decide) hq6 hM5 hM7
  clear hM5 hM7 hq6
  intro M14 hM14
  have m : Sh n0 Mb M14 cp5 := by rw [hM14]; exact m.i
  clear hM14
  intro q16 M15 hq16 hM15
  refine (C_alInit (M := M15) (a := q16) (by rw [hq16, hM15]; exact ok_newO)).imp (fun r M17 hE hp hE2 => ⟨hp.1, fun M18 hM18 => ?_⟩)
  have m : Sh n0 Mb M18 cp6a := m.al (by decide) hq16 hM15 hp.2 hM18
  clear hM18 hM15 hq16 hp hE hE2
  intro q16 M15 hq16 hM15
  refine (C_alInit (M := M15) (a := q16) (by rw [hq16, hM15]; exact ok_newO)).imp (fun r M17 hE hp hE2 => ⟨hp.1, fun M18 hM18 => ?_⟩)
  have m : Sh n0 Mb M18 cp6b := m.al (by decide) hq16 hM15 hp.2 hM18
  clear hM18 hM15 hq16 hp hE hE2
  intro q16 M15 hq16 hM15
  refine (C_alInit (M := M15) (a := q16) (by rw [hq16, hM15]; exact ok_newO)).imp (fun r M17 hE hp hE2 => ⟨hp.1, fun M18 hM18 => ?_⟩)
  have m : Sh n0 Mb M18 cp6 := m.al (by decide) hq16 hM15 hp.2 hM18
  clear hM18 hM15 hq16 hp hE hE2
  refine ⟨by decide, by decide, fun q6 M5 hq6 hM5 M7 hM7 => ?_⟩
  have m := m.n (by decide) (by decide) hq6 hM5 hM7
  clear hM5 hM7 hq6
  refine ⟨by decide, by decide, fun q6 M5 hq6 hM5 M7 hM7 => ?_⟩
  have m := m.n (by decide) (by decide) hq6 hM5 hM7
  clear hM5 hM7 hq6
  refine ⟨by decide, by decide, fun q6 M5 hq6 hM5 M7 hM7 => ?_⟩
  have m := m.n (by decide) (by decide) hq6 hM5 hM7
  clear hM5 hM7 hq6
  refine ⟨by decide, by decide, fun q6 M5 hq6 hM5 M7 hM7 => ?_⟩
  have m := m.n (by decide) (by decide) hq6 hM5 hM7
  clear hM5 hM7 hq6
  refine ⟨by decide, by decide, fun q6 M5 hq6 hM5 M7 hM7 => ?_⟩
  have m := m.n (by decide) (by decide) hq6 hM5 hM7
  clear hM5 hM7 hq6
  refine ⟨by decide, by decide, fun q6 M5 hq6 hM5 M7 hM7 => ?_⟩
  have m : Sh n0 Mb M7 cp7 := m.n (by decide) (by decide) hq6 hM5 hM7
  clear hM5 hM7 hq6
  refine KX0_fresh ?_
  unfold DX0_fresh_0
  have i4 : mI M7 (n0 + 8) 4 = Int32.ofNat 1 := m.rI (by decide) (by decide) rfl
  have a9 : mL M7 (n0 + 9) = 64 := m.rL (by decide) (by decide) rfl
  have a10 : mL M7 (n0 + 10) = 64 := m.rL (by decide) (by decide) rfl
  refine ⟨m.k (by decide) rfl, ?_⟩
  rw [i4]
  refine S_addNetN (n := 1) (Lc := n0 + 9) (Rc := n0 + 10) (m.k (by decide) rfl) (m.rR (by decide) (by decide) rfl (by decide)) (m.k (by decide) rfl) (m.rR (by decide) (by decide) rfl (by decide)) (m.k (by decide) rfl) i4 (by rw [a9]; decide) (by rw [a10]; decide) (by rw [a9]; decide) (by rw [a10]; decide) (fun _ => ⟨_, rfl, fun _ => ⟨_, rfl, fun M47 e47 => ⟨trivial, ?_⟩⟩⟩)
  subst e47
  exact ((m.ai.ai).i).i
theorem S_comp {h n0 : Nat} {Mb M : Mem} (hS : Sh n0 Mb M cp0) : E (h + 5) mdX1_init [.ref (n0 + 0)] M (fun r M' => r = none ∧ Sh n0 Mb M' cpC) := by
  refine KX1_init ?_
  unfold DX1_init_0
  simp only [e16, e4, e6]
  refine ⟨by decide, by decide, fun q2 M1 hq2 hM1 => ⟨by rw [hM1]; exact ok_nwA (hS.k (by decide) rfl), fun M4 hM4 => ?_⟩⟩
  have m := hS.n (by decide) (by decide) hq2 hM1 hM4
  clear hS hM4 hM1 hq2
  refine ⟨by decide, by decide, fun q6 M5 hq6 hM5 M7 hM7 => ?_⟩
  have m := m.n (by decide) (by decide) hq6 hM5 hM7
  clear hM5 hM7 hq6
  refine ⟨by decide, by decide, fun q6 M5 hq6 hM5 M7 hM7 => ?_⟩
  have m := m.n (by decide) (by decide) hq6 hM5 hM7
  clear hM5 hM7 hq6
  refine ⟨by decide, by decide, fun q6 M5 hq6 hM5 M7 hM7 => ?_⟩
  have m := m.n (by decide) (by decide) hq6 hM5 hM7
  clear hM5 hM7 hq6
  refine ⟨by decide, by decide, fun q6 M5 hq6 hM5 M7 hM7 => ?_⟩
  have m := m.n (by decide) (by decide) hq6 hM5 hM7
  clear hM5 hM7 hq6
  refine ⟨by decide, by decide, fun q6 M5 hq6 hM5 M7 hM7 => ?_⟩
  have m : Sh n0 Mb M7 cp1 := m.n (by decide) (by decide) hq6 hM5 hM7
  clear hM5 hM7 hq6
  intro q16 M15 hq16 hM15
  refine (C_alInit (M := M15) (a := q16) (by rw [hq16, hM15]; exact ok_newO)).imp (fun r M17 hE hp hE2 => ⟨hp.1, fun M18 hM18 => ?_⟩)
  have m : Sh n0 Mb M18 cp2 := m.al (by decide) hq16 hM15 hp.2 hM18
  clear hM18 hM15 hq16 hp hE hE2
  intro q25 M24 hq25 hM24
  have hq25 : q25 = n0 + 8 := hq25.trans m.1
  have m : Sh n0 Mb M24 cp3 := by rw [hM24]; exact m.o (by decide)
  subst hq25
  refine (S_circ0 m).imp (fun r M26 hE hp hE2 => ⟨hp.1, fun M27 hM27 => ?_⟩)
  have m : Sh n0 Mb M27 cp9 := by rw [hM27]; exact hp.2.r (shf_lt (by decide))
  intro q29 M28 hq29 hM28
  have hq29 : q29 = n0 + 22 := hq29.trans m.1
  have m : Sh n0 Mb M28 cpA := by rw [hM28]; exact m.o (by decide)
  subst hq29
  refine (S_sums0 m).imp (fun r M30 hE hp hE2 => ⟨hp.1, fun M31 hM31 => ⟨trivial, ?_⟩⟩)
  rw [hM31]
  exact hp.2.r (shf_lt (by decide))
