/-! Int32 by omega; constructors of the class, exactly -/
def bmx (a : Int) : Int := if a % 4294967296 < 2147483648 then a % 4294967296 else a % 4294967296 - 4294967296
theorem bmx_eq (a : Int) : Int.bmod a (2^32) = bmx a := by rw [Int.bmod_def]; rfl
theorem j_add (x y : Int32) : (x + y).toInt = if (x.toInt + y.toInt) % 4294967296 < 2147483648 then (x.toInt + y.toInt) % 4294967296 else (x.toInt + y.toInt) % 4294967296 - 4294967296 := by rw [Int32.toInt_add]; exact bmx_eq _
theorem j_sub (x y : Int32) : (x - y).toInt = if (x.toInt - y.toInt) % 4294967296 < 2147483648 then (x.toInt - y.toInt) % 4294967296 else (x.toInt - y.toInt) % 4294967296 - 4294967296 := by rw [Int32.toInt_sub]; exact bmx_eq _
theorem j_mul (x y : Int32) : (x * y).toInt = if (x.toInt * y.toInt) % 4294967296 < 2147483648 then (x.toInt * y.toInt) % 4294967296 else (x.toInt * y.toInt) % 4294967296 - 4294967296 := by rw [Int32.toInt_mul]; exact bmx_eq _
theorem j_neg (x : Int32) : (-x).toInt = if (-x.toInt) % 4294967296 < 2147483648 then (-x.toInt) % 4294967296 else (-x.toInt) % 4294967296 - 4294967296 := by rw [Int32.toInt_neg]; exact bmx_eq _
theorem j_nat (n : Nat) : (Int32.ofNat n).toInt = if (n : Int) % 4294967296 < 2147483648 then (n : Int) % 4294967296 else (n : Int) % 4294967296 - 4294967296 := by rw [Int32.toInt_ofNat']; exact bmx_eq _
theorem j_lo (x : Int32) : -2147483648 ≤ x.toInt := Int32.le_toInt x
theorem j_hi (x : Int32) : x.toInt < 2147483648 := Int32.toInt_lt x
theorem ti32 {n : Nat} (h : n < 2147483648) : (Int32.ofNat n).toInt = n := by rw [j_nat]; omega
theorem lt32 {n : Nat} (h : n < 2147483648) : (Int32.ofNat n).toNatClampNeg = n := by ((try simp only [Int32.toNatClampNeg, Int32.lt_iff_toInt_lt, Int32.le_iff_toInt_le, ← Int32.toInt_inj, j_add, j_sub, j_neg, j_mul, j_nat, Int32.reduceToInt, vp_in]); omega)
theorem vp_of {n k : Nat} (h : n < k) (hk : k < 2147483648) : vp_in (Int32.ofNat n) k := by ((try simp only [Int32.toNatClampNeg, Int32.lt_iff_toInt_lt, Int32.le_iff_toInt_le, ← Int32.toInt_inj, j_add, j_sub, j_neg, j_mul, j_nat, Int32.reduceToInt, vp_in]); omega)
theorem inj32 {a b : Nat} (ha : a < 2147483648) (hb : b < 2147483648) (h : Int32.ofNat a = Int32.ofNat b) : a = b := by
  rw [← lt32 ha, ← lt32 hb, h]
theorem succ32 {a : Nat} : Int32.ofNat a + 1 = Int32.ofNat (a + 1) := by
  rw [Int32.ofNat_add]; rfl
theorem add32 {a c : Nat} : Int32.ofNat a + Int32.ofNat c = Int32.ofNat (a + c) := (Int32.ofNat_add a c).symm
theorem le32 {a b : Nat} (ha : a < 2147483648) (hb : b < 2147483648) : (Int32.ofNat a ≤ Int32.ofNat b) ↔ a ≤ b := by ((try simp only [Int32.toNatClampNeg, Int32.lt_iff_toInt_lt, Int32.le_iff_toInt_le, ← Int32.toInt_inj, j_add, j_sub, j_neg, j_mul, j_nat, Int32.reduceToInt, vp_in]); omega)
theorem ltn32 {a b : Nat} (ha : a < 2147483648) (hb : b < 2147483648) : (Int32.ofNat a < Int32.ofNat b) ↔ a < b := by ((try simp only [Int32.toNatClampNeg, Int32.lt_iff_toInt_lt, Int32.le_iff_toInt_le, ← Int32.toInt_inj, j_add, j_sub, j_neg, j_mul, j_nat, Int32.reduceToInt, vp_in]); omega)
theorem S_len0 {h : Nat} {M : Mem} {Q : Option Value → Mem → Prop} (H : Q (some (.int (Int32.ofNat 176))) M) : E (h + 2) mdJ0_length_8abf5 [.ref (mBig + 1)] M Q := (C_length (i := 0) (by decide)).imp (fun r M' _ hp => by rw [hp.1, hp.2]; exact H)
theorem S_chr0 {h i : Nat} (hi : i < 176) {M : Mem} {Q : Option Value → Mem → Prop} (H : Q (some (.int (chK 0 i))) M) : E (h + 4) mdJ0_charAt_5068e [.ref (mBig + 1), .int (Int32.ofNat i)] M Q := (C_charAt (i := 0) (k := Int32.ofNat i) (by decide) (vp_of hi (by decide))).imp (fun r M' _ hp => by rw [hp.1, hp.2, lt32 (by omega)]; exact H)
def nf (M : Mem) (x f kd n : Nat) : Mem := wR (nwA M kd n) x f (some (mN M))
def nfs (M : Mem) (x : Nat) (l : List (Nat × Nat × Nat)) : Mem := l.foldl (fun M e => nf M x e.1 e.2.1 e.2.2) M
theorem nf_step {M M1 M2 : Mem} {x k kd len q : Nat} (hq : q = mN M) (e1 : M1 = nwA M kd len) (e2 : M2 = wR M1 x k (some q)) : M2 = nf M x k kd len := by subst e2 e1 hq; rfl
theorem nf_E {M : Mem} {x k kd len : Nat} : mE M (nf M x k kd len) := mE_nwA.tr mE_wR
theorem ok_nf {M : Mem} {a ci x k kd len : Nat} (h : ok M a ci) : ok (nf M x k kd len) a ci := ok_E h nf_E
theorem S_treeX {h x0 : Nat} {M : Mem} (hx : ok M x0 10) : E (h + 1) mdX8_init [.ref x0] M (fun r M' => r = none ∧ M' = nfs M x0 lTree) := by
  refine KX8_init ?_
  unfold DX8_init_0
  simp only [e640]
  refine ⟨by decide, by decide, fun q2 M1 hq2 hM1 => ⟨by rw [hM1]; exact ok_nwA hx, fun M4 hM4 => ?_⟩⟩
  have m1 := nf_step hq2 hM1 hM4
  refine ⟨by decide, by decide, fun q6 M5 hq6 hM5 M7 hM7 => ?_⟩
  have m2 := nf_step hq6 hM5 hM7
  refine ⟨by decide, by decide, fun q9 M8 hq9 hM8 M10 hM10 => ?_⟩
  have m3 := nf_step hq9 hM8 hM10
  refine ⟨by decide, by decide, fun q12 M11 hq12 hM11 M13 hM13 => ?_⟩
  have m4 := nf_step hq12 hM11 hM13
  refine ⟨by decide, by decide, fun q15 M14 hq15 hM14 M16 hM16 => ?_⟩
  have m5 := nf_step hq15 hM14 hM16
  refine ⟨by decide, by decide, fun q18 M17 hq18 hM17 M19 hM19 => ?_⟩
  have m6 := nf_step hq18 hM17 hM19
  refine ⟨by decide, by decide, fun q21 M20 hq21 hM20 M22 hM22 => ?_⟩
  have m7 := nf_step hq21 hM20 hM22
  refine ⟨by decide, by decide, fun q24 M23 hq24 hM23 M25 hM25 => ?_⟩
  have m8 := nf_step hq24 hM23 hM25
  refine ⟨by decide, by decide, fun q27 M26 hq27 hM26 M28 hM28 => ?_⟩
  have m9 := nf_step hq27 hM26 hM28
  exact ⟨trivial, by rw [m9, m8, m7, m6, m5, m4, m3, m2, m1]; rfl⟩
def lWeaver : List (Nat × Nat × Nat) := [(1, 21, 640), (2, 21, 640), (3, 21, 640), (4, 21, 640), (5, 21, 640), (6, 21, 640), (7, 21, 12800)]
theorem e12800 : (12800 : Int32).toNatClampNeg = 12800 := by decide
theorem S_weaverX {h x0 x1 : Nat} {M : Mem} (hx : ok M x0 11) : E (h + 1) mdX9_init [.ref x0, .ref x1] M (fun r M' => r = none ∧ M' = wR (nfs M x0 lWeaver) x0 0 (some x1)) := by
  refine KX9_init ?_
  unfold DX9_init_0
  simp only [e640, e12800]
  refine ⟨by decide, by decide, fun q2 M1 hq2 hM1 => ⟨by rw [hM1]; exact ok_nwA hx, fun M4 hM4 => ?_⟩⟩
  have m1 := nf_step hq2 hM1 hM4
  refine ⟨by decide, by decide, fun q6 M5 hq6 hM5 M7 hM7 => ?_⟩
  have m2 := nf_step hq6 hM5 hM7
  refine ⟨by decide, by decide, fun q9 M8 hq9 hM8 M10 hM10 => ?_⟩
  have m3 := nf_step hq9 hM8 hM10
  refine ⟨by decide, by decide, fun q12 M11 hq12 hM11 M13 hM13 => ?_⟩
  have m4 := nf_step hq12 hM11 hM13
  refine ⟨by decide, by decide, fun q15 M14 hq15 hM14 M16 hM16 => ?_⟩
  have m5 := nf_step hq15 hM14 hM16
  refine ⟨by decide, by decide, fun q18 M17 hq18 hM17 M19 hM19 => ?_⟩
  have m6 := nf_step hq18 hM17 hM19
  refine ⟨by decide, by decide, fun q21 M20 hq21 hM20 M22 hM22 => ?_⟩
  have m7 := nf_step hq21 hM20 hM22
  intro M23 hM23
  exact ⟨trivial, by rw [hM23, m7, m6, m5, m4, m3, m2, m1]; rfl⟩
/-! Tokens -/
def wRowJ (M : Mem) (b : Nat) (f : Nat → Int64) : Mem := (mN M, mS M, mK M, mI M, mJ M, mR M, mL M, mAI M, va_up (mAJ M) b f, mAR M)
def spl (c : Int64) (l : Int32) : Int64 := (((c * 32) + (l.toInt64)) - 97) + 1
def kloop : Nat → Nat → Nat → (Nat → Int64) → (Nat → Int64)
  | 0, _, _, K => K
  | n + 1, i, key, K => if 33 ≤ key then K else if chK 0 i = 32 then kloop n (i + 1) (key + 1) K else kloop n (i + 1) key (fun j => if j = key then spl (K key) (chK 0 i) else K j)
theorem wRowJ_self {M : Mem} {b : Nat} : wRowJ M b (mAJ M b) = M := by
  have : va_up (mAJ M) b (mAJ M b) = mAJ M := by
    funext a; unfold va_up; split
    · rename_i h; rw [h]
    · rfl
  unfold wRowJ; rw [this]; rfl
theorem wRowJ_wAJ {M : Mem} {b k : Nat} {v : Int64} {f : Nat → Int64} : wRowJ (wAJ M b k v) b f = wRowJ M b f := by
  have : va_up (mAJ (wAJ M b k v)) b f = va_up (mAJ M) b f := by
    funext a; unfold va_up; split
    · rfl
    · rename_i h; exact up2_row h
  unfold wRowJ; rw [this]; rfl
theorem mAJ_wAJ_row {M : Mem} {b k : Nat} {v : Int64} : mAJ (wAJ M b k v) b = (fun j => if j = k then v else mAJ M b j) := by
  funext j; show (if b = b ∧ j = k then v else mAJ M b j) = _; simp
theorem S_spelled {h : Nat} {c : Int64} {l : Int32} {M : Mem} {Q : Option Value → Mem → Prop} (H : Q (some (.long (spl c l))) M) : E (h + 1) mdX7_spelled [.long c, .int l] M Q := by
  refine KX7_spelled ?_
  unfold DX7_spelled_0
  exact H
theorem keys_loop {h x0 b : Nat} : ∀ (n i key : Nat) (M : Mem), i + n = 176 → key ≤ 33 → ok M x0 9 → mR M x0 1 = some b → ok M b 23 → mL M b = 33 →
    T (h + 6) mdX7_init 48 [(0, .ref x0), (2, .int (Int32.ofNat key)), (3, .int (Int32.ofNat i))] [] M (fun r M' => r = none ∧ M' = wRowJ M b (kloop n i key (mAJ M b))) := by
  intro n
  induction n with
  | zero =>
    intro i key M hi hk ho hr hb hl
    refine VX7_init_48 ?_
    unfold DX7_init_48
    refine S_len0 (fun _ => ⟨_, rfl, fun _ => ?_, fun hn => ?_⟩)
    · unfold DX7_init_107; exact ⟨rfl, wRowJ_self.symm⟩
    · exact absurd ((le32 (by decide) (by omega)).mpr (by omega)) hn
  | succ n ih =>
    intro i key M hi hk ho hr hb hl
    refine VX7_init_48 ?_
    unfold DX7_init_48
    refine S_len0 (fun _ => ⟨_, rfl, fun hc => ?_, fun _ => ⟨fun h33 => ?_, fun h33 => ?_⟩⟩)
    · exact absurd ((le32 (by decide) (by omega)).mp hc) (by omega)
    · have : 33 ≤ key := (le32 (a := 33) (by decide) (by omega)).mp h33
      unfold DX7_init_107
      refine ⟨rfl, ?_⟩
      unfold kloop
      rw [if_pos this, wRowJ_self]
    have h33 : ¬ 33 ≤ key := fun z => h33 ((le32 (a := 33) (by decide) (by omega)).mpr z)
    refine S_chr0 (by omega) (fun _ => ⟨_, rfl, fun hne => ?_, fun heq => ?_⟩)
    · have hvk : vp_in (Int32.ofNat key) (mL M b) := by rw [hl]; exact vp_of (by omega) (by decide)
      refine ⟨ho, b, hr, b, hr, hb, hvk, S_chr0 (by omega) (fun _ => ⟨_, rfl, S_spelled (fun _ => ⟨_, rfl, hb, hvk, fun M5 hM5 => ?_⟩)⟩)⟩
      unfold DX7_init_101
      rw [succ32]
      have := ih (i + 1) key M5 (by omega) hk (by rw [hM5]; exact ho) (by rw [hM5]; exact hr) (by rw [hM5]; exact hb) (by rw [hM5]; exact hl)
      refine this.imp (fun r M' hp => ⟨hp.1, ?_⟩)
      rw [hp.2, hM5, wRowJ_wAJ, mAJ_wAJ_row]
      conv => rhs; unfold kloop
      rw [if_neg h33, if_neg hne, lt32 (by omega)]
    · unfold DX7_init_101
      rw [succ32, succ32]
      have := ih (i + 1) (key + 1) M (by omega) (by omega) ho hr hb hl
      refine this.imp (fun r M' hp => ⟨hp.1, ?_⟩)
      rw [hp.2]
      conv => rhs; unfold kloop
      rw [if_neg h33, if_pos heq]
theorem e801 : (801 : Int32).toNatClampNeg = 801 := by decide
theorem e33 : (33 : Int32).toNatClampNeg = 33 := by decide
def keysF : Nat → Int64 := kloop 176 0 0 (fun _ => 0)
def tokX (M : Mem) (x0 x1 : Nat) : Mem := nf (wR (nf (nf (nf M x0 4 21 801) x0 5 21 801) x0 6 23 801) x0 0 (some x1)) x0 1 23 33
theorem S_tokX {h x0 x1 : Nat} {M : Mem} (hx : ok M x0 9) : E (h + 6) mdX7_init [.ref x0, .ref x1] M (fun r M' => r = none ∧ M' = wRowJ (tokX M x0 x1) (mN M + 3) keysF) := by
  refine KX7_init ?_
  unfold DX7_init_0
  simp only [e801, e33]
  refine ⟨by decide, by decide, fun q2 M1 hq2 hM1 => ⟨by rw [hM1]; exact ok_nwA hx, fun M4 hM4 => ?_⟩⟩
  have m1 := nf_step hq2 hM1 hM4
  refine ⟨by decide, by decide, fun q6 M5 hq6 hM5 M7 hM7 => ?_⟩
  have m2 := nf_step hq6 hM5 hM7
  refine ⟨by decide, by decide, fun q9 M8 hq9 hM8 M10 hM10 => ?_⟩
  have m3 := nf_step hq9 hM8 hM10
  intro M11 hM11
  refine ⟨by decide, by decide, fun q13 M12 hq13 hM12 M14 hM14 => ?_⟩
  have m4 := nf_step hq13 hM12 hM14
  have e : M14 = tokX M x0 x1 := by rw [m4, hM11, m3, m2, m1]; rfl
  have nb : mN M11 = mN M + 3 := by rw [hM11, m3, m2, m1]; rfl
  have hx1 : ok M11 x0 9 := by
    have h4 : ok M4 x0 9 := by rw [m1]; exact ok_nf hx
    have h7 : ok M7 x0 9 := by rw [m2]; exact ok_nf h4
    have h10 : ok M10 x0 9 := by rw [m3]; exact ok_nf h7
    rw [hM11]; exact h10
  have hrow : mAJ M14 (mN M11) = (fun _ => 0) := by
    rw [m4]; exact va_up_self _ _ _
  have := keys_loop (h := h) (x0 := x0) (b := mN M11) 176 0 0 M14 rfl (by decide) (by rw [m4]; exact ok_nf hx1) (by rw [m4]; exact up2_eq) (by rw [m4]; exact ok_newA (n := 33)) (by rw [m4]; exact va_up_self _ _ _)
  refine this.imp (fun r M' hp => ⟨hp.1, ?_⟩)
  rw [hp.2, hrow, nb, e]; rfl
/-! Reader, BeatMill -/
def readX (M : Mem) (x0 x1 x2 : Nat) : Mem := nf (wR (wR (wRowJ (tokX (nwO M 9 14) (mN M) x1) (mN M + 4) keysF) x0 0 (some (mN M))) x0 1 (some x2)) x0 2 23 16
theorem S_readX {h x0 x1 x2 : Nat} {M : Mem} (hx : ok M x0 6) : E (h + 7) mdX4_init [.ref x0, .ref x1, .ref x2] M (fun r M' => r = none ∧ M' = readX M x0 x1 x2) := by
  refine KX4_init ?_
  unfold DX4_init_0
  simp only [e16]
  intro q2 M1 hq2 hM1
  refine (S_tokX (M := M1) (x0 := q2) (by rw [hq2, hM1]; exact ok_newO)).imp (fun r M3 hE hp hE2 => ⟨hp.1, ok_E (by rw [hM1]; exact ok_nwO hx) hE2, fun M5 hM5 M6 hM6 => ?_⟩)
  refine ⟨by decide, by decide, fun q8 M7 hq8 hM7 M9 hM9 => ?_⟩
  have m1 := nf_step hq8 hM7 hM9
  refine ⟨trivial, ?_⟩
  rw [m1, hM6, hM5, hp.2, hM1, hq2]
  rfl
def alX (M : Mem) (x f : Nat) : Mem := wR (wR (wI (nwO M 1 3) (mN M) 0 0) (mN M) 1 (some (mBig + 5))) x f (some (mN M))
def mA0 : Mem := nf (nwO mem0 12 9) 0 0 20 800
def mB0 : Mem := alX mA0 0 2
def mC0 : Mem := alX mB0 0 3
def mD0 : Mem := nfs (nwO mC0 10 11) 4 lTree
def mE0 : Mem := wR (readX (nwO mD0 6 8) 14 1 4) 0 4 (some 14)
def mF0 : Mem := wR (nfs (nwO mE0 11 9) 21 lWeaver) 21 0 (some 4)
def mG0 : Mem := wI (wI (wR mF0 0 5 (some 21)) 0 7 (-1)) 0 8 (-1)
set_option maxRecDepth 4000 in
theorem n_A0 : mN mA0 = 2 := rfl
theorem n_B0 : mN mB0 = 3 := rfl
theorem n_C0 : mN mC0 = 4 := rfl
theorem n_D0 : mN mD0 = 14 := rfl
theorem n_E0 : mN mE0 = 21 := rfl
theorem n_F0 : mN mF0 = 29 := rfl
theorem r_D0 : mR (nwO mD0 6 8) 0 0 = some 1 := rfl
theorem S_mill0 {h : Nat} : E (h + 8) mdX10_init [.ref 0] (nwO mem0 12 9) (fun r M' => r = none ∧ M' = mG0) := by
  refine KX10_init ?_
  unfold DX10_init_0
  simp only [e800]
  refine ⟨by decide, by decide, fun q2 M1 hq2 hM1 => ⟨by rw [hM1]; exact ⟨by decide, rfl⟩, fun M4 hM4 => ?_⟩⟩
  have m1 : M4 = mA0 := nf_step hq2 hM1 hM4
  clear hM4 hM1 hq2
  subst m1
  intro q6 M5 hq6 hM5
  have hq6 : q6 = 2 := hq6.trans n_A0
  subst hq6 hM5
  refine (C_alInit (M := nwO mA0 1 3) (a := 2) ⟨by decide, rfl⟩).imp (fun r M7 hE hp hE2 => ⟨hp.1, fun M8 hM8 => ?_⟩)
  have m2 : M8 = mB0 := by rw [hM8, hp.2]; rfl
  clear hp hM8 hE hE2
  subst m2
  intro q6 M5 hq6 hM5
  have hq6 : q6 = 3 := hq6.trans n_B0
  subst hq6 hM5
  refine (C_alInit (M := nwO mB0 1 3) (a := 3) ⟨by decide, rfl⟩).imp (fun r M7 hE hp hE2 => ⟨hp.1, fun M8 hM8 => ?_⟩)
  have m2 : M8 = mC0 := by rw [hM8, hp.2]; rfl
  clear hp hM8 hE hE2
  subst m2
  intro q6 M5 hq6 hM5
  have hq6 : q6 = 4 := hq6.trans n_C0
  subst hq6 hM5
  refine (S_treeX (M := nwO mC0 10 11) (x0 := 4) ⟨by decide, rfl⟩).imp (fun r M7 hE hp hE2 => ⟨hp.1, fun q17 M16 hq17 hM16 => ?_⟩)
  have m2 : M7 = mD0 := hp.2
  clear hp hE hE2
  subst m2
  have hq17 : q17 = 14 := hq17.trans n_D0
  subst hq17 hM16
  refine ⟨1, r_D0, ?_⟩
  refine (S_readX (M := nwO mD0 6 8) (x0 := 14) ⟨by decide, rfl⟩).imp (fun r M19 hE hp hE2 => ⟨hp.1, fun M20 hM20 q22 M21 hq22 hM21 => ?_⟩)
  have m2 : M20 = mE0 := by rw [hM20, hp.2]; rfl
  clear hp hE hE2 hM20
  subst m2
  have hq22 : q22 = 21 := hq22.trans n_E0
  subst hq22 hM21
  refine (S_weaverX (M := nwO mE0 11 9) (x0 := 21) ⟨by decide, rfl⟩).imp (fun r M23 hE hp hE2 => ⟨hp.1, fun M24 hM24 M25 hM25 M26 hM26 => ⟨trivial, ?_⟩⟩)
  have m2 : M23 = mF0 := hp.2
  rw [hM26, hM25, hM24, m2]
  rfl
