/-! the weaver leaves a node, by what stands above it -/
section
variable {n0 l0 r0 N0 : Nat} {Θ : TrT} {M0 M M' : Mem} {Ψ Ψ' : Wg} {h : Nat} {Q : Option Value → Mem → Prop} {P P1 : Nat → Nat → Int32} {zp : Int32} {x a l : Nat} {kv : Nat → Int32}
theorem W_lv0 (hB : WvB n0 l0 r0 M0) (hW : WvP n0 l0 r0 N0 Θ M0 Ψ M) (hx : x < 640) (ha : a < 640) (hp : Θ.2.2 9 x = Int32.ofNat a) (hk : Θ.2.2 5 a ≠ 4 ∧ Θ.2.2 5 a ≠ 5 ∧ Θ.2.2 5 a ≠ 6 ∧ Θ.2.2 5 a ≠ 7 ∧ Θ.2.2 5 a ≠ 9) (H : Q none M) : E (h + 9) mdX9_leave [.ref 21, .int (Int32.ofNat x)] M Q := by
  obtain ⟨F, hT, h8, o8, hRo, l1, hRf, hE0⟩ := hW.sees hB
  have e9 : mAI M 9 x = Int32.ofNat a := by rw [hT.2.2.2.1 9 (by decide) (by decide)]; exact hp
  have e5 : mAI M 5 a = Θ.2.2 5 a := by rw [hT.2.2.2.1 5 (by decide) (by decide)]
  refine KX9_leave (h := h + 8) ?_
  unfold DX9_leave_0 DX9_leave_215
  rw [lt32 (show x < 2147483648 by omega)]
  refine ⟨ok21 F, 4, rf21_0 F, ok4 F, 9, rf4_4 F, ok9 F, by rw [ln9 F]; exact vp_of hx (by decide), 4, rf21_0 F, ok4 F, 5, rf4_0 F, ok5 F, ?_⟩
  rw [e9, lt32 (show a < 2147483648 by omega), e5]
  refine ⟨by rw [ln5 F]; exact vp_of ha (by decide), ?_⟩
  exact ⟨fun z => absurd z hk.1, fun z => absurd z hk.2.1, fun z => absurd z hk.2.2.1, fun z => absurd z hk.2.2.2.1, fun _ => H, fun z => absurd z hk.2.2.2.2, fun _ => H⟩
/-- what leaving x makes of a's codes -/
def LvC (k : Int32) (l : Nat) (z : Nat) : Prop := (k = 6 ∨ k = 9) ∧ z = l
/-- nets and held masks that leaving a node makes, by the kind of the one above -/
def lW (k : Int32) : Nat := if k = 6 then 1 else if k = 7 then 4 else if k = 9 then 1 else 0
def lH (k : Int32) : Nat := if k = 7 then 1 else 0
theorem lW_6 : lW 6 = 1 := by decide
theorem lW_7 : lW 7 = 4 := by decide
theorem lW_9 : lW 9 = 1 := by decide
theorem lH_7 : lH 7 = 1 := by decide
theorem W_lv (hB : WvB n0 l0 r0 M0) (hW : WvP n0 l0 r0 N0 Θ M0 Ψ M) (hP : RwP n0 P zp M) (hlim : Ψ.1.length < 99890) (ha : a < 640) (hx : x < 640) (hne : x ≠ a) (hp : Θ.2.2 9 x = Int32.ofNat a) (hk : Θ.2.2 5 a = 4 ∨ Θ.2.2 5 a = 5 ∨ Θ.2.2 5 a = 6 ∨ Θ.2.2 5 a = 7 ∨ Θ.2.2 5 a = 9) (hka : ∀ n, n < 20 → okI Ψ (P 28 (a * 20 + n))) (hkx : ∀ n, n < 20 → okI Ψ (P 28 (x * 20 + n))) (hg : okI Ψ (P 22 a)) (hr : okI Ψ (P 23 a)) (hkl : okI Ψ (P 25 a)) (hc : Θ.2.2 5 a = 7 → okI Ψ (Θ.2.2 10 a)) (ho : Θ.2.2 5 a = 6 ∨ Θ.2.2 5 a = 9 → P 26 a = Int32.ofNat (2 * l) ∧ l < Ψ.1.length ∧ (Ψ.2.1.getD l (0, 0)).1 ≠ 0 ∧ (Ψ.2.1.getD l (0, 0)).1 ≠ 6) (K : ∀ M' Ψ' kv, WvP n0 l0 r0 N0 Θ M0 Ψ' M' → RwP n0 (enP P a kv) zp M' → Gr (LvC (Θ.2.2 5 a) l) Ψ Ψ' → (Ψ'.1.length ≤ Ψ.1.length + 24 ∧ Ψ'.2.2.length ≤ Ψ.2.2.length + lH (Θ.2.2 5 a) ∧ Ψ'.1.length + szN kv 20 ≤ Ψ.1.length + nk P a + nk P x + lW (Θ.2.2 5 a)) → (∀ n, n < 20 → okI Ψ' (kv n)) → (Θ.2.2 5 a = 6 ∨ Θ.2.2 5 a = 9 → ClQ Ψ' l (fun w => if Θ.2.2 5 a = 6 then v3O (lV w (P 22 a)) (lV w (P 28 (x * 20))) else v3O (lV w (P 25 a)) (lV w (P 28 (x * 20 + 2))))) → (∀ w HV, gW Ψ' w HV → ∀ n, n < 20 → lV w (kv n) = lvV (Θ.2.2 5 a) n (fun j => lV w (P 28 (a * 20 + j))) (fun j => lV w (P 28 (x * 20 + j))) (lV w (P 23 a)) (HV (Θ.2.2 12 a)) (lV w (Θ.2.2 10 a))) → Q none M') : E (h + 9) mdX9_leave [.ref 21, .int (Int32.ofNat x)] M Q := by
  obtain ⟨F, hT, h8, o8, hRo, l1, hRf, hE0⟩ := hW.sees hB
  have w22 : wvC n0 22 := Or.inl (by omega)
  have w23 : wvC n0 23 := Or.inl (by omega)
  have w26 : wvC n0 26 := Or.inl (by omega)
  have w28 : wvC n0 28 := Or.inl (by omega)
  have va : ∀ {k : Nat}, k = 640 → vp_in (Int32.ofNat a) k := fun e => by rw [e]; exact vp_of ha (by decide)
  have vxn : ∀ {k n : Nat}, k = 12800 → n < 20 → vp_in (Int32.ofNat (x * 20 + n)) k := fun e hn => by rw [e]; exact vp_of (by omega) (by decide)
  have van : ∀ {k n : Nat}, k = 12800 → n < 20 → vp_in (Int32.ofNat (a * 20 + n)) k := fun e hn => by rw [e]; exact vp_of (by omega) (by decide)
  have lx : (Int32.ofNat x).toNatClampNeg = x := lt32 (by omega)
  have la : (Int32.ofNat a).toNatClampNeg = a := lt32 (by omega)
  have ea : Int32.ofNat a * 20 = Int32.ofNat (a * 20) := by rw [Int32.ofNat_mul]; rfl
  have ex : Int32.ofNat x * 20 = Int32.ofNat (x * 20) := by rw [Int32.ofNat_mul]; rfl
  have ea1 : Int32.ofNat (a * 20) + 1 = Int32.ofNat (a * 20 + 1) := (Int32.ofNat_add _ _).symm
  have la0 : (Int32.ofNat (a * 20)).toNatClampNeg = a * 20 := lt32 (by omega)
  have lx0 : (Int32.ofNat (x * 20)).toNatClampNeg = x * 20 := lt32 (by omega)
  have la1 : (Int32.ofNat (a * 20 + 1)).toNatClampNeg = a * 20 + 1 := lt32 (by omega)
  have z0 : ∀ {Φ : Wg}, 1 ≤ Φ.1.length → okI Φ 0 := fun h => ⟨0, rfl, by omega⟩
  have lz : ∀ {Φ : Wg} {w : Nat → Nat} {HV : Int32 → Nat}, gW Φ w HV → lV w 0 = 0 := fun {Φ w HV} g => by
    have e : (0 : Int32) = Int32.ofNat 0 := rfl
    rw [e, lV_of (by decide), lR_0 g.1]
  have e9 : mAI M 9 x = Int32.ofNat a := by rw [hT.2.2.2.1 9 (by decide) (by decide)]; exact hp
  have e5 : mAI M 5 a = Θ.2.2 5 a := by rw [hT.2.2.2.1 5 (by decide) (by decide)]
  refine KX9_leave (h := h + 8) ?_
  unfold DX9_leave_0 DX9_leave_215
  rw [lx]
  refine ⟨ok21 F, 4, rf21_0 F, ok4 F, 9, rf4_4 F, ok9 F, by rw [ln9 F]; exact vp_of hx (by decide), 4, rf21_0 F, ok4 F, 5, rf4_0 F, ok5 F, ?_⟩
  rw [e9, la, ea, ex, ea1, la0, lx0, la1, e5]
  refine ⟨va (ln5 F), ?_⟩
  refine ⟨fun z => ?_, fun z => ?_, fun z => ?_, fun z => ?_, fun z => ?_, fun z => ?_, fun z => ?_⟩
  · refine W_orA (h := h + 2) hB hW hP (by omega) ha hx hne hka hkx (fun M1 Ψ1 kv W1 R1 G1 L1 o1 s1 _ => ⟨rfl, K M1 Ψ1 kv W1 R1 (G1.more (fun _ _ y => y.elim)) (by omega) o1 (fun y => ?_) (fun w HV g n hn => ?_)⟩)
    · rw [z] at y; rcases y with y | y <;> exact absurd y (by decide)
    · rw [s1 w HV g n hn]
      unfold lvV
      rw [if_pos z]
  · refine ⟨28, rf21_7 F, ok28 F, van (n := 0) (ln28 F) (by decide), fun M13 e13 => ?_⟩
    have W13 := hW.wr hB w28 e13
    have P13 := hP.up e13
    have q0 : up2 P 28 (a * 20) 0 28 (a * 20) = 0 := up2_eq
    have qn : ∀ j, j ≠ a * 20 → up2 P 28 (a * 20) 0 28 j = P 28 j := fun j hj => up2_ne (fun y => hj y.2)
    refine W_orA (h := h + 2) hB W13 P13 (by omega) ha hx hne (fun n hn => ?_) (fun n hn => ?_) (fun M1 Ψ1 kv W1 R1 G1 L1 o1 s1 _ => ⟨rfl, K M1 Ψ1 kv W1 (R1.cg (fun c j _ => ?_)) (G1.more (fun _ _ y => y.elim)) ⟨by omega, by omega, ?_⟩ o1 (fun y => ?_) (fun w HV g n hn => ?_)⟩)
    · by_cases y : n = 0
      · rw [y]; show okI Ψ (up2 P 28 (a * 20) 0 28 (a * 20)); rw [q0]; exact z0 l1
      · rw [qn _ (by omega)]; exact hka n hn
    · rw [qn _ (by omega)]; exact hkx n hn
    · unfold enP
      by_cases y : c = 28 ∧ a * 20 ≤ j ∧ j < a * 20 + 20
      · rw [if_pos y, if_pos y]
      · rw [if_neg y, if_neg y, up2_ne (by omega)]
    · have b1 : nk (up2 P 28 (a * 20) 0) a ≤ nk P a := sz_mo 20 (fun k hk => by
        by_cases y : k = 0
        · have e0 : up2 P 28 (a * 20) 0 28 (a * 20 + k) = 0 := by rw [y]; exact q0
          rw [e0]; exact Nat.zero_le _
        · rw [qn _ (by omega)]; exact Nat.le_refl _)
      have b2 : nk (up2 P 28 (a * 20) 0) x = nk P x := sz_cg 20 (fun k hk => qn _ (by omega))
      have b3 := L1.2.2
      rw [b2] at b3
      clear L1
      omega
    · rw [z] at y; rcases y with y | y <;> exact absurd y (by decide)
    · rw [s1 w HV g n hn, qn (x * 20 + n) (by omega)]
      unfold lvV
      rw [if_neg (by rw [z]; decide), if_pos z]
      by_cases y : n = 0
      · rw [y, if_pos rfl]
        show v3O (lV w (up2 P 28 (a * 20) 0 28 (a * 20))) _ = _
        rw [q0, lz g, v3O_0 (lV_le g.1)]
      · rw [qn _ (by omega), if_neg y]
  · -- a loop
    obtain ⟨o1, o2, o3⟩ := ho (Or.inl z)
    have g26 : mAI M 26 a = Int32.ofNat (2 * l) := (hP.1 26 a w26).trans o1
    have g22 : mAI M 22 a = P 22 a := hP.1 22 a w22
    have gx0 : mAI M 28 (x * 20) = P 28 (x * 20) := hP.1 28 _ w28
    refine ⟨n0 + 8, h8, 26, rf21_5 F, ok26 F, va (ln26 F), n0 + 8, h8, 22, rf21_1 F, ok22 F, va (ln22 F), 28, rf21_7 F, ok28 F, vxn (n := 0) (ln28 F) (by decide), o8, ?_⟩
    rw [g26, g22, gx0]
    refine W_or (h := h + 3) hB hW (by omega) hg (hkx 0 (by decide)) (fun M24 Ψ24 r25 W24 O24 G24 L24 k25 s25 _ => ⟨_, rfl, ?_⟩)
    obtain ⟨F24, -, -, o824, hRo24, -⟩ := W24.sees hB
    obtain ⟨lc, ec, hlc⟩ := k25
    have hr24 : (Ψ24.2.1.getD l (0, 0)).1 ≠ 0 ∧ (Ψ24.2.1.getD l (0, 0)).1 ≠ 6 := by rw [G24.2.2.1 l o2]; exact o3
    rw [ec]
    refine ⟨o824, W_close (h := h + 7) hB W24 (by omega) (by have := G24.1; omega) hr24 hlc (fun M27 Ψ27 W27 O27 G27 L27 d27 e27 _ => ⟨rfl, ?_⟩)⟩
    obtain ⟨F27, -, h827, o827, hRo27, -⟩ := W27.sees hB
    have P27 := (hP.ob O24).ob O27
    have c0 : ∀ n, n < Ψ24.1.length → n = l → (Ψ24.2.1.getD n (0, 0)).1 ≠ 0 := fun n _ e => by rw [e]; exact hr24.1
    have gg : Gr (LvC (Θ.2.2 5 a) l) Ψ Ψ27 := (G24.more (fun _ _ y => y.elim)).tr G27 (fun _ _ y => ⟨Or.inl z, y⟩)
    refine W_orA (h := h + 2) hB W27 P27 (by omega) ha hx hne (fun n hn => (hka n hn).gr gg) (fun n hn => (hkx n hn).gr gg) (fun M28 Ψ28 kv W28 R28 G28 L28 o28 s28 _ => ⟨rfl, ?_⟩)
    obtain ⟨F28, -, -, -, hRo28, l28, -⟩ := W28.sees hB
    refine ⟨28, rf21_7 F28, ok28 F28, van (n := 0) (ln28 F28) (by decide), fun M31 e31 => ?_⟩
    refine K M31 Ψ28 (va_up kv 0 0) (W28.wr hB w28 e31) ((R28.up e31).cg (fun c j _ => enP_k (n := 0) (by decide) c j)) (gg.tr G28 (fun _ _ y => y.elim)) ⟨by omega, by rw [L28.2.1, e27, L24.2.1]; exact Nat.le_add_right _ _, ?_⟩ (fun n hn => ?_) (fun _ => ?_) (fun w HV g n hn => ?_)
    · have b1 : szN (va_up kv 0 0) 20 ≤ szN kv 20 := sz_mo 20 (fun k hk => by
        by_cases y : k = 0
        · rw [y, va_up_self]; exact Nat.zero_le _
        · rw [va_up_ne _ _ y]; exact Nat.le_refl _)
      have b2 := L28.2.2
      have b3 := L24.1
      rw [L27] at b2
      rw [z, lW_6]
      clear L28 L24
      omega
    · by_cases y : n = 0
      · rw [y, va_up_self]; exact z0 l28
      · rw [va_up_ne _ _ y]; exact o28 n hn
    · refine ClQ.gr (Ψ := Ψ27) (C := noN) ⟨lc, d27, by rw [L27]; exact hlc, fun w HV g => ?_⟩ G28 (by rw [L27]; have := G24.1; omega) (fun y => y) hRo27 hRo28 (fun _ _ y => y.elim)
      have b24 := g.bk G27 hRo24 hRo27 c0
      have := s25 w HV b24
      rw [ec, lV_of (by have := G24.1; omega)] at this
      show lvN w lc = if Θ.2.2 5 a = 6 then _ else _
      rw [if_pos z]
      exact this
    · unfold lvV
      rw [if_neg (by rw [z]; decide), if_neg (by rw [z]; decide), if_pos z]
      by_cases y : n = 0
      · rw [y, va_up_self, if_pos rfl, lz g]
      · rw [va_up_ne _ _ y, if_neg y]
        exact s28 w HV g n hn
  · -- a suspension
    have oc := hc z
    refine W_orA (h := h + 2) hB hW hP (by omega) ha hx hne hka hkx (fun M32 Ψ32 kv W32 R32 G32 L32 o32 s32 _ => ⟨rfl, ?_⟩)
    obtain ⟨F32, hT32, h832, o832, hRo32, -⟩ := W32.sees hB
    have g23 : mAI M32 23 a = P 23 a := (R32.1 23 a w23).trans (enP_n (by decide))
    refine ⟨n0 + 8, h832, W_res (h := h) hB W32 (by omega) ha (by rw [g23]; exact hr.gr G32) (fun M34 Ψ34 r35 W34 O34 G34 L34 k35 s35 _ => ⟨_, rfl, ?_⟩)⟩
    obtain ⟨F34, hT34, h834, o834, hRo34, -⟩ := W34.sees hB
    have g10 : mAI M34 10 a = Θ.2.2 10 a := by rw [hT34.2.2.2.1 10 (by decide) (by decide)]
    refine ⟨4, rf21_0 F34, ok4 F34, 10, rf4_5 F34, ok10 F34, va (ln10 F34), o834, ?_⟩
    rw [g10]
    refine W_and (h := h + 4) hB W34 (by omega) k35 ((oc.gr G32).gr G34) (fun M41 Ψ41 r42 W41 O41 G41 L41 k42 s42 _ => ⟨_, rfl, ?_⟩)
    obtain ⟨F41, hT41, h841, o841, hRo41, -⟩ := W41.sees hB
    have R41 := (R32.ob O34).ob O41
    have g1 : mAI M41 28 (a * 20 + 1) = kv 1 := (R41.1 28 _ w28).trans (enP_i (by decide))
    refine ⟨28, rf21_7 F41, n0 + 8, h841, 28, rf21_7 F41, ok28 F41, van (ln28 F41) (by decide), o841, ?_⟩
    rw [g1]
    refine W_or (h := h + 3) hB W41 (by omega) (((o32 1 (by decide)).gr G34).gr G41) k42 (fun M48 Ψ48 r49 W48 O48 G48 L48 k49 s49 _ => ⟨_, rfl, ?_⟩)
    obtain ⟨F48, -, -, -, hRo48, -⟩ := W48.sees hB
    refine ⟨ok28 F48, van (ln28 F48) (by decide), fun M51 e51 => ?_⟩
    have GG : Gr noN Ψ32 Ψ48 := (G34.tr G41 (fun _ _ y => y)).tr G48 (fun _ _ y => y)
    refine K M51 Ψ48 (va_up kv 1 r49) (W48.wr hB w28 e51) (((R41.ob O48).up e51).cg (fun c j _ => enP_k (n := 1) (by decide) c j)) ((G32.tr GG (fun _ _ y => y)).more (fun _ _ y => y.elim)) ⟨by omega, by rw [z, lH_7]; omega, ?_⟩ (fun n hn => ?_) (fun y => ?_) (fun w HV g n hn => ?_)
    · have b1 := sz_up (f := kv) (j := 1) (v := r49) 20 (by decide)
      have b2 := L48.2.2
      have b3 := nz_le (v := r42)
      have b4 := L41.1
      have b5 := L34.1
      have b6 := L32.2.2
      rw [z, lW_7]
      clear L48 L41 L34 L32
      omega
    · by_cases y : n = 1
      · rw [y, va_up_self]; exact k49
      · rw [va_up_ne _ _ y]; exact (o32 n hn).gr GG
    · rw [z] at y; rcases y with y | y <;> exact absurd y (by decide)
    · have b41 := g.bk G48 hRo41 hRo48 (fun _ _ y => y.elim)
      have b34 := b41.bk G41 hRo34 hRo41 (fun _ _ y => y.elim)
      have b32 := b34.bk G34 hRo32 hRo34 (fun _ _ y => y.elim)
      unfold lvV
      rw [if_neg (by rw [z]; decide), if_neg (by rw [z]; decide), if_neg (by rw [z]; decide), if_pos z]
      by_cases y : n = 1
      · rw [y, va_up_self, if_pos rfl, s49 w HV g, s42 w HV b41, s35 w HV b34, s32 w HV b32 1 (by decide), g23]
      · rw [va_up_ne _ _ y, if_neg y]
        exact s32 w HV b32 n hn
  · rcases hk with y | y | y | y | y <;> (rw [z] at y; exact absurd y (by decide))
  · obtain ⟨o1, o2, o3⟩ := ho (Or.inr z)
    refine W_lvT (h := h + 2) hB hW hP (by omega) ha hx hne hka hkx hkl o1 o2 o3 (fun M1 Ψ1 kv W1 R1 G1 L1 k1 c1 s1 _ => ⟨rfl, K M1 Ψ1 kv W1 R1 (G1.more (fun _ _ y => ⟨Or.inr z, y⟩)) (by rw [z, lW_9]; omega) k1 (fun _ => ?_) (fun w HV g n hn => ?_)⟩)
    · have e : (fun w => if Θ.2.2 5 a = 6 then v3O (lV w (P 22 a)) (lV w (P 28 (x * 20))) else v3O (lV w (P 25 a)) (lV w (P 28 (x * 20 + 2)))) = (fun w => v3O (lV w (P 25 a)) (lV w (P 28 (x * 20 + 2)))) := by
        funext w
        rw [if_neg (by rw [z]; decide)]
      rw [e]; exact c1
    · unfold lvV
      rw [if_neg (by rw [z]; decide), if_neg (by rw [z]; decide), if_neg (by rw [z]; decide), if_neg (by rw [z]; decide)]
      exact s1 w HV g n hn
  · have ne : ∀ t : Int32, (4 ≤ t.toInt ∧ t.toInt ≤ 9) → Θ.2.2 5 a ≠ t := fun t ht e => by
      rw [e] at z
      omega
    rcases hk with y | y | y | y | y
    · exact absurd y (ne 4 (by decide))
    · exact absurd y (ne 5 (by decide))
    · exact absurd y (ne 6 (by decide))
    · exact absurd y (ne 7 (by decide))
    · exact absurd y (ne 9 (by decide))
end
