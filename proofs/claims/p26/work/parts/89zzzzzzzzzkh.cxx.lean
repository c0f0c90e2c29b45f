section
/-! the class's Search, exactly: its constructor, explore -/
/-- the signals behind some pre -/
def beM (M : Mem) (bc : Nat) : Int32 := shM (fun s => decide (¬ mAI M bc s = 0)) 16
section
variable {M : Mem} {x bc h : Nat} {Q : Option Value → Mem → Prop}
theorem S_befx (ox : ok M x 2) (e8 : mR M x 8 = some bc) (ob : ok M bc 21) (lb : mL M bc = 16) (K : Q (some (.int (beM M bc))) M) : E (h + 1) mdX0_beforeMask [.ref x] M Q := by
  have main : ∀ d i, i + d = 16 → T (h + 1) mdX0_beforeMask 4 [(0, .ref x), (1, .int (shM (fun s => decide (¬ mAI M bc s = 0)) i)), (2, .int (Int32.ofNat i))] [] M Q := by
    intro d
    induction d with
    | zero =>
      intro i hi
      have e : i = 16 := hi
      subst e
      refine VX0_beforeMask_4 ?_
      unfold DX0_beforeMask_4
      exact ⟨ox, bc, e8, ob, fun _ => K, fun z => absurd (by rw [lb]; exact Int32.le_rfl) z⟩
    | succ d ih =>
      intro i hi
      have nx := ih (i + 1) (by omega)
      refine VX0_beforeMask_4 ?_
      unfold DX0_beforeMask_4 DX0_beforeMask_28
      rw [succ32, lt32 (show i < 2147483648 by omega)]
      refine ⟨ox, bc, e8, ob, fun z => absurd ((le32 (by rw [lb]; decide) (by omega)).mp z) (by rw [lb]; omega), fun _ => ⟨bc, e8, ob, by rw [lb]; exact vp_of (by omega) (by decide), fun z => ?_, fun z => ?_⟩⟩
      · have e : shM (fun s => decide (¬ mAI M bc s = 0)) (i + 1) = shM (fun s => decide (¬ mAI M bc s = 0)) i := by
          show (if decide (¬ mAI M bc i = 0) = true then _ else _) = _
          rw [if_neg (by rw [decide_eq_true_eq]; exact fun y => y z)]
        rw [← e]; exact nx
      · have e : shM (fun s => decide (¬ mAI M bc s = 0)) (i + 1) = shM (fun s => decide (¬ mAI M bc s = 0)) i ||| ((1 : Int32) <<< (Int32.ofNat i &&& 31)) := by
          show (if decide (¬ mAI M bc i = 0) = true then _ else _) = _
          rw [if_pos (decide_eq_true z)]
        rw [← e]; exact nx
  refine KX0_beforeMask ?_
  unfold DX0_beforeMask_0
  exact main 16 0 (by omega)
end
section
variable {M : Mem} {x n0 I F bc h : Nat} {Q : Option Value → Mem → Prop}
/-- a search as it is made -/
theorem S_sinx (ox : ok M x 7) (on : ok M n0 3) (e10 : mI M n0 10 = Int32.ofNat I) (e14 : mI M n0 14 = Int32.ofNat F) (hI : I ≤ 4) (hF : F ≤ 100) (e7 : mR M n0 7 = some (n0 + 8)) (oc : ok M (n0 + 8) 2) (e8 : mR M (n0 + 8) 8 = some bc) (ob : ok M bc 21) (lb : mL M bc = 16)
    (K0 : ∀ M', 5 < I + F → fr (fun c => c = x) M M' → ok M' x 7 → mI M' x 2 = 1 → mN M' = mN M + 8 → mS M' ≤ mS M + 3360 → Q none M')
    (K1 : ∀ M' a, I + F ≤ 5 → fr (fun c => c = x) M M' → ScO M' x n0 (I + F) a → (∀ f, 5 ≤ f → f ≤ 12 → mN M ≤ a f ∧ ∀ k, mAI M' (a f) k = 0) → mI M' x 2 = 0 → mI M' x 4 = beM M bc → mN M' = mN M + 8 → mS M' ≤ mS M + 3360 → Q none M') : E (h + 2) mdX5_init [.ref x, .ref n0] M Q := by
  have nx : n0 ≠ x := fun e => by rw [e] at on; exact absurd (on.2.symm.trans ox.2) (by decide)
  have nx8 : n0 + 8 ≠ x := fun e => by rw [e] at oc; exact absurd (oc.2.symm.trans ox.2) (by decide)
  have nbx : bc ≠ x := fun e => by rw [e] at ob; exact absurd (ob.2.symm.trans ox.2) (by decide)
  have d64 : ∀ (w mv : Nat) Ma, (w = 0 ∨ w = 48) → mv ≤ 32 → fr (fun c => c = x) M Ma → mN Ma = mN M → mS Ma = mS M → mI Ma x 1 = Int32.ofNat mv → (∀ M', AcR x (fun j => if j = 4 ∨ j = 5 then w * mv else w) (wI Ma x 4 (beM M bc)) M' 8 → Q none M') → DX5_init_64 (h + 1) x n0 (Int32.ofNat w) Ma Q := by
    intro w mv Ma hw hm fa na sa e1 K
    have w48 : w ≤ 48 := by omega
    have wm : w * mv ≤ 1536 := by
      have := Nat.mul_le_mul w48 hm
      omega
    have lw : (Int32.ofNat w).toNatClampNeg = w := lt32 (by omega)
    have lwm : (Int32.ofNat (w * mv)).toNatClampNeg = w * mv := lt32 (by omega)
    have nw : ¬ Int32.ofNat w < 0 := nn32 w48
    have nwm : ¬ Int32.ofNat (w * mv) < 0 := fun z => by
      have := (ltn32 (a := w * mv) (b := 0) (by omega) (by decide)).mp z
      omega
    have rn := fa.2 n0 on.1 nx
    have rc := fa.2 (n0 + 8) oc.1 nx8
    unfold DX5_init_64
    refine ⟨ok_E on fa.1, n0 + 8, by rw [rn.2.2.1]; exact e7, ok_E oc fa.1, S_befx (h := h) (ok_E oc fa.1) (by rw [rc.2.2.1]; exact e8) (ok_E ob fa.1) (by rw [(fa.1.2.2 _ ob.1).2]; exact lb) (fun _ => ⟨_, rfl, ok_E ox fa.1, fun M7 e7' => ?_⟩)⟩
    have eb : beM Ma bc = beM M bc := by unfold beM; rw [(fa.2 bc ob.1 nbx).2.2.2.1]
    rw [eb] at e7'
    have x7 : x < mN M7 := by rw [e7']; show x < mN Ma; rw [na]; exact ox.1
    have i1 : mI M7 x 1 = Int32.ofNat mv := by rw [e7', mI_wI, if_neg (fun y => absurd y.2 (by decide))]; exact e1
    have s0 : AcR x (fun j => if j = 4 ∨ j = 5 then w * mv else w) M7 M7 0 := AcR.rf
    rw [lw]
    refine ⟨nw, by omega, fun q9 M8 eq9 e8' M10 e10' => ⟨nw, by omega, fun q12 M11 eq12 e11 M13 e13 => ⟨nw, by omega, fun q15 M14 eq15 e14' M16 e16 => ⟨nw, by omega, fun q18 M17 eq18 e17 M19 e19 => ?_⟩⟩⟩⟩
    have s1 := s0.st x7 (w := w) rfl eq9 e8' e10'
    have s2 := s1.st x7 (w := w) rfl eq12 e11 e13
    have s3 := s2.st x7 (w := w) rfl eq15 e14' e16
    have s4 := s3.st x7 (w := w) rfl eq18 e17 e19
    rw [s4.1.2.2.2, i1, mul32, lwm]
    refine ⟨nwm, by omega, fun q21 M20 eq21 e20 M22 e22 => ?_⟩
    have s5 := s4.st x7 (w := w * mv) rfl eq21 e20 e22
    rw [s5.1.2.2.2, i1, mul32, lwm]
    refine ⟨nwm, by omega, fun q24 M23 eq24 e23 M25 e25 => ⟨nw, by omega, fun q27 M26 eq27 e26 M28 e28 => ⟨nw, by omega, fun q30 M29 eq30 e29 M31 e31 => ?_⟩⟩⟩
    have s6 := s5.st x7 (w := w * mv) rfl eq24 e23 e25
    have s7 := s6.st x7 (w := w) rfl eq27 e26 e28
    have s8 := s7.st x7 (w := w) rfl eq30 e29 e31
    exact K M31 (by rw [← e7']; exact s8)
  have base : ∀ (M2 : Mem), M2 = wR M x 0 (some n0) → fr (fun c => c = x) M M2 ∧ mN M2 = mN M ∧ mS M2 = mS M ∧ mR M2 x 0 = some n0 := fun M2 e2 => ⟨by rw [e2]; exact fr_wR rfl, by rw [e2]; rfl, by rw [e2]; rfl, by rw [e2, mR_wR, if_pos ⟨rfl, rfl⟩]⟩
  refine KX5_init (h := h + 1) ?_
  unfold DX5_init_0
  refine ⟨ox, fun M2 e2 => ?_⟩
  obtain ⟨f2, n2, s2, r2⟩ := base M2 e2
  have i2 : mI M2 = mI M := by rw [e2]; rfl
  rw [i2, e10, e14, add32]
  have o2 : ok M2 x 7 := ok_E ox f2.1
  refine ⟨ok_E on f2.1, fun z5 => ?_, fun z5 => ?_⟩
  · have le5 : I + F ≤ 5 := (le32 (a := I + F) (b := 5) (by omega) (by decide)).mp z5
    unfold DX5_init_30 DX5_init_48
    refine ⟨o2, Or.inl rfl, fun M3 e3 => ⟨by rw [e3]; exact o2, fun _ => ⟨by rw [e3]; exact o2, fun M4 e4 => ?_⟩, fun y => absurd (by rw [e3, mI_wI, if_pos ⟨rfl, rfl⟩]) y⟩⟩
    have e3' := e3
    rw [pw_1 le5] at e4
    have o4 : ok M4 x 7 := by rw [e4, e3]; exact o2
    have b4 : mI M4 x 2 = 0 := by rw [e4, mI_wI, if_neg (fun y => absurd y.2 (by decide)), e3, mI_wI, if_pos ⟨rfl, rfl⟩]
    have f4 : fr (fun c => c = x) M M4 := (f2.tr (M2 := M3) (by rw [e3]; exact fr_wI rfl) (fun _ _ z => z)).tr (M2 := M4) (by rw [e4]; exact fr_wI (S := fun c => c = x) rfl) (fun _ _ z => z)
    have r4 : mR M4 x 0 = some n0 := by rw [e4, e3]; exact r2
    obtain ⟨p1, p2⟩ := pw_le le5
    refine ⟨o4, fun _ => ?_, fun y => absurd b4 y⟩
    refine d64 48 (2 ^ (I + F)) M4 (Or.inr rfl) p2 f4 (by rw [e4, e3]; exact n2) (by rw [e4, e3]; exact s2) (by rw [e4, mI_wI, if_pos ⟨rfl, rfl⟩]) (fun M' hA => ?_)
    have main : ∀ Mb, fr (fun c => c = x) M Mb → mN Mb = mN M → mS Mb = mS M → mI Mb x 2 = 0 → mI Mb x 4 = beM M bc → mI Mb x 1 = Int32.ofNat (2 ^ (I + F)) → mR Mb x 0 = some n0 → AcR x (fun j => if j = 4 ∨ j = 5 then 48 * 2 ^ (I + F) else 48) Mb M' 8 → Q none M' := by
      intro Mb fb nb sb i2b i4b i1b r0b hA
      obtain ⟨⟨a1, a2, a3, a4⟩, b, d⟩ := hA
      have sm : smA (fun j => if j = 4 ∨ j = 5 then 48 * 2 ^ (I + F) else 48) 8 ≤ 3360 := by
        show 0 + 48 + 48 + 48 + 48 + 48 * 2 ^ (I + F) + 48 * 2 ^ (I + F) + 48 + 48 ≤ 3360
        omega
      refine K1 M' (fun f => mN M + (f - 5)) le5 (fb.tr a3 (fun _ _ z => z)) ⟨⟨ok_E (ok_E ox fb.1) a3.1, by rw [d 0 (by decide)]; exact r0b, by rw [a4]; exact i1b, le5⟩, fun f f1 f2 => ?_, fun f g f1 f2 g1 g2 z => ?_⟩ (fun f f1 f2 => ⟨Nat.le_add_right _ _, ?_⟩) (by rw [a4]; exact i2b) (by rw [a4]; exact i4b) (by rw [a1, nb]) (by rw [a2, sb]; omega)
      · obtain ⟨b1, b2, b3, -⟩ := b (f - 5) (by omega)
        rw [nb, show 5 + (f - 5) = f by omega] at b1
        rw [nb] at b2 b3
        refine ⟨b1, b2, b3.trans ?_⟩
        by_cases y : f = 9 ∨ f = 10
        · rw [if_pos y]; exact if_pos (by omega)
        · rw [if_neg y]; exact if_neg (by omega)
      · have z : mN M + (f - 5) = mN M + (g - 5) := z
        omega
      · have := (b (f - 5) (by omega)).2.2.2
        rw [nb] at this
        exact this
    exact main (wI M4 x 4 (beM M bc)) (f4.tr (fr_wI (S := fun c => c = x) rfl) (fun _ _ z => z)) (by rw [e4, e3]; exact n2) (by rw [e4, e3]; exact s2) (by rw [mI_wI, if_neg (fun y => absurd y.2 (by decide))]; exact b4) (by rw [mI_wI, if_pos ⟨rfl, rfl⟩]) (by rw [mI_wI, if_neg (fun y => absurd y.2 (by decide)), e4, mI_wI, if_pos ⟨rfl, rfl⟩]) r4 hA
  · have gt5 : 5 < I + F := by
      rcases Nat.lt_or_ge 5 (I + F) with y | y
      · exact y
      · exact absurd ((le32 (a := I + F) (b := 5) (by omega) (by decide)).mpr y) z5
    unfold DX5_init_30 DX5_init_48
    refine ⟨o2, Or.inr rfl, fun M3 e3 => ⟨by rw [e3]; exact o2, fun y => ?_, fun _ => ⟨by rw [e3]; exact o2, fun M4 e4 => ?_⟩⟩⟩
    · rw [e3, mI_wI, if_pos ⟨rfl, rfl⟩] at y
      exact absurd y (by decide)
    have o4 : ok M4 x 7 := by rw [e4, e3]; exact o2
    have b4 : mI M4 x 2 = 1 := by rw [e4, mI_wI, if_neg (fun y => absurd y.2 (by decide)), e3, mI_wI, if_pos ⟨rfl, rfl⟩]
    have f4 : fr (fun c => c = x) M M4 := (f2.tr (M2 := M3) (by rw [e3]; exact fr_wI rfl) (fun _ _ z => z)).tr (M2 := M4) (by rw [e4]; exact fr_wI (S := fun c => c = x) rfl) (fun _ _ z => z)
    refine ⟨o4, fun y => ?_, fun _ => ?_⟩
    · rw [b4] at y; exact absurd y (by decide)
    refine d64 0 1 M4 (Or.inl rfl) (by decide) f4 (by rw [e4, e3]; exact n2) (by rw [e4, e3]; exact s2) (by rw [e4, mI_wI, if_pos ⟨rfl, rfl⟩]; rfl) (fun M' hA => ?_)
    have main : ∀ Mb, fr (fun c => c = x) M Mb → mN Mb = mN M → mS Mb = mS M → mI Mb x 2 = 1 → AcR x (fun j => if j = 4 ∨ j = 5 then 0 * 1 else 0) Mb M' 8 → Q none M' := by
      intro Mb fb nb sb i2b hA
      obtain ⟨⟨a1, a2, a3, a4⟩, b, d⟩ := hA
      exact K0 M' gt5 (fb.tr a3 (fun _ _ z => z)) (ok_E (ok_E ox fb.1) a3.1) (by rw [a4]; exact i2b) (by rw [a1, nb]) (by rw [a2, sb]; exact Nat.add_le_add_left (show smA (fun j => if j = 4 ∨ j = 5 then 0 * 1 else 0) 8 ≤ 3360 by decide) _)
    exact main (wI M4 x 4 (beM M bc)) (f4.tr (fr_wI (S := fun c => c = x) rfl) (fun _ _ z => z)) (by rw [e4, e3]; exact n2) (by rw [e4, e3]; exact s2) (by rw [mI_wI, if_neg (fun y => absurd y.2 (by decide))]; exact b4) hA
end
section
variable {τ : Td} {m : Nat} {σ : PS} {root : Nat} {γ : Gh} {g0 n0 n1 gw : Nat} {Z0 P : Nat → Nat → Int32} {zp : Int32} {Ψ1 Ψ2 : Wg} {R : RMo} {zn fn y0 q0 : Nat} {lc rc cc pb ib b1 b2 ya0 na0 pz x t h : Nat} {hl : List Int32} {ps : List Nat} {a : Nat → Nat} {M : Mem} {Q : Option Value → Mem → Prop} {ask o : Int32}
theorem S_expx (hW : MdW τ m σ root γ g0 n0 gw Z0 P zp Ψ1 Ψ2) (hT : TwT (woS τ m σ γ) R zn fn y0 root q0) (hR : MdR τ m σ R) (h16 : τ.1.length ≤ 16) (hro : τ.2.1.length = τ.1.length) (i4 : (inL τ.2.1).length ≤ 4) (hz : MoZ n0 n1 lc rc cc pb ib b1 b2 ps) (hM : MoM M n0 τ σ Ψ2 hl lc rc cc pb ib b1 b2 ya0 na0 pz ps) (hP : MoP M n0 τ P pz root) (hO : ScO M x n0 t a) (zr : ∀ f, 5 ≤ f → f ≤ 12 → ∀ k, mAI M (a f) k = 0) (ht : (inL τ.2.1).length + (ifS σ).length = t) (hx : ∀ r, r = x ∨ rwF a r → ¬ (n0 ≤ r ∧ r < n1) ∧ r ≠ ya0 ∧ r ≠ na0) (hbig : mN M + 4 < mBig) (e2 : mI M x 2 = 0) (e4 : mI M x 4 = ask) (eo : mI M n0 11 = o) (K : ∀ M' n' ya na, fr (SeF n0 ya0 na0 x a) M M' → MoM M' n0 τ σ Ψ2 hl lc rc cc pb ib b1 b2 ya na pz ps → MoP M' n0 τ P pz root → ScO M' x n0 t a → ScC M' x t n' a → 1 ≤ n' → ((mI M' x 2 = 0 ∧ ∃ Y G, n' = Y.1.length ∧ FnX (CorW τ n0 R Ψ2 P pz root) ask t Y false ∧ TiC M' x t a Y ∧ CgC M' a n' G ∧ GFn Y o t n' G) ∨ (mI M' x 2 = 1 ∧ ∃ Y, FnX (CorW τ n0 R Ψ2 P pz root) ask t Y true)) → LnP ya0 na0 ya na Ψ2.1.length M M' → Q none M') : E (h + 6) mdX5_explore [.ref x] M Q := by
  obtain ⟨C, eC⟩ : ∃ C, C = CorW τ n0 R Ψ2 P pz root := ⟨_, rfl⟩
  rw [← eC] at K
  have hC : (∀ s, s < 48 → ∃ q, q < 48 ∧ mAI M (a 7) s = Int32.ofNat q) ∧ ∀ j, j < 48 * 2 ^ t → mAI M (a 9) j < 0 ∨ ∃ q, q < 48 ∧ mAI M (a 9) j = Int32.ofNat q := ⟨fun s hs => ⟨0, by decide, by rw [zr 7 (by decide) (by decide)]; rfl⟩, fun j hj => Or.inr ⟨0, by decide, by rw [zr 9 (by decide) (by decide)]; rfl⟩⟩
  -- what the MOVES of s STATES have come to
  obtain ⟨J, eJ⟩ : ∃ J : Mem → Nat → Nat → Prop, J = fun M1 s n1 => ((mI M1 x 2 = 0 ∧ ∃ Y' : XsT, n1 = Y'.1.length ∧ RnX C ask t (s * 2 ^ t) Y' false ∧ TiC M1 x t a Y') ∨ (mI M1 x 2 = 1 ∧ ∃ Y', FnX C ask t Y' true)) ∧ mI M1 x 4 = ask ∧ (∀ k, mAI M1 (a 11) k = 0) ∧ MoP M1 n0 τ P pz root := ⟨_, rfl⟩
  have n0x : n0 ≠ x := fun e => (hx x (Or.inl rfl)).1 (by rw [← e]; have := hz.1; omega)
  have n0r : ∀ {r : Nat}, r = x ∨ rwF a r → ¬ (r = n0) := fun z e => (hx _ z).1 (by rw [e]; have := hz.1; omega)
  have okr : ∀ {r : Nat}, r = x ∨ rwF a r → ok M r 7 ∨ ok M r 21 := fun {r} z => by
    rcases z with z | ⟨f, f1, f2, z⟩
    · exact Or.inl (by rw [z]; exact hO.1.1)
    · exact Or.inr (by rw [z]; exact (hO.2.1 f f1 f2).2.1)
  have d50 : ∀ M1 n1' ya na, fr (SeF n0 ya0 na0 x a) M M1 → MoM M1 n0 τ σ Ψ2 hl lc rc cc pb ib b1 b2 ya na pz ps → ScO M1 x n0 t a → ScC M1 x t n1' a → 1 ≤ n1' → (J M1 n1' n1' ∨ (mI M1 x 2 = 1 ∧ (∃ Y', FnX C ask t Y' true) ∧ MoP M1 n0 τ P pz root)) → LnP ya0 na0 ya na Ψ2.1.length M M1 → DX5_explore_50 (h + 5) x M1 Q := by
    intro M1 n1' ya na k1 Mo1 O1 C1 h1 b1 N1
    have bg : mN M1 < mBig := by rcases N1 with ⟨-, -, e, -⟩ | ⟨-, -, e, -⟩ <;> omega
    unfold DX5_explore_50 DX5_explore_61
    refine ⟨O1.1.1, fun nz => ?_, fun z => ?_⟩
    · have bb : (mI M1 x 2 = 1 ∧ ∃ Y', FnX C ask t Y' true) ∧ MoP M1 n0 τ P pz root := by
        rw [eJ] at b1
        rcases b1 with ⟨b1, -, -, bp⟩ | ⟨b1, b2', bp⟩
        · exact ⟨b1.resolve_left (fun y => nz y.1), bp⟩
        · exact ⟨⟨b1, b2'⟩, bp⟩
      exact K M1 n1' ya na k1 Mo1 bb.2 O1 C1 h1 (Or.inr bb.1) N1
    obtain ⟨Y, eY, rn, ti, zg, bp⟩ : ∃ Y : XsT, n1' = Y.1.length ∧ RnX C ask t (n1' * 2 ^ t) Y false ∧ TiC M1 x t a Y ∧ (∀ k, mAI M1 (a 11) k = 0) ∧ MoP M1 n0 τ P pz root := by
      rw [eJ] at b1
      rcases b1 with ⟨b1, -, zg, bp⟩ | ⟨b1, -⟩
      · rcases b1 with ⟨-, Y, y1, y2, y3⟩ | ⟨b1, -⟩
        · exact ⟨Y, y1, y2, y3, zg, bp⟩
        · rw [b1] at z; exact absurd z (by decide)
      · rw [b1] at z; exact absurd z (by decide)
    have on1 : mI M1 n0 11 = o := by
      rw [(k1.2 n0 hM.1.1.1.1 (fun z => ?_)).1]; exact eo
      have on0 := hM.1.1.1
      rcases z with z | z | z | z
      · omega
      · have oy := hM.2.2.2.2.2.1.1.2.1.2.1
        rw [z] at on0; exact absurd (on0.2.symm.trans oy.2) (by decide)
      · have oy := hM.2.2.2.2.2.1.1.2.2.1.2.1
        rw [z] at on0; exact absurd (on0.2.symm.trans oy.2) (by decide)
      · exact n0r z rfl
    refine S_grAx (h := h + 1) O1 ti (RnX.ok _ _ _ rn) eY Mo1.1.1.1 n0x on1 (fun s _ => zg s) (fun M2 G k2 G2 gf _ => ⟨rfl, ?_⟩)
    have sub : ∀ r, (r = x ∨ (r = a 11 ∨ r = a 12)) → r = x ∨ rwF a r := fun r z => by
      rcases z with z | z | z
      · exact Or.inl z
      · exact Or.inr ⟨11, by decide, by decide, z⟩
      · exact Or.inr ⟨12, by decide, by decide, z⟩
    refine K M2 n1' ya na (k1.tr k2.fr (fun c _ z => Or.inr (Or.inr (Or.inr (sub c z))))) (Mo1.out hz bg k2.fr (fun r z => (hx r (sub r z)).1) (fun r z => ?_)) (bp.k (fun c hc => k2.2.2.2.2 _ (fun z => (hx _ (sub _ (Or.inr z))).1 (by have := hz.1; omega))) (by rw [k2.2.2.1 _ (fun z => (hx x (Or.inl rfl)).1 (by rw [← z]; have := hz.1; omega))])) (O1.gm k2 (fun z => z)) (C1.k (k2.2.2.2.1 3 (fun z => z)) (k2.2.2.2.2 _ (fun z => z.elim (hO.ne (by decide) (by decide) (by decide) (by decide) (by decide)) (hO.ne (by decide) (by decide) (by decide) (by decide) (by decide)))) (k2.2.2.2.2 _ (fun z => z.elim (hO.ne (by decide) (by decide) (by decide) (by decide) (by decide)) (hO.ne (by decide) (by decide) (by decide) (by decide) (by decide))))) h1 (Or.inl ⟨by rw [k2.2.2.2.1 2 (fun z => z)]; exact z, Y, G, eY, ⟨_, rn, Or.inr (by rw [eY])⟩, ti.k (k2.2.2.2.1 3 (fun z => z)) (fun f f1 f2 => k2.2.2.2.2 _ (fun z => z.elim (hO.ne f1 (by omega) (by decide) (by decide) (by omega)) (hO.ne f1 (by omega) (by decide) (by decide) (by omega)))), G2, gf⟩) ?_
    · rcases okr (sub r z) with o | o
      · rw [(ok_E o k1.1).2]; decide
      · rw [(ok_E o k1.1).2]; decide
    · unfold LnP
      rw [k2.1.1, k2.1.2.1, k2.1.2.2.2]
      exact N1
  have l18 : ∀ d s M1 n1' ya na, s + d = 48 → s ≤ n1' → fr (SeF n0 ya0 na0 x a) M M1 → MoM M1 n0 τ σ Ψ2 hl lc rc cc pb ib b1 b2 ya na pz ps → ScO M1 x n0 t a → ScC M1 x t n1' a → 1 ≤ n1' → J M1 s n1' → LnP ya0 na0 ya na Ψ2.1.length M M1 → T (h + 6) mdX5_explore 18 [(0, .ref x), (1, .int (Int32.ofNat s))] [] M1 Q := by
    intro d
    induction d with
    | zero =>
      intro s M1 n1' ya na hs sn1 k1 Mo1 O1 C1 h1 b1 N1
      have es : s = 48 := hs
      subst es
      refine VX5_explore_18 (h := h + 5) ?_
      unfold DX5_explore_18
      have e48 : n1' = 48 := by have := C1.1.2; omega
      exact ⟨fun _ => d50 M1 n1' ya na k1 Mo1 O1 C1 h1 (Or.inl (by rw [e48] at b1 ⊢; exact b1)) N1, fun z => absurd Int32.le_rfl z⟩
    | succ d ih =>
      intro s M1 n1' ya na hs sn1 k1 Mo1 O1 C1 h1 b1 N1
      refine VX5_explore_18 (h := h + 5) ?_
      unfold DX5_explore_18
      rw [C1.1.1, succ32]
      refine ⟨fun z => absurd ((le32 (a := 48) (by decide) (by omega)).mp z) (by omega), fun _ => ⟨O1.1.1, fun z => d50 M1 n1' ya na k1 Mo1 O1 C1 h1 (Or.inl ?_) N1, fun z => ⟨fun nz => d50 M1 n1' ya na k1 Mo1 O1 C1 h1 (Or.inr ?_) N1, fun b0 => ?_⟩⟩⟩
      · have := (le32 (a := n1') (b := s) (by have := C1.1.2; omega) (by omega)).mp z
        rw [show n1' = s by omega] at b1 ⊢
        exact b1
      · rw [eJ] at b1
        have q := b1.1.resolve_left (fun y => nz y.1)
        exact ⟨q.1, q.2, b1.2.2.2⟩
      have sn : s < n1' := by
        rcases Nat.lt_or_ge s n1' with y | y
        · exact y
        · exact absurd ((le32 (by have := C1.1.2; omega) (by omega)).mpr y) z
      have yl : ∀ {r : Nat}, r < mN M → r ≠ ya0 → r ≠ na0 → r ≠ ya ∧ r ≠ na := fun {r} hr h1 h2 => by
        rcases N1 with ⟨e, e', -⟩ | ⟨e, e', -⟩
        · rw [e, e']; exact ⟨h1, h2⟩
        · omega
      have rlt : ∀ {r : Nat}, r = x ∨ rwF a r → r < mN M := fun z => (okr z).elim (fun o => o.1) (fun o => o.1)
      obtain ⟨Y, eY, rn, ti⟩ : ∃ Y : XsT, n1' = Y.1.length ∧ RnX C ask t (s * 2 ^ t) Y false ∧ TiC M1 x t a Y := by
        rw [eJ] at b1
        rcases b1.1 with ⟨-, y⟩ | ⟨q, -⟩
        · exact y
        · rw [q] at b0; exact absurd b0 (by decide)
      rw [eJ] at b1
      refine S_wkSx (h := h) (Y := Y) (ask := ask) hW hT hR h16 hro i4 hz Mo1 b1.2.2.2 O1 C1 ti eY (by rw [← eC]; exact rn) ht sn (fun r z => ⟨(hx r z).1, yl (rlt z) (hx r z).2.1 (hx r z).2.2⟩) (by rcases N1 with ⟨-, -, e, -⟩ | ⟨-, -, e, -⟩ <;> omega) b0 b1.2.1 (fun M2 n2 ya' na' k2 Mo2 P2 O2 C2 hn2 bb2 q2 ll2 N2 g2 _ => ⟨rfl, ih (s + 1) M2 n2 ya' na' (by omega) (by omega) (k1.tr k2 (fun c hc z => ?_)) Mo2 O2 C2 (by omega) (by rw [eJ]; rw [← eC] at bb2; exact ⟨bb2, q2, fun k => by rw [g2 11 (Or.inl rfl)]; exact b1.2.2.1 k, P2⟩) ?_⟩)
      · unfold SeF at z ⊢
        rcases N1 with ⟨e, e', -⟩ | ⟨e, e', -⟩
        · rw [e, e'] at z; exact z
        · rcases z with z | z | z | z
          · exact Or.inl z
          · omega
          · omega
          · exact Or.inr (Or.inr (Or.inr z))
      · rcases N1 with ⟨e, e', e3, e4⟩ | ⟨e, e', e3, e4, e5, e6⟩
        · rcases N2 with ⟨q, q', q3, q4⟩ | ⟨q, q', q3, q4, q5⟩
          · exact Or.inl ⟨q.trans e, q'.trans e', q3.trans e3, q4.trans e4⟩
          · refine Or.inr ⟨by omega, by omega, by omega, by omega, ?_, ll2⟩
            rw [e, (k1.1.2.2 ya0 hM.2.2.2.2.2.1.1.2.1.2.1.1).2] at q5
            exact q5
        · rcases N2 with ⟨q, q', q3, q4⟩ | ⟨q, q', q3, q4, q5⟩
          · exact Or.inr ⟨q.trans e, q'.trans e', by omega, by omega, e5, ll2⟩
          · omega
  refine KX5_explore (h := h + 5) ?_
  unfold DX5_explore_0 DX5_explore_13
  refine ⟨hO.1.1, fun _ => ⟨hO.1.1, fun M2 e2' => ?_⟩, fun z => absurd e2 z⟩
  have k2 : GmF x f23 noP M M2 := GmF.i (Or.inr rfl) e2'
  have i3 : mI M2 x 3 = Int32.ofNat 1 := by rw [e2', mI_wI, if_pos ⟨rfl, rfl⟩]; rfl
  have a2 : mAI M2 = mAI M := by rw [e2']; rfl
  refine l18 48 0 M2 1 ya0 na0 (by omega) (by omega) (k2.fr.more (fun c _ z => z.elim (fun y => Or.inr (Or.inr (Or.inr (Or.inl y)))) (fun y => y.elim))) (hM.out hz (by omega) k2.fr (fun r z => z.elim (fun y => (hx r (Or.inl y)).1) (fun y => y.elim)) (fun r z => z.elim (fun y => by rw [y, hO.1.1.2]; decide) (fun y => y.elim))) (hO.gm k2 (by decide)) ⟨⟨i3, by decide⟩, by rw [a2]; exact hC.1, by rw [a2]; exact hC.2⟩ (Nat.le_refl _) ?_ (Or.inl ⟨rfl, rfl, k2.1.1, k2.1.2.1⟩)
  have j2 : ∀ f, f ≠ 3 → mI M2 x f = mI M x f := fun f hf => by rw [e2', mI_wI, if_neg (fun y => hf y.2)]
  rw [eJ]
  refine ⟨Or.inl ⟨by rw [j2 2 (by decide)]; exact e2, xs00, rfl, by rw [Nat.zero_mul]; exact ⟨rfl, rfl⟩, i3, fun s hs => ?_, fun s v _ _ => ?_⟩, by rw [j2 4 (by decide)]; exact e4, fun k => by rw [a2]; exact zr 11 (by decide) (by decide) k, hP.k (fun c _ => by rw [a2]) (by rw [k2.2.2.1 _ (fun z => (hx x (Or.inl rfl)).1 (by rw [← z]; have := hz.1; omega))])⟩
  · have hs : s < 1 := hs
    rw [show s = 0 by omega, a2, zr 5 (by decide) (by decide), zr 6 (by decide) (by decide), zr 7 (by decide) (by decide), zr 8 (by decide) (by decide)]
    exact ⟨⟨rfl, rfl⟩, rfl, rfl⟩
  · rw [a2, zr 9 (by decide) (by decide), zr 10 (by decide) (by decide)]
    exact ⟨rfl, rfl⟩
end
end
section
/-! fields of parts that are not there -/
section
variable {b : Nat → Int32} {n m : Nat} {τ : Td} {j i o f1 f2 fo x aw lit y : Nat} {k : Int32} {w : Int64} {K : List KE} {σ σ1 σ2 : PS}
/-- counters and nodes of parts the same -/
def F1 (σ σ' : PS) : Prop := σ'.1.1 = σ.1.1 ∧ ∀ i, σ'.2.1.1 i 1 = σ.2.1.1 i 1
theorem F1.rf : F1 σ σ := ⟨rfl, fun _ => rfl⟩
theorem F1.tr (h : F1 σ σ1) (g : F1 σ1 σ2) : F1 σ σ2 := ⟨g.1.trans h.1, fun i => (g.2 i).trans (h.2 i)⟩
theorem F1.pa {f : Nat} {v : Int32} (hf : f ≠ 1) : F1 σ (paP σ j f v) := ⟨rfl, fun i => up2_ne (fun z => hf z.2.symm)⟩
theorem F1.tp {r : TrT} (h : F1 σ σ1) : F1 σ (trP1 σ1 r) := ⟨h.1, h.2⟩
theorem su_1 {r : Nat × PS} (e : suM b n m τ j f1 f2 fo i o σ = .ok r) (hf : fo ≠ 1) : F1 σ r.2 := by
  unfold suM at e
  obtain ⟨x, -, e⟩ := bind_ok e
  cases e
  exact ⟨rfl, fun i => up2_ne (fun z => hf z.2.symm)⟩
theorem co_1 {r : Nat × PS × Nat} (e : coM b n m τ j i o σ = .ok r) : F1 σ r.2.1 := by
  unfold coM at e
  obtain ⟨x, -, e⟩ := bind_ok e
  cases e
  exact ⟨rfl, fun _ => rfl⟩
theorem at_1 {r : Nat × PS × Nat × Bool} (e : atM b n m τ j i o σ = .ok r) : F1 σ r.2.1 := by
  unfold atM at e
  obtain ⟨x, -, e⟩ := bind_ok e
  obtain ⟨y, e1, e⟩ := bind_ok e
  cases e
  have q := co_1 e1
  by_cases h : x.2 = true
  · rw [if_pos h] at q; exact q
  · rw [if_neg h] at q; exact q
theorem em_1 {r : Nat × PS × Nat} (e : emM b n m τ k j i o σ = .ok r) : F1 σ r.2.1 := by
  unfold emM at e
  by_cases h1 : tK b n i = 2
  · rw [if_pos h1] at e
    cases h2 : fd τ.1 (tC b n i) with
    | none => rw [h2] at e; cases e
    | some s =>
      rw [h2] at e
      have e : (if τ.2.1.getD s 0 = 30 then Except.error (4, tP b n i) else (adv' b n i).bind fun i2 => _) = .ok r := e
      by_cases h3 : τ.2.1.getD s 0 = 30
      · rw [if_pos h3] at e; cases e
      rw [if_neg h3] at e
      obtain ⟨i2, -, e⟩ := bind_ok e
      by_cases h4 : τ.2.2.1.getD s 0 = 0
      · rw [if_pos h4] at e
        by_cases h5 : k = 40 ∧ tK b n i2 = 15
        · rw [if_pos h5] at e; cases e
        · rw [if_neg h5] at e; cases e; exact ⟨rfl, fun _ => rfl⟩
      rw [if_neg h4] at e
      by_cases h5 : k = 40 ∧ tK b n i2 = 15
      · rw [if_pos h5] at e
        by_cases h6 : o = 15
        · rw [if_pos h6] at e; cases e
        rw [if_neg h6] at e
        obtain ⟨i3, -, e⟩ := bind_ok e
        obtain ⟨y, e1, e⟩ := bind_ok e
        obtain ⟨i4, -, e⟩ := bind_ok e
        cases e
        have q := su_1 e1 (by decide)
        have q0 : F1 σ (raP σ (up2 σ.1.2.1 60 (40 * m + j) (Int32.ofNat s))) := ⟨rfl, fun _ => rfl⟩
        exact ((q0.tr (F1.pa (by decide))).tr (F1.pa (by decide))).tr q
      · rw [if_neg h5] at e; cases e
  · rw [if_neg h1] at e; cases e
theorem lf_1 {r : Nat × PS × Nat} (e : lfM b n m τ k w j i K σ = .ok r) : F1 σ r.2.1 := by
  unfold lfM at e
  by_cases k1 : k = 38
  · rw [if_pos k1] at e; cases e; exact F1.rf.tp
  rw [if_neg k1] at e
  by_cases k2 : k = 39
  · rw [if_pos k2] at e; cases e; exact F1.rf.tp
  rw [if_neg k2] at e
  by_cases k3 : k = 40
  · rw [if_pos k3] at e
    obtain ⟨y, e1, e⟩ := bind_ok e
    cases e; exact (em_1 e1).tp
  rw [if_neg k3] at e
  by_cases k4 : k = 41
  · rw [if_pos k4] at e
    obtain ⟨y, e1, e⟩ := bind_ok e
    cases e; exact (em_1 e1).tp
  rw [if_neg k4] at e
  by_cases k5 : k = 47
  · rw [if_pos k5] at e
    obtain ⟨y, e1, e⟩ := bind_ok e
    cases e; exact (at_1 e1).tp
  rw [if_neg k5] at e
  by_cases k6 : k = 57
  · rw [if_pos k6] at e
    by_cases h1 : tK b n i = 2
    · rw [if_pos h1] at e
      cases h2 : trW K (tC b n i) with
      | none => rw [h2] at e; cases e
      | some q =>
        rw [h2] at e
        obtain ⟨i2, -, e⟩ := bind_ok e
        cases e; exact ⟨rfl, fun _ => rfl⟩
    · rw [if_neg h1] at e; cases e
  rw [if_neg k6] at e
  by_cases k7 : k = 2
  · rw [if_pos k7] at e
    obtain ⟨i2, -, e⟩ := bind_ok e
    obtain ⟨y, e1, e⟩ := bind_ok e
    have q := su_1 e1 (by decide)
    have q0 : F1 σ (paP (paP σ j 3 2) j 4 (oi (fd τ.2.2.2.1 w))) := (F1.pa (by decide)).tr (F1.pa (by decide))
    cases e; exact ⟨q.1.trans q0.1, fun i => (q.2 i).trans (q0.2 i)⟩
  rw [if_neg k7] at e
  cases e; exact F1.rf.tp
theorem hd_1 {r : Nat × PS × Nat × Bool × Nat × Option Int64} (e : hdM b n m τ k j i K σ = .ok r) : F1 σ r.2.1 := by
  unfold hdM at e
  by_cases k1 : k = 44
  · rw [if_pos k1] at e
    obtain ⟨y, e1, e⟩ := bind_ok e
    obtain ⟨i2, -, e⟩ := bind_ok e
    cases e; exact co_1 e1
  rw [if_neg k1] at e
  by_cases k2 : k = 49
  · rw [if_pos k2] at e; cases e; exact F1.rf
  rw [if_neg k2] at e
  by_cases k3 : k = 50
  · rw [if_pos k3] at e
    obtain ⟨i2, -, e⟩ := bind_ok e
    cases e; exact F1.rf
  rw [if_neg k3] at e
  by_cases k4 : k = 53
  · rw [if_pos k4] at e
    obtain ⟨y, e1, e⟩ := bind_ok e
    obtain ⟨i2, -, e⟩ := bind_ok e
    cases e; exact (at_1 e1).tp
  rw [if_neg k4] at e
  by_cases k5 : k = 55
  · rw [if_pos k5] at e
    by_cases h1 : tK b n i = 2
    · rw [if_pos h1] at e
      by_cases h2 : toT (tC b n i) τ = true ∨ (trW K (tC b n i)).isSome = true
      · rw [if_pos h2] at e; cases e
      rw [if_neg h2] at e
      obtain ⟨i2, -, e⟩ := bind_ok e
      obtain ⟨i3, -, e⟩ := bind_ok e
      cases e; exact ⟨rfl, fun _ => rfl⟩
    · rw [if_neg h1] at e; cases e
  rw [if_neg k5] at e
  by_cases k6 : k = 58
  · rw [if_pos k6] at e
    obtain ⟨y, e1, e⟩ := bind_ok e
    have q := su_1 e1 (by decide)
    have q0 : F1 σ (paP (paP σ j 3 3) j 4 (Int32.ofNat (σ.1.1 2 - 1))) := (F1.pa (by decide)).tr (F1.pa (by decide))
    by_cases h1 : 7 ≤ tK b n y.1 ∧ tK b n y.1 ≤ 12
    · rw [if_pos h1] at e
      obtain ⟨i2, -, e⟩ := bind_ok e
      obtain ⟨z, e2, e⟩ := bind_ok e
      obtain ⟨i3, -, e⟩ := bind_ok e
      have q2 := su_1 e2 (by decide)
      have q1 : F1 y.2 (paP (raP y.2 (up2 y.2.1.2.1 68 (40 * m + j) (tK b n y.1 - 7))) j 7 (tK b n y.1)) := ⟨rfl, fun i => up2_ne (fun z => absurd z.2 (by decide))⟩
      have q3 := ((q0.tr q).tr q1).tr q2
      cases e; exact ⟨q3.1, q3.2⟩
    · rw [if_neg h1] at e; cases e
  rw [if_neg k6] at e
  by_cases k7 : k = 17
  · rw [if_pos k7] at e
    cases e; exact F1.rf.tp
  rw [if_neg k7] at e
  cases e; exact F1.rf
theorem tl_1 {r : Nat × PS × Nat} (e : tlM b n m τ k j aw lit x i o σ = .ok r) : F1 σ r.2.1 := by
  unfold tlM at e
  by_cases k1 : k = 42
  · rw [if_pos k1] at e
    obtain ⟨i2, -, e⟩ := bind_ok e
    cases e
    by_cases h1 : (trS σ).2.2 13 x &&& 1 = 0
    · rw [if_pos h1]; exact F1.rf.tp
    · rw [if_neg h1]; exact (F1.pa (by decide)).tp
  rw [if_neg k1] at e
  by_cases k2 : k = 49
  · rw [if_pos k2] at e
    obtain ⟨i2, -, e⟩ := bind_ok e
    obtain ⟨y, e1, e⟩ := bind_ok e
    obtain ⟨i3, -, e⟩ := bind_ok e
    have g := at_1 e1
    by_cases h1 : y.2.2.2 = true
    · rw [if_pos h1] at e
      cases e
      exact g.tp
    · rw [if_neg h1] at e
      cases e
      exact g.tp
  rw [if_neg k2] at e
  by_cases k3 : k = 50
  · rw [if_pos k3] at e
    obtain ⟨i2, -, e⟩ := bind_ok e
    obtain ⟨y, e1, e⟩ := bind_ok e
    obtain ⟨i3, -, e⟩ := bind_ok e
    cases e
    exact (at_1 e1).tp
  rw [if_neg k3] at e
  by_cases k4 : k = 52
  · rw [if_pos k4] at e
    obtain ⟨i2, -, e⟩ := bind_ok e
    obtain ⟨y, e1, e⟩ := bind_ok e
    obtain ⟨i3, -, e⟩ := bind_ok e
    cases e
    exact (co_1 e1).tp
  rw [if_neg k4] at e
  by_cases k5 : k = 53
  · rw [if_pos k5] at e
    obtain ⟨i2, -, e⟩ := bind_ok e
    cases e
    exact F1.rf.tp
  rw [if_neg k5] at e
  obtain ⟨i2, -, e⟩ := bind_ok e
  cases e
  exact F1.rf.tp
theorem ch_1 {r : Nat × PS × Nat} (e : chM b n lit x y i σ = .ok r) : F1 σ r.2.1 := by
  unfold chM at e
  obtain ⟨i2, -, e⟩ := bind_ok e
  cases e
  exact F1.rf.tp
/-- parts that are not there have no node; there are not fewer parts -/
def Zp (σ : PS) : Prop := ∀ i, npS σ ≤ i → σ.2.1.1 i 1 = 0
def ZpR (σ σ' : PS) : Prop := npS σ ≤ npS σ' ∧ (Zp σ → Zp σ')
theorem ZpR.tr (h : ZpR σ σ1) (g : ZpR σ1 σ2) : ZpR σ σ2 := ⟨Nat.le_trans h.1 g.1, fun z => g.2 (h.2 z)⟩
theorem F1.z (h : F1 σ σ1) : ZpR σ σ1 := by
  have e : npS σ1 = npS σ := congrFun h.1 0
  exact ⟨by omega, fun z i hi => by rw [h.2 i]; exact z i (by omega)⟩
theorem br_1 {j a x : Nat} {g u : Int32} : F1 σ (brP σ j a x g u) := by
  unfold brP
  split
  · exact ⟨rfl, fun _ => rfl⟩
  · exact ⟨rfl, fun i => up2_ne (fun z => absurd z.2 (by decide))⟩
theorem bg_1 {pl q d : Nat} {wh : Int32} : npS (bgP m k pl q d wh σ) = npS σ + 1 ∧ ZpR σ (bgP m k pl q d wh σ) := by
  have e : npS (bgP m k pl q d wh σ) = npS σ + 1 := by simp [npS, bgP, va_up]
  refine ⟨e, by omega, fun z i hi => ?_⟩
  have hi : npS σ + 1 ≤ i := by omega
  show va_up σ.2.1.1 (npS σ) _ i 1 = 0
  rw [va_up_ne _ _ (by omega)]
  exact z i (by omega)
theorem rw_1 {p : Nat} {q0 : Option Nat} : ZpR σ (rwP p q0 σ) := by
  have e : npS (rwP p q0 σ) = npS σ := by simp [npS, rwP, va_up]
  exact ⟨by omega, fun z i hi => z i (by omega)⟩
theorem fi_1 (hj : j < npS σ) : ZpR σ (fiP m j x σ) := by
  refine ⟨Nat.le_refl _, fun z i hi => ?_⟩
  have hi : npS σ ≤ i := hi
  show up2 σ.2.1.1 j 1 (Int32.ofNat x) i 1 = 0
  rw [up2_ne (fun y => by have := y.1; omega)]
  exact z i hi
theorem hg_1 {a c : Nat} : ZpR σ (hgP σ a c) := ⟨Nat.le_refl _, fun z => z⟩
theorem rp_zp : ∀ (g md : Nat) (K : List KE) (i : Nat) (σ : PS) (a1 a2 a3 a4 : Nat) (c1 c2 : Int32) (r : Nat × PS × Nat), md ≤ 3 → rp b n m τ g md K i σ a1 a2 a3 a4 c1 c2 = .ok r → ZpR σ r.2.1 := by
  intro g
  induction g with
  | zero => intro md K i σ a1 a2 a3 a4 c1 c2 r _ e; unfold rp at e; cases e
  | succ g ih =>
    intro md K i σ a1 a2 a3 a4 c1 c2 r hm e
    by_cases m2 : md = 2
    · subst m2
      rw [rp_bd] at e
      obtain ⟨u0, -, e⟩ := bind_ok e
      obtain ⟨i1, -, e⟩ := bind_ok e
      obtain ⟨u, eb, e⟩ := bind_ok e
      cases e
      show ZpR σ (fiP m (npS σ) u.2.2 u.2.1)
      have q1 := bg_1 (m := m) (σ := σ) (k := tK b n i) (pl := tP b n i) (q := sqK K) (d := K.length) (wh := whK (tK b n i) (tC b n i) τ)
      have main : ZpR (bgP m (tK b n i) (tP b n i) (sqK K) K.length (whK (tK b n i) (tC b n i) τ) σ) u.2.1 := by
        generalize bgP m (tK b n i) (tP b n i) (sqK K) K.length (whK (tK b n i) (tC b n i) τ) σ = s0 at eb
        generalize tK b n i = k at eb
        generalize tC b n i = w at eb
        generalize npS σ = j at eb
        unfold bdM at eb
        by_cases ko : opnK k = false
        · rw [if_pos ko] at eb
          exact (lf_1 eb).z
        rw [if_neg ko] at eb
        obtain ⟨h, eh, eb⟩ := bind_ok eb
        have h1 : ZpR s0 (rwP (40 * m + j) none h.2.1) := (hd_1 eh).z.tr rw_1
        by_cases k17 : k = 17
        · rw [if_pos k17] at eb
          obtain ⟨q, e1, eb⟩ := bind_ok eb
          cases eb
          exact h1.tr (ih 3 _ _ _ _ _ _ _ _ _ q (by decide) e1)
        rw [if_neg k17] at eb
        obtain ⟨q, e1, eb⟩ := bind_ok eb
        have hq := h1.tr (ih 0 _ _ _ _ _ _ _ _ _ q (by decide) e1)
        by_cases k4 : k = 44 ∨ k = 58
        · rw [if_pos k4] at eb
          by_cases k46 : tK b n q.1 = 46
          · rw [if_pos k46] at eb
            obtain ⟨i2, -, eb⟩ := bind_ok eb
            obtain ⟨t, e2, eb⟩ := bind_ok eb
            exact ((hq.tr rw_1).tr (ih 0 _ _ _ _ _ _ _ _ _ t (by decide) e2)).tr (ch_1 eb).z
          · rw [if_neg k46] at eb
            exact (hq.tr (F1.tp F1.rf).z).tr (ch_1 eb).z
        rw [if_neg k4] at eb
        exact hq.tr (tl_1 eb).z
      have lt := main.1
      exact (q1.2.tr main).tr (fi_1 (by omega))
    by_cases m0 : md = 0
    · subst m0
      unfold rp at e
      rw [if_pos rfl] at e
      obtain ⟨q, e1, e⟩ := bind_ok e
      have c1 : ZpR σ (trP1 σ (mkT (trS σ) 5).1) := (F1.tp F1.rf).z
      exact ((c1.tr (ih 2 _ _ _ _ _ _ _ _ _ q (by decide) e1)).tr hg_1).tr (ih 1 _ _ _ _ _ _ _ _ _ r (by decide) e)
    by_cases m1 : md = 1
    · subst m1
      unfold rp at e
      rw [if_neg (by decide), if_pos rfl] at e
      by_cases h13 : tK b n i = 13
      · rw [if_pos h13] at e
        obtain ⟨j, -, e⟩ := bind_ok e
        obtain ⟨q, e1, e⟩ := bind_ok e
        exact ((ih 2 _ _ _ _ _ _ _ _ _ q (by decide) e1).tr hg_1).tr (ih 1 _ _ _ _ _ _ _ _ _ r (by decide) e)
      · rw [if_neg h13] at e; cases e; exact F1.rf.z
    · have m3 : md = 3 := by omega
      subst m3
      unfold rp at e
      rw [if_neg m0, if_neg m1, if_neg m2] at e
      obtain ⟨q, e1, e⟩ := bind_ok e
      have hq := (ih 0 _ _ _ _ _ _ _ _ _ q (by decide) e1).tr (br_1 (σ := q.2.1) (j := a2) (a := a1) (x := q.2.2) (g := c1) (u := c2)).z
      by_cases h6 : tK b n q.1 = 6
      · rw [if_pos h6] at e
        by_cases h8 : a4 = 8
        · rw [if_pos h8] at e; cases e
        rw [if_neg h8] at e
        obtain ⟨j, -, e⟩ := bind_ok e
        exact (hq.tr rw_1).tr (ih 3 _ _ _ _ _ _ _ _ _ r (by decide) e)
      · rw [if_neg h6] at e
        obtain ⟨j, -, e⟩ := bind_ok e
        cases e
        exact hq
end
section
variable {b : Nat → Int32} {n m : Nat} {A : Nat → Nat → Int32} {B : Nat → Int64} {Zt : Nat → Nat → Int32} {r : Nat × Td × PS × Nat}
theorem rdm_zp (e : rdM b n m A B Zt = .ok r) : Zp r.2.2.1 := by
  unfold rdM at e
  by_cases k0 : tK b n 0 = 0
  · rw [if_pos k0] at e; cases e
  rw [if_neg k0] at e
  obtain ⟨q, et, e⟩ := bind_ok e
  obtain ⟨p, eq, e⟩ := bind_ok e
  cases e
  unfold rdQ at eq
  obtain ⟨u, eu, ep⟩ := bind_ok eq
  have up : u = p := by
    by_cases z : tK b n u.1 = 1
    · rw [if_pos z] at ep; cases ep; rfl
    · rw [if_neg z] at ep; cases ep
  subst up
  exact (rp_zp 6000 0 [] q.1 (σI A B (cl0 Zt q.2)) 0 0 0 0 0 0 u (by decide) eu).2 (fun i _ => rfl)
end
end
section
/-! both sides' MOVES come to the same -/
def MtC (C D : CoT) : Prop := ∀ p b f v o o', C p b f v o → D p b f v o' → o = o'
section
variable {C D : CoT} {ask : Int32} {t : Nat}
theorem RnX.mt (hC : MtC C D) : ∀ (k : Nat) (X Y : XsT) (a b : Bool), RnX C ask t k X a → RnX D ask t k Y b → X = Y ∧ a = b
  | 0, X, Y, a, b, h1, h2 => ⟨h1.1.trans h2.1.symm, h1.2.trans h2.2.symm⟩
  | k + 1, X, Y, a, b, ⟨X1, o1, r1, l1, c1, e1⟩, ⟨X2, o2, r2, l2, c2, e2⟩ => by
    obtain ⟨e, -⟩ := RnX.mt hC k X1 X2 false false r1 r2
    subst e
    have eo := hC _ _ _ _ _ _ c1 c2
    subst eo
    have e := e1.trans e2.symm
    exact ⟨congrArg Prod.fst e, congrArg Prod.snd e⟩
theorem FnX.mt (hC : MtC C D) {X Y : XsT} {a b : Bool} (h1 : FnX C ask t X a) (h2 : FnX D ask t Y b) : X = Y ∧ a = b := by
  obtain ⟨k, r1, f1⟩ := h1
  obtain ⟨l, r2, f2⟩ := h2
  have tp : 0 < 2 ^ t := Nat.two_pow_pos t
  rcases Nat.lt_trichotomy k l with z | z | z
  · obtain ⟨d, rfl⟩ : ∃ d, l = k + (d + 1) := ⟨l - k - 1, by omega⟩
    obtain ⟨Z, r3, l3⟩ := RnX.sh d k Y b r2
    obtain ⟨e, ea⟩ := RnX.mt hC k X Z a false r1 r3
    subst e
    rcases f1 with f | f
    · rw [f] at ea; cases ea
    · rw [f, Nat.mul_div_cancel _ tp] at l3
      omega
  · subst z; exact RnX.mt hC k X Y a b r1 r2
  · obtain ⟨d, rfl⟩ : ∃ d, k = l + (d + 1) := ⟨k - l - 1, by omega⟩
    obtain ⟨Z, r3, l3⟩ := RnX.sh d l X a r1
    obtain ⟨e, ea⟩ := RnX.mt hC l Z Y false b r3 r2
    subst e
    rcases f2 with f | f
    · rw [f] at ea; cases ea
    · rw [f, Nat.mul_div_cancel _ tp] at l3
      omega
end
/-! pauses are numbered one by one -/
def PnQ (W : Wo) (L : List Nat) (p p' : Nat) : Prop := p ≤ p' ∧ (∀ z, z ∈ L → (woV W z).1 = 1 → ∃ q, p ≤ q ∧ q < p' ∧ (woV W z).2.2.1 = Int32.ofNat q) ∧ (∀ z z', z ∈ L → z' ∈ L → (woV W z).1 = 1 → (woV W z').1 = 1 → (woV W z).2.2.1 = (woV W z').2.2.1 → z = z') ∧ ∀ q, p ≤ q → q < p' → ∃ z, z ∈ L ∧ (woV W z).1 = 1 ∧ (woV W z).2.2.1 = Int32.ofNat q
section
variable {W : Wo} {L L' : List Nat} {p p' q x : Nat}
theorem PnQ.nil : PnQ W [] p p := ⟨Nat.le_refl _, fun z hz => absurd hz List.not_mem_nil, fun z z' hz => absurd hz List.not_mem_nil, fun q h1 h2 => by omega⟩
theorem PnQ.app (h : PnQ W L p q) (k : PnQ W L' q p') (hp : p' ≤ 1000) : PnQ W (L ++ L') p p' := by
  obtain ⟨a1, a2, a3, a4⟩ := h
  obtain ⟨b1, b2, b3, b4⟩ := k
  refine ⟨by omega, fun z hz kz => ?_, fun z z' hz hz' kz kz' e => ?_, fun r h1 h2 => ?_⟩
  · rcases List.mem_append.mp hz with y | y
    · obtain ⟨r, r1, r2, r3⟩ := a2 z y kz
      exact ⟨r, r1, by omega, r3⟩
    · obtain ⟨r, r1, r2, r3⟩ := b2 z y kz
      exact ⟨r, by omega, r2, r3⟩
  · rcases List.mem_append.mp hz with y | y
    · rcases List.mem_append.mp hz' with y' | y'
      · exact a3 z z' y y' kz kz' e
      · obtain ⟨r, r1, r2, r3⟩ := a2 z y kz
        obtain ⟨r', s1, s2, s3⟩ := b2 z' y' kz'
        rw [r3, s3] at e
        have := inj32 (by omega) (by omega) e
        omega
    · rcases List.mem_append.mp hz' with y' | y'
      · obtain ⟨r, r1, r2, r3⟩ := b2 z y kz
        obtain ⟨r', s1, s2, s3⟩ := a2 z' y' kz'
        rw [r3, s3] at e
        have := inj32 (by omega) (by omega) e
        omega
      · exact b3 z z' y y' kz kz' e
  · rcases Nat.lt_or_ge r q with y | y
    · obtain ⟨z, z1, z2⟩ := a4 r h1 y
      exact ⟨z, List.mem_append.mpr (Or.inl z1), z2⟩
    · obtain ⟨z, z1, z2⟩ := b4 r y h2
      exact ⟨z, List.mem_append.mpr (Or.inr z1), z2⟩
theorem PnQ.ne (h : PnQ W L p p') (hx : (woV W x).1 ≠ 1) : PnQ W (x :: L) p p' := by
  obtain ⟨a1, a2, a3, a4⟩ := h
  have m : ∀ z, z ∈ x :: L → (woV W z).1 = 1 → z ∈ L := fun z hz kz => by
    rcases List.mem_cons.mp hz with y | y
    · rw [y] at kz; exact absurd kz hx
    · exact y
  refine ⟨a1, fun z hz kz => a2 z (m z hz kz) kz, fun z z' hz hz' kz kz' e => a3 z z' (m z hz kz) (m z' hz' kz') kz kz' e, fun r h1 h2 => ?_⟩
  obtain ⟨z, z1, z2⟩ := a4 r h1 h2
  exact ⟨z, List.mem_cons_of_mem _ z1, z2⟩
theorem PnQ.one (h1 : (woV W x).1 = 1) (h2 : (woV W x).2.2.1 = Int32.ofNat p) : PnQ W [x] p (p + 1) :=
  ⟨Nat.le_succ _, fun z hz _ => ⟨p, Nat.le_refl _, Nat.lt_succ_self _, by rw [List.mem_singleton.mp hz]; exact h2⟩, fun z z' hz hz' _ _ _ => by rw [List.mem_singleton.mp hz, List.mem_singleton.mp hz'], fun q q1 q2 => ⟨x, List.mem_singleton.mpr rfl, h1, by rw [show q = p by omega]; exact h2⟩⟩
theorem PnQ.le (h1 : (woV W x).1 ≠ 1) (h2 : (woV W x).2.2.2 = []) : ∀ g, PnQ W (noL (chV W) g x) p p
  | 0 => PnQ.nil
  | g + 1 => by
    show PnQ W (x :: (chV W x).flatMap (noL (chV W) g)) p p
    have e : chV W x = [] := h2
    rw [e]
    exact PnQ.nil.ne h1
theorem rpl_pn {R : Nat → Nat → Nat → Nat → Prop} {g : Nat} (hR : ∀ d c p q, q ≤ 1000 → R d c p q → PnQ W (noL (chV W) g c) p q) : ∀ (ds cs : List Nat) (p p' : Nat), p' ≤ 1000 → RpLs R ds cs p p' → PnQ W (cs.flatMap (noL (chV W) g)) p p'
  | [], [], p, p', _, h => by
    have h : p' = p := h
    rw [h]; exact PnQ.nil
  | d :: ds, c :: cs, p, p', hp, h => by
    obtain ⟨pm, h1, h2⟩ := h
    have k := rpl_pn hR ds cs pm p' hp h2
    have := k.1
    exact (hR d c p pm (by omega) h1).app k hp
  | [], _ :: _, _, _, _, h => h.elim
  | _ :: _, [], _, _, _, h => h.elim
theorem rp_pn {m zn fn hi : Nat} {u : Vwr} : ∀ (g : Nat) (cx : List (Option Nat)) (y x p p' : Nat), p' ≤ 1000 → RpN W m zn fn u hi g cx y x p p' → PnQ W (noL (chV W) g x) p p'
  | 0, _, _, _, _, _, _, h => by unfold RpN at h; exact h.elim
  | g + 1, cx, y, x, p, p', hp, h => by
    have ih := rp_pn (m := m) (zn := zn) (fn := fn) (hi := hi) (u := u) g
    have n1 : ∀ {k : Int32}, (woV W x).1 = k → k ≠ 1 → (woV W x).1 ≠ 1 := fun e ne => by rw [e]; exact ne
    show PnQ W (x :: (chV W x).flatMap (noL (chV W) g)) p p'
    have one : ∀ {c : Nat}, (woV W x).2.2.2 = [c] → (chV W x).flatMap (noL (chV W) g) = noL (chV W) g c := fun {c} e => by
      have e : chV W x = [c] := e
      rw [e]
      exact List.append_nil _
    unfold RpN at h
    rcases h.2 with ⟨a, c, b1, b2⟩ | ⟨a, b1, b2, b3⟩ | ⟨a, b1, b2, b3, b4⟩ | ⟨a, b1, b2, b3, b4, b5⟩ | ⟨a, b1, b2, b3, b4, b5⟩ | ⟨a, b1, b2, b3, b4, b5⟩ | ⟨a, b1, c1, c2, d1, pm, b2, b3, b4⟩ | ⟨a, b1, c, d, b2, b3, b4⟩ | ⟨a, b1, b5, c, d, b2, b3, b4⟩ | ⟨a, b1, b2, b3⟩ | ⟨a, b1, c, d, t, b2, b3, b4, b5⟩
    · rw [one b1]; exact (ih _ _ _ _ _ hp b2).ne (n1 a (by decide))
    · exact (rpl_pn (fun d c p q hq k => ih _ _ _ _ _ hq k) _ _ _ _ hp b3).ne (n1 a (by decide))
    · have e : chV W x = [] := b1
      rw [e, b4]; exact PnQ.nil.ne (n1 a (by decide))
    · have e : chV W x = [] := b2
      rw [e, b5]; exact PnQ.one a b1
    · have e : chV W x = [] := b1
      rw [e, b5]; exact PnQ.nil.ne (n1 a (by decide))
    · have e : chV W x = [] := b1
      rw [e, b5]; exact PnQ.nil.ne (n1 a (by decide))
    · have e : chV W x = [c1, c2] := b2
      rw [e]
      show PnQ W (x :: (noL (chV W) g c1 ++ (noL (chV W) g c2 ++ []))) p p'
      rw [List.append_nil]
      refine PnQ.ne ?_ (n1 a (by decide))
      rcases b4 with ⟨-, q1, q2, q3⟩ | ⟨d2, -, q2⟩
      · rw [q3]
        exact (ih _ _ _ _ _ (by omega) b3).app (PnQ.le (by rw [q1]; decide) q2 g) (by omega)
      · have k := ih _ _ _ _ _ hp q2
        have := k.1
        exact (ih _ _ _ _ _ (by omega) b3).app k hp
    · rw [one b2]; exact (ih _ _ _ _ _ hp b4).ne (n1 a (by decide))
    · rw [one b2]; exact (ih _ _ _ _ _ hp b4).ne (n1 a (by decide))
    · exact (rpl_pn (fun d c p q hq k => ih _ _ _ _ _ hq k) _ _ _ _ hp b3).ne (n1 a (by decide))
    · rw [one b2]; exact (ih _ _ _ _ _ hp b5).ne (n1 a (by decide))
end
section
variable {Θ : TrT} {P : Nat → Nat → Int32} {c j x : Nat}
/-- the pause with number j -/
theorem psV_at (cx : Θ.2.2 5 x = 1 ∧ Θ.2.2 11 x = Int32.ofNat j) : ∀ (L : List Nat) (v : Int32), (∀ z, z ∈ L → (Θ.2.2 5 z = 1 ∧ Θ.2.2 11 z = Int32.ofNat j) → z = x) → (v = P c x ∨ x ∈ L) → psV Θ P c j L v = P c x
  | [], v, _, h => h.resolve_right List.not_mem_nil
  | a :: L, v, hu, h => by
    show psV Θ P c j L (if Θ.2.2 5 a = 1 ∧ Θ.2.2 11 a = Int32.ofNat j then P c a else v) = P c x
    by_cases z : Θ.2.2 5 a = 1 ∧ Θ.2.2 11 a = Int32.ofNat j
    · rw [if_pos z]
      exact psV_at cx L _ (fun z hz => hu z (List.mem_cons_of_mem _ hz)) (Or.inl (by rw [hu a List.mem_cons_self z]))
    · rw [if_neg z]
      refine psV_at cx L _ (fun z hz => hu z (List.mem_cons_of_mem _ hz)) ?_
      rcases h with h | h
      · exact Or.inl h
      · rcases List.mem_cons.mp h with y | y
        · exact absurd (by rw [← y]; exact cx) z
        · exact Or.inr y
/-- how many pauses there are -/
theorem zpV_at {T : Nat} (hT : T ≤ 1000) : ∀ (L : List Nat) (a : Nat), a ≤ T → (∀ z, z ∈ L → Θ.2.2 5 z = 1 → ∃ q, q < T ∧ Θ.2.2 11 z = Int32.ofNat q) → ∃ b, zpV Θ L (Int32.ofNat a) = Int32.ofNat b ∧ a ≤ b ∧ b ≤ T ∧ ∀ z, z ∈ L → Θ.2.2 5 z = 1 → ∀ q, q < T → Θ.2.2 11 z = Int32.ofNat q → q < b
  | [], a, ha, _ => ⟨a, rfl, Nat.le_refl _, ha, fun z hz => absurd hz List.not_mem_nil⟩
  | x :: L, a, ha, hq => by
    have hL : ∀ z, z ∈ L → Θ.2.2 5 z = 1 → ∃ q, q < T ∧ Θ.2.2 11 z = Int32.ofNat q := fun z hz => hq z (List.mem_cons_of_mem _ hz)
    show ∃ b, zpV Θ L (if Θ.2.2 5 x = 1 then mx12 (Int32.ofNat a) (Θ.2.2 11 x).toNatClampNeg else Int32.ofNat a) = Int32.ofNat b ∧ _
    by_cases z : Θ.2.2 5 x = 1
    · obtain ⟨q, q1, q2⟩ := hq x List.mem_cons_self z
      have e : mx12 (Int32.ofNat a) (Θ.2.2 11 x).toNatClampNeg = Int32.ofNat (if a < q + 1 then q + 1 else a) := by
        rw [q2, lt32 (by omega)]
        unfold mx12
        rw [succ32]
        by_cases y : a < q + 1
        · rw [if_pos y, if_pos ((ltn32 (by omega) (by omega)).mpr y)]
        · rw [if_neg y, if_neg (fun w => y ((ltn32 (by omega) (by omega)).mp w))]
      rw [if_pos z, e]
      obtain ⟨b, b1, b2, b3, b4⟩ := zpV_at hT L (if a < q + 1 then q + 1 else a) (by split <;> omega) hL
      have b2' : a ≤ b ∧ q < b := by split at b2 <;> omega
      refine ⟨b, b1, b2'.1, b3, fun w hw kw r r1 r2 => ?_⟩
      rcases List.mem_cons.mp hw with y | y
      · rw [y, q2] at r2
        have := inj32 (by omega) (by omega) r2
        omega
      · exact b4 w y kw r r1 r2
    · rw [if_neg z]
      obtain ⟨b, b1, b2, b3, b4⟩ := zpV_at hT L a ha hL
      refine ⟨b, b1, b2, b3, fun w hw kw r r1 r2 => ?_⟩
      rcases List.mem_cons.mp hw with y | y
      · rw [y] at kw; exact absurd kw z
      · exact b4 w y kw r r1 r2
end
/-! bits -/
theorem ab_bit {p : Int32} {q : Nat} (hq : q < 32) : ¬ p &&& ((1 : Int32) <<< (Int32.ofNat q &&& 31)) = 0 ↔ btL p q = true := by
  have b1 : ∀ l, l < 32 → btL ((1 : Int32) <<< (Int32.ofNat q &&& 31)) l = decide (l = q) := fun l hl => btS ⟨q, hq⟩ ⟨l, hl⟩
  constructor
  · intro h
    cases e : btL p q with
    | true => rfl
    | false =>
      refine absurd (btL_ext (fun l hl => ?_)) h
      rw [btL_and, b1 l hl, btL_0]
      by_cases z : l = q
      · rw [z, e]; rfl
      · rw [decide_eq_false z, Bool.and_false]
  · intro h z
    have e : btL (p &&& ((1 : Int32) <<< (Int32.ofNat q &&& 31))) q = false := by rw [z, btL_0]
    rw [btL_and, b1 q hq, h, decide_eq_true rfl] at e
    cases e
theorem sNw_b {R : RMo} {p : Int32} {ρ : Plc → Nat} {l : Nat} : ∀ n, btL (sNw R p ρ n) l = true ↔ ∃ k, k < n ∧ sNd R p ρ (700 * moM R + k) = true ∧ btL (moK R (700 * moM R + k)) l = true
  | 0 => ⟨fun h => (by rw [show sNw R p ρ 0 = 0 from rfl, btL_0] at h; exact absurd h (by decide)), fun ⟨k, hk, _⟩ => absurd hk (Nat.not_lt_zero _)⟩
  | n + 1 => by
    have ih := sNw_b (R := R) (p := p) (ρ := ρ) (l := l) n
    by_cases z : sNd R p ρ (700 * moM R + n) = true
    · have e : sNw R p ρ (n + 1) = sNw R p ρ n ||| moK R (700 * moM R + n) := if_pos z
      rw [e, btL_or, Bool.or_eq_true, ih]
      constructor
      · rintro (⟨k, k1, k2⟩ | h)
        · exact ⟨k, by omega, k2⟩
        · exact ⟨n, by omega, z, h⟩
      · rintro ⟨k, k1, k2, k3⟩
        by_cases y : k = n
        · rw [y] at k3; exact Or.inr k3
        · exact Or.inl ⟨k, by omega, k2, k3⟩
    · have e : sNw R p ρ (n + 1) = sNw R p ρ n := if_neg z
      rw [e, ih]
      constructor
      · rintro ⟨k, k1, k2⟩
        exact ⟨k, by omega, k2⟩
      · rintro ⟨k, k1, k2, k3⟩
        by_cases y : k = n
        · rw [y] at k2; exact absurd k2 z
        · exact ⟨k, by omega, k2, k3⟩
end
section
/-! both sides' MOVES come to the same: pauses, signals, the end -/
section
variable {W : Wo} {m zn fn hi g y x p p' : Nat} {u : Vwr} {cx : List (Option Nat)}
theorem rp_k1 (h : RpN W m zn fn u hi g cx y x p p') (k : (woV W x).1 = 1) : (700 * m ≤ y ∧ y < hi) ∧ (u y).1 = 2 ∧ (woV W x).2.2.2 = [] := by
  cases g with
  | zero => unfold RpN at h; exact h.elim
  | succ g =>
    unfold RpN at h
    have no : ∀ {a : Int32}, (woV W x).1 = a → a ≠ 1 → False := fun e ne => ne (e.symm.trans k)
    refine ⟨h.1, ?_⟩
    rcases h.2 with ⟨a, -⟩ | ⟨a, -⟩ | ⟨a, -⟩ | ⟨a, -, b2, b3, -⟩ | ⟨a, -⟩ | ⟨a, -⟩ | ⟨a, -⟩ | ⟨a, -⟩ | ⟨a, -⟩ | ⟨a, -⟩ | ⟨a, -⟩
    · exact (no a (by decide)).elim
    · exact (no a (by decide)).elim
    · exact (no a (by decide)).elim
    · exact ⟨b3, b2⟩
    · exact (no a (by decide)).elim
    · exact (no a (by decide)).elim
    · exact (no a (by decide)).elim
    · exact (no a (by decide)).elim
    · exact (no a (by decide)).elim
    · exact (no a (by decide)).elim
    · exact (no a (by decide)).elim
theorem rp_s2 (h : RpN W m zn fn u hi g cx y x p p') (k : (u y).1 = 2) (nc : ¬ cs1 W x) : (woV W x).1 = 1 := by
  cases g with
  | zero => unfold RpN at h; exact h.elim
  | succ g =>
    unfold RpN at h
    have no : ∀ {a : Int32}, (u y).1 = a → a ≠ 2 → False := fun e ne => ne (e.symm.trans k)
    rcases h.2 with ⟨a, c, b1, -⟩ | ⟨-, b, -⟩ | ⟨-, -, b, -⟩ | ⟨a, -⟩ | ⟨-, -, b, -⟩ | ⟨-, -, b, -⟩ | ⟨-, b, -⟩ | ⟨-, b, -⟩ | ⟨-, b, -⟩ | ⟨-, b, -⟩ | ⟨-, b, -⟩
    · exact absurd ⟨a, by show ((woV W x).2.2.2).length = 1; rw [b1]; rfl⟩ nc
    · exact (no b (by decide)).elim
    · exact (no b (by decide)).elim
    · exact a
    · exact (no b (by decide)).elim
    · exact (no b (by decide)).elim
    · rcases b with ⟨b, -⟩ | ⟨b, -⟩
      · exact (no b (by decide)).elim
      · exact (no b (by decide)).elim
    · exact (no b (by decide)).elim
    · exact (no b (by decide)).elim
    · exact (no b (by decide)).elim
    · exact (no b (by decide)).elim
end
section
variable {τ : Td} {m : Nat} {σ : PS} {root : Nat} {γ : Gh} {g0 n0 gw : Nat} {Z0 P : Nat → Nat → Int32} {zp : Int32} {Ψ1 Ψ2 : Wg} {y g km pz : Nat} {pn mk nu co : Nat → Int32} {S : RBs} {G : Nat → List Nat} {sl : List Nat} {M' : Mem} {ρ : Plc → Nat} {v : Nat → Nat} {p : Int32}
/-- pauses set behind a beat are the same -/
theorem pa_eq (hW : MdW τ m σ root γ g0 n0 gw Z0 P zp Ψ1 Ψ2) (hb : BuW τ m σ root γ pn S G mk nu co sl km g y M') (hM : MeT τ m σ root γ P Ψ2 (mkR τ m σ S G mk nu km) y ρ v) (h2 : ∀ j, ρ j ≤ 2) (kn : KnR (mkR τ m σ S G mk nu km) ρ) (hz : zp = Int32.ofNat pz) (pz24 : pz ≤ 24) : sNw (mkR τ m σ S G mk nu km) p ρ S.1 = shM (stB v p (fun q => (P (n0 + 17) q).toNatClampNeg) (fun q => (P (n0 + 18) q).toNatClampNeg) (fun q => (P (n0 + 19) q).toNatClampNeg)) pz := by
  have hT := hb.tw
  have hRp : RpN (woS τ m σ γ) m σ.2.2.2.length (ifS σ).length (vwR S G) (700 * m + S.1) g [] y root 0 (trS σ).2.1 := hb.2.2.2.1
  have pT : (trS σ).2.1 ≤ 24 := hW.1.2.2.2.1.2.1
  have hQ := rp_pn g [] y root 0 _ (by omega) hRp
  obtain ⟨eL, bL⟩ := hW.L hT
  obtain ⟨-, -, exP, exZ⟩ := hW.2.2.2.2.1.2.2.2.2.2.2
  rw [eL] at exP exZ
  have ft : FtN (chV (woS τ m σ γ)) g root := RpN.ft g [] y root 0 _ hRp
  generalize hL : noL (chV (woS τ m σ γ)) g root = L at hQ bL exP exZ
  obtain ⟨b, b1, b2, b3, b4⟩ := zpV_at (Θ := trS σ) (T := (trS σ).2.1) (by omega) L 0 (Nat.zero_le _) (fun z hz kz => by
    obtain ⟨q, q1, q2, q3⟩ := hQ.2.1 z hz kz
    exact ⟨q, q2, q3⟩)
  have eb : pz = b := inj32 (by omega) (by omega) (by rw [← hz, exZ]; exact b1)
  subst eb
  -- a pause and its node
  have pr : ∀ x d q, x ∈ L → (trS σ).2.2 5 x = 1 → DsR (woS τ m σ γ) (mkR τ m σ S G mk nu km) y root d x → q < (trS σ).2.1 → (trS σ).2.2 11 x = Int32.ofNat q → (q < pz ∧ inR (mkR τ m σ S G mk nu km) d ∧ S.2 80 d = 2 ∧ mk d = (1 : Int32) <<< (Int32.ofNat q &&& 31)) ∧ ρ (0, d, 0) = lV v (P (n0 + 17) q) ∧ ρ (2, d, 0) = lV v (P (n0 + 18) q) ∧ ρ (3, d, 0) = lV v (P (n0 + 19) q) := by
    intro x d q hx kx ds hq nx
    obtain ⟨nn, hd⟩ := id ds
    obtain ⟨g', cx', q1, q2, kk⟩ := DsI.rp nn (y, root) g [] 0 _ hd hRp
    obtain ⟨k1, k2, k3⟩ := rp_k1 kk kx
    have bx := bL x hx
    have hm := (hW.1.cle x bx.1 bx.2).1
    have k3 : (woV (woS τ m σ γ) x).2.2.2 = [] := k3
    rw [k3] at hm
    have hm : (trS σ).2.2 12 x = heV ((trS σ).2.2 5 x) ((trS σ).2.2 11 x) := hm
    have hmk : (trS σ).2.2 12 x = mk d := (hb.pr d x ds).1
    obtain ⟨x1, x2, x3⟩ := exP q (by omega)
    have un : ∀ z, z ∈ L → ((trS σ).2.2 5 z = 1 ∧ (trS σ).2.2 11 z = Int32.ofNat q) → z = x := fun z hz cz => hQ.2.2.1 z x hz hx cz.1 kx (cz.2.trans nx.symm)
    rw [psV_at ⟨kx, nx⟩ L _ un (Or.inr hx)] at x1 x2 x3
    obtain ⟨m1, -⟩ := hM.1 d x ds
    refine ⟨⟨b4 x hx kx q hq nx, k1, k2, ?_⟩, by rw [x1]; exact m1 0 (by decide), by rw [x2]; exact m1 2 (by decide), by rw [x3]; exact m1 3 (by decide)⟩
    rw [← hmk, hm, kx, nx]
    unfold heV
    rw [if_pos rfl]
  refine btL_ext (fun l hl => ?_)
  rw [Bool.eq_iff_iff, sNw_b, shM_b hl pz (by omega), Bool.and_eq_true, decide_eq_true_eq]
  constructor
  · rintro ⟨k, hk, sd, bt⟩
    have hk : k < S.1 := hk
    obtain ⟨d, ed⟩ : ∃ d, d = 700 * m + k := ⟨_, rfl⟩
    have sd : sNd (mkR τ m σ S G mk nu km) p ρ (700 * m + k) = true := sd
    have bt : btL (mk (700 * m + k)) l = true := bt
    rw [← ed] at sd bt
    unfold sNd at sd
    rw [decide_eq_true_eq] at sd
    obtain ⟨s1, s2, s3⟩ := sd
    have di : inR (mkR τ m σ S G mk nu km) d := ⟨by show 700 * m ≤ d; omega, by show d < 700 * m + S.1; omega⟩
    obtain ⟨kk, an⟩ := hT.2.2.2.2 d di
    obtain ⟨x, cx, g', q, q', ds, nc, rp⟩ := cov_a hT.1 hRp kk d an di
    have kx : (trS σ).2.2 5 x = 1 := rp_s2 rp s1 nc
    have hx : x ∈ L := by
      obtain ⟨nn, hd⟩ := id ds
      rw [← hL]
      exact ds_no ft nn d x hd
    obtain ⟨q1, -, q2, q3⟩ := hQ.2.1 x hx kx
    obtain ⟨⟨c1, -, -, c2⟩, r0, r2, r3⟩ := pr x d q1 hx kx ds q2 q3
    rw [c2] at bt
    have el : l = q1 := by
      have := btS ⟨q1, by omega⟩ ⟨l, hl⟩
      rw [show btL ((1 : Int32) <<< (Int32.ofNat q1 &&& 31)) l = decide (l = q1) from this, decide_eq_true_eq] at bt
      exact bt
    rw [el]
    refine ⟨c1, ?_⟩
    unfold stB
    rw [decide_eq_true_eq]
    have s2 : ρ (3, d, 0) = 0 := s2
    have s3 : ρ (0, d, 0) = 1 ∨ (ρ (2, d, 0) = 1 ∧ ¬ p &&& mk d = 0) := s3
    rw [r0, r2, c2] at s3
    rw [r3] at s2
    refine ⟨fun z => ?_, ?_⟩
    · have z : lV v (P (n0 + 19) q1) = 1 := z
      omega
    · rcases s3 with s3 | ⟨s3, s4⟩
      · exact Or.inl s3
      · exact Or.inr ⟨s3, (ab_bit (by omega)).mp s4⟩
  · rintro ⟨lp, st⟩
    unfold stB at st
    rw [decide_eq_true_eq] at st
    obtain ⟨t1, t2⟩ := st
    obtain ⟨x, hx, kx, nx⟩ := hQ.2.2.2 l (Nat.zero_le _) (by omega)
    have kx : (trS σ).2.2 5 x = 1 := kx
    have hx' : x ∈ noL (chV (woS τ m σ γ)) g root := by rw [hL]; exact hx
    rcases cov_b (R := mkR τ m σ S G mk nu km) g [] y root 0 _ hRp x hx' with ⟨d, ds⟩ | ⟨k0, -⟩
    · obtain ⟨⟨c1, c2, c3, c4⟩, r0, r2, r3⟩ := pr x d l hx kx ds (by omega) nx
      obtain ⟨i1, i2⟩ := c2
      have i1 : 700 * m ≤ d := i1
      have i2 : d < 700 * m + S.1 := i2
      refine ⟨d - 700 * m, by show d - 700 * m < S.1; omega, ?_, ?_⟩
      · show sNd (mkR τ m σ S G mk nu km) p ρ (700 * m + (d - 700 * m)) = true
        rw [show 700 * m + (d - 700 * m) = d by omega]
        unfold sNd
        rw [decide_eq_true_eq]
        refine ⟨c3, ?_, ?_⟩
        · have le := h2 (3, d, 0)
          have t1 : ¬ lV v (P (n0 + 19) l) = 1 := t1
          have ne := (kn d ⟨i1, i2⟩).1 3 (by decide)
          rw [← r3] at t1
          omega
        · show ρ (0, d, 0) = 1 ∨ (ρ (2, d, 0) = 1 ∧ ¬ p &&& mk d = 0)
          rw [r0, r2, c4]
          rcases t2 with t2 | ⟨t2, t3⟩
          · exact Or.inl t2
          · exact Or.inr ⟨t2, (ab_bit hl).mpr t3⟩
      · show btL (mk (700 * m + (d - 700 * m))) l = true
        rw [show 700 * m + (d - 700 * m) = d by omega, c4]
        have := btS ⟨l, hl⟩ ⟨l, hl⟩
        rw [show btL ((1 : Int32) <<< (Int32.ofNat l &&& 31)) l = decide (l = l) from this]
        exact decide_eq_true rfl
    · have k0 : (trS σ).2.2 5 x = 0 := k0
      rw [kx] at k0
      exact absurd k0 (by decide)
theorem ifC_U {R : RMo} : ∀ j, ifC R j = ifU (moA R 58) (moM R) j
  | 0 => rfl
  | j + 1 => by
    have ih := ifC_U (R := R) j
    show (if moA R 58 (40 * moM R + j) = 14 then ifC R j + 1 else ifC R j) = ifU (moA R 58) (moM R) j + (if moA R 58 (40 * moM R + j) = 14 then 1 else 0)
    rw [ih]
    split <;> omega
theorem ifU_le {f : Nat → Int32} {m : Nat} : ∀ j, ifU f m j ≤ j
  | 0 => Nat.le_refl _
  | j + 1 => by
    have ih := ifU_le (f := f) (m := m) j
    show ifU f m j + (if f (40 * m + j) = 14 then 1 else 0) ≤ j + 1
    split <;> omega
/-- a MOVE comes to the same on both sides -/
theorem co_mt (hW : MdW τ m σ root γ g0 n0 gw Z0 P zp Ψ1 Ψ2) (hb : BuW τ m σ root γ pn S G mk nu co sl km g y M') (h16 : τ.1.length ≤ 16) (hy41 : σ.2.2.2.length ≤ 410) (hK : TkI τ m σ) (hZ : Zp σ) (if80 : (ifS σ).length ≤ 80) (hz : zp = Int32.ofNat pz) (pz24 : pz ≤ 24) : MtC (CorW τ n0 (mkR τ m σ S G mk nu km) Ψ2 P pz root) (CorR (mkR τ m σ S G mk nu km) (inL τ.2.1) y) := by
  rintro p b f u o o' ⟨w, wJ, wx, ho⟩ ⟨ρ, h2, rJ, rx, hr⟩
  have b2 : ∀ (x : Int32) (k : Nat), b01 x k < 2 := fun x k => by have := (b01_e (x := x) (k := k)).2; omega
  have hB : InB (mkR τ m σ S G mk nu km) (inC (mkR τ m σ S G mk nu km) (inL τ.2.1) p b f u) (ifV (inL τ.2.1) u) := by
    refine ⟨fun s _ => ?_, fun s => b2 _ _, fun q => b2 _ _⟩
    show gvI _ (inL τ.2.1) s < 2
    unfold gvI
    split
    · exact b2 _ _
    split
    · exact b2 _ _
    split <;> exact b2 _ _
  have hIf : IfH τ m σ γ (mkR τ m σ S G mk nu km) (inC (mkR τ m σ S G mk nu km) (inL τ.2.1) p b f u) (ifV (inL τ.2.1) u) := by
    intro d j q c hd s5 j40 e81 e4 hq e58 e1 c1 c2
    have e1 : σ.2.1.1 j 1 = Int32.ofNat c := e1
    have e4 : σ.2.1.1 j 4 = Int32.ofNat q := e4
    have e58 : σ.1.2.1 58 (40 * m + j) = 14 := e58
    have c640 : (trS σ).1 ≤ 640 := hW.1.1.1.1.2
    have jn : j < npS σ := by
      rcases Nat.lt_or_ge j (npS σ) with z | z
      · exact z
      · rw [hZ j z] at e1
        have := inj32 (a := 0) (b := c) (by decide) (by omega) e1
        omega
    have t4 : σ.2.1.1 j 4 = Int32.ofNat (ifU (σ.1.2.1 58) m j) := by
      rcases hK.1 j jn with ⟨-, z, -⟩ | ⟨-, z, -⟩ | ⟨-, z, -⟩ | ⟨-, -, z, -⟩
      · exact absurd e58 z
      · rw [e58] at z; exact absurd z (by decide)
      · rw [e58] at z; exact absurd z (by decide)
      · exact z
    have le := ifU_le (f := σ.1.2.1 58) (m := m) j
    have eq : q = ifU (σ.1.2.1 58) m j := inj32 (by omega) (by omega) (e4.symm.trans t4)
    show b01 (Int32.ofNat u >>> (Int32.ofNat (inL τ.2.1).length &&& 31)) (ifC (mkR τ m σ S G mk nu km) (40 * m + j - 40 * m)) = b01 (Int32.ofNat u >>> (Int32.ofNat (inL τ.2.1).length &&& 31)) q
    rw [show 40 * m + j - 40 * m = j by omega, ifC_U, eq]
    rfl
  have hM := B_meet hW hb hB h16 hy41 hIf h2 rx rJ wx wJ
  obtain ⟨-, hs, hk⟩ := id hM
  rcases ho with ⟨k1, e1⟩ | ⟨k1, e1⟩
  · have kn := hk.mp k1
    rcases hr with ⟨-, e2⟩ | ⟨k2, -⟩
    · rw [e1, e2]
      unfold ocW ocR
      have a1 : shM (fun s => decide (lvN w (sgT τ.1.length s) = 1)) 16 = sGn (mkR τ m σ S G mk nu km) ρ := by
        have w0 : w 0 = 0 := by
          have := wx 0
          unfold FcN at this
          rw [if_pos (by have := hW.ln; omega), if_pos (tb_lt (by decide))] at this
          rw [← this]
          unfold tvR
          exact if_pos rfl
        have c1 := shM_more (f := fun s => decide (lvN w (sgT τ.1.length s) = 1)) (n := τ.1.length) (16 - τ.1.length) (fun k k1 _ => by
          have e : sgT τ.1.length k = 0 := by unfold sgT; exact if_neg (by omega)
          show decide (lvN w (sgT τ.1.length k) = 1) = false
          rw [e, decide_eq_false_iff_not]
          show ¬ (w 0 = 1)
          omega)
        rw [show τ.1.length + (16 - τ.1.length) = 16 by omega] at c1
        rw [c1]
        show _ = shM (fun s => decide (ρ (5, s, 0) = 1)) τ.1.length
        refine shM_cg _ (fun k hk' => ?_)
        have e : sgT τ.1.length k = 2 * (2 + k) := by unfold sgT; rw [if_pos hk']; omega
        show decide (lvN w (sgT τ.1.length k) = 1) = decide (ρ (5, k, 0) = 1)
        rw [e, lv_2, hs k hk']
      have a2 : lvN w (P 28 (root * 20)).toNatClampNeg = ρ (4, y, 0) := (B_root hb hM).symm
      have a3 := pa_eq (p := p) hW hb hM h2 kn hz pz24
      rw [a1, a2]
      show some (_, _, _) = some (_, _, sNw (mkR τ m σ S G mk nu km) p ρ S.1)
      rw [a3]
    · exact absurd kn k2
  · have kn : ¬ KnR (mkR τ m σ S G mk nu km) ρ := fun z => k1 (hk.mpr z)
    rcases hr with ⟨k2, -⟩ | ⟨-, e2⟩
    · exact absurd k2 kn
    · rw [e1, e2]
end
end
section
/-! what the calls on searches answer -/
/-- the search of a module: beyond, or STATES and classes -/
def StP (C : CoT) (ask o : Int32) (t : Nat) : Option (XsT × (Nat → Nat)) → Prop
  | none => 5 < t ∨ ∃ Y, FnX C ask t Y true
  | some (Y, G) => t ≤ 5 ∧ FnX C ask t Y false ∧ GFn Y o t Y.1.length G
theorem FnX.ok {C : CoT} {ask : Int32} {t : Nat} {Y : XsT} {b : Bool} (h : FnX C ask t Y b) : OkX t Y := by
  obtain ⟨k, r, -⟩ := h
  exact RnX.ok k Y b r
theorem StP.mt {C D : CoT} {ask o : Int32} {t : Nat} {r r' : Option (XsT × (Nat → Nat))} (hC : MtC C D) (h : StP C ask o t r) (k : StP D ask o t r') : (r = none ∧ r' = none) ∨ ∃ Y G G', r = some (Y, G) ∧ r' = some (Y, G') ∧ OkX t Y ∧ t ≤ 5 ∧ ∀ s, s < Y.1.length → G s = G' s := by
  rcases r with _ | ⟨Y, G⟩
  · rcases r' with _ | ⟨Y', G'⟩
    · exact Or.inl ⟨rfl, rfl⟩
    · obtain ⟨k1, k2, -⟩ := k
      rcases h with h | ⟨Y, h⟩
      · omega
      · exact absurd (FnX.mt hC h k2).2 (by decide)
  · obtain ⟨h1, h2, h3⟩ := h
    rcases r' with _ | ⟨Y', G'⟩
    · rcases k with k | ⟨Y', k⟩
      · omega
      · exact absurd (FnX.mt hC h2 k).2 (by decide)
    · obtain ⟨k1, k2, k3⟩ := k
      have e := (FnX.mt hC h2 k2).1
      subst e
      exact Or.inr ⟨Y, G, G', rfl, rfl, h2.ok, h1, GFn.uq h2.ok rfl h3 k3⟩
/-- move -/
def AnM (Y : XsT) (t : Nat) (y z w r : Int32) : Prop := (∃ q v, (q < Y.1.length ∧ v < 2 ^ t) ∧ (y = Int32.ofNat q ∧ z = Int32.ofNat v) ∧ ((w = 0 ∧ r = Y.2.1 q v) ∨ (w = 1 ∧ r = Y.2.2 q v) ∨ (w ≠ 0 ∧ w ≠ 1 ∧ r = -9))) ∨ ((∀ q v, q < Y.1.length → v < 2 ^ t → ¬ (y = Int32.ofNat q ∧ z = Int32.ofNat v)) ∧ r = -9)
/-- classOf -/
def AnC (n : Nat) (G : Nat → Nat) (y r : Int32) : Prop := (∃ q, q < n ∧ y = Int32.ofNat q ∧ r = Int32.ofNat (G q)) ∨ ((∀ q, q < n → y ≠ Int32.ofNat q) ∧ r = -9)
/-- k steps back -/
def wyB (Y : XsT) : Nat → Nat → Nat
  | 0, q => q
  | k + 1, q => wyB Y k (stX Y q).2.2.1
/-- the STATE q is k steps from the first -/
def DpX (Y : XsT) : Nat → Nat → Prop
  | 0, q => q = 0
  | k + 1, q => 1 ≤ q ∧ DpX Y k (stX Y q).2.2.1
/-- way -/
def AnW (Y : XsT) (y i r : Int32) : Prop := (∃ q k, q < Y.1.length ∧ y = Int32.ofNat q ∧ DpX Y k q ∧ k < 48 ∧ ((i = -1 ∧ r = Int32.ofNat k) ∨ (i ≠ -1 ∧ ∃ j, j < k ∧ i = Int32.ofNat j ∧ r = Int32.ofNat (stX Y (wyB Y (k - 1 - j) q)).2.2.2) ∨ (i ≠ -1 ∧ (∀ j, j < k → i ≠ Int32.ofNat j) ∧ r = -9))) ∨ ((∀ q, q < Y.1.length → y ≠ Int32.ofNat q) ∧ r = -9)
/-- the first STATE and MOVE with P -/
def FsA (P : Nat → Nat → Prop) (n w : Nat) : Option (Nat × Nat) → Prop
  | some (s, v) => (s < n ∧ v < w) ∧ P s v ∧ (∀ s' v', s' < s → v' < w → ¬ P s' v') ∧ ∀ v', v' < v → ¬ P s v'
  | none => ∀ s v, s < n → v < w → ¬ P s v
def agC (Y : XsT) (a : Nat) (b : Option Nat) (s v : Nat) : Prop := btL (Y.2.2 s v) a = true ∧ ∀ b0, b = some b0 → btL (Y.2.2 s v) b0 = false
/-- never, always: the answer, and what against tells then -/
def AnG (Y : XsT) (t a : Nat) (b : Option Nat) (r x y x' y' : Int32) : Prop := (∃ s v, FsA (agC Y a b) Y.1.length (2 ^ t) (some (s, v)) ∧ r = 0 ∧ x' = Int32.ofNat s ∧ y' = Int32.ofNat v) ∨ (FsA (agC Y a b) Y.1.length (2 ^ t) none ∧ r = 1 ∧ x' = x ∧ y' = y)
section
variable {Y : XsT} {t n k l q : Nat} {G G' : Nat → Nat} {y z w r r' i : Int32}
theorem AnM.uq (hY : OkX t Y) (t5 : t ≤ 5) (h : AnM Y t y z w r) (k : AnM Y t y z w r') : r = r' := by
  obtain ⟨p1, p2⟩ := pw_le t5
  have n48 := hY.1.2
  rcases h with ⟨q, v, ⟨a1, a2⟩, ⟨a3, a4⟩, a5⟩ | ⟨a1, a2⟩
  · rcases k with ⟨q', v', ⟨b1, b2⟩, ⟨b3, b4⟩, b5⟩ | ⟨b1, -⟩
    · have e1 : q = q' := inj32 (by omega) (by omega) (a3.symm.trans b3)
      have e2 : v = v' := inj32 (by omega) (by omega) (a4.symm.trans b4)
      subst e1; subst e2
      rcases a5 with ⟨w0, a⟩ | ⟨w1, a⟩ | ⟨w0, w1, a⟩
      · rcases b5 with ⟨-, b⟩ | ⟨u, -⟩ | ⟨u, -⟩
        · rw [a, b]
        · rw [w0] at u; exact absurd u (by decide)
        · exact absurd w0 u
      · rcases b5 with ⟨u, -⟩ | ⟨-, b⟩ | ⟨-, u, -⟩
        · rw [w1] at u; exact absurd u (by decide)
        · rw [a, b]
        · exact absurd w1 u
      · rcases b5 with ⟨u, -⟩ | ⟨u, -⟩ | ⟨-, -, b⟩
        · exact absurd u w0
        · exact absurd u w1
        · rw [a, b]
    · exact absurd ⟨a3, a4⟩ (b1 q v a1 a2)
  · rcases k with ⟨q', v', ⟨b1, b2⟩, b3, -⟩ | ⟨-, b2⟩
    · exact absurd b3 (a1 q' v' b1 b2)
    · rw [a2, b2]
theorem AnC.uq (n48 : n ≤ 48) (e : ∀ s, s < n → G s = G' s) (h : AnC n G y r) (k : AnC n G' y r') : r = r' := by
  rcases h with ⟨q, a1, a2, a3⟩ | ⟨a1, a2⟩
  · rcases k with ⟨q', b1, b2, b3⟩ | ⟨b1, -⟩
    · have e1 : q = q' := inj32 (by omega) (by omega) (a2.symm.trans b2)
      subst e1
      rw [a3, b3, e q a1]
    · exact absurd a2 (b1 q a1)
  · rcases k with ⟨q', b1, b2, -⟩ | ⟨-, b2⟩
    · exact absurd b2 (a1 q' b1)
    · rw [a2, b2]
theorem DpX.ex (hY : OkX t Y) : ∀ q, q < Y.1.length → ∃ k, k ≤ q ∧ DpX Y k q := by
  intro q
  induction q using Nat.strongRecOn with
  | ind q ih =>
    intro hq
    by_cases z : q = 0
    · exact ⟨0, Nat.zero_le _, z⟩
    · have c := (hY.2.2 q (by omega) hq).1
      obtain ⟨k, k1, k2⟩ := ih _ c (by omega)
      exact ⟨k + 1, by omega, by omega, k2⟩
theorem DpX.uq : ∀ (k l q : Nat), DpX Y k q → DpX Y l q → k = l
  | 0, 0, _, _, _ => rfl
  | 0, l + 1, q, h, g => by have h : q = 0 := h; have := g.1; omega
  | k + 1, 0, q, h, g => by have g : q = 0 := g; have := h.1; omega
  | k + 1, l + 1, q, h, g => by rw [DpX.uq k l _ h.2 g.2]
theorem AnW.uq (hY : OkX t Y) (h : AnW Y y i r) (k : AnW Y y i r') : r = r' := by
  have n48 := hY.1.2
  rcases h with ⟨q, l, a1, a2, a3, a4, a5⟩ | ⟨a1, a2⟩
  · rcases k with ⟨q', l', b1, b2, b3, b4, b5⟩ | ⟨b1, -⟩
    · have e1 : q = q' := inj32 (by omega) (by omega) (a2.symm.trans b2)
      subst e1
      have e2 := DpX.uq l l' q a3 b3
      subst e2
      rcases a5 with ⟨i1, a⟩ | ⟨i1, j, j1, j2, a⟩ | ⟨i1, j1, a⟩
      · rcases b5 with ⟨-, b⟩ | ⟨u, -⟩ | ⟨u, -⟩
        · rw [a, b]
        · exact absurd i1 u
        · exact absurd i1 u
      · rcases b5 with ⟨u, -⟩ | ⟨-, j', c1, c2, b⟩ | ⟨-, u, -⟩
        · exact absurd u i1
        · have e3 : j = j' := inj32 (by omega) (by omega) (j2.symm.trans c2)
          subst e3
          rw [a, b]
        · exact absurd j2 (u j j1)
      · rcases b5 with ⟨u, -⟩ | ⟨-, j', c1, c2, -⟩ | ⟨-, -, b⟩
        · exact absurd u i1
        · exact absurd c2 (j1 j' c1)
        · rw [a, b]
    · exact absurd a2 (b1 q a1)
  · rcases k with ⟨q', l', b1, b2, -⟩ | ⟨-, b2⟩
    · exact absurd b2 (a1 q' b1)
    · rw [a2, b2]
theorem FsA.uq {P : Nat → Nat → Prop} {n w : Nat} {o o' : Option (Nat × Nat)} (h : FsA P n w o) (k : FsA P n w o') : o = o' := by
  rcases o with _ | ⟨s, v⟩
  · rcases o' with _ | ⟨s', v'⟩
    · rfl
    · exact absurd k.2.1 (h s' v' k.1.1 k.1.2)
  · rcases o' with _ | ⟨s', v'⟩
    · exact absurd h.2.1 (k s v h.1.1 h.1.2)
    · obtain ⟨a1, a2, a3, a4⟩ := h
      obtain ⟨b1, b2, b3, b4⟩ := k
      have e : s = s' := by
        rcases Nat.lt_trichotomy s s' with z | z | z
        · exact absurd a2 (b3 s v z a1.2)
        · exact z
        · exact absurd b2 (a3 s' v' z b1.2)
      subst e
      have e : v = v' := by
        rcases Nat.lt_trichotomy v v' with z | z | z
        · exact absurd a2 (b4 v z)
        · exact z
        · exact absurd b2 (a4 v' z)
      rw [e]
theorem AnG.uq {a : Nat} {b : Option Nat} {x y x1 y1 x2 y2 : Int32} (h : AnG Y t a b r x y x1 y1) (k : AnG Y t a b r' x y x2 y2) : r = r' ∧ x1 = x2 ∧ y1 = y2 := by
  rcases h with ⟨s, v, a1, a2, a3, a4⟩ | ⟨a1, a2, a3, a4⟩
  · rcases k with ⟨s', v', b1, b2, b3, b4⟩ | ⟨b1, -⟩
    · have e := FsA.uq a1 b1
      cases e
      exact ⟨by rw [a2, b2], by rw [a3, b3], by rw [a4, b4]⟩
    · have e := FsA.uq a1 b1; cases e
  · rcases k with ⟨s', v', b1, -⟩ | ⟨b1, b2, b3, b4⟩
    · have e := FsA.uq a1 b1; cases e
    · exact ⟨by rw [a2, b2], by rw [a3, b3], by rw [a4, b4]⟩
end
/-- how the first is told -/
def fsV : Option (Nat × Nat) → Int32
  | some (s, v) => Int32.ofNat (s * 32 + v)
  | none => -1
def b1V : Option Nat → Int32
  | some b => (1 : Int32) <<< (Int32.ofNat b &&& 31)
  | none => 0
/-! the class -/
theorem dvn : ∀ (s : Fin 48) (v : Fin 32), ¬ Int32.ofNat (s.val * 32 + v.val) = -1 := by decide +kernel
theorem dv32 : ∀ (s : Fin 48) (v : Fin 32), Int32.ofNat (s.val * 32 + v.val) / 32 = Int32.ofNat s.val ∧ Int32.ofNat (s.val * 32 + v.val) - Int32.ofNat (s.val * 32 + v.val) / 32 * 32 = Int32.ofNat v.val := by decide +kernel
section
variable {M M' : Mem} {x c t n s h : Nat} {a : Nat → Nat} {Y : XsT} {Q : Option Value → Mem → Prop} {y z : Int32}
theorem S_hasSx (hO : ScO M x c t a) (hT : TiC M x t a Y) (n48 : Y.1.length ≤ 48) (K1 : ∀ q, q < Y.1.length → y = Int32.ofNat q → Q (some (.int 1)) M) (K0 : (∀ q, q < Y.1.length → y ≠ Int32.ofNat q) → Q (some (.int 0)) M) : E (h + 1) mdX5_hasState [.ref x, .int y] M Q := by
  refine KX5_hasState ?_
  unfold DX5_hasState_0 DX5_hasState_16 DX5_hasState_17
  refine ⟨fun w => ⟨Or.inl rfl, K0 (fun q hq e => ?_)⟩, fun w => ⟨hO.1.1, fun u => ⟨Or.inl rfl, K0 (fun q hq e => ?_)⟩, fun u => ⟨Or.inr rfl, ?_⟩⟩⟩
  · rw [e] at w; exact nn32 (by omega) w
  · rw [hT.1, e] at u
    have := (le32 (by omega) (by omega)).mp u
    omega
  · rw [hT.1] at u
    obtain ⟨q, hq⟩ := nn_of w
    rw [hq.1] at u
    exact K1 q (by
      rcases Nat.lt_or_ge q Y.1.length with y | y
      · exact y
      · exact absurd ((le32 (by omega) hq.2).mpr y) u) hq.1
theorem S_stsx (hO : ScO M x c t a) (hT : TiC M x t a Y) (hY : OkX t Y) {k : Nat} (hs : s < Y.1.length) (hd : DpX Y k s) (hk : k < 48) (K : Q (some (.int (Int32.ofNat k))) M) : E (h + 1) mdX5_stepsTo [.ref x, .int (Int32.ofNat s)] M Q := by
  obtain ⟨⟨ox, e0, e1, t5⟩, hf, -⟩ := id hO
  have n48 := hY.1.2
  have main : ∀ d j s, j + d = k → s < Y.1.length → DpX Y d s → T (h + 1) mdX5_stepsTo 4 [(0, .ref x), (2, .int (Int32.ofNat j)), (3, .int (Int32.ofNat s))] [] M Q := by
    intro d
    induction d with
    | zero =>
      intro j s hj hs hd
      have e : s = 0 := hd
      have ej : j = k := hj
      subst e; subst ej
      refine VX5_stepsTo_4 ?_
      unfold DX5_stepsTo_4 DX5_stepsTo_27
      exact ⟨fun _ => K, fun z => absurd rfl z⟩
    | succ d ih =>
      intro j s hj hs hd
      obtain ⟨d1, d2⟩ := hd
      have c1 := (hY.2.2 s d1 hs).1
      refine VX5_stepsTo_4 ?_
      unfold DX5_stepsTo_4 DX5_stepsTo_27
      rw [lt32 (show s < 2147483648 by omega), succ32]
      refine ⟨fun z => ?_, fun _ => ⟨fun z => ?_, fun _ => ⟨ox, a 7, (hf 7 (by decide) (by decide)).1, (hf 7 (by decide) (by decide)).2.1, by rw [hO.l48 (by decide) (by decide) (by decide) (by decide)]; exact vp_of (by omega) (by decide), ?_⟩⟩⟩
      · have := inj32 (a := s) (b := 0) (by omega) (by decide) z
        omega
      · have := (le32 (a := 48) (b := j) (by decide) (by omega)).mp z
        omega
      · rw [(hT.2.1 s hs).2.1]
        exact ih (j + 1) _ (by omega) (by omega) d2
  refine KX5_stepsTo ?_
  unfold DX5_stepsTo_0
  exact main k 0 s (by omega) hs hd
theorem DpX.bk {l : Nat} (hY : OkX t Y) : ∀ (d k s : Nat), s < Y.1.length → DpX Y (k + d) s → wyB Y d s < Y.1.length ∧ DpX Y k (wyB Y d s)
  | 0, k, s, hs, hd => ⟨hs, hd⟩
  | d + 1, k, s, hs, hd => by
    have hd : 1 ≤ s ∧ DpX Y (k + d) (stX Y s).2.2.1 := hd
    have c := (hY.2.2 s hd.1 hs).1
    exact DpX.bk (l := l) hY d k _ (by omega) hd.2
theorem S_stox {d : Nat} (hO : ScO M x c t a) (hT : TiC M x t a Y) (hY : OkX t Y) {k : Nat} (hs : s < Y.1.length) (hd : DpX Y (k + d) s) (hk : d < 48) (K : Q (some (.int (Int32.ofNat (stX Y (wyB Y d s)).2.2.2))) M) : E (h + 1) mdX5_stepTo [.ref x, .int (Int32.ofNat s), .int (Int32.ofNat d)] M Q := by
  obtain ⟨⟨ox, e0, e1, t5⟩, hf, -⟩ := id hO
  have n48 := hY.1.2
  have main : ∀ e j s, j + e = d → s < Y.1.length → DpX Y (k + e) s → (stX Y (wyB Y e s)).2.2.2 = (stX Y (wyB Y e s)).2.2.2 → Q (some (.int (Int32.ofNat (stX Y (wyB Y e s)).2.2.2))) M → T (h + 1) mdX5_stepTo 5 [(0, .ref x), (2, .int (Int32.ofNat d)), (3, .int (Int32.ofNat s)), (4, .int (Int32.ofNat j))] [] M Q := by
    intro e
    induction e with
    | zero =>
      intro j s hj hs _ _ KQ
      have ej : j = d := hj
      subst ej
      refine VX5_stepTo_5 ?_
      unfold DX5_stepTo_5 DX5_stepTo_31
      refine ⟨fun _ => ⟨ox, a 8, (hf 8 (by decide) (by decide)).1, (hf 8 (by decide) (by decide)).2.1, by rw [hO.l48 (by decide) (by decide) (by decide) (by decide)]; exact vp_of (by omega) (by decide), ?_⟩, fun z => absurd Int32.le_rfl z⟩
      rw [lt32 (show s < 2147483648 by omega), (hT.2.1 s hs).2.2]
      exact KQ
    | succ e ih =>
      intro j s hj hs hd _ KQ
      have hd : 1 ≤ s ∧ DpX Y (k + e) (stX Y s).2.2.1 := hd
      have c1 := (hY.2.2 s hd.1 hs).1
      refine VX5_stepTo_5 ?_
      unfold DX5_stepTo_5
      rw [lt32 (show s < 2147483648 by omega), succ32]
      refine ⟨fun z => ?_, fun _ => ⟨fun z => ?_, fun _ => ⟨ox, a 7, (hf 7 (by decide) (by decide)).1, (hf 7 (by decide) (by decide)).2.1, by rw [hO.l48 (by decide) (by decide) (by decide) (by decide)]; exact vp_of (by omega) (by decide), ?_⟩⟩⟩
      · have := (le32 (a := d) (b := j) (by omega) (by omega)).mp z
        omega
      · have := (le32 (a := 48) (b := j) (by decide) (by omega)).mp z
        omega
      · rw [(hT.2.1 s hs).2.1]
        exact ih (j + 1) _ (by omega) (by omega) hd.2 rfl KQ
  refine KX5_stepTo ?_
  unfold DX5_stepTo_0
  exact main d 0 s (by omega) hs hd rfl K
theorem S_fsx {p : Nat} {q : Option Nat} (hO : ScO M x c t a) (hT : TiC M x t a Y) (hY : OkX t Y) (hp : p < 16) (hq : ∀ b, q = some b → b < 16) (ey : y = (1 : Int32) <<< (Int32.ofNat p &&& 31)) (ez : z = b1V q) (K : ∀ o, FsA (agC Y p q) Y.1.length (2 ^ t) o → Q (some (.int (fsV o))) M) : E (h + 1) mdX5_firstAgainst [.ref x, .int y, .int z] M Q := by
  obtain ⟨⟨ox, e0, e1, t5⟩, hf, -⟩ := id hO
  obtain ⟨p1, p2⟩ := pw_le t5
  have n48 := hY.1.2
  have c1 := hT.1
  have co : ∀ w : Int32, (w &&& z = 0) ↔ ∀ b0, q = some b0 → btL w b0 = false := fun w => by
    rw [ez]
    cases q with
    | none =>
      refine ⟨fun _ b0 e => (by cases e), fun _ => ?_⟩
      show w &&& 0 = 0
      exact Int32.and_zero
    | some b =>
      have hb := hq b rfl
      show w &&& ((1 : Int32) <<< (Int32.ofNat b &&& 31)) = 0 ↔ _
      constructor
      · intro e b0 eb
        cases eb
        cases hbb : btL w b with
        | false => rfl
        | true => exact absurd e ((ab_bit (by omega)).mpr hbb)
      · intro e
        refine Classical.byContradiction (fun y => ?_)
        have := (ab_bit (p := w) (q := b) (by omega)).mp y
        rw [e b rfl] at this
        cases this
  have cy : ∀ w : Int32, ¬ (w &&& y = 0) ↔ btL w p = true := fun w => by rw [ey]; exact ab_bit (by omega)
  have main : ∀ d s, s + d = Y.1.length → (∀ s' v', s' < s → v' < 2 ^ t → ¬ agC Y p q s' v') → T (h + 1) mdX5_firstAgainst 2 [(0, .ref x), (1, .int y), (2, .int z), (3, .int (Int32.ofNat s))] [] M Q := by
    intro d
    induction d with
    | zero =>
      intro s hs no
      have e : s = Y.1.length := hs
      subst e
      refine VX5_firstAgainst_2 ?_
      unfold DX5_firstAgainst_2
      rw [c1]
      exact ⟨ox, fun _ => K none (fun s v h1 h2 => no s v h1 h2), fun z => absurd Int32.le_rfl z⟩
    | succ d ih =>
      intro s hs no
      have l13 : ∀ e v, v + e = 2 ^ t → (∀ v', v' < v → ¬ agC Y p q s v') → T (h + 1) mdX5_firstAgainst 13 [(0, .ref x), (1, .int y), (2, .int z), (3, .int (Int32.ofNat s)), (4, .int (Int32.ofNat v))] [] M Q := by
        intro e
        induction e with
        | zero =>
          intro v hv nv
          have ev : v = 2 ^ t := hv
          subst ev
          refine VX5_firstAgainst_13 ?_
          unfold DX5_firstAgainst_13
          rw [e1, succ32]
          refine ⟨ox, fun _ => ih (s + 1) (by omega) (fun s' v' h1 h2 => ?_), fun z => absurd Int32.le_rfl z⟩
          by_cases w : s' = s
          · rw [w]; exact nv v' h2
          · exact no s' v' (by omega) h2
        | succ e ihe =>
          intro v hv nv
          obtain ⟨i1, i2, i3⟩ := ix_mv (s := s) (v := v) t5 (by omega) (by omega)
          have nx : ¬ agC Y p q s v → T (h + 1) mdX5_firstAgainst 13 [(0, .ref x), (1, .int y), (2, .int z), (3, .int (Int32.ofNat s)), (4, .int (Int32.ofNat (v + 1)))] [] M Q := fun na => ihe (v + 1) (by omega) (fun v' h1 => by
            by_cases w : v' = v
            · rw [w]; exact na
            · exact nv v' (by omega))
          refine VX5_firstAgainst_13 ?_
          unfold DX5_firstAgainst_13 DX5_firstAgainst_60
          rw [e1, i1, succ32, succ32, lt32 (show s * 2 ^ t + v < 2147483648 by omega)]
          refine ⟨ox, fun z => absurd ((le32 (by omega) (by omega)).mp z) (by omega), fun _ => ⟨a 10, (hf 10 (by decide) (by decide)).1, (hf 10 (by decide) (by decide)).2.1, by rw [hO.lm (Or.inr rfl)]; exact vp_of i2 (by omega), ?_⟩⟩
          rw [(hT.2.2 s v (by omega) (by omega)).2]
          refine ⟨fun z0 => nx (fun al => (cy _).mpr al.1 z0), fun z1 => ⟨fun z2 => nx (fun al => z2 ((co _).mpr al.2)), fun z2 => ?_⟩⟩
          have k := K (some (s, v)) ⟨⟨by omega, by omega⟩, ⟨(cy _).mp z1, (co _).mp z2⟩, no, nv⟩
          have e32 : Int32.ofNat s * 32 + Int32.ofNat v = Int32.ofNat (s * 32 + v) := by rw [Int32.ofNat_add, Int32.ofNat_mul]; rfl
          rw [e32]
          exact k
      refine VX5_firstAgainst_2 ?_
      unfold DX5_firstAgainst_2
      rw [c1]
      exact ⟨ox, fun z => absurd ((le32 (by omega) (by omega)).mp z) (by omega), fun _ => l13 (2 ^ t) 0 (by omega) (fun v' h1 => absurd h1 (Nat.not_lt_zero _))⟩
  refine KX5_firstAgainst ?_
  unfold DX5_firstAgainst_0
  exact main Y.1.length 0 (by omega) (fun s' v' h1 => absurd h1 (Nat.not_lt_zero _))
end
end
section
/-! the reference's calls over searches, exactly -/
/-- the signals that are asked for before -/
def asS (σ : PS) : Int32 := shM (fun s => decide (¬ Int32.ofNat (σ.2.1.2.2.2.1 s) = 0)) 16
def tQ (p : Td × PS × CoT) : Nat := (inL p.1.2.1).length + (ifS p.2.1).length
/-- what the search of a module comes to -/
def StQ (p : Td × PS × CoT) (S : Option (XsT × (Nat → Nat))) : Prop := StP p.2.2 (asS p.2.1) (omk p.1.2.1) (tQ p) S
/-- the search of the reference's module j, against the class's -/
def RxM (p : Td × PS × CoT) (j : Nat) (M : Mem) : Prop := ∃ (R : RMo) (sl il : List Nat) (X : List Nd) (np y : Nat), ((moM R = j ∧ RbM R sl il X np M) ∧ inR R y ∧ mAI M 91 j = Int32.ofNat y) ∧ MtC p.2.2 (CorR R il y) ∧ ((asM M j p.1.1.length = asS p.2.1 ∧ ouM M j p.1.1.length = omk p.1.2.1) ∧ mAI M 34 j = Int32.ofNat p.1.1.length ∧ p.1.1.length ≤ 16) ∧ (FrE M j (tQ p) ∧ tQ p ≤ 1000) ∧ SrX (CorR R il y) (asS p.2.1) (omk p.1.2.1) (tQ p) M j
/-- what is answered -/
def AsO : Option (XsT × (Nat → Nat)) → Int32 → Prop
  | none, r => r = -4
  | some (Y, _), r => r = Int32.ofNat Y.1.length
def AmO (t : Nat) (y z w : Int32) : Option (XsT × (Nat → Nat)) → Int32 → Prop
  | none, r => r = -9
  | some (Y, _), r => AnM Y t y z w r
def AcO (y : Int32) : Option (XsT × (Nat → Nat)) → Int32 → Prop
  | none, r => r = -9
  | some (Y, G), r => AnC Y.1.length G y r
def AwO (y z : Int32) : Option (XsT × (Nat → Nat)) → Int32 → Prop
  | none, r => r = -9
  | some (Y, _), r => AnW Y y z r
def AnN (t S0 : Nat) (y : Int32) (u v u' v' : Int32) : Option (XsT × (Nat → Nat)) → Int32 → Prop
  | none, r => r = -9 ∧ u' = u ∧ v' = v
  | some (Y, _), r => (∃ a, a < S0 ∧ y = Int32.ofNat a ∧ AnG Y t a none r u v u' v') ∨ ((∀ a, a < S0 → y ≠ Int32.ofNat a) ∧ r = -9 ∧ u' = u ∧ v' = v)
def AnA (t S0 : Nat) (y z : Int32) (u v u' v' : Int32) : Option (XsT × (Nat → Nat)) → Int32 → Prop
  | none, r => r = -9 ∧ u' = u ∧ v' = v
  | some (Y, _), r => (∃ a b, (a < S0 ∧ b < S0) ∧ (y = Int32.ofNat a ∧ z = Int32.ofNat b) ∧ AnG Y t a (some b) r u v u' v') ∨ ((∀ a b, a < S0 → b < S0 → ¬ (y = Int32.ofNat a ∧ z = Int32.ofNat b)) ∧ r = -9 ∧ u' = u ∧ v' = v)
/-- both searches are the same -/
def MtS (t : Nat) (S S' : Option (XsT × (Nat → Nat))) : Prop := (S = none ∧ S' = none) ∨ ∃ Y G G', S = some (Y, G) ∧ S' = some (Y, G') ∧ OkX t Y ∧ t ≤ 5 ∧ ∀ s, s < Y.1.length → G s = G' s
section
variable {t S0 : Nat} {S S' : Option (XsT × (Nat → Nat))} {y z w r r' u v u1 v1 u2 v2 : Int32}
theorem AsO.mt (h : MtS t S S') (a : AsO S r) (b : AsO S' r') : r = r' := by
  rcases h with ⟨e, e'⟩ | ⟨Y, G, G', e, e', -⟩
  · subst e; subst e'
    exact Eq.trans a b.symm
  · subst e; subst e'
    exact Eq.trans a b.symm
theorem AmO.mt (h : MtS t S S') (a : AmO t y z w S r) (b : AmO t y z w S' r') : r = r' := by
  rcases h with ⟨e, e'⟩ | ⟨Y, G, G', e, e', hY, t5, -⟩
  · subst e; subst e'
    exact Eq.trans a b.symm
  · subst e; subst e'
    exact AnM.uq hY t5 a b
theorem AcO.mt (h : MtS t S S') (a : AcO y S r) (b : AcO y S' r') : r = r' := by
  rcases h with ⟨e, e'⟩ | ⟨Y, G, G', e, e', hY, t5, hG⟩
  · subst e; subst e'
    exact Eq.trans a b.symm
  · subst e; subst e'
    exact AnC.uq hY.1.2 hG a b
theorem AwO.mt (h : MtS t S S') (a : AwO y z S r) (b : AwO y z S' r') : r = r' := by
  rcases h with ⟨e, e'⟩ | ⟨Y, G, G', e, e', hY, t5, hG⟩
  · subst e; subst e'
    exact Eq.trans a b.symm
  · subst e; subst e'
    exact AnW.uq hY a b
theorem AnN.mt (h16 : S0 ≤ 16) (h : MtS t S S') (a : AnN t S0 y u v u1 v1 S r) (b : AnN t S0 y u v u2 v2 S' r') : r = r' ∧ u1 = u2 ∧ v1 = v2 := by
  rcases h with ⟨e, e'⟩ | ⟨Y, G, G', e, e', hY, t5, hG⟩
  · subst e; subst e'
    exact ⟨a.1.trans b.1.symm, a.2.1.trans b.2.1.symm, a.2.2.trans b.2.2.symm⟩
  · subst e; subst e'
    rcases a with ⟨q, a1, a2, a3⟩ | ⟨a1, a2, a3, a4⟩
    · rcases b with ⟨q', b1, b2, b3⟩ | ⟨b1, -⟩
      · have e1 : q = q' := inj32 (by omega) (by omega) (a2.symm.trans b2)
        subst e1
        exact AnG.uq a3 b3
      · exact absurd a2 (b1 q a1)
    · rcases b with ⟨q', b1, b2, -⟩ | ⟨-, b2, b3, b4⟩
      · exact absurd b2 (a1 q' b1)
      · exact ⟨a2.trans b2.symm, a3.trans b3.symm, a4.trans b4.symm⟩
theorem AnA.mt (h16 : S0 ≤ 16) (h : MtS t S S') (a : AnA t S0 y z u v u1 v1 S r) (b : AnA t S0 y z u v u2 v2 S' r') : r = r' ∧ u1 = u2 ∧ v1 = v2 := by
  rcases h with ⟨e, e'⟩ | ⟨Y, G, G', e, e', hY, t5, hG⟩
  · subst e; subst e'
    exact ⟨a.1.trans b.1.symm, a.2.1.trans b.2.1.symm, a.2.2.trans b.2.2.symm⟩
  · subst e; subst e'
    rcases a with ⟨q, p, ⟨a1, a2⟩, ⟨a3, a4⟩, a5⟩ | ⟨a1, a2, a3, a4⟩
    · rcases b with ⟨q', p', ⟨b1, b2⟩, ⟨b3, b4⟩, b5⟩ | ⟨b1, -⟩
      · have e1 : q = q' := inj32 (by omega) (by omega) (a3.symm.trans b3)
        have e2 : p = p' := inj32 (by omega) (by omega) (a4.symm.trans b4)
        subst e1; subst e2
        exact AnG.uq a5 b5
      · exact absurd ⟨a3, a4⟩ (b1 q p a1 a2)
    · rcases b with ⟨q', p', ⟨b1, b2⟩, b3, -⟩ | ⟨-, b2, b3, b4⟩
      · exact absurd b3 (a1 q' p' b1 b2)
      · exact ⟨a2.trans b2.symm, a3.trans b3.symm, a4.trans b4.symm⟩
end
theorem sb_bt {x : Int32} {k : Nat} (hk : k < 32) : (x >>> (Int32.ofNat k &&& 31)) &&& 1 = if btL x k = true then 1 else 0 := by
  apply Int32.toBitVec_inj.mp
  rw [Int32.toBitVec_and, Int32.toBitVec_shiftRight, BitVec.sshiftRight_eq', sh31 ⟨k, hk⟩]
  have e2 : (1 : Int32).toBitVec = 1#32 := rfl
  rw [e2, BitVec.and_one_eq_setWidth_ofBool_getLsbD, BitVec.getLsbD_sshiftRight]
  unfold btL
  simp only [Nat.add_zero, hk, if_true]
  cases x.toBitVec.getLsbD k <;> decide
section
variable {C : CoT} {ask o : Int32} {t m i j : Nat} {M M' : Mem} {p : Td × PS × CoT}
theorem SrX.k (h : SrX C ask o t M m) (r : ∀ c, 122 ≤ c → c ≤ 130 → mAI M' c = mAI M c) : SrX C ask o t M' m := by
  unfold SrX SrI TiR ClF at h ⊢
  rw [r 122 (by decide) (by decide), r 123 (by decide) (by decide), r 124 (by decide) (by decide), r 125 (by decide) (by decide), r 126 (by decide) (by decide), r 127 (by decide) (by decide), r 128 (by decide) (by decide), r 129 (by decide) (by decide), r 130 (by decide) (by decide)]
  exact h
theorem SrX.k2 (h : SrX C ask o t M m) (e : mAI M' 122 m = mAI M 122 m) (r : ∀ c, 123 ≤ c → c ≤ 130 → mAI M' c = mAI M c) : SrX C ask o t M' m := by
  unfold SrX SrI TiR ClF at h ⊢
  rw [e, r 123 (by decide) (by decide), r 124 (by decide) (by decide), r 125 (by decide) (by decide), r 126 (by decide) (by decide), r 127 (by decide) (by decide), r 128 (by decide) (by decide), r 129 (by decide) (by decide), r 130 (by decide) (by decide)]
  exact h
theorem SrX.ne (h : SrX C ask o t M m) (hi : m ≠ i) (k : SkF i M M') : SrX C ask o t M' m := by
  have a1 : ∀ c, c = 122 ∨ c = 123 → mAI M' c m = mAI M c m := fun c hc => k.2 c m (by omega) (by omega) (by unfold skA; omega)
  have a2 : ∀ c s, s < 48 → 124 ≤ c → c ≤ 128 → mAI M' c (48 * m + s) = mAI M c (48 * m + s) := fun c s hs h1 h2 => k.2 c _ (by omega) (by omega) (by unfold skA; omega)
  have a3 : ∀ c s v, s < 48 → v < 32 → c = 129 ∨ c = 130 → mAI M' c (32 * (48 * m + s) + v) = mAI M c (32 * (48 * m + s) + v) := fun c s v hs hv hc => k.2 c _ (by omega) (by omega) (by unfold skA; omega)
  rcases h with g | ⟨g, g2⟩ | ⟨g, t5, Y, f, fn, ⟨b1, b2, b3, b4⟩, ⟨c1, c2, c3⟩, d, e⟩
  · exact Or.inl (by rw [a1 122 (Or.inl rfl)]; exact g)
  · exact Or.inr (Or.inl ⟨by rw [a1 122 (Or.inl rfl)]; exact g, g2⟩)
  · have n48 := b2.2
    obtain ⟨p1, p2⟩ := pw_le t5
    refine Or.inr (Or.inr ⟨by rw [a1 122 (Or.inl rfl)]; exact g, t5, Y, f, fn, ⟨by rw [a1 123 (Or.inr rfl)]; exact b1, b2, ?_, fun s s1 s2 => ?_⟩, ⟨fun s hs => ?_, fun s s1 s2 => ?_, fun s v s48 hv hk => ?_⟩, fun s hs => ?_, e⟩)
    · have := a2 126 0 (by decide) (by decide) (by decide)
      rw [Nat.add_zero] at this
      rw [this]; exact b3
    · rw [a2 126 s (by omega) (by decide) (by decide)]; exact b4 s s1 s2
    · rw [a2 124 s (by omega) (by decide) (by decide), a2 125 s (by omega) (by decide) (by decide)]; exact c1 s hs
    · rw [a2 126 s (by omega) (by decide) (by decide), a2 127 s (by omega) (by decide) (by decide)]; exact c2 s s1 s2
    · rw [a3 129 s v s48 (by omega) (Or.inl rfl), a3 130 s v s48 (by omega) (Or.inr rfl)]; exact c3 s v s48 hv hk
    · rw [a2 128 s (by omega) (by decide) (by decide)]; exact d s hs
theorem RxM.ne (h : RxM p j M) (hi : j ≠ i) (k : SkF i M M') : RxM p j M' := by
  obtain ⟨R, sl, il, X, np, y, ⟨⟨eR, hB⟩, hy, ey⟩, hM, ⟨⟨e1, e2⟩, e3, e4⟩, ⟨hf, t9⟩, hs⟩ := h
  have row : ∀ c, c < 95 → mAI M' c = mAI M c := fun c hc => k.row (Or.inl hc)
  exact ⟨R, sl, il, X, np, y, ⟨⟨eR, hB.sk k⟩, hy, by rw [row 91 (by decide)]; exact ey⟩, hM, ⟨⟨by unfold asM; rw [row 40 (by decide)]; exact e1, by unfold ouM; rw [row 38 (by decide)]; exact e2⟩, by rw [row 34 (by decide)]; exact e3, e4⟩, ⟨hf.sk k, t9⟩, hs.ne hi k⟩
theorem RxM.ag (h : RxM p j M) (k : AgF M M') : RxM p j M' := by
  obtain ⟨R, sl, il, X, np, y, ⟨⟨eR, hB⟩, hy, ey⟩, hM, ⟨⟨e1, e2⟩, e3, e4⟩, ⟨hf, t9⟩, hs⟩ := h
  have r : mAI M' = mAI M := by funext c; exact k.2.2.2.2.1 c (fun z => z)
  exact ⟨R, sl, il, X, np, y, ⟨⟨eR, hB.br k (fun c z => z.elim) (fun c z => z.elim)⟩, hy, by rw [r]; exact ey⟩, hM, ⟨⟨by unfold asM; rw [r]; exact e1, by unfold ouM; rw [r]; exact e2⟩, by rw [r]; exact e3, e4⟩, ⟨by unfold FrE; rw [r]; exact hf, t9⟩, hs.k (fun c _ _ => by rw [r])⟩
end
/-- behind a call over the search of module i -/
def RyP (p : Nat → Td × PS × CoT) (mods govs i : Nat) (M M' : Mem) (S : Option (XsT × (Nat → Nat))) : Prop := RvS M' mods govs ∧ (∀ j, j < mods → RxM (p j) j M') ∧ SkF i M M' ∧ ∃ D, MtC (p i).2.2 D ∧ StP D (asS (p i).2.1) (omk (p i).1.2.1) (tQ (p i)) S
section
variable {M M1 M' : Mem} {i n s t h mods govs : Nat} {Q : Option Value → Mem → Prop} {p : Nat → Td × PS × CoT} {x y z w : Int32} {Y : XsT} {G : Nat → Nat}
theorem R_lkx (hR : RvS M mods govs) (hX : ∀ j, j < mods → RxM (p j) j M) (hi : i < mods) (K : ∀ M' D, SkF i M M' → RvS M' mods govs → (∀ j, j < mods → RxM (p j) j M') → MtC (p i).2.2 D → SrX D (asS (p i).2.1) (omk (p i).1.2.1) (tQ (p i)) M' i → mAI M' 122 i ≠ 0 → Q none M') : E (h + 7) mdX11_look [.ref 29, .int (Int32.ofNat i)] M Q := by
  obtain ⟨a, b, c⟩ := id hR
  obtain ⟨-, g, -⟩ := c i hi
  obtain ⟨R, sl, il, X, np, y, ⟨⟨eR, hB⟩, hy, ey⟩, hM, ⟨⟨e1, e2⟩, e3, e4⟩, ⟨hf, t9⟩, hs⟩ := hX i hi
  subst eR
  refine R_lookx (h := h) (S := (p (moM R)).1.1.length) hB a.1 b g hf t9 e3 e4 hy ey (by rw [e1, e2]; exact hs) (fun M' kk L G X' nz => ?_)
  rw [e1, e2] at X'
  refine K M' _ kk (hR.sk kk L G) (fun j hj => ?_) hM X' nz
  have row : ∀ c, c < 95 → mAI M' c = mAI M c := fun c hc => kk.row (Or.inl hc)
  by_cases z : j = moM R
  · subst z
    exact ⟨R, sl, il, X, np, y, ⟨⟨rfl, hB.sk kk⟩, hy, by rw [row 91 (by decide)]; exact ey⟩, hM, ⟨⟨by unfold asM; rw [row 40 (by decide)]; exact e1, by unfold ouM; rw [row 38 (by decide)]; exact e2⟩, by rw [row 34 (by decide)]; exact e3, e4⟩, ⟨hf.sk kk, t9⟩, X'⟩
  · exact (hX j hj).ne z kk
theorem R_isSx (hR : RvS M mods govs) (hX : ∀ j, j < mods → RxM (p j) j M) (K0 : (∀ i, i < mods → x ≠ Int32.ofNat i) → Q (some (.int 0)) M) (KB : ∀ i M', i < mods → x = Int32.ofNat i → RyP p mods govs i M M' none → Q (some (.int 0)) M') (K1 : ∀ i M' Y G, i < mods → x = Int32.ofNat i → RyP p mods govs i M M' (some (Y, G)) → (SrI M' i Y.1.length ∧ TiR M' i (tQ (p i)) Y (Y.1.length * 2 ^ tQ (p i)) ∧ ClF M' i Y.1.length G ∧ FrE M' i (tQ (p i)) ∧ tQ (p i) ≤ 5 ∧ OkX (tQ (p i)) Y) → Q (some (.int 1)) M') : E (h + 8) mdX11_isSearched [.ref 29, .int x] M Q := by
  have F := hR.1.1
  refine KX11_isSearched (h := h + 7) ?_
  unfold DX11_isSearched_0 DX11_isSearched_30
  refine ⟨ok29 F, R_isMod (h := h + 5) hR.1 (fun i hi e _ => ⟨1, rfl, fun _ => ?_, fun z => absurd z (by decide)⟩) (fun ne _ => ⟨0, rfl, fun z => absurd rfl z, fun _ => ⟨Or.inl rfl, K0 ne⟩⟩)⟩
  rw [e]
  refine R_lkx (h := h) hR hX hi (fun M4 D k4 R4 X4 hD s4 nz _ => ⟨rfl, ?_⟩)
  have F4 := R4.1.1
  have i4 : i < 4 := Nat.lt_of_lt_of_le hi hR.1.2.1.2.1
  obtain ⟨_, _, _, _, _, _, -, -, -, ⟨hf, -⟩, -⟩ := X4 i hi
  refine ⟨122, rf29_114 F4, ok122 F4, by rw [ln122 F4]; exact vp_of (by omega) (by decide), ?_⟩
  rw [lt32 (show i < 2147483648 by omega)]
  rcases s4 with s4 | ⟨s4, q⟩ | ⟨s4, t5, Y, G, fn, sr, ti, cl, gf⟩
  · exact absurd s4 nz
  · exact ⟨fun _ => ⟨Or.inl rfl, KB i M4 hi e ⟨R4, X4, k4, D, hD, q⟩⟩, fun z => absurd (s4.symm.trans z) (by decide)⟩
  · exact ⟨fun z => absurd s4 z, fun _ => ⟨Or.inr rfl, K1 i M4 Y G hi e ⟨R4, X4, k4, D, hD, t5, fn, gf⟩ ⟨sr, ti, cl, hf, t5, fn.ok⟩⟩⟩
theorem R_searchx (hR : RvS M mods govs) (hX : ∀ j, j < mods → RxM (p j) j M) (K0 : (∀ i, i < mods → x ≠ Int32.ofNat i) → Q (some (.int (-1))) M) (K : ∀ i M' S (r : Int32), i < mods → x = Int32.ofNat i → RyP p mods govs i M M' S → AsO S r → Q (some (.int r)) M') : E (h + 8) mdX11_search [.ref 29, .int x] M Q := by
  have F := hR.1.1
  refine KX11_search (h := h + 7) ?_
  unfold DX11_search_0 DX11_search_36
  refine ⟨ok29 F, R_isMod (h := h + 5) hR.1 (fun i hi e _ => ⟨1, rfl, fun _ => ?_, fun z => absurd z (by decide)⟩) (fun ne _ => ⟨0, rfl, fun z => absurd rfl z, fun _ => K0 ne⟩)⟩
  rw [e]
  refine R_lkx (h := h) hR hX hi (fun M4 D k4 R4 X4 hD s4 nz _ => ⟨rfl, ?_⟩)
  have F4 := R4.1.1
  have i4 := hR.lt hi
  have vi : ∀ {k : Nat}, k = 4 → vp_in (Int32.ofNat i) k := fun e => by rw [e]; exact vp_of (by omega) (by decide)
  refine ⟨122, rf29_114 F4, ok122 F4, vi (ln122 F4), ?_⟩
  rw [lt32 (show i < 2147483648 by omega)]
  rcases s4 with s4 | ⟨s4, q⟩ | ⟨s4, t5, Y, G, fn, sr, ti, cl, gf⟩
  · exact absurd s4 nz
  · exact ⟨fun _ => K i M4 none _ hi e ⟨R4, X4, k4, D, hD, q⟩ rfl, fun z => absurd (s4.symm.trans z) (by decide)⟩
  · exact ⟨fun z => absurd s4 z, fun _ => ⟨123, rf29_115 F4, ok123 F4, vi (ln123 F4), K i M4 (some (Y, G)) _ hi e ⟨R4, X4, k4, D, hD, t5, fn, gf⟩ sr.1⟩⟩
theorem R_movex (hR : RvS M mods govs) (hX : ∀ j, j < mods → RxM (p j) j M) (K0 : (∀ i, i < mods → x ≠ Int32.ofNat i) → Q (some (.int (-9))) M) (K : ∀ i M' S (r : Int32), i < mods → x = Int32.ofNat i → RyP p mods govs i M M' S → AmO (tQ (p i)) y z w S r → Q (some (.int r)) M') : E (h + 9) mdX11_move [.ref 29, .int x, .int y, .int z, .int w] M Q := by
  have F := hR.1.1
  refine KX11_move (h := h + 8) ?_
  unfold DX11_move_0 DX11_move_54 DX11_move_92
  refine ⟨ok29 F, R_isSx (h := h) hR hX (fun ne _ => ⟨0, rfl, fun _ => K0 ne, fun z => absurd rfl z⟩) (fun i M2 hi e hY _ => ⟨0, rfl, fun _ => K i M2 none _ hi e hY rfl, fun z => absurd rfl z⟩) (fun i M2 Y G hi e hP hS _ => ⟨1, rfl, fun z => absurd z (by decide), fun _ => ?_⟩)⟩
  obtain ⟨hr, hT, hC, hf, t5, hY⟩ := hS
  have KK : ∀ r, AnM Y (tQ (p i)) y z w r → Q (some (.int r)) M2 := fun r hr => K i M2 (some (Y, G)) r hi e hP hr
  rw [e]
  obtain ⟨t, et⟩ : ∃ t, t = tQ (p i) := ⟨_, rfl⟩
  rw [← et] at hT hf t5 hY KK
  have F2 := hP.1.1.1
  have i4 := hR.lt hi
  have vi : ∀ {k : Nat}, k = 4 → vp_in (Int32.ofNat i) k := fun e => by rw [e]; exact vp_of (by omega) (by decide)
  obtain ⟨p1, p2⟩ := pw_le t5
  have n48 := hr.2.1.2
  refine ⟨123, rf29_115 F2, ok123 F2, vi (ln123 F2), ?_⟩
  rw [lt32 (show i < 2147483648 by omega), hr.1]
  refine S_inN (h := h + 7) (by omega) (fun s hs es _ => ⟨1, rfl, fun z => absurd z (by decide), fun _ => ?_⟩) (fun ne _ => ⟨0, rfl, fun _ => KK _ (Or.inr ⟨fun q v hq _ e => ne q hq e.1, rfl⟩), fun z => absurd rfl z⟩)
  refine R_moves (h := h + 7) F2 i4 hf t5 (fun _ => ⟨_, rfl, ?_⟩)
  refine S_inN (h := h + 7) (by omega) (fun v hv ev _ => ⟨1, rfl, fun z => absurd z (by decide), fun _ => ?_⟩) (fun ne _ => ⟨0, rfl, fun _ => KK _ (Or.inr ⟨fun q v _ hv e => ne v hv e.2, rfl⟩), fun z => absurd rfl z⟩)
  have e2 : (1 : Int64) = (Int32.ofNat 2 - 1).toInt64 := by decide
  rw [e2]
  have eat : 32 * (48 * Int32.ofNat i + y) + z = Int32.ofNat (32 * (48 * i + s) + v) := by rw [es, ev, ix48, ix32]
  have vat : ∀ {k : Nat}, k = 6144 → vp_in (Int32.ofNat (32 * (48 * i + s) + v)) k := fun e => by rw [e]; exact vp_of (by omega) (by decide)
  have lat : (Int32.ofNat (32 * (48 * i + s) + v)).toNatClampNeg = 32 * (48 * i + s) + v := lt32 (by omega)
  obtain ⟨y1, y2⟩ := hT.2.2 s v (by omega) hv (mv_lt hs hv)
  rw [eat, lat]
  refine S_inN (h := h + 7) (by decide) (fun k hk ek _ => ⟨1, rfl, fun _ => ⟨fun wn => ⟨130, rf29_122 F2, ok130 F2, vat (ln130 F2), ?_⟩, fun w0 => ⟨129, rf29_121 F2, ok129 F2, vat (ln129 F2), ?_⟩⟩, fun z => absurd z (by decide)⟩) (fun ne _ => ⟨0, rfl, fun z => absurd rfl z, fun _ => KK _ (Or.inl ⟨s, v, ⟨hs, hv⟩, ⟨es, ev⟩, Or.inr (Or.inr ⟨ne 0 (by decide), ne 1 (by decide), rfl⟩)⟩)⟩)
  · rw [y2]
    refine KK _ (Or.inl ⟨s, v, ⟨hs, hv⟩, ⟨es, ev⟩, Or.inr (Or.inl ⟨?_, rfl⟩)⟩)
    rcases (show k = 0 ∨ k = 1 by omega) with q | q
    · rw [q] at ek; exact absurd ek wn
    · rw [q] at ek; exact ek
  · rw [y1]
    exact KK _ (Or.inl ⟨s, v, ⟨hs, hv⟩, ⟨es, ev⟩, Or.inl ⟨w0, rfl⟩⟩)
theorem R_classx (hR : RvS M mods govs) (hX : ∀ j, j < mods → RxM (p j) j M) (K0 : (∀ i, i < mods → x ≠ Int32.ofNat i) → Q (some (.int (-9))) M) (K : ∀ i M' S (r : Int32), i < mods → x = Int32.ofNat i → RyP p mods govs i M M' S → AcO y S r → Q (some (.int r)) M') : E (h + 9) mdX11_classOf [.ref 29, .int x, .int y] M Q := by
  have F := hR.1.1
  refine KX11_classOf (h := h + 8) ?_
  unfold DX11_classOf_0 DX11_classOf_40 DX11_classOf_42
  refine ⟨ok29 F, R_isSx (h := h) hR hX (fun ne _ => ⟨0, rfl, fun _ => K0 ne, fun z => absurd rfl z⟩) (fun i M2 hi e hY _ => ⟨0, rfl, fun _ => K i M2 none _ hi e hY rfl, fun z => absurd rfl z⟩) (fun i M2 Y G hi e hP hS _ => ⟨1, rfl, fun z => absurd z (by decide), fun _ => ?_⟩)⟩
  obtain ⟨hr, hT, hC, hf, t5, hY⟩ := hS
  have KK : ∀ r, AnC Y.1.length G y r → Q (some (.int r)) M2 := fun r hr => K i M2 (some (Y, G)) r hi e hP hr
  rw [e]
  have F2 := hP.1.1.1
  have i4 := hR.lt hi
  have n48 := hr.2.1.2
  refine ⟨123, rf29_115 F2, ok123 F2, by rw [ln123 F2]; exact vp_of (by omega) (by decide), ?_⟩
  rw [lt32 (show i < 2147483648 by omega), hr.1]
  refine S_inN (h := h + 7) (by omega) (fun s hs es _ => ⟨1, rfl, fun z => absurd z (by decide), fun _ => ⟨128, rf29_120 F2, ok128 F2, ?_, ?_⟩⟩) (fun ne _ => ⟨0, rfl, fun _ => KK _ (Or.inr ⟨ne, rfl⟩), fun z => absurd rfl z⟩)
  · rw [es, ix48, ln128 F2]
    exact vp_of (by omega) (by decide)
  · rw [es, ix48, lt32 (show 48 * i + s < 2147483648 by omega), (hC s hs).1]
    exact KK _ (Or.inl ⟨s, hs, es, rfl⟩)
theorem R_wayx (hR : RvS M mods govs) (hX : ∀ j, j < mods → RxM (p j) j M) (K0 : (∀ i, i < mods → x ≠ Int32.ofNat i) → Q (some (.int (-9))) M) (K : ∀ i M' S (r : Int32), i < mods → x = Int32.ofNat i → RyP p mods govs i M M' S → AwO y z S r → Q (some (.int r)) M') : E (h + 9) mdX11_way [.ref 29, .int x, .int y, .int z] M Q := by
  have F := hR.1.1
  refine KX11_way (h := h + 8) ?_
  unfold DX11_way_0 DX11_way_26
  refine ⟨ok29 F, R_isSx (h := h) hR hX (fun ne _ => ⟨0, rfl, fun _ => K0 ne, fun z => absurd rfl z⟩) (fun i M2 hi e hY _ => ⟨0, rfl, fun _ => K i M2 none _ hi e hY rfl, fun z => absurd rfl z⟩) (fun i M2 Y G hi e hP hS _ => ⟨1, rfl, fun z => absurd z (by decide), fun _ => ?_⟩)⟩
  obtain ⟨hr, hT, hC, hf, t5, hY⟩ := hS
  have KK : ∀ r, AnW Y y z r → Q (some (.int r)) M2 := fun r hr => K i M2 (some (Y, G)) r hi e hP hr
  rw [e]
  have F2 := hP.1.1.1
  have i4 := hR.lt hi
  have n48 := hr.2.1.2
  have e48 : ∀ s : Nat, 48 * Int32.ofNat i + Int32.ofNat s = Int32.ofNat (48 * i + s) := fun s => ix48
  have v48 : ∀ {k : Nat} (s : Nat), s < Y.1.length → k = 192 → vp_in (Int32.ofNat (48 * i + s)) k := fun s hs e => by rw [e]; exact vp_of (by omega) (by decide)
  have l48 : ∀ s, s < Y.1.length → (Int32.ofNat (48 * i + s)).toNatClampNeg = 48 * i + s := fun s hs => lt32 (by omega)
  refine ⟨123, rf29_115 F2, ok123 F2, by rw [ln123 F2]; exact vp_of (by omega) (by decide), ?_⟩
  rw [lt32 (show i < 2147483648 by omega), hr.1]
  refine S_inN (h := h + 7) (by omega) (fun s hs es _ => ⟨1, rfl, fun _ => ?_, fun z => absurd z (by decide)⟩) (fun ne _ => ⟨0, rfl, fun z => absurd rfl z, fun _ => KK _ (Or.inr ⟨ne, rfl⟩)⟩)
  rw [es]
  obtain ⟨kk, kk1, kk2⟩ := DpX.ex hY s hs
  -- back to the STATE asked for
  have l105 : ∀ d q j, j < 1000 → DpX Y (j + d + 1) q → q < Y.1.length → j + d < 100 → Q (some (.int (Int32.ofNat (stX Y (wyB Y d q)).2.2.2))) M2 → T (h + 9) mdX11_way 105 [(0, .ref 29), (1, .int (Int32.ofNat i)), (3, .int (Int32.ofNat j)), (5, .int (Int32.ofNat q)), (6, .int (Int32.ofNat (j + d)))] [] M2 Q := by
    intro d
    induction d with
    | zero =>
      intro q j j9 hd hq hk KQ
      have hd : 1 ≤ q ∧ DpX Y j (stX Y q).2.2.1 := hd
      refine VX11_way_105 (h := h + 8) ?_
      unfold DX11_way_105
      rw [e48, l48 q hq]
      refine ⟨fun _ => ⟨ok29 F2, 127, rf29_119 F2, ok127 F2, v48 q hq (ln127 F2), ?_⟩, fun y => ⟨ok29 F2, 126, rf29_118 F2, ok126 F2, v48 q hq (ln126 F2), ?_⟩⟩
      · rw [(hT.2.1 q hd.1 hq).2]; exact KQ
      · exact absurd ((le32 (a := j + 0) (b := j) (by omega) (by omega)).mpr (Nat.le_refl _)) y
    | succ d ih =>
      intro q j j9 hd hq hk KQ
      refine VX11_way_105 (h := h + 8) ?_
      unfold DX11_way_105
      rw [e48, l48 q hq]
      refine ⟨fun y => absurd ((le32 (a := j + (d + 1)) (b := j) (by omega) (by omega)).mp y) (by omega), fun y => ⟨ok29 F2, 126, rf29_118 F2, ok126 F2, v48 q hq (ln126 F2), ?_⟩⟩
      have hd : 1 ≤ q ∧ DpX Y (j + d + 1) (stX Y q).2.2.1 := hd
      have c1 := (hY.2.2 q hd.1 hq).1
      rw [(hT.2.1 q hd.1 hq).1, show Int32.ofNat (j + (d + 1)) + (-1) = Int32.ofNat (j + d) from by rw [← Nat.add_assoc, ← succ32, Int32.add_assoc]; exact Int32.add_zero _]
      exact ih _ j j9 hd.2 (by omega) (by omega) KQ
  have l35 : ∀ k q k', DpX Y k q → q < Y.1.length → k + k' = kk → T (h + 9) mdX11_way 35 [(0, .ref 29), (1, .int (Int32.ofNat i)), (2, .int (Int32.ofNat s)), (3, .int z), (4, .int (Int32.ofNat k')), (5, .int (Int32.ofNat q))] [] M2 Q := by
    intro k
    induction k with
    | zero =>
      intro q k' hd hq hk
      have q0 : q = 0 := hd
      subst q0
      rw [Nat.zero_add] at hk
      subst hk
      refine VX11_way_35 (h := h + 8) ?_
      unfold DX11_way_35
      rw [e48, l48 0 hq]
      refine ⟨ok29 F2, 126, rf29_118 F2, ok126 F2, v48 0 hq (ln126 F2), fun _ => ⟨fun nz => ?_, fun z1 => KK _ (Or.inl ⟨s, k', hs, es, kk2, by omega, Or.inl ⟨z1, rfl⟩⟩)⟩, fun y => absurd hr.2.2.1 y⟩
      refine S_inN (h := h + 7) (by omega) (fun j hj ej _ => ⟨1, rfl, fun _ => ?_, fun z => absurd z (by decide)⟩) (fun ne _ => ⟨0, rfl, fun z => absurd rfl z, fun _ => KK _ (Or.inl ⟨s, k', hs, es, kk2, by omega, Or.inr (Or.inr ⟨nz, ne, rfl⟩)⟩)⟩)
      obtain ⟨d, rfl⟩ : ∃ d, k' = j + d + 1 := ⟨k' - j - 1, by omega⟩
      rw [ej, show Int32.ofNat (j + d + 1) - 1 = Int32.ofNat (j + d) from by rw [← succ32, Int32.add_sub_cancel]]
      refine l105 d s j (by omega) kk2 hs (by omega) (KK _ (Or.inl ⟨s, j + d + 1, hs, es, kk2, by omega, Or.inr (Or.inl ⟨nz, j, hj, ej, ?_⟩)⟩))
      rw [show j + d + 1 - 1 - j = d by omega]
    | succ k ih =>
      intro q k' hd hq hk
      have hd : 1 ≤ q ∧ DpX Y k (stX Y q).2.2.1 := hd
      have c1 := (hY.2.2 q hd.1 hq).1
      have c2 := (hT.2.1 q hd.1 hq).1
      refine VX11_way_35 (h := h + 8) ?_
      unfold DX11_way_35
      rw [e48, l48 q hq, succ32]
      refine ⟨ok29 F2, 126, rf29_118 F2, ok126 F2, v48 q hq (ln126 F2), fun y => ?_, fun _ => ⟨126, rf29_118 F2, ok126 F2, v48 q hq (ln126 F2), ?_⟩⟩
      · rw [c2] at y
        exact absurd y (oi_ne (k := (stX Y q).2.2.1) (by omega))
      · rw [c2]
        exact ih _ (k' + 1) hd.2 (by omega) (by omega)
  exact l35 kk s 0 kk2 hs (by omega)
/-- what seek finds -/
def fsI (o : Option (Nat × Nat)) (M : Mem) : Prop := match o with
  | some (s, v) => mI M 29 123 = Int32.ofNat s ∧ mI M 29 124 = Int32.ofNat v
  | none => mI M 29 123 = -1
def fsR : Option (Nat × Nat) → Int32
  | some _ => 0
  | none => 1
def sgY : Option Nat → Int32
  | some b => Int32.ofNat b
  | none => -1
theorem R_seekx {a : Nat} {b : Option Nat} (hR : RvS M mods govs) (hi : i < mods) (hr : SrI M i Y.1.length) (hf : FrE M i t) (t5 : t ≤ 5) (hT : TiR M i t Y (Y.1.length * 2 ^ t)) (ha : a < 16) (hb : ∀ b0, b = some b0 → b0 < 16) (K : ∀ M' o, AgF M M' → FsA (agC Y a b) Y.1.length (2 ^ t) o → fsI o M' → Q (some (.int (fsR o))) M') : E (h + 2) mdX11_seek [.ref 29, .int (Int32.ofNat i), .int (Int32.ofNat a), .int (sgY b)] M Q := by
  have i4 := hR.lt hi
  have vi : ∀ {k : Nat}, k = 4 → vp_in (Int32.ofNat i) k := fun e => by rw [e]; exact vp_of (by omega) (by decide)
  have li : (Int32.ofNat i).toNatClampNeg = i := lt32 (by omega)
  obtain ⟨p1, p2⟩ := pw_le t5
  have n48 := hr.2.1.2
  have rw0 : ∀ {M1 : Mem}, AgF M M1 → mAI M1 = mAI M := fun k => by funext c; exact k.2.2.2.2.1 c (fun z => z)
  have d121 : ∀ M1 o, AgF M M1 → FsA (agC Y a b) Y.1.length (2 ^ t) o → fsI o M1 → DX11_seek_121 (h + 1) 29 M1 Q := fun M1 o k1 ho hI => by
    have kq := K M1 o k1 ho hI
    unfold DX11_seek_121 DX11_seek_134
    rcases o with _ | ⟨s, v⟩
    · have hI : mI M1 29 123 = -1 := hI
      exact ⟨ok29 (hR.ag k1).1.1, fun z => absurd hI z, fun _ => kq⟩
    · have hI : mI M1 29 123 = Int32.ofNat s ∧ mI M1 29 124 = Int32.ofNat v := hI
      refine ⟨ok29 (hR.ag k1).1.1, fun _ => kq, fun z => ?_⟩
      rw [hI.1] at z
      exact absurd z (oi_ne (k := s) (by have := ho.1.1; omega))
  -- once it is found
  have f13 : ∀ s' M1 s v, AgF M M1 → FsA (agC Y a b) Y.1.length (2 ^ t) (some (s, v)) → fsI (some (s, v)) M1 → T (h + 2) mdX11_seek 13 [(0, .ref 29), (1, .int (Int32.ofNat i)), (2, .int (Int32.ofNat a)), (3, .int (sgY b)), (4, .int (Int32.ofNat s'))] [] M1 Q := by
    intro s' M1 s v k1 ho hI
    have F1 := (hR.ag k1).1.1
    have hI' : mI M1 29 123 = Int32.ofNat s ∧ mI M1 29 124 = Int32.ofNat v := hI
    refine VX11_seek_13 (h := h + 1) ?_
    unfold DX11_seek_13
    refine ⟨ok29 F1, 123, rf29_115 F1, ok123 F1, vi (ln123 F1), fun _ => d121 M1 _ k1 ho hI, fun _ => ⟨fun _ => d121 M1 _ k1 ho hI, fun z => ?_⟩⟩
    rw [hI'.1] at z
    exact absurd z (oi_ne (k := s) (by have := ho.1.1; omega))
  have f35 : ∀ s' v' M1 s v, AgF M M1 → FsA (agC Y a b) Y.1.length (2 ^ t) (some (s, v)) → fsI (some (s, v)) M1 → T (h + 2) mdX11_seek 35 [(0, .ref 29), (1, .int (Int32.ofNat i)), (2, .int (Int32.ofNat a)), (3, .int (sgY b)), (4, .int (Int32.ofNat s')), (5, .int (Int32.ofNat v'))] [] M1 Q := by
    intro s' v' M1 s v k1 ho hI
    have F1 := (hR.ag k1).1.1
    have hf1 : FrE M1 i t := by unfold FrE; rw [rw0 k1]; exact hf
    have hI' : mI M1 29 123 = Int32.ofNat s ∧ mI M1 29 124 = Int32.ofNat v := hI
    have nn : ¬ mI M1 29 123 = -1 := fun z => by
      rw [hI'.1] at z
      exact absurd z (oi_ne (k := s) (by have := ho.1.1; omega))
    refine VX11_seek_35 (h := h + 1) ?_
    unfold DX11_seek_35 DX11_seek_115
    rw [succ32]
    exact ⟨ok29 F1, R_moves (h := h) F1 i4 hf1 t5 (fun _ => ⟨_, rfl, fun _ => f13 (s' + 1) M1 s v k1 ho hI, fun _ => ⟨fun _ => f13 (s' + 1) M1 s v k1 ho hI, fun z => absurd z nn⟩⟩)⟩
  have l13 : ∀ d s M1, s + d = Y.1.length → AgF M M1 → mI M1 29 123 = -1 → (∀ s' v', s' < s → v' < 2 ^ t → ¬ agC Y a b s' v') → T (h + 2) mdX11_seek 13 [(0, .ref 29), (1, .int (Int32.ofNat i)), (2, .int (Int32.ofNat a)), (3, .int (sgY b)), (4, .int (Int32.ofNat s))] [] M1 Q := by
    intro d
    induction d with
    | zero =>
      intro s M1 hs k1 m1 no
      have es : s = Y.1.length := hs
      have F1 := (hR.ag k1).1.1
      refine VX11_seek_13 (h := h + 1) ?_
      unfold DX11_seek_13
      refine ⟨ok29 F1, 123, rf29_115 F1, ok123 F1, vi (ln123 F1), ?_⟩
      rw [li, rw0 k1, hr.1]
      exact ⟨fun _ => d121 M1 none k1 (fun s' v' h1 h2 => no s' v' (by omega) h2) m1, fun z => absurd ((le32 (by omega) (by omega)).mpr (by omega)) z⟩
    | succ d ih =>
      intro s M1 hs k1 m1 no
      have F1 := (hR.ag k1).1.1
      have l35 : ∀ e v M2, v + e = 2 ^ t → AgF M M2 → mI M2 29 123 = -1 → (∀ v', v' < v → ¬ agC Y a b s v') → T (h + 2) mdX11_seek 35 [(0, .ref 29), (1, .int (Int32.ofNat i)), (2, .int (Int32.ofNat a)), (3, .int (sgY b)), (4, .int (Int32.ofNat s)), (5, .int (Int32.ofNat v))] [] M2 Q := by
        intro e
        induction e with
        | zero =>
          intro v M2 hv k2 m2 nv
          have ev : v = 2 ^ t := hv
          subst ev
          have F2 := (hR.ag k2).1.1
          have hf2 : FrE M2 i t := by unfold FrE; rw [rw0 k2]; exact hf
          refine VX11_seek_35 (h := h + 1) ?_
          unfold DX11_seek_35 DX11_seek_115
          rw [succ32]
          refine ⟨ok29 F2, R_moves (h := h) F2 i4 hf2 t5 (fun _ => ⟨_, rfl, fun _ => ih (s + 1) M2 (by omega) k2 m2 (fun s' v' h1 h2 => ?_), fun z => absurd Int32.le_rfl z⟩)⟩
          by_cases w : s' = s
          · rw [w]; exact nv v' h2
          · exact no s' v' (by omega) h2
        | succ e ihe =>
          intro v M2 hv k2 m2 nv
          have F2 := (hR.ag k2).1.1
          have hf2 : FrE M2 i t := by unfold FrE; rw [rw0 k2]; exact hf
          have nle : ¬ Int32.ofNat (2 ^ t) ≤ Int32.ofNat v := fun z => by
            have := (le32 (by omega) (by omega)).mp z
            omega
          have eat : 32 * (48 * Int32.ofNat i + Int32.ofNat s) + Int32.ofNat v = Int32.ofNat (32 * (48 * i + s) + v) := by rw [ix48, ix32]
          have vat : ∀ {k : Nat}, k = 6144 → vp_in (Int32.ofNat (32 * (48 * i + s) + v)) k := fun e => by rw [e]; exact vp_of (by omega) (by decide)
          have lat : (Int32.ofNat (32 * (48 * i + s) + v)).toNatClampNeg = 32 * (48 * i + s) + v := lt32 (by omega)
          have y2 : mAI M2 130 (32 * (48 * i + s) + v) = Y.2.2 s v := by rw [rw0 k2]; exact (hT.2.2 s v (by omega) (by omega) (mv_lt (by omega) (by omega))).2
          have nx : ¬ agC Y a b s v → T (h + 2) mdX11_seek 35 [(0, .ref 29), (1, .int (Int32.ofNat i)), (2, .int (Int32.ofNat a)), (3, .int (sgY b)), (4, .int (Int32.ofNat s)), (5, .int (Int32.ofNat (v + 1)))] [] M2 Q := fun na => ihe (v + 1) M2 (by omega) k2 m2 (fun v' h1 => by
            by_cases w : v' = v
            · rw [w]; exact na
            · exact nv v' (by omega))
          have d97 : agC Y a b s v → DX11_seek_97 (h + 1) 29 (Int32.ofNat i) (Int32.ofNat a) (sgY b) (Int32.ofNat s) (Int32.ofNat v) M2 Q := fun al => by
            unfold DX11_seek_97 DX11_seek_109
            rw [succ32]
            refine ⟨ok29 F2, fun M3 e3 M4 e4 => f35 s (v + 1) M4 s v ((k2.tr (RfF.i (Or.inl rfl) e3)).tr (RfF.i (Or.inr rfl) e4)) ⟨⟨by omega, by omega⟩, al, no, nv⟩ ⟨?_, ?_⟩⟩
            · rw [e4, mI_wI, if_neg (fun y => absurd y.2 (by decide)), e3, mI_wI, if_pos ⟨rfl, rfl⟩]
            · rw [e4, mI_wI, if_pos ⟨rfl, rfl⟩]
          refine VX11_seek_35 (h := h + 1) ?_
          unfold DX11_seek_35 DX11_seek_115 DX11_seek_109
          rw [succ32, succ32, eat, lat]
          refine ⟨ok29 F2, R_moves (h := h) F2 i4 hf2 t5 (fun _ => ⟨_, rfl, fun z => absurd z nle, fun _ => ⟨fun z => absurd m2 z, fun _ => ⟨130, rf29_122 F2, ok130 F2, vat (ln130 F2), ?_⟩⟩⟩)⟩
          rw [y2, sb_bt (show a < 32 by omega)]
          by_cases ya : btL (Y.2.2 s v) a = true
          · rw [if_pos ya]
            refine ⟨fun z => absurd rfl z, fun _ => ⟨fun z => d97 ⟨ya, fun b0 eb => ?_⟩, fun z => ?_⟩⟩
            · rw [eb] at z
              exact absurd z (oi_ne (k := b0) (by have := hb b0 eb; omega))
            · cases eb : b with
              | none => rw [eb] at z; exact absurd rfl z
              | some b0 =>
                have b16 := hb b0 eb
                show (¬ ((Y.2.2 s v >>> (Int32.ofNat b0 &&& 31)) &&& 1) = 0 → _) ∧ (((Y.2.2 s v >>> (Int32.ofNat b0 &&& 31)) &&& 1) = 0 → _)
                rw [sb_bt (show b0 < 32 by omega)]
                by_cases yb : btL (Y.2.2 s v) b0 = true
                · rw [if_pos yb]
                  refine ⟨fun _ => ?_, fun z => absurd z (by decide)⟩
                  have := nx (fun al => by have := al.2 b0 eb; rw [yb] at this; cases this)
                  rw [eb] at this
                  exact this
                · rw [if_neg yb]
                  refine ⟨fun z => absurd rfl z, fun _ => ?_⟩
                  have := d97 ⟨ya, fun b1 e1 => by
                    rw [eb] at e1
                    cases e1
                    cases hh : btL (Y.2.2 s v) b0 with
                    | false => rfl
                    | true => exact absurd hh yb⟩
                  rw [eb] at this
                  exact this
          · rw [if_neg ya]
            exact ⟨fun _ => nx (fun al => ya al.1), fun z => absurd z (by decide)⟩
      refine VX11_seek_13 (h := h + 1) ?_
      unfold DX11_seek_13
      refine ⟨ok29 F1, 123, rf29_115 F1, ok123 F1, vi (ln123 F1), ?_⟩
      rw [li, rw0 k1, hr.1]
      exact ⟨fun z => absurd ((le32 (by omega) (by omega)).mp z) (by omega), fun _ => ⟨fun z => absurd m1 z, fun _ => l35 (2 ^ t) 0 M1 (by omega) k1 m1 (fun v' h1 => absurd h1 (Nat.not_lt_zero _))⟩⟩
  refine KX11_seek (h := h + 1) ?_
  unfold DX11_seek_0
  refine ⟨ok29 hR.1.1, fun M2 e2 M3 e3 => l13 Y.1.length 0 M3 (by omega) ((RfF.i (Or.inl rfl) e2).tr (RfF.i (Or.inr rfl) e3)) ?_ (fun s' v' h1 => absurd h1 (Nat.not_lt_zero _))⟩
  rw [e3, mI_wI, if_neg (fun y => absurd y.2 (by decide)), e2, mI_wI, if_pos ⟨rfl, rfl⟩]
theorem R_seeksx {a : Nat} {b : Option Nat} (hR : RvS M mods govs) (hi : i < mods) (hr : SrI M i Y.1.length) (hf : FrE M i t) (t5 : t ≤ 5) (hT : TiR M i t Y (Y.1.length * 2 ^ t)) (ha : a < 16) (hb : ∀ b0, b = some b0 → b0 < 16) (K : ∀ M' (r : Int32), AgF M M' → AnG Y t a b r (mI M 29 123) (mI M 29 124) (mI M' 29 123) (mI M' 29 124) → Q (some (.int r)) M') : E (h + 3) mdX11_seeks [.ref 29, .int (Int32.ofNat i), .int (Int32.ofNat a), .int (sgY b)] M Q := by
  refine KX11_seeks (h := h + 2) ?_
  unfold DX11_seeks_0 DX11_seeks_39
  refine ⟨ok29 hR.1.1, R_seekx (h := h) hR hi hr hf t5 hT ha hb (fun M2 o k2 ho hI _ => ⟨_, rfl, ?_⟩)⟩
  rcases o with _ | ⟨s, v⟩
  · refine ⟨fun z => absurd rfl z, fun _ M4 e4 M5 e5 => K M5 _ (k2.tr ((RfF.i (Or.inl rfl) e4).tr (RfF.i (Or.inr rfl) e5))) (Or.inr ⟨ho, rfl, ?_, ?_⟩)⟩
    · rw [e5, mI_wI, if_neg (fun y => absurd y.2 (by decide)), e4, mI_wI, if_pos ⟨rfl, rfl⟩]
    · rw [e5, mI_wI, if_pos ⟨rfl, rfl⟩]
  · have hI : mI M2 29 123 = Int32.ofNat s ∧ mI M2 29 124 = Int32.ofNat v := hI
    exact ⟨fun _ => K M2 _ k2 (Or.inl ⟨s, v, ho, rfl, hI.1, hI.2⟩), fun z => absurd (show (0 : Int32) = 1 from z) (by decide)⟩
theorem R_neverx (hR : RvS M mods govs) (hX : ∀ j, j < mods → RxM (p j) j M) (K0 : (∀ i, i < mods → x ≠ Int32.ofNat i) → Q (some (.int (-9))) M) (K : ∀ i M1 M' S (r : Int32), i < mods → x = Int32.ofNat i → RyP p mods govs i M M1 S → AgF M1 M' → AnN (tQ (p i)) (p i).1.1.length y (mI M 29 123) (mI M 29 124) (mI M' 29 123) (mI M' 29 124) S r → Q (some (.int r)) M') : E (h + 9) mdX11_never [.ref 29, .int x, .int y] M Q := by
  have F := hR.1.1
  have ff : ∀ {i : Nat} {M1 : Mem}, SkF i M M1 → mI M1 29 123 = mI M 29 123 ∧ mI M1 29 124 = mI M 29 124 := fun k => ⟨k.1.2.2.2.1 123 (by omega), k.1.2.2.2.1 124 (by omega)⟩
  refine KX11_never (h := h + 8) ?_
  unfold DX11_never_0 DX11_never_36 DX11_never_38
  refine ⟨ok29 F, R_isSx (h := h) hR hX (fun ne _ => ⟨0, rfl, fun _ => K0 ne, fun z => absurd rfl z⟩) (fun i M2 hi e hY _ => ⟨0, rfl, fun _ => K i M2 M2 none _ hi e hY RfF.rf ⟨rfl, (ff hY.2.2.1).1, (ff hY.2.2.1).2⟩, fun z => absurd rfl z⟩) (fun i M2 Y G hi e hP hS _ => ⟨1, rfl, fun z => absurd z (by decide), fun _ => ?_⟩)⟩
  obtain ⟨hr, hT, hC, hf, t5, hY⟩ := hS
  obtain ⟨_, _, _, _, _, _, -, -, ⟨-, s2, s1⟩, -, -⟩ := hP.2.1 i hi
  rw [e]
  have F2 := hP.1.1.1
  have i4 := hR.lt hi
  refine ⟨34, rf29_8 F2, ok34 F2, by rw [ln34 F2]; exact vp_of (by omega) (by decide), ?_⟩
  rw [lt32 (show i < 2147483648 by omega), s2]
  refine S_inN (h := h + 7) (by omega) (fun s hs es _ => ⟨1, rfl, fun z => absurd z (by decide), fun _ => ?_⟩) (fun ne _ => ⟨0, rfl, fun _ => K i M2 M2 (some (Y, G)) _ hi e hP RfF.rf (Or.inr ⟨ne, rfl, (ff hP.2.2.1).1, (ff hP.2.2.1).2⟩), fun z => absurd rfl z⟩)
  rw [es]
  refine R_seeksx (h := h + 5) (b := none) hP.1 hi hr hf t5 hT (by omega) (fun b e => by cases e) (fun M8 r k8 hA _ => ⟨r, rfl, K i M2 M8 (some (Y, G)) r hi e hP k8 (Or.inl ⟨s, hs, es, ?_⟩)⟩)
  rw [← (ff hP.2.2.1).1, ← (ff hP.2.2.1).2]
  exact hA
theorem R_alwaysx (hR : RvS M mods govs) (hX : ∀ j, j < mods → RxM (p j) j M) (K0 : (∀ i, i < mods → x ≠ Int32.ofNat i) → Q (some (.int (-9))) M) (K : ∀ i M1 M' S (r : Int32), i < mods → x = Int32.ofNat i → RyP p mods govs i M M1 S → AgF M1 M' → AnA (tQ (p i)) (p i).1.1.length y z (mI M 29 123) (mI M 29 124) (mI M' 29 123) (mI M' 29 124) S r → Q (some (.int r)) M') : E (h + 9) mdX11_always [.ref 29, .int x, .int y, .int z] M Q := by
  have F := hR.1.1
  have ff : ∀ {i : Nat} {M1 : Mem}, SkF i M M1 → mI M1 29 123 = mI M 29 123 ∧ mI M1 29 124 = mI M 29 124 := fun k => ⟨k.1.2.2.2.1 123 (by omega), k.1.2.2.2.1 124 (by omega)⟩
  refine KX11_always (h := h + 8) ?_
  unfold DX11_always_0 DX11_always_54 DX11_always_56
  refine ⟨ok29 F, R_isSx (h := h) hR hX (fun ne _ => ⟨0, rfl, fun _ => K0 ne, fun z => absurd rfl z⟩) (fun i M2 hi e hY _ => ⟨0, rfl, fun _ => K i M2 M2 none _ hi e hY RfF.rf ⟨rfl, (ff hY.2.2.1).1, (ff hY.2.2.1).2⟩, fun z => absurd rfl z⟩) (fun i M2 Y G hi e hP hS _ => ⟨1, rfl, fun z => absurd z (by decide), fun _ => ?_⟩)⟩
  obtain ⟨hr, hT, hC, hf, t5, hY⟩ := hS
  obtain ⟨_, _, _, _, _, _, -, -, ⟨-, s2, s1⟩, -, -⟩ := hP.2.1 i hi
  rw [e]
  have F2 := hP.1.1.1
  have i4 := hR.lt hi
  refine ⟨34, rf29_8 F2, ok34 F2, by rw [ln34 F2]; exact vp_of (by omega) (by decide), ?_⟩
  rw [lt32 (show i < 2147483648 by omega), s2]
  refine S_inN (h := h + 7) (by omega) (fun s hs es _ => ⟨1, rfl, fun z => absurd z (by decide), fun _ => ⟨34, rf29_8 F2, ok34 F2, by rw [ln34 F2]; exact vp_of (by omega) (by decide), ?_⟩⟩) (fun ne _ => ⟨0, rfl, fun _ => K i M2 M2 (some (Y, G)) _ hi e hP RfF.rf (Or.inr ⟨fun a b ha _ ee => ne a ha ee.1, rfl, (ff hP.2.2.1).1, (ff hP.2.2.1).2⟩), fun z => absurd rfl z⟩)
  rw [s2]
  refine S_inN (h := h + 7) (by omega) (fun s' hs' es' _ => ⟨1, rfl, fun z => absurd z (by decide), fun _ => ?_⟩) (fun ne _ => ⟨0, rfl, fun _ => K i M2 M2 (some (Y, G)) _ hi e hP RfF.rf (Or.inr ⟨fun a b _ hb ee => ne b hb ee.2, rfl, (ff hP.2.2.1).1, (ff hP.2.2.1).2⟩), fun z => absurd rfl z⟩)
  rw [es, es']
  refine R_seeksx (h := h + 5) (b := some s') hP.1 hi hr hf t5 hT (by omega) (fun b e => by cases e; omega) (fun M8 r k8 hA _ => ⟨r, rfl, K i M2 M8 (some (Y, G)) r hi e hP k8 (Or.inl ⟨s, s', ⟨hs, hs'⟩, ⟨es, es'⟩, ?_⟩)⟩)
  rw [← (ff hP.2.2.1).1, ← (ff hP.2.2.1).2]
  exact hA
end
end
