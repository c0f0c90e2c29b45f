/-! the class's Search: its constructor, explore -/
def smA (ln : Nat → Nat) : Nat → Nat
  | 0 => 0
  | i + 1 => smA ln i + ln i
/-- i rows of x are made -/
def AcR (x : Nat) (ln : Nat → Nat) (M0 M : Mem) (i : Nat) : Prop := (mN M = mN M0 + i ∧ mS M = mS M0 + smA ln i ∧ fr (fun c => c = x) M0 M ∧ mI M = mI M0) ∧ (∀ j, j < i → mR M x (5 + j) = some (mN M0 + j) ∧ ok M (mN M0 + j) 21 ∧ mL M (mN M0 + j) = ln j ∧ ∀ k, mAI M (mN M0 + j) k = 0) ∧ ∀ f, f < 5 → mR M x f = mR M0 x f
section
variable {M0 M M8 M' : Mem} {x i : Nat} {ln : Nat → Nat}
theorem AcR.rf : AcR x ln M M 0 := ⟨⟨rfl, rfl, fr.rf, rfl⟩, fun j hj => absurd hj (Nat.not_lt_zero _), fun _ _ => rfl⟩
theorem AcR.st {q w : Nat} (h : AcR x ln M0 M i) (hx : x < mN M0) (hw : w = ln i) (eq : q = mN M) (e8 : M8 = nwA M 21 w) (e : M' = wR M8 x (5 + i) (some q)) : AcR x ln M0 M' (i + 1) := by
  obtain ⟨⟨a1, a2, a3, a4⟩, b, d⟩ := h
  have f1 : fr (fun c => c = x) M M8 := by rw [e8]; exact fr_nwA
  have f2 : fr (fun c => c = x) M8 M' := by rw [e]; exact fr_wR rfl
  have f3 := f1.tr f2 (fun _ _ z => z)
  have rr : ∀ f, f ≠ 5 + i → mR M' x f = mR M x f := fun f hf => by
    rw [e, mR_wR, if_neg (fun z => hf z.2), e8]
    exact congrFun (show mR M x = mR M x from rfl) f
  have k8 : mK M8 (mN M) = 21 := by rw [e8]; exact va_up_self _ _ _
  have l8 : mL M8 (mN M) = w := by rw [e8]; exact va_up_self _ _ _
  have z8 : mAI M8 (mN M) = fun _ => 0 := by rw [e8]; exact va_up_self _ _ _
  have n8 : mN M8 = mN M + 1 := by rw [e8]; rfl
  refine ⟨⟨?_, ?_, a3.tr f3 (fun _ _ z => z), ?_⟩, fun j hj => ?_, fun f hf => by rw [rr f (by omega)]; exact d f hf⟩
  · rw [e]; show mN M8 = _; omega
  · rw [e, e8]; show mS M + w = _; rw [a2, hw]; show _ = mS M0 + (smA ln i + ln i); omega
  · rw [e, e8]; exact a4
  · by_cases z : j = i
    · subst z
      rw [← a1]
      refine ⟨by rw [e, mR_wR, if_pos ⟨rfl, rfl⟩, eq], ⟨by rw [e]; show _ < mN M8; omega, by rw [e]; exact k8⟩, by rw [e]; exact l8.trans hw, fun k => by rw [e]; show mAI M8 (mN M) k = 0; rw [z8]⟩
    · obtain ⟨b1, b2, b3, b4⟩ := b j (by omega)
      have r := f3.2 (mN M0 + j) b2.1 (fun y => by omega)
      refine ⟨by rw [rr _ (by omega)]; exact b1, ok_E b2 f3.1, by rw [(f3.1.2.2 _ b2.1).2]; exact b3, fun k => by rw [r.2.2.2.1]; exact b4 k⟩
end
section
variable {M : Mem} {x n0 I F bc h : Nat} {Q : Option Value → Mem → Prop}
/-- a search as it is made -/
theorem S_sini (ox : ok M x 7) (on : ok M n0 3) (e10 : mI M n0 10 = Int32.ofNat I) (e14 : mI M n0 14 = Int32.ofNat F) (hI : I ≤ 4) (hF : F ≤ 100) (e7 : mR M n0 7 = some (n0 + 8)) (oc : ok M (n0 + 8) 2) (e8 : mR M (n0 + 8) 8 = some bc) (ob : ok M bc 21) (lb : mL M bc = 16)
    (K0 : ∀ M', 5 < I + F → fr (fun c => c = x) M M' → ok M' x 7 → mI M' x 2 = 1 → mN M' = mN M + 8 → mS M' ≤ mS M + 3360 → Q none M')
    (K1 : ∀ M' a, I + F ≤ 5 → fr (fun c => c = x) M M' → ScO M' x n0 (I + F) a → (∀ f, 5 ≤ f → f ≤ 12 → mN M ≤ a f ∧ ∀ k, mAI M' (a f) k = 0) → mI M' x 2 = 0 → mN M' = mN M + 8 → mS M' ≤ mS M + 3360 → Q none M') : E (h + 2) mdX5_init [.ref x, .ref n0] M Q := by
  have nx : n0 ≠ x := fun e => by rw [e] at on; exact absurd (on.2.symm.trans ox.2) (by decide)
  have nx8 : n0 + 8 ≠ x := fun e => by rw [e] at oc; exact absurd (oc.2.symm.trans ox.2) (by decide)
  have nbx : bc ≠ x := fun e => by rw [e] at ob; exact absurd (ob.2.symm.trans ox.2) (by decide)
  have d64 : ∀ (w mv : Nat) Ma, (w = 0 ∨ w = 48) → mv ≤ 32 → fr (fun c => c = x) M Ma → mN Ma = mN M → mS Ma = mS M → mI Ma x 1 = Int32.ofNat mv → (∀ M' , AcR x (fun j => if j = 4 ∨ j = 5 then w * mv else w) Ma M' 8 ∨ (∃ v, AcR x (fun j => if j = 4 ∨ j = 5 then w * mv else w) (wI Ma x 4 v) M' 8) → Q none M') → DX5_init_64 (h + 1) x n0 (Int32.ofNat w) Ma Q := by
    intro w mv Ma hw hm fa na sa e1 K
    have w48 : w ≤ 48 := by omega
    have wm : w * mv ≤ 1536 := by
      have := Nat.mul_le_mul w48 hm
      omega
    have lw : (Int32.ofNat w).toNatClampNeg = w := lt32 (by omega)
    have lwm : (Int32.ofNat (w * mv)).toNatClampNeg = w * mv := lt32 (by omega)
    have nw : ¬ Int32.ofNat w < 0 := nn32 w48
    have nwm : ¬ Int32.ofNat (w * mv) < 0 := fun z => by
      have := (ltn32 (a := w * mv) (b := 0) (by omega) (by decide)).mp z
      omega
    have rn := fa.2 n0 on.1 nx
    have rc := fa.2 (n0 + 8) oc.1 nx8
    unfold DX5_init_64
    refine ⟨ok_E on fa.1, n0 + 8, by rw [rn.2.2.1]; exact e7, ok_E oc fa.1, S_befM (h := h) (ok_E oc fa.1) (by rw [rc.2.2.1]; exact e8) (ok_E ob fa.1) (by rw [(fa.1.2.2 _ ob.1).2]; exact lb) (fun r5 _ => ⟨r5, rfl, ok_E ox fa.1, fun M7 e7' => ?_⟩)⟩
    have x7 : x < mN M7 := by rw [e7']; show x < mN Ma; rw [na]; exact ox.1
    have i1 : mI M7 x 1 = Int32.ofNat mv := by rw [e7', mI_wI, if_neg (fun y => absurd y.2 (by decide))]; exact e1
    have s0 : AcR x (fun j => if j = 4 ∨ j = 5 then w * mv else w) M7 M7 0 := AcR.rf
    rw [lw]
    refine ⟨nw, by omega, fun q9 M8 eq9 e8' M10 e10' => ⟨nw, by omega, fun q12 M11 eq12 e11 M13 e13 => ⟨nw, by omega, fun q15 M14 eq15 e14' M16 e16 => ⟨nw, by omega, fun q18 M17 eq18 e17 M19 e19 => ?_⟩⟩⟩⟩
    have s1 := s0.st x7 (w := w) rfl eq9 e8' e10'
    have s2 := s1.st x7 (w := w) rfl eq12 e11 e13
    have s3 := s2.st x7 (w := w) rfl eq15 e14' e16
    have s4 := s3.st x7 (w := w) rfl eq18 e17 e19
    rw [s4.1.2.2.2, i1, mul32, lwm]
    refine ⟨nwm, by omega, fun q21 M20 eq21 e20 M22 e22 => ?_⟩
    have s5 := s4.st x7 (w := w * mv) rfl eq21 e20 e22
    rw [s5.1.2.2.2, i1, mul32, lwm]
    refine ⟨nwm, by omega, fun q24 M23 eq24 e23 M25 e25 => ⟨nw, by omega, fun q27 M26 eq27 e26 M28 e28 => ⟨nw, by omega, fun q30 M29 eq30 e29 M31 e31 => ?_⟩⟩⟩
    have s6 := s5.st x7 (w := w * mv) rfl eq24 e23 e25
    have s7 := s6.st x7 (w := w) rfl eq27 e26 e28
    have s8 := s7.st x7 (w := w) rfl eq30 e29 e31
    exact K M31 (Or.inr ⟨r5, by rw [← e7']; exact s8⟩)
  have base : ∀ (M2 : Mem), M2 = wR M x 0 (some n0) → fr (fun c => c = x) M M2 ∧ mN M2 = mN M ∧ mS M2 = mS M ∧ mR M2 x 0 = some n0 := fun M2 e2 => ⟨by rw [e2]; exact fr_wR rfl, by rw [e2]; rfl, by rw [e2]; rfl, by rw [e2, mR_wR, if_pos ⟨rfl, rfl⟩]⟩
  refine KX5_init (h := h + 1) ?_
  unfold DX5_init_0
  refine ⟨ox, fun M2 e2 => ?_⟩
  obtain ⟨f2, n2, s2, r2⟩ := base M2 e2
  have i2 : mI M2 = mI M := by rw [e2]; rfl
  rw [i2, e10, e14, add32]
  have o2 : ok M2 x 7 := ok_E ox f2.1
  refine ⟨ok_E on f2.1, fun z5 => ?_, fun z5 => ?_⟩
  · have le5 : I + F ≤ 5 := (le32 (a := I + F) (b := 5) (by omega) (by decide)).mp z5
    unfold DX5_init_30 DX5_init_48
    refine ⟨o2, Or.inl rfl, fun M3 e3 => ⟨by rw [e3]; exact o2, fun _ => ⟨by rw [e3]; exact o2, fun M4 e4 => ?_⟩, fun y => absurd (by rw [e3, mI_wI, if_pos ⟨rfl, rfl⟩]) y⟩⟩
    have e3' := e3
    rw [pw_1 le5] at e4
    have o4 : ok M4 x 7 := by rw [e4, e3]; exact o2
    have b4 : mI M4 x 2 = 0 := by rw [e4, mI_wI, if_neg (fun y => absurd y.2 (by decide)), e3, mI_wI, if_pos ⟨rfl, rfl⟩]
    have f4 : fr (fun c => c = x) M M4 := (f2.tr (M2 := M3) (by rw [e3]; exact fr_wI rfl) (fun _ _ z => z)).tr (M2 := M4) (by rw [e4]; exact fr_wI (S := fun c => c = x) rfl) (fun _ _ z => z)
    have r4 : mR M4 x 0 = some n0 := by rw [e4, e3]; exact r2
    obtain ⟨p1, p2⟩ := pw_le le5
    refine ⟨o4, fun _ => ?_, fun y => absurd b4 y⟩
    refine d64 48 (2 ^ (I + F)) M4 (Or.inr rfl) p2 f4 (by rw [e4, e3]; exact n2) (by rw [e4, e3]; exact s2) (by rw [e4, mI_wI, if_pos ⟨rfl, rfl⟩]) (fun M' hA => ?_)
    have main : ∀ Mb, fr (fun c => c = x) M Mb → mN Mb = mN M → mS Mb = mS M → mI Mb x 2 = 0 → mI Mb x 1 = Int32.ofNat (2 ^ (I + F)) → mR Mb x 0 = some n0 → AcR x (fun j => if j = 4 ∨ j = 5 then 48 * 2 ^ (I + F) else 48) Mb M' 8 → Q none M' := by
      intro Mb fb nb sb i2b i1b r0b hA
      obtain ⟨⟨a1, a2, a3, a4⟩, b, d⟩ := hA
      have sm : smA (fun j => if j = 4 ∨ j = 5 then 48 * 2 ^ (I + F) else 48) 8 ≤ 3360 := by
        show 0 + 48 + 48 + 48 + 48 + 48 * 2 ^ (I + F) + 48 * 2 ^ (I + F) + 48 + 48 ≤ 3360
        omega
      refine K1 M' (fun f => mN M + (f - 5)) le5 (fb.tr a3 (fun _ _ z => z)) ⟨⟨ok_E (ok_E ox fb.1) a3.1, by rw [d 0 (by decide)]; exact r0b, by rw [a4]; exact i1b, le5⟩, fun f f1 f2 => ?_, fun f g f1 f2 g1 g2 z => ?_⟩ (fun f f1 f2 => ⟨Nat.le_add_right _ _, ?_⟩) (by rw [a4]; exact i2b) (by rw [a1, nb]) (by rw [a2, sb]; omega)
      · obtain ⟨b1, b2, b3, -⟩ := b (f - 5) (by omega)
        rw [nb, show 5 + (f - 5) = f by omega] at b1
        rw [nb] at b2 b3
        refine ⟨b1, b2, b3.trans ?_⟩
        by_cases y : f = 9 ∨ f = 10
        · rw [if_pos y]; exact if_pos (by omega)
        · rw [if_neg y]; exact if_neg (by omega)
      · have z : mN M + (f - 5) = mN M + (g - 5) := z
        omega
      · have := (b (f - 5) (by omega)).2.2.2
        rw [nb] at this
        exact this
    rcases hA with hA | ⟨v, hA⟩
    · exact main M4 f4 (by rw [e4, e3]; exact n2) (by rw [e4, e3]; exact s2) b4 (by rw [e4, mI_wI, if_pos ⟨rfl, rfl⟩]) r4 hA
    · exact main (wI M4 x 4 v) (f4.tr (fr_wI (S := fun c => c = x) rfl) (fun _ _ z => z)) (by rw [e4, e3]; exact n2) (by rw [e4, e3]; exact s2) (by rw [mI_wI, if_neg (fun y => absurd y.2 (by decide))]; exact b4) (by rw [mI_wI, if_neg (fun y => absurd y.2 (by decide)), e4, mI_wI, if_pos ⟨rfl, rfl⟩]) r4 hA
  · have gt5 : 5 < I + F := by
      rcases Nat.lt_or_ge 5 (I + F) with y | y
      · exact y
      · exact absurd ((le32 (a := I + F) (b := 5) (by omega) (by decide)).mpr y) z5
    unfold DX5_init_30 DX5_init_48
    refine ⟨o2, Or.inr rfl, fun M3 e3 => ⟨by rw [e3]; exact o2, fun y => ?_, fun _ => ⟨by rw [e3]; exact o2, fun M4 e4 => ?_⟩⟩⟩
    · rw [e3, mI_wI, if_pos ⟨rfl, rfl⟩] at y
      exact absurd y (by decide)
    have o4 : ok M4 x 7 := by rw [e4, e3]; exact o2
    have b4 : mI M4 x 2 = 1 := by rw [e4, mI_wI, if_neg (fun y => absurd y.2 (by decide)), e3, mI_wI, if_pos ⟨rfl, rfl⟩]
    have f4 : fr (fun c => c = x) M M4 := (f2.tr (M2 := M3) (by rw [e3]; exact fr_wI rfl) (fun _ _ z => z)).tr (M2 := M4) (by rw [e4]; exact fr_wI (S := fun c => c = x) rfl) (fun _ _ z => z)
    refine ⟨o4, fun y => ?_, fun _ => ?_⟩
    · rw [b4] at y; exact absurd y (by decide)
    refine d64 0 1 M4 (Or.inl rfl) (by decide) f4 (by rw [e4, e3]; exact n2) (by rw [e4, e3]; exact s2) (by rw [e4, mI_wI, if_pos ⟨rfl, rfl⟩]; rfl) (fun M' hA => ?_)
    have main : ∀ Mb, fr (fun c => c = x) M Mb → mN Mb = mN M → mS Mb = mS M → mI Mb x 2 = 1 → AcR x (fun j => if j = 4 ∨ j = 5 then 0 * 1 else 0) Mb M' 8 → Q none M' := by
      intro Mb fb nb sb i2b hA
      obtain ⟨⟨a1, a2, a3, a4⟩, b, d⟩ := hA
      exact K0 M' gt5 (fb.tr a3 (fun _ _ z => z)) (ok_E (ok_E ox fb.1) a3.1) (by rw [a4]; exact i2b) (by rw [a1, nb]) (by rw [a2, sb]; exact Nat.add_le_add_left (show smA (fun j => if j = 4 ∨ j = 5 then 0 * 1 else 0) 8 ≤ 3360 by decide) _)
    rcases hA with hA | ⟨v, hA⟩
    · exact main M4 f4 (by rw [e4, e3]; exact n2) (by rw [e4, e3]; exact s2) b4 hA
    · exact main (wI M4 x 4 v) (f4.tr (fr_wI (S := fun c => c = x) rfl) (fun _ _ z => z)) (by rw [e4, e3]; exact n2) (by rw [e4, e3]; exact s2) (by rw [mI_wI, if_neg (fun y => absurd y.2 (by decide))]; exact b4) hA
end
section
variable {τ : Td} {m : Nat} {σ : PS} {root : Nat} {γ : Gh} {g0 n0 n1 gw : Nat} {Z0 P : Nat → Nat → Int32} {zp : Int32} {Ψ1 Ψ2 : Wg} {R : RMo} {zn fn y0 q0 : Nat} {lc rc cc pb ib b1 b2 ya0 na0 pz x t h : Nat} {hl : List Int32} {ps : List Nat} {a : Nat → Nat} {M : Mem} {Q : Option Value → Mem → Prop}
/-- new rows for the lanes that are then long enough, or none -/
def LnP (ya0 na0 ya na len : Nat) (M M' : Mem) : Prop := (ya = ya0 ∧ na = na0 ∧ mN M' = mN M ∧ mS M' = mS M) ∨ (ya = mN M ∧ na = mN M + 1 ∧ mN M' = mN M + 2 ∧ mS M' = mS M + 2 * len ∧ mL M ya0 < len ∧ len ≤ mL M' ya)
theorem S_expl (hW : MdW τ m σ root γ g0 n0 gw Z0 P zp Ψ1 Ψ2) (hT : TwT (woS τ m σ γ) R zn fn y0 root q0) (hR : MdR τ m σ R) (h16 : τ.1.length ≤ 16) (hz : MoZ n0 n1 lc rc cc pb ib b1 b2 ps) (hM : MoM M n0 τ σ Ψ2 hl lc rc cc pb ib b1 b2 ya0 na0 pz ps) (hO : ScO M x n0 t a) (hC : (∀ s, s < 48 → ∃ q, q < 48 ∧ mAI M (a 7) s = Int32.ofNat q) ∧ ∀ j, j < 48 * 2 ^ t → mAI M (a 9) j < 0 ∨ ∃ q, q < 48 ∧ mAI M (a 9) j = Int32.ofNat q) (ht : (inL τ.2.1).length + (ifS σ).length = t) (hx : ∀ r, r = x ∨ rwF a r → ¬ (n0 ≤ r ∧ r < n1) ∧ r ≠ ya0 ∧ r ≠ na0) (hbig : mN M + 4 < mBig) (e2 : mI M x 2 = 0) (K : ∀ M' n' ya na, fr (SeF n0 ya0 na0 x a) M M' → MoM M' n0 τ σ Ψ2 hl lc rc cc pb ib b1 b2 ya na pz ps → ScO M' x n0 t a → ScC M' x t n' a → 1 ≤ n' → (mI M' x 2 = 0 ∨ mI M' x 2 = 1) → LnP ya0 na0 ya na Ψ2.1.length M M' → Q none M') : E (h + 6) mdX5_explore [.ref x] M Q := by
  have okr : ∀ {r : Nat}, r = x ∨ rwF a r → ok M r 7 ∨ ok M r 21 := fun {r} z => by
    rcases z with z | ⟨f, f1, f2, z⟩
    · exact Or.inl (by rw [z]; exact hO.1.1)
    · exact Or.inr (by rw [z]; exact (hO.2.1 f f1 f2).2.1)
  have d50 : ∀ M1 n1' ya na, fr (SeF n0 ya0 na0 x a) M M1 → MoM M1 n0 τ σ Ψ2 hl lc rc cc pb ib b1 b2 ya na pz ps → ScO M1 x n0 t a → ScC M1 x t n1' a → 1 ≤ n1' → (mI M1 x 2 = 0 ∨ mI M1 x 2 = 1) → LnP ya0 na0 ya na Ψ2.1.length M M1 → DX5_explore_50 (h + 5) x M1 Q := by
    intro M1 n1' ya na k1 Mo1 O1 C1 h1 b1 N1
    have bg : mN M1 < mBig := by rcases N1 with ⟨-, -, e, -⟩ | ⟨-, -, e, -⟩ <;> omega
    unfold DX5_explore_50 DX5_explore_61
    refine ⟨O1.1.1, fun _ => K M1 n1' ya na k1 Mo1 O1 C1 h1 b1 N1, fun _ => S_grpAl (h := h + 1) O1 C1 Mo1.1.1.1 (fun M2 k2 _ => ⟨rfl, ?_⟩)⟩
    have sub : ∀ r, (r = x ∨ (r = a 11 ∨ r = a 12)) → r = x ∨ rwF a r := fun r z => by
      rcases z with z | z | z
      · exact Or.inl z
      · exact Or.inr ⟨11, by decide, by decide, z⟩
      · exact Or.inr ⟨12, by decide, by decide, z⟩
    refine K M2 n1' ya na (k1.tr k2.fr (fun c _ z => Or.inr (Or.inr (Or.inr (sub c z))))) (Mo1.out hz bg k2.fr (fun r z => (hx r (sub r z)).1) (fun r z => ?_)) (O1.gm k2 (fun z => z)) (C1.k (k2.2.2.2.1 3 (fun z => z)) (k2.2.2.2.2 _ (fun z => z.elim (hO.ne (by decide) (by decide) (by decide) (by decide) (by decide)) (hO.ne (by decide) (by decide) (by decide) (by decide) (by decide)))) (k2.2.2.2.2 _ (fun z => z.elim (hO.ne (by decide) (by decide) (by decide) (by decide) (by decide)) (hO.ne (by decide) (by decide) (by decide) (by decide) (by decide))))) h1 (by rw [k2.2.2.2.1 2 (fun z => z)]; exact b1) ?_
    · rcases okr (sub r z) with o | o
      · rw [(ok_E o k1.1).2]; decide
      · rw [(ok_E o k1.1).2]; decide
    · unfold LnP
      rw [k2.1.1, k2.1.2.1, k2.1.2.2.2]
      exact N1
  have l18 : ∀ d s M1 n1' ya na, s + d = 48 → fr (SeF n0 ya0 na0 x a) M M1 → MoM M1 n0 τ σ Ψ2 hl lc rc cc pb ib b1 b2 ya na pz ps → ScO M1 x n0 t a → ScC M1 x t n1' a → 1 ≤ n1' → (mI M1 x 2 = 0 ∨ mI M1 x 2 = 1) → LnP ya0 na0 ya na Ψ2.1.length M M1 → T (h + 6) mdX5_explore 18 [(0, .ref x), (1, .int (Int32.ofNat s))] [] M1 Q := by
    intro d
    induction d with
    | zero =>
      intro s M1 n1' ya na hs k1 Mo1 O1 C1 h1 b1 N1
      have es : s = 48 := hs
      subst es
      refine VX5_explore_18 (h := h + 5) ?_
      unfold DX5_explore_18
      exact ⟨fun _ => d50 M1 n1' ya na k1 Mo1 O1 C1 h1 b1 N1, fun z => absurd Int32.le_rfl z⟩
    | succ d ih =>
      intro s M1 n1' ya na hs k1 Mo1 O1 C1 h1 b1 N1
      refine VX5_explore_18 (h := h + 5) ?_
      unfold DX5_explore_18
      rw [C1.1.1, succ32]
      refine ⟨fun z => absurd ((le32 (a := 48) (by decide) (by omega)).mp z) (by omega), fun _ => ⟨O1.1.1, fun _ => d50 M1 n1' ya na k1 Mo1 O1 C1 h1 b1 N1, fun z => ⟨fun _ => d50 M1 n1' ya na k1 Mo1 O1 C1 h1 b1 N1, fun b0 => ?_⟩⟩⟩
      have sn : s < n1' := by
        rcases Nat.lt_or_ge s n1' with y | y
        · exact y
        · exact absurd ((le32 (by have := C1.1.2; omega) (by omega)).mpr y) z
      have yl : ∀ {r : Nat}, r < mN M → r ≠ ya0 → r ≠ na0 → r ≠ ya ∧ r ≠ na := fun {r} hr h1 h2 => by
        rcases N1 with ⟨e, e', -⟩ | ⟨e, e', -⟩
        · rw [e, e']; exact ⟨h1, h2⟩
        · omega
      have rlt : ∀ {r : Nat}, r = x ∨ rwF a r → r < mN M := fun z => (okr z).elim (fun o => o.1) (fun o => o.1)
      refine S_wkSt (h := h) hW hT hR h16 hz Mo1 O1 C1 ht sn (fun r z => ⟨(hx r z).1, yl (rlt z) (hx r z).2.1 (hx r z).2.2⟩) (by rcases N1 with ⟨-, -, e, -⟩ | ⟨-, -, e, -⟩ <;> omega) b0 (fun M2 n2 ya' na' k2 Mo2 O2 C2 hn2 bb2 ll2 N2 _ => ⟨rfl, ih (s + 1) M2 n2 ya' na' (by omega) (k1.tr k2 (fun c hc z => ?_)) Mo2 O2 C2 (by omega) bb2 ?_⟩)
      · unfold SeF at z ⊢
        rcases N1 with ⟨e, e', -⟩ | ⟨e, e', -⟩
        · rw [e, e'] at z; exact z
        · rcases z with z | z | z | z
          · exact Or.inl z
          · omega
          · omega
          · exact Or.inr (Or.inr (Or.inr z))
      · rcases N1 with ⟨e, e', e3, e4⟩ | ⟨e, e', e3, e4, e5, e6⟩
        · rcases N2 with ⟨q, q', q3, q4⟩ | ⟨q, q', q3, q4, q5⟩
          · exact Or.inl ⟨q.trans e, q'.trans e', q3.trans e3, q4.trans e4⟩
          · refine Or.inr ⟨by omega, by omega, by omega, by omega, ?_, ll2⟩
            rw [e, (k1.1.2.2 ya0 hM.2.2.2.2.2.1.1.2.1.2.1.1).2] at q5
            exact q5
        · rcases N2 with ⟨q, q', q3, q4⟩ | ⟨q, q', q3, q4, q5⟩
          · exact Or.inr ⟨q.trans e, q'.trans e', by omega, by omega, e5, ll2⟩
          · omega
  refine KX5_explore (h := h + 5) ?_
  unfold DX5_explore_0 DX5_explore_13
  refine ⟨hO.1.1, fun _ => ⟨hO.1.1, fun M2 e2' => ?_⟩, fun z => absurd e2 z⟩
  have k2 : GmF x f23 noP M M2 := GmF.i (Or.inr rfl) e2'
  have i3 : mI M2 x 3 = Int32.ofNat 1 := by rw [e2', mI_wI, if_pos ⟨rfl, rfl⟩]; rfl
  have a2 : mAI M2 = mAI M := by rw [e2']; rfl
  refine l18 48 0 M2 1 ya0 na0 (by omega) (k2.fr.more (fun c _ z => z.elim (fun y => Or.inr (Or.inr (Or.inr (Or.inl y)))) (fun y => y.elim))) (hM.out hz (by omega) k2.fr (fun r z => z.elim (fun y => (hx r (Or.inl y)).1) (fun y => y.elim)) (fun r z => z.elim (fun y => by rw [y, hO.1.1.2]; decide) (fun y => y.elim))) (hO.gm k2 (by decide)) ⟨⟨i3, by decide⟩, by rw [a2]; exact hC.1, by rw [a2]; exact hC.2⟩ (Nat.le_refl _) (Or.inl ?_) (Or.inl ⟨rfl, rfl, k2.1.1, k2.1.2.1⟩)
  rw [e2', mI_wI, if_neg (fun y => absurd y.2 (by decide))]; exact e2
/-- a search that is beyond from the first on -/
theorem S_expB (ox : ok M x 7) (e2 : mI M x 2 = 1) (K : ∀ M', GmF x f23 noP M M' → mI M' x 2 = 1 → Q none M') : E (h + 1) mdX5_explore [.ref x] M Q := by
  refine KX5_explore ?_
  unfold DX5_explore_0 DX5_explore_13
  refine ⟨ox, fun z => absurd (e2.symm.trans z) (by decide), fun _ => ⟨ox, fun M2 e2' => ?_⟩⟩
  have k2 : GmF x f23 noP M M2 := GmF.i (Or.inr rfl) e2'
  have i3 : mI M2 x 3 = 0 := by rw [e2', mI_wI, if_pos ⟨rfl, rfl⟩]
  have i2 : mI M2 x 2 = 1 := by rw [e2', mI_wI, if_neg (fun y => absurd y.2 (by decide))]; exact e2
  refine VX5_explore_18 ?_
  unfold DX5_explore_18 DX5_explore_50 DX5_explore_61
  refine ⟨fun z => absurd z (by decide), fun _ => ⟨k2.ok ox, fun _ => ⟨k2.ok ox, fun _ => K M2 k2 i2, fun z => absurd (i2.symm.trans z) (by decide)⟩, fun z => absurd (by rw [i3]; exact Int32.le_rfl) z⟩⟩
end
