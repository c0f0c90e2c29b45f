/-! the class as a whole over compile -/
/-- what modules and governors still want, and how often these are kept, stays -/
def KeP (ms gs : List Nat) (M M' : Mem) : Prop := (∀ j, j < ms.length → lnS M' (ms.getD j 0) = lnS M (ms.getD j 0) ∧ lnN M' (ms.getD j 0) = lnN M (ms.getD j 0) ∧ mR M' (ms.getD j 0) 17 = mR M (ms.getD j 0) 17) ∧ ∀ q, q < gs.length → mI M' (gs.getD q 0) 5 = mI M (gs.getD q 0) 5
section
variable {ow : Nat → Nat} {ga : Nat → Td × PS} {gm : Nat → Nat} {M M' M1 M2 : Mem} {ms gs : List Nat} {mb gb h n0 : Nat} {S : Nat → Prop} {Q : Option Value → Mem → Prop}
theorem KeP.rf : KeP ms gs M M := ⟨fun _ _ => ⟨rfl, rfl, rfl⟩, fun _ _ => rfl⟩
theorem KeP.tr (a : KeP ms gs M M1) (b : KeP ms gs M1 M2) : KeP ms gs M M2 := ⟨fun j hj => ⟨(b.1 j hj).1.trans (a.1 j hj).1, (b.1 j hj).2.1.trans (a.1 j hj).2.1, (b.1 j hj).2.2.trans (a.1 j hj).2.2⟩, fun q hq => (b.2 q hq).trans (a.2 q hq)⟩
theorem CvS.ke (hC : CvS ow ga gm M ms gs mb gb) (k : fr S M M') (hS : ∀ a, S a → a < mN M → ow a < 132) : KeP ms gs M M' := by
  have fS : fr (fun a => S a ∧ a < mN M) M M' := ⟨k.1, fun a ha hn => k.2 a ha (fun z => hn ⟨z, ha⟩)⟩
  refine ⟨fun j hj => ?_, fun q hq => ?_⟩
  · obtain ⟨h1, h2⟩ := hC.2.2.2.2.2.2.2.1 j hj
    obtain ⟨a1, a2, a3⟩ := ln_fr h2 fS (fun a z e => by have := hS a z.1 z.2; omega)
    exact ⟨a1, a2, by rw [a3]⟩
  · obtain ⟨_, _, _, _, _, _, _, _, _, g132, hvq, _, hoq, _⟩ := hC.gv hq
    rw [(fS.2 _ hvq.1.1.1 (fun z => by have := hS _ z.1 z.2; omega)).1]
/-- only the reference's cells have changed -/
theorem RfF.fr {fs cs js : Nat → Prop} (k : RfF fs cs js M M') : fr (fun a => a = 29 ∨ cs a ∨ js a) M M' := ⟨k.e, fun a _ hn => ⟨k.2.2.1 a (fun z => hn (Or.inl z)), by rw [k.2.1.1], by rw [k.2.1.2.1], k.2.2.2.2.1 a (fun z => hn (Or.inr (Or.inl z))), k.2.2.2.2.2 a (fun z => hn (Or.inr (Or.inr z))), by rw [k.2.1.2.2]⟩⟩
theorem kd_fix (F : Fix M) {a : Nat} (ha : a < 132) (h29 : 29 ≤ a ∨ a = 0 ∨ (4 ≤ a ∧ a ≤ 28)) : mK M a ≠ 0 := by
  have all : ∀ a : Fin 132, (29 ≤ a.val ∨ a.val = 0 ∨ (4 ≤ a.val ∧ a.val ≤ 28)) → (∃ e ∈ tO, e.1 = a.val ∧ e.2 ≠ 0) ∨ ∃ e ∈ tA ++ tB, e.1 = a.val ∧ e.2.1 ≠ 0 := by decide +kernel
  rcases all ⟨a, ha⟩ h29 with ⟨e, he, e1, e2⟩ | ⟨e, he, e1, e2⟩
  · have e1 : e.1 = a := e1
    have := (F.2.1 e he).2
    rw [e1] at this
    rw [this]; exact e2
  · have e1 : e.1 = a := e1
    have := (F.2.2.1 e he).1.2
    rw [e1] at this
    rw [this]; exact e2
theorem CvS.rr {fs cs js : Nat → Prop} (hC : CvS ow ga gm M ms gs mb gb) (hb : mN M < mBig) (k : RfF fs cs js M M') (hc : ∀ c, cs c ∨ js c → 29 ≤ c ∧ c ≤ 131) : CvS ow ga gm M' ms gs mb gb ∧ KeP ms gs M M' := by
  have f : fr (fun a => 29 ≤ a ∧ a ≤ 131) M M' := (RfF.fr k).more (fun a _ z => by
    rcases z with z | z
    · omega
    · exact hc a z)
  exact ⟨hC.out hb f (k.fix hC.1 (fun z => by have := hc 19 (Or.inr z); omega)) (fun a z => ⟨by omega, by omega, by omega, kd_fix hC.1 (by omega) (Or.inl z.1)⟩), hC.ke f (fun a z _ => by rw [hC.2.2.2.2.1 a (by omega)]; decide)⟩
/-- behind a fault -/
theorem CvS.cf {n : Nat} {f v : Int32} (hC : CvS ow ga gm M ms gs mb gb) (hb : mN M < mBig) (hx : CRx n M M1 f v) (e : M' = wI (wI M1 0 1 0) 0 6 f) : CvS ow ga gm M' ms gs mb gb ∧ KeP ms gs M M' ∧ fr (fun a => a ≤ 28 ∧ a ≠ 2 ∧ a ≠ 3) M M' := by
  obtain ⟨F1, -, -, -, fr1, -⟩ := hx
  have fe : fr (fun a => a = 0 ∨ (4 ≤ a ∧ a ≤ 28)) M M' := (fr1.more (fun a _ z => by omega)).tr (M2 := M') (by rw [e]; exact (fr_wI (S := fun a => a = 0) rfl).tr (fr_wI (S := fun a => a = 0) rfl) (fun _ _ z => z)) (fun a _ z => Or.inl z)
  have F' : Fix M' := by rw [e]; exact F1.i.i
  exact ⟨hC.out hb fe F' (fun a z => ⟨by omega, by omega, by omega, kd_fix hC.1 (by omega) (by omega)⟩), hC.ke fe (fun a z _ => by rw [hC.2.2.2.2.1 a (by omega)]; decide), fe.more (fun a _ z => by omega)⟩
end
