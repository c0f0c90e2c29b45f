/-! the class begins a part: the new part -/
section
variable {b : Nat → Int32} {n s n0 m : Nat} {τ : Td} {M0 M M' : Mem} {i o j g : Nat} {γ : ClT} {σ : PS} {K : List KE} {cn cn' : Nat → Nat} {ps : List Nat} {tl : List Int64} {f k : Int32} {p t t' h B t0 t1 : Nat} {Q : Option Value → Mem → Prop} {Q1 : Int32 → Mem → Prop} {W : Nat}
/-- the class's counters once a part is begun: ifs are counted later -/
def cnB (m : Nat) (k : Int32) (pl q d : Nat) (wh : Int32) (σ : PS) : Nat → Nat := fun c => if c = 2 then σ.1.1 2 else (bgP m k pl q d wh σ).1.1 c
theorem CS.cnt (hC : CS b n s n0 τ M0 M i o γ cn ps tl) (e0 : cn' 0 = cn 0) (e1 : cn' 1 = cn 1) (e2 : cn' 2 = cn 2) (e3 : cn' 3 = cn 3) : CS b n s n0 τ M0 M i o γ cn' ps tl := ⟨hC.1, hC.2.1.cnt e0 e1 e2 e3, hC.2.2.1, hC.2.2.2.1, by rw [e2]; exact hC.2.2.2.2⟩
theorem Z_new {q d : Nat} {wh : Int32} {P : Mem → Prop} (hC : CS b n s n0 τ M0 M i o σ.2.1 σ.1.1 ps tl) (hn : npS σ < 40) (hp : σ.1.1 1 ≤ 24) (hd : d ≤ 15) (h3 : σ.1.1 3 ≤ 16) (H : ∀ M25, CS b n s n0 τ M0 M25 i o (bgP m (tK b n i) (tP b n i) q d wh σ).2.1 (cnB m (tK b n i) (tP b n i) q d wh σ) (ps ++ [mN M]) tl → P M25) : ∀ (q8 : Nat) (M7 : Mem), q8 = mN M → M7 = nwO M 5 13 → ∃ b9 : Nat, mR M7 14 0 = some b9 ∧ ok M7 b9 9 ∧ E (h + 6) mdX3_init [.ref q8, .int (mI M7 b9 10)] M7 (fun r M11 => mE M7 M11 → r = none ∧ ∃ b12 : Nat, mR M11 14 7 = some b12 ∧ ok M11 b12 3 ∧ ∃ b14 : Nat, mR M11 b12 6 = some b14 ∧ ok M11 b14 1 ∧ E (h + 6) mdJx4a65c_add_9ea2d [.ref b14, .ref q8] M11 (fun r M16 => mE M11 M16 → ∃ r17 : Int32, r = some (.int r17) ∧ ∃ b18 : Nat, mR M16 14 7 = some b18 ∧ ∃ b19 : Nat, mR M16 14 7 = some b19 ∧ ok M16 b19 3 ∧ ok M16 b18 3 ∧ ∀ M22, M22 = wI M16 b18 15 (if (mI M16 b19 15) < Int32.ofNat (d + 1) then Int32.ofNat (d + 1) else (mI M16 b19 15)) → E (h + 6) mdX4_pausesOf [.int (tK b n i)] M22 (fun r M23 => mE M22 M23 → ∃ r24 : Int32, r = some (.int r24) ∧ ∀ M25, M25 = wI M23 14 4 ((mI M22 14 4) + r24) → P M25))) := by
  intro q8 M7 e8 e7
  have F := hC.1.1
  have L := hC.len
  have N := hC.2.1.nz
  have F7 : Fix M7 := by rw [e7]; exact F.o
  obtain ⟨lc, rc, cc, pb, ib, hQ⟩ := id hC.2.1
  have big := hQ.big (by have := hC.2.2.1; omega) (by have := hC.2.2.2.1; omega)
  have f7 : ∀ S : Nat → Prop, fr S M M7 := fun S => by rw [e7]; exact fr_nwO
  have pl : mI M7 15 10 = Int32.ofNat (tP b n i) := by rw [((f7 (fun _ => False)).2 15 (by omega) (fun z => z)).1]; exact hC.1.2.2.2.2.2.2.1
  have o7 : ok M7 q8 5 := by rw [e7, e8]; exact ⟨Nat.lt_succ_self _, va_up_self _ _ _⟩
  refine ⟨15, rf14_0 F7, ok15 F7, ?_⟩
  rw [pl]
  refine KX3_init (h := h + 5) ?_
  unfold DX3_init_0
  refine ⟨o7, fun M11 e11 _ => ⟨rfl, ?_⟩⟩
  rw [e7, e8] at e11
  have f11 : ∀ S : Nat → Prop, fr S M M11 := fun S => by
    rw [e11]
    exact (fr_nwO (S := S)).tr (fr_wI (S := fun c => c = mN M) rfl) (fun a ha z => by omega)
  have row : ∀ a, a < mN M → sameRow M M11 a := fun a ha => (f11 (fun _ => False)).2 a ha (fun z => z)
  have E11 : mE M M11 := (f11 (fun _ => False)).1
  have A11 : ALp M11 (n0 + 7) pb 5 ps := alp_fr3 hQ.2.2.2.1.1 (f11 (fun _ => False)) (fun z => z) (fun _ z => z)
  have o11 : ok M11 q8 5 := by rw [e11, e8]; exact ⟨Nat.lt_succ_self _, va_up_self _ _ _⟩
  refine ⟨n0, by rw [(row 14 (by omega)).2.2.1]; exact N.2.2.2.2.2.1, ok_E N.2.2.1 E11, n0 + 7, by rw [(row n0 (by omega)).2.2.1]; exact N.2.2.2.2.2.2.2.1, A11.1, ?_⟩
  refine S_add A11 (by omega) (Or.inr (Or.inr (Or.inr rfl))) (Or.inl o11) (fun M16 pb' A16 F16 _ => ⟨_, rfl, ?_⟩)
  rw [e8] at A16
  have np : npS σ = ps.length := L.2.2.2.1.symm
  have hq16 := hQ.new (v := Int32.ofNat (tP b n i)) (by have := hC.2.2.1; omega) (by have := hC.2.2.2.1; omega) hn e11 F16 A16
  have C16 : CS b n s n0 τ M0 M16 i o (va_up σ.2.1.1 ps.length (fun f => if f = 0 then Int32.ofNat (tP b n i) else 0), σ.2.1.2) (va_up σ.1.1 0 (ps.length + 1)) (ps ++ [mN M]) tl := by
    refine ⟨TI_hi hC.1 ((f11 _).tr F16.1 (fun a ha z => ?_)), ⟨lc, rc, cc, pb', ib, hq16⟩, hC.2.2⟩
    have l3 := hQ.2.2.2.1.2.2.1
    rcases z with z | z
    · omega
    · omega
  have N16 := C16.2.1.nz
  refine ⟨n0, N16.2.2.2.2.2.1, n0, N16.2.2.2.2.2.1, N16.2.2.1, N16.2.2.1, fun M22 e22 => ?_⟩
  have e15 : mI M16 n0 15 = Int32.ofNat (σ.1.1 3) := C16.2.1.rd.2.2.2.2.2
  have dep : (if mI M16 n0 15 < Int32.ofNat (d + 1) then Int32.ofNat (d + 1) else mI M16 n0 15) = Int32.ofNat (if d + 1 ≤ σ.1.1 3 then σ.1.1 3 else d + 1) := by
    rw [e15]
    by_cases z : d + 1 ≤ σ.1.1 3
    · rw [if_pos z, if_neg (fun y => by have := (ltn32 (by omega) (by omega)).mp y; omega)]
    · rw [if_neg z, if_pos ((ltn32 (by omega) (by omega)).mpr (by omega))]
  rw [dep] at e22
  have C22 : CS b n s n0 τ M0 M22 i o (va_up σ.2.1.1 ps.length (fun f => if f = 0 then Int32.ofNat (tP b n i) else 0), σ.2.1.2) (va_up (va_up σ.1.1 0 (ps.length + 1)) 3 (if d + 1 ≤ σ.1.1 3 then σ.1.1 3 else d + 1)) (ps ++ [mN M]) tl := ⟨TI_hi C16.1 (by rw [e22]; exact fr_wI (S := fun c => 132 ≤ c) N.1), C16.2.1.w0 (Or.inr rfl) e22 rfl rfl rfl rfl, C16.2.2⟩
  refine S_pauses (fun _ => ⟨_, rfl, fun M25 e25 => ?_⟩)
  have e4 : mI M22 14 4 = Int32.ofNat (σ.1.1 1) := C22.2.1.rd.2.1
  rw [e4, add32] at e25
  refine H M25 ?_
  have C25 : CS b n s n0 τ M0 M25 i o (va_up σ.2.1.1 ps.length (fun f => if f = 0 then Int32.ofNat (tP b n i) else 0), σ.2.1.2) (va_up (va_up (va_up σ.1.1 0 (ps.length + 1)) 3 (if d + 1 ≤ σ.1.1 3 then σ.1.1 3 else d + 1)) 1 (σ.1.1 1 + paK (tK b n i))) (ps ++ [mN M]) tl := ⟨by rw [e25]; exact C22.1.fr C22.1.1.i w14 rfl rfl rfl rfl, C22.2.1.pv C22.1.1 e25, C22.2.2⟩
  have eb : (bgP m (tK b n i) (tP b n i) q d wh σ).2.1 = (va_up σ.2.1.1 ps.length (fun f => if f = 0 then Int32.ofNat (tP b n i) else 0), σ.2.1.2) := by
    show (va_up σ.2.1.1 (σ.1.1 0) _, σ.2.1.2) = _
    rw [show σ.1.1 0 = ps.length from np]
  rw [eb]
  refine C25.cnt ?_ ?_ ?_ ?_
  · simp [cnB, bgP, va_up, ← np, npS]
  · simp [cnB, bgP, va_up]
  · simp [cnB, va_up]
  · simp [cnB, bgP, va_up]
end
