/-! constructors: Tree, Weaver -/
def lTree : List (Nat × Nat × Nat) := [(0, 21, 640), (1, 21, 640), (2, 21, 640), (3, 21, 640), (4, 21, 640), (5, 21, 640), (6, 21, 640), (7, 21, 640), (8, 21, 640)]
theorem e640 : (640 : Int32).toNatClampNeg = 640 := by decide
theorem S_treeInit {h x0 : Nat} {M : Mem} (hx : ok M x0 10) : E (h + 1) mdX8_init [.ref x0] M (fun r M' => r = none ∧ rws M' x0 (mN M) lTree ∧ mN M' = mN M + 9 ∧ mS M' = mS M + 5760 ∧ fr (fun c => c = x0) M M' ∧ mI M' x0 = mI M x0) := by
  refine KX8_init ?_
  unfold DX8_init_0
  rw [e640]
  have hS : (fun c => c = x0) x0 := rfl
  refine ⟨by decide, by decide, fun q2 M1 hq2 hM1 => ⟨by rw [hM1]; exact ok_nwA hx, fun M4 hM4 => ?_⟩⟩
  obtain ⟨r1, n1, s1⟩ := rws_step (rws_0 (M := M) (x := x0) (n0 := mN M)) rfl rfl hq2 hM1 hM4
  have f1 : fr (fun c => c = x0) M M4 := (by rw [hM4, hM1]; exact fr_nwA.tr (fr_wR (S := fun c => c = x0) rfl) (fun _ _ z => z))
  have i1 : mI M4 x0 = mI M x0 := by rw [hM4, hM1]; rfl
  refine ⟨by decide, by decide, fun q6 M5 hq6 hM5 M7 hM7 => ?_⟩
  obtain ⟨r2, n2, s2⟩ := rws_step r1 n1 rfl hq6 hM5 hM7
  have f2 : fr (fun c => c = x0) M M7 := f1.tr (by rw [hM7, hM5]; exact fr_nwA.tr (fr_wR (S := fun c => c = x0) rfl) (fun _ _ z => z)) (fun _ _ z => z)
  have i2 : mI M7 x0 = mI M x0 := by rw [hM7, hM5]; exact i1
  refine ⟨by decide, by decide, fun q9 M8 hq9 hM8 M10 hM10 => ?_⟩
  obtain ⟨r3, n3, s3⟩ := rws_step r2 n2 rfl hq9 hM8 hM10
  have f3 : fr (fun c => c = x0) M M10 := f2.tr (by rw [hM10, hM8]; exact fr_nwA.tr (fr_wR (S := fun c => c = x0) rfl) (fun _ _ z => z)) (fun _ _ z => z)
  have i3 : mI M10 x0 = mI M x0 := by rw [hM10, hM8]; exact i2
  refine ⟨by decide, by decide, fun q12 M11 hq12 hM11 M13 hM13 => ?_⟩
  obtain ⟨r4, n4, s4⟩ := rws_step r3 n3 rfl hq12 hM11 hM13
  have f4 : fr (fun c => c = x0) M M13 := f3.tr (by rw [hM13, hM11]; exact fr_nwA.tr (fr_wR (S := fun c => c = x0) rfl) (fun _ _ z => z)) (fun _ _ z => z)
  have i4 : mI M13 x0 = mI M x0 := by rw [hM13, hM11]; exact i3
  refine ⟨by decide, by decide, fun q15 M14 hq15 hM14 M16 hM16 => ?_⟩
  obtain ⟨r5, n5, s5⟩ := rws_step r4 n4 rfl hq15 hM14 hM16
  have f5 : fr (fun c => c = x0) M M16 := f4.tr (by rw [hM16, hM14]; exact fr_nwA.tr (fr_wR (S := fun c => c = x0) rfl) (fun _ _ z => z)) (fun _ _ z => z)
  have i5 : mI M16 x0 = mI M x0 := by rw [hM16, hM14]; exact i4
  refine ⟨by decide, by decide, fun q18 M17 hq18 hM17 M19 hM19 => ?_⟩
  obtain ⟨r6, n6, s6⟩ := rws_step r5 n5 rfl hq18 hM17 hM19
  have f6 : fr (fun c => c = x0) M M19 := f5.tr (by rw [hM19, hM17]; exact fr_nwA.tr (fr_wR (S := fun c => c = x0) rfl) (fun _ _ z => z)) (fun _ _ z => z)
  have i6 : mI M19 x0 = mI M x0 := by rw [hM19, hM17]; exact i5
  refine ⟨by decide, by decide, fun q21 M20 hq21 hM20 M22 hM22 => ?_⟩
  obtain ⟨r7, n7, s7⟩ := rws_step r6 n6 rfl hq21 hM20 hM22
  have f7 : fr (fun c => c = x0) M M22 := f6.tr (by rw [hM22, hM20]; exact fr_nwA.tr (fr_wR (S := fun c => c = x0) rfl) (fun _ _ z => z)) (fun _ _ z => z)
  have i7 : mI M22 x0 = mI M x0 := by rw [hM22, hM20]; exact i6
  refine ⟨by decide, by decide, fun q24 M23 hq24 hM23 M25 hM25 => ?_⟩
  obtain ⟨r8, n8, s8⟩ := rws_step r7 n7 rfl hq24 hM23 hM25
  have f8 : fr (fun c => c = x0) M M25 := f7.tr (by rw [hM25, hM23]; exact fr_nwA.tr (fr_wR (S := fun c => c = x0) rfl) (fun _ _ z => z)) (fun _ _ z => z)
  have i8 : mI M25 x0 = mI M x0 := by rw [hM25, hM23]; exact i7
  refine ⟨by decide, by decide, fun q27 M26 hq27 hM26 M28 hM28 => ?_⟩
  obtain ⟨r9, n9, s9⟩ := rws_step r8 n8 rfl hq27 hM26 hM28
  have f9 : fr (fun c => c = x0) M M28 := f8.tr (by rw [hM28, hM26]; exact fr_nwA.tr (fr_wR (S := fun c => c = x0) rfl) (fun _ _ z => z)) (fun _ _ z => z)
  have i9 : mI M28 x0 = mI M x0 := by rw [hM28, hM26]; exact i8
  exact ⟨rfl, r9, n9, by omega, f9, i9⟩
