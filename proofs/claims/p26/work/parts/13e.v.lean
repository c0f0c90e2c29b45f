def DX11_init_844 (h : Nat) (x0 : Nat) (M : Mem) (Q : Option Value → Mem → Prop) : Prop :=
  ¬ (6144 : Int32) < 0 ∧ ((6144 : Int32).toNatClampNeg ≤ 100000000) ∧ ∀ (q2 : Nat) (M1 : Mem), q2 = mN M → M1 = nwA M 21 ((6144 : Int32).toNatClampNeg) →
  ok M1 x0 13 ∧ ∀ M4 : Mem, M4 = wR M1 x0 122 (some q2) →
  ∀ M5 : Mem, M5 = wI M4 x0 123 (-1) →
  ∀ M6 : Mem, M6 = wI M5 x0 124 (-1) →
  ¬ (48 : Int32) < 0 ∧ ((48 : Int32).toNatClampNeg ≤ 100000000) ∧ ∀ (q8 : Nat) (M7 : Mem), q8 = mN M6 → M7 = nwA M6 21 ((48 : Int32).toNatClampNeg) →
  ∀ M9 : Mem, M9 = wR M7 x0 125 (some q8) →
  Q none M9
set_option maxRecDepth 20000 in
set_option maxHeartbeats 2000000 in
theorem VX11_init_844 {h : Nat} {x0 : Nat} {M : Mem} {Q : Option Value → Mem → Prop} (H : DX11_init_844 h x0 M Q) : T (h + 1) mdX11_init 844 [(0, .ref x0)] [] M Q := by
  unfold DX11_init_844 at H
  refine xt_aload_n (j := 0) dX11_init_844 rfl rfl ?_
  refine xt_sipush (v := 6144) dX11_init_845 (by decide) ?_
  obtain ⟨hn, hy, H⟩ := H
  obtain ⟨M1, eM1⟩ : ∃ z, z = nwA M 21 ((6144 : Int32).toNatClampNeg) := ⟨_, rfl⟩
  obtain ⟨q2, eq2⟩ : ∃ z, z = mN M := ⟨_, rfl⟩
  have H := H _ _ eq2 eM1
  refine xt_newI dX11_init_848 ac_I hn rfl hy ?_
  rw [← eM1, ← eq2]
  obtain ⟨ho3, H⟩ := H
  obtain ⟨M4, eM4⟩ : ∃ z, z = wR M1 x0 122 (some q2) := ⟨_, rfl⟩
  have H := H _ eM4
  refine xt_putR dX11_init_850 (flX11_312 rfl) ft_13_122 rfl ho3.1 ho3.2 ?_
  have ho3 : ok M4 x0 13 := by rw [eM4]; exact ho3
  rw [← eM4]
  refine xt_aload_n (j := 0) dX11_init_853 rfl rfl ?_
  refine xt_iconst (v := -1) dX11_init_854 (by decide) ?_
  obtain ⟨M5, eM5⟩ : ∃ z, z = wI M4 x0 123 (-1) := ⟨_, rfl⟩
  have H := H _ eM5
  refine xt_putI dX11_init_855 (flX11_315 rfl) ty_13_123 rfl ho3.1 ho3.2 ?_
  have ho3 : ok M5 x0 13 := by rw [eM5]; exact ho3
  rw [← eM5]
  refine xt_aload_n (j := 0) dX11_init_858 rfl rfl ?_
  refine xt_iconst (v := -1) dX11_init_859 (by decide) ?_
  obtain ⟨M6, eM6⟩ : ∃ z, z = wI M5 x0 124 (-1) := ⟨_, rfl⟩
  have H := H _ eM6
  refine xt_putI dX11_init_860 (flX11_319 rfl) ty_13_124 rfl ho3.1 ho3.2 ?_
  have ho3 : ok M6 x0 13 := by rw [eM6]; exact ho3
  rw [← eM6]
  refine xt_aload_n (j := 0) dX11_init_863 rfl rfl ?_
  refine xt_bipush (v := 48) dX11_init_864 (by decide) ?_
  obtain ⟨hn, hy, H⟩ := H
  obtain ⟨M7, eM7⟩ : ∃ z, z = nwA M6 21 ((48 : Int32).toNatClampNeg) := ⟨_, rfl⟩
  obtain ⟨q8, eq8⟩ : ∃ z, z = mN M6 := ⟨_, rfl⟩
  have H := H _ _ eq8 eM7
  refine xt_newI dX11_init_866 ac_I hn rfl hy ?_
  have ho3 : ok M7 x0 13 := by rw [eM7]; exact ok_nwA ho3
  rw [← eM7, ← eq8]
  obtain ⟨M9, eM9⟩ : ∃ z, z = wR M7 x0 125 (some q8) := ⟨_, rfl⟩
  have H := H _ eM9
  refine xt_putR dX11_init_868 (flX11_322 rfl) ft_13_125 rfl ho3.1 ho3.2 ?_
  have ho3 : ok M9 x0 13 := by rw [eM9]; exact ho3
  rw [← eM9]
  exact xt_return dX11_init_871 rfl H
def DX11_init_760 (h : Nat) (x0 : Nat) (M : Mem) (Q : Option Value → Mem → Prop) : Prop :=
  ¬ (6 : Int32) < 0 ∧ ((6 : Int32).toNatClampNeg ≤ 60000000) ∧ ∀ (q2 : Nat) (M1 : Mem), q2 = mN M → M1 = nwA M 23 ((6 : Int32).toNatClampNeg) →
  ok M1 x0 13 ∧ ∀ M4 : Mem, M4 = wR M1 x0 110 (some q2) →
  ¬ (40 : Int32) < 0 ∧ ((40 : Int32).toNatClampNeg ≤ 100000000) ∧ ∀ (q6 : Nat) (M5 : Mem), q6 = mN M4 → M5 = nwA M4 21 ((40 : Int32).toNatClampNeg) →
  ∀ M7 : Mem, M7 = wR M5 x0 112 (some q6) →
  ¬ (4 : Int32) < 0 ∧ ((4 : Int32).toNatClampNeg ≤ 100000000) ∧ ∀ (q9 : Nat) (M8 : Mem), q9 = mN M7 → M8 = nwA M7 21 ((4 : Int32).toNatClampNeg) →
  ∀ M10 : Mem, M10 = wR M8 x0 114 (some q9) →
  ¬ (4 : Int32) < 0 ∧ ((4 : Int32).toNatClampNeg ≤ 100000000) ∧ ∀ (q12 : Nat) (M11 : Mem), q12 = mN M10 → M11 = nwA M10 21 ((4 : Int32).toNatClampNeg) →
  ∀ M13 : Mem, M13 = wR M11 x0 115 (some q12) →
  ¬ (192 : Int32) < 0 ∧ ((192 : Int32).toNatClampNeg ≤ 100000000) ∧ ∀ (q15 : Nat) (M14 : Mem), q15 = mN M13 → M14 = nwA M13 21 ((192 : Int32).toNatClampNeg) →
  ∀ M16 : Mem, M16 = wR M14 x0 116 (some q15) →
  ¬ (192 : Int32) < 0 ∧ ((192 : Int32).toNatClampNeg ≤ 100000000) ∧ ∀ (q18 : Nat) (M17 : Mem), q18 = mN M16 → M17 = nwA M16 21 ((192 : Int32).toNatClampNeg) →
  ∀ M19 : Mem, M19 = wR M17 x0 117 (some q18) →
  ¬ (192 : Int32) < 0 ∧ ((192 : Int32).toNatClampNeg ≤ 100000000) ∧ ∀ (q21 : Nat) (M20 : Mem), q21 = mN M19 → M20 = nwA M19 21 ((192 : Int32).toNatClampNeg) →
  ∀ M22 : Mem, M22 = wR M20 x0 118 (some q21) →
  ¬ (192 : Int32) < 0 ∧ ((192 : Int32).toNatClampNeg ≤ 100000000) ∧ ∀ (q24 : Nat) (M23 : Mem), q24 = mN M22 → M23 = nwA M22 21 ((192 : Int32).toNatClampNeg) →
  ∀ M25 : Mem, M25 = wR M23 x0 119 (some q24) →
  ¬ (192 : Int32) < 0 ∧ ((192 : Int32).toNatClampNeg ≤ 100000000) ∧ ∀ (q27 : Nat) (M26 : Mem), q27 = mN M25 → M26 = nwA M25 21 ((192 : Int32).toNatClampNeg) →
  ∀ M28 : Mem, M28 = wR M26 x0 120 (some q27) →
  ¬ (6144 : Int32) < 0 ∧ ((6144 : Int32).toNatClampNeg ≤ 100000000) ∧ ∀ (q30 : Nat) (M29 : Mem), q30 = mN M28 → M29 = nwA M28 21 ((6144 : Int32).toNatClampNeg) →
  ∀ M31 : Mem, M31 = wR M29 x0 121 (some q30) →
  DX11_init_844 h x0 M31 Q
set_option maxRecDepth 20000 in
set_option maxHeartbeats 2000000 in
theorem VX11_init_760 {h : Nat} {x0 : Nat} {M : Mem} {Q : Option Value → Mem → Prop} (H : DX11_init_760 h x0 M Q) : T (h + 1) mdX11_init 760 [(0, .ref x0)] [] M Q := by
  unfold DX11_init_760 at H
  refine xt_aload_n (j := 0) dX11_init_760 rfl rfl ?_
  refine xt_bipush (v := 6) dX11_init_761 (by decide) ?_
  obtain ⟨hn, hy, H⟩ := H
  obtain ⟨M1, eM1⟩ : ∃ z, z = nwA M 23 ((6 : Int32).toNatClampNeg) := ⟨_, rfl⟩
  obtain ⟨q2, eq2⟩ : ∃ z, z = mN M := ⟨_, rfl⟩
  have H := H _ _ eq2 eM1
  refine xt_newJ dX11_init_763 ac_J hn rfl hy ?_
  rw [← eM1, ← eq2]
  obtain ⟨ho3, H⟩ := H
  obtain ⟨M4, eM4⟩ : ∃ z, z = wR M1 x0 110 (some q2) := ⟨_, rfl⟩
  have H := H _ eM4
  refine xt_putR dX11_init_765 (flX11_282 rfl) ft_13_110 rfl ho3.1 ho3.2 ?_
  have ho3 : ok M4 x0 13 := by rw [eM4]; exact ho3
  rw [← eM4]
  refine xt_aload_n (j := 0) dX11_init_768 rfl rfl ?_
  refine xt_bipush (v := 40) dX11_init_769 (by decide) ?_
  obtain ⟨hn, hy, H⟩ := H
  obtain ⟨M5, eM5⟩ : ∃ z, z = nwA M4 21 ((40 : Int32).toNatClampNeg) := ⟨_, rfl⟩
  obtain ⟨q6, eq6⟩ : ∃ z, z = mN M4 := ⟨_, rfl⟩
  have H := H _ _ eq6 eM5
  refine xt_newI dX11_init_771 ac_I hn rfl hy ?_
  have ho3 : ok M5 x0 13 := by rw [eM5]; exact ok_nwA ho3
  rw [← eM5, ← eq6]
  obtain ⟨M7, eM7⟩ : ∃ z, z = wR M5 x0 112 (some q6) := ⟨_, rfl⟩
  have H := H _ eM7
  refine xt_putR dX11_init_773 (flX11_285 rfl) ft_13_112 rfl ho3.1 ho3.2 ?_
  have ho3 : ok M7 x0 13 := by rw [eM7]; exact ho3
  rw [← eM7]
  refine xt_aload_n (j := 0) dX11_init_776 rfl rfl ?_
  refine xt_iconst (v := 4) dX11_init_777 (by decide) ?_
  obtain ⟨hn, hy, H⟩ := H
  obtain ⟨M8, eM8⟩ : ∃ z, z = nwA M7 21 ((4 : Int32).toNatClampNeg) := ⟨_, rfl⟩
  obtain ⟨q9, eq9⟩ : ∃ z, z = mN M7 := ⟨_, rfl⟩
  have H := H _ _ eq9 eM8
  refine xt_newI dX11_init_778 ac_I hn rfl hy ?_
  have ho3 : ok M8 x0 13 := by rw [eM8]; exact ok_nwA ho3
  rw [← eM8, ← eq9]
  obtain ⟨M10, eM10⟩ : ∃ z, z = wR M8 x0 114 (some q9) := ⟨_, rfl⟩
  have H := H _ eM10
  refine xt_putR dX11_init_780 (flX11_288 rfl) ft_13_114 rfl ho3.1 ho3.2 ?_
  have ho3 : ok M10 x0 13 := by rw [eM10]; exact ho3
  rw [← eM10]
  refine xt_aload_n (j := 0) dX11_init_783 rfl rfl ?_
  refine xt_iconst (v := 4) dX11_init_784 (by decide) ?_
  obtain ⟨hn, hy, H⟩ := H
  obtain ⟨M11, eM11⟩ : ∃ z, z = nwA M10 21 ((4 : Int32).toNatClampNeg) := ⟨_, rfl⟩
  obtain ⟨q12, eq12⟩ : ∃ z, z = mN M10 := ⟨_, rfl⟩
  have H := H _ _ eq12 eM11
  refine xt_newI dX11_init_785 ac_I hn rfl hy ?_
  have ho3 : ok M11 x0 13 := by rw [eM11]; exact ok_nwA ho3
  rw [← eM11, ← eq12]
  obtain ⟨M13, eM13⟩ : ∃ z, z = wR M11 x0 115 (some q12) := ⟨_, rfl⟩
  have H := H _ eM13
  refine xt_putR dX11_init_787 (flX11_291 rfl) ft_13_115 rfl ho3.1 ho3.2 ?_
  have ho3 : ok M13 x0 13 := by rw [eM13]; exact ho3
  rw [← eM13]
  refine xt_aload_n (j := 0) dX11_init_790 rfl rfl ?_
  refine xt_sipush (v := 192) dX11_init_791 (by decide) ?_
  obtain ⟨hn, hy, H⟩ := H
  obtain ⟨M14, eM14⟩ : ∃ z, z = nwA M13 21 ((192 : Int32).toNatClampNeg) := ⟨_, rfl⟩
  obtain ⟨q15, eq15⟩ : ∃ z, z = mN M13 := ⟨_, rfl⟩
  have H := H _ _ eq15 eM14
  refine xt_newI dX11_init_794 ac_I hn rfl hy ?_
  have ho3 : ok M14 x0 13 := by rw [eM14]; exact ok_nwA ho3
  rw [← eM14, ← eq15]
  obtain ⟨M16, eM16⟩ : ∃ z, z = wR M14 x0 116 (some q15) := ⟨_, rfl⟩
  have H := H _ eM16
  refine xt_putR dX11_init_796 (flX11_294 rfl) ft_13_116 rfl ho3.1 ho3.2 ?_
  have ho3 : ok M16 x0 13 := by rw [eM16]; exact ho3
  rw [← eM16]
  refine xt_aload_n (j := 0) dX11_init_799 rfl rfl ?_
  refine xt_sipush (v := 192) dX11_init_800 (by decide) ?_
  obtain ⟨hn, hy, H⟩ := H
  obtain ⟨M17, eM17⟩ : ∃ z, z = nwA M16 21 ((192 : Int32).toNatClampNeg) := ⟨_, rfl⟩
  obtain ⟨q18, eq18⟩ : ∃ z, z = mN M16 := ⟨_, rfl⟩
  have H := H _ _ eq18 eM17
  refine xt_newI dX11_init_803 ac_I hn rfl hy ?_
  have ho3 : ok M17 x0 13 := by rw [eM17]; exact ok_nwA ho3
  rw [← eM17, ← eq18]
  obtain ⟨M19, eM19⟩ : ∃ z, z = wR M17 x0 117 (some q18) := ⟨_, rfl⟩
  have H := H _ eM19
  refine xt_putR dX11_init_805 (flX11_297 rfl) ft_13_117 rfl ho3.1 ho3.2 ?_
  have ho3 : ok M19 x0 13 := by rw [eM19]; exact ho3
  rw [← eM19]
  refine xt_aload_n (j := 0) dX11_init_808 rfl rfl ?_
  refine xt_sipush (v := 192) dX11_init_809 (by decide) ?_
  obtain ⟨hn, hy, H⟩ := H
  obtain ⟨M20, eM20⟩ : ∃ z, z = nwA M19 21 ((192 : Int32).toNatClampNeg) := ⟨_, rfl⟩
  obtain ⟨q21, eq21⟩ : ∃ z, z = mN M19 := ⟨_, rfl⟩
  have H := H _ _ eq21 eM20
  refine xt_newI dX11_init_812 ac_I hn rfl hy ?_
  have ho3 : ok M20 x0 13 := by rw [eM20]; exact ok_nwA ho3
  rw [← eM20, ← eq21]
  obtain ⟨M22, eM22⟩ : ∃ z, z = wR M20 x0 118 (some q21) := ⟨_, rfl⟩
  have H := H _ eM22
  refine xt_putR dX11_init_814 (flX11_300 rfl) ft_13_118 rfl ho3.1 ho3.2 ?_
  have ho3 : ok M22 x0 13 := by rw [eM22]; exact ho3
  rw [← eM22]
  refine xt_aload_n (j := 0) dX11_init_817 rfl rfl ?_
  refine xt_sipush (v := 192) dX11_init_818 (by decide) ?_
  obtain ⟨hn, hy, H⟩ := H
  obtain ⟨M23, eM23⟩ : ∃ z, z = nwA M22 21 ((192 : Int32).toNatClampNeg) := ⟨_, rfl⟩
  obtain ⟨q24, eq24⟩ : ∃ z, z = mN M22 := ⟨_, rfl⟩
  have H := H _ _ eq24 eM23
  refine xt_newI dX11_init_821 ac_I hn rfl hy ?_
  have ho3 : ok M23 x0 13 := by rw [eM23]; exact ok_nwA ho3
  rw [← eM23, ← eq24]
  obtain ⟨M25, eM25⟩ : ∃ z, z = wR M23 x0 119 (some q24) := ⟨_, rfl⟩
  have H := H _ eM25
  refine xt_putR dX11_init_823 (flX11_303 rfl) ft_13_119 rfl ho3.1 ho3.2 ?_
  have ho3 : ok M25 x0 13 := by rw [eM25]; exact ho3
  rw [← eM25]
  refine xt_aload_n (j := 0) dX11_init_826 rfl rfl ?_
  refine xt_sipush (v := 192) dX11_init_827 (by decide) ?_
  obtain ⟨hn, hy, H⟩ := H
  obtain ⟨M26, eM26⟩ : ∃ z, z = nwA M25 21 ((192 : Int32).toNatClampNeg) := ⟨_, rfl⟩
  obtain ⟨q27, eq27⟩ : ∃ z, z = mN M25 := ⟨_, rfl⟩
  have H := H _ _ eq27 eM26
  refine xt_newI dX11_init_830 ac_I hn rfl hy ?_
  have ho3 : ok M26 x0 13 := by rw [eM26]; exact ok_nwA ho3
  rw [← eM26, ← eq27]
  obtain ⟨M28, eM28⟩ : ∃ z, z = wR M26 x0 120 (some q27) := ⟨_, rfl⟩
  have H := H _ eM28
  refine xt_putR dX11_init_832 (flX11_306 rfl) ft_13_120 rfl ho3.1 ho3.2 ?_
  have ho3 : ok M28 x0 13 := by rw [eM28]; exact ho3
  rw [← eM28]
  refine xt_aload_n (j := 0) dX11_init_835 rfl rfl ?_
  refine xt_sipush (v := 6144) dX11_init_836 (by decide) ?_
  obtain ⟨hn, hy, H⟩ := H
  obtain ⟨M29, eM29⟩ : ∃ z, z = nwA M28 21 ((6144 : Int32).toNatClampNeg) := ⟨_, rfl⟩
  obtain ⟨q30, eq30⟩ : ∃ z, z = mN M28 := ⟨_, rfl⟩
  have H := H _ _ eq30 eM29
  refine xt_newI dX11_init_839 ac_I hn rfl hy ?_
  have ho3 : ok M29 x0 13 := by rw [eM29]; exact ok_nwA ho3
  rw [← eM29, ← eq30]
  obtain ⟨M31, eM31⟩ : ∃ z, z = wR M29 x0 121 (some q30) := ⟨_, rfl⟩
  have H := H _ eM31
  refine xt_putR dX11_init_841 (flX11_309 rfl) ft_13_121 rfl ho3.1 ho3.2 ?_
  have ho3 : ok M31 x0 13 := by rw [eM31]; exact ho3
  rw [← eM31]
  exact xt_sub [0] rfl (VX11_init_844 H)
def DX11_init_678 (h : Nat) (x0 : Nat) (M : Mem) (Q : Option Value → Mem → Prop) : Prop :=
  ¬ (8 : Int32) < 0 ∧ ((8 : Int32).toNatClampNeg ≤ 100000000) ∧ ∀ (q2 : Nat) (M1 : Mem), q2 = mN M → M1 = nwA M 21 ((8 : Int32).toNatClampNeg) →
  ok M1 x0 13 ∧ ∀ M4 : Mem, M4 = wR M1 x0 100 (some q2) →
  ¬ (8 : Int32) < 0 ∧ ((8 : Int32).toNatClampNeg ≤ 100000000) ∧ ∀ (q6 : Nat) (M5 : Mem), q6 = mN M4 → M5 = nwA M4 21 ((8 : Int32).toNatClampNeg) →
  ∀ M7 : Mem, M7 = wR M5 x0 101 (some q6) →
  ¬ (32 : Int32) < 0 ∧ ((32 : Int32).toNatClampNeg ≤ 60000000) ∧ ∀ (q9 : Nat) (M8 : Mem), q9 = mN M7 → M8 = nwA M7 23 ((32 : Int32).toNatClampNeg) →
  ∀ M10 : Mem, M10 = wR M8 x0 102 (some q9) →
  ¬ (8 : Int32) < 0 ∧ ((8 : Int32).toNatClampNeg ≤ 100000000) ∧ ∀ (q12 : Nat) (M11 : Mem), q12 = mN M10 → M11 = nwA M10 21 ((8 : Int32).toNatClampNeg) →
  ∀ M13 : Mem, M13 = wR M11 x0 103 (some q12) →
  ¬ (8 : Int32) < 0 ∧ ((8 : Int32).toNatClampNeg ≤ 100000000) ∧ ∀ (q15 : Nat) (M14 : Mem), q15 = mN M13 → M14 = nwA M13 21 ((8 : Int32).toNatClampNeg) →
  ∀ M16 : Mem, M16 = wR M14 x0 104 (some q15) →
  ¬ (8 : Int32) < 0 ∧ ((8 : Int32).toNatClampNeg ≤ 100000000) ∧ ∀ (q18 : Nat) (M17 : Mem), q18 = mN M16 → M17 = nwA M16 21 ((8 : Int32).toNatClampNeg) →
  ∀ M19 : Mem, M19 = wR M17 x0 105 (some q18) →
  ¬ (8 : Int32) < 0 ∧ ((8 : Int32).toNatClampNeg ≤ 100000000) ∧ ∀ (q21 : Nat) (M20 : Mem), q21 = mN M19 → M20 = nwA M19 21 ((8 : Int32).toNatClampNeg) →
  ∀ M22 : Mem, M22 = wR M20 x0 106 (some q21) →
  ¬ (1600 : Int32) < 0 ∧ ((1600 : Int32).toNatClampNeg ≤ 100000000) ∧ ∀ (q24 : Nat) (M23 : Mem), q24 = mN M22 → M23 = nwA M22 21 ((1600 : Int32).toNatClampNeg) →
  ∀ M25 : Mem, M25 = wR M23 x0 107 (some q24) →
  ¬ (3240 : Int32) < 0 ∧ ((3240 : Int32).toNatClampNeg ≤ 60000000) ∧ ∀ (q27 : Nat) (M26 : Mem), q27 = mN M25 → M26 = nwA M25 23 ((3240 : Int32).toNatClampNeg) →
  ∀ M28 : Mem, M28 = wR M26 x0 108 (some q27) →
  ¬ (16 : Int32) < 0 ∧ ((16 : Int32).toNatClampNeg ≤ 60000000) ∧ ∀ (q30 : Nat) (M29 : Mem), q30 = mN M28 → M29 = nwA M28 23 ((16 : Int32).toNatClampNeg) →
  ∀ M31 : Mem, M31 = wR M29 x0 109 (some q30) →
  DX11_init_760 h x0 M31 Q
set_option maxRecDepth 20000 in
set_option maxHeartbeats 2000000 in
theorem VX11_init_678 {h : Nat} {x0 : Nat} {M : Mem} {Q : Option Value → Mem → Prop} (H : DX11_init_678 h x0 M Q) : T (h + 1) mdX11_init 678 [(0, .ref x0)] [] M Q := by
  unfold DX11_init_678 at H
  refine xt_aload_n (j := 0) dX11_init_678 rfl rfl ?_
  refine xt_bipush (v := 8) dX11_init_679 (by decide) ?_
  obtain ⟨hn, hy, H⟩ := H
  obtain ⟨M1, eM1⟩ : ∃ z, z = nwA M 21 ((8 : Int32).toNatClampNeg) := ⟨_, rfl⟩
  obtain ⟨q2, eq2⟩ : ∃ z, z = mN M := ⟨_, rfl⟩
  have H := H _ _ eq2 eM1
  refine xt_newI dX11_init_681 ac_I hn rfl hy ?_
  rw [← eM1, ← eq2]
  obtain ⟨ho3, H⟩ := H
  obtain ⟨M4, eM4⟩ : ∃ z, z = wR M1 x0 100 (some q2) := ⟨_, rfl⟩
  have H := H _ eM4
  refine xt_putR dX11_init_683 (flX11_252 rfl) ft_13_100 rfl ho3.1 ho3.2 ?_
  have ho3 : ok M4 x0 13 := by rw [eM4]; exact ho3
  rw [← eM4]
  refine xt_aload_n (j := 0) dX11_init_686 rfl rfl ?_
  refine xt_bipush (v := 8) dX11_init_687 (by decide) ?_
  obtain ⟨hn, hy, H⟩ := H
  obtain ⟨M5, eM5⟩ : ∃ z, z = nwA M4 21 ((8 : Int32).toNatClampNeg) := ⟨_, rfl⟩
  obtain ⟨q6, eq6⟩ : ∃ z, z = mN M4 := ⟨_, rfl⟩
  have H := H _ _ eq6 eM5
  refine xt_newI dX11_init_689 ac_I hn rfl hy ?_
  have ho3 : ok M5 x0 13 := by rw [eM5]; exact ok_nwA ho3
  rw [← eM5, ← eq6]
  obtain ⟨M7, eM7⟩ : ∃ z, z = wR M5 x0 101 (some q6) := ⟨_, rfl⟩
  have H := H _ eM7
  refine xt_putR dX11_init_691 (flX11_255 rfl) ft_13_101 rfl ho3.1 ho3.2 ?_
  have ho3 : ok M7 x0 13 := by rw [eM7]; exact ho3
  rw [← eM7]
  refine xt_aload_n (j := 0) dX11_init_694 rfl rfl ?_
  refine xt_bipush (v := 32) dX11_init_695 (by decide) ?_
  obtain ⟨hn, hy, H⟩ := H
  obtain ⟨M8, eM8⟩ : ∃ z, z = nwA M7 23 ((32 : Int32).toNatClampNeg) := ⟨_, rfl⟩
  obtain ⟨q9, eq9⟩ : ∃ z, z = mN M7 := ⟨_, rfl⟩
  have H := H _ _ eq9 eM8
  refine xt_newJ dX11_init_697 ac_J hn rfl hy ?_
  have ho3 : ok M8 x0 13 := by rw [eM8]; exact ok_nwA ho3
  rw [← eM8, ← eq9]
  obtain ⟨M10, eM10⟩ : ∃ z, z = wR M8 x0 102 (some q9) := ⟨_, rfl⟩
  have H := H _ eM10
  refine xt_putR dX11_init_699 (flX11_258 rfl) ft_13_102 rfl ho3.1 ho3.2 ?_
  have ho3 : ok M10 x0 13 := by rw [eM10]; exact ho3
  rw [← eM10]
  refine xt_aload_n (j := 0) dX11_init_702 rfl rfl ?_
  refine xt_bipush (v := 8) dX11_init_703 (by decide) ?_
  obtain ⟨hn, hy, H⟩ := H
  obtain ⟨M11, eM11⟩ : ∃ z, z = nwA M10 21 ((8 : Int32).toNatClampNeg) := ⟨_, rfl⟩
  obtain ⟨q12, eq12⟩ : ∃ z, z = mN M10 := ⟨_, rfl⟩
  have H := H _ _ eq12 eM11
  refine xt_newI dX11_init_705 ac_I hn rfl hy ?_
  have ho3 : ok M11 x0 13 := by rw [eM11]; exact ok_nwA ho3
  rw [← eM11, ← eq12]
  obtain ⟨M13, eM13⟩ : ∃ z, z = wR M11 x0 103 (some q12) := ⟨_, rfl⟩
  have H := H _ eM13
  refine xt_putR dX11_init_707 (flX11_261 rfl) ft_13_103 rfl ho3.1 ho3.2 ?_
  have ho3 : ok M13 x0 13 := by rw [eM13]; exact ho3
  rw [← eM13]
  refine xt_aload_n (j := 0) dX11_init_710 rfl rfl ?_
  refine xt_bipush (v := 8) dX11_init_711 (by decide) ?_
  obtain ⟨hn, hy, H⟩ := H
  obtain ⟨M14, eM14⟩ : ∃ z, z = nwA M13 21 ((8 : Int32).toNatClampNeg) := ⟨_, rfl⟩
  obtain ⟨q15, eq15⟩ : ∃ z, z = mN M13 := ⟨_, rfl⟩
  have H := H _ _ eq15 eM14
  refine xt_newI dX11_init_713 ac_I hn rfl hy ?_
  have ho3 : ok M14 x0 13 := by rw [eM14]; exact ok_nwA ho3
  rw [← eM14, ← eq15]
  obtain ⟨M16, eM16⟩ : ∃ z, z = wR M14 x0 104 (some q15) := ⟨_, rfl⟩
  have H := H _ eM16
  refine xt_putR dX11_init_715 (flX11_264 rfl) ft_13_104 rfl ho3.1 ho3.2 ?_
  have ho3 : ok M16 x0 13 := by rw [eM16]; exact ho3
  rw [← eM16]
  refine xt_aload_n (j := 0) dX11_init_718 rfl rfl ?_
  refine xt_bipush (v := 8) dX11_init_719 (by decide) ?_
  obtain ⟨hn, hy, H⟩ := H
  obtain ⟨M17, eM17⟩ : ∃ z, z = nwA M16 21 ((8 : Int32).toNatClampNeg) := ⟨_, rfl⟩
  obtain ⟨q18, eq18⟩ : ∃ z, z = mN M16 := ⟨_, rfl⟩
  have H := H _ _ eq18 eM17
  refine xt_newI dX11_init_721 ac_I hn rfl hy ?_
  have ho3 : ok M17 x0 13 := by rw [eM17]; exact ok_nwA ho3
  rw [← eM17, ← eq18]
  obtain ⟨M19, eM19⟩ : ∃ z, z = wR M17 x0 105 (some q18) := ⟨_, rfl⟩
  have H := H _ eM19
  refine xt_putR dX11_init_723 (flX11_267 rfl) ft_13_105 rfl ho3.1 ho3.2 ?_
  have ho3 : ok M19 x0 13 := by rw [eM19]; exact ho3
  rw [← eM19]
  refine xt_aload_n (j := 0) dX11_init_726 rfl rfl ?_
  refine xt_bipush (v := 8) dX11_init_727 (by decide) ?_
  obtain ⟨hn, hy, H⟩ := H
  obtain ⟨M20, eM20⟩ : ∃ z, z = nwA M19 21 ((8 : Int32).toNatClampNeg) := ⟨_, rfl⟩
  obtain ⟨q21, eq21⟩ : ∃ z, z = mN M19 := ⟨_, rfl⟩
  have H := H _ _ eq21 eM20
  refine xt_newI dX11_init_729 ac_I hn rfl hy ?_
  have ho3 : ok M20 x0 13 := by rw [eM20]; exact ok_nwA ho3
  rw [← eM20, ← eq21]
  obtain ⟨M22, eM22⟩ : ∃ z, z = wR M20 x0 106 (some q21) := ⟨_, rfl⟩
  have H := H _ eM22
  refine xt_putR dX11_init_731 (flX11_270 rfl) ft_13_106 rfl ho3.1 ho3.2 ?_
  have ho3 : ok M22 x0 13 := by rw [eM22]; exact ho3
  rw [← eM22]
  refine xt_aload_n (j := 0) dX11_init_734 rfl rfl ?_
  refine xt_sipush (v := 1600) dX11_init_735 (by decide) ?_
  obtain ⟨hn, hy, H⟩ := H
  obtain ⟨M23, eM23⟩ : ∃ z, z = nwA M22 21 ((1600 : Int32).toNatClampNeg) := ⟨_, rfl⟩
  obtain ⟨q24, eq24⟩ : ∃ z, z = mN M22 := ⟨_, rfl⟩
  have H := H _ _ eq24 eM23
  refine xt_newI dX11_init_738 ac_I hn rfl hy ?_
  have ho3 : ok M23 x0 13 := by rw [eM23]; exact ok_nwA ho3
  rw [← eM23, ← eq24]
  obtain ⟨M25, eM25⟩ : ∃ z, z = wR M23 x0 107 (some q24) := ⟨_, rfl⟩
  have H := H _ eM25
  refine xt_putR dX11_init_740 (flX11_273 rfl) ft_13_107 rfl ho3.1 ho3.2 ?_
  have ho3 : ok M25 x0 13 := by rw [eM25]; exact ho3
  rw [← eM25]
  refine xt_aload_n (j := 0) dX11_init_743 rfl rfl ?_
  refine xt_sipush (v := 3240) dX11_init_744 (by decide) ?_
  obtain ⟨hn, hy, H⟩ := H
  obtain ⟨M26, eM26⟩ : ∃ z, z = nwA M25 23 ((3240 : Int32).toNatClampNeg) := ⟨_, rfl⟩
  obtain ⟨q27, eq27⟩ : ∃ z, z = mN M25 := ⟨_, rfl⟩
  have H := H _ _ eq27 eM26
  refine xt_newJ dX11_init_747 ac_J hn rfl hy ?_
  have ho3 : ok M26 x0 13 := by rw [eM26]; exact ok_nwA ho3
  rw [← eM26, ← eq27]
  obtain ⟨M28, eM28⟩ : ∃ z, z = wR M26 x0 108 (some q27) := ⟨_, rfl⟩
  have H := H _ eM28
  refine xt_putR dX11_init_749 (flX11_276 rfl) ft_13_108 rfl ho3.1 ho3.2 ?_
  have ho3 : ok M28 x0 13 := by rw [eM28]; exact ho3
  rw [← eM28]
  refine xt_aload_n (j := 0) dX11_init_752 rfl rfl ?_
  refine xt_bipush (v := 16) dX11_init_753 (by decide) ?_
  obtain ⟨hn, hy, H⟩ := H
  obtain ⟨M29, eM29⟩ : ∃ z, z = nwA M28 23 ((16 : Int32).toNatClampNeg) := ⟨_, rfl⟩
  obtain ⟨q30, eq30⟩ : ∃ z, z = mN M28 := ⟨_, rfl⟩
  have H := H _ _ eq30 eM29
  refine xt_newJ dX11_init_755 ac_J hn rfl hy ?_
  have ho3 : ok M29 x0 13 := by rw [eM29]; exact ok_nwA ho3
  rw [← eM29, ← eq30]
  obtain ⟨M31, eM31⟩ : ∃ z, z = wR M29 x0 109 (some q30) := ⟨_, rfl⟩
  have H := H _ eM31
  refine xt_putR dX11_init_757 (flX11_279 rfl) ft_13_109 rfl ho3.1 ho3.2 ?_
  have ho3 : ok M31 x0 13 := by rw [eM31]; exact ho3
  rw [← eM31]
  exact xt_sub [0] rfl (VX11_init_760 H)
def DX11_init_595 (h : Nat) (x0 : Nat) (M : Mem) (Q : Option Value → Mem → Prop) : Prop :=
  ¬ (16 : Int32) < 0 ∧ ((16 : Int32).toNatClampNeg ≤ 100000000) ∧ ∀ (q2 : Nat) (M1 : Mem), q2 = mN M → M1 = nwA M 21 ((16 : Int32).toNatClampNeg) →
  ok M1 x0 13 ∧ ∀ M4 : Mem, M4 = wR M1 x0 82 (some q2) →
  ¬ (1640 : Int32) < 0 ∧ ((1640 : Int32).toNatClampNeg ≤ 100000000) ∧ ∀ (q6 : Nat) (M5 : Mem), q6 = mN M4 → M5 = nwA M4 21 ((1640 : Int32).toNatClampNeg) →
  ∀ M7 : Mem, M7 = wR M5 x0 90 (some q6) →
  ¬ (8 : Int32) < 0 ∧ ((8 : Int32).toNatClampNeg ≤ 100000000) ∧ ∀ (q9 : Nat) (M8 : Mem), q9 = mN M7 → M8 = nwA M7 21 ((8 : Int32).toNatClampNeg) →
  ∀ M10 : Mem, M10 = wR M8 x0 92 (some q9) →
  ¬ (32 : Int32) < 0 ∧ ((32 : Int32).toNatClampNeg ≤ 100000000) ∧ ∀ (q12 : Nat) (M11 : Mem), q12 = mN M10 → M11 = nwA M10 22 ((32 : Int32).toNatClampNeg) →
  ∀ M13 : Mem, M13 = wR M11 x0 93 (some q12) →
  ¬ (32 : Int32) < 0 ∧ ((32 : Int32).toNatClampNeg ≤ 100000000) ∧ ∀ (q15 : Nat) (M14 : Mem), q15 = mN M13 → M14 = nwA M13 22 ((32 : Int32).toNatClampNeg) →
  ∀ M16 : Mem, M16 = wR M14 x0 94 (some q15) →
  ¬ (32 : Int32) < 0 ∧ ((32 : Int32).toNatClampNeg ≤ 100000000) ∧ ∀ (q18 : Nat) (M17 : Mem), q18 = mN M16 → M17 = nwA M16 21 ((32 : Int32).toNatClampNeg) →
  ∀ M19 : Mem, M19 = wR M17 x0 95 (some q18) →
  ¬ (32 : Int32) < 0 ∧ ((32 : Int32).toNatClampNeg ≤ 100000000) ∧ ∀ (q21 : Nat) (M20 : Mem), q21 = mN M19 → M20 = nwA M19 21 ((32 : Int32).toNatClampNeg) →
  ∀ M22 : Mem, M22 = wR M20 x0 96 (some q21) →
  ¬ (512 : Int32) < 0 ∧ ((512 : Int32).toNatClampNeg ≤ 60000000) ∧ ∀ (q24 : Nat) (M23 : Mem), q24 = mN M22 → M23 = nwA M22 23 ((512 : Int32).toNatClampNeg) →
  ∀ M25 : Mem, M25 = wR M23 x0 97 (some q24) →
  ¬ (192 : Int32) < 0 ∧ ((192 : Int32).toNatClampNeg ≤ 60000000) ∧ ∀ (q27 : Nat) (M26 : Mem), q27 = mN M25 → M26 = nwA M25 23 ((192 : Int32).toNatClampNeg) →
  ∀ M28 : Mem, M28 = wR M26 x0 98 (some q27) →
  ¬ (32 : Int32) < 0 ∧ ((32 : Int32).toNatClampNeg ≤ 100000000) ∧ ∀ (q30 : Nat) (M29 : Mem), q30 = mN M28 → M29 = nwA M28 21 ((32 : Int32).toNatClampNeg) →
  ∀ M31 : Mem, M31 = wR M29 x0 99 (some q30) →
  DX11_init_678 h x0 M31 Q
set_option maxRecDepth 20000 in
set_option maxHeartbeats 2000000 in
theorem VX11_init_595 {h : Nat} {x0 : Nat} {M : Mem} {Q : Option Value → Mem → Prop} (H : DX11_init_595 h x0 M Q) : T (h + 1) mdX11_init 595 [(0, .ref x0)] [] M Q := by
  unfold DX11_init_595 at H
  refine xt_aload_n (j := 0) dX11_init_595 rfl rfl ?_
  refine xt_bipush (v := 16) dX11_init_596 (by decide) ?_
  obtain ⟨hn, hy, H⟩ := H
  obtain ⟨M1, eM1⟩ : ∃ z, z = nwA M 21 ((16 : Int32).toNatClampNeg) := ⟨_, rfl⟩
  obtain ⟨q2, eq2⟩ : ∃ z, z = mN M := ⟨_, rfl⟩
  have H := H _ _ eq2 eM1
  refine xt_newI dX11_init_598 ac_I hn rfl hy ?_
  rw [← eM1, ← eq2]
  obtain ⟨ho3, H⟩ := H
  obtain ⟨M4, eM4⟩ : ∃ z, z = wR M1 x0 82 (some q2) := ⟨_, rfl⟩
  have H := H _ eM4
  refine xt_putR dX11_init_600 (flX11_222 rfl) ft_13_82 rfl ho3.1 ho3.2 ?_
  have ho3 : ok M4 x0 13 := by rw [eM4]; exact ho3
  rw [← eM4]
  refine xt_aload_n (j := 0) dX11_init_603 rfl rfl ?_
  refine xt_sipush (v := 1640) dX11_init_604 (by decide) ?_
  obtain ⟨hn, hy, H⟩ := H
  obtain ⟨M5, eM5⟩ : ∃ z, z = nwA M4 21 ((1640 : Int32).toNatClampNeg) := ⟨_, rfl⟩
  obtain ⟨q6, eq6⟩ : ∃ z, z = mN M4 := ⟨_, rfl⟩
  have H := H _ _ eq6 eM5
  refine xt_newI dX11_init_607 ac_I hn rfl hy ?_
  have ho3 : ok M5 x0 13 := by rw [eM5]; exact ok_nwA ho3
  rw [← eM5, ← eq6]
  obtain ⟨M7, eM7⟩ : ∃ z, z = wR M5 x0 90 (some q6) := ⟨_, rfl⟩
  have H := H _ eM7
  refine xt_putR dX11_init_609 (flX11_225 rfl) ft_13_90 rfl ho3.1 ho3.2 ?_
  have ho3 : ok M7 x0 13 := by rw [eM7]; exact ho3
  rw [← eM7]
  refine xt_aload_n (j := 0) dX11_init_612 rfl rfl ?_
  refine xt_bipush (v := 8) dX11_init_613 (by decide) ?_
  obtain ⟨hn, hy, H⟩ := H
  obtain ⟨M8, eM8⟩ : ∃ z, z = nwA M7 21 ((8 : Int32).toNatClampNeg) := ⟨_, rfl⟩
  obtain ⟨q9, eq9⟩ : ∃ z, z = mN M7 := ⟨_, rfl⟩
  have H := H _ _ eq9 eM8
  refine xt_newI dX11_init_615 ac_I hn rfl hy ?_
  have ho3 : ok M8 x0 13 := by rw [eM8]; exact ok_nwA ho3
  rw [← eM8, ← eq9]
  obtain ⟨M10, eM10⟩ : ∃ z, z = wR M8 x0 92 (some q9) := ⟨_, rfl⟩
  have H := H _ eM10
  refine xt_putR dX11_init_617 (flX11_228 rfl) ft_13_92 rfl ho3.1 ho3.2 ?_
  have ho3 : ok M10 x0 13 := by rw [eM10]; exact ho3
  rw [← eM10]
  refine xt_aload_n (j := 0) dX11_init_620 rfl rfl ?_
  refine xt_bipush (v := 32) dX11_init_621 (by decide) ?_
  obtain ⟨hn, hy, H⟩ := H
  obtain ⟨M11, eM11⟩ : ∃ z, z = nwA M10 22 ((32 : Int32).toNatClampNeg) := ⟨_, rfl⟩
  obtain ⟨q12, eq12⟩ : ∃ z, z = mN M10 := ⟨_, rfl⟩
  have H := H _ _ eq12 eM11
  refine xt_newZ dX11_init_623 ac_Z hn rfl hy ?_
  have ho3 : ok M11 x0 13 := by rw [eM11]; exact ok_nwA ho3
  rw [← eM11, ← eq12]
  obtain ⟨M13, eM13⟩ : ∃ z, z = wR M11 x0 93 (some q12) := ⟨_, rfl⟩
  have H := H _ eM13
  refine xt_putR dX11_init_625 (flX11_231 rfl) ft_13_93 rfl ho3.1 ho3.2 ?_
  have ho3 : ok M13 x0 13 := by rw [eM13]; exact ho3
  rw [← eM13]
  refine xt_aload_n (j := 0) dX11_init_628 rfl rfl ?_
  refine xt_bipush (v := 32) dX11_init_629 (by decide) ?_
  obtain ⟨hn, hy, H⟩ := H
  obtain ⟨M14, eM14⟩ : ∃ z, z = nwA M13 22 ((32 : Int32).toNatClampNeg) := ⟨_, rfl⟩
  obtain ⟨q15, eq15⟩ : ∃ z, z = mN M13 := ⟨_, rfl⟩
  have H := H _ _ eq15 eM14
  refine xt_newZ dX11_init_631 ac_Z hn rfl hy ?_
  have ho3 : ok M14 x0 13 := by rw [eM14]; exact ok_nwA ho3
  rw [← eM14, ← eq15]
  obtain ⟨M16, eM16⟩ : ∃ z, z = wR M14 x0 94 (some q15) := ⟨_, rfl⟩
  have H := H _ eM16
  refine xt_putR dX11_init_633 (flX11_234 rfl) ft_13_94 rfl ho3.1 ho3.2 ?_
  have ho3 : ok M16 x0 13 := by rw [eM16]; exact ho3
  rw [← eM16]
  refine xt_aload_n (j := 0) dX11_init_636 rfl rfl ?_
  refine xt_bipush (v := 32) dX11_init_637 (by decide) ?_
  obtain ⟨hn, hy, H⟩ := H
  obtain ⟨M17, eM17⟩ : ∃ z, z = nwA M16 21 ((32 : Int32).toNatClampNeg) := ⟨_, rfl⟩
  obtain ⟨q18, eq18⟩ : ∃ z, z = mN M16 := ⟨_, rfl⟩
  have H := H _ _ eq18 eM17
  refine xt_newI dX11_init_639 ac_I hn rfl hy ?_
  have ho3 : ok M17 x0 13 := by rw [eM17]; exact ok_nwA ho3
  rw [← eM17, ← eq18]
  obtain ⟨M19, eM19⟩ : ∃ z, z = wR M17 x0 95 (some q18) := ⟨_, rfl⟩
  have H := H _ eM19
  refine xt_putR dX11_init_641 (flX11_237 rfl) ft_13_95 rfl ho3.1 ho3.2 ?_
  have ho3 : ok M19 x0 13 := by rw [eM19]; exact ho3
  rw [← eM19]
  refine xt_aload_n (j := 0) dX11_init_644 rfl rfl ?_
  refine xt_bipush (v := 32) dX11_init_645 (by decide) ?_
  obtain ⟨hn, hy, H⟩ := H
  obtain ⟨M20, eM20⟩ : ∃ z, z = nwA M19 21 ((32 : Int32).toNatClampNeg) := ⟨_, rfl⟩
  obtain ⟨q21, eq21⟩ : ∃ z, z = mN M19 := ⟨_, rfl⟩
  have H := H _ _ eq21 eM20
  refine xt_newI dX11_init_647 ac_I hn rfl hy ?_
  have ho3 : ok M20 x0 13 := by rw [eM20]; exact ok_nwA ho3
  rw [← eM20, ← eq21]
  obtain ⟨M22, eM22⟩ : ∃ z, z = wR M20 x0 96 (some q21) := ⟨_, rfl⟩
  have H := H _ eM22
  refine xt_putR dX11_init_649 (flX11_240 rfl) ft_13_96 rfl ho3.1 ho3.2 ?_
  have ho3 : ok M22 x0 13 := by rw [eM22]; exact ho3
  rw [← eM22]
  refine xt_aload_n (j := 0) dX11_init_652 rfl rfl ?_
  refine xt_sipush (v := 512) dX11_init_653 (by decide) ?_
  obtain ⟨hn, hy, H⟩ := H
  obtain ⟨M23, eM23⟩ : ∃ z, z = nwA M22 23 ((512 : Int32).toNatClampNeg) := ⟨_, rfl⟩
  obtain ⟨q24, eq24⟩ : ∃ z, z = mN M22 := ⟨_, rfl⟩
  have H := H _ _ eq24 eM23
  refine xt_newJ dX11_init_656 ac_J hn rfl hy ?_
  have ho3 : ok M23 x0 13 := by rw [eM23]; exact ok_nwA ho3
  rw [← eM23, ← eq24]
  obtain ⟨M25, eM25⟩ : ∃ z, z = wR M23 x0 97 (some q24) := ⟨_, rfl⟩
  have H := H _ eM25
  refine xt_putR dX11_init_658 (flX11_243 rfl) ft_13_97 rfl ho3.1 ho3.2 ?_
  have ho3 : ok M25 x0 13 := by rw [eM25]; exact ho3
  rw [← eM25]
  refine xt_aload_n (j := 0) dX11_init_661 rfl rfl ?_
  refine xt_sipush (v := 192) dX11_init_662 (by decide) ?_
  obtain ⟨hn, hy, H⟩ := H
  obtain ⟨M26, eM26⟩ : ∃ z, z = nwA M25 23 ((192 : Int32).toNatClampNeg) := ⟨_, rfl⟩
  obtain ⟨q27, eq27⟩ : ∃ z, z = mN M25 := ⟨_, rfl⟩
  have H := H _ _ eq27 eM26
  refine xt_newJ dX11_init_665 ac_J hn rfl hy ?_
  have ho3 : ok M26 x0 13 := by rw [eM26]; exact ok_nwA ho3
  rw [← eM26, ← eq27]
  obtain ⟨M28, eM28⟩ : ∃ z, z = wR M26 x0 98 (some q27) := ⟨_, rfl⟩
  have H := H _ eM28
  refine xt_putR dX11_init_667 (flX11_246 rfl) ft_13_98 rfl ho3.1 ho3.2 ?_
  have ho3 : ok M28 x0 13 := by rw [eM28]; exact ho3
  rw [← eM28]
  refine xt_aload_n (j := 0) dX11_init_670 rfl rfl ?_
  refine xt_bipush (v := 32) dX11_init_671 (by decide) ?_
  obtain ⟨hn, hy, H⟩ := H
  obtain ⟨M29, eM29⟩ : ∃ z, z = nwA M28 21 ((32 : Int32).toNatClampNeg) := ⟨_, rfl⟩
  obtain ⟨q30, eq30⟩ : ∃ z, z = mN M28 := ⟨_, rfl⟩
  have H := H _ _ eq30 eM29
  refine xt_newI dX11_init_673 ac_I hn rfl hy ?_
  have ho3 : ok M29 x0 13 := by rw [eM29]; exact ok_nwA ho3
  rw [← eM29, ← eq30]
  obtain ⟨M31, eM31⟩ : ∃ z, z = wR M29 x0 99 (some q30) := ⟨_, rfl⟩
  have H := H _ eM31
  refine xt_putR dX11_init_675 (flX11_249 rfl) ft_13_99 rfl ho3.1 ho3.2 ?_
  have ho3 : ok M31 x0 13 := by rw [eM31]; exact ho3
  rw [← eM31]
  exact xt_sub [0] rfl (VX11_init_678 H)
def DX11_init_511 (h : Nat) (x0 : Nat) (M : Mem) (Q : Option Value → Mem → Prop) : Prop :=
  ¬ (160 : Int32) < 0 ∧ ((160 : Int32).toNatClampNeg ≤ 100000000) ∧ ∀ (q2 : Nat) (M1 : Mem), q2 = mN M → M1 = nwA M 21 ((160 : Int32).toNatClampNeg) →
  ok M1 x0 13 ∧ ∀ M4 : Mem, M4 = wR M1 x0 72 (some q2) →
  ¬ (4 : Int32) < 0 ∧ ((4 : Int32).toNatClampNeg ≤ 100000000) ∧ ∀ (q6 : Nat) (M5 : Mem), q6 = mN M4 → M5 = nwA M4 21 ((4 : Int32).toNatClampNeg) →
  ∀ M7 : Mem, M7 = wR M5 x0 73 (some q6) →
  ¬ (4 : Int32) < 0 ∧ ((4 : Int32).toNatClampNeg ≤ 100000000) ∧ ∀ (q9 : Nat) (M8 : Mem), q9 = mN M7 → M8 = nwA M7 21 ((4 : Int32).toNatClampNeg) →
  ∀ M10 : Mem, M10 = wR M8 x0 74 (some q9) →
  ¬ (5600 : Int32) < 0 ∧ ((5600 : Int32).toNatClampNeg ≤ 100000000) ∧ ∀ (q12 : Nat) (M11 : Mem), q12 = mN M10 → M11 = nwA M10 21 ((5600 : Int32).toNatClampNeg) →
  ∀ M13 : Mem, M13 = wR M11 x0 75 (some q12) →
  ¬ (4 : Int32) < 0 ∧ ((4 : Int32).toNatClampNeg ≤ 100000000) ∧ ∀ (q15 : Nat) (M14 : Mem), q15 = mN M13 → M14 = nwA M13 21 ((4 : Int32).toNatClampNeg) →
  ∀ M16 : Mem, M16 = wR M14 x0 76 (some q15) →
  ¬ (700 : Int32) < 0 ∧ ((700 : Int32).toNatClampNeg ≤ 100000000) ∧ ∀ (q18 : Nat) (M17 : Mem), q18 = mN M16 → M17 = nwA M16 21 ((700 : Int32).toNatClampNeg) →
  ∀ M19 : Mem, M19 = wR M17 x0 77 (some q18) →
  ¬ (700 : Int32) < 0 ∧ ((700 : Int32).toNatClampNeg ≤ 100000000) ∧ ∀ (q21 : Nat) (M20 : Mem), q21 = mN M19 → M20 = nwA M19 21 ((700 : Int32).toNatClampNeg) →
  ∀ M22 : Mem, M22 = wR M20 x0 78 (some q21) →
  ¬ (700 : Int32) < 0 ∧ ((700 : Int32).toNatClampNeg ≤ 100000000) ∧ ∀ (q24 : Nat) (M23 : Mem), q24 = mN M22 → M23 = nwA M22 21 ((700 : Int32).toNatClampNeg) →
  ∀ M25 : Mem, M25 = wR M23 x0 79 (some q24) →
  ¬ (700 : Int32) < 0 ∧ ((700 : Int32).toNatClampNeg ≤ 100000000) ∧ ∀ (q27 : Nat) (M26 : Mem), q27 = mN M25 → M26 = nwA M25 21 ((700 : Int32).toNatClampNeg) →
  ∀ M28 : Mem, M28 = wR M26 x0 80 (some q27) →
  ¬ (16800 : Int32) < 0 ∧ ((16800 : Int32).toNatClampNeg ≤ 100000000) ∧ ∀ (q30 : Nat) (M29 : Mem), q30 = mN M28 → M29 = nwA M28 21 ((16800 : Int32).toNatClampNeg) →
  ∀ M31 : Mem, M31 = wR M29 x0 81 (some q30) →
  DX11_init_595 h x0 M31 Q
set_option maxRecDepth 20000 in
set_option maxHeartbeats 2000000 in
theorem VX11_init_511 {h : Nat} {x0 : Nat} {M : Mem} {Q : Option Value → Mem → Prop} (H : DX11_init_511 h x0 M Q) : T (h + 1) mdX11_init 511 [(0, .ref x0)] [] M Q := by
  unfold DX11_init_511 at H
  refine xt_aload_n (j := 0) dX11_init_511 rfl rfl ?_
  refine xt_sipush (v := 160) dX11_init_512 (by decide) ?_
  obtain ⟨hn, hy, H⟩ := H
  obtain ⟨M1, eM1⟩ : ∃ z, z = nwA M 21 ((160 : Int32).toNatClampNeg) := ⟨_, rfl⟩
  obtain ⟨q2, eq2⟩ : ∃ z, z = mN M := ⟨_, rfl⟩
  have H := H _ _ eq2 eM1
  refine xt_newI dX11_init_515 ac_I hn rfl hy ?_
  rw [← eM1, ← eq2]
  obtain ⟨ho3, H⟩ := H
  obtain ⟨M4, eM4⟩ : ∃ z, z = wR M1 x0 72 (some q2) := ⟨_, rfl⟩
  have H := H _ eM4
  refine xt_putR dX11_init_517 (flX11_192 rfl) ft_13_72 rfl ho3.1 ho3.2 ?_
  have ho3 : ok M4 x0 13 := by rw [eM4]; exact ho3
  rw [← eM4]
  refine xt_aload_n (j := 0) dX11_init_520 rfl rfl ?_
  refine xt_iconst (v := 4) dX11_init_521 (by decide) ?_
  obtain ⟨hn, hy, H⟩ := H
  obtain ⟨M5, eM5⟩ : ∃ z, z = nwA M4 21 ((4 : Int32).toNatClampNeg) := ⟨_, rfl⟩
  obtain ⟨q6, eq6⟩ : ∃ z, z = mN M4 := ⟨_, rfl⟩
  have H := H _ _ eq6 eM5
  refine xt_newI dX11_init_522 ac_I hn rfl hy ?_
  have ho3 : ok M5 x0 13 := by rw [eM5]; exact ok_nwA ho3
  rw [← eM5, ← eq6]
  obtain ⟨M7, eM7⟩ : ∃ z, z = wR M5 x0 73 (some q6) := ⟨_, rfl⟩
  have H := H _ eM7
  refine xt_putR dX11_init_524 (flX11_195 rfl) ft_13_73 rfl ho3.1 ho3.2 ?_
  have ho3 : ok M7 x0 13 := by rw [eM7]; exact ho3
  rw [← eM7]
  refine xt_aload_n (j := 0) dX11_init_527 rfl rfl ?_
  refine xt_iconst (v := 4) dX11_init_528 (by decide) ?_
  obtain ⟨hn, hy, H⟩ := H
  obtain ⟨M8, eM8⟩ : ∃ z, z = nwA M7 21 ((4 : Int32).toNatClampNeg) := ⟨_, rfl⟩
  obtain ⟨q9, eq9⟩ : ∃ z, z = mN M7 := ⟨_, rfl⟩
  have H := H _ _ eq9 eM8
  refine xt_newI dX11_init_529 ac_I hn rfl hy ?_
  have ho3 : ok M8 x0 13 := by rw [eM8]; exact ok_nwA ho3
  rw [← eM8, ← eq9]
  obtain ⟨M10, eM10⟩ : ∃ z, z = wR M8 x0 74 (some q9) := ⟨_, rfl⟩
  have H := H _ eM10
  refine xt_putR dX11_init_531 (flX11_198 rfl) ft_13_74 rfl ho3.1 ho3.2 ?_
  have ho3 : ok M10 x0 13 := by rw [eM10]; exact ho3
  rw [← eM10]
  refine xt_aload_n (j := 0) dX11_init_534 rfl rfl ?_
  refine xt_sipush (v := 5600) dX11_init_535 (by decide) ?_
  obtain ⟨hn, hy, H⟩ := H
  obtain ⟨M11, eM11⟩ : ∃ z, z = nwA M10 21 ((5600 : Int32).toNatClampNeg) := ⟨_, rfl⟩
  obtain ⟨q12, eq12⟩ : ∃ z, z = mN M10 := ⟨_, rfl⟩
  have H := H _ _ eq12 eM11
  refine xt_newI dX11_init_538 ac_I hn rfl hy ?_
  have ho3 : ok M11 x0 13 := by rw [eM11]; exact ok_nwA ho3
  rw [← eM11, ← eq12]
  obtain ⟨M13, eM13⟩ : ∃ z, z = wR M11 x0 75 (some q12) := ⟨_, rfl⟩
  have H := H _ eM13
  refine xt_putR dX11_init_540 (flX11_201 rfl) ft_13_75 rfl ho3.1 ho3.2 ?_
  have ho3 : ok M13 x0 13 := by rw [eM13]; exact ho3
  rw [← eM13]
  refine xt_aload_n (j := 0) dX11_init_543 rfl rfl ?_
  refine xt_iconst (v := 4) dX11_init_544 (by decide) ?_
  obtain ⟨hn, hy, H⟩ := H
  obtain ⟨M14, eM14⟩ : ∃ z, z = nwA M13 21 ((4 : Int32).toNatClampNeg) := ⟨_, rfl⟩
  obtain ⟨q15, eq15⟩ : ∃ z, z = mN M13 := ⟨_, rfl⟩
  have H := H _ _ eq15 eM14
  refine xt_newI dX11_init_545 ac_I hn rfl hy ?_
  have ho3 : ok M14 x0 13 := by rw [eM14]; exact ok_nwA ho3
  rw [← eM14, ← eq15]
  obtain ⟨M16, eM16⟩ : ∃ z, z = wR M14 x0 76 (some q15) := ⟨_, rfl⟩
  have H := H _ eM16
  refine xt_putR dX11_init_547 (flX11_204 rfl) ft_13_76 rfl ho3.1 ho3.2 ?_
  have ho3 : ok M16 x0 13 := by rw [eM16]; exact ho3
  rw [← eM16]
  refine xt_aload_n (j := 0) dX11_init_550 rfl rfl ?_
  refine xt_sipush (v := 700) dX11_init_551 (by decide) ?_
  obtain ⟨hn, hy, H⟩ := H
  obtain ⟨M17, eM17⟩ : ∃ z, z = nwA M16 21 ((700 : Int32).toNatClampNeg) := ⟨_, rfl⟩
  obtain ⟨q18, eq18⟩ : ∃ z, z = mN M16 := ⟨_, rfl⟩
  have H := H _ _ eq18 eM17
  refine xt_newI dX11_init_554 ac_I hn rfl hy ?_
  have ho3 : ok M17 x0 13 := by rw [eM17]; exact ok_nwA ho3
  rw [← eM17, ← eq18]
  obtain ⟨M19, eM19⟩ : ∃ z, z = wR M17 x0 77 (some q18) := ⟨_, rfl⟩
  have H := H _ eM19
  refine xt_putR dX11_init_556 (flX11_207 rfl) ft_13_77 rfl ho3.1 ho3.2 ?_
  have ho3 : ok M19 x0 13 := by rw [eM19]; exact ho3
  rw [← eM19]
  refine xt_aload_n (j := 0) dX11_init_559 rfl rfl ?_
  refine xt_sipush (v := 700) dX11_init_560 (by decide) ?_
  obtain ⟨hn, hy, H⟩ := H
  obtain ⟨M20, eM20⟩ : ∃ z, z = nwA M19 21 ((700 : Int32).toNatClampNeg) := ⟨_, rfl⟩
  obtain ⟨q21, eq21⟩ : ∃ z, z = mN M19 := ⟨_, rfl⟩
  have H := H _ _ eq21 eM20
  refine xt_newI dX11_init_563 ac_I hn rfl hy ?_
  have ho3 : ok M20 x0 13 := by rw [eM20]; exact ok_nwA ho3
  rw [← eM20, ← eq21]
  obtain ⟨M22, eM22⟩ : ∃ z, z = wR M20 x0 78 (some q21) := ⟨_, rfl⟩
  have H := H _ eM22
  refine xt_putR dX11_init_565 (flX11_210 rfl) ft_13_78 rfl ho3.1 ho3.2 ?_
  have ho3 : ok M22 x0 13 := by rw [eM22]; exact ho3
  rw [← eM22]
  refine xt_aload_n (j := 0) dX11_init_568 rfl rfl ?_
  refine xt_sipush (v := 700) dX11_init_569 (by decide) ?_
  obtain ⟨hn, hy, H⟩ := H
  obtain ⟨M23, eM23⟩ : ∃ z, z = nwA M22 21 ((700 : Int32).toNatClampNeg) := ⟨_, rfl⟩
  obtain ⟨q24, eq24⟩ : ∃ z, z = mN M22 := ⟨_, rfl⟩
  have H := H _ _ eq24 eM23
  refine xt_newI dX11_init_572 ac_I hn rfl hy ?_
  have ho3 : ok M23 x0 13 := by rw [eM23]; exact ok_nwA ho3
  rw [← eM23, ← eq24]
  obtain ⟨M25, eM25⟩ : ∃ z, z = wR M23 x0 79 (some q24) := ⟨_, rfl⟩
  have H := H _ eM25
  refine xt_putR dX11_init_574 (flX11_213 rfl) ft_13_79 rfl ho3.1 ho3.2 ?_
  have ho3 : ok M25 x0 13 := by rw [eM25]; exact ho3
  rw [← eM25]
  refine xt_aload_n (j := 0) dX11_init_577 rfl rfl ?_
  refine xt_sipush (v := 700) dX11_init_578 (by decide) ?_
  obtain ⟨hn, hy, H⟩ := H
  obtain ⟨M26, eM26⟩ : ∃ z, z = nwA M25 21 ((700 : Int32).toNatClampNeg) := ⟨_, rfl⟩
  obtain ⟨q27, eq27⟩ : ∃ z, z = mN M25 := ⟨_, rfl⟩
  have H := H _ _ eq27 eM26
  refine xt_newI dX11_init_581 ac_I hn rfl hy ?_
  have ho3 : ok M26 x0 13 := by rw [eM26]; exact ok_nwA ho3
  rw [← eM26, ← eq27]
  obtain ⟨M28, eM28⟩ : ∃ z, z = wR M26 x0 80 (some q27) := ⟨_, rfl⟩
  have H := H _ eM28
  refine xt_putR dX11_init_583 (flX11_216 rfl) ft_13_80 rfl ho3.1 ho3.2 ?_
  have ho3 : ok M28 x0 13 := by rw [eM28]; exact ho3
  rw [← eM28]
  refine xt_aload_n (j := 0) dX11_init_586 rfl rfl ?_
  refine xt_sipush (v := 16800) dX11_init_587 (by decide) ?_
  obtain ⟨hn, hy, H⟩ := H
  obtain ⟨M29, eM29⟩ : ∃ z, z = nwA M28 21 ((16800 : Int32).toNatClampNeg) := ⟨_, rfl⟩
  obtain ⟨q30, eq30⟩ : ∃ z, z = mN M28 := ⟨_, rfl⟩
  have H := H _ _ eq30 eM29
  refine xt_newI dX11_init_590 ac_I hn rfl hy ?_
  have ho3 : ok M29 x0 13 := by rw [eM29]; exact ok_nwA ho3
  rw [← eM29, ← eq30]
  obtain ⟨M31, eM31⟩ : ∃ z, z = wR M29 x0 81 (some q30) := ⟨_, rfl⟩
  have H := H _ eM31
  refine xt_putR dX11_init_592 (flX11_219 rfl) ft_13_81 rfl ho3.1 ho3.2 ?_
  have ho3 : ok M31 x0 13 := by rw [eM31]; exact ho3
  rw [← eM31]
  exact xt_sub [0] rfl (VX11_init_595 H)
def DX11_init_421 (h : Nat) (x0 : Nat) (M : Mem) (Q : Option Value → Mem → Prop) : Prop :=
  ¬ (2800 : Int32) < 0 ∧ ((2800 : Int32).toNatClampNeg ≤ 100000000) ∧ ∀ (q2 : Nat) (M1 : Mem), q2 = mN M → M1 = nwA M 21 ((2800 : Int32).toNatClampNeg) →
  ok M1 x0 13 ∧ ∀ M4 : Mem, M4 = wR M1 x0 62 (some q2) →
  ¬ (2800 : Int32) < 0 ∧ ((2800 : Int32).toNatClampNeg ≤ 100000000) ∧ ∀ (q6 : Nat) (M5 : Mem), q6 = mN M4 → M5 = nwA M4 21 ((2800 : Int32).toNatClampNeg) →
  ∀ M7 : Mem, M7 = wR M5 x0 63 (some q6) →
  ¬ (2800 : Int32) < 0 ∧ ((2800 : Int32).toNatClampNeg ≤ 100000000) ∧ ∀ (q9 : Nat) (M8 : Mem), q9 = mN M7 → M8 = nwA M7 21 ((2800 : Int32).toNatClampNeg) →
  ∀ M10 : Mem, M10 = wR M8 x0 64 (some q9) →
  ¬ (2800 : Int32) < 0 ∧ ((2800 : Int32).toNatClampNeg ≤ 100000000) ∧ ∀ (q12 : Nat) (M11 : Mem), q12 = mN M10 → M11 = nwA M10 21 ((2800 : Int32).toNatClampNeg) →
  ∀ M13 : Mem, M13 = wR M11 x0 65 (some q12) →
  ¬ (2800 : Int32) < 0 ∧ ((2800 : Int32).toNatClampNeg ≤ 100000000) ∧ ∀ (q15 : Nat) (M14 : Mem), q15 = mN M13 → M14 = nwA M13 21 ((2800 : Int32).toNatClampNeg) →
  ∀ M16 : Mem, M16 = wR M14 x0 66 (some q15) →
  ¬ (2800 : Int32) < 0 ∧ ((2800 : Int32).toNatClampNeg ≤ 100000000) ∧ ∀ (q18 : Nat) (M17 : Mem), q18 = mN M16 → M17 = nwA M16 21 ((2800 : Int32).toNatClampNeg) →
  ∀ M19 : Mem, M19 = wR M17 x0 67 (some q18) →
  ¬ (2800 : Int32) < 0 ∧ ((2800 : Int32).toNatClampNeg ≤ 100000000) ∧ ∀ (q21 : Nat) (M20 : Mem), q21 = mN M19 → M20 = nwA M19 21 ((2800 : Int32).toNatClampNeg) →
  ∀ M22 : Mem, M22 = wR M20 x0 68 (some q21) →
  ¬ (2800 : Int32) < 0 ∧ ((2800 : Int32).toNatClampNeg ≤ 100000000) ∧ ∀ (q24 : Nat) (M23 : Mem), q24 = mN M22 → M23 = nwA M22 21 ((2800 : Int32).toNatClampNeg) →
  ∀ M25 : Mem, M25 = wR M23 x0 69 (some q24) →
  ¬ (2800 : Int32) < 0 ∧ ((2800 : Int32).toNatClampNeg ≤ 100000000) ∧ ∀ (q27 : Nat) (M26 : Mem), q27 = mN M25 → M26 = nwA M25 21 ((2800 : Int32).toNatClampNeg) →
  ∀ M28 : Mem, M28 = wR M26 x0 70 (some q27) →
  ¬ (2800 : Int32) < 0 ∧ ((2800 : Int32).toNatClampNeg ≤ 100000000) ∧ ∀ (q30 : Nat) (M29 : Mem), q30 = mN M28 → M29 = nwA M28 21 ((2800 : Int32).toNatClampNeg) →
  ∀ M31 : Mem, M31 = wR M29 x0 71 (some q30) →
  DX11_init_511 h x0 M31 Q
set_option maxRecDepth 20000 in
set_option maxHeartbeats 2000000 in
theorem VX11_init_421 {h : Nat} {x0 : Nat} {M : Mem} {Q : Option Value → Mem → Prop} (H : DX11_init_421 h x0 M Q) : T (h + 1) mdX11_init 421 [(0, .ref x0)] [] M Q := by
  unfold DX11_init_421 at H
  refine xt_aload_n (j := 0) dX11_init_421 rfl rfl ?_
  refine xt_sipush (v := 2800) dX11_init_422 (by decide) ?_
  obtain ⟨hn, hy, H⟩ := H
  obtain ⟨M1, eM1⟩ : ∃ z, z = nwA M 21 ((2800 : Int32).toNatClampNeg) := ⟨_, rfl⟩
  obtain ⟨q2, eq2⟩ : ∃ z, z = mN M := ⟨_, rfl⟩
  have H := H _ _ eq2 eM1
  refine xt_newI dX11_init_425 ac_I hn rfl hy ?_
  rw [← eM1, ← eq2]
  obtain ⟨ho3, H⟩ := H
  obtain ⟨M4, eM4⟩ : ∃ z, z = wR M1 x0 62 (some q2) := ⟨_, rfl⟩
  have H := H _ eM4
  refine xt_putR dX11_init_427 (flX11_162 rfl) ft_13_62 rfl ho3.1 ho3.2 ?_
  have ho3 : ok M4 x0 13 := by rw [eM4]; exact ho3
  rw [← eM4]
  refine xt_aload_n (j := 0) dX11_init_430 rfl rfl ?_
  refine xt_sipush (v := 2800) dX11_init_431 (by decide) ?_
  obtain ⟨hn, hy, H⟩ := H
  obtain ⟨M5, eM5⟩ : ∃ z, z = nwA M4 21 ((2800 : Int32).toNatClampNeg) := ⟨_, rfl⟩
  obtain ⟨q6, eq6⟩ : ∃ z, z = mN M4 := ⟨_, rfl⟩
  have H := H _ _ eq6 eM5
  refine xt_newI dX11_init_434 ac_I hn rfl hy ?_
  have ho3 : ok M5 x0 13 := by rw [eM5]; exact ok_nwA ho3
  rw [← eM5, ← eq6]
  obtain ⟨M7, eM7⟩ : ∃ z, z = wR M5 x0 63 (some q6) := ⟨_, rfl⟩
  have H := H _ eM7
  refine xt_putR dX11_init_436 (flX11_165 rfl) ft_13_63 rfl ho3.1 ho3.2 ?_
  have ho3 : ok M7 x0 13 := by rw [eM7]; exact ho3
  rw [← eM7]
  refine xt_aload_n (j := 0) dX11_init_439 rfl rfl ?_
  refine xt_sipush (v := 2800) dX11_init_440 (by decide) ?_
  obtain ⟨hn, hy, H⟩ := H
  obtain ⟨M8, eM8⟩ : ∃ z, z = nwA M7 21 ((2800 : Int32).toNatClampNeg) := ⟨_, rfl⟩
  obtain ⟨q9, eq9⟩ : ∃ z, z = mN M7 := ⟨_, rfl⟩
  have H := H _ _ eq9 eM8
  refine xt_newI dX11_init_443 ac_I hn rfl hy ?_
  have ho3 : ok M8 x0 13 := by rw [eM8]; exact ok_nwA ho3
  rw [← eM8, ← eq9]
  obtain ⟨M10, eM10⟩ : ∃ z, z = wR M8 x0 64 (some q9) := ⟨_, rfl⟩
  have H := H _ eM10
  refine xt_putR dX11_init_445 (flX11_168 rfl) ft_13_64 rfl ho3.1 ho3.2 ?_
  have ho3 : ok M10 x0 13 := by rw [eM10]; exact ho3
  rw [← eM10]
  refine xt_aload_n (j := 0) dX11_init_448 rfl rfl ?_
  refine xt_sipush (v := 2800) dX11_init_449 (by decide) ?_
  obtain ⟨hn, hy, H⟩ := H
  obtain ⟨M11, eM11⟩ : ∃ z, z = nwA M10 21 ((2800 : Int32).toNatClampNeg) := ⟨_, rfl⟩
  obtain ⟨q12, eq12⟩ : ∃ z, z = mN M10 := ⟨_, rfl⟩
  have H := H _ _ eq12 eM11
  refine xt_newI dX11_init_452 ac_I hn rfl hy ?_
  have ho3 : ok M11 x0 13 := by rw [eM11]; exact ok_nwA ho3
  rw [← eM11, ← eq12]
  obtain ⟨M13, eM13⟩ : ∃ z, z = wR M11 x0 65 (some q12) := ⟨_, rfl⟩
  have H := H _ eM13
  refine xt_putR dX11_init_454 (flX11_171 rfl) ft_13_65 rfl ho3.1 ho3.2 ?_
  have ho3 : ok M13 x0 13 := by rw [eM13]; exact ho3
  rw [← eM13]
  refine xt_aload_n (j := 0) dX11_init_457 rfl rfl ?_
  refine xt_sipush (v := 2800) dX11_init_458 (by decide) ?_
  obtain ⟨hn, hy, H⟩ := H
  obtain ⟨M14, eM14⟩ : ∃ z, z = nwA M13 21 ((2800 : Int32).toNatClampNeg) := ⟨_, rfl⟩
  obtain ⟨q15, eq15⟩ : ∃ z, z = mN M13 := ⟨_, rfl⟩
  have H := H _ _ eq15 eM14
  refine xt_newI dX11_init_461 ac_I hn rfl hy ?_
  have ho3 : ok M14 x0 13 := by rw [eM14]; exact ok_nwA ho3
  rw [← eM14, ← eq15]
  obtain ⟨M16, eM16⟩ : ∃ z, z = wR M14 x0 66 (some q15) := ⟨_, rfl⟩
  have H := H _ eM16
  refine xt_putR dX11_init_463 (flX11_174 rfl) ft_13_66 rfl ho3.1 ho3.2 ?_
  have ho3 : ok M16 x0 13 := by rw [eM16]; exact ho3
  rw [← eM16]
  refine xt_aload_n (j := 0) dX11_init_466 rfl rfl ?_
  refine xt_sipush (v := 2800) dX11_init_467 (by decide) ?_
  obtain ⟨hn, hy, H⟩ := H
  obtain ⟨M17, eM17⟩ : ∃ z, z = nwA M16 21 ((2800 : Int32).toNatClampNeg) := ⟨_, rfl⟩
  obtain ⟨q18, eq18⟩ : ∃ z, z = mN M16 := ⟨_, rfl⟩
  have H := H _ _ eq18 eM17
  refine xt_newI dX11_init_470 ac_I hn rfl hy ?_
  have ho3 : ok M17 x0 13 := by rw [eM17]; exact ok_nwA ho3
  rw [← eM17, ← eq18]
  obtain ⟨M19, eM19⟩ : ∃ z, z = wR M17 x0 67 (some q18) := ⟨_, rfl⟩
  have H := H _ eM19
  refine xt_putR dX11_init_472 (flX11_177 rfl) ft_13_67 rfl ho3.1 ho3.2 ?_
  have ho3 : ok M19 x0 13 := by rw [eM19]; exact ho3
  rw [← eM19]
  refine xt_aload_n (j := 0) dX11_init_475 rfl rfl ?_
  refine xt_sipush (v := 2800) dX11_init_476 (by decide) ?_
  obtain ⟨hn, hy, H⟩ := H
  obtain ⟨M20, eM20⟩ : ∃ z, z = nwA M19 21 ((2800 : Int32).toNatClampNeg) := ⟨_, rfl⟩
  obtain ⟨q21, eq21⟩ : ∃ z, z = mN M19 := ⟨_, rfl⟩
  have H := H _ _ eq21 eM20
  refine xt_newI dX11_init_479 ac_I hn rfl hy ?_
  have ho3 : ok M20 x0 13 := by rw [eM20]; exact ok_nwA ho3
  rw [← eM20, ← eq21]
  obtain ⟨M22, eM22⟩ : ∃ z, z = wR M20 x0 68 (some q21) := ⟨_, rfl⟩
  have H := H _ eM22
  refine xt_putR dX11_init_481 (flX11_180 rfl) ft_13_68 rfl ho3.1 ho3.2 ?_
  have ho3 : ok M22 x0 13 := by rw [eM22]; exact ho3
  rw [← eM22]
  refine xt_aload_n (j := 0) dX11_init_484 rfl rfl ?_
  refine xt_sipush (v := 2800) dX11_init_485 (by decide) ?_
  obtain ⟨hn, hy, H⟩ := H
  obtain ⟨M23, eM23⟩ : ∃ z, z = nwA M22 21 ((2800 : Int32).toNatClampNeg) := ⟨_, rfl⟩
  obtain ⟨q24, eq24⟩ : ∃ z, z = mN M22 := ⟨_, rfl⟩
  have H := H _ _ eq24 eM23
  refine xt_newI dX11_init_488 ac_I hn rfl hy ?_
  have ho3 : ok M23 x0 13 := by rw [eM23]; exact ok_nwA ho3
  rw [← eM23, ← eq24]
  obtain ⟨M25, eM25⟩ : ∃ z, z = wR M23 x0 69 (some q24) := ⟨_, rfl⟩
  have H := H _ eM25
  refine xt_putR dX11_init_490 (flX11_183 rfl) ft_13_69 rfl ho3.1 ho3.2 ?_
  have ho3 : ok M25 x0 13 := by rw [eM25]; exact ho3
  rw [← eM25]
  refine xt_aload_n (j := 0) dX11_init_493 rfl rfl ?_
  refine xt_sipush (v := 2800) dX11_init_494 (by decide) ?_
  obtain ⟨hn, hy, H⟩ := H
  obtain ⟨M26, eM26⟩ : ∃ z, z = nwA M25 21 ((2800 : Int32).toNatClampNeg) := ⟨_, rfl⟩
  obtain ⟨q27, eq27⟩ : ∃ z, z = mN M25 := ⟨_, rfl⟩
  have H := H _ _ eq27 eM26
  refine xt_newI dX11_init_497 ac_I hn rfl hy ?_
  have ho3 : ok M26 x0 13 := by rw [eM26]; exact ok_nwA ho3
  rw [← eM26, ← eq27]
  obtain ⟨M28, eM28⟩ : ∃ z, z = wR M26 x0 70 (some q27) := ⟨_, rfl⟩
  have H := H _ eM28
  refine xt_putR dX11_init_499 (flX11_186 rfl) ft_13_70 rfl ho3.1 ho3.2 ?_
  have ho3 : ok M28 x0 13 := by rw [eM28]; exact ho3
  rw [← eM28]
  refine xt_aload_n (j := 0) dX11_init_502 rfl rfl ?_
  refine xt_sipush (v := 2800) dX11_init_503 (by decide) ?_
  obtain ⟨hn, hy, H⟩ := H
  obtain ⟨M29, eM29⟩ : ∃ z, z = nwA M28 21 ((2800 : Int32).toNatClampNeg) := ⟨_, rfl⟩
  obtain ⟨q30, eq30⟩ : ∃ z, z = mN M28 := ⟨_, rfl⟩
  have H := H _ _ eq30 eM29
  refine xt_newI dX11_init_506 ac_I hn rfl hy ?_
  have ho3 : ok M29 x0 13 := by rw [eM29]; exact ok_nwA ho3
  rw [← eM29, ← eq30]
  obtain ⟨M31, eM31⟩ : ∃ z, z = wR M29 x0 71 (some q30) := ⟨_, rfl⟩
  have H := H _ eM31
  refine xt_putR dX11_init_508 (flX11_189 rfl) ft_13_71 rfl ho3.1 ho3.2 ?_
  have ho3 : ok M31 x0 13 := by rw [eM31]; exact ho3
  rw [← eM31]
  exact xt_sub [0] rfl (VX11_init_511 H)
def DX11_init_339 (h : Nat) (x0 : Nat) (M : Mem) (Q : Option Value → Mem → Prop) : Prop :=
  ¬ (160 : Int32) < 0 ∧ ((160 : Int32).toNatClampNeg ≤ 100000000) ∧ ∀ (q2 : Nat) (M1 : Mem), q2 = mN M → M1 = nwA M 21 ((160 : Int32).toNatClampNeg) →
  ok M1 x0 13 ∧ ∀ M4 : Mem, M4 = wR M1 x0 50 (some q2) →
  ¬ (160 : Int32) < 0 ∧ ((160 : Int32).toNatClampNeg ≤ 100000000) ∧ ∀ (q6 : Nat) (M5 : Mem), q6 = mN M4 → M5 = nwA M4 21 ((160 : Int32).toNatClampNeg) →
  ∀ M7 : Mem, M7 = wR M5 x0 51 (some q6) →
  ¬ (160 : Int32) < 0 ∧ ((160 : Int32).toNatClampNeg ≤ 60000000) ∧ ∀ (q9 : Nat) (M8 : Mem), q9 = mN M7 → M8 = nwA M7 23 ((160 : Int32).toNatClampNeg) →
  ∀ M10 : Mem, M10 = wR M8 x0 52 (some q9) →
  ¬ (100 : Int32) < 0 ∧ ((100 : Int32).toNatClampNeg ≤ 100000000) ∧ ∀ (q12 : Nat) (M11 : Mem), q12 = mN M10 → M11 = nwA M10 21 ((100 : Int32).toNatClampNeg) →
  ∀ M13 : Mem, M13 = wR M11 x0 54 (some q12) →
  ¬ (100 : Int32) < 0 ∧ ((100 : Int32).toNatClampNeg ≤ 100000000) ∧ ∀ (q15 : Nat) (M14 : Mem), q15 = mN M13 → M14 = nwA M13 21 ((100 : Int32).toNatClampNeg) →
  ∀ M16 : Mem, M16 = wR M14 x0 55 (some q15) →
  ¬ (100 : Int32) < 0 ∧ ((100 : Int32).toNatClampNeg ≤ 100000000) ∧ ∀ (q18 : Nat) (M17 : Mem), q18 = mN M16 → M17 = nwA M16 21 ((100 : Int32).toNatClampNeg) →
  ∀ M19 : Mem, M19 = wR M17 x0 56 (some q18) →
  ¬ (17 : Int32) < 0 ∧ ((17 : Int32).toNatClampNeg ≤ 100000000) ∧ ∀ (q21 : Nat) (M20 : Mem), q21 = mN M19 → M20 = nwA M19 21 ((17 : Int32).toNatClampNeg) →
  ∀ M22 : Mem, M22 = wR M20 x0 57 (some q21) →
  ¬ (17 : Int32) < 0 ∧ ((17 : Int32).toNatClampNeg ≤ 100000000) ∧ ∀ (q24 : Nat) (M23 : Mem), q24 = mN M22 → M23 = nwA M22 21 ((17 : Int32).toNatClampNeg) →
  ∀ M25 : Mem, M25 = wR M23 x0 58 (some q24) →
  ¬ (17 : Int32) < 0 ∧ ((17 : Int32).toNatClampNeg ≤ 100000000) ∧ ∀ (q27 : Nat) (M26 : Mem), q27 = mN M25 → M26 = nwA M25 21 ((17 : Int32).toNatClampNeg) →
  ∀ M28 : Mem, M28 = wR M26 x0 59 (some q27) →
  ¬ (4 : Int32) < 0 ∧ ((4 : Int32).toNatClampNeg ≤ 100000000) ∧ ∀ (q30 : Nat) (M29 : Mem), q30 = mN M28 → M29 = nwA M28 21 ((4 : Int32).toNatClampNeg) →
  ∀ M31 : Mem, M31 = wR M29 x0 61 (some q30) →
  DX11_init_421 h x0 M31 Q
set_option maxRecDepth 20000 in
set_option maxHeartbeats 2000000 in
theorem VX11_init_339 {h : Nat} {x0 : Nat} {M : Mem} {Q : Option Value → Mem → Prop} (H : DX11_init_339 h x0 M Q) : T (h + 1) mdX11_init 339 [(0, .ref x0)] [] M Q := by
  unfold DX11_init_339 at H
  refine xt_aload_n (j := 0) dX11_init_339 rfl rfl ?_
  refine xt_sipush (v := 160) dX11_init_340 (by decide) ?_
  obtain ⟨hn, hy, H⟩ := H
  obtain ⟨M1, eM1⟩ : ∃ z, z = nwA M 21 ((160 : Int32).toNatClampNeg) := ⟨_, rfl⟩
  obtain ⟨q2, eq2⟩ : ∃ z, z = mN M := ⟨_, rfl⟩
  have H := H _ _ eq2 eM1
  refine xt_newI dX11_init_343 ac_I hn rfl hy ?_
  rw [← eM1, ← eq2]
  obtain ⟨ho3, H⟩ := H
  obtain ⟨M4, eM4⟩ : ∃ z, z = wR M1 x0 50 (some q2) := ⟨_, rfl⟩
  have H := H _ eM4
  refine xt_putR dX11_init_345 (flX11_132 rfl) ft_13_50 rfl ho3.1 ho3.2 ?_
  have ho3 : ok M4 x0 13 := by rw [eM4]; exact ho3
  rw [← eM4]
  refine xt_aload_n (j := 0) dX11_init_348 rfl rfl ?_
  refine xt_sipush (v := 160) dX11_init_349 (by decide) ?_
  obtain ⟨hn, hy, H⟩ := H
  obtain ⟨M5, eM5⟩ : ∃ z, z = nwA M4 21 ((160 : Int32).toNatClampNeg) := ⟨_, rfl⟩
  obtain ⟨q6, eq6⟩ : ∃ z, z = mN M4 := ⟨_, rfl⟩
  have H := H _ _ eq6 eM5
  refine xt_newI dX11_init_352 ac_I hn rfl hy ?_
  have ho3 : ok M5 x0 13 := by rw [eM5]; exact ok_nwA ho3
  rw [← eM5, ← eq6]
  obtain ⟨M7, eM7⟩ : ∃ z, z = wR M5 x0 51 (some q6) := ⟨_, rfl⟩
  have H := H _ eM7
  refine xt_putR dX11_init_354 (flX11_135 rfl) ft_13_51 rfl ho3.1 ho3.2 ?_
  have ho3 : ok M7 x0 13 := by rw [eM7]; exact ho3
  rw [← eM7]
  refine xt_aload_n (j := 0) dX11_init_357 rfl rfl ?_
  refine xt_sipush (v := 160) dX11_init_358 (by decide) ?_
  obtain ⟨hn, hy, H⟩ := H
  obtain ⟨M8, eM8⟩ : ∃ z, z = nwA M7 23 ((160 : Int32).toNatClampNeg) := ⟨_, rfl⟩
  obtain ⟨q9, eq9⟩ : ∃ z, z = mN M7 := ⟨_, rfl⟩
  have H := H _ _ eq9 eM8
  refine xt_newJ dX11_init_361 ac_J hn rfl hy ?_
  have ho3 : ok M8 x0 13 := by rw [eM8]; exact ok_nwA ho3
  rw [← eM8, ← eq9]
  obtain ⟨M10, eM10⟩ : ∃ z, z = wR M8 x0 52 (some q9) := ⟨_, rfl⟩
  have H := H _ eM10
  refine xt_putR dX11_init_363 (flX11_138 rfl) ft_13_52 rfl ho3.1 ho3.2 ?_
  have ho3 : ok M10 x0 13 := by rw [eM10]; exact ho3
  rw [← eM10]
  refine xt_aload_n (j := 0) dX11_init_366 rfl rfl ?_
  refine xt_bipush (v := 100) dX11_init_367 (by decide) ?_
  obtain ⟨hn, hy, H⟩ := H
  obtain ⟨M11, eM11⟩ : ∃ z, z = nwA M10 21 ((100 : Int32).toNatClampNeg) := ⟨_, rfl⟩
  obtain ⟨q12, eq12⟩ : ∃ z, z = mN M10 := ⟨_, rfl⟩
  have H := H _ _ eq12 eM11
  refine xt_newI dX11_init_369 ac_I hn rfl hy ?_
  have ho3 : ok M11 x0 13 := by rw [eM11]; exact ok_nwA ho3
  rw [← eM11, ← eq12]
  obtain ⟨M13, eM13⟩ : ∃ z, z = wR M11 x0 54 (some q12) := ⟨_, rfl⟩
  have H := H _ eM13
  refine xt_putR dX11_init_371 (flX11_141 rfl) ft_13_54 rfl ho3.1 ho3.2 ?_
  have ho3 : ok M13 x0 13 := by rw [eM13]; exact ho3
  rw [← eM13]
  refine xt_aload_n (j := 0) dX11_init_374 rfl rfl ?_
  refine xt_bipush (v := 100) dX11_init_375 (by decide) ?_
  obtain ⟨hn, hy, H⟩ := H
  obtain ⟨M14, eM14⟩ : ∃ z, z = nwA M13 21 ((100 : Int32).toNatClampNeg) := ⟨_, rfl⟩
  obtain ⟨q15, eq15⟩ : ∃ z, z = mN M13 := ⟨_, rfl⟩
  have H := H _ _ eq15 eM14
  refine xt_newI dX11_init_377 ac_I hn rfl hy ?_
  have ho3 : ok M14 x0 13 := by rw [eM14]; exact ok_nwA ho3
  rw [← eM14, ← eq15]
  obtain ⟨M16, eM16⟩ : ∃ z, z = wR M14 x0 55 (some q15) := ⟨_, rfl⟩
  have H := H _ eM16
  refine xt_putR dX11_init_379 (flX11_144 rfl) ft_13_55 rfl ho3.1 ho3.2 ?_
  have ho3 : ok M16 x0 13 := by rw [eM16]; exact ho3
  rw [← eM16]
  refine xt_aload_n (j := 0) dX11_init_382 rfl rfl ?_
  refine xt_bipush (v := 100) dX11_init_383 (by decide) ?_
  obtain ⟨hn, hy, H⟩ := H
  obtain ⟨M17, eM17⟩ : ∃ z, z = nwA M16 21 ((100 : Int32).toNatClampNeg) := ⟨_, rfl⟩
  obtain ⟨q18, eq18⟩ : ∃ z, z = mN M16 := ⟨_, rfl⟩
  have H := H _ _ eq18 eM17
  refine xt_newI dX11_init_385 ac_I hn rfl hy ?_
  have ho3 : ok M17 x0 13 := by rw [eM17]; exact ok_nwA ho3
  rw [← eM17, ← eq18]
  obtain ⟨M19, eM19⟩ : ∃ z, z = wR M17 x0 56 (some q18) := ⟨_, rfl⟩
  have H := H _ eM19
  refine xt_putR dX11_init_387 (flX11_147 rfl) ft_13_56 rfl ho3.1 ho3.2 ?_
  have ho3 : ok M19 x0 13 := by rw [eM19]; exact ho3
  rw [← eM19]
  refine xt_aload_n (j := 0) dX11_init_390 rfl rfl ?_
  refine xt_bipush (v := 17) dX11_init_391 (by decide) ?_
  obtain ⟨hn, hy, H⟩ := H
  obtain ⟨M20, eM20⟩ : ∃ z, z = nwA M19 21 ((17 : Int32).toNatClampNeg) := ⟨_, rfl⟩
  obtain ⟨q21, eq21⟩ : ∃ z, z = mN M19 := ⟨_, rfl⟩
  have H := H _ _ eq21 eM20
  refine xt_newI dX11_init_393 ac_I hn rfl hy ?_
  have ho3 : ok M20 x0 13 := by rw [eM20]; exact ok_nwA ho3
  rw [← eM20, ← eq21]
  obtain ⟨M22, eM22⟩ : ∃ z, z = wR M20 x0 57 (some q21) := ⟨_, rfl⟩
  have H := H _ eM22
  refine xt_putR dX11_init_395 (flX11_150 rfl) ft_13_57 rfl ho3.1 ho3.2 ?_
  have ho3 : ok M22 x0 13 := by rw [eM22]; exact ho3
  rw [← eM22]
  refine xt_aload_n (j := 0) dX11_init_398 rfl rfl ?_
  refine xt_bipush (v := 17) dX11_init_399 (by decide) ?_
  obtain ⟨hn, hy, H⟩ := H
  obtain ⟨M23, eM23⟩ : ∃ z, z = nwA M22 21 ((17 : Int32).toNatClampNeg) := ⟨_, rfl⟩
  obtain ⟨q24, eq24⟩ : ∃ z, z = mN M22 := ⟨_, rfl⟩
  have H := H _ _ eq24 eM23
  refine xt_newI dX11_init_401 ac_I hn rfl hy ?_
  have ho3 : ok M23 x0 13 := by rw [eM23]; exact ok_nwA ho3
  rw [← eM23, ← eq24]
  obtain ⟨M25, eM25⟩ : ∃ z, z = wR M23 x0 58 (some q24) := ⟨_, rfl⟩
  have H := H _ eM25
  refine xt_putR dX11_init_403 (flX11_153 rfl) ft_13_58 rfl ho3.1 ho3.2 ?_
  have ho3 : ok M25 x0 13 := by rw [eM25]; exact ho3
  rw [← eM25]
  refine xt_aload_n (j := 0) dX11_init_406 rfl rfl ?_
  refine xt_bipush (v := 17) dX11_init_407 (by decide) ?_
  obtain ⟨hn, hy, H⟩ := H
  obtain ⟨M26, eM26⟩ : ∃ z, z = nwA M25 21 ((17 : Int32).toNatClampNeg) := ⟨_, rfl⟩
  obtain ⟨q27, eq27⟩ : ∃ z, z = mN M25 := ⟨_, rfl⟩
  have H := H _ _ eq27 eM26
  refine xt_newI dX11_init_409 ac_I hn rfl hy ?_
  have ho3 : ok M26 x0 13 := by rw [eM26]; exact ok_nwA ho3
  rw [← eM26, ← eq27]
  obtain ⟨M28, eM28⟩ : ∃ z, z = wR M26 x0 59 (some q27) := ⟨_, rfl⟩
  have H := H _ eM28
  refine xt_putR dX11_init_411 (flX11_156 rfl) ft_13_59 rfl ho3.1 ho3.2 ?_
  have ho3 : ok M28 x0 13 := by rw [eM28]; exact ho3
  rw [← eM28]
  refine xt_aload_n (j := 0) dX11_init_414 rfl rfl ?_
  refine xt_iconst (v := 4) dX11_init_415 (by decide) ?_
  obtain ⟨hn, hy, H⟩ := H
  obtain ⟨M29, eM29⟩ : ∃ z, z = nwA M28 21 ((4 : Int32).toNatClampNeg) := ⟨_, rfl⟩
  obtain ⟨q30, eq30⟩ : ∃ z, z = mN M28 := ⟨_, rfl⟩
  have H := H _ _ eq30 eM29
  refine xt_newI dX11_init_416 ac_I hn rfl hy ?_
  have ho3 : ok M29 x0 13 := by rw [eM29]; exact ok_nwA ho3
  rw [← eM29, ← eq30]
  obtain ⟨M31, eM31⟩ : ∃ z, z = wR M29 x0 61 (some q30) := ⟨_, rfl⟩
  have H := H _ eM31
  refine xt_putR dX11_init_418 (flX11_159 rfl) ft_13_61 rfl ho3.1 ho3.2 ?_
  have ho3 : ok M31 x0 13 := by rw [eM31]; exact ho3
  rw [← eM31]
  exact xt_sub [0] rfl (VX11_init_421 H)
def DX11_init_249 (h : Nat) (x0 : Nat) (M : Mem) (Q : Option Value → Mem → Prop) : Prop :=
  ¬ (160 : Int32) < 0 ∧ ((160 : Int32).toNatClampNeg ≤ 100000000) ∧ ∀ (q2 : Nat) (M1 : Mem), q2 = mN M → M1 = nwA M 21 ((160 : Int32).toNatClampNeg) →
  ok M1 x0 13 ∧ ∀ M4 : Mem, M4 = wR M1 x0 40 (some q2) →
  ¬ (160 : Int32) < 0 ∧ ((160 : Int32).toNatClampNeg ≤ 100000000) ∧ ∀ (q6 : Nat) (M5 : Mem), q6 = mN M4 → M5 = nwA M4 22 ((160 : Int32).toNatClampNeg) →
  ∀ M7 : Mem, M7 = wR M5 x0 41 (some q6) →
  ¬ (160 : Int32) < 0 ∧ ((160 : Int32).toNatClampNeg ≤ 100000000) ∧ ∀ (q9 : Nat) (M8 : Mem), q9 = mN M7 → M8 = nwA M7 21 ((160 : Int32).toNatClampNeg) →
  ∀ M10 : Mem, M10 = wR M8 x0 42 (some q9) →
  ¬ (160 : Int32) < 0 ∧ ((160 : Int32).toNatClampNeg ≤ 100000000) ∧ ∀ (q12 : Nat) (M11 : Mem), q12 = mN M10 → M11 = nwA M10 21 ((160 : Int32).toNatClampNeg) →
  ∀ M13 : Mem, M13 = wR M11 x0 43 (some q12) →
  ¬ (160 : Int32) < 0 ∧ ((160 : Int32).toNatClampNeg ≤ 100000000) ∧ ∀ (q15 : Nat) (M14 : Mem), q15 = mN M13 → M14 = nwA M13 21 ((160 : Int32).toNatClampNeg) →
  ∀ M16 : Mem, M16 = wR M14 x0 44 (some q15) →
  ¬ (160 : Int32) < 0 ∧ ((160 : Int32).toNatClampNeg ≤ 100000000) ∧ ∀ (q18 : Nat) (M17 : Mem), q18 = mN M16 → M17 = nwA M16 21 ((160 : Int32).toNatClampNeg) →
  ∀ M19 : Mem, M19 = wR M17 x0 45 (some q18) →
  ¬ (160 : Int32) < 0 ∧ ((160 : Int32).toNatClampNeg ≤ 100000000) ∧ ∀ (q21 : Nat) (M20 : Mem), q21 = mN M19 → M20 = nwA M19 21 ((160 : Int32).toNatClampNeg) →
  ∀ M22 : Mem, M22 = wR M20 x0 46 (some q21) →
  ¬ (160 : Int32) < 0 ∧ ((160 : Int32).toNatClampNeg ≤ 100000000) ∧ ∀ (q24 : Nat) (M23 : Mem), q24 = mN M22 → M23 = nwA M22 21 ((160 : Int32).toNatClampNeg) →
  ∀ M25 : Mem, M25 = wR M23 x0 47 (some q24) →
  ¬ (160 : Int32) < 0 ∧ ((160 : Int32).toNatClampNeg ≤ 100000000) ∧ ∀ (q27 : Nat) (M26 : Mem), q27 = mN M25 → M26 = nwA M25 21 ((160 : Int32).toNatClampNeg) →
  ∀ M28 : Mem, M28 = wR M26 x0 48 (some q27) →
  ¬ (160 : Int32) < 0 ∧ ((160 : Int32).toNatClampNeg ≤ 100000000) ∧ ∀ (q30 : Nat) (M29 : Mem), q30 = mN M28 → M29 = nwA M28 21 ((160 : Int32).toNatClampNeg) →
  ∀ M31 : Mem, M31 = wR M29 x0 49 (some q30) →
  DX11_init_339 h x0 M31 Q
set_option maxRecDepth 20000 in
set_option maxHeartbeats 2000000 in
theorem VX11_init_249 {h : Nat} {x0 : Nat} {M : Mem} {Q : Option Value → Mem → Prop} (H : DX11_init_249 h x0 M Q) : T (h + 1) mdX11_init 249 [(0, .ref x0)] [] M Q := by
  unfold DX11_init_249 at H
  refine xt_aload_n (j := 0) dX11_init_249 rfl rfl ?_
  refine xt_sipush (v := 160) dX11_init_250 (by decide) ?_
  obtain ⟨hn, hy, H⟩ := H
  obtain ⟨M1, eM1⟩ : ∃ z, z = nwA M 21 ((160 : Int32).toNatClampNeg) := ⟨_, rfl⟩
  obtain ⟨q2, eq2⟩ : ∃ z, z = mN M := ⟨_, rfl⟩
  have H := H _ _ eq2 eM1
  refine xt_newI dX11_init_253 ac_I hn rfl hy ?_
  rw [← eM1, ← eq2]
  obtain ⟨ho3, H⟩ := H
  obtain ⟨M4, eM4⟩ : ∃ z, z = wR M1 x0 40 (some q2) := ⟨_, rfl⟩
  have H := H _ eM4
  refine xt_putR dX11_init_255 (flX11_102 rfl) ft_13_40 rfl ho3.1 ho3.2 ?_
  have ho3 : ok M4 x0 13 := by rw [eM4]; exact ho3
  rw [← eM4]
  refine xt_aload_n (j := 0) dX11_init_258 rfl rfl ?_
  refine xt_sipush (v := 160) dX11_init_259 (by decide) ?_
  obtain ⟨hn, hy, H⟩ := H
  obtain ⟨M5, eM5⟩ : ∃ z, z = nwA M4 22 ((160 : Int32).toNatClampNeg) := ⟨_, rfl⟩
  obtain ⟨q6, eq6⟩ : ∃ z, z = mN M4 := ⟨_, rfl⟩
  have H := H _ _ eq6 eM5
  refine xt_newZ dX11_init_262 ac_Z hn rfl hy ?_
  have ho3 : ok M5 x0 13 := by rw [eM5]; exact ok_nwA ho3
  rw [← eM5, ← eq6]
  obtain ⟨M7, eM7⟩ : ∃ z, z = wR M5 x0 41 (some q6) := ⟨_, rfl⟩
  have H := H _ eM7
  refine xt_putR dX11_init_264 (flX11_105 rfl) ft_13_41 rfl ho3.1 ho3.2 ?_
  have ho3 : ok M7 x0 13 := by rw [eM7]; exact ho3
  rw [← eM7]
  refine xt_aload_n (j := 0) dX11_init_267 rfl rfl ?_
  refine xt_sipush (v := 160) dX11_init_268 (by decide) ?_
  obtain ⟨hn, hy, H⟩ := H
  obtain ⟨M8, eM8⟩ : ∃ z, z = nwA M7 21 ((160 : Int32).toNatClampNeg) := ⟨_, rfl⟩
  obtain ⟨q9, eq9⟩ : ∃ z, z = mN M7 := ⟨_, rfl⟩
  have H := H _ _ eq9 eM8
  refine xt_newI dX11_init_271 ac_I hn rfl hy ?_
  have ho3 : ok M8 x0 13 := by rw [eM8]; exact ok_nwA ho3
  rw [← eM8, ← eq9]
  obtain ⟨M10, eM10⟩ : ∃ z, z = wR M8 x0 42 (some q9) := ⟨_, rfl⟩
  have H := H _ eM10
  refine xt_putR dX11_init_273 (flX11_108 rfl) ft_13_42 rfl ho3.1 ho3.2 ?_
  have ho3 : ok M10 x0 13 := by rw [eM10]; exact ho3
  rw [← eM10]
  refine xt_aload_n (j := 0) dX11_init_276 rfl rfl ?_
  refine xt_sipush (v := 160) dX11_init_277 (by decide) ?_
  obtain ⟨hn, hy, H⟩ := H
  obtain ⟨M11, eM11⟩ : ∃ z, z = nwA M10 21 ((160 : Int32).toNatClampNeg) := ⟨_, rfl⟩
  obtain ⟨q12, eq12⟩ : ∃ z, z = mN M10 := ⟨_, rfl⟩
  have H := H _ _ eq12 eM11
  refine xt_newI dX11_init_280 ac_I hn rfl hy ?_
  have ho3 : ok M11 x0 13 := by rw [eM11]; exact ok_nwA ho3
  rw [← eM11, ← eq12]
  obtain ⟨M13, eM13⟩ : ∃ z, z = wR M11 x0 43 (some q12) := ⟨_, rfl⟩
  have H := H _ eM13
  refine xt_putR dX11_init_282 (flX11_111 rfl) ft_13_43 rfl ho3.1 ho3.2 ?_
  have ho3 : ok M13 x0 13 := by rw [eM13]; exact ho3
  rw [← eM13]
  refine xt_aload_n (j := 0) dX11_init_285 rfl rfl ?_
  refine xt_sipush (v := 160) dX11_init_286 (by decide) ?_
  obtain ⟨hn, hy, H⟩ := H
  obtain ⟨M14, eM14⟩ : ∃ z, z = nwA M13 21 ((160 : Int32).toNatClampNeg) := ⟨_, rfl⟩
  obtain ⟨q15, eq15⟩ : ∃ z, z = mN M13 := ⟨_, rfl⟩
  have H := H _ _ eq15 eM14
  refine xt_newI dX11_init_289 ac_I hn rfl hy ?_
  have ho3 : ok M14 x0 13 := by rw [eM14]; exact ok_nwA ho3
  rw [← eM14, ← eq15]
  obtain ⟨M16, eM16⟩ : ∃ z, z = wR M14 x0 44 (some q15) := ⟨_, rfl⟩
  have H := H _ eM16
  refine xt_putR dX11_init_291 (flX11_114 rfl) ft_13_44 rfl ho3.1 ho3.2 ?_
  have ho3 : ok M16 x0 13 := by rw [eM16]; exact ho3
  rw [← eM16]
  refine xt_aload_n (j := 0) dX11_init_294 rfl rfl ?_
  refine xt_sipush (v := 160) dX11_init_295 (by decide) ?_
  obtain ⟨hn, hy, H⟩ := H
  obtain ⟨M17, eM17⟩ : ∃ z, z = nwA M16 21 ((160 : Int32).toNatClampNeg) := ⟨_, rfl⟩
  obtain ⟨q18, eq18⟩ : ∃ z, z = mN M16 := ⟨_, rfl⟩
  have H := H _ _ eq18 eM17
  refine xt_newI dX11_init_298 ac_I hn rfl hy ?_
  have ho3 : ok M17 x0 13 := by rw [eM17]; exact ok_nwA ho3
  rw [← eM17, ← eq18]
  obtain ⟨M19, eM19⟩ : ∃ z, z = wR M17 x0 45 (some q18) := ⟨_, rfl⟩
  have H := H _ eM19
  refine xt_putR dX11_init_300 (flX11_117 rfl) ft_13_45 rfl ho3.1 ho3.2 ?_
  have ho3 : ok M19 x0 13 := by rw [eM19]; exact ho3
  rw [← eM19]
  refine xt_aload_n (j := 0) dX11_init_303 rfl rfl ?_
  refine xt_sipush (v := 160) dX11_init_304 (by decide) ?_
  obtain ⟨hn, hy, H⟩ := H
  obtain ⟨M20, eM20⟩ : ∃ z, z = nwA M19 21 ((160 : Int32).toNatClampNeg) := ⟨_, rfl⟩
  obtain ⟨q21, eq21⟩ : ∃ z, z = mN M19 := ⟨_, rfl⟩
  have H := H _ _ eq21 eM20
  refine xt_newI dX11_init_307 ac_I hn rfl hy ?_
  have ho3 : ok M20 x0 13 := by rw [eM20]; exact ok_nwA ho3
  rw [← eM20, ← eq21]
  obtain ⟨M22, eM22⟩ : ∃ z, z = wR M20 x0 46 (some q21) := ⟨_, rfl⟩
  have H := H _ eM22
  refine xt_putR dX11_init_309 (flX11_120 rfl) ft_13_46 rfl ho3.1 ho3.2 ?_
  have ho3 : ok M22 x0 13 := by rw [eM22]; exact ho3
  rw [← eM22]
  refine xt_aload_n (j := 0) dX11_init_312 rfl rfl ?_
  refine xt_sipush (v := 160) dX11_init_313 (by decide) ?_
  obtain ⟨hn, hy, H⟩ := H
  obtain ⟨M23, eM23⟩ : ∃ z, z = nwA M22 21 ((160 : Int32).toNatClampNeg) := ⟨_, rfl⟩
  obtain ⟨q24, eq24⟩ : ∃ z, z = mN M22 := ⟨_, rfl⟩
  have H := H _ _ eq24 eM23
  refine xt_newI dX11_init_316 ac_I hn rfl hy ?_
  have ho3 : ok M23 x0 13 := by rw [eM23]; exact ok_nwA ho3
  rw [← eM23, ← eq24]
  obtain ⟨M25, eM25⟩ : ∃ z, z = wR M23 x0 47 (some q24) := ⟨_, rfl⟩
  have H := H _ eM25
  refine xt_putR dX11_init_318 (flX11_123 rfl) ft_13_47 rfl ho3.1 ho3.2 ?_
  have ho3 : ok M25 x0 13 := by rw [eM25]; exact ho3
  rw [← eM25]
  refine xt_aload_n (j := 0) dX11_init_321 rfl rfl ?_
  refine xt_sipush (v := 160) dX11_init_322 (by decide) ?_
  obtain ⟨hn, hy, H⟩ := H
  obtain ⟨M26, eM26⟩ : ∃ z, z = nwA M25 21 ((160 : Int32).toNatClampNeg) := ⟨_, rfl⟩
  obtain ⟨q27, eq27⟩ : ∃ z, z = mN M25 := ⟨_, rfl⟩
  have H := H _ _ eq27 eM26
  refine xt_newI dX11_init_325 ac_I hn rfl hy ?_
  have ho3 : ok M26 x0 13 := by rw [eM26]; exact ok_nwA ho3
  rw [← eM26, ← eq27]
  obtain ⟨M28, eM28⟩ : ∃ z, z = wR M26 x0 48 (some q27) := ⟨_, rfl⟩
  have H := H _ eM28
  refine xt_putR dX11_init_327 (flX11_126 rfl) ft_13_48 rfl ho3.1 ho3.2 ?_
  have ho3 : ok M28 x0 13 := by rw [eM28]; exact ho3
  rw [← eM28]
  refine xt_aload_n (j := 0) dX11_init_330 rfl rfl ?_
  refine xt_sipush (v := 160) dX11_init_331 (by decide) ?_
  obtain ⟨hn, hy, H⟩ := H
  obtain ⟨M29, eM29⟩ : ∃ z, z = nwA M28 21 ((160 : Int32).toNatClampNeg) := ⟨_, rfl⟩
  obtain ⟨q30, eq30⟩ : ∃ z, z = mN M28 := ⟨_, rfl⟩
  have H := H _ _ eq30 eM29
  refine xt_newI dX11_init_334 ac_I hn rfl hy ?_
  have ho3 : ok M29 x0 13 := by rw [eM29]; exact ok_nwA ho3
  rw [← eM29, ← eq30]
  obtain ⟨M31, eM31⟩ : ∃ z, z = wR M29 x0 49 (some q30) := ⟨_, rfl⟩
  have H := H _ eM31
  refine xt_putR dX11_init_336 (flX11_129 rfl) ft_13_49 rfl ho3.1 ho3.2 ?_
  have ho3 : ok M31 x0 13 := by rw [eM31]; exact ho3
  rw [← eM31]
  exact xt_sub [0] rfl (VX11_init_339 H)
def DX11_init_167 (h : Nat) (x0 : Nat) (M : Mem) (Q : Option Value → Mem → Prop) : Prop :=
  ¬ (3240 : Int32) < 0 ∧ ((3240 : Int32).toNatClampNeg ≤ 60000000) ∧ ∀ (q2 : Nat) (M1 : Mem), q2 = mN M → M1 = nwA M 23 ((3240 : Int32).toNatClampNeg) →
  ok M1 x0 13 ∧ ∀ M4 : Mem, M4 = wR M1 x0 26 (some q2) →
  ¬ (3240 : Int32) < 0 ∧ ((3240 : Int32).toNatClampNeg ≤ 100000000) ∧ ∀ (q6 : Nat) (M5 : Mem), q6 = mN M4 → M5 = nwA M4 21 ((3240 : Int32).toNatClampNeg) →
  ∀ M7 : Mem, M7 = wR M5 x0 27 (some q6) →
  ¬ (900 : Int32) < 0 ∧ ((900 : Int32).toNatClampNeg ≤ 100000000) ∧ ∀ (q9 : Nat) (M8 : Mem), q9 = mN M7 → M8 = nwA M7 21 ((900 : Int32).toNatClampNeg) →
  ∀ M10 : Mem, M10 = wR M8 x0 28 (some q9) →
  ¬ (900 : Int32) < 0 ∧ ((900 : Int32).toNatClampNeg ≤ 100000000) ∧ ∀ (q12 : Nat) (M11 : Mem), q12 = mN M10 → M11 = nwA M10 21 ((900 : Int32).toNatClampNeg) →
  ∀ M13 : Mem, M13 = wR M11 x0 30 (some q12) →
  ¬ (4 : Int32) < 0 ∧ ((4 : Int32).toNatClampNeg ≤ 100000000) ∧ ∀ (q15 : Nat) (M14 : Mem), q15 = mN M13 → M14 = nwA M13 21 ((4 : Int32).toNatClampNeg) →
  ∀ M16 : Mem, M16 = wR M14 x0 34 (some q15) →
  ¬ (4 : Int32) < 0 ∧ ((4 : Int32).toNatClampNeg ≤ 100000000) ∧ ∀ (q18 : Nat) (M17 : Mem), q18 = mN M16 → M17 = nwA M16 21 ((4 : Int32).toNatClampNeg) →
  ∀ M19 : Mem, M19 = wR M17 x0 35 (some q18) →
  ¬ (4 : Int32) < 0 ∧ ((4 : Int32).toNatClampNeg ≤ 100000000) ∧ ∀ (q21 : Nat) (M20 : Mem), q21 = mN M19 → M20 = nwA M19 21 ((4 : Int32).toNatClampNeg) →
  ∀ M22 : Mem, M22 = wR M20 x0 36 (some q21) →
  ¬ (4 : Int32) < 0 ∧ ((4 : Int32).toNatClampNeg ≤ 100000000) ∧ ∀ (q24 : Nat) (M23 : Mem), q24 = mN M22 → M23 = nwA M22 21 ((4 : Int32).toNatClampNeg) →
  ∀ M25 : Mem, M25 = wR M23 x0 37 (some q24) →
  ¬ (160 : Int32) < 0 ∧ ((160 : Int32).toNatClampNeg ≤ 100000000) ∧ ∀ (q27 : Nat) (M26 : Mem), q27 = mN M25 → M26 = nwA M25 21 ((160 : Int32).toNatClampNeg) →
  ∀ M28 : Mem, M28 = wR M26 x0 38 (some q27) →
  ¬ (160 : Int32) < 0 ∧ ((160 : Int32).toNatClampNeg ≤ 100000000) ∧ ∀ (q30 : Nat) (M29 : Mem), q30 = mN M28 → M29 = nwA M28 21 ((160 : Int32).toNatClampNeg) →
  ∀ M31 : Mem, M31 = wR M29 x0 39 (some q30) →
  DX11_init_249 h x0 M31 Q
set_option maxRecDepth 20000 in
set_option maxHeartbeats 2000000 in
theorem VX11_init_167 {h : Nat} {x0 : Nat} {M : Mem} {Q : Option Value → Mem → Prop} (H : DX11_init_167 h x0 M Q) : T (h + 1) mdX11_init 167 [(0, .ref x0)] [] M Q := by
  unfold DX11_init_167 at H
  refine xt_aload_n (j := 0) dX11_init_167 rfl rfl ?_
  refine xt_sipush (v := 3240) dX11_init_168 (by decide) ?_
  obtain ⟨hn, hy, H⟩ := H
  obtain ⟨M1, eM1⟩ : ∃ z, z = nwA M 23 ((3240 : Int32).toNatClampNeg) := ⟨_, rfl⟩
  obtain ⟨q2, eq2⟩ : ∃ z, z = mN M := ⟨_, rfl⟩
  have H := H _ _ eq2 eM1
  refine xt_newJ dX11_init_171 ac_J hn rfl hy ?_
  rw [← eM1, ← eq2]
  obtain ⟨ho3, H⟩ := H
  obtain ⟨M4, eM4⟩ : ∃ z, z = wR M1 x0 26 (some q2) := ⟨_, rfl⟩
  have H := H _ eM4
  refine xt_putR dX11_init_173 (flX11_72 rfl) ft_13_26 rfl ho3.1 ho3.2 ?_
  have ho3 : ok M4 x0 13 := by rw [eM4]; exact ho3
  rw [← eM4]
  refine xt_aload_n (j := 0) dX11_init_176 rfl rfl ?_
  refine xt_sipush (v := 3240) dX11_init_177 (by decide) ?_
  obtain ⟨hn, hy, H⟩ := H
  obtain ⟨M5, eM5⟩ : ∃ z, z = nwA M4 21 ((3240 : Int32).toNatClampNeg) := ⟨_, rfl⟩
  obtain ⟨q6, eq6⟩ : ∃ z, z = mN M4 := ⟨_, rfl⟩
  have H := H _ _ eq6 eM5
  refine xt_newI dX11_init_180 ac_I hn rfl hy ?_
  have ho3 : ok M5 x0 13 := by rw [eM5]; exact ok_nwA ho3
  rw [← eM5, ← eq6]
  obtain ⟨M7, eM7⟩ : ∃ z, z = wR M5 x0 27 (some q6) := ⟨_, rfl⟩
  have H := H _ eM7
  refine xt_putR dX11_init_182 (flX11_75 rfl) ft_13_27 rfl ho3.1 ho3.2 ?_
  have ho3 : ok M7 x0 13 := by rw [eM7]; exact ho3
  rw [← eM7]
  refine xt_aload_n (j := 0) dX11_init_185 rfl rfl ?_
  refine xt_sipush (v := 900) dX11_init_186 (by decide) ?_
  obtain ⟨hn, hy, H⟩ := H
  obtain ⟨M8, eM8⟩ : ∃ z, z = nwA M7 21 ((900 : Int32).toNatClampNeg) := ⟨_, rfl⟩
  obtain ⟨q9, eq9⟩ : ∃ z, z = mN M7 := ⟨_, rfl⟩
  have H := H _ _ eq9 eM8
  refine xt_newI dX11_init_189 ac_I hn rfl hy ?_
  have ho3 : ok M8 x0 13 := by rw [eM8]; exact ok_nwA ho3
  rw [← eM8, ← eq9]
  obtain ⟨M10, eM10⟩ : ∃ z, z = wR M8 x0 28 (some q9) := ⟨_, rfl⟩
  have H := H _ eM10
  refine xt_putR dX11_init_191 (flX11_78 rfl) ft_13_28 rfl ho3.1 ho3.2 ?_
  have ho3 : ok M10 x0 13 := by rw [eM10]; exact ho3
  rw [← eM10]
  refine xt_aload_n (j := 0) dX11_init_194 rfl rfl ?_
  refine xt_sipush (v := 900) dX11_init_195 (by decide) ?_
  obtain ⟨hn, hy, H⟩ := H
  obtain ⟨M11, eM11⟩ : ∃ z, z = nwA M10 21 ((900 : Int32).toNatClampNeg) := ⟨_, rfl⟩
  obtain ⟨q12, eq12⟩ : ∃ z, z = mN M10 := ⟨_, rfl⟩
  have H := H _ _ eq12 eM11
  refine xt_newI dX11_init_198 ac_I hn rfl hy ?_
  have ho3 : ok M11 x0 13 := by rw [eM11]; exact ok_nwA ho3
  rw [← eM11, ← eq12]
  obtain ⟨M13, eM13⟩ : ∃ z, z = wR M11 x0 30 (some q12) := ⟨_, rfl⟩
  have H := H _ eM13
  refine xt_putR dX11_init_200 (flX11_81 rfl) ft_13_30 rfl ho3.1 ho3.2 ?_
  have ho3 : ok M13 x0 13 := by rw [eM13]; exact ho3
  rw [← eM13]
  refine xt_aload_n (j := 0) dX11_init_203 rfl rfl ?_
  refine xt_iconst (v := 4) dX11_init_204 (by decide) ?_
  obtain ⟨hn, hy, H⟩ := H
  obtain ⟨M14, eM14⟩ : ∃ z, z = nwA M13 21 ((4 : Int32).toNatClampNeg) := ⟨_, rfl⟩
  obtain ⟨q15, eq15⟩ : ∃ z, z = mN M13 := ⟨_, rfl⟩
  have H := H _ _ eq15 eM14
  refine xt_newI dX11_init_205 ac_I hn rfl hy ?_
  have ho3 : ok M14 x0 13 := by rw [eM14]; exact ok_nwA ho3
  rw [← eM14, ← eq15]
  obtain ⟨M16, eM16⟩ : ∃ z, z = wR M14 x0 34 (some q15) := ⟨_, rfl⟩
  have H := H _ eM16
  refine xt_putR dX11_init_207 (flX11_84 rfl) ft_13_34 rfl ho3.1 ho3.2 ?_
  have ho3 : ok M16 x0 13 := by rw [eM16]; exact ho3
  rw [← eM16]
  refine xt_aload_n (j := 0) dX11_init_210 rfl rfl ?_
  refine xt_iconst (v := 4) dX11_init_211 (by decide) ?_
  obtain ⟨hn, hy, H⟩ := H
  obtain ⟨M17, eM17⟩ : ∃ z, z = nwA M16 21 ((4 : Int32).toNatClampNeg) := ⟨_, rfl⟩
  obtain ⟨q18, eq18⟩ : ∃ z, z = mN M16 := ⟨_, rfl⟩
  have H := H _ _ eq18 eM17
  refine xt_newI dX11_init_212 ac_I hn rfl hy ?_
  have ho3 : ok M17 x0 13 := by rw [eM17]; exact ok_nwA ho3
  rw [← eM17, ← eq18]
  obtain ⟨M19, eM19⟩ : ∃ z, z = wR M17 x0 35 (some q18) := ⟨_, rfl⟩
  have H := H _ eM19
  refine xt_putR dX11_init_214 (flX11_87 rfl) ft_13_35 rfl ho3.1 ho3.2 ?_
  have ho3 : ok M19 x0 13 := by rw [eM19]; exact ho3
  rw [← eM19]
  refine xt_aload_n (j := 0) dX11_init_217 rfl rfl ?_
  refine xt_iconst (v := 4) dX11_init_218 (by decide) ?_
  obtain ⟨hn, hy, H⟩ := H
  obtain ⟨M20, eM20⟩ : ∃ z, z = nwA M19 21 ((4 : Int32).toNatClampNeg) := ⟨_, rfl⟩
  obtain ⟨q21, eq21⟩ : ∃ z, z = mN M19 := ⟨_, rfl⟩
  have H := H _ _ eq21 eM20
  refine xt_newI dX11_init_219 ac_I hn rfl hy ?_
  have ho3 : ok M20 x0 13 := by rw [eM20]; exact ok_nwA ho3
  rw [← eM20, ← eq21]
  obtain ⟨M22, eM22⟩ : ∃ z, z = wR M20 x0 36 (some q21) := ⟨_, rfl⟩
  have H := H _ eM22
  refine xt_putR dX11_init_221 (flX11_90 rfl) ft_13_36 rfl ho3.1 ho3.2 ?_
  have ho3 : ok M22 x0 13 := by rw [eM22]; exact ho3
  rw [← eM22]
  refine xt_aload_n (j := 0) dX11_init_224 rfl rfl ?_
  refine xt_iconst (v := 4) dX11_init_225 (by decide) ?_
  obtain ⟨hn, hy, H⟩ := H
  obtain ⟨M23, eM23⟩ : ∃ z, z = nwA M22 21 ((4 : Int32).toNatClampNeg) := ⟨_, rfl⟩
  obtain ⟨q24, eq24⟩ : ∃ z, z = mN M22 := ⟨_, rfl⟩
  have H := H _ _ eq24 eM23
  refine xt_newI dX11_init_226 ac_I hn rfl hy ?_
  have ho3 : ok M23 x0 13 := by rw [eM23]; exact ok_nwA ho3
  rw [← eM23, ← eq24]
  obtain ⟨M25, eM25⟩ : ∃ z, z = wR M23 x0 37 (some q24) := ⟨_, rfl⟩
  have H := H _ eM25
  refine xt_putR dX11_init_228 (flX11_93 rfl) ft_13_37 rfl ho3.1 ho3.2 ?_
  have ho3 : ok M25 x0 13 := by rw [eM25]; exact ho3
  rw [← eM25]
  refine xt_aload_n (j := 0) dX11_init_231 rfl rfl ?_
  refine xt_sipush (v := 160) dX11_init_232 (by decide) ?_
  obtain ⟨hn, hy, H⟩ := H
  obtain ⟨M26, eM26⟩ : ∃ z, z = nwA M25 21 ((160 : Int32).toNatClampNeg) := ⟨_, rfl⟩
  obtain ⟨q27, eq27⟩ : ∃ z, z = mN M25 := ⟨_, rfl⟩
  have H := H _ _ eq27 eM26
  refine xt_newI dX11_init_235 ac_I hn rfl hy ?_
  have ho3 : ok M26 x0 13 := by rw [eM26]; exact ok_nwA ho3
  rw [← eM26, ← eq27]
  obtain ⟨M28, eM28⟩ : ∃ z, z = wR M26 x0 38 (some q27) := ⟨_, rfl⟩
  have H := H _ eM28
  refine xt_putR dX11_init_237 (flX11_96 rfl) ft_13_38 rfl ho3.1 ho3.2 ?_
  have ho3 : ok M28 x0 13 := by rw [eM28]; exact ho3
  rw [← eM28]
  refine xt_aload_n (j := 0) dX11_init_240 rfl rfl ?_
  refine xt_sipush (v := 160) dX11_init_241 (by decide) ?_
  obtain ⟨hn, hy, H⟩ := H
  obtain ⟨M29, eM29⟩ : ∃ z, z = nwA M28 21 ((160 : Int32).toNatClampNeg) := ⟨_, rfl⟩
  obtain ⟨q30, eq30⟩ : ∃ z, z = mN M28 := ⟨_, rfl⟩
  have H := H _ _ eq30 eM29
  refine xt_newI dX11_init_244 ac_I hn rfl hy ?_
  have ho3 : ok M29 x0 13 := by rw [eM29]; exact ok_nwA ho3
  rw [← eM29, ← eq30]
  obtain ⟨M31, eM31⟩ : ∃ z, z = wR M29 x0 39 (some q30) := ⟨_, rfl⟩
  have H := H _ eM31
  refine xt_putR dX11_init_246 (flX11_99 rfl) ft_13_39 rfl ho3.1 ho3.2 ?_
  have ho3 : ok M31 x0 13 := by rw [eM31]; exact ho3
  rw [← eM31]
  exact xt_sub [0] rfl (VX11_init_249 H)
def DX11_init_85 (h : Nat) (x0 : Nat) (M : Mem) (Q : Option Value → Mem → Prop) : Prop :=
  ¬ (64 : Int32) < 0 ∧ ((64 : Int32).toNatClampNeg ≤ 100000000) ∧ ∀ (q2 : Nat) (M1 : Mem), q2 = mN M → M1 = nwA M 22 ((64 : Int32).toNatClampNeg) →
  ok M1 x0 13 ∧ ∀ M4 : Mem, M4 = wR M1 x0 14 (some q2) →
  ¬ (16 : Int32) < 0 ∧ ((16 : Int32).toNatClampNeg ≤ 100000000) ∧ ∀ (q6 : Nat) (M5 : Mem), q6 = mN M4 → M5 = nwA M4 21 ((16 : Int32).toNatClampNeg) →
  ∀ M7 : Mem, M7 = wR M5 x0 15 (some q6) →
  ¬ (24 : Int32) < 0 ∧ ((24 : Int32).toNatClampNeg ≤ 60000000) ∧ ∀ (q9 : Nat) (M8 : Mem), q9 = mN M7 → M8 = nwA M7 23 ((24 : Int32).toNatClampNeg) →
  ∀ M10 : Mem, M10 = wR M8 x0 16 (some q9) →
  ¬ (24 : Int32) < 0 ∧ ((24 : Int32).toNatClampNeg ≤ 60000000) ∧ ∀ (q12 : Nat) (M11 : Mem), q12 = mN M10 → M11 = nwA M10 23 ((24 : Int32).toNatClampNeg) →
  ∀ M13 : Mem, M13 = wR M11 x0 17 (some q12) →
  ¬ (4 : Int32) < 0 ∧ ((4 : Int32).toNatClampNeg ≤ 100000000) ∧ ∀ (q15 : Nat) (M14 : Mem), q15 = mN M13 → M14 = nwA M13 21 ((4 : Int32).toNatClampNeg) →
  ∀ M16 : Mem, M16 = wR M14 x0 20 (some q15) →
  ¬ (1640 : Int32) < 0 ∧ ((1640 : Int32).toNatClampNeg ≤ 100000000) ∧ ∀ (q18 : Nat) (M17 : Mem), q18 = mN M16 → M17 = nwA M16 21 ((1640 : Int32).toNatClampNeg) →
  ∀ M19 : Mem, M19 = wR M17 x0 21 (some q18) →
  ¬ (1640 : Int32) < 0 ∧ ((1640 : Int32).toNatClampNeg ≤ 100000000) ∧ ∀ (q21 : Nat) (M20 : Mem), q21 = mN M19 → M20 = nwA M19 21 ((1640 : Int32).toNatClampNeg) →
  ∀ M22 : Mem, M22 = wR M20 x0 22 (some q21) →
  ¬ (1640 : Int32) < 0 ∧ ((1640 : Int32).toNatClampNeg ≤ 100000000) ∧ ∀ (q24 : Nat) (M23 : Mem), q24 = mN M22 → M23 = nwA M22 21 ((1640 : Int32).toNatClampNeg) →
  ∀ M25 : Mem, M25 = wR M23 x0 23 (some q24) →
  ¬ (4 : Int32) < 0 ∧ ((4 : Int32).toNatClampNeg ≤ 100000000) ∧ ∀ (q27 : Nat) (M26 : Mem), q27 = mN M25 → M26 = nwA M25 21 ((4 : Int32).toNatClampNeg) →
  ∀ M28 : Mem, M28 = wR M26 x0 24 (some q27) →
  ¬ (3240 : Int32) < 0 ∧ ((3240 : Int32).toNatClampNeg ≤ 100000000) ∧ ∀ (q30 : Nat) (M29 : Mem), q30 = mN M28 → M29 = nwA M28 21 ((3240 : Int32).toNatClampNeg) →
  ∀ M31 : Mem, M31 = wR M29 x0 25 (some q30) →
  DX11_init_167 h x0 M31 Q
set_option maxRecDepth 20000 in
set_option maxHeartbeats 2000000 in
theorem VX11_init_85 {h : Nat} {x0 : Nat} {M : Mem} {Q : Option Value → Mem → Prop} (H : DX11_init_85 h x0 M Q) : T (h + 1) mdX11_init 85 [(0, .ref x0)] [] M Q := by
  unfold DX11_init_85 at H
  refine xt_aload_n (j := 0) dX11_init_85 rfl rfl ?_
  refine xt_bipush (v := 64) dX11_init_86 (by decide) ?_
  obtain ⟨hn, hy, H⟩ := H
  obtain ⟨M1, eM1⟩ : ∃ z, z = nwA M 22 ((64 : Int32).toNatClampNeg) := ⟨_, rfl⟩
  obtain ⟨q2, eq2⟩ : ∃ z, z = mN M := ⟨_, rfl⟩
  have H := H _ _ eq2 eM1
  refine xt_newZ dX11_init_88 ac_Z hn rfl hy ?_
  rw [← eM1, ← eq2]
  obtain ⟨ho3, H⟩ := H
  obtain ⟨M4, eM4⟩ : ∃ z, z = wR M1 x0 14 (some q2) := ⟨_, rfl⟩
  have H := H _ eM4
  refine xt_putR dX11_init_90 (flX11_41 rfl) ft_13_14 rfl ho3.1 ho3.2 ?_
  have ho3 : ok M4 x0 13 := by rw [eM4]; exact ho3
  rw [← eM4]
  refine xt_aload_n (j := 0) dX11_init_93 rfl rfl ?_
  refine xt_bipush (v := 16) dX11_init_94 (by decide) ?_
  obtain ⟨hn, hy, H⟩ := H
  obtain ⟨M5, eM5⟩ : ∃ z, z = nwA M4 21 ((16 : Int32).toNatClampNeg) := ⟨_, rfl⟩
  obtain ⟨q6, eq6⟩ : ∃ z, z = mN M4 := ⟨_, rfl⟩
  have H := H _ _ eq6 eM5
  refine xt_newI dX11_init_96 ac_I hn rfl hy ?_
  have ho3 : ok M5 x0 13 := by rw [eM5]; exact ok_nwA ho3
  rw [← eM5, ← eq6]
  obtain ⟨M7, eM7⟩ : ∃ z, z = wR M5 x0 15 (some q6) := ⟨_, rfl⟩
  have H := H _ eM7
  refine xt_putR dX11_init_98 (flX11_45 rfl) ft_13_15 rfl ho3.1 ho3.2 ?_
  have ho3 : ok M7 x0 13 := by rw [eM7]; exact ho3
  rw [← eM7]
  refine xt_aload_n (j := 0) dX11_init_101 rfl rfl ?_
  refine xt_bipush (v := 24) dX11_init_102 (by decide) ?_
  obtain ⟨hn, hy, H⟩ := H
  obtain ⟨M8, eM8⟩ : ∃ z, z = nwA M7 23 ((24 : Int32).toNatClampNeg) := ⟨_, rfl⟩
  obtain ⟨q9, eq9⟩ : ∃ z, z = mN M7 := ⟨_, rfl⟩
  have H := H _ _ eq9 eM8
  refine xt_newJ dX11_init_104 ac_J hn rfl hy ?_
  have ho3 : ok M8 x0 13 := by rw [eM8]; exact ok_nwA ho3
  rw [← eM8, ← eq9]
  obtain ⟨M10, eM10⟩ : ∃ z, z = wR M8 x0 16 (some q9) := ⟨_, rfl⟩
  have H := H _ eM10
  refine xt_putR dX11_init_106 (flX11_48 rfl) ft_13_16 rfl ho3.1 ho3.2 ?_
  have ho3 : ok M10 x0 13 := by rw [eM10]; exact ho3
  rw [← eM10]
  refine xt_aload_n (j := 0) dX11_init_109 rfl rfl ?_
  refine xt_bipush (v := 24) dX11_init_110 (by decide) ?_
  obtain ⟨hn, hy, H⟩ := H
  obtain ⟨M11, eM11⟩ : ∃ z, z = nwA M10 23 ((24 : Int32).toNatClampNeg) := ⟨_, rfl⟩
  obtain ⟨q12, eq12⟩ : ∃ z, z = mN M10 := ⟨_, rfl⟩
  have H := H _ _ eq12 eM11
  refine xt_newJ dX11_init_112 ac_J hn rfl hy ?_
  have ho3 : ok M11 x0 13 := by rw [eM11]; exact ok_nwA ho3
  rw [← eM11, ← eq12]
  obtain ⟨M13, eM13⟩ : ∃ z, z = wR M11 x0 17 (some q12) := ⟨_, rfl⟩
  have H := H _ eM13
  refine xt_putR dX11_init_114 (flX11_51 rfl) ft_13_17 rfl ho3.1 ho3.2 ?_
  have ho3 : ok M13 x0 13 := by rw [eM13]; exact ho3
  rw [← eM13]
  refine xt_aload_n (j := 0) dX11_init_117 rfl rfl ?_
  refine xt_iconst (v := 4) dX11_init_118 (by decide) ?_
  obtain ⟨hn, hy, H⟩ := H
  obtain ⟨M14, eM14⟩ : ∃ z, z = nwA M13 21 ((4 : Int32).toNatClampNeg) := ⟨_, rfl⟩
  obtain ⟨q15, eq15⟩ : ∃ z, z = mN M13 := ⟨_, rfl⟩
  have H := H _ _ eq15 eM14
  refine xt_newI dX11_init_119 ac_I hn rfl hy ?_
  have ho3 : ok M14 x0 13 := by rw [eM14]; exact ok_nwA ho3
  rw [← eM14, ← eq15]
  obtain ⟨M16, eM16⟩ : ∃ z, z = wR M14 x0 20 (some q15) := ⟨_, rfl⟩
  have H := H _ eM16
  refine xt_putR dX11_init_121 (flX11_54 rfl) ft_13_20 rfl ho3.1 ho3.2 ?_
  have ho3 : ok M16 x0 13 := by rw [eM16]; exact ho3
  rw [← eM16]
  refine xt_aload_n (j := 0) dX11_init_124 rfl rfl ?_
  refine xt_sipush (v := 1640) dX11_init_125 (by decide) ?_
  obtain ⟨hn, hy, H⟩ := H
  obtain ⟨M17, eM17⟩ : ∃ z, z = nwA M16 21 ((1640 : Int32).toNatClampNeg) := ⟨_, rfl⟩
  obtain ⟨q18, eq18⟩ : ∃ z, z = mN M16 := ⟨_, rfl⟩
  have H := H _ _ eq18 eM17
  refine xt_newI dX11_init_128 ac_I hn rfl hy ?_
  have ho3 : ok M17 x0 13 := by rw [eM17]; exact ok_nwA ho3
  rw [← eM17, ← eq18]
  obtain ⟨M19, eM19⟩ : ∃ z, z = wR M17 x0 21 (some q18) := ⟨_, rfl⟩
  have H := H _ eM19
  refine xt_putR dX11_init_130 (flX11_57 rfl) ft_13_21 rfl ho3.1 ho3.2 ?_
  have ho3 : ok M19 x0 13 := by rw [eM19]; exact ho3
  rw [← eM19]
  refine xt_aload_n (j := 0) dX11_init_133 rfl rfl ?_
  refine xt_sipush (v := 1640) dX11_init_134 (by decide) ?_
  obtain ⟨hn, hy, H⟩ := H
  obtain ⟨M20, eM20⟩ : ∃ z, z = nwA M19 21 ((1640 : Int32).toNatClampNeg) := ⟨_, rfl⟩
  obtain ⟨q21, eq21⟩ : ∃ z, z = mN M19 := ⟨_, rfl⟩
  have H := H _ _ eq21 eM20
  refine xt_newI dX11_init_137 ac_I hn rfl hy ?_
  have ho3 : ok M20 x0 13 := by rw [eM20]; exact ok_nwA ho3
  rw [← eM20, ← eq21]
  obtain ⟨M22, eM22⟩ : ∃ z, z = wR M20 x0 22 (some q21) := ⟨_, rfl⟩
  have H := H _ eM22
  refine xt_putR dX11_init_139 (flX11_60 rfl) ft_13_22 rfl ho3.1 ho3.2 ?_
  have ho3 : ok M22 x0 13 := by rw [eM22]; exact ho3
  rw [← eM22]
  refine xt_aload_n (j := 0) dX11_init_142 rfl rfl ?_
  refine xt_sipush (v := 1640) dX11_init_143 (by decide) ?_
  obtain ⟨hn, hy, H⟩ := H
  obtain ⟨M23, eM23⟩ : ∃ z, z = nwA M22 21 ((1640 : Int32).toNatClampNeg) := ⟨_, rfl⟩
  obtain ⟨q24, eq24⟩ : ∃ z, z = mN M22 := ⟨_, rfl⟩
  have H := H _ _ eq24 eM23
  refine xt_newI dX11_init_146 ac_I hn rfl hy ?_
  have ho3 : ok M23 x0 13 := by rw [eM23]; exact ok_nwA ho3
  rw [← eM23, ← eq24]
  obtain ⟨M25, eM25⟩ : ∃ z, z = wR M23 x0 23 (some q24) := ⟨_, rfl⟩
  have H := H _ eM25
  refine xt_putR dX11_init_148 (flX11_63 rfl) ft_13_23 rfl ho3.1 ho3.2 ?_
  have ho3 : ok M25 x0 13 := by rw [eM25]; exact ho3
  rw [← eM25]
  refine xt_aload_n (j := 0) dX11_init_151 rfl rfl ?_
  refine xt_iconst (v := 4) dX11_init_152 (by decide) ?_
  obtain ⟨hn, hy, H⟩ := H
  obtain ⟨M26, eM26⟩ : ∃ z, z = nwA M25 21 ((4 : Int32).toNatClampNeg) := ⟨_, rfl⟩
  obtain ⟨q27, eq27⟩ : ∃ z, z = mN M25 := ⟨_, rfl⟩
  have H := H _ _ eq27 eM26
  refine xt_newI dX11_init_153 ac_I hn rfl hy ?_
  have ho3 : ok M26 x0 13 := by rw [eM26]; exact ok_nwA ho3
  rw [← eM26, ← eq27]
  obtain ⟨M28, eM28⟩ : ∃ z, z = wR M26 x0 24 (some q27) := ⟨_, rfl⟩
  have H := H _ eM28
  refine xt_putR dX11_init_155 (flX11_66 rfl) ft_13_24 rfl ho3.1 ho3.2 ?_
  have ho3 : ok M28 x0 13 := by rw [eM28]; exact ho3
  rw [← eM28]
  refine xt_aload_n (j := 0) dX11_init_158 rfl rfl ?_
  refine xt_sipush (v := 3240) dX11_init_159 (by decide) ?_
  obtain ⟨hn, hy, H⟩ := H
  obtain ⟨M29, eM29⟩ : ∃ z, z = nwA M28 21 ((3240 : Int32).toNatClampNeg) := ⟨_, rfl⟩
  obtain ⟨q30, eq30⟩ : ∃ z, z = mN M28 := ⟨_, rfl⟩
  have H := H _ _ eq30 eM29
  refine xt_newI dX11_init_162 ac_I hn rfl hy ?_
  have ho3 : ok M29 x0 13 := by rw [eM29]; exact ok_nwA ho3
  rw [← eM29, ← eq30]
  obtain ⟨M31, eM31⟩ : ∃ z, z = wR M29 x0 25 (some q30) := ⟨_, rfl⟩
  have H := H _ eM31
  refine xt_putR dX11_init_164 (flX11_69 rfl) ft_13_25 rfl ho3.1 ho3.2 ?_
  have ho3 : ok M31 x0 13 := by rw [eM31]; exact ho3
  rw [← eM31]
  exact xt_sub [0] rfl (VX11_init_167 H)
def DX11_init_0 (h : Nat) (x0 : Nat) (M : Mem) (Q : Option Value → Mem → Prop) : Prop :=
  ¬ (800 : Int32) < 0 ∧ ((800 : Int32).toNatClampNeg ≤ 100000000) ∧ ∀ (q2 : Nat) (M1 : Mem), q2 = mN M → M1 = nwA M 21 ((800 : Int32).toNatClampNeg) →
  ok M1 x0 13 ∧ ∀ M4 : Mem, M4 = wR M1 x0 0 (some q2) →
  ¬ (802 : Int32) < 0 ∧ ((802 : Int32).toNatClampNeg ≤ 100000000) ∧ ∀ (q6 : Nat) (M5 : Mem), q6 = mN M4 → M5 = nwA M4 21 ((802 : Int32).toNatClampNeg) →
  ∀ M7 : Mem, M7 = wR M5 x0 2 (some q6) →
  ¬ (802 : Int32) < 0 ∧ ((802 : Int32).toNatClampNeg ≤ 100000000) ∧ ∀ (q9 : Nat) (M8 : Mem), q9 = mN M7 → M8 = nwA M7 21 ((802 : Int32).toNatClampNeg) →
  ∀ M10 : Mem, M10 = wR M8 x0 3 (some q9) →
  ¬ (802 : Int32) < 0 ∧ ((802 : Int32).toNatClampNeg ≤ 60000000) ∧ ∀ (q12 : Nat) (M11 : Mem), q12 = mN M10 → M11 = nwA M10 23 ((802 : Int32).toNatClampNeg) →
  ∀ M13 : Mem, M13 = wR M11 x0 4 (some q12) →
  ¬ (4 : Int32) < 0 ∧ ((4 : Int32).toNatClampNeg ≤ 100000000) ∧ ∀ (q15 : Nat) (M14 : Mem), q15 = mN M13 → M14 = nwA M13 21 ((4 : Int32).toNatClampNeg) →
  ∀ M16 : Mem, M16 = wR M14 x0 8 (some q15) →
  ¬ (4 : Int32) < 0 ∧ ((4 : Int32).toNatClampNeg ≤ 100000000) ∧ ∀ (q18 : Nat) (M17 : Mem), q18 = mN M16 → M17 = nwA M16 21 ((4 : Int32).toNatClampNeg) →
  ∀ M19 : Mem, M19 = wR M17 x0 9 (some q18) →
  ¬ (4 : Int32) < 0 ∧ ((4 : Int32).toNatClampNeg ≤ 100000000) ∧ ∀ (q21 : Nat) (M20 : Mem), q21 = mN M19 → M20 = nwA M19 21 ((4 : Int32).toNatClampNeg) →
  ∀ M22 : Mem, M22 = wR M20 x0 10 (some q21) →
  ¬ (64 : Int32) < 0 ∧ ((64 : Int32).toNatClampNeg ≤ 60000000) ∧ ∀ (q24 : Nat) (M23 : Mem), q24 = mN M22 → M23 = nwA M22 23 ((64 : Int32).toNatClampNeg) →
  ∀ M25 : Mem, M25 = wR M23 x0 11 (some q24) →
  ¬ (64 : Int32) < 0 ∧ ((64 : Int32).toNatClampNeg ≤ 100000000) ∧ ∀ (q27 : Nat) (M26 : Mem), q27 = mN M25 → M26 = nwA M25 21 ((64 : Int32).toNatClampNeg) →
  ∀ M28 : Mem, M28 = wR M26 x0 12 (some q27) →
  ¬ (64 : Int32) < 0 ∧ ((64 : Int32).toNatClampNeg ≤ 100000000) ∧ ∀ (q30 : Nat) (M29 : Mem), q30 = mN M28 → M29 = nwA M28 21 ((64 : Int32).toNatClampNeg) →
  ∀ M31 : Mem, M31 = wR M29 x0 13 (some q30) →
  DX11_init_85 h x0 M31 Q
set_option maxRecDepth 20000 in
set_option maxHeartbeats 2000000 in
theorem VX11_init_0 {h : Nat} {x0 : Nat} {M : Mem} {Q : Option Value → Mem → Prop} (H : DX11_init_0 h x0 M Q) : T (h + 1) mdX11_init 0 [(0, .ref x0)] [] M Q := by
  unfold DX11_init_0 at H
  refine xt_aload_n (j := 0) dX11_init_0 rfl rfl ?_
  refine xt_objInit dX11_init_1 (oiX11_1 rfl) (by decide) (Nat.succ_le_succ (Nat.zero_le _)) ?_
  refine xt_aload_n (j := 0) dX11_init_4 rfl rfl ?_
  refine xt_sipush (v := 800) dX11_init_5 (by decide) ?_
  obtain ⟨hn, hy, H⟩ := H
  obtain ⟨M1, eM1⟩ : ∃ z, z = nwA M 21 ((800 : Int32).toNatClampNeg) := ⟨_, rfl⟩
  obtain ⟨q2, eq2⟩ : ∃ z, z = mN M := ⟨_, rfl⟩
  have H := H _ _ eq2 eM1
  refine xt_newI dX11_init_8 ac_I hn rfl hy ?_
  rw [← eM1, ← eq2]
  obtain ⟨ho3, H⟩ := H
  obtain ⟨M4, eM4⟩ : ∃ z, z = wR M1 x0 0 (some q2) := ⟨_, rfl⟩
  have H := H _ eM4
  refine xt_putR dX11_init_10 (flX11_7 rfl) ft_13_0 rfl ho3.1 ho3.2 ?_
  have ho3 : ok M4 x0 13 := by rw [eM4]; exact ho3
  rw [← eM4]
  refine xt_aload_n (j := 0) dX11_init_13 rfl rfl ?_
  refine xt_sipush (v := 802) dX11_init_14 (by decide) ?_
  obtain ⟨hn, hy, H⟩ := H
  obtain ⟨M5, eM5⟩ : ∃ z, z = nwA M4 21 ((802 : Int32).toNatClampNeg) := ⟨_, rfl⟩
  obtain ⟨q6, eq6⟩ : ∃ z, z = mN M4 := ⟨_, rfl⟩
  have H := H _ _ eq6 eM5
  refine xt_newI dX11_init_17 ac_I hn rfl hy ?_
  have ho3 : ok M5 x0 13 := by rw [eM5]; exact ok_nwA ho3
  rw [← eM5, ← eq6]
  obtain ⟨M7, eM7⟩ : ∃ z, z = wR M5 x0 2 (some q6) := ⟨_, rfl⟩
  have H := H _ eM7
  refine xt_putR dX11_init_19 (flX11_13 rfl) ft_13_2 rfl ho3.1 ho3.2 ?_
  have ho3 : ok M7 x0 13 := by rw [eM7]; exact ho3
  rw [← eM7]
  refine xt_aload_n (j := 0) dX11_init_22 rfl rfl ?_
  refine xt_sipush (v := 802) dX11_init_23 (by decide) ?_
  obtain ⟨hn, hy, H⟩ := H
  obtain ⟨M8, eM8⟩ : ∃ z, z = nwA M7 21 ((802 : Int32).toNatClampNeg) := ⟨_, rfl⟩
  obtain ⟨q9, eq9⟩ : ∃ z, z = mN M7 := ⟨_, rfl⟩
  have H := H _ _ eq9 eM8
  refine xt_newI dX11_init_26 ac_I hn rfl hy ?_
  have ho3 : ok M8 x0 13 := by rw [eM8]; exact ok_nwA ho3
  rw [← eM8, ← eq9]
  obtain ⟨M10, eM10⟩ : ∃ z, z = wR M8 x0 3 (some q9) := ⟨_, rfl⟩
  have H := H _ eM10
  refine xt_putR dX11_init_28 (flX11_16 rfl) ft_13_3 rfl ho3.1 ho3.2 ?_
  have ho3 : ok M10 x0 13 := by rw [eM10]; exact ho3
  rw [← eM10]
  refine xt_aload_n (j := 0) dX11_init_31 rfl rfl ?_
  refine xt_sipush (v := 802) dX11_init_32 (by decide) ?_
  obtain ⟨hn, hy, H⟩ := H
  obtain ⟨M11, eM11⟩ : ∃ z, z = nwA M10 23 ((802 : Int32).toNatClampNeg) := ⟨_, rfl⟩
  obtain ⟨q12, eq12⟩ : ∃ z, z = mN M10 := ⟨_, rfl⟩
  have H := H _ _ eq12 eM11
  refine xt_newJ dX11_init_35 ac_J hn rfl hy ?_
  have ho3 : ok M11 x0 13 := by rw [eM11]; exact ok_nwA ho3
  rw [← eM11, ← eq12]
  obtain ⟨M13, eM13⟩ : ∃ z, z = wR M11 x0 4 (some q12) := ⟨_, rfl⟩
  have H := H _ eM13
  refine xt_putR dX11_init_37 (flX11_19 rfl) ft_13_4 rfl ho3.1 ho3.2 ?_
  have ho3 : ok M13 x0 13 := by rw [eM13]; exact ho3
  rw [← eM13]
  refine xt_aload_n (j := 0) dX11_init_40 rfl rfl ?_
  refine xt_iconst (v := 4) dX11_init_41 (by decide) ?_
  obtain ⟨hn, hy, H⟩ := H
  obtain ⟨M14, eM14⟩ : ∃ z, z = nwA M13 21 ((4 : Int32).toNatClampNeg) := ⟨_, rfl⟩
  obtain ⟨q15, eq15⟩ : ∃ z, z = mN M13 := ⟨_, rfl⟩
  have H := H _ _ eq15 eM14
  refine xt_newI dX11_init_42 ac_I hn rfl hy ?_
  have ho3 : ok M14 x0 13 := by rw [eM14]; exact ok_nwA ho3
  rw [← eM14, ← eq15]
  obtain ⟨M16, eM16⟩ : ∃ z, z = wR M14 x0 8 (some q15) := ⟨_, rfl⟩
  have H := H _ eM16
  refine xt_putR dX11_init_44 (flX11_23 rfl) ft_13_8 rfl ho3.1 ho3.2 ?_
  have ho3 : ok M16 x0 13 := by rw [eM16]; exact ho3
  rw [← eM16]
  refine xt_aload_n (j := 0) dX11_init_47 rfl rfl ?_
  refine xt_iconst (v := 4) dX11_init_48 (by decide) ?_
  obtain ⟨hn, hy, H⟩ := H
  obtain ⟨M17, eM17⟩ : ∃ z, z = nwA M16 21 ((4 : Int32).toNatClampNeg) := ⟨_, rfl⟩
  obtain ⟨q18, eq18⟩ : ∃ z, z = mN M16 := ⟨_, rfl⟩
  have H := H _ _ eq18 eM17
  refine xt_newI dX11_init_49 ac_I hn rfl hy ?_
  have ho3 : ok M17 x0 13 := by rw [eM17]; exact ok_nwA ho3
  rw [← eM17, ← eq18]
  obtain ⟨M19, eM19⟩ : ∃ z, z = wR M17 x0 9 (some q18) := ⟨_, rfl⟩
  have H := H _ eM19
  refine xt_putR dX11_init_51 (flX11_26 rfl) ft_13_9 rfl ho3.1 ho3.2 ?_
  have ho3 : ok M19 x0 13 := by rw [eM19]; exact ho3
  rw [← eM19]
  refine xt_aload_n (j := 0) dX11_init_54 rfl rfl ?_
  refine xt_iconst (v := 4) dX11_init_55 (by decide) ?_
  obtain ⟨hn, hy, H⟩ := H
  obtain ⟨M20, eM20⟩ : ∃ z, z = nwA M19 21 ((4 : Int32).toNatClampNeg) := ⟨_, rfl⟩
  obtain ⟨q21, eq21⟩ : ∃ z, z = mN M19 := ⟨_, rfl⟩
  have H := H _ _ eq21 eM20
  refine xt_newI dX11_init_56 ac_I hn rfl hy ?_
  have ho3 : ok M20 x0 13 := by rw [eM20]; exact ok_nwA ho3
  rw [← eM20, ← eq21]
  obtain ⟨M22, eM22⟩ : ∃ z, z = wR M20 x0 10 (some q21) := ⟨_, rfl⟩
  have H := H _ eM22
  refine xt_putR dX11_init_58 (flX11_29 rfl) ft_13_10 rfl ho3.1 ho3.2 ?_
  have ho3 : ok M22 x0 13 := by rw [eM22]; exact ho3
  rw [← eM22]
  refine xt_aload_n (j := 0) dX11_init_61 rfl rfl ?_
  refine xt_bipush (v := 64) dX11_init_62 (by decide) ?_
  obtain ⟨hn, hy, H⟩ := H
  obtain ⟨M23, eM23⟩ : ∃ z, z = nwA M22 23 ((64 : Int32).toNatClampNeg) := ⟨_, rfl⟩
  obtain ⟨q24, eq24⟩ : ∃ z, z = mN M22 := ⟨_, rfl⟩
  have H := H _ _ eq24 eM23
  refine xt_newJ dX11_init_64 ac_J hn rfl hy ?_
  have ho3 : ok M23 x0 13 := by rw [eM23]; exact ok_nwA ho3
  rw [← eM23, ← eq24]
  obtain ⟨M25, eM25⟩ : ∃ z, z = wR M23 x0 11 (some q24) := ⟨_, rfl⟩
  have H := H _ eM25
  refine xt_putR dX11_init_66 (flX11_32 rfl) ft_13_11 rfl ho3.1 ho3.2 ?_
  have ho3 : ok M25 x0 13 := by rw [eM25]; exact ho3
  rw [← eM25]
  refine xt_aload_n (j := 0) dX11_init_69 rfl rfl ?_
  refine xt_bipush (v := 64) dX11_init_70 (by decide) ?_
  obtain ⟨hn, hy, H⟩ := H
  obtain ⟨M26, eM26⟩ : ∃ z, z = nwA M25 21 ((64 : Int32).toNatClampNeg) := ⟨_, rfl⟩
  obtain ⟨q27, eq27⟩ : ∃ z, z = mN M25 := ⟨_, rfl⟩
  have H := H _ _ eq27 eM26
  refine xt_newI dX11_init_72 ac_I hn rfl hy ?_
  have ho3 : ok M26 x0 13 := by rw [eM26]; exact ok_nwA ho3
  rw [← eM26, ← eq27]
  obtain ⟨M28, eM28⟩ : ∃ z, z = wR M26 x0 12 (some q27) := ⟨_, rfl⟩
  have H := H _ eM28
  refine xt_putR dX11_init_74 (flX11_35 rfl) ft_13_12 rfl ho3.1 ho3.2 ?_
  have ho3 : ok M28 x0 13 := by rw [eM28]; exact ho3
  rw [← eM28]
  refine xt_aload_n (j := 0) dX11_init_77 rfl rfl ?_
  refine xt_bipush (v := 64) dX11_init_78 (by decide) ?_
  obtain ⟨hn, hy, H⟩ := H
  obtain ⟨M29, eM29⟩ : ∃ z, z = nwA M28 21 ((64 : Int32).toNatClampNeg) := ⟨_, rfl⟩
  obtain ⟨q30, eq30⟩ : ∃ z, z = mN M28 := ⟨_, rfl⟩
  have H := H _ _ eq30 eM29
  refine xt_newI dX11_init_80 ac_I hn rfl hy ?_
  have ho3 : ok M29 x0 13 := by rw [eM29]; exact ok_nwA ho3
  rw [← eM29, ← eq30]
  obtain ⟨M31, eM31⟩ : ∃ z, z = wR M29 x0 13 (some q30) := ⟨_, rfl⟩
  have H := H _ eM31
  refine xt_putR dX11_init_82 (flX11_38 rfl) ft_13_13 rfl ho3.1 ho3.2 ?_
  have ho3 : ok M31 x0 13 := by rw [eM31]; exact ho3
  rw [← eM31]
  exact xt_sub [0] rfl (VX11_init_85 H)
theorem KX11_init {h : Nat} {x0 : Nat} {M : Mem} {Q : Option Value → Mem → Prop} (H : DX11_init_0 h x0 M Q) : E (h + 1) mdX11_init [.ref x0] M Q := E.of (by decide) (Nat.le_of_ble_eq_true rfl) (fun _ _ _ => trivial) (VX11_init_0 H)
def DX11_in_18 (h : Nat) (s0 : Int32) (M : Mem) (Q : Option Value → Mem → Prop) : Prop :=
  (s0 = 0 ∨ s0 = 1) ∧ Q (some (.int s0)) M
set_option maxRecDepth 20000 in
set_option maxHeartbeats 2000000 in
theorem VX11_in_18 {h : Nat} {s0 : Int32} {M : Mem} {Q : Option Value → Mem → Prop} (H : DX11_in_18 h s0 M Q) : T (h + 1) mdX11_in 18 [] [.int s0] M Q := by
  unfold DX11_in_18 at H
  exact xt_zreturn dX11_in_18 rfl H.1 H.2
def DX11_in_17 (h : Nat) (M : Mem) (Q : Option Value → Mem → Prop) : Prop :=
  DX11_in_18 h 0 M Q
set_option maxRecDepth 20000 in
set_option maxHeartbeats 2000000 in
theorem VX11_in_17 {h : Nat} {M : Mem} {Q : Option Value → Mem → Prop} (H : DX11_in_17 h  M Q) : T (h + 1) mdX11_in 17 [] [] M Q := by
  unfold DX11_in_17 at H
  refine xt_iconst (v := 0) dX11_in_17 (by decide) ?_
  exact xt_sub [] rfl (VX11_in_18 H)
def DX11_in_0 (h : Nat) (x0 : Int64) (x2 : Int64) (x4 : Int64) (M : Mem) (Q : Option Value → Mem → Prop) : Prop :=
  ((lg_cmp x0 x2) < 0 → DX11_in_17 h  M Q) ∧
  (¬ ((lg_cmp x0 x2) < 0) → (0 < (lg_cmp x0 x4) → DX11_in_17 h  M Q) ∧
  (¬ (0 < (lg_cmp x0 x4)) → DX11_in_18 h 1 M Q))
set_option maxRecDepth 20000 in
set_option maxHeartbeats 2000000 in
theorem VX11_in_0 {h : Nat} {x0 : Int64} {x2 : Int64} {x4 : Int64} {M : Mem} {Q : Option Value → Mem → Prop} (H : DX11_in_0 h x0 x2 x4 M Q) : T (h + 1) mdX11_in 0 [(0, .long x0), (2, .long x2), (4, .long x4)] [] M Q := by
  unfold DX11_in_0 at H
  refine xt_lload_n (j := 0) dX11_in_0 rfl rfl ?_
  refine xt_lload_n (j := 1) dX11_in_1 rfl rfl ?_
  refine xt_lcmp dX11_in_2 ?_
  refine xt_if_lt (tgt := 17) dX11_in_3 (by decide) (fun hc => ?_) (fun hc => ?_)
  · have H := H.1 hc
    exact xt_sub [] rfl (VX11_in_17 H)
  · have H := H.2 hc
    refine xt_lload_n (j := 0) dX11_in_6 rfl rfl ?_
    refine xt_lload (j := 2) dX11_in_7 rfl ?_
    refine xt_lcmp dX11_in_9 ?_
    refine xt_if_gt (tgt := 17) dX11_in_10 (by decide) (fun hc => ?_) (fun hc => ?_)
    · have H := H.1 hc
      exact xt_sub [] rfl (VX11_in_17 H)
    · have H := H.2 hc
      refine xt_iconst (v := 1) dX11_in_13 (by decide) ?_
      refine xt_goto (tgt := 18) dX11_in_14 (by decide) ?_
      exact xt_sub [] rfl (VX11_in_18 H)
theorem KX11_in {h : Nat} {x0 : Int64} {x2 : Int64} {x4 : Int64} {M : Mem} {Q : Option Value → Mem → Prop} (H : DX11_in_0 h x0 x2 x4 M Q) : E (h + 1) mdX11_in [.long x0, .long x2, .long x4] M Q := E.of (by decide) (Nat.le_of_ble_eq_true rfl) (fun _ _ _ => trivial) (VX11_in_0 H)
def DX11_put_3 (h : Nat) (x0 : Nat) (x1 : Int32) (x2 : Int32) (M : Mem) (Q : Option Value → Mem → Prop) : Prop :=
  (x2 < 0 → Q none M) ∧
  (¬ (x2 < 0) → ok M x0 13 ∧ ∃ b2 : Nat, mR M x0 0 = some b2 ∧ ok M b2 21 ∧ vp_in (mI M x0 1) (mL M b2) ∧ ∀ M4 : Mem, M4 = wAI M b2 (mI M x0 1 : Int32).toNatClampNeg ((x1 >>> (x2 &&& 31)) &&& 255) →
  ∀ M5 : Mem, M5 = wI M4 x0 1 ((mI M4 x0 1) + 1) →
  T (h + 1) mdX11_put 3 [(0, .ref x0), (1, .int x1), (2, .int (x2 + (-8)))] [] M5 Q)
set_option maxRecDepth 20000 in
set_option maxHeartbeats 2000000 in
theorem VX11_put_3 {h : Nat} {x0 : Nat} {x1 : Int32} {x2 : Int32} {M : Mem} {Q : Option Value → Mem → Prop} (H : DX11_put_3 h x0 x1 x2 M Q) : T (h + 1) mdX11_put 3 [(0, .ref x0), (1, .int x1), (2, .int x2)] [] M Q := by
  unfold DX11_put_3 at H
  refine xt_iload_n (j := 2) dX11_put_3 rfl rfl ?_
  refine xt_if_lt (tgt := 39) dX11_put_4 (by decide) (fun hc => ?_) (fun hc => ?_)
  · have H := H.1 hc
    exact xt_return dX11_put_39 rfl H
  · have H := H.2 hc
    refine xt_aload_n (j := 0) dX11_put_7 rfl rfl ?_
    obtain ⟨ho1, H⟩ := H
    obtain ⟨b2, hb, H⟩ := H
    refine xt_getR dX11_put_8 (flX11_7 rfl) ft_13_0 ho1.1 ho1.2 hb ?_
    refine xt_aload_n (j := 0) dX11_put_11 rfl rfl ?_
    refine xt_getI dX11_put_12 (flX11_325 rfl) ft_13_1 ho1.1 ho1.2 ?_
    refine xt_iload_n (j := 1) dX11_put_15 rfl rfl ?_
    refine xt_iload_n (j := 2) dX11_put_16 rfl rfl ?_
    refine xt_ishr dX11_put_17 ?_
    refine xt_sipush (v := 255) dX11_put_18 (by decide) ?_
    refine xt_iand dX11_put_21 ?_
    obtain ⟨ho3, H⟩ := H
    obtain ⟨hi, H⟩ := H
    obtain ⟨M4, eM4⟩ : ∃ z, z = wAI M b2 (mI M x0 1 : Int32).toNatClampNeg ((x1 >>> (x2 &&& 31)) &&& 255) := ⟨_, rfl⟩
    have H := H _ eM4
    refine xt_iast dX11_put_22 ho3.1 ho3.2 hi ?_
    have ho1 : ok M4 x0 13 := by rw [eM4]; exact ho1
    rw [← eM4]
    refine xt_aload_n (j := 0) dX11_put_23 rfl rfl ?_
    refine xt_dup dX11_put_24 rfl ?_
    refine xt_getI dX11_put_25 (flX11_325 rfl) ft_13_1 ho1.1 ho1.2 ?_
    refine xt_iconst (v := 1) dX11_put_28 (by decide) ?_
    refine xt_iadd dX11_put_29 ?_
    obtain ⟨M5, eM5⟩ : ∃ z, z = wI M4 x0 1 ((mI M4 x0 1) + 1) := ⟨_, rfl⟩
    have H := H _ eM5
    refine xt_putI dX11_put_30 (flX11_325 rfl) ty_13_1 rfl ho1.1 ho1.2 ?_
    have ho1 : ok M5 x0 13 := by rw [eM5]; exact ho1
    rw [← eM5]
    refine xt_iinc (j := 2) (v := x2 + (-8)) (lv' := [(2, .int (x2 + (-8))), (0, .ref x0), (1, .int x1)]) dX11_put_33 rfl (by rfl) (by decide) rfl ?_
    refine xt_goto (tgt := 3) dX11_put_36 (by decide) ?_
    exact xt_sub (lv' := [(0, .ref x0), (1, .int x1), (2, .int (x2 + (-8)))]) [1, 2, 0] rfl H
def DX11_put_0 (h : Nat) (x0 : Nat) (x1 : Int32) (M : Mem) (Q : Option Value → Mem → Prop) : Prop :=
  T (h + 1) mdX11_put 3 [(0, .ref x0), (1, .int x1), (2, .int 24)] [] M Q
set_option maxRecDepth 20000 in
set_option maxHeartbeats 2000000 in
theorem VX11_put_0 {h : Nat} {x0 : Nat} {x1 : Int32} {M : Mem} {Q : Option Value → Mem → Prop} (H : DX11_put_0 h x0 x1 M Q) : T (h + 1) mdX11_put 0 [(0, .ref x0), (1, .int x1)] [] M Q := by
  unfold DX11_put_0 at H
  refine xt_bipush (v := 24) dX11_put_0 (by decide) ?_
  refine xt_istore_n (lv' := [(2, .int 24), (0, .ref x0), (1, .int x1)]) dX11_put_2 rfl (by decide) rfl ?_
  exact xt_sub (lv' := [(0, .ref x0), (1, .int x1), (2, .int 24)]) [1, 2, 0] rfl H
theorem KX11_put {h : Nat} {x0 : Nat} {x1 : Int32} {M : Mem} {Q : Option Value → Mem → Prop} (H : DX11_put_0 h x0 x1 M Q) : E (h + 1) mdX11_put [.ref x0, .int x1] M Q := E.of (by decide) (Nat.le_of_ble_eq_true rfl) (fun _ _ _ => trivial) (VX11_put_0 H)
def DX11_feed_0 (h : Nat) (x0 : Nat) (x1 : Int32) (x2 : Int32) (x3 : Int32) (x4 : Int32) (x5 : Int32) (M : Mem) (Q : Option Value → Mem → Prop) : Prop :=
  ok M x0 13 ∧ (((mI M x0 1) + 20) ≤ 800 → E h mdX11_put [.ref x0, .int x1] M (fun r M2 => mE M M2 → r = none ∧ E h mdX11_put [.ref x0, .int x2] M2 (fun r M3 => mE M2 M3 → r = none ∧ E h mdX11_put [.ref x0, .int x3] M3 (fun r M4 => mE M3 M4 → r = none ∧ E h mdX11_put [.ref x0, .int x4] M4 (fun r M5 => mE M4 M5 → r = none ∧ E h mdX11_put [.ref x0, .int x5] M5 (fun r M6 => mE M5 M6 → r = none ∧ Q (some (.int (mI M6 x0 1))) M6)))))) ∧
  (¬ (((mI M x0 1) + 20) ≤ 800) → Q (some (.int (-3))) M)
set_option maxRecDepth 20000 in
set_option maxHeartbeats 2000000 in
theorem VX11_feed_0 {h : Nat} {x0 : Nat} {x1 : Int32} {x2 : Int32} {x3 : Int32} {x4 : Int32} {x5 : Int32} {M : Mem} {Q : Option Value → Mem → Prop} (H : DX11_feed_0 h x0 x1 x2 x3 x4 x5 M Q) : T (h + 1) mdX11_feed 0 [(0, .ref x0), (1, .int x1), (2, .int x2), (3, .int x3), (4, .int x4), (5, .int x5)] [] M Q := by
  unfold DX11_feed_0 at H
  refine xt_aload_n (j := 0) dX11_feed_0 rfl rfl ?_
  obtain ⟨ho1, H⟩ := H
  refine xt_getI dX11_feed_1 (flX11_325 rfl) ft_13_1 ho1.1 ho1.2 ?_
  refine xt_bipush (v := 20) dX11_feed_4 (by decide) ?_
  refine xt_iadd dX11_feed_6 ?_
  refine xt_sipush (v := 800) dX11_feed_7 (by decide) ?_
  refine xt_icmp_le (tgt := 16) dX11_feed_10 (by decide) (fun hc => ?_) (fun hc => ?_)
  · have H := H.1 hc
    refine xt_aload_n (j := 0) dX11_feed_16 rfl rfl ?_
    refine xt_iload_n (j := 1) dX11_feed_17 rfl rfl ?_
    refine xt_callV (h2 := h) (as := [.int x1]) (st := []) dX11_feed_18 (mlX11_328 rfl) rfl ho1.1 ⟨by rw [ho1.2]; rfl, by rw [ho1.2]; decide⟩ (by first | decide | (simp [Value.category]; done)) (Nat.le_refl _) H (fun r M2 HH hE => ?_)
    obtain ⟨hr, H⟩ := HH hE
    subst hr
    have ho1 := ok_E ho1 hE
    show T _ _ _ _ [] _ _
    refine xt_aload_n (j := 0) dX11_feed_21 rfl rfl ?_
    refine xt_iload_n (j := 2) dX11_feed_22 rfl rfl ?_
    refine xt_callV (h2 := h) (as := [.int x2]) (st := []) dX11_feed_23 (mlX11_328 rfl) rfl ho1.1 ⟨by rw [ho1.2]; rfl, by rw [ho1.2]; decide⟩ (by first | decide | (simp [Value.category]; done)) (Nat.le_refl _) H (fun r M3 HH hE => ?_)
    obtain ⟨hr, H⟩ := HH hE
    subst hr
    have ho1 := ok_E ho1 hE
    show T _ _ _ _ [] _ _
    refine xt_aload_n (j := 0) dX11_feed_26 rfl rfl ?_
    refine xt_iload_n (j := 3) dX11_feed_27 rfl rfl ?_
    refine xt_callV (h2 := h) (as := [.int x3]) (st := []) dX11_feed_28 (mlX11_328 rfl) rfl ho1.1 ⟨by rw [ho1.2]; rfl, by rw [ho1.2]; decide⟩ (by first | decide | (simp [Value.category]; done)) (Nat.le_refl _) H (fun r M4 HH hE => ?_)
    obtain ⟨hr, H⟩ := HH hE
    subst hr
    have ho1 := ok_E ho1 hE
    show T _ _ _ _ [] _ _
    refine xt_aload_n (j := 0) dX11_feed_31 rfl rfl ?_
    refine xt_iload (j := 4) dX11_feed_32 rfl ?_
    refine xt_callV (h2 := h) (as := [.int x4]) (st := []) dX11_feed_34 (mlX11_328 rfl) rfl ho1.1 ⟨by rw [ho1.2]; rfl, by rw [ho1.2]; decide⟩ (by first | decide | (simp [Value.category]; done)) (Nat.le_refl _) H (fun r M5 HH hE => ?_)
    obtain ⟨hr, H⟩ := HH hE
    subst hr
    have ho1 := ok_E ho1 hE
    show T _ _ _ _ [] _ _
    refine xt_aload_n (j := 0) dX11_feed_37 rfl rfl ?_
    refine xt_iload (j := 5) dX11_feed_38 rfl ?_
    refine xt_callV (h2 := h) (as := [.int x5]) (st := []) dX11_feed_40 (mlX11_328 rfl) rfl ho1.1 ⟨by rw [ho1.2]; rfl, by rw [ho1.2]; decide⟩ (by first | decide | (simp [Value.category]; done)) (Nat.le_refl _) H (fun r M6 HH hE => ?_)
    obtain ⟨hr, H⟩ := HH hE
    subst hr
    have ho1 := ok_E ho1 hE
    show T _ _ _ _ [] _ _
    refine xt_aload_n (j := 0) dX11_feed_43 rfl rfl ?_
    refine xt_getI dX11_feed_44 (flX11_325 rfl) ft_13_1 ho1.1 ho1.2 ?_
    exact xt_ireturn dX11_feed_47 rfl H
  · have H := H.2 hc
    refine xt_bipush (v := -3) dX11_feed_13 (by decide) ?_
    exact xt_ireturn dX11_feed_15 rfl H
theorem KX11_feed {h : Nat} {x0 : Nat} {x1 : Int32} {x2 : Int32} {x3 : Int32} {x4 : Int32} {x5 : Int32} {M : Mem} {Q : Option Value → Mem → Prop} (H : DX11_feed_0 h x0 x1 x2 x3 x4 x5 M Q) : E (h + 1) mdX11_feed [.ref x0, .int x1, .int x2, .int x3, .int x4, .int x5] M Q := E.of (by decide) (Nat.le_of_ble_eq_true rfl) (fun _ _ _ => trivial) (VX11_feed_0 H)
def DX11_end_0 (h : Nat) (x0 : Nat) (x1 : Int32) (M : Mem) (Q : Option Value → Mem → Prop) : Prop :=
  ok M x0 13 ∧ E h mdX11_in [.long ((x1 : Int32).toInt64), .long 0, .long ((mI M x0 1 : Int32).toInt64)] M (fun r M2 => mE M M2 → ∃ r3 : Int32, r = some (.int r3) ∧ (¬ r3 = 0 → ∀ M4 : Mem, M4 = wI M2 x0 1 x1 →
  Q (some (.int (mI M2 x0 1))) M4) ∧
  (r3 = 0 → Q (some (.int (-1))) M2))
set_option maxRecDepth 20000 in
set_option maxHeartbeats 2000000 in
theorem VX11_end_0 {h : Nat} {x0 : Nat} {x1 : Int32} {M : Mem} {Q : Option Value → Mem → Prop} (H : DX11_end_0 h x0 x1 M Q) : T (h + 1) mdX11_end 0 [(0, .ref x0), (1, .int x1)] [] M Q := by
  unfold DX11_end_0 at H
  refine xt_iload_n (j := 1) dX11_end_0 rfl rfl ?_
  refine xt_i2l dX11_end_1 ?_
  refine xt_lconst (v := 0) dX11_end_2 (by decide) ?_
  refine xt_aload_n (j := 0) dX11_end_3 rfl rfl ?_
  obtain ⟨ho1, H⟩ := H
  refine xt_getI dX11_end_4 (flX11_325 rfl) ft_13_1 ho1.1 ho1.2 ?_
  refine xt_i2l dX11_end_7 ?_
  refine xt_callS (h2 := h) (as := [.long ((x1 : Int32).toInt64), .long 0, .long ((mI M x0 1 : Int32).toInt64)]) (st := []) dX11_end_8 (mlX11_332 rfl) rfl (by first | decide | (simp [Value.category]; done)) (Nat.le_refl _) H (fun r M2 HH hE => ?_)
  obtain ⟨r3, hr, H⟩ := HH hE
  subst hr
  have ho1 := ok_E ho1 hE
  show T _ _ _ _ [.int r3] _ _
  refine xt_if_ne (tgt := 16) dX11_end_11 (by decide) (fun hc => ?_) (fun hc => ?_)
  · have H := H.1 hc
    refine xt_aload_n (j := 0) dX11_end_16 rfl rfl ?_
    refine xt_getI dX11_end_17 (flX11_325 rfl) ft_13_1 ho1.1 ho1.2 ?_
    refine xt_istore_n (lv' := [(2, .int (mI M2 x0 1)), (0, .ref x0), (1, .int x1)]) dX11_end_20 rfl (by decide) rfl ?_
    refine xt_aload_n (j := 1) dX11_end_21 rfl rfl ?_
    refine xt_iload_n (j := 2) dX11_end_22 rfl rfl ?_
    obtain ⟨M4, eM4⟩ : ∃ z, z = wI M2 x0 1 x1 := ⟨_, rfl⟩
    have H := H _ eM4
    refine xt_putI dX11_end_23 (flX11_325 rfl) ty_13_1 rfl ho1.1 ho1.2 ?_
    have ho1 : ok M4 x0 13 := by rw [eM4]; exact ho1
    rw [← eM4]
    refine xt_iload_n (j := 0) dX11_end_26 rfl rfl ?_
    exact xt_ireturn dX11_end_27 rfl H
  · have H := H.2 hc
    refine xt_iconst (v := -1) dX11_end_14 (by decide) ?_
    exact xt_ireturn dX11_end_15 rfl H
theorem KX11_end {h : Nat} {x0 : Nat} {x1 : Int32} {M : Mem} {Q : Option Value → Mem → Prop} (H : DX11_end_0 h x0 x1 M Q) : E (h + 1) mdX11_end [.ref x0, .int x1] M Q := E.of (by decide) (Nat.le_of_ble_eq_true rfl) (fun _ _ _ => trivial) (VX11_end_0 H)
def DX11_byteAt_18 (h : Nat) (s0 : Int32) (M : Mem) (Q : Option Value → Mem → Prop) : Prop :=
  Q (some (.int s0)) M
set_option maxRecDepth 20000 in
set_option maxHeartbeats 2000000 in
theorem VX11_byteAt_18 {h : Nat} {s0 : Int32} {M : Mem} {Q : Option Value → Mem → Prop} (H : DX11_byteAt_18 h s0 M Q) : T (h + 1) mdX11_byteAt 18 [] [.int s0] M Q := by
  unfold DX11_byteAt_18 at H
  exact xt_ireturn dX11_byteAt_18 rfl H
def DX11_byteAt_0 (h : Nat) (x0 : Nat) (x1 : Int32) (M : Mem) (Q : Option Value → Mem → Prop) : Prop :=
  ok M x0 13 ∧ ((mI M x0 1) ≤ x1 → DX11_byteAt_18 h 0 M Q) ∧
  (¬ ((mI M x0 1) ≤ x1) → ∃ b2 : Nat, mR M x0 0 = some b2 ∧ ok M b2 21 ∧ vp_in x1 (mL M b2) ∧ DX11_byteAt_18 h (mAI M b2 (x1 : Int32).toNatClampNeg) M Q)
set_option maxRecDepth 20000 in
set_option maxHeartbeats 2000000 in
theorem VX11_byteAt_0 {h : Nat} {x0 : Nat} {x1 : Int32} {M : Mem} {Q : Option Value → Mem → Prop} (H : DX11_byteAt_0 h x0 x1 M Q) : T (h + 1) mdX11_byteAt 0 [(0, .ref x0), (1, .int x1)] [] M Q := by
  unfold DX11_byteAt_0 at H
  refine xt_iload_n (j := 1) dX11_byteAt_0 rfl rfl ?_
  refine xt_aload_n (j := 0) dX11_byteAt_1 rfl rfl ?_
  obtain ⟨ho1, H⟩ := H
  refine xt_getI dX11_byteAt_2 (flX11_325 rfl) ft_13_1 ho1.1 ho1.2 ?_
  refine xt_icmp_ge (tgt := 17) dX11_byteAt_5 (by decide) (fun hc => ?_) (fun hc => ?_)
  · have H := H.1 hc
    refine xt_iconst (v := 0) dX11_byteAt_17 (by decide) ?_
    exact xt_sub [] rfl (VX11_byteAt_18 H)
  · have H := H.2 hc
    refine xt_aload_n (j := 0) dX11_byteAt_8 rfl rfl ?_
    obtain ⟨b2, hb, H⟩ := H
    refine xt_getR dX11_byteAt_9 (flX11_7 rfl) ft_13_0 ho1.1 ho1.2 hb ?_
    refine xt_iload_n (j := 1) dX11_byteAt_12 rfl rfl ?_
    obtain ⟨ho3, H⟩ := H
    obtain ⟨hi, H⟩ := H
    refine xt_iald dX11_byteAt_13 ho3.1 ho3.2 hi ?_
    refine xt_goto (tgt := 18) dX11_byteAt_14 (by decide) ?_
    exact xt_sub [] rfl (VX11_byteAt_18 H)
theorem KX11_byteAt {h : Nat} {x0 : Nat} {x1 : Int32} {M : Mem} {Q : Option Value → Mem → Prop} (H : DX11_byteAt_0 h x0 x1 M Q) : E (h + 1) mdX11_byteAt [.ref x0, .int x1] M Q := E.of (by decide) (Nat.le_of_ble_eq_true rfl) (fun _ _ _ => trivial) (VX11_byteAt_0 H)
def DX11_isLetter_17 (h : Nat) (s0 : Int32) (M : Mem) (Q : Option Value → Mem → Prop) : Prop :=
  (s0 = 0 ∨ s0 = 1) ∧ Q (some (.int s0)) M
set_option maxRecDepth 20000 in
set_option maxHeartbeats 2000000 in
theorem VX11_isLetter_17 {h : Nat} {s0 : Int32} {M : Mem} {Q : Option Value → Mem → Prop} (H : DX11_isLetter_17 h s0 M Q) : T (h + 1) mdX11_isLetter 17 [] [.int s0] M Q := by
  unfold DX11_isLetter_17 at H
  exact xt_zreturn dX11_isLetter_17 rfl H.1 H.2
def DX11_isLetter_16 (h : Nat) (M : Mem) (Q : Option Value → Mem → Prop) : Prop :=
  DX11_isLetter_17 h 0 M Q
set_option maxRecDepth 20000 in
set_option maxHeartbeats 2000000 in
theorem VX11_isLetter_16 {h : Nat} {M : Mem} {Q : Option Value → Mem → Prop} (H : DX11_isLetter_16 h  M Q) : T (h + 1) mdX11_isLetter 16 [] [] M Q := by
  unfold DX11_isLetter_16 at H
  refine xt_iconst (v := 0) dX11_isLetter_16 (by decide) ?_
  exact xt_sub [] rfl (VX11_isLetter_17 H)
def DX11_isLetter_0 (h : Nat) (x0 : Int32) (M : Mem) (Q : Option Value → Mem → Prop) : Prop :=
  (x0 < 97 → DX11_isLetter_16 h  M Q) ∧
  (¬ (x0 < 97) → (122 < x0 → DX11_isLetter_16 h  M Q) ∧
  (¬ (122 < x0) → DX11_isLetter_17 h 1 M Q))
set_option maxRecDepth 20000 in
set_option maxHeartbeats 2000000 in
theorem VX11_isLetter_0 {h : Nat} {x0 : Int32} {M : Mem} {Q : Option Value → Mem → Prop} (H : DX11_isLetter_0 h x0 M Q) : T (h + 1) mdX11_isLetter 0 [(0, .int x0)] [] M Q := by
  unfold DX11_isLetter_0 at H
  refine xt_iload_n (j := 0) dX11_isLetter_0 rfl rfl ?_
  refine xt_bipush (v := 97) dX11_isLetter_1 (by decide) ?_
  refine xt_icmp_lt (tgt := 16) dX11_isLetter_3 (by decide) (fun hc => ?_) (fun hc => ?_)
  · have H := H.1 hc
    exact xt_sub [] rfl (VX11_isLetter_16 H)
  · have H := H.2 hc
    refine xt_iload_n (j := 0) dX11_isLetter_6 rfl rfl ?_
    refine xt_bipush (v := 122) dX11_isLetter_7 (by decide) ?_
    refine xt_icmp_gt (tgt := 16) dX11_isLetter_9 (by decide) (fun hc => ?_) (fun hc => ?_)
    · have H := H.1 hc
      exact xt_sub [] rfl (VX11_isLetter_16 H)
    · have H := H.2 hc
      refine xt_iconst (v := 1) dX11_isLetter_12 (by decide) ?_
      refine xt_goto (tgt := 17) dX11_isLetter_13 (by decide) ?_
      exact xt_sub [] rfl (VX11_isLetter_17 H)
theorem KX11_isLetter {h : Nat} {x0 : Int32} {M : Mem} {Q : Option Value → Mem → Prop} (H : DX11_isLetter_0 h x0 M Q) : E (h + 1) mdX11_isLetter [.int x0] M Q := E.of (by decide) (Nat.le_of_ble_eq_true rfl) (fun _ _ _ => trivial) (VX11_isLetter_0 H)
def DX11_isFigure_17 (h : Nat) (s0 : Int32) (M : Mem) (Q : Option Value → Mem → Prop) : Prop :=
  (s0 = 0 ∨ s0 = 1) ∧ Q (some (.int s0)) M
set_option maxRecDepth 20000 in
set_option maxHeartbeats 2000000 in
theorem VX11_isFigure_17 {h : Nat} {s0 : Int32} {M : Mem} {Q : Option Value → Mem → Prop} (H : DX11_isFigure_17 h s0 M Q) : T (h + 1) mdX11_isFigure 17 [] [.int s0] M Q := by
  unfold DX11_isFigure_17 at H
  exact xt_zreturn dX11_isFigure_17 rfl H.1 H.2
def DX11_isFigure_16 (h : Nat) (M : Mem) (Q : Option Value → Mem → Prop) : Prop :=
  DX11_isFigure_17 h 0 M Q
set_option maxRecDepth 20000 in
set_option maxHeartbeats 2000000 in
theorem VX11_isFigure_16 {h : Nat} {M : Mem} {Q : Option Value → Mem → Prop} (H : DX11_isFigure_16 h  M Q) : T (h + 1) mdX11_isFigure 16 [] [] M Q := by
  unfold DX11_isFigure_16 at H
  refine xt_iconst (v := 0) dX11_isFigure_16 (by decide) ?_
  exact xt_sub [] rfl (VX11_isFigure_17 H)
def DX11_isFigure_0 (h : Nat) (x0 : Int32) (M : Mem) (Q : Option Value → Mem → Prop) : Prop :=
  (x0 < 48 → DX11_isFigure_16 h  M Q) ∧
  (¬ (x0 < 48) → (57 < x0 → DX11_isFigure_16 h  M Q) ∧
  (¬ (57 < x0) → DX11_isFigure_17 h 1 M Q))
set_option maxRecDepth 20000 in
set_option maxHeartbeats 2000000 in
theorem VX11_isFigure_0 {h : Nat} {x0 : Int32} {M : Mem} {Q : Option Value → Mem → Prop} (H : DX11_isFigure_0 h x0 M Q) : T (h + 1) mdX11_isFigure 0 [(0, .int x0)] [] M Q := by
  unfold DX11_isFigure_0 at H
  refine xt_iload_n (j := 0) dX11_isFigure_0 rfl rfl ?_
  refine xt_bipush (v := 48) dX11_isFigure_1 (by decide) ?_
  refine xt_icmp_lt (tgt := 16) dX11_isFigure_3 (by decide) (fun hc => ?_) (fun hc => ?_)
  · have H := H.1 hc
    exact xt_sub [] rfl (VX11_isFigure_16 H)
  · have H := H.2 hc
    refine xt_iload_n (j := 0) dX11_isFigure_6 rfl rfl ?_
    refine xt_bipush (v := 57) dX11_isFigure_7 (by decide) ?_
    refine xt_icmp_gt (tgt := 16) dX11_isFigure_9 (by decide) (fun hc => ?_) (fun hc => ?_)
    · have H := H.1 hc
      exact xt_sub [] rfl (VX11_isFigure_16 H)
    · have H := H.2 hc
      refine xt_iconst (v := 1) dX11_isFigure_12 (by decide) ?_
      refine xt_goto (tgt := 17) dX11_isFigure_13 (by decide) ?_
      exact xt_sub [] rfl (VX11_isFigure_17 H)
theorem KX11_isFigure {h : Nat} {x0 : Int32} {M : Mem} {Q : Option Value → Mem → Prop} (H : DX11_isFigure_0 h x0 M Q) : E (h + 1) mdX11_isFigure [.int x0] M Q := E.of (by decide) (Nat.le_of_ble_eq_true rfl) (fun _ _ _ => trivial) (VX11_isFigure_0 H)
def DX11_isSign_101 (h : Nat) (s0 : Int32) (M : Mem) (Q : Option Value → Mem → Prop) : Prop :=
  (s0 = 0 ∨ s0 = 1) ∧ Q (some (.int s0)) M
set_option maxRecDepth 20000 in
set_option maxHeartbeats 2000000 in
theorem VX11_isSign_101 {h : Nat} {s0 : Int32} {M : Mem} {Q : Option Value → Mem → Prop} (H : DX11_isSign_101 h s0 M Q) : T (h + 1) mdX11_isSign 101 [] [.int s0] M Q := by
  unfold DX11_isSign_101 at H
  exact xt_zreturn dX11_isSign_101 rfl H.1 H.2
def DX11_isSign_96 (h : Nat) (M : Mem) (Q : Option Value → Mem → Prop) : Prop :=
  DX11_isSign_101 h 1 M Q
set_option maxRecDepth 20000 in
set_option maxHeartbeats 2000000 in
theorem VX11_isSign_96 {h : Nat} {M : Mem} {Q : Option Value → Mem → Prop} (H : DX11_isSign_96 h  M Q) : T (h + 1) mdX11_isSign 96 [] [] M Q := by
  unfold DX11_isSign_96 at H
  refine xt_iconst (v := 1) dX11_isSign_96 (by decide) ?_
  refine xt_goto (tgt := 101) dX11_isSign_97 (by decide) ?_
  exact xt_sub [] rfl (VX11_isSign_101 H)
def DX11_isSign_0 (h : Nat) (x0 : Int32) (M : Mem) (Q : Option Value → Mem → Prop) : Prop :=
  (x0 = 59 → DX11_isSign_96 h  M Q) ∧
  (¬ (x0 = 59) → (x0 = 44 → DX11_isSign_96 h  M Q) ∧
  (¬ (x0 = 44) → (x0 = 58 → DX11_isSign_96 h  M Q) ∧
  (¬ (x0 = 58) → (x0 = 40 → DX11_isSign_96 h  M Q) ∧
  (¬ (x0 = 40) → (x0 = 41 → DX11_isSign_96 h  M Q) ∧
  (¬ (x0 = 41) → (x0 = 91 → DX11_isSign_96 h  M Q) ∧
  (¬ (x0 = 91) → (x0 = 93 → DX11_isSign_96 h  M Q) ∧
  (¬ (x0 = 93) → (x0 = 63 → DX11_isSign_96 h  M Q) ∧
  (¬ (x0 = 63) → (x0 = 43 → DX11_isSign_96 h  M Q) ∧
  (¬ (x0 = 43) → (x0 = 45 → DX11_isSign_96 h  M Q) ∧
  (¬ (x0 = 45) → (x0 = 42 → DX11_isSign_96 h  M Q) ∧
  (¬ (x0 = 42) → (x0 = 47 → DX11_isSign_96 h  M Q) ∧
  (¬ (x0 = 47) → (x0 = 37 → DX11_isSign_96 h  M Q) ∧
  (¬ (x0 = 37) → (x0 = 61 → DX11_isSign_96 h  M Q) ∧
  (¬ (x0 = 61) → (x0 = 60 → DX11_isSign_96 h  M Q) ∧
  (¬ (x0 = 60) → (¬ x0 = 62 → DX11_isSign_101 h 0 M Q) ∧
  (x0 = 62 → DX11_isSign_96 h  M Q))))))))))))))))
set_option maxRecDepth 20000 in
set_option maxHeartbeats 2000000 in
theorem VX11_isSign_0 {h : Nat} {x0 : Int32} {M : Mem} {Q : Option Value → Mem → Prop} (H : DX11_isSign_0 h x0 M Q) : T (h + 1) mdX11_isSign 0 [(0, .int x0)] [] M Q := by
  unfold DX11_isSign_0 at H
  refine xt_iload_n (j := 0) dX11_isSign_0 rfl rfl ?_
  refine xt_bipush (v := 59) dX11_isSign_1 (by decide) ?_
  refine xt_icmp_eq (tgt := 96) dX11_isSign_3 (by decide) (fun hc => ?_) (fun hc => ?_)
  · have H := H.1 hc
    exact xt_sub [] rfl (VX11_isSign_96 H)
  · have H := H.2 hc
    refine xt_iload_n (j := 0) dX11_isSign_6 rfl rfl ?_
    refine xt_bipush (v := 44) dX11_isSign_7 (by decide) ?_
    refine xt_icmp_eq (tgt := 96) dX11_isSign_9 (by decide) (fun hc => ?_) (fun hc => ?_)
    · have H := H.1 hc
      exact xt_sub [] rfl (VX11_isSign_96 H)
    · have H := H.2 hc
      refine xt_iload_n (j := 0) dX11_isSign_12 rfl rfl ?_
      refine xt_bipush (v := 58) dX11_isSign_13 (by decide) ?_
      refine xt_icmp_eq (tgt := 96) dX11_isSign_15 (by decide) (fun hc => ?_) (fun hc => ?_)
      · have H := H.1 hc
        exact xt_sub [] rfl (VX11_isSign_96 H)
      · have H := H.2 hc
        refine xt_iload_n (j := 0) dX11_isSign_18 rfl rfl ?_
        refine xt_bipush (v := 40) dX11_isSign_19 (by decide) ?_
        refine xt_icmp_eq (tgt := 96) dX11_isSign_21 (by decide) (fun hc => ?_) (fun hc => ?_)
        · have H := H.1 hc
          exact xt_sub [] rfl (VX11_isSign_96 H)
        · have H := H.2 hc
          refine xt_iload_n (j := 0) dX11_isSign_24 rfl rfl ?_
          refine xt_bipush (v := 41) dX11_isSign_25 (by decide) ?_
          refine xt_icmp_eq (tgt := 96) dX11_isSign_27 (by decide) (fun hc => ?_) (fun hc => ?_)
          · have H := H.1 hc
            exact xt_sub [] rfl (VX11_isSign_96 H)
          · have H := H.2 hc
            refine xt_iload_n (j := 0) dX11_isSign_30 rfl rfl ?_
            refine xt_bipush (v := 91) dX11_isSign_31 (by decide) ?_
            refine xt_icmp_eq (tgt := 96) dX11_isSign_33 (by decide) (fun hc => ?_) (fun hc => ?_)
            · have H := H.1 hc
              exact xt_sub [] rfl (VX11_isSign_96 H)
            · have H := H.2 hc
              refine xt_iload_n (j := 0) dX11_isSign_36 rfl rfl ?_
              refine xt_bipush (v := 93) dX11_isSign_37 (by decide) ?_
              refine xt_icmp_eq (tgt := 96) dX11_isSign_39 (by decide) (fun hc => ?_) (fun hc => ?_)
              · have H := H.1 hc
                exact xt_sub [] rfl (VX11_isSign_96 H)
              · have H := H.2 hc
                refine xt_iload_n (j := 0) dX11_isSign_42 rfl rfl ?_
                refine xt_bipush (v := 63) dX11_isSign_43 (by decide) ?_
                refine xt_icmp_eq (tgt := 96) dX11_isSign_45 (by decide) (fun hc => ?_) (fun hc => ?_)
                · have H := H.1 hc
                  exact xt_sub [] rfl (VX11_isSign_96 H)
                · have H := H.2 hc
                  refine xt_iload_n (j := 0) dX11_isSign_48 rfl rfl ?_
                  refine xt_bipush (v := 43) dX11_isSign_49 (by decide) ?_
                  refine xt_icmp_eq (tgt := 96) dX11_isSign_51 (by decide) (fun hc => ?_) (fun hc => ?_)
                  · have H := H.1 hc
                    exact xt_sub [] rfl (VX11_isSign_96 H)
                  · have H := H.2 hc
                    refine xt_iload_n (j := 0) dX11_isSign_54 rfl rfl ?_
                    refine xt_bipush (v := 45) dX11_isSign_55 (by decide) ?_
                    refine xt_icmp_eq (tgt := 96) dX11_isSign_57 (by decide) (fun hc => ?_) (fun hc => ?_)
                    · have H := H.1 hc
                      exact xt_sub [] rfl (VX11_isSign_96 H)
                    · have H := H.2 hc
                      refine xt_iload_n (j := 0) dX11_isSign_60 rfl rfl ?_
                      refine xt_bipush (v := 42) dX11_isSign_61 (by decide) ?_
                      refine xt_icmp_eq (tgt := 96) dX11_isSign_63 (by decide) (fun hc => ?_) (fun hc => ?_)
                      · have H := H.1 hc
                        exact xt_sub [] rfl (VX11_isSign_96 H)
                      · have H := H.2 hc
                        refine xt_iload_n (j := 0) dX11_isSign_66 rfl rfl ?_
                        refine xt_bipush (v := 47) dX11_isSign_67 (by decide) ?_
                        refine xt_icmp_eq (tgt := 96) dX11_isSign_69 (by decide) (fun hc => ?_) (fun hc => ?_)
                        · have H := H.1 hc
                          exact xt_sub [] rfl (VX11_isSign_96 H)
                        · have H := H.2 hc
                          refine xt_iload_n (j := 0) dX11_isSign_72 rfl rfl ?_
                          refine xt_bipush (v := 37) dX11_isSign_73 (by decide) ?_
                          refine xt_icmp_eq (tgt := 96) dX11_isSign_75 (by decide) (fun hc => ?_) (fun hc => ?_)
                          · have H := H.1 hc
                            exact xt_sub [] rfl (VX11_isSign_96 H)
                          · have H := H.2 hc
                            refine xt_iload_n (j := 0) dX11_isSign_78 rfl rfl ?_
                            refine xt_bipush (v := 61) dX11_isSign_79 (by decide) ?_
                            refine xt_icmp_eq (tgt := 96) dX11_isSign_81 (by decide) (fun hc => ?_) (fun hc => ?_)
                            · have H := H.1 hc
                              exact xt_sub [] rfl (VX11_isSign_96 H)
                            · have H := H.2 hc
                              refine xt_iload_n (j := 0) dX11_isSign_84 rfl rfl ?_
                              refine xt_bipush (v := 60) dX11_isSign_85 (by decide) ?_
                              refine xt_icmp_eq (tgt := 96) dX11_isSign_87 (by decide) (fun hc => ?_) (fun hc => ?_)
                              · have H := H.1 hc
                                exact xt_sub [] rfl (VX11_isSign_96 H)
                              · have H := H.2 hc
                                refine xt_iload_n (j := 0) dX11_isSign_90 rfl rfl ?_
                                refine xt_bipush (v := 62) dX11_isSign_91 (by decide) ?_
                                refine xt_icmp_ne (tgt := 100) dX11_isSign_93 (by decide) (fun hc => ?_) (fun hc => ?_)
                                · have H := H.1 hc
                                  refine xt_iconst (v := 0) dX11_isSign_100 (by decide) ?_
                                  exact xt_sub [] rfl (VX11_isSign_101 H)
                                · have H := H.2 hc
                                  exact xt_sub [] rfl (VX11_isSign_96 H)
theorem KX11_isSign {h : Nat} {x0 : Int32} {M : Mem} {Q : Option Value → Mem → Prop} (H : DX11_isSign_0 h x0 M Q) : E (h + 1) mdX11_isSign [.int x0] M Q := E.of (by decide) (Nat.le_of_ble_eq_true rfl) (fun _ _ _ => trivial) (VX11_isSign_0 H)
def DX11_cut_30 (h : Nat) (x0 : Nat) (x1 : Int32) (x2 : Int32) (x3 : Int32) (M : Mem) (Q : Option Value → Mem → Prop) : Prop :=
  T (h + 1) mdX11_cut 10 [(0, .ref x0), (1, .int x1), (2, .int (x2 + 1)), (3, .int x3)] [] M Q
set_option maxRecDepth 20000 in
set_option maxHeartbeats 2000000 in
theorem VX11_cut_30 {h : Nat} {x0 : Nat} {x1 : Int32} {x2 : Int32} {x3 : Int32} {M : Mem} {Q : Option Value → Mem → Prop} (H : DX11_cut_30 h x0 x1 x2 x3 M Q) : T (h + 1) mdX11_cut 30 [(0, .ref x0), (1, .int x1), (2, .int x2), (3, .int x3)] [] M Q := by
  unfold DX11_cut_30 at H
  refine xt_iinc (j := 2) (v := x2 + 1) (lv' := [(2, .int (x2 + 1)), (0, .ref x0), (1, .int x1), (3, .int x3)]) dX11_cut_30 rfl (by rfl) (by decide) rfl ?_
  refine xt_goto (tgt := 10) dX11_cut_33 (by decide) ?_
  exact xt_sub (lv' := [(0, .ref x0), (1, .int x1), (2, .int (x2 + 1)), (3, .int x3)]) [1, 2, 0, 3] rfl H
def DX11_cut_401 (h : Nat) (x0 : Nat) (x1 : Int32) (x2 : Int32) (s0 : Int32) (M : Mem) (Q : Option Value → Mem → Prop) : Prop :=
  T (h + 1) mdX11_cut 6 [(0, .ref x0), (1, .int (x1 + 1)), (2, .int x2), (3, .int s0)] [] M Q
set_option maxRecDepth 20000 in
set_option maxHeartbeats 2000000 in
theorem VX11_cut_401 {h : Nat} {x0 : Nat} {x1 : Int32} {x2 : Int32} {s0 : Int32} {M : Mem} {Q : Option Value → Mem → Prop} (H : DX11_cut_401 h x0 x1 x2 s0 M Q) : T (h + 1) mdX11_cut 401 [(0, .ref x0), (1, .int x1), (2, .int x2)] [.int s0] M Q := by
  unfold DX11_cut_401 at H
  refine xt_istore_n (lv' := [(3, .int s0), (0, .ref x0), (1, .int x1), (2, .int x2)]) dX11_cut_401 rfl (by decide) rfl ?_
  refine xt_iinc (j := 2) (v := x1 + 1) (lv' := [(1, .int (x1 + 1)), (3, .int s0), (0, .ref x0), (2, .int x2)]) dX11_cut_402 rfl (by rfl) (by decide) rfl ?_
  refine xt_goto (tgt := 6) dX11_cut_405 (by decide) ?_
  exact xt_sub (lv' := [(0, .ref x0), (1, .int (x1 + 1)), (2, .int x2), (3, .int s0)]) [2, 0, 3, 1] rfl H
def DX11_cut_400 (h : Nat) (x0 : Nat) (x1 : Int32) (x2 : Int32) (M : Mem) (Q : Option Value → Mem → Prop) : Prop :=
  DX11_cut_401 h x0 x1 x2 0 M Q
set_option maxRecDepth 20000 in
set_option maxHeartbeats 2000000 in
theorem VX11_cut_400 {h : Nat} {x0 : Nat} {x1 : Int32} {x2 : Int32} {M : Mem} {Q : Option Value → Mem → Prop} (H : DX11_cut_400 h x0 x1 x2 M Q) : T (h + 1) mdX11_cut 400 [(0, .ref x0), (1, .int x1), (2, .int x2)] [] M Q := by
  unfold DX11_cut_400 at H
  refine xt_iconst (v := 0) dX11_cut_400 (by decide) ?_
  exact xt_sub [0, 1, 2] rfl (VX11_cut_401 H)
def DX11_cut_374 (h : Nat) (x0 : Nat) (x1 : Int32) (x2 : Int32) (x3 : Int32) (x7 : Int64) (M : Mem) (Q : Option Value → Mem → Prop) : Prop :=
  ok M x0 13 ∧ ∃ b2 : Nat, mR M x0 4 = some b2 ∧ ok M b2 23 ∧ vp_in x1 (mL M b2) ∧ ∀ M4 : Mem, M4 = wAJ M b2 (x1 : Int32).toNatClampNeg x7 →
  (x3 = 0 → DX11_cut_400 h x0 x1 x2 M4 Q) ∧
  (¬ (x3 = 0) → ∃ b5 : Nat, mR M4 x0 2 = some b5 ∧ ok M4 b5 21 ∧ vp_in x1 (mL M4 b5) ∧ ((mAI M4 b5 (x1 : Int32).toNatClampNeg) = 4 → DX11_cut_400 h x0 x1 x2 M4 Q) ∧
  (¬ ((mAI M4 b5 (x1 : Int32).toNatClampNeg) = 4) → DX11_cut_401 h x0 x1 x2 1 M4 Q))
set_option maxRecDepth 20000 in
set_option maxHeartbeats 2000000 in
theorem VX11_cut_374 {h : Nat} {x0 : Nat} {x1 : Int32} {x2 : Int32} {x3 : Int32} {x7 : Int64} {M : Mem} {Q : Option Value → Mem → Prop} (H : DX11_cut_374 h x0 x1 x2 x3 x7 M Q) : T (h + 1) mdX11_cut 374 [(0, .ref x0), (1, .int x1), (2, .int x2), (3, .int x3), (7, .long x7)] [] M Q := by
  unfold DX11_cut_374 at H
  refine xt_aload_n (j := 0) dX11_cut_374 rfl rfl ?_
  obtain ⟨ho1, H⟩ := H
  obtain ⟨b2, hb, H⟩ := H
  refine xt_getR dX11_cut_375 (flX11_19 rfl) ft_13_4 ho1.1 ho1.2 hb ?_
  refine xt_iload_n (j := 1) dX11_cut_378 rfl rfl ?_
  refine xt_lload (j := 4) dX11_cut_379 rfl ?_
  obtain ⟨ho3, H⟩ := H
  obtain ⟨hi, H⟩ := H
  obtain ⟨M4, eM4⟩ : ∃ z, z = wAJ M b2 (x1 : Int32).toNatClampNeg x7 := ⟨_, rfl⟩
  have H := H _ eM4
  refine xt_last dX11_cut_381 ho3.1 ho3.2 hi ?_
  have ho1 : ok M4 x0 13 := by rw [eM4]; exact ho1
  rw [← eM4]
  refine xt_iload_n (j := 3) dX11_cut_382 rfl rfl ?_
  refine xt_if_eq (tgt := 400) dX11_cut_383 (by decide) (fun hc => ?_) (fun hc => ?_)
  · have H := H.1 hc
    exact xt_sub [0, 1, 2] rfl (VX11_cut_400 H)
  · have H := H.2 hc
    refine xt_aload_n (j := 0) dX11_cut_386 rfl rfl ?_
    obtain ⟨b5, hb, H⟩ := H
    refine xt_getR dX11_cut_387 (flX11_13 rfl) ft_13_2 ho1.1 ho1.2 hb ?_
    refine xt_iload_n (j := 1) dX11_cut_390 rfl rfl ?_
    obtain ⟨ho6, H⟩ := H
    obtain ⟨hi, H⟩ := H
    refine xt_iald dX11_cut_391 ho6.1 ho6.2 hi ?_
    refine xt_iconst (v := 4) dX11_cut_392 (by decide) ?_
    refine xt_icmp_eq (tgt := 400) dX11_cut_393 (by decide) (fun hc => ?_) (fun hc => ?_)
    · have H := H.1 hc
      exact xt_sub [0, 1, 2] rfl (VX11_cut_400 H)
    · have H := H.2 hc
      refine xt_iconst (v := 1) dX11_cut_396 (by decide) ?_
      refine xt_goto (tgt := 401) dX11_cut_397 (by decide) ?_
      exact xt_sub [0, 1, 2] rfl (VX11_cut_401 H)
def DX11_cut_372 (h : Nat) (x0 : Nat) (x1 : Int32) (x3 : Int32) (x7 : Int64) (s0 : Int32) (s1 : Int32) (M : Mem) (Q : Option Value → Mem → Prop) : Prop :=
  DX11_cut_374 h x0 x1 (s0 + s1) x3 x7 M Q
set_option maxRecDepth 20000 in
set_option maxHeartbeats 2000000 in
theorem VX11_cut_372 {h : Nat} {x0 : Nat} {x1 : Int32} {x3 : Int32} {x7 : Int64} {s0 : Int32} {s1 : Int32} {M : Mem} {Q : Option Value → Mem → Prop} (H : DX11_cut_372 h x0 x1 x3 x7 s0 s1 M Q) : T (h + 1) mdX11_cut 372 [(0, .ref x0), (1, .int x1), (3, .int x3), (7, .long x7)] [.int s1, .int s0] M Q := by
  unfold DX11_cut_372 at H
  refine xt_iadd dX11_cut_372 ?_
  refine xt_istore_n (lv' := [(2, .int (s0 + s1)), (0, .ref x0), (1, .int x1), (3, .int x3), (7, .long x7)]) dX11_cut_373 rfl (by decide) rfl ?_
  exact xt_sub [1, 2, 0, 3, 4] rfl (VX11_cut_374 H)
def DX11_cut_359 (h : Nat) (x0 : Nat) (x1 : Int32) (x2 : Int32) (x3 : Int32) (x9 : Int32) (s0 : Int64) (M : Mem) (Q : Option Value → Mem → Prop) : Prop :=
  (x9 = 0 → DX11_cut_372 h x0 x1 x3 s0 x2 1 M Q) ∧
  (¬ (x9 = 0) → DX11_cut_372 h x0 x1 x3 s0 x2 2 M Q)
set_option maxRecDepth 20000 in
set_option maxHeartbeats 2000000 in
theorem VX11_cut_359 {h : Nat} {x0 : Nat} {x1 : Int32} {x2 : Int32} {x3 : Int32} {x9 : Int32} {s0 : Int64} {M : Mem} {Q : Option Value → Mem → Prop} (H : DX11_cut_359 h x0 x1 x2 x3 x9 s0 M Q) : T (h + 1) mdX11_cut 359 [(0, .ref x0), (1, .int x1), (2, .int x2), (3, .int x3), (9, .int x9)] [.long s0] M Q := by
  unfold DX11_cut_359 at H
  refine xt_lstore (lv' := [(7, .long s0), (0, .ref x0), (1, .int x1), (2, .int x2), (3, .int x3), (9, .int x9)]) dX11_cut_359 (by decide) rfl ?_
  refine xt_iload_n (j := 3) dX11_cut_361 rfl rfl ?_
  refine xt_iload (j := 5) dX11_cut_362 rfl ?_
  refine xt_if_eq (tgt := 371) dX11_cut_364 (by decide) (fun hc => ?_) (fun hc => ?_)
  · have H := H.1 hc
    refine xt_iconst (v := 1) dX11_cut_371 (by decide) ?_
    exact xt_sub [1, 2, 4, 0] rfl (VX11_cut_372 H)
  · have H := H.2 hc
    refine xt_iconst (v := 2) dX11_cut_367 (by decide) ?_
    refine xt_goto (tgt := 372) dX11_cut_368 (by decide) ?_
    exact xt_sub [1, 2, 4, 0] rfl (VX11_cut_372 H)
def DX11_cut_336 (h : Nat) (x0 : Nat) (x1 : Int32) (x2 : Int32) (x3 : Int32) (x5 : Int32) (x6 : Int32) (x9 : Int32) (s0 : Nat) (s1 : Int32) (s2 : Int32) (M : Mem) (Q : Option Value → Mem → Prop) : Prop :=
  ok M s0 21 ∧ vp_in s1 (mL M s0) ∧ ∀ M2 : Mem, M2 = wAI M s0 (s1 : Int32).toNatClampNeg s2 →
  (x9 = 0 → DX11_cut_359 h x0 x1 x2 x3 x9 ((x5 : Int32).toInt64) M2 Q) ∧
  (¬ (x9 = 0) → DX11_cut_359 h x0 x1 x2 x3 x9 ((256 * ((x5 : Int32).toInt64)) + ((x6 : Int32).toInt64)) M2 Q)
set_option maxRecDepth 20000 in
set_option maxHeartbeats 2000000 in
theorem VX11_cut_336 {h : Nat} {x0 : Nat} {x1 : Int32} {x2 : Int32} {x3 : Int32} {x5 : Int32} {x6 : Int32} {x9 : Int32} {s0 : Nat} {s1 : Int32} {s2 : Int32} {M : Mem} {Q : Option Value → Mem → Prop} (H : DX11_cut_336 h x0 x1 x2 x3 x5 x6 x9 s0 s1 s2 M Q) : T (h + 1) mdX11_cut 336 [(0, .ref x0), (1, .int x1), (2, .int x2), (3, .int x3), (5, .int x5), (6, .int x6), (9, .int x9)] [.int s2, .int s1, .ref s0] M Q := by
  unfold DX11_cut_336 at H
  obtain ⟨ho1, H⟩ := H
  obtain ⟨hi, H⟩ := H
  obtain ⟨M2, eM2⟩ : ∃ z, z = wAI M s0 (s1 : Int32).toNatClampNeg s2 := ⟨_, rfl⟩
  have H := H _ eM2
  refine xt_iast dX11_cut_336 ho1.1 ho1.2 hi ?_
  rw [← eM2]
  refine xt_iload (j := 6) dX11_cut_337 rfl ?_
  refine xt_if_eq (tgt := 356) dX11_cut_339 (by decide) (fun hc => ?_) (fun hc => ?_)
  · have H := H.1 hc
    refine xt_iload (j := 4) dX11_cut_356 rfl ?_
    refine xt_i2l dX11_cut_358 ?_
    exact xt_sub [0, 1, 2, 3, 6] rfl (VX11_cut_359 H)
  · have H := H.2 hc
    refine xt_ldc2 (v := 256) dX11_cut_342 (ctX11_358 rfl) ?_
    refine xt_iload (j := 4) dX11_cut_345 rfl ?_
    refine xt_i2l dX11_cut_347 ?_
    refine xt_lmul dX11_cut_348 ?_
    refine xt_iload (j := 5) dX11_cut_349 rfl ?_
    refine xt_i2l dX11_cut_351 ?_
    refine xt_ladd dX11_cut_352 ?_
    refine xt_goto (tgt := 359) dX11_cut_353 (by decide) ?_
    exact xt_sub [0, 1, 2, 3, 6] rfl (VX11_cut_359 H)
def DX11_cut_331 (h : Nat) (x0 : Nat) (x1 : Int32) (x2 : Int32) (x3 : Int32) (x5 : Int32) (x6 : Int32) (x9 : Int32) (s0 : Nat) (s1 : Int32) (M : Mem) (Q : Option Value → Mem → Prop) : Prop :=
  DX11_cut_336 h x0 x1 x2 x3 x5 x6 x9 s0 s1 3 M Q
set_option maxRecDepth 20000 in
set_option maxHeartbeats 2000000 in
theorem VX11_cut_331 {h : Nat} {x0 : Nat} {x1 : Int32} {x2 : Int32} {x3 : Int32} {x5 : Int32} {x6 : Int32} {x9 : Int32} {s0 : Nat} {s1 : Int32} {M : Mem} {Q : Option Value → Mem → Prop} (H : DX11_cut_331 h x0 x1 x2 x3 x5 x6 x9 s0 s1 M Q) : T (h + 1) mdX11_cut 331 [(0, .ref x0), (1, .int x1), (2, .int x2), (3, .int x3), (5, .int x5), (6, .int x6), (9, .int x9)] [.int s1, .ref s0] M Q := by
  unfold DX11_cut_331 at H
  refine xt_iconst (v := 3) dX11_cut_331 (by decide) ?_
  refine xt_goto (tgt := 336) dX11_cut_332 (by decide) ?_
  exact xt_sub [0, 1, 2, 3, 4, 5, 6] rfl (VX11_cut_336 H)
def DX11_cut_311 (h : Nat) (x0 : Nat) (x1 : Int32) (x2 : Int32) (x3 : Int32) (x5 : Int32) (x6 : Int32) (s0 : Int32) (M : Mem) (Q : Option Value → Mem → Prop) : Prop :=
  ok M x0 13 ∧ ∃ b2 : Nat, mR M x0 2 = some b2 ∧ (¬ s0 = 0 → DX11_cut_331 h x0 x1 x2 x3 x5 x6 s0 b2 x1 M Q) ∧
  (s0 = 0 → E h mdX11_isSign [.int x5] M (fun r M3 => mE M M3 → ∃ r4 : Int32, r = some (.int r4) ∧ (r4 = 0 → DX11_cut_336 h x0 x1 x2 x3 x5 x6 s0 b2 x1 4 M3 Q) ∧
  (¬ (r4 = 0) → DX11_cut_331 h x0 x1 x2 x3 x5 x6 s0 b2 x1 M3 Q)))
set_option maxRecDepth 20000 in
set_option maxHeartbeats 2000000 in
theorem VX11_cut_311 {h : Nat} {x0 : Nat} {x1 : Int32} {x2 : Int32} {x3 : Int32} {x5 : Int32} {x6 : Int32} {s0 : Int32} {M : Mem} {Q : Option Value → Mem → Prop} (H : DX11_cut_311 h x0 x1 x2 x3 x5 x6 s0 M Q) : T (h + 1) mdX11_cut 311 [(0, .ref x0), (1, .int x1), (2, .int x2), (3, .int x3), (5, .int x5), (6, .int x6)] [.int s0] M Q := by
  unfold DX11_cut_311 at H
  refine xt_istore (lv' := [(9, .int s0), (0, .ref x0), (1, .int x1), (2, .int x2), (3, .int x3), (5, .int x5), (6, .int x6)]) dX11_cut_311 (by decide) rfl ?_
  refine xt_aload_n (j := 1) dX11_cut_313 rfl rfl ?_
  obtain ⟨ho1, H⟩ := H
  obtain ⟨b2, hb, H⟩ := H
  refine xt_getR dX11_cut_314 (flX11_13 rfl) ft_13_2 ho1.1 ho1.2 hb ?_
  refine xt_iload_n (j := 2) dX11_cut_317 rfl rfl ?_
  refine xt_iload (j := 0) dX11_cut_318 rfl ?_
  refine xt_if_ne (tgt := 331) dX11_cut_320 (by decide) (fun hc => ?_) (fun hc => ?_)
  · have H := H.1 hc
    exact xt_sub [1, 2, 3, 4, 5, 6, 0] rfl (VX11_cut_331 H)
  · have H := H.2 hc
    refine xt_iload (j := 5) dX11_cut_323 rfl ?_
    refine xt_callS (h2 := h) (as := [.int x5]) (st := [.int x1, .ref b2]) dX11_cut_325 (mlX11_355 rfl) rfl (by first | decide | (simp [Value.category]; done)) (Nat.le_refl _) H (fun r M3 HH hE => ?_)
    obtain ⟨r4, hr, H⟩ := HH hE
    subst hr
    have ho1 := ok_E ho1 hE
    show T _ _ _ _ [.int r4, .int x1, .ref b2] _ _
    refine xt_if_eq (tgt := 335) dX11_cut_328 (by decide) (fun hc => ?_) (fun hc => ?_)
    · have H := H.1 hc
      refine xt_iconst (v := 4) dX11_cut_335 (by decide) ?_
      exact xt_sub [1, 2, 3, 4, 5, 6, 0] rfl (VX11_cut_336 H)
    · have H := H.2 hc
      exact xt_sub [1, 2, 3, 4, 5, 6, 0] rfl (VX11_cut_331 H)
def DX11_cut_310 (h : Nat) (x0 : Nat) (x1 : Int32) (x2 : Int32) (x3 : Int32) (x5 : Int32) (x6 : Int32) (M : Mem) (Q : Option Value → Mem → Prop) : Prop :=
  DX11_cut_311 h x0 x1 x2 x3 x5 x6 0 M Q
set_option maxRecDepth 20000 in
set_option maxHeartbeats 2000000 in
theorem VX11_cut_310 {h : Nat} {x0 : Nat} {x1 : Int32} {x2 : Int32} {x3 : Int32} {x5 : Int32} {x6 : Int32} {M : Mem} {Q : Option Value → Mem → Prop} (H : DX11_cut_310 h x0 x1 x2 x3 x5 x6 M Q) : T (h + 1) mdX11_cut 310 [(0, .ref x0), (1, .int x1), (2, .int x2), (3, .int x3), (5, .int x5), (6, .int x6)] [] M Q := by
  unfold DX11_cut_310 at H
  refine xt_iconst (v := 0) dX11_cut_310 (by decide) ?_
  exact xt_sub [0, 1, 2, 3, 4, 5] rfl (VX11_cut_311 H)
def DX11_cut_306 (h : Nat) (x0 : Nat) (x1 : Int32) (x2 : Int32) (x3 : Int32) (x5 : Int32) (x6 : Int32) (M : Mem) (Q : Option Value → Mem → Prop) : Prop :=
  DX11_cut_311 h x0 x1 x2 x3 x5 x6 1 M Q
set_option maxRecDepth 20000 in
set_option maxHeartbeats 2000000 in
theorem VX11_cut_306 {h : Nat} {x0 : Nat} {x1 : Int32} {x2 : Int32} {x3 : Int32} {x5 : Int32} {x6 : Int32} {M : Mem} {Q : Option Value → Mem → Prop} (H : DX11_cut_306 h x0 x1 x2 x3 x5 x6 M Q) : T (h + 1) mdX11_cut 306 [(0, .ref x0), (1, .int x1), (2, .int x2), (3, .int x3), (5, .int x5), (6, .int x6)] [] M Q := by
  unfold DX11_cut_306 at H
  refine xt_iconst (v := 1) dX11_cut_306 (by decide) ?_
  refine xt_goto (tgt := 311) dX11_cut_307 (by decide) ?_
  exact xt_sub [0, 1, 2, 3, 4, 5] rfl (VX11_cut_311 H)
def DX11_cut_299 (h : Nat) (x0 : Nat) (x1 : Int32) (x2 : Int32) (x3 : Int32) (x5 : Int32) (x6 : Int32) (M : Mem) (Q : Option Value → Mem → Prop) : Prop :=
  (¬ x6 = 61 → DX11_cut_310 h x0 x1 x2 x3 x5 x6 M Q) ∧
  (x6 = 61 → DX11_cut_306 h x0 x1 x2 x3 x5 x6 M Q)
set_option maxRecDepth 20000 in
set_option maxHeartbeats 2000000 in
theorem VX11_cut_299 {h : Nat} {x0 : Nat} {x1 : Int32} {x2 : Int32} {x3 : Int32} {x5 : Int32} {x6 : Int32} {M : Mem} {Q : Option Value → Mem → Prop} (H : DX11_cut_299 h x0 x1 x2 x3 x5 x6 M Q) : T (h + 1) mdX11_cut 299 [(0, .ref x0), (1, .int x1), (2, .int x2), (3, .int x3), (5, .int x5), (6, .int x6)] [] M Q := by
  unfold DX11_cut_299 at H
  refine xt_iload (j := 5) dX11_cut_299 rfl ?_
  refine xt_bipush (v := 61) dX11_cut_301 (by decide) ?_
  refine xt_icmp_ne (tgt := 310) dX11_cut_303 (by decide) (fun hc => ?_) (fun hc => ?_)
  · have H := H.1 hc
    exact xt_sub [0, 1, 2, 3, 4, 5] rfl (VX11_cut_310 H)
  · have H := H.2 hc
    exact xt_sub [0, 1, 2, 3, 4, 5] rfl (VX11_cut_306 H)
def DX11_cut_271 (h : Nat) (x0 : Nat) (x1 : Int32) (x2 : Int32) (x3 : Int32) (x5 : Int32) (x6 : Int32) (M : Mem) (Q : Option Value → Mem → Prop) : Prop :=
  (x5 = 58 → DX11_cut_299 h x0 x1 x2 x3 x5 x6 M Q) ∧
  (¬ (x5 = 58) → (x5 = 33 → DX11_cut_299 h x0 x1 x2 x3 x5 x6 M Q) ∧
  (¬ (x5 = 33) → (x5 = 60 → DX11_cut_299 h x0 x1 x2 x3 x5 x6 M Q) ∧
  (¬ (x5 = 60) → (¬ x5 = 62 → DX11_cut_310 h x0 x1 x2 x3 x5 x6 M Q) ∧
  (x5 = 62 → DX11_cut_299 h x0 x1 x2 x3 x5 x6 M Q))))
set_option maxRecDepth 20000 in
set_option maxHeartbeats 2000000 in
theorem VX11_cut_271 {h : Nat} {x0 : Nat} {x1 : Int32} {x2 : Int32} {x3 : Int32} {x5 : Int32} {x6 : Int32} {M : Mem} {Q : Option Value → Mem → Prop} (H : DX11_cut_271 h x0 x1 x2 x3 x5 x6 M Q) : T (h + 1) mdX11_cut 271 [(0, .ref x0), (1, .int x1), (2, .int x2), (3, .int x3), (5, .int x5), (6, .int x6)] [] M Q := by
  unfold DX11_cut_271 at H
  refine xt_iload (j := 4) dX11_cut_271 rfl ?_
  refine xt_bipush (v := 58) dX11_cut_273 (by decide) ?_
  refine xt_icmp_eq (tgt := 299) dX11_cut_275 (by decide) (fun hc => ?_) (fun hc => ?_)
  · have H := H.1 hc
    exact xt_sub [0, 1, 2, 3, 4, 5] rfl (VX11_cut_299 H)
  · have H := H.2 hc
    refine xt_iload (j := 4) dX11_cut_278 rfl ?_
    refine xt_bipush (v := 33) dX11_cut_280 (by decide) ?_
    refine xt_icmp_eq (tgt := 299) dX11_cut_282 (by decide) (fun hc => ?_) (fun hc => ?_)
    · have H := H.1 hc
      exact xt_sub [0, 1, 2, 3, 4, 5] rfl (VX11_cut_299 H)
    · have H := H.2 hc
      refine xt_iload (j := 4) dX11_cut_285 rfl ?_
      refine xt_bipush (v := 60) dX11_cut_287 (by decide) ?_
      refine xt_icmp_eq (tgt := 299) dX11_cut_289 (by decide) (fun hc => ?_) (fun hc => ?_)
      · have H := H.1 hc
        exact xt_sub [0, 1, 2, 3, 4, 5] rfl (VX11_cut_299 H)
      · have H := H.2 hc
        refine xt_iload (j := 4) dX11_cut_292 rfl ?_
        refine xt_bipush (v := 62) dX11_cut_294 (by decide) ?_
        refine xt_icmp_ne (tgt := 310) dX11_cut_296 (by decide) (fun hc => ?_) (fun hc => ?_)
        · have H := H.1 hc
          exact xt_sub [0, 1, 2, 3, 4, 5] rfl (VX11_cut_310 H)
        · have H := H.2 hc
          exact xt_sub [0, 1, 2, 3, 4, 5] rfl (VX11_cut_299 H)
def DX11_cut_253 (h : Nat) (x0 : Nat) (x1 : Int32) (x2 : Int32) (x3 : Int32) (x7 : Int64) (s0 : Nat) (s1 : Int32) (s2 : Int32) (M : Mem) (Q : Option Value → Mem → Prop) : Prop :=
  ok M s0 21 ∧ vp_in s1 (mL M s0) ∧ ∀ M2 : Mem, M2 = wAI M s0 (s1 : Int32).toNatClampNeg s2 →
  DX11_cut_374 h x0 x1 x2 x3 x7 M2 Q
set_option maxRecDepth 20000 in
set_option maxHeartbeats 2000000 in
theorem VX11_cut_253 {h : Nat} {x0 : Nat} {x1 : Int32} {x2 : Int32} {x3 : Int32} {x7 : Int64} {s0 : Nat} {s1 : Int32} {s2 : Int32} {M : Mem} {Q : Option Value → Mem → Prop} (H : DX11_cut_253 h x0 x1 x2 x3 x7 s0 s1 s2 M Q) : T (h + 1) mdX11_cut 253 [(0, .ref x0), (1, .int x1), (2, .int x2), (3, .int x3), (7, .long x7)] [.int s2, .int s1, .ref s0] M Q := by
  unfold DX11_cut_253 at H
  obtain ⟨ho1, H⟩ := H
  obtain ⟨hi, H⟩ := H
  obtain ⟨M2, eM2⟩ : ∃ z, z = wAI M s0 (s1 : Int32).toNatClampNeg s2 := ⟨_, rfl⟩
  have H := H _ eM2
  refine xt_iast dX11_cut_253 ho1.1 ho1.2 hi ?_
  rw [← eM2]
  refine xt_goto (tgt := 374) dX11_cut_254 (by decide) ?_
  exact xt_sub [0, 1, 2, 3, 4] rfl (VX11_cut_374 H)
def DX11_cut_226 (h : Nat) (x0 : Nat) (x1 : Int32) (x2 : Int32) (x3 : Int32) (x4 : Int32) (s0 : Int64) (M : Mem) (Q : Option Value → Mem → Prop) : Prop :=
  T (h + 1) mdX11_cut 184 [(0, .ref x0), (1, .int x1), (2, .int (x2 + 1)), (3, .int x3), (4, .int x4), (7, .long s0)] [] M Q
set_option maxRecDepth 20000 in
set_option maxHeartbeats 2000000 in
theorem VX11_cut_226 {h : Nat} {x0 : Nat} {x1 : Int32} {x2 : Int32} {x3 : Int32} {x4 : Int32} {s0 : Int64} {M : Mem} {Q : Option Value → Mem → Prop} (H : DX11_cut_226 h x0 x1 x2 x3 x4 s0 M Q) : T (h + 1) mdX11_cut 226 [(0, .ref x0), (1, .int x1), (2, .int x2), (3, .int x3), (4, .int x4)] [.long s0] M Q := by
  unfold DX11_cut_226 at H
  refine xt_lstore (lv' := [(7, .long s0), (0, .ref x0), (1, .int x1), (2, .int x2), (3, .int x3), (4, .int x4)]) dX11_cut_226 (by decide) rfl ?_
  refine xt_iinc (j := 3) (v := x2 + 1) (lv' := [(2, .int (x2 + 1)), (7, .long s0), (0, .ref x0), (1, .int x1), (3, .int x3), (4, .int x4)]) dX11_cut_228 rfl (by rfl) (by decide) rfl ?_
  refine xt_goto (tgt := 184) dX11_cut_231 (by decide) ?_
  exact xt_sub (lv' := [(0, .ref x0), (1, .int x1), (2, .int (x2 + 1)), (3, .int x3), (4, .int x4), (7, .long s0)]) [2, 3, 0, 4, 5, 1] rfl H
def DX11_cut_184 (h : Nat) (x0 : Nat) (x1 : Int32) (x2 : Int32) (x3 : Int32) (x4 : Int32) (x7 : Int64) (M : Mem) (Q : Option Value → Mem → Prop) : Prop :=
  ok M x0 13 ∧ E h mdX11_byteAt [.ref x0, .int x2] M (fun r M2 => mE M M2 → ∃ r3 : Int32, r = some (.int r3) ∧ E h mdX11_isFigure [.int r3] M2 (fun r M4 => mE M2 M4 → ∃ r5 : Int32, r = some (.int r5) ∧ (r5 = 0 → ∃ b6 : Nat, mR M4 x0 2 = some b6 ∧ ((x2 - x4) ≤ 6 → DX11_cut_253 h x0 x1 x2 x3 x7 b6 x1 2 M4 Q) ∧
  (¬ ((x2 - x4) ≤ 6) → DX11_cut_253 h x0 x1 x2 x3 x7 b6 x1 4 M4 Q)) ∧
  (¬ (r5 = 0) → (6 ≤ (x2 - x4) → DX11_cut_226 h x0 x1 x2 x3 x4 x7 M4 Q) ∧
  (¬ (6 ≤ (x2 - x4)) → E h mdX11_byteAt [.ref x0, .int x2] M4 (fun r M7 => mE M4 M7 → ∃ r8 : Int32, r = some (.int r8) ∧ DX11_cut_226 h x0 x1 x2 x3 x4 (((10 * x7) + ((r8 : Int32).toInt64)) - 48) M7 Q)))))
set_option maxRecDepth 20000 in
set_option maxHeartbeats 2000000 in
theorem VX11_cut_184 {h : Nat} {x0 : Nat} {x1 : Int32} {x2 : Int32} {x3 : Int32} {x4 : Int32} {x7 : Int64} {M : Mem} {Q : Option Value → Mem → Prop} (H : DX11_cut_184 h x0 x1 x2 x3 x4 x7 M Q) : T (h + 1) mdX11_cut 184 [(0, .ref x0), (1, .int x1), (2, .int x2), (3, .int x3), (4, .int x4), (7, .long x7)] [] M Q := by
  unfold DX11_cut_184 at H
  refine xt_aload_n (j := 0) dX11_cut_184 rfl rfl ?_
  refine xt_iload_n (j := 2) dX11_cut_185 rfl rfl ?_
  obtain ⟨ho1, H⟩ := H
  refine xt_callV (h2 := h) (as := [.int x2]) (st := []) dX11_cut_186 (mlX11_336 rfl) rfl ho1.1 ⟨by rw [ho1.2]; rfl, by rw [ho1.2]; decide⟩ (by first | decide | (simp [Value.category]; done)) (Nat.le_refl _) H (fun r M2 HH hE => ?_)
  obtain ⟨r3, hr, H⟩ := HH hE
  subst hr
  have ho1 := ok_E ho1 hE
  show T _ _ _ _ [.int r3] _ _
  refine xt_callS (h2 := h) (as := [.int r3]) (st := []) dX11_cut_189 (mlX11_348 rfl) rfl (by first | decide | (simp [Value.category]; done)) (Nat.le_refl _) H (fun r M4 HH hE => ?_)
  obtain ⟨r5, hr, H⟩ := HH hE
  subst hr
  have ho1 := ok_E ho1 hE
  show T _ _ _ _ [.int r5] _ _
  refine xt_if_eq (tgt := 234) dX11_cut_192 (by decide) (fun hc => ?_) (fun hc => ?_)
  · have H := H.1 hc
    refine xt_aload_n (j := 0) dX11_cut_234 rfl rfl ?_
    obtain ⟨b6, hb, H⟩ := H
    refine xt_getR dX11_cut_235 (flX11_13 rfl) ft_13_2 ho1.1 ho1.2 hb ?_
    refine xt_iload_n (j := 1) dX11_cut_238 rfl rfl ?_
    refine xt_iload_n (j := 2) dX11_cut_239 rfl rfl ?_
    refine xt_iload (j := 4) dX11_cut_240 rfl ?_
    refine xt_isub dX11_cut_242 ?_
    refine xt_bipush (v := 6) dX11_cut_243 (by decide) ?_
    refine xt_icmp_le (tgt := 252) dX11_cut_245 (by decide) (fun hc => ?_) (fun hc => ?_)
    · have H := H.1 hc
      refine xt_iconst (v := 2) dX11_cut_252 (by decide) ?_
      exact xt_sub [0, 1, 2, 3, 5] rfl (VX11_cut_253 H)
    · have H := H.2 hc
      refine xt_iconst (v := 4) dX11_cut_248 (by decide) ?_
      refine xt_goto (tgt := 253) dX11_cut_249 (by decide) ?_
      exact xt_sub [0, 1, 2, 3, 5] rfl (VX11_cut_253 H)
  · have H := H.2 hc
    refine xt_iload_n (j := 2) dX11_cut_195 rfl rfl ?_
    refine xt_iload (j := 4) dX11_cut_196 rfl ?_
    refine xt_isub dX11_cut_198 ?_
    refine xt_bipush (v := 6) dX11_cut_199 (by decide) ?_
    refine xt_icmp_ge (tgt := 224) dX11_cut_201 (by decide) (fun hc => ?_) (fun hc => ?_)
    · have H := H.1 hc
      refine xt_lload (j := 5) dX11_cut_224 rfl ?_
      exact xt_sub [0, 1, 2, 3, 4] rfl (VX11_cut_226 H)
    · have H := H.2 hc
      refine xt_ldc2 (v := 10) dX11_cut_204 (ctX11_351 rfl) ?_
      refine xt_lload (j := 5) dX11_cut_207 rfl ?_
      refine xt_lmul dX11_cut_209 ?_
      refine xt_aload_n (j := 0) dX11_cut_210 rfl rfl ?_
      refine xt_iload_n (j := 2) dX11_cut_211 rfl rfl ?_
      refine xt_callV (h2 := h) (as := [.int x2]) (st := [.long (10 * x7)]) dX11_cut_212 (mlX11_336 rfl) rfl ho1.1 ⟨by rw [ho1.2]; rfl, by rw [ho1.2]; decide⟩ (by first | decide | (simp [Value.category]; done)) (Nat.le_refl _) H (fun r M7 HH hE => ?_)
      obtain ⟨r8, hr, H⟩ := HH hE
      subst hr
      have ho1 := ok_E ho1 hE
      show T _ _ _ _ [.int r8, .long (10 * x7)] _ _
      refine xt_i2l dX11_cut_215 ?_
      refine xt_ladd dX11_cut_216 ?_
      refine xt_ldc2 (v := 48) dX11_cut_217 (ctX11_353 rfl) ?_
      refine xt_lsub dX11_cut_220 ?_
      refine xt_goto (tgt := 226) dX11_cut_221 (by decide) ?_
      exact xt_sub [0, 1, 2, 3, 4] rfl (VX11_cut_226 H)
def DX11_cut_172 (h : Nat) (x0 : Nat) (x1 : Int32) (x2 : Int32) (x3 : Int32) (x7 : Int64) (s0 : Nat) (s1 : Int32) (s2 : Int32) (M : Mem) (Q : Option Value → Mem → Prop) : Prop :=
  ok M s0 21 ∧ vp_in s1 (mL M s0) ∧ ∀ M2 : Mem, M2 = wAI M s0 (s1 : Int32).toNatClampNeg s2 →
  DX11_cut_374 h x0 x1 x2 x3 x7 M2 Q
set_option maxRecDepth 20000 in
set_option maxHeartbeats 2000000 in
theorem VX11_cut_172 {h : Nat} {x0 : Nat} {x1 : Int32} {x2 : Int32} {x3 : Int32} {x7 : Int64} {s0 : Nat} {s1 : Int32} {s2 : Int32} {M : Mem} {Q : Option Value → Mem → Prop} (H : DX11_cut_172 h x0 x1 x2 x3 x7 s0 s1 s2 M Q) : T (h + 1) mdX11_cut 172 [(0, .ref x0), (1, .int x1), (2, .int x2), (3, .int x3), (7, .long x7)] [.int s2, .int s1, .ref s0] M Q := by
  unfold DX11_cut_172 at H
  obtain ⟨ho1, H⟩ := H
  obtain ⟨hi, H⟩ := H
  obtain ⟨M2, eM2⟩ : ∃ z, z = wAI M s0 (s1 : Int32).toNatClampNeg s2 := ⟨_, rfl⟩
  have H := H _ eM2
  refine xt_iast dX11_cut_172 ho1.1 ho1.2 hi ?_
  rw [← eM2]
  refine xt_goto (tgt := 374) dX11_cut_173 (by decide) ?_
  exact xt_sub [0, 1, 2, 3, 4] rfl (VX11_cut_374 H)
def DX11_cut_145 (h : Nat) (x0 : Nat) (x1 : Int32) (x2 : Int32) (x3 : Int32) (x4 : Int32) (s0 : Int64) (M : Mem) (Q : Option Value → Mem → Prop) : Prop :=
  T (h + 1) mdX11_cut 103 [(0, .ref x0), (1, .int x1), (2, .int (x2 + 1)), (3, .int x3), (4, .int x4), (7, .long s0)] [] M Q
set_option maxRecDepth 20000 in
set_option maxHeartbeats 2000000 in
theorem VX11_cut_145 {h : Nat} {x0 : Nat} {x1 : Int32} {x2 : Int32} {x3 : Int32} {x4 : Int32} {s0 : Int64} {M : Mem} {Q : Option Value → Mem → Prop} (H : DX11_cut_145 h x0 x1 x2 x3 x4 s0 M Q) : T (h + 1) mdX11_cut 145 [(0, .ref x0), (1, .int x1), (2, .int x2), (3, .int x3), (4, .int x4)] [.long s0] M Q := by
  unfold DX11_cut_145 at H
  refine xt_lstore (lv' := [(7, .long s0), (0, .ref x0), (1, .int x1), (2, .int x2), (3, .int x3), (4, .int x4)]) dX11_cut_145 (by decide) rfl ?_
  refine xt_iinc (j := 3) (v := x2 + 1) (lv' := [(2, .int (x2 + 1)), (7, .long s0), (0, .ref x0), (1, .int x1), (3, .int x3), (4, .int x4)]) dX11_cut_147 rfl (by rfl) (by decide) rfl ?_
  refine xt_goto (tgt := 103) dX11_cut_150 (by decide) ?_
  exact xt_sub (lv' := [(0, .ref x0), (1, .int x1), (2, .int (x2 + 1)), (3, .int x3), (4, .int x4), (7, .long s0)]) [2, 3, 0, 4, 5, 1] rfl H
def DX11_cut_103 (h : Nat) (x0 : Nat) (x1 : Int32) (x2 : Int32) (x3 : Int32) (x4 : Int32) (x7 : Int64) (M : Mem) (Q : Option Value → Mem → Prop) : Prop :=
  ok M x0 13 ∧ E h mdX11_byteAt [.ref x0, .int x2] M (fun r M2 => mE M M2 → ∃ r3 : Int32, r = some (.int r3) ∧ E h mdX11_isLetter [.int r3] M2 (fun r M4 => mE M2 M4 → ∃ r5 : Int32, r = some (.int r5) ∧ (r5 = 0 → ∃ b6 : Nat, mR M4 x0 2 = some b6 ∧ ((x2 - x4) ≤ 10 → DX11_cut_172 h x0 x1 x2 x3 x7 b6 x1 1 M4 Q) ∧
  (¬ ((x2 - x4) ≤ 10) → DX11_cut_172 h x0 x1 x2 x3 x7 b6 x1 4 M4 Q)) ∧
  (¬ (r5 = 0) → (10 ≤ (x2 - x4) → DX11_cut_145 h x0 x1 x2 x3 x4 x7 M4 Q) ∧
  (¬ (10 ≤ (x2 - x4)) → E h mdX11_byteAt [.ref x0, .int x2] M4 (fun r M7 => mE M4 M7 → ∃ r8 : Int32, r = some (.int r8) ∧ DX11_cut_145 h x0 x1 x2 x3 x4 (((27 * x7) + ((r8 : Int32).toInt64)) - 96) M7 Q)))))
set_option maxRecDepth 20000 in
set_option maxHeartbeats 2000000 in
theorem VX11_cut_103 {h : Nat} {x0 : Nat} {x1 : Int32} {x2 : Int32} {x3 : Int32} {x4 : Int32} {x7 : Int64} {M : Mem} {Q : Option Value → Mem → Prop} (H : DX11_cut_103 h x0 x1 x2 x3 x4 x7 M Q) : T (h + 1) mdX11_cut 103 [(0, .ref x0), (1, .int x1), (2, .int x2), (3, .int x3), (4, .int x4), (7, .long x7)] [] M Q := by
  unfold DX11_cut_103 at H
  refine xt_aload_n (j := 0) dX11_cut_103 rfl rfl ?_
  refine xt_iload_n (j := 2) dX11_cut_104 rfl rfl ?_
  obtain ⟨ho1, H⟩ := H
  refine xt_callV (h2 := h) (as := [.int x2]) (st := []) dX11_cut_105 (mlX11_336 rfl) rfl ho1.1 ⟨by rw [ho1.2]; rfl, by rw [ho1.2]; decide⟩ (by first | decide | (simp [Value.category]; done)) (Nat.le_refl _) H (fun r M2 HH hE => ?_)
  obtain ⟨r3, hr, H⟩ := HH hE
  subst hr
  have ho1 := ok_E ho1 hE
  show T _ _ _ _ [.int r3] _ _
  refine xt_callS (h2 := h) (as := [.int r3]) (st := []) dX11_cut_108 (mlX11_340 rfl) rfl (by first | decide | (simp [Value.category]; done)) (Nat.le_refl _) H (fun r M4 HH hE => ?_)
  obtain ⟨r5, hr, H⟩ := HH hE
  subst hr
  have ho1 := ok_E ho1 hE
  show T _ _ _ _ [.int r5] _ _
  refine xt_if_eq (tgt := 153) dX11_cut_111 (by decide) (fun hc => ?_) (fun hc => ?_)
  · have H := H.1 hc
    refine xt_aload_n (j := 0) dX11_cut_153 rfl rfl ?_
    obtain ⟨b6, hb, H⟩ := H
    refine xt_getR dX11_cut_154 (flX11_13 rfl) ft_13_2 ho1.1 ho1.2 hb ?_
    refine xt_iload_n (j := 1) dX11_cut_157 rfl rfl ?_
    refine xt_iload_n (j := 2) dX11_cut_158 rfl rfl ?_
    refine xt_iload (j := 4) dX11_cut_159 rfl ?_
    refine xt_isub dX11_cut_161 ?_
    refine xt_bipush (v := 10) dX11_cut_162 (by decide) ?_
    refine xt_icmp_le (tgt := 171) dX11_cut_164 (by decide) (fun hc => ?_) (fun hc => ?_)
    · have H := H.1 hc
      refine xt_iconst (v := 1) dX11_cut_171 (by decide) ?_
      exact xt_sub [0, 1, 2, 3, 5] rfl (VX11_cut_172 H)
    · have H := H.2 hc
      refine xt_iconst (v := 4) dX11_cut_167 (by decide) ?_
      refine xt_goto (tgt := 172) dX11_cut_168 (by decide) ?_
      exact xt_sub [0, 1, 2, 3, 5] rfl (VX11_cut_172 H)
  · have H := H.2 hc
    refine xt_iload_n (j := 2) dX11_cut_114 rfl rfl ?_
    refine xt_iload (j := 4) dX11_cut_115 rfl ?_
    refine xt_isub dX11_cut_117 ?_
    refine xt_bipush (v := 10) dX11_cut_118 (by decide) ?_
    refine xt_icmp_ge (tgt := 143) dX11_cut_120 (by decide) (fun hc => ?_) (fun hc => ?_)
    · have H := H.1 hc
      refine xt_lload (j := 5) dX11_cut_143 rfl ?_
      exact xt_sub [0, 1, 2, 3, 4] rfl (VX11_cut_145 H)
    · have H := H.2 hc
      refine xt_ldc2 (v := 27) dX11_cut_123 (ctX11_344 rfl) ?_
      refine xt_lload (j := 5) dX11_cut_126 rfl ?_
      refine xt_lmul dX11_cut_128 ?_
      refine xt_aload_n (j := 0) dX11_cut_129 rfl rfl ?_
      refine xt_iload_n (j := 2) dX11_cut_130 rfl rfl ?_
      refine xt_callV (h2 := h) (as := [.int x2]) (st := [.long (27 * x7)]) dX11_cut_131 (mlX11_336 rfl) rfl ho1.1 ⟨by rw [ho1.2]; rfl, by rw [ho1.2]; decide⟩ (by first | decide | (simp [Value.category]; done)) (Nat.le_refl _) H (fun r M7 HH hE => ?_)
      obtain ⟨r8, hr, H⟩ := HH hE
      subst hr
      have ho1 := ok_E ho1 hE
      show T _ _ _ _ [.int r8, .long (27 * x7)] _ _
      refine xt_i2l dX11_cut_134 ?_
      refine xt_ladd dX11_cut_135 ?_
      refine xt_ldc2 (v := 96) dX11_cut_136 (ctX11_346 rfl) ?_
      refine xt_lsub dX11_cut_139 ?_
      refine xt_goto (tgt := 145) dX11_cut_140 (by decide) ?_
      exact xt_sub [0, 1, 2, 3, 4] rfl (VX11_cut_145 H)
def DX11_cut_10 (h : Nat) (x0 : Nat) (x1 : Int32) (x2 : Int32) (x3 : Int32) (M : Mem) (Q : Option Value → Mem → Prop) : Prop :=
  ok M x0 13 ∧ E h mdX11_byteAt [.ref x0, .int x2] M (fun r M2 => mE M M2 → ∃ r3 : Int32, r = some (.int r3) ∧ (r3 = 32 → DX11_cut_30 h x0 x1 x2 x3 M2 Q) ∧
  (¬ (r3 = 32) → E h mdX11_byteAt [.ref x0, .int x2] M2 (fun r M4 => mE M2 M4 → ∃ r5 : Int32, r = some (.int r5) ∧ (¬ r5 = 10 → E h mdX11_byteAt [.ref x0, .int x2] M4 (fun r M6 => mE M4 M6 → ∃ r7 : Int32, r = some (.int r7) ∧ E h mdX11_byteAt [.ref x0, .int (x2 + 1)] M6 (fun r M8 => mE M6 M8 → ∃ r9 : Int32, r = some (.int r9) ∧ ∃ b10 : Nat, mR M8 x0 3 = some b10 ∧ ok M8 b10 21 ∧ vp_in x1 (mL M8 b10) ∧ ∀ M12 : Mem, M12 = wAI M8 b10 (x1 : Int32).toNatClampNeg x2 →
  (x2 < (mI M12 x0 1) → E h mdX11_isLetter [.int r7] M12 (fun r M13 => mE M12 M13 → ∃ r14 : Int32, r = some (.int r14) ∧ (r14 = 0 → E h mdX11_isFigure [.int r7] M13 (fun r M15 => mE M13 M15 → ∃ r16 : Int32, r = some (.int r16) ∧ (r16 = 0 → (¬ r7 = 124 → DX11_cut_271 h x0 x1 x2 x3 r7 r9 M15 Q) ∧
  (r7 = 124 → (r9 = 124 → DX11_cut_306 h x0 x1 x2 x3 r7 r9 M15 Q) ∧
  (¬ (r9 = 124) → DX11_cut_271 h x0 x1 x2 x3 r7 r9 M15 Q))) ∧
  (¬ (r16 = 0) → T (h + 1) mdX11_cut 184 [(0, .ref x0), (1, .int x1), (2, .int x2), (3, .int x3), (4, .int x2), (7, .long 0)] [] M15 Q))) ∧
  (¬ (r14 = 0) → T (h + 1) mdX11_cut 103 [(0, .ref x0), (1, .int x1), (2, .int x2), (3, .int x3), (4, .int x2), (7, .long 0)] [] M13 Q))) ∧
  (¬ (x2 < (mI M12 x0 1)) → ∃ b17 : Nat, mR M12 x0 2 = some b17 ∧ ok M12 b17 21 ∧ vp_in x1 (mL M12 b17) ∧ ∀ M19 : Mem, M19 = wAI M12 b17 (x1 : Int32).toNatClampNeg 0 →
  ∃ b20 : Nat, mR M19 x0 3 = some b20 ∧ ok M19 b20 21 ∧ vp_in x1 (mL M19 b20) ∧ ∀ M22 : Mem, M22 = wAI M19 b20 (x1 : Int32).toNatClampNeg (mI M19 x0 1) →
  DX11_cut_374 h x0 x1 x2 0 0 M22 Q)))) ∧
  (r5 = 10 → DX11_cut_30 h x0 x1 x2 x3 M4 Q))))
set_option maxRecDepth 20000 in
set_option maxHeartbeats 2000000 in
theorem VX11_cut_10 {h : Nat} {x0 : Nat} {x1 : Int32} {x2 : Int32} {x3 : Int32} {M : Mem} {Q : Option Value → Mem → Prop} (H : DX11_cut_10 h x0 x1 x2 x3 M Q) : T (h + 1) mdX11_cut 10 [(0, .ref x0), (1, .int x1), (2, .int x2), (3, .int x3)] [] M Q := by
  unfold DX11_cut_10 at H
  refine xt_aload_n (j := 0) dX11_cut_10 rfl rfl ?_
  refine xt_iload_n (j := 2) dX11_cut_11 rfl rfl ?_
  obtain ⟨ho1, H⟩ := H
  refine xt_callV (h2 := h) (as := [.int x2]) (st := []) dX11_cut_12 (mlX11_336 rfl) rfl ho1.1 ⟨by rw [ho1.2]; rfl, by rw [ho1.2]; decide⟩ (by first | decide | (simp [Value.category]; done)) (Nat.le_refl _) H (fun r M2 HH hE => ?_)
  obtain ⟨r3, hr, H⟩ := HH hE
  subst hr
  have ho1 := ok_E ho1 hE
  show T _ _ _ _ [.int r3] _ _
  refine xt_bipush (v := 32) dX11_cut_15 (by decide) ?_
  refine xt_icmp_eq (tgt := 30) dX11_cut_17 (by decide) (fun hc => ?_) (fun hc => ?_)
  · have H := H.1 hc
    exact xt_sub [0, 1, 2, 3] rfl (VX11_cut_30 H)
  · have H := H.2 hc
    refine xt_aload_n (j := 0) dX11_cut_20 rfl rfl ?_
    refine xt_iload_n (j := 2) dX11_cut_21 rfl rfl ?_
    refine xt_callV (h2 := h) (as := [.int x2]) (st := []) dX11_cut_22 (mlX11_336 rfl) rfl ho1.1 ⟨by rw [ho1.2]; rfl, by rw [ho1.2]; decide⟩ (by first | decide | (simp [Value.category]; done)) (Nat.le_refl _) H (fun r M4 HH hE => ?_)
    obtain ⟨r5, hr, H⟩ := HH hE
    subst hr
    have ho1 := ok_E ho1 hE
    show T _ _ _ _ [.int r5] _ _
    refine xt_bipush (v := 10) dX11_cut_25 (by decide) ?_
    refine xt_icmp_ne (tgt := 36) dX11_cut_27 (by decide) (fun hc => ?_) (fun hc => ?_)
    · have H := H.1 hc
      refine xt_iload_n (j := 2) dX11_cut_36 rfl rfl ?_
      refine xt_istore (lv' := [(4, .int x2), (0, .ref x0), (1, .int x1), (2, .int x2), (3, .int x3)]) dX11_cut_37 (by decide) rfl ?_
      refine xt_aload_n (j := 1) dX11_cut_39 rfl rfl ?_
      refine xt_iload_n (j := 3) dX11_cut_40 rfl rfl ?_
      refine xt_callV (h2 := h) (as := [.int x2]) (st := []) dX11_cut_41 (mlX11_336 rfl) rfl ho1.1 ⟨by rw [ho1.2]; rfl, by rw [ho1.2]; decide⟩ (by first | decide | (simp [Value.category]; done)) (Nat.le_refl _) H (fun r M6 HH hE => ?_)
      obtain ⟨r7, hr, H⟩ := HH hE
      subst hr
      have ho1 := ok_E ho1 hE
      show T _ _ _ _ [.int r7] _ _
      refine xt_istore (lv' := [(5, .int r7), (4, .int x2), (0, .ref x0), (1, .int x1), (2, .int x2), (3, .int x3)]) dX11_cut_44 (by decide) rfl ?_
      refine xt_aload_n (j := 2) dX11_cut_46 rfl rfl ?_
      refine xt_iload_n (j := 4) dX11_cut_47 rfl rfl ?_
      refine xt_iconst (v := 1) dX11_cut_48 (by decide) ?_
      refine xt_iadd dX11_cut_49 ?_
      refine xt_callV (h2 := h) (as := [.int (x2 + 1)]) (st := []) dX11_cut_50 (mlX11_336 rfl) rfl ho1.1 ⟨by rw [ho1.2]; rfl, by rw [ho1.2]; decide⟩ (by first | decide | (simp [Value.category]; done)) (Nat.le_refl _) H (fun r M8 HH hE => ?_)
      obtain ⟨r9, hr, H⟩ := HH hE
      subst hr
      have ho1 := ok_E ho1 hE
      show T _ _ _ _ [.int r9] _ _
      refine xt_istore (lv' := [(6, .int r9), (5, .int r7), (4, .int x2), (0, .ref x0), (1, .int x1), (2, .int x2), (3, .int x3)]) dX11_cut_53 (by decide) rfl ?_
      refine xt_aload_n (j := 3) dX11_cut_55 rfl rfl ?_
      obtain ⟨b10, hb, H⟩ := H
      refine xt_getR dX11_cut_56 (flX11_16 rfl) ft_13_3 ho1.1 ho1.2 hb ?_
      refine xt_iload_n (j := 4) dX11_cut_59 rfl rfl ?_
      refine xt_iload_n (j := 5) dX11_cut_60 rfl rfl ?_
      obtain ⟨ho11, H⟩ := H
      obtain ⟨hi, H⟩ := H
      obtain ⟨M12, eM12⟩ : ∃ z, z = wAI M8 b10 (x1 : Int32).toNatClampNeg x2 := ⟨_, rfl⟩
      have H := H _ eM12
      refine xt_iast dX11_cut_61 ho11.1 ho11.2 hi ?_
      have ho1 : ok M12 x0 13 := by rw [eM12]; exact ho1
      rw [← eM12]
      refine xt_lconst (v := 0) dX11_cut_62 (by decide) ?_
      refine xt_lstore (lv' := [(7, .long 0), (6, .int r9), (5, .int r7), (4, .int x2), (0, .ref x0), (1, .int x1), (2, .int x2), (3, .int x3)]) dX11_cut_63 (by decide) rfl ?_
      refine xt_iload_n (j := 6) dX11_cut_65 rfl rfl ?_
      refine xt_aload_n (j := 4) dX11_cut_66 rfl rfl ?_
      refine xt_getI dX11_cut_67 (flX11_325 rfl) ft_13_1 ho1.1 ho1.2 ?_
      refine xt_icmp_lt (tgt := 95) dX11_cut_70 (by decide) (fun hc => ?_) (fun hc => ?_)
      · have H := H.1 hc
        refine xt_iload (j := 2) dX11_cut_95 rfl ?_
        refine xt_callS (h2 := h) (as := [.int r7]) (st := []) dX11_cut_97 (mlX11_340 rfl) rfl (by first | decide | (simp [Value.category]; done)) (Nat.le_refl _) H (fun r M13 HH hE => ?_)
        obtain ⟨r14, hr, H⟩ := HH hE
        subst hr
        have ho1 := ok_E ho1 hE
        show T _ _ _ _ [.int r14] _ _
        refine xt_if_eq (tgt := 176) dX11_cut_100 (by decide) (fun hc => ?_) (fun hc => ?_)
        · have H := H.1 hc
          refine xt_iload (j := 2) dX11_cut_176 rfl ?_
          refine xt_callS (h2 := h) (as := [.int r7]) (st := []) dX11_cut_178 (mlX11_348 rfl) rfl (by first | decide | (simp [Value.category]; done)) (Nat.le_refl _) H (fun r M15 HH hE => ?_)
          obtain ⟨r16, hr, H⟩ := HH hE
          subst hr
          have ho1 := ok_E ho1 hE
          show T _ _ _ _ [.int r16] _ _
          refine xt_if_eq (tgt := 257) dX11_cut_181 (by decide) (fun hc => ?_) (fun hc => ?_)
          · have H := H.1 hc
            refine xt_iload (j := 2) dX11_cut_257 rfl ?_
            refine xt_bipush (v := 124) dX11_cut_259 (by decide) ?_
            refine xt_icmp_ne (tgt := 271) dX11_cut_261 (by decide) (fun hc => ?_) (fun hc => ?_)
            · have H := H.1 hc
              exact xt_sub [4, 5, 6, 7, 2, 1] rfl (VX11_cut_271 H)
            · have H := H.2 hc
              refine xt_iload (j := 1) dX11_cut_264 rfl ?_
              refine xt_bipush (v := 124) dX11_cut_266 (by decide) ?_
              refine xt_icmp_eq (tgt := 306) dX11_cut_268 (by decide) (fun hc => ?_) (fun hc => ?_)
              · have H := H.1 hc
                exact xt_sub [4, 5, 6, 7, 2, 1] rfl (VX11_cut_306 H)
              · have H := H.2 hc
                exact xt_sub [4, 5, 6, 7, 2, 1] rfl (VX11_cut_271 H)
          · have H := H.2 hc
            exact xt_sub (lv' := [(0, .ref x0), (1, .int x1), (2, .int x2), (3, .int x3), (4, .int x2), (7, .long 0)]) [4, 5, 6, 7, 3, 0] rfl H
        · have H := H.2 hc
          exact xt_sub (lv' := [(0, .ref x0), (1, .int x1), (2, .int x2), (3, .int x3), (4, .int x2), (7, .long 0)]) [4, 5, 6, 7, 3, 0] rfl H
      · have H := H.2 hc
        refine xt_aload_n (j := 4) dX11_cut_73 rfl rfl ?_
        obtain ⟨b17, hb, H⟩ := H
        refine xt_getR dX11_cut_74 (flX11_13 rfl) ft_13_2 ho1.1 ho1.2 hb ?_
        refine xt_iload_n (j := 5) dX11_cut_77 rfl rfl ?_
        refine xt_iconst (v := 0) dX11_cut_78 (by decide) ?_
        obtain ⟨ho18, H⟩ := H
        obtain ⟨hi, H⟩ := H
        obtain ⟨M19, eM19⟩ : ∃ z, z = wAI M12 b17 (x1 : Int32).toNatClampNeg 0 := ⟨_, rfl⟩
        have H := H _ eM19
        refine xt_iast dX11_cut_79 ho18.1 ho18.2 hi ?_
        have ho1 : ok M19 x0 13 := by rw [eM19]; exact ho1
        rw [← eM19]
        refine xt_aload_n (j := 4) dX11_cut_80 rfl rfl ?_
        obtain ⟨b20, hb, H⟩ := H
        refine xt_getR dX11_cut_81 (flX11_16 rfl) ft_13_3 ho1.1 ho1.2 hb ?_
        refine xt_iload_n (j := 5) dX11_cut_84 rfl rfl ?_
        refine xt_aload_n (j := 4) dX11_cut_85 rfl rfl ?_
        refine xt_getI dX11_cut_86 (flX11_325 rfl) ft_13_1 ho1.1 ho1.2 ?_
        obtain ⟨ho21, H⟩ := H
        obtain ⟨hi, H⟩ := H
        obtain ⟨M22, eM22⟩ : ∃ z, z = wAI M19 b20 (x1 : Int32).toNatClampNeg (mI M19 x0 1) := ⟨_, rfl⟩
        have H := H _ eM22
        refine xt_iast dX11_cut_89 ho21.1 ho21.2 hi ?_
        have ho1 : ok M22 x0 13 := by rw [eM22]; exact ho1
        rw [← eM22]
        refine xt_iconst (v := 0) dX11_cut_90 (by decide) ?_
        refine xt_istore_n (lv' := [(3, .int 0), (7, .long 0), (6, .int r9), (5, .int r7), (4, .int x2), (0, .ref x0), (1, .int x1), (2, .int x2)]) dX11_cut_91 rfl (by decide) rfl ?_
        refine xt_goto (tgt := 374) dX11_cut_92 (by decide) ?_
        exact xt_sub [5, 6, 7, 0, 1] rfl (VX11_cut_374 H)
    · have H := H.2 hc
      exact xt_sub [0, 1, 2, 3] rfl (VX11_cut_30 H)
def DX11_cut_6 (h : Nat) (x0 : Nat) (x1 : Int32) (x2 : Int32) (x3 : Int32) (M : Mem) (Q : Option Value → Mem → Prop) : Prop :=
  (x3 = 0 → Q none M) ∧
  (¬ (x3 = 0) → T (h + 1) mdX11_cut 10 [(0, .ref x0), (1, .int x1), (2, .int x2), (3, .int x3)] [] M Q)
set_option maxRecDepth 20000 in
set_option maxHeartbeats 2000000 in
theorem VX11_cut_6 {h : Nat} {x0 : Nat} {x1 : Int32} {x2 : Int32} {x3 : Int32} {M : Mem} {Q : Option Value → Mem → Prop} (H : DX11_cut_6 h x0 x1 x2 x3 M Q) : T (h + 1) mdX11_cut 6 [(0, .ref x0), (1, .int x1), (2, .int x2), (3, .int x3)] [] M Q := by
  unfold DX11_cut_6 at H
  refine xt_iload_n (j := 3) dX11_cut_6 rfl rfl ?_
  refine xt_if_eq (tgt := 408) dX11_cut_7 (by decide) (fun hc => ?_) (fun hc => ?_)
  · have H := H.1 hc
    exact xt_return dX11_cut_408 rfl H
  · have H := H.2 hc
    exact xt_sub (lv' := [(0, .ref x0), (1, .int x1), (2, .int x2), (3, .int x3)]) [0, 1, 2, 3] rfl H
def DX11_cut_0 (h : Nat) (x0 : Nat) (M : Mem) (Q : Option Value → Mem → Prop) : Prop :=
  T (h + 1) mdX11_cut 6 [(0, .ref x0), (1, .int 0), (2, .int 0), (3, .int 1)] [] M Q
set_option maxRecDepth 20000 in
set_option maxHeartbeats 2000000 in
theorem VX11_cut_0 {h : Nat} {x0 : Nat} {M : Mem} {Q : Option Value → Mem → Prop} (H : DX11_cut_0 h x0 M Q) : T (h + 1) mdX11_cut 0 [(0, .ref x0)] [] M Q := by
  unfold DX11_cut_0 at H
  refine xt_iconst (v := 0) dX11_cut_0 (by decide) ?_
  refine xt_istore_n (lv' := [(1, .int 0), (0, .ref x0)]) dX11_cut_1 rfl (by decide) rfl ?_
  refine xt_iconst (v := 0) dX11_cut_2 (by decide) ?_
  refine xt_istore_n (lv' := [(2, .int 0), (1, .int 0), (0, .ref x0)]) dX11_cut_3 rfl (by decide) rfl ?_
  refine xt_iconst (v := 1) dX11_cut_4 (by decide) ?_
  refine xt_istore_n (lv' := [(3, .int 1), (2, .int 0), (1, .int 0), (0, .ref x0)]) dX11_cut_5 rfl (by decide) rfl ?_
  exact xt_sub (lv' := [(0, .ref x0), (1, .int 0), (2, .int 0), (3, .int 1)]) [3, 2, 1, 0] rfl H
theorem KX11_cut {h : Nat} {x0 : Nat} {M : Mem} {Q : Option Value → Mem → Prop} (H : DX11_cut_0 h x0 M Q) : E (h + 1) mdX11_cut [.ref x0] M Q := E.of (by decide) (Nat.le_of_ble_eq_true rfl) (fun _ _ _ => trivial) (VX11_cut_0 H)
def DX11_fails_17 (h : Nat) (M : Mem) (Q : Option Value → Mem → Prop) : Prop :=
  Q none M
set_option maxRecDepth 20000 in
set_option maxHeartbeats 2000000 in
theorem VX11_fails_17 {h : Nat} {M : Mem} {Q : Option Value → Mem → Prop} (H : DX11_fails_17 h  M Q) : T (h + 1) mdX11_fails 17 [] [] M Q := by
  unfold DX11_fails_17 at H
  exact xt_return dX11_fails_17 rfl H
def DX11_fails_0 (h : Nat) (x0 : Nat) (x1 : Int32) (x2 : Int32) (M : Mem) (Q : Option Value → Mem → Prop) : Prop :=
  ok M x0 13 ∧ (¬ (mI M x0 6) = 0 → DX11_fails_17 h  M Q) ∧
  ((mI M x0 6) = 0 → ∀ M2 : Mem, M2 = wI M x0 6 x1 →
  ∀ M3 : Mem, M3 = wI M2 x0 7 x2 →
  DX11_fails_17 h  M3 Q)
set_option maxRecDepth 20000 in
set_option maxHeartbeats 2000000 in
theorem VX11_fails_0 {h : Nat} {x0 : Nat} {x1 : Int32} {x2 : Int32} {M : Mem} {Q : Option Value → Mem → Prop} (H : DX11_fails_0 h x0 x1 x2 M Q) : T (h + 1) mdX11_fails 0 [(0, .ref x0), (1, .int x1), (2, .int x2)] [] M Q := by
  unfold DX11_fails_0 at H
  refine xt_aload_n (j := 0) dX11_fails_0 rfl rfl ?_
  obtain ⟨ho1, H⟩ := H
  refine xt_getI dX11_fails_1 (flX11_360 rfl) ft_13_6 ho1.1 ho1.2 ?_
  refine xt_if_ne (tgt := 17) dX11_fails_4 (by decide) (fun hc => ?_) (fun hc => ?_)
  · have H := H.1 hc
    exact xt_sub [] rfl (VX11_fails_17 H)
  · have H := H.2 hc
    refine xt_aload_n (j := 0) dX11_fails_7 rfl rfl ?_
    refine xt_iload_n (j := 1) dX11_fails_8 rfl rfl ?_
    obtain ⟨M2, eM2⟩ : ∃ z, z = wI M x0 6 x1 := ⟨_, rfl⟩
    have H := H _ eM2
    refine xt_putI dX11_fails_9 (flX11_360 rfl) ty_13_6 rfl ho1.1 ho1.2 ?_
    have ho1 : ok M2 x0 13 := by rw [eM2]; exact ho1
    rw [← eM2]
    refine xt_aload_n (j := 0) dX11_fails_12 rfl rfl ?_
    refine xt_iload_n (j := 2) dX11_fails_13 rfl rfl ?_
    obtain ⟨M3, eM3⟩ : ∃ z, z = wI M2 x0 7 x2 := ⟨_, rfl⟩
    have H := H _ eM3
    refine xt_putI dX11_fails_14 (flX11_363 rfl) ty_13_7 rfl ho1.1 ho1.2 ?_
    have ho1 : ok M3 x0 13 := by rw [eM3]; exact ho1
    rw [← eM3]
    exact xt_sub [] rfl (VX11_fails_17 H)
theorem KX11_fails {h : Nat} {x0 : Nat} {x1 : Int32} {x2 : Int32} {M : Mem} {Q : Option Value → Mem → Prop} (H : DX11_fails_0 h x0 x1 x2 M Q) : E (h + 1) mdX11_fails [.ref x0, .int x1, .int x2] M Q := E.of (by decide) (Nat.le_of_ble_eq_true rfl) (fun _ _ _ => trivial) (VX11_fails_0 H)
def DX11_take_37 (h : Nat) (M : Mem) (Q : Option Value → Mem → Prop) : Prop :=
  Q none M
set_option maxRecDepth 20000 in
set_option maxHeartbeats 2000000 in
theorem VX11_take_37 {h : Nat} {M : Mem} {Q : Option Value → Mem → Prop} (H : DX11_take_37 h  M Q) : T (h + 1) mdX11_take 37 [] [] M Q := by
  unfold DX11_take_37 at H
  exact xt_return dX11_take_37 rfl H
def DX11_take_0 (h : Nat) (x0 : Nat) (M : Mem) (Q : Option Value → Mem → Prop) : Prop :=
  ok M x0 13 ∧ ∀ M2 : Mem, M2 = wI M x0 5 ((mI M x0 5) + 1) →
  ∃ b3 : Nat, mR M2 x0 2 = some b3 ∧ ok M2 b3 21 ∧ vp_in (mI M2 x0 5) (mL M2 b3) ∧ (¬ (mAI M2 b3 (mI M2 x0 5 : Int32).toNatClampNeg) = 4 → DX11_take_37 h  M2 Q) ∧
  ((mAI M2 b3 (mI M2 x0 5 : Int32).toNatClampNeg) = 4 → ∃ b5 : Nat, mR M2 x0 3 = some b5 ∧ ok M2 b5 21 ∧ vp_in (mI M2 x0 5) (mL M2 b5) ∧ E h mdX11_fails [.ref x0, .int 1, .int (mAI M2 b5 (mI M2 x0 5 : Int32).toNatClampNeg)] M2 (fun r M7 => mE M2 M7 → r = none ∧ DX11_take_37 h  M7 Q))
set_option maxRecDepth 20000 in
set_option maxHeartbeats 2000000 in
theorem VX11_take_0 {h : Nat} {x0 : Nat} {M : Mem} {Q : Option Value → Mem → Prop} (H : DX11_take_0 h x0 M Q) : T (h + 1) mdX11_take 0 [(0, .ref x0)] [] M Q := by
  unfold DX11_take_0 at H
  refine xt_aload_n (j := 0) dX11_take_0 rfl rfl ?_
  refine xt_dup dX11_take_1 rfl ?_
  obtain ⟨ho1, H⟩ := H
  refine xt_getI dX11_take_2 (flX11_366 rfl) ft_13_5 ho1.1 ho1.2 ?_
  refine xt_iconst (v := 1) dX11_take_5 (by decide) ?_
  refine xt_iadd dX11_take_6 ?_
  obtain ⟨M2, eM2⟩ : ∃ z, z = wI M x0 5 ((mI M x0 5) + 1) := ⟨_, rfl⟩
  have H := H _ eM2
  refine xt_putI dX11_take_7 (flX11_366 rfl) ty_13_5 rfl ho1.1 ho1.2 ?_
  have ho1 : ok M2 x0 13 := by rw [eM2]; exact ho1
  rw [← eM2]
  refine xt_aload_n (j := 0) dX11_take_10 rfl rfl ?_
  obtain ⟨b3, hb, H⟩ := H
  refine xt_getR dX11_take_11 (flX11_13 rfl) ft_13_2 ho1.1 ho1.2 hb ?_
  refine xt_aload_n (j := 0) dX11_take_14 rfl rfl ?_
  refine xt_getI dX11_take_15 (flX11_366 rfl) ft_13_5 ho1.1 ho1.2 ?_
  obtain ⟨ho4, H⟩ := H
  obtain ⟨hi, H⟩ := H
  refine xt_iald dX11_take_18 ho4.1 ho4.2 hi ?_
  refine xt_iconst (v := 4) dX11_take_19 (by decide) ?_
  refine xt_icmp_ne (tgt := 37) dX11_take_20 (by decide) (fun hc => ?_) (fun hc => ?_)
  · have H := H.1 hc
    exact xt_sub [] rfl (VX11_take_37 H)
  · have H := H.2 hc
    refine xt_aload_n (j := 0) dX11_take_23 rfl rfl ?_
    refine xt_iconst (v := 1) dX11_take_24 (by decide) ?_
    refine xt_aload_n (j := 0) dX11_take_25 rfl rfl ?_
    obtain ⟨b5, hb, H⟩ := H
    refine xt_getR dX11_take_26 (flX11_16 rfl) ft_13_3 ho1.1 ho1.2 hb ?_
    refine xt_aload_n (j := 0) dX11_take_29 rfl rfl ?_
    refine xt_getI dX11_take_30 (flX11_366 rfl) ft_13_5 ho1.1 ho1.2 ?_
    obtain ⟨ho6, H⟩ := H
    obtain ⟨hi, H⟩ := H
    refine xt_iald dX11_take_33 ho6.1 ho6.2 hi ?_
    refine xt_callV (h2 := h) (as := [.int 1, .int (mAI M2 b5 (mI M2 x0 5 : Int32).toNatClampNeg)]) (st := []) dX11_take_34 (mlX11_369 rfl) rfl ho1.1 ⟨by rw [ho1.2]; rfl, by rw [ho1.2]; decide⟩ (by first | decide | (simp [Value.category]; done)) (Nat.le_refl _) H (fun r M7 HH hE => ?_)
    obtain ⟨hr, H⟩ := HH hE
    subst hr
    have ho1 := ok_E ho1 hE
    show T _ _ _ _ [] _ _
    exact xt_sub [] rfl (VX11_take_37 H)
theorem KX11_take {h : Nat} {x0 : Nat} {M : Mem} {Q : Option Value → Mem → Prop} (H : DX11_take_0 h x0 M Q) : E (h + 1) mdX11_take [.ref x0] M Q := E.of (by decide) (Nat.le_of_ble_eq_true rfl) (fun _ _ _ => trivial) (VX11_take_0 H)
def DX11_isSaid_32 (h : Nat) (s0 : Int32) (M : Mem) (Q : Option Value → Mem → Prop) : Prop :=
  (s0 = 0 ∨ s0 = 1) ∧ Q (some (.int s0)) M
set_option maxRecDepth 20000 in
set_option maxHeartbeats 2000000 in
theorem VX11_isSaid_32 {h : Nat} {s0 : Int32} {M : Mem} {Q : Option Value → Mem → Prop} (H : DX11_isSaid_32 h s0 M Q) : T (h + 1) mdX11_isSaid 32 [] [.int s0] M Q := by
  unfold DX11_isSaid_32 at H
  exact xt_zreturn dX11_isSaid_32 rfl H.1 H.2
def DX11_isSaid_31 (h : Nat) (M : Mem) (Q : Option Value → Mem → Prop) : Prop :=
  DX11_isSaid_32 h 0 M Q
set_option maxRecDepth 20000 in
set_option maxHeartbeats 2000000 in
theorem VX11_isSaid_31 {h : Nat} {M : Mem} {Q : Option Value → Mem → Prop} (H : DX11_isSaid_31 h  M Q) : T (h + 1) mdX11_isSaid 31 [] [] M Q := by
  unfold DX11_isSaid_31 at H
  refine xt_iconst (v := 0) dX11_isSaid_31 (by decide) ?_
  exact xt_sub [] rfl (VX11_isSaid_32 H)
def DX11_isSaid_0 (h : Nat) (x0 : Nat) (x1 : Int32) (x2 : Int64) (M : Mem) (Q : Option Value → Mem → Prop) : Prop :=
  ok M x0 13 ∧ ∃ b2 : Nat, mR M x0 2 = some b2 ∧ ok M b2 21 ∧ vp_in (mI M x0 5) (mL M b2) ∧ (¬ (mAI M b2 (mI M x0 5 : Int32).toNatClampNeg) = x1 → DX11_isSaid_31 h  M Q) ∧
  ((mAI M b2 (mI M x0 5 : Int32).toNatClampNeg) = x1 → ∃ b4 : Nat, mR M x0 4 = some b4 ∧ ok M b4 23 ∧ vp_in (mI M x0 5) (mL M b4) ∧ (¬ (lg_cmp (mAJ M b4 (mI M x0 5 : Int32).toNatClampNeg) x2) = 0 → DX11_isSaid_31 h  M Q) ∧
  ((lg_cmp (mAJ M b4 (mI M x0 5 : Int32).toNatClampNeg) x2) = 0 → DX11_isSaid_32 h 1 M Q))
set_option maxRecDepth 20000 in
set_option maxHeartbeats 2000000 in
theorem VX11_isSaid_0 {h : Nat} {x0 : Nat} {x1 : Int32} {x2 : Int64} {M : Mem} {Q : Option Value → Mem → Prop} (H : DX11_isSaid_0 h x0 x1 x2 M Q) : T (h + 1) mdX11_isSaid 0 [(0, .ref x0), (1, .int x1), (2, .long x2)] [] M Q := by
  unfold DX11_isSaid_0 at H
  refine xt_aload_n (j := 0) dX11_isSaid_0 rfl rfl ?_
  obtain ⟨ho1, H⟩ := H
  obtain ⟨b2, hb, H⟩ := H
  refine xt_getR dX11_isSaid_1 (flX11_13 rfl) ft_13_2 ho1.1 ho1.2 hb ?_
  refine xt_aload_n (j := 0) dX11_isSaid_4 rfl rfl ?_
  refine xt_getI dX11_isSaid_5 (flX11_366 rfl) ft_13_5 ho1.1 ho1.2 ?_
  obtain ⟨ho3, H⟩ := H
  obtain ⟨hi, H⟩ := H
  refine xt_iald dX11_isSaid_8 ho3.1 ho3.2 hi ?_
  refine xt_iload_n (j := 1) dX11_isSaid_9 rfl rfl ?_
  refine xt_icmp_ne (tgt := 31) dX11_isSaid_10 (by decide) (fun hc => ?_) (fun hc => ?_)
  · have H := H.1 hc
    exact xt_sub [] rfl (VX11_isSaid_31 H)
  · have H := H.2 hc
    refine xt_aload_n (j := 0) dX11_isSaid_13 rfl rfl ?_
    obtain ⟨b4, hb, H⟩ := H
    refine xt_getR dX11_isSaid_14 (flX11_19 rfl) ft_13_4 ho1.1 ho1.2 hb ?_
    refine xt_aload_n (j := 0) dX11_isSaid_17 rfl rfl ?_
    refine xt_getI dX11_isSaid_18 (flX11_366 rfl) ft_13_5 ho1.1 ho1.2 ?_
    obtain ⟨ho5, H⟩ := H
    obtain ⟨hi, H⟩ := H
    refine xt_lald dX11_isSaid_21 ho5.1 ho5.2 hi ?_
    refine xt_lload_n (j := 2) dX11_isSaid_22 rfl rfl ?_
    refine xt_lcmp dX11_isSaid_23 ?_
    refine xt_if_ne (tgt := 31) dX11_isSaid_24 (by decide) (fun hc => ?_) (fun hc => ?_)
    · have H := H.1 hc
      exact xt_sub [] rfl (VX11_isSaid_31 H)
    · have H := H.2 hc
      refine xt_iconst (v := 1) dX11_isSaid_27 (by decide) ?_
      refine xt_goto (tgt := 32) dX11_isSaid_28 (by decide) ?_
      exact xt_sub [] rfl (VX11_isSaid_32 H)
theorem KX11_isSaid {h : Nat} {x0 : Nat} {x1 : Int32} {x2 : Int64} {M : Mem} {Q : Option Value → Mem → Prop} (H : DX11_isSaid_0 h x0 x1 x2 M Q) : E (h + 1) mdX11_isSaid [.ref x0, .int x1, .long x2] M Q := E.of (by decide) (Nat.le_of_ble_eq_true rfl) (fun _ _ _ => trivial) (VX11_isSaid_0 H)
def DX11_want_37 (h : Nat) (M : Mem) (Q : Option Value → Mem → Prop) : Prop :=
  Q none M
set_option maxRecDepth 20000 in
set_option maxHeartbeats 2000000 in
theorem VX11_want_37 {h : Nat} {M : Mem} {Q : Option Value → Mem → Prop} (H : DX11_want_37 h  M Q) : T (h + 1) mdX11_want 37 [] [] M Q := by
  unfold DX11_want_37 at H
  exact xt_return dX11_want_37 rfl H
def DX11_want_0 (h : Nat) (x0 : Nat) (x1 : Int32) (x2 : Int64) (M : Mem) (Q : Option Value → Mem → Prop) : Prop :=
  ok M x0 13 ∧ (¬ (mI M x0 6) = 0 → DX11_want_37 h  M Q) ∧
  ((mI M x0 6) = 0 → E h mdX11_isSaid [.ref x0, .int x1, .long x2] M (fun r M2 => mE M M2 → ∃ r3 : Int32, r = some (.int r3) ∧ (r3 = 0 → ∃ b4 : Nat, mR M2 x0 3 = some b4 ∧ ok M2 b4 21 ∧ vp_in (mI M2 x0 5) (mL M2 b4) ∧ E h mdX11_fails [.ref x0, .int 2, .int (mAI M2 b4 (mI M2 x0 5 : Int32).toNatClampNeg)] M2 (fun r M6 => mE M2 M6 → r = none ∧ DX11_want_37 h  M6 Q)) ∧
  (¬ (r3 = 0) → E h mdX11_take [.ref x0] M2 (fun r M7 => mE M2 M7 → r = none ∧ DX11_want_37 h  M7 Q))))
set_option maxRecDepth 20000 in
set_option maxHeartbeats 2000000 in
theorem VX11_want_0 {h : Nat} {x0 : Nat} {x1 : Int32} {x2 : Int64} {M : Mem} {Q : Option Value → Mem → Prop} (H : DX11_want_0 h x0 x1 x2 M Q) : T (h + 1) mdX11_want 0 [(0, .ref x0), (1, .int x1), (2, .long x2)] [] M Q := by
  unfold DX11_want_0 at H
  refine xt_aload_n (j := 0) dX11_want_0 rfl rfl ?_
  obtain ⟨ho1, H⟩ := H
  refine xt_getI dX11_want_1 (flX11_360 rfl) ft_13_6 ho1.1 ho1.2 ?_
  refine xt_if_ne (tgt := 37) dX11_want_4 (by decide) (fun hc => ?_) (fun hc => ?_)
  · have H := H.1 hc
    exact xt_sub [] rfl (VX11_want_37 H)
  · have H := H.2 hc
    refine xt_aload_n (j := 0) dX11_want_7 rfl rfl ?_
    refine xt_iload_n (j := 1) dX11_want_8 rfl rfl ?_
    refine xt_lload_n (j := 2) dX11_want_9 rfl rfl ?_
    refine xt_callV (h2 := h) (as := [.int x1, .long x2]) (st := []) dX11_want_10 (mlX11_373 rfl) rfl ho1.1 ⟨by rw [ho1.2]; rfl, by rw [ho1.2]; decide⟩ (by first | decide | (simp [Value.category]; done)) (Nat.le_refl _) H (fun r M2 HH hE => ?_)
    obtain ⟨r3, hr, H⟩ := HH hE
    subst hr
    have ho1 := ok_E ho1 hE
    show T _ _ _ _ [.int r3] _ _
    refine xt_if_eq (tgt := 23) dX11_want_13 (by decide) (fun hc => ?_) (fun hc => ?_)
    · have H := H.1 hc
      refine xt_aload_n (j := 0) dX11_want_23 rfl rfl ?_
      refine xt_iconst (v := 2) dX11_want_24 (by decide) ?_
      refine xt_aload_n (j := 0) dX11_want_25 rfl rfl ?_
      obtain ⟨b4, hb, H⟩ := H
      refine xt_getR dX11_want_26 (flX11_16 rfl) ft_13_3 ho1.1 ho1.2 hb ?_
      refine xt_aload_n (j := 0) dX11_want_29 rfl rfl ?_
      refine xt_getI dX11_want_30 (flX11_366 rfl) ft_13_5 ho1.1 ho1.2 ?_
      obtain ⟨ho5, H⟩ := H
      obtain ⟨hi, H⟩ := H
      refine xt_iald dX11_want_33 ho5.1 ho5.2 hi ?_
      refine xt_callV (h2 := h) (as := [.int 2, .int (mAI M2 b4 (mI M2 x0 5 : Int32).toNatClampNeg)]) (st := []) dX11_want_34 (mlX11_369 rfl) rfl ho1.1 ⟨by rw [ho1.2]; rfl, by rw [ho1.2]; decide⟩ (by first | decide | (simp [Value.category]; done)) (Nat.le_refl _) H (fun r M6 HH hE => ?_)
      obtain ⟨hr, H⟩ := HH hE
      subst hr
      have ho1 := ok_E ho1 hE
      show T _ _ _ _ [] _ _
      exact xt_sub [] rfl (VX11_want_37 H)
    · have H := H.2 hc
      refine xt_aload_n (j := 0) dX11_want_16 rfl rfl ?_
      refine xt_callV (h2 := h) (as := []) (st := []) dX11_want_17 (mlX11_377 rfl) rfl ho1.1 ⟨by rw [ho1.2]; rfl, by rw [ho1.2]; decide⟩ (by first | decide | (simp [Value.category]; done)) (Nat.le_refl _) H (fun r M7 HH hE => ?_)
      obtain ⟨hr, H⟩ := HH hE
      subst hr
      have ho1 := ok_E ho1 hE
      show T _ _ _ _ [] _ _
      refine xt_goto (tgt := 37) dX11_want_20 (by decide) ?_
      exact xt_sub [] rfl (VX11_want_37 H)
theorem KX11_want {h : Nat} {x0 : Nat} {x1 : Int32} {x2 : Int64} {M : Mem} {Q : Option Value → Mem → Prop} (H : DX11_want_0 h x0 x1 x2 M Q) : E (h + 1) mdX11_want [.ref x0, .int x1, .long x2] M Q := E.of (by decide) (Nat.le_of_ble_eq_true rfl) (fun _ _ _ => trivial) (VX11_want_0 H)
def DX11_isKey_313 (h : Nat) (s0 : Int32) (M : Mem) (Q : Option Value → Mem → Prop) : Prop :=
  (s0 = 0 ∨ s0 = 1) ∧ Q (some (.int s0)) M
set_option maxRecDepth 20000 in
set_option maxHeartbeats 2000000 in
theorem VX11_isKey_313 {h : Nat} {s0 : Int32} {M : Mem} {Q : Option Value → Mem → Prop} (H : DX11_isKey_313 h s0 M Q) : T (h + 1) mdX11_isKey 313 [] [.int s0] M Q := by
  unfold DX11_isKey_313 at H
  exact xt_zreturn dX11_isKey_313 rfl H.1 H.2
def DX11_isKey_308 (h : Nat) (M : Mem) (Q : Option Value → Mem → Prop) : Prop :=
  DX11_isKey_313 h 1 M Q
set_option maxRecDepth 20000 in
set_option maxHeartbeats 2000000 in
theorem VX11_isKey_308 {h : Nat} {M : Mem} {Q : Option Value → Mem → Prop} (H : DX11_isKey_308 h  M Q) : T (h + 1) mdX11_isKey 308 [] [] M Q := by
  unfold DX11_isKey_308 at H
  refine xt_iconst (v := 1) dX11_isKey_308 (by decide) ?_
  refine xt_goto (tgt := 313) dX11_isKey_309 (by decide) ?_
  exact xt_sub [] rfl (VX11_isKey_313 H)
def DX11_isKey_204 (h : Nat) (x1 : Int64) (x3 : Int32) (x4 : Int32) (s0 : Int32) (M : Mem) (Q : Option Value → Mem → Prop) : Prop :=
  (¬ x3 = 0 → DX11_isKey_308 h  M Q) ∧
  (x3 = 0 → (¬ x4 = 0 → DX11_isKey_308 h  M Q) ∧
  (x4 = 0 → (¬ s0 = 0 → DX11_isKey_308 h  M Q) ∧
  (s0 = 0 → ((lg_cmp x1 4027) = 0 → DX11_isKey_308 h  M Q) ∧
  (¬ ((lg_cmp x1 4027) = 0) → ((lg_cmp x1 399641) = 0 → DX11_isKey_308 h  M Q) ∧
  (¬ ((lg_cmp x1 399641) = 0) → ((lg_cmp x1 107681) = 0 → DX11_isKey_308 h  M Q) ∧
  (¬ ((lg_cmp x1 107681) = 0) → ((lg_cmp x1 2682960935045) = 0 → DX11_isKey_308 h  M Q) ∧
  (¬ ((lg_cmp x1 2682960935045) = 0) → ((lg_cmp x1 458690) = 0 → DX11_isKey_308 h  M Q) ∧
  (¬ ((lg_cmp x1 458690) = 0) → ((lg_cmp x1 123) = 0 → DX11_isKey_308 h  M Q) ∧
  (¬ ((lg_cmp x1 123) = 0) → ((lg_cmp x1 257) = 0 → DX11_isKey_308 h  M Q) ∧
  (¬ ((lg_cmp x1 257) = 0) → ((lg_cmp x1 1111) = 0 → DX11_isKey_308 h  M Q) ∧
  (¬ ((lg_cmp x1 1111) = 0) → ((lg_cmp x1 423) = 0 → DX11_isKey_308 h  M Q) ∧
  (¬ ((lg_cmp x1 423) = 0) → ((lg_cmp x1 10631) = 0 → DX11_isKey_308 h  M Q) ∧
  (¬ ((lg_cmp x1 10631) = 0) → (¬ (lg_cmp x1 12155) = 0 → DX11_isKey_313 h 0 M Q) ∧
  ((lg_cmp x1 12155) = 0 → DX11_isKey_308 h  M Q))))))))))))))
set_option maxRecDepth 20000 in
set_option maxHeartbeats 2000000 in
theorem VX11_isKey_204 {h : Nat} {x1 : Int64} {x3 : Int32} {x4 : Int32} {s0 : Int32} {M : Mem} {Q : Option Value → Mem → Prop} (H : DX11_isKey_204 h x1 x3 x4 s0 M Q) : T (h + 1) mdX11_isKey 204 [(1, .long x1), (3, .int x3), (4, .int x4)] [.int s0] M Q := by
  unfold DX11_isKey_204 at H
  refine xt_istore (lv' := [(5, .int s0), (1, .long x1), (3, .int x3), (4, .int x4)]) dX11_isKey_204 (by decide) rfl ?_
  refine xt_iload_n (j := 2) dX11_isKey_206 rfl rfl ?_
  refine xt_if_ne (tgt := 308) dX11_isKey_207 (by decide) (fun hc => ?_) (fun hc => ?_)
  · have H := H.1 hc
    exact xt_sub [] rfl (VX11_isKey_308 H)
  · have H := H.2 hc
    refine xt_iload (j := 3) dX11_isKey_210 rfl ?_
    refine xt_if_ne (tgt := 308) dX11_isKey_212 (by decide) (fun hc => ?_) (fun hc => ?_)
    · have H := H.1 hc
      exact xt_sub [] rfl (VX11_isKey_308 H)
    · have H := H.2 hc
      refine xt_iload (j := 0) dX11_isKey_215 rfl ?_
      refine xt_if_ne (tgt := 308) dX11_isKey_217 (by decide) (fun hc => ?_) (fun hc => ?_)
      · have H := H.1 hc
        exact xt_sub [] rfl (VX11_isKey_308 H)
      · have H := H.2 hc
        refine xt_lload_n (j := 1) dX11_isKey_220 rfl rfl ?_
        refine xt_ldc2 (v := 4027) dX11_isKey_221 (ctX11_424 rfl) ?_
        refine xt_lcmp dX11_isKey_224 ?_
        refine xt_if_eq (tgt := 308) dX11_isKey_225 (by decide) (fun hc => ?_) (fun hc => ?_)
        · have H := H.1 hc
          exact xt_sub [] rfl (VX11_isKey_308 H)
        · have H := H.2 hc
          refine xt_lload_n (j := 1) dX11_isKey_228 rfl rfl ?_
          refine xt_ldc2 (v := 399641) dX11_isKey_229 (ctX11_426 rfl) ?_
          refine xt_lcmp dX11_isKey_232 ?_
          refine xt_if_eq (tgt := 308) dX11_isKey_233 (by decide) (fun hc => ?_) (fun hc => ?_)
          · have H := H.1 hc
            exact xt_sub [] rfl (VX11_isKey_308 H)
          · have H := H.2 hc
            refine xt_lload_n (j := 1) dX11_isKey_236 rfl rfl ?_
            refine xt_ldc2 (v := 107681) dX11_isKey_237 (ctX11_428 rfl) ?_
            refine xt_lcmp dX11_isKey_240 ?_
            refine xt_if_eq (tgt := 308) dX11_isKey_241 (by decide) (fun hc => ?_) (fun hc => ?_)
            · have H := H.1 hc
              exact xt_sub [] rfl (VX11_isKey_308 H)
            · have H := H.2 hc
              refine xt_lload_n (j := 1) dX11_isKey_244 rfl rfl ?_
              refine xt_ldc2 (v := 2682960935045) dX11_isKey_245 (ctX11_430 rfl) ?_
              refine xt_lcmp dX11_isKey_248 ?_
              refine xt_if_eq (tgt := 308) dX11_isKey_249 (by decide) (fun hc => ?_) (fun hc => ?_)
              · have H := H.1 hc
                exact xt_sub [] rfl (VX11_isKey_308 H)
              · have H := H.2 hc
                refine xt_lload_n (j := 1) dX11_isKey_252 rfl rfl ?_
                refine xt_ldc2 (v := 458690) dX11_isKey_253 (ctX11_432 rfl) ?_
                refine xt_lcmp dX11_isKey_256 ?_
                refine xt_if_eq (tgt := 308) dX11_isKey_257 (by decide) (fun hc => ?_) (fun hc => ?_)
                · have H := H.1 hc
                  exact xt_sub [] rfl (VX11_isKey_308 H)
                · have H := H.2 hc
                  refine xt_lload_n (j := 1) dX11_isKey_260 rfl rfl ?_
                  refine xt_ldc2 (v := 123) dX11_isKey_261 (ctX11_434 rfl) ?_
                  refine xt_lcmp dX11_isKey_264 ?_
                  refine xt_if_eq (tgt := 308) dX11_isKey_265 (by decide) (fun hc => ?_) (fun hc => ?_)
                  · have H := H.1 hc
                    exact xt_sub [] rfl (VX11_isKey_308 H)
                  · have H := H.2 hc
                    refine xt_lload_n (j := 1) dX11_isKey_268 rfl rfl ?_
                    refine xt_ldc2 (v := 257) dX11_isKey_269 (ctX11_436 rfl) ?_
                    refine xt_lcmp dX11_isKey_272 ?_
                    refine xt_if_eq (tgt := 308) dX11_isKey_273 (by decide) (fun hc => ?_) (fun hc => ?_)
                    · have H := H.1 hc
                      exact xt_sub [] rfl (VX11_isKey_308 H)
                    · have H := H.2 hc
                      refine xt_lload_n (j := 1) dX11_isKey_276 rfl rfl ?_
                      refine xt_ldc2 (v := 1111) dX11_isKey_277 (ctX11_438 rfl) ?_
                      refine xt_lcmp dX11_isKey_280 ?_
                      refine xt_if_eq (tgt := 308) dX11_isKey_281 (by decide) (fun hc => ?_) (fun hc => ?_)
                      · have H := H.1 hc
                        exact xt_sub [] rfl (VX11_isKey_308 H)
                      · have H := H.2 hc
                        refine xt_lload_n (j := 1) dX11_isKey_284 rfl rfl ?_
                        refine xt_ldc2 (v := 423) dX11_isKey_285 (ctX11_440 rfl) ?_
                        refine xt_lcmp dX11_isKey_288 ?_
                        refine xt_if_eq (tgt := 308) dX11_isKey_289 (by decide) (fun hc => ?_) (fun hc => ?_)
                        · have H := H.1 hc
                          exact xt_sub [] rfl (VX11_isKey_308 H)
                        · have H := H.2 hc
                          refine xt_lload_n (j := 1) dX11_isKey_292 rfl rfl ?_
                          refine xt_ldc2 (v := 10631) dX11_isKey_293 (ctX11_442 rfl) ?_
                          refine xt_lcmp dX11_isKey_296 ?_
                          refine xt_if_eq (tgt := 308) dX11_isKey_297 (by decide) (fun hc => ?_) (fun hc => ?_)
                          · have H := H.1 hc
                            exact xt_sub [] rfl (VX11_isKey_308 H)
                          · have H := H.2 hc
                            refine xt_lload_n (j := 1) dX11_isKey_300 rfl rfl ?_
                            refine xt_ldc2 (v := 12155) dX11_isKey_301 (ctX11_444 rfl) ?_
                            refine xt_lcmp dX11_isKey_304 ?_
                            refine xt_if_ne (tgt := 312) dX11_isKey_305 (by decide) (fun hc => ?_) (fun hc => ?_)
                            · have H := H.1 hc
                              refine xt_iconst (v := 0) dX11_isKey_312 (by decide) ?_
                              exact xt_sub [] rfl (VX11_isKey_313 H)
                            · have H := H.2 hc
                              exact xt_sub [] rfl (VX11_isKey_308 H)
def DX11_isKey_199 (h : Nat) (x1 : Int64) (x3 : Int32) (x4 : Int32) (M : Mem) (Q : Option Value → Mem → Prop) : Prop :=
  DX11_isKey_204 h x1 x3 x4 1 M Q
set_option maxRecDepth 20000 in
set_option maxHeartbeats 2000000 in
theorem VX11_isKey_199 {h : Nat} {x1 : Int64} {x3 : Int32} {x4 : Int32} {M : Mem} {Q : Option Value → Mem → Prop} (H : DX11_isKey_199 h x1 x3 x4 M Q) : T (h + 1) mdX11_isKey 199 [(1, .long x1), (3, .int x3), (4, .int x4)] [] M Q := by
  unfold DX11_isKey_199 at H
  refine xt_iconst (v := 1) dX11_isKey_199 (by decide) ?_
  refine xt_goto (tgt := 204) dX11_isKey_200 (by decide) ?_
  exact xt_sub [0, 1, 2] rfl (VX11_isKey_204 H)
def DX11_isKey_141 (h : Nat) (x1 : Int64) (x3 : Int32) (s0 : Int32) (M : Mem) (Q : Option Value → Mem → Prop) : Prop :=
  ((lg_cmp x1 247552) = 0 → DX11_isKey_199 h x1 x3 s0 M Q) ∧
  (¬ ((lg_cmp x1 247552) = 0) → ((lg_cmp x1 6460043375) = 0 → DX11_isKey_199 h x1 x3 s0 M Q) ∧
  (¬ ((lg_cmp x1 6460043375) = 0) → ((lg_cmp x1 985142) = 0 → DX11_isKey_199 h x1 x3 s0 M Q) ∧
  (¬ ((lg_cmp x1 985142) = 0) → ((lg_cmp x1 582248) = 0 → DX11_isKey_199 h x1 x3 s0 M Q) ∧
  (¬ ((lg_cmp x1 582248) = 0) → ((lg_cmp x1 456392) = 0 → DX11_isKey_199 h x1 x3 s0 M Q) ∧
  (¬ ((lg_cmp x1 456392) = 0) → ((lg_cmp x1 7672732672) = 0 → DX11_isKey_199 h x1 x3 s0 M Q) ∧
  (¬ ((lg_cmp x1 7672732672) = 0) → (¬ (lg_cmp x1 3094387) = 0 → DX11_isKey_204 h x1 x3 s0 0 M Q) ∧
  ((lg_cmp x1 3094387) = 0 → DX11_isKey_199 h x1 x3 s0 M Q)))))))
set_option maxRecDepth 20000 in
set_option maxHeartbeats 2000000 in
theorem VX11_isKey_141 {h : Nat} {x1 : Int64} {x3 : Int32} {s0 : Int32} {M : Mem} {Q : Option Value → Mem → Prop} (H : DX11_isKey_141 h x1 x3 s0 M Q) : T (h + 1) mdX11_isKey 141 [(1, .long x1), (3, .int x3)] [.int s0] M Q := by
  unfold DX11_isKey_141 at H
  refine xt_istore (lv' := [(4, .int s0), (1, .long x1), (3, .int x3)]) dX11_isKey_141 (by decide) rfl ?_
  refine xt_lload_n (j := 1) dX11_isKey_143 rfl rfl ?_
  refine xt_ldc2 (v := 247552) dX11_isKey_144 (ctX11_410 rfl) ?_
  refine xt_lcmp dX11_isKey_147 ?_
  refine xt_if_eq (tgt := 199) dX11_isKey_148 (by decide) (fun hc => ?_) (fun hc => ?_)
  · have H := H.1 hc
    exact xt_sub [1, 2, 0] rfl (VX11_isKey_199 H)
  · have H := H.2 hc
    refine xt_lload_n (j := 1) dX11_isKey_151 rfl rfl ?_
    refine xt_ldc2 (v := 6460043375) dX11_isKey_152 (ctX11_412 rfl) ?_
    refine xt_lcmp dX11_isKey_155 ?_
    refine xt_if_eq (tgt := 199) dX11_isKey_156 (by decide) (fun hc => ?_) (fun hc => ?_)
    · have H := H.1 hc
      exact xt_sub [1, 2, 0] rfl (VX11_isKey_199 H)
    · have H := H.2 hc
      refine xt_lload_n (j := 1) dX11_isKey_159 rfl rfl ?_
      refine xt_ldc2 (v := 985142) dX11_isKey_160 (ctX11_414 rfl) ?_
      refine xt_lcmp dX11_isKey_163 ?_
      refine xt_if_eq (tgt := 199) dX11_isKey_164 (by decide) (fun hc => ?_) (fun hc => ?_)
      · have H := H.1 hc
        exact xt_sub [1, 2, 0] rfl (VX11_isKey_199 H)
      · have H := H.2 hc
        refine xt_lload_n (j := 1) dX11_isKey_167 rfl rfl ?_
        refine xt_ldc2 (v := 582248) dX11_isKey_168 (ctX11_416 rfl) ?_
        refine xt_lcmp dX11_isKey_171 ?_
        refine xt_if_eq (tgt := 199) dX11_isKey_172 (by decide) (fun hc => ?_) (fun hc => ?_)
        · have H := H.1 hc
          exact xt_sub [1, 2, 0] rfl (VX11_isKey_199 H)
        · have H := H.2 hc
          refine xt_lload_n (j := 1) dX11_isKey_175 rfl rfl ?_
          refine xt_ldc2 (v := 456392) dX11_isKey_176 (ctX11_418 rfl) ?_
          refine xt_lcmp dX11_isKey_179 ?_
          refine xt_if_eq (tgt := 199) dX11_isKey_180 (by decide) (fun hc => ?_) (fun hc => ?_)
          · have H := H.1 hc
            exact xt_sub [1, 2, 0] rfl (VX11_isKey_199 H)
          · have H := H.2 hc
            refine xt_lload_n (j := 1) dX11_isKey_183 rfl rfl ?_
            refine xt_ldc2 (v := 7672732672) dX11_isKey_184 (ctX11_420 rfl) ?_
            refine xt_lcmp dX11_isKey_187 ?_
            refine xt_if_eq (tgt := 199) dX11_isKey_188 (by decide) (fun hc => ?_) (fun hc => ?_)
            · have H := H.1 hc
              exact xt_sub [1, 2, 0] rfl (VX11_isKey_199 H)
            · have H := H.2 hc
              refine xt_lload_n (j := 1) dX11_isKey_191 rfl rfl ?_
              refine xt_ldc2 (v := 3094387) dX11_isKey_192 (ctX11_422 rfl) ?_
              refine xt_lcmp dX11_isKey_195 ?_
              refine xt_if_ne (tgt := 203) dX11_isKey_196 (by decide) (fun hc => ?_) (fun hc => ?_)
              · have H := H.1 hc
                refine xt_iconst (v := 0) dX11_isKey_203 (by decide) ?_
                exact xt_sub [1, 2, 0] rfl (VX11_isKey_204 H)
              · have H := H.2 hc
                exact xt_sub [1, 2, 0] rfl (VX11_isKey_199 H)
def DX11_isKey_136 (h : Nat) (x1 : Int64) (x3 : Int32) (M : Mem) (Q : Option Value → Mem → Prop) : Prop :=
  DX11_isKey_141 h x1 x3 1 M Q
set_option maxRecDepth 20000 in
set_option maxHeartbeats 2000000 in
theorem VX11_isKey_136 {h : Nat} {x1 : Int64} {x3 : Int32} {M : Mem} {Q : Option Value → Mem → Prop} (H : DX11_isKey_136 h x1 x3 M Q) : T (h + 1) mdX11_isKey 136 [(1, .long x1), (3, .int x3)] [] M Q := by
  unfold DX11_isKey_136 at H
  refine xt_iconst (v := 1) dX11_isKey_136 (by decide) ?_
  refine xt_goto (tgt := 141) dX11_isKey_137 (by decide) ?_
  exact xt_sub [0, 1] rfl (VX11_isKey_141 H)
def DX11_isKey_71 (h : Nat) (x1 : Int64) (s0 : Int32) (M : Mem) (Q : Option Value → Mem → Prop) : Prop :=
  ((lg_cmp x1 5649913681) = 0 → DX11_isKey_136 h x1 s0 M Q) ∧
  (¬ ((lg_cmp x1 5649913681) = 0) → ((lg_cmp x1 8538566) = 0 → DX11_isKey_136 h x1 s0 M Q) ∧
  (¬ ((lg_cmp x1 8538566) = 0) → ((lg_cmp x1 158537) = 0 → DX11_isKey_136 h x1 s0 M Q) ∧
  (¬ ((lg_cmp x1 158537) = 0) → ((lg_cmp x1 108155) = 0 → DX11_isKey_136 h x1 s0 M Q) ∧
  (¬ ((lg_cmp x1 108155) = 0) → ((lg_cmp x1 7672808363) = 0 → DX11_isKey_136 h x1 s0 M Q) ∧
  (¬ ((lg_cmp x1 7672808363) = 0) → ((lg_cmp x1 116174) = 0 → DX11_isKey_136 h x1 s0 M Q) ∧
  (¬ ((lg_cmp x1 116174) = 0) → ((lg_cmp x1 249) = 0 → DX11_isKey_136 h x1 s0 M Q) ∧
  (¬ ((lg_cmp x1 249) = 0) → (¬ (lg_cmp x1 406825) = 0 → DX11_isKey_141 h x1 s0 0 M Q) ∧
  ((lg_cmp x1 406825) = 0 → DX11_isKey_136 h x1 s0 M Q))))))))
set_option maxRecDepth 20000 in
set_option maxHeartbeats 2000000 in
theorem VX11_isKey_71 {h : Nat} {x1 : Int64} {s0 : Int32} {M : Mem} {Q : Option Value → Mem → Prop} (H : DX11_isKey_71 h x1 s0 M Q) : T (h + 1) mdX11_isKey 71 [(1, .long x1)] [.int s0] M Q := by
  unfold DX11_isKey_71 at H
  refine xt_istore_n (lv' := [(3, .int s0), (1, .long x1)]) dX11_isKey_71 rfl (by decide) rfl ?_
  refine xt_lload_n (j := 1) dX11_isKey_72 rfl rfl ?_
  refine xt_ldc2 (v := 5649913681) dX11_isKey_73 (ctX11_394 rfl) ?_
  refine xt_lcmp dX11_isKey_76 ?_
  refine xt_if_eq (tgt := 136) dX11_isKey_77 (by decide) (fun hc => ?_) (fun hc => ?_)
  · have H := H.1 hc
    exact xt_sub [1, 0] rfl (VX11_isKey_136 H)
  · have H := H.2 hc
    refine xt_lload_n (j := 1) dX11_isKey_80 rfl rfl ?_
    refine xt_ldc2 (v := 8538566) dX11_isKey_81 (ctX11_396 rfl) ?_
    refine xt_lcmp dX11_isKey_84 ?_
    refine xt_if_eq (tgt := 136) dX11_isKey_85 (by decide) (fun hc => ?_) (fun hc => ?_)
    · have H := H.1 hc
      exact xt_sub [1, 0] rfl (VX11_isKey_136 H)
    · have H := H.2 hc
      refine xt_lload_n (j := 1) dX11_isKey_88 rfl rfl ?_
      refine xt_ldc2 (v := 158537) dX11_isKey_89 (ctX11_398 rfl) ?_
      refine xt_lcmp dX11_isKey_92 ?_
      refine xt_if_eq (tgt := 136) dX11_isKey_93 (by decide) (fun hc => ?_) (fun hc => ?_)
      · have H := H.1 hc
        exact xt_sub [1, 0] rfl (VX11_isKey_136 H)
      · have H := H.2 hc
        refine xt_lload_n (j := 1) dX11_isKey_96 rfl rfl ?_
        refine xt_ldc2 (v := 108155) dX11_isKey_97 (ctX11_400 rfl) ?_
        refine xt_lcmp dX11_isKey_100 ?_
        refine xt_if_eq (tgt := 136) dX11_isKey_101 (by decide) (fun hc => ?_) (fun hc => ?_)
        · have H := H.1 hc
          exact xt_sub [1, 0] rfl (VX11_isKey_136 H)
        · have H := H.2 hc
          refine xt_lload_n (j := 1) dX11_isKey_104 rfl rfl ?_
          refine xt_ldc2 (v := 7672808363) dX11_isKey_105 (ctX11_402 rfl) ?_
          refine xt_lcmp dX11_isKey_108 ?_
          refine xt_if_eq (tgt := 136) dX11_isKey_109 (by decide) (fun hc => ?_) (fun hc => ?_)
          · have H := H.1 hc
            exact xt_sub [1, 0] rfl (VX11_isKey_136 H)
          · have H := H.2 hc
            refine xt_lload_n (j := 1) dX11_isKey_112 rfl rfl ?_
            refine xt_ldc2 (v := 116174) dX11_isKey_113 (ctX11_404 rfl) ?_
            refine xt_lcmp dX11_isKey_116 ?_
            refine xt_if_eq (tgt := 136) dX11_isKey_117 (by decide) (fun hc => ?_) (fun hc => ?_)
            · have H := H.1 hc
              exact xt_sub [1, 0] rfl (VX11_isKey_136 H)
            · have H := H.2 hc
              refine xt_lload_n (j := 1) dX11_isKey_120 rfl rfl ?_
              refine xt_ldc2 (v := 249) dX11_isKey_121 (ctX11_406 rfl) ?_
              refine xt_lcmp dX11_isKey_124 ?_
              refine xt_if_eq (tgt := 136) dX11_isKey_125 (by decide) (fun hc => ?_) (fun hc => ?_)
              · have H := H.1 hc
                exact xt_sub [1, 0] rfl (VX11_isKey_136 H)
              · have H := H.2 hc
                refine xt_lload_n (j := 1) dX11_isKey_128 rfl rfl ?_
                refine xt_ldc2 (v := 406825) dX11_isKey_129 (ctX11_408 rfl) ?_
                refine xt_lcmp dX11_isKey_132 ?_
                refine xt_if_ne (tgt := 140) dX11_isKey_133 (by decide) (fun hc => ?_) (fun hc => ?_)
                · have H := H.1 hc
                  refine xt_iconst (v := 0) dX11_isKey_140 (by decide) ?_
                  exact xt_sub [1, 0] rfl (VX11_isKey_141 H)
                · have H := H.2 hc
                  exact xt_sub [1, 0] rfl (VX11_isKey_136 H)
def DX11_isKey_66 (h : Nat) (x1 : Int64) (M : Mem) (Q : Option Value → Mem → Prop) : Prop :=
  DX11_isKey_71 h x1 1 M Q
set_option maxRecDepth 20000 in
set_option maxHeartbeats 2000000 in
theorem VX11_isKey_66 {h : Nat} {x1 : Int64} {M : Mem} {Q : Option Value → Mem → Prop} (H : DX11_isKey_66 h x1 M Q) : T (h + 1) mdX11_isKey 66 [(1, .long x1)] [] M Q := by
  unfold DX11_isKey_66 at H
  refine xt_iconst (v := 1) dX11_isKey_66 (by decide) ?_
  refine xt_goto (tgt := 71) dX11_isKey_67 (by decide) ?_
  exact xt_sub [0] rfl (VX11_isKey_71 H)
def DX11_isKey_0 (h : Nat) (x0 : Nat) (M : Mem) (Q : Option Value → Mem → Prop) : Prop :=
  ok M x0 13 ∧ ∃ b2 : Nat, mR M x0 4 = some b2 ∧ ok M b2 23 ∧ vp_in (mI M x0 5) (mL M b2) ∧ ((lg_cmp (mAJ M b2 (mI M x0 5 : Int32).toNatClampNeg) 5070782) = 0 → DX11_isKey_66 h (mAJ M b2 (mI M x0 5 : Int32).toNatClampNeg) M Q) ∧
  (¬ ((lg_cmp (mAJ M b2 (mI M x0 5 : Int32).toNatClampNeg) 5070782) = 0) → ((lg_cmp (mAJ M b2 (mI M x0 5 : Int32).toNatClampNeg) 226799777) = 0 → DX11_isKey_66 h (mAJ M b2 (mI M x0 5 : Int32).toNatClampNeg) M Q) ∧
  (¬ ((lg_cmp (mAJ M b2 (mI M x0 5 : Int32).toNatClampNeg) 226799777) = 0) → ((lg_cmp (mAJ M b2 (mI M x0 5 : Int32).toNatClampNeg) 277560228) = 0 → DX11_isKey_66 h (mAJ M b2 (mI M x0 5 : Int32).toNatClampNeg) M Q) ∧
  (¬ ((lg_cmp (mAJ M b2 (mI M x0 5 : Int32).toNatClampNeg) 277560228) = 0) → ((lg_cmp (mAJ M b2 (mI M x0 5 : Int32).toNatClampNeg) 11318) = 0 → DX11_isKey_66 h (mAJ M b2 (mI M x0 5 : Int32).toNatClampNeg) M Q) ∧
  (¬ ((lg_cmp (mAJ M b2 (mI M x0 5 : Int32).toNatClampNeg) 11318) = 0) → ((lg_cmp (mAJ M b2 (mI M x0 5 : Int32).toNatClampNeg) 14431) = 0 → DX11_isKey_66 h (mAJ M b2 (mI M x0 5 : Int32).toNatClampNeg) M Q) ∧
  (¬ ((lg_cmp (mAJ M b2 (mI M x0 5 : Int32).toNatClampNeg) 14431) = 0) → ((lg_cmp (mAJ M b2 (mI M x0 5 : Int32).toNatClampNeg) 267347) = 0 → DX11_isKey_66 h (mAJ M b2 (mI M x0 5 : Int32).toNatClampNeg) M Q) ∧
  (¬ ((lg_cmp (mAJ M b2 (mI M x0 5 : Int32).toNatClampNeg) 267347) = 0) → (¬ (lg_cmp (mAJ M b2 (mI M x0 5 : Int32).toNatClampNeg) 16083) = 0 → DX11_isKey_71 h (mAJ M b2 (mI M x0 5 : Int32).toNatClampNeg) 0 M Q) ∧
  ((lg_cmp (mAJ M b2 (mI M x0 5 : Int32).toNatClampNeg) 16083) = 0 → DX11_isKey_66 h (mAJ M b2 (mI M x0 5 : Int32).toNatClampNeg) M Q)))))))
set_option maxRecDepth 20000 in
set_option maxHeartbeats 2000000 in
theorem VX11_isKey_0 {h : Nat} {x0 : Nat} {M : Mem} {Q : Option Value → Mem → Prop} (H : DX11_isKey_0 h x0 M Q) : T (h + 1) mdX11_isKey 0 [(0, .ref x0)] [] M Q := by
  unfold DX11_isKey_0 at H
  refine xt_aload_n (j := 0) dX11_isKey_0 rfl rfl ?_
  obtain ⟨ho1, H⟩ := H
  obtain ⟨b2, hb, H⟩ := H
  refine xt_getR dX11_isKey_1 (flX11_19 rfl) ft_13_4 ho1.1 ho1.2 hb ?_
  refine xt_aload_n (j := 0) dX11_isKey_4 rfl rfl ?_
  refine xt_getI dX11_isKey_5 (flX11_366 rfl) ft_13_5 ho1.1 ho1.2 ?_
  obtain ⟨ho3, H⟩ := H
  obtain ⟨hi, H⟩ := H
  refine xt_lald dX11_isKey_8 ho3.1 ho3.2 hi ?_
  refine xt_lstore_n (lv' := [(1, .long (mAJ M b2 (mI M x0 5 : Int32).toNatClampNeg)), (0, .ref x0)]) dX11_isKey_9 rfl (by decide) rfl ?_
  refine xt_lload_n (j := 0) dX11_isKey_10 rfl rfl ?_
  refine xt_ldc2 (v := 5070782) dX11_isKey_11 (ctX11_380 rfl) ?_
  refine xt_lcmp dX11_isKey_14 ?_
  refine xt_if_eq (tgt := 66) dX11_isKey_15 (by decide) (fun hc => ?_) (fun hc => ?_)
  · have H := H.1 hc
    exact xt_sub [0] rfl (VX11_isKey_66 H)
  · have H := H.2 hc
    refine xt_lload_n (j := 0) dX11_isKey_18 rfl rfl ?_
    refine xt_ldc2 (v := 226799777) dX11_isKey_19 (ctX11_382 rfl) ?_
    refine xt_lcmp dX11_isKey_22 ?_
    refine xt_if_eq (tgt := 66) dX11_isKey_23 (by decide) (fun hc => ?_) (fun hc => ?_)
    · have H := H.1 hc
      exact xt_sub [0] rfl (VX11_isKey_66 H)
    · have H := H.2 hc
      refine xt_lload_n (j := 0) dX11_isKey_26 rfl rfl ?_
      refine xt_ldc2 (v := 277560228) dX11_isKey_27 (ctX11_384 rfl) ?_
      refine xt_lcmp dX11_isKey_30 ?_
      refine xt_if_eq (tgt := 66) dX11_isKey_31 (by decide) (fun hc => ?_) (fun hc => ?_)
      · have H := H.1 hc
        exact xt_sub [0] rfl (VX11_isKey_66 H)
      · have H := H.2 hc
        refine xt_lload_n (j := 0) dX11_isKey_34 rfl rfl ?_
        refine xt_ldc2 (v := 11318) dX11_isKey_35 (ctX11_386 rfl) ?_
        refine xt_lcmp dX11_isKey_38 ?_
        refine xt_if_eq (tgt := 66) dX11_isKey_39 (by decide) (fun hc => ?_) (fun hc => ?_)
        · have H := H.1 hc
          exact xt_sub [0] rfl (VX11_isKey_66 H)
        · have H := H.2 hc
          refine xt_lload_n (j := 0) dX11_isKey_42 rfl rfl ?_
          refine xt_ldc2 (v := 14431) dX11_isKey_43 (ctX11_388 rfl) ?_
          refine xt_lcmp dX11_isKey_46 ?_
          refine xt_if_eq (tgt := 66) dX11_isKey_47 (by decide) (fun hc => ?_) (fun hc => ?_)
          · have H := H.1 hc
            exact xt_sub [0] rfl (VX11_isKey_66 H)
          · have H := H.2 hc
            refine xt_lload_n (j := 0) dX11_isKey_50 rfl rfl ?_
            refine xt_ldc2 (v := 267347) dX11_isKey_51 (ctX11_390 rfl) ?_
            refine xt_lcmp dX11_isKey_54 ?_
            refine xt_if_eq (tgt := 66) dX11_isKey_55 (by decide) (fun hc => ?_) (fun hc => ?_)
            · have H := H.1 hc
              exact xt_sub [0] rfl (VX11_isKey_66 H)
            · have H := H.2 hc
              refine xt_lload_n (j := 0) dX11_isKey_58 rfl rfl ?_
              refine xt_ldc2 (v := 16083) dX11_isKey_59 (ctX11_392 rfl) ?_
              refine xt_lcmp dX11_isKey_62 ?_
              refine xt_if_ne (tgt := 70) dX11_isKey_63 (by decide) (fun hc => ?_) (fun hc => ?_)
              · have H := H.1 hc
                refine xt_iconst (v := 0) dX11_isKey_70 (by decide) ?_
                exact xt_sub [0] rfl (VX11_isKey_71 H)
              · have H := H.2 hc
                exact xt_sub [0] rfl (VX11_isKey_66 H)
theorem KX11_isKey {h : Nat} {x0 : Nat} {M : Mem} {Q : Option Value → Mem → Prop} (H : DX11_isKey_0 h x0 M Q) : E (h + 1) mdX11_isKey [.ref x0] M Q := E.of (by decide) (Nat.le_of_ble_eq_true rfl) (fun _ _ _ => trivial) (VX11_isKey_0 H)
def DX11_isName_25 (h : Nat) (s0 : Int32) (M : Mem) (Q : Option Value → Mem → Prop) : Prop :=
  (s0 = 0 ∨ s0 = 1) ∧ Q (some (.int s0)) M
set_option maxRecDepth 20000 in
set_option maxHeartbeats 2000000 in
theorem VX11_isName_25 {h : Nat} {s0 : Int32} {M : Mem} {Q : Option Value → Mem → Prop} (H : DX11_isName_25 h s0 M Q) : T (h + 1) mdX11_isName 25 [] [.int s0] M Q := by
  unfold DX11_isName_25 at H
  exact xt_zreturn dX11_isName_25 rfl H.1 H.2
def DX11_isName_24 (h : Nat) (M : Mem) (Q : Option Value → Mem → Prop) : Prop :=
  DX11_isName_25 h 0 M Q
set_option maxRecDepth 20000 in
set_option maxHeartbeats 2000000 in
theorem VX11_isName_24 {h : Nat} {M : Mem} {Q : Option Value → Mem → Prop} (H : DX11_isName_24 h  M Q) : T (h + 1) mdX11_isName 24 [] [] M Q := by
  unfold DX11_isName_24 at H
  refine xt_iconst (v := 0) dX11_isName_24 (by decide) ?_
  exact xt_sub [] rfl (VX11_isName_25 H)
def DX11_isName_0 (h : Nat) (x0 : Nat) (M : Mem) (Q : Option Value → Mem → Prop) : Prop :=
  ok M x0 13 ∧ ∃ b2 : Nat, mR M x0 2 = some b2 ∧ ok M b2 21 ∧ vp_in (mI M x0 5) (mL M b2) ∧ (¬ (mAI M b2 (mI M x0 5 : Int32).toNatClampNeg) = 1 → DX11_isName_24 h  M Q) ∧
  ((mAI M b2 (mI M x0 5 : Int32).toNatClampNeg) = 1 → E h mdX11_isKey [.ref x0] M (fun r M4 => mE M M4 → ∃ r5 : Int32, r = some (.int r5) ∧ (¬ r5 = 0 → DX11_isName_24 h  M4 Q) ∧
  (r5 = 0 → DX11_isName_25 h 1 M4 Q)))
set_option maxRecDepth 20000 in
set_option maxHeartbeats 2000000 in
theorem VX11_isName_0 {h : Nat} {x0 : Nat} {M : Mem} {Q : Option Value → Mem → Prop} (H : DX11_isName_0 h x0 M Q) : T (h + 1) mdX11_isName 0 [(0, .ref x0)] [] M Q := by
  unfold DX11_isName_0 at H
  refine xt_aload_n (j := 0) dX11_isName_0 rfl rfl ?_
  obtain ⟨ho1, H⟩ := H
  obtain ⟨b2, hb, H⟩ := H
  refine xt_getR dX11_isName_1 (flX11_13 rfl) ft_13_2 ho1.1 ho1.2 hb ?_
  refine xt_aload_n (j := 0) dX11_isName_4 rfl rfl ?_
  refine xt_getI dX11_isName_5 (flX11_366 rfl) ft_13_5 ho1.1 ho1.2 ?_
  obtain ⟨ho3, H⟩ := H
  obtain ⟨hi, H⟩ := H
  refine xt_iald dX11_isName_8 ho3.1 ho3.2 hi ?_
  refine xt_iconst (v := 1) dX11_isName_9 (by decide) ?_
  refine xt_icmp_ne (tgt := 24) dX11_isName_10 (by decide) (fun hc => ?_) (fun hc => ?_)
  · have H := H.1 hc
    exact xt_sub [] rfl (VX11_isName_24 H)
  · have H := H.2 hc
    refine xt_aload_n (j := 0) dX11_isName_13 rfl rfl ?_
    refine xt_callV (h2 := h) (as := []) (st := []) dX11_isName_14 (mlX11_446 rfl) rfl ho1.1 ⟨by rw [ho1.2]; rfl, by rw [ho1.2]; decide⟩ (by first | decide | (simp [Value.category]; done)) (Nat.le_refl _) H (fun r M4 HH hE => ?_)
    obtain ⟨r5, hr, H⟩ := HH hE
    subst hr
    have ho1 := ok_E ho1 hE
    show T _ _ _ _ [.int r5] _ _
    refine xt_if_ne (tgt := 24) dX11_isName_17 (by decide) (fun hc => ?_) (fun hc => ?_)
    · have H := H.1 hc
      exact xt_sub [] rfl (VX11_isName_24 H)
    · have H := H.2 hc
      refine xt_iconst (v := 1) dX11_isName_20 (by decide) ?_
      refine xt_goto (tgt := 25) dX11_isName_21 (by decide) ?_
      exact xt_sub [] rfl (VX11_isName_25 H)
theorem KX11_isName {h : Nat} {x0 : Nat} {M : Mem} {Q : Option Value → Mem → Prop} (H : DX11_isName_0 h x0 M Q) : E (h + 1) mdX11_isName [.ref x0] M Q := E.of (by decide) (Nat.le_of_ble_eq_true rfl) (fun _ _ _ => trivial) (VX11_isName_0 H)
def DX11_signalNamed_2 (h : Nat) (x0 : Nat) (x1 : Int64) (x3 : Int32) (M : Mem) (Q : Option Value → Mem → Prop) : Prop :=
  ok M x0 13 ∧ ∃ b2 : Nat, mR M x0 8 = some b2 ∧ ok M b2 21 ∧ vp_in (mI M x0 19) (mL M b2) ∧ ((mAI M b2 (mI M x0 19 : Int32).toNatClampNeg) ≤ x3 → Q (some (.int (-1))) M) ∧
  (¬ ((mAI M b2 (mI M x0 19 : Int32).toNatClampNeg) ≤ x3) → ∃ b4 : Nat, mR M x0 11 = some b4 ∧ ok M b4 23 ∧ vp_in ((16 * (mI M x0 19)) + x3) (mL M b4) ∧ (¬ (lg_cmp (mAJ M b4 ((16 * (mI M x0 19)) + x3 : Int32).toNatClampNeg) x1) = 0 → T (h + 1) mdX11_signalNamed 2 [(0, .ref x0), (1, .long x1), (3, .int (x3 + 1))] [] M Q) ∧
  ((lg_cmp (mAJ M b4 ((16 * (mI M x0 19)) + x3 : Int32).toNatClampNeg) x1) = 0 → Q (some (.int x3)) M))
set_option maxRecDepth 20000 in
set_option maxHeartbeats 2000000 in
theorem VX11_signalNamed_2 {h : Nat} {x0 : Nat} {x1 : Int64} {x3 : Int32} {M : Mem} {Q : Option Value → Mem → Prop} (H : DX11_signalNamed_2 h x0 x1 x3 M Q) : T (h + 1) mdX11_signalNamed 2 [(0, .ref x0), (1, .long x1), (3, .int x3)] [] M Q := by
  unfold DX11_signalNamed_2 at H
  refine xt_iload_n (j := 2) dX11_signalNamed_2 rfl rfl ?_
  refine xt_aload_n (j := 0) dX11_signalNamed_3 rfl rfl ?_
  obtain ⟨ho1, H⟩ := H
  obtain ⟨b2, hb, H⟩ := H
  refine xt_getR dX11_signalNamed_4 (flX11_23 rfl) ft_13_8 ho1.1 ho1.2 hb ?_
  refine xt_aload_n (j := 0) dX11_signalNamed_7 rfl rfl ?_
  refine xt_getI dX11_signalNamed_8 (flX11_450 rfl) ft_13_19 ho1.1 ho1.2 ?_
  obtain ⟨ho3, H⟩ := H
  obtain ⟨hi, H⟩ := H
  refine xt_iald dX11_signalNamed_11 ho3.1 ho3.2 hi ?_
  refine xt_icmp_ge (tgt := 42) dX11_signalNamed_12 (by decide) (fun hc => ?_) (fun hc => ?_)
  · have H := H.1 hc
    refine xt_iconst (v := -1) dX11_signalNamed_42 (by decide) ?_
    exact xt_ireturn dX11_signalNamed_43 rfl H
  · have H := H.2 hc
    refine xt_aload_n (j := 0) dX11_signalNamed_15 rfl rfl ?_
    obtain ⟨b4, hb, H⟩ := H
    refine xt_getR dX11_signalNamed_16 (flX11_32 rfl) ft_13_11 ho1.1 ho1.2 hb ?_
    refine xt_bipush (v := 16) dX11_signalNamed_19 (by decide) ?_
    refine xt_aload_n (j := 0) dX11_signalNamed_21 rfl rfl ?_
    refine xt_getI dX11_signalNamed_22 (flX11_450 rfl) ft_13_19 ho1.1 ho1.2 ?_
    refine xt_imul dX11_signalNamed_25 ?_
    refine xt_iload_n (j := 2) dX11_signalNamed_26 rfl rfl ?_
    refine xt_iadd dX11_signalNamed_27 ?_
    obtain ⟨ho5, H⟩ := H
    obtain ⟨hi, H⟩ := H
    refine xt_lald dX11_signalNamed_28 ho5.1 ho5.2 hi ?_
    refine xt_lload_n (j := 1) dX11_signalNamed_29 rfl rfl ?_
    refine xt_lcmp dX11_signalNamed_30 ?_
    refine xt_if_ne (tgt := 36) dX11_signalNamed_31 (by decide) (fun hc => ?_) (fun hc => ?_)
    · have H := H.1 hc
      refine xt_iinc (j := 2) (v := x3 + 1) (lv' := [(3, .int (x3 + 1)), (0, .ref x0), (1, .long x1)]) dX11_signalNamed_36 rfl (by rfl) (by decide) rfl ?_
      refine xt_goto (tgt := 2) dX11_signalNamed_39 (by decide) ?_
      exact xt_sub (lv' := [(0, .ref x0), (1, .long x1), (3, .int (x3 + 1))]) [1, 2, 0] rfl H
    · have H := H.2 hc
      refine xt_iload_n (j := 2) dX11_signalNamed_34 rfl rfl ?_
      exact xt_ireturn dX11_signalNamed_35 rfl H
def DX11_signalNamed_0 (h : Nat) (x0 : Nat) (x1 : Int64) (M : Mem) (Q : Option Value → Mem → Prop) : Prop :=
  T (h + 1) mdX11_signalNamed 2 [(0, .ref x0), (1, .long x1), (3, .int 0)] [] M Q
set_option maxRecDepth 20000 in
set_option maxHeartbeats 2000000 in
theorem VX11_signalNamed_0 {h : Nat} {x0 : Nat} {x1 : Int64} {M : Mem} {Q : Option Value → Mem → Prop} (H : DX11_signalNamed_0 h x0 x1 M Q) : T (h + 1) mdX11_signalNamed 0 [(0, .ref x0), (1, .long x1)] [] M Q := by
  unfold DX11_signalNamed_0 at H
  refine xt_iconst (v := 0) dX11_signalNamed_0 (by decide) ?_
  refine xt_istore_n (lv' := [(3, .int 0), (0, .ref x0), (1, .long x1)]) dX11_signalNamed_1 rfl (by decide) rfl ?_
  exact xt_sub (lv' := [(0, .ref x0), (1, .long x1), (3, .int 0)]) [1, 2, 0] rfl H
theorem KX11_signalNamed {h : Nat} {x0 : Nat} {x1 : Int64} {M : Mem} {Q : Option Value → Mem → Prop} (H : DX11_signalNamed_0 h x0 x1 M Q) : E (h + 1) mdX11_signalNamed [.ref x0, .long x1] M Q := E.of (by decide) (Nat.le_of_ble_eq_true rfl) (fun _ _ _ => trivial) (VX11_signalNamed_0 H)
def DX11_variableNamed_2 (h : Nat) (x0 : Nat) (x1 : Int64) (x3 : Int32) (M : Mem) (Q : Option Value → Mem → Prop) : Prop :=
  ok M x0 13 ∧ ∃ b2 : Nat, mR M x0 10 = some b2 ∧ ok M b2 21 ∧ vp_in (mI M x0 19) (mL M b2) ∧ ((mAI M b2 (mI M x0 19 : Int32).toNatClampNeg) ≤ x3 → Q (some (.int (-1))) M) ∧
  (¬ ((mAI M b2 (mI M x0 19 : Int32).toNatClampNeg) ≤ x3) → ∃ b4 : Nat, mR M x0 16 = some b4 ∧ ok M b4 23 ∧ vp_in ((6 * (mI M x0 19)) + x3) (mL M b4) ∧ (¬ (lg_cmp (mAJ M b4 ((6 * (mI M x0 19)) + x3 : Int32).toNatClampNeg) x1) = 0 → T (h + 1) mdX11_variableNamed 2 [(0, .ref x0), (1, .long x1), (3, .int (x3 + 1))] [] M Q) ∧
  ((lg_cmp (mAJ M b4 ((6 * (mI M x0 19)) + x3 : Int32).toNatClampNeg) x1) = 0 → Q (some (.int x3)) M))
set_option maxRecDepth 20000 in
set_option maxHeartbeats 2000000 in
theorem VX11_variableNamed_2 {h : Nat} {x0 : Nat} {x1 : Int64} {x3 : Int32} {M : Mem} {Q : Option Value → Mem → Prop} (H : DX11_variableNamed_2 h x0 x1 x3 M Q) : T (h + 1) mdX11_variableNamed 2 [(0, .ref x0), (1, .long x1), (3, .int x3)] [] M Q := by
  unfold DX11_variableNamed_2 at H
  refine xt_iload_n (j := 2) dX11_variableNamed_2 rfl rfl ?_
  refine xt_aload_n (j := 0) dX11_variableNamed_3 rfl rfl ?_
  obtain ⟨ho1, H⟩ := H
  obtain ⟨b2, hb, H⟩ := H
  refine xt_getR dX11_variableNamed_4 (flX11_29 rfl) ft_13_10 ho1.1 ho1.2 hb ?_
  refine xt_aload_n (j := 0) dX11_variableNamed_7 rfl rfl ?_
  refine xt_getI dX11_variableNamed_8 (flX11_450 rfl) ft_13_19 ho1.1 ho1.2 ?_
  obtain ⟨ho3, H⟩ := H
  obtain ⟨hi, H⟩ := H
  refine xt_iald dX11_variableNamed_11 ho3.1 ho3.2 hi ?_
  refine xt_icmp_ge (tgt := 42) dX11_variableNamed_12 (by decide) (fun hc => ?_) (fun hc => ?_)
  · have H := H.1 hc
    refine xt_iconst (v := -1) dX11_variableNamed_42 (by decide) ?_
    exact xt_ireturn dX11_variableNamed_43 rfl H
  · have H := H.2 hc
    refine xt_aload_n (j := 0) dX11_variableNamed_15 rfl rfl ?_
    obtain ⟨b4, hb, H⟩ := H
    refine xt_getR dX11_variableNamed_16 (flX11_48 rfl) ft_13_16 ho1.1 ho1.2 hb ?_
    refine xt_bipush (v := 6) dX11_variableNamed_19 (by decide) ?_
    refine xt_aload_n (j := 0) dX11_variableNamed_21 rfl rfl ?_
    refine xt_getI dX11_variableNamed_22 (flX11_450 rfl) ft_13_19 ho1.1 ho1.2 ?_
    refine xt_imul dX11_variableNamed_25 ?_
    refine xt_iload_n (j := 2) dX11_variableNamed_26 rfl rfl ?_
    refine xt_iadd dX11_variableNamed_27 ?_
    obtain ⟨ho5, H⟩ := H
    obtain ⟨hi, H⟩ := H
    refine xt_lald dX11_variableNamed_28 ho5.1 ho5.2 hi ?_
    refine xt_lload_n (j := 1) dX11_variableNamed_29 rfl rfl ?_
    refine xt_lcmp dX11_variableNamed_30 ?_
    refine xt_if_ne (tgt := 36) dX11_variableNamed_31 (by decide) (fun hc => ?_) (fun hc => ?_)
    · have H := H.1 hc
      refine xt_iinc (j := 2) (v := x3 + 1) (lv' := [(3, .int (x3 + 1)), (0, .ref x0), (1, .long x1)]) dX11_variableNamed_36 rfl (by rfl) (by decide) rfl ?_
      refine xt_goto (tgt := 2) dX11_variableNamed_39 (by decide) ?_
      exact xt_sub (lv' := [(0, .ref x0), (1, .long x1), (3, .int (x3 + 1))]) [1, 2, 0] rfl H
    · have H := H.2 hc
      refine xt_iload_n (j := 2) dX11_variableNamed_34 rfl rfl ?_
      exact xt_ireturn dX11_variableNamed_35 rfl H
def DX11_variableNamed_0 (h : Nat) (x0 : Nat) (x1 : Int64) (M : Mem) (Q : Option Value → Mem → Prop) : Prop :=
  T (h + 1) mdX11_variableNamed 2 [(0, .ref x0), (1, .long x1), (3, .int 0)] [] M Q
set_option maxRecDepth 20000 in
set_option maxHeartbeats 2000000 in
theorem VX11_variableNamed_0 {h : Nat} {x0 : Nat} {x1 : Int64} {M : Mem} {Q : Option Value → Mem → Prop} (H : DX11_variableNamed_0 h x0 x1 M Q) : T (h + 1) mdX11_variableNamed 0 [(0, .ref x0), (1, .long x1)] [] M Q := by
  unfold DX11_variableNamed_0 at H
  refine xt_iconst (v := 0) dX11_variableNamed_0 (by decide) ?_
  refine xt_istore_n (lv' := [(3, .int 0), (0, .ref x0), (1, .long x1)]) dX11_variableNamed_1 rfl (by decide) rfl ?_
  exact xt_sub (lv' := [(0, .ref x0), (1, .long x1), (3, .int 0)]) [1, 2, 0] rfl H
theorem KX11_variableNamed {h : Nat} {x0 : Nat} {x1 : Int64} {M : Mem} {Q : Option Value → Mem → Prop} (H : DX11_variableNamed_0 h x0 x1 M Q) : E (h + 1) mdX11_variableNamed [.ref x0, .long x1] M Q := E.of (by decide) (Nat.le_of_ble_eq_true rfl) (fun _ _ _ => trivial) (VX11_variableNamed_0 H)
def DX11_readTold_144 (h : Nat) (M : Mem) (Q : Option Value → Mem → Prop) : Prop :=
  Q none M
set_option maxRecDepth 20000 in
set_option maxHeartbeats 2000000 in
theorem VX11_readTold_144 {h : Nat} {M : Mem} {Q : Option Value → Mem → Prop} (H : DX11_readTold_144 h  M Q) : T (h + 1) mdX11_readTold 144 [] [] M Q := by
  unfold DX11_readTold_144 at H
  exact xt_return dX11_readTold_144 rfl H
def DX11_readTold_141 (h : Nat) (x0 : Nat) (x1 : Int32) (M : Mem) (Q : Option Value → Mem → Prop) : Prop :=
  T (h + 1) mdX11_readTold 2 [(0, .ref x0), (1, .int x1)] [] M Q
set_option maxRecDepth 20000 in
set_option maxHeartbeats 2000000 in
theorem VX11_readTold_141 {h : Nat} {x0 : Nat} {x1 : Int32} {M : Mem} {Q : Option Value → Mem → Prop} (H : DX11_readTold_141 h x0 x1 M Q) : T (h + 1) mdX11_readTold 141 [(0, .ref x0), (1, .int x1)] [] M Q := by
  unfold DX11_readTold_141 at H
  refine xt_goto (tgt := 2) dX11_readTold_141 (by decide) ?_
  exact xt_sub (lv' := [(0, .ref x0), (1, .int x1)]) [0, 1] rfl H
def DX11_readTold_133 (h : Nat) (x0 : Nat) (x1 : Int32) (M : Mem) (Q : Option Value → Mem → Prop) : Prop :=
  ok M x0 13 ∧ E h mdX11_want [.ref x0, .int 3, .long 59] M (fun r M2 => mE M M2 → r = none ∧ DX11_readTold_141 h x0 x1 M2 Q)
set_option maxRecDepth 20000 in
set_option maxHeartbeats 2000000 in
theorem VX11_readTold_133 {h : Nat} {x0 : Nat} {x1 : Int32} {M : Mem} {Q : Option Value → Mem → Prop} (H : DX11_readTold_133 h x0 x1 M Q) : T (h + 1) mdX11_readTold 133 [(0, .ref x0), (1, .int x1)] [] M Q := by
  unfold DX11_readTold_133 at H
  refine xt_aload_n (j := 0) dX11_readTold_133 rfl rfl ?_
  refine xt_iconst (v := 3) dX11_readTold_134 (by decide) ?_
  refine xt_ldc2 (v := 59) dX11_readTold_135 (ctX11_462 rfl) ?_
  obtain ⟨ho1, H⟩ := H
  refine xt_callV (h2 := h) (as := [.int 3, .long 59]) (st := []) dX11_readTold_138 (mlX11_464 rfl) rfl ho1.1 ⟨by rw [ho1.2]; rfl, by rw [ho1.2]; decide⟩ (by first | decide | (simp [Value.category]; done)) (Nat.le_refl _) H (fun r M2 HH hE => ?_)
  obtain ⟨hr, H⟩ := HH hE
  subst hr
  have ho1 := ok_E ho1 hE
  show T _ _ _ _ [] _ _
  exact xt_sub [0, 1] rfl (VX11_readTold_141 H)
def DX11_readTold_106 (h : Nat) (x0 : Nat) (x1 : Int32) (x2 : Int32) (M : Mem) (Q : Option Value → Mem → Prop) : Prop :=
  ok M x0 13 ∧ (¬ (mI M x0 6) = 0 → DX11_readTold_133 h x0 x1 M Q) ∧
  ((mI M x0 6) = 0 → E h mdX11_take [.ref x0] M (fun r M2 => mE M M2 → r = none ∧ (3 ≤ x2 → E h mdX11_readFirst [.ref x0] M2 (fun r M3 => mE M2 M3 → r = none ∧ DX11_readTold_133 h x0 x1 M3 Q)) ∧
  (¬ (3 ≤ x2) → E h mdX11_readHow [.ref x0] M2 (fun r M4 => mE M2 M4 → r = none ∧ DX11_readTold_133 h x0 x1 M4 Q))))
set_option maxRecDepth 20000 in
set_option maxHeartbeats 2000000 in
theorem VX11_readTold_106 {h : Nat} {x0 : Nat} {x1 : Int32} {x2 : Int32} {M : Mem} {Q : Option Value → Mem → Prop} (H : DX11_readTold_106 h x0 x1 x2 M Q) : T (h + 1) mdX11_readTold 106 [(0, .ref x0), (1, .int x1), (2, .int x2)] [] M Q := by
  unfold DX11_readTold_106 at H
  refine xt_aload_n (j := 0) dX11_readTold_106 rfl rfl ?_
  obtain ⟨ho1, H⟩ := H
  refine xt_getI dX11_readTold_107 (flX11_360 rfl) ft_13_6 ho1.1 ho1.2 ?_
  refine xt_if_ne (tgt := 133) dX11_readTold_110 (by decide) (fun hc => ?_) (fun hc => ?_)
  · have H := H.1 hc
    exact xt_sub [0, 1] rfl (VX11_readTold_133 H)
  · have H := H.2 hc
    refine xt_aload_n (j := 0) dX11_readTold_113 rfl rfl ?_
    refine xt_callV (h2 := h) (as := []) (st := []) dX11_readTold_114 (mlX11_377 rfl) rfl ho1.1 ⟨by rw [ho1.2]; rfl, by rw [ho1.2]; decide⟩ (by first | decide | (simp [Value.category]; done)) (Nat.le_refl _) H (fun r M2 HH hE => ?_)
    obtain ⟨hr, H⟩ := HH hE
    subst hr
    have ho1 := ok_E ho1 hE
    show T _ _ _ _ [] _ _
    refine xt_iload_n (j := 2) dX11_readTold_117 rfl rfl ?_
    refine xt_iconst (v := 3) dX11_readTold_118 (by decide) ?_
    refine xt_icmp_ge (tgt := 129) dX11_readTold_119 (by decide) (fun hc => ?_) (fun hc => ?_)
    · have H := H.1 hc
      refine xt_aload_n (j := 0) dX11_readTold_129 rfl rfl ?_
      refine xt_callV (h2 := h) (as := []) (st := []) dX11_readTold_130 (mlX11_459 rfl) rfl ho1.1 ⟨by rw [ho1.2]; rfl, by rw [ho1.2]; decide⟩ (by first | decide | (simp [Value.category]; done)) (Nat.le_refl _) H (fun r M3 HH hE => ?_)
      obtain ⟨hr, H⟩ := HH hE
      subst hr
      have ho1 := ok_E ho1 hE
      show T _ _ _ _ [] _ _
      exact xt_sub [0, 1] rfl (VX11_readTold_133 H)
    · have H := H.2 hc
      refine xt_aload_n (j := 0) dX11_readTold_122 rfl rfl ?_
      refine xt_callV (h2 := h) (as := []) (st := []) dX11_readTold_123 (mlX11_456 rfl) rfl ho1.1 ⟨by rw [ho1.2]; rfl, by rw [ho1.2]; decide⟩ (by first | decide | (simp [Value.category]; done)) (Nat.le_refl _) H (fun r M4 HH hE => ?_)
      obtain ⟨hr, H⟩ := HH hE
      subst hr
      have ho1 := ok_E ho1 hE
      show T _ _ _ _ [] _ _
      refine xt_goto (tgt := 133) dX11_readTold_126 (by decide) ?_
      exact xt_sub [0, 1] rfl (VX11_readTold_133 H)
def DX11_readTold_85 (h : Nat) (x0 : Nat) (x2 : Int32) (s0 : Int32) (M : Mem) (Q : Option Value → Mem → Prop) : Prop :=
  (s0 = 0 → DX11_readTold_141 h x0 s0 M Q) ∧
  (¬ (s0 = 0) → ok M x0 13 ∧ E h mdX11_take [.ref x0] M (fun r M2 => mE M M2 → r = none ∧ (¬ (mI M2 x0 6) = 0 → DX11_readTold_106 h x0 s0 x2 M2 Q) ∧
  ((mI M2 x0 6) = 0 → E h mdX11_readName [.ref x0, .int x2] M2 (fun r M3 => mE M2 M3 → r = none ∧ DX11_readTold_106 h x0 s0 x2 M3 Q))))
set_option maxRecDepth 20000 in
set_option maxHeartbeats 2000000 in
theorem VX11_readTold_85 {h : Nat} {x0 : Nat} {x2 : Int32} {s0 : Int32} {M : Mem} {Q : Option Value → Mem → Prop} (H : DX11_readTold_85 h x0 x2 s0 M Q) : T (h + 1) mdX11_readTold 85 [(0, .ref x0), (2, .int x2)] [.int s0] M Q := by
  unfold DX11_readTold_85 at H
  refine xt_istore_n (lv' := [(1, .int s0), (0, .ref x0), (2, .int x2)]) dX11_readTold_85 rfl (by decide) rfl ?_
  refine xt_iload_n (j := 0) dX11_readTold_86 rfl rfl ?_
  refine xt_if_eq (tgt := 141) dX11_readTold_87 (by decide) (fun hc => ?_) (fun hc => ?_)
  · have H := H.1 hc
    exact xt_sub [1, 0] rfl (VX11_readTold_141 H)
  · have H := H.2 hc
    refine xt_aload_n (j := 1) dX11_readTold_90 rfl rfl ?_
    obtain ⟨ho1, H⟩ := H
    refine xt_callV (h2 := h) (as := []) (st := []) dX11_readTold_91 (mlX11_377 rfl) rfl ho1.1 ⟨by rw [ho1.2]; rfl, by rw [ho1.2]; decide⟩ (by first | decide | (simp [Value.category]; done)) (Nat.le_refl _) H (fun r M2 HH hE => ?_)
    obtain ⟨hr, H⟩ := HH hE
    subst hr
    have ho1 := ok_E ho1 hE
    show T _ _ _ _ [] _ _
    refine xt_aload_n (j := 1) dX11_readTold_94 rfl rfl ?_
    refine xt_getI dX11_readTold_95 (flX11_360 rfl) ft_13_6 ho1.1 ho1.2 ?_
    refine xt_if_ne (tgt := 106) dX11_readTold_98 (by decide) (fun hc => ?_) (fun hc => ?_)
    · have H := H.1 hc
      exact xt_sub [1, 0, 2] rfl (VX11_readTold_106 H)
    · have H := H.2 hc
      refine xt_aload_n (j := 1) dX11_readTold_101 rfl rfl ?_
      refine xt_iload_n (j := 2) dX11_readTold_102 rfl rfl ?_
      refine xt_callV (h2 := h) (as := [.int x2]) (st := []) dX11_readTold_103 (mlX11_453 rfl) rfl ho1.1 ⟨by rw [ho1.2]; rfl, by rw [ho1.2]; decide⟩ (by first | decide | (simp [Value.category]; done)) (Nat.le_refl _) H (fun r M3 HH hE => ?_)
      obtain ⟨hr, H⟩ := HH hE
      subst hr
      have ho1 := ok_E ho1 hE
      show T _ _ _ _ [] _ _
      exact xt_sub [1, 0, 2] rfl (VX11_readTold_106 H)
def DX11_readTold_74 (h : Nat) (x0 : Nat) (s0 : Int32) (M : Mem) (Q : Option Value → Mem → Prop) : Prop :=
  (4 ≤ s0 → DX11_readTold_85 h x0 s0 0 M Q) ∧
  (¬ (4 ≤ s0) → DX11_readTold_85 h x0 s0 1 M Q)
set_option maxRecDepth 20000 in
set_option maxHeartbeats 2000000 in
theorem VX11_readTold_74 {h : Nat} {x0 : Nat} {s0 : Int32} {M : Mem} {Q : Option Value → Mem → Prop} (H : DX11_readTold_74 h x0 s0 M Q) : T (h + 1) mdX11_readTold 74 [(0, .ref x0)] [.int s0] M Q := by
  unfold DX11_readTold_74 at H
  refine xt_istore_n (lv' := [(2, .int s0), (0, .ref x0)]) dX11_readTold_74 rfl (by decide) rfl ?_
  refine xt_iload_n (j := 0) dX11_readTold_75 rfl rfl ?_
  refine xt_iconst (v := 4) dX11_readTold_76 (by decide) ?_
  refine xt_icmp_ge (tgt := 84) dX11_readTold_77 (by decide) (fun hc => ?_) (fun hc => ?_)
  · have H := H.1 hc
    refine xt_iconst (v := 0) dX11_readTold_84 (by decide) ?_
    exact xt_sub [1, 0] rfl (VX11_readTold_85 H)
  · have H := H.2 hc
    refine xt_iconst (v := 1) dX11_readTold_80 (by decide) ?_
    refine xt_goto (tgt := 85) dX11_readTold_81 (by decide) ?_
    exact xt_sub [1, 0] rfl (VX11_readTold_85 H)
def DX11_readTold_2 (h : Nat) (x0 : Nat) (x1 : Int32) (M : Mem) (Q : Option Value → Mem → Prop) : Prop :=
  (x1 = 0 → DX11_readTold_144 h  M Q) ∧
  (¬ (x1 = 0) → ok M x0 13 ∧ (¬ (mI M x0 6) = 0 → DX11_readTold_144 h  M Q) ∧
  ((mI M x0 6) = 0 → E h mdX11_isSaid [.ref x0, .int 1, .long 5070782] M (fun r M2 => mE M M2 → ∃ r3 : Int32, r = some (.int r3) ∧ (r3 = 0 → E h mdX11_isSaid [.ref x0, .int 1, .long 226799777] M2 (fun r M4 => mE M2 M4 → ∃ r5 : Int32, r = some (.int r5) ∧ (r5 = 0 → E h mdX11_isSaid [.ref x0, .int 1, .long 277560228] M4 (fun r M6 => mE M4 M6 → ∃ r7 : Int32, r = some (.int r7) ∧ (r7 = 0 → E h mdX11_isSaid [.ref x0, .int 1, .long 16083] M6 (fun r M8 => mE M6 M8 → ∃ r9 : Int32, r = some (.int r9) ∧ (r9 = 0 → DX11_readTold_74 h x0 4 M8 Q) ∧
  (¬ (r9 = 0) → DX11_readTold_74 h x0 3 M8 Q))) ∧
  (¬ (r7 = 0) → DX11_readTold_74 h x0 2 M6 Q))) ∧
  (¬ (r5 = 0) → DX11_readTold_74 h x0 1 M4 Q))) ∧
  (¬ (r3 = 0) → DX11_readTold_74 h x0 0 M2 Q))))
set_option maxRecDepth 20000 in
set_option maxHeartbeats 2000000 in
theorem VX11_readTold_2 {h : Nat} {x0 : Nat} {x1 : Int32} {M : Mem} {Q : Option Value → Mem → Prop} (H : DX11_readTold_2 h x0 x1 M Q) : T (h + 1) mdX11_readTold 2 [(0, .ref x0), (1, .int x1)] [] M Q := by
  unfold DX11_readTold_2 at H
  refine xt_iload_n (j := 1) dX11_readTold_2 rfl rfl ?_
  refine xt_if_eq (tgt := 144) dX11_readTold_3 (by decide) (fun hc => ?_) (fun hc => ?_)
  · have H := H.1 hc
    exact xt_sub [] rfl (VX11_readTold_144 H)
  · have H := H.2 hc
    refine xt_aload_n (j := 0) dX11_readTold_6 rfl rfl ?_
    obtain ⟨ho1, H⟩ := H
    refine xt_getI dX11_readTold_7 (flX11_360 rfl) ft_13_6 ho1.1 ho1.2 ?_
    refine xt_if_ne (tgt := 144) dX11_readTold_10 (by decide) (fun hc => ?_) (fun hc => ?_)
    · have H := H.1 hc
      exact xt_sub [] rfl (VX11_readTold_144 H)
    · have H := H.2 hc
      refine xt_aload_n (j := 0) dX11_readTold_13 rfl rfl ?_
      refine xt_iconst (v := 1) dX11_readTold_14 (by decide) ?_
      refine xt_ldc2 (v := 5070782) dX11_readTold_15 (ctX11_380 rfl) ?_
      refine xt_callV (h2 := h) (as := [.int 1, .long 5070782]) (st := []) dX11_readTold_18 (mlX11_373 rfl) rfl ho1.1 ⟨by rw [ho1.2]; rfl, by rw [ho1.2]; decide⟩ (by first | decide | (simp [Value.category]; done)) (Nat.le_refl _) H (fun r M2 HH hE => ?_)
      obtain ⟨r3, hr, H⟩ := HH hE
      subst hr
      have ho1 := ok_E ho1 hE
      show T _ _ _ _ [.int r3] _ _
      refine xt_if_eq (tgt := 28) dX11_readTold_21 (by decide) (fun hc => ?_) (fun hc => ?_)
      · have H := H.1 hc
        refine xt_aload_n (j := 0) dX11_readTold_28 rfl rfl ?_
        refine xt_iconst (v := 1) dX11_readTold_29 (by decide) ?_
        refine xt_ldc2 (v := 226799777) dX11_readTold_30 (ctX11_382 rfl) ?_
        refine xt_callV (h2 := h) (as := [.int 1, .long 226799777]) (st := []) dX11_readTold_33 (mlX11_373 rfl) rfl ho1.1 ⟨by rw [ho1.2]; rfl, by rw [ho1.2]; decide⟩ (by first | decide | (simp [Value.category]; done)) (Nat.le_refl _) H (fun r M4 HH hE => ?_)
        obtain ⟨r5, hr, H⟩ := HH hE
        subst hr
        have ho1 := ok_E ho1 hE
        show T _ _ _ _ [.int r5] _ _
        refine xt_if_eq (tgt := 43) dX11_readTold_36 (by decide) (fun hc => ?_) (fun hc => ?_)
        · have H := H.1 hc
          refine xt_aload_n (j := 0) dX11_readTold_43 rfl rfl ?_
          refine xt_iconst (v := 1) dX11_readTold_44 (by decide) ?_
          refine xt_ldc2 (v := 277560228) dX11_readTold_45 (ctX11_384 rfl) ?_
          refine xt_callV (h2 := h) (as := [.int 1, .long 277560228]) (st := []) dX11_readTold_48 (mlX11_373 rfl) rfl ho1.1 ⟨by rw [ho1.2]; rfl, by rw [ho1.2]; decide⟩ (by first | decide | (simp [Value.category]; done)) (Nat.le_refl _) H (fun r M6 HH hE => ?_)
          obtain ⟨r7, hr, H⟩ := HH hE
          subst hr
          have ho1 := ok_E ho1 hE
          show T _ _ _ _ [.int r7] _ _
          refine xt_if_eq (tgt := 58) dX11_readTold_51 (by decide) (fun hc => ?_) (fun hc => ?_)
          · have H := H.1 hc
            refine xt_aload_n (j := 0) dX11_readTold_58 rfl rfl ?_
            refine xt_iconst (v := 1) dX11_readTold_59 (by decide) ?_
            refine xt_ldc2 (v := 16083) dX11_readTold_60 (ctX11_392 rfl) ?_
            refine xt_callV (h2 := h) (as := [.int 1, .long 16083]) (st := []) dX11_readTold_63 (mlX11_373 rfl) rfl ho1.1 ⟨by rw [ho1.2]; rfl, by rw [ho1.2]; decide⟩ (by first | decide | (simp [Value.category]; done)) (Nat.le_refl _) H (fun r M8 HH hE => ?_)
            obtain ⟨r9, hr, H⟩ := HH hE
            subst hr
            have ho1 := ok_E ho1 hE
            show T _ _ _ _ [.int r9] _ _
            refine xt_if_eq (tgt := 73) dX11_readTold_66 (by decide) (fun hc => ?_) (fun hc => ?_)
            · have H := H.1 hc
              refine xt_iconst (v := 4) dX11_readTold_73 (by decide) ?_
              exact xt_sub [0] rfl (VX11_readTold_74 H)
            · have H := H.2 hc
              refine xt_iconst (v := 3) dX11_readTold_69 (by decide) ?_
              refine xt_goto (tgt := 74) dX11_readTold_70 (by decide) ?_
              exact xt_sub [0] rfl (VX11_readTold_74 H)
          · have H := H.2 hc
            refine xt_iconst (v := 2) dX11_readTold_54 (by decide) ?_
            refine xt_goto (tgt := 74) dX11_readTold_55 (by decide) ?_
            exact xt_sub [0] rfl (VX11_readTold_74 H)
        · have H := H.2 hc
          refine xt_iconst (v := 1) dX11_readTold_39 (by decide) ?_
          refine xt_goto (tgt := 74) dX11_readTold_40 (by decide) ?_
          exact xt_sub [0] rfl (VX11_readTold_74 H)
      · have H := H.2 hc
        refine xt_iconst (v := 0) dX11_readTold_24 (by decide) ?_
        refine xt_goto (tgt := 74) dX11_readTold_25 (by decide) ?_
        exact xt_sub [0] rfl (VX11_readTold_74 H)
def DX11_readTold_0 (h : Nat) (x0 : Nat) (M : Mem) (Q : Option Value → Mem → Prop) : Prop :=
  T (h + 1) mdX11_readTold 2 [(0, .ref x0), (1, .int 1)] [] M Q
set_option maxRecDepth 20000 in
set_option maxHeartbeats 2000000 in
theorem VX11_readTold_0 {h : Nat} {x0 : Nat} {M : Mem} {Q : Option Value → Mem → Prop} (H : DX11_readTold_0 h x0 M Q) : T (h + 1) mdX11_readTold 0 [(0, .ref x0)] [] M Q := by
  unfold DX11_readTold_0 at H
  refine xt_iconst (v := 1) dX11_readTold_0 (by decide) ?_
  refine xt_istore_n (lv' := [(1, .int 1), (0, .ref x0)]) dX11_readTold_1 rfl (by decide) rfl ?_
  exact xt_sub (lv' := [(0, .ref x0), (1, .int 1)]) [1, 0] rfl H
theorem KX11_readTold {h : Nat} {x0 : Nat} {M : Mem} {Q : Option Value → Mem → Prop} (H : DX11_readTold_0 h x0 M Q) : E (h + 1) mdX11_readTold [.ref x0] M Q := E.of (by decide) (Nat.le_of_ble_eq_true rfl) (fun _ _ _ => trivial) (VX11_readTold_0 H)
def DX11_readName_318 (h : Nat) (M : Mem) (Q : Option Value → Mem → Prop) : Prop :=
  Q none M
set_option maxRecDepth 20000 in
set_option maxHeartbeats 2000000 in
theorem VX11_readName_318 {h : Nat} {M : Mem} {Q : Option Value → Mem → Prop} (H : DX11_readName_318 h  M Q) : T (h + 1) mdX11_readName 318 [] [] M Q := by
  unfold DX11_readName_318 at H
  exact xt_return dX11_readName_318 rfl H
def DX11_readName_52 (h : Nat) (x0 : Nat) (M : Mem) (Q : Option Value → Mem → Prop) : Prop :=
  ok M x0 13 ∧ ∃ b2 : Nat, mR M x0 3 = some b2 ∧ ok M b2 21 ∧ vp_in (mI M x0 5) (mL M b2) ∧ E h mdX11_fails [.ref x0, .int 3, .int (mAI M b2 (mI M x0 5 : Int32).toNatClampNeg)] M (fun r M4 => mE M M4 → r = none ∧ DX11_readName_318 h  M4 Q)
set_option maxRecDepth 20000 in
set_option maxHeartbeats 2000000 in
theorem VX11_readName_52 {h : Nat} {x0 : Nat} {M : Mem} {Q : Option Value → Mem → Prop} (H : DX11_readName_52 h x0 M Q) : T (h + 1) mdX11_readName 52 [(0, .ref x0)] [] M Q := by
  unfold DX11_readName_52 at H
  refine xt_aload_n (j := 0) dX11_readName_52 rfl rfl ?_
  refine xt_iconst (v := 3) dX11_readName_53 (by decide) ?_
  refine xt_aload_n (j := 0) dX11_readName_54 rfl rfl ?_
  obtain ⟨ho1, H⟩ := H
  obtain ⟨b2, hb, H⟩ := H
  refine xt_getR dX11_readName_55 (flX11_16 rfl) ft_13_3 ho1.1 ho1.2 hb ?_
  refine xt_aload_n (j := 0) dX11_readName_58 rfl rfl ?_
  refine xt_getI dX11_readName_59 (flX11_366 rfl) ft_13_5 ho1.1 ho1.2 ?_
  obtain ⟨ho3, H⟩ := H
  obtain ⟨hi, H⟩ := H
  refine xt_iald dX11_readName_62 ho3.1 ho3.2 hi ?_
  refine xt_callV (h2 := h) (as := [.int 3, .int (mAI M b2 (mI M x0 5 : Int32).toNatClampNeg)]) (st := []) dX11_readName_63 (mlX11_369 rfl) rfl ho1.1 ⟨by rw [ho1.2]; rfl, by rw [ho1.2]; decide⟩ (by first | decide | (simp [Value.category]; done)) (Nat.le_refl _) H (fun r M4 HH hE => ?_)
  obtain ⟨hr, H⟩ := HH hE
  subst hr
  have ho1 := ok_E ho1 hE
  show T _ _ _ _ [] _ _
  refine xt_goto (tgt := 318) dX11_readName_66 (by decide) ?_
  exact xt_sub [] rfl (VX11_readName_318 H)
def DX11_readName_122 (h : Nat) (x0 : Nat) (M : Mem) (Q : Option Value → Mem → Prop) : Prop :=
  ok M x0 13 ∧ ∃ b2 : Nat, mR M x0 3 = some b2 ∧ ok M b2 21 ∧ vp_in (mI M x0 5) (mL M b2) ∧ E h mdX11_fails [.ref x0, .int 6, .int (mAI M b2 (mI M x0 5 : Int32).toNatClampNeg)] M (fun r M4 => mE M M4 → r = none ∧ DX11_readName_318 h  M4 Q)
set_option maxRecDepth 20000 in
set_option maxHeartbeats 2000000 in
theorem VX11_readName_122 {h : Nat} {x0 : Nat} {M : Mem} {Q : Option Value → Mem → Prop} (H : DX11_readName_122 h x0 M Q) : T (h + 1) mdX11_readName 122 [(0, .ref x0)] [] M Q := by
  unfold DX11_readName_122 at H
  refine xt_aload_n (j := 0) dX11_readName_122 rfl rfl ?_
  refine xt_bipush (v := 6) dX11_readName_123 (by decide) ?_
  refine xt_aload_n (j := 0) dX11_readName_125 rfl rfl ?_
  obtain ⟨ho1, H⟩ := H
  obtain ⟨b2, hb, H⟩ := H
  refine xt_getR dX11_readName_126 (flX11_16 rfl) ft_13_3 ho1.1 ho1.2 hb ?_
  refine xt_aload_n (j := 0) dX11_readName_129 rfl rfl ?_
  refine xt_getI dX11_readName_130 (flX11_366 rfl) ft_13_5 ho1.1 ho1.2 ?_
  obtain ⟨ho3, H⟩ := H
  obtain ⟨hi, H⟩ := H
  refine xt_iald dX11_readName_133 ho3.1 ho3.2 hi ?_
  refine xt_callV (h2 := h) (as := [.int 6, .int (mAI M b2 (mI M x0 5 : Int32).toNatClampNeg)]) (st := []) dX11_readName_134 (mlX11_369 rfl) rfl ho1.1 ⟨by rw [ho1.2]; rfl, by rw [ho1.2]; decide⟩ (by first | decide | (simp [Value.category]; done)) (Nat.le_refl _) H (fun r M4 HH hE => ?_)
  obtain ⟨hr, H⟩ := HH hE
  subst hr
  have ho1 := ok_E ho1 hE
  show T _ _ _ _ [] _ _
  refine xt_goto (tgt := 318) dX11_readName_137 (by decide) ?_
  exact xt_sub [] rfl (VX11_readName_318 H)
def DX11_readName_305 (h : Nat) (x0 : Nat) (M : Mem) (Q : Option Value → Mem → Prop) : Prop :=
  ok M x0 13 ∧ ∃ b2 : Nat, mR M x0 8 = some b2 ∧ ok M b2 21 ∧ vp_in (mI M x0 19) (mL M b2) ∧ vp_in (mI M x0 19) (mL M b2) ∧ ∀ M4 : Mem, M4 = wAI M b2 (mI M x0 19 : Int32).toNatClampNeg ((mAI M b2 (mI M x0 19 : Int32).toNatClampNeg) + 1) →
  DX11_readName_318 h  M4 Q
set_option maxRecDepth 20000 in
set_option maxHeartbeats 2000000 in
theorem VX11_readName_305 {h : Nat} {x0 : Nat} {M : Mem} {Q : Option Value → Mem → Prop} (H : DX11_readName_305 h x0 M Q) : T (h + 1) mdX11_readName 305 [(0, .ref x0)] [] M Q := by
  unfold DX11_readName_305 at H
  refine xt_aload_n (j := 0) dX11_readName_305 rfl rfl ?_
  obtain ⟨ho1, H⟩ := H
  obtain ⟨b2, hb, H⟩ := H
  refine xt_getR dX11_readName_306 (flX11_23 rfl) ft_13_8 ho1.1 ho1.2 hb ?_
  refine xt_aload_n (j := 0) dX11_readName_309 rfl rfl ?_
  refine xt_getI dX11_readName_310 (flX11_450 rfl) ft_13_19 ho1.1 ho1.2 ?_
  refine xt_dup2 dX11_readName_313 rfl rfl ?_
  obtain ⟨ho3, H⟩ := H
  obtain ⟨hi, H⟩ := H
  refine xt_iald dX11_readName_314 ho3.1 ho3.2 hi ?_
  refine xt_iconst (v := 1) dX11_readName_315 (by decide) ?_
  refine xt_iadd dX11_readName_316 ?_
  obtain ⟨hi, H⟩ := H
  obtain ⟨M4, eM4⟩ : ∃ z, z = wAI M b2 (mI M x0 19 : Int32).toNatClampNeg ((mAI M b2 (mI M x0 19 : Int32).toNatClampNeg) + 1) := ⟨_, rfl⟩
  have H := H _ eM4
  refine xt_iast dX11_readName_317 ho3.1 ho3.2 hi ?_
  have ho1 : ok M4 x0 13 := by rw [eM4]; exact ho1
  rw [← eM4]
  exact xt_sub [] rfl (VX11_readName_318 H)
def DX11_readName_140 (h : Nat) (x0 : Nat) (x1 : Int32) (x2 : Int64) (M : Mem) (Q : Option Value → Mem → Prop) : Prop :=
  (¬ x1 = 3 → ok M x0 13 ∧ ∃ b2 : Nat, mR M x0 8 = some b2 ∧ ok M b2 21 ∧ vp_in (mI M x0 19) (mL M b2) ∧ ∃ b4 : Nat, mR M x0 11 = some b4 ∧ ok M b4 23 ∧ vp_in ((16 * (mI M x0 19)) + (mAI M b2 (mI M x0 19 : Int32).toNatClampNeg)) (mL M b4) ∧ ∀ M6 : Mem, M6 = wAJ M b4 ((16 * (mI M x0 19)) + (mAI M b2 (mI M x0 19 : Int32).toNatClampNeg) : Int32).toNatClampNeg x2 →
  ∃ b7 : Nat, mR M6 x0 12 = some b7 ∧ ok M6 b7 21 ∧ vp_in ((16 * (mI M x0 19)) + (mAI M b2 (mI M x0 19 : Int32).toNatClampNeg)) (mL M6 b7) ∧ ∀ M9 : Mem, M9 = wAI M6 b7 ((16 * (mI M x0 19)) + (mAI M b2 (mI M x0 19 : Int32).toNatClampNeg) : Int32).toNatClampNeg x1 →
  ∃ b10 : Nat, mR M9 x0 13 = some b10 ∧ ok M9 b10 21 ∧ vp_in ((16 * (mI M x0 19)) + (mAI M b2 (mI M x0 19 : Int32).toNatClampNeg)) (mL M9 b10) ∧ ∀ M12 : Mem, M12 = wAI M9 b10 ((16 * (mI M x0 19)) + (mAI M b2 (mI M x0 19 : Int32).toNatClampNeg) : Int32).toNatClampNeg 0 →
  ∃ b13 : Nat, mR M12 x0 14 = some b13 ∧ ok M12 b13 22 ∧ vp_in ((16 * (mI M x0 19)) + (mAI M b2 (mI M x0 19 : Int32).toNatClampNeg)) (mL M12 b13) ∧ ∀ M15 : Mem, M15 = wAI M12 b13 ((16 * (mI M x0 19)) + (mAI M b2 (mI M x0 19 : Int32).toNatClampNeg) : Int32).toNatClampNeg (vp_nar .boolean 0) →
  (¬ x1 = 0 → DX11_readName_305 h x0 M15 Q) ∧
  (x1 = 0 → ∃ b16 : Nat, mR M15 x0 15 = some b16 ∧ ∃ b17 : Nat, mR M15 x0 9 = some b17 ∧ ok M15 b17 21 ∧ vp_in (mI M15 x0 19) (mL M15 b17) ∧ ∃ b19 : Nat, mR M15 x0 8 = some b19 ∧ ok M15 b19 21 ∧ vp_in (mI M15 x0 19) (mL M15 b19) ∧ ok M15 b16 21 ∧ vp_in ((4 * (mI M15 x0 19)) + (mAI M15 b17 (mI M15 x0 19 : Int32).toNatClampNeg)) (mL M15 b16) ∧ ∀ M22 : Mem, M22 = wAI M15 b16 ((4 * (mI M15 x0 19)) + (mAI M15 b17 (mI M15 x0 19 : Int32).toNatClampNeg) : Int32).toNatClampNeg (mAI M15 b19 (mI M15 x0 19 : Int32).toNatClampNeg) →
  ∃ b23 : Nat, mR M22 x0 9 = some b23 ∧ ok M22 b23 21 ∧ vp_in (mI M22 x0 19) (mL M22 b23) ∧ vp_in (mI M22 x0 19) (mL M22 b23) ∧ ∀ M25 : Mem, M25 = wAI M22 b23 (mI M22 x0 19 : Int32).toNatClampNeg ((mAI M22 b23 (mI M22 x0 19 : Int32).toNatClampNeg) + 1) →
  DX11_readName_305 h x0 M25 Q)) ∧
  (x1 = 3 → ok M x0 13 ∧ ∃ b27 : Nat, mR M x0 16 = some b27 ∧ ∃ b28 : Nat, mR M x0 10 = some b28 ∧ ok M b28 21 ∧ vp_in (mI M x0 19) (mL M b28) ∧ ok M b27 23 ∧ vp_in ((6 * (mI M x0 19)) + (mAI M b28 (mI M x0 19 : Int32).toNatClampNeg)) (mL M b27) ∧ ∀ M31 : Mem, M31 = wAJ M b27 ((6 * (mI M x0 19)) + (mAI M b28 (mI M x0 19 : Int32).toNatClampNeg) : Int32).toNatClampNeg x2 →
  ∃ b32 : Nat, mR M31 x0 17 = some b32 ∧ ∃ b33 : Nat, mR M31 x0 10 = some b33 ∧ ok M31 b33 21 ∧ vp_in (mI M31 x0 19) (mL M31 b33) ∧ ok M31 b32 23 ∧ vp_in ((6 * (mI M31 x0 19)) + (mAI M31 b33 (mI M31 x0 19 : Int32).toNatClampNeg)) (mL M31 b32) ∧ ∀ M36 : Mem, M36 = wAJ M31 b32 ((6 * (mI M31 x0 19)) + (mAI M31 b33 (mI M31 x0 19 : Int32).toNatClampNeg) : Int32).toNatClampNeg 0 →
  ∃ b37 : Nat, mR M36 x0 10 = some b37 ∧ ok M36 b37 21 ∧ vp_in (mI M36 x0 19) (mL M36 b37) ∧ vp_in (mI M36 x0 19) (mL M36 b37) ∧ ∀ M39 : Mem, M39 = wAI M36 b37 (mI M36 x0 19 : Int32).toNatClampNeg ((mAI M36 b37 (mI M36 x0 19 : Int32).toNatClampNeg) + 1) →
  DX11_readName_318 h  M39 Q)
set_option maxRecDepth 20000 in
set_option maxHeartbeats 2000000 in
theorem VX11_readName_140 {h : Nat} {x0 : Nat} {x1 : Int32} {x2 : Int64} {M : Mem} {Q : Option Value → Mem → Prop} (H : DX11_readName_140 h x0 x1 x2 M Q) : T (h + 1) mdX11_readName 140 [(0, .ref x0), (1, .int x1), (2, .long x2)] [] M Q := by
  unfold DX11_readName_140 at H
  refine xt_iload_n (j := 1) dX11_readName_140 rfl rfl ?_
  refine xt_iconst (v := 3) dX11_readName_141 (by decide) ?_
  refine xt_icmp_ne (tgt := 207) dX11_readName_142 (by decide) (fun hc => ?_) (fun hc => ?_)
  · have H := H.1 hc
    refine xt_bipush (v := 16) dX11_readName_207 (by decide) ?_
    refine xt_aload_n (j := 0) dX11_readName_209 rfl rfl ?_
    obtain ⟨ho1, H⟩ := H
    refine xt_getI dX11_readName_210 (flX11_450 rfl) ft_13_19 ho1.1 ho1.2 ?_
    refine xt_imul dX11_readName_213 ?_
    refine xt_aload_n (j := 0) dX11_readName_214 rfl rfl ?_
    obtain ⟨b2, hb, H⟩ := H
    refine xt_getR dX11_readName_215 (flX11_23 rfl) ft_13_8 ho1.1 ho1.2 hb ?_
    refine xt_aload_n (j := 0) dX11_readName_218 rfl rfl ?_
    refine xt_getI dX11_readName_219 (flX11_450 rfl) ft_13_19 ho1.1 ho1.2 ?_
    obtain ⟨ho3, H⟩ := H
    obtain ⟨hi, H⟩ := H
    refine xt_iald dX11_readName_222 ho3.1 ho3.2 hi ?_
    refine xt_iadd dX11_readName_223 ?_
    refine xt_istore (lv' := [(4, .int ((16 * (mI M x0 19)) + (mAI M b2 (mI M x0 19 : Int32).toNatClampNeg))), (0, .ref x0), (1, .int x1), (2, .long x2)]) dX11_readName_224 (by decide) rfl ?_
    refine xt_aload_n (j := 1) dX11_readName_226 rfl rfl ?_
    obtain ⟨b4, hb, H⟩ := H
    refine xt_getR dX11_readName_227 (flX11_32 rfl) ft_13_11 ho1.1 ho1.2 hb ?_
    refine xt_iload (j := 0) dX11_readName_230 rfl ?_
    refine xt_lload_n (j := 3) dX11_readName_232 rfl rfl ?_
    obtain ⟨ho5, H⟩ := H
    obtain ⟨hi, H⟩ := H
    obtain ⟨M6, eM6⟩ : ∃ z, z = wAJ M b4 ((16 * (mI M x0 19)) + (mAI M b2 (mI M x0 19 : Int32).toNatClampNeg) : Int32).toNatClampNeg x2 := ⟨_, rfl⟩
    have H := H _ eM6
    refine xt_last dX11_readName_233 ho5.1 ho5.2 hi ?_
    have ho1 : ok M6 x0 13 := by rw [eM6]; exact ho1
    rw [← eM6]
    refine xt_aload_n (j := 1) dX11_readName_234 rfl rfl ?_
    obtain ⟨b7, hb, H⟩ := H
    refine xt_getR dX11_readName_235 (flX11_35 rfl) ft_13_12 ho1.1 ho1.2 hb ?_
    refine xt_iload (j := 0) dX11_readName_238 rfl ?_
    refine xt_iload_n (j := 2) dX11_readName_240 rfl rfl ?_
    obtain ⟨ho8, H⟩ := H
    obtain ⟨hi, H⟩ := H
    obtain ⟨M9, eM9⟩ : ∃ z, z = wAI M6 b7 ((16 * (mI M x0 19)) + (mAI M b2 (mI M x0 19 : Int32).toNatClampNeg) : Int32).toNatClampNeg x1 := ⟨_, rfl⟩
    have H := H _ eM9
    refine xt_iast dX11_readName_241 ho8.1 ho8.2 hi ?_
    have ho1 : ok M9 x0 13 := by rw [eM9]; exact ho1
    rw [← eM9]
    refine xt_aload_n (j := 1) dX11_readName_242 rfl rfl ?_
    obtain ⟨b10, hb, H⟩ := H
    refine xt_getR dX11_readName_243 (flX11_38 rfl) ft_13_13 ho1.1 ho1.2 hb ?_
    refine xt_iload (j := 0) dX11_readName_246 rfl ?_
    refine xt_iconst (v := 0) dX11_readName_248 (by decide) ?_
    obtain ⟨ho11, H⟩ := H
    obtain ⟨hi, H⟩ := H
    obtain ⟨M12, eM12⟩ : ∃ z, z = wAI M9 b10 ((16 * (mI M x0 19)) + (mAI M b2 (mI M x0 19 : Int32).toNatClampNeg) : Int32).toNatClampNeg 0 := ⟨_, rfl⟩
    have H := H _ eM12
    refine xt_iast dX11_readName_249 ho11.1 ho11.2 hi ?_
    have ho1 : ok M12 x0 13 := by rw [eM12]; exact ho1
    rw [← eM12]
    refine xt_aload_n (j := 1) dX11_readName_250 rfl rfl ?_
    obtain ⟨b13, hb, H⟩ := H
    refine xt_getR dX11_readName_251 (flX11_41 rfl) ft_13_14 ho1.1 ho1.2 hb ?_
    refine xt_iload (j := 0) dX11_readName_254 rfl ?_
    refine xt_iconst (v := 0) dX11_readName_256 (by decide) ?_
    obtain ⟨ho14, H⟩ := H
    obtain ⟨hi, H⟩ := H
    obtain ⟨M15, eM15⟩ : ∃ z, z = wAI M12 b13 ((16 * (mI M x0 19)) + (mAI M b2 (mI M x0 19 : Int32).toNatClampNeg) : Int32).toNatClampNeg (vp_nar .boolean 0) := ⟨_, rfl⟩
    have H := H _ eM15
    refine xt_zast dX11_readName_257 ho14.1 ho14.2 hi ?_
    have ho1 : ok M15 x0 13 := by rw [eM15]; exact ho1
    rw [← eM15]
    refine xt_iload_n (j := 2) dX11_readName_258 rfl rfl ?_
    refine xt_if_ne (tgt := 305) dX11_readName_259 (by decide) (fun hc => ?_) (fun hc => ?_)
    · have H := H.1 hc
      exact xt_sub [1] rfl (VX11_readName_305 H)
    · have H := H.2 hc
      refine xt_aload_n (j := 1) dX11_readName_262 rfl rfl ?_
      obtain ⟨b16, hb, H⟩ := H
      refine xt_getR dX11_readName_263 (flX11_45 rfl) ft_13_15 ho1.1 ho1.2 hb ?_
      refine xt_iconst (v := 4) dX11_readName_266 (by decide) ?_
      refine xt_aload_n (j := 1) dX11_readName_267 rfl rfl ?_
      refine xt_getI dX11_readName_268 (flX11_450 rfl) ft_13_19 ho1.1 ho1.2 ?_
      refine xt_imul dX11_readName_271 ?_
      refine xt_aload_n (j := 1) dX11_readName_272 rfl rfl ?_
      obtain ⟨b17, hb, H⟩ := H
      refine xt_getR dX11_readName_273 (flX11_26 rfl) ft_13_9 ho1.1 ho1.2 hb ?_
      refine xt_aload_n (j := 1) dX11_readName_276 rfl rfl ?_
      refine xt_getI dX11_readName_277 (flX11_450 rfl) ft_13_19 ho1.1 ho1.2 ?_
      obtain ⟨ho18, H⟩ := H
      obtain ⟨hi, H⟩ := H
      refine xt_iald dX11_readName_280 ho18.1 ho18.2 hi ?_
      refine xt_iadd dX11_readName_281 ?_
      refine xt_aload_n (j := 1) dX11_readName_282 rfl rfl ?_
      obtain ⟨b19, hb, H⟩ := H
      refine xt_getR dX11_readName_283 (flX11_23 rfl) ft_13_8 ho1.1 ho1.2 hb ?_
      refine xt_aload_n (j := 1) dX11_readName_286 rfl rfl ?_
      refine xt_getI dX11_readName_287 (flX11_450 rfl) ft_13_19 ho1.1 ho1.2 ?_
      obtain ⟨ho20, H⟩ := H
      obtain ⟨hi, H⟩ := H
      refine xt_iald dX11_readName_290 ho20.1 ho20.2 hi ?_
      obtain ⟨ho21, H⟩ := H
      obtain ⟨hi, H⟩ := H
      obtain ⟨M22, eM22⟩ : ∃ z, z = wAI M15 b16 ((4 * (mI M15 x0 19)) + (mAI M15 b17 (mI M15 x0 19 : Int32).toNatClampNeg) : Int32).toNatClampNeg (mAI M15 b19 (mI M15 x0 19 : Int32).toNatClampNeg) := ⟨_, rfl⟩
      have H := H _ eM22
      refine xt_iast dX11_readName_291 ho21.1 ho21.2 hi ?_
      have ho1 : ok M22 x0 13 := by rw [eM22]; exact ho1
      rw [← eM22]
      refine xt_aload_n (j := 1) dX11_readName_292 rfl rfl ?_
      obtain ⟨b23, hb, H⟩ := H
      refine xt_getR dX11_readName_293 (flX11_26 rfl) ft_13_9 ho1.1 ho1.2 hb ?_
      refine xt_aload_n (j := 1) dX11_readName_296 rfl rfl ?_
      refine xt_getI dX11_readName_297 (flX11_450 rfl) ft_13_19 ho1.1 ho1.2 ?_
      refine xt_dup2 dX11_readName_300 rfl rfl ?_
      obtain ⟨ho24, H⟩ := H
      obtain ⟨hi, H⟩ := H
      refine xt_iald dX11_readName_301 ho24.1 ho24.2 hi ?_
      refine xt_iconst (v := 1) dX11_readName_302 (by decide) ?_
      refine xt_iadd dX11_readName_303 ?_
      obtain ⟨hi, H⟩ := H
      obtain ⟨M25, eM25⟩ : ∃ z, z = wAI M22 b23 (mI M22 x0 19 : Int32).toNatClampNeg ((mAI M22 b23 (mI M22 x0 19 : Int32).toNatClampNeg) + 1) := ⟨_, rfl⟩
      have H := H _ eM25
      refine xt_iast dX11_readName_304 ho24.1 ho24.2 hi ?_
      have ho1 : ok M25 x0 13 := by rw [eM25]; exact ho1
      rw [← eM25]
      exact xt_sub [1] rfl (VX11_readName_305 H)
  · have H := H.2 hc
    refine xt_aload_n (j := 0) dX11_readName_145 rfl rfl ?_
    obtain ⟨ho26, H⟩ := H
    obtain ⟨b27, hb, H⟩ := H
    refine xt_getR dX11_readName_146 (flX11_48 rfl) ft_13_16 ho26.1 ho26.2 hb ?_
    refine xt_bipush (v := 6) dX11_readName_149 (by decide) ?_
    refine xt_aload_n (j := 0) dX11_readName_151 rfl rfl ?_
    refine xt_getI dX11_readName_152 (flX11_450 rfl) ft_13_19 ho26.1 ho26.2 ?_
    refine xt_imul dX11_readName_155 ?_
    refine xt_aload_n (j := 0) dX11_readName_156 rfl rfl ?_
    obtain ⟨b28, hb, H⟩ := H
    refine xt_getR dX11_readName_157 (flX11_29 rfl) ft_13_10 ho26.1 ho26.2 hb ?_
    refine xt_aload_n (j := 0) dX11_readName_160 rfl rfl ?_
    refine xt_getI dX11_readName_161 (flX11_450 rfl) ft_13_19 ho26.1 ho26.2 ?_
    obtain ⟨ho29, H⟩ := H
    obtain ⟨hi, H⟩ := H
    refine xt_iald dX11_readName_164 ho29.1 ho29.2 hi ?_
    refine xt_iadd dX11_readName_165 ?_
    refine xt_lload_n (j := 2) dX11_readName_166 rfl rfl ?_
    obtain ⟨ho30, H⟩ := H
    obtain ⟨hi, H⟩ := H
    obtain ⟨M31, eM31⟩ : ∃ z, z = wAJ M b27 ((6 * (mI M x0 19)) + (mAI M b28 (mI M x0 19 : Int32).toNatClampNeg) : Int32).toNatClampNeg x2 := ⟨_, rfl⟩
    have H := H _ eM31
    refine xt_last dX11_readName_167 ho30.1 ho30.2 hi ?_
    have ho26 : ok M31 x0 13 := by rw [eM31]; exact ho26
    rw [← eM31]
    refine xt_aload_n (j := 0) dX11_readName_168 rfl rfl ?_
    obtain ⟨b32, hb, H⟩ := H
    refine xt_getR dX11_readName_169 (flX11_51 rfl) ft_13_17 ho26.1 ho26.2 hb ?_
    refine xt_bipush (v := 6) dX11_readName_172 (by decide) ?_
    refine xt_aload_n (j := 0) dX11_readName_174 rfl rfl ?_
    refine xt_getI dX11_readName_175 (flX11_450 rfl) ft_13_19 ho26.1 ho26.2 ?_
    refine xt_imul dX11_readName_178 ?_
    refine xt_aload_n (j := 0) dX11_readName_179 rfl rfl ?_
    obtain ⟨b33, hb, H⟩ := H
    refine xt_getR dX11_readName_180 (flX11_29 rfl) ft_13_10 ho26.1 ho26.2 hb ?_
    refine xt_aload_n (j := 0) dX11_readName_183 rfl rfl ?_
    refine xt_getI dX11_readName_184 (flX11_450 rfl) ft_13_19 ho26.1 ho26.2 ?_
    obtain ⟨ho34, H⟩ := H
    obtain ⟨hi, H⟩ := H
    refine xt_iald dX11_readName_187 ho34.1 ho34.2 hi ?_
    refine xt_iadd dX11_readName_188 ?_
    refine xt_lconst (v := 0) dX11_readName_189 (by decide) ?_
    obtain ⟨ho35, H⟩ := H
    obtain ⟨hi, H⟩ := H
    obtain ⟨M36, eM36⟩ : ∃ z, z = wAJ M31 b32 ((6 * (mI M31 x0 19)) + (mAI M31 b33 (mI M31 x0 19 : Int32).toNatClampNeg) : Int32).toNatClampNeg 0 := ⟨_, rfl⟩
    have H := H _ eM36
    refine xt_last dX11_readName_190 ho35.1 ho35.2 hi ?_
    have ho26 : ok M36 x0 13 := by rw [eM36]; exact ho26
    rw [← eM36]
    refine xt_aload_n (j := 0) dX11_readName_191 rfl rfl ?_
    obtain ⟨b37, hb, H⟩ := H
    refine xt_getR dX11_readName_192 (flX11_29 rfl) ft_13_10 ho26.1 ho26.2 hb ?_
    refine xt_aload_n (j := 0) dX11_readName_195 rfl rfl ?_
    refine xt_getI dX11_readName_196 (flX11_450 rfl) ft_13_19 ho26.1 ho26.2 ?_
    refine xt_dup2 dX11_readName_199 rfl rfl ?_
    obtain ⟨ho38, H⟩ := H
    obtain ⟨hi, H⟩ := H
    refine xt_iald dX11_readName_200 ho38.1 ho38.2 hi ?_
    refine xt_iconst (v := 1) dX11_readName_201 (by decide) ?_
    refine xt_iadd dX11_readName_202 ?_
    obtain ⟨hi, H⟩ := H
    obtain ⟨M39, eM39⟩ : ∃ z, z = wAI M36 b37 (mI M36 x0 19 : Int32).toNatClampNeg ((mAI M36 b37 (mI M36 x0 19 : Int32).toNatClampNeg) + 1) := ⟨_, rfl⟩
    have H := H _ eM39
    refine xt_iast dX11_readName_203 ho38.1 ho38.2 hi ?_
    have ho26 : ok M39 x0 13 := by rw [eM39]; exact ho26
    rw [← eM39]
    refine xt_goto (tgt := 318) dX11_readName_204 (by decide) ?_
    exact xt_sub [] rfl (VX11_readName_318 H)
def DX11_readName_0 (h : Nat) (x0 : Nat) (x1 : Int32) (M : Mem) (Q : Option Value → Mem → Prop) : Prop :=
  ok M x0 13 ∧ ∃ b2 : Nat, mR M x0 4 = some b2 ∧ ok M b2 23 ∧ vp_in (mI M x0 5) (mL M b2) ∧ E h mdX11_isName [.ref x0] M (fun r M4 => mE M M4 → ∃ r5 : Int32, r = some (.int r5) ∧ (¬ r5 = 0 → E h mdX11_signalNamed [.ref x0, .long (mAJ M b2 (mI M x0 5 : Int32).toNatClampNeg)] M4 (fun r M6 => mE M4 M6 → ∃ r7 : Int32, r = some (.int r7) ∧ (¬ r7 = (-1) → DX11_readName_52 h x0 M6 Q) ∧
  (r7 = (-1) → E h mdX11_variableNamed [.ref x0, .long (mAJ M b2 (mI M x0 5 : Int32).toNatClampNeg)] M6 (fun r M8 => mE M6 M8 → ∃ r9 : Int32, r = some (.int r9) ∧ (r9 = (-1) → (¬ x1 = 3 → ∃ b10 : Nat, mR M8 x0 8 = some b10 ∧ ok M8 b10 21 ∧ vp_in (mI M8 x0 19) (mL M8 b10) ∧ ((mAI M8 b10 (mI M8 x0 19 : Int32).toNatClampNeg) = 16 → DX11_readName_122 h x0 M8 Q) ∧
  (¬ ((mAI M8 b10 (mI M8 x0 19 : Int32).toNatClampNeg) = 16) → (¬ x1 = 0 → DX11_readName_140 h x0 x1 (mAJ M b2 (mI M x0 5 : Int32).toNatClampNeg) M8 Q) ∧
  (x1 = 0 → ∃ b12 : Nat, mR M8 x0 9 = some b12 ∧ ok M8 b12 21 ∧ vp_in (mI M8 x0 19) (mL M8 b12) ∧ (¬ (mAI M8 b12 (mI M8 x0 19 : Int32).toNatClampNeg) = 4 → DX11_readName_140 h x0 x1 (mAJ M b2 (mI M x0 5 : Int32).toNatClampNeg) M8 Q) ∧
  ((mAI M8 b12 (mI M8 x0 19 : Int32).toNatClampNeg) = 4 → DX11_readName_122 h x0 M8 Q)))) ∧
  (x1 = 3 → ∃ b14 : Nat, mR M8 x0 10 = some b14 ∧ ok M8 b14 21 ∧ vp_in (mI M8 x0 19) (mL M8 b14) ∧ (¬ (mAI M8 b14 (mI M8 x0 19 : Int32).toNatClampNeg) = 6 → DX11_readName_140 h x0 x1 (mAJ M b2 (mI M x0 5 : Int32).toNatClampNeg) M8 Q) ∧
  ((mAI M8 b14 (mI M8 x0 19 : Int32).toNatClampNeg) = 6 → DX11_readName_122 h x0 M8 Q))) ∧
  (¬ (r9 = (-1)) → DX11_readName_52 h x0 M8 Q))))) ∧
  (r5 = 0 → ∃ b16 : Nat, mR M4 x0 3 = some b16 ∧ ok M4 b16 21 ∧ vp_in (mI M4 x0 5) (mL M4 b16) ∧ E h mdX11_fails [.ref x0, .int 2, .int (mAI M4 b16 (mI M4 x0 5 : Int32).toNatClampNeg)] M4 (fun r M18 => mE M4 M18 → r = none ∧ DX11_readName_318 h  M18 Q)))
set_option maxRecDepth 20000 in
set_option maxHeartbeats 2000000 in
theorem VX11_readName_0 {h : Nat} {x0 : Nat} {x1 : Int32} {M : Mem} {Q : Option Value → Mem → Prop} (H : DX11_readName_0 h x0 x1 M Q) : T (h + 1) mdX11_readName 0 [(0, .ref x0), (1, .int x1)] [] M Q := by
  unfold DX11_readName_0 at H
  refine xt_aload_n (j := 0) dX11_readName_0 rfl rfl ?_
  obtain ⟨ho1, H⟩ := H
  obtain ⟨b2, hb, H⟩ := H
  refine xt_getR dX11_readName_1 (flX11_19 rfl) ft_13_4 ho1.1 ho1.2 hb ?_
  refine xt_aload_n (j := 0) dX11_readName_4 rfl rfl ?_
  refine xt_getI dX11_readName_5 (flX11_366 rfl) ft_13_5 ho1.1 ho1.2 ?_
  obtain ⟨ho3, H⟩ := H
  obtain ⟨hi, H⟩ := H
  refine xt_lald dX11_readName_8 ho3.1 ho3.2 hi ?_
  refine xt_lstore_n (lv' := [(2, .long (mAJ M b2 (mI M x0 5 : Int32).toNatClampNeg)), (0, .ref x0), (1, .int x1)]) dX11_readName_9 rfl (by decide) rfl ?_
  refine xt_aload_n (j := 1) dX11_readName_10 rfl rfl ?_
  refine xt_callV (h2 := h) (as := []) (st := []) dX11_readName_11 (mlX11_468 rfl) rfl ho1.1 ⟨by rw [ho1.2]; rfl, by rw [ho1.2]; decide⟩ (by first | decide | (simp [Value.category]; done)) (Nat.le_refl _) H (fun r M4 HH hE => ?_)
  obtain ⟨r5, hr, H⟩ := HH hE
  subst hr
  have ho1 := ok_E ho1 hE
  show T _ _ _ _ [.int r5] _ _
  refine xt_if_ne (tgt := 34) dX11_readName_14 (by decide) (fun hc => ?_) (fun hc => ?_)
  · have H := H.1 hc
    refine xt_aload_n (j := 1) dX11_readName_34 rfl rfl ?_
    refine xt_lload_n (j := 0) dX11_readName_35 rfl rfl ?_
    refine xt_callV (h2 := h) (as := [.long (mAJ M b2 (mI M x0 5 : Int32).toNatClampNeg)]) (st := []) dX11_readName_36 (mlX11_471 rfl) rfl ho1.1 ⟨by rw [ho1.2]; rfl, by rw [ho1.2]; decide⟩ (by first | decide | (simp [Value.category]; done)) (Nat.le_refl _) H (fun r M6 HH hE => ?_)
    obtain ⟨r7, hr, H⟩ := HH hE
    subst hr
    have ho1 := ok_E ho1 hE
    show T _ _ _ _ [.int r7] _ _
    refine xt_iconst (v := -1) dX11_readName_39 (by decide) ?_
    refine xt_icmp_ne (tgt := 52) dX11_readName_40 (by decide) (fun hc => ?_) (fun hc => ?_)
    · have H := H.1 hc
      exact xt_sub [1] rfl (VX11_readName_52 H)
    · have H := H.2 hc
      refine xt_aload_n (j := 1) dX11_readName_43 rfl rfl ?_
      refine xt_lload_n (j := 0) dX11_readName_44 rfl rfl ?_
      refine xt_callV (h2 := h) (as := [.long (mAJ M b2 (mI M x0 5 : Int32).toNatClampNeg)]) (st := []) dX11_readName_45 (mlX11_475 rfl) rfl ho1.1 ⟨by rw [ho1.2]; rfl, by rw [ho1.2]; decide⟩ (by first | decide | (simp [Value.category]; done)) (Nat.le_refl _) H (fun r M8 HH hE => ?_)
      obtain ⟨r9, hr, H⟩ := HH hE
      subst hr
      have ho1 := ok_E ho1 hE
      show T _ _ _ _ [.int r9] _ _
      refine xt_iconst (v := -1) dX11_readName_48 (by decide) ?_
      refine xt_icmp_eq (tgt := 69) dX11_readName_49 (by decide) (fun hc => ?_) (fun hc => ?_)
      · have H := H.1 hc
        refine xt_iload_n (j := 2) dX11_readName_69 rfl rfl ?_
        refine xt_iconst (v := 3) dX11_readName_70 (by decide) ?_
        refine xt_icmp_ne (tgt := 91) dX11_readName_71 (by decide) (fun hc => ?_) (fun hc => ?_)
        · have H := H.1 hc
          refine xt_aload_n (j := 1) dX11_readName_91 rfl rfl ?_
          obtain ⟨b10, hb, H⟩ := H
          refine xt_getR dX11_readName_92 (flX11_23 rfl) ft_13_8 ho1.1 ho1.2 hb ?_
          refine xt_aload_n (j := 1) dX11_readName_95 rfl rfl ?_
          refine xt_getI dX11_readName_96 (flX11_450 rfl) ft_13_19 ho1.1 ho1.2 ?_
          obtain ⟨ho11, H⟩ := H
          obtain ⟨hi, H⟩ := H
          refine xt_iald dX11_readName_99 ho11.1 ho11.2 hi ?_
          refine xt_bipush (v := 16) dX11_readName_100 (by decide) ?_
          refine xt_icmp_eq (tgt := 122) dX11_readName_102 (by decide) (fun hc => ?_) (fun hc => ?_)
          · have H := H.1 hc
            exact xt_sub [1] rfl (VX11_readName_122 H)
          · have H := H.2 hc
            refine xt_iload_n (j := 2) dX11_readName_105 rfl rfl ?_
            refine xt_if_ne (tgt := 140) dX11_readName_106 (by decide) (fun hc => ?_) (fun hc => ?_)
            · have H := H.1 hc
              exact xt_sub [1, 2, 0] rfl (VX11_readName_140 H)
            · have H := H.2 hc
              refine xt_aload_n (j := 1) dX11_readName_109 rfl rfl ?_
              obtain ⟨b12, hb, H⟩ := H
              refine xt_getR dX11_readName_110 (flX11_26 rfl) ft_13_9 ho1.1 ho1.2 hb ?_
              refine xt_aload_n (j := 1) dX11_readName_113 rfl rfl ?_
              refine xt_getI dX11_readName_114 (flX11_450 rfl) ft_13_19 ho1.1 ho1.2 ?_
              obtain ⟨ho13, H⟩ := H
              obtain ⟨hi, H⟩ := H
              refine xt_iald dX11_readName_117 ho13.1 ho13.2 hi ?_
              refine xt_iconst (v := 4) dX11_readName_118 (by decide) ?_
              refine xt_icmp_ne (tgt := 140) dX11_readName_119 (by decide) (fun hc => ?_) (fun hc => ?_)
              · have H := H.1 hc
                exact xt_sub [1, 2, 0] rfl (VX11_readName_140 H)
              · have H := H.2 hc
                exact xt_sub [1] rfl (VX11_readName_122 H)
        · have H := H.2 hc
          refine xt_aload_n (j := 1) dX11_readName_74 rfl rfl ?_
          obtain ⟨b14, hb, H⟩ := H
          refine xt_getR dX11_readName_75 (flX11_29 rfl) ft_13_10 ho1.1 ho1.2 hb ?_
          refine xt_aload_n (j := 1) dX11_readName_78 rfl rfl ?_
          refine xt_getI dX11_readName_79 (flX11_450 rfl) ft_13_19 ho1.1 ho1.2 ?_
          obtain ⟨ho15, H⟩ := H
          obtain ⟨hi, H⟩ := H
          refine xt_iald dX11_readName_82 ho15.1 ho15.2 hi ?_
          refine xt_bipush (v := 6) dX11_readName_83 (by decide) ?_
          refine xt_icmp_ne (tgt := 140) dX11_readName_85 (by decide) (fun hc => ?_) (fun hc => ?_)
          · have H := H.1 hc
            exact xt_sub [1, 2, 0] rfl (VX11_readName_140 H)
          · have H := H.2 hc
            refine xt_goto (tgt := 122) dX11_readName_88 (by decide) ?_
            exact xt_sub [1] rfl (VX11_readName_122 H)
      · have H := H.2 hc
        exact xt_sub [1] rfl (VX11_readName_52 H)
  · have H := H.2 hc
    refine xt_aload_n (j := 1) dX11_readName_17 rfl rfl ?_
    refine xt_iconst (v := 2) dX11_readName_18 (by decide) ?_
    refine xt_aload_n (j := 1) dX11_readName_19 rfl rfl ?_
    obtain ⟨b16, hb, H⟩ := H
    refine xt_getR dX11_readName_20 (flX11_16 rfl) ft_13_3 ho1.1 ho1.2 hb ?_
    refine xt_aload_n (j := 1) dX11_readName_23 rfl rfl ?_
    refine xt_getI dX11_readName_24 (flX11_366 rfl) ft_13_5 ho1.1 ho1.2 ?_
    obtain ⟨ho17, H⟩ := H
    obtain ⟨hi, H⟩ := H
    refine xt_iald dX11_readName_27 ho17.1 ho17.2 hi ?_
    refine xt_callV (h2 := h) (as := [.int 2, .int (mAI M4 b16 (mI M4 x0 5 : Int32).toNatClampNeg)]) (st := []) dX11_readName_28 (mlX11_369 rfl) rfl ho1.1 ⟨by rw [ho1.2]; rfl, by rw [ho1.2]; decide⟩ (by first | decide | (simp [Value.category]; done)) (Nat.le_refl _) H (fun r M18 HH hE => ?_)
    obtain ⟨hr, H⟩ := HH hE
    subst hr
    have ho1 := ok_E ho1 hE
    show T _ _ _ _ [] _ _
    refine xt_goto (tgt := 318) dX11_readName_31 (by decide) ?_
    exact xt_sub [] rfl (VX11_readName_318 H)
theorem KX11_readName {h : Nat} {x0 : Nat} {x1 : Int32} {M : Mem} {Q : Option Value → Mem → Prop} (H : DX11_readName_0 h x0 x1 M Q) : E (h + 1) mdX11_readName [.ref x0, .int x1] M Q := E.of (by decide) (Nat.le_of_ble_eq_true rfl) (fun _ _ _ => trivial) (VX11_readName_0 H)
def DX11_readHow_126 (h : Nat) (M : Mem) (Q : Option Value → Mem → Prop) : Prop :=
  Q none M
set_option maxRecDepth 20000 in
set_option maxHeartbeats 2000000 in
theorem VX11_readHow_126 {h : Nat} {M : Mem} {Q : Option Value → Mem → Prop} (H : DX11_readHow_126 h  M Q) : T (h + 1) mdX11_readHow 126 [] [] M Q := by
  unfold DX11_readHow_126 at H
  exact xt_return dX11_readHow_126 rfl H
def DX11_readHow_75 (h : Nat) (x0 : Nat) (s0 : Int32) (M : Mem) (Q : Option Value → Mem → Prop) : Prop :=
  (¬ s0 = 0 → ok M x0 13 ∧ ∃ b2 : Nat, mR M x0 13 = some b2 ∧ ∃ b3 : Nat, mR M x0 8 = some b3 ∧ ok M b3 21 ∧ vp_in (mI M x0 19) (mL M b3) ∧ ok M b2 21 ∧ vp_in (((16 * (mI M x0 19)) + (mAI M b3 (mI M x0 19 : Int32).toNatClampNeg)) - 1) (mL M b2) ∧ ∀ M6 : Mem, M6 = wAI M b2 (((16 * (mI M x0 19)) + (mAI M b3 (mI M x0 19 : Int32).toNatClampNeg)) - 1 : Int32).toNatClampNeg s0 →
  E h mdX11_take [.ref x0] M6 (fun r M7 => mE M6 M7 → r = none ∧ DX11_readHow_126 h  M7 Q)) ∧
  (s0 = 0 → ok M x0 13 ∧ ∃ b9 : Nat, mR M x0 3 = some b9 ∧ ok M b9 21 ∧ vp_in (mI M x0 5) (mL M b9) ∧ E h mdX11_fails [.ref x0, .int 2, .int (mAI M b9 (mI M x0 5 : Int32).toNatClampNeg)] M (fun r M11 => mE M M11 → r = none ∧ DX11_readHow_126 h  M11 Q))
set_option maxRecDepth 20000 in
set_option maxHeartbeats 2000000 in
theorem VX11_readHow_75 {h : Nat} {x0 : Nat} {s0 : Int32} {M : Mem} {Q : Option Value → Mem → Prop} (H : DX11_readHow_75 h x0 s0 M Q) : T (h + 1) mdX11_readHow 75 [(0, .ref x0)] [.int s0] M Q := by
  unfold DX11_readHow_75 at H
  refine xt_istore_n (lv' := [(1, .int s0), (0, .ref x0)]) dX11_readHow_75 rfl (by decide) rfl ?_
  refine xt_iload_n (j := 0) dX11_readHow_76 rfl rfl ?_
  refine xt_if_ne (tgt := 97) dX11_readHow_77 (by decide) (fun hc => ?_) (fun hc => ?_)
  · have H := H.1 hc
    refine xt_aload_n (j := 1) dX11_readHow_97 rfl rfl ?_
    obtain ⟨ho1, H⟩ := H
    obtain ⟨b2, hb, H⟩ := H
    refine xt_getR dX11_readHow_98 (flX11_38 rfl) ft_13_13 ho1.1 ho1.2 hb ?_
    refine xt_bipush (v := 16) dX11_readHow_101 (by decide) ?_
    refine xt_aload_n (j := 1) dX11_readHow_103 rfl rfl ?_
    refine xt_getI dX11_readHow_104 (flX11_450 rfl) ft_13_19 ho1.1 ho1.2 ?_
    refine xt_imul dX11_readHow_107 ?_
    refine xt_aload_n (j := 1) dX11_readHow_108 rfl rfl ?_
    obtain ⟨b3, hb, H⟩ := H
    refine xt_getR dX11_readHow_109 (flX11_23 rfl) ft_13_8 ho1.1 ho1.2 hb ?_
    refine xt_aload_n (j := 1) dX11_readHow_112 rfl rfl ?_
    refine xt_getI dX11_readHow_113 (flX11_450 rfl) ft_13_19 ho1.1 ho1.2 ?_
    obtain ⟨ho4, H⟩ := H
    obtain ⟨hi, H⟩ := H
    refine xt_iald dX11_readHow_116 ho4.1 ho4.2 hi ?_
    refine xt_iadd dX11_readHow_117 ?_
    refine xt_iconst (v := 1) dX11_readHow_118 (by decide) ?_
    refine xt_isub dX11_readHow_119 ?_
    refine xt_iload_n (j := 0) dX11_readHow_120 rfl rfl ?_
    obtain ⟨ho5, H⟩ := H
    obtain ⟨hi, H⟩ := H
    obtain ⟨M6, eM6⟩ : ∃ z, z = wAI M b2 (((16 * (mI M x0 19)) + (mAI M b3 (mI M x0 19 : Int32).toNatClampNeg)) - 1 : Int32).toNatClampNeg s0 := ⟨_, rfl⟩
    have H := H _ eM6
    refine xt_iast dX11_readHow_121 ho5.1 ho5.2 hi ?_
    have ho1 : ok M6 x0 13 := by rw [eM6]; exact ho1
    rw [← eM6]
    refine xt_aload_n (j := 1) dX11_readHow_122 rfl rfl ?_
    refine xt_callV (h2 := h) (as := []) (st := []) dX11_readHow_123 (mlX11_377 rfl) rfl ho1.1 ⟨by rw [ho1.2]; rfl, by rw [ho1.2]; decide⟩ (by first | decide | (simp [Value.category]; done)) (Nat.le_refl _) H (fun r M7 HH hE => ?_)
    obtain ⟨hr, H⟩ := HH hE
    subst hr
    have ho1 := ok_E ho1 hE
    show T _ _ _ _ [] _ _
    exact xt_sub [] rfl (VX11_readHow_126 H)
  · have H := H.2 hc
    refine xt_aload_n (j := 1) dX11_readHow_80 rfl rfl ?_
    refine xt_iconst (v := 2) dX11_readHow_81 (by decide) ?_
    refine xt_aload_n (j := 1) dX11_readHow_82 rfl rfl ?_
    obtain ⟨ho8, H⟩ := H
    obtain ⟨b9, hb, H⟩ := H
    refine xt_getR dX11_readHow_83 (flX11_16 rfl) ft_13_3 ho8.1 ho8.2 hb ?_
    refine xt_aload_n (j := 1) dX11_readHow_86 rfl rfl ?_
    refine xt_getI dX11_readHow_87 (flX11_366 rfl) ft_13_5 ho8.1 ho8.2 ?_
    obtain ⟨ho10, H⟩ := H
    obtain ⟨hi, H⟩ := H
    refine xt_iald dX11_readHow_90 ho10.1 ho10.2 hi ?_
    refine xt_callV (h2 := h) (as := [.int 2, .int (mAI M b9 (mI M x0 5 : Int32).toNatClampNeg)]) (st := []) dX11_readHow_91 (mlX11_369 rfl) rfl ho8.1 ⟨by rw [ho8.2]; rfl, by rw [ho8.2]; decide⟩ (by first | decide | (simp [Value.category]; done)) (Nat.le_refl _) H (fun r M11 HH hE => ?_)
    obtain ⟨hr, H⟩ := HH hE
    subst hr
    have ho8 := ok_E ho8 hE
    show T _ _ _ _ [] _ _
    refine xt_goto (tgt := 126) dX11_readHow_94 (by decide) ?_
    exact xt_sub [] rfl (VX11_readHow_126 H)
def DX11_readHow_0 (h : Nat) (x0 : Nat) (M : Mem) (Q : Option Value → Mem → Prop) : Prop :=
  ok M x0 13 ∧ (¬ (mI M x0 6) = 0 → DX11_readHow_126 h  M Q) ∧
  ((mI M x0 6) = 0 → E h mdX11_isSaid [.ref x0, .int 3, .long 58] M (fun r M2 => mE M M2 → ∃ r3 : Int32, r = some (.int r3) ∧ (r3 = 0 → DX11_readHow_126 h  M2 Q) ∧
  (¬ (r3 = 0) → E h mdX11_take [.ref x0] M2 (fun r M4 => mE M2 M4 → r = none ∧ (¬ (mI M4 x0 6) = 0 → DX11_readHow_126 h  M4 Q) ∧
  ((mI M4 x0 6) = 0 → E h mdX11_isSaid [.ref x0, .int 1, .long 11318] M4 (fun r M5 => mE M4 M5 → ∃ r6 : Int32, r = some (.int r6) ∧ (r6 = 0 → E h mdX11_isSaid [.ref x0, .int 1, .long 14431] M5 (fun r M7 => mE M5 M7 → ∃ r8 : Int32, r = some (.int r8) ∧ (r8 = 0 → E h mdX11_isSaid [.ref x0, .int 1, .long 267347] M7 (fun r M9 => mE M7 M9 → ∃ r10 : Int32, r = some (.int r10) ∧ (r10 = 0 → DX11_readHow_75 h x0 0 M9 Q) ∧
  (¬ (r10 = 0) → DX11_readHow_75 h x0 3 M9 Q))) ∧
  (¬ (r8 = 0) → DX11_readHow_75 h x0 2 M7 Q))) ∧
  (¬ (r6 = 0) → DX11_readHow_75 h x0 1 M5 Q)))))))
set_option maxRecDepth 20000 in
set_option maxHeartbeats 2000000 in
theorem VX11_readHow_0 {h : Nat} {x0 : Nat} {M : Mem} {Q : Option Value → Mem → Prop} (H : DX11_readHow_0 h x0 M Q) : T (h + 1) mdX11_readHow 0 [(0, .ref x0)] [] M Q := by
  unfold DX11_readHow_0 at H
  refine xt_aload_n (j := 0) dX11_readHow_0 rfl rfl ?_
  obtain ⟨ho1, H⟩ := H
  refine xt_getI dX11_readHow_1 (flX11_360 rfl) ft_13_6 ho1.1 ho1.2 ?_
  refine xt_if_ne (tgt := 126) dX11_readHow_4 (by decide) (fun hc => ?_) (fun hc => ?_)
  · have H := H.1 hc
    exact xt_sub [] rfl (VX11_readHow_126 H)
  · have H := H.2 hc
    refine xt_aload_n (j := 0) dX11_readHow_7 rfl rfl ?_
    refine xt_iconst (v := 3) dX11_readHow_8 (by decide) ?_
    refine xt_ldc2 (v := 58) dX11_readHow_9 (ctX11_478 rfl) ?_
    refine xt_callV (h2 := h) (as := [.int 3, .long 58]) (st := []) dX11_readHow_12 (mlX11_373 rfl) rfl ho1.1 ⟨by rw [ho1.2]; rfl, by rw [ho1.2]; decide⟩ (by first | decide | (simp [Value.category]; done)) (Nat.le_refl _) H (fun r M2 HH hE => ?_)
    obtain ⟨r3, hr, H⟩ := HH hE
    subst hr
    have ho1 := ok_E ho1 hE
    show T _ _ _ _ [.int r3] _ _
    refine xt_if_eq (tgt := 126) dX11_readHow_15 (by decide) (fun hc => ?_) (fun hc => ?_)
    · have H := H.1 hc
      exact xt_sub [] rfl (VX11_readHow_126 H)
    · have H := H.2 hc
      refine xt_aload_n (j := 0) dX11_readHow_18 rfl rfl ?_
      refine xt_callV (h2 := h) (as := []) (st := []) dX11_readHow_19 (mlX11_377 rfl) rfl ho1.1 ⟨by rw [ho1.2]; rfl, by rw [ho1.2]; decide⟩ (by first | decide | (simp [Value.category]; done)) (Nat.le_refl _) H (fun r M4 HH hE => ?_)
      obtain ⟨hr, H⟩ := HH hE
      subst hr
      have ho1 := ok_E ho1 hE
      show T _ _ _ _ [] _ _
      refine xt_aload_n (j := 0) dX11_readHow_22 rfl rfl ?_
      refine xt_getI dX11_readHow_23 (flX11_360 rfl) ft_13_6 ho1.1 ho1.2 ?_
      refine xt_if_ne (tgt := 126) dX11_readHow_26 (by decide) (fun hc => ?_) (fun hc => ?_)
      · have H := H.1 hc
        exact xt_sub [] rfl (VX11_readHow_126 H)
      · have H := H.2 hc
        refine xt_aload_n (j := 0) dX11_readHow_29 rfl rfl ?_
        refine xt_iconst (v := 1) dX11_readHow_30 (by decide) ?_
        refine xt_ldc2 (v := 11318) dX11_readHow_31 (ctX11_386 rfl) ?_
        refine xt_callV (h2 := h) (as := [.int 1, .long 11318]) (st := []) dX11_readHow_34 (mlX11_373 rfl) rfl ho1.1 ⟨by rw [ho1.2]; rfl, by rw [ho1.2]; decide⟩ (by first | decide | (simp [Value.category]; done)) (Nat.le_refl _) H (fun r M5 HH hE => ?_)
        obtain ⟨r6, hr, H⟩ := HH hE
        subst hr
        have ho1 := ok_E ho1 hE
        show T _ _ _ _ [.int r6] _ _
        refine xt_if_eq (tgt := 44) dX11_readHow_37 (by decide) (fun hc => ?_) (fun hc => ?_)
        · have H := H.1 hc
          refine xt_aload_n (j := 0) dX11_readHow_44 rfl rfl ?_
          refine xt_iconst (v := 1) dX11_readHow_45 (by decide) ?_
          refine xt_ldc2 (v := 14431) dX11_readHow_46 (ctX11_388 rfl) ?_
          refine xt_callV (h2 := h) (as := [.int 1, .long 14431]) (st := []) dX11_readHow_49 (mlX11_373 rfl) rfl ho1.1 ⟨by rw [ho1.2]; rfl, by rw [ho1.2]; decide⟩ (by first | decide | (simp [Value.category]; done)) (Nat.le_refl _) H (fun r M7 HH hE => ?_)
          obtain ⟨r8, hr, H⟩ := HH hE
          subst hr
          have ho1 := ok_E ho1 hE
          show T _ _ _ _ [.int r8] _ _
          refine xt_if_eq (tgt := 59) dX11_readHow_52 (by decide) (fun hc => ?_) (fun hc => ?_)
          · have H := H.1 hc
            refine xt_aload_n (j := 0) dX11_readHow_59 rfl rfl ?_
            refine xt_iconst (v := 1) dX11_readHow_60 (by decide) ?_
            refine xt_ldc2 (v := 267347) dX11_readHow_61 (ctX11_390 rfl) ?_
            refine xt_callV (h2 := h) (as := [.int 1, .long 267347]) (st := []) dX11_readHow_64 (mlX11_373 rfl) rfl ho1.1 ⟨by rw [ho1.2]; rfl, by rw [ho1.2]; decide⟩ (by first | decide | (simp [Value.category]; done)) (Nat.le_refl _) H (fun r M9 HH hE => ?_)
            obtain ⟨r10, hr, H⟩ := HH hE
            subst hr
            have ho1 := ok_E ho1 hE
            show T _ _ _ _ [.int r10] _ _
            refine xt_if_eq (tgt := 74) dX11_readHow_67 (by decide) (fun hc => ?_) (fun hc => ?_)
            · have H := H.1 hc
              refine xt_iconst (v := 0) dX11_readHow_74 (by decide) ?_
              exact xt_sub [0] rfl (VX11_readHow_75 H)
            · have H := H.2 hc
              refine xt_iconst (v := 3) dX11_readHow_70 (by decide) ?_
              refine xt_goto (tgt := 75) dX11_readHow_71 (by decide) ?_
              exact xt_sub [0] rfl (VX11_readHow_75 H)
          · have H := H.2 hc
            refine xt_iconst (v := 2) dX11_readHow_55 (by decide) ?_
            refine xt_goto (tgt := 75) dX11_readHow_56 (by decide) ?_
            exact xt_sub [0] rfl (VX11_readHow_75 H)
        · have H := H.2 hc
          refine xt_iconst (v := 1) dX11_readHow_40 (by decide) ?_
          refine xt_goto (tgt := 75) dX11_readHow_41 (by decide) ?_
          exact xt_sub [0] rfl (VX11_readHow_75 H)
theorem KX11_readHow {h : Nat} {x0 : Nat} {M : Mem} {Q : Option Value → Mem → Prop} (H : DX11_readHow_0 h x0 M Q) : E (h + 1) mdX11_readHow [.ref x0] M Q := E.of (by decide) (Nat.le_of_ble_eq_true rfl) (fun _ _ _ => trivial) (VX11_readHow_0 H)
def DX11_readFirst_112 (h : Nat) (M : Mem) (Q : Option Value → Mem → Prop) : Prop :=
  Q none M
set_option maxRecDepth 20000 in
set_option maxHeartbeats 2000000 in
theorem VX11_readFirst_112 {h : Nat} {M : Mem} {Q : Option Value → Mem → Prop} (H : DX11_readFirst_112 h  M Q) : T (h + 1) mdX11_readFirst 112 [] [] M Q := by
  unfold DX11_readFirst_112 at H
  exact xt_return dX11_readFirst_112 rfl H
def DX11_readFirst_36 (h : Nat) (x0 : Nat) (x1 : Int64) (M : Mem) (Q : Option Value → Mem → Prop) : Prop :=
  ok M x0 13 ∧ (¬ (mI M x0 6) = 0 → DX11_readFirst_112 h  M Q) ∧
  ((mI M x0 6) = 0 → ∃ b2 : Nat, mR M x0 2 = some b2 ∧ ok M b2 21 ∧ vp_in (mI M x0 5) (mL M b2) ∧ (¬ (mAI M b2 (mI M x0 5 : Int32).toNatClampNeg) = 2 → ∃ b4 : Nat, mR M x0 3 = some b4 ∧ ok M b4 21 ∧ vp_in (mI M x0 5) (mL M b4) ∧ E h mdX11_fails [.ref x0, .int 2, .int (mAI M b4 (mI M x0 5 : Int32).toNatClampNeg)] M (fun r M6 => mE M M6 → r = none ∧ DX11_readFirst_112 h  M6 Q)) ∧
  ((mAI M b2 (mI M x0 5 : Int32).toNatClampNeg) = 2 → ∃ b7 : Nat, mR M x0 17 = some b7 ∧ ∃ b8 : Nat, mR M x0 10 = some b8 ∧ ok M b8 21 ∧ vp_in (mI M x0 19) (mL M b8) ∧ ∃ b10 : Nat, mR M x0 4 = some b10 ∧ ok M b10 23 ∧ vp_in (mI M x0 5) (mL M b10) ∧ ok M b7 23 ∧ vp_in (((6 * (mI M x0 19)) + (mAI M b8 (mI M x0 19 : Int32).toNatClampNeg)) - 1) (mL M b7) ∧ ∀ M13 : Mem, M13 = wAJ M b7 (((6 * (mI M x0 19)) + (mAI M b8 (mI M x0 19 : Int32).toNatClampNeg)) - 1 : Int32).toNatClampNeg (x1 * (mAJ M b10 (mI M x0 5 : Int32).toNatClampNeg)) →
  E h mdX11_take [.ref x0] M13 (fun r M14 => mE M13 M14 → r = none ∧ DX11_readFirst_112 h  M14 Q)))
set_option maxRecDepth 20000 in
set_option maxHeartbeats 2000000 in
theorem VX11_readFirst_36 {h : Nat} {x0 : Nat} {x1 : Int64} {M : Mem} {Q : Option Value → Mem → Prop} (H : DX11_readFirst_36 h x0 x1 M Q) : T (h + 1) mdX11_readFirst 36 [(0, .ref x0), (1, .long x1)] [] M Q := by
  unfold DX11_readFirst_36 at H
  refine xt_aload_n (j := 0) dX11_readFirst_36 rfl rfl ?_
  obtain ⟨ho1, H⟩ := H
  refine xt_getI dX11_readFirst_37 (flX11_360 rfl) ft_13_6 ho1.1 ho1.2 ?_
  refine xt_if_ne (tgt := 112) dX11_readFirst_40 (by decide) (fun hc => ?_) (fun hc => ?_)
  · have H := H.1 hc
    exact xt_sub [] rfl (VX11_readFirst_112 H)
  · have H := H.2 hc
    refine xt_aload_n (j := 0) dX11_readFirst_43 rfl rfl ?_
    obtain ⟨b2, hb, H⟩ := H
    refine xt_getR dX11_readFirst_44 (flX11_13 rfl) ft_13_2 ho1.1 ho1.2 hb ?_
    refine xt_aload_n (j := 0) dX11_readFirst_47 rfl rfl ?_
    refine xt_getI dX11_readFirst_48 (flX11_366 rfl) ft_13_5 ho1.1 ho1.2 ?_
    obtain ⟨ho3, H⟩ := H
    obtain ⟨hi, H⟩ := H
    refine xt_iald dX11_readFirst_51 ho3.1 ho3.2 hi ?_
    refine xt_iconst (v := 2) dX11_readFirst_52 (by decide) ?_
    refine xt_icmp_ne (tgt := 98) dX11_readFirst_53 (by decide) (fun hc => ?_) (fun hc => ?_)
    · have H := H.1 hc
      refine xt_aload_n (j := 0) dX11_readFirst_98 rfl rfl ?_
      refine xt_iconst (v := 2) dX11_readFirst_99 (by decide) ?_
      refine xt_aload_n (j := 0) dX11_readFirst_100 rfl rfl ?_
      obtain ⟨b4, hb, H⟩ := H
      refine xt_getR dX11_readFirst_101 (flX11_16 rfl) ft_13_3 ho1.1 ho1.2 hb ?_
      refine xt_aload_n (j := 0) dX11_readFirst_104 rfl rfl ?_
      refine xt_getI dX11_readFirst_105 (flX11_366 rfl) ft_13_5 ho1.1 ho1.2 ?_
      obtain ⟨ho5, H⟩ := H
      obtain ⟨hi, H⟩ := H
      refine xt_iald dX11_readFirst_108 ho5.1 ho5.2 hi ?_
      refine xt_callV (h2 := h) (as := [.int 2, .int (mAI M b4 (mI M x0 5 : Int32).toNatClampNeg)]) (st := []) dX11_readFirst_109 (mlX11_369 rfl) rfl ho1.1 ⟨by rw [ho1.2]; rfl, by rw [ho1.2]; decide⟩ (by first | decide | (simp [Value.category]; done)) (Nat.le_refl _) H (fun r M6 HH hE => ?_)
      obtain ⟨hr, H⟩ := HH hE
      subst hr
      have ho1 := ok_E ho1 hE
      show T _ _ _ _ [] _ _
      exact xt_sub [] rfl (VX11_readFirst_112 H)
    · have H := H.2 hc
      refine xt_aload_n (j := 0) dX11_readFirst_56 rfl rfl ?_
      obtain ⟨b7, hb, H⟩ := H
      refine xt_getR dX11_readFirst_57 (flX11_51 rfl) ft_13_17 ho1.1 ho1.2 hb ?_
      refine xt_bipush (v := 6) dX11_readFirst_60 (by decide) ?_
      refine xt_aload_n (j := 0) dX11_readFirst_62 rfl rfl ?_
      refine xt_getI dX11_readFirst_63 (flX11_450 rfl) ft_13_19 ho1.1 ho1.2 ?_
      refine xt_imul dX11_readFirst_66 ?_
      refine xt_aload_n (j := 0) dX11_readFirst_67 rfl rfl ?_
      obtain ⟨b8, hb, H⟩ := H
      refine xt_getR dX11_readFirst_68 (flX11_29 rfl) ft_13_10 ho1.1 ho1.2 hb ?_
      refine xt_aload_n (j := 0) dX11_readFirst_71 rfl rfl ?_
      refine xt_getI dX11_readFirst_72 (flX11_450 rfl) ft_13_19 ho1.1 ho1.2 ?_
      obtain ⟨ho9, H⟩ := H
      obtain ⟨hi, H⟩ := H
      refine xt_iald dX11_readFirst_75 ho9.1 ho9.2 hi ?_
      refine xt_iadd dX11_readFirst_76 ?_
      refine xt_iconst (v := 1) dX11_readFirst_77 (by decide) ?_
      refine xt_isub dX11_readFirst_78 ?_
      refine xt_lload_n (j := 1) dX11_readFirst_79 rfl rfl ?_
      refine xt_aload_n (j := 0) dX11_readFirst_80 rfl rfl ?_
      obtain ⟨b10, hb, H⟩ := H
      refine xt_getR dX11_readFirst_81 (flX11_19 rfl) ft_13_4 ho1.1 ho1.2 hb ?_
      refine xt_aload_n (j := 0) dX11_readFirst_84 rfl rfl ?_
      refine xt_getI dX11_readFirst_85 (flX11_366 rfl) ft_13_5 ho1.1 ho1.2 ?_
      obtain ⟨ho11, H⟩ := H
      obtain ⟨hi, H⟩ := H
      refine xt_lald dX11_readFirst_88 ho11.1 ho11.2 hi ?_
      refine xt_lmul dX11_readFirst_89 ?_
      obtain ⟨ho12, H⟩ := H
      obtain ⟨hi, H⟩ := H
      obtain ⟨M13, eM13⟩ : ∃ z, z = wAJ M b7 (((6 * (mI M x0 19)) + (mAI M b8 (mI M x0 19 : Int32).toNatClampNeg)) - 1 : Int32).toNatClampNeg (x1 * (mAJ M b10 (mI M x0 5 : Int32).toNatClampNeg)) := ⟨_, rfl⟩
      have H := H _ eM13
      refine xt_last dX11_readFirst_90 ho12.1 ho12.2 hi ?_
      have ho1 : ok M13 x0 13 := by rw [eM13]; exact ho1
      rw [← eM13]
      refine xt_aload_n (j := 0) dX11_readFirst_91 rfl rfl ?_
      refine xt_callV (h2 := h) (as := []) (st := []) dX11_readFirst_92 (mlX11_377 rfl) rfl ho1.1 ⟨by rw [ho1.2]; rfl, by rw [ho1.2]; decide⟩ (by first | decide | (simp [Value.category]; done)) (Nat.le_refl _) H (fun r M14 HH hE => ?_)
      obtain ⟨hr, H⟩ := HH hE
      subst hr
      have ho1 := ok_E ho1 hE
      show T _ _ _ _ [] _ _
      refine xt_goto (tgt := 112) dX11_readFirst_95 (by decide) ?_
      exact xt_sub [] rfl (VX11_readFirst_112 H)
def DX11_readFirst_0 (h : Nat) (x0 : Nat) (M : Mem) (Q : Option Value → Mem → Prop) : Prop :=
  ok M x0 13 ∧ E h mdX11_want [.ref x0, .int 3, .long 14909] M (fun r M2 => mE M M2 → r = none ∧ (¬ (mI M2 x0 6) = 0 → DX11_readFirst_36 h x0 1 M2 Q) ∧
  ((mI M2 x0 6) = 0 → E h mdX11_isSaid [.ref x0, .int 3, .long 45] M2 (fun r M3 => mE M2 M3 → ∃ r4 : Int32, r = some (.int r4) ∧ (r4 = 0 → DX11_readFirst_36 h x0 1 M3 Q) ∧
  (¬ (r4 = 0) → E h mdX11_take [.ref x0] M3 (fun r M5 => mE M3 M5 → r = none ∧ DX11_readFirst_36 h x0 (-1) M5 Q)))))
set_option maxRecDepth 20000 in
set_option maxHeartbeats 2000000 in
theorem VX11_readFirst_0 {h : Nat} {x0 : Nat} {M : Mem} {Q : Option Value → Mem → Prop} (H : DX11_readFirst_0 h x0 M Q) : T (h + 1) mdX11_readFirst 0 [(0, .ref x0)] [] M Q := by
  unfold DX11_readFirst_0 at H
  refine xt_aload_n (j := 0) dX11_readFirst_0 rfl rfl ?_
  refine xt_iconst (v := 3) dX11_readFirst_1 (by decide) ?_
  refine xt_ldc2 (v := 14909) dX11_readFirst_2 (ctX11_480 rfl) ?_
  obtain ⟨ho1, H⟩ := H
  refine xt_callV (h2 := h) (as := [.int 3, .long 14909]) (st := []) dX11_readFirst_5 (mlX11_464 rfl) rfl ho1.1 ⟨by rw [ho1.2]; rfl, by rw [ho1.2]; decide⟩ (by first | decide | (simp [Value.category]; done)) (Nat.le_refl _) H (fun r M2 HH hE => ?_)
  obtain ⟨hr, H⟩ := HH hE
  subst hr
  have ho1 := ok_E ho1 hE
  show T _ _ _ _ [] _ _
  refine xt_lconst (v := 1) dX11_readFirst_8 (by decide) ?_
  refine xt_lstore_n (lv' := [(1, .long 1), (0, .ref x0)]) dX11_readFirst_9 rfl (by decide) rfl ?_
  refine xt_aload_n (j := 1) dX11_readFirst_10 rfl rfl ?_
  refine xt_getI dX11_readFirst_11 (flX11_360 rfl) ft_13_6 ho1.1 ho1.2 ?_
  refine xt_if_ne (tgt := 36) dX11_readFirst_14 (by decide) (fun hc => ?_) (fun hc => ?_)
  · have H := H.1 hc
    exact xt_sub [1, 0] rfl (VX11_readFirst_36 H)
  · have H := H.2 hc
    refine xt_aload_n (j := 1) dX11_readFirst_17 rfl rfl ?_
    refine xt_iconst (v := 3) dX11_readFirst_18 (by decide) ?_
    refine xt_ldc2 (v := 45) dX11_readFirst_19 (ctX11_482 rfl) ?_
    refine xt_callV (h2 := h) (as := [.int 3, .long 45]) (st := []) dX11_readFirst_22 (mlX11_373 rfl) rfl ho1.1 ⟨by rw [ho1.2]; rfl, by rw [ho1.2]; decide⟩ (by first | decide | (simp [Value.category]; done)) (Nat.le_refl _) H (fun r M3 HH hE => ?_)
    obtain ⟨r4, hr, H⟩ := HH hE
    subst hr
    have ho1 := ok_E ho1 hE
    show T _ _ _ _ [.int r4] _ _
    refine xt_if_eq (tgt := 36) dX11_readFirst_25 (by decide) (fun hc => ?_) (fun hc => ?_)
    · have H := H.1 hc
      exact xt_sub [1, 0] rfl (VX11_readFirst_36 H)
    · have H := H.2 hc
      refine xt_ldc2 (v := -1) dX11_readFirst_28 (ctX11_484 rfl) ?_
      refine xt_lstore_n (lv' := [(1, .long (-1)), (0, .ref x0)]) dX11_readFirst_31 rfl (by decide) rfl ?_
      refine xt_aload_n (j := 1) dX11_readFirst_32 rfl rfl ?_
      refine xt_callV (h2 := h) (as := []) (st := []) dX11_readFirst_33 (mlX11_377 rfl) rfl ho1.1 ⟨by rw [ho1.2]; rfl, by rw [ho1.2]; decide⟩ (by first | decide | (simp [Value.category]; done)) (Nat.le_refl _) H (fun r M5 HH hE => ?_)
      obtain ⟨hr, H⟩ := HH hE
      subst hr
      have ho1 := ok_E ho1 hE
      show T _ _ _ _ [] _ _
      exact xt_sub [1, 0] rfl (VX11_readFirst_36 H)
theorem KX11_readFirst {h : Nat} {x0 : Nat} {M : Mem} {Q : Option Value → Mem → Prop} (H : DX11_readFirst_0 h x0 M Q) : E (h + 1) mdX11_readFirst [.ref x0] M Q := E.of (by decide) (Nat.le_of_ble_eq_true rfl) (fun _ _ _ => trivial) (VX11_readFirst_0 H)
def DX11_cond_0 (h : Nat) (x0 : Nat) (x1 : Int32) (x2 : Int32) (x3 : Int32) (M : Mem) (Q : Option Value → Mem → Prop) : Prop :=
  ok M x0 13 ∧ ∃ b2 : Nat, mR M x0 20 = some b2 ∧ ok M b2 21 ∧ vp_in (mI M x0 19) (mL M b2) ∧ ∃ b4 : Nat, mR M x0 20 = some b4 ∧ ok M b4 21 ∧ vp_in (mI M x0 19) (mL M b4) ∧ vp_in (mI M x0 19) (mL M b4) ∧ ∀ M6 : Mem, M6 = wAI M b4 (mI M x0 19 : Int32).toNatClampNeg ((mAI M b4 (mI M x0 19 : Int32).toNatClampNeg) + 1) →
  ∃ b7 : Nat, mR M6 x0 21 = some b7 ∧ ok M6 b7 21 ∧ vp_in ((410 * (mI M x0 19)) + (mAI M b2 (mI M x0 19 : Int32).toNatClampNeg)) (mL M6 b7) ∧ ∀ M9 : Mem, M9 = wAI M6 b7 ((410 * (mI M x0 19)) + (mAI M b2 (mI M x0 19 : Int32).toNatClampNeg) : Int32).toNatClampNeg x1 →
  ∃ b10 : Nat, mR M9 x0 22 = some b10 ∧ ok M9 b10 21 ∧ vp_in ((410 * (mI M x0 19)) + (mAI M b2 (mI M x0 19 : Int32).toNatClampNeg)) (mL M9 b10) ∧ ∀ M12 : Mem, M12 = wAI M9 b10 ((410 * (mI M x0 19)) + (mAI M b2 (mI M x0 19 : Int32).toNatClampNeg) : Int32).toNatClampNeg x2 →
  ∃ b13 : Nat, mR M12 x0 23 = some b13 ∧ ok M12 b13 21 ∧ vp_in ((410 * (mI M x0 19)) + (mAI M b2 (mI M x0 19 : Int32).toNatClampNeg)) (mL M12 b13) ∧ ∀ M15 : Mem, M15 = wAI M12 b13 ((410 * (mI M x0 19)) + (mAI M b2 (mI M x0 19 : Int32).toNatClampNeg) : Int32).toNatClampNeg x3 →
  Q (some (.int ((410 * (mI M x0 19)) + (mAI M b2 (mI M x0 19 : Int32).toNatClampNeg)))) M15
set_option maxRecDepth 20000 in
set_option maxHeartbeats 2000000 in
theorem VX11_cond_0 {h : Nat} {x0 : Nat} {x1 : Int32} {x2 : Int32} {x3 : Int32} {M : Mem} {Q : Option Value → Mem → Prop} (H : DX11_cond_0 h x0 x1 x2 x3 M Q) : T (h + 1) mdX11_cond 0 [(0, .ref x0), (1, .int x1), (2, .int x2), (3, .int x3)] [] M Q := by
  unfold DX11_cond_0 at H
  refine xt_sipush (v := 410) dX11_cond_0 (by decide) ?_
  refine xt_aload_n (j := 0) dX11_cond_3 rfl rfl ?_
  obtain ⟨ho1, H⟩ := H
  refine xt_getI dX11_cond_4 (flX11_450 rfl) ft_13_19 ho1.1 ho1.2 ?_
  refine xt_imul dX11_cond_7 ?_
  refine xt_aload_n (j := 0) dX11_cond_8 rfl rfl ?_
  obtain ⟨b2, hb, H⟩ := H
  refine xt_getR dX11_cond_9 (flX11_54 rfl) ft_13_20 ho1.1 ho1.2 hb ?_
  refine xt_aload_n (j := 0) dX11_cond_12 rfl rfl ?_
  refine xt_getI dX11_cond_13 (flX11_450 rfl) ft_13_19 ho1.1 ho1.2 ?_
  obtain ⟨ho3, H⟩ := H
  obtain ⟨hi, H⟩ := H
  refine xt_iald dX11_cond_16 ho3.1 ho3.2 hi ?_
  refine xt_iadd dX11_cond_17 ?_
  refine xt_istore (lv' := [(4, .int ((410 * (mI M x0 19)) + (mAI M b2 (mI M x0 19 : Int32).toNatClampNeg))), (0, .ref x0), (1, .int x1), (2, .int x2), (3, .int x3)]) dX11_cond_18 (by decide) rfl ?_
  refine xt_aload_n (j := 1) dX11_cond_20 rfl rfl ?_
  obtain ⟨b4, hb, H⟩ := H
  refine xt_getR dX11_cond_21 (flX11_54 rfl) ft_13_20 ho1.1 ho1.2 hb ?_
  refine xt_aload_n (j := 1) dX11_cond_24 rfl rfl ?_
  refine xt_getI dX11_cond_25 (flX11_450 rfl) ft_13_19 ho1.1 ho1.2 ?_
  refine xt_dup2 dX11_cond_28 rfl rfl ?_
  obtain ⟨ho5, H⟩ := H
  obtain ⟨hi, H⟩ := H
  refine xt_iald dX11_cond_29 ho5.1 ho5.2 hi ?_
  refine xt_iconst (v := 1) dX11_cond_30 (by decide) ?_
  refine xt_iadd dX11_cond_31 ?_
  obtain ⟨hi, H⟩ := H
  obtain ⟨M6, eM6⟩ : ∃ z, z = wAI M b4 (mI M x0 19 : Int32).toNatClampNeg ((mAI M b4 (mI M x0 19 : Int32).toNatClampNeg) + 1) := ⟨_, rfl⟩
  have H := H _ eM6
  refine xt_iast dX11_cond_32 ho5.1 ho5.2 hi ?_
  have ho1 : ok M6 x0 13 := by rw [eM6]; exact ho1
  rw [← eM6]
  refine xt_aload_n (j := 1) dX11_cond_33 rfl rfl ?_
  obtain ⟨b7, hb, H⟩ := H
  refine xt_getR dX11_cond_34 (flX11_57 rfl) ft_13_21 ho1.1 ho1.2 hb ?_
  refine xt_iload (j := 0) dX11_cond_37 rfl ?_
  refine xt_iload_n (j := 2) dX11_cond_39 rfl rfl ?_
  obtain ⟨ho8, H⟩ := H
  obtain ⟨hi, H⟩ := H
  obtain ⟨M9, eM9⟩ : ∃ z, z = wAI M6 b7 ((410 * (mI M x0 19)) + (mAI M b2 (mI M x0 19 : Int32).toNatClampNeg) : Int32).toNatClampNeg x1 := ⟨_, rfl⟩
  have H := H _ eM9
  refine xt_iast dX11_cond_40 ho8.1 ho8.2 hi ?_
  have ho1 : ok M9 x0 13 := by rw [eM9]; exact ho1
  rw [← eM9]
  refine xt_aload_n (j := 1) dX11_cond_41 rfl rfl ?_
  obtain ⟨b10, hb, H⟩ := H
  refine xt_getR dX11_cond_42 (flX11_60 rfl) ft_13_22 ho1.1 ho1.2 hb ?_
  refine xt_iload (j := 0) dX11_cond_45 rfl ?_
  refine xt_iload_n (j := 3) dX11_cond_47 rfl rfl ?_
  obtain ⟨ho11, H⟩ := H
  obtain ⟨hi, H⟩ := H
  obtain ⟨M12, eM12⟩ : ∃ z, z = wAI M9 b10 ((410 * (mI M x0 19)) + (mAI M b2 (mI M x0 19 : Int32).toNatClampNeg) : Int32).toNatClampNeg x2 := ⟨_, rfl⟩
  have H := H _ eM12
  refine xt_iast dX11_cond_48 ho11.1 ho11.2 hi ?_
  have ho1 : ok M12 x0 13 := by rw [eM12]; exact ho1
  rw [← eM12]
  refine xt_aload_n (j := 1) dX11_cond_49 rfl rfl ?_
  obtain ⟨b13, hb, H⟩ := H
  refine xt_getR dX11_cond_50 (flX11_63 rfl) ft_13_23 ho1.1 ho1.2 hb ?_
  refine xt_iload (j := 0) dX11_cond_53 rfl ?_
  refine xt_iload_n (j := 4) dX11_cond_55 rfl rfl ?_
  obtain ⟨ho14, H⟩ := H
  obtain ⟨hi, H⟩ := H
  obtain ⟨M15, eM15⟩ : ∃ z, z = wAI M12 b13 ((410 * (mI M x0 19)) + (mAI M b2 (mI M x0 19 : Int32).toNatClampNeg) : Int32).toNatClampNeg x3 := ⟨_, rfl⟩
  have H := H _ eM15
  refine xt_iast dX11_cond_56 ho14.1 ho14.2 hi ?_
  have ho1 : ok M15 x0 13 := by rw [eM15]; exact ho1
  rw [← eM15]
  refine xt_iload (j := 0) dX11_cond_57 rfl ?_
  exact xt_ireturn dX11_cond_59 rfl H
theorem KX11_cond {h : Nat} {x0 : Nat} {x1 : Int32} {x2 : Int32} {x3 : Int32} {M : Mem} {Q : Option Value → Mem → Prop} (H : DX11_cond_0 h x0 x1 x2 x3 M Q) : E (h + 1) mdX11_cond [.ref x0, .int x1, .int x2, .int x3] M Q := E.of (by decide) (Nat.le_of_ble_eq_true rfl) (fun _ _ _ => trivial) (VX11_cond_0 H)
def DX11_sum_0 (h : Nat) (x0 : Nat) (x1 : Int32) (x2 : Int64) (x4 : Int32) (M : Mem) (Q : Option Value → Mem → Prop) : Prop :=
  ok M x0 13 ∧ ∃ b2 : Nat, mR M x0 24 = some b2 ∧ ok M b2 21 ∧ vp_in (mI M x0 19) (mL M b2) ∧ ∃ b4 : Nat, mR M x0 24 = some b4 ∧ ok M b4 21 ∧ vp_in (mI M x0 19) (mL M b4) ∧ vp_in (mI M x0 19) (mL M b4) ∧ ∀ M6 : Mem, M6 = wAI M b4 (mI M x0 19 : Int32).toNatClampNeg ((mAI M b4 (mI M x0 19 : Int32).toNatClampNeg) + 1) →
  ∃ b7 : Nat, mR M6 x0 25 = some b7 ∧ ok M6 b7 21 ∧ vp_in ((810 * (mI M x0 19)) + (mAI M b2 (mI M x0 19 : Int32).toNatClampNeg)) (mL M6 b7) ∧ ∀ M9 : Mem, M9 = wAI M6 b7 ((810 * (mI M x0 19)) + (mAI M b2 (mI M x0 19 : Int32).toNatClampNeg) : Int32).toNatClampNeg x1 →
  ∃ b10 : Nat, mR M9 x0 26 = some b10 ∧ ok M9 b10 23 ∧ vp_in ((810 * (mI M x0 19)) + (mAI M b2 (mI M x0 19 : Int32).toNatClampNeg)) (mL M9 b10) ∧ ∀ M12 : Mem, M12 = wAJ M9 b10 ((810 * (mI M x0 19)) + (mAI M b2 (mI M x0 19 : Int32).toNatClampNeg) : Int32).toNatClampNeg x2 →
  ∃ b13 : Nat, mR M12 x0 27 = some b13 ∧ ok M12 b13 21 ∧ vp_in ((810 * (mI M x0 19)) + (mAI M b2 (mI M x0 19 : Int32).toNatClampNeg)) (mL M12 b13) ∧ ∀ M15 : Mem, M15 = wAI M12 b13 ((810 * (mI M x0 19)) + (mAI M b2 (mI M x0 19 : Int32).toNatClampNeg) : Int32).toNatClampNeg x4 →
  Q (some (.int ((810 * (mI M x0 19)) + (mAI M b2 (mI M x0 19 : Int32).toNatClampNeg)))) M15
set_option maxRecDepth 20000 in
set_option maxHeartbeats 2000000 in
theorem VX11_sum_0 {h : Nat} {x0 : Nat} {x1 : Int32} {x2 : Int64} {x4 : Int32} {M : Mem} {Q : Option Value → Mem → Prop} (H : DX11_sum_0 h x0 x1 x2 x4 M Q) : T (h + 1) mdX11_sum 0 [(0, .ref x0), (1, .int x1), (2, .long x2), (4, .int x4)] [] M Q := by
  unfold DX11_sum_0 at H
  refine xt_sipush (v := 810) dX11_sum_0 (by decide) ?_
  refine xt_aload_n (j := 0) dX11_sum_3 rfl rfl ?_
  obtain ⟨ho1, H⟩ := H
  refine xt_getI dX11_sum_4 (flX11_450 rfl) ft_13_19 ho1.1 ho1.2 ?_
  refine xt_imul dX11_sum_7 ?_
  refine xt_aload_n (j := 0) dX11_sum_8 rfl rfl ?_
  obtain ⟨b2, hb, H⟩ := H
  refine xt_getR dX11_sum_9 (flX11_66 rfl) ft_13_24 ho1.1 ho1.2 hb ?_
  refine xt_aload_n (j := 0) dX11_sum_12 rfl rfl ?_
  refine xt_getI dX11_sum_13 (flX11_450 rfl) ft_13_19 ho1.1 ho1.2 ?_
  obtain ⟨ho3, H⟩ := H
  obtain ⟨hi, H⟩ := H
  refine xt_iald dX11_sum_16 ho3.1 ho3.2 hi ?_
  refine xt_iadd dX11_sum_17 ?_
  refine xt_istore (lv' := [(5, .int ((810 * (mI M x0 19)) + (mAI M b2 (mI M x0 19 : Int32).toNatClampNeg))), (0, .ref x0), (1, .int x1), (2, .long x2), (4, .int x4)]) dX11_sum_18 (by decide) rfl ?_
  refine xt_aload_n (j := 1) dX11_sum_20 rfl rfl ?_
  obtain ⟨b4, hb, H⟩ := H
  refine xt_getR dX11_sum_21 (flX11_66 rfl) ft_13_24 ho1.1 ho1.2 hb ?_
  refine xt_aload_n (j := 1) dX11_sum_24 rfl rfl ?_
  refine xt_getI dX11_sum_25 (flX11_450 rfl) ft_13_19 ho1.1 ho1.2 ?_
  refine xt_dup2 dX11_sum_28 rfl rfl ?_
  obtain ⟨ho5, H⟩ := H
  obtain ⟨hi, H⟩ := H
  refine xt_iald dX11_sum_29 ho5.1 ho5.2 hi ?_
  refine xt_iconst (v := 1) dX11_sum_30 (by decide) ?_
  refine xt_iadd dX11_sum_31 ?_
  obtain ⟨hi, H⟩ := H
  obtain ⟨M6, eM6⟩ : ∃ z, z = wAI M b4 (mI M x0 19 : Int32).toNatClampNeg ((mAI M b4 (mI M x0 19 : Int32).toNatClampNeg) + 1) := ⟨_, rfl⟩
  have H := H _ eM6
  refine xt_iast dX11_sum_32 ho5.1 ho5.2 hi ?_
  have ho1 : ok M6 x0 13 := by rw [eM6]; exact ho1
  rw [← eM6]
  refine xt_aload_n (j := 1) dX11_sum_33 rfl rfl ?_
  obtain ⟨b7, hb, H⟩ := H
  refine xt_getR dX11_sum_34 (flX11_69 rfl) ft_13_25 ho1.1 ho1.2 hb ?_
  refine xt_iload (j := 0) dX11_sum_37 rfl ?_
  refine xt_iload_n (j := 2) dX11_sum_39 rfl rfl ?_
  obtain ⟨ho8, H⟩ := H
  obtain ⟨hi, H⟩ := H
  obtain ⟨M9, eM9⟩ : ∃ z, z = wAI M6 b7 ((810 * (mI M x0 19)) + (mAI M b2 (mI M x0 19 : Int32).toNatClampNeg) : Int32).toNatClampNeg x1 := ⟨_, rfl⟩
  have H := H _ eM9
  refine xt_iast dX11_sum_40 ho8.1 ho8.2 hi ?_
  have ho1 : ok M9 x0 13 := by rw [eM9]; exact ho1
  rw [← eM9]
  refine xt_aload_n (j := 1) dX11_sum_41 rfl rfl ?_
  obtain ⟨b10, hb, H⟩ := H
  refine xt_getR dX11_sum_42 (flX11_72 rfl) ft_13_26 ho1.1 ho1.2 hb ?_
  refine xt_iload (j := 0) dX11_sum_45 rfl ?_
  refine xt_lload_n (j := 3) dX11_sum_47 rfl rfl ?_
  obtain ⟨ho11, H⟩ := H
  obtain ⟨hi, H⟩ := H
  obtain ⟨M12, eM12⟩ : ∃ z, z = wAJ M9 b10 ((810 * (mI M x0 19)) + (mAI M b2 (mI M x0 19 : Int32).toNatClampNeg) : Int32).toNatClampNeg x2 := ⟨_, rfl⟩
  have H := H _ eM12
  refine xt_last dX11_sum_48 ho11.1 ho11.2 hi ?_
  have ho1 : ok M12 x0 13 := by rw [eM12]; exact ho1
  rw [← eM12]
  refine xt_aload_n (j := 1) dX11_sum_49 rfl rfl ?_
  obtain ⟨b13, hb, H⟩ := H
  refine xt_getR dX11_sum_50 (flX11_75 rfl) ft_13_27 ho1.1 ho1.2 hb ?_
  refine xt_iload (j := 0) dX11_sum_53 rfl ?_
  refine xt_iload (j := 4) dX11_sum_55 rfl ?_
  obtain ⟨ho14, H⟩ := H
  obtain ⟨hi, H⟩ := H
  obtain ⟨M15, eM15⟩ : ∃ z, z = wAI M12 b13 ((810 * (mI M x0 19)) + (mAI M b2 (mI M x0 19 : Int32).toNatClampNeg) : Int32).toNatClampNeg x4 := ⟨_, rfl⟩
  have H := H _ eM15
  refine xt_iast dX11_sum_57 ho14.1 ho14.2 hi ?_
  have ho1 : ok M15 x0 13 := by rw [eM15]; exact ho1
  rw [← eM15]
  refine xt_iload (j := 0) dX11_sum_58 rfl ?_
  exact xt_ireturn dX11_sum_60 rfl H
theorem KX11_sum {h : Nat} {x0 : Nat} {x1 : Int32} {x2 : Int64} {x4 : Int32} {M : Mem} {Q : Option Value → Mem → Prop} (H : DX11_sum_0 h x0 x1 x2 x4 M Q) : E (h + 1) mdX11_sum [.ref x0, .int x1, .long x2, .int x4] M Q := E.of (by decide) (Nat.le_of_ble_eq_true rfl) (fun _ _ _ => trivial) (VX11_sum_0 H)
def DX11_opening_86 (h : Nat) (M : Mem) (Q : Option Value → Mem → Prop) : Prop :=
  Q none M
set_option maxRecDepth 20000 in
set_option maxHeartbeats 2000000 in
theorem VX11_opening_86 {h : Nat} {M : Mem} {Q : Option Value → Mem → Prop} (H : DX11_opening_86 h  M Q) : T (h + 1) mdX11_opening 86 [] [] M Q := by
  unfold DX11_opening_86 at H
  exact xt_return dX11_opening_86 rfl H
def DX11_opening_78 (h : Nat) (x0 : Nat) (s0 : Nat) (s1 : Int32) (s2 : Int32) (M : Mem) (Q : Option Value → Mem → Prop) : Prop :=
  ok M s0 13 ∧ ∀ M2 : Mem, M2 = wI M s0 32 (s1 + s2) →
  ok M2 x0 13 ∧ E h mdX11_take [.ref x0] M2 (fun r M4 => mE M2 M4 → r = none ∧ DX11_opening_86 h  M4 Q)
set_option maxRecDepth 20000 in
set_option maxHeartbeats 2000000 in
theorem VX11_opening_78 {h : Nat} {x0 : Nat} {s0 : Nat} {s1 : Int32} {s2 : Int32} {M : Mem} {Q : Option Value → Mem → Prop} (H : DX11_opening_78 h x0 s0 s1 s2 M Q) : T (h + 1) mdX11_opening 78 [(0, .ref x0)] [.int s2, .int s1, .ref s0] M Q := by
  unfold DX11_opening_78 at H
  refine xt_iadd dX11_opening_78 ?_
  obtain ⟨ho1, H⟩ := H
  obtain ⟨M2, eM2⟩ : ∃ z, z = wI M s0 32 (s1 + s2) := ⟨_, rfl⟩
  have H := H _ eM2
  refine xt_putI dX11_opening_79 (flX11_492 rfl) ty_13_32 rfl ho1.1 ho1.2 ?_
  rw [← eM2]
  refine xt_aload_n (j := 0) dX11_opening_82 rfl rfl ?_
  obtain ⟨ho3, H⟩ := H
  refine xt_callV (h2 := h) (as := []) (st := []) dX11_opening_83 (mlX11_377 rfl) rfl ho3.1 ⟨by rw [ho3.2]; rfl, by rw [ho3.2]; decide⟩ (by first | decide | (simp [Value.category]; done)) (Nat.le_refl _) H (fun r M4 HH hE => ?_)
  obtain ⟨hr, H⟩ := HH hE
  subst hr
  have ho3 := ok_E ho3 hE
  show T _ _ _ _ [] _ _
  exact xt_sub [] rfl (VX11_opening_86 H)
def DX11_opening_73 (h : Nat) (x0 : Nat) (s0 : Nat) (s1 : Int32) (M : Mem) (Q : Option Value → Mem → Prop) : Prop :=
  DX11_opening_78 h x0 s0 s1 1 M Q
set_option maxRecDepth 20000 in
set_option maxHeartbeats 2000000 in
theorem VX11_opening_73 {h : Nat} {x0 : Nat} {s0 : Nat} {s1 : Int32} {M : Mem} {Q : Option Value → Mem → Prop} (H : DX11_opening_73 h x0 s0 s1 M Q) : T (h + 1) mdX11_opening 73 [(0, .ref x0)] [.int s1, .ref s0] M Q := by
  unfold DX11_opening_73 at H
  refine xt_iconst (v := 1) dX11_opening_73 (by decide) ?_
  refine xt_goto (tgt := 78) dX11_opening_74 (by decide) ?_
  exact xt_sub [0] rfl (VX11_opening_78 H)
def DX11_opening_0 (h : Nat) (x0 : Nat) (x1 : Int32) (M : Mem) (Q : Option Value → Mem → Prop) : Prop :=
  ok M x0 13 ∧ (¬ (mI M x0 33) = 15 → ∀ M2 : Mem, M2 = wI M x0 33 ((mI M x0 33) + 1) →
  ∃ b3 : Nat, mR M2 x0 28 = some b3 ∧ ok M2 b3 21 ∧ vp_in (mI M2 x0 29) (mL M2 b3) ∧ ∀ M5 : Mem, M5 = wAI M2 b3 (mI M2 x0 29 : Int32).toNatClampNeg x1 →
  ∀ M6 : Mem, M6 = wI M5 x0 29 ((mI M5 x0 29) + 1) →
  (x1 = 5 → DX11_opening_73 h x0 x0 (mI M6 x0 32) M6 Q) ∧
  (¬ (x1 = 5) → (¬ x1 = 9 → DX11_opening_78 h x0 x0 (mI M6 x0 32) 0 M6 Q) ∧
  (x1 = 9 → DX11_opening_73 h x0 x0 (mI M6 x0 32) M6 Q))) ∧
  ((mI M x0 33) = 15 → ∃ b7 : Nat, mR M x0 3 = some b7 ∧ ok M b7 21 ∧ vp_in (mI M x0 5) (mL M b7) ∧ E h mdX11_fails [.ref x0, .int 6, .int (mAI M b7 (mI M x0 5 : Int32).toNatClampNeg)] M (fun r M9 => mE M M9 → r = none ∧ DX11_opening_86 h  M9 Q))
set_option maxRecDepth 20000 in
set_option maxHeartbeats 2000000 in
theorem VX11_opening_0 {h : Nat} {x0 : Nat} {x1 : Int32} {M : Mem} {Q : Option Value → Mem → Prop} (H : DX11_opening_0 h x0 x1 M Q) : T (h + 1) mdX11_opening 0 [(0, .ref x0), (1, .int x1)] [] M Q := by
  unfold DX11_opening_0 at H
  refine xt_aload_n (j := 0) dX11_opening_0 rfl rfl ?_
  obtain ⟨ho1, H⟩ := H
  refine xt_getI dX11_opening_1 (flX11_486 rfl) ft_13_33 ho1.1 ho1.2 ?_
  refine xt_bipush (v := 15) dX11_opening_4 (by decide) ?_
  refine xt_icmp_ne (tgt := 27) dX11_opening_6 (by decide) (fun hc => ?_) (fun hc => ?_)
  · have H := H.1 hc
    refine xt_aload_n (j := 0) dX11_opening_27 rfl rfl ?_
    refine xt_dup dX11_opening_28 rfl ?_
    refine xt_getI dX11_opening_29 (flX11_486 rfl) ft_13_33 ho1.1 ho1.2 ?_
    refine xt_iconst (v := 1) dX11_opening_32 (by decide) ?_
    refine xt_iadd dX11_opening_33 ?_
    obtain ⟨M2, eM2⟩ : ∃ z, z = wI M x0 33 ((mI M x0 33) + 1) := ⟨_, rfl⟩
    have H := H _ eM2
    refine xt_putI dX11_opening_34 (flX11_486 rfl) ty_13_33 rfl ho1.1 ho1.2 ?_
    have ho1 : ok M2 x0 13 := by rw [eM2]; exact ho1
    rw [← eM2]
    refine xt_aload_n (j := 0) dX11_opening_37 rfl rfl ?_
    obtain ⟨b3, hb, H⟩ := H
    refine xt_getR dX11_opening_38 (flX11_78 rfl) ft_13_28 ho1.1 ho1.2 hb ?_
    refine xt_aload_n (j := 0) dX11_opening_41 rfl rfl ?_
    refine xt_getI dX11_opening_42 (flX11_489 rfl) ft_13_29 ho1.1 ho1.2 ?_
    refine xt_iload_n (j := 1) dX11_opening_45 rfl rfl ?_
    obtain ⟨ho4, H⟩ := H
    obtain ⟨hi, H⟩ := H
    obtain ⟨M5, eM5⟩ : ∃ z, z = wAI M2 b3 (mI M2 x0 29 : Int32).toNatClampNeg x1 := ⟨_, rfl⟩
    have H := H _ eM5
    refine xt_iast dX11_opening_46 ho4.1 ho4.2 hi ?_
    have ho1 : ok M5 x0 13 := by rw [eM5]; exact ho1
    rw [← eM5]
    refine xt_aload_n (j := 0) dX11_opening_47 rfl rfl ?_
    refine xt_dup dX11_opening_48 rfl ?_
    refine xt_getI dX11_opening_49 (flX11_489 rfl) ft_13_29 ho1.1 ho1.2 ?_
    refine xt_iconst (v := 1) dX11_opening_52 (by decide) ?_
    refine xt_iadd dX11_opening_53 ?_
    obtain ⟨M6, eM6⟩ : ∃ z, z = wI M5 x0 29 ((mI M5 x0 29) + 1) := ⟨_, rfl⟩
    have H := H _ eM6
    refine xt_putI dX11_opening_54 (flX11_489 rfl) ty_13_29 rfl ho1.1 ho1.2 ?_
    have ho1 : ok M6 x0 13 := by rw [eM6]; exact ho1
    rw [← eM6]
    refine xt_aload_n (j := 0) dX11_opening_57 rfl rfl ?_
    refine xt_dup dX11_opening_58 rfl ?_
    refine xt_getI dX11_opening_59 (flX11_492 rfl) ft_13_32 ho1.1 ho1.2 ?_
    refine xt_iload_n (j := 1) dX11_opening_62 rfl rfl ?_
    refine xt_iconst (v := 5) dX11_opening_63 (by decide) ?_
    refine xt_icmp_eq (tgt := 73) dX11_opening_64 (by decide) (fun hc => ?_) (fun hc => ?_)
    · have H := H.1 hc
      exact xt_sub [0] rfl (VX11_opening_73 H)
    · have H := H.2 hc
      refine xt_iload_n (j := 1) dX11_opening_67 rfl rfl ?_
      refine xt_bipush (v := 9) dX11_opening_68 (by decide) ?_
      refine xt_icmp_ne (tgt := 77) dX11_opening_70 (by decide) (fun hc => ?_) (fun hc => ?_)
      · have H := H.1 hc
        refine xt_iconst (v := 0) dX11_opening_77 (by decide) ?_
        exact xt_sub [0] rfl (VX11_opening_78 H)
      · have H := H.2 hc
        exact xt_sub [0] rfl (VX11_opening_73 H)
  · have H := H.2 hc
    refine xt_aload_n (j := 0) dX11_opening_9 rfl rfl ?_
    refine xt_bipush (v := 6) dX11_opening_10 (by decide) ?_
    refine xt_aload_n (j := 0) dX11_opening_12 rfl rfl ?_
    obtain ⟨b7, hb, H⟩ := H
    refine xt_getR dX11_opening_13 (flX11_16 rfl) ft_13_3 ho1.1 ho1.2 hb ?_
    refine xt_aload_n (j := 0) dX11_opening_16 rfl rfl ?_
    refine xt_getI dX11_opening_17 (flX11_366 rfl) ft_13_5 ho1.1 ho1.2 ?_
    obtain ⟨ho8, H⟩ := H
    obtain ⟨hi, H⟩ := H
    refine xt_iald dX11_opening_20 ho8.1 ho8.2 hi ?_
    refine xt_callV (h2 := h) (as := [.int 6, .int (mAI M b7 (mI M x0 5 : Int32).toNatClampNeg)]) (st := []) dX11_opening_21 (mlX11_369 rfl) rfl ho1.1 ⟨by rw [ho1.2]; rfl, by rw [ho1.2]; decide⟩ (by first | decide | (simp [Value.category]; done)) (Nat.le_refl _) H (fun r M9 HH hE => ?_)
    obtain ⟨hr, H⟩ := HH hE
    subst hr
    have ho1 := ok_E ho1 hE
    show T _ _ _ _ [] _ _
    refine xt_goto (tgt := 86) dX11_opening_24 (by decide) ?_
    exact xt_sub [] rfl (VX11_opening_86 H)
theorem KX11_opening {h : Nat} {x0 : Nat} {x1 : Int32} {M : Mem} {Q : Option Value → Mem → Prop} (H : DX11_opening_0 h x0 x1 M Q) : E (h + 1) mdX11_opening [.ref x0, .int x1] M Q := E.of (by decide) (Nat.le_of_ble_eq_true rfl) (fun _ _ _ => trivial) (VX11_opening_0 H)
def DX11_popped_0 (h : Nat) (x0 : Nat) (M : Mem) (Q : Option Value → Mem → Prop) : Prop :=
  ok M x0 13 ∧ ∀ M2 : Mem, M2 = wI M x0 31 ((mI M x0 31) - 1) →
  ∃ b3 : Nat, mR M2 x0 30 = some b3 ∧ ok M2 b3 21 ∧ vp_in (mI M2 x0 31) (mL M2 b3) ∧ Q (some (.int (mAI M2 b3 (mI M2 x0 31 : Int32).toNatClampNeg))) M2
set_option maxRecDepth 20000 in
set_option maxHeartbeats 2000000 in
theorem VX11_popped_0 {h : Nat} {x0 : Nat} {M : Mem} {Q : Option Value → Mem → Prop} (H : DX11_popped_0 h x0 M Q) : T (h + 1) mdX11_popped 0 [(0, .ref x0)] [] M Q := by
  unfold DX11_popped_0 at H
  refine xt_aload_n (j := 0) dX11_popped_0 rfl rfl ?_
  refine xt_dup dX11_popped_1 rfl ?_
  obtain ⟨ho1, H⟩ := H
  refine xt_getI dX11_popped_2 (flX11_495 rfl) ft_13_31 ho1.1 ho1.2 ?_
  refine xt_iconst (v := 1) dX11_popped_5 (by decide) ?_
  refine xt_isub dX11_popped_6 ?_
  obtain ⟨M2, eM2⟩ : ∃ z, z = wI M x0 31 ((mI M x0 31) - 1) := ⟨_, rfl⟩
  have H := H _ eM2
  refine xt_putI dX11_popped_7 (flX11_495 rfl) ty_13_31 rfl ho1.1 ho1.2 ?_
  have ho1 : ok M2 x0 13 := by rw [eM2]; exact ho1
  rw [← eM2]
  refine xt_aload_n (j := 0) dX11_popped_10 rfl rfl ?_
  obtain ⟨b3, hb, H⟩ := H
  refine xt_getR dX11_popped_11 (flX11_81 rfl) ft_13_30 ho1.1 ho1.2 hb ?_
  refine xt_aload_n (j := 0) dX11_popped_14 rfl rfl ?_
  refine xt_getI dX11_popped_15 (flX11_495 rfl) ft_13_31 ho1.1 ho1.2 ?_
  obtain ⟨ho4, H⟩ := H
  obtain ⟨hi, H⟩ := H
  refine xt_iald dX11_popped_18 ho4.1 ho4.2 hi ?_
  exact xt_ireturn dX11_popped_19 rfl H
theorem KX11_popped {h : Nat} {x0 : Nat} {M : Mem} {Q : Option Value → Mem → Prop} (H : DX11_popped_0 h x0 M Q) : E (h + 1) mdX11_popped [.ref x0] M Q := E.of (by decide) (Nat.le_of_ble_eq_true rfl) (fun _ _ _ => trivial) (VX11_popped_0 H)
def DX11_pushed_0 (h : Nat) (x0 : Nat) (x1 : Int32) (M : Mem) (Q : Option Value → Mem → Prop) : Prop :=
  ok M x0 13 ∧ ∃ b2 : Nat, mR M x0 30 = some b2 ∧ ok M b2 21 ∧ vp_in (mI M x0 31) (mL M b2) ∧ ∀ M4 : Mem, M4 = wAI M b2 (mI M x0 31 : Int32).toNatClampNeg x1 →
  ∀ M5 : Mem, M5 = wI M4 x0 31 ((mI M4 x0 31) + 1) →
  Q none M5
set_option maxRecDepth 20000 in
set_option maxHeartbeats 2000000 in
theorem VX11_pushed_0 {h : Nat} {x0 : Nat} {x1 : Int32} {M : Mem} {Q : Option Value → Mem → Prop} (H : DX11_pushed_0 h x0 x1 M Q) : T (h + 1) mdX11_pushed 0 [(0, .ref x0), (1, .int x1)] [] M Q := by
  unfold DX11_pushed_0 at H
  refine xt_aload_n (j := 0) dX11_pushed_0 rfl rfl ?_
  obtain ⟨ho1, H⟩ := H
  obtain ⟨b2, hb, H⟩ := H
  refine xt_getR dX11_pushed_1 (flX11_81 rfl) ft_13_30 ho1.1 ho1.2 hb ?_
  refine xt_aload_n (j := 0) dX11_pushed_4 rfl rfl ?_
  refine xt_getI dX11_pushed_5 (flX11_495 rfl) ft_13_31 ho1.1 ho1.2 ?_
  refine xt_iload_n (j := 1) dX11_pushed_8 rfl rfl ?_
  obtain ⟨ho3, H⟩ := H
  obtain ⟨hi, H⟩ := H
  obtain ⟨M4, eM4⟩ : ∃ z, z = wAI M b2 (mI M x0 31 : Int32).toNatClampNeg x1 := ⟨_, rfl⟩
  have H := H _ eM4
  refine xt_iast dX11_pushed_9 ho3.1 ho3.2 hi ?_
  have ho1 : ok M4 x0 13 := by rw [eM4]; exact ho1
  rw [← eM4]
  refine xt_aload_n (j := 0) dX11_pushed_10 rfl rfl ?_
  refine xt_dup dX11_pushed_11 rfl ?_
  refine xt_getI dX11_pushed_12 (flX11_495 rfl) ft_13_31 ho1.1 ho1.2 ?_
  refine xt_iconst (v := 1) dX11_pushed_15 (by decide) ?_
  refine xt_iadd dX11_pushed_16 ?_
  obtain ⟨M5, eM5⟩ : ∃ z, z = wI M4 x0 31 ((mI M4 x0 31) + 1) := ⟨_, rfl⟩
  have H := H _ eM5
  refine xt_putI dX11_pushed_17 (flX11_495 rfl) ty_13_31 rfl ho1.1 ho1.2 ?_
  have ho1 : ok M5 x0 13 := by rw [eM5]; exact ho1
  rw [← eM5]
  exact xt_return dX11_pushed_20 rfl H
theorem KX11_pushed {h : Nat} {x0 : Nat} {x1 : Int32} {M : Mem} {Q : Option Value → Mem → Prop} (H : DX11_pushed_0 h x0 x1 M Q) : E (h + 1) mdX11_pushed [.ref x0, .int x1] M Q := E.of (by decide) (Nat.le_of_ble_eq_true rfl) (fun _ _ _ => trivial) (VX11_pushed_0 H)
def DX11_joinConds_81 (h : Nat) (M : Mem) (Q : Option Value → Mem → Prop) : Prop :=
  Q none M
set_option maxRecDepth 20000 in
set_option maxHeartbeats 2000000 in
theorem VX11_joinConds_81 {h : Nat} {M : Mem} {Q : Option Value → Mem → Prop} (H : DX11_joinConds_81 h  M Q) : T (h + 1) mdX11_joinConds 81 [] [] M Q := by
  unfold DX11_joinConds_81 at H
  exact xt_return dX11_joinConds_81 rfl H
def DX11_joinConds_0 (h : Nat) (x0 : Nat) (x1 : Int32) (M : Mem) (Q : Option Value → Mem → Prop) : Prop :=
  ok M x0 13 ∧ ((mI M x0 29) ≤ 0 → DX11_joinConds_81 h  M Q) ∧
  (¬ ((mI M x0 29) ≤ 0) → ∃ b2 : Nat, mR M x0 28 = some b2 ∧ ok M b2 21 ∧ vp_in ((mI M x0 29) - 1) (mL M b2) ∧ ((mAI M b2 ((mI M x0 29) - 1 : Int32).toNatClampNeg) < 3 → DX11_joinConds_81 h  M Q) ∧
  (¬ ((mAI M b2 ((mI M x0 29) - 1 : Int32).toNatClampNeg) < 3) → ∃ b4 : Nat, mR M x0 28 = some b4 ∧ ok M b4 21 ∧ vp_in ((mI M x0 29) - 1) (mL M b4) ∧ (x1 < (mAI M b4 ((mI M x0 29) - 1 : Int32).toNatClampNeg) → DX11_joinConds_81 h  M Q) ∧
  (¬ (x1 < (mAI M b4 ((mI M x0 29) - 1 : Int32).toNatClampNeg)) → E h mdX11_popped [.ref x0] M (fun r M6 => mE M M6 → ∃ r7 : Int32, r = some (.int r7) ∧ E h mdX11_popped [.ref x0] M6 (fun r M8 => mE M6 M8 → ∃ r9 : Int32, r = some (.int r9) ∧ ∃ b10 : Nat, mR M8 x0 28 = some b10 ∧ ok M8 b10 21 ∧ vp_in ((mI M8 x0 29) - 1) (mL M8 b10) ∧ E h mdX11_cond [.ref x0, .int (mAI M8 b10 ((mI M8 x0 29) - 1 : Int32).toNatClampNeg), .int r9, .int r7] M8 (fun r M12 => mE M8 M12 → ∃ r13 : Int32, r = some (.int r13) ∧ E h mdX11_pushed [.ref x0, .int r13] M12 (fun r M14 => mE M12 M14 → r = none ∧ ∀ M15 : Mem, M15 = wI M14 x0 29 ((mI M14 x0 29) - 1) →
  T (h + 1) mdX11_joinConds 0 [(0, .ref x0), (1, .int x1)] [] M15 Q)))))))
set_option maxRecDepth 20000 in
set_option maxHeartbeats 2000000 in
theorem VX11_joinConds_0 {h : Nat} {x0 : Nat} {x1 : Int32} {M : Mem} {Q : Option Value → Mem → Prop} (H : DX11_joinConds_0 h x0 x1 M Q) : T (h + 1) mdX11_joinConds 0 [(0, .ref x0), (1, .int x1)] [] M Q := by
  unfold DX11_joinConds_0 at H
  refine xt_aload_n (j := 0) dX11_joinConds_0 rfl rfl ?_
  obtain ⟨ho1, H⟩ := H
  refine xt_getI dX11_joinConds_1 (flX11_489 rfl) ft_13_29 ho1.1 ho1.2 ?_
  refine xt_if_le (tgt := 81) dX11_joinConds_4 (by decide) (fun hc => ?_) (fun hc => ?_)
  · have H := H.1 hc
    exact xt_sub [] rfl (VX11_joinConds_81 H)
  · have H := H.2 hc
    refine xt_aload_n (j := 0) dX11_joinConds_7 rfl rfl ?_
    obtain ⟨b2, hb, H⟩ := H
    refine xt_getR dX11_joinConds_8 (flX11_78 rfl) ft_13_28 ho1.1 ho1.2 hb ?_
    refine xt_aload_n (j := 0) dX11_joinConds_11 rfl rfl ?_
    refine xt_getI dX11_joinConds_12 (flX11_489 rfl) ft_13_29 ho1.1 ho1.2 ?_
    refine xt_iconst (v := 1) dX11_joinConds_15 (by decide) ?_
    refine xt_isub dX11_joinConds_16 ?_
    obtain ⟨ho3, H⟩ := H
    obtain ⟨hi, H⟩ := H
    refine xt_iald dX11_joinConds_17 ho3.1 ho3.2 hi ?_
    refine xt_iconst (v := 3) dX11_joinConds_18 (by decide) ?_
    refine xt_icmp_lt (tgt := 81) dX11_joinConds_19 (by decide) (fun hc => ?_) (fun hc => ?_)
    · have H := H.1 hc
      exact xt_sub [] rfl (VX11_joinConds_81 H)
    · have H := H.2 hc
      refine xt_aload_n (j := 0) dX11_joinConds_22 rfl rfl ?_
      obtain ⟨b4, hb, H⟩ := H
      refine xt_getR dX11_joinConds_23 (flX11_78 rfl) ft_13_28 ho1.1 ho1.2 hb ?_
      refine xt_aload_n (j := 0) dX11_joinConds_26 rfl rfl ?_
      refine xt_getI dX11_joinConds_27 (flX11_489 rfl) ft_13_29 ho1.1 ho1.2 ?_
      refine xt_iconst (v := 1) dX11_joinConds_30 (by decide) ?_
      refine xt_isub dX11_joinConds_31 ?_
      obtain ⟨ho5, H⟩ := H
      obtain ⟨hi, H⟩ := H
      refine xt_iald dX11_joinConds_32 ho5.1 ho5.2 hi ?_
      refine xt_iload_n (j := 1) dX11_joinConds_33 rfl rfl ?_
      refine xt_icmp_gt (tgt := 81) dX11_joinConds_34 (by decide) (fun hc => ?_) (fun hc => ?_)
      · have H := H.1 hc
        exact xt_sub [] rfl (VX11_joinConds_81 H)
      · have H := H.2 hc
        refine xt_aload_n (j := 0) dX11_joinConds_37 rfl rfl ?_
        refine xt_callV (h2 := h) (as := []) (st := []) dX11_joinConds_38 (mlX11_498 rfl) rfl ho1.1 ⟨by rw [ho1.2]; rfl, by rw [ho1.2]; decide⟩ (by first | decide | (simp [Value.category]; done)) (Nat.le_refl _) H (fun r M6 HH hE => ?_)
        obtain ⟨r7, hr, H⟩ := HH hE
        subst hr
        have ho1 := ok_E ho1 hE
        show T _ _ _ _ [.int r7] _ _
        refine xt_istore_n (lv' := [(2, .int r7), (0, .ref x0), (1, .int x1)]) dX11_joinConds_41 rfl (by decide) rfl ?_
        refine xt_aload_n (j := 1) dX11_joinConds_42 rfl rfl ?_
        refine xt_callV (h2 := h) (as := []) (st := []) dX11_joinConds_43 (mlX11_498 rfl) rfl ho1.1 ⟨by rw [ho1.2]; rfl, by rw [ho1.2]; decide⟩ (by first | decide | (simp [Value.category]; done)) (Nat.le_refl _) H (fun r M8 HH hE => ?_)
        obtain ⟨r9, hr, H⟩ := HH hE
        subst hr
        have ho1 := ok_E ho1 hE
        show T _ _ _ _ [.int r9] _ _
        refine xt_istore_n (lv' := [(3, .int r9), (2, .int r7), (0, .ref x0), (1, .int x1)]) dX11_joinConds_46 rfl (by decide) rfl ?_
        refine xt_aload_n (j := 2) dX11_joinConds_47 rfl rfl ?_
        refine xt_aload_n (j := 2) dX11_joinConds_48 rfl rfl ?_
        refine xt_aload_n (j := 2) dX11_joinConds_49 rfl rfl ?_
        obtain ⟨b10, hb, H⟩ := H
        refine xt_getR dX11_joinConds_50 (flX11_78 rfl) ft_13_28 ho1.1 ho1.2 hb ?_
        refine xt_aload_n (j := 2) dX11_joinConds_53 rfl rfl ?_
        refine xt_getI dX11_joinConds_54 (flX11_489 rfl) ft_13_29 ho1.1 ho1.2 ?_
        refine xt_iconst (v := 1) dX11_joinConds_57 (by decide) ?_
        refine xt_isub dX11_joinConds_58 ?_
        obtain ⟨ho11, H⟩ := H
        obtain ⟨hi, H⟩ := H
        refine xt_iald dX11_joinConds_59 ho11.1 ho11.2 hi ?_
        refine xt_iload_n (j := 0) dX11_joinConds_60 rfl rfl ?_
        refine xt_iload_n (j := 1) dX11_joinConds_61 rfl rfl ?_
        refine xt_callV (h2 := h) (as := [.int (mAI M8 b10 ((mI M8 x0 29) - 1 : Int32).toNatClampNeg), .int r9, .int r7]) (st := [.ref x0]) dX11_joinConds_62 (mlX11_502 rfl) rfl ho1.1 ⟨by rw [ho1.2]; rfl, by rw [ho1.2]; decide⟩ (by first | decide | (simp [Value.category]; done)) (Nat.le_refl _) H (fun r M12 HH hE => ?_)
        obtain ⟨r13, hr, H⟩ := HH hE
        subst hr
        have ho1 := ok_E ho1 hE
        show T _ _ _ _ [.int r13, .ref x0] _ _
        refine xt_callV (h2 := h) (as := [.int r13]) (st := []) dX11_joinConds_65 (mlX11_506 rfl) rfl ho1.1 ⟨by rw [ho1.2]; rfl, by rw [ho1.2]; decide⟩ (by first | decide | (simp [Value.category]; done)) (Nat.le_refl _) H (fun r M14 HH hE => ?_)
        obtain ⟨hr, H⟩ := HH hE
        subst hr
        have ho1 := ok_E ho1 hE
        show T _ _ _ _ [] _ _
        refine xt_aload_n (j := 2) dX11_joinConds_68 rfl rfl ?_
        refine xt_dup dX11_joinConds_69 rfl ?_
        refine xt_getI dX11_joinConds_70 (flX11_489 rfl) ft_13_29 ho1.1 ho1.2 ?_
        refine xt_iconst (v := 1) dX11_joinConds_73 (by decide) ?_
        refine xt_isub dX11_joinConds_74 ?_
        obtain ⟨M15, eM15⟩ : ∃ z, z = wI M14 x0 29 ((mI M14 x0 29) - 1) := ⟨_, rfl⟩
        have H := H _ eM15
        refine xt_putI dX11_joinConds_75 (flX11_489 rfl) ty_13_29 rfl ho1.1 ho1.2 ?_
        have ho1 : ok M15 x0 13 := by rw [eM15]; exact ho1
        rw [← eM15]
        refine xt_goto (tgt := 0) dX11_joinConds_78 (by decide) ?_
        exact xt_sub (lv' := [(0, .ref x0), (1, .int x1)]) [2, 3] rfl H
theorem KX11_joinConds {h : Nat} {x0 : Nat} {x1 : Int32} {M : Mem} {Q : Option Value → Mem → Prop} (H : T (h + 1) mdX11_joinConds 0 [(0, .ref x0), (1, .int x1)] [] M Q) : E (h + 1) mdX11_joinConds [.ref x0, .int x1] M Q := E.of (by decide) (Nat.le_of_ble_eq_true rfl) (fun _ _ _ => trivial) (xt_sub [0, 1] rfl H)
def DX11_closeNots_59 (h : Nat) (M : Mem) (Q : Option Value → Mem → Prop) : Prop :=
  Q none M
set_option maxRecDepth 20000 in
set_option maxHeartbeats 2000000 in
theorem VX11_closeNots_59 {h : Nat} {M : Mem} {Q : Option Value → Mem → Prop} (H : DX11_closeNots_59 h  M Q) : T (h + 1) mdX11_closeNots 59 [] [] M Q := by
  unfold DX11_closeNots_59 at H
  exact xt_return dX11_closeNots_59 rfl H
def DX11_closeNots_0 (h : Nat) (x0 : Nat) (M : Mem) (Q : Option Value → Mem → Prop) : Prop :=
  ok M x0 13 ∧ ((mI M x0 29) ≤ 0 → DX11_closeNots_59 h  M Q) ∧
  (¬ ((mI M x0 29) ≤ 0) → ∃ b2 : Nat, mR M x0 28 = some b2 ∧ ok M b2 21 ∧ vp_in ((mI M x0 29) - 1) (mL M b2) ∧ (¬ (mAI M b2 ((mI M x0 29) - 1 : Int32).toNatClampNeg) = 2 → DX11_closeNots_59 h  M Q) ∧
  ((mAI M b2 ((mI M x0 29) - 1 : Int32).toNatClampNeg) = 2 → E h mdX11_popped [.ref x0] M (fun r M4 => mE M M4 → ∃ r5 : Int32, r = some (.int r5) ∧ E h mdX11_cond [.ref x0, .int 2, .int r5, .int 0] M4 (fun r M6 => mE M4 M6 → ∃ r7 : Int32, r = some (.int r7) ∧ E h mdX11_pushed [.ref x0, .int r7] M6 (fun r M8 => mE M6 M8 → r = none ∧ ∀ M9 : Mem, M9 = wI M8 x0 29 ((mI M8 x0 29) - 1) →
  ∀ M10 : Mem, M10 = wI M9 x0 33 ((mI M9 x0 33) - 1) →
  T (h + 1) mdX11_closeNots 0 [(0, .ref x0)] [] M10 Q)))))
set_option maxRecDepth 20000 in
set_option maxHeartbeats 2000000 in
theorem VX11_closeNots_0 {h : Nat} {x0 : Nat} {M : Mem} {Q : Option Value → Mem → Prop} (H : DX11_closeNots_0 h x0 M Q) : T (h + 1) mdX11_closeNots 0 [(0, .ref x0)] [] M Q := by
  unfold DX11_closeNots_0 at H
  refine xt_aload_n (j := 0) dX11_closeNots_0 rfl rfl ?_
  obtain ⟨ho1, H⟩ := H
  refine xt_getI dX11_closeNots_1 (flX11_489 rfl) ft_13_29 ho1.1 ho1.2 ?_
  refine xt_if_le (tgt := 59) dX11_closeNots_4 (by decide) (fun hc => ?_) (fun hc => ?_)
  · have H := H.1 hc
    exact xt_sub [] rfl (VX11_closeNots_59 H)
  · have H := H.2 hc
    refine xt_aload_n (j := 0) dX11_closeNots_7 rfl rfl ?_
    obtain ⟨b2, hb, H⟩ := H
    refine xt_getR dX11_closeNots_8 (flX11_78 rfl) ft_13_28 ho1.1 ho1.2 hb ?_
    refine xt_aload_n (j := 0) dX11_closeNots_11 rfl rfl ?_
    refine xt_getI dX11_closeNots_12 (flX11_489 rfl) ft_13_29 ho1.1 ho1.2 ?_
    refine xt_iconst (v := 1) dX11_closeNots_15 (by decide) ?_
    refine xt_isub dX11_closeNots_16 ?_
    obtain ⟨ho3, H⟩ := H
    obtain ⟨hi, H⟩ := H
    refine xt_iald dX11_closeNots_17 ho3.1 ho3.2 hi ?_
    refine xt_iconst (v := 2) dX11_closeNots_18 (by decide) ?_
    refine xt_icmp_ne (tgt := 59) dX11_closeNots_19 (by decide) (fun hc => ?_) (fun hc => ?_)
    · have H := H.1 hc
      exact xt_sub [] rfl (VX11_closeNots_59 H)
    · have H := H.2 hc
      refine xt_aload_n (j := 0) dX11_closeNots_22 rfl rfl ?_
      refine xt_aload_n (j := 0) dX11_closeNots_23 rfl rfl ?_
      refine xt_iconst (v := 2) dX11_closeNots_24 (by decide) ?_
      refine xt_aload_n (j := 0) dX11_closeNots_25 rfl rfl ?_
      refine xt_callV (h2 := h) (as := []) (st := [.int 2, .ref x0, .ref x0]) dX11_closeNots_26 (mlX11_498 rfl) rfl ho1.1 ⟨by rw [ho1.2]; rfl, by rw [ho1.2]; decide⟩ (by first | decide | (simp [Value.category]; done)) (Nat.le_refl _) H (fun r M4 HH hE => ?_)
      obtain ⟨r5, hr, H⟩ := HH hE
      subst hr
      have ho1 := ok_E ho1 hE
      show T _ _ _ _ [.int r5, .int 2, .ref x0, .ref x0] _ _
      refine xt_iconst (v := 0) dX11_closeNots_29 (by decide) ?_
      refine xt_callV (h2 := h) (as := [.int 2, .int r5, .int 0]) (st := [.ref x0]) dX11_closeNots_30 (mlX11_502 rfl) rfl ho1.1 ⟨by rw [ho1.2]; rfl, by rw [ho1.2]; decide⟩ (by first | decide | (simp [Value.category]; done)) (Nat.le_refl _) H (fun r M6 HH hE => ?_)
      obtain ⟨r7, hr, H⟩ := HH hE
      subst hr
      have ho1 := ok_E ho1 hE
      show T _ _ _ _ [.int r7, .ref x0] _ _
      refine xt_callV (h2 := h) (as := [.int r7]) (st := []) dX11_closeNots_33 (mlX11_506 rfl) rfl ho1.1 ⟨by rw [ho1.2]; rfl, by rw [ho1.2]; decide⟩ (by first | decide | (simp [Value.category]; done)) (Nat.le_refl _) H (fun r M8 HH hE => ?_)
      obtain ⟨hr, H⟩ := HH hE
      subst hr
      have ho1 := ok_E ho1 hE
      show T _ _ _ _ [] _ _
      refine xt_aload_n (j := 0) dX11_closeNots_36 rfl rfl ?_
      refine xt_dup dX11_closeNots_37 rfl ?_
      refine xt_getI dX11_closeNots_38 (flX11_489 rfl) ft_13_29 ho1.1 ho1.2 ?_
      refine xt_iconst (v := 1) dX11_closeNots_41 (by decide) ?_
      refine xt_isub dX11_closeNots_42 ?_
      obtain ⟨M9, eM9⟩ : ∃ z, z = wI M8 x0 29 ((mI M8 x0 29) - 1) := ⟨_, rfl⟩
      have H := H _ eM9
      refine xt_putI dX11_closeNots_43 (flX11_489 rfl) ty_13_29 rfl ho1.1 ho1.2 ?_
      have ho1 : ok M9 x0 13 := by rw [eM9]; exact ho1
      rw [← eM9]
      refine xt_aload_n (j := 0) dX11_closeNots_46 rfl rfl ?_
      refine xt_dup dX11_closeNots_47 rfl ?_
      refine xt_getI dX11_closeNots_48 (flX11_486 rfl) ft_13_33 ho1.1 ho1.2 ?_
      refine xt_iconst (v := 1) dX11_closeNots_51 (by decide) ?_
      refine xt_isub dX11_closeNots_52 ?_
      obtain ⟨M10, eM10⟩ : ∃ z, z = wI M9 x0 33 ((mI M9 x0 33) - 1) := ⟨_, rfl⟩
      have H := H _ eM10
      refine xt_putI dX11_closeNots_53 (flX11_486 rfl) ty_13_33 rfl ho1.1 ho1.2 ?_
      have ho1 : ok M10 x0 13 := by rw [eM10]; exact ho1
      rw [← eM10]
      refine xt_goto (tgt := 0) dX11_closeNots_56 (by decide) ?_
      exact xt_sub (lv' := [(0, .ref x0)]) [0] rfl H
theorem KX11_closeNots {h : Nat} {x0 : Nat} {M : Mem} {Q : Option Value → Mem → Prop} (H : T (h + 1) mdX11_closeNots 0 [(0, .ref x0)] [] M Q) : E (h + 1) mdX11_closeNots [.ref x0] M Q := E.of (by decide) (Nat.le_of_ble_eq_true rfl) (fun _ _ _ => trivial) (xt_sub [0] rfl H)
def DX11_condOperand_138 (h : Nat) (M : Mem) (Q : Option Value → Mem → Prop) : Prop :=
  Q none M
set_option maxRecDepth 20000 in
set_option maxHeartbeats 2000000 in
theorem VX11_condOperand_138 {h : Nat} {M : Mem} {Q : Option Value → Mem → Prop} (H : DX11_condOperand_138 h  M Q) : T (h + 1) mdX11_condOperand 138 [] [] M Q := by
  unfold DX11_condOperand_138 at H
  exact xt_return dX11_condOperand_138 rfl H
def DX11_condOperand_122 (h : Nat) (x0 : Nat) (x2 : Int32) (s0 : Nat) (s1 : Nat) (s2 : Int32) (M : Mem) (Q : Option Value → Mem → Prop) : Prop :=
  ok M s1 13 ∧ E h mdX11_cond [.ref s1, .int s2, .int x2, .int 0] M (fun r M2 => mE M M2 → ∃ r3 : Int32, r = some (.int r3) ∧ ok M2 s0 13 ∧ E h mdX11_pushed [.ref s0, .int r3] M2 (fun r M5 => mE M2 M5 → r = none ∧ ok M5 x0 13 ∧ E h mdX11_take [.ref x0] M5 (fun r M7 => mE M5 M7 → r = none ∧ E h mdX11_closeNots [.ref x0] M7 (fun r M8 => mE M7 M8 → r = none ∧ DX11_condOperand_138 h  M8 Q))))
set_option maxRecDepth 20000 in
set_option maxHeartbeats 2000000 in
theorem VX11_condOperand_122 {h : Nat} {x0 : Nat} {x2 : Int32} {s0 : Nat} {s1 : Nat} {s2 : Int32} {M : Mem} {Q : Option Value → Mem → Prop} (H : DX11_condOperand_122 h x0 x2 s0 s1 s2 M Q) : T (h + 1) mdX11_condOperand 122 [(0, .ref x0), (2, .int x2)] [.int s2, .ref s1, .ref s0] M Q := by
  unfold DX11_condOperand_122 at H
  refine xt_iload_n (j := 1) dX11_condOperand_122 rfl rfl ?_
  refine xt_iconst (v := 0) dX11_condOperand_123 (by decide) ?_
  obtain ⟨ho1, H⟩ := H
  refine xt_callV (h2 := h) (as := [.int s2, .int x2, .int 0]) (st := [.ref s0]) dX11_condOperand_124 (mlX11_502 rfl) rfl ho1.1 ⟨by rw [ho1.2]; rfl, by rw [ho1.2]; decide⟩ (by first | decide | (simp [Value.category]; done)) (Nat.le_refl _) H (fun r M2 HH hE => ?_)
  obtain ⟨r3, hr, H⟩ := HH hE
  subst hr
  show T _ _ _ _ [.int r3, .ref s0] _ _
  obtain ⟨ho4, H⟩ := H
  refine xt_callV (h2 := h) (as := [.int r3]) (st := []) dX11_condOperand_127 (mlX11_506 rfl) rfl ho4.1 ⟨by rw [ho4.2]; rfl, by rw [ho4.2]; decide⟩ (by first | decide | (simp [Value.category]; done)) (Nat.le_refl _) H (fun r M5 HH hE => ?_)
  obtain ⟨hr, H⟩ := HH hE
  subst hr
  show T _ _ _ _ [] _ _
  refine xt_aload_n (j := 0) dX11_condOperand_130 rfl rfl ?_
  obtain ⟨ho6, H⟩ := H
  refine xt_callV (h2 := h) (as := []) (st := []) dX11_condOperand_131 (mlX11_377 rfl) rfl ho6.1 ⟨by rw [ho6.2]; rfl, by rw [ho6.2]; decide⟩ (by first | decide | (simp [Value.category]; done)) (Nat.le_refl _) H (fun r M7 HH hE => ?_)
  obtain ⟨hr, H⟩ := HH hE
  subst hr
  have ho6 := ok_E ho6 hE
  show T _ _ _ _ [] _ _
  refine xt_aload_n (j := 0) dX11_condOperand_134 rfl rfl ?_
  refine xt_callV (h2 := h) (as := []) (st := []) dX11_condOperand_135 (mlX11_509 rfl) rfl ho6.1 ⟨by rw [ho6.2]; rfl, by rw [ho6.2]; decide⟩ (by first | decide | (simp [Value.category]; done)) (Nat.le_refl _) H (fun r M8 HH hE => ?_)
  obtain ⟨hr, H⟩ := HH hE
  subst hr
  have ho6 := ok_E ho6 hE
  show T _ _ _ _ [] _ _
  exact xt_sub [] rfl (VX11_condOperand_138 H)
def DX11_condOperand_110 (h : Nat) (x0 : Nat) (x1 : Int32) (x2 : Int32) (s0 : Nat) (s1 : Int32) (s2 : Int32) (M : Mem) (Q : Option Value → Mem → Prop) : Prop :=
  ok M s0 22 ∧ vp_in s1 (mL M s0) ∧ ∀ M2 : Mem, M2 = wAI M s0 (s1 : Int32).toNatClampNeg (vp_nar .boolean s2) →
  (x1 = 0 → DX11_condOperand_122 h x0 x2 x0 x0 0 M2 Q) ∧
  (¬ (x1 = 0) → DX11_condOperand_122 h x0 x2 x0 x0 1 M2 Q)
set_option maxRecDepth 20000 in
set_option maxHeartbeats 2000000 in
theorem VX11_condOperand_110 {h : Nat} {x0 : Nat} {x1 : Int32} {x2 : Int32} {s0 : Nat} {s1 : Int32} {s2 : Int32} {M : Mem} {Q : Option Value → Mem → Prop} (H : DX11_condOperand_110 h x0 x1 x2 s0 s1 s2 M Q) : T (h + 1) mdX11_condOperand 110 [(0, .ref x0), (1, .int x1), (2, .int x2)] [.int s2, .int s1, .ref s0] M Q := by
  unfold DX11_condOperand_110 at H
  obtain ⟨ho1, H⟩ := H
  obtain ⟨hi, H⟩ := H
  obtain ⟨M2, eM2⟩ : ∃ z, z = wAI M s0 (s1 : Int32).toNatClampNeg (vp_nar .boolean s2) := ⟨_, rfl⟩
  have H := H _ eM2
  refine xt_zast dX11_condOperand_110 ho1.1 ho1.2 hi ?_
  rw [← eM2]
  refine xt_aload_n (j := 0) dX11_condOperand_111 rfl rfl ?_
  refine xt_aload_n (j := 0) dX11_condOperand_112 rfl rfl ?_
  refine xt_iload_n (j := 1) dX11_condOperand_113 rfl rfl ?_
  refine xt_if_eq (tgt := 121) dX11_condOperand_114 (by decide) (fun hc => ?_) (fun hc => ?_)
  · have H := H.1 hc
    refine xt_iconst (v := 0) dX11_condOperand_121 (by decide) ?_
    exact xt_sub [0, 2] rfl (VX11_condOperand_122 H)
  · have H := H.2 hc
    refine xt_iconst (v := 1) dX11_condOperand_117 (by decide) ?_
    refine xt_goto (tgt := 122) dX11_condOperand_118 (by decide) ?_
    exact xt_sub [0, 2] rfl (VX11_condOperand_122 H)
def DX11_condOperand_105 (h : Nat) (x0 : Nat) (x1 : Int32) (x2 : Int32) (s0 : Nat) (s1 : Int32) (M : Mem) (Q : Option Value → Mem → Prop) : Prop :=
  DX11_condOperand_110 h x0 x1 x2 s0 s1 1 M Q
set_option maxRecDepth 20000 in
set_option maxHeartbeats 2000000 in
theorem VX11_condOperand_105 {h : Nat} {x0 : Nat} {x1 : Int32} {x2 : Int32} {s0 : Nat} {s1 : Int32} {M : Mem} {Q : Option Value → Mem → Prop} (H : DX11_condOperand_105 h x0 x1 x2 s0 s1 M Q) : T (h + 1) mdX11_condOperand 105 [(0, .ref x0), (1, .int x1), (2, .int x2)] [.int s1, .ref s0] M Q := by
  unfold DX11_condOperand_105 at H
  refine xt_iconst (v := 1) dX11_condOperand_105 (by decide) ?_
  refine xt_goto (tgt := 110) dX11_condOperand_106 (by decide) ?_
  exact xt_sub [0, 1, 2] rfl (VX11_condOperand_110 H)
def DX11_condOperand_24 (h : Nat) (x0 : Nat) (x1 : Int32) (s0 : Int32) (M : Mem) (Q : Option Value → Mem → Prop) : Prop :=
  ok M x0 13 ∧ E h mdX11_isName [.ref x0] M (fun r M2 => mE M M2 → ∃ r3 : Int32, r = some (.int r3) ∧ (¬ r3 = 0 → (¬ s0 = (-1) → ∃ b4 : Nat, mR M2 x0 14 = some b4 ∧ ∃ b5 : Nat, mR M2 x0 14 = some b5 ∧ ok M2 b5 22 ∧ vp_in ((16 * (mI M2 x0 19)) + s0) (mL M2 b5) ∧ (¬ (mAI M2 b5 ((16 * (mI M2 x0 19)) + s0 : Int32).toNatClampNeg) = 0 → DX11_condOperand_105 h x0 x1 s0 b4 ((16 * (mI M2 x0 19)) + s0) M2 Q) ∧
  ((mAI M2 b5 ((16 * (mI M2 x0 19)) + s0 : Int32).toNatClampNeg) = 0 → (x1 = 0 → DX11_condOperand_110 h x0 x1 s0 b4 ((16 * (mI M2 x0 19)) + s0) 0 M2 Q) ∧
  (¬ (x1 = 0) → DX11_condOperand_105 h x0 x1 s0 b4 ((16 * (mI M2 x0 19)) + s0) M2 Q))) ∧
  (s0 = (-1) → ∃ b7 : Nat, mR M2 x0 3 = some b7 ∧ ok M2 b7 21 ∧ vp_in (mI M2 x0 5) (mL M2 b7) ∧ E h mdX11_fails [.ref x0, .int 4, .int (mAI M2 b7 (mI M2 x0 5 : Int32).toNatClampNeg)] M2 (fun r M9 => mE M2 M9 → r = none ∧ DX11_condOperand_138 h  M9 Q))) ∧
  (r3 = 0 → ∃ b10 : Nat, mR M2 x0 3 = some b10 ∧ ok M2 b10 21 ∧ vp_in (mI M2 x0 5) (mL M2 b10) ∧ E h mdX11_fails [.ref x0, .int 2, .int (mAI M2 b10 (mI M2 x0 5 : Int32).toNatClampNeg)] M2 (fun r M12 => mE M2 M12 → r = none ∧ DX11_condOperand_138 h  M12 Q)))
set_option maxRecDepth 20000 in
set_option maxHeartbeats 2000000 in
theorem VX11_condOperand_24 {h : Nat} {x0 : Nat} {x1 : Int32} {s0 : Int32} {M : Mem} {Q : Option Value → Mem → Prop} (H : DX11_condOperand_24 h x0 x1 s0 M Q) : T (h + 1) mdX11_condOperand 24 [(0, .ref x0), (1, .int x1)] [.int s0] M Q := by
  unfold DX11_condOperand_24 at H
  refine xt_istore_n (lv' := [(2, .int s0), (0, .ref x0), (1, .int x1)]) dX11_condOperand_24 rfl (by decide) rfl ?_
  refine xt_aload_n (j := 1) dX11_condOperand_25 rfl rfl ?_
  obtain ⟨ho1, H⟩ := H
  refine xt_callV (h2 := h) (as := []) (st := []) dX11_condOperand_26 (mlX11_468 rfl) rfl ho1.1 ⟨by rw [ho1.2]; rfl, by rw [ho1.2]; decide⟩ (by first | decide | (simp [Value.category]; done)) (Nat.le_refl _) H (fun r M2 HH hE => ?_)
  obtain ⟨r3, hr, H⟩ := HH hE
  subst hr
  have ho1 := ok_E ho1 hE
  show T _ _ _ _ [.int r3] _ _
  refine xt_if_ne (tgt := 49) dX11_condOperand_29 (by decide) (fun hc => ?_) (fun hc => ?_)
  · have H := H.1 hc
    refine xt_iload_n (j := 0) dX11_condOperand_49 rfl rfl ?_
    refine xt_iconst (v := -1) dX11_condOperand_50 (by decide) ?_
    refine xt_icmp_ne (tgt := 71) dX11_condOperand_51 (by decide) (fun hc => ?_) (fun hc => ?_)
    · have H := H.1 hc
      refine xt_aload_n (j := 1) dX11_condOperand_71 rfl rfl ?_
      obtain ⟨b4, hb, H⟩ := H
      refine xt_getR dX11_condOperand_72 (flX11_41 rfl) ft_13_14 ho1.1 ho1.2 hb ?_
      refine xt_bipush (v := 16) dX11_condOperand_75 (by decide) ?_
      refine xt_aload_n (j := 1) dX11_condOperand_77 rfl rfl ?_
      refine xt_getI dX11_condOperand_78 (flX11_450 rfl) ft_13_19 ho1.1 ho1.2 ?_
      refine xt_imul dX11_condOperand_81 ?_
      refine xt_iload_n (j := 0) dX11_condOperand_82 rfl rfl ?_
      refine xt_iadd dX11_condOperand_83 ?_
      refine xt_aload_n (j := 1) dX11_condOperand_84 rfl rfl ?_
      obtain ⟨b5, hb, H⟩ := H
      refine xt_getR dX11_condOperand_85 (flX11_41 rfl) ft_13_14 ho1.1 ho1.2 hb ?_
      refine xt_bipush (v := 16) dX11_condOperand_88 (by decide) ?_
      refine xt_aload_n (j := 1) dX11_condOperand_90 rfl rfl ?_
      refine xt_getI dX11_condOperand_91 (flX11_450 rfl) ft_13_19 ho1.1 ho1.2 ?_
      refine xt_imul dX11_condOperand_94 ?_
      refine xt_iload_n (j := 0) dX11_condOperand_95 rfl rfl ?_
      refine xt_iadd dX11_condOperand_96 ?_
      obtain ⟨ho6, H⟩ := H
      obtain ⟨hi, H⟩ := H
      refine xt_zald dX11_condOperand_97 ho6.1 ho6.2 hi ?_
      refine xt_if_ne (tgt := 105) dX11_condOperand_98 (by decide) (fun hc => ?_) (fun hc => ?_)
      · have H := H.1 hc
        exact xt_sub [1, 2, 0] rfl (VX11_condOperand_105 H)
      · have H := H.2 hc
        refine xt_iload_n (j := 2) dX11_condOperand_101 rfl rfl ?_
        refine xt_if_eq (tgt := 109) dX11_condOperand_102 (by decide) (fun hc => ?_) (fun hc => ?_)
        · have H := H.1 hc
          refine xt_iconst (v := 0) dX11_condOperand_109 (by decide) ?_
          exact xt_sub [1, 2, 0] rfl (VX11_condOperand_110 H)
        · have H := H.2 hc
          exact xt_sub [1, 2, 0] rfl (VX11_condOperand_105 H)
    · have H := H.2 hc
      refine xt_aload_n (j := 1) dX11_condOperand_54 rfl rfl ?_
      refine xt_iconst (v := 4) dX11_condOperand_55 (by decide) ?_
      refine xt_aload_n (j := 1) dX11_condOperand_56 rfl rfl ?_
      obtain ⟨b7, hb, H⟩ := H
      refine xt_getR dX11_condOperand_57 (flX11_16 rfl) ft_13_3 ho1.1 ho1.2 hb ?_
      refine xt_aload_n (j := 1) dX11_condOperand_60 rfl rfl ?_
      refine xt_getI dX11_condOperand_61 (flX11_366 rfl) ft_13_5 ho1.1 ho1.2 ?_
      obtain ⟨ho8, H⟩ := H
      obtain ⟨hi, H⟩ := H
      refine xt_iald dX11_condOperand_64 ho8.1 ho8.2 hi ?_
      refine xt_callV (h2 := h) (as := [.int 4, .int (mAI M2 b7 (mI M2 x0 5 : Int32).toNatClampNeg)]) (st := []) dX11_condOperand_65 (mlX11_369 rfl) rfl ho1.1 ⟨by rw [ho1.2]; rfl, by rw [ho1.2]; decide⟩ (by first | decide | (simp [Value.category]; done)) (Nat.le_refl _) H (fun r M9 HH hE => ?_)
      obtain ⟨hr, H⟩ := HH hE
      subst hr
      have ho1 := ok_E ho1 hE
      show T _ _ _ _ [] _ _
      refine xt_goto (tgt := 138) dX11_condOperand_68 (by decide) ?_
      exact xt_sub [] rfl (VX11_condOperand_138 H)
  · have H := H.2 hc
    refine xt_aload_n (j := 1) dX11_condOperand_32 rfl rfl ?_
    refine xt_iconst (v := 2) dX11_condOperand_33 (by decide) ?_
    refine xt_aload_n (j := 1) dX11_condOperand_34 rfl rfl ?_
    obtain ⟨b10, hb, H⟩ := H
    refine xt_getR dX11_condOperand_35 (flX11_16 rfl) ft_13_3 ho1.1 ho1.2 hb ?_
    refine xt_aload_n (j := 1) dX11_condOperand_38 rfl rfl ?_
    refine xt_getI dX11_condOperand_39 (flX11_366 rfl) ft_13_5 ho1.1 ho1.2 ?_
    obtain ⟨ho11, H⟩ := H
    obtain ⟨hi, H⟩ := H
    refine xt_iald dX11_condOperand_42 ho11.1 ho11.2 hi ?_
    refine xt_callV (h2 := h) (as := [.int 2, .int (mAI M2 b10 (mI M2 x0 5 : Int32).toNatClampNeg)]) (st := []) dX11_condOperand_43 (mlX11_369 rfl) rfl ho1.1 ⟨by rw [ho1.2]; rfl, by rw [ho1.2]; decide⟩ (by first | decide | (simp [Value.category]; done)) (Nat.le_refl _) H (fun r M12 HH hE => ?_)
    obtain ⟨hr, H⟩ := HH hE
    subst hr
    have ho1 := ok_E ho1 hE
    show T _ _ _ _ [] _ _
    refine xt_goto (tgt := 138) dX11_condOperand_46 (by decide) ?_
    exact xt_sub [] rfl (VX11_condOperand_138 H)
def DX11_condOperand_0 (h : Nat) (x0 : Nat) (x1 : Int32) (M : Mem) (Q : Option Value → Mem → Prop) : Prop :=
  ok M x0 13 ∧ E h mdX11_isName [.ref x0] M (fun r M2 => mE M M2 → ∃ r3 : Int32, r = some (.int r3) ∧ (r3 = 0 → DX11_condOperand_24 h x0 x1 (-1) M2 Q) ∧
  (¬ (r3 = 0) → ∃ b4 : Nat, mR M2 x0 4 = some b4 ∧ ok M2 b4 23 ∧ vp_in (mI M2 x0 5) (mL M2 b4) ∧ E h mdX11_signalNamed [.ref x0, .long (mAJ M2 b4 (mI M2 x0 5 : Int32).toNatClampNeg)] M2 (fun r M6 => mE M2 M6 → ∃ r7 : Int32, r = some (.int r7) ∧ DX11_condOperand_24 h x0 x1 r7 M6 Q)))
set_option maxRecDepth 20000 in
set_option maxHeartbeats 2000000 in
theorem VX11_condOperand_0 {h : Nat} {x0 : Nat} {x1 : Int32} {M : Mem} {Q : Option Value → Mem → Prop} (H : DX11_condOperand_0 h x0 x1 M Q) : T (h + 1) mdX11_condOperand 0 [(0, .ref x0), (1, .int x1)] [] M Q := by
  unfold DX11_condOperand_0 at H
  refine xt_aload_n (j := 0) dX11_condOperand_0 rfl rfl ?_
  obtain ⟨ho1, H⟩ := H
  refine xt_callV (h2 := h) (as := []) (st := []) dX11_condOperand_1 (mlX11_468 rfl) rfl ho1.1 ⟨by rw [ho1.2]; rfl, by rw [ho1.2]; decide⟩ (by first | decide | (simp [Value.category]; done)) (Nat.le_refl _) H (fun r M2 HH hE => ?_)
  obtain ⟨r3, hr, H⟩ := HH hE
  subst hr
  have ho1 := ok_E ho1 hE
  show T _ _ _ _ [.int r3] _ _
  refine xt_if_eq (tgt := 23) dX11_condOperand_4 (by decide) (fun hc => ?_) (fun hc => ?_)
  · have H := H.1 hc
    refine xt_iconst (v := -1) dX11_condOperand_23 (by decide) ?_
    exact xt_sub [0, 1] rfl (VX11_condOperand_24 H)
  · have H := H.2 hc
    refine xt_aload_n (j := 0) dX11_condOperand_7 rfl rfl ?_
    refine xt_aload_n (j := 0) dX11_condOperand_8 rfl rfl ?_
    obtain ⟨b4, hb, H⟩ := H
    refine xt_getR dX11_condOperand_9 (flX11_19 rfl) ft_13_4 ho1.1 ho1.2 hb ?_
    refine xt_aload_n (j := 0) dX11_condOperand_12 rfl rfl ?_
    refine xt_getI dX11_condOperand_13 (flX11_366 rfl) ft_13_5 ho1.1 ho1.2 ?_
    obtain ⟨ho5, H⟩ := H
    obtain ⟨hi, H⟩ := H
    refine xt_lald dX11_condOperand_16 ho5.1 ho5.2 hi ?_
    refine xt_callV (h2 := h) (as := [.long (mAJ M2 b4 (mI M2 x0 5 : Int32).toNatClampNeg)]) (st := []) dX11_condOperand_17 (mlX11_471 rfl) rfl ho1.1 ⟨by rw [ho1.2]; rfl, by rw [ho1.2]; decide⟩ (by first | decide | (simp [Value.category]; done)) (Nat.le_refl _) H (fun r M6 HH hE => ?_)
    obtain ⟨r7, hr, H⟩ := HH hE
    subst hr
    have ho1 := ok_E ho1 hE
    show T _ _ _ _ [.int r7] _ _
    refine xt_goto (tgt := 24) dX11_condOperand_20 (by decide) ?_
    exact xt_sub [0, 1] rfl (VX11_condOperand_24 H)
theorem KX11_condOperand {h : Nat} {x0 : Nat} {x1 : Int32} {M : Mem} {Q : Option Value → Mem → Prop} (H : DX11_condOperand_0 h x0 x1 M Q) : E (h + 1) mdX11_condOperand [.ref x0, .int x1] M Q := E.of (by decide) (Nat.le_of_ble_eq_true rfl) (fun _ _ _ => trivial) (VX11_condOperand_0 H)
def DX11_readCond_292 (h : Nat) (x0 : Nat) (M : Mem) (Q : Option Value → Mem → Prop) : Prop :=
  ok M x0 13 ∧ ((mI M x0 6) ≤ 0 → E h mdX11_joinConds [.ref x0, .int 4] M (fun r M2 => mE M M2 → r = none ∧ ∃ b3 : Nat, mR M2 x0 30 = some b3 ∧ ok M2 b3 21 ∧ vp_in 0 (mL M2 b3) ∧ Q (some (.int (mAI M2 b3 (0 : Int32).toNatClampNeg))) M2)) ∧
  (¬ ((mI M x0 6) ≤ 0) → Q (some (.int 0)) M)
set_option maxRecDepth 20000 in
set_option maxHeartbeats 2000000 in
theorem VX11_readCond_292 {h : Nat} {x0 : Nat} {M : Mem} {Q : Option Value → Mem → Prop} (H : DX11_readCond_292 h x0 M Q) : T (h + 1) mdX11_readCond 292 [(0, .ref x0)] [] M Q := by
  unfold DX11_readCond_292 at H
  refine xt_aload_n (j := 0) dX11_readCond_292 rfl rfl ?_
  obtain ⟨ho1, H⟩ := H
  refine xt_getI dX11_readCond_293 (flX11_360 rfl) ft_13_6 ho1.1 ho1.2 ?_
  refine xt_if_le (tgt := 301) dX11_readCond_296 (by decide) (fun hc => ?_) (fun hc => ?_)
  · have H := H.1 hc
    refine xt_aload_n (j := 0) dX11_readCond_301 rfl rfl ?_
    refine xt_iconst (v := 4) dX11_readCond_302 (by decide) ?_
    refine xt_callV (h2 := h) (as := [.int 4]) (st := []) dX11_readCond_303 (mlX11_521 rfl) rfl ho1.1 ⟨by rw [ho1.2]; rfl, by rw [ho1.2]; decide⟩ (by first | decide | (simp [Value.category]; done)) (Nat.le_refl _) H (fun r M2 HH hE => ?_)
    obtain ⟨hr, H⟩ := HH hE
    subst hr
    have ho1 := ok_E ho1 hE
    show T _ _ _ _ [] _ _
    refine xt_aload_n (j := 0) dX11_readCond_306 rfl rfl ?_
    obtain ⟨b3, hb, H⟩ := H
    refine xt_getR dX11_readCond_307 (flX11_81 rfl) ft_13_30 ho1.1 ho1.2 hb ?_
    refine xt_iconst (v := 0) dX11_readCond_310 (by decide) ?_
    obtain ⟨ho4, H⟩ := H
    obtain ⟨hi, H⟩ := H
    refine xt_iald dX11_readCond_311 ho4.1 ho4.2 hi ?_
    exact xt_ireturn dX11_readCond_312 rfl H
  · have H := H.2 hc
    refine xt_iconst (v := 0) dX11_readCond_299 (by decide) ?_
    exact xt_ireturn dX11_readCond_300 rfl H
def DX11_readCond_264 (h : Nat) (x0 : Nat) (M : Mem) (Q : Option Value → Mem → Prop) : Prop :=
  ok M x0 13 ∧ (¬ (mI M x0 6) = 0 → DX11_readCond_292 h x0 M Q) ∧
  ((mI M x0 6) = 0 → ((mI M x0 32) ≤ 0 → DX11_readCond_292 h x0 M Q) ∧
  (¬ ((mI M x0 32) ≤ 0) → ∃ b2 : Nat, mR M x0 3 = some b2 ∧ ok M b2 21 ∧ vp_in (mI M x0 5) (mL M b2) ∧ E h mdX11_fails [.ref x0, .int 2, .int (mAI M b2 (mI M x0 5 : Int32).toNatClampNeg)] M (fun r M4 => mE M M4 → r = none ∧ DX11_readCond_292 h x0 M4 Q)))
set_option maxRecDepth 20000 in
set_option maxHeartbeats 2000000 in
theorem VX11_readCond_264 {h : Nat} {x0 : Nat} {M : Mem} {Q : Option Value → Mem → Prop} (H : DX11_readCond_264 h x0 M Q) : T (h + 1) mdX11_readCond 264 [(0, .ref x0)] [] M Q := by
  unfold DX11_readCond_264 at H
  refine xt_aload_n (j := 0) dX11_readCond_264 rfl rfl ?_
  obtain ⟨ho1, H⟩ := H
  refine xt_getI dX11_readCond_265 (flX11_360 rfl) ft_13_6 ho1.1 ho1.2 ?_
  refine xt_if_ne (tgt := 292) dX11_readCond_268 (by decide) (fun hc => ?_) (fun hc => ?_)
  · have H := H.1 hc
    exact xt_sub [0] rfl (VX11_readCond_292 H)
  · have H := H.2 hc
    refine xt_aload_n (j := 0) dX11_readCond_271 rfl rfl ?_
    refine xt_getI dX11_readCond_272 (flX11_492 rfl) ft_13_32 ho1.1 ho1.2 ?_
    refine xt_if_le (tgt := 292) dX11_readCond_275 (by decide) (fun hc => ?_) (fun hc => ?_)
    · have H := H.1 hc
      exact xt_sub [0] rfl (VX11_readCond_292 H)
    · have H := H.2 hc
      refine xt_aload_n (j := 0) dX11_readCond_278 rfl rfl ?_
      refine xt_iconst (v := 2) dX11_readCond_279 (by decide) ?_
      refine xt_aload_n (j := 0) dX11_readCond_280 rfl rfl ?_
      obtain ⟨b2, hb, H⟩ := H
      refine xt_getR dX11_readCond_281 (flX11_16 rfl) ft_13_3 ho1.1 ho1.2 hb ?_
      refine xt_aload_n (j := 0) dX11_readCond_284 rfl rfl ?_
      refine xt_getI dX11_readCond_285 (flX11_366 rfl) ft_13_5 ho1.1 ho1.2 ?_
      obtain ⟨ho3, H⟩ := H
      obtain ⟨hi, H⟩ := H
      refine xt_iald dX11_readCond_288 ho3.1 ho3.2 hi ?_
      refine xt_callV (h2 := h) (as := [.int 2, .int (mAI M b2 (mI M x0 5 : Int32).toNatClampNeg)]) (st := []) dX11_readCond_289 (mlX11_369 rfl) rfl ho1.1 ⟨by rw [ho1.2]; rfl, by rw [ho1.2]; decide⟩ (by first | decide | (simp [Value.category]; done)) (Nat.le_refl _) H (fun r M4 HH hE => ?_)
      obtain ⟨hr, H⟩ := HH hE
      subst hr
      have ho1 := ok_E ho1 hE
      show T _ _ _ _ [] _ _
      exact xt_sub [0] rfl (VX11_readCond_292 H)
def DX11_readCond_175 (h : Nat) (x0 : Nat) (x2 : Int32) (s0 : Nat) (s1 : Int32) (s2 : Int32) (M : Mem) (Q : Option Value → Mem → Prop) : Prop :=
  ok M s0 21 ∧ vp_in s1 (mL M s0) ∧ ∀ M2 : Mem, M2 = wAI M s0 (s1 : Int32).toNatClampNeg s2 →
  ok M2 x0 13 ∧ ∀ M4 : Mem, M4 = wI M2 x0 29 ((mI M2 x0 29) + 1) →
  E h mdX11_take [.ref x0] M4 (fun r M5 => mE M4 M5 → r = none ∧ T (h + 1) mdX11_readCond 19 [(0, .ref x0), (1, .int 1), (2, .int x2)] [] M5 Q)
set_option maxRecDepth 20000 in
set_option maxHeartbeats 2000000 in
theorem VX11_readCond_175 {h : Nat} {x0 : Nat} {x2 : Int32} {s0 : Nat} {s1 : Int32} {s2 : Int32} {M : Mem} {Q : Option Value → Mem → Prop} (H : DX11_readCond_175 h x0 x2 s0 s1 s2 M Q) : T (h + 1) mdX11_readCond 175 [(0, .ref x0), (2, .int x2)] [.int s2, .int s1, .ref s0] M Q := by
  unfold DX11_readCond_175 at H
  obtain ⟨ho1, H⟩ := H
  obtain ⟨hi, H⟩ := H
  obtain ⟨M2, eM2⟩ : ∃ z, z = wAI M s0 (s1 : Int32).toNatClampNeg s2 := ⟨_, rfl⟩
  have H := H _ eM2
  refine xt_iast dX11_readCond_175 ho1.1 ho1.2 hi ?_
  rw [← eM2]
  refine xt_aload_n (j := 0) dX11_readCond_176 rfl rfl ?_
  refine xt_dup dX11_readCond_177 rfl ?_
  obtain ⟨ho3, H⟩ := H
  refine xt_getI dX11_readCond_178 (flX11_489 rfl) ft_13_29 ho3.1 ho3.2 ?_
  refine xt_iconst (v := 1) dX11_readCond_181 (by decide) ?_
  refine xt_iadd dX11_readCond_182 ?_
  obtain ⟨M4, eM4⟩ : ∃ z, z = wI M2 x0 29 ((mI M2 x0 29) + 1) := ⟨_, rfl⟩
  have H := H _ eM4
  refine xt_putI dX11_readCond_183 (flX11_489 rfl) ty_13_29 rfl ho3.1 ho3.2 ?_
  have ho3 : ok M4 x0 13 := by rw [eM4]; exact ho3
  rw [← eM4]
  refine xt_aload_n (j := 0) dX11_readCond_186 rfl rfl ?_
  refine xt_callV (h2 := h) (as := []) (st := []) dX11_readCond_187 (mlX11_377 rfl) rfl ho3.1 ⟨by rw [ho3.2]; rfl, by rw [ho3.2]; decide⟩ (by first | decide | (simp [Value.category]; done)) (Nat.le_refl _) H (fun r M5 HH hE => ?_)
  obtain ⟨hr, H⟩ := HH hE
  subst hr
  have ho3 := ok_E ho3 hE
  show T _ _ _ _ [] _ _
  refine xt_iconst (v := 1) dX11_readCond_190 (by decide) ?_
  refine xt_istore_n (lv' := [(1, .int 1), (0, .ref x0), (2, .int x2)]) dX11_readCond_191 rfl (by decide) rfl ?_
  refine xt_goto (tgt := 19) dX11_readCond_192 (by decide) ?_
  exact xt_sub (lv' := [(0, .ref x0), (1, .int 1), (2, .int x2)]) [1, 0, 2] rfl H
def DX11_readCond_155 (h : Nat) (x0 : Nat) (x2 : Int32) (x3 : Int32) (s0 : Nat) (s1 : Int32) (M : Mem) (Q : Option Value → Mem → Prop) : Prop :=
  ok M s0 13 ∧ E h mdX11_joinConds [.ref s0, .int s1] M (fun r M2 => mE M M2 → r = none ∧ ok M2 x0 13 ∧ ∃ b4 : Nat, mR M2 x0 28 = some b4 ∧ (x3 = 0 → DX11_readCond_175 h x0 x2 b4 (mI M2 x0 29) 4 M2 Q) ∧
  (¬ (x3 = 0) → DX11_readCond_175 h x0 x2 b4 (mI M2 x0 29) 3 M2 Q))
set_option maxRecDepth 20000 in
set_option maxHeartbeats 2000000 in
theorem VX11_readCond_155 {h : Nat} {x0 : Nat} {x2 : Int32} {x3 : Int32} {s0 : Nat} {s1 : Int32} {M : Mem} {Q : Option Value → Mem → Prop} (H : DX11_readCond_155 h x0 x2 x3 s0 s1 M Q) : T (h + 1) mdX11_readCond 155 [(0, .ref x0), (2, .int x2), (3, .int x3)] [.int s1, .ref s0] M Q := by
  unfold DX11_readCond_155 at H
  obtain ⟨ho1, H⟩ := H
  refine xt_callV (h2 := h) (as := [.int s1]) (st := []) dX11_readCond_155 (mlX11_521 rfl) rfl ho1.1 ⟨by rw [ho1.2]; rfl, by rw [ho1.2]; decide⟩ (by first | decide | (simp [Value.category]; done)) (Nat.le_refl _) H (fun r M2 HH hE => ?_)
  obtain ⟨hr, H⟩ := HH hE
  subst hr
  show T _ _ _ _ [] _ _
  refine xt_aload_n (j := 0) dX11_readCond_158 rfl rfl ?_
  obtain ⟨ho3, H⟩ := H
  obtain ⟨b4, hb, H⟩ := H
  refine xt_getR dX11_readCond_159 (flX11_78 rfl) ft_13_28 ho3.1 ho3.2 hb ?_
  refine xt_aload_n (j := 0) dX11_readCond_162 rfl rfl ?_
  refine xt_getI dX11_readCond_163 (flX11_489 rfl) ft_13_29 ho3.1 ho3.2 ?_
  refine xt_iload_n (j := 2) dX11_readCond_166 rfl rfl ?_
  refine xt_if_eq (tgt := 174) dX11_readCond_167 (by decide) (fun hc => ?_) (fun hc => ?_)
  · have H := H.1 hc
    refine xt_iconst (v := 4) dX11_readCond_174 (by decide) ?_
    exact xt_sub [0, 1] rfl (VX11_readCond_175 H)
  · have H := H.2 hc
    refine xt_iconst (v := 3) dX11_readCond_170 (by decide) ?_
    refine xt_goto (tgt := 175) dX11_readCond_171 (by decide) ?_
    exact xt_sub [0, 1] rfl (VX11_readCond_175 H)
def DX11_readCond_136 (h : Nat) (x0 : Nat) (x2 : Int32) (M : Mem) (Q : Option Value → Mem → Prop) : Prop :=
  ok M x0 13 ∧ E h mdX11_isSaid [.ref x0, .int 1, .long 1111] M (fun r M2 => mE M M2 → ∃ r3 : Int32, r = some (.int r3) ∧ (r3 = 0 → DX11_readCond_155 h x0 x2 r3 x0 4 M2 Q) ∧
  (¬ (r3 = 0) → DX11_readCond_155 h x0 x2 r3 x0 3 M2 Q))
set_option maxRecDepth 20000 in
set_option maxHeartbeats 2000000 in
theorem VX11_readCond_136 {h : Nat} {x0 : Nat} {x2 : Int32} {M : Mem} {Q : Option Value → Mem → Prop} (H : DX11_readCond_136 h x0 x2 M Q) : T (h + 1) mdX11_readCond 136 [(0, .ref x0), (2, .int x2)] [] M Q := by
  unfold DX11_readCond_136 at H
  refine xt_aload_n (j := 0) dX11_readCond_136 rfl rfl ?_
  refine xt_iconst (v := 1) dX11_readCond_137 (by decide) ?_
  refine xt_ldc2 (v := 1111) dX11_readCond_138 (ctX11_438 rfl) ?_
  obtain ⟨ho1, H⟩ := H
  refine xt_callV (h2 := h) (as := [.int 1, .long 1111]) (st := []) dX11_readCond_141 (mlX11_373 rfl) rfl ho1.1 ⟨by rw [ho1.2]; rfl, by rw [ho1.2]; decide⟩ (by first | decide | (simp [Value.category]; done)) (Nat.le_refl _) H (fun r M2 HH hE => ?_)
  obtain ⟨r3, hr, H⟩ := HH hE
  subst hr
  have ho1 := ok_E ho1 hE
  show T _ _ _ _ [.int r3] _ _
  refine xt_istore_n (lv' := [(3, .int r3), (0, .ref x0), (2, .int x2)]) dX11_readCond_144 rfl (by decide) rfl ?_
  refine xt_aload_n (j := 1) dX11_readCond_145 rfl rfl ?_
  refine xt_iload_n (j := 0) dX11_readCond_146 rfl rfl ?_
  refine xt_if_eq (tgt := 154) dX11_readCond_147 (by decide) (fun hc => ?_) (fun hc => ?_)
  · have H := H.1 hc
    refine xt_iconst (v := 4) dX11_readCond_154 (by decide) ?_
    exact xt_sub [1, 2, 0] rfl (VX11_readCond_155 H)
  · have H := H.2 hc
    refine xt_iconst (v := 3) dX11_readCond_150 (by decide) ?_
    refine xt_goto (tgt := 155) dX11_readCond_151 (by decide) ?_
    exact xt_sub [1, 2, 0] rfl (VX11_readCond_155 H)
def DX11_readCond_259 (h : Nat) (x0 : Nat) (x1 : Int32) (M : Mem) (Q : Option Value → Mem → Prop) : Prop :=
  T (h + 1) mdX11_readCond 19 [(0, .ref x0), (1, .int x1), (2, .int 0)] [] M Q
set_option maxRecDepth 20000 in
set_option maxHeartbeats 2000000 in
theorem VX11_readCond_259 {h : Nat} {x0 : Nat} {x1 : Int32} {M : Mem} {Q : Option Value → Mem → Prop} (H : DX11_readCond_259 h x0 x1 M Q) : T (h + 1) mdX11_readCond 259 [(0, .ref x0), (1, .int x1)] [] M Q := by
  unfold DX11_readCond_259 at H
  refine xt_iconst (v := 0) dX11_readCond_259 (by decide) ?_
  refine xt_istore_n (lv' := [(2, .int 0), (0, .ref x0), (1, .int x1)]) dX11_readCond_260 rfl (by decide) rfl ?_
  refine xt_goto (tgt := 19) dX11_readCond_261 (by decide) ?_
  exact xt_sub (lv' := [(0, .ref x0), (1, .int x1), (2, .int 0)]) [1, 2, 0] rfl H
def DX11_readCond_99 (h : Nat) (x0 : Nat) (x2 : Int32) (M : Mem) (Q : Option Value → Mem → Prop) : Prop :=
  T (h + 1) mdX11_readCond 19 [(0, .ref x0), (1, .int 0), (2, .int x2)] [] M Q
set_option maxRecDepth 20000 in
set_option maxHeartbeats 2000000 in
theorem VX11_readCond_99 {h : Nat} {x0 : Nat} {x2 : Int32} {M : Mem} {Q : Option Value → Mem → Prop} (H : DX11_readCond_99 h x0 x2 M Q) : T (h + 1) mdX11_readCond 99 [(0, .ref x0), (2, .int x2)] [] M Q := by
  unfold DX11_readCond_99 at H
  refine xt_iconst (v := 0) dX11_readCond_99 (by decide) ?_
  refine xt_istore_n (lv' := [(1, .int 0), (0, .ref x0), (2, .int x2)]) dX11_readCond_100 rfl (by decide) rfl ?_
  refine xt_goto (tgt := 19) dX11_readCond_101 (by decide) ?_
  exact xt_sub (lv' := [(0, .ref x0), (1, .int 0), (2, .int x2)]) [1, 0, 2] rfl H
def DX11_readCond_19 (h : Nat) (x0 : Nat) (x1 : Int32) (x2 : Int32) (M : Mem) (Q : Option Value → Mem → Prop) : Prop :=
  (x2 = 0 → DX11_readCond_264 h x0 M Q) ∧
  (¬ (x2 = 0) → ok M x0 13 ∧ (¬ (mI M x0 6) = 0 → DX11_readCond_264 h x0 M Q) ∧
  ((mI M x0 6) = 0 → (x1 = 0 → E h mdX11_isSaid [.ref x0, .int 1, .long 1111] M (fun r M2 => mE M M2 → ∃ r3 : Int32, r = some (.int r3) ∧ (¬ r3 = 0 → DX11_readCond_136 h x0 x2 M2 Q) ∧
  (r3 = 0 → E h mdX11_isSaid [.ref x0, .int 1, .long 423] M2 (fun r M4 => mE M2 M4 → ∃ r5 : Int32, r = some (.int r5) ∧ (r5 = 0 → ((mI M4 x0 32) ≤ 0 → DX11_readCond_259 h x0 x1 M4 Q) ∧
  (¬ ((mI M4 x0 32) ≤ 0) → E h mdX11_isSaid [.ref x0, .int 3, .long 41] M4 (fun r M6 => mE M4 M6 → ∃ r7 : Int32, r = some (.int r7) ∧ (r7 = 0 → DX11_readCond_259 h x0 x1 M6 Q) ∧
  (¬ (r7 = 0) → E h mdX11_joinConds [.ref x0, .int 4] M6 (fun r M8 => mE M6 M8 → r = none ∧ ∀ M9 : Mem, M9 = wI M8 x0 29 ((mI M8 x0 29) - 1) →
  ∀ M10 : Mem, M10 = wI M9 x0 32 ((mI M9 x0 32) - 1) →
  ∀ M11 : Mem, M11 = wI M10 x0 33 ((mI M10 x0 33) - 1) →
  E h mdX11_take [.ref x0] M11 (fun r M12 => mE M11 M12 → r = none ∧ E h mdX11_closeNots [.ref x0] M12 (fun r M13 => mE M12 M13 → r = none ∧ T (h + 1) mdX11_readCond 19 [(0, .ref x0), (1, .int x1), (2, .int x2)] [] M13 Q))))))) ∧
  (¬ (r5 = 0) → DX11_readCond_136 h x0 x2 M4 Q))))) ∧
  (¬ (x1 = 0) → E h mdX11_isSaid [.ref x0, .int 1, .long 10631] M (fun r M14 => mE M M14 → ∃ r15 : Int32, r = some (.int r15) ∧ (r15 = 0 → E h mdX11_isSaid [.ref x0, .int 3, .long 40] M14 (fun r M16 => mE M14 M16 → ∃ r17 : Int32, r = some (.int r17) ∧ (r17 = 0 → E h mdX11_isSaid [.ref x0, .int 1, .long 12155] M16 (fun r M18 => mE M16 M18 → ∃ r19 : Int32, r = some (.int r19) ∧ (r19 = 0 → E h mdX11_condOperand [.ref x0, .int 0] M18 (fun r M20 => mE M18 M20 → r = none ∧ T (h + 1) mdX11_readCond 19 [(0, .ref x0), (1, .int 0), (2, .int x2)] [] M20 Q)) ∧
  (¬ (r19 = 0) → E h mdX11_take [.ref x0] M18 (fun r M21 => mE M18 M21 → r = none ∧ (¬ (mI M21 x0 6) = 0 → DX11_readCond_99 h x0 x2 M21 Q) ∧
  ((mI M21 x0 6) = 0 → E h mdX11_condOperand [.ref x0, .int 1] M21 (fun r M22 => mE M21 M22 → r = none ∧ DX11_readCond_99 h x0 x2 M22 Q)))))) ∧
  (¬ (r17 = 0) → E h mdX11_opening [.ref x0, .int 5] M16 (fun r M23 => mE M16 M23 → r = none ∧ T (h + 1) mdX11_readCond 19 [(0, .ref x0), (1, .int x1), (2, .int x2)] [] M23 Q)))) ∧
  (¬ (r15 = 0) → E h mdX11_opening [.ref x0, .int 2] M14 (fun r M24 => mE M14 M24 → r = none ∧ T (h + 1) mdX11_readCond 19 [(0, .ref x0), (1, .int x1), (2, .int x2)] [] M24 Q))))))
set_option maxRecDepth 20000 in
set_option maxHeartbeats 2000000 in
theorem VX11_readCond_19 {h : Nat} {x0 : Nat} {x1 : Int32} {x2 : Int32} {M : Mem} {Q : Option Value → Mem → Prop} (H : DX11_readCond_19 h x0 x1 x2 M Q) : T (h + 1) mdX11_readCond 19 [(0, .ref x0), (1, .int x1), (2, .int x2)] [] M Q := by
  unfold DX11_readCond_19 at H
  refine xt_iload_n (j := 2) dX11_readCond_19 rfl rfl ?_
  refine xt_if_eq (tgt := 264) dX11_readCond_20 (by decide) (fun hc => ?_) (fun hc => ?_)
  · have H := H.1 hc
    exact xt_sub [0] rfl (VX11_readCond_264 H)
  · have H := H.2 hc
    refine xt_aload_n (j := 0) dX11_readCond_23 rfl rfl ?_
    obtain ⟨ho1, H⟩ := H
    refine xt_getI dX11_readCond_24 (flX11_360 rfl) ft_13_6 ho1.1 ho1.2 ?_
    refine xt_if_ne (tgt := 264) dX11_readCond_27 (by decide) (fun hc => ?_) (fun hc => ?_)
    · have H := H.1 hc
      exact xt_sub [0] rfl (VX11_readCond_264 H)
    · have H := H.2 hc
      refine xt_iload_n (j := 1) dX11_readCond_30 rfl rfl ?_
      refine xt_if_eq (tgt := 114) dX11_readCond_31 (by decide) (fun hc => ?_) (fun hc => ?_)
      · have H := H.1 hc
        refine xt_aload_n (j := 0) dX11_readCond_114 rfl rfl ?_
        refine xt_iconst (v := 1) dX11_readCond_115 (by decide) ?_
        refine xt_ldc2 (v := 1111) dX11_readCond_116 (ctX11_438 rfl) ?_
        refine xt_callV (h2 := h) (as := [.int 1, .long 1111]) (st := []) dX11_readCond_119 (mlX11_373 rfl) rfl ho1.1 ⟨by rw [ho1.2]; rfl, by rw [ho1.2]; decide⟩ (by first | decide | (simp [Value.category]; done)) (Nat.le_refl _) H (fun r M2 HH hE => ?_)
        obtain ⟨r3, hr, H⟩ := HH hE
        subst hr
        have ho1 := ok_E ho1 hE
        show T _ _ _ _ [.int r3] _ _
        refine xt_if_ne (tgt := 136) dX11_readCond_122 (by decide) (fun hc => ?_) (fun hc => ?_)
        · have H := H.1 hc
          exact xt_sub [0, 2] rfl (VX11_readCond_136 H)
        · have H := H.2 hc
          refine xt_aload_n (j := 0) dX11_readCond_125 rfl rfl ?_
          refine xt_iconst (v := 1) dX11_readCond_126 (by decide) ?_
          refine xt_ldc2 (v := 423) dX11_readCond_127 (ctX11_440 rfl) ?_
          refine xt_callV (h2 := h) (as := [.int 1, .long 423]) (st := []) dX11_readCond_130 (mlX11_373 rfl) rfl ho1.1 ⟨by rw [ho1.2]; rfl, by rw [ho1.2]; decide⟩ (by first | decide | (simp [Value.category]; done)) (Nat.le_refl _) H (fun r M4 HH hE => ?_)
          obtain ⟨r5, hr, H⟩ := HH hE
          subst hr
          have ho1 := ok_E ho1 hE
          show T _ _ _ _ [.int r5] _ _
          refine xt_if_eq (tgt := 195) dX11_readCond_133 (by decide) (fun hc => ?_) (fun hc => ?_)
          · have H := H.1 hc
            refine xt_aload_n (j := 0) dX11_readCond_195 rfl rfl ?_
            refine xt_getI dX11_readCond_196 (flX11_492 rfl) ft_13_32 ho1.1 ho1.2 ?_
            refine xt_if_le (tgt := 259) dX11_readCond_199 (by decide) (fun hc => ?_) (fun hc => ?_)
            · have H := H.1 hc
              exact xt_sub [0, 1] rfl (VX11_readCond_259 H)
            · have H := H.2 hc
              refine xt_aload_n (j := 0) dX11_readCond_202 rfl rfl ?_
              refine xt_iconst (v := 3) dX11_readCond_203 (by decide) ?_
              refine xt_ldc2 (v := 41) dX11_readCond_204 (ctX11_524 rfl) ?_
              refine xt_callV (h2 := h) (as := [.int 3, .long 41]) (st := []) dX11_readCond_207 (mlX11_373 rfl) rfl ho1.1 ⟨by rw [ho1.2]; rfl, by rw [ho1.2]; decide⟩ (by first | decide | (simp [Value.category]; done)) (Nat.le_refl _) H (fun r M6 HH hE => ?_)
              obtain ⟨r7, hr, H⟩ := HH hE
              subst hr
              have ho1 := ok_E ho1 hE
              show T _ _ _ _ [.int r7] _ _
              refine xt_if_eq (tgt := 259) dX11_readCond_210 (by decide) (fun hc => ?_) (fun hc => ?_)
              · have H := H.1 hc
                exact xt_sub [0, 1] rfl (VX11_readCond_259 H)
              · have H := H.2 hc
                refine xt_aload_n (j := 0) dX11_readCond_213 rfl rfl ?_
                refine xt_iconst (v := 4) dX11_readCond_214 (by decide) ?_
                refine xt_callV (h2 := h) (as := [.int 4]) (st := []) dX11_readCond_215 (mlX11_521 rfl) rfl ho1.1 ⟨by rw [ho1.2]; rfl, by rw [ho1.2]; decide⟩ (by first | decide | (simp [Value.category]; done)) (Nat.le_refl _) H (fun r M8 HH hE => ?_)
                obtain ⟨hr, H⟩ := HH hE
                subst hr
                have ho1 := ok_E ho1 hE
                show T _ _ _ _ [] _ _
                refine xt_aload_n (j := 0) dX11_readCond_218 rfl rfl ?_
                refine xt_dup dX11_readCond_219 rfl ?_
                refine xt_getI dX11_readCond_220 (flX11_489 rfl) ft_13_29 ho1.1 ho1.2 ?_
                refine xt_iconst (v := 1) dX11_readCond_223 (by decide) ?_
                refine xt_isub dX11_readCond_224 ?_
                obtain ⟨M9, eM9⟩ : ∃ z, z = wI M8 x0 29 ((mI M8 x0 29) - 1) := ⟨_, rfl⟩
                have H := H _ eM9
                refine xt_putI dX11_readCond_225 (flX11_489 rfl) ty_13_29 rfl ho1.1 ho1.2 ?_
                have ho1 : ok M9 x0 13 := by rw [eM9]; exact ho1
                rw [← eM9]
                refine xt_aload_n (j := 0) dX11_readCond_228 rfl rfl ?_
                refine xt_dup dX11_readCond_229 rfl ?_
                refine xt_getI dX11_readCond_230 (flX11_492 rfl) ft_13_32 ho1.1 ho1.2 ?_
                refine xt_iconst (v := 1) dX11_readCond_233 (by decide) ?_
                refine xt_isub dX11_readCond_234 ?_
                obtain ⟨M10, eM10⟩ : ∃ z, z = wI M9 x0 32 ((mI M9 x0 32) - 1) := ⟨_, rfl⟩
                have H := H _ eM10
                refine xt_putI dX11_readCond_235 (flX11_492 rfl) ty_13_32 rfl ho1.1 ho1.2 ?_
                have ho1 : ok M10 x0 13 := by rw [eM10]; exact ho1
                rw [← eM10]
                refine xt_aload_n (j := 0) dX11_readCond_238 rfl rfl ?_
                refine xt_dup dX11_readCond_239 rfl ?_
                refine xt_getI dX11_readCond_240 (flX11_486 rfl) ft_13_33 ho1.1 ho1.2 ?_
                refine xt_iconst (v := 1) dX11_readCond_243 (by decide) ?_
                refine xt_isub dX11_readCond_244 ?_
                obtain ⟨M11, eM11⟩ : ∃ z, z = wI M10 x0 33 ((mI M10 x0 33) - 1) := ⟨_, rfl⟩
                have H := H _ eM11
                refine xt_putI dX11_readCond_245 (flX11_486 rfl) ty_13_33 rfl ho1.1 ho1.2 ?_
                have ho1 : ok M11 x0 13 := by rw [eM11]; exact ho1
                rw [← eM11]
                refine xt_aload_n (j := 0) dX11_readCond_248 rfl rfl ?_
                refine xt_callV (h2 := h) (as := []) (st := []) dX11_readCond_249 (mlX11_377 rfl) rfl ho1.1 ⟨by rw [ho1.2]; rfl, by rw [ho1.2]; decide⟩ (by first | decide | (simp [Value.category]; done)) (Nat.le_refl _) H (fun r M12 HH hE => ?_)
                obtain ⟨hr, H⟩ := HH hE
                subst hr
                have ho1 := ok_E ho1 hE
                show T _ _ _ _ [] _ _
                refine xt_aload_n (j := 0) dX11_readCond_252 rfl rfl ?_
                refine xt_callV (h2 := h) (as := []) (st := []) dX11_readCond_253 (mlX11_509 rfl) rfl ho1.1 ⟨by rw [ho1.2]; rfl, by rw [ho1.2]; decide⟩ (by first | decide | (simp [Value.category]; done)) (Nat.le_refl _) H (fun r M13 HH hE => ?_)
                obtain ⟨hr, H⟩ := HH hE
                subst hr
                have ho1 := ok_E ho1 hE
                show T _ _ _ _ [] _ _
                refine xt_goto (tgt := 19) dX11_readCond_256 (by decide) ?_
                exact xt_sub (lv' := [(0, .ref x0), (1, .int x1), (2, .int x2)]) [0, 1, 2] rfl H
          · have H := H.2 hc
            exact xt_sub [0, 2] rfl (VX11_readCond_136 H)
      · have H := H.2 hc
        refine xt_aload_n (j := 0) dX11_readCond_34 rfl rfl ?_
        refine xt_iconst (v := 1) dX11_readCond_35 (by decide) ?_
        refine xt_ldc2 (v := 10631) dX11_readCond_36 (ctX11_442 rfl) ?_
        refine xt_callV (h2 := h) (as := [.int 1, .long 10631]) (st := []) dX11_readCond_39 (mlX11_373 rfl) rfl ho1.1 ⟨by rw [ho1.2]; rfl, by rw [ho1.2]; decide⟩ (by first | decide | (simp [Value.category]; done)) (Nat.le_refl _) H (fun r M14 HH hE => ?_)
        obtain ⟨r15, hr, H⟩ := HH hE
        subst hr
        have ho1 := ok_E ho1 hE
        show T _ _ _ _ [.int r15] _ _
        refine xt_if_eq (tgt := 53) dX11_readCond_42 (by decide) (fun hc => ?_) (fun hc => ?_)
        · have H := H.1 hc
          refine xt_aload_n (j := 0) dX11_readCond_53 rfl rfl ?_
          refine xt_iconst (v := 3) dX11_readCond_54 (by decide) ?_
          refine xt_ldc2 (v := 40) dX11_readCond_55 (ctX11_515 rfl) ?_
          refine xt_callV (h2 := h) (as := [.int 3, .long 40]) (st := []) dX11_readCond_58 (mlX11_373 rfl) rfl ho1.1 ⟨by rw [ho1.2]; rfl, by rw [ho1.2]; decide⟩ (by first | decide | (simp [Value.category]; done)) (Nat.le_refl _) H (fun r M16 HH hE => ?_)
          obtain ⟨r17, hr, H⟩ := HH hE
          subst hr
          have ho1 := ok_E ho1 hE
          show T _ _ _ _ [.int r17] _ _
          refine xt_if_eq (tgt := 72) dX11_readCond_61 (by decide) (fun hc => ?_) (fun hc => ?_)
          · have H := H.1 hc
            refine xt_aload_n (j := 0) dX11_readCond_72 rfl rfl ?_
            refine xt_iconst (v := 1) dX11_readCond_73 (by decide) ?_
            refine xt_ldc2 (v := 12155) dX11_readCond_74 (ctX11_444 rfl) ?_
            refine xt_callV (h2 := h) (as := [.int 1, .long 12155]) (st := []) dX11_readCond_77 (mlX11_373 rfl) rfl ho1.1 ⟨by rw [ho1.2]; rfl, by rw [ho1.2]; decide⟩ (by first | decide | (simp [Value.category]; done)) (Nat.le_refl _) H (fun r M18 HH hE => ?_)
            obtain ⟨r19, hr, H⟩ := HH hE
            subst hr
            have ho1 := ok_E ho1 hE
            show T _ _ _ _ [.int r19] _ _
            refine xt_if_eq (tgt := 104) dX11_readCond_80 (by decide) (fun hc => ?_) (fun hc => ?_)
            · have H := H.1 hc
              refine xt_aload_n (j := 0) dX11_readCond_104 rfl rfl ?_
              refine xt_iconst (v := 0) dX11_readCond_105 (by decide) ?_
              refine xt_callV (h2 := h) (as := [.int 0]) (st := []) dX11_readCond_106 (mlX11_517 rfl) rfl ho1.1 ⟨by rw [ho1.2]; rfl, by rw [ho1.2]; decide⟩ (by first | decide | (simp [Value.category]; done)) (Nat.le_refl _) H (fun r M20 HH hE => ?_)
              obtain ⟨hr, H⟩ := HH hE
              subst hr
              have ho1 := ok_E ho1 hE
              show T _ _ _ _ [] _ _
              refine xt_iconst (v := 0) dX11_readCond_109 (by decide) ?_
              refine xt_istore_n (lv' := [(1, .int 0), (0, .ref x0), (2, .int x2)]) dX11_readCond_110 rfl (by decide) rfl ?_
              refine xt_goto (tgt := 19) dX11_readCond_111 (by decide) ?_
              exact xt_sub (lv' := [(0, .ref x0), (1, .int 0), (2, .int x2)]) [1, 0, 2] rfl H
            · have H := H.2 hc
              refine xt_aload_n (j := 0) dX11_readCond_83 rfl rfl ?_
              refine xt_callV (h2 := h) (as := []) (st := []) dX11_readCond_84 (mlX11_377 rfl) rfl ho1.1 ⟨by rw [ho1.2]; rfl, by rw [ho1.2]; decide⟩ (by first | decide | (simp [Value.category]; done)) (Nat.le_refl _) H (fun r M21 HH hE => ?_)
              obtain ⟨hr, H⟩ := HH hE
              subst hr
              have ho1 := ok_E ho1 hE
              show T _ _ _ _ [] _ _
              refine xt_aload_n (j := 0) dX11_readCond_87 rfl rfl ?_
              refine xt_getI dX11_readCond_88 (flX11_360 rfl) ft_13_6 ho1.1 ho1.2 ?_
              refine xt_if_ne (tgt := 99) dX11_readCond_91 (by decide) (fun hc => ?_) (fun hc => ?_)
              · have H := H.1 hc
                exact xt_sub [0, 2] rfl (VX11_readCond_99 H)
              · have H := H.2 hc
                refine xt_aload_n (j := 0) dX11_readCond_94 rfl rfl ?_
                refine xt_iconst (v := 1) dX11_readCond_95 (by decide) ?_
                refine xt_callV (h2 := h) (as := [.int 1]) (st := []) dX11_readCond_96 (mlX11_517 rfl) rfl ho1.1 ⟨by rw [ho1.2]; rfl, by rw [ho1.2]; decide⟩ (by first | decide | (simp [Value.category]; done)) (Nat.le_refl _) H (fun r M22 HH hE => ?_)
                obtain ⟨hr, H⟩ := HH hE
                subst hr
                have ho1 := ok_E ho1 hE
                show T _ _ _ _ [] _ _
                exact xt_sub [0, 2] rfl (VX11_readCond_99 H)
          · have H := H.2 hc
            refine xt_aload_n (j := 0) dX11_readCond_64 rfl rfl ?_
            refine xt_iconst (v := 5) dX11_readCond_65 (by decide) ?_
            refine xt_callV (h2 := h) (as := [.int 5]) (st := []) dX11_readCond_66 (mlX11_512 rfl) rfl ho1.1 ⟨by rw [ho1.2]; rfl, by rw [ho1.2]; decide⟩ (by first | decide | (simp [Value.category]; done)) (Nat.le_refl _) H (fun r M23 HH hE => ?_)
            obtain ⟨hr, H⟩ := HH hE
            subst hr
            have ho1 := ok_E ho1 hE
            show T _ _ _ _ [] _ _
            refine xt_goto (tgt := 19) dX11_readCond_69 (by decide) ?_
            exact xt_sub (lv' := [(0, .ref x0), (1, .int x1), (2, .int x2)]) [0, 1, 2] rfl H
        · have H := H.2 hc
          refine xt_aload_n (j := 0) dX11_readCond_45 rfl rfl ?_
          refine xt_iconst (v := 2) dX11_readCond_46 (by decide) ?_
          refine xt_callV (h2 := h) (as := [.int 2]) (st := []) dX11_readCond_47 (mlX11_512 rfl) rfl ho1.1 ⟨by rw [ho1.2]; rfl, by rw [ho1.2]; decide⟩ (by first | decide | (simp [Value.category]; done)) (Nat.le_refl _) H (fun r M24 HH hE => ?_)
          obtain ⟨hr, H⟩ := HH hE
          subst hr
          have ho1 := ok_E ho1 hE
          show T _ _ _ _ [] _ _
          refine xt_goto (tgt := 19) dX11_readCond_50 (by decide) ?_
          exact xt_sub (lv' := [(0, .ref x0), (1, .int x1), (2, .int x2)]) [0, 1, 2] rfl H
def DX11_readCond_0 (h : Nat) (x0 : Nat) (M : Mem) (Q : Option Value → Mem → Prop) : Prop :=
  ok M x0 13 ∧ ∀ M2 : Mem, M2 = wI M x0 29 0 →
  ∀ M3 : Mem, M3 = wI M2 x0 31 0 →
  ∀ M4 : Mem, M4 = wI M3 x0 32 0 →
  T (h + 1) mdX11_readCond 19 [(0, .ref x0), (1, .int 1), (2, .int 1)] [] M4 Q
set_option maxRecDepth 20000 in
set_option maxHeartbeats 2000000 in
theorem VX11_readCond_0 {h : Nat} {x0 : Nat} {M : Mem} {Q : Option Value → Mem → Prop} (H : DX11_readCond_0 h x0 M Q) : T (h + 1) mdX11_readCond 0 [(0, .ref x0)] [] M Q := by
  unfold DX11_readCond_0 at H
  refine xt_aload_n (j := 0) dX11_readCond_0 rfl rfl ?_
  refine xt_iconst (v := 0) dX11_readCond_1 (by decide) ?_
  obtain ⟨ho1, H⟩ := H
  obtain ⟨M2, eM2⟩ : ∃ z, z = wI M x0 29 0 := ⟨_, rfl⟩
  have H := H _ eM2
  refine xt_putI dX11_readCond_2 (flX11_489 rfl) ty_13_29 rfl ho1.1 ho1.2 ?_
  have ho1 : ok M2 x0 13 := by rw [eM2]; exact ho1
  rw [← eM2]
  refine xt_aload_n (j := 0) dX11_readCond_5 rfl rfl ?_
  refine xt_iconst (v := 0) dX11_readCond_6 (by decide) ?_
  obtain ⟨M3, eM3⟩ : ∃ z, z = wI M2 x0 31 0 := ⟨_, rfl⟩
  have H := H _ eM3
  refine xt_putI dX11_readCond_7 (flX11_495 rfl) ty_13_31 rfl ho1.1 ho1.2 ?_
  have ho1 : ok M3 x0 13 := by rw [eM3]; exact ho1
  rw [← eM3]
  refine xt_aload_n (j := 0) dX11_readCond_10 rfl rfl ?_
  refine xt_iconst (v := 0) dX11_readCond_11 (by decide) ?_
  obtain ⟨M4, eM4⟩ : ∃ z, z = wI M3 x0 32 0 := ⟨_, rfl⟩
  have H := H _ eM4
  refine xt_putI dX11_readCond_12 (flX11_492 rfl) ty_13_32 rfl ho1.1 ho1.2 ?_
  have ho1 : ok M4 x0 13 := by rw [eM4]; exact ho1
  rw [← eM4]
  refine xt_iconst (v := 1) dX11_readCond_15 (by decide) ?_
  refine xt_istore_n (lv' := [(1, .int 1), (0, .ref x0)]) dX11_readCond_16 rfl (by decide) rfl ?_
  refine xt_iconst (v := 1) dX11_readCond_17 (by decide) ?_
  refine xt_istore_n (lv' := [(2, .int 1), (1, .int 1), (0, .ref x0)]) dX11_readCond_18 rfl (by decide) rfl ?_
  exact xt_sub (lv' := [(0, .ref x0), (1, .int 1), (2, .int 1)]) [2, 1, 0] rfl H
theorem KX11_readCond {h : Nat} {x0 : Nat} {M : Mem} {Q : Option Value → Mem → Prop} (H : DX11_readCond_0 h x0 M Q) : E (h + 1) mdX11_readCond [.ref x0] M Q := E.of (by decide) (Nat.le_of_ble_eq_true rfl) (fun _ _ _ => trivial) (VX11_readCond_0 H)
def DX11_joinSums_82 (h : Nat) (M : Mem) (Q : Option Value → Mem → Prop) : Prop :=
  Q none M
set_option maxRecDepth 20000 in
set_option maxHeartbeats 2000000 in
theorem VX11_joinSums_82 {h : Nat} {M : Mem} {Q : Option Value → Mem → Prop} (H : DX11_joinSums_82 h  M Q) : T (h + 1) mdX11_joinSums 82 [] [] M Q := by
  unfold DX11_joinSums_82 at H
  exact xt_return dX11_joinSums_82 rfl H
def DX11_joinSums_0 (h : Nat) (x0 : Nat) (x1 : Int32) (M : Mem) (Q : Option Value → Mem → Prop) : Prop :=
  ok M x0 13 ∧ ((mI M x0 29) ≤ 0 → DX11_joinSums_82 h  M Q) ∧
  (¬ ((mI M x0 29) ≤ 0) → ∃ b2 : Nat, mR M x0 28 = some b2 ∧ ok M b2 21 ∧ vp_in ((mI M x0 29) - 1) (mL M b2) ∧ ((mAI M b2 ((mI M x0 29) - 1 : Int32).toNatClampNeg) < 4 → DX11_joinSums_82 h  M Q) ∧
  (¬ ((mAI M b2 ((mI M x0 29) - 1 : Int32).toNatClampNeg) < 4) → ∃ b4 : Nat, mR M x0 28 = some b4 ∧ ok M b4 21 ∧ vp_in ((mI M x0 29) - 1) (mL M b4) ∧ (x1 < (mAI M b4 ((mI M x0 29) - 1 : Int32).toNatClampNeg) → DX11_joinSums_82 h  M Q) ∧
  (¬ (x1 < (mAI M b4 ((mI M x0 29) - 1 : Int32).toNatClampNeg)) → E h mdX11_popped [.ref x0] M (fun r M6 => mE M M6 → ∃ r7 : Int32, r = some (.int r7) ∧ E h mdX11_popped [.ref x0] M6 (fun r M8 => mE M6 M8 → ∃ r9 : Int32, r = some (.int r9) ∧ ∃ b10 : Nat, mR M8 x0 28 = some b10 ∧ ok M8 b10 21 ∧ vp_in ((mI M8 x0 29) - 1) (mL M8 b10) ∧ E h mdX11_sum [.ref x0, .int (mAI M8 b10 ((mI M8 x0 29) - 1 : Int32).toNatClampNeg), .long ((r9 : Int32).toInt64), .int r7] M8 (fun r M12 => mE M8 M12 → ∃ r13 : Int32, r = some (.int r13) ∧ E h mdX11_pushed [.ref x0, .int r13] M12 (fun r M14 => mE M12 M14 → r = none ∧ ∀ M15 : Mem, M15 = wI M14 x0 29 ((mI M14 x0 29) - 1) →
  T (h + 1) mdX11_joinSums 0 [(0, .ref x0), (1, .int x1)] [] M15 Q)))))))
set_option maxRecDepth 20000 in
set_option maxHeartbeats 2000000 in
theorem VX11_joinSums_0 {h : Nat} {x0 : Nat} {x1 : Int32} {M : Mem} {Q : Option Value → Mem → Prop} (H : DX11_joinSums_0 h x0 x1 M Q) : T (h + 1) mdX11_joinSums 0 [(0, .ref x0), (1, .int x1)] [] M Q := by
  unfold DX11_joinSums_0 at H
  refine xt_aload_n (j := 0) dX11_joinSums_0 rfl rfl ?_
  obtain ⟨ho1, H⟩ := H
  refine xt_getI dX11_joinSums_1 (flX11_489 rfl) ft_13_29 ho1.1 ho1.2 ?_
  refine xt_if_le (tgt := 82) dX11_joinSums_4 (by decide) (fun hc => ?_) (fun hc => ?_)
  · have H := H.1 hc
    exact xt_sub [] rfl (VX11_joinSums_82 H)
  · have H := H.2 hc
    refine xt_aload_n (j := 0) dX11_joinSums_7 rfl rfl ?_
    obtain ⟨b2, hb, H⟩ := H
    refine xt_getR dX11_joinSums_8 (flX11_78 rfl) ft_13_28 ho1.1 ho1.2 hb ?_
    refine xt_aload_n (j := 0) dX11_joinSums_11 rfl rfl ?_
    refine xt_getI dX11_joinSums_12 (flX11_489 rfl) ft_13_29 ho1.1 ho1.2 ?_
    refine xt_iconst (v := 1) dX11_joinSums_15 (by decide) ?_
    refine xt_isub dX11_joinSums_16 ?_
    obtain ⟨ho3, H⟩ := H
    obtain ⟨hi, H⟩ := H
    refine xt_iald dX11_joinSums_17 ho3.1 ho3.2 hi ?_
    refine xt_iconst (v := 4) dX11_joinSums_18 (by decide) ?_
    refine xt_icmp_lt (tgt := 82) dX11_joinSums_19 (by decide) (fun hc => ?_) (fun hc => ?_)
    · have H := H.1 hc
      exact xt_sub [] rfl (VX11_joinSums_82 H)
    · have H := H.2 hc
      refine xt_aload_n (j := 0) dX11_joinSums_22 rfl rfl ?_
      obtain ⟨b4, hb, H⟩ := H
      refine xt_getR dX11_joinSums_23 (flX11_78 rfl) ft_13_28 ho1.1 ho1.2 hb ?_
      refine xt_aload_n (j := 0) dX11_joinSums_26 rfl rfl ?_
      refine xt_getI dX11_joinSums_27 (flX11_489 rfl) ft_13_29 ho1.1 ho1.2 ?_
      refine xt_iconst (v := 1) dX11_joinSums_30 (by decide) ?_
      refine xt_isub dX11_joinSums_31 ?_
      obtain ⟨ho5, H⟩ := H
      obtain ⟨hi, H⟩ := H
      refine xt_iald dX11_joinSums_32 ho5.1 ho5.2 hi ?_
      refine xt_iload_n (j := 1) dX11_joinSums_33 rfl rfl ?_
      refine xt_icmp_gt (tgt := 82) dX11_joinSums_34 (by decide) (fun hc => ?_) (fun hc => ?_)
      · have H := H.1 hc
        exact xt_sub [] rfl (VX11_joinSums_82 H)
      · have H := H.2 hc
        refine xt_aload_n (j := 0) dX11_joinSums_37 rfl rfl ?_
        refine xt_callV (h2 := h) (as := []) (st := []) dX11_joinSums_38 (mlX11_498 rfl) rfl ho1.1 ⟨by rw [ho1.2]; rfl, by rw [ho1.2]; decide⟩ (by first | decide | (simp [Value.category]; done)) (Nat.le_refl _) H (fun r M6 HH hE => ?_)
        obtain ⟨r7, hr, H⟩ := HH hE
        subst hr
        have ho1 := ok_E ho1 hE
        show T _ _ _ _ [.int r7] _ _
        refine xt_istore_n (lv' := [(2, .int r7), (0, .ref x0), (1, .int x1)]) dX11_joinSums_41 rfl (by decide) rfl ?_
        refine xt_aload_n (j := 1) dX11_joinSums_42 rfl rfl ?_
        refine xt_callV (h2 := h) (as := []) (st := []) dX11_joinSums_43 (mlX11_498 rfl) rfl ho1.1 ⟨by rw [ho1.2]; rfl, by rw [ho1.2]; decide⟩ (by first | decide | (simp [Value.category]; done)) (Nat.le_refl _) H (fun r M8 HH hE => ?_)
        obtain ⟨r9, hr, H⟩ := HH hE
        subst hr
        have ho1 := ok_E ho1 hE
        show T _ _ _ _ [.int r9] _ _
        refine xt_istore_n (lv' := [(3, .int r9), (2, .int r7), (0, .ref x0), (1, .int x1)]) dX11_joinSums_46 rfl (by decide) rfl ?_
        refine xt_aload_n (j := 2) dX11_joinSums_47 rfl rfl ?_
        refine xt_aload_n (j := 2) dX11_joinSums_48 rfl rfl ?_
        refine xt_aload_n (j := 2) dX11_joinSums_49 rfl rfl ?_
        obtain ⟨b10, hb, H⟩ := H
        refine xt_getR dX11_joinSums_50 (flX11_78 rfl) ft_13_28 ho1.1 ho1.2 hb ?_
        refine xt_aload_n (j := 2) dX11_joinSums_53 rfl rfl ?_
        refine xt_getI dX11_joinSums_54 (flX11_489 rfl) ft_13_29 ho1.1 ho1.2 ?_
        refine xt_iconst (v := 1) dX11_joinSums_57 (by decide) ?_
        refine xt_isub dX11_joinSums_58 ?_
        obtain ⟨ho11, H⟩ := H
        obtain ⟨hi, H⟩ := H
        refine xt_iald dX11_joinSums_59 ho11.1 ho11.2 hi ?_
        refine xt_iload_n (j := 0) dX11_joinSums_60 rfl rfl ?_
        refine xt_i2l dX11_joinSums_61 ?_
        refine xt_iload_n (j := 1) dX11_joinSums_62 rfl rfl ?_
        refine xt_callV (h2 := h) (as := [.int (mAI M8 b10 ((mI M8 x0 29) - 1 : Int32).toNatClampNeg), .long ((r9 : Int32).toInt64), .int r7]) (st := [.ref x0]) dX11_joinSums_63 (mlX11_526 rfl) rfl ho1.1 ⟨by rw [ho1.2]; rfl, by rw [ho1.2]; decide⟩ (by first | decide | (simp [Value.category]; done)) (Nat.le_refl _) H (fun r M12 HH hE => ?_)
        obtain ⟨r13, hr, H⟩ := HH hE
        subst hr
        have ho1 := ok_E ho1 hE
        show T _ _ _ _ [.int r13, .ref x0] _ _
        refine xt_callV (h2 := h) (as := [.int r13]) (st := []) dX11_joinSums_66 (mlX11_506 rfl) rfl ho1.1 ⟨by rw [ho1.2]; rfl, by rw [ho1.2]; decide⟩ (by first | decide | (simp [Value.category]; done)) (Nat.le_refl _) H (fun r M14 HH hE => ?_)
        obtain ⟨hr, H⟩ := HH hE
        subst hr
        have ho1 := ok_E ho1 hE
        show T _ _ _ _ [] _ _
        refine xt_aload_n (j := 2) dX11_joinSums_69 rfl rfl ?_
        refine xt_dup dX11_joinSums_70 rfl ?_
        refine xt_getI dX11_joinSums_71 (flX11_489 rfl) ft_13_29 ho1.1 ho1.2 ?_
        refine xt_iconst (v := 1) dX11_joinSums_74 (by decide) ?_
        refine xt_isub dX11_joinSums_75 ?_
        obtain ⟨M15, eM15⟩ : ∃ z, z = wI M14 x0 29 ((mI M14 x0 29) - 1) := ⟨_, rfl⟩
        have H := H _ eM15
        refine xt_putI dX11_joinSums_76 (flX11_489 rfl) ty_13_29 rfl ho1.1 ho1.2 ?_
        have ho1 : ok M15 x0 13 := by rw [eM15]; exact ho1
        rw [← eM15]
        refine xt_goto (tgt := 0) dX11_joinSums_79 (by decide) ?_
        exact xt_sub (lv' := [(0, .ref x0), (1, .int x1)]) [2, 3] rfl H
theorem KX11_joinSums {h : Nat} {x0 : Nat} {x1 : Int32} {M : Mem} {Q : Option Value → Mem → Prop} (H : T (h + 1) mdX11_joinSums 0 [(0, .ref x0), (1, .int x1)] [] M Q) : E (h + 1) mdX11_joinSums [.ref x0, .int x1] M Q := E.of (by decide) (Nat.le_of_ble_eq_true rfl) (fun _ _ _ => trivial) (xt_sub [0, 1] rfl H)
def DX11_sumOperand_75 (h : Nat) (M : Mem) (Q : Option Value → Mem → Prop) : Prop :=
  Q none M
set_option maxRecDepth 20000 in
set_option maxHeartbeats 2000000 in
theorem VX11_sumOperand_75 {h : Nat} {M : Mem} {Q : Option Value → Mem → Prop} (H : DX11_sumOperand_75 h  M Q) : T (h + 1) mdX11_sumOperand 75 [] [] M Q := by
  unfold DX11_sumOperand_75 at H
  exact xt_return dX11_sumOperand_75 rfl H
def DX11_sumOperand_15 (h : Nat) (x0 : Nat) (M : Mem) (Q : Option Value → Mem → Prop) : Prop :=
  ok M x0 13 ∧ ((mI M x0 29) ≤ 0 → DX11_sumOperand_75 h  M Q) ∧
  (¬ ((mI M x0 29) ≤ 0) → ∃ b2 : Nat, mR M x0 28 = some b2 ∧ ok M b2 21 ∧ vp_in ((mI M x0 29) - 1) (mL M b2) ∧ (¬ (mAI M b2 ((mI M x0 29) - 1 : Int32).toNatClampNeg) = 3 → DX11_sumOperand_75 h  M Q) ∧
  ((mAI M b2 ((mI M x0 29) - 1 : Int32).toNatClampNeg) = 3 → E h mdX11_popped [.ref x0] M (fun r M4 => mE M M4 → ∃ r5 : Int32, r = some (.int r5) ∧ E h mdX11_sum [.ref x0, .int 3, .long ((r5 : Int32).toInt64), .int 0] M4 (fun r M6 => mE M4 M6 → ∃ r7 : Int32, r = some (.int r7) ∧ E h mdX11_pushed [.ref x0, .int r7] M6 (fun r M8 => mE M6 M8 → r = none ∧ ∀ M9 : Mem, M9 = wI M8 x0 29 ((mI M8 x0 29) - 1) →
  ∀ M10 : Mem, M10 = wI M9 x0 33 ((mI M9 x0 33) - 1) →
  T (h + 1) mdX11_sumOperand 15 [(0, .ref x0)] [] M10 Q)))))
set_option maxRecDepth 20000 in
set_option maxHeartbeats 2000000 in
theorem VX11_sumOperand_15 {h : Nat} {x0 : Nat} {M : Mem} {Q : Option Value → Mem → Prop} (H : DX11_sumOperand_15 h x0 M Q) : T (h + 1) mdX11_sumOperand 15 [(0, .ref x0)] [] M Q := by
  unfold DX11_sumOperand_15 at H
  refine xt_aload_n (j := 0) dX11_sumOperand_15 rfl rfl ?_
  obtain ⟨ho1, H⟩ := H
  refine xt_getI dX11_sumOperand_16 (flX11_489 rfl) ft_13_29 ho1.1 ho1.2 ?_
  refine xt_if_le (tgt := 75) dX11_sumOperand_19 (by decide) (fun hc => ?_) (fun hc => ?_)
  · have H := H.1 hc
    exact xt_sub [] rfl (VX11_sumOperand_75 H)
  · have H := H.2 hc
    refine xt_aload_n (j := 0) dX11_sumOperand_22 rfl rfl ?_
    obtain ⟨b2, hb, H⟩ := H
    refine xt_getR dX11_sumOperand_23 (flX11_78 rfl) ft_13_28 ho1.1 ho1.2 hb ?_
    refine xt_aload_n (j := 0) dX11_sumOperand_26 rfl rfl ?_
    refine xt_getI dX11_sumOperand_27 (flX11_489 rfl) ft_13_29 ho1.1 ho1.2 ?_
    refine xt_iconst (v := 1) dX11_sumOperand_30 (by decide) ?_
    refine xt_isub dX11_sumOperand_31 ?_
    obtain ⟨ho3, H⟩ := H
    obtain ⟨hi, H⟩ := H
    refine xt_iald dX11_sumOperand_32 ho3.1 ho3.2 hi ?_
    refine xt_iconst (v := 3) dX11_sumOperand_33 (by decide) ?_
    refine xt_icmp_ne (tgt := 75) dX11_sumOperand_34 (by decide) (fun hc => ?_) (fun hc => ?_)
    · have H := H.1 hc
      exact xt_sub [] rfl (VX11_sumOperand_75 H)
    · have H := H.2 hc
      refine xt_aload_n (j := 0) dX11_sumOperand_37 rfl rfl ?_
      refine xt_aload_n (j := 0) dX11_sumOperand_38 rfl rfl ?_
      refine xt_iconst (v := 3) dX11_sumOperand_39 (by decide) ?_
      refine xt_aload_n (j := 0) dX11_sumOperand_40 rfl rfl ?_
      refine xt_callV (h2 := h) (as := []) (st := [.int 3, .ref x0, .ref x0]) dX11_sumOperand_41 (mlX11_498 rfl) rfl ho1.1 ⟨by rw [ho1.2]; rfl, by rw [ho1.2]; decide⟩ (by first | decide | (simp [Value.category]; done)) (Nat.le_refl _) H (fun r M4 HH hE => ?_)
      obtain ⟨r5, hr, H⟩ := HH hE
      subst hr
      have ho1 := ok_E ho1 hE
      show T _ _ _ _ [.int r5, .int 3, .ref x0, .ref x0] _ _
      refine xt_i2l dX11_sumOperand_44 ?_
      refine xt_iconst (v := 0) dX11_sumOperand_45 (by decide) ?_
      refine xt_callV (h2 := h) (as := [.int 3, .long ((r5 : Int32).toInt64), .int 0]) (st := [.ref x0]) dX11_sumOperand_46 (mlX11_526 rfl) rfl ho1.1 ⟨by rw [ho1.2]; rfl, by rw [ho1.2]; decide⟩ (by first | decide | (simp [Value.category]; done)) (Nat.le_refl _) H (fun r M6 HH hE => ?_)
      obtain ⟨r7, hr, H⟩ := HH hE
      subst hr
      have ho1 := ok_E ho1 hE
      show T _ _ _ _ [.int r7, .ref x0] _ _
      refine xt_callV (h2 := h) (as := [.int r7]) (st := []) dX11_sumOperand_49 (mlX11_506 rfl) rfl ho1.1 ⟨by rw [ho1.2]; rfl, by rw [ho1.2]; decide⟩ (by first | decide | (simp [Value.category]; done)) (Nat.le_refl _) H (fun r M8 HH hE => ?_)
      obtain ⟨hr, H⟩ := HH hE
      subst hr
      have ho1 := ok_E ho1 hE
      show T _ _ _ _ [] _ _
      refine xt_aload_n (j := 0) dX11_sumOperand_52 rfl rfl ?_
      refine xt_dup dX11_sumOperand_53 rfl ?_
      refine xt_getI dX11_sumOperand_54 (flX11_489 rfl) ft_13_29 ho1.1 ho1.2 ?_
      refine xt_iconst (v := 1) dX11_sumOperand_57 (by decide) ?_
      refine xt_isub dX11_sumOperand_58 ?_
      obtain ⟨M9, eM9⟩ : ∃ z, z = wI M8 x0 29 ((mI M8 x0 29) - 1) := ⟨_, rfl⟩
      have H := H _ eM9
      refine xt_putI dX11_sumOperand_59 (flX11_489 rfl) ty_13_29 rfl ho1.1 ho1.2 ?_
      have ho1 : ok M9 x0 13 := by rw [eM9]; exact ho1
      rw [← eM9]
      refine xt_aload_n (j := 0) dX11_sumOperand_62 rfl rfl ?_
      refine xt_dup dX11_sumOperand_63 rfl ?_
      refine xt_getI dX11_sumOperand_64 (flX11_486 rfl) ft_13_33 ho1.1 ho1.2 ?_
      refine xt_iconst (v := 1) dX11_sumOperand_67 (by decide) ?_
      refine xt_isub dX11_sumOperand_68 ?_
      obtain ⟨M10, eM10⟩ : ∃ z, z = wI M9 x0 33 ((mI M9 x0 33) - 1) := ⟨_, rfl⟩
      have H := H _ eM10
      refine xt_putI dX11_sumOperand_69 (flX11_486 rfl) ty_13_33 rfl ho1.1 ho1.2 ?_
      have ho1 : ok M10 x0 13 := by rw [eM10]; exact ho1
      rw [← eM10]
      refine xt_goto (tgt := 15) dX11_sumOperand_72 (by decide) ?_
      exact xt_sub (lv' := [(0, .ref x0)]) [0] rfl H
def DX11_sumOperand_0 (h : Nat) (x0 : Nat) (x1 : Int32) (x2 : Int64) (M : Mem) (Q : Option Value → Mem → Prop) : Prop :=
  ok M x0 13 ∧ E h mdX11_sum [.ref x0, .int x1, .long x2, .int 0] M (fun r M2 => mE M M2 → ∃ r3 : Int32, r = some (.int r3) ∧ E h mdX11_pushed [.ref x0, .int r3] M2 (fun r M4 => mE M2 M4 → r = none ∧ E h mdX11_take [.ref x0] M4 (fun r M5 => mE M4 M5 → r = none ∧ T (h + 1) mdX11_sumOperand 15 [(0, .ref x0)] [] M5 Q)))
set_option maxRecDepth 20000 in
set_option maxHeartbeats 2000000 in
theorem VX11_sumOperand_0 {h : Nat} {x0 : Nat} {x1 : Int32} {x2 : Int64} {M : Mem} {Q : Option Value → Mem → Prop} (H : DX11_sumOperand_0 h x0 x1 x2 M Q) : T (h + 1) mdX11_sumOperand 0 [(0, .ref x0), (1, .int x1), (2, .long x2)] [] M Q := by
  unfold DX11_sumOperand_0 at H
  refine xt_aload_n (j := 0) dX11_sumOperand_0 rfl rfl ?_
  refine xt_aload_n (j := 0) dX11_sumOperand_1 rfl rfl ?_
  refine xt_iload_n (j := 1) dX11_sumOperand_2 rfl rfl ?_
  refine xt_lload_n (j := 2) dX11_sumOperand_3 rfl rfl ?_
  refine xt_iconst (v := 0) dX11_sumOperand_4 (by decide) ?_
  obtain ⟨ho1, H⟩ := H
  refine xt_callV (h2 := h) (as := [.int x1, .long x2, .int 0]) (st := [.ref x0]) dX11_sumOperand_5 (mlX11_526 rfl) rfl ho1.1 ⟨by rw [ho1.2]; rfl, by rw [ho1.2]; decide⟩ (by first | decide | (simp [Value.category]; done)) (Nat.le_refl _) H (fun r M2 HH hE => ?_)
  obtain ⟨r3, hr, H⟩ := HH hE
  subst hr
  have ho1 := ok_E ho1 hE
  show T _ _ _ _ [.int r3, .ref x0] _ _
  refine xt_callV (h2 := h) (as := [.int r3]) (st := []) dX11_sumOperand_8 (mlX11_506 rfl) rfl ho1.1 ⟨by rw [ho1.2]; rfl, by rw [ho1.2]; decide⟩ (by first | decide | (simp [Value.category]; done)) (Nat.le_refl _) H (fun r M4 HH hE => ?_)
  obtain ⟨hr, H⟩ := HH hE
  subst hr
  have ho1 := ok_E ho1 hE
  show T _ _ _ _ [] _ _
  refine xt_aload_n (j := 0) dX11_sumOperand_11 rfl rfl ?_
  refine xt_callV (h2 := h) (as := []) (st := []) dX11_sumOperand_12 (mlX11_377 rfl) rfl ho1.1 ⟨by rw [ho1.2]; rfl, by rw [ho1.2]; decide⟩ (by first | decide | (simp [Value.category]; done)) (Nat.le_refl _) H (fun r M5 HH hE => ?_)
  obtain ⟨hr, H⟩ := HH hE
  subst hr
  have ho1 := ok_E ho1 hE
  show T _ _ _ _ [] _ _
  exact xt_sub (lv' := [(0, .ref x0)]) [0] rfl H
theorem KX11_sumOperand {h : Nat} {x0 : Nat} {x1 : Int32} {x2 : Int64} {M : Mem} {Q : Option Value → Mem → Prop} (H : DX11_sumOperand_0 h x0 x1 x2 M Q) : E (h + 1) mdX11_sumOperand [.ref x0, .int x1, .long x2] M Q := E.of (by decide) (Nat.le_of_ble_eq_true rfl) (fun _ _ _ => trivial) (VX11_sumOperand_0 H)
def DX11_readOperand_227 (h : Nat) (M : Mem) (Q : Option Value → Mem → Prop) : Prop :=
  Q none M
set_option maxRecDepth 20000 in
set_option maxHeartbeats 2000000 in
theorem VX11_readOperand_227 {h : Nat} {M : Mem} {Q : Option Value → Mem → Prop} (H : DX11_readOperand_227 h  M Q) : T (h + 1) mdX11_readOperand 227 [] [] M Q := by
  unfold DX11_readOperand_227 at H
  exact xt_return dX11_readOperand_227 rfl H
def DX11_readOperand_147 (h : Nat) (M : Mem) (Q : Option Value → Mem → Prop) : Prop :=
  DX11_readOperand_227 h  M Q
set_option maxRecDepth 20000 in
set_option maxHeartbeats 2000000 in
theorem VX11_readOperand_147 {h : Nat} {M : Mem} {Q : Option Value → Mem → Prop} (H : DX11_readOperand_147 h  M Q) : T (h + 1) mdX11_readOperand 147 [] [] M Q := by
  unfold DX11_readOperand_147 at H
  refine xt_goto (tgt := 227) dX11_readOperand_147 (by decide) ?_
  exact xt_sub [] rfl (VX11_readOperand_227 H)
def DX11_readOperand_123 (h : Nat) (x0 : Nat) (M : Mem) (Q : Option Value → Mem → Prop) : Prop :=
  ok M x0 13 ∧ ∃ b2 : Nat, mR M x0 3 = some b2 ∧ ok M b2 21 ∧ vp_in (mI M x0 5) (mL M b2) ∧ E h mdX11_fails [.ref x0, .int 4, .int (mAI M b2 (mI M x0 5 : Int32).toNatClampNeg)] M (fun r M4 => mE M M4 → r = none ∧ DX11_readOperand_147 h  M4 Q)
set_option maxRecDepth 20000 in
set_option maxHeartbeats 2000000 in
theorem VX11_readOperand_123 {h : Nat} {x0 : Nat} {M : Mem} {Q : Option Value → Mem → Prop} (H : DX11_readOperand_123 h x0 M Q) : T (h + 1) mdX11_readOperand 123 [(0, .ref x0)] [] M Q := by
  unfold DX11_readOperand_123 at H
  refine xt_aload_n (j := 0) dX11_readOperand_123 rfl rfl ?_
  refine xt_iconst (v := 4) dX11_readOperand_124 (by decide) ?_
  refine xt_aload_n (j := 0) dX11_readOperand_125 rfl rfl ?_
  obtain ⟨ho1, H⟩ := H
  obtain ⟨b2, hb, H⟩ := H
  refine xt_getR dX11_readOperand_126 (flX11_16 rfl) ft_13_3 ho1.1 ho1.2 hb ?_
  refine xt_aload_n (j := 0) dX11_readOperand_129 rfl rfl ?_
  refine xt_getI dX11_readOperand_130 (flX11_366 rfl) ft_13_5 ho1.1 ho1.2 ?_
  obtain ⟨ho3, H⟩ := H
  obtain ⟨hi, H⟩ := H
  refine xt_iald dX11_readOperand_133 ho3.1 ho3.2 hi ?_
  refine xt_callV (h2 := h) (as := [.int 4, .int (mAI M b2 (mI M x0 5 : Int32).toNatClampNeg)]) (st := []) dX11_readOperand_134 (mlX11_369 rfl) rfl ho1.1 ⟨by rw [ho1.2]; rfl, by rw [ho1.2]; decide⟩ (by first | decide | (simp [Value.category]; done)) (Nat.le_refl _) H (fun r M4 HH hE => ?_)
  obtain ⟨hr, H⟩ := HH hE
  subst hr
  have ho1 := ok_E ho1 hE
  show T _ _ _ _ [] _ _
  refine xt_goto (tgt := 147) dX11_readOperand_137 (by decide) ?_
  exact xt_sub [] rfl (VX11_readOperand_147 H)
def DX11_readOperand_76 (h : Nat) (x0 : Nat) (s0 : Int32) (M : Mem) (Q : Option Value → Mem → Prop) : Prop :=
  ok M x0 13 ∧ E h mdX11_isName [.ref x0] M (fun r M2 => mE M M2 → ∃ r3 : Int32, r = some (.int r3) ∧ (¬ r3 = 0 → (s0 = (-1) → DX11_readOperand_123 h x0 M2 Q) ∧
  (¬ (s0 = (-1)) → ∃ b4 : Nat, mR M2 x0 13 = some b4 ∧ ok M2 b4 21 ∧ vp_in ((16 * (mI M2 x0 19)) + s0) (mL M2 b4) ∧ (¬ (mAI M2 b4 ((16 * (mI M2 x0 19)) + s0 : Int32).toNatClampNeg) = 0 → E h mdX11_sumOperand [.ref x0, .int 2, .long ((s0 : Int32).toInt64)] M2 (fun r M6 => mE M2 M6 → r = none ∧ DX11_readOperand_147 h  M6 Q)) ∧
  ((mAI M2 b4 ((16 * (mI M2 x0 19)) + s0 : Int32).toNatClampNeg) = 0 → DX11_readOperand_123 h x0 M2 Q))) ∧
  (r3 = 0 → ∃ b7 : Nat, mR M2 x0 3 = some b7 ∧ ok M2 b7 21 ∧ vp_in (mI M2 x0 5) (mL M2 b7) ∧ E h mdX11_fails [.ref x0, .int 2, .int (mAI M2 b7 (mI M2 x0 5 : Int32).toNatClampNeg)] M2 (fun r M9 => mE M2 M9 → r = none ∧ DX11_readOperand_147 h  M9 Q)))
set_option maxRecDepth 20000 in
set_option maxHeartbeats 2000000 in
theorem VX11_readOperand_76 {h : Nat} {x0 : Nat} {s0 : Int32} {M : Mem} {Q : Option Value → Mem → Prop} (H : DX11_readOperand_76 h x0 s0 M Q) : T (h + 1) mdX11_readOperand 76 [(0, .ref x0)] [.int s0] M Q := by
  unfold DX11_readOperand_76 at H
  refine xt_istore_n (lv' := [(1, .int s0), (0, .ref x0)]) dX11_readOperand_76 rfl (by decide) rfl ?_
  refine xt_aload_n (j := 1) dX11_readOperand_77 rfl rfl ?_
  obtain ⟨ho1, H⟩ := H
  refine xt_callV (h2 := h) (as := []) (st := []) dX11_readOperand_78 (mlX11_468 rfl) rfl ho1.1 ⟨by rw [ho1.2]; rfl, by rw [ho1.2]; decide⟩ (by first | decide | (simp [Value.category]; done)) (Nat.le_refl _) H (fun r M2 HH hE => ?_)
  obtain ⟨r3, hr, H⟩ := HH hE
  subst hr
  have ho1 := ok_E ho1 hE
  show T _ _ _ _ [.int r3] _ _
  refine xt_if_ne (tgt := 101) dX11_readOperand_81 (by decide) (fun hc => ?_) (fun hc => ?_)
  · have H := H.1 hc
    refine xt_iload_n (j := 0) dX11_readOperand_101 rfl rfl ?_
    refine xt_iconst (v := -1) dX11_readOperand_102 (by decide) ?_
    refine xt_icmp_eq (tgt := 123) dX11_readOperand_103 (by decide) (fun hc => ?_) (fun hc => ?_)
    · have H := H.1 hc
      exact xt_sub [1] rfl (VX11_readOperand_123 H)
    · have H := H.2 hc
      refine xt_aload_n (j := 1) dX11_readOperand_106 rfl rfl ?_
      obtain ⟨b4, hb, H⟩ := H
      refine xt_getR dX11_readOperand_107 (flX11_38 rfl) ft_13_13 ho1.1 ho1.2 hb ?_
      refine xt_bipush (v := 16) dX11_readOperand_110 (by decide) ?_
      refine xt_aload_n (j := 1) dX11_readOperand_112 rfl rfl ?_
      refine xt_getI dX11_readOperand_113 (flX11_450 rfl) ft_13_19 ho1.1 ho1.2 ?_
      refine xt_imul dX11_readOperand_116 ?_
      refine xt_iload_n (j := 0) dX11_readOperand_117 rfl rfl ?_
      refine xt_iadd dX11_readOperand_118 ?_
      obtain ⟨ho5, H⟩ := H
      obtain ⟨hi, H⟩ := H
      refine xt_iald dX11_readOperand_119 ho5.1 ho5.2 hi ?_
      refine xt_if_ne (tgt := 140) dX11_readOperand_120 (by decide) (fun hc => ?_) (fun hc => ?_)
      · have H := H.1 hc
        refine xt_aload_n (j := 1) dX11_readOperand_140 rfl rfl ?_
        refine xt_iconst (v := 2) dX11_readOperand_141 (by decide) ?_
        refine xt_iload_n (j := 0) dX11_readOperand_142 rfl rfl ?_
        refine xt_i2l dX11_readOperand_143 ?_
        refine xt_callV (h2 := h) (as := [.int 2, .long ((s0 : Int32).toInt64)]) (st := []) dX11_readOperand_144 (mlX11_530 rfl) rfl ho1.1 ⟨by rw [ho1.2]; rfl, by rw [ho1.2]; decide⟩ (by first | decide | (simp [Value.category]; done)) (Nat.le_refl _) H (fun r M6 HH hE => ?_)
        obtain ⟨hr, H⟩ := HH hE
        subst hr
        have ho1 := ok_E ho1 hE
        show T _ _ _ _ [] _ _
        exact xt_sub [] rfl (VX11_readOperand_147 H)
      · have H := H.2 hc
        exact xt_sub [1] rfl (VX11_readOperand_123 H)
  · have H := H.2 hc
    refine xt_aload_n (j := 1) dX11_readOperand_84 rfl rfl ?_
    refine xt_iconst (v := 2) dX11_readOperand_85 (by decide) ?_
    refine xt_aload_n (j := 1) dX11_readOperand_86 rfl rfl ?_
    obtain ⟨b7, hb, H⟩ := H
    refine xt_getR dX11_readOperand_87 (flX11_16 rfl) ft_13_3 ho1.1 ho1.2 hb ?_
    refine xt_aload_n (j := 1) dX11_readOperand_90 rfl rfl ?_
    refine xt_getI dX11_readOperand_91 (flX11_366 rfl) ft_13_5 ho1.1 ho1.2 ?_
    obtain ⟨ho8, H⟩ := H
    obtain ⟨hi, H⟩ := H
    refine xt_iald dX11_readOperand_94 ho8.1 ho8.2 hi ?_
    refine xt_callV (h2 := h) (as := [.int 2, .int (mAI M2 b7 (mI M2 x0 5 : Int32).toNatClampNeg)]) (st := []) dX11_readOperand_95 (mlX11_369 rfl) rfl ho1.1 ⟨by rw [ho1.2]; rfl, by rw [ho1.2]; decide⟩ (by first | decide | (simp [Value.category]; done)) (Nat.le_refl _) H (fun r M9 HH hE => ?_)
    obtain ⟨hr, H⟩ := HH hE
    subst hr
    have ho1 := ok_E ho1 hE
    show T _ _ _ _ [] _ _
    refine xt_goto (tgt := 147) dX11_readOperand_98 (by decide) ?_
    exact xt_sub [] rfl (VX11_readOperand_147 H)
def DX11_readOperand_0 (h : Nat) (x0 : Nat) (M : Mem) (Q : Option Value → Mem → Prop) : Prop :=
  ok M x0 13 ∧ ∃ b2 : Nat, mR M x0 2 = some b2 ∧ ok M b2 21 ∧ vp_in (mI M x0 5) (mL M b2) ∧ (¬ (mAI M b2 (mI M x0 5 : Int32).toNatClampNeg) = 2 → E h mdX11_isSaid [.ref x0, .int 3, .long 63] M (fun r M4 => mE M M4 → ∃ r5 : Int32, r = some (.int r5) ∧ (r5 = 0 → E h mdX11_isName [.ref x0] M4 (fun r M6 => mE M4 M6 → ∃ r7 : Int32, r = some (.int r7) ∧ (¬ r7 = 0 → ∃ b8 : Nat, mR M6 x0 4 = some b8 ∧ ok M6 b8 23 ∧ vp_in (mI M6 x0 5) (mL M6 b8) ∧ E h mdX11_variableNamed [.ref x0, .long (mAJ M6 b8 (mI M6 x0 5 : Int32).toNatClampNeg)] M6 (fun r M10 => mE M6 M10 → ∃ r11 : Int32, r = some (.int r11) ∧ (¬ r11 = (-1) → ∃ b12 : Nat, mR M10 x0 4 = some b12 ∧ ok M10 b12 23 ∧ vp_in (mI M10 x0 5) (mL M10 b12) ∧ E h mdX11_variableNamed [.ref x0, .long (mAJ M10 b12 (mI M10 x0 5 : Int32).toNatClampNeg)] M10 (fun r M14 => mE M10 M14 → ∃ r15 : Int32, r = some (.int r15) ∧ E h mdX11_sumOperand [.ref x0, .int 1, .long ((r15 : Int32).toInt64)] M14 (fun r M16 => mE M14 M16 → r = none ∧ DX11_readOperand_227 h  M16 Q))) ∧
  (r11 = (-1) → ∃ b17 : Nat, mR M10 x0 3 = some b17 ∧ ok M10 b17 21 ∧ vp_in (mI M10 x0 5) (mL M10 b17) ∧ E h mdX11_fails [.ref x0, .int 4, .int (mAI M10 b17 (mI M10 x0 5 : Int32).toNatClampNeg)] M10 (fun r M19 => mE M10 M19 → r = none ∧ DX11_readOperand_227 h  M19 Q)))) ∧
  (r7 = 0 → ∃ b20 : Nat, mR M6 x0 3 = some b20 ∧ ok M6 b20 21 ∧ vp_in (mI M6 x0 5) (mL M6 b20) ∧ E h mdX11_fails [.ref x0, .int 2, .int (mAI M6 b20 (mI M6 x0 5 : Int32).toNatClampNeg)] M6 (fun r M22 => mE M6 M22 → r = none ∧ DX11_readOperand_227 h  M22 Q)))) ∧
  (¬ (r5 = 0) → E h mdX11_take [.ref x0] M4 (fun r M23 => mE M4 M23 → r = none ∧ (¬ (mI M23 x0 6) = 0 → DX11_readOperand_227 h  M23 Q) ∧
  ((mI M23 x0 6) = 0 → E h mdX11_isName [.ref x0] M23 (fun r M24 => mE M23 M24 → ∃ r25 : Int32, r = some (.int r25) ∧ (r25 = 0 → DX11_readOperand_76 h x0 (-1) M24 Q) ∧
  (¬ (r25 = 0) → ∃ b26 : Nat, mR M24 x0 4 = some b26 ∧ ok M24 b26 23 ∧ vp_in (mI M24 x0 5) (mL M24 b26) ∧ E h mdX11_signalNamed [.ref x0, .long (mAJ M24 b26 (mI M24 x0 5 : Int32).toNatClampNeg)] M24 (fun r M28 => mE M24 M28 → ∃ r29 : Int32, r = some (.int r29) ∧ DX11_readOperand_76 h x0 r29 M28 Q)))))))) ∧
  ((mAI M b2 (mI M x0 5 : Int32).toNatClampNeg) = 2 → ∃ b30 : Nat, mR M x0 4 = some b30 ∧ ok M b30 23 ∧ vp_in (mI M x0 5) (mL M b30) ∧ E h mdX11_sumOperand [.ref x0, .int 0, .long (mAJ M b30 (mI M x0 5 : Int32).toNatClampNeg)] M (fun r M32 => mE M M32 → r = none ∧ DX11_readOperand_227 h  M32 Q))
set_option maxRecDepth 20000 in
set_option maxHeartbeats 2000000 in
theorem VX11_readOperand_0 {h : Nat} {x0 : Nat} {M : Mem} {Q : Option Value → Mem → Prop} (H : DX11_readOperand_0 h x0 M Q) : T (h + 1) mdX11_readOperand 0 [(0, .ref x0)] [] M Q := by
  unfold DX11_readOperand_0 at H
  refine xt_aload_n (j := 0) dX11_readOperand_0 rfl rfl ?_
  obtain ⟨ho1, H⟩ := H
  obtain ⟨b2, hb, H⟩ := H
  refine xt_getR dX11_readOperand_1 (flX11_13 rfl) ft_13_2 ho1.1 ho1.2 hb ?_
  refine xt_aload_n (j := 0) dX11_readOperand_4 rfl rfl ?_
  refine xt_getI dX11_readOperand_5 (flX11_366 rfl) ft_13_5 ho1.1 ho1.2 ?_
  obtain ⟨ho3, H⟩ := H
  obtain ⟨hi, H⟩ := H
  refine xt_iald dX11_readOperand_8 ho3.1 ho3.2 hi ?_
  refine xt_iconst (v := 2) dX11_readOperand_9 (by decide) ?_
  refine xt_icmp_ne (tgt := 30) dX11_readOperand_10 (by decide) (fun hc => ?_) (fun hc => ?_)
  · have H := H.1 hc
    refine xt_aload_n (j := 0) dX11_readOperand_30 rfl rfl ?_
    refine xt_iconst (v := 3) dX11_readOperand_31 (by decide) ?_
    refine xt_ldc2 (v := 63) dX11_readOperand_32 (ctX11_533 rfl) ?_
    refine xt_callV (h2 := h) (as := [.int 3, .long 63]) (st := []) dX11_readOperand_35 (mlX11_373 rfl) rfl ho1.1 ⟨by rw [ho1.2]; rfl, by rw [ho1.2]; decide⟩ (by first | decide | (simp [Value.category]; done)) (Nat.le_refl _) H (fun r M4 HH hE => ?_)
    obtain ⟨r5, hr, H⟩ := HH hE
    subst hr
    have ho1 := ok_E ho1 hE
    show T _ _ _ _ [.int r5] _ _
    refine xt_if_eq (tgt := 150) dX11_readOperand_38 (by decide) (fun hc => ?_) (fun hc => ?_)
    · have H := H.1 hc
      refine xt_aload_n (j := 0) dX11_readOperand_150 rfl rfl ?_
      refine xt_callV (h2 := h) (as := []) (st := []) dX11_readOperand_151 (mlX11_468 rfl) rfl ho1.1 ⟨by rw [ho1.2]; rfl, by rw [ho1.2]; decide⟩ (by first | decide | (simp [Value.category]; done)) (Nat.le_refl _) H (fun r M6 HH hE => ?_)
      obtain ⟨r7, hr, H⟩ := HH hE
      subst hr
      have ho1 := ok_E ho1 hE
      show T _ _ _ _ [.int r7] _ _
      refine xt_if_ne (tgt := 174) dX11_readOperand_154 (by decide) (fun hc => ?_) (fun hc => ?_)
      · have H := H.1 hc
        refine xt_aload_n (j := 0) dX11_readOperand_174 rfl rfl ?_
        refine xt_aload_n (j := 0) dX11_readOperand_175 rfl rfl ?_
        obtain ⟨b8, hb, H⟩ := H
        refine xt_getR dX11_readOperand_176 (flX11_19 rfl) ft_13_4 ho1.1 ho1.2 hb ?_
        refine xt_aload_n (j := 0) dX11_readOperand_179 rfl rfl ?_
        refine xt_getI dX11_readOperand_180 (flX11_366 rfl) ft_13_5 ho1.1 ho1.2 ?_
        obtain ⟨ho9, H⟩ := H
        obtain ⟨hi, H⟩ := H
        refine xt_lald dX11_readOperand_183 ho9.1 ho9.2 hi ?_
        refine xt_callV (h2 := h) (as := [.long (mAJ M6 b8 (mI M6 x0 5 : Int32).toNatClampNeg)]) (st := []) dX11_readOperand_184 (mlX11_475 rfl) rfl ho1.1 ⟨by rw [ho1.2]; rfl, by rw [ho1.2]; decide⟩ (by first | decide | (simp [Value.category]; done)) (Nat.le_refl _) H (fun r M10 HH hE => ?_)
        obtain ⟨r11, hr, H⟩ := HH hE
        subst hr
        have ho1 := ok_E ho1 hE
        show T _ _ _ _ [.int r11] _ _
        refine xt_iconst (v := -1) dX11_readOperand_187 (by decide) ?_
        refine xt_icmp_ne (tgt := 208) dX11_readOperand_188 (by decide) (fun hc => ?_) (fun hc => ?_)
        · have H := H.1 hc
          refine xt_aload_n (j := 0) dX11_readOperand_208 rfl rfl ?_
          refine xt_iconst (v := 1) dX11_readOperand_209 (by decide) ?_
          refine xt_aload_n (j := 0) dX11_readOperand_210 rfl rfl ?_
          refine xt_aload_n (j := 0) dX11_readOperand_211 rfl rfl ?_
          obtain ⟨b12, hb, H⟩ := H
          refine xt_getR dX11_readOperand_212 (flX11_19 rfl) ft_13_4 ho1.1 ho1.2 hb ?_
          refine xt_aload_n (j := 0) dX11_readOperand_215 rfl rfl ?_
          refine xt_getI dX11_readOperand_216 (flX11_366 rfl) ft_13_5 ho1.1 ho1.2 ?_
          obtain ⟨ho13, H⟩ := H
          obtain ⟨hi, H⟩ := H
          refine xt_lald dX11_readOperand_219 ho13.1 ho13.2 hi ?_
          refine xt_callV (h2 := h) (as := [.long (mAJ M10 b12 (mI M10 x0 5 : Int32).toNatClampNeg)]) (st := [.int 1, .ref x0]) dX11_readOperand_220 (mlX11_475 rfl) rfl ho1.1 ⟨by rw [ho1.2]; rfl, by rw [ho1.2]; decide⟩ (by first | decide | (simp [Value.category]; done)) (Nat.le_refl _) H (fun r M14 HH hE => ?_)
          obtain ⟨r15, hr, H⟩ := HH hE
          subst hr
          have ho1 := ok_E ho1 hE
          show T _ _ _ _ [.int r15, .int 1, .ref x0] _ _
          refine xt_i2l dX11_readOperand_223 ?_
          refine xt_callV (h2 := h) (as := [.int 1, .long ((r15 : Int32).toInt64)]) (st := []) dX11_readOperand_224 (mlX11_530 rfl) rfl ho1.1 ⟨by rw [ho1.2]; rfl, by rw [ho1.2]; decide⟩ (by first | decide | (simp [Value.category]; done)) (Nat.le_refl _) H (fun r M16 HH hE => ?_)
          obtain ⟨hr, H⟩ := HH hE
          subst hr
          have ho1 := ok_E ho1 hE
          show T _ _ _ _ [] _ _
          exact xt_sub [] rfl (VX11_readOperand_227 H)
        · have H := H.2 hc
          refine xt_aload_n (j := 0) dX11_readOperand_191 rfl rfl ?_
          refine xt_iconst (v := 4) dX11_readOperand_192 (by decide) ?_
          refine xt_aload_n (j := 0) dX11_readOperand_193 rfl rfl ?_
          obtain ⟨b17, hb, H⟩ := H
          refine xt_getR dX11_readOperand_194 (flX11_16 rfl) ft_13_3 ho1.1 ho1.2 hb ?_
          refine xt_aload_n (j := 0) dX11_readOperand_197 rfl rfl ?_
          refine xt_getI dX11_readOperand_198 (flX11_366 rfl) ft_13_5 ho1.1 ho1.2 ?_
          obtain ⟨ho18, H⟩ := H
          obtain ⟨hi, H⟩ := H
          refine xt_iald dX11_readOperand_201 ho18.1 ho18.2 hi ?_
          refine xt_callV (h2 := h) (as := [.int 4, .int (mAI M10 b17 (mI M10 x0 5 : Int32).toNatClampNeg)]) (st := []) dX11_readOperand_202 (mlX11_369 rfl) rfl ho1.1 ⟨by rw [ho1.2]; rfl, by rw [ho1.2]; decide⟩ (by first | decide | (simp [Value.category]; done)) (Nat.le_refl _) H (fun r M19 HH hE => ?_)
          obtain ⟨hr, H⟩ := HH hE
          subst hr
          have ho1 := ok_E ho1 hE
          show T _ _ _ _ [] _ _
          refine xt_goto (tgt := 227) dX11_readOperand_205 (by decide) ?_
          exact xt_sub [] rfl (VX11_readOperand_227 H)
      · have H := H.2 hc
        refine xt_aload_n (j := 0) dX11_readOperand_157 rfl rfl ?_
        refine xt_iconst (v := 2) dX11_readOperand_158 (by decide) ?_
        refine xt_aload_n (j := 0) dX11_readOperand_159 rfl rfl ?_
        obtain ⟨b20, hb, H⟩ := H
        refine xt_getR dX11_readOperand_160 (flX11_16 rfl) ft_13_3 ho1.1 ho1.2 hb ?_
        refine xt_aload_n (j := 0) dX11_readOperand_163 rfl rfl ?_
        refine xt_getI dX11_readOperand_164 (flX11_366 rfl) ft_13_5 ho1.1 ho1.2 ?_
        obtain ⟨ho21, H⟩ := H
        obtain ⟨hi, H⟩ := H
        refine xt_iald dX11_readOperand_167 ho21.1 ho21.2 hi ?_
        refine xt_callV (h2 := h) (as := [.int 2, .int (mAI M6 b20 (mI M6 x0 5 : Int32).toNatClampNeg)]) (st := []) dX11_readOperand_168 (mlX11_369 rfl) rfl ho1.1 ⟨by rw [ho1.2]; rfl, by rw [ho1.2]; decide⟩ (by first | decide | (simp [Value.category]; done)) (Nat.le_refl _) H (fun r M22 HH hE => ?_)
        obtain ⟨hr, H⟩ := HH hE
        subst hr
        have ho1 := ok_E ho1 hE
        show T _ _ _ _ [] _ _
        refine xt_goto (tgt := 227) dX11_readOperand_171 (by decide) ?_
        exact xt_sub [] rfl (VX11_readOperand_227 H)
    · have H := H.2 hc
      refine xt_aload_n (j := 0) dX11_readOperand_41 rfl rfl ?_
      refine xt_callV (h2 := h) (as := []) (st := []) dX11_readOperand_42 (mlX11_377 rfl) rfl ho1.1 ⟨by rw [ho1.2]; rfl, by rw [ho1.2]; decide⟩ (by first | decide | (simp [Value.category]; done)) (Nat.le_refl _) H (fun r M23 HH hE => ?_)
      obtain ⟨hr, H⟩ := HH hE
      subst hr
      have ho1 := ok_E ho1 hE
      show T _ _ _ _ [] _ _
      refine xt_aload_n (j := 0) dX11_readOperand_45 rfl rfl ?_
      refine xt_getI dX11_readOperand_46 (flX11_360 rfl) ft_13_6 ho1.1 ho1.2 ?_
      refine xt_if_ne (tgt := 227) dX11_readOperand_49 (by decide) (fun hc => ?_) (fun hc => ?_)
      · have H := H.1 hc
        exact xt_sub [] rfl (VX11_readOperand_227 H)
      · have H := H.2 hc
        refine xt_aload_n (j := 0) dX11_readOperand_52 rfl rfl ?_
        refine xt_callV (h2 := h) (as := []) (st := []) dX11_readOperand_53 (mlX11_468 rfl) rfl ho1.1 ⟨by rw [ho1.2]; rfl, by rw [ho1.2]; decide⟩ (by first | decide | (simp [Value.category]; done)) (Nat.le_refl _) H (fun r M24 HH hE => ?_)
        obtain ⟨r25, hr, H⟩ := HH hE
        subst hr
        have ho1 := ok_E ho1 hE
        show T _ _ _ _ [.int r25] _ _
        refine xt_if_eq (tgt := 75) dX11_readOperand_56 (by decide) (fun hc => ?_) (fun hc => ?_)
        · have H := H.1 hc
          refine xt_iconst (v := -1) dX11_readOperand_75 (by decide) ?_
          exact xt_sub [0] rfl (VX11_readOperand_76 H)
        · have H := H.2 hc
          refine xt_aload_n (j := 0) dX11_readOperand_59 rfl rfl ?_
          refine xt_aload_n (j := 0) dX11_readOperand_60 rfl rfl ?_
          obtain ⟨b26, hb, H⟩ := H
          refine xt_getR dX11_readOperand_61 (flX11_19 rfl) ft_13_4 ho1.1 ho1.2 hb ?_
          refine xt_aload_n (j := 0) dX11_readOperand_64 rfl rfl ?_
          refine xt_getI dX11_readOperand_65 (flX11_366 rfl) ft_13_5 ho1.1 ho1.2 ?_
          obtain ⟨ho27, H⟩ := H
          obtain ⟨hi, H⟩ := H
          refine xt_lald dX11_readOperand_68 ho27.1 ho27.2 hi ?_
          refine xt_callV (h2 := h) (as := [.long (mAJ M24 b26 (mI M24 x0 5 : Int32).toNatClampNeg)]) (st := []) dX11_readOperand_69 (mlX11_471 rfl) rfl ho1.1 ⟨by rw [ho1.2]; rfl, by rw [ho1.2]; decide⟩ (by first | decide | (simp [Value.category]; done)) (Nat.le_refl _) H (fun r M28 HH hE => ?_)
          obtain ⟨r29, hr, H⟩ := HH hE
          subst hr
          have ho1 := ok_E ho1 hE
          show T _ _ _ _ [.int r29] _ _
          refine xt_goto (tgt := 76) dX11_readOperand_72 (by decide) ?_
          exact xt_sub [0] rfl (VX11_readOperand_76 H)
  · have H := H.2 hc
    refine xt_aload_n (j := 0) dX11_readOperand_13 rfl rfl ?_
    refine xt_iconst (v := 0) dX11_readOperand_14 (by decide) ?_
    refine xt_aload_n (j := 0) dX11_readOperand_15 rfl rfl ?_
    obtain ⟨b30, hb, H⟩ := H
    refine xt_getR dX11_readOperand_16 (flX11_19 rfl) ft_13_4 ho1.1 ho1.2 hb ?_
    refine xt_aload_n (j := 0) dX11_readOperand_19 rfl rfl ?_
    refine xt_getI dX11_readOperand_20 (flX11_366 rfl) ft_13_5 ho1.1 ho1.2 ?_
    obtain ⟨ho31, H⟩ := H
    obtain ⟨hi, H⟩ := H
    refine xt_lald dX11_readOperand_23 ho31.1 ho31.2 hi ?_
    refine xt_callV (h2 := h) (as := [.int 0, .long (mAJ M b30 (mI M x0 5 : Int32).toNatClampNeg)]) (st := []) dX11_readOperand_24 (mlX11_530 rfl) rfl ho1.1 ⟨by rw [ho1.2]; rfl, by rw [ho1.2]; decide⟩ (by first | decide | (simp [Value.category]; done)) (Nat.le_refl _) H (fun r M32 HH hE => ?_)
    obtain ⟨hr, H⟩ := HH hE
    subst hr
    have ho1 := ok_E ho1 hE
    show T _ _ _ _ [] _ _
    refine xt_goto (tgt := 227) dX11_readOperand_27 (by decide) ?_
    exact xt_sub [] rfl (VX11_readOperand_227 H)
theorem KX11_readOperand {h : Nat} {x0 : Nat} {M : Mem} {Q : Option Value → Mem → Prop} (H : DX11_readOperand_0 h x0 M Q) : E (h + 1) mdX11_readOperand [.ref x0] M Q := E.of (by decide) (Nat.le_of_ble_eq_true rfl) (fun _ _ _ => trivial) (VX11_readOperand_0 H)
