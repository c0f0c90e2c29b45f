/-! Math.max, Math.min -/
theorem mx_code : Cond.code Lib.Math.max.name Lib.Math.max.code 2 (some .int) ∈ TB := tbL tbk_3 127 rfl rfl
theorem mn_code : Cond.code Lib.Math.min.name Lib.Math.min.code 2 (some .int) ∈ TB := tbL tbk_2 137 rfl rfl
theorem mx_stat : Cond.static Lib.Math.max.name ∈ TB := tbL tbk_3 126 (by decide +kernel) rfl
theorem mn_stat : Cond.static Lib.Math.min.name ∈ TB := tbL tbk_2 136 (by decide +kernel) rfl
theorem mt_init : Cond.initialized "java/lang/Math" ∈ TB := tbL tbk_1 17 (by decide +kernel) rfl
theorem xt_mmax {h : Nat} {d : MD} {pc : Nat} {lv : List (Nat × Value)} {st : List Value} {M : Mem} {Q : Option Value → Mem → Prop} {idx : Nat} {x y : Int32} (hd : decode d.2.1 pc = .ok (.invokestatic idx, 3)) (hm : Cond.methodLink d.1.cls idx Lib.Math.max.name ∈ TB) (hh : 1 ≤ h) (hc : (st.map fun v => v.category).sum ≤ 8) (kk : T h d (pc + 3) lv (.int (if x < y then y else x) :: st) M Q) : T h d pc lv (.int y :: .int x :: st) M Q := by
  obtain ⟨r, M', hv, hq⟩ := kk
  refine ⟨r, M', ⟨hv.1, fun hb p l e s m args below meth c D cy A M0 ba sp H locs ls X h1 hP hD hS hl => ?_⟩, hq⟩
  have hts := X.2.2.2.2.2.2.2.1
  have g1 := hv.1.1
  have g2 := hv.1.2.1
  exact va_mmax X.1 X.2.1 (by rw [X.2.2.1, hl.1]) X.2.2.2.1 (hts _ hm) (hts _ mx_stat) (hts _ mt_init) (hts _ mx_code) hh (by rw [cat_sum]; show _ + 13 ≤ 120 * h; omega) (by show _ ≤ mN M' - mN M0; omega) (by show _ ≤ mS M' - mS M0; omega) hd (hv.2 hb p l e s m args below meth c D cy A M0 ba sp H locs ls X h1 hP hD hS hl)
theorem xt_mmin {h : Nat} {d : MD} {pc : Nat} {lv : List (Nat × Value)} {st : List Value} {M : Mem} {Q : Option Value → Mem → Prop} {idx : Nat} {x y : Int32} (hd : decode d.2.1 pc = .ok (.invokestatic idx, 3)) (hm : Cond.methodLink d.1.cls idx Lib.Math.min.name ∈ TB) (hh : 1 ≤ h) (hc : (st.map fun v => v.category).sum ≤ 8) (kk : T h d (pc + 3) lv (.int (if y < x then y else x) :: st) M Q) : T h d pc lv (.int y :: .int x :: st) M Q := by
  obtain ⟨r, M', hv, hq⟩ := kk
  refine ⟨r, M', ⟨hv.1, fun hb p l e s m args below meth c D cy A M0 ba sp H locs ls X h1 hP hD hS hl => ?_⟩, hq⟩
  have hts := X.2.2.2.2.2.2.2.1
  have g1 := hv.1.1
  have g2 := hv.1.2.1
  exact va_mmin X.1 X.2.1 (by rw [X.2.2.1, hl.1]) X.2.2.2.1 (hts _ hm) (hts _ mn_stat) (hts _ mt_init) (hts _ mn_code) hh (by rw [cat_sum]; show _ + 13 ≤ 120 * h; omega) (by show _ ≤ mN M' - mN M0; omega) (by show _ ≤ mS M' - mS M0; omega) hd (hv.2 hb p l e s m args below meth c D cy A M0 ba sp H locs ls X h1 hP hD hS hl)
theorem mmJ7_304 {d : MD} (hc : d.1.cls = RJ7) : Cond.methodLink d.1.cls 304 Lib.Math.min.name ∈ TB := by rw [hc]; exact tbL tbk_2 135 (by decide +kernel) rfl
theorem mmX7_45 {d : MD} (hc : d.1.cls = RX7) : Cond.methodLink d.1.cls 45 Lib.Math.min.name ∈ TB := by rw [hc]; exact tbL tbk_3 80 (by decide +kernel) rfl
theorem mmJ1_92 {d : MD} (hc : d.1.cls = RJ1) : Cond.methodLink d.1.cls 92 Lib.Math.max.name ∈ TB := by rw [hc]; exact tbL tbk_3 125 (by decide +kernel) rfl
theorem mmJ1_38 {d : MD} (hc : d.1.cls = RJ1) : Cond.methodLink d.1.cls 38 Lib.Math.min.name ∈ TB := by rw [hc]; exact tbL tbk_3 128 (by decide +kernel) rfl
theorem mmJ2_224 {d : MD} (hc : d.1.cls = RJ2) : Cond.methodLink d.1.cls 224 Lib.Math.max.name ∈ TB := by rw [hc]; exact tbL tbk_3 135 (by decide +kernel) rfl
theorem mmJ2_183 {d : MD} (hc : d.1.cls = RJ2) : Cond.methodLink d.1.cls 183 Lib.Math.min.name ∈ TB := by rw [hc]; exact tbL tbk_3 136 (by decide +kernel) rfl
theorem mmJ8_194 {d : MD} (hc : d.1.cls = RJ8) : Cond.methodLink d.1.cls 194 Lib.Math.max.name ∈ TB := by rw [hc]; exact tbL tbk_4 99 (by decide +kernel) rfl
theorem mmJx4a65c_79 {d : MD} (hc : d.1.cls = RJx4a65c) : Cond.methodLink d.1.cls 79 Lib.Math.max.name ∈ TB := by rw [hc]; exact tbL tbk_4 131 (by decide +kernel) rfl
theorem mmX4_181 {d : MD} (hc : d.1.cls = RX4) : Cond.methodLink d.1.cls 181 Lib.Math.max.name ∈ TB := by rw [hc]; exact tbL tbk_4 133 (by decide +kernel) rfl
theorem mmX8_52 {d : MD} (hc : d.1.cls = RX8) : Cond.methodLink d.1.cls 52 Lib.Math.max.name ∈ TB := by rw [hc]; exact tbL tbk_4 210 (by decide +kernel) rfl
theorem mmX0_98 {d : MD} (hc : d.1.cls = RX0) : Cond.methodLink d.1.cls 98 Lib.Math.max.name ∈ TB := by rw [hc]; exact tbL tbk_5 180 (by decide +kernel) rfl
theorem mmX2_208 {d : MD} (hc : d.1.cls = RX2) : Cond.methodLink d.1.cls 208 Lib.Math.max.name ∈ TB := by rw [hc]; exact tbL tbk_6 226 (by decide +kernel) rfl
