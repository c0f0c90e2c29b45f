theorem ccX0_86 {d : MD} (hc : d.1.cls = RX0) : cl2 d 86 0 := ⟨by decide, by rw [hc]; exact tbL tbk_5 191 (by decide +kernel) rfl⟩
theorem ccX2_113 {d : MD} (hc : d.1.cls = RX2) : cl2 d 113 5 := ⟨by decide, by rw [hc]; exact tbL tbk_6 143 (by decide +kernel) rfl⟩
theorem ccX4_96 {d : MD} (hc : d.1.cls = RX4) : cl2 d 96 5 := ⟨by decide, by rw [hc]; exact tbL tbk_4 21 (by decide +kernel) rfl⟩
theorem ccX9_124 {d : MD} (hc : d.1.cls = RX9) : cl2 d 124 5 := ⟨by decide, by rw [hc]; exact tbL tbk_5 233 (by decide +kernel) rfl⟩
theorem ccX10_132 {d : MD} (hc : d.1.cls = RX10) : cl2 d 132 5 := ⟨by decide, by rw [hc]; exact tbL tbk_6 28 (by decide +kernel) rfl⟩
theorem ccX10_93 {d : MD} (hc : d.1.cls = RX10) : cl2 d 93 3 := ⟨by decide, by rw [hc]; exact tbL tbk_6 12 (by decide +kernel) rfl⟩
theorem ccX10_137 {d : MD} (hc : d.1.cls = RX10) : cl2 d 137 4 := ⟨by decide, by rw [hc]; exact tbL tbk_6 33 (by decide +kernel) rfl⟩
