/-! lists that grow: class objects, arrays of references -/
def AOI (U : State) : Prop := (Cond.arrayOver (.array .int)).before #[] U = true
theorem AOI.moved {u U : State} (hvm : u.vm.Alike U.vm) (h : AOI u) : AOI U := by
  simp only [AOI, Cond.before, Cond.holds, Cond.value, beq_iff_eq, Option.bind_eq_some_iff, Option.map_eq_some_iff] at h ⊢
  obtain ⟨comp, hcomp, c, hi, k, hk, hb⟩ := h
  obtain ⟨k', hk', he⟩ := hvm.2.2 _ _ hk
  refine ⟨comp, by rw [hvm.findClass]; exact hcomp, c, ?_, k', hk', ?_⟩
  · have a := va_idx_bare U.vm comp
    have b := va_idx_bare u.vm comp
    have hbb : U.vm.bare = u.vm.bare := by first | exact hvm.bare_eq | exact hvm.bare_eq.symm
    rw [hbb] at a
    exact (a.symm.trans b).trans hi
  · rw [show k'.kind = k.kind by rw [he], hvm.findClass]
    exact hb
