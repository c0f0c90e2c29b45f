/-! frames over the abstract memory: S, the old cells that may have changed; rows that a constructor makes -/
def sameRow (M M' : Mem) (a : Nat) : Prop := mI M' a = mI M a ∧ mJ M' a = mJ M a ∧ mR M' a = mR M a ∧ mAI M' a = mAI M a ∧ mAJ M' a = mAJ M a ∧ mAR M' a = mAR M a
theorem sameRow.rf {M : Mem} {a : Nat} : sameRow M M a := ⟨rfl, rfl, rfl, rfl, rfl, rfl⟩
theorem sameRow.tr {M M1 M2 : Mem} {a : Nat} (h : sameRow M M1 a) (k : sameRow M1 M2 a) : sameRow M M2 a := ⟨k.1.trans h.1, k.2.1.trans h.2.1, k.2.2.1.trans h.2.2.1, k.2.2.2.1.trans h.2.2.2.1, k.2.2.2.2.1.trans h.2.2.2.2.1, k.2.2.2.2.2.trans h.2.2.2.2.2⟩
def fr (S : Nat → Prop) (M M' : Mem) : Prop := mE M M' ∧ ∀ a, a < mN M → ¬ S a → sameRow M M' a
theorem fr.rf {S : Nat → Prop} {M : Mem} : fr S M M := ⟨mE.rf, fun _ _ _ => sameRow.rf⟩
theorem fr.tr {S S1 : Nat → Prop} {M M1 M2 : Mem} (h : fr S M M1) (k : fr S1 M1 M2) (hS : ∀ a, a < mN M → S1 a → S a) : fr S M M2 :=
  ⟨h.1.tr k.1, fun a ha hn => (h.2 a ha hn).tr (k.2 a (Nat.lt_of_lt_of_le ha h.1.1) (fun z => hn (hS a ha z)))⟩
theorem fr.more {S S1 : Nat → Prop} {M M1 : Mem} (h : fr S M M1) (hS : ∀ a, a < mN M → S a → S1 a) : fr S1 M M1 := ⟨h.1, fun a ha hn => h.2 a ha (fun z => hn (hS a ha z))⟩
theorem fr_wI {S : Nat → Prop} {M : Mem} {a k : Nat} {v : Int32} (h : S a) : fr S M (wI M a k v) := ⟨mE_wI, fun b _ hn => ⟨up2_row (fun z => hn (z ▸ h)), rfl, rfl, rfl, rfl, rfl⟩⟩
theorem fr_wJ {S : Nat → Prop} {M : Mem} {a k : Nat} {v : Int64} (h : S a) : fr S M (wJ M a k v) := ⟨mE_wJ, fun b _ hn => ⟨rfl, up2_row (fun z => hn (z ▸ h)), rfl, rfl, rfl, rfl⟩⟩
theorem fr_wR {S : Nat → Prop} {M : Mem} {a k : Nat} {v : Option Nat} (h : S a) : fr S M (wR M a k v) := ⟨mE_wR, fun b _ hn => ⟨rfl, rfl, up2_row (fun z => hn (z ▸ h)), rfl, rfl, rfl⟩⟩
theorem fr_wAI {S : Nat → Prop} {M : Mem} {a k : Nat} {v : Int32} (h : S a) : fr S M (wAI M a k v) := ⟨mE_wAI, fun b _ hn => ⟨rfl, rfl, rfl, up2_row (fun z => hn (z ▸ h)), rfl, rfl⟩⟩
theorem fr_wAJ {S : Nat → Prop} {M : Mem} {a k : Nat} {v : Int64} (h : S a) : fr S M (wAJ M a k v) := ⟨mE_wAJ, fun b _ hn => ⟨rfl, rfl, rfl, rfl, up2_row (fun z => hn (z ▸ h)), rfl⟩⟩
theorem fr_wAR {S : Nat → Prop} {M : Mem} {a k : Nat} {v : Option Nat} (h : S a) : fr S M (wAR M a k v) := ⟨mE_wAR, fun b _ hn => ⟨rfl, rfl, rfl, rfl, rfl, up2_row (fun z => hn (z ▸ h))⟩⟩
theorem fr_nwO {S : Nat → Prop} {M : Mem} {ci n : Nat} : fr S M (nwO M ci n) := ⟨mE_nwO, fun b hb _ => ⟨va_up_ne _ _ (Nat.ne_of_lt hb), va_up_ne _ _ (Nat.ne_of_lt hb), va_up_ne _ _ (Nat.ne_of_lt hb), rfl, rfl, rfl⟩⟩
theorem fr_nwA {S : Nat → Prop} {M : Mem} {ci n : Nat} : fr S M (nwA M ci n) := ⟨mE_nwA, fun b hb _ => ⟨rfl, rfl, rfl, va_up_ne _ _ (Nat.ne_of_lt hb), va_up_ne _ _ (Nat.ne_of_lt hb), va_up_ne _ _ (Nat.ne_of_lt hb)⟩⟩
/-- the rows of numbers that object x holds in its fields: the j-th of l = (field, kind, length) is the cell n0 + j, all 0 -/
def rws (M : Mem) (x n0 : Nat) (l : List (Nat × Nat × Nat)) : Prop := ∀ (j : Nat) (e : Nat × Nat × Nat), l[j]? = some e → mR M x e.1 = some (n0 + j) ∧ ok M (n0 + j) e.2.1 ∧ mL M (n0 + j) = e.2.2 ∧ mAI M (n0 + j) = (fun _ => 0) ∧ mAJ M (n0 + j) = (fun _ => 0) ∧ mAR M (n0 + j) = (fun _ => none)
theorem rws_0 {M : Mem} {x n0 : Nat} : rws M x n0 [] := fun j e h => by simp at h
theorem rws_step {M M1 M2 : Mem} {x n0 k kd len q : Nat} {l : List (Nat × Nat × Nat)} (h : rws M x n0 l) (hn : mN M = n0 + l.length) (hk : l.all (fun e => e.1 != k) = true) (hq : q = mN M) (e1 : M1 = nwA M kd len) (e2 : M2 = wR M1 x k (some q)) : rws M2 x n0 (l ++ [(k, kd, len)]) ∧ mN M2 = n0 + (l ++ [(k, kd, len)]).length ∧ mS M2 = mS M + len := by
  subst e2 e1 hq
  refine ⟨fun j e hj => ?_, by show mN M + 1 = _; rw [hn, List.length_append]; rfl, rfl⟩
  by_cases hl : j < l.length
  · rw [List.getElem?_append_left hl] at hj
    obtain ⟨a1, a2, a3, a4, a5, a6⟩ := h j e hj
    have hlt : n0 + j < mN M := by omega
    have hne : n0 + j ≠ mN M := Nat.ne_of_lt hlt
    have hek : e.1 ≠ k := by
      have := List.all_eq_true.mp hk e (List.mem_of_getElem? hj)
      simpa using this
    refine ⟨?_, ok_nwA (n := len) a2, (va_up_ne _ _ hne).trans a3, (va_up_ne _ _ hne).trans a4, (va_up_ne _ _ hne).trans a5, (va_up_ne _ _ hne).trans a6⟩
    show up2 (mR M) x k (some (mN M)) x e.1 = _
    rw [up2_ne (fun z => hek z.2)]
    exact a1
  · have hj2 : j = l.length := by
      have := (List.getElem?_eq_some_iff.mp hj).1
      rw [List.length_append] at this
      simp at this
      omega
    subst hj2
    rw [List.getElem?_append_right (Nat.le_refl _), Nat.sub_self] at hj
    cases hj
    rw [← hn]
    refine ⟨?_, ok_newA (n := len), va_up_self _ _ _, va_up_self _ _ _, va_up_self _ _ _, va_up_self _ _ _⟩
    show up2 (mR M) x k (some (mN M)) x k = _
    rw [up2_eq]
