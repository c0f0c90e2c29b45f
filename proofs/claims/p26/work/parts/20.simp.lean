section
/-! what is read behind a write -/
theorem mN_wI (M : Mem) (a k : Nat) (v : Int32) : mN (wI M a k v) = mN M := rfl
theorem mS_wI (M : Mem) (a k : Nat) (v : Int32) : mS (wI M a k v) = mS M := rfl
theorem mK_wI (M : Mem) (a k : Nat) (v : Int32) : mK (wI M a k v) = mK M := rfl
theorem mI_wI (M : Mem) (a k : Nat) (v : Int32) (b j : Nat) : mI (wI M a k v) b j = if b = a ∧ j = k then v else mI M b j := rfl
theorem mJ_wI (M : Mem) (a k : Nat) (v : Int32) : mJ (wI M a k v) = mJ M := rfl
theorem mR_wI (M : Mem) (a k : Nat) (v : Int32) : mR (wI M a k v) = mR M := rfl
theorem mL_wI (M : Mem) (a k : Nat) (v : Int32) : mL (wI M a k v) = mL M := rfl
theorem mAI_wI (M : Mem) (a k : Nat) (v : Int32) : mAI (wI M a k v) = mAI M := rfl
theorem mAJ_wI (M : Mem) (a k : Nat) (v : Int32) : mAJ (wI M a k v) = mAJ M := rfl
theorem mAR_wI (M : Mem) (a k : Nat) (v : Int32) : mAR (wI M a k v) = mAR M := rfl
theorem mN_wJ (M : Mem) (a k : Nat) (v : Int64) : mN (wJ M a k v) = mN M := rfl
theorem mS_wJ (M : Mem) (a k : Nat) (v : Int64) : mS (wJ M a k v) = mS M := rfl
theorem mK_wJ (M : Mem) (a k : Nat) (v : Int64) : mK (wJ M a k v) = mK M := rfl
theorem mI_wJ (M : Mem) (a k : Nat) (v : Int64) : mI (wJ M a k v) = mI M := rfl
theorem mJ_wJ (M : Mem) (a k : Nat) (v : Int64) (b j : Nat) : mJ (wJ M a k v) b j = if b = a ∧ j = k then v else mJ M b j := rfl
theorem mR_wJ (M : Mem) (a k : Nat) (v : Int64) : mR (wJ M a k v) = mR M := rfl
theorem mL_wJ (M : Mem) (a k : Nat) (v : Int64) : mL (wJ M a k v) = mL M := rfl
theorem mAI_wJ (M : Mem) (a k : Nat) (v : Int64) : mAI (wJ M a k v) = mAI M := rfl
theorem mAJ_wJ (M : Mem) (a k : Nat) (v : Int64) : mAJ (wJ M a k v) = mAJ M := rfl
theorem mAR_wJ (M : Mem) (a k : Nat) (v : Int64) : mAR (wJ M a k v) = mAR M := rfl
theorem mN_wR (M : Mem) (a k : Nat) (v : Option Nat) : mN (wR M a k v) = mN M := rfl
theorem mS_wR (M : Mem) (a k : Nat) (v : Option Nat) : mS (wR M a k v) = mS M := rfl
theorem mK_wR (M : Mem) (a k : Nat) (v : Option Nat) : mK (wR M a k v) = mK M := rfl
theorem mI_wR (M : Mem) (a k : Nat) (v : Option Nat) : mI (wR M a k v) = mI M := rfl
theorem mJ_wR (M : Mem) (a k : Nat) (v : Option Nat) : mJ (wR M a k v) = mJ M := rfl
theorem mR_wR (M : Mem) (a k : Nat) (v : Option Nat) (b j : Nat) : mR (wR M a k v) b j = if b = a ∧ j = k then v else mR M b j := rfl
theorem mL_wR (M : Mem) (a k : Nat) (v : Option Nat) : mL (wR M a k v) = mL M := rfl
theorem mAI_wR (M : Mem) (a k : Nat) (v : Option Nat) : mAI (wR M a k v) = mAI M := rfl
theorem mAJ_wR (M : Mem) (a k : Nat) (v : Option Nat) : mAJ (wR M a k v) = mAJ M := rfl
theorem mAR_wR (M : Mem) (a k : Nat) (v : Option Nat) : mAR (wR M a k v) = mAR M := rfl
theorem mN_wAI (M : Mem) (a k : Nat) (v : Int32) : mN (wAI M a k v) = mN M := rfl
theorem mS_wAI (M : Mem) (a k : Nat) (v : Int32) : mS (wAI M a k v) = mS M := rfl
theorem mK_wAI (M : Mem) (a k : Nat) (v : Int32) : mK (wAI M a k v) = mK M := rfl
theorem mI_wAI (M : Mem) (a k : Nat) (v : Int32) : mI (wAI M a k v) = mI M := rfl
theorem mJ_wAI (M : Mem) (a k : Nat) (v : Int32) : mJ (wAI M a k v) = mJ M := rfl
theorem mR_wAI (M : Mem) (a k : Nat) (v : Int32) : mR (wAI M a k v) = mR M := rfl
theorem mL_wAI (M : Mem) (a k : Nat) (v : Int32) : mL (wAI M a k v) = mL M := rfl
theorem mAI_wAI (M : Mem) (a k : Nat) (v : Int32) (b j : Nat) : mAI (wAI M a k v) b j = if b = a ∧ j = k then v else mAI M b j := rfl
theorem mAJ_wAI (M : Mem) (a k : Nat) (v : Int32) : mAJ (wAI M a k v) = mAJ M := rfl
theorem mAR_wAI (M : Mem) (a k : Nat) (v : Int32) : mAR (wAI M a k v) = mAR M := rfl
theorem mN_wAJ (M : Mem) (a k : Nat) (v : Int64) : mN (wAJ M a k v) = mN M := rfl
theorem mS_wAJ (M : Mem) (a k : Nat) (v : Int64) : mS (wAJ M a k v) = mS M := rfl
theorem mK_wAJ (M : Mem) (a k : Nat) (v : Int64) : mK (wAJ M a k v) = mK M := rfl
theorem mI_wAJ (M : Mem) (a k : Nat) (v : Int64) : mI (wAJ M a k v) = mI M := rfl
theorem mJ_wAJ (M : Mem) (a k : Nat) (v : Int64) : mJ (wAJ M a k v) = mJ M := rfl
theorem mR_wAJ (M : Mem) (a k : Nat) (v : Int64) : mR (wAJ M a k v) = mR M := rfl
theorem mL_wAJ (M : Mem) (a k : Nat) (v : Int64) : mL (wAJ M a k v) = mL M := rfl
theorem mAI_wAJ (M : Mem) (a k : Nat) (v : Int64) : mAI (wAJ M a k v) = mAI M := rfl
theorem mAJ_wAJ (M : Mem) (a k : Nat) (v : Int64) (b j : Nat) : mAJ (wAJ M a k v) b j = if b = a ∧ j = k then v else mAJ M b j := rfl
theorem mAR_wAJ (M : Mem) (a k : Nat) (v : Int64) : mAR (wAJ M a k v) = mAR M := rfl
theorem mN_wAR (M : Mem) (a k : Nat) (v : Option Nat) : mN (wAR M a k v) = mN M := rfl
theorem mS_wAR (M : Mem) (a k : Nat) (v : Option Nat) : mS (wAR M a k v) = mS M := rfl
theorem mK_wAR (M : Mem) (a k : Nat) (v : Option Nat) : mK (wAR M a k v) = mK M := rfl
theorem mI_wAR (M : Mem) (a k : Nat) (v : Option Nat) : mI (wAR M a k v) = mI M := rfl
theorem mJ_wAR (M : Mem) (a k : Nat) (v : Option Nat) : mJ (wAR M a k v) = mJ M := rfl
theorem mR_wAR (M : Mem) (a k : Nat) (v : Option Nat) : mR (wAR M a k v) = mR M := rfl
theorem mL_wAR (M : Mem) (a k : Nat) (v : Option Nat) : mL (wAR M a k v) = mL M := rfl
theorem mAI_wAR (M : Mem) (a k : Nat) (v : Option Nat) : mAI (wAR M a k v) = mAI M := rfl
theorem mAJ_wAR (M : Mem) (a k : Nat) (v : Option Nat) : mAJ (wAR M a k v) = mAJ M := rfl
theorem mAR_wAR (M : Mem) (a k : Nat) (v : Option Nat) (b j : Nat) : mAR (wAR M a k v) b j = if b = a ∧ j = k then v else mAR M b j := rfl
theorem mN_nwO (M : Mem) (ci n : Nat) : mN (nwO M ci n) = mN M + 1 := rfl
theorem mN_nwA (M : Mem) (ci n : Nat) : mN (nwA M ci n) = mN M + 1 := rfl
theorem mN_wCp (M : Mem) (b a sp dp n : Nat) : mN (wCp M b a sp dp n) = mN M := rfl
theorem mS_nwO (M : Mem) (ci n : Nat) : mS (nwO M ci n) = mS M + n := rfl
theorem mS_nwA (M : Mem) (ci n : Nat) : mS (nwA M ci n) = mS M + n := rfl
theorem mS_wCp (M : Mem) (b a sp dp n : Nat) : mS (wCp M b a sp dp n) = mS M := rfl
theorem mK_nwO (M : Mem) (ci n : Nat) : mK (nwO M ci n) = va_up (mK M) (mN M) ci := rfl
theorem mK_nwA (M : Mem) (ci n : Nat) : mK (nwA M ci n) = va_up (mK M) (mN M) ci := rfl
theorem mK_wCp (M : Mem) (b a sp dp n : Nat) : mK (wCp M b a sp dp n) = mK M := rfl
theorem mI_nwO (M : Mem) (ci n : Nat) : mI (nwO M ci n) = va_up (mI M) (mN M) (fun _ => 0) := rfl
theorem mI_nwA (M : Mem) (ci n : Nat) : mI (nwA M ci n) = mI M := rfl
theorem mI_wCp (M : Mem) (b a sp dp n : Nat) : mI (wCp M b a sp dp n) = mI M := rfl
theorem mJ_nwO (M : Mem) (ci n : Nat) : mJ (nwO M ci n) = va_up (mJ M) (mN M) (fun _ => 0) := rfl
theorem mJ_nwA (M : Mem) (ci n : Nat) : mJ (nwA M ci n) = mJ M := rfl
theorem mJ_wCp (M : Mem) (b a sp dp n : Nat) : mJ (wCp M b a sp dp n) = mJ M := rfl
theorem mR_nwO (M : Mem) (ci n : Nat) : mR (nwO M ci n) = va_up (mR M) (mN M) (fun _ => none) := rfl
theorem mR_nwA (M : Mem) (ci n : Nat) : mR (nwA M ci n) = mR M := rfl
theorem mR_wCp (M : Mem) (b a sp dp n : Nat) : mR (wCp M b a sp dp n) = mR M := rfl
theorem mL_nwO (M : Mem) (ci n : Nat) : mL (nwO M ci n) = mL M := rfl
theorem mL_nwA (M : Mem) (ci n : Nat) : mL (nwA M ci n) = va_up (mL M) (mN M) n := rfl
theorem mL_wCp (M : Mem) (b a sp dp n : Nat) : mL (wCp M b a sp dp n) = mL M := rfl
theorem mAI_nwO (M : Mem) (ci n : Nat) : mAI (nwO M ci n) = mAI M := rfl
theorem mAI_nwA (M : Mem) (ci n : Nat) : mAI (nwA M ci n) = va_up (mAI M) (mN M) (fun _ => 0) := rfl
theorem mAI_wCp (M : Mem) (b a sp dp n : Nat) : mAI (wCp M b a sp dp n) = va_up (mAI M) a (va_cpy (mAI M b) (mAI M a) sp dp n) := rfl
theorem mAJ_nwO (M : Mem) (ci n : Nat) : mAJ (nwO M ci n) = mAJ M := rfl
theorem mAJ_nwA (M : Mem) (ci n : Nat) : mAJ (nwA M ci n) = va_up (mAJ M) (mN M) (fun _ => 0) := rfl
theorem mAJ_wCp (M : Mem) (b a sp dp n : Nat) : mAJ (wCp M b a sp dp n) = mAJ M := rfl
theorem mAR_nwO (M : Mem) (ci n : Nat) : mAR (nwO M ci n) = mAR M := rfl
theorem mAR_nwA (M : Mem) (ci n : Nat) : mAR (nwA M ci n) = va_up (mAR M) (mN M) (fun _ => none) := rfl
theorem mAR_wCp (M : Mem) (b a sp dp n : Nat) : mAR (wCp M b a sp dp n) = mAR M := rfl
theorem ok_wI {M : Mem} {a k b c : Nat} {v : Int32} : ok (wI M a k v) b c = ok M b c := rfl
theorem ok_wJ {M : Mem} {a k b c : Nat} {v : Int64} : ok (wJ M a k v) b c = ok M b c := rfl
theorem ok_wR {M : Mem} {a k b c : Nat} {v : Option Nat} : ok (wR M a k v) b c = ok M b c := rfl
theorem ok_wAI {M : Mem} {a k b c : Nat} {v : Int32} : ok (wAI M a k v) b c = ok M b c := rfl
theorem ok_wAJ {M : Mem} {a k b c : Nat} {v : Int64} : ok (wAJ M a k v) b c = ok M b c := rfl
theorem ok_wAR {M : Mem} {a k b c : Nat} {v : Option Nat} : ok (wAR M a k v) b c = ok M b c := rfl
theorem ok_newO {M : Mem} {ci n : Nat} : ok (nwO M ci n) (mN M) ci := ⟨Nat.lt_succ_self _, va_up_self _ _ _⟩
theorem ok_newA {M : Mem} {ci n : Nat} : ok (nwA M ci n) (mN M) ci := ⟨Nat.lt_succ_self _, va_up_self _ _ _⟩
end
section
/-! frames over the abstract memory: S, the old cells that may have changed; rows that a constructor makes -/
def sameRow (M M' : Mem) (a : Nat) : Prop := mI M' a = mI M a ∧ mJ M' a = mJ M a ∧ mR M' a = mR M a ∧ mAI M' a = mAI M a ∧ mAJ M' a = mAJ M a ∧ mAR M' a = mAR M a
theorem sameRow.rf {M : Mem} {a : Nat} : sameRow M M a := ⟨rfl, rfl, rfl, rfl, rfl, rfl⟩
theorem sameRow.tr {M M1 M2 : Mem} {a : Nat} (h : sameRow M M1 a) (k : sameRow M1 M2 a) : sameRow M M2 a := ⟨k.1.trans h.1, k.2.1.trans h.2.1, k.2.2.1.trans h.2.2.1, k.2.2.2.1.trans h.2.2.2.1, k.2.2.2.2.1.trans h.2.2.2.2.1, k.2.2.2.2.2.trans h.2.2.2.2.2⟩
def fr (S : Nat → Prop) (M M' : Mem) : Prop := mE M M' ∧ ∀ a, a < mN M → ¬ S a → sameRow M M' a
theorem fr.rf {S : Nat → Prop} {M : Mem} : fr S M M := ⟨mE.rf, fun _ _ _ => sameRow.rf⟩
theorem fr.tr {S S1 : Nat → Prop} {M M1 M2 : Mem} (h : fr S M M1) (k : fr S1 M1 M2) (hS : ∀ a, a < mN M → S1 a → S a) : fr S M M2 :=
  ⟨h.1.tr k.1, fun a ha hn => (h.2 a ha hn).tr (k.2 a (Nat.lt_of_lt_of_le ha h.1.1) (fun z => hn (hS a ha z)))⟩
theorem fr.more {S S1 : Nat → Prop} {M M1 : Mem} (h : fr S M M1) (hS : ∀ a, a < mN M → S a → S1 a) : fr S1 M M1 := ⟨h.1, fun a ha hn => h.2 a ha (fun z => hn (hS a ha z))⟩
theorem fr_wI {S : Nat → Prop} {M : Mem} {a k : Nat} {v : Int32} (h : S a) : fr S M (wI M a k v) := ⟨mE_wI, fun b _ hn => ⟨up2_row (fun z => hn (z ▸ h)), rfl, rfl, rfl, rfl, rfl⟩⟩
theorem fr_wJ {S : Nat → Prop} {M : Mem} {a k : Nat} {v : Int64} (h : S a) : fr S M (wJ M a k v) := ⟨mE_wJ, fun b _ hn => ⟨rfl, up2_row (fun z => hn (z ▸ h)), rfl, rfl, rfl, rfl⟩⟩
theorem fr_wR {S : Nat → Prop} {M : Mem} {a k : Nat} {v : Option Nat} (h : S a) : fr S M (wR M a k v) := ⟨mE_wR, fun b _ hn => ⟨rfl, rfl, up2_row (fun z => hn (z ▸ h)), rfl, rfl, rfl⟩⟩
theorem fr_wAI {S : Nat → Prop} {M : Mem} {a k : Nat} {v : Int32} (h : S a) : fr S M (wAI M a k v) := ⟨mE_wAI, fun b _ hn => ⟨rfl, rfl, rfl, up2_row (fun z => hn (z ▸ h)), rfl, rfl⟩⟩
theorem fr_wAJ {S : Nat → Prop} {M : Mem} {a k : Nat} {v : Int64} (h : S a) : fr S M (wAJ M a k v) := ⟨mE_wAJ, fun b _ hn => ⟨rfl, rfl, rfl, rfl, up2_row (fun z => hn (z ▸ h)), rfl⟩⟩
theorem fr_wAR {S : Nat → Prop} {M : Mem} {a k : Nat} {v : Option Nat} (h : S a) : fr S M (wAR M a k v) := ⟨mE_wAR, fun b _ hn => ⟨rfl, rfl, rfl, rfl, rfl, up2_row (fun z => hn (z ▸ h))⟩⟩
theorem fr_nwO {S : Nat → Prop} {M : Mem} {ci n : Nat} : fr S M (nwO M ci n) := ⟨mE_nwO, fun b hb _ => ⟨va_up_ne _ _ (Nat.ne_of_lt hb), va_up_ne _ _ (Nat.ne_of_lt hb), va_up_ne _ _ (Nat.ne_of_lt hb), rfl, rfl, rfl⟩⟩
theorem fr_nwA {S : Nat → Prop} {M : Mem} {ci n : Nat} : fr S M (nwA M ci n) := ⟨mE_nwA, fun b hb _ => ⟨rfl, rfl, rfl, va_up_ne _ _ (Nat.ne_of_lt hb), va_up_ne _ _ (Nat.ne_of_lt hb), va_up_ne _ _ (Nat.ne_of_lt hb)⟩⟩
/-- the rows of numbers that object x holds in its fields: the j-th of l = (field, kind, length) is the cell n0 + j, all 0 -/
def rws (M : Mem) (x n0 : Nat) (l : List (Nat × Nat × Nat)) : Prop := ∀ (j : Nat) (e : Nat × Nat × Nat), l[j]? = some e → mR M x e.1 = some (n0 + j) ∧ ok M (n0 + j) e.2.1 ∧ mL M (n0 + j) = e.2.2 ∧ mAI M (n0 + j) = (fun _ => 0) ∧ mAJ M (n0 + j) = (fun _ => 0) ∧ mAR M (n0 + j) = (fun _ => none)
theorem rws_0 {M : Mem} {x n0 : Nat} : rws M x n0 [] := fun j e h => by simp at h
theorem rws_step {M M1 M2 : Mem} {x n0 k kd len q : Nat} {l : List (Nat × Nat × Nat)} (h : rws M x n0 l) (hn : mN M = n0 + l.length) (hk : l.all (fun e => e.1 != k) = true) (hq : q = mN M) (e1 : M1 = nwA M kd len) (e2 : M2 = wR M1 x k (some q)) : rws M2 x n0 (l ++ [(k, kd, len)]) ∧ mN M2 = n0 + (l ++ [(k, kd, len)]).length ∧ mS M2 = mS M + len := by
  subst e2 e1 hq
  refine ⟨fun j e hj => ?_, by show mN M + 1 = _; rw [hn, List.length_append]; rfl, rfl⟩
  by_cases hl : j < l.length
  · rw [List.getElem?_append_left hl] at hj
    obtain ⟨a1, a2, a3, a4, a5, a6⟩ := h j e hj
    have hlt : n0 + j < mN M := by omega
    have hne : n0 + j ≠ mN M := Nat.ne_of_lt hlt
    have hek : e.1 ≠ k := by
      have := List.all_eq_true.mp hk e (List.mem_of_getElem? hj)
      simpa using this
    refine ⟨?_, ok_nwA (n := len) a2, (va_up_ne _ _ hne).trans a3, (va_up_ne _ _ hne).trans a4, (va_up_ne _ _ hne).trans a5, (va_up_ne _ _ hne).trans a6⟩
    show up2 (mR M) x k (some (mN M)) x e.1 = _
    rw [up2_ne (fun z => hek z.2)]
    exact a1
  · have hj2 : j = l.length := by
      have := (List.getElem?_eq_some_iff.mp hj).1
      rw [List.length_append] at this
      simp at this
      omega
    subst hj2
    rw [List.getElem?_append_right (Nat.le_refl _), Nat.sub_self] at hj
    cases hj
    rw [← hn]
    refine ⟨?_, ok_newA (n := len), va_up_self _ _ _, va_up_self _ _ _, va_up_self _ _ _, va_up_self _ _ _⟩
    show up2 (mR M) x k (some (mN M)) x k = _
    rw [up2_eq]
end
section
/-! constructors: Tree, Weaver -/
def lTree : List (Nat × Nat × Nat) := [(0, 21, 640), (1, 21, 640), (2, 21, 640), (3, 21, 640), (4, 21, 640), (5, 21, 640), (6, 21, 640), (7, 21, 640), (8, 21, 640)]
theorem e640 : (640 : Int32).toNatClampNeg = 640 := by decide
theorem S_treeInit {h x0 : Nat} {M : Mem} (hx : ok M x0 10) : E (h + 1) mdX8_init [.ref x0] M (fun r M' => r = none ∧ rws M' x0 (mN M) lTree ∧ mN M' = mN M + 9 ∧ mS M' = mS M + 5760 ∧ fr (fun c => c = x0) M M' ∧ mI M' x0 = mI M x0) := by
  refine KX8_init ?_
  unfold DX8_init_0
  rw [e640]
  have hS : (fun c => c = x0) x0 := rfl
  refine ⟨by decide, by decide, fun q2 M1 hq2 hM1 => ⟨by rw [hM1]; exact ok_nwA hx, fun M4 hM4 => ?_⟩⟩
  obtain ⟨r1, n1, s1⟩ := rws_step (rws_0 (M := M) (x := x0) (n0 := mN M)) rfl rfl hq2 hM1 hM4
  have f1 : fr (fun c => c = x0) M M4 := (by rw [hM4, hM1]; exact fr_nwA.tr (fr_wR (S := fun c => c = x0) rfl) (fun _ _ z => z))
  have i1 : mI M4 x0 = mI M x0 := by rw [hM4, hM1]; rfl
  refine ⟨by decide, by decide, fun q6 M5 hq6 hM5 M7 hM7 => ?_⟩
  obtain ⟨r2, n2, s2⟩ := rws_step r1 n1 rfl hq6 hM5 hM7
  have f2 : fr (fun c => c = x0) M M7 := f1.tr (by rw [hM7, hM5]; exact fr_nwA.tr (fr_wR (S := fun c => c = x0) rfl) (fun _ _ z => z)) (fun _ _ z => z)
  have i2 : mI M7 x0 = mI M x0 := by rw [hM7, hM5]; exact i1
  refine ⟨by decide, by decide, fun q9 M8 hq9 hM8 M10 hM10 => ?_⟩
  obtain ⟨r3, n3, s3⟩ := rws_step r2 n2 rfl hq9 hM8 hM10
  have f3 : fr (fun c => c = x0) M M10 := f2.tr (by rw [hM10, hM8]; exact fr_nwA.tr (fr_wR (S := fun c => c = x0) rfl) (fun _ _ z => z)) (fun _ _ z => z)
  have i3 : mI M10 x0 = mI M x0 := by rw [hM10, hM8]; exact i2
  refine ⟨by decide, by decide, fun q12 M11 hq12 hM11 M13 hM13 => ?_⟩
  obtain ⟨r4, n4, s4⟩ := rws_step r3 n3 rfl hq12 hM11 hM13
  have f4 : fr (fun c => c = x0) M M13 := f3.tr (by rw [hM13, hM11]; exact fr_nwA.tr (fr_wR (S := fun c => c = x0) rfl) (fun _ _ z => z)) (fun _ _ z => z)
  have i4 : mI M13 x0 = mI M x0 := by rw [hM13, hM11]; exact i3
  refine ⟨by decide, by decide, fun q15 M14 hq15 hM14 M16 hM16 => ?_⟩
  obtain ⟨r5, n5, s5⟩ := rws_step r4 n4 rfl hq15 hM14 hM16
  have f5 : fr (fun c => c = x0) M M16 := f4.tr (by rw [hM16, hM14]; exact fr_nwA.tr (fr_wR (S := fun c => c = x0) rfl) (fun _ _ z => z)) (fun _ _ z => z)
  have i5 : mI M16 x0 = mI M x0 := by rw [hM16, hM14]; exact i4
  refine ⟨by decide, by decide, fun q18 M17 hq18 hM17 M19 hM19 => ?_⟩
  obtain ⟨r6, n6, s6⟩ := rws_step r5 n5 rfl hq18 hM17 hM19
  have f6 : fr (fun c => c = x0) M M19 := f5.tr (by rw [hM19, hM17]; exact fr_nwA.tr (fr_wR (S := fun c => c = x0) rfl) (fun _ _ z => z)) (fun _ _ z => z)
  have i6 : mI M19 x0 = mI M x0 := by rw [hM19, hM17]; exact i5
  refine ⟨by decide, by decide, fun q21 M20 hq21 hM20 M22 hM22 => ?_⟩
  obtain ⟨r7, n7, s7⟩ := rws_step r6 n6 rfl hq21 hM20 hM22
  have f7 : fr (fun c => c = x0) M M22 := f6.tr (by rw [hM22, hM20]; exact fr_nwA.tr (fr_wR (S := fun c => c = x0) rfl) (fun _ _ z => z)) (fun _ _ z => z)
  have i7 : mI M22 x0 = mI M x0 := by rw [hM22, hM20]; exact i6
  refine ⟨by decide, by decide, fun q24 M23 hq24 hM23 M25 hM25 => ?_⟩
  obtain ⟨r8, n8, s8⟩ := rws_step r7 n7 rfl hq24 hM23 hM25
  have f8 : fr (fun c => c = x0) M M25 := f7.tr (by rw [hM25, hM23]; exact fr_nwA.tr (fr_wR (S := fun c => c = x0) rfl) (fun _ _ z => z)) (fun _ _ z => z)
  have i8 : mI M25 x0 = mI M x0 := by rw [hM25, hM23]; exact i7
  refine ⟨by decide, by decide, fun q27 M26 hq27 hM26 M28 hM28 => ?_⟩
  obtain ⟨r9, n9, s9⟩ := rws_step r8 n8 rfl hq27 hM26 hM28
  have f9 : fr (fun c => c = x0) M M28 := f8.tr (by rw [hM28, hM26]; exact fr_nwA.tr (fr_wR (S := fun c => c = x0) rfl) (fun _ _ z => z)) (fun _ _ z => z)
  have i9 : mI M28 x0 = mI M x0 := by rw [hM28, hM26]; exact i8
  exact ⟨rfl, r9, n9, by omega, f9, i9⟩
end
section
/-! constructors of rows: Model, Sums -/
theorem e4 : (4 : Int32).toNatClampNeg = 4 := by decide
theorem e6 : (6 : Int32).toNatClampNeg = 6 := by decide
theorem e8 : (8 : Int32).toNatClampNeg = 8 := by decide
theorem e16 : (16 : Int32).toNatClampNeg = 16 := by decide
theorem e17 : (17 : Int32).toNatClampNeg = 17 := by decide
theorem e24 : (24 : Int32).toNatClampNeg = 24 := by decide
theorem e32 : (32 : Int32).toNatClampNeg = 32 := by decide
theorem e40 : (40 : Int32).toNatClampNeg = 40 := by decide
theorem e48 : (48 : Int32).toNatClampNeg = 48 := by decide
theorem e64 : (64 : Int32).toNatClampNeg = 64 := by decide
theorem e100 : (100 : Int32).toNatClampNeg = 100 := by decide
theorem e160 : (160 : Int32).toNatClampNeg = 160 := by decide
theorem e192 : (192 : Int32).toNatClampNeg = 192 := by decide
theorem e512 : (512 : Int32).toNatClampNeg = 512 := by decide
theorem e700 : (700 : Int32).toNatClampNeg = 700 := by decide
theorem e800 : (800 : Int32).toNatClampNeg = 800 := by decide
theorem e802 : (802 : Int32).toNatClampNeg = 802 := by decide
theorem e900 : (900 : Int32).toNatClampNeg = 900 := by decide
theorem e1600 : (1600 : Int32).toNatClampNeg = 1600 := by decide
theorem e1640 : (1640 : Int32).toNatClampNeg = 1640 := by decide
theorem e2800 : (2800 : Int32).toNatClampNeg = 2800 := by decide
theorem e3240 : (3240 : Int32).toNatClampNeg = 3240 := by decide
theorem e5600 : (5600 : Int32).toNatClampNeg = 5600 := by decide
theorem e6144 : (6144 : Int32).toNatClampNeg = 6144 := by decide
theorem e16800 : (16800 : Int32).toNatClampNeg = 16800 := by decide
theorem iset {M : Mem} {a k : Nat} {v : Int32} {g : Nat → Int32} (h : mI M a = g) : mI (wI M a k v) a = (fun j => if j = k then v else g j) := by
  funext j
  show (if a = a ∧ j = k then v else mI M a j) = _
  rw [h]; simp
def lModel : List (Nat × Nat × Nat) := [(0, 21, 800), (2, 21, 802), (3, 21, 802), (4, 23, 802), (8, 21, 4), (9, 21, 4), (10, 21, 4), (11, 23, 64), (12, 21, 64), (13, 21, 64), (14, 22, 64), (15, 21, 16), (16, 23, 24), (17, 23, 24), (20, 21, 4), (21, 21, 1640), (22, 21, 1640), (23, 21, 1640), (24, 21, 4), (25, 21, 3240), (26, 23, 3240), (27, 21, 3240), (28, 21, 900), (30, 21, 900), (34, 21, 4), (35, 21, 4), (36, 21, 4), (37, 21, 4), (38, 21, 160), (39, 21, 160), (40, 21, 160), (41, 22, 160), (42, 21, 160), (43, 21, 160), (44, 21, 160), (45, 21, 160), (46, 21, 160), (47, 21, 160), (48, 21, 160), (49, 21, 160), (50, 21, 160), (51, 21, 160), (52, 23, 160), (54, 21, 100), (55, 21, 100), (56, 21, 100), (57, 21, 17), (58, 21, 17), (59, 21, 17), (61, 21, 4), (62, 21, 2800), (63, 21, 2800), (64, 21, 2800), (65, 21, 2800), (66, 21, 2800), (67, 21, 2800), (68, 21, 2800), (69, 21, 2800), (70, 21, 2800), (71, 21, 2800), (72, 21, 160), (73, 21, 4), (74, 21, 4), (75, 21, 5600), (76, 21, 4), (77, 21, 700), (78, 21, 700), (79, 21, 700), (80, 21, 700), (81, 21, 16800), (82, 21, 16), (90, 21, 1640), (92, 21, 8), (93, 22, 32), (94, 22, 32), (95, 21, 32), (96, 21, 32), (97, 23, 512), (98, 23, 192), (99, 21, 32), (100, 21, 8), (101, 21, 8), (102, 23, 32), (103, 21, 8), (104, 21, 8), (105, 21, 8), (106, 21, 8), (107, 21, 1600), (108, 23, 3240), (109, 23, 16), (110, 23, 6), (112, 21, 40), (114, 21, 4), (115, 21, 4), (116, 21, 192), (117, 21, 192), (118, 21, 192), (119, 21, 192), (120, 21, 192), (121, 21, 6144), (122, 21, 6144), (125, 21, 48)]
set_option maxRecDepth 20000 in
set_option maxHeartbeats 4000000 in
theorem S_modelInit {h x0 : Nat} {M : Mem} (hx : ok M x0 13) : E (h + 1) mdX11_init [.ref x0] M (fun r M' => r = none ∧ rws M' x0 (mN M) lModel ∧ mN M' = mN M + 102 ∧ mS M' = mS M + 96943 ∧ fr (fun c => c = x0) M M' ∧ mI M' x0 = (fun j => if j = 124 then (-1 : Int32) else ((fun j => if j = 123 then (-1 : Int32) else (mI M x0) j)) j) ∧ mJ M' x0 = mJ M x0) := by
  refine KX11_init ?_
  unfold DX11_init_0
  simp only [e4, e6, e8, e16, e17, e24, e32, e40, e48, e64, e100, e160, e192, e512, e700, e800, e802, e900, e1600, e1640, e2800, e3240, e5600, e6144, e16800]
  refine ⟨by decide, by decide, fun q1 A1 hq1 hA1 => ?_⟩
  refine ⟨by rw [hA1]; exact ok_nwA hx, ?_⟩
  intro B2 hB2
  obtain ⟨r1, n1, s1⟩ := rws_step (rws_0 (M := M) (x := x0) (n0 := mN M)) rfl rfl hq1 hA1 hB2
  have f1 : fr (fun c => c = x0) M B2 := (by rw [hB2, hA1]; exact fr_nwA.tr (fr_wR (S := fun c => c = x0) rfl) (fun _ _ z => z))
  have i1 : mI B2 x0 = mI M x0 ∧ mJ B2 x0 = mJ M x0 := by rw [hB2, hA1]; exact ⟨rfl, rfl⟩
  refine ⟨by decide, by decide, fun q3 A3 hq3 hA3 => ?_⟩
  intro B4 hB4
  obtain ⟨r2, n2, s2⟩ := rws_step r1 n1 rfl hq3 hA3 hB4
  have f2 : fr (fun c => c = x0) M B4 := f1.tr (by rw [hB4, hA3]; exact fr_nwA.tr (fr_wR (S := fun c => c = x0) rfl) (fun _ _ z => z)) (fun _ _ z => z)
  have i2 : mI B4 x0 = mI M x0 ∧ mJ B4 x0 = mJ M x0 := by rw [hB4, hA3]; exact i1
  refine ⟨by decide, by decide, fun q5 A5 hq5 hA5 => ?_⟩
  intro B6 hB6
  obtain ⟨r3, n3, s3⟩ := rws_step r2 n2 rfl hq5 hA5 hB6
  have f3 : fr (fun c => c = x0) M B6 := f2.tr (by rw [hB6, hA5]; exact fr_nwA.tr (fr_wR (S := fun c => c = x0) rfl) (fun _ _ z => z)) (fun _ _ z => z)
  have i3 : mI B6 x0 = mI M x0 ∧ mJ B6 x0 = mJ M x0 := by rw [hB6, hA5]; exact i2
  refine ⟨by decide, by decide, fun q7 A7 hq7 hA7 => ?_⟩
  intro B8 hB8
  obtain ⟨r4, n4, s4⟩ := rws_step r3 n3 rfl hq7 hA7 hB8
  have f4 : fr (fun c => c = x0) M B8 := f3.tr (by rw [hB8, hA7]; exact fr_nwA.tr (fr_wR (S := fun c => c = x0) rfl) (fun _ _ z => z)) (fun _ _ z => z)
  have i4 : mI B8 x0 = mI M x0 ∧ mJ B8 x0 = mJ M x0 := by rw [hB8, hA7]; exact i3
  refine ⟨by decide, by decide, fun q9 A9 hq9 hA9 => ?_⟩
  intro B10 hB10
  obtain ⟨r5, n5, s5⟩ := rws_step r4 n4 rfl hq9 hA9 hB10
  have f5 : fr (fun c => c = x0) M B10 := f4.tr (by rw [hB10, hA9]; exact fr_nwA.tr (fr_wR (S := fun c => c = x0) rfl) (fun _ _ z => z)) (fun _ _ z => z)
  have i5 : mI B10 x0 = mI M x0 ∧ mJ B10 x0 = mJ M x0 := by rw [hB10, hA9]; exact i4
  refine ⟨by decide, by decide, fun q11 A11 hq11 hA11 => ?_⟩
  intro B12 hB12
  obtain ⟨r6, n6, s6⟩ := rws_step r5 n5 rfl hq11 hA11 hB12
  have f6 : fr (fun c => c = x0) M B12 := f5.tr (by rw [hB12, hA11]; exact fr_nwA.tr (fr_wR (S := fun c => c = x0) rfl) (fun _ _ z => z)) (fun _ _ z => z)
  have i6 : mI B12 x0 = mI M x0 ∧ mJ B12 x0 = mJ M x0 := by rw [hB12, hA11]; exact i5
  refine ⟨by decide, by decide, fun q13 A13 hq13 hA13 => ?_⟩
  intro B14 hB14
  obtain ⟨r7, n7, s7⟩ := rws_step r6 n6 rfl hq13 hA13 hB14
  have f7 : fr (fun c => c = x0) M B14 := f6.tr (by rw [hB14, hA13]; exact fr_nwA.tr (fr_wR (S := fun c => c = x0) rfl) (fun _ _ z => z)) (fun _ _ z => z)
  have i7 : mI B14 x0 = mI M x0 ∧ mJ B14 x0 = mJ M x0 := by rw [hB14, hA13]; exact i6
  refine ⟨by decide, by decide, fun q15 A15 hq15 hA15 => ?_⟩
  intro B16 hB16
  obtain ⟨r8, n8, s8⟩ := rws_step r7 n7 rfl hq15 hA15 hB16
  have f8 : fr (fun c => c = x0) M B16 := f7.tr (by rw [hB16, hA15]; exact fr_nwA.tr (fr_wR (S := fun c => c = x0) rfl) (fun _ _ z => z)) (fun _ _ z => z)
  have i8 : mI B16 x0 = mI M x0 ∧ mJ B16 x0 = mJ M x0 := by rw [hB16, hA15]; exact i7
  refine ⟨by decide, by decide, fun q17 A17 hq17 hA17 => ?_⟩
  intro B18 hB18
  obtain ⟨r9, n9, s9⟩ := rws_step r8 n8 rfl hq17 hA17 hB18
  have f9 : fr (fun c => c = x0) M B18 := f8.tr (by rw [hB18, hA17]; exact fr_nwA.tr (fr_wR (S := fun c => c = x0) rfl) (fun _ _ z => z)) (fun _ _ z => z)
  have i9 : mI B18 x0 = mI M x0 ∧ mJ B18 x0 = mJ M x0 := by rw [hB18, hA17]; exact i8
  refine ⟨by decide, by decide, fun q19 A19 hq19 hA19 => ?_⟩
  intro B20 hB20
  obtain ⟨r10, n10, s10⟩ := rws_step r9 n9 rfl hq19 hA19 hB20
  have f10 : fr (fun c => c = x0) M B20 := f9.tr (by rw [hB20, hA19]; exact fr_nwA.tr (fr_wR (S := fun c => c = x0) rfl) (fun _ _ z => z)) (fun _ _ z => z)
  have i10 : mI B20 x0 = mI M x0 ∧ mJ B20 x0 = mJ M x0 := by rw [hB20, hA19]; exact i9
  unfold DX11_init_85
  simp only [e4, e6, e8, e16, e17, e24, e32, e40, e48, e64, e100, e160, e192, e512, e700, e800, e802, e900, e1600, e1640, e2800, e3240, e5600, e6144, e16800]
  refine ⟨by decide, by decide, fun q21 A21 hq21 hA21 => ?_⟩
  refine ⟨by rw [hA21]; exact ok_nwA (ok_E hx f10.1), ?_⟩
  intro B22 hB22
  obtain ⟨r11, n11, s11⟩ := rws_step r10 n10 rfl hq21 hA21 hB22
  have f11 : fr (fun c => c = x0) M B22 := f10.tr (by rw [hB22, hA21]; exact fr_nwA.tr (fr_wR (S := fun c => c = x0) rfl) (fun _ _ z => z)) (fun _ _ z => z)
  have i11 : mI B22 x0 = mI M x0 ∧ mJ B22 x0 = mJ M x0 := by rw [hB22, hA21]; exact i10
  refine ⟨by decide, by decide, fun q23 A23 hq23 hA23 => ?_⟩
  intro B24 hB24
  obtain ⟨r12, n12, s12⟩ := rws_step r11 n11 rfl hq23 hA23 hB24
  have f12 : fr (fun c => c = x0) M B24 := f11.tr (by rw [hB24, hA23]; exact fr_nwA.tr (fr_wR (S := fun c => c = x0) rfl) (fun _ _ z => z)) (fun _ _ z => z)
  have i12 : mI B24 x0 = mI M x0 ∧ mJ B24 x0 = mJ M x0 := by rw [hB24, hA23]; exact i11
  refine ⟨by decide, by decide, fun q25 A25 hq25 hA25 => ?_⟩
  intro B26 hB26
  obtain ⟨r13, n13, s13⟩ := rws_step r12 n12 rfl hq25 hA25 hB26
  have f13 : fr (fun c => c = x0) M B26 := f12.tr (by rw [hB26, hA25]; exact fr_nwA.tr (fr_wR (S := fun c => c = x0) rfl) (fun _ _ z => z)) (fun _ _ z => z)
  have i13 : mI B26 x0 = mI M x0 ∧ mJ B26 x0 = mJ M x0 := by rw [hB26, hA25]; exact i12
  refine ⟨by decide, by decide, fun q27 A27 hq27 hA27 => ?_⟩
  intro B28 hB28
  obtain ⟨r14, n14, s14⟩ := rws_step r13 n13 rfl hq27 hA27 hB28
  have f14 : fr (fun c => c = x0) M B28 := f13.tr (by rw [hB28, hA27]; exact fr_nwA.tr (fr_wR (S := fun c => c = x0) rfl) (fun _ _ z => z)) (fun _ _ z => z)
  have i14 : mI B28 x0 = mI M x0 ∧ mJ B28 x0 = mJ M x0 := by rw [hB28, hA27]; exact i13
  refine ⟨by decide, by decide, fun q29 A29 hq29 hA29 => ?_⟩
  intro B30 hB30
  obtain ⟨r15, n15, s15⟩ := rws_step r14 n14 rfl hq29 hA29 hB30
  have f15 : fr (fun c => c = x0) M B30 := f14.tr (by rw [hB30, hA29]; exact fr_nwA.tr (fr_wR (S := fun c => c = x0) rfl) (fun _ _ z => z)) (fun _ _ z => z)
  have i15 : mI B30 x0 = mI M x0 ∧ mJ B30 x0 = mJ M x0 := by rw [hB30, hA29]; exact i14
  refine ⟨by decide, by decide, fun q31 A31 hq31 hA31 => ?_⟩
  intro B32 hB32
  obtain ⟨r16, n16, s16⟩ := rws_step r15 n15 rfl hq31 hA31 hB32
  have f16 : fr (fun c => c = x0) M B32 := f15.tr (by rw [hB32, hA31]; exact fr_nwA.tr (fr_wR (S := fun c => c = x0) rfl) (fun _ _ z => z)) (fun _ _ z => z)
  have i16 : mI B32 x0 = mI M x0 ∧ mJ B32 x0 = mJ M x0 := by rw [hB32, hA31]; exact i15
  refine ⟨by decide, by decide, fun q33 A33 hq33 hA33 => ?_⟩
  intro B34 hB34
  obtain ⟨r17, n17, s17⟩ := rws_step r16 n16 rfl hq33 hA33 hB34
  have f17 : fr (fun c => c = x0) M B34 := f16.tr (by rw [hB34, hA33]; exact fr_nwA.tr (fr_wR (S := fun c => c = x0) rfl) (fun _ _ z => z)) (fun _ _ z => z)
  have i17 : mI B34 x0 = mI M x0 ∧ mJ B34 x0 = mJ M x0 := by rw [hB34, hA33]; exact i16
  refine ⟨by decide, by decide, fun q35 A35 hq35 hA35 => ?_⟩
  intro B36 hB36
  obtain ⟨r18, n18, s18⟩ := rws_step r17 n17 rfl hq35 hA35 hB36
  have f18 : fr (fun c => c = x0) M B36 := f17.tr (by rw [hB36, hA35]; exact fr_nwA.tr (fr_wR (S := fun c => c = x0) rfl) (fun _ _ z => z)) (fun _ _ z => z)
  have i18 : mI B36 x0 = mI M x0 ∧ mJ B36 x0 = mJ M x0 := by rw [hB36, hA35]; exact i17
  refine ⟨by decide, by decide, fun q37 A37 hq37 hA37 => ?_⟩
  intro B38 hB38
  obtain ⟨r19, n19, s19⟩ := rws_step r18 n18 rfl hq37 hA37 hB38
  have f19 : fr (fun c => c = x0) M B38 := f18.tr (by rw [hB38, hA37]; exact fr_nwA.tr (fr_wR (S := fun c => c = x0) rfl) (fun _ _ z => z)) (fun _ _ z => z)
  have i19 : mI B38 x0 = mI M x0 ∧ mJ B38 x0 = mJ M x0 := by rw [hB38, hA37]; exact i18
  refine ⟨by decide, by decide, fun q39 A39 hq39 hA39 => ?_⟩
  intro B40 hB40
  obtain ⟨r20, n20, s20⟩ := rws_step r19 n19 rfl hq39 hA39 hB40
  have f20 : fr (fun c => c = x0) M B40 := f19.tr (by rw [hB40, hA39]; exact fr_nwA.tr (fr_wR (S := fun c => c = x0) rfl) (fun _ _ z => z)) (fun _ _ z => z)
  have i20 : mI B40 x0 = mI M x0 ∧ mJ B40 x0 = mJ M x0 := by rw [hB40, hA39]; exact i19
  unfold DX11_init_167
  simp only [e4, e6, e8, e16, e17, e24, e32, e40, e48, e64, e100, e160, e192, e512, e700, e800, e802, e900, e1600, e1640, e2800, e3240, e5600, e6144, e16800]
  refine ⟨by decide, by decide, fun q41 A41 hq41 hA41 => ?_⟩
  refine ⟨by rw [hA41]; exact ok_nwA (ok_E hx f20.1), ?_⟩
  intro B42 hB42
  obtain ⟨r21, n21, s21⟩ := rws_step r20 n20 rfl hq41 hA41 hB42
  have f21 : fr (fun c => c = x0) M B42 := f20.tr (by rw [hB42, hA41]; exact fr_nwA.tr (fr_wR (S := fun c => c = x0) rfl) (fun _ _ z => z)) (fun _ _ z => z)
  have i21 : mI B42 x0 = mI M x0 ∧ mJ B42 x0 = mJ M x0 := by rw [hB42, hA41]; exact i20
  refine ⟨by decide, by decide, fun q43 A43 hq43 hA43 => ?_⟩
  intro B44 hB44
  obtain ⟨r22, n22, s22⟩ := rws_step r21 n21 rfl hq43 hA43 hB44
  have f22 : fr (fun c => c = x0) M B44 := f21.tr (by rw [hB44, hA43]; exact fr_nwA.tr (fr_wR (S := fun c => c = x0) rfl) (fun _ _ z => z)) (fun _ _ z => z)
  have i22 : mI B44 x0 = mI M x0 ∧ mJ B44 x0 = mJ M x0 := by rw [hB44, hA43]; exact i21
  refine ⟨by decide, by decide, fun q45 A45 hq45 hA45 => ?_⟩
  intro B46 hB46
  obtain ⟨r23, n23, s23⟩ := rws_step r22 n22 rfl hq45 hA45 hB46
  have f23 : fr (fun c => c = x0) M B46 := f22.tr (by rw [hB46, hA45]; exact fr_nwA.tr (fr_wR (S := fun c => c = x0) rfl) (fun _ _ z => z)) (fun _ _ z => z)
  have i23 : mI B46 x0 = mI M x0 ∧ mJ B46 x0 = mJ M x0 := by rw [hB46, hA45]; exact i22
  refine ⟨by decide, by decide, fun q47 A47 hq47 hA47 => ?_⟩
  intro B48 hB48
  obtain ⟨r24, n24, s24⟩ := rws_step r23 n23 rfl hq47 hA47 hB48
  have f24 : fr (fun c => c = x0) M B48 := f23.tr (by rw [hB48, hA47]; exact fr_nwA.tr (fr_wR (S := fun c => c = x0) rfl) (fun _ _ z => z)) (fun _ _ z => z)
  have i24 : mI B48 x0 = mI M x0 ∧ mJ B48 x0 = mJ M x0 := by rw [hB48, hA47]; exact i23
  refine ⟨by decide, by decide, fun q49 A49 hq49 hA49 => ?_⟩
  intro B50 hB50
  obtain ⟨r25, n25, s25⟩ := rws_step r24 n24 rfl hq49 hA49 hB50
  have f25 : fr (fun c => c = x0) M B50 := f24.tr (by rw [hB50, hA49]; exact fr_nwA.tr (fr_wR (S := fun c => c = x0) rfl) (fun _ _ z => z)) (fun _ _ z => z)
  have i25 : mI B50 x0 = mI M x0 ∧ mJ B50 x0 = mJ M x0 := by rw [hB50, hA49]; exact i24
  refine ⟨by decide, by decide, fun q51 A51 hq51 hA51 => ?_⟩
  intro B52 hB52
  obtain ⟨r26, n26, s26⟩ := rws_step r25 n25 rfl hq51 hA51 hB52
  have f26 : fr (fun c => c = x0) M B52 := f25.tr (by rw [hB52, hA51]; exact fr_nwA.tr (fr_wR (S := fun c => c = x0) rfl) (fun _ _ z => z)) (fun _ _ z => z)
  have i26 : mI B52 x0 = mI M x0 ∧ mJ B52 x0 = mJ M x0 := by rw [hB52, hA51]; exact i25
  refine ⟨by decide, by decide, fun q53 A53 hq53 hA53 => ?_⟩
  intro B54 hB54
  obtain ⟨r27, n27, s27⟩ := rws_step r26 n26 rfl hq53 hA53 hB54
  have f27 : fr (fun c => c = x0) M B54 := f26.tr (by rw [hB54, hA53]; exact fr_nwA.tr (fr_wR (S := fun c => c = x0) rfl) (fun _ _ z => z)) (fun _ _ z => z)
  have i27 : mI B54 x0 = mI M x0 ∧ mJ B54 x0 = mJ M x0 := by rw [hB54, hA53]; exact i26
  refine ⟨by decide, by decide, fun q55 A55 hq55 hA55 => ?_⟩
  intro B56 hB56
  obtain ⟨r28, n28, s28⟩ := rws_step r27 n27 rfl hq55 hA55 hB56
  have f28 : fr (fun c => c = x0) M B56 := f27.tr (by rw [hB56, hA55]; exact fr_nwA.tr (fr_wR (S := fun c => c = x0) rfl) (fun _ _ z => z)) (fun _ _ z => z)
  have i28 : mI B56 x0 = mI M x0 ∧ mJ B56 x0 = mJ M x0 := by rw [hB56, hA55]; exact i27
  refine ⟨by decide, by decide, fun q57 A57 hq57 hA57 => ?_⟩
  intro B58 hB58
  obtain ⟨r29, n29, s29⟩ := rws_step r28 n28 rfl hq57 hA57 hB58
  have f29 : fr (fun c => c = x0) M B58 := f28.tr (by rw [hB58, hA57]; exact fr_nwA.tr (fr_wR (S := fun c => c = x0) rfl) (fun _ _ z => z)) (fun _ _ z => z)
  have i29 : mI B58 x0 = mI M x0 ∧ mJ B58 x0 = mJ M x0 := by rw [hB58, hA57]; exact i28
  refine ⟨by decide, by decide, fun q59 A59 hq59 hA59 => ?_⟩
  intro B60 hB60
  obtain ⟨r30, n30, s30⟩ := rws_step r29 n29 rfl hq59 hA59 hB60
  have f30 : fr (fun c => c = x0) M B60 := f29.tr (by rw [hB60, hA59]; exact fr_nwA.tr (fr_wR (S := fun c => c = x0) rfl) (fun _ _ z => z)) (fun _ _ z => z)
  have i30 : mI B60 x0 = mI M x0 ∧ mJ B60 x0 = mJ M x0 := by rw [hB60, hA59]; exact i29
  unfold DX11_init_249
  simp only [e4, e6, e8, e16, e17, e24, e32, e40, e48, e64, e100, e160, e192, e512, e700, e800, e802, e900, e1600, e1640, e2800, e3240, e5600, e6144, e16800]
  refine ⟨by decide, by decide, fun q61 A61 hq61 hA61 => ?_⟩
  refine ⟨by rw [hA61]; exact ok_nwA (ok_E hx f30.1), ?_⟩
  intro B62 hB62
  obtain ⟨r31, n31, s31⟩ := rws_step r30 n30 rfl hq61 hA61 hB62
  have f31 : fr (fun c => c = x0) M B62 := f30.tr (by rw [hB62, hA61]; exact fr_nwA.tr (fr_wR (S := fun c => c = x0) rfl) (fun _ _ z => z)) (fun _ _ z => z)
  have i31 : mI B62 x0 = mI M x0 ∧ mJ B62 x0 = mJ M x0 := by rw [hB62, hA61]; exact i30
  refine ⟨by decide, by decide, fun q63 A63 hq63 hA63 => ?_⟩
  intro B64 hB64
  obtain ⟨r32, n32, s32⟩ := rws_step r31 n31 rfl hq63 hA63 hB64
  have f32 : fr (fun c => c = x0) M B64 := f31.tr (by rw [hB64, hA63]; exact fr_nwA.tr (fr_wR (S := fun c => c = x0) rfl) (fun _ _ z => z)) (fun _ _ z => z)
  have i32 : mI B64 x0 = mI M x0 ∧ mJ B64 x0 = mJ M x0 := by rw [hB64, hA63]; exact i31
  refine ⟨by decide, by decide, fun q65 A65 hq65 hA65 => ?_⟩
  intro B66 hB66
  obtain ⟨r33, n33, s33⟩ := rws_step r32 n32 rfl hq65 hA65 hB66
  have f33 : fr (fun c => c = x0) M B66 := f32.tr (by rw [hB66, hA65]; exact fr_nwA.tr (fr_wR (S := fun c => c = x0) rfl) (fun _ _ z => z)) (fun _ _ z => z)
  have i33 : mI B66 x0 = mI M x0 ∧ mJ B66 x0 = mJ M x0 := by rw [hB66, hA65]; exact i32
  refine ⟨by decide, by decide, fun q67 A67 hq67 hA67 => ?_⟩
  intro B68 hB68
  obtain ⟨r34, n34, s34⟩ := rws_step r33 n33 rfl hq67 hA67 hB68
  have f34 : fr (fun c => c = x0) M B68 := f33.tr (by rw [hB68, hA67]; exact fr_nwA.tr (fr_wR (S := fun c => c = x0) rfl) (fun _ _ z => z)) (fun _ _ z => z)
  have i34 : mI B68 x0 = mI M x0 ∧ mJ B68 x0 = mJ M x0 := by rw [hB68, hA67]; exact i33
  refine ⟨by decide, by decide, fun q69 A69 hq69 hA69 => ?_⟩
  intro B70 hB70
  obtain ⟨r35, n35, s35⟩ := rws_step r34 n34 rfl hq69 hA69 hB70
  have f35 : fr (fun c => c = x0) M B70 := f34.tr (by rw [hB70, hA69]; exact fr_nwA.tr (fr_wR (S := fun c => c = x0) rfl) (fun _ _ z => z)) (fun _ _ z => z)
  have i35 : mI B70 x0 = mI M x0 ∧ mJ B70 x0 = mJ M x0 := by rw [hB70, hA69]; exact i34
  refine ⟨by decide, by decide, fun q71 A71 hq71 hA71 => ?_⟩
  intro B72 hB72
  obtain ⟨r36, n36, s36⟩ := rws_step r35 n35 rfl hq71 hA71 hB72
  have f36 : fr (fun c => c = x0) M B72 := f35.tr (by rw [hB72, hA71]; exact fr_nwA.tr (fr_wR (S := fun c => c = x0) rfl) (fun _ _ z => z)) (fun _ _ z => z)
  have i36 : mI B72 x0 = mI M x0 ∧ mJ B72 x0 = mJ M x0 := by rw [hB72, hA71]; exact i35
  refine ⟨by decide, by decide, fun q73 A73 hq73 hA73 => ?_⟩
  intro B74 hB74
  obtain ⟨r37, n37, s37⟩ := rws_step r36 n36 rfl hq73 hA73 hB74
  have f37 : fr (fun c => c = x0) M B74 := f36.tr (by rw [hB74, hA73]; exact fr_nwA.tr (fr_wR (S := fun c => c = x0) rfl) (fun _ _ z => z)) (fun _ _ z => z)
  have i37 : mI B74 x0 = mI M x0 ∧ mJ B74 x0 = mJ M x0 := by rw [hB74, hA73]; exact i36
  refine ⟨by decide, by decide, fun q75 A75 hq75 hA75 => ?_⟩
  intro B76 hB76
  obtain ⟨r38, n38, s38⟩ := rws_step r37 n37 rfl hq75 hA75 hB76
  have f38 : fr (fun c => c = x0) M B76 := f37.tr (by rw [hB76, hA75]; exact fr_nwA.tr (fr_wR (S := fun c => c = x0) rfl) (fun _ _ z => z)) (fun _ _ z => z)
  have i38 : mI B76 x0 = mI M x0 ∧ mJ B76 x0 = mJ M x0 := by rw [hB76, hA75]; exact i37
  refine ⟨by decide, by decide, fun q77 A77 hq77 hA77 => ?_⟩
  intro B78 hB78
  obtain ⟨r39, n39, s39⟩ := rws_step r38 n38 rfl hq77 hA77 hB78
  have f39 : fr (fun c => c = x0) M B78 := f38.tr (by rw [hB78, hA77]; exact fr_nwA.tr (fr_wR (S := fun c => c = x0) rfl) (fun _ _ z => z)) (fun _ _ z => z)
  have i39 : mI B78 x0 = mI M x0 ∧ mJ B78 x0 = mJ M x0 := by rw [hB78, hA77]; exact i38
  refine ⟨by decide, by decide, fun q79 A79 hq79 hA79 => ?_⟩
  intro B80 hB80
  obtain ⟨r40, n40, s40⟩ := rws_step r39 n39 rfl hq79 hA79 hB80
  have f40 : fr (fun c => c = x0) M B80 := f39.tr (by rw [hB80, hA79]; exact fr_nwA.tr (fr_wR (S := fun c => c = x0) rfl) (fun _ _ z => z)) (fun _ _ z => z)
  have i40 : mI B80 x0 = mI M x0 ∧ mJ B80 x0 = mJ M x0 := by rw [hB80, hA79]; exact i39
  unfold DX11_init_339
  simp only [e4, e6, e8, e16, e17, e24, e32, e40, e48, e64, e100, e160, e192, e512, e700, e800, e802, e900, e1600, e1640, e2800, e3240, e5600, e6144, e16800]
  refine ⟨by decide, by decide, fun q81 A81 hq81 hA81 => ?_⟩
  refine ⟨by rw [hA81]; exact ok_nwA (ok_E hx f40.1), ?_⟩
  intro B82 hB82
  obtain ⟨r41, n41, s41⟩ := rws_step r40 n40 rfl hq81 hA81 hB82
  have f41 : fr (fun c => c = x0) M B82 := f40.tr (by rw [hB82, hA81]; exact fr_nwA.tr (fr_wR (S := fun c => c = x0) rfl) (fun _ _ z => z)) (fun _ _ z => z)
  have i41 : mI B82 x0 = mI M x0 ∧ mJ B82 x0 = mJ M x0 := by rw [hB82, hA81]; exact i40
  refine ⟨by decide, by decide, fun q83 A83 hq83 hA83 => ?_⟩
  intro B84 hB84
  obtain ⟨r42, n42, s42⟩ := rws_step r41 n41 rfl hq83 hA83 hB84
  have f42 : fr (fun c => c = x0) M B84 := f41.tr (by rw [hB84, hA83]; exact fr_nwA.tr (fr_wR (S := fun c => c = x0) rfl) (fun _ _ z => z)) (fun _ _ z => z)
  have i42 : mI B84 x0 = mI M x0 ∧ mJ B84 x0 = mJ M x0 := by rw [hB84, hA83]; exact i41
  refine ⟨by decide, by decide, fun q85 A85 hq85 hA85 => ?_⟩
  intro B86 hB86
  obtain ⟨r43, n43, s43⟩ := rws_step r42 n42 rfl hq85 hA85 hB86
  have f43 : fr (fun c => c = x0) M B86 := f42.tr (by rw [hB86, hA85]; exact fr_nwA.tr (fr_wR (S := fun c => c = x0) rfl) (fun _ _ z => z)) (fun _ _ z => z)
  have i43 : mI B86 x0 = mI M x0 ∧ mJ B86 x0 = mJ M x0 := by rw [hB86, hA85]; exact i42
  refine ⟨by decide, by decide, fun q87 A87 hq87 hA87 => ?_⟩
  intro B88 hB88
  obtain ⟨r44, n44, s44⟩ := rws_step r43 n43 rfl hq87 hA87 hB88
  have f44 : fr (fun c => c = x0) M B88 := f43.tr (by rw [hB88, hA87]; exact fr_nwA.tr (fr_wR (S := fun c => c = x0) rfl) (fun _ _ z => z)) (fun _ _ z => z)
  have i44 : mI B88 x0 = mI M x0 ∧ mJ B88 x0 = mJ M x0 := by rw [hB88, hA87]; exact i43
  refine ⟨by decide, by decide, fun q89 A89 hq89 hA89 => ?_⟩
  intro B90 hB90
  obtain ⟨r45, n45, s45⟩ := rws_step r44 n44 rfl hq89 hA89 hB90
  have f45 : fr (fun c => c = x0) M B90 := f44.tr (by rw [hB90, hA89]; exact fr_nwA.tr (fr_wR (S := fun c => c = x0) rfl) (fun _ _ z => z)) (fun _ _ z => z)
  have i45 : mI B90 x0 = mI M x0 ∧ mJ B90 x0 = mJ M x0 := by rw [hB90, hA89]; exact i44
  refine ⟨by decide, by decide, fun q91 A91 hq91 hA91 => ?_⟩
  intro B92 hB92
  obtain ⟨r46, n46, s46⟩ := rws_step r45 n45 rfl hq91 hA91 hB92
  have f46 : fr (fun c => c = x0) M B92 := f45.tr (by rw [hB92, hA91]; exact fr_nwA.tr (fr_wR (S := fun c => c = x0) rfl) (fun _ _ z => z)) (fun _ _ z => z)
  have i46 : mI B92 x0 = mI M x0 ∧ mJ B92 x0 = mJ M x0 := by rw [hB92, hA91]; exact i45
  refine ⟨by decide, by decide, fun q93 A93 hq93 hA93 => ?_⟩
  intro B94 hB94
  obtain ⟨r47, n47, s47⟩ := rws_step r46 n46 rfl hq93 hA93 hB94
  have f47 : fr (fun c => c = x0) M B94 := f46.tr (by rw [hB94, hA93]; exact fr_nwA.tr (fr_wR (S := fun c => c = x0) rfl) (fun _ _ z => z)) (fun _ _ z => z)
  have i47 : mI B94 x0 = mI M x0 ∧ mJ B94 x0 = mJ M x0 := by rw [hB94, hA93]; exact i46
  refine ⟨by decide, by decide, fun q95 A95 hq95 hA95 => ?_⟩
  intro B96 hB96
  obtain ⟨r48, n48, s48⟩ := rws_step r47 n47 rfl hq95 hA95 hB96
  have f48 : fr (fun c => c = x0) M B96 := f47.tr (by rw [hB96, hA95]; exact fr_nwA.tr (fr_wR (S := fun c => c = x0) rfl) (fun _ _ z => z)) (fun _ _ z => z)
  have i48 : mI B96 x0 = mI M x0 ∧ mJ B96 x0 = mJ M x0 := by rw [hB96, hA95]; exact i47
  refine ⟨by decide, by decide, fun q97 A97 hq97 hA97 => ?_⟩
  intro B98 hB98
  obtain ⟨r49, n49, s49⟩ := rws_step r48 n48 rfl hq97 hA97 hB98
  have f49 : fr (fun c => c = x0) M B98 := f48.tr (by rw [hB98, hA97]; exact fr_nwA.tr (fr_wR (S := fun c => c = x0) rfl) (fun _ _ z => z)) (fun _ _ z => z)
  have i49 : mI B98 x0 = mI M x0 ∧ mJ B98 x0 = mJ M x0 := by rw [hB98, hA97]; exact i48
  refine ⟨by decide, by decide, fun q99 A99 hq99 hA99 => ?_⟩
  intro B100 hB100
  obtain ⟨r50, n50, s50⟩ := rws_step r49 n49 rfl hq99 hA99 hB100
  have f50 : fr (fun c => c = x0) M B100 := f49.tr (by rw [hB100, hA99]; exact fr_nwA.tr (fr_wR (S := fun c => c = x0) rfl) (fun _ _ z => z)) (fun _ _ z => z)
  have i50 : mI B100 x0 = mI M x0 ∧ mJ B100 x0 = mJ M x0 := by rw [hB100, hA99]; exact i49
  unfold DX11_init_421
  simp only [e4, e6, e8, e16, e17, e24, e32, e40, e48, e64, e100, e160, e192, e512, e700, e800, e802, e900, e1600, e1640, e2800, e3240, e5600, e6144, e16800]
  refine ⟨by decide, by decide, fun q101 A101 hq101 hA101 => ?_⟩
  refine ⟨by rw [hA101]; exact ok_nwA (ok_E hx f50.1), ?_⟩
  intro B102 hB102
  obtain ⟨r51, n51, s51⟩ := rws_step r50 n50 rfl hq101 hA101 hB102
  have f51 : fr (fun c => c = x0) M B102 := f50.tr (by rw [hB102, hA101]; exact fr_nwA.tr (fr_wR (S := fun c => c = x0) rfl) (fun _ _ z => z)) (fun _ _ z => z)
  have i51 : mI B102 x0 = mI M x0 ∧ mJ B102 x0 = mJ M x0 := by rw [hB102, hA101]; exact i50
  refine ⟨by decide, by decide, fun q103 A103 hq103 hA103 => ?_⟩
  intro B104 hB104
  obtain ⟨r52, n52, s52⟩ := rws_step r51 n51 rfl hq103 hA103 hB104
  have f52 : fr (fun c => c = x0) M B104 := f51.tr (by rw [hB104, hA103]; exact fr_nwA.tr (fr_wR (S := fun c => c = x0) rfl) (fun _ _ z => z)) (fun _ _ z => z)
  have i52 : mI B104 x0 = mI M x0 ∧ mJ B104 x0 = mJ M x0 := by rw [hB104, hA103]; exact i51
  refine ⟨by decide, by decide, fun q105 A105 hq105 hA105 => ?_⟩
  intro B106 hB106
  obtain ⟨r53, n53, s53⟩ := rws_step r52 n52 rfl hq105 hA105 hB106
  have f53 : fr (fun c => c = x0) M B106 := f52.tr (by rw [hB106, hA105]; exact fr_nwA.tr (fr_wR (S := fun c => c = x0) rfl) (fun _ _ z => z)) (fun _ _ z => z)
  have i53 : mI B106 x0 = mI M x0 ∧ mJ B106 x0 = mJ M x0 := by rw [hB106, hA105]; exact i52
  refine ⟨by decide, by decide, fun q107 A107 hq107 hA107 => ?_⟩
  intro B108 hB108
  obtain ⟨r54, n54, s54⟩ := rws_step r53 n53 rfl hq107 hA107 hB108
  have f54 : fr (fun c => c = x0) M B108 := f53.tr (by rw [hB108, hA107]; exact fr_nwA.tr (fr_wR (S := fun c => c = x0) rfl) (fun _ _ z => z)) (fun _ _ z => z)
  have i54 : mI B108 x0 = mI M x0 ∧ mJ B108 x0 = mJ M x0 := by rw [hB108, hA107]; exact i53
  refine ⟨by decide, by decide, fun q109 A109 hq109 hA109 => ?_⟩
  intro B110 hB110
  obtain ⟨r55, n55, s55⟩ := rws_step r54 n54 rfl hq109 hA109 hB110
  have f55 : fr (fun c => c = x0) M B110 := f54.tr (by rw [hB110, hA109]; exact fr_nwA.tr (fr_wR (S := fun c => c = x0) rfl) (fun _ _ z => z)) (fun _ _ z => z)
  have i55 : mI B110 x0 = mI M x0 ∧ mJ B110 x0 = mJ M x0 := by rw [hB110, hA109]; exact i54
  refine ⟨by decide, by decide, fun q111 A111 hq111 hA111 => ?_⟩
  intro B112 hB112
  obtain ⟨r56, n56, s56⟩ := rws_step r55 n55 rfl hq111 hA111 hB112
  have f56 : fr (fun c => c = x0) M B112 := f55.tr (by rw [hB112, hA111]; exact fr_nwA.tr (fr_wR (S := fun c => c = x0) rfl) (fun _ _ z => z)) (fun _ _ z => z)
  have i56 : mI B112 x0 = mI M x0 ∧ mJ B112 x0 = mJ M x0 := by rw [hB112, hA111]; exact i55
  refine ⟨by decide, by decide, fun q113 A113 hq113 hA113 => ?_⟩
  intro B114 hB114
  obtain ⟨r57, n57, s57⟩ := rws_step r56 n56 rfl hq113 hA113 hB114
  have f57 : fr (fun c => c = x0) M B114 := f56.tr (by rw [hB114, hA113]; exact fr_nwA.tr (fr_wR (S := fun c => c = x0) rfl) (fun _ _ z => z)) (fun _ _ z => z)
  have i57 : mI B114 x0 = mI M x0 ∧ mJ B114 x0 = mJ M x0 := by rw [hB114, hA113]; exact i56
  refine ⟨by decide, by decide, fun q115 A115 hq115 hA115 => ?_⟩
  intro B116 hB116
  obtain ⟨r58, n58, s58⟩ := rws_step r57 n57 rfl hq115 hA115 hB116
  have f58 : fr (fun c => c = x0) M B116 := f57.tr (by rw [hB116, hA115]; exact fr_nwA.tr (fr_wR (S := fun c => c = x0) rfl) (fun _ _ z => z)) (fun _ _ z => z)
  have i58 : mI B116 x0 = mI M x0 ∧ mJ B116 x0 = mJ M x0 := by rw [hB116, hA115]; exact i57
  refine ⟨by decide, by decide, fun q117 A117 hq117 hA117 => ?_⟩
  intro B118 hB118
  obtain ⟨r59, n59, s59⟩ := rws_step r58 n58 rfl hq117 hA117 hB118
  have f59 : fr (fun c => c = x0) M B118 := f58.tr (by rw [hB118, hA117]; exact fr_nwA.tr (fr_wR (S := fun c => c = x0) rfl) (fun _ _ z => z)) (fun _ _ z => z)
  have i59 : mI B118 x0 = mI M x0 ∧ mJ B118 x0 = mJ M x0 := by rw [hB118, hA117]; exact i58
  refine ⟨by decide, by decide, fun q119 A119 hq119 hA119 => ?_⟩
  intro B120 hB120
  obtain ⟨r60, n60, s60⟩ := rws_step r59 n59 rfl hq119 hA119 hB120
  have f60 : fr (fun c => c = x0) M B120 := f59.tr (by rw [hB120, hA119]; exact fr_nwA.tr (fr_wR (S := fun c => c = x0) rfl) (fun _ _ z => z)) (fun _ _ z => z)
  have i60 : mI B120 x0 = mI M x0 ∧ mJ B120 x0 = mJ M x0 := by rw [hB120, hA119]; exact i59
  unfold DX11_init_511
  simp only [e4, e6, e8, e16, e17, e24, e32, e40, e48, e64, e100, e160, e192, e512, e700, e800, e802, e900, e1600, e1640, e2800, e3240, e5600, e6144, e16800]
  refine ⟨by decide, by decide, fun q121 A121 hq121 hA121 => ?_⟩
  refine ⟨by rw [hA121]; exact ok_nwA (ok_E hx f60.1), ?_⟩
  intro B122 hB122
  obtain ⟨r61, n61, s61⟩ := rws_step r60 n60 rfl hq121 hA121 hB122
  have f61 : fr (fun c => c = x0) M B122 := f60.tr (by rw [hB122, hA121]; exact fr_nwA.tr (fr_wR (S := fun c => c = x0) rfl) (fun _ _ z => z)) (fun _ _ z => z)
  have i61 : mI B122 x0 = mI M x0 ∧ mJ B122 x0 = mJ M x0 := by rw [hB122, hA121]; exact i60
  refine ⟨by decide, by decide, fun q123 A123 hq123 hA123 => ?_⟩
  intro B124 hB124
  obtain ⟨r62, n62, s62⟩ := rws_step r61 n61 rfl hq123 hA123 hB124
  have f62 : fr (fun c => c = x0) M B124 := f61.tr (by rw [hB124, hA123]; exact fr_nwA.tr (fr_wR (S := fun c => c = x0) rfl) (fun _ _ z => z)) (fun _ _ z => z)
  have i62 : mI B124 x0 = mI M x0 ∧ mJ B124 x0 = mJ M x0 := by rw [hB124, hA123]; exact i61
  refine ⟨by decide, by decide, fun q125 A125 hq125 hA125 => ?_⟩
  intro B126 hB126
  obtain ⟨r63, n63, s63⟩ := rws_step r62 n62 rfl hq125 hA125 hB126
  have f63 : fr (fun c => c = x0) M B126 := f62.tr (by rw [hB126, hA125]; exact fr_nwA.tr (fr_wR (S := fun c => c = x0) rfl) (fun _ _ z => z)) (fun _ _ z => z)
  have i63 : mI B126 x0 = mI M x0 ∧ mJ B126 x0 = mJ M x0 := by rw [hB126, hA125]; exact i62
  refine ⟨by decide, by decide, fun q127 A127 hq127 hA127 => ?_⟩
  intro B128 hB128
  obtain ⟨r64, n64, s64⟩ := rws_step r63 n63 rfl hq127 hA127 hB128
  have f64 : fr (fun c => c = x0) M B128 := f63.tr (by rw [hB128, hA127]; exact fr_nwA.tr (fr_wR (S := fun c => c = x0) rfl) (fun _ _ z => z)) (fun _ _ z => z)
  have i64 : mI B128 x0 = mI M x0 ∧ mJ B128 x0 = mJ M x0 := by rw [hB128, hA127]; exact i63
  refine ⟨by decide, by decide, fun q129 A129 hq129 hA129 => ?_⟩
  intro B130 hB130
  obtain ⟨r65, n65, s65⟩ := rws_step r64 n64 rfl hq129 hA129 hB130
  have f65 : fr (fun c => c = x0) M B130 := f64.tr (by rw [hB130, hA129]; exact fr_nwA.tr (fr_wR (S := fun c => c = x0) rfl) (fun _ _ z => z)) (fun _ _ z => z)
  have i65 : mI B130 x0 = mI M x0 ∧ mJ B130 x0 = mJ M x0 := by rw [hB130, hA129]; exact i64
  refine ⟨by decide, by decide, fun q131 A131 hq131 hA131 => ?_⟩
  intro B132 hB132
  obtain ⟨r66, n66, s66⟩ := rws_step r65 n65 rfl hq131 hA131 hB132
  have f66 : fr (fun c => c = x0) M B132 := f65.tr (by rw [hB132, hA131]; exact fr_nwA.tr (fr_wR (S := fun c => c = x0) rfl) (fun _ _ z => z)) (fun _ _ z => z)
  have i66 : mI B132 x0 = mI M x0 ∧ mJ B132 x0 = mJ M x0 := by rw [hB132, hA131]; exact i65
  refine ⟨by decide, by decide, fun q133 A133 hq133 hA133 => ?_⟩
  intro B134 hB134
  obtain ⟨r67, n67, s67⟩ := rws_step r66 n66 rfl hq133 hA133 hB134
  have f67 : fr (fun c => c = x0) M B134 := f66.tr (by rw [hB134, hA133]; exact fr_nwA.tr (fr_wR (S := fun c => c = x0) rfl) (fun _ _ z => z)) (fun _ _ z => z)
  have i67 : mI B134 x0 = mI M x0 ∧ mJ B134 x0 = mJ M x0 := by rw [hB134, hA133]; exact i66
  refine ⟨by decide, by decide, fun q135 A135 hq135 hA135 => ?_⟩
  intro B136 hB136
  obtain ⟨r68, n68, s68⟩ := rws_step r67 n67 rfl hq135 hA135 hB136
  have f68 : fr (fun c => c = x0) M B136 := f67.tr (by rw [hB136, hA135]; exact fr_nwA.tr (fr_wR (S := fun c => c = x0) rfl) (fun _ _ z => z)) (fun _ _ z => z)
  have i68 : mI B136 x0 = mI M x0 ∧ mJ B136 x0 = mJ M x0 := by rw [hB136, hA135]; exact i67
  refine ⟨by decide, by decide, fun q137 A137 hq137 hA137 => ?_⟩
  intro B138 hB138
  obtain ⟨r69, n69, s69⟩ := rws_step r68 n68 rfl hq137 hA137 hB138
  have f69 : fr (fun c => c = x0) M B138 := f68.tr (by rw [hB138, hA137]; exact fr_nwA.tr (fr_wR (S := fun c => c = x0) rfl) (fun _ _ z => z)) (fun _ _ z => z)
  have i69 : mI B138 x0 = mI M x0 ∧ mJ B138 x0 = mJ M x0 := by rw [hB138, hA137]; exact i68
  refine ⟨by decide, by decide, fun q139 A139 hq139 hA139 => ?_⟩
  intro B140 hB140
  obtain ⟨r70, n70, s70⟩ := rws_step r69 n69 rfl hq139 hA139 hB140
  have f70 : fr (fun c => c = x0) M B140 := f69.tr (by rw [hB140, hA139]; exact fr_nwA.tr (fr_wR (S := fun c => c = x0) rfl) (fun _ _ z => z)) (fun _ _ z => z)
  have i70 : mI B140 x0 = mI M x0 ∧ mJ B140 x0 = mJ M x0 := by rw [hB140, hA139]; exact i69
  unfold DX11_init_595
  simp only [e4, e6, e8, e16, e17, e24, e32, e40, e48, e64, e100, e160, e192, e512, e700, e800, e802, e900, e1600, e1640, e2800, e3240, e5600, e6144, e16800]
  refine ⟨by decide, by decide, fun q141 A141 hq141 hA141 => ?_⟩
  refine ⟨by rw [hA141]; exact ok_nwA (ok_E hx f70.1), ?_⟩
  intro B142 hB142
  obtain ⟨r71, n71, s71⟩ := rws_step r70 n70 rfl hq141 hA141 hB142
  have f71 : fr (fun c => c = x0) M B142 := f70.tr (by rw [hB142, hA141]; exact fr_nwA.tr (fr_wR (S := fun c => c = x0) rfl) (fun _ _ z => z)) (fun _ _ z => z)
  have i71 : mI B142 x0 = mI M x0 ∧ mJ B142 x0 = mJ M x0 := by rw [hB142, hA141]; exact i70
  refine ⟨by decide, by decide, fun q143 A143 hq143 hA143 => ?_⟩
  intro B144 hB144
  obtain ⟨r72, n72, s72⟩ := rws_step r71 n71 rfl hq143 hA143 hB144
  have f72 : fr (fun c => c = x0) M B144 := f71.tr (by rw [hB144, hA143]; exact fr_nwA.tr (fr_wR (S := fun c => c = x0) rfl) (fun _ _ z => z)) (fun _ _ z => z)
  have i72 : mI B144 x0 = mI M x0 ∧ mJ B144 x0 = mJ M x0 := by rw [hB144, hA143]; exact i71
  refine ⟨by decide, by decide, fun q145 A145 hq145 hA145 => ?_⟩
  intro B146 hB146
  obtain ⟨r73, n73, s73⟩ := rws_step r72 n72 rfl hq145 hA145 hB146
  have f73 : fr (fun c => c = x0) M B146 := f72.tr (by rw [hB146, hA145]; exact fr_nwA.tr (fr_wR (S := fun c => c = x0) rfl) (fun _ _ z => z)) (fun _ _ z => z)
  have i73 : mI B146 x0 = mI M x0 ∧ mJ B146 x0 = mJ M x0 := by rw [hB146, hA145]; exact i72
  refine ⟨by decide, by decide, fun q147 A147 hq147 hA147 => ?_⟩
  intro B148 hB148
  obtain ⟨r74, n74, s74⟩ := rws_step r73 n73 rfl hq147 hA147 hB148
  have f74 : fr (fun c => c = x0) M B148 := f73.tr (by rw [hB148, hA147]; exact fr_nwA.tr (fr_wR (S := fun c => c = x0) rfl) (fun _ _ z => z)) (fun _ _ z => z)
  have i74 : mI B148 x0 = mI M x0 ∧ mJ B148 x0 = mJ M x0 := by rw [hB148, hA147]; exact i73
  refine ⟨by decide, by decide, fun q149 A149 hq149 hA149 => ?_⟩
  intro B150 hB150
  obtain ⟨r75, n75, s75⟩ := rws_step r74 n74 rfl hq149 hA149 hB150
  have f75 : fr (fun c => c = x0) M B150 := f74.tr (by rw [hB150, hA149]; exact fr_nwA.tr (fr_wR (S := fun c => c = x0) rfl) (fun _ _ z => z)) (fun _ _ z => z)
  have i75 : mI B150 x0 = mI M x0 ∧ mJ B150 x0 = mJ M x0 := by rw [hB150, hA149]; exact i74
  refine ⟨by decide, by decide, fun q151 A151 hq151 hA151 => ?_⟩
  intro B152 hB152
  obtain ⟨r76, n76, s76⟩ := rws_step r75 n75 rfl hq151 hA151 hB152
  have f76 : fr (fun c => c = x0) M B152 := f75.tr (by rw [hB152, hA151]; exact fr_nwA.tr (fr_wR (S := fun c => c = x0) rfl) (fun _ _ z => z)) (fun _ _ z => z)
  have i76 : mI B152 x0 = mI M x0 ∧ mJ B152 x0 = mJ M x0 := by rw [hB152, hA151]; exact i75
  refine ⟨by decide, by decide, fun q153 A153 hq153 hA153 => ?_⟩
  intro B154 hB154
  obtain ⟨r77, n77, s77⟩ := rws_step r76 n76 rfl hq153 hA153 hB154
  have f77 : fr (fun c => c = x0) M B154 := f76.tr (by rw [hB154, hA153]; exact fr_nwA.tr (fr_wR (S := fun c => c = x0) rfl) (fun _ _ z => z)) (fun _ _ z => z)
  have i77 : mI B154 x0 = mI M x0 ∧ mJ B154 x0 = mJ M x0 := by rw [hB154, hA153]; exact i76
  refine ⟨by decide, by decide, fun q155 A155 hq155 hA155 => ?_⟩
  intro B156 hB156
  obtain ⟨r78, n78, s78⟩ := rws_step r77 n77 rfl hq155 hA155 hB156
  have f78 : fr (fun c => c = x0) M B156 := f77.tr (by rw [hB156, hA155]; exact fr_nwA.tr (fr_wR (S := fun c => c = x0) rfl) (fun _ _ z => z)) (fun _ _ z => z)
  have i78 : mI B156 x0 = mI M x0 ∧ mJ B156 x0 = mJ M x0 := by rw [hB156, hA155]; exact i77
  refine ⟨by decide, by decide, fun q157 A157 hq157 hA157 => ?_⟩
  intro B158 hB158
  obtain ⟨r79, n79, s79⟩ := rws_step r78 n78 rfl hq157 hA157 hB158
  have f79 : fr (fun c => c = x0) M B158 := f78.tr (by rw [hB158, hA157]; exact fr_nwA.tr (fr_wR (S := fun c => c = x0) rfl) (fun _ _ z => z)) (fun _ _ z => z)
  have i79 : mI B158 x0 = mI M x0 ∧ mJ B158 x0 = mJ M x0 := by rw [hB158, hA157]; exact i78
  refine ⟨by decide, by decide, fun q159 A159 hq159 hA159 => ?_⟩
  intro B160 hB160
  obtain ⟨r80, n80, s80⟩ := rws_step r79 n79 rfl hq159 hA159 hB160
  have f80 : fr (fun c => c = x0) M B160 := f79.tr (by rw [hB160, hA159]; exact fr_nwA.tr (fr_wR (S := fun c => c = x0) rfl) (fun _ _ z => z)) (fun _ _ z => z)
  have i80 : mI B160 x0 = mI M x0 ∧ mJ B160 x0 = mJ M x0 := by rw [hB160, hA159]; exact i79
  unfold DX11_init_678
  simp only [e4, e6, e8, e16, e17, e24, e32, e40, e48, e64, e100, e160, e192, e512, e700, e800, e802, e900, e1600, e1640, e2800, e3240, e5600, e6144, e16800]
  refine ⟨by decide, by decide, fun q161 A161 hq161 hA161 => ?_⟩
  refine ⟨by rw [hA161]; exact ok_nwA (ok_E hx f80.1), ?_⟩
  intro B162 hB162
  obtain ⟨r81, n81, s81⟩ := rws_step r80 n80 rfl hq161 hA161 hB162
  have f81 : fr (fun c => c = x0) M B162 := f80.tr (by rw [hB162, hA161]; exact fr_nwA.tr (fr_wR (S := fun c => c = x0) rfl) (fun _ _ z => z)) (fun _ _ z => z)
  have i81 : mI B162 x0 = mI M x0 ∧ mJ B162 x0 = mJ M x0 := by rw [hB162, hA161]; exact i80
  refine ⟨by decide, by decide, fun q163 A163 hq163 hA163 => ?_⟩
  intro B164 hB164
  obtain ⟨r82, n82, s82⟩ := rws_step r81 n81 rfl hq163 hA163 hB164
  have f82 : fr (fun c => c = x0) M B164 := f81.tr (by rw [hB164, hA163]; exact fr_nwA.tr (fr_wR (S := fun c => c = x0) rfl) (fun _ _ z => z)) (fun _ _ z => z)
  have i82 : mI B164 x0 = mI M x0 ∧ mJ B164 x0 = mJ M x0 := by rw [hB164, hA163]; exact i81
  refine ⟨by decide, by decide, fun q165 A165 hq165 hA165 => ?_⟩
  intro B166 hB166
  obtain ⟨r83, n83, s83⟩ := rws_step r82 n82 rfl hq165 hA165 hB166
  have f83 : fr (fun c => c = x0) M B166 := f82.tr (by rw [hB166, hA165]; exact fr_nwA.tr (fr_wR (S := fun c => c = x0) rfl) (fun _ _ z => z)) (fun _ _ z => z)
  have i83 : mI B166 x0 = mI M x0 ∧ mJ B166 x0 = mJ M x0 := by rw [hB166, hA165]; exact i82
  refine ⟨by decide, by decide, fun q167 A167 hq167 hA167 => ?_⟩
  intro B168 hB168
  obtain ⟨r84, n84, s84⟩ := rws_step r83 n83 rfl hq167 hA167 hB168
  have f84 : fr (fun c => c = x0) M B168 := f83.tr (by rw [hB168, hA167]; exact fr_nwA.tr (fr_wR (S := fun c => c = x0) rfl) (fun _ _ z => z)) (fun _ _ z => z)
  have i84 : mI B168 x0 = mI M x0 ∧ mJ B168 x0 = mJ M x0 := by rw [hB168, hA167]; exact i83
  refine ⟨by decide, by decide, fun q169 A169 hq169 hA169 => ?_⟩
  intro B170 hB170
  obtain ⟨r85, n85, s85⟩ := rws_step r84 n84 rfl hq169 hA169 hB170
  have f85 : fr (fun c => c = x0) M B170 := f84.tr (by rw [hB170, hA169]; exact fr_nwA.tr (fr_wR (S := fun c => c = x0) rfl) (fun _ _ z => z)) (fun _ _ z => z)
  have i85 : mI B170 x0 = mI M x0 ∧ mJ B170 x0 = mJ M x0 := by rw [hB170, hA169]; exact i84
  refine ⟨by decide, by decide, fun q171 A171 hq171 hA171 => ?_⟩
  intro B172 hB172
  obtain ⟨r86, n86, s86⟩ := rws_step r85 n85 rfl hq171 hA171 hB172
  have f86 : fr (fun c => c = x0) M B172 := f85.tr (by rw [hB172, hA171]; exact fr_nwA.tr (fr_wR (S := fun c => c = x0) rfl) (fun _ _ z => z)) (fun _ _ z => z)
  have i86 : mI B172 x0 = mI M x0 ∧ mJ B172 x0 = mJ M x0 := by rw [hB172, hA171]; exact i85
  refine ⟨by decide, by decide, fun q173 A173 hq173 hA173 => ?_⟩
  intro B174 hB174
  obtain ⟨r87, n87, s87⟩ := rws_step r86 n86 rfl hq173 hA173 hB174
  have f87 : fr (fun c => c = x0) M B174 := f86.tr (by rw [hB174, hA173]; exact fr_nwA.tr (fr_wR (S := fun c => c = x0) rfl) (fun _ _ z => z)) (fun _ _ z => z)
  have i87 : mI B174 x0 = mI M x0 ∧ mJ B174 x0 = mJ M x0 := by rw [hB174, hA173]; exact i86
  refine ⟨by decide, by decide, fun q175 A175 hq175 hA175 => ?_⟩
  intro B176 hB176
  obtain ⟨r88, n88, s88⟩ := rws_step r87 n87 rfl hq175 hA175 hB176
  have f88 : fr (fun c => c = x0) M B176 := f87.tr (by rw [hB176, hA175]; exact fr_nwA.tr (fr_wR (S := fun c => c = x0) rfl) (fun _ _ z => z)) (fun _ _ z => z)
  have i88 : mI B176 x0 = mI M x0 ∧ mJ B176 x0 = mJ M x0 := by rw [hB176, hA175]; exact i87
  refine ⟨by decide, by decide, fun q177 A177 hq177 hA177 => ?_⟩
  intro B178 hB178
  obtain ⟨r89, n89, s89⟩ := rws_step r88 n88 rfl hq177 hA177 hB178
  have f89 : fr (fun c => c = x0) M B178 := f88.tr (by rw [hB178, hA177]; exact fr_nwA.tr (fr_wR (S := fun c => c = x0) rfl) (fun _ _ z => z)) (fun _ _ z => z)
  have i89 : mI B178 x0 = mI M x0 ∧ mJ B178 x0 = mJ M x0 := by rw [hB178, hA177]; exact i88
  refine ⟨by decide, by decide, fun q179 A179 hq179 hA179 => ?_⟩
  intro B180 hB180
  obtain ⟨r90, n90, s90⟩ := rws_step r89 n89 rfl hq179 hA179 hB180
  have f90 : fr (fun c => c = x0) M B180 := f89.tr (by rw [hB180, hA179]; exact fr_nwA.tr (fr_wR (S := fun c => c = x0) rfl) (fun _ _ z => z)) (fun _ _ z => z)
  have i90 : mI B180 x0 = mI M x0 ∧ mJ B180 x0 = mJ M x0 := by rw [hB180, hA179]; exact i89
  unfold DX11_init_760
  simp only [e4, e6, e8, e16, e17, e24, e32, e40, e48, e64, e100, e160, e192, e512, e700, e800, e802, e900, e1600, e1640, e2800, e3240, e5600, e6144, e16800]
  refine ⟨by decide, by decide, fun q181 A181 hq181 hA181 => ?_⟩
  refine ⟨by rw [hA181]; exact ok_nwA (ok_E hx f90.1), ?_⟩
  intro B182 hB182
  obtain ⟨r91, n91, s91⟩ := rws_step r90 n90 rfl hq181 hA181 hB182
  have f91 : fr (fun c => c = x0) M B182 := f90.tr (by rw [hB182, hA181]; exact fr_nwA.tr (fr_wR (S := fun c => c = x0) rfl) (fun _ _ z => z)) (fun _ _ z => z)
  have i91 : mI B182 x0 = mI M x0 ∧ mJ B182 x0 = mJ M x0 := by rw [hB182, hA181]; exact i90
  refine ⟨by decide, by decide, fun q183 A183 hq183 hA183 => ?_⟩
  intro B184 hB184
  obtain ⟨r92, n92, s92⟩ := rws_step r91 n91 rfl hq183 hA183 hB184
  have f92 : fr (fun c => c = x0) M B184 := f91.tr (by rw [hB184, hA183]; exact fr_nwA.tr (fr_wR (S := fun c => c = x0) rfl) (fun _ _ z => z)) (fun _ _ z => z)
  have i92 : mI B184 x0 = mI M x0 ∧ mJ B184 x0 = mJ M x0 := by rw [hB184, hA183]; exact i91
  refine ⟨by decide, by decide, fun q185 A185 hq185 hA185 => ?_⟩
  intro B186 hB186
  obtain ⟨r93, n93, s93⟩ := rws_step r92 n92 rfl hq185 hA185 hB186
  have f93 : fr (fun c => c = x0) M B186 := f92.tr (by rw [hB186, hA185]; exact fr_nwA.tr (fr_wR (S := fun c => c = x0) rfl) (fun _ _ z => z)) (fun _ _ z => z)
  have i93 : mI B186 x0 = mI M x0 ∧ mJ B186 x0 = mJ M x0 := by rw [hB186, hA185]; exact i92
  refine ⟨by decide, by decide, fun q187 A187 hq187 hA187 => ?_⟩
  intro B188 hB188
  obtain ⟨r94, n94, s94⟩ := rws_step r93 n93 rfl hq187 hA187 hB188
  have f94 : fr (fun c => c = x0) M B188 := f93.tr (by rw [hB188, hA187]; exact fr_nwA.tr (fr_wR (S := fun c => c = x0) rfl) (fun _ _ z => z)) (fun _ _ z => z)
  have i94 : mI B188 x0 = mI M x0 ∧ mJ B188 x0 = mJ M x0 := by rw [hB188, hA187]; exact i93
  refine ⟨by decide, by decide, fun q189 A189 hq189 hA189 => ?_⟩
  intro B190 hB190
  obtain ⟨r95, n95, s95⟩ := rws_step r94 n94 rfl hq189 hA189 hB190
  have f95 : fr (fun c => c = x0) M B190 := f94.tr (by rw [hB190, hA189]; exact fr_nwA.tr (fr_wR (S := fun c => c = x0) rfl) (fun _ _ z => z)) (fun _ _ z => z)
  have i95 : mI B190 x0 = mI M x0 ∧ mJ B190 x0 = mJ M x0 := by rw [hB190, hA189]; exact i94
  refine ⟨by decide, by decide, fun q191 A191 hq191 hA191 => ?_⟩
  intro B192 hB192
  obtain ⟨r96, n96, s96⟩ := rws_step r95 n95 rfl hq191 hA191 hB192
  have f96 : fr (fun c => c = x0) M B192 := f95.tr (by rw [hB192, hA191]; exact fr_nwA.tr (fr_wR (S := fun c => c = x0) rfl) (fun _ _ z => z)) (fun _ _ z => z)
  have i96 : mI B192 x0 = mI M x0 ∧ mJ B192 x0 = mJ M x0 := by rw [hB192, hA191]; exact i95
  refine ⟨by decide, by decide, fun q193 A193 hq193 hA193 => ?_⟩
  intro B194 hB194
  obtain ⟨r97, n97, s97⟩ := rws_step r96 n96 rfl hq193 hA193 hB194
  have f97 : fr (fun c => c = x0) M B194 := f96.tr (by rw [hB194, hA193]; exact fr_nwA.tr (fr_wR (S := fun c => c = x0) rfl) (fun _ _ z => z)) (fun _ _ z => z)
  have i97 : mI B194 x0 = mI M x0 ∧ mJ B194 x0 = mJ M x0 := by rw [hB194, hA193]; exact i96
  refine ⟨by decide, by decide, fun q195 A195 hq195 hA195 => ?_⟩
  intro B196 hB196
  obtain ⟨r98, n98, s98⟩ := rws_step r97 n97 rfl hq195 hA195 hB196
  have f98 : fr (fun c => c = x0) M B196 := f97.tr (by rw [hB196, hA195]; exact fr_nwA.tr (fr_wR (S := fun c => c = x0) rfl) (fun _ _ z => z)) (fun _ _ z => z)
  have i98 : mI B196 x0 = mI M x0 ∧ mJ B196 x0 = mJ M x0 := by rw [hB196, hA195]; exact i97
  refine ⟨by decide, by decide, fun q197 A197 hq197 hA197 => ?_⟩
  intro B198 hB198
  obtain ⟨r99, n99, s99⟩ := rws_step r98 n98 rfl hq197 hA197 hB198
  have f99 : fr (fun c => c = x0) M B198 := f98.tr (by rw [hB198, hA197]; exact fr_nwA.tr (fr_wR (S := fun c => c = x0) rfl) (fun _ _ z => z)) (fun _ _ z => z)
  have i99 : mI B198 x0 = mI M x0 ∧ mJ B198 x0 = mJ M x0 := by rw [hB198, hA197]; exact i98
  refine ⟨by decide, by decide, fun q199 A199 hq199 hA199 => ?_⟩
  intro B200 hB200
  obtain ⟨r100, n100, s100⟩ := rws_step r99 n99 rfl hq199 hA199 hB200
  have f100 : fr (fun c => c = x0) M B200 := f99.tr (by rw [hB200, hA199]; exact fr_nwA.tr (fr_wR (S := fun c => c = x0) rfl) (fun _ _ z => z)) (fun _ _ z => z)
  have i100 : mI B200 x0 = mI M x0 ∧ mJ B200 x0 = mJ M x0 := by rw [hB200, hA199]; exact i99
  unfold DX11_init_844
  simp only [e4, e6, e8, e16, e17, e24, e32, e40, e48, e64, e100, e160, e192, e512, e700, e800, e802, e900, e1600, e1640, e2800, e3240, e5600, e6144, e16800]
  refine ⟨by decide, by decide, fun q201 A201 hq201 hA201 => ?_⟩
  refine ⟨by rw [hA201]; exact ok_nwA (ok_E hx f100.1), ?_⟩
  intro B202 hB202
  obtain ⟨r101, n101, s101⟩ := rws_step r100 n100 rfl hq201 hA201 hB202
  have f101 : fr (fun c => c = x0) M B202 := f100.tr (by rw [hB202, hA201]; exact fr_nwA.tr (fr_wR (S := fun c => c = x0) rfl) (fun _ _ z => z)) (fun _ _ z => z)
  have i101 : mI B202 x0 = mI M x0 ∧ mJ B202 x0 = mJ M x0 := by rw [hB202, hA201]; exact i100
  intro B203 hB203
  have r102 : rws B203 x0 (mN M) [(0, 21, 800), (2, 21, 802), (3, 21, 802), (4, 23, 802), (8, 21, 4), (9, 21, 4), (10, 21, 4), (11, 23, 64), (12, 21, 64), (13, 21, 64), (14, 22, 64), (15, 21, 16), (16, 23, 24), (17, 23, 24), (20, 21, 4), (21, 21, 1640), (22, 21, 1640), (23, 21, 1640), (24, 21, 4), (25, 21, 3240), (26, 23, 3240), (27, 21, 3240), (28, 21, 900), (30, 21, 900), (34, 21, 4), (35, 21, 4), (36, 21, 4), (37, 21, 4), (38, 21, 160), (39, 21, 160), (40, 21, 160), (41, 22, 160), (42, 21, 160), (43, 21, 160), (44, 21, 160), (45, 21, 160), (46, 21, 160), (47, 21, 160), (48, 21, 160), (49, 21, 160), (50, 21, 160), (51, 21, 160), (52, 23, 160), (54, 21, 100), (55, 21, 100), (56, 21, 100), (57, 21, 17), (58, 21, 17), (59, 21, 17), (61, 21, 4), (62, 21, 2800), (63, 21, 2800), (64, 21, 2800), (65, 21, 2800), (66, 21, 2800), (67, 21, 2800), (68, 21, 2800), (69, 21, 2800), (70, 21, 2800), (71, 21, 2800), (72, 21, 160), (73, 21, 4), (74, 21, 4), (75, 21, 5600), (76, 21, 4), (77, 21, 700), (78, 21, 700), (79, 21, 700), (80, 21, 700), (81, 21, 16800), (82, 21, 16), (90, 21, 1640), (92, 21, 8), (93, 22, 32), (94, 22, 32), (95, 21, 32), (96, 21, 32), (97, 23, 512), (98, 23, 192), (99, 21, 32), (100, 21, 8), (101, 21, 8), (102, 23, 32), (103, 21, 8), (104, 21, 8), (105, 21, 8), (106, 21, 8), (107, 21, 1600), (108, 23, 3240), (109, 23, 16), (110, 23, 6), (112, 21, 40), (114, 21, 4), (115, 21, 4), (116, 21, 192), (117, 21, 192), (118, 21, 192), (119, 21, 192), (120, 21, 192), (121, 21, 6144), (122, 21, 6144)] := by rw [hB203]; exact r101
  have n102 : mN B203 = mN M + [(0, 21, 800), (2, 21, 802), (3, 21, 802), (4, 23, 802), (8, 21, 4), (9, 21, 4), (10, 21, 4), (11, 23, 64), (12, 21, 64), (13, 21, 64), (14, 22, 64), (15, 21, 16), (16, 23, 24), (17, 23, 24), (20, 21, 4), (21, 21, 1640), (22, 21, 1640), (23, 21, 1640), (24, 21, 4), (25, 21, 3240), (26, 23, 3240), (27, 21, 3240), (28, 21, 900), (30, 21, 900), (34, 21, 4), (35, 21, 4), (36, 21, 4), (37, 21, 4), (38, 21, 160), (39, 21, 160), (40, 21, 160), (41, 22, 160), (42, 21, 160), (43, 21, 160), (44, 21, 160), (45, 21, 160), (46, 21, 160), (47, 21, 160), (48, 21, 160), (49, 21, 160), (50, 21, 160), (51, 21, 160), (52, 23, 160), (54, 21, 100), (55, 21, 100), (56, 21, 100), (57, 21, 17), (58, 21, 17), (59, 21, 17), (61, 21, 4), (62, 21, 2800), (63, 21, 2800), (64, 21, 2800), (65, 21, 2800), (66, 21, 2800), (67, 21, 2800), (68, 21, 2800), (69, 21, 2800), (70, 21, 2800), (71, 21, 2800), (72, 21, 160), (73, 21, 4), (74, 21, 4), (75, 21, 5600), (76, 21, 4), (77, 21, 700), (78, 21, 700), (79, 21, 700), (80, 21, 700), (81, 21, 16800), (82, 21, 16), (90, 21, 1640), (92, 21, 8), (93, 22, 32), (94, 22, 32), (95, 21, 32), (96, 21, 32), (97, 23, 512), (98, 23, 192), (99, 21, 32), (100, 21, 8), (101, 21, 8), (102, 23, 32), (103, 21, 8), (104, 21, 8), (105, 21, 8), (106, 21, 8), (107, 21, 1600), (108, 23, 3240), (109, 23, 16), (110, 23, 6), (112, 21, 40), (114, 21, 4), (115, 21, 4), (116, 21, 192), (117, 21, 192), (118, 21, 192), (119, 21, 192), (120, 21, 192), (121, 21, 6144), (122, 21, 6144)].length := (by rw [hB203]; exact n101)
  have s102 : mS B203 = mS B202 + 0 := (by rw [hB203]; rfl)
  have f102 : fr (fun c => c = x0) M B203 := f101.tr (by rw [hB203]; exact fr_wI (S := fun c => c = x0) rfl) (fun _ _ z => z)
  have i102 : mI B203 x0 = (fun j => if j = 123 then (-1 : Int32) else (mI M x0) j) ∧ mJ B203 x0 = mJ M x0 := by rw [hB203]; exact ⟨iset i101.1, i101.2⟩
  intro B204 hB204
  have r103 : rws B204 x0 (mN M) [(0, 21, 800), (2, 21, 802), (3, 21, 802), (4, 23, 802), (8, 21, 4), (9, 21, 4), (10, 21, 4), (11, 23, 64), (12, 21, 64), (13, 21, 64), (14, 22, 64), (15, 21, 16), (16, 23, 24), (17, 23, 24), (20, 21, 4), (21, 21, 1640), (22, 21, 1640), (23, 21, 1640), (24, 21, 4), (25, 21, 3240), (26, 23, 3240), (27, 21, 3240), (28, 21, 900), (30, 21, 900), (34, 21, 4), (35, 21, 4), (36, 21, 4), (37, 21, 4), (38, 21, 160), (39, 21, 160), (40, 21, 160), (41, 22, 160), (42, 21, 160), (43, 21, 160), (44, 21, 160), (45, 21, 160), (46, 21, 160), (47, 21, 160), (48, 21, 160), (49, 21, 160), (50, 21, 160), (51, 21, 160), (52, 23, 160), (54, 21, 100), (55, 21, 100), (56, 21, 100), (57, 21, 17), (58, 21, 17), (59, 21, 17), (61, 21, 4), (62, 21, 2800), (63, 21, 2800), (64, 21, 2800), (65, 21, 2800), (66, 21, 2800), (67, 21, 2800), (68, 21, 2800), (69, 21, 2800), (70, 21, 2800), (71, 21, 2800), (72, 21, 160), (73, 21, 4), (74, 21, 4), (75, 21, 5600), (76, 21, 4), (77, 21, 700), (78, 21, 700), (79, 21, 700), (80, 21, 700), (81, 21, 16800), (82, 21, 16), (90, 21, 1640), (92, 21, 8), (93, 22, 32), (94, 22, 32), (95, 21, 32), (96, 21, 32), (97, 23, 512), (98, 23, 192), (99, 21, 32), (100, 21, 8), (101, 21, 8), (102, 23, 32), (103, 21, 8), (104, 21, 8), (105, 21, 8), (106, 21, 8), (107, 21, 1600), (108, 23, 3240), (109, 23, 16), (110, 23, 6), (112, 21, 40), (114, 21, 4), (115, 21, 4), (116, 21, 192), (117, 21, 192), (118, 21, 192), (119, 21, 192), (120, 21, 192), (121, 21, 6144), (122, 21, 6144)] := by rw [hB204]; exact r102
  have n103 : mN B204 = mN M + [(0, 21, 800), (2, 21, 802), (3, 21, 802), (4, 23, 802), (8, 21, 4), (9, 21, 4), (10, 21, 4), (11, 23, 64), (12, 21, 64), (13, 21, 64), (14, 22, 64), (15, 21, 16), (16, 23, 24), (17, 23, 24), (20, 21, 4), (21, 21, 1640), (22, 21, 1640), (23, 21, 1640), (24, 21, 4), (25, 21, 3240), (26, 23, 3240), (27, 21, 3240), (28, 21, 900), (30, 21, 900), (34, 21, 4), (35, 21, 4), (36, 21, 4), (37, 21, 4), (38, 21, 160), (39, 21, 160), (40, 21, 160), (41, 22, 160), (42, 21, 160), (43, 21, 160), (44, 21, 160), (45, 21, 160), (46, 21, 160), (47, 21, 160), (48, 21, 160), (49, 21, 160), (50, 21, 160), (51, 21, 160), (52, 23, 160), (54, 21, 100), (55, 21, 100), (56, 21, 100), (57, 21, 17), (58, 21, 17), (59, 21, 17), (61, 21, 4), (62, 21, 2800), (63, 21, 2800), (64, 21, 2800), (65, 21, 2800), (66, 21, 2800), (67, 21, 2800), (68, 21, 2800), (69, 21, 2800), (70, 21, 2800), (71, 21, 2800), (72, 21, 160), (73, 21, 4), (74, 21, 4), (75, 21, 5600), (76, 21, 4), (77, 21, 700), (78, 21, 700), (79, 21, 700), (80, 21, 700), (81, 21, 16800), (82, 21, 16), (90, 21, 1640), (92, 21, 8), (93, 22, 32), (94, 22, 32), (95, 21, 32), (96, 21, 32), (97, 23, 512), (98, 23, 192), (99, 21, 32), (100, 21, 8), (101, 21, 8), (102, 23, 32), (103, 21, 8), (104, 21, 8), (105, 21, 8), (106, 21, 8), (107, 21, 1600), (108, 23, 3240), (109, 23, 16), (110, 23, 6), (112, 21, 40), (114, 21, 4), (115, 21, 4), (116, 21, 192), (117, 21, 192), (118, 21, 192), (119, 21, 192), (120, 21, 192), (121, 21, 6144), (122, 21, 6144)].length := (by rw [hB204]; exact n102)
  have s103 : mS B204 = mS B203 + 0 := (by rw [hB204]; rfl)
  have f103 : fr (fun c => c = x0) M B204 := f102.tr (by rw [hB204]; exact fr_wI (S := fun c => c = x0) rfl) (fun _ _ z => z)
  have i103 : mI B204 x0 = (fun j => if j = 124 then (-1 : Int32) else ((fun j => if j = 123 then (-1 : Int32) else (mI M x0) j)) j) ∧ mJ B204 x0 = mJ M x0 := by rw [hB204]; exact ⟨iset i102.1, i102.2⟩
  refine ⟨by decide, by decide, fun q205 A205 hq205 hA205 => ?_⟩
  intro B206 hB206
  obtain ⟨r104, n104, s104⟩ := rws_step r103 n103 rfl hq205 hA205 hB206
  have f104 : fr (fun c => c = x0) M B206 := f103.tr (by rw [hB206, hA205]; exact fr_nwA.tr (fr_wR (S := fun c => c = x0) rfl) (fun _ _ z => z)) (fun _ _ z => z)
  have i104 : mI B206 x0 = (fun j => if j = 124 then (-1 : Int32) else ((fun j => if j = 123 then (-1 : Int32) else (mI M x0) j)) j) ∧ mJ B206 x0 = mJ M x0 := by rw [hB206, hA205]; exact i103
  exact ⟨trivial, r104, n104, by omega, f104, i104.1, i104.2⟩
def lSums : List (Nat × Nat × Nat) := [(0, 21, 16), (2, 23, 64)]
set_option maxRecDepth 20000 in
set_option maxHeartbeats 4000000 in
theorem S_sumsInit {h x0 : Nat} {M : Mem} (hx : ok M x0 8) : E (h + 1) mdX6_init [.ref x0] M (fun r M' => r = none ∧ rws M' x0 (mN M) lSums ∧ mN M' = mN M + 2 ∧ mS M' = mS M + 80 ∧ fr (fun c => c = x0) M M' ∧ mI M' x0 = mI M x0 ∧ mJ M' x0 = mJ M x0) := by
  refine KX6_init ?_
  unfold DX6_init_0
  simp only [e16, e64]
  refine ⟨by decide, by decide, fun q1 A1 hq1 hA1 => ?_⟩
  refine ⟨by rw [hA1]; exact ok_nwA hx, ?_⟩
  intro B2 hB2
  obtain ⟨r1, n1, s1⟩ := rws_step (rws_0 (M := M) (x := x0) (n0 := mN M)) rfl rfl hq1 hA1 hB2
  have f1 : fr (fun c => c = x0) M B2 := (by rw [hB2, hA1]; exact fr_nwA.tr (fr_wR (S := fun c => c = x0) rfl) (fun _ _ z => z))
  have i1 : mI B2 x0 = mI M x0 ∧ mJ B2 x0 = mJ M x0 := by rw [hB2, hA1]; exact ⟨rfl, rfl⟩
  refine ⟨by decide, by decide, fun q3 A3 hq3 hA3 => ?_⟩
  intro B4 hB4
  obtain ⟨r2, n2, s2⟩ := rws_step r1 n1 rfl hq3 hA3 hB4
  have f2 : fr (fun c => c = x0) M B4 := f1.tr (by rw [hB4, hA3]; exact fr_nwA.tr (fr_wR (S := fun c => c = x0) rfl) (fun _ _ z => z)) (fun _ _ z => z)
  have i2 : mI B4 x0 = mI M x0 ∧ mJ B4 x0 = mJ M x0 := by rw [hB4, hA3]; exact i1
  exact ⟨trivial, r2, n2, by omega, f2, i2.1, i2.2⟩
end
section
/-! what is read behind a write, for simp: no definitional rules -/
theorem mNwI (M : Mem) (a k : Nat) (v : Int32) : mN (wI M a k v) = mN M := (rfl)
theorem mSwI (M : Mem) (a k : Nat) (v : Int32) : mS (wI M a k v) = mS M := (rfl)
theorem mKwI (M : Mem) (a k : Nat) (v : Int32) : mK (wI M a k v) = mK M := (rfl)
theorem mIwI (M : Mem) (a k : Nat) (v : Int32) (b j : Nat) : mI (wI M a k v) b j = if b = a ∧ j = k then v else mI M b j := (rfl)
theorem mJwI (M : Mem) (a k : Nat) (v : Int32) : mJ (wI M a k v) = mJ M := (rfl)
theorem mRwI (M : Mem) (a k : Nat) (v : Int32) : mR (wI M a k v) = mR M := (rfl)
theorem mLwI (M : Mem) (a k : Nat) (v : Int32) : mL (wI M a k v) = mL M := (rfl)
theorem mAIwI (M : Mem) (a k : Nat) (v : Int32) : mAI (wI M a k v) = mAI M := (rfl)
theorem mAJwI (M : Mem) (a k : Nat) (v : Int32) : mAJ (wI M a k v) = mAJ M := (rfl)
theorem mARwI (M : Mem) (a k : Nat) (v : Int32) : mAR (wI M a k v) = mAR M := (rfl)
theorem mNwJ (M : Mem) (a k : Nat) (v : Int64) : mN (wJ M a k v) = mN M := (rfl)
theorem mSwJ (M : Mem) (a k : Nat) (v : Int64) : mS (wJ M a k v) = mS M := (rfl)
theorem mKwJ (M : Mem) (a k : Nat) (v : Int64) : mK (wJ M a k v) = mK M := (rfl)
theorem mIwJ (M : Mem) (a k : Nat) (v : Int64) : mI (wJ M a k v) = mI M := (rfl)
theorem mJwJ (M : Mem) (a k : Nat) (v : Int64) (b j : Nat) : mJ (wJ M a k v) b j = if b = a ∧ j = k then v else mJ M b j := (rfl)
theorem mRwJ (M : Mem) (a k : Nat) (v : Int64) : mR (wJ M a k v) = mR M := (rfl)
theorem mLwJ (M : Mem) (a k : Nat) (v : Int64) : mL (wJ M a k v) = mL M := (rfl)
theorem mAIwJ (M : Mem) (a k : Nat) (v : Int64) : mAI (wJ M a k v) = mAI M := (rfl)
theorem mAJwJ (M : Mem) (a k : Nat) (v : Int64) : mAJ (wJ M a k v) = mAJ M := (rfl)
theorem mARwJ (M : Mem) (a k : Nat) (v : Int64) : mAR (wJ M a k v) = mAR M := (rfl)
theorem mNwR (M : Mem) (a k : Nat) (v : Option Nat) : mN (wR M a k v) = mN M := (rfl)
theorem mSwR (M : Mem) (a k : Nat) (v : Option Nat) : mS (wR M a k v) = mS M := (rfl)
theorem mKwR (M : Mem) (a k : Nat) (v : Option Nat) : mK (wR M a k v) = mK M := (rfl)
theorem mIwR (M : Mem) (a k : Nat) (v : Option Nat) : mI (wR M a k v) = mI M := (rfl)
theorem mJwR (M : Mem) (a k : Nat) (v : Option Nat) : mJ (wR M a k v) = mJ M := (rfl)
theorem mRwR (M : Mem) (a k : Nat) (v : Option Nat) (b j : Nat) : mR (wR M a k v) b j = if b = a ∧ j = k then v else mR M b j := (rfl)
theorem mLwR (M : Mem) (a k : Nat) (v : Option Nat) : mL (wR M a k v) = mL M := (rfl)
theorem mAIwR (M : Mem) (a k : Nat) (v : Option Nat) : mAI (wR M a k v) = mAI M := (rfl)
theorem mAJwR (M : Mem) (a k : Nat) (v : Option Nat) : mAJ (wR M a k v) = mAJ M := (rfl)
theorem mARwR (M : Mem) (a k : Nat) (v : Option Nat) : mAR (wR M a k v) = mAR M := (rfl)
theorem mNwAI (M : Mem) (a k : Nat) (v : Int32) : mN (wAI M a k v) = mN M := (rfl)
theorem mSwAI (M : Mem) (a k : Nat) (v : Int32) : mS (wAI M a k v) = mS M := (rfl)
theorem mKwAI (M : Mem) (a k : Nat) (v : Int32) : mK (wAI M a k v) = mK M := (rfl)
theorem mIwAI (M : Mem) (a k : Nat) (v : Int32) : mI (wAI M a k v) = mI M := (rfl)
theorem mJwAI (M : Mem) (a k : Nat) (v : Int32) : mJ (wAI M a k v) = mJ M := (rfl)
theorem mRwAI (M : Mem) (a k : Nat) (v : Int32) : mR (wAI M a k v) = mR M := (rfl)
theorem mLwAI (M : Mem) (a k : Nat) (v : Int32) : mL (wAI M a k v) = mL M := (rfl)
theorem mAIwAI (M : Mem) (a k : Nat) (v : Int32) (b j : Nat) : mAI (wAI M a k v) b j = if b = a ∧ j = k then v else mAI M b j := (rfl)
theorem mAJwAI (M : Mem) (a k : Nat) (v : Int32) : mAJ (wAI M a k v) = mAJ M := (rfl)
theorem mARwAI (M : Mem) (a k : Nat) (v : Int32) : mAR (wAI M a k v) = mAR M := (rfl)
theorem mNwAJ (M : Mem) (a k : Nat) (v : Int64) : mN (wAJ M a k v) = mN M := (rfl)
theorem mSwAJ (M : Mem) (a k : Nat) (v : Int64) : mS (wAJ M a k v) = mS M := (rfl)
theorem mKwAJ (M : Mem) (a k : Nat) (v : Int64) : mK (wAJ M a k v) = mK M := (rfl)
theorem mIwAJ (M : Mem) (a k : Nat) (v : Int64) : mI (wAJ M a k v) = mI M := (rfl)
theorem mJwAJ (M : Mem) (a k : Nat) (v : Int64) : mJ (wAJ M a k v) = mJ M := (rfl)
theorem mRwAJ (M : Mem) (a k : Nat) (v : Int64) : mR (wAJ M a k v) = mR M := (rfl)
theorem mLwAJ (M : Mem) (a k : Nat) (v : Int64) : mL (wAJ M a k v) = mL M := (rfl)
theorem mAIwAJ (M : Mem) (a k : Nat) (v : Int64) : mAI (wAJ M a k v) = mAI M := (rfl)
theorem mAJwAJ (M : Mem) (a k : Nat) (v : Int64) (b j : Nat) : mAJ (wAJ M a k v) b j = if b = a ∧ j = k then v else mAJ M b j := (rfl)
theorem mARwAJ (M : Mem) (a k : Nat) (v : Int64) : mAR (wAJ M a k v) = mAR M := (rfl)
theorem mNwAR (M : Mem) (a k : Nat) (v : Option Nat) : mN (wAR M a k v) = mN M := (rfl)
theorem mSwAR (M : Mem) (a k : Nat) (v : Option Nat) : mS (wAR M a k v) = mS M := (rfl)
theorem mKwAR (M : Mem) (a k : Nat) (v : Option Nat) : mK (wAR M a k v) = mK M := (rfl)
theorem mIwAR (M : Mem) (a k : Nat) (v : Option Nat) : mI (wAR M a k v) = mI M := (rfl)
theorem mJwAR (M : Mem) (a k : Nat) (v : Option Nat) : mJ (wAR M a k v) = mJ M := (rfl)
theorem mRwAR (M : Mem) (a k : Nat) (v : Option Nat) : mR (wAR M a k v) = mR M := (rfl)
theorem mLwAR (M : Mem) (a k : Nat) (v : Option Nat) : mL (wAR M a k v) = mL M := (rfl)
theorem mAIwAR (M : Mem) (a k : Nat) (v : Option Nat) : mAI (wAR M a k v) = mAI M := (rfl)
theorem mAJwAR (M : Mem) (a k : Nat) (v : Option Nat) : mAJ (wAR M a k v) = mAJ M := (rfl)
theorem mARwAR (M : Mem) (a k : Nat) (v : Option Nat) (b j : Nat) : mAR (wAR M a k v) b j = if b = a ∧ j = k then v else mAR M b j := (rfl)
theorem mNnwO (M : Mem) (ci n : Nat) : mN (nwO M ci n) = mN M + 1 := (rfl)
theorem mNnwA (M : Mem) (ci n : Nat) : mN (nwA M ci n) = mN M + 1 := (rfl)
theorem mNwCp (M : Mem) (b a sp dp n : Nat) : mN (wCp M b a sp dp n) = mN M := (rfl)
theorem mSnwO (M : Mem) (ci n : Nat) : mS (nwO M ci n) = mS M + n := (rfl)
theorem mSnwA (M : Mem) (ci n : Nat) : mS (nwA M ci n) = mS M + n := (rfl)
theorem mSwCp (M : Mem) (b a sp dp n : Nat) : mS (wCp M b a sp dp n) = mS M := (rfl)
theorem mKnwO (M : Mem) (ci n : Nat) : mK (nwO M ci n) = va_up (mK M) (mN M) ci := (rfl)
theorem mKnwA (M : Mem) (ci n : Nat) : mK (nwA M ci n) = va_up (mK M) (mN M) ci := (rfl)
theorem mKwCp (M : Mem) (b a sp dp n : Nat) : mK (wCp M b a sp dp n) = mK M := (rfl)
theorem mInwO (M : Mem) (ci n : Nat) : mI (nwO M ci n) = va_up (mI M) (mN M) (fun _ => 0) := (rfl)
theorem mInwA (M : Mem) (ci n : Nat) : mI (nwA M ci n) = mI M := (rfl)
theorem mIwCp (M : Mem) (b a sp dp n : Nat) : mI (wCp M b a sp dp n) = mI M := (rfl)
theorem mJnwO (M : Mem) (ci n : Nat) : mJ (nwO M ci n) = va_up (mJ M) (mN M) (fun _ => 0) := (rfl)
theorem mJnwA (M : Mem) (ci n : Nat) : mJ (nwA M ci n) = mJ M := (rfl)
theorem mJwCp (M : Mem) (b a sp dp n : Nat) : mJ (wCp M b a sp dp n) = mJ M := (rfl)
theorem mRnwO (M : Mem) (ci n : Nat) : mR (nwO M ci n) = va_up (mR M) (mN M) (fun _ => none) := (rfl)
theorem mRnwA (M : Mem) (ci n : Nat) : mR (nwA M ci n) = mR M := (rfl)
theorem mRwCp (M : Mem) (b a sp dp n : Nat) : mR (wCp M b a sp dp n) = mR M := (rfl)
theorem mLnwO (M : Mem) (ci n : Nat) : mL (nwO M ci n) = mL M := (rfl)
theorem mLnwA (M : Mem) (ci n : Nat) : mL (nwA M ci n) = va_up (mL M) (mN M) n := (rfl)
theorem mLwCp (M : Mem) (b a sp dp n : Nat) : mL (wCp M b a sp dp n) = mL M := (rfl)
theorem mAInwO (M : Mem) (ci n : Nat) : mAI (nwO M ci n) = mAI M := (rfl)
theorem mAInwA (M : Mem) (ci n : Nat) : mAI (nwA M ci n) = va_up (mAI M) (mN M) (fun _ => 0) := (rfl)
theorem mAIwCp (M : Mem) (b a sp dp n : Nat) : mAI (wCp M b a sp dp n) = va_up (mAI M) a (va_cpy (mAI M b) (mAI M a) sp dp n) := (rfl)
theorem mAJnwO (M : Mem) (ci n : Nat) : mAJ (nwO M ci n) = mAJ M := (rfl)
theorem mAJnwA (M : Mem) (ci n : Nat) : mAJ (nwA M ci n) = va_up (mAJ M) (mN M) (fun _ => 0) := (rfl)
theorem mAJwCp (M : Mem) (b a sp dp n : Nat) : mAJ (wCp M b a sp dp n) = mAJ M := (rfl)
theorem mARnwO (M : Mem) (ci n : Nat) : mAR (nwO M ci n) = mAR M := (rfl)
theorem mARnwA (M : Mem) (ci n : Nat) : mAR (nwA M ci n) = va_up (mAR M) (mN M) (fun _ => none) := (rfl)
theorem mARwCp (M : Mem) (b a sp dp n : Nat) : mAR (wCp M b a sp dp n) = mAR M := (rfl)
theorem okkwI {M : Mem} {a k b c : Nat} {v : Int32} : (ok (wI M a k v) b c) ↔ ok M b c := (Iff.rfl)
theorem okkwJ {M : Mem} {a k b c : Nat} {v : Int64} : (ok (wJ M a k v) b c) ↔ ok M b c := (Iff.rfl)
theorem okkwR {M : Mem} {a k b c : Nat} {v : Option Nat} : (ok (wR M a k v) b c) ↔ ok M b c := (Iff.rfl)
theorem okkwAI {M : Mem} {a k b c : Nat} {v : Int32} : (ok (wAI M a k v) b c) ↔ ok M b c := (Iff.rfl)
theorem okkwAJ {M : Mem} {a k b c : Nat} {v : Int64} : (ok (wAJ M a k v) b c) ↔ ok M b c := (Iff.rfl)
theorem okkwAR {M : Mem} {a k b c : Nat} {v : Option Nat} : (ok (wAR M a k v) b c) ↔ ok M b c := (Iff.rfl)
end
section
/-! Int32 by omega; constructors of the class, exactly -/
def bmx (a : Int) : Int := if a % 4294967296 < 2147483648 then a % 4294967296 else a % 4294967296 - 4294967296
theorem bmx_eq (a : Int) : Int.bmod a (2^32) = bmx a := by rw [Int.bmod_def]; rfl
theorem j_add (x y : Int32) : (x + y).toInt = if (x.toInt + y.toInt) % 4294967296 < 2147483648 then (x.toInt + y.toInt) % 4294967296 else (x.toInt + y.toInt) % 4294967296 - 4294967296 := by rw [Int32.toInt_add]; exact bmx_eq _
theorem j_sub (x y : Int32) : (x - y).toInt = if (x.toInt - y.toInt) % 4294967296 < 2147483648 then (x.toInt - y.toInt) % 4294967296 else (x.toInt - y.toInt) % 4294967296 - 4294967296 := by rw [Int32.toInt_sub]; exact bmx_eq _
theorem j_mul (x y : Int32) : (x * y).toInt = if (x.toInt * y.toInt) % 4294967296 < 2147483648 then (x.toInt * y.toInt) % 4294967296 else (x.toInt * y.toInt) % 4294967296 - 4294967296 := by rw [Int32.toInt_mul]; exact bmx_eq _
theorem j_neg (x : Int32) : (-x).toInt = if (-x.toInt) % 4294967296 < 2147483648 then (-x.toInt) % 4294967296 else (-x.toInt) % 4294967296 - 4294967296 := by rw [Int32.toInt_neg]; exact bmx_eq _
theorem j_nat (n : Nat) : (Int32.ofNat n).toInt = if (n : Int) % 4294967296 < 2147483648 then (n : Int) % 4294967296 else (n : Int) % 4294967296 - 4294967296 := by rw [Int32.toInt_ofNat']; exact bmx_eq _
theorem j_lo (x : Int32) : -2147483648 ≤ x.toInt := Int32.le_toInt x
theorem j_hi (x : Int32) : x.toInt < 2147483648 := Int32.toInt_lt x
theorem ti32 {n : Nat} (h : n < 2147483648) : (Int32.ofNat n).toInt = n := by rw [j_nat]; omega
theorem lt32 {n : Nat} (h : n < 2147483648) : (Int32.ofNat n).toNatClampNeg = n := by ((try simp only [Int32.toNatClampNeg, Int32.lt_iff_toInt_lt, Int32.le_iff_toInt_le, ← Int32.toInt_inj, j_add, j_sub, j_neg, j_mul, j_nat, Int32.reduceToInt, vp_in]); omega)
theorem vp_of {n k : Nat} (h : n < k) (hk : k < 2147483648) : vp_in (Int32.ofNat n) k := by ((try simp only [Int32.toNatClampNeg, Int32.lt_iff_toInt_lt, Int32.le_iff_toInt_le, ← Int32.toInt_inj, j_add, j_sub, j_neg, j_mul, j_nat, Int32.reduceToInt, vp_in]); omega)
theorem inj32 {a b : Nat} (ha : a < 2147483648) (hb : b < 2147483648) (h : Int32.ofNat a = Int32.ofNat b) : a = b := by
  rw [← lt32 ha, ← lt32 hb, h]
theorem succ32 {a : Nat} : Int32.ofNat a + 1 = Int32.ofNat (a + 1) := by
  rw [Int32.ofNat_add]; rfl
theorem add32 {a c : Nat} : Int32.ofNat a + Int32.ofNat c = Int32.ofNat (a + c) := (Int32.ofNat_add a c).symm
theorem le32 {a b : Nat} (ha : a < 2147483648) (hb : b < 2147483648) : (Int32.ofNat a ≤ Int32.ofNat b) ↔ a ≤ b := by ((try simp only [Int32.toNatClampNeg, Int32.lt_iff_toInt_lt, Int32.le_iff_toInt_le, ← Int32.toInt_inj, j_add, j_sub, j_neg, j_mul, j_nat, Int32.reduceToInt, vp_in]); omega)
theorem ltn32 {a b : Nat} (ha : a < 2147483648) (hb : b < 2147483648) : (Int32.ofNat a < Int32.ofNat b) ↔ a < b := by ((try simp only [Int32.toNatClampNeg, Int32.lt_iff_toInt_lt, Int32.le_iff_toInt_le, ← Int32.toInt_inj, j_add, j_sub, j_neg, j_mul, j_nat, Int32.reduceToInt, vp_in]); omega)
theorem S_len0 {h : Nat} {M : Mem} {Q : Option Value → Mem → Prop} (H : Q (some (.int (Int32.ofNat 176))) M) : E (h + 2) mdJ0_length_8abf5 [.ref (mBig + 1)] M Q := (C_length (i := 0) (by decide)).imp (fun r M' _ hp => by rw [hp.1, hp.2]; exact H)
theorem S_chr0 {h i : Nat} (hi : i < 176) {M : Mem} {Q : Option Value → Mem → Prop} (H : Q (some (.int (chK 0 i))) M) : E (h + 4) mdJ0_charAt_5068e [.ref (mBig + 1), .int (Int32.ofNat i)] M Q := (C_charAt (i := 0) (k := Int32.ofNat i) (by decide) (vp_of hi (by decide))).imp (fun r M' _ hp => by rw [hp.1, hp.2, lt32 (by omega)]; exact H)
def nf (M : Mem) (x f kd n : Nat) : Mem := wR (nwA M kd n) x f (some (mN M))
def nfs (M : Mem) (x : Nat) (l : List (Nat × Nat × Nat)) : Mem := l.foldl (fun M e => nf M x e.1 e.2.1 e.2.2) M
theorem nf_step {M M1 M2 : Mem} {x k kd len q : Nat} (hq : q = mN M) (e1 : M1 = nwA M kd len) (e2 : M2 = wR M1 x k (some q)) : M2 = nf M x k kd len := by subst e2 e1 hq; rfl
theorem nf_E {M : Mem} {x k kd len : Nat} : mE M (nf M x k kd len) := mE_nwA.tr mE_wR
theorem ok_nf {M : Mem} {a ci x k kd len : Nat} (h : ok M a ci) : ok (nf M x k kd len) a ci := ok_E h nf_E
theorem S_treeX {h x0 : Nat} {M : Mem} (hx : ok M x0 10) : E (h + 1) mdX8_init [.ref x0] M (fun r M' => r = none ∧ M' = nfs M x0 lTree) := by
  refine KX8_init ?_
  unfold DX8_init_0
  simp only [e640]
  refine ⟨by decide, by decide, fun q2 M1 hq2 hM1 => ⟨by rw [hM1]; exact ok_nwA hx, fun M4 hM4 => ?_⟩⟩
  have m1 := nf_step hq2 hM1 hM4
  refine ⟨by decide, by decide, fun q6 M5 hq6 hM5 M7 hM7 => ?_⟩
  have m2 := nf_step hq6 hM5 hM7
  refine ⟨by decide, by decide, fun q9 M8 hq9 hM8 M10 hM10 => ?_⟩
  have m3 := nf_step hq9 hM8 hM10
  refine ⟨by decide, by decide, fun q12 M11 hq12 hM11 M13 hM13 => ?_⟩
  have m4 := nf_step hq12 hM11 hM13
  refine ⟨by decide, by decide, fun q15 M14 hq15 hM14 M16 hM16 => ?_⟩
  have m5 := nf_step hq15 hM14 hM16
  refine ⟨by decide, by decide, fun q18 M17 hq18 hM17 M19 hM19 => ?_⟩
  have m6 := nf_step hq18 hM17 hM19
  refine ⟨by decide, by decide, fun q21 M20 hq21 hM20 M22 hM22 => ?_⟩
  have m7 := nf_step hq21 hM20 hM22
  refine ⟨by decide, by decide, fun q24 M23 hq24 hM23 M25 hM25 => ?_⟩
  have m8 := nf_step hq24 hM23 hM25
  refine ⟨by decide, by decide, fun q27 M26 hq27 hM26 M28 hM28 => ?_⟩
  have m9 := nf_step hq27 hM26 hM28
  exact ⟨trivial, by rw [m9, m8, m7, m6, m5, m4, m3, m2, m1]; rfl⟩
def lWeaver : List (Nat × Nat × Nat) := [(1, 21, 640), (2, 21, 640), (3, 21, 640), (4, 21, 640), (5, 21, 640), (6, 21, 640), (7, 21, 12800)]
theorem e12800 : (12800 : Int32).toNatClampNeg = 12800 := by decide
theorem S_weaverX {h x0 x1 : Nat} {M : Mem} (hx : ok M x0 11) : E (h + 1) mdX9_init [.ref x0, .ref x1] M (fun r M' => r = none ∧ M' = wR (nfs M x0 lWeaver) x0 0 (some x1)) := by
  refine KX9_init ?_
  unfold DX9_init_0
  simp only [e640, e12800]
  refine ⟨by decide, by decide, fun q2 M1 hq2 hM1 => ⟨by rw [hM1]; exact ok_nwA hx, fun M4 hM4 => ?_⟩⟩
  have m1 := nf_step hq2 hM1 hM4
  refine ⟨by decide, by decide, fun q6 M5 hq6 hM5 M7 hM7 => ?_⟩
  have m2 := nf_step hq6 hM5 hM7
  refine ⟨by decide, by decide, fun q9 M8 hq9 hM8 M10 hM10 => ?_⟩
  have m3 := nf_step hq9 hM8 hM10
  refine ⟨by decide, by decide, fun q12 M11 hq12 hM11 M13 hM13 => ?_⟩
  have m4 := nf_step hq12 hM11 hM13
  refine ⟨by decide, by decide, fun q15 M14 hq15 hM14 M16 hM16 => ?_⟩
  have m5 := nf_step hq15 hM14 hM16
  refine ⟨by decide, by decide, fun q18 M17 hq18 hM17 M19 hM19 => ?_⟩
  have m6 := nf_step hq18 hM17 hM19
  refine ⟨by decide, by decide, fun q21 M20 hq21 hM20 M22 hM22 => ?_⟩
  have m7 := nf_step hq21 hM20 hM22
  intro M23 hM23
  exact ⟨trivial, by rw [hM23, m7, m6, m5, m4, m3, m2, m1]; rfl⟩
/-! Tokens -/
def wRowJ (M : Mem) (b : Nat) (f : Nat → Int64) : Mem := (mN M, mS M, mK M, mI M, mJ M, mR M, mL M, mAI M, va_up (mAJ M) b f, mAR M)
def spl (c : Int64) (l : Int32) : Int64 := (((c * 32) + (l.toInt64)) - 97) + 1
def kloop : Nat → Nat → Nat → (Nat → Int64) → (Nat → Int64)
  | 0, _, _, K => K
  | n + 1, i, key, K => if 33 ≤ key then K else if chK 0 i = 32 then kloop n (i + 1) (key + 1) K else kloop n (i + 1) key (fun j => if j = key then spl (K key) (chK 0 i) else K j)
theorem wRowJ_self {M : Mem} {b : Nat} : wRowJ M b (mAJ M b) = M := by
  have : va_up (mAJ M) b (mAJ M b) = mAJ M := by
    funext a; unfold va_up; split
    · rename_i h; rw [h]
    · rfl
  unfold wRowJ; rw [this]; rfl
theorem wRowJ_wAJ {M : Mem} {b k : Nat} {v : Int64} {f : Nat → Int64} : wRowJ (wAJ M b k v) b f = wRowJ M b f := by
  have : va_up (mAJ (wAJ M b k v)) b f = va_up (mAJ M) b f := by
    funext a; unfold va_up; split
    · rfl
    · rename_i h; exact up2_row h
  unfold wRowJ; rw [this]; rfl
theorem mAJ_wAJ_row {M : Mem} {b k : Nat} {v : Int64} : mAJ (wAJ M b k v) b = (fun j => if j = k then v else mAJ M b j) := by
  funext j; show (if b = b ∧ j = k then v else mAJ M b j) = _; simp
theorem S_spelled {h : Nat} {c : Int64} {l : Int32} {M : Mem} {Q : Option Value → Mem → Prop} (H : Q (some (.long (spl c l))) M) : E (h + 1) mdX7_spelled [.long c, .int l] M Q := by
  refine KX7_spelled ?_
  unfold DX7_spelled_0
  exact H
theorem keys_loop {h x0 b : Nat} : ∀ (n i key : Nat) (M : Mem), i + n = 176 → key ≤ 33 → ok M x0 9 → mR M x0 1 = some b → ok M b 23 → mL M b = 33 →
    T (h + 6) mdX7_init 48 [(0, .ref x0), (2, .int (Int32.ofNat key)), (3, .int (Int32.ofNat i))] [] M (fun r M' => r = none ∧ M' = wRowJ M b (kloop n i key (mAJ M b))) := by
  intro n
  induction n with
  | zero =>
    intro i key M hi hk ho hr hb hl
    refine VX7_init_48 ?_
    unfold DX7_init_48
    refine S_len0 (fun _ => ⟨_, rfl, fun _ => ?_, fun hn => ?_⟩)
    · unfold DX7_init_107; exact ⟨rfl, wRowJ_self.symm⟩
    · exact absurd ((le32 (by decide) (by omega)).mpr (by omega)) hn
  | succ n ih =>
    intro i key M hi hk ho hr hb hl
    refine VX7_init_48 ?_
    unfold DX7_init_48
    refine S_len0 (fun _ => ⟨_, rfl, fun hc => ?_, fun _ => ⟨fun h33 => ?_, fun h33 => ?_⟩⟩)
    · exact absurd ((le32 (by decide) (by omega)).mp hc) (by omega)
    · have : 33 ≤ key := (le32 (a := 33) (by decide) (by omega)).mp h33
      unfold DX7_init_107
      refine ⟨rfl, ?_⟩
      unfold kloop
      rw [if_pos this, wRowJ_self]
    have h33 : ¬ 33 ≤ key := fun z => h33 ((le32 (a := 33) (by decide) (by omega)).mpr z)
    refine S_chr0 (by omega) (fun _ => ⟨_, rfl, fun hne => ?_, fun heq => ?_⟩)
    · have hvk : vp_in (Int32.ofNat key) (mL M b) := by rw [hl]; exact vp_of (by omega) (by decide)
      refine ⟨ho, b, hr, b, hr, hb, hvk, S_chr0 (by omega) (fun _ => ⟨_, rfl, S_spelled (fun _ => ⟨_, rfl, hb, hvk, fun M5 hM5 => ?_⟩)⟩)⟩
      unfold DX7_init_101
      rw [succ32]
      have := ih (i + 1) key M5 (by omega) hk (by rw [hM5]; exact ho) (by rw [hM5]; exact hr) (by rw [hM5]; exact hb) (by rw [hM5]; exact hl)
      refine this.imp (fun r M' hp => ⟨hp.1, ?_⟩)
      rw [hp.2, hM5, wRowJ_wAJ, mAJ_wAJ_row]
      conv => rhs; unfold kloop
      rw [if_neg h33, if_neg hne, lt32 (by omega)]
    · unfold DX7_init_101
      rw [succ32, succ32]
      have := ih (i + 1) (key + 1) M (by omega) (by omega) ho hr hb hl
      refine this.imp (fun r M' hp => ⟨hp.1, ?_⟩)
      rw [hp.2]
      conv => rhs; unfold kloop
      rw [if_neg h33, if_pos heq]
theorem e801 : (801 : Int32).toNatClampNeg = 801 := by decide
theorem e33 : (33 : Int32).toNatClampNeg = 33 := by decide
def keysF : Nat → Int64 := kloop 176 0 0 (fun _ => 0)
def tokX (M : Mem) (x0 x1 : Nat) : Mem := nf (wR (nf (nf (nf M x0 4 21 801) x0 5 21 801) x0 6 23 801) x0 0 (some x1)) x0 1 23 33
theorem S_tokX {h x0 x1 : Nat} {M : Mem} (hx : ok M x0 9) : E (h + 6) mdX7_init [.ref x0, .ref x1] M (fun r M' => r = none ∧ M' = wRowJ (tokX M x0 x1) (mN M + 3) keysF) := by
  refine KX7_init ?_
  unfold DX7_init_0
  simp only [e801, e33]
  refine ⟨by decide, by decide, fun q2 M1 hq2 hM1 => ⟨by rw [hM1]; exact ok_nwA hx, fun M4 hM4 => ?_⟩⟩
  have m1 := nf_step hq2 hM1 hM4
  refine ⟨by decide, by decide, fun q6 M5 hq6 hM5 M7 hM7 => ?_⟩
  have m2 := nf_step hq6 hM5 hM7
  refine ⟨by decide, by decide, fun q9 M8 hq9 hM8 M10 hM10 => ?_⟩
  have m3 := nf_step hq9 hM8 hM10
  intro M11 hM11
  refine ⟨by decide, by decide, fun q13 M12 hq13 hM12 M14 hM14 => ?_⟩
  have m4 := nf_step hq13 hM12 hM14
  have e : M14 = tokX M x0 x1 := by rw [m4, hM11, m3, m2, m1]; rfl
  have nb : mN M11 = mN M + 3 := by rw [hM11, m3, m2, m1]; rfl
  have hx1 : ok M11 x0 9 := by
    have h4 : ok M4 x0 9 := by rw [m1]; exact ok_nf hx
    have h7 : ok M7 x0 9 := by rw [m2]; exact ok_nf h4
    have h10 : ok M10 x0 9 := by rw [m3]; exact ok_nf h7
    rw [hM11]; exact h10
  have hrow : mAJ M14 (mN M11) = (fun _ => 0) := by
    rw [m4]; exact va_up_self _ _ _
  have := keys_loop (h := h) (x0 := x0) (b := mN M11) 176 0 0 M14 rfl (by decide) (by rw [m4]; exact ok_nf hx1) (by rw [m4]; exact up2_eq) (by rw [m4]; exact ok_newA (n := 33)) (by rw [m4]; exact va_up_self _ _ _)
  refine this.imp (fun r M' hp => ⟨hp.1, ?_⟩)
  rw [hp.2, hrow, nb, e]; rfl
/-! Reader, BeatMill -/
def readX (M : Mem) (x0 x1 x2 : Nat) : Mem := nf (wR (wR (wRowJ (tokX (nwO M 9 14) (mN M) x1) (mN M + 4) keysF) x0 0 (some (mN M))) x0 1 (some x2)) x0 2 23 16
theorem S_readX {h x0 x1 x2 : Nat} {M : Mem} (hx : ok M x0 6) : E (h + 7) mdX4_init [.ref x0, .ref x1, .ref x2] M (fun r M' => r = none ∧ M' = readX M x0 x1 x2) := by
  refine KX4_init ?_
  unfold DX4_init_0
  simp only [e16]
  intro q2 M1 hq2 hM1
  refine (S_tokX (M := M1) (x0 := q2) (by rw [hq2, hM1]; exact ok_newO)).imp (fun r M3 hE hp hE2 => ⟨hp.1, ok_E (by rw [hM1]; exact ok_nwO hx) hE2, fun M5 hM5 M6 hM6 => ?_⟩)
  refine ⟨by decide, by decide, fun q8 M7 hq8 hM7 M9 hM9 => ?_⟩
  have m1 := nf_step hq8 hM7 hM9
  refine ⟨trivial, ?_⟩
  rw [m1, hM6, hM5, hp.2, hM1, hq2]
  rfl
def alX (M : Mem) (x f : Nat) : Mem := wR (wR (wI (nwO M 1 3) (mN M) 0 0) (mN M) 1 (some (mBig + 5))) x f (some (mN M))
def mA0 : Mem := nf (nwO mem0 12 9) 0 0 20 800
def mB0 : Mem := alX mA0 0 2
def mC0 : Mem := alX mB0 0 3
def mD0 : Mem := nfs (nwO mC0 10 11) 4 lTree
def mE0 : Mem := wR (readX (nwO mD0 6 8) 14 1 4) 0 4 (some 14)
def mF0 : Mem := wR (nfs (nwO mE0 11 9) 21 lWeaver) 21 0 (some 4)
def mG0 : Mem := wI (wI (wR mF0 0 5 (some 21)) 0 7 (-1)) 0 8 (-1)
set_option maxRecDepth 4000 in
theorem n_A0 : mN mA0 = 2 := rfl
theorem n_B0 : mN mB0 = 3 := rfl
theorem n_C0 : mN mC0 = 4 := rfl
theorem n_D0 : mN mD0 = 14 := rfl
theorem n_E0 : mN mE0 = 21 := rfl
theorem n_F0 : mN mF0 = 29 := rfl
theorem r_D0 : mR (nwO mD0 6 8) 0 0 = some 1 := rfl
theorem S_mill0 {h : Nat} : E (h + 8) mdX10_init [.ref 0] (nwO mem0 12 9) (fun r M' => r = none ∧ M' = mG0) := by
  refine KX10_init ?_
  unfold DX10_init_0
  simp only [e800]
  refine ⟨by decide, by decide, fun q2 M1 hq2 hM1 => ⟨by rw [hM1]; exact ⟨by decide, rfl⟩, fun M4 hM4 => ?_⟩⟩
  have m1 : M4 = mA0 := nf_step hq2 hM1 hM4
  clear hM4 hM1 hq2
  subst m1
  intro q6 M5 hq6 hM5
  have hq6 : q6 = 2 := hq6.trans n_A0
  subst hq6 hM5
  refine (C_alInit (M := nwO mA0 1 3) (a := 2) ⟨by decide, rfl⟩).imp (fun r M7 hE hp hE2 => ⟨hp.1, fun M8 hM8 => ?_⟩)
  have m2 : M8 = mB0 := by rw [hM8, hp.2]; rfl
  clear hp hM8 hE hE2
  subst m2
  intro q6 M5 hq6 hM5
  have hq6 : q6 = 3 := hq6.trans n_B0
  subst hq6 hM5
  refine (C_alInit (M := nwO mB0 1 3) (a := 3) ⟨by decide, rfl⟩).imp (fun r M7 hE hp hE2 => ⟨hp.1, fun M8 hM8 => ?_⟩)
  have m2 : M8 = mC0 := by rw [hM8, hp.2]; rfl
  clear hp hM8 hE hE2
  subst m2
  intro q6 M5 hq6 hM5
  have hq6 : q6 = 4 := hq6.trans n_C0
  subst hq6 hM5
  refine (S_treeX (M := nwO mC0 10 11) (x0 := 4) ⟨by decide, rfl⟩).imp (fun r M7 hE hp hE2 => ⟨hp.1, fun q17 M16 hq17 hM16 => ?_⟩)
  have m2 : M7 = mD0 := hp.2
  clear hp hE hE2
  subst m2
  have hq17 : q17 = 14 := hq17.trans n_D0
  subst hq17 hM16
  refine ⟨1, r_D0, ?_⟩
  refine (S_readX (M := nwO mD0 6 8) (x0 := 14) ⟨by decide, rfl⟩).imp (fun r M19 hE hp hE2 => ⟨hp.1, fun M20 hM20 q22 M21 hq22 hM21 => ?_⟩)
  have m2 : M20 = mE0 := by rw [hM20, hp.2]; rfl
  clear hp hE hE2 hM20
  subst m2
  have hq22 : q22 = 21 := hq22.trans n_E0
  subst hq22 hM21
  refine (S_weaverX (M := nwO mE0 11 9) (x0 := 21) ⟨by decide, rfl⟩).imp (fun r M23 hE hp hE2 => ⟨hp.1, fun M24 hM24 M25 hM25 M26 hM26 => ⟨trivial, ?_⟩⟩)
  have m2 : M23 = mF0 := hp.2
  rw [hM26, hM25, hM24, m2]
  rfl
end
