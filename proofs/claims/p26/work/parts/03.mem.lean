/-! THE ABSTRACT MEMORY: cells by number (not by address), kinds, fields by (cell, field number), arrays by (cell, place) -/
def mBig : Nat := 1099511627776
abbrev Mem : Type := Nat × Nat × (Nat → Nat) × (Nat → Nat → Int32) × (Nat → Nat → Int64) × (Nat → Nat → Option Nat) × (Nat → Nat) × (Nat → Nat → Int32) × (Nat → Nat → Int64) × (Nat → Nat → Option Nat)
/-- how many cells, slots; kind; int, long, reference fields; length; int, long, reference elements -/
def mN (M : Mem) : Nat := M.1
def mS (M : Mem) : Nat := M.2.1
def mK (M : Mem) : Nat → Nat := M.2.2.1
def mI (M : Mem) : Nat → Nat → Int32 := M.2.2.2.1
def mJ (M : Mem) : Nat → Nat → Int64 := M.2.2.2.2.1
def mR (M : Mem) : Nat → Nat → Option Nat := M.2.2.2.2.2.1
def mL (M : Mem) : Nat → Nat := M.2.2.2.2.2.2.1
def mAI (M : Mem) : Nat → Nat → Int32 := M.2.2.2.2.2.2.2.1
def mAJ (M : Mem) : Nat → Nat → Int64 := M.2.2.2.2.2.2.2.2.1
def mAR (M : Mem) : Nat → Nat → Option Nat := M.2.2.2.2.2.2.2.2.2
def up2 {α : Type} (f : Nat → Nat → α) (a k : Nat) (v : α) : Nat → Nat → α := fun b j => if b = a ∧ j = k then v else f b j
def wI (M : Mem) (a k : Nat) (v : Int32) : Mem := (mN M, mS M, mK M, up2 (mI M) a k v, mJ M, mR M, mL M, mAI M, mAJ M, mAR M)
def wJ (M : Mem) (a k : Nat) (v : Int64) : Mem := (mN M, mS M, mK M, mI M, up2 (mJ M) a k v, mR M, mL M, mAI M, mAJ M, mAR M)
def wR (M : Mem) (a k : Nat) (v : Option Nat) : Mem := (mN M, mS M, mK M, mI M, mJ M, up2 (mR M) a k v, mL M, mAI M, mAJ M, mAR M)
def wAI (M : Mem) (a k : Nat) (v : Int32) : Mem := (mN M, mS M, mK M, mI M, mJ M, mR M, mL M, up2 (mAI M) a k v, mAJ M, mAR M)
def wAJ (M : Mem) (a k : Nat) (v : Int64) : Mem := (mN M, mS M, mK M, mI M, mJ M, mR M, mL M, mAI M, up2 (mAJ M) a k v, mAR M)
def wAR (M : Mem) (a k : Nat) (v : Option Nat) : Mem := (mN M, mS M, mK M, mI M, mJ M, mR M, mL M, mAI M, mAJ M, up2 (mAR M) a k v)
/-- a new object of a class with n fields; a new array -/
def nwO (M : Mem) (ci n : Nat) : Mem := (mN M + 1, mS M + n, va_up (mK M) (mN M) ci, va_up (mI M) (mN M) (fun _ => 0), va_up (mJ M) (mN M) (fun _ => 0), va_up (mR M) (mN M) (fun _ => none), mL M, mAI M, mAJ M, mAR M)
def nwA (M : Mem) (kd n : Nat) : Mem := (mN M + 1, mS M + n, va_up (mK M) (mN M) kd, mI M, mJ M, mR M, va_up (mL M) (mN M) n, va_up (mAI M) (mN M) (fun _ => 0), va_up (mAJ M) (mN M) (fun _ => 0), va_up (mAR M) (mN M) (fun _ => none))
/-! how it lies in a heap: 'ad' gives each cell's address, 'cy' the array classes -/
def cv (ad : Nat → Nat) : Value → Value
  | .ref a => .ref (ad a)
  | v => v
def cls (ci : Nat) : vw_C := vwCl.getD ci (RJ6, TJ6, 1)
def ftX (ci k : Nat) : Nat := match parseFieldDescriptor ((cls ci).2.1 k).2.2.1 with
  | some .long => 1
  | some (.object _) => 2
  | some (.array _) => 2
  | _ => 0
def fV (ad : Nat → Nat) (M : Mem) (ci a k : Nat) : Value := if ftX ci k = 0 then .int (mI M a k) else if ftX ci k = 1 then .long (mJ M a k) else va_rf ((mR M a k).map ad)
def cE (cy : Nat → ClassId) (ad : Nat → Nat) (M : Mem) (a : Nat) : va_E :=
  if mK M a < 20 then .inr (mK M a, (List.range (cls (mK M a)).2.2).map (fV ad M (mK M a) a))
  else if mK M a < 23 then .inl (cy (mK M a), mL M a, .inl (mAI M a))
  else if mK M a < 24 then .inl (cy (mK M a), mL M a, .inr (.inl (mAJ M a)))
  else .inl (cy (mK M a), mL M a, .inr (.inr (.inr (.inr (fun i => (mAR M a i).map ad)))))
def mW (cy : Nat → ClassId) (ad : Nat → Nat) (M : Mem) : va_W := (List.range (mN M)).map (fun a => (ad a, cE cy ad M a))
/-- kinds of arrays: 20 byte, 21 int, 22 boolean, 23 long, 24 Object, 25 int[] -/
def mT (cy : Nat → ClassId) : List (ClassId × FieldType) := [(cy 20, .byte), (cy 21, .int), (cy 22, .boolean), (cy 23, .long), (cy 24, .object "java/lang/Object"), (cy 25, .array .int)]
theorem mW_at {cy : Nat → ClassId} {ad : Nat → Nat} {M : Mem} {a : Nat} (h : a < mN M) : (mW cy ad M)[a]? = some (ad a, cE cy ad M a) := by
  simp [mW, h]
theorem mW_len (cy : Nat → ClassId) (ad : Nat → Nat) (M : Mem) : (mW cy ad M).length = mN M := by simp [mW]
/-- one entry is changed: the list as its place is set -/
theorem mW_set {cy : Nat → ClassId} {ad : Nat → Nat} {M M2 : Mem} {a : Nat} (hn : mN M2 = mN M) (h : ∀ b, b < mN M → b ≠ a → cE cy ad M2 b = cE cy ad M b) : (mW cy ad M).set a (ad a, cE cy ad M2 a) = mW cy ad M2 := by
  apply List.ext_getElem?
  intro k
  by_cases hk : k < mN M
  · by_cases he : k = a
    · subst he
      rw [List.getElem?_set_self (by rw [mW_len]; exact hk), mW_at (by rw [hn]; exact hk)]
    · rw [List.getElem?_set_ne (fun z => he z.symm), mW_at hk, mW_at (by rw [hn]; exact hk), h k hk he]
  · rw [List.getElem?_eq_none (by rw [List.length_set, mW_len]; omega), List.getElem?_eq_none (by rw [mW_len, hn]; omega)]
/-- one entry comes at the end -/
theorem mW_push {cy : Nat → ClassId} {ad ad2 : Nat → Nat} {M M2 : Mem} (hn : mN M2 = mN M + 1) (h : ∀ b, b < mN M → ad2 b = ad b ∧ cE cy ad2 M2 b = cE cy ad M b) : mW cy ad M ++ [(ad2 (mN M), cE cy ad2 M2 (mN M))] = mW cy ad2 M2 := by
  apply List.ext_getElem?
  intro k
  by_cases hk : k < mN M
  · rw [List.getElem?_append_left (by rw [mW_len]; exact hk), mW_at hk, mW_at (by rw [hn]; omega), (h k hk).1, (h k hk).2]
  · by_cases he : k = mN M
    · subst he
      rw [List.getElem?_append_right (by rw [mW_len]; exact Nat.le_refl _), mW_len, Nat.sub_self, mW_at (by rw [hn]; omega)]
      rfl
    · rw [List.getElem?_eq_none (by rw [List.length_append, mW_len]; simp; omega), List.getElem?_eq_none (by rw [mW_len, hn]; omega)]
/-- what later memories keep of earlier ones -/
def mE (M M' : Mem) : Prop := mN M ≤ mN M' ∧ mS M ≤ mS M' ∧ ∀ a, a < mN M → mK M' a = mK M a ∧ mL M' a = mL M a
theorem mE.rf {M : Mem} : mE M M := ⟨Nat.le_refl _, Nat.le_refl _, fun _ _ => ⟨rfl, rfl⟩⟩
theorem mE.tr {M M1 M2 : Mem} (h : mE M M1) (k : mE M1 M2) : mE M M2 := ⟨Nat.le_trans h.1 k.1, Nat.le_trans h.2.1 k.2.1, fun a q => ⟨(k.2.2 a (Nat.lt_of_lt_of_le q h.1)).1.trans (h.2.2 a q).1, (k.2.2 a (Nat.lt_of_lt_of_le q h.1)).2.trans (h.2.2 a q).2⟩⟩
theorem mE_wI {M : Mem} {a k : Nat} {v : Int32} : mE M (wI M a k v) := mE.rf
theorem mE_wJ {M : Mem} {a k : Nat} {v : Int64} : mE M (wJ M a k v) := mE.rf
theorem mE_wR {M : Mem} {a k : Nat} {v : Option Nat} : mE M (wR M a k v) := mE.rf
theorem mE_wAI {M : Mem} {a k : Nat} {v : Int32} : mE M (wAI M a k v) := mE.rf
theorem mE_wAJ {M : Mem} {a k : Nat} {v : Int64} : mE M (wAJ M a k v) := mE.rf
theorem mE_wAR {M : Mem} {a k : Nat} {v : Option Nat} : mE M (wAR M a k v) := mE.rf
theorem mE_nwO {M : Mem} {ci n : Nat} : mE M (nwO M ci n) := ⟨Nat.le_succ _, Nat.le_add_right _ _, fun a h => ⟨by show va_up (mK M) (mN M) ci a = mK M a; unfold va_up; rw [if_neg (Nat.ne_of_lt h)], rfl⟩⟩
theorem mE_nwA {M : Mem} {kd n : Nat} : mE M (nwA M kd n) := ⟨Nat.le_succ _, Nat.le_add_right _ _, fun a h => ⟨by show va_up (mK M) (mN M) kd a = mK M a; unfold va_up; rw [if_neg (Nat.ne_of_lt h)], by show va_up (mL M) (mN M) n a = mL M a; unfold va_up; rw [if_neg (Nat.ne_of_lt h)]⟩⟩
/-- the words that every method has: the good ones of the tables -/
def TB : List Cond := lw_tbl.filter goodWord
theorem TB_good : GoodIn TB TB := fun w h => ⟨h, good_of_word (List.mem_filter.mp h).2⟩
/-- a method: its name, code, locals, what it answers -/
abbrev MD : Type := MethodName × ByteArray × Nat × Option FieldType × (State → (Nat → Prop) → (Nat → Nat) → Prop)
def noX : State → (Nat → Prop) → (Nat → Nat) → Prop := fun _ _ _ => True
def wsm (d : MD) : List Cond := .code d.1 d.2.1 d.2.2.1 d.2.2.2.1 :: TB
def rmv (h c s : Nat) : Room := { frames := h, cells := c, slots := s, locals := 120 * h }
