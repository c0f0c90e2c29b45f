/-! nets by lanes -/
def btL (x : Int32) (l : Nat) : Bool := x.toBitVec.getLsbD l
/-- the truth of net n in lane l -/
def laV (len : Nat) (Y Z : Nat → Int32) (l n : Nat) : Nat := if n < len then (if btL (Y n) l = true then 1 else if btL (Z n) l = true then 0 else 2) else 2
/-- no net is both -/
def CoL (len : Nat) (Y Z : Nat → Int32) : Prop := ∀ n l, n < len → l < 32 → ¬ (btL (Y n) l = true ∧ btL (Z n) l = true)
def laN (Y Z : Nat → Int32) (a : Nat) : Int32 := if a % 2 = 0 then Y (a / 2) else Z (a / 2)
theorem btL_and {x y : Int32} {l : Nat} : btL (x &&& y) l = (btL x l && btL y l) := by
  unfold btL
  rw [Int32.toBitVec_and, BitVec.getLsbD_and]
theorem btL_or {x y : Int32} {l : Nat} : btL (x ||| y) l = (btL x l || btL y l) := by
  unfold btL
  rw [Int32.toBitVec_or, BitVec.getLsbD_or]
theorem btL_ext {x y : Int32} (h : ∀ l, l < 32 → btL x l = btL y l) : x = y := by
  have : x.toBitVec = y.toBitVec := BitVec.eq_of_getLsbD_eq (fun l hl => h l hl)
  exact Int32.toBitVec_inj.mp this
section
variable {len : Nat} {Y Z Y' Z' : Nat → Int32} {l n a c : Nat}
theorem laV_1 (hn : n < len) : laV len Y Z l n = 1 ↔ btL (Y n) l = true := by
  unfold laV
  rw [if_pos hn]
  by_cases y : btL (Y n) l = true
  · rw [if_pos y]; exact ⟨fun _ => y, fun _ => rfl⟩
  · rw [if_neg y]
    by_cases z : btL (Z n) l = true
    · rw [if_pos z]; exact ⟨fun e => absurd e (by decide), fun e => absurd e y⟩
    · rw [if_neg z]; exact ⟨fun e => absurd e (by decide), fun e => absurd e y⟩
theorem laV_0 (hC : CoL len Y Z) (hn : n < len) (hl : l < 32) : laV len Y Z l n = 0 ↔ btL (Z n) l = true := by
  unfold laV
  rw [if_pos hn]
  by_cases y : btL (Y n) l = true
  · rw [if_pos y]; exact ⟨fun e => absurd e (by decide), fun e => absurd ⟨y, e⟩ (hC n l hn hl)⟩
  · rw [if_neg y]
    by_cases z : btL (Z n) l = true
    · rw [if_pos z]; exact ⟨fun _ => z, fun _ => rfl⟩
    · rw [if_neg z]; exact ⟨fun e => absurd e (by decide), fun e => absurd e z⟩
theorem laV_le : laV len Y Z l n ≤ 2 := by
  unfold laV
  split
  · split
    · decide
    · split <;> decide
  · decide
/-- a literal is 1 where its lane says so -/
theorem laN_1 (hC : CoL len Y Z) (ha : a < 2 * len) (hl : l < 32) : btL (laN Y Z a) l = true ↔ lvN (laV len Y Z l) a = 1 := by
  unfold laN lvN
  by_cases e : a % 2 = 0
  · rw [if_pos e, if_pos e]
    exact (laV_1 (by omega)).symm
  · rw [if_neg e, if_neg e, ← laV_0 hC (by omega) hl]
    have := laV_le (len := len) (Y := Y) (Z := Z) (l := l) (n := a / 2)
    generalize laV len Y Z l (a / 2) = q at this ⊢
    unfold v3N
    by_cases z : q = 2
    · rw [if_pos z, z]; exact ⟨fun h => absurd h (by decide), fun h => absurd h (by decide)⟩
    · rw [if_neg z]; omega
theorem nlt_lv {v : Nat → Nat} (h : ∀ n, v n ≤ 2) : lvN v (nlt a) = 1 ↔ lvN v a = 0 := by
  rw [lv_n h]
  have := lv_le (v := v) (l := a) h
  generalize lvN v a = q at this ⊢
  unfold v3N
  by_cases z : q = 2
  · rw [if_pos z, z]; exact ⟨fun h => absurd h (by decide), fun h => absurd h (by decide)⟩
  · rw [if_neg z]; omega
/-- what a sweep writes at a net -/
theorem la_sw (hC : CoL len Y Z) (ha : a < 2 * len) (hc : c < 2 * len) (hl : l < 32) : (btL (laN Y Z a &&& laN Y Z c) l = true ↔ v3A (lvN (laV len Y Z l) a) (lvN (laV len Y Z l) c) = 1) ∧ (btL (laN Y Z (nlt a) ||| laN Y Z (nlt c)) l = true ↔ v3A (lvN (laV len Y Z l) a) (lvN (laV len Y Z l) c) = 0) := by
  have le : ∀ n, laV len Y Z l n ≤ 2 := fun n => laV_le
  rw [btL_and, btL_or, Bool.and_eq_true, Bool.or_eq_true, laN_1 hC ha hl, laN_1 hC hc hl, laN_1 hC (nlt_lt ha) hl, laN_1 hC (nlt_lt hc) hl, nlt_lv le, nlt_lv le]
  have b1 := lv_le (v := laV len Y Z l) (l := a) le
  have b2 := lv_le (v := laV len Y Z l) (l := c) le
  generalize lvN (laV len Y Z l) a = p at b1 ⊢
  generalize lvN (laV len Y Z l) c = q at b2 ⊢
  unfold v3A
  by_cases z : p = 0 ∨ q = 0
  · rw [if_pos z]; omega
  · rw [if_neg z]
    by_cases y : p = 1 ∧ q = 1
    · rw [if_pos y]; omega
    · rw [if_neg y]; omega
/-- a sweep's step: net n is written -/
def upL (Y : Nat → Int32) (n : Nat) (x : Int32) : Nat → Int32 := fun j => if j = n then x else Y j
theorem la_up (hC : CoL len Y Z) (hn : n < len) (ha : a < 2 * len) (hc : c < 2 * len) : CoL len (upL Y n (laN Y Z a &&& laN Y Z c)) (upL Z n (laN Y Z (nlt a) ||| laN Y Z (nlt c))) ∧ ∀ l, l < 32 → ∀ j, laV len (upL Y n (laN Y Z a &&& laN Y Z c)) (upL Z n (laN Y Z (nlt a) ||| laN Y Z (nlt c))) l j = if j = n then v3A (lvN (laV len Y Z l) a) (lvN (laV len Y Z l) c) else laV len Y Z l j := by
  have cn : CoL len (upL Y n (laN Y Z a &&& laN Y Z c)) (upL Z n (laN Y Z (nlt a) ||| laN Y Z (nlt c))) := by
    intro j l hj hl
    unfold upL
    by_cases e : j = n
    · rw [if_pos e, if_pos e, (la_sw hC ha hc hl).1, (la_sw hC ha hc hl).2]
      omega
    · rw [if_neg e, if_neg e]; exact hC j l hj hl
  refine ⟨cn, fun l hl j => ?_⟩
  by_cases e : j = n
  · rw [if_pos e, e]
    have b := v3A_le (lvN (laV len Y Z l) a) (lvN (laV len Y Z l) c)
    have q1 := laV_1 (len := len) (Y := upL Y n (laN Y Z a &&& laN Y Z c)) (Z := upL Z n (laN Y Z (nlt a) ||| laN Y Z (nlt c))) (l := l) hn
    have q0 := laV_0 (l := l) cn hn hl
    have q2 := laV_le (len := len) (Y := upL Y n (laN Y Z a &&& laN Y Z c)) (Z := upL Z n (laN Y Z (nlt a) ||| laN Y Z (nlt c))) (l := l) (n := n)
    have e1 : upL Y n (laN Y Z a &&& laN Y Z c) n = laN Y Z a &&& laN Y Z c := if_pos rfl
    have e0 : upL Z n (laN Y Z (nlt a) ||| laN Y Z (nlt c)) n = laN Y Z (nlt a) ||| laN Y Z (nlt c) := if_pos rfl
    rw [e1, (la_sw hC ha hc hl).1] at q1
    rw [e0, (la_sw hC ha hc hl).2] at q0
    omega
  · rw [if_neg e]
    unfold laV upL
    rw [if_neg e, if_neg e]
/-- lanes that say the same are the same words -/
theorem la_eq (hC : CoL len Y Z) (hC' : CoL len Y' Z') (hn : n < len) (h : ∀ l, l < 32 → laV len Y Z l n = laV len Y' Z' l n) : Y n = Y' n ∧ Z n = Z' n := by
  have bb : ∀ {p q : Bool}, (p = true ↔ q = true) → p = q := fun {p q} h => by
    cases p <;> cases q <;> simp_all
  refine ⟨btL_ext (fun l hl => bb ?_), btL_ext (fun l hl => bb ?_)⟩
  · rw [← laV_1 (Z := Z) (Y := Y) hn, ← laV_1 (Z := Z') (Y := Y') hn, h l hl]
  · rw [← laV_0 hC hn hl, ← laV_0 hC' hn hl, h l hl]
end
