/-! the reference's equations of a beat -/
/-- a module of the reference: its number, nodes, their children, parts, masks, numbers, codes, conditions, signals, their sorts -/
abbrev RMo : Type := Nat × RBs × (Nat → List Nat) × (Nat → Nat → Int32) × (Nat → Int32) × (Nat → Int32) × Nat × List Cd × Nat × (Nat → Int32)
/-- what a beat begins with: pauses set, signals before, truths of ifs by part, first, inputs -/
abbrev RIn : Type := Int32 × (Nat → Nat) × (Nat → Nat) × Nat × (Nat → Nat)
def moM (R : RMo) : Nat := R.1
def moS (R : RMo) : RBs := R.2.1
def moG (R : RMo) : Nat → List Nat := R.2.2.1
def moA (R : RMo) : Nat → Nat → Int32 := R.2.2.2.1
def moK (R : RMo) : Nat → Int32 := R.2.2.2.2.1
def moN (R : RMo) : Nat → Int32 := R.2.2.2.2.2.1
def moC (R : RMo) : Nat := R.2.2.2.2.2.2.1
def moY (R : RMo) : List Cd := R.2.2.2.2.2.2.2.1
def moQ (R : RMo) : Nat := R.2.2.2.2.2.2.2.2.1
def moT (R : RMo) : Nat → Int32 := R.2.2.2.2.2.2.2.2.2
def iSet (I : RIn) : Int32 := I.1
def iBf (I : RIn) : Nat → Nat := I.2.1
def iTr (I : RIn) : Nat → Nat := I.2.2.1
def iFi (I : RIn) : Nat := I.2.2.2.1
def iGv (I : RIn) : Nat → Nat := I.2.2.2.2
/-- places: (0 go, 1 res, 2 susp, 3 kill; node), (4; node; code), (5; signal) -/
abbrev Plc : Type := Nat × Nat × Nat
def hvM (set mask : Int32) : Nat := if set &&& mask = 0 then 0 else 1
def hdV (set mask : Int32) (a : Nat) : Nat := v3A a (hvM set mask)
theorem hdV_if {set mask : Int32} {a : Nat} (h : a ≤ 2) : hdV set mask a = if set &&& mask = 0 then 0 else a := by
  unfold hdV hvM
  by_cases z : set &&& mask = 0
  · rw [if_pos z, if_pos z, v3A_0.2]
  · rw [if_neg z, if_neg z, (v3A_1 h).2]
section
variable (R : RMo) (I : RIn)
def cndR (ρ : Plc → Nat) (p : Nat) : Nat := (cvL (fun s => ρ (5, s, 0)) (iBf I) (moY R)).getD ((moA R 63 p).toNatClampNeg - 410 * moM R) 0
def lokR (ρ : Plc → Nat) (y : Nat) : Nat := if (moS R).2 80 y = 5 then iTr I ((moS R).2 81 y).toNatClampNeg else cndR R I ρ ((moS R).2 81 y).toNatClampNeg
def upR (y : Nat) : Nat := ((moS R).2 86 y).toNatClampNeg
def enR (ρ : Plc → Nat) (c y : Nat) : Nat :=
  if (moS R).2 86 y = -1 then (if c = 0 then (if iFi I = 1 then 1 else 0) else if c = 1 then (if iFi I = 1 then 0 else 1) else 0)
  else if c = 0 then (if (moS R).2 80 (upR R y) = 4 ∨ (moS R).2 80 (upR R y) = 5 then v3A (ρ (0, upR R y, 0)) (if (moS R).2 85 y = -1 then lokR R I ρ (upR R y) else v3N (lokR R I ρ (upR R y))) else if (moS R).2 80 (upR R y) = 6 then (if (moS R).2 85 y = -1 then ρ (0, upR R y, 0) else ρ (4, ((moS R).2 85 y).toNatClampNeg, 0)) else if (moS R).2 80 (upR R y) = 7 then v3O (ρ (0, upR R y, 0)) (ρ (4, y, 0)) else ρ (0, upR R y, 0))
  else if c = 1 then (if (moS R).2 80 (upR R y) = 8 then v3A (hdV (iSet I) (moK R (upR R y)) (ρ (1, upR R y, 0))) (v3N (lokR R I ρ (upR R y))) else ρ (1, upR R y, 0))
  else if c = 2 then (if (moS R).2 80 (upR R y) = 8 then v3O (ρ (2, upR R y, 0)) (v3A (hdV (iSet I) (moK R (upR R y)) (ρ (1, upR R y, 0))) (lokR R I ρ (upR R y))) else ρ (2, upR R y, 0))
  else (if (moS R).2 80 (upR R y) = 10 then v3O (ρ (3, upR R y, 0)) (ρ (4, y, 2)) else ρ (3, upR R y, 0))
def orR (ρ : Plc → Nat) (y n : Nat) : Nat := oI (fun i => ρ (4, (moG R y).getD i 0, n)) (moG R y).length
def rsR (ρ : Plc → Nat) (y c : Nat) : Nat := v3A (v3A (ρ (1, y, 0)) (hvM (iSet I) (moK R y))) (v3N (hvM (iSet I) (moK R c)))
def alF (ρ : Plc → Nat) (y n : Nat) : Nat → Nat
  | 0 => orR R ρ y n
  | i + 1 => v3A (alF ρ y n i) (rcV (rsR R I ρ y ((moG R y).getD i 0)) (fun j => ρ (4, (moG R y).getD i 0, j)) (n + 1))
def cdR (ρ : Plc → Nat) (y n : Nat) : Nat :=
  if (moS R).2 80 y = 2 then (if n = 1 then ρ (0, y, 0) else if n = 0 then hdV (iSet I) (moK R y) (ρ (1, y, 0)) else 0)
  else if (moS R).2 80 y = 3 then (if Int32.ofNat n = moN R y then ρ (0, y, 0) else 0)
  else if (moS R).2 80 y = 4 ∨ (moS R).2 80 y = 5 then (if n = 0 ∧ (moS R).2 84 ((moG R y).getD 0 0) = -1 then v3O (orR R ρ y n) (v3A (ρ (0, y, 0)) (v3N (lokR R I ρ y))) else orR R ρ y n)
  else if (moS R).2 80 y = 6 then (if n = 0 then ρ (4, (moG R y).getLastD 0, 0) else orR R ρ y n)
  else if (moS R).2 80 y = 7 then (if n = 0 then 0 else ρ (4, (moG R y).getD 0 0, n))
  else if (moS R).2 80 y = 8 then (if n = 1 then v3O (ρ (4, (moG R y).getD 0 0, 1)) (v3A (hdV (iSet I) (moK R y) (ρ (1, y, 0))) (lokR R I ρ y)) else ρ (4, (moG R y).getD 0 0, n))
  else if (moS R).2 80 y = 9 then alF R I ρ y n (moG R y).length
  else if (moS R).2 80 y = 10 then (if n = 0 then v3O (ρ (4, (moG R y).getD 0 0, 0)) (ρ (4, (moG R y).getD 0 0, 2)) else if n = 1 then ρ (4, (moG R y).getD 0 0, 1) else if n + 1 < moC R then ρ (4, (moG R y).getD 0 0, n + 1) else 0)
  else (if n = 0 then ρ (0, y, 0) else 0)
/-- node 700 m + k emits signal s -/
abbrev emK (s k : Nat) : Prop := (moS R).2 80 (700 * moM R + k) = 1 ∧ moA R 60 ((moS R).2 81 (700 * moM R + k)).toNatClampNeg = Int32.ofNat s
def emR (ρ : Plc → Nat) (s : Nat) : Nat → Nat
  | 0 => 0
  | k + 1 => if emK R s k then v3O (emR ρ s k) (ρ (0, 700 * moM R + k, 0)) else emR ρ s k
abbrev inR (y : Nat) : Prop := 700 * moM R ≤ y ∧ y < 700 * moM R + (moS R).1
def FrA (ρ : Plc → Nat) (c y n : Nat) : Nat :=
  if c ≤ 3 then (if inR R y ∧ n = 0 then enR R I ρ c y else 2)
  else if c = 4 then (if inR R y ∧ n < moC R then cdR R I ρ y n else 2)
  else if c = 5 ∧ y < moQ R ∧ n = 0 then (if moT R y = 0 then iGv I y else emR R ρ y (moS R).1) else 2
def FrR (ρ : Plc → Nat) (i : Plc) : Nat := FrA R I ρ i.1 i.2.1 i.2.2
end
section
variable {R : RMo} {I : RIn} {ρ ρ' : Plc → Nat}
theorem hdV_mo {set mask : Int32} {a a' : Nat} (h : lq3 a a') : lq3 (hdV set mask a) (hdV set mask a') := v3A_mo h lq3.rf
theorem cndR_mo (h : Lq ρ ρ') (p : Nat) : lq3 (cndR R I ρ p) (cndR R I ρ' p) := Cg_lq.cl1 (fun d _ _ => h (5, d.2.1, 0)) _
theorem lokR_mo (h : Lq ρ ρ') (y : Nat) : lq3 (lokR R I ρ y) (lokR R I ρ' y) := by
  unfold lokR
  by_cases z : (moS R).2 80 y = 5
  · rw [if_pos z, if_pos z]; exact lq3.rf
  · rw [if_neg z, if_neg z]; exact cndR_mo h _
theorem if_mo {p : Prop} [Decidable p] {a a' c c' : Nat} (h : p → lq3 a a') (k : ¬ p → lq3 c c') : lq3 (if p then a else c) (if p then a' else c') := by
  by_cases z : p
  · rw [if_pos z, if_pos z]; exact h z
  · rw [if_neg z, if_neg z]; exact k z
theorem enR_mo (h : Lq ρ ρ') (c y : Nat) : lq3 (enR R I ρ c y) (enR R I ρ' c y) := by
  unfold enR
  refine if_mo (fun _ => lq3.rf) (fun _ => if_mo (fun _ => if_mo (fun _ => v3A_mo (h _) (if_mo (fun _ => lokR_mo h _) (fun _ => v3N_mo (lokR_mo h _)))) (fun _ => if_mo (fun _ => if_mo (fun _ => h _) (fun _ => h _)) (fun _ => if_mo (fun _ => v3O_mo (h _) (h _)) (fun _ => h _)))) (fun _ => if_mo (fun _ => if_mo (fun _ => v3A_mo (hdV_mo (h _)) (v3N_mo (lokR_mo h _))) (fun _ => h _)) (fun _ => if_mo (fun _ => if_mo (fun _ => v3O_mo (h _) (v3A_mo (hdV_mo (h _)) (lokR_mo h _))) (fun _ => h _)) (fun _ => if_mo (fun _ => v3O_mo (h _) (h _)) (fun _ => h _)))))
theorem orR_mo (h : Lq ρ ρ') (y n : Nat) : lq3 (orR R ρ y n) (orR R ρ' y n) := oI_mo _ (fun k _ => h _)
theorem rsR_mo (h : Lq ρ ρ') (y c : Nat) : lq3 (rsR R I ρ y c) (rsR R I ρ' y c) := by
  unfold rsR
  exact v3A_mo (v3A_mo (h _) lq3.rf) lq3.rf
theorem alF_mo (h : Lq ρ ρ') (y n : Nat) : ∀ i, lq3 (alF R I ρ y n i) (alF R I ρ' y n i)
  | 0 => orR_mo h y n
  | i + 1 => v3A_mo (alF_mo h y n i) (rcV_mo (rsR_mo h _ _) _ (fun k _ => h _))
theorem cdR_mo (h : Lq ρ ρ') (y n : Nat) : lq3 (cdR R I ρ y n) (cdR R I ρ' y n) := by
  unfold cdR
  refine if_mo (fun _ => if_mo (fun _ => h _) (fun _ => if_mo (fun _ => hdV_mo (h _)) (fun _ => lq3.rf))) (fun _ => if_mo (fun _ => if_mo (fun _ => h _) (fun _ => lq3.rf)) (fun _ => if_mo (fun _ => if_mo (fun _ => v3O_mo (orR_mo h _ _) (v3A_mo (h _) (v3N_mo (lokR_mo h _)))) (fun _ => orR_mo h _ _)) (fun _ => if_mo (fun _ => if_mo (fun _ => h _) (fun _ => orR_mo h _ _)) (fun _ => if_mo (fun _ => if_mo (fun _ => lq3.rf) (fun _ => h _)) (fun _ => if_mo (fun _ => if_mo (fun _ => v3O_mo (h _) (v3A_mo (hdV_mo (h _)) (lokR_mo h _))) (fun _ => h _)) (fun _ => if_mo (fun _ => alF_mo h _ _ _) (fun _ => if_mo (fun _ => if_mo (fun _ => v3O_mo (h _) (h _)) (fun _ => if_mo (fun _ => h _) (fun _ => if_mo (fun _ => h _) (fun _ => lq3.rf)))) (fun _ => if_mo (fun _ => h _) (fun _ => lq3.rf)))))))))
theorem emR_mo (h : Lq ρ ρ') (s : Nat) : ∀ k, lq3 (emR R ρ s k) (emR R ρ' s k)
  | 0 => lq3.rf
  | k + 1 => if_mo (fun _ => v3O_mo (emR_mo h s k) (h _)) (fun _ => emR_mo h s k)
theorem FrR_mo : MoF (FrR R I) := by
  intro ρ ρ' h i
  unfold FrR FrA
  exact if_mo (fun _ => if_mo (fun _ => enR_mo h _ _) (fun _ => lq3.rf)) (fun _ => if_mo (fun _ => if_mo (fun _ => cdR_mo h _ _) (fun _ => lq3.rf)) (fun _ => if_mo (fun _ => if_mo (fun _ => lq3.rf) (fun _ => emR_mo h _ _)) (fun _ => lq3.rf)))
end
