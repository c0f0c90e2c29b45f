/-! parts, in the middle: what the reference's rows and the class's objects come to while the parts are read -/
def soK (k : Int32) : Nat := if k = 37 then 0 else if k = 38 then 1 else if k = 39 then 2 else if k = 40 then 3 else if k = 41 then 4 else if k = 42 then 5 else if k = 44 then 6 else if k = 47 then 7 else if k = 49 then 8 else if k = 50 then 9 else if k = 52 then 10 else if k = 53 then 11 else if k = 55 then 12 else if k = 57 then 13 else if k = 58 then 14 else if k = 2 then 15 else if k = 17 then 16 else 99
def opnK (k : Int32) : Bool := k == 42 || k == 44 || k == 49 || k == 50 || k == 52 || k == 53 || k == 55 || k == 58 || k == 17
def paK (k : Int32) : Nat := if k = 53 then 3 else if k = 38 ∨ k = 39 ∨ k = 41 ∨ k = 47 ∨ k = 49 ∨ k = 50 then 1 else 0
/-- the reference: counters (parts, pauses, ifs, deepest, rows), its arrays by cell, the traps' names -/
abbrev RfT : Type := (Nat → Nat) × (Nat → Nat → Int32) × (Nat → Int64)
/-- the class: the parts' fields, the tree, nets, befores, literals of ifs, codes of sums, given, used -/
abbrev ClT : Type := (Nat → Nat → Int32) × TrT × Nt × (Nat → Nat) × List Int32 × List Int32 × Int32 × Int32
abbrev PS : Type := RfT × ClT × List Nd × List Cd
/-- an open part: its number, its row, how many rows, the class's trap -/
abbrev KE : Type := Nat × Nat × Nat × Option Int64
def npS (σ : PS) : Nat := σ.1.1 0
def trS (σ : PS) : TrT := σ.2.1.2.1
def giS (σ : PS) : Int32 := σ.2.1.2.2.2.2.2.2.1
def usS (σ : PS) : Int32 := σ.2.1.2.2.2.2.2.2.2
def trP1 (σ : PS) (Θ : TrT) : PS := (σ.1, (σ.2.1.1, Θ, σ.2.1.2.2), σ.2.2)
def raP (σ : PS) (A : Nat → Nat → Int32) : PS := ((σ.1.1, A, σ.1.2.2), σ.2)
def paP (σ : PS) (j f : Nat) (v : Int32) : PS := (σ.1, (up2 σ.2.1.1 j f v, σ.2.1.2), σ.2.2)
def guP (σ : PS) (g u : Int32) : PS := (σ.1, (σ.2.1.1, σ.2.1.2.1, σ.2.1.2.2.1, σ.2.1.2.2.2.1, σ.2.1.2.2.2.2.1, σ.2.1.2.2.2.2.2.1, g, u), σ.2.2)
def lkA (p q : Nat) (A : Nat → Nat → Int32) : Nat → Nat → Int32 := if A 73 q = -1 then up2 A 73 q (Int32.ofNat p) else up2 A 70 (A 74 q).toNatClampNeg (Int32.ofNat p)
def bgA (p so pl q : Nat) (wh : Int32) (A : Nat → Nat → Int32) : Nat → Nat → Int32 :=
  up2 (lkA p q (up2 (up2 (up2 (up2 (up2 (up2 (up2 (up2 (up2 A 58 p (Int32.ofNat so)) 59 p (Int32.ofNat pl)) 60 p wh) 61 p 0) 63 p (-1)) 65 p (-1)) 67 p (-1)) 69 p (-1)) 70 p (-1))) 74 q (Int32.ofNat p)
/-- a part begins: kind k at place pl in row q, d parts being open -/
def bgP (m : Nat) (k : Int32) (pl q d : Nat) (wh : Int32) (σ : PS) : PS :=
  ((va_up (va_up (va_up (va_up σ.1.1 0 (σ.1.1 0 + 1)) 1 (σ.1.1 1 + paK k)) 2 (σ.1.1 2 + (if k = 58 then 1 else 0))) 3 (if d + 1 ≤ σ.1.1 3 then σ.1.1 3 else d + 1), bgA (40 * m + σ.1.1 0) (soK k) pl q wh σ.1.2.1, σ.1.2.2), (va_up σ.2.1.1 (σ.1.1 0) (fun f => if f = 0 then Int32.ofNat pl else 0), σ.2.1.2), σ.2.2)
/-- a row begins: the first of part p, or the one behind row q0 -/
def rwP (p : Nat) (q0 : Option Nat) (σ : PS) : PS :=
  ((va_up σ.1.1 4 (σ.1.1 4 + 1), (match q0 with
    | none => up2 (up2 (up2 (up2 σ.1.2.1 73 (σ.1.1 4) (-1)) 74 (σ.1.1 4) (-1)) 75 (σ.1.1 4) (-1)) 69 p (Int32.ofNat (σ.1.1 4))
    | some q => up2 (up2 (up2 (up2 σ.1.2.1 73 (σ.1.1 4) (-1)) 74 (σ.1.1 4) (-1)) 75 (σ.1.1 4) (-1)) 75 q (Int32.ofNat (σ.1.1 4))), σ.1.2.2), σ.2)
/-- a part is whole: its node, its end -/
def fiP (m j x : Nat) (σ : PS) : PS := raP (paP σ j 1 (Int32.ofNat x)) (up2 σ.1.2.1 71 (40 * m + j) (Int32.ofNat (40 * m + σ.1.1 0)))
def trW : List KE → Int64 → Option (Nat × Nat)
  | [], _ => none
  | e :: K, c => match e.2.2.2 with
    | none => trW K c
    | some x => if x = c then some (0, e.1) else (trW K c).map fun r => (r.1 + 1, r.2)
/-- 'every', behind its body -/
def ev1 (Θ : TrT) (x : Nat) : TrT × Nat := prT (haT Θ).1 5 x (haT Θ).2
def ev2 (Θ : TrT) (x : Nat) (l : Int32) : TrT × Nat := abT (ev1 Θ x).1 (ev1 Θ x).2 l
def ev3 (Θ : TrT) (x : Nat) (l : Int32) : TrT × Nat := wrT (ev2 Θ x l).1 6 (ev2 Θ x l).2
def evT (Θ : TrT) (x aw : Nat) (l : Int32) : TrT × Nat := prT (ev3 Θ x l).1 5 aw (ev3 Θ x l).2
section
variable (b : Nat → Int32) (n m : Nat) (τ : Td)
/-- a sum of part j: first and root into cells f1, f2; the class's code begins at field fo -/
def suM (j f1 f2 fo i o : Nat) (σ : PS) : Except (Int32 × Nat) (Nat × PS) :=
  (rd b n τ.1 τ.2.2.1 τ.2.2.2.1 6000 3 i o σ.2.2.1 (usS σ)).bind fun r => .ok (r.1, (σ.1.1, up2 (up2 σ.1.2.1 f1 (40 * m + j) (Int32.ofNat (810 * m + σ.2.2.1.length))) f2 (40 * m + j) (Int32.ofNat (810 * m + (r.2.1.length - 1))), σ.1.2.2), (up2 σ.2.1.1 j fo (Int32.ofNat σ.2.1.2.2.2.2.2.1.length), σ.2.1.2.1, σ.2.1.2.2.1, σ.2.1.2.2.2.1, σ.2.1.2.2.2.2.1, σ.2.1.2.2.2.2.2.1 ++ cdL (r.2.1.drop σ.2.2.1.length) ++ [0], giS σ, r.2.2), r.2.1, σ.2.2.2)
/-- a condition of part j; its literal comes too -/
def coM (j i o : Nat) (σ : PS) : Except (Int32 × Nat) (Nat × PS × Nat) :=
  (rc b n τ.1 6000 3 i o σ.2.2.2).bind fun r => .ok (r.1, ((σ.1.1, up2 (up2 σ.1.2.1 62 (40 * m + j) (Int32.ofNat (410 * m + σ.2.2.2.length))) 63 (40 * m + j) (Int32.ofNat (410 * m + (r.2.length - 1))), σ.1.2.2), (σ.2.1.1, σ.2.1.2.1, (cyL (sgT τ.1.length) (σ.2.1.2.2.1, σ.2.1.2.2.2.1, List.replicate σ.2.2.2.length 0) (r.2.drop σ.2.2.2.length)).1, (cyL (sgT τ.1.length) (σ.2.1.2.2.1, σ.2.1.2.2.2.1, List.replicate σ.2.2.2.length 0) (r.2.drop σ.2.2.2.length)).2.1, σ.2.1.2.2.2.2), σ.2.2.1, r.2), (cyL (sgT τ.1.length) (σ.2.1.2.2.1, σ.2.1.2.2.2.1, List.replicate σ.2.2.2.length 0) (r.2.drop σ.2.2.2.length)).2.2.getD (r.2.length - 1) 0)
def imM (i : Nat) : Except (Int32 × Nat) (Nat × Bool) := if tK b n i = 48 then (adv' b n i).bind fun j => .ok (j, true) else .ok (i, false)
/-- 'immediate' or not, and a condition -/
def atM (j i o : Nat) (σ : PS) : Except (Int32 × Nat) (Nat × PS × Nat × Bool) :=
  (imM b n i).bind fun r => (coM b n m τ j r.1 o (if r.2 = true then raP σ (up2 σ.1.2.1 61 (40 * m + j) 1) else σ)).bind fun q => .ok (q.1, q.2.1, q.2.2, r.2)
/-- emit, sustain: the signal, and the sum in brackets -/
def emM (k : Int32) (j i o : Nat) (σ : PS) : Except (Int32 × Nat) (Nat × PS × Nat) :=
  if tK b n i = 2 then (match fd τ.1 (tC b n i) with
    | none => .error (4, tP b n i)
    | some s => if τ.2.1.getD s 0 = 30 then .error (4, tP b n i) else (adv' b n i).bind fun i2 =>
      if τ.2.2.1.getD s 0 = 0 then (if k = 40 ∧ tK b n i2 = 15 then .error (5, tP b n i) else .ok (i2, raP σ (up2 σ.1.2.1 60 (40 * m + j) (Int32.ofNat s)), s))
      else if k = 40 ∧ tK b n i2 = 15 then (if o = 15 then .error (6, tP b n i2) else (adv' b n i2).bind fun i3 =>
        (suM b n m τ j 64 65 5 i3 (o + 1) (paP (paP (raP σ (up2 σ.1.2.1 60 (40 * m + j) (Int32.ofNat s))) j 3 1) j 4 (Int32.ofNat s))).bind fun r => (ex b n r.1 16).bind fun i4 => .ok (i4, r.2, s))
      else .error (5, tP b n i))
  else .error (2, tP b n i)
/-- a part without rows, behind its first token -/
def lfM (k : Int32) (w : Int64) (j i : Nat) (K : List KE) (σ : PS) : Except (Int32 × Nat) (Nat × PS × Nat) :=
  if k = 38 then .ok (i, trP1 σ (paT (trS σ)).1, (paT (trS σ)).2)
  else if k = 39 then .ok (i, trP1 σ (haT (trS σ)).1, (haT (trS σ)).2)
  else if k = 40 then (emM b n m τ 40 j i K.length σ).bind fun r => .ok (r.1, trP1 r.2.1 (emT (trS r.2.1) r.2.2).1, (emT (trS r.2.1) r.2.2).2)
  else if k = 41 then (emM b n m τ 41 j i K.length σ).bind fun r => .ok (r.1, trP1 r.2.1 (stT (trS r.2.1) r.2.2).1, (stT (trS r.2.1) r.2.2).2)
  else if k = 47 then (atM b n m τ j i K.length σ).bind fun r => .ok (r.1, trP1 r.2.1 (awT (trS r.2.1) (Int32.ofNat r.2.2.1) r.2.2.2).1, (awT (trS r.2.1) (Int32.ofNat r.2.2.1) r.2.2.2).2)
  else if k = 57 then (if tK b n i = 2 then (match trW K (tC b n i) with
      | none => .error (4, tP b n i)
      | some q => (adv' b n i).bind fun i2 => .ok (i2, trP1 (raP σ (up2 σ.1.2.1 60 (40 * m + j) (Int32.ofNat q.2))) (exT (trS σ) q.1).1, (exT (trS σ) q.1).2))
    else .error (2, tP b n i))
  else if k = 2 then (ex b n i 5).bind fun i2 => (suM b n m τ j 64 65 5 i2 K.length (guP (paP (paP σ j 3 2) j 4 (oi (fd τ.2.2.2.1 w))) (giS σ ||| ((1 : Int32) <<< (oi (fd τ.2.2.2.1 w) &&& 31))) (usS σ))).bind fun r => .ok (r.1, trP1 r.2 (mkT (trS r.2) 0).1, (mkT (trS r.2) 0).2)
  else .ok (i, trP1 σ (mkT (trS σ) 0).1, (mkT (trS σ) 0).2)
/-- the head of a part with rows: the literal, immediate or not, a node made ahead, the class's trap -/
def hdM (k : Int32) (j i : Nat) (K : List KE) (σ : PS) : Except (Int32 × Nat) (Nat × PS × Nat × Bool × Nat × Option Int64) :=
  if k = 44 then (coM b n m τ j i (K.length + 1) σ).bind fun r => (ex b n r.1 45).bind fun i2 => .ok (i2, r.2.1, r.2.2, false, 0, none)
  else if k = 49 then .ok (i, σ, 0, false, 0, some 0)
  else if k = 50 then (ex b n i 49).bind fun i2 => .ok (i2, σ, 0, false, 0, some 0)
  else if k = 53 then (atM b n m τ j i (K.length + 1) σ).bind fun r => (ex b n r.1 54).bind fun i2 => .ok (i2, trP1 r.2.1 (awT (trS r.2.1) (Int32.ofNat r.2.2.1) r.2.2.2).1, r.2.2.1, r.2.2.2, (awT (trS r.2.1) (Int32.ofNat r.2.2.1) r.2.2.2).2, some 0)
  else if k = 55 then (if tK b n i = 2 then (if toT (tC b n i) τ = true ∨ (trW K (tC b n i)).isSome = true then .error (3, tP b n i) else (adv' b n i).bind fun i2 => (ex b n i2 56).bind fun i3 => .ok (i3, ((σ.1.1, σ.1.2.1, va_up σ.1.2.2 (40 * m + j) (rV b n (tP b n i))), σ.2), 0, false, 0, some (tC b n i))) else .error (2, tP b n i))
  else if k = 58 then (suM b n m τ j 64 65 5 i (K.length + 1) (paP (paP σ j 3 3) j 4 (Int32.ofNat (σ.1.1 2 - 1)))).bind fun r => if 7 ≤ tK b n r.1 ∧ tK b n r.1 ≤ 12 then (adv' b n r.1).bind fun i2 => (suM b n m τ j 66 67 6 i2 (K.length + 1) (paP (raP r.2 (up2 r.2.1.2.1 68 (40 * m + j) (tK b n r.1 - 7))) j 7 (tK b n r.1))).bind fun q => (ex b n q.1 45).bind fun i3 => .ok (i3, (q.2.1, (q.2.2.1.1, q.2.2.1.2.1, (frL q.2.2.1.2.2.1).1, q.2.2.1.2.2.2.1, q.2.2.1.2.2.2.2.1 ++ [Int32.ofNat (2 * q.2.2.1.2.2.1.length)], q.2.2.1.2.2.2.2.2), q.2.2.2), 2 * q.2.2.1.2.2.1.length, false, 0, none) else .error (2, tP b n r.1)
  else if k = 17 then .ok (i, trP1 σ (mkT (trS σ) 8).1, 0, false, (mkT (trS σ) 8).2, none)
  else .ok (i, σ, 0, false, 0, none)
/-- behind the only row (its node x) of a part: lit, aw as the head gave them -/
def tlM (k : Int32) (j aw lit x i o : Nat) (σ : PS) : Except (Int32 × Nat) (Nat × PS × Nat) :=
  if k = 42 then (ex b n i 43).bind fun i2 => .ok (i2, trP1 (if (trS σ).2.2 13 x &&& 1 = 0 then σ else paP σ j 2 7) (wrT (trS σ) 6 x).1, (wrT (trS σ) 6 x).2)
  else if k = 49 then (ex b n i 51).bind fun i2 => (atM b n m τ j i2 o σ).bind fun r => (ex b n r.1 43).bind fun i3 => if r.2.2.2 = true then .ok (i3, trP1 r.2.1 (chT (mkT (abT (trS r.2.1) x (Int32.ofNat r.2.2.1)).1 0).1 (Int32.ofNat r.2.2.1) (mkT (abT (trS r.2.1) x (Int32.ofNat r.2.2.1)).1 0).2 (abT (trS r.2.1) x (Int32.ofNat r.2.2.1)).2).1, (chT (mkT (abT (trS r.2.1) x (Int32.ofNat r.2.2.1)).1 0).1 (Int32.ofNat r.2.2.1) (mkT (abT (trS r.2.1) x (Int32.ofNat r.2.2.1)).1 0).2 (abT (trS r.2.1) x (Int32.ofNat r.2.2.1)).2).2) else .ok (i3, trP1 r.2.1 (abT (trS r.2.1) x (Int32.ofNat r.2.2.1)).1, (abT (trS r.2.1) x (Int32.ofNat r.2.2.1)).2)
  else if k = 50 then (ex b n i 51).bind fun i2 => (atM b n m τ j i2 o σ).bind fun r => (ex b n r.1 43).bind fun i3 => .ok (i3, trP1 r.2.1 (wkT (trS r.2.1) x (Int32.ofNat r.2.2.1) r.2.2.2).1, (wkT (trS r.2.1) x (Int32.ofNat r.2.2.1) r.2.2.2).2)
  else if k = 52 then (ex b n i 51).bind fun i2 => (coM b n m τ j i2 o σ).bind fun r => (ex b n r.1 43).bind fun i3 => .ok (i3, trP1 r.2.1 (suT (trS r.2.1) x (Int32.ofNat r.2.2)).1, (suT (trS r.2.1) x (Int32.ofNat r.2.2)).2)
  else if k = 53 then (ex b n i 43).bind fun i2 => .ok (i2, trP1 σ (evT (trS σ) x aw (Int32.ofNat lit)).1, (evT (trS σ) x aw (Int32.ofNat lit)).2)
  else (ex b n i 43).bind fun i2 => .ok (i2, trP1 σ (wrT (trS σ) 9 x).1, (wrT (trS σ) 9 x).2)
end
