section
/-! parts, in the middle: what the reference's rows and the class's objects come to while the parts are read -/
def soK (k : Int32) : Nat := if k = 37 then 0 else if k = 38 then 1 else if k = 39 then 2 else if k = 40 then 3 else if k = 41 then 4 else if k = 42 then 5 else if k = 44 then 6 else if k = 47 then 7 else if k = 49 then 8 else if k = 50 then 9 else if k = 52 then 10 else if k = 53 then 11 else if k = 55 then 12 else if k = 57 then 13 else if k = 58 then 14 else if k = 2 then 15 else if k = 17 then 16 else 99
def opnK (k : Int32) : Bool := k == 42 || k == 44 || k == 49 || k == 50 || k == 52 || k == 53 || k == 55 || k == 58 || k == 17
def paK (k : Int32) : Nat := if k = 53 then 3 else if k = 38 ∨ k = 39 ∨ k = 41 ∨ k = 47 ∨ k = 49 ∨ k = 50 then 1 else 0
/-- the reference: counters (parts, pauses, ifs, deepest, rows), its arrays by cell, the traps' names -/
abbrev RfT : Type := (Nat → Nat) × (Nat → Nat → Int32) × (Nat → Int64)
/-- the class: the parts' fields, the tree, nets, befores, literals of ifs, codes of sums, given, used -/
abbrev ClT : Type := (Nat → Nat → Int32) × TrT × Nt × (Nat → Nat) × List Int32 × List Int32 × Int32 × Int32
abbrev PS : Type := RfT × ClT × List Nd × List Cd
/-- an open part: its number, its row, how many rows, the class's trap -/
abbrev KE : Type := Nat × Nat × Nat × Option Int64
def npS (σ : PS) : Nat := σ.1.1 0
def trS (σ : PS) : TrT := σ.2.1.2.1
def giS (σ : PS) : Int32 := σ.2.1.2.2.2.2.2.2.1
def usS (σ : PS) : Int32 := σ.2.1.2.2.2.2.2.2.2
def trP1 (σ : PS) (Θ : TrT) : PS := (σ.1, (σ.2.1.1, Θ, σ.2.1.2.2), σ.2.2)
def raP (σ : PS) (A : Nat → Nat → Int32) : PS := ((σ.1.1, A, σ.1.2.2), σ.2)
def paP (σ : PS) (j f : Nat) (v : Int32) : PS := (σ.1, (up2 σ.2.1.1 j f v, σ.2.1.2), σ.2.2)
def guP (σ : PS) (g u : Int32) : PS := (σ.1, (σ.2.1.1, σ.2.1.2.1, σ.2.1.2.2.1, σ.2.1.2.2.2.1, σ.2.1.2.2.2.2.1, σ.2.1.2.2.2.2.2.1, g, u), σ.2.2)
def lkA (p q : Nat) (A : Nat → Nat → Int32) : Nat → Nat → Int32 := if A 73 q = -1 then up2 A 73 q (Int32.ofNat p) else up2 A 70 (A 74 q).toNatClampNeg (Int32.ofNat p)
def bgA (p so pl q : Nat) (wh : Int32) (A : Nat → Nat → Int32) : Nat → Nat → Int32 :=
  up2 (lkA p q (up2 (up2 (up2 (up2 (up2 (up2 (up2 (up2 (up2 A 58 p (Int32.ofNat so)) 59 p (Int32.ofNat pl)) 60 p wh) 61 p 0) 63 p (-1)) 65 p (-1)) 67 p (-1)) 69 p (-1)) 70 p (-1))) 74 q (Int32.ofNat p)
/-- a part begins: kind k at place pl in row q, d parts being open -/
def bgP (m : Nat) (k : Int32) (pl q d : Nat) (wh : Int32) (σ : PS) : PS :=
  ((va_up (va_up (va_up (va_up σ.1.1 0 (σ.1.1 0 + 1)) 1 (σ.1.1 1 + paK k)) 2 (σ.1.1 2 + (if k = 58 then 1 else 0))) 3 (if d + 1 ≤ σ.1.1 3 then σ.1.1 3 else d + 1), bgA (40 * m + σ.1.1 0) (soK k) pl q wh σ.1.2.1, σ.1.2.2), (va_up σ.2.1.1 (σ.1.1 0) (fun f => if f = 0 then Int32.ofNat pl else 0), σ.2.1.2), σ.2.2)
/-- a row begins: the first of part p, or the one behind row q0 -/
def rwP (p : Nat) (q0 : Option Nat) (σ : PS) : PS :=
  ((va_up σ.1.1 4 (σ.1.1 4 + 1), (match q0 with
    | none => up2 (up2 (up2 (up2 σ.1.2.1 73 (σ.1.1 4) (-1)) 74 (σ.1.1 4) (-1)) 75 (σ.1.1 4) (-1)) 69 p (Int32.ofNat (σ.1.1 4))
    | some q => up2 (up2 (up2 (up2 σ.1.2.1 73 (σ.1.1 4) (-1)) 74 (σ.1.1 4) (-1)) 75 (σ.1.1 4) (-1)) 75 q (Int32.ofNat (σ.1.1 4))), σ.1.2.2), σ.2)
/-- a part is whole: its node, its end -/
def fiP (m j x : Nat) (σ : PS) : PS := raP (paP σ j 1 (Int32.ofNat x)) (up2 σ.1.2.1 71 (40 * m + j) (Int32.ofNat (40 * m + σ.1.1 0)))
def trW : List KE → Int64 → Option (Nat × Nat)
  | [], _ => none
  | e :: K, c => match e.2.2.2 with
    | none => trW K c
    | some x => if x = c then some (0, e.1) else (trW K c).map fun r => (r.1 + 1, r.2)
/-- 'every', behind its body -/
def ev1 (Θ : TrT) (x : Nat) : TrT × Nat := prT (haT Θ).1 5 x (haT Θ).2
def ev2 (Θ : TrT) (x : Nat) (l : Int32) : TrT × Nat := abT (ev1 Θ x).1 (ev1 Θ x).2 l
def ev3 (Θ : TrT) (x : Nat) (l : Int32) : TrT × Nat := wrT (ev2 Θ x l).1 6 (ev2 Θ x l).2
def evT (Θ : TrT) (x aw : Nat) (l : Int32) : TrT × Nat := prT (ev3 Θ x l).1 5 aw (ev3 Θ x l).2
section
variable (b : Nat → Int32) (n m : Nat) (τ : Td)
/-- a sum of part j: first and root into cells f1, f2; the class's code begins at field fo -/
def suM (j f1 f2 fo i o : Nat) (σ : PS) : Except (Int32 × Nat) (Nat × PS) :=
  (rd b n τ.1 τ.2.2.1 τ.2.2.2.1 6000 3 i o σ.2.2.1 (usS σ)).bind fun r => .ok (r.1, (σ.1.1, up2 (up2 σ.1.2.1 f1 (40 * m + j) (Int32.ofNat (810 * m + σ.2.2.1.length))) f2 (40 * m + j) (Int32.ofNat (810 * m + (r.2.1.length - 1))), σ.1.2.2), (up2 σ.2.1.1 j fo (Int32.ofNat σ.2.1.2.2.2.2.2.1.length), σ.2.1.2.1, σ.2.1.2.2.1, σ.2.1.2.2.2.1, σ.2.1.2.2.2.2.1, σ.2.1.2.2.2.2.2.1 ++ cdL (r.2.1.drop σ.2.2.1.length) ++ [0], giS σ, r.2.2), r.2.1, σ.2.2.2)
/-- a condition of part j; its literal comes too -/
def coM (j i o : Nat) (σ : PS) : Except (Int32 × Nat) (Nat × PS × Nat) :=
  (rc b n τ.1 6000 3 i o σ.2.2.2).bind fun r => .ok (r.1, ((σ.1.1, up2 (up2 σ.1.2.1 62 (40 * m + j) (Int32.ofNat (410 * m + σ.2.2.2.length))) 63 (40 * m + j) (Int32.ofNat (410 * m + (r.2.length - 1))), σ.1.2.2), (σ.2.1.1, σ.2.1.2.1, (cyL (sgT τ.1.length) (σ.2.1.2.2.1, σ.2.1.2.2.2.1, List.replicate σ.2.2.2.length 0) (r.2.drop σ.2.2.2.length)).1, (cyL (sgT τ.1.length) (σ.2.1.2.2.1, σ.2.1.2.2.2.1, List.replicate σ.2.2.2.length 0) (r.2.drop σ.2.2.2.length)).2.1, σ.2.1.2.2.2.2), σ.2.2.1, r.2), (cyL (sgT τ.1.length) (σ.2.1.2.2.1, σ.2.1.2.2.2.1, List.replicate σ.2.2.2.length 0) (r.2.drop σ.2.2.2.length)).2.2.getD (r.2.length - 1) 0)
def imM (i : Nat) : Except (Int32 × Nat) (Nat × Bool) := if tK b n i = 48 then (adv' b n i).bind fun j => .ok (j, true) else .ok (i, false)
/-- 'immediate' or not, and a condition -/
def atM (j i o : Nat) (σ : PS) : Except (Int32 × Nat) (Nat × PS × Nat × Bool) :=
  (imM b n i).bind fun r => (coM b n m τ j r.1 o (if r.2 = true then raP σ (up2 σ.1.2.1 61 (40 * m + j) 1) else σ)).bind fun q => .ok (q.1, q.2.1, q.2.2, r.2)
/-- emit, sustain: the signal, and the sum in brackets -/
def emM (k : Int32) (j i o : Nat) (σ : PS) : Except (Int32 × Nat) (Nat × PS × Nat) :=
  if tK b n i = 2 then (match fd τ.1 (tC b n i) with
    | none => .error (4, tP b n i)
    | some s => if τ.2.1.getD s 0 = 30 then .error (4, tP b n i) else (adv' b n i).bind fun i2 =>
      if τ.2.2.1.getD s 0 = 0 then (if k = 40 ∧ tK b n i2 = 15 then .error (5, tP b n i) else .ok (i2, raP σ (up2 σ.1.2.1 60 (40 * m + j) (Int32.ofNat s)), s))
      else if k = 40 ∧ tK b n i2 = 15 then (if o = 15 then .error (6, tP b n i2) else (adv' b n i2).bind fun i3 =>
        (suM b n m τ j 64 65 5 i3 (o + 1) (paP (paP (raP σ (up2 σ.1.2.1 60 (40 * m + j) (Int32.ofNat s))) j 3 1) j 4 (Int32.ofNat s))).bind fun r => (ex b n r.1 16).bind fun i4 => .ok (i4, r.2, s))
      else .error (5, tP b n i))
  else .error (2, tP b n i)
/-- a part without rows, behind its first token -/
def lfM (k : Int32) (w : Int64) (j i : Nat) (K : List KE) (σ : PS) : Except (Int32 × Nat) (Nat × PS × Nat) :=
  if k = 38 then .ok (i, trP1 σ (paT (trS σ)).1, (paT (trS σ)).2)
  else if k = 39 then .ok (i, trP1 σ (haT (trS σ)).1, (haT (trS σ)).2)
  else if k = 40 then (emM b n m τ 40 j i K.length σ).bind fun r => .ok (r.1, trP1 r.2.1 (emT (trS r.2.1) r.2.2).1, (emT (trS r.2.1) r.2.2).2)
  else if k = 41 then (emM b n m τ 41 j i K.length σ).bind fun r => .ok (r.1, trP1 r.2.1 (stT (trS r.2.1) r.2.2).1, (stT (trS r.2.1) r.2.2).2)
  else if k = 47 then (atM b n m τ j i K.length σ).bind fun r => .ok (r.1, trP1 r.2.1 (awT (trS r.2.1) (Int32.ofNat r.2.2.1) r.2.2.2).1, (awT (trS r.2.1) (Int32.ofNat r.2.2.1) r.2.2.2).2)
  else if k = 57 then (if tK b n i = 2 then (match trW K (tC b n i) with
      | none => .error (4, tP b n i)
      | some q => (adv' b n i).bind fun i2 => .ok (i2, trP1 (raP σ (up2 σ.1.2.1 60 (40 * m + j) (Int32.ofNat q.2))) (exT (trS σ) q.1).1, (exT (trS σ) q.1).2))
    else .error (2, tP b n i))
  else if k = 2 then (ex b n i 5).bind fun i2 => (suM b n m τ j 64 65 5 i2 K.length (guP (paP (paP σ j 3 2) j 4 (oi (fd τ.2.2.2.1 w))) (giS σ ||| ((1 : Int32) <<< (oi (fd τ.2.2.2.1 w) &&& 31))) (usS σ))).bind fun r => .ok (r.1, trP1 r.2 (mkT (trS r.2) 0).1, (mkT (trS r.2) 0).2)
  else .ok (i, trP1 σ (mkT (trS σ) 0).1, (mkT (trS σ) 0).2)
/-- the head of a part with rows: the literal, immediate or not, a node made ahead, the class's trap -/
def hdM (k : Int32) (j i : Nat) (K : List KE) (σ : PS) : Except (Int32 × Nat) (Nat × PS × Nat × Bool × Nat × Option Int64) :=
  if k = 44 then (coM b n m τ j i (K.length + 1) σ).bind fun r => (ex b n r.1 45).bind fun i2 => .ok (i2, r.2.1, r.2.2, false, 0, none)
  else if k = 49 then .ok (i, σ, 0, false, 0, some 0)
  else if k = 50 then (ex b n i 49).bind fun i2 => .ok (i2, σ, 0, false, 0, some 0)
  else if k = 53 then (atM b n m τ j i (K.length + 1) σ).bind fun r => (ex b n r.1 54).bind fun i2 => .ok (i2, trP1 r.2.1 (awT (trS r.2.1) (Int32.ofNat r.2.2.1) r.2.2.2).1, r.2.2.1, r.2.2.2, (awT (trS r.2.1) (Int32.ofNat r.2.2.1) r.2.2.2).2, some 0)
  else if k = 55 then (if tK b n i = 2 then (if toT (tC b n i) τ = true ∨ (trW K (tC b n i)).isSome = true then .error (3, tP b n i) else (adv' b n i).bind fun i2 => (ex b n i2 56).bind fun i3 => .ok (i3, ((σ.1.1, σ.1.2.1, va_up σ.1.2.2 (40 * m + j) (rV b n (tP b n i))), σ.2), 0, false, 0, some (tC b n i))) else .error (2, tP b n i))
  else if k = 58 then (suM b n m τ j 64 65 5 i (K.length + 1) (paP (paP σ j 3 3) j 4 (Int32.ofNat (σ.1.1 2 - 1)))).bind fun r => if 7 ≤ tK b n r.1 ∧ tK b n r.1 ≤ 12 then (adv' b n r.1).bind fun i2 => (suM b n m τ j 66 67 6 i2 (K.length + 1) (paP (raP r.2 (up2 r.2.1.2.1 68 (40 * m + j) (tK b n r.1 - 7))) j 7 (tK b n r.1))).bind fun q => (ex b n q.1 45).bind fun i3 => .ok (i3, (q.2.1, (q.2.2.1.1, q.2.2.1.2.1, (frL q.2.2.1.2.2.1).1, q.2.2.1.2.2.2.1, q.2.2.1.2.2.2.2.1 ++ [Int32.ofNat (2 * q.2.2.1.2.2.1.length)], q.2.2.1.2.2.2.2.2), q.2.2.2), 2 * q.2.2.1.2.2.1.length, false, 0, none) else .error (2, tP b n r.1)
  else if k = 17 then .ok (i, trP1 σ (mkT (trS σ) 8).1, 0, false, (mkT (trS σ) 8).2, none)
  else .ok (i, σ, 0, false, 0, none)
/-- behind the only row (its node x) of a part: lit, aw as the head gave them -/
def tlM (k : Int32) (j aw lit x i o : Nat) (σ : PS) : Except (Int32 × Nat) (Nat × PS × Nat) :=
  if k = 42 then (ex b n i 43).bind fun i2 => .ok (i2, trP1 (if (trS σ).2.2 13 x &&& 1 = 0 then σ else paP σ j 2 7) (wrT (trS σ) 6 x).1, (wrT (trS σ) 6 x).2)
  else if k = 49 then (ex b n i 51).bind fun i2 => (atM b n m τ j i2 o σ).bind fun r => (ex b n r.1 43).bind fun i3 => if r.2.2.2 = true then .ok (i3, trP1 r.2.1 (chT (mkT (abT (trS r.2.1) x (Int32.ofNat r.2.2.1)).1 0).1 (Int32.ofNat r.2.2.1) (mkT (abT (trS r.2.1) x (Int32.ofNat r.2.2.1)).1 0).2 (abT (trS r.2.1) x (Int32.ofNat r.2.2.1)).2).1, (chT (mkT (abT (trS r.2.1) x (Int32.ofNat r.2.2.1)).1 0).1 (Int32.ofNat r.2.2.1) (mkT (abT (trS r.2.1) x (Int32.ofNat r.2.2.1)).1 0).2 (abT (trS r.2.1) x (Int32.ofNat r.2.2.1)).2).2) else .ok (i3, trP1 r.2.1 (abT (trS r.2.1) x (Int32.ofNat r.2.2.1)).1, (abT (trS r.2.1) x (Int32.ofNat r.2.2.1)).2)
  else if k = 50 then (ex b n i 51).bind fun i2 => (atM b n m τ j i2 o σ).bind fun r => (ex b n r.1 43).bind fun i3 => .ok (i3, trP1 r.2.1 (wkT (trS r.2.1) x (Int32.ofNat r.2.2.1) r.2.2.2).1, (wkT (trS r.2.1) x (Int32.ofNat r.2.2.1) r.2.2.2).2)
  else if k = 52 then (ex b n i 51).bind fun i2 => (coM b n m τ j i2 o σ).bind fun r => (ex b n r.1 43).bind fun i3 => .ok (i3, trP1 r.2.1 (suT (trS r.2.1) x (Int32.ofNat r.2.2)).1, (suT (trS r.2.1) x (Int32.ofNat r.2.2)).2)
  else if k = 53 then (ex b n i 43).bind fun i2 => .ok (i2, trP1 σ (evT (trS σ) x aw (Int32.ofNat lit)).1, (evT (trS σ) x aw (Int32.ofNat lit)).2)
  else (ex b n i 43).bind fun i2 => .ok (i2, trP1 σ (wrT (trS σ) 9 x).1, (wrT (trS σ) 9 x).2)
end
end
section
/-! parts, in the middle: rows of parts, parts, branches -/
/-- the row that a part stands in -/
def sqK (K : List KE) : Nat := match K with
  | [] => 0
  | e :: _ => e.2.1
def okK (k : Int32) (w : Int64) (d : Nat) (τ : Td) (σ : PS) (p : Nat) : Except (Int32 × Nat) Unit :=
  if k = 2 ∧ fd τ.2.2.2.1 w = none then .error (4, p)
  else if soK k = 99 then .error (2, p)
  else if 40 ≤ npS σ ∨ 24 < σ.1.1 1 + paK k then .error (6, p)
  else if opnK k = true ∧ d = 15 then .error (6, p)
  else .ok ()
def whK (k : Int32) (w : Int64) (τ : Td) : Int32 := if k = 2 then oi (fd τ.2.2.2.1 w) else -1
/-- a child is hung -/
def hgP (σ : PS) (a c : Nat) : PS := trP1 σ (hgT (trS σ) a c)
/-- two rows are whole, or one and nothing -/
def chM (b : Nat → Int32) (n lit x y i : Nat) (σ : PS) : Except (Int32 × Nat) (Nat × PS × Nat) :=
  (ex b n i 43).bind fun i2 => .ok (i2, trP1 σ (chT (trS σ) (Int32.ofNat lit) x y).1, (chT (trS σ) (Int32.ofNat lit) x y).2)
/-- a branch is whole: its node x hangs on the part's node a; g0, u0: what the branches before it give and use -/
def brP (σ : PS) (j a x : Nat) (g0 u0 : Int32) : PS := guP (hgP (if giS σ &&& (g0 ||| u0) = 0 ∧ usS σ &&& g0 = 0 then σ else paP σ j 2 8) a x) (g0 ||| giS σ) (u0 ||| usS σ)
def rp (b : Nat → Int32) (n m : Nat) (τ : Td) : Nat → Nat → List KE → Nat → PS → Nat → Nat → Nat → Nat → Int32 → Int32 → Except (Int32 × Nat) (Nat × PS × Nat)
  | 0, _, _, _, _, _, _, _, _, _, _ => .error (0, 0)
  | g + 1, md, K, i, σ, a1, a2, a3, a4, c1, c2 =>
    if md = 0 then (rp b n m τ g 2 K i (trP1 σ (mkT (trS σ) 5).1) 0 0 0 0 0 0).bind fun r => rp b n m τ g 1 K r.1 (hgP r.2.1 (mkT (trS σ) 5).2 r.2.2) (mkT (trS σ) 5).2 0 0 0 0 0
    else if md = 1 then (if tK b n i = 13 then (adv' b n i).bind fun j => (rp b n m τ g 2 K j σ 0 0 0 0 0 0).bind fun r => rp b n m τ g 1 K r.1 (hgP r.2.1 a1 r.2.2) a1 0 0 0 0 0 else .ok (i, σ, a1))
    else if md = 2 then (okK (tK b n i) (tC b n i) K.length τ σ (tP b n i)).bind fun _ => (adv' b n i).bind fun j =>
      if opnK (tK b n i) = false then (lfM b n m τ (tK b n i) (tC b n i) (npS σ) j K (bgP m (tK b n i) (tP b n i) (sqK K) K.length (whK (tK b n i) (tC b n i) τ) σ)).bind fun r => .ok (r.1, fiP m (npS σ) r.2.2 r.2.1, r.2.2)
      else (hdM b n m τ (tK b n i) (npS σ) j K (bgP m (tK b n i) (tP b n i) (sqK K) K.length (whK (tK b n i) (tC b n i) τ) σ)).bind fun r =>
        if tK b n i = 17 then (rp b n m τ g 3 K r.1 (rwP (40 * m + npS σ) none r.2.1) r.2.2.2.2.1 (npS σ) (r.2.1.1.1 4) 1 0 0).bind fun q => .ok (q.1, fiP m (npS σ) q.2.2 (guP q.2.1 (giS σ ||| giS q.2.1) (usS σ ||| usS q.2.1)), q.2.2)
        else (rp b n m τ g 0 ((40 * m + npS σ, r.2.1.1.1 4, 1, r.2.2.2.2.2) :: K) r.1 (rwP (40 * m + npS σ) none r.2.1) 0 0 0 0 0 0).bind fun q =>
          if tK b n i = 44 ∨ tK b n i = 58 then (if tK b n q.1 = 46 then (adv' b n q.1).bind fun i2 => (rp b n m τ g 0 ((40 * m + npS σ, q.2.1.1.1 4, 2, none) :: K) i2 (rwP (40 * m + npS σ) (some (r.2.1.1.1 4)) q.2.1) 0 0 0 0 0 0).bind fun t => (chM b n r.2.2.1 q.2.2 t.2.2 t.1 t.2.1).bind fun u => .ok (u.1, fiP m (npS σ) u.2.2 u.2.1, u.2.2)
            else (chM b n r.2.2.1 q.2.2 (mkT (trS q.2.1) 0).2 q.1 (trP1 q.2.1 (mkT (trS q.2.1) 0).1)).bind fun u => .ok (u.1, fiP m (npS σ) u.2.2 u.2.1, u.2.2))
          else (tlM b n m τ (tK b n i) (npS σ) r.2.2.2.2.1 r.2.2.1 q.2.2 q.1 (K.length + 1) q.2.1).bind fun u => .ok (u.1, fiP m (npS σ) u.2.2 u.2.1, u.2.2)
    else (rp b n m τ g 0 ((40 * m + a2, a3, a4, none) :: K) i (guP σ 0 0) 0 0 0 0 0 0).bind fun r =>
      if tK b n r.1 = 6 then (if a4 = 8 then .error (6, tP b n r.1) else (adv' b n r.1).bind fun j => rp b n m τ g 3 K j (rwP (40 * m + a2) (some a3) (brP r.2.1 a2 a1 r.2.2 c1 c2)) a1 a2 (r.2.1.1.1 4) (a4 + 1) (c1 ||| giS r.2.1) (c2 ||| usS r.2.1))
      else (ex b n r.1 18).bind fun j => .ok (j, brP r.2.1 a2 a1 r.2.2 c1 c2, a1)
end
section
/-! what the readings in the middle keep to -/
def FtOk {α : Type} (F : Prop) (b : Nat → Int32) (n s i : Nat) (P : Nat → α → Prop) (R : Except (Int32 × Nat) (Nat × α)) : Prop := match R with
  | .error e => F → e.1 ≠ 0
  | .ok r => i ≤ r.1 ∧ r.1 ≤ s ∧ tK b n r.1 ≠ 0 ∧ P r.1 r.2
section
variable {F : Prop} {b : Nat → Int32} {n s i m : Nat} {τ : Td}
theorem FtOk.err {α : Type} {P : Nat → α → Prop} {c : Int32} {p : Nat} (h : c ≠ 0) : FtOk F b n s i P (.error (c, p)) := fun _ => h
theorem FtOk.bd {α β : Type} {P : Nat → α → Prop} {Q : Nat → β → Prop} {F1 : Prop} {R : Except (Int32 × Nat) (Nat × α)} {f : Nat × α → Except (Int32 × Nat) (Nat × β)} (h : FtOk F1 b n s i P R) (hF : F → F1) (k : ∀ j a, i ≤ j → j ≤ s → tK b n j ≠ 0 → P j a → FtOk F b n s j Q (f (j, a))) : FtOk F b n s i Q (R.bind f) := by
  cases R with
  | error e => exact fun z => h (hF z)
  | ok r =>
    obtain ⟨h1, h2, h3, h4⟩ := h
    have q := k r.1 r.2 h1 h2 h3 h4
    show FtOk F b n s i Q (f (r.1, r.2))
    cases e : f (r.1, r.2) with
    | error e2 => rw [e] at q; exact q
    | ok r2 =>
      rw [e] at q
      exact ⟨Nat.le_trans h1 q.1, q.2⟩
theorem FtOk.mono {α : Type} {P : Nat → α → Prop} {j : Nat} {R : Except (Int32 × Nat) (Nat × α)} (h : FtOk F b n s j P R) (hj : i ≤ j) : FtOk F b n s i P R := by
  cases R with
  | error e => exact h
  | ok r => exact ⟨Nat.le_trans hj h.1, h.2⟩
theorem FtOk.adv {α : Type} {P : Nat → α → Prop} {f : Nat → Except (Int32 × Nat) (Nat × α)} (hi : i < s) (k : tK b n (i + 1) ≠ 0 → FtOk F b n s (i + 1) P (f (i + 1))) : FtOk F b n s i P ((adv' b n i).bind f) := by
  rcases adv_cases (b := b) (n := n) (i := i) with ⟨k1, e⟩ | ⟨k1, e⟩ <;> rw [e]
  · exact fun _ => by show (1 : Int32) ≠ 0; decide
  · exact (k k1).mono (Nat.le_succ _)
theorem FtOk_ex {α : Type} {P : Nat → α → Prop} {f : Nat → Except (Int32 × Nat) (Nat × α)} {c : Int32} (hS : Sto b n s) (hi : i ≤ s) (c0 : c ≠ 0) (c1 : c ≠ 1) (k : tK b n i = c → i < s → tK b n (i + 1) ≠ 0 → FtOk F b n s (i + 1) P (f (i + 1))) : FtOk F b n s i P ((ex b n i c).bind f) := by
  unfold ex
  by_cases q : tK b n i = c
  · rw [if_pos q]
    have hs := hS.lt hi (by rw [q]; exact c0) (by rw [q]; exact c1)
    exact FtOk.adv hs (fun k1 => k q hs k1)
  · rw [if_neg q]
    exact fun _ => by show (2 : Int32) ≠ 0; decide
theorem FtOk.imp {α : Type} {P Q : Nat → α → Prop} {R : Except (Int32 × Nat) (Nat × α)} (h : FtOk F b n s i P R) (k : ∀ j a, i ≤ j → P j a → Q j a) : FtOk F b n s i Q R := by
  cases R with
  | error e => exact h
  | ok r => exact ⟨h.1, h.2.1, h.2.2.1, k _ _ h.1 h.2.2.2⟩
theorem FtOk.pure {α : Type} {P : Nat → α → Prop} {a : α} (h1 : i ≤ s) (h2 : tK b n i ≠ 0) (h3 : P i a) : FtOk F b n s i P (.ok (i, a)) := ⟨Nat.le_refl _, h1, h2, h3⟩
/-- what heads and tails of part j leave: the counters, the rows, the other parts; the tree does not shrink -/
def Hd (m j : Nat) (σ σ' : PS) : Prop := σ'.1.1 = σ.1.1 ∧ (∀ c k, c < 60 ∨ 68 < c ∨ k ≠ 40 * m + j → σ'.1.2.1 c k = σ.1.2.1 c k) ∧ (∀ k, k ≠ 40 * m + j → σ'.1.2.2 k = σ.1.2.2 k) ∧ (1 ≤ (trS σ).1 → (trS σ).1 ≤ (trS σ').1)
theorem Hd.rf {j : Nat} {σ : PS} : Hd m j σ σ := ⟨rfl, fun _ _ _ => rfl, fun _ _ => rfl, fun _ => Nat.le_refl _⟩
theorem Hd.tr {j : Nat} {σ σ1 σ2 : PS} (h : Hd m j σ σ1) (k : Hd m j σ1 σ2) : Hd m j σ σ2 := ⟨k.1.trans h.1, fun c x q => (k.2.1 c x q).trans (h.2.1 c x q), fun x q => (k.2.2.1 x q).trans (h.2.2.1 x q), fun q => Nat.le_trans (h.2.2.2 q) (k.2.2.2 (Nat.le_trans q (h.2.2.2 q)))⟩
theorem Hd.tree {j : Nat} {σ : PS} {r : TrT × Nat} (h : 1 ≤ (trS σ).1 → Ts (trS σ) r) : Hd m j σ (trP1 σ r.1) := ⟨rfl, fun _ _ _ => rfl, fun _ _ => rfl, fun q => (h q).1⟩
theorem Hd.ra {j c : Nat} {σ : PS} {v : Int32} (h1 : 60 ≤ c) (h2 : c ≤ 68) : Hd m j σ (raP σ (up2 σ.1.2.1 c (40 * m + j) v)) := ⟨rfl, fun c2 k q => up2_ne (fun z => by omega), fun _ _ => rfl, fun _ => Nat.le_refl _⟩
theorem Hd.pa {j x f : Nat} {σ : PS} {v : Int32} : Hd m j σ (paP σ x f v) := ⟨rfl, fun _ _ _ => rfl, fun _ _ => rfl, fun _ => Nat.le_refl _⟩
theorem Hd.gu {j : Nat} {σ : PS} {g u : Int32} : Hd m j σ (guP σ g u) := ⟨rfl, fun _ _ _ => rfl, fun _ _ => rfl, fun _ => Nat.le_refl _⟩
theorem suM_ok {j f1 f2 fo o : Nat} {σ : PS} (hS : Sto b n s) (hi : i ≤ s) (h0 : tK b n i ≠ 0) (a1 : 60 ≤ f1 ∧ f1 ≤ 68) (a2 : 60 ≤ f2 ∧ f2 ≤ 68) : FtOk F b n s i (fun i' σ' => Hd m j σ σ' ∧ i < i') (suM b n m τ j f1 f2 fo i o σ) := by
  have h := rd_ok (sN := τ.1) (mx := τ.2.2.1) (vN := τ.2.2.2.1) hS 6000 3 i o σ.2.2.1 (usS σ) (by decide) hi h0
  have hn := hS.1
  have hn2 := hS.2.1
  unfold suM
  cases e : rd b n τ.1 τ.2.2.1 τ.2.2.2.1 6000 3 i o σ.2.2.1 (usS σ) with
  | error x => rw [e] at h; exact fun _ => h (by omega)
  | ok r =>
    rw [e] at h
    exact ⟨h.1, h.2.1, h.2.2.1, ⟨rfl, fun c k q => (up2_ne (fun z => by omega)).trans (up2_ne (fun z => by omega)), fun _ _ => rfl, fun _ => Nat.le_refl _⟩, (h.2.2.2.2 (Or.inr (Or.inr rfl))).1⟩
theorem coM_ok {j o : Nat} {σ : PS} (hS : Sto b n s) (hi : i ≤ s) (h0 : tK b n i ≠ 0) : FtOk F b n s i (fun i' r => Hd m j σ r.1 ∧ i < i') (coM b n m τ j i o σ) := by
  have h := rc_ok (sN := τ.1) hS 6000 3 i o σ.2.2.2 (by decide) hi h0
  have hn := hS.1
  have hn2 := hS.2.1
  unfold coM
  cases e : rc b n τ.1 6000 3 i o σ.2.2.2 with
  | error x => rw [e] at h; exact fun _ => h (by omega)
  | ok r =>
    rw [e] at h
    exact ⟨h.1, h.2.1, h.2.2.1, ⟨rfl, fun c k q => (up2_ne (fun z => by omega)).trans (up2_ne (fun z => by omega)), fun _ _ => rfl, fun _ => Nat.le_refl _⟩, (h.2.2.2.2 (Or.inr (Or.inr rfl))).1⟩
theorem imM_ok (hS : Sto b n s) (hi : i ≤ s) (h0 : tK b n i ≠ 0) : FtOk F b n s i (fun _ _ => True) (imM b n i) := by
  unfold imM
  by_cases q : tK b n i = 48
  · rw [if_pos q]
    have hs := hS.lt hi h0 (by rw [q]; decide)
    exact FtOk.adv hs (fun k => ⟨Nat.le_refl _, hs, k, trivial⟩)
  · rw [if_neg q]
    exact ⟨Nat.le_refl _, hi, h0, trivial⟩
theorem atM_ok {j o : Nat} {σ : PS} (hS : Sto b n s) (hi : i ≤ s) (h0 : tK b n i ≠ 0) : FtOk F b n s i (fun i' r => Hd m j σ r.1 ∧ i < i') (atM b n m τ j i o σ) := by
  unfold atM
  refine (imM_ok (F := F) hS hi h0).bd (fun z => z) (fun i1 im q1 q2 q3 _ => ?_)
  refine (coM_ok (F := F) hS q2 q3).bd (fun z => z) (fun i2 r t1 t2 t3 t4 => ?_)
  refine ⟨Nat.le_refl _, t2, t3, ?_, by show i < i2; omega⟩
  cases im with
  | true => exact (Hd.ra (by decide) (by decide)).tr t4.1
  | false => exact t4.1
theorem emM_ok {k : Int32} {j o : Nat} {σ : PS} (hS : Sto b n s) (hi : i ≤ s) (h0 : tK b n i ≠ 0) : FtOk F b n s i (fun i' r => Hd m j σ r.1 ∧ i < i') (emM b n m τ k j i o σ) := by
  unfold emM
  by_cases q : tK b n i = 2
  · rw [if_pos q]
    have hs := hS.lt hi h0 (by rw [q]; decide)
    cases fd τ.1 (tC b n i) with
    | none => exact FtOk.err (by decide)
    | some x =>
      show FtOk F b n s i _ (if τ.2.1.getD x 0 = 30 then _ else _)
      by_cases q2 : τ.2.1.getD x 0 = 30
      · rw [if_pos q2]; exact FtOk.err (by decide)
      rw [if_neg q2]
      refine FtOk.adv hs (fun k1 => ?_)
      by_cases q3 : τ.2.2.1.getD x 0 = 0
      · rw [if_pos q3]
        by_cases q4 : k = 40 ∧ tK b n (i + 1) = 15
        · rw [if_pos q4]; exact FtOk.err (by decide)
        · rw [if_neg q4]
          exact ⟨Nat.le_refl _, hs, k1, Hd.ra (by decide) (by decide), Nat.lt_succ_self _⟩
      · rw [if_neg q3]
        by_cases q4 : k = 40 ∧ tK b n (i + 1) = 15
        · rw [if_pos q4]
          by_cases q5 : o = 15
          · rw [if_pos q5]; exact FtOk.err (by decide)
          rw [if_neg q5]
          have hs2 := hS.lt (i := i + 1) hs k1 (by rw [q4.2]; decide)
          refine FtOk.adv hs2 (fun k2 => ?_)
          refine (suM_ok (F := F) hS hs2 k2 (by decide) (by decide)).bd (fun z => z) (fun i3 r t1 t2 t3 t4 => ?_)
          refine FtOk_ex hS t2 (by decide) (by decide) (fun _ h3 k4 => ⟨Nat.le_refl _, h3, k4, ((Hd.ra (by decide) (by decide)).tr (Hd.pa.tr Hd.pa)).tr t4.1, by show i < i3 + 1; omega⟩)
        · rw [if_neg q4]; exact FtOk.err (by decide)
  · rw [if_neg q]; exact FtOk.err (by decide)
end
end
section
/-! leaves, heads and tails of parts keep to it -/
section
variable {F : Prop} {b : Nat → Int32} {n s i m : Nat} {τ : Td}
/-- with a node that is one of the tree -/
def HdN (m j : Nat) (σ : PS) (r : PS × Nat) : Prop := Hd m j σ r.1 ∧ (1 ≤ (trS σ).1 → r.2 < (trS r.1).1)
theorem HdN.of {j : Nat} {σ σ1 : PS} {r : TrT × Nat} (h : Hd m j σ σ1) (k : 1 ≤ (trS σ1).1 → Ts (trS σ1) r) : HdN m j σ (trP1 σ1 r.1, r.2) := ⟨h.tr (Hd.tree k), fun q => (k (Nat.le_trans q (h.2.2.2 q))).2⟩
theorem lfM_ok {k : Int32} {w : Int64} {j : Nat} {K : List KE} {σ : PS} (hS : Sto b n s) (hi : i ≤ s) (h0 : tK b n i ≠ 0) : FtOk F b n s i (fun _ r => HdN m j σ r) (lfM b n m τ k w j i K σ) := by
  unfold lfM
  by_cases k1 : k = 38
  · rw [if_pos k1]; exact ⟨Nat.le_refl _, hi, h0, HdN.of Hd.rf ts_pa⟩
  rw [if_neg k1]
  by_cases k2 : k = 39
  · rw [if_pos k2]; exact ⟨Nat.le_refl _, hi, h0, HdN.of Hd.rf ts_ha⟩
  rw [if_neg k2]
  by_cases k3 : k = 40
  · rw [if_pos k3]
    exact (emM_ok (F := F) hS hi h0).bd (fun z => z) (fun i2 r t1 t2 t3 t4 => ⟨Nat.le_refl _, t2, t3, HdN.of t4.1 ts_em⟩)
  rw [if_neg k3]
  by_cases k4 : k = 41
  · rw [if_pos k4]
    exact (emM_ok (F := F) hS hi h0).bd (fun z => z) (fun i2 r t1 t2 t3 t4 => ⟨Nat.le_refl _, t2, t3, HdN.of t4.1 ts_st⟩)
  rw [if_neg k4]
  by_cases k5 : k = 47
  · rw [if_pos k5]
    exact (atM_ok (F := F) hS hi h0).bd (fun z => z) (fun i2 r t1 t2 t3 t4 => ⟨Nat.le_refl _, t2, t3, HdN.of t4.1 ts_aw⟩)
  rw [if_neg k5]
  by_cases k6 : k = 57
  · rw [if_pos k6]
    by_cases q : tK b n i = 2
    · rw [if_pos q]
      have hs := hS.lt hi h0 (by rw [q]; decide)
      cases trW K (tC b n i) with
      | none => exact FtOk.err (by decide)
      | some x =>
        refine FtOk.adv hs (fun q1 => ⟨Nat.le_refl _, hs, q1, ?_⟩)
        exact HdN.of (r := exT (trS σ) x.1) (Hd.ra (by decide) (by decide)) (fun z => ts_ex z)
    · rw [if_neg q]; exact FtOk.err (by decide)
  rw [if_neg k6]
  by_cases k7 : k = 2
  · rw [if_pos k7]
    refine FtOk_ex hS hi (by decide) (by decide) (fun _ h3 q4 => ?_)
    exact (suM_ok (F := F) hS h3 q4 (by decide) (by decide)).bd (fun z => z) (fun i2 r t1 t2 t3 t4 => ⟨Nat.le_refl _, t2, t3, HdN.of (((Hd.pa.tr Hd.pa).tr Hd.gu).tr t4.1) ts_mk⟩)
  rw [if_neg k7]
  exact ⟨Nat.le_refl _, hi, h0, HdN.of Hd.rf ts_mk⟩
theorem hdM_ok {k : Int32} {j : Nat} {K : List KE} {σ : PS} (hS : Sto b n s) (hi : i ≤ s) (h0 : tK b n i ≠ 0) : FtOk F b n s i (fun _ r => Hd m j σ r.1 ∧ (1 ≤ (trS σ).1 → r.2.2.2.1 < (trS r.1).1)) (hdM b n m τ k j i K σ) := by
  have one : ∀ {σ' : PS}, Hd m j σ σ' → 1 ≤ (trS σ).1 → 0 < (trS σ').1 := fun h q => Nat.lt_of_lt_of_le q (h.2.2.2 q)
  unfold hdM
  by_cases k1 : k = 44
  · rw [if_pos k1]
    refine (coM_ok (F := F) hS hi h0).bd (fun z => z) (fun i2 r t1 t2 t3 t4 => ?_)
    exact FtOk_ex hS t2 (by decide) (by decide) (fun _ h3 q4 => ⟨Nat.le_refl _, h3, q4, t4.1, one t4.1⟩)
  rw [if_neg k1]
  by_cases k2 : k = 49
  · rw [if_pos k2]; exact ⟨Nat.le_refl _, hi, h0, Hd.rf, fun q => q⟩
  rw [if_neg k2]
  by_cases k3 : k = 50
  · rw [if_pos k3]
    exact FtOk_ex hS hi (by decide) (by decide) (fun _ h3 q4 => ⟨Nat.le_refl _, h3, q4, Hd.rf, fun q => q⟩)
  rw [if_neg k3]
  by_cases k4 : k = 53
  · rw [if_pos k4]
    refine (atM_ok (F := F) hS hi h0).bd (fun z => z) (fun i2 r t1 t2 t3 t4 => ?_)
    refine FtOk_ex hS t2 (by decide) (by decide) (fun _ h3 q4 => ⟨Nat.le_refl _, h3, q4, ?_⟩)
    have z := HdN.of (r := awT (trS r.1) (Int32.ofNat r.2.1) r.2.2) t4.1 ts_aw
    exact ⟨z.1, z.2⟩
  rw [if_neg k4]
  by_cases k5 : k = 55
  · rw [if_pos k5]
    by_cases q : tK b n i = 2
    · rw [if_pos q]
      have hs := hS.lt hi h0 (by rw [q]; decide)
      by_cases q2 : toT (tC b n i) τ = true ∨ (trW K (tC b n i)).isSome = true
      · rw [if_pos q2]; exact FtOk.err (by decide)
      rw [if_neg q2]
      refine FtOk.adv hs (fun q3 => ?_)
      refine FtOk_ex hS hs (by decide) (by decide) (fun _ h3 q4 => ⟨Nat.le_refl _, h3, q4, ?_, fun z => z⟩)
      exact ⟨rfl, fun _ _ _ => rfl, fun x hx => va_up_ne _ _ hx, fun _ => Nat.le_refl _⟩
    · rw [if_neg q]; exact FtOk.err (by decide)
  rw [if_neg k5]
  by_cases k6 : k = 58
  · rw [if_pos k6]
    refine (suM_ok (F := F) hS hi h0 (by decide) (by decide)).bd (fun z => z) (fun i2 r t1 t2 t3 t4 => ?_)
    by_cases q : 7 ≤ tK b n i2 ∧ tK b n i2 ≤ 12
    · rw [if_pos q]
      have hs := hS.lt t2 t3 (fun z => by rw [z] at q; exact absurd q.1 (by decide))
      refine FtOk.adv hs (fun q3 => ?_)
      refine (suM_ok (F := F) hS hs q3 (by decide) (by decide)).bd (fun z => z) (fun i4 r2 u1 u2 u3 u4 => ?_)
      have hh : Hd m j σ r2 := ((((Hd.pa.tr Hd.pa).tr t4.1).tr (Hd.ra (by decide) (by decide))).tr Hd.pa).tr u4.1
      refine FtOk_ex hS u2 (by decide) (by decide) (fun _ h3 q4 => ⟨Nat.le_refl _, h3, q4, ⟨hh.1, hh.2.1, hh.2.2.1, hh.2.2.2⟩, one hh⟩)
    · rw [if_neg q]; exact FtOk.err (by decide)
  rw [if_neg k6]
  by_cases k7 : k = 17
  · rw [if_pos k7]
    have z := HdN.of (m := m) (j := j) (σ := σ) (r := mkT (trS σ) 8) Hd.rf ts_mk
    exact ⟨Nat.le_refl _, hi, h0, z.1, z.2⟩
  rw [if_neg k7]
  exact ⟨Nat.le_refl _, hi, h0, Hd.rf, fun q => q⟩
theorem ts_e1 {Θ : TrT} {x : Nat} (h1 : 1 ≤ Θ.1) : Ts Θ (ev1 Θ x) := (ts_ha h1).tr (ts_pr ((ts_ha h1).one h1))
theorem ts_e2 {Θ : TrT} {x : Nat} {l : Int32} (h1 : 1 ≤ Θ.1) : Ts Θ (ev2 Θ x l) := (ts_e1 h1).tr (ts_ab ((ts_e1 h1).one h1))
theorem ts_e3 {Θ : TrT} {x : Nat} {l : Int32} (h1 : 1 ≤ Θ.1) : Ts Θ (ev3 Θ x l) := (ts_e2 h1).tr (ts_wr ((ts_e2 h1).one h1))
theorem ts_ev {Θ : TrT} {x aw : Nat} {l : Int32} (h1 : 1 ≤ Θ.1) : Ts Θ (evT Θ x aw l) := (ts_e3 h1).tr (ts_pr ((ts_e3 h1).one h1))
theorem tlM_ok {k : Int32} {j aw lit x o : Nat} {σ : PS} (hS : Sto b n s) (hi : i ≤ s) : FtOk F b n s i (fun _ r => HdN m j σ r) (tlM b n m τ k j aw lit x i o σ) := by
  unfold tlM
  by_cases k1 : k = 42
  · rw [if_pos k1]
    refine FtOk_ex hS hi (by decide) (by decide) (fun _ h3 q4 => ⟨Nat.le_refl _, h3, q4, ?_⟩)
    by_cases q : (trS σ).2.2 13 x &&& 1 = 0
    · rw [if_pos q]; exact HdN.of Hd.rf ts_wr
    · rw [if_neg q]; exact HdN.of (r := wrT (trS σ) 6 x) Hd.pa (fun z => ts_wr z)
  rw [if_neg k1]
  by_cases k2 : k = 49
  · rw [if_pos k2]
    refine FtOk_ex hS hi (by decide) (by decide) (fun _ h3 q4 => ?_)
    refine (atM_ok (F := F) hS h3 q4).bd (fun z => z) (fun i2 r t1 t2 t3 t4 => ?_)
    refine FtOk_ex hS t2 (by decide) (by decide) (fun _ h5 q6 => ?_)
    by_cases q : r.2.2 = true
    · rw [if_pos q]
      exact ⟨Nat.le_refl _, h5, q6, HdN.of t4.1 (fun z => ((ts_ab z).tr (ts_mk ((ts_ab z).one z))).tr (ts_ch ((ts_mk ((ts_ab z).one z)).one ((ts_ab z).one z))))⟩
    · rw [if_neg q]; exact ⟨Nat.le_refl _, h5, q6, HdN.of t4.1 ts_ab⟩
  rw [if_neg k2]
  by_cases k3 : k = 50
  · rw [if_pos k3]
    refine FtOk_ex hS hi (by decide) (by decide) (fun _ h3 q4 => ?_)
    refine (atM_ok (F := F) hS h3 q4).bd (fun z => z) (fun i2 r t1 t2 t3 t4 => ?_)
    exact FtOk_ex hS t2 (by decide) (by decide) (fun _ h5 q6 => ⟨Nat.le_refl _, h5, q6, HdN.of t4.1 ts_wk⟩)
  rw [if_neg k3]
  by_cases k4 : k = 52
  · rw [if_pos k4]
    refine FtOk_ex hS hi (by decide) (by decide) (fun _ h3 q4 => ?_)
    refine (coM_ok (F := F) hS h3 q4).bd (fun z => z) (fun i2 r t1 t2 t3 t4 => ?_)
    exact FtOk_ex hS t2 (by decide) (by decide) (fun _ h5 q6 => ⟨Nat.le_refl _, h5, q6, HdN.of t4.1 ts_su⟩)
  rw [if_neg k4]
  by_cases k5 : k = 53
  · rw [if_pos k5]
    exact FtOk_ex hS hi (by decide) (by decide) (fun _ h3 q4 => ⟨Nat.le_refl _, h3, q4, HdN.of Hd.rf ts_ev⟩)
  rw [if_neg k5]
  exact FtOk_ex hS hi (by decide) (by decide) (fun _ h3 q4 => ⟨Nat.le_refl _, h3, q4, HdN.of Hd.rf ts_wr⟩)
theorem chM_ok {lit x y j : Nat} {σ : PS} (hS : Sto b n s) (hi : i ≤ s) : FtOk F b n s i (fun _ r => HdN m j σ r) (chM b n lit x y i σ) := by
  unfold chM
  exact FtOk_ex hS hi (by decide) (by decide) (fun _ h3 q4 => ⟨Nat.le_refl _, h3, q4, HdN.of Hd.rf ts_ch⟩)
end
end
section
/-! rows of parts keep to it -/
def PsOk (m : Nat) (σ : PS) : Prop := npS σ ≤ 40 ∧ σ.1.1 1 ≤ 24 ∧ σ.1.1 2 ≤ npS σ ∧ σ.1.1 3 ≤ 16 ∧ ∀ q, q < σ.1.1 4 → σ.1.2.1 73 q = -1 ∨ ∃ x, (40 * m ≤ x ∧ x < 40 * m + npS σ) ∧ σ.1.2.1 74 q = Int32.ofNat x
/-- parts below B keep what they have (but for what follows them), no counter shrinks -/
def Pv (m B : Nat) (σ σ' : PS) : Prop := npS σ ≤ npS σ' ∧ σ.1.1 4 ≤ σ'.1.1 4 ∧ (∀ c, 58 ≤ c → c ≤ 72 → c ≠ 70 → ∀ k, k < B → σ'.1.2.1 c k = σ.1.2.1 c k) ∧ (∀ k, k < B → σ'.1.2.2 k = σ.1.2.2 k) ∧ (1 ≤ (trS σ).1 → (trS σ).1 ≤ (trS σ').1)
section
variable {b : Nat → Int32} {n s m B : Nat} {τ : Td} {σ σ1 σ2 : PS}
theorem Pv.rf : Pv m B σ σ := ⟨Nat.le_refl _, Nat.le_refl _, fun _ _ _ _ _ _ => rfl, fun _ _ => rfl, fun _ => Nat.le_refl _⟩
theorem Pv.tr (h : Pv m B σ σ1) (k : Pv m B σ1 σ2) : Pv m B σ σ2 := ⟨Nat.le_trans h.1 k.1, Nat.le_trans h.2.1 k.2.1, fun c q1 q2 q3 x q => (k.2.2.1 c q1 q2 q3 x q).trans (h.2.2.1 c q1 q2 q3 x q), fun x q => (k.2.2.2.1 x q).trans (h.2.2.2.1 x q), fun q => Nat.le_trans (h.2.2.2.2 q) (k.2.2.2.2 (Nat.le_trans q (h.2.2.2.2 q)))⟩
theorem Pv.less {B1 : Nat} (h : Pv m B1 σ σ1) (k : B ≤ B1) : Pv m B σ σ1 := ⟨h.1, h.2.1, fun c q1 q2 q3 x q => h.2.2.1 c q1 q2 q3 x (by omega), fun x q => h.2.2.2.1 x (by omega), h.2.2.2.2⟩
theorem Pv.hd {j : Nat} (h : Hd m j σ σ1) (k : B ≤ 40 * m + j) : Pv m B σ σ1 := ⟨by unfold npS; rw [h.1]; exact Nat.le_refl _, by rw [h.1]; exact Nat.le_refl _, fun c q1 q2 q3 x q => h.2.1 c x (by omega), fun x q => h.2.2.1 x (by omega), h.2.2.2⟩
theorem PsOk.hd {j : Nat} (h : PsOk m σ) (k : Hd m j σ σ1) : PsOk m σ1 := by
  obtain ⟨h1, h2, h3, h4, h5⟩ := h
  have e : npS σ1 = npS σ := by unfold npS; rw [k.1]
  refine ⟨by rw [e]; exact h1, by rw [k.1]; exact h2, by rw [k.1, e]; exact h3, by rw [k.1]; exact h4, fun q hq => ?_⟩
  rw [k.1] at hq
  rw [k.2.1 73 q (by omega), k.2.1 74 q (by omega), e]
  exact h5 q hq
theorem Pv.tree {r : TrT} (h : 1 ≤ (trS σ).1 → (trS σ).1 ≤ r.1) : Pv m B σ (trP1 σ r) := ⟨Nat.le_refl _, Nat.le_refl _, fun _ _ _ _ _ _ => rfl, fun _ _ => rfl, h⟩
theorem Pv.hg {a c : Nat} : Pv m B σ (hgP σ a c) := Pv.tree (fun _ => by rw [hgT_n.1]; exact Nat.le_refl _)
theorem PsOk.tree {r : TrT} (h : PsOk m σ) : PsOk m (trP1 σ r) := h
theorem Pv.gu {g u : Int32} : Pv m B σ (guP σ g u) := ⟨Nat.le_refl _, Nat.le_refl _, fun _ _ _ _ _ _ => rfl, fun _ _ => rfl, fun _ => Nat.le_refl _⟩
theorem Pv.pa {j f : Nat} {v : Int32} : Pv m B σ (paP σ j f v) := ⟨Nat.le_refl _, Nat.le_refl _, fun _ _ _ _ _ _ => rfl, fun _ _ => rfl, fun _ => Nat.le_refl _⟩
theorem Pv.br {j a x : Nat} {g u : Int32} : Pv m B σ (brP σ j a x g u) := by
  unfold brP
  split
  · exact Pv.hg.tr Pv.gu
  · exact (Pv.pa.tr Pv.hg).tr Pv.gu
theorem PsOk.br {j a x : Nat} {g u : Int32} (h : PsOk m σ) : PsOk m (brP σ j a x g u) := by
  unfold brP
  split <;> exact h
theorem br_n {j a x : Nat} {g u : Int32} : (brP σ j a x g u).1 = σ.1 ∧ (trS (brP σ j a x g u)).1 = (trS σ).1 := by
  unfold brP
  split
  · exact ⟨rfl, hgT_n.1⟩
  · exact ⟨rfl, hgT_n.1⟩
theorem Pv.fi {j x : Nat} (k : B ≤ 40 * m + j) : Pv m B σ (fiP m j x σ) := ⟨Nat.le_refl _, Nat.le_refl _, fun c q1 q2 q3 y q => up2_ne (fun z => by omega), fun _ _ => rfl, fun _ => Nat.le_refl _⟩
theorem PsOk.fi {j x : Nat} (h : PsOk m σ) : PsOk m (fiP m j x σ) := ⟨h.1, h.2.1, h.2.2.1, h.2.2.2.1, fun q hq => by
  have e3 : (fiP m j x σ).1.2.1 73 q = σ.1.2.1 73 q := by simp [fiP, raP, up2]
  have e4 : (fiP m j x σ).1.2.1 74 q = σ.1.2.1 74 q := by simp [fiP, raP, up2]
  rw [e3, e4]
  exact h.2.2.2.2 q hq⟩
theorem Pv.rw {p : Nat} {q0 : Option Nat} (k : q0 = none → B ≤ p) : Pv m B σ (rwP p q0 σ) := by
  refine ⟨?_, ?_, fun c q1 q2 q3 x q => ?_, fun _ _ => rfl, fun _ => Nat.le_refl _⟩
  · simp [npS, rwP, va_up]
  · simp [rwP, va_up]
  · cases q0 with
    | none =>
      show up2 (up2 (up2 (up2 σ.1.2.1 73 _ _) 74 _ _) 75 _ _) 69 p _ c x = _
      have := k rfl
      rw [up2_ne (fun z => by omega), up2_ne (fun z => by omega), up2_ne (fun z => by omega), up2_ne (fun z => by omega)]
    | some r =>
      show up2 (up2 (up2 (up2 σ.1.2.1 73 _ _) 74 _ _) 75 _ _) 75 r _ c x = _
      rw [up2_ne (fun z => by omega), up2_ne (fun z => by omega), up2_ne (fun z => by omega), up2_ne (fun z => by omega)]
theorem rw_n {p : Nat} {q0 : Option Nat} : npS (rwP p q0 σ) = npS σ ∧ (rwP p q0 σ).1.1 4 = σ.1.1 4 + 1 ∧ (rwP p q0 σ).2 = σ.2 := ⟨by simp [npS, rwP, va_up], by simp [rwP, va_up], rfl⟩
theorem PsOk.rw {p : Nat} {q0 : Option Nat} (h : PsOk m σ) : PsOk m (rwP p q0 σ) := by
  obtain ⟨h1, h2, h3, h4, h5⟩ := h
  have e : npS (rwP p q0 σ) = npS σ := rw_n.1
  have u : ∀ j, j ≠ 4 → (rwP p q0 σ).1.1 j = σ.1.1 j := fun j hj => by simp [rwP, va_up, hj]
  refine ⟨by rw [e]; exact h1, by rw [u 1 (by decide)]; exact h2, by rw [u 2 (by decide), e]; exact h3, by rw [u 3 (by decide)]; exact h4, fun q hq => ?_⟩
  rw [rw_n.2.1] at hq
  rw [e]
  by_cases z : q = σ.1.1 4
  · left
    cases q0 with
    | none =>
      simp [rwP, up2, z]
    | some r =>
      simp [rwP, up2, z]
  · have e3 : (rwP p q0 σ).1.2.1 73 q = σ.1.2.1 73 q := by
      cases q0 with
      | none =>
        simp [rwP, up2, z]
      | some r =>
        simp [rwP, up2, z]
    have e4 : (rwP p q0 σ).1.2.1 74 q = σ.1.2.1 74 q := by
      cases q0 with
      | none =>
        simp [rwP, up2, z]
      | some r =>
        simp [rwP, up2, z]
    rw [e3, e4]
    exact h5 q (by omega)
theorem bg_n {k : Int32} {pl q d : Nat} {wh : Int32} : npS (bgP m k pl q d wh σ) = npS σ + 1 ∧ (bgP m k pl q d wh σ).1.1 4 = σ.1.1 4 ∧ trS (bgP m k pl q d wh σ) = trS σ ∧ giS (bgP m k pl q d wh σ) = giS σ ∧ usS (bgP m k pl q d wh σ) = usS σ := by
  refine ⟨?_, ?_, rfl, rfl, rfl⟩
  · simp [bgP, va_up, npS]
  · simp [bgP, va_up]
theorem lk_ne {p q : Nat} {A : Nat → Nat → Int32} {c x : Nat} (h : c ≠ 70) (h2 : ¬ (c = 73 ∧ x = q)) : lkA p q A c x = A c x := by
  unfold lkA
  split
  · exact up2_ne h2
  · exact up2_ne (fun z => h z.1)
theorem Pv.bg {k : Int32} {pl q d : Nat} {wh : Int32} (hB : B ≤ 40 * m + npS σ) : Pv m B σ (bgP m k pl q d wh σ) := by
  refine ⟨by rw [bg_n.1]; exact Nat.le_succ _, by rw [bg_n.2.1]; exact Nat.le_refl _, fun c q1 q2 q3 x hx => ?_, fun _ _ => rfl, fun _ => Nat.le_refl _⟩
  have nx : x ≠ 40 * m + σ.1.1 0 := Nat.ne_of_lt (Nat.lt_of_lt_of_le hx hB)
  show bgA (40 * m + σ.1.1 0) (soK k) pl q wh σ.1.2.1 c x = _
  unfold bgA
  rw [up2_ne (fun z => by omega), lk_ne q3 (fun z => by omega)]
  simp [up2, nx]
theorem PsOk.bg {k : Int32} {pl q d : Nat} {wh : Int32} (h : PsOk m σ) (hn : npS σ < 40) (hp : σ.1.1 1 + paK k ≤ 24) (hd : d ≤ 15) (hq : q < σ.1.1 4) : PsOk m (bgP m k pl q d wh σ) := by
  obtain ⟨h1, h2, h3, h4, h5⟩ := h
  have e := (bg_n (m := m) (σ := σ) (k := k) (pl := pl) (q := q) (d := d) (wh := wh)).1
  refine ⟨by rw [e]; exact hn, ?_, ?_, ?_, fun x hx => ?_⟩
  · simpa [bgP, va_up] using hp
  · rw [e]
    have : σ.1.1 2 + (if k = 58 then 1 else 0) ≤ npS σ + 1 := by split <;> omega
    simpa [bgP, va_up] using this
  · have : (if d + 1 ≤ σ.1.1 3 then σ.1.1 3 else d + 1) ≤ 16 := by split <;> omega
    simpa [bgP, va_up] using this
  · rw [bg_n.2.1] at hx
    rw [e]
    show bgA (40 * m + σ.1.1 0) (soK k) pl q wh σ.1.2.1 73 x = -1 ∨ ∃ y, (40 * m ≤ y ∧ y < _) ∧ bgA (40 * m + σ.1.1 0) (soK k) pl q wh σ.1.2.1 74 x = _
    unfold bgA
    by_cases z : x = q
    · right
      exact ⟨40 * m + npS σ, ⟨Nat.le_add_right _ _, by omega⟩, by rw [z]; exact up2_eq⟩
    · rw [up2_ne (fun w => absurd w.1 (by decide)), up2_ne (fun w => z w.2), lk_ne (by decide) (fun w => z w.2), lk_ne (by decide) (fun w => absurd w.1 (by decide))]
      have s3 : ∀ {A : Nat → Nat → Int32} {c y : Nat} {v : Int32}, c < 73 → up2 A c y v 73 x = A 73 x := fun hc => up2_ne (fun w => by omega)
      have s4 : ∀ {A : Nat → Nat → Int32} {c y : Nat} {v : Int32}, c < 73 → up2 A c y v 74 x = A 74 x := fun hc => up2_ne (fun w => by omega)
      rw [s3 (by decide), s3 (by decide), s3 (by decide), s3 (by decide), s3 (by decide), s3 (by decide), s3 (by decide), s3 (by decide), s3 (by decide), s4 (by decide), s4 (by decide), s4 (by decide), s4 (by decide), s4 (by decide), s4 (by decide), s4 (by decide), s4 (by decide), s4 (by decide)]
      rcases h5 x hx with w | ⟨y, hy, ey⟩
      · exact Or.inl w
      · exact Or.inr ⟨y, ⟨hy.1, by omega⟩, ey⟩
theorem okK_ok {k : Int32} {w : Int64} {d p : Nat} (h : okK k w d τ σ p = .ok ()) : ¬ (k = 2 ∧ fd τ.2.2.2.1 w = none) ∧ soK k ≠ 99 ∧ npS σ < 40 ∧ σ.1.1 1 + paK k ≤ 24 ∧ ¬ (opnK k = true ∧ d = 15) := by
  unfold okK at h
  by_cases q1 : k = 2 ∧ fd τ.2.2.2.1 w = none
  · rw [if_pos q1] at h; cases h
  rw [if_neg q1] at h
  by_cases q2 : soK k = 99
  · rw [if_pos q2] at h; cases h
  rw [if_neg q2] at h
  by_cases q3 : 40 ≤ npS σ ∨ 24 < σ.1.1 1 + paK k
  · rw [if_pos q3] at h; cases h
  rw [if_neg q3] at h
  by_cases q4 : opnK k = true ∧ d = 15
  · rw [if_pos q4] at h; cases h
  exact ⟨q1, q2, by omega, by omega, q4⟩
theorem okK_er {k : Int32} {w : Int64} {d p : Nat} {e : Int32 × Nat} (h : okK k w d τ σ p = .error e) : e.1 ≠ 0 := by
  unfold okK at h
  split at h
  · cases h; show (4 : Int32) ≠ 0; decide
  split at h
  · cases h; show (2 : Int32) ≠ 0; decide
  split at h
  · cases h; show (6 : Int32) ≠ 0; decide
  split at h
  · cases h; show (6 : Int32) ≠ 0; decide
  · cases h
theorem soK_1 : soK 1 = 99 := by decide
end
end
section
/-! the reading of parts keeps to it -/
def wM (md : Nat) : Nat := if md = 0 then 1 else if md = 3 then 2 else 0
def RpI (m md : Nat) (K : List KE) (σ : PS) (a2 a3 : Nat) : Prop := PsOk m σ ∧ K.length ≤ 15 ∧ (md ≤ 2 → sqK K < σ.1.1 4) ∧ (md = 3 → K.length ≤ 14 ∧ a3 < σ.1.1 4 ∧ a2 < npS σ) ∧ (md = 1 → σ.1.1 4 ≤ npS σ) ∧ σ.1.1 4 ≤ npS σ + 1
def RpO (m md : Nat) (σ : PS) (a1 : Nat) (r : PS × Nat) : Prop := Pv m (40 * m + npS σ) σ r.1 ∧ PsOk m r.1 ∧ r.1.1.1 4 ≤ npS r.1 ∧ (1 ≤ (trS σ).1 → (md = 1 ∨ md = 3 → a1 < (trS σ).1) → r.2 < (trS r.1).1)
section
variable {b : Nat → Int32} {n s m : Nat} {τ : Td}
theorem FtOk.fi {α : Type} {F F1 : Prop} {i : Nat} {P Q : Nat → α → Prop} {R : Except (Int32 × Nat) (Nat × α)} (h : FtOk F1 b n s i P R) (hF : F → F1) (k : ∀ j a, i ≤ j → P j a → Q j a) : FtOk F b n s i Q R := by
  cases R with
  | error e => exact fun z => h (hF z)
  | ok r => exact ⟨h.1, h.2.1, h.2.2.1, k _ _ h.1 h.2.2.2⟩
theorem w0 : wM 0 = 1 := rfl
theorem w1 : wM 1 = 0 := rfl
theorem w2 : wM 2 = 0 := rfl
theorem w3 : wM 3 = 2 := rfl
/-- behind the rows: the part is whole -/
theorem RpO.fin {σ σ1 σ2 : PS} {j x a1 : Nat} (hj : j = npS σ) (h1 : Pv m (40 * m + npS σ) σ σ1) (hp : PsOk m σ1) (hq : σ1.1.1 4 ≤ npS σ1) (hN : HdN m j σ1 (σ2, x)) : RpO m 2 σ a1 (fiP m j x σ2, x) := by
  have e : σ2.1.1 = σ1.1.1 := hN.1.1
  refine ⟨(h1.tr (Pv.hd hN.1 (by omega))).tr (Pv.fi (by omega)), (hp.hd hN.1).fi, ?_, fun q _ => hN.2 (Nat.le_trans q (h1.2.2.2.2 q))⟩
  show σ2.1.1 4 ≤ σ2.1.1 0
  rw [e]
  exact hq
theorem rp_ok (hS : Sto b n s) : ∀ (g md : Nat) (K : List KE) (i : Nat) (σ : PS) (a1 a2 a3 a4 : Nat) (c1 c2 : Int32), md ≤ 3 → i ≤ s → tK b n i ≠ 0 → RpI m md K σ a2 a3 → FtOk (6 * (s + 1 - i) + wM md ≤ g) b n s i (fun i' r => RpO m md σ a1 r ∧ (md ≠ 1 → i < i')) (rp b n m τ g md K i σ a1 a2 a3 a4 c1 c2) := by
  intro g
  induction g with
  | zero =>
    intro md K i σ a1 a2 a3 a4 c1 c2 hmd hi h0 hI
    unfold rp
    exact fun z => by omega
  | succ g ih =>
    intro md K i σ a1 a2 a3 a4 c1 c2 hmd hi h0 hI
    obtain ⟨hP, hK, hq, h3, h1, hc⟩ := hI
    rcases (show md = 0 ∨ md = 1 ∨ md = 2 ∨ md = 3 by omega) with rfl | rfl | rfl | rfl
    · -- a row
      unfold rp
      rw [if_pos (show (0 : Nat) = 0 from rfl)]
      have tm : 1 ≤ (trS σ).1 → Ts (trS σ) (mkT (trS σ) 5) := ts_mk
      refine (ih 2 K i (trP1 σ (mkT (trS σ) 5).1) 0 0 0 0 0 0 (by decide) hi h0 ⟨hP, hK, fun _ => hq (by decide), fun z => absurd z (by decide), fun z => absurd z (by decide), hc⟩).bd (fun z => by rw [w0] at z; rw [w2]; omega) (fun j r t1 t2 t3 t4 => ?_)
      obtain ⟨⟨p1, p2, p3, p4⟩, tj⟩ := t4
      have tj := tj (by decide)
      have p1 : Pv m (40 * m + npS σ) (trP1 σ (mkT (trS σ) 5).1) r.1 := p1
      have pv : Pv m (40 * m + npS σ) σ r.1 := (Pv.tree (fun q => (tm q).1)).tr p1
      refine (ih 1 K j (hgP r.1 (mkT (trS σ) 5).2 r.2) (mkT (trS σ) 5).2 0 0 0 0 0 (by decide) t2 t3 ⟨p2, hK, fun _ => Nat.lt_of_lt_of_le (hq (by decide)) pv.2.1, fun z => absurd z (by decide), fun _ => p3, Nat.le_succ_of_le p3⟩).fi (fun z => by rw [w0] at z; rw [w1]; omega) (fun j2 r2 u1 u2 => ?_)
      obtain ⟨⟨v1, v2, v3, v4⟩, -⟩ := u2
      have hge : 40 * m + npS σ ≤ 40 * m + npS (hgP r.1 (mkT (trS σ) 5).2 r.2) := by have := pv.1; show _ ≤ 40 * m + npS r.1; omega
      refine ⟨⟨(pv.tr Pv.hg).tr (v1.less hge), v2, v3, fun q _ => ?_⟩, fun _ => by omega⟩
      have e : (trS (hgP r.1 (mkT (trS σ) 5).2 r.2)).1 = (trS r.1).1 := hgT_n.1
      have q1 : 1 ≤ (trS r.1).1 := Nat.le_trans q (pv.2.2.2.2 q)
      refine v4 (by rw [e]; exact q1) (fun _ => ?_)
      rw [e]
      exact Nat.lt_of_lt_of_le (tm q).2 (p1.2.2.2.2 (Nat.le_trans q (tm q).1))
    · -- more of a row
      unfold rp
      rw [if_neg (show ¬ (1 : Nat) = 0 by decide), if_pos (show (1 : Nat) = 1 from rfl)]
      by_cases k : tK b n i = 13
      · rw [if_pos k]
        have hs := hS.lt hi h0 (by rw [k]; decide)
        refine FtOk.adv hs (fun k1 => ?_)
        refine (ih 2 K (i + 1) σ 0 0 0 0 0 0 (by decide) hs k1 ⟨hP, hK, fun _ => hq (by decide), fun z => absurd z (by decide), fun z => absurd z (by decide), hc⟩).bd (fun z => by rw [w1] at z; rw [w2]; omega) (fun j r t1 t2 t3 t4 => ?_)
        obtain ⟨⟨p1, p2, p3, p4⟩, tj⟩ := t4
        refine (ih 1 K j (hgP r.1 a1 r.2) a1 0 0 0 0 0 (by decide) t2 t3 ⟨p2, hK, fun _ => Nat.lt_of_lt_of_le (hq (by decide)) p1.2.1, fun z => absurd z (by decide), fun _ => p3, Nat.le_succ_of_le p3⟩).fi (fun z => by rw [w1] at z ⊢; omega) (fun j2 r2 u1 u2 => ?_)
        obtain ⟨⟨v1, v2, v3, v4⟩, -⟩ := u2
        have hge : 40 * m + npS σ ≤ 40 * m + npS (hgP r.1 a1 r.2) := by have := p1.1; show _ ≤ 40 * m + npS r.1; omega
        refine ⟨⟨(p1.tr Pv.hg).tr (v1.less hge), v2, v3, fun q hz => ?_⟩, fun z => absurd rfl z⟩
        have e : (trS (hgP r.1 a1 r.2)).1 = (trS r.1).1 := hgT_n.1
        refine v4 (by rw [e]; exact Nat.le_trans q (p1.2.2.2.2 q)) (fun _ => ?_)
        rw [e]
        exact Nat.lt_of_lt_of_le (hz (Or.inl rfl)) (p1.2.2.2.2 q)
      · rw [if_neg k]
        exact ⟨Nat.le_refl _, hi, h0, ⟨Pv.rf, hP, h1 rfl, fun q hz => hz (Or.inl rfl)⟩, fun z => absurd rfl z⟩
    · -- a part
      unfold rp
      rw [if_neg (show ¬ (2 : Nat) = 0 by decide), if_neg (show ¬ (2 : Nat) = 1 by decide), if_pos (show (2 : Nat) = 2 from rfl)]
      cases eo : okK (tK b n i) (tC b n i) K.length τ σ (tP b n i) with
      | error x => exact fun _ => okK_er eo
      | ok x =>
      obtain ⟨o1, o2, o3, o4, o5⟩ := okK_ok (by rw [eo])
      have hs := hS.lt hi h0 (fun z => o2 (by rw [z]; exact soK_1))
      show FtOk _ b n s i _ ((adv' b n i).bind _)
      refine FtOk.adv hs (fun k1 => ?_)
      have hb : Pv m (40 * m + npS σ) σ (bgP m (tK b n i) (tP b n i) (sqK K) K.length (whK (tK b n i) (tC b n i) τ) σ) := Pv.bg (Nat.le_refl _)
      have hbp : PsOk m (bgP m (tK b n i) (tP b n i) (sqK K) K.length (whK (tK b n i) (tC b n i) τ) σ) := hP.bg o3 o4 hK (hq (by decide))
      obtain ⟨n1, n2, n3, -⟩ := bg_n (m := m) (σ := σ) (k := tK b n i) (pl := tP b n i) (q := sqK K) (d := K.length) (wh := whK (tK b n i) (tC b n i) τ)
      generalize bgP m (tK b n i) (tP b n i) (sqK K) K.length (whK (tK b n i) (tC b n i) τ) σ = σ0 at hb hbp n1 n2 n3 ⊢
      by_cases ko : opnK (tK b n i) = false
      · rw [if_pos ko]
        refine (lfM_ok (F := True) hS hs k1).bd (fun _ => trivial) (fun j r t1 t2 t3 t4 => ⟨Nat.le_refl _, t2, t3, RpO.fin rfl hb hbp (by rw [n1, n2]; exact hc) t4, fun _ => by show i < j; omega⟩)
      rw [if_neg ko]
      have hK14 : K.length ≤ 14 := by
        cases ht : opnK (tK b n i) with
        | false => exact absurd ht ko
        | true =>
          have : K.length ≠ 15 := fun z => o5 ⟨ht, z⟩
          omega
      refine (hdM_ok (F := True) hS hs k1).bd (fun _ => trivial) (fun j r t1 t2 t3 t4 => ?_)
      obtain ⟨hH, haw⟩ := t4
      have e4 : r.1.1.1 4 = σ.1.1 4 := by rw [hH.1]; exact n2
      have en : npS r.1 = npS σ + 1 := by rw [← n1]; unfold npS; rw [hH.1]
      have pr : Pv m (40 * m + npS σ) σ r.1 := hb.tr (Pv.hd hH (Nat.le_refl _))
      have okr : PsOk m r.1 := hbp.hd hH
      have prw : Pv m (40 * m + npS σ) σ (rwP (40 * m + npS σ) none r.1) := pr.tr (Pv.rw (fun _ => Nat.le_refl _))
      obtain ⟨m1, m2, m3⟩ := rw_n (σ := r.1) (p := 40 * m + npS σ) (q0 := none)
      by_cases k17 : tK b n i = 17
      · rw [if_pos k17]
        refine (ih 3 K j (rwP (40 * m + npS σ) none r.1) r.2.2.2.1 (npS σ) (r.1.1.1 4) 1 0 0 (by decide) t2 t3 ⟨okr.rw, by omega, fun z => absurd z (by decide), fun _ => ⟨hK14, by rw [m2]; exact Nat.lt_succ_self _, by rw [m1]; omega⟩, fun z => absurd z (by decide), by rw [m2, m1]; omega⟩).bd (fun z => by rw [w2] at z; rw [w3]; omega) (fun j2 q u1 u2 u3 u4 => ?_)
        obtain ⟨⟨v1, v2, v3, v4⟩, -⟩ := u4
        have hge : 40 * m + npS σ ≤ 40 * m + npS (rwP (40 * m + npS σ) none r.1) := by rw [m1]; omega
        have pq : Pv m (40 * m + npS σ) σ q.1 := prw.tr (v1.less hge)
        refine ⟨Nat.le_refl _, u2, u3, ⟨(pq.tr Pv.gu).tr (Pv.fi (Nat.le_refl _)), PsOk.fi (σ := guP q.1 _ _) v2, v3, fun z _ => ?_⟩, fun _ => by show i < j2; omega⟩
        exact v4 (Nat.le_trans z (prw.2.2.2.2 z)) (fun _ => haw (by rw [n3]; exact z))
      rw [if_neg k17]
      refine (ih 0 ((40 * m + npS σ, r.1.1.1 4, 1, r.2.2.2.2) :: K) j (rwP (40 * m + npS σ) none r.1) 0 0 0 0 0 0 (by decide) t2 t3 ⟨okr.rw, by show K.length + 1 ≤ 15; omega, fun _ => by rw [m2]; exact Nat.lt_succ_self _, fun z => absurd z (by decide), fun z => absurd z (by decide), by rw [m2, m1]; omega⟩).bd (fun z => by rw [w2] at z; rw [w0]; omega) (fun j2 q u1 u2 u3 u4 => ?_)
      obtain ⟨⟨v1, v2, v3, v4⟩, -⟩ := u4
      have hge : 40 * m + npS σ ≤ 40 * m + npS (rwP (40 * m + npS σ) none r.1) := by rw [m1]; omega
      have pq : Pv m (40 * m + npS σ) σ q.1 := prw.tr (v1.less hge)
      by_cases kc : tK b n i = 44 ∨ tK b n i = 58
      · rw [if_pos kc]
        by_cases ke : tK b n j2 = 46
        · rw [if_pos ke]
          have hs2 := hS.lt u2 u3 (by rw [ke]; decide)
          refine FtOk.adv hs2 (fun k2 => ?_)
          obtain ⟨x1, x2, x3⟩ := rw_n (σ := q.1) (p := 40 * m + npS σ) (q0 := some (r.1.1.1 4))
          have pq2 : Pv m (40 * m + npS σ) σ (rwP (40 * m + npS σ) (some (r.1.1.1 4)) q.1) := pq.tr (Pv.rw (fun z => by cases z))
          refine (ih 0 ((40 * m + npS σ, q.1.1.1 4, 2, none) :: K) (j2 + 1) (rwP (40 * m + npS σ) (some (r.1.1.1 4)) q.1) 0 0 0 0 0 0 (by decide) hs2 k2 ⟨v2.rw, by show K.length + 1 ≤ 15; omega, fun _ => by rw [x2]; exact Nat.lt_succ_self _, fun z => absurd z (by decide), fun z => absurd z (by decide), by rw [x2, x1]; omega⟩).bd (fun z => by rw [w2] at z; rw [w0]; omega) (fun j3 t y1 y2 y3 y4 => ?_)
          obtain ⟨⟨z1, z2, z3, z4⟩, -⟩ := y4
          have hge2 : 40 * m + npS σ ≤ 40 * m + npS (rwP (40 * m + npS σ) (some (r.1.1.1 4)) q.1) := by have := pq2.1; omega
          have pt : Pv m (40 * m + npS σ) σ t.1 := pq2.tr (z1.less hge2)
          exact (chM_ok (F := True) hS y2).bd (fun _ => trivial) (fun j4 u a1 a2 a3 a4 => ⟨Nat.le_refl _, a2, a3, RpO.fin rfl pt z2 z3 a4, fun _ => by show i < j4; omega⟩)
        · rw [if_neg ke]
          have pt : Pv m (40 * m + npS σ) σ (trP1 q.1 (mkT (trS q.1) 0).1) := pq.tr (Pv.tree (fun _ => mkT_le))
          exact (chM_ok (F := True) hS u2).bd (fun _ => trivial) (fun j4 u a1 a2 a3 a4 => ⟨Nat.le_refl _, a2, a3, RpO.fin rfl pt v2 v3 a4, fun _ => by show i < j4; omega⟩)
      · rw [if_neg kc]
        exact (tlM_ok (F := True) hS u2).bd (fun _ => trivial) (fun j4 u a1 a2 a3 a4 => ⟨Nat.le_refl _, a2, a3, RpO.fin rfl pq v2 v3 a4, fun _ => by show i < j4; omega⟩)
    · -- branches
      unfold rp
      rw [if_neg (show ¬ (3 : Nat) = 0 by decide), if_neg (show ¬ (3 : Nat) = 1 by decide), if_neg (show ¬ (3 : Nat) = 2 by decide)]
      obtain ⟨g1, g2, g3⟩ := h3 rfl
      refine (ih 0 ((40 * m + a2, a3, a4, none) :: K) i (guP σ 0 0) 0 0 0 0 0 0 (by decide) hi h0 ⟨hP, by show K.length + 1 ≤ 15; omega, fun _ => g2, fun z => absurd z (by decide), fun z => absurd z (by decide), hc⟩).bd (fun z => by rw [w3] at z; rw [w0]; omega) (fun j r t1 t2 t3 t4 => ?_)
      obtain ⟨⟨p1, p2, p3, p4⟩, tj⟩ := t4
      have tj := tj (by decide)
      have pv : Pv m (40 * m + npS σ) σ r.1 := Pv.gu.tr p1
      have pb : Pv m (40 * m + npS σ) σ (brP r.1 a2 a1 r.2 c1 c2) := pv.tr Pv.br
      obtain ⟨b1, b2⟩ := br_n (σ := r.1) (j := a2) (a := a1) (x := r.2) (g := c1) (u := c2)
      have bn : npS (brP r.1 a2 a1 r.2 c1 c2) = npS r.1 := by unfold npS; rw [b1]
      by_cases k6 : tK b n j = 6
      · rw [if_pos k6]
        by_cases k8 : a4 = 8
        · rw [if_pos k8]; exact FtOk.err (by decide)
        rw [if_neg k8]
        have hs := hS.lt t2 t3 (by rw [k6]; decide)
        refine FtOk.adv hs (fun k2 => ?_)
        obtain ⟨x1, x2, x3⟩ := rw_n (σ := brP r.1 a2 a1 r.2 c1 c2) (p := 40 * m + a2) (q0 := some a3)
        have pw : Pv m (40 * m + npS σ) σ (rwP (40 * m + a2) (some a3) (brP r.1 a2 a1 r.2 c1 c2)) := pb.tr (Pv.rw (fun z => by cases z))
        have e4 : (brP r.1 a2 a1 r.2 c1 c2).1.1 4 = r.1.1.1 4 := by rw [b1]
        have hn := pv.1
        refine (ih 3 K (j + 1) (rwP (40 * m + a2) (some a3) (brP r.1 a2 a1 r.2 c1 c2)) a1 a2 (r.1.1.1 4) (a4 + 1) (c1 ||| giS r.1) (c2 ||| usS r.1) (by decide) hs k2 ⟨p2.br.rw, hK, fun z => absurd z (by decide), fun _ => ⟨g1, by rw [x2, e4]; exact Nat.lt_succ_self _, by rw [x1, bn]; omega⟩, fun z => absurd z (by decide), by rw [x2, x1, e4, bn]; omega⟩).fi (fun z => by rw [w3] at z ⊢; omega) (fun j2 r2 u1 u2 => ?_)
        obtain ⟨⟨v1, v2, v3, v4⟩, -⟩ := u2
        have hge : 40 * m + npS σ ≤ 40 * m + npS (rwP (40 * m + a2) (some a3) (brP r.1 a2 a1 r.2 c1 c2)) := by rw [x1, bn]; omega
        refine ⟨⟨pw.tr (v1.less hge), v2, v3, fun q hz => ?_⟩, fun _ => by omega⟩
        exact v4 (Nat.le_trans q (pw.2.2.2.2 q)) (fun _ => Nat.lt_of_lt_of_le (hz (Or.inr rfl)) (pw.2.2.2.2 q))
      · rw [if_neg k6]
        refine FtOk_ex hS t2 (by decide) (by decide) (fun _ h5 q6 => ⟨Nat.le_refl _, h5, q6, ⟨pb, p2.br, ?_, fun q hz => ?_⟩, fun _ => by show i < j + 1; omega⟩)
        · show (brP r.1 a2 a1 r.2 c1 c2).1.1 4 ≤ npS (brP r.1 a2 a1 r.2 c1 c2)
          rw [bn, b1]
          exact p3
        · exact Nat.lt_of_lt_of_le (hz (Or.inr rfl)) (pb.2.2.2.2 q)
end
end
section
/-! the reference reads parts: its state, the small steps -/
abbrev RGp (m : Nat) (M M' : Mem) : Prop := RG m [5, 6, 7, 29, 31, 32, 33, 53, 60] [40, 44, 45, 46, 47, 48, 49, 51, 52, 53, 54, 55, 56, 57, 58, 59, 60, 61, 62, 63, 64, 65, 66, 67, 68, 69, 70, 71, 73, 74, 75, 76, 77, 78] [50, 72] M M'
def RPd (m : Nat) (τ : Td) (K : List KE) (σ : PS) (M : Mem) : Prop := XR M m σ.2.2.1 ∧ YR τ.1.length M m σ.2.2.2 ∧ (∀ c, 58 ≤ c → c ≤ 75 → c ≠ 72 → mAI M c = σ.1.2.1 c) ∧ mAJ M 72 = σ.1.2.2 ∧ (mAI M 54 m = Int32.ofNat (σ.1.1 0) ∧ mAI M 55 m = Int32.ofNat (σ.1.1 1) ∧ mAI M 56 m = Int32.ofNat (σ.1.1 2) ∧ mAI M 57 m = Int32.ofNat (σ.1.1 3)) ∧ mI M 29 53 = Int32.ofNat (σ.1.1 4) ∧ (St M 76 60 0 (K.map (fun e => e.1)) ∧ St M 77 60 0 (K.map (fun e => e.2.1)) ∧ St M 78 60 0 (K.map (fun e => e.2.2.1)))
def RPs (b : Nat → Int32) (n s m : Nat) (τ : Td) (K : List KE) (σ : PS) (M : Mem) (i o : Nat) : Prop := CoR b n s m τ.1 τ.2.1 τ.2.2.1 τ.2.2.2.1 M ∧ (n ≤ 800 ∧ s ≤ n ∧ i ≤ s) ∧ mI M 29 5 = Int32.ofNat i ∧ mI M 29 6 = 0 ∧ mI M 29 33 = Int32.ofNat o ∧ RPd m τ K σ M ∧ (σ.2.2.1.length ≤ i ∧ 2 * σ.2.2.2.length ≤ bt b n i ∧ o ≤ 15)
section
variable {b : Nat → Int32} {n s m : Nat} {τ : Td} {K : List KE} {σ : PS} {M M' : Mem} {i o h : Nat} {Q : Option Value → Mem → Prop}
theorem CoR.rg {sN : List Int64} {ro mx : List Int32} {vN : List Int64} (hc : CoR b n s m sN ro mx vN M) (k : RGp m M M') : CoR b n s m sN ro mx vN M' := by
  obtain ⟨h1, h2, h3⟩ := hc
  refine ⟨k.fix h1 (by decide), fun j hj => ?_, ?_⟩
  · obtain ⟨r1, r2, r3⟩ := h2 j hj
    exact ⟨by rw [k.fA (by decide)]; exact r1, by rw [k.fA (by decide)]; exact r2, by rw [k.fJ (by decide)]; exact r3⟩
  · obtain ⟨e1, e2, e3, e4, e5, e6, e7, e8, e9⟩ := h3
    exact ⟨by rw [k.fI (by decide)]; exact e1, e2, e3, by rw [k.fA (c := 34) (by decide)]; exact e4, by rw [k.fA (c := 36) (by decide)]; exact e5, by rw [k.fJ (c := 37) (by decide)]; exact e6, by rw [k.fA (c := 38) (by decide)]; exact e7, by rw [k.fA (c := 39) (by decide)]; exact e8, by rw [k.fJ (c := 42) (by decide)]; exact e9⟩
theorem RPs.tk (hR : RPs b n s m τ K σ M i o) (hB : By b) : Tk b n M i := ⟨hR.1.1, hB, hR.1.2.1 i hR.2.1.2.2, hR.2.2.1, by have := hR.2.1; omega⟩
theorem RPd.wi {f : Nat} {v : Int32} (hd : RPd m τ K σ M) (h1 : f ≠ 53) (h2 : f ≠ 60) : RPd m τ K σ (wI M 29 f v) := by
  obtain ⟨d1, d2, d3, d4, d5, d6, d7, d8, d9⟩ := hd
  have e3 : mI (wI M 29 f v) 29 53 = mI M 29 53 := up2_ne (fun z => h1 z.2.symm)
  have e0 : mI (wI M 29 f v) 29 60 = mI M 29 60 := up2_ne (fun z => h2 z.2.symm)
  exact ⟨d1.fr rfl rfl rfl rfl, d2.fr rfl rfl rfl rfl rfl, d3, d4, d5, e3.trans d6, d7.fr e0 rfl, d8.fr e0 rfl, d9.fr e0 rfl⟩
theorem RPs.at (hR : RPs b n s m τ K σ M i o) (hz : ∀ i, n ≤ i → b i = 0) (hs : i < s) (h1 : tK b n i ≠ 1) : RPs b n s m τ K σ (wI M 29 5 (Int32.ofNat (i + 1))) (i + 1) o := by
  obtain ⟨c1, c2, c3, c4, c5, c6, c7⟩ := hR
  have := bt_mono (b := b) (n := n) (i := i) hz h1
  exact ⟨c1.rg (RG.i (by decide)), ⟨c2.1, c2.2.1, hs⟩, by simp [mNwI, mSwI, mKwI, mIwI, mJwI, mRwI, mLwI, mAIwI, mAJwI, mARwI, mNwJ, mSwJ, mKwJ, mIwJ, mJwJ, mRwJ, mLwJ, mAIwJ, mAJwJ, mARwJ, mNwR, mSwR, mKwR, mIwR, mJwR, mRwR, mLwR, mAIwR, mAJwR, mARwR, mNwAI, mSwAI, mKwAI, mIwAI, mJwAI, mRwAI, mLwAI, mAIwAI, mAJwAI, mARwAI, mNwAJ, mSwAJ, mKwAJ, mIwAJ, mJwAJ, mRwAJ, mLwAJ, mAIwAJ, mAJwAJ, mARwAJ, mNwAR, mSwAR, mKwAR, mIwAR, mJwAR, mRwAR, mLwAR, mAIwAR, mAJwAR, mARwAR, okkwI, okkwJ, okkwR, okkwAI, okkwAJ, okkwAR], by simp [c4, mNwI, mSwI, mKwI, mIwI, mJwI, mRwI, mLwI, mAIwI, mAJwI, mARwI, mNwJ, mSwJ, mKwJ, mIwJ, mJwJ, mRwJ, mLwJ, mAIwJ, mAJwJ, mARwJ, mNwR, mSwR, mKwR, mIwR, mJwR, mRwR, mLwR, mAIwR, mAJwR, mARwR, mNwAI, mSwAI, mKwAI, mIwAI, mJwAI, mRwAI, mLwAI, mAIwAI, mAJwAI, mARwAI, mNwAJ, mSwAJ, mKwAJ, mIwAJ, mJwAJ, mRwAJ, mLwAJ, mAIwAJ, mAJwAJ, mARwAJ, mNwAR, mSwAR, mKwAR, mIwAR, mJwAR, mRwAR, mLwAR, mAIwAR, mAJwAR, mARwAR, okkwI, okkwJ, okkwR, okkwAI, okkwAJ, okkwAR], by simp [c5, mNwI, mSwI, mKwI, mIwI, mJwI, mRwI, mLwI, mAIwI, mAJwI, mARwI, mNwJ, mSwJ, mKwJ, mIwJ, mJwJ, mRwJ, mLwJ, mAIwJ, mAJwJ, mARwJ, mNwR, mSwR, mKwR, mIwR, mJwR, mRwR, mLwR, mAIwR, mAJwR, mARwR, mNwAI, mSwAI, mKwAI, mIwAI, mJwAI, mRwAI, mLwAI, mAIwAI, mAJwAI, mARwAI, mNwAJ, mSwAJ, mKwAJ, mIwAJ, mJwAJ, mRwAJ, mLwAJ, mAIwAJ, mAJwAJ, mARwAJ, mNwAR, mSwAR, mKwAR, mIwAR, mJwAR, mRwAR, mLwAR, mAIwAR, mAJwAR, mARwAR, okkwI, okkwJ, okkwR, okkwAI, okkwAJ, okkwAR], c6.wi (by decide) (by decide), by omega, by omega, c7.2.2⟩
theorem RPs.op {o' : Nat} (hR : RPs b n s m τ K σ M i o) (ho : o' ≤ 15) : RPs b n s m τ K σ (wI M 29 33 (Int32.ofNat o')) i o' := by
  obtain ⟨c1, c2, c3, c4, c5, c6, c7⟩ := hR
  exact ⟨c1.rg (RG.i (by decide)), c2, by simp [c3, mNwI, mSwI, mKwI, mIwI, mJwI, mRwI, mLwI, mAIwI, mAJwI, mARwI, mNwJ, mSwJ, mKwJ, mIwJ, mJwJ, mRwJ, mLwJ, mAIwJ, mAJwJ, mARwJ, mNwR, mSwR, mKwR, mIwR, mJwR, mRwR, mLwR, mAIwR, mAJwR, mARwR, mNwAI, mSwAI, mKwAI, mIwAI, mJwAI, mRwAI, mLwAI, mAIwAI, mAJwAI, mARwAI, mNwAJ, mSwAJ, mKwAJ, mIwAJ, mJwAJ, mRwAJ, mLwAJ, mAIwAJ, mAJwAJ, mARwAJ, mNwAR, mSwAR, mKwAR, mIwAR, mJwAR, mRwAR, mLwAR, mAIwAR, mAJwAR, mARwAR, okkwI, okkwJ, okkwR, okkwAI, okkwAJ, okkwAR], by simp [c4, mNwI, mSwI, mKwI, mIwI, mJwI, mRwI, mLwI, mAIwI, mAJwI, mARwI, mNwJ, mSwJ, mKwJ, mIwJ, mJwJ, mRwJ, mLwJ, mAIwJ, mAJwJ, mARwJ, mNwR, mSwR, mKwR, mIwR, mJwR, mRwR, mLwR, mAIwR, mAJwR, mARwR, mNwAI, mSwAI, mKwAI, mIwAI, mJwAI, mRwAI, mLwAI, mAIwAI, mAJwAI, mARwAI, mNwAJ, mSwAJ, mKwAJ, mIwAJ, mJwAJ, mRwAJ, mLwAJ, mAIwAJ, mAJwAJ, mARwAJ, mNwAR, mSwAR, mKwAR, mIwAR, mJwAR, mRwAR, mLwAR, mAIwAR, mAJwAR, mARwAR, okkwI, okkwJ, okkwR, okkwAI, okkwAJ, okkwAR], by simp [mNwI, mSwI, mKwI, mIwI, mJwI, mRwI, mLwI, mAIwI, mAJwI, mARwI, mNwJ, mSwJ, mKwJ, mIwJ, mJwJ, mRwJ, mLwJ, mAIwJ, mAJwJ, mARwJ, mNwR, mSwR, mKwR, mIwR, mJwR, mRwR, mLwR, mAIwR, mAJwR, mARwR, mNwAI, mSwAI, mKwAI, mIwAI, mJwAI, mRwAI, mLwAI, mAIwAI, mAJwAI, mARwAI, mNwAJ, mSwAJ, mKwAJ, mIwAJ, mJwAJ, mRwAJ, mLwAJ, mAIwAJ, mAJwAJ, mARwAJ, mNwAR, mSwAR, mKwAR, mIwAR, mJwAR, mRwAR, mLwAR, mAIwAR, mAJwAR, mARwAR, okkwI, okkwJ, okkwR, okkwAI, okkwAJ, okkwAR], c6.wi (by decide) (by decide), c7.1, c7.2.1, ho⟩
/-- one of the parts' rows is written -/
theorem RPd.ra {c k : Nat} {v : Int32} (hd : RPd m τ K σ M) (h1 : 58 ≤ c) (h2 : c ≤ 75) (h3 : c ≠ 72) : RPd m τ K (raP σ (up2 σ.1.2.1 c k v)) (wAI M c k v) := by
  obtain ⟨d1, d2, d3, d4, d5, d6, d7, d8, d9⟩ := hd
  have ne : ∀ {a : Nat}, a ≠ c → mAI (wAI M c k v) a = mAI M a := fun q => mAI_wAI_ne q
  exact ⟨d1.fr (ne (by omega)) (ne (by omega)) rfl (ne (by omega)), d2.fr (ne (by omega)) (ne (by omega)) (ne (by omega)) (ne (by omega)) (ne (by omega)), fun a q1 q2 q3 => up2_cg (d3 a q1 q2 q3), d4, ⟨by rw [ne (by omega)]; exact d5.1, by rw [ne (by omega)]; exact d5.2.1, by rw [ne (by omega)]; exact d5.2.2.1, by rw [ne (by omega)]; exact d5.2.2.2⟩, d6, d7.fr rfl (ne (by omega)), d8.fr rfl (ne (by omega)), d9.fr rfl (ne (by omega))⟩
theorem RGp.ra {c k : Nat} {v : Int32} (h1 : 58 ≤ c) (h2 : c ≤ 78) (h3 : c ≠ 72) (hk : szA c * m ≤ k) : RGp m M (wAI M c k v) := by
  refine RG.ai ?_ hk
  simp only [List.mem_cons, List.not_mem_nil]
  omega
theorem sz_q {c : Nat} (h : 73 ≤ c) (h2 : c ≤ 78) : szA c = 0 := by
  rcases (show c = 73 ∨ c = 74 ∨ c = 75 ∨ c = 76 ∨ c = 77 ∨ c = 78 by omega) with rfl | rfl | rfl | rfl | rfl | rfl <;> decide
theorem sz_p {c : Nat} (h : 58 ≤ c) (h2 : c ≤ 72) : szA c = 40 := by
  rcases (show c = 58 ∨ c = 59 ∨ c = 60 ∨ c = 61 ∨ c = 62 ∨ c = 63 ∨ c = 64 ∨ c = 65 ∨ c = 66 ∨ c = 67 ∨ c = 68 ∨ c = 69 ∨ c = 70 ∨ c = 71 ∨ c = 72 by omega) with rfl | rfl | rfl | rfl | rfl | rfl | rfl | rfl | rfl | rfl | rfl | rfl | rfl | rfl | rfl <;> decide
theorem RPs.ra {c k : Nat} {v : Int32} (hR : RPs b n s m τ K σ M i o) (h1 : 58 ≤ c) (h2 : c ≤ 75) (h3 : c ≠ 72) (hk : szA c * m ≤ k) : RPs b n s m τ K (raP σ (up2 σ.1.2.1 c k v)) (wAI M c k v) i o := by
  obtain ⟨c1, c2, c3, c4, c5, c6, c7⟩ := hR
  exact ⟨c1.rg (RGp.ra h1 (by omega) h3 hk), c2, c3, c4, c5, c6.ra h1 h2 h3, c7⟩
theorem P_take (hR : RPs b n s m τ K σ M i o) (hB : By b) (hz : ∀ i, n ≤ i → b i = 0) (hs : i < s) (h1 : tK b n i ≠ 1) (H1 : tK b n (i + 1) ≠ 0 → ∀ M', RPs b n s m τ K σ M' (i + 1) o → RGp m M M' → Q none M') (H0 : tK b n (i + 1) = 0 → ∀ M', TXr M' 1 (tP b n (i + 1)) → RGp m M M' → Q none M') : E (h + 2) mdX11_take [.ref 29] M Q :=
  K_take (hR.tk hB) hs hR.1.2.1 (by have := hR.2.1; omega) hR.2.2.2.1 (fun k1 => H1 k1 _ (hR.at hz hs h1) (RG.i (by decide))) (fun k1 => H0 k1 _ ⟨hR.1.1.i.i.i, by simp [mNwI, mSwI, mKwI, mIwI, mJwI, mRwI, mLwI, mAIwI, mAJwI, mARwI, mNwJ, mSwJ, mKwJ, mIwJ, mJwJ, mRwJ, mLwJ, mAIwJ, mAJwJ, mARwJ, mNwR, mSwR, mKwR, mIwR, mJwR, mRwR, mLwR, mAIwR, mAJwR, mARwR, mNwAI, mSwAI, mKwAI, mIwAI, mJwAI, mRwAI, mLwAI, mAIwAI, mAJwAI, mARwAI, mNwAJ, mSwAJ, mKwAJ, mIwAJ, mJwAJ, mRwAJ, mLwAJ, mAIwAJ, mAJwAJ, mARwAJ, mNwAR, mSwAR, mKwAR, mIwAR, mJwAR, mRwAR, mLwAR, mAIwAR, mAJwAR, mARwAR, okkwI, okkwJ, okkwR, okkwAI, okkwAJ, okkwAR], by decide, by simp [mNwI, mSwI, mKwI, mIwI, mJwI, mRwI, mLwI, mAIwI, mAJwI, mARwI, mNwJ, mSwJ, mKwJ, mIwJ, mJwJ, mRwJ, mLwJ, mAIwJ, mAJwJ, mARwJ, mNwR, mSwR, mKwR, mIwR, mJwR, mRwR, mLwR, mAIwR, mAJwR, mARwR, mNwAI, mSwAI, mKwAI, mIwAI, mJwAI, mRwAI, mLwAI, mAIwAI, mAJwAI, mARwAI, mNwAJ, mSwAJ, mKwAJ, mIwAJ, mJwAJ, mRwAJ, mLwAJ, mAIwAJ, mAJwAJ, mARwAJ, mNwAR, mSwAR, mKwAR, mIwAR, mJwAR, mRwAR, mLwAR, mAIwAR, mAJwAR, mARwAR, okkwI, okkwJ, okkwR, okkwAI, okkwAJ, okkwAR]⟩ (((RG.i (by decide)).tr (RG.i (by decide))).tr (RG.i (by decide))))
theorem P_fails {c : Int32} (hR : RPs b n s m τ K σ M i o) (hB : By b) (hc : 0 < c) (H : ∀ M', TXr M' c (tP b n i) → RGp m M M' → Q none M') : E (h + 1) mdX11_fails [.ref 29, .int c, .int (mAI M 32 i)] M Q :=
  K_fails (hR.tk hB) hR.2.2.2.1 hc (fun M' e T' => H M' T' (by rw [e]; exact (RG.i (by decide)).tr (RG.i (by decide))))
/-- fails at the token, as the methods write it -/
theorem P_failsA {c : Int32} {H2 : Mem → Prop} (hR : RPs b n s m τ K σ M i o) (hB : By b) (hc : 0 < c) (H : ∀ M', TXr M' c (tP b n i) → RGp m M M' → H2 M') : ∃ b2 : Nat, mR M 29 3 = some b2 ∧ ok M b2 21 ∧ vp_in (mI M 29 5) (mL M b2) ∧ E (h + 1) mdX11_fails [.ref 29, .int c, .int (mAI M b2 (mI M 29 5).toNatClampNeg)] M (fun r M4 => mE M M4 → r = none ∧ H2 M4) := by
  have F := hR.1.1
  have hi := hR.2.1
  rw [hR.2.2.1, lt32 (by omega)]
  exact ⟨32, rf29_3 F, ok32 F, by rw [ln32 F]; exact vp_of (by omega) (by decide), P_fails hR hB hc (fun M' T' F' _ => ⟨rfl, H M' T' F'⟩)⟩
def EndP (b : Nat → Int32) (n s m : Nat) (τ : Td) (K : List KE) (σ : PS) (o : Nat) (M : Mem) (Q : Mem → Prop) (R : Except (Int32 × Nat) Nat) : Prop := match R with
  | .ok j => ∀ M', RPs b n s m τ K σ M' j o → RGp m M M' → Q M'
  | .error e => ∀ M', TXr M' e.1 e.2 → RGp m M M' → Q M'
theorem P_wantX {k x1 : Int32} {v : Int64} (hR : RPs b n s m τ K σ M i o) (hB : By b) (hz : ∀ i, n ≤ i → b i = 0) (hS : Sto b n s) (h0 : tK b n i ≠ 0) (k1 : k ≠ 1) (hI : ∀ Q' : Option Value → Mem → Prop, (tK b n i = k → Q' (some (.int 1)) M) → (tK b n i ≠ k → Q' (some (.int 0)) M) → E (h + 2) mdX11_isSaid [.ref 29, .int x1, .long v] M Q') (hE : EndP b n s m τ K σ o M (fun M' => Q none M') (ex b n i k)) : E (h + 3) mdX11_want [.ref 29, .int x1, .long v] M Q := by
  have F := hR.1.1
  unfold ex at hE
  refine KX11_want ?_
  unfold DX11_want_0 DX11_want_37
  refine ⟨ok29 F, fun z => absurd hR.2.2.2.1 z, fun _ => hI _ (fun q _ => ⟨_, rfl, fun z => absurd z (by decide), fun _ => ?_⟩) (fun q _ => ⟨_, rfl, fun _ => ?_, fun z => absurd rfl z⟩)⟩
  · rw [if_pos q] at hE
    have hs := hS.lt hR.2.1.2.2 h0 (by rw [q]; exact k1)
    refine P_take hR hB hz hs (by rw [q]; exact k1) (fun k1 M' R' F' _ => ⟨rfl, ?_⟩) (fun k1 M' T' F' _ => ⟨rfl, ?_⟩)
    · rw [adv_ok' k1] at hE; exact hE M' R' F'
    · rw [adv_er' k1] at hE; exact hE M' T' F'
  · rw [if_neg q] at hE
    exact P_failsA (h := h + 1) hR hB (by decide) (fun M' T' F' => hE M' T' F')
theorem P_wantS {k : Int32} {v : Int64} (hR : RPs b n s m τ K σ M i o) (hB : By b) (hz : ∀ i, n ≤ i → b i = 0) (hS : Sto b n s) (h0 : tK b n i ≠ 0) (hk : k ∈ sKs) (hv : v = sv k) (hE : EndP b n s m τ K σ o M (fun M' => Q none M') (ex b n i k)) : E (h + 3) mdX11_want [.ref 29, .int 3, .long v] M Q :=
  P_wantX hR hB hz hS h0 (sK_ne k hk).2.1 (fun Q' H1 H0 => K_sign (h := h + 1) (hR.tk hB) hk hv H1 H0) hE
theorem P_wantW {k : Int32} {v : Int64} {j : Nat} (hR : RPs b n s m τ K σ M i o) (hB : By b) (hz : ∀ i, n ≤ i → b i = 0) (hS : Sto b n s) (h0 : tK b n i ≠ 0) (hj : j < 33) (hk : k = 30 + Int32.ofNat j) (hv : v = key27.getD j 0) (hE : EndP b n s m τ K σ o M (fun M' => Q none M') (ex b n i k)) : E (h + 3) mdX11_want [.ref 29, .int 1, .long v] M Q :=
  P_wantX hR hB hz hS h0 (fun z => by have := key_lt ⟨j, hj⟩; rw [← hk, z] at this; exact absurd this (by decide)) (fun Q' H1 H0 => K_key (h := h + 1) (hR.tk hB) hj hk hv H1 H0) hE
end
end
section
/-! the reference: sums and conditions of parts -/
def EndQ {α : Type} (b : Nat → Int32) (n s m : Nat) (τ : Td) (K : List KE) (o : Nat) (M : Mem) (f : α → PS) (Q : Mem → Prop) (R : Except (Int32 × Nat) (Nat × α)) : Prop := match R with
  | .ok r => ∀ M', RPs b n s m τ K (f r.2) M' r.1 o → RGp m M M' → Q M'
  | .error e => ∀ M', TXr M' e.1 e.2 → RGp m M M' → Q M'
section
variable {b : Nat → Int32} {n s m : Nat} {τ : Td} {K : List KE} {σ : PS} {M M' : Mem} {i o h : Nat} {Q : Option Value → Mem → Prop}
theorem TXr.rg {f : Int32} {p : Nat} (hT : TXr M f p) (k : RGp m M M') (h6 : mI M' 29 6 = mI M 29 6) (h7 : mI M' 29 7 = mI M 29 7) : TXr M' f p := ⟨k.fix hT.1 (by decide), by rw [h6]; exact hT.2.1, hT.2.2.1, by rw [h7]; exact hT.2.2.2⟩
theorem TXr.ra {f : Int32} {p c k : Nat} {v : Int32} (hT : TXr M f p) : TXr (wAI M c k v) f p := ⟨hT.1.ai, hT.2.1, hT.2.2.1, hT.2.2.2⟩
theorem RGp.m1 {M1 : Mem} (k : RG m [5, 6, 7, 29, 31, 32, 33] [48, 49, 51, 52, 53] [50] M M1) : RGp m M M1 := k.more (by decide) (by decide) (by decide)
theorem RGp.m2 {M1 : Mem} (k : RG m [5, 6, 7, 29, 31, 32, 33] [40, 44, 45, 46, 47, 52, 53] [] M M1) : RGp m M M1 := k.more (by decide) (by decide) (by decide)
theorem RPd.x {C : ClT} {X : List Nd} (hd : RPd m τ K σ M) (k : RG m [5, 6, 7, 29, 31, 32, 33] [48, 49, 51, 52, 53] [50] M M') (hX : XR M' m X) : RPd m τ K (σ.1, C, X, σ.2.2.2) M' := by
  obtain ⟨d1, d2, d3, d4, d5, d6, d7, d8, d9⟩ := hd
  have nA : ∀ {a : Nat}, a ∉ [48, 49, 51, 52, 53] → mAI M' a = mAI M a := fun q => k.fA q
  refine ⟨hX, d2.fr (nA (by decide)) (nA (by decide)) (nA (by decide)) (nA (by decide)) (nA (by decide)), fun c q1 q2 q3 => ?_, by rw [k.fJ (c := 72) (by decide)]; exact d4, ⟨by rw [nA (a := 54) (by decide)]; exact d5.1, by rw [nA (a := 55) (by decide)]; exact d5.2.1, by rw [nA (a := 56) (by decide)]; exact d5.2.2.1, by rw [nA (a := 57) (by decide)]; exact d5.2.2.2⟩, by rw [k.fI (f := 53) (by decide)]; exact d6, d7.fr (k.fI (by decide)) (nA (by decide)), d8.fr (k.fI (by decide)) (nA (by decide)), d9.fr (k.fI (by decide)) (nA (by decide))⟩
  rw [nA (a := c) (fun z => by simp only [List.mem_cons, List.not_mem_nil, or_false] at z; omega)]
  exact d3 c q1 q2 q3
theorem RPd.y {C : ClT} {Y : List Cd} (hd : RPd m τ K σ M) (k : RG m [5, 6, 7, 29, 31, 32, 33] [40, 44, 45, 46, 47, 52, 53] [] M M') (hY : YR τ.1.length M' m Y) : RPd m τ K (σ.1, C, σ.2.2.1, Y) M' := by
  obtain ⟨d1, d2, d3, d4, d5, d6, d7, d8, d9⟩ := hd
  have nA : ∀ {a : Nat}, a ∉ [40, 44, 45, 46, 47, 52, 53] → mAI M' a = mAI M a := fun q => k.fA q
  have nJ : ∀ {a : Nat}, mAJ M' a = mAJ M a := fun {a} => k.fJ (by simp)
  refine ⟨d1.fr (nA (by decide)) (nA (by decide)) nJ (nA (by decide)), hY, fun c q1 q2 q3 => ?_, by rw [nJ]; exact d4, ⟨by rw [nA (a := 54) (by decide)]; exact d5.1, by rw [nA (a := 55) (by decide)]; exact d5.2.1, by rw [nA (a := 56) (by decide)]; exact d5.2.2.1, by rw [nA (a := 57) (by decide)]; exact d5.2.2.2⟩, by rw [k.fI (f := 53) (by decide)]; exact d6, d7.fr (k.fI (by decide)) (nA (by decide)), d8.fr (k.fI (by decide)) (nA (by decide)), d9.fr (k.fI (by decide)) (nA (by decide))⟩
  rw [nA (a := c) (fun z => by simp only [List.mem_cons, List.not_mem_nil, or_false] at z; omega)]
  exact d3 c q1 q2 q3
theorem RPs.br (hR : RPs b n s m τ K σ M i o) : BR b n s m τ.1 τ.2.1 τ.2.2.1 τ.2.2.2.1 M i o σ.2.2.1 := ⟨hR.1, hR.2.1, hR.2.2.1, hR.2.2.2.1, hR.2.2.2.2.1, hR.2.2.2.2.2.1.1, hR.2.2.2.2.2.2.1, hR.2.2.2.2.2.2.2.2⟩
theorem RPs.bc (hR : RPs b n s m τ K σ M i o) : BC b n s m τ.1 τ.2.1 τ.2.2.1 τ.2.2.2.1 M i o σ.2.2.2 := ⟨hR.1, hR.2.1, hR.2.2.1, hR.2.2.2.1, hR.2.2.2.2.1, hR.2.2.2.2.2.1.2.1, hR.2.2.2.2.2.2.2.1, hR.2.2.2.2.2.2.2.2⟩
theorem bt_up (hz : ∀ i, n ≤ i → b i = 0) (hS : Sto b n s) : ∀ (d j : Nat), j + d ≤ s → tK b n (j + d) ≠ 0 → bt b n j ≤ bt b n (j + d) := by
  intro d
  induction d with
  | zero => intro j _ _; exact Nat.le_refl _
  | succ d ih =>
    intro j hj h0
    have q := hS.2.2.2 (j + d) (by omega)
    exact Nat.le_trans (ih j (by omega) q.1) (bt_mono hz q.2)
theorem ix40 {j : Nat} (h4 : m < 4) (hj : j < 40) {M : Mem} {c : Nat} (hL : mL M c = 160) : vp_in (Int32.ofNat (40 * m + j)) (mL M c) := by rw [hL]; exact vp_of (by omega) (by decide)
theorem lt40 {j : Nat} (h4 : m < 4) (hj : j < 40) : (Int32.ofNat (40 * m + j)).toNatClampNeg = 40 * m + j := lt32 (by omega)
theorem off32 {a c x : Nat} {v : Int32} (hv : v = Int32.ofNat x) : Int32.ofNat a * Int32.ofNat c + v = Int32.ofNat (a * c + x) := by rw [hv, mul32, add32]
theorem P_sum {j : Nat} {sec : Bool} (hR : RPs b n s m τ K σ M i o) (hB : By b) (hz : ∀ i, n ≤ i → b i = 0) (hS : Sto b n s) (h0 : tK b n i ≠ 0) (hj : j < 40) {fo : Nat} (hE : EndQ b n s m τ K o M (fun x => x) (fun M' => Q none M') (suM b n m τ j (if sec = true then 66 else 64) (if sec = true then 67 else 65) fo i o σ)) : E (h + 6) mdX11_sumOf [.ref 29, .int (Int32.ofNat (40 * m + j)), .int (if sec = true then 1 else 0)] M Q := by
  obtain ⟨c1, c2, c3, c4, c5, c6, c7⟩ := id hR
  have F := c1.1
  have m19 := c1.2.2.1
  have h4 := c1.2.2.2.1
  have hn := hS.1
  have hn2 := hS.2.1
  have hok := rd_ok (sN := τ.1) (mx := τ.2.2.1) (vN := τ.2.2.2.1) hS 6000 3 i o σ.2.2.1 (usS σ) (by decide) c2.2.2 h0
  have l40 := lt40 h4 hj
  refine KX11_sumOf ?_
  unfold DX11_sumOf_0 DX11_sumOf_69
  rw [m19, lt32 (n := m) (by omega), l40]
  refine ⟨ok29 F, fun z => absurd c4 z, fun _ => ⟨48, rf29_24 F, ok48 F, by rw [ln48 F]; exact vp_of (by omega) (by decide), B_readSum (h := h) (g := 6000) (u := usS σ) hB hS hR.br h0 (by omega) ?_⟩⟩
  unfold suM at hE
  have eX : (810 : Int32) * Int32.ofNat m + mAI M 48 m = Int32.ofNat (810 * m + σ.2.2.1.length) := off32 (a := 810) c6.1.1
  rw [eX]
  cases e : rd b n τ.1 τ.2.2.1 τ.2.2.2.1 6000 3 i o σ.2.2.1 (usS σ) with
  | error x =>
    rw [e] at hE
    intro M4 T4 R4 _
    have G4 := RGp.m1 R4.g
    have F4 := T4.1
    refine ⟨_, rfl, fun q => ⟨64, rf29_44 F4, ok64 F4, ix40 h4 hj (ln64 F4), fun M8 e8 => ?_⟩, fun q => ⟨66, rf29_46 F4, ok66 F4, ix40 h4 hj (ln66 F4), fun M8 e8 => ?_⟩⟩
    · have F8 : Fix M8 := by rw [e8]; exact F4.ai
      refine ⟨65, rf29_45 F8, ok65 F8, ix40 h4 hj (ln65 F8), fun M9 e9 => ?_⟩
      refine hE M9 (by rw [e9, e8]; exact T4.ra.ra) ?_
      rw [e9, e8]
      exact (G4.tr (RGp.ra (by decide) (by decide) (by decide) (by rw [sz_p (by decide) (by decide)]; omega))).tr (RGp.ra (by decide) (by decide) (by decide) (by rw [sz_p (by decide) (by decide)]; omega))
    · have F8 : Fix M8 := by rw [e8]; exact F4.ai
      refine ⟨67, rf29_47 F8, ok67 F8, ix40 h4 hj (ln67 F8), fun M9 e9 => ?_⟩
      refine hE M9 (by rw [e9, e8]; exact T4.ra.ra) ?_
      rw [e9, e8]
      exact (G4.tr (RGp.ra (by decide) (by decide) (by decide) (by rw [sz_p (by decide) (by decide)]; omega))).tr (RGp.ra (by decide) (by decide) (by decide) (by rw [sz_p (by decide) (by decide)]; omega))
  | ok r =>
    rw [e] at hE hok
    obtain ⟨k1, k2, k3, -, -⟩ := hok
    intro M4 B4 R4 _
    obtain ⟨x1, x2, x3, x4, x5, x6, x7⟩ := B4
    have G4 := RGp.m1 R4.g
    have F4 := x1.1
    have hbt : bt b n i ≤ bt b n r.1 := by
      have := bt_up hz hS (r.1 - i) i (by omega) (by rw [show i + (r.1 - i) = r.1 by omega]; exact k3)
      rw [show i + (r.1 - i) = r.1 by omega] at this
      exact this
    have R0 : ∀ C : ClT, RPs b n s m τ K (σ.1, C, r.2.1, σ.2.2.2) M4 r.1 o := fun C => ⟨x1, x2, x3, x4, x5, c6.x R4.g x6, x7.1, by show 2 * σ.2.2.2.length ≤ _; omega, x7.2⟩
    cases sec with
    | false =>
      refine ⟨_, rfl, fun q => ⟨64, rf29_44 F4, ok64 F4, ix40 h4 hj (ln64 F4), fun M8 e8 => ?_⟩, fun q => absurd rfl q⟩
      have F8 : Fix M8 := by rw [e8]; exact F4.ai
      refine ⟨65, rf29_45 F8, ok65 F8, ix40 h4 hj (ln65 F8), fun M9 e9 => ?_⟩
      have s1 := (R0 (up2 σ.2.1.1 j fo (Int32.ofNat σ.2.1.2.2.2.2.2.1.length), σ.2.1.2.1, σ.2.1.2.2.1, σ.2.1.2.2.2.1, σ.2.1.2.2.2.2.1, σ.2.1.2.2.2.2.2.1 ++ cdL (r.2.1.drop σ.2.2.1.length) ++ [0], giS σ, r.2.2)).ra (c := 64) (k := 40 * m + j) (v := Int32.ofNat (810 * m + σ.2.2.1.length)) (by decide) (by decide) (by decide) (by rw [sz_p (by decide) (by decide)]; omega)
      have s2 := s1.ra (c := 65) (k := 40 * m + j) (v := Int32.ofNat (810 * m + (r.2.1.length - 1))) (by decide) (by decide) (by decide) (by rw [sz_p (by decide) (by decide)]; omega)
      refine hE M9 (by rw [e9, e8]; exact s2) ?_
      rw [e9, e8]
      exact (G4.tr (RGp.ra (by decide) (by decide) (by decide) (by rw [sz_p (by decide) (by decide)]; omega))).tr (RGp.ra (by decide) (by decide) (by decide) (by rw [sz_p (by decide) (by decide)]; omega))
    | true =>
      refine ⟨_, rfl, fun q => absurd q (by decide), fun q => ⟨66, rf29_46 F4, ok66 F4, ix40 h4 hj (ln66 F4), fun M8 e8 => ?_⟩⟩
      have F8 : Fix M8 := by rw [e8]; exact F4.ai
      refine ⟨67, rf29_47 F8, ok67 F8, ix40 h4 hj (ln67 F8), fun M9 e9 => ?_⟩
      have s1 := (R0 (up2 σ.2.1.1 j fo (Int32.ofNat σ.2.1.2.2.2.2.2.1.length), σ.2.1.2.1, σ.2.1.2.2.1, σ.2.1.2.2.2.1, σ.2.1.2.2.2.2.1, σ.2.1.2.2.2.2.2.1 ++ cdL (r.2.1.drop σ.2.2.1.length) ++ [0], giS σ, r.2.2)).ra (c := 66) (k := 40 * m + j) (v := Int32.ofNat (810 * m + σ.2.2.1.length)) (by decide) (by decide) (by decide) (by rw [sz_p (by decide) (by decide)]; omega)
      have s2 := s1.ra (c := 67) (k := 40 * m + j) (v := Int32.ofNat (810 * m + (r.2.1.length - 1))) (by decide) (by decide) (by decide) (by rw [sz_p (by decide) (by decide)]; omega)
      refine hE M9 (by rw [e9, e8]; exact s2) ?_
      rw [e9, e8]
      exact (G4.tr (RGp.ra (by decide) (by decide) (by decide) (by rw [sz_p (by decide) (by decide)]; omega))).tr (RGp.ra (by decide) (by decide) (by decide) (by rw [sz_p (by decide) (by decide)]; omega))
end
end
section
/-! the reference: conditions of parts, at once or not -/
section
variable {b : Nat → Int32} {n s m : Nat} {τ : Td} {K : List KE} {σ : PS} {M M' : Mem} {i o h : Nat} {Q : Option Value → Mem → Prop}
theorem X_condOf {f : Int32} {p : Nat} {x : Int32} (hT : TXr M f p) (H : Q none M) : E (h + 1) mdX11_condOf [.ref 29, .int x] M Q := by
  refine KX11_condOf ?_
  unfold DX11_condOf_0 DX11_condOf_41
  exact ⟨ok29 hT.1, fun _ => H, fun z => absurd z hT.n0⟩
theorem X_sumOf {f : Int32} {p : Nat} {x y : Int32} (hT : TXr M f p) (H : Q none M) : E (h + 1) mdX11_sumOf [.ref 29, .int x, .int y] M Q := by
  refine KX11_sumOf ?_
  unfold DX11_sumOf_0 DX11_sumOf_69
  exact ⟨ok29 hT.1, fun _ => H, fun z => absurd z hT.n0⟩
theorem P_cond {j : Nat} (hR : RPs b n s m τ K σ M i o) (hB : By b) (hz : ∀ i, n ≤ i → b i = 0) (hS : Sto b n s) (h0 : tK b n i ≠ 0) (hj : j < 40) (hE : EndQ b n s m τ K o M (fun x => x.1) (fun M' => Q none M') (coM b n m τ j i o σ)) : E (h + 6) mdX11_condOf [.ref 29, .int (Int32.ofNat (40 * m + j))] M Q := by
  obtain ⟨c1, c2, c3, c4, c5, c6, c7⟩ := id hR
  have F := c1.1
  have m19 := c1.2.2.1
  have h4 := c1.2.2.2.1
  have hn := hS.1
  have hn2 := hS.2.1
  have hok := rc_ok (sN := τ.1) hS 6000 3 i o σ.2.2.2 (by decide) c2.2.2 h0
  have l40 := lt40 h4 hj
  refine KX11_condOf ?_
  unfold DX11_condOf_0 DX11_condOf_41
  rw [m19, lt32 (n := m) (by omega), l40]
  have eY : (410 : Int32) * Int32.ofNat m + mAI M 44 m = Int32.ofNat (410 * m + σ.2.2.2.length) := off32 (a := 410) c6.2.1.1
  refine ⟨ok29 F, fun z => absurd c4 z, fun _ => ⟨62, rf29_42 F, 44, rf29_20 F, ok44 F, by rw [ln44 F]; exact vp_of (by omega) (by decide), ok62 F, ix40 h4 hj (ln62 F), fun M6 e6 => ?_⟩⟩
  rw [eY] at e6
  have F6 : Fix M6 := by rw [e6]; exact F.ai
  have s1 := hR.ra (c := 62) (k := 40 * m + j) (v := Int32.ofNat (410 * m + σ.2.2.2.length)) (by decide) (by decide) (by decide) (by rw [sz_p (by decide) (by decide)]; omega)
  rw [← e6] at s1
  have G6 : RGp m M M6 := by rw [e6]; exact RGp.ra (by decide) (by decide) (by decide) (by rw [sz_p (by decide) (by decide)]; omega)
  have c66 := s1.2.2.2.2.2.1
  refine ⟨63, rf29_43 F6, G_readCond (h := h) (g := 6000) hz hB hS s1.bc h0 (by omega) ?_⟩
  unfold coM at hE
  show EndB b n s m τ.1 τ.2.1 τ.2.2.1 τ.2.2.2.1 M6 o _ (rc b n τ.1 6000 3 i o σ.2.2.2)
  cases e : rc b n τ.1 6000 3 i o σ.2.2.2 with
  | error x =>
    rw [e] at hE
    intro M8 T8 R8 _
    have F8 := T8.1
    refine ⟨_, rfl, ok63 F8, ix40 h4 hj (ln63 F8), fun M9 e9 => ?_⟩
    refine hE M9 (by rw [e9]; exact T8.ra) ?_
    rw [e9]
    exact (G6.tr (RGp.m2 R8.g)).tr (RGp.ra (by decide) (by decide) (by decide) (by rw [sz_p (by decide) (by decide)]; omega))
  | ok r =>
    rw [e] at hE hok
    obtain ⟨k1, k2, k3, ⟨Z, hZ, hZl⟩, -⟩ := hok
    intro M8 B8 R8 _
    obtain ⟨x1, x2, x3, x4, x5, x6, x7⟩ := B8
    have F8 := x1.1
    refine ⟨_, rfl, ok63 F8, ix40 h4 hj (ln63 F8), fun M9 e9 => ?_⟩
    have R0 : ∀ C : ClT, RPs b n s m τ K ((raP σ (up2 σ.1.2.1 62 (40 * m + j) (Int32.ofNat (410 * m + σ.2.2.2.length)))).1, C, σ.2.2.1, r.2) M8 r.1 o := fun C => ⟨x1, x2, x3, x4, x5, c66.y R8.g x6, by show σ.2.2.1.length ≤ _; omega, x7.1, x7.2⟩
    have s2 := (R0 (σ.2.1.1, σ.2.1.2.1, (cyL (sgT τ.1.length) (σ.2.1.2.2.1, σ.2.1.2.2.2.1, List.replicate σ.2.2.2.length 0) (r.2.drop σ.2.2.2.length)).1, (cyL (sgT τ.1.length) (σ.2.1.2.2.1, σ.2.1.2.2.2.1, List.replicate σ.2.2.2.length 0) (r.2.drop σ.2.2.2.length)).2.1, σ.2.1.2.2.2.2)).ra (c := 63) (k := 40 * m + j) (v := Int32.ofNat (410 * m + (r.2.length - 1))) (by decide) (by decide) (by decide) (by rw [sz_p (by decide) (by decide)]; omega)
    refine hE M9 (by rw [e9]; exact s2) ?_
    rw [e9]
    exact (G6.tr (RGp.m2 R8.g)).tr (RGp.ra (by decide) (by decide) (by decide) (by rw [sz_p (by decide) (by decide)]; omega))
theorem P_at {j : Nat} (hR : RPs b n s m τ K σ M i o) (hB : By b) (hz : ∀ i, n ≤ i → b i = 0) (hS : Sto b n s) (h0 : tK b n i ≠ 0) (hj : j < 40) (hE : EndQ b n s m τ K o M (fun x => x.1) (fun M' => Q none M') (atM b n m τ j i o σ)) : E (h + 7) mdX11_atOnceOf [.ref 29, .int (Int32.ofNat (40 * m + j))] M Q := by
  obtain ⟨c1, c2, c3, c4, c5, c6, c7⟩ := id hR
  have F := c1.1
  have h4 := c1.2.2.2.1
  have l40 := lt40 h4 hj
  unfold atM imM at hE
  refine KX11_atOnceOf ?_
  unfold DX11_atOnceOf_0 DX11_atOnceOf_29
  rw [l40]
  refine ⟨ok29 F, fun z => absurd c4 z, fun _ => K_key (h := h + 5) (j := 18) (k := 48) (hR.tk hB) (by decide) (by decide) (by decide) (fun q _ => ⟨_, rfl, fun z => absurd z (by decide), fun _ => ?_⟩) (fun q _ => ⟨_, rfl, fun _ => ?_, fun z => absurd rfl z⟩)⟩
  · rw [if_pos q] at hE
    refine ⟨61, rf29_41 F, ok61 F, ix40 h4 hj (ln61 F), fun M6 e6 => ?_⟩
    rw [bool_nar1] at e6
    have s1 := hR.ra (c := 61) (k := 40 * m + j) (v := 1) (by decide) (by decide) (by decide) (by rw [sz_p (by decide) (by decide)]; omega)
    rw [← e6] at s1
    have G6 : RGp m M M6 := by rw [e6]; exact RGp.ra (by decide) (by decide) (by decide) (by rw [sz_p (by decide) (by decide)]; omega)
    have hs := hS.lt c2.2.2 h0 (by rw [q]; decide)
    refine P_take (h := h + 4) s1 hB hz hs (by rw [q]; decide) (fun k1 M7 R7 G7 _ => ⟨rfl, ?_⟩) (fun k1 M7 T7 G7 _ => ⟨rfl, ?_⟩)
    · rw [adv_ok' k1] at hE
      have hE : EndQ b n s m τ K o M (fun x => x.1) (fun M' => Q none M') ((coM b n m τ j (i + 1) o (raP σ (up2 σ.1.2.1 61 (40 * m + j) 1))).bind fun q => .ok (q.1, q.2.1, q.2.2, true)) := hE
      refine ⟨ok29 R7.1.1, P_cond (h := h) R7 hB hz hS k1 hj ?_⟩
      cases e : coM b n m τ j (i + 1) o (raP σ (up2 σ.1.2.1 61 (40 * m + j) 1)) with
      | error x => rw [e] at hE; exact fun M8 T8 G8 _ => ⟨rfl, hE M8 T8 ((G6.tr G7).tr G8)⟩
      | ok r => rw [e] at hE; exact fun M8 R8 G8 _ => ⟨rfl, hE M8 R8 ((G6.tr G7).tr G8)⟩
    · rw [adv_er' k1] at hE
      exact ⟨ok29 T7.1, X_condOf (h := h + 5) T7 (fun _ => ⟨rfl, hE M7 T7 (G6.tr G7)⟩)⟩
  · rw [if_neg q] at hE
    have hE : EndQ b n s m τ K o M (fun x => x.1) (fun M' => Q none M') ((coM b n m τ j i o σ).bind fun q => .ok (q.1, q.2.1, q.2.2, false)) := hE
    refine ⟨ok29 F, P_cond (h := h) hR hB hz hS h0 hj ?_⟩
    cases e : coM b n m τ j i o σ with
    | error x => rw [e] at hE; exact fun M8 T8 G8 _ => ⟨rfl, hE M8 T8 G8⟩
    | ok r => rw [e] at hE; exact fun M8 R8 G8 _ => ⟨rfl, hE M8 R8 G8⟩
end
end
section
/-! the reference: the sort of a part -/
def soI (k : Int32) : Int32 := if soK k = 99 then -1 else Int32.ofNat (soK k)
def opSo (so : Nat) : Prop := so = 5 ∨ so = 6 ∨ (8 ≤ so ∧ so ≤ 12) ∨ so = 14 ∨ so = 16
def paSo (so : Nat) : Nat := if so = 11 then 3 else if so = 1 ∨ so = 2 ∨ so = 4 ∨ so = 7 ∨ so = 8 ∨ so = 9 then 1 else 0
theorem soK_cases {k : Int32} (h : soK k ≠ 99) : k = 37 ∨ k = 38 ∨ k = 39 ∨ k = 40 ∨ k = 41 ∨ k = 42 ∨ k = 44 ∨ k = 47 ∨ k = 49 ∨ k = 50 ∨ k = 52 ∨ k = 53 ∨ k = 55 ∨ k = 57 ∨ k = 58 ∨ k = 2 ∨ k = 17 := by
  by_cases h0 : k = 37
  · exact Or.inl h0
  by_cases h1 : k = 38
  · simp [h1]
  by_cases h2 : k = 39
  · simp [h2]
  by_cases h3 : k = 40
  · simp [h3]
  by_cases h4 : k = 41
  · simp [h4]
  by_cases h5 : k = 42
  · simp [h5]
  by_cases h6 : k = 44
  · simp [h6]
  by_cases h7 : k = 47
  · simp [h7]
  by_cases h8 : k = 49
  · simp [h8]
  by_cases h9 : k = 50
  · simp [h9]
  by_cases h10 : k = 52
  · simp [h10]
  by_cases h11 : k = 53
  · simp [h11]
  by_cases h12 : k = 55
  · simp [h12]
  by_cases h13 : k = 57
  · simp [h13]
  by_cases h14 : k = 58
  · simp [h14]
  by_cases h15 : k = 2
  · simp [h15]
  by_cases h16 : k = 17
  · simp [h16]
  exact absurd (by unfold soK; rw [if_neg h0, if_neg h1, if_neg h2, if_neg h3, if_neg h4, if_neg h5, if_neg h6, if_neg h7, if_neg h8, if_neg h9, if_neg h10, if_neg h11, if_neg h12, if_neg h13, if_neg h14, if_neg h15, if_neg h16]) h
theorem soK_facts {k : Int32} (h : soK k ≠ 99) : soK k ≤ 16 ∧ (opnK k = true ↔ opSo (soK k)) ∧ paK k = paSo (soK k) ∧ soI k = Int32.ofNat (soK k) ∧ (soK k = 14 ↔ k = 58) ∧ (soK k = 15 ↔ k = 2) := by
  unfold opSo
  rcases soK_cases h with z | z | z | z | z | z | z | z | z | z | z | z | z | z | z | z | z <;> rw [z] <;> decide
section
variable {b : Nat → Int32} {n m : Nat} {M : Mem} {i h : Nat} {Q : Option Value → Mem → Prop}
theorem so50 {v : Int64} {kk : Int32} (hv : ∀ j, j < 33 → (v = key27.getD j 0 ↔ kk = 30 + Int32.ofNat j)) (h2 : kk ≠ 2) (h17 : kk ≠ 17) (H : Q (some (.int (soI kk))) M) : DX11_sortOf_50 h v M Q := by
  have e : ∀ (j : Nat) (c : Int64) (k : Int32), j < 33 → key27.getD j 0 = c → 30 + Int32.ofNat j = k → ((lg_cmp v c = 0) ↔ kk = k) := by
    intro j c k hj hc hk
    rw [lgz, ← hc, ← hk]
    exact hv j hj
  have e0 := e 7 5649913681 37 (by decide) (by decide) (by decide)
  have e1 := e 8 8538566 38 (by decide) (by decide) (by decide)
  have e2 := e 9 158537 39 (by decide) (by decide) (by decide)
  have e3 := e 10 108155 40 (by decide) (by decide) (by decide)
  have e4 := e 11 7672808363 41 (by decide) (by decide) (by decide)
  have e5 := e 12 247552 42 (by decide) (by decide) (by decide)
  have e6 := e 14 6460043375 44 (by decide) (by decide) (by decide)
  have e7 := e 17 985142 47 (by decide) (by decide) (by decide)
  have e8 := e 19 582248 49 (by decide) (by decide) (by decide)
  have e9 := e 20 456392 50 (by decide) (by decide) (by decide)
  have e10 := e 22 7672732672 52 (by decide) (by decide) (by decide)
  have e11 := e 23 3094387 53 (by decide) (by decide) (by decide)
  have e12 := e 25 406825 55 (by decide) (by decide) (by decide)
  have e13 := e 27 116174 57 (by decide) (by decide) (by decide)
  have e14 := e 28 249 58 (by decide) (by decide) (by decide)
  have go : ∀ (k x : Int32), kk = k → soI k = x → Q (some (.int x)) M := fun k x q w => by rw [← w, ← q]; exact H
  unfold DX11_sortOf_50 DX11_sortOf_241
  refine ⟨fun n0 => ⟨fun n1 => ⟨fun n2 => ⟨fun n3 => ⟨fun n4 => ⟨fun n5 => ⟨fun n6 => ⟨fun n7 => ⟨fun n8 => ⟨fun n9 => ⟨fun n10 => ⟨fun n11 => ⟨fun n12 => ⟨fun n13 => ⟨fun n14 => ?_, fun q => go 58 14 (e14.mp q) (by decide)⟩, fun q => go 57 13 (e13.mp q) (by decide)⟩, fun q => go 55 12 (e12.mp q) (by decide)⟩, fun q => go 53 11 (e11.mp q) (by decide)⟩, fun q => go 52 10 (e10.mp q) (by decide)⟩, fun q => go 50 9 (e9.mp q) (by decide)⟩, fun q => go 49 8 (e8.mp q) (by decide)⟩, fun q => go 47 7 (e7.mp q) (by decide)⟩, fun q => go 44 6 (e6.mp q) (by decide)⟩, fun q => go 42 5 (e5.mp q) (by decide)⟩, fun q => go 41 4 (e4.mp q) (by decide)⟩, fun q => go 40 3 (e3.mp q) (by decide)⟩, fun q => go 39 2 (e2.mp q) (by decide)⟩, fun q => go 38 1 (e1.mp q) (by decide)⟩, fun q => go 37 0 (e0.mp q) (by decide)⟩
  have z : soK kk = 99 := by
    unfold soK
    rw [if_neg (fun q => n0 (e0.mpr q)), if_neg (fun q => n1 (e1.mpr q)), if_neg (fun q => n2 (e2.mpr q)), if_neg (fun q => n3 (e3.mpr q)), if_neg (fun q => n4 (e4.mpr q)), if_neg (fun q => n5 (e5.mpr q)), if_neg (fun q => n6 (e6.mpr q)), if_neg (fun q => n7 (e7.mpr q)), if_neg (fun q => n8 (e8.mpr q)), if_neg (fun q => n9 (e9.mpr q)), if_neg (fun q => n10 (e10.mpr q)), if_neg (fun q => n11 (e11.mpr q)), if_neg (fun q => n12 (e12.mpr q)), if_neg (fun q => n13 (e13.mpr q)), if_neg (fun q => n14 (e14.mpr q)), if_neg h2, if_neg h17]
  have : soI kk = -1 := by unfold soI; rw [if_pos z]
  rw [this] at H
  exact H
theorem key_nz : ∀ j, j < 33 → (0 : Int64) ≠ key27.getD j 0 := by decide
theorem P_sortOf (hT : Tk b n M i) (H : Q (some (.int (soI (tK b n i)))) M) : E (h + 3) mdX11_sortOf [.ref 29] M Q := by
  obtain ⟨F, hB, ⟨r1, r2, r3⟩, h5, h8⟩ := id hT
  have sk := fun (j : Nat) (hj : j < 33) => said_key (b := b) (n := n) (p := tP b n i) hB hj
  refine KX11_sortOf ?_
  unfold DX11_sortOf_0
  refine ⟨ok29 F, K_sign (h := h + 1) (k := 17) hT (by decide) (by decide) (fun q _ => ⟨_, rfl, fun z => absurd z (by decide), fun _ => ?_⟩) (fun q17 _ => ⟨_, rfl, fun _ => K_name (h := h) hT (fun q _ => ⟨_, rfl, fun z => absurd z (by decide), fun _ => ?_⟩) (fun q2 _ => ⟨_, rfl, fun _ => ?_, fun z => absurd rfl z⟩), fun z => absurd rfl z⟩)⟩
  · rw [q] at H; exact H
  · rw [q] at H; exact H
  · rw [h5, lt32 (by omega)]
    refine ⟨31, rf29_2 F, ok31 F, by rw [ln31 F]; exact vp_of (by omega) (by decide), ?_⟩
    rw [r1]
    refine ⟨fun ns => so50 (kk := tK b n i) (fun j hj => ⟨fun z => absurd z (key_nz j hj), fun z => absurd ((sk j hj).mpr z).1 ns⟩) q2 q17 H, fun ys => ⟨33, rf29_4 F, ok33 F, by rw [ln33 F]; exact vp_of (by omega) (by decide), ?_⟩⟩
    rw [r3]
    exact so50 (kk := tK b n i) (fun j hj => ⟨fun z => (sk j hj).mp ⟨ys, z⟩, fun z => ((sk j hj).mpr z).2⟩) q2 q17 H
theorem in_op : ∀ so : Fin 17, ((8 : Int64) ≤ (Int32.ofNat so).toInt64 ∧ (Int32.ofNat so).toInt64 ≤ 12) ↔ (8 ≤ so.val ∧ so.val ≤ 12) := by decide
theorem in_p1 : ∀ so : Fin 17, ((1 : Int64) ≤ (Int32.ofNat so).toInt64 ∧ (Int32.ofNat so).toInt64 ≤ 2) ↔ (1 ≤ so.val ∧ so.val ≤ 2) := by decide
theorem in_p7 : ∀ so : Fin 17, ((7 : Int64) ≤ (Int32.ofNat so).toInt64 ∧ (Int32.ofNat so).toInt64 ≤ 9) ↔ (7 ≤ so.val ∧ so.val ≤ 9) := by decide
theorem P_isOp {so : Nat} (hs : so ≤ 16) (H1 : opSo so → Q (some (.int 1)) M) (H0 : ¬ opSo so → Q (some (.int 0)) M) : E (h + 2) mdX11_isOpening [.int (Int32.ofNat so)] M Q := by
  have e : ∀ c, c < 100 → ((Int32.ofNat so = Int32.ofNat c) ↔ so = c) := fun c hc => z32 (by omega) (by omega)
  have io := in_op ⟨so, by omega⟩
  unfold opSo at H1 H0
  refine KX11_isOpening ?_
  unfold DX11_isOpening_0 DX11_isOpening_37 DX11_isOpening_42
  have e5 := e 5 (by decide)
  have e6 := e 6 (by decide)
  have e14 := e 14 (by decide)
  have e16 := e 16 (by decide)
  refine ⟨fun q => ⟨Or.inr rfl, H1 (Or.inl (e5.mp q))⟩, fun n5 => ⟨fun q => ⟨Or.inr rfl, H1 (Or.inr (Or.inl (e6.mp q)))⟩, fun n6 => S_in (fun _ => ⟨_, rfl, fun q => ⟨Or.inr rfl, H1 ?_⟩, fun q => ⟨fun q14 => ⟨Or.inr rfl, H1 (Or.inr (Or.inr (Or.inr (Or.inl (e14.mp q14)))))⟩, fun n14 => ⟨fun n16 => ⟨Or.inl rfl, H0 ?_⟩, fun q16 => ⟨Or.inr rfl, H1 (Or.inr (Or.inr (Or.inr (Or.inr (e16.mp q16)))))⟩⟩⟩⟩)⟩⟩
  · by_cases w : (8 : Int64) ≤ (Int32.ofNat so).toInt64 ∧ (Int32.ofNat so).toInt64 ≤ 12
    · exact Or.inr (Or.inr (Or.inl (io.mp w)))
    · rw [if_neg w] at q; exact absurd rfl q
  · have w : ¬ ((8 : Int64) ≤ (Int32.ofNat so).toInt64 ∧ (Int32.ofNat so).toInt64 ≤ 12) := fun w => by rw [if_pos w] at q; exact absurd q (by decide)
    intro z
    rcases z with z | z | z | z | z
    · exact n5 (e5.mpr z)
    · exact n6 (e6.mpr z)
    · exact w (io.mpr z)
    · exact n14 (e14.mpr z)
    · exact n16 (e16.mpr z)
theorem P_pausesOf {so : Nat} (hs : so ≤ 16) (H : Q (some (.int (Int32.ofNat (paSo so)))) M) : E (h + 2) mdX11_pausesOf [.int (Int32.ofNat so)] M Q := by
  have e : ∀ c, c < 100 → ((Int32.ofNat so = Int32.ofNat c) ↔ so = c) := fun c hc => z32 (by omega) (by omega)
  have i1 := in_p1 ⟨so, by omega⟩
  have i7 := in_p7 ⟨so, by omega⟩
  have e11 := e 11 (by decide)
  have e4 := e 4 (by decide)
  have one : so ≠ 11 → (so = 1 ∨ so = 2 ∨ so = 4 ∨ so = 7 ∨ so = 8 ∨ so = 9) → Q (some (.int 1)) M := fun a c => by
    unfold paSo at H; rw [if_neg a, if_pos c] at H; exact H
  refine KX11_pausesOf ?_
  unfold DX11_pausesOf_0 DX11_pausesOf_41 DX11_pausesOf_46
  refine ⟨fun n11 => S_in (fun _ => ⟨_, rfl, fun q => one (fun z => n11 (e11.mpr z)) ?_, fun q => ⟨fun q4 => one (fun z => n11 (e11.mpr z)) (Or.inr (Or.inr (Or.inl (e4.mp q4)))), fun n4 => S_in (fun _ => ⟨_, rfl, fun q7 => ?_, fun q7 => one (fun z => n11 (e11.mpr z)) ?_⟩)⟩⟩), fun q => ?_⟩
  · by_cases w : (1 : Int64) ≤ (Int32.ofNat so).toInt64 ∧ (Int32.ofNat so).toInt64 ≤ 2
    · have := i1.mp w
      have : 1 ≤ so ∧ so ≤ 2 := this
      omega
    · rw [if_neg w] at q; exact absurd rfl q
  · have w1 : ¬ ((1 : Int64) ≤ (Int32.ofNat so).toInt64 ∧ (Int32.ofNat so).toInt64 ≤ 2) := fun w => by rw [if_pos w] at q; exact absurd q (by decide)
    have w7 : ¬ ((7 : Int64) ≤ (Int32.ofNat so).toInt64 ∧ (Int32.ofNat so).toInt64 ≤ 9) := fun w => by rw [if_pos w] at q7; exact absurd q7 (by decide)
    have x1 : ¬ (1 ≤ so ∧ so ≤ 2) := fun z => w1 (i1.mpr z)
    have x7 : ¬ (7 ≤ so ∧ so ≤ 9) := fun z => w7 (i7.mpr z)
    have x4 : so ≠ 4 := fun z => n4 (e4.mpr z)
    have x11 : so ≠ 11 := fun z => n11 (e11.mpr z)
    unfold paSo at H
    rw [if_neg x11, if_neg (by omega)] at H
    exact H
  · by_cases w : (7 : Int64) ≤ (Int32.ofNat so).toInt64 ∧ (Int32.ofNat so).toInt64 ≤ 9
    · have : 7 ≤ so ∧ so ≤ 9 := i7.mp w
      omega
    · rw [if_neg w] at q7; exact absurd rfl q7
  · have x := e11.mp q
    unfold paSo at H
    rw [if_pos x] at H
    exact H
end
end
section
/-! the reference: rows begin, parts begin -/
section
variable {b : Nat → Int32} {n s m : Nat} {τ : Td} {K : List KE} {σ : PS} {M M' : Mem} {i o h : Nat} {Q : Option Value → Mem → Prop}
theorem St.put {M M' : Mem} {c f a0 x y : Nat} {l : List Nat} (hs : St M c f a0 (x :: l)) (e : M' = wAI M c l.length (Int32.ofNat (a0 + y))) : St M' c f a0 (y :: l) := by
  obtain ⟨h1, h2⟩ := hs
  refine ⟨by rw [e]; exact h1, fun j hj => ?_⟩
  have hj : j < l.length + 1 := hj
  rw [rev_app hj, e]
  show up2 (mAI M) c l.length _ c j = _
  by_cases q : j = l.length
  · rw [if_pos q, q]; exact up2_eq
  · rw [if_neg q, up2_ne (fun z => q z.2), h2 j hj, rev_app hj, if_neg q]
theorem i32_nat (v : Int32) : ∃ x : Nat, v = Int32.ofNat x := ⟨v.toBitVec.toNat, by
  refine Int32.toBitVec_inj.mp ?_
  rw [Int32.toBitVec_ofNat']
  refine BitVec.eq_of_toNat_eq ?_
  rw [BitVec.toNat_ofNat, Nat.mod_eq_of_lt v.toBitVec.isLt]⟩
theorem RPd.cn {t v : Nat} (hd : RPd m τ K σ M) (ht : t < 4) : RPd m τ K ((va_up σ.1.1 t v, σ.1.2), σ.2) (wAI M (54 + t) m (Int32.ofNat v)) := by
  obtain ⟨d1, d2, d3, d4, d5, d6, d7, d8, d9⟩ := hd
  have ne : ∀ {a : Nat}, a ≠ 54 + t → mAI (wAI M (54 + t) m (Int32.ofNat v)) a = mAI M a := fun q => mAI_wAI_ne q
  have e4 : va_up σ.1.1 t v 4 = σ.1.1 4 := va_up_ne _ _ (by omega)
  refine ⟨d1.fr (ne (by omega)) (ne (by omega)) rfl (ne (by omega)), d2.fr (ne (by omega)) (ne (by omega)) (ne (by omega)) (ne (by omega)) (ne (by omega)), fun a q1 q2 q3 => by rw [ne (by omega)]; exact d3 a q1 q2 q3, d4, ?_, d6.trans (congrArg Int32.ofNat e4.symm), d7.fr rfl (ne (by omega)), d8.fr rfl (ne (by omega)), d9.fr rfl (ne (by omega))⟩
  have one : ∀ u, u < 4 → mAI M (54 + u) m = Int32.ofNat (σ.1.1 u) → mAI (wAI M (54 + t) m (Int32.ofNat v)) (54 + u) m = Int32.ofNat (va_up σ.1.1 t v u) := by
    intro u hu hd
    by_cases q : u = t
    · rw [q, va_up_self]; exact up2_eq
    · rw [va_up_ne _ _ q, ne (by omega)]; exact hd
  exact ⟨one 0 (by decide) d5.1, one 1 (by decide) d5.2.1, one 2 (by decide) d5.2.2.1, one 3 (by decide) d5.2.2.2⟩
theorem RPd.sq {v : Nat} (hd : RPd m τ K σ M) : RPd m τ K ((va_up σ.1.1 4 v, σ.1.2), σ.2) (wI M 29 53 (Int32.ofNat v)) := by
  obtain ⟨d1, d2, d3, d4, d5, d6, d7, d8, d9⟩ := hd
  have ne : ∀ u, u ≠ 4 → va_up σ.1.1 4 v u = σ.1.1 u := fun u hu => va_up_ne _ _ hu
  have e0 : mI (wI M 29 53 (Int32.ofNat v)) 29 60 = mI M 29 60 := by rw [mI_wI, if_neg (by decide)]
  refine ⟨d1.fr rfl rfl rfl rfl, d2.fr rfl rfl rfl rfl rfl, d3, d4, ⟨d5.1.trans (congrArg Int32.ofNat (ne 0 (by decide)).symm), d5.2.1.trans (congrArg Int32.ofNat (ne 1 (by decide)).symm), d5.2.2.1.trans (congrArg Int32.ofNat (ne 2 (by decide)).symm), d5.2.2.2.trans (congrArg Int32.ofNat (ne 3 (by decide)).symm)⟩, (mI_own _ _ _ _).trans (congrArg Int32.ofNat (show v = va_up σ.1.1 4 v 4 from (va_up_self _ _ _).symm)), d7.fr e0 rfl, d8.fr e0 rfl, d9.fr e0 rfl⟩
theorem RGp.cn {t : Nat} {v : Int32} (ht : t < 4) : RGp m M (wAI M (54 + t) m v) := by
  have e : szA (54 + t) = 1 := by
    rcases (show t = 0 ∨ t = 1 ∨ t = 2 ∨ t = 3 by omega) with rfl | rfl | rfl | rfl <;> decide
  refine RG.ai ?_ (by rw [e]; omega)
  simp only [List.mem_cons, List.not_mem_nil]
  omega
theorem RGp.q {c k : Nat} {v : Int32} (h1 : 73 ≤ c) (h2 : c ≤ 78) : RGp m M (wAI M c k v) := RGp.ra (by omega) h2 (by omega) (by rw [sz_q h1 h2]; omega)
/-- a new row -/
theorem P_newSeq (F : Fix M) (hd : RPd m τ K σ M) (hq : σ.1.1 4 < 100) (H : ∀ M', RPd m τ K ((va_up σ.1.1 4 (σ.1.1 4 + 1), up2 (up2 (up2 σ.1.2.1 73 (σ.1.1 4) (-1)) 74 (σ.1.1 4) (-1)) 75 (σ.1.1 4) (-1), σ.1.2.2), σ.2) M' → RGp m M M' → (∀ f, f ≠ 53 → mI M' 29 f = mI M 29 f) → Q (some (.int (Int32.ofNat (σ.1.1 4)))) M') : E (h + 1) mdX11_newSeq [.ref 29] M Q := by
  have d6 := hd.2.2.2.2.2.1
  refine KX11_newSeq ?_
  unfold DX11_newSeq_0
  rw [d6, succ32, lt32 (by omega)]
  refine ⟨ok29 F, fun M2 e2 => ?_⟩
  have F2 : Fix M2 := by rw [e2]; exact F.i
  have D2 := hd.sq (v := σ.1.1 4 + 1)
  rw [← e2] at D2
  have vp : ∀ {N : Mem} {c : Nat}, mL N c = 100 → vp_in (Int32.ofNat (σ.1.1 4)) (mL N c) := fun e => by rw [e]; exact vp_of hq (by decide)
  refine ⟨73, rf29_54 F2, ok73 F2, vp (ln73 F2), fun M5 e5 => ?_⟩
  have F5 : Fix M5 := by rw [e5]; exact F2.ai
  have D5 := D2.ra (c := 73) (k := σ.1.1 4) (v := -1) (by decide) (by decide) (by decide)
  rw [← e5] at D5
  refine ⟨74, rf29_55 F5, ok74 F5, vp (ln74 F5), fun M8 e8 => ?_⟩
  have F8 : Fix M8 := by rw [e8]; exact F5.ai
  have D8 := D5.ra (c := 74) (k := σ.1.1 4) (v := -1) (by decide) (by decide) (by decide)
  rw [← e8] at D8
  refine ⟨75, rf29_56 F8, ok75 F8, vp (ln75 F8), fun M9 e9 => ?_⟩
  have D9 := D8.ra (c := 75) (k := σ.1.1 4) (v := -1) (by decide) (by decide) (by decide)
  rw [← e9] at D9
  refine H M9 D9 ?_ (fun f hf => ?_)
  · rw [e9, e8, e5, e2]
    exact (((RG.i (by decide)).tr (RGp.q (by decide) (by decide))).tr (RGp.q (by decide) (by decide))).tr (RGp.q (by decide) (by decide))
  · rw [e9, e8, e5, e2]
    exact up2_ne (fun z => hf z.2)
/-- the open part's row -/
theorem P_openRow {e : KE} {j : Nat} (F : Fix M) (h4 : m < 4) (hj : j < 40) (hd : RPd m τ (e :: K) σ M) (he : e.1 = 40 * m + j) (hK : K.length ≤ 15) (hq : σ.1.1 4 < 100) (h1 : σ.1.2.1 69 (40 * m + j) = -1 → ∀ M', RPd m τ ((e.1, σ.1.1 4, e.2.2.1 + 1, e.2.2.2) :: K) (rwP (40 * m + j) none σ) M' → RGp m M M' → (∀ f, f ≠ 53 → mI M' 29 f = mI M 29 f) → Q none M') (h2 : σ.1.2.1 69 (40 * m + j) ≠ -1 → e.2.1 < 100 ∧ ∀ M', RPd m τ ((e.1, σ.1.1 4, e.2.2.1 + 1, e.2.2.2) :: K) (rwP (40 * m + j) (some e.2.1) σ) M' → RGp m M M' → (∀ f, f ≠ 53 → mI M' 29 f = mI M 29 f) → Q none M') : E (h + 2) mdX11_openRow [.ref 29, .int (Int32.ofNat (40 * m + j))] M Q := by
  have l40 := lt40 h4 hj
  refine KX11_openRow ?_
  unfold DX11_openRow_0
  refine ⟨ok29 F, P_newSeq (h := h) F hd hq (fun M2 D2 G2 I2 _ => ⟨_, rfl, ?_⟩)⟩
  have F2 := G2.fix F (by decide)
  have hop : mI M2 29 60 - 1 = Int32.ofNat K.length := by
    have z := D2.2.2.2.2.2.2.1.1
    rw [z]
    have : ((e :: K).map (fun e => e.1)).length = K.length + 1 := by rw [List.length_map]; rfl
    rw [this, dec32 (by omega)]
  have top77 : mAI M2 77 K.length = Int32.ofNat e.2.1 := by
    have z := (D2.2.2.2.2.2.2.2.1 : St M2 77 60 0 (e.2.1 :: K.map (fun e => e.2.1))).top
    rw [List.length_map, Nat.zero_add] at z
    exact z
  have top78 : ∀ {N : Mem} {x : Nat}, St N 78 60 0 (x :: K.map (fun e => e.2.2.1)) → mAI N 78 K.length = Int32.ofNat x := fun z => by
    have z := z.top
    rw [List.length_map, Nat.zero_add] at z
    exact z
  have e69 : mAI M2 69 (40 * m + j) = σ.1.2.1 69 (40 * m + j) := by
    rw [D2.2.2.1 69 (by decide) (by decide) (by decide)]
    simp [up2]
  have vp17 : ∀ {N : Mem} {c : Nat}, mL N c = 17 → vp_in (Int32.ofNat K.length) (mL N c) := fun z => by rw [z]; exact vp_of (by omega) (by decide)
  -- what is behind the link
  have fin : ∀ (N : Mem) (σ' : PS), Fix N → RPd m τ (e :: K) σ' N → RGp m M N → (∀ f, f ≠ 53 → mI N 29 f = mI M 29 f) → (∀ M', RPd m τ ((e.1, σ.1.1 4, e.2.2.1 + 1, e.2.2.2) :: K) σ' M' → RGp m M M' → (∀ f, f ≠ 53 → mI M' 29 f = mI M 29 f) → Q none M') → DX11_openRow_42 (h + 1) 29 (Int32.ofNat (σ.1.1 4)) N Q := by
    intro N σ' FN DN GN IN HN
    have hopN : mI N 29 60 - 1 = Int32.ofNat K.length := by rw [IN 60 (by decide), ← I2 60 (by decide)]; exact hop
    unfold DX11_openRow_42
    rw [hopN, lt32 (by omega)]
    refine ⟨ok29 FN, 77, rf29_58 FN, ok77 FN, vp17 (ln77 FN), fun N4 e4 => ?_⟩
    have F4 : Fix N4 := by rw [e4]; exact FN.ai
    have i4 : mI N4 29 60 - 1 = Int32.ofNat K.length := by rw [e4]; exact hopN
    rw [i4, lt32 (by omega)]
    obtain ⟨d1, d2, d3, d4, d5, d6, d7, d8, d9⟩ := DN
    have n4 : ∀ {a : Nat}, a ≠ 77 → mAI N4 a = mAI N a := fun q => by rw [e4]; exact mAI_wAI_ne q
    have t78 : mAI N4 78 K.length = Int32.ofNat e.2.2.1 := by rw [n4 (by decide)]; exact top78 (x := e.2.2.1) d9
    refine ⟨78, rf29_59 F4, ok78 F4, vp17 (ln78 F4), vp17 (ln78 F4), fun N7 e7 => ?_⟩
    rw [t78, succ32] at e7
    refine HN N7 ?_ ?_ (fun f hf => by rw [e7, e4]; exact IN f hf)
    · have n7 : ∀ {a : Nat}, a ≠ 77 → a ≠ 78 → mAI N7 a = mAI N a := fun q1 q2 => by rw [e7, mAI_wAI_ne q2]; exact n4 q1
      have r : mI N7 = mI N := by rw [e7, e4]; rfl
      have rj : mAJ N7 = mAJ N := by rw [e7, e4]; rfl
      have s77 : St N4 77 60 0 (σ.1.1 4 :: K.map (fun e => e.2.1)) := St.put (x := e.2.1) d8 (by rw [e4, List.length_map, Nat.zero_add])
      have d94 : St N4 78 60 0 (e.2.2.1 :: K.map (fun e => e.2.2.1)) := d9.fr (by rw [e4]; rfl) (n4 (by decide))
      have s78 : St N7 78 60 0 ((e.2.2.1 + 1) :: K.map (fun e => e.2.2.1)) := St.put (x := e.2.2.1) d94 (by rw [e7, List.length_map, Nat.zero_add])
      have s77b : St N7 77 60 0 (σ.1.1 4 :: K.map (fun e => e.2.1)) := s77.fr (by rw [e7]; rfl) (by rw [e7]; exact mAI_wAI_ne (by decide))
      exact ⟨d1.fr (n7 (by decide) (by decide)) (n7 (by decide) (by decide)) (by rw [rj]) (n7 (by decide) (by decide)), d2.fr (n7 (by decide) (by decide)) (n7 (by decide) (by decide)) (n7 (by decide) (by decide)) (n7 (by decide) (by decide)) (n7 (by decide) (by decide)), fun a q1 q2 q3 => by rw [n7 (by omega) (by omega)]; exact d3 a q1 q2 q3, by rw [rj]; exact d4, ⟨by rw [n7 (a := 54) (by decide) (by decide)]; exact d5.1, by rw [n7 (a := 55) (by decide) (by decide)]; exact d5.2.1, by rw [n7 (a := 56) (by decide) (by decide)]; exact d5.2.2.1, by rw [n7 (a := 57) (by decide) (by decide)]; exact d5.2.2.2⟩, by rw [r]; exact d6, d7.fr (by rw [r]) (n7 (by decide) (by decide)), s77b, s78⟩
    · rw [e7, e4]
      exact (GN.tr (RGp.q (by decide) (by decide))).tr (RGp.q (by decide) (by decide))
  refine ⟨69, rf29_49 F2, ok69 F2, ix40 h4 hj (ln69 F2), ?_⟩
  rw [l40, e69, hop, lt32 (n := K.length) (by omega)]
  refine ⟨fun q => ?_, fun q => ?_⟩
  · obtain ⟨w1, w2⟩ := h2 q
    refine ⟨75, rf29_56 F2, 77, rf29_58 F2, ok77 F2, vp17 (ln77 F2), ok75 F2, ?_⟩
    rw [top77, lt32 (by omega)]
    refine ⟨by rw [ln75 F2]; exact vp_of w1 (by decide), fun N e0 => ?_⟩
    have DN := D2.ra (c := 75) (k := e.2.1) (v := Int32.ofNat (σ.1.1 4)) (by decide) (by decide) (by decide)
    rw [← e0] at DN
    exact fin N _ (by rw [e0]; exact F2.ai) DN (by rw [e0]; exact G2.tr (RGp.q (by decide) (by decide))) (fun f hf => by rw [e0]; exact I2 f hf) w2
  · refine ⟨69, rf29_49 F2, ok69 F2, ix40 h4 hj (ln69 F2), fun N e0 => ?_⟩
    have DN := D2.ra (c := 69) (k := 40 * m + j) (v := Int32.ofNat (σ.1.1 4)) (by decide) (by decide) (by decide)
    rw [← e0] at DN
    exact fin N _ (by rw [e0]; exact F2.ai) DN (by rw [e0]; exact G2.tr (RGp.ra (by decide) (by decide) (by decide) (by rw [sz_p (by decide) (by decide)]; omega))) (fun f hf => by rw [e0]; exact I2 f hf) (h1 q)
end
end
section
/-! the reference: a part begins -/
section
variable {b : Nat → Int32} {n s m : Nat} {τ : Td} {K : List KE} {σ : PS} {M M' : Mem} {i o h : Nat} {Q : Option Value → Mem → Prop}
theorem RPs.cn {t v : Nat} (hR : RPs b n s m τ K σ M i o) (ht : t < 4) : RPs b n s m τ K ((va_up σ.1.1 t v, σ.1.2), σ.2) (wAI M (54 + t) m (Int32.ofNat v)) i o := by
  obtain ⟨c1, c2, c3, c4, c5, c6, c7⟩ := hR
  exact ⟨c1.rg (RGp.cn ht), c2, c3, c4, c5, c6.cn ht, c7⟩
theorem beg392 {q p : Nat} (hR : RPs b n s m τ K σ M i o) (hB : By b) (hz : ∀ i, n ≤ i → b i = 0) (hs : i < s) (h1 : tK b n i ≠ 1) (hq : q < 100) (H1 : tK b n (i + 1) ≠ 0 → ∀ M', RPs b n s m τ K (raP σ (up2 σ.1.2.1 74 q (Int32.ofNat p))) M' (i + 1) o → RGp m M M' → Q (some (.int (Int32.ofNat p))) M') (H0 : tK b n (i + 1) = 0 → ∀ M', TXr M' 1 (tP b n (i + 1)) → RGp m M M' → Q (some (.int (Int32.ofNat p))) M') : DX11_beginPart_392 (h + 2) 29 (Int32.ofNat q) (Int32.ofNat p) M Q := by
  have F := hR.1.1
  unfold DX11_beginPart_392
  rw [lt32 (by omega)]
  refine ⟨ok29 F, 74, rf29_55 F, ok74 F, by rw [ln74 F]; exact vp_of hq (by decide), fun M4 e4 => ?_⟩
  have s1 := hR.ra (c := 74) (k := q) (v := Int32.ofNat p) (by decide) (by decide) (by decide) (by rw [sz_q (by decide) (by decide)]; omega)
  rw [← e4] at s1
  have G : RGp m M M4 := by rw [e4]; exact RGp.q (by decide) (by decide)
  exact P_take (h := h) s1 hB hz hs h1 (fun k1 M5 R5 G5 _ => ⟨rfl, H1 k1 M5 R5 (G.tr G5)⟩) (fun k1 M5 T5 G5 _ => ⟨rfl, H0 k1 M5 T5 (G.tr G5)⟩)
/-- the nine rows of a part that are written first -/
def b9A (p so pl : Nat) (wh : Int32) (A : Nat → Nat → Int32) : Nat → Nat → Int32 := up2 (up2 (up2 (up2 (up2 (up2 (up2 (up2 (up2 A 58 p (Int32.ofNat so)) 59 p (Int32.ofNat pl)) 60 p wh) 61 p 0) 63 p (-1)) 65 p (-1)) 67 p (-1)) 69 p (-1)) 70 p (-1)
theorem beg317 {q j : Nat} {wh : Int32} (hR : RPs b n s m τ K σ M i o) (hB : By b) (hz : ∀ i, n ≤ i → b i = 0) (hs : i < s) (h1 : tK b n i ≠ 1) (hq : q < 100) (hj : j < 40) (hx : σ.1.2.1 73 q = -1 ∨ ∃ x, (40 * m ≤ x ∧ x < 160) ∧ σ.1.2.1 74 q = Int32.ofNat x) (H1 : tK b n (i + 1) ≠ 0 → ∀ M', RPs b n s m τ K (raP σ (up2 (lkA (40 * m + j) q (up2 (up2 (up2 (up2 (up2 (up2 (up2 σ.1.2.1 60 (40 * m + j) wh) 61 (40 * m + j) 0) 63 (40 * m + j) (-1)) 65 (40 * m + j) (-1)) 67 (40 * m + j) (-1)) 69 (40 * m + j) (-1)) 70 (40 * m + j) (-1))) 74 q (Int32.ofNat (40 * m + j)))) M' (i + 1) o → RGp m M M' → Q (some (.int (Int32.ofNat (40 * m + j)))) M') (H0 : tK b n (i + 1) = 0 → ∀ M', TXr M' 1 (tP b n (i + 1)) → RGp m M M' → Q (some (.int (Int32.ofNat (40 * m + j)))) M') : DX11_beginPart_317 (h + 2) 29 (Int32.ofNat q) (Int32.ofNat (40 * m + j)) 60 (Int32.ofNat (40 * m + j)) wh M Q := by
  have F := hR.1.1
  have h4 := hR.1.2.2.2.1
  have l40 := lt40 h4 hj
  have zk : ∀ {c : Nat}, 58 ≤ c → c ≤ 72 → szA c * m ≤ 40 * m + j := fun a c => by rw [sz_p a c]; omega
  unfold DX11_beginPart_317
  rw [l40, lt32 (n := q) (by omega)]
  refine ⟨ok60 F, ix40 h4 hj (ln60 F), fun M2 e2 => ?_⟩
  have s2 := hR.ra (c := 60) (k := 40 * m + j) (v := wh) (by decide) (by decide) (by decide) (zk (by decide) (by decide))
  rw [← e2] at s2
  have F2 := s2.1.1
  refine ⟨ok29 F2, 61, rf29_41 F2, ok61 F2, ix40 h4 hj (ln61 F2), fun M6 e6 => ?_⟩
  rw [bool_nar0] at e6
  have s6 := s2.ra (c := 61) (k := 40 * m + j) (v := 0) (by decide) (by decide) (by decide) (zk (by decide) (by decide))
  rw [← e6] at s6
  have F6 := s6.1.1
  refine ⟨63, rf29_43 F6, ok63 F6, ix40 h4 hj (ln63 F6), fun M9 e9 => ?_⟩
  have s9 := s6.ra (c := 63) (k := 40 * m + j) (v := -1) (by decide) (by decide) (by decide) (zk (by decide) (by decide))
  rw [← e9] at s9
  have F9 := s9.1.1
  refine ⟨65, rf29_45 F9, ok65 F9, ix40 h4 hj (ln65 F9), fun M12 e12 => ?_⟩
  have s12 := s9.ra (c := 65) (k := 40 * m + j) (v := -1) (by decide) (by decide) (by decide) (zk (by decide) (by decide))
  rw [← e12] at s12
  have F12 := s12.1.1
  refine ⟨67, rf29_47 F12, ok67 F12, ix40 h4 hj (ln67 F12), fun M15 e15 => ?_⟩
  have s15 := s12.ra (c := 67) (k := 40 * m + j) (v := -1) (by decide) (by decide) (by decide) (zk (by decide) (by decide))
  rw [← e15] at s15
  have F15 := s15.1.1
  refine ⟨69, rf29_49 F15, ok69 F15, ix40 h4 hj (ln69 F15), fun M18 e18 => ?_⟩
  have s18 := s15.ra (c := 69) (k := 40 * m + j) (v := -1) (by decide) (by decide) (by decide) (zk (by decide) (by decide))
  rw [← e18] at s18
  have F18 := s18.1.1
  refine ⟨70, rf29_50 F18, ok70 F18, ix40 h4 hj (ln70 F18), fun M21 e21 => ?_⟩
  have s21 := s18.ra (c := 70) (k := 40 * m + j) (v := -1) (by decide) (by decide) (by decide) (zk (by decide) (by decide))
  rw [← e21] at s21
  have F21 := s21.1.1
  have G21 : RGp m M M21 := by
    rw [e21, e18, e15, e12, e9, e6, e2]
    exact ((((((RGp.ra (by decide) (by decide) (by decide) (zk (by decide) (by decide))).tr (RGp.ra (by decide) (by decide) (by decide) (zk (by decide) (by decide)))).tr (RGp.ra (by decide) (by decide) (by decide) (zk (by decide) (by decide)))).tr (RGp.ra (by decide) (by decide) (by decide) (zk (by decide) (by decide)))).tr (RGp.ra (by decide) (by decide) (by decide) (zk (by decide) (by decide)))).tr (RGp.ra (by decide) (by decide) (by decide) (zk (by decide) (by decide)))).tr (RGp.ra (by decide) (by decide) (by decide) (zk (by decide) (by decide)))
  have s21 : RPs b n s m τ K (raP σ (up2 (up2 (up2 (up2 (up2 (up2 (up2 σ.1.2.1 60 (40 * m + j) wh) 61 (40 * m + j) 0) 63 (40 * m + j) (-1)) 65 (40 * m + j) (-1)) 67 (40 * m + j) (-1)) 69 (40 * m + j) (-1)) 70 (40 * m + j) (-1))) M21 i o := s21
  have a73 : mAI M21 73 q = σ.1.2.1 73 q := by rw [s21.2.2.2.2.2.1.2.2.1 73 (by decide) (by decide) (by decide)]; simp [raP, up2]
  have a74 : mAI M21 74 q = σ.1.2.1 74 q := by rw [s21.2.2.2.2.2.1.2.2.1 74 (by decide) (by decide) (by decide)]; simp [raP, up2]
  have w73 : (up2 (up2 (up2 (up2 (up2 (up2 (up2 σ.1.2.1 60 (40 * m + j) wh) 61 (40 * m + j) 0) 63 (40 * m + j) (-1)) 65 (40 * m + j) (-1)) 67 (40 * m + j) (-1)) 69 (40 * m + j) (-1)) 70 (40 * m + j) (-1)) 73 q = σ.1.2.1 73 q := by simp [up2]
  have w74 : (up2 (up2 (up2 (up2 (up2 (up2 (up2 σ.1.2.1 60 (40 * m + j) wh) 61 (40 * m + j) 0) 63 (40 * m + j) (-1)) 65 (40 * m + j) (-1)) 67 (40 * m + j) (-1)) 69 (40 * m + j) (-1)) 70 (40 * m + j) (-1)) 74 q = σ.1.2.1 74 q := by simp [up2]
  generalize (up2 (up2 (up2 (up2 (up2 (up2 (up2 σ.1.2.1 60 (40 * m + j) wh) 61 (40 * m + j) 0) 63 (40 * m + j) (-1)) 65 (40 * m + j) (-1)) 67 (40 * m + j) (-1)) 69 (40 * m + j) (-1)) 70 (40 * m + j) (-1)) = A at s21 w73 w74 H1
  unfold lkA at H1
  rw [w73, w74] at H1
  refine ⟨73, rf29_54 F21, ok73 F21, by rw [ln73 F21]; exact vp_of hq (by decide), ?_⟩
  rw [a73]
  refine ⟨fun qn => ?_, fun qy => ?_⟩
  · rw [if_neg qn] at H1
    obtain ⟨x, ⟨x1, x2⟩, ex⟩ := hx.resolve_left qn
    rw [ex, lt32 (by omega)] at H1
    refine ⟨70, rf29_50 F21, 74, rf29_55 F21, ok74 F21, by rw [ln74 F21]; exact vp_of hq (by decide), ok70 F21, ?_⟩
    rw [a74, ex, lt32 (by omega)]
    refine ⟨by rw [ln70 F21]; exact vp_of x2 (by decide), fun M28 e28 => ?_⟩
    have s28 := s21.ra (c := 70) (k := x) (v := Int32.ofNat (40 * m + j)) (by decide) (by decide) (by decide) (by rw [sz_p (by decide) (by decide)]; exact x1)
    rw [← e28] at s28
    have G28 : RGp m M M28 := by rw [e28]; exact G21.tr (RGp.ra (by decide) (by decide) (by decide) (by rw [sz_p (by decide) (by decide)]; exact x1))
    exact beg392 s28 hB hz hs h1 hq (fun k1 M' R' G' => H1 k1 M' R' (G28.tr G')) (fun k1 M' T' G' => H0 k1 M' T' (G28.tr G'))
  · rw [if_pos qy] at H1
    refine ⟨73, rf29_54 F21, ok73 F21, by rw [ln73 F21]; exact vp_of hq (by decide), fun M31 e31 => ?_⟩
    have s31 := s21.ra (c := 73) (k := q) (v := Int32.ofNat (40 * m + j)) (by decide) (by decide) (by decide) (by rw [sz_q (by decide) (by decide)]; omega)
    rw [← e31] at s31
    have G31 : RGp m M M31 := by rw [e31]; exact G21.tr (RGp.q (by decide) (by decide))
    exact beg392 s31 hB hz hs h1 hq (fun k1 M' R' G' => H1 k1 M' R' (G31.tr G')) (fun k1 M' T' G' => H0 k1 M' T' (G31.tr G'))
end
end
section
/-! the reference: a part begins, from its first check -/
section
variable {b : Nat → Int32} {n s m : Nat} {τ : Td} {K : List KE} {σ : PS} {M M' : Mem} {i o h : Nat} {Q : Option Value → Mem → Prop}
/-- what is behind a part's begin -/
def EndG (b : Nat → Int32) (n s m : Nat) (τ : Td) (K : List KE) (σ : PS) (i o j : Nat) (M : Mem) (Q : Option Value → Mem → Prop) : Prop :=
  (tK b n (i + 1) ≠ 0 → ∀ M', RPs b n s m τ K σ M' (i + 1) o → RGp m M M' → Q (some (.int (Int32.ofNat (40 * m + j)))) M') ∧ (tK b n (i + 1) = 0 → ∀ M', TXr M' 1 (tP b n (i + 1)) → RGp m M M' → Q (some (.int (Int32.ofNat (40 * m + j)))) M')
theorem EndG.pre {j : Nat} {M1 : Mem} (hE : EndG b n s m τ K σ i o j M Q) (k : RGp m M M1) : EndG b n s m τ K σ i o j M1 Q := ⟨fun k1 M' R' G' => hE.1 k1 M' R' (k.tr G'), fun k1 M' T' G' => hE.2 k1 M' T' (k.tr G')⟩
theorem beg266 {q j dp : Nat} (hR : RPs b n s m τ K σ M i o) (hB : By b) (hz : ∀ i, n ≤ i → b i = 0) (hs : i < s) (h1 : tK b n i ≠ 1) (hq : q < 100) (hj : j < 40) (hso : soK (tK b n i) ≠ 99) (hx : σ.1.2.1 73 q = -1 ∨ ∃ x, (40 * m ≤ x ∧ x < 160) ∧ σ.1.2.1 74 q = Int32.ofNat x) (hE : EndG b n s m τ K ((va_up σ.1.1 3 dp, bgA (40 * m + j) (soK (tK b n i)) (tP b n i) q (whK (tK b n i) (tC b n i) τ) σ.1.2.1, σ.1.2.2), σ.2) i o j M Q) : DX11_beginPart_266 (h + 2) 29 (Int32.ofNat q) (Int32.ofNat (soK (tK b n i))) (Int32.ofNat (40 * m + j)) 57 (Int32.ofNat m) (Int32.ofNat dp) M Q := by
  have F := hR.1.1
  have h4 := hR.1.2.2.2.1
  have l40 := lt40 h4 hj
  have sf := soK_facts hso
  have hi := hR.2.1
  have zk : ∀ {c : Nat}, 58 ≤ c → c ≤ 72 → szA c * m ≤ 40 * m + j := fun a c => by rw [sz_p a c]; omega
  unfold DX11_beginPart_266
  rw [l40, lt32 (n := m) (by omega)]
  refine ⟨ok57 F, by rw [ln57 F]; exact vp_of h4 (by decide), fun M2 e2 => ?_⟩
  have s2 := hR.cn (t := 3) (v := dp) (by decide)
  rw [← e2] at s2
  have F2 := s2.1.1
  refine ⟨ok29 F2, 58, rf29_38 F2, ok58 F2, ix40 h4 hj (ln58 F2), fun M6 e6 => ?_⟩
  have s6 := s2.ra (c := 58) (k := 40 * m + j) (v := Int32.ofNat (soK (tK b n i))) (by decide) (by decide) (by decide) (zk (by decide) (by decide))
  rw [← e6] at s6
  have F6 := s6.1.1
  refine ⟨59, rf29_39 F6, 32, rf29_3 F6, ok32 F6, by rw [ln32 F6, s6.2.2.1]; exact vp_of (by omega) (by decide), ok59 F6, ix40 h4 hj (ln59 F6), fun M11 e11 => ?_⟩
  rw [s6.2.2.1, lt32 (by omega), (s6.1.2.1 i hi.2.2).2.1] at e11
  have s11 := s6.ra (c := 59) (k := 40 * m + j) (v := Int32.ofNat (tP b n i)) (by decide) (by decide) (by decide) (zk (by decide) (by decide))
  rw [← e11] at s11
  have F11 := s11.1.1
  have G11 : RGp m M M11 := by
    rw [e11, e6, e2]
    exact ((RGp.cn (t := 3) (by decide)).tr (RGp.ra (by decide) (by decide) (by decide) (zk (by decide) (by decide)))).tr (RGp.ra (by decide) (by decide) (by decide) (zk (by decide) (by decide)))
  have e15 : (Int32.ofNat (soK (tK b n i)) = 15) ↔ tK b n i = 2 := (z32 (a := soK (tK b n i)) (k := 15) (by have := sf.1; omega) (by decide)).trans sf.2.2.2.2.2
  have hx11 : (raP (raP ((va_up σ.1.1 3 dp, σ.1.2), σ.2) (up2 σ.1.2.1 58 (40 * m + j) (Int32.ofNat (soK (tK b n i))))) (up2 (up2 σ.1.2.1 58 (40 * m + j) (Int32.ofNat (soK (tK b n i)))) 59 (40 * m + j) (Int32.ofNat (tP b n i)))).1.2.1 73 q = -1 ∨ ∃ x, (40 * m ≤ x ∧ x < 160) ∧ (raP (raP ((va_up σ.1.1 3 dp, σ.1.2), σ.2) (up2 σ.1.2.1 58 (40 * m + j) (Int32.ofNat (soK (tK b n i))))) (up2 (up2 σ.1.2.1 58 (40 * m + j) (Int32.ofNat (soK (tK b n i)))) 59 (40 * m + j) (Int32.ofNat (tP b n i)))).1.2.1 74 q = Int32.ofNat x := by
    have a3 : (raP (raP ((va_up σ.1.1 3 dp, σ.1.2), σ.2) (up2 σ.1.2.1 58 (40 * m + j) (Int32.ofNat (soK (tK b n i))))) (up2 (up2 σ.1.2.1 58 (40 * m + j) (Int32.ofNat (soK (tK b n i)))) 59 (40 * m + j) (Int32.ofNat (tP b n i)))).1.2.1 73 q = σ.1.2.1 73 q := by simp [raP, up2]
    have a4 : (raP (raP ((va_up σ.1.1 3 dp, σ.1.2), σ.2) (up2 σ.1.2.1 58 (40 * m + j) (Int32.ofNat (soK (tK b n i))))) (up2 (up2 σ.1.2.1 58 (40 * m + j) (Int32.ofNat (soK (tK b n i)))) 59 (40 * m + j) (Int32.ofNat (tP b n i)))).1.2.1 74 q = σ.1.2.1 74 q := by simp [raP, up2]
    rw [a3, a4]; exact hx
  refine ⟨60, rf29_40 F11, fun nn => ?_, fun yy => ⟨33, rf29_4 F11, ok33 F11, by rw [ln33 F11, s11.2.2.1]; exact vp_of (by omega) (by decide), ?_⟩⟩
  · have ew : whK (tK b n i) (tC b n i) τ = -1 := by unfold whK; rw [if_neg (fun z => nn (e15.mpr z))]
    rw [ew] at hE
    exact beg317 s11 hB hz hs h1 hq hj hx11 (fun k1 M' R' G' => hE.1 k1 M' R' (G11.tr G')) (fun k1 M' T' G' => hE.2 k1 M' T' (G11.tr G'))
  · have k2 := e15.mp yy
    have ew : whK (tK b n i) (tC b n i) τ = oi (fd τ.2.2.2.1 (tC b n i)) := by unfold whK; rw [if_pos k2]
    rw [ew] at hE
    rw [s11.2.2.1, lt32 (by omega)]
    refine R_varNamed (h := h + 1) F11 s11.1.2.2 ((s11.tk hB).nm k2) (fun _ => ⟨_, rfl, ?_⟩)
    exact beg317 s11 hB hz hs h1 hq hj hx11 (fun k1 M' R' G' => hE.1 k1 M' R' (G11.tr G')) (fun k1 M' T' G' => hE.2 k1 M' T' (G11.tr G'))
theorem beg218 {q j o' : Nat} {s2 : Int32} (hR : RPs b n s m τ K σ M i o) (hB : By b) (hz : ∀ i, n ≤ i → b i = 0) (hs : i < s) (h1 : tK b n i ≠ 1) (hq : q < 100) (hj : j < 40) (hso : soK (tK b n i) ≠ 99) (hx : σ.1.2.1 73 q = -1 ∨ ∃ x, (40 * m ≤ x ∧ x < 160) ∧ σ.1.2.1 74 q = Int32.ofNat x) (ho : Int32.ofNat o + s2 = Int32.ofNat o') (ho' : o' ≤ 15) (hK : K.length ≤ 15) (h3 : σ.1.1 3 ≤ 16) (hE : EndG b n s m τ K ((va_up σ.1.1 3 (if K.length + 1 ≤ σ.1.1 3 then σ.1.1 3 else K.length + 1), bgA (40 * m + j) (soK (tK b n i)) (tP b n i) q (whK (tK b n i) (tC b n i) τ) σ.1.2.1, σ.1.2.2), σ.2) i o' j M Q) : DX11_beginPart_218 (h + 2) 29 (Int32.ofNat q) (Int32.ofNat (soK (tK b n i))) (Int32.ofNat (40 * m + j)) 29 (Int32.ofNat o) s2 M Q := by
  have F := hR.1.1
  have h4 := hR.1.2.2.2.1
  unfold DX11_beginPart_218
  rw [ho]
  refine ⟨ok29 F, fun M2 e2 => ?_⟩
  have r2 := hR.op ho'
  rw [← e2] at r2
  have F2 := r2.1.1
  have G2 : RGp m M M2 := by rw [e2]; exact RG.i (by decide)
  have d := r2.2.2.2.2.2.1
  have m19 := r2.1.2.2.1
  have i60 : mI M2 29 60 = Int32.ofNat K.length := by rw [d.2.2.2.2.2.2.1.1, List.length_map]
  have d57 := d.2.2.2.2.1.2.2.2
  have vm : ∀ {N : Mem} {c : Nat}, mL N c = 4 → vp_in (Int32.ofNat m) (mL N c) := fun e => by rw [e]; exact vp_of h4 (by decide)
  have E2 := hE.pre G2
  have cmp : (Int32.ofNat (K.length + 1) ≤ Int32.ofNat (σ.1.1 3)) ↔ K.length + 1 ≤ σ.1.1 3 := le32 (by omega) (by omega)
  rw [m19, lt32 (n := m) (by omega), i60, succ32]
  refine ⟨ok29 F2, 57, rf29_37 F2, 57, rf29_37 F2, ok57 F2, vm (ln57 F2), ?_⟩
  rw [d57]
  refine ⟨fun c => ⟨57, rf29_37 F2, ok57 F2, vm (ln57 F2), ?_⟩, fun c => ?_⟩
  · rw [if_pos (cmp.mp c)] at E2
    rw [d57]
    exact beg266 r2 hB hz hs h1 hq hj hso hx E2
  · rw [if_neg (fun z => c (cmp.mpr z))] at E2
    exact beg266 r2 hB hz hs h1 hq hj hso hx E2
theorem beg199 {q j : Nat} {s3 : Int32} {v : Nat} (hR : RPs b n s m τ K σ M i o) (hB : By b) (hz : ∀ i, n ≤ i → b i = 0) (hs : i < s) (h1 : tK b n i ≠ 1) (hq : q < 100) (hj : j < 40) (hso : soK (tK b n i) ≠ 99) (hx : σ.1.2.1 73 q = -1 ∨ ∃ x, (40 * m ≤ x ∧ x < 160) ∧ σ.1.2.1 74 q = Int32.ofNat x) (ho' : o + (if opnK (tK b n i) = true then 1 else 0) ≤ 15) (hK : K.length ≤ 15) (h3 : σ.1.1 3 ≤ 16) (hv : Int32.ofNat (σ.1.1 2) + s3 = Int32.ofNat v) (hE : EndG b n s m τ K ((va_up (va_up σ.1.1 2 v) 3 (if K.length + 1 ≤ σ.1.1 3 then σ.1.1 3 else K.length + 1), bgA (40 * m + j) (soK (tK b n i)) (tP b n i) q (whK (tK b n i) (tC b n i) τ) σ.1.2.1, σ.1.2.2), σ.2) i (o + (if opnK (tK b n i) = true then 1 else 0)) j M Q) : DX11_beginPart_199 (h + 2) 29 (Int32.ofNat q) (Int32.ofNat (soK (tK b n i))) (Int32.ofNat (40 * m + j)) 56 (Int32.ofNat m) (Int32.ofNat (σ.1.1 2)) s3 M Q := by
  have F := hR.1.1
  have h4 := hR.1.2.2.2.1
  have sf := soK_facts hso
  unfold DX11_beginPart_199
  rw [hv, lt32 (n := m) (by omega)]
  refine ⟨ok56 F, by rw [ln56 F]; exact vp_of h4 (by decide), fun M2 e2 => ?_⟩
  have r2 := hR.cn (t := 2) (v := v) (by decide)
  rw [← e2] at r2
  have F2 := r2.1.1
  have G2 : RGp m M M2 := by rw [e2]; exact RGp.cn (t := 2) (by decide)
  have E2 := hE.pre G2
  have u3 : va_up σ.1.1 2 v 3 = σ.1.1 3 := va_up_ne _ _ (by decide)
  have o33 := r2.2.2.2.2.1
  rw [o33]
  refine ⟨ok29 F2, P_isOp (h := h) sf.1 (fun y _ => ⟨_, rfl, fun z => absurd z (by decide), fun _ => ?_⟩) (fun nn _ => ⟨_, rfl, fun _ => ?_, fun z => absurd rfl z⟩)⟩
  · have yo := sf.2.1.mpr y
    rw [if_pos yo] at E2 ho'
    exact beg218 r2 hB hz hs h1 hq hj hso hx succ32 ho' hK (by show va_up σ.1.1 2 v 3 ≤ 16; rw [u3]; exact h3) (by show EndG b n s m τ K ((va_up (va_up σ.1.1 2 v) 3 (if K.length + 1 ≤ va_up σ.1.1 2 v 3 then va_up σ.1.1 2 v 3 else K.length + 1), _, _), _) _ _ _ _ _; rw [u3]; exact E2)
  · have no : ¬ opnK (tK b n i) = true := fun z => nn (sf.2.1.mp z)
    rw [if_neg no] at E2 ho'
    exact beg218 (o' := o + 0) r2 hB hz hs h1 hq hj hso hx (add32 (c := 0)) ho' hK (by show va_up σ.1.1 2 v 3 ≤ 16; rw [u3]; exact h3) (by show EndG b n s m τ K ((va_up (va_up σ.1.1 2 v) 3 (if K.length + 1 ≤ va_up σ.1.1 2 v 3 then va_up σ.1.1 2 v 3 else K.length + 1), _, _), _) _ _ _ _ _; rw [u3]; exact E2)
end
end
