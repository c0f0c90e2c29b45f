/-! parts, in the middle: rows of parts, parts, branches -/
/-- the row that a part stands in -/
def sqK (K : List KE) : Nat := match K with
  | [] => 0
  | e :: _ => e.2.1
def okK (k : Int32) (w : Int64) (d : Nat) (τ : Td) (σ : PS) (p : Nat) : Except (Int32 × Nat) Unit :=
  if k = 2 ∧ fd τ.2.2.2.1 w = none then .error (4, p)
  else if soK k = 99 then .error (2, p)
  else if 40 ≤ npS σ ∨ 24 < σ.1.1 1 + paK k then .error (6, p)
  else if opnK k = true ∧ d = 15 then .error (6, p)
  else .ok ()
def whK (k : Int32) (w : Int64) (τ : Td) : Int32 := if k = 2 then oi (fd τ.2.2.2.1 w) else -1
/-- a child is hung -/
def hgP (σ : PS) (a c : Nat) : PS := trP1 σ (hgT (trS σ) a c)
/-- two rows are whole, or one and nothing -/
def chM (b : Nat → Int32) (n lit x y i : Nat) (σ : PS) : Except (Int32 × Nat) (Nat × PS × Nat) :=
  (ex b n i 43).bind fun i2 => .ok (i2, trP1 σ (chT (trS σ) (Int32.ofNat lit) x y).1, (chT (trS σ) (Int32.ofNat lit) x y).2)
/-- a branch is whole: its node x hangs on the part's node a; g0, u0: what the branches before it give and use -/
def brP (σ : PS) (j a x : Nat) (g0 u0 : Int32) : PS := guP (hgP (if giS σ &&& (g0 ||| u0) = 0 ∧ usS σ &&& g0 = 0 then σ else paP σ j 2 8) a x) (g0 ||| giS σ) (u0 ||| usS σ)
def rp (b : Nat → Int32) (n m : Nat) (τ : Td) : Nat → Nat → List KE → Nat → PS → Nat → Nat → Nat → Nat → Int32 → Int32 → Except (Int32 × Nat) (Nat × PS × Nat)
  | 0, _, _, _, _, _, _, _, _, _, _ => .error (0, 0)
  | g + 1, md, K, i, σ, a1, a2, a3, a4, c1, c2 =>
    if md = 0 then (rp b n m τ g 2 K i (trP1 σ (mkT (trS σ) 5).1) 0 0 0 0 0 0).bind fun r => rp b n m τ g 1 K r.1 (hgP r.2.1 (mkT (trS σ) 5).2 r.2.2) (mkT (trS σ) 5).2 0 0 0 0 0
    else if md = 1 then (if tK b n i = 13 then (adv' b n i).bind fun j => (rp b n m τ g 2 K j σ 0 0 0 0 0 0).bind fun r => rp b n m τ g 1 K r.1 (hgP r.2.1 a1 r.2.2) a1 0 0 0 0 0 else .ok (i, σ, a1))
    else if md = 2 then (okK (tK b n i) (tC b n i) K.length τ σ (tP b n i)).bind fun _ => (adv' b n i).bind fun j =>
      if opnK (tK b n i) = false then (lfM b n m τ (tK b n i) (tC b n i) (npS σ) j K (bgP m (tK b n i) (tP b n i) (sqK K) K.length (whK (tK b n i) (tC b n i) τ) σ)).bind fun r => .ok (r.1, fiP m (npS σ) r.2.2 r.2.1, r.2.2)
      else (hdM b n m τ (tK b n i) (npS σ) j K (bgP m (tK b n i) (tP b n i) (sqK K) K.length (whK (tK b n i) (tC b n i) τ) σ)).bind fun r =>
        if tK b n i = 17 then (rp b n m τ g 3 K r.1 (rwP (40 * m + npS σ) none r.2.1) r.2.2.2.2.1 (npS σ) (r.2.1.1.1 4) 1 0 0).bind fun q => .ok (q.1, fiP m (npS σ) q.2.2 (guP q.2.1 (giS σ ||| giS q.2.1) (usS σ ||| usS q.2.1)), q.2.2)
        else (rp b n m τ g 0 ((40 * m + npS σ, r.2.1.1.1 4, 1, r.2.2.2.2.2) :: K) r.1 (rwP (40 * m + npS σ) none r.2.1) 0 0 0 0 0 0).bind fun q =>
          if tK b n i = 44 ∨ tK b n i = 58 then (if tK b n q.1 = 46 then (adv' b n q.1).bind fun i2 => (rp b n m τ g 0 ((40 * m + npS σ, q.2.1.1.1 4, 2, none) :: K) i2 (rwP (40 * m + npS σ) (some (r.2.1.1.1 4)) q.2.1) 0 0 0 0 0 0).bind fun t => (chM b n r.2.2.1 q.2.2 t.2.2 t.1 t.2.1).bind fun u => .ok (u.1, fiP m (npS σ) u.2.2 u.2.1, u.2.2)
            else (chM b n r.2.2.1 q.2.2 (mkT (trS q.2.1) 0).2 q.1 (trP1 q.2.1 (mkT (trS q.2.1) 0).1)).bind fun u => .ok (u.1, fiP m (npS σ) u.2.2 u.2.1, u.2.2))
          else (tlM b n m τ (tK b n i) (npS σ) r.2.2.2.2.1 r.2.2.1 q.2.2 q.1 (K.length + 1) q.2.1).bind fun u => .ok (u.1, fiP m (npS σ) u.2.2 u.2.1, u.2.2)
    else (rp b n m τ g 0 ((40 * m + a2, a3, a4, none) :: K) i (guP σ 0 0) 0 0 0 0 0 0).bind fun r =>
      if tK b n r.1 = 6 then (if a4 = 8 then .error (6, tP b n r.1) else (adv' b n r.1).bind fun j => rp b n m τ g 3 K j (rwP (40 * m + a2) (some a3) (brP r.2.1 a2 a1 r.2.2 c1 c2)) a1 a2 (r.2.1.1.1 4) (a4 + 1) (c1 ||| giS r.2.1) (c2 ||| usS r.2.1))
      else (ex b n r.1 18).bind fun j => .ok (j, brP r.2.1 a2 a1 r.2.2 c1 c2, a1)
