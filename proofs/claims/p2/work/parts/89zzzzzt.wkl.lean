/-! the weaver's walk: children one after the other -/
section
variable {G : Nat → List Nat}
theorem noL_ch : ∀ (g x z c : Nat), FtN G g x → z ∈ noL G g x → c ∈ G z → c ∈ noL G g x
  | 0, _, _, _, h, _, _ => False.elim h
  | g + 1, x, z, c, h, hz, hc => by
    rcases List.mem_cons.mp hz with e | e
    · rw [e] at hc
      refine List.mem_cons_of_mem _ (List.mem_flatMap.mpr ⟨c, hc, ?_⟩)
      have fc := h c hc
      cases g with
      | zero => exact False.elim fc
      | succ g => exact List.mem_cons_self
    · obtain ⟨d, d1, d2⟩ := List.mem_flatMap.mp e
      exact List.mem_cons_of_mem _ (List.mem_flatMap.mpr ⟨d, d1, noL_ch g d z c (h d d1) d2 hc⟩)
theorem noL_hd {g x : Nat} (h : FtN G g x) : x ∈ noL G g x := by
  cases g with
  | zero => exact False.elim h
  | succ g => exact List.mem_cons_self
theorem gd_el {l : List Nat} {i : Nat} (hi : i < l.length) : l.getD i 0 = l[i] := by rw [List.getD_eq_getElem?_getD, List.getElem?_eq_getElem hi]; rfl
theorem gd_in {l : List Nat} {i : Nat} (hi : i < l.length) : l.getD i 0 ∈ l := by rw [gd_el hi]; exact List.getElem_mem hi
theorem fl_step {l : List Nat} {f : Nat → List Nat} {i : Nat} (hn : (l.flatMap f).Nodup) (hi : i < l.length) : l.take (i + 1) = l.take i ++ [l.getD i 0] ∧ (f (l.getD i 0)).Nodup ∧ (∀ z, z ∈ (l.take i).flatMap f → z ∉ f (l.getD i 0)) := by
  have e1 : l.take (i + 1) = l.take i ++ [l.getD i 0] := by
    rw [List.take_succ, List.getElem?_eq_getElem hi, gd_el hi]; rfl
  have e2 : l = l.take (i + 1) ++ l.drop (i + 1) := (List.take_append_drop _ _).symm
  have h2 : ((l.take i).flatMap f ++ f (l.getD i 0)).Nodup := by
    have e3 : (l.take (i + 1)).flatMap f = (l.take i).flatMap f ++ f (l.getD i 0) := by
      rw [e1, List.flatMap_append]
      simp
    rw [← e3]
    rw [e2, List.flatMap_append] at hn
    exact (List.nodup_append.mp hn).1
  obtain ⟨-, q2, q3⟩ := List.nodup_append.mp h2
  exact ⟨e1, q2, fun z z1 z2 => q3 z z1 z z2 rfl⟩
theorem fl_sub {l : List Nat} {f : Nat → List Nat} {i z : Nat} (h : z ∈ (l.take i).flatMap f) : z ∈ l.flatMap f := by
  obtain ⟨d, d1, d2⟩ := List.mem_flatMap.mp h
  exact List.mem_flatMap.mpr ⟨d, List.mem_of_mem_take d1, d2⟩
theorem fl_ch {g x i z c : Nat} (h : FtN G (g + 1) x) (hz : z ∈ ((G x).take i).flatMap (noL G g)) (hc : c ∈ G z) : c ∈ ((G x).take i).flatMap (noL G g) := by
  obtain ⟨d, d1, d2⟩ := List.mem_flatMap.mp hz
  exact List.mem_flatMap.mpr ⟨d, d1, noL_ch g d z c (h d (List.mem_of_mem_take d1)) d2 hc⟩
end
/-- a sum over a list -/
def smL (f : Nat → Nat) : List Nat → Nat
  | [] => 0
  | a :: t => f a + smL f t
theorem smL_ap {f : Nat → Nat} : ∀ (l m : List Nat), smL f (l ++ m) = smL f l + smL f m
  | [], m => (Nat.zero_add _).symm
  | a :: t, m => by show f a + smL f (t ++ m) = f a + smL f t + smL f m; rw [smL_ap t m, Nat.add_assoc]
section
variable (Θ : TrT) (G : Nat → List Nat) (n0 : Nat)
/-- nets and held masks that joining the branches of z makes; that z makes, with all that is made for its children -/
def jW (z : Nat) : Nat := if Θ.2.2 5 z = 8 then 62 * (G z).length + 42 else 0
def jH (z : Nat) : Nat := if Θ.2.2 5 z = 8 then (G z).length + 1 else 0
def oW (z : Nat) : Nat := eW (Θ.2.2 5 z) + (G z).length * (aW (Θ.2.2 5 z) + lW (Θ.2.2 5 z)) + jW Θ G z
def oH (z : Nat) : Nat := eH (Θ.2.2 5 z) + (G z).length * (aH (Θ.2.2 5 z) + lH (Θ.2.2 5 z)) + jH Θ G z
/-- x and all below it have been woven, but x's branches are not yet joined -/
def WkQ (g x : Nat) (Ψ : Wg) (P : Nat → Nat → Int32) (zp : Int32) (Ψ' : Wg) (P' : Nat → Nat → Int32) (zp' : Int32) : Prop := (Gr (nwN Ψ) Ψ Ψ' ∧ NwQ Θ (noL G g x) Ψ Ψ' P') ∧ (Ψ'.1.length + 62 * (G x).length + 113 ≤ Ψ.1.length + 115 * (noL G g x).length ∧ Ψ'.1.length + nk P' x + jW Θ G x ≤ Ψ.1.length + smL (oW Θ G) (noL G g x) ∧ Ψ'.2.2.length + jH Θ G x ≤ Ψ.2.2.length + smL (oH Θ G) (noL G g x)) ∧ InQ Θ G Ψ' P' (G x).length (G x).length x ∧ (∀ z, z ∈ noL G g x → z ≠ x → NdQ Θ G Ψ' P' z) ∧ (∀ z, z ∉ noL G g x → SmA P P' z ∧ SmK P P' z) ∧ SmB P P' x ∧ ExR Θ n0 Ψ' (noL G g x) P P' zp zp'
/-- the first i children of x have been woven and left, ar have been come to -/
def LpQ (g x : Nat) (Ψ : Wg) (P : Nat → Nat → Int32) (zp : Int32) (i ar : Nat) (Ψ1 : Wg) (P1 : Nat → Nat → Int32) (z1 : Int32) : Prop := (Gr (nwN Ψ) Ψ Ψ1 ∧ NwQ Θ (x :: ((G x).take i).flatMap (noL G g)) Ψ Ψ1 P1) ∧ InQ Θ G Ψ1 P1 i ar x ∧ (∀ z, z ∈ ((G x).take i).flatMap (noL G g) → NdQ Θ G Ψ1 P1 z) ∧ (∀ z, z ∉ noL G (g + 1) x → SmA P P1 z ∧ SmK P P1 z) ∧ SmB P P1 x ∧ (Θ.2.2 5 x = 6 ∨ Θ.2.2 5 x = 9 → ∃ l, Ψ.1.length ≤ l ∧ l < Ψ1.1.length ∧ P1 26 x = Int32.ofNat (2 * l)) ∧ ExR Θ n0 Ψ1 (x :: ((G x).take i).flatMap (noL G g)) P P1 zp z1
/-- branches of c are joined, where there are such -/
def JnQ (c : Nat) (Ψ2 : Wg) (P2 : Nat → Nat → Int32) (Ψ3 : Wg) (P3 : Nat → Nat → Int32) : Prop := Gr noN Ψ2 Ψ3 ∧ NdQ Θ G Ψ3 P3 c ∧ (∀ z, SmA P2 P3 z) ∧ (∀ z, z ≠ c → SmK P2 P3 z) ∧ (∀ q j, n0 + 17 ≤ q → q ≤ n0 + 21 → P3 q j = P2 q j)
end
section
variable {Θ : TrT} {G : Nat → List Nat} {n0 nb g x i : Nat} {Ψ Ψ1 Ψ2 Ψ3 Ψ4 : Wg} {P P1 P2 P3 P4 : Nat → Nat → Int32} {zp z1 z2 : Int32}
theorem SmA.tr {z : Nat} (h : SmA P P1 z) (k : SmA P1 P2 z) : SmA P P2 z := fun c c1 c2 => (k c c1 c2).trans (h c c1 c2)
theorem SmB.tr {z : Nat} (h : SmB P P1 z) (k : SmB P1 P2 z) : SmB P P2 z := fun c c1 c2 => (k c c1 c2).trans (h c c1 c2)
theorem SmK.tr {z : Nat} (h : SmK P P1 z) (k : SmK P1 P2 z) : SmK P P2 z := fun n hn => (k n hn).trans (h n hn)
/-- the tree around x -/
def TrX (G : Nat → List Nat) (g x : Nat) : Prop := FtN G (g + 1) x ∧ (noL G (g + 1) x).Nodup ∧ ∀ z y y', z ∈ G y → z ∈ G y' → y = y'
theorem TrX.at (ht : TrX G g x) (hi : i < (G x).length) : FtN G g ((G x).getD i 0) ∧ (noL G g ((G x).getD i 0)).Nodup ∧ (∀ z, z ∈ ((G x).take i).flatMap (noL G g) → z ∉ noL G g ((G x).getD i 0)) ∧ (∀ z, z ∈ noL G g ((G x).getD i 0) → z ∈ noL G (g + 1) x) ∧ x ∉ noL G g ((G x).getD i 0) ∧ x ∉ ((G x).take i).flatMap (noL G g) ∧ (G x).take (i + 1) = (G x).take i ++ [(G x).getD i 0] := by
  obtain ⟨h1, h2, h3⟩ := ht
  obtain ⟨n1, n2⟩ := List.nodup_cons.mp h2
  obtain ⟨e1, e2, e3⟩ := fl_step n2 hi
  have hm := gd_in hi
  have sub : ∀ z, z ∈ noL G g ((G x).getD i 0) → z ∈ (G x).flatMap (noL G g) := fun z hz => List.mem_flatMap.mpr ⟨_, hm, hz⟩
  exact ⟨h1 _ hm, e2, e3, fun z hz => List.mem_cons_of_mem _ (sub z hz), fun y => n1 (sub x y), fun y => n1 (fl_sub y), e1⟩
/-- while child i is walked and joined, what is known of x stays -/
theorem LpQ.mid (ht : TrX G g x) (hi : i < (G x).length) (h : LpQ Θ G n0 g x Ψ P zp i (i + 1) Ψ1 P1 z1) (k : WkQ Θ G n0 g ((G x).getD i 0) Ψ1 P1 z1 Ψ2 P2 z2) (j : JnQ Θ G n0 ((G x).getD i 0) Ψ2 P2 Ψ3 P3) (hR1 : RoW Ψ1) (hR2 : RoW Ψ2) (hR3 : RoW Ψ3) : InQ Θ G Ψ3 P3 i (i + 1) x := by
  obtain ⟨t1, t2, t3, t4, t5, t6, t7⟩ := ht.at hi
  obtain ⟨-, hI, -⟩ := h
  obtain ⟨⟨k1, -⟩, -, -, -, k5, k6, -⟩ := k
  obtain ⟨j1, -, j3, j4, -⟩ := j
  have xc : x ≠ (G x).getD i 0 := fun e => t5 (by rw [← e] at t1; rw [← e]; exact noL_hd t1)
  have cj : ∀ q, q < i → (G x).getD q 0 ∈ ((G x).take i).flatMap (noL G g) := fun q hq => by
    refine List.mem_flatMap.mpr ⟨(G x).getD q 0, ?_, noL_hd (ht.1 _ (gd_in (by omega)))⟩
    rw [gd_el (by omega)]
    exact List.mem_take_iff_getElem.mpr ⟨q, by omega, rfl⟩
  have i2 : InQ Θ G Ψ2 P2 i (i + 1) x := hI.st (k5 x t5).1 (k5 x t5).2 (fun q hq => by
    by_cases e : q = i
    · rw [e]; exact k6
    · exact (k5 _ (t3 _ (cj q (by omega)))).1.b) (fun q hq => (k5 _ (t3 _ (cj q hq))).2) (Nat.le_refl _) k1 hR1 hR2 (fun _ hn y => absurd hn (Nat.not_lt.mpr y)) (fun _ hn y => absurd hn (Nat.not_lt.mpr y))
  refine i2.st (j3 x) (j4 x xc) (fun q _ => (j3 _).b) (fun q hq => j4 _ (fun e => ?_)) (Nat.le_refl _) j1 hR2 hR3 (fun _ _ y => y.elim) (fun _ _ y => y.elim)
  have := t3 _ (cj q hq)
  rw [e] at this
  exact this (noL_hd t1)
/-- child i has been left -/
theorem LpQ.lv (ht : TrX G g x) (hi : i < (G x).length) (h : LpQ Θ G n0 g x Ψ P zp i (i + 1) Ψ1 P1 z1) (k : WkQ Θ G n0 g ((G x).getD i 0) Ψ1 P1 z1 Ψ2 P2 z2) (j : JnQ Θ G n0 ((G x).getD i 0) Ψ2 P2 Ψ3 P3) (hR1 : RoW Ψ1) (hR2 : RoW Ψ2) (hR3 : RoW Ψ3) (hR4 : RoW Ψ4) (hl3 : Ψ3.1.length < 100000) (hl4 : Ψ4.1.length < 200000) (g4 : Gr (CxP Θ P3 x) Ψ3 Ψ4) (i4 : InQ Θ G Ψ4 P4 (i + 1) (i + 1) x) (a4 : ∀ z, SmA P3 P4 z) (s4 : ∀ z, z ≠ x → SmK P3 P4 z) (e4 : ∀ q j, n0 + 17 ≤ q → q ≤ n0 + 21 → P4 q j = P3 q j) : LpQ Θ G n0 g x Ψ P zp (i + 1) (i + 1) Ψ4 P4 z2 := by
  have i3 := h.mid ht hi k j hR1 hR2 hR3
  obtain ⟨t1, t2, t3, t4, t5, t6, t7⟩ := ht.at hi
  obtain ⟨⟨h1, h1n⟩, hI, h3, h4, h5, h6, h7⟩ := h
  obtain ⟨⟨k1, k1n⟩, -, -, k4, k5, k6, k7⟩ := k
  obtain ⟨j1, j2, j3, j4, j5⟩ := j
  have cx := i3.cx hl3
  have hC0 : ∀ n, n < Ψ3.1.length → CxP Θ P3 x n → (Ψ3.2.1.getD n (0, 0)).1 ≠ 0 := fun n hn y => (cx n hn y).1.1
  have hCz : ∀ z, z ≠ x → ∀ n, n < Ψ3.1.length → CxP Θ P3 x n → (Ψ3.2.1.getD n (0, 0)).2 ≠ z := fun z hz n hn y e => hz (e.symm.trans (cx n hn y).2)
  have xc : x ≠ (G x).getD i 0 := fun e => t5 (by rw [← e] at t1; rw [← e]; exact noL_hd t1)
  have x26 : P3 26 x = P1 26 x := (j3 x 26 (by decide) (by decide)).trans ((k5 x t5).1 26 (by decide) (by decide))
  have fl : ((G x).take (i + 1)).flatMap (noL G g) = ((G x).take i).flatMap (noL G g) ++ noL G g ((G x).getD i 0) := by rw [t7, List.flatMap_append]; simp
  -- what lies in the first i children's trees
  have old : ∀ z, z ∈ ((G x).take i).flatMap (noL G g) → SmA P1 P3 z ∧ SmK P1 P3 z ∧ z ≠ x ∧ SmA P1 P4 z ∧ SmK P1 P4 z := fun z hz => by
    have q := k5 z (t3 z hz)
    have nc : z ≠ (G x).getD i 0 := fun e => t3 z hz (by rw [e]; exact noL_hd t1)
    have nx : z ≠ x := fun e => t6 (by rw [e] at hz; exact hz)
    have a := q.1.tr (j3 z)
    have b := q.2.tr (j4 z nc)
    exact ⟨a, b, nx, a.tr (a4 z), b.tr (s4 z nx)⟩
  have g13 : Gr (nwN Ψ1) Ψ1 Ψ3 := k1.tr j1 (fun _ _ y => y.elim)
  have nC4 : ∀ n, Ψ3.1.length ≤ n → n < Ψ4.1.length → ¬ CxP Θ P3 x n := fun n n1 n2 y => by
    obtain ⟨l, l1, l2, l3⟩ := h6 y.1
    have e : P1 26 x = Int32.ofNat (2 * n) := by rw [← x26]; exact y.2
    have g13l := g13.1
    have := inj32 (a := 2 * n) (b := 2 * l) (by omega) (by omega) (e.symm.trans l3)
    omega
  refine ⟨⟨?_, ?_⟩, i4, fun z hz => ?_, fun z hz => ?_, ?_, fun hk => ?_, ?_⟩
  · have h1l := h1.1
    have g13l := g13.1
    refine (h1.tr g13 (fun n _ y => by unfold nwN at y ⊢; omega)).tr g4 (fun n hn y => ?_)
    unfold nwN
    rcases hn with hn | hn
    rotate_left
    · omega
    exfalso
    obtain ⟨l, l1, l2, l3⟩ := h6 y.1
    have e : P1 26 x = Int32.ofNat (2 * n) := by rw [← x26]; exact y.2
    have := inj32 (a := 2 * n) (b := 2 * l) (by omega) (by omega) (e.symm.trans l3)
    omega
  · have q1 := (h1n.tr k1n k1 (fun z hz => ?_)).tr (NwQ.nil (P1 := P3) j1 (fun _ _ _ y => y.elim)) j1 (fun z _ => j3 z 26 (by decide) (by decide))
    · have q2 := q1.tr (NwQ.nil (P1 := P4) g4 nC4) g4 (fun z _ => a4 z 26 (by decide) (by decide))
      rw [List.append_nil, List.append_nil] at q2
      rw [fl]
      exact q2
    · rcases List.mem_cons.mp hz with y | y
      · rw [y]; exact (k5 x t5).1 26 (by decide) (by decide)
      · exact (k5 z (t3 z y)).1 26 (by decide) (by decide)
  · rw [fl] at hz
    rcases List.mem_append.mp hz with y | y
    · have q := old z y
      have n3 : NdQ Θ G Ψ3 P3 z := (h3 z y).st q.1 q.2.1 (fun c hc => (old _ (fl_ch ht.1 y (gd_in hc))).1.b) (fun c hc => (old _ (fl_ch ht.1 y (gd_in hc))).2.1) g13 hR1 hR3 (fun _ hn y => absurd hn (Nat.not_lt.mpr y)) (fun _ hn y => absurd hn (Nat.not_lt.mpr y))
      exact n3.st (a4 z) (s4 z q.2.2.1) (fun c _ => (a4 _).b) (fun c hc => s4 _ (old _ (fl_ch ht.1 y (gd_in hc))).2.2.1) g4 hR3 hR4 hC0 (hCz z q.2.2.1)
    · have zx : z ≠ x := fun e => t5 (by rw [e] at y; exact y)
      have chx : ∀ c, c < (G z).length → (G z).getD c 0 ≠ x := fun c hc e => t5 (by have m := noL_ch g _ z _ t1 y (gd_in hc); rw [e] at m; exact m)
      have n3 : NdQ Θ G Ψ3 P3 z := by
        by_cases e : z = (G x).getD i 0
        · rw [e]; exact j2
        · refine (k4 z y e).st (j3 z) (j4 z e) (fun c _ => (j3 _).b) (fun c hc => j4 _ (fun e2 => ?_)) j1 hR2 hR3 (fun _ _ y => y.elim) (fun _ _ y => y.elim)
          have m1 : (G x).getD i 0 ∈ G z := by rw [← e2]; exact gd_in hc
          exact zx (ht.2.2 _ z x m1 (gd_in hi))
      exact n3.st (a4 z) (s4 z zx) (fun c _ => (a4 _).b) (fun c hc => s4 _ (chx c hc)) g4 hR3 hR4 hC0 (hCz z zx)
  · have q := h4 z hz
    have nc : z ∉ noL G g ((G x).getD i 0) := fun y => hz (t4 z y)
    have r := k5 z nc
    have ne : z ≠ (G x).getD i 0 := fun e => nc (by rw [e]; exact noL_hd t1)
    have nx : z ≠ x := fun e => hz (by rw [e]; exact List.mem_cons_self)
    exact ⟨((q.1.tr r.1).tr (j3 z)).tr (a4 z), ((q.2.tr r.2).tr (j4 z ne)).tr (s4 z nx)⟩
  · exact ((h5.tr (k5 x t5).1.b).tr (j3 x).b).tr (a4 x).b
  · obtain ⟨l, l1, l2, l3⟩ := h6 hk
    have := g13.1
    have := g4.1
    exact ⟨l, l1, by omega, by rw [a4 x 26 (by decide) (by decide), x26]; exact l3⟩
  · have e3 : ExR Θ n0 Ψ3 [] P2 P3 z2 z2 := ExR.nil k7.1 j5 j1
    have e4' : ExR Θ n0 Ψ4 [] P3 P4 z2 z2 := ExR.nil e3.1 e4 g4
    have q1 := h7.tr k7 (fun z hz => by
      rcases List.mem_cons.mp hz with y | y
      · rw [y]; exact (k5 x t5).1
      · exact (k5 z (t3 z y)).1) k1 hR1 hR2 (fun _ hn y => absurd hn (Nat.not_lt.mpr y))
    have q2 := q1.tr e3 (fun z _ => j3 z) j1 hR2 hR3 (fun _ _ y => y.elim)
    have q3 := q2.tr e4' (fun z _ => a4 z) g4 hR3 hR4 hC0
    rw [List.append_nil, List.append_nil] at q3
    rw [fl]
    exact q3
/-- child i has been come to -/
theorem LpQ.ar (ht : TrX G g x) (hi : i < (G x).length) (h : LpQ Θ G n0 g x Ψ P zp i i Ψ1 P1 z1) (hR1 : RoW Ψ1) (hR2 : RoW Ψ2) (g2 : Gr noN Ψ1 Ψ2) (i2 : InQ Θ G Ψ2 P2 i (i + 1) x) (a2 : ∀ z, z ≠ (G x).getD i 0 → SmA P1 P2 z) (s2 : ∀ z, SmK P1 P2 z) (e2 : ∀ q j, n0 + 17 ≤ q → q ≤ n0 + 21 → P2 q j = P1 q j) : LpQ Θ G n0 g x Ψ P zp i (i + 1) Ψ2 P2 z1 := by
  obtain ⟨t1, t2, t3, t4, t5, t6, t7⟩ := ht.at hi
  obtain ⟨⟨h1, h1n⟩, hI, h3, h4, h5, h6, h7⟩ := h
  have xc : x ≠ (G x).getD i 0 := fun e => t5 (by rw [← e] at t1; rw [← e]; exact noL_hd t1)
  have old : ∀ z, z ∈ ((G x).take i).flatMap (noL G g) → SmA P1 P2 z := fun z hz => a2 z (fun e => t3 z hz (by rw [e]; exact noL_hd t1))
  have nq : NwQ Θ (x :: ((G x).take i).flatMap (noL G g)) Ψ Ψ2 P2 := by
    have q1 := h1n.tr (NwQ.nil (P1 := P2) g2 (fun _ _ _ y => y.elim)) g2 (fun z hz => by
      rcases List.mem_cons.mp hz with y | y
      · rw [y]; exact a2 x xc 26 (by decide) (by decide)
      · exact old z y 26 (by decide) (by decide))
    rw [List.append_nil] at q1
    exact q1
  refine ⟨⟨h1.tr g2 (fun _ _ y => y.elim), nq⟩, i2, fun z hz => (h3 z hz).st (old z hz) (s2 z) (fun c hc => (old _ (fl_ch ht.1 hz (gd_in hc))).b) (fun c _ => s2 _) g2 hR1 hR2 (fun _ _ y => y.elim) (fun _ _ y => y.elim), fun z hz => ?_, h5.tr (a2 x xc).b, fun hk => ?_, ?_⟩
  · have q := h4 z hz
    have ne : z ≠ (G x).getD i 0 := fun e => hz (t4 z (by rw [e]; exact noL_hd t1))
    exact ⟨q.1.tr (a2 z ne), q.2.tr (s2 z)⟩
  · obtain ⟨l, l1, l2, l3⟩ := h6 hk
    have := g2.1
    exact ⟨l, l1, by omega, by rw [a2 x xc 26 (by decide) (by decide)]; exact l3⟩
  · have e3 : ExR Θ n0 Ψ2 [] P1 P2 z1 z1 := ExR.nil h7.1 e2 g2
    have q := h7.tr e3 (fun z hz => by
      rcases List.mem_cons.mp hz with y | y
      · rw [y]; exact a2 x xc
      · exact old z y) g2 hR1 hR2 (fun _ _ y => y.elim)
    rw [List.append_nil] at q
    exact q
end
