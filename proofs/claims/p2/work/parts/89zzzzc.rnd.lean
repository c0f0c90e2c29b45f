/-! the reference's nodes as lists of children, pure: cells 80 .. 89 -/
abbrev RBs : Type := Nat × (Nat → Nat → Int32)
def hdI (l : List Nat) : Int32 := if l = [] then -1 else Int32.ofNat (l.headD 0)
def laI (l : List Nat) : Int32 := if l = [] then -1 else Int32.ofNat (l.getLastD 0)
def LkR (B : Nat → Nat → Int32) (x : Nat) (l : List Nat) : Prop := B 82 x = hdI l ∧ B 83 x = laI l ∧ (∀ i, i + 1 < l.length → B 84 (l.getD i 0) = Int32.ofNat (l.getD (i + 1) 0) ∧ B 85 (l.getD (i + 1) 0) = Int32.ofNat (l.getD i 0)) ∧ (∀ c ∈ l, B 86 c = Int32.ofNat x) ∧ (l ≠ [] → B 84 (l.getLastD 0) = -1 ∧ B 85 (l.headD 0) = -1)
def RgB (m : Nat) (S : RBs) (G : Nat → List Nat) : Prop := (m < 4 ∧ S.1 ≤ 700) ∧ (∀ x, 700 * m ≤ x → x < 700 * m + S.1 → LkR S.2 x (G x) ∧ (G x).Nodup ∧ ∀ c ∈ G x, 700 * m ≤ c ∧ c < 700 * m + S.1) ∧ (∀ x, 700 * m ≤ x → x < 700 * m + S.1 → S.2 86 x = -1 → S.2 84 x = -1 ∧ S.2 85 x = -1) ∧ (∀ z, 700 * m ≤ z → z < 700 * m + S.1 → S.2 86 z = -1 ∨ ∃ x, (700 * m ≤ x ∧ x < 700 * m + S.1) ∧ S.2 86 z = Int32.ofNat x ∧ z ∈ G x) ∧ ∃ ρ : Nat → Nat, ∀ x, 700 * m ≤ x → x < 700 * m + S.1 → ∀ c ∈ G x, ρ c < ρ x
/-- how many nodes have no parent -/
def rtC (m : Nat) (S : RBs) : Nat := (List.range S.1).countP fun k => decide (S.2 86 (700 * m + k) = -1)
/-- a new node; a child is adopted -/
def nBf (m : Nat) (so pt : Int32) (S : RBs) : RBs := (S.1 + 1, up2 (up2 (up2 (up2 (up2 (up2 (up2 (up2 (up2 (up2 S.2 80 (700 * m + S.1) so) 81 (700 * m + S.1) pt) 82 (700 * m + S.1) (-1)) 83 (700 * m + S.1) (-1)) 84 (700 * m + S.1) (-1)) 85 (700 * m + S.1) (-1)) 86 (700 * m + S.1) (-1)) 87 (700 * m + S.1) 0) 88 (700 * m + S.1) 0) 89 (700 * m + S.1) 0)
def aBf (p c : Nat) (B : Nat → Nat → Int32) : Nat → Nat → Int32 := up2 (up2 (if B 82 p = -1 then up2 B 82 p (Int32.ofNat c) else up2 (up2 B 84 (B 83 p).toNatClampNeg (Int32.ofNat c)) 85 c (B 83 p)) 83 p (Int32.ofNat c)) 86 c (Int32.ofNat p)
abbrev Vwr : Type := Nat → Int32 × Int32 × List Nat
def vwR (S : RBs) (G : Nat → List Nat) : Vwr := fun x => (S.2 80 x, S.2 81 x, G x)
def mz0 (m : Nat) (S : RBs) : Prop := ∀ z, 700 * m ≤ z → z < 700 * m + S.1 → S.2 87 z = 0
/-- old nodes as they were; only those of H have got a parent -/
def FrB (m : Nat) (S : RBs) (G : Nat → List Nat) (S' : RBs) (G' : Nat → List Nat) (H : Nat → Prop) : Prop := S.1 ≤ S'.1 ∧ (∀ x, 700 * m ≤ x → x < 700 * m + S.1 → vwR S' G' x = vwR S G x ∧ (¬ H x → S'.2 86 x = S.2 86 x)) ∧ (mz0 m S → mz0 m S')
section
variable {m p c x : Nat} {S S1 S2 : RBs} {G G1 G2 : Nat → List Nat} {H H1 H2 : Nat → Prop} {so pt : Int32} {B : Nat → Nat → Int32}
theorem FrB.rf : FrB m S G S G H := ⟨Nat.le_refl _, fun _ _ _ => ⟨rfl, fun _ => rfl⟩, id⟩
theorem FrB.tr (h : FrB m S G S1 G1 H) (k : FrB m S1 G1 S2 G2 H1) (hH : ∀ y, 700 * m ≤ y → y < 700 * m + S.1 → H1 y → H y) : FrB m S G S2 G2 H := by
  refine ⟨Nat.le_trans h.1 k.1, fun y z1 z2 => ?_, fun z => k.2.2 (h.2.2 z)⟩
  have a := h.2.1 y z1 z2
  have c := k.2.1 y z1 (by have := h.1; omega)
  exact ⟨c.1.trans a.1, fun n => (c.2 (fun w => n (hH y z1 z2 w))).trans (a.2 n)⟩
theorem FrB.more (h : FrB m S G S1 G1 H) (hH : ∀ y, 700 * m ≤ y → y < 700 * m + S.1 → H y → H1 y) : FrB m S G S1 G1 H1 := ⟨h.1, fun y z1 z2 => ⟨(h.2.1 y z1 z2).1, fun n => (h.2.1 y z1 z2).2 (fun w => n (hH y z1 z2 w))⟩, h.2.2⟩
theorem nBf_is : (∀ q y, y ≠ 700 * m + S.1 → (nBf m so pt S).2 q y = S.2 q y) ∧ (nBf m so pt S).2 80 (700 * m + S.1) = so ∧ (nBf m so pt S).2 81 (700 * m + S.1) = pt ∧ (∀ q, 82 ≤ q → q ≤ 86 → (nBf m so pt S).2 q (700 * m + S.1) = -1) := by
  refine ⟨fun q y h => ?_, ?_, ?_, fun q h1 h2 => ?_⟩
  · show up2 _ _ _ _ q y = _
    rw [up2_ne (fun z => h z.2), up2_ne (fun z => h z.2), up2_ne (fun z => h z.2), up2_ne (fun z => h z.2), up2_ne (fun z => h z.2), up2_ne (fun z => h z.2), up2_ne (fun z => h z.2), up2_ne (fun z => h z.2), up2_ne (fun z => h z.2), up2_ne (fun z => h z.2)]
  · simp [nBf, up2]
  · simp [nBf, up2]
  · have : q = 82 ∨ q = 83 ∨ q = 84 ∨ q = 85 ∨ q = 86 := by omega
    rcases this with e | e | e | e | e <;> subst e <;> simp [nBf, up2]
theorem LkR.cg {B' : Nat → Nat → Int32} {l : List Nat} (h : LkR B x l) (h2 : B' 82 x = B 82 x) (h3 : B' 83 x = B 83 x) (h4 : ∀ c ∈ l, B' 84 c = B 84 c) (h5 : ∀ c ∈ l, B' 85 c = B 85 c) (h6 : ∀ c ∈ l, B' 86 c = B 86 c) : LkR B' x l := by
  obtain ⟨a1, a2, a3, a4, a5⟩ := h
  refine ⟨h2.trans a1, h3.trans a2, fun i hi => ?_, fun c hc => (h6 c hc).trans (a4 c hc), fun hn => ?_⟩
  · rw [h4 _ (gd_mem (by omega)), h5 _ (gd_mem hi)]
    exact a3 i hi
  · have hd : l.headD 0 ∈ l := by
      cases l with
      | nil => exact absurd rfl hn
      | cons y r => exact List.mem_cons_self
    rw [h4 _ (gl_mem hn), h5 _ hd]
    exact a5 hn
theorem RgB.new (h : RgB m S G) (hf : S.1 < 700) : RgB m (nBf m so pt S) (va_up G (700 * m + S.1) []) ∧ FrB m S G (nBf m so pt S) (va_up G (700 * m + S.1) []) H ∧ vwR (nBf m so pt S) (va_up G (700 * m + S.1) []) (700 * m + S.1) = (so, pt, []) ∧ (nBf m so pt S).2 86 (700 * m + S.1) = -1 := by
  obtain ⟨⟨h4, h1⟩, h2, h3, h5, ρ, h6⟩ := h
  obtain ⟨n1, n2, n3, n4⟩ := nBf_is (m := m) (S := S) (so := so) (pt := pt)
  refine ⟨⟨⟨h4, hf⟩, fun x z1 z2 => ?_, fun x z1 z2 z3 => ?_, fun z z1 z2 => ?_, ρ, fun x z1 z2 c hc => ?_⟩, ⟨Nat.le_succ _, fun x z1 z2 => ⟨?_, fun _ => n1 86 x (by omega)⟩, fun hz z z1 z2 => by
    have z2 : z < 700 * m + (S.1 + 1) := z2
    by_cases e : z = 700 * m + S.1
    · rw [e]; simp [nBf, up2]
    · rw [n1 87 z e]; exact hz z z1 (by omega)⟩, ?_, n4 86 (by decide) (by decide)⟩
  · have z2 : x < 700 * m + (S.1 + 1) := z2
    by_cases e : x = 700 * m + S.1
    · rw [e, va_up_self]
      exact ⟨⟨n4 82 (by decide) (by decide), n4 83 (by decide) (by decide), fun i hi => absurd hi (Nat.not_lt_zero _), fun c hc => absurd hc (List.not_mem_nil), fun z => absurd rfl z⟩, List.nodup_nil, fun c hc => absurd hc (List.not_mem_nil)⟩
    · rw [va_up_ne _ _ e]
      obtain ⟨q1, q2, q3⟩ := h2 x z1 (by omega)
      have ne : ∀ c ∈ G x, c ≠ 700 * m + S.1 := fun c hc => by have := (q3 c hc).2; omega
      exact ⟨q1.cg (n1 82 x e) (n1 83 x e) (fun c hc => n1 84 c (ne c hc)) (fun c hc => n1 85 c (ne c hc)) (fun c hc => n1 86 c (ne c hc)), q2, fun c hc => ⟨(q3 c hc).1, by have := (q3 c hc).2; show c < 700 * m + (S.1 + 1); omega⟩⟩
  · have z2 : x < 700 * m + (S.1 + 1) := z2
    by_cases e : x = 700 * m + S.1
    · rw [e]; exact ⟨n4 84 (by decide) (by decide), n4 85 (by decide) (by decide)⟩
    · rw [n1 84 x e, n1 85 x e]
      rw [n1 86 x e] at z3
      exact h3 x z1 (by omega) z3
  · have z2 : z < 700 * m + (S.1 + 1) := z2
    by_cases e : z = 700 * m + S.1
    · rw [e]; exact Or.inl (n4 86 (by decide) (by decide))
    · rw [n1 86 z e]
      rcases h5 z z1 (by omega) with w | ⟨x, w1, w2, w3⟩
      · exact Or.inl w
      · exact Or.inr ⟨x, ⟨w1.1, by show x < 700 * m + (S.1 + 1); omega⟩, w2, by rw [va_up_ne _ _ (by omega)]; exact w3⟩
  · have z2 : x < 700 * m + (S.1 + 1) := z2
    by_cases e : x = 700 * m + S.1
    · rw [e, va_up_self] at hc; exact absurd hc (List.not_mem_nil)
    · rw [va_up_ne _ _ e] at hc
      exact h6 x z1 (by omega) c hc
  · show ((nBf m so pt S).2 80 x, (nBf m so pt S).2 81 x, va_up G (700 * m + S.1) [] x) = (S.2 80 x, S.2 81 x, G x)
    rw [n1 80 x (by omega), n1 81 x (by omega), va_up_ne _ _ (by omega)]
  · show ((nBf m so pt S).2 80 (700 * m + S.1), (nBf m so pt S).2 81 (700 * m + S.1), va_up G (700 * m + S.1) [] (700 * m + S.1)) = _
    rw [n2, n3, va_up_self]
theorem aBf_is {l : List Nat} (h82 : B 82 p = hdI l) (h83 : B 83 p = laI l) (hb : ∀ d ∈ l, d < 100000) : (∀ q y, q ≠ 82 → q ≠ 83 → q ≠ 84 → q ≠ 85 → q ≠ 86 → aBf p c B q y = B q y) ∧ (∀ y, aBf p c B 82 y = if y = p ∧ l = [] then Int32.ofNat c else B 82 y) ∧ (∀ y, aBf p c B 83 y = if y = p then Int32.ofNat c else B 83 y) ∧ (∀ y, aBf p c B 84 y = if l ≠ [] ∧ y = l.getLastD 0 then Int32.ofNat c else B 84 y) ∧ (∀ y, aBf p c B 85 y = if l ≠ [] ∧ y = c then Int32.ofNat (l.getLastD 0) else B 85 y) ∧ ∀ y, aBf p c B 86 y = if y = c then Int32.ofNat p else B 86 y := by
  have f82 : B 82 p = -1 ↔ l = [] := by
    rw [h82]
    unfold hdI
    by_cases e : l = []
    · rw [if_pos e]; exact ⟨fun _ => e, fun _ => rfl⟩
    · rw [if_neg e]
      have hd : l.headD 0 ∈ l := by
        cases l with
        | nil => exact absurd rfl e
        | cons y r => exact List.mem_cons_self
      exact ⟨fun z => absurd z (nm32 (hb _ hd)), fun z => absurd z e⟩
  by_cases e : l = []
  · have ea : aBf p c B = up2 (up2 (up2 B 82 p (Int32.ofNat c)) 83 p (Int32.ofNat c)) 86 c (Int32.ofNat p) := by unfold aBf; rw [if_pos (f82.mpr e)]
    rw [ea]
    refine ⟨fun q y q1 q2 q3 q4 q5 => ?_, fun y => ?_, fun y => ?_, fun y => ?_, fun y => ?_, fun y => ?_⟩
    · rw [up2_ne (fun z => q5 z.1), up2_ne (fun z => q2 z.1), up2_ne (fun z => q1 z.1)]
    · simp only [up2]
      by_cases w : y = p <;> simp [w, e]
    · simp only [up2]
      by_cases w : y = p <;> simp [w]
    · rw [if_neg (fun z => z.1 e)]; simp [up2]
    · rw [if_neg (fun z => z.1 e)]; simp [up2]
    · simp only [up2]
      by_cases w : y = c <;> simp [w]
  · have hl : (B 83 p).toNatClampNeg = l.getLastD 0 := by
      rw [h83]
      unfold laI
      rw [if_neg e]
      exact lt32 (by have := hb _ (gl_mem e); omega)
    have hl2 : B 83 p = Int32.ofNat (l.getLastD 0) := by rw [h83]; unfold laI; rw [if_neg e]
    have ea : aBf p c B = up2 (up2 (up2 (up2 B 84 (l.getLastD 0) (Int32.ofNat c)) 85 c (Int32.ofNat (l.getLastD 0))) 83 p (Int32.ofNat c)) 86 c (Int32.ofNat p) := by unfold aBf; rw [if_neg (fun z => e (f82.mp z)), hl, hl2]
    rw [ea]
    generalize l.getLastD 0 = la
    refine ⟨fun q y q1 q2 q3 q4 q5 => ?_, fun y => ?_, fun y => ?_, fun y => ?_, fun y => ?_, fun y => ?_⟩
    · rw [up2_ne (fun z => q5 z.1), up2_ne (fun z => q2 z.1), up2_ne (fun z => q4 z.1), up2_ne (fun z => q3 z.1)]
    · rw [if_neg (fun z => e z.2)]; simp [up2]
    · simp only [up2]
      by_cases w : y = p <;> simp [w]
    · simp only [up2]
      by_cases w : y = la <;> simp [w, e]
    · simp only [up2]
      by_cases w : y = c <;> simp [w, e]
    · simp only [up2]
      by_cases w : y = c <;> simp [w]
theorem cntp_one {p1 p2 : Nat → Bool} {k0 : Nat} (h1 : p1 k0 = true) (h2 : p2 k0 = false) (h3 : ∀ k, k ≠ k0 → p2 k = p1 k) : ∀ n, (k0 < n → (List.range n).countP p2 + 1 = (List.range n).countP p1) ∧ (n ≤ k0 → (List.range n).countP p2 = (List.range n).countP p1) := by
  intro n
  induction n with
  | zero => exact ⟨fun z => absurd z (Nat.not_lt_zero _), fun _ => rfl⟩
  | succ n ih =>
    rw [List.range_succ, List.countP_append, List.countP_append, List.countP_singleton, List.countP_singleton]
    by_cases e : n = k0
    · subst e
      rw [h1, h2, ih.2 (Nat.le_refl _)]
      exact ⟨fun _ => by simp, fun z => absurd z (by omega)⟩
    · rw [h3 n e]
      refine ⟨fun z => ?_, fun z => ?_⟩
      · have := ih.1 (by omega); omega
      · rw [ih.2 (by omega)]
theorem rtC_new : rtC m (nBf m so pt S) = rtC m S + 1 := by
  obtain ⟨n1, -, -, n4⟩ := nBf_is (m := m) (S := S) (so := so) (pt := pt)
  unfold rtC
  show (List.range (S.1 + 1)).countP _ = _
  rw [List.range_succ, List.countP_append, List.countP_singleton, n4 86 (by decide) (by decide)]
  have : (List.range S.1).countP (fun k => decide ((nBf m so pt S).2 86 (700 * m + k) = -1)) = (List.range S.1).countP (fun k => decide (S.2 86 (700 * m + k) = -1)) := by
    refine List.countP_congr (fun k hk => ?_)
    rw [n1 86 (700 * m + k) (by have := List.mem_range.mp hk; omega)]
  rw [this]
  simp
theorem rtC_ad (h : ∀ y, aBf p c S.2 86 y = if y = c then Int32.ofNat p else S.2 86 y) (hc : 700 * m ≤ c ∧ c < 700 * m + S.1) (rc : S.2 86 c = -1) (hp : p < 100000) : rtC m (S.1, aBf p c S.2) + 1 = rtC m S := by
  unfold rtC
  refine (cntp_one (k0 := c - 700 * m) ?_ ?_ (fun k hk => ?_) S.1).1 (by omega)
  · rw [show 700 * m + (c - 700 * m) = c by omega, rc]; rfl
  · show decide (aBf p c S.2 86 (700 * m + (c - 700 * m)) = -1) = false
    rw [show 700 * m + (c - 700 * m) = c by omega, h c, if_pos rfl]
    exact decide_eq_false (nm32 hp)
  · show decide (aBf p c S.2 86 (700 * m + k) = -1) = _
    rw [h _, if_neg (by omega)]
theorem RgB.ad (h : RgB m S G) (hp : 700 * m ≤ p ∧ p < 700 * m + S.1) (hc : 700 * m ≤ c ∧ c < 700 * m + S.1) (rc : S.2 86 c = -1) (rp : S.2 86 p = -1) (hne : c ≠ p) : RgB m (S.1, aBf p c S.2) (va_up G p (G p ++ [c])) ∧ (∀ q y, q = 80 ∨ q = 81 → aBf p c S.2 q y = S.2 q y) ∧ (∀ y, y ≠ c → aBf p c S.2 86 y = S.2 86 y) ∧ rtC m (S.1, aBf p c S.2) + 1 = rtC m S := by
  obtain ⟨⟨h4, h1⟩, h2, h3, h5, ρ, h6⟩ := h
  obtain ⟨⟨l1, l2, l3, l4, l5⟩, nd, ch⟩ := h2 p hp.1 hp.2
  have big : ∀ d ∈ G p, d < 100000 := fun d hd => by have := (ch d hd).2; omega
  obtain ⟨i0, i82, i83, i84, i85, i86⟩ := aBf_is (c := c) l1 l2 big
  have par : ∀ y d, 700 * m ≤ y → y < 700 * m + S.1 → d ∈ G y → S.2 86 d = Int32.ofNat y := fun y d q1 q2 q3 => (h2 y q1 q2).1.2.2.2.1 d q3
  have ncl : ∀ y, 700 * m ≤ y → y < 700 * m + S.1 → c ∉ G y := fun y q1 q2 q3 => nm32 (by omega) ((par y c q1 q2 q3).symm.trans rc)
  have lne : ∀ y d, 700 * m ≤ y → y < 700 * m + S.1 → d ∈ G y → y ≠ p → ¬ (G p ≠ [] ∧ d = (G p).getLastD 0) := fun y d q1 q2 q3 q4 z => by
    have e1 := par y d q1 q2 q3
    have e2 := par p _ hp.1 hp.2 (gl_mem z.1)
    rw [z.2] at e1
    exact q4 (inj32 (by omega) (by omega) (e1.symm.trans e2))
  refine ⟨⟨⟨h4, h1⟩, fun y z1 z2 => ?_, fun y z1 z2 z3 => ?_, fun z z1 z2 => ?_, va_up ρ p (max (ρ p) (ρ c + 1)), fun x z1 z2 d hd => ?_⟩, fun q y hq => i0 q y (by omega) (by omega) (by omega) (by omega) (by omega), fun y hy => by rw [i86 y, if_neg hy], rtC_ad i86 hc rc (by omega)⟩
  · have z2 : y < 700 * m + S.1 := z2
    by_cases w : y = p
    · subst w
      rw [va_up_self]
      refine ⟨⟨?_, ?_, fun i hi => ?_, fun d hd => ?_, fun _ => ⟨?_, ?_⟩⟩, ?_, fun d hd => ?_⟩
      · show aBf y c S.2 82 y = _
        rw [i82 y]
        by_cases e : G y = []
        · rw [if_pos ⟨rfl, e⟩, e]; rfl
        · rw [if_neg (fun z => e z.2), l1]
          unfold hdI
          rw [if_neg e, if_neg (by simp)]
          congr 1
          cases e2 : G y with
          | nil => exact absurd e2 e
          | cons a r => rfl
      · show aBf y c S.2 83 y = _
        rw [i83 y, if_pos rfl]
        unfold laI
        rw [if_neg (by simp)]
        congr 1
        simp
      · rw [List.length_append] at hi
        have hi : i + 1 < (G y).length + 1 := hi
        rw [getD_apN (show i < (G y).length + 1 by omega), getD_apN hi, if_neg (by omega)]
        show aBf y c S.2 84 _ = _ ∧ aBf y c S.2 85 _ = _
        by_cases z : i + 1 = (G y).length
        · have hn : G y ≠ [] := fun e => by rw [e] at z; cases z
          have el : (G y).getD i 0 = (G y).getLastD 0 := by
            rw [gl_eq _ _ hn]
            congr 1
            omega
          rw [if_pos z, i84, i85, if_pos ⟨hn, el⟩, if_pos ⟨hn, rfl⟩, el]
          exact ⟨rfl, rfl⟩
        · rw [if_neg z, i84, i85, if_neg, if_neg]
          · exact l3 i (by omega)
          · intro q
            exact ncl y hp.1 hp.2 (by rw [← q.2]; exact gd_mem (by omega))
          · intro q
            have e := q.2
            rw [gl_eq _ _ q.1] at e
            have := gd_inj nd (show i < (G y).length by omega) (show (G y).length - 1 < (G y).length by omega) e
            omega
      · show aBf y c S.2 86 d = _
        rw [i86 d]
        rcases List.mem_append.mp hd with z | z
        · have : d ≠ c := fun e => ncl y hp.1 hp.2 (by rw [e] at z; exact z)
          rw [if_neg this]; exact l4 d z
        · rw [List.mem_singleton] at z
          rw [if_pos z]
      · have e : (G y ++ [c]).getLastD 0 = c := by simp
        rw [e]
        show aBf y c S.2 84 c = -1
        rw [i84 c, if_neg (fun z => ncl y hp.1 hp.2 (by rw [z.2]; exact gl_mem z.1))]
        exact (h3 c hc.1 (by omega) rc).1
      · show aBf y c S.2 85 ((G y ++ [c]).headD 0) = -1
        cases e2 : G y with
        | nil =>
          show aBf y c S.2 85 c = -1
          rw [i85 c, if_neg (fun z => z.1 e2)]
          exact (h3 c hc.1 (by omega) rc).2
        | cons a r =>
          show aBf y c S.2 85 a = -1
          rw [i85 a, if_neg (fun z => ncl y hp.1 hp.2 (by rw [← z.2, e2]; exact List.mem_cons_self))]
          have := (l5 (by rw [e2]; exact List.cons_ne_nil _ _)).2
          rw [e2] at this
          exact this
      · rw [List.nodup_append]
        refine ⟨nd, by simp, fun d hd e he => ?_⟩
        rw [List.mem_singleton] at he
        intro z
        exact ncl y hp.1 hp.2 (by rw [← he, ← z]; exact hd)
      · rcases List.mem_append.mp hd with z | z
        · exact ch d z
        · rw [List.mem_singleton] at z
          rw [z]; exact hc
    · rw [va_up_ne _ _ w]
      obtain ⟨q1, q2, q3⟩ := h2 y z1 z2
      refine ⟨q1.cg ?_ ?_ (fun d hd => ?_) (fun d hd => ?_) (fun d hd => ?_), q2, q3⟩
      · show aBf p c S.2 82 y = _
        rw [i82 y, if_neg (fun z => w z.1)]
      · show aBf p c S.2 83 y = _
        rw [i83 y, if_neg w]
      · show aBf p c S.2 84 d = _
        rw [i84 d, if_neg (lne y d z1 z2 hd w)]
      · show aBf p c S.2 85 d = _
        rw [i85 d, if_neg (fun z => ncl y z1 z2 (by rw [← z.2]; exact hd))]
      · show aBf p c S.2 86 d = _
        rw [i86 d, if_neg (fun z => ncl y z1 z2 (by rw [← z]; exact hd))]
  · have z3 : aBf p c S.2 86 y = -1 := z3
    show aBf p c S.2 84 y = -1 ∧ aBf p c S.2 85 y = -1
    have z2 : y < 700 * m + S.1 := z2
    have yc : y ≠ c := fun e => by
      rw [i86 y, if_pos e] at z3
      exact nm32 (by omega) z3
    rw [i86 y, if_neg yc] at z3
    rw [i84 y, i85 y, if_neg, if_neg (fun z => yc z.2)]
    · exact h3 y z1 z2 z3
    · intro z
      have e2 := par p _ hp.1 hp.2 (gl_mem z.1)
      rw [← z.2, z3] at e2
      exact nm32 (by omega) e2.symm
  · show aBf p c S.2 86 z = -1 ∨ ∃ x, (700 * m ≤ x ∧ x < 700 * m + S.1) ∧ aBf p c S.2 86 z = Int32.ofNat x ∧ z ∈ va_up G p (G p ++ [c]) x
    by_cases e : z = c
    · exact Or.inr ⟨p, hp, by rw [i86 z, if_pos e], by rw [va_up_self, e]; simp⟩
    · rw [i86 z, if_neg e]
      rcases h5 z z1 z2 with w | ⟨x, w1, w2, w3⟩
      · exact Or.inl w
      · refine Or.inr ⟨x, w1, w2, ?_⟩
        by_cases ex : x = p
        · rw [ex, va_up_self]
          rw [ex] at w3
          exact List.mem_append_left _ w3
        · rw [va_up_ne _ _ ex]; exact w3
  · have z2 : x < 700 * m + S.1 := z2
    by_cases ex : x = p
    · subst ex
      rw [va_up_self] at hd
      rw [va_up_self]
      rcases List.mem_append.mp hd with w | w
      · have dx : d ≠ x := fun e => nm32 (by omega) ((par x d z1 z2 w).symm.trans (by rw [e]; exact rp))
        rw [va_up_ne _ _ dx]
        have := h6 x z1 z2 d w
        omega
      · rw [List.mem_singleton] at w
        rw [w, va_up_ne _ _ hne]
        omega
    · rw [va_up_ne _ _ ex] at hd ⊢
      have dx : d ≠ p := fun e => nm32 (by omega) ((par x d z1 z2 hd).symm.trans (by rw [e]; exact rp))
      rw [va_up_ne _ _ dx]
      exact h6 x z1 z2 d hd
end
