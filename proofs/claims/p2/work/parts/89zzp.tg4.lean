/-! the tree as lists: what the reader's pieces look like -/
abbrev Vw : Type := Nat → Int32 × Int32 × Int32 × List Nat
def vwT (Θ : TrT) (G : Nat → List Nat) : Vw := fun x => (Θ.2.2 5 x, Θ.2.2 10 x, Θ.2.2 11 x, G x)
/-- a leaf, a node with children; all within lo .. hi -/
def lfS (w : Vw) (lo hi x : Nat) (k d : Int32) : Prop := (lo ≤ x ∧ x < hi) ∧ (w x).1 = k ∧ (w x).2.2.1 = d ∧ (w x).2.2.2 = []
def ndS (w : Vw) (lo hi x : Nat) (k l : Int32) (cs : List Nat) : Prop := (lo ≤ x ∧ x < hi) ∧ (w x).1 = k ∧ (w x).2.1 = l ∧ (w x).2.2.2 = cs
/-- two views alike from lo to hi; more room -/
def Sm (w w' : Vw) (lo hi : Nat) : Prop := ∀ y, lo ≤ y → y < hi → w' y = w y
section
variable {w w' : Vw} {lo hi lo' hi' x : Nat} {k d l : Int32} {cs : List Nat}
theorem lfS.st (h : lfS w lo hi x k d) (s : Sm w w' lo hi) (h1 : lo' ≤ lo) (h2 : hi ≤ hi') : lfS w' lo' hi' x k d := by
  obtain ⟨a1, a2⟩ := h
  exact ⟨⟨by omega, by omega⟩, by rw [s x a1.1 a1.2]; exact a2⟩
theorem ndS.st (h : ndS w lo hi x k l cs) (s : Sm w w' lo hi) (h1 : lo' ≤ lo) (h2 : hi ≤ hi') : ndS w' lo' hi' x k l cs := by
  obtain ⟨a1, a2⟩ := h
  exact ⟨⟨by omega, by omega⟩, by rw [s x a1.1 a1.2]; exact a2⟩
end
def haS (w : Vw) (lo hi x p : Nat) : Prop := ∃ y, ndS w lo hi x 6 0 [y] ∧ lfS w lo hi y 1 (Int32.ofNat p)
def stS (w : Vw) (lo hi x v p : Nat) : Prop := ∃ sq e pa, ndS w lo hi x 6 0 [sq] ∧ ndS w lo hi sq 5 0 [e, pa] ∧ lfS w lo hi e 2 (Int32.ofNat v) ∧ lfS w lo hi pa 1 (Int32.ofNat p)
def waS (w : Vw) (lo hi x : Nat) (l : Int32) (im : Bool) (p : Nat) : Prop := ∃ sq pa ch ex no, ndS w lo hi x 6 0 [sq] ∧ ndS w lo hi sq 5 0 (if im = true then [ch, pa] else [pa, ch]) ∧ lfS w lo hi pa 1 (Int32.ofNat p) ∧ ndS w lo hi ch 4 l [ex, no] ∧ lfS w lo hi ex 3 2 ∧ lfS w lo hi no 0 0
def awS (w : Vw) (lo hi x : Nat) (l : Int32) (im : Bool) (p : Nat) : Prop := ∃ y, ndS w lo hi x 9 0 [y] ∧ waS w lo hi y l im p
def wkS (w : Vw) (lo hi x body : Nat) (l : Int32) (im : Bool) (p : Nat) : Prop := ∃ par sq wa ex, ndS w lo hi x 9 0 [par] ∧ ndS w lo hi par 8 0 [sq, wa] ∧ ndS w lo hi sq 5 0 [body, ex] ∧ lfS w lo hi ex 3 2 ∧ waS w lo hi wa l im p
def abS (w : Vw) (lo hi x body : Nat) (l : Int32) (p : Nat) : Prop := ∃ y, ndS w lo hi y 7 l [body] ∧ wkS w lo hi x y l false p
def evS (w : Vw) (lo hi x body aw : Nat) (l : Int32) (p2 p3 : Nat) : Prop := ∃ lp ab sq ha, ndS w lo hi x 5 0 [aw, lp] ∧ ndS w lo hi lp 6 0 [ab] ∧ abS w lo hi ab sq l p3 ∧ ndS w lo hi sq 5 0 [body, ha] ∧ haS w lo hi ha p2
section
variable {w w' : Vw} {lo hi lo' hi' x v p body aw p2 p3 : Nat} {l : Int32} {im : Bool}
theorem haS.st (h : haS w lo hi x p) (s : Sm w w' lo hi) (h1 : lo' ≤ lo) (h2 : hi ≤ hi') : haS w' lo' hi' x p := by
  obtain ⟨y, a, b⟩ := h
  exact ⟨y, a.st s h1 h2, b.st s h1 h2⟩
theorem stS.st (h : stS w lo hi x v p) (s : Sm w w' lo hi) (h1 : lo' ≤ lo) (h2 : hi ≤ hi') : stS w' lo' hi' x v p := by
  obtain ⟨y1, y2, y3, a, b, c, d⟩ := h
  exact ⟨y1, y2, y3, a.st s h1 h2, b.st s h1 h2, c.st s h1 h2, d.st s h1 h2⟩
theorem waS.st (h : waS w lo hi x l im p) (s : Sm w w' lo hi) (h1 : lo' ≤ lo) (h2 : hi ≤ hi') : waS w' lo' hi' x l im p := by
  obtain ⟨y1, y2, y3, y4, y5, a, b, c, d, e, f⟩ := h
  exact ⟨y1, y2, y3, y4, y5, a.st s h1 h2, b.st s h1 h2, c.st s h1 h2, d.st s h1 h2, e.st s h1 h2, f.st s h1 h2⟩
theorem awS.st (h : awS w lo hi x l im p) (s : Sm w w' lo hi) (h1 : lo' ≤ lo) (h2 : hi ≤ hi') : awS w' lo' hi' x l im p := by
  obtain ⟨y, a, b⟩ := h
  exact ⟨y, a.st s h1 h2, b.st s h1 h2⟩
theorem wkS.st (h : wkS w lo hi x body l im p) (s : Sm w w' lo hi) (h1 : lo' ≤ lo) (h2 : hi ≤ hi') : wkS w' lo' hi' x body l im p := by
  obtain ⟨y1, y2, y3, y4, a, b, c, d, e⟩ := h
  exact ⟨y1, y2, y3, y4, a.st s h1 h2, b.st s h1 h2, c.st s h1 h2, d.st s h1 h2, e.st s h1 h2⟩
theorem abS.st (h : abS w lo hi x body l p) (s : Sm w w' lo hi) (h1 : lo' ≤ lo) (h2 : hi ≤ hi') : abS w' lo' hi' x body l p := by
  obtain ⟨y, a, b⟩ := h
  exact ⟨y, a.st s h1 h2, b.st s h1 h2⟩
theorem evS.st (h : evS w lo hi x body aw l p2 p3) (s : Sm w w' lo hi) (h1 : lo' ≤ lo) (h2 : hi ≤ hi') : evS w' lo' hi' x body aw l p2 p3 := by
  obtain ⟨y1, y2, y3, y4, a, b, c, d, e⟩ := h
  exact ⟨y1, y2, y3, y4, a.st s h1 h2, b.st s h1 h2, c.st s h1 h2, d.st s h1 h2, e.st s h1 h2⟩
end
/-- an operation: a node x comes, those of H get a parent, at most m nodes are made, pz pauses -/
def NW (Θ Θ' : TrT) (G G' : Nat → List Nat) (x : Nat) (H : Nat → Prop) (m pz : Nat) : Prop := TG Θ' G' ∧ TE Θ Θ' G G' (fun _ => False) H ∧ NwN Θ Θ' x m ∧ Θ'.2.1 = Θ.2.1 + pz
section
variable {Θ Θ1 Θ2 : TrT} {G G1 G2 : Nat → List Nat} {O H H1 H2 : Nat → Prop} {x y a c d v m1 m2 p1 p2 lo hi : Nat} {k l : Int32} {im : Bool}
theorem TE.sm (h : TE Θ Θ1 G G1 O H) (h0 : 1 ≤ lo) (h1 : hi ≤ Θ.1) (hO : ∀ y, lo ≤ y → y < hi → ¬ O y) : Sm (vwT Θ G) (vwT Θ1 G1) lo hi := by
  intro y z1 z2
  obtain ⟨⟨a1, a2, a3⟩, a4, -⟩ := h.2 y (by omega) (by omega)
  show (Θ1.2.2 5 y, Θ1.2.2 10 y, Θ1.2.2 11 y, G1 y) = (Θ.2.2 5 y, Θ.2.2 10 y, Θ.2.2 11 y, G y)
  rw [a1, a2, a3, (a4 (hO y z1 z2)).1]
theorem NW.sm (h : NW Θ Θ1 G G1 x H m1 p1) (h0 : 1 ≤ lo) (h1 : hi ≤ Θ.1) : Sm (vwT Θ G) (vwT Θ1 G1) lo hi := h.2.1.sm h0 h1 (fun _ _ _ z => z)
theorem NW.tr (h : NW Θ Θ1 G G1 x H1 m1 p1) (k : NW Θ1 Θ2 G1 G2 y H2 m2 p2) (q1 : ∀ z, 1 ≤ z → z < Θ.1 → H1 z → H z) (q2 : ∀ z, 1 ≤ z → z < Θ.1 → H2 z → H z) : NW Θ Θ2 G G2 y H (m1 + m2) (p1 + p2) := by
  obtain ⟨-, b1, ⟨b2, b3, b4, b5⟩, b6⟩ := h
  obtain ⟨c0, c1, ⟨c2, c3, c4, c5⟩, c6⟩ := k
  exact ⟨c0, (b1.more (fun _ _ _ z => z) q1).tr c1 (fun _ _ _ z => z) q2, ⟨Nat.le_trans b1.1 c2, c3, c4, by omega⟩, by rw [c6, b6, Nat.add_assoc]⟩
/-- a node that hangs nowhere still does, once another operation was done that doesn't hang it -/
theorem NW.rt (h : NW Θ Θ1 G G1 x H m1 p1) (hc : 1 ≤ c ∧ c < Θ.1) (rc : Θ.2.2 9 c = 0) (nh : ¬ H c) : (1 ≤ c ∧ c < Θ1.1) ∧ Θ1.2.2 9 c = 0 := ⟨⟨hc.1, Nat.lt_of_lt_of_le hc.2 h.2.1.1⟩, ((h.2.1.2 c hc.1 hc.2).2.2 nh).trans rc⟩
theorem NW.own (h : NW Θ Θ1 G G1 x H m1 p1) (hT : TG Θ G) : (1 ≤ x ∧ x < Θ1.1) ∧ Θ1.2.2 9 x = 0 := ⟨⟨Nat.le_trans hT.1.1 h.2.2.1.1, h.2.2.1.2.1⟩, h.2.2.1.2.2.1⟩
theorem W_mk (hT : TG Θ G) (hf : Θ.1 < 640) (hk : k ≠ 1 ∧ k ≠ 2 ∧ k ≠ 3) : ∃ G1, NW Θ (mkT Θ k).1 G G1 (mkT Θ k).2 (fun _ => False) 1 0 ∧ ndS (vwT (mkT Θ k).1 G1) Θ.1 (mkT Θ k).1.1 (mkT Θ k).2 k 0 [] ∧ lfS (vwT (mkT Θ k).1 G1) Θ.1 (mkT Θ k).1.1 (mkT Θ k).2 k 0 := by
  obtain ⟨q1, q2, q3, q4, q5, q6, q7, q8⟩ := hT.mk (O := fun _ => False) (H := fun _ => False) hf hk
  have e := q3.2.1
  rw [q4] at e
  refine ⟨_, ⟨q1, q2, q3, q8⟩, ?_, ?_⟩
  · rw [q4]; exact ⟨⟨Nat.le_refl _, e⟩, q5, q6, va_up_self _ _ _⟩
  · rw [q4]; exact ⟨⟨Nat.le_refl _, e⟩, q5, q7, va_up_self _ _ _⟩
theorem W_pa (hT : TG Θ G) (hf : Θ.1 < 640) : ∃ G1, NW Θ (paT Θ).1 G G1 (paT Θ).2 (fun _ => False) 1 1 ∧ lfS (vwT (paT Θ).1 G1) Θ.1 (paT Θ).1.1 (paT Θ).2 1 (Int32.ofNat Θ.2.1) := by
  obtain ⟨q1, q2, q3, q4, q5, q6, q7⟩ := hT.pa (O := fun _ => False) (H := fun _ => False) hf
  have e := q3.2.1
  rw [q4] at e
  exact ⟨_, ⟨q1, q2, q3, q7⟩, by rw [q4]; exact ⟨⟨Nat.le_refl _, e⟩, q5, q6, va_up_self _ _ _⟩⟩
theorem W_em (hT : TG Θ G) (hf : Θ.1 < 640) : ∃ G1, NW Θ (emT Θ v).1 G G1 (emT Θ v).2 (fun _ => False) 1 0 ∧ lfS (vwT (emT Θ v).1 G1) Θ.1 (emT Θ v).1.1 (emT Θ v).2 2 (Int32.ofNat v) := by
  obtain ⟨q1, q2, q3, q5, q6, q7⟩ := hT.le (k := 2) (Θ' := (emT Θ v).1) (O := fun _ => False) (H := fun _ => False) hf (by decide) (by unfold leV; rw [if_pos (by decide)]) rfl
  have q4 : (emT Θ v).2 = Θ.1 := (mkT_is (k := 2) hf).1
  exact ⟨_, ⟨q1, q2, by rw [q4]; exact q3, q7⟩, by rw [q4]; exact ⟨⟨Nat.le_refl _, q3.2.1⟩, q5, q6, va_up_self _ _ _⟩⟩
theorem W_ex (hT : TG Θ G) (hf : Θ.1 < 640) : ∃ G1, NW Θ (exT Θ v).1 G G1 (exT Θ v).2 (fun _ => False) 1 0 ∧ lfS (vwT (exT Θ v).1 G1) Θ.1 (exT Θ v).1.1 (exT Θ v).2 3 (2 + Int32.ofNat v) := by
  obtain ⟨q1, q2, q3, q5, q6, q7⟩ := hT.le (k := 3) (Θ' := (exT Θ v).1) (O := fun _ => False) (H := fun _ => False) hf (by decide) (by unfold leV; rw [if_neg (by decide), if_neg (by decide), if_pos rfl]) rfl
  have q4 : (exT Θ v).2 = Θ.1 := (mkT_is (k := 3) hf).1
  exact ⟨_, ⟨q1, q2, by rw [q4]; exact q3, q7⟩, by rw [q4]; exact ⟨⟨Nat.le_refl _, q3.2.1⟩, q5, q6, va_up_self _ _ _⟩⟩
theorem W_wr (hT : TG Θ G) (hf : Θ.1 < 640) (hk : k ≠ 1 ∧ k ≠ 2 ∧ k ≠ 3) (hc : 1 ≤ c ∧ c < Θ.1) (rc : Θ.2.2 9 c = 0) : ∃ G1, NW Θ (wrT Θ k c).1 G G1 (wrT Θ k c).2 (fun y => y = c) 1 0 ∧ ndS (vwT (wrT Θ k c).1 G1) Θ.1 (wrT Θ k c).1.1 (wrT Θ k c).2 k 0 [c] := by
  obtain ⟨q1, q2, q3, q4, q5, q6, q7, q8⟩ := hT.mk (O := fun _ => False) (H := fun _ => False) hf hk
  have m2 := (mkT_is (k := k) hf).2.1
  have r1 := ((q2.2 c hc.1 hc.2).2.2 (fun z => z)).trans rc
  have rx := q3.2.2.1
  unfold wrT
  rw [q4] at rx ⊢
  obtain ⟨p1, p2, p3, p4⟩ := q1.hg (a := Θ.1) (c := c) ⟨hT.1.1, by omega⟩ ⟨hc.1, by omega⟩ (by omega) rx r1
  obtain ⟨⟨t1, t2, t3⟩, -, t5⟩ := p2.2 Θ.1 hT.1.1 (by omega)
  refine ⟨_, ⟨p1, (q2.more (fun _ _ _ z => z) (fun _ _ _ z => z.elim)).tr p2 (fun z z1 z2 z3 => by omega) (fun _ _ _ z => z), ⟨Nat.le_refl _, by rw [p3]; omega, (t5 (by omega)).trans rx, by rw [p3]; omega⟩, by rw [p4]; exact q8⟩, ⟨Nat.le_refl _, by rw [p3]; omega⟩, t1.trans q5, t2.trans q6, ?_⟩
  show va_up (va_up G Θ.1 []) Θ.1 (va_up G Θ.1 [] Θ.1 ++ [c]) Θ.1 = [c]
  rw [va_up_self, va_up_self]
  rfl
theorem W_pr (hT : TG Θ G) (hf : Θ.1 < 640) (hk : k ≠ 1 ∧ k ≠ 2 ∧ k ≠ 3) (hc : 1 ≤ c ∧ c < Θ.1) (rc : Θ.2.2 9 c = 0) (hd : 1 ≤ d ∧ d < Θ.1) (rd : Θ.2.2 9 d = 0) (hne : c ≠ d) : ∃ G1, NW Θ (prT Θ k c d).1 G G1 (prT Θ k c d).2 (fun y => y = c ∨ y = d) 1 0 ∧ ndS (vwT (prT Θ k c d).1 G1) Θ.1 (prT Θ k c d).1.1 (prT Θ k c d).2 k 0 [c, d] := by
  obtain ⟨q1, q2, q3, q4, q5, q6, q7, q8⟩ := hT.mk (O := fun _ => False) (H := fun _ => False) hf hk
  have m2 := (mkT_is (k := k) hf).2.1
  have r1 := ((q2.2 c hc.1 hc.2).2.2 (fun z => z)).trans rc
  have r2 := ((q2.2 d hd.1 hd.2).2.2 (fun z => z)).trans rd
  have rx := q3.2.2.1
  unfold prT
  rw [q4] at rx ⊢
  obtain ⟨p1, p2, p3, p4⟩ := q1.hg (a := Θ.1) (c := c) ⟨hT.1.1, by omega⟩ ⟨hc.1, by omega⟩ (by omega) rx r1
  obtain ⟨⟨t1, t2, t3⟩, -, t5⟩ := p2.2 Θ.1 hT.1.1 (by omega)
  have rx2 := (t5 (by omega)).trans rx
  have r3 := ((p2.2 d hd.1 (by omega)).2.2 (fun z => hne z.symm)).trans r2
  obtain ⟨s1, s2, s3, s4⟩ := p1.hg (a := Θ.1) (c := d) ⟨hT.1.1, by rw [p3]; omega⟩ ⟨hd.1, by rw [p3]; omega⟩ (by omega) rx2 r3
  obtain ⟨⟨u1, u2, u3⟩, -, u5⟩ := s2.2 Θ.1 hT.1.1 (by rw [p3]; omega)
  refine ⟨_, ⟨s1, ((q2.more (fun _ _ _ z => z) (fun _ _ _ z => z.elim)).tr p2 (fun z z1 z2 z3 => by omega) (fun _ _ _ z => Or.inl z)).tr s2 (fun z z1 z2 z3 => by omega) (fun _ _ _ z => Or.inr z), ⟨Nat.le_refl _, by rw [s3, p3]; omega, (u5 (by omega)).trans rx2, by rw [s3, p3]; omega⟩, by rw [s4, p4]; exact q8⟩, ⟨Nat.le_refl _, by rw [s3, p3]; omega⟩, (u1.trans t1).trans q5, (u2.trans t2).trans q6, ?_⟩
  show va_up (va_up (va_up G Θ.1 []) Θ.1 (va_up G Θ.1 [] Θ.1 ++ [c])) Θ.1 (va_up (va_up G Θ.1 []) Θ.1 (va_up G Θ.1 [] Θ.1 ++ [c]) Θ.1 ++ [d]) Θ.1 = [c, d]
  rw [va_up_self, va_up_self, va_up_self]
  rfl
end
