/-! a governor of the class within a beat: what changes, what stays -/
/-- numbers of g (fields fs) and of the sums' object, rows of S, the sums' stack change -/
def BgF (g sm stc : Nat) (fs S : Nat → Prop) (M M' : Mem) : Prop := (mN M' = mN M ∧ mS M' = mS M ∧ mK M' = mK M ∧ mL M' = mL M) ∧ (mJ M' = mJ M ∧ mR M' = mR M ∧ mAR M' = mAR M) ∧ (∀ a, a ≠ g → a ≠ sm → mI M' a = mI M a) ∧ (∀ f, ¬ fs f → mI M' g f = mI M g f) ∧ (∀ f, f ≠ 3 → f ≠ 4 → mI M' sm f = mI M sm f) ∧ (∀ r, ¬ S r → mAI M' r = mAI M r) ∧ ∀ r, r ≠ stc → mAJ M' r = mAJ M r
/-- what a beat asks of governor and plan -/
def BtS (M : Mem) (g c nw nx kp gn wr : Nat) (ks : Nat → Nat) (sm cc stc mx ia I : Nat) (cs : List Int32) (X : List Nd) (pl pb : Nat) (ps : List Nat) (S : Nat) (ro is : List Int32) (len : Nat) : Prop := GvS M g c nw nx kp gn wr ps.length ks ∧ PlS M c sm cc stc mx ia I cs ∧ (mR M c 6 = some pl ∧ ALp M pl pb 5 ps ∧ ps.length ≤ 40) ∧ (∀ j, j < ps.length → PtK M X cs (ps.getD j 0) ∧ (mI M (ps.getD j 0) 3 = 3 → ∃ f, f < is.length ∧ mI M (ps.getD j 0) 4 = Int32.ofNat f) ∧ ∀ f, 9 ≤ f → f ≤ 12 → ∃ a, a < 2 * len ∧ mI M (ps.getD j 0) f = Int32.ofNat a) ∧ ∀ j, j < I → ∃ s, s < S ∧ ro.getD s 0 = 30 ∧ mAI M ia j = Int32.ofNat s
section
variable {g sm stc : Nat} {fs fs' S S' : Nat → Prop} {M M1 M' : Mem}
theorem BgF.rf : BgF g sm stc fs S M M := ⟨⟨rfl, rfl, rfl, rfl⟩, ⟨rfl, rfl, rfl⟩, fun _ _ _ => rfl, fun _ _ => rfl, fun _ _ _ => rfl, fun _ _ => rfl, fun _ _ => rfl⟩
theorem BgF.tr (a : BgF g sm stc fs S M M1) (b : BgF g sm stc fs S M1 M') : BgF g sm stc fs S M M' := by
  obtain ⟨⟨a1, a2, a3, a4⟩, ⟨b1, b2, b3⟩, c1, c2, c3, c4, c5⟩ := a
  obtain ⟨⟨d1, d2, d3, d4⟩, ⟨e1, e2, e3⟩, f1, f2, f3, f4, f5⟩ := b
  exact ⟨⟨d1.trans a1, d2.trans a2, d3.trans a3, d4.trans a4⟩, ⟨e1.trans b1, e2.trans b2, e3.trans b3⟩, fun a z1 z2 => (f1 a z1 z2).trans (c1 a z1 z2), fun f z => (f2 f z).trans (c2 f z), fun f z1 z2 => (f3 f z1 z2).trans (c3 f z1 z2), fun r z => (f4 r z).trans (c4 r z), fun r z => (f5 r z).trans (c5 r z)⟩
theorem BgF.mo (h : BgF g sm stc fs S M M') (h1 : ∀ f, fs f → fs' f) (h2 : ∀ c, S c → S' c) : BgF g sm stc fs' S' M M' := ⟨h.1, h.2.1, h.2.2.1, fun f z => h.2.2.2.1 f (fun y => z (h1 f y)), h.2.2.2.2.1, fun c z => h.2.2.2.2.2.1 c (fun y => z (h2 c y)), h.2.2.2.2.2.2⟩
theorem BgF.wc (hne : g ≠ sm) (k : WcZ sm stc M M') : BgF g sm stc fs S M M' := ⟨k.1, ⟨k.2.1.1, k.2.1.2.1, k.2.1.2.2.2⟩, fun a _ z => k.2.2.1 a z, fun f _ => by rw [k.2.2.1 g hne], fun f z1 z2 => k.2.2.2.1 f z1 z2, fun r _ => by rw [k.2.1.2.2.1], fun r z => k.2.2.2.2 r z⟩
theorem BgF.gm (hne : g ≠ sm) (k : GmF g fs S M M') : BgF g sm stc fs S M M' := ⟨k.1, ⟨k.2.1.1, k.2.1.2.1, k.2.1.2.2.2⟩, fun a z _ => k.2.2.1 a z, fun f z => k.2.2.2.1 f z, fun f _ _ => by rw [k.2.2.1 sm (fun z => hne z.symm)], fun r z => k.2.2.2.2 r z, fun r _ => by rw [k.2.1.2.2.1]⟩
theorem BgF.ar (k : ArF S M M') : BgF g sm stc fs S M M' := ⟨k.1, ⟨k.2.1.2.1, k.2.1.2.2.1, k.2.1.2.2.2.2⟩, fun a _ _ => by rw [k.2.1.1], fun f _ => by rw [k.2.1.1], fun f _ _ => by rw [k.2.1.1], fun r z => k.2.2 r z, fun r _ => by rw [k.2.1.2.2.2.1]⟩
theorem BgF.bw {nx : Nat} (k : BwF g sm stc nx M M') : BgF g sm stc (fun f => f = 9 ∨ f = 12 ∨ f = 13) (fun r => r = nx) M M' := ⟨k.1, k.2.1, k.2.2.1, fun f z => k.2.2.2.1 f (fun y => z (Or.inl y)) (fun y => z (Or.inr (Or.inl y))) (fun y => z (Or.inr (Or.inr y))), k.2.2.2.2.1, k.2.2.2.2.2.1, k.2.2.2.2.2.2⟩
theorem BgF.e (k : BgF g sm stc fs S M M') : mE M M' := ⟨by rw [k.1.1]; exact Nat.le_refl _, by rw [k.1.2.1]; exact Nat.le_refl _, fun a _ => ⟨by rw [k.1.2.2.1], by rw [k.1.2.2.2]⟩⟩
theorem BgF.ok {a q : Nat} (k : BgF g sm stc fs S M M') (o : ok M a q) : ok M' a q := ok_E o k.e
theorem BgF.fr (k : BgF g sm stc fs S M M') : fr (fun c => c = g ∨ c = sm ∨ c = stc ∨ S c) M M' := ⟨k.e, fun c _ hc => ⟨k.2.2.1 c (fun z => hc (Or.inl z)) (fun z => hc (Or.inr (Or.inl z))), by rw [k.2.1.1], by rw [k.2.1.2.1], k.2.2.2.2.2.1 c (fun z => hc (Or.inr (Or.inr (Or.inr z)))), k.2.2.2.2.2.2 c (fun z => hc (Or.inr (Or.inr (Or.inl z)))), by rw [k.2.1.2.2]⟩⟩
variable {c nw nx kp gn wr nP cc mx ia I x lc rc ya na sc a3 b3 Sn : Nat} {ks : Nat → Nat} {cs is ro : List Int32} {X : List Nd} {pl pb len : Nat} {ps : List Nat} {N : Nt} {Y Z : Nat → Int32}
theorem GvS.bg (hS : GvS M g c nw nx kp gn wr nP ks) (k : BgF g sm stc fs S M M') : GvS M' g c nw nx kp gn wr nP ks := by
  obtain ⟨⟨a1, a2, a3, a4, a5, a6, a7⟩, ⟨⟨b1, b2⟩, ⟨b3, b4⟩, ⟨b5, b6⟩, ⟨b7, b8⟩⟩, ⟨c1, c2, c3⟩, d⟩ := hS
  have r := k.2.1.2.1
  have l := k.1.2.2.2
  exact ⟨⟨k.ok a1, by rw [r]; exact a2, by rw [r]; exact a3, by rw [r]; exact a4, by rw [r]; exact a5, by rw [r]; exact a6, by rw [r]; exact a7⟩, ⟨⟨k.ok b1, by rw [l]; exact b2⟩, ⟨k.ok b3, by rw [l]; exact b4⟩, ⟨k.ok b5, by rw [l]; exact b6⟩, ⟨k.ok b7, by rw [l]; exact b8⟩⟩, ⟨k.ok c1, by rw [l]; exact c2, fun i hi => ⟨by rw [k.2.1.2.2]; exact (c3 i hi).1, k.ok (c3 i hi).2.1, by rw [l]; exact (c3 i hi).2.2⟩⟩, d⟩
theorem PlS.bg (hP : PlS M c sm cc stc mx ia I cs) (og : ok M g 4) (n1 : ¬ S cc) (n2 : ¬ S ia) (k : BgF g sm stc fs S M M') : PlS M' c sm cc stc mx ia I cs := by
  obtain ⟨⟨a1, a2, a3, a4, a5⟩, b, ⟨c1, c2⟩, ⟨d1, d2, d3, d4⟩⟩ := hP
  have r := k.2.1.2.1
  have l := k.1.2.2.2
  have ne : c ≠ sm := fun z => by
    have q := b.1.1.2
    rw [← z, a1.2] at q
    exact absurd q (by decide)
  have ng : c ≠ g := fun z => by
    have q := a1.2
    rw [z, og.2] at q
    exact absurd q (by decide)
  obtain ⟨⟨s1, s2, s3, s4, s5, s6, s7, s8⟩, ⟨t1, t2, t3⟩, t4⟩ := b
  exact ⟨⟨k.ok a1, by rw [r]; exact a2, by rw [r]; exact a3, by rw [r]; exact a4, by rw [k.2.2.1 c ng ne]; exact a5⟩, ⟨⟨k.ok s1, by rw [r]; exact s2, k.ok s3, by rw [k.2.2.2.2.1 1 (by decide) (by decide)]; exact s4, by rw [l]; exact s5, by rw [l]; exact s6, by rw [l]; exact s7, fun j hj => by rw [k.2.2.2.2.2.1 cc n1]; exact s8 j hj⟩, ⟨by rw [r]; exact t1, k.ok t2, by rw [l]; exact t3⟩, t4⟩, ⟨k.ok c1, by rw [l]; exact c2⟩, ⟨k.ok d1, by rw [l]; exact d2, d3, fun j hj => by rw [k.2.2.2.2.2.1 ia n2]; exact d4 j hj⟩⟩
theorem SuPt.bg {p f : Nat} (hs : SuPt M X cs p f) (h1 : p ≠ g) (h2 : p ≠ sm) (k : BgF g sm stc fs S M M') : SuPt M' X cs p f := by
  obtain ⟨a, c, pr, po, q1, q2, q3, q4⟩ := hs
  exact ⟨a, c, pr, po, q1, q2, q3, by rw [k.2.2.1 p h1 h2]; exact q4⟩
theorem PtK.nn {p : Nat} (hp : PtK M X cs p) (og : ok M g 4) (os : ok M sm 8) : p ≠ g ∧ p ≠ sm := by
  have o := hp.1
  refine ⟨fun z => ?_, fun z => ?_⟩
  · have w := o.2
    rw [z, og.2] at w
    exact absurd w (by decide)
  · have w := o.2
    rw [z, os.2] at w
    exact absurd w (by decide)
theorem PtK.bg {p : Nat} (hp : PtK M X cs p) (og : ok M g 4) (os : ok M sm 8) (k : BgF g sm stc fs S M M') : PtK M' X cs p := by
  obtain ⟨h1, h2⟩ := hp.nn og os
  obtain ⟨o, q⟩ := hp
  refine ⟨k.ok o, ?_⟩
  rw [k.2.2.1 p h1 h2]
  rcases q with q | ⟨q1, q2, q3⟩ | ⟨q1, q2, q3⟩ | ⟨q1, q2, q3⟩
  · exact Or.inl q
  · exact Or.inr (Or.inl ⟨q1, q2, q3.bg h1 h2 k⟩)
  · exact Or.inr (Or.inr (Or.inl ⟨q1, q2, q3.bg h1 h2 k⟩))
  · exact Or.inr (Or.inr (Or.inr ⟨q1, q2.bg h1 h2 k, q3.bg h1 h2 k⟩))
/-- no cell that changes has this kind -/
theorem bgf_kd {a q : Nat} (og : ok M g 4) (os : ok M sm 8) (o23 : mK M stc = 23) (h21 : ∀ r, S r → mK M r = 21) (e : mK M a = q) (hq : q ≠ 4 ∧ q ≠ 8 ∧ q ≠ 23 ∧ q ≠ 21) : ¬ (a = g ∨ a = sm ∨ a = stc ∨ S a) := by
  rintro (z | z | z | z)
  · rw [z, og.2] at e; exact hq.1 e.symm
  · rw [z, os.2] at e; exact hq.2.1 e.symm
  · rw [z, o23] at e; exact hq.2.2.1 e.symm
  · rw [h21 a z] at e; exact hq.2.2.2 e.symm
theorem ALp.bg {a b ci : Nat} {l : List Nat} (hA : ALp M a b ci l) (og : ok M g 4) (os : ok M sm 8) (o23 : mK M stc = 23) (h21 : ∀ r, S r → mK M r = 21) (k : BgF g sm stc fs S M M') : ALp M' a b ci l := hA.fr k.fr (bgf_kd og os o23 h21 hA.1.2 ⟨by decide, by decide, by decide, by decide⟩) (fun e => bgf_kd og os o23 h21 e ⟨by decide, by decide, by decide, by decide⟩)
theorem ALi.bg {a b : Nat} {xs : List Int32} (hA : ALi M a b xs) (og : ok M g 4) (os : ok M sm 8) (o23 : mK M stc = 23) (h21 : ∀ r, S r → mK M r = 21) (k : BgF g sm stc fs S M M') : ALi M' a b xs := hA.fr k.fr (bgf_kd og os o23 h21 hA.ok1.2 ⟨by decide, by decide, by decide, by decide⟩) (fun e => bgf_kd og os o23 h21 e ⟨by decide, by decide, by decide, by decide⟩) (fun a _ z e => bgf_kd og os o23 h21 e ⟨by decide, by decide, by decide, by decide⟩ z)
theorem BtS.bg (hB : BtS M g c nw nx kp gn wr ks sm cc stc mx ia I cs X pl pb ps Sn ro is len) (h21 : ∀ r, S r → mK M r = 21) (n1 : ¬ S cc) (n2 : ¬ S ia) (k : BgF g sm stc fs S M M') : BtS M' g c nw nx kp gn wr ks sm cc stc mx ia I cs X pl pb ps Sn ro is len := by
  obtain ⟨hS, hP, ⟨p1, p2, p3⟩, hp, hi⟩ := hB
  have og := hS.1.1
  have os := hP.2.1.1.1
  have o23 := hP.2.1.2.1.2.1.2
  refine ⟨hS.bg k, hP.bg og n1 n2 k, ⟨by rw [k.2.1.2.1]; exact p1, p2.bg og os o23 h21 k, p3⟩, fun j hj => ?_, fun j hj => by rw [k.2.2.2.2.2.1 ia n2]; exact hi j hj⟩
  obtain ⟨q1, q2, q3⟩ := hp j hj
  obtain ⟨e1, e2⟩ := q1.nn og os
  exact ⟨q1.bg og os k, by rw [k.2.2.1 _ e1 e2]; exact q2, by rw [k.2.2.1 _ e1 e2]; exact q3⟩
theorem CrL.bg (hL : CrL M x lc rc ya na N Y Z) (og : ok M g 4) (os : ok M sm 8) (hn : ∀ r, S r → r ≠ lc ∧ r ≠ rc ∧ r ≠ ya ∧ r ≠ na) (k : BgF g sm stc fs S M M') : CrL M' x lc rc ya na N Y Z := by
  obtain ⟨⟨o1, c1, o2, c2, o3, i1, q, v, r⟩, ⟨a1, a2, a3, a4⟩, ⟨b1, b2, b3, b4⟩, ⟨e1, e2⟩, t⟩ := hL
  have xg : x ≠ g := fun z => by
    have := o1.2
    rw [z, og.2] at this
    exact absurd this (by decide)
  have xs : x ≠ sm := fun z => by
    have := o1.2
    rw [z, os.2] at this
    exact absurd this (by decide)
  have l := k.1.2.2.2
  have rr := k.2.1.2.1
  have row : ∀ {r : Nat}, (r = lc ∨ r = rc ∨ r = ya ∨ r = na) → mAI M' r = mAI M r := fun {r} z => k.2.2.2.2.2.1 r (fun y => by
    obtain ⟨y1, y2, y3, y4⟩ := hn r y
    rcases z with z | z | z | z
    · exact y1 z
    · exact y2 z
    · exact y3 z
    · exact y4 z)
  exact ⟨⟨k.ok o1, by rw [rr]; exact c1, k.ok o2, by rw [rr]; exact c2, k.ok o3, by rw [k.2.2.1 x xg xs]; exact i1, by rw [l]; exact q, by rw [row (Or.inl rfl), row (Or.inr (Or.inl rfl))]; exact v, r⟩, ⟨by rw [rr]; exact a1, k.ok a2, by rw [l]; exact a3, by rw [l]; exact a4⟩, ⟨by rw [rr]; exact b1, k.ok b2, by rw [l]; exact b3, by rw [l]; exact b4⟩, ⟨by rw [row (Or.inr (Or.inr (Or.inl rfl)))]; exact e1, by rw [row (Or.inr (Or.inr (Or.inr rfl)))]; exact e2⟩, t⟩
theorem CtL.bg (hL : CtL M x lc rc ya na sc a3 b3 Sn is N Y Z) (og : ok M g 4) (os : ok M sm 8) (o23 : mK M stc = 23) (h21 : ∀ r, S r → mK M r = 21) (hn : ∀ r, S r → r ≠ lc ∧ r ≠ rc ∧ r ≠ ya ∧ r ≠ na) (ns : ¬ S sc) (k : BgF g sm stc fs S M M') : CtL M' x lc rc ya na sc a3 b3 Sn is N Y Z := by
  obtain ⟨c, ⟨s1, s2, s3, s4, s5⟩, ⟨t1, t2, t3⟩⟩ := hL
  have rr := k.2.1.2.1
  exact ⟨c.bg og os hn k, ⟨by rw [rr]; exact s1, k.ok s2, by rw [k.1.2.2.2]; exact s3, by rw [k.2.2.2.2.2.1 sc ns]; exact s4, s5⟩, ⟨by rw [rr]; exact t1, t2.bg og os o23 h21 k, t3⟩⟩
end
