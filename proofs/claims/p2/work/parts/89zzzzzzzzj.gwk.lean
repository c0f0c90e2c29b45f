/-! a governor of the class works its parts -/
/-- the plan c of a governor: its sums, how signals mix, its inputs -/
def PlS (M : Mem) (c sm cc stc mx ia I : Nat) (cs : List Int32) : Prop := (ok M c 3 ∧ mR M c 8 = some sm ∧ mR M c 2 = some mx ∧ mR M c 3 = some ia ∧ mI M c 10 = Int32.ofNat I) ∧ SmO M sm cc stc cs ∧ (ok M mx 21 ∧ mL M mx = 16) ∧ (ok M ia 21 ∧ mL M ia = 4 ∧ I ≤ 4 ∧ ∀ j, j < I → ∃ s, s < 16 ∧ mAI M ia j = Int32.ofNat s)
/-- a sum of the plan, as field f of part p names it -/
def SuPt (M : Mem) (X : List Nd) (cs : List Int32) (p f : Nat) : Prop := ∃ a c pr po, (a ≤ c ∧ c < X.length) ∧ GdS X 40 (c + 1 - a) a [] [c] ∧ cs = pr ++ (cdL ((X.drop a).take (c + 1 - a)) ++ 0 :: po) ∧ mI M p f = Int32.ofNat pr.length
/-- what the beat may ask of part p: 0 idle, 1 emit, 2 assign, 3 if -/
def PtK (M : Mem) (X : List Nd) (cs : List Int32) (p : Nat) : Prop := ok M p 5 ∧ (mI M p 3 = 0 ∨ (mI M p 3 = 1 ∧ (∃ s, s < 16 ∧ mI M p 4 = Int32.ofNat s) ∧ SuPt M X cs p 5) ∨ (mI M p 3 = 2 ∧ (∃ v, v < 6 ∧ mI M p 4 = Int32.ofNat v) ∧ SuPt M X cs p 5) ∨ (mI M p 3 = 3 ∧ SuPt M X cs p 5 ∧ SuPt M X cs p 6))
section
variable {M M1 M' : Mem} {g c nw nx kp gn wr nP sm cc stc mx ia I h p : Nat} {ks : Nat → Nat} {cs : List Int32} {X : List Nd} {Q : Option Value → Mem → Prop}
theorem RwI.og {rw0 : Nat} (h : RoG M rw0) (o : ok M rw0 21) (l : mL M rw0 = 26) : RwI M rw0 (fun v => (mAI M rw0 (20 + v)).toInt64) (fun v => (mAI M rw0 (4 + v)).toInt64) := ⟨⟨o, l⟩, fun v hv => ⟨rfl, h (20 + v) (by omega) (by omega)⟩, fun v hv => ⟨rfl, h (4 + v) (by omega) (by omega)⟩⟩
theorem GvS.wc (hS : GvS M g c nw nx kp gn wr nP ks) (k : WcZ sm stc M M') : GvS M' g c nw nx kp gn wr nP ks := by
  obtain ⟨⟨a1, a2, a3, a4, a5, a6, a7⟩, ⟨⟨b1, b2⟩, ⟨b3, b4⟩, ⟨b5, b6⟩, ⟨b7, b8⟩⟩, ⟨c1, c2, c3⟩, d⟩ := hS
  have r := k.2.1.2.1
  have l := k.1.2.2.2
  exact ⟨⟨k.ok a1, by rw [r]; exact a2, by rw [r]; exact a3, by rw [r]; exact a4, by rw [r]; exact a5, by rw [r]; exact a6, by rw [r]; exact a7⟩, ⟨⟨k.ok b1, by rw [l]; exact b2⟩, ⟨k.ok b3, by rw [l]; exact b4⟩, ⟨k.ok b5, by rw [l]; exact b6⟩, ⟨k.ok b7, by rw [l]; exact b8⟩⟩, ⟨k.ok c1, by rw [l]; exact c2, fun i hi => ⟨by rw [k.2.1.2.2.2]; exact (c3 i hi).1, k.ok (c3 i hi).2.1, by rw [l]; exact (c3 i hi).2.2⟩⟩, d⟩
theorem PlS.wc (hP : PlS M c sm cc stc mx ia I cs) (k : WcZ sm stc M M') : PlS M' c sm cc stc mx ia I cs := by
  obtain ⟨⟨a1, a2, a3, a4, a5⟩, b, ⟨c1, c2⟩, ⟨d1, d2, d3, d4⟩⟩ := hP
  have r := k.2.1.2.1
  have l := k.1.2.2.2
  have ne : c ≠ sm := fun z => by
    have o := b.1.1.2
    rw [← z, a1.2] at o
    exact absurd o (by decide)
  exact ⟨⟨k.ok a1, by rw [r]; exact a2, by rw [r]; exact a3, by rw [r]; exact a4, by rw [k.2.2.1 c ne]; exact a5⟩, b.wc k, ⟨k.ok c1, by rw [l]; exact c2⟩, ⟨k.ok d1, by rw [l]; exact d2, d3, fun j hj => by rw [k.2.1.2.2.1]; exact d4 j hj⟩⟩
theorem RoG.wc {r : Nat} (hR : RoG M r) (k : WcZ sm stc M M') : RoG M' r := hR.k (by rw [k.2.1.2.2.1])
theorem SuPt.wc {f : Nat} (hs : SuPt M X cs p f) (hp : p ≠ sm) (k : WcZ sm stc M M') : SuPt M' X cs p f := by
  obtain ⟨a, c, pr, po, h1, h2, h3, h4⟩ := hs
  exact ⟨a, c, pr, po, h1, h2, h3, by rw [k.2.2.1 p hp]; exact h4⟩
theorem S_so6 {a x y : Int32} (K : ∀ r : Int32, r = 0 ∨ r = 1 → Q (some (.int r)) M) : E (h + 1) mdX6_isSo [.int a, .int x, .int y] M Q := by
  refine KX6_isSo ?_
  unfold DX6_isSo_0 DX6_isSo_46 DX6_isSo_57 DX6_isSo_68 DX6_isSo_79 DX6_isSo_90 DX6_isSo_101
  have z : ((0 : Int32) = 0 ∨ (0 : Int32) = 1) ∧ Q (some (.int 0)) M := ⟨Or.inl rfl, K 0 (Or.inl rfl)⟩
  have o : ((1 : Int32) = 0 ∨ (1 : Int32) = 1) ∧ Q (some (.int 1)) M := ⟨Or.inr rfl, K 1 (Or.inr rfl)⟩
  exact ⟨fun _ => ⟨fun _ => z, fun _ => o⟩, fun _ => ⟨fun _ => z, fun _ => o⟩, fun _ => ⟨fun _ => z, fun _ => o⟩, fun _ => ⟨fun _ => z, fun _ => o⟩, fun _ => ⟨fun _ => z, fun _ => o⟩, fun _ => ⟨fun _ => z, fun _ => o⟩⟩
/-- a sum is worked over row rw0 -/
theorem S_wk0 {rw0 f : Nat} (hl : X.length ≤ 810) (hP : PlS M c sm cc stc mx ia I cs) (hr : RoG M rw0) (o : ok M rw0 21) (l : mL M rw0 = 26) (hs : SuPt M X cs p f) (K : ∀ M' (r : Int32), WcZ sm stc M M' → InG r.toInt64 → Q (some (.int r)) M') : E (h + 4) mdX6_work [.ref sm, .int (mI M p f), .ref rw0] M Q := by
  obtain ⟨a, e, pr, po, h1, h2, h3, h4⟩ := hs
  rw [h4]
  refine S_work hl h1 h2 h3 hP.2.1 (RwI.og hr o l) (fun M' k _ hG => K M' _ k ?_)
  have t := hG.t
  refine InG.o ?_ ?_
  · rw [Int32.toInt_toInt64, Int64.toInt_toInt32, Int.bmod_eq_of_le (by omega) (by omega)]; exact t.1
  · rw [Int32.toInt_toInt64, Int64.toInt_toInt32, Int.bmod_eq_of_le (by omega) (by omega)]; exact t.2
theorem S_isSo (hl : X.length ≤ 810) (hS : GvS M g c nw nx kp gn wr nP ks) (hP : PlS M c sm cc stc mx ia I cs) (hr : RoG M nw) (op : ok M p 5) (s5 : SuPt M X cs p 5) (s6 : SuPt M X cs p 6) (K : ∀ M' (r : Int32), WcZ sm stc M M' → r = 0 ∨ r = 1 → Q (some (.int r)) M') : E (h + 5) mdX2_isSo [.ref g, .ref p] M Q := by
  have np : p ≠ sm := fun z => by
    have o := hP.2.1.1.1.2
    rw [← z, op.2] at o
    exact absurd o (by decide)
  refine KX2_isSo (h := h + 4) ?_
  unfold DX2_isSo_0 DX2_isSo_82 DX2_isSo_83
  refine ⟨hS.1.1, c, hS.1.2.1, hP.1.1, sm, hP.1.2.1, op, nw, hS.1.2.2.1, hP.2.1.1.1, S_wk0 (h := h) hl hP hr hS.2.1.1.1 hS.2.1.1.2 s5 (fun M8 r8 k8 _ _ => ⟨r8, rfl, ?_⟩)⟩
  have S8 := hS.wc k8
  have P8 := hP.wc k8
  refine ⟨c, S8.1.2.1, P8.1.1, sm, P8.1.2.1, P8.2.1.1.1, fun _ => ⟨c, S8.1.2.1, P8.1.1, sm, P8.1.2.1, nw, S8.1.2.2.1, P8.2.1.1.1, S_wk0 (h := h) hl P8 (hr.wc k8) S8.2.1.1.1 S8.2.1.1.2 (s6.wc np k8) (fun M19 r19 k19 _ _ => ⟨r19, rfl, ?_⟩)⟩, fun _ => ⟨Or.inl rfl, K M8 0 k8 (Or.inl rfl)⟩⟩
  have S19 := S8.wc k19
  have P19 := P8.wc k19
  have kk := k8.tr k19
  refine ⟨c, S19.1.2.1, P19.1.1, sm, P19.1.2.1, P19.2.1.1.1, fun _ => ⟨Or.inl rfl, K M19 0 kk (Or.inl rfl)⟩, fun _ => S_so6 (h := h + 3) (fun r hr2 _ => ⟨r, rfl, fun _ => ⟨Or.inl rfl, K M19 0 kk (Or.inl rfl)⟩, fun _ => ⟨Or.inr rfl, K M19 1 kk (Or.inr rfl)⟩⟩)⟩
/-- what a beat's work changes: numbers of the governor and of the sums' object, row nx, the sums' stack -/
def BwF (g sm stc nx : Nat) (M M' : Mem) : Prop := (mN M' = mN M ∧ mS M' = mS M ∧ mK M' = mK M ∧ mL M' = mL M) ∧ (mJ M' = mJ M ∧ mR M' = mR M ∧ mAR M' = mAR M) ∧ (∀ a, a ≠ g → a ≠ sm → mI M' a = mI M a) ∧ (∀ f, f ≠ 9 → f ≠ 12 → f ≠ 13 → mI M' g f = mI M g f) ∧ (∀ f, f ≠ 3 → f ≠ 4 → mI M' sm f = mI M sm f) ∧ (∀ r, r ≠ nx → mAI M' r = mAI M r) ∧ ∀ r, r ≠ stc → mAJ M' r = mAJ M r
theorem BwF.rf : BwF g sm stc nx M M := ⟨⟨rfl, rfl, rfl, rfl⟩, ⟨rfl, rfl, rfl⟩, fun _ _ _ => rfl, fun _ _ _ _ => rfl, fun _ _ _ => rfl, fun _ _ => rfl, fun _ _ => rfl⟩
theorem BwF.tr (a : BwF g sm stc nx M M1) (b : BwF g sm stc nx M1 M') : BwF g sm stc nx M M' := by
  obtain ⟨⟨a1, a2, a3, a4⟩, ⟨b1, b2, b3⟩, c1, c2, c3, c4, c5⟩ := a
  obtain ⟨⟨d1, d2, d3, d4⟩, ⟨e1, e2, e3⟩, f1, f2, f3, f4, f5⟩ := b
  exact ⟨⟨d1.trans a1, d2.trans a2, d3.trans a3, d4.trans a4⟩, ⟨e1.trans b1, e2.trans b2, e3.trans b3⟩, fun a z1 z2 => (f1 a z1 z2).trans (c1 a z1 z2), fun f z1 z2 z3 => (f2 f z1 z2 z3).trans (c2 f z1 z2 z3), fun f z1 z2 => (f3 f z1 z2).trans (c3 f z1 z2), fun r z => (f4 r z).trans (c4 r z), fun r z => (f5 r z).trans (c5 r z)⟩
theorem BwF.wc (hne : g ≠ sm) (k : WcZ sm stc M M') : BwF g sm stc nx M M' := ⟨k.1, ⟨k.2.1.1, k.2.1.2.1, k.2.1.2.2.2⟩, fun a _ z => k.2.2.1 a z, fun f _ _ _ => by rw [k.2.2.1 g hne], fun f z1 z2 => k.2.2.2.1 f z1 z2, fun r _ => by rw [k.2.1.2.2.1], fun r z => k.2.2.2.2 r z⟩
theorem BwF.gm (hne : g ≠ sm) (k : GmF g (fun f => f = 9 ∨ f = 12 ∨ f = 13) (fun r => r = nx) M M') : BwF g sm stc nx M M' := ⟨k.1, ⟨k.2.1.1, k.2.1.2.1, k.2.1.2.2.2⟩, fun a z _ => k.2.2.1 a z, fun f z1 z2 z3 => k.2.2.2.1 f (by omega), fun f _ _ => by rw [k.2.2.1 sm (fun z => hne z.symm)], fun r z => k.2.2.2.2 r z, fun r _ => by rw [k.2.1.2.2.1]⟩
theorem BwF.e (k : BwF g sm stc nx M M') : mE M M' := ⟨by rw [k.1.1]; exact Nat.le_refl _, by rw [k.1.2.1]; exact Nat.le_refl _, fun a _ => ⟨by rw [k.1.2.2.1], by rw [k.1.2.2.2]⟩⟩
theorem GvS.bw (hS : GvS M g c nw nx kp gn wr nP ks) (k : BwF g sm stc nx M M') : GvS M' g c nw nx kp gn wr nP ks := by
  obtain ⟨⟨a1, a2, a3, a4, a5, a6, a7⟩, ⟨⟨b1, b2⟩, ⟨b3, b4⟩, ⟨b5, b6⟩, ⟨b7, b8⟩⟩, ⟨c1, c2, c3⟩, d⟩ := hS
  have r := k.2.1.2.1
  have l := k.1.2.2.2
  have o : ∀ {a q : Nat}, ok M a q → ok M' a q := fun z => ok_E z k.e
  exact ⟨⟨o a1, by rw [r]; exact a2, by rw [r]; exact a3, by rw [r]; exact a4, by rw [r]; exact a5, by rw [r]; exact a6, by rw [r]; exact a7⟩, ⟨⟨o b1, by rw [l]; exact b2⟩, ⟨o b3, by rw [l]; exact b4⟩, ⟨o b5, by rw [l]; exact b6⟩, ⟨o b7, by rw [l]; exact b8⟩⟩, ⟨o c1, by rw [l]; exact c2, fun i hi => ⟨by rw [k.2.1.2.2]; exact (c3 i hi).1, o (c3 i hi).2.1, by rw [l]; exact (c3 i hi).2.2⟩⟩, d⟩
theorem PlS.bw (hP : PlS M c sm cc stc mx ia I cs) (og : ok M g 4) (n1 : nx ≠ cc) (n2 : nx ≠ ia) (k : BwF g sm stc nx M M') : PlS M' c sm cc stc mx ia I cs := by
  obtain ⟨⟨a1, a2, a3, a4, a5⟩, b, ⟨c1, c2⟩, ⟨d1, d2, d3, d4⟩⟩ := hP
  have r := k.2.1.2.1
  have l := k.1.2.2.2
  have o : ∀ {a q : Nat}, ok M a q → ok M' a q := fun z => ok_E z k.e
  have ne : c ≠ sm := fun z => by
    have q := b.1.1.2
    rw [← z, a1.2] at q
    exact absurd q (by decide)
  have ng : c ≠ g := fun z => by
    have q := a1.2
    rw [z, og.2] at q
    exact absurd q (by decide)
  obtain ⟨⟨s1, s2, s3, s4, s5, s6, s7, s8⟩, ⟨t1, t2, t3⟩, t4⟩ := b
  exact ⟨⟨o a1, by rw [r]; exact a2, by rw [r]; exact a3, by rw [r]; exact a4, by rw [k.2.2.1 c ng ne]; exact a5⟩, ⟨⟨o s1, by rw [r]; exact s2, o s3, by rw [k.2.2.2.2.1 1 (by decide) (by decide)]; exact s4, by rw [l]; exact s5, by rw [l]; exact s6, by rw [l]; exact s7, fun j hj => by rw [k.2.2.2.2.2.1 cc (fun z => n1 z.symm)]; exact s8 j hj⟩, ⟨by rw [r]; exact t1, o t2, by rw [l]; exact t3⟩, t4⟩, ⟨o c1, by rw [l]; exact c2⟩, ⟨o d1, by rw [l]; exact d2, d3, fun j hj => by rw [k.2.2.2.2.2.1 ia (fun z => n2 z.symm)]; exact d4 j hj⟩⟩
theorem SuPt.bw {f : Nat} (hs : SuPt M X cs p f) (h1 : p ≠ g) (h2 : p ≠ sm) (k : BwF g sm stc nx M M') : SuPt M' X cs p f := by
  obtain ⟨a, c, pr, po, q1, q2, q3, q4⟩ := hs
  exact ⟨a, c, pr, po, q1, q2, q3, by rw [k.2.2.1 p h1 h2]; exact q4⟩
theorem PtK.bw (hp : PtK M X cs p) (og : ok M g 4) (os : ok M sm 8) (k : BwF g sm stc nx M M') : PtK M' X cs p := by
  obtain ⟨o, q⟩ := hp
  have h1 : p ≠ g := fun z => by
    have w := o.2
    rw [z, og.2] at w
    exact absurd w (by decide)
  have h2 : p ≠ sm := fun z => by
    have w := o.2
    rw [z, os.2] at w
    exact absurd w (by decide)
  refine ⟨ok_E o k.e, ?_⟩
  rw [k.2.2.1 p h1 h2]
  rcases q with q | ⟨q1, q2, q3⟩ | ⟨q1, q2, q3⟩ | ⟨q1, q2, q3⟩
  · exact Or.inl q
  · exact Or.inr (Or.inl ⟨q1, q2, q3.bw h1 h2 k⟩)
  · exact Or.inr (Or.inr (Or.inl ⟨q1, q2, q3.bw h1 h2 k⟩))
  · exact Or.inr (Or.inr (Or.inr ⟨q1, q2.bw h1 h2 k, q3.bw h1 h2 k⟩))
end
