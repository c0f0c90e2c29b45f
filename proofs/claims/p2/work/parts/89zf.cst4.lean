/-! the class reads parts: a new part; the state with its tokens -/
section
variable {n0 : Nat} {τ : Td} {M0 M M1 M' : Mem} {γ : ClT} {cn cn' : Nat → Nat} {ps : List Nat} {tl tl' : List Int64} {lc rc cc pb ib lc' rc' cc' pb' ib' : Nat} {W : Nat}
theorem CQh.new {v : Int32} (h : CQh n0 τ M0 M γ cn ps tl lc rc cc pb ib) (hN : γ.2.2.1.length ≤ 90000) (hl : γ.2.2.2.2.2.1.length ≤ 90000) (hc : cn 0 < 40) (e1 : M1 = wI (nwO M 5 13) (mN M) 0 v) (k : ALF M1 M' (n0 + 7) pb pb' ps.length) (hA : ALp M' (n0 + 7) pb' 5 (ps ++ [mN M])) : CQh n0 τ M0 M' (va_up γ.1 ps.length (fun f => if f = 0 then v else 0), γ.2) (va_up cn 0 (ps.length + 1)) (ps ++ [mN M]) tl lc rc cc pb' ib := by
  have big := h.big (by omega) (by omega)
  obtain ⟨q1, q2, q3, q4, q5, ol, or, oc, o0, o8, o22, -⟩ := h.lim
  have nE1 : mN M1 = mN M + 1 := by rw [e1]; rfl
  have sE1 : mS M1 = mS M + 13 := by rw [e1]; rfl
  have k1E : ∀ c, c < mN M → mK M1 c = mK M c := fun c hc => by rw [e1]; exact va_up_ne _ _ (Nat.ne_of_lt hc)
  have f1 : ∀ S : Nat → Prop, fr S M M1 := fun S => by
    rw [e1]
    exact (fr_nwO (S := S)).tr (fr_wI (S := fun c => c = mN M) rfl) (fun a ha z => by omega)
  have k1 := k.1
  have kf : fr (fun c => c = n0 + 7 ∨ (c = pb ∧ mK M c = 24)) M M' := (f1 _).tr k1 (fun a ha z => by rw [k1E a ha] at z; exact z)
  obtain ⟨h1, h2, ⟨t1, t2, t3, t4, t5⟩, ⟨l1, l2, l3, l4, l5, l6⟩, ⟨r1, r2, r3, r4, r5, r6⟩, h6, h7, h8, h9⟩ := id h
  have o7 := l1.1
  have o15 : ok M (n0 + 15) 1 := by obtain ⟨l, q, -⟩ := l2; exact q.1
  have npb : ∀ c, c < n0 + 25 → c ≠ pb := fun c _ => by omega
  have lim2 : ∀ c, c < mN M → (c = n0 + 7 ∨ (c = pb ∧ mK M c = 24)) → (4 ≤ c ∧ c ≤ 15) ∨ c = 20 ∨ c = n0 ∨ c = n0 + 7 ∨ c = n0 + 8 ∨ c = n0 + 9 ∨ c = n0 + 10 ∨ c = n0 + 15 ∨ c = n0 + 16 ∨ c = n0 + 22 ∨ c = n0 + 23 ∨ n0 + 25 ≤ c := by
    intro c zl z
    rcases z with z | z
    · omega
    · omega
  have nl : 132 ≤ lc ∧ 132 ≤ rc ∧ 132 ≤ cc := by omega
  clear q3 q4 q5
  have rlo : ∀ c, c < n0 + 25 → c ≠ n0 + 7 → sameRow M M' c := fun c z z1 => kf.2 c (by omega) (by rintro (y | y) <;> first | exact z1 y | exact npb c z y.1)
  have kk : ∀ c q, mK M c = q → (c = n0 + 7 ∨ (c = pb ∧ mK M c = 24)) → q = 1 ∨ (c = pb ∧ q = 24) := by
    intro c q e z
    rcases z with z | z
    · rw [z, o7.2] at e; exact Or.inl e.symm
    · exact Or.inr ⟨z.1, by rw [← e]; exact z.2⟩
  have r4' := rlo 4 (by omega) (by omega)
  have r14 := rlo 14 (by omega) (by omega)
  have r20 := rlo 20 (by omega) (by omega)
  have r0 := rlo n0 (by omega) (by omega)
  have r8 := rlo (n0 + 8) (by omega) (by omega)
  have r22 := rlo (n0 + 22) (by omega) (by omega)
  have hi : ∀ c q, ok M c q → q ≠ 1 → q ≠ 24 → sameRow M M' c := fun c q z1 z2 z3 => kf.2 c z1.1 (fun y => by
    rcases kk c q z1.2 y with w | w
    · exact z2 w
    · exact z3 w.2)
  have eS := h9.1
  have lps : (ps ++ [mN M]).length = ps.length + 1 := by rw [List.length_append]; rfl
  have c1 := h1.fr kf.1 (fun c z => by
    rcases z with z | z | z | z | z | z
    · exact rlo c (by omega) (by omega)
    · exact rlo c (by omega) (by omega)
    · exact rlo c (by omega) (by omega)
    · exact rlo c (by omega) (by omega)
    · rw [z]; exact hi _ 21 ol (by decide) (by decide)
    · rw [z]; exact hi _ 21 or (by decide) (by decide)) r14.2.2.1
  have el := (kf.1.2.2 _ ol.1).2
  have ec := (kf.1.2.2 _ oc.1).2
  have sp : SumP M' (n0 + 22) cc γ.2.2.2.2.2.1 := h2.1.fr kf.1 r22 (hi _ 21 oc (by decide) (by decide))
  have tp : TrP M' γ.2.1 := ⟨by rw [r4'.1]; exact t1, by rw [r4'.1]; exact t2, t3, fun c z1 z2 => by rw [(rlo c (by omega) (by omega)).2.2.2.1]; exact t4 c z1 z2, t5⟩
  have pt : PtR n0 M' (ps ++ [mN M]) (va_up γ.1 ps.length (fun f => if f = 0 then v else 0)) := by
    refine ⟨fun j hj => ?_, fun i j hi hj => ?_⟩
    · rw [lps] at hj
      rw [getD_apN hj]
      by_cases z : j = ps.length
      · rw [if_pos z, z]
        have oq : ok M1 (mN M) 5 := ⟨by omega, by rw [e1]; exact va_up_self _ _ _⟩
        have rq := k1.2 (mN M) (by omega) (fun y => by
          rcases y with y | y
          · have := o7.1; omega
          · rw [oq.2] at y; exact absurd y.2 (by decide))
        refine ⟨ok_E oq k1.1, by omega, fun f hf => ?_⟩
        rw [rq.1, e1, mI_wI, va_up_self]
        by_cases w : f = 0
        · rw [if_pos ⟨rfl, w⟩, if_pos w]
        · rw [if_neg (fun y => w y.2), if_neg w]
          show va_up (mI M) (mN M) (fun _ => 0) (mN M) f = 0
          rw [va_up_self]
      · rw [if_neg z]
        obtain ⟨a1, a2, a3⟩ := l6.1 j (by omega)
        have rq := hi _ 5 a1 (by decide) (by decide)
        refine ⟨ok_E a1 kf.1, a2, fun f hf => ?_⟩
        rw [rq.1, va_up_ne _ _ z]
        exact a3 f hf
    · rw [lps] at hi hj
      rw [getD_apN hi, getD_apN hj]
      by_cases z : i = ps.length <;> by_cases w : j = ps.length
      · intro _; omega
      · rw [if_pos z, if_neg w]
        intro y
        have := (l6.1 j (by omega)).1.1
        omega
      · rw [if_neg z, if_pos w]
        intro y
        have := (l6.1 i (by omega)).1.1
        omega
      · rw [if_neg z, if_neg w]
        exact l6.2 i j (by omega) (by omega)
  have lp : LPt n0 M' (ps ++ [mN M]) (va_up γ.1 ps.length (fun f => if f = 0 then v else 0)) γ.2.2.2.2.1 pb' ib := by
    refine ⟨hA, ali_fr3 l2 kf (fun y => ?_) (fun o24 y => ?_) (fun c _ y e => ?_), ?_, l4, fun y => ?_, pt⟩
    · rcases y with y | y
      · omega
      · exact npb _ (by omega) y.1
    · have kb := o24.1
      rcases kk _ _ o24.2 y with w | w
      · exact absurd w (by decide)
      · have := l5 w.1.symm
        rw [w.1] at kb
        clear l3 l4
        omega
    · rcases kk _ _ e y with w | w
      · exact absurd w (by decide)
      · exact absurd w.2 (by decide)
    · rcases k.2.2.2.2.1 with z | z
      · rw [z]; exact l3
      · right; clear l3 l4; omega
    · rcases k.2.2.2.2.1 with z | z
      · exact z.trans (l5 (z.symm.trans y))
      · obtain ⟨l, ⟨-, -, -, -, -, hb⟩, -⟩ := l2
        rcases hb with w | w
        · exact y.trans w.1
        · have := w.1.1; clear l3 l4; omega
  clear l3 l4
  refine ⟨c1, ⟨sp, h2.2⟩, tp, lp, ⟨by rw [r14.1, r20.2.2.2.2.1]; exact r1, by rw [r14.1]; exact r2, by rw [r14.1]; exact r3, by rw [r14.1]; exact r4, by rw [r0.1]; exact r5, by rw [r0.1]; exact r6⟩, h6.tr ⟨kf.more lim2, fun f _ _ => by rw [r0.1], r0.2.2.1, fun f _ => by rw [r8.1], fun f _ _ => by rw [r8.2.2.1], fun f _ => by rw [r22.1], fun f _ => by rw [r22.2.2.1], r14.2.2.1⟩, ⟨?_, ?_, h7.2.2⟩, by rw [r0.2.2.1, r8.2.2.1]; exact h8, ?_, ?_, h9.2.2⟩
  · have := h7.1
    have := k.2.2.2.2.2.1
    rw [lps]
    show mN M' ≤ mN M0 + 2 * γ.2.2.1.length + γ.2.2.2.2.2.1.length + 3 * (ps.length + 1) + 4 * γ.2.2.2.2.1.length
    omega
  · have := h7.2.1
    have := k.2.2.2.2.2.2
    rw [lps, el, ec]
    show mS M' ≤ mS M0 + 4 * mL M lc + 2 * mL M cc + (12 * γ.2.2.2.2.1.length + γ.2.2.2.2.1.length * γ.2.2.2.2.1.length) + (24 * (ps.length + 1) + (ps.length + 1) * (ps.length + 1))
    rw [sq_1]
    omega
  · rw [lps]; rfl
  · show ps.length + 1 ≤ 40; omega
end
/-- the state at the i-th token, o opened; and behind a fault (t nodes at least in the tree) -/
def CS (b : Nat → Int32) (n s n0 : Nat) (τ : Td) (M0 M : Mem) (i o : Nat) (γ : ClT) (cn : Nat → Nat) (ps : List Nat) (tl : List Int64) : Prop := TI b n s M i o ∧ CQ n0 τ M0 M γ cn ps tl ∧ γ.2.2.1.length ≤ 18 + i ∧ γ.2.2.2.2.2.1.length ≤ 3 * i ∧ γ.2.2.2.2.1.length ≤ cn 2 ∧ cn 2 ≤ 40
def CX (n0 : Nat) (τ : Td) (M0 : Mem) (W B : Nat) (M : Mem) (f : Int32) (p : Nat) (ps : List Nat) (tl : List Int64) (t : Nat) : Prop := TF M f p ∧ ∃ γ cn, CQ n0 τ M0 M γ cn ps tl ∧ γ.2.2.1.length ≤ W + B ∧ γ.2.2.2.2.2.1.length ≤ 4 * W + B ∧ t ≤ γ.2.1.1 ∧ γ.2.2.2.2.1.length ≤ 45 + B ∧ W ≤ 900
section
variable {b : Nat → Int32} {n s n0 : Nat} {τ : Td} {M0 M M' : Mem} {i o i' o' : Nat} {γ : ClT} {cn cn' : Nat → Nat} {ps : List Nat} {tl : List Int64} {f : Int32} {p t t' B B' : Nat} {W : Nat}
theorem CS.len (h : CS b n s n0 τ M0 M i o γ cn ps tl) : n ≤ 800 ∧ s ≤ n ∧ i ≤ s ∧ ps.length = cn 0 ∧ cn 0 ≤ 40 := ⟨h.1.2.1.1, h.1.2.1.2.1, h.1.2.1.2.2, h.2.1.len.1, h.2.1.len.2.1⟩
theorem CS.x (h : CS b n s n0 τ M0 M i o γ cn ps tl) (k : TFr M M') (hT : TF M' f p) : CX n0 τ M0 (s + 70) B M' f p ps tl γ.2.1.1 := by
  have := h.len
  exact ⟨hT, γ, cn, h.2.1.t h.1.1 k, by have := h.2.2.1; omega, by have := h.2.2.2.1; omega, Nat.le_refl _, by have := h.2.2.2.2; omega, by omega⟩
theorem CS.tok (h : CS b n s n0 τ M0 M i o γ cn ps tl) (k : TFr M M') (hT : TI b n s M' i' o') (hi : i ≤ i') : CS b n s n0 τ M0 M' i' o' γ cn ps tl := ⟨hT, h.2.1.t h.1.1 k, by have := h.2.2.1; omega, by have := h.2.2.2.1; omega, h.2.2.2.2⟩
theorem CX.tok (h : CX n0 τ M0 W B M f p ps tl t) (k : TFr M M') (hT : TF M' f p) : CX n0 τ M0 W B M' f p ps tl t := by
  obtain ⟨h1, γ, cn, h2, h3, h4, h5⟩ := h
  exact ⟨hT, γ, cn, h2.t h1.1 k, h3, h4, h5⟩
theorem CX.mono (h : CX n0 τ M0 W B M f p ps tl t) (k : t' ≤ t) (kB : B ≤ B') : CX n0 τ M0 W B' M f p ps tl t' := by
  obtain ⟨h1, γ, cn, h2, h3, h4, h5⟩ := h
  exact ⟨h1, γ, cn, h2, by omega, by omega, by omega, by omega⟩
theorem TI.tree (h : TI b n s M i o) (k : TrF M M') : TI b n s M' i o := h.fr (k.fix h.1) (k.row (a := 15) (by decide)).1 (k.row (a := 15) (by decide)).2.1 (k.row (a := 16) (by decide)).2.2.2.1 (k.row (a := 17) (by decide)).2.2.2.1 (k.row (a := 18) (by decide)).2.2.2.2.1
theorem TF.tree (h : TF M f p) (k : TrF M M') : TF M' f p := h.fr (k.fix h.1) (k.row (a := 15) (by decide)).1
theorem CS.tree {Θ : TrT} (h : CS b n s n0 τ M0 M i o γ cn ps tl) (k : TrF M M') (hT : TrP M' Θ) : CS b n s n0 τ M0 M' i o (γ.1, Θ, γ.2.2) cn ps tl := ⟨h.1.tree k, h.2.1.tree h.1.1 k hT, h.2.2.1, h.2.2.2⟩
/-- a part's field, behind a fault too -/
theorem CS.pt {j f : Nat} {v : Int32} (h : CS b n s n0 τ M0 M i o γ cn ps tl) (hj : j < ps.length) (e : M' = wI M (ps.getD j 0) f v) : CS b n s n0 τ M0 M' i o (up2 γ.1 j f v, γ.2) cn ps tl := by
  have g := (h.2.1.part hj).2.1
  have hn := h.2.1.nz.1
  exact ⟨TI_hi h.1 (by rw [e]; exact fr_wI (S := fun c => 132 ≤ c) (by omega)), h.2.1.pt hj e, h.2.2.1, h.2.2.2⟩
theorem CX.pt {j q : Nat} {v : Int32} (h : CX n0 τ M0 W B M f p ps tl t) (hj : j < ps.length) (e : M' = wI M (ps.getD j 0) q v) : CX n0 τ M0 W B M' f p ps tl t := by
  obtain ⟨h1, γ, cn, h2, h3, h4, h5⟩ := h
  have g := (h2.part hj).2.1
  have hn := h2.nz.1
  exact ⟨TF_hi h1 (by rw [e]; exact fr_wI (S := fun c => 132 ≤ c) (by omega)), (up2 γ.1 j q v, γ.2), cn, h2.pt hj e, h3, h4, h5⟩
theorem CX.part {j : Nat} (h : CX n0 τ M0 W B M f p ps tl t) (hj : j < ps.length) : ok M (ps.getD j 0) 5 := by
  obtain ⟨h1, γ, cn, h2, h3, h4, h5⟩ := h
  exact (h2.part hj).1
theorem CX.nz (h : CX n0 τ M0 W B M f p ps tl t) : 132 ≤ n0 ∧ n0 + 25 ≤ mN M ∧ ok M n0 3 ∧ ok M (n0 + 8) 2 ∧ ok M (n0 + 22) 8 ∧ mR M 14 7 = some n0 ∧ mR M n0 7 = some (n0 + 8) ∧ mR M n0 6 = some (n0 + 7) ∧ mR M n0 8 = some (n0 + 22) ∧ mR M (n0 + 8) 7 = some (n0 + 15) := by
  obtain ⟨h1, γ, cn, h2, h3, h4, h5⟩ := h
  exact h2.nz
/-- an operation of the tree behind a fault -/
theorem CX.tree {Θ : TrT} (h : CX n0 τ M0 W B M f p ps tl t) (k : TrF M M') (hT : TrP M' Θ) (ht : t' ≤ Θ.1) : CX n0 τ M0 W B M' f p ps tl t' := by
  obtain ⟨h1, γ, cn, h2, h3, h4, h5⟩ := h
  exact ⟨h1.tree k, (γ.1, Θ, γ.2.2), cn, h2.tree h1.1 k hT, h3, h4, ht, h5.2⟩
theorem CX.trp (h : CX n0 τ M0 W B M f p ps tl t) : ∃ Θ : TrT, TrP M Θ ∧ t ≤ Θ.1 := by
  obtain ⟨h1, γ, cn, h2, h3, h4, h5⟩ := h
  exact ⟨γ.2.1, h2.trp, h5.1⟩
end
