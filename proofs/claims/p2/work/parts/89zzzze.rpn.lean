/-! a node of the reference stands for a node of the class -/
def RpLs (R : Nat → Nat → Nat → Nat → Prop) : List Nat → List Nat → Nat → Nat → Prop
  | [], [], p, p' => p' = p
  | d :: ds, c :: cs, p, p' => ∃ pm, R d c p pm ∧ RpLs R ds cs pm p'
  | [], _ :: _, _, _ => False
  | _ :: _, [], _, _ => False
/-- what a choice looks at: the condition of part j, or an if's number -/
def ChW (W : Wo) (m zn fn : Nat) (so pt l : Int32) : Prop := (so = 4 ∧ ∃ j, j < 40 ∧ pt = Int32.ofNat (40 * m + j) ∧ CdW W m zn (40 * m + j) l) ∨ (so = 5 ∧ ∃ j f, j < 40 ∧ pt = Int32.ofNat (40 * m + j) ∧ f < fn ∧ woP W j 4 = Int32.ofNat f ∧ l = woF W f)
/-- cx: the traps around, from within; p, p': the pauses within, in order -/
def RpN (W : Wo) (m zn fn : Nat) (u : Vwr) (hi : Nat) : Nat → List (Option Nat) → Nat → Nat → Nat → Nat → Prop
  | 0, _, _, _, _, _ => False
  | g + 1, cx, y, x, p, p' => (700 * m ≤ y ∧ y < hi) ∧
    (((woV W x).1 = 5 ∧ ∃ c, (woV W x).2.2.2 = [c] ∧ RpN W m zn fn u hi g cx y c p p')
    ∨ ((woV W x).1 = 5 ∧ (u y).1 = 6 ∧ 2 ≤ (u y).2.2.length ∧ RpLs (RpN W m zn fn u hi g cx) (u y).2.2 (woV W x).2.2.2 p p')
    ∨ ((woV W x).1 = 0 ∧ (woV W x).2.2.2 = [] ∧ (u y).1 = 0 ∧ (u y).2.2 = [] ∧ p' = p)
    ∨ ((woV W x).1 = 1 ∧ (woV W x).2.2.1 = Int32.ofNat p ∧ (woV W x).2.2.2 = [] ∧ (u y).1 = 2 ∧ (u y).2.2 = [] ∧ p' = p + 1)
    ∨ ((woV W x).1 = 2 ∧ (woV W x).2.2.2 = [] ∧ (u y).1 = 1 ∧ (u y).2.2 = [] ∧ (∃ j, j < 40 ∧ (u y).2.1 = Int32.ofNat (40 * m + j) ∧ woA W 60 (40 * m + j) = (woV W x).2.2.1) ∧ p' = p)
    ∨ ((woV W x).1 = 3 ∧ (woV W x).2.2.2 = [] ∧ (u y).1 = 3 ∧ (u y).2.2 = [] ∧ (∃ v, v < 16 ∧ (woV W x).2.2.1 = 2 + Int32.ofNat v ∧ (((u y).2.1 = -1 ∧ v = 0 ∧ cx ≠ []) ∨ ∃ j e, j < 40 ∧ (u y).2.1 = Int32.ofNat (40 * m + j) ∧ woA W 60 (40 * m + j) = Int32.ofNat e ∧ cx[v]? = some (some e))) ∧ p' = p)
    ∨ ((woV W x).1 = 4 ∧ ChW W m zn fn (u y).1 (u y).2.1 (woV W x).2.1 ∧ ∃ c1 c2 d1 pm, (woV W x).2.2.2 = [c1, c2] ∧ RpN W m zn fn u hi g cx d1 c1 p pm ∧ (((u y).2.2 = [d1] ∧ (woV W c2).1 = 0 ∧ (woV W c2).2.2.2 = [] ∧ p' = pm) ∨ ∃ d2, (u y).2.2 = [d1, d2] ∧ RpN W m zn fn u hi g cx d2 c2 pm p'))
    ∨ ((woV W x).1 = 6 ∧ (u y).1 = 7 ∧ ∃ c d, (woV W x).2.2.2 = [c] ∧ (u y).2.2 = [d] ∧ RpN W m zn fn u hi g cx d c p p')
    ∨ ((woV W x).1 = 7 ∧ (u y).1 = 8 ∧ (∃ j, j < 40 ∧ (u y).2.1 = Int32.ofNat (40 * m + j) ∧ CdW W m zn (40 * m + j) (woV W x).2.1) ∧ ∃ c d, (woV W x).2.2.2 = [c] ∧ (u y).2.2 = [d] ∧ RpN W m zn fn u hi g cx d c p p')
    ∨ ((woV W x).1 = 8 ∧ (u y).1 = 9 ∧ 1 ≤ (u y).2.2.length ∧ RpLs (RpN W m zn fn u hi g cx) (u y).2.2 (woV W x).2.2.2 p p')
    ∨ ((woV W x).1 = 9 ∧ (u y).1 = 10 ∧ ∃ c d t, (woV W x).2.2.2 = [c] ∧ (u y).2.2 = [d] ∧ ((t = none ∧ (u y).2.1 = -1) ∨ ∃ j, j < 40 ∧ t = some (40 * m + j) ∧ (u y).2.1 = Int32.ofNat (40 * m + j)) ∧ RpN W m zn fn u hi g (t :: cx) d c p p'))
theorem RpLs.imp {R R' : Nat → Nat → Nat → Nat → Prop} (h : ∀ d c p q, R d c p q → R' d c p q) : ∀ (ds cs : List Nat) (p p' : Nat), RpLs R ds cs p p' → RpLs R' ds cs p p'
  | [], [], _, _, k => k
  | d :: ds, c :: cs, p, p', k => by
    obtain ⟨pm, k1, k2⟩ := k
    exact ⟨pm, h _ _ _ _ k1, RpLs.imp h ds cs pm p' k2⟩
  | [], _ :: _, _, _, k => k
  | _ :: _, [], _, _, k => k
section
variable {W : Wo} {m zn fn hi hi' : Nat} {u u' : Vwr}
theorem RpN.st (hu : ∀ z, 700 * m ≤ z → z < hi → u' z = u z) (hh : hi ≤ hi') : ∀ (g g' : Nat) (cx : List (Option Nat)) (y x p p' : Nat), g ≤ g' → RpN W m zn fn u hi g cx y x p p' → RpN W m zn fn u' hi' g' cx y x p p' := by
  intro g
  induction g with
  | zero => intro g' cx y x p p' _ h; unfold RpN at h; exact h.elim
  | succ g ih =>
    intro g' cx y x p p' hg h
    cases g' with
    | zero => omega
    | succ g' =>
      have hg : g ≤ g' := by omega
      unfold RpN at h ⊢
      obtain ⟨⟨h1, h2⟩, h⟩ := h
      rw [hu y h1 h2]
      refine ⟨⟨h1, by omega⟩, ?_⟩
      rcases h with ⟨a, c, b1, b2⟩ | ⟨a, b1, b2, b3⟩ | h | h | h | h | ⟨a, b1, c1, c2, d1, pm, b2, b3, b4⟩ | ⟨a, b1, c, d, b2, b3, b4⟩ | ⟨a, b1, b5, c, d, b2, b3, b4⟩ | ⟨a, b1, b2, b3⟩ | ⟨a, b1, c, d, t, b2, b3, b4, b5⟩
      · exact Or.inl ⟨a, c, b1, ih _ _ _ _ _ _ hg b2⟩
      · exact Or.inr (Or.inl ⟨a, b1, b2, RpLs.imp (fun d c p q k => ih _ _ _ _ _ _ hg k) _ _ _ _ b3⟩)
      · exact Or.inr (Or.inr (Or.inl h))
      · exact Or.inr (Or.inr (Or.inr (Or.inl h)))
      · exact Or.inr (Or.inr (Or.inr (Or.inr (Or.inl h))))
      · exact Or.inr (Or.inr (Or.inr (Or.inr (Or.inr (Or.inl h)))))
      · refine Or.inr (Or.inr (Or.inr (Or.inr (Or.inr (Or.inr (Or.inl ⟨a, b1, c1, c2, d1, pm, b2, ih _ _ _ _ _ _ hg b3, ?_⟩))))))
        rcases b4 with b4 | ⟨d2, q1, q2⟩
        · exact Or.inl b4
        · exact Or.inr ⟨d2, q1, ih _ _ _ _ _ _ hg q2⟩
      · exact Or.inr (Or.inr (Or.inr (Or.inr (Or.inr (Or.inr (Or.inr (Or.inl ⟨a, b1, c, d, b2, b3, ih _ _ _ _ _ _ hg b4⟩)))))))
      · exact Or.inr (Or.inr (Or.inr (Or.inr (Or.inr (Or.inr (Or.inr (Or.inr (Or.inl ⟨a, b1, b5, c, d, b2, b3, ih _ _ _ _ _ _ hg b4⟩))))))))
      · exact Or.inr (Or.inr (Or.inr (Or.inr (Or.inr (Or.inr (Or.inr (Or.inr (Or.inr (Or.inl ⟨a, b1, b2, RpLs.imp (fun d c p q k => ih _ _ _ _ _ _ hg k) _ _ _ _ b3⟩)))))))))
      · exact Or.inr (Or.inr (Or.inr (Or.inr (Or.inr (Or.inr (Or.inr (Or.inr (Or.inr (Or.inr ⟨a, b1, c, d, t, b2, b3, b4, ih _ _ _ _ _ _ hg b5⟩)))))))))
theorem RpN.in {g : Nat} {cx : List (Option Nat)} {y x p p' : Nat} (h : RpN W m zn fn u hi g cx y x p p') : 700 * m ≤ y ∧ y < hi := by
  cases g with
  | zero => unfold RpN at h; exact h.elim
  | succ g => unfold RpN at h; exact h.1
/-! its makers -/
variable {g p p' pm x y c d c1 c2 d1 d2 j lo hw : Nat} {cx : List (Option Nat)} {l : Int32}
theorem N_se1 (hx : ndS (woV W) lo hw x 5 l [c]) (h : RpN W m zn fn u hi g cx y c p p') : RpN W m zn fn u hi (g + 1) cx y x p p' := by
  unfold RpN
  exact ⟨h.in, Or.inl ⟨hx.2.1, c, hx.2.2.2, h⟩⟩
theorem N_seq {ds cs : List Nat} {pt : Int32} (hy : 700 * m ≤ y ∧ y < hi) (hx : ndS (woV W) lo hw x 5 l cs) (hu : u y = (6, pt, ds)) (h2 : 2 ≤ ds.length) (h : RpLs (RpN W m zn fn u hi g cx) ds cs p p') : RpN W m zn fn u hi (g + 1) cx y x p p' := by
  unfold RpN
  rw [hu]
  exact ⟨hy, Or.inr (Or.inl ⟨hx.2.1, rfl, h2, by rw [hx.2.2.2]; exact h⟩)⟩
theorem N_no {pt : Int32} (hy : 700 * m ≤ y ∧ y < hi) (hx : lfS (woV W) lo hw x 0 l) (hu : u y = (0, pt, [])) : RpN W m zn fn u hi (g + 1) cx y x p p := by
  unfold RpN
  rw [hu]
  exact ⟨hy, Or.inr (Or.inr (Or.inl ⟨hx.2.1, hx.2.2.2, rfl, rfl, rfl⟩))⟩
theorem N_pa {pt : Int32} (hy : 700 * m ≤ y ∧ y < hi) (hx : lfS (woV W) lo hw x 1 (Int32.ofNat p)) (hu : u y = (2, pt, [])) : RpN W m zn fn u hi (g + 1) cx y x p (p + 1) := by
  unfold RpN
  rw [hu]
  exact ⟨hy, Or.inr (Or.inr (Or.inr (Or.inl ⟨hx.2.1, hx.2.2.1, hx.2.2.2, rfl, rfl, rfl⟩)))⟩
theorem N_em (hy : 700 * m ≤ y ∧ y < hi) (hx : lfS (woV W) lo hw x 2 l) (hj : j < 40) (hA : woA W 60 (40 * m + j) = l) (hu : u y = (1, Int32.ofNat (40 * m + j), [])) : RpN W m zn fn u hi (g + 1) cx y x p p := by
  unfold RpN
  rw [hu]
  exact ⟨hy, Or.inr (Or.inr (Or.inr (Or.inr (Or.inl ⟨hx.2.1, hx.2.2.2, rfl, rfl, ⟨j, hj, rfl, hA.trans hx.2.2.1.symm⟩, rfl⟩))))⟩
theorem N_ex0 (hy : 700 * m ≤ y ∧ y < hi) (hx : lfS (woV W) lo hw x 3 2) (hc : cx ≠ []) (hu : u y = (3, -1, [])) : RpN W m zn fn u hi (g + 1) cx y x p p := by
  unfold RpN
  rw [hu]
  exact ⟨hy, Or.inr (Or.inr (Or.inr (Or.inr (Or.inr (Or.inl ⟨hx.2.1, hx.2.2.2, rfl, rfl, ⟨0, by decide, hx.2.2.1, Or.inl ⟨rfl, rfl, hc⟩⟩, rfl⟩)))))⟩
theorem N_ex {v e : Nat} (hv : v < 16) (hy : 700 * m ≤ y ∧ y < hi) (hx : lfS (woV W) lo hw x 3 (2 + Int32.ofNat v)) (hj : j < 40) (hA : woA W 60 (40 * m + j) = Int32.ofNat e) (hc : cx[v]? = some (some e)) (hu : u y = (3, Int32.ofNat (40 * m + j), [])) : RpN W m zn fn u hi (g + 1) cx y x p p := by
  unfold RpN
  rw [hu]
  exact ⟨hy, Or.inr (Or.inr (Or.inr (Or.inr (Or.inr (Or.inl ⟨hx.2.1, hx.2.2.2, rfl, rfl, ⟨v, hv, hx.2.2.1, Or.inr ⟨j, e, hj, rfl, hA, hc⟩⟩, rfl⟩)))))⟩
theorem N_ch1 {so pt k : Int32} (hy : 700 * m ≤ y ∧ y < hi) (hx : ndS (woV W) lo hw x 4 l [c1, c2]) (hc : ChW W m zn fn so pt l) (hu : u y = (so, pt, [d1])) (h : RpN W m zn fn u hi g cx d1 c1 p pm) (h2 : lfS (woV W) lo hw c2 0 k) : RpN W m zn fn u hi (g + 1) cx y x p pm := by
  unfold RpN
  rw [hu]
  exact ⟨hy, Or.inr (Or.inr (Or.inr (Or.inr (Or.inr (Or.inr (Or.inl ⟨hx.2.1, by rw [hx.2.2.1]; exact hc, c1, c2, d1, pm, hx.2.2.2, h, Or.inl ⟨rfl, h2.2.1, h2.2.2.2, rfl⟩⟩))))))⟩
theorem N_ch2 {so pt : Int32} (hy : 700 * m ≤ y ∧ y < hi) (hx : ndS (woV W) lo hw x 4 l [c1, c2]) (hc : ChW W m zn fn so pt l) (hu : u y = (so, pt, [d1, d2])) (h : RpN W m zn fn u hi g cx d1 c1 p pm) (h2 : RpN W m zn fn u hi g cx d2 c2 pm p') : RpN W m zn fn u hi (g + 1) cx y x p p' := by
  unfold RpN
  rw [hu]
  exact ⟨hy, Or.inr (Or.inr (Or.inr (Or.inr (Or.inr (Or.inr (Or.inl ⟨hx.2.1, by rw [hx.2.2.1]; exact hc, c1, c2, d1, pm, hx.2.2.2, h, Or.inr ⟨d2, rfl, h2⟩⟩))))))⟩
theorem N_lo {pt : Int32} (hy : 700 * m ≤ y ∧ y < hi) (hx : ndS (woV W) lo hw x 6 l [c]) (hu : u y = (7, pt, [d])) (h : RpN W m zn fn u hi g cx d c p p') : RpN W m zn fn u hi (g + 1) cx y x p p' := by
  unfold RpN
  rw [hu]
  exact ⟨hy, Or.inr (Or.inr (Or.inr (Or.inr (Or.inr (Or.inr (Or.inr (Or.inl ⟨hx.2.1, rfl, c, d, hx.2.2.2, rfl, h⟩)))))))⟩
theorem N_su (hy : 700 * m ≤ y ∧ y < hi) (hx : ndS (woV W) lo hw x 7 l [c]) (hj : j < 40) (hc : CdW W m zn (40 * m + j) l) (hu : u y = (8, Int32.ofNat (40 * m + j), [d])) (h : RpN W m zn fn u hi g cx d c p p') : RpN W m zn fn u hi (g + 1) cx y x p p' := by
  unfold RpN
  rw [hu]
  exact ⟨hy, Or.inr (Or.inr (Or.inr (Or.inr (Or.inr (Or.inr (Or.inr (Or.inr (Or.inl ⟨hx.2.1, rfl, ⟨j, hj, rfl, by rw [hx.2.2.1]; exact hc⟩, c, d, hx.2.2.2, rfl, h⟩))))))))⟩
theorem N_al {ds cs : List Nat} {pt : Int32} (hy : 700 * m ≤ y ∧ y < hi) (hx : ndS (woV W) lo hw x 8 l cs) (hu : u y = (9, pt, ds)) (h1 : 1 ≤ ds.length) (h : RpLs (RpN W m zn fn u hi g cx) ds cs p p') : RpN W m zn fn u hi (g + 1) cx y x p p' := by
  unfold RpN
  rw [hu]
  exact ⟨hy, Or.inr (Or.inr (Or.inr (Or.inr (Or.inr (Or.inr (Or.inr (Or.inr (Or.inr (Or.inl ⟨hx.2.1, rfl, h1, by rw [hx.2.2.2]; exact h⟩)))))))))⟩
theorem N_tr0 (hy : 700 * m ≤ y ∧ y < hi) (hx : ndS (woV W) lo hw x 9 l [c]) (hu : u y = (10, -1, [d])) (h : RpN W m zn fn u hi g (none :: cx) d c p p') : RpN W m zn fn u hi (g + 1) cx y x p p' := by
  unfold RpN
  rw [hu]
  exact ⟨hy, Or.inr (Or.inr (Or.inr (Or.inr (Or.inr (Or.inr (Or.inr (Or.inr (Or.inr (Or.inr ⟨hx.2.1, rfl, c, d, none, hx.2.2.2, rfl, Or.inl ⟨rfl, rfl⟩, h⟩)))))))))⟩
theorem N_tr (hy : 700 * m ≤ y ∧ y < hi) (hx : ndS (woV W) lo hw x 9 l [c]) (hj : j < 40) (hu : u y = (10, Int32.ofNat (40 * m + j), [d])) (h : RpN W m zn fn u hi g (some (40 * m + j) :: cx) d c p p') : RpN W m zn fn u hi (g + 1) cx y x p p' := by
  unfold RpN
  rw [hu]
  exact ⟨hy, Or.inr (Or.inr (Or.inr (Or.inr (Or.inr (Or.inr (Or.inr (Or.inr (Or.inr (Or.inr ⟨hx.2.1, rfl, c, d, some (40 * m + j), hx.2.2.2, rfl, Or.inr ⟨j, hj, rfl, rfl⟩, h⟩)))))))))⟩
end
/-! pairs below a pair -/
def chV (W : Wo) (x : Nat) : List Nat := (woV W x).2.2.2
def Z1 (W : Wo) (m : Nat) (u : Vwr) (hi : Nat) (a b : Nat × Nat) : Prop := (700 * m ≤ a.1 ∧ a.1 < hi) ∧ (((woV W a.2).1 = 5 ∧ chV W a.2 = [b.2] ∧ b.1 = a.1) ∨ (¬ ((woV W a.2).1 = 5 ∧ (chV W a.2).length = 1) ∧ b ∈ (u a.1).2.2.zip (chV W a.2)))
def DsI (W : Wo) (m : Nat) (u : Vwr) (hi : Nat) : Nat → Nat × Nat → Nat × Nat → Prop
  | 0, a, b => a = b
  | n + 1, a, b => ∃ c, Z1 W m u hi a c ∧ DsI W m u hi n c b
def DsN (W : Wo) (m : Nat) (u : Vwr) (hi y x d c : Nat) : Prop := ∃ n, DsI W m u hi n (y, x) (d, c)
section
variable {W : Wo} {m hi hi' y x d c d2 c2 lo hw : Nat} {u u' : Vwr} {k l so pt : Int32} {ds cs : List Nat}
theorem RpLs.ln {R : Nat → Nat → Nat → Nat → Prop} : ∀ (ds cs : List Nat) (p p' : Nat), RpLs R ds cs p p' → ds.length = cs.length
  | [], [], _, _, _ => rfl
  | d :: ds, c :: cs, p, p', ⟨pm, _, k2⟩ => by
    show ds.length + 1 = cs.length + 1
    rw [RpLs.ln ds cs pm p' k2]
  | [], _ :: _, _, _, k => k.elim
  | _ :: _, [], _, _, k => k.elim
theorem DsN.rf : DsN W m u hi y x y x := ⟨0, rfl⟩
theorem DsI.tr {b e : Nat × Nat} : ∀ (n n' : Nat) (a : Nat × Nat), DsI W m u hi n a b → DsI W m u hi n' b e → DsI W m u hi (n + n') a e
  | 0, n', a, h, k => by
    have h : a = b := h
    rw [h, Nat.zero_add]; exact k
  | n + 1, n', a, ⟨c, h1, h2⟩, k => by
    rw [Nat.add_right_comm]
    exact ⟨c, h1, DsI.tr n n' c h2 k⟩
theorem DsN.tr (h : DsN W m u hi y x d c) (k : DsN W m u hi d c d2 c2) : DsN W m u hi y x d2 c2 := by
  obtain ⟨n, h⟩ := h
  obtain ⟨n', k⟩ := k
  exact ⟨n + n', DsI.tr n n' _ h k⟩
theorem DsI.st (hu : ∀ z, 700 * m ≤ z → z < hi → u' z = u z) (hh : hi ≤ hi') {b : Nat × Nat} : ∀ (n : Nat) (a : Nat × Nat), DsI W m u hi n a b → DsI W m u' hi' n a b
  | 0, _, h => h
  | n + 1, a, ⟨c, ⟨⟨h1, h2⟩, h3⟩, h4⟩ => ⟨c, ⟨⟨h1, by omega⟩, by rw [hu a.1 h1 h2]; exact h3⟩, DsI.st hu hh n c h4⟩
theorem DsN.st (hu : ∀ z, 700 * m ≤ z → z < hi → u' z = u z) (hh : hi ≤ hi') (h : DsN W m u hi y x d c) : DsN W m u' hi' y x d c := by
  obtain ⟨n, h⟩ := h
  exact ⟨n, DsI.st hu hh n _ h⟩
theorem DsN.o1 (hy : 700 * m ≤ y ∧ y < hi) (hx : ndS (woV W) lo hw x 5 l [c]) : DsN W m u hi y x y c := ⟨1, (y, c), ⟨hy, Or.inl ⟨hx.2.1, hx.2.2.2, rfl⟩⟩, rfl⟩
theorem DsN.ch (hy : 700 * m ≤ y ∧ y < hi) (hx : ndS (woV W) lo hw x k l cs) (hu : u y = (so, pt, ds)) (hne : k ≠ 5 ∨ cs.length ≠ 1) (hm : (d, c) ∈ ds.zip cs) : DsN W m u hi y x d c := by
  refine ⟨1, (d, c), ⟨hy, Or.inr ⟨fun z => ?_, ?_⟩⟩, rfl⟩
  · have z1 : (woV W x).1 = 5 := z.1
    have z2 : (woV W x).2.2.2.length = 1 := z.2
    rw [hx.2.1] at z1
    rw [hx.2.2.2] at z2
    rcases hne with w | w
    · exact w z1
    · exact w z2
  · show (d, c) ∈ (u y).2.2.zip (woV W x).2.2.2
    rw [hu, hx.2.2.2]
    exact hm
theorem FrB.dsn {S S' : RBs} {G G' : Nat → List Nat} {H : Nat → Prop} (f : FrB m S G S' G' H) (h : DsN W m (vwR S G) (700 * m + S.1) y x d c) : DsN W m (vwR S' G') (700 * m + S'.1) y x d c := DsN.st (fun z h1 h2 => (f.2.1 z h1 h2).1) (by have := f.1; omega) h
end
