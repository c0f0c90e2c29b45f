/-! the reference goes through its nodes: what it leaves in a subtree -/
/-- the class's tree: masks hm and codes by children, nodes 1 .. N -/
def ClE (W : Wo) (hm : Nat → Int32) (N : Nat) : Prop := ∀ x, 1 ≤ x → x < N → hm x = heG (heV (woV W x).1 (woV W x).2.2.1) ((woV W x).2.2.2.map hm) ∧ woC W x = aoG (woV W x).1 (leV (woV W x).1 (woV W x).2.2.1) ((woV W x).2.2.2.map (woC W)) ∧ ∀ c ∈ (woV W x).2.2.2, 1 ≤ c ∧ c < N
def Vok (W : Wo) (hm : Nat → Int32) (mk nu co : Nat → Int32) (km y x : Nat) : Prop := mk y = hm x ∧ co y = woC W x ∧ ((woV W x).1 = 1 ∨ (woV W x).1 = 3 → nu y = (woV W x).2.2.1) ∧ ((woV W x).1 = 3 → ∃ v, (woV W x).2.2.1 = Int32.ofNat (2 + v) ∧ 2 + v + 1 ≤ km) ∧ cbI (woC W x)
def ZipP (R : Nat → Nat → Prop) : List Nat → List Nat → Prop
  | d :: ds, c :: cs => R d c ∧ ZipP R ds cs
  | [], _ => True
  | _ :: _, [] => True
def VlN (W : Wo) (u : Vwr) (V : Nat → Nat → Prop) : Nat → Nat → Nat → Prop
  | 0, _, _ => False
  | g + 1, y, x => V y x ∧ (((woV W x).1 = 5 ∧ ∃ c, (woV W x).2.2.2 = [c] ∧ VlN W u V g y c) ∨ (¬ ((woV W x).1 = 5 ∧ (woV W x).2.2.2.length = 1) ∧ ZipP (VlN W u V g) (u y).2.2 (woV W x).2.2.2))
theorem zip_st {R R' : Nat → Nat → Prop} : ∀ (ds cs : List Nat), (∀ d c, d ∈ ds → R d c → R' d c) → ZipP R ds cs → ZipP R' ds cs
  | d :: ds, c :: cs, h, k => ⟨h d c List.mem_cons_self k.1, zip_st ds cs (fun d' c' hd => h d' c' (List.mem_cons_of_mem _ hd)) k.2⟩
  | [], _, _, _ => trivial
  | _ :: _, [], _, _ => trivial
theorem nodup_len : ∀ (N : Nat) (l : List Nat), l.Nodup → (∀ s ∈ l, s < N) → l.length ≤ N := by
  intro N
  induction N with
  | zero =>
    intro l _ h
    cases l with
    | nil => exact Nat.le_refl _
    | cons a r => exact absurd (h a List.mem_cons_self) (Nat.not_lt_zero _)
  | succ N ih =>
    intro l hn h
    have h1 := ih (l.erase N) (hn.erase N) (fun s hs => by
      have := h s (List.mem_of_mem_erase hs)
      have ne : s ≠ N := fun e => by
        rw [e] at hs
        exact hn.not_mem_erase hs
      omega)
    have := @List.length_erase _ _ _ N l
    split at this <;> omega
theorem nodup_iv {a n : Nat} {l : List Nat} (hn : l.Nodup) (h : ∀ s ∈ l, a ≤ s ∧ s < a + n) : l.length ≤ n := by
  have h1 := nodup_len n (l.map (fun s => s - a)) ?_ (fun s hs => ?_)
  · rw [List.length_map] at h1; exact h1
  · refine List.pairwise_map.mpr (List.Pairwise.imp_of_mem (fun {x y} hx hy hxy => ?_) hn)
    have := h x hx
    have := h y hy
    omega
  · obtain ⟨w, hw, rfl⟩ := List.mem_map.mp hs
    have := h w hw
    show w - a < n
    omega
section
variable {m : Nat} {A : Nat → Nat → Int32} {pn : Nat → Int32} {S0 : RBs} {G : Nat → List Nat} {W : Wo} {hm : Nat → Int32} {g y x : Nat} {V V' : Nat → Nat → Prop} {sl : List Nat}
theorem VlN.hd (h : VlN W (vwR S0 G) V g y x) : V y x := by
  cases g with
  | zero => exact h.elim
  | succ g => exact h.1
theorem VlN.st (hR : RgB m S0 G) : ∀ (g y x : Nat), 700 * m ≤ y ∧ y < 700 * m + S0.1 → (∀ z w, inS (prB m S0) z y → V z w → V' z w) → VlN W (vwR S0 G) V g y x → VlN W (vwR S0 G) V' g y x := by
  intro g
  induction g with
  | zero => intro y x _ _ h; exact h.elim
  | succ g ih =>
    intro y x hy hV h
    obtain ⟨h1, h2⟩ := h
    refine ⟨hV y x inS.rf h1, ?_⟩
    rcases h2 with ⟨a, c, b1, b2⟩ | ⟨a, b1⟩
    · exact Or.inl ⟨a, c, b1, ih y c hy hV b2⟩
    · refine Or.inr ⟨a, zip_st _ _ (fun d c hd k => ?_) b1⟩
      have hd : d ∈ G y := hd
      have pr := hR.pr hy hd
      exact ih d c pr.1 (fun z w hz k => hV z w (hz.up pr) k) k
theorem RgB.ch (hR : RgB m S0 G) {c : Nat} (hp : prB m S0 c y) : c ∈ G y := by
  obtain ⟨hc, h1, h2⟩ := hp
  have h4 := hR.1.1
  have h7 := hR.1.2
  rcases hR.2.2.2.1 c hc.1 hc.2 with w | ⟨x, w1, w2, w3⟩
  · exact absurd (w.symm.trans h2).symm (nm32 h1)
  · have : y = x := inj32 (by omega) (by omega) (h2.symm.trans w2)
    rw [this]; exact w3
theorem inS.ch (hR : RgB m S0 G) {z : Nat} (h : inS (prB m S0) z y) : z = y ∨ ∃ c, c ∈ G y ∧ inS (prB m S0) z c := by
  obtain ⟨k, h⟩ := h
  have gen : ∀ (k z : Nat), ancN (prB m S0) k z y → z = y ∨ ∃ c, prB m S0 c y ∧ inS (prB m S0) z c := by
    intro k
    induction k with
    | zero => intro z h; exact Or.inl h
    | succ k ih =>
      intro z h
      obtain ⟨x, h1, h2⟩ := h
      rcases ih x h2 with e | ⟨c, c1, c2⟩
      · exact Or.inr ⟨z, by rw [← e]; exact h1, inS.rf⟩
      · obtain ⟨k', c2⟩ := c2
        exact Or.inr ⟨c, c1, k' + 1, x, h1, c2⟩
  rcases gen k z h with e | ⟨c, c1, c2⟩
  · exact Or.inl e
  · exact Or.inr ⟨c, hR.ch c1, c2⟩
/-- what the walk of node y, which stands for x, has done -/
def PoW (W : Wo) (hm : Nat → Int32) (m : Nat) (S0 : RBs) (G : Nat → List Nat) (mk nu co : Nat → Int32) (sl : List Nat) (km : Nat) (mk' nu' co' : Nat → Int32) (sl' : List Nat) (km' g y x : Nat) : Prop := (∀ z, ¬ inS (prB m S0) z y → nu' z = nu z ∧ co' z = co z ∧ (¬ prB m S0 y z → mk' z = mk z)) ∧ (∀ u, prB m S0 y u → mk' u = mk u ||| hm x) ∧ VlN W (vwR S0 G) (Vok W hm mk' nu' co' km') g y x ∧ ((∃ t, sl' = sl ++ t ∧ ∀ s ∈ t, inS (prB m S0) (s / 2) y) ∧ sl'.Nodup ∧ (∀ s ∈ sl', 1400 * m ≤ s ∧ s < 1400 * m + 2 * S0.1) ∧ ∀ z, inS (prB m S0) z y → 2 * z ∈ sl' ∧ 2 * z + 1 ∈ sl') ∧ (km ≤ km' ∧ km' ≤ 20)
/-- what must hold of the steps before y is walked -/
def stI (m : Nat) (S0 : RBs) (sl : List Nat) (y : Nat) : Prop := sl.Nodup ∧ (∀ s ∈ sl, 1400 * m ≤ s ∧ s < 1400 * m + 2 * S0.1) ∧ ∀ s ∈ sl, ¬ inS (prB m S0) (s / 2) y
theorem stI.len (h : stI m S0 sl y) (hR : RgB m S0 G) (hy : 700 * m ≤ y ∧ y < 700 * m + S0.1) : sl.length < 1400 ∧ (sl ++ [2 * y]).length < 1400 ∧ (sl ++ [2 * y]).Nodup ∧ ∀ s ∈ sl ++ [2 * y], 1400 * m ≤ s ∧ s < 1400 * m + 2 * S0.1 := by
  obtain ⟨h1, h2, h3⟩ := h
  have h7 := hR.1.2
  have n1 : ∀ b, b < 2 → 2 * y + b ∉ sl := fun b hb hs => h3 _ hs (by rw [show (2 * y + b) / 2 = y by omega]; exact inS.rf)
  have nd1 : (sl ++ [2 * y]).Nodup := by
    rw [List.nodup_append]
    refine ⟨h1, by simp, fun a ha b hb => ?_⟩
    rw [List.mem_singleton] at hb
    intro e
    exact n1 0 (by decide) (by rw [← hb, ← e] at *; simpa using ha)
  have rg1 : ∀ s ∈ sl ++ [2 * y], 1400 * m ≤ s ∧ s < 1400 * m + 2 * S0.1 := fun s hs => by
    rcases List.mem_append.mp hs with w | w
    · exact h2 s w
    · rw [List.mem_singleton] at w
      omega
  have nd2 : (sl ++ [2 * y] ++ [2 * y + 1]).Nodup := by
    rw [List.nodup_append]
    refine ⟨nd1, by simp, fun a ha b hb => ?_⟩
    rw [List.mem_singleton] at hb
    intro e
    rcases List.mem_append.mp ha with w | w
    · exact n1 1 (by decide) (by rw [← hb, ← e]; exact w)
    · rw [List.mem_singleton] at w
      omega
  have l2 := nodup_iv (a := 1400 * m) (n := 2 * S0.1) nd2 (fun s hs => by
    rcases List.mem_append.mp hs with w | w
    · exact rg1 s w
    · rw [List.mem_singleton] at w
      omega)
  rw [List.length_append, List.length_append] at l2
  have l2 : sl.length + 1 + 1 ≤ 2 * S0.1 := l2
  refine ⟨by omega, ?_, nd1, rg1⟩
  rw [List.length_append]
  show sl.length + 1 < 1400
  omega
end
