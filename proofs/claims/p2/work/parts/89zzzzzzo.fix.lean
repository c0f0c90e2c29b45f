/-! least solutions: from nothing known on -/
section
variable {α : Type}
def Lq (v w : α → Nat) : Prop := ∀ i, lq3 (v i) (w i)
def MoF (F : (α → Nat) → α → Nat) : Prop := ∀ v w, Lq v w → Lq (F v) (F w)
/-- v lies on the way from nothing known to the least solution -/
def JF (F : (α → Nat) → α → Nat) (v : α → Nat) : Prop := Lq v (F v) ∧ ∀ B : α → Nat → Prop, (∀ i, B i 2) → (∀ u, (∀ i, B i (u i)) → ∀ i, B i (F u i)) → ∀ i, B i (v i)
variable {F : (α → Nat) → α → Nat} {v w v' : α → Nat}
theorem Lq.rf : Lq v v := fun _ => lq3.rf
theorem Lq.tr (h : Lq v w) (k : Lq w v') : Lq v v' := fun i => (h i).tr (k i)
theorem JF.st0 (h : ∀ i, v i = 2 ∨ ∀ u, F u i = v i) : JF F v := by
  refine ⟨fun i => ?_, fun B b0 b1 i => ?_⟩
  · rcases h i with e | e
    · exact Or.inl e
    · exact Or.inr (e v).symm
  · rcases h i with e | e
    · rw [e]; exact b0 i
    · rw [← e (fun _ => 2)]; exact b1 _ b0 i
theorem JF.st (hF : MoF F) (h : JF F v) (h1 : Lq v v') (h2 : ∀ i, v' i = v i ∨ v' i = F v i) : JF F v' := by
  have l2 : Lq v' (F v) := fun i => by
    rcases h2 i with e | e
    · rw [e]; exact h.1 i
    · rw [e]; exact lq3.rf
  refine ⟨l2.tr (hF v v' h1), fun B b0 b1 i => ?_⟩
  have bv := h.2 B b0 b1
  rcases h2 i with e | e
  · rw [e]; exact bv i
  · rw [e]; exact b1 v bv i
/-- one place becomes what the equations say of it -/
theorem JF.up (hF : MoF F) (h : JF F v) (h2 : ∀ i, v' i = v i ∨ v' i = F v i) : JF F v' ∧ Lq v v' := by
  have l : Lq v v' := fun i => by
    rcases h2 i with e | e
    · rw [e]; exact lq3.rf
    · rw [e]; exact h.1 i
  exact ⟨h.st hF l h2, l⟩
theorem JF.le (hF : MoF F) (h : JF F v) (hw : ∀ i, F w i = w i) : Lq v w := h.2 (fun i a => lq3 a (w i)) (fun _ => Or.inl rfl) (fun u hu i => by
  have q := hF u w hu i
  rw [hw i] at q
  exact q)
/-- how much is not known -/
def muU (v : α → Nat) : List α → Nat
  | [] => 0
  | i :: l => (if v i = 2 then 1 else 0) + muU v l
theorem muU_le (h : Lq v w) : ∀ (l : List α), muU w l ≤ muU v l
  | [] => Nat.le_refl _
  | i :: l => by
    have q := muU_le h l
    show (if w i = 2 then 1 else 0) + muU w l ≤ (if v i = 2 then 1 else 0) + muU v l
    rcases h i with e | e
    · rw [if_pos e]
      split <;> omega
    · rw [e]; omega
theorem muU_lt (h : Lq v w) : ∀ (l : List α) (i : α), i ∈ l → v i ≠ w i → muU w l < muU v l
  | [], _, hi, _ => absurd hi List.not_mem_nil
  | j :: l, i, hi, ne => by
    show (if w j = 2 then 1 else 0) + muU w l < (if v j = 2 then 1 else 0) + muU v l
    rcases List.mem_cons.mp hi with e | e
    · have q := muU_le h l
      rw [← e]
      rcases h i with z | z
      · rw [if_pos z, if_neg (fun y => ne (z.trans y.symm))]; omega
      · exact absurd z ne
    · have q := muU_lt h l i e ne
      rcases h j with z | z
      · rw [if_pos z]
        split <;> omega
      · rw [z]; omega
theorem muU_len : ∀ (l : List α), muU v l ≤ l.length
  | [] => Nat.le_refl _
  | i :: l => by
    have q := muU_len l
    show (if v i = 2 then 1 else 0) + muU v l ≤ l.length + 1
    split <;> omega
end
/-! what and, or, not respect -/
def Cg (r : Nat → Nat → Prop) : Prop := (∀ a, r a a) ∧ (∀ a a' c c', r a a' → r c c' → r (v3A a c) (v3A a' c')) ∧ (∀ a a' c c', r a a' → r c c' → r (v3O a c) (v3O a' c')) ∧ ∀ a a', r a a' → r (v3N a) (v3N a')
theorem Cg_lq : Cg lq3 := ⟨fun _ => lq3.rf, fun _ _ _ _ h k => v3A_mo h k, fun _ _ _ _ h k => v3O_mo h k, fun _ _ h => v3N_mo h⟩
theorem Cg_eq : Cg (fun a c => a = c) := ⟨fun _ => rfl, fun _ _ _ _ h k => by rw [h, k], fun _ _ _ _ h k => by rw [h, k], fun _ _ h => by rw [h]⟩
section
variable {r : Nat → Nat → Prop}
theorem Cg.oi (h : Cg r) {f g : Nat → Nat} : ∀ (n : Nat), (∀ k, k < n → r (f k) (g k)) → r (oI f n) (oI g n)
  | 0, _ => h.1 _
  | n + 1, k => h.2.2.1 _ _ _ _ (h.oi n (fun j hj => k j (by omega))) (k n (by omega))
theorem Cg.ai (h : Cg r) {f g : Nat → Nat} : ∀ (n : Nat), (∀ k, k < n → r (f k) (g k)) → r (aI f n) (aI g n)
  | 0, _ => h.1 _
  | n + 1, k => h.2.1 _ _ _ _ (h.ai n (fun j hj => k j (by omega))) (k n (by omega))
theorem Cg.rc (h : Cg r) {st st' : Nat} {f g : Nat → Nat} (hs : r st st') : ∀ (n : Nat), (∀ k, k < n → r (f k) (g k)) → r (rcV st f n) (rcV st' g n)
  | 0, _ => hs
  | n + 1, k => h.2.2.1 _ _ _ _ (h.rc hs n (fun j hj => k j (by omega))) (k n (by omega))
theorem Cg.cd1 (h : Cg r) {sv sv' bv : Nat → Nat} {V V' : List Nat} {d : Cd} (hs : d.1 = 0 → r (sv d.2.1) (sv' d.2.1)) (hV : ∀ k, r (V.getD k 0) (V'.getD k 0)) : r (cvD sv bv V d) (cvD sv' bv V' d) := by
  unfold cvD
  by_cases e0 : d.1 = 0
  · rw [if_pos e0, if_pos e0]; exact hs e0
  rw [if_neg e0, if_neg e0]
  by_cases e1 : d.1 = 1
  · rw [if_pos e1, if_pos e1]; exact h.1 _
  rw [if_neg e1, if_neg e1]
  by_cases e2 : d.1 = 2
  · rw [if_pos e2, if_pos e2]; exact h.2.2.2 _ _ (hV _)
  rw [if_neg e2, if_neg e2]
  by_cases e3 : d.1 = 3
  · rw [if_pos e3, if_pos e3]; exact h.2.1 _ _ _ _ (hV _) (hV _)
  rw [if_neg e3, if_neg e3]
  exact h.2.2.1 _ _ _ _ (hV _) (hV _)
theorem Cg.cf1 (h : Cg r) {sv sv' bv : Nat → Nat} : ∀ (Y : List Cd) (V V' : List Nat), (∀ d ∈ Y, d.1 = 0 → r (sv d.2.1) (sv' d.2.1)) → V.length = V'.length → (∀ k, r (V.getD k 0) (V'.getD k 0)) → ∀ k, r ((Y.foldl (fun V d => V ++ [cvD sv bv V d]) V).getD k 0) ((Y.foldl (fun V d => V ++ [cvD sv' bv V d]) V').getD k 0)
  | [], _, _, _, _, hV, k => hV k
  | d :: Y, V, V', hs, hl, hV, k => by
    refine Cg.cf1 h Y (V ++ [cvD sv bv V d]) (V' ++ [cvD sv' bv V' d]) (fun e he => hs e (List.mem_cons_of_mem _ he)) (by rw [List.length_append, List.length_append, hl]; rfl) (fun j => ?_) k
    by_cases z : j < V.length
    · rw [gdA z, gdA (by omega)]; exact hV j
    · obtain ⟨q, eq⟩ : ∃ q, j = V.length + q := ⟨j - V.length, by omega⟩
      rw [eq, gdC, hl, gdC]
      cases q with
      | zero => exact h.cd1 (hs d List.mem_cons_self) hV
      | succ q => exact h.1 _
theorem Cg.cl1 (h : Cg r) {sv sv' bv : Nat → Nat} {Y : List Cd} (hs : ∀ d ∈ Y, d.1 = 0 → r (sv d.2.1) (sv' d.2.1)) (k : Nat) : r ((cvL sv bv Y).getD k 0) ((cvL sv' bv Y).getD k 0) := h.cf1 Y [] [] hs rfl (fun _ => h.1 _) k
end
