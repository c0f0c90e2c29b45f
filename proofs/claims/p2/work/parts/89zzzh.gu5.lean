/-! what parts give and use: the whole reading -/
def GQ (m : Nat) (σ σ' : PS) (g u : Int32) : Prop := (∃ Y, σ'.2.2.1 = σ.2.2.1 ++ Y) ∧ (σ'.2.2.1.length < 900 → GR m (npS σ) (npS σ') σ' g u)
section
variable {b : Nat → Int32} {n s m : Nat} {τ : Td} {σ σ1 σ2 σ3 : PS} {g u : Int32} {B j j' : Nat}
theorem GK.pv (h : Pv m B σ σ1) (hB : 40 * m + j' ≤ B) (hY : ∃ Y, σ1.2.2.1 = σ.2.2.1 ++ Y) : GK m j j' σ σ1 := ⟨fun c k z1 z2 z3 z4 z5 => h.2.2.1 c z1 (by omega) (by omega) (40 * m + k) (by omega), hY⟩
theorem GK.rw {p : Nat} {q0 : Option Nat} : GK m j j' σ (rwP p q0 σ) := by
  refine ⟨fun c k z1 z2 z3 z4 z5 => ?_, [], (List.append_nil _).symm⟩
  cases q0 with
  | none =>
    show up2 (up2 (up2 (up2 σ.1.2.1 73 _ _) 74 _ _) 75 _ _) 69 _ _ c _ = _
    rw [up2_ne (fun z => by omega), up2_ne (fun z => by omega), up2_ne (fun z => by omega), up2_ne (fun z => by omega)]
  | some q =>
    show up2 (up2 (up2 (up2 σ.1.2.1 73 _ _) 74 _ _) 75 _ _) 75 _ _ c _ = _
    rw [up2_ne (fun z => by omega), up2_ne (fun z => by omega), up2_ne (fun z => by omega), up2_ne (fun z => by omega)]
theorem GK.tg (h : Tg σ σ1) : GK m j j' σ σ1 := ⟨fun c k z1 z2 z3 _ _ => h.2.2.2 c _ z3, [], by rw [List.append_nil]; exact h.2.2.1⟩
theorem GK.fi {x y : Nat} : GK m j j' σ (fiP m x y σ) := by
  refine ⟨fun c k z1 z2 z3 _ _ => ?_, [], (List.append_nil _).symm⟩
  show up2 σ.1.2.1 71 _ _ c _ = _
  exact up2_ne (fun z => by omega)
theorem GQ.step (h4 : m < 4) (h : GQ m σ σ1 g u) (kp : GK m (npS σ) (npS σ1) σ1 σ2) (en : npS σ2 = npS σ1) (e1 : giS σ2 = giS σ1) (e2 : usS σ2 = usS σ1) (hn : npS σ ≤ npS σ1) : GQ m σ σ2 g u := by
  obtain ⟨⟨Y, h1⟩, h2⟩ := h
  obtain ⟨Z, h3⟩ := id kp.2
  refine ⟨⟨Y ++ Z, by rw [h3, h1, List.append_assoc]⟩, fun hX => ?_⟩
  have l := kp.len
  rw [en]
  exact (h2 (by omega)).tl h4 (by omega) kp e1 e2 hn
theorem GQ.cat (h4 : m < 4) (h : GQ m σ σ1 g u) (k : GQ m σ1 σ2 (giS σ1) (usS σ1)) (pv : Pv m B σ1 σ2) (hB : 40 * m + npS σ1 ≤ B) (hn : npS σ ≤ npS σ1) : GQ m σ σ2 g u := by
  obtain ⟨⟨Y, h1⟩, h2⟩ := h
  obtain ⟨⟨Z, k1⟩, k2⟩ := k
  have kp : GK m (npS σ) (npS σ1) σ1 σ2 := GK.pv pv hB ⟨Z, k1⟩
  refine ⟨⟨Y ++ Z, by rw [k1, h1, List.append_assoc]⟩, fun hX => ?_⟩
  have l := kp.len
  exact (h2 (by omega)).tr h4 (by omega) kp (k2 hX) hn pv.1
theorem bg_0 {k : Int32} {pl q d : Nat} {wh : Int32} : Bg0 m (npS σ) k (bgP m k pl q d wh σ) ∧ (bgP m k pl q d wh σ).1.2.1 60 (40 * m + npS σ) = wh := by
  have e : (bgP m k pl q d wh σ).1.2.1 = up2 (lkA (40 * m + npS σ) q (b9K (40 * m + npS σ) (soK k) pl wh σ.1.2.1)) 74 q (Int32.ofNat (40 * m + npS σ)) := rfl
  have f : ∀ c, c ≤ 69 → (bgP m k pl q d wh σ).1.2.1 c (40 * m + npS σ) = b9K (40 * m + npS σ) (soK k) pl wh σ.1.2.1 c (40 * m + npS σ) := fun c hc => by
    rw [e, up2_ne (fun z => by omega), lk_ne (by omega) (fun z => by omega)]
  refine ⟨⟨?_, ?_, ?_⟩, ?_⟩
  · rw [f 58 (by decide)]; simp [b9K, up2]
  · rw [f 65 (by decide)]; simp [b9K, up2]
  · rw [f 67 (by decide)]; simp [b9K, up2]
  · rw [f 60 (by decide)]; simp [b9K, up2]
end
