/-! codes of nodes stay -/
section
variable {Θ Θ1 : TrT} {G G1 : Nat → List Nat} {O H : Nat → Prop} {x m1 p1 lo hi : Nat}
theorem TE.c13 (h : TE Θ Θ1 G G1 O H) (h0 : 1 ≤ lo) (h1 : hi ≤ Θ.1) (hO : ∀ y, lo ≤ y → y < hi → ¬ O y) : ∀ y, lo ≤ y → y < hi → Θ1.2.2 13 y = Θ.2.2 13 y := fun y z1 z2 => ((h.2 y (by omega) (by omega)).2.1 (hO y z1 z2)).2.2
theorem NW.c13 (h : NW Θ Θ1 G G1 x H m1 p1) (h0 : 1 ≤ lo) (h1 : hi ≤ Θ.1) : ∀ y, lo ≤ y → y < hi → Θ1.2.2 13 y = Θ.2.2 13 y := h.2.1.c13 h0 h1 (fun _ _ _ z => z)
end
