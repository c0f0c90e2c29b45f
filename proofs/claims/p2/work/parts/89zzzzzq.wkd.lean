/-! the weaver's walk: what is known of nodes -/
/-- a node's codes when i of its children have been left -/
def acV (k : Int32) (rs hv cd : Nat) (a0 : Nat → Nat) (K : Nat → Nat → Nat) : Nat → Nat → Nat
  | 0 => a0
  | i + 1 => fun n => if k = 8 then acV k rs hv cd a0 K i n else lvV k n (acV k rs hv cd a0 K i) (K i) rs hv cd
theorem lvV_cg {k : Int32} {a a' b b' : Nat → Nat} {rs hv cd : Nat} (ha : ∀ n, n < 20 → a n = a' n) (hb : ∀ n, n < 20 → b n = b' n) (n : Nat) (hn : n < 20) : lvV k n a b rs hv cd = lvV k n a' b' rs hv cd := by
  unfold lvV ltV
  rw [ha n hn, hb n hn, ha 1 (by decide), hb 1 (by decide), hb 0 (by decide), hb 2 (by decide)]
  by_cases z : n ≤ 18
  · rw [hb (n + 1) (by omega)]
  · rw [if_neg z, if_neg z]
theorem acV_cg {k : Int32} {rs hv cd : Nat} {a0 a0' : Nat → Nat} {K K' : Nat → Nat → Nat} (h0 : ∀ n, n < 20 → a0 n = a0' n) : ∀ (i : Nat), (∀ j, j < i → ∀ n, n < 20 → K j n = K' j n) → ∀ n, n < 20 → acV k rs hv cd a0 K i n = acV k rs hv cd a0' K' i n
  | 0, _, n, hn => h0 n hn
  | i + 1, h, n, hn => by
    show (if k = 8 then acV k rs hv cd a0 K i n else lvV k n (acV k rs hv cd a0 K i) (K i) rs hv cd) = (if k = 8 then acV k rs hv cd a0' K' i n else lvV k n (acV k rs hv cd a0' K' i) (K' i) rs hv cd)
    have ih := acV_cg (k := k) (rs := rs) (hv := hv) (cd := cd) h0 i (fun j hj => h j (by omega))
    by_cases z : k = 8
    · rw [if_pos z, if_pos z]; exact ih n hn
    · rw [if_neg z, if_neg z]; exact lvV_cg ih (h i (by omega)) n hn
section
variable (Θ : TrT) (G : Nat → List Nat)
def acN (P : Nat → Nat → Int32) (z i n : Nat) (w : Nat → Nat) (HV : Int32 → Nat) : Nat := acV (Θ.2.2 5 z) (lV w (P 23 z)) (HV (Θ.2.2 12 z)) (lV w (Θ.2.2 10 z)) (fun n => enV (Θ.2.2 5 z) (Θ.2.2 11 z).toNatClampNeg n (lV w (P 22 z)) (lV w (P 23 z)) (HV (Θ.2.2 12 z))) (fun i n => lV w (P 28 ((G z).getD i 0 * 20 + n))) i n
/-- the wires of z's child i -/
def ArN (P : Nat → Nat → Int32) (z i : Nat) (w : Nat → Nat) (HV : Int32 → Nat) : Prop := lV w (P 22 ((G z).getD i 0)) = arG (Θ.2.2 5 z) (decide (i = 0)) (lV w (P 22 z)) (lV w (Θ.2.2 10 z)) (acN Θ G P z i 0 w HV) (lV w (P 26 z)) ∧ lV w (P 23 ((G z).getD i 0)) = arR (Θ.2.2 5 z) (lV w (P 23 z)) (HV (Θ.2.2 12 z)) (lV w (Θ.2.2 10 z)) ∧ lV w (P 24 ((G z).getD i 0)) = arS (Θ.2.2 5 z) (lV w (P 24 z)) (lV w (P 23 z)) (HV (Θ.2.2 12 z)) (lV w (Θ.2.2 10 z)) ∧ lV w (P 25 ((G z).getD i 0)) = arK (Θ.2.2 5 z) (lV w (P 25 z)) (lV w (P 26 z))
def OkR (Ψ : Wg) (P : Nat → Nat → Int32) (z : Nat) : Prop := (∀ c, 22 ≤ c → c ≤ 25 → okI Ψ (P c z)) ∧ ∀ n, n < 20 → okI Ψ (P 28 (z * 20 + n))
/-- what closes z's open net -/
def clF (P : Nat → Nat → Int32) (z : Nat) (w : Nat → Nat) : Nat := if Θ.2.2 5 z = 6 then v3O (lV w (P 22 z)) (lV w (P 28 ((G z).getD 0 0 * 20))) else v3O (lV w (P 25 z)) (lV w (P 28 ((G z).getD 0 0 * 20 + 2)))
def OpQ (Ψ : Wg) (P : Nat → Nat → Int32) (i z : Nat) : Prop := Θ.2.2 5 z = 6 ∨ Θ.2.2 5 z = 9 → ∃ l, P 26 z = Int32.ofNat (2 * l) ∧ l < Ψ.1.length ∧ rlC Ψ.2.1 (2 * l) (if Θ.2.2 5 z = 6 then 7 else 8) z ∧ (0 < i → ClQ Ψ l (clF Θ G P z))
/-- i children of z have been left, ar have been come to -/
def InQ (Ψ : Wg) (P : Nat → Nat → Int32) (i ar z : Nat) : Prop := OkR Ψ P z ∧ OpQ Θ G Ψ P i z ∧ ∀ w HV, gW Ψ w HV → (∀ j, j < ar → ArN Θ G P z j w HV) ∧ (Θ.2.2 5 z ≠ 8 → ∀ n, n < 20 → lV w (P 28 (z * 20 + n)) = acN Θ G P z i n w HV)
/-- all of z is woven -/
def NdQ (Ψ : Wg) (P : Nat → Nat → Int32) (z : Nat) : Prop := InQ Θ G Ψ P (G z).length (G z).length z ∧ (Θ.2.2 5 z = 8 → ∀ w HV, gW Ψ w HV → ∀ n, n < 20 → lV w (P 28 (z * 20 + n)) = jbV Θ P z (G z) n w HV)
def SmA (P P' : Nat → Nat → Int32) (z : Nat) : Prop := ∀ c, 22 ≤ c → c ≤ 26 → P' c z = P c z
def SmB (P P' : Nat → Nat → Int32) (z : Nat) : Prop := ∀ c, 22 ≤ c → c ≤ 25 → P' c z = P c z
def SmK (P P' : Nat → Nat → Int32) (z : Nat) : Prop := ∀ n, n < 20 → P' 28 (z * 20 + n) = P 28 (z * 20 + n)
/-- a node as the weaver may meet it -/
def ShN (nb z : Nat) : Prop := (1 ≤ z ∧ z < Θ.1 ∧ z < 640) ∧ (∃ cd, Θ.2.2 11 z = Int32.ofNat cd ∧ cd < 2147483648 ∧ (Θ.2.2 5 z = 1 → cd < 24) ∧ (Θ.2.2 5 z = 2 → cd < 16) ∧ (Θ.2.2 5 z = 3 → cd < 20)) ∧ (Θ.2.2 5 z = 4 ∨ Θ.2.2 5 z = 7 → ∃ l, Θ.2.2 10 z = Int32.ofNat l ∧ l < 2 * nb) ∧ ChL Θ z (G z) ∧ (∀ i, i < (G z).length → Θ.2.2 9 ((G z).getD i 0) = Int32.ofNat z) ∧ (G z ≠ [] → Θ.2.2 5 z = 4 ∨ Θ.2.2 5 z = 5 ∨ Θ.2.2 5 z = 6 ∨ Θ.2.2 5 z = 7 ∨ Θ.2.2 5 z = 8 ∨ Θ.2.2 5 z = 9) ∧ (Θ.2.2 5 z = 6 ∨ Θ.2.2 5 z = 9 → (G z).length ≤ 1)
end
section
variable {Θ : TrT} {G : Nat → List Nat} {Ψ Ψ' : Wg} {P P' : Nat → Nat → Int32} {z i ar : Nat} {C : Nat → Prop} {w : Nat → Nat} {HV : Int32 → Nat}
theorem SmA.b (h : SmA P P' z) : SmB P P' z := fun c c1 c2 => h c c1 (by omega)
theorem acN_st (hA : SmA P P' z) (hK : ∀ j, j < i → SmK P P' ((G z).getD j 0)) (n : Nat) (hn : n < 20) : acN Θ G P' z i n w HV = acN Θ G P z i n w HV := by
  unfold acN
  rw [hA 22 (by decide) (by decide), hA 23 (by decide) (by decide)]
  exact acV_cg (fun _ _ => rfl) i (fun j hj m hm => by rw [hK j hj m hm]) n hn
theorem ArN_st {j : Nat} (hA : SmA P P' z) (hc : SmB P P' ((G z).getD j 0)) (hK : ∀ k, k < j → SmK P P' ((G z).getD k 0)) (h : ArN Θ G P z j w HV) : ArN Θ G P' z j w HV := by
  unfold ArN at h ⊢
  rw [acN_st hA hK 0 (by decide), hA 22 (by decide) (by decide), hA 23 (by decide) (by decide), hA 24 (by decide) (by decide), hA 25 (by decide) (by decide), hA 26 (by decide) (by decide), hc 22 (by decide) (by decide), hc 23 (by decide) (by decide), hc 24 (by decide) (by decide), hc 25 (by decide) (by decide)]
  exact h
theorem clF_st (hA : SmA P P' z) (hK : SmK P P' ((G z).getD 0 0)) : clF Θ G P' z = clF Θ G P z := by
  funext w
  unfold clF
  have e0 := hK 0 (by decide)
  rw [Nat.add_zero] at e0
  rw [hA 22 (by decide) (by decide), hA 25 (by decide) (by decide), e0, hK 2 (by decide)]
/-- what is known of z stays -/
theorem InQ.st (h : InQ Θ G Ψ P i ar z) (hA : SmA P P' z) (hKz : SmK P P' z) (hcA : ∀ j, j < ar → SmB P P' ((G z).getD j 0)) (hcK : ∀ j, j < i → SmK P P' ((G z).getD j 0)) (hi : ar ≤ i + 1) (g : Gr C Ψ Ψ') (hR : RoW Ψ) (hR' : RoW Ψ') (hC0 : ∀ n, n < Ψ.1.length → C n → (Ψ.2.1.getD n (0, 0)).1 ≠ 0) (hCz : ∀ n, n < Ψ.1.length → C n → (Ψ.2.1.getD n (0, 0)).2 ≠ z) : InQ Θ G Ψ' P' i ar z := by
  obtain ⟨⟨h1, h2⟩, h3, h4⟩ := h
  refine ⟨⟨fun c c1 c2 => by rw [hA c c1 (by omega)]; exact (h1 c c1 c2).gr g, fun n hn => by rw [hKz n hn]; exact (h2 n hn).gr g⟩, fun hk => ?_, fun w HV gw => ?_⟩
  · obtain ⟨l, l1, l2, l3, l4⟩ := h3 hk
    obtain ⟨q1, q2, q3⟩ := l3
    have e2 : 2 * l / 2 = l := by omega
    rw [e2] at q3
    have nC : ¬ C l := fun y => hCz l l2 y (by rw [q3])
    refine ⟨l, by rw [hA 26 (by decide) (by decide)]; exact l1, by have := g.1; omega, ⟨by omega, by rw [e2, hR'.1]; have := g.1; omega, by rw [e2, g.2.2.1 l l2]; exact q3⟩, fun hi0 => ?_⟩
    rw [clF_st hA (hcK 0 hi0)]
    exact (l4 hi0).gr g l2 nC hR hR' hC0
  · obtain ⟨t1, t2⟩ := h4 w HV (gw.bk g hR hR' hC0)
    refine ⟨fun j hj => ArN_st hA (hcA j hj) (fun k hk => hcK k (by omega)) (t1 j hj), fun k8 n hn => ?_⟩
    rw [hKz n hn, acN_st hA hcK n hn]
    exact t2 k8 n hn
theorem jbV_st {n : Nat} (hn : n < 20) (hA : SmA P P' z) (hK : ∀ j, j < (G z).length → SmK P P' ((G z).getD j 0)) : jbV Θ P' z (G z) n w HV = jbV Θ P z (G z) n w HV := by
  unfold jbV
  have rc : ∀ (st : Nat) (f f' : Nat → Nat) (m : Nat), (∀ j, j < m → f j = f' j) → rcV st f m = rcV st f' m := by
    intro st f f' m
    induction m with
    | zero => intro _; rfl
    | succ m ih =>
      intro hh
      show v3O (rcV st f m) (f m) = v3O (rcV st f' m) (f' m)
      rw [ih (fun j hj => hh j (by omega)), hh m (by omega)]
  rw [hA 23 (by decide) (by decide), oI_cg (G z).length (fun j hj => by rw [hK j hj n hn]), aI_cg (G z).length (fun j hj => rc _ _ _ (n + 1) (fun q hq => by rw [hK j hj q (by omega)]))]
theorem NdQ.st (h : NdQ Θ G Ψ P z) (hA : SmA P P' z) (hKz : SmK P P' z) (hcA : ∀ j, j < (G z).length → SmB P P' ((G z).getD j 0)) (hcK : ∀ j, j < (G z).length → SmK P P' ((G z).getD j 0)) (g : Gr C Ψ Ψ') (hR : RoW Ψ) (hR' : RoW Ψ') (hC0 : ∀ n, n < Ψ.1.length → C n → (Ψ.2.1.getD n (0, 0)).1 ≠ 0) (hCz : ∀ n, n < Ψ.1.length → C n → (Ψ.2.1.getD n (0, 0)).2 ≠ z) : NdQ Θ G Ψ' P' z := by
  refine ⟨h.1.st hA hKz hcA hcK (Nat.le_succ _) g hR hR' hC0 hCz, fun k8 w HV gw n hn => ?_⟩
  rw [hKz n hn, jbV_st hn hA hcK]
  exact h.2 k8 w HV (gw.bk g hR hR' hC0) n hn
end
/-! what is emitted, and the pauses -/
section
variable (Θ : TrT)
def emV (P : Nat → Nat → Int32) (w : Nat → Nat) (s : Nat) (L : List Nat) (v : Nat) : Nat := L.foldl (fun v z => if Θ.2.2 5 z = 2 ∧ Θ.2.2 11 z = Int32.ofNat s then v3O v (lV w (P 22 z)) else v) v
def psV (P : Nat → Nat → Int32) (c j : Nat) (L : List Nat) (v : Int32) : Int32 := L.foldl (fun v z => if Θ.2.2 5 z = 1 ∧ Θ.2.2 11 z = Int32.ofNat j then P c z else v) v
def zpV (L : List Nat) (v : Int32) : Int32 := L.foldl (fun v z => if Θ.2.2 5 z = 1 then mx12 v (Θ.2.2 11 z).toNatClampNeg else v) v
def ExR (n0 : Nat) (Ψ' : Wg) (L : List Nat) (P P' : Nat → Nat → Int32) (zp zp' : Int32) : Prop := (∀ s, s < 16 → okI Ψ' (P' (n0 + 21) s)) ∧ (∀ w HV, gW Ψ' w HV → ∀ s, s < 16 → lV w (P' (n0 + 21) s) = emV Θ P' w s L (lV w (P (n0 + 21) s))) ∧ (∀ j, j < 24 → P' (n0 + 17) j = psV Θ P' 22 j L (P (n0 + 17) j) ∧ P' (n0 + 18) j = psV Θ P' 24 j L (P (n0 + 18) j) ∧ P' (n0 + 19) j = psV Θ P' 25 j L (P (n0 + 19) j)) ∧ zp' = zpV Θ L zp
/-- new nets are ands, held pauses, or what the nodes of L have begun -/
def NwQ (L : List Nat) (Ψ Ψ' : Wg) (P' : Nat → Nat → Int32) : Prop := ∀ n, Ψ.1.length ≤ n → n < Ψ'.1.length → r06 Ψ' n ∨ ∃ z, z ∈ L ∧ (Θ.2.2 5 z = 6 ∨ Θ.2.2 5 z = 9) ∧ P' 26 z = Int32.ofNat (2 * n)
end
section
variable {Θ : TrT} {G : Nat → List Nat} {n0 : Nat} {Ψ Ψ1 Ψ2 : Wg} {P P1 P2 : Nat → Nat → Int32} {L L1 L2 : List Nat} {z0 z1 z2 : Int32} {C : Nat → Prop} {w : Nat → Nat}
theorem fold_cg {α : Type} {f f' : α → Nat → α} : ∀ (L : List Nat) (v : α), (∀ v, ∀ z ∈ L, f v z = f' v z) → L.foldl f v = L.foldl f' v
  | [], _, _ => rfl
  | a :: L, v, h => by
    show L.foldl f (f v a) = L.foldl f' (f' v a)
    rw [h v a List.mem_cons_self]
    exact fold_cg L _ (fun v z hz => h v z (List.mem_cons_of_mem _ hz))
theorem emV_cg {s v : Nat} (h : ∀ z ∈ L, P1 22 z = P 22 z) : emV Θ P1 w s L v = emV Θ P w s L v := fold_cg L v (fun v z hz => by rw [h z hz])
theorem psV_cg {c j : Nat} {v : Int32} (h : ∀ z ∈ L, P1 c z = P c z) : psV Θ P1 c j L v = psV Θ P c j L v := fold_cg L v (fun v z hz => by rw [h z hz])
theorem ExR.tr (h : ExR Θ n0 Ψ1 L1 P P1 z0 z1) (k : ExR Θ n0 Ψ2 L2 P1 P2 z1 z2) (hs : ∀ z ∈ L1, SmA P1 P2 z) (g : Gr C Ψ1 Ψ2) (hR : RoW Ψ1) (hR' : RoW Ψ2) (hC0 : ∀ n, n < Ψ1.1.length → C n → (Ψ1.2.1.getD n (0, 0)).1 ≠ 0) : ExR Θ n0 Ψ2 (L1 ++ L2) P P2 z0 z2 := by
  obtain ⟨h1, h2, h3, h4⟩ := h
  obtain ⟨k1, k2, k3, k4⟩ := k
  refine ⟨k1, fun w HV gw s hs16 => ?_, fun j hj => ⟨?_, ?_, ?_⟩, ?_⟩
  · rw [k2 w HV gw s hs16, h2 w HV (gw.bk g hR hR' hC0) s hs16, ← emV_cg (P := P1) (P1 := P2) (L := L1) (fun z hz => hs z hz 22 (by decide) (by decide))]
    exact List.foldl_append.symm
  · rw [(k3 j hj).1, (h3 j hj).1, ← psV_cg (P := P1) (P1 := P2) (L := L1) (fun z hz => hs z hz 22 (by decide) (by decide))]
    exact List.foldl_append.symm
  · rw [(k3 j hj).2.1, (h3 j hj).2.1, ← psV_cg (P := P1) (P1 := P2) (L := L1) (fun z hz => hs z hz 24 (by decide) (by decide))]
    exact List.foldl_append.symm
  · rw [(k3 j hj).2.2, (h3 j hj).2.2, ← psV_cg (P := P1) (P1 := P2) (L := L1) (fun z hz => hs z hz 25 (by decide) (by decide))]
    exact List.foldl_append.symm
  · rw [k4, h4]; exact List.foldl_append.symm
theorem NwQ.tr (h : NwQ Θ L1 Ψ Ψ1 P1) (k : NwQ Θ L2 Ψ1 Ψ2 P2) (g : Gr C Ψ1 Ψ2) (s : ∀ z ∈ L1, P2 26 z = P1 26 z) : NwQ Θ (L1 ++ L2) Ψ Ψ2 P2 := fun n n1 n2 => by
  by_cases z : n < Ψ1.1.length
  · rcases h n n1 z with y | ⟨q, q1, q2, q3⟩
    · refine Or.inl ?_
      unfold r06 at y ⊢
      rw [g.2.2.1 n z]
      exact y
    · exact Or.inr ⟨q, List.mem_append.mpr (Or.inl q1), q2, by rw [s q q1]; exact q3⟩
  · rcases k n (by omega) n2 with y | ⟨q, q1, q2, q3⟩
    · exact Or.inl y
    · exact Or.inr ⟨q, List.mem_append.mpr (Or.inr q1), q2, q3⟩
theorem NwQ.nil (g : Gr C Ψ Ψ1) (hC : ∀ n, Ψ.1.length ≤ n → n < Ψ1.1.length → ¬ C n) : NwQ Θ [] Ψ Ψ1 P1 := fun n n1 n2 => Or.inl (g.2.2.2.2 n n1 n2 (hC n n1 n2))
theorem ExR.nil (hk : ∀ s, s < 16 → okI Ψ1 (P1 (n0 + 21) s)) (h : ∀ c j, n0 + 17 ≤ c → c ≤ n0 + 21 → P2 c j = P1 c j) (g : Gr C Ψ1 Ψ2) : ExR Θ n0 Ψ2 [] P1 P2 z0 z0 := by
  refine ⟨fun s hs => by rw [h _ s (by omega) (by omega)]; exact (hk s hs).gr g, fun w HV _ s hs => by rw [h _ s (by omega) (by omega)]; rfl, fun j hj => ⟨?_, ?_, ?_⟩, rfl⟩
  · rw [h _ j (by omega) (by omega)]; rfl
  · rw [h _ j (by omega) (by omega)]; rfl
  · rw [h _ j (by omega) (by omega)]; rfl
end
