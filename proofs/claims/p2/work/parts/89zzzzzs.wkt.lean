/-! the weaver's walk: from child to child -/
/-- x's open net -/
def CxP (Θ : TrT) (P : Nat → Nat → Int32) (x n : Nat) : Prop := (Θ.2.2 5 x = 6 ∨ Θ.2.2 5 x = 9) ∧ P 26 x = Int32.ofNat (2 * n)
section
variable {n0 l0 r0 N0 nb : Nat} {Θ : TrT} {G : Nat → List Nat} {M0 M M' : Mem} {Ψ Ψ' : Wg} {h : Nat} {Q : Option Value → Mem → Prop} {P : Nat → Nat → Int32} {zp : Int32} {x i ar : Nat}
/-- x's open net has its role -/
theorem InQ.cx (hI : InQ Θ G Ψ P i ar x) (hl : Ψ.1.length < 100000) : ∀ n, n < Ψ.1.length → CxP Θ P x n → ((Ψ.2.1.getD n (0, 0)).1 ≠ 0 ∧ (Ψ.2.1.getD n (0, 0)).1 ≠ 6) ∧ (Ψ.2.1.getD n (0, 0)).2 = x := by
  rintro n hn ⟨k, e⟩
  obtain ⟨l, q1, q2, ⟨q3, q4, q5⟩, -⟩ := hI.2.1 k
  have en : n = l := by
    have := inj32 (a := 2 * n) (b := 2 * l) (by omega) (by omega) (e.symm.trans q1)
    omega
  rw [show 2 * l / 2 = l by omega] at q5
  rw [en, q5]
  refine ⟨?_, rfl⟩
  show (if Θ.2.2 5 x = 6 then 7 else 8) ≠ 0 ∧ (if Θ.2.2 5 x = 6 then 7 else 8) ≠ 6
  by_cases y : Θ.2.2 5 x = 6
  · rw [if_pos y]; decide
  · rw [if_neg y]; decide
theorem ShN.cd (hs : ShN Θ G nb x) (hn : nb ≤ Ψ.1.length) (hk : Θ.2.2 5 x = 4 ∨ Θ.2.2 5 x = 7) : okI Ψ (Θ.2.2 10 x) := by
  obtain ⟨l, e, hl⟩ := hs.2.2.1 hk
  exact ⟨l, e, by omega⟩
theorem W_lv2 (hB : WvB n0 l0 r0 M0) (hW : WvP n0 l0 r0 N0 Θ M0 Ψ M) (hP : RwP n0 P zp M) (hs : ShN Θ G nb x) (hnb : nb ≤ Ψ.1.length) (hlim : Ψ.1.length < 99890) (hi : i < (G x).length) (hI : InQ Θ G Ψ P i (i + 1) x) (hc : OkR Ψ P ((G x).getD i 0)) (K : ∀ M' Ψ' P', WvP n0 l0 r0 N0 Θ M0 Ψ' M' → RwP n0 P' zp M' → Gr (CxP Θ P x) Ψ Ψ' → (Ψ'.1.length ≤ Ψ.1.length + 24 ∧ Ψ'.2.2.length ≤ Ψ.2.2.length + lH (Θ.2.2 5 x) ∧ Ψ'.1.length + nk P' x ≤ Ψ.1.length + nk P x + nk P ((G x).getD i 0) + lW (Θ.2.2 5 x)) → InQ Θ G Ψ' P' (i + 1) (i + 1) x → (∀ z, SmA P P' z) → (∀ z, z ≠ x → SmK P P' z) → (∀ c j, n0 + 17 ≤ c → c ≤ n0 + 21 → P' c j = P c j) → Q none M') : E (h + 9) mdX9_leave [.ref 21, .int (Int32.ofNat ((G x).getD i 0))] M Q := by
  obtain ⟨⟨x1, x2, x3⟩, -, -, hL, hp, hk, h1⟩ := id hs
  obtain ⟨n1, -⟩ := id hB.1
  obtain ⟨-, -, -, -, hRo, -⟩ := hW.sees hB
  obtain ⟨c1, c2, c3⟩ := hL.2.2.1 i hi
  have hpi := hp i hi
  have ne : G x ≠ [] := fun e => by rw [e] at hi; exact absurd hi (Nat.not_lt_zero _)
  have kk := hk ne
  obtain ⟨⟨o1, o2⟩, op, sq⟩ := id hI
  by_cases k8 : Θ.2.2 5 x = 8
  · refine W_lv0 (h := h) hB hW c2 x3 hpi (by rw [k8]; decide) ?_
    refine K M Ψ P hW hP Gr.rf ⟨Nat.le_add_right _ _, Nat.le_add_right _ _, by omega⟩ ⟨⟨o1, o2⟩, fun y => ?_, fun w HV g => ⟨(sq w HV g).1, fun y => absurd k8 y⟩⟩ (fun _ _ _ _ => rfl) (fun _ _ _ _ => rfl) (fun _ _ _ _ => rfl)
    rw [k8] at y
    rcases y with y | y <;> exact absurd y (by decide)
  have kk : Θ.2.2 5 x = 4 ∨ Θ.2.2 5 x = 5 ∨ Θ.2.2 5 x = 6 ∨ Θ.2.2 5 x = 7 ∨ Θ.2.2 5 x = 9 := by
    rcases kk with y | y | y | y | y | y
    · exact Or.inl y
    · exact Or.inr (Or.inl y)
    · exact Or.inr (Or.inr (Or.inl y))
    · exact Or.inr (Or.inr (Or.inr (Or.inl y)))
    · exact absurd y k8
    · exact Or.inr (Or.inr (Or.inr (Or.inr y)))
  obtain ⟨l, hl⟩ : ∃ l, Θ.2.2 5 x = 6 ∨ Θ.2.2 5 x = 9 → P 26 x = Int32.ofNat (2 * l) ∧ l < Ψ.1.length ∧ rlC Ψ.2.1 (2 * l) (if Θ.2.2 5 x = 6 then 7 else 8) x := by
    by_cases y : Θ.2.2 5 x = 6 ∨ Θ.2.2 5 x = 9
    · obtain ⟨l, q1, q2, q3, -⟩ := op y
      exact ⟨l, fun _ => ⟨q1, q2, q3⟩⟩
    · exact ⟨0, fun z => absurd z y⟩
  have rl : Θ.2.2 5 x = 6 ∨ Θ.2.2 5 x = 9 → (Ψ.2.1.getD l (0, 0)).1 ≠ 0 ∧ (Ψ.2.1.getD l (0, 0)).1 ≠ 6 := fun y => by
    obtain ⟨q1, q2, -⟩ := hl y
    exact (hI.cx (by omega) l q2 ⟨y, q1⟩).1
  refine W_lv (h := h) (l := l) hB hW hP hlim x3 c2 c3 hpi kk o2 hc.2 (o1 22 (by decide) (by decide)) (o1 23 (by decide) (by decide)) (o1 25 (by decide) (by decide)) (fun y => hs.cd hnb (Or.inr y)) (fun y => ⟨(hl y).1, (hl y).2.1, rl y⟩) (fun M' Ψ' kv W' R' G' L' ok' cl' s' => ?_)
  obtain ⟨-, -, -, -, hRo', -⟩ := W'.sees hB
  have sA : ∀ z, SmA P (enP P x kv) z := fun z c z1 z2 => enP_n (by omega)
  have sK : ∀ z, z ≠ x → SmK P (enP P x kv) z := fun z hz n hn => enP_x hn hz
  have hcx : ∀ j, j < (G x).length → (G x).getD j 0 ≠ x := fun j hj => (hL.2.2.1 j hj).2.2
  have hC0 : ∀ n, n < Ψ.1.length → LvC (Θ.2.2 5 x) l n → (Ψ.2.1.getD n (0, 0)).1 ≠ 0 := fun n _ y => by rw [y.2]; exact (rl y.1).1
  refine K M' Ψ' (enP P x kv) W' R' (G'.more (fun n _ y => ⟨y.1, by rw [y.2]; exact (hl y.1).1⟩)) ⟨L'.1, L'.2.1, by rw [nk_en]; exact L'.2.2⟩ ⟨⟨fun c z1 z2 => by rw [sA x c z1 (by omega)]; exact (o1 c z1 z2).gr G', fun n hn => by rw [enP_i hn]; exact ok' n hn⟩, fun y => ?_, fun w HV g => ?_⟩ sA sK (fun c j z1 z2 => enP_n (by omega))
  · obtain ⟨q1, q2, q3, q4, q5⟩ := hl y
    have i0 : i = 0 := by have := h1 y; omega
    refine ⟨l, by rw [sA x 26 (by decide) (by decide)]; exact q1, by have := G'.1; omega, ⟨q3, by rw [hRo'.1]; have := G'.1; omega, by rw [show 2 * l / 2 = l by omega] at q5 ⊢; rw [G'.2.2.1 l q2]; exact q5⟩, fun _ => ?_⟩
    rw [clF_st (sA x) (sK _ (hcx 0 (by omega)))]
    have := cl' y
    rw [i0] at this
    exact this
  · have gb := g.bk G' hRo hRo' hC0
    obtain ⟨t1, t2⟩ := sq w HV gb
    refine ⟨fun j hj => ArN_st (sA x) (sA _).b (fun k hk => sK _ (hcx k (by omega))) (t1 j hj), fun _ n hn => ?_⟩
    rw [enP_i hn, s' w HV g n hn, acN_st (i := i + 1) (sA x) (fun j hj => sK _ (hcx j (by omega))) n hn]
    show _ = if Θ.2.2 5 x = 8 then _ else lvV _ n _ _ _ _ _
    rw [if_neg k8]
    exact lvV_cg (fun m hm => t2 k8 m hm) (fun m hm => rfl) n hn
theorem W_ar2 (hB : WvB n0 l0 r0 M0) (hW : WvP n0 l0 r0 N0 Θ M0 Ψ M) (hP : RwP n0 P zp M) (hs : ShN Θ G nb x) (hnb : nb ≤ Ψ.1.length) (hlim : Ψ.1.length < 99890) (hi : i < (G x).length) (hI : InQ Θ G Ψ P i i x) (K : ∀ M' Ψ' P', WvP n0 l0 r0 N0 Θ M0 Ψ' M' → RwP n0 P' zp M' → Gr noN Ψ Ψ' → (Ψ'.1.length ≤ Ψ.1.length + 5 ∧ Ψ'.1.length ≤ Ψ.1.length + aW (Θ.2.2 5 x) ∧ Ψ'.2.2.length ≤ Ψ.2.2.length + aH (Θ.2.2 5 x)) → InQ Θ G Ψ' P' i (i + 1) x → (∀ c, 22 ≤ c → c ≤ 25 → okI Ψ' (P' c ((G x).getD i 0))) → (∀ z, z ≠ (G x).getD i 0 → SmA P P' z) → (∀ z, SmK P P' z) → P' 26 ((G x).getD i 0) = P 26 ((G x).getD i 0) → (∀ c j, n0 + 17 ≤ c → c ≤ n0 + 21 → P' c j = P c j) → Q none M') : E (h + 9) mdX9_arrive [.ref 21, .int (Int32.ofNat ((G x).getD i 0))] M Q := by
  obtain ⟨⟨x1, x2, x3⟩, -, -, hL, hp, hk, h1⟩ := id hs
  obtain ⟨n1, -⟩ := id hB.1
  obtain ⟨-, -, -, -, hRo, -⟩ := hW.sees hB
  obtain ⟨c1, c2, c3⟩ := hL.2.2.1 i hi
  have hpi := hp i hi
  obtain ⟨⟨o1, o2⟩, op, sq⟩ := id hI
  have h5 : Θ.2.2 5 x = 5 → okI Ψ (P 28 (x * 20)) := fun _ => o2 0 (by decide)
  refine W_arr (h := h) hB hW hP (by omega) c2 x3 c3 hpi (o1 22 (by decide) (by decide)) (o1 23 (by decide) (by decide)) (o1 24 (by decide) (by decide)) (o1 25 (by decide) (by decide)) (fun y => hs.cd hnb y) h5 (fun y => ?_) (fun M' Ψ' g r s k W' R' G' L' ok' s' => ?_)
  · obtain ⟨l, q1, q2, -⟩ := op y
    exact ⟨2 * l, q1, by omega⟩
  obtain ⟨-, -, -, -, hRo', -⟩ := W'.sees hB
  obtain ⟨c, ec⟩ : ∃ c, c = (G x).getD i 0 := ⟨_, rfl⟩
  rw [← ec] at c1 c2 c3 R' s' K
  have sA : ∀ z, z ≠ c → SmA P (up4 P c g r s k) z := fun z hz c' _ _ => by unfold up4; rw [if_neg hz]
  have qn : ∀ c' j, 26 ≤ c' → up4 P c g r s k c' j = P c' j := fun c' j hc => by
    unfold up4
    by_cases hj : j = c
    · rw [if_pos hj, if_neg (by omega), if_neg (by omega), if_neg (by omega), if_neg (by omega)]
    · rw [if_neg hj]
  have sK : ∀ z, SmK P (up4 P c g r s k) z := fun z n _ => qn 28 _ (by decide)
  have nj : ∀ j, j < i → (G x).getD j 0 ≠ c := fun j hj e => by
    have := hL.2.2.2.1 j i (by omega) hi (e.trans ec)
    omega
  have hI' : InQ Θ G Ψ' (up4 P c g r s k) i i x := hI.st (sA x (fun e => c3 e.symm)) (sK x) (fun j hj => (sA _ (nj j hj)).b) (fun j _ => sK _) (Nat.le_succ _) G' hRo hRo' (fun _ _ y => y.elim) (fun _ _ y => y.elim)
  have q4 : up4 P c g r s k 22 c = g ∧ up4 P c g r s k 23 c = r ∧ up4 P c g r s k 24 c = s ∧ up4 P c g r s k 25 c = k := by unfold up4; simp
  refine K M' Ψ' (up4 P c g r s k) W' R' G' L' ⟨hI'.1, hI'.2.1, fun w HV gw => ⟨fun j hj => ?_, (hI'.2.2 w HV gw).2⟩⟩ (fun c' z1 z2 => ?_) sA sK (qn 26 c (by decide)) (fun c' j z1 z2 => qn c' j (by omega))
  · by_cases z : j = i
    · obtain ⟨t1, t2, t3, t4⟩ := s' w HV gw
      rw [z]
      unfold ArN
      rw [← ec, sA x (fun e => c3 e.symm) 22 (by decide) (by decide), sA x (fun e => c3 e.symm) 23 (by decide) (by decide), sA x (fun e => c3 e.symm) 24 (by decide) (by decide), sA x (fun e => c3 e.symm) 25 (by decide) (by decide), sA x (fun e => c3 e.symm) 26 (by decide) (by decide)]
      refine ⟨?_, t2, t3, t4⟩
      rw [t1]
      have df : decide (Θ.2.2 6 x = Int32.ofNat c) = decide (i = 0) := by
        by_cases y : i = 0
        · rw [decide_eq_true y, decide_eq_true]
          rw [hL.1, ec, y]
        · rw [decide_eq_false y, decide_eq_false]
          intro e
          rw [hL.1, ec] at e
          have hb0 := (hL.2.2.1 0 (by omega)).2.1
          have := inj32 (by omega) (by rw [← ec]; omega) e
          have := hL.2.2.2.1 0 i (by omega) hi this
          omega
      rw [df]
      by_cases k8 : Θ.2.2 5 x = 8
      · unfold arG
        rw [if_neg (by rw [k8]; decide), if_neg (by rw [k8]; decide), if_neg (by rw [k8]; decide), if_neg (by rw [k8]; decide), if_neg (by rw [k8]; decide)]
      · have e0 := (hI'.2.2 w HV gw).2 k8 0 (by decide)
        rw [qn 28 _ (by decide), Nat.add_zero] at e0
        rw [e0]
    · exact (hI'.2.2 w HV gw).1 j (by omega)
  · have : c' = 22 ∨ c' = 23 ∨ c' = 24 ∨ c' = 25 := by omega
    rcases this with e | e | e | e
    · rw [e, q4.1]; exact ok'.1
    · rw [e, q4.2.1]; exact ok'.2.1
    · rw [e, q4.2.2.1]; exact ok'.2.2.1
    · rw [e, q4.2.2.2]; exact ok'.2.2.2
end
