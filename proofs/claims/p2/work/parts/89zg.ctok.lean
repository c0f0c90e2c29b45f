/-! the class reads parts: tokens, sums, conditions -/
section
variable {b : Nat → Int32} {n s n0 : Nat} {τ : Td} {M0 M M' : Mem} {i o i' o' : Nat} {γ : ClT} {cn cn' : Nat → Nat} {ps : List Nat} {tl : List Int64} {f c : Int32} {p t t' h B : Nat} {Q : Option Value → Mem → Prop} {W : Nat}
def EdN (b : Nat → Int32) (n s n0 : Nat) (τ : Td) (M0 : Mem) (o : Nat) (γ : ClT) (cn : Nat → Nat) (ps : List Nat) (tl : List Int64) (Q : Mem → Prop) (R : Except (Int32 × Nat) Nat) : Prop := match R with
  | .ok j => ∀ M', CS b n s n0 τ M0 M' j o γ cn ps tl → Q M'
  | .error e => ∀ M', CX n0 τ M0 (s + 70) 0 M' e.1 e.2 ps tl γ.2.1.1 → Q M'
theorem Z_adv (hS : Sto b n s) (hC : CS b n s n0 τ M0 M i o γ cn ps tl) (h1 : tK b n i ≠ 1) (hE : EdN b n s n0 τ M0 o γ cn ps tl (fun M' => Q none M') (adv' b n i)) : E (h + 1) mdX7_advance [.ref 15] M Q := by
  have hs := hS.lt hC.1.2.1.2.2 hC.1.2.2.2.2.2.2.2.2.2 h1
  rcases adv_cases (b := b) (n := n) (i := i) with ⟨k1, e⟩ | ⟨k1, e⟩ <;> rw [e] at hE
  · exact A_adv hC.1 hs (fun z => absurd k1 z) (fun _ M' T k => hE M' (hC.x k T))
  · exact A_adv hC.1 hs (fun _ M' T k => hE M' (hC.tok k T (Nat.le_succ _))) (fun z => absurd z k1)
theorem Z_expect (hS : Sto b n s) (hC : CS b n s n0 τ M0 M i o γ cn ps tl) (c1 : c ≠ 1) (hE : EdN b n s n0 τ M0 o γ cn ps tl (fun M' => Q none M') (ex b n i c)) : E (h + 2) mdX7_expect [.ref 15, .int c] M Q := by
  unfold ex at hE
  refine A_expect hC.1 c1 (fun q k M' T kf => ?_) (fun q k M' T kf => ?_) (fun q M' T kf => ?_) hS.2.2.1
  · rw [if_pos q] at hE
    unfold adv' at hE
    rw [if_neg k] at hE
    exact hE M' (hC.tok kf T (Nat.le_succ _))
  · rw [if_pos q] at hE
    unfold adv' at hE
    rw [if_pos k] at hE
    exact hE M' (hC.x kf T)
  · rw [if_neg q] at hE
    exact hE M' (hC.x kf T)
theorem Z_accept (hS : Sto b n s) (hC : CS b n s n0 τ M0 M i o γ cn ps tl) (c1 : c ≠ 1) (hE : tK b n i = c → EdN b n s n0 τ M0 o γ cn ps tl (fun M' => Q (some (.int 1)) M') (adv' b n i)) (H0 : tK b n i ≠ c → Q (some (.int 0)) M) : E (h + 2) mdX7_accept [.ref 15, .int c] M Q := by
  refine A_accept hC.1 hS c1 (fun q k M' T kf => ?_) (fun q k M' T kf => ?_) H0
  · have hE := hE q
    unfold adv' at hE
    rw [if_neg k] at hE
    exact hE M' (hC.tok kf T (Nat.le_succ _))
  · have hE := hE q
    unfold adv' at hE
    rw [if_pos k] at hE
    exact hE M' (hC.x kf T)
theorem Z_fail (hC : CS b n s n0 τ M0 M i o γ cn ps tl) (hc : c ≠ 0) (H : ∀ M', CX n0 τ M0 (s + 70) 0 M' c (tP b n i) ps tl γ.2.1.1 → Q none M') : E (h + 1) mdX7_fail [.ref 15, .int c] M Q := A_fail hC.1 hc (fun M' T k => H M' (hC.x k T))
theorem V_expect (hC : CX n0 τ M0 W B M f p ps tl t) (hc : c ≠ 0) (H : Q none M) : E (h + 2) mdX7_expect [.ref 15, .int c] M Q := F_expect hC.1 hc H
theorem V_accept (hC : CX n0 τ M0 W B M f p ps tl t) (hc : c ≠ 0) (H : Q (some (.int 0)) M) : E (h + 2) mdX7_accept [.ref 15, .int c] M Q := F_accept hC.1 hc H
theorem V_adv (hC : CX n0 τ M0 W B M f p ps tl t) (H : Q none M) : E (h + 1) mdX7_advance [.ref 15] M Q := F_adv hC.1 H
theorem V_fail (hC : CX n0 τ M0 W B M f p ps tl t) (H : Q none M) : E (h + 1) mdX7_fail [.ref 15, .int c] M Q := F_fail hC.1 H
theorem V_closes (hC : CX n0 τ M0 W B M f p ps tl t) (H : ∀ M', CX n0 τ M0 W B M' f p ps tl t → Q none M') : E (h + 1) mdX7_closes [.ref 15] M Q := F_closes hC.1 (fun M' T k => H M' (hC.tok k T))
theorem V_opens (hC : CX n0 τ M0 W B M f p ps tl t) (H : ∀ M', CX n0 τ M0 W B M' f p ps tl t → Q none M') : E (h + 2) mdX7_opens [.ref 15] M Q := F_opens hC.1 (fun M' T k => H M' (hC.tok k T))
theorem Z_closes (hC : CS b n s n0 τ M0 M i (o + 1) γ cn ps tl) (ho : o ≤ 20) (H : ∀ M', CS b n s n0 τ M0 M' i o γ cn ps tl → Q none M') : E (h + 1) mdX7_closes [.ref 15] M Q := A_closes hC.1 ho (fun M' T k => H M' (hC.tok k T (Nat.le_refl _)))
theorem Z_opens (hC : CS b n s n0 τ M0 M i o γ cn ps tl) (ho : o ≤ 15) (H1 : o < 15 → ∀ M', CS b n s n0 τ M0 M' i (o + 1) γ cn ps tl → Q none M') (H0 : o = 15 → ∀ M', CX n0 τ M0 (s + 70) 0 M' 6 (tP b n i) ps tl γ.2.1.1 → Q none M') : E (h + 2) mdX7_opens [.ref 15] M Q := A_opens hC.1 ho (fun q M' T k => H1 q M' (hC.tok k T (Nat.le_refl _))) (fun q M' T k => H0 q M' (hC.x k T))
/-- γ with other codes of sums and other variables used -/
def suG (γ : ClT) (l : List Int32) (u : Int32) : ClT := (γ.1, γ.2.1, γ.2.2.1, γ.2.2.2.1, γ.2.2.2.2.1, l, γ.2.2.2.2.2.2.1, u)
def EdS (b : Nat → Int32) (n s n0 : Nat) (τ : Td) (M0 : Mem) (o : Nat) (X : List Nd) (γ : ClT) (cn : Nat → Nat) (ps : List Nat) (tl : List Int64) (Q : Mem → Prop) (R : Except (Int32 × Nat) (Nat × List Nd × Int32)) : Prop := match R with
  | .ok r => ∀ M', CS b n s n0 τ M0 M' r.1 o (suG γ (γ.2.2.2.2.2.1 ++ cdL (r.2.1.drop X.length)) r.2.2) cn ps tl → (γ.2.2.2.2.2.1 ++ cdL (r.2.1.drop X.length)).length + 1 ≤ 3 * r.1 → Q M'
  | .error e => ∀ M', CX n0 τ M0 (s + 70) 0 M' e.1 e.2 ps tl γ.2.1.1 → Q M'
theorem CQh.ri (hC : CS b n s n0 τ M0 M i o γ cn ps tl) {lc rc cc pb ib : Nat} (hQ : CQh n0 τ M0 M γ cn ps tl lc rc cc pb ib) : RI b n s n0 τ.1 τ.2.1 τ.2.2.1 τ.2.2.2.1 M i o γ.2.2.2.2.2.2.2 γ.2.2.2.2.2.1 cc := ⟨hC.1, hQ.1.1, hQ.2.1.1, hQ.2.1.2.1, hQ.2.2.2.2.1.2.2.2.1, hQ.1.2.2.2.2.2.2.2.2.2.1, hQ.lim.1, hQ.lim.2.1⟩
/-- a sum -/
theorem Z_sum {X : List Nd} {H : Nat} (hB : By b) (hS : Sto b n s) (hC : CS b n s n0 τ M0 M i o γ cn ps tl) (ho : o ≤ 15) (hH : 72 ≤ H) (hE : EdS b n s n0 τ M0 o X γ cn ps tl (fun M' => Q none M') (rd b n τ.1 τ.2.2.1 τ.2.2.2.1 6000 3 i o X γ.2.2.2.2.2.2.2)) : E H mdX4_readSum [.ref 14] M Q := by
  obtain ⟨lc, rr, cc, pb, ib, hQ⟩ := id hC.2.1
  have L := hC.len
  have l2 := hC.2.2.2.1
  have F := hC.1.1
  have hok := rd_ok (sN := τ.1) (mx := τ.2.2.1) (vN := τ.2.2.2.1) hS 6000 3 i o X γ.2.2.2.2.2.2.2 (by decide) L.2.2.1 hC.1.2.2.2.2.2.2.2.2.2
  refine (C_rd hB hS 6000).2.2.2.1 M i o X _ _ cc H Q (by omega) (by omega) ho (by omega) (hQ.ri hC) ?_
  cases e : rd b n τ.1 τ.2.2.1 τ.2.2.2.1 6000 3 i o X γ.2.2.2.2.2.2.2 with
  | error y =>
    rw [e] at hE
    intro M' cc' l' R' hl' k
    refine hE M' ⟨R'.1, _, cn, ⟨lc, rr, cc', pb, ib, hQ.sum F k R'.2.2.1 R'.2.2.2.1⟩, ?_, ?_, Nat.le_refl _, by have := hC.2.2.2.2; show γ.2.2.2.2.1.length ≤ _; omega, by omega⟩
    · have := hC.2.2.1; show γ.2.2.1.length ≤ s + 70 + 0; omega
    · show l'.length ≤ 4 * (s + 70) + 0; omega
  | ok r =>
    rw [e] at hE hok
    obtain ⟨k1, k2, k3, ⟨Z, hZ, hZl⟩, k5⟩ := hok
    have k5 := (k5 (Or.inr (Or.inr rfl))).1
    intro M' cc' R' k
    have e6 : mI M' 14 6 = r.2.2 := R'.2.2.2.2.1
    have lZ : (cdL (r.2.1.drop X.length)).length ≤ 2 * (r.1 - i) := by
      rw [hZ, List.drop_left]
      have := cdL_len (X := Z)
      omega
    have hl' : (γ.2.2.2.2.2.1 ++ cdL (r.2.1.drop X.length)).length + 1 ≤ 3 * r.1 := by rw [List.length_append]; omega
    have q := hQ.sum F k R'.2.2.1 R'.2.2.2.1
    rw [e6] at q
    exact hE M' ⟨R'.1, ⟨lc, rr, cc', pb, ib, q⟩, by have := hC.2.2.1; show γ.2.2.1.length ≤ 18 + r.1; omega, by show (γ.2.2.2.2.2.1 ++ cdL (r.2.1.drop X.length)).length ≤ 3 * r.1; omega, hC.2.2.2.2⟩ hl'
/-- the stop behind a sum -/
theorem Z_stop (hC : CS b n s n0 τ M0 M i o γ cn ps tl) (hl : γ.2.2.2.2.2.1.length + 1 ≤ 3 * i) (H : ∀ M', CS b n s n0 τ M0 M' i o (suG γ (γ.2.2.2.2.2.1 ++ [0]) γ.2.2.2.2.2.2.2) cn ps tl → Q none M') : E (h + 3) mdX6_add [.ref (n0 + 22), .int 0] M Q := by
  obtain ⟨lc, rr, cc, pb, ib, hQ⟩ := id hC.2.1
  have L := hC.len
  have F := hC.1.1
  refine A_add (hQ.ri hC) (by omega) (fun M' cc' R' k => ?_)
  have e6 : mI M' 14 6 = γ.2.2.2.2.2.2.2 := R'.2.2.2.2.1
  have q := hQ.sum F k R'.2.2.1 R'.2.2.2.1
  rw [e6] at q
  exact H M' ⟨R'.1, ⟨lc, rr, cc', pb, ib, q⟩, hC.2.2.1, by show (γ.2.2.2.2.2.1 ++ [0]).length ≤ 3 * i; rw [List.length_append]; exact hl, hC.2.2.2.2⟩
theorem V_sum {H : Nat} (hC : CX n0 τ M0 W B M f p ps tl t) (hH : 4 ≤ H) (hQ : Q none M) : E H mdX4_readSum [.ref 14] M Q := by
  obtain ⟨h1, γ, cn, ⟨lc, rr, cc, pb, ib, hq⟩, h3, h4, h5⟩ := hC
  obtain ⟨H, rfl⟩ : ∃ H', H = H' + 4 := ⟨H - 4, by omega⟩
  exact X_sum (n0 := n0) (sN := τ.1) (ro := τ.2.1) (mx := τ.2.2.1) (vN := τ.2.2.2.1) (l := γ.2.2.2.2.2.1) (cc := cc) (f := f) (p := p) ⟨h1, hq.1.1, hq.2.1.1, hq.2.1.2.1, hq.1.2.2.2.2.2.2.2.2.2.1, hq.lim.1, hq.lim.2.1⟩ hQ
/-- the stop, behind a fault -/
theorem V_stop (hC : CX n0 τ M0 W B M f p ps tl t) (hL : B ≤ 10000) (H : ∀ M', CX n0 τ M0 W (B + 1) M' f p ps tl t → Q none M') : E (h + 3) mdX6_add [.ref (n0 + 22), .int 0] M Q := by
  obtain ⟨h1, γ, cn, ⟨lc, rr, cc, pb, ib, hq⟩, h3, h4, h5⟩ := hC
  refine X_add (n0 := n0) (sN := τ.1) (ro := τ.2.1) (mx := τ.2.2.1) (vN := τ.2.2.2.1) (l := γ.2.2.2.2.2.1) (cc := cc) (f := f) (p := p) ⟨h1, hq.1.1, hq.2.1.1, hq.2.1.2.1, hq.1.2.2.2.2.2.2.2.2.2.1, hq.lim.1, hq.lim.2.1⟩ (by omega) (fun M' cc' R' k => ?_)
  refine H M' ⟨R'.1, _, cn, ⟨lc, rr, cc', pb, ib, hq.sum h1.1 k R'.2.2.1 R'.2.2.2.1⟩, by show γ.2.2.1.length ≤ _; omega, ?_, h5.1, by have := h5.2.1; show γ.2.2.2.2.1.length ≤ _; omega, h5.2.2⟩
  show (γ.2.2.2.2.2.1 ++ [0]).length ≤ 4 * W + (B + 1)
  rw [List.length_append]
  exact Nat.add_le_add_right h4 1
end
