/-! the class reads parts: conditions, the literals of ifs -/
section
variable {b : Nat → Int32} {n s n0 : Nat} {τ : Td} {M0 M M' : Mem} {i o i' o' : Nat} {γ : ClT} {cn cn' : Nat → Nat} {ps : List Nat} {tl : List Int64} {f c : Int32} {p t t' h B : Nat} {Q : Option Value → Mem → Prop} {W : Nat}
def coG (γ : ClT) (C : LsT) : ClT := (γ.1, γ.2.1, C.1, C.2.1, γ.2.2.2.2)
def coC (τ : Td) (γ : ClT) (Y Z : List Cd) : LsT := cyL (sgT τ.1.length) (γ.2.2.1, γ.2.2.2.1, List.replicate Y.length 0) (Z.drop Y.length)
def EdC (b : Nat → Int32) (n s n0 : Nat) (τ : Td) (M0 : Mem) (o : Nat) (Y : List Cd) (γ : ClT) (cn : Nat → Nat) (ps : List Nat) (tl : List Int64) (Q : Int32 → Mem → Prop) (R : Except (Int32 × Nat) (Nat × List Cd)) : Prop := match R with
  | .ok r => ∀ M', CS b n s n0 τ M0 M' r.1 o (coG γ (coC τ γ Y r.2)) cn ps tl → Q (Int32.ofNat ((coC τ γ Y r.2).2.2.getD (r.2.length - 1) 0)) M'
  | .error e => ∀ M' v, CX n0 τ M0 (s + 70) 0 M' e.1 e.2 ps tl γ.2.1.1 → Q v M'
theorem Z_cond {Y : List Cd} {H : Nat} (hB : By b) (hS : Sto b n s) (hC : CS b n s n0 τ M0 M i o γ cn ps tl) (ho : o ≤ 15) (hH : 60 ≤ H) (hE : EdC b n s n0 τ M0 o Y γ cn ps tl (fun v M' => Q (some (.int v)) M') (rc b n τ.1 6000 3 i o Y)) : E H mdX4_readCondition [.ref 14] M Q := by
  obtain ⟨lc, rr, cc, pb, ib, hQ⟩ := id hC.2.1
  have L := hC.len
  have l1 := hC.2.2.1
  have F := hC.1.1
  have n1 := hQ.1.n1
  have hok := rc_ok (sN := τ.1) hS 6000 3 i o Y (by decide) L.2.2.1 hC.1.2.2.2.2.2.2.2.2.2
  refine (C_rc hB hS 6000).2.2.2.1 M i o Y (γ.2.2.1, γ.2.2.2.1, List.replicate Y.length 0) lc rr H Q (by omega) (by omega) ho (by show γ.2.2.1.length + (s + 1 - i) ≤ 50000; omega) hC.1 hQ.1 (List.length_replicate) (fun x hx => by rw [List.eq_of_mem_replicate hx]; show 0 < 2 * γ.2.2.1.length; omega) ?_
  cases e : rc b n τ.1 6000 3 i o Y with
  | error y =>
    rw [e] at hE
    intro M' lc' rc' N' bf' v T' C' k hN' _
    have hN' : N'.length ≤ γ.2.2.1.length + (s + 1 - i) := hN'
    refine hE M' _ ⟨T', _, cn, ⟨lc', rc', cc, pb, ib, hQ.cond F k C'⟩, ?_, ?_, Nat.le_refl _, ?_, by omega⟩
    · show N'.length ≤ s + 70 + 0; omega
    · have := hC.2.2.2.1; show γ.2.2.2.2.2.1.length ≤ 4 * (s + 70) + 0; omega
    · have := hC.2.2.2.2; show γ.2.2.2.2.1.length ≤ 45 + 0; omega
  | ok r =>
    rw [e] at hE hok
    obtain ⟨k1, k2, k3, ⟨Z, hZ, hZl⟩, -⟩ := hok
    intro M' lc' rc' T' C' _ k
    have lZ := (cyL_len (sg := sgT τ.1.length) (r.2.drop Y.length) (γ.2.2.1, γ.2.2.2.1, List.replicate Y.length 0)).2.1
    have dZ : (r.2.drop Y.length).length = Z.length := by rw [hZ, List.drop_left]
    refine hE M' ⟨T', ⟨lc', rc', cc, pb, ib, hQ.cond F k C'⟩, ?_, ?_, hC.2.2.2.2⟩
    · show (cyL (sgT τ.1.length) (γ.2.2.1, γ.2.2.2.1, List.replicate Y.length 0) (r.2.drop Y.length)).1.length ≤ 18 + r.1
      have lZ : (cyL (sgT τ.1.length) (γ.2.2.1, γ.2.2.2.1, List.replicate Y.length 0) (r.2.drop Y.length)).1.length ≤ γ.2.2.1.length + (r.2.drop Y.length).length := lZ
      omega
    · have := hC.2.2.2.1; show γ.2.2.2.2.2.1.length ≤ 3 * r.1; omega
theorem V_cond {H : Nat} (hC : CX n0 τ M0 W B M f p ps tl t) (hH : 5 ≤ H) (hQ : Q (some (.int 0)) M) : E H mdX4_readCondition [.ref 14] M Q := by
  obtain ⟨H, rfl⟩ : ∃ H', H = H' + 5 := ⟨H - 5, by omega⟩
  exact X_cond hC.1 hQ
/-- the cells that an if's literal changes -/
theorem AiF.hi {lc rc cc pb ib lc' rc' ib' q : Nat} (hQ : CQh n0 τ M0 M γ cn ps tl lc rc cc pb ib) (k : AiF M M' (n0 + 8) (n0 + 15) ib lc rc lc' rc' ib' q) : fr (fun c => 132 ≤ c) M M' := by
  obtain ⟨q1, q2, q3, q4, -⟩ := hQ.lim
  have l4 := hQ.2.2.2.1.2.2.2.1
  refine k.1.more (fun a _ z => ?_)
  have big : 132 ≤ mBig + 5 := by unfold mBig; omega
  rcases z with z | z | z | z | z
  · omega
  · omega
  · omega
  · omega
  · rcases l4 with y | y
    · rw [z.1, y]; exact big
    · omega
theorem Z_if (hC : CS b n s n0 τ M0 M i o γ cn ps tl) (hx : γ.2.2.2.2.1.length < cn 2) (hN : γ.2.2.1.length + 1 ≤ 18 + i) (H : ∀ M', CS b n s n0 τ M0 M' i o (γ.1, γ.2.1, (frL γ.2.2.1).1, γ.2.2.2.1, γ.2.2.2.2.1 ++ [Int32.ofNat (2 * γ.2.2.1.length)], γ.2.2.2.2.2) cn ps tl → Q (some (.int (Int32.ofNat (2 * γ.2.2.1.length)))) M') : E (h + 7) mdX0_addIf [.ref (n0 + 8)] M Q := by
  obtain ⟨lc, rr, cc, pb, ib, hQ⟩ := id hC.2.1
  have L := hC.len
  have l2 := hC.2.2.2.1
  have l3 := hC.2.2.2.2
  refine S_addIf hQ.1.2.1 (by omega) hC.2.1.nz.2.2.2.2.2.2.2.2.2 hQ.2.2.2.1.2.1 (by omega) (fun M' lc' rc' ib' C' A' k => ?_)
  refine H M' ⟨TI_hi hC.1 (AiF.hi hQ k), ⟨lc', rc', cc, pb, ib', hQ.aif (by omega) (by omega) (by omega) k C' A'⟩, ?_, l2, ?_, l3.2⟩
  · show (frL γ.2.2.1).1.length ≤ 18 + i
    rw [show (frL γ.2.2.1).1.length = γ.2.2.1.length + 1 by simp [frL]]
    exact hN
  · show (γ.2.2.2.2.1 ++ [Int32.ofNat (2 * γ.2.2.1.length)]).length ≤ cn 2
    rw [List.length_append]
    exact hx
theorem V_if (hC : CX n0 τ M0 W B M f p ps tl t) (hB : B ≤ 20) (H : ∀ M' v, CX n0 τ M0 W (B + 1) M' f p ps tl t → Q (some (.int v)) M') : E (h + 7) mdX0_addIf [.ref (n0 + 8)] M Q := by
  have n8 := hC.nz.2.2.2.2.2.2.2.2.2
  obtain ⟨h1, γ, cn, ⟨lc, rr, cc, pb, ib, hQ⟩, h3, h4, h5, h6⟩ := hC
  refine S_addIf hQ.1.2.1 (by omega) n8 hQ.2.2.2.1.2.1 (by omega) (fun M' lc' rc' ib' C' A' k => ?_)
  refine H M' _ ⟨TF_hi h1 (AiF.hi hQ k), _, cn, ⟨lc', rc', cc, pb, ib', hQ.aif (by omega) (by omega) (by omega) k C' A'⟩, ?_, by show γ.2.2.2.2.2.1.length ≤ _; omega, h5, ?_, h6.2⟩
  · show (frL γ.2.2.1).1.length ≤ _
    rw [show (frL γ.2.2.1).1.length = γ.2.2.1.length + 1 by simp [frL]]
    omega
  · show (γ.2.2.2.2.1 ++ [Int32.ofNat (2 * γ.2.2.1.length)]).length ≤ _
    rw [List.length_append]
    show γ.2.2.2.2.1.length + 1 ≤ _
    omega
end
