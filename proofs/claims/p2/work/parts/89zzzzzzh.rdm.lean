/-! a whole reading that succeeds: what is known of it, on both sides -/
section
variable {b : Nat → Int32} {n s m : Nat} {A : Nat → Nat → Int32} {B : Nat → Int64} {Zt : Nat → Nat → Int32} {r : Nat × Td × PS × Nat}
theorem rdm_all (hB : By b) (hS : Sto b n s) (h4 : m < 4) (hv : HvT r.2.1) (hZ : Zt 5 0 = 0) (e : rdM b n m A B Zt = .ok r) : ∃ γ g, RdE r.2.1 m r.2.2.1 r.2.2.2 γ g ∧ RdX r.2.1 r.2.2.1 r.2.2.2 γ := by
  unfold rdM at e
  by_cases k0 : tK b n 0 = 0
  · rw [if_pos k0] at e; cases e
  rw [if_neg k0] at e
  obtain ⟨q, et, e⟩ := bind_ok e
  obtain ⟨p, eq, e⟩ := bind_ok e
  cases e
  have ok1 := td_ok hS 900 0 td0 (by have := hS.1; have := hS.2.1; omega) (Nat.zero_le _) k0
  rw [et] at ok1
  obtain ⟨o1, o2, o3, -⟩ := ok1
  have ep := eq
  unfold rdQ at ep
  obtain ⟨u, eu, ep⟩ := bind_ok ep
  have up : u = p := by
    by_cases z : tK b n u.1 = 1
    · rw [if_pos z] at ep; cases ep; rfl
    · rw [if_neg z] at ep; cases ep
  subst up
  have xl := rp_xl 6000 0 [] q.1 (σI A B (cl0 Zt q.2)) 0 0 0 0 0 0 u (by decide) eu
  have ok2 := rp_ok (τ := q.2) (m := m) hS 6000 0 [] q.1 (σI A B (cl0 Zt q.2)) 0 0 0 0 0 0 (by decide) o2 o3 σI_ok
  rw [eu] at ok2
  have us : u.1 ≤ s := ok2.2.1
  refine rd_all2 (i := q.1) hB hS h4 hv o2 o3 hZ eq ?_
  have xl : u.2.1.2.2.1.length + q.1 ≤ 0 + u.1 := xl
  have := hS.1
  have := hS.2.1
  omega
end
