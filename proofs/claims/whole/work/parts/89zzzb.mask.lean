/-! which variables sums use: masks -/
/-- what nodes of sums use -/
def usX : List Nd → Int32
  | [] => 0
  | e :: t => (if e.1 = 1 then (1 : Int32) <<< (e.2.1.toInt32 &&& 31) else 0) ||| usX t
theorem usX_app : ∀ (s t : List Nd), usX (s ++ t) = usX s ||| usX t
  | [], t => by show usX t = 0 ||| usX t; rw [Int32.zero_or]
  | e :: s, t => by show _ ||| usX (s ++ t) = (_ ||| usX s) ||| usX t; rw [usX_app s t, Int32.or_assoc]
theorem usX_one {e : Nd} (h : e.1 ≠ 1) : usX [e] = 0 := by show (if e.1 = 1 then _ else (0 : Int32)) ||| (0 : Int32) = 0; rw [if_neg h, Int32.or_zero]
theorem opS_ne {k : Int32} : opS k ≠ 1 := by
  unfold opS
  repeat (first | split | decide)
/-- what a reading adds to a sum's nodes and to what is used -/
def UsR (X : List Nd) (u : Int32) (r : List Nd × Int32) : Prop := ∃ Y, r.1 = X ++ Y ∧ r.2 = u ||| usX Y
theorem UsR.rf {X : List Nd} {u : Int32} : UsR X u (X, u) := ⟨[], (List.append_nil X).symm, (Int32.or_zero).symm⟩
theorem UsR.tr {X : List Nd} {u : Int32} {r s : List Nd × Int32} (h : UsR X u r) (k : UsR r.1 r.2 s) : UsR X u s := by
  obtain ⟨Y, h1, h2⟩ := h
  obtain ⟨Z, k1, k2⟩ := k
  exact ⟨Y ++ Z, by rw [k1, h1, List.append_assoc], by rw [k2, h2, usX_app, Int32.or_assoc]⟩
theorem UsR.no {X : List Nd} {u : Int32} {e : Nd} (h : e.1 ≠ 1) : UsR X u (X ++ [e], u) := ⟨[e], rfl, by rw [usX_one h, Int32.or_zero]⟩
section
variable {b : Nat → Int32} {n : Nat} {sN : List Int64} {mx : List Int32} {vN : List Int64}
theorem rd_us (hv : vN.length < 1000) : ∀ (g md i o : Nat) (X : List Nd) (u : Int32) (r : Nat × List Nd × Int32), rd b n sN mx vN g md i o X u = .ok r → UsR X u r.2 := by
  intro g
  induction g with
  | zero => intro md i o X u r e; unfold rd at e; cases e
  | succ g ih =>
    intro md i o X u r e
    unfold rd at e
    by_cases m0 : md = 0
    · rw [if_pos m0] at e
      by_cases k3 : tK b n i = 3
      · rw [if_pos k3] at e
        obtain ⟨j, -, e⟩ := bind_ok e
        cases e
        exact UsR.no (by show (0 : Nat) ≠ 1; decide)
      rw [if_neg k3] at e
      by_cases k2 : tK b n i = 2
      · rw [if_pos k2] at e
        cases hf : fd vN (tC b n i) with
        | none => rw [hf] at e; cases e
        | some k =>
          rw [hf] at e
          obtain ⟨j, -, e⟩ := bind_ok e
          cases e
          have hk := (fd_some hf).1
          refine ⟨[(1, Int64.ofNat k, 0)], rfl, ?_⟩
          show u ||| _ = u ||| ((if (1 : Nat) = 1 then (1 : Int32) <<< ((Int64.ofNat k).toInt32 &&& 31) else 0) ||| 0)
          rw [if_pos rfl, Int32.or_zero, n64_32 (by omega)]
      rw [if_neg k2] at e
      by_cases k19 : tK b n i = 19
      · rw [if_pos k19] at e
        obtain ⟨j, -, e⟩ := bind_ok e
        by_cases kj : tK b n j = 2
        · rw [if_pos kj] at e
          cases hf : fd sN (tC b n j) with
          | none => rw [hf] at e; cases e
          | some k =>
            rw [hf] at e
            have e : (if mx.getD k 0 = 0 then Except.error (4, tP b n j) else (adv' b n j).bind fun j' => _) = .ok r := e
            by_cases km : mx.getD k 0 = 0
            · rw [if_pos km] at e; cases e
            rw [if_neg km] at e
            obtain ⟨j2, -, e⟩ := bind_ok e
            cases e
            exact UsR.no (by show (2 : Nat) ≠ 1; decide)
        · rw [if_neg kj] at e; cases e
      rw [if_neg k19] at e
      by_cases k21 : tK b n i = 21
      · rw [if_pos k21] at e
        by_cases ko : o = 15
        · rw [if_pos ko] at e; cases e
        rw [if_neg ko] at e
        obtain ⟨j, -, e⟩ := bind_ok e
        obtain ⟨q, e1, e⟩ := bind_ok e
        cases e
        exact (ih _ _ _ _ _ _ e1).tr (UsR.no (by show (3 : Nat) ≠ 1; decide))
      rw [if_neg k21] at e
      by_cases k15 : tK b n i = 15
      · rw [if_pos k15] at e
        by_cases ko : o = 15
        · rw [if_pos ko] at e; cases e
        rw [if_neg ko] at e
        obtain ⟨j, -, e⟩ := bind_ok e
        obtain ⟨q, e1, e⟩ := bind_ok e
        by_cases k16 : tK b n q.1 = 16
        · rw [if_pos k16] at e
          obtain ⟨j2, -, e⟩ := bind_ok e
          cases e
          have z := ih _ _ _ _ _ _ e1
          exact z
        · rw [if_neg k16] at e; cases e
      · rw [if_neg k15] at e; cases e
    rw [if_neg m0] at e
    by_cases m1 : md = 1
    · rw [if_pos m1] at e
      obtain ⟨q, e1, e⟩ := bind_ok e
      exact (ih _ _ _ _ _ _ e1).tr (ih _ _ _ _ _ _ e)
    rw [if_neg m1] at e
    by_cases m2 : md = 2
    · rw [if_pos m2] at e
      by_cases kk : tK b n i = 22 ∨ tK b n i = 23 ∨ tK b n i = 24
      · rw [if_pos kk] at e
        obtain ⟨j, -, e⟩ := bind_ok e
        obtain ⟨q, e1, e⟩ := bind_ok e
        exact ((ih _ _ _ _ _ _ e1).tr (UsR.no (e := (opS (tK b n i), Int64.ofNat (X.length - 1), q.2.1.length - 1)) opS_ne)).tr (ih _ _ _ _ _ _ e)
      · rw [if_neg kk] at e; cases e; exact UsR.rf
    rw [if_neg m2] at e
    by_cases m3 : md = 3
    · rw [if_pos m3] at e
      obtain ⟨q, e1, e⟩ := bind_ok e
      exact (ih _ _ _ _ _ _ e1).tr (ih _ _ _ _ _ _ e)
    rw [if_neg m3] at e
    by_cases kk : tK b n i = 20 ∨ tK b n i = 21
    · rw [if_pos kk] at e
      obtain ⟨j, -, e⟩ := bind_ok e
      obtain ⟨q, e1, e⟩ := bind_ok e
      exact ((ih _ _ _ _ _ _ e1).tr (UsR.no (e := (opS (tK b n i), Int64.ofNat (X.length - 1), q.2.1.length - 1)) opS_ne)).tr (ih _ _ _ _ _ _ e)
    · rw [if_neg kk] at e; cases e; exact UsR.rf
end
