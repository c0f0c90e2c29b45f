/-! the class: a new module, as its reading begins -/
/-- what of it the reading never touches -/
def MdN (n0 : Nat) (M : Mem) : Prop := (ALi M (n0 + 13) (mBig + 5) [] ∧ mR M (n0 + 8) 5 = some (n0 + 13)) ∧ (ALi M (n0 + 14) (mBig + 5) [] ∧ mR M (n0 + 8) 6 = some (n0 + 14)) ∧ (∀ c, c = 17 ∨ c = 18 ∨ c = 19 → ok M (n0 + c) 21 ∧ mL M (n0 + c) = 24) ∧ (mR M (n0 + 8) 9 = some (n0 + 17) ∧ mR M (n0 + 8) 10 = some (n0 + 18) ∧ mR M (n0 + 8) 11 = some (n0 + 19)) ∧ (mR M (n0 + 8) 14 = some (n0 + 21) ∧ ok M (n0 + 21) 21 ∧ mL M (n0 + 21) = 16 ∧ ∀ k, mAI M (n0 + 21) k = 0) ∧ (mI M (n0 + 8) 12 = 0 ∧ mI M (n0 + 8) 15 = 2) ∧ (mR M (n0 + 8) 2 = some (n0 + 11) ∧ ok M (n0 + 11) 21 ∧ mL M (n0 + 11) = 0) ∧ (mR M (n0 + 8) 3 = some (n0 + 12) ∧ ok M (n0 + 12) 21 ∧ mL M (n0 + 12) = 0) ∧ (mR M (n0 + 22) 2 = some (n0 + 24) ∧ ok M (n0 + 24) 23 ∧ mL M (n0 + 24) = 64) ∧ mR M n0 17 = none ∧ ∀ c k, 17 ≤ c → c ≤ 19 → mAI M (n0 + c) k = 0
section
variable {n0 : Nat} {Mb M M' : Mem}
/-- what a closed memory says of its shifted copy, and of what changed below it alone -/
theorem shK {i q : Nat} (hs : Sh n0 Mb M cpC) (k : fr (fun c => c < 132) M M') (hi : i < mN cpC) (e : mK cpC i = q) : ok M' (n0 + i) q := ok_E (hs.k hi e) k.1
theorem shRow {i : Nat} (hs : Sh n0 Mb M cpC) (hn : 132 ≤ n0) (k : fr (fun c => c < 132) M M') (hi : i < mN cpC) : sameRow M M' (n0 + i) := k.2 _ (by have := hs.1; omega) (fun z => by omega)
theorem shI {i q : Nat} {w : Int32} (hs : Sh n0 Mb M cpC) (hn : 132 ≤ n0) (k : fr (fun c => c < 132) M M') (hi : i < mN cpC) (hk : mK cpC i < 20) (e : mI cpC i q = w) : mI M' (n0 + i) q = w := by rw [(shRow hs hn k hi).1]; exact hs.rI hi hk e
theorem shR {i q a : Nat} (hs : Sh n0 Mb M cpC) (hn : 132 ≤ n0) (k : fr (fun c => c < 132) M M') (hi : i < mN cpC) (hk : mK cpC i < 20) (e : mR cpC i q = some a) (ha : a < mBig) : mR M' (n0 + i) q = some (n0 + a) := by rw [(shRow hs hn k hi).2.2.1]; exact hs.rR hi hk e ha
theorem shL {i q : Nat} (hs : Sh n0 Mb M cpC) (k : fr (fun c => c < 132) M M') (hi : i < mN cpC) (hk : 20 ≤ mK cpC i) (e : mL cpC i = q) : mL M' (n0 + i) = q := by rw [(k.1.2.2 _ (by have := hs.1; omega)).2]; exact hs.rL hi hk e
theorem shA' {i : Nat} (hs : Sh n0 Mb M cpC) (hn : 132 ≤ n0) (k : fr (fun c => c < 132) M M') (hi : i < mN cpC) (hk : 20 ≤ mK cpC i) : mAI M' (n0 + i) = mAI cpC i := by rw [(shRow hs hn k hi).2.2.2.1]; exact ((hs.2.2.2.2 i hi).2.2 hk).2.1
theorem shE {i q j : Nat} (hs : Sh n0 Mb M cpC) (hn : 132 ≤ n0) (k : fr (fun c => c < 132) M M') (hi : i < mN cpC) (hk : mK cpC i < 20) (e : mR cpC i q = some (mBig + j)) : mR M' (n0 + i) q = some (mBig + j) := by
  rw [(shRow hs hn k hi).2.2.1, ((hs.2.2.2.2 i hi).2.1 hk).2.2 q, e]
  exact shf_sp.symm
theorem shZ {i q : Nat} (hs : Sh n0 Mb M cpC) (hn : 132 ≤ n0) (k : fr (fun c => c < 132) M M') (hi : i < mN cpC) (hk : mK cpC i < 20) (e : mR cpC i q = none) : mR M' (n0 + i) q = none := by
  rw [(shRow hs hn k hi).2.2.1, ((hs.2.2.2.2 i hi).2.1 hk).2.2 q, e]
  rfl
theorem cp_ali {i : Nat} (hs : Sh n0 Mb M cpC) (hn : 132 ≤ n0) (k : fr (fun c => c < 132) M M') (hi : i < mN cpC) (hk : mK cpC i = 1) (e1 : mI cpC i 2 = 0) (e2 : mR cpC i 1 = some (mBig + 5)) {ci : Nat} : ALp M' (n0 + i) (mBig + 5) ci [] := ⟨shK hs k hi hk, shI hs hn k hi (by rw [hk]; decide) e1, Nat.zero_le _, fun v hv => absurd hv List.not_mem_nil, shE hs hn k hi (by rw [hk]; decide) e2, Or.inl ⟨rfl, rfl⟩⟩
theorem cp_md (hs : Sh n0 Mb M cpC) (hn : 132 ≤ n0) (k : fr (fun c => c < 132) M M') : MdN n0 M' := by
  refine ⟨⟨⟨[], cp_ali hs hn k (by decide) rfl rfl rfl, rfl, fun i hi => absurd hi (Nat.not_lt_zero _)⟩, shR hs hn k (by decide) (by decide) rfl (by decide)⟩, ⟨⟨[], cp_ali hs hn k (by decide) rfl rfl rfl, rfl, fun i hi => absurd hi (Nat.not_lt_zero _)⟩, shR hs hn k (by decide) (by decide) rfl (by decide)⟩, ?_, ⟨shR hs hn k (by decide) (by decide) rfl (by decide), shR hs hn k (by decide) (by decide) rfl (by decide), shR hs hn k (by decide) (by decide) rfl (by decide)⟩, ⟨shR hs hn k (by decide) (by decide) rfl (by decide), shK hs k (by decide) rfl, shL hs k (by decide) (by decide) rfl, fun q => by rw [shA' hs hn k (by decide) (by decide)]; rfl⟩, ⟨shI hs hn k (by decide) (by decide) rfl, shI hs hn k (by decide) (by decide) rfl⟩, ⟨shR hs hn k (by decide) (by decide) rfl (by decide), shK hs k (by decide) rfl, shL hs k (by decide) (by decide) rfl⟩, ⟨shR hs hn k (by decide) (by decide) rfl (by decide), shK hs k (by decide) rfl, shL hs k (by decide) (by decide) rfl⟩, ⟨shR hs hn k (by decide) (by decide) rfl (by decide), shK hs k (by decide) rfl, shL hs k (by decide) (by decide) rfl⟩, shZ (i := 0) hs hn k (by decide) (by decide) rfl, fun c q c1 c2 => by rcases (show c = 17 ∨ c = 18 ∨ c = 19 by omega) with rfl | rfl | rfl <;> (rw [shA' hs hn k (by decide) (by decide)]; rfl)⟩
  intro c hc
  rcases hc with rfl | rfl | rfl
  · exact ⟨shK hs k (by decide) rfl, shL hs k (by decide) (by decide) rfl⟩
  · exact ⟨shK hs k (by decide) rfl, shL hs k (by decide) (by decide) rfl⟩
  · exact ⟨shK hs k (by decide) rfl, shL hs k (by decide) (by decide) rfl⟩
theorem cp_cir (hs : Sh n0 Mb M cpC) (hn : 132 ≤ n0) (k : fr (fun c => c < 132) M M') : CirP M' (n0 + 8) (n0 + 9) (n0 + 10) (NT 0) := by
  have l9 : mL M' (n0 + 9) = 64 := shL hs k (by decide) (by decide) rfl
  have l10 : mL M' (n0 + 10) = 64 := shL hs k (by decide) (by decide) rfl
  have a9 := shA' (i := 9) hs hn k (by decide) (by decide)
  have a10 := shA' (i := 10) hs hn k (by decide) (by decide)
  refine ⟨shK hs k (by decide) rfl, shR hs hn k (by decide) (by decide) rfl (by decide), shK hs k (by decide) rfl, shR hs hn k (by decide) (by decide) rfl (by decide), shK hs k (by decide) rfl, shI hs hn k (by decide) (by decide) rfl, ⟨by decide, by rw [l9]; decide, by rw [l9, l10], by rw [l9]; decide, by rw [l9]; decide⟩, fun j hj => ?_, by decide, ⟨by omega, by omega, by omega⟩⟩
  have hj : j < 2 := hj
  rw [a9, a10]
  rcases (show j = 0 ∨ j = 1 by omega) with rfl | rfl
  · exact ⟨rfl, rfl⟩
  · exact ⟨rfl, rfl⟩
def td0 : Td := ([], [], [], [], [])
theorem cp_ct (hs : Sh n0 Mb M cpC) (hn : 132 ≤ n0) (k : fr (fun c => c < 132) M M') (e : mR M' 14 7 = some n0) : CT n0 td0 M' (n0 + 9) (n0 + 10) := by
  have hN : n0 + 25 ≤ mN M' := by have := k.1.1; have h1 := hs.1; have h2 : mN cpC = 25 := rfl; omega
  have r0 : ∀ q a, mR cpC 0 q = some a → a < mBig → mR M' n0 q = some (n0 + a) := fun q a e1 e2 => shR (i := 0) hs hn k (by decide) (by decide) e1 e2
  have i0 : ∀ q w, mI cpC 0 q = w → mI M' n0 q = w := fun q w e1 => shI (i := 0) hs hn k (by decide) (by decide) e1
  refine ⟨⟨⟨shK (i := 0) hs k (by decide) rfl, ⟨Nat.zero_le _, rfl, rfl, Nat.zero_le _⟩, i0 9 0 rfl, i0 12 0 rfl, r0 0 1 rfl (by decide), ⟨shK hs k (by decide) rfl, shL hs k (by decide) (by decide) rfl, fun j hj => absurd hj (Nat.not_lt_zero _)⟩, r0 1 2 rfl (by decide), ⟨shK hs k (by decide) rfl, shL hs k (by decide) (by decide) rfl, fun j hj => absurd hj (Nat.not_lt_zero _)⟩, r0 2 3 rfl (by decide), ⟨shK hs k (by decide) rfl, shL hs k (by decide) (by decide) rfl, fun j hj => absurd hj (Nat.not_lt_zero _)⟩, r0 4 5 rfl (by decide), ⟨shK hs k (by decide) rfl, shL hs k (by decide) (by decide) rfl, fun j hj => absurd hj (Nat.not_lt_zero _)⟩, r0 8 22 rfl (by decide)⟩, cp_cir hs hn k, Or.inl rfl, Or.inl rfl, r0 7 8 rfl (by decide), shR hs hn k (by decide) (by decide) rfl (by decide), ⟨shK hs k (by decide) rfl, shL hs k (by decide) (by decide) rfl, fun q hq => ⟨by rw [shA' hs hn k (by decide) (by decide)]; rfl, by show sgT 0 q < 4; unfold sgT; rw [if_neg (Nat.not_lt_zero _)]; decide⟩⟩, shR hs hn k (by decide) (by decide) rfl (by decide), ⟨shK hs k (by decide) rfl, shL hs k (by decide) (by decide) rfl, fun q hq => ⟨by rw [shA' hs hn k (by decide) (by decide)]; rfl, by show (0 : Nat) < 4; decide⟩⟩, e, hn, hN⟩, ⟨i0 10 0 rfl, by decide, r0 3 4 rfl (by decide), shK hs k (by decide) rfl, shL hs k (by decide) (by decide) rfl, fun j hj => absurd hj (Nat.not_lt_zero _)⟩, i0 11 0 rfl, ⟨r0 5 6 rfl (by decide), shK hs k (by decide) rfl, shL hs k (by decide) (by decide) rfl, rfl, fun j hj => absurd hj (Nat.not_lt_zero _)⟩, fun j _ _ => by rw [shA' hs hn k (by decide) (by decide)]; rfl⟩
/-- the sums, the lists, the references -/
theorem cp_ls (hs : Sh n0 Mb M cpC) (hn : 132 ≤ n0) (k : fr (fun c => c < 132) M M') : SumP M' (n0 + 22) (n0 + 23) [] ∧ ALp M' (n0 + 7) (mBig + 5) 5 [] ∧ ALi M' (n0 + 15) (mBig + 5) [] ∧ (mR M' n0 6 = some (n0 + 7) ∧ mR M' n0 8 = some (n0 + 22) ∧ mR M' (n0 + 8) 7 = some (n0 + 15)) ∧ (mI M' n0 14 = 0 ∧ mI M' n0 15 = 0) := by
  have l23 : mL M' (n0 + 23) = 16 := shL hs k (by decide) (by decide) rfl
  refine ⟨⟨shK hs k (by decide) rfl, shR hs hn k (by decide) (by decide) rfl (by decide), shK hs k (by decide) rfl, shI hs hn k (by decide) (by decide) rfl, Nat.zero_le _, by rw [l23]; decide, by rw [l23]; decide, fun j hj => absurd hj (Nat.not_lt_zero _)⟩, cp_ali hs hn k (by decide) rfl rfl rfl, ⟨[], cp_ali hs hn k (by decide) rfl rfl rfl, rfl, fun i hi => absurd hi (Nat.not_lt_zero _)⟩, ⟨shR (i := 0) hs hn k (by decide) (by decide) rfl (by decide), shR (i := 0) hs hn k (by decide) (by decide) rfl (by decide), shR hs hn k (by decide) (by decide) rfl (by decide)⟩, shI (i := 0) hs hn k (by decide) (by decide) rfl, shI (i := 0) hs hn k (by decide) (by decide) rfl⟩
end
