/-! what the readings in the middle keep to -/
def FtOk {α : Type} (F : Prop) (b : Nat → Int32) (n s i : Nat) (P : Nat → α → Prop) (R : Except (Int32 × Nat) (Nat × α)) : Prop := match R with
  | .error e => F → e.1 ≠ 0
  | .ok r => i ≤ r.1 ∧ r.1 ≤ s ∧ tK b n r.1 ≠ 0 ∧ P r.1 r.2
section
variable {F : Prop} {b : Nat → Int32} {n s i m : Nat} {τ : Td}
theorem FtOk.err {α : Type} {P : Nat → α → Prop} {c : Int32} {p : Nat} (h : c ≠ 0) : FtOk F b n s i P (.error (c, p)) := fun _ => h
theorem FtOk.bd {α β : Type} {P : Nat → α → Prop} {Q : Nat → β → Prop} {F1 : Prop} {R : Except (Int32 × Nat) (Nat × α)} {f : Nat × α → Except (Int32 × Nat) (Nat × β)} (h : FtOk F1 b n s i P R) (hF : F → F1) (k : ∀ j a, i ≤ j → j ≤ s → tK b n j ≠ 0 → P j a → FtOk F b n s j Q (f (j, a))) : FtOk F b n s i Q (R.bind f) := by
  cases R with
  | error e => exact fun z => h (hF z)
  | ok r =>
    obtain ⟨h1, h2, h3, h4⟩ := h
    have q := k r.1 r.2 h1 h2 h3 h4
    show FtOk F b n s i Q (f (r.1, r.2))
    cases e : f (r.1, r.2) with
    | error e2 => rw [e] at q; exact q
    | ok r2 =>
      rw [e] at q
      exact ⟨Nat.le_trans h1 q.1, q.2⟩
theorem FtOk.mono {α : Type} {P : Nat → α → Prop} {j : Nat} {R : Except (Int32 × Nat) (Nat × α)} (h : FtOk F b n s j P R) (hj : i ≤ j) : FtOk F b n s i P R := by
  cases R with
  | error e => exact h
  | ok r => exact ⟨Nat.le_trans hj h.1, h.2⟩
theorem FtOk.adv {α : Type} {P : Nat → α → Prop} {f : Nat → Except (Int32 × Nat) (Nat × α)} (hi : i < s) (k : tK b n (i + 1) ≠ 0 → FtOk F b n s (i + 1) P (f (i + 1))) : FtOk F b n s i P ((adv' b n i).bind f) := by
  rcases adv_cases (b := b) (n := n) (i := i) with ⟨k1, e⟩ | ⟨k1, e⟩ <;> rw [e]
  · exact fun _ => by show (1 : Int32) ≠ 0; decide
  · exact (k k1).mono (Nat.le_succ _)
theorem FtOk_ex {α : Type} {P : Nat → α → Prop} {f : Nat → Except (Int32 × Nat) (Nat × α)} {c : Int32} (hS : Sto b n s) (hi : i ≤ s) (c0 : c ≠ 0) (c1 : c ≠ 1) (k : tK b n i = c → i < s → tK b n (i + 1) ≠ 0 → FtOk F b n s (i + 1) P (f (i + 1))) : FtOk F b n s i P ((ex b n i c).bind f) := by
  unfold ex
  by_cases q : tK b n i = c
  · rw [if_pos q]
    have hs := hS.lt hi (by rw [q]; exact c0) (by rw [q]; exact c1)
    exact FtOk.adv hs (fun k1 => k q hs k1)
  · rw [if_neg q]
    exact fun _ => by show (2 : Int32) ≠ 0; decide
theorem FtOk.imp {α : Type} {P Q : Nat → α → Prop} {R : Except (Int32 × Nat) (Nat × α)} (h : FtOk F b n s i P R) (k : ∀ j a, i ≤ j → P j a → Q j a) : FtOk F b n s i Q R := by
  cases R with
  | error e => exact h
  | ok r => exact ⟨h.1, h.2.1, h.2.2.1, k _ _ h.1 h.2.2.2⟩
theorem FtOk.pure {α : Type} {P : Nat → α → Prop} {a : α} (h1 : i ≤ s) (h2 : tK b n i ≠ 0) (h3 : P i a) : FtOk F b n s i P (.ok (i, a)) := ⟨Nat.le_refl _, h1, h2, h3⟩
/-- what heads and tails of part j leave: the counters, the rows, the other parts; the tree does not shrink -/
def Hd (m j : Nat) (σ σ' : PS) : Prop := σ'.1.1 = σ.1.1 ∧ (∀ c k, c < 60 ∨ 68 < c ∨ k ≠ 40 * m + j → σ'.1.2.1 c k = σ.1.2.1 c k) ∧ (∀ k, k ≠ 40 * m + j → σ'.1.2.2 k = σ.1.2.2 k) ∧ (1 ≤ (trS σ).1 → (trS σ).1 ≤ (trS σ').1)
theorem Hd.rf {j : Nat} {σ : PS} : Hd m j σ σ := ⟨rfl, fun _ _ _ => rfl, fun _ _ => rfl, fun _ => Nat.le_refl _⟩
theorem Hd.tr {j : Nat} {σ σ1 σ2 : PS} (h : Hd m j σ σ1) (k : Hd m j σ1 σ2) : Hd m j σ σ2 := ⟨k.1.trans h.1, fun c x q => (k.2.1 c x q).trans (h.2.1 c x q), fun x q => (k.2.2.1 x q).trans (h.2.2.1 x q), fun q => Nat.le_trans (h.2.2.2 q) (k.2.2.2 (Nat.le_trans q (h.2.2.2 q)))⟩
theorem Hd.tree {j : Nat} {σ : PS} {r : TrT × Nat} (h : 1 ≤ (trS σ).1 → Ts (trS σ) r) : Hd m j σ (trP1 σ r.1) := ⟨rfl, fun _ _ _ => rfl, fun _ _ => rfl, fun q => (h q).1⟩
theorem Hd.ra {j c : Nat} {σ : PS} {v : Int32} (h1 : 60 ≤ c) (h2 : c ≤ 68) : Hd m j σ (raP σ (up2 σ.1.2.1 c (40 * m + j) v)) := ⟨rfl, fun c2 k q => up2_ne (fun z => by omega), fun _ _ => rfl, fun _ => Nat.le_refl _⟩
theorem Hd.pa {j x f : Nat} {σ : PS} {v : Int32} : Hd m j σ (paP σ x f v) := ⟨rfl, fun _ _ _ => rfl, fun _ _ => rfl, fun _ => Nat.le_refl _⟩
theorem Hd.gu {j : Nat} {σ : PS} {g u : Int32} : Hd m j σ (guP σ g u) := ⟨rfl, fun _ _ _ => rfl, fun _ _ => rfl, fun _ => Nat.le_refl _⟩
theorem suM_ok {j f1 f2 fo o : Nat} {σ : PS} (hS : Sto b n s) (hi : i ≤ s) (h0 : tK b n i ≠ 0) (a1 : 60 ≤ f1 ∧ f1 ≤ 68) (a2 : 60 ≤ f2 ∧ f2 ≤ 68) : FtOk F b n s i (fun i' σ' => Hd m j σ σ' ∧ i < i') (suM b n m τ j f1 f2 fo i o σ) := by
  have h := rd_ok (sN := τ.1) (mx := τ.2.2.1) (vN := τ.2.2.2.1) hS 6000 3 i o σ.2.2.1 (usS σ) (by decide) hi h0
  have hn := hS.1
  have hn2 := hS.2.1
  unfold suM
  cases e : rd b n τ.1 τ.2.2.1 τ.2.2.2.1 6000 3 i o σ.2.2.1 (usS σ) with
  | error x => rw [e] at h; exact fun _ => h (by omega)
  | ok r =>
    rw [e] at h
    exact ⟨h.1, h.2.1, h.2.2.1, ⟨rfl, fun c k q => (up2_ne (fun z => by omega)).trans (up2_ne (fun z => by omega)), fun _ _ => rfl, fun _ => Nat.le_refl _⟩, (h.2.2.2.2 (Or.inr (Or.inr rfl))).1⟩
theorem coM_ok {j o : Nat} {σ : PS} (hS : Sto b n s) (hi : i ≤ s) (h0 : tK b n i ≠ 0) : FtOk F b n s i (fun i' r => Hd m j σ r.1 ∧ i < i') (coM b n m τ j i o σ) := by
  have h := rc_ok (sN := τ.1) hS 6000 3 i o σ.2.2.2 (by decide) hi h0
  have hn := hS.1
  have hn2 := hS.2.1
  unfold coM
  cases e : rc b n τ.1 6000 3 i o σ.2.2.2 with
  | error x => rw [e] at h; exact fun _ => h (by omega)
  | ok r =>
    rw [e] at h
    exact ⟨h.1, h.2.1, h.2.2.1, ⟨rfl, fun c k q => (up2_ne (fun z => by omega)).trans (up2_ne (fun z => by omega)), fun _ _ => rfl, fun _ => Nat.le_refl _⟩, (h.2.2.2.2 (Or.inr (Or.inr rfl))).1⟩
theorem imM_ok (hS : Sto b n s) (hi : i ≤ s) (h0 : tK b n i ≠ 0) : FtOk F b n s i (fun _ _ => True) (imM b n i) := by
  unfold imM
  by_cases q : tK b n i = 48
  · rw [if_pos q]
    have hs := hS.lt hi h0 (by rw [q]; decide)
    exact FtOk.adv hs (fun k => ⟨Nat.le_refl _, hs, k, trivial⟩)
  · rw [if_neg q]
    exact ⟨Nat.le_refl _, hi, h0, trivial⟩
theorem atM_ok {j o : Nat} {σ : PS} (hS : Sto b n s) (hi : i ≤ s) (h0 : tK b n i ≠ 0) : FtOk F b n s i (fun i' r => Hd m j σ r.1 ∧ i < i') (atM b n m τ j i o σ) := by
  unfold atM
  refine (imM_ok (F := F) hS hi h0).bd (fun z => z) (fun i1 im q1 q2 q3 _ => ?_)
  refine (coM_ok (F := F) hS q2 q3).bd (fun z => z) (fun i2 r t1 t2 t3 t4 => ?_)
  refine ⟨Nat.le_refl _, t2, t3, ?_, by show i < i2; omega⟩
  cases im with
  | true => exact (Hd.ra (by decide) (by decide)).tr t4.1
  | false => exact t4.1
theorem emM_ok {k : Int32} {j o : Nat} {σ : PS} (hS : Sto b n s) (hi : i ≤ s) (h0 : tK b n i ≠ 0) : FtOk F b n s i (fun i' r => Hd m j σ r.1 ∧ i < i') (emM b n m τ k j i o σ) := by
  unfold emM
  by_cases q : tK b n i = 2
  · rw [if_pos q]
    have hs := hS.lt hi h0 (by rw [q]; decide)
    cases fd τ.1 (tC b n i) with
    | none => exact FtOk.err (by decide)
    | some x =>
      show FtOk F b n s i _ (if τ.2.1.getD x 0 = 30 then _ else _)
      by_cases q2 : τ.2.1.getD x 0 = 30
      · rw [if_pos q2]; exact FtOk.err (by decide)
      rw [if_neg q2]
      refine FtOk.adv hs (fun k1 => ?_)
      by_cases q3 : τ.2.2.1.getD x 0 = 0
      · rw [if_pos q3]
        by_cases q4 : k = 40 ∧ tK b n (i + 1) = 15
        · rw [if_pos q4]; exact FtOk.err (by decide)
        · rw [if_neg q4]
          exact ⟨Nat.le_refl _, hs, k1, Hd.ra (by decide) (by decide), Nat.lt_succ_self _⟩
      · rw [if_neg q3]
        by_cases q4 : k = 40 ∧ tK b n (i + 1) = 15
        · rw [if_pos q4]
          by_cases q5 : o = 15
          · rw [if_pos q5]; exact FtOk.err (by decide)
          rw [if_neg q5]
          have hs2 := hS.lt (i := i + 1) hs k1 (by rw [q4.2]; decide)
          refine FtOk.adv hs2 (fun k2 => ?_)
          refine (suM_ok (F := F) hS hs2 k2 (by decide) (by decide)).bd (fun z => z) (fun i3 r t1 t2 t3 t4 => ?_)
          refine FtOk_ex hS t2 (by decide) (by decide) (fun _ h3 k4 => ⟨Nat.le_refl _, h3, k4, ((Hd.ra (by decide) (by decide)).tr (Hd.pa.tr Hd.pa)).tr t4.1, by show i < i3 + 1; omega⟩)
        · rw [if_neg q4]; exact FtOk.err (by decide)
  · rw [if_neg q]; exact FtOk.err (by decide)
end
