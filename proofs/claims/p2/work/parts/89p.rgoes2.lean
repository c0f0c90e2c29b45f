/-! the reference: behind the only row of a part -/
section
variable {b : Nat → Int32} {n s m : Nat} {τ : Td} {K : List KE} {σ : PS} {M M' : Mem} {i o h : Nat} {Q : Option Value → Mem → Prop}
theorem RPs.tree {Θ : TrT} (hR : RPs b n s m τ K σ M i o) : RPs b n s m τ K (trP1 σ Θ) M i o := hR
theorem RPs.late {j f : Nat} {v : Int32} (hR : RPs b n s m τ K σ M i o) : RPs b n s m τ K (paP σ j f v) M i o := hR
theorem P_goTail {e : KE} {j aw lit x : Nat} {k : Int32} (hR : RPs b n s m τ (e :: K) σ M i o) (hB : By b) (hz : ∀ i, n ≤ i → b i = 0) (hS : Sto b n s) (h0 : tK b n i ≠ 0) (hj : j < 40) (hl : K.length ≤ 15) (hk : k = 42 ∨ k = 49 ∨ k = 50 ∨ k = 52 ∨ k = 53 ∨ k = 55) (h58 : σ.1.2.1 58 (40 * m + j) = Int32.ofNat (soK k)) (hE : EndQ b n s m τ (e :: K) o M (fun x => x.1) (fun M' => Q (some (.int 0)) M') (tlM b n m τ k j aw lit x i o σ)) : E (h + 9) mdX11_goesOn [.ref 29, .int (Int32.ofNat (40 * m + j))] M Q := by
  obtain ⟨c1, c2, c3, c4, c5, c6, c7⟩ := id hR
  have F := c1.1
  have h4 := c1.2.2.2.1
  have l40 := lt40 h4 hj
  obtain ⟨t1, t2, t3⟩ := go_top (j := j) hR hl
  have a58 : mAI M 58 (40 * m + j) = Int32.ofNat (soK k) := by rw [c6.2.2.1 58 (by decide) (by decide) (by decide)]; exact h58
  -- the end alone
  have fin : ∀ {α : Type} (g : Nat → Nat × (PS × α)), (∀ i2, (g i2).1 = i2 ∧ ∀ N o', RPs b n s m τ (e :: K) σ N i2 o' → RPs b n s m τ (e :: K) (g i2).2.1 N i2 o') → EndQ b n s m τ (e :: K) o M (fun x => x.1) (fun M' => Q (some (.int 0)) M') ((ex b n i 43).bind fun i2 => .ok (g i2)) → DX11_goesOn_182 (h + 8) 29 M Q := by
    intro α g hg hE
    refine go182 (f := fun _ => True) (h := h + 5) hR hB hz hS h0 ?_
    cases ew : ex b n i 43 with
    | error y => rw [ew] at hE; exact hE
    | ok i2 =>
      rw [ew] at hE
      have hE : ∀ M', RPs b n s m τ (e :: K) (g i2).2.1 M' (g i2).1 o → RGp m M M' → Q (some (.int 0)) M' := hE
      rw [(hg i2).1] at hE
      exact fun M' R' G' => hE M' ((hg i2).2 M' o R') G'
  -- a condition and the end
  have tail : ∀ {α : Type} {β : Type} (N : Mem) (R : Except (Int32 × Nat) (Nat × (PS × α))) (g : Nat × (PS × α) → Nat → Except (Int32 × Nat) (Nat × (PS × β))), RGp m M N → (∀ r i2, ∃ v : PS × β, g r i2 = .ok (i2, v) ∧ ∀ N o', RPs b n s m τ (e :: K) r.2.1 N i2 o' → RPs b n s m τ (e :: K) v.1 N i2 o') → (∀ r, R = .ok r → tK b n r.1 ≠ 0) → EndQ b n s m τ (e :: K) o M (fun x => x.1) (fun M' => Q (some (.int 0)) M') (R.bind fun r => (ex b n r.1 43).bind fun i2 => g r i2) → EndQ b n s m τ (e :: K) o N (fun x => x.1) (fun M' => DX11_goesOn_182 (h + 8) 29 M' Q) R := by
    intro α β N R g GN hg hr hE
    cases R with
    | error y => exact fun M' T' G' => X_go182 (h := h + 7) T' (hE M' T' (GN.tr G'))
    | ok r =>
      intro M' R' G'
      refine go182 (f := fun _ => True) (h := h + 5) R' hB hz hS (hr r rfl) ?_
      have hE : EndQ b n s m τ (e :: K) o M (fun x => x.1) (fun M' => Q (some (.int 0)) M') ((ex b n r.1 43).bind fun i2 => g r i2) := hE
      cases ew : ex b n r.1 43 with
      | error y => rw [ew] at hE; exact fun M5 T5 G5 => hE M5 T5 ((GN.tr G').tr G5)
      | ok i2 =>
        rw [ew] at hE
        have hE : EndQ b n s m τ (e :: K) o M (fun x => x.1) (fun M' => Q (some (.int 0)) M') (g r i2) := hE
        obtain ⟨v, ev, hv⟩ := hg r i2
        rw [ev] at hE
        exact fun M5 R5 G5 => hE M5 (hv M5 o R5) ((GN.tr G').tr G5)
  refine KX11_goesOn ?_
  unfold DX11_goesOn_0
  rw [l40, t1, lt32 (n := K.length) (by omega)]
  refine ⟨ok29 F, 58, rf29_38 F, ok58 F, ix40 h4 hj (ln58 F), 78, rf29_59 F, ok78 F, by rw [ln78 F]; exact vp_of (by omega) (by decide), ?_⟩
  rw [a58, t3]
  have n131 : ∀ v : Int32, v ≠ 16 → v ≠ 6 → v ≠ 14 → DX11_goesOn_131 (h + 8) 29 (Int32.ofNat (40 * m + j)) v M Q → ((¬ v = 16 → (v = 6 → DX11_goesOn_98 (h + 8) 29 (Int32.ofNat (40 * m + j)) v (Int32.ofNat e.2.2.1) M Q) ∧ (¬ v = 6 → (¬ v = 14 → DX11_goesOn_131 (h + 8) 29 (Int32.ofNat (40 * m + j)) v M Q) ∧ (v = 14 → DX11_goesOn_98 (h + 8) 29 (Int32.ofNat (40 * m + j)) v (Int32.ofNat e.2.2.1) M Q)))) := fun v h1 h2 h3 hd _ => ⟨fun z => absurd z h2, fun _ => ⟨fun _ => hd, fun z => absurd z h3⟩⟩
  -- kinds that have the end alone
  have plain : ∀ v : Int32, v ≠ 8 → v ≠ 9 → v ≠ 10 → DX11_goesOn_182 (h + 8) 29 M Q → DX11_goesOn_131 (h + 8) 29 (Int32.ofNat (40 * m + j)) v M Q := by
    intro v h1 h2 h3 hd
    unfold DX11_goesOn_131 DX11_goesOn_163
    exact ⟨fun z => absurd z h1, fun _ => ⟨fun _ => ⟨fun _ => hd, fun z => absurd z h3⟩, fun z => absurd z h2⟩⟩
  -- abort, weak
  have cond8 : ∀ v : Int32, v = 8 ∨ v = 9 → (∀ M2 i2, ex b n i 51 = .ok i2 → RPs b n s m τ (e :: K) σ M2 i2 o → RGp m M M2 → E (h + 8) mdX11_atOnceOf [.ref 29, .int (Int32.ofNat (40 * m + j))] M2 (fun r M3 => mE M2 M3 → r = none ∧ DX11_goesOn_182 (h + 8) 29 M3 Q)) → (∀ y, ex b n i 51 = .error y → ∀ M', TXr M' y.1 y.2 → RGp m M M' → Q (some (.int 0)) M') → DX11_goesOn_131 (h + 8) 29 (Int32.ofNat (40 * m + j)) v M Q := by
    intro v hv H1 H2
    have n10 : ¬ v = 10 := by rcases hv with rfl | rfl <;> decide
    have d143 : DX11_goesOn_143 (h + 8) 29 (Int32.ofNat (40 * m + j)) v M Q := by
      unfold DX11_goesOn_143 DX11_goesOn_163
      refine ⟨ok29 F, P_wantW (h := h + 5) (k := 51) (j := 21) hR hB hz hS h0 (by decide) (by decide) (by decide) ?_⟩
      cases ew : ex b n i 51 with
      | error y => exact fun M2 T2 G2 _ => ⟨rfl, fun _ => ⟨fun _ => X_go182 (h := h + 7) T2 (H2 y ew M2 T2 G2), fun z => absurd z n10⟩, fun z => absurd z T2.n0⟩
      | ok i2 => exact fun M2 R2 G2 _ => ⟨rfl, fun z => absurd R2.2.2.2.1 z, fun _ => (H1 M2 i2 ew R2 G2).imp (fun r M3 hm q _ => ⟨(q hm).1, ⟨fun _ => (q hm).2, fun z => absurd z n10⟩⟩)⟩
    unfold DX11_goesOn_131
    rcases hv with rfl | rfl
    · exact ⟨fun _ => d143, fun z => absurd rfl z⟩
    · exact ⟨fun z => absurd z (by decide), fun _ => ⟨fun z => absurd rfl z, fun _ => d143⟩⟩
  have atok : ∀ (M2 : Mem) (i2 : Nat) (r : Nat × PS × Nat × Bool), RPs b n s m τ (e :: K) σ M2 i2 o → tK b n i2 ≠ 0 → atM b n m τ j i2 o σ = .ok r → tK b n r.1 ≠ 0 := by
    intro M2 i2 r R2 k2 er
    have := atM_ok (F := True) (m := m) (τ := τ) (j := j) (o := o) (σ := σ) hS R2.2.1.2.2 k2
    rw [er] at this
    exact this.2.2.1
  rcases hk with rfl | rfl | rfl | rfl | rfl | rfl
  · -- loop
    refine ⟨n131 _ (by decide) (by decide) (by decide) (plain _ (by decide) (by decide) (by decide) (fin (α := Nat) (fun i2 => (i2, trP1 (if (trS σ).2.2 13 x &&& 1 = 0 then σ else paP σ j 2 7) (wrT (trS σ) 6 x).1, (wrT (trS σ) 6 x).2)) (fun i2 => ⟨rfl, fun N o' q => ?_⟩) hE)), fun z => absurd z (by decide)⟩
    show RPs b n s m τ (e :: K) (trP1 (if (trS σ).2.2 13 x &&& 1 = 0 then σ else paP σ j 2 7) (wrT (trS σ) 6 x).1) N i2 o'
    by_cases w : (trS σ).2.2 13 x &&& 1 = 0
    · rw [if_pos w]; exact q.tree
    · rw [if_neg w]; exact q.late.tree
  · -- abort
    have hE : EndQ b n s m τ (e :: K) o M (fun x => x.1) (fun M' => Q (some (.int 0)) M') ((ex b n i 51).bind fun i2 => (atM b n m τ j i2 o σ).bind fun r => (ex b n r.1 43).bind fun i3 => if r.2.2.2 = true then .ok (i3, trP1 r.2.1 (chT (mkT (abT (trS r.2.1) x (Int32.ofNat r.2.2.1)).1 0).1 (Int32.ofNat r.2.2.1) (mkT (abT (trS r.2.1) x (Int32.ofNat r.2.2.1)).1 0).2 (abT (trS r.2.1) x (Int32.ofNat r.2.2.1)).2).1, (chT (mkT (abT (trS r.2.1) x (Int32.ofNat r.2.2.1)).1 0).1 (Int32.ofNat r.2.2.1) (mkT (abT (trS r.2.1) x (Int32.ofNat r.2.2.1)).1 0).2 (abT (trS r.2.1) x (Int32.ofNat r.2.2.1)).2).2) else .ok (i3, trP1 r.2.1 (abT (trS r.2.1) x (Int32.ofNat r.2.2.1)).1, (abT (trS r.2.1) x (Int32.ofNat r.2.2.1)).2)) := hE
    refine ⟨n131 _ (by decide) (by decide) (by decide) (cond8 _ (Or.inl rfl) (fun M2 i2 ew R2 G2 => ?_) (fun y ew => ?_)), fun z => absurd z (by decide)⟩
    · rw [ew] at hE
      refine P_at (h := h + 1) R2 hB hz hS (ex_ok ew) hj ?_
      have T := tail (α := Nat × Bool) (β := Nat) M2 (atM b n m τ j i2 o σ) (fun r i3 => if r.2.2.2 = true then .ok (i3, trP1 r.2.1 (chT (mkT (abT (trS r.2.1) x (Int32.ofNat r.2.2.1)).1 0).1 (Int32.ofNat r.2.2.1) (mkT (abT (trS r.2.1) x (Int32.ofNat r.2.2.1)).1 0).2 (abT (trS r.2.1) x (Int32.ofNat r.2.2.1)).2).1, (chT (mkT (abT (trS r.2.1) x (Int32.ofNat r.2.2.1)).1 0).1 (Int32.ofNat r.2.2.1) (mkT (abT (trS r.2.1) x (Int32.ofNat r.2.2.1)).1 0).2 (abT (trS r.2.1) x (Int32.ofNat r.2.2.1)).2).2) else .ok (i3, trP1 r.2.1 (abT (trS r.2.1) x (Int32.ofNat r.2.2.1)).1, (abT (trS r.2.1) x (Int32.ofNat r.2.2.1)).2)) G2 (fun r i3 => by
        by_cases w : r.2.2.2 = true
        · exact ⟨_, if_pos w, fun N o' q => q.tree⟩
        · exact ⟨_, if_neg w, fun N o' q => q.tree⟩) (fun r er => atok M2 i2 r R2 (ex_ok ew) er) hE
      cases e1 : atM b n m τ j i2 o σ with
      | error y => rw [e1] at T; exact fun M' T' G' _ => ⟨rfl, T M' T' G'⟩
      | ok r => rw [e1] at T; exact fun M' R' G' _ => ⟨rfl, T M' R' G'⟩
    · rw [ew] at hE; exact hE
  · -- weak
    have hE : EndQ b n s m τ (e :: K) o M (fun x => x.1) (fun M' => Q (some (.int 0)) M') ((ex b n i 51).bind fun i2 => (atM b n m τ j i2 o σ).bind fun r => (ex b n r.1 43).bind fun i3 => .ok (i3, trP1 r.2.1 (wkT (trS r.2.1) x (Int32.ofNat r.2.2.1) r.2.2.2).1, (wkT (trS r.2.1) x (Int32.ofNat r.2.2.1) r.2.2.2).2)) := hE
    refine ⟨n131 _ (by decide) (by decide) (by decide) (cond8 _ (Or.inr rfl) (fun M2 i2 ew R2 G2 => ?_) (fun y ew => ?_)), fun z => absurd z (by decide)⟩
    · rw [ew] at hE
      refine P_at (h := h + 1) R2 hB hz hS (ex_ok ew) hj ?_
      have T := tail (α := Nat × Bool) (β := Nat) M2 (atM b n m τ j i2 o σ) (fun r i3 => .ok (i3, trP1 r.2.1 (wkT (trS r.2.1) x (Int32.ofNat r.2.2.1) r.2.2.2).1, (wkT (trS r.2.1) x (Int32.ofNat r.2.2.1) r.2.2.2).2)) G2 (fun r i3 => ⟨_, rfl, fun N o' q => q.tree⟩) (fun r er => atok M2 i2 r R2 (ex_ok ew) er) hE
      cases e1 : atM b n m τ j i2 o σ with
      | error y => rw [e1] at T; exact fun M' T' G' _ => ⟨rfl, T M' T' G'⟩
      | ok r => rw [e1] at T; exact fun M' R' G' _ => ⟨rfl, T M' R' G'⟩
    · rw [ew] at hE; exact hE
  · -- suspend
    have hE : EndQ b n s m τ (e :: K) o M (fun x => x.1) (fun M' => Q (some (.int 0)) M') ((ex b n i 51).bind fun i2 => (coM b n m τ j i2 o σ).bind fun r => (ex b n r.1 43).bind fun i3 => .ok (i3, trP1 r.2.1 (suT (trS r.2.1) x (Int32.ofNat r.2.2)).1, (suT (trS r.2.1) x (Int32.ofNat r.2.2)).2)) := hE
    refine ⟨n131 _ (by decide) (by decide) (by decide) ?_, fun z => absurd z (by decide)⟩
    unfold DX11_goesOn_131 DX11_goesOn_163
    refine ⟨fun z => absurd z (by decide), fun _ => ⟨fun _ => ⟨fun z => absurd (by decide) z, fun _ => ⟨ok29 F, P_wantW (h := h + 5) (k := 51) (j := 21) hR hB hz hS h0 (by decide) (by decide) (by decide) ?_⟩⟩, fun z => absurd z (by decide)⟩⟩
    cases ew : ex b n i 51 with
    | error y =>
      rw [ew] at hE
      exact fun M2 T2 G2 _ => ⟨rfl, X_condOf (h := h + 7) T2 (fun _ => ⟨rfl, X_go182 (h := h + 7) T2 (hE M2 T2 G2)⟩)⟩
    | ok i2 =>
      rw [ew] at hE
      intro M2 R2 G2 _
      refine ⟨rfl, P_cond (h := h + 2) R2 hB hz hS (ex_ok ew) hj ?_⟩
      have T := tail (α := Nat) (β := Nat) M2 (coM b n m τ j i2 o σ) (fun r i3 => .ok (i3, trP1 r.2.1 (suT (trS r.2.1) x (Int32.ofNat r.2.2)).1, (suT (trS r.2.1) x (Int32.ofNat r.2.2)).2)) G2 (fun r i3 => ⟨_, rfl, fun N o' q => q.tree⟩) (fun r er => by
        have := coM_ok (F := True) (m := m) (τ := τ) (j := j) (o := o) (σ := σ) hS R2.2.1.2.2 (ex_ok ew)
        rw [er] at this
        exact this.2.2.1) hE
      cases e1 : coM b n m τ j i2 o σ with
      | error y => rw [e1] at T; exact fun M' T' G' _ => ⟨rfl, T M' T' G'⟩
      | ok r => rw [e1] at T; exact fun M' R' G' _ => ⟨rfl, T M' R' G'⟩
  · -- every
    exact ⟨n131 _ (by decide) (by decide) (by decide) (plain _ (by decide) (by decide) (by decide) (fin (α := Nat) (fun i2 => (i2, trP1 σ (evT (trS σ) x aw (Int32.ofNat lit)).1, (evT (trS σ) x aw (Int32.ofNat lit)).2)) (fun i2 => ⟨rfl, fun N o' q => q.tree⟩) hE)), fun z => absurd z (by decide)⟩
  · -- trap
    exact ⟨n131 _ (by decide) (by decide) (by decide) (plain _ (by decide) (by decide) (by decide) (fin (α := Nat) (fun i2 => (i2, trP1 σ (wrT (trS σ) 9 x).1, (wrT (trS σ) 9 x).2)) (fun i2 => ⟨rfl, fun N o' q => q.tree⟩) hE)), fun z => absurd z (by decide)⟩
end
