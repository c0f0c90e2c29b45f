/-! the reference: if; the heads of parts -/
theorem r712 {x : Int32} (hx : 7 ≤ x ∧ x ≤ 12) : x = 7 ∨ x = 8 ∨ x = 9 ∨ x = 10 ∨ x = 11 ∨ x = 12 := by
  obtain ⟨h1, h2⟩ := hx
  ((try simp only [Int32.toNatClampNeg, Int32.lt_iff_toInt_lt, Int32.le_iff_toInt_le, ← Int32.toInt_inj, j_add, j_sub, j_neg, j_mul, j_nat, Int32.reduceToInt, vp_in] at *); omega)
theorem r712s {x : Int32} (hx : 7 ≤ x ∧ x ≤ 12) : x - 7 ≠ -1 := by
  rcases r712 hx with z | z | z | z | z | z <;> rw [z] <;> decide
section
variable {b : Nat → Int32} {n s m : Nat} {τ : Td} {K : List KE} {σ : PS} {M M' : Mem} {i o h : Nat} {Q : Option Value → Mem → Prop}
theorem rel26 {v : Int64} {kk : Int32} (hv : ∀ k ∈ sKs, (v = sv k ↔ kk = k)) (H : Q (some (.int (if 7 ≤ kk ∧ kk ≤ 12 then kk - 7 else -1))) M) : DX11_relation_26 h v M Q := by
  have e : ∀ (k : Int32) (c : Int64), k ∈ sKs → sv k = c → ((lg_cmp v c = 0) ↔ kk = k) := fun k c hk hc => by rw [lgz, ← hc]; exact hv k hk
  have e7 := e 7 61 (by decide) (by decide)
  have e8 := e 8 8509 (by decide) (by decide)
  have e9 := e 9 60 (by decide) (by decide)
  have e10 := e 10 15421 (by decide) (by decide)
  have e11 := e 11 62 (by decide) (by decide)
  have e12 := e 12 15933 (by decide) (by decide)
  have go : ∀ (k x : Int32), kk = k → (if (7 : Int32) ≤ k ∧ k ≤ 12 then k - 7 else -1) = x → Q (some (.int x)) M := fun k x q w => by rw [← w, ← q]; exact H
  unfold DX11_relation_26 DX11_relation_100
  refine ⟨fun n7 => ⟨fun n8 => ⟨fun n9 => ⟨fun n10 => ⟨fun n11 => ⟨fun n12 => ?_, fun q => go 12 5 (e12.mp q) (by decide)⟩, fun q => go 11 4 (e11.mp q) (by decide)⟩, fun q => go 10 3 (e10.mp q) (by decide)⟩, fun q => go 9 2 (e9.mp q) (by decide)⟩, fun q => go 8 1 (e8.mp q) (by decide)⟩, fun q => go 7 0 (e7.mp q) (by decide)⟩
  rw [if_neg (fun z => by
    rcases r712 z with w | w | w | w | w | w
    · exact n7 (e7.mpr w)
    · exact n8 (e8.mpr w)
    · exact n9 (e9.mpr w)
    · exact n10 (e10.mpr w)
    · exact n11 (e11.mpr w)
    · exact n12 (e12.mpr w))] at H
  exact H
theorem sv_nz : ∀ k ∈ sKs, (0 : Int64) ≠ sv k := by decide
theorem P_relation (hT : Tk b n M i) (H : Q (some (.int (if 7 ≤ tK b n i ∧ tK b n i ≤ 12 then tK b n i - 7 else -1))) M) : E (h + 1) mdX11_relation [.ref 29] M Q := by
  obtain ⟨F, hB, ⟨r1, r2, r3⟩, h5, h8⟩ := id hT
  have sk := fun (k : Int32) (hk : k ∈ sKs) => said_sign (b := b) (n := n) (p := tP b n i) hB hk
  refine KX11_relation ?_
  unfold DX11_relation_0
  rw [h5, lt32 (by omega)]
  refine ⟨ok29 F, 31, rf29_2 F, ok31 F, by rw [ln31 F]; exact vp_of (by omega) (by decide), ?_⟩
  rw [r1]
  refine ⟨fun ns => rel26 (kk := tK b n i) (fun k hk => ⟨fun z => absurd z (sv_nz k hk), fun z => absurd ((sk k hk).mpr z).1 ns⟩) H, fun ys => ⟨33, rf29_4 F, ok33 F, by rw [ln33 F]; exact vp_of (by omega) (by decide), ?_⟩⟩
  rw [r3]
  exact rel26 (kk := tK b n i) (fun k hk => ⟨fun z => (sk k hk).mp ⟨ys, z⟩, fun z => ((sk k hk).mpr z).2⟩) H
theorem P_if {j : Nat} (hR : RPs b n s m τ K σ M i o) (ho : o = K.length + 1) (hB : By b) (hz : ∀ i, n ≤ i → b i = 0) (hS : Sto b n s) (h0 : tK b n i ≠ 0) (hj : j < 40) (hE : EndQ b n s m τ K o M (fun x => x.1) (fun M' => Q none M') (hdM b n m τ 58 j i K σ)) : E (h + 7) mdX11_ifOf [.ref 29, .int (Int32.ofNat (40 * m + j))] M Q := by
  obtain ⟨c1, c2, c3, c4, c5, c6, c7⟩ := id hR
  have F := c1.1
  have h4 := c1.2.2.2.1
  have l40 := lt40 h4 hj
  have zk : ∀ {c : Nat}, 58 ≤ c → c ≤ 72 → szA c * m ≤ 40 * m + j := fun a c => by rw [sz_p a c]; omega
  have hE : EndQ b n s m τ K o M (fun x => x.1) (fun M' => Q none M') ((suM b n m τ j 64 65 5 i (K.length + 1) (paP (paP σ j 3 3) j 4 (Int32.ofNat (σ.1.1 2 - 1)))).bind fun r => if 7 ≤ tK b n r.1 ∧ tK b n r.1 ≤ 12 then (adv' b n r.1).bind fun i2 => (suM b n m τ j 66 67 6 i2 (K.length + 1) (paP (raP r.2 (up2 r.2.1.2.1 68 (40 * m + j) (tK b n r.1 - 7))) j 7 (tK b n r.1))).bind fun q => (ex b n q.1 45).bind fun i3 => .ok (i3, (q.2.1, (q.2.2.1.1, q.2.2.1.2.1, (frL q.2.2.1.2.2.1).1, q.2.2.1.2.2.2.1, q.2.2.1.2.2.2.2.1 ++ [Int32.ofNat (2 * q.2.2.1.2.2.1.length)], q.2.2.1.2.2.2.2.2), q.2.2.2), 2 * q.2.2.1.2.2.1.length, false, 0, none) else .error (2, tP b n r.1)) := hE
  rw [← ho] at hE
  have sok := suM_ok (F := True) (m := m) (τ := τ) (j := j) (f1 := 64) (f2 := 65) (fo := 5) (o := o) (σ := paP (paP σ j 3 3) j 4 (Int32.ofNat (σ.1.1 2 - 1))) hS c2.2.2 h0 (by decide) (by decide)
  refine KX11_ifOf ?_
  unfold DX11_ifOf_0 DX11_ifOf_68
  refine ⟨ok29 F, P_sum (h := h) (sec := false) (fo := 5) (σ := paP (paP σ j 3 3) j 4 (Int32.ofNat (σ.1.1 2 - 1))) hR hB hz hS h0 hj ?_⟩
  show EndQ b n s m τ K o M (fun x => x) _ (suM b n m τ j 64 65 5 i o (paP (paP σ j 3 3) j 4 (Int32.ofNat (σ.1.1 2 - 1))))
  cases e1 : suM b n m τ j 64 65 5 i o (paP (paP σ j 3 3) j 4 (Int32.ofNat (σ.1.1 2 - 1))) with
  | error y =>
    rw [e1] at hE
    exact fun M2 T2 G2 _ => ⟨rfl, fun _ => hE M2 T2 G2, fun z => absurd z T2.n0⟩
  | ok r =>
    rw [e1] at hE sok
    intro M2 R2 G2 _
    refine ⟨rfl, fun z => absurd R2.2.2.2.1 z, fun _ => ?_⟩
    have F2 := R2.1.1
    rw [l40]
    refine ⟨68, rf29_48 F2, P_relation (h := h + 5) (R2.tk hB) (fun _ => ⟨_, rfl, ok68 F2, ix40 h4 hj (ln68 F2), fun M7 e7 => ?_⟩)⟩
    have s7 := R2.ra (c := 68) (k := 40 * m + j) (v := if 7 ≤ tK b n r.1 ∧ tK b n r.1 ≤ 12 then tK b n r.1 - 7 else -1) (by decide) (by decide) (by decide) (zk (by decide) (by decide))
    rw [← e7] at s7
    have F7 := s7.1.1
    have G7 : RGp m M M7 := by rw [e7]; exact G2.tr (RGp.ra (by decide) (by decide) (by decide) (zk (by decide) (by decide)))
    have a68 : mAI M7 68 (40 * m + j) = if 7 ≤ tK b n r.1 ∧ tK b n r.1 ≤ 12 then tK b n r.1 - 7 else -1 := by rw [e7]; exact mAI_own _ _ _ _
    refine ⟨68, rf29_48 F7, ok68 F7, ix40 h4 hj (ln68 F7), ?_⟩
    rw [a68]
    have hE : EndQ b n s m τ K o M (fun x => x.1) (fun M' => Q none M') (if 7 ≤ tK b n r.1 ∧ tK b n r.1 ≤ 12 then (adv' b n r.1).bind fun i2 => (suM b n m τ j 66 67 6 i2 o (paP (raP r.2 (up2 r.2.1.2.1 68 (40 * m + j) (tK b n r.1 - 7))) j 7 (tK b n r.1))).bind fun q => (ex b n q.1 45).bind fun i3 => .ok (i3, (q.2.1, (q.2.2.1.1, q.2.2.1.2.1, (frL q.2.2.1.2.2.1).1, q.2.2.1.2.2.2.1, q.2.2.1.2.2.2.2.1 ++ [Int32.ofNat (2 * q.2.2.1.2.2.1.length)], q.2.2.1.2.2.2.2.2), q.2.2.2), 2 * q.2.2.1.2.2.1.length, false, 0, none) else .error (2, tP b n r.1)) := hE
    by_cases hr : 7 ≤ tK b n r.1 ∧ tK b n r.1 ≤ 12
    · rw [if_pos hr] at hE s7
      rw [if_pos hr]
      refine ⟨fun _ => ?_, fun z => absurd z (r712s hr)⟩
      have n1 : tK b n r.1 ≠ 1 := fun z => by rw [z] at hr; exact absurd hr.1 (by decide)
      have hs := hS.lt sok.2.1 sok.2.2.1 n1
      refine P_take (h := h + 4) s7 hB hz hs n1 (fun k1 M8 R8 G8 _ => ⟨rfl, ?_⟩) (fun k1 M8 T8 G8 _ => ⟨rfl, ?_⟩)
      · rw [adv_ok' k1] at hE
        have hE : EndQ b n s m τ K o M (fun x => x.1) (fun M' => Q none M') ((suM b n m τ j 66 67 6 (r.1 + 1) o (paP (raP r.2 (up2 r.2.1.2.1 68 (40 * m + j) (tK b n r.1 - 7))) j 7 (tK b n r.1))).bind fun q => (ex b n q.1 45).bind fun i3 => .ok (i3, (q.2.1, (q.2.2.1.1, q.2.2.1.2.1, (frL q.2.2.1.2.2.1).1, q.2.2.1.2.2.2.1, q.2.2.1.2.2.2.2.1 ++ [Int32.ofNat (2 * q.2.2.1.2.2.1.length)], q.2.2.1.2.2.2.2.2), q.2.2.2), 2 * q.2.2.1.2.2.1.length, false, 0, none)) := hE
        have sok2 := suM_ok (F := True) (m := m) (τ := τ) (j := j) (f1 := 66) (f2 := 67) (fo := 6) (o := o) (σ := paP (raP r.2 (up2 r.2.1.2.1 68 (40 * m + j) (tK b n r.1 - 7))) j 7 (tK b n r.1)) hS (i := r.1 + 1) hs k1 (by decide) (by decide)
        refine P_sum (h := h) (sec := true) (fo := 6) (σ := paP (raP r.2 (up2 r.2.1.2.1 68 (40 * m + j) (tK b n r.1 - 7))) j 7 (tK b n r.1)) R8 hB hz hS k1 hj ?_
        show EndQ b n s m τ K o M8 (fun x => x) _ (suM b n m τ j 66 67 6 (r.1 + 1) o (paP (raP r.2 (up2 r.2.1.2.1 68 (40 * m + j) (tK b n r.1 - 7))) j 7 (tK b n r.1)))
        cases e2 : suM b n m τ j 66 67 6 (r.1 + 1) o (paP (raP r.2 (up2 r.2.1.2.1 68 (40 * m + j) (tK b n r.1 - 7))) j 7 (tK b n r.1)) with
        | error y =>
          rw [e2] at hE
          exact fun M9 T9 G9 _ => ⟨rfl, X_want (h := h + 5) T9 (fun _ => ⟨rfl, hE M9 T9 ((G7.tr G8).tr G9)⟩)⟩
        | ok q =>
          rw [e2] at hE sok2
          intro M9 R9 G9 _
          refine ⟨rfl, P_wantW (h := h + 3) (k := 45) (j := 15) R9 hB hz hS sok2.2.2.1 (by decide) (by decide) (by decide) ?_⟩
          have hE : EndQ b n s m τ K o M (fun x => x.1) (fun M' => Q none M') ((ex b n q.1 45).bind fun i3 => .ok (i3, (q.2.1, (q.2.2.1.1, q.2.2.1.2.1, (frL q.2.2.1.2.2.1).1, q.2.2.1.2.2.2.1, q.2.2.1.2.2.2.2.1 ++ [Int32.ofNat (2 * q.2.2.1.2.2.1.length)], q.2.2.1.2.2.2.2.2), q.2.2.2), 2 * q.2.2.1.2.2.1.length, false, 0, none)) := hE
          cases ew : ex b n q.1 45 with
          | error y => rw [ew] at hE; exact fun M10 T10 G10 _ => ⟨rfl, hE M10 T10 (((G7.tr G8).tr G9).tr G10)⟩
          | ok i3 => rw [ew] at hE; exact fun M10 R10 G10 _ => ⟨rfl, hE M10 R10 (((G7.tr G8).tr G9).tr G10)⟩
      · rw [adv_er' k1] at hE
        exact X_sumOf (h := h + 5) T8 (fun _ => ⟨rfl, X_want (h := h + 5) T8 (fun _ => ⟨rfl, hE M8 T8 (G7.tr G8)⟩)⟩)
    · rw [if_neg hr] at hE s7
      rw [if_neg hr]
      exact ⟨fun z => absurd rfl z, fun _ => P_failsA (h := h + 5) (H2 := fun M' => Q none M') s7 hB (by decide) (fun M' T' G' => hE M' T' (G7.tr G'))⟩
end
