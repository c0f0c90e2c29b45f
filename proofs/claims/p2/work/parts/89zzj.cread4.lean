/-! the class reads a text: read -/
section
variable {b : Nat → Int32} {n s m : Nat} {τ : Td} {M M3 M15 M16 M0 M2 M' : Mem} {i o h : Nat} {Q : Option Value → Mem → Prop} {lc rc L L' : Nat}
/-- as the told is begun, from the memory M before: M15 -/
def Bg15 (M M15 : Mem) : Prop := fr (fun c => c = 4 ∨ (14 ≤ c ∧ c ≤ 18)) M M15 ∧ mN M15 = mN M + 25 ∧ mS M15 = mS M + mS cpC ∧ CT (mN M) td0 M15 (mN M + 9) (mN M + 10) ∧ MdN (mN M) M15 ∧ (SumP M15 (mN M + 22) (mN M + 23) [] ∧ ALp M15 (mN M + 7) (mBig + 5) 5 [] ∧ ALi M15 (mN M + 15) (mBig + 5) [] ∧ (mR M15 (mN M) 6 = some (mN M + 7) ∧ mR M15 (mN M) 8 = some (mN M + 22) ∧ mR M15 (mN M + 8) 7 = some (mN M + 15)) ∧ (mI M15 (mN M) 14 = 0 ∧ mI M15 (mN M) 15 = 0)) ∧ (mI M15 14 3 = 0 ∧ mI M15 14 4 = 0 ∧ mI M15 14 5 = 0 ∧ mI M15 14 6 = 0) ∧ (mI M15 4 9 = 1 ∧ mI M15 4 10 = 0)
/-- the told is read: the state for the parts -/
theorem told_cq (hZ0 : mAI M 5 0 = 0) (hM : 132 ≤ mN M) (hN : mN M ≤ 900000) (F : Fix M16) (h15 : Bg15 M M15) (k15 : mK M15 15 = 9) (hC : CT (mN M) τ M16 lc rc) (k : TdF (mN M) M15 M16 (mN M + 9) (mN M + 10) lc rc 0 τ.1.length) : CQ (mN M) τ M16 M16 (cl0 (mAI M) τ) (fun _ => 0) [] [] ∧ RdB n M M16 ∧ MdN (mN M) M16 ∧ τ.1.length ≤ 16 := by
  obtain ⟨f15, n15, s15, c15, d15, ⟨z1, z2, z3, z4, z5⟩, y1, y2⟩ := h15
  obtain ⟨k1, k2, k3, k4, k5, k6, k7, k8, k9, k10, k11⟩ := k
  obtain ⟨l1, l2, l3, l4, l5, l6, l7, l8⟩ := hC.lim
  have bg : (mN M : Nat) + 100 < mBig := by unfold mBig; omega
  have row : ∀ c, c < mN M + 25 → c ≠ 15 → ¬ (mN M ≤ c ∧ c ≤ mN M + 6) → c ≠ mN M + 8 → c ≠ mN M + 20 → c ≠ mN M + 9 → c ≠ mN M + 10 → sameRow M15 M16 c := fun c w1 w2 w3 w4 w5 w6 w7 => k1.2 c (by omega) (by omega)
  have sp : SumP M16 (mN M + 22) (mN M + 23) [] := z1.fr k1.1 (row _ (by omega) (by omega) (by omega) (by omega) (by omega) (by omega) (by omega)) (row _ (by omega) (by omega) (by omega) (by omega) (by omega) (by omega) (by omega))
  have kr : ∀ c, c < mN M + 25 → mN M ≤ c → c ≤ mN M + 6 ∨ c = mN M + 8 ∨ c = mN M + 20 ∨ c = mN M + 9 ∨ c = mN M + 10 → mK M15 c ≠ 0 ∧ mK M15 c ≠ 24 := by
    intro c w1 w2 w3
    obtain ⟨⟨g1, g2, g3, g4, g5, ⟨a1, -⟩, g6, ⟨a2, -⟩, g7, ⟨a3, -⟩, g8, ⟨a4, -⟩, -⟩, q2, -, -, -, -, ⟨q20, -⟩, -, -, -⟩ := c15.1
    have o4 := c15.2.1.2.2.2.1
    have o6 := c15.2.2.2.1.2.1
    have o9 := q2.2.2.1
    have o10 := q2.2.2.2.2.1
    rcases (show c = mN M ∨ c = mN M + 1 ∨ c = mN M + 2 ∨ c = mN M + 3 ∨ c = mN M + 4 ∨ c = mN M + 5 ∨ c = mN M + 6 ∨ c = mN M + 8 ∨ c = mN M + 20 ∨ c = mN M + 9 ∨ c = mN M + 10 by omega) with w | w | w | w | w | w | w | w | w | w | w <;> rw [w]
    · rw [g1.2]; decide
    · rw [a1.2]; decide
    · rw [a2.2]; decide
    · rw [a3.2]; decide
    · rw [o4.2]; decide
    · rw [a4.2]; decide
    · rw [o6.2]; decide
    · rw [q2.1.2]; decide
    · rw [q20.2]; decide
    · rw [o9.2]; decide
    · rw [o10.2]; decide
  have al : ALp M16 (mN M + 7) (mBig + 5) 5 [] := alp_fr3 z2 k1 (by omega) (fun _ w => by omega)
  have ai : ALi M16 (mN M + 15) (mBig + 5) [] := ali_fr3 z3 k1 (by omega) (fun _ w => by omega) (fun c w1 w2 => by
    rcases w2 with w | w | w | w | w | w
    · rw [w, k15]; decide
    · exact (kr c (by omega) w.1 (Or.inl w.2)).1
    · exact (kr c (by omega) (by omega) (Or.inr (Or.inl w))).1
    · exact (kr c (by omega) (by omega) (Or.inr (Or.inr (Or.inl w)))).1
    · exact (kr c (by omega) (by omega) (Or.inr (Or.inr (Or.inr (Or.inl w))))).1
    · exact (kr c (by omega) (by omega) (Or.inr (Or.inr (Or.inr (Or.inr w))))).1)
  have r14 := row 14 (by omega) (by omega) (by omega) (by omega) (by omega) (by omega) (by omega)
  have r4 := row 4 (by omega) (by omega) (by omega) (by omega) (by omega) (by omega) (by omega)
  have f16 : fr (fun c => c = 4 ∨ (14 ≤ c ∧ c ≤ 18)) M M16 := f15.tr k1 (fun a ha w => by omega)
  have hcir := hC.1.2.1
  have len := NT_len (L := τ.1.length)
  have ml : mL M16 lc ≤ 64 + 2 * (τ.1.length + 2) := by have := hcir.2.2.2.2.2.2.1.2.2.2.2; rw [len] at this; exact this
  have k8' : mK M15 (mN M + 8) = 2 := c15.1.2.1.1.2
  refine ⟨CQ_init F hC sp al ai ⟨by rw [k3]; exact z4.1, by rw [k3]; exact z4.2.1, by rw [k6 7 (by decide) (by decide)]; exact z4.2.2⟩ ⟨by rw [k4 14 (by decide)]; exact z5.1, by rw [k4 15 (by decide)]; exact z5.2⟩ (by rw [r14.1]; exact y1) (by rw [r4.1]; exact y2) (fun c w1 w2 => (f16.2 c (by omega) (by omega)).2.2.2.1) (by omega) hZ0, ⟨f16.more (fun a _ w => by omega), by omega, lc, by rw [← s15]; omega, by omega⟩, ?_, l7⟩
  refine d15.fr (lc := mN M + 9) (rc := mN M + 10) k1 hM (by omega) (Or.inl rfl) (Or.inl rfl) k3 k5 k6 c15.1.2.1.2.2.1.2 c15.1.2.1.2.2.2.2.1.2 (fun c w1 w2 => ?_) k15 k8' c15.1.2.2.2.2.2.2.1.1.2
  have := kr c (by omega) w1 (Or.inl w2)
  exact ⟨this.2, this.1⟩
theorem C_read {A : Nat → Nat → Int32} {B : Nat → Int64} (hZ0 : mAI M 5 0 = 0) (hB : By b) (hz : ∀ i, n ≤ i → b i = 0) (F : Fix M) (hn : n ≤ 800) (hm : ∀ i, i < n → (mAI M 1 i) &&& 255 = b i) (hN : mN M ≤ 900000) (hE : EndCR b n M Q (rdM b n m A B (mAI M))) : E (h + 220) mdX4_read [.ref 14, .int (Int32.ofNat n)] M Q := by
  have hM := F.1
  refine KX4_read (h := h + 219) ?_
  unfold DX4_read_0
  intro q2 M1 e2 e1
  subst e2
  have sh1 : Sh (mN M) M M1 cp0 := by rw [e1]; exact (Sh.start rfl).o (by decide)
  refine (S_comp (h := h + 214) sh1).imp (fun r M3 _ hp _ => ?_)
  obtain ⟨rfl, sh3⟩ := hp
  have F3 := sh3.fix F
  refine ⟨rfl, ok14 F3, fun M5 e5 M6 e6 M7 e7 M8 e8 M9 e9 => ?_⟩
  have F9 : Fix M9 := by rw [e9, e8, e7, e6, e5]; exact (F3.r (by decide +kernel)).i.i.i.i
  have f9 : fr (fun c => c = 14) M3 M9 := by
    rw [e9, e8, e7, e6, e5]
    exact ((((fr_wR (S := fun c => c = 14) rfl).tr (fr_wI (S := fun c => c = 14) rfl) (fun _ _ z => z)).tr (fr_wI (S := fun c => c = 14) rfl) (fun _ _ z => z)).tr (fr_wI (S := fun c => c = 14) rfl) (fun _ _ z => z)).tr (fr_wI (S := fun c => c = 14) rfl) (fun _ _ z => z)
  have r9 : mR M9 14 7 = some (mN M) := by rw [e9, e8, e7, e6, e5]; simp [mNwI, mSwI, mKwI, mIwI, mJwI, mRwI, mLwI, mAIwI, mAJwI, mARwI, mNwJ, mSwJ, mKwJ, mIwJ, mJwJ, mRwJ, mLwJ, mAIwJ, mAJwJ, mARwJ, mNwR, mSwR, mKwR, mIwR, mJwR, mRwR, mLwR, mAIwR, mAJwR, mARwR, mNwAI, mSwAI, mKwAI, mIwAI, mJwAI, mRwAI, mLwAI, mAIwAI, mAJwAI, mARwAI, mNwAJ, mSwAJ, mKwAJ, mIwAJ, mJwAJ, mRwAJ, mLwAJ, mAIwAJ, mAJwAJ, mARwAJ, mNwAR, mSwAR, mKwAR, mIwAR, mJwAR, mRwAR, mLwAR, mAIwAR, mAJwAR, mARwAR, okkwI, okkwJ, okkwR, okkwAI, okkwAJ, okkwAR]
  have i9 : mI M9 14 3 = 0 ∧ mI M9 14 4 = 0 ∧ mI M9 14 5 = 0 ∧ mI M9 14 6 = 0 := by
    refine ⟨?_, ?_, ?_, ?_⟩ <;> (rw [e9, e8, e7, e6]; simp [mNwI, mSwI, mKwI, mIwI, mJwI, mRwI, mLwI, mAIwI, mAJwI, mARwI, mNwJ, mSwJ, mKwJ, mIwJ, mJwJ, mRwJ, mLwJ, mAIwJ, mAJwJ, mARwJ, mNwR, mSwR, mKwR, mIwR, mJwR, mRwR, mLwR, mAIwR, mAJwR, mARwR, mNwAI, mSwAI, mKwAI, mIwAI, mJwAI, mRwAI, mLwAI, mAIwAI, mAJwAI, mARwAI, mNwAJ, mSwAJ, mKwAJ, mIwAJ, mJwAJ, mRwAJ, mLwAJ, mAIwAJ, mAJwAJ, mARwAJ, mNwAR, mSwAR, mKwAR, mIwAR, mJwAR, mRwAR, mLwAR, mAIwAR, mAJwAR, mARwAR, okkwI, okkwJ, okkwR, okkwAI, okkwAJ, okkwAR])
  have n9 : mN M9 = mN M3 ∧ mS M9 = mS M3 := by rw [e9, e8, e7, e6, e5]; exact ⟨rfl, rfl⟩
  clear e9 e8 e7 e6 e5
  refine ⟨4, rf14_1 F9, ok4 F9, S_treeBegin F9 ?_⟩
  obtain ⟨M12, e12⟩ : ∃ z, z = wI (wI M9 4 9 1) 4 10 0 := ⟨_, rfl⟩
  rw [← e12]
  intro _
  have F12 : Fix M12 := by rw [e12]; exact F9.i.i
  have f12 : fr (fun c => c = 4) M9 M12 := by rw [e12]; exact (fr_wI (S := fun c => c = 4) rfl).tr (fr_wI (S := fun c => c = 4) rfl) (fun _ _ z => z)
  have i12 : mI M12 4 9 = 1 ∧ mI M12 4 10 = 0 := by rw [e12]; constructor <;> simp [mNwI, mSwI, mKwI, mIwI, mJwI, mRwI, mLwI, mAIwI, mAJwI, mARwI, mNwJ, mSwJ, mKwJ, mIwJ, mJwJ, mRwJ, mLwJ, mAIwJ, mAJwJ, mARwJ, mNwR, mSwR, mKwR, mIwR, mJwR, mRwR, mLwR, mAIwR, mAJwR, mARwR, mNwAI, mSwAI, mKwAI, mIwAI, mJwAI, mRwAI, mLwAI, mAIwAI, mAJwAI, mARwAI, mNwAJ, mSwAJ, mKwAJ, mIwAJ, mJwAJ, mRwAJ, mLwAJ, mAIwAJ, mAJwAJ, mARwAJ, mNwAR, mSwAR, mKwAR, mIwAR, mJwAR, mRwAR, mLwAR, mAIwAR, mAJwAR, mARwAR, okkwI, okkwJ, okkwR, okkwAI, okkwAJ, okkwAR]
  have n12 : mN M12 = mN M9 ∧ mS M12 = mS M9 := by rw [e12]; exact ⟨rfl, rfl⟩
  clear e12
  have n3 : mN M3 = mN M + 25 := sh3.1
  have f3 : fr (fun _ => False) M M3 := sh3.2.2.2.1
  have f312 : fr (fun c => c = 4 ∨ c = 14) M M12 := ((f3.more (fun _ _ z => z.elim)).tr f9 (fun _ _ z => Or.inr z)).tr f12 (fun _ _ z => Or.inl z)
  refine ⟨rfl, 15, rf14_0 F12, ok15 F12, S_begin (h := h + 211) F12 hn (fun i hi => by rw [(f312.2 1 (by omega) (by omega)).2.2.2.1]; exact hm i hi) hz hB (fun s N hs1 hs2 hs3 hR FN CN _ => ⟨rfl, ?_⟩)⟩
  have hS : Sto b n s := ⟨hs1, hn, hs2, hs3⟩
  obtain ⟨hti, htf⟩ := bg_ti (b := b) FN hn hs1 hR
  have kb : TFr N (bgF N) := (((TFr.i.tr TFr.i).tr TFr.i).tr TFr.i).tr TFr.adv
  obtain ⟨M15, e15⟩ : ∃ z, z = bgF N := ⟨_, rfl⟩
  rw [← e15] at hti htf kb ⊢
  have f15 : fr (fun c => 15 ≤ c ∧ c ≤ 18) M12 M15 := by
    obtain ⟨g1, g2, g3, g4, g5, g6, g7, g8, g9, g10⟩ := CN
    refine ⟨⟨by rw [kb.1, g1]; exact Nat.le_refl _, by rw [kb.2.1, g2]; exact Nat.le_refl _, fun a _ => ⟨by rw [kb.2.2.1, g3]; rfl, by rw [kb.2.2.2.1, g4]; rfl⟩⟩, fun a _ hn => ?_⟩
    have row := kb.row (a := a) (by omega)
    refine ⟨?_, by rw [row.2.1, g7]; rfl, by rw [row.2.2.1, g5]; rfl, by rw [row.2.2.2.1, g9 a (by omega) (by omega)]; rfl, by rw [row.2.2.2.2.1, g10 a (by omega)]; rfl, by rw [row.2.2.2.2.2, g6]; rfl⟩
    rw [row.1]
    funext y
    rw [g8 a y (by omega), mI_wI, if_neg (by omega)]
  have n15 : mN M15 = mN M12 ∧ mS M15 = mS M12 := ⟨by rw [kb.1, CN.1]; rfl, by rw [kb.2.1, CN.2.1]; rfl⟩
  clear e15 kb CN hR
  have f3_15 : fr (fun c => c < 132) M3 M15 := ((f9.more (fun _ _ z => by omega)).tr f12 (fun _ _ z => by omega)).tr f15 (fun _ _ z => by omega)
  have rr := f15.2 14 (by omega) (by omega)
  have r4 := f15.2 4 (by omega) (by omega)
  have r14 := f12.2 14 (by omega) (by omega)
  have e7 : mR M15 14 7 = some (mN M) := by rw [rr.2.2.1, r14.2.2.1]; exact r9
  have h15 : Bg15 M M15 := ⟨(f312.more (S1 := fun c => c = 4 ∨ (14 ≤ c ∧ c ≤ 18)) (fun a _ z => by omega)).tr f15 (fun a _ z => by omega), by omega, by have := sh3.2.2.1; omega, cp_ct sh3 hM f3_15 e7, cp_md sh3 hM f3_15, cp_ls sh3 hM f3_15, by rw [rr.1, r14.1]; exact i9, by rw [r4.1]; exact i12⟩
  have ex16 : ∀ (M16 : Mem) (τ : Td) (lc rc : Nat) (f : Int32) (p : Nat), TF M16 f p → CT (mN M) τ M16 lc rc → TdF (mN M) M15 M16 (mN M + 9) (mN M + 10) lc rc 0 τ.1.length → mK M15 15 = 9 → (∀ M', CRx n M M' f (Int32.ofNat p) → Q (some .null) M') → TRd (h + 219) (mN M) Q M16 := by
    intro M16 τ lc rc f p T16 C16 k16 k15 hx
    obtain ⟨q1, q2, q3, q4⟩ := told_cq (n := n) hZ0 hM hN T16.1 h15 k15 C16 k16
    refine TRd_x (h := h + 213) (t := 0) q2 hs1 ⟨T16, _, _, q1, ?_, ?_, Nat.zero_le _, ?_, by omega⟩ hx
    · show (NT τ.1.length).length ≤ s + 70 + 0
      rw [NT_len]; omega
    · exact Nat.zero_le _
    · exact Nat.zero_le _
  unfold rdM at hE
  by_cases k0 : tK b n 0 = 0
  · rw [if_pos k0] at hE
    have T15 := htf k0
    refine KX4_readAllTold ?_
    unfold DX4_readAllTold_0
    exact X_allL T15 (fun _ => ⟨rfl, ex16 M15 td0 _ _ _ _ T15 h15.2.2.2.1 TdF.rf (ok15 T15.1).2 hE⟩)
  · rw [if_neg k0] at hE
    have T15 := hti k0
    have k15 := (ok15 T15.1).2
    refine KX4_readAllTold ?_
    unfold DX4_readAllTold_0
    refine C_told (h := h + 211) (o := 0) hB hS 900 M15 0 0 td0 (mN M + 9) (mN M + 10) (by omega) (Nat.le_refl _) T15 h15.2.2.2.1 ?_
    cases et : td b n 900 0 td0 with
    | error y =>
      rw [et] at hE
      exact fun M16 lc rc τ T16 C16 k16 _ => ⟨rfl, ex16 M16 τ lc rc _ _ T16 C16 k16 k15 hE⟩
    | ok r =>
      rw [et] at hE
      have hE : EndCR b n M Q ((rdQ b n m r.2 r.1 (σI A B (cl0 (mAI M) r.2))).bind fun q => .ok (q.1, r.2, q.2.1, q.2.2)) := hE
      intro M16 lc rc T16 C16 k16 _
      obtain ⟨q1, q2, q3, q4⟩ := told_cq (n := n) hZ0 hM hN T16.1 h15 k15 C16 k16
      refine ⟨rfl, TRd_ok (m := m) hB hS q2 ⟨lc, rc, C16⟩ q3 ⟨T16, q1, ?_, Nat.zero_le _, Nat.le_refl _, Nat.zero_le _⟩ (by omega) hE⟩
      show (NT r.2.1.length).length ≤ 18 + r.1
      rw [NT_len]; omega
end
