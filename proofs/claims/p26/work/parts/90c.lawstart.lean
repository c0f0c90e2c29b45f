theorem law_start {L : Nat} {xs : Nat → Int32} {h : Nat} {Q : Option Value → Mem → Prop} (H : ∀ M, Start M → T (h + 9) (mdL L xs) 18 [(0, .ref (mBig + 0)), (1, .ref 0), (2, .ref 29), (3, .int 0)] [] M Q) : T (h + 9) (mdL L xs) 0 [(0, .ref (mBig + 0))] [] mem0 Q := by
  refine VL_law_0 ?_
  unfold DL_law_0
  intro q2 M1 hq2 hM1
  have hq2 : q2 = 0 := hq2
  subst hq2 hM1
  refine S_mill0.imp (fun r M3 hE hp hE2 => ⟨hp.1, fun q5 M4 hq5 hM4 => ?_⟩)
  obtain ⟨-, hp⟩ := hp
  subst hp
  have hq5 : q5 = 29 := hq5.trans n_G0
  subst hq5
  have hM4 : M4 = mH0 := hM4
  rw [hM4]
  refine (S_modelInit (M := mH0) (x0 := 29) o_H0).imp (fun r M6 hE hp hE2 => ⟨hp.1, ?_⟩)
  obtain ⟨-, p1, p2, p3, p4, p5, p6⟩ := hp
  exact H _ (start_of p1 p2 p3 p4 p5 p6)
