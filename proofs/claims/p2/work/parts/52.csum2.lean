/-! the class reads sums: readOne, readTimes, readSum against rd -/
section
variable {b : Nat → Int32} {n s n0 : Nat} {sN : List Int64} {ro mx : List Int32} {vN : List Int64} {h : Nat} {Q : Option Value → Mem → Prop}
theorem X_one {M : Mem} {f : Int32} {p : Nat} {l : List Int32} {cc : Nat} (hR : RX n0 sN ro mx vN M f p l cc) (H : Q none M) : E (h + 2) mdX4_readOne [.ref 14] M Q := by
  have F := hR.1.1
  have k := hR.1.2.2.2.2.2
  refine KX4_readOne ?_
  unfold DX4_readOne_0 DX4_readOne_210
  refine ⟨ok14 F, 15, rf14_0 F, ok15 F, fun hc => absurd (k ▸ hc) (by decide), fun hc => absurd (k ▸ hc) (by decide), fun hc => absurd (k ▸ hc) (by decide), fun hc => absurd (k ▸ hc) (by decide), fun hc => absurd (k ▸ hc) (by decide), fun _ => ⟨15, rf14_0 F, ok15 F, F_fail hR.1 (fun _ => ⟨rfl, H⟩)⟩⟩
theorem X_timesL {M : Mem} {f : Int32} {p c : Nat} {l : List Int32} {cc : Nat} (hR : RX n0 sN ro mx vN M f p l cc) (H : Q none M) : T (h + 1) mdX4_readTimes 6 [(0, .ref 14), (1, .int (Int32.ofNat c))] [] M Q := by
  have F := hR.1.1
  have k := hR.1.2.2.2.2.2
  refine VX4_readTimes_6 ?_
  unfold DX4_readTimes_6
  refine ⟨fun _ => H, fun _ => ⟨ok14 F, 15, rf14_0 F, ok15 F, fun hc => absurd (k ▸ hc) (by decide), fun _ => ⟨fun hc => absurd (k ▸ hc) (by decide), fun _ => ⟨fun hc => absurd (k ▸ hc) (by decide), fun _ => H⟩⟩⟩⟩
theorem X_times {M : Mem} {f : Int32} {p : Nat} {l : List Int32} {cc : Nat} (hR : RX n0 sN ro mx vN M f p l cc) (H : Q none M) : E (h + 3) mdX4_readTimes [.ref 14] M Q := by
  refine KX4_readTimes ?_
  unfold DX4_readTimes_0
  exact ⟨ok14 hR.1.1, X_one hR (fun _ => ⟨rfl, X_timesL (c := 0) hR H⟩)⟩
theorem X_sumL {M : Mem} {f : Int32} {p c : Nat} {l : List Int32} {cc : Nat} (hR : RX n0 sN ro mx vN M f p l cc) (H : Q none M) : T (h + 1) mdX4_readSum 6 [(0, .ref 14), (1, .int (Int32.ofNat c))] [] M Q := by
  have F := hR.1.1
  have k := hR.1.2.2.2.2.2
  refine VX4_readSum_6 ?_
  unfold DX4_readSum_6
  refine ⟨fun _ => H, fun _ => ⟨ok14 F, 15, rf14_0 F, ok15 F, fun hc => absurd (k ▸ hc) (by decide), fun _ => ⟨fun hc => absurd (k ▸ hc) (by decide), fun _ => H⟩⟩⟩
theorem X_sum {M : Mem} {f : Int32} {p : Nat} {l : List Int32} {cc : Nat} (hR : RX n0 sN ro mx vN M f p l cc) (H : Q none M) : E (h + 4) mdX4_readSum [.ref 14] M Q := by
  refine KX4_readSum ?_
  unfold DX4_readSum_0
  exact ⟨ok14 hR.1.1, X_times hR (fun _ => ⟨rfl, X_sumL (c := 0) hR H⟩)⟩
theorem n64_32 {k : Nat} (h : k < 1000) : (Int64.ofNat k).toInt32 = Int32.ofNat k := by
  refine Int32.toInt_inj.mp ?_
  rw [Int64.toInt_toInt32, Int64.toInt_ofNat_of_lt (by omega), ti32 (by omega), Int.bmod_def]
  omega
theorem X_brk {M : Mem} {f : Int32} {p : Nat} {l : List Int32} {cc : Nat} (hR : RX n0 sN ro mx vN M f p l cc) (H : ∀ M', RX n0 sN ro mx vN M' f p l cc → TFr M M' → Q none M') : DX4_readInBrackets_28 (h + 2) 14 M Q := by
  unfold DX4_readInBrackets_28
  have F := hR.1.1
  exact ⟨ok14 F, 15, rf14_0 F, ok15 F, F_expect hR.1 (by decide) (fun _ => ⟨rfl, 15, rf14_0 F, ok15 F, F_closes hR.1 (fun M' T' F' _ => ⟨rfl, H M' (hR.t F' T') F'⟩)⟩)⟩
theorem X_neg {M : Mem} {f : Int32} {p : Nat} {l : List Int32} {cc : Nat} (hR : RX n0 sN ro mx vN M f p l cc) (hl : l.length < 29000) (H : ∀ M' cc', RX n0 sN ro mx vN M' f p (l ++ [4]) cc' → SFm n0 M M' cc l cc' (l ++ [4]) → Q none M') : DX4_readOne_174 (h + 3) 14 M Q := by
  unfold DX4_readOne_174 DX4_readOne_210
  have F := hR.1.1
  refine ⟨ok14 F, 15, rf14_0 F, ok15 F, F_closes hR.1 (fun M1 T1 F1 _ => ⟨rfl, ?_⟩)⟩
  have R1 := hR.t F1 T1
  exact ⟨n0, R1.2.2.2.2.1, R1.2.1.1, n0 + 22, R1.2.1.2.2.2.2.2.2.2.2.2.2.2.2, R1.2.2.1.1, X_add R1 (by omega) (fun M2 c2 R2 F2 _ => ⟨rfl, H M2 c2 R2 ((SFm.t F1 hR.2.2.2.2.2.1).tr F2)⟩)⟩
/-- the ends of a reading: Q behind a good one, and behind a fault -/
def EndS (b : Nat → Int32) (n s n0 : Nat) (sN : List Int64) (ro mx : List Int32) (vN : List Int64) (M : Mem) (i o : Nat) (X : List Nd) (l : List Int32) (cc : Nat) (Q : Option Value → Mem → Prop) (R : Except (Int32 × Nat) (Nat × List Nd × Int32)) : Prop := match R with
  | .ok r => ∀ M' cc', RI b n s n0 sN ro mx vN M' r.1 o r.2.2 (l ++ cdL (r.2.1.drop X.length)) cc' → SFm n0 M M' cc l cc' (l ++ cdL (r.2.1.drop X.length)) → Q none M'
  | .error e => ∀ M' cc' l', RX n0 sN ro mx vN M' e.1 e.2 l' cc' → l'.length ≤ l.length + 4 * (s + 1 - i) + 4 * (16 - o) → SFm n0 M M' cc l cc' l' → Q none M'
theorem C_rd (hB : By b) (hS : Sto b n s) : ∀ (g : Nat),
    (∀ (M : Mem) (i o : Nat) (X : List Nd) (u : Int32) (l : List Int32) (cc H : Nat) (Q : Option Value → Mem → Prop), 6 * (s + 1 - i) ≤ g → 6 + 4 * (16 - o) ≤ H → o ≤ 15 → l.length + 4 * (s + 1 - i) + 4 * (16 - o) ≤ 20000 → RI b n s n0 sN ro mx vN M i o u l cc → EndS b n s n0 sN ro mx vN M i o X l cc Q (rd b n sN mx vN g 0 i o X u) → E H mdX4_readOne [.ref 14] M Q) ∧
    (∀ (M : Mem) (i o : Nat) (X : List Nd) (u : Int32) (l : List Int32) (cc H : Nat) (Q : Option Value → Mem → Prop), 6 * (s + 1 - i) + 1 ≤ g → 7 + 4 * (16 - o) ≤ H → o ≤ 15 → l.length + 4 * (s + 1 - i) + 4 * (16 - o) ≤ 20000 → RI b n s n0 sN ro mx vN M i o u l cc → EndS b n s n0 sN ro mx vN M i o X l cc Q (rd b n sN mx vN g 1 i o X u) → E H mdX4_readTimes [.ref 14] M Q) ∧
    (∀ (M : Mem) (i o c : Nat) (X : List Nd) (u : Int32) (l : List Int32) (cc H : Nat) (Q : Option Value → Mem → Prop), 6 * (s + 1 - i) + 2 ≤ g → 7 + 4 * (16 - o) ≤ H → o ≤ 15 → 2 * c ≤ i → l.length + 4 * (s + 1 - i) + 4 * (16 - o) ≤ 20000 → RI b n s n0 sN ro mx vN M i o u l cc → EndS b n s n0 sN ro mx vN M i o X l cc Q (rd b n sN mx vN g 2 i o X u) → T H mdX4_readTimes 6 [(0, .ref 14), (1, .int (Int32.ofNat c))] [] M Q) ∧
    (∀ (M : Mem) (i o : Nat) (X : List Nd) (u : Int32) (l : List Int32) (cc H : Nat) (Q : Option Value → Mem → Prop), 6 * (s + 1 - i) + 3 ≤ g → 8 + 4 * (16 - o) ≤ H → o ≤ 15 → l.length + 4 * (s + 1 - i) + 4 * (16 - o) ≤ 20000 → RI b n s n0 sN ro mx vN M i o u l cc → EndS b n s n0 sN ro mx vN M i o X l cc Q (rd b n sN mx vN g 3 i o X u) → E H mdX4_readSum [.ref 14] M Q) ∧
    (∀ (M : Mem) (i o c : Nat) (X : List Nd) (u : Int32) (l : List Int32) (cc H : Nat) (Q : Option Value → Mem → Prop), 6 * (s + 1 - i) + 4 ≤ g → 8 + 4 * (16 - o) ≤ H → o ≤ 15 → 2 * c ≤ i → l.length + 4 * (s + 1 - i) + 4 * (16 - o) ≤ 20000 → RI b n s n0 sN ro mx vN M i o u l cc → EndS b n s n0 sN ro mx vN M i o X l cc Q (rd b n sN mx vN g 4 i o X u) → T H mdX4_readSum 6 [(0, .ref 14), (1, .int (Int32.ofNat c))] [] M Q) := by
  intro g
  induction g with
  | zero =>
    refine ⟨?_, ?_, ?_, ?_, ?_⟩
    · intro M i o X u l cc H Q hg _ _ _ hR _; have := hR.1.2.1; omega
    · intro M i o X u l cc H Q hg _ _ _ hR _; have := hR.1.2.1; omega
    · intro M i o c X u l cc H Q hg _ _ _ _ hR _; have := hR.1.2.1; omega
    · intro M i o X u l cc H Q hg _ _ _ hR _; have := hR.1.2.1; omega
    · intro M i o c X u l cc H Q hg _ _ _ _ hR _; have := hR.1.2.1; omega
  | succ g ih =>
    obtain ⟨ih0, ih1, ih2, ih3, ih4⟩ := ih
    refine ⟨?_, ?_, ?_, ?_, ?_⟩
    · intro M i o X u l cc H Q hg hh ho hl hR hE
      obtain ⟨H', rfl⟩ : ∃ H', H = H' + 5 + 1 := ⟨H - 6, by omega⟩
      obtain ⟨h1, h2, h3, h4, h5, h6, h7, h8⟩ := id hR
      have F := h1.1
      have hi := h1.2.1
      have h0 := h1.2.2.2.2.2.2.2.2.2
      refine KX4_readOne ?_
      unfold DX4_readOne_0 DX4_readOne_210 DX4_readOne_174
      unfold rd at hE
      rw [if_pos rfl] at hE
      refine ⟨ok14 F, 15, rf14_0 F, ok15 F, fun hk => ?_, fun hk => ?_, fun hk => ?_, fun hk => ?_, fun hk => ?_, fun hk => ?_⟩
      all_goals rw [h1.kind] at hk
      · have n3 : ¬ tK b n i = 3 := by rw [hk]; decide
        rw [if_neg n3, if_pos hk] at hE
        have hs := hS.lt hi.2.2 h0 (by rw [hk]; decide)
        refine A_usedVar hR hB hk (fun k e M1 R1 F1 _ => ⟨_, rfl, n0, R1.2.2.2.2.2.1, R1.2.1.1, n0 + 22, R1.2.1.2.2.2.2.2.2.2.2.2.2.2.2, R1.2.2.1.1, A_addW R1 (by omega) (fun M2 c2 R2 F2 _ => ⟨rfl, 15, rf14_0 R2.1.1, ok15 R2.1.1, A_adv R2.1 hs (fun k1 M3 T3 F3 _ => ⟨rfl, ?_⟩) (fun k1 M3 T3 F3 _ => ⟨rfl, ?_⟩)⟩)⟩) (fun e M1 X1 F1 _ => ⟨_, rfl, n0, X1.2.2.2.2.1, X1.2.1.1, n0 + 22, X1.2.1.2.2.2.2.2.2.2.2.2.2.2.2, X1.2.2.1.1, X_addW X1 (by omega) (fun M2 c2 X2 F2 _ => ⟨rfl, 15, rf14_0 X2.1.1, ok15 X2.1.1, F_adv X2.1 (fun _ => ⟨rfl, ?_⟩)⟩)⟩)
        · rw [e] at hE
          have e2 : adv' b n i = .ok (i + 1) := by unfold adv'; rw [if_neg k1]
          rw [e2] at hE
          have R3 := R2.t F3 T3
          have e3 : (X ++ [((1 : Nat), Int64.ofNat k, (0 : Nat))]).drop X.length = [(1, Int64.ofNat k, 0)] := List.drop_left
          have e4 : cdL [((1 : Nat), Int64.ofNat k, (0 : Nat))] = [2, Int32.ofNat k] := by
            have hkl := (fd_some e).1
            have := h2.2.1.2.2.2
            show [2, (Int64.ofNat k).toInt32] = _
            rw [n64_32 (by omega)]
          refine hE M3 c2 ?_ ?_
          · show RI b n s n0 sN ro mx vN M3 (i + 1) o _ (l ++ cdL ((X ++ [(1, Int64.ofNat k, 0)]).drop X.length)) c2
            rw [e3, e4]; exact R3
          · show SFm n0 M M3 cc l c2 (l ++ cdL ((X ++ [(1, Int64.ofNat k, 0)]).drop X.length))
            rw [e3, e4]; exact (F1.tr F2).tr (SFm.t F3 h7)
        · rw [e] at hE
          have e2 : adv' b n i = .error (1, tP b n (i + 1)) := by unfold adv'; rw [if_pos k1]
          rw [e2] at hE
          exact hE M3 c2 _ (R2.x F3 T3) (by rw [List.length_append]; show l.length + 2 ≤ _; omega) ((F1.tr F2).tr (SFm.t F3 h7))
        · rw [e] at hE
          exact hE M2 c2 _ X2 (by rw [List.length_append]; show l.length + 2 ≤ _; omega) (F1.tr F2)
      · rw [if_pos hk] at hE
        have hs := hS.lt hi.2.2 h0 (by rw [hk]; decide)
        refine ⟨n0, h6, h2.1, n0 + 22, h2.2.2.2.2.2.2.2.2.2.2.2.2, 15, rf14_0 F, ok15 F, h3.1, ?_⟩
        rw [h1.number hB hk]
        refine A_addW hR (by omega) (fun M2 c2 R2 F2 _ => ⟨rfl, 15, rf14_0 R2.1.1, ok15 R2.1.1, A_adv R2.1 hs (fun k1 M3 T3 F3 _ => ⟨rfl, ?_⟩) (fun k1 M3 T3 F3 _ => ⟨rfl, ?_⟩)⟩)
        · have e2 : adv' b n i = .ok (i + 1) := by unfold adv'; rw [if_neg k1]
          rw [e2] at hE
          have R3 := R2.t F3 T3
          have e3 : (X ++ [((0 : Nat), tC b n i, (0 : Nat))]).drop X.length = [(0, tC b n i, 0)] := List.drop_left
          refine hE M3 c2 ?_ ?_
          · show RI b n s n0 sN ro mx vN M3 (i + 1) o _ (l ++ cdL ((X ++ [(0, tC b n i, 0)]).drop X.length)) c2
            rw [e3]; exact R3
          · show SFm n0 M M3 cc l c2 (l ++ cdL ((X ++ [(0, tC b n i, 0)]).drop X.length))
            rw [e3]; exact F2.tr (SFm.t F3 h7)
        · have e2 : adv' b n i = .error (1, tP b n (i + 1)) := by unfold adv'; rw [if_pos k1]
          rw [e2] at hE
          exact hE M3 c2 _ (R2.x F3 T3) (by rw [List.length_append]; show l.length + 2 ≤ _; omega) (F2.tr (SFm.t F3 h7))
      · -- a bracket
        have n3 : ¬ tK b n i = 3 := by rw [hk]; decide
        have n2 : ¬ tK b n i = 2 := by rw [hk]; decide
        have n19 : ¬ tK b n i = 19 := by rw [hk]; decide
        have n21 : ¬ tK b n i = 21 := by rw [hk]; decide
        rw [if_neg n3, if_neg n2, if_neg n19, if_neg n21, if_pos hk] at hE
        have hs := hS.lt hi.2.2 h0 (by rw [hk]; decide)
        refine KX4_readInBrackets ?_
        unfold DX4_readInBrackets_0
        have bad : ∀ (M1 : Mem) (e : Int32 × Nat) (c1 : Nat) (l1 : List Int32), RX n0 sN ro mx vN M1 e.1 e.2 l1 c1 → SFm n0 M M1 cc l c1 l1 → (∀ M' , RX n0 sN ro mx vN M' e.1 e.2 l1 c1 → SFm n0 M M' cc l c1 l1 → Q none M') → DX4_readInBrackets_28 (H' + 4) 14 M1 (fun r M24 => mE M M24 → r = none ∧ Q none M24) := by
          intro M1 e c1 l1 X1 F1 K
          exact X_brk X1 (fun M' X' F' _ => ⟨rfl, K M' X' (F1.tr (SFm.t F' h7))⟩)
        refine ⟨ok14 F, 15, rf14_0 F, ok15 F, A_opens h1 ho (fun h15 M1 T1 F1 _ => ⟨rfl, 15, rf14_0 T1.1, ok15 T1.1, ?_⟩) (fun h15 M1 T1 F1 _ => ⟨rfl, 15, rf14_0 T1.1, ok15 T1.1, F_adv T1 (fun _ => ⟨rfl, 15, rf14_0 T1.1, ok15 T1.1, fun _ => ?_, fun hc => absurd (T1.2.2.1 ▸ hc) (by decide)⟩)⟩)⟩
        · rw [if_neg (by omega : ¬ o = 15)] at hE
          refine A_adv T1 hs (fun k1 M2 T2 F2 _ => ⟨rfl, 15, rf14_0 T2.1, ok15 T2.1, fun hc => absurd T2.2.2.2.2.2.2.2.2.1 hc, fun _ => ?_⟩) (fun k1 M2 T2 F2 _ => ⟨rfl, 15, rf14_0 T2.1, ok15 T2.1, fun _ => ?_, fun hc => absurd (T2.2.2.1 ▸ hc) (by decide)⟩)
          · have e2 : adv' b n i = .ok (i + 1) := by unfold adv'; rw [if_neg k1]
            rw [e2] at hE
            have hE : EndS b n s n0 sN ro mx vN M i o X l cc Q ((rd b n sN mx vN g 3 (i + 1) (o + 1) X u).bind fun r => if tK b n r.1 = 16 then (adv' b n r.1).bind fun j' => .ok (j', r.2) else .error (2, tP b n r.1)) := hE
            have R2 := hR.t (F1.tr F2) T2
            have G2 : SFm n0 M M2 cc l cc l := SFm.t (F1.tr F2) h7
            refine ih3 M2 (i + 1) (o + 1) X u l cc (H' + 4) _ (by omega) (by omega) (by omega) (by omega) R2 ?_
            have hok := rd_ok (sN := sN) (mx := mx) (vN := vN) hS g 3 (i + 1) (o + 1) X u (by decide) (by omega) k1
            generalize rd b n sN mx vN g 3 (i + 1) (o + 1) X u = R at hE hok
            cases R with
            | error e =>
              intro M3 c3 l3 X3 hlen F3
              refine fun _ => ⟨rfl, bad M3 e c3 l3 X3 (G2.tr F3) (fun M' X' F' => hE M' c3 l3 X' (by omega) F')⟩
            | ok r =>
              obtain ⟨a1, a2, a3, ⟨Y, a4, a5⟩, -⟩ := hok
              have ed : r.2.1.drop X.length = Y := by rw [a4]; exact List.drop_left
              intro M3 c3 R3 F3
              refine fun _ => ⟨rfl, ?_⟩
              have hE : EndS b n s n0 sN ro mx vN M i o X l cc Q (if tK b n r.1 = 16 then (adv' b n r.1).bind fun j' => .ok (j', r.2) else .error (2, tP b n r.1)) := hE
              have hlc := @cdL_len Y
              unfold DX4_readInBrackets_28
              have FF := R3.1.1
              refine ⟨ok14 FF, 15, rf14_0 FF, ok15 FF, A_expect R3.1 (by decide) (fun q1 q2 M4 T4 F4 _ => ⟨rfl, 15, rf14_0 T4.1, ok15 T4.1, A_closes T4 (by omega) (fun M5 T5 F5 _ => ⟨rfl, fun _ => ⟨rfl, ?_⟩⟩)⟩) (fun q1 q2 M4 T4 F4 _ => ⟨rfl, 15, rf14_0 T4.1, ok15 T4.1, F_closes T4 (fun M5 T5 F5 _ => ⟨rfl, fun _ => ⟨rfl, ?_⟩⟩)⟩) (fun q1 M4 T4 F4 _ => ⟨rfl, 15, rf14_0 T4.1, ok15 T4.1, F_closes T4 (fun M5 T5 F5 _ => ⟨rfl, fun _ => ⟨rfl, ?_⟩⟩)⟩) hS.2.2.1⟩
              · rw [if_pos q1] at hE
                have e5 : adv' b n r.1 = .ok (r.1 + 1) := by unfold adv'; rw [if_neg q2]
                rw [e5] at hE
                exact hE M5 c3 (R3.t (F4.tr F5) T5) ((G2.tr F3).tr (SFm.t (F4.tr F5) h7))
              · rw [if_pos q1] at hE
                have e5 : adv' b n r.1 = .error (1, tP b n (r.1 + 1)) := by unfold adv'; rw [if_pos q2]
                rw [e5] at hE
                refine hE M5 c3 _ (R3.x (F4.tr F5) T5) ?_ ((G2.tr F3).tr (SFm.t (F4.tr F5) h7))
                rw [List.length_append, ed]; omega
              · rw [if_neg q1] at hE
                refine hE M5 c3 _ (R3.x (F4.tr F5) T5) ?_ ((G2.tr F3).tr (SFm.t (F4.tr F5) h7))
                rw [List.length_append, ed]; omega
          · have e2 : adv' b n i = .error (1, tP b n (i + 1)) := by unfold adv'; rw [if_pos k1]
            rw [e2] at hE
            exact bad M2 (1, tP b n (i + 1)) cc l (hR.x (F1.tr F2) T2) (SFm.t (F1.tr F2) h7) (fun M' X' F' => hE M' cc l X' (by omega) F')
        · rw [if_pos h15] at hE
          exact bad M1 (6, tP b n i) cc l (hR.x F1 T1) (SFm.t F1 h7) (fun M' X' F' => hE M' cc l X' (by omega) F')
      · -- the number of a signal
        have n3 : ¬ tK b n i = 3 := by rw [hk]; decide
        have n2 : ¬ tK b n i = 2 := by rw [hk]; decide
        rw [if_neg n3, if_neg n2, if_pos hk] at hE
        have hs := hS.lt hi.2.2 h0 (by rw [hk]; decide)
        have tail : ∀ (M1 : Mem) (e : Int32 × Nat) (v : Int32), RX n0 sN ro mx vN M1 e.1 e.2 l cc → SFm n0 M M1 cc l cc l → EndS b n s n0 sN ro mx vN M i o X l cc Q (.error e) → ∃ b30 : Nat, mR M1 14 7 = some b30 ∧ ok M1 b30 3 ∧ ∃ b32 : Nat, mR M1 b30 8 = some b32 ∧ ok M1 b32 8 ∧ E (H' + 5) mdX6_addWith [.ref b32, .int 3, .int v] M1 (fun r M34 => mE M1 M34 → r = none ∧ ∃ b35 : Nat, mR M34 14 0 = some b35 ∧ ok M34 b35 9 ∧ E (H' + 5) mdX7_advance [.ref b35] M34 (fun r M37 => mE M34 M37 → r = none ∧ Q none M37)) := by
          intro M1 e v X1 F1 hE
          exact ⟨n0, X1.2.2.2.2.1, X1.2.1.1, n0 + 22, X1.2.1.2.2.2.2.2.2.2.2.2.2.2.2, X1.2.2.1.1, X_addW X1 (by omega) (fun M2 c2 X2 F2 _ => ⟨rfl, 15, rf14_0 X2.1.1, ok15 X2.1.1, F_adv X2.1 (fun _ => ⟨rfl, hE M2 c2 _ X2 (by rw [List.length_append]; show l.length + 2 ≤ _; omega) (F1.tr F2)⟩)⟩)⟩
        refine ⟨15, rf14_0 F, ok15 F, A_adv h1 hs (fun k1 M1 T1 F1 _ => ⟨rfl, ?_⟩) (fun k1 M1 T1 F1 _ => ⟨rfl, ?_⟩)⟩
        · have e2 : adv' b n i = .ok (i + 1) := by unfold adv'; rw [if_neg k1]
          rw [e2] at hE
          have hE : EndS b n s n0 sN ro mx vN M i o X l cc Q (if tK b n (i + 1) = 2 then (match fd sN (tC b n (i + 1)) with
            | none => .error (4, tP b n (i + 1))
            | some k => if mx.getD k 0 = 0 then .error (4, tP b n (i + 1)) else (adv' b n (i + 1)).bind fun j' => .ok (j', X ++ [(2, Int64.ofNat k, 0)], u))
            else .error (2, tP b n (i + 1))) := hE
          have R1 := hR.t F1 T1
          refine A_asked R1 hB (fun q k e hm _ => ⟨_, rfl, ?_⟩) (fun q e M2 v X2 F2 _ => ⟨_, rfl, ?_⟩) (fun q M2 v X2 F2 _ => ⟨_, rfl, ?_⟩)
          · rw [if_pos q, e] at hE
            have hE : EndS b n s n0 sN ro mx vN M i o X l cc Q (if mx.getD k 0 = 0 then .error (4, tP b n (i + 1)) else (adv' b n (i + 1)).bind fun j' => .ok (j', X ++ [(2, Int64.ofNat k, 0)], u)) := hE
            rw [if_neg hm] at hE
            have hs2 := hS.lt hs k1 (by rw [q]; decide)
            refine ⟨n0, R1.2.2.2.2.2.1, R1.2.1.1, n0 + 22, R1.2.1.2.2.2.2.2.2.2.2.2.2.2.2, R1.2.2.1.1, A_addW R1 (by omega) (fun M2 c2 R2 F2 _ => ⟨rfl, 15, rf14_0 R2.1.1, ok15 R2.1.1, A_adv R2.1 hs2 (fun k2 M3 T3 F3 _ => ⟨rfl, ?_⟩) (fun k2 M3 T3 F3 _ => ⟨rfl, ?_⟩)⟩)⟩
            · have e5 : adv' b n (i + 1) = .ok (i + 1 + 1) := by unfold adv'; rw [if_neg k2]
              rw [e5] at hE
              have R3 := R2.t F3 T3
              have e3 : (X ++ [((2 : Nat), Int64.ofNat k, (0 : Nat))]).drop X.length = [(2, Int64.ofNat k, 0)] := List.drop_left
              have e4 : cdL [((2 : Nat), Int64.ofNat k, (0 : Nat))] = [3, Int32.ofNat k] := by
                have hkl := (fd_some e).1
                have := h2.2.1.1
                show [3, (Int64.ofNat k).toInt32] = _
                rw [n64_32 (by omega)]
              refine hE M3 c2 ?_ ?_
              · show RI b n s n0 sN ro mx vN M3 (i + 1 + 1) o _ (l ++ cdL ((X ++ [(2, Int64.ofNat k, 0)]).drop X.length)) c2
                rw [e3, e4]; exact R3
              · show SFm n0 M M3 cc l c2 (l ++ cdL ((X ++ [(2, Int64.ofNat k, 0)]).drop X.length))
                rw [e3, e4]; exact ((SFm.t F1 h7).tr F2).tr (SFm.t F3 h7)
            · have e5 : adv' b n (i + 1) = .error (1, tP b n (i + 1 + 1)) := by unfold adv'; rw [if_pos k2]
              rw [e5] at hE
              exact hE M3 c2 _ (R2.x F3 T3) (by rw [List.length_append]; show l.length + 2 ≤ _; omega) (((SFm.t F1 h7).tr F2).tr (SFm.t F3 h7))
          · refine tail M2 (4, tP b n (i + 1)) v X2 (SFm.t (F1.tr F2) h7) ?_
            rw [if_pos q] at hE
            rcases e with e | ⟨k, e, hm⟩
            · rw [e] at hE; exact hE
            · rw [e] at hE
              have hE : EndS b n s n0 sN ro mx vN M i o X l cc Q (if mx.getD k 0 = 0 then .error (4, tP b n (i + 1)) else (adv' b n (i + 1)).bind fun j' => .ok (j', X ++ [(2, Int64.ofNat k, 0)], u)) := hE
              rw [if_pos hm] at hE
              exact hE
          · rw [if_neg q] at hE
            exact tail M2 (2, tP b n (i + 1)) v X2 (SFm.t (F1.tr F2) h7) hE
        · have e2 : adv' b n i = .error (1, tP b n (i + 1)) := by unfold adv'; rw [if_pos k1]
          rw [e2] at hE
          exact X_asked (hR.x F1 T1) (fun _ => ⟨_, rfl, tail M1 (1, tP b n (i + 1)) _ (hR.x F1 T1) (SFm.t F1 h7) hE⟩)
      · -- a negative
        have n3 : ¬ tK b n i = 3 := by rw [hk]; decide
        have n2 : ¬ tK b n i = 2 := by rw [hk]; decide
        have n19 : ¬ tK b n i = 19 := by rw [hk]; decide
        rw [if_neg n3, if_neg n2, if_neg n19, if_pos hk] at hE
        have hs := hS.lt hi.2.2 h0 (by rw [hk]; decide)
        have bad : ∀ (M1 : Mem) (e : Int32 × Nat) (c1 : Nat) (l1 : List Int32), RX n0 sN ro mx vN M1 e.1 e.2 l1 c1 → SFm n0 M M1 cc l c1 l1 → l1.length + 1 ≤ l.length + 4 * (s + 1 - i) + 4 * (16 - o) → EndS b n s n0 sN ro mx vN M i o X l cc Q (.error e) → DX4_readOne_174 (H' + 5) 14 M1 Q := by
          intro M1 e c1 l1 X1 F1 hlen hE
          exact X_neg X1 (by omega) (fun M' c' X' F' => hE M' c' _ X' (by rw [List.length_append]; exact hlen) (F1.tr F'))
        refine ⟨15, rf14_0 F, ok15 F, A_opens h1 ho (fun h15 M1 T1 F1 _ => ⟨rfl, 15, rf14_0 T1.1, ok15 T1.1, ?_⟩) (fun h15 M1 T1 F1 _ => ⟨rfl, 15, rf14_0 T1.1, ok15 T1.1, F_adv T1 (fun _ => ⟨rfl, 15, rf14_0 T1.1, ok15 T1.1, fun _ => ?_, fun hc => absurd (T1.2.2.1 ▸ hc) (by decide)⟩)⟩)⟩
        · rw [if_neg (by omega : ¬ o = 15)] at hE
          refine A_adv T1 hs (fun k1 M2 T2 F2 _ => ⟨rfl, 15, rf14_0 T2.1, ok15 T2.1, fun hc => absurd T2.2.2.2.2.2.2.2.2.1 hc, fun _ => ?_⟩) (fun k1 M2 T2 F2 _ => ⟨rfl, 15, rf14_0 T2.1, ok15 T2.1, fun _ => ?_, fun hc => absurd (T2.2.2.1 ▸ hc) (by decide)⟩)
          · have e2 : adv' b n i = .ok (i + 1) := by unfold adv'; rw [if_neg k1]
            rw [e2] at hE
            have hE : EndS b n s n0 sN ro mx vN M i o X l cc Q ((rd b n sN mx vN g 0 (i + 1) (o + 1) X u).bind fun r => .ok (r.1, r.2.1 ++ [(3, Int64.ofNat (r.2.1.length - 1), 0)], r.2.2)) := hE
            have R2 := hR.t (F1.tr F2) T2
            have G2 : SFm n0 M M2 cc l cc l := SFm.t (F1.tr F2) h7
            refine ih0 M2 (i + 1) (o + 1) X u l cc (H' + 5) _ (by omega) (by omega) (by omega) (by omega) R2 ?_
            have hok := rd_ok (sN := sN) (mx := mx) (vN := vN) hS g 0 (i + 1) (o + 1) X u (by decide) (by omega) k1
            generalize rd b n sN mx vN g 0 (i + 1) (o + 1) X u = R at hE hok
            cases R with
            | error e =>
              intro M3 c3 l3 X3 hlen F3
              exact fun _ => ⟨rfl, bad M3 e c3 l3 X3 (G2.tr F3) (by omega) hE⟩
            | ok r =>
              obtain ⟨a1, a2, a3, ⟨Y, a4, a5⟩, -⟩ := hok
              have ed : r.2.1.drop X.length = Y := by rw [a4]; exact List.drop_left
              have ed2 : (r.2.1 ++ [((3 : Nat), Int64.ofNat (r.2.1.length - 1), (0 : Nat))]).drop X.length = Y ++ [(3, Int64.ofNat (r.2.1.length - 1), 0)] := by
                rw [a4, List.append_assoc]; exact List.drop_left
              have hlc := @cdL_len Y
              intro M3 c3 R3 F3
              refine fun _ => ⟨rfl, ?_⟩
              unfold DX4_readOne_210
              have FF := R3.1.1
              refine ⟨ok14 FF, 15, rf14_0 FF, ok15 FF, A_closes R3.1 (by omega) (fun M4 T4 F4 _ => ⟨rfl, ?_⟩)⟩
              have R4 := R3.t F4 T4
              refine ⟨n0, R4.2.2.2.2.2.1, R4.2.1.1, n0 + 22, R4.2.1.2.2.2.2.2.2.2.2.2.2.2.2, R4.2.2.1.1, A_add R4 (by rw [List.length_append, ed]; omega) (fun M5 c5 R5 F5 _ => ⟨rfl, ?_⟩)⟩
              have ec : l ++ cdL (r.2.1.drop X.length) ++ [4] = l ++ cdL ((r.2.1 ++ [((3 : Nat), Int64.ofNat (r.2.1.length - 1), (0 : Nat))]).drop X.length) := by
                rw [ed, ed2, cdL_app, List.append_assoc]; rfl
              rw [ec] at R5 F5
              exact hE M5 c5 R5 (((G2.tr F3).tr (SFm.t F4 h7)).tr F5)
          · have e2 : adv' b n i = .error (1, tP b n (i + 1)) := by unfold adv'; rw [if_pos k1]
            rw [e2] at hE
            exact bad M2 (1, tP b n (i + 1)) cc l (hR.x (F1.tr F2) T2) (SFm.t (F1.tr F2) h7) (by omega) hE
        · rw [if_pos h15] at hE
          exact bad M1 (6, tP b n i) cc l (hR.x F1 T1) (SFm.t F1 h7) (by omega) hE
      · obtain ⟨k2, k3, k15, k19, k21⟩ := hk
        rw [if_neg k3, if_neg k2, if_neg k19, if_neg k21, if_neg k15] at hE
        exact ⟨15, rf14_0 F, ok15 F, A_fail h1 (by decide) (fun M1 T1 F1 _ => ⟨rfl, hE M1 cc l (hR.x F1 T1) (by omega) (SFm.t F1 h7)⟩)⟩
    · intro M i o X u l cc H Q hg hh ho hl hR hE
      obtain ⟨H', rfl⟩ : ∃ H', H = H' + 6 + 1 := ⟨H - 7, by omega⟩
      have F := hR.1.1
      have hi := hR.1.2.1
      have h0 := hR.1.2.2.2.2.2.2.2.2.2
      refine KX4_readTimes ?_
      unfold DX4_readTimes_0
      unfold rd at hE
      rw [if_neg (by decide), if_pos rfl] at hE
      refine ⟨ok14 F, ih0 M i o X u l cc (H' + 6) _ (by omega) (by omega) ho hl hR ?_⟩
      have hok := rd_ok (sN := sN) (mx := mx) (vN := vN) hS g 0 i o X u (by decide) hi.2.2 h0
      generalize rd b n sN mx vN g 0 i o X u = R at hE hok
      cases R with
      | error e =>
        intro M3 c3 l3 X3 hlen F3
        exact fun _ => ⟨rfl, X_timesL (c := 0) X3 (hE M3 c3 l3 X3 hlen F3)⟩
      | ok r =>
        obtain ⟨a1, a2, a3, ⟨Y, a4, a5⟩, a6⟩ := hok
        have a6 := (a6 (by decide)).1
        have ed : r.2.1.drop X.length = Y := by rw [a4]; exact List.drop_left
        have hlc := @cdL_len Y
        intro M3 c3 R3 F3
        refine fun _ => ⟨rfl, ih2 M3 r.1 o 0 r.2.1 r.2.2 _ c3 (H' + 6 + 1) _ (by omega) (by omega) ho (by omega) (by rw [List.length_append, ed]; omega) R3 ?_⟩
        have hE : EndS b n s n0 sN ro mx vN M i o X l cc Q (rd b n sN mx vN g 2 r.1 o r.2.1 r.2.2) := hE
        have hok2 := rd_ok (sN := sN) (mx := mx) (vN := vN) hS g 2 r.1 o r.2.1 r.2.2 (by decide) a2 a3
        generalize rd b n sN mx vN g 2 r.1 o r.2.1 r.2.2 = R2 at hE hok2
        cases R2 with
        | error e =>
          intro M4 c4 l4 X4 hlen F4
          refine hE M4 c4 l4 X4 ?_ (F3.tr F4)
          rw [List.length_append, ed] at hlen
          omega
        | ok r2 =>
          obtain ⟨b1, b2, b3, ⟨Z, b4, b5⟩, -⟩ := hok2
          have ez : r2.2.1.drop r.2.1.length = Z := by rw [b4]; exact List.drop_left
          have ex : r2.2.1.drop X.length = Y ++ Z := by rw [b4, a4, List.append_assoc]; exact List.drop_left
          intro M4 c4 R4 F4
          have ec : l ++ cdL (r.2.1.drop X.length) ++ cdL (r2.2.1.drop r.2.1.length) = l ++ cdL (r2.2.1.drop X.length) := by
            rw [ed, ez, ex, cdL_app, List.append_assoc]
          rw [ec] at R4 F4
          exact hE M4 c4 R4 (F3.tr F4)
    · intro M i o c X u l cc H Q hg hh ho hc hl hR hE
      obtain ⟨H', rfl⟩ : ∃ H', H = H' + 6 + 1 := ⟨H - 7, by omega⟩
      obtain ⟨h1, h2, h3, h4, h5, h6, h7, h8⟩ := id hR
      have F := h1.1
      have hi := h1.2.1
      have h0 := h1.2.2.2.2.2.2.2.2.2
      have hn := hS.2.1
      refine VX4_readTimes_6 ?_
      unfold DX4_readTimes_6 DX4_readTimes_40
      unfold rd at hE
      rw [if_neg (by decide), if_neg (by decide), if_pos rfl] at hE
      have go : ∀ (v : Int32), ((7 : Int32) + tK b n i) - 22 = v → cdN (opS (tK b n i), Int64.ofNat (X.length - 1), 0) = [v] → (tK b n i = 22 ∨ tK b n i = 23 ∨ tK b n i = 24) → ok M 14 6 ∧ ∃ b2 : Nat, mR M 14 0 = some b2 ∧ ok M b2 9 ∧ E (H' + 6) mdX7_advance [.ref b2] M (fun r M4 => mE M M4 → r = none ∧ E (H' + 6) mdX4_readOne [.ref 14] M4 (fun r M5 => mE M4 M5 → r = none ∧ ∃ b6 : Nat, mR M5 14 7 = some b6 ∧ ok M5 b6 3 ∧ ∃ b8 : Nat, mR M5 b6 8 = some b8 ∧ ok M5 b8 8 ∧ E (H' + 6) mdX6_add [.ref b8, .int ((7 + (mI M 15 9)) - 22)] M5 (fun r M10 => mE M5 M10 → r = none ∧ T (H' + 6 + 1) mdX4_readTimes 6 [(0, .ref 14), (1, .int (Int32.ofNat c + 1))] [] M10 Q))) := by
        intro v ev ecd hk
        rw [if_pos hk] at hE
        rw [h1.kind, ev, succ32]
        have hs := hS.lt hi.2.2 h0 (by rcases hk with q | q | q <;> (rw [q]; decide))
        have bad : ∀ (M1 : Mem) (e : Int32 × Nat) (c1 : Nat) (l1 : List Int32), RX n0 sN ro mx vN M1 e.1 e.2 l1 c1 → SFm n0 M M1 cc l c1 l1 → l1.length + 1 ≤ l.length + 4 * (s + 1 - i) + 4 * (16 - o) → EndS b n s n0 sN ro mx vN M i o X l cc Q (.error e) → ∃ b6 : Nat, mR M1 14 7 = some b6 ∧ ok M1 b6 3 ∧ ∃ b8 : Nat, mR M1 b6 8 = some b8 ∧ ok M1 b8 8 ∧ E (H' + 6) mdX6_add [.ref b8, .int v] M1 (fun r M10 => mE M1 M10 → r = none ∧ T (H' + 6 + 1) mdX4_readTimes 6 [(0, .ref 14), (1, .int (Int32.ofNat (c + 1)))] [] M10 Q) := by
          intro M1 e c1 l1 X1 F1 hlen hE
          exact ⟨n0, X1.2.2.2.2.1, X1.2.1.1, n0 + 22, X1.2.1.2.2.2.2.2.2.2.2.2.2.2.2, X1.2.2.1.1, X_add X1 (by omega) (fun M2 c2 X2 F2 _ => ⟨rfl, X_timesL X2 (hE M2 c2 _ X2 (by rw [List.length_append]; exact hlen) (F1.tr F2))⟩)⟩
        refine ⟨ok14 F, 15, rf14_0 F, ok15 F, A_adv h1 hs (fun k1 M1 T1 F1 _ => ⟨rfl, ?_⟩) (fun k1 M1 T1 F1 _ => ⟨rfl, ?_⟩)⟩
        · have e2 : adv' b n i = .ok (i + 1) := by unfold adv'; rw [if_neg k1]
          rw [e2] at hE
          have hE : EndS b n s n0 sN ro mx vN M i o X l cc Q ((rd b n sN mx vN g 0 (i + 1) o X u).bind fun r => rd b n sN mx vN g 2 r.1 o (r.2.1 ++ [(opS (tK b n i), Int64.ofNat (X.length - 1), r.2.1.length - 1)]) r.2.2) := hE
          have R1 := hR.t F1 T1
          refine ih0 M1 (i + 1) o X u l cc (H' + 6) _ (by omega) (by omega) ho (by omega) R1 ?_
          have hok := rd_ok (sN := sN) (mx := mx) (vN := vN) hS g 0 (i + 1) o X u (by decide) (by omega) k1
          generalize rd b n sN mx vN g 0 (i + 1) o X u = R at hE hok
          cases R with
          | error e =>
            intro M3 c3 l3 X3 hlen F3
            exact fun _ => ⟨rfl, bad M3 e c3 l3 X3 ((SFm.t F1 h7).tr F3) (by omega) hE⟩
          | ok r =>
            obtain ⟨a1, a2, a3, ⟨Y, a4, a5⟩, a6⟩ := hok
            have a6 := (a6 (by decide)).1
            have ed : r.2.1.drop X.length = Y := by rw [a4]; exact List.drop_left
            have hlc := @cdL_len Y
            intro M3 c3 R3 F3
            refine fun _ => ⟨rfl, n0, R3.2.2.2.2.2.1, R3.2.1.1, n0 + 22, R3.2.1.2.2.2.2.2.2.2.2.2.2.2.2, R3.2.2.1.1, A_add R3 (by rw [List.length_append, ed]; omega) (fun M4 c4 R4 F4 _ => ⟨rfl, ?_⟩)⟩
            have hE : EndS b n s n0 sN ro mx vN M i o X l cc Q (rd b n sN mx vN g 2 r.1 o (r.2.1 ++ [(opS (tK b n i), Int64.ofNat (X.length - 1), r.2.1.length - 1)]) r.2.2) := hE
            have ecd2 : cdN (opS (tK b n i), Int64.ofNat (X.length - 1), r.2.1.length - 1) = [v] := ecd
            refine ih2 M4 r.1 o (c + 1) (r.2.1 ++ [(opS (tK b n i), Int64.ofNat (X.length - 1), r.2.1.length - 1)]) r.2.2 _ c4 (H' + 6 + 1) _ (by omega) (by omega) ho (by omega) (by rw [List.length_append, List.length_append, ed]; show l.length + (cdL Y).length + 1 + _ + _ ≤ _; omega) R4 ?_
            have hok2 := rd_ok (sN := sN) (mx := mx) (vN := vN) hS g 2 r.1 o (r.2.1 ++ [(opS (tK b n i), Int64.ofNat (X.length - 1), r.2.1.length - 1)]) r.2.2 (by decide) a2 a3
            generalize hnd : ((opS (tK b n i), Int64.ofNat (X.length - 1), r.2.1.length - 1) : Nd) = nd at hE hok2 ecd2 ⊢
            generalize rd b n sN mx vN g 2 r.1 o (r.2.1 ++ [nd]) r.2.2 = R2 at hE hok2
            cases R2 with
            | error e =>
              intro M5 c5 l5 X5 hlen F5
              refine hE M5 c5 l5 X5 ?_ ((((SFm.t F1 h7).tr F3).tr F4).tr F5)
              rw [List.length_append, List.length_append, ed] at hlen
              have hlen : l5.length ≤ l.length + (cdL Y).length + 1 + 4 * (s + 1 - r.1) + 4 * (16 - o) := hlen
              omega
            | ok r2 =>
              obtain ⟨b1, b2, b3, ⟨Z, b4, b5⟩, -⟩ := hok2
              have ez : r2.2.1.drop (r.2.1 ++ [nd]).length = Z := by rw [b4]; exact List.drop_left
              have ex : r2.2.1.drop X.length = Y ++ ([nd] ++ Z) := by rw [b4, a4]; simp only [List.append_assoc]; exact List.drop_left
              intro M5 c5 R5 F5
              have ec : l ++ cdL (r.2.1.drop X.length) ++ [v] ++ cdL (r2.2.1.drop (r.2.1 ++ [nd]).length) = l ++ cdL (r2.2.1.drop X.length) := by
                have e1 : cdL [nd] = [v] := by show cdN nd ++ [] = _; rw [ecd2]; rfl
                rw [ed, ez, ex, cdL_app, cdL_app, e1]; simp only [List.append_assoc]
              rw [ec] at R5 F5
              exact hE M5 c5 R5 ((((SFm.t F1 h7).tr F3).tr F4).tr F5)
        · have e2 : adv' b n i = .error (1, tP b n (i + 1)) := by unfold adv'; rw [if_pos k1]
          rw [e2] at hE
          exact X_one (hR.x F1 T1) (fun _ => ⟨rfl, bad M1 (1, tP b n (i + 1)) cc l (hR.x F1 T1) (SFm.t F1 h7) (by omega) hE⟩)
      refine ⟨fun hx => absurd ((le32 (a := 800) (b := c) (by decide) (by omega)).mp hx) (by omega), fun _ => ⟨ok14 F, 15, rf14_0 F, ok15 F, fun q => ?_, fun q1 => ⟨fun q => ?_, fun q2 => ⟨fun q => ?_, fun q3 => ?_⟩⟩⟩⟩
      · rw [h1.kind] at q
        exact go 7 (by rw [q]; decide) (by rw [q]; rfl) (Or.inl q)
      · rw [h1.kind] at q
        exact go 8 (by rw [q]; decide) (by rw [q]; rfl) (Or.inr (Or.inl q))
      · rw [h1.kind] at q
        exact go 9 (by rw [q]; decide) (by rw [q]; rfl) (Or.inr (Or.inr q))
      · rw [h1.kind] at q1 q2 q3
        rw [if_neg (by rintro (z | z | z); exact q1 z; exact q2 z; exact q3 z)] at hE
        have ed : X.drop X.length = [] := List.drop_length
        refine hE M cc ?_ ?_
        · show RI b n s n0 sN ro mx vN M i o u (l ++ cdL (X.drop X.length)) cc
          rw [ed]; show RI b n s n0 sN ro mx vN M i o u (l ++ []) cc
          rw [List.append_nil]; exact hR
        · show SFm n0 M M cc l cc (l ++ cdL (X.drop X.length))
          rw [ed]; show SFm n0 M M cc l cc (l ++ [])
          rw [List.append_nil]; exact SFm.rf
    · intro M i o X u l cc H Q hg hh ho hl hR hE
      obtain ⟨H', rfl⟩ : ∃ H', H = H' + 7 + 1 := ⟨H - 8, by omega⟩
      have F := hR.1.1
      have hi := hR.1.2.1
      have h0 := hR.1.2.2.2.2.2.2.2.2.2
      refine KX4_readSum ?_
      unfold DX4_readSum_0
      unfold rd at hE
      rw [if_neg (by decide), if_neg (by decide), if_neg (by decide), if_pos rfl] at hE
      refine ⟨ok14 F, ih1 M i o X u l cc (H' + 7) _ (by omega) (by omega) ho hl hR ?_⟩
      have hok := rd_ok (sN := sN) (mx := mx) (vN := vN) hS g 1 i o X u (by decide) hi.2.2 h0
      generalize rd b n sN mx vN g 1 i o X u = R at hE hok
      cases R with
      | error e =>
        intro M3 c3 l3 X3 hlen F3
        exact fun _ => ⟨rfl, X_sumL (c := 0) X3 (hE M3 c3 l3 X3 hlen F3)⟩
      | ok r =>
        obtain ⟨a1, a2, a3, ⟨Y, a4, a5⟩, a6⟩ := hok
        have a6 := (a6 (by decide)).1
        have ed : r.2.1.drop X.length = Y := by rw [a4]; exact List.drop_left
        have hlc := @cdL_len Y
        intro M3 c3 R3 F3
        refine fun _ => ⟨rfl, ih4 M3 r.1 o 0 r.2.1 r.2.2 _ c3 (H' + 7 + 1) _ (by omega) (by omega) ho (by omega) (by rw [List.length_append, ed]; omega) R3 ?_⟩
        have hE : EndS b n s n0 sN ro mx vN M i o X l cc Q (rd b n sN mx vN g 4 r.1 o r.2.1 r.2.2) := hE
        have hok2 := rd_ok (sN := sN) (mx := mx) (vN := vN) hS g 4 r.1 o r.2.1 r.2.2 (by decide) a2 a3
        generalize rd b n sN mx vN g 4 r.1 o r.2.1 r.2.2 = R2 at hE hok2
        cases R2 with
        | error e =>
          intro M4 c4 l4 X4 hlen F4
          refine hE M4 c4 l4 X4 ?_ (F3.tr F4)
          rw [List.length_append, ed] at hlen
          omega
        | ok r2 =>
          obtain ⟨b1, b2, b3, ⟨Z, b4, b5⟩, -⟩ := hok2
          have ez : r2.2.1.drop r.2.1.length = Z := by rw [b4]; exact List.drop_left
          have ex : r2.2.1.drop X.length = Y ++ Z := by rw [b4, a4, List.append_assoc]; exact List.drop_left
          intro M4 c4 R4 F4
          have ec : l ++ cdL (r.2.1.drop X.length) ++ cdL (r2.2.1.drop r.2.1.length) = l ++ cdL (r2.2.1.drop X.length) := by
            rw [ed, ez, ex, cdL_app, List.append_assoc]
          rw [ec] at R4 F4
          exact hE M4 c4 R4 (F3.tr F4)
    · intro M i o c X u l cc H Q hg hh ho hc hl hR hE
      obtain ⟨H', rfl⟩ : ∃ H', H = H' + 7 + 1 := ⟨H - 8, by omega⟩
      obtain ⟨h1, h2, h3, h4, h5, h6, h7, h8⟩ := id hR
      have F := h1.1
      have hi := h1.2.1
      have h0 := h1.2.2.2.2.2.2.2.2.2
      have hn := hS.2.1
      refine VX4_readSum_6 ?_
      unfold DX4_readSum_6 DX4_readSum_34 DX4_readSum_64
      unfold rd at hE
      rw [if_neg (by decide), if_neg (by decide), if_neg (by decide), if_neg (by decide)] at hE
      have go : ∀ (v : Int32), (tK b n i = 20 → v = 5) → (¬ tK b n i = 20 → v = 6) → cdN (opS (tK b n i), Int64.ofNat (X.length - 1), 0) = [v] → (tK b n i = 20 ∨ tK b n i = 21) → ok M 14 6 ∧ ∃ b2 : Nat, mR M 14 0 = some b2 ∧ ok M b2 9 ∧ E (H' + 7) mdX7_advance [.ref b2] M (fun r M4 => mE M M4 → r = none ∧ E (H' + 7) mdX4_readTimes [.ref 14] M4 (fun r M5 => mE M4 M5 → r = none ∧ ∃ b6 : Nat, mR M5 14 7 = some b6 ∧ ok M5 b6 3 ∧ ∃ b8 : Nat, mR M5 b6 8 = some b8 ∧ (¬ mI M 15 9 = 20 → ok M5 b8 8 ∧ E (H' + 7) mdX6_add [.ref b8, .int 6] M5 (fun r M2 => mE M5 M2 → r = none ∧ T (H' + 7 + 1) mdX4_readSum 6 [(0, .ref 14), (1, .int (Int32.ofNat c + 1))] [] M2 Q)) ∧ (mI M 15 9 = 20 → ok M5 b8 8 ∧ E (H' + 7) mdX6_add [.ref b8, .int 5] M5 (fun r M2 => mE M5 M2 → r = none ∧ T (H' + 7 + 1) mdX4_readSum 6 [(0, .ref 14), (1, .int (Int32.ofNat c + 1))] [] M2 Q)))) := by
        intro v ev5 ev6 ecd hk
        rw [if_pos hk] at hE
        rw [h1.kind, succ32]
        have hs := hS.lt hi.2.2 h0 (by rcases hk with q | q <;> (rw [q]; decide))
        have sel : ∀ (M1 : Mem) (b8 : Nat), (ok M1 b8 8 ∧ E (H' + 7) mdX6_add [.ref b8, .int v] M1 (fun r M2 => mE M1 M2 → r = none ∧ T (H' + 7 + 1) mdX4_readSum 6 [(0, .ref 14), (1, .int (Int32.ofNat (c + 1)))] [] M2 Q)) → (¬ tK b n i = 20 → ok M1 b8 8 ∧ E (H' + 7) mdX6_add [.ref b8, .int 6] M1 (fun r M2 => mE M1 M2 → r = none ∧ T (H' + 7 + 1) mdX4_readSum 6 [(0, .ref 14), (1, .int (Int32.ofNat (c + 1)))] [] M2 Q)) ∧ (tK b n i = 20 → ok M1 b8 8 ∧ E (H' + 7) mdX6_add [.ref b8, .int 5] M1 (fun r M2 => mE M1 M2 → r = none ∧ T (H' + 7 + 1) mdX4_readSum 6 [(0, .ref 14), (1, .int (Int32.ofNat (c + 1)))] [] M2 Q)) := by
          intro M1 b8 K
          exact ⟨fun q => by rw [← ev6 q]; exact K, fun q => by rw [← ev5 q]; exact K⟩
        have bad : ∀ (M1 : Mem) (e : Int32 × Nat) (c1 : Nat) (l1 : List Int32), RX n0 sN ro mx vN M1 e.1 e.2 l1 c1 → SFm n0 M M1 cc l c1 l1 → l1.length + 1 ≤ l.length + 4 * (s + 1 - i) + 4 * (16 - o) → EndS b n s n0 sN ro mx vN M i o X l cc Q (.error e) → ok M1 (n0 + 22) 8 ∧ E (H' + 7) mdX6_add [.ref (n0 + 22), .int v] M1 (fun r M2 => mE M1 M2 → r = none ∧ T (H' + 7 + 1) mdX4_readSum 6 [(0, .ref 14), (1, .int (Int32.ofNat (c + 1)))] [] M2 Q) := by
          intro M1 e c1 l1 X1 F1 hlen hE
          exact ⟨X1.2.2.1.1, X_add X1 (by omega) (fun M2 c2 X2 F2 _ => ⟨rfl, X_sumL X2 (hE M2 c2 _ X2 (by rw [List.length_append]; exact hlen) (F1.tr F2))⟩)⟩
        refine ⟨ok14 F, 15, rf14_0 F, ok15 F, A_adv h1 hs (fun k1 M1 T1 F1 _ => ⟨rfl, ?_⟩) (fun k1 M1 T1 F1 _ => ⟨rfl, ?_⟩)⟩
        · have e2 : adv' b n i = .ok (i + 1) := by unfold adv'; rw [if_neg k1]
          rw [e2] at hE
          have hE : EndS b n s n0 sN ro mx vN M i o X l cc Q ((rd b n sN mx vN g 1 (i + 1) o X u).bind fun r => rd b n sN mx vN g 4 r.1 o (r.2.1 ++ [(opS (tK b n i), Int64.ofNat (X.length - 1), r.2.1.length - 1)]) r.2.2) := hE
          have R1 := hR.t F1 T1
          refine ih1 M1 (i + 1) o X u l cc (H' + 7) _ (by omega) (by omega) ho (by omega) R1 ?_
          have hok := rd_ok (sN := sN) (mx := mx) (vN := vN) hS g 1 (i + 1) o X u (by decide) (by omega) k1
          generalize rd b n sN mx vN g 1 (i + 1) o X u = R at hE hok
          cases R with
          | error e =>
            intro M3 c3 l3 X3 hlen F3
            exact fun _ => ⟨rfl, n0, X3.2.2.2.2.1, X3.2.1.1, n0 + 22, X3.2.1.2.2.2.2.2.2.2.2.2.2.2.2, sel M3 _ (bad M3 e c3 l3 X3 ((SFm.t F1 h7).tr F3) (by omega) hE)⟩
          | ok r =>
            obtain ⟨a1, a2, a3, ⟨Y, a4, a5⟩, a6⟩ := hok
            have a6 := (a6 (by decide)).1
            have ed : r.2.1.drop X.length = Y := by rw [a4]; exact List.drop_left
            have hlc := @cdL_len Y
            intro M3 c3 R3 F3
            refine fun _ => ⟨rfl, n0, R3.2.2.2.2.2.1, R3.2.1.1, n0 + 22, R3.2.1.2.2.2.2.2.2.2.2.2.2.2.2, sel M3 _ ⟨R3.2.2.1.1, A_add R3 (by rw [List.length_append, ed]; omega) (fun M4 c4 R4 F4 _ => ⟨rfl, ?_⟩)⟩⟩
            have hE : EndS b n s n0 sN ro mx vN M i o X l cc Q (rd b n sN mx vN g 4 r.1 o (r.2.1 ++ [(opS (tK b n i), Int64.ofNat (X.length - 1), r.2.1.length - 1)]) r.2.2) := hE
            have ecd2 : cdN (opS (tK b n i), Int64.ofNat (X.length - 1), r.2.1.length - 1) = [v] := ecd
            refine ih4 M4 r.1 o (c + 1) (r.2.1 ++ [(opS (tK b n i), Int64.ofNat (X.length - 1), r.2.1.length - 1)]) r.2.2 _ c4 (H' + 7 + 1) _ (by omega) (by omega) ho (by omega) (by rw [List.length_append, List.length_append, ed]; show l.length + (cdL Y).length + 1 + _ + _ ≤ _; omega) R4 ?_
            have hok2 := rd_ok (sN := sN) (mx := mx) (vN := vN) hS g 4 r.1 o (r.2.1 ++ [(opS (tK b n i), Int64.ofNat (X.length - 1), r.2.1.length - 1)]) r.2.2 (by decide) a2 a3
            generalize hnd : ((opS (tK b n i), Int64.ofNat (X.length - 1), r.2.1.length - 1) : Nd) = nd at hE hok2 ecd2 ⊢
            generalize rd b n sN mx vN g 4 r.1 o (r.2.1 ++ [nd]) r.2.2 = R2 at hE hok2
            cases R2 with
            | error e =>
              intro M5 c5 l5 X5 hlen F5
              refine hE M5 c5 l5 X5 ?_ ((((SFm.t F1 h7).tr F3).tr F4).tr F5)
              rw [List.length_append, List.length_append, ed] at hlen
              have hlen : l5.length ≤ l.length + (cdL Y).length + 1 + 4 * (s + 1 - r.1) + 4 * (16 - o) := hlen
              omega
            | ok r2 =>
              obtain ⟨b1, b2, b3, ⟨Z, b4, b5⟩, -⟩ := hok2
              have ez : r2.2.1.drop (r.2.1 ++ [nd]).length = Z := by rw [b4]; exact List.drop_left
              have ex : r2.2.1.drop X.length = Y ++ ([nd] ++ Z) := by rw [b4, a4]; simp only [List.append_assoc]; exact List.drop_left
              intro M5 c5 R5 F5
              have ec : l ++ cdL (r.2.1.drop X.length) ++ [v] ++ cdL (r2.2.1.drop (r.2.1 ++ [nd]).length) = l ++ cdL (r2.2.1.drop X.length) := by
                have e1 : cdL [nd] = [v] := by show cdN nd ++ [] = _; rw [ecd2]; rfl
                rw [ed, ez, ex, cdL_app, cdL_app, e1]; simp only [List.append_assoc]
              rw [ec] at R5 F5
              exact hE M5 c5 R5 ((((SFm.t F1 h7).tr F3).tr F4).tr F5)
        · have e2 : adv' b n i = .error (1, tP b n (i + 1)) := by unfold adv'; rw [if_pos k1]
          rw [e2] at hE
          have X1 := hR.x F1 T1
          exact X_times X1 (fun _ => ⟨rfl, n0, X1.2.2.2.2.1, X1.2.1.1, n0 + 22, X1.2.1.2.2.2.2.2.2.2.2.2.2.2.2, sel M1 _ (bad M1 (1, tP b n (i + 1)) cc l X1 (SFm.t F1 h7) (by omega) hE)⟩)
      refine ⟨fun hx => absurd ((le32 (a := 800) (b := c) (by decide) (by omega)).mp hx) (by omega), fun _ => ⟨ok14 F, 15, rf14_0 F, ok15 F, fun q => ?_, fun q1 => ⟨fun q => ?_, fun q2 => ?_⟩⟩⟩
      · rw [h1.kind] at q
        exact go 5 (fun _ => rfl) (fun z => absurd q z) (by rw [q]; rfl) (Or.inl q)
      · rw [h1.kind] at q
        exact go 6 (fun z => absurd (q.symm.trans z) (by decide)) (fun _ => rfl) (by rw [q]; rfl) (Or.inr q)
      · rw [h1.kind] at q1 q2
        rw [if_neg (by rintro (z | z); exact q1 z; exact q2 z)] at hE
        have ed : X.drop X.length = [] := List.drop_length
        refine hE M cc ?_ ?_
        · show RI b n s n0 sN ro mx vN M i o u (l ++ cdL (X.drop X.length)) cc
          rw [ed]; show RI b n s n0 sN ro mx vN M i o u (l ++ []) cc
          rw [List.append_nil]; exact hR
        · show SFm n0 M M cc l cc (l ++ cdL (X.drop X.length))
          rw [ed]; show SFm n0 M M cc l cc (l ++ [])
          rw [List.append_nil]; exact SFm.rf
end
