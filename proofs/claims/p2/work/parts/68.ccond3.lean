/-! the class reads conditions: all of it -/
section
variable {b : Nat → Int32} {n s n0 : Nat} {sN : List Int64} {ro mx : List Int32} {vN : List Int64} {sg : Nat → Nat}
theorem drop_snoc {α : Type} {Y X : List α} {d : α} {Z : List α} (h : X = Y ++ Z) : (X ++ [d]).drop Y.length = X.drop Y.length ++ [d] := by
  rw [h, List.append_assoc, List.drop_left, List.drop_left]
theorem drop_len {α : Type} {Y X : List α} {Z : List α} (h : X = Y ++ Z) : (X.drop Y.length).length = X.length - Y.length ∧ Y.length ≤ X.length ∧ Z.length = X.length - Y.length := by
  rw [h, List.drop_left, List.length_append]
  exact ⟨by omega, by omega, by omega⟩
set_option maxHeartbeats 2000000 in
theorem C_rc (hB : By b) (hS : Sto b n s) : ∀ (g : Nat),
    (∀ (M : Mem) (i o : Nat) (Y : List Cd) (S : LsT) (lc rr H : Nat) (Q : Option Value → Mem → Prop), 6 * (s + 1 - i) ≤ g → 7 + 3 * (16 - o) ≤ H → o ≤ 15 → S.1.length + (s + 1 - i) ≤ 50000 → TI b n s M i o → CB n0 sN ro mx vN M S.1 lc rr sg S.2.1 → S.2.2.length = Y.length → LsB S → EndK b n s n0 sN ro mx vN sg M i o Y S lc rr Q (rc b n sN g 0 i o Y) → E H mdX4_readNot [.ref 14] M Q) ∧
    (∀ (M : Mem) (i o : Nat) (Y : List Cd) (S : LsT) (lc rr H : Nat) (Q : Option Value → Mem → Prop), 6 * (s + 1 - i) + 1 ≤ g → 8 + 3 * (16 - o) ≤ H → o ≤ 15 → S.1.length + (s + 1 - i) ≤ 50000 → TI b n s M i o → CB n0 sN ro mx vN M S.1 lc rr sg S.2.1 → S.2.2.length = Y.length → LsB S → EndK b n s n0 sN ro mx vN sg M i o Y S lc rr Q (rc b n sN g 1 i o Y) → E H mdX4_readAnd [.ref 14] M Q) ∧
    (∀ (M : Mem) (i o c : Nat) (Y : List Cd) (S : LsT) (lc rr H : Nat) (Q : Option Value → Mem → Prop), 6 * (s + 1 - i) + 2 ≤ g → 8 + 3 * (16 - o) ≤ H → o ≤ 15 → c ≤ i → S.1.length + (s + 1 - i) ≤ 50000 → TI b n s M i o → CB n0 sN ro mx vN M S.1 lc rr sg S.2.1 → S.2.2.length = Y.length → 0 < Y.length → LsB S → EndK b n s n0 sN ro mx vN sg M i o Y S lc rr Q (rc b n sN g 2 i o Y) → T H mdX4_readAnd 7 [(0, .ref 14), (1, .int (Int32.ofNat (S.2.2.getD (Y.length - 1) 0))), (2, .int (Int32.ofNat c))] [] M Q) ∧
    (∀ (M : Mem) (i o : Nat) (Y : List Cd) (S : LsT) (lc rr H : Nat) (Q : Option Value → Mem → Prop), 6 * (s + 1 - i) + 3 ≤ g → 9 + 3 * (16 - o) ≤ H → o ≤ 15 → S.1.length + (s + 1 - i) ≤ 50000 → TI b n s M i o → CB n0 sN ro mx vN M S.1 lc rr sg S.2.1 → S.2.2.length = Y.length → LsB S → EndK b n s n0 sN ro mx vN sg M i o Y S lc rr Q (rc b n sN g 3 i o Y) → E H mdX4_readCondition [.ref 14] M Q) ∧
    (∀ (M : Mem) (i o c : Nat) (Y : List Cd) (S : LsT) (lc rr H : Nat) (Q : Option Value → Mem → Prop), 6 * (s + 1 - i) + 4 ≤ g → 9 + 3 * (16 - o) ≤ H → o ≤ 15 → c ≤ i → S.1.length + (s + 1 - i) ≤ 50000 → TI b n s M i o → CB n0 sN ro mx vN M S.1 lc rr sg S.2.1 → S.2.2.length = Y.length → 0 < Y.length → LsB S → EndK b n s n0 sN ro mx vN sg M i o Y S lc rr Q (rc b n sN g 4 i o Y) → T H mdX4_readCondition 7 [(0, .ref 14), (1, .int (Int32.ofNat (S.2.2.getD (Y.length - 1) 0))), (2, .int (Int32.ofNat c))] [] M Q) := by
  intro g
  induction g with
  | zero =>
    refine ⟨?_, ?_, ?_, ?_, ?_⟩
    · intro M i o Y S lc rr H Q hg _ _ _ hT _ _ _ _; have := hT.2.1; omega
    · intro M i o Y S lc rr H Q hg _ _ _ hT _ _ _ _; have := hT.2.1; omega
    · intro M i o c Y S lc rr H Q hg _ _ _ _ hT _ _ _ _ _; have := hT.2.1; omega
    · intro M i o Y S lc rr H Q hg _ _ _ hT _ _ _ _; have := hT.2.1; omega
    · intro M i o c Y S lc rr H Q hg _ _ _ _ hT _ _ _ _ _; have := hT.2.1; omega
  | succ g ih =>
    obtain ⟨ih0, ih1, ih2, ih3, ih4⟩ := ih
    refine ⟨?_, ?_, ?_, ?_, ?_⟩
    · intro M i o Y S lc rr H Q hg hh ho hl hT hC hL hb hE
      obtain ⟨H', rfl⟩ : ∃ H', H = H' + 5 + 1 := ⟨H - 6, by omega⟩
      have F := hT.1
      have hi := hT.2.1
      have h0 := hT.2.2.2.2.2.2.2.2.2
      have n1 := hC.n1
      have lm := hC.lim
      unfold rc at hE
      rw [if_pos rfl] at hE
      -- the ends behind 'not' and behind a bracket
      have bad44 : ∀ (M1 : Mem) (e : Int32 × Nat) (lc1 rc1 : Nat) (N1 : Nt) (bf1 : Nat → Nat) (v : Nat), TF M1 e.1 e.2 → CB n0 sN ro mx vN M1 N1 lc1 rc1 sg bf1 → CdF n0 M M1 lc rr lc1 rc1 S.1 N1 → N1.length ≤ S.1.length + (s + 1 - i) → v < 2 * N1.length → EndK b n s n0 sN ro mx vN sg M i o Y S lc rr Q (.error e) → DX4_readNot_44 (H' + 5) 14 (Int32.ofNat v) M1 Q := by
        intro M1 e lc1 rc1 N1 bf1 v T1 C1 F1 hl1 hv K
        unfold DX4_readNot_44
        refine ⟨ok14 T1.1, 15, rf14_0 T1.1, ok15 T1.1, F_closes T1 (fun M2 T2 F2 _ => ⟨rfl, S_not (by omega) (fun _ => ⟨_, rfl, ?_⟩)⟩)⟩
        exact K M2 lc1 rc1 N1 bf1 _ T2 (C1.t F2) (F1.tr (CdF.t F2 lm.2.2.1)) hl1 (nlt_lt hv)
      have bad101 : ∀ (M1 : Mem) (e : Int32 × Nat) (lc1 rc1 : Nat) (N1 : Nt) (bf1 : Nat → Nat) (v : Nat), TF M1 e.1 e.2 → CB n0 sN ro mx vN M1 N1 lc1 rc1 sg bf1 → CdF n0 M M1 lc rr lc1 rc1 S.1 N1 → N1.length ≤ S.1.length + (s + 1 - i) → v < 2 * N1.length → EndK b n s n0 sN ro mx vN sg M i o Y S lc rr Q (.error e) → DX4_readNot_101 (H' + 5) 14 (Int32.ofNat v) M1 Q := by
        intro M1 e lc1 rc1 N1 bf1 v T1 C1 F1 hl1 hv K
        unfold DX4_readNot_101
        refine ⟨ok14 T1.1, 15, rf14_0 T1.1, ok15 T1.1, F_expect T1 (by decide) (fun _ => ⟨rfl, 15, rf14_0 T1.1, ok15 T1.1, F_closes T1 (fun M2 T2 F2 _ => ⟨rfl, ?_⟩)⟩)⟩
        exact K M2 lc1 rc1 N1 bf1 v T2 (C1.t F2) (F1.tr (CdF.t F2 lm.2.2.1)) hl1 hv
      refine KX4_readNot ?_
      unfold DX4_readNot_0
      refine ⟨ok14 F, 15, rf14_0 F, ok15 F, fun n61 => ⟨15, rf14_0 F, ok15 F, fun n15 => ⟨15, rf14_0 F, ok15 F, ?_⟩, fun k15 => ⟨15, rf14_0 F, ok15 F, ?_⟩⟩, fun k61 => ⟨15, rf14_0 F, ok15 F, ?_⟩⟩
      · rw [hT.kind] at n61 n15
        rw [if_neg n61, if_neg n15] at hE
        refine A_accept (h := H' + 3) hT hS (by decide) (fun k62 k1 M1 T1 F1 _ => ⟨_, rfl, ?_⟩) (fun k62 k1 M1 T1 F1 _ => ⟨_, rfl, ?_⟩) (fun n62 _ => ⟨_, rfl, ?_⟩)
        · rw [if_pos k62, adv_ok' k1] at hE
          have hE : EndK b n s n0 sN ro mx vN sg M i o Y S lc rr Q (rc0 b n sN 1 (i + 1) Y) := hE
          refine C_operand (h := H') (p := 1) (Y := Y) (S := S) hB hS (by decide) (by omega) T1 (hC.t F1) hL hb ?_
          generalize rc0 b n sN 1 (i + 1) Y = R at hE
          cases R with
          | error e => exact fun M' lc' rc' N' bf' v a1 a2 a3 a4 a5 => hE M' lc' rc' N' bf' v a1 a2 ((CdF.t F1 lm.2.2.1).tr a3) (by omega) a5
          | ok r => exact fun M' lc' rc' a1 a2 a3 a4 => hE M' lc' rc' a1 a2 a3 ((CdF.t F1 lm.2.2.1).tr a4)
        · rw [if_pos k62, adv_er' k1] at hE
          exact X_told (h := H' + 3) T1 (fun _ => ⟨_, rfl, 15, rf14_0 T1.1, ok15 T1.1, F_adv T1 (fun _ => ⟨rfl, fun z => absurd rfl z, fun _ => hE M1 lc rr _ _ 0 T1 (hC.t F1) (CdF.t F1 lm.2.2.1) (by omega) (by omega)⟩)⟩)
        · rw [if_neg n62] at hE
          exact C_operand (h := H') (p := 0) (Y := Y) (S := S) hB hS (by decide) (by omega) hT hC hL hb hE
      · rw [hT.kind] at k15 n61
        rw [if_neg n61, if_pos k15] at hE
        have hs := hS.lt hi.2.2 h0 (by rw [k15]; decide)
        refine A_opens (h := H' + 3) hT ho (fun h15 M1 T1 F1 _ => ⟨rfl, 15, rf14_0 T1.1, ok15 T1.1, ?_⟩) (fun h15 M1 T1 F1 _ => ⟨rfl, 15, rf14_0 T1.1, ok15 T1.1, F_adv T1 (fun _ => ⟨rfl, 15, rf14_0 T1.1, ok15 T1.1, fun _ => ?_, fun hc => absurd (T1.2.2.1 ▸ hc) (by decide)⟩)⟩)
        · rw [if_neg (by omega : ¬ o = 15)] at hE
          refine A_adv T1 hs (fun k1 M2 T2 F2 _ => ⟨rfl, 15, rf14_0 T2.1, ok15 T2.1, fun hc => absurd T2.2.2.2.2.2.2.2.2.1 hc, fun _ => ?_⟩) (fun k1 M2 T2 F2 _ => ⟨rfl, 15, rf14_0 T2.1, ok15 T2.1, fun _ => ?_, fun hc => absurd (T2.2.2.1 ▸ hc) (by decide)⟩)
          · rw [adv_ok' k1] at hE
            have hE : EndK b n s n0 sN ro mx vN sg M i o Y S lc rr Q ((rc b n sN g 3 (i + 1) (o + 1) Y).bind fun r => if tK b n r.1 = 16 then (adv' b n r.1).bind fun j' => .ok (j', r.2) else .error (2, tP b n r.1)) := hE
            have C2 := (hC.t F1).t F2
            have G2 : CdF n0 M M2 lc rr lc rr S.1 S.1 := CdF.t (F1.tr F2) lm.2.2.1
            refine ih3 M2 (i + 1) (o + 1) Y S lc rr (H' + 5) _ (by omega) (by omega) (by omega) (by omega) T2 C2 hL hb ?_
            have hok := rc_ok (sN := sN) hS g 3 (i + 1) (o + 1) Y (by decide) (by omega) k1
            generalize rc b n sN g 3 (i + 1) (o + 1) Y = R at hE hok
            cases R with
            | error e => exact fun M3 lc3 rc3 N3 bf3 v T3 C3 F3 hl3 hv _ => ⟨_, rfl, bad101 M3 e lc3 rc3 N3 bf3 v T3 C3 (G2.tr F3) (by omega) hv hE⟩
            | ok r =>
              obtain ⟨a1, a2, a3, ⟨Z, a4, a5⟩, -⟩ := hok
              intro M3 lc3 rc3 T3 C3 L3 F3
              have hE : EndK b n s n0 sN ro mx vN sg M i o Y S lc rr Q (if tK b n r.1 = 16 then (adv' b n r.1).bind fun j' => .ok (j', r.2) else .error (2, tP b n r.1)) := hE
              have hcl := cyL_len (sg := sg) (r.2.drop Y.length) S
              have hdl := drop_len a4
              have hv3 : (cyL sg S (r.2.drop Y.length)).2.2.getD (r.2.length - 1) 0 < 2 * (cyL sg S (r.2.drop Y.length)).1.length := getD_lt L3 (by omega)
              have n3 := C3.n1
              refine fun _ => ⟨_, rfl, ?_⟩
              unfold DX4_readNot_101
              refine ⟨ok14 T3.1, 15, rf14_0 T3.1, ok15 T3.1, A_expect T3 (by decide) (fun q1 q2 M4 T4 F4 _ => ⟨rfl, 15, rf14_0 T4.1, ok15 T4.1, A_closes T4 (by omega) (fun M5 T5 F5 _ => ⟨rfl, ?_⟩)⟩) (fun q1 q2 M4 T4 F4 _ => ⟨rfl, 15, rf14_0 T4.1, ok15 T4.1, F_closes T4 (fun M5 T5 F5 _ => ⟨rfl, ?_⟩)⟩) (fun q1 M4 T4 F4 _ => ⟨rfl, 15, rf14_0 T4.1, ok15 T4.1, F_closes T4 (fun M5 T5 F5 _ => ⟨rfl, ?_⟩)⟩) hS.2.2.1⟩
              · rw [if_pos q1, adv_ok' q2] at hE
                exact hE M5 lc3 rc3 T5 ((C3.t F4).t F5) L3 ((G2.tr F3).tr (CdF.t (F4.tr F5) lm.2.2.1))
              · rw [if_pos q1, adv_er' q2] at hE
                exact hE M5 lc3 rc3 _ _ _ T5 ((C3.t F4).t F5) ((G2.tr F3).tr (CdF.t (F4.tr F5) lm.2.2.1)) (by omega) hv3
              · rw [if_neg q1] at hE
                exact hE M5 lc3 rc3 _ _ _ T5 ((C3.t F4).t F5) ((G2.tr F3).tr (CdF.t (F4.tr F5) lm.2.2.1)) (by omega) hv3
          · rw [adv_er' k1] at hE
            exact bad101 M2 (1, tP b n (i + 1)) lc rr S.1 S.2.1 0 T2 ((hC.t F1).t F2) (CdF.t (F1.tr F2) lm.2.2.1) (by omega) (by omega) hE
        · rw [if_pos h15] at hE
          exact bad101 M1 (6, tP b n i) lc rr S.1 S.2.1 0 T1 (hC.t F1) (CdF.t F1 lm.2.2.1) (by omega) (by omega) hE
      · rw [hT.kind] at k61
        rw [if_pos k61] at hE
        have hs := hS.lt hi.2.2 h0 (by rw [k61]; decide)
        refine A_opens (h := H' + 3) hT ho (fun h15 M1 T1 F1 _ => ⟨rfl, 15, rf14_0 T1.1, ok15 T1.1, ?_⟩) (fun h15 M1 T1 F1 _ => ⟨rfl, 15, rf14_0 T1.1, ok15 T1.1, F_adv T1 (fun _ => ⟨rfl, 15, rf14_0 T1.1, ok15 T1.1, fun _ => ?_, fun hc => absurd (T1.2.2.1 ▸ hc) (by decide)⟩)⟩)
        · rw [if_neg (by omega : ¬ o = 15)] at hE
          refine A_adv T1 hs (fun k1 M2 T2 F2 _ => ⟨rfl, 15, rf14_0 T2.1, ok15 T2.1, fun hc => absurd T2.2.2.2.2.2.2.2.2.1 hc, fun _ => ?_⟩) (fun k1 M2 T2 F2 _ => ⟨rfl, 15, rf14_0 T2.1, ok15 T2.1, fun _ => ?_, fun hc => absurd (T2.2.2.1 ▸ hc) (by decide)⟩)
          · rw [adv_ok' k1] at hE
            have hE : EndK b n s n0 sN ro mx vN sg M i o Y S lc rr Q ((rc b n sN g 0 (i + 1) (o + 1) Y).bind fun r => .ok (r.1, r.2 ++ [(2, r.2.length - 1, 0)])) := hE
            have C2 := (hC.t F1).t F2
            have G2 : CdF n0 M M2 lc rr lc rr S.1 S.1 := CdF.t (F1.tr F2) lm.2.2.1
            refine ih0 M2 (i + 1) (o + 1) Y S lc rr (H' + 5) _ (by omega) (by omega) (by omega) (by omega) T2 C2 hL hb ?_
            have hok := rc_ok (sN := sN) hS g 0 (i + 1) (o + 1) Y (by decide) (by omega) k1
            generalize rc b n sN g 0 (i + 1) (o + 1) Y = R at hE hok
            cases R with
            | error e => exact fun M3 lc3 rc3 N3 bf3 v T3 C3 F3 hl3 hv _ => ⟨_, rfl, bad44 M3 e lc3 rc3 N3 bf3 v T3 C3 (G2.tr F3) (by omega) hv hE⟩
            | ok r =>
              obtain ⟨a1, a2, a3, ⟨Z, a4, a5⟩, -⟩ := hok
              intro M3 lc3 rc3 T3 C3 L3 F3
              have hcl := cyL_len (sg := sg) (r.2.drop Y.length) S
              have hdl := drop_len a4
              have hv3 : (cyL sg S (r.2.drop Y.length)).2.2.getD (r.2.length - 1) 0 < 2 * (cyL sg S (r.2.drop Y.length)).1.length := getD_lt L3 (by have := C3.n1; omega)
              have ec : cyL sg S ((r.2 ++ [((2, r.2.length - 1, 0) : Cd)]).drop Y.length) = ((cyL sg S (r.2.drop Y.length)).1, (cyL sg S (r.2.drop Y.length)).2.1, (cyL sg S (r.2.drop Y.length)).2.2 ++ [nlt ((cyL sg S (r.2.drop Y.length)).2.2.getD (r.2.length - 1) 0)]) := by
                rw [drop_snoc a4, cyL_app]
                rfl
              have el : (r.2 ++ [((2, r.2.length - 1, 0) : Cd)]).length - 1 = r.2.length := by rw [List.length_append]; rfl
              refine fun _ => ⟨_, rfl, ?_⟩
              unfold DX4_readNot_44
              refine ⟨ok14 T3.1, 15, rf14_0 T3.1, ok15 T3.1, A_closes T3 (by omega) (fun M4 T4 F4 _ => ⟨rfl, S_not (by omega) (fun _ => ⟨_, rfl, ?_⟩)⟩)⟩
              have hE := hE M4 lc3 rc3
              dsimp only at hE
              rw [ec, el] at hE
              have := hE T4 (C3.t F4) (L3.snoc (Nat.le_refl _) (nlt_lt hv3)) ((G2.tr F3).tr (CdF.t F4 lm.2.2.1))
              rw [getD_last (by omega)] at this
              exact this
          · rw [adv_er' k1] at hE
            exact bad44 M2 (1, tP b n (i + 1)) lc rr S.1 S.2.1 0 T2 ((hC.t F1).t F2) (CdF.t (F1.tr F2) lm.2.2.1) (by omega) (by omega) hE
        · rw [if_pos h15] at hE
          exact bad44 M1 (6, tP b n i) lc rr S.1 S.2.1 0 T1 (hC.t F1) (CdF.t F1 lm.2.2.1) (by omega) (by omega) hE
    · intro M i o Y S lc rr H Q hg hh ho hl hT hC hL hb hE
      obtain ⟨H', rfl⟩ : ∃ H', H = H' + 3 + 1 := ⟨H - 4, by omega⟩
      have hi := hT.2.1
      have h0 := hT.2.2.2.2.2.2.2.2.2
      unfold rc at hE
      rw [if_neg (by decide), if_pos rfl] at hE
      refine KX4_readAnd ?_
      unfold DX4_readAnd_0
      refine ⟨ok14 hT.1, ih0 M i o Y S lc rr (H' + 3) _ (by omega) (by omega) ho (by omega) hT hC hL hb ?_⟩
      have hok := rc_ok (sN := sN) hS g 0 i o Y (by decide) hi.2.2 h0
      generalize rc b n sN g 0 i o Y = R at hE hok
      cases R with
      | error e => exact fun M3 lc3 rc3 N3 bf3 v T3 C3 F3 hl3 hv _ => ⟨_, rfl, X_andL (h := H' + 1) T3 (hE M3 lc3 rc3 N3 bf3 v T3 C3 F3 hl3 hv)⟩
      | ok r =>
        obtain ⟨a1, a2, a3, ⟨Z, a4, a5⟩, a6⟩ := hok
        have a6 := a6 (by decide)
        intro M3 lc3 rc3 T3 C3 L3 F3
        have hcl := cyL_len (sg := sg) (r.2.drop Y.length) S
        have hdl := drop_len a4
        refine fun _ => ⟨_, rfl, ih2 M3 r.1 o 0 r.2 (cyL sg S (r.2.drop Y.length)) lc3 rc3 (H' + 3 + 1) Q (by omega) (by omega) ho (Nat.zero_le _) (by omega) T3 C3 (by omega) (by omega) L3 ?_⟩
        have hE : EndK b n s n0 sN ro mx vN sg M i o Y S lc rr Q (rc b n sN g 2 r.1 o r.2) := hE
        have hok2 := rc_ok (sN := sN) hS g 2 r.1 o r.2 (by decide) a2 a3
        generalize rc b n sN g 2 r.1 o r.2 = R2 at hE hok2
        cases R2 with
        | error e => exact fun M4 lc4 rc4 N4 bf4 v T4 C4 F4 hl4 hv => hE M4 lc4 rc4 N4 bf4 v T4 C4 (F3.tr F4) (by omega) hv
        | ok r2 =>
          obtain ⟨b1, b2, b3, ⟨V, b4, b5⟩, -⟩ := hok2
          intro M4 lc4 rc4 T4 C4 L4 F4
          have ec : cyL sg (cyL sg S (r.2.drop Y.length)) (r2.2.drop r.2.length) = cyL sg S (r2.2.drop Y.length) := by
            rw [← cyL_app]
            congr 1
            rw [b4, List.drop_left, a4, List.append_assoc, List.drop_left, List.drop_left]
          rw [ec] at C4 L4 F4 ⊢
          exact hE M4 lc4 rc4 T4 C4 L4 (F3.tr F4)
    · intro M i o c Y S lc rr H Q hg hh ho hc hl hT hC hL hY hb hE
      obtain ⟨H', rfl⟩ : ∃ H', H = H' + 4 + 1 := ⟨H - 5, by omega⟩
      have F := hT.1
      have hi := hT.2.1
      have h0 := hT.2.2.2.2.2.2.2.2.2
      have lm := hC.lim
      have n1 := hC.n1
      have hn := hS.2.1
      have hx : S.2.2.getD (Y.length - 1) 0 < 2 * S.1.length := getD_lt hb (by omega)
      unfold rc at hE
      rw [if_neg (by decide), if_neg (by decide), if_pos rfl] at hE
      refine VX4_readAnd_7 ?_
      unfold DX4_readAnd_7 DX4_readAnd_48
      refine ⟨fun z => ?_, fun _ => ⟨ok14 F, 15, rf14_0 F, ok15 F, A_accept (h := H' + 2) hT hS (by decide) (fun hk k1 M1 T1 F1 _ => ⟨_, rfl, fun z => absurd z (by decide), fun _ => ?_⟩) (fun hk k1 M1 T1 F1 _ => ⟨_, rfl, fun z => absurd z (by decide), fun _ => ?_⟩) (fun hk _ => ⟨_, rfl, fun _ => ?_, fun z => absurd rfl z⟩)⟩⟩
      · have c800 := (le32 (a := 800) (b := c) (by decide) (by omega)).mp z
        have : i = s := by omega
        have hk : tK b n i ≠ 59 := by
          subst this
          rcases hS.2.2.1 with q | q <;> (rw [q]; decide)
        rw [if_neg hk] at hE
        have hE := hE M lc rr
        dsimp only at hE
        rw [List.drop_length] at hE
        exact hE hT hC hb CdF.rf
      · rw [if_pos hk, adv_ok' k1] at hE
        have hs := hS.lt hi.2.2 h0 (by rw [hk]; decide)
        have hE : EndK b n s n0 sN ro mx vN sg M i o Y S lc rr Q ((rc b n sN g 0 (i + 1) o Y).bind fun r => rc b n sN g 2 r.1 o (r.2 ++ [(3, Y.length - 1, r.2.length - 1)])) := hE
        have C1 := hC.t F1
        obtain ⟨g1, g2, g3, g4, g5, -, -, -, -, g8, -⟩ := id C1
        refine ⟨n0, g8, g1.1, n0 + 8, g5, ih0 M1 (i + 1) o Y S lc rr (H' + 4) _ (by omega) (by omega) ho (by omega) T1 C1 hL hb ?_⟩
        have hok := rc_ok (sN := sN) hS g 0 (i + 1) o Y (by decide) hs k1
        generalize rc b n sN g 0 (i + 1) o Y = R at hE hok
        cases R with
        | error e => exact fun M3 lc3 rc3 N3 bf3 v T3 C3 F3 hl3 hv _ => ⟨_, rfl, C3.2.1.1, X_joinA (h := H') T3 C3 (by have := F3.2.2.2.2.2.2.2.2.2; omega) hv (by omega) (fun M4 lc4 rc4 N4 w T4 C4 F4 hl4 hw => hE M4 lc4 rc4 N4 bf3 w T4 C4 (((CdF.t F1 lm.2.2.1).tr F3).tr F4) (by omega) hw)⟩
        | ok r =>
          obtain ⟨a1, a2, a3, ⟨Z, a4, a5⟩, a6⟩ := hok
          have a6 := a6 (by decide)
          intro M3 lc3 rc3 T3 C3 L3 F3
          have hcl := cyL_len (sg := sg) (r.2.drop Y.length) S
          have hdl := drop_len a4
          have n3 := C3.n1
          have hy : (cyL sg S (r.2.drop Y.length)).2.2.getD (r.2.length - 1) 0 < 2 * (cyL sg S (r.2.drop Y.length)).1.length := getD_lt L3 (by omega)
          have ex : (cyL sg S (r.2.drop Y.length)).2.2.getD (Y.length - 1) 0 = S.2.2.getD (Y.length - 1) 0 := cyL_getD (by omega)
          have hx3 : S.2.2.getD (Y.length - 1) 0 < 2 * (cyL sg S (r.2.drop Y.length)).1.length := by omega
          have ll := anL_len (N := (cyL sg S (r.2.drop Y.length)).1) (a := S.2.2.getD (Y.length - 1) 0) (b := (cyL sg S (r.2.drop Y.length)).2.2.getD (r.2.length - 1) 0)
          have hE : EndK b n s n0 sN ro mx vN sg M i o Y S lc rr Q (rc b n sN g 2 r.1 o (r.2 ++ [(3, Y.length - 1, r.2.length - 1)])) := hE
          have ec : cyL sg S ((r.2 ++ [((3, Y.length - 1, r.2.length - 1) : Cd)]).drop Y.length) = ((anL (cyL sg S (r.2.drop Y.length)).1 (S.2.2.getD (Y.length - 1) 0) ((cyL sg S (r.2.drop Y.length)).2.2.getD (r.2.length - 1) 0)).1, (cyL sg S (r.2.drop Y.length)).2.1, (cyL sg S (r.2.drop Y.length)).2.2 ++ [(anL (cyL sg S (r.2.drop Y.length)).1 (S.2.2.getD (Y.length - 1) 0) ((cyL sg S (r.2.drop Y.length)).2.2.getD (r.2.length - 1) 0)).2]) := by
            rw [drop_snoc a4, cyL_app, ← ex]
            rfl
          generalize hnd : (r.2 ++ [((3, Y.length - 1, r.2.length - 1) : Cd)]) = Y2 at hE ec
          have lY2 : Y2.length = r.2.length + 1 := by rw [← hnd, List.length_append]; rfl
          have pY2 : Y2 = Y ++ (Z ++ [(3, Y.length - 1, r.2.length - 1)]) := by rw [← hnd, a4, List.append_assoc]
          refine fun _ => ⟨_, rfl, C3.2.1.1, S_and (h := H') C3.2.1 (by omega) hx3 hy (fun M4 lc4 rc4 P4 F4 _ => ⟨_, rfl, ?_⟩)⟩
          have T4 := T3.c C3 F4
          have C4 := C3.c P4 F4 ll.1
          have lm3 := C3.lim
          have D4 := CdF.c F4 lm3.2.2.1 ⟨lm3.1, lm3.2.1⟩ lm3.2.2.2 ll.1
          have L4 := L3.snoc (N := (anL (cyL sg S (r.2.drop Y.length)).1 (S.2.2.getD (Y.length - 1) 0) ((cyL sg S (r.2.drop Y.length)).2.2.getD (r.2.length - 1) 0)).1) (bf := (cyL sg S (r.2.drop Y.length)).2.1) ll.1 (anL_lt n3 hx3 hy)
          rw [← ec] at L4
          have q1 : (cyL sg S (Y2.drop Y.length)).1 = (anL (cyL sg S (r.2.drop Y.length)).1 (S.2.2.getD (Y.length - 1) 0) ((cyL sg S (r.2.drop Y.length)).2.2.getD (r.2.length - 1) 0)).1 := by rw [ec]
          have q2 : (cyL sg S (Y2.drop Y.length)).2.1 = (cyL sg S (r.2.drop Y.length)).2.1 := by rw [ec]
          have q3 : (cyL sg S (Y2.drop Y.length)).2.2.getD (Y2.length - 1) 0 = (anL (cyL sg S (r.2.drop Y.length)).1 (S.2.2.getD (Y.length - 1) 0) ((cyL sg S (r.2.drop Y.length)).2.2.getD (r.2.length - 1) 0)).2 := by rw [ec]; exact getD_last (by omega)
          rw [← q1] at C4 D4 ll
          rw [← q2] at C4
          rw [← q3, succ32]
          have hcl2 := cyL_len (sg := sg) (Y2.drop Y.length) S
          have hdl2 := drop_len pY2
          refine ih2 M4 r.1 o (c + 1) Y2 (cyL sg S (Y2.drop Y.length)) lc4 rc4 (H' + 4 + 1) Q (by omega) (by omega) ho (by omega) (by omega) T4 C4 (by omega) (by omega) L4 ?_
          have hok2 := rc_ok (sN := sN) hS g 2 r.1 o Y2 (by decide) a2 a3
          generalize rc b n sN g 2 r.1 o Y2 = R2 at hE hok2
          have G4 := ((CdF.t (lc := lc) (rc := rr) (N := S.1) F1 lm.2.2.1).tr F3).tr D4
          cases R2 with
          | error e => exact fun M5 lc5 rc5 N5 bf5 v T5 C5 F5 hl5 hv => hE M5 lc5 rc5 N5 bf5 v T5 C5 (G4.tr F5) (by omega) hv
          | ok r2 =>
            obtain ⟨b1, b2, b3, ⟨V, b4, b5⟩, -⟩ := hok2
            intro M5 lc5 rc5 T5 C5 L5 F5
            have ec2 : cyL sg (cyL sg S (Y2.drop Y.length)) (r2.2.drop Y2.length) = cyL sg S (r2.2.drop Y.length) := by
              rw [← cyL_app]
              congr 1
              rw [b4, List.drop_left, pY2, List.append_assoc, List.drop_left, List.drop_left]
            rw [ec2] at C5 L5 F5 ⊢
            exact hE M5 lc5 rc5 T5 C5 L5 (G4.tr F5)
      · rw [if_pos hk, adv_er' k1] at hE
        have C1 := hC.t F1
        obtain ⟨g1, g2, g3, g4, g5, -, -, -, -, g8, -⟩ := id C1
        refine ⟨n0, g8, g1.1, n0 + 8, g5, X_not (h := H' + 1) T1 (fun _ => ⟨_, rfl, C1.2.1.1, X_joinA (h := H') (v := 0) T1 C1 hx (by omega) (by omega) (fun M4 lc4 rc4 N4 w T4 C4 F4 hl4 hw => hE M4 lc4 rc4 N4 _ w T4 C4 ((CdF.t F1 lm.2.2.1).tr F4) (by omega) hw)⟩)⟩
      · rw [if_neg hk] at hE
        have hE := hE M lc rr
        dsimp only at hE
        rw [List.drop_length] at hE
        exact hE hT hC hb CdF.rf
    · intro M i o Y S lc rr H Q hg hh ho hl hT hC hL hb hE
      obtain ⟨H', rfl⟩ : ∃ H', H = H' + 4 + 1 := ⟨H - 5, by omega⟩
      have hi := hT.2.1
      have h0 := hT.2.2.2.2.2.2.2.2.2
      unfold rc at hE
      rw [if_neg (by decide), if_neg (by decide), if_neg (by decide), if_pos rfl] at hE
      refine KX4_readCondition ?_
      unfold DX4_readCondition_0
      refine ⟨ok14 hT.1, ih1 M i o Y S lc rr (H' + 4) _ (by omega) (by omega) ho (by omega) hT hC hL hb ?_⟩
      have hok := rc_ok (sN := sN) hS g 1 i o Y (by decide) hi.2.2 h0
      generalize rc b n sN g 1 i o Y = R at hE hok
      cases R with
      | error e => exact fun M3 lc3 rc3 N3 bf3 v T3 C3 F3 hl3 hv _ => ⟨_, rfl, X_condL (h := H' + 2) T3 (hE M3 lc3 rc3 N3 bf3 v T3 C3 F3 hl3 hv)⟩
      | ok r =>
        obtain ⟨a1, a2, a3, ⟨Z, a4, a5⟩, a6⟩ := hok
        have a6 := a6 (by decide)
        intro M3 lc3 rc3 T3 C3 L3 F3
        have hcl := cyL_len (sg := sg) (r.2.drop Y.length) S
        have hdl := drop_len a4
        refine fun _ => ⟨_, rfl, ih4 M3 r.1 o 0 r.2 (cyL sg S (r.2.drop Y.length)) lc3 rc3 (H' + 4 + 1) Q (by omega) (by omega) ho (Nat.zero_le _) (by omega) T3 C3 (by omega) (by omega) L3 ?_⟩
        have hE : EndK b n s n0 sN ro mx vN sg M i o Y S lc rr Q (rc b n sN g 4 r.1 o r.2) := hE
        have hok2 := rc_ok (sN := sN) hS g 4 r.1 o r.2 (by decide) a2 a3
        generalize rc b n sN g 4 r.1 o r.2 = R2 at hE hok2
        cases R2 with
        | error e => exact fun M4 lc4 rc4 N4 bf4 v T4 C4 F4 hl4 hv => hE M4 lc4 rc4 N4 bf4 v T4 C4 (F3.tr F4) (by omega) hv
        | ok r2 =>
          obtain ⟨b1, b2, b3, ⟨V, b4, b5⟩, -⟩ := hok2
          intro M4 lc4 rc4 T4 C4 L4 F4
          have ec : cyL sg (cyL sg S (r.2.drop Y.length)) (r2.2.drop r.2.length) = cyL sg S (r2.2.drop Y.length) := by
            rw [← cyL_app]
            congr 1
            rw [b4, List.drop_left, a4, List.append_assoc, List.drop_left, List.drop_left]
          rw [ec] at C4 L4 F4 ⊢
          exact hE M4 lc4 rc4 T4 C4 L4 (F3.tr F4)
    · intro M i o c Y S lc rr H Q hg hh ho hc hl hT hC hL hY hb hE
      obtain ⟨H', rfl⟩ : ∃ H', H = H' + 5 + 1 := ⟨H - 6, by omega⟩
      have F := hT.1
      have hi := hT.2.1
      have h0 := hT.2.2.2.2.2.2.2.2.2
      have lm := hC.lim
      have n1 := hC.n1
      have hn := hS.2.1
      have hx : S.2.2.getD (Y.length - 1) 0 < 2 * S.1.length := getD_lt hb (by omega)
      unfold rc at hE
      rw [if_neg (by decide), if_neg (by decide), if_neg (by decide), if_neg (by decide)] at hE
      refine VX4_readCondition_7 ?_
      unfold DX4_readCondition_7 DX4_readCondition_48
      refine ⟨fun z => ?_, fun _ => ⟨ok14 F, 15, rf14_0 F, ok15 F, A_accept (h := H' + 3) hT hS (by decide) (fun hk k1 M1 T1 F1 _ => ⟨_, rfl, fun z => absurd z (by decide), fun _ => ?_⟩) (fun hk k1 M1 T1 F1 _ => ⟨_, rfl, fun z => absurd z (by decide), fun _ => ?_⟩) (fun hk _ => ⟨_, rfl, fun _ => ?_, fun z => absurd rfl z⟩)⟩⟩
      · have c800 := (le32 (a := 800) (b := c) (by decide) (by omega)).mp z
        have : i = s := by omega
        have hk : tK b n i ≠ 60 := by
          subst this
          rcases hS.2.2.1 with q | q <;> (rw [q]; decide)
        rw [if_neg hk] at hE
        have hE := hE M lc rr
        dsimp only at hE
        rw [List.drop_length] at hE
        exact hE hT hC hb CdF.rf
      · rw [if_pos hk, adv_ok' k1] at hE
        have hs := hS.lt hi.2.2 h0 (by rw [hk]; decide)
        have hE : EndK b n s n0 sN ro mx vN sg M i o Y S lc rr Q ((rc b n sN g 1 (i + 1) o Y).bind fun r => rc b n sN g 4 r.1 o (r.2 ++ [(4, Y.length - 1, r.2.length - 1)])) := hE
        have C1 := hC.t F1
        obtain ⟨g1, g2, g3, g4, g5, -, -, -, -, g8, -⟩ := id C1
        refine ⟨n0, g8, g1.1, n0 + 8, g5, ih1 M1 (i + 1) o Y S lc rr (H' + 5) _ (by omega) (by omega) ho (by omega) T1 C1 hL hb ?_⟩
        have hok := rc_ok (sN := sN) hS g 1 (i + 1) o Y (by decide) hs k1
        generalize rc b n sN g 1 (i + 1) o Y = R at hE hok
        cases R with
        | error e => exact fun M3 lc3 rc3 N3 bf3 v T3 C3 F3 hl3 hv _ => ⟨_, rfl, C3.2.1.1, X_joinO (h := H') T3 C3 (by have := F3.2.2.2.2.2.2.2.2.2; omega) hv (by omega) (fun M4 lc4 rc4 N4 w T4 C4 F4 hl4 hw => hE M4 lc4 rc4 N4 bf3 w T4 C4 (((CdF.t F1 lm.2.2.1).tr F3).tr F4) (by omega) hw)⟩
        | ok r =>
          obtain ⟨a1, a2, a3, ⟨Z, a4, a5⟩, a6⟩ := hok
          have a6 := a6 (by decide)
          intro M3 lc3 rc3 T3 C3 L3 F3
          have hcl := cyL_len (sg := sg) (r.2.drop Y.length) S
          have hdl := drop_len a4
          have n3 := C3.n1
          have hy : (cyL sg S (r.2.drop Y.length)).2.2.getD (r.2.length - 1) 0 < 2 * (cyL sg S (r.2.drop Y.length)).1.length := getD_lt L3 (by omega)
          have ex : (cyL sg S (r.2.drop Y.length)).2.2.getD (Y.length - 1) 0 = S.2.2.getD (Y.length - 1) 0 := cyL_getD (by omega)
          have hx3 : S.2.2.getD (Y.length - 1) 0 < 2 * (cyL sg S (r.2.drop Y.length)).1.length := by omega
          have ll := orL_len (N := (cyL sg S (r.2.drop Y.length)).1) (a := S.2.2.getD (Y.length - 1) 0) (b := (cyL sg S (r.2.drop Y.length)).2.2.getD (r.2.length - 1) 0)
          have hE : EndK b n s n0 sN ro mx vN sg M i o Y S lc rr Q (rc b n sN g 4 r.1 o (r.2 ++ [(4, Y.length - 1, r.2.length - 1)])) := hE
          have ec : cyL sg S ((r.2 ++ [((4, Y.length - 1, r.2.length - 1) : Cd)]).drop Y.length) = ((orL (cyL sg S (r.2.drop Y.length)).1 (S.2.2.getD (Y.length - 1) 0) ((cyL sg S (r.2.drop Y.length)).2.2.getD (r.2.length - 1) 0)).1, (cyL sg S (r.2.drop Y.length)).2.1, (cyL sg S (r.2.drop Y.length)).2.2 ++ [(orL (cyL sg S (r.2.drop Y.length)).1 (S.2.2.getD (Y.length - 1) 0) ((cyL sg S (r.2.drop Y.length)).2.2.getD (r.2.length - 1) 0)).2]) := by
            rw [drop_snoc a4, cyL_app, ← ex]
            rfl
          generalize hnd : (r.2 ++ [((4, Y.length - 1, r.2.length - 1) : Cd)]) = Y2 at hE ec
          have lY2 : Y2.length = r.2.length + 1 := by rw [← hnd, List.length_append]; rfl
          have pY2 : Y2 = Y ++ (Z ++ [(4, Y.length - 1, r.2.length - 1)]) := by rw [← hnd, a4, List.append_assoc]
          refine fun _ => ⟨_, rfl, C3.2.1.1, S_or (h := H') C3.2.1 (by omega) hx3 hy (fun M4 lc4 rc4 P4 F4 _ => ⟨_, rfl, ?_⟩)⟩
          have T4 := T3.c C3 F4
          have C4 := C3.c P4 F4 ll.1
          have lm3 := C3.lim
          have D4 := CdF.c F4 lm3.2.2.1 ⟨lm3.1, lm3.2.1⟩ lm3.2.2.2 ll.1
          have L4 := L3.snoc (N := (orL (cyL sg S (r.2.drop Y.length)).1 (S.2.2.getD (Y.length - 1) 0) ((cyL sg S (r.2.drop Y.length)).2.2.getD (r.2.length - 1) 0)).1) (bf := (cyL sg S (r.2.drop Y.length)).2.1) ll.1 (orL_lt n3 hx3 hy)
          rw [← ec] at L4
          have q1 : (cyL sg S (Y2.drop Y.length)).1 = (orL (cyL sg S (r.2.drop Y.length)).1 (S.2.2.getD (Y.length - 1) 0) ((cyL sg S (r.2.drop Y.length)).2.2.getD (r.2.length - 1) 0)).1 := by rw [ec]
          have q2 : (cyL sg S (Y2.drop Y.length)).2.1 = (cyL sg S (r.2.drop Y.length)).2.1 := by rw [ec]
          have q3 : (cyL sg S (Y2.drop Y.length)).2.2.getD (Y2.length - 1) 0 = (orL (cyL sg S (r.2.drop Y.length)).1 (S.2.2.getD (Y.length - 1) 0) ((cyL sg S (r.2.drop Y.length)).2.2.getD (r.2.length - 1) 0)).2 := by rw [ec]; exact getD_last (by omega)
          rw [← q1] at C4 D4 ll
          rw [← q2] at C4
          rw [← q3, succ32]
          have hcl2 := cyL_len (sg := sg) (Y2.drop Y.length) S
          have hdl2 := drop_len pY2
          refine ih4 M4 r.1 o (c + 1) Y2 (cyL sg S (Y2.drop Y.length)) lc4 rc4 (H' + 5 + 1) Q (by omega) (by omega) ho (by omega) (by omega) T4 C4 (by omega) (by omega) L4 ?_
          have hok2 := rc_ok (sN := sN) hS g 4 r.1 o Y2 (by decide) a2 a3
          generalize rc b n sN g 4 r.1 o Y2 = R2 at hE hok2
          have G4 := ((CdF.t (lc := lc) (rc := rr) (N := S.1) F1 lm.2.2.1).tr F3).tr D4
          cases R2 with
          | error e => exact fun M5 lc5 rc5 N5 bf5 v T5 C5 F5 hl5 hv => hE M5 lc5 rc5 N5 bf5 v T5 C5 (G4.tr F5) (by omega) hv
          | ok r2 =>
            obtain ⟨b1, b2, b3, ⟨V, b4, b5⟩, -⟩ := hok2
            intro M5 lc5 rc5 T5 C5 L5 F5
            have ec2 : cyL sg (cyL sg S (Y2.drop Y.length)) (r2.2.drop Y2.length) = cyL sg S (r2.2.drop Y.length) := by
              rw [← cyL_app]
              congr 1
              rw [b4, List.drop_left, pY2, List.append_assoc, List.drop_left, List.drop_left]
            rw [ec2] at C5 L5 F5 ⊢
            exact hE M5 lc5 rc5 T5 C5 L5 (G4.tr F5)
      · rw [if_pos hk, adv_er' k1] at hE
        have C1 := hC.t F1
        obtain ⟨g1, g2, g3, g4, g5, -, -, -, -, g8, -⟩ := id C1
        refine ⟨n0, g8, g1.1, n0 + 8, g5, X_and (h := H' + 1) T1 (fun _ => ⟨_, rfl, C1.2.1.1, X_joinO (h := H') (v := 0) T1 C1 hx (by omega) (by omega) (fun M4 lc4 rc4 N4 w T4 C4 F4 hl4 hw => hE M4 lc4 rc4 N4 _ w T4 C4 ((CdF.t F1 lm.2.2.1).tr F4) (by omega) hw)⟩)⟩
      · rw [if_neg hk] at hE
        have hE := hE M lc rr
        dsimp only at hE
        rw [List.drop_length] at hE
        exact hE hT hC hb CdF.rf
end
