/-! the class reads conditions: readNot, readAnd, readCondition against rc -/
abbrev LsT : Type := Nt × (Nat → Nat) × List Nat
def LsB (S : LsT) : Prop := ∀ x ∈ S.2.2, x < 2 * S.1.length
theorem getD_lt {l : List Nat} {n k : Nat} (h : ∀ x ∈ l, x < n) (h0 : 0 < n) : l.getD k 0 < n := by
  rw [List.getD_eq_getElem?_getD]
  by_cases hk : k < l.length
  · rw [List.getElem?_eq_getElem hk]; exact h _ (List.getElem_mem hk)
  · rw [List.getElem?_eq_none (by omega)]; exact h0
theorem getD_last {l : List Nat} {x : Nat} {k : Nat} (h : k = l.length) : (l ++ [x]).getD k 0 = x := by
  rw [List.getD_eq_getElem?_getD, h, List.getElem?_append_right (Nat.le_refl _), Nat.sub_self]; rfl
theorem getD_left {l r : List Nat} {k : Nat} (h : k < l.length) : (l ++ r).getD k 0 = l.getD k 0 := by
  rw [List.getD_eq_getElem?_getD, List.getD_eq_getElem?_getD, List.getElem?_append_left h]
theorem ndL_pre {sg : Nat → Nat} {S : LsT} {d : Cd} : ∃ x, (ndL sg S d).2.2 = S.2.2 ++ [x] := by
  unfold ndL
  repeat' split
  all_goals exact ⟨_, rfl⟩
theorem cyL_pre {sg : Nat → Nat} : ∀ (Z : List Cd) (S : LsT), ∃ V, (cyL sg S Z).2.2 = S.2.2 ++ V := by
  intro Z
  induction Z with
  | nil => intro S; exact ⟨[], (List.append_nil _).symm⟩
  | cons d Z ih =>
    intro S
    obtain ⟨x, hx⟩ := @ndL_pre sg S d
    obtain ⟨V, hV⟩ := ih (ndL sg S d)
    exact ⟨[x] ++ V, by show (cyL sg (ndL sg S d) Z).2.2 = _; rw [hV, hx, List.append_assoc]⟩
theorem cyL_getD {sg : Nat → Nat} {Z : List Cd} {S : LsT} {k : Nat} (h : k < S.2.2.length) : (cyL sg S Z).2.2.getD k 0 = S.2.2.getD k 0 := by
  obtain ⟨V, hV⟩ := cyL_pre (sg := sg) Z S
  rw [hV, getD_left h]
section
variable {b : Nat → Int32} {n s n0 : Nat} {sN : List Int64} {ro mx : List Int32} {vN : List Int64} {sg : Nat → Nat} {h : Nat} {Q : Option Value → Mem → Prop}
theorem X_not {M : Mem} {f : Int32} {p : Nat} (hT : TF M f p) (H : Q (some (.int 0)) M) : E (h + 3) mdX4_readNot [.ref 14] M Q := by
  have F := hT.1
  have k := hT.2.2.2.2.2
  refine KX4_readNot ?_
  unfold DX4_readNot_0
  refine ⟨ok14 F, 15, rf14_0 F, ok15 F, fun _ => ⟨15, rf14_0 F, ok15 F, fun _ => ⟨15, rf14_0 F, ok15 F, ?_⟩, fun hc => absurd (k ▸ hc) (by decide)⟩, fun hc => absurd (k ▸ hc) (by decide)⟩
  exact F_accept hT (by decide) (fun _ => ⟨_, rfl, X_told hT (fun _ => ⟨_, rfl, 15, rf14_0 F, ok15 F, F_adv hT (fun _ => ⟨rfl, fun z => absurd rfl z, fun _ => H⟩)⟩)⟩)
theorem X_andL {M : Mem} {f : Int32} {p : Nat} {x c : Int32} (hT : TF M f p) (H : Q (some (.int x)) M) : T (h + 3) mdX4_readAnd 7 [(0, .ref 14), (1, .int x), (2, .int c)] [] M Q := by
  have F := hT.1
  refine VX4_readAnd_7 ?_
  unfold DX4_readAnd_7 DX4_readAnd_48
  exact ⟨fun _ => H, fun _ => ⟨ok14 F, 15, rf14_0 F, ok15 F, F_accept hT (by decide) (fun _ => ⟨_, rfl, fun _ => H, fun z => absurd rfl z⟩)⟩⟩
theorem X_and {M : Mem} {f : Int32} {p : Nat} (hT : TF M f p) (H : Q (some (.int 0)) M) : E (h + 4) mdX4_readAnd [.ref 14] M Q := by
  refine KX4_readAnd ?_
  unfold DX4_readAnd_0
  exact ⟨ok14 hT.1, X_not hT (fun _ => ⟨_, rfl, X_andL (h := h + 1) hT H⟩)⟩
theorem X_condL {M : Mem} {f : Int32} {p : Nat} {x c : Int32} (hT : TF M f p) (H : Q (some (.int x)) M) : T (h + 3) mdX4_readCondition 7 [(0, .ref 14), (1, .int x), (2, .int c)] [] M Q := by
  have F := hT.1
  refine VX4_readCondition_7 ?_
  unfold DX4_readCondition_7 DX4_readCondition_48
  exact ⟨fun _ => H, fun _ => ⟨ok14 F, 15, rf14_0 F, ok15 F, F_accept hT (by decide) (fun _ => ⟨_, rfl, fun _ => H, fun z => absurd rfl z⟩)⟩⟩
theorem X_cond {M : Mem} {f : Int32} {p : Nat} (hT : TF M f p) (H : Q (some (.int 0)) M) : E (h + 5) mdX4_readCondition [.ref 14] M Q := by
  refine KX4_readCondition ?_
  unfold DX4_readCondition_0
  exact ⟨ok14 hT.1, X_and hT (fun _ => ⟨_, rfl, X_condL (h := h + 2) hT H⟩)⟩
def EndK (b : Nat → Int32) (n s n0 : Nat) (sN : List Int64) (ro mx : List Int32) (vN : List Int64) (sg : Nat → Nat) (M : Mem) (i o : Nat) (Y : List Cd) (S : LsT) (lc rc : Nat) (Q : Option Value → Mem → Prop) (R : Except (Int32 × Nat) (Nat × List Cd)) : Prop := match R with
  | .ok r => ∀ M' lc' rc', TI b n s M' r.1 o → CB n0 sN ro mx vN M' (cyL sg S (r.2.drop Y.length)).1 lc' rc' sg (cyL sg S (r.2.drop Y.length)).2.1 → LsB (cyL sg S (r.2.drop Y.length)) → CdF n0 M M' lc rc lc' rc' S.1 (cyL sg S (r.2.drop Y.length)).1 → Q (some (.int (Int32.ofNat ((cyL sg S (r.2.drop Y.length)).2.2.getD (r.2.length - 1) 0)))) M'
  | .error e => ∀ M' lc' rc' N' bf' v, TF M' e.1 e.2 → CB n0 sN ro mx vN M' N' lc' rc' sg bf' → CdF n0 M M' lc rc lc' rc' S.1 N' → N'.length ≤ S.1.length + (s + 1 - i) → v < 2 * N'.length → Q (some (.int (Int32.ofNat v))) M'
theorem CB.n1 {M : Mem} {N : Nt} {lc rc : Nat} {bf : Nat → Nat} (h : CB n0 sN ro mx vN M N lc rc sg bf) : 1 ≤ N.length := h.2.1.2.2.2.2.2.2.1.1
theorem CB.lim {M : Mem} {N : Nt} {lc rc : Nat} {bf : Nat → Nat} (h : CB n0 sN ro mx vN M N lc rc sg bf) : lc ≠ 15 ∧ rc ≠ 15 ∧ 132 ≤ n0 ∧ 132 ≤ mN M := by
  obtain ⟨h1, h2, h3, h4, h5, h6, hs, h7, hb, h8, h9, h10⟩ := h
  omega
/-- 'and' or 'or' behind a fault: the nets may grow by one -/
theorem X_joinA {M : Mem} {f : Int32} {p x v c : Nat} {N : Nt} {lc rc : Nat} {bf : Nat → Nat} (hT : TF M f p) (hC : CB n0 sN ro mx vN M N lc rc sg bf) (hx : x < 2 * N.length) (hv : v < 2 * N.length) (hlim : N.length < 100000) (H : ∀ M' lc' rc' N' w, TF M' f p → CB n0 sN ro mx vN M' N' lc' rc' sg bf → CdF n0 M M' lc rc lc' rc' N N' → N'.length ≤ N.length + 1 → w < 2 * N'.length → Q (some (.int (Int32.ofNat w))) M') : E (h + 4) mdX0_and [.ref (n0 + 8), .int (Int32.ofNat x), .int (Int32.ofNat v)] M (fun r M12 => mE M M12 → ∃ r13 : Int32, r = some (.int r13) ∧ T (h + 5) mdX4_readAnd 7 [(0, .ref 14), (1, .int r13), (2, .int (Int32.ofNat c + 1))] [] M12 Q) := by
  have n1 := hC.n1
  have lm := hC.lim
  have ll := anL_len (N := N) (a := x) (b := v)
  refine S_and hC.2.1 hlim hx hv (fun M' lc' rc' P' F' _ => ⟨_, rfl, X_andL (h := h + 2) (hT.c hC F') ?_⟩)
  exact H M' lc' rc' _ _ (hT.c hC F') (hC.c P' F' ll.1) (CdF.c F' lm.2.2.1 ⟨lm.1, lm.2.1⟩ lm.2.2.2 ll.1) ll.2 (anL_lt n1 hx hv)
theorem X_joinO {M : Mem} {f : Int32} {p x v c : Nat} {N : Nt} {lc rc : Nat} {bf : Nat → Nat} (hT : TF M f p) (hC : CB n0 sN ro mx vN M N lc rc sg bf) (hx : x < 2 * N.length) (hv : v < 2 * N.length) (hlim : N.length < 100000) (H : ∀ M' lc' rc' N' w, TF M' f p → CB n0 sN ro mx vN M' N' lc' rc' sg bf → CdF n0 M M' lc rc lc' rc' N N' → N'.length ≤ N.length + 1 → w < 2 * N'.length → Q (some (.int (Int32.ofNat w))) M') : E (h + 5) mdX0_or [.ref (n0 + 8), .int (Int32.ofNat x), .int (Int32.ofNat v)] M (fun r M12 => mE M M12 → ∃ r13 : Int32, r = some (.int r13) ∧ T (h + 6) mdX4_readCondition 7 [(0, .ref 14), (1, .int r13), (2, .int (Int32.ofNat c + 1))] [] M12 Q) := by
  have n1 := hC.n1
  have lm := hC.lim
  have ll := orL_len (N := N) (a := x) (b := v)
  refine S_or hC.2.1 hlim hx hv (fun M' lc' rc' P' F' _ => ⟨_, rfl, X_condL (h := h + 3) (hT.c hC F') ?_⟩)
  exact H M' lc' rc' _ _ (hT.c hC F') (hC.c P' F' ll.1) (CdF.c F' lm.2.2.1 ⟨lm.1, lm.2.1⟩ lm.2.2.2 ll.1) ll.2 (orL_lt n1 hx hv)
/-- one node more -/
theorem LsB.snoc {S : LsT} {N : Nt} {bf : Nat → Nat} {x : Nat} (h : LsB S) (hN : S.1.length ≤ N.length) (hx : x < 2 * N.length) : LsB (N, bf, S.2.2 ++ [x]) := by
  intro y hy
  rcases List.mem_append.mp hy with q | q
  · have := h y q; show y < 2 * N.length; omega
  · rw [List.mem_singleton.mp q]; exact hx
/-- an operand: rc0 -/
theorem C_operand (hB : By b) (hS : Sto b n s) {M : Mem} {i o p : Nat} {Y : List Cd} {S : LsT} {lc rc : Nat} (hp : p < 2) (hlim : S.1.length < 90000) (hT : TI b n s M i o) (hC : CB n0 sN ro mx vN M S.1 lc rc sg S.2.1) (hL : S.2.2.length = Y.length) (hb : LsB S) (hE : EndK b n s n0 sN ro mx vN sg M i o Y S lc rc Q (rc0 b n sN p i Y)) : E (h + 5) mdX4_toldSignal [.ref 14] M (fun r M10 => mE M M10 → ∃ r11 : Int32, r = some (.int r11) ∧ ∃ b12 : Nat, mR M10 14 0 = some b12 ∧ ok M10 b12 9 ∧ E (h + 5) mdX7_advance [.ref b12] M10 (fun r M14 => mE M10 M14 → r = none ∧ (¬ r11 = (-1) → (Int32.ofNat p = 0 → ∃ b15 : Nat, mR M14 14 7 = some b15 ∧ ok M14 b15 3 ∧ ∃ b17 : Nat, mR M14 b15 7 = some b17 ∧ ok M14 b17 2 ∧ ∃ b19 : Nat, mR M14 b17 13 = some b19 ∧ ok M14 b19 21 ∧ vp_in r11 (mL M14 b19) ∧ DX4_readNot_179 (h + 5) (mAI M14 b19 (r11 : Int32).toNatClampNeg) M14 Q) ∧
  (¬ (Int32.ofNat p = 0) → ∃ b21 : Nat, mR M14 14 7 = some b21 ∧ ok M14 b21 3 ∧ ∃ b23 : Nat, mR M14 b21 7 = some b23 ∧ ok M14 b23 2 ∧ E (h + 5) mdX0_beforeOf [.ref b23, .int r11] M14 (fun r M25 => mE M14 M25 → ∃ r26 : Int32, r = some (.int r26) ∧ DX4_readNot_179 (h + 5) r26 M25 Q))) ∧
  (r11 = (-1) → Q (some (.int 0)) M14))) := by
  unfold DX4_readNot_179
  unfold rc0 at hE
  have hi := hT.2.1
  have n1 := hC.n1
  have lm := hC.lim
  refine A_told (h := h + 3) hT hC.1 hC.2.2.2.2.2.2.2.2.2.1 hB (fun hk k e hkl _ => ⟨_, rfl, 15, rf14_0 hT.1, ok15 hT.1, ?_⟩) (fun hk e M1 T1 F1 _ => ⟨_, rfl, 15, rf14_0 T1.1, ok15 T1.1, F_adv T1 (fun _ => ⟨rfl, fun z => absurd rfl z, fun _ => ?_⟩)⟩) (fun hk M1 T1 F1 _ => ⟨_, rfl, 15, rf14_0 T1.1, ok15 T1.1, F_adv T1 (fun _ => ⟨rfl, fun z => absurd rfl z, fun _ => ?_⟩)⟩)
  · have hs := hS.lt hi.2.2 hT.2.2.2.2.2.2.2.2.2 (by rw [hk]; decide)
    rw [if_pos hk, e] at hE
    have hE : EndK b n s n0 sN ro mx vN sg M i o Y S lc rc Q ((adv' b n i).bind fun j' => .ok (j', Y ++ [(p, k, 0)])) := hE
    have hk16 : k < 16 := by have := hC.1.2.1.1; omega
    have ne : ¬ Int32.ofNat k = -1 := oi_ne (by omega)
    refine A_adv hT hs (fun k1 M2 T2 F2 _ => ⟨rfl, fun _ => ⟨fun q => ?_, fun q => ?_⟩, fun z => absurd z ne⟩) (fun k1 M2 T2 F2 _ => ⟨rfl, fun _ => ⟨fun q => ?_, fun q => ?_⟩, fun z => absurd z ne⟩)
    · have p0 : p = 0 := inj32 (b := 0) (by omega) (by decide) q
      rw [adv_ok' k1] at hE
      have C2 := hC.t F2
      obtain ⟨g1, g2, g3, g4, g5, g6, ⟨s1, s2, s3⟩, g7, gb, g8, g9, g10⟩ := id C2
      refine ⟨n0, g8, g1.1, n0 + 8, g5, g2.1, n0 + 20, g6, s1, by rw [s2]; exact vp_of hk16 (by decide), ?_⟩
      rw [lt32 (by omega), (s3 k hk16).1]
      have ed : (Y ++ [((p, k, 0) : Cd)]).drop Y.length = [(p, k, 0)] := List.drop_left
      have el : (Y ++ [((p, k, 0) : Cd)]).length - 1 = Y.length := by rw [List.length_append]; rfl
      have ec : cyL sg S [((p, k, 0) : Cd)] = (S.1, S.2.1, S.2.2 ++ [sg k]) := by show ndL sg S (p, k, 0) = _; unfold ndL; rw [if_pos p0]
      have hE := hE M2 lc rc
      dsimp only at hE
      rw [ed, ec, el] at hE
      have := hE T2 C2 (hb.snoc (Nat.le_refl _) (s3 k hk16).2) (CdF.t F2 g9)
      rw [getD_last hL.symm] at this
      exact this
    · have p1 : p = 1 := by
        have : p ≠ 0 := fun z => q (by rw [z]; rfl)
        omega
      rw [adv_ok' k1] at hE
      have C2 := hC.t F2
      obtain ⟨g1, g2, g3, g4, g5, g6, ⟨s1, s2, s3⟩, g7, gb, g8, g9, g10⟩ := id C2
      refine ⟨n0, g8, g1.1, n0 + 8, g5, g2.1, S_beforeOf C2 T2 hk16 (by omega) (fun M3 lc3 rc3 T3 C3 F3 _ => ⟨_, rfl, ?_⟩)⟩
      have ed : (Y ++ [((p, k, 0) : Cd)]).drop Y.length = [(p, k, 0)] := List.drop_left
      have el : (Y ++ [((p, k, 0) : Cd)]).length - 1 = Y.length := by rw [List.length_append]; rfl
      have ec : cyL sg S [((p, k, 0) : Cd)] = ((bfL S.1 S.2.1 k).1, (bfL S.1 S.2.1 k).2.1, S.2.2 ++ [(bfL S.1 S.2.1 k).2.2]) := by show ndL sg S (p, k, 0) = _; unfold ndL; rw [if_neg (by show ¬ p = 0; omega), if_pos p1]
      have hE := hE M3 lc3 rc3
      dsimp only at hE
      rw [ed, ec, el] at hE
      have hv : (bfL S.1 S.2.1 k).2.2 < 2 * (bfL S.1 S.2.1 k).1.length := by
        unfold bfL
        split
        · show _ < 2 * (S.1 ++ [_]).length; rw [List.length_append]; show 2 * S.1.length < 2 * (S.1.length + 1); omega
        · exact (gb.2.2 k hk16).2
      have := hE T3 C3 (hb.snoc F3.2.2.2.2.2.2.2.2.2 hv) ((CdF.t F2 g9).tr F3)
      rw [getD_last hL.symm] at this
      exact this
    · have p0 : p = 0 := inj32 (b := 0) (by omega) (by decide) q
      rw [adv_er' k1] at hE
      have C2 := hC.t F2
      obtain ⟨g1, g2, g3, g4, g5, g6, ⟨s1, s2, s3⟩, g7, gb, g8, g9, g10⟩ := id C2
      refine ⟨n0, g8, g1.1, n0 + 8, g5, g2.1, n0 + 20, g6, s1, by rw [s2]; exact vp_of hk16 (by decide), ?_⟩
      rw [lt32 (by omega), (s3 k hk16).1]
      exact hE M2 lc rc _ _ _ T2 C2 (CdF.t F2 g9) (by omega) (s3 k hk16).2
    · have p1 : p = 1 := by
        have : p ≠ 0 := fun z => q (by rw [z]; rfl)
        omega
      rw [adv_er' k1] at hE
      have C2 := hC.t F2
      obtain ⟨g1, g2, g3, g4, g5, g6, ⟨s1, s2, s3⟩, g7, ⟨b1, b2, b3⟩, g8, g9, g10⟩ := id C2
      refine ⟨n0, g8, g1.1, n0 + 8, g5, g2.1, ?_⟩
      refine KX0_beforeOf ?_
      unfold DX0_beforeOf_0 DX0_beforeOf_19
      have z := z32 (a := S.2.1 k) (k := 0) (by have := (b3 k hk16).2; omega) (by decide)
      have vp : ∀ {M : Mem}, mL M (n0 + 16) = 16 → vp_in (Int32.ofNat k) (mL M (n0 + 16)) := fun e => by rw [e]; exact vp_of hk16 (by decide)
      rw [lt32 (by omega)]
      refine ⟨g2.1, n0 + 16, g7, b1, vp b2, fun q => ⟨g2.1, n0 + 16, g7, b1, vp b2, fun _ => ⟨_, rfl, ?_⟩⟩, fun q => ⟨n0 + 16, g7, S_fresh g2 (by omega) (fun M3 lc3 rc3 P3 F3 _ => ⟨_, rfl, ?_⟩)⟩⟩
      · rw [(b3 k hk16).1]
        exact hE M2 lc rc _ _ _ T2 C2 (CdF.t F2 g9) (by omega) (b3 k hk16).2
      · have hl : S.1.length ≤ (frL S.1).1.length := by show _ ≤ (S.1 ++ [_]).length; rw [List.length_append]; exact Nat.le_add_right _ _
        have C3 := C2.c P3 F3 hl
        have T3 := T2.c C2 F3
        obtain ⟨-, f2, -, -, -, -, -, f7, ⟨d1, d2, d3⟩, -⟩ := id C3
        refine ⟨d1, vp d2, fun M4 e4 => ?_⟩
        have hlen : (frL S.1).1.length = S.1.length + 1 := by show (S.1 ++ [_]).length = _; rw [List.length_append]; rfl
        obtain ⟨C4, D4⟩ := C3.w16 (v := 2 * S.1.length) hk16 (by omega) e4
        have T4 : TF M4 1 (tP b n (i + 1)) := T3.fr (by rw [e4]; exact T3.1.ai) (by rw [e4]; rfl)
        obtain ⟨-, q2, -, -, -, -, -, q7, ⟨c1, c2, c3⟩, -⟩ := id C4
        refine ⟨q2.1, n0 + 16, q7, c1, vp c2, fun _ => ⟨_, rfl, ?_⟩⟩
        rw [(c3 k hk16).1]
        exact hE M4 lc3 rc3 _ _ _ T4 C4 (((CdF.t F2 g9).tr (CdF.c F3 g9 ⟨by omega, by omega⟩ (by omega) hl)).tr D4) (by omega) (c3 k hk16).2
  · rw [if_pos hk, e] at hE
    exact hE M1 lc rc _ _ 0 T1 (hC.t F1) (CdF.t F1 lm.2.2.1) (by omega) (by omega)
  · rw [if_neg hk] at hE
    exact hE M1 lc rc _ _ 0 T1 (hC.t F1) (CdF.t F1 lm.2.2.1) (by omega) (by omega)
end
