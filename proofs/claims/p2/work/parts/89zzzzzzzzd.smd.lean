/-! a sum is worked: the class's loop over its codes -/
section
variable {X : List Nd} {k n : Nat} {s t : List Nat} {w : Nat → Int64} {M M' : Mem} {sc stc cc rw h : Nat} {cs : List Int32} {Q : Option Value → Mem → Prop} {vr sg : Nat → Int64}
theorem gA0 {pr r : List Int32} {x : Int32} : (pr ++ x :: r).getD pr.length 0 = x := by
  rw [List.getD_eq_getElem?_getD, List.getElem?_append_right (Nat.le_refl _), Nat.sub_self]
  rfl
theorem gA1 {pr r : List Int32} {x y : Int32} : (pr ++ x :: y :: r).getD (pr.length + 1) 0 = y := by
  rw [List.getD_eq_getElem?_getD, List.getElem?_append_right (Nat.le_succ _), show pr.length.succ - pr.length = 1 by omega]
  rfl
theorem drop_nd (hk : k < X.length) : (X.drop k).take (n + 1) = X.getD k nd0 :: (X.drop (k + 1)).take n := by
  rw [List.drop_eq_getElem_cons hk, List.take_succ_cons, List.getD_eq_getElem?_getD, List.getElem?_eq_getElem hk]
  rfl
theorem cdL_cons {d : Nd} {L : List Nd} : cdL (d :: L) = cdN d ++ cdL L := by
  unfold cdL
  rw [List.flatMap_cons]
theorem cdN_b {d : Nd} (h4 : 4 ≤ d.1) (h8 : d.1 ≤ 8) : cdN d = [opC d.1] := by
  unfold cdN opC
  have ht : d.1 = 4 ∨ d.1 = 5 ∨ d.1 = 6 ∨ d.1 = 7 ∨ d.1 = 8 := by omega
  rcases ht with e | e | e | e | e <;> rw [e] <;> rfl
theorem opC_3 {t : Nat} (h4 : 4 ≤ t) (h8 : t ≤ 8) : ¬ opC t = 0 ∧ 3 < opC t ∧ ¬ opC t = 4 := by
  have ht : t = 4 ∨ t = 5 ∨ t = 6 ∨ t = 7 ∨ t = 8 := by omega
  rcases ht with e | e | e | e | e <;> rw [e] <;> decide
/-- behind a failure, or at the end -/
theorem S_wk122 {r : Int32} (hO : SmO M sc cc stc cs) (H : (mI M sc 4 = 0 ∧ mI M sc 3 = 1 ∧ r = (mAJ M stc 0).toInt32) ∨ (¬ mI M sc 4 = 0 ∧ r = 0)) (K : Q (some (.int r)) M) : DX6_work_122 h sc M Q := by
  obtain ⟨⟨o8, -⟩, ⟨f2, os, ls⟩, -⟩ := hO
  unfold DX6_work_122 DX6_work_146 DX6_work_147
  rcases H with ⟨h1, h2, h3⟩ | ⟨h1, h3⟩
  · refine ⟨o8, fun z => ?_, fun _ => ⟨fun z => absurd h1 z, fun _ => ⟨stc, f2, os, by rw [ls]; exact vp_of (n := 0) (by decide) (by decide), ?_⟩⟩⟩
    · rw [h2] at z; exact absurd z (by decide)
    · rw [h3] at K; exact K
  · rw [h3] at K
    exact ⟨o8, fun _ => K, fun _ => ⟨fun _ => K, fun z => absurd z h1⟩⟩
theorem S_wkX {p : Nat} (hO : SmO M sc cc stc cs) (hp : p < 200000) (hf : ¬ mI M sc 4 = 0) (K : Q (some (.int 0)) M) : T (h + 3) mdX6_work 12 [(0, .ref sc), (2, .ref rw), (3, .int (Int32.ofNat p))] [] M Q := by
  have q : DX6_work_122 (h + 2) sc M Q := S_wk122 hO (Or.inr ⟨hf, rfl⟩) K
  obtain ⟨⟨o8, f0, oc, i1, l1, -, l2, hc⟩, -, cl⟩ := hO
  refine VX6_work_12 (h := h + 2) ?_
  unfold DX6_work_12
  refine ⟨fun z => q, fun _ => ⟨o8, fun _ => q, fun z => ⟨cc, f0, oc, ?_, fun _ => q, fun _ => ⟨fun _ => q, fun y => absurd y hf⟩⟩⟩⟩
  rw [i1, le32 (by omega) (by omega)] at z
  exact vp_of (by omega) (by omega)
theorem StS.top {e : Nat} (h : StS M sc stc (e :: s) w) : mI M sc 3 = Int32.ofNat (s.length + 1) ∧ mAJ M stc s.length = w e := by
  refine ⟨h.1, ?_⟩
  have := h.2 0 (Nat.succ_pos _)
  exact this
theorem StS.low {e j : Nat} (h : StS M sc stc (e :: s) w) (hj : j < s.length) : mAJ M stc (s.length - 1 - j) = w (s.getD j 0) := by
  have := h.2 (j + 1) (Nat.succ_lt_succ hj)
  have e1 : (e :: s).length - 1 - (j + 1) = s.length - 1 - j := by show s.length + 1 - 1 - (j + 1) = _; omega
  rw [e1] at this
  exact this
/-- node k on top of s0 -/
theorem StS.put {s0 : List Nat} {v : Int64} (hk : ∀ e ∈ s0, e < k) (e3 : mI M' sc 3 = Int32.ofNat (s0.length + 1)) (et : mAJ M' stc s0.length = v) (el : ∀ j, j < s0.length → mAJ M' stc (s0.length - 1 - j) = w (s0.getD j 0)) : StS M' sc stc (k :: s0) (va_up w k v) := by
  refine ⟨e3, fun j hj => ?_⟩
  cases j with
  | zero =>
    show mAJ M' stc s0.length = va_up w k v k
    rw [va_up_self]
    exact et
  | succ j =>
    have hj : j < s0.length := Nat.lt_of_succ_lt_succ hj
    have e1 : (k :: s0).length - 1 - (j + 1) = s0.length - 1 - j := by show s0.length + 1 - 1 - (j + 1) = _; omega
    rw [e1, el j hj]
    show w (s0.getD j 0) = va_up w k v (s0.getD j 0)
    have := hk _ (gd_in hj)
    rw [va_up_ne _ _ (by omega)]
theorem S_wkL {c : Nat} {po : List Int32} (hl : X.length ≤ 810) : ∀ (n k : Nat) (pr : List Int32) (s : List Nat) (w : Nat → Int64) (M : Mem) (Q : Option Value → Mem → Prop), cs = pr ++ (cdL ((X.drop k).take n) ++ 0 :: po) → GdS X 40 n k s [c] → k + n ≤ X.length → s.length ≤ 40 → (∀ e ∈ s, e < k) → (∀ e ∈ s, InG (w e)) → SmO M sc cc stc cs → RwI M rw vr sg → mI M sc 4 = 0 → StS M sc stc s w → (∀ M', WcZ sc stc M M' → mI M' sc 4 = (wkZ X vr sg n k w).1 → ((wkZ X vr sg n k w).1 = 0 → InG ((wkZ X vr sg n k w).2 c)) → Q (some (.int (if (wkZ X vr sg n k w).1 = 0 then ((wkZ X vr sg n k w).2 c).toInt32 else 0))) M') → T (h + 3) mdX6_work 12 [(0, .ref sc), (2, .ref rw), (3, .int (Int32.ofNat pr.length))] [] M Q := by
  intro n
  induction n with
  | zero =>
    intro k pr s w M Q ecs hg hkn hs40 hb hi hO hr hf hS K
    have hg : s = [c] := hg
    subst hg
    have q := K M WcZ.rf (by rw [hf]; rfl) (fun _ => hi c List.mem_cons_self)
    unfold wkZ at q
    rw [if_pos rfl] at q
    have ecs : cs = pr ++ 0 :: po := ecs
    obtain ⟨⟨o8, f0, oc, i1, l1, -, l2, hc⟩, -, cl⟩ := id hO
    have pl : pr.length < cs.length := by rw [ecs, List.length_append]; exact Nat.lt_add_of_pos_right (Nat.succ_pos _)
    obtain ⟨t1, t2⟩ := hS.top
    have e : DX6_work_122 (h + 2) sc M Q := S_wk122 hO (Or.inl ⟨hf, t1, rfl⟩) (by rw [show mAJ M stc 0 = w c from t2]; exact q)
    refine VX6_work_12 (h := h + 2) ?_
    unfold DX6_work_12
    rw [lt32 (show pr.length < 2147483648 by omega)]
    refine ⟨fun _ => e, fun _ => ⟨o8, fun _ => e, fun z => ⟨cc, f0, oc, vp_of (by omega) (by omega), fun _ => e, fun z => ?_⟩⟩⟩
    refine absurd ?_ z
    rw [hc _ pl, ecs, gA0]
  | succ n ih =>
    intro k pr s w M Q ecs hg hkn hs40 hb hi hO hr hf hS K
    obtain ⟨s', h1, h2, h3⟩ := hg
    obtain ⟨s0, e0, i0⟩ := h1.sb
    obtain ⟨⟨o8, f0, oc, i1, l1, -, l2, hc⟩, -, cl⟩ := id hO
    rw [drop_nd (by omega), cdL_cons] at ecs
    have hbs : ∀ e ∈ s0, e < k := fun e he => hb e (i0 e he)
    obtain ⟨d, ed⟩ : ∃ d, d = X.getD k nd0 := ⟨_, rfl⟩
    unfold wkZ at K
    unfold SpN KdN at h1
    rw [← ed] at ecs h1 K
    obtain ⟨L, eL⟩ : ∃ L, L = cdL ((X.drop (k + 1)).take n) ++ 0 :: po := ⟨_, rfl⟩
    have ecs : cs = pr ++ (cdN d ++ L) := by rw [ecs, eL, List.append_assoc]
    have n0 : ¬ Int32.ofNat pr.length < 0 := fun z => by
      have pl : pr.length ≤ cs.length := by rw [ecs, List.length_append]; exact Nat.le_add_right _ _
      have := (ltn32 (b := 0) (by omega) (by decide)).mp z
      omega
    have lp : (Int32.ofNat pr.length).toNatClampNeg = pr.length := lt32 (by
      have pl : pr.length ≤ cs.length := by rw [ecs, List.length_append]; exact Nat.le_add_right _ _
      omega)
    -- the node's number is v: on
    have go : ∀ (pr' : List Int32) (M1 : Mem) (v : Int64), ndC d vr sg w = (0, v) → InG v → cs = pr' ++ L → WcZ sc stc M M1 → mI M1 sc 4 = 0 → StS M1 sc stc s' (va_up w k v) → T (h + 3) mdX6_work 12 [(0, .ref sc), (2, .ref rw), (3, .int (Int32.ofNat pr'.length))] [] M1 Q := fun pr' M1 v ec iv ecs' k1 f1 S1 => by
      rw [ec, if_pos rfl] at K
      refine ih (k + 1) pr' s' (va_up w k v) M1 Q (by rw [ecs', eL]) h3 (by omega) h2 (fun y hy => ?_) (fun y hy => ?_) (hO.wc k1) (hr.wc k1) f1 S1 (fun M' k' e1 e2 => K M' (k1.tr k') e1 e2)
      · rw [e0] at hy
        rcases List.mem_cons.mp hy with q | q
        · omega
        · have := hbs y q; omega
      · rw [e0] at hy
        rcases List.mem_cons.mp hy with q | q
        · rw [q, va_up_self]; exact iv
        · have := hbs y q
          rw [va_up_ne _ _ (by omega)]
          exact hi y (i0 y q)
    have bad : ∀ (p : Nat) (M1 : Mem) (f : Int32) (v : Int64), ndC d vr sg w = (f, v) → ¬ f = 0 → p < 200000 → WcZ sc stc M M1 → mI M1 sc 4 = f → T (h + 3) mdX6_work 12 [(0, .ref sc), (2, .ref rw), (3, .int (Int32.ofNat p))] [] M1 Q := fun p M1 f v ec nf hp k1 f1 => by
      rw [ec, if_neg nf, if_neg nf] at K
      exact S_wkX (hO.wc k1) hp (by rw [f1]; exact nf) (K M1 k1 f1 (fun z => absurd z nf))
    refine VX6_work_12 (h := h + 2) ?_
    rcases h1 with ⟨hkd, es⟩ | ⟨ht, e, s1, hs1, hd, es⟩ | ⟨ht, a, e, s1, hs1, hd, ha, es⟩
    · have es0 : s0 = s := by rw [es] at e0; exact (List.cons.inj e0).2.symm
      have hl41 : s.length < 64 := by omega
      -- a leaf of codes op, x
      have leaf : ∀ (op x : Int32) (v : Int64), cdN d = [op, x] → ndC d vr sg w = (0, v) → InG v → ¬ op = 0 → ¬ 3 < op → ((op = 1 ∧ v = x.toInt64) ∨ (op = 2 ∧ ∃ j, j < 6 ∧ x = Int32.ofNat j ∧ v = (mAI M rw (20 + j)).toInt64) ∨ (op = 3 ∧ ∃ j, j < 16 ∧ x = Int32.ofNat j ∧ v = (mAI M rw (4 + j)).toInt64)) → DX6_work_12 (h + 2) sc rw (Int32.ofNat pr.length) M Q := by
        intro op x v ecd ec iv z0 z3 hop
        unfold DX6_work_12
        rw [lp]
        rw [ecd] at ecs
        have ecs : cs = pr ++ op :: x :: L := ecs
        have pl : pr.length + 2 ≤ cs.length := by rw [ecs, List.length_append]; show _ ≤ pr.length + (L.length + 1 + 1); omega
        have c0 : mAI M cc pr.length = op := by rw [hc _ (by omega), ecs, gA0]
        have c1 : mAI M cc (pr.length + 1) = x := by rw [hc _ (by omega), ecs, gA1]
        have vp : vp_in (Int32.ofNat pr.length) (mL M cc) := vp_of (by omega) (by omega)
        have vp1 : vp_in (Int32.ofNat (pr.length + 1)) (mL M cc) := vp_of (by omega) (by omega)
        refine ⟨fun z => absurd z n0, fun _ => ⟨o8, fun z => ?_, fun _ => ⟨cc, f0, oc, vp, fun z => absurd (c0 ▸ z) z0, fun _ => ⟨fun z => absurd hf z, fun _ => ⟨cc, f0, oc, vp, fun z => absurd (c0 ▸ z) z3, fun _ => ⟨cc, f0, oc, vp, fun z => ?_, fun _ => ⟨cc, f0, oc, by rw [succ32]; exact vp1, ?_⟩⟩⟩⟩⟩⟩⟩
        · rw [i1, le32 (by omega) (by omega)] at z; omega
        · rw [i1, succ32, le32 (by omega) (by omega)] at z; omega
        · rw [succ32, lt32 (show pr.length + 1 < 2147483648 by omega), c0, c1]
          unfold DX6_work_79
          refine ⟨o8, S_push (h := h + 1) hO hr.1 hS.1 hl41 hop (fun M1 e1 _ => ⟨rfl, ?_⟩)⟩
          unfold DX6_work_116
          have e2 : Int32.ofNat pr.length + 1 + 1 = Int32.ofNat (pr ++ [op, x]).length := by
            rw [succ32, succ32, List.length_append]
            rfl
          rw [e2]
          have k1 : WcZ sc stc M M1 := by
            rw [e1]
            exact (WcZ.j rfl).tr (WcZ.i (Or.inl rfl) rfl)
          refine go (pr ++ [op, x]) M1 v ec iv ?_ k1 ?_ ?_
          · rw [ecs, List.append_assoc]; rfl
          · rw [e1, mI_wI, if_neg (by omega)]; exact hf
          · rw [es]
            refine StS.put hb ?_ ?_ (fun j hj => ?_)
            · rw [e1]; exact up2_eq
            · rw [e1]; exact up2_eq
            · rw [e1]
              show up2 (mAJ M) stc s.length v stc (s.length - 1 - j) = _
              rw [up2_ne (fun z => by omega)]
              exact hS.2 j hj
      have ndl : ∀ v, ndW d vr sg w = (0, v) → InG v → ndC d vr sg w = (0, v) := fun v e iv => by
        unfold ndC
        rw [e, if_neg (fun z => z.2 iv)]
      rcases hkd with ⟨ht, v, hv, hd⟩ | ⟨ht, v, hv, hd⟩ | ⟨ht, v, hv, hd⟩
      · have e1 : ndW d vr sg w = (0, Int64.ofNat v) := by unfold ndW; rw [if_pos ht, hd]
        refine leaf 1 (Int32.ofNat v) (Int64.ofNat v) ?_ (ndl _ e1 (InG.n hv)) (InG.n hv) (by decide) (by decide) (Or.inl ⟨rfl, (c3264 (by omega)).symm⟩)
        unfold cdN
        rw [if_pos ht, hd, Int64.toInt32_ofNat']
      · obtain ⟨q1, q2⟩ := hr.2.1 v hv
        have e1 : ndW d vr sg w = (0, vr v) := by unfold ndW; rw [if_neg (by omega), if_pos ht, hd, i6n_of (by omega)]
        refine leaf 2 (Int32.ofNat v) (vr v) ?_ (ndl _ e1 q2) q2 (by decide) (by decide) (Or.inr (Or.inl ⟨rfl, v, hv, rfl, q1.symm⟩))
        unfold cdN
        rw [if_neg (by omega), if_pos ht, hd, Int64.toInt32_ofNat']
      · obtain ⟨q1, q2⟩ := hr.2.2 v hv
        have e1 : ndW d vr sg w = (0, sg v) := by unfold ndW; rw [if_neg (by omega), if_neg (by omega), if_pos ht, hd, i6n_of (by omega)]
        refine leaf 3 (Int32.ofNat v) (sg v) ?_ (ndl _ e1 q2) q2 (by decide) (by decide) (Or.inr (Or.inr ⟨rfl, v, hv, rfl, q1.symm⟩))
        unfold cdN
        rw [if_neg (by omega), if_neg (by omega), if_pos ht, hd, Int64.toInt32_ofNat']
    · unfold DX6_work_12
      rw [lp]
      have ecd : cdN d = [4] := by unfold cdN; rw [if_neg (by omega), if_neg (by omega), if_neg (by omega), if_pos ht]
      rw [ecd] at ecs
      have ecs : cs = pr ++ 4 :: L := ecs
      have pl : pr.length + 1 ≤ cs.length := by rw [ecs, List.length_append]; show _ ≤ pr.length + (L.length + 1); omega
      have c0 : mAI M cc pr.length = 4 := by rw [hc _ (by omega), ecs, gA0]
      have vp : vp_in (Int32.ofNat pr.length) (mL M cc) := vp_of (by omega) (by omega)
      have ek := hb e (by rw [hs1]; exact List.mem_cons_self)
      have ie := hi e (by rw [hs1]; exact List.mem_cons_self)
      rw [hs1] at hS
      obtain ⟨t1, t2⟩ := hS.top
      have s41 : s1.length < 40 := by rw [hs1] at hs40; exact hs40
      have e1 : ndW d vr sg w = (0, -(w e)) := by
        unfold ndW opWk
        rw [if_neg (by omega), if_neg (by omega), if_neg (by omega), if_pos ht, hd, i6n_of (by omega)]
      have ec : ndC d vr sg w = (0, -(w e)) := by
        unfold ndC
        rw [e1, if_neg (fun z => z.2 ie.neg)]
      have es0 : s0 = s1 := by rw [es] at e0; exact (List.cons.inj e0).2.symm
      refine ⟨fun z => absurd z n0, fun _ => ⟨o8, fun z => ?_, fun _ => ⟨cc, f0, oc, vp, fun z => absurd (c0 ▸ z) (by decide), fun _ => ⟨fun z => absurd hf z, fun _ => ⟨cc, f0, oc, vp, fun _ => ⟨cc, f0, oc, vp, fun z => absurd c0 z, fun _ => ?_⟩, fun z => ?_⟩⟩⟩⟩⟩
      · rw [i1, le32 (by omega) (by omega)] at z; omega
      · refine S_neg (h := h + 1) hO t1 (by omega) (fun M1 em _ => ⟨rfl, ?_⟩)
        unfold DX6_work_116
        have e2 : Int32.ofNat pr.length + 1 = Int32.ofNat (pr ++ [4]).length := by
          rw [succ32, List.length_append]
          rfl
        rw [e2]
        refine go (pr ++ [4]) M1 (-(w e)) ec ie.neg ?_ (WcZ.j em) ?_ ?_
        · rw [ecs, List.append_assoc]; rfl
        · rw [em]; exact hf
        · rw [es]
          refine StS.put (fun y hy => hbs y (by rw [es0]; exact hy)) ?_ ?_ (fun j hj => ?_)
          · rw [em]; exact t1
          · rw [em]
            show up2 (mAJ M) stc s1.length _ stc s1.length = _
            rw [up2_eq, t2]
          · rw [em]
            show up2 (mAJ M) stc s1.length _ stc (s1.length - 1 - j) = _
            rw [up2_ne (fun z => by omega)]
            exact hS.low hj
      · rw [c0] at z
        exact absurd (by decide) z
    · unfold DX6_work_12
      rw [lp]
      obtain ⟨z0, z3, z4⟩ := opC_3 ht.1 ht.2
      have ecd : cdN d = [opC d.1] := cdN_b ht.1 ht.2
      rw [ecd] at ecs
      have ecs : cs = pr ++ opC d.1 :: L := ecs
      have pl : pr.length + 1 ≤ cs.length := by rw [ecs, List.length_append]; show _ ≤ pr.length + (L.length + 1); omega
      have c0 : mAI M cc pr.length = opC d.1 := by rw [hc _ (by omega), ecs, gA0]
      have vp : vp_in (Int32.ofNat pr.length) (mL M cc) := vp_of (by omega) (by omega)
      have ek := hb e (by rw [hs1]; exact List.mem_cons_of_mem _ List.mem_cons_self)
      rw [hs1] at hS
      obtain ⟨t1, t2⟩ := hS.top
      have t3 : mAJ M stc s1.length = w e := by
        have := hS.low (j := 0) (Nat.succ_pos _)
        exact this
      have t2 : mAJ M stc (s1.length + 1) = w a := t2
      have s41 : s1.length + 2 ≤ 40 := by rw [hs1] at hs40; exact hs40
      have e1 : ndW d vr sg w = opWk d.1 (w e) (w a) := by
        unfold ndW
        rw [if_neg (by omega), if_neg (by omega), if_neg (by omega), hd, i6n_of (by omega), ha]
      have es0 : s0 = s1 := by rw [es] at e0; exact (List.cons.inj e0).2.symm
      refine ⟨fun z => absurd z n0, fun _ => ⟨o8, fun z => ?_, fun _ => ⟨cc, f0, oc, vp, fun z => absurd (c0 ▸ z) z0, fun _ => ⟨fun z => absurd hf z, fun _ => ⟨cc, f0, oc, vp, fun _ => ⟨cc, f0, oc, vp, fun _ => ⟨cc, f0, oc, vp, ?_⟩, fun z => absurd (c0 ▸ z) z4⟩, fun z => ?_⟩⟩⟩⟩⟩
      · rw [i1, le32 (by omega) (by omega)] at z; omega
      · rw [c0]
        refine S_comb (h := h) (t := d.1) hO t1 (by omega) ht.1 ht.2 (fun M2 em => ?_)
        rw [t2, t3, ← e1]
        have k2 : WcZ sc stc M M2 := WcZ.i (Or.inl rfl) em
        refine ⟨fun nz _ => ⟨rfl, ?_⟩, fun ez => ⟨fun ir _ => ⟨rfl, ?_⟩, fun ir _ => ⟨rfl, ?_⟩⟩⟩
        · unfold DX6_work_116
          rw [succ32]
          have n1 := (ndW_1 (d := d) (vr := vr) (sg := sg) (w := w)).resolve_left nz
          refine bad _ _ 1 0 ?_ (by decide) (by omega) (k2.tr (WcZ.i (Or.inr rfl) rfl)) up2_eq
          unfold ndC
          rw [if_neg (fun z => nz z.1), n1]
        · unfold DX6_work_116
          have e2 : Int32.ofNat pr.length + 1 = Int32.ofNat (pr ++ [opC d.1]).length := by
            rw [succ32, List.length_append]
            rfl
          rw [e2]
          refine go (pr ++ [opC d.1]) _ (ndW d vr sg w).2 ?_ ir ?_ (k2.tr (WcZ.j rfl)) ?_ ?_
          · unfold ndC
            rw [if_neg (fun z => z.2 ir), ← ez]
          · rw [ecs, List.append_assoc]; rfl
          · show mI M2 sc 4 = 0
            rw [em, mI_wI, if_neg (by omega)]; exact hf
          · rw [es]
            refine StS.put (fun y hy => hbs y (by rw [es0]; exact hy)) ?_ ?_ (fun j hj => ?_)
            · show mI M2 sc 3 = _
              rw [em]; exact up2_eq
            · exact up2_eq
            · show up2 (mAJ M2) stc s1.length _ stc (s1.length - 1 - j) = _
              rw [up2_ne (fun z => by omega), em]
              have := hS.low (j := j + 1) (Nat.succ_lt_succ hj)
              have e9 : (e :: s1).length - 1 - (j + 1) = s1.length - 1 - j := by show s1.length + 1 - 1 - (j + 1) = _; omega
              rw [e9] at this
              exact this
        · unfold DX6_work_116
          rw [succ32]
          refine bad _ _ 2 (ndW d vr sg w).2 ?_ (by decide) (by omega) (k2.tr (WcZ.i (Or.inr rfl) rfl)) up2_eq
          unfold ndC
          rw [if_pos ⟨ez, ir⟩]
      · rw [c0] at z
        exact absurd z3 z
/-- a sum is worked by the class -/
theorem S_work {f c : Nat} {pr po : List Int32} (hl : X.length ≤ 810) (hc : f ≤ c ∧ c < X.length) (hg : GdS X 40 (c + 1 - f) f [] [c]) (ecs : cs = pr ++ (cdL ((X.drop f).take (c + 1 - f)) ++ 0 :: po)) (hO : SmO M sc cc stc cs) (hr : RwI M rw vr sg) (K : ∀ M', WcZ sc stc M M' → mI M' sc 4 = (smV X vr sg f c).1 → InG (smV X vr sg f c).2 → Q (some (.int ((smV X vr sg f c).2).toInt32)) M') : E (h + 4) mdX6_work [.ref sc, .int (Int32.ofNat pr.length), .ref rw] M Q := by
  refine KX6_work (h := h + 3) ?_
  unfold DX6_work_0
  refine ⟨hO.1.1, fun M2 e2 M3 e3 => ?_⟩
  have k3 : WcZ sc stc M M3 := by
    rw [e3, e2]
    exact (WcZ.i (Or.inr rfl) rfl).tr (WcZ.i (Or.inl rfl) rfl)
  have i4 : mI M3 sc 4 = 0 := by rw [e3, mI_wI, if_neg (by omega), e2]; exact up2_eq
  have i3 : mI M3 sc 3 = 0 := by rw [e3]; exact up2_eq
  refine S_wkL (h := h + 1) (c := c) (po := po) hl (c + 1 - f) f pr [] (fun _ => 0) M3 Q ecs hg (by omega) (by decide) (fun e he => absurd he List.not_mem_nil) (fun e he => absurd he List.not_mem_nil) (hO.wc k3) (hr.wc k3) i4 ⟨i3, fun j hj => absurd hj (Nat.not_lt_zero _)⟩ (fun M' k' e1 e4 => ?_)
  have q := K M' (k3.tr k') e1
  unfold smV at q
  by_cases z : (wkZ X vr sg (c + 1 - f) f (fun _ => 0)).1 = 0
  · rw [if_pos z] at q ⊢
    exact q (e4 z)
  · rw [if_neg z] at q ⊢
    exact q (InG.n (v := 0) (by decide))
end
