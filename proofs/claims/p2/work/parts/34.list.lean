/-! lists: modCount under its two names; clear of an empty one -/
theorem wJx_63 : Cond.fieldLink RJx4a65c 63 "java/util/ArrayList" "modCount" "I" ∈ TB := tbL tbk_1 54 (by decide +kernel) rfl
theorem wJx_same : Cond.sameField "java/util/ArrayList" "java/util/AbstractList" "modCount" "I" ∈ TB := tbL tbk_1 55 (by decide +kernel) rfl
section
variable {h : Nat} {d : MD} {pc : Nat} {lv : List (Nat × Value)} {st : List Value} {M : Mem} {Q : Option Value → Mem → Prop}
theorem xt_mcG {a : Nat} (hd : decode d.2.1 pc = .ok (.getfield 63, 3)) (hc : d.1.cls = RJx4a65c) (ha : ok M a 1) (kk : T h d (pc + 3) lv (.int (mI M a 0) :: st) M Q) : T h d pc lv (.ref a :: st) M Q :=
  kk.rd (fun p l e R s m args below meth c D cy ad H locs cells slots Q ls hx hb hw hts hK hP w => va_get (D := D) (own := d.1.cls) (ref := "java/util/ArrayList") (C := (cls 1).1) (T := (cls 1).2.1) (N := (cls 1).2.2) hx hb hts clk_1.2.2.2 hw hK hP a ((mW_at ha.1).trans (by rw [cE_obj ha.2 (by decide)])) clk_1.1 0 (by decide) (hts _ (by rw [hc]; exact wJx_63)) (fun x q => u_same (hts _ wJx_same) x q) ((rg_at (by decide)).trans (by rw [fV, if_pos ft_1_0]; rfl)) hd w)
theorem xt_mcP {a : Nat} {v : Int32} (hd : decode d.2.1 pc = .ok (.putfield 63, 3)) (hc : d.1.cls = RJx4a65c) (ha : ok M a 1) (kk : T h d (pc + 3) lv st (wI M a 0 v) Q) : T h d pc lv (.int v :: .ref a :: st) M Q :=
  kk.wr rfl rfl (fun b _ => ⟨rfl, rfl⟩) (fun p l e R s m args below meth c D cy ad A H locs cells slots Q ls hx hb hw hin hts hK hP hD hS w => by
    have e1 : (mW cy ad M)[a]? = some (ad a, .inr (1, (List.range (cls 1).2.2).map (fV ad M 1 a))) := (mW_at ha.1).trans (by rw [cE_obj ha.2 (by decide)])
    have e2 : (mW cy ad M).set a (ad a, .inr (1, ((List.range (cls 1).2.2).map (fV ad M 1 a)).set 0 (cv ad (.int v)))) = mW cy ad (wI M a 0 v) := by
      rw [rg_set (g2 := fV ad (wI M a 0 v) 1 a) (by rw [fV, if_pos ft_1_0]; show Value.int (up2 (mI M) a 0 v a 0) = _; rw [up2_eq]; rfl) (fun j hj => by unfold fV; show (if _ then Value.int (up2 (mI M) a 0 v a j) else _) = _; rw [up2_ne (fun q => hj q.2)]; rfl), ← mW_set (M := M) (M2 := wI M a 0 v) rfl (fun b _ hb2 => by unfold cE; show (if mK M b < 20 then _ else _) = _; have e : fV ad (wI M a 0 v) (mK M b) b = fV ad M (mK M b) b := by { funext j; unfold fV; show (if _ then Value.int (up2 (mI M) a 0 v b j) else _) = _; rw [up2_row hb2]; rfl }; rw [show mK (wI M a 0 v) b = mK M b from rfl, e]; rfl), cE_obj (M := wI M a 0 v) ha.2 (by decide)]
    have hl : 0 < ((List.range (cls 1).2.2).map (fV ad M 1 a)).length := by simp; decide
    refine va_put (D := D) (own := d.1.cls) (ref := "java/util/ArrayList") (C := (cls 1).1) (T := (cls 1).2.1) (N := (cls 1).2.2) hx hb hts clk_1.2.2.2 (tyC 1) clk_1.2.1 clk_1.2.2.1 hw hK hP hD hS a e1 clk_1.1 0 (by decide) (hts _ (by rw [hc]; exact wJx_63)) (fun x q => u_same (hts _ wJx_same) x q) rfl (clk_1.2.1 0 (by decide)) rfl rfl hl hd (fun H1 locs1 hP1 hD1 hS1 => ?_)
    rw [e2] at hP1 hD1
    exact w H1 locs1 hP1 hD1 hS1)
end
theorem S_clear0 {h a b : Nat} {M : Mem} {Q : Option Value → Mem → Prop} (ha : ok M a 1) (hr : mR M a 1 = some b) (hs : mI M a 2 = 0) (H : Q none (wI (wI M a 0 (mI M a 0 + 1)) a 2 0)) : E (h + 1) mdJx4a65c_clear_da8c8 [.ref a] M Q := by
  refine E.of (by decide) (Nat.le_of_ble_eq_true rfl) (fun _ _ _ => trivial) ?_
  show T _ _ 0 [(0, .ref a)] [] M _
  refine xt_aload_n (j := 0) dJx4a65c_clear_da8c8_0 rfl rfl ?_
  refine xt_dup dJx4a65c_clear_da8c8_1 rfl ?_
  refine xt_mcG dJx4a65c_clear_da8c8_2 rfl ha ?_
  refine xt_iconst (v := 1) dJx4a65c_clear_da8c8_5 (by decide) ?_
  refine xt_iadd dJx4a65c_clear_da8c8_6 ?_
  refine xt_mcP dJx4a65c_clear_da8c8_7 rfl ha ?_
  refine xt_aload_n (j := 0) dJx4a65c_clear_da8c8_10 rfl rfl ?_
  refine xt_getR (b := b) dJx4a65c_clear_da8c8_11 (flJx4a65c_9 rfl) ft_1_1 ha.1 ha.2 hr ?_
  refine xt_astore_n (i := 1) (lv' := [(1, .ref b), (0, .ref a)]) dJx4a65c_clear_da8c8_14 rfl (by show (_ : Nat) < 4; decide) rfl ?_
  refine xt_aload_n (j := 1) dJx4a65c_clear_da8c8_15 rfl rfl ?_
  refine xt_getI dJx4a65c_clear_da8c8_16 (flJx4a65c_48 rfl) ft_1_2 ha.1 ha.2 ?_
  refine xt_istore_n (i := 2) (lv' := [(2, .int (mI (wI M a 0 (mI M a 0 + 1)) a 2)), (1, .ref b), (0, .ref a)]) dJx4a65c_clear_da8c8_19 rfl (by show (_ : Nat) < 4; decide) rfl ?_
  refine xt_aload_n (j := 2) dJx4a65c_clear_da8c8_20 rfl rfl ?_
  refine xt_iconst (v := 0) dJx4a65c_clear_da8c8_21 (by decide) ?_
  refine xt_dup_x1 dJx4a65c_clear_da8c8_22 rfl rfl ?_
  refine xt_putI dJx4a65c_clear_da8c8_23 (flJx4a65c_48 rfl) rfl rfl ha.1 ha.2 ?_
  refine xt_istore_n (i := 3) (lv' := [(3, .int 0), (2, .int (mI (wI M a 0 (mI M a 0 + 1)) a 2)), (1, .ref b), (0, .ref a)]) dJx4a65c_clear_da8c8_26 rfl (by show (_ : Nat) < 4; decide) rfl ?_
  refine xt_iload_n (j := 0) dJx4a65c_clear_da8c8_27 rfl rfl ?_
  refine xt_iload_n (j := 1) dJx4a65c_clear_da8c8_28 rfl rfl ?_
  refine xt_icmp_ge (tgt := 42) dJx4a65c_clear_da8c8_29 (by decide) (fun hc => ?_) (fun hc => ?_)
  · exact xt_return dJx4a65c_clear_da8c8_42 rfl H
  · exact absurd (by rw [show mI (wI M a 0 (mI M a 0 + 1)) a 2 = mI M a 2 from up2_ne (by simp), hs]; decide) hc
