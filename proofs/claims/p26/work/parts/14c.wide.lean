/-! a call over up to sixteen words of operand stack; LANE_BITS; the law's script -/
theorem gsX5_82 {d : MD} (hc : d.1.cls = RX5) : Cond.fieldLink d.1.cls 82 "BeatMill$Search" "LANE_BITS" "[I" ∈ TB := by rw [hc]; exact tbL tbk_7 127 (by decide +kernel) rfl
theorem lv_room16 {m : MethodId} {pc : Nat} {ls : Array Slot} {rest st : List Value} (h : (st.map fun v => v.category).sum ≤ 16) : 2 * (F0 m pc ls rest).monitorRoom + (st.map fun v => v.category).sum ≤ 16 := by
  have h1 := lv_room (m := m) (pc := pc) (ls := ls) (rest := rest) (st := []) (by decide)
  have h2 : (F0 m pc ls rest).monitorRoom = 0 := rfl
  omega
theorem xt_callVw {h : Nat} {d : MD} {pc : Nat} {lv : List (Nat × Value)} {st : List Value} {M : Mem} {Q : Option Value → Mem → Prop} {d2 : MD} {idx h2 n b : Nat} {as : List Value} {P : Option Value → Mem → Prop} (hd : decode d.2.1 pc = .ok (.invokevirtual idx, 3)) (hm : ml d idx 0 n d2) (hn : as.length = n) (hb : b < mN M) (hk : (cls (mK M b)).1 = d2.1.cls ∧ mK M b < 14) (hc : (st.map fun v => v.category).sum ≤ 16) (hh : h2 + 1 ≤ h) (hE : E h2 d2 (.ref b :: as) M P) (kk : ∀ r M1, P r M1 → mE M M1 → T h d (pc + 3) lv (r.toList ++ st) M1 Q) (hL : d2.2.2.1 ≤ 90 := by decide) : T h d pc lv (as.reverse ++ .ref b :: st) M Q :=
  call_any hh hE kk (fun p l e R s m args below meth c D cy ad H locs cells slots mc ms Pc Qc free ls hx hb1 hml hw hts hnw hK hP hls hM hf hlo hbl hpre hcs => by
    have hc1 : vwCl[mK M b]? = some (cls (mK M b)) := by
      unfold cls
      rw [List.getD_eq_getElem?_getD]
      have : mK M b < vwCl.length := hk.2
      rw [List.getElem?_eq_getElem this]; rfl
    have hrec := va_recv (s := s) (H := H) hK hP hc1 ((mW_at hb).trans (by rw [cE_obj rfl (by omega)]))
    rw [hk.1] at hrec
    obtain ⟨cellB, hcB, hoB, hclB⟩ := hrec
    have hG := wsm_good hm.1
    have hini := hts _ hm.2.2.2.1
    have hBk : Back l R p e below s args d2.1 3 16 (PreOf R mc ms Pc) (PostOf Qc mc ms free) :=
      back_of (bytes := d2.2.1) (maxL := d2.2.2.1) (ret := d2.2.2.2.1) hM hbl rfl rfl hf (by show 16 + (d2.2.2.1 + 11) + 120 * h2 ≤ R.locals; omega) (pay_in hts hG) List.mem_cons_self (fun a' U hW => word_at hW (Or.inl (by first | rfl | simp [Cond.onTables, Cond.keeps, Cond.steady])) hini)
    intro T hT X
    obtain ⟨v, vm₁, ⟨U', l2, c2, s2⟩, hW₁, X', ⟨g', mk, t, L, e1, e2, hq, h1, hL2, h2, h3⟩, st2⟩ := callV X hx (C := d2.1.cls) (bytes := d2.2.1) (maxL := d2.2.2.1) (ret := d2.2.2.2.1) hw (hts _ hm.2.2.2.2.1) (hts _ hm.2.2.2.2.2.1) (hts _ hm.2.2.2.2.2.2) (hts _ hm.1) ⟨hm.2.1.1, hm.2.1.2.1⟩ hBk (by rw [hT]; exact hcB) hoB hclB (g := F0 m pc ls ((as.reverse ++ .ref b :: st).map (cv ad))) rfl (hls.trans hml.symm) (argsL := as.map (cv ad)) (rest := st.map (cv ad)) (fun sig hsg => by
        have h9 := hm.2.1.2.2
        rw [hsg] at h9
        rw [List.length_map, hn]
        exact (Option.some.inj h9).symm) (by show (as.reverse ++ .ref b :: st).map (cv ad) = _; rw [List.map_append, List.map_reverse]; rfl) (lv_room16 (by rw [cat_sum]; exact hc)) (by rw [hb1]; exact hd) (fun vm₁ hW₁ => ⟨hcs.1, hcs.2, hpre (T.setVm vm₁) hT hW₁⟩)
    dsimp only [Pt.U, Pt.locs, Pt.cells, Pt.slots] at X' e1 e2 h1 h2 h3 st2
    subst h1; subst h2; subst h3
    exact ⟨v, (T.setVm vm₁).calling g' mk (Value.ref (ad b) :: as.map (cv ad)).toArray, t, U', L, hT, X', hL2, e1, e2, hq, st2⟩)
/-- the law, with its script of L ints xs as the special cell 0 -/
def mdL (L : Nat) (xs : Nat → Int32) : MD := (yL_law, cL_law, 4, some .boolean, fun s A sp => va_X (sp 0) L xs s s.heap ∧ ¬ A (sp 0) ∧ sp 0 < s.heap.size)
section LW
variable {h : Nat} {pc L : Nat} {xs : Nat → Int32} {lv : List (Nat × Value)} {st : List Value} {M : Mem} {Q : Option Value → Mem → Prop}
theorem xt_sld {i : Int32} (hd : decode (mdL L xs).2.1 pc = .ok (.iaload, 1)) (hi : vp_in i L) (kk : T h (mdL L xs) (pc + 1) lv (.int (xs i.toNatClampNeg) :: st) M Q) : T h (mdL L xs) pc lv (.int i :: .ref (mBig + 0) :: st) M Q :=
  kk.rdS (fun p l e R s m args below meth c D cy ba sp A H locs cells slots Q ls hx hb hw hts hK hP hS hZ hG w => by
    rw [cv_sp2]
    exact va_sld hx hb hG.1 hG.2.2 hG.2.1 hS hi hd w)
theorem xt_slen (hd : decode (mdL L xs).2.1 pc = .ok (.arraylength, 1)) (kk : T h (mdL L xs) (pc + 1) lv (.int (Int32.ofNat L) :: st) M Q) : T h (mdL L xs) pc lv (.ref (mBig + 0) :: st) M Q :=
  kk.rdS (fun p l e R s m args below meth c D cy ba sp A H locs cells slots Q ls hx hb hw hts hK hP hS hZ hG w => by
    rw [cv_sp]
    exact va_slen hx hb hG.1 hG.2.2 hG.2.1 hS hd w)
end LW
/-- a row of an int[][] -/
theorem xt_aaldI {h : Nat} {d : MD} {pc : Nat} {lv : List (Nat × Value)} {st : List Value} {M : Mem} {Q : Option Value → Mem → Prop} {a b : Nat} {i : Int32} (hd : decode d.2.1 pc = .ok (.aaload, 1)) (ha : a < mN M) (hk : mK M a = 25) (hi : vp_in i (mL M a)) (hv : mAR M a i.toNatClampNeg = some b) (kk : T h d (pc + 1) lv (.ref b :: st) M Q) : T h d pc lv (.int i :: .ref a :: st) M Q :=
  kk.rd (fun p l e R s m args below meth c D cy ad H locs cells slots Q ls hx hb hw hts hK hP w => by
    have ha2 : (mW cy ad M)[a]? = some (ad a, .inl (cy 25, mL M a, .inr (.inr (.inr (.inr (fun j => (mAR M a j).map ad)))))) := (mW_at ha).trans (by rw [cE_arrR hk (by decide)])
    have hlt : i.toNatClampNeg < mL M a := Nat.not_le.mp fun q => hi (Or.inr q)
    exact W.aald (v := va_rf ((mAR M a i.toNatClampNeg).map ad)) (ty := .array .int) hx hb (hP a _ ha2) ((hK.2 5 _ rfl).1 (mL M a) (fun j => va_rf ((mAR M a j).map ad))) rfl (fun q => by cases q) (by show ¬ (i < 0 ∨ (arrV _ _ _).slots.size ≤ _); rw [arrV_size]; exact hi) (by show (arrV _ _ _).slots[_]? = _; rw [arrV_read _ _ hlt]) rfl rfl hd (by rw [hv]; exact w))
