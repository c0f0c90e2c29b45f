/-! what lies beside the memory: Strings, statics, cached Integers, the law's script: cells from mBig on -/
theorem adf_sp {ba : Nat} {sp : Nat → Nat} (j : Nat) : adf ba sp (mBig + j) = sp j := by
  unfold adf
  rw [if_neg (by omega), Nat.add_sub_cancel_left]
theorem cv_sp {ba : Nat} {sp : Nat → Nat} (j : Nat) (st : List Value) : (Value.ref (mBig + j) :: st).map (cv (adf ba sp)) = .ref (sp j) :: st.map (cv (adf ba sp)) := by
  show Value.ref (adf ba sp (mBig + j)) :: _ = _
  rw [adf_sp]
section SPR
variable {h : Nat} {d : MD} {pc : Nat} {lv : List (Nat × Value)} {st : List Value} {M : Mem} {Q : Option Value → Mem → Prop}
theorem T.rdS {pc' : Nat} {st' : List Value} (k : T h d pc' lv st' M Q)
    (step : ∀ (p : Program) (l : Launch) (e : Env) (R : Room) (s : State) (m : MethodId) (args : Array Value) (below : List Frame) (meth : Method) (c : Code) (D : va_G) (cy : Nat → ClassId) (ba : Nat) (sp : Nat → Nat) (A : Nat → Prop) (H : Heap) (locs : List Loc) (cells slots : Nat) (Q : State → Prop) (ls : Array Slot), p.tables.exec = Jvm.exec → c.code = d.2.1 → s.vm.findClass d.1.cls = some m.cls → (∀ w ∈ TB, w.before args s = true) → va_K D vwCl (mT cy) s → va_P D vwCl (mW cy (adf ba sp) M) H → va_S A s.heap H locs → SPH sp A s → d.2.2.2.2 s A sp →
      W p l e R s m args below meth c H locs cells slots Q (F0 m pc' ls (st'.map (cv (adf ba sp)))) → W p l e R s m args below meth c H locs cells slots Q (F0 m pc ls (st.map (cv (adf ba sp))))) : T h d pc lv st M Q := by
  obtain ⟨r, M', hv, hq⟩ := k
  exact ⟨r, M', ⟨hv.1, fun hb p l e s m args below meth c D cy A M0 ba sp H locs ls X h1 hP hD hS hl => step p l e _ s m args below meth c D cy ba sp A H locs _ _ _ ls X.1 X.2.1 X.2.2.2.1 X.2.2.2.2.2.2.2.1 X.2.2.2.2.2.2.2.2.1 hP hS X.2.2.2.2.2.2.2.2.2.2.2.1.2 X.2.2.2.2.2.2.2.2.2.2.2.2.2 (hv.2 hb p l e s m args below meth c D cy A M0 ba sp H locs ls X h1 hP hD hS hl)⟩, hq⟩
theorem xt_ldcK (hd : decode d.2.1 pc = .ok (.ldc 29, 2)) (hc : d.1.cls = RX7) (kk : T h d (pc + 2) lv (.ref (mBig + 1) :: st) M Q) : T h d pc lv st M Q :=
  kk.rdS (fun p l e R s m args below meth c D cy ba sp A H locs cells slots Q ls hx hb hw hts hK hP hS hZ hG w => by
    rw [cv_sp] at w
    rw [hc] at hw
    exact va_ldcS hx hb hw hZ.1.1 hd w)
theorem xt_ldcG (hd : decode d.2.1 pc = .ok (.ldc 113, 2)) (hc : d.1.cls = RX7) (kk : T h d (pc + 2) lv (.ref (mBig + 2) :: st) M Q) : T h d pc lv st M Q :=
  kk.rdS (fun p l e R s m args below meth c D cy ba sp A H locs cells slots Q ls hx hb hw hts hK hP hS hZ hG w => by
    rw [cv_sp] at w
    rw [hc] at hw
    exact va_ldcS hx hb hw hZ.1.2 hd w)
theorem xt_gsC {idx : Nat} (hd : decode d.2.1 pc = .ok (.getstatic idx, 3)) (hm : Cond.fieldLink d.1.cls idx "java/lang/String" "COMPACT_STRINGS" "Z" ∈ TB) (kk : T h d (pc + 3) lv (.int 1 :: st) M Q) : T h d pc lv st M Q :=
  kk.rdS (fun p l e R s m args below meth c D cy ba sp A H locs cells slots Q ls hx hb hw hts hK hP hS hZ hG w => va_gets hx hb hZ.2.2.1 hS hw (hts _ hm) (fun _ q => q) hd w)
theorem xt_gsE {idx : Nat} (hd : decode d.2.1 pc = .ok (.getstatic idx, 3)) (hm : Cond.fieldLink d.1.cls idx "java/util/ArrayList" "DEFAULTCAPACITY_EMPTY_ELEMENTDATA" "[Ljava/lang/Object;" ∈ TB) (kk : T h d (pc + 3) lv (.ref (mBig + 5) :: st) M Q) : T h d pc lv st M Q :=
  kk.rdS (fun p l e R s m args below meth c D cy ba sp A H locs cells slots Q ls hx hb hw hts hK hP hS hZ hG w => by
    rw [cv_sp] at w
    exact va_gets hx hb hZ.2.2.2.1.1 hS hw (hts _ hm) (fun _ q => q) hd w)
theorem xt_gsL {idx : Nat} (hd : decode d.2.1 pc = .ok (.getstatic idx, 3)) (hm : Cond.fieldLink d.1.cls idx "BeatMill$Search" "LANE_BITS" "[I" ∈ TB) (kk : T h d (pc + 3) lv (.ref (mBig + 6) :: st) M Q) : T h d pc lv st M Q :=
  kk.rdS (fun p l e R s m args below meth c D cy ba sp A H locs cells slots Q ls hx hb hw hts hK hP hS hZ hG w => by
    rw [cv_sp] at w
    exact va_gets hx hb hZ.2.2.2.2.1.1 hS hw (hts _ hm) (fun _ q => q) hd w)
theorem xt_gsH {idx : Nat} (hd : decode d.2.1 pc = .ok (.getstatic idx, 3)) (hm : Cond.fieldLink d.1.cls idx "java/lang/Integer$IntegerCache" "high" "I" ∈ TB) (kk : T h d (pc + 3) lv (.int 127 :: st) M Q) : T h d pc lv st M Q :=
  kk.rdS (fun p l e R s m args below meth c D cy ba sp A H locs cells slots Q ls hx hb hw hts hK hP hS hZ hG w => va_gets hx hb hZ.2.2.2.2.2.1.1 hS hw (hts _ hm) (fun _ q => q) hd w)
theorem xt_gsI {idx : Nat} (hd : decode d.2.1 pc = .ok (.getstatic idx, 3)) (hm : Cond.fieldLink d.1.cls idx "java/lang/Integer$IntegerCache" "cache" "[Ljava/lang/Integer;" ∈ TB) (kk : T h d (pc + 3) lv (.ref (mBig + 7) :: st) M Q) : T h d pc lv st M Q :=
  kk.rdS (fun p l e R s m args below meth c D cy ba sp A H locs cells slots Q ls hx hb hw hts hK hP hS hZ hG w => by
    rw [cv_sp] at w
    exact va_gets hx hb hZ.2.2.2.2.2.1.2.1 hS hw (hts _ hm) (fun _ q => q) hd w)
theorem xt_strV {idx i : Nat} (hd : decode d.2.1 pc = .ok (.getfield idx, 3)) (hm : Cond.fieldLink d.1.cls idx "java/lang/String" "value" "[B" ∈ TB) (hi : i < 2) (kk : T h d (pc + 3) lv (.ref (mBig + (3 + i)) :: st) M Q) : T h d pc lv (.ref (mBig + (1 + i)) :: st) M Q :=
  kk.rdS (fun p l e R s m args below meth c D cy ba sp A H locs cells slots Q ls hx hb hw hts hK hP hS hZ hG w => by
    rw [cv_sp] at w ⊢
    exact vk_getf hx hb (hZ.2.1.1 i hi).2.2.1 hS hw (hts _ hm) (fun _ q => q) hd w)
theorem xt_strC {idx i : Nat} (hd : decode d.2.1 pc = .ok (.getfield idx, 3)) (hm : Cond.fieldLink d.1.cls idx "java/lang/String" "coder" "B" ∈ TB) (hi : i < 2) (kk : T h d (pc + 3) lv (.int 0 :: st) M Q) : T h d pc lv (.ref (mBig + (1 + i)) :: st) M Q :=
  kk.rdS (fun p l e R s m args below meth c D cy ba sp A H locs cells slots Q ls hx hb hw hts hK hP hS hZ hG w => by
    rw [cv_sp]
    exact vk_getf hx hb (hZ.2.1.1 i hi).2.1 hS hw (hts _ hm) (fun _ q => q) hd w)
theorem cv_sp2 {ba : Nat} {sp : Nat → Nat} (x : Int32) (j : Nat) (st : List Value) : (Value.int x :: Value.ref (mBig + j) :: st).map (cv (adf ba sp)) = .int x :: .ref (sp j) :: st.map (cv (adf ba sp)) := by
  show Value.int x :: Value.ref (adf ba sp (mBig + j)) :: _ = _
  rw [adf_sp]
theorem xt_spB {i : Nat} {k : Int32} (hd : decode d.2.1 pc = .ok (.baload, 1)) (hi : i < 2) (hk : vp_in k ([176, 12].getD i 0)) (kk : T h d (pc + 1) lv (.int ((txB.getD i []).getD k.toNatClampNeg 0) :: st) M Q) : T h d pc lv (.int k :: .ref (mBig + (3 + i)) :: st) M Q :=
  kk.rdS (fun p l e R s m args below meth c D cy ba sp A H locs cells slots Q ls hx hb hw hts hK hP hS hZ hG w => by
    rw [cv_sp2]
    exact va_tb hx hb (hZ.2.1.1 i hi).2.2.2 hS hk rfl hd w)
theorem xt_spBl {i : Nat} (hd : decode d.2.1 pc = .ok (.arraylength, 1)) (hi : i < 2) (kk : T h d (pc + 1) lv (.int (Int32.ofNat ([176, 12].getD i 0)) :: st) M Q) : T h d pc lv (.ref (mBig + (3 + i)) :: st) M Q :=
  kk.rdS (fun p l e R s m args below meth c D cy ba sp A H locs cells slots Q ls hx hb hw hts hK hP hS hZ hG w => by
    rw [cv_sp]
    exact va_tlen hx hb (hZ.2.1.1 i hi).2.2.2 hS rfl hd w)
theorem xt_spL {k : Int32} (hd : decode d.2.1 pc = .ok (.iaload, 1)) (hk : vp_in k 5) (kk : T h d (pc + 1) lv (.int (laneB.getD k.toNatClampNeg 0) :: st) M Q) : T h d pc lv (.int k :: .ref (mBig + 6) :: st) M Q :=
  kk.rdS (fun p l e R s m args below meth c D cy ba sp A H locs cells slots Q ls hx hb hw hts hK hP hS hZ hG w => by
    rw [cv_sp2]
    exact va_ti hx hb hZ.2.2.2.2.1.2 hS hk rfl hd w)
theorem xt_spLl (hd : decode d.2.1 pc = .ok (.arraylength, 1)) (kk : T h d (pc + 1) lv (.int 5 :: st) M Q) : T h d pc lv (.ref (mBig + 6) :: st) M Q :=
  kk.rdS (fun p l e R s m args below meth c D cy ba sp A H locs cells slots Q ls hx hb hw hts hK hP hS hZ hG w => by
    rw [cv_sp]
    exact va_tlen hx hb hZ.2.2.2.2.1.2 hS rfl hd w)
theorem xt_spEl (hd : decode d.2.1 pc = .ok (.arraylength, 1)) (kk : T h d (pc + 1) lv (.int 0 :: st) M Q) : T h d pc lv (.ref (mBig + 5) :: st) M Q :=
  kk.rdS (fun p l e R s m args below meth c D cy ba sp A H locs cells slots Q ls hx hb hw hts hK hP hS hZ hG w => by
    rw [cv_sp]
    exact va_tlen hx hb hZ.2.2.2.1.2 hS rfl hd w)
theorem xt_spI {k : Int32} (hd : decode d.2.1 pc = .ok (.aaload, 1)) (hk : vp_in k 256) (kk : T h d (pc + 1) lv (.ref (mBig + (1000 + k.toNatClampNeg)) :: st) M Q) : T h d pc lv (.int k :: .ref (mBig + 7) :: st) M Q :=
  kk.rdS (fun p l e R s m args below meth c D cy ba sp A H locs cells slots Q ls hx hb hw hts hK hP hS hZ hG w => by
    rw [cv_sp] at w
    rw [cv_sp2]
    exact vb_tq hx hb hZ.2.2.2.2.2.1.2.2.1 hS hk rfl hd w)
theorem xt_intX {idx k : Nat} (hd : decode d.2.1 pc = .ok (.getfield idx, 3)) (hm : Cond.fieldLink d.1.cls idx "java/lang/Integer" "value" "I" ∈ TB) (hk : k < 256) (kk : T h d (pc + 3) lv (.int (vb_c k) :: st) M Q) : T h d pc lv (.ref (mBig + (1000 + k)) :: st) M Q :=
  kk.rdS (fun p l e R s m args below meth c D cy ba sp A H locs cells slots Q ls hx hb hw hts hK hP hS hZ hG w => by
    rw [cv_sp]
    exact va_getX (i := k) (ad := fun k => sp (1000 + k)) hx hb hZ.2.2.2.2.2.1.2.2.2.2 hk hS hw (hts _ hm) (fun _ q => q) hd w)
theorem va_O_now {E : String} {t : Nat} {A : Nat → Prop} {s : State} {H : Heap} {locs : List Loc} (hO : va_O E t A s s.heap) (hS : va_S A s.heap H locs) : ∃ cell : Cell, H[t]? = some cell ∧ cell.vm.isStatics = false ∧ s.vm.findClass E = some cell.cls := by
  obtain ⟨cell, h1, h2, h3, h4⟩ := hO
  have hlt : t < s.heap.size := by
    rcases Nat.lt_or_ge t s.heap.size with q | q
    · exact q
    · rw [Array.getElem?_eq_none q] at h1; cases h1
  exact ⟨cell, (hS.2.1 t hlt h4).trans h1, h2, h3⟩
theorem xt_castX {idx k : Nat} (hd : decode d.2.1 pc = .ok (.checkcast idx, 3)) (hc : Cond.classLink d.1.cls idx "java/lang/Integer" ∈ TB) (hk : k < 256) (kk : T h d (pc + 3) lv (.ref (mBig + (1000 + k)) :: st) M Q) : T h d pc lv (.ref (mBig + (1000 + k)) :: st) M Q :=
  kk.rdS (fun p l e R s m args below meth c D cy ba sp A H locs cells slots Q ls hx hb hw hts hK hP hS hZ hG w => by
    rw [cv_sp] at w ⊢
    exact va_castE hx hb hw (hts _ hc) (va_O_now (hZ.2.2.2.2.2.1.2.2.2.1 k hk) hS) hd w)
theorem xt_acmpS {a : Nat} {off : Int} {tgt : Nat} (hd : decode d.2.1 pc = .ok (.if_acmp .eq off, 3)) (ht : (pc : Int) + off = (tgt : Int)) (kk : T h d tgt lv st M Q) : T h d pc lv (.ref a :: .ref a :: st) M Q :=
  kk.go (fun p l e R s m args below meth c H locs cells slots Q ad ls hx hb hl0 hw ht2 k2 => lv_acmp_eq (rx := some (ad a)) (ry := some (ad a)) hx hb hd ht (fun _ => k2 ls hl0) (fun q => absurd rfl q))
/-- a call of any kind, with what lies beside the memory -/
theorem call_anyS {d2 : MD} {h2 : Nat} {as : List Value} {P : Option Value → Mem → Prop} {st0 : List Value} (hh : h2 + 1 ≤ h) (hE : E h2 d2 as M P) (kk : ∀ r M1, P r M1 → mE M M1 → T h d (pc + 3) lv (r.toList ++ st) M1 Q)
    (step : ∀ (p : Program) (l : Launch) (e : Env) (R : Room) (s : State) (m : MethodId) (args : Array Value) (below : List Frame) (meth : Method) (c : Code) (D : va_G) (cy : Nat → ClassId) (ba : Nat) (sp : Nat → Nat) (A : Nat → Prop) (H : Heap) (locs : List Loc) (cells slots mc ms : Nat) (Pc : Array Value → State → Prop) (Qc : Array Value → State → Outcome → State → Prop) (free : Nat → Prop) (ls : Array Slot), p.tables.exec = Jvm.exec → c.code = d.2.1 → c.maxLocals = d.2.2.1 → s.vm.findClass d.1.cls = some m.cls → (∀ w ∈ TB, w.before args s = true) → (∀ w ∈ NWL, va_Nw w s) → va_K D vwCl (mT cy) s → va_P D vwCl (mW cy (adf ba sp) M) H → va_S A s.heap H locs → SPH sp A s → ls.size = d.2.2.1 →
      Met l d2.1 (wsm d2) (rmv h2 mc ms) Pc Qc mc ms free → h2 + 1 ≤ R.frames → 120 * (h2 + 1) ≤ R.locals → FrameBlind Pc → (∀ U : State, U.heap = H → s.WarmedH U.vm → Pc (as.map (cv (adf ba sp))).toArray U) → cells + mc ≤ R.cells ∧ slots + ms ≤ R.slots →
      va_Run p l e R s m args below meth c H locs cells slots mc ms (F0 m pc ls (st0.map (cv (adf ba sp)))) (st.map (cv (adf ba sp))) (Qc (as.map (cv (adf ba sp))).toArray) free) : T h d pc lv st0 M Q := by
  obtain ⟨r1, M1, hEv, hP1⟩ := hE
  obtain ⟨r, M', hv, hq⟩ := kk r1 M1 hP1 hEv.1
  refine ⟨r, M', ⟨hEv.1.tr hv.1, fun hb p l e s m args below meth c D cy A M0 ba sp H locs ls X h1 hP hD hS hl => ?_⟩, hq⟩
  have g1 := hEv.1.1
  have g2 := hEv.1.2.1
  have g3 := hv.1.1
  have g4 := hv.1.2.1
  have hsz := X.2.2.2.2.2.2.2.2.2.2.1
  refine W.bound (fun hz => ?_)
  have hHs : H.size = ba + mN M := by
    by_cases h0 : mN M = mN M0
    · have := hS.1; omega
    · have e1 : (mW cy (adf ba sp) M)[mN M - 1]? = some (adf ba sp (mN M - 1), cE cy (adf ba sp) M (mN M - 1)) := mW_at (by omega)
      have e2 := (hP _ _ e1).lt
      have e3 : adf ba sp (mN M - 1) = ba + (mN M - 1) := if_pos (by omega)
      have e4 : adf ba sp (mN M - 1) < H.size := e2
      omega
  have hsub : ∀ q, va_A (mW cy (adf ba sp) M) (ba + mN M) q → A q := by
    intro q hq2
    rcases hq2 with ⟨k, en, hk⟩ | hq2
    · exact hD.2 k _ hk
    · exact X.2.2.2.2.2.2.2.2.2.1 q (by omega)
  have hM := hEv.2 (by omega) l D cy ba sp
  refine x_call (step p l e _ s m args below meth c D cy ba sp A H locs _ _ _ _ _ _ _ ls X.1 X.2.1 X.2.2.1 X.2.2.2.1 X.2.2.2.2.2.2.2.1 X.2.2.2.2.2.2.2.2.2.2.2.1.1 X.2.2.2.2.2.2.2.2.1 hP hS X.2.2.2.2.2.2.2.2.2.2.2.1.2 hl.1 hM hh (by show 120 * (h2 + 1) ≤ 120 * h; omega) ?_ ?_ ⟨by show _ ≤ mN M' - mN M0; omega, by show _ ≤ mS M' - mS M0; omega⟩) hS hsub hsub (fun H1 locs1 hP2 hD2 hS2 => ?_)
  · intro a U g mk q
    obtain ⟨q1, q2, q3, q4, q5, q6⟩ := q
    exact ⟨q1, q2, q3, va_K.moved (u := U) (U := U.calling g mk a) (Vm.Alike.refl U.vm) q4, q5, q6.calling⟩
  · intro U hU hW
    exact ⟨rfl, by rw [hU]; exact hHs, by rw [hU]; exact hP, va_K.moved hW.alike X.2.2.2.2.2.2.2.2.1, ⟨hD.1, fun _ _ _ => trivial⟩, X.2.2.2.2.2.2.2.2.2.2.2.1.call hW (by rw [hU]; exact hS.1) (fun q h1 h2 => by rw [hU]; exact hS.2.1 q h1 h2) hsub⟩
  · have w := hv.2 hb p l e s m args below meth c D cy A M0 ba sp H1 locs1 ls X ⟨by omega, by omega⟩ hP2 hD2 hS2 hl
    rw [show mN M1 - mN M0 = mN M - mN M0 + (mN M1 - mN M) by omega, show mS M1 - mS M0 = mS M - mS M0 + (mS M1 - mS M) by omega] at w
    have e5 : (r1.toList ++ st).map (cv (adf ba sp)) = (r1.map (cv (adf ba sp))).toList ++ st.map (cv (adf ba sp)) := by cases r1 <;> rfl
    rw [e5] at w
    exact w
/-- a call on a String or cached Integer: the receiver's class is known beside the memory -/
theorem xt_callX {d2 : MD} {idx h2 n j : Nat} {as : List Value} {P : Option Value → Mem → Prop} (hd : decode d.2.1 pc = .ok (.invokevirtual idx, 3)) (hm : ml d idx 0 n d2) (hn : as.length = n) (hj : (j = 1 ∨ j = 2) ∧ d2.1.cls = "java/lang/String" ∨ (1000 ≤ j ∧ j < 1256) ∧ d2.1.cls = "java/lang/Integer") (hc : (st.map fun v => v.category).sum ≤ 8) (hh : h2 + 1 ≤ h) (hE : E h2 d2 (.ref (mBig + j) :: as) M P) (kk : ∀ r M1, P r M1 → mE M M1 → T h d (pc + 3) lv (r.toList ++ st) M1 Q) : T h d pc lv (as.reverse ++ .ref (mBig + j) :: st) M Q :=
  call_anyS hh hE kk (fun p l e R s m args below meth c D cy ba sp A H locs cells slots mc ms Pc Qc free ls hx hb1 hml hw hts hnw hK hP hS hZ hls hM hf hlo hbl hpre hcs => by
    have hrec : ∃ cell : Cell, H[sp j]? = some cell ∧ cell.vm.isStatics = false ∧ s.vm.findClass d2.1.cls = some cell.cls := by
      rcases hj with ⟨hj, hcl⟩ | ⟨hj, hcl⟩
      · rw [hcl]
        rcases hj with rfl | rfl
        · exact va_O_now (hZ.2.1.1 0 (by omega)).1 hS
        · exact va_O_now (hZ.2.1.1 1 (by omega)).1 hS
      · rw [hcl]
        obtain ⟨k, rfl⟩ : ∃ k, j = 1000 + k := ⟨j - 1000, by omega⟩
        exact va_O_now (hZ.2.2.2.2.2.1.2.2.2.1 k (by omega)) hS
    rw [cv_sp (st := as)] at hpre ⊢
    refine va_runV (C := d2.1.cls) (b := sp j) (As := as.map (cv (adf ba sp))) (n := n) ⟨hx, hb1, hml, hw, hts⟩ hM ⟨callB_of n hts (wsm_good hm.1) rfl rfl rfl (hts _ hm.2.2.2.1) (hts _ hm.2.2.2.2.1) hm.2.1 ⟨hf, by have := hm.2.2.1; show 8 + (d2.2.2.1 + 11) + 120 * h2 ≤ _; omega⟩, hts _ hm.2.2.2.2.2.1, hts _ hm.2.2.2.2.2.2⟩ ⟨hbl, hrec, hpre⟩ rfl (by rw [List.length_map]; exact hn) hls (by show (as.reverse ++ .ref (mBig + j) :: st).map (cv (adf ba sp)) = _; rw [List.map_append, List.map_reverse, cv_sp]) (lv_room (by rw [cat_sum]; exact hc)) hd hcs)
end SPR
